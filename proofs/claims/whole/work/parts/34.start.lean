/-! By program (wip/gen/k20.py): what holds at the law's entry, in the shape that the contracts want. -/
theorem sub_of_map {l t : List Cond} (is : List Nat) (h : is.map (fun i => l[i]?) = t.map some) : ∀ w ∈ t, w ∈ l := by
  intro w hw
  have h1 : some w ∈ t.map some := List.mem_map_of_mem hw
  rw [← h] at h1
  obtain ⟨i, -, e⟩ := List.mem_map.mp h1
  exact List.mem_of_getElem? e
set_option maxRecDepth 20000 in
theorem ts_0 : ∀ w ∈ TG_0, w ∈ lw_tbl := sub_of_map [60, 62, 64, 75, 96, 98, 100, 102, 125, 127, 129, 131, 138, 140, 168, 170, 172, 174, 176, 192, 194, 196, 198, 200, 202, 204, 206, 208, 210, 212, 224, 226, 228, 230, 232, 234, 236, 238, 240, 645, 647, 649, 651, 653, 655, 657, 659, 661, 663, 665, 667, 669, 671, 673, 675, 677, 679, 681, 683, 0] (by decide +kernel)
set_option maxRecDepth 20000 in
theorem ts_1 : ∀ w ∈ TG_1, w ∈ lw_tbl := sub_of_map [1, 2, 3, 4, 5, 6, 7, 8, 9, 10, 11, 12, 13, 14, 15, 16, 17, 18, 19, 20, 21, 22, 23, 24, 25, 26, 27, 28, 29, 30, 31, 32, 33, 34, 35, 36, 37, 38, 39, 40, 41, 42, 43, 44, 45, 46, 47, 48, 49, 50, 51, 52, 54, 55, 56, 57, 58, 59, 61, 63] (by decide +kernel)
set_option maxRecDepth 20000 in
theorem ts_2 : ∀ w ∈ TG_2, w ∈ lw_tbl := sub_of_map [65, 66, 67, 68, 69, 71, 72, 73, 74, 76, 77, 78, 80, 82, 83, 85, 86, 87, 88, 90, 92, 94, 97, 99, 101, 103, 104, 105, 106, 107, 108, 109, 110, 112, 114, 115, 116, 126, 128, 130, 132, 133, 134, 136, 139, 141, 142, 143, 144, 145, 146, 147, 148, 150, 152, 154, 155, 156, 157, 159] (by decide +kernel)
set_option maxRecDepth 20000 in
theorem ts_3 : ∀ w ∈ TG_3, w ∈ lw_tbl := sub_of_map [169, 171, 173, 175, 177, 178, 179, 180, 182, 183, 184, 185, 186, 187, 188, 189, 191, 193, 195, 197, 199, 201, 203, 205, 207, 209, 211, 213, 214, 215, 216, 217, 218, 219, 220, 221, 222, 223, 225, 227, 229, 231, 233, 235, 237, 239, 241, 242, 243, 244, 245, 246, 247, 248, 249, 250, 251, 252, 253, 254] (by decide +kernel)
set_option maxRecDepth 20000 in
theorem ts_4 : ∀ w ∈ TG_4, w ∈ lw_tbl := sub_of_map [255, 256, 257, 258, 259, 260, 261, 262, 263, 264, 265, 266, 267, 268, 269, 270, 271, 272, 273, 274, 275, 276, 277, 278, 279, 280, 281, 282, 284, 285, 286, 287, 288, 289, 290, 291, 292, 293, 294, 295, 297, 298, 299, 301, 302, 303, 304, 305, 306, 307, 308, 309, 310, 311, 312, 313, 314, 315, 316, 317] (by decide +kernel)
set_option maxRecDepth 20000 in
theorem ts_5 : ∀ w ∈ TG_5, w ∈ lw_tbl := sub_of_map [318, 319, 320, 321, 322, 323, 324, 325, 326, 327, 329, 330, 331, 332, 333, 334, 335, 336, 337, 338, 339, 340, 341, 342, 343, 344, 345, 353, 354, 355, 356, 357, 358, 359, 360, 361, 362, 363, 364, 365, 366, 367, 368, 369, 370, 372, 374, 375, 376, 377, 378, 379, 380, 382, 383, 384, 386, 387, 388, 389] (by decide +kernel)
set_option maxRecDepth 20000 in
theorem ts_6 : ∀ w ∈ TG_6, w ∈ lw_tbl := sub_of_map [390, 391, 392, 393, 394, 395, 396, 397, 398, 399, 400, 401, 402, 403, 404, 405, 406, 407, 408, 409, 410, 411, 412, 413, 414, 415, 416, 417, 419, 420, 421, 422, 423, 424, 426, 427, 428, 429, 430, 431, 432, 433, 434, 435, 436, 437, 438, 439, 440, 441, 442, 443, 444, 445, 446, 447, 449, 450, 451, 452] (by decide +kernel)
set_option maxRecDepth 20000 in
theorem ts_7 : ∀ w ∈ TG_7, w ∈ lw_tbl := sub_of_map [453, 454, 456, 457, 458, 459, 460, 461, 462, 463, 464, 465, 466, 467, 468, 469, 470, 471, 472, 474, 475, 476, 477, 478, 479, 480, 481, 482, 483, 484, 486, 488, 489, 490, 492, 493, 494, 495, 496, 497, 499, 500, 501, 502, 504, 505, 506, 507, 508, 509, 510, 511, 512, 513, 514, 515, 516, 518, 519, 520] (by decide +kernel)
set_option maxRecDepth 20000 in
theorem ts_8 : ∀ w ∈ TG_8, w ∈ lw_tbl := sub_of_map [522, 523, 525, 526, 527, 530, 531, 532, 533, 534, 535, 536, 537, 538, 539, 540, 541, 542, 543, 544, 545, 546, 547, 548, 549, 550, 551, 552, 554, 555, 556, 557, 558, 560, 561, 562, 563, 565, 566, 567, 568, 569, 570, 572, 573, 574, 576, 577, 578, 579, 580, 581, 582, 583, 584, 585, 586, 587, 588, 589] (by decide +kernel)
set_option maxRecDepth 20000 in
theorem ts_9 : ∀ w ∈ TG_9, w ∈ lw_tbl := sub_of_map [590, 591, 592, 593, 594, 595, 596, 597, 598, 599, 600, 602, 603, 604, 606, 607, 608, 610, 611, 612, 613, 614, 615, 616, 617, 618, 619, 620, 621, 622, 623, 624, 625, 626, 627, 628, 629, 630, 631, 632, 633, 634, 635, 636, 637, 638, 639, 640, 641, 642, 643, 644, 646, 648, 650, 652, 654, 656, 658, 660] (by decide +kernel)
set_option maxRecDepth 20000 in
theorem ts_10 : ∀ w ∈ TG_10, w ∈ lw_tbl := sub_of_map [662, 664, 666, 668, 670, 672, 674, 676, 678, 680, 682, 684, 685, 686, 687, 688, 689, 690, 691, 692, 693, 694, 695, 696, 697, 698, 699, 700, 701, 702, 703, 704, 705, 707, 708, 709, 711, 712, 713, 714, 715, 716, 717, 718, 719, 720, 721, 722, 723, 724, 725, 727, 728, 729, 730, 731, 732, 733, 734, 735] (by decide +kernel)
set_option maxRecDepth 20000 in
theorem ts_11 : ∀ w ∈ TG_11, w ∈ lw_tbl := sub_of_map [736, 737, 738, 739, 740, 741, 743, 744, 745, 747, 748, 749, 751, 752, 753, 754, 755, 756, 757, 758, 759, 760, 761, 763, 764, 765, 767, 768, 769, 770, 771, 772, 774, 775, 776, 777, 778, 779, 780, 781, 782, 783, 784, 785, 786, 787, 788, 789, 790, 791, 792, 793, 794, 795, 796, 797] (by decide +kernel)
theorem ts_all : ∀ w ∈ TG, w ∈ lw_tbl := List.forall_mem_append.mpr ⟨ts_0, List.forall_mem_append.mpr ⟨ts_1, List.forall_mem_append.mpr ⟨ts_2, List.forall_mem_append.mpr ⟨ts_3, List.forall_mem_append.mpr ⟨ts_4, List.forall_mem_append.mpr ⟨ts_5, List.forall_mem_append.mpr ⟨ts_6, List.forall_mem_append.mpr ⟨ts_7, List.forall_mem_append.mpr ⟨ts_8, List.forall_mem_append.mpr ⟨ts_9, List.forall_mem_append.mpr ⟨ts_10, ts_11⟩⟩⟩⟩⟩⟩⟩⟩⟩⟩⟩
set_option maxRecDepth 20000 in
theorem ts_nw : ∀ w ∈ NWs, w ∈ lw_tbl := sub_of_map [53, 70, 84, 89, 91, 93, 95, 113, 117, 118, 119, 120, 121, 122, 123, 124, 135, 137, 151, 153, 158, 160, 161, 162, 163, 164, 165, 166, 167, 181, 190, 328] (by decide +kernel)
theorem NWs_tab : NWs.all (fun w => w.onTables) = true := by decide +kernel
theorem ts_aoAction : Cond.arrayOver (.object "EntryTables$Action") ∈ lw_tbl := List.mem_of_getElem? (i := 79) (by decide +kernel)
theorem ts_aoDoing : Cond.arrayOver (.object "EntryTables$Doing") ∈ lw_tbl := List.mem_of_getElem? (i := 111) (by decide +kernel)
theorem ts_aoEntry : Cond.arrayOver (.object "EntryTables$Entry") ∈ lw_tbl := List.mem_of_getElem? (i := 149) (by decide +kernel)
theorem ts_aoTable : Cond.arrayOver (.object "EntryTables$Table") ∈ lw_tbl := List.mem_of_getElem? (i := 81) (by decide +kernel)
theorem ts_sr : ∀ w ∈ EXS.map (fun q => Cond.stringRef "EntryTables" q.1 q.2), w ∈ lw_tbl := sub_of_map [385, 425, 455, 473, 485, 498, 503, 524, 528, 529, 553] (by decide +kernel)
/-- places of the words on the JDK's classes -/
def JWi : List Nat := [3, 35, 36, 37, 38, 39, 40, 41, 42, 48, 49, 50, 56, 66, 73, 77, 87, 104, 109, 116, 133, 142, 147, 156, 178, 214, 242, 306, 307, 308, 338, 339, 344, 345, 346, 347, 348, 349, 350, 351, 352, 353, 354, 355, 356, 357, 358, 359, 360, 361, 362, 363, 364, 365, 366, 367, 368, 369, 370, 371, 372, 373, 374, 375, 376, 377, 378, 379, 380, 381, 382, 383, 384, 386, 387, 388, 389, 390, 391, 392, 393, 394, 395, 396, 397, 398, 399, 400, 401, 402, 403, 404, 405, 406, 407, 408, 409, 410, 416, 417, 418, 419, 420, 421, 422, 423, 424, 426, 427, 428, 429, 430, 431, 440, 446, 447, 448, 449, 450, 451, 452, 453, 454, 456, 457, 458, 459, 460, 461, 624, 685, 797]
def JW : List Cond := JWi.filterMap (fun i => lw_tbl[i]?)
theorem JW_in : ∀ w ∈ JW, w ∈ lw_tbl := by
  intro w hw
  obtain ⟨i, -, h⟩ := List.mem_filterMap.mp hw
  exact List.mem_of_getElem? h
def EXr1 : Cond := .isRef (.static "java/lang/Throwable" "UNASSIGNED_STACK" "[Ljava/lang/StackTraceElement;")
def EXr2 : Cond := .isRef (.static "java/lang/Throwable" "SUPPRESSED_SENTINEL" "Ljava/util/List;")
set_option maxRecDepth 20000 in
theorem own_in : EXL.all (fun q => (Bundle.ownAtoms "EntryTables" q.1 q.2 fp_up).all (fun a => JW.contains a || (a == EXr1 || a == EXr2))) = true := by decide +kernel
theorem ts_ls : Cond.laysStatic "java/lang/Throwable" "UNASSIGNED_STACK" "[Ljava/lang/StackTraceElement;" ∈ lw_tbl := List.mem_of_getElem? (i := 371) (by decide +kernel)
theorem st_Ex {b0 : Nat} {s : State} (hts : ∀ w ∈ lw_tbl, w.before #[Value.ref b0] s = true) (hgv : (Jvm.Cond.and given_1 narrow_1).before #[Value.ref b0] s = true) : fp_Ex s.heap.size s := by
  have hs := flat_of_before _ hgv
  refine ⟨fun c k i h1 h2 h3 => ?_, fun q hq a ha => ?_, fun q hq => ?_, fun q hq => ?_⟩
  · obtain ⟨c', k', i', f, a, cell, g1, g2, g3, g4, g5, g6, g7, g8, g9⟩ := Cond.laysStatic_spec (hts _ ts_ls)
    cases Option.some.inj (h1.symm.trans g1)
    cases Option.some.inj (h2.symm.trans (State.fieldFound?_spec g2).1)
    cases Option.some.inj (h3.symm.trans g4)
    exact (Array.getElem?_eq_some_iff.mp g5).1
  · have h1 := List.all_eq_true.mp (List.all_eq_true.mp own_in q hq) a ha
    have h0 : a.before #[Value.ref b0] s = true := by
      rcases (Bool.or_eq_true _ _).mp h1 with h1 | h1
      · exact hts _ (JW_in _ (List.contains_iff_mem.mp h1))
      · rcases (Bool.or_eq_true _ _).mp h1 with h1 | h1
        · rw [eq_of_beq h1]; exact hs _ (by decide +kernel)
        · rw [eq_of_beq h1]; exact hs _ (by decide +kernel)
    rcases fp_own_kinds q hq a ha with h2 | h2
    · exact va_tabs h2 rfl h0
    · rcases fp_st_or h2 with rfl | rfl | rfl | rfl <;> exact h0
  · exact hts _ (ts_sr _ (List.mem_map_of_mem hq))
  · simp only [EXN, List.mem_cons, List.not_mem_nil, or_false] at hq
    rcases hq with rfl | rfl | rfl | rfl | rfl | rfl <;> exact va_Nc.of (hs _ (by decide +kernel))
theorem st_N {b0 : Nat} {s : State} (hts : ∀ w ∈ lw_tbl, w.before #[Value.ref b0] s = true) : fp_N s := fun w hw => va_Nw.of (List.all_eq_true.mp NWs_tab w hw) (hts w (ts_nw w hw))
theorem st_AO {b0 : Nat} {s : State} (hts : ∀ w ∈ lw_tbl, w.before #[Value.ref b0] s = true) : fp_AO s := ⟨va_AO.of (hts _ ts_aoAction), va_AO.of (hts _ ts_aoDoing), va_AO.of (hts _ ts_aoEntry), va_AO.of (hts _ ts_aoTable)⟩
theorem st_prim {ty : FieldType} {b0 : Nat} {s : State} (h : (Cond.arrayClass ty).before #[Value.ref b0] s = true) : ∃ c : ClassId, ArrOfT s c ty ∧ s.vm.findClass ("[" ++ ty.toString) = some c := by
  obtain ⟨c, k, comp, h1, h2, h3⟩ := Cond.arrayClass_spec h
  exact ⟨c, fun N z => ⟨(fun k h => by cases h), k, h2, comp, h3⟩, h1⟩
theorem st_obj {C : String} {b0 : Nat} {s : State} (h : (Cond.arrayOver (.object C)).before #[Value.ref b0] s = true) : ∃ c : ClassId, ArrOfT s c (.object C) ∧ va_RA s c (.object C) := by
  obtain ⟨comp, c, k, h1, -, h2, h3, h4⟩ := Cond.arrayOver_spec h
  exact ⟨c, fun N z => ⟨(fun k h => by cases h), k, h2, comp, h3⟩, k, comp, h2, h3, h1, h4⟩
theorem st_K {b0 : Nat} {s : State} (hts : ∀ w ∈ lw_tbl, w.before #[Value.ref b0] s = true) : ∃ (D : va_G) (g : Nat → ClassId), va_K D CL (TY g) s := by
  obtain ⟨c0, i0, h0⟩ := u_known (C := R_A) (T := T_A) (N := 2) (n := 2) hts (fun w hw => ts_all w (in_A w hw)) (hts _ (ts_all _ w81))
  obtain ⟨c1, i1, h1⟩ := u_known (C := R_C) (T := T_C) (N := 1) (n := 1) hts (fun w hw => ts_all w (in_C w hw)) (hts _ (ts_all _ w45))
  obtain ⟨c2, i2, h2⟩ := u_known (C := R_D) (T := T_D) (N := 4) (n := 4) hts (fun w hw => ts_all w (in_D w hw)) (hts _ (ts_all _ w88))
  obtain ⟨c3, i3, h3⟩ := u_known (C := R_E) (T := T_E) (N := 5) (n := 5) hts (fun w hw => ts_all w (in_E w hw)) (hts _ (ts_all _ w128))
  obtain ⟨c4, i4, h4⟩ := u_known (C := R_F) (T := T_F) (N := 3) (n := 3) hts (fun w hw => ts_all w (in_F w hw)) (hts _ (ts_all _ w28))
  obtain ⟨c5, i5, h5⟩ := u_known (C := R_K) (T := T_K) (N := 4) (n := 4) hts (fun w hw => ts_all w (in_K w hw)) (hts _ (ts_all _ w59))
  obtain ⟨c6, i6, h6⟩ := u_known (C := R_T) (T := T_T) (N := 11) (n := 11) hts (fun w hw => ts_all w (in_T w hw)) (hts _ (ts_all _ w119))
  obtain ⟨c7, i7, h7⟩ := u_known (C := R_X) (T := T_X) (N := 9) (n := 9) hts (fun w hw => ts_all w (in_X w hw)) (hts _ (ts_all _ w20))
  obtain ⟨c8, i8, h8⟩ := u_known (C := R_M) (T := T_M) (N := 20) (n := 20) hts (fun w hw => ts_all w (in_M w hw)) (hts _ (ts_all _ w596))
  obtain ⟨g0, a0, r0⟩ := st_prim (hts _ (ts_all _ w43))
  obtain ⟨g1, a1, r1⟩ := st_obj (hts _ ts_aoAction)
  obtain ⟨g2, a2, r2⟩ := st_obj (hts _ ts_aoDoing)
  obtain ⟨g3, a3, r3⟩ := st_obj (hts _ ts_aoEntry)
  obtain ⟨g4, a4, r4⟩ := st_obj (hts _ ts_aoTable)
  obtain ⟨g5, a5, r5⟩ := st_prim (hts _ (ts_all _ w772))
  refine ⟨(fun k => match k with | 0 => c0 | 1 => c1 | 2 => c2 | 3 => c3 | 4 => c4 | 5 => c5 | 6 => c6 | 7 => c7 | _ => c8, fun k => match k with | 0 => i0 | 1 => i1 | 2 => i2 | 3 => i3 | 4 => i4 | 5 => i5 | 6 => i6 | 7 => i7 | _ => i8), fun k => match k with | 0 => g0 | 1 => g1 | 2 => g2 | 3 => g3 | 4 => g4 | _ => g5, ?_, ?_⟩
  · intro k q hq
    match k, hq with
    | 0, hq => cases hq; exact h0
    | 1, hq => cases hq; exact h1
    | 2, hq => cases hq; exact h2
    | 3, hq => cases hq; exact h3
    | 4, hq => cases hq; exact h4
    | 5, hq => cases hq; exact h5
    | 6, hq => cases hq; exact h6
    | 7, hq => cases hq; exact h7
    | 8, hq => cases hq; exact h8
    | k + 9, hq => simp [CL] at hq
  · intro k q hq
    match k, hq with
    | 0, hq => cases hq; exact ⟨a0, r0⟩
    | 1, hq => cases hq; exact ⟨a1, r1⟩
    | 2, hq => cases hq; exact ⟨a2, r2⟩
    | 3, hq => cases hq; exact ⟨a3, r3⟩
    | 4, hq => cases hq; exact ⟨a4, r4⟩
    | 5, hq => cases hq; exact ⟨a5, r5⟩
    | k + 6, hq => simp [TY] at hq
