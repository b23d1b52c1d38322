/-! The law: its loop, its start, the claim out of them (by wip/gen/k22.py; the rows of the skeleton, the launch's flags handed on). -/
def R_law : String := "EntryTablesLaw"
def lw_P (b : Addr) (xs : List Int32) (args : Array Value) (s : State) : Prop := args = #[.ref b] ∧ s.IntsAt b xs ∧ xs.length ≤ 3072 ∧ (Jvm.Cond.and given_1 narrow_1).before args s = true
def lw_Q (_ : Array Value) (s : State) (o : Outcome) (t : State) : Prop := o = .returned (some (.int 1)) ∧ Framed s o t [] 639796 7176715
def lw_Z (below : List Frame) (a : Array Value) (s : State) : State → Prop := fun t => ∃ o, t.status = .running ∧ Ended t below o ∧ lw_Q a s o t
/-- the law's own end, with 1 on the stack, nothing written that was there before, its room as the claim has it -/
theorem lw_ret {p : Program} {l : Launch} {e : Env} {s : State} {m : MethodId} {below : List Frame} {meth : Method} {c : Code} {b : Nat} (hx : p.tables.exec = Jvm.exec) (hb : c.code = code) (hr : meth.sig.returnType = ret) (hlocks : meth.locks = false) {pc : Nat} {H : Heap} {ls : Array Slot} (hdg : decode code pc = .ok (.ireturn, 1)) : W p l e room_1 s m #[Value.ref b] below meth c H [] 639796 7176715 (lw_Z below #[Value.ref b] s) (F0 m pc ls [.int 1]) := by
  intro T hT X
  obtain ⟨fs, hret, hrun, hended, hW, hframe⟩ := X.leave (v := some (.int 1)) (hlocks := hlocks) (fun h => by rw [hr] at h; cases h)
  have hmeth' : T.vm.method? m = some meth := X.method'
  refine ⟨T.setFrames fs, ?_, .returned (some (.int 1)), hrun, hended, rfl, ⟨_, rfl⟩, hW, hframe⟩
  jvm_step X.here [X.here.top, hx, hb, hdg, hmeth', hr, ret, narrow_b1]
  (try refine ⟨rfl, ?_⟩); (try refine ⟨rfl, ?_⟩)
  first | (intro acts; rw [hret _ acts rfl rfl rfl]) | rw [hret _ _ rfl rfl rfl]
  exact Steps.refl _
/-- what holds at the law's entry: the machine, the code, the tables' words (any of lw_tbl by 'hts w (by decide +kernel)'), the script of L ints xs at the cell b, what the Statement gives of the start (any of its parts by flat_of_before) -/
def lw_At (p : Program) (s : State) (m : MethodId) (meth : Method) (c : Code) (b L : Nat) (xs : Nat → Int32) : Prop :=
  p.tables.exec = Jvm.exec ∧ c.code = code ∧ meth.sig.returnType = ret ∧ c.maxLocals = 7 ∧ s.vm.findClass R_law = some m.cls ∧ (∀ w ∈ lw_tbl, w.before #[Value.ref b] s = true) ∧ va_X b L xs s s.heap ∧ b < s.heap.size ∧ meth.locks = false ∧ (Jvm.Cond.and given_1 narrow_1).before #[Value.ref b] s = true
set_option maxHeartbeats 4000000 in
set_option maxRecDepth 100000 in
/-- the law's loop: at its head, with i ints read -/
theorem law_loop {p : Program} {l : Launch} {e : Env} {s : State} {m : MethodId} {below : List Frame} {meth : Method} {c : Code} {D : va_G} {g : Nat → ClassId} {b sb L : Nat} {xs : Nat → Int32} (hfl : l.flags = flags0) (hr : meth.sig.returnType = ret) (hlocks : meth.locks = false) (X : fp_X p s m #[Value.ref sb] c b_L_law 7 "EntryTablesLaw" D (TY g)) (hbs : s.heap.size = b) (hEx : fp_Ex b s) (hS : va_X sb L xs s s.heap) (hbl : sb < s.heap.size) (hbA : ¬ fz_A b sb) (hL : L ≤ 3072) :
    ∀ (n i : Nat) (f : Nat → va_E) (ou : Nat → Int64) (th : Int32) (H : Heap) (locs : List Loc) (cells slots : Nat) (ls : Array Slot), i ≤ L → L + 1 ≤ i + 6 * n → q_J g b f th → f (b + 464) = aL g 1 ou → fp_H D b 465 (fz_A b) f s.heap H locs → lv_has ls 7 [(0, .ref sb), (1, .ref b), (2, .ref (b + 449)), (3, .ref (b + 464)), (4, .int (nI i))] → cells ≤ 465 + i → slots ≤ 4000 + 6 * i → W p l e room_1 s m #[Value.ref sb] below meth c H locs cells slots (lw_Z below #[Value.ref sb] s) (F0 m 23 ls []) := by
  have hx := X.1.1
  have hb := X.1.2.1
  intro n
  induction n with
  | zero =>
    intro i f ou th H locs cells slots ls h1 h2
    exact absurd h2 (by omega)
  | succ n ih =>
    intro i f ou th H locs cells slots ls hi hn hJ hou Y hl hc1 hc2
    refine lv_iload hx hb d_L_law_23 (lv_at hl 4 rfl) ?_
    refine lv_aload_n hx hb d_L_law_25 rfl (lv_at hl 0 rfl) ?_
    refine lc_len X Y hS hbl hbA d_L_law_26 ?_
    refine lv_bipush (v := 6) hx hb d_L_law_27 (by decide) ?_
    refine lv_isub hx hb d_L_law_29 ?_
    refine lv_icmp_gt (tgt := 907) hx hb d_L_law_30 (by decide) (fun c_30 => ?_) (fun c_30 => ?_)
    · refine lv_iconst (v := 1) hx hb d_L_law_907 (by decide) ?_
      refine va_forget (fun q hq => by rw [hbs]; exact Y.2.1.2.2 q hq) ?_
      refine W.widen (k := 639796) (n := 7176715) (by omega) (by omega) ?_
      exact lw_ret hx hb hr hlocks d_L_law_908
    · have hi6 : i + 6 ≤ L := lc_end hL hi c_30
      have K : ∀ (f' : Nat → va_E) (ou' : Nat → Int64) (th' : Int32) (H' : Heap) (locs' : List Loc) (cells' slots' : Nat) (ls' : Array Slot), q_J g b f' th' → f' (b + 464) = aL g 1 ou' → fp_H D b 465 (fz_A b) f' s.heap H' locs' → lv_has ls' 7 [(0, .ref sb), (1, .ref b), (2, .ref (b + 449)), (3, .ref (b + 464)), (4, .int (nI i))] → cells' ≤ cells + 1 → slots' ≤ slots + 6 → W p l e room_1 s m #[Value.ref sb] below meth c H' locs' cells' slots' (lw_Z below #[Value.ref sb] s) (F0 m 901 ls' []) := by
        intro f' ou' th' H' locs' cells' slots' ls' hJ' hou' Y' hl' h1 h2
        refine lv_iinc (v := nI (i + 6)) (lv' := [(4, .int (nI (i + 6))), (0, .ref sb), (1, .ref b), (2, .ref (b + 449)), (3, .ref (b + 464))]) hx hb d_L_law_901 hl' (k := 4) rfl (nI_add i 6) (by decide) rfl (fun ls hl => ?_)
        refine lv_goto (tgt := 23) hx hb d_L_law_904 (by decide) ?_
        exact ih (i + 6) f' ou' th' H' locs' cells' slots' ls (by omega) (by omega) hJ' hou' Y' (lv_sub hl [1, 2, 3, 4, 0] rfl) (by omega) (by omega)
      refine lv_aload_n hx hb d_L_law_33 rfl (lv_at hl 0 rfl) ?_
      refine lv_iload hx hb d_L_law_34 (lv_at hl 4 rfl) ?_
      refine lc_ld (k := i) X Y hS hbl hbA hL rfl (by omega) d_L_law_36 ?_
      refine lv_bipush (v := 15) hx hb d_L_law_37 (by decide) ?_
      refine lv_iand hx hb d_L_law_39 ?_
      obtain ⟨k9, hk9, ek9⟩ := lc_and15 (xs i)
      rw [ek9]
      rcases (show k9 = 0 ∨ k9 = 1 ∨ k9 = 2 ∨ k9 = 3 ∨ k9 = 4 ∨ k9 = 5 ∨ k9 = 6 ∨ k9 = 7 ∨ k9 = 8 ∨ k9 = 9 ∨ k9 = 10 ∨ k9 = 11 ∨ k9 = 12 ∨ k9 = 13 ∨ k9 = 14 ∨ k9 = 15 by omega) with rfl | rfl | rfl | rfl | rfl | rfl | rfl | rfl | rfl | rfl | rfl | rfl | rfl | rfl | rfl | rfl
      · refine lv_tableIn (tgt := 120) (off := 80) hx hb d_L_law_40 (by decide) (by decide) (by decide) (by decide) ?_
        exact L_clear hfl X hEx hS hbl hbA hL hi6 hJ hou Y hl (by omega) (by omega) K
      · refine lv_tableIn (tgt := 131) (off := 91) hx hb d_L_law_40 (by decide) (by decide) (by decide) (by decide) ?_
        exact L_field hfl X hEx hS hbl hbA hL hi6 hJ hou Y hl (by omega) (by omega) K
      · refine lv_tableIn (tgt := 187) (off := 147) hx hb d_L_law_40 (by decide) (by decide) (by decide) (by decide) ?_
        exact L_set hfl X hEx hS hbl hbA hL hi6 hJ hou Y hl (by omega) (by omega) K
      · refine lv_tableIn (tgt := 235) (off := 195) hx hb d_L_law_40 (by decide) (by decide) (by decide) (by decide) ?_
        exact L_get hfl X hEx hS hbl hbA hL hi6 hJ hou Y hl (by omega) (by omega) K
      · refine lv_tableIn (tgt := 260) (off := 220) hx hb d_L_law_40 (by decide) (by decide) (by decide) (by decide) ?_
        exact L_action hfl X hEx hS hbl hbA hL hi6 hJ hou Y hl (by omega) (by omega) K
      · refine lv_tableIn (tgt := 304) (off := 264) hx hb d_L_law_40 (by decide) (by decide) (by decide) (by decide) ?_
        exact L_doing hfl X hEx hS hbl hbA hL hi6 hJ hou Y hl (by omega) (by omega) K
      · refine lv_tableIn (tgt := 388) (off := 348) hx hb d_L_law_40 (by decide) (by decide) (by decide) (by decide) ?_
        exact L_table hfl X hEx hS hbl hbA hL hi6 hJ hou Y hl (by omega) (by omega) K
      · refine lv_tableIn (tgt := 492) (off := 452) hx hb d_L_law_40 (by decide) (by decide) (by decide) (by decide) ?_
        exact L_key hfl X hEx hS hbl hbA hL hi6 hJ hou Y hl (by omega) (by omega) K
      · refine lv_tableIn (tgt := 551) (off := 511) hx hb d_L_law_40 (by decide) (by decide) (by decide) (by decide) ?_
        exact L_insert hfl X hEx hS hbl hbA hL hi6 hJ hou Y hl (by omega) (by omega) K
      · refine lv_tableIn (tgt := 662) (off := 622) hx hb d_L_law_40 (by decide) (by decide) (by decide) (by decide) ?_
        exact L_remove hfl X hEx hS hbl hbA hL hi6 hJ hou Y hl (by omega) (by omega) K
      · refine lv_tableIn (tgt := 725) (off := 685) hx hb d_L_law_40 (by decide) (by decide) (by decide) (by decide) ?_
        exact L_act hfl X hEx hS hbl hbA hL hi6 hJ hou Y hl (by omega) (by omega) K
      · refine lv_tableIn (tgt := 788) (off := 748) hx hb d_L_law_40 (by decide) (by decide) (by decide) (by decide) ?_
        exact L_matches hfl X hEx hS hbl hbA hL hi6 hJ hou Y hl (by omega) (by omega) K
      · refine lv_tableIn (tgt := 813) (off := 773) hx hb d_L_law_40 (by decide) (by decide) (by decide) (by decide) ?_
        exact L_port hfl X hEx hS hbl hbA hL hi6 hJ hou Y hl (by omega) (by omega) K
      · refine lv_tableIn (tgt := 826) (off := 786) hx hb d_L_law_40 (by decide) (by decide) (by decide) (by decide) ?_
        exact L_isDropped hfl X hEx hS hbl hbA hL hi6 hJ hou Y hl (by omega) (by omega) K
      · refine lv_tableIn (tgt := 839) (off := 799) hx hb d_L_law_40 (by decide) (by decide) (by decide) (by decide) ?_
        exact L_word hfl X hEx hS hbl hbA hL hi6 hJ hou Y hl (by omega) (by omega) K
      · refine lv_tableIn (tgt := 876) (off := 836) hx hb d_L_law_40 (by decide) (by decide) (by decide) (by decide) ?_
        exact L_entries hfl X hEx hS hbl hbA hL hi6 hJ hou Y hl (by omega) (by omega) K
set_option maxHeartbeats 4000000 in
set_option maxRecDepth 100000 in
theorem law_start {p : Program} {e : Env} {s : State} {m : MethodId} {below : List Frame} {meth : Method} {c : Code} (l : Launch) (hfl : l.flags = flags0) {sb b L : Nat} {xs : Nat → Int32} {D : va_G} {g : Nat → ClassId} (hL : L ≤ 3072) (hr : meth.sig.returnType = ret) (hlocks : meth.locks = false) (X : fp_X p s m #[Value.ref sb] c b_L_law 7 "EntryTablesLaw" D (TY g)) (hO : fp_AO s) (hbs : s.heap.size = b) (hEx : fp_Ex b s) (hS : va_X sb L xs s s.heap) (hbl : sb < s.heap.size) (hbA : ¬ fz_A b sb) {ls : Array Slot} (hl : lv_has ls 7 [(0, .ref sb)]) : W p l e room_1 s m #[Value.ref sb] below meth c s.heap [] 0 0 (lw_Z below #[Value.ref sb] s) (F0 m 0 ls []) := by
  have hx := X.1.1
  have hb := X.1.2.1
  obtain ⟨f, -⟩ : ∃ f : Nat → va_E, True := ⟨fun _ => .inr (0, []), trivial⟩
  have Y : fp_H D b 0 (fz_A b) f s.heap s.heap [] := ⟨fun a h1 h2 => absurd h2 (by omega), va_S.rf, by omega⟩
  refine fz_new (ci := 7) (fs := [.null, .null, .null, .int 0, .null, .int 0, .null, .int 0, .int 0]) X Y (by omega) rfl in_X to_X w19 w20 w1 (fun j hj => match j, hj with | 0, _ => rfl | 1, _ => rfl | 2, _ => rfl | 3, _ => rfl | 4, _ => rfl | 5, _ => rfl | 6, _ => rfl | 7, _ => rfl | 8, _ => rfl | (j + 9), h => absurd h (by omega)) ⟨(by show _ ≤ 639796; omega), (by show _ ≤ 7176715; omega)⟩ d_L_law_0 (fun H Y => ?_)
  have oa : fp_o b 1 (va_up f b (ob 7 [.null, .null, .null, .int 0, .null, .int 0, .null, .int 0, .int 0])) b (ob 7 [.null, .null, .null, .int 0, .null, .int 0, .null, .int 0, .int 0]) := ⟨by omega, by omega, va_up_self _ _ _⟩
  have Y : fp_H D b 1 (fz_A b) (va_up f b (ob 7 [.null, .null, .null, .int 0, .null, .int 0, .null, .int 0, .int 0])) s.heap H [] := Y
  generalize (va_up f b (ob 7 [.null, .null, .null, .int 0, .null, .int 0, .null, .int 0, .int 0])) = f1 at Y oa
  refine fz_cs (cells' := 1) (slots' := 9) (by omega) (by omega) ?_
  refine W.eq (g2 := F0 m 3 ls [.ref b]) rfl ?_
  refine lv_dup hx hb d_L_law_3 rfl ?_
  refine fz_callI X hO Y (by omega) (c_X_init oa) w23 w21 w22 w1 (by decide +kernel) (by decide) ⟨rfl, rfl⟩ ⟨Nat.le_of_ble_eq_true rfl, Nat.le_of_ble_eq_true rfl⟩ hl.1 (Nat.le_of_ble_eq_true rfl) d_L_law_4 ⟨(by show _ ≤ 639796; omega), (by show _ ≤ 7176715; omega)⟩ (fun fa H locs hpX Y => ?_)
  have Y : fp_H D b 449 (fz_A b) fa s.heap H locs := Y
  refine fz_cs (cells' := 449) (slots' := 2209) (by omega) (by omega) ?_
  refine lv_astore_n (lv' := [(1, .ref b), (0, .ref sb)]) hx hb d_L_law_7 rfl hl (by decide) rfl (fun ls hl => ?_)
  refine fz_new (ci := 8) (fs := [.int 0, .int 0, .null, .null, .int 0, .null, .null, .null, .int 0, .null, .null, .null, .null, .null, .null, .null, .null, .null, .int 0, .int 0]) X Y (by omega) rfl in_M to_M w595 w596 w9 (fun j hj => match j, hj with | 0, _ => rfl | 1, _ => rfl | 2, _ => rfl | 3, _ => rfl | 4, _ => rfl | 5, _ => rfl | 6, _ => rfl | 7, _ => rfl | 8, _ => rfl | 9, _ => rfl | 10, _ => rfl | 11, _ => rfl | 12, _ => rfl | 13, _ => rfl | 14, _ => rfl | 15, _ => rfl | 16, _ => rfl | 17, _ => rfl | 18, _ => rfl | 19, _ => rfl | (j + 20), h => absurd h (by omega)) ⟨(by show _ ≤ 639796; omega), (by show _ ≤ 7176715; omega)⟩ d_L_law_8 (fun H Y => ?_)
  have om : fp_o b 450 (va_up fa (b + 449) (ob 8 [.int 0, .int 0, .null, .null, .int 0, .null, .null, .null, .int 0, .null, .null, .null, .null, .null, .null, .null, .null, .null, .int 0, .int 0])) (b + 449) (ob 8 [.int 0, .int 0, .null, .null, .int 0, .null, .null, .null, .int 0, .null, .null, .null, .null, .null, .null, .null, .null, .null, .int 0, .int 0]) := ⟨by omega, by omega, va_up_self _ _ _⟩
  have hk1 : ∀ q : Nat, q < b + 449 → (va_up fa (b + 449) (ob 8 [.int 0, .int 0, .null, .null, .int 0, .null, .null, .null, .int 0, .null, .null, .null, .null, .null, .null, .null, .null, .null, .int 0, .int 0])) q = fa q := fun q h => va_up_ne _ _ (by omega)
  have Y : fp_H D b 450 (fz_A b) (va_up fa (b + 449) (ob 8 [.int 0, .int 0, .null, .null, .int 0, .null, .null, .null, .int 0, .null, .null, .null, .null, .null, .null, .null, .null, .null, .int 0, .int 0])) s.heap H locs := Y
  generalize (va_up fa (b + 449) (ob 8 [.int 0, .int 0, .null, .null, .int 0, .null, .null, .null, .int 0, .null, .null, .null, .null, .null, .null, .null, .null, .null, .int 0, .int 0])) = fb at Y om hk1
  refine fz_cs (cells' := 450) (slots' := 2229) (by omega) (by omega) ?_
  refine lv_dup hx hb d_L_law_11 rfl ?_
  refine fz_callI X hO Y (by omega) (c_M_init om) w599 w597 w598 w9 (by decide +kernel) (by decide) ⟨rfl, rfl⟩ ⟨Nat.le_of_ble_eq_true rfl, Nat.le_of_ble_eq_true rfl⟩ hl.1 (Nat.le_of_ble_eq_true rfl) d_L_law_12 ⟨(by show _ ≤ 639796; omega), (by show _ ≤ 7176715; omega)⟩ (fun fc H locs hpM Y => ?_)
  have Y : fp_H D b 464 (fz_A b) fc s.heap H locs := Y
  refine fz_cs (cells' := 464) (slots' := 3937) (by omega) (by omega) ?_
  refine lv_astore_n (lv' := [(2, .ref (b + 449)), (1, .ref b), (0, .ref sb)]) hx hb d_L_law_15 rfl hl (by decide) rfl (fun ls hl => ?_)
  refine lv_iconst (v := 1) hx hb d_L_law_16 (by decide) ?_
  refine fz_newL (N := 1) X Y (by omega) w772 rfl (by decide) ⟨(by show _ ≤ 639796; omega), (by show _ ≤ 7176715; omega)⟩ d_L_law_17 (fun H Y => ?_)
  have hou : (va_up fc (b + 464) (aL g 1 (fun _ => 0))) (b + 464) = aL g 1 (fun _ => 0) := va_up_self _ _ _
  have hk2 : ∀ q : Nat, q < b + 464 → (va_up fc (b + 464) (aL g 1 (fun _ => 0))) q = fc q := fun q h => va_up_ne _ _ (by omega)
  have Y : fp_H D b 465 (fz_A b) (va_up fc (b + 464) (aL g 1 (fun _ => 0))) s.heap H locs := Y
  generalize (va_up fc (b + 464) (aL g 1 (fun _ => 0))) = fd at Y hou hk2
  have hJ := J_start hpX hk1 hpM hk2
  refine fz_cs (cells' := 465) (slots' := 3938) (by omega) (by omega) ?_
  refine lv_astore_n (lv' := [(3, .ref (b + 464)), (2, .ref (b + 449)), (1, .ref b), (0, .ref sb)]) hx hb d_L_law_19 rfl hl (by decide) rfl (fun ls hl => ?_)
  refine lv_iconst (v := 0) hx hb d_L_law_20 (by decide) ?_
  refine lv_istore (lv' := [(4, .int 0), (3, .ref (b + 464)), (2, .ref (b + 449)), (1, .ref b), (0, .ref sb)]) hx hb d_L_law_21 hl (by decide) rfl (fun ls hl => ?_)
  have hl : lv_has ls 7 [(4, .int (nI 0)), (3, .ref (b + 464)), (2, .ref (b + 449)), (1, .ref b), (0, .ref sb)] := by rw [nI_0]; exact hl
  exact law_loop hfl hr hlocks X hbs hEx hS hbl hbA hL (L + 1) 0 fd _ 0 H locs 465 3938 ls (by omega) (by omega) hJ hou Y (lv_sub hl [4, 3, 2, 1, 0] rfl) (by omega) (by omega)
/-- from the entry, for every script of at most 3072 ints, the law comes to its end with true -/
theorem whole_start {p : Program} {e : Env} {s : State} {m : MethodId} {below : List Frame} {meth : Method} {c : Code} (l : Launch) (hfl : l.flags = flags0) {b L : Nat} {xs : Nat → Int32} (hL : L ≤ 3072) (C0 : lw_At p s m meth c b L xs) : W p l e room_1 s m #[Value.ref b] below meth c s.heap [] 0 0 (lw_Z below #[Value.ref b] s) (entryFrame m ([Value.ref b] : List Value).toArray 7) := by
  obtain ⟨hx, hb, hr, hml, hown, hts, hX, hbl, hlocks, hgv⟩ := C0
  obtain ⟨D, g, hK⟩ := st_K hts
  have X : fp_X p s m #[Value.ref b] c b_L_law 7 "EntryTablesLaw" D (TY g) := ⟨⟨hx, hb, hml, hown, fun w hw => hts w (ts_all w hw)⟩, hK, st_N hts⟩
  have hl := lv_entry ([.ref b]) (n := 7) (Nat.le_of_ble_eq_true rfl)
  rw [lg_entry_eq]
  generalize (lg_sl ([.ref b]) ++ List.replicate (7 - (lg_sl ([.ref b])).length) Slot.unset).toArray = ls at hl ⊢
  have hl : lv_has ls 7 [(0, .ref b)] := hl
  exact law_start l hfl hL hr hlocks X (st_AO hts) rfl (st_Ex hts hgv) hX hbl (Nat.not_le.mpr hbl) hl
set_option maxHeartbeats 4000000 in
theorem lw_walk (l : Launch) (hfl : l.flags = flags0) (b : Addr) (xs : List Int32) : MetFree l x (headSpec (Jvm.Cond.code x code maxLocals ret :: tables_1) room_1) (lw_P b xs) (fun _ _ _ _ _ => True) lw_Q := by
  refine MetFree.of_bodyS (code := code) (maxLocals := maxLocals) (ret := ret) (by decide) ?_ ?_
  · intro args s m h hn
    obtain ⟨meth, c, h1, h2, h3, h4, h5, h6, -, -⟩ := Cond.code_spec hn (atoms_spec (ws := Jvm.Cond.code x code maxLocals ret :: tables_1) h _ List.mem_cons_self)
    exact ⟨meth, c, h1, h2, h3, h4, h5, h6⟩
  · intro p e s m args below meth c s₁ B hml0 hP _
    obtain ⟨rfl, hx, hbd, hgv⟩ := hP
    obtain ⟨scr, harrAt, hlist, hof, hsmall⟩ := hx
    obtain ⟨hcb, hkn, -, -⟩ := State.arrayAt?_spec harrAt
    have hown : s.vm.findClass R_law = some m.cls := findClass_of_methodNamed B.named
    have hts0 : ∀ c ∈ (Jvm.Cond.code x code maxLocals ret :: tables_1), c.before #[Value.ref b] s = true := atoms_spec (ws := Jvm.Cond.code x code maxLocals ret :: tables_1) B.pre
    have hts : ∀ w ∈ lw_tbl, w.before #[Value.ref b] s = true := k2_hts_sels lw_privs (fun w hw => hts0 w (List.mem_cons_of_mem _ hw)) lw_privs_ok
    have hml : c.maxLocals = 7 := B.maxLocals_eq (hts0 _ List.mem_cons_self)
    have X₀ : Stand p l e room_1 s m #[Value.ref b] below meth c s₁ [] 0 0 := Stand.of_body B
    have hh0 : s₁.heap = s.heap := by rw [B.state]; rfl
    have hsz : scr.slots.size = xs.length := by rw [← Array.length_toList, hlist, List.length_map]
    have hval : ∀ j : Nat, j < xs.length → scr.slots[j]? = some (.int (xs.getD j 0)) := fun j hj => by
      rw [← Array.getElem?_toList, hlist]
      simp [hj]
    have hbl : b < s.heap.size := (Array.getElem?_eq_some_iff.mp hcb).1
    have hX : va_X b xs.length (fun j => xs.getD j 0) s s.heap := ⟨scr, hcb, hof, hkn, hsz, hval⟩
    have K : W p l e room_1 s m #[Value.ref b] below meth c s₁.heap [] 0 0 (lw_Z below #[Value.ref b] s) (entryFrame m ([Value.ref b] : List Value).toArray 7) := by
      rw [hh0]
      exact whole_start l hfl hbd ⟨B.exec, B.bytes, B.returns, hml, hown, hts, hX, hbl, B.notSynchronized, hgv⟩
    obtain ⟨t, a1, o, b1, b2, b3⟩ := K s₁ rfl X₀
    exact ⟨t, o, a1, b1, b2, b3⟩
theorem lw_pre_spec {args : Array Value} {s : State} (h : (Jvm.Cond.and given_1 narrow_1).before args s = true) (hr : rest_1_c.before args s = true) : ∃ (b : Addr) (xs : List Int32), lw_P b xs args s := by
  have hs := flat_of_before _ h
  have hq := flat_of_before _ hr
  have hc : (Cond.count 1).before args s = true := hs _ (by decide +kernel)
  have harr : (Cond.arrayOf (.arg 0) .int).before args s = true := hs _ (by decide +kernel)
  have hle : (Cond.le (.length (.arg 0)) (.int 3072)).before args s = true := hs _ (by decide +kernel)
  have hlen : (Cond.isInt (.length (.arg 0))).before args s = true := hq _ (by decide +kernel)
  have hall : (Cond.all (.arg 0) (.isInt (.elem (.arg 0) (.index 0)))).before args s = true := hq _ (by decide +kernel)
  obtain ⟨b, xs, hb, hx⟩ := State.ints_of_pre rfl harr hlen hall
  have hsm : xs.length < 2 ^ 31 := hx.choose_spec.2.2.2
  have hev : (Term.length (.arg 0)).eval args s none [] s = some (.int xs.length.toInt32) := hx.length_eval hb
  have hv := Cond.le_ints hev (show (Term.int 3072).eval args s none [] s = some (.int 3072) from rfl)
  have hd : xs.length.toInt32 ≤ 3072 := by
    simpa [Cond.before, Cond.holds, hv] using hle
  have hN : xs.length ≤ 3072 := (Int32.ofNat_le_ofNat hsm (by decide)).mp (show Int32.ofNat xs.length ≤ Int32.ofNat 3072 from hd)
  exact ⟨b, xs, Cond.one_arg hc (show args[0]? = some (.ref b) from hb), hx, hN, h⟩
theorem lw_comes (l : Launch) (hfl : l.flags = flags0) : Comes l x (Jvm.Cond.code x code maxLocals ret :: tables_1) room_1 (fun tb e args s => Calls_1 tb e args s ∧ rest_1 tb e args s ∧ Pre_1 tb e args s)
    (fun _ _ args s o t => lw_Q args s o t) := by
  intro p e ha hc hk s m args below hf hfit hheap happ hpre
  obtain ⟨b, xs, hP⟩ := lw_pre_spec hpre.2.2 hpre.2.1
  obtain ⟨k, o, h1, h2, h3, hQ⟩ := lw_walk l hfl b xs p e ha hc hk s m args below hf ((Spec.applies_iff_loose hf).mp happ).1 hP trivial
  exact ⟨k, o, h1, h2, h3, hQ⟩
theorem lw_frame {s t : State} {o : Outcome} {args : Array Value} (h : Framed s o t [] 639796 7176715) :
    Framed s o t (fieldLocs frame_1_writes args s ++ arrayLocs frame_1_arrays args s ++ staticLocs frame_1_statics s) 639796 7176715 := h
theorem lw_limb (L : Cond) (hL : ∀ (args : Array Value) (s t : State), L.after args s (.returned (some (.int 1))) t = true) :
    ArmFor flags0 classFile x code maxLocals ret World_1 tables_1 room_1 Calls_1 rest_1 Pre_1
      (fun tb e a s o t => postC L tb e a s o t ∧ Framed s o t (fieldLocs frame_1_writes a s ++ arrayLocs frame_1_arrays a s ++ staticLocs frame_1_statics s) 639796 7176715) := by
  intro l hfl _ _ p e ha hc hk s m args below hf hfit hheap happ hpre
  obtain ⟨k, o, h1, h2, h3, rfl, hF⟩ := lw_comes l hfl p e ha hc hk s m args below hf hfit hheap happ hpre
  exact ⟨k, _, h1, h2, h3, hL args s _, lw_frame hF⟩
theorem i_vc : Claimed_1_1 ∧ Claimed_1_2 := ⟨lw_limb limb_1_1 (fun args s t => by simp [limb_1_1, Cond.after, Cond.holds, Cond.value]), lw_limb limb_1_2 (fun args s t => Cond.after_iff.mpr (by
  first | (rw [show limb_1_2 = Cond.eq .result (.int 1) from rfl, Cond.eq_ints (x := 1) (y := 1) rfl rfl]; simp; done) | (simp [limb_1_2, Cond.value, Term.eval]; done)))⟩
