/-! The roads of the law's loop: each call on the object and on the reference, the comparison, the end at 901 (by wip/gen/k21.py). -/
set_option maxHeartbeats 4000000 in
set_option maxRecDepth 100000 in
theorem L_clear {p : Program} {l : Launch} {e : Env} {s : State} {m : MethodId} {args : Array Value} {below : List Frame} {meth : Method} {c : Code} {Q : State → Prop} {H : Heap} {locs : List Loc} {cells slots : Nat} {ls : Array Slot} {D : va_G} {g : Nat → ClassId} {b sb L i : Nat} {xs : Nat → Int32} {f : Nat → va_E} {ou : Nat → Int64} {th : Int32} (hfl : l.flags = flags0) (X : fp_X p s m args c b_L_law 7 "EntryTablesLaw" D (TY g)) (hEx : fp_Ex b s) (hS : va_X sb L xs s s.heap) (hbl : sb < s.heap.size) (hbA : ¬ fz_A b sb) (hL : L ≤ 3072) (hi : i + 6 ≤ L) (hJ : q_J g b f th) (hou : f (b + 464) = aL g 1 ou) (Y : fp_H D b 465 (fz_A b) f s.heap H locs) (hl : lv_has ls 7 [(0, .ref sb), (1, .ref b), (2, .ref (b + 449)), (3, .ref (b + 464)), (4, .int (nI i))]) (hc1 : cells + 1 ≤ 639796) (hc2 : slots + 6 ≤ 7176715)
    (kk : ∀ (f' : Nat → va_E) (ou' : Nat → Int64) (th' : Int32) (H' : Heap) (locs' : List Loc) (cells' slots' : Nat) (ls' : Array Slot), q_J g b f' th' → f' (b + 464) = aL g 1 ou' → fp_H D b 465 (fz_A b) f' s.heap H' locs' → lv_has ls' 7 [(0, .ref sb), (1, .ref b), (2, .ref (b + 449)), (3, .ref (b + 464)), (4, .int (nI i))] → cells' ≤ cells + 1 → slots' ≤ slots + 6 → W p l e room_1 s m args below meth c H' locs' cells' slots' Q (F0 m 901 ls' [])) : W p l e room_1 s m args below meth c H locs cells slots Q (F0 m 120 ls []) := by
  obtain ⟨f1, f2, rm1, rm2, ⟨k1, k2, k3, k4⟩, ⟨k5, k6, k7, k8⟩, hM1, hM2, ⟨vs1, hvs1⟩, hJ2, ho2⟩ := J_clear (l := l) (D := D)  hJ
  obtain ⟨xa, xb, xc, xd, hxo⟩ := hJ.x
  have ox : fp_o b 465 f b (ob 7 [.ref (b + 1), .ref (b + 4), .ref (b + 6), .int xa, .ref (b + 7), .int xb, .ref (b + 8), .int xc, .int xd]) := ⟨Nat.le_refl b, by omega, hxo⟩
  have om1 : fp_o b 465 f1 (b + 449) (ob 8 vs1) := ⟨by omega, by omega, hvs1⟩
  obtain ⟨vs2, hvs2⟩ := hJ2.m
  have om2 : fp_o b 465 f2 (b + 449) (ob 8 vs2) := ⟨by omega, by omega, hvs2⟩
  have hx := X.1.1
  have hb := X.1.2.1
  refine lv_aload_n hx hb d_L_law_120 rfl (lv_at hl 1 rfl) ?_
  refine fp_callV (nA := 0) (As := []) (rest := []) X Y hM1 ox rfl w222 w219 w220 w221 w1 (by decide +kernel) ⟨k1, k2⟩ ⟨(by show _ ≤ 10; omega), (by show _ ≤ 358; omega)⟩ rfl hl.1 rfl (Nat.le_of_ble_eq_true rfl) d_L_law_121 ⟨(by show _ ≤ 639796; omega), (by show _ ≤ 7176715; omega)⟩ (fun v9 f9 H locs hp9 Y => ?_)
  obtain ⟨e8, e9⟩ := hp9
  subst e8
  rw [e9] at Y
  refine W.eq (g2 := F0 m 124 ls []) rfl ?_
  refine lv_aload_n hx hb d_L_law_124 rfl (lv_at hl 2 rfl) ?_
  refine fp_callV (nA := 0) (As := []) (rest := []) X Y hM2 om1 rfl w669 w666 w667 w668 w9 (by decide +kernel) ⟨k5, k6⟩ ⟨(by show _ ≤ 10; omega), (by show _ ≤ 358; omega)⟩ rfl hl.1 rfl (Nat.le_of_ble_eq_true rfl) d_L_law_125 ⟨(by show _ ≤ 639796; omega), (by show _ ≤ 7176715; omega)⟩ (fun v9 f9 H locs hp9 Y => ?_)
  obtain ⟨e8, e9⟩ := hp9
  subst e8
  rw [e9] at Y
  refine W.eq (g2 := F0 m 128 ls []) rfl ?_
  refine lv_goto (tgt := 901) hx hb d_L_law_128 (by decide) ?_
  exact kk f2 ou 0 H locs _ _ ls hJ2 (ho2.trans hou) Y (lv_sub hl [0, 1, 2, 3, 4] rfl) (by omega) (by omega)
set_option maxHeartbeats 4000000 in
set_option maxRecDepth 100000 in
theorem L_field {p : Program} {l : Launch} {e : Env} {s : State} {m : MethodId} {args : Array Value} {below : List Frame} {meth : Method} {c : Code} {Q : State → Prop} {H : Heap} {locs : List Loc} {cells slots : Nat} {ls : Array Slot} {D : va_G} {g : Nat → ClassId} {b sb L i : Nat} {xs : Nat → Int32} {f : Nat → va_E} {ou : Nat → Int64} {th : Int32} (hfl : l.flags = flags0) (X : fp_X p s m args c b_L_law 7 "EntryTablesLaw" D (TY g)) (hEx : fp_Ex b s) (hS : va_X sb L xs s s.heap) (hbl : sb < s.heap.size) (hbA : ¬ fz_A b sb) (hL : L ≤ 3072) (hi : i + 6 ≤ L) (hJ : q_J g b f th) (hou : f (b + 464) = aL g 1 ou) (Y : fp_H D b 465 (fz_A b) f s.heap H locs) (hl : lv_has ls 7 [(0, .ref sb), (1, .ref b), (2, .ref (b + 449)), (3, .ref (b + 464)), (4, .int (nI i))]) (hc1 : cells + 1 ≤ 639796) (hc2 : slots + 6 ≤ 7176715)
    (kk : ∀ (f' : Nat → va_E) (ou' : Nat → Int64) (th' : Int32) (H' : Heap) (locs' : List Loc) (cells' slots' : Nat) (ls' : Array Slot), q_J g b f' th' → f' (b + 464) = aL g 1 ou' → fp_H D b 465 (fz_A b) f' s.heap H' locs' → lv_has ls' 7 [(0, .ref sb), (1, .ref b), (2, .ref (b + 449)), (3, .ref (b + 464)), (4, .int (nI i))] → cells' ≤ cells + 1 → slots' ≤ slots + 6 → W p l e room_1 s m args below meth c H' locs' cells' slots' Q (F0 m 901 ls' [])) : W p l e room_1 s m args below meth c H locs cells slots Q (F0 m 131 ls []) := by
  obtain ⟨c9, r9, ou2, f1, f2, rm2, ⟨k5, k6, k7, k8⟩, hM1, hM2, ⟨vs1, hvs1⟩, hJ2, ho2, hw9⟩ := J_field (l := l) (D := D) (xs (i + 1)) hfl hou hJ
  obtain ⟨xa, xb, xc, xd, hxo⟩ := hJ.x
  have ox : fp_o b 465 f b (ob 7 [.ref (b + 1), .ref (b + 4), .ref (b + 6), .int xa, .ref (b + 7), .int xb, .ref (b + 8), .int xc, .int xd]) := ⟨Nat.le_refl b, by omega, hxo⟩
  have om1 : fp_o b 465 f1 (b + 449) (ob 8 vs1) := ⟨by omega, by omega, hvs1⟩
  obtain ⟨vs2, hvs2⟩ := hJ2.m
  have om2 : fp_o b 465 f2 (b + 449) (ob 8 vs2) := ⟨by omega, by omega, hvs2⟩
  have hx := X.1.1
  have hb := X.1.2.1
  refine lv_aload_n hx hb d_L_law_131 rfl (lv_at hl 1 rfl) ?_
  refine lv_aload_n hx hb d_L_law_132 rfl (lv_at hl 0 rfl) ?_
  refine lv_iload hx hb d_L_law_133 (lv_at hl 4 rfl) ?_
  refine lv_iconst (v := 1) hx hb d_L_law_135 (by decide) ?_
  refine lv_iadd hx hb d_L_law_136 ?_
  refine lc_ld (k := i + 1) X Y hS hbl hbA hL (nI_add i 1) (by omega) d_L_law_137 ?_
  refine lv_aload_n hx hb d_L_law_138 rfl (lv_at hl 3 rfl) ?_
  refine fp_callSW (nA := 3) (As := [.ref b, .int (xs (i + 1)), .ref (b + 464)]) (rest := []) X Y hEx (fun _ h => h) hM1 w313 w311 w312 w0 (by decide +kernel) ⟨rfl, rfl⟩ ⟨Nat.le_of_ble_eq_true rfl, Nat.le_of_ble_eq_true rfl⟩ rfl hl.1 rfl (Nat.le_of_ble_eq_true rfl) d_L_law_139 ⟨(by show _ ≤ 639796; omega), (by show _ ≤ 7176715; omega)⟩ (fun v9 f9 H locs hp9 Y => ?_)
  obtain ⟨e8, e9⟩ := hp9
  subst e8
  rw [e9] at Y
  refine W.eq (g2 := F0 m 142 ls [.int c9]) rfl ?_
  refine lv_istore (lv' := [(5, .int c9), (0, .ref sb), (1, .ref b), (2, .ref (b + 449)), (3, .ref (b + 464)), (4, .int (nI i))]) hx hb d_L_law_142 hl (by decide) rfl (fun ls hl => ?_)
  refine lv_aload_n hx hb d_L_law_144 rfl (lv_at hl 3 rfl) ?_
  refine lv_aload_n hx hb d_L_law_145 rfl (lv_at hl 1 rfl) ?_
  refine lv_iload hx hb d_L_law_146 (lv_at hl 5 rfl) ?_
  refine lv_iconst (v := 1) hx hb d_L_law_148 (by decide) ?_
  refine lv_iadd hx hb d_L_law_149 ?_
  refine lc_ld (k := i + 1) X Y hS hbl hbA hL (nI_add i 1) (by omega) d_L_law_150 ?_
  refine fp_callV (nA := 1) (As := [.int (xs (i + 1))]) (rest := []) X Y hM2 om1 rfl w673 w670 w671 w672 w9 (by decide +kernel) ⟨k5, k6⟩ ⟨(by show _ ≤ 10; omega), (by show _ ≤ 358; omega)⟩ rfl hl.1 rfl (Nat.le_of_ble_eq_true rfl) d_L_law_151 ⟨(by show _ ≤ 639796; omega), (by show _ ≤ 7176715; omega)⟩ (fun v9 f9 H locs hp9 Y => ?_)
  obtain ⟨e8, e9⟩ := hp9
  subst e8
  rw [e9] at Y
  refine W.eq (g2 := F0 m 154 ls [.int r9]) rfl ?_
  refine lv_istore (lv' := [(6, .int r9), (5, .int c9), (0, .ref sb), (1, .ref b), (2, .ref (b + 449)), (3, .ref (b + 464)), (4, .int (nI i))]) hx hb d_L_law_154 hl (by decide) rfl (fun ls hl => ?_)
  refine lv_aload_n hx hb d_L_law_156 rfl (lv_at hl 4 rfl) ?_
  refine fp_callV (nA := 0) (As := []) (rest := []) X Y (J_thrown hJ2) om2 rfl w665 w662 w663 w664 w9 (by decide +kernel) ⟨rfl, rfl⟩ ⟨Nat.le_of_ble_eq_true rfl, Nat.le_of_ble_eq_true rfl⟩ rfl hl.1 rfl (Nat.le_of_ble_eq_true rfl) d_L_law_157 ⟨(by show _ ≤ 639796; omega), (by show _ ≤ 7176715; omega)⟩ (fun v9 f9 H locs hp9 Y => ?_)
  obtain ⟨e8, e9⟩ := hp9
  subst e8
  rw [e9] at Y
  refine W.eq (g2 := F0 m 160 ls [.int c9]) rfl ?_
  refine lv_iload hx hb d_L_law_160 (lv_at hl 1 rfl) ?_
  refine lv_icmp_eq (tgt := 167) hx hb d_L_law_162 (by decide) (fun c_162 => ?_) (fun c_162 => absurd rfl c_162)
  refine lv_iload hx hb d_L_law_167 (lv_at hl 1 rfl) ?_
  refine lv_if_ne (tgt := 184) hx hb d_L_law_169 (by decide) (fun c0 => ?_) (fun c0 => ?_)
  · refine lv_goto (tgt := 901) hx hb d_L_law_184 (by decide) ?_
    exact kk f2 ou2 c9 H locs _ _ ls hJ2 ho2 Y (lv_sub hl [2, 3, 4, 5, 6] rfl) (by omega) (by omega)
  · refine lv_aload_n hx hb d_L_law_172 rfl (lv_at hl 5 rfl) ?_
    refine lv_iconst (v := 0) hx hb d_L_law_173 (by decide) ?_
    refine fp_lld X Y ⟨by omega, by omega, ho2⟩ 0 nI_0.symm (by decide) (by decide) d_L_law_174 ?_
    refine lv_iload hx hb d_L_law_175 (lv_at hl 0 rfl) ?_
    refine lv_i2l hx hb d_L_law_177 rfl ?_
    refine W.lcmp hx hb d_L_law_178 ?_
    refine lv_if_eq (tgt := 184) hx hb d_L_law_179 (by decide) (fun c_179 => ?_) (fun c_179 => absurd (by rw [hw9 c0]; exact lc_self _) c_179)
    refine lv_goto (tgt := 901) hx hb d_L_law_184 (by decide) ?_
    exact kk f2 ou2 c9 H locs _ _ ls hJ2 ho2 Y (lv_sub hl [2, 3, 4, 5, 6] rfl) (by omega) (by omega)
set_option maxHeartbeats 4000000 in
set_option maxRecDepth 100000 in
theorem L_set {p : Program} {l : Launch} {e : Env} {s : State} {m : MethodId} {args : Array Value} {below : List Frame} {meth : Method} {c : Code} {Q : State → Prop} {H : Heap} {locs : List Loc} {cells slots : Nat} {ls : Array Slot} {D : va_G} {g : Nat → ClassId} {b sb L i : Nat} {xs : Nat → Int32} {f : Nat → va_E} {ou : Nat → Int64} {th : Int32} (hfl : l.flags = flags0) (X : fp_X p s m args c b_L_law 7 "EntryTablesLaw" D (TY g)) (hEx : fp_Ex b s) (hS : va_X sb L xs s s.heap) (hbl : sb < s.heap.size) (hbA : ¬ fz_A b sb) (hL : L ≤ 3072) (hi : i + 6 ≤ L) (hJ : q_J g b f th) (hou : f (b + 464) = aL g 1 ou) (Y : fp_H D b 465 (fz_A b) f s.heap H locs) (hl : lv_has ls 7 [(0, .ref sb), (1, .ref b), (2, .ref (b + 449)), (3, .ref (b + 464)), (4, .int (nI i))]) (hc1 : cells + 1 ≤ 639796) (hc2 : slots + 6 ≤ 7176715)
    (kk : ∀ (f' : Nat → va_E) (ou' : Nat → Int64) (th' : Int32) (H' : Heap) (locs' : List Loc) (cells' slots' : Nat) (ls' : Array Slot), q_J g b f' th' → f' (b + 464) = aL g 1 ou' → fp_H D b 465 (fz_A b) f' s.heap H' locs' → lv_has ls' 7 [(0, .ref sb), (1, .ref b), (2, .ref (b + 449)), (3, .ref (b + 464)), (4, .int (nI i))] → cells' ≤ cells + 1 → slots' ≤ slots + 6 → W p l e room_1 s m args below meth c H' locs' cells' slots' Q (F0 m 901 ls' [])) : W p l e room_1 s m args below meth c H locs cells slots Q (F0 m 187 ls []) := by
  obtain ⟨c9, f1, f2, rm2, ⟨k5, k6, k7, k8⟩, hM1, hM2, ⟨vs1, hvs1⟩, hJ2, ho2⟩ := J_set (l := l) (D := D) (xs (i + 1)) (xs (i + 2)) hfl hJ
  obtain ⟨xa, xb, xc, xd, hxo⟩ := hJ.x
  have ox : fp_o b 465 f b (ob 7 [.ref (b + 1), .ref (b + 4), .ref (b + 6), .int xa, .ref (b + 7), .int xb, .ref (b + 8), .int xc, .int xd]) := ⟨Nat.le_refl b, by omega, hxo⟩
  have om1 : fp_o b 465 f1 (b + 449) (ob 8 vs1) := ⟨by omega, by omega, hvs1⟩
  obtain ⟨vs2, hvs2⟩ := hJ2.m
  have om2 : fp_o b 465 f2 (b + 449) (ob 8 vs2) := ⟨by omega, by omega, hvs2⟩
  have hx := X.1.1
  have hb := X.1.2.1
  refine lv_aload_n hx hb d_L_law_187 rfl (lv_at hl 1 rfl) ?_
  refine lv_aload_n hx hb d_L_law_188 rfl (lv_at hl 0 rfl) ?_
  refine lv_iload hx hb d_L_law_189 (lv_at hl 4 rfl) ?_
  refine lv_iconst (v := 1) hx hb d_L_law_191 (by decide) ?_
  refine lv_iadd hx hb d_L_law_192 ?_
  refine lc_ld (k := i + 1) X Y hS hbl hbA hL (nI_add i 1) (by omega) d_L_law_193 ?_
  refine lv_aload_n hx hb d_L_law_194 rfl (lv_at hl 0 rfl) ?_
  refine lv_iload hx hb d_L_law_195 (lv_at hl 4 rfl) ?_
  refine lv_iconst (v := 2) hx hb d_L_law_197 (by decide) ?_
  refine lv_iadd hx hb d_L_law_198 ?_
  refine lc_ld (k := i + 2) X Y hS hbl hbA hL (nI_add i 2) (by omega) d_L_law_199 ?_
  refine fp_callSW (nA := 3) (As := [.ref b, .int (xs (i + 1)), .int (xs (i + 2))]) (rest := []) X Y hEx (fun _ h => h) hM1 w415 w413 w414 w0 (by decide +kernel) ⟨rfl, rfl⟩ ⟨Nat.le_of_ble_eq_true rfl, Nat.le_of_ble_eq_true rfl⟩ rfl hl.1 rfl (Nat.le_of_ble_eq_true rfl) d_L_law_200 ⟨(by show _ ≤ 639796; omega), (by show _ ≤ 7176715; omega)⟩ (fun v9 f9 H locs hp9 Y => ?_)
  obtain ⟨e8, e9⟩ := hp9
  subst e8
  rw [e9] at Y
  refine W.eq (g2 := F0 m 203 ls [.int c9]) rfl ?_
  refine lv_istore (lv' := [(5, .int c9), (0, .ref sb), (1, .ref b), (2, .ref (b + 449)), (3, .ref (b + 464)), (4, .int (nI i))]) hx hb d_L_law_203 hl (by decide) rfl (fun ls hl => ?_)
  refine lv_aload_n hx hb d_L_law_205 rfl (lv_at hl 3 rfl) ?_
  refine lv_aload_n hx hb d_L_law_206 rfl (lv_at hl 1 rfl) ?_
  refine lv_iload hx hb d_L_law_207 (lv_at hl 5 rfl) ?_
  refine lv_iconst (v := 1) hx hb d_L_law_209 (by decide) ?_
  refine lv_iadd hx hb d_L_law_210 ?_
  refine lc_ld (k := i + 1) X Y hS hbl hbA hL (nI_add i 1) (by omega) d_L_law_211 ?_
  refine lv_aload_n hx hb d_L_law_212 rfl (lv_at hl 1 rfl) ?_
  refine lv_iload hx hb d_L_law_213 (lv_at hl 5 rfl) ?_
  refine lv_iconst (v := 2) hx hb d_L_law_215 (by decide) ?_
  refine lv_iadd hx hb d_L_law_216 ?_
  refine lc_ld (k := i + 2) X Y hS hbl hbA hL (nI_add i 2) (by omega) d_L_law_217 ?_
  refine fp_callV (nA := 2) (As := [.int (xs (i + 1)), .int (xs (i + 2))]) (rest := []) X Y hM2 om1 rfl w677 w674 w675 w676 w9 (by decide +kernel) ⟨k5, k6⟩ ⟨(by show _ ≤ 10; omega), (by show _ ≤ 358; omega)⟩ rfl hl.1 rfl (Nat.le_of_ble_eq_true rfl) d_L_law_218 ⟨(by show _ ≤ 639796; omega), (by show _ ≤ 7176715; omega)⟩ (fun v9 f9 H locs hp9 Y => ?_)
  obtain ⟨e8, e9⟩ := hp9
  subst e8
  rw [e9] at Y
  refine W.eq (g2 := F0 m 221 ls []) rfl ?_
  refine lv_aload_n hx hb d_L_law_221 rfl (lv_at hl 3 rfl) ?_
  refine fp_callV (nA := 0) (As := []) (rest := []) X Y (J_thrown hJ2) om2 rfl w665 w662 w663 w664 w9 (by decide +kernel) ⟨rfl, rfl⟩ ⟨Nat.le_of_ble_eq_true rfl, Nat.le_of_ble_eq_true rfl⟩ rfl hl.1 rfl (Nat.le_of_ble_eq_true rfl) d_L_law_222 ⟨(by show _ ≤ 639796; omega), (by show _ ≤ 7176715; omega)⟩ (fun v9 f9 H locs hp9 Y => ?_)
  obtain ⟨e8, e9⟩ := hp9
  subst e8
  rw [e9] at Y
  refine W.eq (g2 := F0 m 225 ls [.int c9]) rfl ?_
  refine lv_iload hx hb d_L_law_225 (lv_at hl 0 rfl) ?_
  refine lv_icmp_eq (tgt := 232) hx hb d_L_law_227 (by decide) (fun c_227 => ?_) (fun c_227 => absurd rfl c_227)
  refine lv_goto (tgt := 901) hx hb d_L_law_232 (by decide) ?_
  exact kk f2 ou c9 H locs _ _ ls hJ2 (ho2.trans hou) Y (lv_sub hl [1, 2, 3, 4, 5] rfl) (by omega) (by omega)
set_option maxHeartbeats 4000000 in
set_option maxRecDepth 100000 in
theorem L_get {p : Program} {l : Launch} {e : Env} {s : State} {m : MethodId} {args : Array Value} {below : List Frame} {meth : Method} {c : Code} {Q : State → Prop} {H : Heap} {locs : List Loc} {cells slots : Nat} {ls : Array Slot} {D : va_G} {g : Nat → ClassId} {b sb L i : Nat} {xs : Nat → Int32} {f : Nat → va_E} {ou : Nat → Int64} {th : Int32} (hfl : l.flags = flags0) (X : fp_X p s m args c b_L_law 7 "EntryTablesLaw" D (TY g)) (hEx : fp_Ex b s) (hS : va_X sb L xs s s.heap) (hbl : sb < s.heap.size) (hbA : ¬ fz_A b sb) (hL : L ≤ 3072) (hi : i + 6 ≤ L) (hJ : q_J g b f th) (hou : f (b + 464) = aL g 1 ou) (Y : fp_H D b 465 (fz_A b) f s.heap H locs) (hl : lv_has ls 7 [(0, .ref sb), (1, .ref b), (2, .ref (b + 449)), (3, .ref (b + 464)), (4, .int (nI i))]) (hc1 : cells + 1 ≤ 639796) (hc2 : slots + 6 ≤ 7176715)
    (kk : ∀ (f' : Nat → va_E) (ou' : Nat → Int64) (th' : Int32) (H' : Heap) (locs' : List Loc) (cells' slots' : Nat) (ls' : Array Slot), q_J g b f' th' → f' (b + 464) = aL g 1 ou' → fp_H D b 465 (fz_A b) f' s.heap H' locs' → lv_has ls' 7 [(0, .ref sb), (1, .ref b), (2, .ref (b + 449)), (3, .ref (b + 464)), (4, .int (nI i))] → cells' ≤ cells + 1 → slots' ≤ slots + 6 → W p l e room_1 s m args below meth c H' locs' cells' slots' Q (F0 m 901 ls' [])) : W p l e room_1 s m args below meth c H locs cells slots Q (F0 m 235 ls []) := by
  obtain ⟨r9, f1, f2, rm1, rm2, ⟨k1, k2, k3, k4⟩, ⟨k5, k6, k7, k8⟩, hM1, hM2, ⟨vs1, hvs1⟩, hJ2, ho2⟩ := J_get (l := l) (D := D) (xs (i + 1)) hJ
  obtain ⟨xa, xb, xc, xd, hxo⟩ := hJ.x
  have ox : fp_o b 465 f b (ob 7 [.ref (b + 1), .ref (b + 4), .ref (b + 6), .int xa, .ref (b + 7), .int xb, .ref (b + 8), .int xc, .int xd]) := ⟨Nat.le_refl b, by omega, hxo⟩
  have om1 : fp_o b 465 f1 (b + 449) (ob 8 vs1) := ⟨by omega, by omega, hvs1⟩
  obtain ⟨vs2, hvs2⟩ := hJ2.m
  have om2 : fp_o b 465 f2 (b + 449) (ob 8 vs2) := ⟨by omega, by omega, hvs2⟩
  have hx := X.1.1
  have hb := X.1.2.1
  refine lv_aload_n hx hb d_L_law_235 rfl (lv_at hl 1 rfl) ?_
  refine lv_aload_n hx hb d_L_law_236 rfl (lv_at hl 0 rfl) ?_
  refine lv_iload hx hb d_L_law_237 (lv_at hl 4 rfl) ?_
  refine lv_iconst (v := 1) hx hb d_L_law_239 (by decide) ?_
  refine lv_iadd hx hb d_L_law_240 ?_
  refine lc_ld (k := i + 1) X Y hS hbl hbA hL (nI_add i 1) (by omega) d_L_law_241 ?_
  refine fp_callV (nA := 1) (As := [.int (xs (i + 1))]) (rest := []) X Y hM1 ox rfl w241 w238 w239 w240 w1 (by decide +kernel) ⟨k1, k2⟩ ⟨(by show _ ≤ 10; omega), (by show _ ≤ 358; omega)⟩ rfl hl.1 rfl (Nat.le_of_ble_eq_true rfl) d_L_law_242 ⟨(by show _ ≤ 639796; omega), (by show _ ≤ 7176715; omega)⟩ (fun v9 f9 H locs hp9 Y => ?_)
  obtain ⟨e8, e9⟩ := hp9
  subst e8
  rw [e9] at Y
  refine W.eq (g2 := F0 m 245 ls [.int r9]) rfl ?_
  refine lv_aload_n hx hb d_L_law_245 rfl (lv_at hl 2 rfl) ?_
  refine lv_aload_n hx hb d_L_law_246 rfl (lv_at hl 0 rfl) ?_
  refine lv_iload hx hb d_L_law_247 (lv_at hl 4 rfl) ?_
  refine lv_iconst (v := 1) hx hb d_L_law_249 (by decide) ?_
  refine lv_iadd hx hb d_L_law_250 ?_
  refine lc_ld (k := i + 1) X Y hS hbl hbA hL (nI_add i 1) (by omega) d_L_law_251 ?_
  refine fp_callV (nA := 1) (As := [.int (xs (i + 1))]) (rest := [.int r9]) X Y hM2 om1 rfl w692 w689 w690 w691 w9 (by decide +kernel) ⟨k5, k6⟩ ⟨(by show _ ≤ 10; omega), (by show _ ≤ 358; omega)⟩ rfl hl.1 rfl (Nat.le_of_ble_eq_true rfl) d_L_law_252 ⟨(by show _ ≤ 639796; omega), (by show _ ≤ 7176715; omega)⟩ (fun v9 f9 H locs hp9 Y => ?_)
  obtain ⟨e8, e9⟩ := hp9
  subst e8
  rw [e9] at Y
  refine W.eq (g2 := F0 m 255 ls [.int r9, .int r9]) rfl ?_
  refine lv_icmp_eq (tgt := 901) hx hb d_L_law_255 (by decide) (fun c_255 => ?_) (fun c_255 => absurd rfl c_255)
  exact kk f2 ou 0 H locs _ _ ls hJ2 (ho2.trans hou) Y (lv_sub hl [0, 1, 2, 3, 4] rfl) (by omega) (by omega)
set_option maxHeartbeats 4000000 in
set_option maxRecDepth 100000 in
theorem L_action {p : Program} {l : Launch} {e : Env} {s : State} {m : MethodId} {args : Array Value} {below : List Frame} {meth : Method} {c : Code} {Q : State → Prop} {H : Heap} {locs : List Loc} {cells slots : Nat} {ls : Array Slot} {D : va_G} {g : Nat → ClassId} {b sb L i : Nat} {xs : Nat → Int32} {f : Nat → va_E} {ou : Nat → Int64} {th : Int32} (hfl : l.flags = flags0) (X : fp_X p s m args c b_L_law 7 "EntryTablesLaw" D (TY g)) (hEx : fp_Ex b s) (hS : va_X sb L xs s s.heap) (hbl : sb < s.heap.size) (hbA : ¬ fz_A b sb) (hL : L ≤ 3072) (hi : i + 6 ≤ L) (hJ : q_J g b f th) (hou : f (b + 464) = aL g 1 ou) (Y : fp_H D b 465 (fz_A b) f s.heap H locs) (hl : lv_has ls 7 [(0, .ref sb), (1, .ref b), (2, .ref (b + 449)), (3, .ref (b + 464)), (4, .int (nI i))]) (hc1 : cells + 1 ≤ 639796) (hc2 : slots + 6 ≤ 7176715)
    (kk : ∀ (f' : Nat → va_E) (ou' : Nat → Int64) (th' : Int32) (H' : Heap) (locs' : List Loc) (cells' slots' : Nat) (ls' : Array Slot), q_J g b f' th' → f' (b + 464) = aL g 1 ou' → fp_H D b 465 (fz_A b) f' s.heap H' locs' → lv_has ls' 7 [(0, .ref sb), (1, .ref b), (2, .ref (b + 449)), (3, .ref (b + 464)), (4, .int (nI i))] → cells' ≤ cells + 1 → slots' ≤ slots + 6 → W p l e room_1 s m args below meth c H' locs' cells' slots' Q (F0 m 901 ls' [])) : W p l e room_1 s m args below meth c H locs cells slots Q (F0 m 260 ls []) := by
  obtain ⟨c9, r9, ou2, f1, f2, rm2, ⟨k5, k6, k7, k8⟩, hM1, hM2, ⟨vs1, hvs1⟩, hJ2, ho2, hw9⟩ := J_action (l := l) (D := D)  hfl hou hJ
  obtain ⟨xa, xb, xc, xd, hxo⟩ := hJ.x
  have ox : fp_o b 465 f b (ob 7 [.ref (b + 1), .ref (b + 4), .ref (b + 6), .int xa, .ref (b + 7), .int xb, .ref (b + 8), .int xc, .int xd]) := ⟨Nat.le_refl b, by omega, hxo⟩
  have om1 : fp_o b 465 f1 (b + 449) (ob 8 vs1) := ⟨by omega, by omega, hvs1⟩
  obtain ⟨vs2, hvs2⟩ := hJ2.m
  have om2 : fp_o b 465 f2 (b + 449) (ob 8 vs2) := ⟨by omega, by omega, hvs2⟩
  have hx := X.1.1
  have hb := X.1.2.1
  refine lv_aload_n hx hb d_L_law_260 rfl (lv_at hl 1 rfl) ?_
  refine lv_aload_n hx hb d_L_law_261 rfl (lv_at hl 3 rfl) ?_
  refine fp_callSW (nA := 2) (As := [.ref b, .ref (b + 464)]) (rest := []) X Y hEx (fun _ h => h) hM1 w444 w442 w443 w0 (by decide +kernel) ⟨rfl, rfl⟩ ⟨Nat.le_of_ble_eq_true rfl, Nat.le_of_ble_eq_true rfl⟩ rfl hl.1 rfl (Nat.le_of_ble_eq_true rfl) d_L_law_262 ⟨(by show _ ≤ 639796; omega), (by show _ ≤ 7176715; omega)⟩ (fun v9 f9 H locs hp9 Y => ?_)
  obtain ⟨e8, e9⟩ := hp9
  subst e8
  rw [e9] at Y
  refine W.eq (g2 := F0 m 265 ls [.int c9]) rfl ?_
  refine lv_istore (lv' := [(5, .int c9), (0, .ref sb), (1, .ref b), (2, .ref (b + 449)), (3, .ref (b + 464)), (4, .int (nI i))]) hx hb d_L_law_265 hl (by decide) rfl (fun ls hl => ?_)
  refine lv_aload_n hx hb d_L_law_267 rfl (lv_at hl 3 rfl) ?_
  refine fp_callV (nA := 0) (As := []) (rest := []) X Y hM2 om1 rfl w696 w693 w694 w695 w9 (by decide +kernel) ⟨k5, k6⟩ ⟨(by show _ ≤ 10; omega), (by show _ ≤ 358; omega)⟩ rfl hl.1 rfl (Nat.le_of_ble_eq_true rfl) d_L_law_268 ⟨(by show _ ≤ 639796; omega), (by show _ ≤ 7176715; omega)⟩ (fun v9 f9 H locs hp9 Y => ?_)
  obtain ⟨e8, e9⟩ := hp9
  subst e8
  rw [e9] at Y
  refine W.eq (g2 := F0 m 271 ls [.int r9]) rfl ?_
  refine lv_istore (lv' := [(6, .int r9), (5, .int c9), (0, .ref sb), (1, .ref b), (2, .ref (b + 449)), (3, .ref (b + 464)), (4, .int (nI i))]) hx hb d_L_law_271 hl (by decide) rfl (fun ls hl => ?_)
  refine lv_aload_n hx hb d_L_law_273 rfl (lv_at hl 4 rfl) ?_
  refine fp_callV (nA := 0) (As := []) (rest := []) X Y (J_thrown hJ2) om2 rfl w665 w662 w663 w664 w9 (by decide +kernel) ⟨rfl, rfl⟩ ⟨Nat.le_of_ble_eq_true rfl, Nat.le_of_ble_eq_true rfl⟩ rfl hl.1 rfl (Nat.le_of_ble_eq_true rfl) d_L_law_274 ⟨(by show _ ≤ 639796; omega), (by show _ ≤ 7176715; omega)⟩ (fun v9 f9 H locs hp9 Y => ?_)
  obtain ⟨e8, e9⟩ := hp9
  subst e8
  rw [e9] at Y
  refine W.eq (g2 := F0 m 277 ls [.int c9]) rfl ?_
  refine lv_iload hx hb d_L_law_277 (lv_at hl 1 rfl) ?_
  refine lv_icmp_eq (tgt := 284) hx hb d_L_law_279 (by decide) (fun c_279 => ?_) (fun c_279 => absurd rfl c_279)
  refine lv_iload hx hb d_L_law_284 (lv_at hl 1 rfl) ?_
  refine lv_if_ne (tgt := 301) hx hb d_L_law_286 (by decide) (fun c0 => ?_) (fun c0 => ?_)
  · refine lv_goto (tgt := 901) hx hb d_L_law_301 (by decide) ?_
    exact kk f2 ou2 c9 H locs _ _ ls hJ2 ho2 Y (lv_sub hl [2, 3, 4, 5, 6] rfl) (by omega) (by omega)
  · refine lv_aload_n hx hb d_L_law_289 rfl (lv_at hl 5 rfl) ?_
    refine lv_iconst (v := 0) hx hb d_L_law_290 (by decide) ?_
    refine fp_lld X Y ⟨by omega, by omega, ho2⟩ 0 nI_0.symm (by decide) (by decide) d_L_law_291 ?_
    refine lv_iload hx hb d_L_law_292 (lv_at hl 0 rfl) ?_
    refine lv_i2l hx hb d_L_law_294 rfl ?_
    refine W.lcmp hx hb d_L_law_295 ?_
    refine lv_if_eq (tgt := 301) hx hb d_L_law_296 (by decide) (fun c_296 => ?_) (fun c_296 => absurd (by rw [hw9 c0]; exact lc_self _) c_296)
    refine lv_goto (tgt := 901) hx hb d_L_law_301 (by decide) ?_
    exact kk f2 ou2 c9 H locs _ _ ls hJ2 ho2 Y (lv_sub hl [2, 3, 4, 5, 6] rfl) (by omega) (by omega)
set_option maxHeartbeats 4000000 in
set_option maxRecDepth 100000 in
theorem L_doing {p : Program} {l : Launch} {e : Env} {s : State} {m : MethodId} {args : Array Value} {below : List Frame} {meth : Method} {c : Code} {Q : State → Prop} {H : Heap} {locs : List Loc} {cells slots : Nat} {ls : Array Slot} {D : va_G} {g : Nat → ClassId} {b sb L i : Nat} {xs : Nat → Int32} {f : Nat → va_E} {ou : Nat → Int64} {th : Int32} (hfl : l.flags = flags0) (X : fp_X p s m args c b_L_law 7 "EntryTablesLaw" D (TY g)) (hEx : fp_Ex b s) (hS : va_X sb L xs s s.heap) (hbl : sb < s.heap.size) (hbA : ¬ fz_A b sb) (hL : L ≤ 3072) (hi : i + 6 ≤ L) (hJ : q_J g b f th) (hou : f (b + 464) = aL g 1 ou) (Y : fp_H D b 465 (fz_A b) f s.heap H locs) (hl : lv_has ls 7 [(0, .ref sb), (1, .ref b), (2, .ref (b + 449)), (3, .ref (b + 464)), (4, .int (nI i))]) (hc1 : cells + 1 ≤ 639796) (hc2 : slots + 6 ≤ 7176715)
    (kk : ∀ (f' : Nat → va_E) (ou' : Nat → Int64) (th' : Int32) (H' : Heap) (locs' : List Loc) (cells' slots' : Nat) (ls' : Array Slot), q_J g b f' th' → f' (b + 464) = aL g 1 ou' → fp_H D b 465 (fz_A b) f' s.heap H' locs' → lv_has ls' 7 [(0, .ref sb), (1, .ref b), (2, .ref (b + 449)), (3, .ref (b + 464)), (4, .int (nI i))] → cells' ≤ cells + 1 → slots' ≤ slots + 6 → W p l e room_1 s m args below meth c H' locs' cells' slots' Q (F0 m 901 ls' [])) : W p l e room_1 s m args below meth c H locs cells slots Q (F0 m 304 ls []) := by
  obtain ⟨c9, f1, f2, rm2, ⟨k5, k6, k7, k8⟩, hM1, hM2, ⟨vs1, hvs1⟩, hJ2, ho2⟩ := J_doing (l := l) (D := D) (xs (i + 1)) (xs (i + 2)) (xs (i + 3)) (xs (i + 4)) (xs (i + 5)) hfl hJ
  obtain ⟨xa, xb, xc, xd, hxo⟩ := hJ.x
  have ox : fp_o b 465 f b (ob 7 [.ref (b + 1), .ref (b + 4), .ref (b + 6), .int xa, .ref (b + 7), .int xb, .ref (b + 8), .int xc, .int xd]) := ⟨Nat.le_refl b, by omega, hxo⟩
  have om1 : fp_o b 465 f1 (b + 449) (ob 8 vs1) := ⟨by omega, by omega, hvs1⟩
  obtain ⟨vs2, hvs2⟩ := hJ2.m
  have om2 : fp_o b 465 f2 (b + 449) (ob 8 vs2) := ⟨by omega, by omega, hvs2⟩
  have hx := X.1.1
  have hb := X.1.2.1
  refine lv_aload_n hx hb d_L_law_304 rfl (lv_at hl 1 rfl) ?_
  refine lv_aload_n hx hb d_L_law_305 rfl (lv_at hl 0 rfl) ?_
  refine lv_iload hx hb d_L_law_306 (lv_at hl 4 rfl) ?_
  refine lv_iconst (v := 1) hx hb d_L_law_308 (by decide) ?_
  refine lv_iadd hx hb d_L_law_309 ?_
  refine lc_ld (k := i + 1) X Y hS hbl hbA hL (nI_add i 1) (by omega) d_L_law_310 ?_
  refine lv_aload_n hx hb d_L_law_311 rfl (lv_at hl 0 rfl) ?_
  refine lv_iload hx hb d_L_law_312 (lv_at hl 4 rfl) ?_
  refine lv_iconst (v := 2) hx hb d_L_law_314 (by decide) ?_
  refine lv_iadd hx hb d_L_law_315 ?_
  refine lc_ld (k := i + 2) X Y hS hbl hbA hL (nI_add i 2) (by omega) d_L_law_316 ?_
  refine lv_aload_n hx hb d_L_law_317 rfl (lv_at hl 0 rfl) ?_
  refine lv_iload hx hb d_L_law_318 (lv_at hl 4 rfl) ?_
  refine lv_iconst (v := 3) hx hb d_L_law_320 (by decide) ?_
  refine lv_iadd hx hb d_L_law_321 ?_
  refine lc_ld (k := i + 3) X Y hS hbl hbA hL (nI_add i 3) (by omega) d_L_law_322 ?_
  refine lv_aload_n hx hb d_L_law_323 rfl (lv_at hl 0 rfl) ?_
  refine lv_iload hx hb d_L_law_324 (lv_at hl 4 rfl) ?_
  refine lv_iconst (v := 4) hx hb d_L_law_326 (by decide) ?_
  refine lv_iadd hx hb d_L_law_327 ?_
  refine lc_ld (k := i + 4) X Y hS hbl hbA hL (nI_add i 4) (by omega) d_L_law_328 ?_
  refine lv_aload_n hx hb d_L_law_329 rfl (lv_at hl 0 rfl) ?_
  refine lv_iload hx hb d_L_law_330 (lv_at hl 4 rfl) ?_
  refine lv_iconst (v := 5) hx hb d_L_law_332 (by decide) ?_
  refine lv_iadd hx hb d_L_law_333 ?_
  refine lc_ld (k := i + 5) X Y hS hbl hbA hL (nI_add i 5) (by omega) d_L_law_334 ?_
  refine fp_callSW (nA := 6) (As := [.ref b, .int (xs (i + 1)), .int (xs (i + 2)), .int (xs (i + 3)), .int (xs (i + 4)), .int (xs (i + 5))]) (rest := []) X Y hEx (fun _ h => h) hM1 w456 w454 w455 w0 (by decide +kernel) ⟨rfl, rfl⟩ ⟨Nat.le_of_ble_eq_true rfl, Nat.le_of_ble_eq_true rfl⟩ rfl hl.1 rfl (Nat.le_of_ble_eq_true rfl) d_L_law_335 ⟨(by show _ ≤ 639796; omega), (by show _ ≤ 7176715; omega)⟩ (fun v9 f9 H locs hp9 Y => ?_)
  obtain ⟨e8, e9⟩ := hp9
  subst e8
  rw [e9] at Y
  refine W.eq (g2 := F0 m 338 ls [.int c9]) rfl ?_
  refine lv_istore (lv' := [(5, .int c9), (0, .ref sb), (1, .ref b), (2, .ref (b + 449)), (3, .ref (b + 464)), (4, .int (nI i))]) hx hb d_L_law_338 hl (by decide) rfl (fun ls hl => ?_)
  refine lv_aload_n hx hb d_L_law_340 rfl (lv_at hl 3 rfl) ?_
  refine lv_aload_n hx hb d_L_law_341 rfl (lv_at hl 1 rfl) ?_
  refine lv_iload hx hb d_L_law_342 (lv_at hl 5 rfl) ?_
  refine lv_iconst (v := 1) hx hb d_L_law_344 (by decide) ?_
  refine lv_iadd hx hb d_L_law_345 ?_
  refine lc_ld (k := i + 1) X Y hS hbl hbA hL (nI_add i 1) (by omega) d_L_law_346 ?_
  refine lv_aload_n hx hb d_L_law_347 rfl (lv_at hl 1 rfl) ?_
  refine lv_iload hx hb d_L_law_348 (lv_at hl 5 rfl) ?_
  refine lv_iconst (v := 2) hx hb d_L_law_350 (by decide) ?_
  refine lv_iadd hx hb d_L_law_351 ?_
  refine lc_ld (k := i + 2) X Y hS hbl hbA hL (nI_add i 2) (by omega) d_L_law_352 ?_
  refine lv_aload_n hx hb d_L_law_353 rfl (lv_at hl 1 rfl) ?_
  refine lv_iload hx hb d_L_law_354 (lv_at hl 5 rfl) ?_
  refine lv_iconst (v := 3) hx hb d_L_law_356 (by decide) ?_
  refine lv_iadd hx hb d_L_law_357 ?_
  refine lc_ld (k := i + 3) X Y hS hbl hbA hL (nI_add i 3) (by omega) d_L_law_358 ?_
  refine lv_aload_n hx hb d_L_law_359 rfl (lv_at hl 1 rfl) ?_
  refine lv_iload hx hb d_L_law_360 (lv_at hl 5 rfl) ?_
  refine lv_iconst (v := 4) hx hb d_L_law_362 (by decide) ?_
  refine lv_iadd hx hb d_L_law_363 ?_
  refine lc_ld (k := i + 4) X Y hS hbl hbA hL (nI_add i 4) (by omega) d_L_law_364 ?_
  refine lv_aload_n hx hb d_L_law_365 rfl (lv_at hl 1 rfl) ?_
  refine lv_iload hx hb d_L_law_366 (lv_at hl 5 rfl) ?_
  refine lv_iconst (v := 5) hx hb d_L_law_368 (by decide) ?_
  refine lv_iadd hx hb d_L_law_369 ?_
  refine lc_ld (k := i + 5) X Y hS hbl hbA hL (nI_add i 5) (by omega) d_L_law_370 ?_
  refine fp_callV (nA := 5) (As := [.int (xs (i + 1)), .int (xs (i + 2)), .int (xs (i + 3)), .int (xs (i + 4)), .int (xs (i + 5))]) (rest := []) X Y hM2 om1 rfl w700 w697 w698 w699 w9 (by decide +kernel) ⟨k5, k6⟩ ⟨(by show _ ≤ 10; omega), (by show _ ≤ 358; omega)⟩ rfl hl.1 rfl (Nat.le_of_ble_eq_true rfl) d_L_law_371 ⟨(by show _ ≤ 639796; omega), (by show _ ≤ 7176715; omega)⟩ (fun v9 f9 H locs hp9 Y => ?_)
  obtain ⟨e8, e9⟩ := hp9
  subst e8
  rw [e9] at Y
  refine W.eq (g2 := F0 m 374 ls []) rfl ?_
  refine lv_aload_n hx hb d_L_law_374 rfl (lv_at hl 3 rfl) ?_
  refine fp_callV (nA := 0) (As := []) (rest := []) X Y (J_thrown hJ2) om2 rfl w665 w662 w663 w664 w9 (by decide +kernel) ⟨rfl, rfl⟩ ⟨Nat.le_of_ble_eq_true rfl, Nat.le_of_ble_eq_true rfl⟩ rfl hl.1 rfl (Nat.le_of_ble_eq_true rfl) d_L_law_375 ⟨(by show _ ≤ 639796; omega), (by show _ ≤ 7176715; omega)⟩ (fun v9 f9 H locs hp9 Y => ?_)
  obtain ⟨e8, e9⟩ := hp9
  subst e8
  rw [e9] at Y
  refine W.eq (g2 := F0 m 378 ls [.int c9]) rfl ?_
  refine lv_iload hx hb d_L_law_378 (lv_at hl 0 rfl) ?_
  refine lv_icmp_eq (tgt := 385) hx hb d_L_law_380 (by decide) (fun c_380 => ?_) (fun c_380 => absurd rfl c_380)
  refine lv_goto (tgt := 901) hx hb d_L_law_385 (by decide) ?_
  exact kk f2 ou c9 H locs _ _ ls hJ2 (ho2.trans hou) Y (lv_sub hl [1, 2, 3, 4, 5] rfl) (by omega) (by omega)
set_option maxHeartbeats 4000000 in
set_option maxRecDepth 100000 in
theorem L_table {p : Program} {l : Launch} {e : Env} {s : State} {m : MethodId} {args : Array Value} {below : List Frame} {meth : Method} {c : Code} {Q : State → Prop} {H : Heap} {locs : List Loc} {cells slots : Nat} {ls : Array Slot} {D : va_G} {g : Nat → ClassId} {b sb L i : Nat} {xs : Nat → Int32} {f : Nat → va_E} {ou : Nat → Int64} {th : Int32} (hfl : l.flags = flags0) (X : fp_X p s m args c b_L_law 7 "EntryTablesLaw" D (TY g)) (hEx : fp_Ex b s) (hS : va_X sb L xs s s.heap) (hbl : sb < s.heap.size) (hbA : ¬ fz_A b sb) (hL : L ≤ 3072) (hi : i + 6 ≤ L) (hJ : q_J g b f th) (hou : f (b + 464) = aL g 1 ou) (Y : fp_H D b 465 (fz_A b) f s.heap H locs) (hl : lv_has ls 7 [(0, .ref sb), (1, .ref b), (2, .ref (b + 449)), (3, .ref (b + 464)), (4, .int (nI i))]) (hc1 : cells + 1 ≤ 639796) (hc2 : slots + 6 ≤ 7176715)
    (kk : ∀ (f' : Nat → va_E) (ou' : Nat → Int64) (th' : Int32) (H' : Heap) (locs' : List Loc) (cells' slots' : Nat) (ls' : Array Slot), q_J g b f' th' → f' (b + 464) = aL g 1 ou' → fp_H D b 465 (fz_A b) f' s.heap H' locs' → lv_has ls' 7 [(0, .ref sb), (1, .ref b), (2, .ref (b + 449)), (3, .ref (b + 464)), (4, .int (nI i))] → cells' ≤ cells + 1 → slots' ≤ slots + 6 → W p l e room_1 s m args below meth c H' locs' cells' slots' Q (F0 m 901 ls' [])) : W p l e room_1 s m args below meth c H locs cells slots Q (F0 m 388 ls []) := by
  obtain ⟨c9, r9, ou2, f1, f2, rm2, ⟨k5, k6, k7, k8⟩, hM1, hM2, ⟨vs1, hvs1⟩, hJ2, ho2, hw9⟩ := J_table (l := l) (D := D) (xs (i + 1)) (xs (i + 2)) (xs (i + 3)) (xs (i + 4)) (xs (i + 5)) hfl hou hJ
  obtain ⟨xa, xb, xc, xd, hxo⟩ := hJ.x
  have ox : fp_o b 465 f b (ob 7 [.ref (b + 1), .ref (b + 4), .ref (b + 6), .int xa, .ref (b + 7), .int xb, .ref (b + 8), .int xc, .int xd]) := ⟨Nat.le_refl b, by omega, hxo⟩
  have om1 : fp_o b 465 f1 (b + 449) (ob 8 vs1) := ⟨by omega, by omega, hvs1⟩
  obtain ⟨vs2, hvs2⟩ := hJ2.m
  have om2 : fp_o b 465 f2 (b + 449) (ob 8 vs2) := ⟨by omega, by omega, hvs2⟩
  have hx := X.1.1
  have hb := X.1.2.1
  refine lv_aload_n hx hb d_L_law_388 rfl (lv_at hl 1 rfl) ?_
  refine lv_aload_n hx hb d_L_law_389 rfl (lv_at hl 0 rfl) ?_
  refine lv_iload hx hb d_L_law_390 (lv_at hl 4 rfl) ?_
  refine lv_iconst (v := 1) hx hb d_L_law_392 (by decide) ?_
  refine lv_iadd hx hb d_L_law_393 ?_
  refine lc_ld (k := i + 1) X Y hS hbl hbA hL (nI_add i 1) (by omega) d_L_law_394 ?_
  refine lv_aload_n hx hb d_L_law_395 rfl (lv_at hl 0 rfl) ?_
  refine lv_iload hx hb d_L_law_396 (lv_at hl 4 rfl) ?_
  refine lv_iconst (v := 2) hx hb d_L_law_398 (by decide) ?_
  refine lv_iadd hx hb d_L_law_399 ?_
  refine lc_ld (k := i + 2) X Y hS hbl hbA hL (nI_add i 2) (by omega) d_L_law_400 ?_
  refine lv_aload_n hx hb d_L_law_401 rfl (lv_at hl 0 rfl) ?_
  refine lv_iload hx hb d_L_law_402 (lv_at hl 4 rfl) ?_
  refine lv_iconst (v := 3) hx hb d_L_law_404 (by decide) ?_
  refine lv_iadd hx hb d_L_law_405 ?_
  refine lc_ld (k := i + 3) X Y hS hbl hbA hL (nI_add i 3) (by omega) d_L_law_406 ?_
  refine lv_aload_n hx hb d_L_law_407 rfl (lv_at hl 0 rfl) ?_
  refine lv_iload hx hb d_L_law_408 (lv_at hl 4 rfl) ?_
  refine lv_iconst (v := 4) hx hb d_L_law_410 (by decide) ?_
  refine lv_iadd hx hb d_L_law_411 ?_
  refine lc_ld (k := i + 4) X Y hS hbl hbA hL (nI_add i 4) (by omega) d_L_law_412 ?_
  refine lv_aload_n hx hb d_L_law_413 rfl (lv_at hl 0 rfl) ?_
  refine lv_iload hx hb d_L_law_414 (lv_at hl 4 rfl) ?_
  refine lv_iconst (v := 5) hx hb d_L_law_416 (by decide) ?_
  refine lv_iadd hx hb d_L_law_417 ?_
  refine lc_ld (k := i + 5) X Y hS hbl hbA hL (nI_add i 5) (by omega) d_L_law_418 ?_
  refine lv_aload_n hx hb d_L_law_419 rfl (lv_at hl 3 rfl) ?_
  refine fp_callSW (nA := 7) (As := [.ref b, .int (xs (i + 1)), .int (xs (i + 2)), .int (xs (i + 3)), .int (xs (i + 4)), .int (xs (i + 5)), .ref (b + 464)]) (rest := []) X Y hEx (fun _ h => h) hM1 w487 w485 w486 w0 (by decide +kernel) ⟨rfl, rfl⟩ ⟨Nat.le_of_ble_eq_true rfl, Nat.le_of_ble_eq_true rfl⟩ rfl hl.1 rfl (Nat.le_of_ble_eq_true rfl) d_L_law_420 ⟨(by show _ ≤ 639796; omega), (by show _ ≤ 7176715; omega)⟩ (fun v9 f9 H locs hp9 Y => ?_)
  obtain ⟨e8, e9⟩ := hp9
  subst e8
  rw [e9] at Y
  refine W.eq (g2 := F0 m 423 ls [.int c9]) rfl ?_
  refine lv_istore (lv' := [(5, .int c9), (0, .ref sb), (1, .ref b), (2, .ref (b + 449)), (3, .ref (b + 464)), (4, .int (nI i))]) hx hb d_L_law_423 hl (by decide) rfl (fun ls hl => ?_)
  refine lv_aload_n hx hb d_L_law_425 rfl (lv_at hl 3 rfl) ?_
  refine lv_aload_n hx hb d_L_law_426 rfl (lv_at hl 1 rfl) ?_
  refine lv_iload hx hb d_L_law_427 (lv_at hl 5 rfl) ?_
  refine lv_iconst (v := 1) hx hb d_L_law_429 (by decide) ?_
  refine lv_iadd hx hb d_L_law_430 ?_
  refine lc_ld (k := i + 1) X Y hS hbl hbA hL (nI_add i 1) (by omega) d_L_law_431 ?_
  refine lv_aload_n hx hb d_L_law_432 rfl (lv_at hl 1 rfl) ?_
  refine lv_iload hx hb d_L_law_433 (lv_at hl 5 rfl) ?_
  refine lv_iconst (v := 2) hx hb d_L_law_435 (by decide) ?_
  refine lv_iadd hx hb d_L_law_436 ?_
  refine lc_ld (k := i + 2) X Y hS hbl hbA hL (nI_add i 2) (by omega) d_L_law_437 ?_
  refine lv_aload_n hx hb d_L_law_438 rfl (lv_at hl 1 rfl) ?_
  refine lv_iload hx hb d_L_law_439 (lv_at hl 5 rfl) ?_
  refine lv_iconst (v := 3) hx hb d_L_law_441 (by decide) ?_
  refine lv_iadd hx hb d_L_law_442 ?_
  refine lc_ld (k := i + 3) X Y hS hbl hbA hL (nI_add i 3) (by omega) d_L_law_443 ?_
  refine lv_aload_n hx hb d_L_law_444 rfl (lv_at hl 1 rfl) ?_
  refine lv_iload hx hb d_L_law_445 (lv_at hl 5 rfl) ?_
  refine lv_iconst (v := 4) hx hb d_L_law_447 (by decide) ?_
  refine lv_iadd hx hb d_L_law_448 ?_
  refine lc_ld (k := i + 4) X Y hS hbl hbA hL (nI_add i 4) (by omega) d_L_law_449 ?_
  refine lv_aload_n hx hb d_L_law_450 rfl (lv_at hl 1 rfl) ?_
  refine lv_iload hx hb d_L_law_451 (lv_at hl 5 rfl) ?_
  refine lv_iconst (v := 5) hx hb d_L_law_453 (by decide) ?_
  refine lv_iadd hx hb d_L_law_454 ?_
  refine lc_ld (k := i + 5) X Y hS hbl hbA hL (nI_add i 5) (by omega) d_L_law_455 ?_
  refine fp_callV (nA := 5) (As := [.int (xs (i + 1)), .int (xs (i + 2)), .int (xs (i + 3)), .int (xs (i + 4)), .int (xs (i + 5))]) (rest := []) X Y hM2 om1 rfl w708 w705 w706 w707 w9 (by decide +kernel) ⟨k5, k6⟩ ⟨(by show _ ≤ 10; omega), (by show _ ≤ 358; omega)⟩ rfl hl.1 rfl (Nat.le_of_ble_eq_true rfl) d_L_law_456 ⟨(by show _ ≤ 639796; omega), (by show _ ≤ 7176715; omega)⟩ (fun v9 f9 H locs hp9 Y => ?_)
  obtain ⟨e8, e9⟩ := hp9
  subst e8
  rw [e9] at Y
  refine W.eq (g2 := F0 m 459 ls [.int r9]) rfl ?_
  refine lv_istore (lv' := [(6, .int r9), (5, .int c9), (0, .ref sb), (1, .ref b), (2, .ref (b + 449)), (3, .ref (b + 464)), (4, .int (nI i))]) hx hb d_L_law_459 hl (by decide) rfl (fun ls hl => ?_)
  refine lv_aload_n hx hb d_L_law_461 rfl (lv_at hl 4 rfl) ?_
  refine fp_callV (nA := 0) (As := []) (rest := []) X Y (J_thrown hJ2) om2 rfl w665 w662 w663 w664 w9 (by decide +kernel) ⟨rfl, rfl⟩ ⟨Nat.le_of_ble_eq_true rfl, Nat.le_of_ble_eq_true rfl⟩ rfl hl.1 rfl (Nat.le_of_ble_eq_true rfl) d_L_law_462 ⟨(by show _ ≤ 639796; omega), (by show _ ≤ 7176715; omega)⟩ (fun v9 f9 H locs hp9 Y => ?_)
  obtain ⟨e8, e9⟩ := hp9
  subst e8
  rw [e9] at Y
  refine W.eq (g2 := F0 m 465 ls [.int c9]) rfl ?_
  refine lv_iload hx hb d_L_law_465 (lv_at hl 1 rfl) ?_
  refine lv_icmp_eq (tgt := 472) hx hb d_L_law_467 (by decide) (fun c_467 => ?_) (fun c_467 => absurd rfl c_467)
  refine lv_iload hx hb d_L_law_472 (lv_at hl 1 rfl) ?_
  refine lv_if_ne (tgt := 489) hx hb d_L_law_474 (by decide) (fun c0 => ?_) (fun c0 => ?_)
  · refine lv_goto (tgt := 901) hx hb d_L_law_489 (by decide) ?_
    exact kk f2 ou2 c9 H locs _ _ ls hJ2 ho2 Y (lv_sub hl [2, 3, 4, 5, 6] rfl) (by omega) (by omega)
  · refine lv_aload_n hx hb d_L_law_477 rfl (lv_at hl 5 rfl) ?_
    refine lv_iconst (v := 0) hx hb d_L_law_478 (by decide) ?_
    refine fp_lld X Y ⟨by omega, by omega, ho2⟩ 0 nI_0.symm (by decide) (by decide) d_L_law_479 ?_
    refine lv_iload hx hb d_L_law_480 (lv_at hl 0 rfl) ?_
    refine lv_i2l hx hb d_L_law_482 rfl ?_
    refine W.lcmp hx hb d_L_law_483 ?_
    refine lv_if_eq (tgt := 489) hx hb d_L_law_484 (by decide) (fun c_484 => ?_) (fun c_484 => absurd (by rw [hw9 c0]; exact lc_self _) c_484)
    refine lv_goto (tgt := 901) hx hb d_L_law_489 (by decide) ?_
    exact kk f2 ou2 c9 H locs _ _ ls hJ2 ho2 Y (lv_sub hl [2, 3, 4, 5, 6] rfl) (by omega) (by omega)
set_option maxHeartbeats 4000000 in
set_option maxRecDepth 100000 in
theorem L_key {p : Program} {l : Launch} {e : Env} {s : State} {m : MethodId} {args : Array Value} {below : List Frame} {meth : Method} {c : Code} {Q : State → Prop} {H : Heap} {locs : List Loc} {cells slots : Nat} {ls : Array Slot} {D : va_G} {g : Nat → ClassId} {b sb L i : Nat} {xs : Nat → Int32} {f : Nat → va_E} {ou : Nat → Int64} {th : Int32} (hfl : l.flags = flags0) (X : fp_X p s m args c b_L_law 7 "EntryTablesLaw" D (TY g)) (hEx : fp_Ex b s) (hS : va_X sb L xs s s.heap) (hbl : sb < s.heap.size) (hbA : ¬ fz_A b sb) (hL : L ≤ 3072) (hi : i + 6 ≤ L) (hJ : q_J g b f th) (hou : f (b + 464) = aL g 1 ou) (Y : fp_H D b 465 (fz_A b) f s.heap H locs) (hl : lv_has ls 7 [(0, .ref sb), (1, .ref b), (2, .ref (b + 449)), (3, .ref (b + 464)), (4, .int (nI i))]) (hc1 : cells + 1 ≤ 639796) (hc2 : slots + 6 ≤ 7176715)
    (kk : ∀ (f' : Nat → va_E) (ou' : Nat → Int64) (th' : Int32) (H' : Heap) (locs' : List Loc) (cells' slots' : Nat) (ls' : Array Slot), q_J g b f' th' → f' (b + 464) = aL g 1 ou' → fp_H D b 465 (fz_A b) f' s.heap H' locs' → lv_has ls' 7 [(0, .ref sb), (1, .ref b), (2, .ref (b + 449)), (3, .ref (b + 464)), (4, .int (nI i))] → cells' ≤ cells + 1 → slots' ≤ slots + 6 → W p l e room_1 s m args below meth c H' locs' cells' slots' Q (F0 m 901 ls' [])) : W p l e room_1 s m args below meth c H locs cells slots Q (F0 m 492 ls []) := by
  obtain ⟨f1, f2, rm1, rm2, ⟨k1, k2, k3, k4⟩, ⟨k5, k6, k7, k8⟩, hM1, hM2, ⟨vs1, hvs1⟩, hJ2, ho2⟩ := J_key (l := l) (D := D) (xs (i + 1)) (xs (i + 2)) (xs (i + 3)) (xs (i + 4)) hJ
  obtain ⟨xa, xb, xc, xd, hxo⟩ := hJ.x
  have ox : fp_o b 465 f b (ob 7 [.ref (b + 1), .ref (b + 4), .ref (b + 6), .int xa, .ref (b + 7), .int xb, .ref (b + 8), .int xc, .int xd]) := ⟨Nat.le_refl b, by omega, hxo⟩
  have om1 : fp_o b 465 f1 (b + 449) (ob 8 vs1) := ⟨by omega, by omega, hvs1⟩
  obtain ⟨vs2, hvs2⟩ := hJ2.m
  have om2 : fp_o b 465 f2 (b + 449) (ob 8 vs2) := ⟨by omega, by omega, hvs2⟩
  have hx := X.1.1
  have hb := X.1.2.1
  refine lv_aload_n hx hb d_L_law_492 rfl (lv_at hl 1 rfl) ?_
  refine lv_aload_n hx hb d_L_law_493 rfl (lv_at hl 0 rfl) ?_
  refine lv_iload hx hb d_L_law_494 (lv_at hl 4 rfl) ?_
  refine lv_iconst (v := 1) hx hb d_L_law_496 (by decide) ?_
  refine lv_iadd hx hb d_L_law_497 ?_
  refine lc_ld (k := i + 1) X Y hS hbl hbA hL (nI_add i 1) (by omega) d_L_law_498 ?_
  refine lv_aload_n hx hb d_L_law_499 rfl (lv_at hl 0 rfl) ?_
  refine lv_iload hx hb d_L_law_500 (lv_at hl 4 rfl) ?_
  refine lv_iconst (v := 2) hx hb d_L_law_502 (by decide) ?_
  refine lv_iadd hx hb d_L_law_503 ?_
  refine lc_ld (k := i + 2) X Y hS hbl hbA hL (nI_add i 2) (by omega) d_L_law_504 ?_
  refine lv_aload_n hx hb d_L_law_505 rfl (lv_at hl 0 rfl) ?_
  refine lv_iload hx hb d_L_law_506 (lv_at hl 4 rfl) ?_
  refine lv_iconst (v := 3) hx hb d_L_law_508 (by decide) ?_
  refine lv_iadd hx hb d_L_law_509 ?_
  refine lc_ld (k := i + 3) X Y hS hbl hbA hL (nI_add i 3) (by omega) d_L_law_510 ?_
  refine lv_aload_n hx hb d_L_law_511 rfl (lv_at hl 0 rfl) ?_
  refine lv_iload hx hb d_L_law_512 (lv_at hl 4 rfl) ?_
  refine lv_iconst (v := 4) hx hb d_L_law_514 (by decide) ?_
  refine lv_iadd hx hb d_L_law_515 ?_
  refine lc_ld (k := i + 4) X Y hS hbl hbA hL (nI_add i 4) (by omega) d_L_law_516 ?_
  refine fp_callV (nA := 4) (As := [.int (xs (i + 1)), .int (xs (i + 2)), .int (xs (i + 3)), .int (xs (i + 4))]) (rest := []) X Y hM1 ox rfl w253 w250 w251 w252 w1 (by decide +kernel) ⟨k1, k2⟩ ⟨(by show _ ≤ 10; omega), (by show _ ≤ 358; omega)⟩ rfl hl.1 rfl (Nat.le_of_ble_eq_true rfl) d_L_law_517 ⟨(by show _ ≤ 639796; omega), (by show _ ≤ 7176715; omega)⟩ (fun v9 f9 H locs hp9 Y => ?_)
  obtain ⟨e8, e9⟩ := hp9
  subst e8
  rw [e9] at Y
  refine W.eq (g2 := F0 m 520 ls []) rfl ?_
  refine lv_aload_n hx hb d_L_law_520 rfl (lv_at hl 2 rfl) ?_
  refine lv_aload_n hx hb d_L_law_521 rfl (lv_at hl 0 rfl) ?_
  refine lv_iload hx hb d_L_law_522 (lv_at hl 4 rfl) ?_
  refine lv_iconst (v := 1) hx hb d_L_law_524 (by decide) ?_
  refine lv_iadd hx hb d_L_law_525 ?_
  refine lc_ld (k := i + 1) X Y hS hbl hbA hL (nI_add i 1) (by omega) d_L_law_526 ?_
  refine lv_aload_n hx hb d_L_law_527 rfl (lv_at hl 0 rfl) ?_
  refine lv_iload hx hb d_L_law_528 (lv_at hl 4 rfl) ?_
  refine lv_iconst (v := 2) hx hb d_L_law_530 (by decide) ?_
  refine lv_iadd hx hb d_L_law_531 ?_
  refine lc_ld (k := i + 2) X Y hS hbl hbA hL (nI_add i 2) (by omega) d_L_law_532 ?_
  refine lv_aload_n hx hb d_L_law_533 rfl (lv_at hl 0 rfl) ?_
  refine lv_iload hx hb d_L_law_534 (lv_at hl 4 rfl) ?_
  refine lv_iconst (v := 3) hx hb d_L_law_536 (by decide) ?_
  refine lv_iadd hx hb d_L_law_537 ?_
  refine lc_ld (k := i + 3) X Y hS hbl hbA hL (nI_add i 3) (by omega) d_L_law_538 ?_
  refine lv_aload_n hx hb d_L_law_539 rfl (lv_at hl 0 rfl) ?_
  refine lv_iload hx hb d_L_law_540 (lv_at hl 4 rfl) ?_
  refine lv_iconst (v := 4) hx hb d_L_law_542 (by decide) ?_
  refine lv_iadd hx hb d_L_law_543 ?_
  refine lc_ld (k := i + 4) X Y hS hbl hbA hL (nI_add i 4) (by omega) d_L_law_544 ?_
  refine fp_callV (nA := 4) (As := [.int (xs (i + 1)), .int (xs (i + 2)), .int (xs (i + 3)), .int (xs (i + 4))]) (rest := []) X Y hM2 om1 rfl w712 w709 w710 w711 w9 (by decide +kernel) ⟨k5, k6⟩ ⟨(by show _ ≤ 10; omega), (by show _ ≤ 358; omega)⟩ rfl hl.1 rfl (Nat.le_of_ble_eq_true rfl) d_L_law_545 ⟨(by show _ ≤ 639796; omega), (by show _ ≤ 7176715; omega)⟩ (fun v9 f9 H locs hp9 Y => ?_)
  obtain ⟨e8, e9⟩ := hp9
  subst e8
  rw [e9] at Y
  refine W.eq (g2 := F0 m 548 ls []) rfl ?_
  refine lv_goto (tgt := 901) hx hb d_L_law_548 (by decide) ?_
  exact kk f2 ou 0 H locs _ _ ls hJ2 (ho2.trans hou) Y (lv_sub hl [0, 1, 2, 3, 4] rfl) (by omega) (by omega)
set_option maxHeartbeats 4000000 in
set_option maxRecDepth 100000 in
theorem L_insert {p : Program} {l : Launch} {e : Env} {s : State} {m : MethodId} {args : Array Value} {below : List Frame} {meth : Method} {c : Code} {Q : State → Prop} {H : Heap} {locs : List Loc} {cells slots : Nat} {ls : Array Slot} {D : va_G} {g : Nat → ClassId} {b sb L i : Nat} {xs : Nat → Int32} {f : Nat → va_E} {ou : Nat → Int64} {th : Int32} (hfl : l.flags = flags0) (X : fp_X p s m args c b_L_law 7 "EntryTablesLaw" D (TY g)) (hEx : fp_Ex b s) (hS : va_X sb L xs s s.heap) (hbl : sb < s.heap.size) (hbA : ¬ fz_A b sb) (hL : L ≤ 3072) (hi : i + 6 ≤ L) (hJ : q_J g b f th) (hou : f (b + 464) = aL g 1 ou) (Y : fp_H D b 465 (fz_A b) f s.heap H locs) (hl : lv_has ls 7 [(0, .ref sb), (1, .ref b), (2, .ref (b + 449)), (3, .ref (b + 464)), (4, .int (nI i))]) (hc1 : cells + 1 ≤ 639796) (hc2 : slots + 6 ≤ 7176715)
    (kk : ∀ (f' : Nat → va_E) (ou' : Nat → Int64) (th' : Int32) (H' : Heap) (locs' : List Loc) (cells' slots' : Nat) (ls' : Array Slot), q_J g b f' th' → f' (b + 464) = aL g 1 ou' → fp_H D b 465 (fz_A b) f' s.heap H' locs' → lv_has ls' 7 [(0, .ref sb), (1, .ref b), (2, .ref (b + 449)), (3, .ref (b + 464)), (4, .int (nI i))] → cells' ≤ cells + 1 → slots' ≤ slots + 6 → W p l e room_1 s m args below meth c H' locs' cells' slots' Q (F0 m 901 ls' [])) : W p l e room_1 s m args below meth c H locs cells slots Q (F0 m 551 ls []) := by
  obtain ⟨c9, r9, ou2, f1, f2, rm2, ⟨k5, k6, k7, k8⟩, hM1, hM2, ⟨vs1, hvs1⟩, hJ2, ho2, hw9⟩ := J_insert (l := l) (D := D) (xs (i + 1)) (xs (i + 2)) (xs (i + 3)) (xs (i + 4)) (xs (i + 5)) hfl hou hJ
  obtain ⟨xa, xb, xc, xd, hxo⟩ := hJ.x
  have ox : fp_o b 465 f b (ob 7 [.ref (b + 1), .ref (b + 4), .ref (b + 6), .int xa, .ref (b + 7), .int xb, .ref (b + 8), .int xc, .int xd]) := ⟨Nat.le_refl b, by omega, hxo⟩
  have om1 : fp_o b 465 f1 (b + 449) (ob 8 vs1) := ⟨by omega, by omega, hvs1⟩
  obtain ⟨vs2, hvs2⟩ := hJ2.m
  have om2 : fp_o b 465 f2 (b + 449) (ob 8 vs2) := ⟨by omega, by omega, hvs2⟩
  have hx := X.1.1
  have hb := X.1.2.1
  refine lv_aload_n hx hb d_L_law_551 rfl (lv_at hl 1 rfl) ?_
  refine lv_aload_n hx hb d_L_law_552 rfl (lv_at hl 0 rfl) ?_
  refine lv_iload hx hb d_L_law_553 (lv_at hl 4 rfl) ?_
  refine lv_iconst (v := 1) hx hb d_L_law_555 (by decide) ?_
  refine lv_iadd hx hb d_L_law_556 ?_
  refine lc_ld (k := i + 1) X Y hS hbl hbA hL (nI_add i 1) (by omega) d_L_law_557 ?_
  refine lv_aload_n hx hb d_L_law_558 rfl (lv_at hl 0 rfl) ?_
  refine lv_iload hx hb d_L_law_559 (lv_at hl 4 rfl) ?_
  refine lv_iconst (v := 2) hx hb d_L_law_561 (by decide) ?_
  refine lv_iadd hx hb d_L_law_562 ?_
  refine lc_ld (k := i + 2) X Y hS hbl hbA hL (nI_add i 2) (by omega) d_L_law_563 ?_
  refine lv_aload_n hx hb d_L_law_564 rfl (lv_at hl 0 rfl) ?_
  refine lv_iload hx hb d_L_law_565 (lv_at hl 4 rfl) ?_
  refine lv_iconst (v := 3) hx hb d_L_law_567 (by decide) ?_
  refine lv_iadd hx hb d_L_law_568 ?_
  refine lc_ld (k := i + 3) X Y hS hbl hbA hL (nI_add i 3) (by omega) d_L_law_569 ?_
  refine lv_aload_n hx hb d_L_law_570 rfl (lv_at hl 0 rfl) ?_
  refine lv_iload hx hb d_L_law_571 (lv_at hl 4 rfl) ?_
  refine lv_iconst (v := 4) hx hb d_L_law_573 (by decide) ?_
  refine lv_iadd hx hb d_L_law_574 ?_
  refine lc_ld (k := i + 4) X Y hS hbl hbA hL (nI_add i 4) (by omega) d_L_law_575 ?_
  refine lv_aload_n hx hb d_L_law_576 rfl (lv_at hl 0 rfl) ?_
  refine lv_iload hx hb d_L_law_577 (lv_at hl 4 rfl) ?_
  refine lv_iconst (v := 5) hx hb d_L_law_579 (by decide) ?_
  refine lv_iadd hx hb d_L_law_580 ?_
  refine lc_ld (k := i + 5) X Y hS hbl hbA hL (nI_add i 5) (by omega) d_L_law_581 ?_
  refine lv_aload_n hx hb d_L_law_582 rfl (lv_at hl 3 rfl) ?_
  refine fp_callSW (nA := 7) (As := [.ref b, .int (xs (i + 1)), .int (xs (i + 2)), .int (xs (i + 3)), .int (xs (i + 4)), .int (xs (i + 5)), .ref (b + 464)]) (rest := []) X Y hEx (fun _ h => h) hM1 w524 w522 w523 w0 (by decide +kernel) ⟨rfl, rfl⟩ ⟨Nat.le_of_ble_eq_true rfl, Nat.le_of_ble_eq_true rfl⟩ rfl hl.1 rfl (Nat.le_of_ble_eq_true rfl) d_L_law_583 ⟨(by show _ ≤ 639796; omega), (by show _ ≤ 7176715; omega)⟩ (fun v9 f9 H locs hp9 Y => ?_)
  obtain ⟨e8, e9⟩ := hp9
  subst e8
  rw [e9] at Y
  refine W.eq (g2 := F0 m 586 ls [.int c9]) rfl ?_
  refine lv_istore (lv' := [(5, .int c9), (0, .ref sb), (1, .ref b), (2, .ref (b + 449)), (3, .ref (b + 464)), (4, .int (nI i))]) hx hb d_L_law_586 hl (by decide) rfl (fun ls hl => ?_)
  refine lv_aload_n hx hb d_L_law_588 rfl (lv_at hl 3 rfl) ?_
  refine lv_aload_n hx hb d_L_law_589 rfl (lv_at hl 1 rfl) ?_
  refine lv_iload hx hb d_L_law_590 (lv_at hl 5 rfl) ?_
  refine lv_iconst (v := 1) hx hb d_L_law_592 (by decide) ?_
  refine lv_iadd hx hb d_L_law_593 ?_
  refine lc_ld (k := i + 1) X Y hS hbl hbA hL (nI_add i 1) (by omega) d_L_law_594 ?_
  refine lv_aload_n hx hb d_L_law_595 rfl (lv_at hl 1 rfl) ?_
  refine lv_iload hx hb d_L_law_596 (lv_at hl 5 rfl) ?_
  refine lv_iconst (v := 2) hx hb d_L_law_598 (by decide) ?_
  refine lv_iadd hx hb d_L_law_599 ?_
  refine lc_ld (k := i + 2) X Y hS hbl hbA hL (nI_add i 2) (by omega) d_L_law_600 ?_
  refine lv_aload_n hx hb d_L_law_601 rfl (lv_at hl 1 rfl) ?_
  refine lv_iload hx hb d_L_law_602 (lv_at hl 5 rfl) ?_
  refine lv_iconst (v := 3) hx hb d_L_law_604 (by decide) ?_
  refine lv_iadd hx hb d_L_law_605 ?_
  refine lc_ld (k := i + 3) X Y hS hbl hbA hL (nI_add i 3) (by omega) d_L_law_606 ?_
  refine lv_aload_n hx hb d_L_law_607 rfl (lv_at hl 1 rfl) ?_
  refine lv_iload hx hb d_L_law_608 (lv_at hl 5 rfl) ?_
  refine lv_iconst (v := 4) hx hb d_L_law_610 (by decide) ?_
  refine lv_iadd hx hb d_L_law_611 ?_
  refine lc_ld (k := i + 4) X Y hS hbl hbA hL (nI_add i 4) (by omega) d_L_law_612 ?_
  refine lv_aload_n hx hb d_L_law_613 rfl (lv_at hl 1 rfl) ?_
  refine lv_iload hx hb d_L_law_614 (lv_at hl 5 rfl) ?_
  refine lv_iconst (v := 5) hx hb d_L_law_616 (by decide) ?_
  refine lv_iadd hx hb d_L_law_617 ?_
  refine lc_ld (k := i + 5) X Y hS hbl hbA hL (nI_add i 5) (by omega) d_L_law_618 ?_
  refine fp_callV (nA := 5) (As := [.int (xs (i + 1)), .int (xs (i + 2)), .int (xs (i + 3)), .int (xs (i + 4)), .int (xs (i + 5))]) (rest := []) X Y hM2 om1 rfl w716 w713 w714 w715 w9 (by decide +kernel) ⟨k5, k6⟩ ⟨(by show _ ≤ 10; omega), (by show _ ≤ 358; omega)⟩ rfl hl.1 rfl (Nat.le_of_ble_eq_true rfl) d_L_law_619 ⟨(by show _ ≤ 639796; omega), (by show _ ≤ 7176715; omega)⟩ (fun v9 f9 H locs hp9 Y => ?_)
  obtain ⟨e8, e9⟩ := hp9
  subst e8
  rw [e9] at Y
  refine W.eq (g2 := F0 m 622 ls [.int r9]) rfl ?_
  refine lv_istore (lv' := [(6, .int r9), (5, .int c9), (0, .ref sb), (1, .ref b), (2, .ref (b + 449)), (3, .ref (b + 464)), (4, .int (nI i))]) hx hb d_L_law_622 hl (by decide) rfl (fun ls hl => ?_)
  refine lv_aload_n hx hb d_L_law_624 rfl (lv_at hl 4 rfl) ?_
  refine fp_callV (nA := 0) (As := []) (rest := []) X Y (J_thrown hJ2) om2 rfl w665 w662 w663 w664 w9 (by decide +kernel) ⟨rfl, rfl⟩ ⟨Nat.le_of_ble_eq_true rfl, Nat.le_of_ble_eq_true rfl⟩ rfl hl.1 rfl (Nat.le_of_ble_eq_true rfl) d_L_law_625 ⟨(by show _ ≤ 639796; omega), (by show _ ≤ 7176715; omega)⟩ (fun v9 f9 H locs hp9 Y => ?_)
  obtain ⟨e8, e9⟩ := hp9
  subst e8
  rw [e9] at Y
  refine W.eq (g2 := F0 m 628 ls [.int c9]) rfl ?_
  refine lv_iload hx hb d_L_law_628 (lv_at hl 1 rfl) ?_
  refine lv_icmp_eq (tgt := 635) hx hb d_L_law_630 (by decide) (fun c_630 => ?_) (fun c_630 => absurd rfl c_630)
  refine lv_iload hx hb d_L_law_635 (lv_at hl 1 rfl) ?_
  refine lv_if_ne (tgt := 659) hx hb d_L_law_637 (by decide) (fun c0 => ?_) (fun c0 => ?_)
  · refine lv_goto (tgt := 901) hx hb d_L_law_659 (by decide) ?_
    exact kk f2 ou2 c9 H locs _ _ ls hJ2 ho2 Y (lv_sub hl [2, 3, 4, 5, 6] rfl) (by omega) (by omega)
  · refine lv_aload_n hx hb d_L_law_640 rfl (lv_at hl 5 rfl) ?_
    refine lv_iconst (v := 0) hx hb d_L_law_641 (by decide) ?_
    refine fp_lld X Y ⟨by omega, by omega, ho2⟩ 0 nI_0.symm (by decide) (by decide) d_L_law_642 ?_
    refine lv_iload hx hb d_L_law_643 (lv_at hl 0 rfl) ?_
    refine lv_if_eq (tgt := 652) hx hb d_L_law_645 (by decide) (fun r0 => ?_) (fun r0 => ?_)
    · refine lv_lconst (v := 0) hx hb d_L_law_652 (by decide) ?_
      refine W.lcmp hx hb d_L_law_653 ?_
      refine lv_if_eq (tgt := 659) hx hb d_L_law_654 (by decide) (fun c_654 => ?_) (fun c_654 => absurd (by rw [hw9 c0, if_pos r0]; exact lc_self _) c_654)
      refine lv_goto (tgt := 901) hx hb d_L_law_659 (by decide) ?_
      exact kk f2 ou2 c9 H locs _ _ ls hJ2 ho2 Y (lv_sub hl [2, 3, 4, 5, 6] rfl) (by omega) (by omega)
    · refine lv_lconst (v := 1) hx hb d_L_law_648 (by decide) ?_
      refine lv_goto (tgt := 653) hx hb d_L_law_649 (by decide) ?_
      refine W.lcmp hx hb d_L_law_653 ?_
      refine lv_if_eq (tgt := 659) hx hb d_L_law_654 (by decide) (fun c_654 => ?_) (fun c_654 => absurd (by rw [hw9 c0, if_neg r0]; exact lc_self _) c_654)
      refine lv_goto (tgt := 901) hx hb d_L_law_659 (by decide) ?_
      exact kk f2 ou2 c9 H locs _ _ ls hJ2 ho2 Y (lv_sub hl [2, 3, 4, 5, 6] rfl) (by omega) (by omega)
set_option maxHeartbeats 4000000 in
set_option maxRecDepth 100000 in
theorem L_remove {p : Program} {l : Launch} {e : Env} {s : State} {m : MethodId} {args : Array Value} {below : List Frame} {meth : Method} {c : Code} {Q : State → Prop} {H : Heap} {locs : List Loc} {cells slots : Nat} {ls : Array Slot} {D : va_G} {g : Nat → ClassId} {b sb L i : Nat} {xs : Nat → Int32} {f : Nat → va_E} {ou : Nat → Int64} {th : Int32} (hfl : l.flags = flags0) (X : fp_X p s m args c b_L_law 7 "EntryTablesLaw" D (TY g)) (hEx : fp_Ex b s) (hS : va_X sb L xs s s.heap) (hbl : sb < s.heap.size) (hbA : ¬ fz_A b sb) (hL : L ≤ 3072) (hi : i + 6 ≤ L) (hJ : q_J g b f th) (hou : f (b + 464) = aL g 1 ou) (Y : fp_H D b 465 (fz_A b) f s.heap H locs) (hl : lv_has ls 7 [(0, .ref sb), (1, .ref b), (2, .ref (b + 449)), (3, .ref (b + 464)), (4, .int (nI i))]) (hc1 : cells + 1 ≤ 639796) (hc2 : slots + 6 ≤ 7176715)
    (kk : ∀ (f' : Nat → va_E) (ou' : Nat → Int64) (th' : Int32) (H' : Heap) (locs' : List Loc) (cells' slots' : Nat) (ls' : Array Slot), q_J g b f' th' → f' (b + 464) = aL g 1 ou' → fp_H D b 465 (fz_A b) f' s.heap H' locs' → lv_has ls' 7 [(0, .ref sb), (1, .ref b), (2, .ref (b + 449)), (3, .ref (b + 464)), (4, .int (nI i))] → cells' ≤ cells + 1 → slots' ≤ slots + 6 → W p l e room_1 s m args below meth c H' locs' cells' slots' Q (F0 m 901 ls' [])) : W p l e room_1 s m args below meth c H locs cells slots Q (F0 m 662 ls []) := by
  obtain ⟨c9, r9, ou2, f1, f2, rm2, ⟨k5, k6, k7, k8⟩, hM1, hM2, ⟨vs1, hvs1⟩, hJ2, ho2, hw9⟩ := J_remove (l := l) (D := D) (xs (i + 1)) hfl hou hJ
  obtain ⟨xa, xb, xc, xd, hxo⟩ := hJ.x
  have ox : fp_o b 465 f b (ob 7 [.ref (b + 1), .ref (b + 4), .ref (b + 6), .int xa, .ref (b + 7), .int xb, .ref (b + 8), .int xc, .int xd]) := ⟨Nat.le_refl b, by omega, hxo⟩
  have om1 : fp_o b 465 f1 (b + 449) (ob 8 vs1) := ⟨by omega, by omega, hvs1⟩
  obtain ⟨vs2, hvs2⟩ := hJ2.m
  have om2 : fp_o b 465 f2 (b + 449) (ob 8 vs2) := ⟨by omega, by omega, hvs2⟩
  have hx := X.1.1
  have hb := X.1.2.1
  refine lv_aload_n hx hb d_L_law_662 rfl (lv_at hl 1 rfl) ?_
  refine lv_aload_n hx hb d_L_law_663 rfl (lv_at hl 0 rfl) ?_
  refine lv_iload hx hb d_L_law_664 (lv_at hl 4 rfl) ?_
  refine lv_iconst (v := 1) hx hb d_L_law_666 (by decide) ?_
  refine lv_iadd hx hb d_L_law_667 ?_
  refine lc_ld (k := i + 1) X Y hS hbl hbA hL (nI_add i 1) (by omega) d_L_law_668 ?_
  refine lv_aload_n hx hb d_L_law_669 rfl (lv_at hl 3 rfl) ?_
  refine fp_callSW (nA := 3) (As := [.ref b, .int (xs (i + 1)), .ref (b + 464)]) (rest := []) X Y hEx (fun _ h => h) hM1 w560 w558 w559 w0 (by decide +kernel) ⟨rfl, rfl⟩ ⟨Nat.le_of_ble_eq_true rfl, Nat.le_of_ble_eq_true rfl⟩ rfl hl.1 rfl (Nat.le_of_ble_eq_true rfl) d_L_law_670 ⟨(by show _ ≤ 639796; omega), (by show _ ≤ 7176715; omega)⟩ (fun v9 f9 H locs hp9 Y => ?_)
  obtain ⟨e8, e9⟩ := hp9
  subst e8
  rw [e9] at Y
  refine W.eq (g2 := F0 m 673 ls [.int c9]) rfl ?_
  refine lv_istore (lv' := [(5, .int c9), (0, .ref sb), (1, .ref b), (2, .ref (b + 449)), (3, .ref (b + 464)), (4, .int (nI i))]) hx hb d_L_law_673 hl (by decide) rfl (fun ls hl => ?_)
  refine lv_aload_n hx hb d_L_law_675 rfl (lv_at hl 3 rfl) ?_
  refine lv_aload_n hx hb d_L_law_676 rfl (lv_at hl 1 rfl) ?_
  refine lv_iload hx hb d_L_law_677 (lv_at hl 5 rfl) ?_
  refine lv_iconst (v := 1) hx hb d_L_law_679 (by decide) ?_
  refine lv_iadd hx hb d_L_law_680 ?_
  refine lc_ld (k := i + 1) X Y hS hbl hbA hL (nI_add i 1) (by omega) d_L_law_681 ?_
  refine fp_callV (nA := 1) (As := [.int (xs (i + 1))]) (rest := []) X Y hM2 om1 rfl w732 w729 w730 w731 w9 (by decide +kernel) ⟨k5, k6⟩ ⟨(by show _ ≤ 10; omega), (by show _ ≤ 358; omega)⟩ rfl hl.1 rfl (Nat.le_of_ble_eq_true rfl) d_L_law_682 ⟨(by show _ ≤ 639796; omega), (by show _ ≤ 7176715; omega)⟩ (fun v9 f9 H locs hp9 Y => ?_)
  obtain ⟨e8, e9⟩ := hp9
  subst e8
  rw [e9] at Y
  refine W.eq (g2 := F0 m 685 ls [.int r9]) rfl ?_
  refine lv_istore (lv' := [(6, .int r9), (5, .int c9), (0, .ref sb), (1, .ref b), (2, .ref (b + 449)), (3, .ref (b + 464)), (4, .int (nI i))]) hx hb d_L_law_685 hl (by decide) rfl (fun ls hl => ?_)
  refine lv_aload_n hx hb d_L_law_687 rfl (lv_at hl 4 rfl) ?_
  refine fp_callV (nA := 0) (As := []) (rest := []) X Y (J_thrown hJ2) om2 rfl w665 w662 w663 w664 w9 (by decide +kernel) ⟨rfl, rfl⟩ ⟨Nat.le_of_ble_eq_true rfl, Nat.le_of_ble_eq_true rfl⟩ rfl hl.1 rfl (Nat.le_of_ble_eq_true rfl) d_L_law_688 ⟨(by show _ ≤ 639796; omega), (by show _ ≤ 7176715; omega)⟩ (fun v9 f9 H locs hp9 Y => ?_)
  obtain ⟨e8, e9⟩ := hp9
  subst e8
  rw [e9] at Y
  refine W.eq (g2 := F0 m 691 ls [.int c9]) rfl ?_
  refine lv_iload hx hb d_L_law_691 (lv_at hl 1 rfl) ?_
  refine lv_icmp_eq (tgt := 698) hx hb d_L_law_693 (by decide) (fun c_693 => ?_) (fun c_693 => absurd rfl c_693)
  refine lv_iload hx hb d_L_law_698 (lv_at hl 1 rfl) ?_
  refine lv_if_ne (tgt := 722) hx hb d_L_law_700 (by decide) (fun c0 => ?_) (fun c0 => ?_)
  · refine lv_goto (tgt := 901) hx hb d_L_law_722 (by decide) ?_
    exact kk f2 ou2 c9 H locs _ _ ls hJ2 ho2 Y (lv_sub hl [2, 3, 4, 5, 6] rfl) (by omega) (by omega)
  · refine lv_aload_n hx hb d_L_law_703 rfl (lv_at hl 5 rfl) ?_
    refine lv_iconst (v := 0) hx hb d_L_law_704 (by decide) ?_
    refine fp_lld X Y ⟨by omega, by omega, ho2⟩ 0 nI_0.symm (by decide) (by decide) d_L_law_705 ?_
    refine lv_iload hx hb d_L_law_706 (lv_at hl 0 rfl) ?_
    refine lv_if_eq (tgt := 715) hx hb d_L_law_708 (by decide) (fun r0 => ?_) (fun r0 => ?_)
    · refine lv_lconst (v := 0) hx hb d_L_law_715 (by decide) ?_
      refine W.lcmp hx hb d_L_law_716 ?_
      refine lv_if_eq (tgt := 722) hx hb d_L_law_717 (by decide) (fun c_717 => ?_) (fun c_717 => absurd (by rw [hw9 c0, if_pos r0]; exact lc_self _) c_717)
      refine lv_goto (tgt := 901) hx hb d_L_law_722 (by decide) ?_
      exact kk f2 ou2 c9 H locs _ _ ls hJ2 ho2 Y (lv_sub hl [2, 3, 4, 5, 6] rfl) (by omega) (by omega)
    · refine lv_lconst (v := 1) hx hb d_L_law_711 (by decide) ?_
      refine lv_goto (tgt := 716) hx hb d_L_law_712 (by decide) ?_
      refine W.lcmp hx hb d_L_law_716 ?_
      refine lv_if_eq (tgt := 722) hx hb d_L_law_717 (by decide) (fun c_717 => ?_) (fun c_717 => absurd (by rw [hw9 c0, if_neg r0]; exact lc_self _) c_717)
      refine lv_goto (tgt := 901) hx hb d_L_law_722 (by decide) ?_
      exact kk f2 ou2 c9 H locs _ _ ls hJ2 ho2 Y (lv_sub hl [2, 3, 4, 5, 6] rfl) (by omega) (by omega)
set_option maxHeartbeats 4000000 in
set_option maxRecDepth 100000 in
theorem L_act {p : Program} {l : Launch} {e : Env} {s : State} {m : MethodId} {args : Array Value} {below : List Frame} {meth : Method} {c : Code} {Q : State → Prop} {H : Heap} {locs : List Loc} {cells slots : Nat} {ls : Array Slot} {D : va_G} {g : Nat → ClassId} {b sb L i : Nat} {xs : Nat → Int32} {f : Nat → va_E} {ou : Nat → Int64} {th : Int32} (hfl : l.flags = flags0) (X : fp_X p s m args c b_L_law 7 "EntryTablesLaw" D (TY g)) (hEx : fp_Ex b s) (hS : va_X sb L xs s s.heap) (hbl : sb < s.heap.size) (hbA : ¬ fz_A b sb) (hL : L ≤ 3072) (hi : i + 6 ≤ L) (hJ : q_J g b f th) (hou : f (b + 464) = aL g 1 ou) (Y : fp_H D b 465 (fz_A b) f s.heap H locs) (hl : lv_has ls 7 [(0, .ref sb), (1, .ref b), (2, .ref (b + 449)), (3, .ref (b + 464)), (4, .int (nI i))]) (hc1 : cells + 1 ≤ 639796) (hc2 : slots + 6 ≤ 7176715)
    (kk : ∀ (f' : Nat → va_E) (ou' : Nat → Int64) (th' : Int32) (H' : Heap) (locs' : List Loc) (cells' slots' : Nat) (ls' : Array Slot), q_J g b f' th' → f' (b + 464) = aL g 1 ou' → fp_H D b 465 (fz_A b) f' s.heap H' locs' → lv_has ls' 7 [(0, .ref sb), (1, .ref b), (2, .ref (b + 449)), (3, .ref (b + 464)), (4, .int (nI i))] → cells' ≤ cells + 1 → slots' ≤ slots + 6 → W p l e room_1 s m args below meth c H' locs' cells' slots' Q (F0 m 901 ls' [])) : W p l e room_1 s m args below meth c H locs cells slots Q (F0 m 725 ls []) := by
  obtain ⟨c9, r9, ou2, f1, f2, rm2, ⟨k5, k6, k7, k8⟩, hM1, hM2, ⟨vs1, hvs1⟩, hJ2, ho2, hw9⟩ := J_act (l := l) (D := D) (xs (i + 1)) hfl hou hJ
  obtain ⟨xa, xb, xc, xd, hxo⟩ := hJ.x
  have ox : fp_o b 465 f b (ob 7 [.ref (b + 1), .ref (b + 4), .ref (b + 6), .int xa, .ref (b + 7), .int xb, .ref (b + 8), .int xc, .int xd]) := ⟨Nat.le_refl b, by omega, hxo⟩
  have om1 : fp_o b 465 f1 (b + 449) (ob 8 vs1) := ⟨by omega, by omega, hvs1⟩
  obtain ⟨vs2, hvs2⟩ := hJ2.m
  have om2 : fp_o b 465 f2 (b + 449) (ob 8 vs2) := ⟨by omega, by omega, hvs2⟩
  have hx := X.1.1
  have hb := X.1.2.1
  refine lv_aload_n hx hb d_L_law_725 rfl (lv_at hl 1 rfl) ?_
  refine lv_aload_n hx hb d_L_law_726 rfl (lv_at hl 0 rfl) ?_
  refine lv_iload hx hb d_L_law_727 (lv_at hl 4 rfl) ?_
  refine lv_iconst (v := 1) hx hb d_L_law_729 (by decide) ?_
  refine lv_iadd hx hb d_L_law_730 ?_
  refine lc_ld (k := i + 1) X Y hS hbl hbA hL (nI_add i 1) (by omega) d_L_law_731 ?_
  refine lv_aload_n hx hb d_L_law_732 rfl (lv_at hl 3 rfl) ?_
  refine fp_callSW (nA := 3) (As := [.ref b, .int (xs (i + 1)), .ref (b + 464)]) (rest := []) X Y hEx (fun _ h => h) hM1 w571 w569 w570 w0 (by decide +kernel) ⟨rfl, rfl⟩ ⟨Nat.le_of_ble_eq_true rfl, Nat.le_of_ble_eq_true rfl⟩ rfl hl.1 rfl (Nat.le_of_ble_eq_true rfl) d_L_law_733 ⟨(by show _ ≤ 639796; omega), (by show _ ≤ 7176715; omega)⟩ (fun v9 f9 H locs hp9 Y => ?_)
  obtain ⟨e8, e9⟩ := hp9
  subst e8
  rw [e9] at Y
  refine W.eq (g2 := F0 m 736 ls [.int c9]) rfl ?_
  refine lv_istore (lv' := [(5, .int c9), (0, .ref sb), (1, .ref b), (2, .ref (b + 449)), (3, .ref (b + 464)), (4, .int (nI i))]) hx hb d_L_law_736 hl (by decide) rfl (fun ls hl => ?_)
  refine lv_aload_n hx hb d_L_law_738 rfl (lv_at hl 3 rfl) ?_
  refine lv_aload_n hx hb d_L_law_739 rfl (lv_at hl 1 rfl) ?_
  refine lv_iload hx hb d_L_law_740 (lv_at hl 5 rfl) ?_
  refine lv_iconst (v := 1) hx hb d_L_law_742 (by decide) ?_
  refine lv_iadd hx hb d_L_law_743 ?_
  refine lc_ld (k := i + 1) X Y hS hbl hbA hL (nI_add i 1) (by omega) d_L_law_744 ?_
  refine fp_callV (nA := 1) (As := [.int (xs (i + 1))]) (rest := []) X Y hM2 om1 rfl w736 w733 w734 w735 w9 (by decide +kernel) ⟨k5, k6⟩ ⟨(by show _ ≤ 10; omega), (by show _ ≤ 358; omega)⟩ rfl hl.1 rfl (Nat.le_of_ble_eq_true rfl) d_L_law_745 ⟨(by show _ ≤ 639796; omega), (by show _ ≤ 7176715; omega)⟩ (fun v9 f9 H locs hp9 Y => ?_)
  obtain ⟨e8, e9⟩ := hp9
  subst e8
  rw [e9] at Y
  refine W.eq (g2 := F0 m 748 ls [.int r9]) rfl ?_
  refine lv_istore (lv' := [(6, .int r9), (5, .int c9), (0, .ref sb), (1, .ref b), (2, .ref (b + 449)), (3, .ref (b + 464)), (4, .int (nI i))]) hx hb d_L_law_748 hl (by decide) rfl (fun ls hl => ?_)
  refine lv_aload_n hx hb d_L_law_750 rfl (lv_at hl 4 rfl) ?_
  refine fp_callV (nA := 0) (As := []) (rest := []) X Y (J_thrown hJ2) om2 rfl w665 w662 w663 w664 w9 (by decide +kernel) ⟨rfl, rfl⟩ ⟨Nat.le_of_ble_eq_true rfl, Nat.le_of_ble_eq_true rfl⟩ rfl hl.1 rfl (Nat.le_of_ble_eq_true rfl) d_L_law_751 ⟨(by show _ ≤ 639796; omega), (by show _ ≤ 7176715; omega)⟩ (fun v9 f9 H locs hp9 Y => ?_)
  obtain ⟨e8, e9⟩ := hp9
  subst e8
  rw [e9] at Y
  refine W.eq (g2 := F0 m 754 ls [.int c9]) rfl ?_
  refine lv_iload hx hb d_L_law_754 (lv_at hl 1 rfl) ?_
  refine lv_icmp_eq (tgt := 761) hx hb d_L_law_756 (by decide) (fun c_756 => ?_) (fun c_756 => absurd rfl c_756)
  refine lv_iload hx hb d_L_law_761 (lv_at hl 1 rfl) ?_
  refine lv_if_ne (tgt := 785) hx hb d_L_law_763 (by decide) (fun c0 => ?_) (fun c0 => ?_)
  · refine lv_goto (tgt := 901) hx hb d_L_law_785 (by decide) ?_
    exact kk f2 ou2 c9 H locs _ _ ls hJ2 ho2 Y (lv_sub hl [2, 3, 4, 5, 6] rfl) (by omega) (by omega)
  · refine lv_aload_n hx hb d_L_law_766 rfl (lv_at hl 5 rfl) ?_
    refine lv_iconst (v := 0) hx hb d_L_law_767 (by decide) ?_
    refine fp_lld X Y ⟨by omega, by omega, ho2⟩ 0 nI_0.symm (by decide) (by decide) d_L_law_768 ?_
    refine lv_iload hx hb d_L_law_769 (lv_at hl 0 rfl) ?_
    refine lv_if_eq (tgt := 778) hx hb d_L_law_771 (by decide) (fun r0 => ?_) (fun r0 => ?_)
    · refine lv_lconst (v := 0) hx hb d_L_law_778 (by decide) ?_
      refine W.lcmp hx hb d_L_law_779 ?_
      refine lv_if_eq (tgt := 785) hx hb d_L_law_780 (by decide) (fun c_780 => ?_) (fun c_780 => absurd (by rw [hw9 c0, if_pos r0]; exact lc_self _) c_780)
      refine lv_goto (tgt := 901) hx hb d_L_law_785 (by decide) ?_
      exact kk f2 ou2 c9 H locs _ _ ls hJ2 ho2 Y (lv_sub hl [2, 3, 4, 5, 6] rfl) (by omega) (by omega)
    · refine lv_lconst (v := 1) hx hb d_L_law_774 (by decide) ?_
      refine lv_goto (tgt := 779) hx hb d_L_law_775 (by decide) ?_
      refine W.lcmp hx hb d_L_law_779 ?_
      refine lv_if_eq (tgt := 785) hx hb d_L_law_780 (by decide) (fun c_780 => ?_) (fun c_780 => absurd (by rw [hw9 c0, if_neg r0]; exact lc_self _) c_780)
      refine lv_goto (tgt := 901) hx hb d_L_law_785 (by decide) ?_
      exact kk f2 ou2 c9 H locs _ _ ls hJ2 ho2 Y (lv_sub hl [2, 3, 4, 5, 6] rfl) (by omega) (by omega)
set_option maxHeartbeats 4000000 in
set_option maxRecDepth 100000 in
theorem L_matches {p : Program} {l : Launch} {e : Env} {s : State} {m : MethodId} {args : Array Value} {below : List Frame} {meth : Method} {c : Code} {Q : State → Prop} {H : Heap} {locs : List Loc} {cells slots : Nat} {ls : Array Slot} {D : va_G} {g : Nat → ClassId} {b sb L i : Nat} {xs : Nat → Int32} {f : Nat → va_E} {ou : Nat → Int64} {th : Int32} (hfl : l.flags = flags0) (X : fp_X p s m args c b_L_law 7 "EntryTablesLaw" D (TY g)) (hEx : fp_Ex b s) (hS : va_X sb L xs s s.heap) (hbl : sb < s.heap.size) (hbA : ¬ fz_A b sb) (hL : L ≤ 3072) (hi : i + 6 ≤ L) (hJ : q_J g b f th) (hou : f (b + 464) = aL g 1 ou) (Y : fp_H D b 465 (fz_A b) f s.heap H locs) (hl : lv_has ls 7 [(0, .ref sb), (1, .ref b), (2, .ref (b + 449)), (3, .ref (b + 464)), (4, .int (nI i))]) (hc1 : cells + 1 ≤ 639796) (hc2 : slots + 6 ≤ 7176715)
    (kk : ∀ (f' : Nat → va_E) (ou' : Nat → Int64) (th' : Int32) (H' : Heap) (locs' : List Loc) (cells' slots' : Nat) (ls' : Array Slot), q_J g b f' th' → f' (b + 464) = aL g 1 ou' → fp_H D b 465 (fz_A b) f' s.heap H' locs' → lv_has ls' 7 [(0, .ref sb), (1, .ref b), (2, .ref (b + 449)), (3, .ref (b + 464)), (4, .int (nI i))] → cells' ≤ cells + 1 → slots' ≤ slots + 6 → W p l e room_1 s m args below meth c H' locs' cells' slots' Q (F0 m 901 ls' [])) : W p l e room_1 s m args below meth c H locs cells slots Q (F0 m 788 ls []) := by
  obtain ⟨r9, f1, f2, rm1, rm2, ⟨k1, k2, k3, k4⟩, ⟨k5, k6, k7, k8⟩, hM1, hM2, ⟨vs1, hvs1⟩, hJ2, ho2⟩ := J_matches (l := l) (D := D) (xs (i + 1)) hJ
  obtain ⟨xa, xb, xc, xd, hxo⟩ := hJ.x
  have ox : fp_o b 465 f b (ob 7 [.ref (b + 1), .ref (b + 4), .ref (b + 6), .int xa, .ref (b + 7), .int xb, .ref (b + 8), .int xc, .int xd]) := ⟨Nat.le_refl b, by omega, hxo⟩
  have om1 : fp_o b 465 f1 (b + 449) (ob 8 vs1) := ⟨by omega, by omega, hvs1⟩
  obtain ⟨vs2, hvs2⟩ := hJ2.m
  have om2 : fp_o b 465 f2 (b + 449) (ob 8 vs2) := ⟨by omega, by omega, hvs2⟩
  have hx := X.1.1
  have hb := X.1.2.1
  refine lv_aload_n hx hb d_L_law_788 rfl (lv_at hl 1 rfl) ?_
  refine lv_aload_n hx hb d_L_law_789 rfl (lv_at hl 0 rfl) ?_
  refine lv_iload hx hb d_L_law_790 (lv_at hl 4 rfl) ?_
  refine lv_iconst (v := 1) hx hb d_L_law_792 (by decide) ?_
  refine lv_iadd hx hb d_L_law_793 ?_
  refine lc_ld (k := i + 1) X Y hS hbl hbA hL (nI_add i 1) (by omega) d_L_law_794 ?_
  refine fp_callV (nA := 1) (As := [.int (xs (i + 1))]) (rest := []) X Y hM1 ox rfl w257 w254 w255 w256 w1 (by decide +kernel) ⟨k1, k2⟩ ⟨(by show _ ≤ 10; omega), (by show _ ≤ 358; omega)⟩ rfl hl.1 rfl (Nat.le_of_ble_eq_true rfl) d_L_law_795 ⟨(by show _ ≤ 639796; omega), (by show _ ≤ 7176715; omega)⟩ (fun v9 f9 H locs hp9 Y => ?_)
  obtain ⟨e8, e9⟩ := hp9
  subst e8
  rw [e9] at Y
  refine W.eq (g2 := F0 m 798 ls [.int r9]) rfl ?_
  refine lv_aload_n hx hb d_L_law_798 rfl (lv_at hl 2 rfl) ?_
  refine lv_aload_n hx hb d_L_law_799 rfl (lv_at hl 0 rfl) ?_
  refine lv_iload hx hb d_L_law_800 (lv_at hl 4 rfl) ?_
  refine lv_iconst (v := 1) hx hb d_L_law_802 (by decide) ?_
  refine lv_iadd hx hb d_L_law_803 ?_
  refine lc_ld (k := i + 1) X Y hS hbl hbA hL (nI_add i 1) (by omega) d_L_law_804 ?_
  refine fp_callV (nA := 1) (As := [.int (xs (i + 1))]) (rest := [.int r9]) X Y hM2 om1 rfl w755 w752 w753 w754 w9 (by decide +kernel) ⟨k5, k6⟩ ⟨(by show _ ≤ 10; omega), (by show _ ≤ 358; omega)⟩ rfl hl.1 rfl (Nat.le_of_ble_eq_true rfl) d_L_law_805 ⟨(by show _ ≤ 639796; omega), (by show _ ≤ 7176715; omega)⟩ (fun v9 f9 H locs hp9 Y => ?_)
  obtain ⟨e8, e9⟩ := hp9
  subst e8
  rw [e9] at Y
  refine W.eq (g2 := F0 m 808 ls [.int r9, .int r9]) rfl ?_
  refine lv_icmp_eq (tgt := 901) hx hb d_L_law_808 (by decide) (fun c_808 => ?_) (fun c_808 => absurd rfl c_808)
  exact kk f2 ou 0 H locs _ _ ls hJ2 (ho2.trans hou) Y (lv_sub hl [0, 1, 2, 3, 4] rfl) (by omega) (by omega)
set_option maxHeartbeats 4000000 in
set_option maxRecDepth 100000 in
theorem L_port {p : Program} {l : Launch} {e : Env} {s : State} {m : MethodId} {args : Array Value} {below : List Frame} {meth : Method} {c : Code} {Q : State → Prop} {H : Heap} {locs : List Loc} {cells slots : Nat} {ls : Array Slot} {D : va_G} {g : Nat → ClassId} {b sb L i : Nat} {xs : Nat → Int32} {f : Nat → va_E} {ou : Nat → Int64} {th : Int32} (hfl : l.flags = flags0) (X : fp_X p s m args c b_L_law 7 "EntryTablesLaw" D (TY g)) (hEx : fp_Ex b s) (hS : va_X sb L xs s s.heap) (hbl : sb < s.heap.size) (hbA : ¬ fz_A b sb) (hL : L ≤ 3072) (hi : i + 6 ≤ L) (hJ : q_J g b f th) (hou : f (b + 464) = aL g 1 ou) (Y : fp_H D b 465 (fz_A b) f s.heap H locs) (hl : lv_has ls 7 [(0, .ref sb), (1, .ref b), (2, .ref (b + 449)), (3, .ref (b + 464)), (4, .int (nI i))]) (hc1 : cells + 1 ≤ 639796) (hc2 : slots + 6 ≤ 7176715)
    (kk : ∀ (f' : Nat → va_E) (ou' : Nat → Int64) (th' : Int32) (H' : Heap) (locs' : List Loc) (cells' slots' : Nat) (ls' : Array Slot), q_J g b f' th' → f' (b + 464) = aL g 1 ou' → fp_H D b 465 (fz_A b) f' s.heap H' locs' → lv_has ls' 7 [(0, .ref sb), (1, .ref b), (2, .ref (b + 449)), (3, .ref (b + 464)), (4, .int (nI i))] → cells' ≤ cells + 1 → slots' ≤ slots + 6 → W p l e room_1 s m args below meth c H' locs' cells' slots' Q (F0 m 901 ls' [])) : W p l e room_1 s m args below meth c H locs cells slots Q (F0 m 813 ls []) := by
  obtain ⟨r9, f1, f2, rm1, rm2, ⟨k1, k2, k3, k4⟩, ⟨k5, k6, k7, k8⟩, hM1, hM2, ⟨vs1, hvs1⟩, hJ2, ho2⟩ := J_port (l := l) (D := D)  hJ
  obtain ⟨xa, xb, xc, xd, hxo⟩ := hJ.x
  have ox : fp_o b 465 f b (ob 7 [.ref (b + 1), .ref (b + 4), .ref (b + 6), .int xa, .ref (b + 7), .int xb, .ref (b + 8), .int xc, .int xd]) := ⟨Nat.le_refl b, by omega, hxo⟩
  have om1 : fp_o b 465 f1 (b + 449) (ob 8 vs1) := ⟨by omega, by omega, hvs1⟩
  obtain ⟨vs2, hvs2⟩ := hJ2.m
  have om2 : fp_o b 465 f2 (b + 449) (ob 8 vs2) := ⟨by omega, by omega, hvs2⟩
  have hx := X.1.1
  have hb := X.1.2.1
  refine lv_aload_n hx hb d_L_law_813 rfl (lv_at hl 1 rfl) ?_
  refine fp_callV (nA := 0) (As := []) (rest := []) X Y hM1 ox rfl w288 w285 w286 w287 w1 (by decide +kernel) ⟨k1, k2⟩ ⟨(by show _ ≤ 10; omega), (by show _ ≤ 358; omega)⟩ rfl hl.1 rfl (Nat.le_of_ble_eq_true rfl) d_L_law_814 ⟨(by show _ ≤ 639796; omega), (by show _ ≤ 7176715; omega)⟩ (fun v9 f9 H locs hp9 Y => ?_)
  obtain ⟨e8, e9⟩ := hp9
  subst e8
  rw [e9] at Y
  refine W.eq (g2 := F0 m 817 ls [.int r9]) rfl ?_
  refine lv_aload_n hx hb d_L_law_817 rfl (lv_at hl 2 rfl) ?_
  refine fp_callV (nA := 0) (As := []) (rest := [.int r9]) X Y hM2 om1 rfl w759 w756 w757 w758 w9 (by decide +kernel) ⟨k5, k6⟩ ⟨(by show _ ≤ 10; omega), (by show _ ≤ 358; omega)⟩ rfl hl.1 rfl (Nat.le_of_ble_eq_true rfl) d_L_law_818 ⟨(by show _ ≤ 639796; omega), (by show _ ≤ 7176715; omega)⟩ (fun v9 f9 H locs hp9 Y => ?_)
  obtain ⟨e8, e9⟩ := hp9
  subst e8
  rw [e9] at Y
  refine W.eq (g2 := F0 m 821 ls [.int r9, .int r9]) rfl ?_
  refine lv_icmp_eq (tgt := 901) hx hb d_L_law_821 (by decide) (fun c_821 => ?_) (fun c_821 => absurd rfl c_821)
  exact kk f2 ou 0 H locs _ _ ls hJ2 (ho2.trans hou) Y (lv_sub hl [0, 1, 2, 3, 4] rfl) (by omega) (by omega)
set_option maxHeartbeats 4000000 in
set_option maxRecDepth 100000 in
theorem L_isDropped {p : Program} {l : Launch} {e : Env} {s : State} {m : MethodId} {args : Array Value} {below : List Frame} {meth : Method} {c : Code} {Q : State → Prop} {H : Heap} {locs : List Loc} {cells slots : Nat} {ls : Array Slot} {D : va_G} {g : Nat → ClassId} {b sb L i : Nat} {xs : Nat → Int32} {f : Nat → va_E} {ou : Nat → Int64} {th : Int32} (hfl : l.flags = flags0) (X : fp_X p s m args c b_L_law 7 "EntryTablesLaw" D (TY g)) (hEx : fp_Ex b s) (hS : va_X sb L xs s s.heap) (hbl : sb < s.heap.size) (hbA : ¬ fz_A b sb) (hL : L ≤ 3072) (hi : i + 6 ≤ L) (hJ : q_J g b f th) (hou : f (b + 464) = aL g 1 ou) (Y : fp_H D b 465 (fz_A b) f s.heap H locs) (hl : lv_has ls 7 [(0, .ref sb), (1, .ref b), (2, .ref (b + 449)), (3, .ref (b + 464)), (4, .int (nI i))]) (hc1 : cells + 1 ≤ 639796) (hc2 : slots + 6 ≤ 7176715)
    (kk : ∀ (f' : Nat → va_E) (ou' : Nat → Int64) (th' : Int32) (H' : Heap) (locs' : List Loc) (cells' slots' : Nat) (ls' : Array Slot), q_J g b f' th' → f' (b + 464) = aL g 1 ou' → fp_H D b 465 (fz_A b) f' s.heap H' locs' → lv_has ls' 7 [(0, .ref sb), (1, .ref b), (2, .ref (b + 449)), (3, .ref (b + 464)), (4, .int (nI i))] → cells' ≤ cells + 1 → slots' ≤ slots + 6 → W p l e room_1 s m args below meth c H' locs' cells' slots' Q (F0 m 901 ls' [])) : W p l e room_1 s m args below meth c H locs cells slots Q (F0 m 826 ls []) := by
  obtain ⟨r9, f1, f2, rm1, rm2, ⟨k1, k2, k3, k4⟩, ⟨k5, k6, k7, k8⟩, hM1, hM2, ⟨vs1, hvs1⟩, hJ2, ho2⟩ := J_isDropped (l := l) (D := D)  hJ
  obtain ⟨xa, xb, xc, xd, hxo⟩ := hJ.x
  have ox : fp_o b 465 f b (ob 7 [.ref (b + 1), .ref (b + 4), .ref (b + 6), .int xa, .ref (b + 7), .int xb, .ref (b + 8), .int xc, .int xd]) := ⟨Nat.le_refl b, by omega, hxo⟩
  have om1 : fp_o b 465 f1 (b + 449) (ob 8 vs1) := ⟨by omega, by omega, hvs1⟩
  obtain ⟨vs2, hvs2⟩ := hJ2.m
  have om2 : fp_o b 465 f2 (b + 449) (ob 8 vs2) := ⟨by omega, by omega, hvs2⟩
  have hx := X.1.1
  have hb := X.1.2.1
  refine lv_aload_n hx hb d_L_law_826 rfl (lv_at hl 1 rfl) ?_
  refine fp_callV (nA := 0) (As := []) (rest := []) X Y hM1 ox rfl w292 w289 w290 w291 w1 (by decide +kernel) ⟨k1, k2⟩ ⟨(by show _ ≤ 10; omega), (by show _ ≤ 358; omega)⟩ rfl hl.1 rfl (Nat.le_of_ble_eq_true rfl) d_L_law_827 ⟨(by show _ ≤ 639796; omega), (by show _ ≤ 7176715; omega)⟩ (fun v9 f9 H locs hp9 Y => ?_)
  obtain ⟨e8, e9⟩ := hp9
  subst e8
  rw [e9] at Y
  refine W.eq (g2 := F0 m 830 ls [.int r9]) rfl ?_
  refine lv_aload_n hx hb d_L_law_830 rfl (lv_at hl 2 rfl) ?_
  refine fp_callV (nA := 0) (As := []) (rest := [.int r9]) X Y hM2 om1 rfl w763 w760 w761 w762 w9 (by decide +kernel) ⟨k5, k6⟩ ⟨(by show _ ≤ 10; omega), (by show _ ≤ 358; omega)⟩ rfl hl.1 rfl (Nat.le_of_ble_eq_true rfl) d_L_law_831 ⟨(by show _ ≤ 639796; omega), (by show _ ≤ 7176715; omega)⟩ (fun v9 f9 H locs hp9 Y => ?_)
  obtain ⟨e8, e9⟩ := hp9
  subst e8
  rw [e9] at Y
  refine W.eq (g2 := F0 m 834 ls [.int r9, .int r9]) rfl ?_
  refine lv_icmp_eq (tgt := 901) hx hb d_L_law_834 (by decide) (fun c_834 => ?_) (fun c_834 => absurd rfl c_834)
  exact kk f2 ou 0 H locs _ _ ls hJ2 (ho2.trans hou) Y (lv_sub hl [0, 1, 2, 3, 4] rfl) (by omega) (by omega)
set_option maxHeartbeats 4000000 in
set_option maxRecDepth 100000 in
theorem L_word {p : Program} {l : Launch} {e : Env} {s : State} {m : MethodId} {args : Array Value} {below : List Frame} {meth : Method} {c : Code} {Q : State → Prop} {H : Heap} {locs : List Loc} {cells slots : Nat} {ls : Array Slot} {D : va_G} {g : Nat → ClassId} {b sb L i : Nat} {xs : Nat → Int32} {f : Nat → va_E} {ou : Nat → Int64} {th : Int32} (hfl : l.flags = flags0) (X : fp_X p s m args c b_L_law 7 "EntryTablesLaw" D (TY g)) (hEx : fp_Ex b s) (hS : va_X sb L xs s s.heap) (hbl : sb < s.heap.size) (hbA : ¬ fz_A b sb) (hL : L ≤ 3072) (hi : i + 6 ≤ L) (hJ : q_J g b f th) (hou : f (b + 464) = aL g 1 ou) (Y : fp_H D b 465 (fz_A b) f s.heap H locs) (hl : lv_has ls 7 [(0, .ref sb), (1, .ref b), (2, .ref (b + 449)), (3, .ref (b + 464)), (4, .int (nI i))]) (hc1 : cells + 1 ≤ 639796) (hc2 : slots + 6 ≤ 7176715)
    (kk : ∀ (f' : Nat → va_E) (ou' : Nat → Int64) (th' : Int32) (H' : Heap) (locs' : List Loc) (cells' slots' : Nat) (ls' : Array Slot), q_J g b f' th' → f' (b + 464) = aL g 1 ou' → fp_H D b 465 (fz_A b) f' s.heap H' locs' → lv_has ls' 7 [(0, .ref sb), (1, .ref b), (2, .ref (b + 449)), (3, .ref (b + 464)), (4, .int (nI i))] → cells' ≤ cells + 1 → slots' ≤ slots + 6 → W p l e room_1 s m args below meth c H' locs' cells' slots' Q (F0 m 901 ls' [])) : W p l e room_1 s m args below meth c H locs cells slots Q (F0 m 839 ls []) := by
  obtain ⟨r9, f1, f2, rm1, rm2, ⟨k1, k2, k3, k4⟩, ⟨k5, k6, k7, k8⟩, hM1, hM2, ⟨vs1, hvs1⟩, hJ2, ho2⟩ := J_word (l := l) (D := D) (xs (i + 1)) (xs (i + 2)) hJ
  obtain ⟨xa, xb, xc, xd, hxo⟩ := hJ.x
  have ox : fp_o b 465 f b (ob 7 [.ref (b + 1), .ref (b + 4), .ref (b + 6), .int xa, .ref (b + 7), .int xb, .ref (b + 8), .int xc, .int xd]) := ⟨Nat.le_refl b, by omega, hxo⟩
  have om1 : fp_o b 465 f1 (b + 449) (ob 8 vs1) := ⟨by omega, by omega, hvs1⟩
  obtain ⟨vs2, hvs2⟩ := hJ2.m
  have om2 : fp_o b 465 f2 (b + 449) (ob 8 vs2) := ⟨by omega, by omega, hvs2⟩
  have hx := X.1.1
  have hb := X.1.2.1
  refine lv_aload_n hx hb d_L_law_839 rfl (lv_at hl 1 rfl) ?_
  refine lv_aload_n hx hb d_L_law_840 rfl (lv_at hl 0 rfl) ?_
  refine lv_iload hx hb d_L_law_841 (lv_at hl 4 rfl) ?_
  refine lv_iconst (v := 1) hx hb d_L_law_843 (by decide) ?_
  refine lv_iadd hx hb d_L_law_844 ?_
  refine lc_ld (k := i + 1) X Y hS hbl hbA hL (nI_add i 1) (by omega) d_L_law_845 ?_
  refine lv_aload_n hx hb d_L_law_846 rfl (lv_at hl 0 rfl) ?_
  refine lv_iload hx hb d_L_law_847 (lv_at hl 4 rfl) ?_
  refine lv_iconst (v := 2) hx hb d_L_law_849 (by decide) ?_
  refine lv_iadd hx hb d_L_law_850 ?_
  refine lc_ld (k := i + 2) X Y hS hbl hbA hL (nI_add i 2) (by omega) d_L_law_851 ?_
  refine fp_callV (nA := 2) (As := [.int (xs (i + 1)), .int (xs (i + 2))]) (rest := []) X Y hM1 ox rfl w296 w293 w294 w295 w1 (by decide +kernel) ⟨k1, k2⟩ ⟨(by show _ ≤ 10; omega), (by show _ ≤ 358; omega)⟩ rfl hl.1 rfl (Nat.le_of_ble_eq_true rfl) d_L_law_852 ⟨(by show _ ≤ 639796; omega), (by show _ ≤ 7176715; omega)⟩ (fun v9 f9 H locs hp9 Y => ?_)
  obtain ⟨e8, e9⟩ := hp9
  subst e8
  rw [e9] at Y
  refine W.eq (g2 := F0 m 855 ls [.int r9]) rfl ?_
  refine lv_aload_n hx hb d_L_law_855 rfl (lv_at hl 2 rfl) ?_
  refine lv_aload_n hx hb d_L_law_856 rfl (lv_at hl 0 rfl) ?_
  refine lv_iload hx hb d_L_law_857 (lv_at hl 4 rfl) ?_
  refine lv_iconst (v := 1) hx hb d_L_law_859 (by decide) ?_
  refine lv_iadd hx hb d_L_law_860 ?_
  refine lc_ld (k := i + 1) X Y hS hbl hbA hL (nI_add i 1) (by omega) d_L_law_861 ?_
  refine lv_aload_n hx hb d_L_law_862 rfl (lv_at hl 0 rfl) ?_
  refine lv_iload hx hb d_L_law_863 (lv_at hl 4 rfl) ?_
  refine lv_iconst (v := 2) hx hb d_L_law_865 (by decide) ?_
  refine lv_iadd hx hb d_L_law_866 ?_
  refine lc_ld (k := i + 2) X Y hS hbl hbA hL (nI_add i 2) (by omega) d_L_law_867 ?_
  refine fp_callV (nA := 2) (As := [.int (xs (i + 1)), .int (xs (i + 2))]) (rest := [.int r9]) X Y hM2 om1 rfl w767 w764 w765 w766 w9 (by decide +kernel) ⟨k5, k6⟩ ⟨(by show _ ≤ 10; omega), (by show _ ≤ 358; omega)⟩ rfl hl.1 rfl (Nat.le_of_ble_eq_true rfl) d_L_law_868 ⟨(by show _ ≤ 639796; omega), (by show _ ≤ 7176715; omega)⟩ (fun v9 f9 H locs hp9 Y => ?_)
  obtain ⟨e8, e9⟩ := hp9
  subst e8
  rw [e9] at Y
  refine W.eq (g2 := F0 m 871 ls [.int r9, .int r9]) rfl ?_
  refine lv_icmp_eq (tgt := 901) hx hb d_L_law_871 (by decide) (fun c_871 => ?_) (fun c_871 => absurd rfl c_871)
  exact kk f2 ou 0 H locs _ _ ls hJ2 (ho2.trans hou) Y (lv_sub hl [0, 1, 2, 3, 4] rfl) (by omega) (by omega)
set_option maxHeartbeats 4000000 in
set_option maxRecDepth 100000 in
theorem L_entries {p : Program} {l : Launch} {e : Env} {s : State} {m : MethodId} {args : Array Value} {below : List Frame} {meth : Method} {c : Code} {Q : State → Prop} {H : Heap} {locs : List Loc} {cells slots : Nat} {ls : Array Slot} {D : va_G} {g : Nat → ClassId} {b sb L i : Nat} {xs : Nat → Int32} {f : Nat → va_E} {ou : Nat → Int64} {th : Int32} (hfl : l.flags = flags0) (X : fp_X p s m args c b_L_law 7 "EntryTablesLaw" D (TY g)) (hEx : fp_Ex b s) (hS : va_X sb L xs s s.heap) (hbl : sb < s.heap.size) (hbA : ¬ fz_A b sb) (hL : L ≤ 3072) (hi : i + 6 ≤ L) (hJ : q_J g b f th) (hou : f (b + 464) = aL g 1 ou) (Y : fp_H D b 465 (fz_A b) f s.heap H locs) (hl : lv_has ls 7 [(0, .ref sb), (1, .ref b), (2, .ref (b + 449)), (3, .ref (b + 464)), (4, .int (nI i))]) (hc1 : cells + 1 ≤ 639796) (hc2 : slots + 6 ≤ 7176715)
    (kk : ∀ (f' : Nat → va_E) (ou' : Nat → Int64) (th' : Int32) (H' : Heap) (locs' : List Loc) (cells' slots' : Nat) (ls' : Array Slot), q_J g b f' th' → f' (b + 464) = aL g 1 ou' → fp_H D b 465 (fz_A b) f' s.heap H' locs' → lv_has ls' 7 [(0, .ref sb), (1, .ref b), (2, .ref (b + 449)), (3, .ref (b + 464)), (4, .int (nI i))] → cells' ≤ cells + 1 → slots' ≤ slots + 6 → W p l e room_1 s m args below meth c H' locs' cells' slots' Q (F0 m 901 ls' [])) : W p l e room_1 s m args below meth c H locs cells slots Q (F0 m 876 ls []) := by
  obtain ⟨r9, f1, f2, rm1, rm2, ⟨k1, k2, k3, k4⟩, ⟨k5, k6, k7, k8⟩, hM1, hM2, ⟨vs1, hvs1⟩, hJ2, ho2⟩ := J_entries (l := l) (D := D) (xs (i + 1)) hJ
  obtain ⟨xa, xb, xc, xd, hxo⟩ := hJ.x
  have ox : fp_o b 465 f b (ob 7 [.ref (b + 1), .ref (b + 4), .ref (b + 6), .int xa, .ref (b + 7), .int xb, .ref (b + 8), .int xc, .int xd]) := ⟨Nat.le_refl b, by omega, hxo⟩
  have om1 : fp_o b 465 f1 (b + 449) (ob 8 vs1) := ⟨by omega, by omega, hvs1⟩
  obtain ⟨vs2, hvs2⟩ := hJ2.m
  have om2 : fp_o b 465 f2 (b + 449) (ob 8 vs2) := ⟨by omega, by omega, hvs2⟩
  have hx := X.1.1
  have hb := X.1.2.1
  refine lv_aload_n hx hb d_L_law_876 rfl (lv_at hl 1 rfl) ?_
  refine lv_aload_n hx hb d_L_law_877 rfl (lv_at hl 0 rfl) ?_
  refine lv_iload hx hb d_L_law_878 (lv_at hl 4 rfl) ?_
  refine lv_iconst (v := 1) hx hb d_L_law_880 (by decide) ?_
  refine lv_iadd hx hb d_L_law_881 ?_
  refine lc_ld (k := i + 1) X Y hS hbl hbA hL (nI_add i 1) (by omega) d_L_law_882 ?_
  refine fp_callV (nA := 1) (As := [.int (xs (i + 1))]) (rest := []) X Y hM1 ox rfl w310 w307 w308 w309 w1 (by decide +kernel) ⟨k1, k2⟩ ⟨(by show _ ≤ 10; omega), (by show _ ≤ 358; omega)⟩ rfl hl.1 rfl (Nat.le_of_ble_eq_true rfl) d_L_law_883 ⟨(by show _ ≤ 639796; omega), (by show _ ≤ 7176715; omega)⟩ (fun v9 f9 H locs hp9 Y => ?_)
  obtain ⟨e8, e9⟩ := hp9
  subst e8
  rw [e9] at Y
  refine W.eq (g2 := F0 m 886 ls [.int r9]) rfl ?_
  refine lv_aload_n hx hb d_L_law_886 rfl (lv_at hl 2 rfl) ?_
  refine lv_aload_n hx hb d_L_law_887 rfl (lv_at hl 0 rfl) ?_
  refine lv_iload hx hb d_L_law_888 (lv_at hl 4 rfl) ?_
  refine lv_iconst (v := 1) hx hb d_L_law_890 (by decide) ?_
  refine lv_iadd hx hb d_L_law_891 ?_
  refine lc_ld (k := i + 1) X Y hS hbl hbA hL (nI_add i 1) (by omega) d_L_law_892 ?_
  refine fp_callV (nA := 1) (As := [.int (xs (i + 1))]) (rest := [.int r9]) X Y hM2 om1 rfl w771 w768 w769 w770 w9 (by decide +kernel) ⟨k5, k6⟩ ⟨(by show _ ≤ 10; omega), (by show _ ≤ 358; omega)⟩ rfl hl.1 rfl (Nat.le_of_ble_eq_true rfl) d_L_law_893 ⟨(by show _ ≤ 639796; omega), (by show _ ≤ 7176715; omega)⟩ (fun v9 f9 H locs hp9 Y => ?_)
  obtain ⟨e8, e9⟩ := hp9
  subst e8
  rw [e9] at Y
  refine W.eq (g2 := F0 m 896 ls [.int r9, .int r9]) rfl ?_
  refine lv_icmp_eq (tgt := 901) hx hb d_L_law_896 (by decide) (fun c_896 => ?_) (fun c_896 => absurd rfl c_896)
  exact kk f2 ou 0 H locs _ _ ls hJ2 (ho2.trans hou) Y (lv_sub hl [0, 1, 2, 3, 4] rfl) (by omega) (by omega)
