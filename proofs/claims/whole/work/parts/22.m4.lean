/-! Contracts: the reference: match, does, act, matches (by wip/gen/k12.py). -/
theorem i_neg (x : Int32) : x < 0 ↔ x.toBitVec.msb = true := BitVec.slt_zero_iff_msb_cond
theorem i_x16 (x : Int32) : (x ^^^ 16) < 0 ↔ x < 0 := by
  rw [i_neg, i_neg, Int32.toBitVec_xor, BitVec.msb_xor]
  rw [show (16 : Int32).toBitVec.msb = false from by decide, Bool.xor_false]
theorem i_rem16 (x : Int32) (h0 : x < 0) : (x - x / 16 * 16).toInt = -((-x.toInt) % 16) := by
  have hX : x.toInt < 0 := by simpa using Int32.lt_iff_toInt_lt.mp h0
  have hlo := Int32.le_toInt x
  have hd : (x / 16).toInt = -((-x.toInt) / 16) := by
    rw [Int32.toInt_div_of_ne_right _ _ (by decide), show (16 : Int32).toInt = 16 from by decide]
    have e : x.toInt = -(-x.toInt) := by omega
    rw [e, Int.neg_tdiv, Int.tdiv_eq_ediv_of_nonneg (by omega)]
    omega
  have hm : (x / 16 * 16).toInt = -((-x.toInt) / 16) * 16 := by
    rw [Int32.toInt_mul, hd, show (16 : Int32).toInt = 16 from by decide]
    exact Int.bmod_eq_of_le (by omega) (by omega)
  rw [Int32.toInt_sub, hm, Int.bmod_eq_of_le (by omega) (by omega)]
  omega
theorem q_fm_15 (x : Int32) : ∃ r : Nat, r < 16 ∧ x &&& 15 = nI r ∧ q_fm x = nI r := by
  refine ⟨x.toBitVec.toNat % 16, Nat.mod_lt _ (by decide), pk_and x 4 (by decide), ?_⟩
  by_cases h0 : x < 0
  · have hX : x.toInt < 0 := by simpa using Int32.lt_iff_toInt_lt.mp h0
    have hlo := Int32.le_toInt x
    have h1 := (i_x16 x).mpr h0
    have hr := i_rem16 x h0
    have hn : x.toInt = (x.toBitVec.toNat : Int) - 2 ^ 32 := by
      have e : x.toInt = x.toBitVec.toInt := rfl
      rw [e, BitVec.toInt_eq_msb_cond, if_pos ((i_neg x).mp h0)]
      norm_cast
    unfold q_fm
    by_cases h2 : x - x / 16 * 16 = 0
    · rw [if_neg (fun q => q.2 h2), h2]
      rw [h2] at hr
      have h3 : (0 : Int32).toInt = 0 := by decide
      have h4 : x.toBitVec.toNat % 16 = 0 := by omega
      rw [h4]; rfl
    · rw [if_pos ⟨h1, h2⟩]
      have h3 : (x - x / 16 * 16).toInt ≠ 0 := fun q => h2 (Int32.toInt_inj.mp q)
      apply Int32.toInt_inj.mp
      rw [Int32.toInt_add, hr, show (16 : Int32).toInt = 16 from by decide, Int.bmod_eq_of_le (by omega) (by omega), nI_toInt (by omega)]
      omega
  · obtain ⟨j, hj, rfl⟩ := nI_of h0
    unfold q_fm
    rw [if_neg (fun q => h0 ((i_x16 _).mp q.1)), show (16 : Int32) = nI 16 from rfl, pk_rem hj (by decide) (by decide), pk_tn (by omega)]
/-- whether an entry fits, by one field, by two -/
def q_f1 (h e0 e1 : Int32) : Int32 := if (h ^^^ e0) &&& e1 = 0 then 1 else 0
def q_f2 (h h' e0 e1 e2 e3 : Int32) : Int32 := if (h ^^^ e0) &&& e1 = 0 then (if (h' ^^^ e2) &&& e3 = 0 then 1 else 0) else 0
/-- whether a later entry is better -/
def q_bm (p1 p2 r1 r2 : Int32) : Int32 := if 0 < p1 - p2 then 1 else if p1 - p2 = 0 then (if r1 ≤ r2 then 0 else 1) else 0
def q_bI (t : Nat) : Option Nat → Int32
  | none => -1
  | some j => nI (160 * t + 8 * j)
theorem q_f1_n {h e0 e1 : Int32} (c : ¬ (h ^^^ e0) &&& e1 = 0) : q_f1 h e0 e1 = 0 := if_neg c
theorem q_f1_y {h e0 e1 : Int32} (c : (h ^^^ e0) &&& e1 = 0) : ¬ q_f1 h e0 e1 = 0 := by unfold q_f1; rw [if_pos c]; decide
theorem q_f2_n1 {h h' e0 e1 e2 e3 : Int32} (c : ¬ (h ^^^ e0) &&& e1 = 0) : q_f2 h h' e0 e1 e2 e3 = 0 := if_neg c
theorem q_f2_n2 {h h' e0 e1 e2 e3 : Int32} (c : (h ^^^ e0) &&& e1 = 0) (d : ¬ (h' ^^^ e2) &&& e3 = 0) : q_f2 h h' e0 e1 e2 e3 = 0 := by unfold q_f2; rw [if_pos c, if_neg d]
theorem q_f2_y {h h' e0 e1 e2 e3 : Int32} (c : (h ^^^ e0) &&& e1 = 0) (d : (h' ^^^ e2) &&& e3 = 0) : ¬ q_f2 h h' e0 e1 e2 e3 = 0 := by unfold q_f2; rw [if_pos c, if_pos d]; decide
theorem q_bm_1 {p1 p2 r1 r2 : Int32} (c : 0 < p1 - p2) : ¬ q_bm p1 p2 r1 r2 = 0 := by unfold q_bm; rw [if_pos c]; decide
theorem q_bm_2 {p1 p2 r1 r2 : Int32} (c : ¬ 0 < p1 - p2) (d : p1 - p2 = 0) (h : ¬ r1 ≤ r2) : ¬ q_bm p1 p2 r1 r2 = 0 := by unfold q_bm; rw [if_neg c, if_pos d, if_neg h]; decide
theorem q_bm_3 {p1 p2 r1 r2 : Int32} (c : ¬ 0 < p1 - p2) (d : ¬ p1 - p2 = 0) : q_bm p1 p2 r1 r2 = 0 := by unfold q_bm; rw [if_neg c, if_neg d]
theorem q_bm_4 {p1 p2 r1 r2 : Int32} (c : ¬ 0 < p1 - p2) (d : p1 - p2 = 0) (h : r1 ≤ r2) : q_bm p1 p2 r1 r2 = 0 := by unfold q_bm; rw [if_neg c, if_pos d, if_pos h]
section QB
variable {S : Nat → Int32} {B : Nat → Nat → Int32} {i j : Nat}
theorem q_best_n0 (h : none = q_best S B i) (hs : S i = 0) : none = q_best S B (i + 1) := by simp only [q_best, ← h, if_pos hs]
theorem q_best_n1 (h : none = q_best S B i) (hs : ¬ S i = 0) : some i = q_best S B (i + 1) := by simp only [q_best, ← h, if_neg hs]
theorem q_best_s0 (h : some j = q_best S B i) (hs : S i = 0) : some j = q_best S B (i + 1) := by simp only [q_best, ← h, if_pos hs]
theorem q_best_s1 (h : some j = q_best S B i) (hs : ¬ S i = 0) (hb : B i j = 0) : some j = q_best S B (i + 1) := by simp only [q_best, ← h, if_neg hs, if_pos hb]
theorem q_best_s2 (h : some j = q_best S B i) (hs : ¬ S i = 0) (hb : ¬ B i j = 0) : some i = q_best S B (i + 1) := by simp only [q_best, ← h, if_neg hs, if_neg hb]
end QB
/-- the reference's world with what the doings change -/
def q_mp (g : Nat → ClassId) (f : Nat → va_E) (mo : Nat) (th nf na nt : Int32) (s : q_S) : Nat → va_E := va_up (va_up (va_up f (mo + 2) (aI g 16 s.1)) (mo + 5) (aI g 64 s.2.1)) mo (ob 8 [.int th, .int nf, .ref (mo + 1), .ref (mo + 2), .int na, .ref (mo + 3), .ref (mo + 4), .ref (mo + 5), .int nt, .ref (mo + 6), .ref (mo + 7), .ref (mo + 8), .ref (mo + 9), .ref (mo + 10), .ref (mo + 11), .ref (mo + 12), .ref (mo + 13), .ref (mo + 14), .int s.2.2.1, .int s.2.2.2])
theorem q_mp_mp {g : Nat → ClassId} {f : Nat → va_E} {mo : Nat} {th nf na nt : Int32} {s s' : q_S} : q_mp g (q_mp g f mo th nf na nt s) mo th nf na nt s' = q_mp g f mo th nf na nt s' := by
  funext j
  simp only [q_mp, va_up]
  by_cases e1 : j = mo
  · simp [e1]
  · by_cases e2 : j = mo + 5
    · simp [e2]
    · by_cases e3 : j = mo + 2
      · simp [e3]
      · simp [e1, e2, e3]
theorem q_wr_in {z1 z2 : Nat → Int32} {j k : Nat} {w : Int32} (h : j < k) (hk : k < 2 ^ 31) : q_wr z1 z2 (nI j) (nI k) w = upd z2 j (w &&& z1 j) := by
  unfold q_wr; rw [if_neg (q_in_ne h hk), nI_clamp (by omega)]
theorem q_at_in {z : Nat → Int32} {j k : Nat} (h : j < k) (hk : k < 2 ^ 31) : q_at z (nI j) (nI k) = z j := by
  unfold q_at; rw [if_neg (q_in_ne h hk), nI_clamp (by omega)]
theorem q_isw_in {p r : Nat} (hp : p < 4) (hr : r < 16) : ¬ q_isw (nI p) (nI r) = 0 := by
  unfold q_isw
  rw [if_neg (show ¬ q_in (nI p) 4 = 0 from q_in_ne (k := 4) hp (by decide))]
  have h1 : ¬ (nI r < 0 ∨ 16 ≤ nI r) := fun q => q.elim (nI_pos (by omega)) (nI_ge (b := 16) hr (by decide))
  rw [if_neg h1]; decide
theorem q_cr_in {z : Nat → Int32} {p r : Nat} (hp : p < 4) (hr : r < 16) : q_cr z (nI p) (nI r) = z (16 * p + r) := by
  unfold q_cr
  rw [if_neg (q_isw_in hp hr), show (16 : Int32) = nI 16 from rfl, pk_mul, nI_add, nI_clamp (by omega), Nat.mul_comm p 16]
theorem q_cg_in {z : Nat → Int32} {p r : Nat} {y : Int32} (hp : p < 4) (hr : r < 16) : q_cg z (nI p) (nI r) y = upd z (16 * p + r) (z (16 * p + r) + y) := by
  unfold q_cg
  rw [if_neg (q_isw_in hp hr), show (16 : Int32) = nI 16 from rfl, pk_mul, nI_add, nI_clamp (by omega), Nat.mul_comm p 16]
theorem q_ite2 {a b : Int32} (h : ¬ (if a = 0 then 0 else if b = 0 then 0 else 1 : Int32) = 0) : ¬ a = 0 ∧ ¬ b = 0 := by
  by_cases ha : a = 0
  · rw [if_pos ha] at h; exact absurd rfl h
  · by_cases hb : b = 0
    · rw [if_neg ha, if_pos hb] at h; exact absurd rfl h
    · exact ⟨ha, hb⟩
theorem q_ite3 {a b c : Int32} (h : ¬ (if a = 0 then 0 else if b = 0 then 0 else if c = 0 then 0 else 1 : Int32) = 0) : ¬ a = 0 ∧ ¬ b = 0 ∧ ¬ c = 0 := by
  by_cases ha : a = 0
  · rw [if_pos ha] at h; exact absurd rfl h
  · rw [if_neg ha] at h
    exact ⟨ha, q_ite2 h⟩
theorem q_at6 (e k : Nat) : nI e + 6 + nI k = nI (e + 6 + k) := by rw [show (6 : Int32) = nI 6 from rfl, nI_add, nI_add]
set_option maxHeartbeats 4000000 in
set_option maxRecDepth 100000 in
theorem c_M_match_1 {l : Launch} {D : va_G} {g : Nat → ClassId} {b n : Nat} {A : Nat → Prop} {f : Nat → va_E} {mo : Nat} {th nf na nt po dr : Int32} {zh zo zt zq zc ze : Nat → Int32} {tj j1 cn : Nat} (htj : tj < 8) (hj1 : j1 < 16) (h1 : zo tj = nI j1) (h2 : zt tj = -1) (hcn : cn ≤ 20) (hc : zc tj = nI cn) (om : fp_o b n f mo (ob 8 [.int th, .int nf, .ref (mo + 1), .ref (mo + 2), .int na, .ref (mo + 3), .ref (mo + 4), .ref (mo + 5), .int nt, .ref (mo + 6), .ref (mo + 7), .ref (mo + 8), .ref (mo + 9), .ref (mo + 10), .ref (mo + 11), .ref (mo + 12), .ref (mo + 13), .ref (mo + 14), .int po, .int dr])) (o_held : fp_o b n f (mo + 2) (aI g 16 zh)) (o_one : fp_o b n f (mo + 6) (aI g 8 zo)) (o_two : fp_o b n f (mo + 7) (aI g 8 zt)) (o_how : fp_o b n f (mo + 8) (aI g 8 zq)) (o_count : fp_o b n f (mo + 11) (aI g 8 zc)) (o_entry : fp_o b n f (mo + 12) (aI g 1280 ze))  : fp_M l D (TY g) b n A y_M_match (fp_ws y_M_match b_M_match 7 (some FieldType.int)) (rmD 2) [.ref mo, .int (nI tj)] f (fun v f' => v = some (.int (q_bI tj (q_best (fun k => q_f1 (zh j1) (ze (160 * tj + 8 * k)) (ze (160 * tj + 8 * k + 1))) (fun i j => q_bm (q_pm (zq tj) (ze (160 * tj + 8 * i + 1)) (ze (160 * tj + 8 * i + 3))) (q_pm (zq tj) (ze (160 * tj + 8 * j + 1)) (ze (160 * tj + 8 * j + 3))) (ze (160 * tj + 8 * i + 4)) (ze (160 * tj + 8 * j + 4))) cn))) ∧ f' = f) := by
  refine fp_ofI (plainFor_of_name (by decide)) (Nat.le_of_ble_eq_true rfl) ?_
  intro p e s m args below meth c Q ls H locs X Y hl ret
  have hx := X.1.1
  have hb := X.1.2.1
  have hl : lv_has ls 7 [(0, .ref mo), (1, .int (nI tj))] := hl
  refine lv_iconst (v := -1) hx hb d_M_match_0 (by decide) ?_
  refine lv_istore_n (lv' := [(2, .int (-1)), (0, .ref mo), (1, .int (nI tj))]) hx hb d_M_match_1 rfl hl (by decide) rfl (fun ls hl => ?_)
  refine lv_iconst (v := 0) hx hb d_M_match_2 (by decide) ?_
  refine lv_istore_n (lv' := [(3, .int 0), (2, .int (-1)), (0, .ref mo), (1, .int (nI tj))]) hx hb d_M_match_3 rfl hl (by decide) rfl (fun ls hl => ?_)
  have loop : ∀ (k i : Nat) (B : Option Nat), k + i = cn → B = q_best (fun k => q_f1 (zh j1) (ze (160 * tj + 8 * k)) (ze (160 * tj + 8 * k + 1))) (fun i j => q_bm (q_pm (zq tj) (ze (160 * tj + 8 * i + 1)) (ze (160 * tj + 8 * i + 3))) (q_pm (zq tj) (ze (160 * tj + 8 * j + 1)) (ze (160 * tj + 8 * j + 3))) (ze (160 * tj + 8 * i + 4)) (ze (160 * tj + 8 * j + 4))) i → (∀ j : Nat, B = some j → j < i) → ∀ (H : Heap) (locs : List Loc), fp_H D b n A f s.heap H locs → ∀ (ls : Array Slot), lv_has ls 7 [(3, .int (nI i)), (2, .int (q_bI tj B)), (1, .int (nI tj)), (0, .ref mo)] → W p l e (rmD 2) s m args below meth c H locs 0 0 Q (F0 m 4 ls []) := by
    intro k
    induction k with
    | zero =>
      intro i B hi hB hj H locs Y ls hl
      cases B with
      | none =>
        have hl : lv_has ls 7 [(3, .int (nI i)), (2, .int (-1)), (1, .int (nI tj)), (0, .ref mo)] := hl
        refine lv_iload_n hx hb d_M_match_4 rfl (lv_at hl 0 rfl) ?_
        refine lv_aload_n hx hb d_M_match_5 rfl (lv_at hl 3 rfl) ?_
        refine fp_get X Y om rfl in_M 14 (by decide) w615 rfl d_M_match_6 ?_
        refine lv_iload_n hx hb d_M_match_9 rfl (lv_at hl 2 rfl) ?_
        refine fp_ild X Y o_count tj rfl (by omega) (by decide) d_M_match_10 ?_
        rw [hc]
        refine lv_icmp_ge (tgt := 183) hx hb d_M_match_11 (by decide) (fun c_11 => ?_) (fun c_11 => absurd (by rw [show i = cn by omega]; exact Int32.le_refl _) c_11)
        refine lv_iload_n hx hb d_M_match_183 rfl (lv_at hl 1 rfl) ?_
        exact ret _ _ _ _ _ _ d_M_match_184 ⟨_, rfl, rfl⟩ ⟨congrArg (fun z => some (Value.int z)) (by rw [show cn = i by omega, ← hB]; rfl), rfl⟩ Y
      | some j =>
        have hj : j < i := hj j rfl
        have hl : lv_has ls 7 [(3, .int (nI i)), (2, .int (nI (160 * tj + 8 * j))), (1, .int (nI tj)), (0, .ref mo)] := hl
        refine lv_iload_n hx hb d_M_match_4 rfl (lv_at hl 0 rfl) ?_
        refine lv_aload_n hx hb d_M_match_5 rfl (lv_at hl 3 rfl) ?_
        refine fp_get X Y om rfl in_M 14 (by decide) w615 rfl d_M_match_6 ?_
        refine lv_iload_n hx hb d_M_match_9 rfl (lv_at hl 2 rfl) ?_
        refine fp_ild X Y o_count tj rfl (by omega) (by decide) d_M_match_10 ?_
        rw [hc]
        refine lv_icmp_ge (tgt := 183) hx hb d_M_match_11 (by decide) (fun c_11 => ?_) (fun c_11 => absurd (by rw [show i = cn by omega]; exact Int32.le_refl _) c_11)
        refine lv_iload_n hx hb d_M_match_183 rfl (lv_at hl 1 rfl) ?_
        exact ret _ _ _ _ _ _ d_M_match_184 ⟨_, rfl, rfl⟩ ⟨congrArg (fun z => some (Value.int z)) (by rw [show cn = i by omega, ← hB]; rfl), rfl⟩ Y
    | succ k ih =>
      intro i B hi hB hj H locs Y ls hl
      cases B with
      | none =>
        have hl : lv_has ls 7 [(3, .int (nI i)), (2, .int (-1)), (1, .int (nI tj)), (0, .ref mo)] := hl
        refine lv_iload_n hx hb d_M_match_4 rfl (lv_at hl 0 rfl) ?_
        refine lv_aload_n hx hb d_M_match_5 rfl (lv_at hl 3 rfl) ?_
        refine fp_get X Y om rfl in_M 14 (by decide) w615 rfl d_M_match_6 ?_
        refine lv_iload_n hx hb d_M_match_9 rfl (lv_at hl 2 rfl) ?_
        refine fp_ild X Y o_count tj rfl (by omega) (by decide) d_M_match_10 ?_
        rw [hc]
        refine lv_icmp_ge (tgt := 183) hx hb d_M_match_11 (by decide) (fun c_11 => absurd c_11 (nI_ge (by omega) (by omega))) (fun c_11 => ?_)
        refine lv_sipush (v := 160) hx hb d_M_match_14 (by decide) ?_
        refine lv_iload_n hx hb d_M_match_17 rfl (lv_at hl 2 rfl) ?_
        refine lv_imul hx hb d_M_match_18 ?_
        refine lv_bipush (v := 8) hx hb d_M_match_19 (by decide) ?_
        refine lv_iload_n hx hb d_M_match_21 rfl (lv_at hl 0 rfl) ?_
        refine lv_imul hx hb d_M_match_22 ?_
        refine lv_iadd hx hb d_M_match_23 ?_
        rw [q_at8]
        refine lv_istore (lv' := [(4, .int (nI (160 * tj + 8 * i))), (3, .int (nI i)), (2, .int (-1)), (1, .int (nI tj)), (0, .ref mo)]) hx hb d_M_match_24 hl (by decide) rfl (fun ls hl => ?_)
        refine lv_aload_n hx hb d_M_match_26 rfl (lv_at hl 4 rfl) ?_
        refine fp_get X Y om rfl in_M 3 (by decide) w604 rfl d_M_match_27 ?_
        refine lv_aload_n hx hb d_M_match_30 rfl (lv_at hl 4 rfl) ?_
        refine fp_get X Y om rfl in_M 9 (by decide) w610 rfl d_M_match_31 ?_
        refine lv_iload_n hx hb d_M_match_34 rfl (lv_at hl 3 rfl) ?_
        refine fp_ild X Y o_one tj rfl (by omega) (by decide) d_M_match_35 ?_
        rw [h1]
        refine fp_ild X Y o_held j1 rfl (by omega) (by decide) d_M_match_36 ?_
        refine lv_aload_n hx hb d_M_match_37 rfl (lv_at hl 4 rfl) ?_
        refine fp_get X Y om rfl in_M 15 (by decide) w616 rfl d_M_match_38 ?_
        refine lv_iload hx hb d_M_match_41 (lv_at hl 0 rfl) ?_
        refine fp_ild X Y o_entry (160 * tj + 8 * i) rfl (by omega) (by decide) d_M_match_43 ?_
        refine lv_ixor hx hb d_M_match_44 ?_
        refine lv_aload_n hx hb d_M_match_45 rfl (lv_at hl 4 rfl) ?_
        refine fp_get X Y om rfl in_M 15 (by decide) w616 rfl d_M_match_46 ?_
        refine lv_iload hx hb d_M_match_49 (lv_at hl 0 rfl) ?_
        refine lv_iconst (v := 1) hx hb d_M_match_51 (by decide) ?_
        refine lv_iadd hx hb d_M_match_52 ?_
        refine fp_ild X Y o_entry (160 * tj + 8 * i + 1) (nI_add (160 * tj + 8 * i) 1) (by omega) (by decide) d_M_match_53 ?_
        refine lv_iand hx hb d_M_match_54 ?_
        refine lv_if_ne (tgt := 105) hx hb d_M_match_55 (by decide) (fun c_55 => ?_) (fun c_55 => ?_)
        · refine lv_iconst (v := 0) hx hb d_M_match_105 (by decide) ?_
          refine lv_istore (lv' := [(5, .int 0), (4, .int (nI (160 * tj + 8 * i))), (3, .int (nI i)), (2, .int (-1)), (1, .int (nI tj)), (0, .ref mo)]) hx hb d_M_match_106 hl (by decide) rfl (fun ls hl => ?_)
          refine lv_iload hx hb d_M_match_108 (lv_at hl 0 rfl) ?_
          refine lv_if_eq (tgt := 123) hx hb d_M_match_110 (by decide) (fun c_110 => ?_) (fun c_110 => absurd (by decide) c_110)
          refine lv_iload hx hb d_M_match_123 (lv_at hl 0 rfl) ?_
          refine lv_if_eq (tgt := 177) hx hb d_M_match_125 (by decide) (fun c_125 => ?_) (fun c_125 => absurd (by decide) c_125)
          refine lv_iinc (v := nI (i + 1)) (lv' := [(3, .int (nI (i + 1))), (5, .int 0), (4, .int (nI (160 * tj + 8 * i))), (2, .int (-1)), (1, .int (nI tj)), (0, .ref mo)]) hx hb d_M_match_177 hl (k := 2) rfl (nI_1 i) (by decide) rfl (fun ls hl => ?_)
          refine lv_goto (tgt := 4) hx hb d_M_match_180 (by decide) ?_
          exact ih (i + 1) none (by omega) (q_best_n0 hB (q_f1_n c_55)) (fun j9 h9 => by cases h9) _ _ Y ls (lv_sub hl [0, 3, 4, 5] rfl)
        · refine lv_aload_n hx hb d_M_match_58 rfl (lv_at hl 4 rfl) ?_
          refine fp_get X Y om rfl in_M 10 (by decide) w611 rfl d_M_match_59 ?_
          refine lv_iload_n hx hb d_M_match_62 rfl (lv_at hl 3 rfl) ?_
          refine fp_ild X Y o_two tj rfl (by omega) (by decide) d_M_match_63 ?_
          rw [h2]
          refine lv_if_lt (tgt := 101) hx hb d_M_match_64 (by decide) (fun c_64 => ?_) (fun c_64 => absurd (by decide) c_64)
          refine lv_iconst (v := 1) hx hb d_M_match_101 (by decide) ?_
          refine lv_goto (tgt := 106) hx hb d_M_match_102 (by decide) ?_
          refine lv_istore (lv' := [(5, .int 1), (4, .int (nI (160 * tj + 8 * i))), (3, .int (nI i)), (2, .int (-1)), (1, .int (nI tj)), (0, .ref mo)]) hx hb d_M_match_106 hl (by decide) rfl (fun ls hl => ?_)
          refine lv_iload hx hb d_M_match_108 (lv_at hl 0 rfl) ?_
          refine lv_if_eq (tgt := 123) hx hb d_M_match_110 (by decide) (fun c_110 => absurd c_110 (by decide)) (fun c_110 => ?_)
          refine lv_iload_n hx hb d_M_match_113 rfl (lv_at hl 3 rfl) ?_
          refine lv_if_ge (tgt := 123) hx hb d_M_match_114 (by decide) (fun c_114 => absurd c_114 (by decide)) (fun c_114 => ?_)
          refine lv_iload hx hb d_M_match_117 (lv_at hl 1 rfl) ?_
          refine lv_istore_n (lv' := [(2, .int (nI (160 * tj + 8 * i))), (5, .int 1), (4, .int (nI (160 * tj + 8 * i))), (3, .int (nI i)), (1, .int (nI tj)), (0, .ref mo)]) hx hb d_M_match_119 rfl hl (by decide) rfl (fun ls hl => ?_)
          refine lv_goto (tgt := 177) hx hb d_M_match_120 (by decide) ?_
          refine lv_iinc (v := nI (i + 1)) (lv' := [(3, .int (nI (i + 1))), (2, .int (nI (160 * tj + 8 * i))), (5, .int 1), (4, .int (nI (160 * tj + 8 * i))), (1, .int (nI tj)), (0, .ref mo)]) hx hb d_M_match_177 hl (k := 3) rfl (nI_1 i) (by decide) rfl (fun ls hl => ?_)
          refine lv_goto (tgt := 4) hx hb d_M_match_180 (by decide) ?_
          exact ih (i + 1) (some i) (by omega) (q_best_n1 hB (q_f1_y c_55)) (fun j9 h9 => by cases h9; omega) _ _ Y ls (lv_sub hl [0, 1, 4, 5] rfl)
      | some j =>
        have hj : j < i := hj j rfl
        have hl : lv_has ls 7 [(3, .int (nI i)), (2, .int (nI (160 * tj + 8 * j))), (1, .int (nI tj)), (0, .ref mo)] := hl
        refine lv_iload_n hx hb d_M_match_4 rfl (lv_at hl 0 rfl) ?_
        refine lv_aload_n hx hb d_M_match_5 rfl (lv_at hl 3 rfl) ?_
        refine fp_get X Y om rfl in_M 14 (by decide) w615 rfl d_M_match_6 ?_
        refine lv_iload_n hx hb d_M_match_9 rfl (lv_at hl 2 rfl) ?_
        refine fp_ild X Y o_count tj rfl (by omega) (by decide) d_M_match_10 ?_
        rw [hc]
        refine lv_icmp_ge (tgt := 183) hx hb d_M_match_11 (by decide) (fun c_11 => absurd c_11 (nI_ge (by omega) (by omega))) (fun c_11 => ?_)
        refine lv_sipush (v := 160) hx hb d_M_match_14 (by decide) ?_
        refine lv_iload_n hx hb d_M_match_17 rfl (lv_at hl 2 rfl) ?_
        refine lv_imul hx hb d_M_match_18 ?_
        refine lv_bipush (v := 8) hx hb d_M_match_19 (by decide) ?_
        refine lv_iload_n hx hb d_M_match_21 rfl (lv_at hl 0 rfl) ?_
        refine lv_imul hx hb d_M_match_22 ?_
        refine lv_iadd hx hb d_M_match_23 ?_
        rw [q_at8]
        refine lv_istore (lv' := [(4, .int (nI (160 * tj + 8 * i))), (3, .int (nI i)), (2, .int (nI (160 * tj + 8 * j))), (1, .int (nI tj)), (0, .ref mo)]) hx hb d_M_match_24 hl (by decide) rfl (fun ls hl => ?_)
        refine lv_aload_n hx hb d_M_match_26 rfl (lv_at hl 4 rfl) ?_
        refine fp_get X Y om rfl in_M 3 (by decide) w604 rfl d_M_match_27 ?_
        refine lv_aload_n hx hb d_M_match_30 rfl (lv_at hl 4 rfl) ?_
        refine fp_get X Y om rfl in_M 9 (by decide) w610 rfl d_M_match_31 ?_
        refine lv_iload_n hx hb d_M_match_34 rfl (lv_at hl 3 rfl) ?_
        refine fp_ild X Y o_one tj rfl (by omega) (by decide) d_M_match_35 ?_
        rw [h1]
        refine fp_ild X Y o_held j1 rfl (by omega) (by decide) d_M_match_36 ?_
        refine lv_aload_n hx hb d_M_match_37 rfl (lv_at hl 4 rfl) ?_
        refine fp_get X Y om rfl in_M 15 (by decide) w616 rfl d_M_match_38 ?_
        refine lv_iload hx hb d_M_match_41 (lv_at hl 0 rfl) ?_
        refine fp_ild X Y o_entry (160 * tj + 8 * i) rfl (by omega) (by decide) d_M_match_43 ?_
        refine lv_ixor hx hb d_M_match_44 ?_
        refine lv_aload_n hx hb d_M_match_45 rfl (lv_at hl 4 rfl) ?_
        refine fp_get X Y om rfl in_M 15 (by decide) w616 rfl d_M_match_46 ?_
        refine lv_iload hx hb d_M_match_49 (lv_at hl 0 rfl) ?_
        refine lv_iconst (v := 1) hx hb d_M_match_51 (by decide) ?_
        refine lv_iadd hx hb d_M_match_52 ?_
        refine fp_ild X Y o_entry (160 * tj + 8 * i + 1) (nI_add (160 * tj + 8 * i) 1) (by omega) (by decide) d_M_match_53 ?_
        refine lv_iand hx hb d_M_match_54 ?_
        refine lv_if_ne (tgt := 105) hx hb d_M_match_55 (by decide) (fun c_55 => ?_) (fun c_55 => ?_)
        · refine lv_iconst (v := 0) hx hb d_M_match_105 (by decide) ?_
          refine lv_istore (lv' := [(5, .int 0), (4, .int (nI (160 * tj + 8 * i))), (3, .int (nI i)), (2, .int (nI (160 * tj + 8 * j))), (1, .int (nI tj)), (0, .ref mo)]) hx hb d_M_match_106 hl (by decide) rfl (fun ls hl => ?_)
          refine lv_iload hx hb d_M_match_108 (lv_at hl 0 rfl) ?_
          refine lv_if_eq (tgt := 123) hx hb d_M_match_110 (by decide) (fun c_110 => ?_) (fun c_110 => absurd (by decide) c_110)
          refine lv_iload hx hb d_M_match_123 (lv_at hl 0 rfl) ?_
          refine lv_if_eq (tgt := 177) hx hb d_M_match_125 (by decide) (fun c_125 => ?_) (fun c_125 => absurd (by decide) c_125)
          refine lv_iinc (v := nI (i + 1)) (lv' := [(3, .int (nI (i + 1))), (5, .int 0), (4, .int (nI (160 * tj + 8 * i))), (2, .int (nI (160 * tj + 8 * j))), (1, .int (nI tj)), (0, .ref mo)]) hx hb d_M_match_177 hl (k := 2) rfl (nI_1 i) (by decide) rfl (fun ls hl => ?_)
          refine lv_goto (tgt := 4) hx hb d_M_match_180 (by decide) ?_
          exact ih (i + 1) (some j) (by omega) (q_best_s0 hB (q_f1_n c_55)) (fun j9 h9 => by cases h9; omega) _ _ Y ls (lv_sub hl [0, 3, 4, 5] rfl)
        · refine lv_aload_n hx hb d_M_match_58 rfl (lv_at hl 4 rfl) ?_
          refine fp_get X Y om rfl in_M 10 (by decide) w611 rfl d_M_match_59 ?_
          refine lv_iload_n hx hb d_M_match_62 rfl (lv_at hl 3 rfl) ?_
          refine fp_ild X Y o_two tj rfl (by omega) (by decide) d_M_match_63 ?_
          rw [h2]
          refine lv_if_lt (tgt := 101) hx hb d_M_match_64 (by decide) (fun c_64 => ?_) (fun c_64 => absurd (by decide) c_64)
          refine lv_iconst (v := 1) hx hb d_M_match_101 (by decide) ?_
          refine lv_goto (tgt := 106) hx hb d_M_match_102 (by decide) ?_
          refine lv_istore (lv' := [(5, .int 1), (4, .int (nI (160 * tj + 8 * i))), (3, .int (nI i)), (2, .int (nI (160 * tj + 8 * j))), (1, .int (nI tj)), (0, .ref mo)]) hx hb d_M_match_106 hl (by decide) rfl (fun ls hl => ?_)
          refine lv_iload hx hb d_M_match_108 (lv_at hl 0 rfl) ?_
          refine lv_if_eq (tgt := 123) hx hb d_M_match_110 (by decide) (fun c_110 => absurd c_110 (by decide)) (fun c_110 => ?_)
          refine lv_iload_n hx hb d_M_match_113 rfl (lv_at hl 3 rfl) ?_
          refine lv_if_ge (tgt := 123) hx hb d_M_match_114 (by decide) (fun c_114 => ?_) (fun c_114 => absurd (nI_pos' (by omega)) c_114)
          refine lv_iload hx hb d_M_match_123 (lv_at hl 0 rfl) ?_
          refine lv_if_eq (tgt := 177) hx hb d_M_match_125 (by decide) (fun c_125 => absurd c_125 (by decide)) (fun c_125 => ?_)
          refine lv_aload_n hx hb d_M_match_128 rfl (lv_at hl 5 rfl) ?_
          refine lv_iload_n hx hb d_M_match_129 rfl (lv_at hl 4 rfl) ?_
          refine lv_iload hx hb d_M_match_130 (lv_at hl 1 rfl) ?_
          refine fp_callV (nA := 2) (As := [.int (nI tj), .int (nI (160 * tj + 8 * i))]) (rest := []) X Y (c_M_prefix (ea := 160 * tj + 8 * i) htj (by omega) om o_how o_entry) om rfl w744 w741 w743 wp22 w9 (by decide +kernel) ⟨rfl, rfl⟩ ⟨Nat.le_of_ble_eq_true rfl, Nat.le_of_ble_eq_true rfl⟩ rfl hl.1 rfl (Nat.le_of_ble_eq_true rfl) d_M_match_132 ⟨Nat.zero_le _, Nat.zero_le _⟩ (fun v9 f9 H locs hp9 Y => ?_)
          obtain ⟨e8, e9⟩ := hp9
          subst e8
          rw [e9] at Y
          refine W.eq (g2 := F0 m 135 ls [.int (q_pm (zq tj) (ze (160 * tj + 8 * i + 1)) (ze (160 * tj + 8 * i + 3)))]) rfl ?_
          refine lv_aload_n hx hb d_M_match_135 rfl (lv_at hl 5 rfl) ?_
          refine lv_iload_n hx hb d_M_match_136 rfl (lv_at hl 4 rfl) ?_
          refine lv_iload_n hx hb d_M_match_137 rfl (lv_at hl 3 rfl) ?_
          refine fp_callV (nA := 2) (As := [.int (nI tj), .int (nI (160 * tj + 8 * j))]) (rest := [.int (q_pm (zq tj) (ze (160 * tj + 8 * i + 1)) (ze (160 * tj + 8 * i + 3)))]) X Y (c_M_prefix (ea := 160 * tj + 8 * j) htj (by omega) om o_how o_entry) om rfl w744 w741 w743 wp22 w9 (by decide +kernel) ⟨rfl, rfl⟩ ⟨Nat.le_of_ble_eq_true rfl, Nat.le_of_ble_eq_true rfl⟩ rfl hl.1 rfl (Nat.le_of_ble_eq_true rfl) d_M_match_138 ⟨Nat.zero_le _, Nat.zero_le _⟩ (fun v9 f9 H locs hp9 Y => ?_)
          obtain ⟨e8, e9⟩ := hp9
          subst e8
          rw [e9] at Y
          refine W.eq (g2 := F0 m 141 ls [.int (q_pm (zq tj) (ze (160 * tj + 8 * j + 1)) (ze (160 * tj + 8 * j + 3))), .int (q_pm (zq tj) (ze (160 * tj + 8 * i + 1)) (ze (160 * tj + 8 * i + 3)))]) rfl ?_
          refine lv_isub hx hb d_M_match_141 ?_
          refine lv_istore (lv' := [(6, .int ((q_pm (zq tj) (ze (160 * tj + 8 * i + 1)) (ze (160 * tj + 8 * i + 3))) - (q_pm (zq tj) (ze (160 * tj + 8 * j + 1)) (ze (160 * tj + 8 * j + 3))))), (5, .int 1), (4, .int (nI (160 * tj + 8 * i))), (3, .int (nI i)), (2, .int (nI (160 * tj + 8 * j))), (1, .int (nI tj)), (0, .ref mo)]) hx hb d_M_match_142 hl (by decide) rfl (fun ls hl => ?_)
          refine lv_iload hx hb d_M_match_144 (lv_at hl 0 rfl) ?_
          refine lv_if_gt (tgt := 174) hx hb d_M_match_146 (by decide) (fun c_146 => ?_) (fun c_146 => ?_)
          · refine lv_iload hx hb d_M_match_174 (lv_at hl 2 rfl) ?_
            refine lv_istore_n (lv' := [(2, .int (nI (160 * tj + 8 * i))), (6, .int ((q_pm (zq tj) (ze (160 * tj + 8 * i + 1)) (ze (160 * tj + 8 * i + 3))) - (q_pm (zq tj) (ze (160 * tj + 8 * j + 1)) (ze (160 * tj + 8 * j + 3))))), (5, .int 1), (4, .int (nI (160 * tj + 8 * i))), (3, .int (nI i)), (1, .int (nI tj)), (0, .ref mo)]) hx hb d_M_match_176 rfl hl (by decide) rfl (fun ls hl => ?_)
            refine lv_iinc (v := nI (i + 1)) (lv' := [(3, .int (nI (i + 1))), (2, .int (nI (160 * tj + 8 * i))), (6, .int ((q_pm (zq tj) (ze (160 * tj + 8 * i + 1)) (ze (160 * tj + 8 * i + 3))) - (q_pm (zq tj) (ze (160 * tj + 8 * j + 1)) (ze (160 * tj + 8 * j + 3))))), (5, .int 1), (4, .int (nI (160 * tj + 8 * i))), (1, .int (nI tj)), (0, .ref mo)]) hx hb d_M_match_177 hl (k := 4) rfl (nI_1 i) (by decide) rfl (fun ls hl => ?_)
            refine lv_goto (tgt := 4) hx hb d_M_match_180 (by decide) ?_
            exact ih (i + 1) (some i) (by omega) (q_best_s2 hB (q_f1_y c_55) (q_bm_1 c_146)) (fun j9 h9 => by cases h9; omega) _ _ Y ls (lv_sub hl [0, 1, 5, 6] rfl)
          · refine lv_iload hx hb d_M_match_149 (lv_at hl 0 rfl) ?_
            refine lv_if_ne (tgt := 177) hx hb d_M_match_151 (by decide) (fun c_151 => ?_) (fun c_151 => ?_)
            · refine lv_iinc (v := nI (i + 1)) (lv' := [(3, .int (nI (i + 1))), (6, .int ((q_pm (zq tj) (ze (160 * tj + 8 * i + 1)) (ze (160 * tj + 8 * i + 3))) - (q_pm (zq tj) (ze (160 * tj + 8 * j + 1)) (ze (160 * tj + 8 * j + 3))))), (5, .int 1), (4, .int (nI (160 * tj + 8 * i))), (2, .int (nI (160 * tj + 8 * j))), (1, .int (nI tj)), (0, .ref mo)]) hx hb d_M_match_177 hl (k := 3) rfl (nI_1 i) (by decide) rfl (fun ls hl => ?_)
              refine lv_goto (tgt := 4) hx hb d_M_match_180 (by decide) ?_
              exact ih (i + 1) (some j) (by omega) (q_best_s1 hB (q_f1_y c_55) (q_bm_3 c_146 c_151)) (fun j9 h9 => by cases h9; omega) _ _ Y ls (lv_sub hl [0, 4, 5, 6] rfl)
            · refine lv_aload_n hx hb d_M_match_154 rfl (lv_at hl 6 rfl) ?_
              refine fp_get X Y om rfl in_M 15 (by decide) w616 rfl d_M_match_155 ?_
              refine lv_iload hx hb d_M_match_158 (lv_at hl 2 rfl) ?_
              refine lv_iconst (v := 4) hx hb d_M_match_160 (by decide) ?_
              refine lv_iadd hx hb d_M_match_161 ?_
              refine fp_ild X Y o_entry (160 * tj + 8 * i + 4) (nI_add (160 * tj + 8 * i) 4) (by omega) (by decide) d_M_match_162 ?_
              refine lv_aload_n hx hb d_M_match_163 rfl (lv_at hl 6 rfl) ?_
              refine fp_get X Y om rfl in_M 15 (by decide) w616 rfl d_M_match_164 ?_
              refine lv_iload_n hx hb d_M_match_167 rfl (lv_at hl 4 rfl) ?_
              refine lv_iconst (v := 4) hx hb d_M_match_168 (by decide) ?_
              refine lv_iadd hx hb d_M_match_169 ?_
              refine fp_ild X Y o_entry (160 * tj + 8 * j + 4) (nI_add (160 * tj + 8 * j) 4) (by omega) (by decide) d_M_match_170 ?_
              refine lv_icmp_le (tgt := 177) hx hb d_M_match_171 (by decide) (fun c_171 => ?_) (fun c_171 => ?_)
              · refine lv_iinc (v := nI (i + 1)) (lv' := [(3, .int (nI (i + 1))), (6, .int ((q_pm (zq tj) (ze (160 * tj + 8 * i + 1)) (ze (160 * tj + 8 * i + 3))) - (q_pm (zq tj) (ze (160 * tj + 8 * j + 1)) (ze (160 * tj + 8 * j + 3))))), (5, .int 1), (4, .int (nI (160 * tj + 8 * i))), (2, .int (nI (160 * tj + 8 * j))), (1, .int (nI tj)), (0, .ref mo)]) hx hb d_M_match_177 hl (k := 3) rfl (nI_1 i) (by decide) rfl (fun ls hl => ?_)
                refine lv_goto (tgt := 4) hx hb d_M_match_180 (by decide) ?_
                exact ih (i + 1) (some j) (by omega) (q_best_s1 hB (q_f1_y c_55) (q_bm_4 c_146 c_151 c_171)) (fun j9 h9 => by cases h9; omega) _ _ Y ls (lv_sub hl [0, 4, 5, 6] rfl)
              · refine lv_iload hx hb d_M_match_174 (lv_at hl 2 rfl) ?_
                refine lv_istore_n (lv' := [(2, .int (nI (160 * tj + 8 * i))), (6, .int ((q_pm (zq tj) (ze (160 * tj + 8 * i + 1)) (ze (160 * tj + 8 * i + 3))) - (q_pm (zq tj) (ze (160 * tj + 8 * j + 1)) (ze (160 * tj + 8 * j + 3))))), (5, .int 1), (4, .int (nI (160 * tj + 8 * i))), (3, .int (nI i)), (1, .int (nI tj)), (0, .ref mo)]) hx hb d_M_match_176 rfl hl (by decide) rfl (fun ls hl => ?_)
                refine lv_iinc (v := nI (i + 1)) (lv' := [(3, .int (nI (i + 1))), (2, .int (nI (160 * tj + 8 * i))), (6, .int ((q_pm (zq tj) (ze (160 * tj + 8 * i + 1)) (ze (160 * tj + 8 * i + 3))) - (q_pm (zq tj) (ze (160 * tj + 8 * j + 1)) (ze (160 * tj + 8 * j + 3))))), (5, .int 1), (4, .int (nI (160 * tj + 8 * i))), (1, .int (nI tj)), (0, .ref mo)]) hx hb d_M_match_177 hl (k := 4) rfl (nI_1 i) (by decide) rfl (fun ls hl => ?_)
                refine lv_goto (tgt := 4) hx hb d_M_match_180 (by decide) ?_
                exact ih (i + 1) (some i) (by omega) (q_best_s2 hB (q_f1_y c_55) (q_bm_2 c_146 c_151 c_171)) (fun j9 h9 => by cases h9; omega) _ _ Y ls (lv_sub hl [0, 1, 5, 6] rfl)
  exact loop cn 0 none (by omega) rfl (fun j9 h9 => by cases h9) _ _ Y ls (lv_sub hl [0, 1, 3, 2] rfl)
set_option maxHeartbeats 4000000 in
set_option maxRecDepth 100000 in
theorem c_M_match_2 {l : Launch} {D : va_G} {g : Nat → ClassId} {b n : Nat} {A : Nat → Prop} {f : Nat → va_E} {mo : Nat} {th nf na nt po dr : Int32} {zh zo zt zq zc ze : Nat → Int32} {tj j1 cn j2 : Nat} (htj : tj < 8) (hj1 : j1 < 16) (h1 : zo tj = nI j1) (hj2 : j2 < 16) (h2 : zt tj = nI j2) (hcn : cn ≤ 20) (hc : zc tj = nI cn) (om : fp_o b n f mo (ob 8 [.int th, .int nf, .ref (mo + 1), .ref (mo + 2), .int na, .ref (mo + 3), .ref (mo + 4), .ref (mo + 5), .int nt, .ref (mo + 6), .ref (mo + 7), .ref (mo + 8), .ref (mo + 9), .ref (mo + 10), .ref (mo + 11), .ref (mo + 12), .ref (mo + 13), .ref (mo + 14), .int po, .int dr])) (o_held : fp_o b n f (mo + 2) (aI g 16 zh)) (o_one : fp_o b n f (mo + 6) (aI g 8 zo)) (o_two : fp_o b n f (mo + 7) (aI g 8 zt)) (o_how : fp_o b n f (mo + 8) (aI g 8 zq)) (o_count : fp_o b n f (mo + 11) (aI g 8 zc)) (o_entry : fp_o b n f (mo + 12) (aI g 1280 ze))  : fp_M l D (TY g) b n A y_M_match (fp_ws y_M_match b_M_match 7 (some FieldType.int)) (rmD 2) [.ref mo, .int (nI tj)] f (fun v f' => v = some (.int (q_bI tj (q_best (fun k => q_f2 (zh j1) (zh j2) (ze (160 * tj + 8 * k)) (ze (160 * tj + 8 * k + 1)) (ze (160 * tj + 8 * k + 2)) (ze (160 * tj + 8 * k + 3))) (fun i j => q_bm (q_pm (zq tj) (ze (160 * tj + 8 * i + 1)) (ze (160 * tj + 8 * i + 3))) (q_pm (zq tj) (ze (160 * tj + 8 * j + 1)) (ze (160 * tj + 8 * j + 3))) (ze (160 * tj + 8 * i + 4)) (ze (160 * tj + 8 * j + 4))) cn))) ∧ f' = f) := by
  refine fp_ofI (plainFor_of_name (by decide)) (Nat.le_of_ble_eq_true rfl) ?_
  intro p e s m args below meth c Q ls H locs X Y hl ret
  have hx := X.1.1
  have hb := X.1.2.1
  have hl : lv_has ls 7 [(0, .ref mo), (1, .int (nI tj))] := hl
  refine lv_iconst (v := -1) hx hb d_M_match_0 (by decide) ?_
  refine lv_istore_n (lv' := [(2, .int (-1)), (0, .ref mo), (1, .int (nI tj))]) hx hb d_M_match_1 rfl hl (by decide) rfl (fun ls hl => ?_)
  refine lv_iconst (v := 0) hx hb d_M_match_2 (by decide) ?_
  refine lv_istore_n (lv' := [(3, .int 0), (2, .int (-1)), (0, .ref mo), (1, .int (nI tj))]) hx hb d_M_match_3 rfl hl (by decide) rfl (fun ls hl => ?_)
  have loop : ∀ (k i : Nat) (B : Option Nat), k + i = cn → B = q_best (fun k => q_f2 (zh j1) (zh j2) (ze (160 * tj + 8 * k)) (ze (160 * tj + 8 * k + 1)) (ze (160 * tj + 8 * k + 2)) (ze (160 * tj + 8 * k + 3))) (fun i j => q_bm (q_pm (zq tj) (ze (160 * tj + 8 * i + 1)) (ze (160 * tj + 8 * i + 3))) (q_pm (zq tj) (ze (160 * tj + 8 * j + 1)) (ze (160 * tj + 8 * j + 3))) (ze (160 * tj + 8 * i + 4)) (ze (160 * tj + 8 * j + 4))) i → (∀ j : Nat, B = some j → j < i) → ∀ (H : Heap) (locs : List Loc), fp_H D b n A f s.heap H locs → ∀ (ls : Array Slot), lv_has ls 7 [(3, .int (nI i)), (2, .int (q_bI tj B)), (1, .int (nI tj)), (0, .ref mo)] → W p l e (rmD 2) s m args below meth c H locs 0 0 Q (F0 m 4 ls []) := by
    intro k
    induction k with
    | zero =>
      intro i B hi hB hj H locs Y ls hl
      cases B with
      | none =>
        have hl : lv_has ls 7 [(3, .int (nI i)), (2, .int (-1)), (1, .int (nI tj)), (0, .ref mo)] := hl
        refine lv_iload_n hx hb d_M_match_4 rfl (lv_at hl 0 rfl) ?_
        refine lv_aload_n hx hb d_M_match_5 rfl (lv_at hl 3 rfl) ?_
        refine fp_get X Y om rfl in_M 14 (by decide) w615 rfl d_M_match_6 ?_
        refine lv_iload_n hx hb d_M_match_9 rfl (lv_at hl 2 rfl) ?_
        refine fp_ild X Y o_count tj rfl (by omega) (by decide) d_M_match_10 ?_
        rw [hc]
        refine lv_icmp_ge (tgt := 183) hx hb d_M_match_11 (by decide) (fun c_11 => ?_) (fun c_11 => absurd (by rw [show i = cn by omega]; exact Int32.le_refl _) c_11)
        refine lv_iload_n hx hb d_M_match_183 rfl (lv_at hl 1 rfl) ?_
        exact ret _ _ _ _ _ _ d_M_match_184 ⟨_, rfl, rfl⟩ ⟨congrArg (fun z => some (Value.int z)) (by rw [show cn = i by omega, ← hB]; rfl), rfl⟩ Y
      | some j =>
        have hj : j < i := hj j rfl
        have hl : lv_has ls 7 [(3, .int (nI i)), (2, .int (nI (160 * tj + 8 * j))), (1, .int (nI tj)), (0, .ref mo)] := hl
        refine lv_iload_n hx hb d_M_match_4 rfl (lv_at hl 0 rfl) ?_
        refine lv_aload_n hx hb d_M_match_5 rfl (lv_at hl 3 rfl) ?_
        refine fp_get X Y om rfl in_M 14 (by decide) w615 rfl d_M_match_6 ?_
        refine lv_iload_n hx hb d_M_match_9 rfl (lv_at hl 2 rfl) ?_
        refine fp_ild X Y o_count tj rfl (by omega) (by decide) d_M_match_10 ?_
        rw [hc]
        refine lv_icmp_ge (tgt := 183) hx hb d_M_match_11 (by decide) (fun c_11 => ?_) (fun c_11 => absurd (by rw [show i = cn by omega]; exact Int32.le_refl _) c_11)
        refine lv_iload_n hx hb d_M_match_183 rfl (lv_at hl 1 rfl) ?_
        exact ret _ _ _ _ _ _ d_M_match_184 ⟨_, rfl, rfl⟩ ⟨congrArg (fun z => some (Value.int z)) (by rw [show cn = i by omega, ← hB]; rfl), rfl⟩ Y
    | succ k ih =>
      intro i B hi hB hj H locs Y ls hl
      cases B with
      | none =>
        have hl : lv_has ls 7 [(3, .int (nI i)), (2, .int (-1)), (1, .int (nI tj)), (0, .ref mo)] := hl
        refine lv_iload_n hx hb d_M_match_4 rfl (lv_at hl 0 rfl) ?_
        refine lv_aload_n hx hb d_M_match_5 rfl (lv_at hl 3 rfl) ?_
        refine fp_get X Y om rfl in_M 14 (by decide) w615 rfl d_M_match_6 ?_
        refine lv_iload_n hx hb d_M_match_9 rfl (lv_at hl 2 rfl) ?_
        refine fp_ild X Y o_count tj rfl (by omega) (by decide) d_M_match_10 ?_
        rw [hc]
        refine lv_icmp_ge (tgt := 183) hx hb d_M_match_11 (by decide) (fun c_11 => absurd c_11 (nI_ge (by omega) (by omega))) (fun c_11 => ?_)
        refine lv_sipush (v := 160) hx hb d_M_match_14 (by decide) ?_
        refine lv_iload_n hx hb d_M_match_17 rfl (lv_at hl 2 rfl) ?_
        refine lv_imul hx hb d_M_match_18 ?_
        refine lv_bipush (v := 8) hx hb d_M_match_19 (by decide) ?_
        refine lv_iload_n hx hb d_M_match_21 rfl (lv_at hl 0 rfl) ?_
        refine lv_imul hx hb d_M_match_22 ?_
        refine lv_iadd hx hb d_M_match_23 ?_
        rw [q_at8]
        refine lv_istore (lv' := [(4, .int (nI (160 * tj + 8 * i))), (3, .int (nI i)), (2, .int (-1)), (1, .int (nI tj)), (0, .ref mo)]) hx hb d_M_match_24 hl (by decide) rfl (fun ls hl => ?_)
        refine lv_aload_n hx hb d_M_match_26 rfl (lv_at hl 4 rfl) ?_
        refine fp_get X Y om rfl in_M 3 (by decide) w604 rfl d_M_match_27 ?_
        refine lv_aload_n hx hb d_M_match_30 rfl (lv_at hl 4 rfl) ?_
        refine fp_get X Y om rfl in_M 9 (by decide) w610 rfl d_M_match_31 ?_
        refine lv_iload_n hx hb d_M_match_34 rfl (lv_at hl 3 rfl) ?_
        refine fp_ild X Y o_one tj rfl (by omega) (by decide) d_M_match_35 ?_
        rw [h1]
        refine fp_ild X Y o_held j1 rfl (by omega) (by decide) d_M_match_36 ?_
        refine lv_aload_n hx hb d_M_match_37 rfl (lv_at hl 4 rfl) ?_
        refine fp_get X Y om rfl in_M 15 (by decide) w616 rfl d_M_match_38 ?_
        refine lv_iload hx hb d_M_match_41 (lv_at hl 0 rfl) ?_
        refine fp_ild X Y o_entry (160 * tj + 8 * i) rfl (by omega) (by decide) d_M_match_43 ?_
        refine lv_ixor hx hb d_M_match_44 ?_
        refine lv_aload_n hx hb d_M_match_45 rfl (lv_at hl 4 rfl) ?_
        refine fp_get X Y om rfl in_M 15 (by decide) w616 rfl d_M_match_46 ?_
        refine lv_iload hx hb d_M_match_49 (lv_at hl 0 rfl) ?_
        refine lv_iconst (v := 1) hx hb d_M_match_51 (by decide) ?_
        refine lv_iadd hx hb d_M_match_52 ?_
        refine fp_ild X Y o_entry (160 * tj + 8 * i + 1) (nI_add (160 * tj + 8 * i) 1) (by omega) (by decide) d_M_match_53 ?_
        refine lv_iand hx hb d_M_match_54 ?_
        refine lv_if_ne (tgt := 105) hx hb d_M_match_55 (by decide) (fun c_55 => ?_) (fun c_55 => ?_)
        · refine lv_iconst (v := 0) hx hb d_M_match_105 (by decide) ?_
          refine lv_istore (lv' := [(5, .int 0), (4, .int (nI (160 * tj + 8 * i))), (3, .int (nI i)), (2, .int (-1)), (1, .int (nI tj)), (0, .ref mo)]) hx hb d_M_match_106 hl (by decide) rfl (fun ls hl => ?_)
          refine lv_iload hx hb d_M_match_108 (lv_at hl 0 rfl) ?_
          refine lv_if_eq (tgt := 123) hx hb d_M_match_110 (by decide) (fun c_110 => ?_) (fun c_110 => absurd (by decide) c_110)
          refine lv_iload hx hb d_M_match_123 (lv_at hl 0 rfl) ?_
          refine lv_if_eq (tgt := 177) hx hb d_M_match_125 (by decide) (fun c_125 => ?_) (fun c_125 => absurd (by decide) c_125)
          refine lv_iinc (v := nI (i + 1)) (lv' := [(3, .int (nI (i + 1))), (5, .int 0), (4, .int (nI (160 * tj + 8 * i))), (2, .int (-1)), (1, .int (nI tj)), (0, .ref mo)]) hx hb d_M_match_177 hl (k := 2) rfl (nI_1 i) (by decide) rfl (fun ls hl => ?_)
          refine lv_goto (tgt := 4) hx hb d_M_match_180 (by decide) ?_
          exact ih (i + 1) none (by omega) (q_best_n0 hB (q_f2_n1 c_55)) (fun j9 h9 => by cases h9) _ _ Y ls (lv_sub hl [0, 3, 4, 5] rfl)
        · refine lv_aload_n hx hb d_M_match_58 rfl (lv_at hl 4 rfl) ?_
          refine fp_get X Y om rfl in_M 10 (by decide) w611 rfl d_M_match_59 ?_
          refine lv_iload_n hx hb d_M_match_62 rfl (lv_at hl 3 rfl) ?_
          refine fp_ild X Y o_two tj rfl (by omega) (by decide) d_M_match_63 ?_
          rw [h2]
          refine lv_if_lt (tgt := 101) hx hb d_M_match_64 (by decide) (fun c_64 => absurd c_64 (nI_pos (by omega))) (fun c_64 => ?_)
          refine lv_aload_n hx hb d_M_match_67 rfl (lv_at hl 4 rfl) ?_
          refine fp_get X Y om rfl in_M 3 (by decide) w604 rfl d_M_match_68 ?_
          refine lv_aload_n hx hb d_M_match_71 rfl (lv_at hl 4 rfl) ?_
          refine fp_get X Y om rfl in_M 10 (by decide) w611 rfl d_M_match_72 ?_
          refine lv_iload_n hx hb d_M_match_75 rfl (lv_at hl 3 rfl) ?_
          refine fp_ild X Y o_two tj rfl (by omega) (by decide) d_M_match_76 ?_
          rw [h2]
          refine fp_ild X Y o_held j2 rfl (by omega) (by decide) d_M_match_77 ?_
          refine lv_aload_n hx hb d_M_match_78 rfl (lv_at hl 4 rfl) ?_
          refine fp_get X Y om rfl in_M 15 (by decide) w616 rfl d_M_match_79 ?_
          refine lv_iload hx hb d_M_match_82 (lv_at hl 0 rfl) ?_
          refine lv_iconst (v := 2) hx hb d_M_match_84 (by decide) ?_
          refine lv_iadd hx hb d_M_match_85 ?_
          refine fp_ild X Y o_entry (160 * tj + 8 * i + 2) (nI_add (160 * tj + 8 * i) 2) (by omega) (by decide) d_M_match_86 ?_
          refine lv_ixor hx hb d_M_match_87 ?_
          refine lv_aload_n hx hb d_M_match_88 rfl (lv_at hl 4 rfl) ?_
          refine fp_get X Y om rfl in_M 15 (by decide) w616 rfl d_M_match_89 ?_
          refine lv_iload hx hb d_M_match_92 (lv_at hl 0 rfl) ?_
          refine lv_iconst (v := 3) hx hb d_M_match_94 (by decide) ?_
          refine lv_iadd hx hb d_M_match_95 ?_
          refine fp_ild X Y o_entry (160 * tj + 8 * i + 3) (nI_add (160 * tj + 8 * i) 3) (by omega) (by decide) d_M_match_96 ?_
          refine lv_iand hx hb d_M_match_97 ?_
          refine lv_if_ne (tgt := 105) hx hb d_M_match_98 (by decide) (fun c_98 => ?_) (fun c_98 => ?_)
          · refine lv_iconst (v := 0) hx hb d_M_match_105 (by decide) ?_
            refine lv_istore (lv' := [(5, .int 0), (4, .int (nI (160 * tj + 8 * i))), (3, .int (nI i)), (2, .int (-1)), (1, .int (nI tj)), (0, .ref mo)]) hx hb d_M_match_106 hl (by decide) rfl (fun ls hl => ?_)
            refine lv_iload hx hb d_M_match_108 (lv_at hl 0 rfl) ?_
            refine lv_if_eq (tgt := 123) hx hb d_M_match_110 (by decide) (fun c_110 => ?_) (fun c_110 => absurd (by decide) c_110)
            refine lv_iload hx hb d_M_match_123 (lv_at hl 0 rfl) ?_
            refine lv_if_eq (tgt := 177) hx hb d_M_match_125 (by decide) (fun c_125 => ?_) (fun c_125 => absurd (by decide) c_125)
            refine lv_iinc (v := nI (i + 1)) (lv' := [(3, .int (nI (i + 1))), (5, .int 0), (4, .int (nI (160 * tj + 8 * i))), (2, .int (-1)), (1, .int (nI tj)), (0, .ref mo)]) hx hb d_M_match_177 hl (k := 2) rfl (nI_1 i) (by decide) rfl (fun ls hl => ?_)
            refine lv_goto (tgt := 4) hx hb d_M_match_180 (by decide) ?_
            exact ih (i + 1) none (by omega) (q_best_n0 hB (q_f2_n2 c_55 c_98)) (fun j9 h9 => by cases h9) _ _ Y ls (lv_sub hl [0, 3, 4, 5] rfl)
          · refine lv_iconst (v := 1) hx hb d_M_match_101 (by decide) ?_
            refine lv_goto (tgt := 106) hx hb d_M_match_102 (by decide) ?_
            refine lv_istore (lv' := [(5, .int 1), (4, .int (nI (160 * tj + 8 * i))), (3, .int (nI i)), (2, .int (-1)), (1, .int (nI tj)), (0, .ref mo)]) hx hb d_M_match_106 hl (by decide) rfl (fun ls hl => ?_)
            refine lv_iload hx hb d_M_match_108 (lv_at hl 0 rfl) ?_
            refine lv_if_eq (tgt := 123) hx hb d_M_match_110 (by decide) (fun c_110 => absurd c_110 (by decide)) (fun c_110 => ?_)
            refine lv_iload_n hx hb d_M_match_113 rfl (lv_at hl 3 rfl) ?_
            refine lv_if_ge (tgt := 123) hx hb d_M_match_114 (by decide) (fun c_114 => absurd c_114 (by decide)) (fun c_114 => ?_)
            refine lv_iload hx hb d_M_match_117 (lv_at hl 1 rfl) ?_
            refine lv_istore_n (lv' := [(2, .int (nI (160 * tj + 8 * i))), (5, .int 1), (4, .int (nI (160 * tj + 8 * i))), (3, .int (nI i)), (1, .int (nI tj)), (0, .ref mo)]) hx hb d_M_match_119 rfl hl (by decide) rfl (fun ls hl => ?_)
            refine lv_goto (tgt := 177) hx hb d_M_match_120 (by decide) ?_
            refine lv_iinc (v := nI (i + 1)) (lv' := [(3, .int (nI (i + 1))), (2, .int (nI (160 * tj + 8 * i))), (5, .int 1), (4, .int (nI (160 * tj + 8 * i))), (1, .int (nI tj)), (0, .ref mo)]) hx hb d_M_match_177 hl (k := 3) rfl (nI_1 i) (by decide) rfl (fun ls hl => ?_)
            refine lv_goto (tgt := 4) hx hb d_M_match_180 (by decide) ?_
            exact ih (i + 1) (some i) (by omega) (q_best_n1 hB (q_f2_y c_55 c_98)) (fun j9 h9 => by cases h9; omega) _ _ Y ls (lv_sub hl [0, 1, 4, 5] rfl)
      | some j =>
        have hj : j < i := hj j rfl
        have hl : lv_has ls 7 [(3, .int (nI i)), (2, .int (nI (160 * tj + 8 * j))), (1, .int (nI tj)), (0, .ref mo)] := hl
        refine lv_iload_n hx hb d_M_match_4 rfl (lv_at hl 0 rfl) ?_
        refine lv_aload_n hx hb d_M_match_5 rfl (lv_at hl 3 rfl) ?_
        refine fp_get X Y om rfl in_M 14 (by decide) w615 rfl d_M_match_6 ?_
        refine lv_iload_n hx hb d_M_match_9 rfl (lv_at hl 2 rfl) ?_
        refine fp_ild X Y o_count tj rfl (by omega) (by decide) d_M_match_10 ?_
        rw [hc]
        refine lv_icmp_ge (tgt := 183) hx hb d_M_match_11 (by decide) (fun c_11 => absurd c_11 (nI_ge (by omega) (by omega))) (fun c_11 => ?_)
        refine lv_sipush (v := 160) hx hb d_M_match_14 (by decide) ?_
        refine lv_iload_n hx hb d_M_match_17 rfl (lv_at hl 2 rfl) ?_
        refine lv_imul hx hb d_M_match_18 ?_
        refine lv_bipush (v := 8) hx hb d_M_match_19 (by decide) ?_
        refine lv_iload_n hx hb d_M_match_21 rfl (lv_at hl 0 rfl) ?_
        refine lv_imul hx hb d_M_match_22 ?_
        refine lv_iadd hx hb d_M_match_23 ?_
        rw [q_at8]
        refine lv_istore (lv' := [(4, .int (nI (160 * tj + 8 * i))), (3, .int (nI i)), (2, .int (nI (160 * tj + 8 * j))), (1, .int (nI tj)), (0, .ref mo)]) hx hb d_M_match_24 hl (by decide) rfl (fun ls hl => ?_)
        refine lv_aload_n hx hb d_M_match_26 rfl (lv_at hl 4 rfl) ?_
        refine fp_get X Y om rfl in_M 3 (by decide) w604 rfl d_M_match_27 ?_
        refine lv_aload_n hx hb d_M_match_30 rfl (lv_at hl 4 rfl) ?_
        refine fp_get X Y om rfl in_M 9 (by decide) w610 rfl d_M_match_31 ?_
        refine lv_iload_n hx hb d_M_match_34 rfl (lv_at hl 3 rfl) ?_
        refine fp_ild X Y o_one tj rfl (by omega) (by decide) d_M_match_35 ?_
        rw [h1]
        refine fp_ild X Y o_held j1 rfl (by omega) (by decide) d_M_match_36 ?_
        refine lv_aload_n hx hb d_M_match_37 rfl (lv_at hl 4 rfl) ?_
        refine fp_get X Y om rfl in_M 15 (by decide) w616 rfl d_M_match_38 ?_
        refine lv_iload hx hb d_M_match_41 (lv_at hl 0 rfl) ?_
        refine fp_ild X Y o_entry (160 * tj + 8 * i) rfl (by omega) (by decide) d_M_match_43 ?_
        refine lv_ixor hx hb d_M_match_44 ?_
        refine lv_aload_n hx hb d_M_match_45 rfl (lv_at hl 4 rfl) ?_
        refine fp_get X Y om rfl in_M 15 (by decide) w616 rfl d_M_match_46 ?_
        refine lv_iload hx hb d_M_match_49 (lv_at hl 0 rfl) ?_
        refine lv_iconst (v := 1) hx hb d_M_match_51 (by decide) ?_
        refine lv_iadd hx hb d_M_match_52 ?_
        refine fp_ild X Y o_entry (160 * tj + 8 * i + 1) (nI_add (160 * tj + 8 * i) 1) (by omega) (by decide) d_M_match_53 ?_
        refine lv_iand hx hb d_M_match_54 ?_
        refine lv_if_ne (tgt := 105) hx hb d_M_match_55 (by decide) (fun c_55 => ?_) (fun c_55 => ?_)
        · refine lv_iconst (v := 0) hx hb d_M_match_105 (by decide) ?_
          refine lv_istore (lv' := [(5, .int 0), (4, .int (nI (160 * tj + 8 * i))), (3, .int (nI i)), (2, .int (nI (160 * tj + 8 * j))), (1, .int (nI tj)), (0, .ref mo)]) hx hb d_M_match_106 hl (by decide) rfl (fun ls hl => ?_)
          refine lv_iload hx hb d_M_match_108 (lv_at hl 0 rfl) ?_
          refine lv_if_eq (tgt := 123) hx hb d_M_match_110 (by decide) (fun c_110 => ?_) (fun c_110 => absurd (by decide) c_110)
          refine lv_iload hx hb d_M_match_123 (lv_at hl 0 rfl) ?_
          refine lv_if_eq (tgt := 177) hx hb d_M_match_125 (by decide) (fun c_125 => ?_) (fun c_125 => absurd (by decide) c_125)
          refine lv_iinc (v := nI (i + 1)) (lv' := [(3, .int (nI (i + 1))), (5, .int 0), (4, .int (nI (160 * tj + 8 * i))), (2, .int (nI (160 * tj + 8 * j))), (1, .int (nI tj)), (0, .ref mo)]) hx hb d_M_match_177 hl (k := 2) rfl (nI_1 i) (by decide) rfl (fun ls hl => ?_)
          refine lv_goto (tgt := 4) hx hb d_M_match_180 (by decide) ?_
          exact ih (i + 1) (some j) (by omega) (q_best_s0 hB (q_f2_n1 c_55)) (fun j9 h9 => by cases h9; omega) _ _ Y ls (lv_sub hl [0, 3, 4, 5] rfl)
        · refine lv_aload_n hx hb d_M_match_58 rfl (lv_at hl 4 rfl) ?_
          refine fp_get X Y om rfl in_M 10 (by decide) w611 rfl d_M_match_59 ?_
          refine lv_iload_n hx hb d_M_match_62 rfl (lv_at hl 3 rfl) ?_
          refine fp_ild X Y o_two tj rfl (by omega) (by decide) d_M_match_63 ?_
          rw [h2]
          refine lv_if_lt (tgt := 101) hx hb d_M_match_64 (by decide) (fun c_64 => absurd c_64 (nI_pos (by omega))) (fun c_64 => ?_)
          refine lv_aload_n hx hb d_M_match_67 rfl (lv_at hl 4 rfl) ?_
          refine fp_get X Y om rfl in_M 3 (by decide) w604 rfl d_M_match_68 ?_
          refine lv_aload_n hx hb d_M_match_71 rfl (lv_at hl 4 rfl) ?_
          refine fp_get X Y om rfl in_M 10 (by decide) w611 rfl d_M_match_72 ?_
          refine lv_iload_n hx hb d_M_match_75 rfl (lv_at hl 3 rfl) ?_
          refine fp_ild X Y o_two tj rfl (by omega) (by decide) d_M_match_76 ?_
          rw [h2]
          refine fp_ild X Y o_held j2 rfl (by omega) (by decide) d_M_match_77 ?_
          refine lv_aload_n hx hb d_M_match_78 rfl (lv_at hl 4 rfl) ?_
          refine fp_get X Y om rfl in_M 15 (by decide) w616 rfl d_M_match_79 ?_
          refine lv_iload hx hb d_M_match_82 (lv_at hl 0 rfl) ?_
          refine lv_iconst (v := 2) hx hb d_M_match_84 (by decide) ?_
          refine lv_iadd hx hb d_M_match_85 ?_
          refine fp_ild X Y o_entry (160 * tj + 8 * i + 2) (nI_add (160 * tj + 8 * i) 2) (by omega) (by decide) d_M_match_86 ?_
          refine lv_ixor hx hb d_M_match_87 ?_
          refine lv_aload_n hx hb d_M_match_88 rfl (lv_at hl 4 rfl) ?_
          refine fp_get X Y om rfl in_M 15 (by decide) w616 rfl d_M_match_89 ?_
          refine lv_iload hx hb d_M_match_92 (lv_at hl 0 rfl) ?_
          refine lv_iconst (v := 3) hx hb d_M_match_94 (by decide) ?_
          refine lv_iadd hx hb d_M_match_95 ?_
          refine fp_ild X Y o_entry (160 * tj + 8 * i + 3) (nI_add (160 * tj + 8 * i) 3) (by omega) (by decide) d_M_match_96 ?_
          refine lv_iand hx hb d_M_match_97 ?_
          refine lv_if_ne (tgt := 105) hx hb d_M_match_98 (by decide) (fun c_98 => ?_) (fun c_98 => ?_)
          · refine lv_iconst (v := 0) hx hb d_M_match_105 (by decide) ?_
            refine lv_istore (lv' := [(5, .int 0), (4, .int (nI (160 * tj + 8 * i))), (3, .int (nI i)), (2, .int (nI (160 * tj + 8 * j))), (1, .int (nI tj)), (0, .ref mo)]) hx hb d_M_match_106 hl (by decide) rfl (fun ls hl => ?_)
            refine lv_iload hx hb d_M_match_108 (lv_at hl 0 rfl) ?_
            refine lv_if_eq (tgt := 123) hx hb d_M_match_110 (by decide) (fun c_110 => ?_) (fun c_110 => absurd (by decide) c_110)
            refine lv_iload hx hb d_M_match_123 (lv_at hl 0 rfl) ?_
            refine lv_if_eq (tgt := 177) hx hb d_M_match_125 (by decide) (fun c_125 => ?_) (fun c_125 => absurd (by decide) c_125)
            refine lv_iinc (v := nI (i + 1)) (lv' := [(3, .int (nI (i + 1))), (5, .int 0), (4, .int (nI (160 * tj + 8 * i))), (2, .int (nI (160 * tj + 8 * j))), (1, .int (nI tj)), (0, .ref mo)]) hx hb d_M_match_177 hl (k := 2) rfl (nI_1 i) (by decide) rfl (fun ls hl => ?_)
            refine lv_goto (tgt := 4) hx hb d_M_match_180 (by decide) ?_
            exact ih (i + 1) (some j) (by omega) (q_best_s0 hB (q_f2_n2 c_55 c_98)) (fun j9 h9 => by cases h9; omega) _ _ Y ls (lv_sub hl [0, 3, 4, 5] rfl)
          · refine lv_iconst (v := 1) hx hb d_M_match_101 (by decide) ?_
            refine lv_goto (tgt := 106) hx hb d_M_match_102 (by decide) ?_
            refine lv_istore (lv' := [(5, .int 1), (4, .int (nI (160 * tj + 8 * i))), (3, .int (nI i)), (2, .int (nI (160 * tj + 8 * j))), (1, .int (nI tj)), (0, .ref mo)]) hx hb d_M_match_106 hl (by decide) rfl (fun ls hl => ?_)
            refine lv_iload hx hb d_M_match_108 (lv_at hl 0 rfl) ?_
            refine lv_if_eq (tgt := 123) hx hb d_M_match_110 (by decide) (fun c_110 => absurd c_110 (by decide)) (fun c_110 => ?_)
            refine lv_iload_n hx hb d_M_match_113 rfl (lv_at hl 3 rfl) ?_
            refine lv_if_ge (tgt := 123) hx hb d_M_match_114 (by decide) (fun c_114 => ?_) (fun c_114 => absurd (nI_pos' (by omega)) c_114)
            refine lv_iload hx hb d_M_match_123 (lv_at hl 0 rfl) ?_
            refine lv_if_eq (tgt := 177) hx hb d_M_match_125 (by decide) (fun c_125 => absurd c_125 (by decide)) (fun c_125 => ?_)
            refine lv_aload_n hx hb d_M_match_128 rfl (lv_at hl 5 rfl) ?_
            refine lv_iload_n hx hb d_M_match_129 rfl (lv_at hl 4 rfl) ?_
            refine lv_iload hx hb d_M_match_130 (lv_at hl 1 rfl) ?_
            refine fp_callV (nA := 2) (As := [.int (nI tj), .int (nI (160 * tj + 8 * i))]) (rest := []) X Y (c_M_prefix (ea := 160 * tj + 8 * i) htj (by omega) om o_how o_entry) om rfl w744 w741 w743 wp22 w9 (by decide +kernel) ⟨rfl, rfl⟩ ⟨Nat.le_of_ble_eq_true rfl, Nat.le_of_ble_eq_true rfl⟩ rfl hl.1 rfl (Nat.le_of_ble_eq_true rfl) d_M_match_132 ⟨Nat.zero_le _, Nat.zero_le _⟩ (fun v9 f9 H locs hp9 Y => ?_)
            obtain ⟨e8, e9⟩ := hp9
            subst e8
            rw [e9] at Y
            refine W.eq (g2 := F0 m 135 ls [.int (q_pm (zq tj) (ze (160 * tj + 8 * i + 1)) (ze (160 * tj + 8 * i + 3)))]) rfl ?_
            refine lv_aload_n hx hb d_M_match_135 rfl (lv_at hl 5 rfl) ?_
            refine lv_iload_n hx hb d_M_match_136 rfl (lv_at hl 4 rfl) ?_
            refine lv_iload_n hx hb d_M_match_137 rfl (lv_at hl 3 rfl) ?_
            refine fp_callV (nA := 2) (As := [.int (nI tj), .int (nI (160 * tj + 8 * j))]) (rest := [.int (q_pm (zq tj) (ze (160 * tj + 8 * i + 1)) (ze (160 * tj + 8 * i + 3)))]) X Y (c_M_prefix (ea := 160 * tj + 8 * j) htj (by omega) om o_how o_entry) om rfl w744 w741 w743 wp22 w9 (by decide +kernel) ⟨rfl, rfl⟩ ⟨Nat.le_of_ble_eq_true rfl, Nat.le_of_ble_eq_true rfl⟩ rfl hl.1 rfl (Nat.le_of_ble_eq_true rfl) d_M_match_138 ⟨Nat.zero_le _, Nat.zero_le _⟩ (fun v9 f9 H locs hp9 Y => ?_)
            obtain ⟨e8, e9⟩ := hp9
            subst e8
            rw [e9] at Y
            refine W.eq (g2 := F0 m 141 ls [.int (q_pm (zq tj) (ze (160 * tj + 8 * j + 1)) (ze (160 * tj + 8 * j + 3))), .int (q_pm (zq tj) (ze (160 * tj + 8 * i + 1)) (ze (160 * tj + 8 * i + 3)))]) rfl ?_
            refine lv_isub hx hb d_M_match_141 ?_
            refine lv_istore (lv' := [(6, .int ((q_pm (zq tj) (ze (160 * tj + 8 * i + 1)) (ze (160 * tj + 8 * i + 3))) - (q_pm (zq tj) (ze (160 * tj + 8 * j + 1)) (ze (160 * tj + 8 * j + 3))))), (5, .int 1), (4, .int (nI (160 * tj + 8 * i))), (3, .int (nI i)), (2, .int (nI (160 * tj + 8 * j))), (1, .int (nI tj)), (0, .ref mo)]) hx hb d_M_match_142 hl (by decide) rfl (fun ls hl => ?_)
            refine lv_iload hx hb d_M_match_144 (lv_at hl 0 rfl) ?_
            refine lv_if_gt (tgt := 174) hx hb d_M_match_146 (by decide) (fun c_146 => ?_) (fun c_146 => ?_)
            · refine lv_iload hx hb d_M_match_174 (lv_at hl 2 rfl) ?_
              refine lv_istore_n (lv' := [(2, .int (nI (160 * tj + 8 * i))), (6, .int ((q_pm (zq tj) (ze (160 * tj + 8 * i + 1)) (ze (160 * tj + 8 * i + 3))) - (q_pm (zq tj) (ze (160 * tj + 8 * j + 1)) (ze (160 * tj + 8 * j + 3))))), (5, .int 1), (4, .int (nI (160 * tj + 8 * i))), (3, .int (nI i)), (1, .int (nI tj)), (0, .ref mo)]) hx hb d_M_match_176 rfl hl (by decide) rfl (fun ls hl => ?_)
              refine lv_iinc (v := nI (i + 1)) (lv' := [(3, .int (nI (i + 1))), (2, .int (nI (160 * tj + 8 * i))), (6, .int ((q_pm (zq tj) (ze (160 * tj + 8 * i + 1)) (ze (160 * tj + 8 * i + 3))) - (q_pm (zq tj) (ze (160 * tj + 8 * j + 1)) (ze (160 * tj + 8 * j + 3))))), (5, .int 1), (4, .int (nI (160 * tj + 8 * i))), (1, .int (nI tj)), (0, .ref mo)]) hx hb d_M_match_177 hl (k := 4) rfl (nI_1 i) (by decide) rfl (fun ls hl => ?_)
              refine lv_goto (tgt := 4) hx hb d_M_match_180 (by decide) ?_
              exact ih (i + 1) (some i) (by omega) (q_best_s2 hB (q_f2_y c_55 c_98) (q_bm_1 c_146)) (fun j9 h9 => by cases h9; omega) _ _ Y ls (lv_sub hl [0, 1, 5, 6] rfl)
            · refine lv_iload hx hb d_M_match_149 (lv_at hl 0 rfl) ?_
              refine lv_if_ne (tgt := 177) hx hb d_M_match_151 (by decide) (fun c_151 => ?_) (fun c_151 => ?_)
              · refine lv_iinc (v := nI (i + 1)) (lv' := [(3, .int (nI (i + 1))), (6, .int ((q_pm (zq tj) (ze (160 * tj + 8 * i + 1)) (ze (160 * tj + 8 * i + 3))) - (q_pm (zq tj) (ze (160 * tj + 8 * j + 1)) (ze (160 * tj + 8 * j + 3))))), (5, .int 1), (4, .int (nI (160 * tj + 8 * i))), (2, .int (nI (160 * tj + 8 * j))), (1, .int (nI tj)), (0, .ref mo)]) hx hb d_M_match_177 hl (k := 3) rfl (nI_1 i) (by decide) rfl (fun ls hl => ?_)
                refine lv_goto (tgt := 4) hx hb d_M_match_180 (by decide) ?_
                exact ih (i + 1) (some j) (by omega) (q_best_s1 hB (q_f2_y c_55 c_98) (q_bm_3 c_146 c_151)) (fun j9 h9 => by cases h9; omega) _ _ Y ls (lv_sub hl [0, 4, 5, 6] rfl)
              · refine lv_aload_n hx hb d_M_match_154 rfl (lv_at hl 6 rfl) ?_
                refine fp_get X Y om rfl in_M 15 (by decide) w616 rfl d_M_match_155 ?_
                refine lv_iload hx hb d_M_match_158 (lv_at hl 2 rfl) ?_
                refine lv_iconst (v := 4) hx hb d_M_match_160 (by decide) ?_
                refine lv_iadd hx hb d_M_match_161 ?_
                refine fp_ild X Y o_entry (160 * tj + 8 * i + 4) (nI_add (160 * tj + 8 * i) 4) (by omega) (by decide) d_M_match_162 ?_
                refine lv_aload_n hx hb d_M_match_163 rfl (lv_at hl 6 rfl) ?_
                refine fp_get X Y om rfl in_M 15 (by decide) w616 rfl d_M_match_164 ?_
                refine lv_iload_n hx hb d_M_match_167 rfl (lv_at hl 4 rfl) ?_
                refine lv_iconst (v := 4) hx hb d_M_match_168 (by decide) ?_
                refine lv_iadd hx hb d_M_match_169 ?_
                refine fp_ild X Y o_entry (160 * tj + 8 * j + 4) (nI_add (160 * tj + 8 * j) 4) (by omega) (by decide) d_M_match_170 ?_
                refine lv_icmp_le (tgt := 177) hx hb d_M_match_171 (by decide) (fun c_171 => ?_) (fun c_171 => ?_)
                · refine lv_iinc (v := nI (i + 1)) (lv' := [(3, .int (nI (i + 1))), (6, .int ((q_pm (zq tj) (ze (160 * tj + 8 * i + 1)) (ze (160 * tj + 8 * i + 3))) - (q_pm (zq tj) (ze (160 * tj + 8 * j + 1)) (ze (160 * tj + 8 * j + 3))))), (5, .int 1), (4, .int (nI (160 * tj + 8 * i))), (2, .int (nI (160 * tj + 8 * j))), (1, .int (nI tj)), (0, .ref mo)]) hx hb d_M_match_177 hl (k := 3) rfl (nI_1 i) (by decide) rfl (fun ls hl => ?_)
                  refine lv_goto (tgt := 4) hx hb d_M_match_180 (by decide) ?_
                  exact ih (i + 1) (some j) (by omega) (q_best_s1 hB (q_f2_y c_55 c_98) (q_bm_4 c_146 c_151 c_171)) (fun j9 h9 => by cases h9; omega) _ _ Y ls (lv_sub hl [0, 4, 5, 6] rfl)
                · refine lv_iload hx hb d_M_match_174 (lv_at hl 2 rfl) ?_
                  refine lv_istore_n (lv' := [(2, .int (nI (160 * tj + 8 * i))), (6, .int ((q_pm (zq tj) (ze (160 * tj + 8 * i + 1)) (ze (160 * tj + 8 * i + 3))) - (q_pm (zq tj) (ze (160 * tj + 8 * j + 1)) (ze (160 * tj + 8 * j + 3))))), (5, .int 1), (4, .int (nI (160 * tj + 8 * i))), (3, .int (nI i)), (1, .int (nI tj)), (0, .ref mo)]) hx hb d_M_match_176 rfl hl (by decide) rfl (fun ls hl => ?_)
                  refine lv_iinc (v := nI (i + 1)) (lv' := [(3, .int (nI (i + 1))), (2, .int (nI (160 * tj + 8 * i))), (6, .int ((q_pm (zq tj) (ze (160 * tj + 8 * i + 1)) (ze (160 * tj + 8 * i + 3))) - (q_pm (zq tj) (ze (160 * tj + 8 * j + 1)) (ze (160 * tj + 8 * j + 3))))), (5, .int 1), (4, .int (nI (160 * tj + 8 * i))), (1, .int (nI tj)), (0, .ref mo)]) hx hb d_M_match_177 hl (k := 4) rfl (nI_1 i) (by decide) rfl (fun ls hl => ?_)
                  refine lv_goto (tgt := 4) hx hb d_M_match_180 (by decide) ?_
                  exact ih (i + 1) (some i) (by omega) (q_best_s2 hB (q_f2_y c_55 c_98) (q_bm_2 c_146 c_151 c_171)) (fun j9 h9 => by cases h9; omega) _ _ Y ls (lv_sub hl [0, 1, 5, 6] rfl)
  exact loop cn 0 none (by omega) rfl (fun j9 h9 => by cases h9) _ _ Y ls (lv_sub hl [0, 1, 3, 2] rfl)
theorem q_dat_0 (a b : Int32) : q_dat (nI 0) a b = a := if_pos rfl
theorem q_dat_1 (a b : Int32) : q_dat (nI 1) a b = b := if_neg (by decide)
set_option maxHeartbeats 4000000 in
set_option maxRecDepth 100000 in
theorem c_M_does_0 {l : Launch} {D : va_G} {g : Nat → ClassId} {b n : Nat} {A : Nat → Prop} {f : Nat → va_E} {mo : Nat} {th na nt po dr : Int32} {kf : Nat} {zw zh za ze : Nat → Int32} {z1 : Nat → Int32} {kj : Nat} {x y z : Int32} (hkj : kj < 9) (hkf : kf ≤ 16) (hone : ∀ j : Nat, j < kf → q_ones (zw j) = z1 j) (hops : ¬ q_ops kj x y z (nI kf) = 0) (om : fp_o b n f mo (ob 8 [.int th, .int (nI kf), .ref (mo + 1), .ref (mo + 2), .int na, .ref (mo + 3), .ref (mo + 4), .ref (mo + 5), .int nt, .ref (mo + 6), .ref (mo + 7), .ref (mo + 8), .ref (mo + 9), .ref (mo + 10), .ref (mo + 11), .ref (mo + 12), .ref (mo + 13), .ref (mo + 14), .int po, .int dr])) (o_width : fp_o b n f (mo + 1) (aI g 16 zw)) (o_held : fp_o b n f (mo + 2) (aI g 16 zh)) (o_array : fp_o b n f (mo + 5) (aI g 64 za)) (o_entry : fp_o b n f (mo + 12) (aI g 1280 ze))  (hA : fp_W b n A := by assumption) : fp_M l D (TY g) b n A y_M_does (fp_ws y_M_does b_M_does 6 none) (rmD 2) [.ref mo, .int (nI kj), .int x, .int y, .int z, .int (-1)] f (fun v f' => v = none ∧ f' = q_mp g f mo th (nI kf) na nt (q_do (nI kf) z1 kj x y z 0 0 (zh, za, po, dr))) := by
  refine fp_ofV (plainFor_of_name (by decide)) (Nat.le_of_ble_eq_true rfl) ?_
  intro p e s m args below meth c Q ls H locs X Y hl ret
  have hx := X.1.1
  have hb := X.1.2.1
  have hl : lv_has ls 6 [(0, .ref mo), (1, .int (nI kj)), (2, .int x), (3, .int y), (4, .int z), (5, .int (-1))] := hl
  have ohi := o_held
  have oai := o_array
  rcases (show kj = 0 ∨ kj = 1 ∨ kj = 2 ∨ kj = 3 ∨ kj = 4 ∨ kj = 5 ∨ kj = 6 ∨ kj = 7 ∨ kj = 8 by omega) with h9 | h9 | h9 | h9 | h9 | h9 | h9 | h9 | h9
  · subst h9
    have g1 : ¬ q_in x (nI kf) = 0 := hops
    obtain ⟨jx, hjx, ex⟩ := q_in_of (by omega) g1
    subst ex
    have hl : lv_has ls 6 [(0, .ref mo), (1, .int (nI 0)), (2, .int (nI jx)), (3, .int y), (4, .int z), (5, .int (-1))] := hl
    refine lv_iload_n hx hb d_M_does_0 rfl (lv_at hl 1 rfl) ?_
    refine lv_if_ne (tgt := 10) hx hb d_M_does_1 (by decide) (fun c_1 => absurd (by decide) c_1) (fun c_1 => ?_)
    refine lv_aload_n hx hb d_M_does_4 rfl (lv_at hl 0 rfl) ?_
    refine lv_iload_n hx hb d_M_does_5 rfl (lv_at hl 2 rfl) ?_
    refine lv_iload_n hx hb d_M_does_6 rfl (lv_at hl 3 rfl) ?_
    refine fp_callV (nA := 2) (As := [.int (nI jx), .int y]) (rest := []) X Y (c_M_hold y (by omega) om o_width o_held) om rfl w684 w681 w683 wp15 w9 (by decide +kernel) ⟨rfl, rfl⟩ ⟨Nat.le_of_ble_eq_true rfl, Nat.le_of_ble_eq_true rfl⟩ rfl hl.1 rfl (Nat.le_of_ble_eq_true rfl) d_M_does_7 ⟨Nat.zero_le _, Nat.zero_le _⟩ (fun v9 f9 H locs hp9 Y => ?_)
    obtain ⟨e8, e9⟩ := hp9
    subst e8
    rw [e9] at Y
    have ne_1 : mo ≠ mo + 2 := (fp_o.nf om o_held (by simp))
    have ne_2 : mo + 1 ≠ mo + 2 := (by omega)
    have ne_3 : mo + 5 ≠ mo + 2 := (by omega)
    have ne_4 : mo + 12 ≠ mo + 2 := (by omega)
    have Y : fp_H D b n A (va_up f (mo + 2) (aI g 16 (upd zh jx (y &&& q_ones (zw jx))))) s.heap H locs := Y
    have om : fp_o b n (va_up f (mo + 2) (aI g 16 (upd zh jx (y &&& q_ones (zw jx))))) mo (ob 8 [.int th, .int (nI kf), .ref (mo + 1), .ref (mo + 2), .int na, .ref (mo + 3), .ref (mo + 4), .ref (mo + 5), .int nt, .ref (mo + 6), .ref (mo + 7), .ref (mo + 8), .ref (mo + 9), .ref (mo + 10), .ref (mo + 11), .ref (mo + 12), .ref (mo + 13), .ref (mo + 14), .int po, .int dr]) := fp_o.ne om ne_1
    have o_width : fp_o b n (va_up f (mo + 2) (aI g 16 (upd zh jx (y &&& q_ones (zw jx))))) (mo + 1) (aI g 16 zw) := fp_o.ne o_width ne_2
    have o_array : fp_o b n (va_up f (mo + 2) (aI g 16 (upd zh jx (y &&& q_ones (zw jx))))) (mo + 5) (aI g 64 za) := fp_o.ne o_array ne_3
    have o_entry : fp_o b n (va_up f (mo + 2) (aI g 16 (upd zh jx (y &&& q_ones (zw jx))))) (mo + 12) (aI g 1280 ze) := fp_o.ne o_entry ne_4
    have o_held : fp_o b n (va_up f (mo + 2) (aI g 16 (upd zh jx (y &&& q_ones (zw jx))))) (mo + 2) (aI g 16 (upd zh jx (y &&& q_ones (zw jx)))) := fp_o.up o_held
    refine W.eq (g2 := F0 m 10 ls []) rfl ?_
    refine lv_iload_n hx hb d_M_does_10 rfl (lv_at hl 1 rfl) ?_
    refine lv_iconst (v := 1) hx hb d_M_does_11 (by decide) ?_
    refine lv_icmp_ne (tgt := 26) hx hb d_M_does_12 (by decide) (fun c_12 => ?_) (fun c_12 => absurd c_12 (by decide))
    refine lv_iload_n hx hb d_M_does_26 rfl (lv_at hl 1 rfl) ?_
    refine lv_iconst (v := 2) hx hb d_M_does_27 (by decide) ?_
    refine lv_icmp_ne (tgt := 52) hx hb d_M_does_28 (by decide) (fun c_28 => ?_) (fun c_28 => absurd c_28 (by decide))
    refine lv_iload_n hx hb d_M_does_52 rfl (lv_at hl 1 rfl) ?_
    refine lv_iconst (v := 3) hx hb d_M_does_53 (by decide) ?_
    refine lv_icmp_ne (tgt := 83) hx hb d_M_does_54 (by decide) (fun c_54 => ?_) (fun c_54 => absurd c_54 (by decide))
    refine lv_iload_n hx hb d_M_does_83 rfl (lv_at hl 1 rfl) ?_
    refine lv_iconst (v := 4) hx hb d_M_does_84 (by decide) ?_
    refine lv_icmp_ne (tgt := 93) hx hb d_M_does_85 (by decide) (fun c_85 => ?_) (fun c_85 => absurd c_85 (by decide))
    refine lv_iload_n hx hb d_M_does_93 rfl (lv_at hl 1 rfl) ?_
    refine lv_iconst (v := 5) hx hb d_M_does_94 (by decide) ?_
    refine lv_icmp_ne (tgt := 123) hx hb d_M_does_95 (by decide) (fun c_95 => ?_) (fun c_95 => absurd c_95 (by decide))
    refine lv_iload_n hx hb d_M_does_123 rfl (lv_at hl 1 rfl) ?_
    refine lv_bipush (v := 6) hx hb d_M_does_124 (by decide) ?_
    refine lv_icmp_ne (tgt := 134) hx hb d_M_does_126 (by decide) (fun c_126 => ?_) (fun c_126 => absurd c_126 (by decide))
    refine lv_iload_n hx hb d_M_does_134 rfl (lv_at hl 1 rfl) ?_
    refine lv_bipush (v := 7) hx hb d_M_does_135 (by decide) ?_
    refine lv_icmp_ne (tgt := 181) hx hb d_M_does_137 (by decide) (fun c_137 => ?_) (fun c_137 => absurd c_137 (by decide))
    refine lv_iload_n hx hb d_M_does_181 rfl (lv_at hl 1 rfl) ?_
    refine lv_bipush (v := 8) hx hb d_M_does_182 (by decide) ?_
    refine lv_icmp_ne (tgt := 212) hx hb d_M_does_184 (by decide) (fun c_184 => ?_) (fun c_184 => absurd c_184 (by decide))
    exact ret _ _ _ _ _ d_M_does_212 ⟨rfl, by simp only [q_mp, q_do]; rw [q_wr_in hjx (by omega), ← hone jx hjx, va_up_same o_array.2.2, va_up_same om.2.2]⟩ Y
  · subst h9
    obtain ⟨g1, g2⟩ := q_ite2 hops
    obtain ⟨jx, hjx, ex⟩ := q_in_of (by omega) g1
    subst ex
    obtain ⟨jy, hjy, ey⟩ := q_in_of (by omega) g2
    subst ey
    have hl : lv_has ls 6 [(0, .ref mo), (1, .int (nI 1)), (2, .int (nI jx)), (3, .int (nI jy)), (4, .int z), (5, .int (-1))] := hl
    refine lv_iload_n hx hb d_M_does_0 rfl (lv_at hl 1 rfl) ?_
    refine lv_if_ne (tgt := 10) hx hb d_M_does_1 (by decide) (fun c_1 => ?_) (fun c_1 => absurd c_1 (by decide))
    refine lv_iload_n hx hb d_M_does_10 rfl (lv_at hl 1 rfl) ?_
    refine lv_iconst (v := 1) hx hb d_M_does_11 (by decide) ?_
    refine lv_icmp_ne (tgt := 26) hx hb d_M_does_12 (by decide) (fun c_12 => absurd (by decide) c_12) (fun c_12 => ?_)
    refine lv_aload_n hx hb d_M_does_15 rfl (lv_at hl 0 rfl) ?_
    refine lv_iload_n hx hb d_M_does_16 rfl (lv_at hl 2 rfl) ?_
    refine lv_aload_n hx hb d_M_does_17 rfl (lv_at hl 0 rfl) ?_
    refine fp_get X Y om rfl in_M 3 (by decide) w604 rfl d_M_does_18 ?_
    refine lv_iload_n hx hb d_M_does_21 rfl (lv_at hl 3 rfl) ?_
    refine fp_ild X Y o_held jy rfl (by omega) (by decide) d_M_does_22 ?_
    refine fp_callV (nA := 2) (As := [.int (nI jx), .int (zh jy)]) (rest := []) X Y (c_M_hold (zh jy) (by omega) om o_width o_held) om rfl w684 w681 w683 wp15 w9 (by decide +kernel) ⟨rfl, rfl⟩ ⟨Nat.le_of_ble_eq_true rfl, Nat.le_of_ble_eq_true rfl⟩ rfl hl.1 rfl (Nat.le_of_ble_eq_true rfl) d_M_does_23 ⟨Nat.zero_le _, Nat.zero_le _⟩ (fun v9 f9 H locs hp9 Y => ?_)
    obtain ⟨e8, e9⟩ := hp9
    subst e8
    rw [e9] at Y
    have ne_5 : mo ≠ mo + 2 := (fp_o.nf om o_held (by simp))
    have ne_6 : mo + 1 ≠ mo + 2 := (by omega)
    have ne_7 : mo + 5 ≠ mo + 2 := (by omega)
    have ne_8 : mo + 12 ≠ mo + 2 := (by omega)
    have Y : fp_H D b n A (va_up f (mo + 2) (aI g 16 (upd zh jx ((zh jy) &&& q_ones (zw jx))))) s.heap H locs := Y
    have om : fp_o b n (va_up f (mo + 2) (aI g 16 (upd zh jx ((zh jy) &&& q_ones (zw jx))))) mo (ob 8 [.int th, .int (nI kf), .ref (mo + 1), .ref (mo + 2), .int na, .ref (mo + 3), .ref (mo + 4), .ref (mo + 5), .int nt, .ref (mo + 6), .ref (mo + 7), .ref (mo + 8), .ref (mo + 9), .ref (mo + 10), .ref (mo + 11), .ref (mo + 12), .ref (mo + 13), .ref (mo + 14), .int po, .int dr]) := fp_o.ne om ne_5
    have o_width : fp_o b n (va_up f (mo + 2) (aI g 16 (upd zh jx ((zh jy) &&& q_ones (zw jx))))) (mo + 1) (aI g 16 zw) := fp_o.ne o_width ne_6
    have o_array : fp_o b n (va_up f (mo + 2) (aI g 16 (upd zh jx ((zh jy) &&& q_ones (zw jx))))) (mo + 5) (aI g 64 za) := fp_o.ne o_array ne_7
    have o_entry : fp_o b n (va_up f (mo + 2) (aI g 16 (upd zh jx ((zh jy) &&& q_ones (zw jx))))) (mo + 12) (aI g 1280 ze) := fp_o.ne o_entry ne_8
    have o_held : fp_o b n (va_up f (mo + 2) (aI g 16 (upd zh jx ((zh jy) &&& q_ones (zw jx))))) (mo + 2) (aI g 16 (upd zh jx ((zh jy) &&& q_ones (zw jx)))) := fp_o.up o_held
    refine W.eq (g2 := F0 m 26 ls []) rfl ?_
    refine lv_iload_n hx hb d_M_does_26 rfl (lv_at hl 1 rfl) ?_
    refine lv_iconst (v := 2) hx hb d_M_does_27 (by decide) ?_
    refine lv_icmp_ne (tgt := 52) hx hb d_M_does_28 (by decide) (fun c_28 => ?_) (fun c_28 => absurd c_28 (by decide))
    refine lv_iload_n hx hb d_M_does_52 rfl (lv_at hl 1 rfl) ?_
    refine lv_iconst (v := 3) hx hb d_M_does_53 (by decide) ?_
    refine lv_icmp_ne (tgt := 83) hx hb d_M_does_54 (by decide) (fun c_54 => ?_) (fun c_54 => absurd c_54 (by decide))
    refine lv_iload_n hx hb d_M_does_83 rfl (lv_at hl 1 rfl) ?_
    refine lv_iconst (v := 4) hx hb d_M_does_84 (by decide) ?_
    refine lv_icmp_ne (tgt := 93) hx hb d_M_does_85 (by decide) (fun c_85 => ?_) (fun c_85 => absurd c_85 (by decide))
    refine lv_iload_n hx hb d_M_does_93 rfl (lv_at hl 1 rfl) ?_
    refine lv_iconst (v := 5) hx hb d_M_does_94 (by decide) ?_
    refine lv_icmp_ne (tgt := 123) hx hb d_M_does_95 (by decide) (fun c_95 => ?_) (fun c_95 => absurd c_95 (by decide))
    refine lv_iload_n hx hb d_M_does_123 rfl (lv_at hl 1 rfl) ?_
    refine lv_bipush (v := 6) hx hb d_M_does_124 (by decide) ?_
    refine lv_icmp_ne (tgt := 134) hx hb d_M_does_126 (by decide) (fun c_126 => ?_) (fun c_126 => absurd c_126 (by decide))
    refine lv_iload_n hx hb d_M_does_134 rfl (lv_at hl 1 rfl) ?_
    refine lv_bipush (v := 7) hx hb d_M_does_135 (by decide) ?_
    refine lv_icmp_ne (tgt := 181) hx hb d_M_does_137 (by decide) (fun c_137 => ?_) (fun c_137 => absurd c_137 (by decide))
    refine lv_iload_n hx hb d_M_does_181 rfl (lv_at hl 1 rfl) ?_
    refine lv_bipush (v := 8) hx hb d_M_does_182 (by decide) ?_
    refine lv_icmp_ne (tgt := 212) hx hb d_M_does_184 (by decide) (fun c_184 => ?_) (fun c_184 => absurd c_184 (by decide))
    exact ret _ _ _ _ _ d_M_does_212 ⟨rfl, by simp only [q_mp, q_do]; rw [q_at_in hjy (by omega), q_wr_in hjx (by omega), ← hone jx hjx, va_up_same o_array.2.2, va_up_same om.2.2]⟩ Y
  · subst h9
    obtain ⟨g1, g2⟩ := q_ite2 hops
    obtain ⟨jx, hjx, ex⟩ := q_in_of (by omega) g1
    subst ex
    obtain ⟨jy, hjy, ey⟩ := q_in_of (by omega) g2
    subst ey
    have hl : lv_has ls 6 [(0, .ref mo), (1, .int (nI 2)), (2, .int (nI jx)), (3, .int (nI jy)), (4, .int z), (5, .int (-1))] := hl
    refine lv_iload_n hx hb d_M_does_0 rfl (lv_at hl 1 rfl) ?_
    refine lv_if_ne (tgt := 10) hx hb d_M_does_1 (by decide) (fun c_1 => ?_) (fun c_1 => absurd c_1 (by decide))
    refine lv_iload_n hx hb d_M_does_10 rfl (lv_at hl 1 rfl) ?_
    refine lv_iconst (v := 1) hx hb d_M_does_11 (by decide) ?_
    refine lv_icmp_ne (tgt := 26) hx hb d_M_does_12 (by decide) (fun c_12 => ?_) (fun c_12 => absurd c_12 (by decide))
    refine lv_iload_n hx hb d_M_does_26 rfl (lv_at hl 1 rfl) ?_
    refine lv_iconst (v := 2) hx hb d_M_does_27 (by decide) ?_
    refine lv_icmp_ne (tgt := 52) hx hb d_M_does_28 (by decide) (fun c_28 => absurd (by decide) c_28) (fun c_28 => ?_)
    refine lv_aload_n hx hb d_M_does_31 rfl (lv_at hl 0 rfl) ?_
    refine lv_iload_n hx hb d_M_does_32 rfl (lv_at hl 2 rfl) ?_
    refine lv_aload_n hx hb d_M_does_33 rfl (lv_at hl 0 rfl) ?_
    refine fp_get X Y om rfl in_M 3 (by decide) w604 rfl d_M_does_34 ?_
    refine lv_iload_n hx hb d_M_does_37 rfl (lv_at hl 2 rfl) ?_
    refine fp_ild X Y o_held jx rfl (by omega) (by decide) d_M_does_38 ?_
    refine lv_aload_n hx hb d_M_does_39 rfl (lv_at hl 0 rfl) ?_
    refine fp_get X Y om rfl in_M 3 (by decide) w604 rfl d_M_does_40 ?_
    refine lv_iload_n hx hb d_M_does_43 rfl (lv_at hl 3 rfl) ?_
    refine fp_ild X Y o_held jy rfl (by omega) (by decide) d_M_does_44 ?_
    refine lv_iadd hx hb d_M_does_45 ?_
    refine lv_iload hx hb d_M_does_46 (lv_at hl 4 rfl) ?_
    refine lv_iadd hx hb d_M_does_48 ?_
    refine fp_callV (nA := 2) (As := [.int (nI jx), .int (((zh jx) + (zh jy)) + z)]) (rest := []) X Y (c_M_hold (((zh jx) + (zh jy)) + z) (by omega) om o_width o_held) om rfl w684 w681 w683 wp15 w9 (by decide +kernel) ⟨rfl, rfl⟩ ⟨Nat.le_of_ble_eq_true rfl, Nat.le_of_ble_eq_true rfl⟩ rfl hl.1 rfl (Nat.le_of_ble_eq_true rfl) d_M_does_49 ⟨Nat.zero_le _, Nat.zero_le _⟩ (fun v9 f9 H locs hp9 Y => ?_)
    obtain ⟨e8, e9⟩ := hp9
    subst e8
    rw [e9] at Y
    have ne_9 : mo ≠ mo + 2 := (fp_o.nf om o_held (by simp))
    have ne_10 : mo + 1 ≠ mo + 2 := (by omega)
    have ne_11 : mo + 5 ≠ mo + 2 := (by omega)
    have ne_12 : mo + 12 ≠ mo + 2 := (by omega)
    have Y : fp_H D b n A (va_up f (mo + 2) (aI g 16 (upd zh jx ((((zh jx) + (zh jy)) + z) &&& q_ones (zw jx))))) s.heap H locs := Y
    have om : fp_o b n (va_up f (mo + 2) (aI g 16 (upd zh jx ((((zh jx) + (zh jy)) + z) &&& q_ones (zw jx))))) mo (ob 8 [.int th, .int (nI kf), .ref (mo + 1), .ref (mo + 2), .int na, .ref (mo + 3), .ref (mo + 4), .ref (mo + 5), .int nt, .ref (mo + 6), .ref (mo + 7), .ref (mo + 8), .ref (mo + 9), .ref (mo + 10), .ref (mo + 11), .ref (mo + 12), .ref (mo + 13), .ref (mo + 14), .int po, .int dr]) := fp_o.ne om ne_9
    have o_width : fp_o b n (va_up f (mo + 2) (aI g 16 (upd zh jx ((((zh jx) + (zh jy)) + z) &&& q_ones (zw jx))))) (mo + 1) (aI g 16 zw) := fp_o.ne o_width ne_10
    have o_array : fp_o b n (va_up f (mo + 2) (aI g 16 (upd zh jx ((((zh jx) + (zh jy)) + z) &&& q_ones (zw jx))))) (mo + 5) (aI g 64 za) := fp_o.ne o_array ne_11
    have o_entry : fp_o b n (va_up f (mo + 2) (aI g 16 (upd zh jx ((((zh jx) + (zh jy)) + z) &&& q_ones (zw jx))))) (mo + 12) (aI g 1280 ze) := fp_o.ne o_entry ne_12
    have o_held : fp_o b n (va_up f (mo + 2) (aI g 16 (upd zh jx ((((zh jx) + (zh jy)) + z) &&& q_ones (zw jx))))) (mo + 2) (aI g 16 (upd zh jx ((((zh jx) + (zh jy)) + z) &&& q_ones (zw jx)))) := fp_o.up o_held
    refine W.eq (g2 := F0 m 52 ls []) rfl ?_
    refine lv_iload_n hx hb d_M_does_52 rfl (lv_at hl 1 rfl) ?_
    refine lv_iconst (v := 3) hx hb d_M_does_53 (by decide) ?_
    refine lv_icmp_ne (tgt := 83) hx hb d_M_does_54 (by decide) (fun c_54 => ?_) (fun c_54 => absurd c_54 (by decide))
    refine lv_iload_n hx hb d_M_does_83 rfl (lv_at hl 1 rfl) ?_
    refine lv_iconst (v := 4) hx hb d_M_does_84 (by decide) ?_
    refine lv_icmp_ne (tgt := 93) hx hb d_M_does_85 (by decide) (fun c_85 => ?_) (fun c_85 => absurd c_85 (by decide))
    refine lv_iload_n hx hb d_M_does_93 rfl (lv_at hl 1 rfl) ?_
    refine lv_iconst (v := 5) hx hb d_M_does_94 (by decide) ?_
    refine lv_icmp_ne (tgt := 123) hx hb d_M_does_95 (by decide) (fun c_95 => ?_) (fun c_95 => absurd c_95 (by decide))
    refine lv_iload_n hx hb d_M_does_123 rfl (lv_at hl 1 rfl) ?_
    refine lv_bipush (v := 6) hx hb d_M_does_124 (by decide) ?_
    refine lv_icmp_ne (tgt := 134) hx hb d_M_does_126 (by decide) (fun c_126 => ?_) (fun c_126 => absurd c_126 (by decide))
    refine lv_iload_n hx hb d_M_does_134 rfl (lv_at hl 1 rfl) ?_
    refine lv_bipush (v := 7) hx hb d_M_does_135 (by decide) ?_
    refine lv_icmp_ne (tgt := 181) hx hb d_M_does_137 (by decide) (fun c_137 => ?_) (fun c_137 => absurd c_137 (by decide))
    refine lv_iload_n hx hb d_M_does_181 rfl (lv_at hl 1 rfl) ?_
    refine lv_bipush (v := 8) hx hb d_M_does_182 (by decide) ?_
    refine lv_icmp_ne (tgt := 212) hx hb d_M_does_184 (by decide) (fun c_184 => ?_) (fun c_184 => absurd c_184 (by decide))
    exact ret _ _ _ _ _ d_M_does_212 ⟨rfl, by simp only [q_mp, q_do]; rw [q_at_in hjx (by omega), q_at_in hjy (by omega), q_wr_in hjx (by omega), ← hone jx hjx, va_up_same o_array.2.2, va_up_same om.2.2]⟩ Y
  · subst h9
    obtain ⟨g1, g2⟩ := q_ite2 hops
    obtain ⟨jx, hjx, ex⟩ := q_in_of (by omega) g1
    subst ex
    obtain ⟨jy, hjy, ey⟩ := q_in_of (k := 2) (by decide) g2
    subst ey
    rcases (show jy = 0 ∨ jy = 1 by omega) with h8 | h8
    · subst h8
      have hl : lv_has ls 6 [(0, .ref mo), (1, .int (nI 3)), (2, .int (nI jx)), (3, .int (nI 0)), (4, .int z), (5, .int (-1))] := hl
      refine lv_iload_n hx hb d_M_does_0 rfl (lv_at hl 1 rfl) ?_
      refine lv_if_ne (tgt := 10) hx hb d_M_does_1 (by decide) (fun c_1 => ?_) (fun c_1 => absurd c_1 (by decide))
      refine lv_iload_n hx hb d_M_does_10 rfl (lv_at hl 1 rfl) ?_
      refine lv_iconst (v := 1) hx hb d_M_does_11 (by decide) ?_
      refine lv_icmp_ne (tgt := 26) hx hb d_M_does_12 (by decide) (fun c_12 => ?_) (fun c_12 => absurd c_12 (by decide))
      refine lv_iload_n hx hb d_M_does_26 rfl (lv_at hl 1 rfl) ?_
      refine lv_iconst (v := 2) hx hb d_M_does_27 (by decide) ?_
      refine lv_icmp_ne (tgt := 52) hx hb d_M_does_28 (by decide) (fun c_28 => ?_) (fun c_28 => absurd c_28 (by decide))
      refine lv_iload_n hx hb d_M_does_52 rfl (lv_at hl 1 rfl) ?_
      refine lv_iconst (v := 3) hx hb d_M_does_53 (by decide) ?_
      refine lv_icmp_ne (tgt := 83) hx hb d_M_does_54 (by decide) (fun c_54 => absurd (by decide) c_54) (fun c_54 => ?_)
      refine lv_aload_n hx hb d_M_does_57 rfl (lv_at hl 0 rfl) ?_
      refine lv_iload_n hx hb d_M_does_58 rfl (lv_at hl 2 rfl) ?_
      refine lv_iload hx hb d_M_does_59 (lv_at hl 5 rfl) ?_
      refine lv_if_ge (tgt := 68) hx hb d_M_does_61 (by decide) (fun c_61 => absurd c_61 (by decide)) (fun c_61 => ?_)
      refine lv_iconst (v := 0) hx hb d_M_does_64 (by decide) ?_
      refine lv_goto (tgt := 80) hx hb d_M_does_65 (by decide) ?_
      refine fp_callV (nA := 2) (As := [.int (nI jx), .int 0]) (rest := []) X Y (c_M_hold 0 (by omega) om o_width o_held) om rfl w684 w681 w683 wp15 w9 (by decide +kernel) ⟨rfl, rfl⟩ ⟨Nat.le_of_ble_eq_true rfl, Nat.le_of_ble_eq_true rfl⟩ rfl hl.1 rfl (Nat.le_of_ble_eq_true rfl) d_M_does_80 ⟨Nat.zero_le _, Nat.zero_le _⟩ (fun v9 f9 H locs hp9 Y => ?_)
      obtain ⟨e8, e9⟩ := hp9
      subst e8
      rw [e9] at Y
      have ne_13 : mo ≠ mo + 2 := (fp_o.nf om o_held (by simp))
      have ne_14 : mo + 1 ≠ mo + 2 := (by omega)
      have ne_15 : mo + 5 ≠ mo + 2 := (by omega)
      have ne_16 : mo + 12 ≠ mo + 2 := (by omega)
      have Y : fp_H D b n A (va_up f (mo + 2) (aI g 16 (upd zh jx (0 &&& q_ones (zw jx))))) s.heap H locs := Y
      have om : fp_o b n (va_up f (mo + 2) (aI g 16 (upd zh jx (0 &&& q_ones (zw jx))))) mo (ob 8 [.int th, .int (nI kf), .ref (mo + 1), .ref (mo + 2), .int na, .ref (mo + 3), .ref (mo + 4), .ref (mo + 5), .int nt, .ref (mo + 6), .ref (mo + 7), .ref (mo + 8), .ref (mo + 9), .ref (mo + 10), .ref (mo + 11), .ref (mo + 12), .ref (mo + 13), .ref (mo + 14), .int po, .int dr]) := fp_o.ne om ne_13
      have o_width : fp_o b n (va_up f (mo + 2) (aI g 16 (upd zh jx (0 &&& q_ones (zw jx))))) (mo + 1) (aI g 16 zw) := fp_o.ne o_width ne_14
      have o_array : fp_o b n (va_up f (mo + 2) (aI g 16 (upd zh jx (0 &&& q_ones (zw jx))))) (mo + 5) (aI g 64 za) := fp_o.ne o_array ne_15
      have o_entry : fp_o b n (va_up f (mo + 2) (aI g 16 (upd zh jx (0 &&& q_ones (zw jx))))) (mo + 12) (aI g 1280 ze) := fp_o.ne o_entry ne_16
      have o_held : fp_o b n (va_up f (mo + 2) (aI g 16 (upd zh jx (0 &&& q_ones (zw jx))))) (mo + 2) (aI g 16 (upd zh jx (0 &&& q_ones (zw jx)))) := fp_o.up o_held
      refine W.eq (g2 := F0 m 83 ls []) rfl ?_
      refine lv_iload_n hx hb d_M_does_83 rfl (lv_at hl 1 rfl) ?_
      refine lv_iconst (v := 4) hx hb d_M_does_84 (by decide) ?_
      refine lv_icmp_ne (tgt := 93) hx hb d_M_does_85 (by decide) (fun c_85 => ?_) (fun c_85 => absurd c_85 (by decide))
      refine lv_iload_n hx hb d_M_does_93 rfl (lv_at hl 1 rfl) ?_
      refine lv_iconst (v := 5) hx hb d_M_does_94 (by decide) ?_
      refine lv_icmp_ne (tgt := 123) hx hb d_M_does_95 (by decide) (fun c_95 => ?_) (fun c_95 => absurd c_95 (by decide))
      refine lv_iload_n hx hb d_M_does_123 rfl (lv_at hl 1 rfl) ?_
      refine lv_bipush (v := 6) hx hb d_M_does_124 (by decide) ?_
      refine lv_icmp_ne (tgt := 134) hx hb d_M_does_126 (by decide) (fun c_126 => ?_) (fun c_126 => absurd c_126 (by decide))
      refine lv_iload_n hx hb d_M_does_134 rfl (lv_at hl 1 rfl) ?_
      refine lv_bipush (v := 7) hx hb d_M_does_135 (by decide) ?_
      refine lv_icmp_ne (tgt := 181) hx hb d_M_does_137 (by decide) (fun c_137 => ?_) (fun c_137 => absurd c_137 (by decide))
      refine lv_iload_n hx hb d_M_does_181 rfl (lv_at hl 1 rfl) ?_
      refine lv_bipush (v := 8) hx hb d_M_does_182 (by decide) ?_
      refine lv_icmp_ne (tgt := 212) hx hb d_M_does_184 (by decide) (fun c_184 => ?_) (fun c_184 => absurd c_184 (by decide))
      exact ret _ _ _ _ _ d_M_does_212 ⟨rfl, by simp only [q_mp, q_do]; rw [q_dat_0, q_wr_in hjx (by omega), ← hone jx hjx, va_up_same o_array.2.2, va_up_same om.2.2]⟩ Y
    · subst h8
      have hl : lv_has ls 6 [(0, .ref mo), (1, .int (nI 3)), (2, .int (nI jx)), (3, .int (nI 1)), (4, .int z), (5, .int (-1))] := hl
      refine lv_iload_n hx hb d_M_does_0 rfl (lv_at hl 1 rfl) ?_
      refine lv_if_ne (tgt := 10) hx hb d_M_does_1 (by decide) (fun c_1 => ?_) (fun c_1 => absurd c_1 (by decide))
      refine lv_iload_n hx hb d_M_does_10 rfl (lv_at hl 1 rfl) ?_
      refine lv_iconst (v := 1) hx hb d_M_does_11 (by decide) ?_
      refine lv_icmp_ne (tgt := 26) hx hb d_M_does_12 (by decide) (fun c_12 => ?_) (fun c_12 => absurd c_12 (by decide))
      refine lv_iload_n hx hb d_M_does_26 rfl (lv_at hl 1 rfl) ?_
      refine lv_iconst (v := 2) hx hb d_M_does_27 (by decide) ?_
      refine lv_icmp_ne (tgt := 52) hx hb d_M_does_28 (by decide) (fun c_28 => ?_) (fun c_28 => absurd c_28 (by decide))
      refine lv_iload_n hx hb d_M_does_52 rfl (lv_at hl 1 rfl) ?_
      refine lv_iconst (v := 3) hx hb d_M_does_53 (by decide) ?_
      refine lv_icmp_ne (tgt := 83) hx hb d_M_does_54 (by decide) (fun c_54 => absurd (by decide) c_54) (fun c_54 => ?_)
      refine lv_aload_n hx hb d_M_does_57 rfl (lv_at hl 0 rfl) ?_
      refine lv_iload_n hx hb d_M_does_58 rfl (lv_at hl 2 rfl) ?_
      refine lv_iload hx hb d_M_does_59 (lv_at hl 5 rfl) ?_
      refine lv_if_ge (tgt := 68) hx hb d_M_does_61 (by decide) (fun c_61 => absurd c_61 (by decide)) (fun c_61 => ?_)
      refine lv_iconst (v := 0) hx hb d_M_does_64 (by decide) ?_
      refine lv_goto (tgt := 80) hx hb d_M_does_65 (by decide) ?_
      refine fp_callV (nA := 2) (As := [.int (nI jx), .int 0]) (rest := []) X Y (c_M_hold 0 (by omega) om o_width o_held) om rfl w684 w681 w683 wp15 w9 (by decide +kernel) ⟨rfl, rfl⟩ ⟨Nat.le_of_ble_eq_true rfl, Nat.le_of_ble_eq_true rfl⟩ rfl hl.1 rfl (Nat.le_of_ble_eq_true rfl) d_M_does_80 ⟨Nat.zero_le _, Nat.zero_le _⟩ (fun v9 f9 H locs hp9 Y => ?_)
      obtain ⟨e8, e9⟩ := hp9
      subst e8
      rw [e9] at Y
      have ne_17 : mo ≠ mo + 2 := (fp_o.nf om o_held (by simp))
      have ne_18 : mo + 1 ≠ mo + 2 := (by omega)
      have ne_19 : mo + 5 ≠ mo + 2 := (by omega)
      have ne_20 : mo + 12 ≠ mo + 2 := (by omega)
      have Y : fp_H D b n A (va_up f (mo + 2) (aI g 16 (upd zh jx (0 &&& q_ones (zw jx))))) s.heap H locs := Y
      have om : fp_o b n (va_up f (mo + 2) (aI g 16 (upd zh jx (0 &&& q_ones (zw jx))))) mo (ob 8 [.int th, .int (nI kf), .ref (mo + 1), .ref (mo + 2), .int na, .ref (mo + 3), .ref (mo + 4), .ref (mo + 5), .int nt, .ref (mo + 6), .ref (mo + 7), .ref (mo + 8), .ref (mo + 9), .ref (mo + 10), .ref (mo + 11), .ref (mo + 12), .ref (mo + 13), .ref (mo + 14), .int po, .int dr]) := fp_o.ne om ne_17
      have o_width : fp_o b n (va_up f (mo + 2) (aI g 16 (upd zh jx (0 &&& q_ones (zw jx))))) (mo + 1) (aI g 16 zw) := fp_o.ne o_width ne_18
      have o_array : fp_o b n (va_up f (mo + 2) (aI g 16 (upd zh jx (0 &&& q_ones (zw jx))))) (mo + 5) (aI g 64 za) := fp_o.ne o_array ne_19
      have o_entry : fp_o b n (va_up f (mo + 2) (aI g 16 (upd zh jx (0 &&& q_ones (zw jx))))) (mo + 12) (aI g 1280 ze) := fp_o.ne o_entry ne_20
      have o_held : fp_o b n (va_up f (mo + 2) (aI g 16 (upd zh jx (0 &&& q_ones (zw jx))))) (mo + 2) (aI g 16 (upd zh jx (0 &&& q_ones (zw jx)))) := fp_o.up o_held
      refine W.eq (g2 := F0 m 83 ls []) rfl ?_
      refine lv_iload_n hx hb d_M_does_83 rfl (lv_at hl 1 rfl) ?_
      refine lv_iconst (v := 4) hx hb d_M_does_84 (by decide) ?_
      refine lv_icmp_ne (tgt := 93) hx hb d_M_does_85 (by decide) (fun c_85 => ?_) (fun c_85 => absurd c_85 (by decide))
      refine lv_iload_n hx hb d_M_does_93 rfl (lv_at hl 1 rfl) ?_
      refine lv_iconst (v := 5) hx hb d_M_does_94 (by decide) ?_
      refine lv_icmp_ne (tgt := 123) hx hb d_M_does_95 (by decide) (fun c_95 => ?_) (fun c_95 => absurd c_95 (by decide))
      refine lv_iload_n hx hb d_M_does_123 rfl (lv_at hl 1 rfl) ?_
      refine lv_bipush (v := 6) hx hb d_M_does_124 (by decide) ?_
      refine lv_icmp_ne (tgt := 134) hx hb d_M_does_126 (by decide) (fun c_126 => ?_) (fun c_126 => absurd c_126 (by decide))
      refine lv_iload_n hx hb d_M_does_134 rfl (lv_at hl 1 rfl) ?_
      refine lv_bipush (v := 7) hx hb d_M_does_135 (by decide) ?_
      refine lv_icmp_ne (tgt := 181) hx hb d_M_does_137 (by decide) (fun c_137 => ?_) (fun c_137 => absurd c_137 (by decide))
      refine lv_iload_n hx hb d_M_does_181 rfl (lv_at hl 1 rfl) ?_
      refine lv_bipush (v := 8) hx hb d_M_does_182 (by decide) ?_
      refine lv_icmp_ne (tgt := 212) hx hb d_M_does_184 (by decide) (fun c_184 => ?_) (fun c_184 => absurd c_184 (by decide))
      exact ret _ _ _ _ _ d_M_does_212 ⟨rfl, by simp only [q_mp, q_do]; rw [q_dat_1, q_wr_in hjx (by omega), ← hone jx hjx, va_up_same o_array.2.2, va_up_same om.2.2]⟩ Y
  · subst h9
    have hl : lv_has ls 6 [(0, .ref mo), (1, .int (nI 4)), (2, .int x), (3, .int y), (4, .int z), (5, .int (-1))] := hl
    refine lv_iload_n hx hb d_M_does_0 rfl (lv_at hl 1 rfl) ?_
    refine lv_if_ne (tgt := 10) hx hb d_M_does_1 (by decide) (fun c_1 => ?_) (fun c_1 => absurd c_1 (by decide))
    refine lv_iload_n hx hb d_M_does_10 rfl (lv_at hl 1 rfl) ?_
    refine lv_iconst (v := 1) hx hb d_M_does_11 (by decide) ?_
    refine lv_icmp_ne (tgt := 26) hx hb d_M_does_12 (by decide) (fun c_12 => ?_) (fun c_12 => absurd c_12 (by decide))
    refine lv_iload_n hx hb d_M_does_26 rfl (lv_at hl 1 rfl) ?_
    refine lv_iconst (v := 2) hx hb d_M_does_27 (by decide) ?_
    refine lv_icmp_ne (tgt := 52) hx hb d_M_does_28 (by decide) (fun c_28 => ?_) (fun c_28 => absurd c_28 (by decide))
    refine lv_iload_n hx hb d_M_does_52 rfl (lv_at hl 1 rfl) ?_
    refine lv_iconst (v := 3) hx hb d_M_does_53 (by decide) ?_
    refine lv_icmp_ne (tgt := 83) hx hb d_M_does_54 (by decide) (fun c_54 => ?_) (fun c_54 => absurd c_54 (by decide))
    refine lv_iload_n hx hb d_M_does_83 rfl (lv_at hl 1 rfl) ?_
    refine lv_iconst (v := 4) hx hb d_M_does_84 (by decide) ?_
    refine lv_icmp_ne (tgt := 93) hx hb d_M_does_85 (by decide) (fun c_85 => absurd (by decide) c_85) (fun c_85 => ?_)
    refine lv_aload_n hx hb d_M_does_88 rfl (lv_at hl 0 rfl) ?_
    refine lv_iload_n hx hb d_M_does_89 rfl (lv_at hl 3 rfl) ?_
    refine fp_put X Y om rfl in_M to_M nm_M 18 (by decide) w619 rfl rfl rfl (Nat.le_of_ble_eq_true rfl) d_M_does_90 (fun H locs Y => ?_)
    have ne_21 : mo + 1 ≠ mo := (fp_o.nf o_width om (by simp))
    have ne_22 : mo + 2 ≠ mo := (fp_o.nf o_held om (by simp))
    have ne_23 : mo + 5 ≠ mo := (fp_o.nf o_array om (by simp))
    have ne_24 : mo + 12 ≠ mo := (fp_o.nf o_entry om (by simp))
    have Y : fp_H D b n A (va_up f mo (ob 8 [.int th, .int (nI kf), .ref (mo + 1), .ref (mo + 2), .int na, .ref (mo + 3), .ref (mo + 4), .ref (mo + 5), .int nt, .ref (mo + 6), .ref (mo + 7), .ref (mo + 8), .ref (mo + 9), .ref (mo + 10), .ref (mo + 11), .ref (mo + 12), .ref (mo + 13), .ref (mo + 14), .int y, .int dr])) s.heap H locs := Y
    have o_width : fp_o b n (va_up f mo (ob 8 [.int th, .int (nI kf), .ref (mo + 1), .ref (mo + 2), .int na, .ref (mo + 3), .ref (mo + 4), .ref (mo + 5), .int nt, .ref (mo + 6), .ref (mo + 7), .ref (mo + 8), .ref (mo + 9), .ref (mo + 10), .ref (mo + 11), .ref (mo + 12), .ref (mo + 13), .ref (mo + 14), .int y, .int dr])) (mo + 1) (aI g 16 zw) := fp_o.ne o_width ne_21
    have o_held : fp_o b n (va_up f mo (ob 8 [.int th, .int (nI kf), .ref (mo + 1), .ref (mo + 2), .int na, .ref (mo + 3), .ref (mo + 4), .ref (mo + 5), .int nt, .ref (mo + 6), .ref (mo + 7), .ref (mo + 8), .ref (mo + 9), .ref (mo + 10), .ref (mo + 11), .ref (mo + 12), .ref (mo + 13), .ref (mo + 14), .int y, .int dr])) (mo + 2) (aI g 16 zh) := fp_o.ne o_held ne_22
    have o_array : fp_o b n (va_up f mo (ob 8 [.int th, .int (nI kf), .ref (mo + 1), .ref (mo + 2), .int na, .ref (mo + 3), .ref (mo + 4), .ref (mo + 5), .int nt, .ref (mo + 6), .ref (mo + 7), .ref (mo + 8), .ref (mo + 9), .ref (mo + 10), .ref (mo + 11), .ref (mo + 12), .ref (mo + 13), .ref (mo + 14), .int y, .int dr])) (mo + 5) (aI g 64 za) := fp_o.ne o_array ne_23
    have o_entry : fp_o b n (va_up f mo (ob 8 [.int th, .int (nI kf), .ref (mo + 1), .ref (mo + 2), .int na, .ref (mo + 3), .ref (mo + 4), .ref (mo + 5), .int nt, .ref (mo + 6), .ref (mo + 7), .ref (mo + 8), .ref (mo + 9), .ref (mo + 10), .ref (mo + 11), .ref (mo + 12), .ref (mo + 13), .ref (mo + 14), .int y, .int dr])) (mo + 12) (aI g 1280 ze) := fp_o.ne o_entry ne_24
    have om : fp_o b n (va_up f mo (ob 8 [.int th, .int (nI kf), .ref (mo + 1), .ref (mo + 2), .int na, .ref (mo + 3), .ref (mo + 4), .ref (mo + 5), .int nt, .ref (mo + 6), .ref (mo + 7), .ref (mo + 8), .ref (mo + 9), .ref (mo + 10), .ref (mo + 11), .ref (mo + 12), .ref (mo + 13), .ref (mo + 14), .int y, .int dr])) mo (ob 8 [.int th, .int (nI kf), .ref (mo + 1), .ref (mo + 2), .int na, .ref (mo + 3), .ref (mo + 4), .ref (mo + 5), .int nt, .ref (mo + 6), .ref (mo + 7), .ref (mo + 8), .ref (mo + 9), .ref (mo + 10), .ref (mo + 11), .ref (mo + 12), .ref (mo + 13), .ref (mo + 14), .int y, .int dr]) := fp_o.up om
    refine lv_iload_n hx hb d_M_does_93 rfl (lv_at hl 1 rfl) ?_
    refine lv_iconst (v := 5) hx hb d_M_does_94 (by decide) ?_
    refine lv_icmp_ne (tgt := 123) hx hb d_M_does_95 (by decide) (fun c_95 => ?_) (fun c_95 => absurd c_95 (by decide))
    refine lv_iload_n hx hb d_M_does_123 rfl (lv_at hl 1 rfl) ?_
    refine lv_bipush (v := 6) hx hb d_M_does_124 (by decide) ?_
    refine lv_icmp_ne (tgt := 134) hx hb d_M_does_126 (by decide) (fun c_126 => ?_) (fun c_126 => absurd c_126 (by decide))
    refine lv_iload_n hx hb d_M_does_134 rfl (lv_at hl 1 rfl) ?_
    refine lv_bipush (v := 7) hx hb d_M_does_135 (by decide) ?_
    refine lv_icmp_ne (tgt := 181) hx hb d_M_does_137 (by decide) (fun c_137 => ?_) (fun c_137 => absurd c_137 (by decide))
    refine lv_iload_n hx hb d_M_does_181 rfl (lv_at hl 1 rfl) ?_
    refine lv_bipush (v := 8) hx hb d_M_does_182 (by decide) ?_
    refine lv_icmp_ne (tgt := 212) hx hb d_M_does_184 (by decide) (fun c_184 => ?_) (fun c_184 => absurd c_184 (by decide))
    exact ret _ _ _ _ _ d_M_does_212 ⟨rfl, by simp only [q_mp, q_do]; rw [va_up_same ohi.2.2, va_up_same oai.2.2]⟩ Y
  · subst h9
    have g2 : ¬ q_in y 2 = 0 := hops
    obtain ⟨jy, hjy, ey⟩ := q_in_of (k := 2) (by decide) g2
    subst ey
    rcases (show jy = 0 ∨ jy = 1 by omega) with h8 | h8
    · subst h8
      have hl : lv_has ls 6 [(0, .ref mo), (1, .int (nI 5)), (2, .int x), (3, .int (nI 0)), (4, .int z), (5, .int (-1))] := hl
      refine lv_iload_n hx hb d_M_does_0 rfl (lv_at hl 1 rfl) ?_
      refine lv_if_ne (tgt := 10) hx hb d_M_does_1 (by decide) (fun c_1 => ?_) (fun c_1 => absurd c_1 (by decide))
      refine lv_iload_n hx hb d_M_does_10 rfl (lv_at hl 1 rfl) ?_
      refine lv_iconst (v := 1) hx hb d_M_does_11 (by decide) ?_
      refine lv_icmp_ne (tgt := 26) hx hb d_M_does_12 (by decide) (fun c_12 => ?_) (fun c_12 => absurd c_12 (by decide))
      refine lv_iload_n hx hb d_M_does_26 rfl (lv_at hl 1 rfl) ?_
      refine lv_iconst (v := 2) hx hb d_M_does_27 (by decide) ?_
      refine lv_icmp_ne (tgt := 52) hx hb d_M_does_28 (by decide) (fun c_28 => ?_) (fun c_28 => absurd c_28 (by decide))
      refine lv_iload_n hx hb d_M_does_52 rfl (lv_at hl 1 rfl) ?_
      refine lv_iconst (v := 3) hx hb d_M_does_53 (by decide) ?_
      refine lv_icmp_ne (tgt := 83) hx hb d_M_does_54 (by decide) (fun c_54 => ?_) (fun c_54 => absurd c_54 (by decide))
      refine lv_iload_n hx hb d_M_does_83 rfl (lv_at hl 1 rfl) ?_
      refine lv_iconst (v := 4) hx hb d_M_does_84 (by decide) ?_
      refine lv_icmp_ne (tgt := 93) hx hb d_M_does_85 (by decide) (fun c_85 => ?_) (fun c_85 => absurd c_85 (by decide))
      refine lv_iload_n hx hb d_M_does_93 rfl (lv_at hl 1 rfl) ?_
      refine lv_iconst (v := 5) hx hb d_M_does_94 (by decide) ?_
      refine lv_icmp_ne (tgt := 123) hx hb d_M_does_95 (by decide) (fun c_95 => absurd (by decide) c_95) (fun c_95 => ?_)
      refine lv_aload_n hx hb d_M_does_98 rfl (lv_at hl 0 rfl) ?_
      refine lv_iload hx hb d_M_does_99 (lv_at hl 5 rfl) ?_
      refine lv_if_ge (tgt := 108) hx hb d_M_does_101 (by decide) (fun c_101 => absurd c_101 (by decide)) (fun c_101 => ?_)
      refine lv_iconst (v := 0) hx hb d_M_does_104 (by decide) ?_
      refine lv_goto (tgt := 120) hx hb d_M_does_105 (by decide) ?_
      refine fp_put X Y om rfl in_M to_M nm_M 18 (by decide) w619 rfl rfl rfl (Nat.le_of_ble_eq_true rfl) d_M_does_120 (fun H locs Y => ?_)
      have ne_25 : mo + 1 ≠ mo := (fp_o.nf o_width om (by simp))
      have ne_26 : mo + 2 ≠ mo := (fp_o.nf o_held om (by simp))
      have ne_27 : mo + 5 ≠ mo := (fp_o.nf o_array om (by simp))
      have ne_28 : mo + 12 ≠ mo := (fp_o.nf o_entry om (by simp))
      have Y : fp_H D b n A (va_up f mo (ob 8 [.int th, .int (nI kf), .ref (mo + 1), .ref (mo + 2), .int na, .ref (mo + 3), .ref (mo + 4), .ref (mo + 5), .int nt, .ref (mo + 6), .ref (mo + 7), .ref (mo + 8), .ref (mo + 9), .ref (mo + 10), .ref (mo + 11), .ref (mo + 12), .ref (mo + 13), .ref (mo + 14), .int 0, .int dr])) s.heap H locs := Y
      have o_width : fp_o b n (va_up f mo (ob 8 [.int th, .int (nI kf), .ref (mo + 1), .ref (mo + 2), .int na, .ref (mo + 3), .ref (mo + 4), .ref (mo + 5), .int nt, .ref (mo + 6), .ref (mo + 7), .ref (mo + 8), .ref (mo + 9), .ref (mo + 10), .ref (mo + 11), .ref (mo + 12), .ref (mo + 13), .ref (mo + 14), .int 0, .int dr])) (mo + 1) (aI g 16 zw) := fp_o.ne o_width ne_25
      have o_held : fp_o b n (va_up f mo (ob 8 [.int th, .int (nI kf), .ref (mo + 1), .ref (mo + 2), .int na, .ref (mo + 3), .ref (mo + 4), .ref (mo + 5), .int nt, .ref (mo + 6), .ref (mo + 7), .ref (mo + 8), .ref (mo + 9), .ref (mo + 10), .ref (mo + 11), .ref (mo + 12), .ref (mo + 13), .ref (mo + 14), .int 0, .int dr])) (mo + 2) (aI g 16 zh) := fp_o.ne o_held ne_26
      have o_array : fp_o b n (va_up f mo (ob 8 [.int th, .int (nI kf), .ref (mo + 1), .ref (mo + 2), .int na, .ref (mo + 3), .ref (mo + 4), .ref (mo + 5), .int nt, .ref (mo + 6), .ref (mo + 7), .ref (mo + 8), .ref (mo + 9), .ref (mo + 10), .ref (mo + 11), .ref (mo + 12), .ref (mo + 13), .ref (mo + 14), .int 0, .int dr])) (mo + 5) (aI g 64 za) := fp_o.ne o_array ne_27
      have o_entry : fp_o b n (va_up f mo (ob 8 [.int th, .int (nI kf), .ref (mo + 1), .ref (mo + 2), .int na, .ref (mo + 3), .ref (mo + 4), .ref (mo + 5), .int nt, .ref (mo + 6), .ref (mo + 7), .ref (mo + 8), .ref (mo + 9), .ref (mo + 10), .ref (mo + 11), .ref (mo + 12), .ref (mo + 13), .ref (mo + 14), .int 0, .int dr])) (mo + 12) (aI g 1280 ze) := fp_o.ne o_entry ne_28
      have om : fp_o b n (va_up f mo (ob 8 [.int th, .int (nI kf), .ref (mo + 1), .ref (mo + 2), .int na, .ref (mo + 3), .ref (mo + 4), .ref (mo + 5), .int nt, .ref (mo + 6), .ref (mo + 7), .ref (mo + 8), .ref (mo + 9), .ref (mo + 10), .ref (mo + 11), .ref (mo + 12), .ref (mo + 13), .ref (mo + 14), .int 0, .int dr])) mo (ob 8 [.int th, .int (nI kf), .ref (mo + 1), .ref (mo + 2), .int na, .ref (mo + 3), .ref (mo + 4), .ref (mo + 5), .int nt, .ref (mo + 6), .ref (mo + 7), .ref (mo + 8), .ref (mo + 9), .ref (mo + 10), .ref (mo + 11), .ref (mo + 12), .ref (mo + 13), .ref (mo + 14), .int 0, .int dr]) := fp_o.up om
      refine lv_iload_n hx hb d_M_does_123 rfl (lv_at hl 1 rfl) ?_
      refine lv_bipush (v := 6) hx hb d_M_does_124 (by decide) ?_
      refine lv_icmp_ne (tgt := 134) hx hb d_M_does_126 (by decide) (fun c_126 => ?_) (fun c_126 => absurd c_126 (by decide))
      refine lv_iload_n hx hb d_M_does_134 rfl (lv_at hl 1 rfl) ?_
      refine lv_bipush (v := 7) hx hb d_M_does_135 (by decide) ?_
      refine lv_icmp_ne (tgt := 181) hx hb d_M_does_137 (by decide) (fun c_137 => ?_) (fun c_137 => absurd c_137 (by decide))
      refine lv_iload_n hx hb d_M_does_181 rfl (lv_at hl 1 rfl) ?_
      refine lv_bipush (v := 8) hx hb d_M_does_182 (by decide) ?_
      refine lv_icmp_ne (tgt := 212) hx hb d_M_does_184 (by decide) (fun c_184 => ?_) (fun c_184 => absurd c_184 (by decide))
      exact ret _ _ _ _ _ d_M_does_212 ⟨rfl, by simp only [q_mp, q_do]; rw [q_dat_0, va_up_same ohi.2.2, va_up_same oai.2.2]⟩ Y
    · subst h8
      have hl : lv_has ls 6 [(0, .ref mo), (1, .int (nI 5)), (2, .int x), (3, .int (nI 1)), (4, .int z), (5, .int (-1))] := hl
      refine lv_iload_n hx hb d_M_does_0 rfl (lv_at hl 1 rfl) ?_
      refine lv_if_ne (tgt := 10) hx hb d_M_does_1 (by decide) (fun c_1 => ?_) (fun c_1 => absurd c_1 (by decide))
      refine lv_iload_n hx hb d_M_does_10 rfl (lv_at hl 1 rfl) ?_
      refine lv_iconst (v := 1) hx hb d_M_does_11 (by decide) ?_
      refine lv_icmp_ne (tgt := 26) hx hb d_M_does_12 (by decide) (fun c_12 => ?_) (fun c_12 => absurd c_12 (by decide))
      refine lv_iload_n hx hb d_M_does_26 rfl (lv_at hl 1 rfl) ?_
      refine lv_iconst (v := 2) hx hb d_M_does_27 (by decide) ?_
      refine lv_icmp_ne (tgt := 52) hx hb d_M_does_28 (by decide) (fun c_28 => ?_) (fun c_28 => absurd c_28 (by decide))
      refine lv_iload_n hx hb d_M_does_52 rfl (lv_at hl 1 rfl) ?_
      refine lv_iconst (v := 3) hx hb d_M_does_53 (by decide) ?_
      refine lv_icmp_ne (tgt := 83) hx hb d_M_does_54 (by decide) (fun c_54 => ?_) (fun c_54 => absurd c_54 (by decide))
      refine lv_iload_n hx hb d_M_does_83 rfl (lv_at hl 1 rfl) ?_
      refine lv_iconst (v := 4) hx hb d_M_does_84 (by decide) ?_
      refine lv_icmp_ne (tgt := 93) hx hb d_M_does_85 (by decide) (fun c_85 => ?_) (fun c_85 => absurd c_85 (by decide))
      refine lv_iload_n hx hb d_M_does_93 rfl (lv_at hl 1 rfl) ?_
      refine lv_iconst (v := 5) hx hb d_M_does_94 (by decide) ?_
      refine lv_icmp_ne (tgt := 123) hx hb d_M_does_95 (by decide) (fun c_95 => absurd (by decide) c_95) (fun c_95 => ?_)
      refine lv_aload_n hx hb d_M_does_98 rfl (lv_at hl 0 rfl) ?_
      refine lv_iload hx hb d_M_does_99 (lv_at hl 5 rfl) ?_
      refine lv_if_ge (tgt := 108) hx hb d_M_does_101 (by decide) (fun c_101 => absurd c_101 (by decide)) (fun c_101 => ?_)
      refine lv_iconst (v := 0) hx hb d_M_does_104 (by decide) ?_
      refine lv_goto (tgt := 120) hx hb d_M_does_105 (by decide) ?_
      refine fp_put X Y om rfl in_M to_M nm_M 18 (by decide) w619 rfl rfl rfl (Nat.le_of_ble_eq_true rfl) d_M_does_120 (fun H locs Y => ?_)
      have ne_29 : mo + 1 ≠ mo := (fp_o.nf o_width om (by simp))
      have ne_30 : mo + 2 ≠ mo := (fp_o.nf o_held om (by simp))
      have ne_31 : mo + 5 ≠ mo := (fp_o.nf o_array om (by simp))
      have ne_32 : mo + 12 ≠ mo := (fp_o.nf o_entry om (by simp))
      have Y : fp_H D b n A (va_up f mo (ob 8 [.int th, .int (nI kf), .ref (mo + 1), .ref (mo + 2), .int na, .ref (mo + 3), .ref (mo + 4), .ref (mo + 5), .int nt, .ref (mo + 6), .ref (mo + 7), .ref (mo + 8), .ref (mo + 9), .ref (mo + 10), .ref (mo + 11), .ref (mo + 12), .ref (mo + 13), .ref (mo + 14), .int 0, .int dr])) s.heap H locs := Y
      have o_width : fp_o b n (va_up f mo (ob 8 [.int th, .int (nI kf), .ref (mo + 1), .ref (mo + 2), .int na, .ref (mo + 3), .ref (mo + 4), .ref (mo + 5), .int nt, .ref (mo + 6), .ref (mo + 7), .ref (mo + 8), .ref (mo + 9), .ref (mo + 10), .ref (mo + 11), .ref (mo + 12), .ref (mo + 13), .ref (mo + 14), .int 0, .int dr])) (mo + 1) (aI g 16 zw) := fp_o.ne o_width ne_29
      have o_held : fp_o b n (va_up f mo (ob 8 [.int th, .int (nI kf), .ref (mo + 1), .ref (mo + 2), .int na, .ref (mo + 3), .ref (mo + 4), .ref (mo + 5), .int nt, .ref (mo + 6), .ref (mo + 7), .ref (mo + 8), .ref (mo + 9), .ref (mo + 10), .ref (mo + 11), .ref (mo + 12), .ref (mo + 13), .ref (mo + 14), .int 0, .int dr])) (mo + 2) (aI g 16 zh) := fp_o.ne o_held ne_30
      have o_array : fp_o b n (va_up f mo (ob 8 [.int th, .int (nI kf), .ref (mo + 1), .ref (mo + 2), .int na, .ref (mo + 3), .ref (mo + 4), .ref (mo + 5), .int nt, .ref (mo + 6), .ref (mo + 7), .ref (mo + 8), .ref (mo + 9), .ref (mo + 10), .ref (mo + 11), .ref (mo + 12), .ref (mo + 13), .ref (mo + 14), .int 0, .int dr])) (mo + 5) (aI g 64 za) := fp_o.ne o_array ne_31
      have o_entry : fp_o b n (va_up f mo (ob 8 [.int th, .int (nI kf), .ref (mo + 1), .ref (mo + 2), .int na, .ref (mo + 3), .ref (mo + 4), .ref (mo + 5), .int nt, .ref (mo + 6), .ref (mo + 7), .ref (mo + 8), .ref (mo + 9), .ref (mo + 10), .ref (mo + 11), .ref (mo + 12), .ref (mo + 13), .ref (mo + 14), .int 0, .int dr])) (mo + 12) (aI g 1280 ze) := fp_o.ne o_entry ne_32
      have om : fp_o b n (va_up f mo (ob 8 [.int th, .int (nI kf), .ref (mo + 1), .ref (mo + 2), .int na, .ref (mo + 3), .ref (mo + 4), .ref (mo + 5), .int nt, .ref (mo + 6), .ref (mo + 7), .ref (mo + 8), .ref (mo + 9), .ref (mo + 10), .ref (mo + 11), .ref (mo + 12), .ref (mo + 13), .ref (mo + 14), .int 0, .int dr])) mo (ob 8 [.int th, .int (nI kf), .ref (mo + 1), .ref (mo + 2), .int na, .ref (mo + 3), .ref (mo + 4), .ref (mo + 5), .int nt, .ref (mo + 6), .ref (mo + 7), .ref (mo + 8), .ref (mo + 9), .ref (mo + 10), .ref (mo + 11), .ref (mo + 12), .ref (mo + 13), .ref (mo + 14), .int 0, .int dr]) := fp_o.up om
      refine lv_iload_n hx hb d_M_does_123 rfl (lv_at hl 1 rfl) ?_
      refine lv_bipush (v := 6) hx hb d_M_does_124 (by decide) ?_
      refine lv_icmp_ne (tgt := 134) hx hb d_M_does_126 (by decide) (fun c_126 => ?_) (fun c_126 => absurd c_126 (by decide))
      refine lv_iload_n hx hb d_M_does_134 rfl (lv_at hl 1 rfl) ?_
      refine lv_bipush (v := 7) hx hb d_M_does_135 (by decide) ?_
      refine lv_icmp_ne (tgt := 181) hx hb d_M_does_137 (by decide) (fun c_137 => ?_) (fun c_137 => absurd c_137 (by decide))
      refine lv_iload_n hx hb d_M_does_181 rfl (lv_at hl 1 rfl) ?_
      refine lv_bipush (v := 8) hx hb d_M_does_182 (by decide) ?_
      refine lv_icmp_ne (tgt := 212) hx hb d_M_does_184 (by decide) (fun c_184 => ?_) (fun c_184 => absurd c_184 (by decide))
      exact ret _ _ _ _ _ d_M_does_212 ⟨rfl, by simp only [q_mp, q_do]; rw [q_dat_1, va_up_same ohi.2.2, va_up_same oai.2.2]⟩ Y
  · subst h9
    have hl : lv_has ls 6 [(0, .ref mo), (1, .int (nI 6)), (2, .int x), (3, .int y), (4, .int z), (5, .int (-1))] := hl
    refine lv_iload_n hx hb d_M_does_0 rfl (lv_at hl 1 rfl) ?_
    refine lv_if_ne (tgt := 10) hx hb d_M_does_1 (by decide) (fun c_1 => ?_) (fun c_1 => absurd c_1 (by decide))
    refine lv_iload_n hx hb d_M_does_10 rfl (lv_at hl 1 rfl) ?_
    refine lv_iconst (v := 1) hx hb d_M_does_11 (by decide) ?_
    refine lv_icmp_ne (tgt := 26) hx hb d_M_does_12 (by decide) (fun c_12 => ?_) (fun c_12 => absurd c_12 (by decide))
    refine lv_iload_n hx hb d_M_does_26 rfl (lv_at hl 1 rfl) ?_
    refine lv_iconst (v := 2) hx hb d_M_does_27 (by decide) ?_
    refine lv_icmp_ne (tgt := 52) hx hb d_M_does_28 (by decide) (fun c_28 => ?_) (fun c_28 => absurd c_28 (by decide))
    refine lv_iload_n hx hb d_M_does_52 rfl (lv_at hl 1 rfl) ?_
    refine lv_iconst (v := 3) hx hb d_M_does_53 (by decide) ?_
    refine lv_icmp_ne (tgt := 83) hx hb d_M_does_54 (by decide) (fun c_54 => ?_) (fun c_54 => absurd c_54 (by decide))
    refine lv_iload_n hx hb d_M_does_83 rfl (lv_at hl 1 rfl) ?_
    refine lv_iconst (v := 4) hx hb d_M_does_84 (by decide) ?_
    refine lv_icmp_ne (tgt := 93) hx hb d_M_does_85 (by decide) (fun c_85 => ?_) (fun c_85 => absurd c_85 (by decide))
    refine lv_iload_n hx hb d_M_does_93 rfl (lv_at hl 1 rfl) ?_
    refine lv_iconst (v := 5) hx hb d_M_does_94 (by decide) ?_
    refine lv_icmp_ne (tgt := 123) hx hb d_M_does_95 (by decide) (fun c_95 => ?_) (fun c_95 => absurd c_95 (by decide))
    refine lv_iload_n hx hb d_M_does_123 rfl (lv_at hl 1 rfl) ?_
    refine lv_bipush (v := 6) hx hb d_M_does_124 (by decide) ?_
    refine lv_icmp_ne (tgt := 134) hx hb d_M_does_126 (by decide) (fun c_126 => absurd (by decide) c_126) (fun c_126 => ?_)
    refine lv_aload_n hx hb d_M_does_129 rfl (lv_at hl 0 rfl) ?_
    refine lv_iconst (v := 1) hx hb d_M_does_130 (by decide) ?_
    refine fp_put X Y om rfl in_M to_M nm_M 19 (by decide) w620 rfl rfl rfl (Nat.le_of_ble_eq_true rfl) d_M_does_131 (fun H locs Y => ?_)
    have ne_33 : mo + 1 ≠ mo := (fp_o.nf o_width om (by simp))
    have ne_34 : mo + 2 ≠ mo := (fp_o.nf o_held om (by simp))
    have ne_35 : mo + 5 ≠ mo := (fp_o.nf o_array om (by simp))
    have ne_36 : mo + 12 ≠ mo := (fp_o.nf o_entry om (by simp))
    have Y : fp_H D b n A (va_up f mo (ob 8 [.int th, .int (nI kf), .ref (mo + 1), .ref (mo + 2), .int na, .ref (mo + 3), .ref (mo + 4), .ref (mo + 5), .int nt, .ref (mo + 6), .ref (mo + 7), .ref (mo + 8), .ref (mo + 9), .ref (mo + 10), .ref (mo + 11), .ref (mo + 12), .ref (mo + 13), .ref (mo + 14), .int po, .int 1])) s.heap H locs := Y
    have o_width : fp_o b n (va_up f mo (ob 8 [.int th, .int (nI kf), .ref (mo + 1), .ref (mo + 2), .int na, .ref (mo + 3), .ref (mo + 4), .ref (mo + 5), .int nt, .ref (mo + 6), .ref (mo + 7), .ref (mo + 8), .ref (mo + 9), .ref (mo + 10), .ref (mo + 11), .ref (mo + 12), .ref (mo + 13), .ref (mo + 14), .int po, .int 1])) (mo + 1) (aI g 16 zw) := fp_o.ne o_width ne_33
    have o_held : fp_o b n (va_up f mo (ob 8 [.int th, .int (nI kf), .ref (mo + 1), .ref (mo + 2), .int na, .ref (mo + 3), .ref (mo + 4), .ref (mo + 5), .int nt, .ref (mo + 6), .ref (mo + 7), .ref (mo + 8), .ref (mo + 9), .ref (mo + 10), .ref (mo + 11), .ref (mo + 12), .ref (mo + 13), .ref (mo + 14), .int po, .int 1])) (mo + 2) (aI g 16 zh) := fp_o.ne o_held ne_34
    have o_array : fp_o b n (va_up f mo (ob 8 [.int th, .int (nI kf), .ref (mo + 1), .ref (mo + 2), .int na, .ref (mo + 3), .ref (mo + 4), .ref (mo + 5), .int nt, .ref (mo + 6), .ref (mo + 7), .ref (mo + 8), .ref (mo + 9), .ref (mo + 10), .ref (mo + 11), .ref (mo + 12), .ref (mo + 13), .ref (mo + 14), .int po, .int 1])) (mo + 5) (aI g 64 za) := fp_o.ne o_array ne_35
    have o_entry : fp_o b n (va_up f mo (ob 8 [.int th, .int (nI kf), .ref (mo + 1), .ref (mo + 2), .int na, .ref (mo + 3), .ref (mo + 4), .ref (mo + 5), .int nt, .ref (mo + 6), .ref (mo + 7), .ref (mo + 8), .ref (mo + 9), .ref (mo + 10), .ref (mo + 11), .ref (mo + 12), .ref (mo + 13), .ref (mo + 14), .int po, .int 1])) (mo + 12) (aI g 1280 ze) := fp_o.ne o_entry ne_36
    have om : fp_o b n (va_up f mo (ob 8 [.int th, .int (nI kf), .ref (mo + 1), .ref (mo + 2), .int na, .ref (mo + 3), .ref (mo + 4), .ref (mo + 5), .int nt, .ref (mo + 6), .ref (mo + 7), .ref (mo + 8), .ref (mo + 9), .ref (mo + 10), .ref (mo + 11), .ref (mo + 12), .ref (mo + 13), .ref (mo + 14), .int po, .int 1])) mo (ob 8 [.int th, .int (nI kf), .ref (mo + 1), .ref (mo + 2), .int na, .ref (mo + 3), .ref (mo + 4), .ref (mo + 5), .int nt, .ref (mo + 6), .ref (mo + 7), .ref (mo + 8), .ref (mo + 9), .ref (mo + 10), .ref (mo + 11), .ref (mo + 12), .ref (mo + 13), .ref (mo + 14), .int po, .int 1]) := fp_o.up om
    refine lv_iload_n hx hb d_M_does_134 rfl (lv_at hl 1 rfl) ?_
    refine lv_bipush (v := 7) hx hb d_M_does_135 (by decide) ?_
    refine lv_icmp_ne (tgt := 181) hx hb d_M_does_137 (by decide) (fun c_137 => ?_) (fun c_137 => absurd c_137 (by decide))
    refine lv_iload_n hx hb d_M_does_181 rfl (lv_at hl 1 rfl) ?_
    refine lv_bipush (v := 8) hx hb d_M_does_182 (by decide) ?_
    refine lv_icmp_ne (tgt := 212) hx hb d_M_does_184 (by decide) (fun c_184 => ?_) (fun c_184 => absurd c_184 (by decide))
    exact ret _ _ _ _ _ d_M_does_212 ⟨rfl, by simp only [q_mp, q_do]; rw [va_up_same ohi.2.2, va_up_same oai.2.2]⟩ Y
  · subst h9
    obtain ⟨g1, g2⟩ := q_ite2 hops
    obtain ⟨jx, hjx, ex⟩ := q_in_of (k := 4) (by decide) g1
    subst ex
    obtain ⟨jy, hjy, ey⟩ := q_in_of (by omega) g2
    subst ey
    obtain ⟨r9, hr9, er1, er2⟩ := q_fm_15 (zh jy)
    have hl : lv_has ls 6 [(0, .ref mo), (1, .int (nI 7)), (2, .int (nI jx)), (3, .int (nI jy)), (4, .int z), (5, .int (-1))] := hl
    refine lv_iload_n hx hb d_M_does_0 rfl (lv_at hl 1 rfl) ?_
    refine lv_if_ne (tgt := 10) hx hb d_M_does_1 (by decide) (fun c_1 => ?_) (fun c_1 => absurd c_1 (by decide))
    refine lv_iload_n hx hb d_M_does_10 rfl (lv_at hl 1 rfl) ?_
    refine lv_iconst (v := 1) hx hb d_M_does_11 (by decide) ?_
    refine lv_icmp_ne (tgt := 26) hx hb d_M_does_12 (by decide) (fun c_12 => ?_) (fun c_12 => absurd c_12 (by decide))
    refine lv_iload_n hx hb d_M_does_26 rfl (lv_at hl 1 rfl) ?_
    refine lv_iconst (v := 2) hx hb d_M_does_27 (by decide) ?_
    refine lv_icmp_ne (tgt := 52) hx hb d_M_does_28 (by decide) (fun c_28 => ?_) (fun c_28 => absurd c_28 (by decide))
    refine lv_iload_n hx hb d_M_does_52 rfl (lv_at hl 1 rfl) ?_
    refine lv_iconst (v := 3) hx hb d_M_does_53 (by decide) ?_
    refine lv_icmp_ne (tgt := 83) hx hb d_M_does_54 (by decide) (fun c_54 => ?_) (fun c_54 => absurd c_54 (by decide))
    refine lv_iload_n hx hb d_M_does_83 rfl (lv_at hl 1 rfl) ?_
    refine lv_iconst (v := 4) hx hb d_M_does_84 (by decide) ?_
    refine lv_icmp_ne (tgt := 93) hx hb d_M_does_85 (by decide) (fun c_85 => ?_) (fun c_85 => absurd c_85 (by decide))
    refine lv_iload_n hx hb d_M_does_93 rfl (lv_at hl 1 rfl) ?_
    refine lv_iconst (v := 5) hx hb d_M_does_94 (by decide) ?_
    refine lv_icmp_ne (tgt := 123) hx hb d_M_does_95 (by decide) (fun c_95 => ?_) (fun c_95 => absurd c_95 (by decide))
    refine lv_iload_n hx hb d_M_does_123 rfl (lv_at hl 1 rfl) ?_
    refine lv_bipush (v := 6) hx hb d_M_does_124 (by decide) ?_
    refine lv_icmp_ne (tgt := 134) hx hb d_M_does_126 (by decide) (fun c_126 => ?_) (fun c_126 => absurd c_126 (by decide))
    refine lv_iload_n hx hb d_M_does_134 rfl (lv_at hl 1 rfl) ?_
    refine lv_bipush (v := 7) hx hb d_M_does_135 (by decide) ?_
    refine lv_icmp_ne (tgt := 181) hx hb d_M_does_137 (by decide) (fun c_137 => absurd (by decide) c_137) (fun c_137 => ?_)
    refine lv_aload_n hx hb d_M_does_140 rfl (lv_at hl 0 rfl) ?_
    refine fp_get X Y om rfl in_M 7 (by decide) w608 rfl d_M_does_141 ?_
    refine lv_bipush (v := 16) hx hb d_M_does_144 (by decide) ?_
    refine lv_iload_n hx hb d_M_does_146 rfl (lv_at hl 2 rfl) ?_
    refine lv_imul hx hb d_M_does_147 ?_
    refine lv_aload_n hx hb d_M_does_148 rfl (lv_at hl 0 rfl) ?_
    refine fp_get X Y om rfl in_M 3 (by decide) w604 rfl d_M_does_149 ?_
    refine lv_iload_n hx hb d_M_does_152 rfl (lv_at hl 3 rfl) ?_
    refine fp_ild X Y o_held jy rfl (by omega) (by decide) d_M_does_153 ?_
    refine lv_bipush (v := 15) hx hb d_M_does_154 (by decide) ?_
    refine lv_iand hx hb d_M_does_156 ?_
    rw [er1]
    refine lv_iadd hx hb d_M_does_157 ?_
    refine lv_aload_n hx hb d_M_does_158 rfl (lv_at hl 0 rfl) ?_
    refine fp_get X Y om rfl in_M 7 (by decide) w608 rfl d_M_does_159 ?_
    refine lv_bipush (v := 16) hx hb d_M_does_162 (by decide) ?_
    refine lv_iload_n hx hb d_M_does_164 rfl (lv_at hl 2 rfl) ?_
    refine lv_imul hx hb d_M_does_165 ?_
    refine lv_aload_n hx hb d_M_does_166 rfl (lv_at hl 0 rfl) ?_
    refine fp_get X Y om rfl in_M 3 (by decide) w604 rfl d_M_does_167 ?_
    refine lv_iload_n hx hb d_M_does_170 rfl (lv_at hl 3 rfl) ?_
    refine fp_ild X Y o_held jy rfl (by omega) (by decide) d_M_does_171 ?_
    refine lv_bipush (v := 15) hx hb d_M_does_172 (by decide) ?_
    refine lv_iand hx hb d_M_does_174 ?_
    rw [er1]
    refine lv_iadd hx hb d_M_does_175 ?_
    refine fp_ild X Y o_array (16 * jx + r9) (by rw [show (16 : Int32) = nI 16 from rfl, pk_mul, nI_add]) (by omega) (by decide) d_M_does_176 ?_
    refine lv_iload hx hb d_M_does_177 (lv_at hl 4 rfl) ?_
    refine lv_iadd hx hb d_M_does_179 ?_
    refine fp_ist X Y o_array (16 * jx + r9) (by rw [show (16 : Int32) = nI 16 from rfl, pk_mul, nI_add]) (by omega) (by decide) d_M_does_180 (fun H locs Y => ?_)
    have ne_37 : mo ≠ mo + 5 := (fp_o.nf om o_array (by simp))
    have ne_38 : mo + 1 ≠ mo + 5 := (by omega)
    have ne_39 : mo + 2 ≠ mo + 5 := (by omega)
    have ne_40 : mo + 12 ≠ mo + 5 := (by omega)
    have Y : fp_H D b n A (va_up f (mo + 5) (aI g 64 (upd za (16 * jx + r9) ((za (16 * jx + r9)) + z)))) s.heap H locs := Y
    have om : fp_o b n (va_up f (mo + 5) (aI g 64 (upd za (16 * jx + r9) ((za (16 * jx + r9)) + z)))) mo (ob 8 [.int th, .int (nI kf), .ref (mo + 1), .ref (mo + 2), .int na, .ref (mo + 3), .ref (mo + 4), .ref (mo + 5), .int nt, .ref (mo + 6), .ref (mo + 7), .ref (mo + 8), .ref (mo + 9), .ref (mo + 10), .ref (mo + 11), .ref (mo + 12), .ref (mo + 13), .ref (mo + 14), .int po, .int dr]) := fp_o.ne om ne_37
    have o_width : fp_o b n (va_up f (mo + 5) (aI g 64 (upd za (16 * jx + r9) ((za (16 * jx + r9)) + z)))) (mo + 1) (aI g 16 zw) := fp_o.ne o_width ne_38
    have o_held : fp_o b n (va_up f (mo + 5) (aI g 64 (upd za (16 * jx + r9) ((za (16 * jx + r9)) + z)))) (mo + 2) (aI g 16 zh) := fp_o.ne o_held ne_39
    have o_entry : fp_o b n (va_up f (mo + 5) (aI g 64 (upd za (16 * jx + r9) ((za (16 * jx + r9)) + z)))) (mo + 12) (aI g 1280 ze) := fp_o.ne o_entry ne_40
    have o_array : fp_o b n (va_up f (mo + 5) (aI g 64 (upd za (16 * jx + r9) ((za (16 * jx + r9)) + z)))) (mo + 5) (aI g 64 (upd za (16 * jx + r9) ((za (16 * jx + r9)) + z))) := fp_o.up o_array
    refine lv_iload_n hx hb d_M_does_181 rfl (lv_at hl 1 rfl) ?_
    refine lv_bipush (v := 8) hx hb d_M_does_182 (by decide) ?_
    refine lv_icmp_ne (tgt := 212) hx hb d_M_does_184 (by decide) (fun c_184 => ?_) (fun c_184 => absurd c_184 (by decide))
    exact ret _ _ _ _ _ d_M_does_212 ⟨rfl, by simp only [q_mp, q_do]; rw [q_at_in hjy (by omega), er2, q_cg_in hjx hr9, va_up_same ohi.2.2, va_up_same om.2.2]⟩ Y
  · subst h9
    obtain ⟨g1, g2, g3⟩ := q_ite3 hops
    obtain ⟨jx, hjx, ex⟩ := q_in_of (by omega) g1
    subst ex
    obtain ⟨jy, hjy, ey⟩ := q_in_of (by omega) g2
    subst ey
    obtain ⟨jz, hjz, ez⟩ := q_in_of (k := 4) (by decide) g3
    subst ez
    obtain ⟨r9, hr9, er1, er2⟩ := q_fm_15 (zh jy)
    have hl : lv_has ls 6 [(0, .ref mo), (1, .int (nI 8)), (2, .int (nI jx)), (3, .int (nI jy)), (4, .int (nI jz)), (5, .int (-1))] := hl
    refine lv_iload_n hx hb d_M_does_0 rfl (lv_at hl 1 rfl) ?_
    refine lv_if_ne (tgt := 10) hx hb d_M_does_1 (by decide) (fun c_1 => ?_) (fun c_1 => absurd c_1 (by decide))
    refine lv_iload_n hx hb d_M_does_10 rfl (lv_at hl 1 rfl) ?_
    refine lv_iconst (v := 1) hx hb d_M_does_11 (by decide) ?_
    refine lv_icmp_ne (tgt := 26) hx hb d_M_does_12 (by decide) (fun c_12 => ?_) (fun c_12 => absurd c_12 (by decide))
    refine lv_iload_n hx hb d_M_does_26 rfl (lv_at hl 1 rfl) ?_
    refine lv_iconst (v := 2) hx hb d_M_does_27 (by decide) ?_
    refine lv_icmp_ne (tgt := 52) hx hb d_M_does_28 (by decide) (fun c_28 => ?_) (fun c_28 => absurd c_28 (by decide))
    refine lv_iload_n hx hb d_M_does_52 rfl (lv_at hl 1 rfl) ?_
    refine lv_iconst (v := 3) hx hb d_M_does_53 (by decide) ?_
    refine lv_icmp_ne (tgt := 83) hx hb d_M_does_54 (by decide) (fun c_54 => ?_) (fun c_54 => absurd c_54 (by decide))
    refine lv_iload_n hx hb d_M_does_83 rfl (lv_at hl 1 rfl) ?_
    refine lv_iconst (v := 4) hx hb d_M_does_84 (by decide) ?_
    refine lv_icmp_ne (tgt := 93) hx hb d_M_does_85 (by decide) (fun c_85 => ?_) (fun c_85 => absurd c_85 (by decide))
    refine lv_iload_n hx hb d_M_does_93 rfl (lv_at hl 1 rfl) ?_
    refine lv_iconst (v := 5) hx hb d_M_does_94 (by decide) ?_
    refine lv_icmp_ne (tgt := 123) hx hb d_M_does_95 (by decide) (fun c_95 => ?_) (fun c_95 => absurd c_95 (by decide))
    refine lv_iload_n hx hb d_M_does_123 rfl (lv_at hl 1 rfl) ?_
    refine lv_bipush (v := 6) hx hb d_M_does_124 (by decide) ?_
    refine lv_icmp_ne (tgt := 134) hx hb d_M_does_126 (by decide) (fun c_126 => ?_) (fun c_126 => absurd c_126 (by decide))
    refine lv_iload_n hx hb d_M_does_134 rfl (lv_at hl 1 rfl) ?_
    refine lv_bipush (v := 7) hx hb d_M_does_135 (by decide) ?_
    refine lv_icmp_ne (tgt := 181) hx hb d_M_does_137 (by decide) (fun c_137 => ?_) (fun c_137 => absurd c_137 (by decide))
    refine lv_iload_n hx hb d_M_does_181 rfl (lv_at hl 1 rfl) ?_
    refine lv_bipush (v := 8) hx hb d_M_does_182 (by decide) ?_
    refine lv_icmp_ne (tgt := 212) hx hb d_M_does_184 (by decide) (fun c_184 => absurd (by decide) c_184) (fun c_184 => ?_)
    refine lv_aload_n hx hb d_M_does_187 rfl (lv_at hl 0 rfl) ?_
    refine lv_iload_n hx hb d_M_does_188 rfl (lv_at hl 2 rfl) ?_
    refine lv_aload_n hx hb d_M_does_189 rfl (lv_at hl 0 rfl) ?_
    refine fp_get X Y om rfl in_M 7 (by decide) w608 rfl d_M_does_190 ?_
    refine lv_bipush (v := 16) hx hb d_M_does_193 (by decide) ?_
    refine lv_iload hx hb d_M_does_195 (lv_at hl 4 rfl) ?_
    refine lv_imul hx hb d_M_does_197 ?_
    refine lv_aload_n hx hb d_M_does_198 rfl (lv_at hl 0 rfl) ?_
    refine fp_get X Y om rfl in_M 3 (by decide) w604 rfl d_M_does_199 ?_
    refine lv_iload_n hx hb d_M_does_202 rfl (lv_at hl 3 rfl) ?_
    refine fp_ild X Y o_held jy rfl (by omega) (by decide) d_M_does_203 ?_
    refine lv_bipush (v := 15) hx hb d_M_does_204 (by decide) ?_
    refine lv_iand hx hb d_M_does_206 ?_
    rw [er1]
    refine lv_iadd hx hb d_M_does_207 ?_
    refine fp_ild X Y o_array (16 * jz + r9) (by rw [show (16 : Int32) = nI 16 from rfl, pk_mul, nI_add]) (by omega) (by decide) d_M_does_208 ?_
    refine fp_callV (nA := 2) (As := [.int (nI jx), .int (za (16 * jz + r9))]) (rest := []) X Y (c_M_hold (za (16 * jz + r9)) (by omega) om o_width o_held) om rfl w684 w681 w683 wp15 w9 (by decide +kernel) ⟨rfl, rfl⟩ ⟨Nat.le_of_ble_eq_true rfl, Nat.le_of_ble_eq_true rfl⟩ rfl hl.1 rfl (Nat.le_of_ble_eq_true rfl) d_M_does_209 ⟨Nat.zero_le _, Nat.zero_le _⟩ (fun v9 f9 H locs hp9 Y => ?_)
    obtain ⟨e8, e9⟩ := hp9
    subst e8
    rw [e9] at Y
    have ne_41 : mo ≠ mo + 2 := (fp_o.nf om o_held (by simp))
    have ne_42 : mo + 1 ≠ mo + 2 := (by omega)
    have ne_43 : mo + 5 ≠ mo + 2 := (by omega)
    have ne_44 : mo + 12 ≠ mo + 2 := (by omega)
    have Y : fp_H D b n A (va_up f (mo + 2) (aI g 16 (upd zh jx ((za (16 * jz + r9)) &&& q_ones (zw jx))))) s.heap H locs := Y
    have om : fp_o b n (va_up f (mo + 2) (aI g 16 (upd zh jx ((za (16 * jz + r9)) &&& q_ones (zw jx))))) mo (ob 8 [.int th, .int (nI kf), .ref (mo + 1), .ref (mo + 2), .int na, .ref (mo + 3), .ref (mo + 4), .ref (mo + 5), .int nt, .ref (mo + 6), .ref (mo + 7), .ref (mo + 8), .ref (mo + 9), .ref (mo + 10), .ref (mo + 11), .ref (mo + 12), .ref (mo + 13), .ref (mo + 14), .int po, .int dr]) := fp_o.ne om ne_41
    have o_width : fp_o b n (va_up f (mo + 2) (aI g 16 (upd zh jx ((za (16 * jz + r9)) &&& q_ones (zw jx))))) (mo + 1) (aI g 16 zw) := fp_o.ne o_width ne_42
    have o_array : fp_o b n (va_up f (mo + 2) (aI g 16 (upd zh jx ((za (16 * jz + r9)) &&& q_ones (zw jx))))) (mo + 5) (aI g 64 za) := fp_o.ne o_array ne_43
    have o_entry : fp_o b n (va_up f (mo + 2) (aI g 16 (upd zh jx ((za (16 * jz + r9)) &&& q_ones (zw jx))))) (mo + 12) (aI g 1280 ze) := fp_o.ne o_entry ne_44
    have o_held : fp_o b n (va_up f (mo + 2) (aI g 16 (upd zh jx ((za (16 * jz + r9)) &&& q_ones (zw jx))))) (mo + 2) (aI g 16 (upd zh jx ((za (16 * jz + r9)) &&& q_ones (zw jx)))) := fp_o.up o_held
    refine W.eq (g2 := F0 m 212 ls []) rfl ?_
    exact ret _ _ _ _ _ d_M_does_212 ⟨rfl, by simp only [q_mp, q_do]; rw [q_at_in hjy (by omega), er2, q_cr_in hjz hr9, q_wr_in hjx (by omega), ← hone jx hjx, va_up_same o_array.2.2, va_up_same om.2.2]⟩ Y
set_option maxHeartbeats 4000000 in
set_option maxRecDepth 100000 in
theorem c_M_does_1 {l : Launch} {D : va_G} {g : Nat → ClassId} {b n : Nat} {A : Nat → Prop} {f : Nat → va_E} {mo : Nat} {th na nt po dr : Int32} {kf : Nat} {zw zh za ze : Nat → Int32} {z1 : Nat → Int32} {kj ea : Nat} {x y z : Int32} (hkj : kj < 9) (hkf : kf ≤ 16) (hone : ∀ j : Nat, j < kf → q_ones (zw j) = z1 j) (hops : ¬ q_ops kj x y z (nI kf) = 0) (hea : ea + 8 ≤ 1280) (om : fp_o b n f mo (ob 8 [.int th, .int (nI kf), .ref (mo + 1), .ref (mo + 2), .int na, .ref (mo + 3), .ref (mo + 4), .ref (mo + 5), .int nt, .ref (mo + 6), .ref (mo + 7), .ref (mo + 8), .ref (mo + 9), .ref (mo + 10), .ref (mo + 11), .ref (mo + 12), .ref (mo + 13), .ref (mo + 14), .int po, .int dr])) (o_width : fp_o b n f (mo + 1) (aI g 16 zw)) (o_held : fp_o b n f (mo + 2) (aI g 16 zh)) (o_array : fp_o b n f (mo + 5) (aI g 64 za)) (o_entry : fp_o b n f (mo + 12) (aI g 1280 ze))  (hA : fp_W b n A := by assumption) : fp_M l D (TY g) b n A y_M_does (fp_ws y_M_does b_M_does 6 none) (rmD 2) [.ref mo, .int (nI kj), .int x, .int y, .int z, .int (nI ea)] f (fun v f' => v = none ∧ f' = q_mp g f mo th (nI kf) na nt (q_do (nI kf) z1 kj x y z (ze (ea + 6)) (ze (ea + 7)) (zh, za, po, dr))) := by
  refine fp_ofV (plainFor_of_name (by decide)) (Nat.le_of_ble_eq_true rfl) ?_
  intro p e s m args below meth c Q ls H locs X Y hl ret
  have hx := X.1.1
  have hb := X.1.2.1
  have hl : lv_has ls 6 [(0, .ref mo), (1, .int (nI kj)), (2, .int x), (3, .int y), (4, .int z), (5, .int (nI ea))] := hl
  have ohi := o_held
  have oai := o_array
  rcases (show kj = 0 ∨ kj = 1 ∨ kj = 2 ∨ kj = 3 ∨ kj = 4 ∨ kj = 5 ∨ kj = 6 ∨ kj = 7 ∨ kj = 8 by omega) with h9 | h9 | h9 | h9 | h9 | h9 | h9 | h9 | h9
  · subst h9
    have g1 : ¬ q_in x (nI kf) = 0 := hops
    obtain ⟨jx, hjx, ex⟩ := q_in_of (by omega) g1
    subst ex
    have hl : lv_has ls 6 [(0, .ref mo), (1, .int (nI 0)), (2, .int (nI jx)), (3, .int y), (4, .int z), (5, .int (nI ea))] := hl
    refine lv_iload_n hx hb d_M_does_0 rfl (lv_at hl 1 rfl) ?_
    refine lv_if_ne (tgt := 10) hx hb d_M_does_1 (by decide) (fun c_1 => absurd (by decide) c_1) (fun c_1 => ?_)
    refine lv_aload_n hx hb d_M_does_4 rfl (lv_at hl 0 rfl) ?_
    refine lv_iload_n hx hb d_M_does_5 rfl (lv_at hl 2 rfl) ?_
    refine lv_iload_n hx hb d_M_does_6 rfl (lv_at hl 3 rfl) ?_
    refine fp_callV (nA := 2) (As := [.int (nI jx), .int y]) (rest := []) X Y (c_M_hold y (by omega) om o_width o_held) om rfl w684 w681 w683 wp15 w9 (by decide +kernel) ⟨rfl, rfl⟩ ⟨Nat.le_of_ble_eq_true rfl, Nat.le_of_ble_eq_true rfl⟩ rfl hl.1 rfl (Nat.le_of_ble_eq_true rfl) d_M_does_7 ⟨Nat.zero_le _, Nat.zero_le _⟩ (fun v9 f9 H locs hp9 Y => ?_)
    obtain ⟨e8, e9⟩ := hp9
    subst e8
    rw [e9] at Y
    have ne_1 : mo ≠ mo + 2 := (fp_o.nf om o_held (by simp))
    have ne_2 : mo + 1 ≠ mo + 2 := (by omega)
    have ne_3 : mo + 5 ≠ mo + 2 := (by omega)
    have ne_4 : mo + 12 ≠ mo + 2 := (by omega)
    have Y : fp_H D b n A (va_up f (mo + 2) (aI g 16 (upd zh jx (y &&& q_ones (zw jx))))) s.heap H locs := Y
    have om : fp_o b n (va_up f (mo + 2) (aI g 16 (upd zh jx (y &&& q_ones (zw jx))))) mo (ob 8 [.int th, .int (nI kf), .ref (mo + 1), .ref (mo + 2), .int na, .ref (mo + 3), .ref (mo + 4), .ref (mo + 5), .int nt, .ref (mo + 6), .ref (mo + 7), .ref (mo + 8), .ref (mo + 9), .ref (mo + 10), .ref (mo + 11), .ref (mo + 12), .ref (mo + 13), .ref (mo + 14), .int po, .int dr]) := fp_o.ne om ne_1
    have o_width : fp_o b n (va_up f (mo + 2) (aI g 16 (upd zh jx (y &&& q_ones (zw jx))))) (mo + 1) (aI g 16 zw) := fp_o.ne o_width ne_2
    have o_array : fp_o b n (va_up f (mo + 2) (aI g 16 (upd zh jx (y &&& q_ones (zw jx))))) (mo + 5) (aI g 64 za) := fp_o.ne o_array ne_3
    have o_entry : fp_o b n (va_up f (mo + 2) (aI g 16 (upd zh jx (y &&& q_ones (zw jx))))) (mo + 12) (aI g 1280 ze) := fp_o.ne o_entry ne_4
    have o_held : fp_o b n (va_up f (mo + 2) (aI g 16 (upd zh jx (y &&& q_ones (zw jx))))) (mo + 2) (aI g 16 (upd zh jx (y &&& q_ones (zw jx)))) := fp_o.up o_held
    refine W.eq (g2 := F0 m 10 ls []) rfl ?_
    refine lv_iload_n hx hb d_M_does_10 rfl (lv_at hl 1 rfl) ?_
    refine lv_iconst (v := 1) hx hb d_M_does_11 (by decide) ?_
    refine lv_icmp_ne (tgt := 26) hx hb d_M_does_12 (by decide) (fun c_12 => ?_) (fun c_12 => absurd c_12 (by decide))
    refine lv_iload_n hx hb d_M_does_26 rfl (lv_at hl 1 rfl) ?_
    refine lv_iconst (v := 2) hx hb d_M_does_27 (by decide) ?_
    refine lv_icmp_ne (tgt := 52) hx hb d_M_does_28 (by decide) (fun c_28 => ?_) (fun c_28 => absurd c_28 (by decide))
    refine lv_iload_n hx hb d_M_does_52 rfl (lv_at hl 1 rfl) ?_
    refine lv_iconst (v := 3) hx hb d_M_does_53 (by decide) ?_
    refine lv_icmp_ne (tgt := 83) hx hb d_M_does_54 (by decide) (fun c_54 => ?_) (fun c_54 => absurd c_54 (by decide))
    refine lv_iload_n hx hb d_M_does_83 rfl (lv_at hl 1 rfl) ?_
    refine lv_iconst (v := 4) hx hb d_M_does_84 (by decide) ?_
    refine lv_icmp_ne (tgt := 93) hx hb d_M_does_85 (by decide) (fun c_85 => ?_) (fun c_85 => absurd c_85 (by decide))
    refine lv_iload_n hx hb d_M_does_93 rfl (lv_at hl 1 rfl) ?_
    refine lv_iconst (v := 5) hx hb d_M_does_94 (by decide) ?_
    refine lv_icmp_ne (tgt := 123) hx hb d_M_does_95 (by decide) (fun c_95 => ?_) (fun c_95 => absurd c_95 (by decide))
    refine lv_iload_n hx hb d_M_does_123 rfl (lv_at hl 1 rfl) ?_
    refine lv_bipush (v := 6) hx hb d_M_does_124 (by decide) ?_
    refine lv_icmp_ne (tgt := 134) hx hb d_M_does_126 (by decide) (fun c_126 => ?_) (fun c_126 => absurd c_126 (by decide))
    refine lv_iload_n hx hb d_M_does_134 rfl (lv_at hl 1 rfl) ?_
    refine lv_bipush (v := 7) hx hb d_M_does_135 (by decide) ?_
    refine lv_icmp_ne (tgt := 181) hx hb d_M_does_137 (by decide) (fun c_137 => ?_) (fun c_137 => absurd c_137 (by decide))
    refine lv_iload_n hx hb d_M_does_181 rfl (lv_at hl 1 rfl) ?_
    refine lv_bipush (v := 8) hx hb d_M_does_182 (by decide) ?_
    refine lv_icmp_ne (tgt := 212) hx hb d_M_does_184 (by decide) (fun c_184 => ?_) (fun c_184 => absurd c_184 (by decide))
    exact ret _ _ _ _ _ d_M_does_212 ⟨rfl, by simp only [q_mp, q_do]; rw [q_wr_in hjx (by omega), ← hone jx hjx, va_up_same o_array.2.2, va_up_same om.2.2]⟩ Y
  · subst h9
    obtain ⟨g1, g2⟩ := q_ite2 hops
    obtain ⟨jx, hjx, ex⟩ := q_in_of (by omega) g1
    subst ex
    obtain ⟨jy, hjy, ey⟩ := q_in_of (by omega) g2
    subst ey
    have hl : lv_has ls 6 [(0, .ref mo), (1, .int (nI 1)), (2, .int (nI jx)), (3, .int (nI jy)), (4, .int z), (5, .int (nI ea))] := hl
    refine lv_iload_n hx hb d_M_does_0 rfl (lv_at hl 1 rfl) ?_
    refine lv_if_ne (tgt := 10) hx hb d_M_does_1 (by decide) (fun c_1 => ?_) (fun c_1 => absurd c_1 (by decide))
    refine lv_iload_n hx hb d_M_does_10 rfl (lv_at hl 1 rfl) ?_
    refine lv_iconst (v := 1) hx hb d_M_does_11 (by decide) ?_
    refine lv_icmp_ne (tgt := 26) hx hb d_M_does_12 (by decide) (fun c_12 => absurd (by decide) c_12) (fun c_12 => ?_)
    refine lv_aload_n hx hb d_M_does_15 rfl (lv_at hl 0 rfl) ?_
    refine lv_iload_n hx hb d_M_does_16 rfl (lv_at hl 2 rfl) ?_
    refine lv_aload_n hx hb d_M_does_17 rfl (lv_at hl 0 rfl) ?_
    refine fp_get X Y om rfl in_M 3 (by decide) w604 rfl d_M_does_18 ?_
    refine lv_iload_n hx hb d_M_does_21 rfl (lv_at hl 3 rfl) ?_
    refine fp_ild X Y o_held jy rfl (by omega) (by decide) d_M_does_22 ?_
    refine fp_callV (nA := 2) (As := [.int (nI jx), .int (zh jy)]) (rest := []) X Y (c_M_hold (zh jy) (by omega) om o_width o_held) om rfl w684 w681 w683 wp15 w9 (by decide +kernel) ⟨rfl, rfl⟩ ⟨Nat.le_of_ble_eq_true rfl, Nat.le_of_ble_eq_true rfl⟩ rfl hl.1 rfl (Nat.le_of_ble_eq_true rfl) d_M_does_23 ⟨Nat.zero_le _, Nat.zero_le _⟩ (fun v9 f9 H locs hp9 Y => ?_)
    obtain ⟨e8, e9⟩ := hp9
    subst e8
    rw [e9] at Y
    have ne_5 : mo ≠ mo + 2 := (fp_o.nf om o_held (by simp))
    have ne_6 : mo + 1 ≠ mo + 2 := (by omega)
    have ne_7 : mo + 5 ≠ mo + 2 := (by omega)
    have ne_8 : mo + 12 ≠ mo + 2 := (by omega)
    have Y : fp_H D b n A (va_up f (mo + 2) (aI g 16 (upd zh jx ((zh jy) &&& q_ones (zw jx))))) s.heap H locs := Y
    have om : fp_o b n (va_up f (mo + 2) (aI g 16 (upd zh jx ((zh jy) &&& q_ones (zw jx))))) mo (ob 8 [.int th, .int (nI kf), .ref (mo + 1), .ref (mo + 2), .int na, .ref (mo + 3), .ref (mo + 4), .ref (mo + 5), .int nt, .ref (mo + 6), .ref (mo + 7), .ref (mo + 8), .ref (mo + 9), .ref (mo + 10), .ref (mo + 11), .ref (mo + 12), .ref (mo + 13), .ref (mo + 14), .int po, .int dr]) := fp_o.ne om ne_5
    have o_width : fp_o b n (va_up f (mo + 2) (aI g 16 (upd zh jx ((zh jy) &&& q_ones (zw jx))))) (mo + 1) (aI g 16 zw) := fp_o.ne o_width ne_6
    have o_array : fp_o b n (va_up f (mo + 2) (aI g 16 (upd zh jx ((zh jy) &&& q_ones (zw jx))))) (mo + 5) (aI g 64 za) := fp_o.ne o_array ne_7
    have o_entry : fp_o b n (va_up f (mo + 2) (aI g 16 (upd zh jx ((zh jy) &&& q_ones (zw jx))))) (mo + 12) (aI g 1280 ze) := fp_o.ne o_entry ne_8
    have o_held : fp_o b n (va_up f (mo + 2) (aI g 16 (upd zh jx ((zh jy) &&& q_ones (zw jx))))) (mo + 2) (aI g 16 (upd zh jx ((zh jy) &&& q_ones (zw jx)))) := fp_o.up o_held
    refine W.eq (g2 := F0 m 26 ls []) rfl ?_
    refine lv_iload_n hx hb d_M_does_26 rfl (lv_at hl 1 rfl) ?_
    refine lv_iconst (v := 2) hx hb d_M_does_27 (by decide) ?_
    refine lv_icmp_ne (tgt := 52) hx hb d_M_does_28 (by decide) (fun c_28 => ?_) (fun c_28 => absurd c_28 (by decide))
    refine lv_iload_n hx hb d_M_does_52 rfl (lv_at hl 1 rfl) ?_
    refine lv_iconst (v := 3) hx hb d_M_does_53 (by decide) ?_
    refine lv_icmp_ne (tgt := 83) hx hb d_M_does_54 (by decide) (fun c_54 => ?_) (fun c_54 => absurd c_54 (by decide))
    refine lv_iload_n hx hb d_M_does_83 rfl (lv_at hl 1 rfl) ?_
    refine lv_iconst (v := 4) hx hb d_M_does_84 (by decide) ?_
    refine lv_icmp_ne (tgt := 93) hx hb d_M_does_85 (by decide) (fun c_85 => ?_) (fun c_85 => absurd c_85 (by decide))
    refine lv_iload_n hx hb d_M_does_93 rfl (lv_at hl 1 rfl) ?_
    refine lv_iconst (v := 5) hx hb d_M_does_94 (by decide) ?_
    refine lv_icmp_ne (tgt := 123) hx hb d_M_does_95 (by decide) (fun c_95 => ?_) (fun c_95 => absurd c_95 (by decide))
    refine lv_iload_n hx hb d_M_does_123 rfl (lv_at hl 1 rfl) ?_
    refine lv_bipush (v := 6) hx hb d_M_does_124 (by decide) ?_
    refine lv_icmp_ne (tgt := 134) hx hb d_M_does_126 (by decide) (fun c_126 => ?_) (fun c_126 => absurd c_126 (by decide))
    refine lv_iload_n hx hb d_M_does_134 rfl (lv_at hl 1 rfl) ?_
    refine lv_bipush (v := 7) hx hb d_M_does_135 (by decide) ?_
    refine lv_icmp_ne (tgt := 181) hx hb d_M_does_137 (by decide) (fun c_137 => ?_) (fun c_137 => absurd c_137 (by decide))
    refine lv_iload_n hx hb d_M_does_181 rfl (lv_at hl 1 rfl) ?_
    refine lv_bipush (v := 8) hx hb d_M_does_182 (by decide) ?_
    refine lv_icmp_ne (tgt := 212) hx hb d_M_does_184 (by decide) (fun c_184 => ?_) (fun c_184 => absurd c_184 (by decide))
    exact ret _ _ _ _ _ d_M_does_212 ⟨rfl, by simp only [q_mp, q_do]; rw [q_at_in hjy (by omega), q_wr_in hjx (by omega), ← hone jx hjx, va_up_same o_array.2.2, va_up_same om.2.2]⟩ Y
  · subst h9
    obtain ⟨g1, g2⟩ := q_ite2 hops
    obtain ⟨jx, hjx, ex⟩ := q_in_of (by omega) g1
    subst ex
    obtain ⟨jy, hjy, ey⟩ := q_in_of (by omega) g2
    subst ey
    have hl : lv_has ls 6 [(0, .ref mo), (1, .int (nI 2)), (2, .int (nI jx)), (3, .int (nI jy)), (4, .int z), (5, .int (nI ea))] := hl
    refine lv_iload_n hx hb d_M_does_0 rfl (lv_at hl 1 rfl) ?_
    refine lv_if_ne (tgt := 10) hx hb d_M_does_1 (by decide) (fun c_1 => ?_) (fun c_1 => absurd c_1 (by decide))
    refine lv_iload_n hx hb d_M_does_10 rfl (lv_at hl 1 rfl) ?_
    refine lv_iconst (v := 1) hx hb d_M_does_11 (by decide) ?_
    refine lv_icmp_ne (tgt := 26) hx hb d_M_does_12 (by decide) (fun c_12 => ?_) (fun c_12 => absurd c_12 (by decide))
    refine lv_iload_n hx hb d_M_does_26 rfl (lv_at hl 1 rfl) ?_
    refine lv_iconst (v := 2) hx hb d_M_does_27 (by decide) ?_
    refine lv_icmp_ne (tgt := 52) hx hb d_M_does_28 (by decide) (fun c_28 => absurd (by decide) c_28) (fun c_28 => ?_)
    refine lv_aload_n hx hb d_M_does_31 rfl (lv_at hl 0 rfl) ?_
    refine lv_iload_n hx hb d_M_does_32 rfl (lv_at hl 2 rfl) ?_
    refine lv_aload_n hx hb d_M_does_33 rfl (lv_at hl 0 rfl) ?_
    refine fp_get X Y om rfl in_M 3 (by decide) w604 rfl d_M_does_34 ?_
    refine lv_iload_n hx hb d_M_does_37 rfl (lv_at hl 2 rfl) ?_
    refine fp_ild X Y o_held jx rfl (by omega) (by decide) d_M_does_38 ?_
    refine lv_aload_n hx hb d_M_does_39 rfl (lv_at hl 0 rfl) ?_
    refine fp_get X Y om rfl in_M 3 (by decide) w604 rfl d_M_does_40 ?_
    refine lv_iload_n hx hb d_M_does_43 rfl (lv_at hl 3 rfl) ?_
    refine fp_ild X Y o_held jy rfl (by omega) (by decide) d_M_does_44 ?_
    refine lv_iadd hx hb d_M_does_45 ?_
    refine lv_iload hx hb d_M_does_46 (lv_at hl 4 rfl) ?_
    refine lv_iadd hx hb d_M_does_48 ?_
    refine fp_callV (nA := 2) (As := [.int (nI jx), .int (((zh jx) + (zh jy)) + z)]) (rest := []) X Y (c_M_hold (((zh jx) + (zh jy)) + z) (by omega) om o_width o_held) om rfl w684 w681 w683 wp15 w9 (by decide +kernel) ⟨rfl, rfl⟩ ⟨Nat.le_of_ble_eq_true rfl, Nat.le_of_ble_eq_true rfl⟩ rfl hl.1 rfl (Nat.le_of_ble_eq_true rfl) d_M_does_49 ⟨Nat.zero_le _, Nat.zero_le _⟩ (fun v9 f9 H locs hp9 Y => ?_)
    obtain ⟨e8, e9⟩ := hp9
    subst e8
    rw [e9] at Y
    have ne_9 : mo ≠ mo + 2 := (fp_o.nf om o_held (by simp))
    have ne_10 : mo + 1 ≠ mo + 2 := (by omega)
    have ne_11 : mo + 5 ≠ mo + 2 := (by omega)
    have ne_12 : mo + 12 ≠ mo + 2 := (by omega)
    have Y : fp_H D b n A (va_up f (mo + 2) (aI g 16 (upd zh jx ((((zh jx) + (zh jy)) + z) &&& q_ones (zw jx))))) s.heap H locs := Y
    have om : fp_o b n (va_up f (mo + 2) (aI g 16 (upd zh jx ((((zh jx) + (zh jy)) + z) &&& q_ones (zw jx))))) mo (ob 8 [.int th, .int (nI kf), .ref (mo + 1), .ref (mo + 2), .int na, .ref (mo + 3), .ref (mo + 4), .ref (mo + 5), .int nt, .ref (mo + 6), .ref (mo + 7), .ref (mo + 8), .ref (mo + 9), .ref (mo + 10), .ref (mo + 11), .ref (mo + 12), .ref (mo + 13), .ref (mo + 14), .int po, .int dr]) := fp_o.ne om ne_9
    have o_width : fp_o b n (va_up f (mo + 2) (aI g 16 (upd zh jx ((((zh jx) + (zh jy)) + z) &&& q_ones (zw jx))))) (mo + 1) (aI g 16 zw) := fp_o.ne o_width ne_10
    have o_array : fp_o b n (va_up f (mo + 2) (aI g 16 (upd zh jx ((((zh jx) + (zh jy)) + z) &&& q_ones (zw jx))))) (mo + 5) (aI g 64 za) := fp_o.ne o_array ne_11
    have o_entry : fp_o b n (va_up f (mo + 2) (aI g 16 (upd zh jx ((((zh jx) + (zh jy)) + z) &&& q_ones (zw jx))))) (mo + 12) (aI g 1280 ze) := fp_o.ne o_entry ne_12
    have o_held : fp_o b n (va_up f (mo + 2) (aI g 16 (upd zh jx ((((zh jx) + (zh jy)) + z) &&& q_ones (zw jx))))) (mo + 2) (aI g 16 (upd zh jx ((((zh jx) + (zh jy)) + z) &&& q_ones (zw jx)))) := fp_o.up o_held
    refine W.eq (g2 := F0 m 52 ls []) rfl ?_
    refine lv_iload_n hx hb d_M_does_52 rfl (lv_at hl 1 rfl) ?_
    refine lv_iconst (v := 3) hx hb d_M_does_53 (by decide) ?_
    refine lv_icmp_ne (tgt := 83) hx hb d_M_does_54 (by decide) (fun c_54 => ?_) (fun c_54 => absurd c_54 (by decide))
    refine lv_iload_n hx hb d_M_does_83 rfl (lv_at hl 1 rfl) ?_
    refine lv_iconst (v := 4) hx hb d_M_does_84 (by decide) ?_
    refine lv_icmp_ne (tgt := 93) hx hb d_M_does_85 (by decide) (fun c_85 => ?_) (fun c_85 => absurd c_85 (by decide))
    refine lv_iload_n hx hb d_M_does_93 rfl (lv_at hl 1 rfl) ?_
    refine lv_iconst (v := 5) hx hb d_M_does_94 (by decide) ?_
    refine lv_icmp_ne (tgt := 123) hx hb d_M_does_95 (by decide) (fun c_95 => ?_) (fun c_95 => absurd c_95 (by decide))
    refine lv_iload_n hx hb d_M_does_123 rfl (lv_at hl 1 rfl) ?_
    refine lv_bipush (v := 6) hx hb d_M_does_124 (by decide) ?_
    refine lv_icmp_ne (tgt := 134) hx hb d_M_does_126 (by decide) (fun c_126 => ?_) (fun c_126 => absurd c_126 (by decide))
    refine lv_iload_n hx hb d_M_does_134 rfl (lv_at hl 1 rfl) ?_
    refine lv_bipush (v := 7) hx hb d_M_does_135 (by decide) ?_
    refine lv_icmp_ne (tgt := 181) hx hb d_M_does_137 (by decide) (fun c_137 => ?_) (fun c_137 => absurd c_137 (by decide))
    refine lv_iload_n hx hb d_M_does_181 rfl (lv_at hl 1 rfl) ?_
    refine lv_bipush (v := 8) hx hb d_M_does_182 (by decide) ?_
    refine lv_icmp_ne (tgt := 212) hx hb d_M_does_184 (by decide) (fun c_184 => ?_) (fun c_184 => absurd c_184 (by decide))
    exact ret _ _ _ _ _ d_M_does_212 ⟨rfl, by simp only [q_mp, q_do]; rw [q_at_in hjx (by omega), q_at_in hjy (by omega), q_wr_in hjx (by omega), ← hone jx hjx, va_up_same o_array.2.2, va_up_same om.2.2]⟩ Y
  · subst h9
    obtain ⟨g1, g2⟩ := q_ite2 hops
    obtain ⟨jx, hjx, ex⟩ := q_in_of (by omega) g1
    subst ex
    obtain ⟨jy, hjy, ey⟩ := q_in_of (k := 2) (by decide) g2
    subst ey
    rcases (show jy = 0 ∨ jy = 1 by omega) with h8 | h8
    · subst h8
      have hl : lv_has ls 6 [(0, .ref mo), (1, .int (nI 3)), (2, .int (nI jx)), (3, .int (nI 0)), (4, .int z), (5, .int (nI ea))] := hl
      refine lv_iload_n hx hb d_M_does_0 rfl (lv_at hl 1 rfl) ?_
      refine lv_if_ne (tgt := 10) hx hb d_M_does_1 (by decide) (fun c_1 => ?_) (fun c_1 => absurd c_1 (by decide))
      refine lv_iload_n hx hb d_M_does_10 rfl (lv_at hl 1 rfl) ?_
      refine lv_iconst (v := 1) hx hb d_M_does_11 (by decide) ?_
      refine lv_icmp_ne (tgt := 26) hx hb d_M_does_12 (by decide) (fun c_12 => ?_) (fun c_12 => absurd c_12 (by decide))
      refine lv_iload_n hx hb d_M_does_26 rfl (lv_at hl 1 rfl) ?_
      refine lv_iconst (v := 2) hx hb d_M_does_27 (by decide) ?_
      refine lv_icmp_ne (tgt := 52) hx hb d_M_does_28 (by decide) (fun c_28 => ?_) (fun c_28 => absurd c_28 (by decide))
      refine lv_iload_n hx hb d_M_does_52 rfl (lv_at hl 1 rfl) ?_
      refine lv_iconst (v := 3) hx hb d_M_does_53 (by decide) ?_
      refine lv_icmp_ne (tgt := 83) hx hb d_M_does_54 (by decide) (fun c_54 => absurd (by decide) c_54) (fun c_54 => ?_)
      refine lv_aload_n hx hb d_M_does_57 rfl (lv_at hl 0 rfl) ?_
      refine lv_iload_n hx hb d_M_does_58 rfl (lv_at hl 2 rfl) ?_
      refine lv_iload hx hb d_M_does_59 (lv_at hl 5 rfl) ?_
      refine lv_if_ge (tgt := 68) hx hb d_M_does_61 (by decide) (fun c_61 => ?_) (fun c_61 => absurd (nI_pos' (by omega)) c_61)
      refine lv_aload_n hx hb d_M_does_68 rfl (lv_at hl 0 rfl) ?_
      refine fp_get X Y om rfl in_M 15 (by decide) w616 rfl d_M_does_69 ?_
      refine lv_iload hx hb d_M_does_72 (lv_at hl 5 rfl) ?_
      refine lv_bipush (v := 6) hx hb d_M_does_74 (by decide) ?_
      refine lv_iadd hx hb d_M_does_76 ?_
      refine lv_iload_n hx hb d_M_does_77 rfl (lv_at hl 3 rfl) ?_
      refine lv_iadd hx hb d_M_does_78 ?_
      refine fp_ild X Y o_entry (ea + 6) (q_at6 ea 0) (by omega) (by decide) d_M_does_79 ?_
      refine fp_callV (nA := 2) (As := [.int (nI jx), .int (ze (ea + 6))]) (rest := []) X Y (c_M_hold (ze (ea + 6)) (by omega) om o_width o_held) om rfl w684 w681 w683 wp15 w9 (by decide +kernel) ⟨rfl, rfl⟩ ⟨Nat.le_of_ble_eq_true rfl, Nat.le_of_ble_eq_true rfl⟩ rfl hl.1 rfl (Nat.le_of_ble_eq_true rfl) d_M_does_80 ⟨Nat.zero_le _, Nat.zero_le _⟩ (fun v9 f9 H locs hp9 Y => ?_)
      obtain ⟨e8, e9⟩ := hp9
      subst e8
      rw [e9] at Y
      have ne_13 : mo ≠ mo + 2 := (fp_o.nf om o_held (by simp))
      have ne_14 : mo + 1 ≠ mo + 2 := (by omega)
      have ne_15 : mo + 5 ≠ mo + 2 := (by omega)
      have ne_16 : mo + 12 ≠ mo + 2 := (by omega)
      have Y : fp_H D b n A (va_up f (mo + 2) (aI g 16 (upd zh jx ((ze (ea + 6)) &&& q_ones (zw jx))))) s.heap H locs := Y
      have om : fp_o b n (va_up f (mo + 2) (aI g 16 (upd zh jx ((ze (ea + 6)) &&& q_ones (zw jx))))) mo (ob 8 [.int th, .int (nI kf), .ref (mo + 1), .ref (mo + 2), .int na, .ref (mo + 3), .ref (mo + 4), .ref (mo + 5), .int nt, .ref (mo + 6), .ref (mo + 7), .ref (mo + 8), .ref (mo + 9), .ref (mo + 10), .ref (mo + 11), .ref (mo + 12), .ref (mo + 13), .ref (mo + 14), .int po, .int dr]) := fp_o.ne om ne_13
      have o_width : fp_o b n (va_up f (mo + 2) (aI g 16 (upd zh jx ((ze (ea + 6)) &&& q_ones (zw jx))))) (mo + 1) (aI g 16 zw) := fp_o.ne o_width ne_14
      have o_array : fp_o b n (va_up f (mo + 2) (aI g 16 (upd zh jx ((ze (ea + 6)) &&& q_ones (zw jx))))) (mo + 5) (aI g 64 za) := fp_o.ne o_array ne_15
      have o_entry : fp_o b n (va_up f (mo + 2) (aI g 16 (upd zh jx ((ze (ea + 6)) &&& q_ones (zw jx))))) (mo + 12) (aI g 1280 ze) := fp_o.ne o_entry ne_16
      have o_held : fp_o b n (va_up f (mo + 2) (aI g 16 (upd zh jx ((ze (ea + 6)) &&& q_ones (zw jx))))) (mo + 2) (aI g 16 (upd zh jx ((ze (ea + 6)) &&& q_ones (zw jx)))) := fp_o.up o_held
      refine W.eq (g2 := F0 m 83 ls []) rfl ?_
      refine lv_iload_n hx hb d_M_does_83 rfl (lv_at hl 1 rfl) ?_
      refine lv_iconst (v := 4) hx hb d_M_does_84 (by decide) ?_
      refine lv_icmp_ne (tgt := 93) hx hb d_M_does_85 (by decide) (fun c_85 => ?_) (fun c_85 => absurd c_85 (by decide))
      refine lv_iload_n hx hb d_M_does_93 rfl (lv_at hl 1 rfl) ?_
      refine lv_iconst (v := 5) hx hb d_M_does_94 (by decide) ?_
      refine lv_icmp_ne (tgt := 123) hx hb d_M_does_95 (by decide) (fun c_95 => ?_) (fun c_95 => absurd c_95 (by decide))
      refine lv_iload_n hx hb d_M_does_123 rfl (lv_at hl 1 rfl) ?_
      refine lv_bipush (v := 6) hx hb d_M_does_124 (by decide) ?_
      refine lv_icmp_ne (tgt := 134) hx hb d_M_does_126 (by decide) (fun c_126 => ?_) (fun c_126 => absurd c_126 (by decide))
      refine lv_iload_n hx hb d_M_does_134 rfl (lv_at hl 1 rfl) ?_
      refine lv_bipush (v := 7) hx hb d_M_does_135 (by decide) ?_
      refine lv_icmp_ne (tgt := 181) hx hb d_M_does_137 (by decide) (fun c_137 => ?_) (fun c_137 => absurd c_137 (by decide))
      refine lv_iload_n hx hb d_M_does_181 rfl (lv_at hl 1 rfl) ?_
      refine lv_bipush (v := 8) hx hb d_M_does_182 (by decide) ?_
      refine lv_icmp_ne (tgt := 212) hx hb d_M_does_184 (by decide) (fun c_184 => ?_) (fun c_184 => absurd c_184 (by decide))
      exact ret _ _ _ _ _ d_M_does_212 ⟨rfl, by simp only [q_mp, q_do]; rw [q_dat_0, q_wr_in hjx (by omega), ← hone jx hjx, va_up_same o_array.2.2, va_up_same om.2.2]⟩ Y
    · subst h8
      have hl : lv_has ls 6 [(0, .ref mo), (1, .int (nI 3)), (2, .int (nI jx)), (3, .int (nI 1)), (4, .int z), (5, .int (nI ea))] := hl
      refine lv_iload_n hx hb d_M_does_0 rfl (lv_at hl 1 rfl) ?_
      refine lv_if_ne (tgt := 10) hx hb d_M_does_1 (by decide) (fun c_1 => ?_) (fun c_1 => absurd c_1 (by decide))
      refine lv_iload_n hx hb d_M_does_10 rfl (lv_at hl 1 rfl) ?_
      refine lv_iconst (v := 1) hx hb d_M_does_11 (by decide) ?_
      refine lv_icmp_ne (tgt := 26) hx hb d_M_does_12 (by decide) (fun c_12 => ?_) (fun c_12 => absurd c_12 (by decide))
      refine lv_iload_n hx hb d_M_does_26 rfl (lv_at hl 1 rfl) ?_
      refine lv_iconst (v := 2) hx hb d_M_does_27 (by decide) ?_
      refine lv_icmp_ne (tgt := 52) hx hb d_M_does_28 (by decide) (fun c_28 => ?_) (fun c_28 => absurd c_28 (by decide))
      refine lv_iload_n hx hb d_M_does_52 rfl (lv_at hl 1 rfl) ?_
      refine lv_iconst (v := 3) hx hb d_M_does_53 (by decide) ?_
      refine lv_icmp_ne (tgt := 83) hx hb d_M_does_54 (by decide) (fun c_54 => absurd (by decide) c_54) (fun c_54 => ?_)
      refine lv_aload_n hx hb d_M_does_57 rfl (lv_at hl 0 rfl) ?_
      refine lv_iload_n hx hb d_M_does_58 rfl (lv_at hl 2 rfl) ?_
      refine lv_iload hx hb d_M_does_59 (lv_at hl 5 rfl) ?_
      refine lv_if_ge (tgt := 68) hx hb d_M_does_61 (by decide) (fun c_61 => ?_) (fun c_61 => absurd (nI_pos' (by omega)) c_61)
      refine lv_aload_n hx hb d_M_does_68 rfl (lv_at hl 0 rfl) ?_
      refine fp_get X Y om rfl in_M 15 (by decide) w616 rfl d_M_does_69 ?_
      refine lv_iload hx hb d_M_does_72 (lv_at hl 5 rfl) ?_
      refine lv_bipush (v := 6) hx hb d_M_does_74 (by decide) ?_
      refine lv_iadd hx hb d_M_does_76 ?_
      refine lv_iload_n hx hb d_M_does_77 rfl (lv_at hl 3 rfl) ?_
      refine lv_iadd hx hb d_M_does_78 ?_
      refine fp_ild X Y o_entry (ea + 7) (q_at6 ea 1) (by omega) (by decide) d_M_does_79 ?_
      refine fp_callV (nA := 2) (As := [.int (nI jx), .int (ze (ea + 7))]) (rest := []) X Y (c_M_hold (ze (ea + 7)) (by omega) om o_width o_held) om rfl w684 w681 w683 wp15 w9 (by decide +kernel) ⟨rfl, rfl⟩ ⟨Nat.le_of_ble_eq_true rfl, Nat.le_of_ble_eq_true rfl⟩ rfl hl.1 rfl (Nat.le_of_ble_eq_true rfl) d_M_does_80 ⟨Nat.zero_le _, Nat.zero_le _⟩ (fun v9 f9 H locs hp9 Y => ?_)
      obtain ⟨e8, e9⟩ := hp9
      subst e8
      rw [e9] at Y
      have ne_17 : mo ≠ mo + 2 := (fp_o.nf om o_held (by simp))
      have ne_18 : mo + 1 ≠ mo + 2 := (by omega)
      have ne_19 : mo + 5 ≠ mo + 2 := (by omega)
      have ne_20 : mo + 12 ≠ mo + 2 := (by omega)
      have Y : fp_H D b n A (va_up f (mo + 2) (aI g 16 (upd zh jx ((ze (ea + 7)) &&& q_ones (zw jx))))) s.heap H locs := Y
      have om : fp_o b n (va_up f (mo + 2) (aI g 16 (upd zh jx ((ze (ea + 7)) &&& q_ones (zw jx))))) mo (ob 8 [.int th, .int (nI kf), .ref (mo + 1), .ref (mo + 2), .int na, .ref (mo + 3), .ref (mo + 4), .ref (mo + 5), .int nt, .ref (mo + 6), .ref (mo + 7), .ref (mo + 8), .ref (mo + 9), .ref (mo + 10), .ref (mo + 11), .ref (mo + 12), .ref (mo + 13), .ref (mo + 14), .int po, .int dr]) := fp_o.ne om ne_17
      have o_width : fp_o b n (va_up f (mo + 2) (aI g 16 (upd zh jx ((ze (ea + 7)) &&& q_ones (zw jx))))) (mo + 1) (aI g 16 zw) := fp_o.ne o_width ne_18
      have o_array : fp_o b n (va_up f (mo + 2) (aI g 16 (upd zh jx ((ze (ea + 7)) &&& q_ones (zw jx))))) (mo + 5) (aI g 64 za) := fp_o.ne o_array ne_19
      have o_entry : fp_o b n (va_up f (mo + 2) (aI g 16 (upd zh jx ((ze (ea + 7)) &&& q_ones (zw jx))))) (mo + 12) (aI g 1280 ze) := fp_o.ne o_entry ne_20
      have o_held : fp_o b n (va_up f (mo + 2) (aI g 16 (upd zh jx ((ze (ea + 7)) &&& q_ones (zw jx))))) (mo + 2) (aI g 16 (upd zh jx ((ze (ea + 7)) &&& q_ones (zw jx)))) := fp_o.up o_held
      refine W.eq (g2 := F0 m 83 ls []) rfl ?_
      refine lv_iload_n hx hb d_M_does_83 rfl (lv_at hl 1 rfl) ?_
      refine lv_iconst (v := 4) hx hb d_M_does_84 (by decide) ?_
      refine lv_icmp_ne (tgt := 93) hx hb d_M_does_85 (by decide) (fun c_85 => ?_) (fun c_85 => absurd c_85 (by decide))
      refine lv_iload_n hx hb d_M_does_93 rfl (lv_at hl 1 rfl) ?_
      refine lv_iconst (v := 5) hx hb d_M_does_94 (by decide) ?_
      refine lv_icmp_ne (tgt := 123) hx hb d_M_does_95 (by decide) (fun c_95 => ?_) (fun c_95 => absurd c_95 (by decide))
      refine lv_iload_n hx hb d_M_does_123 rfl (lv_at hl 1 rfl) ?_
      refine lv_bipush (v := 6) hx hb d_M_does_124 (by decide) ?_
      refine lv_icmp_ne (tgt := 134) hx hb d_M_does_126 (by decide) (fun c_126 => ?_) (fun c_126 => absurd c_126 (by decide))
      refine lv_iload_n hx hb d_M_does_134 rfl (lv_at hl 1 rfl) ?_
      refine lv_bipush (v := 7) hx hb d_M_does_135 (by decide) ?_
      refine lv_icmp_ne (tgt := 181) hx hb d_M_does_137 (by decide) (fun c_137 => ?_) (fun c_137 => absurd c_137 (by decide))
      refine lv_iload_n hx hb d_M_does_181 rfl (lv_at hl 1 rfl) ?_
      refine lv_bipush (v := 8) hx hb d_M_does_182 (by decide) ?_
      refine lv_icmp_ne (tgt := 212) hx hb d_M_does_184 (by decide) (fun c_184 => ?_) (fun c_184 => absurd c_184 (by decide))
      exact ret _ _ _ _ _ d_M_does_212 ⟨rfl, by simp only [q_mp, q_do]; rw [q_dat_1, q_wr_in hjx (by omega), ← hone jx hjx, va_up_same o_array.2.2, va_up_same om.2.2]⟩ Y
  · subst h9
    have hl : lv_has ls 6 [(0, .ref mo), (1, .int (nI 4)), (2, .int x), (3, .int y), (4, .int z), (5, .int (nI ea))] := hl
    refine lv_iload_n hx hb d_M_does_0 rfl (lv_at hl 1 rfl) ?_
    refine lv_if_ne (tgt := 10) hx hb d_M_does_1 (by decide) (fun c_1 => ?_) (fun c_1 => absurd c_1 (by decide))
    refine lv_iload_n hx hb d_M_does_10 rfl (lv_at hl 1 rfl) ?_
    refine lv_iconst (v := 1) hx hb d_M_does_11 (by decide) ?_
    refine lv_icmp_ne (tgt := 26) hx hb d_M_does_12 (by decide) (fun c_12 => ?_) (fun c_12 => absurd c_12 (by decide))
    refine lv_iload_n hx hb d_M_does_26 rfl (lv_at hl 1 rfl) ?_
    refine lv_iconst (v := 2) hx hb d_M_does_27 (by decide) ?_
    refine lv_icmp_ne (tgt := 52) hx hb d_M_does_28 (by decide) (fun c_28 => ?_) (fun c_28 => absurd c_28 (by decide))
    refine lv_iload_n hx hb d_M_does_52 rfl (lv_at hl 1 rfl) ?_
    refine lv_iconst (v := 3) hx hb d_M_does_53 (by decide) ?_
    refine lv_icmp_ne (tgt := 83) hx hb d_M_does_54 (by decide) (fun c_54 => ?_) (fun c_54 => absurd c_54 (by decide))
    refine lv_iload_n hx hb d_M_does_83 rfl (lv_at hl 1 rfl) ?_
    refine lv_iconst (v := 4) hx hb d_M_does_84 (by decide) ?_
    refine lv_icmp_ne (tgt := 93) hx hb d_M_does_85 (by decide) (fun c_85 => absurd (by decide) c_85) (fun c_85 => ?_)
    refine lv_aload_n hx hb d_M_does_88 rfl (lv_at hl 0 rfl) ?_
    refine lv_iload_n hx hb d_M_does_89 rfl (lv_at hl 3 rfl) ?_
    refine fp_put X Y om rfl in_M to_M nm_M 18 (by decide) w619 rfl rfl rfl (Nat.le_of_ble_eq_true rfl) d_M_does_90 (fun H locs Y => ?_)
    have ne_21 : mo + 1 ≠ mo := (fp_o.nf o_width om (by simp))
    have ne_22 : mo + 2 ≠ mo := (fp_o.nf o_held om (by simp))
    have ne_23 : mo + 5 ≠ mo := (fp_o.nf o_array om (by simp))
    have ne_24 : mo + 12 ≠ mo := (fp_o.nf o_entry om (by simp))
    have Y : fp_H D b n A (va_up f mo (ob 8 [.int th, .int (nI kf), .ref (mo + 1), .ref (mo + 2), .int na, .ref (mo + 3), .ref (mo + 4), .ref (mo + 5), .int nt, .ref (mo + 6), .ref (mo + 7), .ref (mo + 8), .ref (mo + 9), .ref (mo + 10), .ref (mo + 11), .ref (mo + 12), .ref (mo + 13), .ref (mo + 14), .int y, .int dr])) s.heap H locs := Y
    have o_width : fp_o b n (va_up f mo (ob 8 [.int th, .int (nI kf), .ref (mo + 1), .ref (mo + 2), .int na, .ref (mo + 3), .ref (mo + 4), .ref (mo + 5), .int nt, .ref (mo + 6), .ref (mo + 7), .ref (mo + 8), .ref (mo + 9), .ref (mo + 10), .ref (mo + 11), .ref (mo + 12), .ref (mo + 13), .ref (mo + 14), .int y, .int dr])) (mo + 1) (aI g 16 zw) := fp_o.ne o_width ne_21
    have o_held : fp_o b n (va_up f mo (ob 8 [.int th, .int (nI kf), .ref (mo + 1), .ref (mo + 2), .int na, .ref (mo + 3), .ref (mo + 4), .ref (mo + 5), .int nt, .ref (mo + 6), .ref (mo + 7), .ref (mo + 8), .ref (mo + 9), .ref (mo + 10), .ref (mo + 11), .ref (mo + 12), .ref (mo + 13), .ref (mo + 14), .int y, .int dr])) (mo + 2) (aI g 16 zh) := fp_o.ne o_held ne_22
    have o_array : fp_o b n (va_up f mo (ob 8 [.int th, .int (nI kf), .ref (mo + 1), .ref (mo + 2), .int na, .ref (mo + 3), .ref (mo + 4), .ref (mo + 5), .int nt, .ref (mo + 6), .ref (mo + 7), .ref (mo + 8), .ref (mo + 9), .ref (mo + 10), .ref (mo + 11), .ref (mo + 12), .ref (mo + 13), .ref (mo + 14), .int y, .int dr])) (mo + 5) (aI g 64 za) := fp_o.ne o_array ne_23
    have o_entry : fp_o b n (va_up f mo (ob 8 [.int th, .int (nI kf), .ref (mo + 1), .ref (mo + 2), .int na, .ref (mo + 3), .ref (mo + 4), .ref (mo + 5), .int nt, .ref (mo + 6), .ref (mo + 7), .ref (mo + 8), .ref (mo + 9), .ref (mo + 10), .ref (mo + 11), .ref (mo + 12), .ref (mo + 13), .ref (mo + 14), .int y, .int dr])) (mo + 12) (aI g 1280 ze) := fp_o.ne o_entry ne_24
    have om : fp_o b n (va_up f mo (ob 8 [.int th, .int (nI kf), .ref (mo + 1), .ref (mo + 2), .int na, .ref (mo + 3), .ref (mo + 4), .ref (mo + 5), .int nt, .ref (mo + 6), .ref (mo + 7), .ref (mo + 8), .ref (mo + 9), .ref (mo + 10), .ref (mo + 11), .ref (mo + 12), .ref (mo + 13), .ref (mo + 14), .int y, .int dr])) mo (ob 8 [.int th, .int (nI kf), .ref (mo + 1), .ref (mo + 2), .int na, .ref (mo + 3), .ref (mo + 4), .ref (mo + 5), .int nt, .ref (mo + 6), .ref (mo + 7), .ref (mo + 8), .ref (mo + 9), .ref (mo + 10), .ref (mo + 11), .ref (mo + 12), .ref (mo + 13), .ref (mo + 14), .int y, .int dr]) := fp_o.up om
    refine lv_iload_n hx hb d_M_does_93 rfl (lv_at hl 1 rfl) ?_
    refine lv_iconst (v := 5) hx hb d_M_does_94 (by decide) ?_
    refine lv_icmp_ne (tgt := 123) hx hb d_M_does_95 (by decide) (fun c_95 => ?_) (fun c_95 => absurd c_95 (by decide))
    refine lv_iload_n hx hb d_M_does_123 rfl (lv_at hl 1 rfl) ?_
    refine lv_bipush (v := 6) hx hb d_M_does_124 (by decide) ?_
    refine lv_icmp_ne (tgt := 134) hx hb d_M_does_126 (by decide) (fun c_126 => ?_) (fun c_126 => absurd c_126 (by decide))
    refine lv_iload_n hx hb d_M_does_134 rfl (lv_at hl 1 rfl) ?_
    refine lv_bipush (v := 7) hx hb d_M_does_135 (by decide) ?_
    refine lv_icmp_ne (tgt := 181) hx hb d_M_does_137 (by decide) (fun c_137 => ?_) (fun c_137 => absurd c_137 (by decide))
    refine lv_iload_n hx hb d_M_does_181 rfl (lv_at hl 1 rfl) ?_
    refine lv_bipush (v := 8) hx hb d_M_does_182 (by decide) ?_
    refine lv_icmp_ne (tgt := 212) hx hb d_M_does_184 (by decide) (fun c_184 => ?_) (fun c_184 => absurd c_184 (by decide))
    exact ret _ _ _ _ _ d_M_does_212 ⟨rfl, by simp only [q_mp, q_do]; rw [va_up_same ohi.2.2, va_up_same oai.2.2]⟩ Y
  · subst h9
    have g2 : ¬ q_in y 2 = 0 := hops
    obtain ⟨jy, hjy, ey⟩ := q_in_of (k := 2) (by decide) g2
    subst ey
    rcases (show jy = 0 ∨ jy = 1 by omega) with h8 | h8
    · subst h8
      have hl : lv_has ls 6 [(0, .ref mo), (1, .int (nI 5)), (2, .int x), (3, .int (nI 0)), (4, .int z), (5, .int (nI ea))] := hl
      refine lv_iload_n hx hb d_M_does_0 rfl (lv_at hl 1 rfl) ?_
      refine lv_if_ne (tgt := 10) hx hb d_M_does_1 (by decide) (fun c_1 => ?_) (fun c_1 => absurd c_1 (by decide))
      refine lv_iload_n hx hb d_M_does_10 rfl (lv_at hl 1 rfl) ?_
      refine lv_iconst (v := 1) hx hb d_M_does_11 (by decide) ?_
      refine lv_icmp_ne (tgt := 26) hx hb d_M_does_12 (by decide) (fun c_12 => ?_) (fun c_12 => absurd c_12 (by decide))
      refine lv_iload_n hx hb d_M_does_26 rfl (lv_at hl 1 rfl) ?_
      refine lv_iconst (v := 2) hx hb d_M_does_27 (by decide) ?_
      refine lv_icmp_ne (tgt := 52) hx hb d_M_does_28 (by decide) (fun c_28 => ?_) (fun c_28 => absurd c_28 (by decide))
      refine lv_iload_n hx hb d_M_does_52 rfl (lv_at hl 1 rfl) ?_
      refine lv_iconst (v := 3) hx hb d_M_does_53 (by decide) ?_
      refine lv_icmp_ne (tgt := 83) hx hb d_M_does_54 (by decide) (fun c_54 => ?_) (fun c_54 => absurd c_54 (by decide))
      refine lv_iload_n hx hb d_M_does_83 rfl (lv_at hl 1 rfl) ?_
      refine lv_iconst (v := 4) hx hb d_M_does_84 (by decide) ?_
      refine lv_icmp_ne (tgt := 93) hx hb d_M_does_85 (by decide) (fun c_85 => ?_) (fun c_85 => absurd c_85 (by decide))
      refine lv_iload_n hx hb d_M_does_93 rfl (lv_at hl 1 rfl) ?_
      refine lv_iconst (v := 5) hx hb d_M_does_94 (by decide) ?_
      refine lv_icmp_ne (tgt := 123) hx hb d_M_does_95 (by decide) (fun c_95 => absurd (by decide) c_95) (fun c_95 => ?_)
      refine lv_aload_n hx hb d_M_does_98 rfl (lv_at hl 0 rfl) ?_
      refine lv_iload hx hb d_M_does_99 (lv_at hl 5 rfl) ?_
      refine lv_if_ge (tgt := 108) hx hb d_M_does_101 (by decide) (fun c_101 => ?_) (fun c_101 => absurd (nI_pos' (by omega)) c_101)
      refine lv_aload_n hx hb d_M_does_108 rfl (lv_at hl 0 rfl) ?_
      refine fp_get X Y om rfl in_M 15 (by decide) w616 rfl d_M_does_109 ?_
      refine lv_iload hx hb d_M_does_112 (lv_at hl 5 rfl) ?_
      refine lv_bipush (v := 6) hx hb d_M_does_114 (by decide) ?_
      refine lv_iadd hx hb d_M_does_116 ?_
      refine lv_iload_n hx hb d_M_does_117 rfl (lv_at hl 3 rfl) ?_
      refine lv_iadd hx hb d_M_does_118 ?_
      refine fp_ild X Y o_entry (ea + 6) (q_at6 ea 0) (by omega) (by decide) d_M_does_119 ?_
      refine fp_put X Y om rfl in_M to_M nm_M 18 (by decide) w619 rfl rfl rfl (Nat.le_of_ble_eq_true rfl) d_M_does_120 (fun H locs Y => ?_)
      have ne_25 : mo + 1 ≠ mo := (fp_o.nf o_width om (by simp))
      have ne_26 : mo + 2 ≠ mo := (fp_o.nf o_held om (by simp))
      have ne_27 : mo + 5 ≠ mo := (fp_o.nf o_array om (by simp))
      have ne_28 : mo + 12 ≠ mo := (fp_o.nf o_entry om (by simp))
      have Y : fp_H D b n A (va_up f mo (ob 8 [.int th, .int (nI kf), .ref (mo + 1), .ref (mo + 2), .int na, .ref (mo + 3), .ref (mo + 4), .ref (mo + 5), .int nt, .ref (mo + 6), .ref (mo + 7), .ref (mo + 8), .ref (mo + 9), .ref (mo + 10), .ref (mo + 11), .ref (mo + 12), .ref (mo + 13), .ref (mo + 14), .int (ze (ea + 6)), .int dr])) s.heap H locs := Y
      have o_width : fp_o b n (va_up f mo (ob 8 [.int th, .int (nI kf), .ref (mo + 1), .ref (mo + 2), .int na, .ref (mo + 3), .ref (mo + 4), .ref (mo + 5), .int nt, .ref (mo + 6), .ref (mo + 7), .ref (mo + 8), .ref (mo + 9), .ref (mo + 10), .ref (mo + 11), .ref (mo + 12), .ref (mo + 13), .ref (mo + 14), .int (ze (ea + 6)), .int dr])) (mo + 1) (aI g 16 zw) := fp_o.ne o_width ne_25
      have o_held : fp_o b n (va_up f mo (ob 8 [.int th, .int (nI kf), .ref (mo + 1), .ref (mo + 2), .int na, .ref (mo + 3), .ref (mo + 4), .ref (mo + 5), .int nt, .ref (mo + 6), .ref (mo + 7), .ref (mo + 8), .ref (mo + 9), .ref (mo + 10), .ref (mo + 11), .ref (mo + 12), .ref (mo + 13), .ref (mo + 14), .int (ze (ea + 6)), .int dr])) (mo + 2) (aI g 16 zh) := fp_o.ne o_held ne_26
      have o_array : fp_o b n (va_up f mo (ob 8 [.int th, .int (nI kf), .ref (mo + 1), .ref (mo + 2), .int na, .ref (mo + 3), .ref (mo + 4), .ref (mo + 5), .int nt, .ref (mo + 6), .ref (mo + 7), .ref (mo + 8), .ref (mo + 9), .ref (mo + 10), .ref (mo + 11), .ref (mo + 12), .ref (mo + 13), .ref (mo + 14), .int (ze (ea + 6)), .int dr])) (mo + 5) (aI g 64 za) := fp_o.ne o_array ne_27
      have o_entry : fp_o b n (va_up f mo (ob 8 [.int th, .int (nI kf), .ref (mo + 1), .ref (mo + 2), .int na, .ref (mo + 3), .ref (mo + 4), .ref (mo + 5), .int nt, .ref (mo + 6), .ref (mo + 7), .ref (mo + 8), .ref (mo + 9), .ref (mo + 10), .ref (mo + 11), .ref (mo + 12), .ref (mo + 13), .ref (mo + 14), .int (ze (ea + 6)), .int dr])) (mo + 12) (aI g 1280 ze) := fp_o.ne o_entry ne_28
      have om : fp_o b n (va_up f mo (ob 8 [.int th, .int (nI kf), .ref (mo + 1), .ref (mo + 2), .int na, .ref (mo + 3), .ref (mo + 4), .ref (mo + 5), .int nt, .ref (mo + 6), .ref (mo + 7), .ref (mo + 8), .ref (mo + 9), .ref (mo + 10), .ref (mo + 11), .ref (mo + 12), .ref (mo + 13), .ref (mo + 14), .int (ze (ea + 6)), .int dr])) mo (ob 8 [.int th, .int (nI kf), .ref (mo + 1), .ref (mo + 2), .int na, .ref (mo + 3), .ref (mo + 4), .ref (mo + 5), .int nt, .ref (mo + 6), .ref (mo + 7), .ref (mo + 8), .ref (mo + 9), .ref (mo + 10), .ref (mo + 11), .ref (mo + 12), .ref (mo + 13), .ref (mo + 14), .int (ze (ea + 6)), .int dr]) := fp_o.up om
      refine lv_iload_n hx hb d_M_does_123 rfl (lv_at hl 1 rfl) ?_
      refine lv_bipush (v := 6) hx hb d_M_does_124 (by decide) ?_
      refine lv_icmp_ne (tgt := 134) hx hb d_M_does_126 (by decide) (fun c_126 => ?_) (fun c_126 => absurd c_126 (by decide))
      refine lv_iload_n hx hb d_M_does_134 rfl (lv_at hl 1 rfl) ?_
      refine lv_bipush (v := 7) hx hb d_M_does_135 (by decide) ?_
      refine lv_icmp_ne (tgt := 181) hx hb d_M_does_137 (by decide) (fun c_137 => ?_) (fun c_137 => absurd c_137 (by decide))
      refine lv_iload_n hx hb d_M_does_181 rfl (lv_at hl 1 rfl) ?_
      refine lv_bipush (v := 8) hx hb d_M_does_182 (by decide) ?_
      refine lv_icmp_ne (tgt := 212) hx hb d_M_does_184 (by decide) (fun c_184 => ?_) (fun c_184 => absurd c_184 (by decide))
      exact ret _ _ _ _ _ d_M_does_212 ⟨rfl, by simp only [q_mp, q_do]; rw [q_dat_0, va_up_same ohi.2.2, va_up_same oai.2.2]⟩ Y
    · subst h8
      have hl : lv_has ls 6 [(0, .ref mo), (1, .int (nI 5)), (2, .int x), (3, .int (nI 1)), (4, .int z), (5, .int (nI ea))] := hl
      refine lv_iload_n hx hb d_M_does_0 rfl (lv_at hl 1 rfl) ?_
      refine lv_if_ne (tgt := 10) hx hb d_M_does_1 (by decide) (fun c_1 => ?_) (fun c_1 => absurd c_1 (by decide))
      refine lv_iload_n hx hb d_M_does_10 rfl (lv_at hl 1 rfl) ?_
      refine lv_iconst (v := 1) hx hb d_M_does_11 (by decide) ?_
      refine lv_icmp_ne (tgt := 26) hx hb d_M_does_12 (by decide) (fun c_12 => ?_) (fun c_12 => absurd c_12 (by decide))
      refine lv_iload_n hx hb d_M_does_26 rfl (lv_at hl 1 rfl) ?_
      refine lv_iconst (v := 2) hx hb d_M_does_27 (by decide) ?_
      refine lv_icmp_ne (tgt := 52) hx hb d_M_does_28 (by decide) (fun c_28 => ?_) (fun c_28 => absurd c_28 (by decide))
      refine lv_iload_n hx hb d_M_does_52 rfl (lv_at hl 1 rfl) ?_
      refine lv_iconst (v := 3) hx hb d_M_does_53 (by decide) ?_
      refine lv_icmp_ne (tgt := 83) hx hb d_M_does_54 (by decide) (fun c_54 => ?_) (fun c_54 => absurd c_54 (by decide))
      refine lv_iload_n hx hb d_M_does_83 rfl (lv_at hl 1 rfl) ?_
      refine lv_iconst (v := 4) hx hb d_M_does_84 (by decide) ?_
      refine lv_icmp_ne (tgt := 93) hx hb d_M_does_85 (by decide) (fun c_85 => ?_) (fun c_85 => absurd c_85 (by decide))
      refine lv_iload_n hx hb d_M_does_93 rfl (lv_at hl 1 rfl) ?_
      refine lv_iconst (v := 5) hx hb d_M_does_94 (by decide) ?_
      refine lv_icmp_ne (tgt := 123) hx hb d_M_does_95 (by decide) (fun c_95 => absurd (by decide) c_95) (fun c_95 => ?_)
      refine lv_aload_n hx hb d_M_does_98 rfl (lv_at hl 0 rfl) ?_
      refine lv_iload hx hb d_M_does_99 (lv_at hl 5 rfl) ?_
      refine lv_if_ge (tgt := 108) hx hb d_M_does_101 (by decide) (fun c_101 => ?_) (fun c_101 => absurd (nI_pos' (by omega)) c_101)
      refine lv_aload_n hx hb d_M_does_108 rfl (lv_at hl 0 rfl) ?_
      refine fp_get X Y om rfl in_M 15 (by decide) w616 rfl d_M_does_109 ?_
      refine lv_iload hx hb d_M_does_112 (lv_at hl 5 rfl) ?_
      refine lv_bipush (v := 6) hx hb d_M_does_114 (by decide) ?_
      refine lv_iadd hx hb d_M_does_116 ?_
      refine lv_iload_n hx hb d_M_does_117 rfl (lv_at hl 3 rfl) ?_
      refine lv_iadd hx hb d_M_does_118 ?_
      refine fp_ild X Y o_entry (ea + 7) (q_at6 ea 1) (by omega) (by decide) d_M_does_119 ?_
      refine fp_put X Y om rfl in_M to_M nm_M 18 (by decide) w619 rfl rfl rfl (Nat.le_of_ble_eq_true rfl) d_M_does_120 (fun H locs Y => ?_)
      have ne_29 : mo + 1 ≠ mo := (fp_o.nf o_width om (by simp))
      have ne_30 : mo + 2 ≠ mo := (fp_o.nf o_held om (by simp))
      have ne_31 : mo + 5 ≠ mo := (fp_o.nf o_array om (by simp))
      have ne_32 : mo + 12 ≠ mo := (fp_o.nf o_entry om (by simp))
      have Y : fp_H D b n A (va_up f mo (ob 8 [.int th, .int (nI kf), .ref (mo + 1), .ref (mo + 2), .int na, .ref (mo + 3), .ref (mo + 4), .ref (mo + 5), .int nt, .ref (mo + 6), .ref (mo + 7), .ref (mo + 8), .ref (mo + 9), .ref (mo + 10), .ref (mo + 11), .ref (mo + 12), .ref (mo + 13), .ref (mo + 14), .int (ze (ea + 7)), .int dr])) s.heap H locs := Y
      have o_width : fp_o b n (va_up f mo (ob 8 [.int th, .int (nI kf), .ref (mo + 1), .ref (mo + 2), .int na, .ref (mo + 3), .ref (mo + 4), .ref (mo + 5), .int nt, .ref (mo + 6), .ref (mo + 7), .ref (mo + 8), .ref (mo + 9), .ref (mo + 10), .ref (mo + 11), .ref (mo + 12), .ref (mo + 13), .ref (mo + 14), .int (ze (ea + 7)), .int dr])) (mo + 1) (aI g 16 zw) := fp_o.ne o_width ne_29
      have o_held : fp_o b n (va_up f mo (ob 8 [.int th, .int (nI kf), .ref (mo + 1), .ref (mo + 2), .int na, .ref (mo + 3), .ref (mo + 4), .ref (mo + 5), .int nt, .ref (mo + 6), .ref (mo + 7), .ref (mo + 8), .ref (mo + 9), .ref (mo + 10), .ref (mo + 11), .ref (mo + 12), .ref (mo + 13), .ref (mo + 14), .int (ze (ea + 7)), .int dr])) (mo + 2) (aI g 16 zh) := fp_o.ne o_held ne_30
      have o_array : fp_o b n (va_up f mo (ob 8 [.int th, .int (nI kf), .ref (mo + 1), .ref (mo + 2), .int na, .ref (mo + 3), .ref (mo + 4), .ref (mo + 5), .int nt, .ref (mo + 6), .ref (mo + 7), .ref (mo + 8), .ref (mo + 9), .ref (mo + 10), .ref (mo + 11), .ref (mo + 12), .ref (mo + 13), .ref (mo + 14), .int (ze (ea + 7)), .int dr])) (mo + 5) (aI g 64 za) := fp_o.ne o_array ne_31
      have o_entry : fp_o b n (va_up f mo (ob 8 [.int th, .int (nI kf), .ref (mo + 1), .ref (mo + 2), .int na, .ref (mo + 3), .ref (mo + 4), .ref (mo + 5), .int nt, .ref (mo + 6), .ref (mo + 7), .ref (mo + 8), .ref (mo + 9), .ref (mo + 10), .ref (mo + 11), .ref (mo + 12), .ref (mo + 13), .ref (mo + 14), .int (ze (ea + 7)), .int dr])) (mo + 12) (aI g 1280 ze) := fp_o.ne o_entry ne_32
      have om : fp_o b n (va_up f mo (ob 8 [.int th, .int (nI kf), .ref (mo + 1), .ref (mo + 2), .int na, .ref (mo + 3), .ref (mo + 4), .ref (mo + 5), .int nt, .ref (mo + 6), .ref (mo + 7), .ref (mo + 8), .ref (mo + 9), .ref (mo + 10), .ref (mo + 11), .ref (mo + 12), .ref (mo + 13), .ref (mo + 14), .int (ze (ea + 7)), .int dr])) mo (ob 8 [.int th, .int (nI kf), .ref (mo + 1), .ref (mo + 2), .int na, .ref (mo + 3), .ref (mo + 4), .ref (mo + 5), .int nt, .ref (mo + 6), .ref (mo + 7), .ref (mo + 8), .ref (mo + 9), .ref (mo + 10), .ref (mo + 11), .ref (mo + 12), .ref (mo + 13), .ref (mo + 14), .int (ze (ea + 7)), .int dr]) := fp_o.up om
      refine lv_iload_n hx hb d_M_does_123 rfl (lv_at hl 1 rfl) ?_
      refine lv_bipush (v := 6) hx hb d_M_does_124 (by decide) ?_
      refine lv_icmp_ne (tgt := 134) hx hb d_M_does_126 (by decide) (fun c_126 => ?_) (fun c_126 => absurd c_126 (by decide))
      refine lv_iload_n hx hb d_M_does_134 rfl (lv_at hl 1 rfl) ?_
      refine lv_bipush (v := 7) hx hb d_M_does_135 (by decide) ?_
      refine lv_icmp_ne (tgt := 181) hx hb d_M_does_137 (by decide) (fun c_137 => ?_) (fun c_137 => absurd c_137 (by decide))
      refine lv_iload_n hx hb d_M_does_181 rfl (lv_at hl 1 rfl) ?_
      refine lv_bipush (v := 8) hx hb d_M_does_182 (by decide) ?_
      refine lv_icmp_ne (tgt := 212) hx hb d_M_does_184 (by decide) (fun c_184 => ?_) (fun c_184 => absurd c_184 (by decide))
      exact ret _ _ _ _ _ d_M_does_212 ⟨rfl, by simp only [q_mp, q_do]; rw [q_dat_1, va_up_same ohi.2.2, va_up_same oai.2.2]⟩ Y
  · subst h9
    have hl : lv_has ls 6 [(0, .ref mo), (1, .int (nI 6)), (2, .int x), (3, .int y), (4, .int z), (5, .int (nI ea))] := hl
    refine lv_iload_n hx hb d_M_does_0 rfl (lv_at hl 1 rfl) ?_
    refine lv_if_ne (tgt := 10) hx hb d_M_does_1 (by decide) (fun c_1 => ?_) (fun c_1 => absurd c_1 (by decide))
    refine lv_iload_n hx hb d_M_does_10 rfl (lv_at hl 1 rfl) ?_
    refine lv_iconst (v := 1) hx hb d_M_does_11 (by decide) ?_
    refine lv_icmp_ne (tgt := 26) hx hb d_M_does_12 (by decide) (fun c_12 => ?_) (fun c_12 => absurd c_12 (by decide))
    refine lv_iload_n hx hb d_M_does_26 rfl (lv_at hl 1 rfl) ?_
    refine lv_iconst (v := 2) hx hb d_M_does_27 (by decide) ?_
    refine lv_icmp_ne (tgt := 52) hx hb d_M_does_28 (by decide) (fun c_28 => ?_) (fun c_28 => absurd c_28 (by decide))
    refine lv_iload_n hx hb d_M_does_52 rfl (lv_at hl 1 rfl) ?_
    refine lv_iconst (v := 3) hx hb d_M_does_53 (by decide) ?_
    refine lv_icmp_ne (tgt := 83) hx hb d_M_does_54 (by decide) (fun c_54 => ?_) (fun c_54 => absurd c_54 (by decide))
    refine lv_iload_n hx hb d_M_does_83 rfl (lv_at hl 1 rfl) ?_
    refine lv_iconst (v := 4) hx hb d_M_does_84 (by decide) ?_
    refine lv_icmp_ne (tgt := 93) hx hb d_M_does_85 (by decide) (fun c_85 => ?_) (fun c_85 => absurd c_85 (by decide))
    refine lv_iload_n hx hb d_M_does_93 rfl (lv_at hl 1 rfl) ?_
    refine lv_iconst (v := 5) hx hb d_M_does_94 (by decide) ?_
    refine lv_icmp_ne (tgt := 123) hx hb d_M_does_95 (by decide) (fun c_95 => ?_) (fun c_95 => absurd c_95 (by decide))
    refine lv_iload_n hx hb d_M_does_123 rfl (lv_at hl 1 rfl) ?_
    refine lv_bipush (v := 6) hx hb d_M_does_124 (by decide) ?_
    refine lv_icmp_ne (tgt := 134) hx hb d_M_does_126 (by decide) (fun c_126 => absurd (by decide) c_126) (fun c_126 => ?_)
    refine lv_aload_n hx hb d_M_does_129 rfl (lv_at hl 0 rfl) ?_
    refine lv_iconst (v := 1) hx hb d_M_does_130 (by decide) ?_
    refine fp_put X Y om rfl in_M to_M nm_M 19 (by decide) w620 rfl rfl rfl (Nat.le_of_ble_eq_true rfl) d_M_does_131 (fun H locs Y => ?_)
    have ne_33 : mo + 1 ≠ mo := (fp_o.nf o_width om (by simp))
    have ne_34 : mo + 2 ≠ mo := (fp_o.nf o_held om (by simp))
    have ne_35 : mo + 5 ≠ mo := (fp_o.nf o_array om (by simp))
    have ne_36 : mo + 12 ≠ mo := (fp_o.nf o_entry om (by simp))
    have Y : fp_H D b n A (va_up f mo (ob 8 [.int th, .int (nI kf), .ref (mo + 1), .ref (mo + 2), .int na, .ref (mo + 3), .ref (mo + 4), .ref (mo + 5), .int nt, .ref (mo + 6), .ref (mo + 7), .ref (mo + 8), .ref (mo + 9), .ref (mo + 10), .ref (mo + 11), .ref (mo + 12), .ref (mo + 13), .ref (mo + 14), .int po, .int 1])) s.heap H locs := Y
    have o_width : fp_o b n (va_up f mo (ob 8 [.int th, .int (nI kf), .ref (mo + 1), .ref (mo + 2), .int na, .ref (mo + 3), .ref (mo + 4), .ref (mo + 5), .int nt, .ref (mo + 6), .ref (mo + 7), .ref (mo + 8), .ref (mo + 9), .ref (mo + 10), .ref (mo + 11), .ref (mo + 12), .ref (mo + 13), .ref (mo + 14), .int po, .int 1])) (mo + 1) (aI g 16 zw) := fp_o.ne o_width ne_33
    have o_held : fp_o b n (va_up f mo (ob 8 [.int th, .int (nI kf), .ref (mo + 1), .ref (mo + 2), .int na, .ref (mo + 3), .ref (mo + 4), .ref (mo + 5), .int nt, .ref (mo + 6), .ref (mo + 7), .ref (mo + 8), .ref (mo + 9), .ref (mo + 10), .ref (mo + 11), .ref (mo + 12), .ref (mo + 13), .ref (mo + 14), .int po, .int 1])) (mo + 2) (aI g 16 zh) := fp_o.ne o_held ne_34
    have o_array : fp_o b n (va_up f mo (ob 8 [.int th, .int (nI kf), .ref (mo + 1), .ref (mo + 2), .int na, .ref (mo + 3), .ref (mo + 4), .ref (mo + 5), .int nt, .ref (mo + 6), .ref (mo + 7), .ref (mo + 8), .ref (mo + 9), .ref (mo + 10), .ref (mo + 11), .ref (mo + 12), .ref (mo + 13), .ref (mo + 14), .int po, .int 1])) (mo + 5) (aI g 64 za) := fp_o.ne o_array ne_35
    have o_entry : fp_o b n (va_up f mo (ob 8 [.int th, .int (nI kf), .ref (mo + 1), .ref (mo + 2), .int na, .ref (mo + 3), .ref (mo + 4), .ref (mo + 5), .int nt, .ref (mo + 6), .ref (mo + 7), .ref (mo + 8), .ref (mo + 9), .ref (mo + 10), .ref (mo + 11), .ref (mo + 12), .ref (mo + 13), .ref (mo + 14), .int po, .int 1])) (mo + 12) (aI g 1280 ze) := fp_o.ne o_entry ne_36
    have om : fp_o b n (va_up f mo (ob 8 [.int th, .int (nI kf), .ref (mo + 1), .ref (mo + 2), .int na, .ref (mo + 3), .ref (mo + 4), .ref (mo + 5), .int nt, .ref (mo + 6), .ref (mo + 7), .ref (mo + 8), .ref (mo + 9), .ref (mo + 10), .ref (mo + 11), .ref (mo + 12), .ref (mo + 13), .ref (mo + 14), .int po, .int 1])) mo (ob 8 [.int th, .int (nI kf), .ref (mo + 1), .ref (mo + 2), .int na, .ref (mo + 3), .ref (mo + 4), .ref (mo + 5), .int nt, .ref (mo + 6), .ref (mo + 7), .ref (mo + 8), .ref (mo + 9), .ref (mo + 10), .ref (mo + 11), .ref (mo + 12), .ref (mo + 13), .ref (mo + 14), .int po, .int 1]) := fp_o.up om
    refine lv_iload_n hx hb d_M_does_134 rfl (lv_at hl 1 rfl) ?_
    refine lv_bipush (v := 7) hx hb d_M_does_135 (by decide) ?_
    refine lv_icmp_ne (tgt := 181) hx hb d_M_does_137 (by decide) (fun c_137 => ?_) (fun c_137 => absurd c_137 (by decide))
    refine lv_iload_n hx hb d_M_does_181 rfl (lv_at hl 1 rfl) ?_
    refine lv_bipush (v := 8) hx hb d_M_does_182 (by decide) ?_
    refine lv_icmp_ne (tgt := 212) hx hb d_M_does_184 (by decide) (fun c_184 => ?_) (fun c_184 => absurd c_184 (by decide))
    exact ret _ _ _ _ _ d_M_does_212 ⟨rfl, by simp only [q_mp, q_do]; rw [va_up_same ohi.2.2, va_up_same oai.2.2]⟩ Y
  · subst h9
    obtain ⟨g1, g2⟩ := q_ite2 hops
    obtain ⟨jx, hjx, ex⟩ := q_in_of (k := 4) (by decide) g1
    subst ex
    obtain ⟨jy, hjy, ey⟩ := q_in_of (by omega) g2
    subst ey
    obtain ⟨r9, hr9, er1, er2⟩ := q_fm_15 (zh jy)
    have hl : lv_has ls 6 [(0, .ref mo), (1, .int (nI 7)), (2, .int (nI jx)), (3, .int (nI jy)), (4, .int z), (5, .int (nI ea))] := hl
    refine lv_iload_n hx hb d_M_does_0 rfl (lv_at hl 1 rfl) ?_
    refine lv_if_ne (tgt := 10) hx hb d_M_does_1 (by decide) (fun c_1 => ?_) (fun c_1 => absurd c_1 (by decide))
    refine lv_iload_n hx hb d_M_does_10 rfl (lv_at hl 1 rfl) ?_
    refine lv_iconst (v := 1) hx hb d_M_does_11 (by decide) ?_
    refine lv_icmp_ne (tgt := 26) hx hb d_M_does_12 (by decide) (fun c_12 => ?_) (fun c_12 => absurd c_12 (by decide))
    refine lv_iload_n hx hb d_M_does_26 rfl (lv_at hl 1 rfl) ?_
    refine lv_iconst (v := 2) hx hb d_M_does_27 (by decide) ?_
    refine lv_icmp_ne (tgt := 52) hx hb d_M_does_28 (by decide) (fun c_28 => ?_) (fun c_28 => absurd c_28 (by decide))
    refine lv_iload_n hx hb d_M_does_52 rfl (lv_at hl 1 rfl) ?_
    refine lv_iconst (v := 3) hx hb d_M_does_53 (by decide) ?_
    refine lv_icmp_ne (tgt := 83) hx hb d_M_does_54 (by decide) (fun c_54 => ?_) (fun c_54 => absurd c_54 (by decide))
    refine lv_iload_n hx hb d_M_does_83 rfl (lv_at hl 1 rfl) ?_
    refine lv_iconst (v := 4) hx hb d_M_does_84 (by decide) ?_
    refine lv_icmp_ne (tgt := 93) hx hb d_M_does_85 (by decide) (fun c_85 => ?_) (fun c_85 => absurd c_85 (by decide))
    refine lv_iload_n hx hb d_M_does_93 rfl (lv_at hl 1 rfl) ?_
    refine lv_iconst (v := 5) hx hb d_M_does_94 (by decide) ?_
    refine lv_icmp_ne (tgt := 123) hx hb d_M_does_95 (by decide) (fun c_95 => ?_) (fun c_95 => absurd c_95 (by decide))
    refine lv_iload_n hx hb d_M_does_123 rfl (lv_at hl 1 rfl) ?_
    refine lv_bipush (v := 6) hx hb d_M_does_124 (by decide) ?_
    refine lv_icmp_ne (tgt := 134) hx hb d_M_does_126 (by decide) (fun c_126 => ?_) (fun c_126 => absurd c_126 (by decide))
    refine lv_iload_n hx hb d_M_does_134 rfl (lv_at hl 1 rfl) ?_
    refine lv_bipush (v := 7) hx hb d_M_does_135 (by decide) ?_
    refine lv_icmp_ne (tgt := 181) hx hb d_M_does_137 (by decide) (fun c_137 => absurd (by decide) c_137) (fun c_137 => ?_)
    refine lv_aload_n hx hb d_M_does_140 rfl (lv_at hl 0 rfl) ?_
    refine fp_get X Y om rfl in_M 7 (by decide) w608 rfl d_M_does_141 ?_
    refine lv_bipush (v := 16) hx hb d_M_does_144 (by decide) ?_
    refine lv_iload_n hx hb d_M_does_146 rfl (lv_at hl 2 rfl) ?_
    refine lv_imul hx hb d_M_does_147 ?_
    refine lv_aload_n hx hb d_M_does_148 rfl (lv_at hl 0 rfl) ?_
    refine fp_get X Y om rfl in_M 3 (by decide) w604 rfl d_M_does_149 ?_
    refine lv_iload_n hx hb d_M_does_152 rfl (lv_at hl 3 rfl) ?_
    refine fp_ild X Y o_held jy rfl (by omega) (by decide) d_M_does_153 ?_
    refine lv_bipush (v := 15) hx hb d_M_does_154 (by decide) ?_
    refine lv_iand hx hb d_M_does_156 ?_
    rw [er1]
    refine lv_iadd hx hb d_M_does_157 ?_
    refine lv_aload_n hx hb d_M_does_158 rfl (lv_at hl 0 rfl) ?_
    refine fp_get X Y om rfl in_M 7 (by decide) w608 rfl d_M_does_159 ?_
    refine lv_bipush (v := 16) hx hb d_M_does_162 (by decide) ?_
    refine lv_iload_n hx hb d_M_does_164 rfl (lv_at hl 2 rfl) ?_
    refine lv_imul hx hb d_M_does_165 ?_
    refine lv_aload_n hx hb d_M_does_166 rfl (lv_at hl 0 rfl) ?_
    refine fp_get X Y om rfl in_M 3 (by decide) w604 rfl d_M_does_167 ?_
    refine lv_iload_n hx hb d_M_does_170 rfl (lv_at hl 3 rfl) ?_
    refine fp_ild X Y o_held jy rfl (by omega) (by decide) d_M_does_171 ?_
    refine lv_bipush (v := 15) hx hb d_M_does_172 (by decide) ?_
    refine lv_iand hx hb d_M_does_174 ?_
    rw [er1]
    refine lv_iadd hx hb d_M_does_175 ?_
    refine fp_ild X Y o_array (16 * jx + r9) (by rw [show (16 : Int32) = nI 16 from rfl, pk_mul, nI_add]) (by omega) (by decide) d_M_does_176 ?_
    refine lv_iload hx hb d_M_does_177 (lv_at hl 4 rfl) ?_
    refine lv_iadd hx hb d_M_does_179 ?_
    refine fp_ist X Y o_array (16 * jx + r9) (by rw [show (16 : Int32) = nI 16 from rfl, pk_mul, nI_add]) (by omega) (by decide) d_M_does_180 (fun H locs Y => ?_)
    have ne_37 : mo ≠ mo + 5 := (fp_o.nf om o_array (by simp))
    have ne_38 : mo + 1 ≠ mo + 5 := (by omega)
    have ne_39 : mo + 2 ≠ mo + 5 := (by omega)
    have ne_40 : mo + 12 ≠ mo + 5 := (by omega)
    have Y : fp_H D b n A (va_up f (mo + 5) (aI g 64 (upd za (16 * jx + r9) ((za (16 * jx + r9)) + z)))) s.heap H locs := Y
    have om : fp_o b n (va_up f (mo + 5) (aI g 64 (upd za (16 * jx + r9) ((za (16 * jx + r9)) + z)))) mo (ob 8 [.int th, .int (nI kf), .ref (mo + 1), .ref (mo + 2), .int na, .ref (mo + 3), .ref (mo + 4), .ref (mo + 5), .int nt, .ref (mo + 6), .ref (mo + 7), .ref (mo + 8), .ref (mo + 9), .ref (mo + 10), .ref (mo + 11), .ref (mo + 12), .ref (mo + 13), .ref (mo + 14), .int po, .int dr]) := fp_o.ne om ne_37
    have o_width : fp_o b n (va_up f (mo + 5) (aI g 64 (upd za (16 * jx + r9) ((za (16 * jx + r9)) + z)))) (mo + 1) (aI g 16 zw) := fp_o.ne o_width ne_38
    have o_held : fp_o b n (va_up f (mo + 5) (aI g 64 (upd za (16 * jx + r9) ((za (16 * jx + r9)) + z)))) (mo + 2) (aI g 16 zh) := fp_o.ne o_held ne_39
    have o_entry : fp_o b n (va_up f (mo + 5) (aI g 64 (upd za (16 * jx + r9) ((za (16 * jx + r9)) + z)))) (mo + 12) (aI g 1280 ze) := fp_o.ne o_entry ne_40
    have o_array : fp_o b n (va_up f (mo + 5) (aI g 64 (upd za (16 * jx + r9) ((za (16 * jx + r9)) + z)))) (mo + 5) (aI g 64 (upd za (16 * jx + r9) ((za (16 * jx + r9)) + z))) := fp_o.up o_array
    refine lv_iload_n hx hb d_M_does_181 rfl (lv_at hl 1 rfl) ?_
    refine lv_bipush (v := 8) hx hb d_M_does_182 (by decide) ?_
    refine lv_icmp_ne (tgt := 212) hx hb d_M_does_184 (by decide) (fun c_184 => ?_) (fun c_184 => absurd c_184 (by decide))
    exact ret _ _ _ _ _ d_M_does_212 ⟨rfl, by simp only [q_mp, q_do]; rw [q_at_in hjy (by omega), er2, q_cg_in hjx hr9, va_up_same ohi.2.2, va_up_same om.2.2]⟩ Y
  · subst h9
    obtain ⟨g1, g2, g3⟩ := q_ite3 hops
    obtain ⟨jx, hjx, ex⟩ := q_in_of (by omega) g1
    subst ex
    obtain ⟨jy, hjy, ey⟩ := q_in_of (by omega) g2
    subst ey
    obtain ⟨jz, hjz, ez⟩ := q_in_of (k := 4) (by decide) g3
    subst ez
    obtain ⟨r9, hr9, er1, er2⟩ := q_fm_15 (zh jy)
    have hl : lv_has ls 6 [(0, .ref mo), (1, .int (nI 8)), (2, .int (nI jx)), (3, .int (nI jy)), (4, .int (nI jz)), (5, .int (nI ea))] := hl
    refine lv_iload_n hx hb d_M_does_0 rfl (lv_at hl 1 rfl) ?_
    refine lv_if_ne (tgt := 10) hx hb d_M_does_1 (by decide) (fun c_1 => ?_) (fun c_1 => absurd c_1 (by decide))
    refine lv_iload_n hx hb d_M_does_10 rfl (lv_at hl 1 rfl) ?_
    refine lv_iconst (v := 1) hx hb d_M_does_11 (by decide) ?_
    refine lv_icmp_ne (tgt := 26) hx hb d_M_does_12 (by decide) (fun c_12 => ?_) (fun c_12 => absurd c_12 (by decide))
    refine lv_iload_n hx hb d_M_does_26 rfl (lv_at hl 1 rfl) ?_
    refine lv_iconst (v := 2) hx hb d_M_does_27 (by decide) ?_
    refine lv_icmp_ne (tgt := 52) hx hb d_M_does_28 (by decide) (fun c_28 => ?_) (fun c_28 => absurd c_28 (by decide))
    refine lv_iload_n hx hb d_M_does_52 rfl (lv_at hl 1 rfl) ?_
    refine lv_iconst (v := 3) hx hb d_M_does_53 (by decide) ?_
    refine lv_icmp_ne (tgt := 83) hx hb d_M_does_54 (by decide) (fun c_54 => ?_) (fun c_54 => absurd c_54 (by decide))
    refine lv_iload_n hx hb d_M_does_83 rfl (lv_at hl 1 rfl) ?_
    refine lv_iconst (v := 4) hx hb d_M_does_84 (by decide) ?_
    refine lv_icmp_ne (tgt := 93) hx hb d_M_does_85 (by decide) (fun c_85 => ?_) (fun c_85 => absurd c_85 (by decide))
    refine lv_iload_n hx hb d_M_does_93 rfl (lv_at hl 1 rfl) ?_
    refine lv_iconst (v := 5) hx hb d_M_does_94 (by decide) ?_
    refine lv_icmp_ne (tgt := 123) hx hb d_M_does_95 (by decide) (fun c_95 => ?_) (fun c_95 => absurd c_95 (by decide))
    refine lv_iload_n hx hb d_M_does_123 rfl (lv_at hl 1 rfl) ?_
    refine lv_bipush (v := 6) hx hb d_M_does_124 (by decide) ?_
    refine lv_icmp_ne (tgt := 134) hx hb d_M_does_126 (by decide) (fun c_126 => ?_) (fun c_126 => absurd c_126 (by decide))
    refine lv_iload_n hx hb d_M_does_134 rfl (lv_at hl 1 rfl) ?_
    refine lv_bipush (v := 7) hx hb d_M_does_135 (by decide) ?_
    refine lv_icmp_ne (tgt := 181) hx hb d_M_does_137 (by decide) (fun c_137 => ?_) (fun c_137 => absurd c_137 (by decide))
    refine lv_iload_n hx hb d_M_does_181 rfl (lv_at hl 1 rfl) ?_
    refine lv_bipush (v := 8) hx hb d_M_does_182 (by decide) ?_
    refine lv_icmp_ne (tgt := 212) hx hb d_M_does_184 (by decide) (fun c_184 => absurd (by decide) c_184) (fun c_184 => ?_)
    refine lv_aload_n hx hb d_M_does_187 rfl (lv_at hl 0 rfl) ?_
    refine lv_iload_n hx hb d_M_does_188 rfl (lv_at hl 2 rfl) ?_
    refine lv_aload_n hx hb d_M_does_189 rfl (lv_at hl 0 rfl) ?_
    refine fp_get X Y om rfl in_M 7 (by decide) w608 rfl d_M_does_190 ?_
    refine lv_bipush (v := 16) hx hb d_M_does_193 (by decide) ?_
    refine lv_iload hx hb d_M_does_195 (lv_at hl 4 rfl) ?_
    refine lv_imul hx hb d_M_does_197 ?_
    refine lv_aload_n hx hb d_M_does_198 rfl (lv_at hl 0 rfl) ?_
    refine fp_get X Y om rfl in_M 3 (by decide) w604 rfl d_M_does_199 ?_
    refine lv_iload_n hx hb d_M_does_202 rfl (lv_at hl 3 rfl) ?_
    refine fp_ild X Y o_held jy rfl (by omega) (by decide) d_M_does_203 ?_
    refine lv_bipush (v := 15) hx hb d_M_does_204 (by decide) ?_
    refine lv_iand hx hb d_M_does_206 ?_
    rw [er1]
    refine lv_iadd hx hb d_M_does_207 ?_
    refine fp_ild X Y o_array (16 * jz + r9) (by rw [show (16 : Int32) = nI 16 from rfl, pk_mul, nI_add]) (by omega) (by decide) d_M_does_208 ?_
    refine fp_callV (nA := 2) (As := [.int (nI jx), .int (za (16 * jz + r9))]) (rest := []) X Y (c_M_hold (za (16 * jz + r9)) (by omega) om o_width o_held) om rfl w684 w681 w683 wp15 w9 (by decide +kernel) ⟨rfl, rfl⟩ ⟨Nat.le_of_ble_eq_true rfl, Nat.le_of_ble_eq_true rfl⟩ rfl hl.1 rfl (Nat.le_of_ble_eq_true rfl) d_M_does_209 ⟨Nat.zero_le _, Nat.zero_le _⟩ (fun v9 f9 H locs hp9 Y => ?_)
    obtain ⟨e8, e9⟩ := hp9
    subst e8
    rw [e9] at Y
    have ne_41 : mo ≠ mo + 2 := (fp_o.nf om o_held (by simp))
    have ne_42 : mo + 1 ≠ mo + 2 := (by omega)
    have ne_43 : mo + 5 ≠ mo + 2 := (by omega)
    have ne_44 : mo + 12 ≠ mo + 2 := (by omega)
    have Y : fp_H D b n A (va_up f (mo + 2) (aI g 16 (upd zh jx ((za (16 * jz + r9)) &&& q_ones (zw jx))))) s.heap H locs := Y
    have om : fp_o b n (va_up f (mo + 2) (aI g 16 (upd zh jx ((za (16 * jz + r9)) &&& q_ones (zw jx))))) mo (ob 8 [.int th, .int (nI kf), .ref (mo + 1), .ref (mo + 2), .int na, .ref (mo + 3), .ref (mo + 4), .ref (mo + 5), .int nt, .ref (mo + 6), .ref (mo + 7), .ref (mo + 8), .ref (mo + 9), .ref (mo + 10), .ref (mo + 11), .ref (mo + 12), .ref (mo + 13), .ref (mo + 14), .int po, .int dr]) := fp_o.ne om ne_41
    have o_width : fp_o b n (va_up f (mo + 2) (aI g 16 (upd zh jx ((za (16 * jz + r9)) &&& q_ones (zw jx))))) (mo + 1) (aI g 16 zw) := fp_o.ne o_width ne_42
    have o_array : fp_o b n (va_up f (mo + 2) (aI g 16 (upd zh jx ((za (16 * jz + r9)) &&& q_ones (zw jx))))) (mo + 5) (aI g 64 za) := fp_o.ne o_array ne_43
    have o_entry : fp_o b n (va_up f (mo + 2) (aI g 16 (upd zh jx ((za (16 * jz + r9)) &&& q_ones (zw jx))))) (mo + 12) (aI g 1280 ze) := fp_o.ne o_entry ne_44
    have o_held : fp_o b n (va_up f (mo + 2) (aI g 16 (upd zh jx ((za (16 * jz + r9)) &&& q_ones (zw jx))))) (mo + 2) (aI g 16 (upd zh jx ((za (16 * jz + r9)) &&& q_ones (zw jx)))) := fp_o.up o_held
    refine W.eq (g2 := F0 m 212 ls []) rfl ?_
    exact ret _ _ _ _ _ d_M_does_212 ⟨rfl, by simp only [q_mp, q_do]; rw [q_at_in hjy (by omega), er2, q_cr_in hjz hr9, q_wr_in hjx (by omega), ← hone jx hjx, va_up_same o_array.2.2, va_up_same om.2.2]⟩ Y
