/-! Matching, finding, taking in: the object and the reference come to the same (by wip/gen/k18.py). -/
def q_B (z2 : Nat → Int32) (kf : Nat) (d : q_td) : Option Nat := q_best (fun i => q_fits (d.2.2.2.2 0 i) (d.2.2.2.2 1 i) (d.2.2.2.2 2 i) (d.2.2.2.2 3 i) (q_at z2 (d.2.1 0) (nI kf)) (q_at z2 (d.2.1 1) (nI kf))) (fun i j => q_bet (q_pre (d.2.1 2) (d.2.1 3) (d.2.2.2.2 1 i) (d.2.2.2.2 3 i)) (q_pre (d.2.1 2) (d.2.1 3) (d.2.2.2.2 1 j) (d.2.2.2.2 3 j)) (d.2.2.2.2 4 i) (d.2.2.2.2 4 j)) d.1
def q_W (k1 k2 k3 k4 : Int32) (d : q_td) : Int32 := q_row (fun i => q_same (d.2.2.2.2 0 i) (d.2.2.2.2 1 i) (d.2.2.2.2 2 i) (d.2.2.2.2 3 i) (k1 &&& (k2 &&& d.2.1 4)) (k2 &&& d.2.1 4) (k3 &&& (k4 &&& d.2.1 5)) (k4 &&& d.2.1 5)) d.1 0
def q_K (k1 k2 k3 k4 x2 : Int32) (d : q_td) : Int32 := q_tk (q_masks (d.2.1 2) (d.2.1 3) (d.2.1 4) (d.2.1 5) (k2 &&& d.2.1 4) (k4 &&& d.2.1 5)) (q_alw (d.2.1 6) x2) (q_W k1 k2 k3 k4 d) (nI d.1)
theorem q_and0 (x : Int32) : x &&& 0 = 0 := by rw [nI_rep x, show (0 : Int32) = nI 0 from rfl, nq_and, Nat.and_zero]
theorem q_andd (x m : Int32) : (x &&& m) &&& m = x &&& m := by rw [nI_rep x, nI_rep m, nq_and, nq_and, Nat.and_assoc, Nat.and_self]
theorem q_B_bet {t kf acn : Nat} {zw zo zt zq zm zs zct ze : Nat → Int32} {d : q_td} (h : q_Rt t kf acn zw zo zt zq zm zs zct ze d) {i j : Nat} (hi : i < d.1) (hj : j < d.1) : (fun i j => q_bet (q_pre (d.2.1 2) (d.2.1 3) (d.2.2.2.2 1 i) (d.2.2.2.2 3 i)) (q_pre (d.2.1 2) (d.2.1 3) (d.2.2.2.2 1 j) (d.2.2.2.2 3 j)) (d.2.2.2.2 4 i) (d.2.2.2.2 4 j)) i j = (fun i j => q_bm (q_pm (zq t) (ze (160 * t + 8 * i + 1)) (ze (160 * t + 8 * i + 3))) (q_pm (zq t) (ze (160 * t + 8 * j + 1)) (ze (160 * t + 8 * j + 3))) (ze (160 * t + 8 * i + 4)) (ze (160 * t + 8 * j + 4))) i j := by
  obtain ⟨-, -, ⟨c1, c2, c3⟩, -, -, -, g1⟩ := h
  have hi1 := (g1 i hi).1
  have hj1 := (g1 j hj).1
  show q_bet _ _ _ _ = q_bm _ _ _ _
  rw [hi1 1 (by decide), hi1 3 (by decide), hi1 4 (by decide), hj1 1 (by decide), hj1 3 (by decide), hj1 4 (by decide), (q_pre_pm c3 c1 c2).1, (q_pre_pm c3 c1 c2).1]
  exact q_bet_bm (q_pre_pm c3 c1 c2).2 (q_pre_pm c3 c1 c2).2
theorem q_B_1 {t kf acn j1 : Nat} {z2 zw zo zt zq zm zs zct ze : Nat → Int32} {d : q_td} (h : q_Rt t kf acn zw zo zt zq zm zs zct ze d) (hkf : kf ≤ 16) (hj1 : j1 < kf) (h0 : d.2.1 0 = nI j1) (hx : d.2.1 1 = -1) : q_best (fun k => q_f1 (z2 j1) (ze (160 * t + 8 * k)) (ze (160 * t + 8 * k + 1))) (fun i j => q_bm (q_pm (zq t) (ze (160 * t + 8 * i + 1)) (ze (160 * t + 8 * i + 3))) (q_pm (zq t) (ze (160 * t + 8 * j + 1)) (ze (160 * t + 8 * j + 3))) (ze (160 * t + 8 * i + 4)) (ze (160 * t + 8 * j + 4))) d.1 = q_B z2 kf d := by
  refine (q_best_congr d.1 (fun k hk => ?_) (fun i j hi hj => q_B_bet h hi hj)).symm
  obtain ⟨-, -, -, -, -, -, g1⟩ := h
  obtain ⟨i1, -, i3, -, i5⟩ := g1 k hk
  show q_fits _ _ _ _ _ _ = q_f1 _ _ _
  rw [(i5 hx).1, (i5 hx).2, h0, q_at_in hj1 (by omega), q_fits_1 i3, ← i1 0 (by decide), ← i1 1 (by decide)]
  rfl
theorem q_B_2 {t kf acn j1 j2 : Nat} {z2 zw zo zt zq zm zs zct ze : Nat → Int32} {d : q_td} (h : q_Rt t kf acn zw zo zt zq zm zs zct ze d) (hkf : kf ≤ 16) (hj1 : j1 < kf) (h0 : d.2.1 0 = nI j1) (hj2 : j2 < kf) (hx : d.2.1 1 = nI j2) : q_best (fun k => q_f2 (z2 j1) (z2 j2) (ze (160 * t + 8 * k)) (ze (160 * t + 8 * k + 1)) (ze (160 * t + 8 * k + 2)) (ze (160 * t + 8 * k + 3))) (fun i j => q_bm (q_pm (zq t) (ze (160 * t + 8 * i + 1)) (ze (160 * t + 8 * i + 3))) (q_pm (zq t) (ze (160 * t + 8 * j + 1)) (ze (160 * t + 8 * j + 3))) (ze (160 * t + 8 * i + 4)) (ze (160 * t + 8 * j + 4))) d.1 = q_B z2 kf d := by
  refine (q_best_congr d.1 (fun k hk => ?_) (fun i j hi hj => q_B_bet h hi hj)).symm
  obtain ⟨-, -, -, -, -, -, g1⟩ := h
  obtain ⟨i1, -, i3, i4, -⟩ := g1 k hk
  show q_fits _ _ _ _ _ _ = q_f2 _ _ _ _ _ _
  rw [h0, hx, q_at_in hj1 (by omega), q_at_in hj2 (by omega), q_fits_2 i3 i4, ← i1 0 (by decide), ← i1 1 (by decide), ← i1 2 (by decide), ← i1 3 (by decide)]
  rfl
theorem q_match {l : Launch} {D : va_G} {g : Nat → ClassId} {b mo : Nat} {Aa : Nat → Prop} {th : Int32} {t kf acn tcn : Nat} {po dr : Int32} {zw z2 zn zd zc zo zt zq zm zs zct ze zk zx : Nat → Int32} {d : q_td} (h : q_Rt t kf acn zw zo zt zq zm zs zct ze d) (hkf : kf ≤ 16) (ht : t < 8) (hcn : d.1 ≤ 20) (hm1 : b ≤ mo) (hm2 : mo + 14 < b + 465) {B : Option Nat} (hB : q_B z2 kf d = B) : ∀ f' : Nat → va_E, q_Mo g mo f' th kf acn tcn po dr zw z2 zn zd zc zo zt zq zm zs zct ze zk zx → fp_M l D (TY g) b 465 Aa y_M_match (fp_ws y_M_match b_M_match 7 (some FieldType.int)) (rmD 2) [.ref mo, .int (nI t)] f' (fun v f'' => v = some (.int (q_bI t B)) ∧ f'' = f') := by
  intro f' hM
  have h9 := h
  obtain ⟨⟨j1, a1, a2, a3, a4⟩, ⟨b1, b2⟩, -, -, -, f1, -⟩ := h
  rcases b2 with ⟨q1, q2⟩ | ⟨j2, q1, q2, q3⟩
  · exact m_match_1 ht (by omega) a3 (b1.trans q1) hcn f1 ((q_B_1 h9 hkf a1 a2 q1).trans hB) hm1 hm2 hM
  · exact m_match_2 ht (by omega) a3 (by omega) (b1.trans q2) hcn f1 ((q_B_2 h9 hkf a1 a2 q1 q2).trans hB) hm1 hm2 hM
theorem q_find {l : Launch} {D : va_G} {g : Nat → ClassId} {b mo : Nat} {Aa : Nat → Prop} {th : Int32} {t kf acn tcn : Nat} {po dr : Int32} {zw z2 zn zd zc zo zt zq zm zs zct ze zk zx : Nat → Int32} {d : q_td} {k1 k2 k3 k4 : Int32} (hzk : zk 0 = k1 ∧ zk 1 = k2 ∧ zk 2 = k3 ∧ zk 3 = k4) (h : q_Rt t kf acn zw zo zt zq zm zs zct ze d) (hkf : kf ≤ 16) (ht : t < 8) (hcn : d.1 ≤ 20) (hm1 : b ≤ mo) (hm2 : mo + 14 < b + 465) (hA : fp_W b 465 Aa) {rv : Int32} (hr : q_W k1 k2 k3 k4 d = rv) :
    ∃ zy : Nat → Int32, (zy 0 = k1 &&& (k2 &&& d.2.1 4) ∧ zy 1 = k2 &&& d.2.1 4 ∧ zy 2 = k3 &&& (k4 &&& d.2.1 5) ∧ zy 3 = k4 &&& d.2.1 5) ∧ ∀ f' : Nat → va_E, q_Mo g mo f' th kf acn tcn po dr zw z2 zn zd zc zo zt zq zm zs zct ze zk zx → fp_M l D (TY g) b 465 Aa y_M_find (fp_ws y_M_find b_M_find 6 (some FieldType.int)) (rmD 2) [.ref mo, .int (nI t)] f' (fun v f'' => v = some (.int rv) ∧ f'' = va_up f' (mo + 14) (aI g 8 zy)) := by
  obtain ⟨rfl, rfl, rfl, rfl⟩ := hzk
  have h9 := h
  obtain ⟨⟨j1, a1, a2, a3, a4⟩, ⟨b1, b2⟩, -, -, -, f1, g1⟩ := h
  rcases b2 with ⟨q1, q2⟩ | ⟨j2, q1, q2, q3⟩
  · have e3 : zk 3 &&& d.2.1 5 = 0 := by rw [q2]; exact q_and0 _
    refine ⟨_, ?_, fun f' hM => m_find_1 ht (by omega) a3 (b1.trans q1) hcn f1 (rv := rv) ?_ hm1 hm2 hM hA⟩
    · rw [e3, a4]
      exact ⟨by simp [upd], by simp [upd], by simp [upd], by simp [upd]⟩
    · rw [← hr]
      unfold q_W
      refine (q_row_congr d.1 0 (fun k h1 h2 => ?_)).symm
      have i1 := (g1 k (by omega)).1
      show q_same _ _ _ _ _ _ _ _ = q_same _ _ _ _ _ _ _ _
      rw [e3, a4, ← i1 0 (by decide), ← i1 1 (by decide), ← i1 2 (by decide), ← i1 3 (by decide)]
      rfl
  · refine ⟨_, ?_, fun f' hM => m_find_2 ht (by omega) a3 (by omega) (b1.trans q2) hcn f1 (rv := rv) ?_ hm1 hm2 hM hA⟩
    · rw [q3, a4]
      exact ⟨by simp [upd], by simp [upd], by simp [upd], by simp [upd]⟩
    · rw [← hr]
      unfold q_W
      refine (q_row_congr d.1 0 (fun k h1 h2 => ?_)).symm
      have i1 := (g1 k (by omega)).1
      show q_same _ _ _ _ _ _ _ _ = q_same _ _ _ _ _ _ _ _
      rw [q3, a4, ← i1 0 (by decide), ← i1 1 (by decide), ← i1 2 (by decide), ← i1 3 (by decide)]
      rfl
theorem q_K_1 {t kf acn j1 w1 : Nat} {zw zo zt zq zm zs zct ze : Nat → Int32} {d : q_td} {k1 k2 k3 k4 x2 : Int32} (h : q_Rt t kf acn zw zo zt zq zm zs zct ze d) (hac : acn ≤ 16) (hcn : d.1 ≤ 20) (h4 : d.2.1 4 = q_ones (zw j1)) (hw1 : 1 ≤ w1) (hw2 : w1 ≤ 32) (hw : zw j1 = nI w1) (hx : d.2.1 1 = -1) (h5 : d.2.1 5 = 0) : q_ti (q_W k1 k2 k3 k4 d) (nI d.1) x2 (nI acn) (zm t) (q_mm (zq t - zq t / 4 * 4) (k2 &&& d.2.1 4) (q_ones (zw j1)) w1) (1) = q_K k1 k2 k3 k4 x2 d := by
  obtain ⟨-, -, ⟨c1, c2, c3⟩, ⟨d1, An, d2, d3⟩, -, -, -⟩ := h
  obtain ⟨j, -, -, b1, b2, b3, e1, e2, e3, e4⟩ := q_how c3
  unfold q_K
  rw [d1]
  refine (q_tk_ti d3 d2 hac hcn ?_).symm
  rw [q_masks_0, q_isMask_mm hw1 hw2 (h4.trans (by rw [hw])) (q_andd _ _) (by rw [c1, e1]; exact q_kind b1), e3, ← h4]
  have e9 : q_isMask (d.2.1 3) (k4 &&& d.2.1 5) (d.2.1 5) = 1 := by
    rw [c2, e2, h5, q_and0, b3 hx]; rfl
  rw [e9]
theorem q_K_2 {t kf acn j1 j2 w1 w2 : Nat} {zw zo zt zq zm zs zct ze : Nat → Int32} {d : q_td} {k1 k2 k3 k4 x2 : Int32} (h : q_Rt t kf acn zw zo zt zq zm zs zct ze d) (hac : acn ≤ 16) (hcn : d.1 ≤ 20) (h4 : d.2.1 4 = q_ones (zw j1)) (hw1 : 1 ≤ w1) (hw2 : w1 ≤ 32) (hw : zw j1 = nI w1) (h5 : d.2.1 5 = q_ones (zw j2)) (hv1 : 1 ≤ w2) (hv2 : w2 ≤ 32) (hv : zw j2 = nI w2) : q_ti (q_W k1 k2 k3 k4 d) (nI d.1) x2 (nI acn) (zm t) (q_mm (zq t - zq t / 4 * 4) (k2 &&& d.2.1 4) (q_ones (zw j1)) w1) (q_mm (zq t / 4) (k4 &&& d.2.1 5) (q_ones (zw j2)) w2) = q_K k1 k2 k3 k4 x2 d := by
  obtain ⟨-, -, ⟨c1, c2, c3⟩, ⟨d1, An, d2, d3⟩, -, -, -⟩ := h
  obtain ⟨j, -, -, b1, b2, b3, e1, e2, e3, e4⟩ := q_how c3
  unfold q_K
  rw [d1]
  refine (q_tk_ti d3 d2 hac hcn ?_).symm
  rw [q_masks_0, q_isMask_mm hw1 hw2 (h4.trans (by rw [hw])) (q_andd _ _) (by rw [c1, e1]; exact q_kind b1), q_isMask_mm hv1 hv2 (h5.trans (by rw [hv])) (q_andd _ _) (by rw [c2, e2]; exact q_kind b2), e3, e4, ← h4, ← h5]
theorem q_tk_01 (a b r c : Int32) : q_tk a b r c = 0 ∨ q_tk a b r c = 1 := by unfold q_tk; repeat' split
                                                                              all_goals simp
theorem q_K_yes {k1 k2 k3 k4 x2 : Int32} {d : q_td} {An a : Nat} (h : q_K k1 k2 k3 k4 x2 d = 1) (hal : d.2.1 6 = nI An) (hA : An < 2 ^ a) (ha : a ≤ 16) (hcn : d.1 ≤ 20) : d.1 < 20 ∧ (∃ ak : Nat, ak < a ∧ x2 = nI ak) := by
  unfold q_K q_tk at h
  split at h
  · exact absurd h (by decide)
  split at h
  · exact absurd h (by decide)
  next h1 h2 =>
    rw [q_alw_in hal hA ha] at h2
    have h3 : ¬ q_in x2 (nI a) = 0 := fun q => h2 (if_pos q)
    obtain ⟨ak, h4, h5⟩ := q_in_of (by omega) h3
    split at h
    · split at h
      next h6 h7 => exact ⟨(nI_ltI (by omega) (by decide)).mp (show nI d.1 < nI 20 from h7), ak, h4, h5⟩
      · exact absurd h (by decide)
    · exact absurd h (by decide)
theorem updn {f : Nat → Int32} {j k : Nat} {w v : Int32} (h : j ≠ k) (e : f j = v) : upd f k w j = v := (pk_un h).trans e
theorem q_ins_no {l : Launch} {D : va_G} {g : Nat → ClassId} {b mo : Nat} {Aa : Nat → Prop} {th : Int32} {t kf acn tcn : Nat} {po dr : Int32} {zw z2 zn zd zc zo zt zq zm zs zct ze zk zx : Nat → Int32} {d : q_td} {z1 : Nat → Int32} {f : Nat → va_E} {k1 k2 k3 k4 : Int32} {x1 x2 x3 x4 : Int32} (hzk : zk 0 = k1 ∧ zk 1 = k2 ∧ zk 2 = k3 ∧ zk 3 = k4) (hf : q_Rf kf zw z1) (h : q_Rt t kf acn zw zo zt zq zm zs zct ze d) (hkf : kf ≤ 16) (hac : acn ≤ 16) (ht : t < 8) (htt : t < tcn) (htc : tcn ≤ 8) (hcn : d.1 ≤ 20) (hm1 : b ≤ mo) (hm2 : mo + 14 < b + 465) (hM : q_Mo g mo f th kf acn tcn po dr zw z2 zn zd zc zo zt zq zm zs zct ze zk zx) (hA : fp_W b 465 Aa) (hK : q_K k1 k2 k3 k4 x2 d = 0) :
    ∃ (f1 : Nat → va_E) (zy : Nat → Int32), fp_M l D (TY g) b 465 Aa y_M_insert (fp_ws y_M_insert b_M_insert 8 (some FieldType.boolean)) (rmD 3) [.ref mo, .int (nI t), .int x1, .int x2, .int x3, .int x4] f (fun v f' => v = some (.int 0) ∧ f' = f1) ∧ q_Mo g mo f1 0 kf acn tcn po dr zw z2 zn zd zc zo zt zq zm zs zct ze zk zy ∧ ∀ q : Nat, (q < mo ∨ mo + 14 < q) → f1 q = f q := by
  obtain ⟨zy, ⟨y0, y1, y2, y3⟩, hF⟩ := q_find (l := l) (D := D) (g := g) (b := b) (mo := mo) (Aa := Aa) (th := 0) (tcn := tcn) (po := po) (dr := dr) (z2 := z2) (zn := zn) (zd := zd) (zc := zc) (zx := zx) hzk h hkf ht hcn hm1 hm2 hA rfl
  have hin : ¬ q_in (nI t) (nI tcn) = 0 := q_in_ne htt (by omega)
  have hrv : q_W k1 k2 k3 k4 d = -1 ∨ ∃ k : Nat, k < 20 ∧ q_W k1 k2 k3 k4 d = nI k := by
    rcases q_row_or (fun i => q_same (d.2.2.2.2 0 i) (d.2.2.2.2 1 i) (d.2.2.2.2 2 i) (d.2.2.2.2 3 i) (k1 &&& (k2 &&& d.2.1 4)) (k2 &&& d.2.1 4) (k3 &&& (k4 &&& d.2.1 5)) (k4 &&& d.2.1 5)) d.1 0 with q | ⟨j, -, q1, q2, -⟩
    · exact Or.inl q
    · exact Or.inr ⟨j, by omega, q2⟩
  have h9 := h
  obtain ⟨⟨j1, a1, a2, a3, a4⟩, ⟨b1, b2⟩, -, -, -, c1, -⟩ := h
  obtain ⟨-, w1, v1, v2, v3⟩ := hf j1 a1
  rcases b2 with ⟨q1, q2⟩ | ⟨j2, q1, q2, q3⟩
  · have e := (q_K_1 (k1 := k1) (k2 := k2) (k3 := k3) (k4 := k4) (x2 := x2) h9 hac hcn a4 v1 v2 v3 q1 q2).trans hK
    rw [← y1] at e
    obtain ⟨f1, r1, r2, r3⟩ := m_insert_no_1 (x1 := x1) (x2 := x2) (x3 := x3) (x4 := x4) ht hin (by omega) a3 v3 v2 (b1.trans q1) hcn c1 hrv hF e hm1 hm2 hM hA
    exact ⟨f1, zy, r1, by exact r2, r3⟩
  · obtain ⟨-, w2, u1, u2, u3⟩ := hf j2 q1
    have e := (q_K_2 (k1 := k1) (k2 := k2) (k3 := k3) (k4 := k4) (x2 := x2) h9 hac hcn a4 v1 v2 v3 q3 u1 u2 u3).trans hK
    rw [← y1, ← y3] at e
    obtain ⟨f1, r1, r2, r3⟩ := m_insert_no_2 (x1 := x1) (x2 := x2) (x3 := x3) (x4 := x4) ht hin (by omega) a3 v3 v2 (by omega) (b1.trans q2) u3 u2 hcn c1 hrv hF e hm1 hm2 hM hA
    exact ⟨f1, zy, r1, by exact r2, r3⟩
theorem q_ins_yes {l : Launch} {D : va_G} {g : Nat → ClassId} {b mo : Nat} {Aa : Nat → Prop} {th : Int32} {t kf acn tcn : Nat} {po dr : Int32} {zw z2 zn zd zc zo zt zq zm zs zct ze zk zx : Nat → Int32} {d : q_td} {z1 : Nat → Int32} {f : Nat → va_E} {k1 k2 k3 k4 : Int32} {x1 x2 x3 x4 : Int32} (hzk : zk 0 = k1 ∧ zk 1 = k2 ∧ zk 2 = k3 ∧ zk 3 = k4) (hf : q_Rf kf zw z1) (h : q_Rt t kf acn zw zo zt zq zm zs zct ze d) (hkf : kf ≤ 16) (hac : acn ≤ 16) (ht : t < 8) (htt : t < tcn) (htc : tcn ≤ 8) (hcn : d.1 ≤ 20) (hm1 : b ≤ mo) (hm2 : mo + 14 < b + 465) (hM : q_Mo g mo f th kf acn tcn po dr zw z2 zn zd zc zo zt zq zm zs zct ze zk zx) (hA : fp_W b 465 Aa) (hK : q_K k1 k2 k3 k4 x2 d = 1) :
    ∃ (f1 : Nat → va_E) (zy : Nat → Int32), fp_M l D (TY g) b 465 Aa y_M_insert (fp_ws y_M_insert b_M_insert 8 (some FieldType.boolean)) (rmD 3) [.ref mo, .int (nI t), .int x1, .int x2, .int x3, .int x4] f (fun v f' => v = some (.int 1) ∧ f' = f1) ∧ q_Mo g mo f1 0 kf acn tcn po dr zw z2 zn zd zc zo zt zq zm zs (upd zct t (nI (d.1 + 1))) (upd (upd (upd (upd (upd (upd (upd (upd (ze) (160 * t + 8 * d.1) (k1 &&& (k2 &&& d.2.1 4))) (160 * t + 8 * d.1 + 1) (k2 &&& d.2.1 4)) (160 * t + 8 * d.1 + 2) (k3 &&& (k4 &&& d.2.1 5))) (160 * t + 8 * d.1 + 3) (k4 &&& d.2.1 5)) (160 * t + 8 * d.1 + 4) (x1)) (160 * t + 8 * d.1 + 5) (x2)) (160 * t + 8 * d.1 + 6) (x3)) (160 * t + 8 * d.1 + 7) (x4)) zk zy ∧ ∀ q : Nat, (q < mo ∨ mo + 14 < q) → f1 q = f q := by
  obtain ⟨zy, ⟨y0, y1, y2, y3⟩, hF⟩ := q_find (l := l) (D := D) (g := g) (b := b) (mo := mo) (Aa := Aa) (th := 0) (tcn := tcn) (po := po) (dr := dr) (z2 := z2) (zn := zn) (zd := zd) (zc := zc) (zx := zx) hzk h hkf ht hcn hm1 hm2 hA rfl
  have hin : ¬ q_in (nI t) (nI tcn) = 0 := q_in_ne htt (by omega)
  have hrv : q_W k1 k2 k3 k4 d = -1 ∨ ∃ k : Nat, k < 20 ∧ q_W k1 k2 k3 k4 d = nI k := by
    rcases q_row_or (fun i => q_same (d.2.2.2.2 0 i) (d.2.2.2.2 1 i) (d.2.2.2.2 2 i) (d.2.2.2.2 3 i) (k1 &&& (k2 &&& d.2.1 4)) (k2 &&& d.2.1 4) (k3 &&& (k4 &&& d.2.1 5)) (k4 &&& d.2.1 5)) d.1 0 with q | ⟨j, -, q1, q2, -⟩
    · exact Or.inl q
    · exact Or.inr ⟨j, by omega, q2⟩
  have h9 := h
  obtain ⟨⟨j1, a1, a2, a3, a4⟩, ⟨b1, b2⟩, -, -, -, c1, -⟩ := h
  obtain ⟨-, w1, v1, v2, v3⟩ := hf j1 a1
  rcases b2 with ⟨q1, q2⟩ | ⟨j2, q1, q2, q3⟩
  · have e := (q_K_1 (k1 := k1) (k2 := k2) (k3 := k3) (k4 := k4) (x2 := x2) h9 hac hcn a4 v1 v2 v3 q1 q2).trans hK
    rw [← y1] at e
    obtain ⟨f1, r1, r2, r3⟩ := m_insert_yes_1 (x1 := x1) (x2 := x2) (x3 := x3) (x4 := x4) ht hin (by omega) a3 v3 v2 (b1.trans q1) hcn c1 hrv hF e hm1 hm2 hM hA
    exact ⟨f1, zy, r1, by rw [← y0, ← y1, ← y2, ← y3]; exact r2, r3⟩
  · obtain ⟨-, w2, u1, u2, u3⟩ := hf j2 q1
    have e := (q_K_2 (k1 := k1) (k2 := k2) (k3 := k3) (k4 := k4) (x2 := x2) h9 hac hcn a4 v1 v2 v3 q3 u1 u2 u3).trans hK
    rw [← y1, ← y3] at e
    obtain ⟨f1, r1, r2, r3⟩ := m_insert_yes_2 (x1 := x1) (x2 := x2) (x3 := x3) (x4 := x4) ht hin (by omega) a3 v3 v2 (by omega) (b1.trans q2) u3 u2 hcn c1 hrv hF e hm1 hm2 hM hA
    exact ⟨f1, zy, r1, by rw [← y0, ← y1, ← y2, ← y3]; exact r2, r3⟩
