/-! How the two pictures hang together, and that each pair of steps keeps it. -/
def q_Rt (t kf acn : Nat) (zw zo zt zq zm zs zct ze : Nat → Int32) (d : q_td) : Prop :=
  (∃ j1 : Nat, j1 < kf ∧ d.2.1 0 = nI j1 ∧ zo t = nI j1 ∧ d.2.1 4 = q_ones (zw j1)) ∧ (zt t = d.2.1 1 ∧ ((d.2.1 1 = -1 ∧ d.2.1 5 = 0) ∨ ∃ j2 : Nat, j2 < kf ∧ d.2.1 1 = nI j2 ∧ d.2.1 5 = q_ones (zw j2))) ∧
  (d.2.1 2 = zq t &&& 3 ∧ d.2.1 3 = zq t >>> ((2 : Int32) &&& 31) ∧ q_hm (zq t) (d.2.1 1) = 0) ∧ (zm t = d.2.1 6 ∧ ∃ An : Nat, An < 2 ^ acn ∧ d.2.1 6 = nI An) ∧ (zs t = d.2.1 7 ∧ ∃ aj : Nat, aj < acn ∧ d.2.1 7 = nI aj) ∧ zct t = nI d.1 ∧
  ∀ k : Nat, k < d.1 → (∀ j : Nat, j < 8 → ze (160 * t + 8 * k + j) = d.2.2.2.2 j k) ∧ (∃ ak : Nat, ak < acn ∧ d.2.2.2.2 5 k = nI ak) ∧ d.2.2.2.2 0 k &&& d.2.2.2.2 1 k = d.2.2.2.2 0 k ∧ d.2.2.2.2 2 k &&& d.2.2.2.2 3 k = d.2.2.2.2 2 k ∧ (d.2.1 1 = -1 → d.2.2.2.2 2 k = 0 ∧ d.2.2.2.2 3 k = 0)
def q_Ra (k kf : Nat) (zn zd : Nat → Int32) (d : q_ad) : Prop := zn k = nI d.1 ∧ ∀ i : Nat, i < d.1 → (∀ j : Nat, j < 4 → zd (16 * k + 4 * i + j) = d.2 j i) ∧ ∃ kj : Nat, kj < 9 ∧ d.2 0 i = nI kj ∧ ¬ q_ops kj (d.2 1 i) (d.2 2 i) (d.2 3 i) (nI kf) = 0
def q_Rf (kf : Nat) (zw z1 : Nat → Int32) : Prop := ∀ j : Nat, j < kf → q_ones (zw j) = z1 j ∧ ∃ wd : Nat, 1 ≤ wd ∧ wd ≤ 32 ∧ zw j = nI wd
theorem q_ops_mono {kj : Nat} {x y z : Int32} {kf kg : Nat} (hk : kf ≤ kg) (hg : kg ≤ 16) (h : ¬ q_ops kj x y z (nI kf) = 0) : ¬ q_ops kj x y z (nI kg) = 0 := by
  have key : ∀ w : Int32, ¬ q_in w (nI kf) = 0 → ¬ q_in w (nI kg) = 0 := by
    intro w hw
    obtain ⟨j, hj, rfl⟩ := q_in_of (by omega) hw
    exact q_in_ne (by omega) (by omega)
  unfold q_ops at h ⊢
  split at h
  · exact key _ h
  · obtain ⟨h1, h2⟩ := q_ite2 h; rw [if_neg (key _ h1), if_neg (key _ h2)]; decide
  · obtain ⟨h1, h2⟩ := q_ite2 h; rw [if_neg (key _ h1), if_neg (key _ h2)]; decide
  · obtain ⟨h1, h2⟩ := q_ite2 h; rw [if_neg (key _ h1), if_neg h2]; decide
  · exact h
  · obtain ⟨h1, h2⟩ := q_ite2 h; rw [if_neg h1, if_neg (key _ h2)]; decide
  · obtain ⟨h1, h2, h3⟩ := q_ite3 h; rw [if_neg (key _ h1), if_neg (key _ h2), if_neg h3]; decide
  · exact h
theorem q_Ra.mono {k kf kg : Nat} {zn zd : Nat → Int32} {d : q_ad} (h : q_Ra k kf zn zd d) (hk : kf ≤ kg) (hg : kg ≤ 16) : q_Ra k kg zn zd d :=
  ⟨h.1, fun i hi => ⟨(h.2 i hi).1, by obtain ⟨kj, h1, h2, h3⟩ := (h.2 i hi).2; exact ⟨kj, h1, h2, q_ops_mono hk hg h3⟩⟩⟩
/-- other fields, actions, tables come, this table's rows stay -/
theorem q_Rt.mono {t kf kg acn acm : Nat} {zw zw' zo zt zq zm zs zct ze zo' zt' zq' zm' zs' zct' ze' : Nat → Int32} {d : q_td} (h : q_Rt t kf acn zw zo zt zq zm zs zct ze d) (hk : kf ≤ kg) (ha : acn ≤ acm) (hw : ∀ j : Nat, j < kf → zw' j = zw j) (h1 : zo' t = zo t) (h2 : zt' t = zt t) (h3 : zq' t = zq t) (h4 : zm' t = zm t) (h5 : zs' t = zs t) (h6 : zct' t = zct t) (h7 : ∀ i : Nat, i < 160 → ze' (160 * t + i) = ze (160 * t + i)) (hc : d.1 ≤ 20) : q_Rt t kg acm zw' zo' zt' zq' zm' zs' zct' ze' d := by
  obtain ⟨⟨j1, a1, a2, a3, a4⟩, ⟨b1, b2⟩, ⟨c1, c2, c3⟩, ⟨d1, An, d2, d3⟩, ⟨e1, aj, e2, e3⟩, f1, g1⟩ := h
  refine ⟨⟨j1, by omega, a2, h1.trans a3, by rw [hw j1 a1]; exact a4⟩, ⟨h2.trans b1, ?_⟩, ⟨by rw [h3]; exact c1, by rw [h3]; exact c2, by rw [h3]; exact c3⟩, ⟨h4.trans d1, An, Nat.lt_of_lt_of_le d2 (Nat.pow_le_pow_right (by decide) ha), d3⟩, ⟨h5.trans e1, aj, by omega, e3⟩, h6.trans f1, fun k hk2 => ?_⟩
  · rcases b2 with q | ⟨j2, q1, q2, q3⟩
    · exact Or.inl q
    · exact Or.inr ⟨j2, by omega, q2, by rw [hw j2 q1]; exact q3⟩
  · obtain ⟨i1, ⟨ak, i2, i3⟩, i4⟩ := g1 k hk2
    refine ⟨fun j hj => ?_, ⟨ak, by omega, i3⟩, i4⟩
    rw [show 160 * t + 8 * k + j = 160 * t + (8 * k + j) by omega, h7 _ (by omega), ← i1 j hj, show 160 * t + 8 * k + j = 160 * t + (8 * k + j) by omega]
/-- the two pictures and what ties them -/
def q_J (g : Nat → ClassId) (b : Nat) (f : Nat → va_E) (th : Int32) : Prop := ∃ (kf acn tcn : Nat) (po dr k1 k2 k3 k4 : Int32) (z1 z2 zc : Nat → Int32) (As : Nat → q_ad) (Ts : Nat → q_td) (zw zn zd zo zt zq zm zs zct ze zk zx : Nat → Int32),
  q_C g b f kf acn tcn po dr k1 k2 k3 k4 z1 z2 zc As Ts ∧ q_Mo g (b + 449) f th kf acn tcn po dr zw z2 zn zd zc zo zt zq zm zs zct ze zk zx ∧
  (dr = 0 ∨ dr = 1) ∧ (zk 0 = k1 ∧ zk 1 = k2 ∧ zk 2 = k3 ∧ zk 3 = k4) ∧ q_Rf kf zw z1 ∧ (∀ k : Nat, k < acn → q_Ra k kf zn zd (As k)) ∧ (∀ t : Nat, t < tcn → q_Rt t kf acn zw zo zt zq zm zs zct ze (Ts t)) ∧ ∀ t : Nat, t < 8 → q_Tq b t (Ts t)
/-! the doings' values -/
theorem q_do_dr {kf : Int32} {z1 : Nat → Int32} {kj : Nat} {x y z i1 i2 : Int32} {s : q_S} (h : s.2.2.2 = 0 ∨ s.2.2.2 = 1) : (q_do kf z1 kj x y z i1 i2 s).2.2.2 = 0 ∨ (q_do kf z1 kj x y z i1 i2 s).2.2.2 = 1 := by
  unfold q_do
  split <;> first | exact h | exact Or.inr rfl
theorem q_run_dr {kf : Int32} {z1 : Nat → Int32} {dk : Nat → Nat} {dx dy dz : Nat → Int32} {i1 i2 : Int32} {s : q_S} (h : s.2.2.2 = 0 ∨ s.2.2.2 = 1) : ∀ k : Nat, (q_run kf z1 dk dx dy dz i1 i2 s k).2.2.2 = 0 ∨ (q_run kf z1 dk dx dy dz i1 i2 s k).2.2.2 = 1
  | 0 => h
  | k + 1 => by
    unfold q_run
    exact q_do_dr (q_run_dr h k)
theorem q_run_congr {kf : Int32} {z1 : Nat → Int32} {dk : Nat → Nat} {dx dy dz dx' dy' dz' : Nat → Int32} {i1 i2 : Int32} {s : q_S} : ∀ k : Nat, (∀ i : Nat, i < k → dx i = dx' i ∧ dy i = dy' i ∧ dz i = dz' i) → q_run kf z1 dk dx dy dz i1 i2 s k = q_run kf z1 dk dx' dy' dz' i1 i2 s k
  | 0, _ => rfl
  | k + 1, h => by
    unfold q_run
    rw [q_run_congr k (fun i hi => h i (by omega)), (h k (by omega)).1, (h k (by omega)).2.1, (h k (by omega)).2.2]
/-! a new table -/
theorem q_Rt_new {t kf acn : Nat} {zw z1 zo zt zq zm zs zct ze : Nat → Int32} {x1 x2 x3 x4 x5 : Int32} {s : Nat → Int32} {r : (Nat → Option Nat) × (Nat → Nat) × (Nat → Nat → Int32)} (hf : q_Rf kf zw z1) (hkf : kf ≤ 16) (hac : acn ≤ 16) (h1 : ¬ q_kf x1 x2 (nI kf) = 0) (h2 : ¬ q_ac x4 x5 (nI acn) = 0) (h3 : ¬ q_hw x3 x2 = 0) :
    q_Rt t kf acn zw (upd zo t x1) (upd zt t x2) (upd zq t x3) (upd zm t x4) (upd zs t x5) (upd zct t 0) ze (0, q_sc s x1 x2 (x3 &&& 3) (x3 >>> ((2 : Int32) &&& 31)) (q_at z1 x1 (nI kf)) (q_at z1 x2 (nI kf)) x4 x5, r) := by
  obtain ⟨-, c1, c2, c3, c4⟩ := q_un_0 hac h1 h2
  obtain ⟨j1, a1, rfl⟩ := q_in_of (by omega) c1
  obtain ⟨aj, a2, rfl⟩ := q_in_of (by omega) c4
  unfold q_Rt
  simp only [pk_us, q_sc]
  refine ⟨⟨j1, a1, rfl, rfl, ?_⟩, ⟨trivial, ?_⟩, ⟨trivial, trivial, (q_hm_iff x3 x2).mpr h3⟩, ⟨trivial, x4.toBitVec.toNat, c3, nI_rep x4⟩, ⟨trivial, aj, a2, rfl⟩, rfl, fun k hk => absurd hk (by omega)⟩
  · rw [q_at_in a1 (by omega)]; exact (hf j1 a1).1.symm
  · rcases c2 with q | ⟨q1, -⟩
    · subst q
      refine Or.inl ⟨rfl, ?_⟩
      unfold q_at
      rw [if_pos (q_in_m1 _)]
    · obtain ⟨j2, a3, rfl⟩ := q_in_of (by omega) q1
      exact Or.inr ⟨j2, a3, rfl, by rw [q_at_in a3 (by omega)]; exact (hf j2 a3).1.symm⟩
