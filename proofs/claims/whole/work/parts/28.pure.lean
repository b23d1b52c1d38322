/-! Pure rows: what the class reckons is what the reference reckons. -/
theorem nI_rep (x : Int32) : x = nI x.toBitVec.toNat := by
  apply Int32.toBitVec_inj.mp
  apply BitVec.eq_of_toNat_eq
  rw [pk_tn x.toBitVec.isLt]
theorem nI_inj32 {a b : Nat} (ha : a < 2 ^ 32) (hb : b < 2 ^ 32) (h : nI a = nI b) : a = b := by
  have h2 := congrArg (fun z : Int32 => z.toBitVec.toNat) h
  simp only [pk_tn ha, pk_tn hb] at h2
  exact h2
theorem nq_and (a b : Nat) : nI a &&& nI b = nI (a &&& b) := by
  apply Int32.toBitVec_inj.mp
  rw [Int32.toBitVec_and]
  show BitVec.ofNat 32 a &&& BitVec.ofNat 32 b = BitVec.ofNat 32 (a &&& b)
  exact (BitVec.ofNat_and).symm
theorem nq_xor (a b : Nat) : nI a ^^^ nI b = nI (a ^^^ b) := by
  apply Int32.toBitVec_inj.mp
  rw [Int32.toBitVec_xor]
  show BitVec.ofNat 32 a ^^^ BitVec.ofNat 32 b = BitVec.ofNat 32 (a ^^^ b)
  exact (BitVec.ofNat_xor).symm
/-! the ones of a width -/
theorem q_on_nI : ∀ w : Nat, w < 33 → 1 ≤ w → q_on (nI w) = nI (2 ^ w - 1) ∧ q_ones (nI w) = nI (2 ^ w - 1) := by decide +kernel
theorem q_on_ones {x : Int32} (h1 : ¬ x < 1) (h2 : x ≤ 32) : q_on x = q_ones x ∧ ∃ wd : Nat, 1 ≤ wd ∧ wd ≤ 32 ∧ x = nI wd := by
  have h0 : ¬ x < 0 := fun q => h1 (Int32.lt_of_lt_of_le q (by decide))
  obtain ⟨j, hj, rfl⟩ := nI_of h0
  have hj1 : 1 ≤ j := by
    rcases Nat.eq_zero_or_pos j with h | h
    · subst h; exact absurd (by decide) h1
    · exact h
  have hj2 : j ≤ 32 := (nI_leI hj (by decide)).mp (show nI j ≤ nI 32 from h2)
  have := q_on_nI j (by omega) hj1
  exact ⟨this.1.trans this.2.symm, j, hj1, hj2, rfl⟩
/-! masks -/
theorem n_odd (s : Nat) : (2 * s + 1) &&& (2 * (s + 1)) = 2 * (s &&& (s + 1)) := by
  apply Nat.eq_of_testBit_eq
  intro i
  rw [Nat.testBit_and]
  cases i with
  | zero => simp [Nat.testBit_zero]
  | succ i =>
    rw [Nat.testBit_succ, Nat.testBit_succ, Nat.testBit_succ]
    rw [show (2 * s + 1) / 2 = s by omega, show 2 * (s + 1) / 2 = s + 1 by omega, show 2 * (s &&& (s + 1)) / 2 = s &&& (s + 1) by omega, Nat.testBit_and]
theorem n_even (s : Nat) : (2 * s) &&& (2 * s + 1) = 2 * s := by
  apply Nat.eq_of_testBit_eq
  intro i
  rw [Nat.testBit_and]
  cases i with
  | zero => simp [Nat.testBit_zero]
  | succ i =>
    rw [Nat.testBit_succ, Nat.testBit_succ, show (2 * s + 1) / 2 = s by omega, show 2 * s / 2 = s by omega, Bool.and_self]
theorem n_pow {r : Nat} (h : r &&& (r + 1) = 0) : ∃ k : Nat, r + 1 = 2 ^ k := by
  induction r using Nat.strongRecOn with
  | _ r ih =>
    rcases Nat.mod_two_eq_zero_or_one r with h2 | h2
    · obtain ⟨s, rfl⟩ : ∃ s, r = 2 * s := ⟨r / 2, by omega⟩
      rw [n_even] at h
      exact ⟨0, by omega⟩
    · obtain ⟨s, rfl⟩ : ∃ s, r = 2 * s + 1 := ⟨r / 2, by omega⟩
      rw [show 2 * s + 1 + 1 = 2 * (s + 1) by omega, n_odd] at h
      obtain ⟨k, hk⟩ := ih s (by omega) (by omega)
      exact ⟨k + 1, by rw [Nat.pow_succ]; omega⟩
theorem n_pow' : ∀ k : Nat, k < 33 → (2 ^ k - 1) &&& 2 ^ k = 0 := by decide +kernel
theorem n_xor : ∀ w : Nat, w < 33 → ∀ k : Nat, k < w + 1 → (2 ^ w - 2 ^ k) ^^^ (2 ^ w - 1) = 2 ^ k - 1 := by decide +kernel
theorem n_step : ∀ w : Nat, w < 33 → ∀ k : Nat, k < w → nI (2 ^ w - 2 ^ k) &&& (((1 : Int32) <<< (nI k &&& 31)) ^^^ (-1)) = nI (2 ^ w - 2 ^ (k + 1)) := by decide +kernel
theorem n_lt {w k : Nat} (h : w < 33) : 2 ^ w - 2 ^ k < 2 ^ 32 := by
  have h1 : 2 ^ w ≤ 2 ^ 32 := Nat.pow_le_pow_right (by decide) (by omega)
  have h2 : 0 < 2 ^ k := Nat.two_pow_pos k
  omega
theorem q_mk_iff {Mk w : Nat} (hw : w < 33) (hM : Mk < 2 ^ 32) : ∀ (r k : Nat), r + k = w → (q_mk (nI Mk) r k (nI (2 ^ w - 2 ^ k)) = 1 ↔ ∃ j : Nat, k ≤ j ∧ j ≤ w ∧ Mk = 2 ^ w - 2 ^ j)
  | 0, k, hk => by
    unfold q_mk
    have e : k = w := by omega
    subst e
    constructor
    · intro h
      refine ⟨k, by omega, by omega, ?_⟩
      by_cases h2 : nI Mk = 0
      · have := nI_inj32 hM (by decide) (show nI Mk = nI 0 from h2)
        omega
      · rw [if_neg h2] at h; exact absurd h (by decide)
    · rintro ⟨j, h1, h2, h3⟩
      have e : j = k := by omega
      subst e
      rw [h3, Nat.sub_self]; rfl
  | r + 1, k, hk => by
    unfold q_mk
    by_cases h : nI Mk = nI (2 ^ w - 2 ^ k)
    · rw [if_pos h]
      exact ⟨fun _ => ⟨k, by omega, by omega, nI_inj32 hM (n_lt hw) h⟩, fun _ => rfl⟩
    · rw [if_neg h, n_step w hw k (by omega), q_mk_iff hw hM r (k + 1) (by omega)]
      constructor
      · rintro ⟨j, h1, h2, h3⟩
        exact ⟨j, by omega, h2, h3⟩
      · rintro ⟨j, h1, h2, h3⟩
        refine ⟨j, ?_, h2, h3⟩
        rcases Nat.lt_or_ge k j with h4 | h4
        · omega
        · have e : j = k := by omega
          subst e
          exact absurd (by rw [h3]) h
theorem n_mask_lt {Mk w : Nat} (hw : w < 33) : Mk &&& (2 ^ w - 1) < 2 ^ w := by
  have h1 : Mk &&& (2 ^ w - 1) ≤ 2 ^ w - 1 := Nat.and_le_right
  have h2 : 0 < 2 ^ w := Nat.two_pow_pos w
  omega
theorem n_xx (a b : Nat) : (a ^^^ b) ^^^ b = a := by rw [Nat.xor_assoc, Nat.xor_self, Nat.xor_zero]
/-- a cut mask: the class's test and the reference's -/
theorem q_isMask_mm {kind kind2 m ones : Int32} {w : Nat} (hw1 : 1 ≤ w) (hw : w ≤ 32) (ho : ones = q_ones (nI w)) (hm : m &&& ones = m) (hk : kind = 0 ∧ kind2 = 0 ∨ kind = 1 ∧ kind2 = 1 ∨ kind = 2 ∧ kind2 = 2) : q_isMask kind m ones = q_mm kind2 m ones w := by
  have ho2 : ones = nI (2 ^ w - 1) := ho.trans (q_on_nI w (by omega) hw1).2
  have hMr := nI_rep m
  have hMl : m.toBitVec.toNat < 2 ^ 32 := m.toBitVec.isLt
  generalize m.toBitVec.toNat = Mk at hMr hMl
  subst hMr
  have hw2 : 2 ^ w ≤ 2 ^ 32 := Nat.pow_le_pow_right (by decide) hw
  have hMw : Mk < 2 ^ w := by
    rw [ho2, nq_and] at hm
    have h1 := n_mask_lt (Mk := Mk) (w := w) (by omega)
    have h2 := nI_inj32 (by omega) hMl hm
    omega
  have hpos : 0 < 2 ^ w := Nat.two_pow_pos w
  rcases hk with ⟨rfl, rfl⟩ | ⟨rfl, rfl⟩ | ⟨rfl, rfl⟩
  · unfold q_isMask q_mm
    rw [if_pos rfl, if_pos rfl, ho2, nq_xor]
    by_cases h : Mk = 2 ^ w - 1
    · rw [if_pos (by rw [h, Nat.xor_self]; rfl), if_pos (by rw [h])]
    · rw [if_neg, if_neg]
      · exact fun q => h (nI_inj32 hMl (by omega) q)
      · intro q
        have hlt : Mk ^^^ (2 ^ w - 1) < 2 ^ w := Nat.xor_lt_two_pow hMw (by omega)
        have := nI_inj32 (by omega) (by decide) (show nI (Mk ^^^ (2 ^ w - 1)) = nI 0 from q)
        have h2 := n_xx Mk (2 ^ w - 1)
        rw [this, Nat.zero_xor] at h2
        exact h h2.symm
  · unfold q_isMask q_mm
    rw [if_neg (show ¬ (1 : Int32) = 0 by decide), if_pos rfl, if_neg (show ¬ (1 : Int32) = 0 by decide), if_neg (show ¬ (1 : Int32) = 2 by decide), ho2, nq_xor, nI_1, nq_and]
    have hlt : Mk ^^^ (2 ^ w - 1) < 2 ^ w := Nat.xor_lt_two_pow hMw (by omega)
    have hiff := q_mk_iff (Mk := Mk) (w := w) (by omega) hMl w 0 (by omega)
    rw [show 2 ^ w - 2 ^ 0 = 2 ^ w - 1 from rfl] at hiff
    by_cases h : (Mk ^^^ (2 ^ w - 1)) &&& ((Mk ^^^ (2 ^ w - 1)) + 1) = 0
    · rw [if_pos (by rw [h]; rfl)]
      obtain ⟨k, hk⟩ := n_pow h
      have hkw : k ≤ w := by
        have : 2 ^ k ≤ 2 ^ w := by omega
        exact (Nat.pow_le_pow_iff_right (by decide)).mp this
      refine (hiff.mpr ⟨k, by omega, hkw, ?_⟩).symm
      have h2 := n_xx Mk (2 ^ w - 1)
      have h3 := n_xx (2 ^ w - 2 ^ k) (2 ^ w - 1)
      rw [n_xor w (by omega) k (by omega)] at h3
      rw [show Mk ^^^ (2 ^ w - 1) = 2 ^ k - 1 by omega] at h2
      exact h2.symm.trans h3
    · have hne : ¬ nI ((Mk ^^^ (2 ^ w - 1)) &&& ((Mk ^^^ (2 ^ w - 1)) + 1)) = 0 := fun q => h (nI_inj32 (Nat.lt_of_le_of_lt Nat.and_le_left (by omega)) (by decide) (show nI _ = nI 0 from q))
      rw [if_neg hne]
      rcases nar_mk (nI Mk) w 0 (nI (2 ^ w - 1)) with h2 | h2
      · exact h2.symm
      · obtain ⟨j, -, h4, h5⟩ := hiff.mp h2
        refine absurd ?_ h
        rw [h5, n_xor w (by omega) j (by omega), show 2 ^ j - 1 + 1 = 2 ^ j from by have := Nat.two_pow_pos j; omega]
        exact n_pow' j (by omega)
  · unfold q_isMask q_mm
    rw [if_neg (show ¬ (2 : Int32) = 0 by decide), if_neg (show ¬ (2 : Int32) = 1 by decide), if_neg (show ¬ (2 : Int32) = 0 by decide), if_pos rfl]
/-! the count of ones -/
theorem n_land {a m : Nat} (c M : Nat) (ha : a < 256) (hm : m < 256) : (a + 256 * c) &&& (m + 256 * M) = (a &&& m) + 256 * (c &&& M) := by
  have ham : a &&& m < 2 ^ 8 := Nat.lt_of_le_of_lt Nat.and_le_left ha
  apply Nat.eq_of_testBit_eq
  intro i
  rw [Nat.testBit_and, Nat.add_comm a, Nat.add_comm m, Nat.add_comm (a &&& m), show 256 = 2 ^ 8 from rfl, Nat.testBit_two_pow_mul_add _ (show a < 2 ^ 8 from ha), Nat.testBit_two_pow_mul_add _ (show m < 2 ^ 8 from hm), Nat.testBit_two_pow_mul_add _ ham]
  by_cases h : i < 8
  · simp only [if_pos h, Nat.testBit_and]
  · simp only [if_neg h, Nat.testBit_and]
def n_L (a0 a1 a2 a3 : Nat) : Nat := a0 + 256 * (a1 + 256 * (a2 + 256 * a3))
theorem n_Land {a0 a1 a2 a3 m0 m1 m2 m3 : Nat} (h0 : a0 < 256) (h1 : a1 < 256) (h2 : a2 < 256) (k0 : m0 < 256) (k1 : m1 < 256) (k2 : m2 < 256) : n_L a0 a1 a2 a3 &&& n_L m0 m1 m2 m3 = n_L (a0 &&& m0) (a1 &&& m1) (a2 &&& m2) (a3 &&& m3) := by
  unfold n_L
  rw [n_land _ _ h0 k0, n_land _ _ h1 k1, n_land _ _ h2 k2]
theorem n_L2 (a0 a1 a2 a3 : Nat) : n_L a0 a1 a2 a3 / 2 ^ 1 = n_L (a0 / 2 + 128 * (a1 % 2)) (a1 / 2 + 128 * (a2 % 2)) (a2 / 2 + 128 * (a3 % 2)) (a3 / 2 + 128 * 0) := by unfold n_L; omega
theorem n_L4 (a0 a1 a2 a3 : Nat) : n_L a0 a1 a2 a3 / 2 ^ 2 = n_L (a0 / 4 + 64 * (a1 % 4)) (a1 / 4 + 64 * (a2 % 4)) (a2 / 4 + 64 * (a3 % 4)) (a3 / 4 + 64 * 0) := by unfold n_L; omega
theorem n_L16 (a0 a1 a2 a3 : Nat) : n_L a0 a1 a2 a3 / 2 ^ 4 = n_L (a0 / 16 + 16 * (a1 % 16)) (a1 / 16 + 16 * (a2 % 16)) (a2 / 16 + 16 * (a3 % 16)) (a3 / 16 + 16 * 0) := by unfold n_L; omega
theorem n_L256 {a0 a1 a2 a3 : Nat} (h : a0 < 256) : n_L a0 a1 a2 a3 / 2 ^ 8 = n_L a1 a2 a3 0 := by unfold n_L; omega
theorem n_L64k {a0 a1 a2 a3 : Nat} (h : a0 < 256) (h1 : a1 < 256) : n_L a0 a1 a2 a3 / 2 ^ 16 = n_L a2 a3 0 0 := by unfold n_L; omega
theorem n_Lsub {a0 a1 a2 a3 c0 c1 c2 c3 : Nat} (h0 : c0 ≤ a0) (h1 : c1 ≤ a1) (h2 : c2 ≤ a2) (h3 : c3 ≤ a3) : n_L a0 a1 a2 a3 - n_L c0 c1 c2 c3 = n_L (a0 - c0) (a1 - c1) (a2 - c2) (a3 - c3) ∧ n_L c0 c1 c2 c3 ≤ n_L a0 a1 a2 a3 := by unfold n_L; omega
theorem n_Ladd (a0 a1 a2 a3 c0 c1 c2 c3 : Nat) : n_L a0 a1 a2 a3 + n_L c0 c1 c2 c3 = n_L (a0 + c0) (a1 + c1) (a2 + c2) (a3 + c3) := by unfold n_L; omega
theorem n_Llt {a0 a1 a2 a3 : Nat} (h0 : a0 < 256) (h1 : a1 < 256) (h2 : a2 < 256) (h3 : a3 < 256) : n_L a0 a1 a2 a3 < 2 ^ 32 := by unfold n_L; omega
def n_p8 (a : Nat) : Nat := a % 2 + a / 2 % 2 + a / 4 % 2 + a / 8 % 2 + a / 16 % 2 + a / 32 % 2 + a / 64 % 2 + a / 128 % 2
def n_s1 (a : Nat) : Nat := a - ((a / 2) &&& 85)
def n_s2 (a : Nat) : Nat := (a &&& 51) + ((a / 4) &&& 51)
theorem n_g1 : ∀ a : Nat, a < 256 → ∀ c : Nat, c < 2 → a / 2 + 128 * c < 256 ∧ (a / 2 + 128 * c) &&& 85 = (a / 2) &&& 85 := by decide +kernel
theorem n_g2 : ∀ a : Nat, a < 256 → ∀ c : Nat, c < 4 → a / 4 + 64 * c < 256 ∧ (a / 4 + 64 * c) &&& 51 = (a / 4) &&& 51 := by decide +kernel
theorem n_g3 : ∀ a : Nat, a < 256 → ((a / 2) &&& 85) ≤ a ∧ n_s1 a < 256 ∧ n_s2 (n_s1 a) < 256 ∧ n_s2 (n_s1 a) % 16 < 5 := by decide +kernel
theorem n_g4 : ∀ a : Nat, a < 256 → ∀ c : Nat, c < 5 → n_s2 (n_s1 a) + (n_s2 (n_s1 a) / 16 + 16 * c) < 256 ∧ (n_s2 (n_s1 a) + (n_s2 (n_s1 a) / 16 + 16 * c)) &&& 15 = n_p8 a ∧ n_p8 a ≤ 8 := by decide +kernel
theorem n_g5 : ∀ a : Nat, a < 64 → a &&& 63 = a := by decide +kernel
theorem n_lanes {n : Nat} (h : n < 2 ^ 32) : n = n_L (n % 256) (n / 256 % 256) (n / 65536 % 256) (n / 16777216) := by unfold n_L; omega
theorem q_bc_L {a0 a1 a2 a3 : Nat} (h0 : a0 < 256) (h1 : a1 < 256) (h2 : a2 < 256) (h3 : a3 < 256) : q_bc (nI (n_L a0 a1 a2 a3)) = nI (n_p8 a0 + n_p8 a1 + n_p8 a2 + n_p8 a3) := by
  have hm2 : ∀ x : Nat, x % 2 < 2 := fun x => Nat.mod_lt _ (by decide)
  have hm4 : ∀ x : Nat, x % 4 < 4 := fun x => Nat.mod_lt _ (by decide)
  obtain ⟨k0, s0, t0, m0⟩ := n_g3 a0 h0
  obtain ⟨k1, s1, t1, m1⟩ := n_g3 a1 h1
  obtain ⟨k2, s2, t2, m2⟩ := n_g3 a2 h2
  obtain ⟨k3, s3, t3, m3⟩ := n_g3 a3 h3
  have b1 : q_b1 (nI (n_L a0 a1 a2 a3)) = nI (n_L (n_s1 a0) (n_s1 a1) (n_s1 a2) (n_s1 a3)) := by
    unfold q_b1
    rw [pk_ushrN (n_Llt h0 h1 h2 h3) 1 1 (by decide), n_L2, show (1431655765 : Int32) = nI (n_L 85 85 85 85) from by decide, nq_and, n_Land (n_g1 a0 h0 _ (hm2 _)).1 (n_g1 a1 h1 _ (hm2 _)).1 (n_g1 a2 h2 _ (hm2 _)).1 (by decide) (by decide) (by decide)]
    rw [(n_g1 a0 h0 _ (hm2 _)).2, (n_g1 a1 h1 _ (hm2 _)).2, (n_g1 a2 h2 _ (hm2 _)).2, (n_g1 a3 h3 0 (by decide)).2, pk_sub (n_Lsub k0 k1 k2 k3).2, (n_Lsub k0 k1 k2 k3).1]
    rfl
  have b2 : q_b2 (nI (n_L (n_s1 a0) (n_s1 a1) (n_s1 a2) (n_s1 a3))) = nI (n_L (n_s2 (n_s1 a0)) (n_s2 (n_s1 a1)) (n_s2 (n_s1 a2)) (n_s2 (n_s1 a3))) := by
    unfold q_b2
    rw [pk_ushrN (n_Llt s0 s1 s2 s3) 2 2 (by decide), n_L4, show (858993459 : Int32) = nI (n_L 51 51 51 51) from by decide, nq_and, nq_and, n_Land s0 s1 s2 (by decide) (by decide) (by decide), n_Land (n_g2 _ s0 _ (hm4 _)).1 (n_g2 _ s1 _ (hm4 _)).1 (n_g2 _ s2 _ (hm4 _)).1 (by decide) (by decide) (by decide)]
    rw [(n_g2 _ s0 _ (hm4 _)).2, (n_g2 _ s1 _ (hm4 _)).2, (n_g2 _ s2 _ (hm4 _)).2, (n_g2 _ s3 0 (by decide)).2, nI_add, n_Ladd]
    rfl
  obtain ⟨u0, v0, p0⟩ := n_g4 a0 h0 _ m1
  obtain ⟨u1, v1, p1⟩ := n_g4 a1 h1 _ m2
  obtain ⟨u2, v2, p2⟩ := n_g4 a2 h2 _ m3
  obtain ⟨u3, v3, p3⟩ := n_g4 a3 h3 0 (by decide)
  have b3 : q_b3 (nI (n_L (n_s2 (n_s1 a0)) (n_s2 (n_s1 a1)) (n_s2 (n_s1 a2)) (n_s2 (n_s1 a3)))) = nI (n_L (n_p8 a0) (n_p8 a1) (n_p8 a2) (n_p8 a3)) := by
    unfold q_b3
    rw [pk_ushrN (n_Llt t0 t1 t2 t3) 4 4 (by decide), n_L16, nI_add, n_Ladd, show (252645135 : Int32) = nI (n_L 15 15 15 15) from by decide, nq_and, n_Land u0 u1 u2 (by decide) (by decide) (by decide), v0, v1, v2, v3]
  unfold q_bc
  rw [b1, b2, b3]
  unfold q_b4
  rw [pk_ushrN (n_Llt (by omega) (by omega) (by omega) (by omega)) 8 8 (by decide), n_L256 (by omega), nI_add, n_Ladd]
  unfold q_b5
  rw [pk_ushrN (n_Llt (by omega) (by omega) (by omega) (by omega)) 16 16 (by decide), n_L64k (by omega) (by omega), nI_add, n_Ladd, show (63 : Int32) = nI (n_L 63 0 0 0) from by decide, nq_and, n_Land (by omega) (by omega) (by omega) (by decide) (by decide) (by decide), n_g5 _ (by omega)]
  simp only [Nat.and_zero]
  unfold n_L
  congr 1
  omega
theorem n_su : ∀ k : Nat, k < 32 → (((nI k).toUInt32 &&& Int32.toUInt32 31).toBitVec % 32).toNat = k := by decide +kernel
theorem n_sl : ∀ k : Nat, k < 32 → ((nI k &&& 31).toBitVec.smod 32).toNat = k := by decide +kernel
def n_sum (n : Nat) : Nat → Nat
  | 0 => 0
  | k + 1 => n_sum n k + n / 2 ^ k % 2
theorem q_bits_nI {n : Nat} (hn : n < 2 ^ 32) : ∀ k : Nat, k < 33 → q_bits (nI n) k = nI (n_sum n k)
  | 0, _ => rfl
  | k + 1, hk => by
    unfold q_bits n_sum
    rw [q_bits_nI hn k (by omega), pk_ushrN hn (nI k) k (n_su k (by omega)), pk_andN (Nat.lt_of_le_of_lt (Nat.div_le_self _ _) hn) 1 (by decide), nI_add]
theorem n_dd (n k i : Nat) : n / 2 ^ (k + i) = n / 2 ^ k / 2 ^ i := by rw [Nat.pow_add, Nat.div_div_eq_div_mul]
theorem n_p8_eq (m : Nat) : n_p8 (m % 256) = m % 2 + m / 2 % 2 + m / 4 % 2 + m / 8 % 2 + m / 16 % 2 + m / 32 % 2 + m / 64 % 2 + m / 128 % 2 := by
  unfold n_p8
  rw [show m % 256 % 2 = m % 2 by omega, show m % 256 / 2 % 2 = m / 2 % 2 by omega, show m % 256 / 4 % 2 = m / 4 % 2 by omega, show m % 256 / 8 % 2 = m / 8 % 2 by omega, show m % 256 / 16 % 2 = m / 16 % 2 by omega, show m % 256 / 32 % 2 = m / 32 % 2 by omega, show m % 256 / 64 % 2 = m / 64 % 2 by omega, show m % 256 / 128 % 2 = m / 128 % 2 by omega]
theorem n_sum8 (n k : Nat) : n_sum n (k + 8) = n_sum n k + n_p8 (n / 2 ^ k % 256) := by
  rw [n_p8_eq]
  simp only [n_sum]
  rw [n_dd n k 1, n_dd n k 2, n_dd n k 3, n_dd n k 4, n_dd n k 5, n_dd n k 6, n_dd n k 7]
  generalize n / 2 ^ k = m
  simp only [Nat.reducePow]
  omega
theorem n_sum32 (n : Nat) : n_sum n 32 = n_p8 (n % 256) + n_p8 (n / 256 % 256) + n_p8 (n / 65536 % 256) + n_p8 (n / 16777216 % 256) := by
  rw [n_sum8 n 24, n_sum8 n 16, n_sum8 n 8, n_sum8 n 0]
  simp only [n_sum, Nat.reducePow, Nat.div_one, Nat.zero_add]
theorem q_bc_bits (x : Int32) : q_bc x = q_bits x 32 := by
  rw [nI_rep x]
  have h : x.toBitVec.toNat < 2 ^ 32 := x.toBitVec.isLt
  generalize x.toBitVec.toNat = n at h
  rw [q_bits_nI h 32 (by decide), n_sum32]
  have e := n_lanes h
  have h3 : n / 16777216 < 256 := by omega
  rw [show nI n = nI (n_L (n % 256) (n / 256 % 256) (n / 65536 % 256) (n / 16777216)) from congrArg nI e, q_bc_L (by omega) (by omega) (by omega) h3, Nat.mod_eq_of_lt h3]
theorem n_landp {a r m : Nat} (c M : Nat) (hr : r < 2 ^ a) (hm : m < 2 ^ a) : (r + 2 ^ a * c) &&& (m + 2 ^ a * M) = (r &&& m) + 2 ^ a * (c &&& M) := by
  have ham : r &&& m < 2 ^ a := Nat.lt_of_le_of_lt Nat.and_le_left hr
  apply Nat.eq_of_testBit_eq
  intro i
  rw [Nat.testBit_and, Nat.add_comm r, Nat.add_comm m, Nat.add_comm (r &&& m), Nat.testBit_two_pow_mul_add _ hr, Nat.testBit_two_pow_mul_add _ hm, Nat.testBit_two_pow_mul_add _ ham]
  by_cases h : i < a
  · simp only [if_pos h, Nat.testBit_and]
  · simp only [if_neg h, Nat.testBit_and]
theorem n_top : ∀ a : Nat, a < 17 → (((1 : Int32) <<< (nI a &&& 31)) - 1) ^^^ (-1) = nI (0 + 2 ^ a * (2 ^ (32 - a) - 1)) := by decide +kernel
theorem q_ac_iff {x : Int32} {a : Nat} (ha : a ≤ 16) : (x &&& ((((1 : Int32) <<< (nI a &&& 31)) - 1) ^^^ (-1)) = 0 ↔ x.toBitVec.toNat < 2 ^ a) ∧ ((x.toUInt32 >>> ((nI a).toUInt32 &&& Int32.toUInt32 31)).toInt32 = 0 ↔ x.toBitVec.toNat < 2 ^ a) := by
  rw [n_top a (by omega), nI_rep x]
  have h : x.toBitVec.toNat < 2 ^ 32 := x.toBitVec.isLt
  generalize x.toBitVec.toNat = n at h
  rw [pk_tn h, pk_ushrN h (nI a) a (n_su a (by omega)), nq_and]
  have hp : 0 < 2 ^ a := Nat.two_pow_pos a
  have hdiv : n / 2 ^ a < 2 ^ 32 := Nat.lt_of_le_of_lt (Nat.div_le_self _ _) h
  have hq : n / 2 ^ a < 2 ^ (32 - a) := by
    rw [Nat.div_lt_iff_lt_mul hp, ← Nat.pow_add, Nat.sub_add_cancel (by omega)]
    exact h
  constructor
  · have e : n &&& (0 + 2 ^ a * (2 ^ (32 - a) - 1)) = 2 ^ a * (n / 2 ^ a) := by
      have h1 := n_landp (a := a) (r := n % 2 ^ a) (m := 0) (n / 2 ^ a) (2 ^ (32 - a) - 1) (Nat.mod_lt _ hp) hp
      rw [Nat.mod_add_div, Nat.and_zero, Nat.zero_add, Nat.and_two_pow_sub_one_eq_mod, Nat.mod_eq_of_lt hq] at h1
      rw [Nat.zero_add]
      rw [Nat.zero_add] at h1
      exact h1
    rw [e]
    have hle : 2 ^ a * (n / 2 ^ a) ≤ n := Nat.mul_div_le _ _
    constructor
    · intro q
      have := nI_inj32 (by omega) (by decide) (show nI (2 ^ a * (n / 2 ^ a)) = nI 0 from q)
      rcases Nat.mul_eq_zero.mp this with h2 | h2
      · omega
      · exact (Nat.div_eq_zero_iff.mp h2).resolve_left (by omega)
    · intro q
      rw [Nat.div_eq_of_lt q, Nat.mul_zero]; rfl
  · constructor
    · intro q
      have := nI_inj32 hdiv (by decide) (show nI (n / 2 ^ a) = nI 0 from q)
      exact (Nat.div_eq_zero_iff.mp this).resolve_left (by omega)
    · intro q
      rw [Nat.div_eq_of_lt q]; rfl
theorem q_in_01 (x k : Int32) : q_in x k = 0 ∨ q_in x k = 1 := by unfold q_in; split <;> simp
theorem q_in_m1 (k : Int32) : q_in (-1) k = 0 := by unfold q_in; rw [if_pos (Or.inl (by decide))]
/-- a table's fields and actions -/
theorem q_un_0 {x1 x2 x4 x5 : Int32} {kf a : Nat} (ha : a ≤ 16) (h1 : ¬ q_kf x1 x2 (nI kf) = 0) (h2 : ¬ q_ac x4 x5 (nI a) = 0) : q_un x1 x2 x4 x5 (nI kf) (nI a) = 0 ∧ ¬ q_in x1 (nI kf) = 0 ∧ (x2 = -1 ∨ ¬ q_in x2 (nI kf) = 0 ∧ ¬ x1 = x2) ∧ x4.toBitVec.toNat < 2 ^ a ∧ ¬ q_in x5 (nI a) = 0 := by
  unfold q_kf at h1
  unfold q_ac q_acb at h2
  by_cases c1 : q_in x1 (nI kf) = 0
  · rw [if_pos c1] at h1; exact absurd rfl h1
  rw [if_neg c1] at h1
  by_cases c2 : x4 &&& ((((1 : Int32) <<< (nI a &&& 31)) - 1) ^^^ (-1)) = 0
  · rw [if_pos c2] at h2
    have c2' := (q_ac_iff ha).1.mp c2
    have c3' := (q_ac_iff ha).2.mpr c2'
    by_cases c4 : q_in x5 (nI a) = 0
    · rw [if_pos c4] at h2; exact absurd rfl h2
    rw [if_neg c4] at h2
    by_cases c5 : (x4 >>> (x5 &&& 31)) &&& 1 = 0
    · rw [if_pos c5] at h2; exact absurd rfl h2
    have key : (x2 = -1 ∨ ¬ q_in x2 (nI kf) = 0 ∧ ¬ x1 = x2) := by
      by_cases c6 : x2 = -1
      · exact Or.inl c6
      · rw [if_neg c6] at h1
        by_cases c7 : q_in x2 (nI kf) = 0
        · rw [if_pos c7] at h1; exact absurd rfl h1
        rw [if_neg c7] at h1
        by_cases c8 : x1 = x2
        · rw [if_pos c8] at h1; exact absurd rfl h1
        exact Or.inr ⟨c7, c8⟩
    refine ⟨?_, c1, key, c2', c4⟩
    have k1 : ¬ x1 = x2 := by
      rcases key with q | q
      · intro q2; rw [q2, q] at c1; exact c1 (q_in_m1 _)
      · exact q.2
    have k2 : ¬ (¬ x2 = -1 ∧ ¬ q_nt x2 (nI kf) = 0) := by
      rintro ⟨q1, q2⟩
      exact q2 (q_nt_0 (key.resolve_left q1).1)
    unfold q_un
    rw [if_neg (fun q => q (q_nt_0 c1)), if_neg k2, if_neg k1, if_neg (fun q => q c3'), if_neg (fun q => q (q_nt_0 c4)), if_neg c5]
  · rw [if_neg c2] at h2; exact absurd rfl h2
theorem q_un_1 {x1 x2 x4 x5 : Int32} {kf a : Nat} (ha : a ≤ 16) (h : q_kf x1 x2 (nI kf) = 0 ∨ q_ac x4 x5 (nI a) = 0) : q_un x1 x2 x4 x5 (nI kf) (nI a) = 1 := by
  unfold q_un
  by_cases c1 : ¬ q_nt x1 (nI kf) = 0
  · rw [if_pos c1]
  rw [if_neg c1]
  by_cases c2 : ¬ x2 = -1 ∧ ¬ q_nt x2 (nI kf) = 0
  · rw [if_pos c2]
  rw [if_neg c2]
  by_cases c3 : x1 = x2
  · rw [if_pos c3]
  rw [if_neg c3]
  by_cases c4 : ¬ (x4.toUInt32 >>> ((nI a).toUInt32 &&& Int32.toUInt32 31)).toInt32 = 0
  · rw [if_pos c4]
  rw [if_neg c4]
  by_cases c5 : ¬ q_nt x5 (nI a) = 0
  · rw [if_pos c5]
  rw [if_neg c5]
  by_cases c6 : (x4 >>> (x5 &&& 31)) &&& 1 = 0
  · rw [if_pos c6]
  exfalso
  have c1' := q_nt_iff.mp (Decidable.not_not.mp c1)
  have c4' := (q_ac_iff ha).1.mpr ((q_ac_iff ha).2.mp (Decidable.not_not.mp c4))
  have c5' := q_nt_iff.mp (Decidable.not_not.mp c5)
  rcases h with h | h
  · unfold q_kf at h
    rw [if_neg c1'] at h
    by_cases c7 : x2 = -1
    · rw [if_pos c7] at h; exact absurd h (by decide)
    · rw [if_neg c7] at h
      have c8 : q_nt x2 (nI kf) = 0 := Decidable.byContradiction (fun q => c2 ⟨c7, q⟩)
      rw [if_neg (q_nt_iff.mp c8), if_neg c3] at h
      exact absurd h (by decide)
  · unfold q_ac q_acb at h
    rw [if_pos c4', if_neg c5', if_neg c6] at h
    exact absurd h (by decide)
/-- the ways to match -/
theorem q_hm_small : ∀ j : Nat, j < 11 → (q_hm (nI j) (-1) = 0 ↔ ¬ q_hw (nI j) (-1) = 0) ∧ (q_hm (nI j) 0 = 0 ↔ ¬ q_hw (nI j) 0 = 0) := by decide +kernel
theorem q_hm_ne (x : Int32) {y : Int32} (h : ¬ y = -1) : q_hm x y = q_hm x 0 ∧ q_hw x y = q_hw x 0 := by
  constructor
  · unfold q_hm
    rw [if_neg (fun q => h q.1 : ¬ (y = -1 ∧ 2 < x)), if_neg (fun q => absurd q.1 (by decide) : ¬ ((0 : Int32) = -1 ∧ 2 < x))]
  · unfold q_hw q_hwb
    rw [if_neg h, if_neg (show ¬ (0 : Int32) = -1 by decide)]
theorem q_hm_01 (x y : Int32) : q_hm x y = 0 ∨ q_hm x y = 1 := by unfold q_hm; repeat' split
                                                                  all_goals simp
theorem q_hm_iff (x y : Int32) : q_hm x y = 0 ↔ ¬ q_hw x y = 0 := by
  by_cases h0 : x < 0
  · have e1 : q_hm x y = 1 := by unfold q_hm; rw [if_pos h0]
    have h2 : x >>> ((2 : Int32) &&& 31) < 0 := by
      rw [Int32.lt_iff_toInt_lt] at h0 ⊢
      rw [pk_shr x _ 2 (by decide), Int.shiftRight_eq_div_pow]
      simp only [Int32.toInt_zero] at h0 ⊢
      omega
    have e2 : q_hw x y = 0 := by
      unfold q_hw q_hwb
      by_cases c : 2 < x &&& 3
      · rw [if_pos c]
      · rw [if_neg c, if_pos h2]
    rw [e1, e2]
    decide
  · obtain ⟨j, hj, rfl⟩ := nI_of h0
    by_cases h1 : j < 11
    · by_cases hy : y = -1
      · subst hy; exact (q_hm_small j h1).1
      · rw [(q_hm_ne (nI j) hy).1, (q_hm_ne (nI j) hy).2]; exact (q_hm_small j h1).2
    · have e1 : q_hm (nI j) y = 1 := by
        unfold q_hm
        rw [if_neg (nI_pos hj), if_pos (show 10 < nI j from nI_lt (a := 10) (by omega) hj)]
      have e2 : q_hw (nI j) y = 0 := by
        unfold q_hw q_hwb
        rw [pk_andN (by omega) 2 (by decide), pk_shrN hj _ 2 (by decide)]
        by_cases c : (2 : Int32) < nI (j % 2 ^ 2)
        · rw [if_pos c]
        · rw [if_neg c, if_neg (nI_pos (by omega))]
          have : ¬ nI (j / 2 ^ 2) ≤ 2 := by
            intro q
            have q2 := (nI_leI (by omega) (by decide)).mp (show nI (j / 2 ^ 2) ≤ nI 2 from q)
            have q3 : ¬ 2 < j % 2 ^ 2 := fun q4 => c (nI_lt (a := 2) q4 (by omega))
            omega
          rw [if_neg this]
      rw [e1, e2]
      decide
theorem q_how {x y : Int32} (h : q_hm x y = 0) : ∃ j : Nat, j < 11 ∧ x = nI j ∧ j % 4 < 3 ∧ j / 4 < 3 ∧ (y = -1 → j / 4 = 0) ∧ x &&& 3 = nI (j % 4) ∧ x >>> ((2 : Int32) &&& 31) = nI (j / 4) ∧ x - x / 4 * 4 = nI (j % 4) ∧ x / 4 = nI (j / 4) := by
  unfold q_hm at h
  by_cases c1 : x < 0
  · rw [if_pos c1] at h; exact absurd h (by decide)
  rw [if_neg c1] at h
  obtain ⟨j, hj, rfl⟩ := nI_of c1
  by_cases c2 : 10 < nI j
  · rw [if_pos c2] at h; exact absurd h (by decide)
  rw [if_neg c2] at h
  have hj2 : j < 11 := by
    rcases Nat.lt_or_ge 10 j with q | q
    · exact absurd (nI_lt (a := 10) q hj) c2
    · omega
  by_cases c3 : nI j - nI j / 4 * 4 = 3
  · rw [if_pos c3] at h; exact absurd h (by decide)
  rw [if_neg c3] at h
  rw [show (4 : Int32) = nI 4 from rfl, pk_rem hj (by decide) (by decide)] at c3
  have hj4 : j % 4 < 3 := by
    rcases Nat.lt_or_ge (j % 4) 3 with q | q
    · exact q
    · exact absurd (show nI (j % 4) = nI 3 from by rw [show j % 4 = 3 by omega]) c3
  refine ⟨j, hj2, rfl, hj4, by omega, fun hy => ?_, by rw [pk_andN (by omega) 2 (by decide)], by rw [pk_shrN hj _ 2 (by decide)], by rw [show (4 : Int32) = nI 4 from rfl, pk_rem hj (by decide) (by decide)], by rw [show (4 : Int32) = nI 4 from rfl, pk_div hj (by decide) (by decide)]⟩
  by_cases c4 : y = -1 ∧ 2 < nI j
  · rw [if_pos c4] at h; exact absurd h (by decide)
  · have : ¬ 2 < j := fun q => c4 ⟨hy, nI_lt (a := 2) q hj⟩
    omega
theorem q_kind {j : Nat} (h : j < 3) : nI j = 0 ∧ nI j = 0 ∨ nI j = 1 ∧ nI j = 1 ∨ nI j = 2 ∧ nI j = 2 := by
  rcases (show j = 0 ∨ j = 1 ∨ j = 2 by omega) with rfl | rfl | rfl <;> decide
/-- which entry is better -/
theorem q_pre_pm {hw y hF hG e1 e3 : Int32} (h : q_hm hw y = 0) (h1 : hF = hw &&& 3) (h2 : hG = hw >>> ((2 : Int32) &&& 31)) : q_pre hF hG e1 e3 = q_pm hw e1 e3 ∧ ∃ a : Nat, a ≤ 32 ∧ q_pm hw e1 e3 = nI a := by
  obtain ⟨j, -, -, -, -, -, a1, a2, a3, a4⟩ := q_how h
  have hr : ∀ x : Int32, ∃ a : Nat, a ≤ 32 ∧ q_bits x 32 = nI a := by
    intro x
    rw [nI_rep x]
    have hl : x.toBitVec.toNat < 2 ^ 32 := x.toBitVec.isLt
    generalize x.toBitVec.toNat = n at hl
    refine ⟨n_sum n 32, ?_, q_bits_nI hl 32 (by decide)⟩
    rw [n_sum32]
    have g : ∀ q : Nat, n_p8 (q % 256) ≤ 8 := fun q => (n_g4 (q % 256) (Nat.mod_lt _ (by decide)) 0 (by decide)).2.2
    have h1 := g n
    have h2 := g (n / 256)
    have h3 := g (n / 65536)
    have h4 := g (n / 16777216)
    omega
  subst h1; subst h2
  unfold q_pre q_pm
  rw [a1, a2, a3, a4, q_bc_bits, q_bc_bits]
  refine ⟨rfl, ?_⟩
  by_cases c1 : nI (j % 4) = 1
  · rw [if_pos c1]; exact hr _
  · rw [if_neg c1]
    by_cases c2 : nI (j / 4) = 1
    · rw [if_pos c2]; exact hr _
    · rw [if_neg c2]; exact ⟨0, by decide, rfl⟩
theorem q_bet_bm {p1 p2 r1 r2 : Int32} (h1 : ∃ a : Nat, a ≤ 32 ∧ p1 = nI a) (h2 : ∃ a : Nat, a ≤ 32 ∧ p2 = nI a) : q_bet p1 p2 r1 r2 = q_bm p1 p2 r1 r2 := by
  obtain ⟨a, ha, rfl⟩ := h1
  obtain ⟨c, hc, rfl⟩ := h2
  unfold q_bet q_bm
  rcases Nat.lt_trichotomy a c with h | h | h
  · have e1 : ¬ nI a = nI c := fun q => by have := (nI_eq (by omega) (by omega)).mp q; omega
    have e2 : nI a - nI c < 0 := pk_sneg (by omega) h
    have e3 : ¬ 0 < nI a - nI c := fun q => Int32.lt_irrefl (Int32.lt_trans q e2)
    have e4 : ¬ nI a - nI c = 0 := fun q => by rw [q] at e2; exact absurd e2 (by decide)
    rw [if_neg e1, if_pos (nI_le (by omega) (by omega)), if_neg e3, if_neg e4]
  · subst h
    have e1 : nI a - nI a = 0 := by rw [pk_sub (Nat.le_refl _), Nat.sub_self]; rfl
    rw [if_pos rfl, e1, if_neg (show ¬ (0 : Int32) < 0 by decide), if_pos rfl]
  · have e1 : ¬ nI a = nI c := fun q => by have := (nI_eq (by omega) (by omega)).mp q; omega
    have e2 : ¬ nI a ≤ nI c := nI_ge h (by omega)
    rw [if_neg e1, if_neg e2, pk_sub (by omega), if_pos (show (0 : Int32) < nI (a - c) from nI_lt (a := 0) (by omega) (by omega))]
/-- fitting -/
theorem q_xa {h e0 e1 : Int32} (hc : e0 &&& e1 = e0) : (h ^^^ e0) &&& e1 = 0 ↔ h &&& e1 = e0 := by
  have e : (h ^^^ e0) &&& e1 = (h &&& e1) ^^^ e0 := by
    conv => rhs; rw [← hc]
    rw [nI_rep h, nI_rep e0, nI_rep e1, nq_xor, nq_and, nq_and, nq_and, nq_xor, Nat.and_xor_distrib_right]
  rw [e, nI_rep (h &&& e1), nI_rep e0, nq_xor]
  have l1 : (h &&& e1).toBitVec.toNat < 2 ^ 32 := (h &&& e1).toBitVec.isLt
  have l2 : e0.toBitVec.toNat < 2 ^ 32 := e0.toBitVec.isLt
  generalize (h &&& e1).toBitVec.toNat = a at l1
  generalize e0.toBitVec.toNat = c at l2
  constructor
  · intro q
    have := nI_inj32 (Nat.xor_lt_two_pow l1 l2) (by decide) (show nI (a ^^^ c) = nI 0 from q)
    have h2 := n_xx a c
    rw [this, Nat.zero_xor] at h2
    rw [h2]
  · intro q
    rw [nI_inj32 l1 l2 q, Nat.xor_self]; rfl
theorem q_fits_2 {y1 y2 y3 y4 w1 w2 : Int32} (h1 : y1 &&& y2 = y1) (h2 : y3 &&& y4 = y3) : q_fits y1 y2 y3 y4 w1 w2 = q_f2 w1 w2 y1 y2 y3 y4 := by
  unfold q_fits q_f2
  by_cases c1 : w1 &&& y2 = y1
  · rw [if_pos ((q_xa h1).mpr c1)]
    by_cases c2 : w2 &&& y4 = y3
    · rw [if_pos ((q_xa h2).mpr c2), if_pos ⟨c1, c2⟩]
    · rw [if_neg (fun q => c2 ((q_xa h2).mp q)), if_neg (fun q => c2 q.2)]
  · rw [if_neg (fun q => c1 ((q_xa h1).mp q)), if_neg (fun q => c1 q.1)]
theorem q_fits_1 {y1 y2 w1 w2 : Int32} (h1 : y1 &&& y2 = y1) : q_fits y1 y2 0 0 w1 w2 = q_f1 w1 y1 y2 := by
  unfold q_fits q_f1
  have h0 : w2 &&& 0 = 0 := by rw [nI_rep w2, show (0 : Int32) = nI 0 from rfl, nq_and, Nat.and_zero]
  by_cases c1 : w1 &&& y2 = y1
  · rw [if_pos ((q_xa h1).mpr c1), if_pos ⟨c1, h0⟩]
  · rw [if_neg (fun q => c1 ((q_xa h1).mp q)), if_neg (fun q => c1 q.1)]
theorem q_row_congr {S S' : Nat → Int32} : ∀ (k i : Nat), (∀ j : Nat, i ≤ j → j < k + i → S j = S' j) → q_row S k i = q_row S' k i
  | 0, _, _ => rfl
  | k + 1, i, h => by
    unfold q_row
    rw [h i (by omega) (by omega), q_row_congr k (i + 1) (fun j h1 h2 => h j (by omega) (by omega))]
theorem q_best_congr {S S' : Nat → Int32} {B B' : Nat → Nat → Int32} : ∀ k : Nat, (∀ j : Nat, j < k → S j = S' j) → (∀ i j : Nat, i < k → j < k → B i j = B' i j) → q_best S B k = q_best S' B' k
  | 0, _, _ => rfl
  | k + 1, h1, h2 => by
    have ih := q_best_congr k (fun j h => h1 j (by omega)) (fun i j h h' => h2 i j (by omega) (by omega))
    unfold q_best
    rw [ih, h1 k (by omega)]
    cases hq : q_best S' B' k with
    | none => rfl
    | some j => simp only; rw [h2 k j (by omega) (by have := (q_best_lt hq).1; omega)]
/-- what insert takes in -/
theorem q_alw_in {al x : Int32} {An a : Nat} (hal : al = nI An) (hA : An < 2 ^ a) (ha : a ≤ 16) : q_alw al x = if q_in x (nI a) = 0 then 0 else if (al >>> (x &&& 31)) &&& 1 = 0 then 0 else 1 := by
  unfold q_alw
  by_cases c : q_in x (nI a) = 0
  · rw [if_pos c]
    by_cases c2 : x < 0 ∨ 16 ≤ x
    · rw [if_pos c2]
    · rw [if_neg c2]
      obtain ⟨j, hj, rfl⟩ := nI_of (fun q => c2 (Or.inl q))
      have hj2 : j < 16 := by
        rcases Nat.lt_or_ge j 16 with q | q
        · exact q
        · exact absurd (Or.inr (nI_le (a := 16) q hj)) c2
      have hj3 : a ≤ j := by
        rcases Nat.lt_or_ge j a with q | q
        · exact absurd c (q_in_ne q (by omega))
        · exact q
      have hA2 : An < 2 ^ 16 := Nat.lt_of_lt_of_le hA (Nat.pow_le_pow_right (by decide) ha)
      have hA3 : An < 2 ^ j := Nat.lt_of_lt_of_le hA (Nat.pow_le_pow_right (by decide) hj3)
      rw [hal, pk_shrN (by omega) _ j (n_sl j (by omega)), Nat.div_eq_of_lt hA3]
      rfl
  · rw [if_neg c]
    obtain ⟨j, hj, rfl⟩ := q_in_of (by omega) c
    rw [if_neg (fun q => q.elim (nI_pos (by omega)) (nI_ge (b := 16) (by omega) (by decide)))]
theorem q_tk_ti {M m1 m2 al x rv : Int32} {An a cn : Nat} (hal : al = nI An) (hA : An < 2 ^ a) (ha : a ≤ 16) (hcn : cn ≤ 20) (hM : M = 0 ↔ m1 = 0 ∨ m2 = 0) : q_tk M (q_alw al x) rv (nI cn) = q_ti rv (nI cn) x (nI a) al m1 m2 := by
  rw [q_alw_in hal hA ha]
  unfold q_tk q_ti
  have hc : nI cn < 20 ↔ ¬ nI cn = 20 := by
    constructor
    · intro q q2
      rw [q2] at q; exact absurd q (by decide)
    · intro q
      refine nI_lt (b := 20) ?_ (by decide)
      rcases Nat.lt_or_ge cn 20 with h | h
      · exact h
      · exact absurd (show nI cn = nI 20 from by rw [show cn = 20 by omega]) q
  by_cases c0 : rv = -1
  · rw [if_pos c0, if_pos c0]
    by_cases c1 : nI cn = 20
    · rw [if_pos c1, if_neg (fun q => hc.mp q c1)]
      repeat' split
      all_goals rfl
    · rw [if_neg c1, if_pos (hc.mpr c1)]
      by_cases c2 : q_in x (nI a) = 0
      · rw [if_pos c2, if_pos c2, if_pos rfl]
        split <;> rfl
      · rw [if_neg c2, if_neg c2]
        by_cases c3 : (al >>> (x &&& 31)) &&& 1 = 0
        · rw [if_pos c3, if_pos c3, if_pos rfl]
          split <;> rfl
        · rw [if_neg c3, if_neg c3, if_neg (show ¬ (1 : Int32) = 0 by decide)]
          by_cases c4 : M = 0
          · rw [if_pos c4]
            rcases hM.mp c4 with q | q
            · rw [if_pos q]
            · by_cases c5 : m1 = 0
              · rw [if_pos c5]
              · rw [if_neg c5, if_pos q]
          · rw [if_neg c4, if_neg (fun q => c4 (hM.mpr (Or.inl q))), if_neg (fun q => c4 (hM.mpr (Or.inr q)))]
  · rw [if_neg c0, if_neg c0]
    repeat' split
    all_goals rfl
theorem q_masks_0 {hF hG oF oG s2 s4 : Int32} : q_masks hF hG oF oG s2 s4 = 0 ↔ q_isMask hF s2 oF = 0 ∨ q_isMask hG s4 oG = 0 := by
  unfold q_masks
  by_cases c1 : q_isMask hF s2 oF = 0
  · rw [if_pos c1]; exact ⟨fun _ => Or.inl c1, fun _ => rfl⟩
  · rw [if_neg c1]
    by_cases c2 : q_isMask hG s4 oG = 0
    · rw [if_pos c2]; exact ⟨fun _ => Or.inr c2, fun _ => rfl⟩
    · rw [if_neg c2]; exact ⟨fun q => absurd q (by decide), fun q => q.elim (fun r => absurd r c1) (fun r => absurd r c2)⟩
