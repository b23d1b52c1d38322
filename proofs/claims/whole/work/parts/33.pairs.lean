/-! Each call of the law, on the object and on the reference (by wip/gen/k19.py). -/
def okR (rm : Room) : Prop := rm.cells = 0 ∧ rm.slots = 0 ∧ rm.frames ≤ 8 ∧ rm.locals ≤ 300
theorem q_C.bd {g : Nat → ClassId} {b : Nat} {f : Nat → va_E} {kf acn tcn : Nat} {po dr k1 k2 k3 k4 : Int32} {z1 z2 zc : Nat → Int32} {As : Nat → q_ad} {Ts : Nat → q_td} (h : q_C g b f kf acn tcn po dr k1 k2 k3 k4 z1 z2 zc As Ts) : kf ≤ 16 ∧ acn ≤ 16 ∧ tcn ≤ 8 ∧ (∀ k : Nat, k < 16 → (As k).1 ≤ 4) ∧ (∀ t : Nat, t < 8 → (Ts t).1 ≤ 20) := by
  obtain ⟨e0, e1, e2, e3, e4, e5, e6, e7, e8, hkf, hac, htc, hAs, hTs⟩ := h
  exact ⟨hkf, hac, htc, fun k hk => (hAs k hk).1, fun t ht => (hTs t ht).1⟩
theorem q_J.x {g : Nat → ClassId} {b : Nat} {f : Nat → va_E} {th : Int32} (h : q_J g b f th) : ∃ (ac tc po dr : Int32), f b = ob 7 [.ref (b + 1), .ref (b + 4), .ref (b + 6), .int ac, .ref (b + 7), .int tc, .ref (b + 8), .int po, .int dr] := by
  obtain ⟨kf, acn, tcn, po, dr, k1, k2, k3, k4, z1, z2, zc, As, Ts, zw, zn, zd, zo, zt, zq, zm, zs, zct, ze, zk, zx, hC, -⟩ := h
  exact ⟨_, _, _, _, hC.1⟩
theorem q_J.m {g : Nat → ClassId} {b : Nat} {f : Nat → va_E} {th : Int32} (h : q_J g b f th) : ∃ vs : List Value, f (b + 449) = ob 8 vs := by
  obtain ⟨kf, acn, tcn, po, dr, k1, k2, k3, k4, z1, z2, zc, As, Ts, zw, zn, zd, zo, zt, zq, zm, zs, zct, ze, zk, zx, hC, hM, -⟩ := h
  exact ⟨_, hM.1⟩
set_option maxHeartbeats 1000000 in
theorem J_port {l : Launch} {D : va_G} {g : Nat → ClassId} {b : Nat} {f : Nat → va_E} {th : Int32}  (hJ : q_J g b f th) : ∃ (r : Int32) (f1 f2 : Nat → va_E) (rm1 rm2 : Room), okR rm1 ∧ okR rm2 ∧ fp_M l D (TY g) b 465 (fz_A b) y_X_port (fp_ws y_X_port b_X_port 1 (some FieldType.int)) rm1 [.ref b] f (fun v f' => v = some (.int r) ∧ f' = f1) ∧ fp_M l D (TY g) b 465 (fz_A b) y_M_port (fp_ws y_M_port b_M_port 1 (some FieldType.int)) rm2 [.ref (b + 449)] f1 (fun v f' => v = some (.int r) ∧ f' = f2) ∧ (∃ vs : List Value, f1 (b + 449) = ob 8 vs) ∧ q_J g b f2 0 ∧ f2 (b + 464) = f (b + 464) := by
  obtain ⟨kf, acn, tcn, po, dr, k1, k2, k3, k4, z1, z2, zc, As, Ts, zw, zn, zd, zo, zt, zq, zm, zs, zct, ze, zk, zx, hC, hM, hdr, hzk, hRf, hRa, hRt, hTq⟩ := hJ
  obtain ⟨hkf, hac, htc, hA4, hT20⟩ := hC.bd
  obtain ⟨f2, hX2, hM2, hk2⟩ := m_port (b := b) (mo := b + 449) (l := l) (D := D)  (by omega) (by omega) hM fz_W
  have hC2 := hC.kp (f' := f2) (fun q h1 h2 => hk2 q (by omega))
  exact ⟨po, f, f2, rmD 0, rmD 0, ⟨rfl, rfl, by decide, by decide⟩, ⟨rfl, rfl, by decide, by decide⟩, s_port hC, hX2, ⟨_, hM.1⟩, ⟨_, _, _, _, _, _, _, _, _, _, _, _, _, _, _, _, _, _, _, _, _, _, _, _, _, _, hC2, hM2, hdr, hzk, hRf, hRa, hRt, hTq⟩, hk2 _ (by omega)⟩

set_option maxHeartbeats 1000000 in
theorem J_isDropped {l : Launch} {D : va_G} {g : Nat → ClassId} {b : Nat} {f : Nat → va_E} {th : Int32}  (hJ : q_J g b f th) : ∃ (r : Int32) (f1 f2 : Nat → va_E) (rm1 rm2 : Room), okR rm1 ∧ okR rm2 ∧ fp_M l D (TY g) b 465 (fz_A b) y_X_isDropped (fp_ws y_X_isDropped b_X_isDropped 1 (some FieldType.boolean)) rm1 [.ref b] f (fun v f' => v = some (.int r) ∧ f' = f1) ∧ fp_M l D (TY g) b 465 (fz_A b) y_M_isDropped (fp_ws y_M_isDropped b_M_isDropped 1 (some FieldType.boolean)) rm2 [.ref (b + 449)] f1 (fun v f' => v = some (.int r) ∧ f' = f2) ∧ (∃ vs : List Value, f1 (b + 449) = ob 8 vs) ∧ q_J g b f2 0 ∧ f2 (b + 464) = f (b + 464) := by
  obtain ⟨kf, acn, tcn, po, dr, k1, k2, k3, k4, z1, z2, zc, As, Ts, zw, zn, zd, zo, zt, zq, zm, zs, zct, ze, zk, zx, hC, hM, hdr, hzk, hRf, hRa, hRt, hTq⟩ := hJ
  obtain ⟨hkf, hac, htc, hA4, hT20⟩ := hC.bd
  obtain ⟨f2, hX2, hM2, hk2⟩ := m_isDropped (b := b) (mo := b + 449) (l := l) (D := D) hdr (by omega) (by omega) hM fz_W
  have hC2 := hC.kp (f' := f2) (fun q h1 h2 => hk2 q (by omega))
  exact ⟨dr, f, f2, rmD 0, rmD 0, ⟨rfl, rfl, by decide, by decide⟩, ⟨rfl, rfl, by decide, by decide⟩, s_isDropped hdr hC, hX2, ⟨_, hM.1⟩, ⟨_, _, _, _, _, _, _, _, _, _, _, _, _, _, _, _, _, _, _, _, _, _, _, _, _, _, hC2, hM2, hdr, hzk, hRf, hRa, hRt, hTq⟩, hk2 _ (by omega)⟩

set_option maxHeartbeats 1000000 in
theorem J_get {l : Launch} {D : va_G} {g : Nat → ClassId} {b : Nat} {f : Nat → va_E} {th : Int32} (x1 : Int32) (hJ : q_J g b f th) : ∃ (r : Int32) (f1 f2 : Nat → va_E) (rm1 rm2 : Room), okR rm1 ∧ okR rm2 ∧ fp_M l D (TY g) b 465 (fz_A b) y_X_get (fp_ws y_X_get b_X_get 2 (some FieldType.int)) rm1 [.ref b, .int x1] f (fun v f' => v = some (.int r) ∧ f' = f1) ∧ fp_M l D (TY g) b 465 (fz_A b) y_M_get (fp_ws y_M_get b_M_get 2 (some FieldType.int)) rm2 [.ref (b + 449), .int x1] f1 (fun v f' => v = some (.int r) ∧ f' = f2) ∧ (∃ vs : List Value, f1 (b + 449) = ob 8 vs) ∧ q_J g b f2 0 ∧ f2 (b + 464) = f (b + 464) := by
  obtain ⟨kf, acn, tcn, po, dr, k1, k2, k3, k4, z1, z2, zc, As, Ts, zw, zn, zd, zo, zt, zq, zm, zs, zct, ze, zk, zx, hC, hM, hdr, hzk, hRf, hRa, hRt, hTq⟩ := hJ
  obtain ⟨hkf, hac, htc, hA4, hT20⟩ := hC.bd
  by_cases h : q_in x1 (nI kf) = 0
  · have hx := s_get (l := l) (D := D) (Aa := fz_A b) (x := x1) hC
    rw [show q_at z2 x1 (nI kf) = 0 from if_pos h] at hx
    obtain ⟨f2, hX2, hM2, hk2⟩ := m_get_out (b := b) (mo := b + 449) (l := l) (D := D) (Aa := fz_A b) h (by omega) (by omega) hM fz_W
    have hC2 := hC.kp (f' := f2) (fun q h1 h2 => hk2 q (by omega))
    exact ⟨0, f, f2, rmD 2, rmD 1, ⟨rfl, rfl, by decide, by decide⟩, ⟨rfl, rfl, by decide, by decide⟩, hx, hX2, ⟨_, hM.1⟩, ⟨_, _, _, _, _, _, _, _, _, _, _, _, _, _, _, _, _, _, _, _, _, _, _, _, _, _, hC2, hM2, hdr, hzk, hRf, hRa, hRt, hTq⟩, hk2 _ (by omega)⟩
  · obtain ⟨j, hj, rfl⟩ := q_in_of (by omega) h
    have hx := s_get (l := l) (D := D) (Aa := fz_A b) (x := nI j) hC
    rw [q_at_in hj (by omega)] at hx
    obtain ⟨f2, hX2, hM2, hk2⟩ := m_get_in (b := b) (mo := b + 449) (l := l) (D := D) (Aa := fz_A b) (j := j) (by omega) h (by omega) (by omega) hM fz_W
    have hC2 := hC.kp (f' := f2) (fun q h1 h2 => hk2 q (by omega))
    exact ⟨z2 j, f, f2, rmD 2, rmD 1, ⟨rfl, rfl, by decide, by decide⟩, ⟨rfl, rfl, by decide, by decide⟩, hx, hX2, ⟨_, hM.1⟩, ⟨_, _, _, _, _, _, _, _, _, _, _, _, _, _, _, _, _, _, _, _, _, _, _, _, _, _, hC2, hM2, hdr, hzk, hRf, hRa, hRt, hTq⟩, hk2 _ (by omega)⟩

set_option maxHeartbeats 1000000 in
theorem J_word {l : Launch} {D : va_G} {g : Nat → ClassId} {b : Nat} {f : Nat → va_E} {th : Int32} (x1 x2 : Int32) (hJ : q_J g b f th) : ∃ (r : Int32) (f1 f2 : Nat → va_E) (rm1 rm2 : Room), okR rm1 ∧ okR rm2 ∧ fp_M l D (TY g) b 465 (fz_A b) y_X_word (fp_ws y_X_word b_X_word 3 (some FieldType.int)) rm1 [.ref b, .int x1, .int x2] f (fun v f' => v = some (.int r) ∧ f' = f1) ∧ fp_M l D (TY g) b 465 (fz_A b) y_M_word (fp_ws y_M_word b_M_word 3 (some FieldType.int)) rm2 [.ref (b + 449), .int x1, .int x2] f1 (fun v f' => v = some (.int r) ∧ f' = f2) ∧ (∃ vs : List Value, f1 (b + 449) = ob 8 vs) ∧ q_J g b f2 0 ∧ f2 (b + 464) = f (b + 464) := by
  obtain ⟨kf, acn, tcn, po, dr, k1, k2, k3, k4, z1, z2, zc, As, Ts, zw, zn, zd, zo, zt, zq, zm, zs, zct, ze, zk, zx, hC, hM, hdr, hzk, hRf, hRa, hRt, hTq⟩ := hJ
  obtain ⟨hkf, hac, htc, hA4, hT20⟩ := hC.bd
  have hx := s_word (l := l) (D := D) (Aa := fz_A b) (x := x1) (y := x2) hC
  by_cases h : q_in x1 4 = 0 ∨ q_in x2 16 = 0
  · have e : q_cr zc x1 x2 = 0 := by
      unfold q_cr
      have e2 : q_isw x1 x2 = 0 := by
        unfold q_isw
        rcases h with h | h
        · rw [if_pos h]
        · by_cases h3 : q_in x1 4 = 0
          · rw [if_pos h3]
          · rw [if_neg h3]; exact h
      rw [if_pos e2]
    rw [e] at hx
    obtain ⟨f2, hX2, hM2, hk2⟩ := m_word_out (b := b) (mo := b + 449) (l := l) (D := D) (Aa := fz_A b) h (by omega) (by omega) hM fz_W
    have hC2 := hC.kp (f' := f2) (fun q h1 h2 => hk2 q (by omega))
    exact ⟨0, f, f2, rmD 3, rmD 1, ⟨rfl, rfl, by decide, by decide⟩, ⟨rfl, rfl, by decide, by decide⟩, hx, hX2, ⟨_, hM.1⟩, ⟨_, _, _, _, _, _, _, _, _, _, _, _, _, _, _, _, _, _, _, _, _, _, _, _, _, _, hC2, hM2, hdr, hzk, hRf, hRa, hRt, hTq⟩, hk2 _ (by omega)⟩
  · obtain ⟨p0, hp, rfl⟩ := q_in_of (k := 4) (by decide) (fun q => h (Or.inl q))
    obtain ⟨r0, hr, rfl⟩ := q_in_of (k := 16) (by decide) (fun q => h (Or.inr q))
    rw [q_cr_in hp hr] at hx
    obtain ⟨f2, hX2, hM2, hk2⟩ := m_word_in (b := b) (mo := b + 449) (l := l) (D := D) (Aa := fz_A b) hp hr (by omega) (by omega) hM fz_W
    have hC2 := hC.kp (f' := f2) (fun q h1 h2 => hk2 q (by omega))
    exact ⟨zc (16 * p0 + r0), f, f2, rmD 3, rmD 1, ⟨rfl, rfl, by decide, by decide⟩, ⟨rfl, rfl, by decide, by decide⟩, hx, hX2, ⟨_, hM.1⟩, ⟨_, _, _, _, _, _, _, _, _, _, _, _, _, _, _, _, _, _, _, _, _, _, _, _, _, _, hC2, hM2, hdr, hzk, hRf, hRa, hRt, hTq⟩, hk2 _ (by omega)⟩

set_option maxHeartbeats 1000000 in
theorem J_entries {l : Launch} {D : va_G} {g : Nat → ClassId} {b : Nat} {f : Nat → va_E} {th : Int32} (x1 : Int32) (hJ : q_J g b f th) : ∃ (r : Int32) (f1 f2 : Nat → va_E) (rm1 rm2 : Room), okR rm1 ∧ okR rm2 ∧ fp_M l D (TY g) b 465 (fz_A b) y_X_entries (fp_ws y_X_entries b_X_entries 2 (some FieldType.int)) rm1 [.ref b, .int x1] f (fun v f' => v = some (.int r) ∧ f' = f1) ∧ fp_M l D (TY g) b 465 (fz_A b) y_M_entries (fp_ws y_M_entries b_M_entries 2 (some FieldType.int)) rm2 [.ref (b + 449), .int x1] f1 (fun v f' => v = some (.int r) ∧ f' = f2) ∧ (∃ vs : List Value, f1 (b + 449) = ob 8 vs) ∧ q_J g b f2 0 ∧ f2 (b + 464) = f (b + 464) := by
  obtain ⟨kf, acn, tcn, po, dr, k1, k2, k3, k4, z1, z2, zc, As, Ts, zw, zn, zd, zo, zt, zq, zm, zs, zct, ze, zk, zx, hC, hM, hdr, hzk, hRf, hRa, hRt, hTq⟩ := hJ
  obtain ⟨hkf, hac, htc, hA4, hT20⟩ := hC.bd
  by_cases h : q_in x1 (nI tcn) = 0
  · obtain ⟨f2, hX2, hM2, hk2⟩ := m_entries_out (b := b) (mo := b + 449) (l := l) (D := D) (Aa := fz_A b) h (by omega) (by omega) hM fz_W
    have hC2 := hC.kp (f' := f2) (fun q h1 h2 => hk2 q (by omega))
    exact ⟨-1, f, f2, rmD 1, rmD 1, ⟨rfl, rfl, by decide, by decide⟩, ⟨rfl, rfl, by decide, by decide⟩, s_entries_out h hC, hX2, ⟨_, hM.1⟩, ⟨_, _, _, _, _, _, _, _, _, _, _, _, _, _, _, _, _, _, _, _, _, _, _, _, _, _, hC2, hM2, hdr, hzk, hRf, hRa, hRt, hTq⟩, hk2 _ (by omega)⟩
  · obtain ⟨tj, hj, rfl⟩ := q_in_of (by omega) h
    obtain ⟨-, -, -, -, -, hz, -⟩ := hRt tj hj
    have hx := s_entries_in (l := l) (D := D) (Aa := fz_A b) hj hC
    rw [← hz] at hx
    obtain ⟨f2, hX2, hM2, hk2⟩ := m_entries_in (b := b) (mo := b + 449) (l := l) (D := D) (Aa := fz_A b) (by omega) h (by omega) (by omega) hM fz_W
    have hC2 := hC.kp (f' := f2) (fun q h1 h2 => hk2 q (by omega))
    exact ⟨zct tj, f, f2, rmD 1, rmD 1, ⟨rfl, rfl, by decide, by decide⟩, ⟨rfl, rfl, by decide, by decide⟩, hx, hX2, ⟨_, hM.1⟩, ⟨_, _, _, _, _, _, _, _, _, _, _, _, _, _, _, _, _, _, _, _, _, _, _, _, _, _, hC2, hM2, hdr, hzk, hRf, hRa, hRt, hTq⟩, hk2 _ (by omega)⟩

set_option maxHeartbeats 1000000 in
theorem J_matches {l : Launch} {D : va_G} {g : Nat → ClassId} {b : Nat} {f : Nat → va_E} {th : Int32} (x1 : Int32) (hJ : q_J g b f th) : ∃ (r : Int32) (f1 f2 : Nat → va_E) (rm1 rm2 : Room), okR rm1 ∧ okR rm2 ∧ fp_M l D (TY g) b 465 (fz_A b) y_X_matches (fp_ws y_X_matches b_X_matches 3 (some FieldType.int)) rm1 [.ref b, .int x1] f (fun v f' => v = some (.int r) ∧ f' = f1) ∧ fp_M l D (TY g) b 465 (fz_A b) y_M_matches (fp_ws y_M_matches b_M_matches 3 (some FieldType.int)) rm2 [.ref (b + 449), .int x1] f1 (fun v f' => v = some (.int r) ∧ f' = f2) ∧ (∃ vs : List Value, f1 (b + 449) = ob 8 vs) ∧ q_J g b f2 0 ∧ f2 (b + 464) = f (b + 464) := by
  obtain ⟨kf, acn, tcn, po, dr, k1, k2, k3, k4, z1, z2, zc, As, Ts, zw, zn, zd, zo, zt, zq, zm, zs, zct, ze, zk, zx, hC, hM, hdr, hzk, hRf, hRa, hRt, hTq⟩ := hJ
  obtain ⟨hkf, hac, htc, hA4, hT20⟩ := hC.bd
  by_cases h : q_in x1 (nI tcn) = 0
  · obtain ⟨f2, hX2, hM2, hk2⟩ := m_matches_out (b := b) (mo := b + 449) (l := l) (D := D) (Aa := fz_A b) h (by omega) (by omega) hM fz_W
    have hC2 := hC.kp (f' := f2) (fun q h1 h2 => hk2 q (by omega))
    exact ⟨-1, f, f2, rmD 1, rmD 1, ⟨rfl, rfl, by decide, by decide⟩, ⟨rfl, rfl, by decide, by decide⟩, s_matches_out h hC, hX2, ⟨_, hM.1⟩, ⟨_, _, _, _, _, _, _, _, _, _, _, _, _, _, _, _, _, _, _, _, _, _, _, _, _, _, hC2, hM2, hdr, hzk, hRf, hRa, hRt, hTq⟩, hk2 _ (by omega)⟩
  · obtain ⟨tj, hj, rfl⟩ := q_in_of (by omega) h
    cases hB : q_B z2 kf (Ts tj) with
    | none =>
      obtain ⟨f2, hX2, hM2, hk2⟩ := m_matches_none (b := b) (mo := b + 449) (l := l) (D := D) (Aa := fz_A b) (by omega) h (q_match (hRt tj hj) hkf (by omega) (hT20 tj (by omega)) (by omega) (by omega) hB) (by omega) (by omega) hM fz_W
      have hC2 := hC.kp (f' := f2) (fun q h1 h2 => hk2 q (by omega))
      exact ⟨-1, f, f2, rmD 4, rmD 3, ⟨rfl, rfl, by decide, by decide⟩, ⟨rfl, rfl, by decide, by decide⟩, s_matches_none hj hB hC, hX2, ⟨_, hM.1⟩, ⟨_, _, _, _, _, _, _, _, _, _, _, _, _, _, _, _, _, _, _, _, _, _, _, _, _, _, hC2, hM2, hdr, hzk, hRf, hRa, hRt, hTq⟩, hk2 _ (by omega)⟩
    | some j =>
      have hjl : j < (Ts tj).1 := (q_best_lt hB).1
      have hj20 := hT20 tj (by omega)
      obtain ⟨-, -, -, -, -, -, g1⟩ := hRt tj hj
      have hx := s_matches_some (l := l) (D := D) (Aa := fz_A b) hj hB hC
      rw [← (g1 j hjl).1 5 (by decide)] at hx
      obtain ⟨f2, hX2, hM2, hk2⟩ := m_matches_some (b := b) (mo := b + 449) (l := l) (D := D) (Aa := fz_A b) (by omega) h (by omega) (q_match (hRt tj hj) hkf (by omega) (hT20 tj (by omega)) (by omega) (by omega) hB) (by omega) (by omega) hM fz_W
      have hC2 := hC.kp (f' := f2) (fun q h1 h2 => hk2 q (by omega))
      exact ⟨ze (160 * tj + 8 * j + 5), f, f2, rmD 4, rmD 3, ⟨rfl, rfl, by decide, by decide⟩, ⟨rfl, rfl, by decide, by decide⟩, hx, hX2, ⟨_, hM.1⟩, ⟨_, _, _, _, _, _, _, _, _, _, _, _, _, _, _, _, _, _, _, _, _, _, _, _, _, _, hC2, hM2, hdr, hzk, hRf, hRa, hRt, hTq⟩, hk2 _ (by omega)⟩

set_option maxHeartbeats 1000000 in
theorem J_clear {l : Launch} {D : va_G} {g : Nat → ClassId} {b : Nat} {f : Nat → va_E} {th : Int32}  (hJ : q_J g b f th) : ∃ (f1 f2 : Nat → va_E) (rm1 rm2 : Room), okR rm1 ∧ okR rm2 ∧ fp_M l D (TY g) b 465 (fz_A b) y_X_clear (fp_ws y_X_clear b_X_clear 1 none) rm1 [.ref b] f (fun v f' => v = none ∧ f' = f1) ∧ fp_M l D (TY g) b 465 (fz_A b) y_M_clear (fp_ws y_M_clear b_M_clear 2 none) rm2 [.ref (b + 449)] f1 (fun v f' => v = none ∧ f' = f2) ∧ (∃ vs : List Value, f1 (b + 449) = ob 8 vs) ∧ q_J g b f2 0 ∧ f2 (b + 464) = f (b + 464) := by
  obtain ⟨kf, acn, tcn, po, dr, k1, k2, k3, k4, z1, z2, zc, As, Ts, zw, zn, zd, zo, zt, zq, zm, zs, zct, ze, zk, zx, hC, hM, hdr, hzk, hRf, hRa, hRt, hTq⟩ := hJ
  obtain ⟨hkf, hac, htc, hA4, hT20⟩ := hC.bd
  obtain ⟨f1, hX1, hC1, hk1⟩ := s_clear (l := l) (D := D) (Aa := fz_A b) hC fz_W
  have hM1 := hM.kp (f' := f1) (fun q h1 h2 => hk1 q (by omega))
  obtain ⟨f2, hX2, hM2, hk2⟩ := m_clear (b := b) (mo := b + 449) (l := l) (D := D) (Aa := fz_A b)  (by omega) (by omega) hM1 fz_W
  have hC2 := hC1.kp (f' := f2) (fun q h1 h2 => hk2 q (by omega))
  exact ⟨f1, f2, rmD 2, rmD 0, ⟨rfl, rfl, by decide, by decide⟩, ⟨rfl, rfl, by decide, by decide⟩, hX1, hX2, ⟨_, hM1.1⟩, ⟨_, _, _, _, _, _, _, _, _, _, _, _, _, _, _, _, _, _, _, _, _, _, _, _, _, _, hC2, hM2, Or.inl rfl, ⟨rfl, rfl, rfl, rfl⟩, fun _ h => absurd h (by omega), fun _ h => absurd h (by omega), fun _ h => absurd h (by omega), hTq⟩, (hk2 _ (by omega)).trans (hk1 _ (by omega))⟩

set_option maxHeartbeats 1000000 in
theorem J_key {l : Launch} {D : va_G} {g : Nat → ClassId} {b : Nat} {f : Nat → va_E} {th : Int32} (x1 x2 x3 x4 : Int32) (hJ : q_J g b f th) : ∃ (f1 f2 : Nat → va_E) (rm1 rm2 : Room), okR rm1 ∧ okR rm2 ∧ fp_M l D (TY g) b 465 (fz_A b) y_X_key (fp_ws y_X_key b_X_key 5 none) rm1 [.ref b, .int x1, .int x2, .int x3, .int x4] f (fun v f' => v = none ∧ f' = f1) ∧ fp_M l D (TY g) b 465 (fz_A b) y_M_key (fp_ws y_M_key b_M_key 5 none) rm2 [.ref (b + 449), .int x1, .int x2, .int x3, .int x4] f1 (fun v f' => v = none ∧ f' = f2) ∧ (∃ vs : List Value, f1 (b + 449) = ob 8 vs) ∧ q_J g b f2 0 ∧ f2 (b + 464) = f (b + 464) := by
  obtain ⟨kf, acn, tcn, po, dr, k1, k2, k3, k4, z1, z2, zc, As, Ts, zw, zn, zd, zo, zt, zq, zm, zs, zct, ze, zk, zx, hC, hM, hdr, hzk, hRf, hRa, hRt, hTq⟩ := hJ
  obtain ⟨hkf, hac, htc, hA4, hT20⟩ := hC.bd
  obtain ⟨f1, hX1, hC1, hk1⟩ := s_key (l := l) (D := D) (Aa := fz_A b) (x1 := x1) (x2 := x2) (x3 := x3) (x4 := x4) hC fz_W
  have hM1 := hM.kp (f' := f1) (fun q h1 h2 => hk1 q (by omega))
  obtain ⟨f2, hX2, hM2, hk2⟩ := m_key (b := b) (mo := b + 449) (l := l) (D := D) (Aa := fz_A b) (x1 := x1) (x2 := x2) (x3 := x3) (x4 := x4) (by omega) (by omega) hM1 fz_W
  have hC2 := hC1.kp (f' := f2) (fun q h1 h2 => hk2 q (by omega))
  exact ⟨f1, f2, rmD 1, rmD 0, ⟨rfl, rfl, by decide, by decide⟩, ⟨rfl, rfl, by decide, by decide⟩, hX1, hX2, ⟨_, hM1.1⟩, ⟨_, _, _, _, _, _, _, _, _, _, _, _, _, _, _, _, _, _, _, _, _, _, _, _, _, _, hC2, hM2, hdr, ⟨by simp [upd], by simp [upd], by simp [upd], by simp [upd]⟩, hRf, hRa, hRt, hTq⟩, (hk2 _ (by omega)).trans (hk1 _ (by omega))⟩

set_option maxHeartbeats 1000000 in
theorem J_field {l : Launch} {D : va_G} {g : Nat → ClassId} {b : Nat} {f : Nat → va_E} {th : Int32} {ou : Nat → Int64} (x1 : Int32) (hfl : l.flags = flags0) (hou : f (b + 464) = aL g 1 ou) (hJ : q_J g b f th) : ∃ (c : Int32) (r : Int32) (ou2 : Nat → Int64) (f1 f2 : Nat → va_E) (rm2 : Room), okR rm2 ∧ fp_MX l D (TY g) b 465 (fz_A b) y_L_field (Cond.codeWith y_L_field b_L_field 4 (some FieldType.int) [(0, 9, 12, 13), (0, 9, 15, 15)] :: TG) rmW 1 6 [.ref b, .int x1, .ref (b + 464)] f (fun v f' => v = some (.int c) ∧ f' = f1) ∧ fp_M l D (TY g) b 465 (fz_A b) y_M_field (fp_ws y_M_field b_M_field 2 (some FieldType.int)) rm2 [.ref (b + 449), .int x1] f1 (fun v f' => v = some (.int r) ∧ f' = f2) ∧ (∃ vs : List Value, f1 (b + 449) = ob 8 vs) ∧ q_J g b f2 c ∧ f2 (b + 464) = aL g 1 ou2 ∧ (c = 0 → ou2 0 = r.toInt64) := by
  have hA0 : fp_W b 465 (fz_A b) := fz_W
  have hbA : ∀ q : Nat, fz_A b q → b ≤ q := fun _ h => h
  obtain ⟨kf, acn, tcn, po, dr, k1, k2, k3, k4, z1, z2, zc, As, Ts, zw, zn, zd, zo, zt, zq, zm, zs, zct, ze, zk, zx, hC, hM, hdr, hzk, hRf, hRa, hRt, hTq⟩ := hJ
  obtain ⟨hkf, hac, htc, hA4, hT20⟩ := hC.bd
  by_cases h1 : x1 < 1 ∨ 32 < x1
  · have hw := c_L_field_t1 (l := l) (D := D) (ou := b + 464) (A := fz_A b) hbA ⟨by omega, by omega, hC.1⟩ (s_field_t1 (D := D) hfl h1 hC)
    obtain ⟨f2, hX2, hM2, hk2⟩ := m_field_t1 (b := b) (mo := b + 449) (l := l) (D := D) (Aa := fz_A b) h1 (by omega) (by omega) hM fz_W
    have hC2 := hC.kp (f' := f2) (fun q h1 h2 => hk2 q (by omega))
    exact ⟨1, 0, ou, f, f2, rmD 0, ⟨rfl, rfl, by decide, by decide⟩, hw, hX2, ⟨_, hM.1⟩, ⟨_, _, _, _, _, _, _, _, _, _, _, _, _, _, _, _, _, _, _, _, _, _, _, _, _, _, hC2, hM2, hdr, hzk, hRf, hRa, hRt, hTq⟩, (hk2 _ (by omega)).trans hou, fun q => absurd q (by decide)⟩
  · have h2 : ¬ x1 < 1 := fun q => h1 (Or.inl q)
    have h3 : x1 ≤ 32 := Int32.not_lt.mp (fun q => h1 (Or.inr q))
    by_cases h4 : kf = 16
    · have hw := c_L_field_t2 (l := l) (D := D) (ou := b + 464) (A := fz_A b) hbA ⟨by omega, by omega, hC.1⟩ (s_field_t2 (D := D) hfl h2 h3 h4 hC)
      obtain ⟨f2, hX2, hM2, hk2⟩ := m_field_t2 (b := b) (mo := b + 449) (l := l) (D := D) (Aa := fz_A b) h2 h3 h4 (by omega) (by omega) hM fz_W
      have hC2 := hC.kp (f' := f2) (fun q h1 h2 => hk2 q (by omega))
      exact ⟨2, 0, ou, f, f2, rmD 0, ⟨rfl, rfl, by decide, by decide⟩, hw, hX2, ⟨_, hM.1⟩, ⟨_, _, _, _, _, _, _, _, _, _, _, _, _, _, _, _, _, _, _, _, _, _, _, _, _, _, hC2, hM2, hdr, hzk, hRf, hRa, hRt, hTq⟩, (hk2 _ (by omega)).trans hou, fun q => absurd q (by decide)⟩
    · obtain ⟨e1, wd, e2, e3, e4⟩ := q_on_ones h2 h3
      have hlt : kf < 16 := by omega
      obtain ⟨f1, hX1, hC1, hk1⟩ := s_field (l := l) (D := D) (Aa := fz_A b) h2 h3 hlt hC fz_W
      have oo : fp_o b 465 f1 (b + 464) (aL g 1 ou) := ⟨by omega, by omega, (hk1 _ (by omega)).trans hou⟩
      have hw := c_L_field_ok (A := fz_A b) hbA ⟨rfl, rfl⟩ ⟨by decide, by decide⟩ ⟨by omega, by omega, hC.1⟩ oo fz_W hX1
      have hM1 := hM.kp (f' := va_up f1 (b + 464) (aL g 1 (vp_updL ou 0 (nI kf).toInt64))) (fun q h1 h2 => va_upn (by omega) (hk1 q (by omega)))
      obtain ⟨f2, hX2, hM2, hk2⟩ := m_field (b := b) (mo := b + 449) (l := l) (D := D) (Aa := fz_A b) h2 h3 hlt (by omega) (by omega) hM1 fz_W
      have hC2 := hC1.kp (f' := f2) (fun q h1 h2 => (hk2 q (by omega)).trans (va_up_ne _ _ (by omega)))
      exact ⟨0, nI kf, _, _, f2, rmD 0, ⟨rfl, rfl, by decide, by decide⟩, hw, hX2, ⟨_, hM1.1⟩, ⟨_, _, _, _, _, _, _, _, _, _, _, _, _, _, _, _, _, _, _, _, _, _, _, _, _, _, hC2, hM2, hdr, hzk, (fun j hj => by
        by_cases hq : j = kf
        · subst hq; rw [pk_us, pk_us]; exact ⟨e1.symm, wd, e2, e3, e4⟩
        · rw [pk_un hq, pk_un hq]; exact hRf j (by omega)), (fun k hk => (hRa k hk).mono (by omega) (by omega)), (fun t ht => (hRt t ht).mono (by omega) (Nat.le_refl _) (fun j hj => pk_un (by omega)) rfl rfl rfl rfl rfl rfl (fun _ _ => rfl) (hT20 t (by omega))), hTq⟩, (hk2 _ (by omega)).trans (va_up_self _ _ _), fun _ => by rw [pk_uLs]⟩

set_option maxHeartbeats 1000000 in
theorem J_set {l : Launch} {D : va_G} {g : Nat → ClassId} {b : Nat} {f : Nat → va_E} {th : Int32} (x1 x2 : Int32) (hfl : l.flags = flags0) (hJ : q_J g b f th) : ∃ (c : Int32) (f1 f2 : Nat → va_E) (rm2 : Room), okR rm2 ∧ fp_MX l D (TY g) b 465 (fz_A b) y_L_set (Cond.codeWith y_L_set b_L_set 4 (some FieldType.int) [(0, 6, 9, 21)] :: TG) rmW 1 6 [.ref b, .int x1, .int x2] f (fun v f' => v = some (.int c) ∧ f' = f1) ∧ fp_M l D (TY g) b 465 (fz_A b) y_M_set (fp_ws y_M_set b_M_set 3 none) rm2 [.ref (b + 449), .int x1, .int x2] f1 (fun v f' => v = none ∧ f' = f2) ∧ (∃ vs : List Value, f1 (b + 449) = ob 8 vs) ∧ q_J g b f2 c ∧ f2 (b + 464) = f (b + 464) := by
  have hA0 : fp_W b 465 (fz_A b) := fz_W
  have hbA : ∀ q : Nat, fz_A b q → b ≤ q := fun _ h => h
  obtain ⟨kf, acn, tcn, po, dr, k1, k2, k3, k4, z1, z2, zc, As, Ts, zw, zn, zd, zo, zt, zq, zm, zs, zct, ze, zk, zx, hC, hM, hdr, hzk, hRf, hRa, hRt, hTq⟩ := hJ
  obtain ⟨hkf, hac, htc, hA4, hT20⟩ := hC.bd
  by_cases h1 : q_in x1 (nI kf) = 0
  · have hw := c_L_set_t1 (l := l) (D := D) (ou := b + 464) (A := fz_A b) hbA ⟨by omega, by omega, hC.1⟩ (s_set_t (D := D) (y := x2) hfl h1 hC)
    obtain ⟨f2, hX2, hM2, hk2⟩ := m_set_out (b := b) (mo := b + 449) (l := l) (D := D) (Aa := fz_A b) (y := x2) h1 (by omega) (by omega) hM fz_W
    have hC2 := hC.kp (f' := f2) (fun q h1 h2 => hk2 q (by omega))
    exact ⟨1, f, f2, rmD 2, ⟨rfl, rfl, by decide, by decide⟩, hw, hX2, ⟨_, hM.1⟩, ⟨_, _, _, _, _, _, _, _, _, _, _, _, _, _, _, _, _, _, _, _, _, _, _, _, _, _, hC2, hM2, hdr, hzk, hRf, hRa, hRt, hTq⟩, hk2 _ (by omega)⟩
  · obtain ⟨j, hj, rfl⟩ := q_in_of (by omega) h1
    obtain ⟨f1, hX1, hC1, hk1⟩ := s_set (l := l) (D := D) (Aa := fz_A b) (y := x2) h1 hC fz_W
    have hw := c_L_set_ok (A := fz_A b) (ou := b + 464) hbA ⟨rfl, rfl⟩ ⟨by decide, by decide⟩ ⟨by omega, by omega, hC.1⟩ hX1
    have hM1 := hM.kp (f' := f1) (fun q h1 h2 => hk1 q (by omega))
    obtain ⟨f2, hX2, hM2, hk2⟩ := m_set_in (b := b) (mo := b + 449) (l := l) (D := D) (Aa := fz_A b) (y := x2) (j := j) (by omega) h1 (by omega) (by omega) hM1 fz_W
    rw [(hRf j hj).1, ← q_wr_in hj (by omega)] at hM2
    have hC2 := hC1.kp (f' := f2) (fun q h1 h2 => hk2 q (by omega))
    exact ⟨0, f1, f2, rmD 2, ⟨rfl, rfl, by decide, by decide⟩, hw, hX2, ⟨_, hM1.1⟩, ⟨_, _, _, _, _, _, _, _, _, _, _, _, _, _, _, _, _, _, _, _, _, _, _, _, _, _, hC2, hM2, hdr, hzk, hRf, hRa, hRt, hTq⟩, (hk2 _ (by omega)).trans (hk1 _ (by omega))⟩

set_option maxHeartbeats 1000000 in
theorem J_action {l : Launch} {D : va_G} {g : Nat → ClassId} {b : Nat} {f : Nat → va_E} {th : Int32} {ou : Nat → Int64}  (hfl : l.flags = flags0) (hou : f (b + 464) = aL g 1 ou) (hJ : q_J g b f th) : ∃ (c : Int32) (r : Int32) (ou2 : Nat → Int64) (f1 f2 : Nat → va_E) (rm2 : Room), okR rm2 ∧ fp_MX l D (TY g) b 465 (fz_A b) y_L_action (Cond.codeWith y_L_action b_L_action 3 (some FieldType.int) [(0, 8, 11, 15)] :: TG) rmW 1 6 [.ref b, .ref (b + 464)] f (fun v f' => v = some (.int c) ∧ f' = f1) ∧ fp_M l D (TY g) b 465 (fz_A b) y_M_action (fp_ws y_M_action b_M_action 1 (some FieldType.int)) rm2 [.ref (b + 449)] f1 (fun v f' => v = some (.int r) ∧ f' = f2) ∧ (∃ vs : List Value, f1 (b + 449) = ob 8 vs) ∧ q_J g b f2 c ∧ f2 (b + 464) = aL g 1 ou2 ∧ (c = 0 → ou2 0 = r.toInt64) := by
  have hA0 : fp_W b 465 (fz_A b) := fz_W
  have hbA : ∀ q : Nat, fz_A b q → b ≤ q := fun _ h => h
  obtain ⟨kf, acn, tcn, po, dr, k1, k2, k3, k4, z1, z2, zc, As, Ts, zw, zn, zd, zo, zt, zq, zm, zs, zct, ze, zk, zx, hC, hM, hdr, hzk, hRf, hRa, hRt, hTq⟩ := hJ
  obtain ⟨hkf, hac, htc, hA4, hT20⟩ := hC.bd
  by_cases h1 : acn = 16
  · have hw := c_L_action_t1 (l := l) (D := D) (ou := b + 464) (A := fz_A b) hbA ⟨by omega, by omega, hC.1⟩ (s_action_t (D := D) hfl h1 hC)
    obtain ⟨f2, hX2, hM2, hk2⟩ := m_action_t (b := b) (mo := b + 449) (l := l) (D := D) (Aa := fz_A b) h1 (by omega) (by omega) hM fz_W
    have hC2 := hC.kp (f' := f2) (fun q h1 h2 => hk2 q (by omega))
    exact ⟨1, 0, ou, f, f2, rmD 0, ⟨rfl, rfl, by decide, by decide⟩, hw, hX2, ⟨_, hM.1⟩, ⟨_, _, _, _, _, _, _, _, _, _, _, _, _, _, _, _, _, _, _, _, _, _, _, _, _, _, hC2, hM2, hdr, hzk, hRf, hRa, hRt, hTq⟩, (hk2 _ (by omega)).trans hou, fun q => absurd q (by decide)⟩
  · have hlt : acn < 16 := by omega
    obtain ⟨f1, hX1, hC1, hk1⟩ := s_action (l := l) (D := D) (Aa := fz_A b) hlt hC fz_W
    have oo : fp_o b 465 f1 (b + 464) (aL g 1 ou) := ⟨by omega, by omega, (hk1 _ (by omega)).trans hou⟩
    have hw := c_L_action_ok (A := fz_A b) hbA ⟨rfl, rfl⟩ ⟨by decide, by decide⟩ ⟨by omega, by omega, hC.1⟩ oo fz_W hX1
    have hM1 := hM.kp (f' := va_up f1 (b + 464) (aL g 1 (vp_updL ou 0 (nI acn).toInt64))) (fun q h1 h2 => va_upn (by omega) (hk1 q (by omega)))
    obtain ⟨f2, hX2, hM2, hk2⟩ := m_action (b := b) (mo := b + 449) (l := l) (D := D) (Aa := fz_A b) hlt (by omega) (by omega) hM1 fz_W
    have hC2 := hC1.kp (f' := f2) (fun q h1 h2 => (hk2 q (by omega)).trans (va_up_ne _ _ (by omega)))
    exact ⟨0, nI acn, _, _, f2, rmD 0, ⟨rfl, rfl, by decide, by decide⟩, hw, hX2, ⟨_, hM1.1⟩, ⟨_, _, _, _, _, _, _, _, _, _, _, _, _, _, _, _, _, _, _, _, _, _, _, _, _, _, hC2, hM2, hdr, hzk, hRf, (fun k hk => by
      by_cases hq : k = acn
      · subst hq; rw [va_up_self]; exact ⟨pk_us, fun i hi => absurd hi (Nat.not_lt_zero i)⟩
      · rw [va_up_ne _ _ hq]
        obtain ⟨q1, q2⟩ := hRa k (by omega)
        exact ⟨(pk_un hq).trans q1, q2⟩), (fun t ht => (hRt t ht).mono (Nat.le_refl _) (by omega) (fun _ _ => rfl) rfl rfl rfl rfl rfl rfl (fun _ _ => rfl) (hT20 t (by omega))), hTq⟩, (hk2 _ (by omega)).trans (va_up_self _ _ _), fun _ => by rw [pk_uLs]⟩

set_option maxHeartbeats 1000000 in
theorem J_doing {l : Launch} {D : va_G} {g : Nat → ClassId} {b : Nat} {f : Nat → va_E} {th : Int32} (x1 x2 x3 x4 x5 : Int32) (hfl : l.flags = flags0) (hJ : q_J g b f th) : ∃ (c : Int32) (f1 f2 : Nat → va_E) (rm2 : Room), okR rm2 ∧ fp_MX l D (TY g) b 465 (fz_A b) y_L_doing (Cond.codeWith y_L_doing b_L_doing 7 (some FieldType.int) [(0, 11, 14, 21), (0, 11, 18, 13), (0, 11, 22, 15)] :: TG) rmW 1 6 [.ref b, .int x1, .int x2, .int x3, .int x4, .int x5] f (fun v f' => v = some (.int c) ∧ f' = f1) ∧ fp_M l D (TY g) b 465 (fz_A b) y_M_doing (fp_ws y_M_doing b_M_doing 7 none) rm2 [.ref (b + 449), .int x1, .int x2, .int x3, .int x4, .int x5] f1 (fun v f' => v = none ∧ f' = f2) ∧ (∃ vs : List Value, f1 (b + 449) = ob 8 vs) ∧ q_J g b f2 c ∧ f2 (b + 464) = f (b + 464) := by
  have hA0 : fp_W b 465 (fz_A b) := fz_W
  have hbA : ∀ q : Nat, fz_A b q → b ≤ q := fun _ h => h
  obtain ⟨kf, acn, tcn, po, dr, k1, k2, k3, k4, z1, z2, zc, As, Ts, zw, zn, zd, zo, zt, zq, zm, zs, zct, ze, zk, zx, hC, hM, hdr, hzk, hRf, hRa, hRt, hTq⟩ := hJ
  obtain ⟨hkf, hac, htc, hA4, hT20⟩ := hC.bd
  by_cases h1 : q_in x2 9 = 0
  · have h2 : x2 < 0 ∨ 8 < x2 := by
      by_cases q1 : x2 < 0
      · exact Or.inl q1
      · obtain ⟨j, hj, rfl⟩ := nI_of q1
        refine Or.inr ?_
        rcases Nat.lt_or_ge j 9 with q2 | q2
        · exact absurd h1 (q_in_ne (k := 9) q2 (by decide))
        · exact nI_lt (a := 8) (by omega) hj
    have hw := c_L_doing_t2 (l := l) (D := D) (ou := b + 464) (A := fz_A b) hbA ⟨by omega, by omega, hC.1⟩ (s_doing_t2 (D := D) (x1 := x1) (x := x3) (y := x4) (z := x5) hfl h2 hC)
    obtain ⟨f2, hX2, hM2, hk2⟩ := m_doing_t2 (b := b) (mo := b + 449) (l := l) (D := D) (Aa := fz_A b) (x1 := x1) (x := x3) (y := x4) (z := x5) h1 (by omega) (by omega) hM fz_W
    have hC2 := hC.kp (f' := f2) (fun q h1 h2 => hk2 q (by omega))
    exact ⟨2, f, f2, rmD 2, ⟨rfl, rfl, by decide, by decide⟩, hw, hX2, ⟨_, hM.1⟩, ⟨_, _, _, _, _, _, _, _, _, _, _, _, _, _, _, _, _, _, _, _, _, _, _, _, _, _, hC2, hM2, hdr, hzk, hRf, hRa, hRt, hTq⟩, hk2 _ (by omega)⟩
  · obtain ⟨kj, hkj, rfl⟩ := q_in_of (k := 9) (by decide) h1
    by_cases h2 : q_in x1 (nI acn) = 0 ∨ q_ops kj x3 x4 x5 (nI kf) = 0
    · have hw := c_L_doing_t1 (l := l) (D := D) (ou := b + 464) (A := fz_A b) hbA ⟨by omega, by omega, hC.1⟩ (s_doing_t1 (D := D) hfl hkj h2 hC)
      obtain ⟨f2, hX2, hM2, hk2⟩ := m_doing_t1 (b := b) (mo := b + 449) (l := l) (D := D) (Aa := fz_A b) hkj h2 (by omega) (by omega) hM fz_W
      have hC2 := hC.kp (f' := f2) (fun q h1 h2 => hk2 q (by omega))
      exact ⟨1, f, f2, rmD 2, ⟨rfl, rfl, by decide, by decide⟩, hw, hX2, ⟨_, hM.1⟩, ⟨_, _, _, _, _, _, _, _, _, _, _, _, _, _, _, _, _, _, _, _, _, _, _, _, _, _, hC2, hM2, hdr, hzk, hRf, hRa, hRt, hTq⟩, hk2 _ (by omega)⟩
    · have h3 : ¬ q_in x1 (nI acn) = 0 := fun q => h2 (Or.inl q)
      have h4 : ¬ q_ops kj x3 x4 x5 (nI kf) = 0 := fun q => h2 (Or.inr q)
      obtain ⟨aj, haj, rfl⟩ := q_in_of (by omega) h3
      obtain ⟨q1, q2⟩ := hRa aj haj
      have h44 := hA4 aj (by omega)
      by_cases h5 : (As aj).1 = 4
      · have hz4 : zn aj = nI 4 := by rw [q1, h5]
        have hw := c_L_doing_t3 (l := l) (D := D) (ou := b + 464) (A := fz_A b) hbA ⟨by omega, by omega, hC.1⟩ (s_doing_t3 (D := D) hfl hkj haj h4 h5 hC)
        obtain ⟨f2, hX2, hM2, hk2⟩ := m_doing_t3 (b := b) (mo := b + 449) (l := l) (D := D) (Aa := fz_A b) hkj (by omega) h3 h4 hz4 (by omega) (by omega) hM fz_W
        have hC2 := hC.kp (f' := f2) (fun q h1 h2 => hk2 q (by omega))
        exact ⟨3, f, f2, rmD 2, ⟨rfl, rfl, by decide, by decide⟩, hw, hX2, ⟨_, hM.1⟩, ⟨_, _, _, _, _, _, _, _, _, _, _, _, _, _, _, _, _, _, _, _, _, _, _, _, _, _, hC2, hM2, hdr, hzk, hRf, hRa, hRt, hTq⟩, hk2 _ (by omega)⟩
      · have hlt : (As aj).1 < 4 := by omega
        obtain ⟨f1, hX1, hC1, hk1⟩ := s_doing (l := l) (D := D) (Aa := fz_A b) hkj haj h4 hlt hC fz_W
        have hw := c_L_doing_ok (A := fz_A b) (ou := b + 464) hbA ⟨rfl, rfl⟩ ⟨by decide, by decide⟩ ⟨by omega, by omega, hC.1⟩ hX1
        have hM1 := hM.kp (f' := f1) (fun q h1 h2 => hk1 q (by omega))
        obtain ⟨f2, hX2, hM2, hk2⟩ := m_doing (b := b) (mo := b + 449) (l := l) (D := D) (Aa := fz_A b) hkj (by omega) h3 h4 hlt q1 (by omega) (by omega) hM1 fz_W
        have hC2 := hC1.kp (f' := f2) (fun q h1 h2 => hk2 q (by omega))
        exact ⟨0, f1, f2, rmD 2, ⟨rfl, rfl, by decide, by decide⟩, hw, hX2, ⟨_, hM1.1⟩, ⟨_, _, _, _, _, _, _, _, _, _, _, _, _, _, _, _, _, _, _, _, _, _, _, _, _, _, hC2, hM2, hdr, hzk, hRf, (fun k hk => by
          by_cases hq : k = aj
          · subst hq
            rw [va_up_self]
            refine ⟨pk_us, fun i hi => ?_⟩
            dsimp only at hi ⊢
            by_cases hi2 : i = (As k).1
            · subst hi2
              refine ⟨fun j hj => ?_, kj, hkj, by simp only [q_dv, pk_us], by simp only [q_dv, pk_us]; exact h4⟩
              rcases (show j = 0 ∨ j = 1 ∨ j = 2 ∨ j = 3 by omega) with rfl | rfl | rfl | rfl
              · exact updn (by omega) (updn (by omega) (updn (by omega) (pk_us.trans (by simp only [q_dv, pk_us]))))
              · exact updn (by omega) (updn (by omega) (pk_us.trans (by simp only [q_dv, pk_us])))
              · exact updn (by omega) (pk_us.trans (by simp only [q_dv, pk_us]))
              · exact pk_us.trans (by simp only [q_dv, pk_us])
            · obtain ⟨r1, r2⟩ := q2 i (by omega)
              refine ⟨fun j hj => ?_, by simp only [q_dv, pk_un hi2]; exact r2⟩
              rw [show q_dv (As k).2 (As k).1 (nI kj) x3 x4 x5 j i = (As k).2 j i from pk_un hi2]
              exact updn (by omega) (updn (by omega) (updn (by omega) (updn (by omega) (r1 j hj))))
          · rw [va_up_ne _ _ hq]
            obtain ⟨r1, r2⟩ := hRa k (by omega)
            have h45 := hA4 k (by omega)
            exact ⟨(pk_un hq).trans r1, fun i hi => ⟨fun j hj => updn (by omega) (updn (by omega) (updn (by omega) (updn (by omega) ((r2 i hi).1 j hj)))), (r2 i hi).2⟩⟩), hRt, hTq⟩, (hk2 _ (by omega)).trans (hk1 _ (by omega))⟩

set_option maxHeartbeats 1000000 in
theorem J_table {l : Launch} {D : va_G} {g : Nat → ClassId} {b : Nat} {f : Nat → va_E} {th : Int32} {ou : Nat → Int64} (x1 x2 x3 x4 x5 : Int32) (hfl : l.flags = flags0) (hou : f (b + 464) = aL g 1 ou) (hJ : q_J g b f th) : ∃ (c : Int32) (r : Int32) (ou2 : Nat → Int64) (f1 f2 : Nat → va_E) (rm2 : Room), okR rm2 ∧ fp_MX l D (TY g) b 465 (fz_A b) y_L_table (Cond.codeWith y_L_table b_L_table 8 (some FieldType.int) [(0, 16, 19, 21), (0, 16, 23, 13), (0, 16, 27, 15)] :: TG) rmW 1 6 [.ref b, .int x1, .int x2, .int x3, .int x4, .int x5, .ref (b + 464)] f (fun v f' => v = some (.int c) ∧ f' = f1) ∧ fp_M l D (TY g) b 465 (fz_A b) y_M_table (fp_ws y_M_table b_M_table 8 (some FieldType.int)) rm2 [.ref (b + 449), .int x1, .int x2, .int x3, .int x4, .int x5] f1 (fun v f' => v = some (.int r) ∧ f' = f2) ∧ (∃ vs : List Value, f1 (b + 449) = ob 8 vs) ∧ q_J g b f2 c ∧ f2 (b + 464) = aL g 1 ou2 ∧ (c = 0 → ou2 0 = r.toInt64) := by
  have hA0 : fp_W b 465 (fz_A b) := fz_W
  have hbA : ∀ q : Nat, fz_A b q → b ≤ q := fun _ h => h
  obtain ⟨kf, acn, tcn, po, dr, k1, k2, k3, k4, z1, z2, zc, As, Ts, zw, zn, zd, zo, zt, zq, zm, zs, zct, ze, zk, zx, hC, hM, hdr, hzk, hRf, hRa, hRt, hTq⟩ := hJ
  obtain ⟨hkf, hac, htc, hA4, hT20⟩ := hC.bd
  by_cases h1 : q_kf x1 x2 (nI kf) = 0 ∨ q_ac x4 x5 (nI acn) = 0
  · have hw := c_L_table_t1 (l := l) (D := D) (ou := b + 464) (A := fz_A b) hbA ⟨by omega, by omega, hC.1⟩ (s_table_t1 (D := D) (x3 := x3) hfl h1 hC)
    obtain ⟨f2, hX2, hM2, hk2⟩ := m_table_t1 (b := b) (mo := b + 449) (l := l) (D := D) (Aa := fz_A b) (x3 := x3) (q_un_1 hac h1) (by omega) (by omega) hM fz_W
    have hC2 := hC.kp (f' := f2) (fun q h1 h2 => hk2 q (by omega))
    exact ⟨1, 0, ou, f, f2, rmD 1, ⟨rfl, rfl, by decide, by decide⟩, hw, hX2, ⟨_, hM.1⟩, ⟨_, _, _, _, _, _, _, _, _, _, _, _, _, _, _, _, _, _, _, _, _, _, _, _, _, _, hC2, hM2, hdr, hzk, hRf, hRa, hRt, hTq⟩, (hk2 _ (by omega)).trans hou, fun q => absurd q (by decide)⟩
  · have h2 : ¬ q_kf x1 x2 (nI kf) = 0 := fun q => h1 (Or.inl q)
    have h3 : ¬ q_ac x4 x5 (nI acn) = 0 := fun q => h1 (Or.inr q)
    have hu := (q_un_0 hac h2 h3).1
    by_cases h4 : q_hw x3 x2 = 0
    · have hv : q_hm x3 x2 = 1 := (q_hm_01 x3 x2).resolve_left (fun q => (q_hm_iff x3 x2).mp q h4)
      have hw := c_L_table_t2 (l := l) (D := D) (ou := b + 464) (A := fz_A b) hbA ⟨by omega, by omega, hC.1⟩ (s_table_t2 (D := D) hfl h2 h3 h4 hC)
      obtain ⟨f2, hX2, hM2, hk2⟩ := m_table_t2 (b := b) (mo := b + 449) (l := l) (D := D) (Aa := fz_A b) hu hv (by omega) (by omega) hM fz_W
      have hC2 := hC.kp (f' := f2) (fun q h1 h2 => hk2 q (by omega))
      exact ⟨2, 0, ou, f, f2, rmD 1, ⟨rfl, rfl, by decide, by decide⟩, hw, hX2, ⟨_, hM.1⟩, ⟨_, _, _, _, _, _, _, _, _, _, _, _, _, _, _, _, _, _, _, _, _, _, _, _, _, _, hC2, hM2, hdr, hzk, hRf, hRa, hRt, hTq⟩, (hk2 _ (by omega)).trans hou, fun q => absurd q (by decide)⟩
    · have hv := (q_hm_iff x3 x2).mpr h4
      by_cases h5 : tcn = 8
      · have hw := c_L_table_t3 (l := l) (D := D) (ou := b + 464) (A := fz_A b) hbA ⟨by omega, by omega, hC.1⟩ (s_table_t3 (D := D) hfl h2 h3 h4 h5 hC)
        obtain ⟨f2, hX2, hM2, hk2⟩ := m_table_t3 (b := b) (mo := b + 449) (l := l) (D := D) (Aa := fz_A b) hu hv h5 (by omega) (by omega) hM fz_W
        have hC2 := hC.kp (f' := f2) (fun q h1 h2 => hk2 q (by omega))
        exact ⟨3, 0, ou, f, f2, rmD 1, ⟨rfl, rfl, by decide, by decide⟩, hw, hX2, ⟨_, hM.1⟩, ⟨_, _, _, _, _, _, _, _, _, _, _, _, _, _, _, _, _, _, _, _, _, _, _, _, _, _, hC2, hM2, hdr, hzk, hRf, hRa, hRt, hTq⟩, (hk2 _ (by omega)).trans hou, fun q => absurd q (by decide)⟩
      · have hlt : tcn < 8 := by omega
        obtain ⟨f1, hX1, hC1, hk1⟩ := s_table (l := l) (D := D) (Aa := fz_A b) h2 h3 h4 hlt hC fz_W
        have oo : fp_o b 465 f1 (b + 464) (aL g 1 ou) := ⟨by omega, by omega, (hk1 _ (by omega)).trans hou⟩
        have hw := c_L_table_ok (A := fz_A b) hbA ⟨rfl, rfl⟩ ⟨by decide, by decide⟩ ⟨by omega, by omega, hC.1⟩ oo fz_W hX1
        have hM1 := hM.kp (f' := va_up f1 (b + 464) (aL g 1 (vp_updL ou 0 (nI tcn).toInt64))) (fun q h1 h2 => va_upn (by omega) (hk1 q (by omega)))
        obtain ⟨f2, hX2, hM2, hk2⟩ := m_table (b := b) (mo := b + 449) (l := l) (D := D) (Aa := fz_A b) hu hv hlt (by omega) (by omega) hM1 fz_W
        have hC2 := hC1.kp (f' := f2) (fun q h1 h2 => (hk2 q (by omega)).trans (va_up_ne _ _ (by omega)))
        exact ⟨0, nI tcn, _, _, f2, rmD 1, ⟨rfl, rfl, by decide, by decide⟩, hw, hX2, ⟨_, hM1.1⟩, ⟨_, _, _, _, _, _, _, _, _, _, _, _, _, _, _, _, _, _, _, _, _, _, _, _, _, _, hC2, hM2, hdr, hzk, hRf, hRa, (fun t ht => by
          by_cases hq : t = tcn
          · subst hq; rw [va_up_self]; exact q_Rt_new hRf hkf hac h2 h3 h4
          · rw [va_up_ne _ _ hq]
            exact (hRt t (by omega)).mono (Nat.le_refl _) (Nat.le_refl _) (fun _ _ => rfl) (pk_un hq) (pk_un hq) (pk_un hq) (pk_un hq) (pk_un hq) (pk_un hq) (fun _ _ => rfl) (hT20 t (by omega))), (fun t ht => by
          by_cases hq : t = tcn
          · subst hq; rw [va_up_self]; exact hTq t ht
          · rw [va_up_ne _ _ hq]; exact hTq t ht)⟩, (hk2 _ (by omega)).trans (va_up_self _ _ _), fun _ => by rw [pk_uLs]⟩

set_option maxHeartbeats 1000000 in
theorem J_insert {l : Launch} {D : va_G} {g : Nat → ClassId} {b : Nat} {f : Nat → va_E} {th : Int32} {ou : Nat → Int64} (x1 x2 x3 x4 x5 : Int32) (hfl : l.flags = flags0) (hou : f (b + 464) = aL g 1 ou) (hJ : q_J g b f th) : ∃ (c : Int32) (r : Int32) (ou2 : Nat → Int64) (f1 f2 : Nat → va_E) (rm2 : Room), okR rm2 ∧ fp_MX l D (TY g) b 465 (fz_A b) y_L_insert (Cond.codeWith y_L_insert b_L_insert 8 (some FieldType.int) [(0, 23, 26, 21)] :: TG) rmW 1 6 [.ref b, .int x1, .int x2, .int x3, .int x4, .int x5, .ref (b + 464)] f (fun v f' => v = some (.int c) ∧ f' = f1) ∧ fp_M l D (TY g) b 465 (fz_A b) y_M_insert (fp_ws y_M_insert b_M_insert 8 (some FieldType.boolean)) rm2 [.ref (b + 449), .int x1, .int x2, .int x3, .int x4, .int x5] f1 (fun v f' => v = some (.int r) ∧ f' = f2) ∧ (∃ vs : List Value, f1 (b + 449) = ob 8 vs) ∧ q_J g b f2 c ∧ f2 (b + 464) = aL g 1 ou2 ∧ (c = 0 → ou2 0 = if r = 0 then 0 else 1) := by
  have hA0 : fp_W b 465 (fz_A b) := fz_W
  have hbA : ∀ q : Nat, fz_A b q → b ≤ q := fun _ h => h
  obtain ⟨kf, acn, tcn, po, dr, k1, k2, k3, k4, z1, z2, zc, As, Ts, zw, zn, zd, zo, zt, zq, zm, zs, zct, ze, zk, zx, hC, hM, hdr, hzk, hRf, hRa, hRt, hTq⟩ := hJ
  obtain ⟨hkf, hac, htc, hA4, hT20⟩ := hC.bd
  by_cases h1 : q_in x1 (nI tcn) = 0
  · have hw := c_L_insert_t1 (l := l) (D := D) (ou := b + 464) (A := fz_A b) hbA ⟨by omega, by omega, hC.1⟩ (s_insert_t (D := D) (x2 := x2) (x3 := x3) (x4 := x4) (x5 := x5) hfl h1 hC)
    obtain ⟨f2, hX2, hM2, hk2⟩ := m_insert_out (b := b) (mo := b + 449) (l := l) (D := D) (Aa := fz_A b) (x2 := x2) (x3 := x3) (x4 := x4) (x5 := x5) h1 (by omega) (by omega) hM fz_W
    have hC2 := hC.kp (f' := f2) (fun q h1 h2 => hk2 q (by omega))
    exact ⟨1, 0, ou, f, f2, rmD 1, ⟨rfl, rfl, by decide, by decide⟩, hw, hX2, ⟨_, hM.1⟩, ⟨_, _, _, _, _, _, _, _, _, _, _, _, _, _, _, _, _, _, _, _, _, _, _, _, _, _, hC2, hM2, hdr, hzk, hRf, hRa, hRt, hTq⟩, (hk2 _ (by omega)).trans hou, fun q => absurd q (by decide)⟩
  · obtain ⟨tj, hj, rfl⟩ := q_in_of (by omega) h1
    have hsq := hTq tj (by omega)
    rcases q_tk_01 (q_masks ((Ts tj).2.1 2) ((Ts tj).2.1 3) ((Ts tj).2.1 4) ((Ts tj).2.1 5) (k2 &&& (Ts tj).2.1 4) (k4 &&& (Ts tj).2.1 5)) (q_alw ((Ts tj).2.1 6) x3) (q_W k1 k2 k3 k4 (Ts tj)) (nI (Ts tj).1) with hK | hK
    · obtain ⟨f1, hX1, hC1, hk1⟩ := s_insert_no (l := l) (D := D) (Aa := fz_A b) (x1 := x2) (x3 := x4) (x4 := x5) hj hsq hK hC fz_W
      have oo : fp_o b 465 f1 (b + 464) (aL g 1 ou) := ⟨by omega, by omega, (hk1 _ (by omega)).trans hou⟩
      have hw := c_L_insert_ok (A := fz_A b) hbA ⟨rfl, rfl⟩ ⟨by decide, by decide⟩ ⟨by omega, by omega, hC.1⟩ oo fz_W hX1
      have hM1 := hM.kp (f' := va_up f1 (b + 464) (aL g 1 (vp_updL ou 0 (if (0 : Int32) = 0 then 0 else 1)))) (fun q h1 h2 => va_upn (by omega) (hk1 q (by omega)))
      obtain ⟨f2, zy, hX2, hM2, hk2⟩ := q_ins_no (l := l) (D := D) (b := b) (mo := b + 449) (Aa := fz_A b) (x1 := x2) (x2 := x3) (x3 := x4) (x4 := x5) hzk hRf (hRt tj hj) hkf hac (by omega) hj htc (hT20 tj (by omega)) (by omega) (by omega) hM1 fz_W hK
      have hC2 := hC1.kp (f' := f2) (fun q h1 h2 => (hk2 q (by omega)).trans (va_up_ne _ _ (by omega)))
      exact ⟨0, 0, _, _, f2, rmD 3, ⟨rfl, rfl, by decide, by decide⟩, hw, hX2, ⟨_, hM1.1⟩, ⟨_, _, _, _, _, _, _, _, _, _, _, _, _, _, _, _, _, _, _, _, _, _, _, _, _, _, hC2, hM2, hdr, hzk, hRf, hRa, (fun t ht => by
        by_cases hq : t = tj
        · subst hq; rw [va_up_self]; exact hRt t ht
        · rw [va_up_ne _ _ hq]; exact hRt t ht), (fun t ht => by
        by_cases hq : t = tj
        · subst hq; rw [va_up_self]; exact hTq t ht
        · rw [va_up_ne _ _ hq]; exact hTq t ht)⟩, (hk2 _ (by omega)).trans (va_up_self _ _ _), fun _ => by rw [pk_uLs]⟩
    · obtain ⟨-, -, -, ⟨-, An, hAn1, hAn2⟩, -, -, -⟩ := hRt tj hj
      obtain ⟨hc20, ak, hak, ex2⟩ := q_K_yes hK hAn2 hAn1 hac (hT20 tj (by omega))
      obtain ⟨f1, hX1, hC1, hk1⟩ := s_insert_yes (l := l) (D := D) (Aa := fz_A b) (x1 := x2) (x3 := x4) (x4 := x5) hj hsq hc20 hK hC fz_W
      have oo : fp_o b 465 f1 (b + 464) (aL g 1 ou) := ⟨by omega, by omega, (hk1 _ (by omega)).trans hou⟩
      have hw := c_L_insert_ok (A := fz_A b) hbA ⟨rfl, rfl⟩ ⟨by decide, by decide⟩ ⟨by omega, by omega, hC.1⟩ oo fz_W hX1
      have hM1 := hM.kp (f' := va_up f1 (b + 464) (aL g 1 (vp_updL ou 0 (if (1 : Int32) = 0 then 0 else 1)))) (fun q h1 h2 => va_upn (by omega) (hk1 q (by omega)))
      obtain ⟨f2, zy, hX2, hM2, hk2⟩ := q_ins_yes (l := l) (D := D) (b := b) (mo := b + 449) (Aa := fz_A b) (x1 := x2) (x2 := x3) (x3 := x4) (x4 := x5) hzk hRf (hRt tj hj) hkf hac (by omega) hj htc (hT20 tj (by omega)) (by omega) (by omega) hM1 fz_W hK
      have hC2 := hC1.kp (f' := f2) (fun q h1 h2 => (hk2 q (by omega)).trans (va_up_ne _ _ (by omega)))
      exact ⟨0, 1, _, _, f2, rmD 3, ⟨rfl, rfl, by decide, by decide⟩, hw, hX2, ⟨_, hM1.1⟩, ⟨_, _, _, _, _, _, _, _, _, _, _, _, _, _, _, _, _, _, _, _, _, _, _, _, _, _, hC2, hM2, hdr, hzk, hRf, hRa, (fun t ht => by
        by_cases hq : t = tj
        · subst hq
          rw [va_up_self]
          obtain ⟨r1, r2, r3, r4, r5, r6, r7⟩ := hRt t ht
          refine ⟨r1, r2, r3, r4, r5, pk_us, fun k hk => ?_⟩
          dsimp only at hk ⊢
          by_cases hk2 : k = (Ts t).1
          · subst hk2
            refine ⟨fun j hj => ?_, ⟨ak, hak, by simp only [q_w8, pk_us]; exact ex2⟩, ?_, ?_, ?_⟩
            · rcases (show j = 0 ∨ j = 1 ∨ j = 2 ∨ j = 3 ∨ j = 4 ∨ j = 5 ∨ j = 6 ∨ j = 7 by omega) with rfl | rfl | rfl | rfl | rfl | rfl | rfl | rfl
              · exact updn (by omega) (updn (by omega) (updn (by omega) (updn (by omega) (updn (by omega) (updn (by omega) (updn (by omega) (pk_us.trans (by simp only [q_w8, pk_us]))))))))
              · exact updn (by omega) (updn (by omega) (updn (by omega) (updn (by omega) (updn (by omega) (updn (by omega) (pk_us.trans (by simp only [q_w8, pk_us])))))))
              · exact updn (by omega) (updn (by omega) (updn (by omega) (updn (by omega) (updn (by omega) (pk_us.trans (by simp only [q_w8, pk_us]))))))
              · exact updn (by omega) (updn (by omega) (updn (by omega) (updn (by omega) (pk_us.trans (by simp only [q_w8, pk_us])))))
              · exact updn (by omega) (updn (by omega) (updn (by omega) (pk_us.trans (by simp only [q_w8, pk_us]))))
              · exact updn (by omega) (updn (by omega) (pk_us.trans (by simp only [q_w8, pk_us])))
              · exact updn (by omega) (pk_us.trans (by simp only [q_w8, pk_us]))
              · exact pk_us.trans (by simp only [q_w8, pk_us])
            · simp only [q_w8, pk_us]; exact q_andd _ _
            · simp only [q_w8, pk_us]; exact q_andd _ _
            · intro hx
              have h50 : (Ts t).2.1 5 = 0 := by
                rcases r2.2 with q | ⟨j2, q1, q2, -⟩
                · exact q.2
                · exact absurd (hx.symm.trans q2) (m1_ne (by omega))
              simp only [q_w8, pk_us]
              rw [h50, q_and0, q_and0]; exact ⟨rfl, rfl⟩
          · obtain ⟨i1, i2, i3, i4, i5⟩ := r7 k (by omega)
            refine ⟨fun j hj => ?_, by simp only [q_w8, pk_un hk2]; exact i2, by simp only [q_w8, pk_un hk2]; exact i3, by simp only [q_w8, pk_un hk2]; exact i4, fun hx => by simp only [q_w8, pk_un hk2]; exact i5 hx⟩
            rw [show ∀ v0 v1 v2 v3 v4 v5 v6 v7 : Int32, q_w8 (Ts t).2.2.2.2 (Ts t).1 v0 v1 v2 v3 v4 v5 v6 v7 j k = (Ts t).2.2.2.2 j k from fun _ _ _ _ _ _ _ _ => pk_un hk2]
            exact updn (by omega) (updn (by omega) (updn (by omega) (updn (by omega) (updn (by omega) (updn (by omega) (updn (by omega) (updn (by omega) (i1 j hj))))))))
        · rw [va_up_ne _ _ hq]
          refine (hRt t ht).mono (Nat.le_refl _) (Nat.le_refl _) (fun _ _ => rfl) rfl rfl rfl rfl rfl (pk_un hq) (fun i hi => ?_) (hT20 t (by omega))
          exact updn (by omega) (updn (by omega) (updn (by omega) (updn (by omega) (updn (by omega) (updn (by omega) (updn (by omega) (updn (by omega) (rfl))))))))), (fun t ht => by
        by_cases hq : t = tj
        · subst hq; rw [va_up_self]; exact hTq t ht
        · rw [va_up_ne _ _ hq]; exact hTq t ht)⟩, (hk2 _ (by omega)).trans (va_up_self _ _ _), fun _ => by rw [pk_uLs]⟩

set_option maxHeartbeats 1000000 in
theorem J_remove {l : Launch} {D : va_G} {g : Nat → ClassId} {b : Nat} {f : Nat → va_E} {th : Int32} {ou : Nat → Int64} (x1 : Int32) (hfl : l.flags = flags0) (hou : f (b + 464) = aL g 1 ou) (hJ : q_J g b f th) : ∃ (c : Int32) (r : Int32) (ou2 : Nat → Int64) (f1 f2 : Nat → va_E) (rm2 : Room), okR rm2 ∧ fp_MX l D (TY g) b 465 (fz_A b) y_L_remove (Cond.codeWith y_L_remove b_L_remove 4 (some FieldType.int) [(0, 16, 19, 21)] :: TG) rmW 1 6 [.ref b, .int x1, .ref (b + 464)] f (fun v f' => v = some (.int c) ∧ f' = f1) ∧ fp_M l D (TY g) b 465 (fz_A b) y_M_remove (fp_ws y_M_remove b_M_remove 4 (some FieldType.boolean)) rm2 [.ref (b + 449), .int x1] f1 (fun v f' => v = some (.int r) ∧ f' = f2) ∧ (∃ vs : List Value, f1 (b + 449) = ob 8 vs) ∧ q_J g b f2 c ∧ f2 (b + 464) = aL g 1 ou2 ∧ (c = 0 → ou2 0 = if r = 0 then 0 else 1) := by
  have hA0 : fp_W b 465 (fz_A b) := fz_W
  have hbA : ∀ q : Nat, fz_A b q → b ≤ q := fun _ h => h
  obtain ⟨kf, acn, tcn, po, dr, k1, k2, k3, k4, z1, z2, zc, As, Ts, zw, zn, zd, zo, zt, zq, zm, zs, zct, ze, zk, zx, hC, hM, hdr, hzk, hRf, hRa, hRt, hTq⟩ := hJ
  obtain ⟨hkf, hac, htc, hA4, hT20⟩ := hC.bd
  by_cases h1 : q_in x1 (nI tcn) = 0
  · have hw := c_L_remove_t1 (l := l) (D := D) (ou := b + 464) (A := fz_A b) hbA ⟨by omega, by omega, hC.1⟩ (s_remove_t (D := D) hfl h1 hC)
    obtain ⟨f2, hX2, hM2, hk2⟩ := m_remove_out (b := b) (mo := b + 449) (l := l) (D := D) (Aa := fz_A b) h1 (by omega) (by omega) hM fz_W
    have hC2 := hC.kp (f' := f2) (fun q h1 h2 => hk2 q (by omega))
    exact ⟨1, 0, ou, f, f2, rmD 1, ⟨rfl, rfl, by decide, by decide⟩, hw, hX2, ⟨_, hM.1⟩, ⟨_, _, _, _, _, _, _, _, _, _, _, _, _, _, _, _, _, _, _, _, _, _, _, _, _, _, hC2, hM2, hdr, hzk, hRf, hRa, hRt, hTq⟩, (hk2 _ (by omega)).trans hou, fun q => absurd q (by decide)⟩
  · obtain ⟨tj, hj, rfl⟩ := q_in_of (by omega) h1
    have hsq := hTq tj (by omega)
    have hrow := q_row_or (fun i => q_same ((Ts tj).2.2.2.2 0 i) ((Ts tj).2.2.2.2 1 i) ((Ts tj).2.2.2.2 2 i) ((Ts tj).2.2.2.2 3 i) (k1 &&& (k2 &&& (Ts tj).2.1 4)) (k2 &&& (Ts tj).2.1 4) (k3 &&& (k4 &&& (Ts tj).2.1 5)) (k4 &&& (Ts tj).2.1 5)) (Ts tj).1 0
    have hcc := hT20 tj (by omega)
    rcases hrow with hr | ⟨row, -, hrl, hr, -⟩
    · obtain ⟨zy, -, hF⟩ := q_find (l := l) (D := D) (g := g) (b := b) (mo := b + 449) (Aa := fz_A b) (th := 0) (tcn := tcn) (po := po) (dr := dr) (z2 := z2) (zn := zn) (zd := zd) (zc := zc) (zx := zx) hzk (hRt tj hj) hkf (by omega) (hT20 tj (by omega)) (by omega) (by omega) hA0 hr
      obtain ⟨f1, hX1, hC1, hk1⟩ := s_remove_no (l := l) (D := D) (Aa := fz_A b) hj hsq hr hC fz_W
      have oo : fp_o b 465 f1 (b + 464) (aL g 1 ou) := ⟨by omega, by omega, (hk1 _ (by omega)).trans hou⟩
      have hw := c_L_remove_ok (A := fz_A b) hbA ⟨rfl, rfl⟩ ⟨by decide, by decide⟩ ⟨by omega, by omega, hC.1⟩ oo fz_W hX1
      have hM1 := hM.kp (f' := va_up f1 (b + 464) (aL g 1 (vp_updL ou 0 (if (0 : Int32) = 0 then 0 else 1)))) (fun q h1 h2 => va_upn (by omega) (hk1 q (by omega)))
      obtain ⟨f2, hX2, hM2, hk2⟩ := m_remove_no (b := b) (mo := b + 449) (l := l) (D := D) (Aa := fz_A b) (by omega) h1 hF (by omega) (by omega) hM1 fz_W
      have hC2 := hC1.kp (f' := f2) (fun q h1 h2 => (hk2 q (by omega)).trans (va_up_ne _ _ (by omega)))
      exact ⟨0, 0, _, _, f2, rmD 3, ⟨rfl, rfl, by decide, by decide⟩, hw, hX2, ⟨_, hM1.1⟩, ⟨_, _, _, _, _, _, _, _, _, _, _, _, _, _, _, _, _, _, _, _, _, _, _, _, _, _, hC2, hM2, hdr, hzk, hRf, hRa, (fun t ht => by
        by_cases hq : t = tj
        · subst hq; rw [va_up_self]; exact hRt t ht
        · rw [va_up_ne _ _ hq]; exact hRt t ht), (fun t ht => by
        by_cases hq : t = tj
        · subst hq; rw [va_up_self]; exact hTq t ht
        · rw [va_up_ne _ _ hq]; exact hTq t ht)⟩, (hk2 _ (by omega)).trans (va_up_self _ _ _), fun _ => by rw [pk_uLs]⟩
    · obtain ⟨zy, -, hF⟩ := q_find (l := l) (D := D) (g := g) (b := b) (mo := b + 449) (Aa := fz_A b) (th := 0) (tcn := tcn) (po := po) (dr := dr) (z2 := z2) (zn := zn) (zd := zd) (zc := zc) (zx := zx) hzk (hRt tj hj) hkf (by omega) (hT20 tj (by omega)) (by omega) (by omega) hA0 hr
      have hrl : row < (Ts tj).1 := by omega
      obtain ⟨f1, hX1, hC1, hk1⟩ := s_remove_yes (l := l) (D := D) (Aa := fz_A b) hj hsq hrl hr hC fz_W
      have oo : fp_o b 465 f1 (b + 464) (aL g 1 ou) := ⟨by omega, by omega, (hk1 _ (by omega)).trans hou⟩
      have hw := c_L_remove_ok (A := fz_A b) hbA ⟨rfl, rfl⟩ ⟨by decide, by decide⟩ ⟨by omega, by omega, hC.1⟩ oo fz_W hX1
      have hM1 := hM.kp (f' := va_up f1 (b + 464) (aL g 1 (vp_updL ou 0 (if (1 : Int32) = 0 then 0 else 1)))) (fun q h1 h2 => va_upn (by omega) (hk1 q (by omega)))
      obtain ⟨f2, hX2, hM2, hk2⟩ := m_remove_yes (b := b) (mo := b + 449) (l := l) (D := D) (Aa := fz_A b) (by omega) h1 hcc hrl (hRt tj hj).2.2.2.2.2.1 hF (by omega) (by omega) hM1 fz_W
      have hC2 := hC1.kp (f' := f2) (fun q h1 h2 => (hk2 q (by omega)).trans (va_up_ne _ _ (by omega)))
      exact ⟨0, 1, _, _, f2, rmD 3, ⟨rfl, rfl, by decide, by decide⟩, hw, hX2, ⟨_, hM1.1⟩, ⟨_, _, _, _, _, _, _, _, _, _, _, _, _, _, _, _, _, _, _, _, _, _, _, _, _, _, hC2, hM2, hdr, hzk, hRf, hRa, (fun t ht => by
        by_cases hq : t = tj
        · subst hq
          rw [va_up_self]
          obtain ⟨r1, r2, r3, r4, r5, r6, r7⟩ := hRt t ht
          refine ⟨r1, r2, r3, r4, r5, pk_us, fun k hk => ?_⟩
          dsimp only at hk ⊢
          have hpk : q_pi row (Ts t).1 k < (Ts t).1 ∧ (row ≤ k ∧ q_pi row (Ts t).1 k = k + 1 ∨ k < row ∧ q_pi row (Ts t).1 k = k) := by
            unfold q_pi
            rw [if_neg (show ¬ k = (Ts t).1 - 1 by omega)]
            by_cases c : row ≤ k ∧ k + 1 < (Ts t).1
            · rw [if_pos c]; exact ⟨c.2, Or.inl ⟨c.1, rfl⟩⟩
            · rw [if_neg c]; exact ⟨by omega, Or.inr ⟨by omega, rfl⟩⟩
          obtain ⟨i1, i2⟩ := r7 _ hpk.1
          refine ⟨fun j hj => ?_, i2⟩
          rw [← i1 j hj]
          unfold q_es
          rcases hpk.2 with ⟨c1, c2⟩ | ⟨c1, c2⟩
          · rw [if_pos (by omega), c2, show 160 * t + 8 * k + j + 8 = 160 * t + 8 * (k + 1) + j by omega]
          · rw [if_neg (by omega), c2]
        · rw [va_up_ne _ _ hq]
          refine (hRt t ht).mono (Nat.le_refl _) (Nat.le_refl _) (fun _ _ => rfl) rfl rfl rfl rfl rfl (pk_un hq) (fun i hi => ?_) (hT20 t (by omega))
          have hcc := hT20 tj (by omega)
          unfold q_es
          rw [if_neg (by omega)]), (fun t ht => by
        by_cases hq : t = tj
        · subst hq; rw [va_up_self]; exact fun i hi => hTq t ht _ (q_pi_lt hrl (hT20 t ht) hi)
        · rw [va_up_ne _ _ hq]; exact hTq t ht)⟩, (hk2 _ (by omega)).trans (va_up_self _ _ _), fun _ => by rw [pk_uLs]⟩

set_option maxHeartbeats 1000000 in
theorem J_act {l : Launch} {D : va_G} {g : Nat → ClassId} {b : Nat} {f : Nat → va_E} {th : Int32} {ou : Nat → Int64} (x1 : Int32) (hfl : l.flags = flags0) (hou : f (b + 464) = aL g 1 ou) (hJ : q_J g b f th) : ∃ (c : Int32) (r : Int32) (ou2 : Nat → Int64) (f1 f2 : Nat → va_E) (rm2 : Room), okR rm2 ∧ fp_MX l D (TY g) b 465 (fz_A b) y_L_act (Cond.codeWith y_L_act b_L_act 4 (some FieldType.int) [(0, 16, 19, 21)] :: TG) rmW 1 6 [.ref b, .int x1, .ref (b + 464)] f (fun v f' => v = some (.int c) ∧ f' = f1) ∧ fp_M l D (TY g) b 465 (fz_A b) y_M_act (fp_ws y_M_act b_M_act 6 (some FieldType.boolean)) rm2 [.ref (b + 449), .int x1] f1 (fun v f' => v = some (.int r) ∧ f' = f2) ∧ (∃ vs : List Value, f1 (b + 449) = ob 8 vs) ∧ q_J g b f2 c ∧ f2 (b + 464) = aL g 1 ou2 ∧ (c = 0 → ou2 0 = if r = 0 then 0 else 1) := by
  have hA0 : fp_W b 465 (fz_A b) := fz_W
  have hbA : ∀ q : Nat, fz_A b q → b ≤ q := fun _ h => h
  obtain ⟨kf, acn, tcn, po, dr, k1, k2, k3, k4, z1, z2, zc, As, Ts, zw, zn, zd, zo, zt, zq, zm, zs, zct, ze, zk, zx, hC, hM, hdr, hzk, hRf, hRa, hRt, hTq⟩ := hJ
  obtain ⟨hkf, hac, htc, hA4, hT20⟩ := hC.bd
  by_cases h1 : q_in x1 (nI tcn) = 0
  · have hw := c_L_act_t1 (l := l) (D := D) (ou := b + 464) (A := fz_A b) hbA ⟨by omega, by omega, hC.1⟩ (s_act_t (D := D) hfl h1 hC)
    obtain ⟨f2, hX2, hM2, hk2⟩ := m_act_out (b := b) (mo := b + 449) (l := l) (D := D) (Aa := fz_A b) h1 (by omega) (by omega) hM fz_W
    have hC2 := hC.kp (f' := f2) (fun q h1 h2 => hk2 q (by omega))
    exact ⟨1, 0, ou, f, f2, rmD 1, ⟨rfl, rfl, by decide, by decide⟩, hw, hX2, ⟨_, hM.1⟩, ⟨_, _, _, _, _, _, _, _, _, _, _, _, _, _, _, _, _, _, _, _, _, _, _, _, _, _, hC2, hM2, hdr, hzk, hRf, hRa, hRt, hTq⟩, (hk2 _ (by omega)).trans hou, fun q => absurd q (by decide)⟩
  · obtain ⟨tj, hj, rfl⟩ := q_in_of (by omega) h1
    have hcc := hT20 tj (by omega)
    cases hB : q_B z2 kf (Ts tj) with
    | none =>
      obtain ⟨-, -, -, -, ⟨s1, aj, haj, hu⟩, -, -⟩ := hRt tj hj
      obtain ⟨q1, q2⟩ := hRa aj haj
      have h44 := hA4 aj (by omega)
      have hdk0 : ∀ i : Nat, i < (As aj).1 → (As aj).2 0 i = nI ((As aj).2 0 i).toNatClampNeg ∧ ((As aj).2 0 i).toNatClampNeg < 9 ∧ ¬ q_ops ((As aj).2 0 i).toNatClampNeg ((As aj).2 1 i) ((As aj).2 2 i) ((As aj).2 3 i) (nI kf) = 0 := by
        intro i hi
        obtain ⟨kj, r1, r2, r3⟩ := (q2 i hi).2
        rw [r2, nI_clamp (by omega)]; exact ⟨rfl, r1, r3⟩
      have hrun : ∀ i1 i2 : Int32, q_run (nI kf) z1 (fun i => ((As aj).2 0 i).toNatClampNeg) (fun k => zd (16 * aj + 4 * k + 1)) (fun k => zd (16 * aj + 4 * k + 2)) (fun k => zd (16 * aj + 4 * k + 3)) i1 i2 (z2, zc, 0, 0) (As aj).1 = q_run (nI kf) z1 (fun i => ((As aj).2 0 i).toNatClampNeg) ((As aj).2 1) ((As aj).2 2) ((As aj).2 3) i1 i2 (z2, zc, 0, 0) (As aj).1 :=
        fun i1 i2 => q_run_congr _ (fun i hi => ⟨(q2 i hi).1 1 (by decide), (q2 i hi).1 2 (by decide), (q2 i hi).1 3 (by decide)⟩)
      obtain ⟨f1, hX1, hC1, hk1⟩ := s_act_none (l := l) (D := D) (Aa := fz_A b) hj haj (fun i hi => (hdk0 i hi).1) (fun i hi => (hdk0 i hi).2.1) hB hu hC fz_W
      have oo : fp_o b 465 f1 (b + 464) (aL g 1 ou) := ⟨by omega, by omega, (hk1 _ (by omega)).trans hou⟩
      have hw := c_L_act_ok (A := fz_A b) hbA ⟨rfl, rfl⟩ ⟨by decide, by decide⟩ ⟨by omega, by omega, hC.1⟩ oo fz_W hX1
      have hM1 := hM.kp (f' := va_up f1 (b + 464) (aL g 1 (vp_updL ou 0 (if (0 : Int32) = 0 then 0 else 1)))) (fun q h1 h2 => va_upn (by omega) (hk1 q (by omega)))
      obtain ⟨f2, hX2, hM2, hk2⟩ := m_act_none (b := b) (mo := b + 449) (l := l) (D := D) (Aa := fz_A b) (by omega) h1 hkf (by omega) h44 (fun j hj => (hRf j hj).1) (s1.trans hu) q1 (fun i hi => ((q2 i hi).1 0 (by decide)).trans (hdk0 i hi).1) (fun i hi => (hdk0 i hi).2.1) (fun i hi => by rw [(q2 i hi).1 1 (by decide), (q2 i hi).1 2 (by decide), (q2 i hi).1 3 (by decide)]; exact (hdk0 i hi).2.2) (q_match (hRt tj hj) hkf (by omega) hcc (by omega) (by omega) hB) (by omega) (by omega) hM1 fz_W
      rw [hrun 0 0] at hM2
      have hC2 := hC1.kp (f' := f2) (fun q h1 h2 => (hk2 q (by omega)).trans (va_up_ne _ _ (by omega)))
      exact ⟨0, 0, _, _, f2, rmD 4, ⟨rfl, rfl, by decide, by decide⟩, hw, hX2, ⟨_, hM1.1⟩, ⟨_, _, _, _, _, _, _, _, _, _, _, _, _, _, _, _, _, _, _, _, _, _, _, _, _, _, hC2, hM2, (q_run_dr (Or.inl rfl) _), hzk, hRf, hRa, hRt, hTq⟩, (hk2 _ (by omega)).trans (va_up_self _ _ _), fun _ => by rw [pk_uLs]⟩
    | some j =>
      have hjl : j < (Ts tj).1 := (q_best_lt hB).1
      obtain ⟨-, -, -, -, -, -, g1⟩ := hRt tj hj
      obtain ⟨i1, ⟨aj, haj, hu⟩, -⟩ := g1 j hjl
      obtain ⟨q1, q2⟩ := hRa aj haj
      have h44 := hA4 aj (by omega)
      have hdk0 : ∀ i : Nat, i < (As aj).1 → (As aj).2 0 i = nI ((As aj).2 0 i).toNatClampNeg ∧ ((As aj).2 0 i).toNatClampNeg < 9 ∧ ¬ q_ops ((As aj).2 0 i).toNatClampNeg ((As aj).2 1 i) ((As aj).2 2 i) ((As aj).2 3 i) (nI kf) = 0 := by
        intro i hi
        obtain ⟨kj, r1, r2, r3⟩ := (q2 i hi).2
        rw [r2, nI_clamp (by omega)]; exact ⟨rfl, r1, r3⟩
      have hrun : ∀ i1 i2 : Int32, q_run (nI kf) z1 (fun i => ((As aj).2 0 i).toNatClampNeg) (fun k => zd (16 * aj + 4 * k + 1)) (fun k => zd (16 * aj + 4 * k + 2)) (fun k => zd (16 * aj + 4 * k + 3)) i1 i2 (z2, zc, 0, 0) (As aj).1 = q_run (nI kf) z1 (fun i => ((As aj).2 0 i).toNatClampNeg) ((As aj).2 1) ((As aj).2 2) ((As aj).2 3) i1 i2 (z2, zc, 0, 0) (As aj).1 :=
        fun i1 i2 => q_run_congr _ (fun i hi => ⟨(q2 i hi).1 1 (by decide), (q2 i hi).1 2 (by decide), (q2 i hi).1 3 (by decide)⟩)
      obtain ⟨f1, hX1, hC1, hk1⟩ := s_act_some (l := l) (D := D) (Aa := fz_A b) hj haj (fun i hi => (hdk0 i hi).1) (fun i hi => (hdk0 i hi).2.1) hB hu hC fz_W
      have oo : fp_o b 465 f1 (b + 464) (aL g 1 ou) := ⟨by omega, by omega, (hk1 _ (by omega)).trans hou⟩
      have hw := c_L_act_ok (A := fz_A b) hbA ⟨rfl, rfl⟩ ⟨by decide, by decide⟩ ⟨by omega, by omega, hC.1⟩ oo fz_W hX1
      have hM1 := hM.kp (f' := va_up f1 (b + 464) (aL g 1 (vp_updL ou 0 (if (1 : Int32) = 0 then 0 else 1)))) (fun q h1 h2 => va_upn (by omega) (hk1 q (by omega)))
      obtain ⟨f2, hX2, hM2, hk2⟩ := m_act_some (b := b) (mo := b + 449) (l := l) (D := D) (Aa := fz_A b) (by omega) h1 (by omega) hkf (by omega) h44 (fun j hj => (hRf j hj).1) ((i1 5 (by decide)).trans hu) q1 (fun i hi => ((q2 i hi).1 0 (by decide)).trans (hdk0 i hi).1) (fun i hi => (hdk0 i hi).2.1) (fun i hi => by rw [(q2 i hi).1 1 (by decide), (q2 i hi).1 2 (by decide), (q2 i hi).1 3 (by decide)]; exact (hdk0 i hi).2.2) (q_match (hRt tj hj) hkf (by omega) hcc (by omega) (by omega) hB) (by omega) (by omega) hM1 fz_W
      rw [i1 6 (by decide), i1 7 (by decide), hrun] at hM2
      have hC2 := hC1.kp (f' := f2) (fun q h1 h2 => (hk2 q (by omega)).trans (va_up_ne _ _ (by omega)))
      exact ⟨0, 1, _, _, f2, rmD 4, ⟨rfl, rfl, by decide, by decide⟩, hw, hX2, ⟨_, hM1.1⟩, ⟨_, _, _, _, _, _, _, _, _, _, _, _, _, _, _, _, _, _, _, _, _, _, _, _, _, _, hC2, hM2, (q_run_dr (Or.inl rfl) _), hzk, hRf, hRa, hRt, hTq⟩, (hk2 _ (by omega)).trans (va_up_self _ _ _), fun _ => by rw [pk_uLs]⟩

