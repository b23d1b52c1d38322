/-! The law's first world: the object and the reference just made, nothing in either; reading the script; the switch's number. -/
theorem J_thrown {l : Launch} {D : va_G} {g : Nat → ClassId} {b : Nat} {f : Nat → va_E} {th : Int32} (hJ : q_J g b f th) : fp_M l D (TY g) b 465 (fz_A b) y_M_thrown (fp_ws y_M_thrown b_M_thrown 1 (some FieldType.int)) (rmD 0) [.ref (b + 449)] f (fun v f' => v = some (.int th) ∧ f' = f) := by
  obtain ⟨kf, acn, tcn, po, dr, k1, k2, k3, k4, z1, z2, zc, As, Ts, zw, zn, zd, zo, zt, zq, zm, zs, zct, ze, zk, zx, hC, hM, -⟩ := hJ
  exact m_thrown (by omega) (by omega) hM
theorem st_qA {g : Nat → ClassId} {b k : Nat} {f : Nat → va_E} (h : p_Ak g b (9 + 6 * k) f) : q_A g b k f (0, fun _ _ => 0) := by
  obtain ⟨h1, h2, h3⟩ := h
  exact ⟨by decide, by rw [h1, nI_0], h2, fun i hi => h3 i hi⟩
theorem st_qT {g : Nat → ClassId} {b t : Nat} {f : Nat → va_E} (h : p_Tk g b (105 + 43 * t) f) : q_T g b t f (0, fun _ => 0, q_rr (b + (105 + 43 * t + 1 + 2)) 2 20, fun i => b + (105 + 43 * t + 1 + 2 + 2 * i), fun _ _ => 0) := by
  obtain ⟨h1, h2, h3, h4⟩ := h
  refine ⟨Nat.zero_le 20, by rw [h1, nI_0], h2, h3, fun i hi => ⟨q_rr_at hi (by dsimp only; omega), by dsimp only; omega, by dsimp only; omega, (h4 i hi).1, (h4 i hi).2⟩, fun i hi j hj e => by dsimp only at e; omega⟩
theorem J_start {g : Nat → ClassId} {b : Nat} {f1 fa fb fc fd : Nat → va_E} (hX : p_X g b 1 b 16 8 f1 fa) (hk1 : ∀ q : Nat, q < b + 449 → fb q = fa q) (hM : p_M g b 450 (b + 449) fb fc) (hk2 : ∀ q : Nat, q < b + 464 → fd q = fc q) : q_J g b fd 0 := by
  obtain ⟨x0, x1, x2, x3, x4, x5, x6, x7, x8, xA, xT, -⟩ := hX
  obtain ⟨m0, m1, m2, m3, m4, m5, m6, m7, m8, m9, m10, m11, m12, m13, m14, mk⟩ := hM
  have hC : q_C g b fa 0 0 0 0 0 0 0 0 0 (fun _ => 0) (fun _ => 0) (fun _ => 0) (fun _ => (0, fun _ _ => 0)) (fun t => (0, fun _ => 0, q_rr (b + (105 + 43 * t + 1 + 2)) 2 20, fun i => b + (105 + 43 * t + 1 + 2 + 2 * i), fun _ _ => 0)) := by
    refine ⟨by rw [x0, nI_0], by rw [x1, nI_0], x2, x3, x4, x5, x6, x7, x8, by decide, by decide, by decide, fun k hk => st_qA (xA k hk), fun t ht => st_qT (xT t ht)⟩
  have hC2 := hC.kp (f' := fd) (fun q h1 h2 => ((hk2 q (by omega)).trans (mk q (by omega) (by omega))).trans (hk1 q h2))
  have hMo : q_Mo g (b + 449) fc 0 0 0 0 0 0 (fun _ => 0) (fun _ => 0) (fun _ => 0) (fun _ => 0) (fun _ => 0) (fun _ => 0) (fun _ => 0) (fun _ => 0) (fun _ => 0) (fun _ => 0) (fun _ => 0) (fun _ => 0) (fun _ => 0) (fun _ => 0) := by
    refine ⟨by rw [m0, nI_0], m1, m2, m3, m4, m5, m6, m7, m8, m9, m10, m11, m12, m13, m14⟩
  have hMo2 := hMo.kp (f' := fd) (fun q h1 h2 => hk2 q (by omega))
  exact ⟨_, _, _, _, _, _, _, _, _, _, _, _, _, _, _, _, _, _, _, _, _, _, _, _, _, _, hC2, hMo2, Or.inl rfl, ⟨rfl, rfl, rfl, rfl⟩, fun j hj => absurd hj (by omega), fun k hk => absurd hk (by omega), fun t ht => absurd ht (by omega), fun t ht i hi => by dsimp only; omega⟩
theorem lc_self (x : Int64) : lg_cmp x x = 0 := by simp [lg_cmp, Int64.lt_irrefl]
theorem lc_and15 (x : Int32) : ∃ k : Nat, k < 16 ∧ x &&& 15 = nI k := by
  refine ⟨(x &&& 15).toBitVec.toNat, ?_, nI_rep _⟩
  have h : (x &&& 15).toBitVec.toNat = x.toBitVec.toNat &&& 15 := by rw [Int32.toBitVec_and, BitVec.toNat_and]; rfl
  rw [h]
  exact Nat.lt_of_le_of_lt Nat.and_le_right (by decide)
theorem lc_end {i L : Nat} (hL : L ≤ 3072) (hi : i ≤ L) (h : ¬ nI L - 6 < nI i) : i + 6 ≤ L := by
  refine Nat.not_lt.mp (fun q => h ?_)
  have h6 : (6 : Int32).toInt = 6 := by decide
  rw [Int32.lt_iff_toInt_lt, Int32.toInt_sub, h6, nI_toInt (by omega), nI_toInt (by omega), Int.bmod_eq_of_le (by omega) (by omega)]
  omega
section LC
variable {p : Program} {l : Launch} {e : Env} {R : Room} {s : State} {m : MethodId} {args : Array Value} {below : List Frame} {meth : Method} {c : Code} {H : Heap} {locs : List Loc} {cells slots : Nat} {Q : State → Prop}
variable {cc : ByteArray} {pc nL : Nat} {ls : Array Slot} {rest : List Value} {D : va_G} {g : Nat → ClassId} {b n : Nat} {f : Nat → va_E} {own : String}
theorem lc_ld {sb L k : Nat} {xs : Nat → Int32} {v : Int32} (X : fp_X p s m args c cc nL own D (TY g)) (Y : fp_H D b n (fz_A b) f s.heap H locs) (hS : va_X sb L xs s s.heap) (hbl : sb < s.heap.size) (hbA : ¬ fz_A b sb) (hL : L ≤ 3072) (hv : v = nI k) (hk : k < L) (hdg : decode cc pc = .ok (.iaload, 1))
    (kk : W p l e R s m args below meth c H locs cells slots Q (F0 m (pc + 1) ls (.int (xs k) :: rest))) : W p l e R s m args below meth c H locs cells slots Q (F0 m pc ls (.int v :: .ref sb :: rest)) := by
  subst hv
  refine va_sld X.1.1 X.1.2.1 hS hbl hbA Y.2.1 (vp_in_nI hk (by omega)) hdg ?_
  rw [nI_clamp (by omega)]
  exact kk
theorem lc_len {sb L : Nat} {xs : Nat → Int32} (X : fp_X p s m args c cc nL own D (TY g)) (Y : fp_H D b n (fz_A b) f s.heap H locs) (hS : va_X sb L xs s s.heap) (hbl : sb < s.heap.size) (hbA : ¬ fz_A b sb) (hdg : decode cc pc = .ok (.arraylength, 1))
    (kk : W p l e R s m args below meth c H locs cells slots Q (F0 m (pc + 1) ls (.int (nI L) :: rest))) : W p l e R s m args below meth c H locs cells slots Q (F0 m pc ls (.ref sb :: rest)) :=
  va_slen X.1.1 X.1.2.1 hS hbl hbA Y.2.1 hdg kk
end LC
