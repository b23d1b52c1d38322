/-! Contracts: insert, remove, matches, act of a table that is there (by wip/gen/k8.py). -/
theorem nar_tk (a b r c : Int32) : narrow .boolean (.int (q_tk a b r c)) = .int (q_tk a b r c) := by unfold q_tk; repeat' split
                                                                                                     all_goals rfl
theorem q_best_lt {S : Nat → Int32} {B : Nat → Nat → Int32} : ∀ {i j : Nat}, q_best S B i = some j → j < i ∧ ¬ S j = 0
  | 0, j, h => by simp [q_best] at h
  | i + 1, j, h => by
    simp only [q_best] at h
    cases hq : q_best S B i with
    | none =>
      rw [hq] at h
      simp only at h
      by_cases hs : S i = 0
      · simp [hs] at h
      · simp only [if_neg hs, Option.some.injEq] at h
        subst h
        exact ⟨by omega, hs⟩
    | some j' =>
      rw [hq] at h
      simp only at h
      have ih := q_best_lt hq
      by_cases hs : S i = 0
      · simp only [if_pos hs, Option.some.injEq] at h
        subst h
        exact ⟨by omega, ih.2⟩
      · simp only [if_neg hs] at h
        by_cases hb : B i j' = 0
        · simp only [if_pos hb, Option.some.injEq] at h
          subst h
          exact ⟨by omega, ih.2⟩
        · simp only [if_neg hb, Option.some.injEq] at h
          subst h
          exact ⟨by omega, hs⟩
set_option maxHeartbeats 4000000 in
set_option maxRecDepth 100000 in
theorem c_X_insert {l : Launch} {D : va_G} {g : Nat → ClassId} {b n : Nat} {A : Nat → Prop} {f : Nat → va_E} {a fo co qa qt kq acn tcn : Nat} {po dr : Int32} {t r sq cn tj : Nat} {xf xg hF hG oF oG al ms : Int32} {zr zt : Nat → Option Nat} {er ek : Nat → Nat} {u1 u2 u3 u4 y1 y2 y3 y4 : Nat → Int32} {k1 k2 k3 k4 s1 s2 s3 s4 x1 x2 x3 x4 : Int32} (htj : tj < tcn) (htc : tcn ≤ 8) (hzt : zt tj = some t) (hcn : cn ≤ 20) (hr : ∀ i : Nat, i < 20 → zr i = some (er i)) (hsk : ∀ i : Nat, i < 20 → ek i ≠ sq) (oa : fp_o b n f a (ob 7 [.ref fo, .ref co, .ref qa, .int (nI acn), .ref qt, .int (nI tcn), .ref kq, .int po, .int dr])) (oqt : fp_o b n f qt (aR g 4 8 zt)) (ot : fp_o b n f t (ob 6 [.ref r, .int (nI cn), .int xf, .int xg, .int hF, .int hG, .int oF, .int oG, .int al, .int ms, .ref sq])) (orr : fp_o b n f r (aR g 3 20 zr)) (os : fp_o b n f sq (ob 5 [.int s1, .int s2, .int s3, .int s4])) (oq : fp_o b n f kq (ob 5 [.int k1, .int k2, .int k3, .int k4])) (he : ∀ i9 : Nat, i9 < 20 → fp_o b n f (er i9) (ob 3 [.ref (ek i9), .int (u1 i9), .int (u2 i9), .int (u3 i9), .int (u4 i9)])) (hk : ∀ i9 : Nat, i9 < 20 → fp_o b n f (ek i9) (ob 5 [.int (y1 i9), .int (y2 i9), .int (y3 i9), .int (y4 i9)])) (hA : fp_W b n A) : fp_M l D (TY g) b n A y_X_insert (fp_ws y_X_insert b_X_insert 6 (some FieldType.boolean)) (rmD 3) [.ref a, .int (nI tj), .int x1, .int x2, .int x3, .int x4] f (fun v f' => v = some (.int (q_tk (q_masks hF hG oF oG (k2 &&& oF) (k4 &&& oG)) (q_alw al x2) (q_row (fun i => q_same (y1 i) (y2 i) (y3 i) (y4 i) (k1 &&& (k2 &&& oF)) (k2 &&& oF) (k3 &&& (k4 &&& oG)) (k4 &&& oG)) cn 0) (nI cn))) ∧ f' = if q_tk (q_masks hF hG oF oG (k2 &&& oF) (k4 &&& oG)) (q_alw al x2) (q_row (fun i => q_same (y1 i) (y2 i) (y3 i) (y4 i) (k1 &&& (k2 &&& oF)) (k2 &&& oF) (k3 &&& (k4 &&& oG)) (k4 &&& oG)) cn 0) (nI cn) = 0 then (va_up f sq (ob 5 [.int (k1 &&& (k2 &&& oF)), .int (k2 &&& oF), .int (k3 &&& (k4 &&& oG)), .int (k4 &&& oG)])) else (va_up (va_up (va_up (va_up f sq (ob 5 [.int (k1 &&& (k2 &&& oF)), .int (k2 &&& oF), .int (k3 &&& (k4 &&& oG)), .int (k4 &&& oG)])) (ek cn) (ob 5 [.int (k1 &&& (k2 &&& oF)), .int (k2 &&& oF), .int (k3 &&& (k4 &&& oG)), .int (k4 &&& oG)])) (er cn) (ob 3 [.ref (ek cn), .int x1, .int x2, .int x3, .int x4])) t (ob 6 [.ref r, .int (nI (cn + 1)), .int xf, .int xg, .int hF, .int hG, .int oF, .int oG, .int al, .int ms, .ref sq]))) := by
  refine fp_ofI (plainFor_of_name (by decide)) (Nat.le_of_ble_eq_true rfl) ?_
  intro p e s m args below meth c Q ls H locs X Y hl ret
  have hx := X.1.1
  have hb := X.1.2.1
  have hl : lv_has ls 6 [(0, .ref a), (1, .int (nI tj)), (2, .int x1), (3, .int x2), (4, .int x3), (5, .int x4)] := hl
  refine lv_aload_n hx hb d_X_insert_0 rfl (lv_at hl 0 rfl) ?_
  refine lv_iload_n hx hb d_X_insert_1 rfl (lv_at hl 1 rfl) ?_
  refine fp_callV (nA := 1) (As := [.int (nI tj)]) (rest := []) X Y (c_X_isTable (nI tj) oa) oa rfl w261 w258 w260 wp0 w1 (by decide +kernel) ⟨rfl, rfl⟩ ⟨Nat.le_of_ble_eq_true rfl, Nat.le_of_ble_eq_true rfl⟩ rfl hl.1 rfl (Nat.le_of_ble_eq_true rfl) d_X_insert_2 ⟨Nat.zero_le _, Nat.zero_le _⟩ (fun v9 f9 H locs hp9 Y => ?_)
  obtain ⟨e8, e9⟩ := hp9
  subst e8
  rw [e9] at Y
  refine W.eq (g2 := F0 m 5 ls [.int (q_in (nI tj) (nI tcn))]) rfl ?_
  refine lv_if_ne (tgt := 18) hx hb d_X_insert_5 (by decide) (fun c_5 => ?_) (fun c_5 => absurd c_5 (by rw [q_in_lt htj (by omega)]; decide))
  refine lv_aload_n hx hb d_X_insert_18 rfl (lv_at hl 0 rfl) ?_
  refine fp_get X Y oa rfl in_X 4 (by decide) w195 rfl d_X_insert_19 ?_
  refine lv_iload_n hx hb d_X_insert_22 rfl (lv_at hl 1 rfl) ?_
  refine fp_ald 4 rfl X Y oqt tj rfl (by omega) (by decide) hzt d_X_insert_23 ?_
  refine lv_aload_n hx hb d_X_insert_24 rfl (lv_at hl 0 rfl) ?_
  refine fp_get X Y oa rfl in_X 6 (by decide) w197 rfl d_X_insert_25 ?_
  refine lv_iload_n hx hb d_X_insert_28 rfl (lv_at hl 2 rfl) ?_
  refine lv_iload_n hx hb d_X_insert_29 rfl (lv_at hl 3 rfl) ?_
  refine lv_iload hx hb d_X_insert_30 (lv_at hl 4 rfl) ?_
  refine lv_iload hx hb d_X_insert_32 (lv_at hl 5 rfl) ?_
  refine fp_callV (nA := 5) (As := [.ref kq, .int x1, .int x2, .int x3, .int x4]) (rest := []) X Y (c_T_takeIn x1 x2 x3 x4 hcn hr hsk ot orr os oq he hk) ot rfl w533 w530 w531 w532 w7 (by decide +kernel) ⟨rfl, rfl⟩ ⟨Nat.le_of_ble_eq_true rfl, Nat.le_of_ble_eq_true rfl⟩ rfl hl.1 rfl (Nat.le_of_ble_eq_true rfl) d_X_insert_34 ⟨Nat.zero_le _, Nat.zero_le _⟩ (fun v9 f9 H locs hp9 Y => ?_)
  obtain ⟨e8, e9⟩ := hp9
  subst e8
  rw [e9] at Y
  refine W.eq (g2 := F0 m 37 ls [.int (q_tk (q_masks hF hG oF oG (k2 &&& oF) (k4 &&& oG)) (q_alw al x2) (q_row (fun i => q_same (y1 i) (y2 i) (y3 i) (y4 i) (k1 &&& (k2 &&& oF)) (k2 &&& oF) (k3 &&& (k4 &&& oG)) (k4 &&& oG)) cn 0) (nI cn))]) rfl ?_
  exact ret _ _ _ _ _ _ d_X_insert_37 ⟨_, rfl, (nar_tk _ _ _ _)⟩ ⟨rfl, rfl⟩ Y
set_option maxHeartbeats 4000000 in
set_option maxRecDepth 100000 in
theorem c_X_remove {l : Launch} {D : va_G} {g : Nat → ClassId} {b n : Nat} {A : Nat → Prop} {f : Nat → va_E} {a fo co qa qt kq acn tcn : Nat} {po dr : Int32} {t r sq cn tj : Nat} {xf xg hF hG oF oG al ms : Int32} {zr zt : Nat → Option Nat} {er ek : Nat → Nat} {u1 u2 u3 u4 y1 y2 y3 y4 : Nat → Int32} {k1 k2 k3 k4 s1 s2 s3 s4 : Int32} (htj : tj < tcn) (htc : tcn ≤ 8) (hzt : zt tj = some t) (hcn : cn ≤ 20) (hr : ∀ i : Nat, i < 20 → zr i = some (er i)) (hsk : ∀ i : Nat, i < 20 → ek i ≠ sq) (oa : fp_o b n f a (ob 7 [.ref fo, .ref co, .ref qa, .int (nI acn), .ref qt, .int (nI tcn), .ref kq, .int po, .int dr])) (oqt : fp_o b n f qt (aR g 4 8 zt)) (ot : fp_o b n f t (ob 6 [.ref r, .int (nI cn), .int xf, .int xg, .int hF, .int hG, .int oF, .int oG, .int al, .int ms, .ref sq])) (orr : fp_o b n f r (aR g 3 20 zr)) (os : fp_o b n f sq (ob 5 [.int s1, .int s2, .int s3, .int s4])) (oq : fp_o b n f kq (ob 5 [.int k1, .int k2, .int k3, .int k4])) (he : ∀ i9 : Nat, i9 < 20 → fp_o b n f (er i9) (ob 3 [.ref (ek i9), .int (u1 i9), .int (u2 i9), .int (u3 i9), .int (u4 i9)])) (hk : ∀ i9 : Nat, i9 < 20 → fp_o b n f (ek i9) (ob 5 [.int (y1 i9), .int (y2 i9), .int (y3 i9), .int (y4 i9)])) (hA : fp_W b n A) : fp_M l D (TY g) b n A y_X_remove (fp_ws y_X_remove b_X_remove 2 (some FieldType.boolean)) (rmD 3) [.ref a, .int (nI tj)] f (fun v f' => (q_row (fun i => q_same (y1 i) (y2 i) (y3 i) (y4 i) (k1 &&& (k2 &&& oF)) (k2 &&& oF) (k3 &&& (k4 &&& oG)) (k4 &&& oG)) cn 0 = -1 → v = some (.int 0) ∧ f' = (va_up f sq (ob 5 [.int (k1 &&& (k2 &&& oF)), .int (k2 &&& oF), .int (k3 &&& (k4 &&& oG)), .int (k4 &&& oG)]))) ∧ ∀ row : Nat, row < cn → q_row (fun i => q_same (y1 i) (y2 i) (y3 i) (y4 i) (k1 &&& (k2 &&& oF)) (k2 &&& oF) (k3 &&& (k4 &&& oG)) (k4 &&& oG)) cn 0 = nI row → v = some (.int 1) ∧ f' = (va_up (va_up (va_up (va_up f sq (ob 5 [.int (k1 &&& (k2 &&& oF)), .int (k2 &&& oF), .int (k3 &&& (k4 &&& oG)), .int (k4 &&& oG)])) r (aR g 3 20 (q_sh zr row cn))) t (ob 6 [.ref r, .int (nI (cn - 1)), .int xf, .int xg, .int hF, .int hG, .int oF, .int oG, .int al, .int ms, .ref sq])) r (aR g 3 20 (va_up (q_sh zr row cn) (cn - 1) (some (er row)))))) := by
  refine fp_ofI (plainFor_of_name (by decide)) (Nat.le_of_ble_eq_true rfl) ?_
  intro p e s m args below meth c Q ls H locs X Y hl ret
  have hx := X.1.1
  have hb := X.1.2.1
  have hl : lv_has ls 2 [(0, .ref a), (1, .int (nI tj))] := hl
  refine lv_aload_n hx hb d_X_remove_0 rfl (lv_at hl 0 rfl) ?_
  refine lv_iload_n hx hb d_X_remove_1 rfl (lv_at hl 1 rfl) ?_
  refine fp_callV (nA := 1) (As := [.int (nI tj)]) (rest := []) X Y (c_X_isTable (nI tj) oa) oa rfl w261 w258 w260 wp0 w1 (by decide +kernel) ⟨rfl, rfl⟩ ⟨Nat.le_of_ble_eq_true rfl, Nat.le_of_ble_eq_true rfl⟩ rfl hl.1 rfl (Nat.le_of_ble_eq_true rfl) d_X_remove_2 ⟨Nat.zero_le _, Nat.zero_le _⟩ (fun v9 f9 H locs hp9 Y => ?_)
  obtain ⟨e8, e9⟩ := hp9
  subst e8
  rw [e9] at Y
  refine W.eq (g2 := F0 m 5 ls [.int (q_in (nI tj) (nI tcn))]) rfl ?_
  refine lv_if_ne (tgt := 18) hx hb d_X_remove_5 (by decide) (fun c_5 => ?_) (fun c_5 => absurd c_5 (by rw [q_in_lt htj (by omega)]; decide))
  refine lv_aload_n hx hb d_X_remove_18 rfl (lv_at hl 0 rfl) ?_
  refine fp_get X Y oa rfl in_X 4 (by decide) w195 rfl d_X_remove_19 ?_
  refine lv_iload_n hx hb d_X_remove_22 rfl (lv_at hl 1 rfl) ?_
  refine fp_ald 4 rfl X Y oqt tj rfl (by omega) (by decide) hzt d_X_remove_23 ?_
  refine lv_aload_n hx hb d_X_remove_24 rfl (lv_at hl 0 rfl) ?_
  refine fp_get X Y oa rfl in_X 6 (by decide) w197 rfl d_X_remove_25 ?_
  refine fp_callV (nA := 1) (As := [.ref kq]) (rest := []) X Y (c_T_takeOut hcn hr hsk ot orr os oq he hk) ot rfl w568 w565 w566 w567 w7 (by decide +kernel) ⟨rfl, rfl⟩ ⟨Nat.le_of_ble_eq_true rfl, Nat.le_of_ble_eq_true rfl⟩ rfl hl.1 rfl (Nat.le_of_ble_eq_true rfl) d_X_remove_28 ⟨Nat.zero_le _, Nat.zero_le _⟩ (fun v9 f9 H locs hp9 Y => ?_)
  rcases q_row_or (fun i => q_same (y1 i) (y2 i) (y3 i) (y4 i) (k1 &&& (k2 &&& oF)) (k2 &&& oF) (k3 &&& (k4 &&& oG)) (k4 &&& oG)) cn 0 with hq | ⟨row, -, hrow, hq, -⟩
  · obtain ⟨e8, e9⟩ := hp9.1 hq
    subst e8
    rw [e9] at Y
    refine W.eq (g2 := F0 m 31 ls [.int 0]) rfl ?_
    exact ret _ _ _ _ _ _ d_X_remove_31 ⟨_, rfl, rfl⟩ ⟨fun _ => ⟨rfl, rfl⟩, fun row h1 h2 => absurd (hq.symm.trans h2) (m1_ne (by omega))⟩ Y
  · obtain ⟨e8, e9⟩ := hp9.2 row (by omega) hq
    subst e8
    rw [e9] at Y
    refine W.eq (g2 := F0 m 31 ls [.int 1]) rfl ?_
    exact ret _ _ _ _ _ _ d_X_remove_31 ⟨_, rfl, rfl⟩ ⟨fun h9 => absurd (h9.symm.trans hq) (m1_ne (by omega)), fun row9 h1 h2 => by
      have e9 : row9 = row := (nI_eq (by omega) (by omega)).mp (h2.symm.trans hq)
      subst e9
      exact ⟨rfl, rfl⟩⟩ Y
set_option maxHeartbeats 4000000 in
set_option maxRecDepth 100000 in
theorem c_X_matches_none {l : Launch} {D : va_G} {g : Nat → ClassId} {b n : Nat} {A : Nat → Prop} {f : Nat → va_E} {a fo co qa qt kq acn tcn : Nat} {po dr : Int32} {q1 q2 kf : Nat} {z1 z2 : Nat → Int32} {t r sq cn tj : Nat} {xf xg hF hG oF oG al ms : Int32} {zr zt : Nat → Option Nat} {er ek : Nat → Nat} {u1 u2 u3 u4 y1 y2 y3 y4 : Nat → Int32} (htj : tj < tcn) (htc : tcn ≤ 8) (hzt : zt tj = some t) (hcn : cn ≤ 20) (hr : ∀ i : Nat, i < cn → zr i = some (er i)) (hkf : kf ≤ 16) (hB : q_best (fun i => q_fits (y1 i) (y2 i) (y3 i) (y4 i) (q_at z2 xf (nI kf)) (q_at z2 xg (nI kf))) (fun i j => q_bet (q_pre hF hG (y2 i) (y4 i)) (q_pre hF hG (y2 j) (y4 j)) (u1 i) (u1 j)) cn = none) (oa : fp_o b n f a (ob 7 [.ref fo, .ref co, .ref qa, .int (nI acn), .ref qt, .int (nI tcn), .ref kq, .int po, .int dr])) (oqt : fp_o b n f qt (aR g 4 8 zt)) (ot : fp_o b n f t (ob 6 [.ref r, .int (nI cn), .int xf, .int xg, .int hF, .int hG, .int oF, .int oG, .int al, .int ms, .ref sq])) (orr : fp_o b n f r (aR g 3 20 zr)) (of : fp_o b n f fo (ob 4 [.ref q1, .ref q2, .int (nI kf)])) (o1 : fp_o b n f q1 (aI g 16 z1)) (o2 : fp_o b n f q2 (aI g 16 z2)) (he : ∀ i9 : Nat, i9 < cn → fp_o b n f (er i9) (ob 3 [.ref (ek i9), .int (u1 i9), .int (u2 i9), .int (u3 i9), .int (u4 i9)])) (hk : ∀ i9 : Nat, i9 < cn → fp_o b n f (ek i9) (ob 5 [.int (y1 i9), .int (y2 i9), .int (y3 i9), .int (y4 i9)]))  : fp_M l D (TY g) b n A y_X_matches (fp_ws y_X_matches b_X_matches 3 (some FieldType.int)) (rmD 4) [.ref a, .int (nI tj)] f (fun v f' => v = some (.int (-1)) ∧ f' = f) := by
  refine fp_ofI (plainFor_of_name (by decide)) (Nat.le_of_ble_eq_true rfl) ?_
  intro p e s m args below meth c Q ls H locs X Y hl ret
  have hx := X.1.1
  have hb := X.1.2.1
  have hl : lv_has ls 3 [(0, .ref a), (1, .int (nI tj))] := hl
  refine lv_aload_n hx hb d_X_matches_0 rfl (lv_at hl 0 rfl) ?_
  refine lv_iload_n hx hb d_X_matches_1 rfl (lv_at hl 1 rfl) ?_
  refine fp_callV (nA := 1) (As := [.int (nI tj)]) (rest := []) X Y (c_X_isTable (nI tj) oa) oa rfl w261 w258 w260 wp0 w1 (by decide +kernel) ⟨rfl, rfl⟩ ⟨Nat.le_of_ble_eq_true rfl, Nat.le_of_ble_eq_true rfl⟩ rfl hl.1 rfl (Nat.le_of_ble_eq_true rfl) d_X_matches_2 ⟨Nat.zero_le _, Nat.zero_le _⟩ (fun v9 f9 H locs hp9 Y => ?_)
  obtain ⟨e8, e9⟩ := hp9
  subst e8
  rw [e9] at Y
  refine W.eq (g2 := F0 m 5 ls [.int (q_in (nI tj) (nI tcn))]) rfl ?_
  refine lv_if_ne (tgt := 10) hx hb d_X_matches_5 (by decide) (fun c_5 => ?_) (fun c_5 => absurd c_5 (by rw [q_in_lt htj (by omega)]; decide))
  refine lv_aload_n hx hb d_X_matches_10 rfl (lv_at hl 0 rfl) ?_
  refine fp_get X Y oa rfl in_X 4 (by decide) w195 rfl d_X_matches_11 ?_
  refine lv_iload_n hx hb d_X_matches_14 rfl (lv_at hl 1 rfl) ?_
  refine fp_ald 4 rfl X Y oqt tj rfl (by omega) (by decide) hzt d_X_matches_15 ?_
  refine lv_aload_n hx hb d_X_matches_16 rfl (lv_at hl 0 rfl) ?_
  refine fp_get X Y oa rfl in_X 0 (by decide) w191 rfl d_X_matches_17 ?_
  refine fp_callV (nA := 1) (As := [.ref fo]) (rest := []) X Y (c_T_bestMatch hcn hr hkf ot orr of o1 o2 he hk) ot rfl w265 w262 w263 w264 w7 (by decide +kernel) ⟨rfl, rfl⟩ ⟨Nat.le_of_ble_eq_true rfl, Nat.le_of_ble_eq_true rfl⟩ rfl hl.1 rfl (Nat.le_of_ble_eq_true rfl) d_X_matches_20 ⟨Nat.zero_le _, Nat.zero_le _⟩ (fun v9 f9 H locs hp9 Y => ?_)
  obtain ⟨e8, e9⟩ := hp9
  rw [hB] at e8
  subst e8
  rw [e9] at Y
  refine W.eq (g2 := F0 m 23 ls [.null]) rfl ?_
  refine lv_astore_nN (lv' := [(2, .null), (0, .ref a), (1, .int (nI tj))]) hx hb d_X_matches_23 rfl hl (by decide) rfl (fun ls hl => ?_)
  refine lv_aload_nN hx hb d_X_matches_24 rfl (lv_at hl 0 rfl) ?_
  refine lv_ifnonnullN hx hb d_X_matches_25 ?_
  refine lv_iconst (v := -1) hx hb d_X_matches_28 (by decide) ?_
  refine lv_goto (tgt := 36) hx hb d_X_matches_29 (by decide) ?_
  exact ret _ _ _ _ _ _ d_X_matches_36 ⟨_, rfl, rfl⟩ ⟨rfl, rfl⟩ Y
set_option maxHeartbeats 4000000 in
set_option maxRecDepth 100000 in
theorem c_X_matches_some {l : Launch} {D : va_G} {g : Nat → ClassId} {b n : Nat} {A : Nat → Prop} {f : Nat → va_E} {a fo co qa qt kq acn tcn : Nat} {po dr : Int32} {q1 q2 kf : Nat} {z1 z2 : Nat → Int32} {t r sq cn tj : Nat} {xf xg hF hG oF oG al ms : Int32} {zr zt : Nat → Option Nat} {er ek : Nat → Nat} {u1 u2 u3 u4 y1 y2 y3 y4 : Nat → Int32} (htj : tj < tcn) (htc : tcn ≤ 8) (hzt : zt tj = some t) (hcn : cn ≤ 20) (hr : ∀ i : Nat, i < cn → zr i = some (er i)) (hkf : kf ≤ 16) {j : Nat} (hB : q_best (fun i => q_fits (y1 i) (y2 i) (y3 i) (y4 i) (q_at z2 xf (nI kf)) (q_at z2 xg (nI kf))) (fun i j => q_bet (q_pre hF hG (y2 i) (y4 i)) (q_pre hF hG (y2 j) (y4 j)) (u1 i) (u1 j)) cn = some j) (oa : fp_o b n f a (ob 7 [.ref fo, .ref co, .ref qa, .int (nI acn), .ref qt, .int (nI tcn), .ref kq, .int po, .int dr])) (oqt : fp_o b n f qt (aR g 4 8 zt)) (ot : fp_o b n f t (ob 6 [.ref r, .int (nI cn), .int xf, .int xg, .int hF, .int hG, .int oF, .int oG, .int al, .int ms, .ref sq])) (orr : fp_o b n f r (aR g 3 20 zr)) (of : fp_o b n f fo (ob 4 [.ref q1, .ref q2, .int (nI kf)])) (o1 : fp_o b n f q1 (aI g 16 z1)) (o2 : fp_o b n f q2 (aI g 16 z2)) (he : ∀ i9 : Nat, i9 < cn → fp_o b n f (er i9) (ob 3 [.ref (ek i9), .int (u1 i9), .int (u2 i9), .int (u3 i9), .int (u4 i9)])) (hk : ∀ i9 : Nat, i9 < cn → fp_o b n f (ek i9) (ob 5 [.int (y1 i9), .int (y2 i9), .int (y3 i9), .int (y4 i9)]))  : fp_M l D (TY g) b n A y_X_matches (fp_ws y_X_matches b_X_matches 3 (some FieldType.int)) (rmD 4) [.ref a, .int (nI tj)] f (fun v f' => v = some (.int (u2 j)) ∧ f' = f) := by
  refine fp_ofI (plainFor_of_name (by decide)) (Nat.le_of_ble_eq_true rfl) ?_
  intro p e s m args below meth c Q ls H locs X Y hl ret
  have hx := X.1.1
  have hb := X.1.2.1
  have hl : lv_has ls 3 [(0, .ref a), (1, .int (nI tj))] := hl
  have hj : j < cn := (q_best_lt hB).1
  refine lv_aload_n hx hb d_X_matches_0 rfl (lv_at hl 0 rfl) ?_
  refine lv_iload_n hx hb d_X_matches_1 rfl (lv_at hl 1 rfl) ?_
  refine fp_callV (nA := 1) (As := [.int (nI tj)]) (rest := []) X Y (c_X_isTable (nI tj) oa) oa rfl w261 w258 w260 wp0 w1 (by decide +kernel) ⟨rfl, rfl⟩ ⟨Nat.le_of_ble_eq_true rfl, Nat.le_of_ble_eq_true rfl⟩ rfl hl.1 rfl (Nat.le_of_ble_eq_true rfl) d_X_matches_2 ⟨Nat.zero_le _, Nat.zero_le _⟩ (fun v9 f9 H locs hp9 Y => ?_)
  obtain ⟨e8, e9⟩ := hp9
  subst e8
  rw [e9] at Y
  refine W.eq (g2 := F0 m 5 ls [.int (q_in (nI tj) (nI tcn))]) rfl ?_
  refine lv_if_ne (tgt := 10) hx hb d_X_matches_5 (by decide) (fun c_5 => ?_) (fun c_5 => absurd c_5 (by rw [q_in_lt htj (by omega)]; decide))
  refine lv_aload_n hx hb d_X_matches_10 rfl (lv_at hl 0 rfl) ?_
  refine fp_get X Y oa rfl in_X 4 (by decide) w195 rfl d_X_matches_11 ?_
  refine lv_iload_n hx hb d_X_matches_14 rfl (lv_at hl 1 rfl) ?_
  refine fp_ald 4 rfl X Y oqt tj rfl (by omega) (by decide) hzt d_X_matches_15 ?_
  refine lv_aload_n hx hb d_X_matches_16 rfl (lv_at hl 0 rfl) ?_
  refine fp_get X Y oa rfl in_X 0 (by decide) w191 rfl d_X_matches_17 ?_
  refine fp_callV (nA := 1) (As := [.ref fo]) (rest := []) X Y (c_T_bestMatch hcn hr hkf ot orr of o1 o2 he hk) ot rfl w265 w262 w263 w264 w7 (by decide +kernel) ⟨rfl, rfl⟩ ⟨Nat.le_of_ble_eq_true rfl, Nat.le_of_ble_eq_true rfl⟩ rfl hl.1 rfl (Nat.le_of_ble_eq_true rfl) d_X_matches_20 ⟨Nat.zero_le _, Nat.zero_le _⟩ (fun v9 f9 H locs hp9 Y => ?_)
  obtain ⟨e8, e9⟩ := hp9
  rw [hB] at e8
  subst e8
  rw [e9] at Y
  have oe : fp_o b n f (er j) (ob 3 [.ref (ek j), .int (u1 j), .int (u2 j), .int (u3 j), .int (u4 j)]) := he j hj
  refine W.eq (g2 := F0 m 23 ls [.ref (er j)]) rfl ?_
  refine lv_astore_n (lv' := [(2, .ref (er j)), (0, .ref a), (1, .int (nI tj))]) hx hb d_X_matches_23 rfl hl (by decide) rfl (fun ls hl => ?_)
  refine lv_aload_n hx hb d_X_matches_24 rfl (lv_at hl 0 rfl) ?_
  refine lv_ifnonnull (tgt := 32) hx hb d_X_matches_25 (by decide) ?_
  refine lv_aload_n hx hb d_X_matches_32 rfl (lv_at hl 0 rfl) ?_
  refine fp_getN X Y oe rfl in_E 2 (by decide) nw139 rfl d_X_matches_33 ?_
  exact ret _ _ _ _ _ _ d_X_matches_36 ⟨_, rfl, rfl⟩ ⟨rfl, rfl⟩ Y
set_option maxHeartbeats 4000000 in
set_option maxRecDepth 100000 in
theorem c_X_act_none {l : Launch} {D : va_G} {g : Nat → ClassId} {b n : Nat} {A : Nat → Prop} {f : Nat → va_E} {a fo co qa qt kq acn tcn : Nat} {po dr : Int32} {q1 q2 kf : Nat} {z1 z2 : Nat → Int32} {qc : Nat} {zc : Nat → Int32} {t r sq cn tj : Nat} {xf xg hF hG oF oG al ms : Int32} {zr zt : Nat → Option Nat} {er ek : Nat → Nat} {u1 u2 u3 u4 y1 y2 y3 y4 : Nat → Int32} (htj : tj < tcn) (htc : tcn ≤ 8) (hzt : zt tj = some t) (hcn : cn ≤ 20) (hr : ∀ i : Nat, i < cn → zr i = some (er i)) (hkf : kf ≤ 16) {ax dq aj dn : Nat} {za zd : Nat → Option Nat} {da dk : Nat → Nat} {dx dy dz : Nat → Int32} (haj : aj < acn) (hac : acn ≤ 16) (hza : za aj = some ax) (hdn : dn ≤ 4) (hz : ∀ i : Nat, i < dn → zd i = some (da i)) (hdk : ∀ i : Nat, i < dn → dk i < 9) (hB : q_best (fun i => q_fits (y1 i) (y2 i) (y3 i) (y4 i) (q_at z2 xf (nI kf)) (q_at z2 xg (nI kf))) (fun i j => q_bet (q_pre hF hG (y2 i) (y4 i)) (q_pre hF hG (y2 j) (y4 j)) (u1 i) (u1 j)) cn = none) (oa : fp_o b n f a (ob 7 [.ref fo, .ref co, .ref qa, .int (nI acn), .ref qt, .int (nI tcn), .ref kq, .int po, .int dr])) (oqt : fp_o b n f qt (aR g 4 8 zt)) (ot : fp_o b n f t (ob 6 [.ref r, .int (nI cn), .int xf, .int xg, .int hF, .int hG, .int oF, .int oG, .int al, .int (nI aj), .ref sq])) (orr : fp_o b n f r (aR g 3 20 zr)) (of : fp_o b n f fo (ob 4 [.ref q1, .ref q2, .int (nI kf)])) (o1 : fp_o b n f q1 (aI g 16 z1)) (o2 : fp_o b n f q2 (aI g 16 z2)) (oc : fp_o b n f co (ob 1 [.ref qc])) (oqc : fp_o b n f qc (aI g 64 zc)) (oqa : fp_o b n f qa (aR g 1 16 za)) (oax : fp_o b n f ax (ob 0 [.ref dq, .int (nI dn)])) (odq : fp_o b n f dq (aR g 2 4 zd)) (he : ∀ i9 : Nat, i9 < cn → fp_o b n f (er i9) (ob 3 [.ref (ek i9), .int (u1 i9), .int (u2 i9), .int (u3 i9), .int (u4 i9)])) (hk : ∀ i9 : Nat, i9 < cn → fp_o b n f (ek i9) (ob 5 [.int (y1 i9), .int (y2 i9), .int (y3 i9), .int (y4 i9)])) (hd : ∀ i9 : Nat, i9 < dn → fp_o b n f (da i9) (ob 2 [.int (nI (dk i9)), .int (dx i9), .int (dy i9), .int (dz i9)])) (hne : q1 ≠ q2) (n2 : q1 ≠ qc) (n3 : q2 ≠ qc) (hA : fp_W b n A := by assumption) : fp_M l D (TY g) b n A y_X_act (fp_ws y_X_act b_X_act 3 (some FieldType.boolean)) (rmD 5) [.ref a, .int (nI tj)] f (fun v f' => v = some (.int 0) ∧ f' = q_put g (va_up f a (ob 7 [.ref fo, .ref co, .ref qa, .int (nI acn), .ref qt, .int (nI tcn), .ref kq, .int 0, .int 0])) q2 qc a fo co qa qt kq (nI acn) (nI tcn) (q_run (nI kf) z1 dk dx dy dz 0 0 (z2, zc, 0, 0) dn)) := by
  refine fp_ofI (plainFor_of_name (by decide)) (Nat.le_of_ble_eq_true rfl) ?_
  intro p e s m args below meth c Q ls H locs X Y hl ret
  have hx := X.1.1
  have hb := X.1.2.1
  have hl : lv_has ls 3 [(0, .ref a), (1, .int (nI tj))] := hl
  refine lv_aload_n hx hb d_X_act_0 rfl (lv_at hl 0 rfl) ?_
  refine lv_iload_n hx hb d_X_act_1 rfl (lv_at hl 1 rfl) ?_
  refine fp_callV (nA := 1) (As := [.int (nI tj)]) (rest := []) X Y (c_X_isTable (nI tj) oa) oa rfl w261 w258 w260 wp0 w1 (by decide +kernel) ⟨rfl, rfl⟩ ⟨Nat.le_of_ble_eq_true rfl, Nat.le_of_ble_eq_true rfl⟩ rfl hl.1 rfl (Nat.le_of_ble_eq_true rfl) d_X_act_2 ⟨Nat.zero_le _, Nat.zero_le _⟩ (fun v9 f9 H locs hp9 Y => ?_)
  obtain ⟨e8, e9⟩ := hp9
  subst e8
  rw [e9] at Y
  refine W.eq (g2 := F0 m 5 ls [.int (q_in (nI tj) (nI tcn))]) rfl ?_
  refine lv_if_ne (tgt := 18) hx hb d_X_act_5 (by decide) (fun c_5 => ?_) (fun c_5 => absurd c_5 (by rw [q_in_lt htj (by omega)]; decide))
  refine lv_aload_n hx hb d_X_act_18 rfl (lv_at hl 0 rfl) ?_
  refine lv_iconst (v := 0) hx hb d_X_act_19 (by decide) ?_
  refine fp_put X Y oa rfl in_X to_X nm_X 7 (by decide) w198 rfl rfl rfl (Nat.le_of_ble_eq_true rfl) d_X_act_20 (fun H locs Y => ?_)
  have ne_1 : qt ≠ a := (fp_o.nf oqt oa (by simp))
  have ne_2 : t ≠ a := (fp_o.nf ot oa (by simp))
  have ne_3 : r ≠ a := (fp_o.nf orr oa (by simp))
  have ne_4 : fo ≠ a := (fp_o.nf of oa (by simp))
  have ne_5 : q1 ≠ a := (fp_o.nf o1 oa (by simp))
  have ne_6 : q2 ≠ a := (fp_o.nf o2 oa (by simp))
  have ne_7 : co ≠ a := (fp_o.nf oc oa (by simp))
  have ne_8 : qc ≠ a := (fp_o.nf oqc oa (by simp))
  have ne_9 : qa ≠ a := (fp_o.nf oqa oa (by simp))
  have ne_10 : ax ≠ a := (fp_o.nf oax oa (by simp))
  have ne_11 : dq ≠ a := (fp_o.nf odq oa (by simp))
  have Y : fp_H D b n A (va_up f a (ob 7 [.ref fo, .ref co, .ref qa, .int (nI acn), .ref qt, .int (nI tcn), .ref kq, .int 0, .int dr])) s.heap H locs := Y
  have oqt : fp_o b n (va_up f a (ob 7 [.ref fo, .ref co, .ref qa, .int (nI acn), .ref qt, .int (nI tcn), .ref kq, .int 0, .int dr])) qt (aR g 4 8 zt) := fp_o.ne oqt ne_1
  have ot : fp_o b n (va_up f a (ob 7 [.ref fo, .ref co, .ref qa, .int (nI acn), .ref qt, .int (nI tcn), .ref kq, .int 0, .int dr])) t (ob 6 [.ref r, .int (nI cn), .int xf, .int xg, .int hF, .int hG, .int oF, .int oG, .int al, .int (nI aj), .ref sq]) := fp_o.ne ot ne_2
  have orr : fp_o b n (va_up f a (ob 7 [.ref fo, .ref co, .ref qa, .int (nI acn), .ref qt, .int (nI tcn), .ref kq, .int 0, .int dr])) r (aR g 3 20 zr) := fp_o.ne orr ne_3
  have of : fp_o b n (va_up f a (ob 7 [.ref fo, .ref co, .ref qa, .int (nI acn), .ref qt, .int (nI tcn), .ref kq, .int 0, .int dr])) fo (ob 4 [.ref q1, .ref q2, .int (nI kf)]) := fp_o.ne of ne_4
  have o1 : fp_o b n (va_up f a (ob 7 [.ref fo, .ref co, .ref qa, .int (nI acn), .ref qt, .int (nI tcn), .ref kq, .int 0, .int dr])) q1 (aI g 16 z1) := fp_o.ne o1 ne_5
  have o2 : fp_o b n (va_up f a (ob 7 [.ref fo, .ref co, .ref qa, .int (nI acn), .ref qt, .int (nI tcn), .ref kq, .int 0, .int dr])) q2 (aI g 16 z2) := fp_o.ne o2 ne_6
  have oc : fp_o b n (va_up f a (ob 7 [.ref fo, .ref co, .ref qa, .int (nI acn), .ref qt, .int (nI tcn), .ref kq, .int 0, .int dr])) co (ob 1 [.ref qc]) := fp_o.ne oc ne_7
  have oqc : fp_o b n (va_up f a (ob 7 [.ref fo, .ref co, .ref qa, .int (nI acn), .ref qt, .int (nI tcn), .ref kq, .int 0, .int dr])) qc (aI g 64 zc) := fp_o.ne oqc ne_8
  have oqa : fp_o b n (va_up f a (ob 7 [.ref fo, .ref co, .ref qa, .int (nI acn), .ref qt, .int (nI tcn), .ref kq, .int 0, .int dr])) qa (aR g 1 16 za) := fp_o.ne oqa ne_9
  have oax : fp_o b n (va_up f a (ob 7 [.ref fo, .ref co, .ref qa, .int (nI acn), .ref qt, .int (nI tcn), .ref kq, .int 0, .int dr])) ax (ob 0 [.ref dq, .int (nI dn)]) := fp_o.ne oax ne_10
  have odq : fp_o b n (va_up f a (ob 7 [.ref fo, .ref co, .ref qa, .int (nI acn), .ref qt, .int (nI tcn), .ref kq, .int 0, .int dr])) dq (aR g 2 4 zd) := fp_o.ne odq ne_11
  have he : ∀ i9 : Nat, i9 < cn → fp_o b n (va_up f a (ob 7 [.ref fo, .ref co, .ref qa, .int (nI acn), .ref qt, .int (nI tcn), .ref kq, .int 0, .int dr])) (er i9) (ob 3 [.ref (ek i9), .int (u1 i9), .int (u2 i9), .int (u3 i9), .int (u4 i9)]) := fun i9 hi9 => fp_o.ne (he i9 hi9) (fp_o.nf (he i9 hi9) oa (by simp))
  have hk : ∀ i9 : Nat, i9 < cn → fp_o b n (va_up f a (ob 7 [.ref fo, .ref co, .ref qa, .int (nI acn), .ref qt, .int (nI tcn), .ref kq, .int 0, .int dr])) (ek i9) (ob 5 [.int (y1 i9), .int (y2 i9), .int (y3 i9), .int (y4 i9)]) := fun i9 hi9 => fp_o.ne (hk i9 hi9) (fp_o.nf (hk i9 hi9) oa (by simp))
  have hd : ∀ i9 : Nat, i9 < dn → fp_o b n (va_up f a (ob 7 [.ref fo, .ref co, .ref qa, .int (nI acn), .ref qt, .int (nI tcn), .ref kq, .int 0, .int dr])) (da i9) (ob 2 [.int (nI (dk i9)), .int (dx i9), .int (dy i9), .int (dz i9)]) := fun i9 hi9 => fp_o.ne (hd i9 hi9) (fp_o.nf (hd i9 hi9) oa (by simp))
  have oa : fp_o b n (va_up f a (ob 7 [.ref fo, .ref co, .ref qa, .int (nI acn), .ref qt, .int (nI tcn), .ref kq, .int 0, .int dr])) a (ob 7 [.ref fo, .ref co, .ref qa, .int (nI acn), .ref qt, .int (nI tcn), .ref kq, .int 0, .int dr]) := fp_o.up oa
  refine lv_aload_n hx hb d_X_act_23 rfl (lv_at hl 0 rfl) ?_
  refine lv_iconst (v := 0) hx hb d_X_act_24 (by decide) ?_
  refine fp_put X Y oa rfl in_X to_X nm_X 8 (by decide) w199 rfl rfl rfl (Nat.le_of_ble_eq_true rfl) d_X_act_25 (fun H locs Y => ?_)
  have ne_12 : qt ≠ a := (fp_o.nf oqt oa (by simp))
  have ne_13 : t ≠ a := (fp_o.nf ot oa (by simp))
  have ne_14 : r ≠ a := (fp_o.nf orr oa (by simp))
  have ne_15 : fo ≠ a := (fp_o.nf of oa (by simp))
  have ne_16 : q1 ≠ a := (fp_o.nf o1 oa (by simp))
  have ne_17 : q2 ≠ a := (fp_o.nf o2 oa (by simp))
  have ne_18 : co ≠ a := (fp_o.nf oc oa (by simp))
  have ne_19 : qc ≠ a := (fp_o.nf oqc oa (by simp))
  have ne_20 : qa ≠ a := (fp_o.nf oqa oa (by simp))
  have ne_21 : ax ≠ a := (fp_o.nf oax oa (by simp))
  have ne_22 : dq ≠ a := (fp_o.nf odq oa (by simp))
  have Y := Y.re
  have Y : fp_H D b n A (va_up f a (ob 7 [.ref fo, .ref co, .ref qa, .int (nI acn), .ref qt, .int (nI tcn), .ref kq, .int 0, .int 0])) s.heap H locs := Y
  have oqt : fp_o b n (va_up f a (ob 7 [.ref fo, .ref co, .ref qa, .int (nI acn), .ref qt, .int (nI tcn), .ref kq, .int 0, .int 0])) qt (aR g 4 8 zt) := fp_o.re oqt ne_12
  have ot : fp_o b n (va_up f a (ob 7 [.ref fo, .ref co, .ref qa, .int (nI acn), .ref qt, .int (nI tcn), .ref kq, .int 0, .int 0])) t (ob 6 [.ref r, .int (nI cn), .int xf, .int xg, .int hF, .int hG, .int oF, .int oG, .int al, .int (nI aj), .ref sq]) := fp_o.re ot ne_13
  have orr : fp_o b n (va_up f a (ob 7 [.ref fo, .ref co, .ref qa, .int (nI acn), .ref qt, .int (nI tcn), .ref kq, .int 0, .int 0])) r (aR g 3 20 zr) := fp_o.re orr ne_14
  have of : fp_o b n (va_up f a (ob 7 [.ref fo, .ref co, .ref qa, .int (nI acn), .ref qt, .int (nI tcn), .ref kq, .int 0, .int 0])) fo (ob 4 [.ref q1, .ref q2, .int (nI kf)]) := fp_o.re of ne_15
  have o1 : fp_o b n (va_up f a (ob 7 [.ref fo, .ref co, .ref qa, .int (nI acn), .ref qt, .int (nI tcn), .ref kq, .int 0, .int 0])) q1 (aI g 16 z1) := fp_o.re o1 ne_16
  have o2 : fp_o b n (va_up f a (ob 7 [.ref fo, .ref co, .ref qa, .int (nI acn), .ref qt, .int (nI tcn), .ref kq, .int 0, .int 0])) q2 (aI g 16 z2) := fp_o.re o2 ne_17
  have oc : fp_o b n (va_up f a (ob 7 [.ref fo, .ref co, .ref qa, .int (nI acn), .ref qt, .int (nI tcn), .ref kq, .int 0, .int 0])) co (ob 1 [.ref qc]) := fp_o.re oc ne_18
  have oqc : fp_o b n (va_up f a (ob 7 [.ref fo, .ref co, .ref qa, .int (nI acn), .ref qt, .int (nI tcn), .ref kq, .int 0, .int 0])) qc (aI g 64 zc) := fp_o.re oqc ne_19
  have oqa : fp_o b n (va_up f a (ob 7 [.ref fo, .ref co, .ref qa, .int (nI acn), .ref qt, .int (nI tcn), .ref kq, .int 0, .int 0])) qa (aR g 1 16 za) := fp_o.re oqa ne_20
  have oax : fp_o b n (va_up f a (ob 7 [.ref fo, .ref co, .ref qa, .int (nI acn), .ref qt, .int (nI tcn), .ref kq, .int 0, .int 0])) ax (ob 0 [.ref dq, .int (nI dn)]) := fp_o.re oax ne_21
  have odq : fp_o b n (va_up f a (ob 7 [.ref fo, .ref co, .ref qa, .int (nI acn), .ref qt, .int (nI tcn), .ref kq, .int 0, .int 0])) dq (aR g 2 4 zd) := fp_o.re odq ne_22
  have he : ∀ i9 : Nat, i9 < cn → fp_o b n (va_up f a (ob 7 [.ref fo, .ref co, .ref qa, .int (nI acn), .ref qt, .int (nI tcn), .ref kq, .int 0, .int 0])) (er i9) (ob 3 [.ref (ek i9), .int (u1 i9), .int (u2 i9), .int (u3 i9), .int (u4 i9)]) := fun i9 hi9 => fp_o.re (he i9 hi9) (fp_o.nf (he i9 hi9) oa (by simp))
  have hk : ∀ i9 : Nat, i9 < cn → fp_o b n (va_up f a (ob 7 [.ref fo, .ref co, .ref qa, .int (nI acn), .ref qt, .int (nI tcn), .ref kq, .int 0, .int 0])) (ek i9) (ob 5 [.int (y1 i9), .int (y2 i9), .int (y3 i9), .int (y4 i9)]) := fun i9 hi9 => fp_o.re (hk i9 hi9) (fp_o.nf (hk i9 hi9) oa (by simp))
  have hd : ∀ i9 : Nat, i9 < dn → fp_o b n (va_up f a (ob 7 [.ref fo, .ref co, .ref qa, .int (nI acn), .ref qt, .int (nI tcn), .ref kq, .int 0, .int 0])) (da i9) (ob 2 [.int (nI (dk i9)), .int (dx i9), .int (dy i9), .int (dz i9)]) := fun i9 hi9 => fp_o.re (hd i9 hi9) (fp_o.nf (hd i9 hi9) oa (by simp))
  have oa : fp_o b n (va_up f a (ob 7 [.ref fo, .ref co, .ref qa, .int (nI acn), .ref qt, .int (nI tcn), .ref kq, .int 0, .int 0])) a (ob 7 [.ref fo, .ref co, .ref qa, .int (nI acn), .ref qt, .int (nI tcn), .ref kq, .int 0, .int 0]) := fp_o.rs oa
  refine lv_aload_n hx hb d_X_act_28 rfl (lv_at hl 0 rfl) ?_
  refine fp_get X Y oa rfl in_X 4 (by decide) w195 rfl d_X_act_29 ?_
  refine lv_iload_n hx hb d_X_act_32 rfl (lv_at hl 1 rfl) ?_
  refine fp_ald 4 rfl X Y oqt tj rfl (by omega) (by decide) hzt d_X_act_33 ?_
  refine lv_aload_n hx hb d_X_act_34 rfl (lv_at hl 0 rfl) ?_
  refine fp_get X Y oa rfl in_X 0 (by decide) w191 rfl d_X_act_35 ?_
  refine fp_callV (nA := 1) (As := [.ref fo]) (rest := []) X Y (c_T_bestMatch hcn hr hkf ot orr of o1 o2 he hk) ot rfl w265 w262 w263 w264 w7 (by decide +kernel) ⟨rfl, rfl⟩ ⟨Nat.le_of_ble_eq_true rfl, Nat.le_of_ble_eq_true rfl⟩ rfl hl.1 rfl (Nat.le_of_ble_eq_true rfl) d_X_act_38 ⟨Nat.zero_le _, Nat.zero_le _⟩ (fun v9 f9 H locs hp9 Y => ?_)
  obtain ⟨e8, e9⟩ := hp9
  rw [hB] at e8
  subst e8
  rw [e9] at Y
  refine W.eq (g2 := F0 m 41 ls [.null]) rfl ?_
  refine lv_astore_nN (lv' := [(2, .null), (0, .ref a), (1, .int (nI tj))]) hx hb d_X_act_41 rfl hl (by decide) rfl (fun ls hl => ?_)
  refine lv_aload_nN hx hb d_X_act_42 rfl (lv_at hl 0 rfl) ?_
  refine lv_ifnonnullN hx hb d_X_act_43 ?_
  refine lv_aload_n hx hb d_X_act_46 rfl (lv_at hl 1 rfl) ?_
  refine lv_aload_n hx hb d_X_act_47 rfl (lv_at hl 1 rfl) ?_
  refine fp_get X Y oa rfl in_X 4 (by decide) w195 rfl d_X_act_48 ?_
  refine lv_iload_n hx hb d_X_act_51 rfl (lv_at hl 2 rfl) ?_
  refine fp_ald 4 rfl X Y oqt tj rfl (by omega) (by decide) hzt d_X_act_52 ?_
  refine fp_getN X Y ot rfl in_T 9 (by decide) nw166 rfl d_X_act_53 ?_
  refine lv_iconst (v := 0) hx hb d_X_act_56 (by decide) ?_
  refine lv_iconst (v := 0) hx hb d_X_act_57 (by decide) ?_
  refine fp_callV (nA := 3) (As := [.int (nI aj), .int 0, .int 0]) (rest := []) X Y (c_X_doAction 0 0 hkf haj hac hza hdn hz hdk oa of o1 o2 oc oqc oqa oax odq hd hne n2 n3) oa rfl w579 w576 w578 wp12 w1 (by decide +kernel) ⟨rfl, rfl⟩ ⟨Nat.le_of_ble_eq_true rfl, Nat.le_of_ble_eq_true rfl⟩ rfl hl.1 rfl (Nat.le_of_ble_eq_true rfl) d_X_act_58 ⟨Nat.zero_le _, Nat.zero_le _⟩ (fun v9 f9 H locs hp9 Y => ?_)
  obtain ⟨e8, e9⟩ := hp9
  subst e8
  rw [e9] at Y
  refine W.eq (g2 := F0 m 61 ls []) rfl ?_
  refine lv_iconst (v := 0) hx hb d_X_act_61 (by decide) ?_
  exact ret _ _ _ _ _ _ d_X_act_62 ⟨_, rfl, rfl⟩ ⟨rfl, rfl⟩ Y
set_option maxHeartbeats 4000000 in
set_option maxRecDepth 100000 in
theorem c_X_act_some {l : Launch} {D : va_G} {g : Nat → ClassId} {b n : Nat} {A : Nat → Prop} {f : Nat → va_E} {a fo co qa qt kq acn tcn : Nat} {po dr : Int32} {q1 q2 kf : Nat} {z1 z2 : Nat → Int32} {qc : Nat} {zc : Nat → Int32} {t r sq cn tj : Nat} {xf xg hF hG oF oG al ms : Int32} {zr zt : Nat → Option Nat} {er ek : Nat → Nat} {u1 u2 u3 u4 y1 y2 y3 y4 : Nat → Int32} (htj : tj < tcn) (htc : tcn ≤ 8) (hzt : zt tj = some t) (hcn : cn ≤ 20) (hr : ∀ i : Nat, i < cn → zr i = some (er i)) (hkf : kf ≤ 16) {ax dq aj dn : Nat} {za zd : Nat → Option Nat} {da dk : Nat → Nat} {dx dy dz : Nat → Int32} (haj : aj < acn) (hac : acn ≤ 16) (hza : za aj = some ax) (hdn : dn ≤ 4) (hz : ∀ i : Nat, i < dn → zd i = some (da i)) (hdk : ∀ i : Nat, i < dn → dk i < 9) {j : Nat} (hB : q_best (fun i => q_fits (y1 i) (y2 i) (y3 i) (y4 i) (q_at z2 xf (nI kf)) (q_at z2 xg (nI kf))) (fun i j => q_bet (q_pre hF hG (y2 i) (y4 i)) (q_pre hF hG (y2 j) (y4 j)) (u1 i) (u1 j)) cn = some j) (hu : u2 j = nI aj) (oa : fp_o b n f a (ob 7 [.ref fo, .ref co, .ref qa, .int (nI acn), .ref qt, .int (nI tcn), .ref kq, .int po, .int dr])) (oqt : fp_o b n f qt (aR g 4 8 zt)) (ot : fp_o b n f t (ob 6 [.ref r, .int (nI cn), .int xf, .int xg, .int hF, .int hG, .int oF, .int oG, .int al, .int ms, .ref sq])) (orr : fp_o b n f r (aR g 3 20 zr)) (of : fp_o b n f fo (ob 4 [.ref q1, .ref q2, .int (nI kf)])) (o1 : fp_o b n f q1 (aI g 16 z1)) (o2 : fp_o b n f q2 (aI g 16 z2)) (oc : fp_o b n f co (ob 1 [.ref qc])) (oqc : fp_o b n f qc (aI g 64 zc)) (oqa : fp_o b n f qa (aR g 1 16 za)) (oax : fp_o b n f ax (ob 0 [.ref dq, .int (nI dn)])) (odq : fp_o b n f dq (aR g 2 4 zd)) (he : ∀ i9 : Nat, i9 < cn → fp_o b n f (er i9) (ob 3 [.ref (ek i9), .int (u1 i9), .int (u2 i9), .int (u3 i9), .int (u4 i9)])) (hk : ∀ i9 : Nat, i9 < cn → fp_o b n f (ek i9) (ob 5 [.int (y1 i9), .int (y2 i9), .int (y3 i9), .int (y4 i9)])) (hd : ∀ i9 : Nat, i9 < dn → fp_o b n f (da i9) (ob 2 [.int (nI (dk i9)), .int (dx i9), .int (dy i9), .int (dz i9)])) (hne : q1 ≠ q2) (n2 : q1 ≠ qc) (n3 : q2 ≠ qc) (hA : fp_W b n A := by assumption) : fp_M l D (TY g) b n A y_X_act (fp_ws y_X_act b_X_act 3 (some FieldType.boolean)) (rmD 5) [.ref a, .int (nI tj)] f (fun v f' => v = some (.int 1) ∧ f' = q_put g (va_up f a (ob 7 [.ref fo, .ref co, .ref qa, .int (nI acn), .ref qt, .int (nI tcn), .ref kq, .int 0, .int 0])) q2 qc a fo co qa qt kq (nI acn) (nI tcn) (q_run (nI kf) z1 dk dx dy dz (u3 j) (u4 j) (z2, zc, 0, 0) dn)) := by
  refine fp_ofI (plainFor_of_name (by decide)) (Nat.le_of_ble_eq_true rfl) ?_
  intro p e s m args below meth c Q ls H locs X Y hl ret
  have hx := X.1.1
  have hb := X.1.2.1
  have hl : lv_has ls 3 [(0, .ref a), (1, .int (nI tj))] := hl
  have hj : j < cn := (q_best_lt hB).1
  refine lv_aload_n hx hb d_X_act_0 rfl (lv_at hl 0 rfl) ?_
  refine lv_iload_n hx hb d_X_act_1 rfl (lv_at hl 1 rfl) ?_
  refine fp_callV (nA := 1) (As := [.int (nI tj)]) (rest := []) X Y (c_X_isTable (nI tj) oa) oa rfl w261 w258 w260 wp0 w1 (by decide +kernel) ⟨rfl, rfl⟩ ⟨Nat.le_of_ble_eq_true rfl, Nat.le_of_ble_eq_true rfl⟩ rfl hl.1 rfl (Nat.le_of_ble_eq_true rfl) d_X_act_2 ⟨Nat.zero_le _, Nat.zero_le _⟩ (fun v9 f9 H locs hp9 Y => ?_)
  obtain ⟨e8, e9⟩ := hp9
  subst e8
  rw [e9] at Y
  refine W.eq (g2 := F0 m 5 ls [.int (q_in (nI tj) (nI tcn))]) rfl ?_
  refine lv_if_ne (tgt := 18) hx hb d_X_act_5 (by decide) (fun c_5 => ?_) (fun c_5 => absurd c_5 (by rw [q_in_lt htj (by omega)]; decide))
  refine lv_aload_n hx hb d_X_act_18 rfl (lv_at hl 0 rfl) ?_
  refine lv_iconst (v := 0) hx hb d_X_act_19 (by decide) ?_
  refine fp_put X Y oa rfl in_X to_X nm_X 7 (by decide) w198 rfl rfl rfl (Nat.le_of_ble_eq_true rfl) d_X_act_20 (fun H locs Y => ?_)
  have ne_1 : qt ≠ a := (fp_o.nf oqt oa (by simp))
  have ne_2 : t ≠ a := (fp_o.nf ot oa (by simp))
  have ne_3 : r ≠ a := (fp_o.nf orr oa (by simp))
  have ne_4 : fo ≠ a := (fp_o.nf of oa (by simp))
  have ne_5 : q1 ≠ a := (fp_o.nf o1 oa (by simp))
  have ne_6 : q2 ≠ a := (fp_o.nf o2 oa (by simp))
  have ne_7 : co ≠ a := (fp_o.nf oc oa (by simp))
  have ne_8 : qc ≠ a := (fp_o.nf oqc oa (by simp))
  have ne_9 : qa ≠ a := (fp_o.nf oqa oa (by simp))
  have ne_10 : ax ≠ a := (fp_o.nf oax oa (by simp))
  have ne_11 : dq ≠ a := (fp_o.nf odq oa (by simp))
  have Y : fp_H D b n A (va_up f a (ob 7 [.ref fo, .ref co, .ref qa, .int (nI acn), .ref qt, .int (nI tcn), .ref kq, .int 0, .int dr])) s.heap H locs := Y
  have oqt : fp_o b n (va_up f a (ob 7 [.ref fo, .ref co, .ref qa, .int (nI acn), .ref qt, .int (nI tcn), .ref kq, .int 0, .int dr])) qt (aR g 4 8 zt) := fp_o.ne oqt ne_1
  have ot : fp_o b n (va_up f a (ob 7 [.ref fo, .ref co, .ref qa, .int (nI acn), .ref qt, .int (nI tcn), .ref kq, .int 0, .int dr])) t (ob 6 [.ref r, .int (nI cn), .int xf, .int xg, .int hF, .int hG, .int oF, .int oG, .int al, .int ms, .ref sq]) := fp_o.ne ot ne_2
  have orr : fp_o b n (va_up f a (ob 7 [.ref fo, .ref co, .ref qa, .int (nI acn), .ref qt, .int (nI tcn), .ref kq, .int 0, .int dr])) r (aR g 3 20 zr) := fp_o.ne orr ne_3
  have of : fp_o b n (va_up f a (ob 7 [.ref fo, .ref co, .ref qa, .int (nI acn), .ref qt, .int (nI tcn), .ref kq, .int 0, .int dr])) fo (ob 4 [.ref q1, .ref q2, .int (nI kf)]) := fp_o.ne of ne_4
  have o1 : fp_o b n (va_up f a (ob 7 [.ref fo, .ref co, .ref qa, .int (nI acn), .ref qt, .int (nI tcn), .ref kq, .int 0, .int dr])) q1 (aI g 16 z1) := fp_o.ne o1 ne_5
  have o2 : fp_o b n (va_up f a (ob 7 [.ref fo, .ref co, .ref qa, .int (nI acn), .ref qt, .int (nI tcn), .ref kq, .int 0, .int dr])) q2 (aI g 16 z2) := fp_o.ne o2 ne_6
  have oc : fp_o b n (va_up f a (ob 7 [.ref fo, .ref co, .ref qa, .int (nI acn), .ref qt, .int (nI tcn), .ref kq, .int 0, .int dr])) co (ob 1 [.ref qc]) := fp_o.ne oc ne_7
  have oqc : fp_o b n (va_up f a (ob 7 [.ref fo, .ref co, .ref qa, .int (nI acn), .ref qt, .int (nI tcn), .ref kq, .int 0, .int dr])) qc (aI g 64 zc) := fp_o.ne oqc ne_8
  have oqa : fp_o b n (va_up f a (ob 7 [.ref fo, .ref co, .ref qa, .int (nI acn), .ref qt, .int (nI tcn), .ref kq, .int 0, .int dr])) qa (aR g 1 16 za) := fp_o.ne oqa ne_9
  have oax : fp_o b n (va_up f a (ob 7 [.ref fo, .ref co, .ref qa, .int (nI acn), .ref qt, .int (nI tcn), .ref kq, .int 0, .int dr])) ax (ob 0 [.ref dq, .int (nI dn)]) := fp_o.ne oax ne_10
  have odq : fp_o b n (va_up f a (ob 7 [.ref fo, .ref co, .ref qa, .int (nI acn), .ref qt, .int (nI tcn), .ref kq, .int 0, .int dr])) dq (aR g 2 4 zd) := fp_o.ne odq ne_11
  have he : ∀ i9 : Nat, i9 < cn → fp_o b n (va_up f a (ob 7 [.ref fo, .ref co, .ref qa, .int (nI acn), .ref qt, .int (nI tcn), .ref kq, .int 0, .int dr])) (er i9) (ob 3 [.ref (ek i9), .int (u1 i9), .int (u2 i9), .int (u3 i9), .int (u4 i9)]) := fun i9 hi9 => fp_o.ne (he i9 hi9) (fp_o.nf (he i9 hi9) oa (by simp))
  have hk : ∀ i9 : Nat, i9 < cn → fp_o b n (va_up f a (ob 7 [.ref fo, .ref co, .ref qa, .int (nI acn), .ref qt, .int (nI tcn), .ref kq, .int 0, .int dr])) (ek i9) (ob 5 [.int (y1 i9), .int (y2 i9), .int (y3 i9), .int (y4 i9)]) := fun i9 hi9 => fp_o.ne (hk i9 hi9) (fp_o.nf (hk i9 hi9) oa (by simp))
  have hd : ∀ i9 : Nat, i9 < dn → fp_o b n (va_up f a (ob 7 [.ref fo, .ref co, .ref qa, .int (nI acn), .ref qt, .int (nI tcn), .ref kq, .int 0, .int dr])) (da i9) (ob 2 [.int (nI (dk i9)), .int (dx i9), .int (dy i9), .int (dz i9)]) := fun i9 hi9 => fp_o.ne (hd i9 hi9) (fp_o.nf (hd i9 hi9) oa (by simp))
  have oa : fp_o b n (va_up f a (ob 7 [.ref fo, .ref co, .ref qa, .int (nI acn), .ref qt, .int (nI tcn), .ref kq, .int 0, .int dr])) a (ob 7 [.ref fo, .ref co, .ref qa, .int (nI acn), .ref qt, .int (nI tcn), .ref kq, .int 0, .int dr]) := fp_o.up oa
  refine lv_aload_n hx hb d_X_act_23 rfl (lv_at hl 0 rfl) ?_
  refine lv_iconst (v := 0) hx hb d_X_act_24 (by decide) ?_
  refine fp_put X Y oa rfl in_X to_X nm_X 8 (by decide) w199 rfl rfl rfl (Nat.le_of_ble_eq_true rfl) d_X_act_25 (fun H locs Y => ?_)
  have ne_12 : qt ≠ a := (fp_o.nf oqt oa (by simp))
  have ne_13 : t ≠ a := (fp_o.nf ot oa (by simp))
  have ne_14 : r ≠ a := (fp_o.nf orr oa (by simp))
  have ne_15 : fo ≠ a := (fp_o.nf of oa (by simp))
  have ne_16 : q1 ≠ a := (fp_o.nf o1 oa (by simp))
  have ne_17 : q2 ≠ a := (fp_o.nf o2 oa (by simp))
  have ne_18 : co ≠ a := (fp_o.nf oc oa (by simp))
  have ne_19 : qc ≠ a := (fp_o.nf oqc oa (by simp))
  have ne_20 : qa ≠ a := (fp_o.nf oqa oa (by simp))
  have ne_21 : ax ≠ a := (fp_o.nf oax oa (by simp))
  have ne_22 : dq ≠ a := (fp_o.nf odq oa (by simp))
  have Y := Y.re
  have Y : fp_H D b n A (va_up f a (ob 7 [.ref fo, .ref co, .ref qa, .int (nI acn), .ref qt, .int (nI tcn), .ref kq, .int 0, .int 0])) s.heap H locs := Y
  have oqt : fp_o b n (va_up f a (ob 7 [.ref fo, .ref co, .ref qa, .int (nI acn), .ref qt, .int (nI tcn), .ref kq, .int 0, .int 0])) qt (aR g 4 8 zt) := fp_o.re oqt ne_12
  have ot : fp_o b n (va_up f a (ob 7 [.ref fo, .ref co, .ref qa, .int (nI acn), .ref qt, .int (nI tcn), .ref kq, .int 0, .int 0])) t (ob 6 [.ref r, .int (nI cn), .int xf, .int xg, .int hF, .int hG, .int oF, .int oG, .int al, .int ms, .ref sq]) := fp_o.re ot ne_13
  have orr : fp_o b n (va_up f a (ob 7 [.ref fo, .ref co, .ref qa, .int (nI acn), .ref qt, .int (nI tcn), .ref kq, .int 0, .int 0])) r (aR g 3 20 zr) := fp_o.re orr ne_14
  have of : fp_o b n (va_up f a (ob 7 [.ref fo, .ref co, .ref qa, .int (nI acn), .ref qt, .int (nI tcn), .ref kq, .int 0, .int 0])) fo (ob 4 [.ref q1, .ref q2, .int (nI kf)]) := fp_o.re of ne_15
  have o1 : fp_o b n (va_up f a (ob 7 [.ref fo, .ref co, .ref qa, .int (nI acn), .ref qt, .int (nI tcn), .ref kq, .int 0, .int 0])) q1 (aI g 16 z1) := fp_o.re o1 ne_16
  have o2 : fp_o b n (va_up f a (ob 7 [.ref fo, .ref co, .ref qa, .int (nI acn), .ref qt, .int (nI tcn), .ref kq, .int 0, .int 0])) q2 (aI g 16 z2) := fp_o.re o2 ne_17
  have oc : fp_o b n (va_up f a (ob 7 [.ref fo, .ref co, .ref qa, .int (nI acn), .ref qt, .int (nI tcn), .ref kq, .int 0, .int 0])) co (ob 1 [.ref qc]) := fp_o.re oc ne_18
  have oqc : fp_o b n (va_up f a (ob 7 [.ref fo, .ref co, .ref qa, .int (nI acn), .ref qt, .int (nI tcn), .ref kq, .int 0, .int 0])) qc (aI g 64 zc) := fp_o.re oqc ne_19
  have oqa : fp_o b n (va_up f a (ob 7 [.ref fo, .ref co, .ref qa, .int (nI acn), .ref qt, .int (nI tcn), .ref kq, .int 0, .int 0])) qa (aR g 1 16 za) := fp_o.re oqa ne_20
  have oax : fp_o b n (va_up f a (ob 7 [.ref fo, .ref co, .ref qa, .int (nI acn), .ref qt, .int (nI tcn), .ref kq, .int 0, .int 0])) ax (ob 0 [.ref dq, .int (nI dn)]) := fp_o.re oax ne_21
  have odq : fp_o b n (va_up f a (ob 7 [.ref fo, .ref co, .ref qa, .int (nI acn), .ref qt, .int (nI tcn), .ref kq, .int 0, .int 0])) dq (aR g 2 4 zd) := fp_o.re odq ne_22
  have he : ∀ i9 : Nat, i9 < cn → fp_o b n (va_up f a (ob 7 [.ref fo, .ref co, .ref qa, .int (nI acn), .ref qt, .int (nI tcn), .ref kq, .int 0, .int 0])) (er i9) (ob 3 [.ref (ek i9), .int (u1 i9), .int (u2 i9), .int (u3 i9), .int (u4 i9)]) := fun i9 hi9 => fp_o.re (he i9 hi9) (fp_o.nf (he i9 hi9) oa (by simp))
  have hk : ∀ i9 : Nat, i9 < cn → fp_o b n (va_up f a (ob 7 [.ref fo, .ref co, .ref qa, .int (nI acn), .ref qt, .int (nI tcn), .ref kq, .int 0, .int 0])) (ek i9) (ob 5 [.int (y1 i9), .int (y2 i9), .int (y3 i9), .int (y4 i9)]) := fun i9 hi9 => fp_o.re (hk i9 hi9) (fp_o.nf (hk i9 hi9) oa (by simp))
  have hd : ∀ i9 : Nat, i9 < dn → fp_o b n (va_up f a (ob 7 [.ref fo, .ref co, .ref qa, .int (nI acn), .ref qt, .int (nI tcn), .ref kq, .int 0, .int 0])) (da i9) (ob 2 [.int (nI (dk i9)), .int (dx i9), .int (dy i9), .int (dz i9)]) := fun i9 hi9 => fp_o.re (hd i9 hi9) (fp_o.nf (hd i9 hi9) oa (by simp))
  have oa : fp_o b n (va_up f a (ob 7 [.ref fo, .ref co, .ref qa, .int (nI acn), .ref qt, .int (nI tcn), .ref kq, .int 0, .int 0])) a (ob 7 [.ref fo, .ref co, .ref qa, .int (nI acn), .ref qt, .int (nI tcn), .ref kq, .int 0, .int 0]) := fp_o.rs oa
  refine lv_aload_n hx hb d_X_act_28 rfl (lv_at hl 0 rfl) ?_
  refine fp_get X Y oa rfl in_X 4 (by decide) w195 rfl d_X_act_29 ?_
  refine lv_iload_n hx hb d_X_act_32 rfl (lv_at hl 1 rfl) ?_
  refine fp_ald 4 rfl X Y oqt tj rfl (by omega) (by decide) hzt d_X_act_33 ?_
  refine lv_aload_n hx hb d_X_act_34 rfl (lv_at hl 0 rfl) ?_
  refine fp_get X Y oa rfl in_X 0 (by decide) w191 rfl d_X_act_35 ?_
  refine fp_callV (nA := 1) (As := [.ref fo]) (rest := []) X Y (c_T_bestMatch hcn hr hkf ot orr of o1 o2 he hk) ot rfl w265 w262 w263 w264 w7 (by decide +kernel) ⟨rfl, rfl⟩ ⟨Nat.le_of_ble_eq_true rfl, Nat.le_of_ble_eq_true rfl⟩ rfl hl.1 rfl (Nat.le_of_ble_eq_true rfl) d_X_act_38 ⟨Nat.zero_le _, Nat.zero_le _⟩ (fun v9 f9 H locs hp9 Y => ?_)
  obtain ⟨e8, e9⟩ := hp9
  rw [hB] at e8
  subst e8
  rw [e9] at Y
  have oe : fp_o b n (va_up f a (ob 7 [.ref fo, .ref co, .ref qa, .int (nI acn), .ref qt, .int (nI tcn), .ref kq, .int 0, .int 0])) (er j) (ob 3 [.ref (ek j), .int (u1 j), .int (u2 j), .int (u3 j), .int (u4 j)]) := he j hj
  refine W.eq (g2 := F0 m 41 ls [.ref (er j)]) rfl ?_
  refine lv_astore_n (lv' := [(2, .ref (er j)), (0, .ref a), (1, .int (nI tj))]) hx hb d_X_act_41 rfl hl (by decide) rfl (fun ls hl => ?_)
  refine lv_aload_n hx hb d_X_act_42 rfl (lv_at hl 0 rfl) ?_
  refine lv_ifnonnull (tgt := 63) hx hb d_X_act_43 (by decide) ?_
  refine lv_aload_n hx hb d_X_act_63 rfl (lv_at hl 1 rfl) ?_
  refine lv_aload_n hx hb d_X_act_64 rfl (lv_at hl 0 rfl) ?_
  refine fp_getN X Y oe rfl in_E 2 (by decide) nw139 rfl d_X_act_65 ?_
  rw [hu]
  refine lv_aload_n hx hb d_X_act_68 rfl (lv_at hl 0 rfl) ?_
  refine fp_getN X Y oe rfl in_E 3 (by decide) nw141 rfl d_X_act_69 ?_
  refine lv_aload_n hx hb d_X_act_72 rfl (lv_at hl 0 rfl) ?_
  refine fp_getN X Y oe rfl in_E 4 (by decide) nw143 rfl d_X_act_73 ?_
  refine fp_callV (nA := 3) (As := [.int (nI aj), .int (u3 j), .int (u4 j)]) (rest := []) X Y (c_X_doAction (u3 j) (u4 j) hkf haj hac hza hdn hz hdk oa of o1 o2 oc oqc oqa oax odq hd hne n2 n3) oa rfl w579 w576 w578 wp12 w1 (by decide +kernel) ⟨rfl, rfl⟩ ⟨Nat.le_of_ble_eq_true rfl, Nat.le_of_ble_eq_true rfl⟩ rfl hl.1 rfl (Nat.le_of_ble_eq_true rfl) d_X_act_76 ⟨Nat.zero_le _, Nat.zero_le _⟩ (fun v9 f9 H locs hp9 Y => ?_)
  obtain ⟨e8, e9⟩ := hp9
  subst e8
  rw [e9] at Y
  refine W.eq (g2 := F0 m 79 ls []) rfl ?_
  refine lv_iconst (v := 1) hx hb d_X_act_79 (by decide) ?_
  exact ret _ _ _ _ _ _ d_X_act_80 ⟨_, rfl, rfl⟩ ⟨rfl, rfl⟩ Y
