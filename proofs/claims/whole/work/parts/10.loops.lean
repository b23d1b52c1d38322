/-! Contracts: Table, its loops, takeIn, takeOut, bestMatch (by wip/gen/k3.py). -/
/-- the first row from i on, of k, that is so; -1 for none -/
def q_row (S : Nat → Int32) : Nat → Nat → Int32
  | 0, _ => -1
  | k + 1, i => if S i = 0 then q_row S k (i + 1) else nI i
/-- the best of the first rows: those that fit; a later one that is better takes the place -/
def q_best (S : Nat → Int32) (B : Nat → Nat → Int32) : Nat → Option Nat
  | 0 => none
  | i + 1 => match q_best S B i with
    | none => if S i = 0 then none else some i
    | some j => if S i = 0 then some j else if B i j = 0 then some j else some i
theorem q_row_or (S : Nat → Int32) : ∀ (k i : Nat), q_row S k i = -1 ∨ ∃ j : Nat, i ≤ j ∧ j < k + i ∧ q_row S k i = nI j ∧ ¬ S j = 0
  | 0, i => Or.inl rfl
  | k + 1, i => by
    by_cases h : S i = 0
    · rcases q_row_or S k (i + 1) with h1 | ⟨j, h1, h2, h3, h4⟩
      · exact Or.inl (by simp only [q_row, if_pos h]; exact h1)
      · exact Or.inr ⟨j, by omega, by omega, by simp only [q_row, if_pos h]; exact h3, h4⟩
    · exact Or.inr ⟨i, by omega, by omega, by simp only [q_row, if_neg h], h⟩
def q_tk (a b r c : Int32) : Int32 := if a = 0 then 0 else if b = 0 then 0 else if r = -1 then (if c < 20 then 1 else 0) else 0
/-- rows from row on have moved up, as far as i -/
def q_sh (z : Nat → Option Nat) (row i : Nat) : Nat → Option Nat := fun j => if row ≤ j ∧ j + 1 < i then z (j + 1) else z j
theorem q_sh_0 (z : Nat → Option Nat) (row : Nat) : q_sh z row (row + 1) = z := by
  funext j
  have h : ¬ (row ≤ j ∧ j + 1 < row + 1) := by omega
  simp only [q_sh, if_neg h]
theorem q_sh_s (z : Nat → Option Nat) {row i : Nat} (h : row < i) : va_up (q_sh z row i) (i - 1) (z i) = q_sh z row (i + 1) := by
  funext j
  by_cases hj : j = i - 1
  · subst hj
    have h1 : row ≤ i - 1 ∧ i - 1 + 1 < i + 1 := by omega
    rw [va_up_self]
    simp only [q_sh, if_pos h1]
    rw [show i - 1 + 1 = i by omega]
  · rw [va_up_ne _ _ hj]
    by_cases h1 : row ≤ j ∧ j + 1 < i
    · have h2 : row ≤ j ∧ j + 1 < i + 1 := by omega
      simp only [q_sh, if_pos h1, if_pos h2]
    · have h2 : ¬ (row ≤ j ∧ j + 1 < i + 1) := by omega
      simp only [q_sh, if_neg h1, if_neg h2]
set_option maxHeartbeats 4000000 in
set_option maxRecDepth 100000 in
theorem c_T_rowOfSought {l : Launch} {D : va_G} {g : Nat → ClassId} {b n : Nat} {A : Nat → Prop} {f : Nat → va_E} {t r sq cn : Nat} {xf xg hF hG oF oG al ms : Int32} {zr : Nat → Option Nat} {er ek : Nat → Nat} {u1 u2 u3 u4 y1 y2 y3 y4 : Nat → Int32} {s1 s2 s3 s4 : Int32} (hcn : cn ≤ 20) (hr : ∀ i : Nat, i < cn → zr i = some (er i)) (ot : fp_o b n f t (ob 6 [.ref r, .int (nI cn), .int xf, .int xg, .int hF, .int hG, .int oF, .int oG, .int al, .int ms, .ref sq])) (orr : fp_o b n f r (aR g 3 20 zr)) (os : fp_o b n f sq (ob 5 [.int s1, .int s2, .int s3, .int s4])) (he : ∀ i9 : Nat, i9 < cn → fp_o b n f (er i9) (ob 3 [.ref (ek i9), .int (u1 i9), .int (u2 i9), .int (u3 i9), .int (u4 i9)])) (hk : ∀ i9 : Nat, i9 < cn → fp_o b n f (ek i9) (ob 5 [.int (y1 i9), .int (y2 i9), .int (y3 i9), .int (y4 i9)]))  : fp_M l D (TY g) b n A y_T_rowOfSought (fp_ws y_T_rowOfSought b_T_rowOfSought 2 (some FieldType.int)) (rmD 1) [.ref t] f (fun v f' => v = some (.int (q_row (fun i => q_same (y1 i) (y2 i) (y3 i) (y4 i) s1 s2 s3 s4) cn 0)) ∧ f' = f) := by
  refine fp_ofI (plainFor_of_name (by decide)) (Nat.le_of_ble_eq_true rfl) ?_
  intro p e s m args below meth c Q ls H locs X Y hl ret
  have hx := X.1.1
  have hb := X.1.2.1
  have hl : lv_has ls 2 [(0, .ref t)] := hl
  refine lv_iconst (v := 0) hx hb d_T_rowOfSought_0 (by decide) ?_
  refine lv_istore_n (lv' := [(1, .int 0), (0, .ref t)]) hx hb d_T_rowOfSought_1 rfl hl (by decide) rfl (fun ls hl => ?_)
  have loop : ∀ (k i : Nat), k + i = cn → q_row (fun i => q_same (y1 i) (y2 i) (y3 i) (y4 i) s1 s2 s3 s4) k i = q_row (fun i => q_same (y1 i) (y2 i) (y3 i) (y4 i) s1 s2 s3 s4) cn 0 → ∀ (H : Heap) (locs : List Loc), fp_H D b n A f s.heap H locs → ∀ (ls : Array Slot), lv_has ls 2 [(1, .int (nI i)), (0, .ref t)] → W p l e (rmD 1) s m args below meth c H locs 0 0 Q (F0 m 2 ls []) := by
    intro k
    induction k with
    | zero =>
      intro i hi hq H locs Y ls hl
      refine lv_iload_n hx hb d_T_rowOfSought_2 rfl (lv_at hl 0 rfl) ?_
      refine lv_aload_n hx hb d_T_rowOfSought_3 rfl (lv_at hl 1 rfl) ?_
      refine fp_get X Y ot rfl in_T 1 (by decide) w156 rfl d_T_rowOfSought_4 ?_
      refine lv_icmp_ge (tgt := 37) hx hb d_T_rowOfSought_7 (by decide) (fun c_7 => ?_) (fun c_7 => absurd (by rw [show i = cn by omega]; exact Int32.le_refl _) c_7)
      refine lv_iconst (v := -1) hx hb d_T_rowOfSought_37 (by decide) ?_
      exact ret _ _ _ _ _ _ d_T_rowOfSought_38 ⟨_, rfl, rfl⟩ ⟨by rw [← hq]; rfl, rfl⟩ Y
    | succ k ih =>
      intro i hi hq H locs Y ls hl
      refine lv_iload_n hx hb d_T_rowOfSought_2 rfl (lv_at hl 0 rfl) ?_
      refine lv_aload_n hx hb d_T_rowOfSought_3 rfl (lv_at hl 1 rfl) ?_
      refine fp_get X Y ot rfl in_T 1 (by decide) w156 rfl d_T_rowOfSought_4 ?_
      refine lv_icmp_ge (tgt := 37) hx hb d_T_rowOfSought_7 (by decide) (fun c_7 => absurd c_7 (nI_ge (by omega) (by omega))) (fun c_7 => ?_)
      refine lv_aload_n hx hb d_T_rowOfSought_10 rfl (lv_at hl 1 rfl) ?_
      refine fp_get X Y ot rfl in_T 0 (by decide) w155 rfl d_T_rowOfSought_11 ?_
      refine lv_iload_n hx hb d_T_rowOfSought_14 rfl (lv_at hl 0 rfl) ?_
      have oe : fp_o b n f (er i) (ob 3 [.ref (ek i), .int (u1 i), .int (u2 i), .int (u3 i), .int (u4 i)]) := he i (by omega)
      have ok : fp_o b n f (ek i) (ob 5 [.int (y1 i), .int (y2 i), .int (y3 i), .int (y4 i)]) := hk i (by omega)
      refine fp_ald 3 rfl X Y orr i rfl (by omega) (by decide) (hr i (by omega)) d_T_rowOfSought_15 ?_
      refine fp_getN X Y oe rfl in_E 0 (by decide) nw136 rfl d_T_rowOfSought_16 ?_
      refine lv_aload_n hx hb d_T_rowOfSought_19 rfl (lv_at hl 1 rfl) ?_
      refine fp_get X Y ot rfl in_T 10 (by decide) w167 rfl d_T_rowOfSought_20 ?_
      refine fp_callV (nA := 1) (As := [.ref sq]) (rest := []) X Y (c_K_isSameAs ok os) ok rfl w557 w554 w555 w556 w4 (by decide +kernel) ⟨rfl, rfl⟩ ⟨Nat.le_of_ble_eq_true rfl, Nat.le_of_ble_eq_true rfl⟩ rfl hl.1 rfl (Nat.le_of_ble_eq_true rfl) d_T_rowOfSought_23 ⟨Nat.zero_le _, Nat.zero_le _⟩ (fun v9 f9 H locs hp9 Y => ?_)
      obtain ⟨e8, e9⟩ := hp9
      subst e8
      rw [e9] at Y
      refine W.eq (g2 := F0 m 26 ls [.int (q_same (y1 i) (y2 i) (y3 i) (y4 i) s1 s2 s3 s4)]) rfl ?_
      refine lv_if_eq (tgt := 31) hx hb d_T_rowOfSought_26 (by decide) (fun c_26 => ?_) (fun c_26 => ?_)
      · refine lv_iinc (v := nI (i + 1)) (lv' := [(1, .int (nI (i + 1))), (0, .ref t)]) hx hb d_T_rowOfSought_31 hl (k := 0) rfl (nI_1 i) (by decide) rfl (fun ls hl => ?_)
        refine lv_goto (tgt := 2) hx hb d_T_rowOfSought_34 (by decide) ?_
        exact ih (i + 1) (by omega) (by rw [← hq]; simp [q_row, c_26]) _ _ Y ls (lv_sub hl [0, 1] rfl)
      · refine lv_iload_n hx hb d_T_rowOfSought_29 rfl (lv_at hl 0 rfl) ?_
        exact ret _ _ _ _ _ _ d_T_rowOfSought_30 ⟨_, rfl, rfl⟩ ⟨by rw [← hq]; simp [q_row, c_26], rfl⟩ Y
  exact loop cn 0 (by omega) rfl _ _ Y ls (lv_sub hl [0, 1] rfl)
set_option maxHeartbeats 4000000 in
set_option maxRecDepth 100000 in
theorem c_T_bestMatch {l : Launch} {D : va_G} {g : Nat → ClassId} {b n : Nat} {A : Nat → Prop} {f : Nat → va_E} {t r sq cn : Nat} {xf xg hF hG oF oG al ms : Int32} {zr : Nat → Option Nat} {er ek : Nat → Nat} {u1 u2 u3 u4 y1 y2 y3 y4 : Nat → Int32} {a q1 q2 kf : Nat} {z1 z2 : Nat → Int32} (hcn : cn ≤ 20) (hr : ∀ i : Nat, i < cn → zr i = some (er i)) (hkf : kf ≤ 16) (ot : fp_o b n f t (ob 6 [.ref r, .int (nI cn), .int xf, .int xg, .int hF, .int hG, .int oF, .int oG, .int al, .int ms, .ref sq])) (orr : fp_o b n f r (aR g 3 20 zr)) (oa : fp_o b n f a (ob 4 [.ref q1, .ref q2, .int (nI kf)])) (o1 : fp_o b n f q1 (aI g 16 z1)) (o2 : fp_o b n f q2 (aI g 16 z2)) (he : ∀ i9 : Nat, i9 < cn → fp_o b n f (er i9) (ob 3 [.ref (ek i9), .int (u1 i9), .int (u2 i9), .int (u3 i9), .int (u4 i9)])) (hk : ∀ i9 : Nat, i9 < cn → fp_o b n f (ek i9) (ob 5 [.int (y1 i9), .int (y2 i9), .int (y3 i9), .int (y4 i9)]))  : fp_M l D (TY g) b n A y_T_bestMatch (fp_ws y_T_bestMatch b_T_bestMatch 7 (some (FieldType.object "EntryTables$Entry"))) (rmD 3) [.ref t, .ref a] f (fun v f' => v = some (va_rf ((q_best (fun i => q_fits (y1 i) (y2 i) (y3 i) (y4 i) (q_at z2 xf (nI kf)) (q_at z2 xg (nI kf))) (fun i j => q_bet (q_pre hF hG (y2 i) (y4 i)) (q_pre hF hG (y2 j) (y4 j)) (u1 i) (u1 j)) cn).map er)) ∧ f' = f) := by
  refine fp_ofA (Or.inl ⟨_, rfl⟩) (plainFor_of_name (by decide)) (Nat.le_of_ble_eq_true rfl) ?_
  intro p e s m args below meth c Q ls H locs X Y hl ret
  have hx := X.1.1
  have hb := X.1.2.1
  have hl : lv_has ls 7 [(0, .ref t), (1, .ref a)] := hl
  refine lv_aload_n hx hb d_T_bestMatch_0 rfl (lv_at hl 1 rfl) ?_
  refine lv_aload_n hx hb d_T_bestMatch_1 rfl (lv_at hl 0 rfl) ?_
  refine fp_get X Y ot rfl in_T 2 (by decide) w158 rfl d_T_bestMatch_2 ?_
  refine fp_callV (nA := 1) (As := [.int xf]) (rest := []) X Y (c_F_read xf hkf oa o1 o2) oa rfl w245 w266 w243 w244 w2 (by decide +kernel) ⟨rfl, rfl⟩ ⟨Nat.le_of_ble_eq_true rfl, Nat.le_of_ble_eq_true rfl⟩ rfl hl.1 rfl (Nat.le_of_ble_eq_true rfl) d_T_bestMatch_5 ⟨Nat.zero_le _, Nat.zero_le _⟩ (fun v9 f9 H locs hp9 Y => ?_)
  obtain ⟨e8, e9⟩ := hp9
  subst e8
  rw [e9] at Y
  refine W.eq (g2 := F0 m 8 ls [.int (q_at z2 xf (nI kf))]) rfl ?_
  refine lv_istore_n (lv' := [(2, .int (q_at z2 xf (nI kf))), (0, .ref t), (1, .ref a)]) hx hb d_T_bestMatch_8 rfl hl (by decide) rfl (fun ls hl => ?_)
  refine lv_aload_n hx hb d_T_bestMatch_9 rfl (lv_at hl 2 rfl) ?_
  refine lv_aload_n hx hb d_T_bestMatch_10 rfl (lv_at hl 1 rfl) ?_
  refine fp_get X Y ot rfl in_T 3 (by decide) w159 rfl d_T_bestMatch_11 ?_
  refine fp_callV (nA := 1) (As := [.int xg]) (rest := []) X Y (c_F_read xg hkf oa o1 o2) oa rfl w245 w266 w243 w244 w2 (by decide +kernel) ⟨rfl, rfl⟩ ⟨Nat.le_of_ble_eq_true rfl, Nat.le_of_ble_eq_true rfl⟩ rfl hl.1 rfl (Nat.le_of_ble_eq_true rfl) d_T_bestMatch_14 ⟨Nat.zero_le _, Nat.zero_le _⟩ (fun v9 f9 H locs hp9 Y => ?_)
  obtain ⟨e8, e9⟩ := hp9
  subst e8
  rw [e9] at Y
  refine W.eq (g2 := F0 m 17 ls [.int (q_at z2 xg (nI kf))]) rfl ?_
  refine lv_istore_n (lv' := [(3, .int (q_at z2 xg (nI kf))), (2, .int (q_at z2 xf (nI kf))), (0, .ref t), (1, .ref a)]) hx hb d_T_bestMatch_17 rfl hl (by decide) rfl (fun ls hl => ?_)
  refine lv_null hx hb d_T_bestMatch_18 ?_
  refine lv_astoreN (lv' := [(4, .null), (3, .int (q_at z2 xg (nI kf))), (2, .int (q_at z2 xf (nI kf))), (0, .ref t), (1, .ref a)]) hx hb d_T_bestMatch_19 hl (by decide) rfl (fun ls hl => ?_)
  refine lv_iconst (v := 0) hx hb d_T_bestMatch_21 (by decide) ?_
  refine lv_istore (lv' := [(5, .int 0), (4, .null), (3, .int (q_at z2 xg (nI kf))), (2, .int (q_at z2 xf (nI kf))), (0, .ref t), (1, .ref a)]) hx hb d_T_bestMatch_22 hl (by decide) rfl (fun ls hl => ?_)
  have loop : ∀ (k i : Nat) (B : Option Nat), k + i = cn → B = q_best (fun i => q_fits (y1 i) (y2 i) (y3 i) (y4 i) (q_at z2 xf (nI kf)) (q_at z2 xg (nI kf))) (fun i j => q_bet (q_pre hF hG (y2 i) (y4 i)) (q_pre hF hG (y2 j) (y4 j)) (u1 i) (u1 j)) i → (∀ j : Nat, B = some j → j < i) → ∀ (H : Heap) (locs : List Loc), fp_H D b n A f s.heap H locs → ∀ (ls : Array Slot), lv_has ls 7 [(5, .int (nI i)), (4, va_rf (B.map er)), (3, .int (q_at z2 xg (nI kf))), (2, .int (q_at z2 xf (nI kf))), (1, .ref a), (0, .ref t)] → W p l e (rmD 3) s m args below meth c H locs 0 0 Q (F0 m 24 ls []) := by
    intro k
    induction k with
    | zero =>
      intro i B hi hB hj H locs Y ls hl
      cases B with
      | none =>
        have hl : lv_has ls 7 [(5, .int (nI i)), (4, .null), (3, .int (q_at z2 xg (nI kf))), (2, .int (q_at z2 xf (nI kf))), (1, .ref a), (0, .ref t)] := hl
        refine lv_iload hx hb d_T_bestMatch_24 (lv_at hl 0 rfl) ?_
        refine lv_aload_n hx hb d_T_bestMatch_26 rfl (lv_at hl 5 rfl) ?_
        refine fp_get X Y ot rfl in_T 1 (by decide) w156 rfl d_T_bestMatch_27 ?_
        refine lv_icmp_ge (tgt := 81) hx hb d_T_bestMatch_30 (by decide) (fun c_30 => ?_) (fun c_30 => absurd (by rw [show i = cn by omega]; exact Int32.le_refl _) c_30)
        refine lv_aloadN hx hb d_T_bestMatch_81 (lv_at hl 1 rfl) ?_
        exact ret _ _ _ _ _ _ d_T_bestMatch_83 (Or.inl rfl) ⟨by rw [show cn = i by omega, ← hB]; rfl, rfl⟩ Y
      | some j =>
        have hj : j < i := hj j rfl
        have hl : lv_has ls 7 [(5, .int (nI i)), (4, .ref (er j)), (3, .int (q_at z2 xg (nI kf))), (2, .int (q_at z2 xf (nI kf))), (1, .ref a), (0, .ref t)] := hl
        refine lv_iload hx hb d_T_bestMatch_24 (lv_at hl 0 rfl) ?_
        refine lv_aload_n hx hb d_T_bestMatch_26 rfl (lv_at hl 5 rfl) ?_
        refine fp_get X Y ot rfl in_T 1 (by decide) w156 rfl d_T_bestMatch_27 ?_
        refine lv_icmp_ge (tgt := 81) hx hb d_T_bestMatch_30 (by decide) (fun c_30 => ?_) (fun c_30 => absurd (by rw [show i = cn by omega]; exact Int32.le_refl _) c_30)
        refine lv_aload hx hb d_T_bestMatch_81 (lv_at hl 1 rfl) ?_
        exact ret _ _ _ _ _ _ d_T_bestMatch_83 (Or.inr ⟨_, rfl⟩) ⟨by rw [show cn = i by omega, ← hB]; rfl, rfl⟩ Y
    | succ k ih =>
      intro i B hi hB hj H locs Y ls hl
      cases B with
      | none =>
        have hl : lv_has ls 7 [(5, .int (nI i)), (4, .null), (3, .int (q_at z2 xg (nI kf))), (2, .int (q_at z2 xf (nI kf))), (1, .ref a), (0, .ref t)] := hl
        refine lv_iload hx hb d_T_bestMatch_24 (lv_at hl 0 rfl) ?_
        refine lv_aload_n hx hb d_T_bestMatch_26 rfl (lv_at hl 5 rfl) ?_
        refine fp_get X Y ot rfl in_T 1 (by decide) w156 rfl d_T_bestMatch_27 ?_
        refine lv_icmp_ge (tgt := 81) hx hb d_T_bestMatch_30 (by decide) (fun c_30 => absurd c_30 (nI_ge (by omega) (by omega))) (fun c_30 => ?_)
        refine lv_aload_n hx hb d_T_bestMatch_33 rfl (lv_at hl 5 rfl) ?_
        refine fp_get X Y ot rfl in_T 0 (by decide) w155 rfl d_T_bestMatch_34 ?_
        refine lv_iload hx hb d_T_bestMatch_37 (lv_at hl 0 rfl) ?_
        have oe : fp_o b n f (er i) (ob 3 [.ref (ek i), .int (u1 i), .int (u2 i), .int (u3 i), .int (u4 i)]) := he i (by omega)
        have ok : fp_o b n f (ek i) (ob 5 [.int (y1 i), .int (y2 i), .int (y3 i), .int (y4 i)]) := hk i (by omega)
        refine fp_ald 3 rfl X Y orr i rfl (by omega) (by decide) (hr i (by omega)) d_T_bestMatch_39 ?_
        refine lv_astore (lv' := [(6, .ref (er i)), (5, .int (nI i)), (4, .null), (3, .int (q_at z2 xg (nI kf))), (2, .int (q_at z2 xf (nI kf))), (1, .ref a), (0, .ref t)]) hx hb d_T_bestMatch_40 hl (by decide) rfl (fun ls hl => ?_)
        refine lv_aload hx hb d_T_bestMatch_42 (lv_at hl 0 rfl) ?_
        refine fp_getN X Y oe rfl in_E 0 (by decide) nw136 rfl d_T_bestMatch_44 ?_
        refine lv_iload_n hx hb d_T_bestMatch_47 rfl (lv_at hl 4 rfl) ?_
        refine lv_iload_n hx hb d_T_bestMatch_48 rfl (lv_at hl 3 rfl) ?_
        refine fp_callV (nA := 2) (As := [.int (q_at z2 xf (nI kf)), .int (q_at z2 xg (nI kf))]) (rest := []) X Y (c_K_fits (q_at z2 xf (nI kf)) (q_at z2 xg (nI kf)) ok) ok rfl w270 w267 w268 w269 w4 (by decide +kernel) ⟨rfl, rfl⟩ ⟨Nat.le_of_ble_eq_true rfl, Nat.le_of_ble_eq_true rfl⟩ rfl hl.1 rfl (Nat.le_of_ble_eq_true rfl) d_T_bestMatch_49 ⟨Nat.zero_le _, Nat.zero_le _⟩ (fun v9 f9 H locs hp9 Y => ?_)
        obtain ⟨e8, e9⟩ := hp9
        subst e8
        rw [e9] at Y
        refine W.eq (g2 := F0 m 52 ls [.int (q_fits (y1 i) (y2 i) (y3 i) (y4 i) (q_at z2 xf (nI kf)) (q_at z2 xg (nI kf)))]) rfl ?_
        refine lv_if_eq (tgt := 75) hx hb d_T_bestMatch_52 (by decide) (fun c_52 => ?_) (fun c_52 => ?_)
        · refine lv_iinc (v := nI (i + 1)) (lv' := [(5, .int (nI (i + 1))), (6, .ref (er i)), (4, .null), (3, .int (q_at z2 xg (nI kf))), (2, .int (q_at z2 xf (nI kf))), (1, .ref a), (0, .ref t)]) hx hb d_T_bestMatch_75 hl (k := 1) rfl (nI_1 i) (by decide) rfl (fun ls hl => ?_)
          refine lv_goto (tgt := 24) hx hb d_T_bestMatch_78 (by decide) ?_
          exact ih (i + 1) none (by omega) (by simp [q_best, ← hB, c_52]) (fun j9 h9 => by simp at h9) _ _ Y ls (lv_sub hl [0, 2, 3, 4, 5, 6] rfl)
        · refine lv_aloadN hx hb d_T_bestMatch_55 (lv_at hl 2 rfl) ?_
          refine lv_ifnullN (tgt := 71) hx hb d_T_bestMatch_57 (by decide) ?_
          refine lv_aload hx hb d_T_bestMatch_71 (lv_at hl 0 rfl) ?_
          refine lv_astore (lv' := [(4, .ref (er i)), (6, .ref (er i)), (5, .int (nI i)), (3, .int (q_at z2 xg (nI kf))), (2, .int (q_at z2 xf (nI kf))), (1, .ref a), (0, .ref t)]) hx hb d_T_bestMatch_73 hl (by decide) rfl (fun ls hl => ?_)
          refine lv_iinc (v := nI (i + 1)) (lv' := [(5, .int (nI (i + 1))), (4, .ref (er i)), (6, .ref (er i)), (3, .int (q_at z2 xg (nI kf))), (2, .int (q_at z2 xf (nI kf))), (1, .ref a), (0, .ref t)]) hx hb d_T_bestMatch_75 hl (k := 2) rfl (nI_1 i) (by decide) rfl (fun ls hl => ?_)
          refine lv_goto (tgt := 24) hx hb d_T_bestMatch_78 (by decide) ?_
          exact ih (i + 1) (some i) (by omega) (by simp [q_best, ← hB, c_52]) (fun j9 h9 => by simp at h9; omega) _ _ Y ls (lv_sub hl [0, 1, 3, 4, 5, 6] rfl)
      | some j =>
        have hj : j < i := hj j rfl
        have hl : lv_has ls 7 [(5, .int (nI i)), (4, .ref (er j)), (3, .int (q_at z2 xg (nI kf))), (2, .int (q_at z2 xf (nI kf))), (1, .ref a), (0, .ref t)] := hl
        refine lv_iload hx hb d_T_bestMatch_24 (lv_at hl 0 rfl) ?_
        refine lv_aload_n hx hb d_T_bestMatch_26 rfl (lv_at hl 5 rfl) ?_
        refine fp_get X Y ot rfl in_T 1 (by decide) w156 rfl d_T_bestMatch_27 ?_
        refine lv_icmp_ge (tgt := 81) hx hb d_T_bestMatch_30 (by decide) (fun c_30 => absurd c_30 (nI_ge (by omega) (by omega))) (fun c_30 => ?_)
        refine lv_aload_n hx hb d_T_bestMatch_33 rfl (lv_at hl 5 rfl) ?_
        refine fp_get X Y ot rfl in_T 0 (by decide) w155 rfl d_T_bestMatch_34 ?_
        refine lv_iload hx hb d_T_bestMatch_37 (lv_at hl 0 rfl) ?_
        have oe : fp_o b n f (er i) (ob 3 [.ref (ek i), .int (u1 i), .int (u2 i), .int (u3 i), .int (u4 i)]) := he i (by omega)
        have ok : fp_o b n f (ek i) (ob 5 [.int (y1 i), .int (y2 i), .int (y3 i), .int (y4 i)]) := hk i (by omega)
        refine fp_ald 3 rfl X Y orr i rfl (by omega) (by decide) (hr i (by omega)) d_T_bestMatch_39 ?_
        refine lv_astore (lv' := [(6, .ref (er i)), (5, .int (nI i)), (4, .ref (er j)), (3, .int (q_at z2 xg (nI kf))), (2, .int (q_at z2 xf (nI kf))), (1, .ref a), (0, .ref t)]) hx hb d_T_bestMatch_40 hl (by decide) rfl (fun ls hl => ?_)
        refine lv_aload hx hb d_T_bestMatch_42 (lv_at hl 0 rfl) ?_
        refine fp_getN X Y oe rfl in_E 0 (by decide) nw136 rfl d_T_bestMatch_44 ?_
        refine lv_iload_n hx hb d_T_bestMatch_47 rfl (lv_at hl 4 rfl) ?_
        refine lv_iload_n hx hb d_T_bestMatch_48 rfl (lv_at hl 3 rfl) ?_
        refine fp_callV (nA := 2) (As := [.int (q_at z2 xf (nI kf)), .int (q_at z2 xg (nI kf))]) (rest := []) X Y (c_K_fits (q_at z2 xf (nI kf)) (q_at z2 xg (nI kf)) ok) ok rfl w270 w267 w268 w269 w4 (by decide +kernel) ⟨rfl, rfl⟩ ⟨Nat.le_of_ble_eq_true rfl, Nat.le_of_ble_eq_true rfl⟩ rfl hl.1 rfl (Nat.le_of_ble_eq_true rfl) d_T_bestMatch_49 ⟨Nat.zero_le _, Nat.zero_le _⟩ (fun v9 f9 H locs hp9 Y => ?_)
        obtain ⟨e8, e9⟩ := hp9
        subst e8
        rw [e9] at Y
        refine W.eq (g2 := F0 m 52 ls [.int (q_fits (y1 i) (y2 i) (y3 i) (y4 i) (q_at z2 xf (nI kf)) (q_at z2 xg (nI kf)))]) rfl ?_
        refine lv_if_eq (tgt := 75) hx hb d_T_bestMatch_52 (by decide) (fun c_52 => ?_) (fun c_52 => ?_)
        · refine lv_iinc (v := nI (i + 1)) (lv' := [(5, .int (nI (i + 1))), (6, .ref (er i)), (4, .ref (er j)), (3, .int (q_at z2 xg (nI kf))), (2, .int (q_at z2 xf (nI kf))), (1, .ref a), (0, .ref t)]) hx hb d_T_bestMatch_75 hl (k := 1) rfl (nI_1 i) (by decide) rfl (fun ls hl => ?_)
          refine lv_goto (tgt := 24) hx hb d_T_bestMatch_78 (by decide) ?_
          exact ih (i + 1) (some j) (by omega) (by simp [q_best, ← hB, c_52]) (fun j9 h9 => by simp at h9; omega) _ _ Y ls (lv_sub hl [0, 2, 3, 4, 5, 6] rfl)
        · refine lv_aload hx hb d_T_bestMatch_55 (lv_at hl 2 rfl) ?_
          refine lv_ifnull hx hb d_T_bestMatch_57 ?_
          have oe2 : fp_o b n f (er j) (ob 3 [.ref (ek j), .int (u1 j), .int (u2 j), .int (u3 j), .int (u4 j)]) := he j (by omega)
          have ok2 : fp_o b n f (ek j) (ob 5 [.int (y1 j), .int (y2 j), .int (y3 j), .int (y4 j)]) := hk j (by omega)
          refine lv_aload_n hx hb d_T_bestMatch_60 rfl (lv_at hl 6 rfl) ?_
          refine lv_aload hx hb d_T_bestMatch_61 (lv_at hl 0 rfl) ?_
          refine lv_aload hx hb d_T_bestMatch_63 (lv_at hl 2 rfl) ?_
          refine fp_callV (nA := 2) (As := [.ref (er i), .ref (er j)]) (rest := []) X Y (c_T_isBetter ot oe ok oe2 ok2) ot rfl w274 w271 w273 wp1 w7 (by decide +kernel) ⟨rfl, rfl⟩ ⟨Nat.le_of_ble_eq_true rfl, Nat.le_of_ble_eq_true rfl⟩ rfl hl.1 rfl (Nat.le_of_ble_eq_true rfl) d_T_bestMatch_65 ⟨Nat.zero_le _, Nat.zero_le _⟩ (fun v9 f9 H locs hp9 Y => ?_)
          obtain ⟨e8, e9⟩ := hp9
          subst e8
          rw [e9] at Y
          refine W.eq (g2 := F0 m 68 ls [.int (q_bet (q_pre hF hG (y2 i) (y4 i)) (q_pre hF hG (y2 j) (y4 j)) (u1 i) (u1 j))]) rfl ?_
          refine lv_if_eq (tgt := 75) hx hb d_T_bestMatch_68 (by decide) (fun c_68 => ?_) (fun c_68 => ?_)
          · refine lv_iinc (v := nI (i + 1)) (lv' := [(5, .int (nI (i + 1))), (6, .ref (er i)), (4, .ref (er j)), (3, .int (q_at z2 xg (nI kf))), (2, .int (q_at z2 xf (nI kf))), (1, .ref a), (0, .ref t)]) hx hb d_T_bestMatch_75 hl (k := 1) rfl (nI_1 i) (by decide) rfl (fun ls hl => ?_)
            refine lv_goto (tgt := 24) hx hb d_T_bestMatch_78 (by decide) ?_
            exact ih (i + 1) (some j) (by omega) (by simp [q_best, ← hB, c_52, c_68]) (fun j9 h9 => by simp at h9; omega) _ _ Y ls (lv_sub hl [0, 2, 3, 4, 5, 6] rfl)
          · refine lv_aload hx hb d_T_bestMatch_71 (lv_at hl 0 rfl) ?_
            refine lv_astore (lv' := [(4, .ref (er i)), (6, .ref (er i)), (5, .int (nI i)), (3, .int (q_at z2 xg (nI kf))), (2, .int (q_at z2 xf (nI kf))), (1, .ref a), (0, .ref t)]) hx hb d_T_bestMatch_73 hl (by decide) rfl (fun ls hl => ?_)
            refine lv_iinc (v := nI (i + 1)) (lv' := [(5, .int (nI (i + 1))), (4, .ref (er i)), (6, .ref (er i)), (3, .int (q_at z2 xg (nI kf))), (2, .int (q_at z2 xf (nI kf))), (1, .ref a), (0, .ref t)]) hx hb d_T_bestMatch_75 hl (k := 2) rfl (nI_1 i) (by decide) rfl (fun ls hl => ?_)
            refine lv_goto (tgt := 24) hx hb d_T_bestMatch_78 (by decide) ?_
            exact ih (i + 1) (some i) (by omega) (by simp [q_best, ← hB, c_52, c_68]) (fun j9 h9 => by simp at h9; omega) _ _ Y ls (lv_sub hl [0, 1, 3, 4, 5, 6] rfl)
  exact loop cn 0 none (by omega) rfl (fun j9 h9 => by simp at h9) _ _ Y ls (lv_sub hl [0, 1, 2, 3, 5, 4] rfl)
set_option maxHeartbeats 4000000 in
set_option maxRecDepth 100000 in
theorem c_T_takeIn {l : Launch} {D : va_G} {g : Nat → ClassId} {b n : Nat} {A : Nat → Prop} {f : Nat → va_E} {t r sq cn : Nat} {xf xg hF hG oF oG al ms : Int32} {zr : Nat → Option Nat} {er ek : Nat → Nat} {u1 u2 u3 u4 y1 y2 y3 y4 : Nat → Int32} {kq : Nat} {k1 k2 k3 k4 s1 s2 s3 s4 : Int32} (x1 x2 x3 x4 : Int32) (hcn : cn ≤ 20) (hr : ∀ i : Nat, i < 20 → zr i = some (er i)) (hsk : ∀ i : Nat, i < 20 → ek i ≠ sq) (ot : fp_o b n f t (ob 6 [.ref r, .int (nI cn), .int xf, .int xg, .int hF, .int hG, .int oF, .int oG, .int al, .int ms, .ref sq])) (orr : fp_o b n f r (aR g 3 20 zr)) (os : fp_o b n f sq (ob 5 [.int s1, .int s2, .int s3, .int s4])) (oq : fp_o b n f kq (ob 5 [.int k1, .int k2, .int k3, .int k4])) (he : ∀ i9 : Nat, i9 < 20 → fp_o b n f (er i9) (ob 3 [.ref (ek i9), .int (u1 i9), .int (u2 i9), .int (u3 i9), .int (u4 i9)])) (hk : ∀ i9 : Nat, i9 < 20 → fp_o b n f (ek i9) (ob 5 [.int (y1 i9), .int (y2 i9), .int (y3 i9), .int (y4 i9)]))  (hA : fp_W b n A := by assumption) : fp_M l D (TY g) b n A y_T_takeIn (fp_ws y_T_takeIn b_T_takeIn 7 (some FieldType.boolean)) (rmD 2) [.ref t, .ref kq, .int x1, .int x2, .int x3, .int x4] f (fun v f' => v = some (.int (q_tk (q_masks hF hG oF oG (k2 &&& oF) (k4 &&& oG)) (q_alw al x2) (q_row (fun i => q_same (y1 i) (y2 i) (y3 i) (y4 i) (k1 &&& (k2 &&& oF)) (k2 &&& oF) (k3 &&& (k4 &&& oG)) (k4 &&& oG)) cn 0) (nI cn))) ∧ f' = if q_tk (q_masks hF hG oF oG (k2 &&& oF) (k4 &&& oG)) (q_alw al x2) (q_row (fun i => q_same (y1 i) (y2 i) (y3 i) (y4 i) (k1 &&& (k2 &&& oF)) (k2 &&& oF) (k3 &&& (k4 &&& oG)) (k4 &&& oG)) cn 0) (nI cn) = 0 then (va_up f sq (ob 5 [.int (k1 &&& (k2 &&& oF)), .int (k2 &&& oF), .int (k3 &&& (k4 &&& oG)), .int (k4 &&& oG)])) else (va_up (va_up (va_up (va_up f sq (ob 5 [.int (k1 &&& (k2 &&& oF)), .int (k2 &&& oF), .int (k3 &&& (k4 &&& oG)), .int (k4 &&& oG)])) (ek cn) (ob 5 [.int (k1 &&& (k2 &&& oF)), .int (k2 &&& oF), .int (k3 &&& (k4 &&& oG)), .int (k4 &&& oG)])) (er cn) (ob 3 [.ref (ek cn), .int x1, .int x2, .int x3, .int x4])) t (ob 6 [.ref r, .int (nI (cn + 1)), .int xf, .int xg, .int hF, .int hG, .int oF, .int oG, .int al, .int ms, .ref sq]))) := by
  refine fp_ofI (plainFor_of_name (by decide)) (Nat.le_of_ble_eq_true rfl) ?_
  intro p e s m args below meth c Q ls H locs X Y hl ret
  have hx := X.1.1
  have hb := X.1.2.1
  have hl : lv_has ls 7 [(0, .ref t), (1, .ref kq), (2, .int x1), (3, .int x2), (4, .int x3), (5, .int x4)] := hl
  refine lv_aload_n hx hb d_T_takeIn_0 rfl (lv_at hl 0 rfl) ?_
  refine lv_aload_n hx hb d_T_takeIn_1 rfl (lv_at hl 1 rfl) ?_
  refine fp_callV (nA := 1) (As := [.ref kq]) (rest := []) X Y (c_T_seek ot os oq) ot rfl w537 w534 w536 wp8 w7 (by decide +kernel) ⟨rfl, rfl⟩ ⟨Nat.le_of_ble_eq_true rfl, Nat.le_of_ble_eq_true rfl⟩ rfl hl.1 rfl (Nat.le_of_ble_eq_true rfl) d_T_takeIn_2 ⟨Nat.zero_le _, Nat.zero_le _⟩ (fun v9 f9 H locs hp9 Y => ?_)
  obtain ⟨e8, e9⟩ := hp9
  subst e8
  rw [e9] at Y
  have ne_1 : t ≠ sq := (fp_o.nf ot os (by simp))
  have ne_2 : r ≠ sq := (fp_o.nf orr os (by simp))
  have Y : fp_H D b n A (va_up f sq (ob 5 [.int (k1 &&& (k2 &&& oF)), .int (k2 &&& oF), .int (k3 &&& (k4 &&& oG)), .int (k4 &&& oG)])) s.heap H locs := Y
  have ot : fp_o b n (va_up f sq (ob 5 [.int (k1 &&& (k2 &&& oF)), .int (k2 &&& oF), .int (k3 &&& (k4 &&& oG)), .int (k4 &&& oG)])) t (ob 6 [.ref r, .int (nI cn), .int xf, .int xg, .int hF, .int hG, .int oF, .int oG, .int al, .int ms, .ref sq]) := fp_o.ne ot ne_1
  have orr : fp_o b n (va_up f sq (ob 5 [.int (k1 &&& (k2 &&& oF)), .int (k2 &&& oF), .int (k3 &&& (k4 &&& oG)), .int (k4 &&& oG)])) r (aR g 3 20 zr) := fp_o.ne orr ne_2
  have he : ∀ i9 : Nat, i9 < 20 → fp_o b n (va_up f sq (ob 5 [.int (k1 &&& (k2 &&& oF)), .int (k2 &&& oF), .int (k3 &&& (k4 &&& oG)), .int (k4 &&& oG)])) (er i9) (ob 3 [.ref (ek i9), .int (u1 i9), .int (u2 i9), .int (u3 i9), .int (u4 i9)]) := fun i9 hi9 => fp_o.ne (he i9 hi9) (fp_o.nf (he i9 hi9) os (by simp))
  have hk : ∀ i9 : Nat, i9 < 20 → fp_o b n (va_up f sq (ob 5 [.int (k1 &&& (k2 &&& oF)), .int (k2 &&& oF), .int (k3 &&& (k4 &&& oG)), .int (k4 &&& oG)])) (ek i9) (ob 5 [.int (y1 i9), .int (y2 i9), .int (y3 i9), .int (y4 i9)]) := fun i9 hi9 => fp_o.ne (hk i9 hi9) (hsk i9 hi9)
  have os : fp_o b n (va_up f sq (ob 5 [.int (k1 &&& (k2 &&& oF)), .int (k2 &&& oF), .int (k3 &&& (k4 &&& oG)), .int (k4 &&& oG)])) sq (ob 5 [.int (k1 &&& (k2 &&& oF)), .int (k2 &&& oF), .int (k3 &&& (k4 &&& oG)), .int (k4 &&& oG)]) := fp_o.up os
  refine W.eq (g2 := F0 m 5 ls []) rfl ?_
  refine lv_aload_n hx hb d_T_takeIn_5 rfl (lv_at hl 0 rfl) ?_
  refine fp_callV (nA := 0) (As := []) (rest := []) X Y (c_T_areMasks ot os) ot rfl w542 w539 w541 wp9 w7 (by decide +kernel) ⟨rfl, rfl⟩ ⟨Nat.le_of_ble_eq_true rfl, Nat.le_of_ble_eq_true rfl⟩ rfl hl.1 rfl (Nat.le_of_ble_eq_true rfl) d_T_takeIn_6 ⟨Nat.zero_le _, Nat.zero_le _⟩ (fun v9 f9 H locs hp9 Y => ?_)
  obtain ⟨e8, e9⟩ := hp9
  subst e8
  rw [e9] at Y
  refine W.eq (g2 := F0 m 9 ls [.int (q_masks hF hG oF oG (k2 &&& oF) (k4 &&& oG))]) rfl ?_
  refine lv_if_eq (tgt := 37) hx hb d_T_takeIn_9 (by decide) (fun c_9 => ?_) (fun c_9 => ?_)
  · refine lv_iconst (v := 0) hx hb d_T_takeIn_37 (by decide) ?_
    exact ret _ _ _ _ _ _ d_T_takeIn_38 ⟨_, rfl, rfl⟩ ⟨by simp [q_tk, c_9], by simp [q_tk, c_9]⟩ Y
  · refine lv_aload_n hx hb d_T_takeIn_12 rfl (lv_at hl 0 rfl) ?_
    refine lv_iload_n hx hb d_T_takeIn_13 rfl (lv_at hl 3 rfl) ?_
    refine fp_callV (nA := 1) (As := [.int x2]) (rest := []) X Y (c_T_isAllowed x2 ot) ot rfl w549 w546 w548 wp10 w7 (by decide +kernel) ⟨rfl, rfl⟩ ⟨Nat.le_of_ble_eq_true rfl, Nat.le_of_ble_eq_true rfl⟩ rfl hl.1 rfl (Nat.le_of_ble_eq_true rfl) d_T_takeIn_14 ⟨Nat.zero_le _, Nat.zero_le _⟩ (fun v9 f9 H locs hp9 Y => ?_)
    obtain ⟨e8, e9⟩ := hp9
    subst e8
    rw [e9] at Y
    refine W.eq (g2 := F0 m 17 ls [.int (q_alw al x2)]) rfl ?_
    refine lv_if_eq (tgt := 37) hx hb d_T_takeIn_17 (by decide) (fun c_17 => ?_) (fun c_17 => ?_)
    · refine lv_iconst (v := 0) hx hb d_T_takeIn_37 (by decide) ?_
      exact ret _ _ _ _ _ _ d_T_takeIn_38 ⟨_, rfl, rfl⟩ ⟨by simp [q_tk, c_9, c_17], by simp [q_tk, c_9, c_17]⟩ Y
    · refine lv_aload_n hx hb d_T_takeIn_20 rfl (lv_at hl 0 rfl) ?_
      refine fp_callV (nA := 0) (As := []) (rest := []) X Y (c_T_rowOfSought hcn (fun i hi => hr i (by omega)) ot orr os (fun i hi => he i (by omega)) (fun i hi => hk i (by omega))) ot rfl w553 w550 w552 wp11 w7 (by decide +kernel) ⟨rfl, rfl⟩ ⟨Nat.le_of_ble_eq_true rfl, Nat.le_of_ble_eq_true rfl⟩ rfl hl.1 rfl (Nat.le_of_ble_eq_true rfl) d_T_takeIn_21 ⟨Nat.zero_le _, Nat.zero_le _⟩ (fun v9 f9 H locs hp9 Y => ?_)
      obtain ⟨e8, e9⟩ := hp9
      subst e8
      rw [e9] at Y
      refine W.eq (g2 := F0 m 24 ls [.int (q_row (fun i => q_same (y1 i) (y2 i) (y3 i) (y4 i) (k1 &&& (k2 &&& oF)) (k2 &&& oF) (k3 &&& (k4 &&& oG)) (k4 &&& oG)) cn 0)]) rfl ?_
      refine lv_iconst (v := -1) hx hb d_T_takeIn_24 (by decide) ?_
      refine lv_icmp_ne (tgt := 37) hx hb d_T_takeIn_25 (by decide) (fun c_25 => ?_) (fun c_25 => ?_)
      · refine lv_iconst (v := 0) hx hb d_T_takeIn_37 (by decide) ?_
        exact ret _ _ _ _ _ _ d_T_takeIn_38 ⟨_, rfl, rfl⟩ ⟨by simp [q_tk, c_9, c_17, c_25], by simp [q_tk, c_9, c_17, c_25]⟩ Y
      · refine lv_aload_n hx hb d_T_takeIn_28 rfl (lv_at hl 0 rfl) ?_
        refine fp_get X Y ot rfl in_T 1 (by decide) w156 rfl d_T_takeIn_29 ?_
        refine lv_bipush (v := 20) hx hb d_T_takeIn_32 (by decide) ?_
        refine lv_icmp_lt (tgt := 39) hx hb d_T_takeIn_34 (by decide) (fun c_34 => ?_) (fun c_34 => ?_)
        · have hc20 : cn < 20 := (nI_ltI (by omega) (by decide)).mp (show nI cn < nI 20 from c_34)
          refine lv_aload_n hx hb d_T_takeIn_39 rfl (lv_at hl 0 rfl) ?_
          refine fp_get X Y ot rfl in_T 0 (by decide) w155 rfl d_T_takeIn_40 ?_
          refine lv_aload_n hx hb d_T_takeIn_43 rfl (lv_at hl 0 rfl) ?_
          refine fp_get X Y ot rfl in_T 1 (by decide) w156 rfl d_T_takeIn_44 ?_
          have oe : fp_o b n (va_up f sq (ob 5 [.int (k1 &&& (k2 &&& oF)), .int (k2 &&& oF), .int (k3 &&& (k4 &&& oG)), .int (k4 &&& oG)])) (er cn) (ob 3 [.ref (ek cn), .int (u1 cn), .int (u2 cn), .int (u3 cn), .int (u4 cn)]) := he cn hc20
          have ok : fp_o b n (va_up f sq (ob 5 [.int (k1 &&& (k2 &&& oF)), .int (k2 &&& oF), .int (k3 &&& (k4 &&& oG)), .int (k4 &&& oG)])) (ek cn) (ob 5 [.int (y1 cn), .int (y2 cn), .int (y3 cn), .int (y4 cn)]) := hk cn hc20
          refine fp_ald 3 rfl X Y orr cn rfl hc20 (by decide) (hr cn hc20) d_T_takeIn_47 ?_
          refine lv_astore (lv' := [(6, .ref (er cn)), (0, .ref t), (1, .ref kq), (2, .int x1), (3, .int x2), (4, .int x3), (5, .int x4)]) hx hb d_T_takeIn_48 hl (by decide) rfl (fun ls hl => ?_)
          refine lv_aload hx hb d_T_takeIn_50 (lv_at hl 0 rfl) ?_
          refine fp_getN X Y oe rfl in_E 0 (by decide) nw136 rfl d_T_takeIn_52 ?_
          refine lv_aload_n hx hb d_T_takeIn_55 rfl (lv_at hl 1 rfl) ?_
          refine fp_get X Y ot rfl in_T 10 (by decide) w167 rfl d_T_takeIn_56 ?_
          refine fp_getN X Y os rfl in_K 0 (by decide) nw65 rfl d_T_takeIn_59 ?_
          refine lv_aload_n hx hb d_T_takeIn_62 rfl (lv_at hl 1 rfl) ?_
          refine fp_get X Y ot rfl in_T 10 (by decide) w167 rfl d_T_takeIn_63 ?_
          refine fp_getN X Y os rfl in_K 1 (by decide) nw67 rfl d_T_takeIn_66 ?_
          refine lv_aload_n hx hb d_T_takeIn_69 rfl (lv_at hl 1 rfl) ?_
          refine fp_get X Y ot rfl in_T 10 (by decide) w167 rfl d_T_takeIn_70 ?_
          refine fp_getN X Y os rfl in_K 2 (by decide) nw69 rfl d_T_takeIn_73 ?_
          refine lv_aload_n hx hb d_T_takeIn_76 rfl (lv_at hl 1 rfl) ?_
          refine fp_get X Y ot rfl in_T 10 (by decide) w167 rfl d_T_takeIn_77 ?_
          refine fp_getN X Y os rfl in_K 3 (by decide) nw71 rfl d_T_takeIn_80 ?_
          refine fp_callV (nA := 4) (As := [.int (k1 &&& (k2 &&& oF)), .int (k2 &&& oF), .int (k3 &&& (k4 &&& oG)), .int (k4 &&& oG)]) (rest := []) X Y (c_K_hold (k1 &&& (k2 &&& oF)) (k2 &&& oF) (k3 &&& (k4 &&& oG)) (k4 &&& oG) ok) ok rfl w237 w538 w235 w236 w4 (by decide +kernel) ⟨rfl, rfl⟩ ⟨Nat.le_of_ble_eq_true rfl, Nat.le_of_ble_eq_true rfl⟩ rfl hl.1 rfl (Nat.le_of_ble_eq_true rfl) d_T_takeIn_83 ⟨Nat.zero_le _, Nat.zero_le _⟩ (fun v9 f9 H locs hp9 Y => ?_)
          obtain ⟨e8, e9⟩ := hp9
          subst e8
          rw [e9] at Y
          have ne_3 : t ≠ ek cn := (fp_o.nf ot ok (by simp))
          have ne_4 : r ≠ ek cn := (fp_o.nf orr ok (by simp))
          have ne_5 : sq ≠ ek cn := (Ne.symm (hsk cn hc20))
          have ne_6 : er cn ≠ ek cn := (fp_o.nf oe ok (by simp))
          have Y : fp_H D b n A (va_up (va_up f sq (ob 5 [.int (k1 &&& (k2 &&& oF)), .int (k2 &&& oF), .int (k3 &&& (k4 &&& oG)), .int (k4 &&& oG)])) (ek cn) (ob 5 [.int (k1 &&& (k2 &&& oF)), .int (k2 &&& oF), .int (k3 &&& (k4 &&& oG)), .int (k4 &&& oG)])) s.heap H locs := Y
          have ot : fp_o b n (va_up (va_up f sq (ob 5 [.int (k1 &&& (k2 &&& oF)), .int (k2 &&& oF), .int (k3 &&& (k4 &&& oG)), .int (k4 &&& oG)])) (ek cn) (ob 5 [.int (k1 &&& (k2 &&& oF)), .int (k2 &&& oF), .int (k3 &&& (k4 &&& oG)), .int (k4 &&& oG)])) t (ob 6 [.ref r, .int (nI cn), .int xf, .int xg, .int hF, .int hG, .int oF, .int oG, .int al, .int ms, .ref sq]) := fp_o.ne ot ne_3
          have orr : fp_o b n (va_up (va_up f sq (ob 5 [.int (k1 &&& (k2 &&& oF)), .int (k2 &&& oF), .int (k3 &&& (k4 &&& oG)), .int (k4 &&& oG)])) (ek cn) (ob 5 [.int (k1 &&& (k2 &&& oF)), .int (k2 &&& oF), .int (k3 &&& (k4 &&& oG)), .int (k4 &&& oG)])) r (aR g 3 20 zr) := fp_o.ne orr ne_4
          have os : fp_o b n (va_up (va_up f sq (ob 5 [.int (k1 &&& (k2 &&& oF)), .int (k2 &&& oF), .int (k3 &&& (k4 &&& oG)), .int (k4 &&& oG)])) (ek cn) (ob 5 [.int (k1 &&& (k2 &&& oF)), .int (k2 &&& oF), .int (k3 &&& (k4 &&& oG)), .int (k4 &&& oG)])) sq (ob 5 [.int (k1 &&& (k2 &&& oF)), .int (k2 &&& oF), .int (k3 &&& (k4 &&& oG)), .int (k4 &&& oG)]) := fp_o.ne os ne_5
          have oe : fp_o b n (va_up (va_up f sq (ob 5 [.int (k1 &&& (k2 &&& oF)), .int (k2 &&& oF), .int (k3 &&& (k4 &&& oG)), .int (k4 &&& oG)])) (ek cn) (ob 5 [.int (k1 &&& (k2 &&& oF)), .int (k2 &&& oF), .int (k3 &&& (k4 &&& oG)), .int (k4 &&& oG)])) (er cn) (ob 3 [.ref (ek cn), .int (u1 cn), .int (u2 cn), .int (u3 cn), .int (u4 cn)]) := fp_o.ne oe ne_6
          have ok : fp_o b n (va_up (va_up f sq (ob 5 [.int (k1 &&& (k2 &&& oF)), .int (k2 &&& oF), .int (k3 &&& (k4 &&& oG)), .int (k4 &&& oG)])) (ek cn) (ob 5 [.int (k1 &&& (k2 &&& oF)), .int (k2 &&& oF), .int (k3 &&& (k4 &&& oG)), .int (k4 &&& oG)])) (ek cn) (ob 5 [.int (k1 &&& (k2 &&& oF)), .int (k2 &&& oF), .int (k3 &&& (k4 &&& oG)), .int (k4 &&& oG)]) := fp_o.up ok
          refine W.eq (g2 := F0 m 86 ls []) rfl ?_
          refine lv_aload hx hb d_T_takeIn_86 (lv_at hl 0 rfl) ?_
          refine lv_iload_n hx hb d_T_takeIn_88 rfl (lv_at hl 3 rfl) ?_
          refine fp_putN X Y oe rfl in_E to_E nm_E 1 (by decide) nw137 rfl rfl rfl (Nat.le_of_ble_eq_true rfl) d_T_takeIn_89 (fun H locs Y => ?_)
          have ne_7 : t ≠ er cn := (fp_o.nf ot oe (by simp))
          have ne_8 : r ≠ er cn := (fp_o.nf orr oe (by simp))
          have ne_9 : sq ≠ er cn := (fp_o.nf os oe (by simp))
          have ne_10 : ek cn ≠ er cn := (fp_o.nf ok oe (by simp))
          have Y : fp_H D b n A (va_up (va_up (va_up f sq (ob 5 [.int (k1 &&& (k2 &&& oF)), .int (k2 &&& oF), .int (k3 &&& (k4 &&& oG)), .int (k4 &&& oG)])) (ek cn) (ob 5 [.int (k1 &&& (k2 &&& oF)), .int (k2 &&& oF), .int (k3 &&& (k4 &&& oG)), .int (k4 &&& oG)])) (er cn) (ob 3 [.ref (ek cn), .int x1, .int (u2 cn), .int (u3 cn), .int (u4 cn)])) s.heap H locs := Y
          have ot : fp_o b n (va_up (va_up (va_up f sq (ob 5 [.int (k1 &&& (k2 &&& oF)), .int (k2 &&& oF), .int (k3 &&& (k4 &&& oG)), .int (k4 &&& oG)])) (ek cn) (ob 5 [.int (k1 &&& (k2 &&& oF)), .int (k2 &&& oF), .int (k3 &&& (k4 &&& oG)), .int (k4 &&& oG)])) (er cn) (ob 3 [.ref (ek cn), .int x1, .int (u2 cn), .int (u3 cn), .int (u4 cn)])) t (ob 6 [.ref r, .int (nI cn), .int xf, .int xg, .int hF, .int hG, .int oF, .int oG, .int al, .int ms, .ref sq]) := fp_o.ne ot ne_7
          have orr : fp_o b n (va_up (va_up (va_up f sq (ob 5 [.int (k1 &&& (k2 &&& oF)), .int (k2 &&& oF), .int (k3 &&& (k4 &&& oG)), .int (k4 &&& oG)])) (ek cn) (ob 5 [.int (k1 &&& (k2 &&& oF)), .int (k2 &&& oF), .int (k3 &&& (k4 &&& oG)), .int (k4 &&& oG)])) (er cn) (ob 3 [.ref (ek cn), .int x1, .int (u2 cn), .int (u3 cn), .int (u4 cn)])) r (aR g 3 20 zr) := fp_o.ne orr ne_8
          have os : fp_o b n (va_up (va_up (va_up f sq (ob 5 [.int (k1 &&& (k2 &&& oF)), .int (k2 &&& oF), .int (k3 &&& (k4 &&& oG)), .int (k4 &&& oG)])) (ek cn) (ob 5 [.int (k1 &&& (k2 &&& oF)), .int (k2 &&& oF), .int (k3 &&& (k4 &&& oG)), .int (k4 &&& oG)])) (er cn) (ob 3 [.ref (ek cn), .int x1, .int (u2 cn), .int (u3 cn), .int (u4 cn)])) sq (ob 5 [.int (k1 &&& (k2 &&& oF)), .int (k2 &&& oF), .int (k3 &&& (k4 &&& oG)), .int (k4 &&& oG)]) := fp_o.ne os ne_9
          have ok : fp_o b n (va_up (va_up (va_up f sq (ob 5 [.int (k1 &&& (k2 &&& oF)), .int (k2 &&& oF), .int (k3 &&& (k4 &&& oG)), .int (k4 &&& oG)])) (ek cn) (ob 5 [.int (k1 &&& (k2 &&& oF)), .int (k2 &&& oF), .int (k3 &&& (k4 &&& oG)), .int (k4 &&& oG)])) (er cn) (ob 3 [.ref (ek cn), .int x1, .int (u2 cn), .int (u3 cn), .int (u4 cn)])) (ek cn) (ob 5 [.int (k1 &&& (k2 &&& oF)), .int (k2 &&& oF), .int (k3 &&& (k4 &&& oG)), .int (k4 &&& oG)]) := fp_o.ne ok ne_10
          have oe : fp_o b n (va_up (va_up (va_up f sq (ob 5 [.int (k1 &&& (k2 &&& oF)), .int (k2 &&& oF), .int (k3 &&& (k4 &&& oG)), .int (k4 &&& oG)])) (ek cn) (ob 5 [.int (k1 &&& (k2 &&& oF)), .int (k2 &&& oF), .int (k3 &&& (k4 &&& oG)), .int (k4 &&& oG)])) (er cn) (ob 3 [.ref (ek cn), .int x1, .int (u2 cn), .int (u3 cn), .int (u4 cn)])) (er cn) (ob 3 [.ref (ek cn), .int x1, .int (u2 cn), .int (u3 cn), .int (u4 cn)]) := fp_o.up oe
          refine lv_aload hx hb d_T_takeIn_92 (lv_at hl 0 rfl) ?_
          refine lv_iload_n hx hb d_T_takeIn_94 rfl (lv_at hl 4 rfl) ?_
          refine fp_putN X Y oe rfl in_E to_E nm_E 2 (by decide) nw138 rfl rfl rfl (Nat.le_of_ble_eq_true rfl) d_T_takeIn_95 (fun H locs Y => ?_)
          have ne_11 : t ≠ er cn := (fp_o.nf ot oe (by simp))
          have ne_12 : r ≠ er cn := (fp_o.nf orr oe (by simp))
          have ne_13 : sq ≠ er cn := (fp_o.nf os oe (by simp))
          have ne_14 : ek cn ≠ er cn := (fp_o.nf ok oe (by simp))
          have Y := Y.re
          have Y : fp_H D b n A (va_up (va_up (va_up f sq (ob 5 [.int (k1 &&& (k2 &&& oF)), .int (k2 &&& oF), .int (k3 &&& (k4 &&& oG)), .int (k4 &&& oG)])) (ek cn) (ob 5 [.int (k1 &&& (k2 &&& oF)), .int (k2 &&& oF), .int (k3 &&& (k4 &&& oG)), .int (k4 &&& oG)])) (er cn) (ob 3 [.ref (ek cn), .int x1, .int x2, .int (u3 cn), .int (u4 cn)])) s.heap H locs := Y
          have ot : fp_o b n (va_up (va_up (va_up f sq (ob 5 [.int (k1 &&& (k2 &&& oF)), .int (k2 &&& oF), .int (k3 &&& (k4 &&& oG)), .int (k4 &&& oG)])) (ek cn) (ob 5 [.int (k1 &&& (k2 &&& oF)), .int (k2 &&& oF), .int (k3 &&& (k4 &&& oG)), .int (k4 &&& oG)])) (er cn) (ob 3 [.ref (ek cn), .int x1, .int x2, .int (u3 cn), .int (u4 cn)])) t (ob 6 [.ref r, .int (nI cn), .int xf, .int xg, .int hF, .int hG, .int oF, .int oG, .int al, .int ms, .ref sq]) := fp_o.re ot ne_11
          have orr : fp_o b n (va_up (va_up (va_up f sq (ob 5 [.int (k1 &&& (k2 &&& oF)), .int (k2 &&& oF), .int (k3 &&& (k4 &&& oG)), .int (k4 &&& oG)])) (ek cn) (ob 5 [.int (k1 &&& (k2 &&& oF)), .int (k2 &&& oF), .int (k3 &&& (k4 &&& oG)), .int (k4 &&& oG)])) (er cn) (ob 3 [.ref (ek cn), .int x1, .int x2, .int (u3 cn), .int (u4 cn)])) r (aR g 3 20 zr) := fp_o.re orr ne_12
          have os : fp_o b n (va_up (va_up (va_up f sq (ob 5 [.int (k1 &&& (k2 &&& oF)), .int (k2 &&& oF), .int (k3 &&& (k4 &&& oG)), .int (k4 &&& oG)])) (ek cn) (ob 5 [.int (k1 &&& (k2 &&& oF)), .int (k2 &&& oF), .int (k3 &&& (k4 &&& oG)), .int (k4 &&& oG)])) (er cn) (ob 3 [.ref (ek cn), .int x1, .int x2, .int (u3 cn), .int (u4 cn)])) sq (ob 5 [.int (k1 &&& (k2 &&& oF)), .int (k2 &&& oF), .int (k3 &&& (k4 &&& oG)), .int (k4 &&& oG)]) := fp_o.re os ne_13
          have ok : fp_o b n (va_up (va_up (va_up f sq (ob 5 [.int (k1 &&& (k2 &&& oF)), .int (k2 &&& oF), .int (k3 &&& (k4 &&& oG)), .int (k4 &&& oG)])) (ek cn) (ob 5 [.int (k1 &&& (k2 &&& oF)), .int (k2 &&& oF), .int (k3 &&& (k4 &&& oG)), .int (k4 &&& oG)])) (er cn) (ob 3 [.ref (ek cn), .int x1, .int x2, .int (u3 cn), .int (u4 cn)])) (ek cn) (ob 5 [.int (k1 &&& (k2 &&& oF)), .int (k2 &&& oF), .int (k3 &&& (k4 &&& oG)), .int (k4 &&& oG)]) := fp_o.re ok ne_14
          have oe : fp_o b n (va_up (va_up (va_up f sq (ob 5 [.int (k1 &&& (k2 &&& oF)), .int (k2 &&& oF), .int (k3 &&& (k4 &&& oG)), .int (k4 &&& oG)])) (ek cn) (ob 5 [.int (k1 &&& (k2 &&& oF)), .int (k2 &&& oF), .int (k3 &&& (k4 &&& oG)), .int (k4 &&& oG)])) (er cn) (ob 3 [.ref (ek cn), .int x1, .int x2, .int (u3 cn), .int (u4 cn)])) (er cn) (ob 3 [.ref (ek cn), .int x1, .int x2, .int (u3 cn), .int (u4 cn)]) := fp_o.rs oe
          refine lv_aload hx hb d_T_takeIn_98 (lv_at hl 0 rfl) ?_
          refine lv_iload hx hb d_T_takeIn_100 (lv_at hl 5 rfl) ?_
          refine fp_putN X Y oe rfl in_E to_E nm_E 3 (by decide) nw140 rfl rfl rfl (Nat.le_of_ble_eq_true rfl) d_T_takeIn_102 (fun H locs Y => ?_)
          have ne_15 : t ≠ er cn := (fp_o.nf ot oe (by simp))
          have ne_16 : r ≠ er cn := (fp_o.nf orr oe (by simp))
          have ne_17 : sq ≠ er cn := (fp_o.nf os oe (by simp))
          have ne_18 : ek cn ≠ er cn := (fp_o.nf ok oe (by simp))
          have Y := Y.re
          have Y : fp_H D b n A (va_up (va_up (va_up f sq (ob 5 [.int (k1 &&& (k2 &&& oF)), .int (k2 &&& oF), .int (k3 &&& (k4 &&& oG)), .int (k4 &&& oG)])) (ek cn) (ob 5 [.int (k1 &&& (k2 &&& oF)), .int (k2 &&& oF), .int (k3 &&& (k4 &&& oG)), .int (k4 &&& oG)])) (er cn) (ob 3 [.ref (ek cn), .int x1, .int x2, .int x3, .int (u4 cn)])) s.heap H locs := Y
          have ot : fp_o b n (va_up (va_up (va_up f sq (ob 5 [.int (k1 &&& (k2 &&& oF)), .int (k2 &&& oF), .int (k3 &&& (k4 &&& oG)), .int (k4 &&& oG)])) (ek cn) (ob 5 [.int (k1 &&& (k2 &&& oF)), .int (k2 &&& oF), .int (k3 &&& (k4 &&& oG)), .int (k4 &&& oG)])) (er cn) (ob 3 [.ref (ek cn), .int x1, .int x2, .int x3, .int (u4 cn)])) t (ob 6 [.ref r, .int (nI cn), .int xf, .int xg, .int hF, .int hG, .int oF, .int oG, .int al, .int ms, .ref sq]) := fp_o.re ot ne_15
          have orr : fp_o b n (va_up (va_up (va_up f sq (ob 5 [.int (k1 &&& (k2 &&& oF)), .int (k2 &&& oF), .int (k3 &&& (k4 &&& oG)), .int (k4 &&& oG)])) (ek cn) (ob 5 [.int (k1 &&& (k2 &&& oF)), .int (k2 &&& oF), .int (k3 &&& (k4 &&& oG)), .int (k4 &&& oG)])) (er cn) (ob 3 [.ref (ek cn), .int x1, .int x2, .int x3, .int (u4 cn)])) r (aR g 3 20 zr) := fp_o.re orr ne_16
          have os : fp_o b n (va_up (va_up (va_up f sq (ob 5 [.int (k1 &&& (k2 &&& oF)), .int (k2 &&& oF), .int (k3 &&& (k4 &&& oG)), .int (k4 &&& oG)])) (ek cn) (ob 5 [.int (k1 &&& (k2 &&& oF)), .int (k2 &&& oF), .int (k3 &&& (k4 &&& oG)), .int (k4 &&& oG)])) (er cn) (ob 3 [.ref (ek cn), .int x1, .int x2, .int x3, .int (u4 cn)])) sq (ob 5 [.int (k1 &&& (k2 &&& oF)), .int (k2 &&& oF), .int (k3 &&& (k4 &&& oG)), .int (k4 &&& oG)]) := fp_o.re os ne_17
          have ok : fp_o b n (va_up (va_up (va_up f sq (ob 5 [.int (k1 &&& (k2 &&& oF)), .int (k2 &&& oF), .int (k3 &&& (k4 &&& oG)), .int (k4 &&& oG)])) (ek cn) (ob 5 [.int (k1 &&& (k2 &&& oF)), .int (k2 &&& oF), .int (k3 &&& (k4 &&& oG)), .int (k4 &&& oG)])) (er cn) (ob 3 [.ref (ek cn), .int x1, .int x2, .int x3, .int (u4 cn)])) (ek cn) (ob 5 [.int (k1 &&& (k2 &&& oF)), .int (k2 &&& oF), .int (k3 &&& (k4 &&& oG)), .int (k4 &&& oG)]) := fp_o.re ok ne_18
          have oe : fp_o b n (va_up (va_up (va_up f sq (ob 5 [.int (k1 &&& (k2 &&& oF)), .int (k2 &&& oF), .int (k3 &&& (k4 &&& oG)), .int (k4 &&& oG)])) (ek cn) (ob 5 [.int (k1 &&& (k2 &&& oF)), .int (k2 &&& oF), .int (k3 &&& (k4 &&& oG)), .int (k4 &&& oG)])) (er cn) (ob 3 [.ref (ek cn), .int x1, .int x2, .int x3, .int (u4 cn)])) (er cn) (ob 3 [.ref (ek cn), .int x1, .int x2, .int x3, .int (u4 cn)]) := fp_o.rs oe
          refine lv_aload hx hb d_T_takeIn_105 (lv_at hl 0 rfl) ?_
          refine lv_iload hx hb d_T_takeIn_107 (lv_at hl 6 rfl) ?_
          refine fp_putN X Y oe rfl in_E to_E nm_E 4 (by decide) nw142 rfl rfl rfl (Nat.le_of_ble_eq_true rfl) d_T_takeIn_109 (fun H locs Y => ?_)
          have ne_19 : t ≠ er cn := (fp_o.nf ot oe (by simp))
          have ne_20 : r ≠ er cn := (fp_o.nf orr oe (by simp))
          have ne_21 : sq ≠ er cn := (fp_o.nf os oe (by simp))
          have ne_22 : ek cn ≠ er cn := (fp_o.nf ok oe (by simp))
          have Y := Y.re
          have Y : fp_H D b n A (va_up (va_up (va_up f sq (ob 5 [.int (k1 &&& (k2 &&& oF)), .int (k2 &&& oF), .int (k3 &&& (k4 &&& oG)), .int (k4 &&& oG)])) (ek cn) (ob 5 [.int (k1 &&& (k2 &&& oF)), .int (k2 &&& oF), .int (k3 &&& (k4 &&& oG)), .int (k4 &&& oG)])) (er cn) (ob 3 [.ref (ek cn), .int x1, .int x2, .int x3, .int x4])) s.heap H locs := Y
          have ot : fp_o b n (va_up (va_up (va_up f sq (ob 5 [.int (k1 &&& (k2 &&& oF)), .int (k2 &&& oF), .int (k3 &&& (k4 &&& oG)), .int (k4 &&& oG)])) (ek cn) (ob 5 [.int (k1 &&& (k2 &&& oF)), .int (k2 &&& oF), .int (k3 &&& (k4 &&& oG)), .int (k4 &&& oG)])) (er cn) (ob 3 [.ref (ek cn), .int x1, .int x2, .int x3, .int x4])) t (ob 6 [.ref r, .int (nI cn), .int xf, .int xg, .int hF, .int hG, .int oF, .int oG, .int al, .int ms, .ref sq]) := fp_o.re ot ne_19
          have orr : fp_o b n (va_up (va_up (va_up f sq (ob 5 [.int (k1 &&& (k2 &&& oF)), .int (k2 &&& oF), .int (k3 &&& (k4 &&& oG)), .int (k4 &&& oG)])) (ek cn) (ob 5 [.int (k1 &&& (k2 &&& oF)), .int (k2 &&& oF), .int (k3 &&& (k4 &&& oG)), .int (k4 &&& oG)])) (er cn) (ob 3 [.ref (ek cn), .int x1, .int x2, .int x3, .int x4])) r (aR g 3 20 zr) := fp_o.re orr ne_20
          have os : fp_o b n (va_up (va_up (va_up f sq (ob 5 [.int (k1 &&& (k2 &&& oF)), .int (k2 &&& oF), .int (k3 &&& (k4 &&& oG)), .int (k4 &&& oG)])) (ek cn) (ob 5 [.int (k1 &&& (k2 &&& oF)), .int (k2 &&& oF), .int (k3 &&& (k4 &&& oG)), .int (k4 &&& oG)])) (er cn) (ob 3 [.ref (ek cn), .int x1, .int x2, .int x3, .int x4])) sq (ob 5 [.int (k1 &&& (k2 &&& oF)), .int (k2 &&& oF), .int (k3 &&& (k4 &&& oG)), .int (k4 &&& oG)]) := fp_o.re os ne_21
          have ok : fp_o b n (va_up (va_up (va_up f sq (ob 5 [.int (k1 &&& (k2 &&& oF)), .int (k2 &&& oF), .int (k3 &&& (k4 &&& oG)), .int (k4 &&& oG)])) (ek cn) (ob 5 [.int (k1 &&& (k2 &&& oF)), .int (k2 &&& oF), .int (k3 &&& (k4 &&& oG)), .int (k4 &&& oG)])) (er cn) (ob 3 [.ref (ek cn), .int x1, .int x2, .int x3, .int x4])) (ek cn) (ob 5 [.int (k1 &&& (k2 &&& oF)), .int (k2 &&& oF), .int (k3 &&& (k4 &&& oG)), .int (k4 &&& oG)]) := fp_o.re ok ne_22
          have oe : fp_o b n (va_up (va_up (va_up f sq (ob 5 [.int (k1 &&& (k2 &&& oF)), .int (k2 &&& oF), .int (k3 &&& (k4 &&& oG)), .int (k4 &&& oG)])) (ek cn) (ob 5 [.int (k1 &&& (k2 &&& oF)), .int (k2 &&& oF), .int (k3 &&& (k4 &&& oG)), .int (k4 &&& oG)])) (er cn) (ob 3 [.ref (ek cn), .int x1, .int x2, .int x3, .int x4])) (er cn) (ob 3 [.ref (ek cn), .int x1, .int x2, .int x3, .int x4]) := fp_o.rs oe
          refine lv_aload_n hx hb d_T_takeIn_112 rfl (lv_at hl 1 rfl) ?_
          refine lv_dup hx hb d_T_takeIn_113 rfl ?_
          refine fp_get X Y ot rfl in_T 1 (by decide) w156 rfl d_T_takeIn_114 ?_
          refine lv_iconst (v := 1) hx hb d_T_takeIn_117 (by decide) ?_
          refine lv_iadd hx hb d_T_takeIn_118 ?_
          refine fp_put X Y ot rfl in_T to_T nm_T 1 (by decide) w156 rfl rfl rfl (Nat.le_of_ble_eq_true rfl) d_T_takeIn_119 (fun H locs Y => ?_)
          have ne_23 : r ≠ t := (fp_o.nf orr ot (by simp))
          have ne_24 : sq ≠ t := (fp_o.nf os ot (by simp))
          have ne_25 : er cn ≠ t := (fp_o.nf oe ot (by simp))
          have ne_26 : ek cn ≠ t := (fp_o.nf ok ot (by simp))
          have Y : fp_H D b n A (va_up (va_up (va_up (va_up f sq (ob 5 [.int (k1 &&& (k2 &&& oF)), .int (k2 &&& oF), .int (k3 &&& (k4 &&& oG)), .int (k4 &&& oG)])) (ek cn) (ob 5 [.int (k1 &&& (k2 &&& oF)), .int (k2 &&& oF), .int (k3 &&& (k4 &&& oG)), .int (k4 &&& oG)])) (er cn) (ob 3 [.ref (ek cn), .int x1, .int x2, .int x3, .int x4])) t (ob 6 [.ref r, .int ((nI cn) + 1), .int xf, .int xg, .int hF, .int hG, .int oF, .int oG, .int al, .int ms, .ref sq])) s.heap H locs := Y
          have orr : fp_o b n (va_up (va_up (va_up (va_up f sq (ob 5 [.int (k1 &&& (k2 &&& oF)), .int (k2 &&& oF), .int (k3 &&& (k4 &&& oG)), .int (k4 &&& oG)])) (ek cn) (ob 5 [.int (k1 &&& (k2 &&& oF)), .int (k2 &&& oF), .int (k3 &&& (k4 &&& oG)), .int (k4 &&& oG)])) (er cn) (ob 3 [.ref (ek cn), .int x1, .int x2, .int x3, .int x4])) t (ob 6 [.ref r, .int ((nI cn) + 1), .int xf, .int xg, .int hF, .int hG, .int oF, .int oG, .int al, .int ms, .ref sq])) r (aR g 3 20 zr) := fp_o.ne orr ne_23
          have os : fp_o b n (va_up (va_up (va_up (va_up f sq (ob 5 [.int (k1 &&& (k2 &&& oF)), .int (k2 &&& oF), .int (k3 &&& (k4 &&& oG)), .int (k4 &&& oG)])) (ek cn) (ob 5 [.int (k1 &&& (k2 &&& oF)), .int (k2 &&& oF), .int (k3 &&& (k4 &&& oG)), .int (k4 &&& oG)])) (er cn) (ob 3 [.ref (ek cn), .int x1, .int x2, .int x3, .int x4])) t (ob 6 [.ref r, .int ((nI cn) + 1), .int xf, .int xg, .int hF, .int hG, .int oF, .int oG, .int al, .int ms, .ref sq])) sq (ob 5 [.int (k1 &&& (k2 &&& oF)), .int (k2 &&& oF), .int (k3 &&& (k4 &&& oG)), .int (k4 &&& oG)]) := fp_o.ne os ne_24
          have oe : fp_o b n (va_up (va_up (va_up (va_up f sq (ob 5 [.int (k1 &&& (k2 &&& oF)), .int (k2 &&& oF), .int (k3 &&& (k4 &&& oG)), .int (k4 &&& oG)])) (ek cn) (ob 5 [.int (k1 &&& (k2 &&& oF)), .int (k2 &&& oF), .int (k3 &&& (k4 &&& oG)), .int (k4 &&& oG)])) (er cn) (ob 3 [.ref (ek cn), .int x1, .int x2, .int x3, .int x4])) t (ob 6 [.ref r, .int ((nI cn) + 1), .int xf, .int xg, .int hF, .int hG, .int oF, .int oG, .int al, .int ms, .ref sq])) (er cn) (ob 3 [.ref (ek cn), .int x1, .int x2, .int x3, .int x4]) := fp_o.ne oe ne_25
          have ok : fp_o b n (va_up (va_up (va_up (va_up f sq (ob 5 [.int (k1 &&& (k2 &&& oF)), .int (k2 &&& oF), .int (k3 &&& (k4 &&& oG)), .int (k4 &&& oG)])) (ek cn) (ob 5 [.int (k1 &&& (k2 &&& oF)), .int (k2 &&& oF), .int (k3 &&& (k4 &&& oG)), .int (k4 &&& oG)])) (er cn) (ob 3 [.ref (ek cn), .int x1, .int x2, .int x3, .int x4])) t (ob 6 [.ref r, .int ((nI cn) + 1), .int xf, .int xg, .int hF, .int hG, .int oF, .int oG, .int al, .int ms, .ref sq])) (ek cn) (ob 5 [.int (k1 &&& (k2 &&& oF)), .int (k2 &&& oF), .int (k3 &&& (k4 &&& oG)), .int (k4 &&& oG)]) := fp_o.ne ok ne_26
          have ot : fp_o b n (va_up (va_up (va_up (va_up f sq (ob 5 [.int (k1 &&& (k2 &&& oF)), .int (k2 &&& oF), .int (k3 &&& (k4 &&& oG)), .int (k4 &&& oG)])) (ek cn) (ob 5 [.int (k1 &&& (k2 &&& oF)), .int (k2 &&& oF), .int (k3 &&& (k4 &&& oG)), .int (k4 &&& oG)])) (er cn) (ob 3 [.ref (ek cn), .int x1, .int x2, .int x3, .int x4])) t (ob 6 [.ref r, .int ((nI cn) + 1), .int xf, .int xg, .int hF, .int hG, .int oF, .int oG, .int al, .int ms, .ref sq])) t (ob 6 [.ref r, .int ((nI cn) + 1), .int xf, .int xg, .int hF, .int hG, .int oF, .int oG, .int al, .int ms, .ref sq]) := fp_o.up ot
          refine lv_iconst (v := 1) hx hb d_T_takeIn_122 (by decide) ?_
          exact ret _ _ _ _ _ _ d_T_takeIn_123 ⟨_, rfl, rfl⟩ ⟨by simp [q_tk, c_9, c_17, c_25, c_34], by rw [if_neg (by simp [q_tk, c_9, c_17, c_25, c_34]), ← nI_1]⟩ Y
        · refine lv_iconst (v := 0) hx hb d_T_takeIn_37 (by decide) ?_
          exact ret _ _ _ _ _ _ d_T_takeIn_38 ⟨_, rfl, rfl⟩ ⟨by simp [q_tk, c_9, c_17, c_25, c_34], by simp [q_tk, c_9, c_17, c_25, c_34]⟩ Y
