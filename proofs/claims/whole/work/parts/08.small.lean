/-! Contracts: Key, Fields, Counts, Action: what makes nothing (by wip/gen/k1.py). -/
def q_same (k1 k2 k3 k4 j1 j2 j3 j4 : Int32) : Int32 := if k1 = j1 ∧ k2 = j2 ∧ k3 = j3 ∧ k4 = j4 then 1 else 0
def q_fits (k1 k2 k3 k4 x y : Int32) : Int32 := if x &&& k2 = k1 ∧ y &&& k4 = k3 then 1 else 0
/-- whether a number is one of the first k -/
def q_in (x k : Int32) : Int32 := if x < 0 ∨ k ≤ x then 0 else 1
def q_full (N k : Int32) : Int32 := if k < N then 0 else 1
theorem q_in_of {x : Int32} {k : Nat} (hk : k < 2 ^ 31) (h : ¬ q_in x (nI k) = 0) : ∃ j : Nat, j < k ∧ x = nI j := by
  rcases pk_ix x hk with h1 | h1 | h1
  · exact absurd (by simp [q_in, h1]) h
  · exact absurd (by simp [q_in, h1]) h
  · exact h1
theorem q_in_lt {j k : Nat} (h : j < k) (hk : k < 2 ^ 31) : q_in (nI j) (nI k) = 1 := by
  have h1 : ¬ nI j < 0 := nI_pos (by omega)
  have h2 : ¬ nI k ≤ nI j := nI_ge h hk
  simp [q_in, h1, h2]
theorem q_full_lt {k N : Nat} (h : k < N) (hN : N < 2 ^ 31) : q_full (nI N) (nI k) = 0 := by
  have h1 : nI k < nI N := nI_lt h hN
  simp [q_full, h1]
/-- what the place x of a row of k holds, 0 for none such -/
def q_at (z : Nat → Int32) (x k : Int32) : Int32 := if q_in x k = 0 then 0 else z x.toNatClampNeg
def q_wr (z1 z2 : Nat → Int32) (x k w : Int32) : Nat → Int32 := if q_in x k = 0 then z2 else upd z2 x.toNatClampNeg (w &&& z1 x.toNatClampNeg)
def q_isw (x i : Int32) : Int32 := if q_in x 4 = 0 then 0 else if i < 0 ∨ 16 ≤ i then 0 else 1
def q_cr (z : Nat → Int32) (x i : Int32) : Int32 := if q_isw x i = 0 then 0 else z (x * 16 + i).toNatClampNeg
def q_cg (z : Nat → Int32) (x i y : Int32) : Nat → Int32 := if q_isw x i = 0 then z else upd z (x * 16 + i).toNatClampNeg (z (x * 16 + i).toNatClampNeg + y)
theorem q_isw_of {x i : Int32} (h : ¬ q_isw x i = 0) : ∃ p r : Nat, p < 4 ∧ r < 16 ∧ x = nI p ∧ i = nI r ∧ x * 16 + i = nI (p * 16 + r) ∧ (x * 16 + i).toNatClampNeg = p * 16 + r := by
  unfold q_isw at h
  by_cases h1 : q_in x 4 = 0
  · rw [if_pos h1] at h; exact absurd rfl h
  · rw [if_neg h1] at h
    obtain ⟨p, hp, rfl⟩ := q_in_of (k := 4) (by decide) h1
    have h2 : ¬ q_in i (nI 16) = 0 := fun q => h (by unfold q_in at q; exact q)
    obtain ⟨r, hr, rfl⟩ := q_in_of (k := 16) (by decide) h2
    have e : nI p * 16 + nI r = nI (p * 16 + r) := by
      rw [show (16 : Int32) = nI 16 from rfl, pk_mul, nI_add]
    exact ⟨p, r, hp, hr, rfl, rfl, e, by rw [e, nI_clamp (by omega)]⟩
set_option maxHeartbeats 4000000 in
set_option maxRecDepth 100000 in
theorem c_K_hold {l : Launch} {D : va_G} {g : Nat → ClassId} {b n : Nat} {A : Nat → Prop} {f : Nat → va_E} {a : Nat} {k1 k2 k3 k4 : Int32} (x1 x2 x3 x4 : Int32) (oa : fp_o b n f a (ob 5 [.int k1, .int k2, .int k3, .int k4]))  (hA : fp_W b n A := by assumption) : fp_M l D (TY g) b n A y_K_hold (fp_ws y_K_hold b_K_hold 5 none) (rmD 0) [.ref a, .int x1, .int x2, .int x3, .int x4] f (fun v f' => v = none ∧ f' = va_up f a (ob 5 [.int x1, .int x2, .int x3, .int x4])) := by
  refine fp_ofV (plainFor_of_name (by decide)) (Nat.le_of_ble_eq_true rfl) ?_
  intro p e s m args below meth c Q ls H locs X Y hl ret
  have hx := X.1.1
  have hb := X.1.2.1
  have hl : lv_has ls 5 [(0, .ref a), (1, .int x1), (2, .int x2), (3, .int x3), (4, .int x4)] := hl
  refine lv_aload_n hx hb d_K_hold_0 rfl (lv_at hl 0 rfl) ?_
  refine lv_iload_n hx hb d_K_hold_1 rfl (lv_at hl 1 rfl) ?_
  refine fp_put X Y oa rfl in_K to_K nm_K 0 (by decide) w64 rfl rfl rfl (Nat.le_of_ble_eq_true rfl) d_K_hold_2 (fun H locs Y => ?_)
  have Y : fp_H D b n A (va_up f a (ob 5 [.int x1, .int k2, .int k3, .int k4])) s.heap H locs := Y
  have oa : fp_o b n (va_up f a (ob 5 [.int x1, .int k2, .int k3, .int k4])) a (ob 5 [.int x1, .int k2, .int k3, .int k4]) := fp_o.up oa
  refine lv_aload_n hx hb d_K_hold_5 rfl (lv_at hl 0 rfl) ?_
  refine lv_iload_n hx hb d_K_hold_6 rfl (lv_at hl 2 rfl) ?_
  refine fp_put X Y oa rfl in_K to_K nm_K 1 (by decide) w66 rfl rfl rfl (Nat.le_of_ble_eq_true rfl) d_K_hold_7 (fun H locs Y => ?_)
  have Y := Y.re
  have Y : fp_H D b n A (va_up f a (ob 5 [.int x1, .int x2, .int k3, .int k4])) s.heap H locs := Y
  have oa : fp_o b n (va_up f a (ob 5 [.int x1, .int x2, .int k3, .int k4])) a (ob 5 [.int x1, .int x2, .int k3, .int k4]) := fp_o.rs oa
  refine lv_aload_n hx hb d_K_hold_10 rfl (lv_at hl 0 rfl) ?_
  refine lv_iload_n hx hb d_K_hold_11 rfl (lv_at hl 3 rfl) ?_
  refine fp_put X Y oa rfl in_K to_K nm_K 2 (by decide) w68 rfl rfl rfl (Nat.le_of_ble_eq_true rfl) d_K_hold_12 (fun H locs Y => ?_)
  have Y := Y.re
  have Y : fp_H D b n A (va_up f a (ob 5 [.int x1, .int x2, .int x3, .int k4])) s.heap H locs := Y
  have oa : fp_o b n (va_up f a (ob 5 [.int x1, .int x2, .int x3, .int k4])) a (ob 5 [.int x1, .int x2, .int x3, .int k4]) := fp_o.rs oa
  refine lv_aload_n hx hb d_K_hold_15 rfl (lv_at hl 0 rfl) ?_
  refine lv_iload hx hb d_K_hold_16 (lv_at hl 4 rfl) ?_
  refine fp_put X Y oa rfl in_K to_K nm_K 3 (by decide) w70 rfl rfl rfl (Nat.le_of_ble_eq_true rfl) d_K_hold_18 (fun H locs Y => ?_)
  have Y := Y.re
  have Y : fp_H D b n A (va_up f a (ob 5 [.int x1, .int x2, .int x3, .int x4])) s.heap H locs := Y
  have oa : fp_o b n (va_up f a (ob 5 [.int x1, .int x2, .int x3, .int x4])) a (ob 5 [.int x1, .int x2, .int x3, .int x4]) := fp_o.rs oa
  exact ret _ _ _ _ _ d_K_hold_21 ⟨rfl, rfl⟩ Y
set_option maxHeartbeats 4000000 in
set_option maxRecDepth 100000 in
theorem c_K_isSameAs {l : Launch} {D : va_G} {g : Nat → ClassId} {b n : Nat} {A : Nat → Prop} {f : Nat → va_E} {a a2 : Nat} {k1 k2 k3 k4 j1 j2 j3 j4 : Int32} (oa : fp_o b n f a (ob 5 [.int k1, .int k2, .int k3, .int k4])) (oj : fp_o b n f a2 (ob 5 [.int j1, .int j2, .int j3, .int j4]))  : fp_M l D (TY g) b n A y_K_isSameAs (fp_ws y_K_isSameAs b_K_isSameAs 2 (some FieldType.boolean)) (rmD 0) [.ref a, .ref a2] f (fun v f' => v = some (.int (q_same k1 k2 k3 k4 j1 j2 j3 j4)) ∧ f' = f) := by
  refine fp_ofI (plainFor_of_name (by decide)) (Nat.le_of_ble_eq_true rfl) ?_
  intro p e s m args below meth c Q ls H locs X Y hl ret
  have hx := X.1.1
  have hb := X.1.2.1
  have hl : lv_has ls 2 [(0, .ref a), (1, .ref a2)] := hl
  refine lv_aload_n hx hb d_K_isSameAs_0 rfl (lv_at hl 0 rfl) ?_
  refine fp_get X Y oa rfl in_K 0 (by decide) w64 rfl d_K_isSameAs_1 ?_
  refine lv_aload_n hx hb d_K_isSameAs_4 rfl (lv_at hl 1 rfl) ?_
  refine fp_get X Y oj rfl in_K 0 (by decide) w64 rfl d_K_isSameAs_5 ?_
  refine lv_icmp_ne (tgt := 48) hx hb d_K_isSameAs_8 (by decide) (fun c_8 => ?_) (fun c_8 => ?_)
  · refine lv_iconst (v := 0) hx hb d_K_isSameAs_48 (by decide) ?_
    exact ret _ _ _ _ _ _ d_K_isSameAs_49 ⟨_, rfl, rfl⟩ ⟨by simp [q_same, c_8], rfl⟩ Y
  · refine lv_aload_n hx hb d_K_isSameAs_11 rfl (lv_at hl 0 rfl) ?_
    refine fp_get X Y oa rfl in_K 1 (by decide) w66 rfl d_K_isSameAs_12 ?_
    refine lv_aload_n hx hb d_K_isSameAs_15 rfl (lv_at hl 1 rfl) ?_
    refine fp_get X Y oj rfl in_K 1 (by decide) w66 rfl d_K_isSameAs_16 ?_
    refine lv_icmp_ne (tgt := 48) hx hb d_K_isSameAs_19 (by decide) (fun c_19 => ?_) (fun c_19 => ?_)
    · refine lv_iconst (v := 0) hx hb d_K_isSameAs_48 (by decide) ?_
      exact ret _ _ _ _ _ _ d_K_isSameAs_49 ⟨_, rfl, rfl⟩ ⟨by simp [q_same, c_8, c_19], rfl⟩ Y
    · refine lv_aload_n hx hb d_K_isSameAs_22 rfl (lv_at hl 0 rfl) ?_
      refine fp_get X Y oa rfl in_K 2 (by decide) w68 rfl d_K_isSameAs_23 ?_
      refine lv_aload_n hx hb d_K_isSameAs_26 rfl (lv_at hl 1 rfl) ?_
      refine fp_get X Y oj rfl in_K 2 (by decide) w68 rfl d_K_isSameAs_27 ?_
      refine lv_icmp_ne (tgt := 48) hx hb d_K_isSameAs_30 (by decide) (fun c_30 => ?_) (fun c_30 => ?_)
      · refine lv_iconst (v := 0) hx hb d_K_isSameAs_48 (by decide) ?_
        exact ret _ _ _ _ _ _ d_K_isSameAs_49 ⟨_, rfl, rfl⟩ ⟨by simp [q_same, c_8, c_19, c_30], rfl⟩ Y
      · refine lv_aload_n hx hb d_K_isSameAs_33 rfl (lv_at hl 0 rfl) ?_
        refine fp_get X Y oa rfl in_K 3 (by decide) w70 rfl d_K_isSameAs_34 ?_
        refine lv_aload_n hx hb d_K_isSameAs_37 rfl (lv_at hl 1 rfl) ?_
        refine fp_get X Y oj rfl in_K 3 (by decide) w70 rfl d_K_isSameAs_38 ?_
        refine lv_icmp_ne (tgt := 48) hx hb d_K_isSameAs_41 (by decide) (fun c_41 => ?_) (fun c_41 => ?_)
        · refine lv_iconst (v := 0) hx hb d_K_isSameAs_48 (by decide) ?_
          exact ret _ _ _ _ _ _ d_K_isSameAs_49 ⟨_, rfl, rfl⟩ ⟨by simp [q_same, c_8, c_19, c_30, c_41], rfl⟩ Y
        · refine lv_iconst (v := 1) hx hb d_K_isSameAs_44 (by decide) ?_
          refine lv_goto (tgt := 49) hx hb d_K_isSameAs_45 (by decide) ?_
          exact ret _ _ _ _ _ _ d_K_isSameAs_49 ⟨_, rfl, rfl⟩ ⟨by simp [q_same, c_8, c_19, c_30, c_41], rfl⟩ Y
set_option maxHeartbeats 4000000 in
set_option maxRecDepth 100000 in
theorem c_K_fits {l : Launch} {D : va_G} {g : Nat → ClassId} {b n : Nat} {A : Nat → Prop} {f : Nat → va_E} {a : Nat} {k1 k2 k3 k4 : Int32} (x y : Int32) (oa : fp_o b n f a (ob 5 [.int k1, .int k2, .int k3, .int k4]))  : fp_M l D (TY g) b n A y_K_fits (fp_ws y_K_fits b_K_fits 3 (some FieldType.boolean)) (rmD 0) [.ref a, .int x, .int y] f (fun v f' => v = some (.int (q_fits k1 k2 k3 k4 x y)) ∧ f' = f) := by
  refine fp_ofI (plainFor_of_name (by decide)) (Nat.le_of_ble_eq_true rfl) ?_
  intro p e s m args below meth c Q ls H locs X Y hl ret
  have hx := X.1.1
  have hb := X.1.2.1
  have hl : lv_has ls 3 [(0, .ref a), (1, .int x), (2, .int y)] := hl
  refine lv_iload_n hx hb d_K_fits_0 rfl (lv_at hl 1 rfl) ?_
  refine lv_aload_n hx hb d_K_fits_1 rfl (lv_at hl 0 rfl) ?_
  refine fp_get X Y oa rfl in_K 1 (by decide) w66 rfl d_K_fits_2 ?_
  refine lv_iand hx hb d_K_fits_5 ?_
  refine lv_aload_n hx hb d_K_fits_6 rfl (lv_at hl 0 rfl) ?_
  refine fp_get X Y oa rfl in_K 0 (by decide) w64 rfl d_K_fits_7 ?_
  refine lv_icmp_ne (tgt := 30) hx hb d_K_fits_10 (by decide) (fun c_10 => ?_) (fun c_10 => ?_)
  · refine lv_iconst (v := 0) hx hb d_K_fits_30 (by decide) ?_
    exact ret _ _ _ _ _ _ d_K_fits_31 ⟨_, rfl, rfl⟩ ⟨by simp [q_fits, c_10], rfl⟩ Y
  · refine lv_iload_n hx hb d_K_fits_13 rfl (lv_at hl 2 rfl) ?_
    refine lv_aload_n hx hb d_K_fits_14 rfl (lv_at hl 0 rfl) ?_
    refine fp_get X Y oa rfl in_K 3 (by decide) w70 rfl d_K_fits_15 ?_
    refine lv_iand hx hb d_K_fits_18 ?_
    refine lv_aload_n hx hb d_K_fits_19 rfl (lv_at hl 0 rfl) ?_
    refine fp_get X Y oa rfl in_K 2 (by decide) w68 rfl d_K_fits_20 ?_
    refine lv_icmp_ne (tgt := 30) hx hb d_K_fits_23 (by decide) (fun c_23 => ?_) (fun c_23 => ?_)
    · refine lv_iconst (v := 0) hx hb d_K_fits_30 (by decide) ?_
      exact ret _ _ _ _ _ _ d_K_fits_31 ⟨_, rfl, rfl⟩ ⟨by simp [q_fits, c_10, c_23], rfl⟩ Y
    · refine lv_iconst (v := 1) hx hb d_K_fits_26 (by decide) ?_
      refine lv_goto (tgt := 31) hx hb d_K_fits_27 (by decide) ?_
      exact ret _ _ _ _ _ _ d_K_fits_31 ⟨_, rfl, rfl⟩ ⟨by simp [q_fits, c_10, c_23], rfl⟩ Y
set_option maxHeartbeats 4000000 in
set_option maxRecDepth 100000 in
theorem c_F_forget {l : Launch} {D : va_G} {g : Nat → ClassId} {b n : Nat} {A : Nat → Prop} {f : Nat → va_E} {a q1 q2 : Nat} {k : Int32} (oa : fp_o b n f a (ob 4 [.ref q1, .ref q2, .int k]))  (hA : fp_W b n A := by assumption) : fp_M l D (TY g) b n A y_F_forget (fp_ws y_F_forget b_F_forget 1 none) (rmD 0) [.ref a] f (fun v f' => v = none ∧ f' = va_up f a (ob 4 [.ref q1, .ref q2, .int 0])) := by
  refine fp_ofV (plainFor_of_name (by decide)) (Nat.le_of_ble_eq_true rfl) ?_
  intro p e s m args below meth c Q ls H locs X Y hl ret
  have hx := X.1.1
  have hb := X.1.2.1
  have hl : lv_has ls 1 [(0, .ref a)] := hl
  refine lv_aload_n hx hb d_F_forget_0 rfl (lv_at hl 0 rfl) ?_
  refine lv_iconst (v := 0) hx hb d_F_forget_1 (by decide) ?_
  refine fp_put X Y oa rfl in_F to_F nm_F 2 (by decide) w35 rfl rfl rfl (Nat.le_of_ble_eq_true rfl) d_F_forget_2 (fun H locs Y => ?_)
  have Y : fp_H D b n A (va_up f a (ob 4 [.ref q1, .ref q2, .int 0])) s.heap H locs := Y
  have oa : fp_o b n (va_up f a (ob 4 [.ref q1, .ref q2, .int 0])) a (ob 4 [.ref q1, .ref q2, .int 0]) := fp_o.up oa
  exact ret _ _ _ _ _ d_F_forget_5 ⟨rfl, rfl⟩ Y
set_option maxHeartbeats 4000000 in
set_option maxRecDepth 100000 in
theorem c_F_isFull {l : Launch} {D : va_G} {g : Nat → ClassId} {b n : Nat} {A : Nat → Prop} {f : Nat → va_E} {a q1 q2 : Nat} {k : Int32} (oa : fp_o b n f a (ob 4 [.ref q1, .ref q2, .int k]))  : fp_M l D (TY g) b n A y_F_isFull (fp_ws y_F_isFull b_F_isFull 1 (some FieldType.boolean)) (rmD 0) [.ref a] f (fun v f' => v = some (.int (q_full 16 k)) ∧ f' = f) := by
  refine fp_ofI (plainFor_of_name (by decide)) (Nat.le_of_ble_eq_true rfl) ?_
  intro p e s m args below meth c Q ls H locs X Y hl ret
  have hx := X.1.1
  have hb := X.1.2.1
  have hl : lv_has ls 1 [(0, .ref a)] := hl
  refine lv_aload_n hx hb d_F_isFull_0 rfl (lv_at hl 0 rfl) ?_
  refine fp_get X Y oa rfl in_F 2 (by decide) w35 rfl d_F_isFull_1 ?_
  refine lv_bipush (v := 16) hx hb d_F_isFull_4 (by decide) ?_
  refine lv_icmp_lt (tgt := 13) hx hb d_F_isFull_6 (by decide) (fun c_6 => ?_) (fun c_6 => ?_)
  · refine lv_iconst (v := 0) hx hb d_F_isFull_13 (by decide) ?_
    exact ret _ _ _ _ _ _ d_F_isFull_14 ⟨_, rfl, rfl⟩ ⟨by simp [q_full, c_6], rfl⟩ Y
  · refine lv_iconst (v := 1) hx hb d_F_isFull_9 (by decide) ?_
    refine lv_goto (tgt := 14) hx hb d_F_isFull_10 (by decide) ?_
    exact ret _ _ _ _ _ _ d_F_isFull_14 ⟨_, rfl, rfl⟩ ⟨by simp [q_full, c_6], rfl⟩ Y
set_option maxHeartbeats 4000000 in
set_option maxRecDepth 100000 in
theorem c_F_isThere {l : Launch} {D : va_G} {g : Nat → ClassId} {b n : Nat} {A : Nat → Prop} {f : Nat → va_E} {a q1 q2 : Nat} {k : Int32} (x : Int32) (oa : fp_o b n f a (ob 4 [.ref q1, .ref q2, .int k]))  : fp_M l D (TY g) b n A y_F_isThere (fp_ws y_F_isThere b_F_isThere 2 (some FieldType.boolean)) (rmD 0) [.ref a, .int x] f (fun v f' => v = some (.int (q_in x k)) ∧ f' = f) := by
  refine fp_ofI (plainFor_of_name (by decide)) (Nat.le_of_ble_eq_true rfl) ?_
  intro p e s m args below meth c Q ls H locs X Y hl ret
  have hx := X.1.1
  have hb := X.1.2.1
  have hl : lv_has ls 2 [(0, .ref a), (1, .int x)] := hl
  refine lv_iload_n hx hb d_F_isThere_0 rfl (lv_at hl 1 rfl) ?_
  refine lv_if_lt (tgt := 16) hx hb d_F_isThere_1 (by decide) (fun c_1 => ?_) (fun c_1 => ?_)
  · refine lv_iconst (v := 0) hx hb d_F_isThere_16 (by decide) ?_
    exact ret _ _ _ _ _ _ d_F_isThere_17 ⟨_, rfl, rfl⟩ ⟨by simp [q_in, c_1], rfl⟩ Y
  · refine lv_iload_n hx hb d_F_isThere_4 rfl (lv_at hl 1 rfl) ?_
    refine lv_aload_n hx hb d_F_isThere_5 rfl (lv_at hl 0 rfl) ?_
    refine fp_get X Y oa rfl in_F 2 (by decide) w35 rfl d_F_isThere_6 ?_
    refine lv_icmp_ge (tgt := 16) hx hb d_F_isThere_9 (by decide) (fun c_9 => ?_) (fun c_9 => ?_)
    · refine lv_iconst (v := 0) hx hb d_F_isThere_16 (by decide) ?_
      exact ret _ _ _ _ _ _ d_F_isThere_17 ⟨_, rfl, rfl⟩ ⟨by simp [q_in, c_1, c_9], rfl⟩ Y
    · refine lv_iconst (v := 1) hx hb d_F_isThere_12 (by decide) ?_
      refine lv_goto (tgt := 17) hx hb d_F_isThere_13 (by decide) ?_
      exact ret _ _ _ _ _ _ d_F_isThere_17 ⟨_, rfl, rfl⟩ ⟨by simp [q_in, c_1, c_9], rfl⟩ Y
/-- all ones of a width, as Fields has them -/
def q_on (x : Int32) : Int32 := ((-1 : Int32).toUInt32 >>> ((32 - x).toUInt32 &&& Int32.toUInt32 31)).toInt32
set_option maxHeartbeats 4000000 in
set_option maxRecDepth 100000 in
theorem c_F_add {l : Launch} {D : va_G} {g : Nat → ClassId} {b n : Nat} {A : Nat → Prop} {f : Nat → va_E} {a q1 q2 : Nat} {z1 z2 : Nat → Int32} {k : Nat} (x : Int32) (hk : k < 16) (oa : fp_o b n f a (ob 4 [.ref q1, .ref q2, .int (nI k)])) (o1 : fp_o b n f q1 (aI g 16 z1)) (o2 : fp_o b n f q2 (aI g 16 z2)) (hne : q1 ≠ q2) (hA : fp_W b n A := by assumption) : fp_M l D (TY g) b n A y_F_add (fp_ws y_F_add b_F_add 3 (some FieldType.int)) (rmD 1) [.ref a, .int x] f (fun v f' => v = some (.int (nI k)) ∧ f' = va_up (va_up (va_up f q1 (aI g 16 (upd z1 k (q_on x)))) q2 (aI g 16 (upd z2 k 0))) a (ob 4 [.ref q1, .ref q2, .int (nI (k + 1))])) := by
  refine fp_ofI (plainFor_of_name (by decide)) (Nat.le_of_ble_eq_true rfl) ?_
  intro p e s m args below meth c Q ls H locs X Y hl ret
  have hx := X.1.1
  have hb := X.1.2.1
  have hl : lv_has ls 3 [(0, .ref a), (1, .int x)] := hl
  refine lv_aload_n hx hb d_F_add_0 rfl (lv_at hl 0 rfl) ?_
  refine fp_callV (nA := 0) (As := []) (rest := []) X Y (c_F_isFull oa) oa rfl w391 w412 w389 w390 w2 (by decide +kernel) ⟨rfl, rfl⟩ ⟨Nat.le_of_ble_eq_true rfl, Nat.le_of_ble_eq_true rfl⟩ rfl hl.1 rfl (Nat.le_of_ble_eq_true rfl) d_F_add_1 ⟨Nat.zero_le _, Nat.zero_le _⟩ (fun v9 f9 H locs hp9 Y => ?_)
  obtain ⟨e8, e9⟩ := hp9
  subst e8
  rw [e9] at Y
  refine W.eq (g2 := F0 m 4 ls [.int (q_full 16 (nI k))]) rfl ?_
  refine lv_if_eq (tgt := 9) hx hb d_F_add_4 (by decide) (fun c_4 => ?_) (fun c_4 => absurd (q_full_lt hk (by decide)) c_4)
  refine lv_aload_n hx hb d_F_add_9 rfl (lv_at hl 0 rfl) ?_
  refine fp_get X Y oa rfl in_F 2 (by decide) w35 rfl d_F_add_10 ?_
  refine lv_istore_n (lv' := [(2, .int (nI k)), (0, .ref a), (1, .int x)]) hx hb d_F_add_13 rfl hl (by decide) rfl (fun ls hl => ?_)
  refine lv_aload_n hx hb d_F_add_14 rfl (lv_at hl 1 rfl) ?_
  refine fp_get X Y oa rfl in_F 0 (by decide) w33 rfl d_F_add_15 ?_
  refine lv_iload_n hx hb d_F_add_18 rfl (lv_at hl 0 rfl) ?_
  refine lv_iconst (v := -1) hx hb d_F_add_19 (by decide) ?_
  refine lv_bipush (v := 32) hx hb d_F_add_20 (by decide) ?_
  refine lv_iload_n hx hb d_F_add_22 rfl (lv_at hl 2 rfl) ?_
  refine lv_isub hx hb d_F_add_23 ?_
  refine lv_iushr hx hb d_F_add_24 rfl ?_
  refine fp_ist X Y o1 k rfl hk (by decide) d_F_add_25 (fun H locs Y => ?_)
  have ne_1 : a ≠ q1 := (fp_o.nf oa o1 (by simp))
  have ne_2 : q2 ≠ q1 := (Ne.symm hne)
  have Y : fp_H D b n A (va_up f q1 (aI g 16 (upd z1 k ((((-1) : Int32).toUInt32 >>> ((32 - x).toUInt32 &&& Int32.toUInt32 31)).toInt32)))) s.heap H locs := Y
  have oa : fp_o b n (va_up f q1 (aI g 16 (upd z1 k ((((-1) : Int32).toUInt32 >>> ((32 - x).toUInt32 &&& Int32.toUInt32 31)).toInt32)))) a (ob 4 [.ref q1, .ref q2, .int (nI k)]) := fp_o.ne oa ne_1
  have o2 : fp_o b n (va_up f q1 (aI g 16 (upd z1 k ((((-1) : Int32).toUInt32 >>> ((32 - x).toUInt32 &&& Int32.toUInt32 31)).toInt32)))) q2 (aI g 16 z2) := fp_o.ne o2 ne_2
  have o1 : fp_o b n (va_up f q1 (aI g 16 (upd z1 k ((((-1) : Int32).toUInt32 >>> ((32 - x).toUInt32 &&& Int32.toUInt32 31)).toInt32)))) q1 (aI g 16 (upd z1 k ((((-1) : Int32).toUInt32 >>> ((32 - x).toUInt32 &&& Int32.toUInt32 31)).toInt32))) := fp_o.up o1
  refine lv_aload_n hx hb d_F_add_26 rfl (lv_at hl 1 rfl) ?_
  refine fp_get X Y oa rfl in_F 1 (by decide) w34 rfl d_F_add_27 ?_
  refine lv_iload_n hx hb d_F_add_30 rfl (lv_at hl 0 rfl) ?_
  refine lv_iconst (v := 0) hx hb d_F_add_31 (by decide) ?_
  refine fp_ist X Y o2 k rfl hk (by decide) d_F_add_32 (fun H locs Y => ?_)
  have ne_3 : a ≠ q2 := (fp_o.nf oa o2 (by simp))
  have ne_4 : q1 ≠ q2 := hne
  have Y : fp_H D b n A (va_up (va_up f q1 (aI g 16 (upd z1 k ((((-1) : Int32).toUInt32 >>> ((32 - x).toUInt32 &&& Int32.toUInt32 31)).toInt32)))) q2 (aI g 16 (upd z2 k 0))) s.heap H locs := Y
  have oa : fp_o b n (va_up (va_up f q1 (aI g 16 (upd z1 k ((((-1) : Int32).toUInt32 >>> ((32 - x).toUInt32 &&& Int32.toUInt32 31)).toInt32)))) q2 (aI g 16 (upd z2 k 0))) a (ob 4 [.ref q1, .ref q2, .int (nI k)]) := fp_o.ne oa ne_3
  have o1 : fp_o b n (va_up (va_up f q1 (aI g 16 (upd z1 k ((((-1) : Int32).toUInt32 >>> ((32 - x).toUInt32 &&& Int32.toUInt32 31)).toInt32)))) q2 (aI g 16 (upd z2 k 0))) q1 (aI g 16 (upd z1 k ((((-1) : Int32).toUInt32 >>> ((32 - x).toUInt32 &&& Int32.toUInt32 31)).toInt32))) := fp_o.ne o1 ne_4
  have o2 : fp_o b n (va_up (va_up f q1 (aI g 16 (upd z1 k ((((-1) : Int32).toUInt32 >>> ((32 - x).toUInt32 &&& Int32.toUInt32 31)).toInt32)))) q2 (aI g 16 (upd z2 k 0))) q2 (aI g 16 (upd z2 k 0)) := fp_o.up o2
  refine lv_aload_n hx hb d_F_add_33 rfl (lv_at hl 1 rfl) ?_
  refine lv_dup hx hb d_F_add_34 rfl ?_
  refine fp_get X Y oa rfl in_F 2 (by decide) w35 rfl d_F_add_35 ?_
  refine lv_iconst (v := 1) hx hb d_F_add_38 (by decide) ?_
  refine lv_iadd hx hb d_F_add_39 ?_
  refine fp_put X Y oa rfl in_F to_F nm_F 2 (by decide) w35 rfl rfl rfl (Nat.le_of_ble_eq_true rfl) d_F_add_40 (fun H locs Y => ?_)
  have ne_5 : q1 ≠ a := (fp_o.nf o1 oa (by simp))
  have ne_6 : q2 ≠ a := (fp_o.nf o2 oa (by simp))
  have Y : fp_H D b n A (va_up (va_up (va_up f q1 (aI g 16 (upd z1 k ((((-1) : Int32).toUInt32 >>> ((32 - x).toUInt32 &&& Int32.toUInt32 31)).toInt32)))) q2 (aI g 16 (upd z2 k 0))) a (ob 4 [.ref q1, .ref q2, .int ((nI k) + 1)])) s.heap H locs := Y
  have o1 : fp_o b n (va_up (va_up (va_up f q1 (aI g 16 (upd z1 k ((((-1) : Int32).toUInt32 >>> ((32 - x).toUInt32 &&& Int32.toUInt32 31)).toInt32)))) q2 (aI g 16 (upd z2 k 0))) a (ob 4 [.ref q1, .ref q2, .int ((nI k) + 1)])) q1 (aI g 16 (upd z1 k ((((-1) : Int32).toUInt32 >>> ((32 - x).toUInt32 &&& Int32.toUInt32 31)).toInt32))) := fp_o.ne o1 ne_5
  have o2 : fp_o b n (va_up (va_up (va_up f q1 (aI g 16 (upd z1 k ((((-1) : Int32).toUInt32 >>> ((32 - x).toUInt32 &&& Int32.toUInt32 31)).toInt32)))) q2 (aI g 16 (upd z2 k 0))) a (ob 4 [.ref q1, .ref q2, .int ((nI k) + 1)])) q2 (aI g 16 (upd z2 k 0)) := fp_o.ne o2 ne_6
  have oa : fp_o b n (va_up (va_up (va_up f q1 (aI g 16 (upd z1 k ((((-1) : Int32).toUInt32 >>> ((32 - x).toUInt32 &&& Int32.toUInt32 31)).toInt32)))) q2 (aI g 16 (upd z2 k 0))) a (ob 4 [.ref q1, .ref q2, .int ((nI k) + 1)])) a (ob 4 [.ref q1, .ref q2, .int ((nI k) + 1)]) := fp_o.up oa
  refine lv_iload_n hx hb d_F_add_43 rfl (lv_at hl 0 rfl) ?_
  exact ret _ _ _ _ _ _ d_F_add_44 ⟨_, rfl, rfl⟩ ⟨rfl, by rw [← nI_1]; rfl⟩ Y
set_option maxHeartbeats 4000000 in
set_option maxRecDepth 100000 in
theorem c_F_read {l : Launch} {D : va_G} {g : Nat → ClassId} {b n : Nat} {A : Nat → Prop} {f : Nat → va_E} {a q1 q2 : Nat} {z1 z2 : Nat → Int32} {k : Nat} (x : Int32) (hk : k ≤ 16) (oa : fp_o b n f a (ob 4 [.ref q1, .ref q2, .int (nI k)])) (o1 : fp_o b n f q1 (aI g 16 z1)) (o2 : fp_o b n f q2 (aI g 16 z2))  : fp_M l D (TY g) b n A y_F_read (fp_ws y_F_read b_F_read 2 (some FieldType.int)) (rmD 1) [.ref a, .int x] f (fun v f' => v = some (.int (q_at z2 x (nI k))) ∧ f' = f) := by
  refine fp_ofI (plainFor_of_name (by decide)) (Nat.le_of_ble_eq_true rfl) ?_
  intro p e s m args below meth c Q ls H locs X Y hl ret
  have hx := X.1.1
  have hb := X.1.2.1
  have hl : lv_has ls 2 [(0, .ref a), (1, .int x)] := hl
  refine lv_aload_n hx hb d_F_read_0 rfl (lv_at hl 0 rfl) ?_
  refine lv_iload_n hx hb d_F_read_1 rfl (lv_at hl 1 rfl) ?_
  refine fp_callV (nA := 1) (As := [.int x]) (rest := []) X Y (c_F_isThere x oa) oa rfl w249 w246 w247 w248 w2 (by decide +kernel) ⟨rfl, rfl⟩ ⟨Nat.le_of_ble_eq_true rfl, Nat.le_of_ble_eq_true rfl⟩ rfl hl.1 rfl (Nat.le_of_ble_eq_true rfl) d_F_read_2 ⟨Nat.zero_le _, Nat.zero_le _⟩ (fun v9 f9 H locs hp9 Y => ?_)
  obtain ⟨e8, e9⟩ := hp9
  subst e8
  rw [e9] at Y
  refine W.eq (g2 := F0 m 5 ls [.int (q_in x (nI k))]) rfl ?_
  refine lv_if_eq (tgt := 17) hx hb d_F_read_5 (by decide) (fun c_5 => ?_) (fun c_5 => ?_)
  · refine lv_iconst (v := 0) hx hb d_F_read_17 (by decide) ?_
    exact ret _ _ _ _ _ _ d_F_read_18 ⟨_, rfl, rfl⟩ ⟨by simp [q_at, c_5], rfl⟩ Y
  · obtain ⟨j, hj, ej⟩ := q_in_of (by omega) c_5
    refine lv_aload_n hx hb d_F_read_8 rfl (lv_at hl 0 rfl) ?_
    refine fp_get X Y oa rfl in_F 1 (by decide) w34 rfl d_F_read_9 ?_
    refine lv_iload_n hx hb d_F_read_12 rfl (lv_at hl 1 rfl) ?_
    refine fp_ild X Y o2 j ej (by omega) (by decide) d_F_read_13 ?_
    refine lv_goto (tgt := 18) hx hb d_F_read_14 (by decide) ?_
    exact ret _ _ _ _ _ _ d_F_read_18 ⟨_, rfl, rfl⟩ ⟨by rw [q_at, if_neg c_5, ej, nI_clamp (by omega)], rfl⟩ Y
set_option maxHeartbeats 4000000 in
set_option maxRecDepth 100000 in
theorem c_F_onesOf {l : Launch} {D : va_G} {g : Nat → ClassId} {b n : Nat} {A : Nat → Prop} {f : Nat → va_E} {a q1 q2 : Nat} {z1 z2 : Nat → Int32} {k : Nat} (x : Int32) (hk : k ≤ 16) (oa : fp_o b n f a (ob 4 [.ref q1, .ref q2, .int (nI k)])) (o1 : fp_o b n f q1 (aI g 16 z1)) (o2 : fp_o b n f q2 (aI g 16 z2))  : fp_M l D (TY g) b n A y_F_onesOf (fp_ws y_F_onesOf b_F_onesOf 2 (some FieldType.int)) (rmD 1) [.ref a, .int x] f (fun v f' => v = some (.int (q_at z1 x (nI k))) ∧ f' = f) := by
  refine fp_ofI (plainFor_of_name (by decide)) (Nat.le_of_ble_eq_true rfl) ?_
  intro p e s m args below meth c Q ls H locs X Y hl ret
  have hx := X.1.1
  have hb := X.1.2.1
  have hl : lv_has ls 2 [(0, .ref a), (1, .int x)] := hl
  refine lv_aload_n hx hb d_F_onesOf_0 rfl (lv_at hl 0 rfl) ?_
  refine lv_iload_n hx hb d_F_onesOf_1 rfl (lv_at hl 1 rfl) ?_
  refine fp_callV (nA := 1) (As := [.int x]) (rest := []) X Y (c_F_isThere x oa) oa rfl w249 w246 w247 w248 w2 (by decide +kernel) ⟨rfl, rfl⟩ ⟨Nat.le_of_ble_eq_true rfl, Nat.le_of_ble_eq_true rfl⟩ rfl hl.1 rfl (Nat.le_of_ble_eq_true rfl) d_F_onesOf_2 ⟨Nat.zero_le _, Nat.zero_le _⟩ (fun v9 f9 H locs hp9 Y => ?_)
  obtain ⟨e8, e9⟩ := hp9
  subst e8
  rw [e9] at Y
  refine W.eq (g2 := F0 m 5 ls [.int (q_in x (nI k))]) rfl ?_
  refine lv_if_eq (tgt := 17) hx hb d_F_onesOf_5 (by decide) (fun c_5 => ?_) (fun c_5 => ?_)
  · refine lv_iconst (v := 0) hx hb d_F_onesOf_17 (by decide) ?_
    exact ret _ _ _ _ _ _ d_F_onesOf_18 ⟨_, rfl, rfl⟩ ⟨by simp [q_at, c_5], rfl⟩ Y
  · obtain ⟨j, hj, ej⟩ := q_in_of (by omega) c_5
    refine lv_aload_n hx hb d_F_onesOf_8 rfl (lv_at hl 0 rfl) ?_
    refine fp_get X Y oa rfl in_F 0 (by decide) w33 rfl d_F_onesOf_9 ?_
    refine lv_iload_n hx hb d_F_onesOf_12 rfl (lv_at hl 1 rfl) ?_
    refine fp_ild X Y o1 j ej (by omega) (by decide) d_F_onesOf_13 ?_
    refine lv_goto (tgt := 18) hx hb d_F_onesOf_14 (by decide) ?_
    exact ret _ _ _ _ _ _ d_F_onesOf_18 ⟨_, rfl, rfl⟩ ⟨by rw [q_at, if_neg c_5, ej, nI_clamp (by omega)], rfl⟩ Y
set_option maxHeartbeats 4000000 in
set_option maxRecDepth 100000 in
theorem c_F_write {l : Launch} {D : va_G} {g : Nat → ClassId} {b n : Nat} {A : Nat → Prop} {f : Nat → va_E} {a q1 q2 : Nat} {z1 z2 : Nat → Int32} {k : Nat} (x y : Int32) (hk : k ≤ 16) (oa : fp_o b n f a (ob 4 [.ref q1, .ref q2, .int (nI k)])) (o1 : fp_o b n f q1 (aI g 16 z1)) (o2 : fp_o b n f q2 (aI g 16 z2)) (hne : q1 ≠ q2) (hA : fp_W b n A := by assumption) : fp_M l D (TY g) b n A y_F_write (fp_ws y_F_write b_F_write 3 none) (rmD 1) [.ref a, .int x, .int y] f (fun v f' => v = none ∧ f' = va_up f q2 (aI g 16 (q_wr z1 z2 x (nI k) y))) := by
  refine fp_ofV (plainFor_of_name (by decide)) (Nat.le_of_ble_eq_true rfl) ?_
  intro p e s m args below meth c Q ls H locs X Y hl ret
  have hx := X.1.1
  have hb := X.1.2.1
  have hl : lv_has ls 3 [(0, .ref a), (1, .int x), (2, .int y)] := hl
  refine lv_aload_n hx hb d_F_write_0 rfl (lv_at hl 0 rfl) ?_
  refine lv_iload_n hx hb d_F_write_1 rfl (lv_at hl 1 rfl) ?_
  refine fp_callV (nA := 1) (As := [.int x]) (rest := []) X Y (c_F_isThere x oa) oa rfl w249 w246 w247 w248 w2 (by decide +kernel) ⟨rfl, rfl⟩ ⟨Nat.le_of_ble_eq_true rfl, Nat.le_of_ble_eq_true rfl⟩ rfl hl.1 rfl (Nat.le_of_ble_eq_true rfl) d_F_write_2 ⟨Nat.zero_le _, Nat.zero_le _⟩ (fun v9 f9 H locs hp9 Y => ?_)
  obtain ⟨e8, e9⟩ := hp9
  subst e8
  rw [e9] at Y
  refine W.eq (g2 := F0 m 5 ls [.int (q_in x (nI k))]) rfl ?_
  refine lv_if_eq (tgt := 22) hx hb d_F_write_5 (by decide) (fun c_5 => ?_) (fun c_5 => ?_)
  · exact ret _ _ _ _ _ d_F_write_22 ⟨rfl, by rw [q_wr, if_pos c_5]; exact (va_up_same o2.2.2).symm⟩ Y
  · obtain ⟨j, hj, ej⟩ := q_in_of (by omega) c_5
    refine lv_aload_n hx hb d_F_write_8 rfl (lv_at hl 0 rfl) ?_
    refine fp_get X Y oa rfl in_F 1 (by decide) w34 rfl d_F_write_9 ?_
    refine lv_iload_n hx hb d_F_write_12 rfl (lv_at hl 1 rfl) ?_
    refine lv_iload_n hx hb d_F_write_13 rfl (lv_at hl 2 rfl) ?_
    refine lv_aload_n hx hb d_F_write_14 rfl (lv_at hl 0 rfl) ?_
    refine fp_get X Y oa rfl in_F 0 (by decide) w33 rfl d_F_write_15 ?_
    refine lv_iload_n hx hb d_F_write_18 rfl (lv_at hl 1 rfl) ?_
    refine fp_ild X Y o1 j ej (by omega) (by decide) d_F_write_19 ?_
    refine lv_iand hx hb d_F_write_20 ?_
    refine fp_ist X Y o2 j ej (by omega) (by decide) d_F_write_21 (fun H locs Y => ?_)
    have ne_1 : a ≠ q2 := (fp_o.nf oa o2 (by simp))
    have ne_2 : q1 ≠ q2 := hne
    have Y : fp_H D b n A (va_up f q2 (aI g 16 (upd z2 j (y &&& (z1 j))))) s.heap H locs := Y
    have oa : fp_o b n (va_up f q2 (aI g 16 (upd z2 j (y &&& (z1 j))))) a (ob 4 [.ref q1, .ref q2, .int (nI k)]) := fp_o.ne oa ne_1
    have o1 : fp_o b n (va_up f q2 (aI g 16 (upd z2 j (y &&& (z1 j))))) q1 (aI g 16 z1) := fp_o.ne o1 ne_2
    have o2 : fp_o b n (va_up f q2 (aI g 16 (upd z2 j (y &&& (z1 j))))) q2 (aI g 16 (upd z2 j (y &&& (z1 j)))) := fp_o.up o2
    exact ret _ _ _ _ _ d_F_write_22 ⟨rfl, by rw [q_wr, if_neg c_5, ej, nI_clamp (by omega)]⟩ Y
set_option maxHeartbeats 4000000 in
set_option maxRecDepth 100000 in
theorem c_X_isArray {l : Launch} {D : va_G} {g : Nat → ClassId} {b n : Nat} {A : Nat → Prop} {f : Nat → va_E} (x : Int32)   : fp_M l D (TY g) b n A y_X_isArray (fp_ws y_X_isArray b_X_isArray 1 (some FieldType.boolean)) (rmD 0) [.int x] f (fun v f' => v = some (.int (q_in x 4)) ∧ f' = f) := by
  refine fp_ofI (plainFor_of_name (by decide)) (Nat.le_of_ble_eq_true rfl) ?_
  intro p e s m args below meth c Q ls H locs X Y hl ret
  have hx := X.1.1
  have hb := X.1.2.1
  have hl : lv_has ls 1 [(0, .int x)] := hl
  refine lv_iload_n hx hb d_X_isArray_0 rfl (lv_at hl 0 rfl) ?_
  refine lv_if_lt (tgt := 13) hx hb d_X_isArray_1 (by decide) (fun c_1 => ?_) (fun c_1 => ?_)
  · refine lv_iconst (v := 0) hx hb d_X_isArray_13 (by decide) ?_
    exact ret _ _ _ _ _ _ d_X_isArray_14 ⟨_, rfl, rfl⟩ ⟨by simp [q_in, c_1], rfl⟩ Y
  · refine lv_iload_n hx hb d_X_isArray_4 rfl (lv_at hl 0 rfl) ?_
    refine lv_iconst (v := 4) hx hb d_X_isArray_5 (by decide) ?_
    refine lv_icmp_ge (tgt := 13) hx hb d_X_isArray_6 (by decide) (fun c_6 => ?_) (fun c_6 => ?_)
    · refine lv_iconst (v := 0) hx hb d_X_isArray_13 (by decide) ?_
      exact ret _ _ _ _ _ _ d_X_isArray_14 ⟨_, rfl, rfl⟩ ⟨by simp [q_in, c_1, c_6], rfl⟩ Y
    · refine lv_iconst (v := 1) hx hb d_X_isArray_9 (by decide) ?_
      refine lv_goto (tgt := 14) hx hb d_X_isArray_10 (by decide) ?_
      exact ret _ _ _ _ _ _ d_X_isArray_14 ⟨_, rfl, rfl⟩ ⟨by simp [q_in, c_1, c_6], rfl⟩ Y
set_option maxHeartbeats 4000000 in
set_option maxRecDepth 100000 in
theorem c_X_isDatum {l : Launch} {D : va_G} {g : Nat → ClassId} {b n : Nat} {A : Nat → Prop} {f : Nat → va_E} (x : Int32)   : fp_M l D (TY g) b n A y_X_isDatum (fp_ws y_X_isDatum b_X_isDatum 1 (some FieldType.boolean)) (rmD 0) [.int x] f (fun v f' => v = some (.int (q_in x 2)) ∧ f' = f) := by
  refine fp_ofI (plainFor_of_name (by decide)) (Nat.le_of_ble_eq_true rfl) ?_
  intro p e s m args below meth c Q ls H locs X Y hl ret
  have hx := X.1.1
  have hb := X.1.2.1
  have hl : lv_has ls 1 [(0, .int x)] := hl
  refine lv_iload_n hx hb d_X_isDatum_0 rfl (lv_at hl 0 rfl) ?_
  refine lv_if_lt (tgt := 13) hx hb d_X_isDatum_1 (by decide) (fun c_1 => ?_) (fun c_1 => ?_)
  · refine lv_iconst (v := 0) hx hb d_X_isDatum_13 (by decide) ?_
    exact ret _ _ _ _ _ _ d_X_isDatum_14 ⟨_, rfl, rfl⟩ ⟨by simp [q_in, c_1], rfl⟩ Y
  · refine lv_iload_n hx hb d_X_isDatum_4 rfl (lv_at hl 0 rfl) ?_
    refine lv_iconst (v := 2) hx hb d_X_isDatum_5 (by decide) ?_
    refine lv_icmp_ge (tgt := 13) hx hb d_X_isDatum_6 (by decide) (fun c_6 => ?_) (fun c_6 => ?_)
    · refine lv_iconst (v := 0) hx hb d_X_isDatum_13 (by decide) ?_
      exact ret _ _ _ _ _ _ d_X_isDatum_14 ⟨_, rfl, rfl⟩ ⟨by simp [q_in, c_1, c_6], rfl⟩ Y
    · refine lv_iconst (v := 1) hx hb d_X_isDatum_9 (by decide) ?_
      refine lv_goto (tgt := 14) hx hb d_X_isDatum_10 (by decide) ?_
      exact ret _ _ _ _ _ _ d_X_isDatum_14 ⟨_, rfl, rfl⟩ ⟨by simp [q_in, c_1, c_6], rfl⟩ Y
set_option maxHeartbeats 4000000 in
set_option maxRecDepth 100000 in
theorem c_C_isWord {l : Launch} {D : va_G} {g : Nat → ClassId} {b n : Nat} {A : Nat → Prop} {f : Nat → va_E} (x y : Int32)   : fp_M l D (TY g) b n A y_C_isWord (fp_ws y_C_isWord b_C_isWord 2 (some FieldType.boolean)) (rmD 1) [.int x, .int y] f (fun v f' => v = some (.int (q_isw x y)) ∧ f' = f) := by
  refine fp_ofI (plainFor_of_name (by decide)) (Nat.le_of_ble_eq_true rfl) ?_
  intro p e s m args below meth c Q ls H locs X Y hl ret
  have hx := X.1.1
  have hb := X.1.2.1
  have hl : lv_has ls 2 [(0, .int x), (1, .int y)] := hl
  refine lv_iload_n hx hb d_C_isWord_0 rfl (lv_at hl 0 rfl) ?_
  refine fp_callSN (nA := 1) (As := [.int x]) (rest := []) X Y (c_X_isArray x) w306 nw304 w305 w1 (by decide +kernel) ⟨rfl, rfl⟩ ⟨Nat.le_of_ble_eq_true rfl, Nat.le_of_ble_eq_true rfl⟩ rfl hl.1 rfl (Nat.le_of_ble_eq_true rfl) d_C_isWord_1 ⟨Nat.zero_le _, Nat.zero_le _⟩ (fun v9 f9 H locs hp9 Y => ?_)
  obtain ⟨e8, e9⟩ := hp9
  subst e8
  rw [e9] at Y
  refine W.eq (g2 := F0 m 4 ls [.int (q_in x 4)]) rfl ?_
  refine lv_if_eq (tgt := 21) hx hb d_C_isWord_4 (by decide) (fun c_4 => ?_) (fun c_4 => ?_)
  · refine lv_iconst (v := 0) hx hb d_C_isWord_21 (by decide) ?_
    exact ret _ _ _ _ _ _ d_C_isWord_22 ⟨_, rfl, rfl⟩ ⟨by simp [q_isw, c_4], rfl⟩ Y
  · refine lv_iload_n hx hb d_C_isWord_7 rfl (lv_at hl 1 rfl) ?_
    refine lv_if_lt (tgt := 21) hx hb d_C_isWord_8 (by decide) (fun c_8 => ?_) (fun c_8 => ?_)
    · refine lv_iconst (v := 0) hx hb d_C_isWord_21 (by decide) ?_
      exact ret _ _ _ _ _ _ d_C_isWord_22 ⟨_, rfl, rfl⟩ ⟨by simp [q_isw, c_4, c_8], rfl⟩ Y
    · refine lv_iload_n hx hb d_C_isWord_11 rfl (lv_at hl 1 rfl) ?_
      refine lv_bipush (v := 16) hx hb d_C_isWord_12 (by decide) ?_
      refine lv_icmp_ge (tgt := 21) hx hb d_C_isWord_14 (by decide) (fun c_14 => ?_) (fun c_14 => ?_)
      · refine lv_iconst (v := 0) hx hb d_C_isWord_21 (by decide) ?_
        exact ret _ _ _ _ _ _ d_C_isWord_22 ⟨_, rfl, rfl⟩ ⟨by simp [q_isw, c_4, c_8, c_14], rfl⟩ Y
      · refine lv_iconst (v := 1) hx hb d_C_isWord_17 (by decide) ?_
        refine lv_goto (tgt := 22) hx hb d_C_isWord_18 (by decide) ?_
        exact ret _ _ _ _ _ _ d_C_isWord_22 ⟨_, rfl, rfl⟩ ⟨by simp [q_isw, c_4, c_8, c_14], rfl⟩ Y
set_option maxHeartbeats 4000000 in
set_option maxRecDepth 100000 in
theorem c_C_read {l : Launch} {D : va_G} {g : Nat → ClassId} {b n : Nat} {A : Nat → Prop} {f : Nat → va_E} {a q : Nat} {z : Nat → Int32} (x y : Int32) (oa : fp_o b n f a (ob 1 [.ref q])) (o1 : fp_o b n f q (aI g 64 z))  : fp_M l D (TY g) b n A y_C_read (fp_ws y_C_read b_C_read 3 (some FieldType.int)) (rmD 2) [.ref a, .int x, .int y] f (fun v f' => v = some (.int (q_cr z x y)) ∧ f' = f) := by
  refine fp_ofI (plainFor_of_name (by decide)) (Nat.le_of_ble_eq_true rfl) ?_
  intro p e s m args below meth c Q ls H locs X Y hl ret
  have hx := X.1.1
  have hb := X.1.2.1
  have hl : lv_has ls 3 [(0, .ref a), (1, .int x), (2, .int y)] := hl
  refine lv_iload_n hx hb d_C_read_0 rfl (lv_at hl 1 rfl) ?_
  refine lv_iload_n hx hb d_C_read_1 rfl (lv_at hl 2 rfl) ?_
  refine fp_callS (nA := 2) (As := [.int x, .int y]) (rest := []) X Y (c_C_isWord x y) w303 w301 w302 w3 (by decide +kernel) ⟨rfl, rfl⟩ ⟨Nat.le_of_ble_eq_true rfl, Nat.le_of_ble_eq_true rfl⟩ rfl hl.1 rfl (Nat.le_of_ble_eq_true rfl) d_C_read_2 ⟨Nat.zero_le _, Nat.zero_le _⟩ (fun v9 f9 H locs hp9 Y => ?_)
  obtain ⟨e8, e9⟩ := hp9
  subst e8
  rw [e9] at Y
  refine W.eq (g2 := F0 m 5 ls [.int (q_isw x y)]) rfl ?_
  refine lv_if_eq (tgt := 22) hx hb d_C_read_5 (by decide) (fun c_5 => ?_) (fun c_5 => ?_)
  · refine lv_iconst (v := 0) hx hb d_C_read_22 (by decide) ?_
    exact ret _ _ _ _ _ _ d_C_read_23 ⟨_, rfl, rfl⟩ ⟨by simp [q_cr, c_5], rfl⟩ Y
  · obtain ⟨p0, r0, hp0, hr0, -, -, e0, e1⟩ := q_isw_of c_5
    refine lv_aload_n hx hb d_C_read_8 rfl (lv_at hl 0 rfl) ?_
    refine fp_get X Y oa rfl in_C 0 (by decide) w50 rfl d_C_read_9 ?_
    refine lv_iload_n hx hb d_C_read_12 rfl (lv_at hl 1 rfl) ?_
    refine lv_bipush (v := 16) hx hb d_C_read_13 (by decide) ?_
    refine lv_imul hx hb d_C_read_15 ?_
    refine lv_iload_n hx hb d_C_read_16 rfl (lv_at hl 2 rfl) ?_
    refine lv_iadd hx hb d_C_read_17 ?_
    refine fp_ild X Y o1 (p0 * 16 + r0) e0 (by omega) (by decide) d_C_read_18 ?_
    refine lv_goto (tgt := 23) hx hb d_C_read_19 (by decide) ?_
    exact ret _ _ _ _ _ _ d_C_read_23 ⟨_, rfl, rfl⟩ ⟨by rw [q_cr, if_neg c_5, e1], rfl⟩ Y
set_option maxHeartbeats 4000000 in
set_option maxRecDepth 100000 in
theorem c_C_grow {l : Launch} {D : va_G} {g : Nat → ClassId} {b n : Nat} {A : Nat → Prop} {f : Nat → va_E} {a q : Nat} {z : Nat → Int32} (x y w : Int32) (oa : fp_o b n f a (ob 1 [.ref q])) (o1 : fp_o b n f q (aI g 64 z))  (hA : fp_W b n A := by assumption) : fp_M l D (TY g) b n A y_C_grow (fp_ws y_C_grow b_C_grow 4 none) (rmD 2) [.ref a, .int x, .int y, .int w] f (fun v f' => v = none ∧ f' = va_up f q (aI g 64 (q_cg z x y w))) := by
  refine fp_ofV (plainFor_of_name (by decide)) (Nat.le_of_ble_eq_true rfl) ?_
  intro p e s m args below meth c Q ls H locs X Y hl ret
  have hx := X.1.1
  have hb := X.1.2.1
  have hl : lv_has ls 4 [(0, .ref a), (1, .int x), (2, .int y), (3, .int w)] := hl
  refine lv_iload_n hx hb d_C_grow_0 rfl (lv_at hl 1 rfl) ?_
  refine lv_iload_n hx hb d_C_grow_1 rfl (lv_at hl 2 rfl) ?_
  refine fp_callS (nA := 2) (As := [.int x, .int y]) (rest := []) X Y (c_C_isWord x y) w303 w301 w302 w3 (by decide +kernel) ⟨rfl, rfl⟩ ⟨Nat.le_of_ble_eq_true rfl, Nat.le_of_ble_eq_true rfl⟩ rfl hl.1 rfl (Nat.le_of_ble_eq_true rfl) d_C_grow_2 ⟨Nat.zero_le _, Nat.zero_le _⟩ (fun v9 f9 H locs hp9 Y => ?_)
  obtain ⟨e8, e9⟩ := hp9
  subst e8
  rw [e9] at Y
  refine W.eq (g2 := F0 m 5 ls [.int (q_isw x y)]) rfl ?_
  refine lv_if_eq (tgt := 23) hx hb d_C_grow_5 (by decide) (fun c_5 => ?_) (fun c_5 => ?_)
  · exact ret _ _ _ _ _ d_C_grow_23 ⟨rfl, by rw [q_cg, if_pos c_5]; exact (va_up_same o1.2.2).symm⟩ Y
  · obtain ⟨p0, r0, hp0, hr0, -, -, e0, e1⟩ := q_isw_of c_5
    refine lv_aload_n hx hb d_C_grow_8 rfl (lv_at hl 0 rfl) ?_
    refine fp_get X Y oa rfl in_C 0 (by decide) w50 rfl d_C_grow_9 ?_
    refine lv_iload_n hx hb d_C_grow_12 rfl (lv_at hl 1 rfl) ?_
    refine lv_bipush (v := 16) hx hb d_C_grow_13 (by decide) ?_
    refine lv_imul hx hb d_C_grow_15 ?_
    refine lv_iload_n hx hb d_C_grow_16 rfl (lv_at hl 2 rfl) ?_
    refine lv_iadd hx hb d_C_grow_17 ?_
    refine lv_dup2_11 hx hb d_C_grow_18 rfl rfl ?_
    refine fp_ild X Y o1 (p0 * 16 + r0) e0 (by omega) (by decide) d_C_grow_19 ?_
    refine lv_iload_n hx hb d_C_grow_20 rfl (lv_at hl 3 rfl) ?_
    refine lv_iadd hx hb d_C_grow_21 ?_
    refine fp_ist X Y o1 (p0 * 16 + r0) e0 (by omega) (by decide) d_C_grow_22 (fun H locs Y => ?_)
    have ne_1 : a ≠ q := (fp_o.nf oa o1 (by simp))
    have Y : fp_H D b n A (va_up f q (aI g 64 (upd z (p0 * 16 + r0) ((z (p0 * 16 + r0)) + w)))) s.heap H locs := Y
    have oa : fp_o b n (va_up f q (aI g 64 (upd z (p0 * 16 + r0) ((z (p0 * 16 + r0)) + w)))) a (ob 1 [.ref q]) := fp_o.ne oa ne_1
    have o1 : fp_o b n (va_up f q (aI g 64 (upd z (p0 * 16 + r0) ((z (p0 * 16 + r0)) + w)))) q (aI g 64 (upd z (p0 * 16 + r0) ((z (p0 * 16 + r0)) + w))) := fp_o.up o1
    exact ret _ _ _ _ _ d_C_grow_23 ⟨rfl, by rw [q_cg, if_neg c_5, e1]⟩ Y
set_option maxHeartbeats 4000000 in
set_option maxRecDepth 100000 in
theorem c_A_forget {l : Launch} {D : va_G} {g : Nat → ClassId} {b n : Nat} {A : Nat → Prop} {f : Nat → va_E} {a q : Nat} {k : Int32} (oa : fp_o b n f a (ob 0 [.ref q, .int k]))  (hA : fp_W b n A := by assumption) : fp_M l D (TY g) b n A y_A_forget (fp_ws y_A_forget b_A_forget 1 none) (rmD 0) [.ref a] f (fun v f' => v = none ∧ f' = va_up f a (ob 0 [.ref q, .int 0])) := by
  refine fp_ofV (plainFor_of_name (by decide)) (Nat.le_of_ble_eq_true rfl) ?_
  intro p e s m args below meth c Q ls H locs X Y hl ret
  have hx := X.1.1
  have hb := X.1.2.1
  have hl : lv_has ls 1 [(0, .ref a)] := hl
  refine lv_aload_n hx hb d_A_forget_0 rfl (lv_at hl 0 rfl) ?_
  refine lv_iconst (v := 0) hx hb d_A_forget_1 (by decide) ?_
  refine fp_put X Y oa rfl in_A to_A nm_A 1 (by decide) w112 rfl rfl rfl (Nat.le_of_ble_eq_true rfl) d_A_forget_2 (fun H locs Y => ?_)
  have Y : fp_H D b n A (va_up f a (ob 0 [.ref q, .int 0])) s.heap H locs := Y
  have oa : fp_o b n (va_up f a (ob 0 [.ref q, .int 0])) a (ob 0 [.ref q, .int 0]) := fp_o.up oa
  exact ret _ _ _ _ _ d_A_forget_5 ⟨rfl, rfl⟩ Y
set_option maxHeartbeats 4000000 in
set_option maxRecDepth 100000 in
theorem c_A_isFull {l : Launch} {D : va_G} {g : Nat → ClassId} {b n : Nat} {A : Nat → Prop} {f : Nat → va_E} {a q : Nat} {k : Int32} (oa : fp_o b n f a (ob 0 [.ref q, .int k]))  : fp_M l D (TY g) b n A y_A_isFull (fp_ws y_A_isFull b_A_isFull 1 (some FieldType.boolean)) (rmD 0) [.ref a] f (fun v f' => v = some (.int (q_full 4 k)) ∧ f' = f) := by
  refine fp_ofI (plainFor_of_name (by decide)) (Nat.le_of_ble_eq_true rfl) ?_
  intro p e s m args below meth c Q ls H locs X Y hl ret
  have hx := X.1.1
  have hb := X.1.2.1
  have hl : lv_has ls 1 [(0, .ref a)] := hl
  refine lv_aload_n hx hb d_A_isFull_0 rfl (lv_at hl 0 rfl) ?_
  refine fp_get X Y oa rfl in_A 1 (by decide) w112 rfl d_A_isFull_1 ?_
  refine lv_iconst (v := 4) hx hb d_A_isFull_4 (by decide) ?_
  refine lv_icmp_lt (tgt := 12) hx hb d_A_isFull_5 (by decide) (fun c_5 => ?_) (fun c_5 => ?_)
  · refine lv_iconst (v := 0) hx hb d_A_isFull_12 (by decide) ?_
    exact ret _ _ _ _ _ _ d_A_isFull_13 ⟨_, rfl, rfl⟩ ⟨by simp [q_full, c_5], rfl⟩ Y
  · refine lv_iconst (v := 1) hx hb d_A_isFull_8 (by decide) ?_
    refine lv_goto (tgt := 13) hx hb d_A_isFull_9 (by decide) ?_
    exact ret _ _ _ _ _ _ d_A_isFull_13 ⟨_, rfl, rfl⟩ ⟨by simp [q_full, c_5], rfl⟩ Y
set_option maxHeartbeats 4000000 in
set_option maxRecDepth 100000 in
theorem c_A_add {l : Launch} {D : va_G} {g : Nat → ClassId} {b n : Nat} {A : Nat → Prop} {f : Nat → va_E} {a q d : Nat} {zr : Nat → Option Nat} {k : Nat} {d1 d2 d3 d4 : Int32} (x1 x2 x3 x4 : Int32) (hk : k < 4) (hd : zr k = some d) (oa : fp_o b n f a (ob 0 [.ref q, .int (nI k)])) (oq : fp_o b n f q (aR g 2 4 zr)) (od : fp_o b n f d (ob 2 [.int d1, .int d2, .int d3, .int d4]))  (hA : fp_W b n A := by assumption) : fp_M l D (TY g) b n A y_A_add (fp_ws y_A_add b_A_add 6 none) (rmD 1) [.ref a, .int x1, .int x2, .int x3, .int x4] f (fun v f' => v = none ∧ f' = va_up (va_up f d (ob 2 [.int x1, .int x2, .int x3, .int x4])) a (ob 0 [.ref q, .int (nI (k + 1))])) := by
  refine fp_ofV (plainFor_of_name (by decide)) (Nat.le_of_ble_eq_true rfl) ?_
  intro p e s m args below meth c Q ls H locs X Y hl ret
  have hx := X.1.1
  have hb := X.1.2.1
  have hl : lv_has ls 6 [(0, .ref a), (1, .int x1), (2, .int x2), (3, .int x3), (4, .int x4)] := hl
  refine lv_aload_n hx hb d_A_add_0 rfl (lv_at hl 0 rfl) ?_
  refine fp_callV (nA := 0) (As := []) (rest := []) X Y (c_A_isFull oa) oa rfl w478 w484 w476 w477 w5 (by decide +kernel) ⟨rfl, rfl⟩ ⟨Nat.le_of_ble_eq_true rfl, Nat.le_of_ble_eq_true rfl⟩ rfl hl.1 rfl (Nat.le_of_ble_eq_true rfl) d_A_add_1 ⟨Nat.zero_le _, Nat.zero_le _⟩ (fun v9 f9 H locs hp9 Y => ?_)
  obtain ⟨e8, e9⟩ := hp9
  subst e8
  rw [e9] at Y
  refine W.eq (g2 := F0 m 4 ls [.int (q_full 4 (nI k))]) rfl ?_
  refine lv_if_eq (tgt := 8) hx hb d_A_add_4 (by decide) (fun c_4 => ?_) (fun c_4 => absurd (q_full_lt hk (by decide)) c_4)
  refine lv_aload_n hx hb d_A_add_8 rfl (lv_at hl 0 rfl) ?_
  refine fp_get X Y oa rfl in_A 0 (by decide) w110 rfl d_A_add_9 ?_
  refine lv_aload_n hx hb d_A_add_12 rfl (lv_at hl 0 rfl) ?_
  refine fp_get X Y oa rfl in_A 1 (by decide) w112 rfl d_A_add_13 ?_
  refine fp_ald 2 rfl X Y oq k rfl hk (by decide) hd d_A_add_16 ?_
  refine lv_astore (lv' := [(5, .ref d), (0, .ref a), (1, .int x1), (2, .int x2), (3, .int x3), (4, .int x4)]) hx hb d_A_add_17 hl (by decide) rfl (fun ls hl => ?_)
  refine lv_aload hx hb d_A_add_19 (lv_at hl 0 rfl) ?_
  refine lv_iload_n hx hb d_A_add_21 rfl (lv_at hl 2 rfl) ?_
  refine fp_putN X Y od rfl in_D to_D nm_D 0 (by decide) nw93 rfl rfl rfl (Nat.le_of_ble_eq_true rfl) d_A_add_22 (fun H locs Y => ?_)
  have ne_1 : a ≠ d := (fp_o.nf oa od (by simp))
  have ne_2 : q ≠ d := (fp_o.nf oq od (by simp))
  have Y : fp_H D b n A (va_up f d (ob 2 [.int x1, .int d2, .int d3, .int d4])) s.heap H locs := Y
  have oa : fp_o b n (va_up f d (ob 2 [.int x1, .int d2, .int d3, .int d4])) a (ob 0 [.ref q, .int (nI k)]) := fp_o.ne oa ne_1
  have oq : fp_o b n (va_up f d (ob 2 [.int x1, .int d2, .int d3, .int d4])) q (aR g 2 4 zr) := fp_o.ne oq ne_2
  have od : fp_o b n (va_up f d (ob 2 [.int x1, .int d2, .int d3, .int d4])) d (ob 2 [.int x1, .int d2, .int d3, .int d4]) := fp_o.up od
  refine lv_aload hx hb d_A_add_25 (lv_at hl 0 rfl) ?_
  refine lv_iload_n hx hb d_A_add_27 rfl (lv_at hl 3 rfl) ?_
  refine fp_putN X Y od rfl in_D to_D nm_D 1 (by decide) nw95 rfl rfl rfl (Nat.le_of_ble_eq_true rfl) d_A_add_28 (fun H locs Y => ?_)
  have ne_3 : a ≠ d := (fp_o.nf oa od (by simp))
  have ne_4 : q ≠ d := (fp_o.nf oq od (by simp))
  have Y := Y.re
  have Y : fp_H D b n A (va_up f d (ob 2 [.int x1, .int x2, .int d3, .int d4])) s.heap H locs := Y
  have oa : fp_o b n (va_up f d (ob 2 [.int x1, .int x2, .int d3, .int d4])) a (ob 0 [.ref q, .int (nI k)]) := fp_o.re oa ne_3
  have oq : fp_o b n (va_up f d (ob 2 [.int x1, .int x2, .int d3, .int d4])) q (aR g 2 4 zr) := fp_o.re oq ne_4
  have od : fp_o b n (va_up f d (ob 2 [.int x1, .int x2, .int d3, .int d4])) d (ob 2 [.int x1, .int x2, .int d3, .int d4]) := fp_o.rs od
  refine lv_aload hx hb d_A_add_31 (lv_at hl 0 rfl) ?_
  refine lv_iload_n hx hb d_A_add_33 rfl (lv_at hl 4 rfl) ?_
  refine fp_putN X Y od rfl in_D to_D nm_D 2 (by decide) nw97 rfl rfl rfl (Nat.le_of_ble_eq_true rfl) d_A_add_34 (fun H locs Y => ?_)
  have ne_5 : a ≠ d := (fp_o.nf oa od (by simp))
  have ne_6 : q ≠ d := (fp_o.nf oq od (by simp))
  have Y := Y.re
  have Y : fp_H D b n A (va_up f d (ob 2 [.int x1, .int x2, .int x3, .int d4])) s.heap H locs := Y
  have oa : fp_o b n (va_up f d (ob 2 [.int x1, .int x2, .int x3, .int d4])) a (ob 0 [.ref q, .int (nI k)]) := fp_o.re oa ne_5
  have oq : fp_o b n (va_up f d (ob 2 [.int x1, .int x2, .int x3, .int d4])) q (aR g 2 4 zr) := fp_o.re oq ne_6
  have od : fp_o b n (va_up f d (ob 2 [.int x1, .int x2, .int x3, .int d4])) d (ob 2 [.int x1, .int x2, .int x3, .int d4]) := fp_o.rs od
  refine lv_aload hx hb d_A_add_37 (lv_at hl 0 rfl) ?_
  refine lv_iload hx hb d_A_add_39 (lv_at hl 5 rfl) ?_
  refine fp_putN X Y od rfl in_D to_D nm_D 3 (by decide) nw99 rfl rfl rfl (Nat.le_of_ble_eq_true rfl) d_A_add_41 (fun H locs Y => ?_)
  have ne_7 : a ≠ d := (fp_o.nf oa od (by simp))
  have ne_8 : q ≠ d := (fp_o.nf oq od (by simp))
  have Y := Y.re
  have Y : fp_H D b n A (va_up f d (ob 2 [.int x1, .int x2, .int x3, .int x4])) s.heap H locs := Y
  have oa : fp_o b n (va_up f d (ob 2 [.int x1, .int x2, .int x3, .int x4])) a (ob 0 [.ref q, .int (nI k)]) := fp_o.re oa ne_7
  have oq : fp_o b n (va_up f d (ob 2 [.int x1, .int x2, .int x3, .int x4])) q (aR g 2 4 zr) := fp_o.re oq ne_8
  have od : fp_o b n (va_up f d (ob 2 [.int x1, .int x2, .int x3, .int x4])) d (ob 2 [.int x1, .int x2, .int x3, .int x4]) := fp_o.rs od
  refine lv_aload_n hx hb d_A_add_44 rfl (lv_at hl 1 rfl) ?_
  refine lv_dup hx hb d_A_add_45 rfl ?_
  refine fp_get X Y oa rfl in_A 1 (by decide) w112 rfl d_A_add_46 ?_
  refine lv_iconst (v := 1) hx hb d_A_add_49 (by decide) ?_
  refine lv_iadd hx hb d_A_add_50 ?_
  refine fp_put X Y oa rfl in_A to_A nm_A 1 (by decide) w112 rfl rfl rfl (Nat.le_of_ble_eq_true rfl) d_A_add_51 (fun H locs Y => ?_)
  have ne_9 : q ≠ a := (fp_o.nf oq oa (by simp))
  have ne_10 : d ≠ a := (fp_o.nf od oa (by simp))
  have Y : fp_H D b n A (va_up (va_up f d (ob 2 [.int x1, .int x2, .int x3, .int x4])) a (ob 0 [.ref q, .int ((nI k) + 1)])) s.heap H locs := Y
  have oq : fp_o b n (va_up (va_up f d (ob 2 [.int x1, .int x2, .int x3, .int x4])) a (ob 0 [.ref q, .int ((nI k) + 1)])) q (aR g 2 4 zr) := fp_o.ne oq ne_9
  have od : fp_o b n (va_up (va_up f d (ob 2 [.int x1, .int x2, .int x3, .int x4])) a (ob 0 [.ref q, .int ((nI k) + 1)])) d (ob 2 [.int x1, .int x2, .int x3, .int x4]) := fp_o.ne od ne_10
  have oa : fp_o b n (va_up (va_up f d (ob 2 [.int x1, .int x2, .int x3, .int x4])) a (ob 0 [.ref q, .int ((nI k) + 1)])) a (ob 0 [.ref q, .int ((nI k) + 1)]) := fp_o.up oa
  exact ret _ _ _ _ _ d_A_add_54 ⟨rfl, by rw [← nI_1]⟩ Y
set_option maxHeartbeats 4000000 in
set_option maxRecDepth 100000 in
theorem c_JM_floorMod {l : Launch} {D : va_G} {g : Nat → ClassId} {b n : Nat} {A : Nat → Prop} {f : Nat → va_E} (x : Int32)   : fp_M l D (TY g) b n A y_JM_floorMod (fp_ws y_JM_floorMod b_JM_floorMod 3 (some FieldType.int)) (rmD 0) [.int x, .int 16] f (fun v f' => v = some (.int (if (x ^^^ 16) < 0 ∧ ¬ x - x / 16 * 16 = 0 then x - x / 16 * 16 + 16 else x - x / 16 * 16)) ∧ f' = f) := by
  refine fp_ofI (by decide +kernel) (Nat.le_of_ble_eq_true rfl) ?_
  intro p e s m args below meth c Q ls H locs X Y hl ret
  have hx := X.1.1
  have hb := X.1.2.1
  have hl : lv_has ls 3 [(0, .int x), (1, .int 16)] := hl
  refine lv_iload_n hx hb d_JM_floorMod_0 rfl (lv_at hl 0 rfl) ?_
  refine lv_iload_n hx hb d_JM_floorMod_1 rfl (lv_at hl 1 rfl) ?_
  refine lv_irem hx hb d_JM_floorMod_2 (by decide) ?_
  refine lv_istore_n (lv' := [(2, .int (x - x / 16 * 16)), (0, .int x), (1, .int 16)]) hx hb d_JM_floorMod_3 rfl hl (by decide) rfl (fun ls hl => ?_)
  refine lv_iload_n hx hb d_JM_floorMod_4 rfl (lv_at hl 1 rfl) ?_
  refine lv_iload_n hx hb d_JM_floorMod_5 rfl (lv_at hl 2 rfl) ?_
  refine lv_ixor hx hb d_JM_floorMod_6 ?_
  refine lv_if_ge (tgt := 18) hx hb d_JM_floorMod_7 (by decide) (fun c_7 => ?_) (fun c_7 => ?_)
  · refine lv_iload_n hx hb d_JM_floorMod_18 rfl (lv_at hl 0 rfl) ?_
    exact ret _ _ _ _ _ _ d_JM_floorMod_19 ⟨_, rfl, rfl⟩ ⟨by have h9 : ¬ (x ^^^ 16) < 0 := Int32.not_lt.mpr c_7; simp [h9], rfl⟩ Y
  · refine lv_iload_n hx hb d_JM_floorMod_10 rfl (lv_at hl 0 rfl) ?_
    refine lv_if_eq (tgt := 18) hx hb d_JM_floorMod_11 (by decide) (fun c_11 => ?_) (fun c_11 => ?_)
    · refine lv_iload_n hx hb d_JM_floorMod_18 rfl (lv_at hl 0 rfl) ?_
      exact ret _ _ _ _ _ _ d_JM_floorMod_19 ⟨_, rfl, rfl⟩ ⟨by have h9 : (x ^^^ 16) < 0 := Int32.not_le.mp c_7; simp [h9, c_11], rfl⟩ Y
    · refine lv_iload_n hx hb d_JM_floorMod_14 rfl (lv_at hl 0 rfl) ?_
      refine lv_iload_n hx hb d_JM_floorMod_15 rfl (lv_at hl 2 rfl) ?_
      refine lv_iadd hx hb d_JM_floorMod_16 ?_
      exact ret _ _ _ _ _ _ d_JM_floorMod_17 ⟨_, rfl, rfl⟩ ⟨by have h9 : (x ^^^ 16) < 0 := Int32.not_le.mp c_7; simp [h9, c_11], rfl⟩ Y
/-- Integer.bitCount, as the JDK has it -/
def q_b1 (x : Int32) : Int32 := x - ((x.toUInt32 >>> ((1 : Int32).toUInt32 &&& Int32.toUInt32 31)).toInt32 &&& 1431655765)
def q_b2 (x : Int32) : Int32 := (x &&& 858993459) + ((x.toUInt32 >>> ((2 : Int32).toUInt32 &&& Int32.toUInt32 31)).toInt32 &&& 858993459)
def q_b3 (x : Int32) : Int32 := (x + (x.toUInt32 >>> ((4 : Int32).toUInt32 &&& Int32.toUInt32 31)).toInt32) &&& 252645135
def q_b4 (x : Int32) : Int32 := x + (x.toUInt32 >>> ((8 : Int32).toUInt32 &&& Int32.toUInt32 31)).toInt32
def q_b5 (x : Int32) : Int32 := x + (x.toUInt32 >>> ((16 : Int32).toUInt32 &&& Int32.toUInt32 31)).toInt32
def q_bc (x : Int32) : Int32 := q_b5 (q_b4 (q_b3 (q_b2 (q_b1 x)))) &&& 63
set_option maxHeartbeats 4000000 in
set_option maxRecDepth 100000 in
theorem c_JI_bitCount {l : Launch} {D : va_G} {g : Nat → ClassId} {b n : Nat} {A : Nat → Prop} {f : Nat → va_E} (x : Int32)   : fp_M l D (TY g) b n A y_JI_bitCount (fp_ws y_JI_bitCount b_JI_bitCount 1 (some FieldType.int)) (rmD 0) [.int x] f (fun v f' => v = some (.int (q_bc x)) ∧ f' = f) := by
  refine fp_ofI (by decide +kernel) (Nat.le_of_ble_eq_true rfl) ?_
  intro p e s m args below meth c Q ls H locs X Y hl ret
  have hx := X.1.1
  have hb := X.1.2.1
  have hl : lv_has ls 1 [(0, .int x)] := hl
  refine lv_iload_n hx hb d_JI_bitCount_0 rfl (lv_at hl 0 rfl) ?_
  refine lv_iload_n hx hb d_JI_bitCount_1 rfl (lv_at hl 0 rfl) ?_
  refine lv_iconst (v := 1) hx hb d_JI_bitCount_2 (by decide) ?_
  refine lv_iushr hx hb d_JI_bitCount_3 rfl ?_
  refine lv_ldcw (v := 1431655765) hx hb X.1.2.2.2.1 (X.1.2.2.2.2 _ w282) d_JI_bitCount_4 ?_
  refine lv_iand hx hb d_JI_bitCount_7 ?_
  refine lv_isub hx hb d_JI_bitCount_8 ?_
  refine lv_topi (fun y9 ey9 => ?_)
  refine lv_istore_n (lv' := [(0, .int y9)]) hx hb d_JI_bitCount_9 rfl hl (by decide) rfl (fun ls hl => ?_)
  refine lv_iload_n hx hb d_JI_bitCount_10 rfl (lv_at hl 0 rfl) ?_
  refine lv_ldcw (v := 858993459) hx hb X.1.2.2.2.1 (X.1.2.2.2.2 _ w283) d_JI_bitCount_11 ?_
  refine lv_iand hx hb d_JI_bitCount_14 ?_
  refine lv_iload_n hx hb d_JI_bitCount_15 rfl (lv_at hl 0 rfl) ?_
  refine lv_iconst (v := 2) hx hb d_JI_bitCount_16 (by decide) ?_
  refine lv_iushr hx hb d_JI_bitCount_17 rfl ?_
  refine lv_ldcw (v := 858993459) hx hb X.1.2.2.2.1 (X.1.2.2.2.2 _ w283) d_JI_bitCount_18 ?_
  refine lv_iand hx hb d_JI_bitCount_21 ?_
  refine lv_iadd hx hb d_JI_bitCount_22 ?_
  refine lv_topi (fun y23 ey23 => ?_)
  refine lv_istore_n (lv' := [(0, .int y23)]) hx hb d_JI_bitCount_23 rfl hl (by decide) rfl (fun ls hl => ?_)
  refine lv_iload_n hx hb d_JI_bitCount_24 rfl (lv_at hl 0 rfl) ?_
  refine lv_iload_n hx hb d_JI_bitCount_25 rfl (lv_at hl 0 rfl) ?_
  refine lv_iconst (v := 4) hx hb d_JI_bitCount_26 (by decide) ?_
  refine lv_iushr hx hb d_JI_bitCount_27 rfl ?_
  refine lv_iadd hx hb d_JI_bitCount_28 ?_
  refine lv_ldcw (v := 252645135) hx hb X.1.2.2.2.1 (X.1.2.2.2.2 _ w284) d_JI_bitCount_29 ?_
  refine lv_iand hx hb d_JI_bitCount_32 ?_
  refine lv_topi (fun y33 ey33 => ?_)
  refine lv_istore_n (lv' := [(0, .int y33)]) hx hb d_JI_bitCount_33 rfl hl (by decide) rfl (fun ls hl => ?_)
  refine lv_iload_n hx hb d_JI_bitCount_34 rfl (lv_at hl 0 rfl) ?_
  refine lv_iload_n hx hb d_JI_bitCount_35 rfl (lv_at hl 0 rfl) ?_
  refine lv_bipush (v := 8) hx hb d_JI_bitCount_36 (by decide) ?_
  refine lv_iushr hx hb d_JI_bitCount_38 rfl ?_
  refine lv_iadd hx hb d_JI_bitCount_39 ?_
  refine lv_topi (fun y40 ey40 => ?_)
  refine lv_istore_n (lv' := [(0, .int y40)]) hx hb d_JI_bitCount_40 rfl hl (by decide) rfl (fun ls hl => ?_)
  refine lv_iload_n hx hb d_JI_bitCount_41 rfl (lv_at hl 0 rfl) ?_
  refine lv_iload_n hx hb d_JI_bitCount_42 rfl (lv_at hl 0 rfl) ?_
  refine lv_bipush (v := 16) hx hb d_JI_bitCount_43 (by decide) ?_
  refine lv_iushr hx hb d_JI_bitCount_45 rfl ?_
  refine lv_iadd hx hb d_JI_bitCount_46 ?_
  refine lv_topi (fun y47 ey47 => ?_)
  refine lv_istore_n (lv' := [(0, .int y47)]) hx hb d_JI_bitCount_47 rfl hl (by decide) rfl (fun ls hl => ?_)
  refine lv_iload_n hx hb d_JI_bitCount_48 rfl (lv_at hl 0 rfl) ?_
  refine lv_bipush (v := 63) hx hb d_JI_bitCount_49 (by decide) ?_
  refine lv_iand hx hb d_JI_bitCount_51 ?_
  exact ret _ _ _ _ _ _ d_JI_bitCount_52 ⟨_, rfl, rfl⟩ ⟨by rw [ey47, ey40, ey33, ey23, ey9]; rfl, rfl⟩ Y
