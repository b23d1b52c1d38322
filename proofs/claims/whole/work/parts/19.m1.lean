/-! Contracts: the reference, what has no loop (by wip/gen/k9.py). Its object lies at mo, its arrays at mo + 1 .. mo + 14. -/
/-- the reference's test of a number against a count -/
def q_nt (x k : Int32) : Int32 := if x < 0 then 1 else if x < k then 0 else 1
theorem q_nt_0 {x k : Int32} (h : ¬ q_in x k = 0) : q_nt x k = 0 := by
  unfold q_in at h
  have h1 : ¬ (x < 0 ∨ k ≤ x) := fun q => h (by rw [if_pos q])
  have h2 : ¬ x < 0 := fun q => h1 (Or.inl q)
  have h3 : x < k := Int32.not_le.mp (fun q => h1 (Or.inr q))
  simp [q_nt, h2, h3]
theorem q_nt_1 {x k : Int32} (h : q_in x k = 0) : ¬ q_nt x k = 0 := by
  unfold q_nt
  by_cases h1 : x < 0
  · simp [h1]
  · by_cases h2 : x < k
    · exact absurd h (by have h3 : ¬ k ≤ x := Int32.not_le.mpr h2; simp [q_in, h1, h3])
    · simp [h1, h2]
def q_ones (w : Int32) : Int32 := if w = 32 then -1 else ((1 : Int32) <<< (w &&& 31)) - 1
theorem q_in_ne {j k : Nat} (h : j < k) (hk : k < 2 ^ 31) : ¬ q_in (nI j) (nI k) = 0 := by rw [q_in_lt h hk]; decide
theorem nI_p1 (k : Nat) : nI k + 1 - 1 = nI k := by rw [nI_1, nI_pred]
set_option maxHeartbeats 4000000 in
set_option maxRecDepth 100000 in
theorem c_M_not {l : Launch} {D : va_G} {g : Nat → ClassId} {b n : Nat} {A : Nat → Prop} {f : Nat → va_E} (x y : Int32)   : fp_M l D (TY g) b n A y_M_not (fp_ws y_M_not b_M_not 2 (some FieldType.boolean)) (rmD 0) [.int x, .int y] f (fun v f' => v = some (.int (q_nt x y)) ∧ f' = f) := by
  refine fp_ofI (plainFor_of_name (by decide)) (Nat.le_of_ble_eq_true rfl) ?_
  intro p e s m args below meth c Q ls H locs X Y hl ret
  have hx := X.1.1
  have hb := X.1.2.1
  have hl : lv_has ls 2 [(0, .int x), (1, .int y)] := hl
  refine lv_iload_n hx hb d_M_not_0 rfl (lv_at hl 0 rfl) ?_
  refine lv_if_lt (tgt := 9) hx hb d_M_not_1 (by decide) (fun c_1 => ?_) (fun c_1 => ?_)
  · refine lv_iconst (v := 1) hx hb d_M_not_9 (by decide) ?_
    refine lv_goto (tgt := 14) hx hb d_M_not_10 (by decide) ?_
    exact ret _ _ _ _ _ _ d_M_not_14 ⟨_, rfl, rfl⟩ ⟨by simp [q_nt, c_1], rfl⟩ Y
  · refine lv_iload_n hx hb d_M_not_4 rfl (lv_at hl 0 rfl) ?_
    refine lv_iload_n hx hb d_M_not_5 rfl (lv_at hl 1 rfl) ?_
    refine lv_icmp_lt (tgt := 13) hx hb d_M_not_6 (by decide) (fun c_6 => ?_) (fun c_6 => ?_)
    · refine lv_iconst (v := 0) hx hb d_M_not_13 (by decide) ?_
      exact ret _ _ _ _ _ _ d_M_not_14 ⟨_, rfl, rfl⟩ ⟨by simp [q_nt, c_1, c_6], rfl⟩ Y
    · refine lv_iconst (v := 1) hx hb d_M_not_9 (by decide) ?_
      refine lv_goto (tgt := 14) hx hb d_M_not_10 (by decide) ?_
      exact ret _ _ _ _ _ _ d_M_not_14 ⟨_, rfl, rfl⟩ ⟨by simp [q_nt, c_1, c_6], rfl⟩ Y
set_option maxHeartbeats 4000000 in
set_option maxRecDepth 100000 in
theorem c_M_thrown {l : Launch} {D : va_G} {g : Nat → ClassId} {b n : Nat} {A : Nat → Prop} {f : Nat → va_E} {mo : Nat} {th nf na nt po dr : Int32} (om : fp_o b n f mo (ob 8 [.int th, .int nf, .ref (mo + 1), .ref (mo + 2), .int na, .ref (mo + 3), .ref (mo + 4), .ref (mo + 5), .int nt, .ref (mo + 6), .ref (mo + 7), .ref (mo + 8), .ref (mo + 9), .ref (mo + 10), .ref (mo + 11), .ref (mo + 12), .ref (mo + 13), .ref (mo + 14), .int po, .int dr]))  : fp_M l D (TY g) b n A y_M_thrown (fp_ws y_M_thrown b_M_thrown 1 (some FieldType.int)) (rmD 0) [.ref mo] f (fun v f' => v = some (.int th) ∧ f' = f) := by
  refine fp_ofI (plainFor_of_name (by decide)) (Nat.le_of_ble_eq_true rfl) ?_
  intro p e s m args below meth c Q ls H locs X Y hl ret
  have hx := X.1.1
  have hb := X.1.2.1
  have hl : lv_has ls 1 [(0, .ref mo)] := hl
  refine lv_aload_n hx hb d_M_thrown_0 rfl (lv_at hl 0 rfl) ?_
  refine fp_get X Y om rfl in_M 0 (by decide) w601 rfl d_M_thrown_1 ?_
  exact ret _ _ _ _ _ _ d_M_thrown_4 ⟨_, rfl, rfl⟩ ⟨rfl, rfl⟩ Y
set_option maxHeartbeats 4000000 in
set_option maxRecDepth 100000 in
theorem c_M_port {l : Launch} {D : va_G} {g : Nat → ClassId} {b n : Nat} {A : Nat → Prop} {f : Nat → va_E} {mo : Nat} {th nf na nt po dr : Int32} (om : fp_o b n f mo (ob 8 [.int th, .int nf, .ref (mo + 1), .ref (mo + 2), .int na, .ref (mo + 3), .ref (mo + 4), .ref (mo + 5), .int nt, .ref (mo + 6), .ref (mo + 7), .ref (mo + 8), .ref (mo + 9), .ref (mo + 10), .ref (mo + 11), .ref (mo + 12), .ref (mo + 13), .ref (mo + 14), .int po, .int dr]))  (hA : fp_W b n A := by assumption) : fp_M l D (TY g) b n A y_M_port (fp_ws y_M_port b_M_port 1 (some FieldType.int)) (rmD 0) [.ref mo] f (fun v f' => v = some (.int po) ∧ f' = va_up f mo (ob 8 [.int 0, .int nf, .ref (mo + 1), .ref (mo + 2), .int na, .ref (mo + 3), .ref (mo + 4), .ref (mo + 5), .int nt, .ref (mo + 6), .ref (mo + 7), .ref (mo + 8), .ref (mo + 9), .ref (mo + 10), .ref (mo + 11), .ref (mo + 12), .ref (mo + 13), .ref (mo + 14), .int po, .int dr])) := by
  refine fp_ofI (plainFor_of_name (by decide)) (Nat.le_of_ble_eq_true rfl) ?_
  intro p e s m args below meth c Q ls H locs X Y hl ret
  have hx := X.1.1
  have hb := X.1.2.1
  have hl : lv_has ls 1 [(0, .ref mo)] := hl
  refine lv_aload_n hx hb d_M_port_0 rfl (lv_at hl 0 rfl) ?_
  refine lv_iconst (v := 0) hx hb d_M_port_1 (by decide) ?_
  refine fp_put X Y om rfl in_M to_M nm_M 0 (by decide) w601 rfl rfl rfl (Nat.le_of_ble_eq_true rfl) d_M_port_2 (fun H locs Y => ?_)
  have Y : fp_H D b n A (va_up f mo (ob 8 [.int 0, .int nf, .ref (mo + 1), .ref (mo + 2), .int na, .ref (mo + 3), .ref (mo + 4), .ref (mo + 5), .int nt, .ref (mo + 6), .ref (mo + 7), .ref (mo + 8), .ref (mo + 9), .ref (mo + 10), .ref (mo + 11), .ref (mo + 12), .ref (mo + 13), .ref (mo + 14), .int po, .int dr])) s.heap H locs := Y
  have om : fp_o b n (va_up f mo (ob 8 [.int 0, .int nf, .ref (mo + 1), .ref (mo + 2), .int na, .ref (mo + 3), .ref (mo + 4), .ref (mo + 5), .int nt, .ref (mo + 6), .ref (mo + 7), .ref (mo + 8), .ref (mo + 9), .ref (mo + 10), .ref (mo + 11), .ref (mo + 12), .ref (mo + 13), .ref (mo + 14), .int po, .int dr])) mo (ob 8 [.int 0, .int nf, .ref (mo + 1), .ref (mo + 2), .int na, .ref (mo + 3), .ref (mo + 4), .ref (mo + 5), .int nt, .ref (mo + 6), .ref (mo + 7), .ref (mo + 8), .ref (mo + 9), .ref (mo + 10), .ref (mo + 11), .ref (mo + 12), .ref (mo + 13), .ref (mo + 14), .int po, .int dr]) := fp_o.up om
  refine lv_aload_n hx hb d_M_port_5 rfl (lv_at hl 0 rfl) ?_
  refine fp_get X Y om rfl in_M 18 (by decide) w619 rfl d_M_port_6 ?_
  exact ret _ _ _ _ _ _ d_M_port_9 ⟨_, rfl, rfl⟩ ⟨rfl, rfl⟩ Y
set_option maxHeartbeats 4000000 in
set_option maxRecDepth 100000 in
theorem c_M_isDropped {l : Launch} {D : va_G} {g : Nat → ClassId} {b n : Nat} {A : Nat → Prop} {f : Nat → va_E} {mo : Nat} {th nf na nt po dr : Int32} (hdr : dr = 0 ∨ dr = 1) (om : fp_o b n f mo (ob 8 [.int th, .int nf, .ref (mo + 1), .ref (mo + 2), .int na, .ref (mo + 3), .ref (mo + 4), .ref (mo + 5), .int nt, .ref (mo + 6), .ref (mo + 7), .ref (mo + 8), .ref (mo + 9), .ref (mo + 10), .ref (mo + 11), .ref (mo + 12), .ref (mo + 13), .ref (mo + 14), .int po, .int dr]))  (hA : fp_W b n A := by assumption) : fp_M l D (TY g) b n A y_M_isDropped (fp_ws y_M_isDropped b_M_isDropped 1 (some FieldType.boolean)) (rmD 0) [.ref mo] f (fun v f' => v = some (.int dr) ∧ f' = va_up f mo (ob 8 [.int 0, .int nf, .ref (mo + 1), .ref (mo + 2), .int na, .ref (mo + 3), .ref (mo + 4), .ref (mo + 5), .int nt, .ref (mo + 6), .ref (mo + 7), .ref (mo + 8), .ref (mo + 9), .ref (mo + 10), .ref (mo + 11), .ref (mo + 12), .ref (mo + 13), .ref (mo + 14), .int po, .int dr])) := by
  refine fp_ofI (plainFor_of_name (by decide)) (Nat.le_of_ble_eq_true rfl) ?_
  intro p e s m args below meth c Q ls H locs X Y hl ret
  have hx := X.1.1
  have hb := X.1.2.1
  have hl : lv_has ls 1 [(0, .ref mo)] := hl
  refine lv_aload_n hx hb d_M_isDropped_0 rfl (lv_at hl 0 rfl) ?_
  refine lv_iconst (v := 0) hx hb d_M_isDropped_1 (by decide) ?_
  refine fp_put X Y om rfl in_M to_M nm_M 0 (by decide) w601 rfl rfl rfl (Nat.le_of_ble_eq_true rfl) d_M_isDropped_2 (fun H locs Y => ?_)
  have Y : fp_H D b n A (va_up f mo (ob 8 [.int 0, .int nf, .ref (mo + 1), .ref (mo + 2), .int na, .ref (mo + 3), .ref (mo + 4), .ref (mo + 5), .int nt, .ref (mo + 6), .ref (mo + 7), .ref (mo + 8), .ref (mo + 9), .ref (mo + 10), .ref (mo + 11), .ref (mo + 12), .ref (mo + 13), .ref (mo + 14), .int po, .int dr])) s.heap H locs := Y
  have om : fp_o b n (va_up f mo (ob 8 [.int 0, .int nf, .ref (mo + 1), .ref (mo + 2), .int na, .ref (mo + 3), .ref (mo + 4), .ref (mo + 5), .int nt, .ref (mo + 6), .ref (mo + 7), .ref (mo + 8), .ref (mo + 9), .ref (mo + 10), .ref (mo + 11), .ref (mo + 12), .ref (mo + 13), .ref (mo + 14), .int po, .int dr])) mo (ob 8 [.int 0, .int nf, .ref (mo + 1), .ref (mo + 2), .int na, .ref (mo + 3), .ref (mo + 4), .ref (mo + 5), .int nt, .ref (mo + 6), .ref (mo + 7), .ref (mo + 8), .ref (mo + 9), .ref (mo + 10), .ref (mo + 11), .ref (mo + 12), .ref (mo + 13), .ref (mo + 14), .int po, .int dr]) := fp_o.up om
  refine lv_aload_n hx hb d_M_isDropped_5 rfl (lv_at hl 0 rfl) ?_
  refine fp_get X Y om rfl in_M 19 (by decide) w620 rfl d_M_isDropped_6 ?_
  exact ret _ _ _ _ _ _ d_M_isDropped_9 ⟨_, rfl, (by rcases hdr with h | h <;> subst h <;> rfl)⟩ ⟨rfl, rfl⟩ Y
set_option maxHeartbeats 4000000 in
set_option maxRecDepth 100000 in
theorem c_M_ones {l : Launch} {D : va_G} {g : Nat → ClassId} {b n : Nat} {A : Nat → Prop} {f : Nat → va_E} {mo : Nat} {th nf na nt po dr : Int32} {zw : Nat → Int32} {j : Nat} (hj : j < 16) (om : fp_o b n f mo (ob 8 [.int th, .int nf, .ref (mo + 1), .ref (mo + 2), .int na, .ref (mo + 3), .ref (mo + 4), .ref (mo + 5), .int nt, .ref (mo + 6), .ref (mo + 7), .ref (mo + 8), .ref (mo + 9), .ref (mo + 10), .ref (mo + 11), .ref (mo + 12), .ref (mo + 13), .ref (mo + 14), .int po, .int dr])) (o_width : fp_o b n f (mo + 1) (aI g 16 zw))  : fp_M l D (TY g) b n A y_M_ones (fp_ws y_M_ones b_M_ones 2 (some FieldType.int)) (rmD 0) [.ref mo, .int (nI j)] f (fun v f' => v = some (.int (q_ones (zw j))) ∧ f' = f) := by
  refine fp_ofI (plainFor_of_name (by decide)) (Nat.le_of_ble_eq_true rfl) ?_
  intro p e s m args below meth c Q ls H locs X Y hl ret
  have hx := X.1.1
  have hb := X.1.2.1
  have hl : lv_has ls 2 [(0, .ref mo), (1, .int (nI j))] := hl
  refine lv_aload_n hx hb d_M_ones_0 rfl (lv_at hl 0 rfl) ?_
  refine fp_get X Y om rfl in_M 2 (by decide) w603 rfl d_M_ones_1 ?_
  refine lv_iload_n hx hb d_M_ones_4 rfl (lv_at hl 1 rfl) ?_
  refine fp_ild X Y o_width j rfl (by omega) (by decide) d_M_ones_5 ?_
  refine lv_bipush (v := 32) hx hb d_M_ones_6 (by decide) ?_
  refine lv_icmp_ne (tgt := 15) hx hb d_M_ones_8 (by decide) (fun c_8 => ?_) (fun c_8 => ?_)
  · refine lv_iconst (v := 1) hx hb d_M_ones_15 (by decide) ?_
    refine lv_aload_n hx hb d_M_ones_16 rfl (lv_at hl 0 rfl) ?_
    refine fp_get X Y om rfl in_M 2 (by decide) w603 rfl d_M_ones_17 ?_
    refine lv_iload_n hx hb d_M_ones_20 rfl (lv_at hl 1 rfl) ?_
    refine fp_ild X Y o_width j rfl (by omega) (by decide) d_M_ones_21 ?_
    refine lv_ishl hx hb d_M_ones_22 ?_
    refine lv_iconst (v := 1) hx hb d_M_ones_23 (by decide) ?_
    refine lv_isub hx hb d_M_ones_24 ?_
    exact ret _ _ _ _ _ _ d_M_ones_25 ⟨_, rfl, rfl⟩ ⟨by simp [q_ones, c_8], rfl⟩ Y
  · refine lv_iconst (v := -1) hx hb d_M_ones_11 (by decide) ?_
    refine lv_goto (tgt := 25) hx hb d_M_ones_12 (by decide) ?_
    exact ret _ _ _ _ _ _ d_M_ones_25 ⟨_, rfl, rfl⟩ ⟨by simp [q_ones, c_8], rfl⟩ Y
set_option maxHeartbeats 4000000 in
set_option maxRecDepth 100000 in
theorem c_M_hold {l : Launch} {D : va_G} {g : Nat → ClassId} {b n : Nat} {A : Nat → Prop} {f : Nat → va_E} {mo : Nat} {th nf na nt po dr : Int32} {zw zh : Nat → Int32} {j : Nat} (x : Int32) (hj : j < 16) (om : fp_o b n f mo (ob 8 [.int th, .int nf, .ref (mo + 1), .ref (mo + 2), .int na, .ref (mo + 3), .ref (mo + 4), .ref (mo + 5), .int nt, .ref (mo + 6), .ref (mo + 7), .ref (mo + 8), .ref (mo + 9), .ref (mo + 10), .ref (mo + 11), .ref (mo + 12), .ref (mo + 13), .ref (mo + 14), .int po, .int dr])) (o_width : fp_o b n f (mo + 1) (aI g 16 zw)) (o_held : fp_o b n f (mo + 2) (aI g 16 zh))  (hA : fp_W b n A := by assumption) : fp_M l D (TY g) b n A y_M_hold (fp_ws y_M_hold b_M_hold 3 none) (rmD 1) [.ref mo, .int (nI j), .int x] f (fun v f' => v = none ∧ f' = va_up f (mo + 2) (aI g 16 (upd zh j (x &&& q_ones (zw j))))) := by
  refine fp_ofV (plainFor_of_name (by decide)) (Nat.le_of_ble_eq_true rfl) ?_
  intro p e s m args below meth c Q ls H locs X Y hl ret
  have hx := X.1.1
  have hb := X.1.2.1
  have hl : lv_has ls 3 [(0, .ref mo), (1, .int (nI j)), (2, .int x)] := hl
  refine lv_aload_n hx hb d_M_hold_0 rfl (lv_at hl 0 rfl) ?_
  refine fp_get X Y om rfl in_M 3 (by decide) w604 rfl d_M_hold_1 ?_
  refine lv_iload_n hx hb d_M_hold_4 rfl (lv_at hl 1 rfl) ?_
  refine lv_iload_n hx hb d_M_hold_5 rfl (lv_at hl 2 rfl) ?_
  refine lv_aload_n hx hb d_M_hold_6 rfl (lv_at hl 0 rfl) ?_
  refine lv_iload_n hx hb d_M_hold_7 rfl (lv_at hl 1 rfl) ?_
  refine fp_callV (nA := 1) (As := [.int (nI j)]) (rest := [.int x, .int (nI j), .ref (mo + 2)]) X Y (c_M_ones (by omega) om o_width) om rfl w688 w685 w687 wp16 w9 (by decide +kernel) ⟨rfl, rfl⟩ ⟨Nat.le_of_ble_eq_true rfl, Nat.le_of_ble_eq_true rfl⟩ rfl hl.1 rfl (Nat.le_of_ble_eq_true rfl) d_M_hold_8 ⟨Nat.zero_le _, Nat.zero_le _⟩ (fun v9 f9 H locs hp9 Y => ?_)
  obtain ⟨e8, e9⟩ := hp9
  subst e8
  rw [e9] at Y
  refine W.eq (g2 := F0 m 11 ls [.int (q_ones (zw j)), .int x, .int (nI j), .ref (mo + 2)]) rfl ?_
  refine lv_iand hx hb d_M_hold_11 ?_
  refine fp_ist X Y o_held j rfl (by omega) (by decide) d_M_hold_12 (fun H locs Y => ?_)
  have ne_1 : mo ≠ mo + 2 := (fp_o.nf om o_held (by simp))
  have ne_2 : mo + 1 ≠ mo + 2 := (by omega)
  have Y : fp_H D b n A (va_up f (mo + 2) (aI g 16 (upd zh j (x &&& (q_ones (zw j)))))) s.heap H locs := Y
  have om : fp_o b n (va_up f (mo + 2) (aI g 16 (upd zh j (x &&& (q_ones (zw j)))))) mo (ob 8 [.int th, .int nf, .ref (mo + 1), .ref (mo + 2), .int na, .ref (mo + 3), .ref (mo + 4), .ref (mo + 5), .int nt, .ref (mo + 6), .ref (mo + 7), .ref (mo + 8), .ref (mo + 9), .ref (mo + 10), .ref (mo + 11), .ref (mo + 12), .ref (mo + 13), .ref (mo + 14), .int po, .int dr]) := fp_o.ne om ne_1
  have o_width : fp_o b n (va_up f (mo + 2) (aI g 16 (upd zh j (x &&& (q_ones (zw j)))))) (mo + 1) (aI g 16 zw) := fp_o.ne o_width ne_2
  have o_held : fp_o b n (va_up f (mo + 2) (aI g 16 (upd zh j (x &&& (q_ones (zw j)))))) (mo + 2) (aI g 16 (upd zh j (x &&& (q_ones (zw j))))) := fp_o.up o_held
  exact ret _ _ _ _ _ d_M_hold_13 ⟨rfl, rfl⟩ Y
set_option maxHeartbeats 4000000 in
set_option maxRecDepth 100000 in
theorem c_M_get_out {l : Launch} {D : va_G} {g : Nat → ClassId} {b n : Nat} {A : Nat → Prop} {f : Nat → va_E} {mo : Nat} {th nf na nt po dr : Int32} {x : Int32} (hbad : q_in x nf = 0) (om : fp_o b n f mo (ob 8 [.int th, .int nf, .ref (mo + 1), .ref (mo + 2), .int na, .ref (mo + 3), .ref (mo + 4), .ref (mo + 5), .int nt, .ref (mo + 6), .ref (mo + 7), .ref (mo + 8), .ref (mo + 9), .ref (mo + 10), .ref (mo + 11), .ref (mo + 12), .ref (mo + 13), .ref (mo + 14), .int po, .int dr]))  (hA : fp_W b n A := by assumption) : fp_M l D (TY g) b n A y_M_get (fp_ws y_M_get b_M_get 2 (some FieldType.int)) (rmD 1) [.ref mo, .int x] f (fun v f' => v = some (.int 0) ∧ f' = va_up f mo (ob 8 [.int 0, .int nf, .ref (mo + 1), .ref (mo + 2), .int na, .ref (mo + 3), .ref (mo + 4), .ref (mo + 5), .int nt, .ref (mo + 6), .ref (mo + 7), .ref (mo + 8), .ref (mo + 9), .ref (mo + 10), .ref (mo + 11), .ref (mo + 12), .ref (mo + 13), .ref (mo + 14), .int po, .int dr])) := by
  refine fp_ofI (plainFor_of_name (by decide)) (Nat.le_of_ble_eq_true rfl) ?_
  intro p e s m args below meth c Q ls H locs X Y hl ret
  have hx := X.1.1
  have hb := X.1.2.1
  have hl : lv_has ls 2 [(0, .ref mo), (1, .int x)] := hl
  refine lv_aload_n hx hb d_M_get_0 rfl (lv_at hl 0 rfl) ?_
  refine lv_iconst (v := 0) hx hb d_M_get_1 (by decide) ?_
  refine fp_put X Y om rfl in_M to_M nm_M 0 (by decide) w601 rfl rfl rfl (Nat.le_of_ble_eq_true rfl) d_M_get_2 (fun H locs Y => ?_)
  have Y : fp_H D b n A (va_up f mo (ob 8 [.int 0, .int nf, .ref (mo + 1), .ref (mo + 2), .int na, .ref (mo + 3), .ref (mo + 4), .ref (mo + 5), .int nt, .ref (mo + 6), .ref (mo + 7), .ref (mo + 8), .ref (mo + 9), .ref (mo + 10), .ref (mo + 11), .ref (mo + 12), .ref (mo + 13), .ref (mo + 14), .int po, .int dr])) s.heap H locs := Y
  have om : fp_o b n (va_up f mo (ob 8 [.int 0, .int nf, .ref (mo + 1), .ref (mo + 2), .int na, .ref (mo + 3), .ref (mo + 4), .ref (mo + 5), .int nt, .ref (mo + 6), .ref (mo + 7), .ref (mo + 8), .ref (mo + 9), .ref (mo + 10), .ref (mo + 11), .ref (mo + 12), .ref (mo + 13), .ref (mo + 14), .int po, .int dr])) mo (ob 8 [.int 0, .int nf, .ref (mo + 1), .ref (mo + 2), .int na, .ref (mo + 3), .ref (mo + 4), .ref (mo + 5), .int nt, .ref (mo + 6), .ref (mo + 7), .ref (mo + 8), .ref (mo + 9), .ref (mo + 10), .ref (mo + 11), .ref (mo + 12), .ref (mo + 13), .ref (mo + 14), .int po, .int dr]) := fp_o.up om
  refine lv_iload_n hx hb d_M_get_5 rfl (lv_at hl 1 rfl) ?_
  refine lv_aload_n hx hb d_M_get_6 rfl (lv_at hl 0 rfl) ?_
  refine fp_get X Y om rfl in_M 1 (by decide) w602 rfl d_M_get_7 ?_
  refine fp_callS (nA := 2) (As := [.int x, .int nf]) (rest := []) X Y (c_M_not x nf) w680 w678 w679 w9 (by decide +kernel) ⟨rfl, rfl⟩ ⟨Nat.le_of_ble_eq_true rfl, Nat.le_of_ble_eq_true rfl⟩ rfl hl.1 rfl (Nat.le_of_ble_eq_true rfl) d_M_get_10 ⟨Nat.zero_le _, Nat.zero_le _⟩ (fun v9 f9 H locs hp9 Y => ?_)
  obtain ⟨e8, e9⟩ := hp9
  subst e8
  rw [e9] at Y
  refine W.eq (g2 := F0 m 13 ls [.int (q_nt x nf)]) rfl ?_
  refine lv_if_eq (tgt := 20) hx hb d_M_get_13 (by decide) (fun c_13 => absurd c_13 (q_nt_1 hbad)) (fun c_13 => ?_)
  refine lv_iconst (v := 0) hx hb d_M_get_16 (by decide) ?_
  refine lv_goto (tgt := 26) hx hb d_M_get_17 (by decide) ?_
  exact ret _ _ _ _ _ _ d_M_get_26 ⟨_, rfl, rfl⟩ ⟨rfl, rfl⟩ Y
set_option maxHeartbeats 4000000 in
set_option maxRecDepth 100000 in
theorem c_M_get_in {l : Launch} {D : va_G} {g : Nat → ClassId} {b n : Nat} {A : Nat → Prop} {f : Nat → va_E} {mo : Nat} {th nf na nt po dr : Int32} {zh : Nat → Int32} {j : Nat} (hj : j < 16) (hok : ¬ q_in (nI j) nf = 0) (om : fp_o b n f mo (ob 8 [.int th, .int nf, .ref (mo + 1), .ref (mo + 2), .int na, .ref (mo + 3), .ref (mo + 4), .ref (mo + 5), .int nt, .ref (mo + 6), .ref (mo + 7), .ref (mo + 8), .ref (mo + 9), .ref (mo + 10), .ref (mo + 11), .ref (mo + 12), .ref (mo + 13), .ref (mo + 14), .int po, .int dr])) (o_held : fp_o b n f (mo + 2) (aI g 16 zh))  (hA : fp_W b n A := by assumption) : fp_M l D (TY g) b n A y_M_get (fp_ws y_M_get b_M_get 2 (some FieldType.int)) (rmD 1) [.ref mo, .int (nI j)] f (fun v f' => v = some (.int (zh j)) ∧ f' = va_up f mo (ob 8 [.int 0, .int nf, .ref (mo + 1), .ref (mo + 2), .int na, .ref (mo + 3), .ref (mo + 4), .ref (mo + 5), .int nt, .ref (mo + 6), .ref (mo + 7), .ref (mo + 8), .ref (mo + 9), .ref (mo + 10), .ref (mo + 11), .ref (mo + 12), .ref (mo + 13), .ref (mo + 14), .int po, .int dr])) := by
  refine fp_ofI (plainFor_of_name (by decide)) (Nat.le_of_ble_eq_true rfl) ?_
  intro p e s m args below meth c Q ls H locs X Y hl ret
  have hx := X.1.1
  have hb := X.1.2.1
  have hl : lv_has ls 2 [(0, .ref mo), (1, .int (nI j))] := hl
  refine lv_aload_n hx hb d_M_get_0 rfl (lv_at hl 0 rfl) ?_
  refine lv_iconst (v := 0) hx hb d_M_get_1 (by decide) ?_
  refine fp_put X Y om rfl in_M to_M nm_M 0 (by decide) w601 rfl rfl rfl (Nat.le_of_ble_eq_true rfl) d_M_get_2 (fun H locs Y => ?_)
  have ne_1 : mo + 2 ≠ mo := (fp_o.nf o_held om (by simp))
  have Y : fp_H D b n A (va_up f mo (ob 8 [.int 0, .int nf, .ref (mo + 1), .ref (mo + 2), .int na, .ref (mo + 3), .ref (mo + 4), .ref (mo + 5), .int nt, .ref (mo + 6), .ref (mo + 7), .ref (mo + 8), .ref (mo + 9), .ref (mo + 10), .ref (mo + 11), .ref (mo + 12), .ref (mo + 13), .ref (mo + 14), .int po, .int dr])) s.heap H locs := Y
  have o_held : fp_o b n (va_up f mo (ob 8 [.int 0, .int nf, .ref (mo + 1), .ref (mo + 2), .int na, .ref (mo + 3), .ref (mo + 4), .ref (mo + 5), .int nt, .ref (mo + 6), .ref (mo + 7), .ref (mo + 8), .ref (mo + 9), .ref (mo + 10), .ref (mo + 11), .ref (mo + 12), .ref (mo + 13), .ref (mo + 14), .int po, .int dr])) (mo + 2) (aI g 16 zh) := fp_o.ne o_held ne_1
  have om : fp_o b n (va_up f mo (ob 8 [.int 0, .int nf, .ref (mo + 1), .ref (mo + 2), .int na, .ref (mo + 3), .ref (mo + 4), .ref (mo + 5), .int nt, .ref (mo + 6), .ref (mo + 7), .ref (mo + 8), .ref (mo + 9), .ref (mo + 10), .ref (mo + 11), .ref (mo + 12), .ref (mo + 13), .ref (mo + 14), .int po, .int dr])) mo (ob 8 [.int 0, .int nf, .ref (mo + 1), .ref (mo + 2), .int na, .ref (mo + 3), .ref (mo + 4), .ref (mo + 5), .int nt, .ref (mo + 6), .ref (mo + 7), .ref (mo + 8), .ref (mo + 9), .ref (mo + 10), .ref (mo + 11), .ref (mo + 12), .ref (mo + 13), .ref (mo + 14), .int po, .int dr]) := fp_o.up om
  refine lv_iload_n hx hb d_M_get_5 rfl (lv_at hl 1 rfl) ?_
  refine lv_aload_n hx hb d_M_get_6 rfl (lv_at hl 0 rfl) ?_
  refine fp_get X Y om rfl in_M 1 (by decide) w602 rfl d_M_get_7 ?_
  refine fp_callS (nA := 2) (As := [.int (nI j), .int nf]) (rest := []) X Y (c_M_not (nI j) nf) w680 w678 w679 w9 (by decide +kernel) ⟨rfl, rfl⟩ ⟨Nat.le_of_ble_eq_true rfl, Nat.le_of_ble_eq_true rfl⟩ rfl hl.1 rfl (Nat.le_of_ble_eq_true rfl) d_M_get_10 ⟨Nat.zero_le _, Nat.zero_le _⟩ (fun v9 f9 H locs hp9 Y => ?_)
  obtain ⟨e8, e9⟩ := hp9
  subst e8
  rw [e9] at Y
  refine W.eq (g2 := F0 m 13 ls [.int (q_nt (nI j) nf)]) rfl ?_
  refine lv_if_eq (tgt := 20) hx hb d_M_get_13 (by decide) (fun c_13 => ?_) (fun c_13 => absurd (q_nt_0 hok) c_13)
  refine lv_aload_n hx hb d_M_get_20 rfl (lv_at hl 0 rfl) ?_
  refine fp_get X Y om rfl in_M 3 (by decide) w604 rfl d_M_get_21 ?_
  refine lv_iload_n hx hb d_M_get_24 rfl (lv_at hl 1 rfl) ?_
  refine fp_ild X Y o_held j rfl (by omega) (by decide) d_M_get_25 ?_
  exact ret _ _ _ _ _ _ d_M_get_26 ⟨_, rfl, rfl⟩ ⟨rfl, rfl⟩ Y
set_option maxHeartbeats 4000000 in
set_option maxRecDepth 100000 in
theorem c_M_set_out {l : Launch} {D : va_G} {g : Nat → ClassId} {b n : Nat} {A : Nat → Prop} {f : Nat → va_E} {mo : Nat} {th nf na nt po dr : Int32} {x y : Int32} (hbad : q_in x nf = 0) (om : fp_o b n f mo (ob 8 [.int th, .int nf, .ref (mo + 1), .ref (mo + 2), .int na, .ref (mo + 3), .ref (mo + 4), .ref (mo + 5), .int nt, .ref (mo + 6), .ref (mo + 7), .ref (mo + 8), .ref (mo + 9), .ref (mo + 10), .ref (mo + 11), .ref (mo + 12), .ref (mo + 13), .ref (mo + 14), .int po, .int dr]))  (hA : fp_W b n A := by assumption) : fp_M l D (TY g) b n A y_M_set (fp_ws y_M_set b_M_set 3 none) (rmD 2) [.ref mo, .int x, .int y] f (fun v f' => v = none ∧ f' = va_up f mo (ob 8 [.int 1, .int nf, .ref (mo + 1), .ref (mo + 2), .int na, .ref (mo + 3), .ref (mo + 4), .ref (mo + 5), .int nt, .ref (mo + 6), .ref (mo + 7), .ref (mo + 8), .ref (mo + 9), .ref (mo + 10), .ref (mo + 11), .ref (mo + 12), .ref (mo + 13), .ref (mo + 14), .int po, .int dr])) := by
  refine fp_ofV (plainFor_of_name (by decide)) (Nat.le_of_ble_eq_true rfl) ?_
  intro p e s m args below meth c Q ls H locs X Y hl ret
  have hx := X.1.1
  have hb := X.1.2.1
  have hl : lv_has ls 3 [(0, .ref mo), (1, .int x), (2, .int y)] := hl
  refine lv_aload_n hx hb d_M_set_0 rfl (lv_at hl 0 rfl) ?_
  refine lv_iload_n hx hb d_M_set_1 rfl (lv_at hl 1 rfl) ?_
  refine lv_aload_n hx hb d_M_set_2 rfl (lv_at hl 0 rfl) ?_
  refine fp_get X Y om rfl in_M 1 (by decide) w602 rfl d_M_set_3 ?_
  refine fp_callS (nA := 2) (As := [.int x, .int nf]) (rest := [.ref mo]) X Y (c_M_not x nf) w680 w678 w679 w9 (by decide +kernel) ⟨rfl, rfl⟩ ⟨Nat.le_of_ble_eq_true rfl, Nat.le_of_ble_eq_true rfl⟩ rfl hl.1 rfl (Nat.le_of_ble_eq_true rfl) d_M_set_6 ⟨Nat.zero_le _, Nat.zero_le _⟩ (fun v9 f9 H locs hp9 Y => ?_)
  obtain ⟨e8, e9⟩ := hp9
  subst e8
  rw [e9] at Y
  refine W.eq (g2 := F0 m 9 ls [.int (q_nt x nf), .ref mo]) rfl ?_
  refine lv_if_eq (tgt := 16) hx hb d_M_set_9 (by decide) (fun c_9 => absurd c_9 (q_nt_1 hbad)) (fun c_9 => ?_)
  refine lv_iconst (v := 1) hx hb d_M_set_12 (by decide) ?_
  refine lv_goto (tgt := 17) hx hb d_M_set_13 (by decide) ?_
  refine fp_put X Y om rfl in_M to_M nm_M 0 (by decide) w601 rfl rfl rfl (Nat.le_of_ble_eq_true rfl) d_M_set_17 (fun H locs Y => ?_)
  have Y : fp_H D b n A (va_up f mo (ob 8 [.int 1, .int nf, .ref (mo + 1), .ref (mo + 2), .int na, .ref (mo + 3), .ref (mo + 4), .ref (mo + 5), .int nt, .ref (mo + 6), .ref (mo + 7), .ref (mo + 8), .ref (mo + 9), .ref (mo + 10), .ref (mo + 11), .ref (mo + 12), .ref (mo + 13), .ref (mo + 14), .int po, .int dr])) s.heap H locs := Y
  have om : fp_o b n (va_up f mo (ob 8 [.int 1, .int nf, .ref (mo + 1), .ref (mo + 2), .int na, .ref (mo + 3), .ref (mo + 4), .ref (mo + 5), .int nt, .ref (mo + 6), .ref (mo + 7), .ref (mo + 8), .ref (mo + 9), .ref (mo + 10), .ref (mo + 11), .ref (mo + 12), .ref (mo + 13), .ref (mo + 14), .int po, .int dr])) mo (ob 8 [.int 1, .int nf, .ref (mo + 1), .ref (mo + 2), .int na, .ref (mo + 3), .ref (mo + 4), .ref (mo + 5), .int nt, .ref (mo + 6), .ref (mo + 7), .ref (mo + 8), .ref (mo + 9), .ref (mo + 10), .ref (mo + 11), .ref (mo + 12), .ref (mo + 13), .ref (mo + 14), .int po, .int dr]) := fp_o.up om
  refine lv_aload_n hx hb d_M_set_20 rfl (lv_at hl 0 rfl) ?_
  refine fp_get X Y om rfl in_M 0 (by decide) w601 rfl d_M_set_21 ?_
  refine lv_if_ne (tgt := 33) hx hb d_M_set_24 (by decide) (fun c_24 => ?_) (fun c_24 => absurd c_24 (by decide))
  exact ret _ _ _ _ _ d_M_set_33 ⟨rfl, rfl⟩ Y
set_option maxHeartbeats 4000000 in
set_option maxRecDepth 100000 in
theorem c_M_set_in {l : Launch} {D : va_G} {g : Nat → ClassId} {b n : Nat} {A : Nat → Prop} {f : Nat → va_E} {mo : Nat} {th nf na nt po dr : Int32} {zw zh : Nat → Int32} {j : Nat} {y : Int32} (hj : j < 16) (hok : ¬ q_in (nI j) nf = 0) (om : fp_o b n f mo (ob 8 [.int th, .int nf, .ref (mo + 1), .ref (mo + 2), .int na, .ref (mo + 3), .ref (mo + 4), .ref (mo + 5), .int nt, .ref (mo + 6), .ref (mo + 7), .ref (mo + 8), .ref (mo + 9), .ref (mo + 10), .ref (mo + 11), .ref (mo + 12), .ref (mo + 13), .ref (mo + 14), .int po, .int dr])) (o_width : fp_o b n f (mo + 1) (aI g 16 zw)) (o_held : fp_o b n f (mo + 2) (aI g 16 zh))  (hA : fp_W b n A := by assumption) : fp_M l D (TY g) b n A y_M_set (fp_ws y_M_set b_M_set 3 none) (rmD 2) [.ref mo, .int (nI j), .int y] f (fun v f' => v = none ∧ f' = va_up (va_up f (mo) (ob 8 [.int 0, .int nf, .ref (mo + 1), .ref (mo + 2), .int na, .ref (mo + 3), .ref (mo + 4), .ref (mo + 5), .int nt, .ref (mo + 6), .ref (mo + 7), .ref (mo + 8), .ref (mo + 9), .ref (mo + 10), .ref (mo + 11), .ref (mo + 12), .ref (mo + 13), .ref (mo + 14), .int po, .int dr])) (mo + 2) (aI g 16 (upd zh j (y &&& q_ones (zw j))))) := by
  refine fp_ofV (plainFor_of_name (by decide)) (Nat.le_of_ble_eq_true rfl) ?_
  intro p e s m args below meth c Q ls H locs X Y hl ret
  have hx := X.1.1
  have hb := X.1.2.1
  have hl : lv_has ls 3 [(0, .ref mo), (1, .int (nI j)), (2, .int y)] := hl
  refine lv_aload_n hx hb d_M_set_0 rfl (lv_at hl 0 rfl) ?_
  refine lv_iload_n hx hb d_M_set_1 rfl (lv_at hl 1 rfl) ?_
  refine lv_aload_n hx hb d_M_set_2 rfl (lv_at hl 0 rfl) ?_
  refine fp_get X Y om rfl in_M 1 (by decide) w602 rfl d_M_set_3 ?_
  refine fp_callS (nA := 2) (As := [.int (nI j), .int nf]) (rest := [.ref mo]) X Y (c_M_not (nI j) nf) w680 w678 w679 w9 (by decide +kernel) ⟨rfl, rfl⟩ ⟨Nat.le_of_ble_eq_true rfl, Nat.le_of_ble_eq_true rfl⟩ rfl hl.1 rfl (Nat.le_of_ble_eq_true rfl) d_M_set_6 ⟨Nat.zero_le _, Nat.zero_le _⟩ (fun v9 f9 H locs hp9 Y => ?_)
  obtain ⟨e8, e9⟩ := hp9
  subst e8
  rw [e9] at Y
  refine W.eq (g2 := F0 m 9 ls [.int (q_nt (nI j) nf), .ref mo]) rfl ?_
  refine lv_if_eq (tgt := 16) hx hb d_M_set_9 (by decide) (fun c_9 => ?_) (fun c_9 => absurd (q_nt_0 hok) c_9)
  refine lv_iconst (v := 0) hx hb d_M_set_16 (by decide) ?_
  refine fp_put X Y om rfl in_M to_M nm_M 0 (by decide) w601 rfl rfl rfl (Nat.le_of_ble_eq_true rfl) d_M_set_17 (fun H locs Y => ?_)
  have ne_1 : mo + 1 ≠ mo := (fp_o.nf o_width om (by simp))
  have ne_2 : mo + 2 ≠ mo := (fp_o.nf o_held om (by simp))
  have Y : fp_H D b n A (va_up f mo (ob 8 [.int 0, .int nf, .ref (mo + 1), .ref (mo + 2), .int na, .ref (mo + 3), .ref (mo + 4), .ref (mo + 5), .int nt, .ref (mo + 6), .ref (mo + 7), .ref (mo + 8), .ref (mo + 9), .ref (mo + 10), .ref (mo + 11), .ref (mo + 12), .ref (mo + 13), .ref (mo + 14), .int po, .int dr])) s.heap H locs := Y
  have o_width : fp_o b n (va_up f mo (ob 8 [.int 0, .int nf, .ref (mo + 1), .ref (mo + 2), .int na, .ref (mo + 3), .ref (mo + 4), .ref (mo + 5), .int nt, .ref (mo + 6), .ref (mo + 7), .ref (mo + 8), .ref (mo + 9), .ref (mo + 10), .ref (mo + 11), .ref (mo + 12), .ref (mo + 13), .ref (mo + 14), .int po, .int dr])) (mo + 1) (aI g 16 zw) := fp_o.ne o_width ne_1
  have o_held : fp_o b n (va_up f mo (ob 8 [.int 0, .int nf, .ref (mo + 1), .ref (mo + 2), .int na, .ref (mo + 3), .ref (mo + 4), .ref (mo + 5), .int nt, .ref (mo + 6), .ref (mo + 7), .ref (mo + 8), .ref (mo + 9), .ref (mo + 10), .ref (mo + 11), .ref (mo + 12), .ref (mo + 13), .ref (mo + 14), .int po, .int dr])) (mo + 2) (aI g 16 zh) := fp_o.ne o_held ne_2
  have om : fp_o b n (va_up f mo (ob 8 [.int 0, .int nf, .ref (mo + 1), .ref (mo + 2), .int na, .ref (mo + 3), .ref (mo + 4), .ref (mo + 5), .int nt, .ref (mo + 6), .ref (mo + 7), .ref (mo + 8), .ref (mo + 9), .ref (mo + 10), .ref (mo + 11), .ref (mo + 12), .ref (mo + 13), .ref (mo + 14), .int po, .int dr])) mo (ob 8 [.int 0, .int nf, .ref (mo + 1), .ref (mo + 2), .int na, .ref (mo + 3), .ref (mo + 4), .ref (mo + 5), .int nt, .ref (mo + 6), .ref (mo + 7), .ref (mo + 8), .ref (mo + 9), .ref (mo + 10), .ref (mo + 11), .ref (mo + 12), .ref (mo + 13), .ref (mo + 14), .int po, .int dr]) := fp_o.up om
  refine lv_aload_n hx hb d_M_set_20 rfl (lv_at hl 0 rfl) ?_
  refine fp_get X Y om rfl in_M 0 (by decide) w601 rfl d_M_set_21 ?_
  refine lv_if_ne (tgt := 33) hx hb d_M_set_24 (by decide) (fun c_24 => absurd rfl c_24) (fun c_24 => ?_)
  refine lv_aload_n hx hb d_M_set_27 rfl (lv_at hl 0 rfl) ?_
  refine lv_iload_n hx hb d_M_set_28 rfl (lv_at hl 1 rfl) ?_
  refine lv_iload_n hx hb d_M_set_29 rfl (lv_at hl 2 rfl) ?_
  refine fp_callV (nA := 2) (As := [.int (nI j), .int y]) (rest := []) X Y (c_M_hold y (by omega) om o_width o_held) om rfl w684 w681 w683 wp15 w9 (by decide +kernel) ⟨rfl, rfl⟩ ⟨Nat.le_of_ble_eq_true rfl, Nat.le_of_ble_eq_true rfl⟩ rfl hl.1 rfl (Nat.le_of_ble_eq_true rfl) d_M_set_30 ⟨Nat.zero_le _, Nat.zero_le _⟩ (fun v9 f9 H locs hp9 Y => ?_)
  obtain ⟨e8, e9⟩ := hp9
  subst e8
  rw [e9] at Y
  have ne_3 : mo ≠ mo + 2 := (fp_o.nf om o_held (by simp))
  have ne_4 : mo + 1 ≠ mo + 2 := (by omega)
  have Y : fp_H D b n A (va_up (va_up f mo (ob 8 [.int 0, .int nf, .ref (mo + 1), .ref (mo + 2), .int na, .ref (mo + 3), .ref (mo + 4), .ref (mo + 5), .int nt, .ref (mo + 6), .ref (mo + 7), .ref (mo + 8), .ref (mo + 9), .ref (mo + 10), .ref (mo + 11), .ref (mo + 12), .ref (mo + 13), .ref (mo + 14), .int po, .int dr])) (mo + 2) (aI g 16 (upd zh j (y &&& q_ones (zw j))))) s.heap H locs := Y
  have om : fp_o b n (va_up (va_up f mo (ob 8 [.int 0, .int nf, .ref (mo + 1), .ref (mo + 2), .int na, .ref (mo + 3), .ref (mo + 4), .ref (mo + 5), .int nt, .ref (mo + 6), .ref (mo + 7), .ref (mo + 8), .ref (mo + 9), .ref (mo + 10), .ref (mo + 11), .ref (mo + 12), .ref (mo + 13), .ref (mo + 14), .int po, .int dr])) (mo + 2) (aI g 16 (upd zh j (y &&& q_ones (zw j))))) mo (ob 8 [.int 0, .int nf, .ref (mo + 1), .ref (mo + 2), .int na, .ref (mo + 3), .ref (mo + 4), .ref (mo + 5), .int nt, .ref (mo + 6), .ref (mo + 7), .ref (mo + 8), .ref (mo + 9), .ref (mo + 10), .ref (mo + 11), .ref (mo + 12), .ref (mo + 13), .ref (mo + 14), .int po, .int dr]) := fp_o.ne om ne_3
  have o_width : fp_o b n (va_up (va_up f mo (ob 8 [.int 0, .int nf, .ref (mo + 1), .ref (mo + 2), .int na, .ref (mo + 3), .ref (mo + 4), .ref (mo + 5), .int nt, .ref (mo + 6), .ref (mo + 7), .ref (mo + 8), .ref (mo + 9), .ref (mo + 10), .ref (mo + 11), .ref (mo + 12), .ref (mo + 13), .ref (mo + 14), .int po, .int dr])) (mo + 2) (aI g 16 (upd zh j (y &&& q_ones (zw j))))) (mo + 1) (aI g 16 zw) := fp_o.ne o_width ne_4
  have o_held : fp_o b n (va_up (va_up f mo (ob 8 [.int 0, .int nf, .ref (mo + 1), .ref (mo + 2), .int na, .ref (mo + 3), .ref (mo + 4), .ref (mo + 5), .int nt, .ref (mo + 6), .ref (mo + 7), .ref (mo + 8), .ref (mo + 9), .ref (mo + 10), .ref (mo + 11), .ref (mo + 12), .ref (mo + 13), .ref (mo + 14), .int po, .int dr])) (mo + 2) (aI g 16 (upd zh j (y &&& q_ones (zw j))))) (mo + 2) (aI g 16 (upd zh j (y &&& q_ones (zw j)))) := fp_o.up o_held
  refine W.eq (g2 := F0 m 33 ls []) rfl ?_
  exact ret _ _ _ _ _ d_M_set_33 ⟨rfl, rfl⟩ Y
set_option maxHeartbeats 4000000 in
set_option maxRecDepth 100000 in
theorem c_M_field_t1 {l : Launch} {D : va_G} {g : Nat → ClassId} {b n : Nat} {A : Nat → Prop} {f : Nat → va_E} {mo : Nat} {th nf na nt po dr : Int32} {x : Int32} (hbad : x < 1 ∨ 32 < x) (om : fp_o b n f mo (ob 8 [.int th, .int nf, .ref (mo + 1), .ref (mo + 2), .int na, .ref (mo + 3), .ref (mo + 4), .ref (mo + 5), .int nt, .ref (mo + 6), .ref (mo + 7), .ref (mo + 8), .ref (mo + 9), .ref (mo + 10), .ref (mo + 11), .ref (mo + 12), .ref (mo + 13), .ref (mo + 14), .int po, .int dr]))  (hA : fp_W b n A := by assumption) : fp_M l D (TY g) b n A y_M_field (fp_ws y_M_field b_M_field 2 (some FieldType.int)) (rmD 0) [.ref mo, .int x] f (fun v f' => v = some (.int 0) ∧ f' = va_up f mo (ob 8 [.int 1, .int nf, .ref (mo + 1), .ref (mo + 2), .int na, .ref (mo + 3), .ref (mo + 4), .ref (mo + 5), .int nt, .ref (mo + 6), .ref (mo + 7), .ref (mo + 8), .ref (mo + 9), .ref (mo + 10), .ref (mo + 11), .ref (mo + 12), .ref (mo + 13), .ref (mo + 14), .int po, .int dr])) := by
  refine fp_ofI (plainFor_of_name (by decide)) (Nat.le_of_ble_eq_true rfl) ?_
  intro p e s m args below meth c Q ls H locs X Y hl ret
  have hx := X.1.1
  have hb := X.1.2.1
  have hl : lv_has ls 2 [(0, .ref mo), (1, .int x)] := hl
  refine lv_aload_n hx hb d_M_field_0 rfl (lv_at hl 0 rfl) ?_
  refine lv_iload_n hx hb d_M_field_1 rfl (lv_at hl 1 rfl) ?_
  refine lv_iconst (v := 1) hx hb d_M_field_2 (by decide) ?_
  refine lv_icmp_lt (tgt := 12) hx hb d_M_field_3 (by decide) (fun c_3 => ?_) (fun c_3 => ?_)
  · refine lv_iconst (v := 1) hx hb d_M_field_12 (by decide) ?_
    refine lv_goto (tgt := 30) hx hb d_M_field_13 (by decide) ?_
    refine fp_put X Y om rfl in_M to_M nm_M 0 (by decide) w601 rfl rfl rfl (Nat.le_of_ble_eq_true rfl) d_M_field_30 (fun H locs Y => ?_)
    have Y : fp_H D b n A (va_up f mo (ob 8 [.int 1, .int nf, .ref (mo + 1), .ref (mo + 2), .int na, .ref (mo + 3), .ref (mo + 4), .ref (mo + 5), .int nt, .ref (mo + 6), .ref (mo + 7), .ref (mo + 8), .ref (mo + 9), .ref (mo + 10), .ref (mo + 11), .ref (mo + 12), .ref (mo + 13), .ref (mo + 14), .int po, .int dr])) s.heap H locs := Y
    have om : fp_o b n (va_up f mo (ob 8 [.int 1, .int nf, .ref (mo + 1), .ref (mo + 2), .int na, .ref (mo + 3), .ref (mo + 4), .ref (mo + 5), .int nt, .ref (mo + 6), .ref (mo + 7), .ref (mo + 8), .ref (mo + 9), .ref (mo + 10), .ref (mo + 11), .ref (mo + 12), .ref (mo + 13), .ref (mo + 14), .int po, .int dr])) mo (ob 8 [.int 1, .int nf, .ref (mo + 1), .ref (mo + 2), .int na, .ref (mo + 3), .ref (mo + 4), .ref (mo + 5), .int nt, .ref (mo + 6), .ref (mo + 7), .ref (mo + 8), .ref (mo + 9), .ref (mo + 10), .ref (mo + 11), .ref (mo + 12), .ref (mo + 13), .ref (mo + 14), .int po, .int dr]) := fp_o.up om
    refine lv_aload_n hx hb d_M_field_33 rfl (lv_at hl 0 rfl) ?_
    refine fp_get X Y om rfl in_M 0 (by decide) w601 rfl d_M_field_34 ?_
    refine lv_if_eq (tgt := 42) hx hb d_M_field_37 (by decide) (fun c_37 => absurd c_37 (by decide)) (fun c_37 => ?_)
    refine lv_iconst (v := 0) hx hb d_M_field_40 (by decide) ?_
    exact ret _ _ _ _ _ _ d_M_field_41 ⟨_, rfl, rfl⟩ ⟨rfl, rfl⟩ Y
  · refine lv_iload_n hx hb d_M_field_6 rfl (lv_at hl 1 rfl) ?_
    refine lv_bipush (v := 32) hx hb d_M_field_7 (by decide) ?_
    refine lv_icmp_le (tgt := 16) hx hb d_M_field_9 (by decide) (fun c_9 => absurd c_9 (Int32.not_le.mpr (hbad.resolve_left c_3))) (fun c_9 => ?_)
    refine lv_iconst (v := 1) hx hb d_M_field_12 (by decide) ?_
    refine lv_goto (tgt := 30) hx hb d_M_field_13 (by decide) ?_
    refine fp_put X Y om rfl in_M to_M nm_M 0 (by decide) w601 rfl rfl rfl (Nat.le_of_ble_eq_true rfl) d_M_field_30 (fun H locs Y => ?_)
    have Y : fp_H D b n A (va_up f mo (ob 8 [.int 1, .int nf, .ref (mo + 1), .ref (mo + 2), .int na, .ref (mo + 3), .ref (mo + 4), .ref (mo + 5), .int nt, .ref (mo + 6), .ref (mo + 7), .ref (mo + 8), .ref (mo + 9), .ref (mo + 10), .ref (mo + 11), .ref (mo + 12), .ref (mo + 13), .ref (mo + 14), .int po, .int dr])) s.heap H locs := Y
    have om : fp_o b n (va_up f mo (ob 8 [.int 1, .int nf, .ref (mo + 1), .ref (mo + 2), .int na, .ref (mo + 3), .ref (mo + 4), .ref (mo + 5), .int nt, .ref (mo + 6), .ref (mo + 7), .ref (mo + 8), .ref (mo + 9), .ref (mo + 10), .ref (mo + 11), .ref (mo + 12), .ref (mo + 13), .ref (mo + 14), .int po, .int dr])) mo (ob 8 [.int 1, .int nf, .ref (mo + 1), .ref (mo + 2), .int na, .ref (mo + 3), .ref (mo + 4), .ref (mo + 5), .int nt, .ref (mo + 6), .ref (mo + 7), .ref (mo + 8), .ref (mo + 9), .ref (mo + 10), .ref (mo + 11), .ref (mo + 12), .ref (mo + 13), .ref (mo + 14), .int po, .int dr]) := fp_o.up om
    refine lv_aload_n hx hb d_M_field_33 rfl (lv_at hl 0 rfl) ?_
    refine fp_get X Y om rfl in_M 0 (by decide) w601 rfl d_M_field_34 ?_
    refine lv_if_eq (tgt := 42) hx hb d_M_field_37 (by decide) (fun c_37 => absurd c_37 (by decide)) (fun c_37 => ?_)
    refine lv_iconst (v := 0) hx hb d_M_field_40 (by decide) ?_
    exact ret _ _ _ _ _ _ d_M_field_41 ⟨_, rfl, rfl⟩ ⟨rfl, rfl⟩ Y
set_option maxHeartbeats 4000000 in
set_option maxRecDepth 100000 in
theorem c_M_field_t2 {l : Launch} {D : va_G} {g : Nat → ClassId} {b n : Nat} {A : Nat → Prop} {f : Nat → va_E} {mo : Nat} {th nf na nt po dr : Int32} {x : Int32} (h1 : ¬ x < 1) (h2 : x ≤ 32) (hfull : nf = 16) (om : fp_o b n f mo (ob 8 [.int th, .int nf, .ref (mo + 1), .ref (mo + 2), .int na, .ref (mo + 3), .ref (mo + 4), .ref (mo + 5), .int nt, .ref (mo + 6), .ref (mo + 7), .ref (mo + 8), .ref (mo + 9), .ref (mo + 10), .ref (mo + 11), .ref (mo + 12), .ref (mo + 13), .ref (mo + 14), .int po, .int dr]))  (hA : fp_W b n A := by assumption) : fp_M l D (TY g) b n A y_M_field (fp_ws y_M_field b_M_field 2 (some FieldType.int)) (rmD 0) [.ref mo, .int x] f (fun v f' => v = some (.int 0) ∧ f' = va_up f mo (ob 8 [.int 2, .int nf, .ref (mo + 1), .ref (mo + 2), .int na, .ref (mo + 3), .ref (mo + 4), .ref (mo + 5), .int nt, .ref (mo + 6), .ref (mo + 7), .ref (mo + 8), .ref (mo + 9), .ref (mo + 10), .ref (mo + 11), .ref (mo + 12), .ref (mo + 13), .ref (mo + 14), .int po, .int dr])) := by
  refine fp_ofI (plainFor_of_name (by decide)) (Nat.le_of_ble_eq_true rfl) ?_
  intro p e s m args below meth c Q ls H locs X Y hl ret
  have hx := X.1.1
  have hb := X.1.2.1
  have hl : lv_has ls 2 [(0, .ref mo), (1, .int x)] := hl
  refine lv_aload_n hx hb d_M_field_0 rfl (lv_at hl 0 rfl) ?_
  refine lv_iload_n hx hb d_M_field_1 rfl (lv_at hl 1 rfl) ?_
  refine lv_iconst (v := 1) hx hb d_M_field_2 (by decide) ?_
  refine lv_icmp_lt (tgt := 12) hx hb d_M_field_3 (by decide) (fun c_3 => absurd c_3 h1) (fun c_3 => ?_)
  refine lv_iload_n hx hb d_M_field_6 rfl (lv_at hl 1 rfl) ?_
  refine lv_bipush (v := 32) hx hb d_M_field_7 (by decide) ?_
  refine lv_icmp_le (tgt := 16) hx hb d_M_field_9 (by decide) (fun c_9 => ?_) (fun c_9 => absurd h2 c_9)
  refine lv_aload_n hx hb d_M_field_16 rfl (lv_at hl 0 rfl) ?_
  refine fp_get X Y om rfl in_M 1 (by decide) w602 rfl d_M_field_17 ?_
  refine lv_bipush (v := 16) hx hb d_M_field_20 (by decide) ?_
  refine lv_icmp_ne (tgt := 29) hx hb d_M_field_22 (by decide) (fun c_22 => absurd hfull c_22) (fun c_22 => ?_)
  refine lv_iconst (v := 2) hx hb d_M_field_25 (by decide) ?_
  refine lv_goto (tgt := 30) hx hb d_M_field_26 (by decide) ?_
  refine fp_put X Y om rfl in_M to_M nm_M 0 (by decide) w601 rfl rfl rfl (Nat.le_of_ble_eq_true rfl) d_M_field_30 (fun H locs Y => ?_)
  have Y : fp_H D b n A (va_up f mo (ob 8 [.int 2, .int nf, .ref (mo + 1), .ref (mo + 2), .int na, .ref (mo + 3), .ref (mo + 4), .ref (mo + 5), .int nt, .ref (mo + 6), .ref (mo + 7), .ref (mo + 8), .ref (mo + 9), .ref (mo + 10), .ref (mo + 11), .ref (mo + 12), .ref (mo + 13), .ref (mo + 14), .int po, .int dr])) s.heap H locs := Y
  have om : fp_o b n (va_up f mo (ob 8 [.int 2, .int nf, .ref (mo + 1), .ref (mo + 2), .int na, .ref (mo + 3), .ref (mo + 4), .ref (mo + 5), .int nt, .ref (mo + 6), .ref (mo + 7), .ref (mo + 8), .ref (mo + 9), .ref (mo + 10), .ref (mo + 11), .ref (mo + 12), .ref (mo + 13), .ref (mo + 14), .int po, .int dr])) mo (ob 8 [.int 2, .int nf, .ref (mo + 1), .ref (mo + 2), .int na, .ref (mo + 3), .ref (mo + 4), .ref (mo + 5), .int nt, .ref (mo + 6), .ref (mo + 7), .ref (mo + 8), .ref (mo + 9), .ref (mo + 10), .ref (mo + 11), .ref (mo + 12), .ref (mo + 13), .ref (mo + 14), .int po, .int dr]) := fp_o.up om
  refine lv_aload_n hx hb d_M_field_33 rfl (lv_at hl 0 rfl) ?_
  refine fp_get X Y om rfl in_M 0 (by decide) w601 rfl d_M_field_34 ?_
  refine lv_if_eq (tgt := 42) hx hb d_M_field_37 (by decide) (fun c_37 => absurd c_37 (by decide)) (fun c_37 => ?_)
  refine lv_iconst (v := 0) hx hb d_M_field_40 (by decide) ?_
  exact ret _ _ _ _ _ _ d_M_field_41 ⟨_, rfl, rfl⟩ ⟨rfl, rfl⟩ Y
set_option maxHeartbeats 4000000 in
set_option maxRecDepth 100000 in
theorem c_M_field {l : Launch} {D : va_G} {g : Nat → ClassId} {b n : Nat} {A : Nat → Prop} {f : Nat → va_E} {mo : Nat} {th na nt po dr : Int32} {kf : Nat} {zw zh : Nat → Int32} {x : Int32} (h1 : ¬ x < 1) (h2 : x ≤ 32) (hkf : kf < 16) (om : fp_o b n f mo (ob 8 [.int th, .int (nI kf), .ref (mo + 1), .ref (mo + 2), .int na, .ref (mo + 3), .ref (mo + 4), .ref (mo + 5), .int nt, .ref (mo + 6), .ref (mo + 7), .ref (mo + 8), .ref (mo + 9), .ref (mo + 10), .ref (mo + 11), .ref (mo + 12), .ref (mo + 13), .ref (mo + 14), .int po, .int dr])) (o_width : fp_o b n f (mo + 1) (aI g 16 zw)) (o_held : fp_o b n f (mo + 2) (aI g 16 zh))  (hA : fp_W b n A := by assumption) : fp_M l D (TY g) b n A y_M_field (fp_ws y_M_field b_M_field 2 (some FieldType.int)) (rmD 0) [.ref mo, .int x] f (fun v f' => v = some (.int (nI kf)) ∧ f' = va_up (va_up (va_up (va_up f (mo) (ob 8 [.int 0, .int (nI kf), .ref (mo + 1), .ref (mo + 2), .int na, .ref (mo + 3), .ref (mo + 4), .ref (mo + 5), .int nt, .ref (mo + 6), .ref (mo + 7), .ref (mo + 8), .ref (mo + 9), .ref (mo + 10), .ref (mo + 11), .ref (mo + 12), .ref (mo + 13), .ref (mo + 14), .int po, .int dr])) (mo + 1) (aI g 16 (upd zw kf x))) (mo + 2) (aI g 16 (upd zh kf 0))) (mo) (ob 8 [.int 0, .int (nI (kf + 1)), .ref (mo + 1), .ref (mo + 2), .int na, .ref (mo + 3), .ref (mo + 4), .ref (mo + 5), .int nt, .ref (mo + 6), .ref (mo + 7), .ref (mo + 8), .ref (mo + 9), .ref (mo + 10), .ref (mo + 11), .ref (mo + 12), .ref (mo + 13), .ref (mo + 14), .int po, .int dr])) := by
  refine fp_ofI (plainFor_of_name (by decide)) (Nat.le_of_ble_eq_true rfl) ?_
  intro p e s m args below meth c Q ls H locs X Y hl ret
  have hx := X.1.1
  have hb := X.1.2.1
  have hl : lv_has ls 2 [(0, .ref mo), (1, .int x)] := hl
  refine lv_aload_n hx hb d_M_field_0 rfl (lv_at hl 0 rfl) ?_
  refine lv_iload_n hx hb d_M_field_1 rfl (lv_at hl 1 rfl) ?_
  refine lv_iconst (v := 1) hx hb d_M_field_2 (by decide) ?_
  refine lv_icmp_lt (tgt := 12) hx hb d_M_field_3 (by decide) (fun c_3 => absurd c_3 h1) (fun c_3 => ?_)
  refine lv_iload_n hx hb d_M_field_6 rfl (lv_at hl 1 rfl) ?_
  refine lv_bipush (v := 32) hx hb d_M_field_7 (by decide) ?_
  refine lv_icmp_le (tgt := 16) hx hb d_M_field_9 (by decide) (fun c_9 => ?_) (fun c_9 => absurd h2 c_9)
  refine lv_aload_n hx hb d_M_field_16 rfl (lv_at hl 0 rfl) ?_
  refine fp_get X Y om rfl in_M 1 (by decide) w602 rfl d_M_field_17 ?_
  refine lv_bipush (v := 16) hx hb d_M_field_20 (by decide) ?_
  refine lv_icmp_ne (tgt := 29) hx hb d_M_field_22 (by decide) (fun c_22 => ?_) (fun c_22 => absurd c_22 (fun q => absurd ((nI_eq (by omega) (by decide)).mp (show nI kf = nI 16 from q)) (by omega)))
  refine lv_iconst (v := 0) hx hb d_M_field_29 (by decide) ?_
  refine fp_put X Y om rfl in_M to_M nm_M 0 (by decide) w601 rfl rfl rfl (Nat.le_of_ble_eq_true rfl) d_M_field_30 (fun H locs Y => ?_)
  have ne_1 : mo + 1 ≠ mo := (fp_o.nf o_width om (by simp))
  have ne_2 : mo + 2 ≠ mo := (fp_o.nf o_held om (by simp))
  have Y : fp_H D b n A (va_up f mo (ob 8 [.int 0, .int (nI kf), .ref (mo + 1), .ref (mo + 2), .int na, .ref (mo + 3), .ref (mo + 4), .ref (mo + 5), .int nt, .ref (mo + 6), .ref (mo + 7), .ref (mo + 8), .ref (mo + 9), .ref (mo + 10), .ref (mo + 11), .ref (mo + 12), .ref (mo + 13), .ref (mo + 14), .int po, .int dr])) s.heap H locs := Y
  have o_width : fp_o b n (va_up f mo (ob 8 [.int 0, .int (nI kf), .ref (mo + 1), .ref (mo + 2), .int na, .ref (mo + 3), .ref (mo + 4), .ref (mo + 5), .int nt, .ref (mo + 6), .ref (mo + 7), .ref (mo + 8), .ref (mo + 9), .ref (mo + 10), .ref (mo + 11), .ref (mo + 12), .ref (mo + 13), .ref (mo + 14), .int po, .int dr])) (mo + 1) (aI g 16 zw) := fp_o.ne o_width ne_1
  have o_held : fp_o b n (va_up f mo (ob 8 [.int 0, .int (nI kf), .ref (mo + 1), .ref (mo + 2), .int na, .ref (mo + 3), .ref (mo + 4), .ref (mo + 5), .int nt, .ref (mo + 6), .ref (mo + 7), .ref (mo + 8), .ref (mo + 9), .ref (mo + 10), .ref (mo + 11), .ref (mo + 12), .ref (mo + 13), .ref (mo + 14), .int po, .int dr])) (mo + 2) (aI g 16 zh) := fp_o.ne o_held ne_2
  have om : fp_o b n (va_up f mo (ob 8 [.int 0, .int (nI kf), .ref (mo + 1), .ref (mo + 2), .int na, .ref (mo + 3), .ref (mo + 4), .ref (mo + 5), .int nt, .ref (mo + 6), .ref (mo + 7), .ref (mo + 8), .ref (mo + 9), .ref (mo + 10), .ref (mo + 11), .ref (mo + 12), .ref (mo + 13), .ref (mo + 14), .int po, .int dr])) mo (ob 8 [.int 0, .int (nI kf), .ref (mo + 1), .ref (mo + 2), .int na, .ref (mo + 3), .ref (mo + 4), .ref (mo + 5), .int nt, .ref (mo + 6), .ref (mo + 7), .ref (mo + 8), .ref (mo + 9), .ref (mo + 10), .ref (mo + 11), .ref (mo + 12), .ref (mo + 13), .ref (mo + 14), .int po, .int dr]) := fp_o.up om
  refine lv_aload_n hx hb d_M_field_33 rfl (lv_at hl 0 rfl) ?_
  refine fp_get X Y om rfl in_M 0 (by decide) w601 rfl d_M_field_34 ?_
  refine lv_if_eq (tgt := 42) hx hb d_M_field_37 (by decide) (fun c_37 => ?_) (fun c_37 => absurd rfl c_37)
  refine lv_aload_n hx hb d_M_field_42 rfl (lv_at hl 0 rfl) ?_
  refine fp_get X Y om rfl in_M 2 (by decide) w603 rfl d_M_field_43 ?_
  refine lv_aload_n hx hb d_M_field_46 rfl (lv_at hl 0 rfl) ?_
  refine fp_get X Y om rfl in_M 1 (by decide) w602 rfl d_M_field_47 ?_
  refine lv_iload_n hx hb d_M_field_50 rfl (lv_at hl 1 rfl) ?_
  refine fp_ist X Y o_width kf rfl hkf (by decide) d_M_field_51 (fun H locs Y => ?_)
  have ne_3 : mo ≠ mo + 1 := (fp_o.nf om o_width (by simp))
  have ne_4 : mo + 2 ≠ mo + 1 := (by omega)
  have Y : fp_H D b n A (va_up (va_up f mo (ob 8 [.int 0, .int (nI kf), .ref (mo + 1), .ref (mo + 2), .int na, .ref (mo + 3), .ref (mo + 4), .ref (mo + 5), .int nt, .ref (mo + 6), .ref (mo + 7), .ref (mo + 8), .ref (mo + 9), .ref (mo + 10), .ref (mo + 11), .ref (mo + 12), .ref (mo + 13), .ref (mo + 14), .int po, .int dr])) (mo + 1) (aI g 16 (upd zw kf x))) s.heap H locs := Y
  have om : fp_o b n (va_up (va_up f mo (ob 8 [.int 0, .int (nI kf), .ref (mo + 1), .ref (mo + 2), .int na, .ref (mo + 3), .ref (mo + 4), .ref (mo + 5), .int nt, .ref (mo + 6), .ref (mo + 7), .ref (mo + 8), .ref (mo + 9), .ref (mo + 10), .ref (mo + 11), .ref (mo + 12), .ref (mo + 13), .ref (mo + 14), .int po, .int dr])) (mo + 1) (aI g 16 (upd zw kf x))) mo (ob 8 [.int 0, .int (nI kf), .ref (mo + 1), .ref (mo + 2), .int na, .ref (mo + 3), .ref (mo + 4), .ref (mo + 5), .int nt, .ref (mo + 6), .ref (mo + 7), .ref (mo + 8), .ref (mo + 9), .ref (mo + 10), .ref (mo + 11), .ref (mo + 12), .ref (mo + 13), .ref (mo + 14), .int po, .int dr]) := fp_o.ne om ne_3
  have o_held : fp_o b n (va_up (va_up f mo (ob 8 [.int 0, .int (nI kf), .ref (mo + 1), .ref (mo + 2), .int na, .ref (mo + 3), .ref (mo + 4), .ref (mo + 5), .int nt, .ref (mo + 6), .ref (mo + 7), .ref (mo + 8), .ref (mo + 9), .ref (mo + 10), .ref (mo + 11), .ref (mo + 12), .ref (mo + 13), .ref (mo + 14), .int po, .int dr])) (mo + 1) (aI g 16 (upd zw kf x))) (mo + 2) (aI g 16 zh) := fp_o.ne o_held ne_4
  have o_width : fp_o b n (va_up (va_up f mo (ob 8 [.int 0, .int (nI kf), .ref (mo + 1), .ref (mo + 2), .int na, .ref (mo + 3), .ref (mo + 4), .ref (mo + 5), .int nt, .ref (mo + 6), .ref (mo + 7), .ref (mo + 8), .ref (mo + 9), .ref (mo + 10), .ref (mo + 11), .ref (mo + 12), .ref (mo + 13), .ref (mo + 14), .int po, .int dr])) (mo + 1) (aI g 16 (upd zw kf x))) (mo + 1) (aI g 16 (upd zw kf x)) := fp_o.up o_width
  refine lv_aload_n hx hb d_M_field_52 rfl (lv_at hl 0 rfl) ?_
  refine fp_get X Y om rfl in_M 3 (by decide) w604 rfl d_M_field_53 ?_
  refine lv_aload_n hx hb d_M_field_56 rfl (lv_at hl 0 rfl) ?_
  refine fp_get X Y om rfl in_M 1 (by decide) w602 rfl d_M_field_57 ?_
  refine lv_iconst (v := 0) hx hb d_M_field_60 (by decide) ?_
  refine fp_ist X Y o_held kf rfl hkf (by decide) d_M_field_61 (fun H locs Y => ?_)
  have ne_5 : mo ≠ mo + 2 := (fp_o.nf om o_held (by simp))
  have ne_6 : mo + 1 ≠ mo + 2 := (by omega)
  have Y : fp_H D b n A (va_up (va_up (va_up f mo (ob 8 [.int 0, .int (nI kf), .ref (mo + 1), .ref (mo + 2), .int na, .ref (mo + 3), .ref (mo + 4), .ref (mo + 5), .int nt, .ref (mo + 6), .ref (mo + 7), .ref (mo + 8), .ref (mo + 9), .ref (mo + 10), .ref (mo + 11), .ref (mo + 12), .ref (mo + 13), .ref (mo + 14), .int po, .int dr])) (mo + 1) (aI g 16 (upd zw kf x))) (mo + 2) (aI g 16 (upd zh kf 0))) s.heap H locs := Y
  have om : fp_o b n (va_up (va_up (va_up f mo (ob 8 [.int 0, .int (nI kf), .ref (mo + 1), .ref (mo + 2), .int na, .ref (mo + 3), .ref (mo + 4), .ref (mo + 5), .int nt, .ref (mo + 6), .ref (mo + 7), .ref (mo + 8), .ref (mo + 9), .ref (mo + 10), .ref (mo + 11), .ref (mo + 12), .ref (mo + 13), .ref (mo + 14), .int po, .int dr])) (mo + 1) (aI g 16 (upd zw kf x))) (mo + 2) (aI g 16 (upd zh kf 0))) mo (ob 8 [.int 0, .int (nI kf), .ref (mo + 1), .ref (mo + 2), .int na, .ref (mo + 3), .ref (mo + 4), .ref (mo + 5), .int nt, .ref (mo + 6), .ref (mo + 7), .ref (mo + 8), .ref (mo + 9), .ref (mo + 10), .ref (mo + 11), .ref (mo + 12), .ref (mo + 13), .ref (mo + 14), .int po, .int dr]) := fp_o.ne om ne_5
  have o_width : fp_o b n (va_up (va_up (va_up f mo (ob 8 [.int 0, .int (nI kf), .ref (mo + 1), .ref (mo + 2), .int na, .ref (mo + 3), .ref (mo + 4), .ref (mo + 5), .int nt, .ref (mo + 6), .ref (mo + 7), .ref (mo + 8), .ref (mo + 9), .ref (mo + 10), .ref (mo + 11), .ref (mo + 12), .ref (mo + 13), .ref (mo + 14), .int po, .int dr])) (mo + 1) (aI g 16 (upd zw kf x))) (mo + 2) (aI g 16 (upd zh kf 0))) (mo + 1) (aI g 16 (upd zw kf x)) := fp_o.ne o_width ne_6
  have o_held : fp_o b n (va_up (va_up (va_up f mo (ob 8 [.int 0, .int (nI kf), .ref (mo + 1), .ref (mo + 2), .int na, .ref (mo + 3), .ref (mo + 4), .ref (mo + 5), .int nt, .ref (mo + 6), .ref (mo + 7), .ref (mo + 8), .ref (mo + 9), .ref (mo + 10), .ref (mo + 11), .ref (mo + 12), .ref (mo + 13), .ref (mo + 14), .int po, .int dr])) (mo + 1) (aI g 16 (upd zw kf x))) (mo + 2) (aI g 16 (upd zh kf 0))) (mo + 2) (aI g 16 (upd zh kf 0)) := fp_o.up o_held
  refine lv_aload_n hx hb d_M_field_62 rfl (lv_at hl 0 rfl) ?_
  refine lv_dup hx hb d_M_field_63 rfl ?_
  refine fp_get X Y om rfl in_M 1 (by decide) w602 rfl d_M_field_64 ?_
  refine lv_iconst (v := 1) hx hb d_M_field_67 (by decide) ?_
  refine lv_iadd hx hb d_M_field_68 ?_
  refine fp_put X Y om rfl in_M to_M nm_M 1 (by decide) w602 rfl rfl rfl (Nat.le_of_ble_eq_true rfl) d_M_field_69 (fun H locs Y => ?_)
  have ne_7 : mo + 1 ≠ mo := (fp_o.nf o_width om (by simp))
  have ne_8 : mo + 2 ≠ mo := (fp_o.nf o_held om (by simp))
  have Y : fp_H D b n A (va_up (va_up (va_up (va_up f mo (ob 8 [.int 0, .int (nI kf), .ref (mo + 1), .ref (mo + 2), .int na, .ref (mo + 3), .ref (mo + 4), .ref (mo + 5), .int nt, .ref (mo + 6), .ref (mo + 7), .ref (mo + 8), .ref (mo + 9), .ref (mo + 10), .ref (mo + 11), .ref (mo + 12), .ref (mo + 13), .ref (mo + 14), .int po, .int dr])) (mo + 1) (aI g 16 (upd zw kf x))) (mo + 2) (aI g 16 (upd zh kf 0))) mo (ob 8 [.int 0, .int ((nI kf) + 1), .ref (mo + 1), .ref (mo + 2), .int na, .ref (mo + 3), .ref (mo + 4), .ref (mo + 5), .int nt, .ref (mo + 6), .ref (mo + 7), .ref (mo + 8), .ref (mo + 9), .ref (mo + 10), .ref (mo + 11), .ref (mo + 12), .ref (mo + 13), .ref (mo + 14), .int po, .int dr])) s.heap H locs := Y
  have o_width : fp_o b n (va_up (va_up (va_up (va_up f mo (ob 8 [.int 0, .int (nI kf), .ref (mo + 1), .ref (mo + 2), .int na, .ref (mo + 3), .ref (mo + 4), .ref (mo + 5), .int nt, .ref (mo + 6), .ref (mo + 7), .ref (mo + 8), .ref (mo + 9), .ref (mo + 10), .ref (mo + 11), .ref (mo + 12), .ref (mo + 13), .ref (mo + 14), .int po, .int dr])) (mo + 1) (aI g 16 (upd zw kf x))) (mo + 2) (aI g 16 (upd zh kf 0))) mo (ob 8 [.int 0, .int ((nI kf) + 1), .ref (mo + 1), .ref (mo + 2), .int na, .ref (mo + 3), .ref (mo + 4), .ref (mo + 5), .int nt, .ref (mo + 6), .ref (mo + 7), .ref (mo + 8), .ref (mo + 9), .ref (mo + 10), .ref (mo + 11), .ref (mo + 12), .ref (mo + 13), .ref (mo + 14), .int po, .int dr])) (mo + 1) (aI g 16 (upd zw kf x)) := fp_o.ne o_width ne_7
  have o_held : fp_o b n (va_up (va_up (va_up (va_up f mo (ob 8 [.int 0, .int (nI kf), .ref (mo + 1), .ref (mo + 2), .int na, .ref (mo + 3), .ref (mo + 4), .ref (mo + 5), .int nt, .ref (mo + 6), .ref (mo + 7), .ref (mo + 8), .ref (mo + 9), .ref (mo + 10), .ref (mo + 11), .ref (mo + 12), .ref (mo + 13), .ref (mo + 14), .int po, .int dr])) (mo + 1) (aI g 16 (upd zw kf x))) (mo + 2) (aI g 16 (upd zh kf 0))) mo (ob 8 [.int 0, .int ((nI kf) + 1), .ref (mo + 1), .ref (mo + 2), .int na, .ref (mo + 3), .ref (mo + 4), .ref (mo + 5), .int nt, .ref (mo + 6), .ref (mo + 7), .ref (mo + 8), .ref (mo + 9), .ref (mo + 10), .ref (mo + 11), .ref (mo + 12), .ref (mo + 13), .ref (mo + 14), .int po, .int dr])) (mo + 2) (aI g 16 (upd zh kf 0)) := fp_o.ne o_held ne_8
  have om : fp_o b n (va_up (va_up (va_up (va_up f mo (ob 8 [.int 0, .int (nI kf), .ref (mo + 1), .ref (mo + 2), .int na, .ref (mo + 3), .ref (mo + 4), .ref (mo + 5), .int nt, .ref (mo + 6), .ref (mo + 7), .ref (mo + 8), .ref (mo + 9), .ref (mo + 10), .ref (mo + 11), .ref (mo + 12), .ref (mo + 13), .ref (mo + 14), .int po, .int dr])) (mo + 1) (aI g 16 (upd zw kf x))) (mo + 2) (aI g 16 (upd zh kf 0))) mo (ob 8 [.int 0, .int ((nI kf) + 1), .ref (mo + 1), .ref (mo + 2), .int na, .ref (mo + 3), .ref (mo + 4), .ref (mo + 5), .int nt, .ref (mo + 6), .ref (mo + 7), .ref (mo + 8), .ref (mo + 9), .ref (mo + 10), .ref (mo + 11), .ref (mo + 12), .ref (mo + 13), .ref (mo + 14), .int po, .int dr])) mo (ob 8 [.int 0, .int ((nI kf) + 1), .ref (mo + 1), .ref (mo + 2), .int na, .ref (mo + 3), .ref (mo + 4), .ref (mo + 5), .int nt, .ref (mo + 6), .ref (mo + 7), .ref (mo + 8), .ref (mo + 9), .ref (mo + 10), .ref (mo + 11), .ref (mo + 12), .ref (mo + 13), .ref (mo + 14), .int po, .int dr]) := fp_o.up om
  refine lv_aload_n hx hb d_M_field_72 rfl (lv_at hl 0 rfl) ?_
  refine fp_get X Y om rfl in_M 1 (by decide) w602 rfl d_M_field_73 ?_
  refine lv_iconst (v := 1) hx hb d_M_field_76 (by decide) ?_
  refine lv_isub hx hb d_M_field_77 ?_
  exact ret _ _ _ _ _ _ d_M_field_78 ⟨_, rfl, rfl⟩ ⟨by rw [nI_p1], by rw [← nI_1]⟩ Y
set_option maxHeartbeats 4000000 in
set_option maxRecDepth 100000 in
theorem c_M_action_t {l : Launch} {D : va_G} {g : Nat → ClassId} {b n : Nat} {A : Nat → Prop} {f : Nat → va_E} {mo : Nat} {th nf na nt po dr : Int32} (hfull : na = 16) (om : fp_o b n f mo (ob 8 [.int th, .int nf, .ref (mo + 1), .ref (mo + 2), .int na, .ref (mo + 3), .ref (mo + 4), .ref (mo + 5), .int nt, .ref (mo + 6), .ref (mo + 7), .ref (mo + 8), .ref (mo + 9), .ref (mo + 10), .ref (mo + 11), .ref (mo + 12), .ref (mo + 13), .ref (mo + 14), .int po, .int dr]))  (hA : fp_W b n A := by assumption) : fp_M l D (TY g) b n A y_M_action (fp_ws y_M_action b_M_action 1 (some FieldType.int)) (rmD 0) [.ref mo] f (fun v f' => v = some (.int 0) ∧ f' = va_up f mo (ob 8 [.int 1, .int nf, .ref (mo + 1), .ref (mo + 2), .int na, .ref (mo + 3), .ref (mo + 4), .ref (mo + 5), .int nt, .ref (mo + 6), .ref (mo + 7), .ref (mo + 8), .ref (mo + 9), .ref (mo + 10), .ref (mo + 11), .ref (mo + 12), .ref (mo + 13), .ref (mo + 14), .int po, .int dr])) := by
  refine fp_ofI (plainFor_of_name (by decide)) (Nat.le_of_ble_eq_true rfl) ?_
  intro p e s m args below meth c Q ls H locs X Y hl ret
  have hx := X.1.1
  have hb := X.1.2.1
  have hl : lv_has ls 1 [(0, .ref mo)] := hl
  refine lv_aload_n hx hb d_M_action_0 rfl (lv_at hl 0 rfl) ?_
  refine lv_aload_n hx hb d_M_action_1 rfl (lv_at hl 0 rfl) ?_
  refine fp_get X Y om rfl in_M 4 (by decide) w605 rfl d_M_action_2 ?_
  refine lv_bipush (v := 16) hx hb d_M_action_5 (by decide) ?_
  refine lv_icmp_ne (tgt := 14) hx hb d_M_action_7 (by decide) (fun c_7 => absurd hfull c_7) (fun c_7 => ?_)
  refine lv_iconst (v := 1) hx hb d_M_action_10 (by decide) ?_
  refine lv_goto (tgt := 15) hx hb d_M_action_11 (by decide) ?_
  refine fp_put X Y om rfl in_M to_M nm_M 0 (by decide) w601 rfl rfl rfl (Nat.le_of_ble_eq_true rfl) d_M_action_15 (fun H locs Y => ?_)
  have Y : fp_H D b n A (va_up f mo (ob 8 [.int 1, .int nf, .ref (mo + 1), .ref (mo + 2), .int na, .ref (mo + 3), .ref (mo + 4), .ref (mo + 5), .int nt, .ref (mo + 6), .ref (mo + 7), .ref (mo + 8), .ref (mo + 9), .ref (mo + 10), .ref (mo + 11), .ref (mo + 12), .ref (mo + 13), .ref (mo + 14), .int po, .int dr])) s.heap H locs := Y
  have om : fp_o b n (va_up f mo (ob 8 [.int 1, .int nf, .ref (mo + 1), .ref (mo + 2), .int na, .ref (mo + 3), .ref (mo + 4), .ref (mo + 5), .int nt, .ref (mo + 6), .ref (mo + 7), .ref (mo + 8), .ref (mo + 9), .ref (mo + 10), .ref (mo + 11), .ref (mo + 12), .ref (mo + 13), .ref (mo + 14), .int po, .int dr])) mo (ob 8 [.int 1, .int nf, .ref (mo + 1), .ref (mo + 2), .int na, .ref (mo + 3), .ref (mo + 4), .ref (mo + 5), .int nt, .ref (mo + 6), .ref (mo + 7), .ref (mo + 8), .ref (mo + 9), .ref (mo + 10), .ref (mo + 11), .ref (mo + 12), .ref (mo + 13), .ref (mo + 14), .int po, .int dr]) := fp_o.up om
  refine lv_aload_n hx hb d_M_action_18 rfl (lv_at hl 0 rfl) ?_
  refine fp_get X Y om rfl in_M 0 (by decide) w601 rfl d_M_action_19 ?_
  refine lv_if_eq (tgt := 27) hx hb d_M_action_22 (by decide) (fun c_22 => absurd c_22 (by decide)) (fun c_22 => ?_)
  refine lv_iconst (v := 0) hx hb d_M_action_25 (by decide) ?_
  exact ret _ _ _ _ _ _ d_M_action_26 ⟨_, rfl, rfl⟩ ⟨rfl, rfl⟩ Y
set_option maxHeartbeats 4000000 in
set_option maxRecDepth 100000 in
theorem c_M_action {l : Launch} {D : va_G} {g : Nat → ClassId} {b n : Nat} {A : Nat → Prop} {f : Nat → va_E} {mo : Nat} {th nf nt po dr : Int32} {acn : Nat} {zn : Nat → Int32} (hac : acn < 16) (om : fp_o b n f mo (ob 8 [.int th, .int nf, .ref (mo + 1), .ref (mo + 2), .int (nI acn), .ref (mo + 3), .ref (mo + 4), .ref (mo + 5), .int nt, .ref (mo + 6), .ref (mo + 7), .ref (mo + 8), .ref (mo + 9), .ref (mo + 10), .ref (mo + 11), .ref (mo + 12), .ref (mo + 13), .ref (mo + 14), .int po, .int dr])) (o_doings : fp_o b n f (mo + 3) (aI g 16 zn))  (hA : fp_W b n A := by assumption) : fp_M l D (TY g) b n A y_M_action (fp_ws y_M_action b_M_action 1 (some FieldType.int)) (rmD 0) [.ref mo] f (fun v f' => v = some (.int (nI acn)) ∧ f' = va_up (va_up (va_up f (mo) (ob 8 [.int 0, .int nf, .ref (mo + 1), .ref (mo + 2), .int (nI acn), .ref (mo + 3), .ref (mo + 4), .ref (mo + 5), .int nt, .ref (mo + 6), .ref (mo + 7), .ref (mo + 8), .ref (mo + 9), .ref (mo + 10), .ref (mo + 11), .ref (mo + 12), .ref (mo + 13), .ref (mo + 14), .int po, .int dr])) (mo + 3) (aI g 16 (upd zn acn 0))) (mo) (ob 8 [.int 0, .int nf, .ref (mo + 1), .ref (mo + 2), .int (nI (acn + 1)), .ref (mo + 3), .ref (mo + 4), .ref (mo + 5), .int nt, .ref (mo + 6), .ref (mo + 7), .ref (mo + 8), .ref (mo + 9), .ref (mo + 10), .ref (mo + 11), .ref (mo + 12), .ref (mo + 13), .ref (mo + 14), .int po, .int dr])) := by
  refine fp_ofI (plainFor_of_name (by decide)) (Nat.le_of_ble_eq_true rfl) ?_
  intro p e s m args below meth c Q ls H locs X Y hl ret
  have hx := X.1.1
  have hb := X.1.2.1
  have hl : lv_has ls 1 [(0, .ref mo)] := hl
  refine lv_aload_n hx hb d_M_action_0 rfl (lv_at hl 0 rfl) ?_
  refine lv_aload_n hx hb d_M_action_1 rfl (lv_at hl 0 rfl) ?_
  refine fp_get X Y om rfl in_M 4 (by decide) w605 rfl d_M_action_2 ?_
  refine lv_bipush (v := 16) hx hb d_M_action_5 (by decide) ?_
  refine lv_icmp_ne (tgt := 14) hx hb d_M_action_7 (by decide) (fun c_7 => ?_) (fun c_7 => absurd c_7 (fun q => absurd ((nI_eq (by omega) (by decide)).mp (show nI acn = nI 16 from q)) (by omega)))
  refine lv_iconst (v := 0) hx hb d_M_action_14 (by decide) ?_
  refine fp_put X Y om rfl in_M to_M nm_M 0 (by decide) w601 rfl rfl rfl (Nat.le_of_ble_eq_true rfl) d_M_action_15 (fun H locs Y => ?_)
  have ne_1 : mo + 3 ≠ mo := (fp_o.nf o_doings om (by simp))
  have Y : fp_H D b n A (va_up f mo (ob 8 [.int 0, .int nf, .ref (mo + 1), .ref (mo + 2), .int (nI acn), .ref (mo + 3), .ref (mo + 4), .ref (mo + 5), .int nt, .ref (mo + 6), .ref (mo + 7), .ref (mo + 8), .ref (mo + 9), .ref (mo + 10), .ref (mo + 11), .ref (mo + 12), .ref (mo + 13), .ref (mo + 14), .int po, .int dr])) s.heap H locs := Y
  have o_doings : fp_o b n (va_up f mo (ob 8 [.int 0, .int nf, .ref (mo + 1), .ref (mo + 2), .int (nI acn), .ref (mo + 3), .ref (mo + 4), .ref (mo + 5), .int nt, .ref (mo + 6), .ref (mo + 7), .ref (mo + 8), .ref (mo + 9), .ref (mo + 10), .ref (mo + 11), .ref (mo + 12), .ref (mo + 13), .ref (mo + 14), .int po, .int dr])) (mo + 3) (aI g 16 zn) := fp_o.ne o_doings ne_1
  have om : fp_o b n (va_up f mo (ob 8 [.int 0, .int nf, .ref (mo + 1), .ref (mo + 2), .int (nI acn), .ref (mo + 3), .ref (mo + 4), .ref (mo + 5), .int nt, .ref (mo + 6), .ref (mo + 7), .ref (mo + 8), .ref (mo + 9), .ref (mo + 10), .ref (mo + 11), .ref (mo + 12), .ref (mo + 13), .ref (mo + 14), .int po, .int dr])) mo (ob 8 [.int 0, .int nf, .ref (mo + 1), .ref (mo + 2), .int (nI acn), .ref (mo + 3), .ref (mo + 4), .ref (mo + 5), .int nt, .ref (mo + 6), .ref (mo + 7), .ref (mo + 8), .ref (mo + 9), .ref (mo + 10), .ref (mo + 11), .ref (mo + 12), .ref (mo + 13), .ref (mo + 14), .int po, .int dr]) := fp_o.up om
  refine lv_aload_n hx hb d_M_action_18 rfl (lv_at hl 0 rfl) ?_
  refine fp_get X Y om rfl in_M 0 (by decide) w601 rfl d_M_action_19 ?_
  refine lv_if_eq (tgt := 27) hx hb d_M_action_22 (by decide) (fun c_22 => ?_) (fun c_22 => absurd rfl c_22)
  refine lv_aload_n hx hb d_M_action_27 rfl (lv_at hl 0 rfl) ?_
  refine fp_get X Y om rfl in_M 5 (by decide) w606 rfl d_M_action_28 ?_
  refine lv_aload_n hx hb d_M_action_31 rfl (lv_at hl 0 rfl) ?_
  refine fp_get X Y om rfl in_M 4 (by decide) w605 rfl d_M_action_32 ?_
  refine lv_iconst (v := 0) hx hb d_M_action_35 (by decide) ?_
  refine fp_ist X Y o_doings acn rfl hac (by decide) d_M_action_36 (fun H locs Y => ?_)
  have ne_2 : mo ≠ mo + 3 := (fp_o.nf om o_doings (by simp))
  have Y : fp_H D b n A (va_up (va_up f mo (ob 8 [.int 0, .int nf, .ref (mo + 1), .ref (mo + 2), .int (nI acn), .ref (mo + 3), .ref (mo + 4), .ref (mo + 5), .int nt, .ref (mo + 6), .ref (mo + 7), .ref (mo + 8), .ref (mo + 9), .ref (mo + 10), .ref (mo + 11), .ref (mo + 12), .ref (mo + 13), .ref (mo + 14), .int po, .int dr])) (mo + 3) (aI g 16 (upd zn acn 0))) s.heap H locs := Y
  have om : fp_o b n (va_up (va_up f mo (ob 8 [.int 0, .int nf, .ref (mo + 1), .ref (mo + 2), .int (nI acn), .ref (mo + 3), .ref (mo + 4), .ref (mo + 5), .int nt, .ref (mo + 6), .ref (mo + 7), .ref (mo + 8), .ref (mo + 9), .ref (mo + 10), .ref (mo + 11), .ref (mo + 12), .ref (mo + 13), .ref (mo + 14), .int po, .int dr])) (mo + 3) (aI g 16 (upd zn acn 0))) mo (ob 8 [.int 0, .int nf, .ref (mo + 1), .ref (mo + 2), .int (nI acn), .ref (mo + 3), .ref (mo + 4), .ref (mo + 5), .int nt, .ref (mo + 6), .ref (mo + 7), .ref (mo + 8), .ref (mo + 9), .ref (mo + 10), .ref (mo + 11), .ref (mo + 12), .ref (mo + 13), .ref (mo + 14), .int po, .int dr]) := fp_o.ne om ne_2
  have o_doings : fp_o b n (va_up (va_up f mo (ob 8 [.int 0, .int nf, .ref (mo + 1), .ref (mo + 2), .int (nI acn), .ref (mo + 3), .ref (mo + 4), .ref (mo + 5), .int nt, .ref (mo + 6), .ref (mo + 7), .ref (mo + 8), .ref (mo + 9), .ref (mo + 10), .ref (mo + 11), .ref (mo + 12), .ref (mo + 13), .ref (mo + 14), .int po, .int dr])) (mo + 3) (aI g 16 (upd zn acn 0))) (mo + 3) (aI g 16 (upd zn acn 0)) := fp_o.up o_doings
  refine lv_aload_n hx hb d_M_action_37 rfl (lv_at hl 0 rfl) ?_
  refine lv_dup hx hb d_M_action_38 rfl ?_
  refine fp_get X Y om rfl in_M 4 (by decide) w605 rfl d_M_action_39 ?_
  refine lv_iconst (v := 1) hx hb d_M_action_42 (by decide) ?_
  refine lv_iadd hx hb d_M_action_43 ?_
  refine fp_put X Y om rfl in_M to_M nm_M 4 (by decide) w605 rfl rfl rfl (Nat.le_of_ble_eq_true rfl) d_M_action_44 (fun H locs Y => ?_)
  have ne_3 : mo + 3 ≠ mo := (fp_o.nf o_doings om (by simp))
  have Y : fp_H D b n A (va_up (va_up (va_up f mo (ob 8 [.int 0, .int nf, .ref (mo + 1), .ref (mo + 2), .int (nI acn), .ref (mo + 3), .ref (mo + 4), .ref (mo + 5), .int nt, .ref (mo + 6), .ref (mo + 7), .ref (mo + 8), .ref (mo + 9), .ref (mo + 10), .ref (mo + 11), .ref (mo + 12), .ref (mo + 13), .ref (mo + 14), .int po, .int dr])) (mo + 3) (aI g 16 (upd zn acn 0))) mo (ob 8 [.int 0, .int nf, .ref (mo + 1), .ref (mo + 2), .int ((nI acn) + 1), .ref (mo + 3), .ref (mo + 4), .ref (mo + 5), .int nt, .ref (mo + 6), .ref (mo + 7), .ref (mo + 8), .ref (mo + 9), .ref (mo + 10), .ref (mo + 11), .ref (mo + 12), .ref (mo + 13), .ref (mo + 14), .int po, .int dr])) s.heap H locs := Y
  have o_doings : fp_o b n (va_up (va_up (va_up f mo (ob 8 [.int 0, .int nf, .ref (mo + 1), .ref (mo + 2), .int (nI acn), .ref (mo + 3), .ref (mo + 4), .ref (mo + 5), .int nt, .ref (mo + 6), .ref (mo + 7), .ref (mo + 8), .ref (mo + 9), .ref (mo + 10), .ref (mo + 11), .ref (mo + 12), .ref (mo + 13), .ref (mo + 14), .int po, .int dr])) (mo + 3) (aI g 16 (upd zn acn 0))) mo (ob 8 [.int 0, .int nf, .ref (mo + 1), .ref (mo + 2), .int ((nI acn) + 1), .ref (mo + 3), .ref (mo + 4), .ref (mo + 5), .int nt, .ref (mo + 6), .ref (mo + 7), .ref (mo + 8), .ref (mo + 9), .ref (mo + 10), .ref (mo + 11), .ref (mo + 12), .ref (mo + 13), .ref (mo + 14), .int po, .int dr])) (mo + 3) (aI g 16 (upd zn acn 0)) := fp_o.ne o_doings ne_3
  have om : fp_o b n (va_up (va_up (va_up f mo (ob 8 [.int 0, .int nf, .ref (mo + 1), .ref (mo + 2), .int (nI acn), .ref (mo + 3), .ref (mo + 4), .ref (mo + 5), .int nt, .ref (mo + 6), .ref (mo + 7), .ref (mo + 8), .ref (mo + 9), .ref (mo + 10), .ref (mo + 11), .ref (mo + 12), .ref (mo + 13), .ref (mo + 14), .int po, .int dr])) (mo + 3) (aI g 16 (upd zn acn 0))) mo (ob 8 [.int 0, .int nf, .ref (mo + 1), .ref (mo + 2), .int ((nI acn) + 1), .ref (mo + 3), .ref (mo + 4), .ref (mo + 5), .int nt, .ref (mo + 6), .ref (mo + 7), .ref (mo + 8), .ref (mo + 9), .ref (mo + 10), .ref (mo + 11), .ref (mo + 12), .ref (mo + 13), .ref (mo + 14), .int po, .int dr])) mo (ob 8 [.int 0, .int nf, .ref (mo + 1), .ref (mo + 2), .int ((nI acn) + 1), .ref (mo + 3), .ref (mo + 4), .ref (mo + 5), .int nt, .ref (mo + 6), .ref (mo + 7), .ref (mo + 8), .ref (mo + 9), .ref (mo + 10), .ref (mo + 11), .ref (mo + 12), .ref (mo + 13), .ref (mo + 14), .int po, .int dr]) := fp_o.up om
  refine lv_aload_n hx hb d_M_action_47 rfl (lv_at hl 0 rfl) ?_
  refine fp_get X Y om rfl in_M 4 (by decide) w605 rfl d_M_action_48 ?_
  refine lv_iconst (v := 1) hx hb d_M_action_51 (by decide) ?_
  refine lv_isub hx hb d_M_action_52 ?_
  exact ret _ _ _ _ _ _ d_M_action_53 ⟨_, rfl, rfl⟩ ⟨by rw [nI_p1], by rw [← nI_1]⟩ Y
set_option maxHeartbeats 4000000 in
set_option maxRecDepth 100000 in
theorem c_M_key {l : Launch} {D : va_G} {g : Nat → ClassId} {b n : Nat} {A : Nat → Prop} {f : Nat → va_E} {mo : Nat} {th nf na nt po dr : Int32} {zk : Nat → Int32} (x1 x2 x3 x4 : Int32) (om : fp_o b n f mo (ob 8 [.int th, .int nf, .ref (mo + 1), .ref (mo + 2), .int na, .ref (mo + 3), .ref (mo + 4), .ref (mo + 5), .int nt, .ref (mo + 6), .ref (mo + 7), .ref (mo + 8), .ref (mo + 9), .ref (mo + 10), .ref (mo + 11), .ref (mo + 12), .ref (mo + 13), .ref (mo + 14), .int po, .int dr])) (o_key : fp_o b n f (mo + 13) (aI g 4 zk))  (hA : fp_W b n A := by assumption) : fp_M l D (TY g) b n A y_M_key (fp_ws y_M_key b_M_key 5 none) (rmD 0) [.ref mo, .int x1, .int x2, .int x3, .int x4] f (fun v f' => v = none ∧ f' = va_up (va_up f (mo) (ob 8 [.int 0, .int nf, .ref (mo + 1), .ref (mo + 2), .int na, .ref (mo + 3), .ref (mo + 4), .ref (mo + 5), .int nt, .ref (mo + 6), .ref (mo + 7), .ref (mo + 8), .ref (mo + 9), .ref (mo + 10), .ref (mo + 11), .ref (mo + 12), .ref (mo + 13), .ref (mo + 14), .int po, .int dr])) (mo + 13) (aI g 4 (upd (upd (upd (upd zk 0 x1) 1 x2) 2 x3) 3 x4))) := by
  refine fp_ofV (plainFor_of_name (by decide)) (Nat.le_of_ble_eq_true rfl) ?_
  intro p e s m args below meth c Q ls H locs X Y hl ret
  have hx := X.1.1
  have hb := X.1.2.1
  have hl : lv_has ls 5 [(0, .ref mo), (1, .int x1), (2, .int x2), (3, .int x3), (4, .int x4)] := hl
  refine lv_aload_n hx hb d_M_key_0 rfl (lv_at hl 0 rfl) ?_
  refine lv_iconst (v := 0) hx hb d_M_key_1 (by decide) ?_
  refine fp_put X Y om rfl in_M to_M nm_M 0 (by decide) w601 rfl rfl rfl (Nat.le_of_ble_eq_true rfl) d_M_key_2 (fun H locs Y => ?_)
  have ne_1 : mo + 13 ≠ mo := (fp_o.nf o_key om (by simp))
  have Y : fp_H D b n A (va_up f mo (ob 8 [.int 0, .int nf, .ref (mo + 1), .ref (mo + 2), .int na, .ref (mo + 3), .ref (mo + 4), .ref (mo + 5), .int nt, .ref (mo + 6), .ref (mo + 7), .ref (mo + 8), .ref (mo + 9), .ref (mo + 10), .ref (mo + 11), .ref (mo + 12), .ref (mo + 13), .ref (mo + 14), .int po, .int dr])) s.heap H locs := Y
  have o_key : fp_o b n (va_up f mo (ob 8 [.int 0, .int nf, .ref (mo + 1), .ref (mo + 2), .int na, .ref (mo + 3), .ref (mo + 4), .ref (mo + 5), .int nt, .ref (mo + 6), .ref (mo + 7), .ref (mo + 8), .ref (mo + 9), .ref (mo + 10), .ref (mo + 11), .ref (mo + 12), .ref (mo + 13), .ref (mo + 14), .int po, .int dr])) (mo + 13) (aI g 4 zk) := fp_o.ne o_key ne_1
  have om : fp_o b n (va_up f mo (ob 8 [.int 0, .int nf, .ref (mo + 1), .ref (mo + 2), .int na, .ref (mo + 3), .ref (mo + 4), .ref (mo + 5), .int nt, .ref (mo + 6), .ref (mo + 7), .ref (mo + 8), .ref (mo + 9), .ref (mo + 10), .ref (mo + 11), .ref (mo + 12), .ref (mo + 13), .ref (mo + 14), .int po, .int dr])) mo (ob 8 [.int 0, .int nf, .ref (mo + 1), .ref (mo + 2), .int na, .ref (mo + 3), .ref (mo + 4), .ref (mo + 5), .int nt, .ref (mo + 6), .ref (mo + 7), .ref (mo + 8), .ref (mo + 9), .ref (mo + 10), .ref (mo + 11), .ref (mo + 12), .ref (mo + 13), .ref (mo + 14), .int po, .int dr]) := fp_o.up om
  refine lv_aload_n hx hb d_M_key_5 rfl (lv_at hl 0 rfl) ?_
  refine fp_get X Y om rfl in_M 16 (by decide) w617 rfl d_M_key_6 ?_
  refine lv_iconst (v := 0) hx hb d_M_key_9 (by decide) ?_
  refine lv_iload_n hx hb d_M_key_10 rfl (lv_at hl 1 rfl) ?_
  refine fp_ist X Y o_key 0 rfl (by decide) (by decide) d_M_key_11 (fun H locs Y => ?_)
  have ne_2 : mo ≠ mo + 13 := (fp_o.nf om o_key (by simp))
  have Y : fp_H D b n A (va_up (va_up f mo (ob 8 [.int 0, .int nf, .ref (mo + 1), .ref (mo + 2), .int na, .ref (mo + 3), .ref (mo + 4), .ref (mo + 5), .int nt, .ref (mo + 6), .ref (mo + 7), .ref (mo + 8), .ref (mo + 9), .ref (mo + 10), .ref (mo + 11), .ref (mo + 12), .ref (mo + 13), .ref (mo + 14), .int po, .int dr])) (mo + 13) (aI g 4 (upd zk 0 x1))) s.heap H locs := Y
  have om : fp_o b n (va_up (va_up f mo (ob 8 [.int 0, .int nf, .ref (mo + 1), .ref (mo + 2), .int na, .ref (mo + 3), .ref (mo + 4), .ref (mo + 5), .int nt, .ref (mo + 6), .ref (mo + 7), .ref (mo + 8), .ref (mo + 9), .ref (mo + 10), .ref (mo + 11), .ref (mo + 12), .ref (mo + 13), .ref (mo + 14), .int po, .int dr])) (mo + 13) (aI g 4 (upd zk 0 x1))) mo (ob 8 [.int 0, .int nf, .ref (mo + 1), .ref (mo + 2), .int na, .ref (mo + 3), .ref (mo + 4), .ref (mo + 5), .int nt, .ref (mo + 6), .ref (mo + 7), .ref (mo + 8), .ref (mo + 9), .ref (mo + 10), .ref (mo + 11), .ref (mo + 12), .ref (mo + 13), .ref (mo + 14), .int po, .int dr]) := fp_o.ne om ne_2
  have o_key : fp_o b n (va_up (va_up f mo (ob 8 [.int 0, .int nf, .ref (mo + 1), .ref (mo + 2), .int na, .ref (mo + 3), .ref (mo + 4), .ref (mo + 5), .int nt, .ref (mo + 6), .ref (mo + 7), .ref (mo + 8), .ref (mo + 9), .ref (mo + 10), .ref (mo + 11), .ref (mo + 12), .ref (mo + 13), .ref (mo + 14), .int po, .int dr])) (mo + 13) (aI g 4 (upd zk 0 x1))) (mo + 13) (aI g 4 (upd zk 0 x1)) := fp_o.up o_key
  refine lv_aload_n hx hb d_M_key_12 rfl (lv_at hl 0 rfl) ?_
  refine fp_get X Y om rfl in_M 16 (by decide) w617 rfl d_M_key_13 ?_
  refine lv_iconst (v := 1) hx hb d_M_key_16 (by decide) ?_
  refine lv_iload_n hx hb d_M_key_17 rfl (lv_at hl 2 rfl) ?_
  refine fp_ist X Y o_key 1 rfl (by decide) (by decide) d_M_key_18 (fun H locs Y => ?_)
  have ne_3 : mo ≠ mo + 13 := (fp_o.nf om o_key (by simp))
  have Y := Y.re
  have Y : fp_H D b n A (va_up (va_up f mo (ob 8 [.int 0, .int nf, .ref (mo + 1), .ref (mo + 2), .int na, .ref (mo + 3), .ref (mo + 4), .ref (mo + 5), .int nt, .ref (mo + 6), .ref (mo + 7), .ref (mo + 8), .ref (mo + 9), .ref (mo + 10), .ref (mo + 11), .ref (mo + 12), .ref (mo + 13), .ref (mo + 14), .int po, .int dr])) (mo + 13) (aI g 4 (upd (upd zk 0 x1) 1 x2))) s.heap H locs := Y
  have om : fp_o b n (va_up (va_up f mo (ob 8 [.int 0, .int nf, .ref (mo + 1), .ref (mo + 2), .int na, .ref (mo + 3), .ref (mo + 4), .ref (mo + 5), .int nt, .ref (mo + 6), .ref (mo + 7), .ref (mo + 8), .ref (mo + 9), .ref (mo + 10), .ref (mo + 11), .ref (mo + 12), .ref (mo + 13), .ref (mo + 14), .int po, .int dr])) (mo + 13) (aI g 4 (upd (upd zk 0 x1) 1 x2))) mo (ob 8 [.int 0, .int nf, .ref (mo + 1), .ref (mo + 2), .int na, .ref (mo + 3), .ref (mo + 4), .ref (mo + 5), .int nt, .ref (mo + 6), .ref (mo + 7), .ref (mo + 8), .ref (mo + 9), .ref (mo + 10), .ref (mo + 11), .ref (mo + 12), .ref (mo + 13), .ref (mo + 14), .int po, .int dr]) := fp_o.re om ne_3
  have o_key : fp_o b n (va_up (va_up f mo (ob 8 [.int 0, .int nf, .ref (mo + 1), .ref (mo + 2), .int na, .ref (mo + 3), .ref (mo + 4), .ref (mo + 5), .int nt, .ref (mo + 6), .ref (mo + 7), .ref (mo + 8), .ref (mo + 9), .ref (mo + 10), .ref (mo + 11), .ref (mo + 12), .ref (mo + 13), .ref (mo + 14), .int po, .int dr])) (mo + 13) (aI g 4 (upd (upd zk 0 x1) 1 x2))) (mo + 13) (aI g 4 (upd (upd zk 0 x1) 1 x2)) := fp_o.rs o_key
  refine lv_aload_n hx hb d_M_key_19 rfl (lv_at hl 0 rfl) ?_
  refine fp_get X Y om rfl in_M 16 (by decide) w617 rfl d_M_key_20 ?_
  refine lv_iconst (v := 2) hx hb d_M_key_23 (by decide) ?_
  refine lv_iload_n hx hb d_M_key_24 rfl (lv_at hl 3 rfl) ?_
  refine fp_ist X Y o_key 2 rfl (by decide) (by decide) d_M_key_25 (fun H locs Y => ?_)
  have ne_4 : mo ≠ mo + 13 := (fp_o.nf om o_key (by simp))
  have Y := Y.re
  have Y : fp_H D b n A (va_up (va_up f mo (ob 8 [.int 0, .int nf, .ref (mo + 1), .ref (mo + 2), .int na, .ref (mo + 3), .ref (mo + 4), .ref (mo + 5), .int nt, .ref (mo + 6), .ref (mo + 7), .ref (mo + 8), .ref (mo + 9), .ref (mo + 10), .ref (mo + 11), .ref (mo + 12), .ref (mo + 13), .ref (mo + 14), .int po, .int dr])) (mo + 13) (aI g 4 (upd (upd (upd zk 0 x1) 1 x2) 2 x3))) s.heap H locs := Y
  have om : fp_o b n (va_up (va_up f mo (ob 8 [.int 0, .int nf, .ref (mo + 1), .ref (mo + 2), .int na, .ref (mo + 3), .ref (mo + 4), .ref (mo + 5), .int nt, .ref (mo + 6), .ref (mo + 7), .ref (mo + 8), .ref (mo + 9), .ref (mo + 10), .ref (mo + 11), .ref (mo + 12), .ref (mo + 13), .ref (mo + 14), .int po, .int dr])) (mo + 13) (aI g 4 (upd (upd (upd zk 0 x1) 1 x2) 2 x3))) mo (ob 8 [.int 0, .int nf, .ref (mo + 1), .ref (mo + 2), .int na, .ref (mo + 3), .ref (mo + 4), .ref (mo + 5), .int nt, .ref (mo + 6), .ref (mo + 7), .ref (mo + 8), .ref (mo + 9), .ref (mo + 10), .ref (mo + 11), .ref (mo + 12), .ref (mo + 13), .ref (mo + 14), .int po, .int dr]) := fp_o.re om ne_4
  have o_key : fp_o b n (va_up (va_up f mo (ob 8 [.int 0, .int nf, .ref (mo + 1), .ref (mo + 2), .int na, .ref (mo + 3), .ref (mo + 4), .ref (mo + 5), .int nt, .ref (mo + 6), .ref (mo + 7), .ref (mo + 8), .ref (mo + 9), .ref (mo + 10), .ref (mo + 11), .ref (mo + 12), .ref (mo + 13), .ref (mo + 14), .int po, .int dr])) (mo + 13) (aI g 4 (upd (upd (upd zk 0 x1) 1 x2) 2 x3))) (mo + 13) (aI g 4 (upd (upd (upd zk 0 x1) 1 x2) 2 x3)) := fp_o.rs o_key
  refine lv_aload_n hx hb d_M_key_26 rfl (lv_at hl 0 rfl) ?_
  refine fp_get X Y om rfl in_M 16 (by decide) w617 rfl d_M_key_27 ?_
  refine lv_iconst (v := 3) hx hb d_M_key_30 (by decide) ?_
  refine lv_iload hx hb d_M_key_31 (lv_at hl 4 rfl) ?_
  refine fp_ist X Y o_key 3 rfl (by decide) (by decide) d_M_key_33 (fun H locs Y => ?_)
  have ne_5 : mo ≠ mo + 13 := (fp_o.nf om o_key (by simp))
  have Y := Y.re
  have Y : fp_H D b n A (va_up (va_up f mo (ob 8 [.int 0, .int nf, .ref (mo + 1), .ref (mo + 2), .int na, .ref (mo + 3), .ref (mo + 4), .ref (mo + 5), .int nt, .ref (mo + 6), .ref (mo + 7), .ref (mo + 8), .ref (mo + 9), .ref (mo + 10), .ref (mo + 11), .ref (mo + 12), .ref (mo + 13), .ref (mo + 14), .int po, .int dr])) (mo + 13) (aI g 4 (upd (upd (upd (upd zk 0 x1) 1 x2) 2 x3) 3 x4))) s.heap H locs := Y
  have om : fp_o b n (va_up (va_up f mo (ob 8 [.int 0, .int nf, .ref (mo + 1), .ref (mo + 2), .int na, .ref (mo + 3), .ref (mo + 4), .ref (mo + 5), .int nt, .ref (mo + 6), .ref (mo + 7), .ref (mo + 8), .ref (mo + 9), .ref (mo + 10), .ref (mo + 11), .ref (mo + 12), .ref (mo + 13), .ref (mo + 14), .int po, .int dr])) (mo + 13) (aI g 4 (upd (upd (upd (upd zk 0 x1) 1 x2) 2 x3) 3 x4))) mo (ob 8 [.int 0, .int nf, .ref (mo + 1), .ref (mo + 2), .int na, .ref (mo + 3), .ref (mo + 4), .ref (mo + 5), .int nt, .ref (mo + 6), .ref (mo + 7), .ref (mo + 8), .ref (mo + 9), .ref (mo + 10), .ref (mo + 11), .ref (mo + 12), .ref (mo + 13), .ref (mo + 14), .int po, .int dr]) := fp_o.re om ne_5
  have o_key : fp_o b n (va_up (va_up f mo (ob 8 [.int 0, .int nf, .ref (mo + 1), .ref (mo + 2), .int na, .ref (mo + 3), .ref (mo + 4), .ref (mo + 5), .int nt, .ref (mo + 6), .ref (mo + 7), .ref (mo + 8), .ref (mo + 9), .ref (mo + 10), .ref (mo + 11), .ref (mo + 12), .ref (mo + 13), .ref (mo + 14), .int po, .int dr])) (mo + 13) (aI g 4 (upd (upd (upd (upd zk 0 x1) 1 x2) 2 x3) 3 x4))) (mo + 13) (aI g 4 (upd (upd (upd (upd zk 0 x1) 1 x2) 2 x3) 3 x4)) := fp_o.rs o_key
  exact ret _ _ _ _ _ d_M_key_34 ⟨rfl, rfl⟩ Y
set_option maxHeartbeats 4000000 in
set_option maxRecDepth 100000 in
theorem c_M_word_out {l : Launch} {D : va_G} {g : Nat → ClassId} {b n : Nat} {A : Nat → Prop} {f : Nat → va_E} {mo : Nat} {th nf na nt po dr : Int32} {x y : Int32} (hbad : q_in x 4 = 0 ∨ q_in y 16 = 0) (om : fp_o b n f mo (ob 8 [.int th, .int nf, .ref (mo + 1), .ref (mo + 2), .int na, .ref (mo + 3), .ref (mo + 4), .ref (mo + 5), .int nt, .ref (mo + 6), .ref (mo + 7), .ref (mo + 8), .ref (mo + 9), .ref (mo + 10), .ref (mo + 11), .ref (mo + 12), .ref (mo + 13), .ref (mo + 14), .int po, .int dr]))  (hA : fp_W b n A := by assumption) : fp_M l D (TY g) b n A y_M_word (fp_ws y_M_word b_M_word 3 (some FieldType.int)) (rmD 1) [.ref mo, .int x, .int y] f (fun v f' => v = some (.int 0) ∧ f' = va_up f mo (ob 8 [.int 0, .int nf, .ref (mo + 1), .ref (mo + 2), .int na, .ref (mo + 3), .ref (mo + 4), .ref (mo + 5), .int nt, .ref (mo + 6), .ref (mo + 7), .ref (mo + 8), .ref (mo + 9), .ref (mo + 10), .ref (mo + 11), .ref (mo + 12), .ref (mo + 13), .ref (mo + 14), .int po, .int dr])) := by
  refine fp_ofI (plainFor_of_name (by decide)) (Nat.le_of_ble_eq_true rfl) ?_
  intro p e s m args below meth c Q ls H locs X Y hl ret
  have hx := X.1.1
  have hb := X.1.2.1
  have hl : lv_has ls 3 [(0, .ref mo), (1, .int x), (2, .int y)] := hl
  refine lv_aload_n hx hb d_M_word_0 rfl (lv_at hl 0 rfl) ?_
  refine lv_iconst (v := 0) hx hb d_M_word_1 (by decide) ?_
  refine fp_put X Y om rfl in_M to_M nm_M 0 (by decide) w601 rfl rfl rfl (Nat.le_of_ble_eq_true rfl) d_M_word_2 (fun H locs Y => ?_)
  have Y : fp_H D b n A (va_up f mo (ob 8 [.int 0, .int nf, .ref (mo + 1), .ref (mo + 2), .int na, .ref (mo + 3), .ref (mo + 4), .ref (mo + 5), .int nt, .ref (mo + 6), .ref (mo + 7), .ref (mo + 8), .ref (mo + 9), .ref (mo + 10), .ref (mo + 11), .ref (mo + 12), .ref (mo + 13), .ref (mo + 14), .int po, .int dr])) s.heap H locs := Y
  have om : fp_o b n (va_up f mo (ob 8 [.int 0, .int nf, .ref (mo + 1), .ref (mo + 2), .int na, .ref (mo + 3), .ref (mo + 4), .ref (mo + 5), .int nt, .ref (mo + 6), .ref (mo + 7), .ref (mo + 8), .ref (mo + 9), .ref (mo + 10), .ref (mo + 11), .ref (mo + 12), .ref (mo + 13), .ref (mo + 14), .int po, .int dr])) mo (ob 8 [.int 0, .int nf, .ref (mo + 1), .ref (mo + 2), .int na, .ref (mo + 3), .ref (mo + 4), .ref (mo + 5), .int nt, .ref (mo + 6), .ref (mo + 7), .ref (mo + 8), .ref (mo + 9), .ref (mo + 10), .ref (mo + 11), .ref (mo + 12), .ref (mo + 13), .ref (mo + 14), .int po, .int dr]) := fp_o.up om
  refine lv_iload_n hx hb d_M_word_5 rfl (lv_at hl 1 rfl) ?_
  refine lv_iconst (v := 4) hx hb d_M_word_6 (by decide) ?_
  refine fp_callS (nA := 2) (As := [.int x, .int 4]) (rest := []) X Y (c_M_not x 4) w680 w678 w679 w9 (by decide +kernel) ⟨rfl, rfl⟩ ⟨Nat.le_of_ble_eq_true rfl, Nat.le_of_ble_eq_true rfl⟩ rfl hl.1 rfl (Nat.le_of_ble_eq_true rfl) d_M_word_7 ⟨Nat.zero_le _, Nat.zero_le _⟩ (fun v9 f9 H locs hp9 Y => ?_)
  obtain ⟨e8, e9⟩ := hp9
  subst e8
  rw [e9] at Y
  refine W.eq (g2 := F0 m 10 ls [.int (q_nt x 4)]) rfl ?_
  refine lv_if_ne (tgt := 22) hx hb d_M_word_10 (by decide) (fun c_10 => ?_) (fun c_10 => ?_)
  · refine lv_iconst (v := 0) hx hb d_M_word_22 (by decide) ?_
    refine lv_goto (tgt := 37) hx hb d_M_word_23 (by decide) ?_
    exact ret _ _ _ _ _ _ d_M_word_37 ⟨_, rfl, rfl⟩ ⟨rfl, rfl⟩ Y
  · refine lv_iload_n hx hb d_M_word_13 rfl (lv_at hl 2 rfl) ?_
    refine lv_bipush (v := 16) hx hb d_M_word_14 (by decide) ?_
    refine fp_callS (nA := 2) (As := [.int y, .int 16]) (rest := []) X Y (c_M_not y 16) w680 w678 w679 w9 (by decide +kernel) ⟨rfl, rfl⟩ ⟨Nat.le_of_ble_eq_true rfl, Nat.le_of_ble_eq_true rfl⟩ rfl hl.1 rfl (Nat.le_of_ble_eq_true rfl) d_M_word_16 ⟨Nat.zero_le _, Nat.zero_le _⟩ (fun v9 f9 H locs hp9 Y => ?_)
    obtain ⟨e8, e9⟩ := hp9
    subst e8
    rw [e9] at Y
    refine W.eq (g2 := F0 m 19 ls [.int (q_nt y 16)]) rfl ?_
    refine lv_if_eq (tgt := 26) hx hb d_M_word_19 (by decide) (fun c_19 => absurd c_19 (q_nt_1 (hbad.resolve_left (fun q => q_nt_1 q c_10)))) (fun c_19 => ?_)
    refine lv_iconst (v := 0) hx hb d_M_word_22 (by decide) ?_
    refine lv_goto (tgt := 37) hx hb d_M_word_23 (by decide) ?_
    exact ret _ _ _ _ _ _ d_M_word_37 ⟨_, rfl, rfl⟩ ⟨rfl, rfl⟩ Y
set_option maxHeartbeats 4000000 in
set_option maxRecDepth 100000 in
theorem c_M_word_in {l : Launch} {D : va_G} {g : Nat → ClassId} {b n : Nat} {A : Nat → Prop} {f : Nat → va_E} {mo : Nat} {th nf na nt po dr : Int32} {za : Nat → Int32} {p0 r0 : Nat} (hp : p0 < 4) (hr : r0 < 16) (om : fp_o b n f mo (ob 8 [.int th, .int nf, .ref (mo + 1), .ref (mo + 2), .int na, .ref (mo + 3), .ref (mo + 4), .ref (mo + 5), .int nt, .ref (mo + 6), .ref (mo + 7), .ref (mo + 8), .ref (mo + 9), .ref (mo + 10), .ref (mo + 11), .ref (mo + 12), .ref (mo + 13), .ref (mo + 14), .int po, .int dr])) (o_array : fp_o b n f (mo + 5) (aI g 64 za))  (hA : fp_W b n A := by assumption) : fp_M l D (TY g) b n A y_M_word (fp_ws y_M_word b_M_word 3 (some FieldType.int)) (rmD 1) [.ref mo, .int (nI p0), .int (nI r0)] f (fun v f' => v = some (.int (za (16 * p0 + r0))) ∧ f' = va_up f mo (ob 8 [.int 0, .int nf, .ref (mo + 1), .ref (mo + 2), .int na, .ref (mo + 3), .ref (mo + 4), .ref (mo + 5), .int nt, .ref (mo + 6), .ref (mo + 7), .ref (mo + 8), .ref (mo + 9), .ref (mo + 10), .ref (mo + 11), .ref (mo + 12), .ref (mo + 13), .ref (mo + 14), .int po, .int dr])) := by
  refine fp_ofI (plainFor_of_name (by decide)) (Nat.le_of_ble_eq_true rfl) ?_
  intro p e s m args below meth c Q ls H locs X Y hl ret
  have hx := X.1.1
  have hb := X.1.2.1
  have hl : lv_has ls 3 [(0, .ref mo), (1, .int (nI p0)), (2, .int (nI r0))] := hl
  refine lv_aload_n hx hb d_M_word_0 rfl (lv_at hl 0 rfl) ?_
  refine lv_iconst (v := 0) hx hb d_M_word_1 (by decide) ?_
  refine fp_put X Y om rfl in_M to_M nm_M 0 (by decide) w601 rfl rfl rfl (Nat.le_of_ble_eq_true rfl) d_M_word_2 (fun H locs Y => ?_)
  have ne_1 : mo + 5 ≠ mo := (fp_o.nf o_array om (by simp))
  have Y : fp_H D b n A (va_up f mo (ob 8 [.int 0, .int nf, .ref (mo + 1), .ref (mo + 2), .int na, .ref (mo + 3), .ref (mo + 4), .ref (mo + 5), .int nt, .ref (mo + 6), .ref (mo + 7), .ref (mo + 8), .ref (mo + 9), .ref (mo + 10), .ref (mo + 11), .ref (mo + 12), .ref (mo + 13), .ref (mo + 14), .int po, .int dr])) s.heap H locs := Y
  have o_array : fp_o b n (va_up f mo (ob 8 [.int 0, .int nf, .ref (mo + 1), .ref (mo + 2), .int na, .ref (mo + 3), .ref (mo + 4), .ref (mo + 5), .int nt, .ref (mo + 6), .ref (mo + 7), .ref (mo + 8), .ref (mo + 9), .ref (mo + 10), .ref (mo + 11), .ref (mo + 12), .ref (mo + 13), .ref (mo + 14), .int po, .int dr])) (mo + 5) (aI g 64 za) := fp_o.ne o_array ne_1
  have om : fp_o b n (va_up f mo (ob 8 [.int 0, .int nf, .ref (mo + 1), .ref (mo + 2), .int na, .ref (mo + 3), .ref (mo + 4), .ref (mo + 5), .int nt, .ref (mo + 6), .ref (mo + 7), .ref (mo + 8), .ref (mo + 9), .ref (mo + 10), .ref (mo + 11), .ref (mo + 12), .ref (mo + 13), .ref (mo + 14), .int po, .int dr])) mo (ob 8 [.int 0, .int nf, .ref (mo + 1), .ref (mo + 2), .int na, .ref (mo + 3), .ref (mo + 4), .ref (mo + 5), .int nt, .ref (mo + 6), .ref (mo + 7), .ref (mo + 8), .ref (mo + 9), .ref (mo + 10), .ref (mo + 11), .ref (mo + 12), .ref (mo + 13), .ref (mo + 14), .int po, .int dr]) := fp_o.up om
  refine lv_iload_n hx hb d_M_word_5 rfl (lv_at hl 1 rfl) ?_
  refine lv_iconst (v := 4) hx hb d_M_word_6 (by decide) ?_
  refine fp_callS (nA := 2) (As := [.int (nI p0), .int 4]) (rest := []) X Y (c_M_not (nI p0) 4) w680 w678 w679 w9 (by decide +kernel) ⟨rfl, rfl⟩ ⟨Nat.le_of_ble_eq_true rfl, Nat.le_of_ble_eq_true rfl⟩ rfl hl.1 rfl (Nat.le_of_ble_eq_true rfl) d_M_word_7 ⟨Nat.zero_le _, Nat.zero_le _⟩ (fun v9 f9 H locs hp9 Y => ?_)
  obtain ⟨e8, e9⟩ := hp9
  subst e8
  rw [e9] at Y
  refine W.eq (g2 := F0 m 10 ls [.int (q_nt (nI p0) 4)]) rfl ?_
  refine lv_if_ne (tgt := 22) hx hb d_M_word_10 (by decide) (fun c_10 => absurd (q_nt_0 (q_in_ne (k := 4) hp (by decide))) c_10) (fun c_10 => ?_)
  refine lv_iload_n hx hb d_M_word_13 rfl (lv_at hl 2 rfl) ?_
  refine lv_bipush (v := 16) hx hb d_M_word_14 (by decide) ?_
  refine fp_callS (nA := 2) (As := [.int (nI r0), .int 16]) (rest := []) X Y (c_M_not (nI r0) 16) w680 w678 w679 w9 (by decide +kernel) ⟨rfl, rfl⟩ ⟨Nat.le_of_ble_eq_true rfl, Nat.le_of_ble_eq_true rfl⟩ rfl hl.1 rfl (Nat.le_of_ble_eq_true rfl) d_M_word_16 ⟨Nat.zero_le _, Nat.zero_le _⟩ (fun v9 f9 H locs hp9 Y => ?_)
  obtain ⟨e8, e9⟩ := hp9
  subst e8
  rw [e9] at Y
  refine W.eq (g2 := F0 m 19 ls [.int (q_nt (nI r0) 16)]) rfl ?_
  refine lv_if_eq (tgt := 26) hx hb d_M_word_19 (by decide) (fun c_19 => ?_) (fun c_19 => absurd (q_nt_0 (q_in_ne (k := 16) hr (by decide))) c_19)
  refine lv_aload_n hx hb d_M_word_26 rfl (lv_at hl 0 rfl) ?_
  refine fp_get X Y om rfl in_M 7 (by decide) w608 rfl d_M_word_27 ?_
  refine lv_bipush (v := 16) hx hb d_M_word_30 (by decide) ?_
  refine lv_iload_n hx hb d_M_word_32 rfl (lv_at hl 1 rfl) ?_
  refine lv_imul hx hb d_M_word_33 ?_
  refine lv_iload_n hx hb d_M_word_34 rfl (lv_at hl 2 rfl) ?_
  refine lv_iadd hx hb d_M_word_35 ?_
  refine fp_ild X Y o_array (16 * p0 + r0) (by rw [show (16 : Int32) = nI 16 from rfl, pk_mul, nI_add]) (by omega) (by decide) d_M_word_36 ?_
  exact ret _ _ _ _ _ _ d_M_word_37 ⟨_, rfl, rfl⟩ ⟨rfl, rfl⟩ Y
set_option maxHeartbeats 4000000 in
set_option maxRecDepth 100000 in
theorem c_M_entries_out {l : Launch} {D : va_G} {g : Nat → ClassId} {b n : Nat} {A : Nat → Prop} {f : Nat → va_E} {mo : Nat} {th nf na nt po dr : Int32} {x : Int32} (hbad : q_in x nt = 0) (om : fp_o b n f mo (ob 8 [.int th, .int nf, .ref (mo + 1), .ref (mo + 2), .int na, .ref (mo + 3), .ref (mo + 4), .ref (mo + 5), .int nt, .ref (mo + 6), .ref (mo + 7), .ref (mo + 8), .ref (mo + 9), .ref (mo + 10), .ref (mo + 11), .ref (mo + 12), .ref (mo + 13), .ref (mo + 14), .int po, .int dr]))  (hA : fp_W b n A := by assumption) : fp_M l D (TY g) b n A y_M_entries (fp_ws y_M_entries b_M_entries 2 (some FieldType.int)) (rmD 1) [.ref mo, .int x] f (fun v f' => v = some (.int (-1)) ∧ f' = va_up f mo (ob 8 [.int 0, .int nf, .ref (mo + 1), .ref (mo + 2), .int na, .ref (mo + 3), .ref (mo + 4), .ref (mo + 5), .int nt, .ref (mo + 6), .ref (mo + 7), .ref (mo + 8), .ref (mo + 9), .ref (mo + 10), .ref (mo + 11), .ref (mo + 12), .ref (mo + 13), .ref (mo + 14), .int po, .int dr])) := by
  refine fp_ofI (plainFor_of_name (by decide)) (Nat.le_of_ble_eq_true rfl) ?_
  intro p e s m args below meth c Q ls H locs X Y hl ret
  have hx := X.1.1
  have hb := X.1.2.1
  have hl : lv_has ls 2 [(0, .ref mo), (1, .int x)] := hl
  refine lv_aload_n hx hb d_M_entries_0 rfl (lv_at hl 0 rfl) ?_
  refine lv_iconst (v := 0) hx hb d_M_entries_1 (by decide) ?_
  refine fp_put X Y om rfl in_M to_M nm_M 0 (by decide) w601 rfl rfl rfl (Nat.le_of_ble_eq_true rfl) d_M_entries_2 (fun H locs Y => ?_)
  have Y : fp_H D b n A (va_up f mo (ob 8 [.int 0, .int nf, .ref (mo + 1), .ref (mo + 2), .int na, .ref (mo + 3), .ref (mo + 4), .ref (mo + 5), .int nt, .ref (mo + 6), .ref (mo + 7), .ref (mo + 8), .ref (mo + 9), .ref (mo + 10), .ref (mo + 11), .ref (mo + 12), .ref (mo + 13), .ref (mo + 14), .int po, .int dr])) s.heap H locs := Y
  have om : fp_o b n (va_up f mo (ob 8 [.int 0, .int nf, .ref (mo + 1), .ref (mo + 2), .int na, .ref (mo + 3), .ref (mo + 4), .ref (mo + 5), .int nt, .ref (mo + 6), .ref (mo + 7), .ref (mo + 8), .ref (mo + 9), .ref (mo + 10), .ref (mo + 11), .ref (mo + 12), .ref (mo + 13), .ref (mo + 14), .int po, .int dr])) mo (ob 8 [.int 0, .int nf, .ref (mo + 1), .ref (mo + 2), .int na, .ref (mo + 3), .ref (mo + 4), .ref (mo + 5), .int nt, .ref (mo + 6), .ref (mo + 7), .ref (mo + 8), .ref (mo + 9), .ref (mo + 10), .ref (mo + 11), .ref (mo + 12), .ref (mo + 13), .ref (mo + 14), .int po, .int dr]) := fp_o.up om
  refine lv_iload_n hx hb d_M_entries_5 rfl (lv_at hl 1 rfl) ?_
  refine lv_aload_n hx hb d_M_entries_6 rfl (lv_at hl 0 rfl) ?_
  refine fp_get X Y om rfl in_M 8 (by decide) w609 rfl d_M_entries_7 ?_
  refine fp_callS (nA := 2) (As := [.int x, .int nt]) (rest := []) X Y (c_M_not x nt) w680 w678 w679 w9 (by decide +kernel) ⟨rfl, rfl⟩ ⟨Nat.le_of_ble_eq_true rfl, Nat.le_of_ble_eq_true rfl⟩ rfl hl.1 rfl (Nat.le_of_ble_eq_true rfl) d_M_entries_10 ⟨Nat.zero_le _, Nat.zero_le _⟩ (fun v9 f9 H locs hp9 Y => ?_)
  obtain ⟨e8, e9⟩ := hp9
  subst e8
  rw [e9] at Y
  refine W.eq (g2 := F0 m 13 ls [.int (q_nt x nt)]) rfl ?_
  refine lv_if_eq (tgt := 20) hx hb d_M_entries_13 (by decide) (fun c_13 => absurd c_13 (q_nt_1 hbad)) (fun c_13 => ?_)
  refine lv_iconst (v := -1) hx hb d_M_entries_16 (by decide) ?_
  refine lv_goto (tgt := 26) hx hb d_M_entries_17 (by decide) ?_
  exact ret _ _ _ _ _ _ d_M_entries_26 ⟨_, rfl, rfl⟩ ⟨rfl, rfl⟩ Y
set_option maxHeartbeats 4000000 in
set_option maxRecDepth 100000 in
theorem c_M_entries_in {l : Launch} {D : va_G} {g : Nat → ClassId} {b n : Nat} {A : Nat → Prop} {f : Nat → va_E} {mo : Nat} {th nf na nt po dr : Int32} {zc : Nat → Int32} {tj : Nat} (hj : tj < 8) (hok : ¬ q_in (nI tj) nt = 0) (om : fp_o b n f mo (ob 8 [.int th, .int nf, .ref (mo + 1), .ref (mo + 2), .int na, .ref (mo + 3), .ref (mo + 4), .ref (mo + 5), .int nt, .ref (mo + 6), .ref (mo + 7), .ref (mo + 8), .ref (mo + 9), .ref (mo + 10), .ref (mo + 11), .ref (mo + 12), .ref (mo + 13), .ref (mo + 14), .int po, .int dr])) (o_count : fp_o b n f (mo + 11) (aI g 8 zc))  (hA : fp_W b n A := by assumption) : fp_M l D (TY g) b n A y_M_entries (fp_ws y_M_entries b_M_entries 2 (some FieldType.int)) (rmD 1) [.ref mo, .int (nI tj)] f (fun v f' => v = some (.int (zc tj)) ∧ f' = va_up f mo (ob 8 [.int 0, .int nf, .ref (mo + 1), .ref (mo + 2), .int na, .ref (mo + 3), .ref (mo + 4), .ref (mo + 5), .int nt, .ref (mo + 6), .ref (mo + 7), .ref (mo + 8), .ref (mo + 9), .ref (mo + 10), .ref (mo + 11), .ref (mo + 12), .ref (mo + 13), .ref (mo + 14), .int po, .int dr])) := by
  refine fp_ofI (plainFor_of_name (by decide)) (Nat.le_of_ble_eq_true rfl) ?_
  intro p e s m args below meth c Q ls H locs X Y hl ret
  have hx := X.1.1
  have hb := X.1.2.1
  have hl : lv_has ls 2 [(0, .ref mo), (1, .int (nI tj))] := hl
  refine lv_aload_n hx hb d_M_entries_0 rfl (lv_at hl 0 rfl) ?_
  refine lv_iconst (v := 0) hx hb d_M_entries_1 (by decide) ?_
  refine fp_put X Y om rfl in_M to_M nm_M 0 (by decide) w601 rfl rfl rfl (Nat.le_of_ble_eq_true rfl) d_M_entries_2 (fun H locs Y => ?_)
  have ne_1 : mo + 11 ≠ mo := (fp_o.nf o_count om (by simp))
  have Y : fp_H D b n A (va_up f mo (ob 8 [.int 0, .int nf, .ref (mo + 1), .ref (mo + 2), .int na, .ref (mo + 3), .ref (mo + 4), .ref (mo + 5), .int nt, .ref (mo + 6), .ref (mo + 7), .ref (mo + 8), .ref (mo + 9), .ref (mo + 10), .ref (mo + 11), .ref (mo + 12), .ref (mo + 13), .ref (mo + 14), .int po, .int dr])) s.heap H locs := Y
  have o_count : fp_o b n (va_up f mo (ob 8 [.int 0, .int nf, .ref (mo + 1), .ref (mo + 2), .int na, .ref (mo + 3), .ref (mo + 4), .ref (mo + 5), .int nt, .ref (mo + 6), .ref (mo + 7), .ref (mo + 8), .ref (mo + 9), .ref (mo + 10), .ref (mo + 11), .ref (mo + 12), .ref (mo + 13), .ref (mo + 14), .int po, .int dr])) (mo + 11) (aI g 8 zc) := fp_o.ne o_count ne_1
  have om : fp_o b n (va_up f mo (ob 8 [.int 0, .int nf, .ref (mo + 1), .ref (mo + 2), .int na, .ref (mo + 3), .ref (mo + 4), .ref (mo + 5), .int nt, .ref (mo + 6), .ref (mo + 7), .ref (mo + 8), .ref (mo + 9), .ref (mo + 10), .ref (mo + 11), .ref (mo + 12), .ref (mo + 13), .ref (mo + 14), .int po, .int dr])) mo (ob 8 [.int 0, .int nf, .ref (mo + 1), .ref (mo + 2), .int na, .ref (mo + 3), .ref (mo + 4), .ref (mo + 5), .int nt, .ref (mo + 6), .ref (mo + 7), .ref (mo + 8), .ref (mo + 9), .ref (mo + 10), .ref (mo + 11), .ref (mo + 12), .ref (mo + 13), .ref (mo + 14), .int po, .int dr]) := fp_o.up om
  refine lv_iload_n hx hb d_M_entries_5 rfl (lv_at hl 1 rfl) ?_
  refine lv_aload_n hx hb d_M_entries_6 rfl (lv_at hl 0 rfl) ?_
  refine fp_get X Y om rfl in_M 8 (by decide) w609 rfl d_M_entries_7 ?_
  refine fp_callS (nA := 2) (As := [.int (nI tj), .int nt]) (rest := []) X Y (c_M_not (nI tj) nt) w680 w678 w679 w9 (by decide +kernel) ⟨rfl, rfl⟩ ⟨Nat.le_of_ble_eq_true rfl, Nat.le_of_ble_eq_true rfl⟩ rfl hl.1 rfl (Nat.le_of_ble_eq_true rfl) d_M_entries_10 ⟨Nat.zero_le _, Nat.zero_le _⟩ (fun v9 f9 H locs hp9 Y => ?_)
  obtain ⟨e8, e9⟩ := hp9
  subst e8
  rw [e9] at Y
  refine W.eq (g2 := F0 m 13 ls [.int (q_nt (nI tj) nt)]) rfl ?_
  refine lv_if_eq (tgt := 20) hx hb d_M_entries_13 (by decide) (fun c_13 => ?_) (fun c_13 => absurd (q_nt_0 hok) c_13)
  refine lv_aload_n hx hb d_M_entries_20 rfl (lv_at hl 0 rfl) ?_
  refine fp_get X Y om rfl in_M 14 (by decide) w615 rfl d_M_entries_21 ?_
  refine lv_iload_n hx hb d_M_entries_24 rfl (lv_at hl 1 rfl) ?_
  refine fp_ild X Y o_count tj rfl (by omega) (by decide) d_M_entries_25 ?_
  exact ret _ _ _ _ _ _ d_M_entries_26 ⟨_, rfl, rfl⟩ ⟨rfl, rfl⟩ Y
