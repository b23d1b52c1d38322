/-! Contracts: Table, what makes nothing and has no loop (by wip/gen/k2.py). -/
def q_isMask (x y z : Int32) : Int32 := if x = 0 then (if y ^^^ z = 0 then 1 else 0) else if x = 1 then (if (y ^^^ z) &&& ((y ^^^ z) + 1) = 0 then 1 else 0) else 1
def q_masks (hF hG oF oG s2 s4 : Int32) : Int32 := if q_isMask hF s2 oF = 0 then 0 else if q_isMask hG s4 oG = 0 then 0 else 1
def q_alw (al x : Int32) : Int32 := if x < 0 ∨ 16 ≤ x then 0 else if (al >>> (x &&& 31)) &&& 1 = 0 then 0 else 1
def q_pre (hF hG k2 k4 : Int32) : Int32 := if hF = 1 then q_bc k2 else if hG = 1 then q_bc k4 else 0
def q_bet (p1 p2 r1 r2 : Int32) : Int32 := if p1 = p2 then (if r1 ≤ r2 then 0 else 1) else (if p1 ≤ p2 then 0 else 1)
set_option maxHeartbeats 4000000 in
set_option maxRecDepth 100000 in
theorem c_T_matchKeys {l : Launch} {D : va_G} {g : Nat → ClassId} {b n : Nat} {A : Nat → Prop} {f : Nat → va_E} {t r sq : Nat} {cn xf xg hF hG oF oG al ms : Int32} (x1 x2 x3 x4 : Int32) (ot : fp_o b n f t (ob 6 [.ref r, .int cn, .int xf, .int xg, .int hF, .int hG, .int oF, .int oG, .int al, .int ms, .ref sq]))  (hA : fp_W b n A := by assumption) : fp_M l D (TY g) b n A y_T_matchKeys (fp_ws y_T_matchKeys b_T_matchKeys 5 none) (rmD 0) [.ref t, .int x1, .int x2, .int x3, .int x4] f (fun v f' => v = none ∧ f' = va_up f t (ob 6 [.ref r, .int 0, .int x1, .int x2, .int x3, .int x4, .int oF, .int oG, .int al, .int ms, .ref sq])) := by
  refine fp_ofV (plainFor_of_name (by decide)) (Nat.le_of_ble_eq_true rfl) ?_
  intro p e s m args below meth c Q ls H locs X Y hl ret
  have hx := X.1.1
  have hb := X.1.2.1
  have hl : lv_has ls 5 [(0, .ref t), (1, .int x1), (2, .int x2), (3, .int x3), (4, .int x4)] := hl
  refine lv_aload_n hx hb d_T_matchKeys_0 rfl (lv_at hl 0 rfl) ?_
  refine lv_iload_n hx hb d_T_matchKeys_1 rfl (lv_at hl 1 rfl) ?_
  refine fp_put X Y ot rfl in_T to_T nm_T 2 (by decide) w158 rfl rfl rfl (Nat.le_of_ble_eq_true rfl) d_T_matchKeys_2 (fun H locs Y => ?_)
  have Y : fp_H D b n A (va_up f t (ob 6 [.ref r, .int cn, .int x1, .int xg, .int hF, .int hG, .int oF, .int oG, .int al, .int ms, .ref sq])) s.heap H locs := Y
  have ot : fp_o b n (va_up f t (ob 6 [.ref r, .int cn, .int x1, .int xg, .int hF, .int hG, .int oF, .int oG, .int al, .int ms, .ref sq])) t (ob 6 [.ref r, .int cn, .int x1, .int xg, .int hF, .int hG, .int oF, .int oG, .int al, .int ms, .ref sq]) := fp_o.up ot
  refine lv_aload_n hx hb d_T_matchKeys_5 rfl (lv_at hl 0 rfl) ?_
  refine lv_iload_n hx hb d_T_matchKeys_6 rfl (lv_at hl 2 rfl) ?_
  refine fp_put X Y ot rfl in_T to_T nm_T 3 (by decide) w159 rfl rfl rfl (Nat.le_of_ble_eq_true rfl) d_T_matchKeys_7 (fun H locs Y => ?_)
  have Y := Y.re
  have Y : fp_H D b n A (va_up f t (ob 6 [.ref r, .int cn, .int x1, .int x2, .int hF, .int hG, .int oF, .int oG, .int al, .int ms, .ref sq])) s.heap H locs := Y
  have ot : fp_o b n (va_up f t (ob 6 [.ref r, .int cn, .int x1, .int x2, .int hF, .int hG, .int oF, .int oG, .int al, .int ms, .ref sq])) t (ob 6 [.ref r, .int cn, .int x1, .int x2, .int hF, .int hG, .int oF, .int oG, .int al, .int ms, .ref sq]) := fp_o.rs ot
  refine lv_aload_n hx hb d_T_matchKeys_10 rfl (lv_at hl 0 rfl) ?_
  refine lv_iload_n hx hb d_T_matchKeys_11 rfl (lv_at hl 3 rfl) ?_
  refine fp_put X Y ot rfl in_T to_T nm_T 4 (by decide) w160 rfl rfl rfl (Nat.le_of_ble_eq_true rfl) d_T_matchKeys_12 (fun H locs Y => ?_)
  have Y := Y.re
  have Y : fp_H D b n A (va_up f t (ob 6 [.ref r, .int cn, .int x1, .int x2, .int x3, .int hG, .int oF, .int oG, .int al, .int ms, .ref sq])) s.heap H locs := Y
  have ot : fp_o b n (va_up f t (ob 6 [.ref r, .int cn, .int x1, .int x2, .int x3, .int hG, .int oF, .int oG, .int al, .int ms, .ref sq])) t (ob 6 [.ref r, .int cn, .int x1, .int x2, .int x3, .int hG, .int oF, .int oG, .int al, .int ms, .ref sq]) := fp_o.rs ot
  refine lv_aload_n hx hb d_T_matchKeys_15 rfl (lv_at hl 0 rfl) ?_
  refine lv_iload hx hb d_T_matchKeys_16 (lv_at hl 4 rfl) ?_
  refine fp_put X Y ot rfl in_T to_T nm_T 5 (by decide) w161 rfl rfl rfl (Nat.le_of_ble_eq_true rfl) d_T_matchKeys_18 (fun H locs Y => ?_)
  have Y := Y.re
  have Y : fp_H D b n A (va_up f t (ob 6 [.ref r, .int cn, .int x1, .int x2, .int x3, .int x4, .int oF, .int oG, .int al, .int ms, .ref sq])) s.heap H locs := Y
  have ot : fp_o b n (va_up f t (ob 6 [.ref r, .int cn, .int x1, .int x2, .int x3, .int x4, .int oF, .int oG, .int al, .int ms, .ref sq])) t (ob 6 [.ref r, .int cn, .int x1, .int x2, .int x3, .int x4, .int oF, .int oG, .int al, .int ms, .ref sq]) := fp_o.rs ot
  refine lv_aload_n hx hb d_T_matchKeys_21 rfl (lv_at hl 0 rfl) ?_
  refine lv_iconst (v := 0) hx hb d_T_matchKeys_22 (by decide) ?_
  refine fp_put X Y ot rfl in_T to_T nm_T 1 (by decide) w156 rfl rfl rfl (Nat.le_of_ble_eq_true rfl) d_T_matchKeys_23 (fun H locs Y => ?_)
  have Y := Y.re
  have Y : fp_H D b n A (va_up f t (ob 6 [.ref r, .int 0, .int x1, .int x2, .int x3, .int x4, .int oF, .int oG, .int al, .int ms, .ref sq])) s.heap H locs := Y
  have ot : fp_o b n (va_up f t (ob 6 [.ref r, .int 0, .int x1, .int x2, .int x3, .int x4, .int oF, .int oG, .int al, .int ms, .ref sq])) t (ob 6 [.ref r, .int 0, .int x1, .int x2, .int x3, .int x4, .int oF, .int oG, .int al, .int ms, .ref sq]) := fp_o.rs ot
  exact ret _ _ _ _ _ d_T_matchKeys_26 ⟨rfl, rfl⟩ Y
set_option maxHeartbeats 4000000 in
set_option maxRecDepth 100000 in
theorem c_T_cutKeysTo {l : Launch} {D : va_G} {g : Nat → ClassId} {b n : Nat} {A : Nat → Prop} {f : Nat → va_E} {t r sq : Nat} {cn xf xg hF hG oF oG al ms : Int32} (x1 x2 : Int32) (ot : fp_o b n f t (ob 6 [.ref r, .int cn, .int xf, .int xg, .int hF, .int hG, .int oF, .int oG, .int al, .int ms, .ref sq]))  (hA : fp_W b n A := by assumption) : fp_M l D (TY g) b n A y_T_cutKeysTo (fp_ws y_T_cutKeysTo b_T_cutKeysTo 3 none) (rmD 0) [.ref t, .int x1, .int x2] f (fun v f' => v = none ∧ f' = va_up f t (ob 6 [.ref r, .int cn, .int xf, .int xg, .int hF, .int hG, .int x1, .int x2, .int al, .int ms, .ref sq])) := by
  refine fp_ofV (plainFor_of_name (by decide)) (Nat.le_of_ble_eq_true rfl) ?_
  intro p e s m args below meth c Q ls H locs X Y hl ret
  have hx := X.1.1
  have hb := X.1.2.1
  have hl : lv_has ls 3 [(0, .ref t), (1, .int x1), (2, .int x2)] := hl
  refine lv_aload_n hx hb d_T_cutKeysTo_0 rfl (lv_at hl 0 rfl) ?_
  refine lv_iload_n hx hb d_T_cutKeysTo_1 rfl (lv_at hl 1 rfl) ?_
  refine fp_put X Y ot rfl in_T to_T nm_T 6 (by decide) w162 rfl rfl rfl (Nat.le_of_ble_eq_true rfl) d_T_cutKeysTo_2 (fun H locs Y => ?_)
  have Y : fp_H D b n A (va_up f t (ob 6 [.ref r, .int cn, .int xf, .int xg, .int hF, .int hG, .int x1, .int oG, .int al, .int ms, .ref sq])) s.heap H locs := Y
  have ot : fp_o b n (va_up f t (ob 6 [.ref r, .int cn, .int xf, .int xg, .int hF, .int hG, .int x1, .int oG, .int al, .int ms, .ref sq])) t (ob 6 [.ref r, .int cn, .int xf, .int xg, .int hF, .int hG, .int x1, .int oG, .int al, .int ms, .ref sq]) := fp_o.up ot
  refine lv_aload_n hx hb d_T_cutKeysTo_5 rfl (lv_at hl 0 rfl) ?_
  refine lv_iload_n hx hb d_T_cutKeysTo_6 rfl (lv_at hl 2 rfl) ?_
  refine fp_put X Y ot rfl in_T to_T nm_T 7 (by decide) w163 rfl rfl rfl (Nat.le_of_ble_eq_true rfl) d_T_cutKeysTo_7 (fun H locs Y => ?_)
  have Y := Y.re
  have Y : fp_H D b n A (va_up f t (ob 6 [.ref r, .int cn, .int xf, .int xg, .int hF, .int hG, .int x1, .int x2, .int al, .int ms, .ref sq])) s.heap H locs := Y
  have ot : fp_o b n (va_up f t (ob 6 [.ref r, .int cn, .int xf, .int xg, .int hF, .int hG, .int x1, .int x2, .int al, .int ms, .ref sq])) t (ob 6 [.ref r, .int cn, .int xf, .int xg, .int hF, .int hG, .int x1, .int x2, .int al, .int ms, .ref sq]) := fp_o.rs ot
  exact ret _ _ _ _ _ d_T_cutKeysTo_10 ⟨rfl, rfl⟩ Y
set_option maxHeartbeats 4000000 in
set_option maxRecDepth 100000 in
theorem c_T_allowActions {l : Launch} {D : va_G} {g : Nat → ClassId} {b n : Nat} {A : Nat → Prop} {f : Nat → va_E} {t r sq : Nat} {cn xf xg hF hG oF oG al ms : Int32} (x1 x2 : Int32) (ot : fp_o b n f t (ob 6 [.ref r, .int cn, .int xf, .int xg, .int hF, .int hG, .int oF, .int oG, .int al, .int ms, .ref sq]))  (hA : fp_W b n A := by assumption) : fp_M l D (TY g) b n A y_T_allowActions (fp_ws y_T_allowActions b_T_allowActions 3 none) (rmD 0) [.ref t, .int x1, .int x2] f (fun v f' => v = none ∧ f' = va_up f t (ob 6 [.ref r, .int cn, .int xf, .int xg, .int hF, .int hG, .int oF, .int oG, .int x1, .int x2, .ref sq])) := by
  refine fp_ofV (plainFor_of_name (by decide)) (Nat.le_of_ble_eq_true rfl) ?_
  intro p e s m args below meth c Q ls H locs X Y hl ret
  have hx := X.1.1
  have hb := X.1.2.1
  have hl : lv_has ls 3 [(0, .ref t), (1, .int x1), (2, .int x2)] := hl
  refine lv_aload_n hx hb d_T_allowActions_0 rfl (lv_at hl 0 rfl) ?_
  refine lv_iload_n hx hb d_T_allowActions_1 rfl (lv_at hl 1 rfl) ?_
  refine fp_put X Y ot rfl in_T to_T nm_T 8 (by decide) w164 rfl rfl rfl (Nat.le_of_ble_eq_true rfl) d_T_allowActions_2 (fun H locs Y => ?_)
  have Y : fp_H D b n A (va_up f t (ob 6 [.ref r, .int cn, .int xf, .int xg, .int hF, .int hG, .int oF, .int oG, .int x1, .int ms, .ref sq])) s.heap H locs := Y
  have ot : fp_o b n (va_up f t (ob 6 [.ref r, .int cn, .int xf, .int xg, .int hF, .int hG, .int oF, .int oG, .int x1, .int ms, .ref sq])) t (ob 6 [.ref r, .int cn, .int xf, .int xg, .int hF, .int hG, .int oF, .int oG, .int x1, .int ms, .ref sq]) := fp_o.up ot
  refine lv_aload_n hx hb d_T_allowActions_5 rfl (lv_at hl 0 rfl) ?_
  refine lv_iload_n hx hb d_T_allowActions_6 rfl (lv_at hl 2 rfl) ?_
  refine fp_put X Y ot rfl in_T to_T nm_T 9 (by decide) w165 rfl rfl rfl (Nat.le_of_ble_eq_true rfl) d_T_allowActions_7 (fun H locs Y => ?_)
  have Y := Y.re
  have Y : fp_H D b n A (va_up f t (ob 6 [.ref r, .int cn, .int xf, .int xg, .int hF, .int hG, .int oF, .int oG, .int x1, .int x2, .ref sq])) s.heap H locs := Y
  have ot : fp_o b n (va_up f t (ob 6 [.ref r, .int cn, .int xf, .int xg, .int hF, .int hG, .int oF, .int oG, .int x1, .int x2, .ref sq])) t (ob 6 [.ref r, .int cn, .int xf, .int xg, .int hF, .int hG, .int oF, .int oG, .int x1, .int x2, .ref sq]) := fp_o.rs ot
  exact ret _ _ _ _ _ d_T_allowActions_10 ⟨rfl, rfl⟩ Y
set_option maxHeartbeats 4000000 in
set_option maxRecDepth 100000 in
theorem c_T_isMask {l : Launch} {D : va_G} {g : Nat → ClassId} {b n : Nat} {A : Nat → Prop} {f : Nat → va_E} (x y z : Int32)   : fp_M l D (TY g) b n A y_T_isMask (fp_ws y_T_isMask b_T_isMask 4 (some FieldType.boolean)) (rmD 0) [.int x, .int y, .int z] f (fun v f' => v = some (.int (q_isMask x y z)) ∧ f' = f) := by
  refine fp_ofI (plainFor_of_name (by decide)) (Nat.le_of_ble_eq_true rfl) ?_
  intro p e s m args below meth c Q ls H locs X Y hl ret
  have hx := X.1.1
  have hb := X.1.2.1
  have hl : lv_has ls 4 [(0, .int x), (1, .int y), (2, .int z)] := hl
  refine lv_iload_n hx hb d_T_isMask_0 rfl (lv_at hl 1 rfl) ?_
  refine lv_iload_n hx hb d_T_isMask_1 rfl (lv_at hl 2 rfl) ?_
  refine lv_ixor hx hb d_T_isMask_2 ?_
  refine lv_istore_n (lv' := [(3, .int (y ^^^ z)), (0, .int x), (1, .int y), (2, .int z)]) hx hb d_T_isMask_3 rfl hl (by decide) rfl (fun ls hl => ?_)
  refine lv_iload_n hx hb d_T_isMask_4 rfl (lv_at hl 1 rfl) ?_
  refine lv_if_ne (tgt := 18) hx hb d_T_isMask_5 (by decide) (fun c_5 => ?_) (fun c_5 => ?_)
  · refine lv_iload_n hx hb d_T_isMask_18 rfl (lv_at hl 1 rfl) ?_
    refine lv_iconst (v := 1) hx hb d_T_isMask_19 (by decide) ?_
    refine lv_icmp_ne (tgt := 31) hx hb d_T_isMask_20 (by decide) (fun c_20 => ?_) (fun c_20 => ?_)
    · refine lv_iconst (v := 1) hx hb d_T_isMask_31 (by decide) ?_
      refine lv_goto (tgt := 36) hx hb d_T_isMask_32 (by decide) ?_
      exact ret _ _ _ _ _ _ d_T_isMask_36 ⟨_, rfl, rfl⟩ ⟨by simp [q_isMask, c_5, c_20], rfl⟩ Y
    · refine lv_iload_n hx hb d_T_isMask_23 rfl (lv_at hl 0 rfl) ?_
      refine lv_iload_n hx hb d_T_isMask_24 rfl (lv_at hl 0 rfl) ?_
      refine lv_iconst (v := 1) hx hb d_T_isMask_25 (by decide) ?_
      refine lv_iadd hx hb d_T_isMask_26 ?_
      refine lv_iand hx hb d_T_isMask_27 ?_
      refine lv_if_ne (tgt := 35) hx hb d_T_isMask_28 (by decide) (fun c_28 => ?_) (fun c_28 => ?_)
      · refine lv_iconst (v := 0) hx hb d_T_isMask_35 (by decide) ?_
        exact ret _ _ _ _ _ _ d_T_isMask_36 ⟨_, rfl, rfl⟩ ⟨by simp [q_isMask, c_5, c_20, c_28], rfl⟩ Y
      · refine lv_iconst (v := 1) hx hb d_T_isMask_31 (by decide) ?_
        refine lv_goto (tgt := 36) hx hb d_T_isMask_32 (by decide) ?_
        exact ret _ _ _ _ _ _ d_T_isMask_36 ⟨_, rfl, rfl⟩ ⟨by simp [q_isMask, c_5, c_20, c_28], rfl⟩ Y
  · refine lv_iload_n hx hb d_T_isMask_8 rfl (lv_at hl 0 rfl) ?_
    refine lv_if_ne (tgt := 16) hx hb d_T_isMask_9 (by decide) (fun c_9 => ?_) (fun c_9 => ?_)
    · refine lv_iconst (v := 0) hx hb d_T_isMask_16 (by decide) ?_
      exact ret _ _ _ _ _ _ d_T_isMask_17 ⟨_, rfl, rfl⟩ ⟨by simp [q_isMask, c_5, c_9], rfl⟩ Y
    · refine lv_iconst (v := 1) hx hb d_T_isMask_12 (by decide) ?_
      refine lv_goto (tgt := 17) hx hb d_T_isMask_13 (by decide) ?_
      exact ret _ _ _ _ _ _ d_T_isMask_17 ⟨_, rfl, rfl⟩ ⟨by simp [q_isMask, c_5, c_9], rfl⟩ Y
set_option maxHeartbeats 4000000 in
set_option maxRecDepth 100000 in
theorem c_T_isAllowed {l : Launch} {D : va_G} {g : Nat → ClassId} {b n : Nat} {A : Nat → Prop} {f : Nat → va_E} {t r sq : Nat} {cn xf xg hF hG oF oG al ms : Int32} (x : Int32) (ot : fp_o b n f t (ob 6 [.ref r, .int cn, .int xf, .int xg, .int hF, .int hG, .int oF, .int oG, .int al, .int ms, .ref sq]))  : fp_M l D (TY g) b n A y_T_isAllowed (fp_ws y_T_isAllowed b_T_isAllowed 2 (some FieldType.boolean)) (rmD 0) [.ref t, .int x] f (fun v f' => v = some (.int (q_alw al x)) ∧ f' = f) := by
  refine fp_ofI (plainFor_of_name (by decide)) (Nat.le_of_ble_eq_true rfl) ?_
  intro p e s m args below meth c Q ls H locs X Y hl ret
  have hx := X.1.1
  have hb := X.1.2.1
  have hl : lv_has ls 2 [(0, .ref t), (1, .int x)] := hl
  refine lv_iload_n hx hb d_T_isAllowed_0 rfl (lv_at hl 1 rfl) ?_
  refine lv_if_lt (tgt := 25) hx hb d_T_isAllowed_1 (by decide) (fun c_1 => ?_) (fun c_1 => ?_)
  · refine lv_iconst (v := 0) hx hb d_T_isAllowed_25 (by decide) ?_
    exact ret _ _ _ _ _ _ d_T_isAllowed_26 ⟨_, rfl, rfl⟩ ⟨by simp [q_alw, c_1], rfl⟩ Y
  · refine lv_iload_n hx hb d_T_isAllowed_4 rfl (lv_at hl 1 rfl) ?_
    refine lv_bipush (v := 16) hx hb d_T_isAllowed_5 (by decide) ?_
    refine lv_icmp_ge (tgt := 25) hx hb d_T_isAllowed_7 (by decide) (fun c_7 => ?_) (fun c_7 => ?_)
    · refine lv_iconst (v := 0) hx hb d_T_isAllowed_25 (by decide) ?_
      exact ret _ _ _ _ _ _ d_T_isAllowed_26 ⟨_, rfl, rfl⟩ ⟨by simp [q_alw, c_1, c_7], rfl⟩ Y
    · refine lv_aload_n hx hb d_T_isAllowed_10 rfl (lv_at hl 0 rfl) ?_
      refine fp_get X Y ot rfl in_T 8 (by decide) w164 rfl d_T_isAllowed_11 ?_
      refine lv_iload_n hx hb d_T_isAllowed_14 rfl (lv_at hl 1 rfl) ?_
      refine lv_ishr hx hb d_T_isAllowed_15 ?_
      refine lv_iconst (v := 1) hx hb d_T_isAllowed_16 (by decide) ?_
      refine lv_iand hx hb d_T_isAllowed_17 ?_
      refine lv_if_eq (tgt := 25) hx hb d_T_isAllowed_18 (by decide) (fun c_18 => ?_) (fun c_18 => ?_)
      · refine lv_iconst (v := 0) hx hb d_T_isAllowed_25 (by decide) ?_
        exact ret _ _ _ _ _ _ d_T_isAllowed_26 ⟨_, rfl, rfl⟩ ⟨by simp [q_alw, c_1, c_7, c_18], rfl⟩ Y
      · refine lv_iconst (v := 1) hx hb d_T_isAllowed_21 (by decide) ?_
        refine lv_goto (tgt := 26) hx hb d_T_isAllowed_22 (by decide) ?_
        exact ret _ _ _ _ _ _ d_T_isAllowed_26 ⟨_, rfl, rfl⟩ ⟨by simp [q_alw, c_1, c_7, c_18], rfl⟩ Y
set_option maxHeartbeats 4000000 in
set_option maxRecDepth 100000 in
theorem c_T_areMasks {l : Launch} {D : va_G} {g : Nat → ClassId} {b n : Nat} {A : Nat → Prop} {f : Nat → va_E} {t r sq : Nat} {cn xf xg hF hG oF oG al ms : Int32} {s1 s2 s3 s4 : Int32} (ot : fp_o b n f t (ob 6 [.ref r, .int cn, .int xf, .int xg, .int hF, .int hG, .int oF, .int oG, .int al, .int ms, .ref sq])) (os : fp_o b n f sq (ob 5 [.int s1, .int s2, .int s3, .int s4]))  : fp_M l D (TY g) b n A y_T_areMasks (fp_ws y_T_areMasks b_T_areMasks 1 (some FieldType.boolean)) (rmD 1) [.ref t] f (fun v f' => v = some (.int (q_masks hF hG oF oG s2 s4)) ∧ f' = f) := by
  refine fp_ofI (plainFor_of_name (by decide)) (Nat.le_of_ble_eq_true rfl) ?_
  intro p e s m args below meth c Q ls H locs X Y hl ret
  have hx := X.1.1
  have hb := X.1.2.1
  have hl : lv_has ls 1 [(0, .ref t)] := hl
  refine lv_aload_n hx hb d_T_areMasks_0 rfl (lv_at hl 0 rfl) ?_
  refine fp_get X Y ot rfl in_T 4 (by decide) w160 rfl d_T_areMasks_1 ?_
  refine lv_aload_n hx hb d_T_areMasks_4 rfl (lv_at hl 0 rfl) ?_
  refine fp_get X Y ot rfl in_T 10 (by decide) w167 rfl d_T_areMasks_5 ?_
  refine fp_getN X Y os rfl in_K 1 (by decide) nw67 rfl d_T_areMasks_8 ?_
  refine lv_aload_n hx hb d_T_areMasks_11 rfl (lv_at hl 0 rfl) ?_
  refine fp_get X Y ot rfl in_T 6 (by decide) w162 rfl d_T_areMasks_12 ?_
  refine fp_callS (nA := 3) (As := [.int hF, .int s2, .int oF]) (rest := []) X Y (c_T_isMask hF s2 oF) w545 w543 w544 w7 (by decide +kernel) ⟨rfl, rfl⟩ ⟨Nat.le_of_ble_eq_true rfl, Nat.le_of_ble_eq_true rfl⟩ rfl hl.1 rfl (Nat.le_of_ble_eq_true rfl) d_T_areMasks_15 ⟨Nat.zero_le _, Nat.zero_le _⟩ (fun v9 f9 H locs hp9 Y => ?_)
  obtain ⟨e8, e9⟩ := hp9
  subst e8
  rw [e9] at Y
  refine W.eq (g2 := F0 m 18 ls [.int (q_isMask hF s2 oF)]) rfl ?_
  refine lv_if_eq (tgt := 46) hx hb d_T_areMasks_18 (by decide) (fun c_18 => ?_) (fun c_18 => ?_)
  · refine lv_iconst (v := 0) hx hb d_T_areMasks_46 (by decide) ?_
    exact ret _ _ _ _ _ _ d_T_areMasks_47 ⟨_, rfl, rfl⟩ ⟨by simp [q_masks, c_18], rfl⟩ Y
  · refine lv_aload_n hx hb d_T_areMasks_21 rfl (lv_at hl 0 rfl) ?_
    refine fp_get X Y ot rfl in_T 5 (by decide) w161 rfl d_T_areMasks_22 ?_
    refine lv_aload_n hx hb d_T_areMasks_25 rfl (lv_at hl 0 rfl) ?_
    refine fp_get X Y ot rfl in_T 10 (by decide) w167 rfl d_T_areMasks_26 ?_
    refine fp_getN X Y os rfl in_K 3 (by decide) nw71 rfl d_T_areMasks_29 ?_
    refine lv_aload_n hx hb d_T_areMasks_32 rfl (lv_at hl 0 rfl) ?_
    refine fp_get X Y ot rfl in_T 7 (by decide) w163 rfl d_T_areMasks_33 ?_
    refine fp_callS (nA := 3) (As := [.int hG, .int s4, .int oG]) (rest := []) X Y (c_T_isMask hG s4 oG) w545 w543 w544 w7 (by decide +kernel) ⟨rfl, rfl⟩ ⟨Nat.le_of_ble_eq_true rfl, Nat.le_of_ble_eq_true rfl⟩ rfl hl.1 rfl (Nat.le_of_ble_eq_true rfl) d_T_areMasks_36 ⟨Nat.zero_le _, Nat.zero_le _⟩ (fun v9 f9 H locs hp9 Y => ?_)
    obtain ⟨e8, e9⟩ := hp9
    subst e8
    rw [e9] at Y
    refine W.eq (g2 := F0 m 39 ls [.int (q_isMask hG s4 oG)]) rfl ?_
    refine lv_if_eq (tgt := 46) hx hb d_T_areMasks_39 (by decide) (fun c_39 => ?_) (fun c_39 => ?_)
    · refine lv_iconst (v := 0) hx hb d_T_areMasks_46 (by decide) ?_
      exact ret _ _ _ _ _ _ d_T_areMasks_47 ⟨_, rfl, rfl⟩ ⟨by simp [q_masks, c_18, c_39], rfl⟩ Y
    · refine lv_iconst (v := 1) hx hb d_T_areMasks_42 (by decide) ?_
      refine lv_goto (tgt := 47) hx hb d_T_areMasks_43 (by decide) ?_
      exact ret _ _ _ _ _ _ d_T_areMasks_47 ⟨_, rfl, rfl⟩ ⟨by simp [q_masks, c_18, c_39], rfl⟩ Y
set_option maxHeartbeats 4000000 in
set_option maxRecDepth 100000 in
theorem c_T_prefixOnes {l : Launch} {D : va_G} {g : Nat → ClassId} {b n : Nat} {A : Nat → Prop} {f : Nat → va_E} {t r sq : Nat} {cn xf xg hF hG oF oG al ms : Int32} {kq : Nat} {k1 k2 k3 k4 : Int32} (ot : fp_o b n f t (ob 6 [.ref r, .int cn, .int xf, .int xg, .int hF, .int hG, .int oF, .int oG, .int al, .int ms, .ref sq])) (ok : fp_o b n f kq (ob 5 [.int k1, .int k2, .int k3, .int k4]))  : fp_M l D (TY g) b n A y_T_prefixOnes (fp_ws y_T_prefixOnes b_T_prefixOnes 2 (some FieldType.int)) (rmD 1) [.ref t, .ref kq] f (fun v f' => v = some (.int (q_pre hF hG k2 k4)) ∧ f' = f) := by
  refine fp_ofI (plainFor_of_name (by decide)) (Nat.le_of_ble_eq_true rfl) ?_
  intro p e s m args below meth c Q ls H locs X Y hl ret
  have hx := X.1.1
  have hb := X.1.2.1
  have hl : lv_has ls 2 [(0, .ref t), (1, .ref kq)] := hl
  refine lv_aload_n hx hb d_T_prefixOnes_0 rfl (lv_at hl 0 rfl) ?_
  refine fp_get X Y ot rfl in_T 4 (by decide) w160 rfl d_T_prefixOnes_1 ?_
  refine lv_iconst (v := 1) hx hb d_T_prefixOnes_4 (by decide) ?_
  refine lv_icmp_ne (tgt := 16) hx hb d_T_prefixOnes_5 (by decide) (fun c_5 => ?_) (fun c_5 => ?_)
  · refine lv_aload_n hx hb d_T_prefixOnes_16 rfl (lv_at hl 0 rfl) ?_
    refine fp_get X Y ot rfl in_T 5 (by decide) w161 rfl d_T_prefixOnes_17 ?_
    refine lv_iconst (v := 1) hx hb d_T_prefixOnes_20 (by decide) ?_
    refine lv_icmp_ne (tgt := 34) hx hb d_T_prefixOnes_21 (by decide) (fun c_21 => ?_) (fun c_21 => ?_)
    · refine lv_iconst (v := 0) hx hb d_T_prefixOnes_34 (by decide) ?_
      exact ret _ _ _ _ _ _ d_T_prefixOnes_35 ⟨_, rfl, rfl⟩ ⟨by simp [q_pre, c_5, c_21], rfl⟩ Y
    · refine lv_aload_n hx hb d_T_prefixOnes_24 rfl (lv_at hl 1 rfl) ?_
      refine fp_getN X Y ok rfl in_K 3 (by decide) nw71 rfl d_T_prefixOnes_25 ?_
      refine fp_callS (nA := 1) (As := [.int k4]) (rest := []) X Y (c_JI_bitCount k4) w281 w279 w280 w17 (by decide +kernel) ⟨rfl, rfl⟩ ⟨Nat.le_of_ble_eq_true rfl, Nat.le_of_ble_eq_true rfl⟩ rfl hl.1 rfl (Nat.le_of_ble_eq_true rfl) d_T_prefixOnes_28 ⟨Nat.zero_le _, Nat.zero_le _⟩ (fun v9 f9 H locs hp9 Y => ?_)
      obtain ⟨e8, e9⟩ := hp9
      subst e8
      rw [e9] at Y
      refine W.eq (g2 := F0 m 31 ls [.int (q_bc k4)]) rfl ?_
      refine lv_goto (tgt := 35) hx hb d_T_prefixOnes_31 (by decide) ?_
      exact ret _ _ _ _ _ _ d_T_prefixOnes_35 ⟨_, rfl, rfl⟩ ⟨by simp [q_pre, c_5, c_21], rfl⟩ Y
  · refine lv_aload_n hx hb d_T_prefixOnes_8 rfl (lv_at hl 1 rfl) ?_
    refine fp_getN X Y ok rfl in_K 1 (by decide) nw67 rfl d_T_prefixOnes_9 ?_
    refine fp_callS (nA := 1) (As := [.int k2]) (rest := []) X Y (c_JI_bitCount k2) w281 w279 w280 w17 (by decide +kernel) ⟨rfl, rfl⟩ ⟨Nat.le_of_ble_eq_true rfl, Nat.le_of_ble_eq_true rfl⟩ rfl hl.1 rfl (Nat.le_of_ble_eq_true rfl) d_T_prefixOnes_12 ⟨Nat.zero_le _, Nat.zero_le _⟩ (fun v9 f9 H locs hp9 Y => ?_)
    obtain ⟨e8, e9⟩ := hp9
    subst e8
    rw [e9] at Y
    refine W.eq (g2 := F0 m 15 ls [.int (q_bc k2)]) rfl ?_
    exact ret _ _ _ _ _ _ d_T_prefixOnes_15 ⟨_, rfl, rfl⟩ ⟨by simp [q_pre, c_5], rfl⟩ Y
set_option maxHeartbeats 4000000 in
set_option maxRecDepth 100000 in
theorem c_T_isBetter {l : Launch} {D : va_G} {g : Nat → ClassId} {b n : Nat} {A : Nat → Prop} {f : Nat → va_E} {t r sq : Nat} {cn xf xg hF hG oF oG al ms : Int32} {e1 e2 kq jq : Nat} {k1 k2 k3 k4 j1 j2 j3 j4 p1 p2 p3 p4 r1 r2 r3 r4 : Int32} (ot : fp_o b n f t (ob 6 [.ref r, .int cn, .int xf, .int xg, .int hF, .int hG, .int oF, .int oG, .int al, .int ms, .ref sq])) (oe1 : fp_o b n f e1 (ob 3 [.ref kq, .int p1, .int p2, .int p3, .int p4])) (ok : fp_o b n f kq (ob 5 [.int k1, .int k2, .int k3, .int k4])) (oe2 : fp_o b n f e2 (ob 3 [.ref jq, .int r1, .int r2, .int r3, .int r4])) (oj : fp_o b n f jq (ob 5 [.int j1, .int j2, .int j3, .int j4]))  : fp_M l D (TY g) b n A y_T_isBetter (fp_ws y_T_isBetter b_T_isBetter 5 (some FieldType.boolean)) (rmD 2) [.ref t, .ref e1, .ref e2] f (fun v f' => v = some (.int (q_bet (q_pre hF hG k2 k4) (q_pre hF hG j2 j4) p1 r1)) ∧ f' = f) := by
  refine fp_ofI (plainFor_of_name (by decide)) (Nat.le_of_ble_eq_true rfl) ?_
  intro p e s m args below meth c Q ls H locs X Y hl ret
  have hx := X.1.1
  have hb := X.1.2.1
  have hl : lv_has ls 5 [(0, .ref t), (1, .ref e1), (2, .ref e2)] := hl
  refine lv_aload_n hx hb d_T_isBetter_0 rfl (lv_at hl 0 rfl) ?_
  refine lv_aload_n hx hb d_T_isBetter_1 rfl (lv_at hl 1 rfl) ?_
  refine fp_getN X Y oe1 rfl in_E 0 (by decide) nw136 rfl d_T_isBetter_2 ?_
  refine fp_callV (nA := 1) (As := [.ref kq]) (rest := []) X Y (c_T_prefixOnes ot ok) ot rfl w278 w275 w277 wp2 w7 (by decide +kernel) ⟨rfl, rfl⟩ ⟨Nat.le_of_ble_eq_true rfl, Nat.le_of_ble_eq_true rfl⟩ rfl hl.1 rfl (Nat.le_of_ble_eq_true rfl) d_T_isBetter_5 ⟨Nat.zero_le _, Nat.zero_le _⟩ (fun v9 f9 H locs hp9 Y => ?_)
  obtain ⟨e8, e9⟩ := hp9
  subst e8
  rw [e9] at Y
  refine W.eq (g2 := F0 m 8 ls [.int (q_pre hF hG k2 k4)]) rfl ?_
  refine lv_istore_n (lv' := [(3, .int (q_pre hF hG k2 k4)), (0, .ref t), (1, .ref e1), (2, .ref e2)]) hx hb d_T_isBetter_8 rfl hl (by decide) rfl (fun ls hl => ?_)
  refine lv_aload_n hx hb d_T_isBetter_9 rfl (lv_at hl 1 rfl) ?_
  refine lv_aload_n hx hb d_T_isBetter_10 rfl (lv_at hl 3 rfl) ?_
  refine fp_getN X Y oe2 rfl in_E 0 (by decide) nw136 rfl d_T_isBetter_11 ?_
  refine fp_callV (nA := 1) (As := [.ref jq]) (rest := []) X Y (c_T_prefixOnes ot oj) ot rfl w278 w275 w277 wp2 w7 (by decide +kernel) ⟨rfl, rfl⟩ ⟨Nat.le_of_ble_eq_true rfl, Nat.le_of_ble_eq_true rfl⟩ rfl hl.1 rfl (Nat.le_of_ble_eq_true rfl) d_T_isBetter_14 ⟨Nat.zero_le _, Nat.zero_le _⟩ (fun v9 f9 H locs hp9 Y => ?_)
  obtain ⟨e8, e9⟩ := hp9
  subst e8
  rw [e9] at Y
  refine W.eq (g2 := F0 m 17 ls [.int (q_pre hF hG j2 j4)]) rfl ?_
  refine lv_istore (lv' := [(4, .int (q_pre hF hG j2 j4)), (3, .int (q_pre hF hG k2 k4)), (0, .ref t), (1, .ref e1), (2, .ref e2)]) hx hb d_T_isBetter_17 hl (by decide) rfl (fun ls hl => ?_)
  refine lv_iload_n hx hb d_T_isBetter_19 rfl (lv_at hl 1 rfl) ?_
  refine lv_iload hx hb d_T_isBetter_20 (lv_at hl 0 rfl) ?_
  refine lv_icmp_eq (tgt := 37) hx hb d_T_isBetter_22 (by decide) (fun c_22 => ?_) (fun c_22 => ?_)
  · refine lv_aload_n hx hb d_T_isBetter_37 rfl (lv_at hl 3 rfl) ?_
    refine fp_getN X Y oe1 rfl in_E 1 (by decide) nw137 rfl d_T_isBetter_38 ?_
    refine lv_aload_n hx hb d_T_isBetter_41 rfl (lv_at hl 4 rfl) ?_
    refine fp_getN X Y oe2 rfl in_E 1 (by decide) nw137 rfl d_T_isBetter_42 ?_
    refine lv_icmp_le (tgt := 52) hx hb d_T_isBetter_45 (by decide) (fun c_45 => ?_) (fun c_45 => ?_)
    · refine lv_iconst (v := 0) hx hb d_T_isBetter_52 (by decide) ?_
      exact ret _ _ _ _ _ _ d_T_isBetter_53 ⟨_, rfl, rfl⟩ ⟨by simp [q_bet, c_22, c_45], rfl⟩ Y
    · refine lv_iconst (v := 1) hx hb d_T_isBetter_48 (by decide) ?_
      refine lv_goto (tgt := 53) hx hb d_T_isBetter_49 (by decide) ?_
      exact ret _ _ _ _ _ _ d_T_isBetter_53 ⟨_, rfl, rfl⟩ ⟨by simp [q_bet, c_22, c_45], rfl⟩ Y
  · refine lv_iload_n hx hb d_T_isBetter_25 rfl (lv_at hl 1 rfl) ?_
    refine lv_iload hx hb d_T_isBetter_26 (lv_at hl 0 rfl) ?_
    refine lv_icmp_le (tgt := 35) hx hb d_T_isBetter_28 (by decide) (fun c_28 => ?_) (fun c_28 => ?_)
    · refine lv_iconst (v := 0) hx hb d_T_isBetter_35 (by decide) ?_
      exact ret _ _ _ _ _ _ d_T_isBetter_36 ⟨_, rfl, rfl⟩ ⟨by simp [q_bet, c_22, c_28], rfl⟩ Y
    · refine lv_iconst (v := 1) hx hb d_T_isBetter_31 (by decide) ?_
      refine lv_goto (tgt := 36) hx hb d_T_isBetter_32 (by decide) ?_
      exact ret _ _ _ _ _ _ d_T_isBetter_36 ⟨_, rfl, rfl⟩ ⟨by simp [q_bet, c_22, c_28], rfl⟩ Y
set_option maxHeartbeats 4000000 in
set_option maxRecDepth 100000 in
theorem c_T_seek {l : Launch} {D : va_G} {g : Nat → ClassId} {b n : Nat} {A : Nat → Prop} {f : Nat → va_E} {t r sq : Nat} {cn xf xg hF hG oF oG al ms : Int32} {kq : Nat} {k1 k2 k3 k4 s1 s2 s3 s4 : Int32} (ot : fp_o b n f t (ob 6 [.ref r, .int cn, .int xf, .int xg, .int hF, .int hG, .int oF, .int oG, .int al, .int ms, .ref sq])) (os : fp_o b n f sq (ob 5 [.int s1, .int s2, .int s3, .int s4])) (ok : fp_o b n f kq (ob 5 [.int k1, .int k2, .int k3, .int k4]))  (hA : fp_W b n A := by assumption) : fp_M l D (TY g) b n A y_T_seek (fp_ws y_T_seek b_T_seek 4 none) (rmD 1) [.ref t, .ref kq] f (fun v f' => v = none ∧ f' = va_up f sq (ob 5 [.int (k1 &&& (k2 &&& oF)), .int (k2 &&& oF), .int (k3 &&& (k4 &&& oG)), .int (k4 &&& oG)])) := by
  refine fp_ofV (plainFor_of_name (by decide)) (Nat.le_of_ble_eq_true rfl) ?_
  intro p e s m args below meth c Q ls H locs X Y hl ret
  have hx := X.1.1
  have hb := X.1.2.1
  have hl : lv_has ls 4 [(0, .ref t), (1, .ref kq)] := hl
  refine lv_aload_n hx hb d_T_seek_0 rfl (lv_at hl 1 rfl) ?_
  refine fp_getN X Y ok rfl in_K 1 (by decide) nw67 rfl d_T_seek_1 ?_
  refine lv_aload_n hx hb d_T_seek_4 rfl (lv_at hl 0 rfl) ?_
  refine fp_get X Y ot rfl in_T 6 (by decide) w162 rfl d_T_seek_5 ?_
  refine lv_iand hx hb d_T_seek_8 ?_
  refine lv_istore_n (lv' := [(2, .int (k2 &&& oF)), (0, .ref t), (1, .ref kq)]) hx hb d_T_seek_9 rfl hl (by decide) rfl (fun ls hl => ?_)
  refine lv_aload_n hx hb d_T_seek_10 rfl (lv_at hl 2 rfl) ?_
  refine fp_getN X Y ok rfl in_K 3 (by decide) nw71 rfl d_T_seek_11 ?_
  refine lv_aload_n hx hb d_T_seek_14 rfl (lv_at hl 1 rfl) ?_
  refine fp_get X Y ot rfl in_T 7 (by decide) w163 rfl d_T_seek_15 ?_
  refine lv_iand hx hb d_T_seek_18 ?_
  refine lv_istore_n (lv' := [(3, .int (k4 &&& oG)), (2, .int (k2 &&& oF)), (0, .ref t), (1, .ref kq)]) hx hb d_T_seek_19 rfl hl (by decide) rfl (fun ls hl => ?_)
  refine lv_aload_n hx hb d_T_seek_20 rfl (lv_at hl 2 rfl) ?_
  refine fp_get X Y ot rfl in_T 10 (by decide) w167 rfl d_T_seek_21 ?_
  refine lv_aload_n hx hb d_T_seek_24 rfl (lv_at hl 3 rfl) ?_
  refine fp_getN X Y ok rfl in_K 0 (by decide) nw65 rfl d_T_seek_25 ?_
  refine lv_iload_n hx hb d_T_seek_28 rfl (lv_at hl 1 rfl) ?_
  refine lv_iand hx hb d_T_seek_29 ?_
  refine lv_iload_n hx hb d_T_seek_30 rfl (lv_at hl 1 rfl) ?_
  refine lv_aload_n hx hb d_T_seek_31 rfl (lv_at hl 3 rfl) ?_
  refine fp_getN X Y ok rfl in_K 2 (by decide) nw69 rfl d_T_seek_32 ?_
  refine lv_iload_n hx hb d_T_seek_35 rfl (lv_at hl 0 rfl) ?_
  refine lv_iand hx hb d_T_seek_36 ?_
  refine lv_iload_n hx hb d_T_seek_37 rfl (lv_at hl 0 rfl) ?_
  refine fp_callV (nA := 4) (As := [.int (k1 &&& (k2 &&& oF)), .int (k2 &&& oF), .int (k3 &&& (k4 &&& oG)), .int (k4 &&& oG)]) (rest := []) X Y (c_K_hold (k1 &&& (k2 &&& oF)) (k2 &&& oF) (k3 &&& (k4 &&& oG)) (k4 &&& oG) os) os rfl w237 w538 w235 w236 w4 (by decide +kernel) ⟨rfl, rfl⟩ ⟨Nat.le_of_ble_eq_true rfl, Nat.le_of_ble_eq_true rfl⟩ rfl hl.1 rfl (Nat.le_of_ble_eq_true rfl) d_T_seek_38 ⟨Nat.zero_le _, Nat.zero_le _⟩ (fun v9 f9 H locs hp9 Y => ?_)
  obtain ⟨e8, e9⟩ := hp9
  subst e8
  rw [e9] at Y
  have ne_1 : t ≠ sq := (fp_o.nf ot os (by simp))
  have Y : fp_H D b n A (va_up f sq (ob 5 [.int (k1 &&& (k2 &&& oF)), .int (k2 &&& oF), .int (k3 &&& (k4 &&& oG)), .int (k4 &&& oG)])) s.heap H locs := Y
  have ot : fp_o b n (va_up f sq (ob 5 [.int (k1 &&& (k2 &&& oF)), .int (k2 &&& oF), .int (k3 &&& (k4 &&& oG)), .int (k4 &&& oG)])) t (ob 6 [.ref r, .int cn, .int xf, .int xg, .int hF, .int hG, .int oF, .int oG, .int al, .int ms, .ref sq]) := fp_o.ne ot ne_1
  have os : fp_o b n (va_up f sq (ob 5 [.int (k1 &&& (k2 &&& oF)), .int (k2 &&& oF), .int (k3 &&& (k4 &&& oG)), .int (k4 &&& oG)])) sq (ob 5 [.int (k1 &&& (k2 &&& oF)), .int (k2 &&& oF), .int (k3 &&& (k4 &&& oG)), .int (k4 &&& oG)]) := fp_o.up os
  refine W.eq (g2 := F0 m 41 ls []) rfl ?_
  exact ret _ _ _ _ _ d_T_seek_41 ⟨rfl, rfl⟩ Y
