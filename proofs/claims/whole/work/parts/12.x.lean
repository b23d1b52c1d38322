/-! Contracts: EntryTables, what makes and throws nothing (by wip/gen/k5.py). -/
theorem nar_in (x k : Int32) : narrow .boolean (.int (q_in x k)) = .int (q_in x k) := by unfold q_in; split <;> rfl
/-- Math.floorMod(x, 16), as the JDK has it -/
def q_fm (x : Int32) : Int32 := if (x ^^^ 16) < 0 ∧ ¬ x - x / 16 * 16 = 0 then x - x / 16 * 16 + 16 else x - x / 16 * 16
/-- whether what a doing of a kind uses is there -/
def q_ops (kj : Nat) (x y z kf : Int32) : Int32 := match kj with
  | 0 => q_in x kf
  | 1 => if q_in x kf = 0 then 0 else if q_in y kf = 0 then 0 else 1
  | 2 => if q_in x kf = 0 then 0 else if q_in y kf = 0 then 0 else 1
  | 3 => if q_in x kf = 0 then 0 else if q_in y 2 = 0 then 0 else 1
  | 5 => q_in y 2
  | 7 => if q_in x 4 = 0 then 0 else if q_in y kf = 0 then 0 else 1
  | 8 => if q_in x kf = 0 then 0 else if q_in y kf = 0 then 0 else if q_in z 4 = 0 then 0 else 1
  | _ => 1
def q_kf (x y kf : Int32) : Int32 := if q_in x kf = 0 then 0 else if y = -1 then 1 else if q_in y kf = 0 then 0 else if x = y then 0 else 1
def q_acb (w : Int32) (y ac x : Int32) : Int32 := if w = 0 then (if q_in y ac = 0 then 0 else if (x >>> (y &&& 31)) &&& 1 = 0 then 0 else 1) else 0
def q_ac (x y ac : Int32) : Int32 := q_acb (x &&& ((((1 : Int32) <<< (ac &&& 31)) - 1) ^^^ (-1))) y ac x
def q_hwb (u v y : Int32) : Int32 := if 2 < u then 0 else if v < 0 then 0 else if v ≤ 2 then (if y = -1 then (if v = 0 then 1 else 0) else if u = 1 then (if v = 1 then 0 else 1) else 1) else 0
def q_hw (x y : Int32) : Int32 := q_hwb (x &&& 3) (x >>> ((2 : Int32) &&& 31)) y
set_option maxHeartbeats 4000000 in
set_option maxRecDepth 100000 in
theorem c_X_isAction {l : Launch} {D : va_G} {g : Nat → ClassId} {b n : Nat} {A : Nat → Prop} {f : Nat → va_E} {a fo co qa qt kq : Nat} {ac tc po dr : Int32} (x : Int32) (oa : fp_o b n f a (ob 7 [.ref fo, .ref co, .ref qa, .int ac, .ref qt, .int tc, .ref kq, .int po, .int dr]))  : fp_M l D (TY g) b n A y_X_isAction (fp_ws y_X_isAction b_X_isAction 2 (some FieldType.boolean)) (rmD 0) [.ref a, .int x] f (fun v f' => v = some (.int (q_in x ac)) ∧ f' = f) := by
  refine fp_ofI (plainFor_of_name (by decide)) (Nat.le_of_ble_eq_true rfl) ?_
  intro p e s m args below meth c Q ls H locs X Y hl ret
  have hx := X.1.1
  have hb := X.1.2.1
  have hl : lv_has ls 2 [(0, .ref a), (1, .int x)] := hl
  refine lv_iload_n hx hb d_X_isAction_0 rfl (lv_at hl 1 rfl) ?_
  refine lv_if_lt (tgt := 16) hx hb d_X_isAction_1 (by decide) (fun c_1 => ?_) (fun c_1 => ?_)
  · refine lv_iconst (v := 0) hx hb d_X_isAction_16 (by decide) ?_
    exact ret _ _ _ _ _ _ d_X_isAction_17 ⟨_, rfl, rfl⟩ ⟨by simp [q_in, c_1], rfl⟩ Y
  · refine lv_iload_n hx hb d_X_isAction_4 rfl (lv_at hl 1 rfl) ?_
    refine lv_aload_n hx hb d_X_isAction_5 rfl (lv_at hl 0 rfl) ?_
    refine fp_get X Y oa rfl in_X 3 (by decide) w194 rfl d_X_isAction_6 ?_
    refine lv_icmp_ge (tgt := 16) hx hb d_X_isAction_9 (by decide) (fun c_9 => ?_) (fun c_9 => ?_)
    · refine lv_iconst (v := 0) hx hb d_X_isAction_16 (by decide) ?_
      exact ret _ _ _ _ _ _ d_X_isAction_17 ⟨_, rfl, rfl⟩ ⟨by simp [q_in, c_1, c_9], rfl⟩ Y
    · refine lv_iconst (v := 1) hx hb d_X_isAction_12 (by decide) ?_
      refine lv_goto (tgt := 17) hx hb d_X_isAction_13 (by decide) ?_
      exact ret _ _ _ _ _ _ d_X_isAction_17 ⟨_, rfl, rfl⟩ ⟨by simp [q_in, c_1, c_9], rfl⟩ Y
set_option maxHeartbeats 4000000 in
set_option maxRecDepth 100000 in
theorem c_X_isTable {l : Launch} {D : va_G} {g : Nat → ClassId} {b n : Nat} {A : Nat → Prop} {f : Nat → va_E} {a fo co qa qt kq : Nat} {ac tc po dr : Int32} (x : Int32) (oa : fp_o b n f a (ob 7 [.ref fo, .ref co, .ref qa, .int ac, .ref qt, .int tc, .ref kq, .int po, .int dr]))  : fp_M l D (TY g) b n A y_X_isTable (fp_ws y_X_isTable b_X_isTable 2 (some FieldType.boolean)) (rmD 0) [.ref a, .int x] f (fun v f' => v = some (.int (q_in x tc)) ∧ f' = f) := by
  refine fp_ofI (plainFor_of_name (by decide)) (Nat.le_of_ble_eq_true rfl) ?_
  intro p e s m args below meth c Q ls H locs X Y hl ret
  have hx := X.1.1
  have hb := X.1.2.1
  have hl : lv_has ls 2 [(0, .ref a), (1, .int x)] := hl
  refine lv_iload_n hx hb d_X_isTable_0 rfl (lv_at hl 1 rfl) ?_
  refine lv_if_lt (tgt := 16) hx hb d_X_isTable_1 (by decide) (fun c_1 => ?_) (fun c_1 => ?_)
  · refine lv_iconst (v := 0) hx hb d_X_isTable_16 (by decide) ?_
    exact ret _ _ _ _ _ _ d_X_isTable_17 ⟨_, rfl, rfl⟩ ⟨by simp [q_in, c_1], rfl⟩ Y
  · refine lv_iload_n hx hb d_X_isTable_4 rfl (lv_at hl 1 rfl) ?_
    refine lv_aload_n hx hb d_X_isTable_5 rfl (lv_at hl 0 rfl) ?_
    refine fp_get X Y oa rfl in_X 5 (by decide) w196 rfl d_X_isTable_6 ?_
    refine lv_icmp_ge (tgt := 16) hx hb d_X_isTable_9 (by decide) (fun c_9 => ?_) (fun c_9 => ?_)
    · refine lv_iconst (v := 0) hx hb d_X_isTable_16 (by decide) ?_
      exact ret _ _ _ _ _ _ d_X_isTable_17 ⟨_, rfl, rfl⟩ ⟨by simp [q_in, c_1, c_9], rfl⟩ Y
    · refine lv_iconst (v := 1) hx hb d_X_isTable_12 (by decide) ?_
      refine lv_goto (tgt := 17) hx hb d_X_isTable_13 (by decide) ?_
      exact ret _ _ _ _ _ _ d_X_isTable_17 ⟨_, rfl, rfl⟩ ⟨by simp [q_in, c_1, c_9], rfl⟩ Y
set_option maxHeartbeats 4000000 in
set_option maxRecDepth 100000 in
theorem c_X_port {l : Launch} {D : va_G} {g : Nat → ClassId} {b n : Nat} {A : Nat → Prop} {f : Nat → va_E} {a fo co qa qt kq : Nat} {ac tc po dr : Int32} (oa : fp_o b n f a (ob 7 [.ref fo, .ref co, .ref qa, .int ac, .ref qt, .int tc, .ref kq, .int po, .int dr]))  : fp_M l D (TY g) b n A y_X_port (fp_ws y_X_port b_X_port 1 (some FieldType.int)) (rmD 0) [.ref a] f (fun v f' => v = some (.int po) ∧ f' = f) := by
  refine fp_ofI (plainFor_of_name (by decide)) (Nat.le_of_ble_eq_true rfl) ?_
  intro p e s m args below meth c Q ls H locs X Y hl ret
  have hx := X.1.1
  have hb := X.1.2.1
  have hl : lv_has ls 1 [(0, .ref a)] := hl
  refine lv_aload_n hx hb d_X_port_0 rfl (lv_at hl 0 rfl) ?_
  refine fp_get X Y oa rfl in_X 7 (by decide) w198 rfl d_X_port_1 ?_
  exact ret _ _ _ _ _ _ d_X_port_4 ⟨_, rfl, rfl⟩ ⟨rfl, rfl⟩ Y
set_option maxHeartbeats 4000000 in
set_option maxRecDepth 100000 in
theorem c_X_isDropped {l : Launch} {D : va_G} {g : Nat → ClassId} {b n : Nat} {A : Nat → Prop} {f : Nat → va_E} {a fo co qa qt kq : Nat} {ac tc po dr : Int32} (hdr : dr = 0 ∨ dr = 1) (oa : fp_o b n f a (ob 7 [.ref fo, .ref co, .ref qa, .int ac, .ref qt, .int tc, .ref kq, .int po, .int dr]))  : fp_M l D (TY g) b n A y_X_isDropped (fp_ws y_X_isDropped b_X_isDropped 1 (some FieldType.boolean)) (rmD 0) [.ref a] f (fun v f' => v = some (.int dr) ∧ f' = f) := by
  refine fp_ofI (plainFor_of_name (by decide)) (Nat.le_of_ble_eq_true rfl) ?_
  intro p e s m args below meth c Q ls H locs X Y hl ret
  have hx := X.1.1
  have hb := X.1.2.1
  have hl : lv_has ls 1 [(0, .ref a)] := hl
  refine lv_aload_n hx hb d_X_isDropped_0 rfl (lv_at hl 0 rfl) ?_
  refine fp_get X Y oa rfl in_X 8 (by decide) w199 rfl d_X_isDropped_1 ?_
  exact ret _ _ _ _ _ _ d_X_isDropped_4 ⟨_, rfl, (by rcases hdr with h | h <;> subst h <;> rfl)⟩ ⟨rfl, rfl⟩ Y
set_option maxHeartbeats 4000000 in
set_option maxRecDepth 100000 in
theorem c_X_get {l : Launch} {D : va_G} {g : Nat → ClassId} {b n : Nat} {A : Nat → Prop} {f : Nat → va_E} {a fo co qa qt kq : Nat} {ac tc po dr : Int32} {q1 q2 kf : Nat} {z1 z2 : Nat → Int32} (x : Int32) (hk : kf ≤ 16) (oa : fp_o b n f a (ob 7 [.ref fo, .ref co, .ref qa, .int ac, .ref qt, .int tc, .ref kq, .int po, .int dr])) (of : fp_o b n f fo (ob 4 [.ref q1, .ref q2, .int (nI kf)])) (o1 : fp_o b n f q1 (aI g 16 z1)) (o2 : fp_o b n f q2 (aI g 16 z2))  : fp_M l D (TY g) b n A y_X_get (fp_ws y_X_get b_X_get 2 (some FieldType.int)) (rmD 2) [.ref a, .int x] f (fun v f' => v = some (.int (q_at z2 x (nI kf))) ∧ f' = f) := by
  refine fp_ofI (plainFor_of_name (by decide)) (Nat.le_of_ble_eq_true rfl) ?_
  intro p e s m args below meth c Q ls H locs X Y hl ret
  have hx := X.1.1
  have hb := X.1.2.1
  have hl : lv_has ls 2 [(0, .ref a), (1, .int x)] := hl
  refine lv_aload_n hx hb d_X_get_0 rfl (lv_at hl 0 rfl) ?_
  refine fp_get X Y oa rfl in_X 0 (by decide) w191 rfl d_X_get_1 ?_
  refine lv_iload_n hx hb d_X_get_4 rfl (lv_at hl 1 rfl) ?_
  refine fp_callV (nA := 1) (As := [.int x]) (rest := []) X Y (c_F_read x hk of o1 o2) of rfl w245 w242 w243 w244 w2 (by decide +kernel) ⟨rfl, rfl⟩ ⟨Nat.le_of_ble_eq_true rfl, Nat.le_of_ble_eq_true rfl⟩ rfl hl.1 rfl (Nat.le_of_ble_eq_true rfl) d_X_get_5 ⟨Nat.zero_le _, Nat.zero_le _⟩ (fun v9 f9 H locs hp9 Y => ?_)
  obtain ⟨e8, e9⟩ := hp9
  subst e8
  rw [e9] at Y
  refine W.eq (g2 := F0 m 8 ls [.int (q_at z2 x (nI kf))]) rfl ?_
  exact ret _ _ _ _ _ _ d_X_get_8 ⟨_, rfl, rfl⟩ ⟨rfl, rfl⟩ Y
set_option maxHeartbeats 4000000 in
set_option maxRecDepth 100000 in
theorem c_X_word {l : Launch} {D : va_G} {g : Nat → ClassId} {b n : Nat} {A : Nat → Prop} {f : Nat → va_E} {a fo co qa qt kq : Nat} {ac tc po dr : Int32} {qc : Nat} {zc : Nat → Int32} (x y : Int32) (oa : fp_o b n f a (ob 7 [.ref fo, .ref co, .ref qa, .int ac, .ref qt, .int tc, .ref kq, .int po, .int dr])) (oc : fp_o b n f co (ob 1 [.ref qc])) (oqc : fp_o b n f qc (aI g 64 zc))  : fp_M l D (TY g) b n A y_X_word (fp_ws y_X_word b_X_word 3 (some FieldType.int)) (rmD 3) [.ref a, .int x, .int y] f (fun v f' => v = some (.int (q_cr zc x y)) ∧ f' = f) := by
  refine fp_ofI (plainFor_of_name (by decide)) (Nat.le_of_ble_eq_true rfl) ?_
  intro p e s m args below meth c Q ls H locs X Y hl ret
  have hx := X.1.1
  have hb := X.1.2.1
  have hl : lv_has ls 3 [(0, .ref a), (1, .int x), (2, .int y)] := hl
  refine lv_aload_n hx hb d_X_word_0 rfl (lv_at hl 0 rfl) ?_
  refine fp_get X Y oa rfl in_X 1 (by decide) w192 rfl d_X_word_1 ?_
  refine lv_iload_n hx hb d_X_word_4 rfl (lv_at hl 1 rfl) ?_
  refine lv_iload_n hx hb d_X_word_5 rfl (lv_at hl 2 rfl) ?_
  refine fp_callV (nA := 2) (As := [.int x, .int y]) (rest := []) X Y (c_C_read x y oc oqc) oc rfl w300 w297 w298 w299 w3 (by decide +kernel) ⟨rfl, rfl⟩ ⟨Nat.le_of_ble_eq_true rfl, Nat.le_of_ble_eq_true rfl⟩ rfl hl.1 rfl (Nat.le_of_ble_eq_true rfl) d_X_word_6 ⟨Nat.zero_le _, Nat.zero_le _⟩ (fun v9 f9 H locs hp9 Y => ?_)
  obtain ⟨e8, e9⟩ := hp9
  subst e8
  rw [e9] at Y
  refine W.eq (g2 := F0 m 9 ls [.int (q_cr zc x y)]) rfl ?_
  exact ret _ _ _ _ _ _ d_X_word_9 ⟨_, rfl, rfl⟩ ⟨rfl, rfl⟩ Y
set_option maxHeartbeats 4000000 in
set_option maxRecDepth 100000 in
theorem c_X_key {l : Launch} {D : va_G} {g : Nat → ClassId} {b n : Nat} {A : Nat → Prop} {f : Nat → va_E} {a fo co qa qt kq : Nat} {ac tc po dr : Int32} {k1 k2 k3 k4 : Int32} (x1 x2 x3 x4 : Int32) (oa : fp_o b n f a (ob 7 [.ref fo, .ref co, .ref qa, .int ac, .ref qt, .int tc, .ref kq, .int po, .int dr])) (ok : fp_o b n f kq (ob 5 [.int k1, .int k2, .int k3, .int k4]))  (hA : fp_W b n A := by assumption) : fp_M l D (TY g) b n A y_X_key (fp_ws y_X_key b_X_key 5 none) (rmD 1) [.ref a, .int x1, .int x2, .int x3, .int x4] f (fun v f' => v = none ∧ f' = va_up f kq (ob 5 [.int x1, .int x2, .int x3, .int x4])) := by
  refine fp_ofV (plainFor_of_name (by decide)) (Nat.le_of_ble_eq_true rfl) ?_
  intro p e s m args below meth c Q ls H locs X Y hl ret
  have hx := X.1.1
  have hb := X.1.2.1
  have hl : lv_has ls 5 [(0, .ref a), (1, .int x1), (2, .int x2), (3, .int x3), (4, .int x4)] := hl
  refine lv_aload_n hx hb d_X_key_0 rfl (lv_at hl 0 rfl) ?_
  refine fp_get X Y oa rfl in_X 6 (by decide) w197 rfl d_X_key_1 ?_
  refine lv_iload_n hx hb d_X_key_4 rfl (lv_at hl 1 rfl) ?_
  refine lv_iload_n hx hb d_X_key_5 rfl (lv_at hl 2 rfl) ?_
  refine lv_iload_n hx hb d_X_key_6 rfl (lv_at hl 3 rfl) ?_
  refine lv_iload hx hb d_X_key_7 (lv_at hl 4 rfl) ?_
  refine fp_callV (nA := 4) (As := [.int x1, .int x2, .int x3, .int x4]) (rest := []) X Y (c_K_hold x1 x2 x3 x4 ok) ok rfl w237 w234 w235 w236 w4 (by decide +kernel) ⟨rfl, rfl⟩ ⟨Nat.le_of_ble_eq_true rfl, Nat.le_of_ble_eq_true rfl⟩ rfl hl.1 rfl (Nat.le_of_ble_eq_true rfl) d_X_key_9 ⟨Nat.zero_le _, Nat.zero_le _⟩ (fun v9 f9 H locs hp9 Y => ?_)
  obtain ⟨e8, e9⟩ := hp9
  subst e8
  rw [e9] at Y
  have ne_1 : a ≠ kq := (fp_o.nf oa ok (by simp))
  have Y : fp_H D b n A (va_up f kq (ob 5 [.int x1, .int x2, .int x3, .int x4])) s.heap H locs := Y
  have oa : fp_o b n (va_up f kq (ob 5 [.int x1, .int x2, .int x3, .int x4])) a (ob 7 [.ref fo, .ref co, .ref qa, .int ac, .ref qt, .int tc, .ref kq, .int po, .int dr]) := fp_o.ne oa ne_1
  have ok : fp_o b n (va_up f kq (ob 5 [.int x1, .int x2, .int x3, .int x4])) kq (ob 5 [.int x1, .int x2, .int x3, .int x4]) := fp_o.up ok
  refine W.eq (g2 := F0 m 12 ls []) rfl ?_
  exact ret _ _ _ _ _ d_X_key_12 ⟨rfl, rfl⟩ Y
set_option maxHeartbeats 4000000 in
set_option maxRecDepth 100000 in
theorem c_X_wordNumber {l : Launch} {D : va_G} {g : Nat → ClassId} {b n : Nat} {A : Nat → Prop} {f : Nat → va_E} {a fo co qa qt kq : Nat} {ac tc po dr : Int32} {q1 q2 kf : Nat} {z1 z2 : Nat → Int32} (x : Int32) (hk : kf ≤ 16) (oa : fp_o b n f a (ob 7 [.ref fo, .ref co, .ref qa, .int ac, .ref qt, .int tc, .ref kq, .int po, .int dr])) (of : fp_o b n f fo (ob 4 [.ref q1, .ref q2, .int (nI kf)])) (o1 : fp_o b n f q1 (aI g 16 z1)) (o2 : fp_o b n f q2 (aI g 16 z2))  : fp_M l D (TY g) b n A y_X_wordNumber (fp_ws y_X_wordNumber b_X_wordNumber 2 (some FieldType.int)) (rmD 2) [.ref a, .int x] f (fun v f' => v = some (.int (q_fm (q_at z2 x (nI kf)))) ∧ f' = f) := by
  refine fp_ofI (plainFor_of_name (by decide)) (Nat.le_of_ble_eq_true rfl) ?_
  intro p e s m args below meth c Q ls H locs X Y hl ret
  have hx := X.1.1
  have hb := X.1.2.1
  have hl : lv_has ls 2 [(0, .ref a), (1, .int x)] := hl
  refine lv_aload_n hx hb d_X_wordNumber_0 rfl (lv_at hl 0 rfl) ?_
  refine fp_get X Y oa rfl in_X 0 (by decide) w191 rfl d_X_wordNumber_1 ?_
  refine lv_iload_n hx hb d_X_wordNumber_4 rfl (lv_at hl 1 rfl) ?_
  refine fp_callV (nA := 1) (As := [.int x]) (rest := []) X Y (c_F_read x hk of o1 o2) of rfl w245 w242 w243 w244 w2 (by decide +kernel) ⟨rfl, rfl⟩ ⟨Nat.le_of_ble_eq_true rfl, Nat.le_of_ble_eq_true rfl⟩ rfl hl.1 rfl (Nat.le_of_ble_eq_true rfl) d_X_wordNumber_5 ⟨Nat.zero_le _, Nat.zero_le _⟩ (fun v9 f9 H locs hp9 Y => ?_)
  obtain ⟨e8, e9⟩ := hp9
  subst e8
  rw [e9] at Y
  refine W.eq (g2 := F0 m 8 ls [.int (q_at z2 x (nI kf))]) rfl ?_
  refine lv_bipush (v := 16) hx hb d_X_wordNumber_8 (by decide) ?_
  refine fp_callS (nA := 2) (As := [.int (q_at z2 x (nI kf)), .int 16]) (rest := []) X Y (c_JM_floorMod (q_at z2 x (nI kf))) w590 w588 w589 w18 (by decide +kernel) ⟨rfl, rfl⟩ ⟨Nat.le_of_ble_eq_true rfl, Nat.le_of_ble_eq_true rfl⟩ rfl hl.1 rfl (Nat.le_of_ble_eq_true rfl) d_X_wordNumber_10 ⟨Nat.zero_le _, Nat.zero_le _⟩ (fun v9 f9 H locs hp9 Y => ?_)
  obtain ⟨e8, e9⟩ := hp9
  subst e8
  rw [e9] at Y
  refine W.eq (g2 := F0 m 13 ls [.int (q_fm (q_at z2 x (nI kf)))]) rfl ?_
  exact ret _ _ _ _ _ _ d_X_wordNumber_13 ⟨_, rfl, rfl⟩ ⟨rfl, rfl⟩ Y
set_option maxHeartbeats 4000000 in
set_option maxRecDepth 100000 in
theorem c_X_clear {l : Launch} {D : va_G} {g : Nat → ClassId} {b n : Nat} {A : Nat → Prop} {f : Nat → va_E} {a fo co qa qt kq : Nat} {ac tc po dr : Int32} {q1 q2 kf : Nat} {z1 z2 : Nat → Int32} {qc : Nat} {zc : Nat → Int32} {k1 k2 k3 k4 : Int32} (oa : fp_o b n f a (ob 7 [.ref fo, .ref co, .ref qa, .int ac, .ref qt, .int tc, .ref kq, .int po, .int dr])) (of : fp_o b n f fo (ob 4 [.ref q1, .ref q2, .int (nI kf)])) (o1 : fp_o b n f q1 (aI g 16 z1)) (o2 : fp_o b n f q2 (aI g 16 z2)) (oc : fp_o b n f co (ob 1 [.ref qc])) (oqc : fp_o b n f qc (aI g 64 zc)) (ok : fp_o b n f kq (ob 5 [.int k1, .int k2, .int k3, .int k4])) (n1 : q1 ≠ q2) (n2 : q1 ≠ qc) (n3 : q2 ≠ qc) (hA : fp_W b n A := by assumption) : fp_M l D (TY g) b n A y_X_clear (fp_ws y_X_clear b_X_clear 1 none) (rmD 2) [.ref a] f (fun v f' => v = none ∧ f' = va_up (va_up (va_up (va_up (va_up f fo (ob 4 [.ref q1, .ref q2, .int 0])) qc (aI g 64 (q_fill zc 0 64))) a (ob 7 [.ref fo, .ref co, .ref qa, .int 0, .ref qt, .int 0, .ref kq, .int po, .int dr])) kq (ob 5 [.int 0, .int 0, .int 0, .int 0])) a (ob 7 [.ref fo, .ref co, .ref qa, .int 0, .ref qt, .int 0, .ref kq, .int 0, .int 0])) := by
  refine fp_ofV (plainFor_of_name (by decide)) (Nat.le_of_ble_eq_true rfl) ?_
  intro p e s m args below meth c Q ls H locs X Y hl ret
  have hx := X.1.1
  have hb := X.1.2.1
  have hl : lv_has ls 1 [(0, .ref a)] := hl
  refine lv_aload_n hx hb d_X_clear_0 rfl (lv_at hl 0 rfl) ?_
  refine fp_get X Y oa rfl in_X 0 (by decide) w191 rfl d_X_clear_1 ?_
  refine fp_callV (nA := 0) (As := []) (rest := []) X Y (c_F_forget of) of rfl w226 w223 w224 w225 w2 (by decide +kernel) ⟨rfl, rfl⟩ ⟨Nat.le_of_ble_eq_true rfl, Nat.le_of_ble_eq_true rfl⟩ rfl hl.1 rfl (Nat.le_of_ble_eq_true rfl) d_X_clear_4 ⟨Nat.zero_le _, Nat.zero_le _⟩ (fun v9 f9 H locs hp9 Y => ?_)
  obtain ⟨e8, e9⟩ := hp9
  subst e8
  rw [e9] at Y
  have ne_1 : a ≠ fo := (fp_o.nf oa of (by simp))
  have ne_2 : q1 ≠ fo := (fp_o.nf o1 of (by simp))
  have ne_3 : q2 ≠ fo := (fp_o.nf o2 of (by simp))
  have ne_4 : co ≠ fo := (fp_o.nf oc of (by simp))
  have ne_5 : qc ≠ fo := (fp_o.nf oqc of (by simp))
  have ne_6 : kq ≠ fo := (fp_o.nf ok of (by simp))
  have Y : fp_H D b n A (va_up f fo (ob 4 [.ref q1, .ref q2, .int 0])) s.heap H locs := Y
  have oa : fp_o b n (va_up f fo (ob 4 [.ref q1, .ref q2, .int 0])) a (ob 7 [.ref fo, .ref co, .ref qa, .int ac, .ref qt, .int tc, .ref kq, .int po, .int dr]) := fp_o.ne oa ne_1
  have o1 : fp_o b n (va_up f fo (ob 4 [.ref q1, .ref q2, .int 0])) q1 (aI g 16 z1) := fp_o.ne o1 ne_2
  have o2 : fp_o b n (va_up f fo (ob 4 [.ref q1, .ref q2, .int 0])) q2 (aI g 16 z2) := fp_o.ne o2 ne_3
  have oc : fp_o b n (va_up f fo (ob 4 [.ref q1, .ref q2, .int 0])) co (ob 1 [.ref qc]) := fp_o.ne oc ne_4
  have oqc : fp_o b n (va_up f fo (ob 4 [.ref q1, .ref q2, .int 0])) qc (aI g 64 zc) := fp_o.ne oqc ne_5
  have ok : fp_o b n (va_up f fo (ob 4 [.ref q1, .ref q2, .int 0])) kq (ob 5 [.int k1, .int k2, .int k3, .int k4]) := fp_o.ne ok ne_6
  have of : fp_o b n (va_up f fo (ob 4 [.ref q1, .ref q2, .int 0])) fo (ob 4 [.ref q1, .ref q2, .int 0]) := fp_o.up of
  refine W.eq (g2 := F0 m 7 ls []) rfl ?_
  refine lv_aload_n hx hb d_X_clear_7 rfl (lv_at hl 0 rfl) ?_
  refine fp_get X Y oa rfl in_X 1 (by decide) w192 rfl d_X_clear_8 ?_
  refine fp_callV (nA := 0) (As := []) (rest := []) X Y (c_C_forget oc oqc) oc rfl w230 w227 w228 w229 w3 (by decide +kernel) ⟨rfl, rfl⟩ ⟨Nat.le_of_ble_eq_true rfl, Nat.le_of_ble_eq_true rfl⟩ rfl hl.1 rfl (Nat.le_of_ble_eq_true rfl) d_X_clear_11 ⟨Nat.zero_le _, Nat.zero_le _⟩ (fun v9 f9 H locs hp9 Y => ?_)
  obtain ⟨e8, e9⟩ := hp9
  subst e8
  rw [e9] at Y
  have ne_7 : a ≠ qc := (fp_o.nf oa oqc (by simp))
  have ne_8 : fo ≠ qc := (fp_o.nf of oqc (by simp))
  have ne_9 : q1 ≠ qc := n2
  have ne_10 : q2 ≠ qc := n3
  have ne_11 : co ≠ qc := (fp_o.nf oc oqc (by simp))
  have ne_12 : kq ≠ qc := (fp_o.nf ok oqc (by simp))
  have Y : fp_H D b n A (va_up (va_up f fo (ob 4 [.ref q1, .ref q2, .int 0])) qc (aI g 64 (q_fill zc 0 64))) s.heap H locs := Y
  have oa : fp_o b n (va_up (va_up f fo (ob 4 [.ref q1, .ref q2, .int 0])) qc (aI g 64 (q_fill zc 0 64))) a (ob 7 [.ref fo, .ref co, .ref qa, .int ac, .ref qt, .int tc, .ref kq, .int po, .int dr]) := fp_o.ne oa ne_7
  have of : fp_o b n (va_up (va_up f fo (ob 4 [.ref q1, .ref q2, .int 0])) qc (aI g 64 (q_fill zc 0 64))) fo (ob 4 [.ref q1, .ref q2, .int 0]) := fp_o.ne of ne_8
  have o1 : fp_o b n (va_up (va_up f fo (ob 4 [.ref q1, .ref q2, .int 0])) qc (aI g 64 (q_fill zc 0 64))) q1 (aI g 16 z1) := fp_o.ne o1 ne_9
  have o2 : fp_o b n (va_up (va_up f fo (ob 4 [.ref q1, .ref q2, .int 0])) qc (aI g 64 (q_fill zc 0 64))) q2 (aI g 16 z2) := fp_o.ne o2 ne_10
  have oc : fp_o b n (va_up (va_up f fo (ob 4 [.ref q1, .ref q2, .int 0])) qc (aI g 64 (q_fill zc 0 64))) co (ob 1 [.ref qc]) := fp_o.ne oc ne_11
  have ok : fp_o b n (va_up (va_up f fo (ob 4 [.ref q1, .ref q2, .int 0])) qc (aI g 64 (q_fill zc 0 64))) kq (ob 5 [.int k1, .int k2, .int k3, .int k4]) := fp_o.ne ok ne_12
  have oqc : fp_o b n (va_up (va_up f fo (ob 4 [.ref q1, .ref q2, .int 0])) qc (aI g 64 (q_fill zc 0 64))) qc (aI g 64 (q_fill zc 0 64)) := fp_o.up oqc
  refine W.eq (g2 := F0 m 14 ls []) rfl ?_
  refine lv_aload_n hx hb d_X_clear_14 rfl (lv_at hl 0 rfl) ?_
  refine lv_iconst (v := 0) hx hb d_X_clear_15 (by decide) ?_
  refine fp_put X Y oa rfl in_X to_X nm_X 3 (by decide) w194 rfl rfl rfl (Nat.le_of_ble_eq_true rfl) d_X_clear_16 (fun H locs Y => ?_)
  have ne_13 : fo ≠ a := (fp_o.nf of oa (by simp))
  have ne_14 : q1 ≠ a := (fp_o.nf o1 oa (by simp))
  have ne_15 : q2 ≠ a := (fp_o.nf o2 oa (by simp))
  have ne_16 : co ≠ a := (fp_o.nf oc oa (by simp))
  have ne_17 : qc ≠ a := (fp_o.nf oqc oa (by simp))
  have ne_18 : kq ≠ a := (fp_o.nf ok oa (by simp))
  have Y : fp_H D b n A (va_up (va_up (va_up f fo (ob 4 [.ref q1, .ref q2, .int 0])) qc (aI g 64 (q_fill zc 0 64))) a (ob 7 [.ref fo, .ref co, .ref qa, .int 0, .ref qt, .int tc, .ref kq, .int po, .int dr])) s.heap H locs := Y
  have of : fp_o b n (va_up (va_up (va_up f fo (ob 4 [.ref q1, .ref q2, .int 0])) qc (aI g 64 (q_fill zc 0 64))) a (ob 7 [.ref fo, .ref co, .ref qa, .int 0, .ref qt, .int tc, .ref kq, .int po, .int dr])) fo (ob 4 [.ref q1, .ref q2, .int 0]) := fp_o.ne of ne_13
  have o1 : fp_o b n (va_up (va_up (va_up f fo (ob 4 [.ref q1, .ref q2, .int 0])) qc (aI g 64 (q_fill zc 0 64))) a (ob 7 [.ref fo, .ref co, .ref qa, .int 0, .ref qt, .int tc, .ref kq, .int po, .int dr])) q1 (aI g 16 z1) := fp_o.ne o1 ne_14
  have o2 : fp_o b n (va_up (va_up (va_up f fo (ob 4 [.ref q1, .ref q2, .int 0])) qc (aI g 64 (q_fill zc 0 64))) a (ob 7 [.ref fo, .ref co, .ref qa, .int 0, .ref qt, .int tc, .ref kq, .int po, .int dr])) q2 (aI g 16 z2) := fp_o.ne o2 ne_15
  have oc : fp_o b n (va_up (va_up (va_up f fo (ob 4 [.ref q1, .ref q2, .int 0])) qc (aI g 64 (q_fill zc 0 64))) a (ob 7 [.ref fo, .ref co, .ref qa, .int 0, .ref qt, .int tc, .ref kq, .int po, .int dr])) co (ob 1 [.ref qc]) := fp_o.ne oc ne_16
  have oqc : fp_o b n (va_up (va_up (va_up f fo (ob 4 [.ref q1, .ref q2, .int 0])) qc (aI g 64 (q_fill zc 0 64))) a (ob 7 [.ref fo, .ref co, .ref qa, .int 0, .ref qt, .int tc, .ref kq, .int po, .int dr])) qc (aI g 64 (q_fill zc 0 64)) := fp_o.ne oqc ne_17
  have ok : fp_o b n (va_up (va_up (va_up f fo (ob 4 [.ref q1, .ref q2, .int 0])) qc (aI g 64 (q_fill zc 0 64))) a (ob 7 [.ref fo, .ref co, .ref qa, .int 0, .ref qt, .int tc, .ref kq, .int po, .int dr])) kq (ob 5 [.int k1, .int k2, .int k3, .int k4]) := fp_o.ne ok ne_18
  have oa : fp_o b n (va_up (va_up (va_up f fo (ob 4 [.ref q1, .ref q2, .int 0])) qc (aI g 64 (q_fill zc 0 64))) a (ob 7 [.ref fo, .ref co, .ref qa, .int 0, .ref qt, .int tc, .ref kq, .int po, .int dr])) a (ob 7 [.ref fo, .ref co, .ref qa, .int 0, .ref qt, .int tc, .ref kq, .int po, .int dr]) := fp_o.up oa
  refine lv_aload_n hx hb d_X_clear_19 rfl (lv_at hl 0 rfl) ?_
  refine lv_iconst (v := 0) hx hb d_X_clear_20 (by decide) ?_
  refine fp_put X Y oa rfl in_X to_X nm_X 5 (by decide) w196 rfl rfl rfl (Nat.le_of_ble_eq_true rfl) d_X_clear_21 (fun H locs Y => ?_)
  have ne_19 : fo ≠ a := (fp_o.nf of oa (by simp))
  have ne_20 : q1 ≠ a := (fp_o.nf o1 oa (by simp))
  have ne_21 : q2 ≠ a := (fp_o.nf o2 oa (by simp))
  have ne_22 : co ≠ a := (fp_o.nf oc oa (by simp))
  have ne_23 : qc ≠ a := (fp_o.nf oqc oa (by simp))
  have ne_24 : kq ≠ a := (fp_o.nf ok oa (by simp))
  have Y := Y.re
  have Y : fp_H D b n A (va_up (va_up (va_up f fo (ob 4 [.ref q1, .ref q2, .int 0])) qc (aI g 64 (q_fill zc 0 64))) a (ob 7 [.ref fo, .ref co, .ref qa, .int 0, .ref qt, .int 0, .ref kq, .int po, .int dr])) s.heap H locs := Y
  have of : fp_o b n (va_up (va_up (va_up f fo (ob 4 [.ref q1, .ref q2, .int 0])) qc (aI g 64 (q_fill zc 0 64))) a (ob 7 [.ref fo, .ref co, .ref qa, .int 0, .ref qt, .int 0, .ref kq, .int po, .int dr])) fo (ob 4 [.ref q1, .ref q2, .int 0]) := fp_o.re of ne_19
  have o1 : fp_o b n (va_up (va_up (va_up f fo (ob 4 [.ref q1, .ref q2, .int 0])) qc (aI g 64 (q_fill zc 0 64))) a (ob 7 [.ref fo, .ref co, .ref qa, .int 0, .ref qt, .int 0, .ref kq, .int po, .int dr])) q1 (aI g 16 z1) := fp_o.re o1 ne_20
  have o2 : fp_o b n (va_up (va_up (va_up f fo (ob 4 [.ref q1, .ref q2, .int 0])) qc (aI g 64 (q_fill zc 0 64))) a (ob 7 [.ref fo, .ref co, .ref qa, .int 0, .ref qt, .int 0, .ref kq, .int po, .int dr])) q2 (aI g 16 z2) := fp_o.re o2 ne_21
  have oc : fp_o b n (va_up (va_up (va_up f fo (ob 4 [.ref q1, .ref q2, .int 0])) qc (aI g 64 (q_fill zc 0 64))) a (ob 7 [.ref fo, .ref co, .ref qa, .int 0, .ref qt, .int 0, .ref kq, .int po, .int dr])) co (ob 1 [.ref qc]) := fp_o.re oc ne_22
  have oqc : fp_o b n (va_up (va_up (va_up f fo (ob 4 [.ref q1, .ref q2, .int 0])) qc (aI g 64 (q_fill zc 0 64))) a (ob 7 [.ref fo, .ref co, .ref qa, .int 0, .ref qt, .int 0, .ref kq, .int po, .int dr])) qc (aI g 64 (q_fill zc 0 64)) := fp_o.re oqc ne_23
  have ok : fp_o b n (va_up (va_up (va_up f fo (ob 4 [.ref q1, .ref q2, .int 0])) qc (aI g 64 (q_fill zc 0 64))) a (ob 7 [.ref fo, .ref co, .ref qa, .int 0, .ref qt, .int 0, .ref kq, .int po, .int dr])) kq (ob 5 [.int k1, .int k2, .int k3, .int k4]) := fp_o.re ok ne_24
  have oa : fp_o b n (va_up (va_up (va_up f fo (ob 4 [.ref q1, .ref q2, .int 0])) qc (aI g 64 (q_fill zc 0 64))) a (ob 7 [.ref fo, .ref co, .ref qa, .int 0, .ref qt, .int 0, .ref kq, .int po, .int dr])) a (ob 7 [.ref fo, .ref co, .ref qa, .int 0, .ref qt, .int 0, .ref kq, .int po, .int dr]) := fp_o.rs oa
  refine lv_aload_n hx hb d_X_clear_24 rfl (lv_at hl 0 rfl) ?_
  refine fp_get X Y oa rfl in_X 6 (by decide) w197 rfl d_X_clear_25 ?_
  refine lv_iconst (v := 0) hx hb d_X_clear_28 (by decide) ?_
  refine lv_iconst (v := 0) hx hb d_X_clear_29 (by decide) ?_
  refine lv_iconst (v := 0) hx hb d_X_clear_30 (by decide) ?_
  refine lv_iconst (v := 0) hx hb d_X_clear_31 (by decide) ?_
  refine fp_callV (nA := 4) (As := [.int 0, .int 0, .int 0, .int 0]) (rest := []) X Y (c_K_hold 0 0 0 0 ok) ok rfl w237 w234 w235 w236 w4 (by decide +kernel) ⟨rfl, rfl⟩ ⟨Nat.le_of_ble_eq_true rfl, Nat.le_of_ble_eq_true rfl⟩ rfl hl.1 rfl (Nat.le_of_ble_eq_true rfl) d_X_clear_32 ⟨Nat.zero_le _, Nat.zero_le _⟩ (fun v9 f9 H locs hp9 Y => ?_)
  obtain ⟨e8, e9⟩ := hp9
  subst e8
  rw [e9] at Y
  have ne_25 : a ≠ kq := (fp_o.nf oa ok (by simp))
  have ne_26 : fo ≠ kq := (fp_o.nf of ok (by simp))
  have ne_27 : q1 ≠ kq := (fp_o.nf o1 ok (by simp))
  have ne_28 : q2 ≠ kq := (fp_o.nf o2 ok (by simp))
  have ne_29 : co ≠ kq := (fp_o.nf oc ok (by simp))
  have ne_30 : qc ≠ kq := (fp_o.nf oqc ok (by simp))
  have Y : fp_H D b n A (va_up (va_up (va_up (va_up f fo (ob 4 [.ref q1, .ref q2, .int 0])) qc (aI g 64 (q_fill zc 0 64))) a (ob 7 [.ref fo, .ref co, .ref qa, .int 0, .ref qt, .int 0, .ref kq, .int po, .int dr])) kq (ob 5 [.int 0, .int 0, .int 0, .int 0])) s.heap H locs := Y
  have oa : fp_o b n (va_up (va_up (va_up (va_up f fo (ob 4 [.ref q1, .ref q2, .int 0])) qc (aI g 64 (q_fill zc 0 64))) a (ob 7 [.ref fo, .ref co, .ref qa, .int 0, .ref qt, .int 0, .ref kq, .int po, .int dr])) kq (ob 5 [.int 0, .int 0, .int 0, .int 0])) a (ob 7 [.ref fo, .ref co, .ref qa, .int 0, .ref qt, .int 0, .ref kq, .int po, .int dr]) := fp_o.ne oa ne_25
  have of : fp_o b n (va_up (va_up (va_up (va_up f fo (ob 4 [.ref q1, .ref q2, .int 0])) qc (aI g 64 (q_fill zc 0 64))) a (ob 7 [.ref fo, .ref co, .ref qa, .int 0, .ref qt, .int 0, .ref kq, .int po, .int dr])) kq (ob 5 [.int 0, .int 0, .int 0, .int 0])) fo (ob 4 [.ref q1, .ref q2, .int 0]) := fp_o.ne of ne_26
  have o1 : fp_o b n (va_up (va_up (va_up (va_up f fo (ob 4 [.ref q1, .ref q2, .int 0])) qc (aI g 64 (q_fill zc 0 64))) a (ob 7 [.ref fo, .ref co, .ref qa, .int 0, .ref qt, .int 0, .ref kq, .int po, .int dr])) kq (ob 5 [.int 0, .int 0, .int 0, .int 0])) q1 (aI g 16 z1) := fp_o.ne o1 ne_27
  have o2 : fp_o b n (va_up (va_up (va_up (va_up f fo (ob 4 [.ref q1, .ref q2, .int 0])) qc (aI g 64 (q_fill zc 0 64))) a (ob 7 [.ref fo, .ref co, .ref qa, .int 0, .ref qt, .int 0, .ref kq, .int po, .int dr])) kq (ob 5 [.int 0, .int 0, .int 0, .int 0])) q2 (aI g 16 z2) := fp_o.ne o2 ne_28
  have oc : fp_o b n (va_up (va_up (va_up (va_up f fo (ob 4 [.ref q1, .ref q2, .int 0])) qc (aI g 64 (q_fill zc 0 64))) a (ob 7 [.ref fo, .ref co, .ref qa, .int 0, .ref qt, .int 0, .ref kq, .int po, .int dr])) kq (ob 5 [.int 0, .int 0, .int 0, .int 0])) co (ob 1 [.ref qc]) := fp_o.ne oc ne_29
  have oqc : fp_o b n (va_up (va_up (va_up (va_up f fo (ob 4 [.ref q1, .ref q2, .int 0])) qc (aI g 64 (q_fill zc 0 64))) a (ob 7 [.ref fo, .ref co, .ref qa, .int 0, .ref qt, .int 0, .ref kq, .int po, .int dr])) kq (ob 5 [.int 0, .int 0, .int 0, .int 0])) qc (aI g 64 (q_fill zc 0 64)) := fp_o.ne oqc ne_30
  have ok : fp_o b n (va_up (va_up (va_up (va_up f fo (ob 4 [.ref q1, .ref q2, .int 0])) qc (aI g 64 (q_fill zc 0 64))) a (ob 7 [.ref fo, .ref co, .ref qa, .int 0, .ref qt, .int 0, .ref kq, .int po, .int dr])) kq (ob 5 [.int 0, .int 0, .int 0, .int 0])) kq (ob 5 [.int 0, .int 0, .int 0, .int 0]) := fp_o.up ok
  refine W.eq (g2 := F0 m 35 ls []) rfl ?_
  refine lv_aload_n hx hb d_X_clear_35 rfl (lv_at hl 0 rfl) ?_
  refine lv_iconst (v := 0) hx hb d_X_clear_36 (by decide) ?_
  refine fp_put X Y oa rfl in_X to_X nm_X 7 (by decide) w198 rfl rfl rfl (Nat.le_of_ble_eq_true rfl) d_X_clear_37 (fun H locs Y => ?_)
  have ne_31 : fo ≠ a := (fp_o.nf of oa (by simp))
  have ne_32 : q1 ≠ a := (fp_o.nf o1 oa (by simp))
  have ne_33 : q2 ≠ a := (fp_o.nf o2 oa (by simp))
  have ne_34 : co ≠ a := (fp_o.nf oc oa (by simp))
  have ne_35 : qc ≠ a := (fp_o.nf oqc oa (by simp))
  have ne_36 : kq ≠ a := (fp_o.nf ok oa (by simp))
  have Y : fp_H D b n A (va_up (va_up (va_up (va_up (va_up f fo (ob 4 [.ref q1, .ref q2, .int 0])) qc (aI g 64 (q_fill zc 0 64))) a (ob 7 [.ref fo, .ref co, .ref qa, .int 0, .ref qt, .int 0, .ref kq, .int po, .int dr])) kq (ob 5 [.int 0, .int 0, .int 0, .int 0])) a (ob 7 [.ref fo, .ref co, .ref qa, .int 0, .ref qt, .int 0, .ref kq, .int 0, .int dr])) s.heap H locs := Y
  have of : fp_o b n (va_up (va_up (va_up (va_up (va_up f fo (ob 4 [.ref q1, .ref q2, .int 0])) qc (aI g 64 (q_fill zc 0 64))) a (ob 7 [.ref fo, .ref co, .ref qa, .int 0, .ref qt, .int 0, .ref kq, .int po, .int dr])) kq (ob 5 [.int 0, .int 0, .int 0, .int 0])) a (ob 7 [.ref fo, .ref co, .ref qa, .int 0, .ref qt, .int 0, .ref kq, .int 0, .int dr])) fo (ob 4 [.ref q1, .ref q2, .int 0]) := fp_o.ne of ne_31
  have o1 : fp_o b n (va_up (va_up (va_up (va_up (va_up f fo (ob 4 [.ref q1, .ref q2, .int 0])) qc (aI g 64 (q_fill zc 0 64))) a (ob 7 [.ref fo, .ref co, .ref qa, .int 0, .ref qt, .int 0, .ref kq, .int po, .int dr])) kq (ob 5 [.int 0, .int 0, .int 0, .int 0])) a (ob 7 [.ref fo, .ref co, .ref qa, .int 0, .ref qt, .int 0, .ref kq, .int 0, .int dr])) q1 (aI g 16 z1) := fp_o.ne o1 ne_32
  have o2 : fp_o b n (va_up (va_up (va_up (va_up (va_up f fo (ob 4 [.ref q1, .ref q2, .int 0])) qc (aI g 64 (q_fill zc 0 64))) a (ob 7 [.ref fo, .ref co, .ref qa, .int 0, .ref qt, .int 0, .ref kq, .int po, .int dr])) kq (ob 5 [.int 0, .int 0, .int 0, .int 0])) a (ob 7 [.ref fo, .ref co, .ref qa, .int 0, .ref qt, .int 0, .ref kq, .int 0, .int dr])) q2 (aI g 16 z2) := fp_o.ne o2 ne_33
  have oc : fp_o b n (va_up (va_up (va_up (va_up (va_up f fo (ob 4 [.ref q1, .ref q2, .int 0])) qc (aI g 64 (q_fill zc 0 64))) a (ob 7 [.ref fo, .ref co, .ref qa, .int 0, .ref qt, .int 0, .ref kq, .int po, .int dr])) kq (ob 5 [.int 0, .int 0, .int 0, .int 0])) a (ob 7 [.ref fo, .ref co, .ref qa, .int 0, .ref qt, .int 0, .ref kq, .int 0, .int dr])) co (ob 1 [.ref qc]) := fp_o.ne oc ne_34
  have oqc : fp_o b n (va_up (va_up (va_up (va_up (va_up f fo (ob 4 [.ref q1, .ref q2, .int 0])) qc (aI g 64 (q_fill zc 0 64))) a (ob 7 [.ref fo, .ref co, .ref qa, .int 0, .ref qt, .int 0, .ref kq, .int po, .int dr])) kq (ob 5 [.int 0, .int 0, .int 0, .int 0])) a (ob 7 [.ref fo, .ref co, .ref qa, .int 0, .ref qt, .int 0, .ref kq, .int 0, .int dr])) qc (aI g 64 (q_fill zc 0 64)) := fp_o.ne oqc ne_35
  have ok : fp_o b n (va_up (va_up (va_up (va_up (va_up f fo (ob 4 [.ref q1, .ref q2, .int 0])) qc (aI g 64 (q_fill zc 0 64))) a (ob 7 [.ref fo, .ref co, .ref qa, .int 0, .ref qt, .int 0, .ref kq, .int po, .int dr])) kq (ob 5 [.int 0, .int 0, .int 0, .int 0])) a (ob 7 [.ref fo, .ref co, .ref qa, .int 0, .ref qt, .int 0, .ref kq, .int 0, .int dr])) kq (ob 5 [.int 0, .int 0, .int 0, .int 0]) := fp_o.ne ok ne_36
  have oa : fp_o b n (va_up (va_up (va_up (va_up (va_up f fo (ob 4 [.ref q1, .ref q2, .int 0])) qc (aI g 64 (q_fill zc 0 64))) a (ob 7 [.ref fo, .ref co, .ref qa, .int 0, .ref qt, .int 0, .ref kq, .int po, .int dr])) kq (ob 5 [.int 0, .int 0, .int 0, .int 0])) a (ob 7 [.ref fo, .ref co, .ref qa, .int 0, .ref qt, .int 0, .ref kq, .int 0, .int dr])) a (ob 7 [.ref fo, .ref co, .ref qa, .int 0, .ref qt, .int 0, .ref kq, .int 0, .int dr]) := fp_o.up oa
  refine lv_aload_n hx hb d_X_clear_40 rfl (lv_at hl 0 rfl) ?_
  refine lv_iconst (v := 0) hx hb d_X_clear_41 (by decide) ?_
  refine fp_put X Y oa rfl in_X to_X nm_X 8 (by decide) w199 rfl rfl rfl (Nat.le_of_ble_eq_true rfl) d_X_clear_42 (fun H locs Y => ?_)
  have ne_37 : fo ≠ a := (fp_o.nf of oa (by simp))
  have ne_38 : q1 ≠ a := (fp_o.nf o1 oa (by simp))
  have ne_39 : q2 ≠ a := (fp_o.nf o2 oa (by simp))
  have ne_40 : co ≠ a := (fp_o.nf oc oa (by simp))
  have ne_41 : qc ≠ a := (fp_o.nf oqc oa (by simp))
  have ne_42 : kq ≠ a := (fp_o.nf ok oa (by simp))
  have Y := Y.re
  have Y : fp_H D b n A (va_up (va_up (va_up (va_up (va_up f fo (ob 4 [.ref q1, .ref q2, .int 0])) qc (aI g 64 (q_fill zc 0 64))) a (ob 7 [.ref fo, .ref co, .ref qa, .int 0, .ref qt, .int 0, .ref kq, .int po, .int dr])) kq (ob 5 [.int 0, .int 0, .int 0, .int 0])) a (ob 7 [.ref fo, .ref co, .ref qa, .int 0, .ref qt, .int 0, .ref kq, .int 0, .int 0])) s.heap H locs := Y
  have of : fp_o b n (va_up (va_up (va_up (va_up (va_up f fo (ob 4 [.ref q1, .ref q2, .int 0])) qc (aI g 64 (q_fill zc 0 64))) a (ob 7 [.ref fo, .ref co, .ref qa, .int 0, .ref qt, .int 0, .ref kq, .int po, .int dr])) kq (ob 5 [.int 0, .int 0, .int 0, .int 0])) a (ob 7 [.ref fo, .ref co, .ref qa, .int 0, .ref qt, .int 0, .ref kq, .int 0, .int 0])) fo (ob 4 [.ref q1, .ref q2, .int 0]) := fp_o.re of ne_37
  have o1 : fp_o b n (va_up (va_up (va_up (va_up (va_up f fo (ob 4 [.ref q1, .ref q2, .int 0])) qc (aI g 64 (q_fill zc 0 64))) a (ob 7 [.ref fo, .ref co, .ref qa, .int 0, .ref qt, .int 0, .ref kq, .int po, .int dr])) kq (ob 5 [.int 0, .int 0, .int 0, .int 0])) a (ob 7 [.ref fo, .ref co, .ref qa, .int 0, .ref qt, .int 0, .ref kq, .int 0, .int 0])) q1 (aI g 16 z1) := fp_o.re o1 ne_38
  have o2 : fp_o b n (va_up (va_up (va_up (va_up (va_up f fo (ob 4 [.ref q1, .ref q2, .int 0])) qc (aI g 64 (q_fill zc 0 64))) a (ob 7 [.ref fo, .ref co, .ref qa, .int 0, .ref qt, .int 0, .ref kq, .int po, .int dr])) kq (ob 5 [.int 0, .int 0, .int 0, .int 0])) a (ob 7 [.ref fo, .ref co, .ref qa, .int 0, .ref qt, .int 0, .ref kq, .int 0, .int 0])) q2 (aI g 16 z2) := fp_o.re o2 ne_39
  have oc : fp_o b n (va_up (va_up (va_up (va_up (va_up f fo (ob 4 [.ref q1, .ref q2, .int 0])) qc (aI g 64 (q_fill zc 0 64))) a (ob 7 [.ref fo, .ref co, .ref qa, .int 0, .ref qt, .int 0, .ref kq, .int po, .int dr])) kq (ob 5 [.int 0, .int 0, .int 0, .int 0])) a (ob 7 [.ref fo, .ref co, .ref qa, .int 0, .ref qt, .int 0, .ref kq, .int 0, .int 0])) co (ob 1 [.ref qc]) := fp_o.re oc ne_40
  have oqc : fp_o b n (va_up (va_up (va_up (va_up (va_up f fo (ob 4 [.ref q1, .ref q2, .int 0])) qc (aI g 64 (q_fill zc 0 64))) a (ob 7 [.ref fo, .ref co, .ref qa, .int 0, .ref qt, .int 0, .ref kq, .int po, .int dr])) kq (ob 5 [.int 0, .int 0, .int 0, .int 0])) a (ob 7 [.ref fo, .ref co, .ref qa, .int 0, .ref qt, .int 0, .ref kq, .int 0, .int 0])) qc (aI g 64 (q_fill zc 0 64)) := fp_o.re oqc ne_41
  have ok : fp_o b n (va_up (va_up (va_up (va_up (va_up f fo (ob 4 [.ref q1, .ref q2, .int 0])) qc (aI g 64 (q_fill zc 0 64))) a (ob 7 [.ref fo, .ref co, .ref qa, .int 0, .ref qt, .int 0, .ref kq, .int po, .int dr])) kq (ob 5 [.int 0, .int 0, .int 0, .int 0])) a (ob 7 [.ref fo, .ref co, .ref qa, .int 0, .ref qt, .int 0, .ref kq, .int 0, .int 0])) kq (ob 5 [.int 0, .int 0, .int 0, .int 0]) := fp_o.re ok ne_42
  have oa : fp_o b n (va_up (va_up (va_up (va_up (va_up f fo (ob 4 [.ref q1, .ref q2, .int 0])) qc (aI g 64 (q_fill zc 0 64))) a (ob 7 [.ref fo, .ref co, .ref qa, .int 0, .ref qt, .int 0, .ref kq, .int po, .int dr])) kq (ob 5 [.int 0, .int 0, .int 0, .int 0])) a (ob 7 [.ref fo, .ref co, .ref qa, .int 0, .ref qt, .int 0, .ref kq, .int 0, .int 0])) a (ob 7 [.ref fo, .ref co, .ref qa, .int 0, .ref qt, .int 0, .ref kq, .int 0, .int 0]) := fp_o.rs oa
  exact ret _ _ _ _ _ d_X_clear_45 ⟨rfl, rfl⟩ Y
set_option maxHeartbeats 4000000 in
set_option maxRecDepth 100000 in
theorem c_X_areOperands {l : Launch} {D : va_G} {g : Nat → ClassId} {b n : Nat} {A : Nat → Prop} {f : Nat → va_E} {a fo co qa qt kq : Nat} {ac tc po dr : Int32} {q1 q2 kf : Nat} {z1 z2 : Nat → Int32} {kj : Nat} (x y z : Int32) (hkj : kj < 9) (oa : fp_o b n f a (ob 7 [.ref fo, .ref co, .ref qa, .int ac, .ref qt, .int tc, .ref kq, .int po, .int dr])) (of : fp_o b n f fo (ob 4 [.ref q1, .ref q2, .int (nI kf)])) (o1 : fp_o b n f q1 (aI g 16 z1)) (o2 : fp_o b n f q2 (aI g 16 z2))  : fp_M l D (TY g) b n A y_X_areOperands (fp_ws y_X_areOperands b_X_areOperands 5 (some FieldType.boolean)) (rmD 1) [.ref a, .int (nI kj), .int x, .int y, .int z] f (fun v f' => v = some (.int (q_ops kj x y z (nI kf))) ∧ f' = f) := by
  refine fp_ofI (plainFor_of_name (by decide)) (Nat.le_of_ble_eq_true rfl) ?_
  intro p e s m args below meth c Q ls H locs X Y hl ret
  have hx := X.1.1
  have hb := X.1.2.1
  have hl : lv_has ls 5 [(0, .ref a), (1, .int (nI kj)), (2, .int x), (3, .int y), (4, .int z)] := hl
  refine lv_iload_n hx hb d_X_areOperands_0 rfl (lv_at hl 1 rfl) ?_
  rcases (show kj = 0 ∨ kj = 1 ∨ kj = 2 ∨ kj = 3 ∨ kj = 4 ∨ kj = 5 ∨ kj = 6 ∨ kj = 7 ∨ kj = 8 by omega) with h9 | h9 | h9 | h9 | h9 | h9 | h9 | h9 | h9
  · subst h9
    refine lv_tableIn (tgt := 52) (off := 51) hx hb d_X_areOperands_1 (by decide) (by decide) (by decide) (by decide) ?_
    refine lv_aload_n hx hb d_X_areOperands_52 rfl (lv_at hl 0 rfl) ?_
    refine fp_get X Y oa rfl in_X 0 (by decide) w191 rfl d_X_areOperands_53 ?_
    refine lv_iload_n hx hb d_X_areOperands_56 rfl (lv_at hl 2 rfl) ?_
    refine fp_callV (nA := 1) (As := [.int x]) (rest := []) X Y (c_F_isThere x of) of rfl w249 w421 w247 w248 w2 (by decide +kernel) ⟨rfl, rfl⟩ ⟨Nat.le_of_ble_eq_true rfl, Nat.le_of_ble_eq_true rfl⟩ rfl hl.1 rfl (Nat.le_of_ble_eq_true rfl) d_X_areOperands_57 ⟨Nat.zero_le _, Nat.zero_le _⟩ (fun v9 f9 H locs hp9 Y => ?_)
    obtain ⟨e8, e9⟩ := hp9
    subst e8
    rw [e9] at Y
    refine W.eq (g2 := F0 m 60 ls [.int (q_in x (nI kf))]) rfl ?_
    exact ret _ _ _ _ _ _ d_X_areOperands_60 ⟨_, rfl, (nar_in _ _)⟩ ⟨by simp [q_ops], rfl⟩ Y
  · subst h9
    refine lv_tableIn (tgt := 61) (off := 60) hx hb d_X_areOperands_1 (by decide) (by decide) (by decide) (by decide) ?_
    refine lv_aload_n hx hb d_X_areOperands_61 rfl (lv_at hl 0 rfl) ?_
    refine fp_get X Y oa rfl in_X 0 (by decide) w191 rfl d_X_areOperands_62 ?_
    refine lv_iload_n hx hb d_X_areOperands_65 rfl (lv_at hl 2 rfl) ?_
    refine fp_callV (nA := 1) (As := [.int x]) (rest := []) X Y (c_F_isThere x of) of rfl w249 w421 w247 w248 w2 (by decide +kernel) ⟨rfl, rfl⟩ ⟨Nat.le_of_ble_eq_true rfl, Nat.le_of_ble_eq_true rfl⟩ rfl hl.1 rfl (Nat.le_of_ble_eq_true rfl) d_X_areOperands_66 ⟨Nat.zero_le _, Nat.zero_le _⟩ (fun v9 f9 H locs hp9 Y => ?_)
    obtain ⟨e8, e9⟩ := hp9
    subst e8
    rw [e9] at Y
    refine W.eq (g2 := F0 m 69 ls [.int (q_in x (nI kf))]) rfl ?_
    refine lv_if_eq (tgt := 87) hx hb d_X_areOperands_69 (by decide) (fun c_69 => ?_) (fun c_69 => ?_)
    · refine lv_iconst (v := 0) hx hb d_X_areOperands_87 (by decide) ?_
      exact ret _ _ _ _ _ _ d_X_areOperands_88 ⟨_, rfl, rfl⟩ ⟨by simp [q_ops, c_69], rfl⟩ Y
    · refine lv_aload_n hx hb d_X_areOperands_72 rfl (lv_at hl 0 rfl) ?_
      refine fp_get X Y oa rfl in_X 0 (by decide) w191 rfl d_X_areOperands_73 ?_
      refine lv_iload_n hx hb d_X_areOperands_76 rfl (lv_at hl 3 rfl) ?_
      refine fp_callV (nA := 1) (As := [.int y]) (rest := []) X Y (c_F_isThere y of) of rfl w249 w421 w247 w248 w2 (by decide +kernel) ⟨rfl, rfl⟩ ⟨Nat.le_of_ble_eq_true rfl, Nat.le_of_ble_eq_true rfl⟩ rfl hl.1 rfl (Nat.le_of_ble_eq_true rfl) d_X_areOperands_77 ⟨Nat.zero_le _, Nat.zero_le _⟩ (fun v9 f9 H locs hp9 Y => ?_)
      obtain ⟨e8, e9⟩ := hp9
      subst e8
      rw [e9] at Y
      refine W.eq (g2 := F0 m 80 ls [.int (q_in y (nI kf))]) rfl ?_
      refine lv_if_eq (tgt := 87) hx hb d_X_areOperands_80 (by decide) (fun c_80 => ?_) (fun c_80 => ?_)
      · refine lv_iconst (v := 0) hx hb d_X_areOperands_87 (by decide) ?_
        exact ret _ _ _ _ _ _ d_X_areOperands_88 ⟨_, rfl, rfl⟩ ⟨by simp [q_ops, c_69, c_80], rfl⟩ Y
      · refine lv_iconst (v := 1) hx hb d_X_areOperands_83 (by decide) ?_
        refine lv_goto (tgt := 88) hx hb d_X_areOperands_84 (by decide) ?_
        exact ret _ _ _ _ _ _ d_X_areOperands_88 ⟨_, rfl, rfl⟩ ⟨by simp [q_ops, c_69, c_80], rfl⟩ Y
  · subst h9
    refine lv_tableIn (tgt := 61) (off := 60) hx hb d_X_areOperands_1 (by decide) (by decide) (by decide) (by decide) ?_
    refine lv_aload_n hx hb d_X_areOperands_61 rfl (lv_at hl 0 rfl) ?_
    refine fp_get X Y oa rfl in_X 0 (by decide) w191 rfl d_X_areOperands_62 ?_
    refine lv_iload_n hx hb d_X_areOperands_65 rfl (lv_at hl 2 rfl) ?_
    refine fp_callV (nA := 1) (As := [.int x]) (rest := []) X Y (c_F_isThere x of) of rfl w249 w421 w247 w248 w2 (by decide +kernel) ⟨rfl, rfl⟩ ⟨Nat.le_of_ble_eq_true rfl, Nat.le_of_ble_eq_true rfl⟩ rfl hl.1 rfl (Nat.le_of_ble_eq_true rfl) d_X_areOperands_66 ⟨Nat.zero_le _, Nat.zero_le _⟩ (fun v9 f9 H locs hp9 Y => ?_)
    obtain ⟨e8, e9⟩ := hp9
    subst e8
    rw [e9] at Y
    refine W.eq (g2 := F0 m 69 ls [.int (q_in x (nI kf))]) rfl ?_
    refine lv_if_eq (tgt := 87) hx hb d_X_areOperands_69 (by decide) (fun c_69 => ?_) (fun c_69 => ?_)
    · refine lv_iconst (v := 0) hx hb d_X_areOperands_87 (by decide) ?_
      exact ret _ _ _ _ _ _ d_X_areOperands_88 ⟨_, rfl, rfl⟩ ⟨by simp [q_ops, c_69], rfl⟩ Y
    · refine lv_aload_n hx hb d_X_areOperands_72 rfl (lv_at hl 0 rfl) ?_
      refine fp_get X Y oa rfl in_X 0 (by decide) w191 rfl d_X_areOperands_73 ?_
      refine lv_iload_n hx hb d_X_areOperands_76 rfl (lv_at hl 3 rfl) ?_
      refine fp_callV (nA := 1) (As := [.int y]) (rest := []) X Y (c_F_isThere y of) of rfl w249 w421 w247 w248 w2 (by decide +kernel) ⟨rfl, rfl⟩ ⟨Nat.le_of_ble_eq_true rfl, Nat.le_of_ble_eq_true rfl⟩ rfl hl.1 rfl (Nat.le_of_ble_eq_true rfl) d_X_areOperands_77 ⟨Nat.zero_le _, Nat.zero_le _⟩ (fun v9 f9 H locs hp9 Y => ?_)
      obtain ⟨e8, e9⟩ := hp9
      subst e8
      rw [e9] at Y
      refine W.eq (g2 := F0 m 80 ls [.int (q_in y (nI kf))]) rfl ?_
      refine lv_if_eq (tgt := 87) hx hb d_X_areOperands_80 (by decide) (fun c_80 => ?_) (fun c_80 => ?_)
      · refine lv_iconst (v := 0) hx hb d_X_areOperands_87 (by decide) ?_
        exact ret _ _ _ _ _ _ d_X_areOperands_88 ⟨_, rfl, rfl⟩ ⟨by simp [q_ops, c_69, c_80], rfl⟩ Y
      · refine lv_iconst (v := 1) hx hb d_X_areOperands_83 (by decide) ?_
        refine lv_goto (tgt := 88) hx hb d_X_areOperands_84 (by decide) ?_
        exact ret _ _ _ _ _ _ d_X_areOperands_88 ⟨_, rfl, rfl⟩ ⟨by simp [q_ops, c_69, c_80], rfl⟩ Y
  · subst h9
    refine lv_tableIn (tgt := 89) (off := 88) hx hb d_X_areOperands_1 (by decide) (by decide) (by decide) (by decide) ?_
    refine lv_aload_n hx hb d_X_areOperands_89 rfl (lv_at hl 0 rfl) ?_
    refine fp_get X Y oa rfl in_X 0 (by decide) w191 rfl d_X_areOperands_90 ?_
    refine lv_iload_n hx hb d_X_areOperands_93 rfl (lv_at hl 2 rfl) ?_
    refine fp_callV (nA := 1) (As := [.int x]) (rest := []) X Y (c_F_isThere x of) of rfl w249 w421 w247 w248 w2 (by decide +kernel) ⟨rfl, rfl⟩ ⟨Nat.le_of_ble_eq_true rfl, Nat.le_of_ble_eq_true rfl⟩ rfl hl.1 rfl (Nat.le_of_ble_eq_true rfl) d_X_areOperands_94 ⟨Nat.zero_le _, Nat.zero_le _⟩ (fun v9 f9 H locs hp9 Y => ?_)
    obtain ⟨e8, e9⟩ := hp9
    subst e8
    rw [e9] at Y
    refine W.eq (g2 := F0 m 97 ls [.int (q_in x (nI kf))]) rfl ?_
    refine lv_if_eq (tgt := 111) hx hb d_X_areOperands_97 (by decide) (fun c_97 => ?_) (fun c_97 => ?_)
    · refine lv_iconst (v := 0) hx hb d_X_areOperands_111 (by decide) ?_
      exact ret _ _ _ _ _ _ d_X_areOperands_112 ⟨_, rfl, rfl⟩ ⟨by simp [q_ops, c_97], rfl⟩ Y
    · refine lv_iload_n hx hb d_X_areOperands_100 rfl (lv_at hl 3 rfl) ?_
      refine fp_callS (nA := 1) (As := [.int y]) (rest := []) X Y (c_X_isDatum y) w472 w470 w471 w1 (by decide +kernel) ⟨rfl, rfl⟩ ⟨Nat.le_of_ble_eq_true rfl, Nat.le_of_ble_eq_true rfl⟩ rfl hl.1 rfl (Nat.le_of_ble_eq_true rfl) d_X_areOperands_101 ⟨Nat.zero_le _, Nat.zero_le _⟩ (fun v9 f9 H locs hp9 Y => ?_)
      obtain ⟨e8, e9⟩ := hp9
      subst e8
      rw [e9] at Y
      refine W.eq (g2 := F0 m 104 ls [.int (q_in y 2)]) rfl ?_
      refine lv_if_eq (tgt := 111) hx hb d_X_areOperands_104 (by decide) (fun c_104 => ?_) (fun c_104 => ?_)
      · refine lv_iconst (v := 0) hx hb d_X_areOperands_111 (by decide) ?_
        exact ret _ _ _ _ _ _ d_X_areOperands_112 ⟨_, rfl, rfl⟩ ⟨by simp [q_ops, c_97, c_104], rfl⟩ Y
      · refine lv_iconst (v := 1) hx hb d_X_areOperands_107 (by decide) ?_
        refine lv_goto (tgt := 112) hx hb d_X_areOperands_108 (by decide) ?_
        exact ret _ _ _ _ _ _ d_X_areOperands_112 ⟨_, rfl, rfl⟩ ⟨by simp [q_ops, c_97, c_104], rfl⟩ Y
  · subst h9
    refine lv_tableIn (tgt := 178) (off := 177) hx hb d_X_areOperands_1 (by decide) (by decide) (by decide) (by decide) ?_
    refine lv_iconst (v := 1) hx hb d_X_areOperands_178 (by decide) ?_
    exact ret _ _ _ _ _ _ d_X_areOperands_179 ⟨_, rfl, rfl⟩ ⟨by simp [q_ops], rfl⟩ Y
  · subst h9
    refine lv_tableIn (tgt := 113) (off := 112) hx hb d_X_areOperands_1 (by decide) (by decide) (by decide) (by decide) ?_
    refine lv_iload_n hx hb d_X_areOperands_113 rfl (lv_at hl 3 rfl) ?_
    refine fp_callS (nA := 1) (As := [.int y]) (rest := []) X Y (c_X_isDatum y) w472 w470 w471 w1 (by decide +kernel) ⟨rfl, rfl⟩ ⟨Nat.le_of_ble_eq_true rfl, Nat.le_of_ble_eq_true rfl⟩ rfl hl.1 rfl (Nat.le_of_ble_eq_true rfl) d_X_areOperands_114 ⟨Nat.zero_le _, Nat.zero_le _⟩ (fun v9 f9 H locs hp9 Y => ?_)
    obtain ⟨e8, e9⟩ := hp9
    subst e8
    rw [e9] at Y
    refine W.eq (g2 := F0 m 117 ls [.int (q_in y 2)]) rfl ?_
    exact ret _ _ _ _ _ _ d_X_areOperands_117 ⟨_, rfl, (nar_in _ _)⟩ ⟨by simp [q_ops], rfl⟩ Y
  · subst h9
    refine lv_tableIn (tgt := 178) (off := 177) hx hb d_X_areOperands_1 (by decide) (by decide) (by decide) (by decide) ?_
    refine lv_iconst (v := 1) hx hb d_X_areOperands_178 (by decide) ?_
    exact ret _ _ _ _ _ _ d_X_areOperands_179 ⟨_, rfl, rfl⟩ ⟨by simp [q_ops], rfl⟩ Y
  · subst h9
    refine lv_tableIn (tgt := 118) (off := 117) hx hb d_X_areOperands_1 (by decide) (by decide) (by decide) (by decide) ?_
    refine lv_iload_n hx hb d_X_areOperands_118 rfl (lv_at hl 2 rfl) ?_
    refine fp_callS (nA := 1) (As := [.int x]) (rest := []) X Y (c_X_isArray x) w306 w473 w305 w1 (by decide +kernel) ⟨rfl, rfl⟩ ⟨Nat.le_of_ble_eq_true rfl, Nat.le_of_ble_eq_true rfl⟩ rfl hl.1 rfl (Nat.le_of_ble_eq_true rfl) d_X_areOperands_119 ⟨Nat.zero_le _, Nat.zero_le _⟩ (fun v9 f9 H locs hp9 Y => ?_)
    obtain ⟨e8, e9⟩ := hp9
    subst e8
    rw [e9] at Y
    refine W.eq (g2 := F0 m 122 ls [.int (q_in x 4)]) rfl ?_
    refine lv_if_eq (tgt := 140) hx hb d_X_areOperands_122 (by decide) (fun c_122 => ?_) (fun c_122 => ?_)
    · refine lv_iconst (v := 0) hx hb d_X_areOperands_140 (by decide) ?_
      exact ret _ _ _ _ _ _ d_X_areOperands_141 ⟨_, rfl, rfl⟩ ⟨by simp [q_ops, c_122], rfl⟩ Y
    · refine lv_aload_n hx hb d_X_areOperands_125 rfl (lv_at hl 0 rfl) ?_
      refine fp_get X Y oa rfl in_X 0 (by decide) w191 rfl d_X_areOperands_126 ?_
      refine lv_iload_n hx hb d_X_areOperands_129 rfl (lv_at hl 3 rfl) ?_
      refine fp_callV (nA := 1) (As := [.int y]) (rest := []) X Y (c_F_isThere y of) of rfl w249 w421 w247 w248 w2 (by decide +kernel) ⟨rfl, rfl⟩ ⟨Nat.le_of_ble_eq_true rfl, Nat.le_of_ble_eq_true rfl⟩ rfl hl.1 rfl (Nat.le_of_ble_eq_true rfl) d_X_areOperands_130 ⟨Nat.zero_le _, Nat.zero_le _⟩ (fun v9 f9 H locs hp9 Y => ?_)
      obtain ⟨e8, e9⟩ := hp9
      subst e8
      rw [e9] at Y
      refine W.eq (g2 := F0 m 133 ls [.int (q_in y (nI kf))]) rfl ?_
      refine lv_if_eq (tgt := 140) hx hb d_X_areOperands_133 (by decide) (fun c_133 => ?_) (fun c_133 => ?_)
      · refine lv_iconst (v := 0) hx hb d_X_areOperands_140 (by decide) ?_
        exact ret _ _ _ _ _ _ d_X_areOperands_141 ⟨_, rfl, rfl⟩ ⟨by simp [q_ops, c_122, c_133], rfl⟩ Y
      · refine lv_iconst (v := 1) hx hb d_X_areOperands_136 (by decide) ?_
        refine lv_goto (tgt := 141) hx hb d_X_areOperands_137 (by decide) ?_
        exact ret _ _ _ _ _ _ d_X_areOperands_141 ⟨_, rfl, rfl⟩ ⟨by simp [q_ops, c_122, c_133], rfl⟩ Y
  · subst h9
    refine lv_tableIn (tgt := 142) (off := 141) hx hb d_X_areOperands_1 (by decide) (by decide) (by decide) (by decide) ?_
    refine lv_aload_n hx hb d_X_areOperands_142 rfl (lv_at hl 0 rfl) ?_
    refine fp_get X Y oa rfl in_X 0 (by decide) w191 rfl d_X_areOperands_143 ?_
    refine lv_iload_n hx hb d_X_areOperands_146 rfl (lv_at hl 2 rfl) ?_
    refine fp_callV (nA := 1) (As := [.int x]) (rest := []) X Y (c_F_isThere x of) of rfl w249 w421 w247 w248 w2 (by decide +kernel) ⟨rfl, rfl⟩ ⟨Nat.le_of_ble_eq_true rfl, Nat.le_of_ble_eq_true rfl⟩ rfl hl.1 rfl (Nat.le_of_ble_eq_true rfl) d_X_areOperands_147 ⟨Nat.zero_le _, Nat.zero_le _⟩ (fun v9 f9 H locs hp9 Y => ?_)
    obtain ⟨e8, e9⟩ := hp9
    subst e8
    rw [e9] at Y
    refine W.eq (g2 := F0 m 150 ls [.int (q_in x (nI kf))]) rfl ?_
    refine lv_if_eq (tgt := 176) hx hb d_X_areOperands_150 (by decide) (fun c_150 => ?_) (fun c_150 => ?_)
    · refine lv_iconst (v := 0) hx hb d_X_areOperands_176 (by decide) ?_
      exact ret _ _ _ _ _ _ d_X_areOperands_177 ⟨_, rfl, rfl⟩ ⟨by simp [q_ops, c_150], rfl⟩ Y
    · refine lv_aload_n hx hb d_X_areOperands_153 rfl (lv_at hl 0 rfl) ?_
      refine fp_get X Y oa rfl in_X 0 (by decide) w191 rfl d_X_areOperands_154 ?_
      refine lv_iload_n hx hb d_X_areOperands_157 rfl (lv_at hl 3 rfl) ?_
      refine fp_callV (nA := 1) (As := [.int y]) (rest := []) X Y (c_F_isThere y of) of rfl w249 w421 w247 w248 w2 (by decide +kernel) ⟨rfl, rfl⟩ ⟨Nat.le_of_ble_eq_true rfl, Nat.le_of_ble_eq_true rfl⟩ rfl hl.1 rfl (Nat.le_of_ble_eq_true rfl) d_X_areOperands_158 ⟨Nat.zero_le _, Nat.zero_le _⟩ (fun v9 f9 H locs hp9 Y => ?_)
      obtain ⟨e8, e9⟩ := hp9
      subst e8
      rw [e9] at Y
      refine W.eq (g2 := F0 m 161 ls [.int (q_in y (nI kf))]) rfl ?_
      refine lv_if_eq (tgt := 176) hx hb d_X_areOperands_161 (by decide) (fun c_161 => ?_) (fun c_161 => ?_)
      · refine lv_iconst (v := 0) hx hb d_X_areOperands_176 (by decide) ?_
        exact ret _ _ _ _ _ _ d_X_areOperands_177 ⟨_, rfl, rfl⟩ ⟨by simp [q_ops, c_150, c_161], rfl⟩ Y
      · refine lv_iload hx hb d_X_areOperands_164 (lv_at hl 4 rfl) ?_
        refine fp_callS (nA := 1) (As := [.int z]) (rest := []) X Y (c_X_isArray z) w306 w473 w305 w1 (by decide +kernel) ⟨rfl, rfl⟩ ⟨Nat.le_of_ble_eq_true rfl, Nat.le_of_ble_eq_true rfl⟩ rfl hl.1 rfl (Nat.le_of_ble_eq_true rfl) d_X_areOperands_166 ⟨Nat.zero_le _, Nat.zero_le _⟩ (fun v9 f9 H locs hp9 Y => ?_)
        obtain ⟨e8, e9⟩ := hp9
        subst e8
        rw [e9] at Y
        refine W.eq (g2 := F0 m 169 ls [.int (q_in z 4)]) rfl ?_
        refine lv_if_eq (tgt := 176) hx hb d_X_areOperands_169 (by decide) (fun c_169 => ?_) (fun c_169 => ?_)
        · refine lv_iconst (v := 0) hx hb d_X_areOperands_176 (by decide) ?_
          exact ret _ _ _ _ _ _ d_X_areOperands_177 ⟨_, rfl, rfl⟩ ⟨by simp [q_ops, c_150, c_161, c_169], rfl⟩ Y
        · refine lv_iconst (v := 1) hx hb d_X_areOperands_172 (by decide) ?_
          refine lv_goto (tgt := 177) hx hb d_X_areOperands_173 (by decide) ?_
          exact ret _ _ _ _ _ _ d_X_areOperands_177 ⟨_, rfl, rfl⟩ ⟨by simp [q_ops, c_150, c_161, c_169], rfl⟩ Y
set_option maxHeartbeats 4000000 in
set_option maxRecDepth 100000 in
theorem c_X_areKeyFields {l : Launch} {D : va_G} {g : Nat → ClassId} {b n : Nat} {A : Nat → Prop} {f : Nat → va_E} {a fo co qa qt kq : Nat} {ac tc po dr : Int32} {q1 q2 kf : Nat} {z1 z2 : Nat → Int32} (x y : Int32) (oa : fp_o b n f a (ob 7 [.ref fo, .ref co, .ref qa, .int ac, .ref qt, .int tc, .ref kq, .int po, .int dr])) (of : fp_o b n f fo (ob 4 [.ref q1, .ref q2, .int (nI kf)])) (o1 : fp_o b n f q1 (aI g 16 z1)) (o2 : fp_o b n f q2 (aI g 16 z2))  : fp_M l D (TY g) b n A y_X_areKeyFields (fp_ws y_X_areKeyFields b_X_areKeyFields 3 (some FieldType.boolean)) (rmD 1) [.ref a, .int x, .int y] f (fun v f' => v = some (.int (q_kf x y (nI kf))) ∧ f' = f) := by
  refine fp_ofI (plainFor_of_name (by decide)) (Nat.le_of_ble_eq_true rfl) ?_
  intro p e s m args below meth c Q ls H locs X Y hl ret
  have hx := X.1.1
  have hb := X.1.2.1
  have hl : lv_has ls 3 [(0, .ref a), (1, .int x), (2, .int y)] := hl
  refine lv_aload_n hx hb d_X_areKeyFields_0 rfl (lv_at hl 0 rfl) ?_
  refine fp_get X Y oa rfl in_X 0 (by decide) w191 rfl d_X_areKeyFields_1 ?_
  refine lv_iload_n hx hb d_X_areKeyFields_4 rfl (lv_at hl 1 rfl) ?_
  refine fp_callV (nA := 1) (As := [.int x]) (rest := []) X Y (c_F_isThere x of) of rfl w249 w421 w247 w248 w2 (by decide +kernel) ⟨rfl, rfl⟩ ⟨Nat.le_of_ble_eq_true rfl, Nat.le_of_ble_eq_true rfl⟩ rfl hl.1 rfl (Nat.le_of_ble_eq_true rfl) d_X_areKeyFields_5 ⟨Nat.zero_le _, Nat.zero_le _⟩ (fun v9 f9 H locs hp9 Y => ?_)
  obtain ⟨e8, e9⟩ := hp9
  subst e8
  rw [e9] at Y
  refine W.eq (g2 := F0 m 8 ls [.int (q_in x (nI kf))]) rfl ?_
  refine lv_if_eq (tgt := 36) hx hb d_X_areKeyFields_8 (by decide) (fun c_8 => ?_) (fun c_8 => ?_)
  · refine lv_iconst (v := 0) hx hb d_X_areKeyFields_36 (by decide) ?_
    exact ret _ _ _ _ _ _ d_X_areKeyFields_37 ⟨_, rfl, rfl⟩ ⟨by simp [q_kf, c_8], rfl⟩ Y
  · refine lv_iload_n hx hb d_X_areKeyFields_11 rfl (lv_at hl 2 rfl) ?_
    refine lv_iconst (v := -1) hx hb d_X_areKeyFields_12 (by decide) ?_
    refine lv_icmp_eq (tgt := 32) hx hb d_X_areKeyFields_13 (by decide) (fun c_13 => ?_) (fun c_13 => ?_)
    · refine lv_iconst (v := 1) hx hb d_X_areKeyFields_32 (by decide) ?_
      refine lv_goto (tgt := 37) hx hb d_X_areKeyFields_33 (by decide) ?_
      exact ret _ _ _ _ _ _ d_X_areKeyFields_37 ⟨_, rfl, rfl⟩ ⟨by simp [q_kf, c_8, c_13], rfl⟩ Y
    · refine lv_aload_n hx hb d_X_areKeyFields_16 rfl (lv_at hl 0 rfl) ?_
      refine fp_get X Y oa rfl in_X 0 (by decide) w191 rfl d_X_areKeyFields_17 ?_
      refine lv_iload_n hx hb d_X_areKeyFields_20 rfl (lv_at hl 2 rfl) ?_
      refine fp_callV (nA := 1) (As := [.int y]) (rest := []) X Y (c_F_isThere y of) of rfl w249 w421 w247 w248 w2 (by decide +kernel) ⟨rfl, rfl⟩ ⟨Nat.le_of_ble_eq_true rfl, Nat.le_of_ble_eq_true rfl⟩ rfl hl.1 rfl (Nat.le_of_ble_eq_true rfl) d_X_areKeyFields_21 ⟨Nat.zero_le _, Nat.zero_le _⟩ (fun v9 f9 H locs hp9 Y => ?_)
      obtain ⟨e8, e9⟩ := hp9
      subst e8
      rw [e9] at Y
      refine W.eq (g2 := F0 m 24 ls [.int (q_in y (nI kf))]) rfl ?_
      refine lv_if_eq (tgt := 36) hx hb d_X_areKeyFields_24 (by decide) (fun c_24 => ?_) (fun c_24 => ?_)
      · refine lv_iconst (v := 0) hx hb d_X_areKeyFields_36 (by decide) ?_
        exact ret _ _ _ _ _ _ d_X_areKeyFields_37 ⟨_, rfl, rfl⟩ ⟨by simp [q_kf, c_8, c_13, c_24], rfl⟩ Y
      · refine lv_iload_n hx hb d_X_areKeyFields_27 rfl (lv_at hl 1 rfl) ?_
        refine lv_iload_n hx hb d_X_areKeyFields_28 rfl (lv_at hl 2 rfl) ?_
        refine lv_icmp_eq (tgt := 36) hx hb d_X_areKeyFields_29 (by decide) (fun c_29 => ?_) (fun c_29 => ?_)
        · refine lv_iconst (v := 0) hx hb d_X_areKeyFields_36 (by decide) ?_
          exact ret _ _ _ _ _ _ d_X_areKeyFields_37 ⟨_, rfl, rfl⟩ ⟨by simp [q_kf, c_8, c_13, c_24, c_29], rfl⟩ Y
        · refine lv_iconst (v := 1) hx hb d_X_areKeyFields_32 (by decide) ?_
          refine lv_goto (tgt := 37) hx hb d_X_areKeyFields_33 (by decide) ?_
          exact ret _ _ _ _ _ _ d_X_areKeyFields_37 ⟨_, rfl, rfl⟩ ⟨by simp [q_kf, c_8, c_13, c_24, c_29], rfl⟩ Y
set_option maxHeartbeats 4000000 in
set_option maxRecDepth 100000 in
theorem c_X_areActions {l : Launch} {D : va_G} {g : Nat → ClassId} {b n : Nat} {A : Nat → Prop} {f : Nat → va_E} {a fo co qa qt kq : Nat} {ac tc po dr : Int32} (x y : Int32) (oa : fp_o b n f a (ob 7 [.ref fo, .ref co, .ref qa, .int ac, .ref qt, .int tc, .ref kq, .int po, .int dr]))  : fp_M l D (TY g) b n A y_X_areActions (fp_ws y_X_areActions b_X_areActions 4 (some FieldType.boolean)) (rmD 1) [.ref a, .int x, .int y] f (fun v f' => v = some (.int (q_ac x y ac)) ∧ f' = f) := by
  refine fp_ofI (plainFor_of_name (by decide)) (Nat.le_of_ble_eq_true rfl) ?_
  intro p e s m args below meth c Q ls H locs X Y hl ret
  have hx := X.1.1
  have hb := X.1.2.1
  have hl : lv_has ls 4 [(0, .ref a), (1, .int x), (2, .int y)] := hl
  refine lv_iconst (v := 1) hx hb d_X_areActions_0 (by decide) ?_
  refine lv_aload_n hx hb d_X_areActions_1 rfl (lv_at hl 0 rfl) ?_
  refine fp_get X Y oa rfl in_X 3 (by decide) w194 rfl d_X_areActions_2 ?_
  refine lv_ishl hx hb d_X_areActions_5 ?_
  refine lv_iconst (v := 1) hx hb d_X_areActions_6 (by decide) ?_
  refine lv_isub hx hb d_X_areActions_7 ?_
  refine lv_istore_n (lv' := [(3, .int ((1 <<< (ac &&& 31)) - 1)), (0, .ref a), (1, .int x), (2, .int y)]) hx hb d_X_areActions_8 rfl hl (by decide) rfl (fun ls hl => ?_)
  refine lv_iload_n hx hb d_X_areActions_9 rfl (lv_at hl 2 rfl) ?_
  refine lv_iload_n hx hb d_X_areActions_10 rfl (lv_at hl 0 rfl) ?_
  refine lv_iconst (v := -1) hx hb d_X_areActions_11 (by decide) ?_
  refine lv_ixor hx hb d_X_areActions_12 ?_
  refine lv_iand hx hb d_X_areActions_13 ?_
  refine lv_topi (fun w14 ew14 => ?_)
  refine lv_if_ne (tgt := 37) hx hb d_X_areActions_14 (by decide) (fun c_14 => ?_) (fun c_14 => ?_)
  · refine lv_iconst (v := 0) hx hb d_X_areActions_37 (by decide) ?_
    exact ret _ _ _ _ _ _ d_X_areActions_38 ⟨_, rfl, rfl⟩ ⟨by rw [q_ac, ← ew14]; simp only [q_acb, if_neg c_14], rfl⟩ Y
  · refine lv_aload_n hx hb d_X_areActions_17 rfl (lv_at hl 1 rfl) ?_
    refine lv_iload_n hx hb d_X_areActions_18 rfl (lv_at hl 3 rfl) ?_
    refine fp_callV (nA := 1) (As := [.int y]) (rest := []) X Y (c_X_isAction y oa) oa rfl w465 w462 w464 wp4 w1 (by decide +kernel) ⟨rfl, rfl⟩ ⟨Nat.le_of_ble_eq_true rfl, Nat.le_of_ble_eq_true rfl⟩ rfl hl.1 rfl (Nat.le_of_ble_eq_true rfl) d_X_areActions_19 ⟨Nat.zero_le _, Nat.zero_le _⟩ (fun v9 f9 H locs hp9 Y => ?_)
    obtain ⟨e8, e9⟩ := hp9
    subst e8
    rw [e9] at Y
    refine W.eq (g2 := F0 m 22 ls [.int (q_in y ac)]) rfl ?_
    refine lv_if_eq (tgt := 37) hx hb d_X_areActions_22 (by decide) (fun c_22 => ?_) (fun c_22 => ?_)
    · refine lv_iconst (v := 0) hx hb d_X_areActions_37 (by decide) ?_
      exact ret _ _ _ _ _ _ d_X_areActions_38 ⟨_, rfl, rfl⟩ ⟨by rw [q_ac, ← ew14]; simp only [q_acb, if_pos c_14, if_pos c_22], rfl⟩ Y
    · refine lv_iload_n hx hb d_X_areActions_25 rfl (lv_at hl 2 rfl) ?_
      refine lv_iload_n hx hb d_X_areActions_26 rfl (lv_at hl 3 rfl) ?_
      refine lv_ishr hx hb d_X_areActions_27 ?_
      refine lv_iconst (v := 1) hx hb d_X_areActions_28 (by decide) ?_
      refine lv_iand hx hb d_X_areActions_29 ?_
      refine lv_if_eq (tgt := 37) hx hb d_X_areActions_30 (by decide) (fun c_30 => ?_) (fun c_30 => ?_)
      · refine lv_iconst (v := 0) hx hb d_X_areActions_37 (by decide) ?_
        exact ret _ _ _ _ _ _ d_X_areActions_38 ⟨_, rfl, rfl⟩ ⟨by rw [q_ac, ← ew14]; simp only [q_acb, if_pos c_14, if_neg c_22, if_pos c_30], rfl⟩ Y
      · refine lv_iconst (v := 1) hx hb d_X_areActions_33 (by decide) ?_
        refine lv_goto (tgt := 38) hx hb d_X_areActions_34 (by decide) ?_
        exact ret _ _ _ _ _ _ d_X_areActions_38 ⟨_, rfl, rfl⟩ ⟨by rw [q_ac, ← ew14]; simp only [q_acb, if_pos c_14, if_neg c_22, if_neg c_30], rfl⟩ Y
set_option maxHeartbeats 4000000 in
set_option maxRecDepth 100000 in
theorem c_X_isHow {l : Launch} {D : va_G} {g : Nat → ClassId} {b n : Nat} {A : Nat → Prop} {f : Nat → va_E} (x y : Int32)   : fp_M l D (TY g) b n A y_X_isHow (fp_ws y_X_isHow b_X_isHow 4 (some FieldType.boolean)) (rmD 0) [.int x, .int y] f (fun v f' => v = some (.int (q_hw x y)) ∧ f' = f) := by
  refine fp_ofI (plainFor_of_name (by decide)) (Nat.le_of_ble_eq_true rfl) ?_
  intro p e s m args below meth c Q ls H locs X Y hl ret
  have hx := X.1.1
  have hb := X.1.2.1
  have hl : lv_has ls 4 [(0, .int x), (1, .int y)] := hl
  refine lv_iload_n hx hb d_X_isHow_0 rfl (lv_at hl 0 rfl) ?_
  refine lv_iconst (v := 3) hx hb d_X_isHow_1 (by decide) ?_
  refine lv_iand hx hb d_X_isHow_2 ?_
  refine lv_topi (fun w3 ew3 => ?_)
  refine lv_istore_n (lv' := [(2, .int w3), (0, .int x), (1, .int y)]) hx hb d_X_isHow_3 rfl hl (by decide) rfl (fun ls hl => ?_)
  refine lv_iload_n hx hb d_X_isHow_4 rfl (lv_at hl 1 rfl) ?_
  refine lv_iconst (v := 2) hx hb d_X_isHow_5 (by decide) ?_
  refine lv_ishr hx hb d_X_isHow_6 ?_
  refine lv_topi (fun w7 ew7 => ?_)
  refine lv_istore_n (lv' := [(3, .int w7), (2, .int w3), (0, .int x), (1, .int y)]) hx hb d_X_isHow_7 rfl hl (by decide) rfl (fun ls hl => ?_)
  refine lv_iload_n hx hb d_X_isHow_8 rfl (lv_at hl 1 rfl) ?_
  refine lv_iconst (v := 2) hx hb d_X_isHow_9 (by decide) ?_
  refine lv_icmp_gt (tgt := 22) hx hb d_X_isHow_10 (by decide) (fun c_10 => ?_) (fun c_10 => ?_)
  · refine lv_iconst (v := 0) hx hb d_X_isHow_22 (by decide) ?_
    exact ret _ _ _ _ _ _ d_X_isHow_23 ⟨_, rfl, rfl⟩ ⟨by rw [q_hw, ← ew3, ← ew7]; simp [q_hwb, c_10], rfl⟩ Y
  · refine lv_iload_n hx hb d_X_isHow_13 rfl (lv_at hl 0 rfl) ?_
    refine lv_if_lt (tgt := 22) hx hb d_X_isHow_14 (by decide) (fun c_14 => ?_) (fun c_14 => ?_)
    · refine lv_iconst (v := 0) hx hb d_X_isHow_22 (by decide) ?_
      exact ret _ _ _ _ _ _ d_X_isHow_23 ⟨_, rfl, rfl⟩ ⟨by rw [q_hw, ← ew3, ← ew7]; simp [q_hwb, c_10, c_14], rfl⟩ Y
    · refine lv_iload_n hx hb d_X_isHow_17 rfl (lv_at hl 0 rfl) ?_
      refine lv_iconst (v := 2) hx hb d_X_isHow_18 (by decide) ?_
      refine lv_icmp_le (tgt := 24) hx hb d_X_isHow_19 (by decide) (fun c_19 => ?_) (fun c_19 => ?_)
      · refine lv_iload_n hx hb d_X_isHow_24 rfl (lv_at hl 3 rfl) ?_
        refine lv_iconst (v := -1) hx hb d_X_isHow_25 (by decide) ?_
        refine lv_icmp_ne (tgt := 39) hx hb d_X_isHow_26 (by decide) (fun c_26 => ?_) (fun c_26 => ?_)
        · refine lv_iload_n hx hb d_X_isHow_39 rfl (lv_at hl 1 rfl) ?_
          refine lv_iconst (v := 1) hx hb d_X_isHow_40 (by decide) ?_
          refine lv_icmp_ne (tgt := 49) hx hb d_X_isHow_41 (by decide) (fun c_41 => ?_) (fun c_41 => ?_)
          · refine lv_iconst (v := 1) hx hb d_X_isHow_49 (by decide) ?_
            refine lv_goto (tgt := 54) hx hb d_X_isHow_50 (by decide) ?_
            exact ret _ _ _ _ _ _ d_X_isHow_54 ⟨_, rfl, rfl⟩ ⟨by rw [q_hw, ← ew3, ← ew7]; simp [q_hwb, c_10, c_14, c_19, c_26, c_41], rfl⟩ Y
          · refine lv_iload_n hx hb d_X_isHow_44 rfl (lv_at hl 0 rfl) ?_
            refine lv_iconst (v := 1) hx hb d_X_isHow_45 (by decide) ?_
            refine lv_icmp_eq (tgt := 53) hx hb d_X_isHow_46 (by decide) (fun c_46 => ?_) (fun c_46 => ?_)
            · refine lv_iconst (v := 0) hx hb d_X_isHow_53 (by decide) ?_
              exact ret _ _ _ _ _ _ d_X_isHow_54 ⟨_, rfl, rfl⟩ ⟨by rw [q_hw, ← ew3, ← ew7]; simp [q_hwb, c_10, c_14, c_19, c_26, c_41, c_46], rfl⟩ Y
            · refine lv_iconst (v := 1) hx hb d_X_isHow_49 (by decide) ?_
              refine lv_goto (tgt := 54) hx hb d_X_isHow_50 (by decide) ?_
              exact ret _ _ _ _ _ _ d_X_isHow_54 ⟨_, rfl, rfl⟩ ⟨by rw [q_hw, ← ew3, ← ew7]; simp [q_hwb, c_10, c_14, c_19, c_26, c_41, c_46], rfl⟩ Y
        · refine lv_iload_n hx hb d_X_isHow_29 rfl (lv_at hl 0 rfl) ?_
          refine lv_if_ne (tgt := 37) hx hb d_X_isHow_30 (by decide) (fun c_30 => ?_) (fun c_30 => ?_)
          · refine lv_iconst (v := 0) hx hb d_X_isHow_37 (by decide) ?_
            exact ret _ _ _ _ _ _ d_X_isHow_38 ⟨_, rfl, rfl⟩ ⟨by rw [q_hw, ← ew3, ← ew7]; simp [q_hwb, c_10, c_14, c_19, c_26, c_30], rfl⟩ Y
          · refine lv_iconst (v := 1) hx hb d_X_isHow_33 (by decide) ?_
            refine lv_goto (tgt := 38) hx hb d_X_isHow_34 (by decide) ?_
            exact ret _ _ _ _ _ _ d_X_isHow_38 ⟨_, rfl, rfl⟩ ⟨by rw [q_hw, ← ew3, ← ew7]; simp [q_hwb, c_10, c_14, c_19, c_26, c_30], rfl⟩ Y
      · refine lv_iconst (v := 0) hx hb d_X_isHow_22 (by decide) ?_
        exact ret _ _ _ _ _ _ d_X_isHow_23 ⟨_, rfl, rfl⟩ ⟨by rw [q_hw, ← ew3, ← ew7]; simp [q_hwb, c_10, c_14, c_19], rfl⟩ Y
