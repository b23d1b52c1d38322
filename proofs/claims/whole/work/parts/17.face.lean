/-! Contracts: the face of EntryTables, where it throws and where it does not (by wip/gen/k7.py). -/
abbrev rmT : Room := { frames := 8, cells := 1, slots := 6, locals := 300 }
set_option maxHeartbeats 4000000 in
set_option maxRecDepth 100000 in
theorem c_X_field_t1 {l : Launch} {D : va_G} {g : Nat → ClassId} {b n : Nat} {f : Nat → va_E} (hfl : l.flags = flags0) {a fo co qa qt kq : Nat} {ac tc po dr : Int32} {x : Int32} (hbad : x < 1 ∨ 32 < x) (oa : fp_o b n f a (ob 7 [.ref fo, .ref co, .ref qa, .int ac, .ref qt, .int tc, .ref kq, .int po, .int dr]))  : fp_T l D (TY g) b n y_X_field (fp_ws y_X_field b_X_field 2 (some FieldType.int)) rmT [.ref a, .int x] f "java/lang/IllegalArgumentException" := by
  refine fp_ofT (plainFor_of_name (by decide)) (Nat.le_of_ble_eq_true rfl) hfl ?_
  intro p e s m args below meth c Q ls H locs X Y hl hEx htr hno hlocks hq
  have hx := X.1.1
  have hb := X.1.2.1
  have hl : lv_has ls 2 [(0, .ref a), (1, .int x)] := hl
  refine lv_iload_n hx hb d_X_field_0 rfl (lv_at hl 1 rfl) ?_
  refine lv_iconst (v := 1) hx hb d_X_field_1 (by decide) ?_
  refine lv_icmp_lt (tgt := 11) hx hb d_X_field_2 (by decide) (fun c_2 => ?_) (fun c_2 => ?_)
  · exact fp_throw (ic := 70) (is := 68) X Y htr (hEx.own (by decide)) w320 w14 (hEx.2.2.1 (68, "a width is 1 to 32 bits") (by decide)) (by decide +kernel) hno hlocks ⟨by decide, by decide, by decide, by decide⟩ hl.1 d_X_field_11 d_X_field_14 d_X_field_15 d_X_field_17 d_X_field_20 hq
  · refine lv_iload_n hx hb d_X_field_5 rfl (lv_at hl 1 rfl) ?_
    refine lv_bipush (v := 32) hx hb d_X_field_6 (by decide) ?_
    refine lv_icmp_le (tgt := 21) hx hb d_X_field_8 (by decide) (fun c_8 => absurd c_8 (Int32.not_le.mpr (hbad.resolve_left c_2))) (fun c_8 => ?_)
    exact fp_throw (ic := 70) (is := 68) X Y htr (hEx.own (by decide)) w320 w14 (hEx.2.2.1 (68, "a width is 1 to 32 bits") (by decide)) (by decide +kernel) hno hlocks ⟨by decide, by decide, by decide, by decide⟩ hl.1 d_X_field_11 d_X_field_14 d_X_field_15 d_X_field_17 d_X_field_20 hq
set_option maxHeartbeats 4000000 in
set_option maxRecDepth 100000 in
theorem c_X_field_t2 {l : Launch} {D : va_G} {g : Nat → ClassId} {b n : Nat} {f : Nat → va_E} (hfl : l.flags = flags0) {a fo co qa qt kq : Nat} {ac tc po dr : Int32} {q1 q2 kf : Nat} {z1 z2 : Nat → Int32} {x : Int32} (h1 : ¬ x < 1) (h2 : x ≤ 32) (hfull : ¬ q_full 16 (nI kf) = 0) (oa : fp_o b n f a (ob 7 [.ref fo, .ref co, .ref qa, .int ac, .ref qt, .int tc, .ref kq, .int po, .int dr])) (of : fp_o b n f fo (ob 4 [.ref q1, .ref q2, .int (nI kf)])) (o1 : fp_o b n f q1 (aI g 16 z1)) (o2 : fp_o b n f q2 (aI g 16 z2))  : fp_T l D (TY g) b n y_X_field (fp_ws y_X_field b_X_field 2 (some FieldType.int)) rmT [.ref a, .int x] f "java/lang/IllegalStateException" := by
  refine fp_ofT (plainFor_of_name (by decide)) (Nat.le_of_ble_eq_true rfl) hfl ?_
  intro p e s m args below meth c Q ls H locs X Y hl hEx htr hno hlocks hq
  have hx := X.1.1
  have hb := X.1.2.1
  have hl : lv_has ls 2 [(0, .ref a), (1, .int x)] := hl
  refine lv_iload_n hx hb d_X_field_0 rfl (lv_at hl 1 rfl) ?_
  refine lv_iconst (v := 1) hx hb d_X_field_1 (by decide) ?_
  refine lv_icmp_lt (tgt := 11) hx hb d_X_field_2 (by decide) (fun c_2 => absurd c_2 h1) (fun c_2 => ?_)
  refine lv_iload_n hx hb d_X_field_5 rfl (lv_at hl 1 rfl) ?_
  refine lv_bipush (v := 32) hx hb d_X_field_6 (by decide) ?_
  refine lv_icmp_le (tgt := 21) hx hb d_X_field_8 (by decide) (fun c_8 => ?_) (fun c_8 => absurd h2 c_8)
  refine lv_aload_n hx hb d_X_field_21 rfl (lv_at hl 0 rfl) ?_
  refine fp_get X Y oa rfl in_X 0 (by decide) w191 rfl d_X_field_22 ?_
  refine fp_callV (nA := 0) (As := []) (rest := []) X Y (c_F_isFull of) of rfl w391 w388 w389 w390 w2 (by decide +kernel) ⟨rfl, rfl⟩ ⟨Nat.le_of_ble_eq_true rfl, Nat.le_of_ble_eq_true rfl⟩ rfl hl.1 rfl (Nat.le_of_ble_eq_true rfl) d_X_field_25 ⟨Nat.zero_le _, Nat.zero_le _⟩ (fun v9 f9 H locs hp9 Y => ?_)
  obtain ⟨e8, e9⟩ := hp9
  subst e8
  rw [e9] at Y
  refine W.eq (g2 := F0 m 28 ls [.int (q_full 16 (nI kf))]) rfl ?_
  refine lv_if_eq (tgt := 41) hx hb d_X_field_28 (by decide) (fun c_28 => absurd c_28 hfull) (fun c_28 => ?_)
  exact fp_throw (ic := 81) (is := 79) X Y htr (hEx.own (by decide)) w392 w15 (hEx.2.2.1 (79, "there are 16 fields") (by decide)) (by decide +kernel) hno hlocks ⟨by decide, by decide, by decide, by decide⟩ hl.1 d_X_field_31 d_X_field_34 d_X_field_35 d_X_field_37 d_X_field_40 hq
set_option maxHeartbeats 4000000 in
set_option maxRecDepth 100000 in
theorem c_X_field {l : Launch} {D : va_G} {g : Nat → ClassId} {b n : Nat} {A : Nat → Prop} {f : Nat → va_E} {a fo co qa qt kq : Nat} {ac tc po dr : Int32} {q1 q2 kf : Nat} {z1 z2 : Nat → Int32} {x : Int32} (h1 : ¬ x < 1) (h2 : x ≤ 32) (hkf : kf < 16) (oa : fp_o b n f a (ob 7 [.ref fo, .ref co, .ref qa, .int ac, .ref qt, .int tc, .ref kq, .int po, .int dr])) (of : fp_o b n f fo (ob 4 [.ref q1, .ref q2, .int (nI kf)])) (o1 : fp_o b n f q1 (aI g 16 z1)) (o2 : fp_o b n f q2 (aI g 16 z2)) (hne : q1 ≠ q2) (hA : fp_W b n A) : fp_M l D (TY g) b n A y_X_field (fp_ws y_X_field b_X_field 2 (some FieldType.int)) (rmD 2) [.ref a, .int x] f (fun v f' => v = some (.int (nI kf)) ∧ f' = va_up (va_up (va_up f q1 (aI g 16 (upd z1 kf (q_on x)))) q2 (aI g 16 (upd z2 kf 0))) fo (ob 4 [.ref q1, .ref q2, .int (nI (kf + 1))])) := by
  refine fp_ofI (plainFor_of_name (by decide)) (Nat.le_of_ble_eq_true rfl) ?_
  intro p e s m args below meth c Q ls H locs X Y hl ret
  have hx := X.1.1
  have hb := X.1.2.1
  have hl : lv_has ls 2 [(0, .ref a), (1, .int x)] := hl
  refine lv_iload_n hx hb d_X_field_0 rfl (lv_at hl 1 rfl) ?_
  refine lv_iconst (v := 1) hx hb d_X_field_1 (by decide) ?_
  refine lv_icmp_lt (tgt := 11) hx hb d_X_field_2 (by decide) (fun c_2 => absurd c_2 h1) (fun c_2 => ?_)
  refine lv_iload_n hx hb d_X_field_5 rfl (lv_at hl 1 rfl) ?_
  refine lv_bipush (v := 32) hx hb d_X_field_6 (by decide) ?_
  refine lv_icmp_le (tgt := 21) hx hb d_X_field_8 (by decide) (fun c_8 => ?_) (fun c_8 => absurd h2 c_8)
  refine lv_aload_n hx hb d_X_field_21 rfl (lv_at hl 0 rfl) ?_
  refine fp_get X Y oa rfl in_X 0 (by decide) w191 rfl d_X_field_22 ?_
  refine fp_callV (nA := 0) (As := []) (rest := []) X Y (c_F_isFull of) of rfl w391 w388 w389 w390 w2 (by decide +kernel) ⟨rfl, rfl⟩ ⟨Nat.le_of_ble_eq_true rfl, Nat.le_of_ble_eq_true rfl⟩ rfl hl.1 rfl (Nat.le_of_ble_eq_true rfl) d_X_field_25 ⟨Nat.zero_le _, Nat.zero_le _⟩ (fun v9 f9 H locs hp9 Y => ?_)
  obtain ⟨e8, e9⟩ := hp9
  subst e8
  rw [e9] at Y
  refine W.eq (g2 := F0 m 28 ls [.int (q_full 16 (nI kf))]) rfl ?_
  refine lv_if_eq (tgt := 41) hx hb d_X_field_28 (by decide) (fun c_28 => ?_) (fun c_28 => absurd (q_full_lt hkf (by decide)) c_28)
  refine lv_aload_n hx hb d_X_field_41 rfl (lv_at hl 0 rfl) ?_
  refine fp_get X Y oa rfl in_X 0 (by decide) w191 rfl d_X_field_42 ?_
  refine lv_iload_n hx hb d_X_field_45 rfl (lv_at hl 1 rfl) ?_
  refine fp_callV (nA := 1) (As := [.int x]) (rest := []) X Y (c_F_add x hkf of o1 o2 hne) of rfl w411 w408 w409 w410 w2 (by decide +kernel) ⟨rfl, rfl⟩ ⟨Nat.le_of_ble_eq_true rfl, Nat.le_of_ble_eq_true rfl⟩ rfl hl.1 rfl (Nat.le_of_ble_eq_true rfl) d_X_field_46 ⟨Nat.zero_le _, Nat.zero_le _⟩ (fun v9 f9 H locs hp9 Y => ?_)
  obtain ⟨e8, e9⟩ := hp9
  subst e8
  rw [e9] at Y
  refine W.eq (g2 := F0 m 49 ls [.int (nI kf)]) rfl ?_
  exact ret _ _ _ _ _ _ d_X_field_49 ⟨_, rfl, rfl⟩ ⟨rfl, rfl⟩ Y
set_option maxHeartbeats 4000000 in
set_option maxRecDepth 100000 in
theorem c_X_set_t {l : Launch} {D : va_G} {g : Nat → ClassId} {b n : Nat} {f : Nat → va_E} (hfl : l.flags = flags0) {a fo co qa qt kq : Nat} {ac tc po dr : Int32} {q1 q2 kf : Nat} {z1 z2 : Nat → Int32} {x y : Int32} (hbad : q_in x (nI kf) = 0) (oa : fp_o b n f a (ob 7 [.ref fo, .ref co, .ref qa, .int ac, .ref qt, .int tc, .ref kq, .int po, .int dr])) (of : fp_o b n f fo (ob 4 [.ref q1, .ref q2, .int (nI kf)])) (o1 : fp_o b n f q1 (aI g 16 z1)) (o2 : fp_o b n f q2 (aI g 16 z2))  : fp_T l D (TY g) b n y_X_set (fp_ws y_X_set b_X_set 3 none) rmT [.ref a, .int x, .int y] f "java/lang/IndexOutOfBoundsException" := by
  refine fp_ofT (plainFor_of_name (by decide)) (Nat.le_of_ble_eq_true rfl) hfl ?_
  intro p e s m args below meth c Q ls H locs X Y hl hEx htr hno hlocks hq
  have hx := X.1.1
  have hb := X.1.2.1
  have hl : lv_has ls 3 [(0, .ref a), (1, .int x), (2, .int y)] := hl
  refine lv_aload_n hx hb d_X_set_0 rfl (lv_at hl 0 rfl) ?_
  refine fp_get X Y oa rfl in_X 0 (by decide) w191 rfl d_X_set_1 ?_
  refine lv_iload_n hx hb d_X_set_4 rfl (lv_at hl 1 rfl) ?_
  refine fp_callV (nA := 1) (As := [.int x]) (rest := []) X Y (c_F_isThere x of) of rfl w249 w421 w247 w248 w2 (by decide +kernel) ⟨rfl, rfl⟩ ⟨Nat.le_of_ble_eq_true rfl, Nat.le_of_ble_eq_true rfl⟩ rfl hl.1 rfl (Nat.le_of_ble_eq_true rfl) d_X_set_5 ⟨Nat.zero_le _, Nat.zero_le _⟩ (fun v9 f9 H locs hp9 Y => ?_)
  obtain ⟨e8, e9⟩ := hp9
  subst e8
  rw [e9] at Y
  refine W.eq (g2 := F0 m 8 ls [.int (q_in x (nI kf))]) rfl ?_
  refine lv_if_ne (tgt := 21) hx hb d_X_set_8 (by decide) (fun c_8 => absurd hbad c_8) (fun c_8 => ?_)
  exact fp_throw (ic := 94) (is := 92) X Y htr (hEx.own (by decide)) w422 w16 (hEx.2.2.1 (92, "no such field") (by decide)) (by decide +kernel) hno hlocks ⟨by decide, by decide, by decide, by decide⟩ hl.1 d_X_set_11 d_X_set_14 d_X_set_15 d_X_set_17 d_X_set_20 hq
set_option maxHeartbeats 4000000 in
set_option maxRecDepth 100000 in
theorem c_X_set {l : Launch} {D : va_G} {g : Nat → ClassId} {b n : Nat} {A : Nat → Prop} {f : Nat → va_E} {a fo co qa qt kq : Nat} {ac tc po dr : Int32} {q1 q2 kf : Nat} {z1 z2 : Nat → Int32} {x y : Int32} (hok : ¬ q_in x (nI kf) = 0) (hk : kf ≤ 16) (oa : fp_o b n f a (ob 7 [.ref fo, .ref co, .ref qa, .int ac, .ref qt, .int tc, .ref kq, .int po, .int dr])) (of : fp_o b n f fo (ob 4 [.ref q1, .ref q2, .int (nI kf)])) (o1 : fp_o b n f q1 (aI g 16 z1)) (o2 : fp_o b n f q2 (aI g 16 z2)) (hne : q1 ≠ q2) (hA : fp_W b n A := by assumption) : fp_M l D (TY g) b n A y_X_set (fp_ws y_X_set b_X_set 3 none) (rmD 2) [.ref a, .int x, .int y] f (fun v f' => v = none ∧ f' = va_up f q2 (aI g 16 (q_wr z1 z2 x (nI kf) y))) := by
  refine fp_ofV (plainFor_of_name (by decide)) (Nat.le_of_ble_eq_true rfl) ?_
  intro p e s m args below meth c Q ls H locs X Y hl ret
  have hx := X.1.1
  have hb := X.1.2.1
  have hl : lv_has ls 3 [(0, .ref a), (1, .int x), (2, .int y)] := hl
  refine lv_aload_n hx hb d_X_set_0 rfl (lv_at hl 0 rfl) ?_
  refine fp_get X Y oa rfl in_X 0 (by decide) w191 rfl d_X_set_1 ?_
  refine lv_iload_n hx hb d_X_set_4 rfl (lv_at hl 1 rfl) ?_
  refine fp_callV (nA := 1) (As := [.int x]) (rest := []) X Y (c_F_isThere x of) of rfl w249 w421 w247 w248 w2 (by decide +kernel) ⟨rfl, rfl⟩ ⟨Nat.le_of_ble_eq_true rfl, Nat.le_of_ble_eq_true rfl⟩ rfl hl.1 rfl (Nat.le_of_ble_eq_true rfl) d_X_set_5 ⟨Nat.zero_le _, Nat.zero_le _⟩ (fun v9 f9 H locs hp9 Y => ?_)
  obtain ⟨e8, e9⟩ := hp9
  subst e8
  rw [e9] at Y
  refine W.eq (g2 := F0 m 8 ls [.int (q_in x (nI kf))]) rfl ?_
  refine lv_if_ne (tgt := 21) hx hb d_X_set_8 (by decide) (fun c_8 => ?_) (fun c_8 => absurd c_8 hok)
  refine lv_aload_n hx hb d_X_set_21 rfl (lv_at hl 0 rfl) ?_
  refine fp_get X Y oa rfl in_X 0 (by decide) w191 rfl d_X_set_22 ?_
  refine lv_iload_n hx hb d_X_set_25 rfl (lv_at hl 1 rfl) ?_
  refine lv_iload_n hx hb d_X_set_26 rfl (lv_at hl 2 rfl) ?_
  refine fp_callV (nA := 2) (As := [.int x, .int y]) (rest := []) X Y (c_F_write x y hk of o1 o2 hne) of rfl w441 w438 w439 w440 w2 (by decide +kernel) ⟨rfl, rfl⟩ ⟨Nat.le_of_ble_eq_true rfl, Nat.le_of_ble_eq_true rfl⟩ rfl hl.1 rfl (Nat.le_of_ble_eq_true rfl) d_X_set_27 ⟨Nat.zero_le _, Nat.zero_le _⟩ (fun v9 f9 H locs hp9 Y => ?_)
  obtain ⟨e8, e9⟩ := hp9
  subst e8
  rw [e9] at Y
  have ne_1 : a ≠ q2 := (fp_o.nf oa o2 (by simp))
  have ne_2 : fo ≠ q2 := (fp_o.nf of o2 (by simp))
  have ne_3 : q1 ≠ q2 := hne
  have Y : fp_H D b n A (va_up f q2 (aI g 16 (q_wr z1 z2 x (nI kf) y))) s.heap H locs := Y
  have oa : fp_o b n (va_up f q2 (aI g 16 (q_wr z1 z2 x (nI kf) y))) a (ob 7 [.ref fo, .ref co, .ref qa, .int ac, .ref qt, .int tc, .ref kq, .int po, .int dr]) := fp_o.ne oa ne_1
  have of : fp_o b n (va_up f q2 (aI g 16 (q_wr z1 z2 x (nI kf) y))) fo (ob 4 [.ref q1, .ref q2, .int (nI kf)]) := fp_o.ne of ne_2
  have o1 : fp_o b n (va_up f q2 (aI g 16 (q_wr z1 z2 x (nI kf) y))) q1 (aI g 16 z1) := fp_o.ne o1 ne_3
  have o2 : fp_o b n (va_up f q2 (aI g 16 (q_wr z1 z2 x (nI kf) y))) q2 (aI g 16 (q_wr z1 z2 x (nI kf) y)) := fp_o.up o2
  refine W.eq (g2 := F0 m 30 ls []) rfl ?_
  exact ret _ _ _ _ _ d_X_set_30 ⟨rfl, rfl⟩ Y
set_option maxHeartbeats 4000000 in
set_option maxRecDepth 100000 in
theorem c_X_action_t {l : Launch} {D : va_G} {g : Nat → ClassId} {b n : Nat} {f : Nat → va_E} (hfl : l.flags = flags0) {a fo co qa qt kq : Nat} {ac tc po dr : Int32} (hfull : ¬ ac < 16) (oa : fp_o b n f a (ob 7 [.ref fo, .ref co, .ref qa, .int ac, .ref qt, .int tc, .ref kq, .int po, .int dr]))  : fp_T l D (TY g) b n y_X_action (fp_ws y_X_action b_X_action 2 (some FieldType.int)) rmT [.ref a] f "java/lang/IllegalStateException" := by
  refine fp_ofT (plainFor_of_name (by decide)) (Nat.le_of_ble_eq_true rfl) hfl ?_
  intro p e s m args below meth c Q ls H locs X Y hl hEx htr hno hlocks hq
  have hx := X.1.1
  have hb := X.1.2.1
  have hl : lv_has ls 2 [(0, .ref a)] := hl
  refine lv_aload_n hx hb d_X_action_0 rfl (lv_at hl 0 rfl) ?_
  refine fp_get X Y oa rfl in_X 3 (by decide) w194 rfl d_X_action_1 ?_
  refine lv_bipush (v := 16) hx hb d_X_action_4 (by decide) ?_
  refine lv_icmp_lt (tgt := 19) hx hb d_X_action_6 (by decide) (fun c_6 => absurd c_6 hfull) (fun c_6 => ?_)
  exact fp_throw (ic := 81) (is := 102) X Y htr (hEx.own (by decide)) w392 w15 (hEx.2.2.1 (102, "there are 16 actions") (by decide)) (by decide +kernel) hno hlocks ⟨by decide, by decide, by decide, by decide⟩ hl.1 d_X_action_9 d_X_action_12 d_X_action_13 d_X_action_15 d_X_action_18 hq
set_option maxHeartbeats 4000000 in
set_option maxRecDepth 100000 in
theorem c_X_action {l : Launch} {D : va_G} {g : Nat → ClassId} {b n : Nat} {A : Nat → Prop} {f : Nat → va_E} {a fo co qa qt kq acn tcn : Nat} {po dr : Int32} {ax dq : Nat} {dn : Int32} {za : Nat → Option Nat} (hac : acn < 16) (hza : za acn = some ax) (oa : fp_o b n f a (ob 7 [.ref fo, .ref co, .ref qa, .int (nI acn), .ref qt, .int (nI tcn), .ref kq, .int po, .int dr])) (oqa : fp_o b n f qa (aR g 1 16 za)) (oax : fp_o b n f ax (ob 0 [.ref dq, .int dn]))  (hA : fp_W b n A := by assumption) : fp_M l D (TY g) b n A y_X_action (fp_ws y_X_action b_X_action 2 (some FieldType.int)) (rmD 1) [.ref a] f (fun v f' => v = some (.int (nI acn)) ∧ f' = va_up (va_up f ax (ob 0 [.ref dq, .int 0])) a (ob 7 [.ref fo, .ref co, .ref qa, .int (nI (acn + 1)), .ref qt, .int (nI tcn), .ref kq, .int po, .int dr])) := by
  refine fp_ofI (plainFor_of_name (by decide)) (Nat.le_of_ble_eq_true rfl) ?_
  intro p e s m args below meth c Q ls H locs X Y hl ret
  have hx := X.1.1
  have hb := X.1.2.1
  have hl : lv_has ls 2 [(0, .ref a)] := hl
  refine lv_aload_n hx hb d_X_action_0 rfl (lv_at hl 0 rfl) ?_
  refine fp_get X Y oa rfl in_X 3 (by decide) w194 rfl d_X_action_1 ?_
  refine lv_bipush (v := 16) hx hb d_X_action_4 (by decide) ?_
  refine lv_icmp_lt (tgt := 19) hx hb d_X_action_6 (by decide) (fun c_6 => ?_) (fun c_6 => absurd (nI_lt (b := 16) hac (by decide)) c_6)
  refine lv_aload_n hx hb d_X_action_19 rfl (lv_at hl 0 rfl) ?_
  refine fp_get X Y oa rfl in_X 3 (by decide) w194 rfl d_X_action_20 ?_
  refine lv_istore_n (lv' := [(1, .int (nI acn)), (0, .ref a)]) hx hb d_X_action_23 rfl hl (by decide) rfl (fun ls hl => ?_)
  refine lv_aload_n hx hb d_X_action_24 rfl (lv_at hl 1 rfl) ?_
  refine fp_get X Y oa rfl in_X 2 (by decide) w193 rfl d_X_action_25 ?_
  refine lv_iload_n hx hb d_X_action_28 rfl (lv_at hl 0 rfl) ?_
  refine fp_ald 1 rfl X Y oqa acn rfl hac (by decide) hza d_X_action_29 ?_
  refine fp_callV (nA := 0) (As := []) (rest := []) X Y (c_A_forget oax) oax rfl w453 w450 w451 w452 w5 (by decide +kernel) ⟨rfl, rfl⟩ ⟨Nat.le_of_ble_eq_true rfl, Nat.le_of_ble_eq_true rfl⟩ rfl hl.1 rfl (Nat.le_of_ble_eq_true rfl) d_X_action_30 ⟨Nat.zero_le _, Nat.zero_le _⟩ (fun v9 f9 H locs hp9 Y => ?_)
  obtain ⟨e8, e9⟩ := hp9
  subst e8
  rw [e9] at Y
  have ne_1 : a ≠ ax := (fp_o.nf oa oax (by simp))
  have ne_2 : qa ≠ ax := (fp_o.nf oqa oax (by simp))
  have Y : fp_H D b n A (va_up f ax (ob 0 [.ref dq, .int 0])) s.heap H locs := Y
  have oa : fp_o b n (va_up f ax (ob 0 [.ref dq, .int 0])) a (ob 7 [.ref fo, .ref co, .ref qa, .int (nI acn), .ref qt, .int (nI tcn), .ref kq, .int po, .int dr]) := fp_o.ne oa ne_1
  have oqa : fp_o b n (va_up f ax (ob 0 [.ref dq, .int 0])) qa (aR g 1 16 za) := fp_o.ne oqa ne_2
  have oax : fp_o b n (va_up f ax (ob 0 [.ref dq, .int 0])) ax (ob 0 [.ref dq, .int 0]) := fp_o.up oax
  refine W.eq (g2 := F0 m 33 ls []) rfl ?_
  refine lv_aload_n hx hb d_X_action_33 rfl (lv_at hl 1 rfl) ?_
  refine lv_dup hx hb d_X_action_34 rfl ?_
  refine fp_get X Y oa rfl in_X 3 (by decide) w194 rfl d_X_action_35 ?_
  refine lv_iconst (v := 1) hx hb d_X_action_38 (by decide) ?_
  refine lv_iadd hx hb d_X_action_39 ?_
  refine fp_put X Y oa rfl in_X to_X nm_X 3 (by decide) w194 rfl rfl rfl (Nat.le_of_ble_eq_true rfl) d_X_action_40 (fun H locs Y => ?_)
  have ne_3 : qa ≠ a := (fp_o.nf oqa oa (by simp))
  have ne_4 : ax ≠ a := (fp_o.nf oax oa (by simp))
  have Y : fp_H D b n A (va_up (va_up f ax (ob 0 [.ref dq, .int 0])) a (ob 7 [.ref fo, .ref co, .ref qa, .int ((nI acn) + 1), .ref qt, .int (nI tcn), .ref kq, .int po, .int dr])) s.heap H locs := Y
  have oqa : fp_o b n (va_up (va_up f ax (ob 0 [.ref dq, .int 0])) a (ob 7 [.ref fo, .ref co, .ref qa, .int ((nI acn) + 1), .ref qt, .int (nI tcn), .ref kq, .int po, .int dr])) qa (aR g 1 16 za) := fp_o.ne oqa ne_3
  have oax : fp_o b n (va_up (va_up f ax (ob 0 [.ref dq, .int 0])) a (ob 7 [.ref fo, .ref co, .ref qa, .int ((nI acn) + 1), .ref qt, .int (nI tcn), .ref kq, .int po, .int dr])) ax (ob 0 [.ref dq, .int 0]) := fp_o.ne oax ne_4
  have oa : fp_o b n (va_up (va_up f ax (ob 0 [.ref dq, .int 0])) a (ob 7 [.ref fo, .ref co, .ref qa, .int ((nI acn) + 1), .ref qt, .int (nI tcn), .ref kq, .int po, .int dr])) a (ob 7 [.ref fo, .ref co, .ref qa, .int ((nI acn) + 1), .ref qt, .int (nI tcn), .ref kq, .int po, .int dr]) := fp_o.up oa
  refine lv_iload_n hx hb d_X_action_43 rfl (lv_at hl 0 rfl) ?_
  exact ret _ _ _ _ _ _ d_X_action_44 ⟨_, rfl, rfl⟩ ⟨rfl, by rw [← nI_1]⟩ Y
set_option maxHeartbeats 4000000 in
set_option maxRecDepth 100000 in
theorem c_X_doing_t1 {l : Launch} {D : va_G} {g : Nat → ClassId} {b n : Nat} {f : Nat → va_E} (hfl : l.flags = flags0) {a fo co qa qt kq : Nat} {ac tc po dr : Int32} {x1 k x y z : Int32} (hbad : k < 0 ∨ 8 < k) (oa : fp_o b n f a (ob 7 [.ref fo, .ref co, .ref qa, .int ac, .ref qt, .int tc, .ref kq, .int po, .int dr]))  : fp_T l D (TY g) b n y_X_doing (fp_ws y_X_doing b_X_doing 6 none) rmT [.ref a, .int x1, .int k, .int x, .int y, .int z] f "java/lang/IllegalArgumentException" := by
  refine fp_ofT (plainFor_of_name (by decide)) (Nat.le_of_ble_eq_true rfl) hfl ?_
  intro p e s m args below meth c Q ls H locs X Y hl hEx htr hno hlocks hq
  have hx := X.1.1
  have hb := X.1.2.1
  have hl : lv_has ls 6 [(0, .ref a), (1, .int x1), (2, .int k), (3, .int x), (4, .int y), (5, .int z)] := hl
  refine lv_iload_n hx hb d_X_doing_0 rfl (lv_at hl 2 rfl) ?_
  refine lv_if_lt (tgt := 10) hx hb d_X_doing_1 (by decide) (fun c_1 => ?_) (fun c_1 => ?_)
  · exact fp_throw (ic := 70) (is := 105) X Y htr (hEx.own (by decide)) w320 w14 (hEx.2.2.1 (105, "no such kind of doing") (by decide)) (by decide +kernel) hno hlocks ⟨by decide, by decide, by decide, by decide⟩ hl.1 d_X_doing_10 d_X_doing_13 d_X_doing_14 d_X_doing_16 d_X_doing_19 hq
  · refine lv_iload_n hx hb d_X_doing_4 rfl (lv_at hl 2 rfl) ?_
    refine lv_bipush (v := 8) hx hb d_X_doing_5 (by decide) ?_
    refine lv_icmp_le (tgt := 20) hx hb d_X_doing_7 (by decide) (fun c_7 => absurd c_7 (Int32.not_le.mpr (hbad.resolve_left c_1))) (fun c_7 => ?_)
    exact fp_throw (ic := 70) (is := 105) X Y htr (hEx.own (by decide)) w320 w14 (hEx.2.2.1 (105, "no such kind of doing") (by decide)) (by decide +kernel) hno hlocks ⟨by decide, by decide, by decide, by decide⟩ hl.1 d_X_doing_10 d_X_doing_13 d_X_doing_14 d_X_doing_16 d_X_doing_19 hq
set_option maxHeartbeats 4000000 in
set_option maxRecDepth 100000 in
theorem c_X_doing_t2 {l : Launch} {D : va_G} {g : Nat → ClassId} {b n : Nat} {f : Nat → va_E} (hfl : l.flags = flags0) {a fo co qa qt kq acn tcn : Nat} {po dr : Int32} {q1 q2 kf : Nat} {z1 z2 : Nat → Int32} {x1 x y z : Int32} {kj : Nat} (hkj : kj < 9) (hbad : q_in x1 (nI acn) = 0 ∨ q_ops kj x y z (nI kf) = 0) (oa : fp_o b n f a (ob 7 [.ref fo, .ref co, .ref qa, .int (nI acn), .ref qt, .int (nI tcn), .ref kq, .int po, .int dr])) (of : fp_o b n f fo (ob 4 [.ref q1, .ref q2, .int (nI kf)])) (o1 : fp_o b n f q1 (aI g 16 z1)) (o2 : fp_o b n f q2 (aI g 16 z2))  : fp_T l D (TY g) b n y_X_doing (fp_ws y_X_doing b_X_doing 6 none) rmT [.ref a, .int x1, .int (nI kj), .int x, .int y, .int z] f "java/lang/IndexOutOfBoundsException" := by
  refine fp_ofT (plainFor_of_name (by decide)) (Nat.le_of_ble_eq_true rfl) hfl ?_
  intro p e s m args below meth c Q ls H locs X Y hl hEx htr hno hlocks hq
  have hx := X.1.1
  have hb := X.1.2.1
  have hl : lv_has ls 6 [(0, .ref a), (1, .int x1), (2, .int (nI kj)), (3, .int x), (4, .int y), (5, .int z)] := hl
  refine lv_iload_n hx hb d_X_doing_0 rfl (lv_at hl 2 rfl) ?_
  refine lv_if_lt (tgt := 10) hx hb d_X_doing_1 (by decide) (fun c_1 => absurd c_1 (nI_pos (by omega))) (fun c_1 => ?_)
  refine lv_iload_n hx hb d_X_doing_4 rfl (lv_at hl 2 rfl) ?_
  refine lv_bipush (v := 8) hx hb d_X_doing_5 (by decide) ?_
  refine lv_icmp_le (tgt := 20) hx hb d_X_doing_7 (by decide) (fun c_7 => ?_) (fun c_7 => absurd (nI_le (b := 8) (by omega) (by decide)) c_7)
  refine lv_aload_n hx hb d_X_doing_20 rfl (lv_at hl 0 rfl) ?_
  refine lv_iload_n hx hb d_X_doing_21 rfl (lv_at hl 1 rfl) ?_
  refine fp_callV (nA := 1) (As := [.int x1]) (rest := []) X Y (c_X_isAction x1 oa) oa rfl w465 w462 w464 wp4 w1 (by decide +kernel) ⟨rfl, rfl⟩ ⟨Nat.le_of_ble_eq_true rfl, Nat.le_of_ble_eq_true rfl⟩ rfl hl.1 rfl (Nat.le_of_ble_eq_true rfl) d_X_doing_22 ⟨Nat.zero_le _, Nat.zero_le _⟩ (fun v9 f9 H locs hp9 Y => ?_)
  obtain ⟨e8, e9⟩ := hp9
  subst e8
  rw [e9] at Y
  refine W.eq (g2 := F0 m 25 ls [.int (q_in x1 (nI acn))]) rfl ?_
  refine lv_if_eq (tgt := 41) hx hb d_X_doing_25 (by decide) (fun c_25 => ?_) (fun c_25 => ?_)
  · exact fp_throw (ic := 94) (is := 114) X Y htr (hEx.own (by decide)) w422 w16 (hEx.2.2.1 (114, "no such action, field, array or datum") (by decide)) (by decide +kernel) hno hlocks ⟨by decide, by decide, by decide, by decide⟩ hl.1 d_X_doing_41 d_X_doing_44 d_X_doing_45 d_X_doing_47 d_X_doing_50 hq
  · refine lv_aload_n hx hb d_X_doing_28 rfl (lv_at hl 0 rfl) ?_
    refine lv_iload_n hx hb d_X_doing_29 rfl (lv_at hl 2 rfl) ?_
    refine lv_iload_n hx hb d_X_doing_30 rfl (lv_at hl 3 rfl) ?_
    refine lv_iload hx hb d_X_doing_31 (lv_at hl 4 rfl) ?_
    refine lv_iload hx hb d_X_doing_33 (lv_at hl 5 rfl) ?_
    refine fp_callV (nA := 4) (As := [.int (nI kj), .int x, .int y, .int z]) (rest := []) X Y (c_X_areOperands x y z hkj oa of o1 o2) oa rfl w469 w466 w468 wp5 w1 (by decide +kernel) ⟨rfl, rfl⟩ ⟨Nat.le_of_ble_eq_true rfl, Nat.le_of_ble_eq_true rfl⟩ rfl hl.1 rfl (Nat.le_of_ble_eq_true rfl) d_X_doing_35 ⟨Nat.zero_le _, Nat.zero_le _⟩ (fun v9 f9 H locs hp9 Y => ?_)
    obtain ⟨e8, e9⟩ := hp9
    subst e8
    rw [e9] at Y
    refine W.eq (g2 := F0 m 38 ls [.int (q_ops kj x y z (nI kf))]) rfl ?_
    refine lv_if_ne (tgt := 51) hx hb d_X_doing_38 (by decide) (fun c_38 => absurd (hbad.resolve_left c_25) c_38) (fun c_38 => ?_)
    exact fp_throw (ic := 94) (is := 114) X Y htr (hEx.own (by decide)) w422 w16 (hEx.2.2.1 (114, "no such action, field, array or datum") (by decide)) (by decide +kernel) hno hlocks ⟨by decide, by decide, by decide, by decide⟩ hl.1 d_X_doing_41 d_X_doing_44 d_X_doing_45 d_X_doing_47 d_X_doing_50 hq
set_option maxHeartbeats 4000000 in
set_option maxRecDepth 100000 in
theorem c_X_doing_t3 {l : Launch} {D : va_G} {g : Nat → ClassId} {b n : Nat} {f : Nat → va_E} (hfl : l.flags = flags0) {a fo co qa qt kq acn tcn : Nat} {po dr : Int32} {q1 q2 kf : Nat} {z1 z2 : Nat → Int32} {ax dq aj dn : Nat} {za zd : Nat → Option Nat} {x y z : Int32} {kj : Nat} (hkj : kj < 9) (haj : aj < acn) (hac : acn ≤ 16) (hza : za aj = some ax) (hops : ¬ q_ops kj x y z (nI kf) = 0) (hfull : ¬ q_full 4 (nI dn) = 0) (oa : fp_o b n f a (ob 7 [.ref fo, .ref co, .ref qa, .int (nI acn), .ref qt, .int (nI tcn), .ref kq, .int po, .int dr])) (of : fp_o b n f fo (ob 4 [.ref q1, .ref q2, .int (nI kf)])) (o1 : fp_o b n f q1 (aI g 16 z1)) (o2 : fp_o b n f q2 (aI g 16 z2)) (oqa : fp_o b n f qa (aR g 1 16 za)) (oax : fp_o b n f ax (ob 0 [.ref dq, .int (nI dn)]))  : fp_T l D (TY g) b n y_X_doing (fp_ws y_X_doing b_X_doing 6 none) rmT [.ref a, .int (nI aj), .int (nI kj), .int x, .int y, .int z] f "java/lang/IllegalStateException" := by
  refine fp_ofT (plainFor_of_name (by decide)) (Nat.le_of_ble_eq_true rfl) hfl ?_
  intro p e s m args below meth c Q ls H locs X Y hl hEx htr hno hlocks hq
  have hx := X.1.1
  have hb := X.1.2.1
  have hl : lv_has ls 6 [(0, .ref a), (1, .int (nI aj)), (2, .int (nI kj)), (3, .int x), (4, .int y), (5, .int z)] := hl
  refine lv_iload_n hx hb d_X_doing_0 rfl (lv_at hl 2 rfl) ?_
  refine lv_if_lt (tgt := 10) hx hb d_X_doing_1 (by decide) (fun c_1 => absurd c_1 (nI_pos (by omega))) (fun c_1 => ?_)
  refine lv_iload_n hx hb d_X_doing_4 rfl (lv_at hl 2 rfl) ?_
  refine lv_bipush (v := 8) hx hb d_X_doing_5 (by decide) ?_
  refine lv_icmp_le (tgt := 20) hx hb d_X_doing_7 (by decide) (fun c_7 => ?_) (fun c_7 => absurd (nI_le (b := 8) (by omega) (by decide)) c_7)
  refine lv_aload_n hx hb d_X_doing_20 rfl (lv_at hl 0 rfl) ?_
  refine lv_iload_n hx hb d_X_doing_21 rfl (lv_at hl 1 rfl) ?_
  refine fp_callV (nA := 1) (As := [.int (nI aj)]) (rest := []) X Y (c_X_isAction (nI aj) oa) oa rfl w465 w462 w464 wp4 w1 (by decide +kernel) ⟨rfl, rfl⟩ ⟨Nat.le_of_ble_eq_true rfl, Nat.le_of_ble_eq_true rfl⟩ rfl hl.1 rfl (Nat.le_of_ble_eq_true rfl) d_X_doing_22 ⟨Nat.zero_le _, Nat.zero_le _⟩ (fun v9 f9 H locs hp9 Y => ?_)
  obtain ⟨e8, e9⟩ := hp9
  subst e8
  rw [e9] at Y
  refine W.eq (g2 := F0 m 25 ls [.int (q_in (nI aj) (nI acn))]) rfl ?_
  refine lv_if_eq (tgt := 41) hx hb d_X_doing_25 (by decide) (fun c_25 => absurd c_25 (by rw [q_in_lt haj (by omega)]; decide)) (fun c_25 => ?_)
  refine lv_aload_n hx hb d_X_doing_28 rfl (lv_at hl 0 rfl) ?_
  refine lv_iload_n hx hb d_X_doing_29 rfl (lv_at hl 2 rfl) ?_
  refine lv_iload_n hx hb d_X_doing_30 rfl (lv_at hl 3 rfl) ?_
  refine lv_iload hx hb d_X_doing_31 (lv_at hl 4 rfl) ?_
  refine lv_iload hx hb d_X_doing_33 (lv_at hl 5 rfl) ?_
  refine fp_callV (nA := 4) (As := [.int (nI kj), .int x, .int y, .int z]) (rest := []) X Y (c_X_areOperands x y z hkj oa of o1 o2) oa rfl w469 w466 w468 wp5 w1 (by decide +kernel) ⟨rfl, rfl⟩ ⟨Nat.le_of_ble_eq_true rfl, Nat.le_of_ble_eq_true rfl⟩ rfl hl.1 rfl (Nat.le_of_ble_eq_true rfl) d_X_doing_35 ⟨Nat.zero_le _, Nat.zero_le _⟩ (fun v9 f9 H locs hp9 Y => ?_)
  obtain ⟨e8, e9⟩ := hp9
  subst e8
  rw [e9] at Y
  refine W.eq (g2 := F0 m 38 ls [.int (q_ops kj x y z (nI kf))]) rfl ?_
  refine lv_if_ne (tgt := 51) hx hb d_X_doing_38 (by decide) (fun c_38 => ?_) (fun c_38 => absurd c_38 hops)
  refine lv_aload_n hx hb d_X_doing_51 rfl (lv_at hl 0 rfl) ?_
  refine fp_get X Y oa rfl in_X 2 (by decide) w193 rfl d_X_doing_52 ?_
  refine lv_iload_n hx hb d_X_doing_55 rfl (lv_at hl 1 rfl) ?_
  refine fp_ald 1 rfl X Y oqa aj rfl (by omega) (by decide) hza d_X_doing_56 ?_
  refine fp_callV (nA := 0) (As := []) (rest := []) X Y (c_A_isFull oax) oax rfl w478 w475 w476 w477 w5 (by decide +kernel) ⟨rfl, rfl⟩ ⟨Nat.le_of_ble_eq_true rfl, Nat.le_of_ble_eq_true rfl⟩ rfl hl.1 rfl (Nat.le_of_ble_eq_true rfl) d_X_doing_57 ⟨Nat.zero_le _, Nat.zero_le _⟩ (fun v9 f9 H locs hp9 Y => ?_)
  obtain ⟨e8, e9⟩ := hp9
  subst e8
  rw [e9] at Y
  refine W.eq (g2 := F0 m 60 ls [.int (q_full 4 (nI dn))]) rfl ?_
  refine lv_if_eq (tgt := 73) hx hb d_X_doing_60 (by decide) (fun c_60 => absurd c_60 hfull) (fun c_60 => ?_)
  exact fp_throw (ic := 81) (is := 117) X Y htr (hEx.own (by decide)) w392 w15 (hEx.2.2.1 (117, "the action has four doings") (by decide)) (by decide +kernel) hno hlocks ⟨by decide, by decide, by decide, by decide⟩ hl.1 d_X_doing_63 d_X_doing_66 d_X_doing_67 d_X_doing_69 d_X_doing_72 hq
set_option maxHeartbeats 4000000 in
set_option maxRecDepth 100000 in
theorem c_X_doing {l : Launch} {D : va_G} {g : Nat → ClassId} {b n : Nat} {A : Nat → Prop} {f : Nat → va_E} {a fo co qa qt kq acn tcn : Nat} {po dr : Int32} {q1 q2 kf : Nat} {z1 z2 : Nat → Int32} {ax dq aj dn : Nat} {za zd : Nat → Option Nat} {d : Nat} {d1 d2 d3 d4 : Int32} {x y z : Int32} {kj : Nat} (hkj : kj < 9) (haj : aj < acn) (hac : acn ≤ 16) (hza : za aj = some ax) (hops : ¬ q_ops kj x y z (nI kf) = 0) (hdn : dn < 4) (hd : zd dn = some d) (oa : fp_o b n f a (ob 7 [.ref fo, .ref co, .ref qa, .int (nI acn), .ref qt, .int (nI tcn), .ref kq, .int po, .int dr])) (of : fp_o b n f fo (ob 4 [.ref q1, .ref q2, .int (nI kf)])) (o1 : fp_o b n f q1 (aI g 16 z1)) (o2 : fp_o b n f q2 (aI g 16 z2)) (oqa : fp_o b n f qa (aR g 1 16 za)) (oax : fp_o b n f ax (ob 0 [.ref dq, .int (nI dn)])) (odq : fp_o b n f dq (aR g 2 4 zd)) (od : fp_o b n f d (ob 2 [.int d1, .int d2, .int d3, .int d4])) (hA : fp_W b n A) : fp_M l D (TY g) b n A y_X_doing (fp_ws y_X_doing b_X_doing 6 none) (rmD 2) [.ref a, .int (nI aj), .int (nI kj), .int x, .int y, .int z] f (fun v f' => v = none ∧ f' = va_up (va_up f d (ob 2 [.int (nI kj), .int x, .int y, .int z])) ax (ob 0 [.ref dq, .int (nI (dn + 1))])) := by
  refine fp_ofV (plainFor_of_name (by decide)) (Nat.le_of_ble_eq_true rfl) ?_
  intro p e s m args below meth c Q ls H locs X Y hl ret
  have hx := X.1.1
  have hb := X.1.2.1
  have hl : lv_has ls 6 [(0, .ref a), (1, .int (nI aj)), (2, .int (nI kj)), (3, .int x), (4, .int y), (5, .int z)] := hl
  refine lv_iload_n hx hb d_X_doing_0 rfl (lv_at hl 2 rfl) ?_
  refine lv_if_lt (tgt := 10) hx hb d_X_doing_1 (by decide) (fun c_1 => absurd c_1 (nI_pos (by omega))) (fun c_1 => ?_)
  refine lv_iload_n hx hb d_X_doing_4 rfl (lv_at hl 2 rfl) ?_
  refine lv_bipush (v := 8) hx hb d_X_doing_5 (by decide) ?_
  refine lv_icmp_le (tgt := 20) hx hb d_X_doing_7 (by decide) (fun c_7 => ?_) (fun c_7 => absurd (nI_le (b := 8) (by omega) (by decide)) c_7)
  refine lv_aload_n hx hb d_X_doing_20 rfl (lv_at hl 0 rfl) ?_
  refine lv_iload_n hx hb d_X_doing_21 rfl (lv_at hl 1 rfl) ?_
  refine fp_callV (nA := 1) (As := [.int (nI aj)]) (rest := []) X Y (c_X_isAction (nI aj) oa) oa rfl w465 w462 w464 wp4 w1 (by decide +kernel) ⟨rfl, rfl⟩ ⟨Nat.le_of_ble_eq_true rfl, Nat.le_of_ble_eq_true rfl⟩ rfl hl.1 rfl (Nat.le_of_ble_eq_true rfl) d_X_doing_22 ⟨Nat.zero_le _, Nat.zero_le _⟩ (fun v9 f9 H locs hp9 Y => ?_)
  obtain ⟨e8, e9⟩ := hp9
  subst e8
  rw [e9] at Y
  refine W.eq (g2 := F0 m 25 ls [.int (q_in (nI aj) (nI acn))]) rfl ?_
  refine lv_if_eq (tgt := 41) hx hb d_X_doing_25 (by decide) (fun c_25 => absurd c_25 (by rw [q_in_lt haj (by omega)]; decide)) (fun c_25 => ?_)
  refine lv_aload_n hx hb d_X_doing_28 rfl (lv_at hl 0 rfl) ?_
  refine lv_iload_n hx hb d_X_doing_29 rfl (lv_at hl 2 rfl) ?_
  refine lv_iload_n hx hb d_X_doing_30 rfl (lv_at hl 3 rfl) ?_
  refine lv_iload hx hb d_X_doing_31 (lv_at hl 4 rfl) ?_
  refine lv_iload hx hb d_X_doing_33 (lv_at hl 5 rfl) ?_
  refine fp_callV (nA := 4) (As := [.int (nI kj), .int x, .int y, .int z]) (rest := []) X Y (c_X_areOperands x y z hkj oa of o1 o2) oa rfl w469 w466 w468 wp5 w1 (by decide +kernel) ⟨rfl, rfl⟩ ⟨Nat.le_of_ble_eq_true rfl, Nat.le_of_ble_eq_true rfl⟩ rfl hl.1 rfl (Nat.le_of_ble_eq_true rfl) d_X_doing_35 ⟨Nat.zero_le _, Nat.zero_le _⟩ (fun v9 f9 H locs hp9 Y => ?_)
  obtain ⟨e8, e9⟩ := hp9
  subst e8
  rw [e9] at Y
  refine W.eq (g2 := F0 m 38 ls [.int (q_ops kj x y z (nI kf))]) rfl ?_
  refine lv_if_ne (tgt := 51) hx hb d_X_doing_38 (by decide) (fun c_38 => ?_) (fun c_38 => absurd c_38 hops)
  refine lv_aload_n hx hb d_X_doing_51 rfl (lv_at hl 0 rfl) ?_
  refine fp_get X Y oa rfl in_X 2 (by decide) w193 rfl d_X_doing_52 ?_
  refine lv_iload_n hx hb d_X_doing_55 rfl (lv_at hl 1 rfl) ?_
  refine fp_ald 1 rfl X Y oqa aj rfl (by omega) (by decide) hza d_X_doing_56 ?_
  refine fp_callV (nA := 0) (As := []) (rest := []) X Y (c_A_isFull oax) oax rfl w478 w475 w476 w477 w5 (by decide +kernel) ⟨rfl, rfl⟩ ⟨Nat.le_of_ble_eq_true rfl, Nat.le_of_ble_eq_true rfl⟩ rfl hl.1 rfl (Nat.le_of_ble_eq_true rfl) d_X_doing_57 ⟨Nat.zero_le _, Nat.zero_le _⟩ (fun v9 f9 H locs hp9 Y => ?_)
  obtain ⟨e8, e9⟩ := hp9
  subst e8
  rw [e9] at Y
  refine W.eq (g2 := F0 m 60 ls [.int (q_full 4 (nI dn))]) rfl ?_
  refine lv_if_eq (tgt := 73) hx hb d_X_doing_60 (by decide) (fun c_60 => ?_) (fun c_60 => absurd (q_full_lt hdn (by decide)) c_60)
  refine lv_aload_n hx hb d_X_doing_73 rfl (lv_at hl 0 rfl) ?_
  refine fp_get X Y oa rfl in_X 2 (by decide) w193 rfl d_X_doing_74 ?_
  refine lv_iload_n hx hb d_X_doing_77 rfl (lv_at hl 1 rfl) ?_
  refine fp_ald 1 rfl X Y oqa aj rfl (by omega) (by decide) hza d_X_doing_78 ?_
  refine lv_iload_n hx hb d_X_doing_79 rfl (lv_at hl 2 rfl) ?_
  refine lv_iload_n hx hb d_X_doing_80 rfl (lv_at hl 3 rfl) ?_
  refine lv_iload hx hb d_X_doing_81 (lv_at hl 4 rfl) ?_
  refine lv_iload hx hb d_X_doing_83 (lv_at hl 5 rfl) ?_
  refine fp_callV (nA := 4) (As := [.int (nI kj), .int x, .int y, .int z]) (rest := []) X Y (c_A_add (nI kj) x y z hdn hd oax odq od) oax rfl w483 w480 w481 w482 w5 (by decide +kernel) ⟨rfl, rfl⟩ ⟨Nat.le_of_ble_eq_true rfl, Nat.le_of_ble_eq_true rfl⟩ rfl hl.1 rfl (Nat.le_of_ble_eq_true rfl) d_X_doing_85 ⟨Nat.zero_le _, Nat.zero_le _⟩ (fun v9 f9 H locs hp9 Y => ?_)
  obtain ⟨e8, e9⟩ := hp9
  subst e8
  rw [e9] at Y
  refine W.eq (g2 := F0 m 88 ls []) rfl ?_
  exact ret _ _ _ _ _ d_X_doing_88 ⟨rfl, rfl⟩ Y
set_option maxHeartbeats 4000000 in
set_option maxRecDepth 100000 in
theorem c_X_table_t1 {l : Launch} {D : va_G} {g : Nat → ClassId} {b n : Nat} {f : Nat → va_E} (hfl : l.flags = flags0) {a fo co qa qt kq acn tcn : Nat} {po dr : Int32} {q1 q2 kf : Nat} {z1 z2 : Nat → Int32} {x1 x2 x3 x4 x5 : Int32} (hbad : q_kf x1 x2 (nI kf) = 0 ∨ q_ac x4 x5 (nI acn) = 0) (oa : fp_o b n f a (ob 7 [.ref fo, .ref co, .ref qa, .int (nI acn), .ref qt, .int (nI tcn), .ref kq, .int po, .int dr])) (of : fp_o b n f fo (ob 4 [.ref q1, .ref q2, .int (nI kf)])) (o1 : fp_o b n f q1 (aI g 16 z1)) (o2 : fp_o b n f q2 (aI g 16 z2))  : fp_T l D (TY g) b n y_X_table (fp_ws y_X_table b_X_table 8 (some FieldType.int)) rmT [.ref a, .int x1, .int x2, .int x3, .int x4, .int x5] f "java/lang/IndexOutOfBoundsException" := by
  refine fp_ofT (plainFor_of_name (by decide)) (Nat.le_of_ble_eq_true rfl) hfl ?_
  intro p e s m args below meth c Q ls H locs X Y hl hEx htr hno hlocks hq
  have hx := X.1.1
  have hb := X.1.2.1
  have hl : lv_has ls 8 [(0, .ref a), (1, .int x1), (2, .int x2), (3, .int x3), (4, .int x4), (5, .int x5)] := hl
  refine lv_aload_n hx hb d_X_table_0 rfl (lv_at hl 0 rfl) ?_
  refine lv_iload_n hx hb d_X_table_1 rfl (lv_at hl 1 rfl) ?_
  refine lv_iload_n hx hb d_X_table_2 rfl (lv_at hl 2 rfl) ?_
  refine fp_callV (nA := 2) (As := [.int x1, .int x2]) (rest := []) X Y (c_X_areKeyFields x1 x2 oa of o1 o2) oa rfl w495 w492 w494 wp6 w1 (by decide +kernel) ⟨rfl, rfl⟩ ⟨Nat.le_of_ble_eq_true rfl, Nat.le_of_ble_eq_true rfl⟩ rfl hl.1 rfl (Nat.le_of_ble_eq_true rfl) d_X_table_3 ⟨Nat.zero_le _, Nat.zero_le _⟩ (fun v9 f9 H locs hp9 Y => ?_)
  obtain ⟨e8, e9⟩ := hp9
  subst e8
  rw [e9] at Y
  refine W.eq (g2 := F0 m 6 ls [.int (q_kf x1 x2 (nI kf))]) rfl ?_
  refine lv_if_eq (tgt := 20) hx hb d_X_table_6 (by decide) (fun c_6 => ?_) (fun c_6 => ?_)
  · exact fp_throw (ic := 94) (is := 128) X Y htr (hEx.own (by decide)) w422 w16 (hEx.2.2.1 (128, "no such fields or actions") (by decide)) (by decide +kernel) hno hlocks ⟨by decide, by decide, by decide, by decide⟩ hl.1 d_X_table_20 d_X_table_23 d_X_table_24 d_X_table_26 d_X_table_29 hq
  · refine lv_aload_n hx hb d_X_table_9 rfl (lv_at hl 0 rfl) ?_
    refine lv_iload hx hb d_X_table_10 (lv_at hl 4 rfl) ?_
    refine lv_iload hx hb d_X_table_12 (lv_at hl 5 rfl) ?_
    refine fp_callV (nA := 2) (As := [.int x4, .int x5]) (rest := []) X Y (c_X_areActions x4 x5 oa) oa rfl w499 w496 w498 wp7 w1 (by decide +kernel) ⟨rfl, rfl⟩ ⟨Nat.le_of_ble_eq_true rfl, Nat.le_of_ble_eq_true rfl⟩ rfl hl.1 rfl (Nat.le_of_ble_eq_true rfl) d_X_table_14 ⟨Nat.zero_le _, Nat.zero_le _⟩ (fun v9 f9 H locs hp9 Y => ?_)
    obtain ⟨e8, e9⟩ := hp9
    subst e8
    rw [e9] at Y
    refine W.eq (g2 := F0 m 17 ls [.int (q_ac x4 x5 (nI acn))]) rfl ?_
    refine lv_if_ne (tgt := 30) hx hb d_X_table_17 (by decide) (fun c_17 => absurd (hbad.resolve_left c_6) c_17) (fun c_17 => ?_)
    exact fp_throw (ic := 94) (is := 128) X Y htr (hEx.own (by decide)) w422 w16 (hEx.2.2.1 (128, "no such fields or actions") (by decide)) (by decide +kernel) hno hlocks ⟨by decide, by decide, by decide, by decide⟩ hl.1 d_X_table_20 d_X_table_23 d_X_table_24 d_X_table_26 d_X_table_29 hq
set_option maxHeartbeats 4000000 in
set_option maxRecDepth 100000 in
theorem c_X_table_t2 {l : Launch} {D : va_G} {g : Nat → ClassId} {b n : Nat} {f : Nat → va_E} (hfl : l.flags = flags0) {a fo co qa qt kq acn tcn : Nat} {po dr : Int32} {q1 q2 kf : Nat} {z1 z2 : Nat → Int32} {x1 x2 x3 x4 x5 : Int32} (hkf : ¬ q_kf x1 x2 (nI kf) = 0) (hac : ¬ q_ac x4 x5 (nI acn) = 0) (hhw : q_hw x3 x2 = 0) (oa : fp_o b n f a (ob 7 [.ref fo, .ref co, .ref qa, .int (nI acn), .ref qt, .int (nI tcn), .ref kq, .int po, .int dr])) (of : fp_o b n f fo (ob 4 [.ref q1, .ref q2, .int (nI kf)])) (o1 : fp_o b n f q1 (aI g 16 z1)) (o2 : fp_o b n f q2 (aI g 16 z2))  : fp_T l D (TY g) b n y_X_table (fp_ws y_X_table b_X_table 8 (some FieldType.int)) rmT [.ref a, .int x1, .int x2, .int x3, .int x4, .int x5] f "java/lang/IllegalArgumentException" := by
  refine fp_ofT (plainFor_of_name (by decide)) (Nat.le_of_ble_eq_true rfl) hfl ?_
  intro p e s m args below meth c Q ls H locs X Y hl hEx htr hno hlocks hq
  have hx := X.1.1
  have hb := X.1.2.1
  have hl : lv_has ls 8 [(0, .ref a), (1, .int x1), (2, .int x2), (3, .int x3), (4, .int x4), (5, .int x5)] := hl
  refine lv_aload_n hx hb d_X_table_0 rfl (lv_at hl 0 rfl) ?_
  refine lv_iload_n hx hb d_X_table_1 rfl (lv_at hl 1 rfl) ?_
  refine lv_iload_n hx hb d_X_table_2 rfl (lv_at hl 2 rfl) ?_
  refine fp_callV (nA := 2) (As := [.int x1, .int x2]) (rest := []) X Y (c_X_areKeyFields x1 x2 oa of o1 o2) oa rfl w495 w492 w494 wp6 w1 (by decide +kernel) ⟨rfl, rfl⟩ ⟨Nat.le_of_ble_eq_true rfl, Nat.le_of_ble_eq_true rfl⟩ rfl hl.1 rfl (Nat.le_of_ble_eq_true rfl) d_X_table_3 ⟨Nat.zero_le _, Nat.zero_le _⟩ (fun v9 f9 H locs hp9 Y => ?_)
  obtain ⟨e8, e9⟩ := hp9
  subst e8
  rw [e9] at Y
  refine W.eq (g2 := F0 m 6 ls [.int (q_kf x1 x2 (nI kf))]) rfl ?_
  refine lv_if_eq (tgt := 20) hx hb d_X_table_6 (by decide) (fun c_6 => absurd c_6 hkf) (fun c_6 => ?_)
  refine lv_aload_n hx hb d_X_table_9 rfl (lv_at hl 0 rfl) ?_
  refine lv_iload hx hb d_X_table_10 (lv_at hl 4 rfl) ?_
  refine lv_iload hx hb d_X_table_12 (lv_at hl 5 rfl) ?_
  refine fp_callV (nA := 2) (As := [.int x4, .int x5]) (rest := []) X Y (c_X_areActions x4 x5 oa) oa rfl w499 w496 w498 wp7 w1 (by decide +kernel) ⟨rfl, rfl⟩ ⟨Nat.le_of_ble_eq_true rfl, Nat.le_of_ble_eq_true rfl⟩ rfl hl.1 rfl (Nat.le_of_ble_eq_true rfl) d_X_table_14 ⟨Nat.zero_le _, Nat.zero_le _⟩ (fun v9 f9 H locs hp9 Y => ?_)
  obtain ⟨e8, e9⟩ := hp9
  subst e8
  rw [e9] at Y
  refine W.eq (g2 := F0 m 17 ls [.int (q_ac x4 x5 (nI acn))]) rfl ?_
  refine lv_if_ne (tgt := 30) hx hb d_X_table_17 (by decide) (fun c_17 => ?_) (fun c_17 => absurd c_17 hac)
  refine lv_iload_n hx hb d_X_table_30 rfl (lv_at hl 3 rfl) ?_
  refine lv_iload_n hx hb d_X_table_31 rfl (lv_at hl 2 rfl) ?_
  refine fp_callS (nA := 2) (As := [.int x3, .int x2]) (rest := []) X Y (c_X_isHow x3 x2) w503 w501 w502 w1 (by decide +kernel) ⟨rfl, rfl⟩ ⟨Nat.le_of_ble_eq_true rfl, Nat.le_of_ble_eq_true rfl⟩ rfl hl.1 rfl (Nat.le_of_ble_eq_true rfl) d_X_table_32 ⟨Nat.zero_le _, Nat.zero_le _⟩ (fun v9 f9 H locs hp9 Y => ?_)
  obtain ⟨e8, e9⟩ := hp9
  subst e8
  rw [e9] at Y
  refine W.eq (g2 := F0 m 35 ls [.int (q_hw x3 x2)]) rfl ?_
  refine lv_if_ne (tgt := 48) hx hb d_X_table_35 (by decide) (fun c_35 => absurd hhw c_35) (fun c_35 => ?_)
  exact fp_throw (ic := 70) (is := 133) X Y htr (hEx.own (by decide)) w320 w14 (hEx.2.2.1 (133, "no such way to match the keys") (by decide)) (by decide +kernel) hno hlocks ⟨by decide, by decide, by decide, by decide⟩ hl.1 d_X_table_38 d_X_table_41 d_X_table_42 d_X_table_44 d_X_table_47 hq
set_option maxHeartbeats 4000000 in
set_option maxRecDepth 100000 in
theorem c_X_table_t3 {l : Launch} {D : va_G} {g : Nat → ClassId} {b n : Nat} {f : Nat → va_E} (hfl : l.flags = flags0) {a fo co qa qt kq acn tcn : Nat} {po dr : Int32} {q1 q2 kf : Nat} {z1 z2 : Nat → Int32} {x1 x2 x3 x4 x5 : Int32} (hkf : ¬ q_kf x1 x2 (nI kf) = 0) (hac : ¬ q_ac x4 x5 (nI acn) = 0) (hhw : ¬ q_hw x3 x2 = 0) (hfull : ¬ nI tcn < 8) (oa : fp_o b n f a (ob 7 [.ref fo, .ref co, .ref qa, .int (nI acn), .ref qt, .int (nI tcn), .ref kq, .int po, .int dr])) (of : fp_o b n f fo (ob 4 [.ref q1, .ref q2, .int (nI kf)])) (o1 : fp_o b n f q1 (aI g 16 z1)) (o2 : fp_o b n f q2 (aI g 16 z2))  : fp_T l D (TY g) b n y_X_table (fp_ws y_X_table b_X_table 8 (some FieldType.int)) rmT [.ref a, .int x1, .int x2, .int x3, .int x4, .int x5] f "java/lang/IllegalStateException" := by
  refine fp_ofT (plainFor_of_name (by decide)) (Nat.le_of_ble_eq_true rfl) hfl ?_
  intro p e s m args below meth c Q ls H locs X Y hl hEx htr hno hlocks hq
  have hx := X.1.1
  have hb := X.1.2.1
  have hl : lv_has ls 8 [(0, .ref a), (1, .int x1), (2, .int x2), (3, .int x3), (4, .int x4), (5, .int x5)] := hl
  refine lv_aload_n hx hb d_X_table_0 rfl (lv_at hl 0 rfl) ?_
  refine lv_iload_n hx hb d_X_table_1 rfl (lv_at hl 1 rfl) ?_
  refine lv_iload_n hx hb d_X_table_2 rfl (lv_at hl 2 rfl) ?_
  refine fp_callV (nA := 2) (As := [.int x1, .int x2]) (rest := []) X Y (c_X_areKeyFields x1 x2 oa of o1 o2) oa rfl w495 w492 w494 wp6 w1 (by decide +kernel) ⟨rfl, rfl⟩ ⟨Nat.le_of_ble_eq_true rfl, Nat.le_of_ble_eq_true rfl⟩ rfl hl.1 rfl (Nat.le_of_ble_eq_true rfl) d_X_table_3 ⟨Nat.zero_le _, Nat.zero_le _⟩ (fun v9 f9 H locs hp9 Y => ?_)
  obtain ⟨e8, e9⟩ := hp9
  subst e8
  rw [e9] at Y
  refine W.eq (g2 := F0 m 6 ls [.int (q_kf x1 x2 (nI kf))]) rfl ?_
  refine lv_if_eq (tgt := 20) hx hb d_X_table_6 (by decide) (fun c_6 => absurd c_6 hkf) (fun c_6 => ?_)
  refine lv_aload_n hx hb d_X_table_9 rfl (lv_at hl 0 rfl) ?_
  refine lv_iload hx hb d_X_table_10 (lv_at hl 4 rfl) ?_
  refine lv_iload hx hb d_X_table_12 (lv_at hl 5 rfl) ?_
  refine fp_callV (nA := 2) (As := [.int x4, .int x5]) (rest := []) X Y (c_X_areActions x4 x5 oa) oa rfl w499 w496 w498 wp7 w1 (by decide +kernel) ⟨rfl, rfl⟩ ⟨Nat.le_of_ble_eq_true rfl, Nat.le_of_ble_eq_true rfl⟩ rfl hl.1 rfl (Nat.le_of_ble_eq_true rfl) d_X_table_14 ⟨Nat.zero_le _, Nat.zero_le _⟩ (fun v9 f9 H locs hp9 Y => ?_)
  obtain ⟨e8, e9⟩ := hp9
  subst e8
  rw [e9] at Y
  refine W.eq (g2 := F0 m 17 ls [.int (q_ac x4 x5 (nI acn))]) rfl ?_
  refine lv_if_ne (tgt := 30) hx hb d_X_table_17 (by decide) (fun c_17 => ?_) (fun c_17 => absurd c_17 hac)
  refine lv_iload_n hx hb d_X_table_30 rfl (lv_at hl 3 rfl) ?_
  refine lv_iload_n hx hb d_X_table_31 rfl (lv_at hl 2 rfl) ?_
  refine fp_callS (nA := 2) (As := [.int x3, .int x2]) (rest := []) X Y (c_X_isHow x3 x2) w503 w501 w502 w1 (by decide +kernel) ⟨rfl, rfl⟩ ⟨Nat.le_of_ble_eq_true rfl, Nat.le_of_ble_eq_true rfl⟩ rfl hl.1 rfl (Nat.le_of_ble_eq_true rfl) d_X_table_32 ⟨Nat.zero_le _, Nat.zero_le _⟩ (fun v9 f9 H locs hp9 Y => ?_)
  obtain ⟨e8, e9⟩ := hp9
  subst e8
  rw [e9] at Y
  refine W.eq (g2 := F0 m 35 ls [.int (q_hw x3 x2)]) rfl ?_
  refine lv_if_ne (tgt := 48) hx hb d_X_table_35 (by decide) (fun c_35 => ?_) (fun c_35 => absurd c_35 hhw)
  refine lv_aload_n hx hb d_X_table_48 rfl (lv_at hl 0 rfl) ?_
  refine fp_get X Y oa rfl in_X 5 (by decide) w196 rfl d_X_table_49 ?_
  refine lv_bipush (v := 8) hx hb d_X_table_52 (by decide) ?_
  refine lv_icmp_lt (tgt := 67) hx hb d_X_table_54 (by decide) (fun c_54 => absurd c_54 hfull) (fun c_54 => ?_)
  exact fp_throw (ic := 81) (is := 135) X Y htr (hEx.own (by decide)) w392 w15 (hEx.2.2.1 (135, "there are 8 tables") (by decide)) (by decide +kernel) hno hlocks ⟨by decide, by decide, by decide, by decide⟩ hl.1 d_X_table_57 d_X_table_60 d_X_table_61 d_X_table_63 d_X_table_66 hq
set_option maxHeartbeats 4000000 in
set_option maxRecDepth 100000 in
theorem c_X_table {l : Launch} {D : va_G} {g : Nat → ClassId} {b n : Nat} {A : Nat → Prop} {f : Nat → va_E} {a fo co qa qt kq acn tcn : Nat} {po dr : Int32} {q1 q2 kf : Nat} {z1 z2 : Nat → Int32} {x1 x2 x3 x4 x5 : Int32} {t r sq : Nat} {cn xf xg hF hG oF oG al ms : Int32} {zt : Nat → Option Nat} (hk : kf ≤ 16) (hkf : ¬ q_kf x1 x2 (nI kf) = 0) (hac : ¬ q_ac x4 x5 (nI acn) = 0) (hhw : ¬ q_hw x3 x2 = 0) (htc : tcn < 8) (hzt : zt tcn = some t) (oa : fp_o b n f a (ob 7 [.ref fo, .ref co, .ref qa, .int (nI acn), .ref qt, .int (nI tcn), .ref kq, .int po, .int dr])) (of : fp_o b n f fo (ob 4 [.ref q1, .ref q2, .int (nI kf)])) (o1 : fp_o b n f q1 (aI g 16 z1)) (o2 : fp_o b n f q2 (aI g 16 z2)) (oqt : fp_o b n f qt (aR g 4 8 zt)) (ot : fp_o b n f t (ob 6 [.ref r, .int cn, .int xf, .int xg, .int hF, .int hG, .int oF, .int oG, .int al, .int ms, .ref sq]))  (hA : fp_W b n A := by assumption) : fp_M l D (TY g) b n A y_X_table (fp_ws y_X_table b_X_table 8 (some FieldType.int)) (rmD 2) [.ref a, .int x1, .int x2, .int x3, .int x4, .int x5] f (fun v f' => v = some (.int (nI tcn)) ∧ f' = va_up (va_up f t (ob 6 [.ref r, .int 0, .int x1, .int x2, .int (x3 &&& 3), .int (x3 >>> ((2 : Int32) &&& 31)), .int (q_at z1 x1 (nI kf)), .int (q_at z1 x2 (nI kf)), .int x4, .int x5, .ref sq])) a (ob 7 [.ref fo, .ref co, .ref qa, .int (nI acn), .ref qt, .int (nI (tcn + 1)), .ref kq, .int po, .int dr])) := by
  refine fp_ofI (plainFor_of_name (by decide)) (Nat.le_of_ble_eq_true rfl) ?_
  intro p e s m args below meth c Q ls H locs X Y hl ret
  have hx := X.1.1
  have hb := X.1.2.1
  have hl : lv_has ls 8 [(0, .ref a), (1, .int x1), (2, .int x2), (3, .int x3), (4, .int x4), (5, .int x5)] := hl
  refine lv_aload_n hx hb d_X_table_0 rfl (lv_at hl 0 rfl) ?_
  refine lv_iload_n hx hb d_X_table_1 rfl (lv_at hl 1 rfl) ?_
  refine lv_iload_n hx hb d_X_table_2 rfl (lv_at hl 2 rfl) ?_
  refine fp_callV (nA := 2) (As := [.int x1, .int x2]) (rest := []) X Y (c_X_areKeyFields x1 x2 oa of o1 o2) oa rfl w495 w492 w494 wp6 w1 (by decide +kernel) ⟨rfl, rfl⟩ ⟨Nat.le_of_ble_eq_true rfl, Nat.le_of_ble_eq_true rfl⟩ rfl hl.1 rfl (Nat.le_of_ble_eq_true rfl) d_X_table_3 ⟨Nat.zero_le _, Nat.zero_le _⟩ (fun v9 f9 H locs hp9 Y => ?_)
  obtain ⟨e8, e9⟩ := hp9
  subst e8
  rw [e9] at Y
  refine W.eq (g2 := F0 m 6 ls [.int (q_kf x1 x2 (nI kf))]) rfl ?_
  refine lv_if_eq (tgt := 20) hx hb d_X_table_6 (by decide) (fun c_6 => absurd c_6 hkf) (fun c_6 => ?_)
  refine lv_aload_n hx hb d_X_table_9 rfl (lv_at hl 0 rfl) ?_
  refine lv_iload hx hb d_X_table_10 (lv_at hl 4 rfl) ?_
  refine lv_iload hx hb d_X_table_12 (lv_at hl 5 rfl) ?_
  refine fp_callV (nA := 2) (As := [.int x4, .int x5]) (rest := []) X Y (c_X_areActions x4 x5 oa) oa rfl w499 w496 w498 wp7 w1 (by decide +kernel) ⟨rfl, rfl⟩ ⟨Nat.le_of_ble_eq_true rfl, Nat.le_of_ble_eq_true rfl⟩ rfl hl.1 rfl (Nat.le_of_ble_eq_true rfl) d_X_table_14 ⟨Nat.zero_le _, Nat.zero_le _⟩ (fun v9 f9 H locs hp9 Y => ?_)
  obtain ⟨e8, e9⟩ := hp9
  subst e8
  rw [e9] at Y
  refine W.eq (g2 := F0 m 17 ls [.int (q_ac x4 x5 (nI acn))]) rfl ?_
  refine lv_if_ne (tgt := 30) hx hb d_X_table_17 (by decide) (fun c_17 => ?_) (fun c_17 => absurd c_17 hac)
  refine lv_iload_n hx hb d_X_table_30 rfl (lv_at hl 3 rfl) ?_
  refine lv_iload_n hx hb d_X_table_31 rfl (lv_at hl 2 rfl) ?_
  refine fp_callS (nA := 2) (As := [.int x3, .int x2]) (rest := []) X Y (c_X_isHow x3 x2) w503 w501 w502 w1 (by decide +kernel) ⟨rfl, rfl⟩ ⟨Nat.le_of_ble_eq_true rfl, Nat.le_of_ble_eq_true rfl⟩ rfl hl.1 rfl (Nat.le_of_ble_eq_true rfl) d_X_table_32 ⟨Nat.zero_le _, Nat.zero_le _⟩ (fun v9 f9 H locs hp9 Y => ?_)
  obtain ⟨e8, e9⟩ := hp9
  subst e8
  rw [e9] at Y
  refine W.eq (g2 := F0 m 35 ls [.int (q_hw x3 x2)]) rfl ?_
  refine lv_if_ne (tgt := 48) hx hb d_X_table_35 (by decide) (fun c_35 => ?_) (fun c_35 => absurd c_35 hhw)
  refine lv_aload_n hx hb d_X_table_48 rfl (lv_at hl 0 rfl) ?_
  refine fp_get X Y oa rfl in_X 5 (by decide) w196 rfl d_X_table_49 ?_
  refine lv_bipush (v := 8) hx hb d_X_table_52 (by decide) ?_
  refine lv_icmp_lt (tgt := 67) hx hb d_X_table_54 (by decide) (fun c_54 => ?_) (fun c_54 => absurd (nI_lt (b := 8) htc (by decide)) c_54)
  refine lv_aload_n hx hb d_X_table_67 rfl (lv_at hl 0 rfl) ?_
  refine fp_get X Y oa rfl in_X 5 (by decide) w196 rfl d_X_table_68 ?_
  refine lv_istore (lv' := [(6, .int (nI tcn)), (0, .ref a), (1, .int x1), (2, .int x2), (3, .int x3), (4, .int x4), (5, .int x5)]) hx hb d_X_table_71 hl (by decide) rfl (fun ls hl => ?_)
  refine lv_aload_n hx hb d_X_table_73 rfl (lv_at hl 1 rfl) ?_
  refine fp_get X Y oa rfl in_X 4 (by decide) w195 rfl d_X_table_74 ?_
  refine lv_iload hx hb d_X_table_77 (lv_at hl 0 rfl) ?_
  refine fp_ald 4 rfl X Y oqt tcn rfl htc (by decide) hzt d_X_table_79 ?_
  refine lv_astore (lv' := [(7, .ref t), (6, .int (nI tcn)), (0, .ref a), (1, .int x1), (2, .int x2), (3, .int x3), (4, .int x4), (5, .int x5)]) hx hb d_X_table_80 hl (by decide) rfl (fun ls hl => ?_)
  refine lv_aload hx hb d_X_table_82 (lv_at hl 0 rfl) ?_
  refine lv_iload_n hx hb d_X_table_84 rfl (lv_at hl 3 rfl) ?_
  refine lv_iload_n hx hb d_X_table_85 rfl (lv_at hl 4 rfl) ?_
  refine lv_iload_n hx hb d_X_table_86 rfl (lv_at hl 5 rfl) ?_
  refine lv_iconst (v := 3) hx hb d_X_table_87 (by decide) ?_
  refine lv_iand hx hb d_X_table_88 ?_
  refine lv_iload_n hx hb d_X_table_89 rfl (lv_at hl 5 rfl) ?_
  refine lv_iconst (v := 2) hx hb d_X_table_90 (by decide) ?_
  refine lv_ishr hx hb d_X_table_91 ?_
  refine fp_callV (nA := 4) (As := [.int x1, .int x2, .int (x3 &&& 3), .int (x3 >>> (2 &&& 31))]) (rest := []) X Y (c_T_matchKeys x1 x2 (x3 &&& 3) (x3 >>> (2 &&& 31)) ot) ot rfl w509 w506 w507 w508 w7 (by decide +kernel) ⟨rfl, rfl⟩ ⟨Nat.le_of_ble_eq_true rfl, Nat.le_of_ble_eq_true rfl⟩ rfl hl.1 rfl (Nat.le_of_ble_eq_true rfl) d_X_table_92 ⟨Nat.zero_le _, Nat.zero_le _⟩ (fun v9 f9 H locs hp9 Y => ?_)
  obtain ⟨e8, e9⟩ := hp9
  subst e8
  rw [e9] at Y
  have ne_1 : a ≠ t := (fp_o.nf oa ot (by simp))
  have ne_2 : fo ≠ t := (fp_o.nf of ot (by simp))
  have ne_3 : q1 ≠ t := (fp_o.nf o1 ot (by simp))
  have ne_4 : q2 ≠ t := (fp_o.nf o2 ot (by simp))
  have ne_5 : qt ≠ t := (fp_o.nf oqt ot (by simp))
  have Y : fp_H D b n A (va_up f t (ob 6 [.ref r, .int 0, .int x1, .int x2, .int (x3 &&& 3), .int (x3 >>> (2 &&& 31)), .int oF, .int oG, .int al, .int ms, .ref sq])) s.heap H locs := Y
  have oa : fp_o b n (va_up f t (ob 6 [.ref r, .int 0, .int x1, .int x2, .int (x3 &&& 3), .int (x3 >>> (2 &&& 31)), .int oF, .int oG, .int al, .int ms, .ref sq])) a (ob 7 [.ref fo, .ref co, .ref qa, .int (nI acn), .ref qt, .int (nI tcn), .ref kq, .int po, .int dr]) := fp_o.ne oa ne_1
  have of : fp_o b n (va_up f t (ob 6 [.ref r, .int 0, .int x1, .int x2, .int (x3 &&& 3), .int (x3 >>> (2 &&& 31)), .int oF, .int oG, .int al, .int ms, .ref sq])) fo (ob 4 [.ref q1, .ref q2, .int (nI kf)]) := fp_o.ne of ne_2
  have o1 : fp_o b n (va_up f t (ob 6 [.ref r, .int 0, .int x1, .int x2, .int (x3 &&& 3), .int (x3 >>> (2 &&& 31)), .int oF, .int oG, .int al, .int ms, .ref sq])) q1 (aI g 16 z1) := fp_o.ne o1 ne_3
  have o2 : fp_o b n (va_up f t (ob 6 [.ref r, .int 0, .int x1, .int x2, .int (x3 &&& 3), .int (x3 >>> (2 &&& 31)), .int oF, .int oG, .int al, .int ms, .ref sq])) q2 (aI g 16 z2) := fp_o.ne o2 ne_4
  have oqt : fp_o b n (va_up f t (ob 6 [.ref r, .int 0, .int x1, .int x2, .int (x3 &&& 3), .int (x3 >>> (2 &&& 31)), .int oF, .int oG, .int al, .int ms, .ref sq])) qt (aR g 4 8 zt) := fp_o.ne oqt ne_5
  have ot : fp_o b n (va_up f t (ob 6 [.ref r, .int 0, .int x1, .int x2, .int (x3 &&& 3), .int (x3 >>> (2 &&& 31)), .int oF, .int oG, .int al, .int ms, .ref sq])) t (ob 6 [.ref r, .int 0, .int x1, .int x2, .int (x3 &&& 3), .int (x3 >>> (2 &&& 31)), .int oF, .int oG, .int al, .int ms, .ref sq]) := fp_o.up ot
  refine W.eq (g2 := F0 m 95 ls []) rfl ?_
  refine lv_aload hx hb d_X_table_95 (lv_at hl 0 rfl) ?_
  refine lv_aload_n hx hb d_X_table_97 rfl (lv_at hl 2 rfl) ?_
  refine fp_get X Y oa rfl in_X 0 (by decide) w191 rfl d_X_table_98 ?_
  refine lv_iload_n hx hb d_X_table_101 rfl (lv_at hl 3 rfl) ?_
  refine fp_callV (nA := 1) (As := [.int x1]) (rest := [.ref t]) X Y (c_F_onesOf x1 hk of o1 o2) of rfl w513 w510 w511 w512 w2 (by decide +kernel) ⟨rfl, rfl⟩ ⟨Nat.le_of_ble_eq_true rfl, Nat.le_of_ble_eq_true rfl⟩ rfl hl.1 rfl (Nat.le_of_ble_eq_true rfl) d_X_table_102 ⟨Nat.zero_le _, Nat.zero_le _⟩ (fun v9 f9 H locs hp9 Y => ?_)
  obtain ⟨e8, e9⟩ := hp9
  subst e8
  rw [e9] at Y
  refine W.eq (g2 := F0 m 105 ls [.int (q_at z1 x1 (nI kf)), .ref t]) rfl ?_
  refine lv_aload_n hx hb d_X_table_105 rfl (lv_at hl 2 rfl) ?_
  refine fp_get X Y oa rfl in_X 0 (by decide) w191 rfl d_X_table_106 ?_
  refine lv_iload_n hx hb d_X_table_109 rfl (lv_at hl 4 rfl) ?_
  refine fp_callV (nA := 1) (As := [.int x2]) (rest := [.int (q_at z1 x1 (nI kf)), .ref t]) X Y (c_F_onesOf x2 hk of o1 o2) of rfl w513 w510 w511 w512 w2 (by decide +kernel) ⟨rfl, rfl⟩ ⟨Nat.le_of_ble_eq_true rfl, Nat.le_of_ble_eq_true rfl⟩ rfl hl.1 rfl (Nat.le_of_ble_eq_true rfl) d_X_table_110 ⟨Nat.zero_le _, Nat.zero_le _⟩ (fun v9 f9 H locs hp9 Y => ?_)
  obtain ⟨e8, e9⟩ := hp9
  subst e8
  rw [e9] at Y
  refine W.eq (g2 := F0 m 113 ls [.int (q_at z1 x2 (nI kf)), .int (q_at z1 x1 (nI kf)), .ref t]) rfl ?_
  refine fp_callV (nA := 2) (As := [.int (q_at z1 x1 (nI kf)), .int (q_at z1 x2 (nI kf))]) (rest := []) X Y (c_T_cutKeysTo (q_at z1 x1 (nI kf)) (q_at z1 x2 (nI kf)) ot) ot rfl w517 w514 w515 w516 w7 (by decide +kernel) ⟨rfl, rfl⟩ ⟨Nat.le_of_ble_eq_true rfl, Nat.le_of_ble_eq_true rfl⟩ rfl hl.1 rfl (Nat.le_of_ble_eq_true rfl) d_X_table_113 ⟨Nat.zero_le _, Nat.zero_le _⟩ (fun v9 f9 H locs hp9 Y => ?_)
  obtain ⟨e8, e9⟩ := hp9
  subst e8
  rw [e9] at Y
  have ne_6 : a ≠ t := (fp_o.nf oa ot (by simp))
  have ne_7 : fo ≠ t := (fp_o.nf of ot (by simp))
  have ne_8 : q1 ≠ t := (fp_o.nf o1 ot (by simp))
  have ne_9 : q2 ≠ t := (fp_o.nf o2 ot (by simp))
  have ne_10 : qt ≠ t := (fp_o.nf oqt ot (by simp))
  have Y := Y.re
  have Y : fp_H D b n A (va_up f t (ob 6 [.ref r, .int 0, .int x1, .int x2, .int (x3 &&& 3), .int (x3 >>> (2 &&& 31)), .int (q_at z1 x1 (nI kf)), .int (q_at z1 x2 (nI kf)), .int al, .int ms, .ref sq])) s.heap H locs := Y
  have oa : fp_o b n (va_up f t (ob 6 [.ref r, .int 0, .int x1, .int x2, .int (x3 &&& 3), .int (x3 >>> (2 &&& 31)), .int (q_at z1 x1 (nI kf)), .int (q_at z1 x2 (nI kf)), .int al, .int ms, .ref sq])) a (ob 7 [.ref fo, .ref co, .ref qa, .int (nI acn), .ref qt, .int (nI tcn), .ref kq, .int po, .int dr]) := fp_o.re oa ne_6
  have of : fp_o b n (va_up f t (ob 6 [.ref r, .int 0, .int x1, .int x2, .int (x3 &&& 3), .int (x3 >>> (2 &&& 31)), .int (q_at z1 x1 (nI kf)), .int (q_at z1 x2 (nI kf)), .int al, .int ms, .ref sq])) fo (ob 4 [.ref q1, .ref q2, .int (nI kf)]) := fp_o.re of ne_7
  have o1 : fp_o b n (va_up f t (ob 6 [.ref r, .int 0, .int x1, .int x2, .int (x3 &&& 3), .int (x3 >>> (2 &&& 31)), .int (q_at z1 x1 (nI kf)), .int (q_at z1 x2 (nI kf)), .int al, .int ms, .ref sq])) q1 (aI g 16 z1) := fp_o.re o1 ne_8
  have o2 : fp_o b n (va_up f t (ob 6 [.ref r, .int 0, .int x1, .int x2, .int (x3 &&& 3), .int (x3 >>> (2 &&& 31)), .int (q_at z1 x1 (nI kf)), .int (q_at z1 x2 (nI kf)), .int al, .int ms, .ref sq])) q2 (aI g 16 z2) := fp_o.re o2 ne_9
  have oqt : fp_o b n (va_up f t (ob 6 [.ref r, .int 0, .int x1, .int x2, .int (x3 &&& 3), .int (x3 >>> (2 &&& 31)), .int (q_at z1 x1 (nI kf)), .int (q_at z1 x2 (nI kf)), .int al, .int ms, .ref sq])) qt (aR g 4 8 zt) := fp_o.re oqt ne_10
  have ot : fp_o b n (va_up f t (ob 6 [.ref r, .int 0, .int x1, .int x2, .int (x3 &&& 3), .int (x3 >>> (2 &&& 31)), .int (q_at z1 x1 (nI kf)), .int (q_at z1 x2 (nI kf)), .int al, .int ms, .ref sq])) t (ob 6 [.ref r, .int 0, .int x1, .int x2, .int (x3 &&& 3), .int (x3 >>> (2 &&& 31)), .int (q_at z1 x1 (nI kf)), .int (q_at z1 x2 (nI kf)), .int al, .int ms, .ref sq]) := fp_o.rs ot
  refine W.eq (g2 := F0 m 116 ls []) rfl ?_
  refine lv_aload hx hb d_X_table_116 (lv_at hl 0 rfl) ?_
  refine lv_iload hx hb d_X_table_118 (lv_at hl 6 rfl) ?_
  refine lv_iload hx hb d_X_table_120 (lv_at hl 7 rfl) ?_
  refine fp_callV (nA := 2) (As := [.int x4, .int x5]) (rest := []) X Y (c_T_allowActions x4 x5 ot) ot rfl w521 w518 w519 w520 w7 (by decide +kernel) ⟨rfl, rfl⟩ ⟨Nat.le_of_ble_eq_true rfl, Nat.le_of_ble_eq_true rfl⟩ rfl hl.1 rfl (Nat.le_of_ble_eq_true rfl) d_X_table_122 ⟨Nat.zero_le _, Nat.zero_le _⟩ (fun v9 f9 H locs hp9 Y => ?_)
  obtain ⟨e8, e9⟩ := hp9
  subst e8
  rw [e9] at Y
  have ne_11 : a ≠ t := (fp_o.nf oa ot (by simp))
  have ne_12 : fo ≠ t := (fp_o.nf of ot (by simp))
  have ne_13 : q1 ≠ t := (fp_o.nf o1 ot (by simp))
  have ne_14 : q2 ≠ t := (fp_o.nf o2 ot (by simp))
  have ne_15 : qt ≠ t := (fp_o.nf oqt ot (by simp))
  have Y := Y.re
  have Y : fp_H D b n A (va_up f t (ob 6 [.ref r, .int 0, .int x1, .int x2, .int (x3 &&& 3), .int (x3 >>> (2 &&& 31)), .int (q_at z1 x1 (nI kf)), .int (q_at z1 x2 (nI kf)), .int x4, .int x5, .ref sq])) s.heap H locs := Y
  have oa : fp_o b n (va_up f t (ob 6 [.ref r, .int 0, .int x1, .int x2, .int (x3 &&& 3), .int (x3 >>> (2 &&& 31)), .int (q_at z1 x1 (nI kf)), .int (q_at z1 x2 (nI kf)), .int x4, .int x5, .ref sq])) a (ob 7 [.ref fo, .ref co, .ref qa, .int (nI acn), .ref qt, .int (nI tcn), .ref kq, .int po, .int dr]) := fp_o.re oa ne_11
  have of : fp_o b n (va_up f t (ob 6 [.ref r, .int 0, .int x1, .int x2, .int (x3 &&& 3), .int (x3 >>> (2 &&& 31)), .int (q_at z1 x1 (nI kf)), .int (q_at z1 x2 (nI kf)), .int x4, .int x5, .ref sq])) fo (ob 4 [.ref q1, .ref q2, .int (nI kf)]) := fp_o.re of ne_12
  have o1 : fp_o b n (va_up f t (ob 6 [.ref r, .int 0, .int x1, .int x2, .int (x3 &&& 3), .int (x3 >>> (2 &&& 31)), .int (q_at z1 x1 (nI kf)), .int (q_at z1 x2 (nI kf)), .int x4, .int x5, .ref sq])) q1 (aI g 16 z1) := fp_o.re o1 ne_13
  have o2 : fp_o b n (va_up f t (ob 6 [.ref r, .int 0, .int x1, .int x2, .int (x3 &&& 3), .int (x3 >>> (2 &&& 31)), .int (q_at z1 x1 (nI kf)), .int (q_at z1 x2 (nI kf)), .int x4, .int x5, .ref sq])) q2 (aI g 16 z2) := fp_o.re o2 ne_14
  have oqt : fp_o b n (va_up f t (ob 6 [.ref r, .int 0, .int x1, .int x2, .int (x3 &&& 3), .int (x3 >>> (2 &&& 31)), .int (q_at z1 x1 (nI kf)), .int (q_at z1 x2 (nI kf)), .int x4, .int x5, .ref sq])) qt (aR g 4 8 zt) := fp_o.re oqt ne_15
  have ot : fp_o b n (va_up f t (ob 6 [.ref r, .int 0, .int x1, .int x2, .int (x3 &&& 3), .int (x3 >>> (2 &&& 31)), .int (q_at z1 x1 (nI kf)), .int (q_at z1 x2 (nI kf)), .int x4, .int x5, .ref sq])) t (ob 6 [.ref r, .int 0, .int x1, .int x2, .int (x3 &&& 3), .int (x3 >>> (2 &&& 31)), .int (q_at z1 x1 (nI kf)), .int (q_at z1 x2 (nI kf)), .int x4, .int x5, .ref sq]) := fp_o.rs ot
  refine W.eq (g2 := F0 m 125 ls []) rfl ?_
  refine lv_aload_n hx hb d_X_table_125 rfl (lv_at hl 2 rfl) ?_
  refine lv_dup hx hb d_X_table_126 rfl ?_
  refine fp_get X Y oa rfl in_X 5 (by decide) w196 rfl d_X_table_127 ?_
  refine lv_iconst (v := 1) hx hb d_X_table_130 (by decide) ?_
  refine lv_iadd hx hb d_X_table_131 ?_
  refine fp_put X Y oa rfl in_X to_X nm_X 5 (by decide) w196 rfl rfl rfl (Nat.le_of_ble_eq_true rfl) d_X_table_132 (fun H locs Y => ?_)
  have ne_16 : fo ≠ a := (fp_o.nf of oa (by simp))
  have ne_17 : q1 ≠ a := (fp_o.nf o1 oa (by simp))
  have ne_18 : q2 ≠ a := (fp_o.nf o2 oa (by simp))
  have ne_19 : qt ≠ a := (fp_o.nf oqt oa (by simp))
  have ne_20 : t ≠ a := (fp_o.nf ot oa (by simp))
  have Y : fp_H D b n A (va_up (va_up f t (ob 6 [.ref r, .int 0, .int x1, .int x2, .int (x3 &&& 3), .int (x3 >>> (2 &&& 31)), .int (q_at z1 x1 (nI kf)), .int (q_at z1 x2 (nI kf)), .int x4, .int x5, .ref sq])) a (ob 7 [.ref fo, .ref co, .ref qa, .int (nI acn), .ref qt, .int ((nI tcn) + 1), .ref kq, .int po, .int dr])) s.heap H locs := Y
  have of : fp_o b n (va_up (va_up f t (ob 6 [.ref r, .int 0, .int x1, .int x2, .int (x3 &&& 3), .int (x3 >>> (2 &&& 31)), .int (q_at z1 x1 (nI kf)), .int (q_at z1 x2 (nI kf)), .int x4, .int x5, .ref sq])) a (ob 7 [.ref fo, .ref co, .ref qa, .int (nI acn), .ref qt, .int ((nI tcn) + 1), .ref kq, .int po, .int dr])) fo (ob 4 [.ref q1, .ref q2, .int (nI kf)]) := fp_o.ne of ne_16
  have o1 : fp_o b n (va_up (va_up f t (ob 6 [.ref r, .int 0, .int x1, .int x2, .int (x3 &&& 3), .int (x3 >>> (2 &&& 31)), .int (q_at z1 x1 (nI kf)), .int (q_at z1 x2 (nI kf)), .int x4, .int x5, .ref sq])) a (ob 7 [.ref fo, .ref co, .ref qa, .int (nI acn), .ref qt, .int ((nI tcn) + 1), .ref kq, .int po, .int dr])) q1 (aI g 16 z1) := fp_o.ne o1 ne_17
  have o2 : fp_o b n (va_up (va_up f t (ob 6 [.ref r, .int 0, .int x1, .int x2, .int (x3 &&& 3), .int (x3 >>> (2 &&& 31)), .int (q_at z1 x1 (nI kf)), .int (q_at z1 x2 (nI kf)), .int x4, .int x5, .ref sq])) a (ob 7 [.ref fo, .ref co, .ref qa, .int (nI acn), .ref qt, .int ((nI tcn) + 1), .ref kq, .int po, .int dr])) q2 (aI g 16 z2) := fp_o.ne o2 ne_18
  have oqt : fp_o b n (va_up (va_up f t (ob 6 [.ref r, .int 0, .int x1, .int x2, .int (x3 &&& 3), .int (x3 >>> (2 &&& 31)), .int (q_at z1 x1 (nI kf)), .int (q_at z1 x2 (nI kf)), .int x4, .int x5, .ref sq])) a (ob 7 [.ref fo, .ref co, .ref qa, .int (nI acn), .ref qt, .int ((nI tcn) + 1), .ref kq, .int po, .int dr])) qt (aR g 4 8 zt) := fp_o.ne oqt ne_19
  have ot : fp_o b n (va_up (va_up f t (ob 6 [.ref r, .int 0, .int x1, .int x2, .int (x3 &&& 3), .int (x3 >>> (2 &&& 31)), .int (q_at z1 x1 (nI kf)), .int (q_at z1 x2 (nI kf)), .int x4, .int x5, .ref sq])) a (ob 7 [.ref fo, .ref co, .ref qa, .int (nI acn), .ref qt, .int ((nI tcn) + 1), .ref kq, .int po, .int dr])) t (ob 6 [.ref r, .int 0, .int x1, .int x2, .int (x3 &&& 3), .int (x3 >>> (2 &&& 31)), .int (q_at z1 x1 (nI kf)), .int (q_at z1 x2 (nI kf)), .int x4, .int x5, .ref sq]) := fp_o.ne ot ne_20
  have oa : fp_o b n (va_up (va_up f t (ob 6 [.ref r, .int 0, .int x1, .int x2, .int (x3 &&& 3), .int (x3 >>> (2 &&& 31)), .int (q_at z1 x1 (nI kf)), .int (q_at z1 x2 (nI kf)), .int x4, .int x5, .ref sq])) a (ob 7 [.ref fo, .ref co, .ref qa, .int (nI acn), .ref qt, .int ((nI tcn) + 1), .ref kq, .int po, .int dr])) a (ob 7 [.ref fo, .ref co, .ref qa, .int (nI acn), .ref qt, .int ((nI tcn) + 1), .ref kq, .int po, .int dr]) := fp_o.up oa
  refine lv_iload hx hb d_X_table_135 (lv_at hl 1 rfl) ?_
  exact ret _ _ _ _ _ _ d_X_table_137 ⟨_, rfl, rfl⟩ ⟨rfl, by rw [← nI_1]⟩ Y
set_option maxHeartbeats 4000000 in
set_option maxRecDepth 100000 in
theorem c_X_insert_t {l : Launch} {D : va_G} {g : Nat → ClassId} {b n : Nat} {f : Nat → va_E} (hfl : l.flags = flags0) {a fo co qa qt kq : Nat} {ac tc po dr : Int32} {x1 x2 x3 x4 x5 : Int32} (hbad : q_in x1 tc = 0) (oa : fp_o b n f a (ob 7 [.ref fo, .ref co, .ref qa, .int ac, .ref qt, .int tc, .ref kq, .int po, .int dr]))  : fp_T l D (TY g) b n y_X_insert (fp_ws y_X_insert b_X_insert 6 (some FieldType.boolean)) rmT [.ref a, .int x1, .int x2, .int x3, .int x4, .int x5] f "java/lang/IndexOutOfBoundsException" := by
  refine fp_ofT (plainFor_of_name (by decide)) (Nat.le_of_ble_eq_true rfl) hfl ?_
  intro p e s m args below meth c Q ls H locs X Y hl hEx htr hno hlocks hq
  have hx := X.1.1
  have hb := X.1.2.1
  have hl : lv_has ls 6 [(0, .ref a), (1, .int x1), (2, .int x2), (3, .int x3), (4, .int x4), (5, .int x5)] := hl
  refine lv_aload_n hx hb d_X_insert_0 rfl (lv_at hl 0 rfl) ?_
  refine lv_iload_n hx hb d_X_insert_1 rfl (lv_at hl 1 rfl) ?_
  refine fp_callV (nA := 1) (As := [.int x1]) (rest := []) X Y (c_X_isTable x1 oa) oa rfl w261 w258 w260 wp0 w1 (by decide +kernel) ⟨rfl, rfl⟩ ⟨Nat.le_of_ble_eq_true rfl, Nat.le_of_ble_eq_true rfl⟩ rfl hl.1 rfl (Nat.le_of_ble_eq_true rfl) d_X_insert_2 ⟨Nat.zero_le _, Nat.zero_le _⟩ (fun v9 f9 H locs hp9 Y => ?_)
  obtain ⟨e8, e9⟩ := hp9
  subst e8
  rw [e9] at Y
  refine W.eq (g2 := F0 m 5 ls [.int (q_in x1 tc)]) rfl ?_
  refine lv_if_ne (tgt := 18) hx hb d_X_insert_5 (by decide) (fun c_5 => absurd hbad c_5) (fun c_5 => ?_)
  exact fp_throw (ic := 94) (is := 152) X Y htr (hEx.own (by decide)) w422 w16 (hEx.2.2.1 (152, "no such table") (by decide)) (by decide +kernel) hno hlocks ⟨by decide, by decide, by decide, by decide⟩ hl.1 d_X_insert_8 d_X_insert_11 d_X_insert_12 d_X_insert_14 d_X_insert_17 hq
set_option maxHeartbeats 4000000 in
set_option maxRecDepth 100000 in
theorem c_X_remove_t {l : Launch} {D : va_G} {g : Nat → ClassId} {b n : Nat} {f : Nat → va_E} (hfl : l.flags = flags0) {a fo co qa qt kq : Nat} {ac tc po dr : Int32} {x1 : Int32} (hbad : q_in x1 tc = 0) (oa : fp_o b n f a (ob 7 [.ref fo, .ref co, .ref qa, .int ac, .ref qt, .int tc, .ref kq, .int po, .int dr]))  : fp_T l D (TY g) b n y_X_remove (fp_ws y_X_remove b_X_remove 2 (some FieldType.boolean)) rmT [.ref a, .int x1] f "java/lang/IndexOutOfBoundsException" := by
  refine fp_ofT (plainFor_of_name (by decide)) (Nat.le_of_ble_eq_true rfl) hfl ?_
  intro p e s m args below meth c Q ls H locs X Y hl hEx htr hno hlocks hq
  have hx := X.1.1
  have hb := X.1.2.1
  have hl : lv_has ls 2 [(0, .ref a), (1, .int x1)] := hl
  refine lv_aload_n hx hb d_X_remove_0 rfl (lv_at hl 0 rfl) ?_
  refine lv_iload_n hx hb d_X_remove_1 rfl (lv_at hl 1 rfl) ?_
  refine fp_callV (nA := 1) (As := [.int x1]) (rest := []) X Y (c_X_isTable x1 oa) oa rfl w261 w258 w260 wp0 w1 (by decide +kernel) ⟨rfl, rfl⟩ ⟨Nat.le_of_ble_eq_true rfl, Nat.le_of_ble_eq_true rfl⟩ rfl hl.1 rfl (Nat.le_of_ble_eq_true rfl) d_X_remove_2 ⟨Nat.zero_le _, Nat.zero_le _⟩ (fun v9 f9 H locs hp9 Y => ?_)
  obtain ⟨e8, e9⟩ := hp9
  subst e8
  rw [e9] at Y
  refine W.eq (g2 := F0 m 5 ls [.int (q_in x1 tc)]) rfl ?_
  refine lv_if_ne (tgt := 18) hx hb d_X_remove_5 (by decide) (fun c_5 => absurd hbad c_5) (fun c_5 => ?_)
  exact fp_throw (ic := 94) (is := 152) X Y htr (hEx.own (by decide)) w422 w16 (hEx.2.2.1 (152, "no such table") (by decide)) (by decide +kernel) hno hlocks ⟨by decide, by decide, by decide, by decide⟩ hl.1 d_X_remove_8 d_X_remove_11 d_X_remove_12 d_X_remove_14 d_X_remove_17 hq
set_option maxHeartbeats 4000000 in
set_option maxRecDepth 100000 in
theorem c_X_act_t {l : Launch} {D : va_G} {g : Nat → ClassId} {b n : Nat} {f : Nat → va_E} (hfl : l.flags = flags0) {a fo co qa qt kq : Nat} {ac tc po dr : Int32} {x1 : Int32} (hbad : q_in x1 tc = 0) (oa : fp_o b n f a (ob 7 [.ref fo, .ref co, .ref qa, .int ac, .ref qt, .int tc, .ref kq, .int po, .int dr]))  : fp_T l D (TY g) b n y_X_act (fp_ws y_X_act b_X_act 3 (some FieldType.boolean)) rmT [.ref a, .int x1] f "java/lang/IndexOutOfBoundsException" := by
  refine fp_ofT (plainFor_of_name (by decide)) (Nat.le_of_ble_eq_true rfl) hfl ?_
  intro p e s m args below meth c Q ls H locs X Y hl hEx htr hno hlocks hq
  have hx := X.1.1
  have hb := X.1.2.1
  have hl : lv_has ls 3 [(0, .ref a), (1, .int x1)] := hl
  refine lv_aload_n hx hb d_X_act_0 rfl (lv_at hl 0 rfl) ?_
  refine lv_iload_n hx hb d_X_act_1 rfl (lv_at hl 1 rfl) ?_
  refine fp_callV (nA := 1) (As := [.int x1]) (rest := []) X Y (c_X_isTable x1 oa) oa rfl w261 w258 w260 wp0 w1 (by decide +kernel) ⟨rfl, rfl⟩ ⟨Nat.le_of_ble_eq_true rfl, Nat.le_of_ble_eq_true rfl⟩ rfl hl.1 rfl (Nat.le_of_ble_eq_true rfl) d_X_act_2 ⟨Nat.zero_le _, Nat.zero_le _⟩ (fun v9 f9 H locs hp9 Y => ?_)
  obtain ⟨e8, e9⟩ := hp9
  subst e8
  rw [e9] at Y
  refine W.eq (g2 := F0 m 5 ls [.int (q_in x1 tc)]) rfl ?_
  refine lv_if_ne (tgt := 18) hx hb d_X_act_5 (by decide) (fun c_5 => absurd hbad c_5) (fun c_5 => ?_)
  exact fp_throw (ic := 94) (is := 152) X Y htr (hEx.own (by decide)) w422 w16 (hEx.2.2.1 (152, "no such table") (by decide)) (by decide +kernel) hno hlocks ⟨by decide, by decide, by decide, by decide⟩ hl.1 d_X_act_8 d_X_act_11 d_X_act_12 d_X_act_14 d_X_act_17 hq
set_option maxHeartbeats 4000000 in
set_option maxRecDepth 100000 in
theorem c_X_entries_out {l : Launch} {D : va_G} {g : Nat → ClassId} {b n : Nat} {A : Nat → Prop} {f : Nat → va_E} {a fo co qa qt kq : Nat} {ac tc po dr : Int32} {x : Int32} (hbad : q_in x tc = 0) (oa : fp_o b n f a (ob 7 [.ref fo, .ref co, .ref qa, .int ac, .ref qt, .int tc, .ref kq, .int po, .int dr]))  : fp_M l D (TY g) b n A y_X_entries (fp_ws y_X_entries b_X_entries 2 (some FieldType.int)) (rmD 1) [.ref a, .int x] f (fun v f' => v = some (.int (-1)) ∧ f' = f) := by
  refine fp_ofI (plainFor_of_name (by decide)) (Nat.le_of_ble_eq_true rfl) ?_
  intro p e s m args below meth c Q ls H locs X Y hl ret
  have hx := X.1.1
  have hb := X.1.2.1
  have hl : lv_has ls 2 [(0, .ref a), (1, .int x)] := hl
  refine lv_aload_n hx hb d_X_entries_0 rfl (lv_at hl 0 rfl) ?_
  refine lv_iload_n hx hb d_X_entries_1 rfl (lv_at hl 1 rfl) ?_
  refine fp_callV (nA := 1) (As := [.int x]) (rest := []) X Y (c_X_isTable x oa) oa rfl w261 w258 w260 wp0 w1 (by decide +kernel) ⟨rfl, rfl⟩ ⟨Nat.le_of_ble_eq_true rfl, Nat.le_of_ble_eq_true rfl⟩ rfl hl.1 rfl (Nat.le_of_ble_eq_true rfl) d_X_entries_2 ⟨Nat.zero_le _, Nat.zero_le _⟩ (fun v9 f9 H locs hp9 Y => ?_)
  obtain ⟨e8, e9⟩ := hp9
  subst e8
  rw [e9] at Y
  refine W.eq (g2 := F0 m 5 ls [.int (q_in x tc)]) rfl ?_
  refine lv_if_eq (tgt := 20) hx hb d_X_entries_5 (by decide) (fun c_5 => ?_) (fun c_5 => absurd hbad c_5)
  refine lv_iconst (v := -1) hx hb d_X_entries_20 (by decide) ?_
  exact ret _ _ _ _ _ _ d_X_entries_21 ⟨_, rfl, rfl⟩ ⟨rfl, rfl⟩ Y
set_option maxHeartbeats 4000000 in
set_option maxRecDepth 100000 in
theorem c_X_matches_out {l : Launch} {D : va_G} {g : Nat → ClassId} {b n : Nat} {A : Nat → Prop} {f : Nat → va_E} {a fo co qa qt kq : Nat} {ac tc po dr : Int32} {x : Int32} (hbad : q_in x tc = 0) (oa : fp_o b n f a (ob 7 [.ref fo, .ref co, .ref qa, .int ac, .ref qt, .int tc, .ref kq, .int po, .int dr]))  : fp_M l D (TY g) b n A y_X_matches (fp_ws y_X_matches b_X_matches 3 (some FieldType.int)) (rmD 1) [.ref a, .int x] f (fun v f' => v = some (.int (-1)) ∧ f' = f) := by
  refine fp_ofI (plainFor_of_name (by decide)) (Nat.le_of_ble_eq_true rfl) ?_
  intro p e s m args below meth c Q ls H locs X Y hl ret
  have hx := X.1.1
  have hb := X.1.2.1
  have hl : lv_has ls 3 [(0, .ref a), (1, .int x)] := hl
  refine lv_aload_n hx hb d_X_matches_0 rfl (lv_at hl 0 rfl) ?_
  refine lv_iload_n hx hb d_X_matches_1 rfl (lv_at hl 1 rfl) ?_
  refine fp_callV (nA := 1) (As := [.int x]) (rest := []) X Y (c_X_isTable x oa) oa rfl w261 w258 w260 wp0 w1 (by decide +kernel) ⟨rfl, rfl⟩ ⟨Nat.le_of_ble_eq_true rfl, Nat.le_of_ble_eq_true rfl⟩ rfl hl.1 rfl (Nat.le_of_ble_eq_true rfl) d_X_matches_2 ⟨Nat.zero_le _, Nat.zero_le _⟩ (fun v9 f9 H locs hp9 Y => ?_)
  obtain ⟨e8, e9⟩ := hp9
  subst e8
  rw [e9] at Y
  refine W.eq (g2 := F0 m 5 ls [.int (q_in x tc)]) rfl ?_
  refine lv_if_ne (tgt := 10) hx hb d_X_matches_5 (by decide) (fun c_5 => absurd hbad c_5) (fun c_5 => ?_)
  refine lv_iconst (v := -1) hx hb d_X_matches_8 (by decide) ?_
  exact ret _ _ _ _ _ _ d_X_matches_9 ⟨_, rfl, rfl⟩ ⟨rfl, rfl⟩ Y
set_option maxHeartbeats 4000000 in
set_option maxRecDepth 100000 in
theorem c_X_entries_in {l : Launch} {D : va_G} {g : Nat → ClassId} {b n : Nat} {A : Nat → Prop} {f : Nat → va_E} {a fo co qa qt kq acn tcn : Nat} {po dr : Int32} {t r sq tj : Nat} {cn xf xg hF hG oF oG al ms : Int32} {zt : Nat → Option Nat} (htj : tj < tcn) (htc : tcn ≤ 8) (hzt : zt tj = some t) (oa : fp_o b n f a (ob 7 [.ref fo, .ref co, .ref qa, .int (nI acn), .ref qt, .int (nI tcn), .ref kq, .int po, .int dr])) (oqt : fp_o b n f qt (aR g 4 8 zt)) (ot : fp_o b n f t (ob 6 [.ref r, .int cn, .int xf, .int xg, .int hF, .int hG, .int oF, .int oG, .int al, .int ms, .ref sq]))  : fp_M l D (TY g) b n A y_X_entries (fp_ws y_X_entries b_X_entries 2 (some FieldType.int)) (rmD 1) [.ref a, .int (nI tj)] f (fun v f' => v = some (.int cn) ∧ f' = f) := by
  refine fp_ofI (plainFor_of_name (by decide)) (Nat.le_of_ble_eq_true rfl) ?_
  intro p e s m args below meth c Q ls H locs X Y hl ret
  have hx := X.1.1
  have hb := X.1.2.1
  have hl : lv_has ls 2 [(0, .ref a), (1, .int (nI tj))] := hl
  refine lv_aload_n hx hb d_X_entries_0 rfl (lv_at hl 0 rfl) ?_
  refine lv_iload_n hx hb d_X_entries_1 rfl (lv_at hl 1 rfl) ?_
  refine fp_callV (nA := 1) (As := [.int (nI tj)]) (rest := []) X Y (c_X_isTable (nI tj) oa) oa rfl w261 w258 w260 wp0 w1 (by decide +kernel) ⟨rfl, rfl⟩ ⟨Nat.le_of_ble_eq_true rfl, Nat.le_of_ble_eq_true rfl⟩ rfl hl.1 rfl (Nat.le_of_ble_eq_true rfl) d_X_entries_2 ⟨Nat.zero_le _, Nat.zero_le _⟩ (fun v9 f9 H locs hp9 Y => ?_)
  obtain ⟨e8, e9⟩ := hp9
  subst e8
  rw [e9] at Y
  refine W.eq (g2 := F0 m 5 ls [.int (q_in (nI tj) (nI tcn))]) rfl ?_
  refine lv_if_eq (tgt := 20) hx hb d_X_entries_5 (by decide) (fun c_5 => absurd c_5 (by rw [q_in_lt htj (by omega)]; decide)) (fun c_5 => ?_)
  refine lv_aload_n hx hb d_X_entries_8 rfl (lv_at hl 0 rfl) ?_
  refine fp_get X Y oa rfl in_X 4 (by decide) w195 rfl d_X_entries_9 ?_
  refine lv_iload_n hx hb d_X_entries_12 rfl (lv_at hl 1 rfl) ?_
  refine fp_ald 4 rfl X Y oqt tj rfl (by omega) (by decide) hzt d_X_entries_13 ?_
  refine fp_getN X Y ot rfl in_T 1 (by decide) nw157 rfl d_X_entries_14 ?_
  refine lv_goto (tgt := 21) hx hb d_X_entries_17 (by decide) ?_
  exact ret _ _ _ _ _ _ d_X_entries_21 ⟨_, rfl, rfl⟩ ⟨rfl, rfl⟩ Y
