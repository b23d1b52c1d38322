/-! Contracts: the law's wrappers (by wip/gen/k15.py). The contract of the class's method is a premise. -/
set_option maxHeartbeats 4000000 in
set_option maxRecDepth 100000 in
theorem c_L_field_t1 {l : Launch} {D : va_G} {g : Nat → ClassId} {b n : Nat} {A : Nat → Prop} {f : Nat → va_E} (hbA : ∀ q : Nat, A q → b ≤ q) {a fo co qa qt kq ou : Nat} {ac tc po dr : Int32} {x1 : Int32} (oa : fp_o b n f a (ob 7 [.ref fo, .ref co, .ref qa, .int ac, .ref qt, .int tc, .ref kq, .int po, .int dr])) (hT : fp_T l D (TY g) b n y_X_field (fp_ws y_X_field b_X_field 2 (some FieldType.int)) rmT [.ref a, .int x1] f "java/lang/IllegalArgumentException") : fp_MX l D (TY g) b n A y_L_field (Cond.codeWith y_L_field b_L_field 4 (some FieldType.int) [(0, 9, 12, 13), (0, 9, 15, 15)] :: TG) rmW 1 6 [.ref a, .int x1, .ref ou] f (fun v f' => v = some (.int 1) ∧ f' = f) := by
  refine fp_ofX (by decide) (Nat.le_of_ble_eq_true rfl) ?_
  intro p e s m args below meth c Q ls H locs X Y hl hEx htab ret
  have hx := X.1.1
  have hb := X.1.2.1
  have hl : lv_has ls 4 [(0, .ref a), (1, .int x1), (2, .ref ou)] := hl
  refine lv_aload_n hx hb d_L_field_0 rfl (lv_at hl 2 rfl) ?_
  refine lv_iconst (v := 0) hx hb d_L_field_1 (by decide) ?_
  refine lv_aload_n hx hb d_L_field_2 rfl (lv_at hl 0 rfl) ?_
  refine lv_iload_n hx hb d_L_field_3 rfl (lv_at hl 1 rfl) ?_
  have hfind : ∀ (S : State) (x : Addr) (cell : Cell), s.WarmedH S.vm → S.heap[x]? = some cell → cell.vm = .none → s.vm.findClass "java/lang/IllegalArgumentException" = some cell.cls → e.platform.magicAccessors = ({} : Platform).magicAccessors → ∃ vm', s.WarmedH vm' ∧ ∀ (Q : Handler → Pre) (E : CtlPost) (d : Bool) (acts : List Action), wp (findHandler.go (F0 m 4 ls [.int 0, .ref ou]) x c.exceptionTable.toList) Q E e d acts S ↔ Q (.found 12) d acts (S.setVm vm') := by
    intro S0 x cell hW0 hc0 hv hcl hpl
    rw [htab]
    exact fh_hit hpl hW0 X.1.2.2.2.1 (X.1.2.2.2.2 _ w314) rfl (by decide) hc0 hv hcl
  refine fp_callT (nA := 1) (As := [.int x1]) (rest := [.int 0, .ref ou]) X Y hEx hbA hT oa rfl w319 w316 w317 w318 w1 (by decide +kernel) ⟨rfl, rfl⟩ ⟨Nat.le_of_ble_eq_true rfl, Nat.le_of_ble_eq_true rfl⟩ rfl hl.1 rfl (Nat.le_of_ble_eq_true rfl) d_L_field_4 ⟨Nat.le_of_ble_eq_true rfl, Nat.le_of_ble_eq_true rfl⟩ hfind (fun x9 H locs Y => ?_)
  refine lv_astore_n (lv' := [(3, .ref x9), (0, .ref a), (1, .int x1), (2, .ref ou)]) hx hb d_L_field_12 rfl hl (by decide) rfl (fun ls hl => ?_)
  refine lv_iconst (v := 1) hx hb d_L_field_13 (by decide) ?_
  exact ret _ _ _ _ _ _ _ _ d_L_field_14 rfl ⟨rfl, rfl⟩ Y (Nat.le_of_ble_eq_true rfl) (Nat.le_of_ble_eq_true rfl)
set_option maxHeartbeats 4000000 in
set_option maxRecDepth 100000 in
theorem c_L_field_t2 {l : Launch} {D : va_G} {g : Nat → ClassId} {b n : Nat} {A : Nat → Prop} {f : Nat → va_E} (hbA : ∀ q : Nat, A q → b ≤ q) {a fo co qa qt kq ou : Nat} {ac tc po dr : Int32} {x1 : Int32} (oa : fp_o b n f a (ob 7 [.ref fo, .ref co, .ref qa, .int ac, .ref qt, .int tc, .ref kq, .int po, .int dr])) (hT : fp_T l D (TY g) b n y_X_field (fp_ws y_X_field b_X_field 2 (some FieldType.int)) rmT [.ref a, .int x1] f "java/lang/IllegalStateException") : fp_MX l D (TY g) b n A y_L_field (Cond.codeWith y_L_field b_L_field 4 (some FieldType.int) [(0, 9, 12, 13), (0, 9, 15, 15)] :: TG) rmW 1 6 [.ref a, .int x1, .ref ou] f (fun v f' => v = some (.int 2) ∧ f' = f) := by
  refine fp_ofX (by decide) (Nat.le_of_ble_eq_true rfl) ?_
  intro p e s m args below meth c Q ls H locs X Y hl hEx htab ret
  have hx := X.1.1
  have hb := X.1.2.1
  have hl : lv_has ls 4 [(0, .ref a), (1, .int x1), (2, .ref ou)] := hl
  refine lv_aload_n hx hb d_L_field_0 rfl (lv_at hl 2 rfl) ?_
  refine lv_iconst (v := 0) hx hb d_L_field_1 (by decide) ?_
  refine lv_aload_n hx hb d_L_field_2 rfl (lv_at hl 0 rfl) ?_
  refine lv_iload_n hx hb d_L_field_3 rfl (lv_at hl 1 rfl) ?_
  have hfind : ∀ (S : State) (x : Addr) (cell : Cell), s.WarmedH S.vm → S.heap[x]? = some cell → cell.vm = .none → s.vm.findClass "java/lang/IllegalStateException" = some cell.cls → e.platform.magicAccessors = ({} : Platform).magicAccessors → ∃ vm', s.WarmedH vm' ∧ ∀ (Q : Handler → Pre) (E : CtlPost) (d : Bool) (acts : List Action), wp (findHandler.go (F0 m 4 ls [.int 0, .ref ou]) x c.exceptionTable.toList) Q E e d acts S ↔ Q (.found 15) d acts (S.setVm vm') := by
    intro S0 x cell hW0 hc0 hv hcl hpl
    rw [htab]
    exact fh_miss hpl hW0 X.1.2.2.2.1 (X.1.2.2.2.2 _ w314) rfl (by decide) hc0 hv hcl (hEx.2.2.2 ("java/lang/IllegalStateException", "java/lang/IllegalArgumentException") (by decide)) (fun S1 hW1 hc1 => fh_hit hpl hW1 X.1.2.2.2.1 (X.1.2.2.2.2 _ w315) rfl (by decide) hc1 hv hcl)
  refine fp_callT (nA := 1) (As := [.int x1]) (rest := [.int 0, .ref ou]) X Y hEx hbA hT oa rfl w319 w316 w317 w318 w1 (by decide +kernel) ⟨rfl, rfl⟩ ⟨Nat.le_of_ble_eq_true rfl, Nat.le_of_ble_eq_true rfl⟩ rfl hl.1 rfl (Nat.le_of_ble_eq_true rfl) d_L_field_4 ⟨Nat.le_of_ble_eq_true rfl, Nat.le_of_ble_eq_true rfl⟩ hfind (fun x9 H locs Y => ?_)
  refine lv_astore_n (lv' := [(3, .ref x9), (0, .ref a), (1, .int x1), (2, .ref ou)]) hx hb d_L_field_15 rfl hl (by decide) rfl (fun ls hl => ?_)
  refine lv_iconst (v := 2) hx hb d_L_field_16 (by decide) ?_
  exact ret _ _ _ _ _ _ _ _ d_L_field_17 rfl ⟨rfl, rfl⟩ Y (Nat.le_of_ble_eq_true rfl) (Nat.le_of_ble_eq_true rfl)
set_option maxHeartbeats 4000000 in
set_option maxRecDepth 100000 in
theorem c_L_set_t1 {l : Launch} {D : va_G} {g : Nat → ClassId} {b n : Nat} {A : Nat → Prop} {f : Nat → va_E} (hbA : ∀ q : Nat, A q → b ≤ q) {a fo co qa qt kq ou : Nat} {ac tc po dr : Int32} {x1 x2 : Int32} (oa : fp_o b n f a (ob 7 [.ref fo, .ref co, .ref qa, .int ac, .ref qt, .int tc, .ref kq, .int po, .int dr])) (hT : fp_T l D (TY g) b n y_X_set (fp_ws y_X_set b_X_set 3 none) rmT [.ref a, .int x1, .int x2] f "java/lang/IndexOutOfBoundsException") : fp_MX l D (TY g) b n A y_L_set (Cond.codeWith y_L_set b_L_set 4 (some FieldType.int) [(0, 6, 9, 21)] :: TG) rmW 1 6 [.ref a, .int x1, .int x2] f (fun v f' => v = some (.int 1) ∧ f' = f) := by
  refine fp_ofX (by decide) (Nat.le_of_ble_eq_true rfl) ?_
  intro p e s m args below meth c Q ls H locs X Y hl hEx htab ret
  have hx := X.1.1
  have hb := X.1.2.1
  have hl : lv_has ls 4 [(0, .ref a), (1, .int x1), (2, .int x2)] := hl
  refine lv_aload_n hx hb d_L_set_0 rfl (lv_at hl 0 rfl) ?_
  refine lv_iload_n hx hb d_L_set_1 rfl (lv_at hl 1 rfl) ?_
  refine lv_iload_n hx hb d_L_set_2 rfl (lv_at hl 2 rfl) ?_
  have hfind : ∀ (S : State) (x : Addr) (cell : Cell), s.WarmedH S.vm → S.heap[x]? = some cell → cell.vm = .none → s.vm.findClass "java/lang/IndexOutOfBoundsException" = some cell.cls → e.platform.magicAccessors = ({} : Platform).magicAccessors → ∃ vm', s.WarmedH vm' ∧ ∀ (Q : Handler → Pre) (E : CtlPost) (d : Bool) (acts : List Action), wp (findHandler.go (F0 m 3 ls []) x c.exceptionTable.toList) Q E e d acts S ↔ Q (.found 9) d acts (S.setVm vm') := by
    intro S0 x cell hW0 hc0 hv hcl hpl
    rw [htab]
    exact fh_hit hpl hW0 X.1.2.2.2.1 (X.1.2.2.2.2 _ w416) rfl (by decide) hc0 hv hcl
  refine fp_callT (nA := 2) (As := [.int x1, .int x2]) (rest := []) X Y hEx hbA hT oa rfl w420 w417 w418 w419 w1 (by decide +kernel) ⟨rfl, rfl⟩ ⟨Nat.le_of_ble_eq_true rfl, Nat.le_of_ble_eq_true rfl⟩ rfl hl.1 rfl (Nat.le_of_ble_eq_true rfl) d_L_set_3 ⟨Nat.le_of_ble_eq_true rfl, Nat.le_of_ble_eq_true rfl⟩ hfind (fun x9 H locs Y => ?_)
  refine lv_astore_n (lv' := [(3, .ref x9), (0, .ref a), (1, .int x1), (2, .int x2)]) hx hb d_L_set_9 rfl hl (by decide) rfl (fun ls hl => ?_)
  refine lv_iconst (v := 1) hx hb d_L_set_10 (by decide) ?_
  exact ret _ _ _ _ _ _ _ _ d_L_set_11 rfl ⟨rfl, rfl⟩ Y (Nat.le_of_ble_eq_true rfl) (Nat.le_of_ble_eq_true rfl)
set_option maxHeartbeats 4000000 in
set_option maxRecDepth 100000 in
theorem c_L_action_t1 {l : Launch} {D : va_G} {g : Nat → ClassId} {b n : Nat} {A : Nat → Prop} {f : Nat → va_E} (hbA : ∀ q : Nat, A q → b ≤ q) {a fo co qa qt kq ou : Nat} {ac tc po dr : Int32}  (oa : fp_o b n f a (ob 7 [.ref fo, .ref co, .ref qa, .int ac, .ref qt, .int tc, .ref kq, .int po, .int dr])) (hT : fp_T l D (TY g) b n y_X_action (fp_ws y_X_action b_X_action 2 (some FieldType.int)) rmT [.ref a] f "java/lang/IllegalStateException") : fp_MX l D (TY g) b n A y_L_action (Cond.codeWith y_L_action b_L_action 3 (some FieldType.int) [(0, 8, 11, 15)] :: TG) rmW 1 6 [.ref a, .ref ou] f (fun v f' => v = some (.int 1) ∧ f' = f) := by
  refine fp_ofX (by decide) (Nat.le_of_ble_eq_true rfl) ?_
  intro p e s m args below meth c Q ls H locs X Y hl hEx htab ret
  have hx := X.1.1
  have hb := X.1.2.1
  have hl : lv_has ls 3 [(0, .ref a), (1, .ref ou)] := hl
  refine lv_aload_n hx hb d_L_action_0 rfl (lv_at hl 1 rfl) ?_
  refine lv_iconst (v := 0) hx hb d_L_action_1 (by decide) ?_
  refine lv_aload_n hx hb d_L_action_2 rfl (lv_at hl 0 rfl) ?_
  have hfind : ∀ (S : State) (x : Addr) (cell : Cell), s.WarmedH S.vm → S.heap[x]? = some cell → cell.vm = .none → s.vm.findClass "java/lang/IllegalStateException" = some cell.cls → e.platform.magicAccessors = ({} : Platform).magicAccessors → ∃ vm', s.WarmedH vm' ∧ ∀ (Q : Handler → Pre) (E : CtlPost) (d : Bool) (acts : List Action), wp (findHandler.go (F0 m 3 ls [.int 0, .ref ou]) x c.exceptionTable.toList) Q E e d acts S ↔ Q (.found 11) d acts (S.setVm vm') := by
    intro S0 x cell hW0 hc0 hv hcl hpl
    rw [htab]
    exact fh_hit hpl hW0 X.1.2.2.2.1 (X.1.2.2.2.2 _ w315) rfl (by decide) hc0 hv hcl
  refine fp_callT (nA := 0) (As := []) (rest := [.int 0, .ref ou]) X Y hEx hbA hT oa rfl w448 w445 w446 w447 w1 (by decide +kernel) ⟨rfl, rfl⟩ ⟨Nat.le_of_ble_eq_true rfl, Nat.le_of_ble_eq_true rfl⟩ rfl hl.1 rfl (Nat.le_of_ble_eq_true rfl) d_L_action_3 ⟨Nat.le_of_ble_eq_true rfl, Nat.le_of_ble_eq_true rfl⟩ hfind (fun x9 H locs Y => ?_)
  refine lv_astore_n (lv' := [(2, .ref x9), (0, .ref a), (1, .ref ou)]) hx hb d_L_action_11 rfl hl (by decide) rfl (fun ls hl => ?_)
  refine lv_iconst (v := 1) hx hb d_L_action_12 (by decide) ?_
  exact ret _ _ _ _ _ _ _ _ d_L_action_13 rfl ⟨rfl, rfl⟩ Y (Nat.le_of_ble_eq_true rfl) (Nat.le_of_ble_eq_true rfl)
set_option maxHeartbeats 4000000 in
set_option maxRecDepth 100000 in
theorem c_L_doing_t1 {l : Launch} {D : va_G} {g : Nat → ClassId} {b n : Nat} {A : Nat → Prop} {f : Nat → va_E} (hbA : ∀ q : Nat, A q → b ≤ q) {a fo co qa qt kq ou : Nat} {ac tc po dr : Int32} {x1 x2 x3 x4 x5 : Int32} (oa : fp_o b n f a (ob 7 [.ref fo, .ref co, .ref qa, .int ac, .ref qt, .int tc, .ref kq, .int po, .int dr])) (hT : fp_T l D (TY g) b n y_X_doing (fp_ws y_X_doing b_X_doing 6 none) rmT [.ref a, .int x1, .int x2, .int x3, .int x4, .int x5] f "java/lang/IndexOutOfBoundsException") : fp_MX l D (TY g) b n A y_L_doing (Cond.codeWith y_L_doing b_L_doing 7 (some FieldType.int) [(0, 11, 14, 21), (0, 11, 18, 13), (0, 11, 22, 15)] :: TG) rmW 1 6 [.ref a, .int x1, .int x2, .int x3, .int x4, .int x5] f (fun v f' => v = some (.int 1) ∧ f' = f) := by
  refine fp_ofX (by decide) (Nat.le_of_ble_eq_true rfl) ?_
  intro p e s m args below meth c Q ls H locs X Y hl hEx htab ret
  have hx := X.1.1
  have hb := X.1.2.1
  have hl : lv_has ls 7 [(0, .ref a), (1, .int x1), (2, .int x2), (3, .int x3), (4, .int x4), (5, .int x5)] := hl
  refine lv_aload_n hx hb d_L_doing_0 rfl (lv_at hl 0 rfl) ?_
  refine lv_iload_n hx hb d_L_doing_1 rfl (lv_at hl 1 rfl) ?_
  refine lv_iload_n hx hb d_L_doing_2 rfl (lv_at hl 2 rfl) ?_
  refine lv_iload_n hx hb d_L_doing_3 rfl (lv_at hl 3 rfl) ?_
  refine lv_iload hx hb d_L_doing_4 (lv_at hl 4 rfl) ?_
  refine lv_iload hx hb d_L_doing_6 (lv_at hl 5 rfl) ?_
  have hfind : ∀ (S : State) (x : Addr) (cell : Cell), s.WarmedH S.vm → S.heap[x]? = some cell → cell.vm = .none → s.vm.findClass "java/lang/IndexOutOfBoundsException" = some cell.cls → e.platform.magicAccessors = ({} : Platform).magicAccessors → ∃ vm', s.WarmedH vm' ∧ ∀ (Q : Handler → Pre) (E : CtlPost) (d : Bool) (acts : List Action), wp (findHandler.go (F0 m 8 ls []) x c.exceptionTable.toList) Q E e d acts S ↔ Q (.found 14) d acts (S.setVm vm') := by
    intro S0 x cell hW0 hc0 hv hcl hpl
    rw [htab]
    exact fh_hit hpl hW0 X.1.2.2.2.1 (X.1.2.2.2.2 _ w416) rfl (by decide) hc0 hv hcl
  refine fp_callT (nA := 5) (As := [.int x1, .int x2, .int x3, .int x4, .int x5]) (rest := []) X Y hEx hbA hT oa rfl w460 w457 w458 w459 w1 (by decide +kernel) ⟨rfl, rfl⟩ ⟨Nat.le_of_ble_eq_true rfl, Nat.le_of_ble_eq_true rfl⟩ rfl hl.1 rfl (Nat.le_of_ble_eq_true rfl) d_L_doing_8 ⟨Nat.le_of_ble_eq_true rfl, Nat.le_of_ble_eq_true rfl⟩ hfind (fun x9 H locs Y => ?_)
  refine lv_astore (lv' := [(6, .ref x9), (0, .ref a), (1, .int x1), (2, .int x2), (3, .int x3), (4, .int x4), (5, .int x5)]) hx hb d_L_doing_14 hl (by decide) rfl (fun ls hl => ?_)
  refine lv_iconst (v := 1) hx hb d_L_doing_16 (by decide) ?_
  exact ret _ _ _ _ _ _ _ _ d_L_doing_17 rfl ⟨rfl, rfl⟩ Y (Nat.le_of_ble_eq_true rfl) (Nat.le_of_ble_eq_true rfl)
set_option maxHeartbeats 4000000 in
set_option maxRecDepth 100000 in
theorem c_L_doing_t2 {l : Launch} {D : va_G} {g : Nat → ClassId} {b n : Nat} {A : Nat → Prop} {f : Nat → va_E} (hbA : ∀ q : Nat, A q → b ≤ q) {a fo co qa qt kq ou : Nat} {ac tc po dr : Int32} {x1 x2 x3 x4 x5 : Int32} (oa : fp_o b n f a (ob 7 [.ref fo, .ref co, .ref qa, .int ac, .ref qt, .int tc, .ref kq, .int po, .int dr])) (hT : fp_T l D (TY g) b n y_X_doing (fp_ws y_X_doing b_X_doing 6 none) rmT [.ref a, .int x1, .int x2, .int x3, .int x4, .int x5] f "java/lang/IllegalArgumentException") : fp_MX l D (TY g) b n A y_L_doing (Cond.codeWith y_L_doing b_L_doing 7 (some FieldType.int) [(0, 11, 14, 21), (0, 11, 18, 13), (0, 11, 22, 15)] :: TG) rmW 1 6 [.ref a, .int x1, .int x2, .int x3, .int x4, .int x5] f (fun v f' => v = some (.int 2) ∧ f' = f) := by
  refine fp_ofX (by decide) (Nat.le_of_ble_eq_true rfl) ?_
  intro p e s m args below meth c Q ls H locs X Y hl hEx htab ret
  have hx := X.1.1
  have hb := X.1.2.1
  have hl : lv_has ls 7 [(0, .ref a), (1, .int x1), (2, .int x2), (3, .int x3), (4, .int x4), (5, .int x5)] := hl
  refine lv_aload_n hx hb d_L_doing_0 rfl (lv_at hl 0 rfl) ?_
  refine lv_iload_n hx hb d_L_doing_1 rfl (lv_at hl 1 rfl) ?_
  refine lv_iload_n hx hb d_L_doing_2 rfl (lv_at hl 2 rfl) ?_
  refine lv_iload_n hx hb d_L_doing_3 rfl (lv_at hl 3 rfl) ?_
  refine lv_iload hx hb d_L_doing_4 (lv_at hl 4 rfl) ?_
  refine lv_iload hx hb d_L_doing_6 (lv_at hl 5 rfl) ?_
  have hfind : ∀ (S : State) (x : Addr) (cell : Cell), s.WarmedH S.vm → S.heap[x]? = some cell → cell.vm = .none → s.vm.findClass "java/lang/IllegalArgumentException" = some cell.cls → e.platform.magicAccessors = ({} : Platform).magicAccessors → ∃ vm', s.WarmedH vm' ∧ ∀ (Q : Handler → Pre) (E : CtlPost) (d : Bool) (acts : List Action), wp (findHandler.go (F0 m 8 ls []) x c.exceptionTable.toList) Q E e d acts S ↔ Q (.found 18) d acts (S.setVm vm') := by
    intro S0 x cell hW0 hc0 hv hcl hpl
    rw [htab]
    exact fh_miss hpl hW0 X.1.2.2.2.1 (X.1.2.2.2.2 _ w416) rfl (by decide) hc0 hv hcl (hEx.2.2.2 ("java/lang/IllegalArgumentException", "java/lang/IndexOutOfBoundsException") (by decide)) (fun S1 hW1 hc1 => fh_hit hpl hW1 X.1.2.2.2.1 (X.1.2.2.2.2 _ w314) rfl (by decide) hc1 hv hcl)
  refine fp_callT (nA := 5) (As := [.int x1, .int x2, .int x3, .int x4, .int x5]) (rest := []) X Y hEx hbA hT oa rfl w460 w457 w458 w459 w1 (by decide +kernel) ⟨rfl, rfl⟩ ⟨Nat.le_of_ble_eq_true rfl, Nat.le_of_ble_eq_true rfl⟩ rfl hl.1 rfl (Nat.le_of_ble_eq_true rfl) d_L_doing_8 ⟨Nat.le_of_ble_eq_true rfl, Nat.le_of_ble_eq_true rfl⟩ hfind (fun x9 H locs Y => ?_)
  refine lv_astore (lv' := [(6, .ref x9), (0, .ref a), (1, .int x1), (2, .int x2), (3, .int x3), (4, .int x4), (5, .int x5)]) hx hb d_L_doing_18 hl (by decide) rfl (fun ls hl => ?_)
  refine lv_iconst (v := 2) hx hb d_L_doing_20 (by decide) ?_
  exact ret _ _ _ _ _ _ _ _ d_L_doing_21 rfl ⟨rfl, rfl⟩ Y (Nat.le_of_ble_eq_true rfl) (Nat.le_of_ble_eq_true rfl)
set_option maxHeartbeats 4000000 in
set_option maxRecDepth 100000 in
theorem c_L_doing_t3 {l : Launch} {D : va_G} {g : Nat → ClassId} {b n : Nat} {A : Nat → Prop} {f : Nat → va_E} (hbA : ∀ q : Nat, A q → b ≤ q) {a fo co qa qt kq ou : Nat} {ac tc po dr : Int32} {x1 x2 x3 x4 x5 : Int32} (oa : fp_o b n f a (ob 7 [.ref fo, .ref co, .ref qa, .int ac, .ref qt, .int tc, .ref kq, .int po, .int dr])) (hT : fp_T l D (TY g) b n y_X_doing (fp_ws y_X_doing b_X_doing 6 none) rmT [.ref a, .int x1, .int x2, .int x3, .int x4, .int x5] f "java/lang/IllegalStateException") : fp_MX l D (TY g) b n A y_L_doing (Cond.codeWith y_L_doing b_L_doing 7 (some FieldType.int) [(0, 11, 14, 21), (0, 11, 18, 13), (0, 11, 22, 15)] :: TG) rmW 1 6 [.ref a, .int x1, .int x2, .int x3, .int x4, .int x5] f (fun v f' => v = some (.int 3) ∧ f' = f) := by
  refine fp_ofX (by decide) (Nat.le_of_ble_eq_true rfl) ?_
  intro p e s m args below meth c Q ls H locs X Y hl hEx htab ret
  have hx := X.1.1
  have hb := X.1.2.1
  have hl : lv_has ls 7 [(0, .ref a), (1, .int x1), (2, .int x2), (3, .int x3), (4, .int x4), (5, .int x5)] := hl
  refine lv_aload_n hx hb d_L_doing_0 rfl (lv_at hl 0 rfl) ?_
  refine lv_iload_n hx hb d_L_doing_1 rfl (lv_at hl 1 rfl) ?_
  refine lv_iload_n hx hb d_L_doing_2 rfl (lv_at hl 2 rfl) ?_
  refine lv_iload_n hx hb d_L_doing_3 rfl (lv_at hl 3 rfl) ?_
  refine lv_iload hx hb d_L_doing_4 (lv_at hl 4 rfl) ?_
  refine lv_iload hx hb d_L_doing_6 (lv_at hl 5 rfl) ?_
  have hfind : ∀ (S : State) (x : Addr) (cell : Cell), s.WarmedH S.vm → S.heap[x]? = some cell → cell.vm = .none → s.vm.findClass "java/lang/IllegalStateException" = some cell.cls → e.platform.magicAccessors = ({} : Platform).magicAccessors → ∃ vm', s.WarmedH vm' ∧ ∀ (Q : Handler → Pre) (E : CtlPost) (d : Bool) (acts : List Action), wp (findHandler.go (F0 m 8 ls []) x c.exceptionTable.toList) Q E e d acts S ↔ Q (.found 22) d acts (S.setVm vm') := by
    intro S0 x cell hW0 hc0 hv hcl hpl
    rw [htab]
    exact fh_miss hpl hW0 X.1.2.2.2.1 (X.1.2.2.2.2 _ w416) rfl (by decide) hc0 hv hcl (hEx.2.2.2 ("java/lang/IllegalStateException", "java/lang/IndexOutOfBoundsException") (by decide)) (fun S1 hW1 hc1 => fh_miss hpl hW1 X.1.2.2.2.1 (X.1.2.2.2.2 _ w314) rfl (by decide) hc1 hv hcl (hEx.2.2.2 ("java/lang/IllegalStateException", "java/lang/IllegalArgumentException") (by decide)) (fun S2 hW2 hc2 => fh_hit hpl hW2 X.1.2.2.2.1 (X.1.2.2.2.2 _ w315) rfl (by decide) hc2 hv hcl))
  refine fp_callT (nA := 5) (As := [.int x1, .int x2, .int x3, .int x4, .int x5]) (rest := []) X Y hEx hbA hT oa rfl w460 w457 w458 w459 w1 (by decide +kernel) ⟨rfl, rfl⟩ ⟨Nat.le_of_ble_eq_true rfl, Nat.le_of_ble_eq_true rfl⟩ rfl hl.1 rfl (Nat.le_of_ble_eq_true rfl) d_L_doing_8 ⟨Nat.le_of_ble_eq_true rfl, Nat.le_of_ble_eq_true rfl⟩ hfind (fun x9 H locs Y => ?_)
  refine lv_astore (lv' := [(6, .ref x9), (0, .ref a), (1, .int x1), (2, .int x2), (3, .int x3), (4, .int x4), (5, .int x5)]) hx hb d_L_doing_22 hl (by decide) rfl (fun ls hl => ?_)
  refine lv_iconst (v := 3) hx hb d_L_doing_24 (by decide) ?_
  exact ret _ _ _ _ _ _ _ _ d_L_doing_25 rfl ⟨rfl, rfl⟩ Y (Nat.le_of_ble_eq_true rfl) (Nat.le_of_ble_eq_true rfl)
set_option maxHeartbeats 4000000 in
set_option maxRecDepth 100000 in
theorem c_L_table_t1 {l : Launch} {D : va_G} {g : Nat → ClassId} {b n : Nat} {A : Nat → Prop} {f : Nat → va_E} (hbA : ∀ q : Nat, A q → b ≤ q) {a fo co qa qt kq ou : Nat} {ac tc po dr : Int32} {x1 x2 x3 x4 x5 : Int32} (oa : fp_o b n f a (ob 7 [.ref fo, .ref co, .ref qa, .int ac, .ref qt, .int tc, .ref kq, .int po, .int dr])) (hT : fp_T l D (TY g) b n y_X_table (fp_ws y_X_table b_X_table 8 (some FieldType.int)) rmT [.ref a, .int x1, .int x2, .int x3, .int x4, .int x5] f "java/lang/IndexOutOfBoundsException") : fp_MX l D (TY g) b n A y_L_table (Cond.codeWith y_L_table b_L_table 8 (some FieldType.int) [(0, 16, 19, 21), (0, 16, 23, 13), (0, 16, 27, 15)] :: TG) rmW 1 6 [.ref a, .int x1, .int x2, .int x3, .int x4, .int x5, .ref ou] f (fun v f' => v = some (.int 1) ∧ f' = f) := by
  refine fp_ofX (by decide) (Nat.le_of_ble_eq_true rfl) ?_
  intro p e s m args below meth c Q ls H locs X Y hl hEx htab ret
  have hx := X.1.1
  have hb := X.1.2.1
  have hl : lv_has ls 8 [(0, .ref a), (1, .int x1), (2, .int x2), (3, .int x3), (4, .int x4), (5, .int x5), (6, .ref ou)] := hl
  refine lv_aload hx hb d_L_table_0 (lv_at hl 6 rfl) ?_
  refine lv_iconst (v := 0) hx hb d_L_table_2 (by decide) ?_
  refine lv_aload_n hx hb d_L_table_3 rfl (lv_at hl 0 rfl) ?_
  refine lv_iload_n hx hb d_L_table_4 rfl (lv_at hl 1 rfl) ?_
  refine lv_iload_n hx hb d_L_table_5 rfl (lv_at hl 2 rfl) ?_
  refine lv_iload_n hx hb d_L_table_6 rfl (lv_at hl 3 rfl) ?_
  refine lv_iload hx hb d_L_table_7 (lv_at hl 4 rfl) ?_
  refine lv_iload hx hb d_L_table_9 (lv_at hl 5 rfl) ?_
  have hfind : ∀ (S : State) (x : Addr) (cell : Cell), s.WarmedH S.vm → S.heap[x]? = some cell → cell.vm = .none → s.vm.findClass "java/lang/IndexOutOfBoundsException" = some cell.cls → e.platform.magicAccessors = ({} : Platform).magicAccessors → ∃ vm', s.WarmedH vm' ∧ ∀ (Q : Handler → Pre) (E : CtlPost) (d : Bool) (acts : List Action), wp (findHandler.go (F0 m 11 ls [.int 0, .ref ou]) x c.exceptionTable.toList) Q E e d acts S ↔ Q (.found 19) d acts (S.setVm vm') := by
    intro S0 x cell hW0 hc0 hv hcl hpl
    rw [htab]
    exact fh_hit hpl hW0 X.1.2.2.2.1 (X.1.2.2.2.2 _ w416) rfl (by decide) hc0 hv hcl
  refine fp_callT (nA := 5) (As := [.int x1, .int x2, .int x3, .int x4, .int x5]) (rest := [.int 0, .ref ou]) X Y hEx hbA hT oa rfl w491 w488 w489 w490 w1 (by decide +kernel) ⟨rfl, rfl⟩ ⟨Nat.le_of_ble_eq_true rfl, Nat.le_of_ble_eq_true rfl⟩ rfl hl.1 rfl (Nat.le_of_ble_eq_true rfl) d_L_table_11 ⟨Nat.le_of_ble_eq_true rfl, Nat.le_of_ble_eq_true rfl⟩ hfind (fun x9 H locs Y => ?_)
  refine lv_astore (lv' := [(7, .ref x9), (0, .ref a), (1, .int x1), (2, .int x2), (3, .int x3), (4, .int x4), (5, .int x5), (6, .ref ou)]) hx hb d_L_table_19 hl (by decide) rfl (fun ls hl => ?_)
  refine lv_iconst (v := 1) hx hb d_L_table_21 (by decide) ?_
  exact ret _ _ _ _ _ _ _ _ d_L_table_22 rfl ⟨rfl, rfl⟩ Y (Nat.le_of_ble_eq_true rfl) (Nat.le_of_ble_eq_true rfl)
set_option maxHeartbeats 4000000 in
set_option maxRecDepth 100000 in
theorem c_L_table_t2 {l : Launch} {D : va_G} {g : Nat → ClassId} {b n : Nat} {A : Nat → Prop} {f : Nat → va_E} (hbA : ∀ q : Nat, A q → b ≤ q) {a fo co qa qt kq ou : Nat} {ac tc po dr : Int32} {x1 x2 x3 x4 x5 : Int32} (oa : fp_o b n f a (ob 7 [.ref fo, .ref co, .ref qa, .int ac, .ref qt, .int tc, .ref kq, .int po, .int dr])) (hT : fp_T l D (TY g) b n y_X_table (fp_ws y_X_table b_X_table 8 (some FieldType.int)) rmT [.ref a, .int x1, .int x2, .int x3, .int x4, .int x5] f "java/lang/IllegalArgumentException") : fp_MX l D (TY g) b n A y_L_table (Cond.codeWith y_L_table b_L_table 8 (some FieldType.int) [(0, 16, 19, 21), (0, 16, 23, 13), (0, 16, 27, 15)] :: TG) rmW 1 6 [.ref a, .int x1, .int x2, .int x3, .int x4, .int x5, .ref ou] f (fun v f' => v = some (.int 2) ∧ f' = f) := by
  refine fp_ofX (by decide) (Nat.le_of_ble_eq_true rfl) ?_
  intro p e s m args below meth c Q ls H locs X Y hl hEx htab ret
  have hx := X.1.1
  have hb := X.1.2.1
  have hl : lv_has ls 8 [(0, .ref a), (1, .int x1), (2, .int x2), (3, .int x3), (4, .int x4), (5, .int x5), (6, .ref ou)] := hl
  refine lv_aload hx hb d_L_table_0 (lv_at hl 6 rfl) ?_
  refine lv_iconst (v := 0) hx hb d_L_table_2 (by decide) ?_
  refine lv_aload_n hx hb d_L_table_3 rfl (lv_at hl 0 rfl) ?_
  refine lv_iload_n hx hb d_L_table_4 rfl (lv_at hl 1 rfl) ?_
  refine lv_iload_n hx hb d_L_table_5 rfl (lv_at hl 2 rfl) ?_
  refine lv_iload_n hx hb d_L_table_6 rfl (lv_at hl 3 rfl) ?_
  refine lv_iload hx hb d_L_table_7 (lv_at hl 4 rfl) ?_
  refine lv_iload hx hb d_L_table_9 (lv_at hl 5 rfl) ?_
  have hfind : ∀ (S : State) (x : Addr) (cell : Cell), s.WarmedH S.vm → S.heap[x]? = some cell → cell.vm = .none → s.vm.findClass "java/lang/IllegalArgumentException" = some cell.cls → e.platform.magicAccessors = ({} : Platform).magicAccessors → ∃ vm', s.WarmedH vm' ∧ ∀ (Q : Handler → Pre) (E : CtlPost) (d : Bool) (acts : List Action), wp (findHandler.go (F0 m 11 ls [.int 0, .ref ou]) x c.exceptionTable.toList) Q E e d acts S ↔ Q (.found 23) d acts (S.setVm vm') := by
    intro S0 x cell hW0 hc0 hv hcl hpl
    rw [htab]
    exact fh_miss hpl hW0 X.1.2.2.2.1 (X.1.2.2.2.2 _ w416) rfl (by decide) hc0 hv hcl (hEx.2.2.2 ("java/lang/IllegalArgumentException", "java/lang/IndexOutOfBoundsException") (by decide)) (fun S1 hW1 hc1 => fh_hit hpl hW1 X.1.2.2.2.1 (X.1.2.2.2.2 _ w314) rfl (by decide) hc1 hv hcl)
  refine fp_callT (nA := 5) (As := [.int x1, .int x2, .int x3, .int x4, .int x5]) (rest := [.int 0, .ref ou]) X Y hEx hbA hT oa rfl w491 w488 w489 w490 w1 (by decide +kernel) ⟨rfl, rfl⟩ ⟨Nat.le_of_ble_eq_true rfl, Nat.le_of_ble_eq_true rfl⟩ rfl hl.1 rfl (Nat.le_of_ble_eq_true rfl) d_L_table_11 ⟨Nat.le_of_ble_eq_true rfl, Nat.le_of_ble_eq_true rfl⟩ hfind (fun x9 H locs Y => ?_)
  refine lv_astore (lv' := [(7, .ref x9), (0, .ref a), (1, .int x1), (2, .int x2), (3, .int x3), (4, .int x4), (5, .int x5), (6, .ref ou)]) hx hb d_L_table_23 hl (by decide) rfl (fun ls hl => ?_)
  refine lv_iconst (v := 2) hx hb d_L_table_25 (by decide) ?_
  exact ret _ _ _ _ _ _ _ _ d_L_table_26 rfl ⟨rfl, rfl⟩ Y (Nat.le_of_ble_eq_true rfl) (Nat.le_of_ble_eq_true rfl)
set_option maxHeartbeats 4000000 in
set_option maxRecDepth 100000 in
theorem c_L_table_t3 {l : Launch} {D : va_G} {g : Nat → ClassId} {b n : Nat} {A : Nat → Prop} {f : Nat → va_E} (hbA : ∀ q : Nat, A q → b ≤ q) {a fo co qa qt kq ou : Nat} {ac tc po dr : Int32} {x1 x2 x3 x4 x5 : Int32} (oa : fp_o b n f a (ob 7 [.ref fo, .ref co, .ref qa, .int ac, .ref qt, .int tc, .ref kq, .int po, .int dr])) (hT : fp_T l D (TY g) b n y_X_table (fp_ws y_X_table b_X_table 8 (some FieldType.int)) rmT [.ref a, .int x1, .int x2, .int x3, .int x4, .int x5] f "java/lang/IllegalStateException") : fp_MX l D (TY g) b n A y_L_table (Cond.codeWith y_L_table b_L_table 8 (some FieldType.int) [(0, 16, 19, 21), (0, 16, 23, 13), (0, 16, 27, 15)] :: TG) rmW 1 6 [.ref a, .int x1, .int x2, .int x3, .int x4, .int x5, .ref ou] f (fun v f' => v = some (.int 3) ∧ f' = f) := by
  refine fp_ofX (by decide) (Nat.le_of_ble_eq_true rfl) ?_
  intro p e s m args below meth c Q ls H locs X Y hl hEx htab ret
  have hx := X.1.1
  have hb := X.1.2.1
  have hl : lv_has ls 8 [(0, .ref a), (1, .int x1), (2, .int x2), (3, .int x3), (4, .int x4), (5, .int x5), (6, .ref ou)] := hl
  refine lv_aload hx hb d_L_table_0 (lv_at hl 6 rfl) ?_
  refine lv_iconst (v := 0) hx hb d_L_table_2 (by decide) ?_
  refine lv_aload_n hx hb d_L_table_3 rfl (lv_at hl 0 rfl) ?_
  refine lv_iload_n hx hb d_L_table_4 rfl (lv_at hl 1 rfl) ?_
  refine lv_iload_n hx hb d_L_table_5 rfl (lv_at hl 2 rfl) ?_
  refine lv_iload_n hx hb d_L_table_6 rfl (lv_at hl 3 rfl) ?_
  refine lv_iload hx hb d_L_table_7 (lv_at hl 4 rfl) ?_
  refine lv_iload hx hb d_L_table_9 (lv_at hl 5 rfl) ?_
  have hfind : ∀ (S : State) (x : Addr) (cell : Cell), s.WarmedH S.vm → S.heap[x]? = some cell → cell.vm = .none → s.vm.findClass "java/lang/IllegalStateException" = some cell.cls → e.platform.magicAccessors = ({} : Platform).magicAccessors → ∃ vm', s.WarmedH vm' ∧ ∀ (Q : Handler → Pre) (E : CtlPost) (d : Bool) (acts : List Action), wp (findHandler.go (F0 m 11 ls [.int 0, .ref ou]) x c.exceptionTable.toList) Q E e d acts S ↔ Q (.found 27) d acts (S.setVm vm') := by
    intro S0 x cell hW0 hc0 hv hcl hpl
    rw [htab]
    exact fh_miss hpl hW0 X.1.2.2.2.1 (X.1.2.2.2.2 _ w416) rfl (by decide) hc0 hv hcl (hEx.2.2.2 ("java/lang/IllegalStateException", "java/lang/IndexOutOfBoundsException") (by decide)) (fun S1 hW1 hc1 => fh_miss hpl hW1 X.1.2.2.2.1 (X.1.2.2.2.2 _ w314) rfl (by decide) hc1 hv hcl (hEx.2.2.2 ("java/lang/IllegalStateException", "java/lang/IllegalArgumentException") (by decide)) (fun S2 hW2 hc2 => fh_hit hpl hW2 X.1.2.2.2.1 (X.1.2.2.2.2 _ w315) rfl (by decide) hc2 hv hcl))
  refine fp_callT (nA := 5) (As := [.int x1, .int x2, .int x3, .int x4, .int x5]) (rest := [.int 0, .ref ou]) X Y hEx hbA hT oa rfl w491 w488 w489 w490 w1 (by decide +kernel) ⟨rfl, rfl⟩ ⟨Nat.le_of_ble_eq_true rfl, Nat.le_of_ble_eq_true rfl⟩ rfl hl.1 rfl (Nat.le_of_ble_eq_true rfl) d_L_table_11 ⟨Nat.le_of_ble_eq_true rfl, Nat.le_of_ble_eq_true rfl⟩ hfind (fun x9 H locs Y => ?_)
  refine lv_astore (lv' := [(7, .ref x9), (0, .ref a), (1, .int x1), (2, .int x2), (3, .int x3), (4, .int x4), (5, .int x5), (6, .ref ou)]) hx hb d_L_table_27 hl (by decide) rfl (fun ls hl => ?_)
  refine lv_iconst (v := 3) hx hb d_L_table_29 (by decide) ?_
  exact ret _ _ _ _ _ _ _ _ d_L_table_30 rfl ⟨rfl, rfl⟩ Y (Nat.le_of_ble_eq_true rfl) (Nat.le_of_ble_eq_true rfl)
set_option maxHeartbeats 4000000 in
set_option maxRecDepth 100000 in
theorem c_L_insert_t1 {l : Launch} {D : va_G} {g : Nat → ClassId} {b n : Nat} {A : Nat → Prop} {f : Nat → va_E} (hbA : ∀ q : Nat, A q → b ≤ q) {a fo co qa qt kq ou : Nat} {ac tc po dr : Int32} {x1 x2 x3 x4 x5 : Int32} (oa : fp_o b n f a (ob 7 [.ref fo, .ref co, .ref qa, .int ac, .ref qt, .int tc, .ref kq, .int po, .int dr])) (hT : fp_T l D (TY g) b n y_X_insert (fp_ws y_X_insert b_X_insert 6 (some FieldType.boolean)) rmT [.ref a, .int x1, .int x2, .int x3, .int x4, .int x5] f "java/lang/IndexOutOfBoundsException") : fp_MX l D (TY g) b n A y_L_insert (Cond.codeWith y_L_insert b_L_insert 8 (some FieldType.int) [(0, 23, 26, 21)] :: TG) rmW 1 6 [.ref a, .int x1, .int x2, .int x3, .int x4, .int x5, .ref ou] f (fun v f' => v = some (.int 1) ∧ f' = f) := by
  refine fp_ofX (by decide) (Nat.le_of_ble_eq_true rfl) ?_
  intro p e s m args below meth c Q ls H locs X Y hl hEx htab ret
  have hx := X.1.1
  have hb := X.1.2.1
  have hl : lv_has ls 8 [(0, .ref a), (1, .int x1), (2, .int x2), (3, .int x3), (4, .int x4), (5, .int x5), (6, .ref ou)] := hl
  refine lv_aload hx hb d_L_insert_0 (lv_at hl 6 rfl) ?_
  refine lv_iconst (v := 0) hx hb d_L_insert_2 (by decide) ?_
  refine lv_aload_n hx hb d_L_insert_3 rfl (lv_at hl 0 rfl) ?_
  refine lv_iload_n hx hb d_L_insert_4 rfl (lv_at hl 1 rfl) ?_
  refine lv_iload_n hx hb d_L_insert_5 rfl (lv_at hl 2 rfl) ?_
  refine lv_iload_n hx hb d_L_insert_6 rfl (lv_at hl 3 rfl) ?_
  refine lv_iload hx hb d_L_insert_7 (lv_at hl 4 rfl) ?_
  refine lv_iload hx hb d_L_insert_9 (lv_at hl 5 rfl) ?_
  have hfind : ∀ (S : State) (x : Addr) (cell : Cell), s.WarmedH S.vm → S.heap[x]? = some cell → cell.vm = .none → s.vm.findClass "java/lang/IndexOutOfBoundsException" = some cell.cls → e.platform.magicAccessors = ({} : Platform).magicAccessors → ∃ vm', s.WarmedH vm' ∧ ∀ (Q : Handler → Pre) (E : CtlPost) (d : Bool) (acts : List Action), wp (findHandler.go (F0 m 11 ls [.int 0, .ref ou]) x c.exceptionTable.toList) Q E e d acts S ↔ Q (.found 26) d acts (S.setVm vm') := by
    intro S0 x cell hW0 hc0 hv hcl hpl
    rw [htab]
    exact fh_hit hpl hW0 X.1.2.2.2.1 (X.1.2.2.2.2 _ w416) rfl (by decide) hc0 hv hcl
  refine fp_callT (nA := 5) (As := [.int x1, .int x2, .int x3, .int x4, .int x5]) (rest := [.int 0, .ref ou]) X Y hEx hbA hT oa rfl w528 w525 w526 w527 w1 (by decide +kernel) ⟨rfl, rfl⟩ ⟨Nat.le_of_ble_eq_true rfl, Nat.le_of_ble_eq_true rfl⟩ rfl hl.1 rfl (Nat.le_of_ble_eq_true rfl) d_L_insert_11 ⟨Nat.le_of_ble_eq_true rfl, Nat.le_of_ble_eq_true rfl⟩ hfind (fun x9 H locs Y => ?_)
  refine lv_astore (lv' := [(7, .ref x9), (0, .ref a), (1, .int x1), (2, .int x2), (3, .int x3), (4, .int x4), (5, .int x5), (6, .ref ou)]) hx hb d_L_insert_26 hl (by decide) rfl (fun ls hl => ?_)
  refine lv_iconst (v := 1) hx hb d_L_insert_28 (by decide) ?_
  exact ret _ _ _ _ _ _ _ _ d_L_insert_29 rfl ⟨rfl, rfl⟩ Y (Nat.le_of_ble_eq_true rfl) (Nat.le_of_ble_eq_true rfl)
set_option maxHeartbeats 4000000 in
set_option maxRecDepth 100000 in
theorem c_L_remove_t1 {l : Launch} {D : va_G} {g : Nat → ClassId} {b n : Nat} {A : Nat → Prop} {f : Nat → va_E} (hbA : ∀ q : Nat, A q → b ≤ q) {a fo co qa qt kq ou : Nat} {ac tc po dr : Int32} {x1 : Int32} (oa : fp_o b n f a (ob 7 [.ref fo, .ref co, .ref qa, .int ac, .ref qt, .int tc, .ref kq, .int po, .int dr])) (hT : fp_T l D (TY g) b n y_X_remove (fp_ws y_X_remove b_X_remove 2 (some FieldType.boolean)) rmT [.ref a, .int x1] f "java/lang/IndexOutOfBoundsException") : fp_MX l D (TY g) b n A y_L_remove (Cond.codeWith y_L_remove b_L_remove 4 (some FieldType.int) [(0, 16, 19, 21)] :: TG) rmW 1 6 [.ref a, .int x1, .ref ou] f (fun v f' => v = some (.int 1) ∧ f' = f) := by
  refine fp_ofX (by decide) (Nat.le_of_ble_eq_true rfl) ?_
  intro p e s m args below meth c Q ls H locs X Y hl hEx htab ret
  have hx := X.1.1
  have hb := X.1.2.1
  have hl : lv_has ls 4 [(0, .ref a), (1, .int x1), (2, .ref ou)] := hl
  refine lv_aload_n hx hb d_L_remove_0 rfl (lv_at hl 2 rfl) ?_
  refine lv_iconst (v := 0) hx hb d_L_remove_1 (by decide) ?_
  refine lv_aload_n hx hb d_L_remove_2 rfl (lv_at hl 0 rfl) ?_
  refine lv_iload_n hx hb d_L_remove_3 rfl (lv_at hl 1 rfl) ?_
  have hfind : ∀ (S : State) (x : Addr) (cell : Cell), s.WarmedH S.vm → S.heap[x]? = some cell → cell.vm = .none → s.vm.findClass "java/lang/IndexOutOfBoundsException" = some cell.cls → e.platform.magicAccessors = ({} : Platform).magicAccessors → ∃ vm', s.WarmedH vm' ∧ ∀ (Q : Handler → Pre) (E : CtlPost) (d : Bool) (acts : List Action), wp (findHandler.go (F0 m 4 ls [.int 0, .ref ou]) x c.exceptionTable.toList) Q E e d acts S ↔ Q (.found 19) d acts (S.setVm vm') := by
    intro S0 x cell hW0 hc0 hv hcl hpl
    rw [htab]
    exact fh_hit hpl hW0 X.1.2.2.2.1 (X.1.2.2.2.2 _ w416) rfl (by decide) hc0 hv hcl
  refine fp_callT (nA := 1) (As := [.int x1]) (rest := [.int 0, .ref ou]) X Y hEx hbA hT oa rfl w564 w561 w562 w563 w1 (by decide +kernel) ⟨rfl, rfl⟩ ⟨Nat.le_of_ble_eq_true rfl, Nat.le_of_ble_eq_true rfl⟩ rfl hl.1 rfl (Nat.le_of_ble_eq_true rfl) d_L_remove_4 ⟨Nat.le_of_ble_eq_true rfl, Nat.le_of_ble_eq_true rfl⟩ hfind (fun x9 H locs Y => ?_)
  refine lv_astore_n (lv' := [(3, .ref x9), (0, .ref a), (1, .int x1), (2, .ref ou)]) hx hb d_L_remove_19 rfl hl (by decide) rfl (fun ls hl => ?_)
  refine lv_iconst (v := 1) hx hb d_L_remove_20 (by decide) ?_
  exact ret _ _ _ _ _ _ _ _ d_L_remove_21 rfl ⟨rfl, rfl⟩ Y (Nat.le_of_ble_eq_true rfl) (Nat.le_of_ble_eq_true rfl)
set_option maxHeartbeats 4000000 in
set_option maxRecDepth 100000 in
theorem c_L_act_t1 {l : Launch} {D : va_G} {g : Nat → ClassId} {b n : Nat} {A : Nat → Prop} {f : Nat → va_E} (hbA : ∀ q : Nat, A q → b ≤ q) {a fo co qa qt kq ou : Nat} {ac tc po dr : Int32} {x1 : Int32} (oa : fp_o b n f a (ob 7 [.ref fo, .ref co, .ref qa, .int ac, .ref qt, .int tc, .ref kq, .int po, .int dr])) (hT : fp_T l D (TY g) b n y_X_act (fp_ws y_X_act b_X_act 3 (some FieldType.boolean)) rmT [.ref a, .int x1] f "java/lang/IndexOutOfBoundsException") : fp_MX l D (TY g) b n A y_L_act (Cond.codeWith y_L_act b_L_act 4 (some FieldType.int) [(0, 16, 19, 21)] :: TG) rmW 1 6 [.ref a, .int x1, .ref ou] f (fun v f' => v = some (.int 1) ∧ f' = f) := by
  refine fp_ofX (by decide) (Nat.le_of_ble_eq_true rfl) ?_
  intro p e s m args below meth c Q ls H locs X Y hl hEx htab ret
  have hx := X.1.1
  have hb := X.1.2.1
  have hl : lv_has ls 4 [(0, .ref a), (1, .int x1), (2, .ref ou)] := hl
  refine lv_aload_n hx hb d_L_act_0 rfl (lv_at hl 2 rfl) ?_
  refine lv_iconst (v := 0) hx hb d_L_act_1 (by decide) ?_
  refine lv_aload_n hx hb d_L_act_2 rfl (lv_at hl 0 rfl) ?_
  refine lv_iload_n hx hb d_L_act_3 rfl (lv_at hl 1 rfl) ?_
  have hfind : ∀ (S : State) (x : Addr) (cell : Cell), s.WarmedH S.vm → S.heap[x]? = some cell → cell.vm = .none → s.vm.findClass "java/lang/IndexOutOfBoundsException" = some cell.cls → e.platform.magicAccessors = ({} : Platform).magicAccessors → ∃ vm', s.WarmedH vm' ∧ ∀ (Q : Handler → Pre) (E : CtlPost) (d : Bool) (acts : List Action), wp (findHandler.go (F0 m 4 ls [.int 0, .ref ou]) x c.exceptionTable.toList) Q E e d acts S ↔ Q (.found 19) d acts (S.setVm vm') := by
    intro S0 x cell hW0 hc0 hv hcl hpl
    rw [htab]
    exact fh_hit hpl hW0 X.1.2.2.2.1 (X.1.2.2.2.2 _ w416) rfl (by decide) hc0 hv hcl
  refine fp_callT (nA := 1) (As := [.int x1]) (rest := [.int 0, .ref ou]) X Y hEx hbA hT oa rfl w575 w572 w573 w574 w1 (by decide +kernel) ⟨rfl, rfl⟩ ⟨Nat.le_of_ble_eq_true rfl, Nat.le_of_ble_eq_true rfl⟩ rfl hl.1 rfl (Nat.le_of_ble_eq_true rfl) d_L_act_4 ⟨Nat.le_of_ble_eq_true rfl, Nat.le_of_ble_eq_true rfl⟩ hfind (fun x9 H locs Y => ?_)
  refine lv_astore_n (lv' := [(3, .ref x9), (0, .ref a), (1, .int x1), (2, .ref ou)]) hx hb d_L_act_19 rfl hl (by decide) rfl (fun ls hl => ?_)
  refine lv_iconst (v := 1) hx hb d_L_act_20 (by decide) ?_
  exact ret _ _ _ _ _ _ _ _ d_L_act_21 rfl ⟨rfl, rfl⟩ Y (Nat.le_of_ble_eq_true rfl) (Nat.le_of_ble_eq_true rfl)
set_option maxHeartbeats 4000000 in
set_option maxRecDepth 100000 in
theorem c_L_field_ok {l : Launch} {D : va_G} {g : Nat → ClassId} {b n : Nat} {A : Nat → Prop} {f : Nat → va_E} (hbA : ∀ q : Nat, A q → b ≤ q) {a fo co qa qt kq ou : Nat} {ac tc po dr : Int32} {x1 : Int32} {f1 : Nat → va_E} {r : Int32} {zo : Nat → Int64} {rm : Room} (hrc : rm.cells = 0 ∧ rm.slots = 0) (hrf : rm.frames ≤ 8 ∧ rm.locals ≤ 300) (oa : fp_o b n f a (ob 7 [.ref fo, .ref co, .ref qa, .int ac, .ref qt, .int tc, .ref kq, .int po, .int dr])) (oo : fp_o b n f1 ou (aL g 1 zo)) (hA : fp_W b n A) (hM : fp_M l D (TY g) b n A y_X_field (fp_ws y_X_field b_X_field 2 (some FieldType.int)) rm [.ref a, .int x1] f (fun v f' => v = some (.int r) ∧ f' = f1)) : fp_MX l D (TY g) b n A y_L_field (Cond.codeWith y_L_field b_L_field 4 (some FieldType.int) [(0, 9, 12, 13), (0, 9, 15, 15)] :: TG) rmW 1 6 [.ref a, .int x1, .ref ou] f (fun v f' => v = some (.int 0) ∧ f' = va_up f1 ou (aL g 1 (vp_updL zo 0 r.toInt64))) := by
  refine fp_ofX (by decide) (Nat.le_of_ble_eq_true rfl) ?_
  intro p e s m args below meth c Q ls H locs X Y hl hEx htab ret
  have hx := X.1.1
  have hb := X.1.2.1
  have hl : lv_has ls 4 [(0, .ref a), (1, .int x1), (2, .ref ou)] := hl
  refine lv_aload_n hx hb d_L_field_0 rfl (lv_at hl 2 rfl) ?_
  refine lv_iconst (v := 0) hx hb d_L_field_1 (by decide) ?_
  refine lv_aload_n hx hb d_L_field_2 rfl (lv_at hl 0 rfl) ?_
  refine lv_iload_n hx hb d_L_field_3 rfl (lv_at hl 1 rfl) ?_
  refine fp_callV (nA := 1) (As := [.int x1]) (rest := [.int 0, .ref ou]) X Y hM oa rfl w319 w316 w317 w318 w1 (by decide +kernel) hrc ⟨by have := hrf.1; show _ ≤ 9; omega, by have := hrf.2; show _ ≤ 330; omega⟩ rfl hl.1 rfl (Nat.le_of_ble_eq_true rfl) d_L_field_4 ⟨Nat.zero_le _, Nat.zero_le _⟩ (fun v9 f9 H locs hp9 Y => ?_)
  obtain ⟨e8, e9⟩ := hp9
  subst e8
  rw [e9] at Y
  refine W.eq (g2 := F0 m 7 ls [.int r, .int 0, .ref ou]) rfl ?_
  refine lv_i2l hx hb d_L_field_7 rfl ?_
  refine fp_lst X Y oo 0 rfl (by decide) (by decide) d_L_field_8 (fun H locs Y => ?_)
  have Y : fp_H D b n A (va_up f1 ou (aL g 1 (vp_updL zo 0 r.toInt64))) s.heap H locs := Y
  have oo : fp_o b n (va_up f1 ou (aL g 1 (vp_updL zo 0 r.toInt64))) ou (aL g 1 (vp_updL zo 0 r.toInt64)) := fp_o.up oo
  refine lv_goto (tgt := 18) hx hb d_L_field_9 (by decide) ?_
  refine lv_iconst (v := 0) hx hb d_L_field_18 (by decide) ?_
  exact ret _ _ _ _ _ _ _ _ d_L_field_19 rfl ⟨rfl, rfl⟩ Y (Nat.le_of_ble_eq_true rfl) (Nat.le_of_ble_eq_true rfl)
set_option maxHeartbeats 4000000 in
set_option maxRecDepth 100000 in
theorem c_L_set_ok {l : Launch} {D : va_G} {g : Nat → ClassId} {b n : Nat} {A : Nat → Prop} {f : Nat → va_E} (hbA : ∀ q : Nat, A q → b ≤ q) {a fo co qa qt kq ou : Nat} {ac tc po dr : Int32} {x1 x2 : Int32} {f1 : Nat → va_E}  {rm : Room} (hrc : rm.cells = 0 ∧ rm.slots = 0) (hrf : rm.frames ≤ 8 ∧ rm.locals ≤ 300) (oa : fp_o b n f a (ob 7 [.ref fo, .ref co, .ref qa, .int ac, .ref qt, .int tc, .ref kq, .int po, .int dr]))  (hM : fp_M l D (TY g) b n A y_X_set (fp_ws y_X_set b_X_set 3 none) rm [.ref a, .int x1, .int x2] f (fun v f' => v = none ∧ f' = f1)) : fp_MX l D (TY g) b n A y_L_set (Cond.codeWith y_L_set b_L_set 4 (some FieldType.int) [(0, 6, 9, 21)] :: TG) rmW 1 6 [.ref a, .int x1, .int x2] f (fun v f' => v = some (.int 0) ∧ f' = f1) := by
  refine fp_ofX (by decide) (Nat.le_of_ble_eq_true rfl) ?_
  intro p e s m args below meth c Q ls H locs X Y hl hEx htab ret
  have hx := X.1.1
  have hb := X.1.2.1
  have hl : lv_has ls 4 [(0, .ref a), (1, .int x1), (2, .int x2)] := hl
  refine lv_aload_n hx hb d_L_set_0 rfl (lv_at hl 0 rfl) ?_
  refine lv_iload_n hx hb d_L_set_1 rfl (lv_at hl 1 rfl) ?_
  refine lv_iload_n hx hb d_L_set_2 rfl (lv_at hl 2 rfl) ?_
  refine fp_callV (nA := 2) (As := [.int x1, .int x2]) (rest := []) X Y hM oa rfl w420 w417 w418 w419 w1 (by decide +kernel) hrc ⟨by have := hrf.1; show _ ≤ 9; omega, by have := hrf.2; show _ ≤ 330; omega⟩ rfl hl.1 rfl (Nat.le_of_ble_eq_true rfl) d_L_set_3 ⟨Nat.zero_le _, Nat.zero_le _⟩ (fun v9 f9 H locs hp9 Y => ?_)
  obtain ⟨e8, e9⟩ := hp9
  subst e8
  rw [e9] at Y
  refine W.eq (g2 := F0 m 6 ls []) rfl ?_
  refine lv_goto (tgt := 12) hx hb d_L_set_6 (by decide) ?_
  refine lv_iconst (v := 0) hx hb d_L_set_12 (by decide) ?_
  exact ret _ _ _ _ _ _ _ _ d_L_set_13 rfl ⟨rfl, rfl⟩ Y (Nat.le_of_ble_eq_true rfl) (Nat.le_of_ble_eq_true rfl)
set_option maxHeartbeats 4000000 in
set_option maxRecDepth 100000 in
theorem c_L_action_ok {l : Launch} {D : va_G} {g : Nat → ClassId} {b n : Nat} {A : Nat → Prop} {f : Nat → va_E} (hbA : ∀ q : Nat, A q → b ≤ q) {a fo co qa qt kq ou : Nat} {ac tc po dr : Int32}  {f1 : Nat → va_E} {r : Int32} {zo : Nat → Int64} {rm : Room} (hrc : rm.cells = 0 ∧ rm.slots = 0) (hrf : rm.frames ≤ 8 ∧ rm.locals ≤ 300) (oa : fp_o b n f a (ob 7 [.ref fo, .ref co, .ref qa, .int ac, .ref qt, .int tc, .ref kq, .int po, .int dr])) (oo : fp_o b n f1 ou (aL g 1 zo)) (hA : fp_W b n A) (hM : fp_M l D (TY g) b n A y_X_action (fp_ws y_X_action b_X_action 2 (some FieldType.int)) rm [.ref a] f (fun v f' => v = some (.int r) ∧ f' = f1)) : fp_MX l D (TY g) b n A y_L_action (Cond.codeWith y_L_action b_L_action 3 (some FieldType.int) [(0, 8, 11, 15)] :: TG) rmW 1 6 [.ref a, .ref ou] f (fun v f' => v = some (.int 0) ∧ f' = va_up f1 ou (aL g 1 (vp_updL zo 0 r.toInt64))) := by
  refine fp_ofX (by decide) (Nat.le_of_ble_eq_true rfl) ?_
  intro p e s m args below meth c Q ls H locs X Y hl hEx htab ret
  have hx := X.1.1
  have hb := X.1.2.1
  have hl : lv_has ls 3 [(0, .ref a), (1, .ref ou)] := hl
  refine lv_aload_n hx hb d_L_action_0 rfl (lv_at hl 1 rfl) ?_
  refine lv_iconst (v := 0) hx hb d_L_action_1 (by decide) ?_
  refine lv_aload_n hx hb d_L_action_2 rfl (lv_at hl 0 rfl) ?_
  refine fp_callV (nA := 0) (As := []) (rest := [.int 0, .ref ou]) X Y hM oa rfl w448 w445 w446 w447 w1 (by decide +kernel) hrc ⟨by have := hrf.1; show _ ≤ 9; omega, by have := hrf.2; show _ ≤ 330; omega⟩ rfl hl.1 rfl (Nat.le_of_ble_eq_true rfl) d_L_action_3 ⟨Nat.zero_le _, Nat.zero_le _⟩ (fun v9 f9 H locs hp9 Y => ?_)
  obtain ⟨e8, e9⟩ := hp9
  subst e8
  rw [e9] at Y
  refine W.eq (g2 := F0 m 6 ls [.int r, .int 0, .ref ou]) rfl ?_
  refine lv_i2l hx hb d_L_action_6 rfl ?_
  refine fp_lst X Y oo 0 rfl (by decide) (by decide) d_L_action_7 (fun H locs Y => ?_)
  have Y : fp_H D b n A (va_up f1 ou (aL g 1 (vp_updL zo 0 r.toInt64))) s.heap H locs := Y
  have oo : fp_o b n (va_up f1 ou (aL g 1 (vp_updL zo 0 r.toInt64))) ou (aL g 1 (vp_updL zo 0 r.toInt64)) := fp_o.up oo
  refine lv_goto (tgt := 14) hx hb d_L_action_8 (by decide) ?_
  refine lv_iconst (v := 0) hx hb d_L_action_14 (by decide) ?_
  exact ret _ _ _ _ _ _ _ _ d_L_action_15 rfl ⟨rfl, rfl⟩ Y (Nat.le_of_ble_eq_true rfl) (Nat.le_of_ble_eq_true rfl)
set_option maxHeartbeats 4000000 in
set_option maxRecDepth 100000 in
theorem c_L_doing_ok {l : Launch} {D : va_G} {g : Nat → ClassId} {b n : Nat} {A : Nat → Prop} {f : Nat → va_E} (hbA : ∀ q : Nat, A q → b ≤ q) {a fo co qa qt kq ou : Nat} {ac tc po dr : Int32} {x1 x2 x3 x4 x5 : Int32} {f1 : Nat → va_E}  {rm : Room} (hrc : rm.cells = 0 ∧ rm.slots = 0) (hrf : rm.frames ≤ 8 ∧ rm.locals ≤ 300) (oa : fp_o b n f a (ob 7 [.ref fo, .ref co, .ref qa, .int ac, .ref qt, .int tc, .ref kq, .int po, .int dr]))  (hM : fp_M l D (TY g) b n A y_X_doing (fp_ws y_X_doing b_X_doing 6 none) rm [.ref a, .int x1, .int x2, .int x3, .int x4, .int x5] f (fun v f' => v = none ∧ f' = f1)) : fp_MX l D (TY g) b n A y_L_doing (Cond.codeWith y_L_doing b_L_doing 7 (some FieldType.int) [(0, 11, 14, 21), (0, 11, 18, 13), (0, 11, 22, 15)] :: TG) rmW 1 6 [.ref a, .int x1, .int x2, .int x3, .int x4, .int x5] f (fun v f' => v = some (.int 0) ∧ f' = f1) := by
  refine fp_ofX (by decide) (Nat.le_of_ble_eq_true rfl) ?_
  intro p e s m args below meth c Q ls H locs X Y hl hEx htab ret
  have hx := X.1.1
  have hb := X.1.2.1
  have hl : lv_has ls 7 [(0, .ref a), (1, .int x1), (2, .int x2), (3, .int x3), (4, .int x4), (5, .int x5)] := hl
  refine lv_aload_n hx hb d_L_doing_0 rfl (lv_at hl 0 rfl) ?_
  refine lv_iload_n hx hb d_L_doing_1 rfl (lv_at hl 1 rfl) ?_
  refine lv_iload_n hx hb d_L_doing_2 rfl (lv_at hl 2 rfl) ?_
  refine lv_iload_n hx hb d_L_doing_3 rfl (lv_at hl 3 rfl) ?_
  refine lv_iload hx hb d_L_doing_4 (lv_at hl 4 rfl) ?_
  refine lv_iload hx hb d_L_doing_6 (lv_at hl 5 rfl) ?_
  refine fp_callV (nA := 5) (As := [.int x1, .int x2, .int x3, .int x4, .int x5]) (rest := []) X Y hM oa rfl w460 w457 w458 w459 w1 (by decide +kernel) hrc ⟨by have := hrf.1; show _ ≤ 9; omega, by have := hrf.2; show _ ≤ 330; omega⟩ rfl hl.1 rfl (Nat.le_of_ble_eq_true rfl) d_L_doing_8 ⟨Nat.zero_le _, Nat.zero_le _⟩ (fun v9 f9 H locs hp9 Y => ?_)
  obtain ⟨e8, e9⟩ := hp9
  subst e8
  rw [e9] at Y
  refine W.eq (g2 := F0 m 11 ls []) rfl ?_
  refine lv_goto (tgt := 26) hx hb d_L_doing_11 (by decide) ?_
  refine lv_iconst (v := 0) hx hb d_L_doing_26 (by decide) ?_
  exact ret _ _ _ _ _ _ _ _ d_L_doing_27 rfl ⟨rfl, rfl⟩ Y (Nat.le_of_ble_eq_true rfl) (Nat.le_of_ble_eq_true rfl)
set_option maxHeartbeats 4000000 in
set_option maxRecDepth 100000 in
theorem c_L_table_ok {l : Launch} {D : va_G} {g : Nat → ClassId} {b n : Nat} {A : Nat → Prop} {f : Nat → va_E} (hbA : ∀ q : Nat, A q → b ≤ q) {a fo co qa qt kq ou : Nat} {ac tc po dr : Int32} {x1 x2 x3 x4 x5 : Int32} {f1 : Nat → va_E} {r : Int32} {zo : Nat → Int64} {rm : Room} (hrc : rm.cells = 0 ∧ rm.slots = 0) (hrf : rm.frames ≤ 8 ∧ rm.locals ≤ 300) (oa : fp_o b n f a (ob 7 [.ref fo, .ref co, .ref qa, .int ac, .ref qt, .int tc, .ref kq, .int po, .int dr])) (oo : fp_o b n f1 ou (aL g 1 zo)) (hA : fp_W b n A) (hM : fp_M l D (TY g) b n A y_X_table (fp_ws y_X_table b_X_table 8 (some FieldType.int)) rm [.ref a, .int x1, .int x2, .int x3, .int x4, .int x5] f (fun v f' => v = some (.int r) ∧ f' = f1)) : fp_MX l D (TY g) b n A y_L_table (Cond.codeWith y_L_table b_L_table 8 (some FieldType.int) [(0, 16, 19, 21), (0, 16, 23, 13), (0, 16, 27, 15)] :: TG) rmW 1 6 [.ref a, .int x1, .int x2, .int x3, .int x4, .int x5, .ref ou] f (fun v f' => v = some (.int 0) ∧ f' = va_up f1 ou (aL g 1 (vp_updL zo 0 r.toInt64))) := by
  refine fp_ofX (by decide) (Nat.le_of_ble_eq_true rfl) ?_
  intro p e s m args below meth c Q ls H locs X Y hl hEx htab ret
  have hx := X.1.1
  have hb := X.1.2.1
  have hl : lv_has ls 8 [(0, .ref a), (1, .int x1), (2, .int x2), (3, .int x3), (4, .int x4), (5, .int x5), (6, .ref ou)] := hl
  refine lv_aload hx hb d_L_table_0 (lv_at hl 6 rfl) ?_
  refine lv_iconst (v := 0) hx hb d_L_table_2 (by decide) ?_
  refine lv_aload_n hx hb d_L_table_3 rfl (lv_at hl 0 rfl) ?_
  refine lv_iload_n hx hb d_L_table_4 rfl (lv_at hl 1 rfl) ?_
  refine lv_iload_n hx hb d_L_table_5 rfl (lv_at hl 2 rfl) ?_
  refine lv_iload_n hx hb d_L_table_6 rfl (lv_at hl 3 rfl) ?_
  refine lv_iload hx hb d_L_table_7 (lv_at hl 4 rfl) ?_
  refine lv_iload hx hb d_L_table_9 (lv_at hl 5 rfl) ?_
  refine fp_callV (nA := 5) (As := [.int x1, .int x2, .int x3, .int x4, .int x5]) (rest := [.int 0, .ref ou]) X Y hM oa rfl w491 w488 w489 w490 w1 (by decide +kernel) hrc ⟨by have := hrf.1; show _ ≤ 9; omega, by have := hrf.2; show _ ≤ 330; omega⟩ rfl hl.1 rfl (Nat.le_of_ble_eq_true rfl) d_L_table_11 ⟨Nat.zero_le _, Nat.zero_le _⟩ (fun v9 f9 H locs hp9 Y => ?_)
  obtain ⟨e8, e9⟩ := hp9
  subst e8
  rw [e9] at Y
  refine W.eq (g2 := F0 m 14 ls [.int r, .int 0, .ref ou]) rfl ?_
  refine lv_i2l hx hb d_L_table_14 rfl ?_
  refine fp_lst X Y oo 0 rfl (by decide) (by decide) d_L_table_15 (fun H locs Y => ?_)
  have Y : fp_H D b n A (va_up f1 ou (aL g 1 (vp_updL zo 0 r.toInt64))) s.heap H locs := Y
  have oo : fp_o b n (va_up f1 ou (aL g 1 (vp_updL zo 0 r.toInt64))) ou (aL g 1 (vp_updL zo 0 r.toInt64)) := fp_o.up oo
  refine lv_goto (tgt := 31) hx hb d_L_table_16 (by decide) ?_
  refine lv_iconst (v := 0) hx hb d_L_table_31 (by decide) ?_
  exact ret _ _ _ _ _ _ _ _ d_L_table_32 rfl ⟨rfl, rfl⟩ Y (Nat.le_of_ble_eq_true rfl) (Nat.le_of_ble_eq_true rfl)
set_option maxHeartbeats 4000000 in
set_option maxRecDepth 100000 in
theorem c_L_insert_ok {l : Launch} {D : va_G} {g : Nat → ClassId} {b n : Nat} {A : Nat → Prop} {f : Nat → va_E} (hbA : ∀ q : Nat, A q → b ≤ q) {a fo co qa qt kq ou : Nat} {ac tc po dr : Int32} {x1 x2 x3 x4 x5 : Int32} {f1 : Nat → va_E} {r : Int32} {zo : Nat → Int64} {rm : Room} (hrc : rm.cells = 0 ∧ rm.slots = 0) (hrf : rm.frames ≤ 8 ∧ rm.locals ≤ 300) (oa : fp_o b n f a (ob 7 [.ref fo, .ref co, .ref qa, .int ac, .ref qt, .int tc, .ref kq, .int po, .int dr])) (oo : fp_o b n f1 ou (aL g 1 zo)) (hA : fp_W b n A) (hM : fp_M l D (TY g) b n A y_X_insert (fp_ws y_X_insert b_X_insert 6 (some FieldType.boolean)) rm [.ref a, .int x1, .int x2, .int x3, .int x4, .int x5] f (fun v f' => v = some (.int r) ∧ f' = f1)) : fp_MX l D (TY g) b n A y_L_insert (Cond.codeWith y_L_insert b_L_insert 8 (some FieldType.int) [(0, 23, 26, 21)] :: TG) rmW 1 6 [.ref a, .int x1, .int x2, .int x3, .int x4, .int x5, .ref ou] f (fun v f' => v = some (.int 0) ∧ f' = va_up f1 ou (aL g 1 (vp_updL zo 0 (if r = 0 then 0 else 1)))) := by
  refine fp_ofX (by decide) (Nat.le_of_ble_eq_true rfl) ?_
  intro p e s m args below meth c Q ls H locs X Y hl hEx htab ret
  have hx := X.1.1
  have hb := X.1.2.1
  have hl : lv_has ls 8 [(0, .ref a), (1, .int x1), (2, .int x2), (3, .int x3), (4, .int x4), (5, .int x5), (6, .ref ou)] := hl
  refine lv_aload hx hb d_L_insert_0 (lv_at hl 6 rfl) ?_
  refine lv_iconst (v := 0) hx hb d_L_insert_2 (by decide) ?_
  refine lv_aload_n hx hb d_L_insert_3 rfl (lv_at hl 0 rfl) ?_
  refine lv_iload_n hx hb d_L_insert_4 rfl (lv_at hl 1 rfl) ?_
  refine lv_iload_n hx hb d_L_insert_5 rfl (lv_at hl 2 rfl) ?_
  refine lv_iload_n hx hb d_L_insert_6 rfl (lv_at hl 3 rfl) ?_
  refine lv_iload hx hb d_L_insert_7 (lv_at hl 4 rfl) ?_
  refine lv_iload hx hb d_L_insert_9 (lv_at hl 5 rfl) ?_
  refine fp_callV (nA := 5) (As := [.int x1, .int x2, .int x3, .int x4, .int x5]) (rest := [.int 0, .ref ou]) X Y hM oa rfl w528 w525 w526 w527 w1 (by decide +kernel) hrc ⟨by have := hrf.1; show _ ≤ 9; omega, by have := hrf.2; show _ ≤ 330; omega⟩ rfl hl.1 rfl (Nat.le_of_ble_eq_true rfl) d_L_insert_11 ⟨Nat.zero_le _, Nat.zero_le _⟩ (fun v9 f9 H locs hp9 Y => ?_)
  obtain ⟨e8, e9⟩ := hp9
  subst e8
  rw [e9] at Y
  refine W.eq (g2 := F0 m 14 ls [.int r, .int 0, .ref ou]) rfl ?_
  refine lv_if_eq (tgt := 21) hx hb d_L_insert_14 (by decide) (fun c_14 => ?_) (fun c_14 => ?_)
  · refine lv_lconst (v := 0) hx hb d_L_insert_21 (by decide) ?_
    refine fp_lst X Y oo 0 rfl (by decide) (by decide) d_L_insert_22 (fun H locs Y => ?_)
    have Y : fp_H D b n A (va_up f1 ou (aL g 1 (vp_updL zo 0 0))) s.heap H locs := Y
    have oo : fp_o b n (va_up f1 ou (aL g 1 (vp_updL zo 0 0))) ou (aL g 1 (vp_updL zo 0 0)) := fp_o.up oo
    refine lv_goto (tgt := 30) hx hb d_L_insert_23 (by decide) ?_
    refine lv_iconst (v := 0) hx hb d_L_insert_30 (by decide) ?_
    exact ret _ _ _ _ _ _ _ _ d_L_insert_31 rfl ⟨rfl, by rw [if_pos c_14]⟩ Y (Nat.le_of_ble_eq_true rfl) (Nat.le_of_ble_eq_true rfl)
  · refine lv_lconst (v := 1) hx hb d_L_insert_17 (by decide) ?_
    refine lv_goto (tgt := 22) hx hb d_L_insert_18 (by decide) ?_
    refine fp_lst X Y oo 0 rfl (by decide) (by decide) d_L_insert_22 (fun H locs Y => ?_)
    have Y : fp_H D b n A (va_up f1 ou (aL g 1 (vp_updL zo 0 1))) s.heap H locs := Y
    have oo : fp_o b n (va_up f1 ou (aL g 1 (vp_updL zo 0 1))) ou (aL g 1 (vp_updL zo 0 1)) := fp_o.up oo
    refine lv_goto (tgt := 30) hx hb d_L_insert_23 (by decide) ?_
    refine lv_iconst (v := 0) hx hb d_L_insert_30 (by decide) ?_
    exact ret _ _ _ _ _ _ _ _ d_L_insert_31 rfl ⟨rfl, by rw [if_neg c_14]⟩ Y (Nat.le_of_ble_eq_true rfl) (Nat.le_of_ble_eq_true rfl)
set_option maxHeartbeats 4000000 in
set_option maxRecDepth 100000 in
theorem c_L_remove_ok {l : Launch} {D : va_G} {g : Nat → ClassId} {b n : Nat} {A : Nat → Prop} {f : Nat → va_E} (hbA : ∀ q : Nat, A q → b ≤ q) {a fo co qa qt kq ou : Nat} {ac tc po dr : Int32} {x1 : Int32} {f1 : Nat → va_E} {r : Int32} {zo : Nat → Int64} {rm : Room} (hrc : rm.cells = 0 ∧ rm.slots = 0) (hrf : rm.frames ≤ 8 ∧ rm.locals ≤ 300) (oa : fp_o b n f a (ob 7 [.ref fo, .ref co, .ref qa, .int ac, .ref qt, .int tc, .ref kq, .int po, .int dr])) (oo : fp_o b n f1 ou (aL g 1 zo)) (hA : fp_W b n A) (hM : fp_M l D (TY g) b n A y_X_remove (fp_ws y_X_remove b_X_remove 2 (some FieldType.boolean)) rm [.ref a, .int x1] f (fun v f' => v = some (.int r) ∧ f' = f1)) : fp_MX l D (TY g) b n A y_L_remove (Cond.codeWith y_L_remove b_L_remove 4 (some FieldType.int) [(0, 16, 19, 21)] :: TG) rmW 1 6 [.ref a, .int x1, .ref ou] f (fun v f' => v = some (.int 0) ∧ f' = va_up f1 ou (aL g 1 (vp_updL zo 0 (if r = 0 then 0 else 1)))) := by
  refine fp_ofX (by decide) (Nat.le_of_ble_eq_true rfl) ?_
  intro p e s m args below meth c Q ls H locs X Y hl hEx htab ret
  have hx := X.1.1
  have hb := X.1.2.1
  have hl : lv_has ls 4 [(0, .ref a), (1, .int x1), (2, .ref ou)] := hl
  refine lv_aload_n hx hb d_L_remove_0 rfl (lv_at hl 2 rfl) ?_
  refine lv_iconst (v := 0) hx hb d_L_remove_1 (by decide) ?_
  refine lv_aload_n hx hb d_L_remove_2 rfl (lv_at hl 0 rfl) ?_
  refine lv_iload_n hx hb d_L_remove_3 rfl (lv_at hl 1 rfl) ?_
  refine fp_callV (nA := 1) (As := [.int x1]) (rest := [.int 0, .ref ou]) X Y hM oa rfl w564 w561 w562 w563 w1 (by decide +kernel) hrc ⟨by have := hrf.1; show _ ≤ 9; omega, by have := hrf.2; show _ ≤ 330; omega⟩ rfl hl.1 rfl (Nat.le_of_ble_eq_true rfl) d_L_remove_4 ⟨Nat.zero_le _, Nat.zero_le _⟩ (fun v9 f9 H locs hp9 Y => ?_)
  obtain ⟨e8, e9⟩ := hp9
  subst e8
  rw [e9] at Y
  refine W.eq (g2 := F0 m 7 ls [.int r, .int 0, .ref ou]) rfl ?_
  refine lv_if_eq (tgt := 14) hx hb d_L_remove_7 (by decide) (fun c_7 => ?_) (fun c_7 => ?_)
  · refine lv_lconst (v := 0) hx hb d_L_remove_14 (by decide) ?_
    refine fp_lst X Y oo 0 rfl (by decide) (by decide) d_L_remove_15 (fun H locs Y => ?_)
    have Y : fp_H D b n A (va_up f1 ou (aL g 1 (vp_updL zo 0 0))) s.heap H locs := Y
    have oo : fp_o b n (va_up f1 ou (aL g 1 (vp_updL zo 0 0))) ou (aL g 1 (vp_updL zo 0 0)) := fp_o.up oo
    refine lv_goto (tgt := 22) hx hb d_L_remove_16 (by decide) ?_
    refine lv_iconst (v := 0) hx hb d_L_remove_22 (by decide) ?_
    exact ret _ _ _ _ _ _ _ _ d_L_remove_23 rfl ⟨rfl, by rw [if_pos c_7]⟩ Y (Nat.le_of_ble_eq_true rfl) (Nat.le_of_ble_eq_true rfl)
  · refine lv_lconst (v := 1) hx hb d_L_remove_10 (by decide) ?_
    refine lv_goto (tgt := 15) hx hb d_L_remove_11 (by decide) ?_
    refine fp_lst X Y oo 0 rfl (by decide) (by decide) d_L_remove_15 (fun H locs Y => ?_)
    have Y : fp_H D b n A (va_up f1 ou (aL g 1 (vp_updL zo 0 1))) s.heap H locs := Y
    have oo : fp_o b n (va_up f1 ou (aL g 1 (vp_updL zo 0 1))) ou (aL g 1 (vp_updL zo 0 1)) := fp_o.up oo
    refine lv_goto (tgt := 22) hx hb d_L_remove_16 (by decide) ?_
    refine lv_iconst (v := 0) hx hb d_L_remove_22 (by decide) ?_
    exact ret _ _ _ _ _ _ _ _ d_L_remove_23 rfl ⟨rfl, by rw [if_neg c_7]⟩ Y (Nat.le_of_ble_eq_true rfl) (Nat.le_of_ble_eq_true rfl)
set_option maxHeartbeats 4000000 in
set_option maxRecDepth 100000 in
theorem c_L_act_ok {l : Launch} {D : va_G} {g : Nat → ClassId} {b n : Nat} {A : Nat → Prop} {f : Nat → va_E} (hbA : ∀ q : Nat, A q → b ≤ q) {a fo co qa qt kq ou : Nat} {ac tc po dr : Int32} {x1 : Int32} {f1 : Nat → va_E} {r : Int32} {zo : Nat → Int64} {rm : Room} (hrc : rm.cells = 0 ∧ rm.slots = 0) (hrf : rm.frames ≤ 8 ∧ rm.locals ≤ 300) (oa : fp_o b n f a (ob 7 [.ref fo, .ref co, .ref qa, .int ac, .ref qt, .int tc, .ref kq, .int po, .int dr])) (oo : fp_o b n f1 ou (aL g 1 zo)) (hA : fp_W b n A) (hM : fp_M l D (TY g) b n A y_X_act (fp_ws y_X_act b_X_act 3 (some FieldType.boolean)) rm [.ref a, .int x1] f (fun v f' => v = some (.int r) ∧ f' = f1)) : fp_MX l D (TY g) b n A y_L_act (Cond.codeWith y_L_act b_L_act 4 (some FieldType.int) [(0, 16, 19, 21)] :: TG) rmW 1 6 [.ref a, .int x1, .ref ou] f (fun v f' => v = some (.int 0) ∧ f' = va_up f1 ou (aL g 1 (vp_updL zo 0 (if r = 0 then 0 else 1)))) := by
  refine fp_ofX (by decide) (Nat.le_of_ble_eq_true rfl) ?_
  intro p e s m args below meth c Q ls H locs X Y hl hEx htab ret
  have hx := X.1.1
  have hb := X.1.2.1
  have hl : lv_has ls 4 [(0, .ref a), (1, .int x1), (2, .ref ou)] := hl
  refine lv_aload_n hx hb d_L_act_0 rfl (lv_at hl 2 rfl) ?_
  refine lv_iconst (v := 0) hx hb d_L_act_1 (by decide) ?_
  refine lv_aload_n hx hb d_L_act_2 rfl (lv_at hl 0 rfl) ?_
  refine lv_iload_n hx hb d_L_act_3 rfl (lv_at hl 1 rfl) ?_
  refine fp_callV (nA := 1) (As := [.int x1]) (rest := [.int 0, .ref ou]) X Y hM oa rfl w575 w572 w573 w574 w1 (by decide +kernel) hrc ⟨by have := hrf.1; show _ ≤ 9; omega, by have := hrf.2; show _ ≤ 330; omega⟩ rfl hl.1 rfl (Nat.le_of_ble_eq_true rfl) d_L_act_4 ⟨Nat.zero_le _, Nat.zero_le _⟩ (fun v9 f9 H locs hp9 Y => ?_)
  obtain ⟨e8, e9⟩ := hp9
  subst e8
  rw [e9] at Y
  refine W.eq (g2 := F0 m 7 ls [.int r, .int 0, .ref ou]) rfl ?_
  refine lv_if_eq (tgt := 14) hx hb d_L_act_7 (by decide) (fun c_7 => ?_) (fun c_7 => ?_)
  · refine lv_lconst (v := 0) hx hb d_L_act_14 (by decide) ?_
    refine fp_lst X Y oo 0 rfl (by decide) (by decide) d_L_act_15 (fun H locs Y => ?_)
    have Y : fp_H D b n A (va_up f1 ou (aL g 1 (vp_updL zo 0 0))) s.heap H locs := Y
    have oo : fp_o b n (va_up f1 ou (aL g 1 (vp_updL zo 0 0))) ou (aL g 1 (vp_updL zo 0 0)) := fp_o.up oo
    refine lv_goto (tgt := 22) hx hb d_L_act_16 (by decide) ?_
    refine lv_iconst (v := 0) hx hb d_L_act_22 (by decide) ?_
    exact ret _ _ _ _ _ _ _ _ d_L_act_23 rfl ⟨rfl, by rw [if_pos c_7]⟩ Y (Nat.le_of_ble_eq_true rfl) (Nat.le_of_ble_eq_true rfl)
  · refine lv_lconst (v := 1) hx hb d_L_act_10 (by decide) ?_
    refine lv_goto (tgt := 15) hx hb d_L_act_11 (by decide) ?_
    refine fp_lst X Y oo 0 rfl (by decide) (by decide) d_L_act_15 (fun H locs Y => ?_)
    have Y : fp_H D b n A (va_up f1 ou (aL g 1 (vp_updL zo 0 1))) s.heap H locs := Y
    have oo : fp_o b n (va_up f1 ou (aL g 1 (vp_updL zo 0 1))) ou (aL g 1 (vp_updL zo 0 1)) := fp_o.up oo
    refine lv_goto (tgt := 22) hx hb d_L_act_16 (by decide) ?_
    refine lv_iconst (v := 0) hx hb d_L_act_22 (by decide) ?_
    exact ret _ _ _ _ _ _ _ _ d_L_act_23 rfl ⟨rfl, by rw [if_neg c_7]⟩ Y (Nat.le_of_ble_eq_true rfl) (Nat.le_of_ble_eq_true rfl)
