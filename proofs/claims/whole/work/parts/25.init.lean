/-! Contracts: the constructors (by wip/gen/k14.py). -/
def p_D (f f' : Nat → va_E) : Prop := f' = f
def p_E (b n a : Nat) (f f' : Nat → va_E) : Prop := f' a = ob 3 [.ref (b + n), .int 0, .int 0, .int 0, .int 0] ∧ f' (b + n) = ob 5 [.int 0, .int 0, .int 0, .int 0] ∧ ∀ q : Nat, q < b + n → q ≠ a → f' q = f q
def p_F (g : Nat → ClassId) (b n a : Nat) (f f' : Nat → va_E) : Prop := f' a = ob 4 [.ref (b + n), .ref (b + (n + 1)), .int 0] ∧ f' (b + n) = aI g 16 (fun _ => 0) ∧ f' (b + (n + 1)) = aI g 16 (fun _ => 0) ∧ ∀ q : Nat, q < b + n → q ≠ a → f' q = f q
def p_C (g : Nat → ClassId) (b n a : Nat) (f f' : Nat → va_E) : Prop := f' a = ob 1 [.ref (b + n)] ∧ f' (b + n) = aI g 64 (fun _ => 0) ∧ ∀ q : Nat, q < b + n → q ≠ a → f' q = f q
/-- the first i places hold what lies at a0, a0 + d .. -/
def q_rr (a0 d i : Nat) : Nat → Option Nat := fun k => if k < i then some (a0 + d * k) else none
theorem q_rr_s (a0 d i : Nat) {x : Nat} (h : x = a0 + d * i) : va_up (q_rr a0 d i) i (some x) = q_rr a0 d (i + 1) := by
  subst h
  funext j
  by_cases hj : j = i
  · subst hj
    rw [va_up_self]; simp only [q_rr, if_pos (Nat.lt_succ_self j)]
  · rw [va_up_ne _ _ hj]
    by_cases h : j < i
    · simp only [q_rr, if_pos h, if_pos (Nat.lt_succ_of_lt h)]
    · have h2 : ¬ j < i + 1 := by omega
      simp only [q_rr, if_neg h, if_neg h2]
theorem q_rr_0 (a0 d : Nat) : q_rr a0 d 0 = fun _ => none := by
  funext j
  have h : ¬ j < 0 := by omega
  simp only [q_rr, if_neg h]
def p_Ai (g : Nat → ClassId) (b n a i : Nat) (f f' : Nat → va_E) : Prop := f' a = ob 0 [.ref (b + n), .int 0] ∧ f' (b + n) = aR g 2 4 (q_rr (b + (n + 1)) 1 i) ∧ (∀ k : Nat, k < i → f' (b + (n + 1 + k)) = ob 2 [.int 0, .int 0, .int 0, .int 0]) ∧ ∀ q : Nat, q < b + n → q ≠ a → f' q = f q
def p_Ti (g : Nat → ClassId) (b n a i : Nat) (f f' : Nat → va_E) : Prop := f' a = ob 6 [.ref (b + n), .int 0, .int 0, .int 0, .int 0, .int 0, .int 0, .int 0, .int 0, .int 0, .ref (b + (n + 1))] ∧ f' (b + n) = aR g 3 20 (q_rr (b + (n + 2)) 2 i) ∧ f' (b + (n + 1)) = ob 5 [.int 0, .int 0, .int 0, .int 0] ∧ (∀ k : Nat, k < i → f' (b + (n + 2 + 2 * k)) = ob 3 [.ref (b + (n + 2 + 2 * k + 1)), .int 0, .int 0, .int 0, .int 0] ∧ f' (b + (n + 2 + 2 * k + 1)) = ob 5 [.int 0, .int 0, .int 0, .int 0]) ∧ ∀ q : Nat, q < b + n → q ≠ a → f' q = f q
set_option maxHeartbeats 4000000 in
set_option maxRecDepth 100000 in
theorem c_K_init {l : Launch} {D : va_G} {g : Nat → ClassId} {b n : Nat} {f : Nat → va_E} {a : Nat} (oa : fp_o b n f a (ob 5 [.int 0, .int 0, .int 0, .int 0])) : fp_MG l D (TY g) b n 0 0 y_K_init (fp_ws y_K_init b_K_init 1 none) (rmG 1 0 0) [.ref a] f (p_D f) := by
  refine fp_ofG (plainFor_of_name (by decide)) (by decide) (Nat.le_of_ble_eq_true rfl) ?_
  intro p e s m args below meth c Q ls H locs X hO Y hsz hin hl ret
  have hx := X.1.1
  have hb := X.1.2.1
  have hA : fp_W b n (fz_A b) := fz_W
  have hab := oa.1
  have han := oa.2.1
  have hKp : ∀ q : Nat, q < b + n → q ≠ a → f q = f q := fun _ _ _ => rfl
  have hl : lv_has ls 1 [(0, .ref a)] := hl
  refine lv_aload_n hx hb d_K_init_0 rfl (lv_at hl 0 rfl) ?_
  refine fz_obj X w63 w25 w26 hl.1 d_K_init_1 (Nat.le_of_ble_eq_true rfl) (Nat.le_of_ble_eq_true rfl) ?_
  exact ret _ _ _ _ _ _ _ d_K_init_4 rfl (fp_H.cast (by omega) Y) (by omega) (by omega)
set_option maxHeartbeats 4000000 in
set_option maxRecDepth 100000 in
theorem c_D_init {l : Launch} {D : va_G} {g : Nat → ClassId} {b n : Nat} {f : Nat → va_E} {a : Nat} (oa : fp_o b n f a (ob 2 [.int 0, .int 0, .int 0, .int 0])) : fp_MG l D (TY g) b n 0 0 y_D_init (fp_ws y_D_init b_D_init 1 none) (rmG 1 0 0) [.ref a] f (p_D f) := by
  refine fp_ofG (plainFor_of_name (by decide)) (by decide) (Nat.le_of_ble_eq_true rfl) ?_
  intro p e s m args below meth c Q ls H locs X hO Y hsz hin hl ret
  have hx := X.1.1
  have hb := X.1.2.1
  have hA : fp_W b n (fz_A b) := fz_W
  have hab := oa.1
  have han := oa.2.1
  have hKp : ∀ q : Nat, q < b + n → q ≠ a → f q = f q := fun _ _ _ => rfl
  have hl : lv_has ls 1 [(0, .ref a)] := hl
  refine lv_aload_n hx hb d_D_init_0 rfl (lv_at hl 0 rfl) ?_
  refine fz_obj X w92 w25 w26 hl.1 d_D_init_1 (Nat.le_of_ble_eq_true rfl) (Nat.le_of_ble_eq_true rfl) ?_
  exact ret _ _ _ _ _ _ _ d_D_init_4 rfl (fp_H.cast (by omega) Y) (by omega) (by omega)
set_option maxHeartbeats 4000000 in
set_option maxRecDepth 100000 in
theorem c_E_init {l : Launch} {D : va_G} {g : Nat → ClassId} {b n : Nat} {f : Nat → va_E} {a : Nat} (oa : fp_o b n f a (ob 3 [.null, .int 0, .int 0, .int 0, .int 0])) : fp_MG l D (TY g) b n 1 4 y_E_init (fp_ws y_E_init b_E_init 1 none) (rmG 2 1 4) [.ref a] f (p_E b n a f) := by
  refine fp_ofG (plainFor_of_name (by decide)) (by decide) (Nat.le_of_ble_eq_true rfl) ?_
  intro p e s m args below meth c Q ls H locs X hO Y hsz hin hl ret
  have hx := X.1.1
  have hb := X.1.2.1
  have hA : fp_W b n (fz_A b) := fz_W
  have hab := oa.1
  have han := oa.2.1
  have hKp : ∀ q : Nat, q < b + n → q ≠ a → f q = f q := fun _ _ _ => rfl
  have hl : lv_has ls 1 [(0, .ref a)] := hl
  refine lv_aload_n hx hb d_E_init_0 rfl (lv_at hl 0 rfl) ?_
  refine fz_obj X w132 w25 w26 hl.1 d_E_init_1 (Nat.le_of_ble_eq_true rfl) (Nat.le_of_ble_eq_true rfl) ?_
  refine lv_aload_n hx hb d_E_init_4 rfl (lv_at hl 0 rfl) ?_
  refine fz_new (ci := 5) (fs := [.int 0, .int 0, .int 0, .int 0]) X Y (by omega) rfl in_K to_K w133 w59 w4 (fun j hj => match j, hj with | 0, _ => rfl | 1, _ => rfl | 2, _ => rfl | 3, _ => rfl | (j + 4), h => absurd h (by omega)) ⟨(by show _ ≤ 1; omega), (by show _ ≤ 4; omega)⟩ d_E_init_5 (fun H Y => ?_)
  have oa : fp_o b (n + 1) (va_up f (b + n) (ob 5 [.int 0, .int 0, .int 0, .int 0])) a (ob 3 [.null, .int 0, .int 0, .int 0, .int 0]) := fp_o.gr oa
  have hKp : ∀ q : Nat, q < b + n → q ≠ a → (va_up f (b + n) (ob 5 [.int 0, .int 0, .int 0, .int 0])) q = f q := fun q h1 h2 => (va_up_ne _ _ (by omega)).trans (hKp q h1 h2)
  have on_1 : fp_o b (n + 1) (va_up f (b + n) (ob 5 [.int 0, .int 0, .int 0, .int 0])) (b + n) (ob 5 [.int 0, .int 0, .int 0, .int 0]) := fp_o.nw
  have hA : fp_W b (n + 1) (fz_A b) := fz_W
  refine lv_dup hx hb d_E_init_8 rfl ?_
  refine fz_callIN X hO Y (by omega) (c_K_init on_1) w62 nw134 w61 w4 (by decide +kernel) (by decide) ⟨rfl, rfl⟩ ⟨Nat.le_of_ble_eq_true rfl, Nat.le_of_ble_eq_true rfl⟩ hl.1 (Nat.le_of_ble_eq_true rfl) d_E_init_9 ⟨(by show _ ≤ 1; omega), (by show _ ≤ 4; omega)⟩ (fun fw_2 H locs hp9 Y => ?_)
  unfold p_D at hp9
  subst hp9
  have Y : fp_H D b (n + 1) (fz_A b) (va_up f (b + n) (ob 5 [.int 0, .int 0, .int 0, .int 0])) s.heap H locs := Y
  refine fp_putF X Y oa rfl in_E to_E nm_E 0 (by decide) w135 rfl hin rfl rfl rfl (Nat.le_of_ble_eq_true rfl) d_E_init_12 (fun H locs Y => ?_)
  have ne_1 : b + n ≠ a := (fp_o.nf on_1 oa (by simp))
  have Y : fp_H D b (n + 1) (fz_A b) (va_up (va_up f (b + n) (ob 5 [.int 0, .int 0, .int 0, .int 0])) a (ob 3 [.ref (b + n), .int 0, .int 0, .int 0, .int 0])) s.heap H locs := Y
  have on_1 : fp_o b (n + 1) (va_up (va_up f (b + n) (ob 5 [.int 0, .int 0, .int 0, .int 0])) a (ob 3 [.ref (b + n), .int 0, .int 0, .int 0, .int 0])) (b + n) (ob 5 [.int 0, .int 0, .int 0, .int 0]) := fp_o.ne on_1 ne_1
  have oa : fp_o b (n + 1) (va_up (va_up f (b + n) (ob 5 [.int 0, .int 0, .int 0, .int 0])) a (ob 3 [.ref (b + n), .int 0, .int 0, .int 0, .int 0])) a (ob 3 [.ref (b + n), .int 0, .int 0, .int 0, .int 0]) := fp_o.up oa
  have hKp : ∀ q : Nat, q < b + n → q ≠ a → (va_up (va_up f (b + n) (ob 5 [.int 0, .int 0, .int 0, .int 0])) a (ob 3 [.ref (b + n), .int 0, .int 0, .int 0, .int 0])) q = f q := fun q h1 h2 => (va_up_ne _ _ (by omega)).trans (hKp q h1 h2)
  exact ret _ _ _ _ _ _ _ d_E_init_15 ⟨oa.2.2, on_1.2.2, hKp⟩ (fp_H.cast (by omega) Y) (by omega) (by omega)
set_option maxHeartbeats 4000000 in
set_option maxRecDepth 100000 in
theorem c_F_init {l : Launch} {D : va_G} {g : Nat → ClassId} {b n : Nat} {f : Nat → va_E} {a : Nat} (oa : fp_o b n f a (ob 4 [.null, .null, .int 0])) : fp_MG l D (TY g) b n 2 32 y_F_init (fp_ws y_F_init b_F_init 1 none) (rmG 1 2 32) [.ref a] f (p_F g b n a f) := by
  refine fp_ofG (plainFor_of_name (by decide)) (by decide) (Nat.le_of_ble_eq_true rfl) ?_
  intro p e s m args below meth c Q ls H locs X hO Y hsz hin hl ret
  have hx := X.1.1
  have hb := X.1.2.1
  have hA : fp_W b n (fz_A b) := fz_W
  have hab := oa.1
  have han := oa.2.1
  have hKp : ∀ q : Nat, q < b + n → q ≠ a → f q = f q := fun _ _ _ => rfl
  have hl : lv_has ls 1 [(0, .ref a)] := hl
  refine lv_aload_n hx hb d_F_init_0 rfl (lv_at hl 0 rfl) ?_
  refine fz_obj X w32 w25 w26 hl.1 d_F_init_1 (Nat.le_of_ble_eq_true rfl) (Nat.le_of_ble_eq_true rfl) ?_
  refine lv_aload_n hx hb d_F_init_4 rfl (lv_at hl 0 rfl) ?_
  refine lv_bipush (v := 16) hx hb d_F_init_5 (by decide) ?_
  refine fz_newI (N := 16) X Y (by omega) w43 rfl (by decide) ⟨(by show _ ≤ 2; omega), (by show _ ≤ 32; omega)⟩ d_F_init_7 (fun H Y => ?_)
  have oa : fp_o b (n + 1) (va_up f (b + n) (aI g 16 (fun _ => 0))) a (ob 4 [.null, .null, .int 0]) := fp_o.gr oa
  have hKp : ∀ q : Nat, q < b + n → q ≠ a → (va_up f (b + n) (aI g 16 (fun _ => 0))) q = f q := fun q h1 h2 => (va_up_ne _ _ (by omega)).trans (hKp q h1 h2)
  have on_1 : fp_o b (n + 1) (va_up f (b + n) (aI g 16 (fun _ => 0))) (b + n) (aI g 16 (fun _ => 0)) := fp_o.nw
  have hA : fp_W b (n + 1) (fz_A b) := fz_W
  refine fp_putF X Y oa rfl in_F to_F nm_F 0 (by decide) w33 rfl hin rfl rfl rfl (Nat.le_of_ble_eq_true rfl) d_F_init_9 (fun H locs Y => ?_)
  have ne_1 : b + n ≠ a := (fp_o.nf on_1 oa (by simp))
  have Y : fp_H D b (n + 1) (fz_A b) (va_up (va_up f (b + n) (aI g 16 (fun _ => 0))) a (ob 4 [.ref (b + n), .null, .int 0])) s.heap H locs := Y
  have on_1 : fp_o b (n + 1) (va_up (va_up f (b + n) (aI g 16 (fun _ => 0))) a (ob 4 [.ref (b + n), .null, .int 0])) (b + n) (aI g 16 (fun _ => 0)) := fp_o.ne on_1 ne_1
  have oa : fp_o b (n + 1) (va_up (va_up f (b + n) (aI g 16 (fun _ => 0))) a (ob 4 [.ref (b + n), .null, .int 0])) a (ob 4 [.ref (b + n), .null, .int 0]) := fp_o.up oa
  have hKp : ∀ q : Nat, q < b + n → q ≠ a → (va_up (va_up f (b + n) (aI g 16 (fun _ => 0))) a (ob 4 [.ref (b + n), .null, .int 0])) q = f q := fun q h1 h2 => (va_up_ne _ _ (by omega)).trans (hKp q h1 h2)
  refine lv_aload_n hx hb d_F_init_12 rfl (lv_at hl 0 rfl) ?_
  refine lv_bipush (v := 16) hx hb d_F_init_13 (by decide) ?_
  refine fz_newI (N := 16) X Y (by omega) w43 rfl (by decide) ⟨(by show _ ≤ 2; omega), (by show _ ≤ 32; omega)⟩ d_F_init_15 (fun H Y => ?_)
  have oa : fp_o b ((n + 1) + 1) (va_up (va_up (va_up f (b + n) (aI g 16 (fun _ => 0))) a (ob 4 [.ref (b + n), .null, .int 0])) (b + ((n + 1))) (aI g 16 (fun _ => 0))) a (ob 4 [.ref (b + n), .null, .int 0]) := fp_o.gr oa
  have on_1 : fp_o b ((n + 1) + 1) (va_up (va_up (va_up f (b + n) (aI g 16 (fun _ => 0))) a (ob 4 [.ref (b + n), .null, .int 0])) (b + ((n + 1))) (aI g 16 (fun _ => 0))) (b + n) (aI g 16 (fun _ => 0)) := fp_o.gr on_1
  have hKp : ∀ q : Nat, q < b + n → q ≠ a → (va_up (va_up (va_up f (b + n) (aI g 16 (fun _ => 0))) a (ob 4 [.ref (b + n), .null, .int 0])) (b + ((n + 1))) (aI g 16 (fun _ => 0))) q = f q := fun q h1 h2 => (va_up_ne _ _ (by omega)).trans (hKp q h1 h2)
  have on_2 : fp_o b ((n + 1) + 1) (va_up (va_up (va_up f (b + n) (aI g 16 (fun _ => 0))) a (ob 4 [.ref (b + n), .null, .int 0])) (b + ((n + 1))) (aI g 16 (fun _ => 0))) (b + (n + 1)) (aI g 16 (fun _ => 0)) := fp_o.nw
  have hA : fp_W b ((n + 1) + 1) (fz_A b) := fz_W
  refine fp_putF X Y oa rfl in_F to_F nm_F 1 (by decide) w34 rfl hin rfl rfl rfl (Nat.le_of_ble_eq_true rfl) d_F_init_17 (fun H locs Y => ?_)
  have ne_2 : b + n ≠ a := (fp_o.nf on_1 oa (by simp))
  have ne_3 : b + (n + 1) ≠ a := (fp_o.nf on_2 oa (by simp))
  have Y : fp_H D b ((n + 1) + 1) (fz_A b) (va_up (va_up (va_up (va_up f (b + n) (aI g 16 (fun _ => 0))) a (ob 4 [.ref (b + n), .null, .int 0])) (b + ((n + 1))) (aI g 16 (fun _ => 0))) a (ob 4 [.ref (b + n), .ref (b + (n + 1)), .int 0])) s.heap H locs := Y
  have on_1 : fp_o b ((n + 1) + 1) (va_up (va_up (va_up (va_up f (b + n) (aI g 16 (fun _ => 0))) a (ob 4 [.ref (b + n), .null, .int 0])) (b + ((n + 1))) (aI g 16 (fun _ => 0))) a (ob 4 [.ref (b + n), .ref (b + (n + 1)), .int 0])) (b + n) (aI g 16 (fun _ => 0)) := fp_o.ne on_1 ne_2
  have on_2 : fp_o b ((n + 1) + 1) (va_up (va_up (va_up (va_up f (b + n) (aI g 16 (fun _ => 0))) a (ob 4 [.ref (b + n), .null, .int 0])) (b + ((n + 1))) (aI g 16 (fun _ => 0))) a (ob 4 [.ref (b + n), .ref (b + (n + 1)), .int 0])) (b + (n + 1)) (aI g 16 (fun _ => 0)) := fp_o.ne on_2 ne_3
  have oa : fp_o b ((n + 1) + 1) (va_up (va_up (va_up (va_up f (b + n) (aI g 16 (fun _ => 0))) a (ob 4 [.ref (b + n), .null, .int 0])) (b + ((n + 1))) (aI g 16 (fun _ => 0))) a (ob 4 [.ref (b + n), .ref (b + (n + 1)), .int 0])) a (ob 4 [.ref (b + n), .ref (b + (n + 1)), .int 0]) := fp_o.up oa
  have hKp : ∀ q : Nat, q < b + n → q ≠ a → (va_up (va_up (va_up (va_up f (b + n) (aI g 16 (fun _ => 0))) a (ob 4 [.ref (b + n), .null, .int 0])) (b + ((n + 1))) (aI g 16 (fun _ => 0))) a (ob 4 [.ref (b + n), .ref (b + (n + 1)), .int 0])) q = f q := fun q h1 h2 => (va_up_ne _ _ (by omega)).trans (hKp q h1 h2)
  exact ret _ _ _ _ _ _ _ d_F_init_20 ⟨oa.2.2, on_1.2.2, on_2.2.2, hKp⟩ (fp_H.cast (by omega) Y) (by omega) (by omega)
set_option maxHeartbeats 4000000 in
set_option maxRecDepth 100000 in
theorem c_C_init {l : Launch} {D : va_G} {g : Nat → ClassId} {b n : Nat} {f : Nat → va_E} {a : Nat} (oa : fp_o b n f a (ob 1 [.null])) : fp_MG l D (TY g) b n 1 64 y_C_init (fp_ws y_C_init b_C_init 1 none) (rmG 1 1 64) [.ref a] f (p_C g b n a f) := by
  refine fp_ofG (plainFor_of_name (by decide)) (by decide) (Nat.le_of_ble_eq_true rfl) ?_
  intro p e s m args below meth c Q ls H locs X hO Y hsz hin hl ret
  have hx := X.1.1
  have hb := X.1.2.1
  have hA : fp_W b n (fz_A b) := fz_W
  have hab := oa.1
  have han := oa.2.1
  have hKp : ∀ q : Nat, q < b + n → q ≠ a → f q = f q := fun _ _ _ => rfl
  have hl : lv_has ls 1 [(0, .ref a)] := hl
  refine lv_aload_n hx hb d_C_init_0 rfl (lv_at hl 0 rfl) ?_
  refine fz_obj X w49 w25 w26 hl.1 d_C_init_1 (Nat.le_of_ble_eq_true rfl) (Nat.le_of_ble_eq_true rfl) ?_
  refine lv_aload_n hx hb d_C_init_4 rfl (lv_at hl 0 rfl) ?_
  refine lv_bipush (v := 64) hx hb d_C_init_5 (by decide) ?_
  refine fz_newI (N := 64) X Y (by omega) w43 rfl (by decide) ⟨(by show _ ≤ 1; omega), (by show _ ≤ 64; omega)⟩ d_C_init_7 (fun H Y => ?_)
  have oa : fp_o b (n + 1) (va_up f (b + n) (aI g 64 (fun _ => 0))) a (ob 1 [.null]) := fp_o.gr oa
  have hKp : ∀ q : Nat, q < b + n → q ≠ a → (va_up f (b + n) (aI g 64 (fun _ => 0))) q = f q := fun q h1 h2 => (va_up_ne _ _ (by omega)).trans (hKp q h1 h2)
  have on_1 : fp_o b (n + 1) (va_up f (b + n) (aI g 64 (fun _ => 0))) (b + n) (aI g 64 (fun _ => 0)) := fp_o.nw
  have hA : fp_W b (n + 1) (fz_A b) := fz_W
  refine fp_putF X Y oa rfl in_C to_C nm_C 0 (by decide) w50 rfl hin rfl rfl rfl (Nat.le_of_ble_eq_true rfl) d_C_init_9 (fun H locs Y => ?_)
  have ne_1 : b + n ≠ a := (fp_o.nf on_1 oa (by simp))
  have Y : fp_H D b (n + 1) (fz_A b) (va_up (va_up f (b + n) (aI g 64 (fun _ => 0))) a (ob 1 [.ref (b + n)])) s.heap H locs := Y
  have on_1 : fp_o b (n + 1) (va_up (va_up f (b + n) (aI g 64 (fun _ => 0))) a (ob 1 [.ref (b + n)])) (b + n) (aI g 64 (fun _ => 0)) := fp_o.ne on_1 ne_1
  have oa : fp_o b (n + 1) (va_up (va_up f (b + n) (aI g 64 (fun _ => 0))) a (ob 1 [.ref (b + n)])) a (ob 1 [.ref (b + n)]) := fp_o.up oa
  have hKp : ∀ q : Nat, q < b + n → q ≠ a → (va_up (va_up f (b + n) (aI g 64 (fun _ => 0))) a (ob 1 [.ref (b + n)])) q = f q := fun q h1 h2 => (va_up_ne _ _ (by omega)).trans (hKp q h1 h2)
  exact ret _ _ _ _ _ _ _ d_C_init_12 ⟨oa.2.2, on_1.2.2, hKp⟩ (fp_H.cast (by omega) Y) (by omega) (by omega)
set_option maxHeartbeats 4000000 in
set_option maxRecDepth 100000 in
theorem c_A_init {l : Launch} {D : va_G} {g : Nat → ClassId} {b n : Nat} {f : Nat → va_E} {a : Nat} (oa : fp_o b n f a (ob 0 [.null, .int 0])) : fp_MG l D (TY g) b n 5 20 y_A_init (fp_ws y_A_init b_A_init 2 none) (rmG 2 5 20) [.ref a] f (p_Ai g b n a 4 f) := by
  refine fp_ofG (plainFor_of_name (by decide)) (by decide) (Nat.le_of_ble_eq_true rfl) ?_
  intro p e s m args below meth c Q ls H locs X hO Y hsz hin hl ret
  have hx := X.1.1
  have hb := X.1.2.1
  have hA : fp_W b n (fz_A b) := fz_W
  have hab := oa.1
  have han := oa.2.1
  have hKp : ∀ q : Nat, q < b + n → q ≠ a → f q = f q := fun _ _ _ => rfl
  have hl : lv_has ls 2 [(0, .ref a)] := hl
  refine lv_aload_n hx hb d_A_init_0 rfl (lv_at hl 0 rfl) ?_
  refine fz_obj X w85 w25 w26 hl.1 d_A_init_1 (Nat.le_of_ble_eq_true rfl) (Nat.le_of_ble_eq_true rfl) ?_
  refine lv_aload_n hx hb d_A_init_4 rfl (lv_at hl 0 rfl) ?_
  refine lv_iconst (v := 4) hx hb d_A_init_5 (by decide) ?_
  refine fz_newq (N := 4) 2 rfl X Y (by omega) hO.2.1 w86 rfl (by decide) ⟨(by show _ ≤ 5; omega), (by show _ ≤ 20; omega)⟩ d_A_init_6 (fun H Y => ?_)
  have oa : fp_o b (n + 1) (va_up f (b + n) (aR g 2 4 (fun _ => none))) a (ob 0 [.null, .int 0]) := fp_o.gr oa
  have hKp : ∀ q : Nat, q < b + n → q ≠ a → (va_up f (b + n) (aR g 2 4 (fun _ => none))) q = f q := fun q h1 h2 => (va_up_ne _ _ (by omega)).trans (hKp q h1 h2)
  have on_1 : fp_o b (n + 1) (va_up f (b + n) (aR g 2 4 (fun _ => none))) (b + n) (aR g 2 4 (fun _ => none)) := fp_o.nw
  have hA : fp_W b (n + 1) (fz_A b) := fz_W
  refine fp_putF X Y oa rfl in_A to_A nm_A 0 (by decide) w110 rfl hin rfl rfl rfl (Nat.le_of_ble_eq_true rfl) d_A_init_9 (fun H locs Y => ?_)
  have ne_1 : b + n ≠ a := (fp_o.nf on_1 oa (by simp))
  have Y : fp_H D b (n + 1) (fz_A b) (va_up (va_up f (b + n) (aR g 2 4 (fun _ => none))) a (ob 0 [.ref (b + n), .int 0])) s.heap H locs := Y
  have on_1 : fp_o b (n + 1) (va_up (va_up f (b + n) (aR g 2 4 (fun _ => none))) a (ob 0 [.ref (b + n), .int 0])) (b + n) (aR g 2 4 (fun _ => none)) := fp_o.ne on_1 ne_1
  have oa : fp_o b (n + 1) (va_up (va_up f (b + n) (aR g 2 4 (fun _ => none))) a (ob 0 [.ref (b + n), .int 0])) a (ob 0 [.ref (b + n), .int 0]) := fp_o.up oa
  have hKp : ∀ q : Nat, q < b + n → q ≠ a → (va_up (va_up f (b + n) (aR g 2 4 (fun _ => none))) a (ob 0 [.ref (b + n), .int 0])) q = f q := fun q h1 h2 => (va_up_ne _ _ (by omega)).trans (hKp q h1 h2)
  refine lv_iconst (v := 0) hx hb d_A_init_12 (by decide) ?_
  refine lv_istore_n (lv' := [(1, .int 0), (0, .ref a)]) hx hb d_A_init_13 rfl hl (by decide) rfl (fun ls hl => ?_)
  have loop : ∀ (k i : Nat), k + i = 4 → ∀ fw : Nat → va_E, p_Ai g b n a i f fw → ∀ (H : Heap) (locs : List Loc), fp_H D b (n + 1 + i) (fz_A b) fw s.heap H locs → ∀ (ls : Array Slot), lv_has ls 2 [(1, .int (nI i)), (0, .ref a)] → W p l e (rmG 2 5 20) s m args below meth c H locs (1 + 1 * i) (4 + 4 * i) Q (F0 m 14 ls []) := by
    intro k
    induction k with
    | zero =>
      intro i hi fw hw H locs Y ls hl
      have hA : fp_W b (n + 1 + i) (fz_A b) := fz_W
      obtain ⟨h91, h92, h93, hKp⟩ := hw
      have oa1 : fp_o b (n + 1 + i) fw a (ob 0 [.ref (b + n), .int 0]) := ⟨by omega, by omega, h91⟩
      have od : fp_o b (n + 1 + i) fw (b + n) (aR g 2 4 (q_rr (b + (n + 1)) 1 i)) := ⟨by omega, by omega, h92⟩
      have hKd : ∀ q : Nat, b + n < q → q < b + (n + 1 + i) → fw q = fw q := fun _ _ _ => rfl
      have e0 : i = 4 := by omega
      refine lv_iload_n hx hb d_A_init_14 rfl (lv_at hl 0 rfl) ?_
      refine lv_iconst (v := 4) hx hb d_A_init_15 (by decide) ?_
      refine lv_icmp_ge (tgt := 38) hx hb d_A_init_16 (by decide) (fun c_16 => ?_) (fun c_16 => absurd (by rw [e0]; decide) c_16)
      exact ret _ _ _ _ _ _ _ d_A_init_38 (by rw [e0] at h92 h93; exact ⟨h91, h92, h93, hKp⟩) (fp_H.cast (by omega) Y) (by omega) (by omega)
    | succ k ih =>
      intro i hi fw hw H locs Y ls hl
      have hA : fp_W b (n + 1 + i) (fz_A b) := fz_W
      obtain ⟨h91, h92, h93, hKp⟩ := hw
      have oa1 : fp_o b (n + 1 + i) fw a (ob 0 [.ref (b + n), .int 0]) := ⟨by omega, by omega, h91⟩
      have od : fp_o b (n + 1 + i) fw (b + n) (aR g 2 4 (q_rr (b + (n + 1)) 1 i)) := ⟨by omega, by omega, h92⟩
      have hKd : ∀ q : Nat, b + n < q → q < b + (n + 1 + i) → fw q = fw q := fun _ _ _ => rfl
      refine lv_iload_n hx hb d_A_init_14 rfl (lv_at hl 0 rfl) ?_
      refine lv_iconst (v := 4) hx hb d_A_init_15 (by decide) ?_
      refine lv_icmp_ge (tgt := 38) hx hb d_A_init_16 (by decide) (fun c_16 => absurd c_16 (nI_ge (b := 4) (by omega) (by decide))) (fun c_16 => ?_)
      refine lv_aload_n hx hb d_A_init_19 rfl (lv_at hl 1 rfl) ?_
      refine fp_get X Y oa1 rfl in_A 0 (by decide) w110 rfl d_A_init_20 ?_
      refine lv_iload_n hx hb d_A_init_23 rfl (lv_at hl 0 rfl) ?_
      refine fz_new (ci := 2) (fs := [.int 0, .int 0, .int 0, .int 0]) X Y (by omega) rfl in_D to_D w86 w88 w6 (fun j hj => match j, hj with | 0, _ => rfl | 1, _ => rfl | 2, _ => rfl | 3, _ => rfl | (j + 4), h => absurd h (by omega)) ⟨(by show _ ≤ 5; omega), (by show _ ≤ 20; omega)⟩ d_A_init_24 (fun H Y => ?_)
      have oa1 : fp_o b ((n + 1 + i) + 1) (va_up fw (b + ((n + 1 + i))) (ob 2 [.int 0, .int 0, .int 0, .int 0])) a (ob 0 [.ref (b + n), .int 0]) := fp_o.gr oa1
      have od : fp_o b ((n + 1 + i) + 1) (va_up fw (b + ((n + 1 + i))) (ob 2 [.int 0, .int 0, .int 0, .int 0])) (b + n) (aR g 2 4 (q_rr (b + (n + 1)) 1 i)) := fp_o.gr od
      have hKp : ∀ q : Nat, q < b + n → q ≠ a → (va_up fw (b + ((n + 1 + i))) (ob 2 [.int 0, .int 0, .int 0, .int 0])) q = f q := fun q h1 h2 => (va_up_ne _ _ (by omega)).trans (hKp q h1 h2)
      have on_2 : fp_o b ((n + 1 + i) + 1) (va_up fw (b + ((n + 1 + i))) (ob 2 [.int 0, .int 0, .int 0, .int 0])) (b + (n + 1 + i)) (ob 2 [.int 0, .int 0, .int 0, .int 0]) := fp_o.nw
      have hA : fp_W b ((n + 1 + i) + 1) (fz_A b) := fz_W
      have hKd : ∀ q : Nat, b + n < q → q < b + (n + 1 + i) → (va_up fw (b + ((n + 1 + i))) (ob 2 [.int 0, .int 0, .int 0, .int 0])) q = fw q := fun q h1 h2 => (va_up_ne _ _ (by omega)).trans (hKd q h1 h2)
      refine lv_dup hx hb d_A_init_27 rfl ?_
      refine fz_callIN X hO Y (by omega) (c_D_init on_2) w91 nw89 w90 w6 (by decide +kernel) (by decide) ⟨rfl, rfl⟩ ⟨Nat.le_of_ble_eq_true rfl, Nat.le_of_ble_eq_true rfl⟩ hl.1 (Nat.le_of_ble_eq_true rfl) d_A_init_28 ⟨(by show _ ≤ 5; omega), (by show _ ≤ 20; omega)⟩ (fun fw_3 H locs hp9 Y => ?_)
      unfold p_D at hp9
      subst hp9
      have Y : fp_H D b ((n + 1 + i) + 1) (fz_A b) (va_up fw (b + ((n + 1 + i))) (ob 2 [.int 0, .int 0, .int 0, .int 0])) s.heap H locs := Y
      refine fp_ast 2 rfl X Y od i rfl (by omega) (by decide) on_2 rfl d_A_init_31 (fun H locs Y => ?_)
      have ne_2 : a ≠ b + n := (fp_o.nf oa1 od (by simp))
      have ne_3 : b + (n + 1 + i) ≠ b + n := (fp_o.nf on_2 od (by simp))
      have Y : fp_H D b ((n + 1 + i) + 1) (fz_A b) (va_up (va_up fw (b + ((n + 1 + i))) (ob 2 [.int 0, .int 0, .int 0, .int 0])) (b + n) (aR g 2 4 (va_up (q_rr (b + (n + 1)) 1 i) i (some (b + (n + 1 + i)))))) s.heap H locs := Y
      have oa1 : fp_o b ((n + 1 + i) + 1) (va_up (va_up fw (b + ((n + 1 + i))) (ob 2 [.int 0, .int 0, .int 0, .int 0])) (b + n) (aR g 2 4 (va_up (q_rr (b + (n + 1)) 1 i) i (some (b + (n + 1 + i)))))) a (ob 0 [.ref (b + n), .int 0]) := fp_o.ne oa1 ne_2
      have on_2 : fp_o b ((n + 1 + i) + 1) (va_up (va_up fw (b + ((n + 1 + i))) (ob 2 [.int 0, .int 0, .int 0, .int 0])) (b + n) (aR g 2 4 (va_up (q_rr (b + (n + 1)) 1 i) i (some (b + (n + 1 + i)))))) (b + (n + 1 + i)) (ob 2 [.int 0, .int 0, .int 0, .int 0]) := fp_o.ne on_2 ne_3
      have od : fp_o b ((n + 1 + i) + 1) (va_up (va_up fw (b + ((n + 1 + i))) (ob 2 [.int 0, .int 0, .int 0, .int 0])) (b + n) (aR g 2 4 (va_up (q_rr (b + (n + 1)) 1 i) i (some (b + (n + 1 + i)))))) (b + n) (aR g 2 4 (va_up (q_rr (b + (n + 1)) 1 i) i (some (b + (n + 1 + i))))) := fp_o.up od
      have hKp : ∀ q : Nat, q < b + n → q ≠ a → (va_up (va_up fw (b + ((n + 1 + i))) (ob 2 [.int 0, .int 0, .int 0, .int 0])) (b + n) (aR g 2 4 (va_up (q_rr (b + (n + 1)) 1 i) i (some (b + (n + 1 + i)))))) q = f q := fun q h1 h2 => (va_up_ne _ _ (by omega)).trans (hKp q h1 h2)
      have hKd : ∀ q : Nat, b + n < q → q < b + (n + 1 + i) → (va_up (va_up fw (b + ((n + 1 + i))) (ob 2 [.int 0, .int 0, .int 0, .int 0])) (b + n) (aR g 2 4 (va_up (q_rr (b + (n + 1)) 1 i) i (some (b + (n + 1 + i)))))) q = fw q := fun q h1 h2 => (va_up_ne _ _ (by omega)).trans (hKd q h1 h2)
      refine lv_iinc (v := nI (i + 1)) (lv' := [(1, .int (nI (i + 1))), (0, .ref a)]) hx hb d_A_init_32 hl (k := 0) rfl (nI_1 i) (by decide) rfl (fun ls hl => ?_)
      refine lv_goto (tgt := 14) hx hb d_A_init_35 (by decide) ?_
      refine fz_cs (cells' := 1 + 1 * (i + 1)) (slots' := 4 + 4 * (i + 1)) (by omega) (by omega) ?_
      exact ih (i + 1) (by omega) _ ⟨oa1.2.2, by rw [← q_rr_s _ 1 i (show b + (n + 1 + i) = b + (n + 1) + 1 * i by omega)]; exact od.2.2, fun k hk => by
        by_cases hki : k = i
        · subst hki; exact on_2.2.2
        · rw [hKd _ (by omega) (by omega)]; exact h93 k (by omega), hKp⟩ _ _ (fp_H.cast (by omega) Y) ls (lv_sub hl [0, 1] rfl)
  refine fz_cs (cells' := 1 + 1 * 0) (slots' := 4 + 4 * 0) (by omega) (by omega) ?_
  exact loop 4 0 (by omega) _ ⟨oa.2.2, by rw [q_rr_0]; exact on_1.2.2, fun k hk => absurd hk (by omega), hKp⟩ _ _ (fp_H.cast (by omega) Y) ls (lv_sub hl [0, 1] rfl)
