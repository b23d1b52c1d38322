/-! Contracts: Table.takeOut, Arrays.fill, Counts.forget (by wip/gen/k4.py). -/
theorem nI_m1 {k : Nat} (h : 0 < k) : nI k - 1 = nI (k - 1) := by
  rw [show (1 : Int32) = nI 1 from rfl, pk_sub (by omega)]
theorem m1_ne {k : Nat} (h : k < 2 ^ 31) : (-1 : Int32) ≠ nI k := fun e => nI_pos h (by rw [← e]; decide)
def q_fill (z : Nat → Int32) (x : Int32) (i : Nat) : Nat → Int32 := fun j => if j < i then x else z j
theorem q_fill_0 (z : Nat → Int32) (x : Int32) : q_fill z x 0 = z := by funext j; simp [q_fill]
theorem q_fill_s (z : Nat → Int32) (x : Int32) (i : Nat) : upd (q_fill z x i) i x = q_fill z x (i + 1) := by
  funext j
  by_cases hj : j = i
  · subst hj; rw [pk_us]; simp [q_fill]
  · rw [pk_un hj]
    by_cases h : j < i
    · have h2 : j < i + 1 := by omega
      simp only [q_fill, if_pos h, if_pos h2]
    · have h2 : ¬ j < i + 1 := by omega
      simp only [q_fill, if_neg h, if_neg h2]
set_option maxHeartbeats 4000000 in
set_option maxRecDepth 100000 in
theorem c_T_takeOut {l : Launch} {D : va_G} {g : Nat → ClassId} {b n : Nat} {A : Nat → Prop} {f : Nat → va_E} {t r sq cn : Nat} {xf xg hF hG oF oG al ms : Int32} {zr : Nat → Option Nat} {er ek : Nat → Nat} {u1 u2 u3 u4 y1 y2 y3 y4 : Nat → Int32} {kq : Nat} {k1 k2 k3 k4 s1 s2 s3 s4 : Int32} (hcn : cn ≤ 20) (hr : ∀ i : Nat, i < 20 → zr i = some (er i)) (hsk : ∀ i : Nat, i < 20 → ek i ≠ sq) (ot : fp_o b n f t (ob 6 [.ref r, .int (nI cn), .int xf, .int xg, .int hF, .int hG, .int oF, .int oG, .int al, .int ms, .ref sq])) (orr : fp_o b n f r (aR g 3 20 zr)) (os : fp_o b n f sq (ob 5 [.int s1, .int s2, .int s3, .int s4])) (oq : fp_o b n f kq (ob 5 [.int k1, .int k2, .int k3, .int k4])) (he : ∀ i9 : Nat, i9 < 20 → fp_o b n f (er i9) (ob 3 [.ref (ek i9), .int (u1 i9), .int (u2 i9), .int (u3 i9), .int (u4 i9)])) (hk : ∀ i9 : Nat, i9 < 20 → fp_o b n f (ek i9) (ob 5 [.int (y1 i9), .int (y2 i9), .int (y3 i9), .int (y4 i9)]))  (hA : fp_W b n A := by assumption) : fp_M l D (TY g) b n A y_T_takeOut (fp_ws y_T_takeOut b_T_takeOut 5 (some FieldType.boolean)) (rmD 2) [.ref t, .ref kq] f (fun v f' => (q_row (fun i => q_same (y1 i) (y2 i) (y3 i) (y4 i) (k1 &&& (k2 &&& oF)) (k2 &&& oF) (k3 &&& (k4 &&& oG)) (k4 &&& oG)) cn 0 = -1 → v = some (.int 0) ∧ f' = (va_up f sq (ob 5 [.int (k1 &&& (k2 &&& oF)), .int (k2 &&& oF), .int (k3 &&& (k4 &&& oG)), .int (k4 &&& oG)]))) ∧ ∀ row : Nat, row < cn → q_row (fun i => q_same (y1 i) (y2 i) (y3 i) (y4 i) (k1 &&& (k2 &&& oF)) (k2 &&& oF) (k3 &&& (k4 &&& oG)) (k4 &&& oG)) cn 0 = nI row → v = some (.int 1) ∧ f' = (va_up (va_up (va_up (va_up f sq (ob 5 [.int (k1 &&& (k2 &&& oF)), .int (k2 &&& oF), .int (k3 &&& (k4 &&& oG)), .int (k4 &&& oG)])) r (aR g 3 20 (q_sh zr row cn))) t (ob 6 [.ref r, .int (nI (cn - 1)), .int xf, .int xg, .int hF, .int hG, .int oF, .int oG, .int al, .int ms, .ref sq])) r (aR g 3 20 (va_up (q_sh zr row cn) (cn - 1) (some (er row)))))) := by
  refine fp_ofI (plainFor_of_name (by decide)) (Nat.le_of_ble_eq_true rfl) ?_
  intro p e s m args below meth c Q ls H locs X Y hl ret
  have hx := X.1.1
  have hb := X.1.2.1
  have hl : lv_has ls 5 [(0, .ref t), (1, .ref kq)] := hl
  refine lv_aload_n hx hb d_T_takeOut_0 rfl (lv_at hl 0 rfl) ?_
  refine lv_aload_n hx hb d_T_takeOut_1 rfl (lv_at hl 1 rfl) ?_
  refine fp_callV (nA := 1) (As := [.ref kq]) (rest := []) X Y (c_T_seek ot os oq) ot rfl w537 w534 w536 wp8 w7 (by decide +kernel) ⟨rfl, rfl⟩ ⟨Nat.le_of_ble_eq_true rfl, Nat.le_of_ble_eq_true rfl⟩ rfl hl.1 rfl (Nat.le_of_ble_eq_true rfl) d_T_takeOut_2 ⟨Nat.zero_le _, Nat.zero_le _⟩ (fun v9 f9 H locs hp9 Y => ?_)
  obtain ⟨e8, e9⟩ := hp9
  subst e8
  rw [e9] at Y
  have ne_1 : t ≠ sq := (fp_o.nf ot os (by simp))
  have ne_2 : r ≠ sq := (fp_o.nf orr os (by simp))
  have Y : fp_H D b n A (va_up f sq (ob 5 [.int (k1 &&& (k2 &&& oF)), .int (k2 &&& oF), .int (k3 &&& (k4 &&& oG)), .int (k4 &&& oG)])) s.heap H locs := Y
  have ot : fp_o b n (va_up f sq (ob 5 [.int (k1 &&& (k2 &&& oF)), .int (k2 &&& oF), .int (k3 &&& (k4 &&& oG)), .int (k4 &&& oG)])) t (ob 6 [.ref r, .int (nI cn), .int xf, .int xg, .int hF, .int hG, .int oF, .int oG, .int al, .int ms, .ref sq]) := fp_o.ne ot ne_1
  have orr : fp_o b n (va_up f sq (ob 5 [.int (k1 &&& (k2 &&& oF)), .int (k2 &&& oF), .int (k3 &&& (k4 &&& oG)), .int (k4 &&& oG)])) r (aR g 3 20 zr) := fp_o.ne orr ne_2
  have he : ∀ i9 : Nat, i9 < 20 → fp_o b n (va_up f sq (ob 5 [.int (k1 &&& (k2 &&& oF)), .int (k2 &&& oF), .int (k3 &&& (k4 &&& oG)), .int (k4 &&& oG)])) (er i9) (ob 3 [.ref (ek i9), .int (u1 i9), .int (u2 i9), .int (u3 i9), .int (u4 i9)]) := fun i9 hi9 => fp_o.ne (he i9 hi9) (fp_o.nf (he i9 hi9) os (by simp))
  have hk : ∀ i9 : Nat, i9 < 20 → fp_o b n (va_up f sq (ob 5 [.int (k1 &&& (k2 &&& oF)), .int (k2 &&& oF), .int (k3 &&& (k4 &&& oG)), .int (k4 &&& oG)])) (ek i9) (ob 5 [.int (y1 i9), .int (y2 i9), .int (y3 i9), .int (y4 i9)]) := fun i9 hi9 => fp_o.ne (hk i9 hi9) (hsk i9 hi9)
  have os : fp_o b n (va_up f sq (ob 5 [.int (k1 &&& (k2 &&& oF)), .int (k2 &&& oF), .int (k3 &&& (k4 &&& oG)), .int (k4 &&& oG)])) sq (ob 5 [.int (k1 &&& (k2 &&& oF)), .int (k2 &&& oF), .int (k3 &&& (k4 &&& oG)), .int (k4 &&& oG)]) := fp_o.up os
  refine W.eq (g2 := F0 m 5 ls []) rfl ?_
  refine lv_aload_n hx hb d_T_takeOut_5 rfl (lv_at hl 0 rfl) ?_
  refine fp_callV (nA := 0) (As := []) (rest := []) X Y (c_T_rowOfSought hcn (fun i hi => hr i (by omega)) ot orr os (fun i hi => he i (by omega)) (fun i hi => hk i (by omega))) ot rfl w553 w550 w552 wp11 w7 (by decide +kernel) ⟨rfl, rfl⟩ ⟨Nat.le_of_ble_eq_true rfl, Nat.le_of_ble_eq_true rfl⟩ rfl hl.1 rfl (Nat.le_of_ble_eq_true rfl) d_T_takeOut_6 ⟨Nat.zero_le _, Nat.zero_le _⟩ (fun v9 f9 H locs hp9 Y => ?_)
  obtain ⟨e8, e9⟩ := hp9
  subst e8
  rw [e9] at Y
  refine W.eq (g2 := F0 m 9 ls [.int (q_row (fun i => q_same (y1 i) (y2 i) (y3 i) (y4 i) (k1 &&& (k2 &&& oF)) (k2 &&& oF) (k3 &&& (k4 &&& oG)) (k4 &&& oG)) cn 0)]) rfl ?_
  refine lv_istore_n (lv' := [(2, .int (q_row (fun i => q_same (y1 i) (y2 i) (y3 i) (y4 i) (k1 &&& (k2 &&& oF)) (k2 &&& oF) (k3 &&& (k4 &&& oG)) (k4 &&& oG)) cn 0)), (0, .ref t), (1, .ref kq)]) hx hb d_T_takeOut_9 rfl hl (by decide) rfl (fun ls hl => ?_)
  rcases q_row_or (fun i => q_same (y1 i) (y2 i) (y3 i) (y4 i) (k1 &&& (k2 &&& oF)) (k2 &&& oF) (k3 &&& (k4 &&& oG)) (k4 &&& oG)) cn 0 with hq | ⟨row, -, hrow, hq, -⟩
  · have hl : lv_has ls 5 [(2, .int (-1)), (0, .ref t), (1, .ref kq)] := by rw [hq] at hl; exact hl
    refine lv_iload_n hx hb d_T_takeOut_10 rfl (lv_at hl 0 rfl) ?_
    refine lv_if_lt (tgt := 22) hx hb d_T_takeOut_11 (by decide) (fun c_11 => ?_) (fun c_11 => absurd (by decide) c_11)
    refine lv_iconst (v := 0) hx hb d_T_takeOut_22 (by decide) ?_
    exact ret _ _ _ _ _ _ d_T_takeOut_23 ⟨_, rfl, rfl⟩ ⟨fun _ => ⟨rfl, rfl⟩, fun row h1 h2 => absurd (hq.symm.trans h2) (m1_ne (by omega))⟩ Y
  · have hl : lv_has ls 5 [(2, .int (nI row)), (0, .ref t), (1, .ref kq)] := by rw [hq] at hl; exact hl
    refine lv_iload_n hx hb d_T_takeOut_10 rfl (lv_at hl 0 rfl) ?_
    refine lv_if_lt (tgt := 22) hx hb d_T_takeOut_11 (by decide) (fun c_11 => absurd c_11 (nI_pos (by omega))) (fun c_11 => ?_)
    refine lv_iload_n hx hb d_T_takeOut_14 rfl (lv_at hl 0 rfl) ?_
    refine lv_aload_n hx hb d_T_takeOut_15 rfl (lv_at hl 1 rfl) ?_
    refine fp_get X Y ot rfl in_T 1 (by decide) w156 rfl d_T_takeOut_16 ?_
    refine lv_icmp_lt (tgt := 24) hx hb d_T_takeOut_19 (by decide) (fun c_19 => ?_) (fun c_19 => absurd (nI_lt (by omega) (by omega)) c_19)
    refine lv_aload_n hx hb d_T_takeOut_24 rfl (lv_at hl 1 rfl) ?_
    refine fp_get X Y ot rfl in_T 0 (by decide) w155 rfl d_T_takeOut_25 ?_
    refine lv_iload_n hx hb d_T_takeOut_28 rfl (lv_at hl 0 rfl) ?_
    have oe : fp_o b n (va_up f sq (ob 5 [.int (k1 &&& (k2 &&& oF)), .int (k2 &&& oF), .int (k3 &&& (k4 &&& oG)), .int (k4 &&& oG)])) (er row) (ob 3 [.ref (ek row), .int (u1 row), .int (u2 row), .int (u3 row), .int (u4 row)]) := he row (by omega)
    refine fp_ald 3 rfl X Y orr row rfl (by omega) (by decide) (hr row (by omega)) d_T_takeOut_29 ?_
    refine lv_astore_n (lv' := [(3, .ref (er row)), (2, .int (nI row)), (0, .ref t), (1, .ref kq)]) hx hb d_T_takeOut_30 rfl hl (by decide) rfl (fun ls hl => ?_)
    refine lv_iload_n hx hb d_T_takeOut_31 rfl (lv_at hl 1 rfl) ?_
    refine lv_iconst (v := 1) hx hb d_T_takeOut_32 (by decide) ?_
    refine lv_iadd hx hb d_T_takeOut_33 ?_
    rw [nI_1]
    refine lv_istore (lv' := [(4, .int (nI (row + 1))), (3, .ref (er row)), (2, .int (nI row)), (0, .ref t), (1, .ref kq)]) hx hb d_T_takeOut_34 hl (by decide) rfl (fun ls hl => ?_)
    have loop : ∀ (k i : Nat), k + i = cn → row < i → ∀ (H : Heap) (locs : List Loc), fp_H D b n A (va_up (va_up f sq (ob 5 [.int (k1 &&& (k2 &&& oF)), .int (k2 &&& oF), .int (k3 &&& (k4 &&& oG)), .int (k4 &&& oG)])) r (aR g 3 20 (q_sh zr row i))) s.heap H locs → ∀ (ls : Array Slot), lv_has ls 5 [(4, .int (nI i)), (3, .ref (er row)), (2, .int (nI row)), (1, .ref kq), (0, .ref t)] → W p l e (rmD 2) s m args below meth c H locs 0 0 Q (F0 m 36 ls []) := by
      intro k
      induction k with
      | zero =>
        intro i hi hri H locs Y ls hl
        have e0 : i = cn := by omega
        rw [e0] at Y hl
        have ne_3 : t ≠ r := (fp_o.nf ot orr (by simp))
        have ne_4 : sq ≠ r := (fp_o.nf os orr (by simp))
        have ne_5 : er row ≠ r := (fp_o.nf oe orr (by simp))
        have Y : fp_H D b n A (va_up (va_up f sq (ob 5 [.int (k1 &&& (k2 &&& oF)), .int (k2 &&& oF), .int (k3 &&& (k4 &&& oG)), .int (k4 &&& oG)])) r (aR g 3 20 (q_sh zr row cn))) s.heap H locs := Y
        have ot : fp_o b n (va_up (va_up f sq (ob 5 [.int (k1 &&& (k2 &&& oF)), .int (k2 &&& oF), .int (k3 &&& (k4 &&& oG)), .int (k4 &&& oG)])) r (aR g 3 20 (q_sh zr row cn))) t (ob 6 [.ref r, .int (nI cn), .int xf, .int xg, .int hF, .int hG, .int oF, .int oG, .int al, .int ms, .ref sq]) := fp_o.ne ot ne_3
        have os : fp_o b n (va_up (va_up f sq (ob 5 [.int (k1 &&& (k2 &&& oF)), .int (k2 &&& oF), .int (k3 &&& (k4 &&& oG)), .int (k4 &&& oG)])) r (aR g 3 20 (q_sh zr row cn))) sq (ob 5 [.int (k1 &&& (k2 &&& oF)), .int (k2 &&& oF), .int (k3 &&& (k4 &&& oG)), .int (k4 &&& oG)]) := fp_o.ne os ne_4
        have oe : fp_o b n (va_up (va_up f sq (ob 5 [.int (k1 &&& (k2 &&& oF)), .int (k2 &&& oF), .int (k3 &&& (k4 &&& oG)), .int (k4 &&& oG)])) r (aR g 3 20 (q_sh zr row cn))) (er row) (ob 3 [.ref (ek row), .int (u1 row), .int (u2 row), .int (u3 row), .int (u4 row)]) := fp_o.ne oe ne_5
        have he : ∀ i9 : Nat, i9 < 20 → fp_o b n (va_up (va_up f sq (ob 5 [.int (k1 &&& (k2 &&& oF)), .int (k2 &&& oF), .int (k3 &&& (k4 &&& oG)), .int (k4 &&& oG)])) r (aR g 3 20 (q_sh zr row cn))) (er i9) (ob 3 [.ref (ek i9), .int (u1 i9), .int (u2 i9), .int (u3 i9), .int (u4 i9)]) := fun i9 hi9 => fp_o.ne (he i9 hi9) (fp_o.nf (he i9 hi9) orr (by simp))
        have hk : ∀ i9 : Nat, i9 < 20 → fp_o b n (va_up (va_up f sq (ob 5 [.int (k1 &&& (k2 &&& oF)), .int (k2 &&& oF), .int (k3 &&& (k4 &&& oG)), .int (k4 &&& oG)])) r (aR g 3 20 (q_sh zr row cn))) (ek i9) (ob 5 [.int (y1 i9), .int (y2 i9), .int (y3 i9), .int (y4 i9)]) := fun i9 hi9 => fp_o.ne (hk i9 hi9) (fp_o.nf (hk i9 hi9) orr (by simp))
        have orr : fp_o b n (va_up (va_up f sq (ob 5 [.int (k1 &&& (k2 &&& oF)), .int (k2 &&& oF), .int (k3 &&& (k4 &&& oG)), .int (k4 &&& oG)])) r (aR g 3 20 (q_sh zr row cn))) r (aR g 3 20 (q_sh zr row cn)) := fp_o.up orr
        refine lv_iload hx hb d_T_takeOut_36 (lv_at hl 0 rfl) ?_
        refine lv_aload_n hx hb d_T_takeOut_38 rfl (lv_at hl 4 rfl) ?_
        refine fp_get X Y ot rfl in_T 1 (by decide) w156 rfl d_T_takeOut_39 ?_
        refine lv_icmp_ge (tgt := 67) hx hb d_T_takeOut_42 (by decide) (fun c_42 => ?_) (fun c_42 => absurd (Int32.le_refl _) c_42)
        refine lv_aload_n hx hb d_T_takeOut_67 rfl (lv_at hl 4 rfl) ?_
        refine lv_dup hx hb d_T_takeOut_68 rfl ?_
        refine fp_get X Y ot rfl in_T 1 (by decide) w156 rfl d_T_takeOut_69 ?_
        refine lv_iconst (v := 1) hx hb d_T_takeOut_72 (by decide) ?_
        refine lv_isub hx hb d_T_takeOut_73 ?_
        refine fp_put X Y ot rfl in_T to_T nm_T 1 (by decide) w156 rfl rfl rfl (Nat.le_of_ble_eq_true rfl) d_T_takeOut_74 (fun H locs Y => ?_)
        have ne_6 : r ≠ t := (fp_o.nf orr ot (by simp))
        have ne_7 : sq ≠ t := (fp_o.nf os ot (by simp))
        have ne_8 : er row ≠ t := (fp_o.nf oe ot (by simp))
        have Y : fp_H D b n A (va_up (va_up (va_up f sq (ob 5 [.int (k1 &&& (k2 &&& oF)), .int (k2 &&& oF), .int (k3 &&& (k4 &&& oG)), .int (k4 &&& oG)])) r (aR g 3 20 (q_sh zr row cn))) t (ob 6 [.ref r, .int ((nI cn) - 1), .int xf, .int xg, .int hF, .int hG, .int oF, .int oG, .int al, .int ms, .ref sq])) s.heap H locs := Y
        have orr : fp_o b n (va_up (va_up (va_up f sq (ob 5 [.int (k1 &&& (k2 &&& oF)), .int (k2 &&& oF), .int (k3 &&& (k4 &&& oG)), .int (k4 &&& oG)])) r (aR g 3 20 (q_sh zr row cn))) t (ob 6 [.ref r, .int ((nI cn) - 1), .int xf, .int xg, .int hF, .int hG, .int oF, .int oG, .int al, .int ms, .ref sq])) r (aR g 3 20 (q_sh zr row cn)) := fp_o.ne orr ne_6
        have os : fp_o b n (va_up (va_up (va_up f sq (ob 5 [.int (k1 &&& (k2 &&& oF)), .int (k2 &&& oF), .int (k3 &&& (k4 &&& oG)), .int (k4 &&& oG)])) r (aR g 3 20 (q_sh zr row cn))) t (ob 6 [.ref r, .int ((nI cn) - 1), .int xf, .int xg, .int hF, .int hG, .int oF, .int oG, .int al, .int ms, .ref sq])) sq (ob 5 [.int (k1 &&& (k2 &&& oF)), .int (k2 &&& oF), .int (k3 &&& (k4 &&& oG)), .int (k4 &&& oG)]) := fp_o.ne os ne_7
        have oe : fp_o b n (va_up (va_up (va_up f sq (ob 5 [.int (k1 &&& (k2 &&& oF)), .int (k2 &&& oF), .int (k3 &&& (k4 &&& oG)), .int (k4 &&& oG)])) r (aR g 3 20 (q_sh zr row cn))) t (ob 6 [.ref r, .int ((nI cn) - 1), .int xf, .int xg, .int hF, .int hG, .int oF, .int oG, .int al, .int ms, .ref sq])) (er row) (ob 3 [.ref (ek row), .int (u1 row), .int (u2 row), .int (u3 row), .int (u4 row)]) := fp_o.ne oe ne_8
        have he : ∀ i9 : Nat, i9 < 20 → fp_o b n (va_up (va_up (va_up f sq (ob 5 [.int (k1 &&& (k2 &&& oF)), .int (k2 &&& oF), .int (k3 &&& (k4 &&& oG)), .int (k4 &&& oG)])) r (aR g 3 20 (q_sh zr row cn))) t (ob 6 [.ref r, .int ((nI cn) - 1), .int xf, .int xg, .int hF, .int hG, .int oF, .int oG, .int al, .int ms, .ref sq])) (er i9) (ob 3 [.ref (ek i9), .int (u1 i9), .int (u2 i9), .int (u3 i9), .int (u4 i9)]) := fun i9 hi9 => fp_o.ne (he i9 hi9) (fp_o.nf (he i9 hi9) ot (by simp))
        have hk : ∀ i9 : Nat, i9 < 20 → fp_o b n (va_up (va_up (va_up f sq (ob 5 [.int (k1 &&& (k2 &&& oF)), .int (k2 &&& oF), .int (k3 &&& (k4 &&& oG)), .int (k4 &&& oG)])) r (aR g 3 20 (q_sh zr row cn))) t (ob 6 [.ref r, .int ((nI cn) - 1), .int xf, .int xg, .int hF, .int hG, .int oF, .int oG, .int al, .int ms, .ref sq])) (ek i9) (ob 5 [.int (y1 i9), .int (y2 i9), .int (y3 i9), .int (y4 i9)]) := fun i9 hi9 => fp_o.ne (hk i9 hi9) (fp_o.nf (hk i9 hi9) ot (by simp))
        have ot : fp_o b n (va_up (va_up (va_up f sq (ob 5 [.int (k1 &&& (k2 &&& oF)), .int (k2 &&& oF), .int (k3 &&& (k4 &&& oG)), .int (k4 &&& oG)])) r (aR g 3 20 (q_sh zr row cn))) t (ob 6 [.ref r, .int ((nI cn) - 1), .int xf, .int xg, .int hF, .int hG, .int oF, .int oG, .int al, .int ms, .ref sq])) t (ob 6 [.ref r, .int ((nI cn) - 1), .int xf, .int xg, .int hF, .int hG, .int oF, .int oG, .int al, .int ms, .ref sq]) := fp_o.up ot
        refine lv_aload_n hx hb d_T_takeOut_77 rfl (lv_at hl 4 rfl) ?_
        refine fp_get X Y ot rfl in_T 0 (by decide) w155 rfl d_T_takeOut_78 ?_
        refine lv_aload_n hx hb d_T_takeOut_81 rfl (lv_at hl 4 rfl) ?_
        refine fp_get X Y ot rfl in_T 1 (by decide) w156 rfl d_T_takeOut_82 ?_
        refine lv_aload_n hx hb d_T_takeOut_85 rfl (lv_at hl 1 rfl) ?_
        refine fp_ast 3 rfl X Y orr (cn - 1) (nI_m1 (by omega)) (by omega) (by decide) oe rfl d_T_takeOut_86 (fun H locs Y => ?_)
        have ne_9 : t ≠ r := (fp_o.nf ot orr (by simp))
        have ne_10 : sq ≠ r := (fp_o.nf os orr (by simp))
        have ne_11 : er row ≠ r := (fp_o.nf oe orr (by simp))
        have Y : fp_H D b n A (va_up (va_up (va_up (va_up f sq (ob 5 [.int (k1 &&& (k2 &&& oF)), .int (k2 &&& oF), .int (k3 &&& (k4 &&& oG)), .int (k4 &&& oG)])) r (aR g 3 20 (q_sh zr row cn))) t (ob 6 [.ref r, .int ((nI cn) - 1), .int xf, .int xg, .int hF, .int hG, .int oF, .int oG, .int al, .int ms, .ref sq])) r (aR g 3 20 (va_up (q_sh zr row cn) (cn - 1) (some (er row))))) s.heap H locs := Y
        have ot : fp_o b n (va_up (va_up (va_up (va_up f sq (ob 5 [.int (k1 &&& (k2 &&& oF)), .int (k2 &&& oF), .int (k3 &&& (k4 &&& oG)), .int (k4 &&& oG)])) r (aR g 3 20 (q_sh zr row cn))) t (ob 6 [.ref r, .int ((nI cn) - 1), .int xf, .int xg, .int hF, .int hG, .int oF, .int oG, .int al, .int ms, .ref sq])) r (aR g 3 20 (va_up (q_sh zr row cn) (cn - 1) (some (er row))))) t (ob 6 [.ref r, .int ((nI cn) - 1), .int xf, .int xg, .int hF, .int hG, .int oF, .int oG, .int al, .int ms, .ref sq]) := fp_o.ne ot ne_9
        have os : fp_o b n (va_up (va_up (va_up (va_up f sq (ob 5 [.int (k1 &&& (k2 &&& oF)), .int (k2 &&& oF), .int (k3 &&& (k4 &&& oG)), .int (k4 &&& oG)])) r (aR g 3 20 (q_sh zr row cn))) t (ob 6 [.ref r, .int ((nI cn) - 1), .int xf, .int xg, .int hF, .int hG, .int oF, .int oG, .int al, .int ms, .ref sq])) r (aR g 3 20 (va_up (q_sh zr row cn) (cn - 1) (some (er row))))) sq (ob 5 [.int (k1 &&& (k2 &&& oF)), .int (k2 &&& oF), .int (k3 &&& (k4 &&& oG)), .int (k4 &&& oG)]) := fp_o.ne os ne_10
        have oe : fp_o b n (va_up (va_up (va_up (va_up f sq (ob 5 [.int (k1 &&& (k2 &&& oF)), .int (k2 &&& oF), .int (k3 &&& (k4 &&& oG)), .int (k4 &&& oG)])) r (aR g 3 20 (q_sh zr row cn))) t (ob 6 [.ref r, .int ((nI cn) - 1), .int xf, .int xg, .int hF, .int hG, .int oF, .int oG, .int al, .int ms, .ref sq])) r (aR g 3 20 (va_up (q_sh zr row cn) (cn - 1) (some (er row))))) (er row) (ob 3 [.ref (ek row), .int (u1 row), .int (u2 row), .int (u3 row), .int (u4 row)]) := fp_o.ne oe ne_11
        have he : ∀ i9 : Nat, i9 < 20 → fp_o b n (va_up (va_up (va_up (va_up f sq (ob 5 [.int (k1 &&& (k2 &&& oF)), .int (k2 &&& oF), .int (k3 &&& (k4 &&& oG)), .int (k4 &&& oG)])) r (aR g 3 20 (q_sh zr row cn))) t (ob 6 [.ref r, .int ((nI cn) - 1), .int xf, .int xg, .int hF, .int hG, .int oF, .int oG, .int al, .int ms, .ref sq])) r (aR g 3 20 (va_up (q_sh zr row cn) (cn - 1) (some (er row))))) (er i9) (ob 3 [.ref (ek i9), .int (u1 i9), .int (u2 i9), .int (u3 i9), .int (u4 i9)]) := fun i9 hi9 => fp_o.ne (he i9 hi9) (fp_o.nf (he i9 hi9) orr (by simp))
        have hk : ∀ i9 : Nat, i9 < 20 → fp_o b n (va_up (va_up (va_up (va_up f sq (ob 5 [.int (k1 &&& (k2 &&& oF)), .int (k2 &&& oF), .int (k3 &&& (k4 &&& oG)), .int (k4 &&& oG)])) r (aR g 3 20 (q_sh zr row cn))) t (ob 6 [.ref r, .int ((nI cn) - 1), .int xf, .int xg, .int hF, .int hG, .int oF, .int oG, .int al, .int ms, .ref sq])) r (aR g 3 20 (va_up (q_sh zr row cn) (cn - 1) (some (er row))))) (ek i9) (ob 5 [.int (y1 i9), .int (y2 i9), .int (y3 i9), .int (y4 i9)]) := fun i9 hi9 => fp_o.ne (hk i9 hi9) (fp_o.nf (hk i9 hi9) orr (by simp))
        have orr : fp_o b n (va_up (va_up (va_up (va_up f sq (ob 5 [.int (k1 &&& (k2 &&& oF)), .int (k2 &&& oF), .int (k3 &&& (k4 &&& oG)), .int (k4 &&& oG)])) r (aR g 3 20 (q_sh zr row cn))) t (ob 6 [.ref r, .int ((nI cn) - 1), .int xf, .int xg, .int hF, .int hG, .int oF, .int oG, .int al, .int ms, .ref sq])) r (aR g 3 20 (va_up (q_sh zr row cn) (cn - 1) (some (er row))))) r (aR g 3 20 (va_up (q_sh zr row cn) (cn - 1) (some (er row)))) := fp_o.up orr
        refine lv_iconst (v := 1) hx hb d_T_takeOut_87 (by decide) ?_
        exact ret _ _ _ _ _ _ d_T_takeOut_88 ⟨_, rfl, rfl⟩ ⟨fun h9 => absurd (h9.symm.trans hq) (m1_ne (by omega)), fun row9 h1 h2 => by
      have e9 : row9 = row := (nI_eq (by omega) (by omega)).mp (h2.symm.trans hq)
      subst e9
      exact ⟨rfl, by rw [← nI_m1 (show 0 < cn by omega)]⟩⟩ Y
      | succ k ih =>
        intro i hi hri H locs Y ls hl
        have ne_12 : t ≠ r := (fp_o.nf ot orr (by simp))
        have ne_13 : sq ≠ r := (fp_o.nf os orr (by simp))
        have ne_14 : er row ≠ r := (fp_o.nf oe orr (by simp))
        have Y : fp_H D b n A (va_up (va_up f sq (ob 5 [.int (k1 &&& (k2 &&& oF)), .int (k2 &&& oF), .int (k3 &&& (k4 &&& oG)), .int (k4 &&& oG)])) r (aR g 3 20 (q_sh zr row i))) s.heap H locs := Y
        have ot : fp_o b n (va_up (va_up f sq (ob 5 [.int (k1 &&& (k2 &&& oF)), .int (k2 &&& oF), .int (k3 &&& (k4 &&& oG)), .int (k4 &&& oG)])) r (aR g 3 20 (q_sh zr row i))) t (ob 6 [.ref r, .int (nI cn), .int xf, .int xg, .int hF, .int hG, .int oF, .int oG, .int al, .int ms, .ref sq]) := fp_o.ne ot ne_12
        have os : fp_o b n (va_up (va_up f sq (ob 5 [.int (k1 &&& (k2 &&& oF)), .int (k2 &&& oF), .int (k3 &&& (k4 &&& oG)), .int (k4 &&& oG)])) r (aR g 3 20 (q_sh zr row i))) sq (ob 5 [.int (k1 &&& (k2 &&& oF)), .int (k2 &&& oF), .int (k3 &&& (k4 &&& oG)), .int (k4 &&& oG)]) := fp_o.ne os ne_13
        have oe : fp_o b n (va_up (va_up f sq (ob 5 [.int (k1 &&& (k2 &&& oF)), .int (k2 &&& oF), .int (k3 &&& (k4 &&& oG)), .int (k4 &&& oG)])) r (aR g 3 20 (q_sh zr row i))) (er row) (ob 3 [.ref (ek row), .int (u1 row), .int (u2 row), .int (u3 row), .int (u4 row)]) := fp_o.ne oe ne_14
        have he : ∀ i9 : Nat, i9 < 20 → fp_o b n (va_up (va_up f sq (ob 5 [.int (k1 &&& (k2 &&& oF)), .int (k2 &&& oF), .int (k3 &&& (k4 &&& oG)), .int (k4 &&& oG)])) r (aR g 3 20 (q_sh zr row i))) (er i9) (ob 3 [.ref (ek i9), .int (u1 i9), .int (u2 i9), .int (u3 i9), .int (u4 i9)]) := fun i9 hi9 => fp_o.ne (he i9 hi9) (fp_o.nf (he i9 hi9) orr (by simp))
        have hk : ∀ i9 : Nat, i9 < 20 → fp_o b n (va_up (va_up f sq (ob 5 [.int (k1 &&& (k2 &&& oF)), .int (k2 &&& oF), .int (k3 &&& (k4 &&& oG)), .int (k4 &&& oG)])) r (aR g 3 20 (q_sh zr row i))) (ek i9) (ob 5 [.int (y1 i9), .int (y2 i9), .int (y3 i9), .int (y4 i9)]) := fun i9 hi9 => fp_o.ne (hk i9 hi9) (fp_o.nf (hk i9 hi9) orr (by simp))
        have orr : fp_o b n (va_up (va_up f sq (ob 5 [.int (k1 &&& (k2 &&& oF)), .int (k2 &&& oF), .int (k3 &&& (k4 &&& oG)), .int (k4 &&& oG)])) r (aR g 3 20 (q_sh zr row i))) r (aR g 3 20 (q_sh zr row i)) := fp_o.up orr
        refine lv_iload hx hb d_T_takeOut_36 (lv_at hl 0 rfl) ?_
        refine lv_aload_n hx hb d_T_takeOut_38 rfl (lv_at hl 4 rfl) ?_
        refine fp_get X Y ot rfl in_T 1 (by decide) w156 rfl d_T_takeOut_39 ?_
        refine lv_icmp_ge (tgt := 67) hx hb d_T_takeOut_42 (by decide) (fun c_42 => absurd c_42 (nI_ge (by omega) (by omega))) (fun c_42 => ?_)
        refine lv_aload_n hx hb d_T_takeOut_45 rfl (lv_at hl 4 rfl) ?_
        refine fp_get X Y ot rfl in_T 0 (by decide) w155 rfl d_T_takeOut_46 ?_
        refine lv_iload hx hb d_T_takeOut_49 (lv_at hl 0 rfl) ?_
        refine lv_iconst (v := 1) hx hb d_T_takeOut_51 (by decide) ?_
        refine lv_isub hx hb d_T_takeOut_52 ?_
        refine lv_aload_n hx hb d_T_takeOut_53 rfl (lv_at hl 4 rfl) ?_
        refine fp_get X Y ot rfl in_T 0 (by decide) w155 rfl d_T_takeOut_54 ?_
        refine lv_iload hx hb d_T_takeOut_57 (lv_at hl 0 rfl) ?_
        have oe2 : fp_o b n (va_up (va_up f sq (ob 5 [.int (k1 &&& (k2 &&& oF)), .int (k2 &&& oF), .int (k3 &&& (k4 &&& oG)), .int (k4 &&& oG)])) r (aR g 3 20 (q_sh zr row i))) (er i) (ob 3 [.ref (ek i), .int (u1 i), .int (u2 i), .int (u3 i), .int (u4 i)]) := he i (by omega)
        refine fp_ald 3 rfl X Y orr i rfl (by omega) (by decide) (by simp only [q_sh, if_neg (show ¬ (row ≤ i ∧ i + 1 < i) by omega)]; exact hr i (by omega)) d_T_takeOut_59 ?_
        refine fp_ast 3 rfl X Y orr (i - 1) (nI_m1 (by omega)) (by omega) (by decide) oe2 rfl d_T_takeOut_60 (fun H locs Y => ?_)
        have ne_15 : t ≠ r := (fp_o.nf ot orr (by simp))
        have ne_16 : sq ≠ r := (fp_o.nf os orr (by simp))
        have ne_17 : er row ≠ r := (fp_o.nf oe orr (by simp))
        have ne_18 : er i ≠ r := (fp_o.nf oe2 orr (by simp))
        have Y := Y.re
        have Y : fp_H D b n A (va_up (va_up f sq (ob 5 [.int (k1 &&& (k2 &&& oF)), .int (k2 &&& oF), .int (k3 &&& (k4 &&& oG)), .int (k4 &&& oG)])) r (aR g 3 20 (va_up (q_sh zr row i) (i - 1) (some (er i))))) s.heap H locs := Y
        have ot : fp_o b n (va_up (va_up f sq (ob 5 [.int (k1 &&& (k2 &&& oF)), .int (k2 &&& oF), .int (k3 &&& (k4 &&& oG)), .int (k4 &&& oG)])) r (aR g 3 20 (va_up (q_sh zr row i) (i - 1) (some (er i))))) t (ob 6 [.ref r, .int (nI cn), .int xf, .int xg, .int hF, .int hG, .int oF, .int oG, .int al, .int ms, .ref sq]) := fp_o.re ot ne_15
        have os : fp_o b n (va_up (va_up f sq (ob 5 [.int (k1 &&& (k2 &&& oF)), .int (k2 &&& oF), .int (k3 &&& (k4 &&& oG)), .int (k4 &&& oG)])) r (aR g 3 20 (va_up (q_sh zr row i) (i - 1) (some (er i))))) sq (ob 5 [.int (k1 &&& (k2 &&& oF)), .int (k2 &&& oF), .int (k3 &&& (k4 &&& oG)), .int (k4 &&& oG)]) := fp_o.re os ne_16
        have oe : fp_o b n (va_up (va_up f sq (ob 5 [.int (k1 &&& (k2 &&& oF)), .int (k2 &&& oF), .int (k3 &&& (k4 &&& oG)), .int (k4 &&& oG)])) r (aR g 3 20 (va_up (q_sh zr row i) (i - 1) (some (er i))))) (er row) (ob 3 [.ref (ek row), .int (u1 row), .int (u2 row), .int (u3 row), .int (u4 row)]) := fp_o.re oe ne_17
        have oe2 : fp_o b n (va_up (va_up f sq (ob 5 [.int (k1 &&& (k2 &&& oF)), .int (k2 &&& oF), .int (k3 &&& (k4 &&& oG)), .int (k4 &&& oG)])) r (aR g 3 20 (va_up (q_sh zr row i) (i - 1) (some (er i))))) (er i) (ob 3 [.ref (ek i), .int (u1 i), .int (u2 i), .int (u3 i), .int (u4 i)]) := fp_o.re oe2 ne_18
        have he : ∀ i9 : Nat, i9 < 20 → fp_o b n (va_up (va_up f sq (ob 5 [.int (k1 &&& (k2 &&& oF)), .int (k2 &&& oF), .int (k3 &&& (k4 &&& oG)), .int (k4 &&& oG)])) r (aR g 3 20 (va_up (q_sh zr row i) (i - 1) (some (er i))))) (er i9) (ob 3 [.ref (ek i9), .int (u1 i9), .int (u2 i9), .int (u3 i9), .int (u4 i9)]) := fun i9 hi9 => fp_o.re (he i9 hi9) (fp_o.nf (he i9 hi9) orr (by simp))
        have hk : ∀ i9 : Nat, i9 < 20 → fp_o b n (va_up (va_up f sq (ob 5 [.int (k1 &&& (k2 &&& oF)), .int (k2 &&& oF), .int (k3 &&& (k4 &&& oG)), .int (k4 &&& oG)])) r (aR g 3 20 (va_up (q_sh zr row i) (i - 1) (some (er i))))) (ek i9) (ob 5 [.int (y1 i9), .int (y2 i9), .int (y3 i9), .int (y4 i9)]) := fun i9 hi9 => fp_o.re (hk i9 hi9) (fp_o.nf (hk i9 hi9) orr (by simp))
        have orr : fp_o b n (va_up (va_up f sq (ob 5 [.int (k1 &&& (k2 &&& oF)), .int (k2 &&& oF), .int (k3 &&& (k4 &&& oG)), .int (k4 &&& oG)])) r (aR g 3 20 (va_up (q_sh zr row i) (i - 1) (some (er i))))) r (aR g 3 20 (va_up (q_sh zr row i) (i - 1) (some (er i)))) := fp_o.rs orr
        refine lv_iinc (v := nI (i + 1)) (lv' := [(4, .int (nI (i + 1))), (3, .ref (er row)), (2, .int (nI row)), (1, .ref kq), (0, .ref t)]) hx hb d_T_takeOut_61 hl (k := 0) rfl (nI_1 i) (by decide) rfl (fun ls hl => ?_)
        refine lv_goto (tgt := 36) hx hb d_T_takeOut_64 (by decide) ?_
        exact ih (i + 1) (by omega) (by omega) _ _ (by rw [← q_sh_s zr (by omega), hr i (by omega)]; exact Y) ls (lv_sub hl [0, 1, 2, 3, 4] rfl)
    exact loop (cn - (row + 1)) (row + 1) (by omega) (by omega) _ _ (by rw [q_sh_0, va_up_same orr.2.2]; exact Y) ls (lv_sub hl [0, 1, 2, 4, 3] rfl)
set_option maxHeartbeats 4000000 in
set_option maxRecDepth 100000 in
theorem c_JA_fill {l : Launch} {D : va_G} {g : Nat → ClassId} {b n : Nat} {A : Nat → Prop} {f : Nat → va_E} {q N : Nat} {z : Nat → Int32} (x : Int32) (hN : N < 2 ^ 31) (oq : fp_o b n f q (aI g N z))  (hA : fp_W b n A := by assumption) : fp_M l D (TY g) b n A y_JA_fill (fp_ws y_JA_fill b_JA_fill 4 none) (rmD 0) [.ref q, .int x] f (fun v f' => v = none ∧ f' = va_up f q (aI g N (q_fill z x N))) := by
  refine fp_ofV (by decide +kernel) (Nat.le_of_ble_eq_true rfl) ?_
  intro p e s m args below meth c Q ls H locs X Y hl ret
  have hx := X.1.1
  have hb := X.1.2.1
  have hl : lv_has ls 4 [(0, .ref q), (1, .int x)] := hl
  refine lv_iconst (v := 0) hx hb d_JA_fill_0 (by decide) ?_
  refine lv_istore_n (lv' := [(2, .int 0), (0, .ref q), (1, .int x)]) hx hb d_JA_fill_1 rfl hl (by decide) rfl (fun ls hl => ?_)
  refine lv_aload_n hx hb d_JA_fill_2 rfl (lv_at hl 1 rfl) ?_
  refine fp_alen X Y 0 oq rfl d_JA_fill_3 ?_
  refine lv_istore_n (lv' := [(3, .int (nI N)), (2, .int 0), (0, .ref q), (1, .int x)]) hx hb d_JA_fill_4 rfl hl (by decide) rfl (fun ls hl => ?_)
  have loop : ∀ (k i : Nat), k + i = N → ∀ (H : Heap) (locs : List Loc), fp_H D b n A (va_up f q (aI g N (q_fill z x i))) s.heap H locs → ∀ (ls : Array Slot), lv_has ls 4 [(3, .int (nI N)), (2, .int (nI i)), (1, .int x), (0, .ref q)] → W p l e (rmD 0) s m args below meth c H locs 0 0 Q (F0 m 5 ls []) := by
    intro k
    induction k with
    | zero =>
      intro i hi H locs Y ls hl
      have e0 : i = N := by omega
      rw [e0] at Y hl
      have Y : fp_H D b n A (va_up f q (aI g N (q_fill z x N))) s.heap H locs := Y
      have oq : fp_o b n (va_up f q (aI g N (q_fill z x N))) q (aI g N (q_fill z x N)) := fp_o.up oq
      refine lv_iload_n hx hb d_JA_fill_5 rfl (lv_at hl 1 rfl) ?_
      refine lv_iload_n hx hb d_JA_fill_6 rfl (lv_at hl 0 rfl) ?_
      refine lv_icmp_ge (tgt := 20) hx hb d_JA_fill_7 (by decide) (fun c_7 => ?_) (fun c_7 => absurd (Int32.le_refl _) c_7)
      exact ret _ _ _ _ _ d_JA_fill_20 ⟨rfl, rfl⟩ Y
    | succ k ih =>
      intro i hi H locs Y ls hl
      have Y : fp_H D b n A (va_up f q (aI g N (q_fill z x i))) s.heap H locs := Y
      have oq : fp_o b n (va_up f q (aI g N (q_fill z x i))) q (aI g N (q_fill z x i)) := fp_o.up oq
      refine lv_iload_n hx hb d_JA_fill_5 rfl (lv_at hl 1 rfl) ?_
      refine lv_iload_n hx hb d_JA_fill_6 rfl (lv_at hl 0 rfl) ?_
      refine lv_icmp_ge (tgt := 20) hx hb d_JA_fill_7 (by decide) (fun c_7 => absurd c_7 (nI_ge (by omega) hN)) (fun c_7 => ?_)
      refine lv_aload_n hx hb d_JA_fill_10 rfl (lv_at hl 3 rfl) ?_
      refine lv_iload_n hx hb d_JA_fill_11 rfl (lv_at hl 1 rfl) ?_
      refine lv_iload_n hx hb d_JA_fill_12 rfl (lv_at hl 2 rfl) ?_
      refine fp_ist X Y oq i rfl (by omega) hN d_JA_fill_13 (fun H locs Y => ?_)
      have Y := Y.re
      have Y : fp_H D b n A (va_up f q (aI g N (upd (q_fill z x i) i x))) s.heap H locs := Y
      have oq : fp_o b n (va_up f q (aI g N (upd (q_fill z x i) i x))) q (aI g N (upd (q_fill z x i) i x)) := fp_o.rs oq
      refine lv_iinc (v := nI (i + 1)) (lv' := [(2, .int (nI (i + 1))), (3, .int (nI N)), (1, .int x), (0, .ref q)]) hx hb d_JA_fill_14 hl (k := 1) rfl (nI_1 i) (by decide) rfl (fun ls hl => ?_)
      refine lv_goto (tgt := 5) hx hb d_JA_fill_17 (by decide) ?_
      exact ih (i + 1) (by omega) _ _ (by rw [← q_fill_s]; exact Y) ls (lv_sub hl [1, 0, 2, 3] rfl)
  exact loop N 0 (by omega) _ _ (by rw [q_fill_0, va_up_same oq.2.2]; exact Y) ls (lv_sub hl [0, 1, 3, 2] rfl)
set_option maxHeartbeats 4000000 in
set_option maxRecDepth 100000 in
theorem c_C_forget {l : Launch} {D : va_G} {g : Nat → ClassId} {b n : Nat} {A : Nat → Prop} {f : Nat → va_E} {a q : Nat} {z : Nat → Int32} (oa : fp_o b n f a (ob 1 [.ref q])) (o1 : fp_o b n f q (aI g 64 z))  (hA : fp_W b n A := by assumption) : fp_M l D (TY g) b n A y_C_forget (fp_ws y_C_forget b_C_forget 1 none) (rmD 1) [.ref a] f (fun v f' => v = none ∧ f' = va_up f q (aI g 64 (q_fill z 0 64))) := by
  refine fp_ofV (plainFor_of_name (by decide)) (Nat.le_of_ble_eq_true rfl) ?_
  intro p e s m args below meth c Q ls H locs X Y hl ret
  have hx := X.1.1
  have hb := X.1.2.1
  have hl : lv_has ls 1 [(0, .ref a)] := hl
  refine lv_aload_n hx hb d_C_forget_0 rfl (lv_at hl 0 rfl) ?_
  refine fp_get X Y oa rfl in_C 0 (by decide) w50 rfl d_C_forget_1 ?_
  refine lv_iconst (v := 0) hx hb d_C_forget_4 (by decide) ?_
  refine fp_callS (nA := 2) (As := [.ref q, .int 0]) (rest := []) X Y (c_JA_fill 0 (by decide) o1) w233 w231 w232 w10 (by decide +kernel) ⟨rfl, rfl⟩ ⟨Nat.le_of_ble_eq_true rfl, Nat.le_of_ble_eq_true rfl⟩ rfl hl.1 rfl (Nat.le_of_ble_eq_true rfl) d_C_forget_5 ⟨Nat.zero_le _, Nat.zero_le _⟩ (fun v9 f9 H locs hp9 Y => ?_)
  obtain ⟨e8, e9⟩ := hp9
  subst e8
  rw [e9] at Y
  have ne_1 : a ≠ q := (fp_o.nf oa o1 (by simp))
  have Y : fp_H D b n A (va_up f q (aI g 64 (q_fill z 0 64))) s.heap H locs := Y
  have oa : fp_o b n (va_up f q (aI g 64 (q_fill z 0 64))) a (ob 1 [.ref q]) := fp_o.ne oa ne_1
  have o1 : fp_o b n (va_up f q (aI g 64 (q_fill z 0 64))) q (aI g 64 (q_fill z 0 64)) := fp_o.up o1
  refine W.eq (g2 := F0 m 8 ls []) rfl ?_
  exact ret _ _ _ _ _ d_C_forget_8 ⟨rfl, rfl⟩ Y
