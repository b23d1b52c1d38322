/-! Contracts: the reference: cut, bits, isMask, find, prefix, unknown, clear (by wip/gen/k10.py). -/
/-- the reference's sum of bits -/
def q_bits (v : Int32) : Nat → Int32
  | 0 => 0
  | k + 1 => q_bits v k + ((v.toUInt32 >>> ((nI k).toUInt32 &&& Int32.toUInt32 31)).toInt32 &&& 1)
/-- the reference's loop over the masks of a width: r steps are left, the next bit is k, the mask is m -/
def q_mk (mask : Int32) : Nat → Nat → Int32 → Int32
  | 0, _, _ => if mask = 0 then 1 else 0
  | r + 1, k, m => if mask = m then 1 else q_mk mask r (k + 1) (m &&& (((1 : Int32) <<< (nI k &&& 31)) ^^^ (-1)))
def q_mm (kind mask all : Int32) (w : Nat) : Int32 := if kind = 0 then (if mask = all then 1 else 0) else if kind = 2 then 1 else q_mk mask w 0 all
def q_pm (hw e1 e3 : Int32) : Int32 := if hw - hw / 4 * 4 = 1 then q_bits e1 32 else if hw / 4 = 1 then q_bits e3 32 else 0
theorem q_at8 (t k : Nat) : (160 : Int32) * nI t + 8 * nI k = nI (160 * t + 8 * k) := by
  rw [show (160 : Int32) = nI 160 from rfl, show (8 : Int32) = nI 8 from rfl, pk_mul, pk_mul, nI_add]
theorem q_at4 (t k : Nat) : (16 : Int32) * nI t + 4 * nI k = nI (16 * t + 4 * k) := by
  rw [show (16 : Int32) = nI 16 from rfl, show (4 : Int32) = nI 4 from rfl, pk_mul, pk_mul, nI_add]
theorem q_same_n {k1 k2 k3 k4 j1 j2 j3 j4 : Int32} (h : ¬ k1 = j1 ∨ ¬ k2 = j2 ∨ ¬ k3 = j3 ∨ ¬ k4 = j4) : q_same k1 k2 k3 k4 j1 j2 j3 j4 = 0 := by
  unfold q_same
  rw [if_neg]
  rintro ⟨a, b, c, d⟩
  rcases h with h | h | h | h
  · exact h a
  · exact h b
  · exact h c
  · exact h d
theorem q_same_y {k1 k2 k3 k4 j1 j2 j3 j4 : Int32} (h1 : k1 = j1) (h2 : k2 = j2) (h3 : k3 = j3) (h4 : k4 = j4) : q_same k1 k2 k3 k4 j1 j2 j3 j4 = 1 := by
  unfold q_same
  rw [if_pos ⟨h1, h2, h3, h4⟩]
theorem nar_mk (mask : Int32) : ∀ (r k : Nat) (m : Int32), q_mk mask r k m = 0 ∨ q_mk mask r k m = 1
  | 0, _, _ => by unfold q_mk; split <;> simp
  | r + 1, k, m => by
    unfold q_mk
    split
    · exact Or.inr rfl
    · exact nar_mk mask r _ _
set_option maxHeartbeats 4000000 in
set_option maxRecDepth 100000 in
theorem c_M_cut_1 {l : Launch} {D : va_G} {g : Nat → ClassId} {b n : Nat} {A : Nat → Prop} {f : Nat → va_E} {mo : Nat} {th nf na nt po dr : Int32} {zw zo zt zk zx : Nat → Int32} {tj j1 : Nat} (htj : tj < 8) (hj1 : j1 < 16) (h1 : zo tj = nI j1) (h2 : zt tj = -1) (om : fp_o b n f mo (ob 8 [.int th, .int nf, .ref (mo + 1), .ref (mo + 2), .int na, .ref (mo + 3), .ref (mo + 4), .ref (mo + 5), .int nt, .ref (mo + 6), .ref (mo + 7), .ref (mo + 8), .ref (mo + 9), .ref (mo + 10), .ref (mo + 11), .ref (mo + 12), .ref (mo + 13), .ref (mo + 14), .int po, .int dr])) (o_width : fp_o b n f (mo + 1) (aI g 16 zw)) (o_one : fp_o b n f (mo + 6) (aI g 8 zo)) (o_two : fp_o b n f (mo + 7) (aI g 8 zt)) (o_key : fp_o b n f (mo + 13) (aI g 4 zk)) (o_now : fp_o b n f (mo + 14) (aI g 8 zx))  (hA : fp_W b n A := by assumption) : fp_M l D (TY g) b n A y_M_cut (fp_ws y_M_cut b_M_cut 2 none) (rmD 1) [.ref mo, .int (nI tj)] f (fun v f' => v = none ∧ f' = va_up f (mo + 14) (aI g 8 (upd (upd (upd (upd zx 1 (zk 1 &&& q_ones (zw j1))) 0 (zk 0 &&& (zk 1 &&& q_ones (zw j1)))) 3 0) 2 (zk 2 &&& 0)))) := by
  refine fp_ofV (plainFor_of_name (by decide)) (Nat.le_of_ble_eq_true rfl) ?_
  intro p e s m args below meth c Q ls H locs X Y hl ret
  have hx := X.1.1
  have hb := X.1.2.1
  have hl : lv_has ls 2 [(0, .ref mo), (1, .int (nI tj))] := hl
  refine lv_aload_n hx hb d_M_cut_0 rfl (lv_at hl 0 rfl) ?_
  refine fp_get X Y om rfl in_M 17 (by decide) w618 rfl d_M_cut_1 ?_
  refine lv_iconst (v := 1) hx hb d_M_cut_4 (by decide) ?_
  refine lv_aload_n hx hb d_M_cut_5 rfl (lv_at hl 0 rfl) ?_
  refine fp_get X Y om rfl in_M 16 (by decide) w617 rfl d_M_cut_6 ?_
  refine lv_iconst (v := 1) hx hb d_M_cut_9 (by decide) ?_
  refine fp_ild X Y o_key 1 rfl (by decide) (by decide) d_M_cut_10 ?_
  refine lv_aload_n hx hb d_M_cut_11 rfl (lv_at hl 0 rfl) ?_
  refine lv_aload_n hx hb d_M_cut_12 rfl (lv_at hl 0 rfl) ?_
  refine fp_get X Y om rfl in_M 9 (by decide) w610 rfl d_M_cut_13 ?_
  refine lv_iload_n hx hb d_M_cut_16 rfl (lv_at hl 1 rfl) ?_
  refine fp_ild X Y o_one tj rfl (by omega) (by decide) d_M_cut_17 ?_
  rw [h1]
  refine fp_callV (nA := 1) (As := [.int (nI j1)]) (rest := [.int (zk 1), .int 1, .ref (mo + 14)]) X Y (c_M_ones (by omega) om o_width) om rfl w688 w685 w687 wp16 w9 (by decide +kernel) ⟨rfl, rfl⟩ ⟨Nat.le_of_ble_eq_true rfl, Nat.le_of_ble_eq_true rfl⟩ rfl hl.1 rfl (Nat.le_of_ble_eq_true rfl) d_M_cut_18 ⟨Nat.zero_le _, Nat.zero_le _⟩ (fun v9 f9 H locs hp9 Y => ?_)
  obtain ⟨e8, e9⟩ := hp9
  subst e8
  rw [e9] at Y
  refine W.eq (g2 := F0 m 21 ls [.int (q_ones (zw j1)), .int (zk 1), .int 1, .ref (mo + 14)]) rfl ?_
  refine lv_iand hx hb d_M_cut_21 ?_
  refine fp_ist X Y o_now 1 rfl (by decide) (by decide) d_M_cut_22 (fun H locs Y => ?_)
  have ne_1 : mo ≠ mo + 14 := (fp_o.nf om o_now (by simp))
  have ne_2 : mo + 1 ≠ mo + 14 := (by omega)
  have ne_3 : mo + 6 ≠ mo + 14 := (by omega)
  have ne_4 : mo + 7 ≠ mo + 14 := (by omega)
  have ne_5 : mo + 13 ≠ mo + 14 := (by omega)
  have Y : fp_H D b n A (va_up f (mo + 14) (aI g 8 (upd zx 1 ((zk 1) &&& (q_ones (zw j1)))))) s.heap H locs := Y
  have om : fp_o b n (va_up f (mo + 14) (aI g 8 (upd zx 1 ((zk 1) &&& (q_ones (zw j1)))))) mo (ob 8 [.int th, .int nf, .ref (mo + 1), .ref (mo + 2), .int na, .ref (mo + 3), .ref (mo + 4), .ref (mo + 5), .int nt, .ref (mo + 6), .ref (mo + 7), .ref (mo + 8), .ref (mo + 9), .ref (mo + 10), .ref (mo + 11), .ref (mo + 12), .ref (mo + 13), .ref (mo + 14), .int po, .int dr]) := fp_o.ne om ne_1
  have o_width : fp_o b n (va_up f (mo + 14) (aI g 8 (upd zx 1 ((zk 1) &&& (q_ones (zw j1)))))) (mo + 1) (aI g 16 zw) := fp_o.ne o_width ne_2
  have o_one : fp_o b n (va_up f (mo + 14) (aI g 8 (upd zx 1 ((zk 1) &&& (q_ones (zw j1)))))) (mo + 6) (aI g 8 zo) := fp_o.ne o_one ne_3
  have o_two : fp_o b n (va_up f (mo + 14) (aI g 8 (upd zx 1 ((zk 1) &&& (q_ones (zw j1)))))) (mo + 7) (aI g 8 zt) := fp_o.ne o_two ne_4
  have o_key : fp_o b n (va_up f (mo + 14) (aI g 8 (upd zx 1 ((zk 1) &&& (q_ones (zw j1)))))) (mo + 13) (aI g 4 zk) := fp_o.ne o_key ne_5
  have o_now : fp_o b n (va_up f (mo + 14) (aI g 8 (upd zx 1 ((zk 1) &&& (q_ones (zw j1)))))) (mo + 14) (aI g 8 (upd zx 1 ((zk 1) &&& (q_ones (zw j1))))) := fp_o.up o_now
  refine lv_aload_n hx hb d_M_cut_23 rfl (lv_at hl 0 rfl) ?_
  refine fp_get X Y om rfl in_M 17 (by decide) w618 rfl d_M_cut_24 ?_
  refine lv_iconst (v := 0) hx hb d_M_cut_27 (by decide) ?_
  refine lv_aload_n hx hb d_M_cut_28 rfl (lv_at hl 0 rfl) ?_
  refine fp_get X Y om rfl in_M 16 (by decide) w617 rfl d_M_cut_29 ?_
  refine lv_iconst (v := 0) hx hb d_M_cut_32 (by decide) ?_
  refine fp_ild X Y o_key 0 rfl (by decide) (by decide) d_M_cut_33 ?_
  refine lv_aload_n hx hb d_M_cut_34 rfl (lv_at hl 0 rfl) ?_
  refine fp_get X Y om rfl in_M 17 (by decide) w618 rfl d_M_cut_35 ?_
  refine lv_iconst (v := 1) hx hb d_M_cut_38 (by decide) ?_
  refine fp_ild X Y o_now 1 rfl (by decide) (by decide) d_M_cut_39 ?_
  refine lv_iand hx hb d_M_cut_40 ?_
  refine fp_ist X Y o_now 0 rfl (by decide) (by decide) d_M_cut_41 (fun H locs Y => ?_)
  have ne_6 : mo ≠ mo + 14 := (fp_o.nf om o_now (by simp))
  have ne_7 : mo + 1 ≠ mo + 14 := (by omega)
  have ne_8 : mo + 6 ≠ mo + 14 := (by omega)
  have ne_9 : mo + 7 ≠ mo + 14 := (by omega)
  have ne_10 : mo + 13 ≠ mo + 14 := (by omega)
  have Y := Y.re
  have Y : fp_H D b n A (va_up f (mo + 14) (aI g 8 (upd (upd zx 1 ((zk 1) &&& (q_ones (zw j1)))) 0 ((zk 0) &&& ((upd zx 1 ((zk 1) &&& (q_ones (zw j1)))) 1))))) s.heap H locs := Y
  have om : fp_o b n (va_up f (mo + 14) (aI g 8 (upd (upd zx 1 ((zk 1) &&& (q_ones (zw j1)))) 0 ((zk 0) &&& ((upd zx 1 ((zk 1) &&& (q_ones (zw j1)))) 1))))) mo (ob 8 [.int th, .int nf, .ref (mo + 1), .ref (mo + 2), .int na, .ref (mo + 3), .ref (mo + 4), .ref (mo + 5), .int nt, .ref (mo + 6), .ref (mo + 7), .ref (mo + 8), .ref (mo + 9), .ref (mo + 10), .ref (mo + 11), .ref (mo + 12), .ref (mo + 13), .ref (mo + 14), .int po, .int dr]) := fp_o.re om ne_6
  have o_width : fp_o b n (va_up f (mo + 14) (aI g 8 (upd (upd zx 1 ((zk 1) &&& (q_ones (zw j1)))) 0 ((zk 0) &&& ((upd zx 1 ((zk 1) &&& (q_ones (zw j1)))) 1))))) (mo + 1) (aI g 16 zw) := fp_o.re o_width ne_7
  have o_one : fp_o b n (va_up f (mo + 14) (aI g 8 (upd (upd zx 1 ((zk 1) &&& (q_ones (zw j1)))) 0 ((zk 0) &&& ((upd zx 1 ((zk 1) &&& (q_ones (zw j1)))) 1))))) (mo + 6) (aI g 8 zo) := fp_o.re o_one ne_8
  have o_two : fp_o b n (va_up f (mo + 14) (aI g 8 (upd (upd zx 1 ((zk 1) &&& (q_ones (zw j1)))) 0 ((zk 0) &&& ((upd zx 1 ((zk 1) &&& (q_ones (zw j1)))) 1))))) (mo + 7) (aI g 8 zt) := fp_o.re o_two ne_9
  have o_key : fp_o b n (va_up f (mo + 14) (aI g 8 (upd (upd zx 1 ((zk 1) &&& (q_ones (zw j1)))) 0 ((zk 0) &&& ((upd zx 1 ((zk 1) &&& (q_ones (zw j1)))) 1))))) (mo + 13) (aI g 4 zk) := fp_o.re o_key ne_10
  have o_now : fp_o b n (va_up f (mo + 14) (aI g 8 (upd (upd zx 1 ((zk 1) &&& (q_ones (zw j1)))) 0 ((zk 0) &&& ((upd zx 1 ((zk 1) &&& (q_ones (zw j1)))) 1))))) (mo + 14) (aI g 8 (upd (upd zx 1 ((zk 1) &&& (q_ones (zw j1)))) 0 ((zk 0) &&& ((upd zx 1 ((zk 1) &&& (q_ones (zw j1)))) 1)))) := fp_o.rs o_now
  refine lv_aload_n hx hb d_M_cut_42 rfl (lv_at hl 0 rfl) ?_
  refine fp_get X Y om rfl in_M 17 (by decide) w618 rfl d_M_cut_43 ?_
  refine lv_iconst (v := 3) hx hb d_M_cut_46 (by decide) ?_
  refine lv_aload_n hx hb d_M_cut_47 rfl (lv_at hl 0 rfl) ?_
  refine fp_get X Y om rfl in_M 10 (by decide) w611 rfl d_M_cut_48 ?_
  refine lv_iload_n hx hb d_M_cut_51 rfl (lv_at hl 1 rfl) ?_
  refine fp_ild X Y o_two tj rfl (by omega) (by decide) d_M_cut_52 ?_
  rw [h2]
  refine lv_if_ge (tgt := 60) hx hb d_M_cut_53 (by decide) (fun c_53 => absurd c_53 (by decide)) (fun c_53 => ?_)
  refine lv_iconst (v := 0) hx hb d_M_cut_56 (by decide) ?_
  refine lv_goto (tgt := 77) hx hb d_M_cut_57 (by decide) ?_
  refine fp_ist X Y o_now 3 rfl (by decide) (by decide) d_M_cut_77 (fun H locs Y => ?_)
  have ne_11 : mo ≠ mo + 14 := (fp_o.nf om o_now (by simp))
  have ne_12 : mo + 1 ≠ mo + 14 := (by omega)
  have ne_13 : mo + 6 ≠ mo + 14 := (by omega)
  have ne_14 : mo + 7 ≠ mo + 14 := (by omega)
  have ne_15 : mo + 13 ≠ mo + 14 := (by omega)
  have Y := Y.re
  have Y : fp_H D b n A (va_up f (mo + 14) (aI g 8 (upd (upd (upd zx 1 ((zk 1) &&& (q_ones (zw j1)))) 0 ((zk 0) &&& ((upd zx 1 ((zk 1) &&& (q_ones (zw j1)))) 1))) 3 0))) s.heap H locs := Y
  have om : fp_o b n (va_up f (mo + 14) (aI g 8 (upd (upd (upd zx 1 ((zk 1) &&& (q_ones (zw j1)))) 0 ((zk 0) &&& ((upd zx 1 ((zk 1) &&& (q_ones (zw j1)))) 1))) 3 0))) mo (ob 8 [.int th, .int nf, .ref (mo + 1), .ref (mo + 2), .int na, .ref (mo + 3), .ref (mo + 4), .ref (mo + 5), .int nt, .ref (mo + 6), .ref (mo + 7), .ref (mo + 8), .ref (mo + 9), .ref (mo + 10), .ref (mo + 11), .ref (mo + 12), .ref (mo + 13), .ref (mo + 14), .int po, .int dr]) := fp_o.re om ne_11
  have o_width : fp_o b n (va_up f (mo + 14) (aI g 8 (upd (upd (upd zx 1 ((zk 1) &&& (q_ones (zw j1)))) 0 ((zk 0) &&& ((upd zx 1 ((zk 1) &&& (q_ones (zw j1)))) 1))) 3 0))) (mo + 1) (aI g 16 zw) := fp_o.re o_width ne_12
  have o_one : fp_o b n (va_up f (mo + 14) (aI g 8 (upd (upd (upd zx 1 ((zk 1) &&& (q_ones (zw j1)))) 0 ((zk 0) &&& ((upd zx 1 ((zk 1) &&& (q_ones (zw j1)))) 1))) 3 0))) (mo + 6) (aI g 8 zo) := fp_o.re o_one ne_13
  have o_two : fp_o b n (va_up f (mo + 14) (aI g 8 (upd (upd (upd zx 1 ((zk 1) &&& (q_ones (zw j1)))) 0 ((zk 0) &&& ((upd zx 1 ((zk 1) &&& (q_ones (zw j1)))) 1))) 3 0))) (mo + 7) (aI g 8 zt) := fp_o.re o_two ne_14
  have o_key : fp_o b n (va_up f (mo + 14) (aI g 8 (upd (upd (upd zx 1 ((zk 1) &&& (q_ones (zw j1)))) 0 ((zk 0) &&& ((upd zx 1 ((zk 1) &&& (q_ones (zw j1)))) 1))) 3 0))) (mo + 13) (aI g 4 zk) := fp_o.re o_key ne_15
  have o_now : fp_o b n (va_up f (mo + 14) (aI g 8 (upd (upd (upd zx 1 ((zk 1) &&& (q_ones (zw j1)))) 0 ((zk 0) &&& ((upd zx 1 ((zk 1) &&& (q_ones (zw j1)))) 1))) 3 0))) (mo + 14) (aI g 8 (upd (upd (upd zx 1 ((zk 1) &&& (q_ones (zw j1)))) 0 ((zk 0) &&& ((upd zx 1 ((zk 1) &&& (q_ones (zw j1)))) 1))) 3 0)) := fp_o.rs o_now
  refine lv_aload_n hx hb d_M_cut_78 rfl (lv_at hl 0 rfl) ?_
  refine fp_get X Y om rfl in_M 17 (by decide) w618 rfl d_M_cut_79 ?_
  refine lv_iconst (v := 2) hx hb d_M_cut_82 (by decide) ?_
  refine lv_aload_n hx hb d_M_cut_83 rfl (lv_at hl 0 rfl) ?_
  refine fp_get X Y om rfl in_M 16 (by decide) w617 rfl d_M_cut_84 ?_
  refine lv_iconst (v := 2) hx hb d_M_cut_87 (by decide) ?_
  refine fp_ild X Y o_key 2 rfl (by decide) (by decide) d_M_cut_88 ?_
  refine lv_aload_n hx hb d_M_cut_89 rfl (lv_at hl 0 rfl) ?_
  refine fp_get X Y om rfl in_M 17 (by decide) w618 rfl d_M_cut_90 ?_
  refine lv_iconst (v := 3) hx hb d_M_cut_93 (by decide) ?_
  refine fp_ild X Y o_now 3 rfl (by decide) (by decide) d_M_cut_94 ?_
  refine lv_iand hx hb d_M_cut_95 ?_
  refine fp_ist X Y o_now 2 rfl (by decide) (by decide) d_M_cut_96 (fun H locs Y => ?_)
  have ne_16 : mo ≠ mo + 14 := (fp_o.nf om o_now (by simp))
  have ne_17 : mo + 1 ≠ mo + 14 := (by omega)
  have ne_18 : mo + 6 ≠ mo + 14 := (by omega)
  have ne_19 : mo + 7 ≠ mo + 14 := (by omega)
  have ne_20 : mo + 13 ≠ mo + 14 := (by omega)
  have Y := Y.re
  have Y : fp_H D b n A (va_up f (mo + 14) (aI g 8 (upd (upd (upd (upd zx 1 ((zk 1) &&& (q_ones (zw j1)))) 0 ((zk 0) &&& ((upd zx 1 ((zk 1) &&& (q_ones (zw j1)))) 1))) 3 0) 2 ((zk 2) &&& ((upd (upd (upd zx 1 ((zk 1) &&& (q_ones (zw j1)))) 0 ((zk 0) &&& ((upd zx 1 ((zk 1) &&& (q_ones (zw j1)))) 1))) 3 0) 3))))) s.heap H locs := Y
  have om : fp_o b n (va_up f (mo + 14) (aI g 8 (upd (upd (upd (upd zx 1 ((zk 1) &&& (q_ones (zw j1)))) 0 ((zk 0) &&& ((upd zx 1 ((zk 1) &&& (q_ones (zw j1)))) 1))) 3 0) 2 ((zk 2) &&& ((upd (upd (upd zx 1 ((zk 1) &&& (q_ones (zw j1)))) 0 ((zk 0) &&& ((upd zx 1 ((zk 1) &&& (q_ones (zw j1)))) 1))) 3 0) 3))))) mo (ob 8 [.int th, .int nf, .ref (mo + 1), .ref (mo + 2), .int na, .ref (mo + 3), .ref (mo + 4), .ref (mo + 5), .int nt, .ref (mo + 6), .ref (mo + 7), .ref (mo + 8), .ref (mo + 9), .ref (mo + 10), .ref (mo + 11), .ref (mo + 12), .ref (mo + 13), .ref (mo + 14), .int po, .int dr]) := fp_o.re om ne_16
  have o_width : fp_o b n (va_up f (mo + 14) (aI g 8 (upd (upd (upd (upd zx 1 ((zk 1) &&& (q_ones (zw j1)))) 0 ((zk 0) &&& ((upd zx 1 ((zk 1) &&& (q_ones (zw j1)))) 1))) 3 0) 2 ((zk 2) &&& ((upd (upd (upd zx 1 ((zk 1) &&& (q_ones (zw j1)))) 0 ((zk 0) &&& ((upd zx 1 ((zk 1) &&& (q_ones (zw j1)))) 1))) 3 0) 3))))) (mo + 1) (aI g 16 zw) := fp_o.re o_width ne_17
  have o_one : fp_o b n (va_up f (mo + 14) (aI g 8 (upd (upd (upd (upd zx 1 ((zk 1) &&& (q_ones (zw j1)))) 0 ((zk 0) &&& ((upd zx 1 ((zk 1) &&& (q_ones (zw j1)))) 1))) 3 0) 2 ((zk 2) &&& ((upd (upd (upd zx 1 ((zk 1) &&& (q_ones (zw j1)))) 0 ((zk 0) &&& ((upd zx 1 ((zk 1) &&& (q_ones (zw j1)))) 1))) 3 0) 3))))) (mo + 6) (aI g 8 zo) := fp_o.re o_one ne_18
  have o_two : fp_o b n (va_up f (mo + 14) (aI g 8 (upd (upd (upd (upd zx 1 ((zk 1) &&& (q_ones (zw j1)))) 0 ((zk 0) &&& ((upd zx 1 ((zk 1) &&& (q_ones (zw j1)))) 1))) 3 0) 2 ((zk 2) &&& ((upd (upd (upd zx 1 ((zk 1) &&& (q_ones (zw j1)))) 0 ((zk 0) &&& ((upd zx 1 ((zk 1) &&& (q_ones (zw j1)))) 1))) 3 0) 3))))) (mo + 7) (aI g 8 zt) := fp_o.re o_two ne_19
  have o_key : fp_o b n (va_up f (mo + 14) (aI g 8 (upd (upd (upd (upd zx 1 ((zk 1) &&& (q_ones (zw j1)))) 0 ((zk 0) &&& ((upd zx 1 ((zk 1) &&& (q_ones (zw j1)))) 1))) 3 0) 2 ((zk 2) &&& ((upd (upd (upd zx 1 ((zk 1) &&& (q_ones (zw j1)))) 0 ((zk 0) &&& ((upd zx 1 ((zk 1) &&& (q_ones (zw j1)))) 1))) 3 0) 3))))) (mo + 13) (aI g 4 zk) := fp_o.re o_key ne_20
  have o_now : fp_o b n (va_up f (mo + 14) (aI g 8 (upd (upd (upd (upd zx 1 ((zk 1) &&& (q_ones (zw j1)))) 0 ((zk 0) &&& ((upd zx 1 ((zk 1) &&& (q_ones (zw j1)))) 1))) 3 0) 2 ((zk 2) &&& ((upd (upd (upd zx 1 ((zk 1) &&& (q_ones (zw j1)))) 0 ((zk 0) &&& ((upd zx 1 ((zk 1) &&& (q_ones (zw j1)))) 1))) 3 0) 3))))) (mo + 14) (aI g 8 (upd (upd (upd (upd zx 1 ((zk 1) &&& (q_ones (zw j1)))) 0 ((zk 0) &&& ((upd zx 1 ((zk 1) &&& (q_ones (zw j1)))) 1))) 3 0) 2 ((zk 2) &&& ((upd (upd (upd zx 1 ((zk 1) &&& (q_ones (zw j1)))) 0 ((zk 0) &&& ((upd zx 1 ((zk 1) &&& (q_ones (zw j1)))) 1))) 3 0) 3)))) := fp_o.rs o_now
  exact ret _ _ _ _ _ d_M_cut_97 ⟨rfl, by simp [upd]⟩ Y
set_option maxHeartbeats 4000000 in
set_option maxRecDepth 100000 in
theorem c_M_cut_2 {l : Launch} {D : va_G} {g : Nat → ClassId} {b n : Nat} {A : Nat → Prop} {f : Nat → va_E} {mo : Nat} {th nf na nt po dr : Int32} {zw zo zt zk zx : Nat → Int32} {tj j1 j2 : Nat} (htj : tj < 8) (hj1 : j1 < 16) (h1 : zo tj = nI j1) (hj2 : j2 < 16) (h2 : zt tj = nI j2) (om : fp_o b n f mo (ob 8 [.int th, .int nf, .ref (mo + 1), .ref (mo + 2), .int na, .ref (mo + 3), .ref (mo + 4), .ref (mo + 5), .int nt, .ref (mo + 6), .ref (mo + 7), .ref (mo + 8), .ref (mo + 9), .ref (mo + 10), .ref (mo + 11), .ref (mo + 12), .ref (mo + 13), .ref (mo + 14), .int po, .int dr])) (o_width : fp_o b n f (mo + 1) (aI g 16 zw)) (o_one : fp_o b n f (mo + 6) (aI g 8 zo)) (o_two : fp_o b n f (mo + 7) (aI g 8 zt)) (o_key : fp_o b n f (mo + 13) (aI g 4 zk)) (o_now : fp_o b n f (mo + 14) (aI g 8 zx))  (hA : fp_W b n A := by assumption) : fp_M l D (TY g) b n A y_M_cut (fp_ws y_M_cut b_M_cut 2 none) (rmD 1) [.ref mo, .int (nI tj)] f (fun v f' => v = none ∧ f' = va_up f (mo + 14) (aI g 8 (upd (upd (upd (upd zx 1 (zk 1 &&& q_ones (zw j1))) 0 (zk 0 &&& (zk 1 &&& q_ones (zw j1)))) 3 (zk 3 &&& q_ones (zw j2))) 2 (zk 2 &&& (zk 3 &&& q_ones (zw j2)))))) := by
  refine fp_ofV (plainFor_of_name (by decide)) (Nat.le_of_ble_eq_true rfl) ?_
  intro p e s m args below meth c Q ls H locs X Y hl ret
  have hx := X.1.1
  have hb := X.1.2.1
  have hl : lv_has ls 2 [(0, .ref mo), (1, .int (nI tj))] := hl
  refine lv_aload_n hx hb d_M_cut_0 rfl (lv_at hl 0 rfl) ?_
  refine fp_get X Y om rfl in_M 17 (by decide) w618 rfl d_M_cut_1 ?_
  refine lv_iconst (v := 1) hx hb d_M_cut_4 (by decide) ?_
  refine lv_aload_n hx hb d_M_cut_5 rfl (lv_at hl 0 rfl) ?_
  refine fp_get X Y om rfl in_M 16 (by decide) w617 rfl d_M_cut_6 ?_
  refine lv_iconst (v := 1) hx hb d_M_cut_9 (by decide) ?_
  refine fp_ild X Y o_key 1 rfl (by decide) (by decide) d_M_cut_10 ?_
  refine lv_aload_n hx hb d_M_cut_11 rfl (lv_at hl 0 rfl) ?_
  refine lv_aload_n hx hb d_M_cut_12 rfl (lv_at hl 0 rfl) ?_
  refine fp_get X Y om rfl in_M 9 (by decide) w610 rfl d_M_cut_13 ?_
  refine lv_iload_n hx hb d_M_cut_16 rfl (lv_at hl 1 rfl) ?_
  refine fp_ild X Y o_one tj rfl (by omega) (by decide) d_M_cut_17 ?_
  rw [h1]
  refine fp_callV (nA := 1) (As := [.int (nI j1)]) (rest := [.int (zk 1), .int 1, .ref (mo + 14)]) X Y (c_M_ones (by omega) om o_width) om rfl w688 w685 w687 wp16 w9 (by decide +kernel) ⟨rfl, rfl⟩ ⟨Nat.le_of_ble_eq_true rfl, Nat.le_of_ble_eq_true rfl⟩ rfl hl.1 rfl (Nat.le_of_ble_eq_true rfl) d_M_cut_18 ⟨Nat.zero_le _, Nat.zero_le _⟩ (fun v9 f9 H locs hp9 Y => ?_)
  obtain ⟨e8, e9⟩ := hp9
  subst e8
  rw [e9] at Y
  refine W.eq (g2 := F0 m 21 ls [.int (q_ones (zw j1)), .int (zk 1), .int 1, .ref (mo + 14)]) rfl ?_
  refine lv_iand hx hb d_M_cut_21 ?_
  refine fp_ist X Y o_now 1 rfl (by decide) (by decide) d_M_cut_22 (fun H locs Y => ?_)
  have ne_1 : mo ≠ mo + 14 := (fp_o.nf om o_now (by simp))
  have ne_2 : mo + 1 ≠ mo + 14 := (by omega)
  have ne_3 : mo + 6 ≠ mo + 14 := (by omega)
  have ne_4 : mo + 7 ≠ mo + 14 := (by omega)
  have ne_5 : mo + 13 ≠ mo + 14 := (by omega)
  have Y : fp_H D b n A (va_up f (mo + 14) (aI g 8 (upd zx 1 ((zk 1) &&& (q_ones (zw j1)))))) s.heap H locs := Y
  have om : fp_o b n (va_up f (mo + 14) (aI g 8 (upd zx 1 ((zk 1) &&& (q_ones (zw j1)))))) mo (ob 8 [.int th, .int nf, .ref (mo + 1), .ref (mo + 2), .int na, .ref (mo + 3), .ref (mo + 4), .ref (mo + 5), .int nt, .ref (mo + 6), .ref (mo + 7), .ref (mo + 8), .ref (mo + 9), .ref (mo + 10), .ref (mo + 11), .ref (mo + 12), .ref (mo + 13), .ref (mo + 14), .int po, .int dr]) := fp_o.ne om ne_1
  have o_width : fp_o b n (va_up f (mo + 14) (aI g 8 (upd zx 1 ((zk 1) &&& (q_ones (zw j1)))))) (mo + 1) (aI g 16 zw) := fp_o.ne o_width ne_2
  have o_one : fp_o b n (va_up f (mo + 14) (aI g 8 (upd zx 1 ((zk 1) &&& (q_ones (zw j1)))))) (mo + 6) (aI g 8 zo) := fp_o.ne o_one ne_3
  have o_two : fp_o b n (va_up f (mo + 14) (aI g 8 (upd zx 1 ((zk 1) &&& (q_ones (zw j1)))))) (mo + 7) (aI g 8 zt) := fp_o.ne o_two ne_4
  have o_key : fp_o b n (va_up f (mo + 14) (aI g 8 (upd zx 1 ((zk 1) &&& (q_ones (zw j1)))))) (mo + 13) (aI g 4 zk) := fp_o.ne o_key ne_5
  have o_now : fp_o b n (va_up f (mo + 14) (aI g 8 (upd zx 1 ((zk 1) &&& (q_ones (zw j1)))))) (mo + 14) (aI g 8 (upd zx 1 ((zk 1) &&& (q_ones (zw j1))))) := fp_o.up o_now
  refine lv_aload_n hx hb d_M_cut_23 rfl (lv_at hl 0 rfl) ?_
  refine fp_get X Y om rfl in_M 17 (by decide) w618 rfl d_M_cut_24 ?_
  refine lv_iconst (v := 0) hx hb d_M_cut_27 (by decide) ?_
  refine lv_aload_n hx hb d_M_cut_28 rfl (lv_at hl 0 rfl) ?_
  refine fp_get X Y om rfl in_M 16 (by decide) w617 rfl d_M_cut_29 ?_
  refine lv_iconst (v := 0) hx hb d_M_cut_32 (by decide) ?_
  refine fp_ild X Y o_key 0 rfl (by decide) (by decide) d_M_cut_33 ?_
  refine lv_aload_n hx hb d_M_cut_34 rfl (lv_at hl 0 rfl) ?_
  refine fp_get X Y om rfl in_M 17 (by decide) w618 rfl d_M_cut_35 ?_
  refine lv_iconst (v := 1) hx hb d_M_cut_38 (by decide) ?_
  refine fp_ild X Y o_now 1 rfl (by decide) (by decide) d_M_cut_39 ?_
  refine lv_iand hx hb d_M_cut_40 ?_
  refine fp_ist X Y o_now 0 rfl (by decide) (by decide) d_M_cut_41 (fun H locs Y => ?_)
  have ne_6 : mo ≠ mo + 14 := (fp_o.nf om o_now (by simp))
  have ne_7 : mo + 1 ≠ mo + 14 := (by omega)
  have ne_8 : mo + 6 ≠ mo + 14 := (by omega)
  have ne_9 : mo + 7 ≠ mo + 14 := (by omega)
  have ne_10 : mo + 13 ≠ mo + 14 := (by omega)
  have Y := Y.re
  have Y : fp_H D b n A (va_up f (mo + 14) (aI g 8 (upd (upd zx 1 ((zk 1) &&& (q_ones (zw j1)))) 0 ((zk 0) &&& ((upd zx 1 ((zk 1) &&& (q_ones (zw j1)))) 1))))) s.heap H locs := Y
  have om : fp_o b n (va_up f (mo + 14) (aI g 8 (upd (upd zx 1 ((zk 1) &&& (q_ones (zw j1)))) 0 ((zk 0) &&& ((upd zx 1 ((zk 1) &&& (q_ones (zw j1)))) 1))))) mo (ob 8 [.int th, .int nf, .ref (mo + 1), .ref (mo + 2), .int na, .ref (mo + 3), .ref (mo + 4), .ref (mo + 5), .int nt, .ref (mo + 6), .ref (mo + 7), .ref (mo + 8), .ref (mo + 9), .ref (mo + 10), .ref (mo + 11), .ref (mo + 12), .ref (mo + 13), .ref (mo + 14), .int po, .int dr]) := fp_o.re om ne_6
  have o_width : fp_o b n (va_up f (mo + 14) (aI g 8 (upd (upd zx 1 ((zk 1) &&& (q_ones (zw j1)))) 0 ((zk 0) &&& ((upd zx 1 ((zk 1) &&& (q_ones (zw j1)))) 1))))) (mo + 1) (aI g 16 zw) := fp_o.re o_width ne_7
  have o_one : fp_o b n (va_up f (mo + 14) (aI g 8 (upd (upd zx 1 ((zk 1) &&& (q_ones (zw j1)))) 0 ((zk 0) &&& ((upd zx 1 ((zk 1) &&& (q_ones (zw j1)))) 1))))) (mo + 6) (aI g 8 zo) := fp_o.re o_one ne_8
  have o_two : fp_o b n (va_up f (mo + 14) (aI g 8 (upd (upd zx 1 ((zk 1) &&& (q_ones (zw j1)))) 0 ((zk 0) &&& ((upd zx 1 ((zk 1) &&& (q_ones (zw j1)))) 1))))) (mo + 7) (aI g 8 zt) := fp_o.re o_two ne_9
  have o_key : fp_o b n (va_up f (mo + 14) (aI g 8 (upd (upd zx 1 ((zk 1) &&& (q_ones (zw j1)))) 0 ((zk 0) &&& ((upd zx 1 ((zk 1) &&& (q_ones (zw j1)))) 1))))) (mo + 13) (aI g 4 zk) := fp_o.re o_key ne_10
  have o_now : fp_o b n (va_up f (mo + 14) (aI g 8 (upd (upd zx 1 ((zk 1) &&& (q_ones (zw j1)))) 0 ((zk 0) &&& ((upd zx 1 ((zk 1) &&& (q_ones (zw j1)))) 1))))) (mo + 14) (aI g 8 (upd (upd zx 1 ((zk 1) &&& (q_ones (zw j1)))) 0 ((zk 0) &&& ((upd zx 1 ((zk 1) &&& (q_ones (zw j1)))) 1)))) := fp_o.rs o_now
  refine lv_aload_n hx hb d_M_cut_42 rfl (lv_at hl 0 rfl) ?_
  refine fp_get X Y om rfl in_M 17 (by decide) w618 rfl d_M_cut_43 ?_
  refine lv_iconst (v := 3) hx hb d_M_cut_46 (by decide) ?_
  refine lv_aload_n hx hb d_M_cut_47 rfl (lv_at hl 0 rfl) ?_
  refine fp_get X Y om rfl in_M 10 (by decide) w611 rfl d_M_cut_48 ?_
  refine lv_iload_n hx hb d_M_cut_51 rfl (lv_at hl 1 rfl) ?_
  refine fp_ild X Y o_two tj rfl (by omega) (by decide) d_M_cut_52 ?_
  rw [h2]
  refine lv_if_ge (tgt := 60) hx hb d_M_cut_53 (by decide) (fun c_53 => ?_) (fun c_53 => absurd (nI_pos' (by omega)) c_53)
  refine lv_aload_n hx hb d_M_cut_60 rfl (lv_at hl 0 rfl) ?_
  refine fp_get X Y om rfl in_M 16 (by decide) w617 rfl d_M_cut_61 ?_
  refine lv_iconst (v := 3) hx hb d_M_cut_64 (by decide) ?_
  refine fp_ild X Y o_key 3 rfl (by decide) (by decide) d_M_cut_65 ?_
  refine lv_aload_n hx hb d_M_cut_66 rfl (lv_at hl 0 rfl) ?_
  refine lv_aload_n hx hb d_M_cut_67 rfl (lv_at hl 0 rfl) ?_
  refine fp_get X Y om rfl in_M 10 (by decide) w611 rfl d_M_cut_68 ?_
  refine lv_iload_n hx hb d_M_cut_71 rfl (lv_at hl 1 rfl) ?_
  refine fp_ild X Y o_two tj rfl (by omega) (by decide) d_M_cut_72 ?_
  rw [h2]
  refine fp_callV (nA := 1) (As := [.int (nI j2)]) (rest := [.int (zk 3), .int 3, .ref (mo + 14)]) X Y (c_M_ones (by omega) om o_width) om rfl w688 w685 w687 wp16 w9 (by decide +kernel) ⟨rfl, rfl⟩ ⟨Nat.le_of_ble_eq_true rfl, Nat.le_of_ble_eq_true rfl⟩ rfl hl.1 rfl (Nat.le_of_ble_eq_true rfl) d_M_cut_73 ⟨Nat.zero_le _, Nat.zero_le _⟩ (fun v9 f9 H locs hp9 Y => ?_)
  obtain ⟨e8, e9⟩ := hp9
  subst e8
  rw [e9] at Y
  refine W.eq (g2 := F0 m 76 ls [.int (q_ones (zw j2)), .int (zk 3), .int 3, .ref (mo + 14)]) rfl ?_
  refine lv_iand hx hb d_M_cut_76 ?_
  refine fp_ist X Y o_now 3 rfl (by decide) (by decide) d_M_cut_77 (fun H locs Y => ?_)
  have ne_11 : mo ≠ mo + 14 := (fp_o.nf om o_now (by simp))
  have ne_12 : mo + 1 ≠ mo + 14 := (by omega)
  have ne_13 : mo + 6 ≠ mo + 14 := (by omega)
  have ne_14 : mo + 7 ≠ mo + 14 := (by omega)
  have ne_15 : mo + 13 ≠ mo + 14 := (by omega)
  have Y := Y.re
  have Y : fp_H D b n A (va_up f (mo + 14) (aI g 8 (upd (upd (upd zx 1 ((zk 1) &&& (q_ones (zw j1)))) 0 ((zk 0) &&& ((upd zx 1 ((zk 1) &&& (q_ones (zw j1)))) 1))) 3 ((zk 3) &&& (q_ones (zw j2)))))) s.heap H locs := Y
  have om : fp_o b n (va_up f (mo + 14) (aI g 8 (upd (upd (upd zx 1 ((zk 1) &&& (q_ones (zw j1)))) 0 ((zk 0) &&& ((upd zx 1 ((zk 1) &&& (q_ones (zw j1)))) 1))) 3 ((zk 3) &&& (q_ones (zw j2)))))) mo (ob 8 [.int th, .int nf, .ref (mo + 1), .ref (mo + 2), .int na, .ref (mo + 3), .ref (mo + 4), .ref (mo + 5), .int nt, .ref (mo + 6), .ref (mo + 7), .ref (mo + 8), .ref (mo + 9), .ref (mo + 10), .ref (mo + 11), .ref (mo + 12), .ref (mo + 13), .ref (mo + 14), .int po, .int dr]) := fp_o.re om ne_11
  have o_width : fp_o b n (va_up f (mo + 14) (aI g 8 (upd (upd (upd zx 1 ((zk 1) &&& (q_ones (zw j1)))) 0 ((zk 0) &&& ((upd zx 1 ((zk 1) &&& (q_ones (zw j1)))) 1))) 3 ((zk 3) &&& (q_ones (zw j2)))))) (mo + 1) (aI g 16 zw) := fp_o.re o_width ne_12
  have o_one : fp_o b n (va_up f (mo + 14) (aI g 8 (upd (upd (upd zx 1 ((zk 1) &&& (q_ones (zw j1)))) 0 ((zk 0) &&& ((upd zx 1 ((zk 1) &&& (q_ones (zw j1)))) 1))) 3 ((zk 3) &&& (q_ones (zw j2)))))) (mo + 6) (aI g 8 zo) := fp_o.re o_one ne_13
  have o_two : fp_o b n (va_up f (mo + 14) (aI g 8 (upd (upd (upd zx 1 ((zk 1) &&& (q_ones (zw j1)))) 0 ((zk 0) &&& ((upd zx 1 ((zk 1) &&& (q_ones (zw j1)))) 1))) 3 ((zk 3) &&& (q_ones (zw j2)))))) (mo + 7) (aI g 8 zt) := fp_o.re o_two ne_14
  have o_key : fp_o b n (va_up f (mo + 14) (aI g 8 (upd (upd (upd zx 1 ((zk 1) &&& (q_ones (zw j1)))) 0 ((zk 0) &&& ((upd zx 1 ((zk 1) &&& (q_ones (zw j1)))) 1))) 3 ((zk 3) &&& (q_ones (zw j2)))))) (mo + 13) (aI g 4 zk) := fp_o.re o_key ne_15
  have o_now : fp_o b n (va_up f (mo + 14) (aI g 8 (upd (upd (upd zx 1 ((zk 1) &&& (q_ones (zw j1)))) 0 ((zk 0) &&& ((upd zx 1 ((zk 1) &&& (q_ones (zw j1)))) 1))) 3 ((zk 3) &&& (q_ones (zw j2)))))) (mo + 14) (aI g 8 (upd (upd (upd zx 1 ((zk 1) &&& (q_ones (zw j1)))) 0 ((zk 0) &&& ((upd zx 1 ((zk 1) &&& (q_ones (zw j1)))) 1))) 3 ((zk 3) &&& (q_ones (zw j2))))) := fp_o.rs o_now
  refine lv_aload_n hx hb d_M_cut_78 rfl (lv_at hl 0 rfl) ?_
  refine fp_get X Y om rfl in_M 17 (by decide) w618 rfl d_M_cut_79 ?_
  refine lv_iconst (v := 2) hx hb d_M_cut_82 (by decide) ?_
  refine lv_aload_n hx hb d_M_cut_83 rfl (lv_at hl 0 rfl) ?_
  refine fp_get X Y om rfl in_M 16 (by decide) w617 rfl d_M_cut_84 ?_
  refine lv_iconst (v := 2) hx hb d_M_cut_87 (by decide) ?_
  refine fp_ild X Y o_key 2 rfl (by decide) (by decide) d_M_cut_88 ?_
  refine lv_aload_n hx hb d_M_cut_89 rfl (lv_at hl 0 rfl) ?_
  refine fp_get X Y om rfl in_M 17 (by decide) w618 rfl d_M_cut_90 ?_
  refine lv_iconst (v := 3) hx hb d_M_cut_93 (by decide) ?_
  refine fp_ild X Y o_now 3 rfl (by decide) (by decide) d_M_cut_94 ?_
  refine lv_iand hx hb d_M_cut_95 ?_
  refine fp_ist X Y o_now 2 rfl (by decide) (by decide) d_M_cut_96 (fun H locs Y => ?_)
  have ne_16 : mo ≠ mo + 14 := (fp_o.nf om o_now (by simp))
  have ne_17 : mo + 1 ≠ mo + 14 := (by omega)
  have ne_18 : mo + 6 ≠ mo + 14 := (by omega)
  have ne_19 : mo + 7 ≠ mo + 14 := (by omega)
  have ne_20 : mo + 13 ≠ mo + 14 := (by omega)
  have Y := Y.re
  have Y : fp_H D b n A (va_up f (mo + 14) (aI g 8 (upd (upd (upd (upd zx 1 ((zk 1) &&& (q_ones (zw j1)))) 0 ((zk 0) &&& ((upd zx 1 ((zk 1) &&& (q_ones (zw j1)))) 1))) 3 ((zk 3) &&& (q_ones (zw j2)))) 2 ((zk 2) &&& ((upd (upd (upd zx 1 ((zk 1) &&& (q_ones (zw j1)))) 0 ((zk 0) &&& ((upd zx 1 ((zk 1) &&& (q_ones (zw j1)))) 1))) 3 ((zk 3) &&& (q_ones (zw j2)))) 3))))) s.heap H locs := Y
  have om : fp_o b n (va_up f (mo + 14) (aI g 8 (upd (upd (upd (upd zx 1 ((zk 1) &&& (q_ones (zw j1)))) 0 ((zk 0) &&& ((upd zx 1 ((zk 1) &&& (q_ones (zw j1)))) 1))) 3 ((zk 3) &&& (q_ones (zw j2)))) 2 ((zk 2) &&& ((upd (upd (upd zx 1 ((zk 1) &&& (q_ones (zw j1)))) 0 ((zk 0) &&& ((upd zx 1 ((zk 1) &&& (q_ones (zw j1)))) 1))) 3 ((zk 3) &&& (q_ones (zw j2)))) 3))))) mo (ob 8 [.int th, .int nf, .ref (mo + 1), .ref (mo + 2), .int na, .ref (mo + 3), .ref (mo + 4), .ref (mo + 5), .int nt, .ref (mo + 6), .ref (mo + 7), .ref (mo + 8), .ref (mo + 9), .ref (mo + 10), .ref (mo + 11), .ref (mo + 12), .ref (mo + 13), .ref (mo + 14), .int po, .int dr]) := fp_o.re om ne_16
  have o_width : fp_o b n (va_up f (mo + 14) (aI g 8 (upd (upd (upd (upd zx 1 ((zk 1) &&& (q_ones (zw j1)))) 0 ((zk 0) &&& ((upd zx 1 ((zk 1) &&& (q_ones (zw j1)))) 1))) 3 ((zk 3) &&& (q_ones (zw j2)))) 2 ((zk 2) &&& ((upd (upd (upd zx 1 ((zk 1) &&& (q_ones (zw j1)))) 0 ((zk 0) &&& ((upd zx 1 ((zk 1) &&& (q_ones (zw j1)))) 1))) 3 ((zk 3) &&& (q_ones (zw j2)))) 3))))) (mo + 1) (aI g 16 zw) := fp_o.re o_width ne_17
  have o_one : fp_o b n (va_up f (mo + 14) (aI g 8 (upd (upd (upd (upd zx 1 ((zk 1) &&& (q_ones (zw j1)))) 0 ((zk 0) &&& ((upd zx 1 ((zk 1) &&& (q_ones (zw j1)))) 1))) 3 ((zk 3) &&& (q_ones (zw j2)))) 2 ((zk 2) &&& ((upd (upd (upd zx 1 ((zk 1) &&& (q_ones (zw j1)))) 0 ((zk 0) &&& ((upd zx 1 ((zk 1) &&& (q_ones (zw j1)))) 1))) 3 ((zk 3) &&& (q_ones (zw j2)))) 3))))) (mo + 6) (aI g 8 zo) := fp_o.re o_one ne_18
  have o_two : fp_o b n (va_up f (mo + 14) (aI g 8 (upd (upd (upd (upd zx 1 ((zk 1) &&& (q_ones (zw j1)))) 0 ((zk 0) &&& ((upd zx 1 ((zk 1) &&& (q_ones (zw j1)))) 1))) 3 ((zk 3) &&& (q_ones (zw j2)))) 2 ((zk 2) &&& ((upd (upd (upd zx 1 ((zk 1) &&& (q_ones (zw j1)))) 0 ((zk 0) &&& ((upd zx 1 ((zk 1) &&& (q_ones (zw j1)))) 1))) 3 ((zk 3) &&& (q_ones (zw j2)))) 3))))) (mo + 7) (aI g 8 zt) := fp_o.re o_two ne_19
  have o_key : fp_o b n (va_up f (mo + 14) (aI g 8 (upd (upd (upd (upd zx 1 ((zk 1) &&& (q_ones (zw j1)))) 0 ((zk 0) &&& ((upd zx 1 ((zk 1) &&& (q_ones (zw j1)))) 1))) 3 ((zk 3) &&& (q_ones (zw j2)))) 2 ((zk 2) &&& ((upd (upd (upd zx 1 ((zk 1) &&& (q_ones (zw j1)))) 0 ((zk 0) &&& ((upd zx 1 ((zk 1) &&& (q_ones (zw j1)))) 1))) 3 ((zk 3) &&& (q_ones (zw j2)))) 3))))) (mo + 13) (aI g 4 zk) := fp_o.re o_key ne_20
  have o_now : fp_o b n (va_up f (mo + 14) (aI g 8 (upd (upd (upd (upd zx 1 ((zk 1) &&& (q_ones (zw j1)))) 0 ((zk 0) &&& ((upd zx 1 ((zk 1) &&& (q_ones (zw j1)))) 1))) 3 ((zk 3) &&& (q_ones (zw j2)))) 2 ((zk 2) &&& ((upd (upd (upd zx 1 ((zk 1) &&& (q_ones (zw j1)))) 0 ((zk 0) &&& ((upd zx 1 ((zk 1) &&& (q_ones (zw j1)))) 1))) 3 ((zk 3) &&& (q_ones (zw j2)))) 3))))) (mo + 14) (aI g 8 (upd (upd (upd (upd zx 1 ((zk 1) &&& (q_ones (zw j1)))) 0 ((zk 0) &&& ((upd zx 1 ((zk 1) &&& (q_ones (zw j1)))) 1))) 3 ((zk 3) &&& (q_ones (zw j2)))) 2 ((zk 2) &&& ((upd (upd (upd zx 1 ((zk 1) &&& (q_ones (zw j1)))) 0 ((zk 0) &&& ((upd zx 1 ((zk 1) &&& (q_ones (zw j1)))) 1))) 3 ((zk 3) &&& (q_ones (zw j2)))) 3)))) := fp_o.rs o_now
  exact ret _ _ _ _ _ d_M_cut_97 ⟨rfl, by simp [upd]⟩ Y
set_option maxHeartbeats 4000000 in
set_option maxRecDepth 100000 in
theorem c_M_bits {l : Launch} {D : va_G} {g : Nat → ClassId} {b n : Nat} {A : Nat → Prop} {f : Nat → va_E} (x : Int32)   : fp_M l D (TY g) b n A y_M_bits (fp_ws y_M_bits b_M_bits 3 (some FieldType.int)) (rmD 0) [.int x] f (fun v f' => v = some (.int (q_bits x 32)) ∧ f' = f) := by
  refine fp_ofI (plainFor_of_name (by decide)) (Nat.le_of_ble_eq_true rfl) ?_
  intro p e s m args below meth c Q ls H locs X Y hl ret
  have hx := X.1.1
  have hb := X.1.2.1
  have hl : lv_has ls 3 [(0, .int x)] := hl
  refine lv_iconst (v := 0) hx hb d_M_bits_0 (by decide) ?_
  refine lv_istore_n (lv' := [(1, .int 0), (0, .int x)]) hx hb d_M_bits_1 rfl hl (by decide) rfl (fun ls hl => ?_)
  refine lv_iconst (v := 0) hx hb d_M_bits_2 (by decide) ?_
  refine lv_istore_n (lv' := [(2, .int 0), (1, .int 0), (0, .int x)]) hx hb d_M_bits_3 rfl hl (by decide) rfl (fun ls hl => ?_)
  have loop : ∀ (k i : Nat), k + i = 32 → ∀ (H : Heap) (locs : List Loc), fp_H D b n A f s.heap H locs → ∀ (ls : Array Slot), lv_has ls 3 [(2, .int (nI i)), (1, .int (q_bits x i)), (0, .int x)] → W p l e (rmD 0) s m args below meth c H locs 0 0 Q (F0 m 4 ls []) := by
    intro k
    induction k with
    | zero =>
      intro i hi H locs Y ls hl
      have e0 : i = 32 := by omega
      subst e0
      refine lv_iload_n hx hb d_M_bits_4 rfl (lv_at hl 0 rfl) ?_
      refine lv_bipush (v := 32) hx hb d_M_bits_5 (by decide) ?_
      refine lv_icmp_ge (tgt := 24) hx hb d_M_bits_7 (by decide) (fun c_7 => ?_) (fun c_7 => absurd (by decide) c_7)
      refine lv_iload_n hx hb d_M_bits_24 rfl (lv_at hl 1 rfl) ?_
      exact ret _ _ _ _ _ _ d_M_bits_25 ⟨_, rfl, rfl⟩ ⟨rfl, rfl⟩ Y
    | succ k ih =>
      intro i hi H locs Y ls hl
      refine lv_iload_n hx hb d_M_bits_4 rfl (lv_at hl 0 rfl) ?_
      refine lv_bipush (v := 32) hx hb d_M_bits_5 (by decide) ?_
      refine lv_icmp_ge (tgt := 24) hx hb d_M_bits_7 (by decide) (fun c_7 => absurd c_7 (nI_ge (b := 32) (by omega) (by decide))) (fun c_7 => ?_)
      refine lv_iload_n hx hb d_M_bits_10 rfl (lv_at hl 1 rfl) ?_
      refine lv_iload_n hx hb d_M_bits_11 rfl (lv_at hl 2 rfl) ?_
      refine lv_iload_n hx hb d_M_bits_12 rfl (lv_at hl 0 rfl) ?_
      refine lv_iushr hx hb d_M_bits_13 rfl ?_
      refine lv_iconst (v := 1) hx hb d_M_bits_14 (by decide) ?_
      refine lv_iand hx hb d_M_bits_15 ?_
      refine lv_iadd hx hb d_M_bits_16 ?_
      refine lv_istore_n (lv' := [(1, .int ((q_bits x i) + (((x.toUInt32 >>> ((nI i).toUInt32 &&& Int32.toUInt32 31)).toInt32) &&& 1))), (2, .int (nI i)), (0, .int x)]) hx hb d_M_bits_17 rfl hl (by decide) rfl (fun ls hl => ?_)
      refine lv_iinc (v := nI (i + 1)) (lv' := [(2, .int (nI (i + 1))), (1, .int ((q_bits x i) + (((x.toUInt32 >>> ((nI i).toUInt32 &&& Int32.toUInt32 31)).toInt32) &&& 1))), (0, .int x)]) hx hb d_M_bits_18 hl (k := 1) rfl (nI_1 i) (by decide) rfl (fun ls hl => ?_)
      refine lv_goto (tgt := 4) hx hb d_M_bits_21 (by decide) ?_
      exact ih (i + 1) (by omega) _ _ Y ls (lv_sub hl [0, 1, 2] rfl)
  exact loop 32 0 rfl _ _ Y ls (lv_sub hl [0, 1, 2] rfl)
set_option maxHeartbeats 4000000 in
set_option maxRecDepth 100000 in
theorem c_M_isMask {l : Launch} {D : va_G} {g : Nat → ClassId} {b n : Nat} {A : Nat → Prop} {f : Nat → va_E} {mo : Nat} {th nf na nt po dr : Int32} {zw : Nat → Int32} {j wd : Nat} (x y : Int32) (hj : j < 16) (hw : zw j = nI wd) (hwd : wd ≤ 32) (om : fp_o b n f mo (ob 8 [.int th, .int nf, .ref (mo + 1), .ref (mo + 2), .int na, .ref (mo + 3), .ref (mo + 4), .ref (mo + 5), .int nt, .ref (mo + 6), .ref (mo + 7), .ref (mo + 8), .ref (mo + 9), .ref (mo + 10), .ref (mo + 11), .ref (mo + 12), .ref (mo + 13), .ref (mo + 14), .int po, .int dr])) (o_width : fp_o b n f (mo + 1) (aI g 16 zw))  : fp_M l D (TY g) b n A y_M_isMask (fp_ws y_M_isMask b_M_isMask 7 (some FieldType.boolean)) (rmD 1) [.ref mo, .int (nI j), .int x, .int y] f (fun v f' => v = some (.int (q_mm x y (q_ones (zw j)) wd)) ∧ f' = f) := by
  refine fp_ofI (plainFor_of_name (by decide)) (Nat.le_of_ble_eq_true rfl) ?_
  intro p e s m args below meth c Q ls H locs X Y hl ret
  have hx := X.1.1
  have hb := X.1.2.1
  have hl : lv_has ls 7 [(0, .ref mo), (1, .int (nI j)), (2, .int x), (3, .int y)] := hl
  refine lv_aload_n hx hb d_M_isMask_0 rfl (lv_at hl 0 rfl) ?_
  refine lv_iload_n hx hb d_M_isMask_1 rfl (lv_at hl 1 rfl) ?_
  refine fp_callV (nA := 1) (As := [.int (nI j)]) (rest := []) X Y (c_M_ones (by omega) om o_width) om rfl w688 w685 w687 wp16 w9 (by decide +kernel) ⟨rfl, rfl⟩ ⟨Nat.le_of_ble_eq_true rfl, Nat.le_of_ble_eq_true rfl⟩ rfl hl.1 rfl (Nat.le_of_ble_eq_true rfl) d_M_isMask_2 ⟨Nat.zero_le _, Nat.zero_le _⟩ (fun v9 f9 H locs hp9 Y => ?_)
  obtain ⟨e8, e9⟩ := hp9
  subst e8
  rw [e9] at Y
  refine W.eq (g2 := F0 m 5 ls [.int (q_ones (zw j))]) rfl ?_
  refine lv_istore (lv' := [(4, .int (q_ones (zw j))), (0, .ref mo), (1, .int (nI j)), (2, .int x), (3, .int y)]) hx hb d_M_isMask_5 hl (by decide) rfl (fun ls hl => ?_)
  refine lv_iload_n hx hb d_M_isMask_7 rfl (lv_at hl 3 rfl) ?_
  refine lv_if_ne (tgt := 23) hx hb d_M_isMask_8 (by decide) (fun c_8 => ?_) (fun c_8 => ?_)
  · refine lv_iload_n hx hb d_M_isMask_23 rfl (lv_at hl 3 rfl) ?_
    refine lv_iconst (v := 2) hx hb d_M_isMask_24 (by decide) ?_
    refine lv_icmp_ne (tgt := 30) hx hb d_M_isMask_25 (by decide) (fun c_25 => ?_) (fun c_25 => ?_)
    · refine lv_iload hx hb d_M_isMask_30 (lv_at hl 0 rfl) ?_
      refine lv_istore (lv' := [(5, .int (q_ones (zw j))), (4, .int (q_ones (zw j))), (0, .ref mo), (1, .int (nI j)), (2, .int x), (3, .int y)]) hx hb d_M_isMask_32 hl (by decide) rfl (fun ls hl => ?_)
      refine lv_iconst (v := 0) hx hb d_M_isMask_34 (by decide) ?_
      refine lv_istore (lv' := [(6, .int 0), (5, .int (q_ones (zw j))), (4, .int (q_ones (zw j))), (0, .ref mo), (1, .int (nI j)), (2, .int x), (3, .int y)]) hx hb d_M_isMask_35 hl (by decide) rfl (fun ls hl => ?_)
      have loop : ∀ (k i : Nat) (mm : Int32), k + i = wd → q_mk y k i mm = q_mk y wd 0 (q_ones (zw j)) → ∀ (H : Heap) (locs : List Loc), fp_H D b n A f s.heap H locs → ∀ (ls : Array Slot), lv_has ls 7 [(6, .int (nI i)), (5, .int mm), (4, .int (q_ones (zw j))), (3, .int y), (2, .int x), (1, .int (nI j)), (0, .ref mo)] → W p l e (rmD 1) s m args below meth c H locs 0 0 Q (F0 m 37 ls []) := by
        intro k
        induction k with
        | zero =>
          intro i mm hi hq H locs Y ls hl
          refine lv_iload hx hb d_M_isMask_37 (lv_at hl 0 rfl) ?_
          refine lv_aload_n hx hb d_M_isMask_39 rfl (lv_at hl 6 rfl) ?_
          refine fp_get X Y om rfl in_M 2 (by decide) w603 rfl d_M_isMask_40 ?_
          refine lv_iload_n hx hb d_M_isMask_43 rfl (lv_at hl 5 rfl) ?_
          refine fp_ild X Y o_width j rfl (by omega) (by decide) d_M_isMask_44 ?_
          rw [hw]
          refine lv_icmp_ge (tgt := 73) hx hb d_M_isMask_45 (by decide) (fun c_45 => ?_) (fun c_45 => absurd (by rw [show i = wd by omega]; exact Int32.le_refl _) c_45)
          refine lv_iload_n hx hb d_M_isMask_73 rfl (lv_at hl 3 rfl) ?_
          refine lv_if_ne (tgt := 81) hx hb d_M_isMask_74 (by decide) (fun c_74 => ?_) (fun c_74 => ?_)
          · refine lv_iconst (v := 0) hx hb d_M_isMask_81 (by decide) ?_
            exact ret _ _ _ _ _ _ d_M_isMask_82 ⟨_, rfl, rfl⟩ ⟨by simp only [q_mm, if_neg c_8, if_neg c_25]; rw [← hq]; simp [q_mk, c_74], rfl⟩ Y
          · refine lv_iconst (v := 1) hx hb d_M_isMask_77 (by decide) ?_
            refine lv_goto (tgt := 82) hx hb d_M_isMask_78 (by decide) ?_
            exact ret _ _ _ _ _ _ d_M_isMask_82 ⟨_, rfl, rfl⟩ ⟨by simp only [q_mm, if_neg c_8, if_neg c_25]; rw [← hq]; simp [q_mk, c_74], rfl⟩ Y
        | succ k ih =>
          intro i mm hi hq H locs Y ls hl
          refine lv_iload hx hb d_M_isMask_37 (lv_at hl 0 rfl) ?_
          refine lv_aload_n hx hb d_M_isMask_39 rfl (lv_at hl 6 rfl) ?_
          refine fp_get X Y om rfl in_M 2 (by decide) w603 rfl d_M_isMask_40 ?_
          refine lv_iload_n hx hb d_M_isMask_43 rfl (lv_at hl 5 rfl) ?_
          refine fp_ild X Y o_width j rfl (by omega) (by decide) d_M_isMask_44 ?_
          rw [hw]
          refine lv_icmp_ge (tgt := 73) hx hb d_M_isMask_45 (by decide) (fun c_45 => absurd c_45 (nI_ge (by omega) (by omega))) (fun c_45 => ?_)
          refine lv_iload_n hx hb d_M_isMask_48 rfl (lv_at hl 3 rfl) ?_
          refine lv_iload hx hb d_M_isMask_49 (lv_at hl 1 rfl) ?_
          refine lv_icmp_ne (tgt := 56) hx hb d_M_isMask_51 (by decide) (fun c_51 => ?_) (fun c_51 => ?_)
          · refine lv_iload hx hb d_M_isMask_56 (lv_at hl 1 rfl) ?_
            refine lv_iconst (v := 1) hx hb d_M_isMask_58 (by decide) ?_
            refine lv_iload hx hb d_M_isMask_59 (lv_at hl 0 rfl) ?_
            refine lv_ishl hx hb d_M_isMask_61 ?_
            refine lv_iconst (v := -1) hx hb d_M_isMask_62 (by decide) ?_
            refine lv_ixor hx hb d_M_isMask_63 ?_
            refine lv_iand hx hb d_M_isMask_64 ?_
            refine lv_istore (lv' := [(5, .int (mm &&& ((1 <<< ((nI i) &&& 31)) ^^^ (-1)))), (6, .int (nI i)), (4, .int (q_ones (zw j))), (3, .int y), (2, .int x), (1, .int (nI j)), (0, .ref mo)]) hx hb d_M_isMask_65 hl (by decide) rfl (fun ls hl => ?_)
            refine lv_iinc (v := nI (i + 1)) (lv' := [(6, .int (nI (i + 1))), (5, .int (mm &&& ((1 <<< ((nI i) &&& 31)) ^^^ (-1)))), (4, .int (q_ones (zw j))), (3, .int y), (2, .int x), (1, .int (nI j)), (0, .ref mo)]) hx hb d_M_isMask_67 hl (k := 1) rfl (nI_1 i) (by decide) rfl (fun ls hl => ?_)
            refine lv_goto (tgt := 37) hx hb d_M_isMask_70 (by decide) ?_
            exact ih (i + 1) _ (by omega) (by rw [← hq]; simp only [q_mk, if_neg c_51]) _ _ Y ls (lv_sub hl [0, 1, 2, 3, 4, 5, 6] rfl)
          · refine lv_iconst (v := 1) hx hb d_M_isMask_54 (by decide) ?_
            exact ret _ _ _ _ _ _ d_M_isMask_55 ⟨_, rfl, rfl⟩ ⟨by simp only [q_mm, if_neg c_8, if_neg c_25]; rw [← hq]; simp [q_mk, c_51], rfl⟩ Y
      exact loop wd 0 _ (by omega) rfl _ _ Y ls (lv_sub hl [0, 1, 2, 6, 5, 4, 3] rfl)
    · refine lv_iconst (v := 1) hx hb d_M_isMask_28 (by decide) ?_
      exact ret _ _ _ _ _ _ d_M_isMask_29 ⟨_, rfl, rfl⟩ ⟨by simp only [q_mm, if_neg c_8, if_pos c_25], rfl⟩ Y
  · refine lv_iload_n hx hb d_M_isMask_11 rfl (lv_at hl 4 rfl) ?_
    refine lv_iload hx hb d_M_isMask_12 (lv_at hl 0 rfl) ?_
    refine lv_icmp_ne (tgt := 21) hx hb d_M_isMask_14 (by decide) (fun c_14 => ?_) (fun c_14 => ?_)
    · refine lv_iconst (v := 0) hx hb d_M_isMask_21 (by decide) ?_
      exact ret _ _ _ _ _ _ d_M_isMask_22 ⟨_, rfl, rfl⟩ ⟨by simp only [q_mm, if_pos c_8]; simp [c_14], rfl⟩ Y
    · refine lv_iconst (v := 1) hx hb d_M_isMask_17 (by decide) ?_
      refine lv_goto (tgt := 22) hx hb d_M_isMask_18 (by decide) ?_
      exact ret _ _ _ _ _ _ d_M_isMask_22 ⟨_, rfl, rfl⟩ ⟨by simp only [q_mm, if_pos c_8]; simp [c_14], rfl⟩ Y
set_option maxHeartbeats 4000000 in
set_option maxRecDepth 100000 in
theorem c_M_find_1 {l : Launch} {D : va_G} {g : Nat → ClassId} {b n : Nat} {A : Nat → Prop} {f : Nat → va_E} {mo : Nat} {th nf na nt po dr : Int32} {zw zo zt zc ze zk zx : Nat → Int32} {tj j1 cn : Nat} (htj : tj < 8) (hj1 : j1 < 16) (h1 : zo tj = nI j1) (h2 : zt tj = -1) (hcn : cn ≤ 20) (hc : zc tj = nI cn) (om : fp_o b n f mo (ob 8 [.int th, .int nf, .ref (mo + 1), .ref (mo + 2), .int na, .ref (mo + 3), .ref (mo + 4), .ref (mo + 5), .int nt, .ref (mo + 6), .ref (mo + 7), .ref (mo + 8), .ref (mo + 9), .ref (mo + 10), .ref (mo + 11), .ref (mo + 12), .ref (mo + 13), .ref (mo + 14), .int po, .int dr])) (o_width : fp_o b n f (mo + 1) (aI g 16 zw)) (o_one : fp_o b n f (mo + 6) (aI g 8 zo)) (o_two : fp_o b n f (mo + 7) (aI g 8 zt)) (o_count : fp_o b n f (mo + 11) (aI g 8 zc)) (o_entry : fp_o b n f (mo + 12) (aI g 1280 ze)) (o_key : fp_o b n f (mo + 13) (aI g 4 zk)) (o_now : fp_o b n f (mo + 14) (aI g 8 zx))  (hA : fp_W b n A := by assumption) : fp_M l D (TY g) b n A y_M_find (fp_ws y_M_find b_M_find 6 (some FieldType.int)) (rmD 2) [.ref mo, .int (nI tj)] f (fun v f' => v = some (.int (q_row (fun k => q_same (ze (160 * tj + 8 * k)) (ze (160 * tj + 8 * k + 1)) (ze (160 * tj + 8 * k + 2)) (ze (160 * tj + 8 * k + 3)) ((upd (upd (upd (upd zx 1 (zk 1 &&& q_ones (zw j1))) 0 (zk 0 &&& (zk 1 &&& q_ones (zw j1)))) 3 0) 2 (zk 2 &&& 0)) 0) ((upd (upd (upd (upd zx 1 (zk 1 &&& q_ones (zw j1))) 0 (zk 0 &&& (zk 1 &&& q_ones (zw j1)))) 3 0) 2 (zk 2 &&& 0)) 1) ((upd (upd (upd (upd zx 1 (zk 1 &&& q_ones (zw j1))) 0 (zk 0 &&& (zk 1 &&& q_ones (zw j1)))) 3 0) 2 (zk 2 &&& 0)) 2) ((upd (upd (upd (upd zx 1 (zk 1 &&& q_ones (zw j1))) 0 (zk 0 &&& (zk 1 &&& q_ones (zw j1)))) 3 0) 2 (zk 2 &&& 0)) 3)) cn 0)) ∧ f' = (va_up f (mo + 14) (aI g 8 (upd (upd (upd (upd zx 1 (zk 1 &&& q_ones (zw j1))) 0 (zk 0 &&& (zk 1 &&& q_ones (zw j1)))) 3 0) 2 (zk 2 &&& 0))))) := by
  refine fp_ofI (plainFor_of_name (by decide)) (Nat.le_of_ble_eq_true rfl) ?_
  intro p e s m args below meth c Q ls H locs X Y hl ret
  have hx := X.1.1
  have hb := X.1.2.1
  have hl : lv_has ls 6 [(0, .ref mo), (1, .int (nI tj))] := hl
  refine lv_aload_n hx hb d_M_find_0 rfl (lv_at hl 0 rfl) ?_
  refine lv_iload_n hx hb d_M_find_1 rfl (lv_at hl 1 rfl) ?_
  refine fp_callV (nA := 1) (As := [.int (nI tj)]) (rest := []) X Y (c_M_cut_1 htj hj1 h1 h2 om o_width o_one o_two o_key o_now) om rfl w724 w721 w723 wp19 w9 (by decide +kernel) ⟨rfl, rfl⟩ ⟨Nat.le_of_ble_eq_true rfl, Nat.le_of_ble_eq_true rfl⟩ rfl hl.1 rfl (Nat.le_of_ble_eq_true rfl) d_M_find_2 ⟨Nat.zero_le _, Nat.zero_le _⟩ (fun v9 f9 H locs hp9 Y => ?_)
  obtain ⟨e8, e9⟩ := hp9
  subst e8
  rw [e9] at Y
  have ne_1 : mo ≠ mo + 14 := (fp_o.nf om o_now (by simp))
  have ne_2 : mo + 1 ≠ mo + 14 := (by omega)
  have ne_3 : mo + 6 ≠ mo + 14 := (by omega)
  have ne_4 : mo + 7 ≠ mo + 14 := (by omega)
  have ne_5 : mo + 11 ≠ mo + 14 := (by omega)
  have ne_6 : mo + 12 ≠ mo + 14 := (by omega)
  have ne_7 : mo + 13 ≠ mo + 14 := (by omega)
  have Y : fp_H D b n A (va_up f (mo + 14) (aI g 8 (upd (upd (upd (upd zx 1 (zk 1 &&& q_ones (zw j1))) 0 (zk 0 &&& (zk 1 &&& q_ones (zw j1)))) 3 0) 2 (zk 2 &&& 0)))) s.heap H locs := Y
  have om : fp_o b n (va_up f (mo + 14) (aI g 8 (upd (upd (upd (upd zx 1 (zk 1 &&& q_ones (zw j1))) 0 (zk 0 &&& (zk 1 &&& q_ones (zw j1)))) 3 0) 2 (zk 2 &&& 0)))) mo (ob 8 [.int th, .int nf, .ref (mo + 1), .ref (mo + 2), .int na, .ref (mo + 3), .ref (mo + 4), .ref (mo + 5), .int nt, .ref (mo + 6), .ref (mo + 7), .ref (mo + 8), .ref (mo + 9), .ref (mo + 10), .ref (mo + 11), .ref (mo + 12), .ref (mo + 13), .ref (mo + 14), .int po, .int dr]) := fp_o.ne om ne_1
  have o_width : fp_o b n (va_up f (mo + 14) (aI g 8 (upd (upd (upd (upd zx 1 (zk 1 &&& q_ones (zw j1))) 0 (zk 0 &&& (zk 1 &&& q_ones (zw j1)))) 3 0) 2 (zk 2 &&& 0)))) (mo + 1) (aI g 16 zw) := fp_o.ne o_width ne_2
  have o_one : fp_o b n (va_up f (mo + 14) (aI g 8 (upd (upd (upd (upd zx 1 (zk 1 &&& q_ones (zw j1))) 0 (zk 0 &&& (zk 1 &&& q_ones (zw j1)))) 3 0) 2 (zk 2 &&& 0)))) (mo + 6) (aI g 8 zo) := fp_o.ne o_one ne_3
  have o_two : fp_o b n (va_up f (mo + 14) (aI g 8 (upd (upd (upd (upd zx 1 (zk 1 &&& q_ones (zw j1))) 0 (zk 0 &&& (zk 1 &&& q_ones (zw j1)))) 3 0) 2 (zk 2 &&& 0)))) (mo + 7) (aI g 8 zt) := fp_o.ne o_two ne_4
  have o_count : fp_o b n (va_up f (mo + 14) (aI g 8 (upd (upd (upd (upd zx 1 (zk 1 &&& q_ones (zw j1))) 0 (zk 0 &&& (zk 1 &&& q_ones (zw j1)))) 3 0) 2 (zk 2 &&& 0)))) (mo + 11) (aI g 8 zc) := fp_o.ne o_count ne_5
  have o_entry : fp_o b n (va_up f (mo + 14) (aI g 8 (upd (upd (upd (upd zx 1 (zk 1 &&& q_ones (zw j1))) 0 (zk 0 &&& (zk 1 &&& q_ones (zw j1)))) 3 0) 2 (zk 2 &&& 0)))) (mo + 12) (aI g 1280 ze) := fp_o.ne o_entry ne_6
  have o_key : fp_o b n (va_up f (mo + 14) (aI g 8 (upd (upd (upd (upd zx 1 (zk 1 &&& q_ones (zw j1))) 0 (zk 0 &&& (zk 1 &&& q_ones (zw j1)))) 3 0) 2 (zk 2 &&& 0)))) (mo + 13) (aI g 4 zk) := fp_o.ne o_key ne_7
  have o_now : fp_o b n (va_up f (mo + 14) (aI g 8 (upd (upd (upd (upd zx 1 (zk 1 &&& q_ones (zw j1))) 0 (zk 0 &&& (zk 1 &&& q_ones (zw j1)))) 3 0) 2 (zk 2 &&& 0)))) (mo + 14) (aI g 8 (upd (upd (upd (upd zx 1 (zk 1 &&& q_ones (zw j1))) 0 (zk 0 &&& (zk 1 &&& q_ones (zw j1)))) 3 0) 2 (zk 2 &&& 0))) := fp_o.up o_now
  refine W.eq (g2 := F0 m 5 ls []) rfl ?_
  refine lv_iconst (v := 0) hx hb d_M_find_5 (by decide) ?_
  refine lv_istore_n (lv' := [(2, .int 0), (0, .ref mo), (1, .int (nI tj))]) hx hb d_M_find_6 rfl hl (by decide) rfl (fun ls hl => ?_)
  have loop : ∀ (k i : Nat), k + i = cn → q_row (fun k => q_same (ze (160 * tj + 8 * k)) (ze (160 * tj + 8 * k + 1)) (ze (160 * tj + 8 * k + 2)) (ze (160 * tj + 8 * k + 3)) ((upd (upd (upd (upd zx 1 (zk 1 &&& q_ones (zw j1))) 0 (zk 0 &&& (zk 1 &&& q_ones (zw j1)))) 3 0) 2 (zk 2 &&& 0)) 0) ((upd (upd (upd (upd zx 1 (zk 1 &&& q_ones (zw j1))) 0 (zk 0 &&& (zk 1 &&& q_ones (zw j1)))) 3 0) 2 (zk 2 &&& 0)) 1) ((upd (upd (upd (upd zx 1 (zk 1 &&& q_ones (zw j1))) 0 (zk 0 &&& (zk 1 &&& q_ones (zw j1)))) 3 0) 2 (zk 2 &&& 0)) 2) ((upd (upd (upd (upd zx 1 (zk 1 &&& q_ones (zw j1))) 0 (zk 0 &&& (zk 1 &&& q_ones (zw j1)))) 3 0) 2 (zk 2 &&& 0)) 3)) k i = q_row (fun k => q_same (ze (160 * tj + 8 * k)) (ze (160 * tj + 8 * k + 1)) (ze (160 * tj + 8 * k + 2)) (ze (160 * tj + 8 * k + 3)) ((upd (upd (upd (upd zx 1 (zk 1 &&& q_ones (zw j1))) 0 (zk 0 &&& (zk 1 &&& q_ones (zw j1)))) 3 0) 2 (zk 2 &&& 0)) 0) ((upd (upd (upd (upd zx 1 (zk 1 &&& q_ones (zw j1))) 0 (zk 0 &&& (zk 1 &&& q_ones (zw j1)))) 3 0) 2 (zk 2 &&& 0)) 1) ((upd (upd (upd (upd zx 1 (zk 1 &&& q_ones (zw j1))) 0 (zk 0 &&& (zk 1 &&& q_ones (zw j1)))) 3 0) 2 (zk 2 &&& 0)) 2) ((upd (upd (upd (upd zx 1 (zk 1 &&& q_ones (zw j1))) 0 (zk 0 &&& (zk 1 &&& q_ones (zw j1)))) 3 0) 2 (zk 2 &&& 0)) 3)) cn 0 → ∀ (H : Heap) (locs : List Loc), fp_H D b n A (va_up f (mo + 14) (aI g 8 (upd (upd (upd (upd zx 1 (zk 1 &&& q_ones (zw j1))) 0 (zk 0 &&& (zk 1 &&& q_ones (zw j1)))) 3 0) 2 (zk 2 &&& 0)))) s.heap H locs → ∀ (ls : Array Slot), lv_has ls 6 [(2, .int (nI i)), (1, .int (nI tj)), (0, .ref mo)] → W p l e (rmD 2) s m args below meth c H locs 0 0 Q (F0 m 7 ls []) := by
    intro k
    induction k with
    | zero =>
      intro i hi hq H locs Y ls hl
      refine lv_iload_n hx hb d_M_find_7 rfl (lv_at hl 0 rfl) ?_
      refine lv_aload_n hx hb d_M_find_8 rfl (lv_at hl 2 rfl) ?_
      refine fp_get X Y om rfl in_M 14 (by decide) w615 rfl d_M_find_9 ?_
      refine lv_iload_n hx hb d_M_find_12 rfl (lv_at hl 1 rfl) ?_
      refine fp_ild X Y o_count tj rfl (by omega) (by decide) d_M_find_13 ?_
      rw [hc]
      refine lv_icmp_ge (tgt := 90) hx hb d_M_find_14 (by decide) (fun c_14 => ?_) (fun c_14 => absurd (by rw [show i = cn by omega]; exact Int32.le_refl _) c_14)
      refine lv_iconst (v := -1) hx hb d_M_find_90 (by decide) ?_
      exact ret _ _ _ _ _ _ d_M_find_91 ⟨_, rfl, rfl⟩ ⟨by rw [← hq]; rfl, rfl⟩ Y
    | succ k ih =>
      intro i hi hq H locs Y ls hl
      refine lv_iload_n hx hb d_M_find_7 rfl (lv_at hl 0 rfl) ?_
      refine lv_aload_n hx hb d_M_find_8 rfl (lv_at hl 2 rfl) ?_
      refine fp_get X Y om rfl in_M 14 (by decide) w615 rfl d_M_find_9 ?_
      refine lv_iload_n hx hb d_M_find_12 rfl (lv_at hl 1 rfl) ?_
      refine fp_ild X Y o_count tj rfl (by omega) (by decide) d_M_find_13 ?_
      rw [hc]
      refine lv_icmp_ge (tgt := 90) hx hb d_M_find_14 (by decide) (fun c_14 => absurd c_14 (nI_ge (by omega) (by omega))) (fun c_14 => ?_)
      refine lv_sipush (v := 160) hx hb d_M_find_17 (by decide) ?_
      refine lv_iload_n hx hb d_M_find_20 rfl (lv_at hl 1 rfl) ?_
      refine lv_imul hx hb d_M_find_21 ?_
      refine lv_bipush (v := 8) hx hb d_M_find_22 (by decide) ?_
      refine lv_iload_n hx hb d_M_find_24 rfl (lv_at hl 0 rfl) ?_
      refine lv_imul hx hb d_M_find_25 ?_
      refine lv_iadd hx hb d_M_find_26 ?_
      rw [q_at8]
      refine lv_istore_n (lv' := [(3, .int (nI (160 * tj + 8 * i))), (2, .int (nI i)), (1, .int (nI tj)), (0, .ref mo)]) hx hb d_M_find_27 rfl hl (by decide) rfl (fun ls hl => ?_)
      refine lv_iconst (v := 1) hx hb d_M_find_28 (by decide) ?_
      refine lv_istore (lv' := [(4, .int 1), (3, .int (nI (160 * tj + 8 * i))), (2, .int (nI i)), (1, .int (nI tj)), (0, .ref mo)]) hx hb d_M_find_29 hl (by decide) rfl (fun ls hl => ?_)
      refine lv_iconst (v := 0) hx hb d_M_find_31 (by decide) ?_
      refine lv_istore (lv' := [(5, .int 0), (4, .int 1), (3, .int (nI (160 * tj + 8 * i))), (2, .int (nI i)), (1, .int (nI tj)), (0, .ref mo)]) hx hb d_M_find_32 hl (by decide) rfl (fun ls hl => ?_)
      refine lv_iload hx hb d_M_find_34 (lv_at hl 0 rfl) ?_
      refine lv_iconst (v := 4) hx hb d_M_find_36 (by decide) ?_
      refine lv_icmp_ge (tgt := 77) hx hb d_M_find_37 (by decide) (fun c_37 => absurd c_37 (by decide)) (fun c_37 => ?_)
      refine lv_iload hx hb d_M_find_40 (lv_at hl 1 rfl) ?_
      refine lv_if_eq (tgt := 68) hx hb d_M_find_42 (by decide) (fun c_42 => absurd c_42 (by decide)) (fun c_42 => ?_)
      refine lv_aload_n hx hb d_M_find_45 rfl (lv_at hl 5 rfl) ?_
      refine fp_get X Y om rfl in_M 15 (by decide) w616 rfl d_M_find_46 ?_
      refine lv_iload_n hx hb d_M_find_49 rfl (lv_at hl 2 rfl) ?_
      refine lv_iload hx hb d_M_find_50 (lv_at hl 0 rfl) ?_
      refine lv_iadd hx hb d_M_find_52 ?_
      refine fp_ild X Y o_entry (160 * tj + 8 * i) (nI_add (160 * tj + 8 * i) 0) (by omega) (by decide) d_M_find_53 ?_
      refine lv_aload_n hx hb d_M_find_54 rfl (lv_at hl 5 rfl) ?_
      refine fp_get X Y om rfl in_M 17 (by decide) w618 rfl d_M_find_55 ?_
      refine lv_iload hx hb d_M_find_58 (lv_at hl 0 rfl) ?_
      refine fp_ild X Y o_now 0 rfl (by decide) (by decide) d_M_find_60 ?_
      refine lv_icmp_ne (tgt := 68) hx hb d_M_find_61 (by decide) (fun c_61 => ?_) (fun c_61 => ?_)
      · refine lv_iconst (v := 0) hx hb d_M_find_68 (by decide) ?_
        refine lv_istore (lv' := [(4, .int 0), (5, .int 0), (3, .int (nI (160 * tj + 8 * i))), (2, .int (nI i)), (1, .int (nI tj)), (0, .ref mo)]) hx hb d_M_find_69 hl (by decide) rfl (fun ls hl => ?_)
        refine lv_iinc (v := 1) (lv' := [(5, .int 1), (4, .int 0), (3, .int (nI (160 * tj + 8 * i))), (2, .int (nI i)), (1, .int (nI tj)), (0, .ref mo)]) hx hb d_M_find_71 hl (k := 1) rfl (by decide) (by decide) rfl (fun ls hl => ?_)
        refine lv_goto (tgt := 34) hx hb d_M_find_74 (by decide) ?_
        refine lv_iload hx hb d_M_find_34 (lv_at hl 0 rfl) ?_
        refine lv_iconst (v := 4) hx hb d_M_find_36 (by decide) ?_
        refine lv_icmp_ge (tgt := 77) hx hb d_M_find_37 (by decide) (fun c_37 => absurd c_37 (by decide)) (fun c_37 => ?_)
        refine lv_iload hx hb d_M_find_40 (lv_at hl 1 rfl) ?_
        refine lv_if_eq (tgt := 68) hx hb d_M_find_42 (by decide) (fun c_42 => ?_) (fun c_42 => absurd rfl c_42)
        refine lv_iconst (v := 0) hx hb d_M_find_68 (by decide) ?_
        refine lv_istore (lv' := [(4, .int 0), (5, .int 1), (3, .int (nI (160 * tj + 8 * i))), (2, .int (nI i)), (1, .int (nI tj)), (0, .ref mo)]) hx hb d_M_find_69 hl (by decide) rfl (fun ls hl => ?_)
        refine lv_iinc (v := 2) (lv' := [(5, .int 2), (4, .int 0), (3, .int (nI (160 * tj + 8 * i))), (2, .int (nI i)), (1, .int (nI tj)), (0, .ref mo)]) hx hb d_M_find_71 hl (k := 1) rfl (by decide) (by decide) rfl (fun ls hl => ?_)
        refine lv_goto (tgt := 34) hx hb d_M_find_74 (by decide) ?_
        refine lv_iload hx hb d_M_find_34 (lv_at hl 0 rfl) ?_
        refine lv_iconst (v := 4) hx hb d_M_find_36 (by decide) ?_
        refine lv_icmp_ge (tgt := 77) hx hb d_M_find_37 (by decide) (fun c_37 => absurd c_37 (by decide)) (fun c_37 => ?_)
        refine lv_iload hx hb d_M_find_40 (lv_at hl 1 rfl) ?_
        refine lv_if_eq (tgt := 68) hx hb d_M_find_42 (by decide) (fun c_42 => ?_) (fun c_42 => absurd rfl c_42)
        refine lv_iconst (v := 0) hx hb d_M_find_68 (by decide) ?_
        refine lv_istore (lv' := [(4, .int 0), (5, .int 2), (3, .int (nI (160 * tj + 8 * i))), (2, .int (nI i)), (1, .int (nI tj)), (0, .ref mo)]) hx hb d_M_find_69 hl (by decide) rfl (fun ls hl => ?_)
        refine lv_iinc (v := 3) (lv' := [(5, .int 3), (4, .int 0), (3, .int (nI (160 * tj + 8 * i))), (2, .int (nI i)), (1, .int (nI tj)), (0, .ref mo)]) hx hb d_M_find_71 hl (k := 1) rfl (by decide) (by decide) rfl (fun ls hl => ?_)
        refine lv_goto (tgt := 34) hx hb d_M_find_74 (by decide) ?_
        refine lv_iload hx hb d_M_find_34 (lv_at hl 0 rfl) ?_
        refine lv_iconst (v := 4) hx hb d_M_find_36 (by decide) ?_
        refine lv_icmp_ge (tgt := 77) hx hb d_M_find_37 (by decide) (fun c_37 => absurd c_37 (by decide)) (fun c_37 => ?_)
        refine lv_iload hx hb d_M_find_40 (lv_at hl 1 rfl) ?_
        refine lv_if_eq (tgt := 68) hx hb d_M_find_42 (by decide) (fun c_42 => ?_) (fun c_42 => absurd rfl c_42)
        refine lv_iconst (v := 0) hx hb d_M_find_68 (by decide) ?_
        refine lv_istore (lv' := [(4, .int 0), (5, .int 3), (3, .int (nI (160 * tj + 8 * i))), (2, .int (nI i)), (1, .int (nI tj)), (0, .ref mo)]) hx hb d_M_find_69 hl (by decide) rfl (fun ls hl => ?_)
        refine lv_iinc (v := 4) (lv' := [(5, .int 4), (4, .int 0), (3, .int (nI (160 * tj + 8 * i))), (2, .int (nI i)), (1, .int (nI tj)), (0, .ref mo)]) hx hb d_M_find_71 hl (k := 1) rfl (by decide) (by decide) rfl (fun ls hl => ?_)
        refine lv_goto (tgt := 34) hx hb d_M_find_74 (by decide) ?_
        refine lv_iload hx hb d_M_find_34 (lv_at hl 0 rfl) ?_
        refine lv_iconst (v := 4) hx hb d_M_find_36 (by decide) ?_
        refine lv_icmp_ge (tgt := 77) hx hb d_M_find_37 (by decide) (fun c_37 => ?_) (fun c_37 => absurd (by decide) c_37)
        refine lv_iload hx hb d_M_find_77 (lv_at hl 1 rfl) ?_
        refine lv_if_eq (tgt := 84) hx hb d_M_find_79 (by decide) (fun c_79 => ?_) (fun c_79 => absurd rfl c_79)
        refine lv_iinc (v := nI (i + 1)) (lv' := [(2, .int (nI (i + 1))), (5, .int 4), (4, .int 0), (3, .int (nI (160 * tj + 8 * i))), (1, .int (nI tj)), (0, .ref mo)]) hx hb d_M_find_84 hl (k := 3) rfl (nI_1 i) (by decide) rfl (fun ls hl => ?_)
        refine lv_goto (tgt := 7) hx hb d_M_find_87 (by decide) ?_
        exact ih (i + 1) (by omega) (by rw [← hq]; exact (if_pos (q_same_n (Or.inl c_61))).symm) _ _ Y ls (lv_sub hl [0, 4, 5] rfl)
      · refine lv_iconst (v := 1) hx hb d_M_find_64 (by decide) ?_
        refine lv_goto (tgt := 69) hx hb d_M_find_65 (by decide) ?_
        refine lv_istore (lv' := [(4, .int 1), (5, .int 0), (3, .int (nI (160 * tj + 8 * i))), (2, .int (nI i)), (1, .int (nI tj)), (0, .ref mo)]) hx hb d_M_find_69 hl (by decide) rfl (fun ls hl => ?_)
        refine lv_iinc (v := 1) (lv' := [(5, .int 1), (4, .int 1), (3, .int (nI (160 * tj + 8 * i))), (2, .int (nI i)), (1, .int (nI tj)), (0, .ref mo)]) hx hb d_M_find_71 hl (k := 1) rfl (by decide) (by decide) rfl (fun ls hl => ?_)
        refine lv_goto (tgt := 34) hx hb d_M_find_74 (by decide) ?_
        refine lv_iload hx hb d_M_find_34 (lv_at hl 0 rfl) ?_
        refine lv_iconst (v := 4) hx hb d_M_find_36 (by decide) ?_
        refine lv_icmp_ge (tgt := 77) hx hb d_M_find_37 (by decide) (fun c_37 => absurd c_37 (by decide)) (fun c_37 => ?_)
        refine lv_iload hx hb d_M_find_40 (lv_at hl 1 rfl) ?_
        refine lv_if_eq (tgt := 68) hx hb d_M_find_42 (by decide) (fun c_42 => absurd c_42 (by decide)) (fun c_42 => ?_)
        refine lv_aload_n hx hb d_M_find_45 rfl (lv_at hl 5 rfl) ?_
        refine fp_get X Y om rfl in_M 15 (by decide) w616 rfl d_M_find_46 ?_
        refine lv_iload_n hx hb d_M_find_49 rfl (lv_at hl 2 rfl) ?_
        refine lv_iload hx hb d_M_find_50 (lv_at hl 0 rfl) ?_
        refine lv_iadd hx hb d_M_find_52 ?_
        refine fp_ild X Y o_entry (160 * tj + 8 * i + 1) (nI_add (160 * tj + 8 * i) 1) (by omega) (by decide) d_M_find_53 ?_
        refine lv_aload_n hx hb d_M_find_54 rfl (lv_at hl 5 rfl) ?_
        refine fp_get X Y om rfl in_M 17 (by decide) w618 rfl d_M_find_55 ?_
        refine lv_iload hx hb d_M_find_58 (lv_at hl 0 rfl) ?_
        refine fp_ild X Y o_now 1 rfl (by decide) (by decide) d_M_find_60 ?_
        refine lv_icmp_ne (tgt := 68) hx hb d_M_find_61 (by decide) (fun c_61_8 => ?_) (fun c_61_8 => ?_)
        · refine lv_iconst (v := 0) hx hb d_M_find_68 (by decide) ?_
          refine lv_istore (lv' := [(4, .int 0), (5, .int 1), (3, .int (nI (160 * tj + 8 * i))), (2, .int (nI i)), (1, .int (nI tj)), (0, .ref mo)]) hx hb d_M_find_69 hl (by decide) rfl (fun ls hl => ?_)
          refine lv_iinc (v := 2) (lv' := [(5, .int 2), (4, .int 0), (3, .int (nI (160 * tj + 8 * i))), (2, .int (nI i)), (1, .int (nI tj)), (0, .ref mo)]) hx hb d_M_find_71 hl (k := 1) rfl (by decide) (by decide) rfl (fun ls hl => ?_)
          refine lv_goto (tgt := 34) hx hb d_M_find_74 (by decide) ?_
          refine lv_iload hx hb d_M_find_34 (lv_at hl 0 rfl) ?_
          refine lv_iconst (v := 4) hx hb d_M_find_36 (by decide) ?_
          refine lv_icmp_ge (tgt := 77) hx hb d_M_find_37 (by decide) (fun c_37 => absurd c_37 (by decide)) (fun c_37 => ?_)
          refine lv_iload hx hb d_M_find_40 (lv_at hl 1 rfl) ?_
          refine lv_if_eq (tgt := 68) hx hb d_M_find_42 (by decide) (fun c_42 => ?_) (fun c_42 => absurd rfl c_42)
          refine lv_iconst (v := 0) hx hb d_M_find_68 (by decide) ?_
          refine lv_istore (lv' := [(4, .int 0), (5, .int 2), (3, .int (nI (160 * tj + 8 * i))), (2, .int (nI i)), (1, .int (nI tj)), (0, .ref mo)]) hx hb d_M_find_69 hl (by decide) rfl (fun ls hl => ?_)
          refine lv_iinc (v := 3) (lv' := [(5, .int 3), (4, .int 0), (3, .int (nI (160 * tj + 8 * i))), (2, .int (nI i)), (1, .int (nI tj)), (0, .ref mo)]) hx hb d_M_find_71 hl (k := 1) rfl (by decide) (by decide) rfl (fun ls hl => ?_)
          refine lv_goto (tgt := 34) hx hb d_M_find_74 (by decide) ?_
          refine lv_iload hx hb d_M_find_34 (lv_at hl 0 rfl) ?_
          refine lv_iconst (v := 4) hx hb d_M_find_36 (by decide) ?_
          refine lv_icmp_ge (tgt := 77) hx hb d_M_find_37 (by decide) (fun c_37 => absurd c_37 (by decide)) (fun c_37 => ?_)
          refine lv_iload hx hb d_M_find_40 (lv_at hl 1 rfl) ?_
          refine lv_if_eq (tgt := 68) hx hb d_M_find_42 (by decide) (fun c_42 => ?_) (fun c_42 => absurd rfl c_42)
          refine lv_iconst (v := 0) hx hb d_M_find_68 (by decide) ?_
          refine lv_istore (lv' := [(4, .int 0), (5, .int 3), (3, .int (nI (160 * tj + 8 * i))), (2, .int (nI i)), (1, .int (nI tj)), (0, .ref mo)]) hx hb d_M_find_69 hl (by decide) rfl (fun ls hl => ?_)
          refine lv_iinc (v := 4) (lv' := [(5, .int 4), (4, .int 0), (3, .int (nI (160 * tj + 8 * i))), (2, .int (nI i)), (1, .int (nI tj)), (0, .ref mo)]) hx hb d_M_find_71 hl (k := 1) rfl (by decide) (by decide) rfl (fun ls hl => ?_)
          refine lv_goto (tgt := 34) hx hb d_M_find_74 (by decide) ?_
          refine lv_iload hx hb d_M_find_34 (lv_at hl 0 rfl) ?_
          refine lv_iconst (v := 4) hx hb d_M_find_36 (by decide) ?_
          refine lv_icmp_ge (tgt := 77) hx hb d_M_find_37 (by decide) (fun c_37 => ?_) (fun c_37 => absurd (by decide) c_37)
          refine lv_iload hx hb d_M_find_77 (lv_at hl 1 rfl) ?_
          refine lv_if_eq (tgt := 84) hx hb d_M_find_79 (by decide) (fun c_79 => ?_) (fun c_79 => absurd rfl c_79)
          refine lv_iinc (v := nI (i + 1)) (lv' := [(2, .int (nI (i + 1))), (5, .int 4), (4, .int 0), (3, .int (nI (160 * tj + 8 * i))), (1, .int (nI tj)), (0, .ref mo)]) hx hb d_M_find_84 hl (k := 3) rfl (nI_1 i) (by decide) rfl (fun ls hl => ?_)
          refine lv_goto (tgt := 7) hx hb d_M_find_87 (by decide) ?_
          exact ih (i + 1) (by omega) (by rw [← hq]; exact (if_pos (q_same_n (Or.inr (Or.inl c_61_8)))).symm) _ _ Y ls (lv_sub hl [0, 4, 5] rfl)
        · refine lv_iconst (v := 1) hx hb d_M_find_64 (by decide) ?_
          refine lv_goto (tgt := 69) hx hb d_M_find_65 (by decide) ?_
          refine lv_istore (lv' := [(4, .int 1), (5, .int 1), (3, .int (nI (160 * tj + 8 * i))), (2, .int (nI i)), (1, .int (nI tj)), (0, .ref mo)]) hx hb d_M_find_69 hl (by decide) rfl (fun ls hl => ?_)
          refine lv_iinc (v := 2) (lv' := [(5, .int 2), (4, .int 1), (3, .int (nI (160 * tj + 8 * i))), (2, .int (nI i)), (1, .int (nI tj)), (0, .ref mo)]) hx hb d_M_find_71 hl (k := 1) rfl (by decide) (by decide) rfl (fun ls hl => ?_)
          refine lv_goto (tgt := 34) hx hb d_M_find_74 (by decide) ?_
          refine lv_iload hx hb d_M_find_34 (lv_at hl 0 rfl) ?_
          refine lv_iconst (v := 4) hx hb d_M_find_36 (by decide) ?_
          refine lv_icmp_ge (tgt := 77) hx hb d_M_find_37 (by decide) (fun c_37 => absurd c_37 (by decide)) (fun c_37 => ?_)
          refine lv_iload hx hb d_M_find_40 (lv_at hl 1 rfl) ?_
          refine lv_if_eq (tgt := 68) hx hb d_M_find_42 (by decide) (fun c_42 => absurd c_42 (by decide)) (fun c_42 => ?_)
          refine lv_aload_n hx hb d_M_find_45 rfl (lv_at hl 5 rfl) ?_
          refine fp_get X Y om rfl in_M 15 (by decide) w616 rfl d_M_find_46 ?_
          refine lv_iload_n hx hb d_M_find_49 rfl (lv_at hl 2 rfl) ?_
          refine lv_iload hx hb d_M_find_50 (lv_at hl 0 rfl) ?_
          refine lv_iadd hx hb d_M_find_52 ?_
          refine fp_ild X Y o_entry (160 * tj + 8 * i + 2) (nI_add (160 * tj + 8 * i) 2) (by omega) (by decide) d_M_find_53 ?_
          refine lv_aload_n hx hb d_M_find_54 rfl (lv_at hl 5 rfl) ?_
          refine fp_get X Y om rfl in_M 17 (by decide) w618 rfl d_M_find_55 ?_
          refine lv_iload hx hb d_M_find_58 (lv_at hl 0 rfl) ?_
          refine fp_ild X Y o_now 2 rfl (by decide) (by decide) d_M_find_60 ?_
          refine lv_icmp_ne (tgt := 68) hx hb d_M_find_61 (by decide) (fun c_61_9 => ?_) (fun c_61_9 => ?_)
          · refine lv_iconst (v := 0) hx hb d_M_find_68 (by decide) ?_
            refine lv_istore (lv' := [(4, .int 0), (5, .int 2), (3, .int (nI (160 * tj + 8 * i))), (2, .int (nI i)), (1, .int (nI tj)), (0, .ref mo)]) hx hb d_M_find_69 hl (by decide) rfl (fun ls hl => ?_)
            refine lv_iinc (v := 3) (lv' := [(5, .int 3), (4, .int 0), (3, .int (nI (160 * tj + 8 * i))), (2, .int (nI i)), (1, .int (nI tj)), (0, .ref mo)]) hx hb d_M_find_71 hl (k := 1) rfl (by decide) (by decide) rfl (fun ls hl => ?_)
            refine lv_goto (tgt := 34) hx hb d_M_find_74 (by decide) ?_
            refine lv_iload hx hb d_M_find_34 (lv_at hl 0 rfl) ?_
            refine lv_iconst (v := 4) hx hb d_M_find_36 (by decide) ?_
            refine lv_icmp_ge (tgt := 77) hx hb d_M_find_37 (by decide) (fun c_37 => absurd c_37 (by decide)) (fun c_37 => ?_)
            refine lv_iload hx hb d_M_find_40 (lv_at hl 1 rfl) ?_
            refine lv_if_eq (tgt := 68) hx hb d_M_find_42 (by decide) (fun c_42 => ?_) (fun c_42 => absurd rfl c_42)
            refine lv_iconst (v := 0) hx hb d_M_find_68 (by decide) ?_
            refine lv_istore (lv' := [(4, .int 0), (5, .int 3), (3, .int (nI (160 * tj + 8 * i))), (2, .int (nI i)), (1, .int (nI tj)), (0, .ref mo)]) hx hb d_M_find_69 hl (by decide) rfl (fun ls hl => ?_)
            refine lv_iinc (v := 4) (lv' := [(5, .int 4), (4, .int 0), (3, .int (nI (160 * tj + 8 * i))), (2, .int (nI i)), (1, .int (nI tj)), (0, .ref mo)]) hx hb d_M_find_71 hl (k := 1) rfl (by decide) (by decide) rfl (fun ls hl => ?_)
            refine lv_goto (tgt := 34) hx hb d_M_find_74 (by decide) ?_
            refine lv_iload hx hb d_M_find_34 (lv_at hl 0 rfl) ?_
            refine lv_iconst (v := 4) hx hb d_M_find_36 (by decide) ?_
            refine lv_icmp_ge (tgt := 77) hx hb d_M_find_37 (by decide) (fun c_37 => ?_) (fun c_37 => absurd (by decide) c_37)
            refine lv_iload hx hb d_M_find_77 (lv_at hl 1 rfl) ?_
            refine lv_if_eq (tgt := 84) hx hb d_M_find_79 (by decide) (fun c_79 => ?_) (fun c_79 => absurd rfl c_79)
            refine lv_iinc (v := nI (i + 1)) (lv' := [(2, .int (nI (i + 1))), (5, .int 4), (4, .int 0), (3, .int (nI (160 * tj + 8 * i))), (1, .int (nI tj)), (0, .ref mo)]) hx hb d_M_find_84 hl (k := 3) rfl (nI_1 i) (by decide) rfl (fun ls hl => ?_)
            refine lv_goto (tgt := 7) hx hb d_M_find_87 (by decide) ?_
            exact ih (i + 1) (by omega) (by rw [← hq]; exact (if_pos (q_same_n (Or.inr (Or.inr (Or.inl c_61_9))))).symm) _ _ Y ls (lv_sub hl [0, 4, 5] rfl)
          · refine lv_iconst (v := 1) hx hb d_M_find_64 (by decide) ?_
            refine lv_goto (tgt := 69) hx hb d_M_find_65 (by decide) ?_
            refine lv_istore (lv' := [(4, .int 1), (5, .int 2), (3, .int (nI (160 * tj + 8 * i))), (2, .int (nI i)), (1, .int (nI tj)), (0, .ref mo)]) hx hb d_M_find_69 hl (by decide) rfl (fun ls hl => ?_)
            refine lv_iinc (v := 3) (lv' := [(5, .int 3), (4, .int 1), (3, .int (nI (160 * tj + 8 * i))), (2, .int (nI i)), (1, .int (nI tj)), (0, .ref mo)]) hx hb d_M_find_71 hl (k := 1) rfl (by decide) (by decide) rfl (fun ls hl => ?_)
            refine lv_goto (tgt := 34) hx hb d_M_find_74 (by decide) ?_
            refine lv_iload hx hb d_M_find_34 (lv_at hl 0 rfl) ?_
            refine lv_iconst (v := 4) hx hb d_M_find_36 (by decide) ?_
            refine lv_icmp_ge (tgt := 77) hx hb d_M_find_37 (by decide) (fun c_37 => absurd c_37 (by decide)) (fun c_37 => ?_)
            refine lv_iload hx hb d_M_find_40 (lv_at hl 1 rfl) ?_
            refine lv_if_eq (tgt := 68) hx hb d_M_find_42 (by decide) (fun c_42 => absurd c_42 (by decide)) (fun c_42 => ?_)
            refine lv_aload_n hx hb d_M_find_45 rfl (lv_at hl 5 rfl) ?_
            refine fp_get X Y om rfl in_M 15 (by decide) w616 rfl d_M_find_46 ?_
            refine lv_iload_n hx hb d_M_find_49 rfl (lv_at hl 2 rfl) ?_
            refine lv_iload hx hb d_M_find_50 (lv_at hl 0 rfl) ?_
            refine lv_iadd hx hb d_M_find_52 ?_
            refine fp_ild X Y o_entry (160 * tj + 8 * i + 3) (nI_add (160 * tj + 8 * i) 3) (by omega) (by decide) d_M_find_53 ?_
            refine lv_aload_n hx hb d_M_find_54 rfl (lv_at hl 5 rfl) ?_
            refine fp_get X Y om rfl in_M 17 (by decide) w618 rfl d_M_find_55 ?_
            refine lv_iload hx hb d_M_find_58 (lv_at hl 0 rfl) ?_
            refine fp_ild X Y o_now 3 rfl (by decide) (by decide) d_M_find_60 ?_
            refine lv_icmp_ne (tgt := 68) hx hb d_M_find_61 (by decide) (fun c_61_10 => ?_) (fun c_61_10 => ?_)
            · refine lv_iconst (v := 0) hx hb d_M_find_68 (by decide) ?_
              refine lv_istore (lv' := [(4, .int 0), (5, .int 3), (3, .int (nI (160 * tj + 8 * i))), (2, .int (nI i)), (1, .int (nI tj)), (0, .ref mo)]) hx hb d_M_find_69 hl (by decide) rfl (fun ls hl => ?_)
              refine lv_iinc (v := 4) (lv' := [(5, .int 4), (4, .int 0), (3, .int (nI (160 * tj + 8 * i))), (2, .int (nI i)), (1, .int (nI tj)), (0, .ref mo)]) hx hb d_M_find_71 hl (k := 1) rfl (by decide) (by decide) rfl (fun ls hl => ?_)
              refine lv_goto (tgt := 34) hx hb d_M_find_74 (by decide) ?_
              refine lv_iload hx hb d_M_find_34 (lv_at hl 0 rfl) ?_
              refine lv_iconst (v := 4) hx hb d_M_find_36 (by decide) ?_
              refine lv_icmp_ge (tgt := 77) hx hb d_M_find_37 (by decide) (fun c_37 => ?_) (fun c_37 => absurd (by decide) c_37)
              refine lv_iload hx hb d_M_find_77 (lv_at hl 1 rfl) ?_
              refine lv_if_eq (tgt := 84) hx hb d_M_find_79 (by decide) (fun c_79 => ?_) (fun c_79 => absurd rfl c_79)
              refine lv_iinc (v := nI (i + 1)) (lv' := [(2, .int (nI (i + 1))), (5, .int 4), (4, .int 0), (3, .int (nI (160 * tj + 8 * i))), (1, .int (nI tj)), (0, .ref mo)]) hx hb d_M_find_84 hl (k := 3) rfl (nI_1 i) (by decide) rfl (fun ls hl => ?_)
              refine lv_goto (tgt := 7) hx hb d_M_find_87 (by decide) ?_
              exact ih (i + 1) (by omega) (by rw [← hq]; exact (if_pos (q_same_n (Or.inr (Or.inr (Or.inr c_61_10))))).symm) _ _ Y ls (lv_sub hl [0, 4, 5] rfl)
            · refine lv_iconst (v := 1) hx hb d_M_find_64 (by decide) ?_
              refine lv_goto (tgt := 69) hx hb d_M_find_65 (by decide) ?_
              refine lv_istore (lv' := [(4, .int 1), (5, .int 3), (3, .int (nI (160 * tj + 8 * i))), (2, .int (nI i)), (1, .int (nI tj)), (0, .ref mo)]) hx hb d_M_find_69 hl (by decide) rfl (fun ls hl => ?_)
              refine lv_iinc (v := 4) (lv' := [(5, .int 4), (4, .int 1), (3, .int (nI (160 * tj + 8 * i))), (2, .int (nI i)), (1, .int (nI tj)), (0, .ref mo)]) hx hb d_M_find_71 hl (k := 1) rfl (by decide) (by decide) rfl (fun ls hl => ?_)
              refine lv_goto (tgt := 34) hx hb d_M_find_74 (by decide) ?_
              refine lv_iload hx hb d_M_find_34 (lv_at hl 0 rfl) ?_
              refine lv_iconst (v := 4) hx hb d_M_find_36 (by decide) ?_
              refine lv_icmp_ge (tgt := 77) hx hb d_M_find_37 (by decide) (fun c_37 => ?_) (fun c_37 => absurd (by decide) c_37)
              refine lv_iload hx hb d_M_find_77 (lv_at hl 1 rfl) ?_
              refine lv_if_eq (tgt := 84) hx hb d_M_find_79 (by decide) (fun c_79 => absurd c_79 (by decide)) (fun c_79 => ?_)
              refine lv_iload_n hx hb d_M_find_82 rfl (lv_at hl 3 rfl) ?_
              exact ret _ _ _ _ _ _ d_M_find_83 ⟨_, rfl, rfl⟩ ⟨congrArg (fun z => some (Value.int z)) (by rw [← hq]; exact (if_neg (fun h9 => absurd ((q_same_y c_61 c_61_8 c_61_9 c_61_10).symm.trans h9) (by decide))).symm), rfl⟩ Y
  exact loop cn 0 (by omega) rfl _ _ Y ls (lv_sub hl [0, 2, 1] rfl)
set_option maxHeartbeats 4000000 in
set_option maxRecDepth 100000 in
theorem c_M_find_2 {l : Launch} {D : va_G} {g : Nat → ClassId} {b n : Nat} {A : Nat → Prop} {f : Nat → va_E} {mo : Nat} {th nf na nt po dr : Int32} {zw zo zt zc ze zk zx : Nat → Int32} {tj j1 cn j2 : Nat} (htj : tj < 8) (hj1 : j1 < 16) (h1 : zo tj = nI j1) (hj2 : j2 < 16) (h2 : zt tj = nI j2) (hcn : cn ≤ 20) (hc : zc tj = nI cn) (om : fp_o b n f mo (ob 8 [.int th, .int nf, .ref (mo + 1), .ref (mo + 2), .int na, .ref (mo + 3), .ref (mo + 4), .ref (mo + 5), .int nt, .ref (mo + 6), .ref (mo + 7), .ref (mo + 8), .ref (mo + 9), .ref (mo + 10), .ref (mo + 11), .ref (mo + 12), .ref (mo + 13), .ref (mo + 14), .int po, .int dr])) (o_width : fp_o b n f (mo + 1) (aI g 16 zw)) (o_one : fp_o b n f (mo + 6) (aI g 8 zo)) (o_two : fp_o b n f (mo + 7) (aI g 8 zt)) (o_count : fp_o b n f (mo + 11) (aI g 8 zc)) (o_entry : fp_o b n f (mo + 12) (aI g 1280 ze)) (o_key : fp_o b n f (mo + 13) (aI g 4 zk)) (o_now : fp_o b n f (mo + 14) (aI g 8 zx))  (hA : fp_W b n A := by assumption) : fp_M l D (TY g) b n A y_M_find (fp_ws y_M_find b_M_find 6 (some FieldType.int)) (rmD 2) [.ref mo, .int (nI tj)] f (fun v f' => v = some (.int (q_row (fun k => q_same (ze (160 * tj + 8 * k)) (ze (160 * tj + 8 * k + 1)) (ze (160 * tj + 8 * k + 2)) (ze (160 * tj + 8 * k + 3)) ((upd (upd (upd (upd zx 1 (zk 1 &&& q_ones (zw j1))) 0 (zk 0 &&& (zk 1 &&& q_ones (zw j1)))) 3 (zk 3 &&& q_ones (zw j2))) 2 (zk 2 &&& (zk 3 &&& q_ones (zw j2)))) 0) ((upd (upd (upd (upd zx 1 (zk 1 &&& q_ones (zw j1))) 0 (zk 0 &&& (zk 1 &&& q_ones (zw j1)))) 3 (zk 3 &&& q_ones (zw j2))) 2 (zk 2 &&& (zk 3 &&& q_ones (zw j2)))) 1) ((upd (upd (upd (upd zx 1 (zk 1 &&& q_ones (zw j1))) 0 (zk 0 &&& (zk 1 &&& q_ones (zw j1)))) 3 (zk 3 &&& q_ones (zw j2))) 2 (zk 2 &&& (zk 3 &&& q_ones (zw j2)))) 2) ((upd (upd (upd (upd zx 1 (zk 1 &&& q_ones (zw j1))) 0 (zk 0 &&& (zk 1 &&& q_ones (zw j1)))) 3 (zk 3 &&& q_ones (zw j2))) 2 (zk 2 &&& (zk 3 &&& q_ones (zw j2)))) 3)) cn 0)) ∧ f' = (va_up f (mo + 14) (aI g 8 (upd (upd (upd (upd zx 1 (zk 1 &&& q_ones (zw j1))) 0 (zk 0 &&& (zk 1 &&& q_ones (zw j1)))) 3 (zk 3 &&& q_ones (zw j2))) 2 (zk 2 &&& (zk 3 &&& q_ones (zw j2))))))) := by
  refine fp_ofI (plainFor_of_name (by decide)) (Nat.le_of_ble_eq_true rfl) ?_
  intro p e s m args below meth c Q ls H locs X Y hl ret
  have hx := X.1.1
  have hb := X.1.2.1
  have hl : lv_has ls 6 [(0, .ref mo), (1, .int (nI tj))] := hl
  refine lv_aload_n hx hb d_M_find_0 rfl (lv_at hl 0 rfl) ?_
  refine lv_iload_n hx hb d_M_find_1 rfl (lv_at hl 1 rfl) ?_
  refine fp_callV (nA := 1) (As := [.int (nI tj)]) (rest := []) X Y (c_M_cut_2 htj hj1 h1 hj2 h2 om o_width o_one o_two o_key o_now) om rfl w724 w721 w723 wp19 w9 (by decide +kernel) ⟨rfl, rfl⟩ ⟨Nat.le_of_ble_eq_true rfl, Nat.le_of_ble_eq_true rfl⟩ rfl hl.1 rfl (Nat.le_of_ble_eq_true rfl) d_M_find_2 ⟨Nat.zero_le _, Nat.zero_le _⟩ (fun v9 f9 H locs hp9 Y => ?_)
  obtain ⟨e8, e9⟩ := hp9
  subst e8
  rw [e9] at Y
  have ne_1 : mo ≠ mo + 14 := (fp_o.nf om o_now (by simp))
  have ne_2 : mo + 1 ≠ mo + 14 := (by omega)
  have ne_3 : mo + 6 ≠ mo + 14 := (by omega)
  have ne_4 : mo + 7 ≠ mo + 14 := (by omega)
  have ne_5 : mo + 11 ≠ mo + 14 := (by omega)
  have ne_6 : mo + 12 ≠ mo + 14 := (by omega)
  have ne_7 : mo + 13 ≠ mo + 14 := (by omega)
  have Y : fp_H D b n A (va_up f (mo + 14) (aI g 8 (upd (upd (upd (upd zx 1 (zk 1 &&& q_ones (zw j1))) 0 (zk 0 &&& (zk 1 &&& q_ones (zw j1)))) 3 (zk 3 &&& q_ones (zw j2))) 2 (zk 2 &&& (zk 3 &&& q_ones (zw j2)))))) s.heap H locs := Y
  have om : fp_o b n (va_up f (mo + 14) (aI g 8 (upd (upd (upd (upd zx 1 (zk 1 &&& q_ones (zw j1))) 0 (zk 0 &&& (zk 1 &&& q_ones (zw j1)))) 3 (zk 3 &&& q_ones (zw j2))) 2 (zk 2 &&& (zk 3 &&& q_ones (zw j2)))))) mo (ob 8 [.int th, .int nf, .ref (mo + 1), .ref (mo + 2), .int na, .ref (mo + 3), .ref (mo + 4), .ref (mo + 5), .int nt, .ref (mo + 6), .ref (mo + 7), .ref (mo + 8), .ref (mo + 9), .ref (mo + 10), .ref (mo + 11), .ref (mo + 12), .ref (mo + 13), .ref (mo + 14), .int po, .int dr]) := fp_o.ne om ne_1
  have o_width : fp_o b n (va_up f (mo + 14) (aI g 8 (upd (upd (upd (upd zx 1 (zk 1 &&& q_ones (zw j1))) 0 (zk 0 &&& (zk 1 &&& q_ones (zw j1)))) 3 (zk 3 &&& q_ones (zw j2))) 2 (zk 2 &&& (zk 3 &&& q_ones (zw j2)))))) (mo + 1) (aI g 16 zw) := fp_o.ne o_width ne_2
  have o_one : fp_o b n (va_up f (mo + 14) (aI g 8 (upd (upd (upd (upd zx 1 (zk 1 &&& q_ones (zw j1))) 0 (zk 0 &&& (zk 1 &&& q_ones (zw j1)))) 3 (zk 3 &&& q_ones (zw j2))) 2 (zk 2 &&& (zk 3 &&& q_ones (zw j2)))))) (mo + 6) (aI g 8 zo) := fp_o.ne o_one ne_3
  have o_two : fp_o b n (va_up f (mo + 14) (aI g 8 (upd (upd (upd (upd zx 1 (zk 1 &&& q_ones (zw j1))) 0 (zk 0 &&& (zk 1 &&& q_ones (zw j1)))) 3 (zk 3 &&& q_ones (zw j2))) 2 (zk 2 &&& (zk 3 &&& q_ones (zw j2)))))) (mo + 7) (aI g 8 zt) := fp_o.ne o_two ne_4
  have o_count : fp_o b n (va_up f (mo + 14) (aI g 8 (upd (upd (upd (upd zx 1 (zk 1 &&& q_ones (zw j1))) 0 (zk 0 &&& (zk 1 &&& q_ones (zw j1)))) 3 (zk 3 &&& q_ones (zw j2))) 2 (zk 2 &&& (zk 3 &&& q_ones (zw j2)))))) (mo + 11) (aI g 8 zc) := fp_o.ne o_count ne_5
  have o_entry : fp_o b n (va_up f (mo + 14) (aI g 8 (upd (upd (upd (upd zx 1 (zk 1 &&& q_ones (zw j1))) 0 (zk 0 &&& (zk 1 &&& q_ones (zw j1)))) 3 (zk 3 &&& q_ones (zw j2))) 2 (zk 2 &&& (zk 3 &&& q_ones (zw j2)))))) (mo + 12) (aI g 1280 ze) := fp_o.ne o_entry ne_6
  have o_key : fp_o b n (va_up f (mo + 14) (aI g 8 (upd (upd (upd (upd zx 1 (zk 1 &&& q_ones (zw j1))) 0 (zk 0 &&& (zk 1 &&& q_ones (zw j1)))) 3 (zk 3 &&& q_ones (zw j2))) 2 (zk 2 &&& (zk 3 &&& q_ones (zw j2)))))) (mo + 13) (aI g 4 zk) := fp_o.ne o_key ne_7
  have o_now : fp_o b n (va_up f (mo + 14) (aI g 8 (upd (upd (upd (upd zx 1 (zk 1 &&& q_ones (zw j1))) 0 (zk 0 &&& (zk 1 &&& q_ones (zw j1)))) 3 (zk 3 &&& q_ones (zw j2))) 2 (zk 2 &&& (zk 3 &&& q_ones (zw j2)))))) (mo + 14) (aI g 8 (upd (upd (upd (upd zx 1 (zk 1 &&& q_ones (zw j1))) 0 (zk 0 &&& (zk 1 &&& q_ones (zw j1)))) 3 (zk 3 &&& q_ones (zw j2))) 2 (zk 2 &&& (zk 3 &&& q_ones (zw j2))))) := fp_o.up o_now
  refine W.eq (g2 := F0 m 5 ls []) rfl ?_
  refine lv_iconst (v := 0) hx hb d_M_find_5 (by decide) ?_
  refine lv_istore_n (lv' := [(2, .int 0), (0, .ref mo), (1, .int (nI tj))]) hx hb d_M_find_6 rfl hl (by decide) rfl (fun ls hl => ?_)
  have loop : ∀ (k i : Nat), k + i = cn → q_row (fun k => q_same (ze (160 * tj + 8 * k)) (ze (160 * tj + 8 * k + 1)) (ze (160 * tj + 8 * k + 2)) (ze (160 * tj + 8 * k + 3)) ((upd (upd (upd (upd zx 1 (zk 1 &&& q_ones (zw j1))) 0 (zk 0 &&& (zk 1 &&& q_ones (zw j1)))) 3 (zk 3 &&& q_ones (zw j2))) 2 (zk 2 &&& (zk 3 &&& q_ones (zw j2)))) 0) ((upd (upd (upd (upd zx 1 (zk 1 &&& q_ones (zw j1))) 0 (zk 0 &&& (zk 1 &&& q_ones (zw j1)))) 3 (zk 3 &&& q_ones (zw j2))) 2 (zk 2 &&& (zk 3 &&& q_ones (zw j2)))) 1) ((upd (upd (upd (upd zx 1 (zk 1 &&& q_ones (zw j1))) 0 (zk 0 &&& (zk 1 &&& q_ones (zw j1)))) 3 (zk 3 &&& q_ones (zw j2))) 2 (zk 2 &&& (zk 3 &&& q_ones (zw j2)))) 2) ((upd (upd (upd (upd zx 1 (zk 1 &&& q_ones (zw j1))) 0 (zk 0 &&& (zk 1 &&& q_ones (zw j1)))) 3 (zk 3 &&& q_ones (zw j2))) 2 (zk 2 &&& (zk 3 &&& q_ones (zw j2)))) 3)) k i = q_row (fun k => q_same (ze (160 * tj + 8 * k)) (ze (160 * tj + 8 * k + 1)) (ze (160 * tj + 8 * k + 2)) (ze (160 * tj + 8 * k + 3)) ((upd (upd (upd (upd zx 1 (zk 1 &&& q_ones (zw j1))) 0 (zk 0 &&& (zk 1 &&& q_ones (zw j1)))) 3 (zk 3 &&& q_ones (zw j2))) 2 (zk 2 &&& (zk 3 &&& q_ones (zw j2)))) 0) ((upd (upd (upd (upd zx 1 (zk 1 &&& q_ones (zw j1))) 0 (zk 0 &&& (zk 1 &&& q_ones (zw j1)))) 3 (zk 3 &&& q_ones (zw j2))) 2 (zk 2 &&& (zk 3 &&& q_ones (zw j2)))) 1) ((upd (upd (upd (upd zx 1 (zk 1 &&& q_ones (zw j1))) 0 (zk 0 &&& (zk 1 &&& q_ones (zw j1)))) 3 (zk 3 &&& q_ones (zw j2))) 2 (zk 2 &&& (zk 3 &&& q_ones (zw j2)))) 2) ((upd (upd (upd (upd zx 1 (zk 1 &&& q_ones (zw j1))) 0 (zk 0 &&& (zk 1 &&& q_ones (zw j1)))) 3 (zk 3 &&& q_ones (zw j2))) 2 (zk 2 &&& (zk 3 &&& q_ones (zw j2)))) 3)) cn 0 → ∀ (H : Heap) (locs : List Loc), fp_H D b n A (va_up f (mo + 14) (aI g 8 (upd (upd (upd (upd zx 1 (zk 1 &&& q_ones (zw j1))) 0 (zk 0 &&& (zk 1 &&& q_ones (zw j1)))) 3 (zk 3 &&& q_ones (zw j2))) 2 (zk 2 &&& (zk 3 &&& q_ones (zw j2)))))) s.heap H locs → ∀ (ls : Array Slot), lv_has ls 6 [(2, .int (nI i)), (1, .int (nI tj)), (0, .ref mo)] → W p l e (rmD 2) s m args below meth c H locs 0 0 Q (F0 m 7 ls []) := by
    intro k
    induction k with
    | zero =>
      intro i hi hq H locs Y ls hl
      refine lv_iload_n hx hb d_M_find_7 rfl (lv_at hl 0 rfl) ?_
      refine lv_aload_n hx hb d_M_find_8 rfl (lv_at hl 2 rfl) ?_
      refine fp_get X Y om rfl in_M 14 (by decide) w615 rfl d_M_find_9 ?_
      refine lv_iload_n hx hb d_M_find_12 rfl (lv_at hl 1 rfl) ?_
      refine fp_ild X Y o_count tj rfl (by omega) (by decide) d_M_find_13 ?_
      rw [hc]
      refine lv_icmp_ge (tgt := 90) hx hb d_M_find_14 (by decide) (fun c_14 => ?_) (fun c_14 => absurd (by rw [show i = cn by omega]; exact Int32.le_refl _) c_14)
      refine lv_iconst (v := -1) hx hb d_M_find_90 (by decide) ?_
      exact ret _ _ _ _ _ _ d_M_find_91 ⟨_, rfl, rfl⟩ ⟨by rw [← hq]; rfl, rfl⟩ Y
    | succ k ih =>
      intro i hi hq H locs Y ls hl
      refine lv_iload_n hx hb d_M_find_7 rfl (lv_at hl 0 rfl) ?_
      refine lv_aload_n hx hb d_M_find_8 rfl (lv_at hl 2 rfl) ?_
      refine fp_get X Y om rfl in_M 14 (by decide) w615 rfl d_M_find_9 ?_
      refine lv_iload_n hx hb d_M_find_12 rfl (lv_at hl 1 rfl) ?_
      refine fp_ild X Y o_count tj rfl (by omega) (by decide) d_M_find_13 ?_
      rw [hc]
      refine lv_icmp_ge (tgt := 90) hx hb d_M_find_14 (by decide) (fun c_14 => absurd c_14 (nI_ge (by omega) (by omega))) (fun c_14 => ?_)
      refine lv_sipush (v := 160) hx hb d_M_find_17 (by decide) ?_
      refine lv_iload_n hx hb d_M_find_20 rfl (lv_at hl 1 rfl) ?_
      refine lv_imul hx hb d_M_find_21 ?_
      refine lv_bipush (v := 8) hx hb d_M_find_22 (by decide) ?_
      refine lv_iload_n hx hb d_M_find_24 rfl (lv_at hl 0 rfl) ?_
      refine lv_imul hx hb d_M_find_25 ?_
      refine lv_iadd hx hb d_M_find_26 ?_
      rw [q_at8]
      refine lv_istore_n (lv' := [(3, .int (nI (160 * tj + 8 * i))), (2, .int (nI i)), (1, .int (nI tj)), (0, .ref mo)]) hx hb d_M_find_27 rfl hl (by decide) rfl (fun ls hl => ?_)
      refine lv_iconst (v := 1) hx hb d_M_find_28 (by decide) ?_
      refine lv_istore (lv' := [(4, .int 1), (3, .int (nI (160 * tj + 8 * i))), (2, .int (nI i)), (1, .int (nI tj)), (0, .ref mo)]) hx hb d_M_find_29 hl (by decide) rfl (fun ls hl => ?_)
      refine lv_iconst (v := 0) hx hb d_M_find_31 (by decide) ?_
      refine lv_istore (lv' := [(5, .int 0), (4, .int 1), (3, .int (nI (160 * tj + 8 * i))), (2, .int (nI i)), (1, .int (nI tj)), (0, .ref mo)]) hx hb d_M_find_32 hl (by decide) rfl (fun ls hl => ?_)
      refine lv_iload hx hb d_M_find_34 (lv_at hl 0 rfl) ?_
      refine lv_iconst (v := 4) hx hb d_M_find_36 (by decide) ?_
      refine lv_icmp_ge (tgt := 77) hx hb d_M_find_37 (by decide) (fun c_37 => absurd c_37 (by decide)) (fun c_37 => ?_)
      refine lv_iload hx hb d_M_find_40 (lv_at hl 1 rfl) ?_
      refine lv_if_eq (tgt := 68) hx hb d_M_find_42 (by decide) (fun c_42 => absurd c_42 (by decide)) (fun c_42 => ?_)
      refine lv_aload_n hx hb d_M_find_45 rfl (lv_at hl 5 rfl) ?_
      refine fp_get X Y om rfl in_M 15 (by decide) w616 rfl d_M_find_46 ?_
      refine lv_iload_n hx hb d_M_find_49 rfl (lv_at hl 2 rfl) ?_
      refine lv_iload hx hb d_M_find_50 (lv_at hl 0 rfl) ?_
      refine lv_iadd hx hb d_M_find_52 ?_
      refine fp_ild X Y o_entry (160 * tj + 8 * i) (nI_add (160 * tj + 8 * i) 0) (by omega) (by decide) d_M_find_53 ?_
      refine lv_aload_n hx hb d_M_find_54 rfl (lv_at hl 5 rfl) ?_
      refine fp_get X Y om rfl in_M 17 (by decide) w618 rfl d_M_find_55 ?_
      refine lv_iload hx hb d_M_find_58 (lv_at hl 0 rfl) ?_
      refine fp_ild X Y o_now 0 rfl (by decide) (by decide) d_M_find_60 ?_
      refine lv_icmp_ne (tgt := 68) hx hb d_M_find_61 (by decide) (fun c_61 => ?_) (fun c_61 => ?_)
      · refine lv_iconst (v := 0) hx hb d_M_find_68 (by decide) ?_
        refine lv_istore (lv' := [(4, .int 0), (5, .int 0), (3, .int (nI (160 * tj + 8 * i))), (2, .int (nI i)), (1, .int (nI tj)), (0, .ref mo)]) hx hb d_M_find_69 hl (by decide) rfl (fun ls hl => ?_)
        refine lv_iinc (v := 1) (lv' := [(5, .int 1), (4, .int 0), (3, .int (nI (160 * tj + 8 * i))), (2, .int (nI i)), (1, .int (nI tj)), (0, .ref mo)]) hx hb d_M_find_71 hl (k := 1) rfl (by decide) (by decide) rfl (fun ls hl => ?_)
        refine lv_goto (tgt := 34) hx hb d_M_find_74 (by decide) ?_
        refine lv_iload hx hb d_M_find_34 (lv_at hl 0 rfl) ?_
        refine lv_iconst (v := 4) hx hb d_M_find_36 (by decide) ?_
        refine lv_icmp_ge (tgt := 77) hx hb d_M_find_37 (by decide) (fun c_37 => absurd c_37 (by decide)) (fun c_37 => ?_)
        refine lv_iload hx hb d_M_find_40 (lv_at hl 1 rfl) ?_
        refine lv_if_eq (tgt := 68) hx hb d_M_find_42 (by decide) (fun c_42 => ?_) (fun c_42 => absurd rfl c_42)
        refine lv_iconst (v := 0) hx hb d_M_find_68 (by decide) ?_
        refine lv_istore (lv' := [(4, .int 0), (5, .int 1), (3, .int (nI (160 * tj + 8 * i))), (2, .int (nI i)), (1, .int (nI tj)), (0, .ref mo)]) hx hb d_M_find_69 hl (by decide) rfl (fun ls hl => ?_)
        refine lv_iinc (v := 2) (lv' := [(5, .int 2), (4, .int 0), (3, .int (nI (160 * tj + 8 * i))), (2, .int (nI i)), (1, .int (nI tj)), (0, .ref mo)]) hx hb d_M_find_71 hl (k := 1) rfl (by decide) (by decide) rfl (fun ls hl => ?_)
        refine lv_goto (tgt := 34) hx hb d_M_find_74 (by decide) ?_
        refine lv_iload hx hb d_M_find_34 (lv_at hl 0 rfl) ?_
        refine lv_iconst (v := 4) hx hb d_M_find_36 (by decide) ?_
        refine lv_icmp_ge (tgt := 77) hx hb d_M_find_37 (by decide) (fun c_37 => absurd c_37 (by decide)) (fun c_37 => ?_)
        refine lv_iload hx hb d_M_find_40 (lv_at hl 1 rfl) ?_
        refine lv_if_eq (tgt := 68) hx hb d_M_find_42 (by decide) (fun c_42 => ?_) (fun c_42 => absurd rfl c_42)
        refine lv_iconst (v := 0) hx hb d_M_find_68 (by decide) ?_
        refine lv_istore (lv' := [(4, .int 0), (5, .int 2), (3, .int (nI (160 * tj + 8 * i))), (2, .int (nI i)), (1, .int (nI tj)), (0, .ref mo)]) hx hb d_M_find_69 hl (by decide) rfl (fun ls hl => ?_)
        refine lv_iinc (v := 3) (lv' := [(5, .int 3), (4, .int 0), (3, .int (nI (160 * tj + 8 * i))), (2, .int (nI i)), (1, .int (nI tj)), (0, .ref mo)]) hx hb d_M_find_71 hl (k := 1) rfl (by decide) (by decide) rfl (fun ls hl => ?_)
        refine lv_goto (tgt := 34) hx hb d_M_find_74 (by decide) ?_
        refine lv_iload hx hb d_M_find_34 (lv_at hl 0 rfl) ?_
        refine lv_iconst (v := 4) hx hb d_M_find_36 (by decide) ?_
        refine lv_icmp_ge (tgt := 77) hx hb d_M_find_37 (by decide) (fun c_37 => absurd c_37 (by decide)) (fun c_37 => ?_)
        refine lv_iload hx hb d_M_find_40 (lv_at hl 1 rfl) ?_
        refine lv_if_eq (tgt := 68) hx hb d_M_find_42 (by decide) (fun c_42 => ?_) (fun c_42 => absurd rfl c_42)
        refine lv_iconst (v := 0) hx hb d_M_find_68 (by decide) ?_
        refine lv_istore (lv' := [(4, .int 0), (5, .int 3), (3, .int (nI (160 * tj + 8 * i))), (2, .int (nI i)), (1, .int (nI tj)), (0, .ref mo)]) hx hb d_M_find_69 hl (by decide) rfl (fun ls hl => ?_)
        refine lv_iinc (v := 4) (lv' := [(5, .int 4), (4, .int 0), (3, .int (nI (160 * tj + 8 * i))), (2, .int (nI i)), (1, .int (nI tj)), (0, .ref mo)]) hx hb d_M_find_71 hl (k := 1) rfl (by decide) (by decide) rfl (fun ls hl => ?_)
        refine lv_goto (tgt := 34) hx hb d_M_find_74 (by decide) ?_
        refine lv_iload hx hb d_M_find_34 (lv_at hl 0 rfl) ?_
        refine lv_iconst (v := 4) hx hb d_M_find_36 (by decide) ?_
        refine lv_icmp_ge (tgt := 77) hx hb d_M_find_37 (by decide) (fun c_37 => ?_) (fun c_37 => absurd (by decide) c_37)
        refine lv_iload hx hb d_M_find_77 (lv_at hl 1 rfl) ?_
        refine lv_if_eq (tgt := 84) hx hb d_M_find_79 (by decide) (fun c_79 => ?_) (fun c_79 => absurd rfl c_79)
        refine lv_iinc (v := nI (i + 1)) (lv' := [(2, .int (nI (i + 1))), (5, .int 4), (4, .int 0), (3, .int (nI (160 * tj + 8 * i))), (1, .int (nI tj)), (0, .ref mo)]) hx hb d_M_find_84 hl (k := 3) rfl (nI_1 i) (by decide) rfl (fun ls hl => ?_)
        refine lv_goto (tgt := 7) hx hb d_M_find_87 (by decide) ?_
        exact ih (i + 1) (by omega) (by rw [← hq]; exact (if_pos (q_same_n (Or.inl c_61))).symm) _ _ Y ls (lv_sub hl [0, 4, 5] rfl)
      · refine lv_iconst (v := 1) hx hb d_M_find_64 (by decide) ?_
        refine lv_goto (tgt := 69) hx hb d_M_find_65 (by decide) ?_
        refine lv_istore (lv' := [(4, .int 1), (5, .int 0), (3, .int (nI (160 * tj + 8 * i))), (2, .int (nI i)), (1, .int (nI tj)), (0, .ref mo)]) hx hb d_M_find_69 hl (by decide) rfl (fun ls hl => ?_)
        refine lv_iinc (v := 1) (lv' := [(5, .int 1), (4, .int 1), (3, .int (nI (160 * tj + 8 * i))), (2, .int (nI i)), (1, .int (nI tj)), (0, .ref mo)]) hx hb d_M_find_71 hl (k := 1) rfl (by decide) (by decide) rfl (fun ls hl => ?_)
        refine lv_goto (tgt := 34) hx hb d_M_find_74 (by decide) ?_
        refine lv_iload hx hb d_M_find_34 (lv_at hl 0 rfl) ?_
        refine lv_iconst (v := 4) hx hb d_M_find_36 (by decide) ?_
        refine lv_icmp_ge (tgt := 77) hx hb d_M_find_37 (by decide) (fun c_37 => absurd c_37 (by decide)) (fun c_37 => ?_)
        refine lv_iload hx hb d_M_find_40 (lv_at hl 1 rfl) ?_
        refine lv_if_eq (tgt := 68) hx hb d_M_find_42 (by decide) (fun c_42 => absurd c_42 (by decide)) (fun c_42 => ?_)
        refine lv_aload_n hx hb d_M_find_45 rfl (lv_at hl 5 rfl) ?_
        refine fp_get X Y om rfl in_M 15 (by decide) w616 rfl d_M_find_46 ?_
        refine lv_iload_n hx hb d_M_find_49 rfl (lv_at hl 2 rfl) ?_
        refine lv_iload hx hb d_M_find_50 (lv_at hl 0 rfl) ?_
        refine lv_iadd hx hb d_M_find_52 ?_
        refine fp_ild X Y o_entry (160 * tj + 8 * i + 1) (nI_add (160 * tj + 8 * i) 1) (by omega) (by decide) d_M_find_53 ?_
        refine lv_aload_n hx hb d_M_find_54 rfl (lv_at hl 5 rfl) ?_
        refine fp_get X Y om rfl in_M 17 (by decide) w618 rfl d_M_find_55 ?_
        refine lv_iload hx hb d_M_find_58 (lv_at hl 0 rfl) ?_
        refine fp_ild X Y o_now 1 rfl (by decide) (by decide) d_M_find_60 ?_
        refine lv_icmp_ne (tgt := 68) hx hb d_M_find_61 (by decide) (fun c_61_8 => ?_) (fun c_61_8 => ?_)
        · refine lv_iconst (v := 0) hx hb d_M_find_68 (by decide) ?_
          refine lv_istore (lv' := [(4, .int 0), (5, .int 1), (3, .int (nI (160 * tj + 8 * i))), (2, .int (nI i)), (1, .int (nI tj)), (0, .ref mo)]) hx hb d_M_find_69 hl (by decide) rfl (fun ls hl => ?_)
          refine lv_iinc (v := 2) (lv' := [(5, .int 2), (4, .int 0), (3, .int (nI (160 * tj + 8 * i))), (2, .int (nI i)), (1, .int (nI tj)), (0, .ref mo)]) hx hb d_M_find_71 hl (k := 1) rfl (by decide) (by decide) rfl (fun ls hl => ?_)
          refine lv_goto (tgt := 34) hx hb d_M_find_74 (by decide) ?_
          refine lv_iload hx hb d_M_find_34 (lv_at hl 0 rfl) ?_
          refine lv_iconst (v := 4) hx hb d_M_find_36 (by decide) ?_
          refine lv_icmp_ge (tgt := 77) hx hb d_M_find_37 (by decide) (fun c_37 => absurd c_37 (by decide)) (fun c_37 => ?_)
          refine lv_iload hx hb d_M_find_40 (lv_at hl 1 rfl) ?_
          refine lv_if_eq (tgt := 68) hx hb d_M_find_42 (by decide) (fun c_42 => ?_) (fun c_42 => absurd rfl c_42)
          refine lv_iconst (v := 0) hx hb d_M_find_68 (by decide) ?_
          refine lv_istore (lv' := [(4, .int 0), (5, .int 2), (3, .int (nI (160 * tj + 8 * i))), (2, .int (nI i)), (1, .int (nI tj)), (0, .ref mo)]) hx hb d_M_find_69 hl (by decide) rfl (fun ls hl => ?_)
          refine lv_iinc (v := 3) (lv' := [(5, .int 3), (4, .int 0), (3, .int (nI (160 * tj + 8 * i))), (2, .int (nI i)), (1, .int (nI tj)), (0, .ref mo)]) hx hb d_M_find_71 hl (k := 1) rfl (by decide) (by decide) rfl (fun ls hl => ?_)
          refine lv_goto (tgt := 34) hx hb d_M_find_74 (by decide) ?_
          refine lv_iload hx hb d_M_find_34 (lv_at hl 0 rfl) ?_
          refine lv_iconst (v := 4) hx hb d_M_find_36 (by decide) ?_
          refine lv_icmp_ge (tgt := 77) hx hb d_M_find_37 (by decide) (fun c_37 => absurd c_37 (by decide)) (fun c_37 => ?_)
          refine lv_iload hx hb d_M_find_40 (lv_at hl 1 rfl) ?_
          refine lv_if_eq (tgt := 68) hx hb d_M_find_42 (by decide) (fun c_42 => ?_) (fun c_42 => absurd rfl c_42)
          refine lv_iconst (v := 0) hx hb d_M_find_68 (by decide) ?_
          refine lv_istore (lv' := [(4, .int 0), (5, .int 3), (3, .int (nI (160 * tj + 8 * i))), (2, .int (nI i)), (1, .int (nI tj)), (0, .ref mo)]) hx hb d_M_find_69 hl (by decide) rfl (fun ls hl => ?_)
          refine lv_iinc (v := 4) (lv' := [(5, .int 4), (4, .int 0), (3, .int (nI (160 * tj + 8 * i))), (2, .int (nI i)), (1, .int (nI tj)), (0, .ref mo)]) hx hb d_M_find_71 hl (k := 1) rfl (by decide) (by decide) rfl (fun ls hl => ?_)
          refine lv_goto (tgt := 34) hx hb d_M_find_74 (by decide) ?_
          refine lv_iload hx hb d_M_find_34 (lv_at hl 0 rfl) ?_
          refine lv_iconst (v := 4) hx hb d_M_find_36 (by decide) ?_
          refine lv_icmp_ge (tgt := 77) hx hb d_M_find_37 (by decide) (fun c_37 => ?_) (fun c_37 => absurd (by decide) c_37)
          refine lv_iload hx hb d_M_find_77 (lv_at hl 1 rfl) ?_
          refine lv_if_eq (tgt := 84) hx hb d_M_find_79 (by decide) (fun c_79 => ?_) (fun c_79 => absurd rfl c_79)
          refine lv_iinc (v := nI (i + 1)) (lv' := [(2, .int (nI (i + 1))), (5, .int 4), (4, .int 0), (3, .int (nI (160 * tj + 8 * i))), (1, .int (nI tj)), (0, .ref mo)]) hx hb d_M_find_84 hl (k := 3) rfl (nI_1 i) (by decide) rfl (fun ls hl => ?_)
          refine lv_goto (tgt := 7) hx hb d_M_find_87 (by decide) ?_
          exact ih (i + 1) (by omega) (by rw [← hq]; exact (if_pos (q_same_n (Or.inr (Or.inl c_61_8)))).symm) _ _ Y ls (lv_sub hl [0, 4, 5] rfl)
        · refine lv_iconst (v := 1) hx hb d_M_find_64 (by decide) ?_
          refine lv_goto (tgt := 69) hx hb d_M_find_65 (by decide) ?_
          refine lv_istore (lv' := [(4, .int 1), (5, .int 1), (3, .int (nI (160 * tj + 8 * i))), (2, .int (nI i)), (1, .int (nI tj)), (0, .ref mo)]) hx hb d_M_find_69 hl (by decide) rfl (fun ls hl => ?_)
          refine lv_iinc (v := 2) (lv' := [(5, .int 2), (4, .int 1), (3, .int (nI (160 * tj + 8 * i))), (2, .int (nI i)), (1, .int (nI tj)), (0, .ref mo)]) hx hb d_M_find_71 hl (k := 1) rfl (by decide) (by decide) rfl (fun ls hl => ?_)
          refine lv_goto (tgt := 34) hx hb d_M_find_74 (by decide) ?_
          refine lv_iload hx hb d_M_find_34 (lv_at hl 0 rfl) ?_
          refine lv_iconst (v := 4) hx hb d_M_find_36 (by decide) ?_
          refine lv_icmp_ge (tgt := 77) hx hb d_M_find_37 (by decide) (fun c_37 => absurd c_37 (by decide)) (fun c_37 => ?_)
          refine lv_iload hx hb d_M_find_40 (lv_at hl 1 rfl) ?_
          refine lv_if_eq (tgt := 68) hx hb d_M_find_42 (by decide) (fun c_42 => absurd c_42 (by decide)) (fun c_42 => ?_)
          refine lv_aload_n hx hb d_M_find_45 rfl (lv_at hl 5 rfl) ?_
          refine fp_get X Y om rfl in_M 15 (by decide) w616 rfl d_M_find_46 ?_
          refine lv_iload_n hx hb d_M_find_49 rfl (lv_at hl 2 rfl) ?_
          refine lv_iload hx hb d_M_find_50 (lv_at hl 0 rfl) ?_
          refine lv_iadd hx hb d_M_find_52 ?_
          refine fp_ild X Y o_entry (160 * tj + 8 * i + 2) (nI_add (160 * tj + 8 * i) 2) (by omega) (by decide) d_M_find_53 ?_
          refine lv_aload_n hx hb d_M_find_54 rfl (lv_at hl 5 rfl) ?_
          refine fp_get X Y om rfl in_M 17 (by decide) w618 rfl d_M_find_55 ?_
          refine lv_iload hx hb d_M_find_58 (lv_at hl 0 rfl) ?_
          refine fp_ild X Y o_now 2 rfl (by decide) (by decide) d_M_find_60 ?_
          refine lv_icmp_ne (tgt := 68) hx hb d_M_find_61 (by decide) (fun c_61_9 => ?_) (fun c_61_9 => ?_)
          · refine lv_iconst (v := 0) hx hb d_M_find_68 (by decide) ?_
            refine lv_istore (lv' := [(4, .int 0), (5, .int 2), (3, .int (nI (160 * tj + 8 * i))), (2, .int (nI i)), (1, .int (nI tj)), (0, .ref mo)]) hx hb d_M_find_69 hl (by decide) rfl (fun ls hl => ?_)
            refine lv_iinc (v := 3) (lv' := [(5, .int 3), (4, .int 0), (3, .int (nI (160 * tj + 8 * i))), (2, .int (nI i)), (1, .int (nI tj)), (0, .ref mo)]) hx hb d_M_find_71 hl (k := 1) rfl (by decide) (by decide) rfl (fun ls hl => ?_)
            refine lv_goto (tgt := 34) hx hb d_M_find_74 (by decide) ?_
            refine lv_iload hx hb d_M_find_34 (lv_at hl 0 rfl) ?_
            refine lv_iconst (v := 4) hx hb d_M_find_36 (by decide) ?_
            refine lv_icmp_ge (tgt := 77) hx hb d_M_find_37 (by decide) (fun c_37 => absurd c_37 (by decide)) (fun c_37 => ?_)
            refine lv_iload hx hb d_M_find_40 (lv_at hl 1 rfl) ?_
            refine lv_if_eq (tgt := 68) hx hb d_M_find_42 (by decide) (fun c_42 => ?_) (fun c_42 => absurd rfl c_42)
            refine lv_iconst (v := 0) hx hb d_M_find_68 (by decide) ?_
            refine lv_istore (lv' := [(4, .int 0), (5, .int 3), (3, .int (nI (160 * tj + 8 * i))), (2, .int (nI i)), (1, .int (nI tj)), (0, .ref mo)]) hx hb d_M_find_69 hl (by decide) rfl (fun ls hl => ?_)
            refine lv_iinc (v := 4) (lv' := [(5, .int 4), (4, .int 0), (3, .int (nI (160 * tj + 8 * i))), (2, .int (nI i)), (1, .int (nI tj)), (0, .ref mo)]) hx hb d_M_find_71 hl (k := 1) rfl (by decide) (by decide) rfl (fun ls hl => ?_)
            refine lv_goto (tgt := 34) hx hb d_M_find_74 (by decide) ?_
            refine lv_iload hx hb d_M_find_34 (lv_at hl 0 rfl) ?_
            refine lv_iconst (v := 4) hx hb d_M_find_36 (by decide) ?_
            refine lv_icmp_ge (tgt := 77) hx hb d_M_find_37 (by decide) (fun c_37 => ?_) (fun c_37 => absurd (by decide) c_37)
            refine lv_iload hx hb d_M_find_77 (lv_at hl 1 rfl) ?_
            refine lv_if_eq (tgt := 84) hx hb d_M_find_79 (by decide) (fun c_79 => ?_) (fun c_79 => absurd rfl c_79)
            refine lv_iinc (v := nI (i + 1)) (lv' := [(2, .int (nI (i + 1))), (5, .int 4), (4, .int 0), (3, .int (nI (160 * tj + 8 * i))), (1, .int (nI tj)), (0, .ref mo)]) hx hb d_M_find_84 hl (k := 3) rfl (nI_1 i) (by decide) rfl (fun ls hl => ?_)
            refine lv_goto (tgt := 7) hx hb d_M_find_87 (by decide) ?_
            exact ih (i + 1) (by omega) (by rw [← hq]; exact (if_pos (q_same_n (Or.inr (Or.inr (Or.inl c_61_9))))).symm) _ _ Y ls (lv_sub hl [0, 4, 5] rfl)
          · refine lv_iconst (v := 1) hx hb d_M_find_64 (by decide) ?_
            refine lv_goto (tgt := 69) hx hb d_M_find_65 (by decide) ?_
            refine lv_istore (lv' := [(4, .int 1), (5, .int 2), (3, .int (nI (160 * tj + 8 * i))), (2, .int (nI i)), (1, .int (nI tj)), (0, .ref mo)]) hx hb d_M_find_69 hl (by decide) rfl (fun ls hl => ?_)
            refine lv_iinc (v := 3) (lv' := [(5, .int 3), (4, .int 1), (3, .int (nI (160 * tj + 8 * i))), (2, .int (nI i)), (1, .int (nI tj)), (0, .ref mo)]) hx hb d_M_find_71 hl (k := 1) rfl (by decide) (by decide) rfl (fun ls hl => ?_)
            refine lv_goto (tgt := 34) hx hb d_M_find_74 (by decide) ?_
            refine lv_iload hx hb d_M_find_34 (lv_at hl 0 rfl) ?_
            refine lv_iconst (v := 4) hx hb d_M_find_36 (by decide) ?_
            refine lv_icmp_ge (tgt := 77) hx hb d_M_find_37 (by decide) (fun c_37 => absurd c_37 (by decide)) (fun c_37 => ?_)
            refine lv_iload hx hb d_M_find_40 (lv_at hl 1 rfl) ?_
            refine lv_if_eq (tgt := 68) hx hb d_M_find_42 (by decide) (fun c_42 => absurd c_42 (by decide)) (fun c_42 => ?_)
            refine lv_aload_n hx hb d_M_find_45 rfl (lv_at hl 5 rfl) ?_
            refine fp_get X Y om rfl in_M 15 (by decide) w616 rfl d_M_find_46 ?_
            refine lv_iload_n hx hb d_M_find_49 rfl (lv_at hl 2 rfl) ?_
            refine lv_iload hx hb d_M_find_50 (lv_at hl 0 rfl) ?_
            refine lv_iadd hx hb d_M_find_52 ?_
            refine fp_ild X Y o_entry (160 * tj + 8 * i + 3) (nI_add (160 * tj + 8 * i) 3) (by omega) (by decide) d_M_find_53 ?_
            refine lv_aload_n hx hb d_M_find_54 rfl (lv_at hl 5 rfl) ?_
            refine fp_get X Y om rfl in_M 17 (by decide) w618 rfl d_M_find_55 ?_
            refine lv_iload hx hb d_M_find_58 (lv_at hl 0 rfl) ?_
            refine fp_ild X Y o_now 3 rfl (by decide) (by decide) d_M_find_60 ?_
            refine lv_icmp_ne (tgt := 68) hx hb d_M_find_61 (by decide) (fun c_61_10 => ?_) (fun c_61_10 => ?_)
            · refine lv_iconst (v := 0) hx hb d_M_find_68 (by decide) ?_
              refine lv_istore (lv' := [(4, .int 0), (5, .int 3), (3, .int (nI (160 * tj + 8 * i))), (2, .int (nI i)), (1, .int (nI tj)), (0, .ref mo)]) hx hb d_M_find_69 hl (by decide) rfl (fun ls hl => ?_)
              refine lv_iinc (v := 4) (lv' := [(5, .int 4), (4, .int 0), (3, .int (nI (160 * tj + 8 * i))), (2, .int (nI i)), (1, .int (nI tj)), (0, .ref mo)]) hx hb d_M_find_71 hl (k := 1) rfl (by decide) (by decide) rfl (fun ls hl => ?_)
              refine lv_goto (tgt := 34) hx hb d_M_find_74 (by decide) ?_
              refine lv_iload hx hb d_M_find_34 (lv_at hl 0 rfl) ?_
              refine lv_iconst (v := 4) hx hb d_M_find_36 (by decide) ?_
              refine lv_icmp_ge (tgt := 77) hx hb d_M_find_37 (by decide) (fun c_37 => ?_) (fun c_37 => absurd (by decide) c_37)
              refine lv_iload hx hb d_M_find_77 (lv_at hl 1 rfl) ?_
              refine lv_if_eq (tgt := 84) hx hb d_M_find_79 (by decide) (fun c_79 => ?_) (fun c_79 => absurd rfl c_79)
              refine lv_iinc (v := nI (i + 1)) (lv' := [(2, .int (nI (i + 1))), (5, .int 4), (4, .int 0), (3, .int (nI (160 * tj + 8 * i))), (1, .int (nI tj)), (0, .ref mo)]) hx hb d_M_find_84 hl (k := 3) rfl (nI_1 i) (by decide) rfl (fun ls hl => ?_)
              refine lv_goto (tgt := 7) hx hb d_M_find_87 (by decide) ?_
              exact ih (i + 1) (by omega) (by rw [← hq]; exact (if_pos (q_same_n (Or.inr (Or.inr (Or.inr c_61_10))))).symm) _ _ Y ls (lv_sub hl [0, 4, 5] rfl)
            · refine lv_iconst (v := 1) hx hb d_M_find_64 (by decide) ?_
              refine lv_goto (tgt := 69) hx hb d_M_find_65 (by decide) ?_
              refine lv_istore (lv' := [(4, .int 1), (5, .int 3), (3, .int (nI (160 * tj + 8 * i))), (2, .int (nI i)), (1, .int (nI tj)), (0, .ref mo)]) hx hb d_M_find_69 hl (by decide) rfl (fun ls hl => ?_)
              refine lv_iinc (v := 4) (lv' := [(5, .int 4), (4, .int 1), (3, .int (nI (160 * tj + 8 * i))), (2, .int (nI i)), (1, .int (nI tj)), (0, .ref mo)]) hx hb d_M_find_71 hl (k := 1) rfl (by decide) (by decide) rfl (fun ls hl => ?_)
              refine lv_goto (tgt := 34) hx hb d_M_find_74 (by decide) ?_
              refine lv_iload hx hb d_M_find_34 (lv_at hl 0 rfl) ?_
              refine lv_iconst (v := 4) hx hb d_M_find_36 (by decide) ?_
              refine lv_icmp_ge (tgt := 77) hx hb d_M_find_37 (by decide) (fun c_37 => ?_) (fun c_37 => absurd (by decide) c_37)
              refine lv_iload hx hb d_M_find_77 (lv_at hl 1 rfl) ?_
              refine lv_if_eq (tgt := 84) hx hb d_M_find_79 (by decide) (fun c_79 => absurd c_79 (by decide)) (fun c_79 => ?_)
              refine lv_iload_n hx hb d_M_find_82 rfl (lv_at hl 3 rfl) ?_
              exact ret _ _ _ _ _ _ d_M_find_83 ⟨_, rfl, rfl⟩ ⟨congrArg (fun z => some (Value.int z)) (by rw [← hq]; exact (if_neg (fun h9 => absurd ((q_same_y c_61 c_61_8 c_61_9 c_61_10).symm.trans h9) (by decide))).symm), rfl⟩ Y
  exact loop cn 0 (by omega) rfl _ _ Y ls (lv_sub hl [0, 2, 1] rfl)
set_option maxHeartbeats 4000000 in
set_option maxRecDepth 100000 in
theorem c_M_prefix {l : Launch} {D : va_G} {g : Nat → ClassId} {b n : Nat} {A : Nat → Prop} {f : Nat → va_E} {mo : Nat} {th nf na nt po dr : Int32} {zq ze : Nat → Int32} {tj ea : Nat} (htj : tj < 8) (hea : ea + 8 ≤ 1280) (om : fp_o b n f mo (ob 8 [.int th, .int nf, .ref (mo + 1), .ref (mo + 2), .int na, .ref (mo + 3), .ref (mo + 4), .ref (mo + 5), .int nt, .ref (mo + 6), .ref (mo + 7), .ref (mo + 8), .ref (mo + 9), .ref (mo + 10), .ref (mo + 11), .ref (mo + 12), .ref (mo + 13), .ref (mo + 14), .int po, .int dr])) (o_how : fp_o b n f (mo + 8) (aI g 8 zq)) (o_entry : fp_o b n f (mo + 12) (aI g 1280 ze))  : fp_M l D (TY g) b n A y_M_prefix (fp_ws y_M_prefix b_M_prefix 3 (some FieldType.int)) (rmD 1) [.ref mo, .int (nI tj), .int (nI ea)] f (fun v f' => v = some (.int (q_pm (zq tj) (ze (ea + 1)) (ze (ea + 3)))) ∧ f' = f) := by
  refine fp_ofI (plainFor_of_name (by decide)) (Nat.le_of_ble_eq_true rfl) ?_
  intro p e s m args below meth c Q ls H locs X Y hl ret
  have hx := X.1.1
  have hb := X.1.2.1
  have hl : lv_has ls 3 [(0, .ref mo), (1, .int (nI tj)), (2, .int (nI ea))] := hl
  refine lv_aload_n hx hb d_M_prefix_0 rfl (lv_at hl 0 rfl) ?_
  refine fp_get X Y om rfl in_M 11 (by decide) w612 rfl d_M_prefix_1 ?_
  refine lv_iload_n hx hb d_M_prefix_4 rfl (lv_at hl 1 rfl) ?_
  refine fp_ild X Y o_how tj rfl (by omega) (by decide) d_M_prefix_5 ?_
  refine lv_iconst (v := 4) hx hb d_M_prefix_6 (by decide) ?_
  refine lv_irem hx hb d_M_prefix_7 (by decide) ?_
  refine lv_iconst (v := 1) hx hb d_M_prefix_8 (by decide) ?_
  refine lv_icmp_ne (tgt := 26) hx hb d_M_prefix_9 (by decide) (fun c_9 => ?_) (fun c_9 => ?_)
  · refine lv_aload_n hx hb d_M_prefix_26 rfl (lv_at hl 0 rfl) ?_
    refine fp_get X Y om rfl in_M 11 (by decide) w612 rfl d_M_prefix_27 ?_
    refine lv_iload_n hx hb d_M_prefix_30 rfl (lv_at hl 1 rfl) ?_
    refine fp_ild X Y o_how tj rfl (by omega) (by decide) d_M_prefix_31 ?_
    refine lv_iconst (v := 4) hx hb d_M_prefix_32 (by decide) ?_
    refine lv_idiv hx hb d_M_prefix_33 (by decide) ?_
    refine lv_iconst (v := 1) hx hb d_M_prefix_34 (by decide) ?_
    refine lv_icmp_ne (tgt := 52) hx hb d_M_prefix_35 (by decide) (fun c_35 => ?_) (fun c_35 => ?_)
    · refine lv_iconst (v := 0) hx hb d_M_prefix_52 (by decide) ?_
      exact ret _ _ _ _ _ _ d_M_prefix_53 ⟨_, rfl, rfl⟩ ⟨by simp only [q_pm, if_neg c_9, if_neg c_35], rfl⟩ Y
    · refine lv_aload_n hx hb d_M_prefix_38 rfl (lv_at hl 0 rfl) ?_
      refine fp_get X Y om rfl in_M 15 (by decide) w616 rfl d_M_prefix_39 ?_
      refine lv_iload_n hx hb d_M_prefix_42 rfl (lv_at hl 2 rfl) ?_
      refine lv_iconst (v := 3) hx hb d_M_prefix_43 (by decide) ?_
      refine lv_iadd hx hb d_M_prefix_44 ?_
      refine fp_ild X Y o_entry (ea + 3) (nI_add ea 3) (by omega) (by decide) d_M_prefix_45 ?_
      refine fp_callS (nA := 1) (As := [.int (ze (ea + 3))]) (rest := []) X Y (c_M_bits (ze (ea + 3))) w747 w745 w746 w9 (by decide +kernel) ⟨rfl, rfl⟩ ⟨Nat.le_of_ble_eq_true rfl, Nat.le_of_ble_eq_true rfl⟩ rfl hl.1 rfl (Nat.le_of_ble_eq_true rfl) d_M_prefix_46 ⟨Nat.zero_le _, Nat.zero_le _⟩ (fun v9 f9 H locs hp9 Y => ?_)
      obtain ⟨e8, e9⟩ := hp9
      subst e8
      rw [e9] at Y
      refine W.eq (g2 := F0 m 49 ls [.int (q_bits (ze (ea + 3)) 32)]) rfl ?_
      refine lv_goto (tgt := 53) hx hb d_M_prefix_49 (by decide) ?_
      exact ret _ _ _ _ _ _ d_M_prefix_53 ⟨_, rfl, rfl⟩ ⟨by simp only [q_pm, if_neg c_9, if_pos c_35], rfl⟩ Y
  · refine lv_aload_n hx hb d_M_prefix_12 rfl (lv_at hl 0 rfl) ?_
    refine fp_get X Y om rfl in_M 15 (by decide) w616 rfl d_M_prefix_13 ?_
    refine lv_iload_n hx hb d_M_prefix_16 rfl (lv_at hl 2 rfl) ?_
    refine lv_iconst (v := 1) hx hb d_M_prefix_17 (by decide) ?_
    refine lv_iadd hx hb d_M_prefix_18 ?_
    refine fp_ild X Y o_entry (ea + 1) (nI_add ea 1) (by omega) (by decide) d_M_prefix_19 ?_
    refine fp_callS (nA := 1) (As := [.int (ze (ea + 1))]) (rest := []) X Y (c_M_bits (ze (ea + 1))) w747 w745 w746 w9 (by decide +kernel) ⟨rfl, rfl⟩ ⟨Nat.le_of_ble_eq_true rfl, Nat.le_of_ble_eq_true rfl⟩ rfl hl.1 rfl (Nat.le_of_ble_eq_true rfl) d_M_prefix_20 ⟨Nat.zero_le _, Nat.zero_le _⟩ (fun v9 f9 H locs hp9 Y => ?_)
    obtain ⟨e8, e9⟩ := hp9
    subst e8
    rw [e9] at Y
    refine W.eq (g2 := F0 m 23 ls [.int (q_bits (ze (ea + 1)) 32)]) rfl ?_
    refine lv_goto (tgt := 53) hx hb d_M_prefix_23 (by decide) ?_
    exact ret _ _ _ _ _ _ d_M_prefix_53 ⟨_, rfl, rfl⟩ ⟨by simp only [q_pm, if_pos c_9], rfl⟩ Y
