/-! Contracts: the reference: unknown, doing, table, clear (by wip/gen/k11.py). -/
theorem q_nt_iff {x k : Int32} : q_nt x k = 0 ↔ ¬ q_in x k = 0 := ⟨fun h q => q_nt_1 q h, q_nt_0⟩
/-- the reference's test of a table's fields and actions, as it stands -/
def q_un (x1 x2 x4 x5 nf na : Int32) : Int32 := if ¬ q_nt x1 nf = 0 then 1 else if ¬ x2 = -1 ∧ ¬ q_nt x2 nf = 0 then 1 else if x1 = x2 then 1 else if ¬ (x4.toUInt32 >>> (na.toUInt32 &&& Int32.toUInt32 31)).toInt32 = 0 then 1 else if ¬ q_nt x5 na = 0 then 1 else if (x4 >>> (x5 &&& 31)) &&& 1 = 0 then 1 else 0
/-- and of the way to match -/
def q_hm (x3 x2 : Int32) : Int32 := if x3 < 0 then 1 else if 10 < x3 then 1 else if x3 - x3 / 4 * 4 = 3 then 1 else if x2 = -1 ∧ 2 < x3 then 1 else if x3 = 5 then 1 else 0
set_option maxHeartbeats 4000000 in
set_option maxRecDepth 100000 in
theorem c_M_unknown {l : Launch} {D : va_G} {g : Nat → ClassId} {b n : Nat} {A : Nat → Prop} {f : Nat → va_E} {mo : Nat} {th nf na nt po dr : Int32} {kj : Nat} (x y z : Int32) (hkj : kj < 9) (om : fp_o b n f mo (ob 8 [.int th, .int nf, .ref (mo + 1), .ref (mo + 2), .int na, .ref (mo + 3), .ref (mo + 4), .ref (mo + 5), .int nt, .ref (mo + 6), .ref (mo + 7), .ref (mo + 8), .ref (mo + 9), .ref (mo + 10), .ref (mo + 11), .ref (mo + 12), .ref (mo + 13), .ref (mo + 14), .int po, .int dr]))  : fp_M l D (TY g) b n A y_M_unknown (fp_ws y_M_unknown b_M_unknown 8 (some FieldType.boolean)) (rmD 1) [.ref mo, .int (nI kj), .int x, .int y, .int z] f (fun v f' => v = some (.int (if q_ops kj x y z nf = 0 then 1 else 0)) ∧ f' = f) := by
  refine fp_ofI (plainFor_of_name (by decide)) (Nat.le_of_ble_eq_true rfl) ?_
  intro p e s m args below meth c Q ls H locs X Y hl ret
  have hx := X.1.1
  have hb := X.1.2.1
  have hl : lv_has ls 8 [(0, .ref mo), (1, .int (nI kj)), (2, .int x), (3, .int y), (4, .int z)] := hl
  rcases (show kj = 0 ∨ kj = 1 ∨ kj = 2 ∨ kj = 3 ∨ kj = 4 ∨ kj = 5 ∨ kj = 6 ∨ kj = 7 ∨ kj = 8 by omega) with h9 | h9 | h9 | h9 | h9 | h9 | h9 | h9 | h9
  · subst h9
    have hl : lv_has ls 8 [(0, .ref mo), (1, .int (nI 0)), (2, .int x), (3, .int y), (4, .int z)] := hl
    refine lv_iload_n hx hb d_M_unknown_0 rfl (lv_at hl 1 rfl) ?_
    refine lv_iconst (v := 4) hx hb d_M_unknown_1 (by decide) ?_
    refine lv_icmp_lt (tgt := 11) hx hb d_M_unknown_2 (by decide) (fun c_2 => ?_) (fun c_2 => absurd (by decide) c_2)
    refine lv_iconst (v := 1) hx hb d_M_unknown_11 (by decide) ?_
    refine lv_goto (tgt := 16) hx hb d_M_unknown_12 (by decide) ?_
    refine lv_istore (lv' := [(5, .int 1), (0, .ref mo), (1, .int (nI 0)), (2, .int x), (3, .int y), (4, .int z)]) hx hb d_M_unknown_16 hl (by decide) rfl (fun ls hl => ?_)
    refine lv_iload_n hx hb d_M_unknown_18 rfl (lv_at hl 2 rfl) ?_
    refine lv_iconst (v := 1) hx hb d_M_unknown_19 (by decide) ?_
    refine lv_icmp_eq (tgt := 34) hx hb d_M_unknown_20 (by decide) (fun c_20 => absurd c_20 (by decide)) (fun c_20 => ?_)
    refine lv_iload_n hx hb d_M_unknown_23 rfl (lv_at hl 2 rfl) ?_
    refine lv_iconst (v := 2) hx hb d_M_unknown_24 (by decide) ?_
    refine lv_icmp_eq (tgt := 34) hx hb d_M_unknown_25 (by decide) (fun c_25 => absurd c_25 (by decide)) (fun c_25 => ?_)
    refine lv_iload_n hx hb d_M_unknown_28 rfl (lv_at hl 2 rfl) ?_
    refine lv_bipush (v := 6) hx hb d_M_unknown_29 (by decide) ?_
    refine lv_icmp_le (tgt := 38) hx hb d_M_unknown_31 (by decide) (fun c_31 => ?_) (fun c_31 => absurd (by decide) c_31)
    refine lv_iconst (v := 0) hx hb d_M_unknown_38 (by decide) ?_
    refine lv_istore (lv' := [(6, .int 0), (5, .int 1), (0, .ref mo), (1, .int (nI 0)), (2, .int x), (3, .int y), (4, .int z)]) hx hb d_M_unknown_39 hl (by decide) rfl (fun ls hl => ?_)
    refine lv_iload_n hx hb d_M_unknown_41 rfl (lv_at hl 3 rfl) ?_
    refine lv_iconst (v := 3) hx hb d_M_unknown_42 (by decide) ?_
    refine lv_icmp_eq (tgt := 51) hx hb d_M_unknown_43 (by decide) (fun c_43 => absurd c_43 (by decide)) (fun c_43 => ?_)
    refine lv_iload_n hx hb d_M_unknown_46 rfl (lv_at hl 3 rfl) ?_
    refine lv_iconst (v := 5) hx hb d_M_unknown_47 (by decide) ?_
    refine lv_icmp_ne (tgt := 55) hx hb d_M_unknown_48 (by decide) (fun c_48 => ?_) (fun c_48 => absurd c_48 (by decide))
    refine lv_iconst (v := 0) hx hb d_M_unknown_55 (by decide) ?_
    refine lv_istore (lv' := [(7, .int 0), (6, .int 0), (5, .int 1), (0, .ref mo), (1, .int (nI 0)), (2, .int x), (3, .int y), (4, .int z)]) hx hb d_M_unknown_56 hl (by decide) rfl (fun ls hl => ?_)
    refine lv_iload hx hb d_M_unknown_58 (lv_at hl 2 rfl) ?_
    refine lv_if_eq (tgt := 74) hx hb d_M_unknown_60 (by decide) (fun c_60 => absurd c_60 (by decide)) (fun c_60 => ?_)
    refine lv_iload_n hx hb d_M_unknown_63 rfl (lv_at hl 5 rfl) ?_
    refine lv_aload_n hx hb d_M_unknown_64 rfl (lv_at hl 3 rfl) ?_
    refine fp_get X Y om rfl in_M 1 (by decide) w602 rfl d_M_unknown_65 ?_
    refine fp_callS (nA := 2) (As := [.int x, .int nf]) (rest := []) X Y (c_M_not x nf) w680 w678 w679 w9 (by decide +kernel) ⟨rfl, rfl⟩ ⟨Nat.le_of_ble_eq_true rfl, Nat.le_of_ble_eq_true rfl⟩ rfl hl.1 rfl (Nat.le_of_ble_eq_true rfl) d_M_unknown_68 ⟨Nat.zero_le _, Nat.zero_le _⟩ (fun v9 f9 H locs hp9 Y => ?_)
    obtain ⟨e8, e9⟩ := hp9
    subst e8
    rw [e9] at Y
    refine W.eq (g2 := F0 m 71 ls [.int (q_nt x nf)]) rfl ?_
    refine lv_if_ne (tgt := 103) hx hb d_M_unknown_71 (by decide) (fun c_71 => ?_) (fun c_71 => ?_)
    · refine lv_iconst (v := 1) hx hb d_M_unknown_103 (by decide) ?_
      exact ret _ _ _ _ _ _ d_M_unknown_104 ⟨_, rfl, rfl⟩ ⟨by simp only [q_nt_iff] at c_71; simp [q_ops, c_71], rfl⟩ Y
    · refine lv_iload hx hb d_M_unknown_74 (lv_at hl 1 rfl) ?_
      refine lv_if_eq (tgt := 90) hx hb d_M_unknown_76 (by decide) (fun c_76 => ?_) (fun c_76 => absurd (by decide) c_76)
      refine lv_iload hx hb d_M_unknown_90 (lv_at hl 0 rfl) ?_
      refine lv_if_eq (tgt := 105) hx hb d_M_unknown_92 (by decide) (fun c_92 => ?_) (fun c_92 => absurd (by decide) c_92)
      refine lv_iload_n hx hb d_M_unknown_105 rfl (lv_at hl 4 rfl) ?_
      refine lv_bipush (v := 7) hx hb d_M_unknown_106 (by decide) ?_
      refine lv_icmp_ne (tgt := 119) hx hb d_M_unknown_108 (by decide) (fun c_108 => ?_) (fun c_108 => absurd c_108 (by decide))
      refine lv_iload_n hx hb d_M_unknown_119 rfl (lv_at hl 4 rfl) ?_
      refine lv_bipush (v := 8) hx hb d_M_unknown_120 (by decide) ?_
      refine lv_icmp_ne (tgt := 138) hx hb d_M_unknown_122 (by decide) (fun c_122 => ?_) (fun c_122 => absurd c_122 (by decide))
      refine lv_iconst (v := 0) hx hb d_M_unknown_138 (by decide) ?_
      exact ret _ _ _ _ _ _ d_M_unknown_139 ⟨_, rfl, rfl⟩ ⟨by simp only [q_nt_iff] at c_71; simp [q_ops, c_71], rfl⟩ Y
  · subst h9
    have hl : lv_has ls 8 [(0, .ref mo), (1, .int (nI 1)), (2, .int x), (3, .int y), (4, .int z)] := hl
    refine lv_iload_n hx hb d_M_unknown_0 rfl (lv_at hl 1 rfl) ?_
    refine lv_iconst (v := 4) hx hb d_M_unknown_1 (by decide) ?_
    refine lv_icmp_lt (tgt := 11) hx hb d_M_unknown_2 (by decide) (fun c_2 => ?_) (fun c_2 => absurd (by decide) c_2)
    refine lv_iconst (v := 1) hx hb d_M_unknown_11 (by decide) ?_
    refine lv_goto (tgt := 16) hx hb d_M_unknown_12 (by decide) ?_
    refine lv_istore (lv' := [(5, .int 1), (0, .ref mo), (1, .int (nI 1)), (2, .int x), (3, .int y), (4, .int z)]) hx hb d_M_unknown_16 hl (by decide) rfl (fun ls hl => ?_)
    refine lv_iload_n hx hb d_M_unknown_18 rfl (lv_at hl 2 rfl) ?_
    refine lv_iconst (v := 1) hx hb d_M_unknown_19 (by decide) ?_
    refine lv_icmp_eq (tgt := 34) hx hb d_M_unknown_20 (by decide) (fun c_20 => ?_) (fun c_20 => absurd (by decide) c_20)
    refine lv_iconst (v := 1) hx hb d_M_unknown_34 (by decide) ?_
    refine lv_goto (tgt := 39) hx hb d_M_unknown_35 (by decide) ?_
    refine lv_istore (lv' := [(6, .int 1), (5, .int 1), (0, .ref mo), (1, .int (nI 1)), (2, .int x), (3, .int y), (4, .int z)]) hx hb d_M_unknown_39 hl (by decide) rfl (fun ls hl => ?_)
    refine lv_iload_n hx hb d_M_unknown_41 rfl (lv_at hl 3 rfl) ?_
    refine lv_iconst (v := 3) hx hb d_M_unknown_42 (by decide) ?_
    refine lv_icmp_eq (tgt := 51) hx hb d_M_unknown_43 (by decide) (fun c_43 => absurd c_43 (by decide)) (fun c_43 => ?_)
    refine lv_iload_n hx hb d_M_unknown_46 rfl (lv_at hl 3 rfl) ?_
    refine lv_iconst (v := 5) hx hb d_M_unknown_47 (by decide) ?_
    refine lv_icmp_ne (tgt := 55) hx hb d_M_unknown_48 (by decide) (fun c_48 => ?_) (fun c_48 => absurd c_48 (by decide))
    refine lv_iconst (v := 0) hx hb d_M_unknown_55 (by decide) ?_
    refine lv_istore (lv' := [(7, .int 0), (6, .int 1), (5, .int 1), (0, .ref mo), (1, .int (nI 1)), (2, .int x), (3, .int y), (4, .int z)]) hx hb d_M_unknown_56 hl (by decide) rfl (fun ls hl => ?_)
    refine lv_iload hx hb d_M_unknown_58 (lv_at hl 2 rfl) ?_
    refine lv_if_eq (tgt := 74) hx hb d_M_unknown_60 (by decide) (fun c_60 => absurd c_60 (by decide)) (fun c_60 => ?_)
    refine lv_iload_n hx hb d_M_unknown_63 rfl (lv_at hl 5 rfl) ?_
    refine lv_aload_n hx hb d_M_unknown_64 rfl (lv_at hl 3 rfl) ?_
    refine fp_get X Y om rfl in_M 1 (by decide) w602 rfl d_M_unknown_65 ?_
    refine fp_callS (nA := 2) (As := [.int x, .int nf]) (rest := []) X Y (c_M_not x nf) w680 w678 w679 w9 (by decide +kernel) ⟨rfl, rfl⟩ ⟨Nat.le_of_ble_eq_true rfl, Nat.le_of_ble_eq_true rfl⟩ rfl hl.1 rfl (Nat.le_of_ble_eq_true rfl) d_M_unknown_68 ⟨Nat.zero_le _, Nat.zero_le _⟩ (fun v9 f9 H locs hp9 Y => ?_)
    obtain ⟨e8, e9⟩ := hp9
    subst e8
    rw [e9] at Y
    refine W.eq (g2 := F0 m 71 ls [.int (q_nt x nf)]) rfl ?_
    refine lv_if_ne (tgt := 103) hx hb d_M_unknown_71 (by decide) (fun c_71 => ?_) (fun c_71 => ?_)
    · refine lv_iconst (v := 1) hx hb d_M_unknown_103 (by decide) ?_
      exact ret _ _ _ _ _ _ d_M_unknown_104 ⟨_, rfl, rfl⟩ ⟨by simp only [q_nt_iff] at c_71; simp [q_ops, c_71], rfl⟩ Y
    · refine lv_iload hx hb d_M_unknown_74 (lv_at hl 1 rfl) ?_
      refine lv_if_eq (tgt := 90) hx hb d_M_unknown_76 (by decide) (fun c_76 => absurd c_76 (by decide)) (fun c_76 => ?_)
      refine lv_iload_n hx hb d_M_unknown_79 rfl (lv_at hl 6 rfl) ?_
      refine lv_aload_n hx hb d_M_unknown_80 rfl (lv_at hl 3 rfl) ?_
      refine fp_get X Y om rfl in_M 1 (by decide) w602 rfl d_M_unknown_81 ?_
      refine fp_callS (nA := 2) (As := [.int y, .int nf]) (rest := []) X Y (c_M_not y nf) w680 w678 w679 w9 (by decide +kernel) ⟨rfl, rfl⟩ ⟨Nat.le_of_ble_eq_true rfl, Nat.le_of_ble_eq_true rfl⟩ rfl hl.1 rfl (Nat.le_of_ble_eq_true rfl) d_M_unknown_84 ⟨Nat.zero_le _, Nat.zero_le _⟩ (fun v9 f9 H locs hp9 Y => ?_)
      obtain ⟨e8, e9⟩ := hp9
      subst e8
      rw [e9] at Y
      refine W.eq (g2 := F0 m 87 ls [.int (q_nt y nf)]) rfl ?_
      refine lv_if_ne (tgt := 103) hx hb d_M_unknown_87 (by decide) (fun c_87 => ?_) (fun c_87 => ?_)
      · refine lv_iconst (v := 1) hx hb d_M_unknown_103 (by decide) ?_
        exact ret _ _ _ _ _ _ d_M_unknown_104 ⟨_, rfl, rfl⟩ ⟨by simp only [q_nt_iff] at c_71 c_87; simp [q_ops, c_71, c_87], rfl⟩ Y
      · refine lv_iload hx hb d_M_unknown_90 (lv_at hl 0 rfl) ?_
        refine lv_if_eq (tgt := 105) hx hb d_M_unknown_92 (by decide) (fun c_92 => ?_) (fun c_92 => absurd (by decide) c_92)
        refine lv_iload_n hx hb d_M_unknown_105 rfl (lv_at hl 4 rfl) ?_
        refine lv_bipush (v := 7) hx hb d_M_unknown_106 (by decide) ?_
        refine lv_icmp_ne (tgt := 119) hx hb d_M_unknown_108 (by decide) (fun c_108 => ?_) (fun c_108 => absurd c_108 (by decide))
        refine lv_iload_n hx hb d_M_unknown_119 rfl (lv_at hl 4 rfl) ?_
        refine lv_bipush (v := 8) hx hb d_M_unknown_120 (by decide) ?_
        refine lv_icmp_ne (tgt := 138) hx hb d_M_unknown_122 (by decide) (fun c_122 => ?_) (fun c_122 => absurd c_122 (by decide))
        refine lv_iconst (v := 0) hx hb d_M_unknown_138 (by decide) ?_
        exact ret _ _ _ _ _ _ d_M_unknown_139 ⟨_, rfl, rfl⟩ ⟨by simp only [q_nt_iff] at c_71 c_87; simp [q_ops, c_71, c_87], rfl⟩ Y
  · subst h9
    have hl : lv_has ls 8 [(0, .ref mo), (1, .int (nI 2)), (2, .int x), (3, .int y), (4, .int z)] := hl
    refine lv_iload_n hx hb d_M_unknown_0 rfl (lv_at hl 1 rfl) ?_
    refine lv_iconst (v := 4) hx hb d_M_unknown_1 (by decide) ?_
    refine lv_icmp_lt (tgt := 11) hx hb d_M_unknown_2 (by decide) (fun c_2 => ?_) (fun c_2 => absurd (by decide) c_2)
    refine lv_iconst (v := 1) hx hb d_M_unknown_11 (by decide) ?_
    refine lv_goto (tgt := 16) hx hb d_M_unknown_12 (by decide) ?_
    refine lv_istore (lv' := [(5, .int 1), (0, .ref mo), (1, .int (nI 2)), (2, .int x), (3, .int y), (4, .int z)]) hx hb d_M_unknown_16 hl (by decide) rfl (fun ls hl => ?_)
    refine lv_iload_n hx hb d_M_unknown_18 rfl (lv_at hl 2 rfl) ?_
    refine lv_iconst (v := 1) hx hb d_M_unknown_19 (by decide) ?_
    refine lv_icmp_eq (tgt := 34) hx hb d_M_unknown_20 (by decide) (fun c_20 => absurd c_20 (by decide)) (fun c_20 => ?_)
    refine lv_iload_n hx hb d_M_unknown_23 rfl (lv_at hl 2 rfl) ?_
    refine lv_iconst (v := 2) hx hb d_M_unknown_24 (by decide) ?_
    refine lv_icmp_eq (tgt := 34) hx hb d_M_unknown_25 (by decide) (fun c_25 => ?_) (fun c_25 => absurd (by decide) c_25)
    refine lv_iconst (v := 1) hx hb d_M_unknown_34 (by decide) ?_
    refine lv_goto (tgt := 39) hx hb d_M_unknown_35 (by decide) ?_
    refine lv_istore (lv' := [(6, .int 1), (5, .int 1), (0, .ref mo), (1, .int (nI 2)), (2, .int x), (3, .int y), (4, .int z)]) hx hb d_M_unknown_39 hl (by decide) rfl (fun ls hl => ?_)
    refine lv_iload_n hx hb d_M_unknown_41 rfl (lv_at hl 3 rfl) ?_
    refine lv_iconst (v := 3) hx hb d_M_unknown_42 (by decide) ?_
    refine lv_icmp_eq (tgt := 51) hx hb d_M_unknown_43 (by decide) (fun c_43 => absurd c_43 (by decide)) (fun c_43 => ?_)
    refine lv_iload_n hx hb d_M_unknown_46 rfl (lv_at hl 3 rfl) ?_
    refine lv_iconst (v := 5) hx hb d_M_unknown_47 (by decide) ?_
    refine lv_icmp_ne (tgt := 55) hx hb d_M_unknown_48 (by decide) (fun c_48 => ?_) (fun c_48 => absurd c_48 (by decide))
    refine lv_iconst (v := 0) hx hb d_M_unknown_55 (by decide) ?_
    refine lv_istore (lv' := [(7, .int 0), (6, .int 1), (5, .int 1), (0, .ref mo), (1, .int (nI 2)), (2, .int x), (3, .int y), (4, .int z)]) hx hb d_M_unknown_56 hl (by decide) rfl (fun ls hl => ?_)
    refine lv_iload hx hb d_M_unknown_58 (lv_at hl 2 rfl) ?_
    refine lv_if_eq (tgt := 74) hx hb d_M_unknown_60 (by decide) (fun c_60 => absurd c_60 (by decide)) (fun c_60 => ?_)
    refine lv_iload_n hx hb d_M_unknown_63 rfl (lv_at hl 5 rfl) ?_
    refine lv_aload_n hx hb d_M_unknown_64 rfl (lv_at hl 3 rfl) ?_
    refine fp_get X Y om rfl in_M 1 (by decide) w602 rfl d_M_unknown_65 ?_
    refine fp_callS (nA := 2) (As := [.int x, .int nf]) (rest := []) X Y (c_M_not x nf) w680 w678 w679 w9 (by decide +kernel) ⟨rfl, rfl⟩ ⟨Nat.le_of_ble_eq_true rfl, Nat.le_of_ble_eq_true rfl⟩ rfl hl.1 rfl (Nat.le_of_ble_eq_true rfl) d_M_unknown_68 ⟨Nat.zero_le _, Nat.zero_le _⟩ (fun v9 f9 H locs hp9 Y => ?_)
    obtain ⟨e8, e9⟩ := hp9
    subst e8
    rw [e9] at Y
    refine W.eq (g2 := F0 m 71 ls [.int (q_nt x nf)]) rfl ?_
    refine lv_if_ne (tgt := 103) hx hb d_M_unknown_71 (by decide) (fun c_71 => ?_) (fun c_71 => ?_)
    · refine lv_iconst (v := 1) hx hb d_M_unknown_103 (by decide) ?_
      exact ret _ _ _ _ _ _ d_M_unknown_104 ⟨_, rfl, rfl⟩ ⟨by simp only [q_nt_iff] at c_71; simp [q_ops, c_71], rfl⟩ Y
    · refine lv_iload hx hb d_M_unknown_74 (lv_at hl 1 rfl) ?_
      refine lv_if_eq (tgt := 90) hx hb d_M_unknown_76 (by decide) (fun c_76 => absurd c_76 (by decide)) (fun c_76 => ?_)
      refine lv_iload_n hx hb d_M_unknown_79 rfl (lv_at hl 6 rfl) ?_
      refine lv_aload_n hx hb d_M_unknown_80 rfl (lv_at hl 3 rfl) ?_
      refine fp_get X Y om rfl in_M 1 (by decide) w602 rfl d_M_unknown_81 ?_
      refine fp_callS (nA := 2) (As := [.int y, .int nf]) (rest := []) X Y (c_M_not y nf) w680 w678 w679 w9 (by decide +kernel) ⟨rfl, rfl⟩ ⟨Nat.le_of_ble_eq_true rfl, Nat.le_of_ble_eq_true rfl⟩ rfl hl.1 rfl (Nat.le_of_ble_eq_true rfl) d_M_unknown_84 ⟨Nat.zero_le _, Nat.zero_le _⟩ (fun v9 f9 H locs hp9 Y => ?_)
      obtain ⟨e8, e9⟩ := hp9
      subst e8
      rw [e9] at Y
      refine W.eq (g2 := F0 m 87 ls [.int (q_nt y nf)]) rfl ?_
      refine lv_if_ne (tgt := 103) hx hb d_M_unknown_87 (by decide) (fun c_87 => ?_) (fun c_87 => ?_)
      · refine lv_iconst (v := 1) hx hb d_M_unknown_103 (by decide) ?_
        exact ret _ _ _ _ _ _ d_M_unknown_104 ⟨_, rfl, rfl⟩ ⟨by simp only [q_nt_iff] at c_71 c_87; simp [q_ops, c_71, c_87], rfl⟩ Y
      · refine lv_iload hx hb d_M_unknown_90 (lv_at hl 0 rfl) ?_
        refine lv_if_eq (tgt := 105) hx hb d_M_unknown_92 (by decide) (fun c_92 => ?_) (fun c_92 => absurd (by decide) c_92)
        refine lv_iload_n hx hb d_M_unknown_105 rfl (lv_at hl 4 rfl) ?_
        refine lv_bipush (v := 7) hx hb d_M_unknown_106 (by decide) ?_
        refine lv_icmp_ne (tgt := 119) hx hb d_M_unknown_108 (by decide) (fun c_108 => ?_) (fun c_108 => absurd c_108 (by decide))
        refine lv_iload_n hx hb d_M_unknown_119 rfl (lv_at hl 4 rfl) ?_
        refine lv_bipush (v := 8) hx hb d_M_unknown_120 (by decide) ?_
        refine lv_icmp_ne (tgt := 138) hx hb d_M_unknown_122 (by decide) (fun c_122 => ?_) (fun c_122 => absurd c_122 (by decide))
        refine lv_iconst (v := 0) hx hb d_M_unknown_138 (by decide) ?_
        exact ret _ _ _ _ _ _ d_M_unknown_139 ⟨_, rfl, rfl⟩ ⟨by simp only [q_nt_iff] at c_71 c_87; simp [q_ops, c_71, c_87], rfl⟩ Y
  · subst h9
    have hl : lv_has ls 8 [(0, .ref mo), (1, .int (nI 3)), (2, .int x), (3, .int y), (4, .int z)] := hl
    refine lv_iload_n hx hb d_M_unknown_0 rfl (lv_at hl 1 rfl) ?_
    refine lv_iconst (v := 4) hx hb d_M_unknown_1 (by decide) ?_
    refine lv_icmp_lt (tgt := 11) hx hb d_M_unknown_2 (by decide) (fun c_2 => ?_) (fun c_2 => absurd (by decide) c_2)
    refine lv_iconst (v := 1) hx hb d_M_unknown_11 (by decide) ?_
    refine lv_goto (tgt := 16) hx hb d_M_unknown_12 (by decide) ?_
    refine lv_istore (lv' := [(5, .int 1), (0, .ref mo), (1, .int (nI 3)), (2, .int x), (3, .int y), (4, .int z)]) hx hb d_M_unknown_16 hl (by decide) rfl (fun ls hl => ?_)
    refine lv_iload_n hx hb d_M_unknown_18 rfl (lv_at hl 2 rfl) ?_
    refine lv_iconst (v := 1) hx hb d_M_unknown_19 (by decide) ?_
    refine lv_icmp_eq (tgt := 34) hx hb d_M_unknown_20 (by decide) (fun c_20 => absurd c_20 (by decide)) (fun c_20 => ?_)
    refine lv_iload_n hx hb d_M_unknown_23 rfl (lv_at hl 2 rfl) ?_
    refine lv_iconst (v := 2) hx hb d_M_unknown_24 (by decide) ?_
    refine lv_icmp_eq (tgt := 34) hx hb d_M_unknown_25 (by decide) (fun c_25 => absurd c_25 (by decide)) (fun c_25 => ?_)
    refine lv_iload_n hx hb d_M_unknown_28 rfl (lv_at hl 2 rfl) ?_
    refine lv_bipush (v := 6) hx hb d_M_unknown_29 (by decide) ?_
    refine lv_icmp_le (tgt := 38) hx hb d_M_unknown_31 (by decide) (fun c_31 => ?_) (fun c_31 => absurd (by decide) c_31)
    refine lv_iconst (v := 0) hx hb d_M_unknown_38 (by decide) ?_
    refine lv_istore (lv' := [(6, .int 0), (5, .int 1), (0, .ref mo), (1, .int (nI 3)), (2, .int x), (3, .int y), (4, .int z)]) hx hb d_M_unknown_39 hl (by decide) rfl (fun ls hl => ?_)
    refine lv_iload_n hx hb d_M_unknown_41 rfl (lv_at hl 3 rfl) ?_
    refine lv_iconst (v := 3) hx hb d_M_unknown_42 (by decide) ?_
    refine lv_icmp_eq (tgt := 51) hx hb d_M_unknown_43 (by decide) (fun c_43 => ?_) (fun c_43 => absurd (by decide) c_43)
    refine lv_iconst (v := 1) hx hb d_M_unknown_51 (by decide) ?_
    refine lv_goto (tgt := 56) hx hb d_M_unknown_52 (by decide) ?_
    refine lv_istore (lv' := [(7, .int 1), (6, .int 0), (5, .int 1), (0, .ref mo), (1, .int (nI 3)), (2, .int x), (3, .int y), (4, .int z)]) hx hb d_M_unknown_56 hl (by decide) rfl (fun ls hl => ?_)
    refine lv_iload hx hb d_M_unknown_58 (lv_at hl 2 rfl) ?_
    refine lv_if_eq (tgt := 74) hx hb d_M_unknown_60 (by decide) (fun c_60 => absurd c_60 (by decide)) (fun c_60 => ?_)
    refine lv_iload_n hx hb d_M_unknown_63 rfl (lv_at hl 5 rfl) ?_
    refine lv_aload_n hx hb d_M_unknown_64 rfl (lv_at hl 3 rfl) ?_
    refine fp_get X Y om rfl in_M 1 (by decide) w602 rfl d_M_unknown_65 ?_
    refine fp_callS (nA := 2) (As := [.int x, .int nf]) (rest := []) X Y (c_M_not x nf) w680 w678 w679 w9 (by decide +kernel) ⟨rfl, rfl⟩ ⟨Nat.le_of_ble_eq_true rfl, Nat.le_of_ble_eq_true rfl⟩ rfl hl.1 rfl (Nat.le_of_ble_eq_true rfl) d_M_unknown_68 ⟨Nat.zero_le _, Nat.zero_le _⟩ (fun v9 f9 H locs hp9 Y => ?_)
    obtain ⟨e8, e9⟩ := hp9
    subst e8
    rw [e9] at Y
    refine W.eq (g2 := F0 m 71 ls [.int (q_nt x nf)]) rfl ?_
    refine lv_if_ne (tgt := 103) hx hb d_M_unknown_71 (by decide) (fun c_71 => ?_) (fun c_71 => ?_)
    · refine lv_iconst (v := 1) hx hb d_M_unknown_103 (by decide) ?_
      exact ret _ _ _ _ _ _ d_M_unknown_104 ⟨_, rfl, rfl⟩ ⟨by simp only [q_nt_iff] at c_71; simp [q_ops, c_71], rfl⟩ Y
    · refine lv_iload hx hb d_M_unknown_74 (lv_at hl 1 rfl) ?_
      refine lv_if_eq (tgt := 90) hx hb d_M_unknown_76 (by decide) (fun c_76 => ?_) (fun c_76 => absurd (by decide) c_76)
      refine lv_iload hx hb d_M_unknown_90 (lv_at hl 0 rfl) ?_
      refine lv_if_eq (tgt := 105) hx hb d_M_unknown_92 (by decide) (fun c_92 => absurd c_92 (by decide)) (fun c_92 => ?_)
      refine lv_iload_n hx hb d_M_unknown_95 rfl (lv_at hl 6 rfl) ?_
      refine lv_iconst (v := 2) hx hb d_M_unknown_96 (by decide) ?_
      refine fp_callS (nA := 2) (As := [.int y, .int 2]) (rest := []) X Y (c_M_not y 2) w680 w678 w679 w9 (by decide +kernel) ⟨rfl, rfl⟩ ⟨Nat.le_of_ble_eq_true rfl, Nat.le_of_ble_eq_true rfl⟩ rfl hl.1 rfl (Nat.le_of_ble_eq_true rfl) d_M_unknown_97 ⟨Nat.zero_le _, Nat.zero_le _⟩ (fun v9 f9 H locs hp9 Y => ?_)
      obtain ⟨e8, e9⟩ := hp9
      subst e8
      rw [e9] at Y
      refine W.eq (g2 := F0 m 100 ls [.int (q_nt y 2)]) rfl ?_
      refine lv_if_eq (tgt := 105) hx hb d_M_unknown_100 (by decide) (fun c_100 => ?_) (fun c_100 => ?_)
      · refine lv_iload_n hx hb d_M_unknown_105 rfl (lv_at hl 4 rfl) ?_
        refine lv_bipush (v := 7) hx hb d_M_unknown_106 (by decide) ?_
        refine lv_icmp_ne (tgt := 119) hx hb d_M_unknown_108 (by decide) (fun c_108 => ?_) (fun c_108 => absurd c_108 (by decide))
        refine lv_iload_n hx hb d_M_unknown_119 rfl (lv_at hl 4 rfl) ?_
        refine lv_bipush (v := 8) hx hb d_M_unknown_120 (by decide) ?_
        refine lv_icmp_ne (tgt := 138) hx hb d_M_unknown_122 (by decide) (fun c_122 => ?_) (fun c_122 => absurd c_122 (by decide))
        refine lv_iconst (v := 0) hx hb d_M_unknown_138 (by decide) ?_
        exact ret _ _ _ _ _ _ d_M_unknown_139 ⟨_, rfl, rfl⟩ ⟨by simp only [q_nt_iff] at c_71 c_100; simp [q_ops, c_71, c_100], rfl⟩ Y
      · refine lv_iconst (v := 1) hx hb d_M_unknown_103 (by decide) ?_
        exact ret _ _ _ _ _ _ d_M_unknown_104 ⟨_, rfl, rfl⟩ ⟨by simp only [q_nt_iff] at c_71 c_100; simp [q_ops, c_71, c_100], rfl⟩ Y
  · subst h9
    have hl : lv_has ls 8 [(0, .ref mo), (1, .int (nI 4)), (2, .int x), (3, .int y), (4, .int z)] := hl
    refine lv_iload_n hx hb d_M_unknown_0 rfl (lv_at hl 1 rfl) ?_
    refine lv_iconst (v := 4) hx hb d_M_unknown_1 (by decide) ?_
    refine lv_icmp_lt (tgt := 11) hx hb d_M_unknown_2 (by decide) (fun c_2 => absurd c_2 (by decide)) (fun c_2 => ?_)
    refine lv_iload_n hx hb d_M_unknown_5 rfl (lv_at hl 1 rfl) ?_
    refine lv_bipush (v := 8) hx hb d_M_unknown_6 (by decide) ?_
    refine lv_icmp_ne (tgt := 15) hx hb d_M_unknown_8 (by decide) (fun c_8 => ?_) (fun c_8 => absurd c_8 (by decide))
    refine lv_iconst (v := 0) hx hb d_M_unknown_15 (by decide) ?_
    refine lv_istore (lv' := [(5, .int 0), (0, .ref mo), (1, .int (nI 4)), (2, .int x), (3, .int y), (4, .int z)]) hx hb d_M_unknown_16 hl (by decide) rfl (fun ls hl => ?_)
    refine lv_iload_n hx hb d_M_unknown_18 rfl (lv_at hl 2 rfl) ?_
    refine lv_iconst (v := 1) hx hb d_M_unknown_19 (by decide) ?_
    refine lv_icmp_eq (tgt := 34) hx hb d_M_unknown_20 (by decide) (fun c_20 => absurd c_20 (by decide)) (fun c_20 => ?_)
    refine lv_iload_n hx hb d_M_unknown_23 rfl (lv_at hl 2 rfl) ?_
    refine lv_iconst (v := 2) hx hb d_M_unknown_24 (by decide) ?_
    refine lv_icmp_eq (tgt := 34) hx hb d_M_unknown_25 (by decide) (fun c_25 => absurd c_25 (by decide)) (fun c_25 => ?_)
    refine lv_iload_n hx hb d_M_unknown_28 rfl (lv_at hl 2 rfl) ?_
    refine lv_bipush (v := 6) hx hb d_M_unknown_29 (by decide) ?_
    refine lv_icmp_le (tgt := 38) hx hb d_M_unknown_31 (by decide) (fun c_31 => ?_) (fun c_31 => absurd (by decide) c_31)
    refine lv_iconst (v := 0) hx hb d_M_unknown_38 (by decide) ?_
    refine lv_istore (lv' := [(6, .int 0), (5, .int 0), (0, .ref mo), (1, .int (nI 4)), (2, .int x), (3, .int y), (4, .int z)]) hx hb d_M_unknown_39 hl (by decide) rfl (fun ls hl => ?_)
    refine lv_iload_n hx hb d_M_unknown_41 rfl (lv_at hl 3 rfl) ?_
    refine lv_iconst (v := 3) hx hb d_M_unknown_42 (by decide) ?_
    refine lv_icmp_eq (tgt := 51) hx hb d_M_unknown_43 (by decide) (fun c_43 => absurd c_43 (by decide)) (fun c_43 => ?_)
    refine lv_iload_n hx hb d_M_unknown_46 rfl (lv_at hl 3 rfl) ?_
    refine lv_iconst (v := 5) hx hb d_M_unknown_47 (by decide) ?_
    refine lv_icmp_ne (tgt := 55) hx hb d_M_unknown_48 (by decide) (fun c_48 => ?_) (fun c_48 => absurd c_48 (by decide))
    refine lv_iconst (v := 0) hx hb d_M_unknown_55 (by decide) ?_
    refine lv_istore (lv' := [(7, .int 0), (6, .int 0), (5, .int 0), (0, .ref mo), (1, .int (nI 4)), (2, .int x), (3, .int y), (4, .int z)]) hx hb d_M_unknown_56 hl (by decide) rfl (fun ls hl => ?_)
    refine lv_iload hx hb d_M_unknown_58 (lv_at hl 2 rfl) ?_
    refine lv_if_eq (tgt := 74) hx hb d_M_unknown_60 (by decide) (fun c_60 => ?_) (fun c_60 => absurd (by decide) c_60)
    refine lv_iload hx hb d_M_unknown_74 (lv_at hl 1 rfl) ?_
    refine lv_if_eq (tgt := 90) hx hb d_M_unknown_76 (by decide) (fun c_76 => ?_) (fun c_76 => absurd (by decide) c_76)
    refine lv_iload hx hb d_M_unknown_90 (lv_at hl 0 rfl) ?_
    refine lv_if_eq (tgt := 105) hx hb d_M_unknown_92 (by decide) (fun c_92 => ?_) (fun c_92 => absurd (by decide) c_92)
    refine lv_iload_n hx hb d_M_unknown_105 rfl (lv_at hl 4 rfl) ?_
    refine lv_bipush (v := 7) hx hb d_M_unknown_106 (by decide) ?_
    refine lv_icmp_ne (tgt := 119) hx hb d_M_unknown_108 (by decide) (fun c_108 => ?_) (fun c_108 => absurd c_108 (by decide))
    refine lv_iload_n hx hb d_M_unknown_119 rfl (lv_at hl 4 rfl) ?_
    refine lv_bipush (v := 8) hx hb d_M_unknown_120 (by decide) ?_
    refine lv_icmp_ne (tgt := 138) hx hb d_M_unknown_122 (by decide) (fun c_122 => ?_) (fun c_122 => absurd c_122 (by decide))
    refine lv_iconst (v := 0) hx hb d_M_unknown_138 (by decide) ?_
    exact ret _ _ _ _ _ _ d_M_unknown_139 ⟨_, rfl, rfl⟩ ⟨by simp [q_ops], rfl⟩ Y
  · subst h9
    have hl : lv_has ls 8 [(0, .ref mo), (1, .int (nI 5)), (2, .int x), (3, .int y), (4, .int z)] := hl
    refine lv_iload_n hx hb d_M_unknown_0 rfl (lv_at hl 1 rfl) ?_
    refine lv_iconst (v := 4) hx hb d_M_unknown_1 (by decide) ?_
    refine lv_icmp_lt (tgt := 11) hx hb d_M_unknown_2 (by decide) (fun c_2 => absurd c_2 (by decide)) (fun c_2 => ?_)
    refine lv_iload_n hx hb d_M_unknown_5 rfl (lv_at hl 1 rfl) ?_
    refine lv_bipush (v := 8) hx hb d_M_unknown_6 (by decide) ?_
    refine lv_icmp_ne (tgt := 15) hx hb d_M_unknown_8 (by decide) (fun c_8 => ?_) (fun c_8 => absurd c_8 (by decide))
    refine lv_iconst (v := 0) hx hb d_M_unknown_15 (by decide) ?_
    refine lv_istore (lv' := [(5, .int 0), (0, .ref mo), (1, .int (nI 5)), (2, .int x), (3, .int y), (4, .int z)]) hx hb d_M_unknown_16 hl (by decide) rfl (fun ls hl => ?_)
    refine lv_iload_n hx hb d_M_unknown_18 rfl (lv_at hl 2 rfl) ?_
    refine lv_iconst (v := 1) hx hb d_M_unknown_19 (by decide) ?_
    refine lv_icmp_eq (tgt := 34) hx hb d_M_unknown_20 (by decide) (fun c_20 => absurd c_20 (by decide)) (fun c_20 => ?_)
    refine lv_iload_n hx hb d_M_unknown_23 rfl (lv_at hl 2 rfl) ?_
    refine lv_iconst (v := 2) hx hb d_M_unknown_24 (by decide) ?_
    refine lv_icmp_eq (tgt := 34) hx hb d_M_unknown_25 (by decide) (fun c_25 => absurd c_25 (by decide)) (fun c_25 => ?_)
    refine lv_iload_n hx hb d_M_unknown_28 rfl (lv_at hl 2 rfl) ?_
    refine lv_bipush (v := 6) hx hb d_M_unknown_29 (by decide) ?_
    refine lv_icmp_le (tgt := 38) hx hb d_M_unknown_31 (by decide) (fun c_31 => ?_) (fun c_31 => absurd (by decide) c_31)
    refine lv_iconst (v := 0) hx hb d_M_unknown_38 (by decide) ?_
    refine lv_istore (lv' := [(6, .int 0), (5, .int 0), (0, .ref mo), (1, .int (nI 5)), (2, .int x), (3, .int y), (4, .int z)]) hx hb d_M_unknown_39 hl (by decide) rfl (fun ls hl => ?_)
    refine lv_iload_n hx hb d_M_unknown_41 rfl (lv_at hl 3 rfl) ?_
    refine lv_iconst (v := 3) hx hb d_M_unknown_42 (by decide) ?_
    refine lv_icmp_eq (tgt := 51) hx hb d_M_unknown_43 (by decide) (fun c_43 => absurd c_43 (by decide)) (fun c_43 => ?_)
    refine lv_iload_n hx hb d_M_unknown_46 rfl (lv_at hl 3 rfl) ?_
    refine lv_iconst (v := 5) hx hb d_M_unknown_47 (by decide) ?_
    refine lv_icmp_ne (tgt := 55) hx hb d_M_unknown_48 (by decide) (fun c_48 => absurd (by decide) c_48) (fun c_48 => ?_)
    refine lv_iconst (v := 1) hx hb d_M_unknown_51 (by decide) ?_
    refine lv_goto (tgt := 56) hx hb d_M_unknown_52 (by decide) ?_
    refine lv_istore (lv' := [(7, .int 1), (6, .int 0), (5, .int 0), (0, .ref mo), (1, .int (nI 5)), (2, .int x), (3, .int y), (4, .int z)]) hx hb d_M_unknown_56 hl (by decide) rfl (fun ls hl => ?_)
    refine lv_iload hx hb d_M_unknown_58 (lv_at hl 2 rfl) ?_
    refine lv_if_eq (tgt := 74) hx hb d_M_unknown_60 (by decide) (fun c_60 => ?_) (fun c_60 => absurd (by decide) c_60)
    refine lv_iload hx hb d_M_unknown_74 (lv_at hl 1 rfl) ?_
    refine lv_if_eq (tgt := 90) hx hb d_M_unknown_76 (by decide) (fun c_76 => ?_) (fun c_76 => absurd (by decide) c_76)
    refine lv_iload hx hb d_M_unknown_90 (lv_at hl 0 rfl) ?_
    refine lv_if_eq (tgt := 105) hx hb d_M_unknown_92 (by decide) (fun c_92 => absurd c_92 (by decide)) (fun c_92 => ?_)
    refine lv_iload_n hx hb d_M_unknown_95 rfl (lv_at hl 6 rfl) ?_
    refine lv_iconst (v := 2) hx hb d_M_unknown_96 (by decide) ?_
    refine fp_callS (nA := 2) (As := [.int y, .int 2]) (rest := []) X Y (c_M_not y 2) w680 w678 w679 w9 (by decide +kernel) ⟨rfl, rfl⟩ ⟨Nat.le_of_ble_eq_true rfl, Nat.le_of_ble_eq_true rfl⟩ rfl hl.1 rfl (Nat.le_of_ble_eq_true rfl) d_M_unknown_97 ⟨Nat.zero_le _, Nat.zero_le _⟩ (fun v9 f9 H locs hp9 Y => ?_)
    obtain ⟨e8, e9⟩ := hp9
    subst e8
    rw [e9] at Y
    refine W.eq (g2 := F0 m 100 ls [.int (q_nt y 2)]) rfl ?_
    refine lv_if_eq (tgt := 105) hx hb d_M_unknown_100 (by decide) (fun c_100 => ?_) (fun c_100 => ?_)
    · refine lv_iload_n hx hb d_M_unknown_105 rfl (lv_at hl 4 rfl) ?_
      refine lv_bipush (v := 7) hx hb d_M_unknown_106 (by decide) ?_
      refine lv_icmp_ne (tgt := 119) hx hb d_M_unknown_108 (by decide) (fun c_108 => ?_) (fun c_108 => absurd c_108 (by decide))
      refine lv_iload_n hx hb d_M_unknown_119 rfl (lv_at hl 4 rfl) ?_
      refine lv_bipush (v := 8) hx hb d_M_unknown_120 (by decide) ?_
      refine lv_icmp_ne (tgt := 138) hx hb d_M_unknown_122 (by decide) (fun c_122 => ?_) (fun c_122 => absurd c_122 (by decide))
      refine lv_iconst (v := 0) hx hb d_M_unknown_138 (by decide) ?_
      exact ret _ _ _ _ _ _ d_M_unknown_139 ⟨_, rfl, rfl⟩ ⟨by simp only [q_nt_iff] at c_100; simp [q_ops, c_100], rfl⟩ Y
    · refine lv_iconst (v := 1) hx hb d_M_unknown_103 (by decide) ?_
      exact ret _ _ _ _ _ _ d_M_unknown_104 ⟨_, rfl, rfl⟩ ⟨by simp only [q_nt_iff] at c_100; simp [q_ops, c_100], rfl⟩ Y
  · subst h9
    have hl : lv_has ls 8 [(0, .ref mo), (1, .int (nI 6)), (2, .int x), (3, .int y), (4, .int z)] := hl
    refine lv_iload_n hx hb d_M_unknown_0 rfl (lv_at hl 1 rfl) ?_
    refine lv_iconst (v := 4) hx hb d_M_unknown_1 (by decide) ?_
    refine lv_icmp_lt (tgt := 11) hx hb d_M_unknown_2 (by decide) (fun c_2 => absurd c_2 (by decide)) (fun c_2 => ?_)
    refine lv_iload_n hx hb d_M_unknown_5 rfl (lv_at hl 1 rfl) ?_
    refine lv_bipush (v := 8) hx hb d_M_unknown_6 (by decide) ?_
    refine lv_icmp_ne (tgt := 15) hx hb d_M_unknown_8 (by decide) (fun c_8 => ?_) (fun c_8 => absurd c_8 (by decide))
    refine lv_iconst (v := 0) hx hb d_M_unknown_15 (by decide) ?_
    refine lv_istore (lv' := [(5, .int 0), (0, .ref mo), (1, .int (nI 6)), (2, .int x), (3, .int y), (4, .int z)]) hx hb d_M_unknown_16 hl (by decide) rfl (fun ls hl => ?_)
    refine lv_iload_n hx hb d_M_unknown_18 rfl (lv_at hl 2 rfl) ?_
    refine lv_iconst (v := 1) hx hb d_M_unknown_19 (by decide) ?_
    refine lv_icmp_eq (tgt := 34) hx hb d_M_unknown_20 (by decide) (fun c_20 => absurd c_20 (by decide)) (fun c_20 => ?_)
    refine lv_iload_n hx hb d_M_unknown_23 rfl (lv_at hl 2 rfl) ?_
    refine lv_iconst (v := 2) hx hb d_M_unknown_24 (by decide) ?_
    refine lv_icmp_eq (tgt := 34) hx hb d_M_unknown_25 (by decide) (fun c_25 => absurd c_25 (by decide)) (fun c_25 => ?_)
    refine lv_iload_n hx hb d_M_unknown_28 rfl (lv_at hl 2 rfl) ?_
    refine lv_bipush (v := 6) hx hb d_M_unknown_29 (by decide) ?_
    refine lv_icmp_le (tgt := 38) hx hb d_M_unknown_31 (by decide) (fun c_31 => ?_) (fun c_31 => absurd (by decide) c_31)
    refine lv_iconst (v := 0) hx hb d_M_unknown_38 (by decide) ?_
    refine lv_istore (lv' := [(6, .int 0), (5, .int 0), (0, .ref mo), (1, .int (nI 6)), (2, .int x), (3, .int y), (4, .int z)]) hx hb d_M_unknown_39 hl (by decide) rfl (fun ls hl => ?_)
    refine lv_iload_n hx hb d_M_unknown_41 rfl (lv_at hl 3 rfl) ?_
    refine lv_iconst (v := 3) hx hb d_M_unknown_42 (by decide) ?_
    refine lv_icmp_eq (tgt := 51) hx hb d_M_unknown_43 (by decide) (fun c_43 => absurd c_43 (by decide)) (fun c_43 => ?_)
    refine lv_iload_n hx hb d_M_unknown_46 rfl (lv_at hl 3 rfl) ?_
    refine lv_iconst (v := 5) hx hb d_M_unknown_47 (by decide) ?_
    refine lv_icmp_ne (tgt := 55) hx hb d_M_unknown_48 (by decide) (fun c_48 => ?_) (fun c_48 => absurd c_48 (by decide))
    refine lv_iconst (v := 0) hx hb d_M_unknown_55 (by decide) ?_
    refine lv_istore (lv' := [(7, .int 0), (6, .int 0), (5, .int 0), (0, .ref mo), (1, .int (nI 6)), (2, .int x), (3, .int y), (4, .int z)]) hx hb d_M_unknown_56 hl (by decide) rfl (fun ls hl => ?_)
    refine lv_iload hx hb d_M_unknown_58 (lv_at hl 2 rfl) ?_
    refine lv_if_eq (tgt := 74) hx hb d_M_unknown_60 (by decide) (fun c_60 => ?_) (fun c_60 => absurd (by decide) c_60)
    refine lv_iload hx hb d_M_unknown_74 (lv_at hl 1 rfl) ?_
    refine lv_if_eq (tgt := 90) hx hb d_M_unknown_76 (by decide) (fun c_76 => ?_) (fun c_76 => absurd (by decide) c_76)
    refine lv_iload hx hb d_M_unknown_90 (lv_at hl 0 rfl) ?_
    refine lv_if_eq (tgt := 105) hx hb d_M_unknown_92 (by decide) (fun c_92 => ?_) (fun c_92 => absurd (by decide) c_92)
    refine lv_iload_n hx hb d_M_unknown_105 rfl (lv_at hl 4 rfl) ?_
    refine lv_bipush (v := 7) hx hb d_M_unknown_106 (by decide) ?_
    refine lv_icmp_ne (tgt := 119) hx hb d_M_unknown_108 (by decide) (fun c_108 => ?_) (fun c_108 => absurd c_108 (by decide))
    refine lv_iload_n hx hb d_M_unknown_119 rfl (lv_at hl 4 rfl) ?_
    refine lv_bipush (v := 8) hx hb d_M_unknown_120 (by decide) ?_
    refine lv_icmp_ne (tgt := 138) hx hb d_M_unknown_122 (by decide) (fun c_122 => ?_) (fun c_122 => absurd c_122 (by decide))
    refine lv_iconst (v := 0) hx hb d_M_unknown_138 (by decide) ?_
    exact ret _ _ _ _ _ _ d_M_unknown_139 ⟨_, rfl, rfl⟩ ⟨by simp [q_ops], rfl⟩ Y
  · subst h9
    have hl : lv_has ls 8 [(0, .ref mo), (1, .int (nI 7)), (2, .int x), (3, .int y), (4, .int z)] := hl
    refine lv_iload_n hx hb d_M_unknown_0 rfl (lv_at hl 1 rfl) ?_
    refine lv_iconst (v := 4) hx hb d_M_unknown_1 (by decide) ?_
    refine lv_icmp_lt (tgt := 11) hx hb d_M_unknown_2 (by decide) (fun c_2 => absurd c_2 (by decide)) (fun c_2 => ?_)
    refine lv_iload_n hx hb d_M_unknown_5 rfl (lv_at hl 1 rfl) ?_
    refine lv_bipush (v := 8) hx hb d_M_unknown_6 (by decide) ?_
    refine lv_icmp_ne (tgt := 15) hx hb d_M_unknown_8 (by decide) (fun c_8 => ?_) (fun c_8 => absurd c_8 (by decide))
    refine lv_iconst (v := 0) hx hb d_M_unknown_15 (by decide) ?_
    refine lv_istore (lv' := [(5, .int 0), (0, .ref mo), (1, .int (nI 7)), (2, .int x), (3, .int y), (4, .int z)]) hx hb d_M_unknown_16 hl (by decide) rfl (fun ls hl => ?_)
    refine lv_iload_n hx hb d_M_unknown_18 rfl (lv_at hl 2 rfl) ?_
    refine lv_iconst (v := 1) hx hb d_M_unknown_19 (by decide) ?_
    refine lv_icmp_eq (tgt := 34) hx hb d_M_unknown_20 (by decide) (fun c_20 => absurd c_20 (by decide)) (fun c_20 => ?_)
    refine lv_iload_n hx hb d_M_unknown_23 rfl (lv_at hl 2 rfl) ?_
    refine lv_iconst (v := 2) hx hb d_M_unknown_24 (by decide) ?_
    refine lv_icmp_eq (tgt := 34) hx hb d_M_unknown_25 (by decide) (fun c_25 => absurd c_25 (by decide)) (fun c_25 => ?_)
    refine lv_iload_n hx hb d_M_unknown_28 rfl (lv_at hl 2 rfl) ?_
    refine lv_bipush (v := 6) hx hb d_M_unknown_29 (by decide) ?_
    refine lv_icmp_le (tgt := 38) hx hb d_M_unknown_31 (by decide) (fun c_31 => absurd c_31 (by decide)) (fun c_31 => ?_)
    refine lv_iconst (v := 1) hx hb d_M_unknown_34 (by decide) ?_
    refine lv_goto (tgt := 39) hx hb d_M_unknown_35 (by decide) ?_
    refine lv_istore (lv' := [(6, .int 1), (5, .int 0), (0, .ref mo), (1, .int (nI 7)), (2, .int x), (3, .int y), (4, .int z)]) hx hb d_M_unknown_39 hl (by decide) rfl (fun ls hl => ?_)
    refine lv_iload_n hx hb d_M_unknown_41 rfl (lv_at hl 3 rfl) ?_
    refine lv_iconst (v := 3) hx hb d_M_unknown_42 (by decide) ?_
    refine lv_icmp_eq (tgt := 51) hx hb d_M_unknown_43 (by decide) (fun c_43 => absurd c_43 (by decide)) (fun c_43 => ?_)
    refine lv_iload_n hx hb d_M_unknown_46 rfl (lv_at hl 3 rfl) ?_
    refine lv_iconst (v := 5) hx hb d_M_unknown_47 (by decide) ?_
    refine lv_icmp_ne (tgt := 55) hx hb d_M_unknown_48 (by decide) (fun c_48 => ?_) (fun c_48 => absurd c_48 (by decide))
    refine lv_iconst (v := 0) hx hb d_M_unknown_55 (by decide) ?_
    refine lv_istore (lv' := [(7, .int 0), (6, .int 1), (5, .int 0), (0, .ref mo), (1, .int (nI 7)), (2, .int x), (3, .int y), (4, .int z)]) hx hb d_M_unknown_56 hl (by decide) rfl (fun ls hl => ?_)
    refine lv_iload hx hb d_M_unknown_58 (lv_at hl 2 rfl) ?_
    refine lv_if_eq (tgt := 74) hx hb d_M_unknown_60 (by decide) (fun c_60 => ?_) (fun c_60 => absurd (by decide) c_60)
    refine lv_iload hx hb d_M_unknown_74 (lv_at hl 1 rfl) ?_
    refine lv_if_eq (tgt := 90) hx hb d_M_unknown_76 (by decide) (fun c_76 => absurd c_76 (by decide)) (fun c_76 => ?_)
    refine lv_iload_n hx hb d_M_unknown_79 rfl (lv_at hl 6 rfl) ?_
    refine lv_aload_n hx hb d_M_unknown_80 rfl (lv_at hl 3 rfl) ?_
    refine fp_get X Y om rfl in_M 1 (by decide) w602 rfl d_M_unknown_81 ?_
    refine fp_callS (nA := 2) (As := [.int y, .int nf]) (rest := []) X Y (c_M_not y nf) w680 w678 w679 w9 (by decide +kernel) ⟨rfl, rfl⟩ ⟨Nat.le_of_ble_eq_true rfl, Nat.le_of_ble_eq_true rfl⟩ rfl hl.1 rfl (Nat.le_of_ble_eq_true rfl) d_M_unknown_84 ⟨Nat.zero_le _, Nat.zero_le _⟩ (fun v9 f9 H locs hp9 Y => ?_)
    obtain ⟨e8, e9⟩ := hp9
    subst e8
    rw [e9] at Y
    refine W.eq (g2 := F0 m 87 ls [.int (q_nt y nf)]) rfl ?_
    refine lv_if_ne (tgt := 103) hx hb d_M_unknown_87 (by decide) (fun c_87 => ?_) (fun c_87 => ?_)
    · refine lv_iconst (v := 1) hx hb d_M_unknown_103 (by decide) ?_
      exact ret _ _ _ _ _ _ d_M_unknown_104 ⟨_, rfl, rfl⟩ ⟨by simp only [q_nt_iff] at c_87; simp [q_ops, c_87], rfl⟩ Y
    · refine lv_iload hx hb d_M_unknown_90 (lv_at hl 0 rfl) ?_
      refine lv_if_eq (tgt := 105) hx hb d_M_unknown_92 (by decide) (fun c_92 => ?_) (fun c_92 => absurd (by decide) c_92)
      refine lv_iload_n hx hb d_M_unknown_105 rfl (lv_at hl 4 rfl) ?_
      refine lv_bipush (v := 7) hx hb d_M_unknown_106 (by decide) ?_
      refine lv_icmp_ne (tgt := 119) hx hb d_M_unknown_108 (by decide) (fun c_108 => absurd (by decide) c_108) (fun c_108 => ?_)
      refine lv_iload_n hx hb d_M_unknown_111 rfl (lv_at hl 5 rfl) ?_
      refine lv_iconst (v := 4) hx hb d_M_unknown_112 (by decide) ?_
      refine fp_callS (nA := 2) (As := [.int x, .int 4]) (rest := []) X Y (c_M_not x 4) w680 w678 w679 w9 (by decide +kernel) ⟨rfl, rfl⟩ ⟨Nat.le_of_ble_eq_true rfl, Nat.le_of_ble_eq_true rfl⟩ rfl hl.1 rfl (Nat.le_of_ble_eq_true rfl) d_M_unknown_113 ⟨Nat.zero_le _, Nat.zero_le _⟩ (fun v9 f9 H locs hp9 Y => ?_)
      obtain ⟨e8, e9⟩ := hp9
      subst e8
      rw [e9] at Y
      refine W.eq (g2 := F0 m 116 ls [.int (q_nt x 4)]) rfl ?_
      refine lv_if_ne (tgt := 134) hx hb d_M_unknown_116 (by decide) (fun c_116 => ?_) (fun c_116 => ?_)
      · refine lv_iconst (v := 1) hx hb d_M_unknown_134 (by decide) ?_
        refine lv_goto (tgt := 139) hx hb d_M_unknown_135 (by decide) ?_
        exact ret _ _ _ _ _ _ d_M_unknown_139 ⟨_, rfl, rfl⟩ ⟨by simp only [q_nt_iff] at c_87 c_116; simp [q_ops, c_87, c_116], rfl⟩ Y
      · refine lv_iload_n hx hb d_M_unknown_119 rfl (lv_at hl 4 rfl) ?_
        refine lv_bipush (v := 8) hx hb d_M_unknown_120 (by decide) ?_
        refine lv_icmp_ne (tgt := 138) hx hb d_M_unknown_122 (by decide) (fun c_122 => ?_) (fun c_122 => absurd c_122 (by decide))
        refine lv_iconst (v := 0) hx hb d_M_unknown_138 (by decide) ?_
        exact ret _ _ _ _ _ _ d_M_unknown_139 ⟨_, rfl, rfl⟩ ⟨by simp only [q_nt_iff] at c_87 c_116; simp [q_ops, c_87, c_116], rfl⟩ Y
  · subst h9
    have hl : lv_has ls 8 [(0, .ref mo), (1, .int (nI 8)), (2, .int x), (3, .int y), (4, .int z)] := hl
    refine lv_iload_n hx hb d_M_unknown_0 rfl (lv_at hl 1 rfl) ?_
    refine lv_iconst (v := 4) hx hb d_M_unknown_1 (by decide) ?_
    refine lv_icmp_lt (tgt := 11) hx hb d_M_unknown_2 (by decide) (fun c_2 => absurd c_2 (by decide)) (fun c_2 => ?_)
    refine lv_iload_n hx hb d_M_unknown_5 rfl (lv_at hl 1 rfl) ?_
    refine lv_bipush (v := 8) hx hb d_M_unknown_6 (by decide) ?_
    refine lv_icmp_ne (tgt := 15) hx hb d_M_unknown_8 (by decide) (fun c_8 => absurd (by decide) c_8) (fun c_8 => ?_)
    refine lv_iconst (v := 1) hx hb d_M_unknown_11 (by decide) ?_
    refine lv_goto (tgt := 16) hx hb d_M_unknown_12 (by decide) ?_
    refine lv_istore (lv' := [(5, .int 1), (0, .ref mo), (1, .int (nI 8)), (2, .int x), (3, .int y), (4, .int z)]) hx hb d_M_unknown_16 hl (by decide) rfl (fun ls hl => ?_)
    refine lv_iload_n hx hb d_M_unknown_18 rfl (lv_at hl 2 rfl) ?_
    refine lv_iconst (v := 1) hx hb d_M_unknown_19 (by decide) ?_
    refine lv_icmp_eq (tgt := 34) hx hb d_M_unknown_20 (by decide) (fun c_20 => absurd c_20 (by decide)) (fun c_20 => ?_)
    refine lv_iload_n hx hb d_M_unknown_23 rfl (lv_at hl 2 rfl) ?_
    refine lv_iconst (v := 2) hx hb d_M_unknown_24 (by decide) ?_
    refine lv_icmp_eq (tgt := 34) hx hb d_M_unknown_25 (by decide) (fun c_25 => absurd c_25 (by decide)) (fun c_25 => ?_)
    refine lv_iload_n hx hb d_M_unknown_28 rfl (lv_at hl 2 rfl) ?_
    refine lv_bipush (v := 6) hx hb d_M_unknown_29 (by decide) ?_
    refine lv_icmp_le (tgt := 38) hx hb d_M_unknown_31 (by decide) (fun c_31 => absurd c_31 (by decide)) (fun c_31 => ?_)
    refine lv_iconst (v := 1) hx hb d_M_unknown_34 (by decide) ?_
    refine lv_goto (tgt := 39) hx hb d_M_unknown_35 (by decide) ?_
    refine lv_istore (lv' := [(6, .int 1), (5, .int 1), (0, .ref mo), (1, .int (nI 8)), (2, .int x), (3, .int y), (4, .int z)]) hx hb d_M_unknown_39 hl (by decide) rfl (fun ls hl => ?_)
    refine lv_iload_n hx hb d_M_unknown_41 rfl (lv_at hl 3 rfl) ?_
    refine lv_iconst (v := 3) hx hb d_M_unknown_42 (by decide) ?_
    refine lv_icmp_eq (tgt := 51) hx hb d_M_unknown_43 (by decide) (fun c_43 => absurd c_43 (by decide)) (fun c_43 => ?_)
    refine lv_iload_n hx hb d_M_unknown_46 rfl (lv_at hl 3 rfl) ?_
    refine lv_iconst (v := 5) hx hb d_M_unknown_47 (by decide) ?_
    refine lv_icmp_ne (tgt := 55) hx hb d_M_unknown_48 (by decide) (fun c_48 => ?_) (fun c_48 => absurd c_48 (by decide))
    refine lv_iconst (v := 0) hx hb d_M_unknown_55 (by decide) ?_
    refine lv_istore (lv' := [(7, .int 0), (6, .int 1), (5, .int 1), (0, .ref mo), (1, .int (nI 8)), (2, .int x), (3, .int y), (4, .int z)]) hx hb d_M_unknown_56 hl (by decide) rfl (fun ls hl => ?_)
    refine lv_iload hx hb d_M_unknown_58 (lv_at hl 2 rfl) ?_
    refine lv_if_eq (tgt := 74) hx hb d_M_unknown_60 (by decide) (fun c_60 => absurd c_60 (by decide)) (fun c_60 => ?_)
    refine lv_iload_n hx hb d_M_unknown_63 rfl (lv_at hl 5 rfl) ?_
    refine lv_aload_n hx hb d_M_unknown_64 rfl (lv_at hl 3 rfl) ?_
    refine fp_get X Y om rfl in_M 1 (by decide) w602 rfl d_M_unknown_65 ?_
    refine fp_callS (nA := 2) (As := [.int x, .int nf]) (rest := []) X Y (c_M_not x nf) w680 w678 w679 w9 (by decide +kernel) ⟨rfl, rfl⟩ ⟨Nat.le_of_ble_eq_true rfl, Nat.le_of_ble_eq_true rfl⟩ rfl hl.1 rfl (Nat.le_of_ble_eq_true rfl) d_M_unknown_68 ⟨Nat.zero_le _, Nat.zero_le _⟩ (fun v9 f9 H locs hp9 Y => ?_)
    obtain ⟨e8, e9⟩ := hp9
    subst e8
    rw [e9] at Y
    refine W.eq (g2 := F0 m 71 ls [.int (q_nt x nf)]) rfl ?_
    refine lv_if_ne (tgt := 103) hx hb d_M_unknown_71 (by decide) (fun c_71 => ?_) (fun c_71 => ?_)
    · refine lv_iconst (v := 1) hx hb d_M_unknown_103 (by decide) ?_
      exact ret _ _ _ _ _ _ d_M_unknown_104 ⟨_, rfl, rfl⟩ ⟨by simp only [q_nt_iff] at c_71; simp [q_ops, c_71], rfl⟩ Y
    · refine lv_iload hx hb d_M_unknown_74 (lv_at hl 1 rfl) ?_
      refine lv_if_eq (tgt := 90) hx hb d_M_unknown_76 (by decide) (fun c_76 => absurd c_76 (by decide)) (fun c_76 => ?_)
      refine lv_iload_n hx hb d_M_unknown_79 rfl (lv_at hl 6 rfl) ?_
      refine lv_aload_n hx hb d_M_unknown_80 rfl (lv_at hl 3 rfl) ?_
      refine fp_get X Y om rfl in_M 1 (by decide) w602 rfl d_M_unknown_81 ?_
      refine fp_callS (nA := 2) (As := [.int y, .int nf]) (rest := []) X Y (c_M_not y nf) w680 w678 w679 w9 (by decide +kernel) ⟨rfl, rfl⟩ ⟨Nat.le_of_ble_eq_true rfl, Nat.le_of_ble_eq_true rfl⟩ rfl hl.1 rfl (Nat.le_of_ble_eq_true rfl) d_M_unknown_84 ⟨Nat.zero_le _, Nat.zero_le _⟩ (fun v9 f9 H locs hp9 Y => ?_)
      obtain ⟨e8, e9⟩ := hp9
      subst e8
      rw [e9] at Y
      refine W.eq (g2 := F0 m 87 ls [.int (q_nt y nf)]) rfl ?_
      refine lv_if_ne (tgt := 103) hx hb d_M_unknown_87 (by decide) (fun c_87 => ?_) (fun c_87 => ?_)
      · refine lv_iconst (v := 1) hx hb d_M_unknown_103 (by decide) ?_
        exact ret _ _ _ _ _ _ d_M_unknown_104 ⟨_, rfl, rfl⟩ ⟨by simp only [q_nt_iff] at c_71 c_87; simp [q_ops, c_71, c_87], rfl⟩ Y
      · refine lv_iload hx hb d_M_unknown_90 (lv_at hl 0 rfl) ?_
        refine lv_if_eq (tgt := 105) hx hb d_M_unknown_92 (by decide) (fun c_92 => ?_) (fun c_92 => absurd (by decide) c_92)
        refine lv_iload_n hx hb d_M_unknown_105 rfl (lv_at hl 4 rfl) ?_
        refine lv_bipush (v := 7) hx hb d_M_unknown_106 (by decide) ?_
        refine lv_icmp_ne (tgt := 119) hx hb d_M_unknown_108 (by decide) (fun c_108 => ?_) (fun c_108 => absurd c_108 (by decide))
        refine lv_iload_n hx hb d_M_unknown_119 rfl (lv_at hl 4 rfl) ?_
        refine lv_bipush (v := 8) hx hb d_M_unknown_120 (by decide) ?_
        refine lv_icmp_ne (tgt := 138) hx hb d_M_unknown_122 (by decide) (fun c_122 => absurd (by decide) c_122) (fun c_122 => ?_)
        refine lv_iload hx hb d_M_unknown_125 (lv_at hl 7 rfl) ?_
        refine lv_iconst (v := 4) hx hb d_M_unknown_127 (by decide) ?_
        refine fp_callS (nA := 2) (As := [.int z, .int 4]) (rest := []) X Y (c_M_not z 4) w680 w678 w679 w9 (by decide +kernel) ⟨rfl, rfl⟩ ⟨Nat.le_of_ble_eq_true rfl, Nat.le_of_ble_eq_true rfl⟩ rfl hl.1 rfl (Nat.le_of_ble_eq_true rfl) d_M_unknown_128 ⟨Nat.zero_le _, Nat.zero_le _⟩ (fun v9 f9 H locs hp9 Y => ?_)
        obtain ⟨e8, e9⟩ := hp9
        subst e8
        rw [e9] at Y
        refine W.eq (g2 := F0 m 131 ls [.int (q_nt z 4)]) rfl ?_
        refine lv_if_eq (tgt := 138) hx hb d_M_unknown_131 (by decide) (fun c_131 => ?_) (fun c_131 => ?_)
        · refine lv_iconst (v := 0) hx hb d_M_unknown_138 (by decide) ?_
          exact ret _ _ _ _ _ _ d_M_unknown_139 ⟨_, rfl, rfl⟩ ⟨by simp only [q_nt_iff] at c_71 c_87 c_131; simp [q_ops, c_71, c_87, c_131], rfl⟩ Y
        · refine lv_iconst (v := 1) hx hb d_M_unknown_134 (by decide) ?_
          refine lv_goto (tgt := 139) hx hb d_M_unknown_135 (by decide) ?_
          exact ret _ _ _ _ _ _ d_M_unknown_139 ⟨_, rfl, rfl⟩ ⟨by simp only [q_nt_iff] at c_71 c_87 c_131; simp [q_ops, c_71, c_87, c_131], rfl⟩ Y
set_option maxHeartbeats 4000000 in
set_option maxRecDepth 100000 in
theorem c_M_doing_t2 {l : Launch} {D : va_G} {g : Nat → ClassId} {b n : Nat} {A : Nat → Prop} {f : Nat → va_E} {mo : Nat} {th nf na nt po dr : Int32} {x1 k x y z : Int32} (hbad : q_in k 9 = 0) (om : fp_o b n f mo (ob 8 [.int th, .int nf, .ref (mo + 1), .ref (mo + 2), .int na, .ref (mo + 3), .ref (mo + 4), .ref (mo + 5), .int nt, .ref (mo + 6), .ref (mo + 7), .ref (mo + 8), .ref (mo + 9), .ref (mo + 10), .ref (mo + 11), .ref (mo + 12), .ref (mo + 13), .ref (mo + 14), .int po, .int dr]))  (hA : fp_W b n A := by assumption) : fp_M l D (TY g) b n A y_M_doing (fp_ws y_M_doing b_M_doing 7 none) (rmD 2) [.ref mo, .int x1, .int k, .int x, .int y, .int z] f (fun v f' => v = none ∧ f' = va_up f mo (ob 8 [.int 2, .int nf, .ref (mo + 1), .ref (mo + 2), .int na, .ref (mo + 3), .ref (mo + 4), .ref (mo + 5), .int nt, .ref (mo + 6), .ref (mo + 7), .ref (mo + 8), .ref (mo + 9), .ref (mo + 10), .ref (mo + 11), .ref (mo + 12), .ref (mo + 13), .ref (mo + 14), .int po, .int dr])) := by
  refine fp_ofV (plainFor_of_name (by decide)) (Nat.le_of_ble_eq_true rfl) ?_
  intro p e s m args below meth c Q ls H locs X Y hl ret
  have hx := X.1.1
  have hb := X.1.2.1
  have hl : lv_has ls 7 [(0, .ref mo), (1, .int x1), (2, .int k), (3, .int x), (4, .int y), (5, .int z)] := hl
  refine lv_aload_n hx hb d_M_doing_0 rfl (lv_at hl 0 rfl) ?_
  refine lv_iload_n hx hb d_M_doing_1 rfl (lv_at hl 2 rfl) ?_
  refine lv_bipush (v := 9) hx hb d_M_doing_2 (by decide) ?_
  refine fp_callS (nA := 2) (As := [.int k, .int 9]) (rest := [.ref mo]) X Y (c_M_not k 9) w680 w678 w679 w9 (by decide +kernel) ⟨rfl, rfl⟩ ⟨Nat.le_of_ble_eq_true rfl, Nat.le_of_ble_eq_true rfl⟩ rfl hl.1 rfl (Nat.le_of_ble_eq_true rfl) d_M_doing_4 ⟨Nat.zero_le _, Nat.zero_le _⟩ (fun v9 f9 H locs hp9 Y => ?_)
  obtain ⟨e8, e9⟩ := hp9
  subst e8
  rw [e9] at Y
  refine W.eq (g2 := F0 m 7 ls [.int (q_nt k 9), .ref mo]) rfl ?_
  refine lv_if_eq (tgt := 14) hx hb d_M_doing_7 (by decide) (fun c_7 => absurd c_7 (q_nt_1 hbad)) (fun c_7 => ?_)
  refine lv_iconst (v := 2) hx hb d_M_doing_10 (by decide) ?_
  refine lv_goto (tgt := 57) hx hb d_M_doing_11 (by decide) ?_
  refine fp_put X Y om rfl in_M to_M nm_M 0 (by decide) w601 rfl rfl rfl (Nat.le_of_ble_eq_true rfl) d_M_doing_57 (fun H locs Y => ?_)
  have Y : fp_H D b n A (va_up f mo (ob 8 [.int 2, .int nf, .ref (mo + 1), .ref (mo + 2), .int na, .ref (mo + 3), .ref (mo + 4), .ref (mo + 5), .int nt, .ref (mo + 6), .ref (mo + 7), .ref (mo + 8), .ref (mo + 9), .ref (mo + 10), .ref (mo + 11), .ref (mo + 12), .ref (mo + 13), .ref (mo + 14), .int po, .int dr])) s.heap H locs := Y
  have om : fp_o b n (va_up f mo (ob 8 [.int 2, .int nf, .ref (mo + 1), .ref (mo + 2), .int na, .ref (mo + 3), .ref (mo + 4), .ref (mo + 5), .int nt, .ref (mo + 6), .ref (mo + 7), .ref (mo + 8), .ref (mo + 9), .ref (mo + 10), .ref (mo + 11), .ref (mo + 12), .ref (mo + 13), .ref (mo + 14), .int po, .int dr])) mo (ob 8 [.int 2, .int nf, .ref (mo + 1), .ref (mo + 2), .int na, .ref (mo + 3), .ref (mo + 4), .ref (mo + 5), .int nt, .ref (mo + 6), .ref (mo + 7), .ref (mo + 8), .ref (mo + 9), .ref (mo + 10), .ref (mo + 11), .ref (mo + 12), .ref (mo + 13), .ref (mo + 14), .int po, .int dr]) := fp_o.up om
  refine lv_aload_n hx hb d_M_doing_60 rfl (lv_at hl 0 rfl) ?_
  refine fp_get X Y om rfl in_M 0 (by decide) w601 rfl d_M_doing_61 ?_
  refine lv_if_eq (tgt := 68) hx hb d_M_doing_64 (by decide) (fun c_64 => absurd c_64 (by decide)) (fun c_64 => ?_)
  exact ret _ _ _ _ _ d_M_doing_67 ⟨rfl, rfl⟩ Y
set_option maxHeartbeats 4000000 in
set_option maxRecDepth 100000 in
theorem c_M_doing_t1 {l : Launch} {D : va_G} {g : Nat → ClassId} {b n : Nat} {A : Nat → Prop} {f : Nat → va_E} {mo : Nat} {th nf na nt po dr : Int32} {x1 x y z : Int32} {kj : Nat} (hkj : kj < 9) (hbad : q_in x1 na = 0 ∨ q_ops kj x y z nf = 0) (om : fp_o b n f mo (ob 8 [.int th, .int nf, .ref (mo + 1), .ref (mo + 2), .int na, .ref (mo + 3), .ref (mo + 4), .ref (mo + 5), .int nt, .ref (mo + 6), .ref (mo + 7), .ref (mo + 8), .ref (mo + 9), .ref (mo + 10), .ref (mo + 11), .ref (mo + 12), .ref (mo + 13), .ref (mo + 14), .int po, .int dr]))  (hA : fp_W b n A := by assumption) : fp_M l D (TY g) b n A y_M_doing (fp_ws y_M_doing b_M_doing 7 none) (rmD 2) [.ref mo, .int x1, .int (nI kj), .int x, .int y, .int z] f (fun v f' => v = none ∧ f' = va_up f mo (ob 8 [.int 1, .int nf, .ref (mo + 1), .ref (mo + 2), .int na, .ref (mo + 3), .ref (mo + 4), .ref (mo + 5), .int nt, .ref (mo + 6), .ref (mo + 7), .ref (mo + 8), .ref (mo + 9), .ref (mo + 10), .ref (mo + 11), .ref (mo + 12), .ref (mo + 13), .ref (mo + 14), .int po, .int dr])) := by
  refine fp_ofV (plainFor_of_name (by decide)) (Nat.le_of_ble_eq_true rfl) ?_
  intro p e s m args below meth c Q ls H locs X Y hl ret
  have hx := X.1.1
  have hb := X.1.2.1
  have hl : lv_has ls 7 [(0, .ref mo), (1, .int x1), (2, .int (nI kj)), (3, .int x), (4, .int y), (5, .int z)] := hl
  refine lv_aload_n hx hb d_M_doing_0 rfl (lv_at hl 0 rfl) ?_
  refine lv_iload_n hx hb d_M_doing_1 rfl (lv_at hl 2 rfl) ?_
  refine lv_bipush (v := 9) hx hb d_M_doing_2 (by decide) ?_
  refine fp_callS (nA := 2) (As := [.int (nI kj), .int 9]) (rest := [.ref mo]) X Y (c_M_not (nI kj) 9) w680 w678 w679 w9 (by decide +kernel) ⟨rfl, rfl⟩ ⟨Nat.le_of_ble_eq_true rfl, Nat.le_of_ble_eq_true rfl⟩ rfl hl.1 rfl (Nat.le_of_ble_eq_true rfl) d_M_doing_4 ⟨Nat.zero_le _, Nat.zero_le _⟩ (fun v9 f9 H locs hp9 Y => ?_)
  obtain ⟨e8, e9⟩ := hp9
  subst e8
  rw [e9] at Y
  refine W.eq (g2 := F0 m 7 ls [.int (q_nt (nI kj) 9), .ref mo]) rfl ?_
  refine lv_if_eq (tgt := 14) hx hb d_M_doing_7 (by decide) (fun c_7 => ?_) (fun c_7 => absurd (q_nt_0 (q_in_ne (k := 9) hkj (by decide))) c_7)
  refine lv_iload_n hx hb d_M_doing_14 rfl (lv_at hl 1 rfl) ?_
  refine lv_aload_n hx hb d_M_doing_15 rfl (lv_at hl 0 rfl) ?_
  refine fp_get X Y om rfl in_M 4 (by decide) w605 rfl d_M_doing_16 ?_
  refine fp_callS (nA := 2) (As := [.int x1, .int na]) (rest := [.ref mo]) X Y (c_M_not x1 na) w680 w678 w679 w9 (by decide +kernel) ⟨rfl, rfl⟩ ⟨Nat.le_of_ble_eq_true rfl, Nat.le_of_ble_eq_true rfl⟩ rfl hl.1 rfl (Nat.le_of_ble_eq_true rfl) d_M_doing_19 ⟨Nat.zero_le _, Nat.zero_le _⟩ (fun v9 f9 H locs hp9 Y => ?_)
  obtain ⟨e8, e9⟩ := hp9
  subst e8
  rw [e9] at Y
  refine W.eq (g2 := F0 m 22 ls [.int (q_nt x1 na), .ref mo]) rfl ?_
  refine lv_if_ne (tgt := 38) hx hb d_M_doing_22 (by decide) (fun c_22 => ?_) (fun c_22 => ?_)
  · refine lv_iconst (v := 1) hx hb d_M_doing_38 (by decide) ?_
    refine lv_goto (tgt := 57) hx hb d_M_doing_39 (by decide) ?_
    refine fp_put X Y om rfl in_M to_M nm_M 0 (by decide) w601 rfl rfl rfl (Nat.le_of_ble_eq_true rfl) d_M_doing_57 (fun H locs Y => ?_)
    have Y : fp_H D b n A (va_up f mo (ob 8 [.int 1, .int nf, .ref (mo + 1), .ref (mo + 2), .int na, .ref (mo + 3), .ref (mo + 4), .ref (mo + 5), .int nt, .ref (mo + 6), .ref (mo + 7), .ref (mo + 8), .ref (mo + 9), .ref (mo + 10), .ref (mo + 11), .ref (mo + 12), .ref (mo + 13), .ref (mo + 14), .int po, .int dr])) s.heap H locs := Y
    have om : fp_o b n (va_up f mo (ob 8 [.int 1, .int nf, .ref (mo + 1), .ref (mo + 2), .int na, .ref (mo + 3), .ref (mo + 4), .ref (mo + 5), .int nt, .ref (mo + 6), .ref (mo + 7), .ref (mo + 8), .ref (mo + 9), .ref (mo + 10), .ref (mo + 11), .ref (mo + 12), .ref (mo + 13), .ref (mo + 14), .int po, .int dr])) mo (ob 8 [.int 1, .int nf, .ref (mo + 1), .ref (mo + 2), .int na, .ref (mo + 3), .ref (mo + 4), .ref (mo + 5), .int nt, .ref (mo + 6), .ref (mo + 7), .ref (mo + 8), .ref (mo + 9), .ref (mo + 10), .ref (mo + 11), .ref (mo + 12), .ref (mo + 13), .ref (mo + 14), .int po, .int dr]) := fp_o.up om
    refine lv_aload_n hx hb d_M_doing_60 rfl (lv_at hl 0 rfl) ?_
    refine fp_get X Y om rfl in_M 0 (by decide) w601 rfl d_M_doing_61 ?_
    refine lv_if_eq (tgt := 68) hx hb d_M_doing_64 (by decide) (fun c_64 => absurd c_64 (by decide)) (fun c_64 => ?_)
    exact ret _ _ _ _ _ d_M_doing_67 ⟨rfl, rfl⟩ Y
  · refine lv_aload_n hx hb d_M_doing_25 rfl (lv_at hl 0 rfl) ?_
    refine lv_iload_n hx hb d_M_doing_26 rfl (lv_at hl 2 rfl) ?_
    refine lv_iload_n hx hb d_M_doing_27 rfl (lv_at hl 3 rfl) ?_
    refine lv_iload hx hb d_M_doing_28 (lv_at hl 4 rfl) ?_
    refine lv_iload hx hb d_M_doing_30 (lv_at hl 5 rfl) ?_
    refine fp_callV (nA := 4) (As := [.int (nI kj), .int x, .int y, .int z]) (rest := [.ref mo]) X Y (c_M_unknown x y z hkj om) om rfl w704 w701 w703 wp17 w9 (by decide +kernel) ⟨rfl, rfl⟩ ⟨Nat.le_of_ble_eq_true rfl, Nat.le_of_ble_eq_true rfl⟩ rfl hl.1 rfl (Nat.le_of_ble_eq_true rfl) d_M_doing_32 ⟨Nat.zero_le _, Nat.zero_le _⟩ (fun v9 f9 H locs hp9 Y => ?_)
    obtain ⟨e8, e9⟩ := hp9
    subst e8
    rw [e9] at Y
    refine W.eq (g2 := F0 m 35 ls [.int (if q_ops kj x y z nf = 0 then 1 else 0), .ref mo]) rfl ?_
    refine lv_if_eq (tgt := 42) hx hb d_M_doing_35 (by decide) (fun c_35 => absurd c_35 (by rw [if_pos (hbad.resolve_left (q_nt_iff.mp c_22))]; decide)) (fun c_35 => ?_)
    refine lv_iconst (v := 1) hx hb d_M_doing_38 (by decide) ?_
    refine lv_goto (tgt := 57) hx hb d_M_doing_39 (by decide) ?_
    refine fp_put X Y om rfl in_M to_M nm_M 0 (by decide) w601 rfl rfl rfl (Nat.le_of_ble_eq_true rfl) d_M_doing_57 (fun H locs Y => ?_)
    have Y : fp_H D b n A (va_up f mo (ob 8 [.int 1, .int nf, .ref (mo + 1), .ref (mo + 2), .int na, .ref (mo + 3), .ref (mo + 4), .ref (mo + 5), .int nt, .ref (mo + 6), .ref (mo + 7), .ref (mo + 8), .ref (mo + 9), .ref (mo + 10), .ref (mo + 11), .ref (mo + 12), .ref (mo + 13), .ref (mo + 14), .int po, .int dr])) s.heap H locs := Y
    have om : fp_o b n (va_up f mo (ob 8 [.int 1, .int nf, .ref (mo + 1), .ref (mo + 2), .int na, .ref (mo + 3), .ref (mo + 4), .ref (mo + 5), .int nt, .ref (mo + 6), .ref (mo + 7), .ref (mo + 8), .ref (mo + 9), .ref (mo + 10), .ref (mo + 11), .ref (mo + 12), .ref (mo + 13), .ref (mo + 14), .int po, .int dr])) mo (ob 8 [.int 1, .int nf, .ref (mo + 1), .ref (mo + 2), .int na, .ref (mo + 3), .ref (mo + 4), .ref (mo + 5), .int nt, .ref (mo + 6), .ref (mo + 7), .ref (mo + 8), .ref (mo + 9), .ref (mo + 10), .ref (mo + 11), .ref (mo + 12), .ref (mo + 13), .ref (mo + 14), .int po, .int dr]) := fp_o.up om
    refine lv_aload_n hx hb d_M_doing_60 rfl (lv_at hl 0 rfl) ?_
    refine fp_get X Y om rfl in_M 0 (by decide) w601 rfl d_M_doing_61 ?_
    refine lv_if_eq (tgt := 68) hx hb d_M_doing_64 (by decide) (fun c_64 => absurd c_64 (by decide)) (fun c_64 => ?_)
    exact ret _ _ _ _ _ d_M_doing_67 ⟨rfl, rfl⟩ Y
set_option maxHeartbeats 4000000 in
set_option maxRecDepth 100000 in
theorem c_M_doing_t3 {l : Launch} {D : va_G} {g : Nat → ClassId} {b n : Nat} {A : Nat → Prop} {f : Nat → va_E} {mo : Nat} {th nf na nt po dr : Int32} {zn : Nat → Int32} {aj kj : Nat} {x y z : Int32} (hkj : kj < 9) (haj : aj < 16) (hin : ¬ q_in (nI aj) na = 0) (hops : ¬ q_ops kj x y z nf = 0) (hz4 : zn aj = nI 4) (om : fp_o b n f mo (ob 8 [.int th, .int nf, .ref (mo + 1), .ref (mo + 2), .int na, .ref (mo + 3), .ref (mo + 4), .ref (mo + 5), .int nt, .ref (mo + 6), .ref (mo + 7), .ref (mo + 8), .ref (mo + 9), .ref (mo + 10), .ref (mo + 11), .ref (mo + 12), .ref (mo + 13), .ref (mo + 14), .int po, .int dr])) (o_doings : fp_o b n f (mo + 3) (aI g 16 zn))  (hA : fp_W b n A := by assumption) : fp_M l D (TY g) b n A y_M_doing (fp_ws y_M_doing b_M_doing 7 none) (rmD 2) [.ref mo, .int (nI aj), .int (nI kj), .int x, .int y, .int z] f (fun v f' => v = none ∧ f' = va_up f mo (ob 8 [.int 3, .int nf, .ref (mo + 1), .ref (mo + 2), .int na, .ref (mo + 3), .ref (mo + 4), .ref (mo + 5), .int nt, .ref (mo + 6), .ref (mo + 7), .ref (mo + 8), .ref (mo + 9), .ref (mo + 10), .ref (mo + 11), .ref (mo + 12), .ref (mo + 13), .ref (mo + 14), .int po, .int dr])) := by
  refine fp_ofV (plainFor_of_name (by decide)) (Nat.le_of_ble_eq_true rfl) ?_
  intro p e s m args below meth c Q ls H locs X Y hl ret
  have hx := X.1.1
  have hb := X.1.2.1
  have hl : lv_has ls 7 [(0, .ref mo), (1, .int (nI aj)), (2, .int (nI kj)), (3, .int x), (4, .int y), (5, .int z)] := hl
  refine lv_aload_n hx hb d_M_doing_0 rfl (lv_at hl 0 rfl) ?_
  refine lv_iload_n hx hb d_M_doing_1 rfl (lv_at hl 2 rfl) ?_
  refine lv_bipush (v := 9) hx hb d_M_doing_2 (by decide) ?_
  refine fp_callS (nA := 2) (As := [.int (nI kj), .int 9]) (rest := [.ref mo]) X Y (c_M_not (nI kj) 9) w680 w678 w679 w9 (by decide +kernel) ⟨rfl, rfl⟩ ⟨Nat.le_of_ble_eq_true rfl, Nat.le_of_ble_eq_true rfl⟩ rfl hl.1 rfl (Nat.le_of_ble_eq_true rfl) d_M_doing_4 ⟨Nat.zero_le _, Nat.zero_le _⟩ (fun v9 f9 H locs hp9 Y => ?_)
  obtain ⟨e8, e9⟩ := hp9
  subst e8
  rw [e9] at Y
  refine W.eq (g2 := F0 m 7 ls [.int (q_nt (nI kj) 9), .ref mo]) rfl ?_
  refine lv_if_eq (tgt := 14) hx hb d_M_doing_7 (by decide) (fun c_7 => ?_) (fun c_7 => absurd (q_nt_0 (q_in_ne (k := 9) hkj (by decide))) c_7)
  refine lv_iload_n hx hb d_M_doing_14 rfl (lv_at hl 1 rfl) ?_
  refine lv_aload_n hx hb d_M_doing_15 rfl (lv_at hl 0 rfl) ?_
  refine fp_get X Y om rfl in_M 4 (by decide) w605 rfl d_M_doing_16 ?_
  refine fp_callS (nA := 2) (As := [.int (nI aj), .int na]) (rest := [.ref mo]) X Y (c_M_not (nI aj) na) w680 w678 w679 w9 (by decide +kernel) ⟨rfl, rfl⟩ ⟨Nat.le_of_ble_eq_true rfl, Nat.le_of_ble_eq_true rfl⟩ rfl hl.1 rfl (Nat.le_of_ble_eq_true rfl) d_M_doing_19 ⟨Nat.zero_le _, Nat.zero_le _⟩ (fun v9 f9 H locs hp9 Y => ?_)
  obtain ⟨e8, e9⟩ := hp9
  subst e8
  rw [e9] at Y
  refine W.eq (g2 := F0 m 22 ls [.int (q_nt (nI aj) na), .ref mo]) rfl ?_
  refine lv_if_ne (tgt := 38) hx hb d_M_doing_22 (by decide) (fun c_22 => absurd (q_nt_0 hin) c_22) (fun c_22 => ?_)
  refine lv_aload_n hx hb d_M_doing_25 rfl (lv_at hl 0 rfl) ?_
  refine lv_iload_n hx hb d_M_doing_26 rfl (lv_at hl 2 rfl) ?_
  refine lv_iload_n hx hb d_M_doing_27 rfl (lv_at hl 3 rfl) ?_
  refine lv_iload hx hb d_M_doing_28 (lv_at hl 4 rfl) ?_
  refine lv_iload hx hb d_M_doing_30 (lv_at hl 5 rfl) ?_
  refine fp_callV (nA := 4) (As := [.int (nI kj), .int x, .int y, .int z]) (rest := [.ref mo]) X Y (c_M_unknown x y z hkj om) om rfl w704 w701 w703 wp17 w9 (by decide +kernel) ⟨rfl, rfl⟩ ⟨Nat.le_of_ble_eq_true rfl, Nat.le_of_ble_eq_true rfl⟩ rfl hl.1 rfl (Nat.le_of_ble_eq_true rfl) d_M_doing_32 ⟨Nat.zero_le _, Nat.zero_le _⟩ (fun v9 f9 H locs hp9 Y => ?_)
  obtain ⟨e8, e9⟩ := hp9
  subst e8
  rw [e9] at Y
  refine W.eq (g2 := F0 m 35 ls [.int (if q_ops kj x y z nf = 0 then 1 else 0), .ref mo]) rfl ?_
  refine lv_if_eq (tgt := 42) hx hb d_M_doing_35 (by decide) (fun c_35 => ?_) (fun c_35 => absurd (if_neg hops) c_35)
  refine lv_aload_n hx hb d_M_doing_42 rfl (lv_at hl 0 rfl) ?_
  refine fp_get X Y om rfl in_M 5 (by decide) w606 rfl d_M_doing_43 ?_
  refine lv_iload_n hx hb d_M_doing_46 rfl (lv_at hl 1 rfl) ?_
  refine fp_ild X Y o_doings aj rfl (by omega) (by decide) d_M_doing_47 ?_
  rw [hz4]
  refine lv_iconst (v := 4) hx hb d_M_doing_48 (by decide) ?_
  refine lv_icmp_ne (tgt := 56) hx hb d_M_doing_49 (by decide) (fun c_49 => absurd rfl c_49) (fun c_49 => ?_)
  refine lv_iconst (v := 3) hx hb d_M_doing_52 (by decide) ?_
  refine lv_goto (tgt := 57) hx hb d_M_doing_53 (by decide) ?_
  refine fp_put X Y om rfl in_M to_M nm_M 0 (by decide) w601 rfl rfl rfl (Nat.le_of_ble_eq_true rfl) d_M_doing_57 (fun H locs Y => ?_)
  have ne_1 : mo + 3 ≠ mo := (fp_o.nf o_doings om (by simp))
  have Y : fp_H D b n A (va_up f mo (ob 8 [.int 3, .int nf, .ref (mo + 1), .ref (mo + 2), .int na, .ref (mo + 3), .ref (mo + 4), .ref (mo + 5), .int nt, .ref (mo + 6), .ref (mo + 7), .ref (mo + 8), .ref (mo + 9), .ref (mo + 10), .ref (mo + 11), .ref (mo + 12), .ref (mo + 13), .ref (mo + 14), .int po, .int dr])) s.heap H locs := Y
  have o_doings : fp_o b n (va_up f mo (ob 8 [.int 3, .int nf, .ref (mo + 1), .ref (mo + 2), .int na, .ref (mo + 3), .ref (mo + 4), .ref (mo + 5), .int nt, .ref (mo + 6), .ref (mo + 7), .ref (mo + 8), .ref (mo + 9), .ref (mo + 10), .ref (mo + 11), .ref (mo + 12), .ref (mo + 13), .ref (mo + 14), .int po, .int dr])) (mo + 3) (aI g 16 zn) := fp_o.ne o_doings ne_1
  have om : fp_o b n (va_up f mo (ob 8 [.int 3, .int nf, .ref (mo + 1), .ref (mo + 2), .int na, .ref (mo + 3), .ref (mo + 4), .ref (mo + 5), .int nt, .ref (mo + 6), .ref (mo + 7), .ref (mo + 8), .ref (mo + 9), .ref (mo + 10), .ref (mo + 11), .ref (mo + 12), .ref (mo + 13), .ref (mo + 14), .int po, .int dr])) mo (ob 8 [.int 3, .int nf, .ref (mo + 1), .ref (mo + 2), .int na, .ref (mo + 3), .ref (mo + 4), .ref (mo + 5), .int nt, .ref (mo + 6), .ref (mo + 7), .ref (mo + 8), .ref (mo + 9), .ref (mo + 10), .ref (mo + 11), .ref (mo + 12), .ref (mo + 13), .ref (mo + 14), .int po, .int dr]) := fp_o.up om
  refine lv_aload_n hx hb d_M_doing_60 rfl (lv_at hl 0 rfl) ?_
  refine fp_get X Y om rfl in_M 0 (by decide) w601 rfl d_M_doing_61 ?_
  refine lv_if_eq (tgt := 68) hx hb d_M_doing_64 (by decide) (fun c_64 => absurd c_64 (by decide)) (fun c_64 => ?_)
  exact ret _ _ _ _ _ d_M_doing_67 ⟨rfl, rfl⟩ Y
set_option maxHeartbeats 4000000 in
set_option maxRecDepth 100000 in
theorem c_M_doing {l : Launch} {D : va_G} {g : Nat → ClassId} {b n : Nat} {A : Nat → Prop} {f : Nat → va_E} {mo : Nat} {th nf na nt po dr : Int32} {zn zd : Nat → Int32} {aj kj dn : Nat} {x y z : Int32} (hkj : kj < 9) (haj : aj < 16) (hin : ¬ q_in (nI aj) na = 0) (hops : ¬ q_ops kj x y z nf = 0) (hdn : dn < 4) (hz4 : zn aj = nI dn) (om : fp_o b n f mo (ob 8 [.int th, .int nf, .ref (mo + 1), .ref (mo + 2), .int na, .ref (mo + 3), .ref (mo + 4), .ref (mo + 5), .int nt, .ref (mo + 6), .ref (mo + 7), .ref (mo + 8), .ref (mo + 9), .ref (mo + 10), .ref (mo + 11), .ref (mo + 12), .ref (mo + 13), .ref (mo + 14), .int po, .int dr])) (o_doings : fp_o b n f (mo + 3) (aI g 16 zn)) (o_doing : fp_o b n f (mo + 4) (aI g 256 zd))  (hA : fp_W b n A := by assumption) : fp_M l D (TY g) b n A y_M_doing (fp_ws y_M_doing b_M_doing 7 none) (rmD 2) [.ref mo, .int (nI aj), .int (nI kj), .int x, .int y, .int z] f (fun v f' => v = none ∧ f' = va_up (va_up (va_up f (mo) (ob 8 [.int 0, .int nf, .ref (mo + 1), .ref (mo + 2), .int na, .ref (mo + 3), .ref (mo + 4), .ref (mo + 5), .int nt, .ref (mo + 6), .ref (mo + 7), .ref (mo + 8), .ref (mo + 9), .ref (mo + 10), .ref (mo + 11), .ref (mo + 12), .ref (mo + 13), .ref (mo + 14), .int po, .int dr])) (mo + 4) (aI g 256 (upd (upd (upd (upd zd (16 * aj + 4 * dn) (nI kj)) (16 * aj + 4 * dn + 1) x) (16 * aj + 4 * dn + 2) y) (16 * aj + 4 * dn + 3) z))) (mo + 3) (aI g 16 (upd zn aj (nI (dn + 1))))) := by
  refine fp_ofV (plainFor_of_name (by decide)) (Nat.le_of_ble_eq_true rfl) ?_
  intro p e s m args below meth c Q ls H locs X Y hl ret
  have hx := X.1.1
  have hb := X.1.2.1
  have hl : lv_has ls 7 [(0, .ref mo), (1, .int (nI aj)), (2, .int (nI kj)), (3, .int x), (4, .int y), (5, .int z)] := hl
  refine lv_aload_n hx hb d_M_doing_0 rfl (lv_at hl 0 rfl) ?_
  refine lv_iload_n hx hb d_M_doing_1 rfl (lv_at hl 2 rfl) ?_
  refine lv_bipush (v := 9) hx hb d_M_doing_2 (by decide) ?_
  refine fp_callS (nA := 2) (As := [.int (nI kj), .int 9]) (rest := [.ref mo]) X Y (c_M_not (nI kj) 9) w680 w678 w679 w9 (by decide +kernel) ⟨rfl, rfl⟩ ⟨Nat.le_of_ble_eq_true rfl, Nat.le_of_ble_eq_true rfl⟩ rfl hl.1 rfl (Nat.le_of_ble_eq_true rfl) d_M_doing_4 ⟨Nat.zero_le _, Nat.zero_le _⟩ (fun v9 f9 H locs hp9 Y => ?_)
  obtain ⟨e8, e9⟩ := hp9
  subst e8
  rw [e9] at Y
  refine W.eq (g2 := F0 m 7 ls [.int (q_nt (nI kj) 9), .ref mo]) rfl ?_
  refine lv_if_eq (tgt := 14) hx hb d_M_doing_7 (by decide) (fun c_7 => ?_) (fun c_7 => absurd (q_nt_0 (q_in_ne (k := 9) hkj (by decide))) c_7)
  refine lv_iload_n hx hb d_M_doing_14 rfl (lv_at hl 1 rfl) ?_
  refine lv_aload_n hx hb d_M_doing_15 rfl (lv_at hl 0 rfl) ?_
  refine fp_get X Y om rfl in_M 4 (by decide) w605 rfl d_M_doing_16 ?_
  refine fp_callS (nA := 2) (As := [.int (nI aj), .int na]) (rest := [.ref mo]) X Y (c_M_not (nI aj) na) w680 w678 w679 w9 (by decide +kernel) ⟨rfl, rfl⟩ ⟨Nat.le_of_ble_eq_true rfl, Nat.le_of_ble_eq_true rfl⟩ rfl hl.1 rfl (Nat.le_of_ble_eq_true rfl) d_M_doing_19 ⟨Nat.zero_le _, Nat.zero_le _⟩ (fun v9 f9 H locs hp9 Y => ?_)
  obtain ⟨e8, e9⟩ := hp9
  subst e8
  rw [e9] at Y
  refine W.eq (g2 := F0 m 22 ls [.int (q_nt (nI aj) na), .ref mo]) rfl ?_
  refine lv_if_ne (tgt := 38) hx hb d_M_doing_22 (by decide) (fun c_22 => absurd (q_nt_0 hin) c_22) (fun c_22 => ?_)
  refine lv_aload_n hx hb d_M_doing_25 rfl (lv_at hl 0 rfl) ?_
  refine lv_iload_n hx hb d_M_doing_26 rfl (lv_at hl 2 rfl) ?_
  refine lv_iload_n hx hb d_M_doing_27 rfl (lv_at hl 3 rfl) ?_
  refine lv_iload hx hb d_M_doing_28 (lv_at hl 4 rfl) ?_
  refine lv_iload hx hb d_M_doing_30 (lv_at hl 5 rfl) ?_
  refine fp_callV (nA := 4) (As := [.int (nI kj), .int x, .int y, .int z]) (rest := [.ref mo]) X Y (c_M_unknown x y z hkj om) om rfl w704 w701 w703 wp17 w9 (by decide +kernel) ⟨rfl, rfl⟩ ⟨Nat.le_of_ble_eq_true rfl, Nat.le_of_ble_eq_true rfl⟩ rfl hl.1 rfl (Nat.le_of_ble_eq_true rfl) d_M_doing_32 ⟨Nat.zero_le _, Nat.zero_le _⟩ (fun v9 f9 H locs hp9 Y => ?_)
  obtain ⟨e8, e9⟩ := hp9
  subst e8
  rw [e9] at Y
  refine W.eq (g2 := F0 m 35 ls [.int (if q_ops kj x y z nf = 0 then 1 else 0), .ref mo]) rfl ?_
  refine lv_if_eq (tgt := 42) hx hb d_M_doing_35 (by decide) (fun c_35 => ?_) (fun c_35 => absurd (if_neg hops) c_35)
  refine lv_aload_n hx hb d_M_doing_42 rfl (lv_at hl 0 rfl) ?_
  refine fp_get X Y om rfl in_M 5 (by decide) w606 rfl d_M_doing_43 ?_
  refine lv_iload_n hx hb d_M_doing_46 rfl (lv_at hl 1 rfl) ?_
  refine fp_ild X Y o_doings aj rfl (by omega) (by decide) d_M_doing_47 ?_
  rw [hz4]
  refine lv_iconst (v := 4) hx hb d_M_doing_48 (by decide) ?_
  refine lv_icmp_ne (tgt := 56) hx hb d_M_doing_49 (by decide) (fun c_49 => ?_) (fun c_49 => absurd c_49 (fun q => absurd ((nI_eq (by omega) (by decide)).mp (show nI dn = nI 4 from q)) (by omega)))
  refine lv_iconst (v := 0) hx hb d_M_doing_56 (by decide) ?_
  refine fp_put X Y om rfl in_M to_M nm_M 0 (by decide) w601 rfl rfl rfl (Nat.le_of_ble_eq_true rfl) d_M_doing_57 (fun H locs Y => ?_)
  have ne_1 : mo + 3 ≠ mo := (fp_o.nf o_doings om (by simp))
  have ne_2 : mo + 4 ≠ mo := (fp_o.nf o_doing om (by simp))
  have Y : fp_H D b n A (va_up f mo (ob 8 [.int 0, .int nf, .ref (mo + 1), .ref (mo + 2), .int na, .ref (mo + 3), .ref (mo + 4), .ref (mo + 5), .int nt, .ref (mo + 6), .ref (mo + 7), .ref (mo + 8), .ref (mo + 9), .ref (mo + 10), .ref (mo + 11), .ref (mo + 12), .ref (mo + 13), .ref (mo + 14), .int po, .int dr])) s.heap H locs := Y
  have o_doings : fp_o b n (va_up f mo (ob 8 [.int 0, .int nf, .ref (mo + 1), .ref (mo + 2), .int na, .ref (mo + 3), .ref (mo + 4), .ref (mo + 5), .int nt, .ref (mo + 6), .ref (mo + 7), .ref (mo + 8), .ref (mo + 9), .ref (mo + 10), .ref (mo + 11), .ref (mo + 12), .ref (mo + 13), .ref (mo + 14), .int po, .int dr])) (mo + 3) (aI g 16 zn) := fp_o.ne o_doings ne_1
  have o_doing : fp_o b n (va_up f mo (ob 8 [.int 0, .int nf, .ref (mo + 1), .ref (mo + 2), .int na, .ref (mo + 3), .ref (mo + 4), .ref (mo + 5), .int nt, .ref (mo + 6), .ref (mo + 7), .ref (mo + 8), .ref (mo + 9), .ref (mo + 10), .ref (mo + 11), .ref (mo + 12), .ref (mo + 13), .ref (mo + 14), .int po, .int dr])) (mo + 4) (aI g 256 zd) := fp_o.ne o_doing ne_2
  have om : fp_o b n (va_up f mo (ob 8 [.int 0, .int nf, .ref (mo + 1), .ref (mo + 2), .int na, .ref (mo + 3), .ref (mo + 4), .ref (mo + 5), .int nt, .ref (mo + 6), .ref (mo + 7), .ref (mo + 8), .ref (mo + 9), .ref (mo + 10), .ref (mo + 11), .ref (mo + 12), .ref (mo + 13), .ref (mo + 14), .int po, .int dr])) mo (ob 8 [.int 0, .int nf, .ref (mo + 1), .ref (mo + 2), .int na, .ref (mo + 3), .ref (mo + 4), .ref (mo + 5), .int nt, .ref (mo + 6), .ref (mo + 7), .ref (mo + 8), .ref (mo + 9), .ref (mo + 10), .ref (mo + 11), .ref (mo + 12), .ref (mo + 13), .ref (mo + 14), .int po, .int dr]) := fp_o.up om
  refine lv_aload_n hx hb d_M_doing_60 rfl (lv_at hl 0 rfl) ?_
  refine fp_get X Y om rfl in_M 0 (by decide) w601 rfl d_M_doing_61 ?_
  refine lv_if_eq (tgt := 68) hx hb d_M_doing_64 (by decide) (fun c_64 => ?_) (fun c_64 => absurd rfl c_64)
  refine lv_bipush (v := 16) hx hb d_M_doing_68 (by decide) ?_
  refine lv_iload_n hx hb d_M_doing_70 rfl (lv_at hl 1 rfl) ?_
  refine lv_imul hx hb d_M_doing_71 ?_
  refine lv_iconst (v := 4) hx hb d_M_doing_72 (by decide) ?_
  refine lv_aload_n hx hb d_M_doing_73 rfl (lv_at hl 0 rfl) ?_
  refine fp_get X Y om rfl in_M 5 (by decide) w606 rfl d_M_doing_74 ?_
  refine lv_iload_n hx hb d_M_doing_77 rfl (lv_at hl 1 rfl) ?_
  refine fp_ild X Y o_doings aj rfl (by omega) (by decide) d_M_doing_78 ?_
  rw [hz4]
  refine lv_imul hx hb d_M_doing_79 ?_
  refine lv_iadd hx hb d_M_doing_80 ?_
  rw [q_at4]
  refine lv_istore (lv' := [(6, .int (nI (16 * aj + 4 * dn))), (0, .ref mo), (1, .int (nI aj)), (2, .int (nI kj)), (3, .int x), (4, .int y), (5, .int z)]) hx hb d_M_doing_81 hl (by decide) rfl (fun ls hl => ?_)
  refine lv_aload_n hx hb d_M_doing_83 rfl (lv_at hl 1 rfl) ?_
  refine fp_get X Y om rfl in_M 6 (by decide) w607 rfl d_M_doing_84 ?_
  refine lv_iload hx hb d_M_doing_87 (lv_at hl 0 rfl) ?_
  refine lv_iload_n hx hb d_M_doing_89 rfl (lv_at hl 3 rfl) ?_
  refine fp_ist X Y o_doing (16 * aj + 4 * dn) rfl (by omega) (by decide) d_M_doing_90 (fun H locs Y => ?_)
  have ne_3 : mo ≠ mo + 4 := (fp_o.nf om o_doing (by simp))
  have ne_4 : mo + 3 ≠ mo + 4 := (by omega)
  have Y : fp_H D b n A (va_up (va_up f mo (ob 8 [.int 0, .int nf, .ref (mo + 1), .ref (mo + 2), .int na, .ref (mo + 3), .ref (mo + 4), .ref (mo + 5), .int nt, .ref (mo + 6), .ref (mo + 7), .ref (mo + 8), .ref (mo + 9), .ref (mo + 10), .ref (mo + 11), .ref (mo + 12), .ref (mo + 13), .ref (mo + 14), .int po, .int dr])) (mo + 4) (aI g 256 (upd zd (16 * aj + 4 * dn) (nI kj)))) s.heap H locs := Y
  have om : fp_o b n (va_up (va_up f mo (ob 8 [.int 0, .int nf, .ref (mo + 1), .ref (mo + 2), .int na, .ref (mo + 3), .ref (mo + 4), .ref (mo + 5), .int nt, .ref (mo + 6), .ref (mo + 7), .ref (mo + 8), .ref (mo + 9), .ref (mo + 10), .ref (mo + 11), .ref (mo + 12), .ref (mo + 13), .ref (mo + 14), .int po, .int dr])) (mo + 4) (aI g 256 (upd zd (16 * aj + 4 * dn) (nI kj)))) mo (ob 8 [.int 0, .int nf, .ref (mo + 1), .ref (mo + 2), .int na, .ref (mo + 3), .ref (mo + 4), .ref (mo + 5), .int nt, .ref (mo + 6), .ref (mo + 7), .ref (mo + 8), .ref (mo + 9), .ref (mo + 10), .ref (mo + 11), .ref (mo + 12), .ref (mo + 13), .ref (mo + 14), .int po, .int dr]) := fp_o.ne om ne_3
  have o_doings : fp_o b n (va_up (va_up f mo (ob 8 [.int 0, .int nf, .ref (mo + 1), .ref (mo + 2), .int na, .ref (mo + 3), .ref (mo + 4), .ref (mo + 5), .int nt, .ref (mo + 6), .ref (mo + 7), .ref (mo + 8), .ref (mo + 9), .ref (mo + 10), .ref (mo + 11), .ref (mo + 12), .ref (mo + 13), .ref (mo + 14), .int po, .int dr])) (mo + 4) (aI g 256 (upd zd (16 * aj + 4 * dn) (nI kj)))) (mo + 3) (aI g 16 zn) := fp_o.ne o_doings ne_4
  have o_doing : fp_o b n (va_up (va_up f mo (ob 8 [.int 0, .int nf, .ref (mo + 1), .ref (mo + 2), .int na, .ref (mo + 3), .ref (mo + 4), .ref (mo + 5), .int nt, .ref (mo + 6), .ref (mo + 7), .ref (mo + 8), .ref (mo + 9), .ref (mo + 10), .ref (mo + 11), .ref (mo + 12), .ref (mo + 13), .ref (mo + 14), .int po, .int dr])) (mo + 4) (aI g 256 (upd zd (16 * aj + 4 * dn) (nI kj)))) (mo + 4) (aI g 256 (upd zd (16 * aj + 4 * dn) (nI kj))) := fp_o.up o_doing
  refine lv_aload_n hx hb d_M_doing_91 rfl (lv_at hl 1 rfl) ?_
  refine fp_get X Y om rfl in_M 6 (by decide) w607 rfl d_M_doing_92 ?_
  refine lv_iload hx hb d_M_doing_95 (lv_at hl 0 rfl) ?_
  refine lv_iconst (v := 1) hx hb d_M_doing_97 (by decide) ?_
  refine lv_iadd hx hb d_M_doing_98 ?_
  refine lv_iload_n hx hb d_M_doing_99 rfl (lv_at hl 4 rfl) ?_
  refine fp_ist X Y o_doing ((16 * aj + 4 * dn) + 1) (nI_add (16 * aj + 4 * dn) 1) (by omega) (by decide) d_M_doing_100 (fun H locs Y => ?_)
  have ne_5 : mo ≠ mo + 4 := (fp_o.nf om o_doing (by simp))
  have ne_6 : mo + 3 ≠ mo + 4 := (by omega)
  have Y := Y.re
  have Y : fp_H D b n A (va_up (va_up f mo (ob 8 [.int 0, .int nf, .ref (mo + 1), .ref (mo + 2), .int na, .ref (mo + 3), .ref (mo + 4), .ref (mo + 5), .int nt, .ref (mo + 6), .ref (mo + 7), .ref (mo + 8), .ref (mo + 9), .ref (mo + 10), .ref (mo + 11), .ref (mo + 12), .ref (mo + 13), .ref (mo + 14), .int po, .int dr])) (mo + 4) (aI g 256 (upd (upd zd (16 * aj + 4 * dn) (nI kj)) ((16 * aj + 4 * dn) + 1) x))) s.heap H locs := Y
  have om : fp_o b n (va_up (va_up f mo (ob 8 [.int 0, .int nf, .ref (mo + 1), .ref (mo + 2), .int na, .ref (mo + 3), .ref (mo + 4), .ref (mo + 5), .int nt, .ref (mo + 6), .ref (mo + 7), .ref (mo + 8), .ref (mo + 9), .ref (mo + 10), .ref (mo + 11), .ref (mo + 12), .ref (mo + 13), .ref (mo + 14), .int po, .int dr])) (mo + 4) (aI g 256 (upd (upd zd (16 * aj + 4 * dn) (nI kj)) ((16 * aj + 4 * dn) + 1) x))) mo (ob 8 [.int 0, .int nf, .ref (mo + 1), .ref (mo + 2), .int na, .ref (mo + 3), .ref (mo + 4), .ref (mo + 5), .int nt, .ref (mo + 6), .ref (mo + 7), .ref (mo + 8), .ref (mo + 9), .ref (mo + 10), .ref (mo + 11), .ref (mo + 12), .ref (mo + 13), .ref (mo + 14), .int po, .int dr]) := fp_o.re om ne_5
  have o_doings : fp_o b n (va_up (va_up f mo (ob 8 [.int 0, .int nf, .ref (mo + 1), .ref (mo + 2), .int na, .ref (mo + 3), .ref (mo + 4), .ref (mo + 5), .int nt, .ref (mo + 6), .ref (mo + 7), .ref (mo + 8), .ref (mo + 9), .ref (mo + 10), .ref (mo + 11), .ref (mo + 12), .ref (mo + 13), .ref (mo + 14), .int po, .int dr])) (mo + 4) (aI g 256 (upd (upd zd (16 * aj + 4 * dn) (nI kj)) ((16 * aj + 4 * dn) + 1) x))) (mo + 3) (aI g 16 zn) := fp_o.re o_doings ne_6
  have o_doing : fp_o b n (va_up (va_up f mo (ob 8 [.int 0, .int nf, .ref (mo + 1), .ref (mo + 2), .int na, .ref (mo + 3), .ref (mo + 4), .ref (mo + 5), .int nt, .ref (mo + 6), .ref (mo + 7), .ref (mo + 8), .ref (mo + 9), .ref (mo + 10), .ref (mo + 11), .ref (mo + 12), .ref (mo + 13), .ref (mo + 14), .int po, .int dr])) (mo + 4) (aI g 256 (upd (upd zd (16 * aj + 4 * dn) (nI kj)) ((16 * aj + 4 * dn) + 1) x))) (mo + 4) (aI g 256 (upd (upd zd (16 * aj + 4 * dn) (nI kj)) ((16 * aj + 4 * dn) + 1) x)) := fp_o.rs o_doing
  refine lv_aload_n hx hb d_M_doing_101 rfl (lv_at hl 1 rfl) ?_
  refine fp_get X Y om rfl in_M 6 (by decide) w607 rfl d_M_doing_102 ?_
  refine lv_iload hx hb d_M_doing_105 (lv_at hl 0 rfl) ?_
  refine lv_iconst (v := 2) hx hb d_M_doing_107 (by decide) ?_
  refine lv_iadd hx hb d_M_doing_108 ?_
  refine lv_iload hx hb d_M_doing_109 (lv_at hl 5 rfl) ?_
  refine fp_ist X Y o_doing ((16 * aj + 4 * dn) + 2) (nI_add (16 * aj + 4 * dn) 2) (by omega) (by decide) d_M_doing_111 (fun H locs Y => ?_)
  have ne_7 : mo ≠ mo + 4 := (fp_o.nf om o_doing (by simp))
  have ne_8 : mo + 3 ≠ mo + 4 := (by omega)
  have Y := Y.re
  have Y : fp_H D b n A (va_up (va_up f mo (ob 8 [.int 0, .int nf, .ref (mo + 1), .ref (mo + 2), .int na, .ref (mo + 3), .ref (mo + 4), .ref (mo + 5), .int nt, .ref (mo + 6), .ref (mo + 7), .ref (mo + 8), .ref (mo + 9), .ref (mo + 10), .ref (mo + 11), .ref (mo + 12), .ref (mo + 13), .ref (mo + 14), .int po, .int dr])) (mo + 4) (aI g 256 (upd (upd (upd zd (16 * aj + 4 * dn) (nI kj)) ((16 * aj + 4 * dn) + 1) x) ((16 * aj + 4 * dn) + 2) y))) s.heap H locs := Y
  have om : fp_o b n (va_up (va_up f mo (ob 8 [.int 0, .int nf, .ref (mo + 1), .ref (mo + 2), .int na, .ref (mo + 3), .ref (mo + 4), .ref (mo + 5), .int nt, .ref (mo + 6), .ref (mo + 7), .ref (mo + 8), .ref (mo + 9), .ref (mo + 10), .ref (mo + 11), .ref (mo + 12), .ref (mo + 13), .ref (mo + 14), .int po, .int dr])) (mo + 4) (aI g 256 (upd (upd (upd zd (16 * aj + 4 * dn) (nI kj)) ((16 * aj + 4 * dn) + 1) x) ((16 * aj + 4 * dn) + 2) y))) mo (ob 8 [.int 0, .int nf, .ref (mo + 1), .ref (mo + 2), .int na, .ref (mo + 3), .ref (mo + 4), .ref (mo + 5), .int nt, .ref (mo + 6), .ref (mo + 7), .ref (mo + 8), .ref (mo + 9), .ref (mo + 10), .ref (mo + 11), .ref (mo + 12), .ref (mo + 13), .ref (mo + 14), .int po, .int dr]) := fp_o.re om ne_7
  have o_doings : fp_o b n (va_up (va_up f mo (ob 8 [.int 0, .int nf, .ref (mo + 1), .ref (mo + 2), .int na, .ref (mo + 3), .ref (mo + 4), .ref (mo + 5), .int nt, .ref (mo + 6), .ref (mo + 7), .ref (mo + 8), .ref (mo + 9), .ref (mo + 10), .ref (mo + 11), .ref (mo + 12), .ref (mo + 13), .ref (mo + 14), .int po, .int dr])) (mo + 4) (aI g 256 (upd (upd (upd zd (16 * aj + 4 * dn) (nI kj)) ((16 * aj + 4 * dn) + 1) x) ((16 * aj + 4 * dn) + 2) y))) (mo + 3) (aI g 16 zn) := fp_o.re o_doings ne_8
  have o_doing : fp_o b n (va_up (va_up f mo (ob 8 [.int 0, .int nf, .ref (mo + 1), .ref (mo + 2), .int na, .ref (mo + 3), .ref (mo + 4), .ref (mo + 5), .int nt, .ref (mo + 6), .ref (mo + 7), .ref (mo + 8), .ref (mo + 9), .ref (mo + 10), .ref (mo + 11), .ref (mo + 12), .ref (mo + 13), .ref (mo + 14), .int po, .int dr])) (mo + 4) (aI g 256 (upd (upd (upd zd (16 * aj + 4 * dn) (nI kj)) ((16 * aj + 4 * dn) + 1) x) ((16 * aj + 4 * dn) + 2) y))) (mo + 4) (aI g 256 (upd (upd (upd zd (16 * aj + 4 * dn) (nI kj)) ((16 * aj + 4 * dn) + 1) x) ((16 * aj + 4 * dn) + 2) y)) := fp_o.rs o_doing
  refine lv_aload_n hx hb d_M_doing_112 rfl (lv_at hl 1 rfl) ?_
  refine fp_get X Y om rfl in_M 6 (by decide) w607 rfl d_M_doing_113 ?_
  refine lv_iload hx hb d_M_doing_116 (lv_at hl 0 rfl) ?_
  refine lv_iconst (v := 3) hx hb d_M_doing_118 (by decide) ?_
  refine lv_iadd hx hb d_M_doing_119 ?_
  refine lv_iload hx hb d_M_doing_120 (lv_at hl 6 rfl) ?_
  refine fp_ist X Y o_doing ((16 * aj + 4 * dn) + 3) (nI_add (16 * aj + 4 * dn) 3) (by omega) (by decide) d_M_doing_122 (fun H locs Y => ?_)
  have ne_9 : mo ≠ mo + 4 := (fp_o.nf om o_doing (by simp))
  have ne_10 : mo + 3 ≠ mo + 4 := (by omega)
  have Y := Y.re
  have Y : fp_H D b n A (va_up (va_up f mo (ob 8 [.int 0, .int nf, .ref (mo + 1), .ref (mo + 2), .int na, .ref (mo + 3), .ref (mo + 4), .ref (mo + 5), .int nt, .ref (mo + 6), .ref (mo + 7), .ref (mo + 8), .ref (mo + 9), .ref (mo + 10), .ref (mo + 11), .ref (mo + 12), .ref (mo + 13), .ref (mo + 14), .int po, .int dr])) (mo + 4) (aI g 256 (upd (upd (upd (upd zd (16 * aj + 4 * dn) (nI kj)) ((16 * aj + 4 * dn) + 1) x) ((16 * aj + 4 * dn) + 2) y) ((16 * aj + 4 * dn) + 3) z))) s.heap H locs := Y
  have om : fp_o b n (va_up (va_up f mo (ob 8 [.int 0, .int nf, .ref (mo + 1), .ref (mo + 2), .int na, .ref (mo + 3), .ref (mo + 4), .ref (mo + 5), .int nt, .ref (mo + 6), .ref (mo + 7), .ref (mo + 8), .ref (mo + 9), .ref (mo + 10), .ref (mo + 11), .ref (mo + 12), .ref (mo + 13), .ref (mo + 14), .int po, .int dr])) (mo + 4) (aI g 256 (upd (upd (upd (upd zd (16 * aj + 4 * dn) (nI kj)) ((16 * aj + 4 * dn) + 1) x) ((16 * aj + 4 * dn) + 2) y) ((16 * aj + 4 * dn) + 3) z))) mo (ob 8 [.int 0, .int nf, .ref (mo + 1), .ref (mo + 2), .int na, .ref (mo + 3), .ref (mo + 4), .ref (mo + 5), .int nt, .ref (mo + 6), .ref (mo + 7), .ref (mo + 8), .ref (mo + 9), .ref (mo + 10), .ref (mo + 11), .ref (mo + 12), .ref (mo + 13), .ref (mo + 14), .int po, .int dr]) := fp_o.re om ne_9
  have o_doings : fp_o b n (va_up (va_up f mo (ob 8 [.int 0, .int nf, .ref (mo + 1), .ref (mo + 2), .int na, .ref (mo + 3), .ref (mo + 4), .ref (mo + 5), .int nt, .ref (mo + 6), .ref (mo + 7), .ref (mo + 8), .ref (mo + 9), .ref (mo + 10), .ref (mo + 11), .ref (mo + 12), .ref (mo + 13), .ref (mo + 14), .int po, .int dr])) (mo + 4) (aI g 256 (upd (upd (upd (upd zd (16 * aj + 4 * dn) (nI kj)) ((16 * aj + 4 * dn) + 1) x) ((16 * aj + 4 * dn) + 2) y) ((16 * aj + 4 * dn) + 3) z))) (mo + 3) (aI g 16 zn) := fp_o.re o_doings ne_10
  have o_doing : fp_o b n (va_up (va_up f mo (ob 8 [.int 0, .int nf, .ref (mo + 1), .ref (mo + 2), .int na, .ref (mo + 3), .ref (mo + 4), .ref (mo + 5), .int nt, .ref (mo + 6), .ref (mo + 7), .ref (mo + 8), .ref (mo + 9), .ref (mo + 10), .ref (mo + 11), .ref (mo + 12), .ref (mo + 13), .ref (mo + 14), .int po, .int dr])) (mo + 4) (aI g 256 (upd (upd (upd (upd zd (16 * aj + 4 * dn) (nI kj)) ((16 * aj + 4 * dn) + 1) x) ((16 * aj + 4 * dn) + 2) y) ((16 * aj + 4 * dn) + 3) z))) (mo + 4) (aI g 256 (upd (upd (upd (upd zd (16 * aj + 4 * dn) (nI kj)) ((16 * aj + 4 * dn) + 1) x) ((16 * aj + 4 * dn) + 2) y) ((16 * aj + 4 * dn) + 3) z)) := fp_o.rs o_doing
  refine lv_aload_n hx hb d_M_doing_123 rfl (lv_at hl 1 rfl) ?_
  refine fp_get X Y om rfl in_M 5 (by decide) w606 rfl d_M_doing_124 ?_
  refine lv_iload_n hx hb d_M_doing_127 rfl (lv_at hl 2 rfl) ?_
  refine lv_aload_n hx hb d_M_doing_128 rfl (lv_at hl 1 rfl) ?_
  refine fp_get X Y om rfl in_M 5 (by decide) w606 rfl d_M_doing_129 ?_
  refine lv_iload_n hx hb d_M_doing_132 rfl (lv_at hl 2 rfl) ?_
  refine fp_ild X Y o_doings aj rfl (by omega) (by decide) d_M_doing_133 ?_
  rw [hz4]
  refine lv_iconst (v := 1) hx hb d_M_doing_134 (by decide) ?_
  refine lv_iadd hx hb d_M_doing_135 ?_
  refine fp_ist X Y o_doings aj rfl (by omega) (by decide) d_M_doing_136 (fun H locs Y => ?_)
  have ne_11 : mo ≠ mo + 3 := (fp_o.nf om o_doings (by simp))
  have ne_12 : mo + 4 ≠ mo + 3 := (by omega)
  have Y : fp_H D b n A (va_up (va_up (va_up f mo (ob 8 [.int 0, .int nf, .ref (mo + 1), .ref (mo + 2), .int na, .ref (mo + 3), .ref (mo + 4), .ref (mo + 5), .int nt, .ref (mo + 6), .ref (mo + 7), .ref (mo + 8), .ref (mo + 9), .ref (mo + 10), .ref (mo + 11), .ref (mo + 12), .ref (mo + 13), .ref (mo + 14), .int po, .int dr])) (mo + 4) (aI g 256 (upd (upd (upd (upd zd (16 * aj + 4 * dn) (nI kj)) ((16 * aj + 4 * dn) + 1) x) ((16 * aj + 4 * dn) + 2) y) ((16 * aj + 4 * dn) + 3) z))) (mo + 3) (aI g 16 (upd zn aj ((nI dn) + 1)))) s.heap H locs := Y
  have om : fp_o b n (va_up (va_up (va_up f mo (ob 8 [.int 0, .int nf, .ref (mo + 1), .ref (mo + 2), .int na, .ref (mo + 3), .ref (mo + 4), .ref (mo + 5), .int nt, .ref (mo + 6), .ref (mo + 7), .ref (mo + 8), .ref (mo + 9), .ref (mo + 10), .ref (mo + 11), .ref (mo + 12), .ref (mo + 13), .ref (mo + 14), .int po, .int dr])) (mo + 4) (aI g 256 (upd (upd (upd (upd zd (16 * aj + 4 * dn) (nI kj)) ((16 * aj + 4 * dn) + 1) x) ((16 * aj + 4 * dn) + 2) y) ((16 * aj + 4 * dn) + 3) z))) (mo + 3) (aI g 16 (upd zn aj ((nI dn) + 1)))) mo (ob 8 [.int 0, .int nf, .ref (mo + 1), .ref (mo + 2), .int na, .ref (mo + 3), .ref (mo + 4), .ref (mo + 5), .int nt, .ref (mo + 6), .ref (mo + 7), .ref (mo + 8), .ref (mo + 9), .ref (mo + 10), .ref (mo + 11), .ref (mo + 12), .ref (mo + 13), .ref (mo + 14), .int po, .int dr]) := fp_o.ne om ne_11
  have o_doing : fp_o b n (va_up (va_up (va_up f mo (ob 8 [.int 0, .int nf, .ref (mo + 1), .ref (mo + 2), .int na, .ref (mo + 3), .ref (mo + 4), .ref (mo + 5), .int nt, .ref (mo + 6), .ref (mo + 7), .ref (mo + 8), .ref (mo + 9), .ref (mo + 10), .ref (mo + 11), .ref (mo + 12), .ref (mo + 13), .ref (mo + 14), .int po, .int dr])) (mo + 4) (aI g 256 (upd (upd (upd (upd zd (16 * aj + 4 * dn) (nI kj)) ((16 * aj + 4 * dn) + 1) x) ((16 * aj + 4 * dn) + 2) y) ((16 * aj + 4 * dn) + 3) z))) (mo + 3) (aI g 16 (upd zn aj ((nI dn) + 1)))) (mo + 4) (aI g 256 (upd (upd (upd (upd zd (16 * aj + 4 * dn) (nI kj)) ((16 * aj + 4 * dn) + 1) x) ((16 * aj + 4 * dn) + 2) y) ((16 * aj + 4 * dn) + 3) z)) := fp_o.ne o_doing ne_12
  have o_doings : fp_o b n (va_up (va_up (va_up f mo (ob 8 [.int 0, .int nf, .ref (mo + 1), .ref (mo + 2), .int na, .ref (mo + 3), .ref (mo + 4), .ref (mo + 5), .int nt, .ref (mo + 6), .ref (mo + 7), .ref (mo + 8), .ref (mo + 9), .ref (mo + 10), .ref (mo + 11), .ref (mo + 12), .ref (mo + 13), .ref (mo + 14), .int po, .int dr])) (mo + 4) (aI g 256 (upd (upd (upd (upd zd (16 * aj + 4 * dn) (nI kj)) ((16 * aj + 4 * dn) + 1) x) ((16 * aj + 4 * dn) + 2) y) ((16 * aj + 4 * dn) + 3) z))) (mo + 3) (aI g 16 (upd zn aj ((nI dn) + 1)))) (mo + 3) (aI g 16 (upd zn aj ((nI dn) + 1))) := fp_o.up o_doings
  exact ret _ _ _ _ _ d_M_doing_137 ⟨rfl, by rw [← nI_1]⟩ Y
set_option maxHeartbeats 4000000 in
set_option maxRecDepth 100000 in
theorem c_M_table_t1 {l : Launch} {D : va_G} {g : Nat → ClassId} {b n : Nat} {A : Nat → Prop} {f : Nat → va_E} {mo : Nat} {th nf na nt po dr : Int32} {x1 x2 x3 x4 x5 : Int32} (hu : q_un x1 x2 x4 x5 nf na = 1) (om : fp_o b n f mo (ob 8 [.int th, .int nf, .ref (mo + 1), .ref (mo + 2), .int na, .ref (mo + 3), .ref (mo + 4), .ref (mo + 5), .int nt, .ref (mo + 6), .ref (mo + 7), .ref (mo + 8), .ref (mo + 9), .ref (mo + 10), .ref (mo + 11), .ref (mo + 12), .ref (mo + 13), .ref (mo + 14), .int po, .int dr]))  (hA : fp_W b n A := by assumption) : fp_M l D (TY g) b n A y_M_table (fp_ws y_M_table b_M_table 8 (some FieldType.int)) (rmD 1) [.ref mo, .int x1, .int x2, .int x3, .int x4, .int x5] f (fun v f' => v = some (.int 0) ∧ f' = va_up f mo (ob 8 [.int 1, .int nf, .ref (mo + 1), .ref (mo + 2), .int na, .ref (mo + 3), .ref (mo + 4), .ref (mo + 5), .int nt, .ref (mo + 6), .ref (mo + 7), .ref (mo + 8), .ref (mo + 9), .ref (mo + 10), .ref (mo + 11), .ref (mo + 12), .ref (mo + 13), .ref (mo + 14), .int po, .int dr])) := by
  refine fp_ofI (plainFor_of_name (by decide)) (Nat.le_of_ble_eq_true rfl) ?_
  intro p e s m args below meth c Q ls H locs X Y hl ret
  have hx := X.1.1
  have hb := X.1.2.1
  have hl : lv_has ls 8 [(0, .ref mo), (1, .int x1), (2, .int x2), (3, .int x3), (4, .int x4), (5, .int x5)] := hl
  have j122 : ∀ (v9 : Int32) (H : Heap) (locs : List Loc), fp_H D b n A f s.heap H locs → ∀ ls : Array Slot, lv_has ls 8 [(7, .int v9), (6, .int 1), (0, .ref mo), (1, .int x1), (2, .int x2), (3, .int x3), (4, .int x4), (5, .int x5)] → W p l e (rmD 1) s m args below meth c H locs 0 0 Q (F0 m 122 ls []) := by
    intro v9 H locs Y ls hl
    refine lv_aload_n hx hb d_M_table_122 rfl (lv_at hl 2 rfl) ?_
    refine lv_iload hx hb d_M_table_123 (lv_at hl 1 rfl) ?_
    refine lv_if_eq (tgt := 132) hx hb d_M_table_125 (by decide) (fun c_125 => absurd c_125 (by decide)) (fun c_125 => ?_)
    refine lv_iconst (v := 1) hx hb d_M_table_128 (by decide) ?_
    refine lv_goto (tgt := 155) hx hb d_M_table_129 (by decide) ?_
    refine fp_put X Y om rfl in_M to_M nm_M 0 (by decide) w601 rfl rfl rfl (Nat.le_of_ble_eq_true rfl) d_M_table_155 (fun H locs Y => ?_)
    have Y : fp_H D b n A (va_up f mo (ob 8 [.int 1, .int nf, .ref (mo + 1), .ref (mo + 2), .int na, .ref (mo + 3), .ref (mo + 4), .ref (mo + 5), .int nt, .ref (mo + 6), .ref (mo + 7), .ref (mo + 8), .ref (mo + 9), .ref (mo + 10), .ref (mo + 11), .ref (mo + 12), .ref (mo + 13), .ref (mo + 14), .int po, .int dr])) s.heap H locs := Y
    have om : fp_o b n (va_up f mo (ob 8 [.int 1, .int nf, .ref (mo + 1), .ref (mo + 2), .int na, .ref (mo + 3), .ref (mo + 4), .ref (mo + 5), .int nt, .ref (mo + 6), .ref (mo + 7), .ref (mo + 8), .ref (mo + 9), .ref (mo + 10), .ref (mo + 11), .ref (mo + 12), .ref (mo + 13), .ref (mo + 14), .int po, .int dr])) mo (ob 8 [.int 1, .int nf, .ref (mo + 1), .ref (mo + 2), .int na, .ref (mo + 3), .ref (mo + 4), .ref (mo + 5), .int nt, .ref (mo + 6), .ref (mo + 7), .ref (mo + 8), .ref (mo + 9), .ref (mo + 10), .ref (mo + 11), .ref (mo + 12), .ref (mo + 13), .ref (mo + 14), .int po, .int dr]) := fp_o.up om
    refine lv_aload_n hx hb d_M_table_158 rfl (lv_at hl 2 rfl) ?_
    refine fp_get X Y om rfl in_M 0 (by decide) w601 rfl d_M_table_159 ?_
    refine lv_if_eq (tgt := 167) hx hb d_M_table_162 (by decide) (fun c_162 => absurd c_162 (by decide)) (fun c_162 => ?_)
    refine lv_iconst (v := 0) hx hb d_M_table_165 (by decide) ?_
    exact ret _ _ _ _ _ _ d_M_table_166 ⟨_, rfl, rfl⟩ ⟨rfl, rfl⟩ Y
  have j83 : ∀ (H : Heap) (locs : List Loc), fp_H D b n A f s.heap H locs → ∀ ls : Array Slot, lv_has ls 8 [(6, .int 1), (0, .ref mo), (1, .int x1), (2, .int x2), (3, .int x3), (4, .int x4), (5, .int x5)] → W p l e (rmD 1) s m args below meth c H locs 0 0 Q (F0 m 83 ls []) := by
    intro H locs Y ls hl
    refine lv_iload_n hx hb d_M_table_83 rfl (lv_at hl 4 rfl) ?_
    refine lv_if_lt (tgt := 115) hx hb d_M_table_84 (by decide) (fun c_84 => ?_) (fun c_84 => ?_)
    · refine lv_iconst (v := 1) hx hb d_M_table_115 (by decide) ?_
      refine lv_goto (tgt := 120) hx hb d_M_table_116 (by decide) ?_
      refine lv_istore (lv' := [(7, .int 1), (6, .int 1), (0, .ref mo), (1, .int x1), (2, .int x2), (3, .int x3), (4, .int x4), (5, .int x5)]) hx hb d_M_table_120 hl (by decide) rfl (fun ls hl => ?_)
      exact j122 _ _ _ Y ls (lv_sub hl [0, 1, 2, 3, 4, 5, 6, 7] rfl)
    · refine lv_iload_n hx hb d_M_table_87 rfl (lv_at hl 4 rfl) ?_
      refine lv_bipush (v := 10) hx hb d_M_table_88 (by decide) ?_
      refine lv_icmp_gt (tgt := 115) hx hb d_M_table_90 (by decide) (fun c_90 => ?_) (fun c_90 => ?_)
      · refine lv_iconst (v := 1) hx hb d_M_table_115 (by decide) ?_
        refine lv_goto (tgt := 120) hx hb d_M_table_116 (by decide) ?_
        refine lv_istore (lv' := [(7, .int 1), (6, .int 1), (0, .ref mo), (1, .int x1), (2, .int x2), (3, .int x3), (4, .int x4), (5, .int x5)]) hx hb d_M_table_120 hl (by decide) rfl (fun ls hl => ?_)
        exact j122 _ _ _ Y ls (lv_sub hl [0, 1, 2, 3, 4, 5, 6, 7] rfl)
      · refine lv_iload_n hx hb d_M_table_93 rfl (lv_at hl 4 rfl) ?_
        refine lv_iconst (v := 4) hx hb d_M_table_94 (by decide) ?_
        refine lv_irem hx hb d_M_table_95 (by decide) ?_
        refine lv_iconst (v := 3) hx hb d_M_table_96 (by decide) ?_
        refine lv_icmp_eq (tgt := 115) hx hb d_M_table_97 (by decide) (fun c_97 => ?_) (fun c_97 => ?_)
        · refine lv_iconst (v := 1) hx hb d_M_table_115 (by decide) ?_
          refine lv_goto (tgt := 120) hx hb d_M_table_116 (by decide) ?_
          refine lv_istore (lv' := [(7, .int 1), (6, .int 1), (0, .ref mo), (1, .int x1), (2, .int x2), (3, .int x3), (4, .int x4), (5, .int x5)]) hx hb d_M_table_120 hl (by decide) rfl (fun ls hl => ?_)
          exact j122 _ _ _ Y ls (lv_sub hl [0, 1, 2, 3, 4, 5, 6, 7] rfl)
        · refine lv_iload_n hx hb d_M_table_100 rfl (lv_at hl 3 rfl) ?_
          refine lv_iconst (v := -1) hx hb d_M_table_101 (by decide) ?_
          refine lv_icmp_ne (tgt := 110) hx hb d_M_table_102 (by decide) (fun c_102 => ?_) (fun c_102 => ?_)
          · refine lv_iload_n hx hb d_M_table_110 rfl (lv_at hl 4 rfl) ?_
            refine lv_iconst (v := 5) hx hb d_M_table_111 (by decide) ?_
            refine lv_icmp_ne (tgt := 119) hx hb d_M_table_112 (by decide) (fun c_112 => ?_) (fun c_112 => ?_)
            · refine lv_iconst (v := 0) hx hb d_M_table_119 (by decide) ?_
              refine lv_istore (lv' := [(7, .int 0), (6, .int 1), (0, .ref mo), (1, .int x1), (2, .int x2), (3, .int x3), (4, .int x4), (5, .int x5)]) hx hb d_M_table_120 hl (by decide) rfl (fun ls hl => ?_)
              exact j122 _ _ _ Y ls (lv_sub hl [0, 1, 2, 3, 4, 5, 6, 7] rfl)
            · refine lv_iconst (v := 1) hx hb d_M_table_115 (by decide) ?_
              refine lv_goto (tgt := 120) hx hb d_M_table_116 (by decide) ?_
              refine lv_istore (lv' := [(7, .int 1), (6, .int 1), (0, .ref mo), (1, .int x1), (2, .int x2), (3, .int x3), (4, .int x4), (5, .int x5)]) hx hb d_M_table_120 hl (by decide) rfl (fun ls hl => ?_)
              exact j122 _ _ _ Y ls (lv_sub hl [0, 1, 2, 3, 4, 5, 6, 7] rfl)
          · refine lv_iload_n hx hb d_M_table_105 rfl (lv_at hl 4 rfl) ?_
            refine lv_iconst (v := 2) hx hb d_M_table_106 (by decide) ?_
            refine lv_icmp_gt (tgt := 115) hx hb d_M_table_107 (by decide) (fun c_107 => ?_) (fun c_107 => ?_)
            · refine lv_iconst (v := 1) hx hb d_M_table_115 (by decide) ?_
              refine lv_goto (tgt := 120) hx hb d_M_table_116 (by decide) ?_
              refine lv_istore (lv' := [(7, .int 1), (6, .int 1), (0, .ref mo), (1, .int x1), (2, .int x2), (3, .int x3), (4, .int x4), (5, .int x5)]) hx hb d_M_table_120 hl (by decide) rfl (fun ls hl => ?_)
              exact j122 _ _ _ Y ls (lv_sub hl [0, 1, 2, 3, 4, 5, 6, 7] rfl)
            · refine lv_iload_n hx hb d_M_table_110 rfl (lv_at hl 4 rfl) ?_
              refine lv_iconst (v := 5) hx hb d_M_table_111 (by decide) ?_
              refine lv_icmp_ne (tgt := 119) hx hb d_M_table_112 (by decide) (fun c_112 => ?_) (fun c_112 => ?_)
              · refine lv_iconst (v := 0) hx hb d_M_table_119 (by decide) ?_
                refine lv_istore (lv' := [(7, .int 0), (6, .int 1), (0, .ref mo), (1, .int x1), (2, .int x2), (3, .int x3), (4, .int x4), (5, .int x5)]) hx hb d_M_table_120 hl (by decide) rfl (fun ls hl => ?_)
                exact j122 _ _ _ Y ls (lv_sub hl [0, 1, 2, 3, 4, 5, 6, 7] rfl)
              · refine lv_iconst (v := 1) hx hb d_M_table_115 (by decide) ?_
                refine lv_goto (tgt := 120) hx hb d_M_table_116 (by decide) ?_
                refine lv_istore (lv' := [(7, .int 1), (6, .int 1), (0, .ref mo), (1, .int x1), (2, .int x2), (3, .int x3), (4, .int x4), (5, .int x5)]) hx hb d_M_table_120 hl (by decide) rfl (fun ls hl => ?_)
                exact j122 _ _ _ Y ls (lv_sub hl [0, 1, 2, 3, 4, 5, 6, 7] rfl)
  refine lv_iload_n hx hb d_M_table_0 rfl (lv_at hl 1 rfl) ?_
  refine lv_aload_n hx hb d_M_table_1 rfl (lv_at hl 0 rfl) ?_
  refine fp_get X Y om rfl in_M 1 (by decide) w602 rfl d_M_table_2 ?_
  refine fp_callS (nA := 2) (As := [.int x1, .int nf]) (rest := []) X Y (c_M_not x1 nf) w680 w678 w679 w9 (by decide +kernel) ⟨rfl, rfl⟩ ⟨Nat.le_of_ble_eq_true rfl, Nat.le_of_ble_eq_true rfl⟩ rfl hl.1 rfl (Nat.le_of_ble_eq_true rfl) d_M_table_5 ⟨Nat.zero_le _, Nat.zero_le _⟩ (fun v9 f9 H locs hp9 Y => ?_)
  obtain ⟨e8, e9⟩ := hp9
  subst e8
  rw [e9] at Y
  refine W.eq (g2 := F0 m 8 ls [.int (q_nt x1 nf)]) rfl ?_
  refine lv_if_ne (tgt := 54) hx hb d_M_table_8 (by decide) (fun c_8 => ?_) (fun c_8 => ?_)
  · refine lv_iconst (v := 1) hx hb d_M_table_54 (by decide) ?_
    refine lv_goto (tgt := 59) hx hb d_M_table_55 (by decide) ?_
    refine lv_istore (lv' := [(6, .int 1), (0, .ref mo), (1, .int x1), (2, .int x2), (3, .int x3), (4, .int x4), (5, .int x5)]) hx hb d_M_table_59 hl (by decide) rfl (fun ls hl => ?_)
    refine lv_iload hx hb d_M_table_61 (lv_at hl 0 rfl) ?_
    refine lv_if_ne (tgt := 83) hx hb d_M_table_63 (by decide) (fun c_63 => ?_) (fun c_63 => absurd c_63 (by decide))
    exact j83 _ _ Y ls (lv_sub hl [0, 1, 2, 3, 4, 5, 6] rfl)
  · refine lv_iload_n hx hb d_M_table_11 rfl (lv_at hl 2 rfl) ?_
    refine lv_iconst (v := -1) hx hb d_M_table_12 (by decide) ?_
    refine lv_icmp_eq (tgt := 27) hx hb d_M_table_13 (by decide) (fun c_13 => ?_) (fun c_13 => ?_)
    · refine lv_iload_n hx hb d_M_table_27 rfl (lv_at hl 1 rfl) ?_
      refine lv_iload_n hx hb d_M_table_28 rfl (lv_at hl 2 rfl) ?_
      refine lv_icmp_eq (tgt := 54) hx hb d_M_table_29 (by decide) (fun c_29 => ?_) (fun c_29 => ?_)
      · refine lv_iconst (v := 1) hx hb d_M_table_54 (by decide) ?_
        refine lv_goto (tgt := 59) hx hb d_M_table_55 (by decide) ?_
        refine lv_istore (lv' := [(6, .int 1), (0, .ref mo), (1, .int x1), (2, .int x2), (3, .int x3), (4, .int x4), (5, .int x5)]) hx hb d_M_table_59 hl (by decide) rfl (fun ls hl => ?_)
        refine lv_iload hx hb d_M_table_61 (lv_at hl 0 rfl) ?_
        refine lv_if_ne (tgt := 83) hx hb d_M_table_63 (by decide) (fun c_63 => ?_) (fun c_63 => absurd c_63 (by decide))
        exact j83 _ _ Y ls (lv_sub hl [0, 1, 2, 3, 4, 5, 6] rfl)
      · refine lv_iload hx hb d_M_table_32 (lv_at hl 4 rfl) ?_
        refine lv_aload_n hx hb d_M_table_34 rfl (lv_at hl 0 rfl) ?_
        refine fp_get X Y om rfl in_M 4 (by decide) w605 rfl d_M_table_35 ?_
        refine lv_iushr hx hb d_M_table_38 rfl ?_
        refine lv_if_ne (tgt := 54) hx hb d_M_table_39 (by decide) (fun c_39 => ?_) (fun c_39 => ?_)
        · refine lv_iconst (v := 1) hx hb d_M_table_54 (by decide) ?_
          refine lv_goto (tgt := 59) hx hb d_M_table_55 (by decide) ?_
          refine lv_istore (lv' := [(6, .int 1), (0, .ref mo), (1, .int x1), (2, .int x2), (3, .int x3), (4, .int x4), (5, .int x5)]) hx hb d_M_table_59 hl (by decide) rfl (fun ls hl => ?_)
          refine lv_iload hx hb d_M_table_61 (lv_at hl 0 rfl) ?_
          refine lv_if_ne (tgt := 83) hx hb d_M_table_63 (by decide) (fun c_63 => ?_) (fun c_63 => absurd c_63 (by decide))
          exact j83 _ _ Y ls (lv_sub hl [0, 1, 2, 3, 4, 5, 6] rfl)
        · refine lv_iload hx hb d_M_table_42 (lv_at hl 5 rfl) ?_
          refine lv_aload_n hx hb d_M_table_44 rfl (lv_at hl 0 rfl) ?_
          refine fp_get X Y om rfl in_M 4 (by decide) w605 rfl d_M_table_45 ?_
          refine fp_callS (nA := 2) (As := [.int x5, .int na]) (rest := []) X Y (c_M_not x5 na) w680 w678 w679 w9 (by decide +kernel) ⟨rfl, rfl⟩ ⟨Nat.le_of_ble_eq_true rfl, Nat.le_of_ble_eq_true rfl⟩ rfl hl.1 rfl (Nat.le_of_ble_eq_true rfl) d_M_table_48 ⟨Nat.zero_le _, Nat.zero_le _⟩ (fun v9 f9 H locs hp9 Y => ?_)
          obtain ⟨e8, e9⟩ := hp9
          subst e8
          rw [e9] at Y
          refine W.eq (g2 := F0 m 51 ls [.int (q_nt x5 na)]) rfl ?_
          refine lv_if_eq (tgt := 58) hx hb d_M_table_51 (by decide) (fun c_51 => ?_) (fun c_51 => ?_)
          · refine lv_iconst (v := 0) hx hb d_M_table_58 (by decide) ?_
            refine lv_istore (lv' := [(6, .int 0), (0, .ref mo), (1, .int x1), (2, .int x2), (3, .int x3), (4, .int x4), (5, .int x5)]) hx hb d_M_table_59 hl (by decide) rfl (fun ls hl => ?_)
            refine lv_iload hx hb d_M_table_61 (lv_at hl 0 rfl) ?_
            refine lv_if_ne (tgt := 83) hx hb d_M_table_63 (by decide) (fun c_63 => absurd (by decide) c_63) (fun c_63 => ?_)
            refine lv_iload hx hb d_M_table_66 (lv_at hl 5 rfl) ?_
            refine lv_iload hx hb d_M_table_68 (lv_at hl 6 rfl) ?_
            refine lv_ishr hx hb d_M_table_70 ?_
            refine lv_iconst (v := 1) hx hb d_M_table_71 (by decide) ?_
            refine lv_iand hx hb d_M_table_72 ?_
            refine lv_if_ne (tgt := 80) hx hb d_M_table_73 (by decide) (fun c_73 => ?_) (fun c_73 => ?_)
            · refine lv_iconst (v := 0) hx hb d_M_table_80 (by decide) ?_
              refine lv_istore (lv' := [(6, .int 0), (0, .ref mo), (1, .int x1), (2, .int x2), (3, .int x3), (4, .int x4), (5, .int x5)]) hx hb d_M_table_81 hl (by decide) rfl (fun ls hl => ?_)
              exact absurd hu (by unfold q_un; rw [if_neg (fun q9 => q9 c_8), if_neg (fun q9 => q9.1 c_13), if_neg c_29, if_neg (fun q9 => q9 c_39), if_neg (fun q9 => q9 c_51), if_neg c_73]; decide)
            · refine lv_iconst (v := 1) hx hb d_M_table_76 (by decide) ?_
              refine lv_goto (tgt := 81) hx hb d_M_table_77 (by decide) ?_
              refine lv_istore (lv' := [(6, .int 1), (0, .ref mo), (1, .int x1), (2, .int x2), (3, .int x3), (4, .int x4), (5, .int x5)]) hx hb d_M_table_81 hl (by decide) rfl (fun ls hl => ?_)
              exact j83 _ _ Y ls (lv_sub hl [0, 1, 2, 3, 4, 5, 6] rfl)
          · refine lv_iconst (v := 1) hx hb d_M_table_54 (by decide) ?_
            refine lv_goto (tgt := 59) hx hb d_M_table_55 (by decide) ?_
            refine lv_istore (lv' := [(6, .int 1), (0, .ref mo), (1, .int x1), (2, .int x2), (3, .int x3), (4, .int x4), (5, .int x5)]) hx hb d_M_table_59 hl (by decide) rfl (fun ls hl => ?_)
            refine lv_iload hx hb d_M_table_61 (lv_at hl 0 rfl) ?_
            refine lv_if_ne (tgt := 83) hx hb d_M_table_63 (by decide) (fun c_63 => ?_) (fun c_63 => absurd c_63 (by decide))
            exact j83 _ _ Y ls (lv_sub hl [0, 1, 2, 3, 4, 5, 6] rfl)
    · refine lv_iload_n hx hb d_M_table_16 rfl (lv_at hl 2 rfl) ?_
      refine lv_aload_n hx hb d_M_table_17 rfl (lv_at hl 0 rfl) ?_
      refine fp_get X Y om rfl in_M 1 (by decide) w602 rfl d_M_table_18 ?_
      refine fp_callS (nA := 2) (As := [.int x2, .int nf]) (rest := []) X Y (c_M_not x2 nf) w680 w678 w679 w9 (by decide +kernel) ⟨rfl, rfl⟩ ⟨Nat.le_of_ble_eq_true rfl, Nat.le_of_ble_eq_true rfl⟩ rfl hl.1 rfl (Nat.le_of_ble_eq_true rfl) d_M_table_21 ⟨Nat.zero_le _, Nat.zero_le _⟩ (fun v9 f9 H locs hp9 Y => ?_)
      obtain ⟨e8, e9⟩ := hp9
      subst e8
      rw [e9] at Y
      refine W.eq (g2 := F0 m 24 ls [.int (q_nt x2 nf)]) rfl ?_
      refine lv_if_ne (tgt := 54) hx hb d_M_table_24 (by decide) (fun c_24 => ?_) (fun c_24 => ?_)
      · refine lv_iconst (v := 1) hx hb d_M_table_54 (by decide) ?_
        refine lv_goto (tgt := 59) hx hb d_M_table_55 (by decide) ?_
        refine lv_istore (lv' := [(6, .int 1), (0, .ref mo), (1, .int x1), (2, .int x2), (3, .int x3), (4, .int x4), (5, .int x5)]) hx hb d_M_table_59 hl (by decide) rfl (fun ls hl => ?_)
        refine lv_iload hx hb d_M_table_61 (lv_at hl 0 rfl) ?_
        refine lv_if_ne (tgt := 83) hx hb d_M_table_63 (by decide) (fun c_63 => ?_) (fun c_63 => absurd c_63 (by decide))
        exact j83 _ _ Y ls (lv_sub hl [0, 1, 2, 3, 4, 5, 6] rfl)
      · refine lv_iload_n hx hb d_M_table_27 rfl (lv_at hl 1 rfl) ?_
        refine lv_iload_n hx hb d_M_table_28 rfl (lv_at hl 2 rfl) ?_
        refine lv_icmp_eq (tgt := 54) hx hb d_M_table_29 (by decide) (fun c_29 => ?_) (fun c_29 => ?_)
        · refine lv_iconst (v := 1) hx hb d_M_table_54 (by decide) ?_
          refine lv_goto (tgt := 59) hx hb d_M_table_55 (by decide) ?_
          refine lv_istore (lv' := [(6, .int 1), (0, .ref mo), (1, .int x1), (2, .int x2), (3, .int x3), (4, .int x4), (5, .int x5)]) hx hb d_M_table_59 hl (by decide) rfl (fun ls hl => ?_)
          refine lv_iload hx hb d_M_table_61 (lv_at hl 0 rfl) ?_
          refine lv_if_ne (tgt := 83) hx hb d_M_table_63 (by decide) (fun c_63 => ?_) (fun c_63 => absurd c_63 (by decide))
          exact j83 _ _ Y ls (lv_sub hl [0, 1, 2, 3, 4, 5, 6] rfl)
        · refine lv_iload hx hb d_M_table_32 (lv_at hl 4 rfl) ?_
          refine lv_aload_n hx hb d_M_table_34 rfl (lv_at hl 0 rfl) ?_
          refine fp_get X Y om rfl in_M 4 (by decide) w605 rfl d_M_table_35 ?_
          refine lv_iushr hx hb d_M_table_38 rfl ?_
          refine lv_if_ne (tgt := 54) hx hb d_M_table_39 (by decide) (fun c_39 => ?_) (fun c_39 => ?_)
          · refine lv_iconst (v := 1) hx hb d_M_table_54 (by decide) ?_
            refine lv_goto (tgt := 59) hx hb d_M_table_55 (by decide) ?_
            refine lv_istore (lv' := [(6, .int 1), (0, .ref mo), (1, .int x1), (2, .int x2), (3, .int x3), (4, .int x4), (5, .int x5)]) hx hb d_M_table_59 hl (by decide) rfl (fun ls hl => ?_)
            refine lv_iload hx hb d_M_table_61 (lv_at hl 0 rfl) ?_
            refine lv_if_ne (tgt := 83) hx hb d_M_table_63 (by decide) (fun c_63 => ?_) (fun c_63 => absurd c_63 (by decide))
            exact j83 _ _ Y ls (lv_sub hl [0, 1, 2, 3, 4, 5, 6] rfl)
          · refine lv_iload hx hb d_M_table_42 (lv_at hl 5 rfl) ?_
            refine lv_aload_n hx hb d_M_table_44 rfl (lv_at hl 0 rfl) ?_
            refine fp_get X Y om rfl in_M 4 (by decide) w605 rfl d_M_table_45 ?_
            refine fp_callS (nA := 2) (As := [.int x5, .int na]) (rest := []) X Y (c_M_not x5 na) w680 w678 w679 w9 (by decide +kernel) ⟨rfl, rfl⟩ ⟨Nat.le_of_ble_eq_true rfl, Nat.le_of_ble_eq_true rfl⟩ rfl hl.1 rfl (Nat.le_of_ble_eq_true rfl) d_M_table_48 ⟨Nat.zero_le _, Nat.zero_le _⟩ (fun v9 f9 H locs hp9 Y => ?_)
            obtain ⟨e8, e9⟩ := hp9
            subst e8
            rw [e9] at Y
            refine W.eq (g2 := F0 m 51 ls [.int (q_nt x5 na)]) rfl ?_
            refine lv_if_eq (tgt := 58) hx hb d_M_table_51 (by decide) (fun c_51 => ?_) (fun c_51 => ?_)
            · refine lv_iconst (v := 0) hx hb d_M_table_58 (by decide) ?_
              refine lv_istore (lv' := [(6, .int 0), (0, .ref mo), (1, .int x1), (2, .int x2), (3, .int x3), (4, .int x4), (5, .int x5)]) hx hb d_M_table_59 hl (by decide) rfl (fun ls hl => ?_)
              refine lv_iload hx hb d_M_table_61 (lv_at hl 0 rfl) ?_
              refine lv_if_ne (tgt := 83) hx hb d_M_table_63 (by decide) (fun c_63 => absurd (by decide) c_63) (fun c_63 => ?_)
              refine lv_iload hx hb d_M_table_66 (lv_at hl 5 rfl) ?_
              refine lv_iload hx hb d_M_table_68 (lv_at hl 6 rfl) ?_
              refine lv_ishr hx hb d_M_table_70 ?_
              refine lv_iconst (v := 1) hx hb d_M_table_71 (by decide) ?_
              refine lv_iand hx hb d_M_table_72 ?_
              refine lv_if_ne (tgt := 80) hx hb d_M_table_73 (by decide) (fun c_73 => ?_) (fun c_73 => ?_)
              · refine lv_iconst (v := 0) hx hb d_M_table_80 (by decide) ?_
                refine lv_istore (lv' := [(6, .int 0), (0, .ref mo), (1, .int x1), (2, .int x2), (3, .int x3), (4, .int x4), (5, .int x5)]) hx hb d_M_table_81 hl (by decide) rfl (fun ls hl => ?_)
                exact absurd hu (by unfold q_un; rw [if_neg (fun q9 => q9 c_8), if_neg (fun q9 => q9.2 c_24), if_neg c_29, if_neg (fun q9 => q9 c_39), if_neg (fun q9 => q9 c_51), if_neg c_73]; decide)
              · refine lv_iconst (v := 1) hx hb d_M_table_76 (by decide) ?_
                refine lv_goto (tgt := 81) hx hb d_M_table_77 (by decide) ?_
                refine lv_istore (lv' := [(6, .int 1), (0, .ref mo), (1, .int x1), (2, .int x2), (3, .int x3), (4, .int x4), (5, .int x5)]) hx hb d_M_table_81 hl (by decide) rfl (fun ls hl => ?_)
                exact j83 _ _ Y ls (lv_sub hl [0, 1, 2, 3, 4, 5, 6] rfl)
            · refine lv_iconst (v := 1) hx hb d_M_table_54 (by decide) ?_
              refine lv_goto (tgt := 59) hx hb d_M_table_55 (by decide) ?_
              refine lv_istore (lv' := [(6, .int 1), (0, .ref mo), (1, .int x1), (2, .int x2), (3, .int x3), (4, .int x4), (5, .int x5)]) hx hb d_M_table_59 hl (by decide) rfl (fun ls hl => ?_)
              refine lv_iload hx hb d_M_table_61 (lv_at hl 0 rfl) ?_
              refine lv_if_ne (tgt := 83) hx hb d_M_table_63 (by decide) (fun c_63 => ?_) (fun c_63 => absurd c_63 (by decide))
              exact j83 _ _ Y ls (lv_sub hl [0, 1, 2, 3, 4, 5, 6] rfl)
set_option maxHeartbeats 4000000 in
set_option maxRecDepth 100000 in
theorem c_M_table_t2 {l : Launch} {D : va_G} {g : Nat → ClassId} {b n : Nat} {A : Nat → Prop} {f : Nat → va_E} {mo : Nat} {th nf na nt po dr : Int32} {x1 x2 x3 x4 x5 : Int32} (hu : q_un x1 x2 x4 x5 nf na = 0) (hv : q_hm x3 x2 = 1) (om : fp_o b n f mo (ob 8 [.int th, .int nf, .ref (mo + 1), .ref (mo + 2), .int na, .ref (mo + 3), .ref (mo + 4), .ref (mo + 5), .int nt, .ref (mo + 6), .ref (mo + 7), .ref (mo + 8), .ref (mo + 9), .ref (mo + 10), .ref (mo + 11), .ref (mo + 12), .ref (mo + 13), .ref (mo + 14), .int po, .int dr]))  (hA : fp_W b n A := by assumption) : fp_M l D (TY g) b n A y_M_table (fp_ws y_M_table b_M_table 8 (some FieldType.int)) (rmD 1) [.ref mo, .int x1, .int x2, .int x3, .int x4, .int x5] f (fun v f' => v = some (.int 0) ∧ f' = va_up f mo (ob 8 [.int 2, .int nf, .ref (mo + 1), .ref (mo + 2), .int na, .ref (mo + 3), .ref (mo + 4), .ref (mo + 5), .int nt, .ref (mo + 6), .ref (mo + 7), .ref (mo + 8), .ref (mo + 9), .ref (mo + 10), .ref (mo + 11), .ref (mo + 12), .ref (mo + 13), .ref (mo + 14), .int po, .int dr])) := by
  refine fp_ofI (plainFor_of_name (by decide)) (Nat.le_of_ble_eq_true rfl) ?_
  intro p e s m args below meth c Q ls H locs X Y hl ret
  have hx := X.1.1
  have hb := X.1.2.1
  have hl : lv_has ls 8 [(0, .ref mo), (1, .int x1), (2, .int x2), (3, .int x3), (4, .int x4), (5, .int x5)] := hl
  have j122 : ∀ (H : Heap) (locs : List Loc), fp_H D b n A f s.heap H locs → ∀ ls : Array Slot, lv_has ls 8 [(7, .int 1), (6, .int 0), (0, .ref mo), (1, .int x1), (2, .int x2), (3, .int x3), (4, .int x4), (5, .int x5)] → W p l e (rmD 1) s m args below meth c H locs 0 0 Q (F0 m 122 ls []) := by
    intro H locs Y ls hl
    refine lv_aload_n hx hb d_M_table_122 rfl (lv_at hl 2 rfl) ?_
    refine lv_iload hx hb d_M_table_123 (lv_at hl 1 rfl) ?_
    refine lv_if_eq (tgt := 132) hx hb d_M_table_125 (by decide) (fun c_125 => ?_) (fun c_125 => absurd (by decide) c_125)
    refine lv_iload hx hb d_M_table_132 (lv_at hl 0 rfl) ?_
    refine lv_if_eq (tgt := 141) hx hb d_M_table_134 (by decide) (fun c_134 => absurd c_134 (by decide)) (fun c_134 => ?_)
    refine lv_iconst (v := 2) hx hb d_M_table_137 (by decide) ?_
    refine lv_goto (tgt := 155) hx hb d_M_table_138 (by decide) ?_
    refine fp_put X Y om rfl in_M to_M nm_M 0 (by decide) w601 rfl rfl rfl (Nat.le_of_ble_eq_true rfl) d_M_table_155 (fun H locs Y => ?_)
    have Y : fp_H D b n A (va_up f mo (ob 8 [.int 2, .int nf, .ref (mo + 1), .ref (mo + 2), .int na, .ref (mo + 3), .ref (mo + 4), .ref (mo + 5), .int nt, .ref (mo + 6), .ref (mo + 7), .ref (mo + 8), .ref (mo + 9), .ref (mo + 10), .ref (mo + 11), .ref (mo + 12), .ref (mo + 13), .ref (mo + 14), .int po, .int dr])) s.heap H locs := Y
    have om : fp_o b n (va_up f mo (ob 8 [.int 2, .int nf, .ref (mo + 1), .ref (mo + 2), .int na, .ref (mo + 3), .ref (mo + 4), .ref (mo + 5), .int nt, .ref (mo + 6), .ref (mo + 7), .ref (mo + 8), .ref (mo + 9), .ref (mo + 10), .ref (mo + 11), .ref (mo + 12), .ref (mo + 13), .ref (mo + 14), .int po, .int dr])) mo (ob 8 [.int 2, .int nf, .ref (mo + 1), .ref (mo + 2), .int na, .ref (mo + 3), .ref (mo + 4), .ref (mo + 5), .int nt, .ref (mo + 6), .ref (mo + 7), .ref (mo + 8), .ref (mo + 9), .ref (mo + 10), .ref (mo + 11), .ref (mo + 12), .ref (mo + 13), .ref (mo + 14), .int po, .int dr]) := fp_o.up om
    refine lv_aload_n hx hb d_M_table_158 rfl (lv_at hl 2 rfl) ?_
    refine fp_get X Y om rfl in_M 0 (by decide) w601 rfl d_M_table_159 ?_
    refine lv_if_eq (tgt := 167) hx hb d_M_table_162 (by decide) (fun c_162 => absurd c_162 (by decide)) (fun c_162 => ?_)
    refine lv_iconst (v := 0) hx hb d_M_table_165 (by decide) ?_
    exact ret _ _ _ _ _ _ d_M_table_166 ⟨_, rfl, rfl⟩ ⟨rfl, rfl⟩ Y
  have j83 : ∀ (H : Heap) (locs : List Loc), fp_H D b n A f s.heap H locs → ∀ ls : Array Slot, lv_has ls 8 [(6, .int 0), (0, .ref mo), (1, .int x1), (2, .int x2), (3, .int x3), (4, .int x4), (5, .int x5)] → W p l e (rmD 1) s m args below meth c H locs 0 0 Q (F0 m 83 ls []) := by
    intro H locs Y ls hl
    refine lv_iload_n hx hb d_M_table_83 rfl (lv_at hl 4 rfl) ?_
    refine lv_if_lt (tgt := 115) hx hb d_M_table_84 (by decide) (fun c_84 => ?_) (fun c_84 => ?_)
    · refine lv_iconst (v := 1) hx hb d_M_table_115 (by decide) ?_
      refine lv_goto (tgt := 120) hx hb d_M_table_116 (by decide) ?_
      refine lv_istore (lv' := [(7, .int 1), (6, .int 0), (0, .ref mo), (1, .int x1), (2, .int x2), (3, .int x3), (4, .int x4), (5, .int x5)]) hx hb d_M_table_120 hl (by decide) rfl (fun ls hl => ?_)
      exact j122 _ _ Y ls (lv_sub hl [0, 1, 2, 3, 4, 5, 6, 7] rfl)
    · refine lv_iload_n hx hb d_M_table_87 rfl (lv_at hl 4 rfl) ?_
      refine lv_bipush (v := 10) hx hb d_M_table_88 (by decide) ?_
      refine lv_icmp_gt (tgt := 115) hx hb d_M_table_90 (by decide) (fun c_90 => ?_) (fun c_90 => ?_)
      · refine lv_iconst (v := 1) hx hb d_M_table_115 (by decide) ?_
        refine lv_goto (tgt := 120) hx hb d_M_table_116 (by decide) ?_
        refine lv_istore (lv' := [(7, .int 1), (6, .int 0), (0, .ref mo), (1, .int x1), (2, .int x2), (3, .int x3), (4, .int x4), (5, .int x5)]) hx hb d_M_table_120 hl (by decide) rfl (fun ls hl => ?_)
        exact j122 _ _ Y ls (lv_sub hl [0, 1, 2, 3, 4, 5, 6, 7] rfl)
      · refine lv_iload_n hx hb d_M_table_93 rfl (lv_at hl 4 rfl) ?_
        refine lv_iconst (v := 4) hx hb d_M_table_94 (by decide) ?_
        refine lv_irem hx hb d_M_table_95 (by decide) ?_
        refine lv_iconst (v := 3) hx hb d_M_table_96 (by decide) ?_
        refine lv_icmp_eq (tgt := 115) hx hb d_M_table_97 (by decide) (fun c_97 => ?_) (fun c_97 => ?_)
        · refine lv_iconst (v := 1) hx hb d_M_table_115 (by decide) ?_
          refine lv_goto (tgt := 120) hx hb d_M_table_116 (by decide) ?_
          refine lv_istore (lv' := [(7, .int 1), (6, .int 0), (0, .ref mo), (1, .int x1), (2, .int x2), (3, .int x3), (4, .int x4), (5, .int x5)]) hx hb d_M_table_120 hl (by decide) rfl (fun ls hl => ?_)
          exact j122 _ _ Y ls (lv_sub hl [0, 1, 2, 3, 4, 5, 6, 7] rfl)
        · refine lv_iload_n hx hb d_M_table_100 rfl (lv_at hl 3 rfl) ?_
          refine lv_iconst (v := -1) hx hb d_M_table_101 (by decide) ?_
          refine lv_icmp_ne (tgt := 110) hx hb d_M_table_102 (by decide) (fun c_102 => ?_) (fun c_102 => ?_)
          · refine lv_iload_n hx hb d_M_table_110 rfl (lv_at hl 4 rfl) ?_
            refine lv_iconst (v := 5) hx hb d_M_table_111 (by decide) ?_
            refine lv_icmp_ne (tgt := 119) hx hb d_M_table_112 (by decide) (fun c_112 => ?_) (fun c_112 => ?_)
            · refine lv_iconst (v := 0) hx hb d_M_table_119 (by decide) ?_
              refine lv_istore (lv' := [(7, .int 0), (6, .int 0), (0, .ref mo), (1, .int x1), (2, .int x2), (3, .int x3), (4, .int x4), (5, .int x5)]) hx hb d_M_table_120 hl (by decide) rfl (fun ls hl => ?_)
              exact absurd hv (by unfold q_hm; rw [if_neg c_84, if_neg c_90, if_neg c_97, if_neg (fun q9 => c_102 q9.1), if_neg c_112]; decide)
            · refine lv_iconst (v := 1) hx hb d_M_table_115 (by decide) ?_
              refine lv_goto (tgt := 120) hx hb d_M_table_116 (by decide) ?_
              refine lv_istore (lv' := [(7, .int 1), (6, .int 0), (0, .ref mo), (1, .int x1), (2, .int x2), (3, .int x3), (4, .int x4), (5, .int x5)]) hx hb d_M_table_120 hl (by decide) rfl (fun ls hl => ?_)
              exact j122 _ _ Y ls (lv_sub hl [0, 1, 2, 3, 4, 5, 6, 7] rfl)
          · refine lv_iload_n hx hb d_M_table_105 rfl (lv_at hl 4 rfl) ?_
            refine lv_iconst (v := 2) hx hb d_M_table_106 (by decide) ?_
            refine lv_icmp_gt (tgt := 115) hx hb d_M_table_107 (by decide) (fun c_107 => ?_) (fun c_107 => ?_)
            · refine lv_iconst (v := 1) hx hb d_M_table_115 (by decide) ?_
              refine lv_goto (tgt := 120) hx hb d_M_table_116 (by decide) ?_
              refine lv_istore (lv' := [(7, .int 1), (6, .int 0), (0, .ref mo), (1, .int x1), (2, .int x2), (3, .int x3), (4, .int x4), (5, .int x5)]) hx hb d_M_table_120 hl (by decide) rfl (fun ls hl => ?_)
              exact j122 _ _ Y ls (lv_sub hl [0, 1, 2, 3, 4, 5, 6, 7] rfl)
            · refine lv_iload_n hx hb d_M_table_110 rfl (lv_at hl 4 rfl) ?_
              refine lv_iconst (v := 5) hx hb d_M_table_111 (by decide) ?_
              refine lv_icmp_ne (tgt := 119) hx hb d_M_table_112 (by decide) (fun c_112 => ?_) (fun c_112 => ?_)
              · refine lv_iconst (v := 0) hx hb d_M_table_119 (by decide) ?_
                refine lv_istore (lv' := [(7, .int 0), (6, .int 0), (0, .ref mo), (1, .int x1), (2, .int x2), (3, .int x3), (4, .int x4), (5, .int x5)]) hx hb d_M_table_120 hl (by decide) rfl (fun ls hl => ?_)
                exact absurd hv (by unfold q_hm; rw [if_neg c_84, if_neg c_90, if_neg c_97, if_neg (fun q9 => absurd q9.2 c_107), if_neg c_112]; decide)
              · refine lv_iconst (v := 1) hx hb d_M_table_115 (by decide) ?_
                refine lv_goto (tgt := 120) hx hb d_M_table_116 (by decide) ?_
                refine lv_istore (lv' := [(7, .int 1), (6, .int 0), (0, .ref mo), (1, .int x1), (2, .int x2), (3, .int x3), (4, .int x4), (5, .int x5)]) hx hb d_M_table_120 hl (by decide) rfl (fun ls hl => ?_)
                exact j122 _ _ Y ls (lv_sub hl [0, 1, 2, 3, 4, 5, 6, 7] rfl)
  refine lv_iload_n hx hb d_M_table_0 rfl (lv_at hl 1 rfl) ?_
  refine lv_aload_n hx hb d_M_table_1 rfl (lv_at hl 0 rfl) ?_
  refine fp_get X Y om rfl in_M 1 (by decide) w602 rfl d_M_table_2 ?_
  refine fp_callS (nA := 2) (As := [.int x1, .int nf]) (rest := []) X Y (c_M_not x1 nf) w680 w678 w679 w9 (by decide +kernel) ⟨rfl, rfl⟩ ⟨Nat.le_of_ble_eq_true rfl, Nat.le_of_ble_eq_true rfl⟩ rfl hl.1 rfl (Nat.le_of_ble_eq_true rfl) d_M_table_5 ⟨Nat.zero_le _, Nat.zero_le _⟩ (fun v9 f9 H locs hp9 Y => ?_)
  obtain ⟨e8, e9⟩ := hp9
  subst e8
  rw [e9] at Y
  refine W.eq (g2 := F0 m 8 ls [.int (q_nt x1 nf)]) rfl ?_
  refine lv_if_ne (tgt := 54) hx hb d_M_table_8 (by decide) (fun c_8 => ?_) (fun c_8 => ?_)
  · refine lv_iconst (v := 1) hx hb d_M_table_54 (by decide) ?_
    refine lv_goto (tgt := 59) hx hb d_M_table_55 (by decide) ?_
    refine lv_istore (lv' := [(6, .int 1), (0, .ref mo), (1, .int x1), (2, .int x2), (3, .int x3), (4, .int x4), (5, .int x5)]) hx hb d_M_table_59 hl (by decide) rfl (fun ls hl => ?_)
    refine lv_iload hx hb d_M_table_61 (lv_at hl 0 rfl) ?_
    refine lv_if_ne (tgt := 83) hx hb d_M_table_63 (by decide) (fun c_63 => ?_) (fun c_63 => absurd c_63 (by decide))
    exact absurd hu (by unfold q_un; rw [if_pos c_8]; decide)
  · refine lv_iload_n hx hb d_M_table_11 rfl (lv_at hl 2 rfl) ?_
    refine lv_iconst (v := -1) hx hb d_M_table_12 (by decide) ?_
    refine lv_icmp_eq (tgt := 27) hx hb d_M_table_13 (by decide) (fun c_13 => ?_) (fun c_13 => ?_)
    · refine lv_iload_n hx hb d_M_table_27 rfl (lv_at hl 1 rfl) ?_
      refine lv_iload_n hx hb d_M_table_28 rfl (lv_at hl 2 rfl) ?_
      refine lv_icmp_eq (tgt := 54) hx hb d_M_table_29 (by decide) (fun c_29 => ?_) (fun c_29 => ?_)
      · refine lv_iconst (v := 1) hx hb d_M_table_54 (by decide) ?_
        refine lv_goto (tgt := 59) hx hb d_M_table_55 (by decide) ?_
        refine lv_istore (lv' := [(6, .int 1), (0, .ref mo), (1, .int x1), (2, .int x2), (3, .int x3), (4, .int x4), (5, .int x5)]) hx hb d_M_table_59 hl (by decide) rfl (fun ls hl => ?_)
        refine lv_iload hx hb d_M_table_61 (lv_at hl 0 rfl) ?_
        refine lv_if_ne (tgt := 83) hx hb d_M_table_63 (by decide) (fun c_63 => ?_) (fun c_63 => absurd c_63 (by decide))
        exact absurd hu (by unfold q_un; rw [if_neg (fun q9 => q9 c_8), if_neg (fun q9 => q9.1 c_13), if_pos c_29]; decide)
      · refine lv_iload hx hb d_M_table_32 (lv_at hl 4 rfl) ?_
        refine lv_aload_n hx hb d_M_table_34 rfl (lv_at hl 0 rfl) ?_
        refine fp_get X Y om rfl in_M 4 (by decide) w605 rfl d_M_table_35 ?_
        refine lv_iushr hx hb d_M_table_38 rfl ?_
        refine lv_if_ne (tgt := 54) hx hb d_M_table_39 (by decide) (fun c_39 => ?_) (fun c_39 => ?_)
        · refine lv_iconst (v := 1) hx hb d_M_table_54 (by decide) ?_
          refine lv_goto (tgt := 59) hx hb d_M_table_55 (by decide) ?_
          refine lv_istore (lv' := [(6, .int 1), (0, .ref mo), (1, .int x1), (2, .int x2), (3, .int x3), (4, .int x4), (5, .int x5)]) hx hb d_M_table_59 hl (by decide) rfl (fun ls hl => ?_)
          refine lv_iload hx hb d_M_table_61 (lv_at hl 0 rfl) ?_
          refine lv_if_ne (tgt := 83) hx hb d_M_table_63 (by decide) (fun c_63 => ?_) (fun c_63 => absurd c_63 (by decide))
          exact absurd hu (by unfold q_un; rw [if_neg (fun q9 => q9 c_8), if_neg (fun q9 => q9.1 c_13), if_neg c_29, if_pos c_39]; decide)
        · refine lv_iload hx hb d_M_table_42 (lv_at hl 5 rfl) ?_
          refine lv_aload_n hx hb d_M_table_44 rfl (lv_at hl 0 rfl) ?_
          refine fp_get X Y om rfl in_M 4 (by decide) w605 rfl d_M_table_45 ?_
          refine fp_callS (nA := 2) (As := [.int x5, .int na]) (rest := []) X Y (c_M_not x5 na) w680 w678 w679 w9 (by decide +kernel) ⟨rfl, rfl⟩ ⟨Nat.le_of_ble_eq_true rfl, Nat.le_of_ble_eq_true rfl⟩ rfl hl.1 rfl (Nat.le_of_ble_eq_true rfl) d_M_table_48 ⟨Nat.zero_le _, Nat.zero_le _⟩ (fun v9 f9 H locs hp9 Y => ?_)
          obtain ⟨e8, e9⟩ := hp9
          subst e8
          rw [e9] at Y
          refine W.eq (g2 := F0 m 51 ls [.int (q_nt x5 na)]) rfl ?_
          refine lv_if_eq (tgt := 58) hx hb d_M_table_51 (by decide) (fun c_51 => ?_) (fun c_51 => ?_)
          · refine lv_iconst (v := 0) hx hb d_M_table_58 (by decide) ?_
            refine lv_istore (lv' := [(6, .int 0), (0, .ref mo), (1, .int x1), (2, .int x2), (3, .int x3), (4, .int x4), (5, .int x5)]) hx hb d_M_table_59 hl (by decide) rfl (fun ls hl => ?_)
            refine lv_iload hx hb d_M_table_61 (lv_at hl 0 rfl) ?_
            refine lv_if_ne (tgt := 83) hx hb d_M_table_63 (by decide) (fun c_63 => absurd (by decide) c_63) (fun c_63 => ?_)
            refine lv_iload hx hb d_M_table_66 (lv_at hl 5 rfl) ?_
            refine lv_iload hx hb d_M_table_68 (lv_at hl 6 rfl) ?_
            refine lv_ishr hx hb d_M_table_70 ?_
            refine lv_iconst (v := 1) hx hb d_M_table_71 (by decide) ?_
            refine lv_iand hx hb d_M_table_72 ?_
            refine lv_if_ne (tgt := 80) hx hb d_M_table_73 (by decide) (fun c_73 => ?_) (fun c_73 => ?_)
            · refine lv_iconst (v := 0) hx hb d_M_table_80 (by decide) ?_
              refine lv_istore (lv' := [(6, .int 0), (0, .ref mo), (1, .int x1), (2, .int x2), (3, .int x3), (4, .int x4), (5, .int x5)]) hx hb d_M_table_81 hl (by decide) rfl (fun ls hl => ?_)
              exact j83 _ _ Y ls (lv_sub hl [0, 1, 2, 3, 4, 5, 6] rfl)
            · refine lv_iconst (v := 1) hx hb d_M_table_76 (by decide) ?_
              refine lv_goto (tgt := 81) hx hb d_M_table_77 (by decide) ?_
              refine lv_istore (lv' := [(6, .int 1), (0, .ref mo), (1, .int x1), (2, .int x2), (3, .int x3), (4, .int x4), (5, .int x5)]) hx hb d_M_table_81 hl (by decide) rfl (fun ls hl => ?_)
              exact absurd hu (by unfold q_un; rw [if_neg (fun q9 => q9 c_8), if_neg (fun q9 => q9.1 c_13), if_neg c_29, if_neg (fun q9 => q9 c_39), if_neg (fun q9 => q9 c_51), if_pos c_73]; decide)
          · refine lv_iconst (v := 1) hx hb d_M_table_54 (by decide) ?_
            refine lv_goto (tgt := 59) hx hb d_M_table_55 (by decide) ?_
            refine lv_istore (lv' := [(6, .int 1), (0, .ref mo), (1, .int x1), (2, .int x2), (3, .int x3), (4, .int x4), (5, .int x5)]) hx hb d_M_table_59 hl (by decide) rfl (fun ls hl => ?_)
            refine lv_iload hx hb d_M_table_61 (lv_at hl 0 rfl) ?_
            refine lv_if_ne (tgt := 83) hx hb d_M_table_63 (by decide) (fun c_63 => ?_) (fun c_63 => absurd c_63 (by decide))
            exact absurd hu (by unfold q_un; rw [if_neg (fun q9 => q9 c_8), if_neg (fun q9 => q9.1 c_13), if_neg c_29, if_neg (fun q9 => q9 c_39), if_pos c_51]; decide)
    · refine lv_iload_n hx hb d_M_table_16 rfl (lv_at hl 2 rfl) ?_
      refine lv_aload_n hx hb d_M_table_17 rfl (lv_at hl 0 rfl) ?_
      refine fp_get X Y om rfl in_M 1 (by decide) w602 rfl d_M_table_18 ?_
      refine fp_callS (nA := 2) (As := [.int x2, .int nf]) (rest := []) X Y (c_M_not x2 nf) w680 w678 w679 w9 (by decide +kernel) ⟨rfl, rfl⟩ ⟨Nat.le_of_ble_eq_true rfl, Nat.le_of_ble_eq_true rfl⟩ rfl hl.1 rfl (Nat.le_of_ble_eq_true rfl) d_M_table_21 ⟨Nat.zero_le _, Nat.zero_le _⟩ (fun v9 f9 H locs hp9 Y => ?_)
      obtain ⟨e8, e9⟩ := hp9
      subst e8
      rw [e9] at Y
      refine W.eq (g2 := F0 m 24 ls [.int (q_nt x2 nf)]) rfl ?_
      refine lv_if_ne (tgt := 54) hx hb d_M_table_24 (by decide) (fun c_24 => ?_) (fun c_24 => ?_)
      · refine lv_iconst (v := 1) hx hb d_M_table_54 (by decide) ?_
        refine lv_goto (tgt := 59) hx hb d_M_table_55 (by decide) ?_
        refine lv_istore (lv' := [(6, .int 1), (0, .ref mo), (1, .int x1), (2, .int x2), (3, .int x3), (4, .int x4), (5, .int x5)]) hx hb d_M_table_59 hl (by decide) rfl (fun ls hl => ?_)
        refine lv_iload hx hb d_M_table_61 (lv_at hl 0 rfl) ?_
        refine lv_if_ne (tgt := 83) hx hb d_M_table_63 (by decide) (fun c_63 => ?_) (fun c_63 => absurd c_63 (by decide))
        exact absurd hu (by unfold q_un; rw [if_neg (fun q9 => q9 c_8), if_pos ⟨c_13, c_24⟩]; decide)
      · refine lv_iload_n hx hb d_M_table_27 rfl (lv_at hl 1 rfl) ?_
        refine lv_iload_n hx hb d_M_table_28 rfl (lv_at hl 2 rfl) ?_
        refine lv_icmp_eq (tgt := 54) hx hb d_M_table_29 (by decide) (fun c_29 => ?_) (fun c_29 => ?_)
        · refine lv_iconst (v := 1) hx hb d_M_table_54 (by decide) ?_
          refine lv_goto (tgt := 59) hx hb d_M_table_55 (by decide) ?_
          refine lv_istore (lv' := [(6, .int 1), (0, .ref mo), (1, .int x1), (2, .int x2), (3, .int x3), (4, .int x4), (5, .int x5)]) hx hb d_M_table_59 hl (by decide) rfl (fun ls hl => ?_)
          refine lv_iload hx hb d_M_table_61 (lv_at hl 0 rfl) ?_
          refine lv_if_ne (tgt := 83) hx hb d_M_table_63 (by decide) (fun c_63 => ?_) (fun c_63 => absurd c_63 (by decide))
          exact absurd hu (by unfold q_un; rw [if_neg (fun q9 => q9 c_8), if_neg (fun q9 => q9.2 c_24), if_pos c_29]; decide)
        · refine lv_iload hx hb d_M_table_32 (lv_at hl 4 rfl) ?_
          refine lv_aload_n hx hb d_M_table_34 rfl (lv_at hl 0 rfl) ?_
          refine fp_get X Y om rfl in_M 4 (by decide) w605 rfl d_M_table_35 ?_
          refine lv_iushr hx hb d_M_table_38 rfl ?_
          refine lv_if_ne (tgt := 54) hx hb d_M_table_39 (by decide) (fun c_39 => ?_) (fun c_39 => ?_)
          · refine lv_iconst (v := 1) hx hb d_M_table_54 (by decide) ?_
            refine lv_goto (tgt := 59) hx hb d_M_table_55 (by decide) ?_
            refine lv_istore (lv' := [(6, .int 1), (0, .ref mo), (1, .int x1), (2, .int x2), (3, .int x3), (4, .int x4), (5, .int x5)]) hx hb d_M_table_59 hl (by decide) rfl (fun ls hl => ?_)
            refine lv_iload hx hb d_M_table_61 (lv_at hl 0 rfl) ?_
            refine lv_if_ne (tgt := 83) hx hb d_M_table_63 (by decide) (fun c_63 => ?_) (fun c_63 => absurd c_63 (by decide))
            exact absurd hu (by unfold q_un; rw [if_neg (fun q9 => q9 c_8), if_neg (fun q9 => q9.2 c_24), if_neg c_29, if_pos c_39]; decide)
          · refine lv_iload hx hb d_M_table_42 (lv_at hl 5 rfl) ?_
            refine lv_aload_n hx hb d_M_table_44 rfl (lv_at hl 0 rfl) ?_
            refine fp_get X Y om rfl in_M 4 (by decide) w605 rfl d_M_table_45 ?_
            refine fp_callS (nA := 2) (As := [.int x5, .int na]) (rest := []) X Y (c_M_not x5 na) w680 w678 w679 w9 (by decide +kernel) ⟨rfl, rfl⟩ ⟨Nat.le_of_ble_eq_true rfl, Nat.le_of_ble_eq_true rfl⟩ rfl hl.1 rfl (Nat.le_of_ble_eq_true rfl) d_M_table_48 ⟨Nat.zero_le _, Nat.zero_le _⟩ (fun v9 f9 H locs hp9 Y => ?_)
            obtain ⟨e8, e9⟩ := hp9
            subst e8
            rw [e9] at Y
            refine W.eq (g2 := F0 m 51 ls [.int (q_nt x5 na)]) rfl ?_
            refine lv_if_eq (tgt := 58) hx hb d_M_table_51 (by decide) (fun c_51 => ?_) (fun c_51 => ?_)
            · refine lv_iconst (v := 0) hx hb d_M_table_58 (by decide) ?_
              refine lv_istore (lv' := [(6, .int 0), (0, .ref mo), (1, .int x1), (2, .int x2), (3, .int x3), (4, .int x4), (5, .int x5)]) hx hb d_M_table_59 hl (by decide) rfl (fun ls hl => ?_)
              refine lv_iload hx hb d_M_table_61 (lv_at hl 0 rfl) ?_
              refine lv_if_ne (tgt := 83) hx hb d_M_table_63 (by decide) (fun c_63 => absurd (by decide) c_63) (fun c_63 => ?_)
              refine lv_iload hx hb d_M_table_66 (lv_at hl 5 rfl) ?_
              refine lv_iload hx hb d_M_table_68 (lv_at hl 6 rfl) ?_
              refine lv_ishr hx hb d_M_table_70 ?_
              refine lv_iconst (v := 1) hx hb d_M_table_71 (by decide) ?_
              refine lv_iand hx hb d_M_table_72 ?_
              refine lv_if_ne (tgt := 80) hx hb d_M_table_73 (by decide) (fun c_73 => ?_) (fun c_73 => ?_)
              · refine lv_iconst (v := 0) hx hb d_M_table_80 (by decide) ?_
                refine lv_istore (lv' := [(6, .int 0), (0, .ref mo), (1, .int x1), (2, .int x2), (3, .int x3), (4, .int x4), (5, .int x5)]) hx hb d_M_table_81 hl (by decide) rfl (fun ls hl => ?_)
                exact j83 _ _ Y ls (lv_sub hl [0, 1, 2, 3, 4, 5, 6] rfl)
              · refine lv_iconst (v := 1) hx hb d_M_table_76 (by decide) ?_
                refine lv_goto (tgt := 81) hx hb d_M_table_77 (by decide) ?_
                refine lv_istore (lv' := [(6, .int 1), (0, .ref mo), (1, .int x1), (2, .int x2), (3, .int x3), (4, .int x4), (5, .int x5)]) hx hb d_M_table_81 hl (by decide) rfl (fun ls hl => ?_)
                exact absurd hu (by unfold q_un; rw [if_neg (fun q9 => q9 c_8), if_neg (fun q9 => q9.2 c_24), if_neg c_29, if_neg (fun q9 => q9 c_39), if_neg (fun q9 => q9 c_51), if_pos c_73]; decide)
            · refine lv_iconst (v := 1) hx hb d_M_table_54 (by decide) ?_
              refine lv_goto (tgt := 59) hx hb d_M_table_55 (by decide) ?_
              refine lv_istore (lv' := [(6, .int 1), (0, .ref mo), (1, .int x1), (2, .int x2), (3, .int x3), (4, .int x4), (5, .int x5)]) hx hb d_M_table_59 hl (by decide) rfl (fun ls hl => ?_)
              refine lv_iload hx hb d_M_table_61 (lv_at hl 0 rfl) ?_
              refine lv_if_ne (tgt := 83) hx hb d_M_table_63 (by decide) (fun c_63 => ?_) (fun c_63 => absurd c_63 (by decide))
              exact absurd hu (by unfold q_un; rw [if_neg (fun q9 => q9 c_8), if_neg (fun q9 => q9.2 c_24), if_neg c_29, if_neg (fun q9 => q9 c_39), if_pos c_51]; decide)
set_option maxHeartbeats 4000000 in
set_option maxRecDepth 100000 in
theorem c_M_table_t3 {l : Launch} {D : va_G} {g : Nat → ClassId} {b n : Nat} {A : Nat → Prop} {f : Nat → va_E} {mo : Nat} {th nf na nt po dr : Int32} {x1 x2 x3 x4 x5 : Int32} (hu : q_un x1 x2 x4 x5 nf na = 0) (hv : q_hm x3 x2 = 0) (hfull : nt = 8) (om : fp_o b n f mo (ob 8 [.int th, .int nf, .ref (mo + 1), .ref (mo + 2), .int na, .ref (mo + 3), .ref (mo + 4), .ref (mo + 5), .int nt, .ref (mo + 6), .ref (mo + 7), .ref (mo + 8), .ref (mo + 9), .ref (mo + 10), .ref (mo + 11), .ref (mo + 12), .ref (mo + 13), .ref (mo + 14), .int po, .int dr]))  (hA : fp_W b n A := by assumption) : fp_M l D (TY g) b n A y_M_table (fp_ws y_M_table b_M_table 8 (some FieldType.int)) (rmD 1) [.ref mo, .int x1, .int x2, .int x3, .int x4, .int x5] f (fun v f' => v = some (.int 0) ∧ f' = va_up f mo (ob 8 [.int 3, .int nf, .ref (mo + 1), .ref (mo + 2), .int na, .ref (mo + 3), .ref (mo + 4), .ref (mo + 5), .int nt, .ref (mo + 6), .ref (mo + 7), .ref (mo + 8), .ref (mo + 9), .ref (mo + 10), .ref (mo + 11), .ref (mo + 12), .ref (mo + 13), .ref (mo + 14), .int po, .int dr])) := by
  refine fp_ofI (plainFor_of_name (by decide)) (Nat.le_of_ble_eq_true rfl) ?_
  intro p e s m args below meth c Q ls H locs X Y hl ret
  have hx := X.1.1
  have hb := X.1.2.1
  have hl : lv_has ls 8 [(0, .ref mo), (1, .int x1), (2, .int x2), (3, .int x3), (4, .int x4), (5, .int x5)] := hl
  have j122 : ∀ (H : Heap) (locs : List Loc), fp_H D b n A f s.heap H locs → ∀ ls : Array Slot, lv_has ls 8 [(7, .int 0), (6, .int 0), (0, .ref mo), (1, .int x1), (2, .int x2), (3, .int x3), (4, .int x4), (5, .int x5)] → W p l e (rmD 1) s m args below meth c H locs 0 0 Q (F0 m 122 ls []) := by
    intro H locs Y ls hl
    refine lv_aload_n hx hb d_M_table_122 rfl (lv_at hl 2 rfl) ?_
    refine lv_iload hx hb d_M_table_123 (lv_at hl 1 rfl) ?_
    refine lv_if_eq (tgt := 132) hx hb d_M_table_125 (by decide) (fun c_125 => ?_) (fun c_125 => absurd (by decide) c_125)
    refine lv_iload hx hb d_M_table_132 (lv_at hl 0 rfl) ?_
    refine lv_if_eq (tgt := 141) hx hb d_M_table_134 (by decide) (fun c_134 => ?_) (fun c_134 => absurd (by decide) c_134)
    refine lv_aload_n hx hb d_M_table_141 rfl (lv_at hl 2 rfl) ?_
    refine fp_get X Y om rfl in_M 8 (by decide) w609 rfl d_M_table_142 ?_
    refine lv_bipush (v := 8) hx hb d_M_table_145 (by decide) ?_
    refine lv_icmp_ne (tgt := 154) hx hb d_M_table_147 (by decide) (fun c_147 => absurd hfull c_147) (fun c_147 => ?_)
    refine lv_iconst (v := 3) hx hb d_M_table_150 (by decide) ?_
    refine lv_goto (tgt := 155) hx hb d_M_table_151 (by decide) ?_
    refine fp_put X Y om rfl in_M to_M nm_M 0 (by decide) w601 rfl rfl rfl (Nat.le_of_ble_eq_true rfl) d_M_table_155 (fun H locs Y => ?_)
    have Y : fp_H D b n A (va_up f mo (ob 8 [.int 3, .int nf, .ref (mo + 1), .ref (mo + 2), .int na, .ref (mo + 3), .ref (mo + 4), .ref (mo + 5), .int nt, .ref (mo + 6), .ref (mo + 7), .ref (mo + 8), .ref (mo + 9), .ref (mo + 10), .ref (mo + 11), .ref (mo + 12), .ref (mo + 13), .ref (mo + 14), .int po, .int dr])) s.heap H locs := Y
    have om : fp_o b n (va_up f mo (ob 8 [.int 3, .int nf, .ref (mo + 1), .ref (mo + 2), .int na, .ref (mo + 3), .ref (mo + 4), .ref (mo + 5), .int nt, .ref (mo + 6), .ref (mo + 7), .ref (mo + 8), .ref (mo + 9), .ref (mo + 10), .ref (mo + 11), .ref (mo + 12), .ref (mo + 13), .ref (mo + 14), .int po, .int dr])) mo (ob 8 [.int 3, .int nf, .ref (mo + 1), .ref (mo + 2), .int na, .ref (mo + 3), .ref (mo + 4), .ref (mo + 5), .int nt, .ref (mo + 6), .ref (mo + 7), .ref (mo + 8), .ref (mo + 9), .ref (mo + 10), .ref (mo + 11), .ref (mo + 12), .ref (mo + 13), .ref (mo + 14), .int po, .int dr]) := fp_o.up om
    refine lv_aload_n hx hb d_M_table_158 rfl (lv_at hl 2 rfl) ?_
    refine fp_get X Y om rfl in_M 0 (by decide) w601 rfl d_M_table_159 ?_
    refine lv_if_eq (tgt := 167) hx hb d_M_table_162 (by decide) (fun c_162 => absurd c_162 (by decide)) (fun c_162 => ?_)
    refine lv_iconst (v := 0) hx hb d_M_table_165 (by decide) ?_
    exact ret _ _ _ _ _ _ d_M_table_166 ⟨_, rfl, rfl⟩ ⟨rfl, rfl⟩ Y
  have j83 : ∀ (H : Heap) (locs : List Loc), fp_H D b n A f s.heap H locs → ∀ ls : Array Slot, lv_has ls 8 [(6, .int 0), (0, .ref mo), (1, .int x1), (2, .int x2), (3, .int x3), (4, .int x4), (5, .int x5)] → W p l e (rmD 1) s m args below meth c H locs 0 0 Q (F0 m 83 ls []) := by
    intro H locs Y ls hl
    refine lv_iload_n hx hb d_M_table_83 rfl (lv_at hl 4 rfl) ?_
    refine lv_if_lt (tgt := 115) hx hb d_M_table_84 (by decide) (fun c_84 => ?_) (fun c_84 => ?_)
    · refine lv_iconst (v := 1) hx hb d_M_table_115 (by decide) ?_
      refine lv_goto (tgt := 120) hx hb d_M_table_116 (by decide) ?_
      refine lv_istore (lv' := [(7, .int 1), (6, .int 0), (0, .ref mo), (1, .int x1), (2, .int x2), (3, .int x3), (4, .int x4), (5, .int x5)]) hx hb d_M_table_120 hl (by decide) rfl (fun ls hl => ?_)
      exact absurd hv (by unfold q_hm; rw [if_pos c_84]; decide)
    · refine lv_iload_n hx hb d_M_table_87 rfl (lv_at hl 4 rfl) ?_
      refine lv_bipush (v := 10) hx hb d_M_table_88 (by decide) ?_
      refine lv_icmp_gt (tgt := 115) hx hb d_M_table_90 (by decide) (fun c_90 => ?_) (fun c_90 => ?_)
      · refine lv_iconst (v := 1) hx hb d_M_table_115 (by decide) ?_
        refine lv_goto (tgt := 120) hx hb d_M_table_116 (by decide) ?_
        refine lv_istore (lv' := [(7, .int 1), (6, .int 0), (0, .ref mo), (1, .int x1), (2, .int x2), (3, .int x3), (4, .int x4), (5, .int x5)]) hx hb d_M_table_120 hl (by decide) rfl (fun ls hl => ?_)
        exact absurd hv (by unfold q_hm; rw [if_neg c_84, if_pos c_90]; decide)
      · refine lv_iload_n hx hb d_M_table_93 rfl (lv_at hl 4 rfl) ?_
        refine lv_iconst (v := 4) hx hb d_M_table_94 (by decide) ?_
        refine lv_irem hx hb d_M_table_95 (by decide) ?_
        refine lv_iconst (v := 3) hx hb d_M_table_96 (by decide) ?_
        refine lv_icmp_eq (tgt := 115) hx hb d_M_table_97 (by decide) (fun c_97 => ?_) (fun c_97 => ?_)
        · refine lv_iconst (v := 1) hx hb d_M_table_115 (by decide) ?_
          refine lv_goto (tgt := 120) hx hb d_M_table_116 (by decide) ?_
          refine lv_istore (lv' := [(7, .int 1), (6, .int 0), (0, .ref mo), (1, .int x1), (2, .int x2), (3, .int x3), (4, .int x4), (5, .int x5)]) hx hb d_M_table_120 hl (by decide) rfl (fun ls hl => ?_)
          exact absurd hv (by unfold q_hm; rw [if_neg c_84, if_neg c_90, if_pos c_97]; decide)
        · refine lv_iload_n hx hb d_M_table_100 rfl (lv_at hl 3 rfl) ?_
          refine lv_iconst (v := -1) hx hb d_M_table_101 (by decide) ?_
          refine lv_icmp_ne (tgt := 110) hx hb d_M_table_102 (by decide) (fun c_102 => ?_) (fun c_102 => ?_)
          · refine lv_iload_n hx hb d_M_table_110 rfl (lv_at hl 4 rfl) ?_
            refine lv_iconst (v := 5) hx hb d_M_table_111 (by decide) ?_
            refine lv_icmp_ne (tgt := 119) hx hb d_M_table_112 (by decide) (fun c_112 => ?_) (fun c_112 => ?_)
            · refine lv_iconst (v := 0) hx hb d_M_table_119 (by decide) ?_
              refine lv_istore (lv' := [(7, .int 0), (6, .int 0), (0, .ref mo), (1, .int x1), (2, .int x2), (3, .int x3), (4, .int x4), (5, .int x5)]) hx hb d_M_table_120 hl (by decide) rfl (fun ls hl => ?_)
              exact j122 _ _ Y ls (lv_sub hl [0, 1, 2, 3, 4, 5, 6, 7] rfl)
            · refine lv_iconst (v := 1) hx hb d_M_table_115 (by decide) ?_
              refine lv_goto (tgt := 120) hx hb d_M_table_116 (by decide) ?_
              refine lv_istore (lv' := [(7, .int 1), (6, .int 0), (0, .ref mo), (1, .int x1), (2, .int x2), (3, .int x3), (4, .int x4), (5, .int x5)]) hx hb d_M_table_120 hl (by decide) rfl (fun ls hl => ?_)
              exact absurd hv (by unfold q_hm; rw [if_neg c_84, if_neg c_90, if_neg c_97, if_neg (fun q9 => c_102 q9.1), if_pos c_112]; decide)
          · refine lv_iload_n hx hb d_M_table_105 rfl (lv_at hl 4 rfl) ?_
            refine lv_iconst (v := 2) hx hb d_M_table_106 (by decide) ?_
            refine lv_icmp_gt (tgt := 115) hx hb d_M_table_107 (by decide) (fun c_107 => ?_) (fun c_107 => ?_)
            · refine lv_iconst (v := 1) hx hb d_M_table_115 (by decide) ?_
              refine lv_goto (tgt := 120) hx hb d_M_table_116 (by decide) ?_
              refine lv_istore (lv' := [(7, .int 1), (6, .int 0), (0, .ref mo), (1, .int x1), (2, .int x2), (3, .int x3), (4, .int x4), (5, .int x5)]) hx hb d_M_table_120 hl (by decide) rfl (fun ls hl => ?_)
              exact absurd hv (by unfold q_hm; rw [if_neg c_84, if_neg c_90, if_neg c_97, if_pos ⟨c_102, c_107⟩]; decide)
            · refine lv_iload_n hx hb d_M_table_110 rfl (lv_at hl 4 rfl) ?_
              refine lv_iconst (v := 5) hx hb d_M_table_111 (by decide) ?_
              refine lv_icmp_ne (tgt := 119) hx hb d_M_table_112 (by decide) (fun c_112 => ?_) (fun c_112 => ?_)
              · refine lv_iconst (v := 0) hx hb d_M_table_119 (by decide) ?_
                refine lv_istore (lv' := [(7, .int 0), (6, .int 0), (0, .ref mo), (1, .int x1), (2, .int x2), (3, .int x3), (4, .int x4), (5, .int x5)]) hx hb d_M_table_120 hl (by decide) rfl (fun ls hl => ?_)
                exact j122 _ _ Y ls (lv_sub hl [0, 1, 2, 3, 4, 5, 6, 7] rfl)
              · refine lv_iconst (v := 1) hx hb d_M_table_115 (by decide) ?_
                refine lv_goto (tgt := 120) hx hb d_M_table_116 (by decide) ?_
                refine lv_istore (lv' := [(7, .int 1), (6, .int 0), (0, .ref mo), (1, .int x1), (2, .int x2), (3, .int x3), (4, .int x4), (5, .int x5)]) hx hb d_M_table_120 hl (by decide) rfl (fun ls hl => ?_)
                exact absurd hv (by unfold q_hm; rw [if_neg c_84, if_neg c_90, if_neg c_97, if_neg (fun q9 => absurd q9.2 c_107), if_pos c_112]; decide)
  refine lv_iload_n hx hb d_M_table_0 rfl (lv_at hl 1 rfl) ?_
  refine lv_aload_n hx hb d_M_table_1 rfl (lv_at hl 0 rfl) ?_
  refine fp_get X Y om rfl in_M 1 (by decide) w602 rfl d_M_table_2 ?_
  refine fp_callS (nA := 2) (As := [.int x1, .int nf]) (rest := []) X Y (c_M_not x1 nf) w680 w678 w679 w9 (by decide +kernel) ⟨rfl, rfl⟩ ⟨Nat.le_of_ble_eq_true rfl, Nat.le_of_ble_eq_true rfl⟩ rfl hl.1 rfl (Nat.le_of_ble_eq_true rfl) d_M_table_5 ⟨Nat.zero_le _, Nat.zero_le _⟩ (fun v9 f9 H locs hp9 Y => ?_)
  obtain ⟨e8, e9⟩ := hp9
  subst e8
  rw [e9] at Y
  refine W.eq (g2 := F0 m 8 ls [.int (q_nt x1 nf)]) rfl ?_
  refine lv_if_ne (tgt := 54) hx hb d_M_table_8 (by decide) (fun c_8 => ?_) (fun c_8 => ?_)
  · refine lv_iconst (v := 1) hx hb d_M_table_54 (by decide) ?_
    refine lv_goto (tgt := 59) hx hb d_M_table_55 (by decide) ?_
    refine lv_istore (lv' := [(6, .int 1), (0, .ref mo), (1, .int x1), (2, .int x2), (3, .int x3), (4, .int x4), (5, .int x5)]) hx hb d_M_table_59 hl (by decide) rfl (fun ls hl => ?_)
    refine lv_iload hx hb d_M_table_61 (lv_at hl 0 rfl) ?_
    refine lv_if_ne (tgt := 83) hx hb d_M_table_63 (by decide) (fun c_63 => ?_) (fun c_63 => absurd c_63 (by decide))
    exact absurd hu (by unfold q_un; rw [if_pos c_8]; decide)
  · refine lv_iload_n hx hb d_M_table_11 rfl (lv_at hl 2 rfl) ?_
    refine lv_iconst (v := -1) hx hb d_M_table_12 (by decide) ?_
    refine lv_icmp_eq (tgt := 27) hx hb d_M_table_13 (by decide) (fun c_13 => ?_) (fun c_13 => ?_)
    · refine lv_iload_n hx hb d_M_table_27 rfl (lv_at hl 1 rfl) ?_
      refine lv_iload_n hx hb d_M_table_28 rfl (lv_at hl 2 rfl) ?_
      refine lv_icmp_eq (tgt := 54) hx hb d_M_table_29 (by decide) (fun c_29 => ?_) (fun c_29 => ?_)
      · refine lv_iconst (v := 1) hx hb d_M_table_54 (by decide) ?_
        refine lv_goto (tgt := 59) hx hb d_M_table_55 (by decide) ?_
        refine lv_istore (lv' := [(6, .int 1), (0, .ref mo), (1, .int x1), (2, .int x2), (3, .int x3), (4, .int x4), (5, .int x5)]) hx hb d_M_table_59 hl (by decide) rfl (fun ls hl => ?_)
        refine lv_iload hx hb d_M_table_61 (lv_at hl 0 rfl) ?_
        refine lv_if_ne (tgt := 83) hx hb d_M_table_63 (by decide) (fun c_63 => ?_) (fun c_63 => absurd c_63 (by decide))
        exact absurd hu (by unfold q_un; rw [if_neg (fun q9 => q9 c_8), if_neg (fun q9 => q9.1 c_13), if_pos c_29]; decide)
      · refine lv_iload hx hb d_M_table_32 (lv_at hl 4 rfl) ?_
        refine lv_aload_n hx hb d_M_table_34 rfl (lv_at hl 0 rfl) ?_
        refine fp_get X Y om rfl in_M 4 (by decide) w605 rfl d_M_table_35 ?_
        refine lv_iushr hx hb d_M_table_38 rfl ?_
        refine lv_if_ne (tgt := 54) hx hb d_M_table_39 (by decide) (fun c_39 => ?_) (fun c_39 => ?_)
        · refine lv_iconst (v := 1) hx hb d_M_table_54 (by decide) ?_
          refine lv_goto (tgt := 59) hx hb d_M_table_55 (by decide) ?_
          refine lv_istore (lv' := [(6, .int 1), (0, .ref mo), (1, .int x1), (2, .int x2), (3, .int x3), (4, .int x4), (5, .int x5)]) hx hb d_M_table_59 hl (by decide) rfl (fun ls hl => ?_)
          refine lv_iload hx hb d_M_table_61 (lv_at hl 0 rfl) ?_
          refine lv_if_ne (tgt := 83) hx hb d_M_table_63 (by decide) (fun c_63 => ?_) (fun c_63 => absurd c_63 (by decide))
          exact absurd hu (by unfold q_un; rw [if_neg (fun q9 => q9 c_8), if_neg (fun q9 => q9.1 c_13), if_neg c_29, if_pos c_39]; decide)
        · refine lv_iload hx hb d_M_table_42 (lv_at hl 5 rfl) ?_
          refine lv_aload_n hx hb d_M_table_44 rfl (lv_at hl 0 rfl) ?_
          refine fp_get X Y om rfl in_M 4 (by decide) w605 rfl d_M_table_45 ?_
          refine fp_callS (nA := 2) (As := [.int x5, .int na]) (rest := []) X Y (c_M_not x5 na) w680 w678 w679 w9 (by decide +kernel) ⟨rfl, rfl⟩ ⟨Nat.le_of_ble_eq_true rfl, Nat.le_of_ble_eq_true rfl⟩ rfl hl.1 rfl (Nat.le_of_ble_eq_true rfl) d_M_table_48 ⟨Nat.zero_le _, Nat.zero_le _⟩ (fun v9 f9 H locs hp9 Y => ?_)
          obtain ⟨e8, e9⟩ := hp9
          subst e8
          rw [e9] at Y
          refine W.eq (g2 := F0 m 51 ls [.int (q_nt x5 na)]) rfl ?_
          refine lv_if_eq (tgt := 58) hx hb d_M_table_51 (by decide) (fun c_51 => ?_) (fun c_51 => ?_)
          · refine lv_iconst (v := 0) hx hb d_M_table_58 (by decide) ?_
            refine lv_istore (lv' := [(6, .int 0), (0, .ref mo), (1, .int x1), (2, .int x2), (3, .int x3), (4, .int x4), (5, .int x5)]) hx hb d_M_table_59 hl (by decide) rfl (fun ls hl => ?_)
            refine lv_iload hx hb d_M_table_61 (lv_at hl 0 rfl) ?_
            refine lv_if_ne (tgt := 83) hx hb d_M_table_63 (by decide) (fun c_63 => absurd (by decide) c_63) (fun c_63 => ?_)
            refine lv_iload hx hb d_M_table_66 (lv_at hl 5 rfl) ?_
            refine lv_iload hx hb d_M_table_68 (lv_at hl 6 rfl) ?_
            refine lv_ishr hx hb d_M_table_70 ?_
            refine lv_iconst (v := 1) hx hb d_M_table_71 (by decide) ?_
            refine lv_iand hx hb d_M_table_72 ?_
            refine lv_if_ne (tgt := 80) hx hb d_M_table_73 (by decide) (fun c_73 => ?_) (fun c_73 => ?_)
            · refine lv_iconst (v := 0) hx hb d_M_table_80 (by decide) ?_
              refine lv_istore (lv' := [(6, .int 0), (0, .ref mo), (1, .int x1), (2, .int x2), (3, .int x3), (4, .int x4), (5, .int x5)]) hx hb d_M_table_81 hl (by decide) rfl (fun ls hl => ?_)
              exact j83 _ _ Y ls (lv_sub hl [0, 1, 2, 3, 4, 5, 6] rfl)
            · refine lv_iconst (v := 1) hx hb d_M_table_76 (by decide) ?_
              refine lv_goto (tgt := 81) hx hb d_M_table_77 (by decide) ?_
              refine lv_istore (lv' := [(6, .int 1), (0, .ref mo), (1, .int x1), (2, .int x2), (3, .int x3), (4, .int x4), (5, .int x5)]) hx hb d_M_table_81 hl (by decide) rfl (fun ls hl => ?_)
              exact absurd hu (by unfold q_un; rw [if_neg (fun q9 => q9 c_8), if_neg (fun q9 => q9.1 c_13), if_neg c_29, if_neg (fun q9 => q9 c_39), if_neg (fun q9 => q9 c_51), if_pos c_73]; decide)
          · refine lv_iconst (v := 1) hx hb d_M_table_54 (by decide) ?_
            refine lv_goto (tgt := 59) hx hb d_M_table_55 (by decide) ?_
            refine lv_istore (lv' := [(6, .int 1), (0, .ref mo), (1, .int x1), (2, .int x2), (3, .int x3), (4, .int x4), (5, .int x5)]) hx hb d_M_table_59 hl (by decide) rfl (fun ls hl => ?_)
            refine lv_iload hx hb d_M_table_61 (lv_at hl 0 rfl) ?_
            refine lv_if_ne (tgt := 83) hx hb d_M_table_63 (by decide) (fun c_63 => ?_) (fun c_63 => absurd c_63 (by decide))
            exact absurd hu (by unfold q_un; rw [if_neg (fun q9 => q9 c_8), if_neg (fun q9 => q9.1 c_13), if_neg c_29, if_neg (fun q9 => q9 c_39), if_pos c_51]; decide)
    · refine lv_iload_n hx hb d_M_table_16 rfl (lv_at hl 2 rfl) ?_
      refine lv_aload_n hx hb d_M_table_17 rfl (lv_at hl 0 rfl) ?_
      refine fp_get X Y om rfl in_M 1 (by decide) w602 rfl d_M_table_18 ?_
      refine fp_callS (nA := 2) (As := [.int x2, .int nf]) (rest := []) X Y (c_M_not x2 nf) w680 w678 w679 w9 (by decide +kernel) ⟨rfl, rfl⟩ ⟨Nat.le_of_ble_eq_true rfl, Nat.le_of_ble_eq_true rfl⟩ rfl hl.1 rfl (Nat.le_of_ble_eq_true rfl) d_M_table_21 ⟨Nat.zero_le _, Nat.zero_le _⟩ (fun v9 f9 H locs hp9 Y => ?_)
      obtain ⟨e8, e9⟩ := hp9
      subst e8
      rw [e9] at Y
      refine W.eq (g2 := F0 m 24 ls [.int (q_nt x2 nf)]) rfl ?_
      refine lv_if_ne (tgt := 54) hx hb d_M_table_24 (by decide) (fun c_24 => ?_) (fun c_24 => ?_)
      · refine lv_iconst (v := 1) hx hb d_M_table_54 (by decide) ?_
        refine lv_goto (tgt := 59) hx hb d_M_table_55 (by decide) ?_
        refine lv_istore (lv' := [(6, .int 1), (0, .ref mo), (1, .int x1), (2, .int x2), (3, .int x3), (4, .int x4), (5, .int x5)]) hx hb d_M_table_59 hl (by decide) rfl (fun ls hl => ?_)
        refine lv_iload hx hb d_M_table_61 (lv_at hl 0 rfl) ?_
        refine lv_if_ne (tgt := 83) hx hb d_M_table_63 (by decide) (fun c_63 => ?_) (fun c_63 => absurd c_63 (by decide))
        exact absurd hu (by unfold q_un; rw [if_neg (fun q9 => q9 c_8), if_pos ⟨c_13, c_24⟩]; decide)
      · refine lv_iload_n hx hb d_M_table_27 rfl (lv_at hl 1 rfl) ?_
        refine lv_iload_n hx hb d_M_table_28 rfl (lv_at hl 2 rfl) ?_
        refine lv_icmp_eq (tgt := 54) hx hb d_M_table_29 (by decide) (fun c_29 => ?_) (fun c_29 => ?_)
        · refine lv_iconst (v := 1) hx hb d_M_table_54 (by decide) ?_
          refine lv_goto (tgt := 59) hx hb d_M_table_55 (by decide) ?_
          refine lv_istore (lv' := [(6, .int 1), (0, .ref mo), (1, .int x1), (2, .int x2), (3, .int x3), (4, .int x4), (5, .int x5)]) hx hb d_M_table_59 hl (by decide) rfl (fun ls hl => ?_)
          refine lv_iload hx hb d_M_table_61 (lv_at hl 0 rfl) ?_
          refine lv_if_ne (tgt := 83) hx hb d_M_table_63 (by decide) (fun c_63 => ?_) (fun c_63 => absurd c_63 (by decide))
          exact absurd hu (by unfold q_un; rw [if_neg (fun q9 => q9 c_8), if_neg (fun q9 => q9.2 c_24), if_pos c_29]; decide)
        · refine lv_iload hx hb d_M_table_32 (lv_at hl 4 rfl) ?_
          refine lv_aload_n hx hb d_M_table_34 rfl (lv_at hl 0 rfl) ?_
          refine fp_get X Y om rfl in_M 4 (by decide) w605 rfl d_M_table_35 ?_
          refine lv_iushr hx hb d_M_table_38 rfl ?_
          refine lv_if_ne (tgt := 54) hx hb d_M_table_39 (by decide) (fun c_39 => ?_) (fun c_39 => ?_)
          · refine lv_iconst (v := 1) hx hb d_M_table_54 (by decide) ?_
            refine lv_goto (tgt := 59) hx hb d_M_table_55 (by decide) ?_
            refine lv_istore (lv' := [(6, .int 1), (0, .ref mo), (1, .int x1), (2, .int x2), (3, .int x3), (4, .int x4), (5, .int x5)]) hx hb d_M_table_59 hl (by decide) rfl (fun ls hl => ?_)
            refine lv_iload hx hb d_M_table_61 (lv_at hl 0 rfl) ?_
            refine lv_if_ne (tgt := 83) hx hb d_M_table_63 (by decide) (fun c_63 => ?_) (fun c_63 => absurd c_63 (by decide))
            exact absurd hu (by unfold q_un; rw [if_neg (fun q9 => q9 c_8), if_neg (fun q9 => q9.2 c_24), if_neg c_29, if_pos c_39]; decide)
          · refine lv_iload hx hb d_M_table_42 (lv_at hl 5 rfl) ?_
            refine lv_aload_n hx hb d_M_table_44 rfl (lv_at hl 0 rfl) ?_
            refine fp_get X Y om rfl in_M 4 (by decide) w605 rfl d_M_table_45 ?_
            refine fp_callS (nA := 2) (As := [.int x5, .int na]) (rest := []) X Y (c_M_not x5 na) w680 w678 w679 w9 (by decide +kernel) ⟨rfl, rfl⟩ ⟨Nat.le_of_ble_eq_true rfl, Nat.le_of_ble_eq_true rfl⟩ rfl hl.1 rfl (Nat.le_of_ble_eq_true rfl) d_M_table_48 ⟨Nat.zero_le _, Nat.zero_le _⟩ (fun v9 f9 H locs hp9 Y => ?_)
            obtain ⟨e8, e9⟩ := hp9
            subst e8
            rw [e9] at Y
            refine W.eq (g2 := F0 m 51 ls [.int (q_nt x5 na)]) rfl ?_
            refine lv_if_eq (tgt := 58) hx hb d_M_table_51 (by decide) (fun c_51 => ?_) (fun c_51 => ?_)
            · refine lv_iconst (v := 0) hx hb d_M_table_58 (by decide) ?_
              refine lv_istore (lv' := [(6, .int 0), (0, .ref mo), (1, .int x1), (2, .int x2), (3, .int x3), (4, .int x4), (5, .int x5)]) hx hb d_M_table_59 hl (by decide) rfl (fun ls hl => ?_)
              refine lv_iload hx hb d_M_table_61 (lv_at hl 0 rfl) ?_
              refine lv_if_ne (tgt := 83) hx hb d_M_table_63 (by decide) (fun c_63 => absurd (by decide) c_63) (fun c_63 => ?_)
              refine lv_iload hx hb d_M_table_66 (lv_at hl 5 rfl) ?_
              refine lv_iload hx hb d_M_table_68 (lv_at hl 6 rfl) ?_
              refine lv_ishr hx hb d_M_table_70 ?_
              refine lv_iconst (v := 1) hx hb d_M_table_71 (by decide) ?_
              refine lv_iand hx hb d_M_table_72 ?_
              refine lv_if_ne (tgt := 80) hx hb d_M_table_73 (by decide) (fun c_73 => ?_) (fun c_73 => ?_)
              · refine lv_iconst (v := 0) hx hb d_M_table_80 (by decide) ?_
                refine lv_istore (lv' := [(6, .int 0), (0, .ref mo), (1, .int x1), (2, .int x2), (3, .int x3), (4, .int x4), (5, .int x5)]) hx hb d_M_table_81 hl (by decide) rfl (fun ls hl => ?_)
                exact j83 _ _ Y ls (lv_sub hl [0, 1, 2, 3, 4, 5, 6] rfl)
              · refine lv_iconst (v := 1) hx hb d_M_table_76 (by decide) ?_
                refine lv_goto (tgt := 81) hx hb d_M_table_77 (by decide) ?_
                refine lv_istore (lv' := [(6, .int 1), (0, .ref mo), (1, .int x1), (2, .int x2), (3, .int x3), (4, .int x4), (5, .int x5)]) hx hb d_M_table_81 hl (by decide) rfl (fun ls hl => ?_)
                exact absurd hu (by unfold q_un; rw [if_neg (fun q9 => q9 c_8), if_neg (fun q9 => q9.2 c_24), if_neg c_29, if_neg (fun q9 => q9 c_39), if_neg (fun q9 => q9 c_51), if_pos c_73]; decide)
            · refine lv_iconst (v := 1) hx hb d_M_table_54 (by decide) ?_
              refine lv_goto (tgt := 59) hx hb d_M_table_55 (by decide) ?_
              refine lv_istore (lv' := [(6, .int 1), (0, .ref mo), (1, .int x1), (2, .int x2), (3, .int x3), (4, .int x4), (5, .int x5)]) hx hb d_M_table_59 hl (by decide) rfl (fun ls hl => ?_)
              refine lv_iload hx hb d_M_table_61 (lv_at hl 0 rfl) ?_
              refine lv_if_ne (tgt := 83) hx hb d_M_table_63 (by decide) (fun c_63 => ?_) (fun c_63 => absurd c_63 (by decide))
              exact absurd hu (by unfold q_un; rw [if_neg (fun q9 => q9 c_8), if_neg (fun q9 => q9.2 c_24), if_neg c_29, if_neg (fun q9 => q9 c_39), if_pos c_51]; decide)
set_option maxHeartbeats 4000000 in
set_option maxRecDepth 100000 in
theorem c_M_table {l : Launch} {D : va_G} {g : Nat → ClassId} {b n : Nat} {A : Nat → Prop} {f : Nat → va_E} {mo : Nat} {th nf na po dr : Int32} {tcn : Nat} {zo zt zq zm zs zc : Nat → Int32} {x1 x2 x3 x4 x5 : Int32} (hu : q_un x1 x2 x4 x5 nf na = 0) (hv : q_hm x3 x2 = 0) (htc : tcn < 8) (om : fp_o b n f mo (ob 8 [.int th, .int nf, .ref (mo + 1), .ref (mo + 2), .int na, .ref (mo + 3), .ref (mo + 4), .ref (mo + 5), .int (nI tcn), .ref (mo + 6), .ref (mo + 7), .ref (mo + 8), .ref (mo + 9), .ref (mo + 10), .ref (mo + 11), .ref (mo + 12), .ref (mo + 13), .ref (mo + 14), .int po, .int dr])) (o_one : fp_o b n f (mo + 6) (aI g 8 zo)) (o_two : fp_o b n f (mo + 7) (aI g 8 zt)) (o_how : fp_o b n f (mo + 8) (aI g 8 zq)) (o_may : fp_o b n f (mo + 9) (aI g 8 zm)) (o_miss : fp_o b n f (mo + 10) (aI g 8 zs)) (o_count : fp_o b n f (mo + 11) (aI g 8 zc))  (hA : fp_W b n A := by assumption) : fp_M l D (TY g) b n A y_M_table (fp_ws y_M_table b_M_table 8 (some FieldType.int)) (rmD 1) [.ref mo, .int x1, .int x2, .int x3, .int x4, .int x5] f (fun v f' => v = some (.int (nI tcn)) ∧ f' = va_up (va_up (va_up (va_up (va_up (va_up (va_up (va_up f (mo) (ob 8 [.int 0, .int nf, .ref (mo + 1), .ref (mo + 2), .int na, .ref (mo + 3), .ref (mo + 4), .ref (mo + 5), .int (nI tcn), .ref (mo + 6), .ref (mo + 7), .ref (mo + 8), .ref (mo + 9), .ref (mo + 10), .ref (mo + 11), .ref (mo + 12), .ref (mo + 13), .ref (mo + 14), .int po, .int dr])) (mo + 6) (aI g 8 (upd zo tcn x1))) (mo + 7) (aI g 8 (upd zt tcn x2))) (mo + 8) (aI g 8 (upd zq tcn x3))) (mo + 9) (aI g 8 (upd zm tcn x4))) (mo + 10) (aI g 8 (upd zs tcn x5))) (mo + 11) (aI g 8 (upd zc tcn 0))) (mo) (ob 8 [.int 0, .int nf, .ref (mo + 1), .ref (mo + 2), .int na, .ref (mo + 3), .ref (mo + 4), .ref (mo + 5), .int (nI (tcn + 1)), .ref (mo + 6), .ref (mo + 7), .ref (mo + 8), .ref (mo + 9), .ref (mo + 10), .ref (mo + 11), .ref (mo + 12), .ref (mo + 13), .ref (mo + 14), .int po, .int dr])) := by
  refine fp_ofI (plainFor_of_name (by decide)) (Nat.le_of_ble_eq_true rfl) ?_
  intro p e s m args below meth c Q ls H locs X Y hl ret
  have hx := X.1.1
  have hb := X.1.2.1
  have hl : lv_has ls 8 [(0, .ref mo), (1, .int x1), (2, .int x2), (3, .int x3), (4, .int x4), (5, .int x5)] := hl
  have j122 : ∀ (H : Heap) (locs : List Loc), fp_H D b n A f s.heap H locs → ∀ ls : Array Slot, lv_has ls 8 [(7, .int 0), (6, .int 0), (0, .ref mo), (1, .int x1), (2, .int x2), (3, .int x3), (4, .int x4), (5, .int x5)] → W p l e (rmD 1) s m args below meth c H locs 0 0 Q (F0 m 122 ls []) := by
    intro H locs Y ls hl
    refine lv_aload_n hx hb d_M_table_122 rfl (lv_at hl 2 rfl) ?_
    refine lv_iload hx hb d_M_table_123 (lv_at hl 1 rfl) ?_
    refine lv_if_eq (tgt := 132) hx hb d_M_table_125 (by decide) (fun c_125 => ?_) (fun c_125 => absurd (by decide) c_125)
    refine lv_iload hx hb d_M_table_132 (lv_at hl 0 rfl) ?_
    refine lv_if_eq (tgt := 141) hx hb d_M_table_134 (by decide) (fun c_134 => ?_) (fun c_134 => absurd (by decide) c_134)
    refine lv_aload_n hx hb d_M_table_141 rfl (lv_at hl 2 rfl) ?_
    refine fp_get X Y om rfl in_M 8 (by decide) w609 rfl d_M_table_142 ?_
    refine lv_bipush (v := 8) hx hb d_M_table_145 (by decide) ?_
    refine lv_icmp_ne (tgt := 154) hx hb d_M_table_147 (by decide) (fun c_147 => ?_) (fun c_147 => absurd c_147 (fun q => absurd ((nI_eq (by omega) (by decide)).mp (show nI tcn = nI 8 from q)) (by omega)))
    refine lv_iconst (v := 0) hx hb d_M_table_154 (by decide) ?_
    refine fp_put X Y om rfl in_M to_M nm_M 0 (by decide) w601 rfl rfl rfl (Nat.le_of_ble_eq_true rfl) d_M_table_155 (fun H locs Y => ?_)
    have ne_1 : mo + 6 ≠ mo := (fp_o.nf o_one om (by simp))
    have ne_2 : mo + 7 ≠ mo := (fp_o.nf o_two om (by simp))
    have ne_3 : mo + 8 ≠ mo := (fp_o.nf o_how om (by simp))
    have ne_4 : mo + 9 ≠ mo := (fp_o.nf o_may om (by simp))
    have ne_5 : mo + 10 ≠ mo := (fp_o.nf o_miss om (by simp))
    have ne_6 : mo + 11 ≠ mo := (fp_o.nf o_count om (by simp))
    have Y : fp_H D b n A (va_up f mo (ob 8 [.int 0, .int nf, .ref (mo + 1), .ref (mo + 2), .int na, .ref (mo + 3), .ref (mo + 4), .ref (mo + 5), .int (nI tcn), .ref (mo + 6), .ref (mo + 7), .ref (mo + 8), .ref (mo + 9), .ref (mo + 10), .ref (mo + 11), .ref (mo + 12), .ref (mo + 13), .ref (mo + 14), .int po, .int dr])) s.heap H locs := Y
    have o_one : fp_o b n (va_up f mo (ob 8 [.int 0, .int nf, .ref (mo + 1), .ref (mo + 2), .int na, .ref (mo + 3), .ref (mo + 4), .ref (mo + 5), .int (nI tcn), .ref (mo + 6), .ref (mo + 7), .ref (mo + 8), .ref (mo + 9), .ref (mo + 10), .ref (mo + 11), .ref (mo + 12), .ref (mo + 13), .ref (mo + 14), .int po, .int dr])) (mo + 6) (aI g 8 zo) := fp_o.ne o_one ne_1
    have o_two : fp_o b n (va_up f mo (ob 8 [.int 0, .int nf, .ref (mo + 1), .ref (mo + 2), .int na, .ref (mo + 3), .ref (mo + 4), .ref (mo + 5), .int (nI tcn), .ref (mo + 6), .ref (mo + 7), .ref (mo + 8), .ref (mo + 9), .ref (mo + 10), .ref (mo + 11), .ref (mo + 12), .ref (mo + 13), .ref (mo + 14), .int po, .int dr])) (mo + 7) (aI g 8 zt) := fp_o.ne o_two ne_2
    have o_how : fp_o b n (va_up f mo (ob 8 [.int 0, .int nf, .ref (mo + 1), .ref (mo + 2), .int na, .ref (mo + 3), .ref (mo + 4), .ref (mo + 5), .int (nI tcn), .ref (mo + 6), .ref (mo + 7), .ref (mo + 8), .ref (mo + 9), .ref (mo + 10), .ref (mo + 11), .ref (mo + 12), .ref (mo + 13), .ref (mo + 14), .int po, .int dr])) (mo + 8) (aI g 8 zq) := fp_o.ne o_how ne_3
    have o_may : fp_o b n (va_up f mo (ob 8 [.int 0, .int nf, .ref (mo + 1), .ref (mo + 2), .int na, .ref (mo + 3), .ref (mo + 4), .ref (mo + 5), .int (nI tcn), .ref (mo + 6), .ref (mo + 7), .ref (mo + 8), .ref (mo + 9), .ref (mo + 10), .ref (mo + 11), .ref (mo + 12), .ref (mo + 13), .ref (mo + 14), .int po, .int dr])) (mo + 9) (aI g 8 zm) := fp_o.ne o_may ne_4
    have o_miss : fp_o b n (va_up f mo (ob 8 [.int 0, .int nf, .ref (mo + 1), .ref (mo + 2), .int na, .ref (mo + 3), .ref (mo + 4), .ref (mo + 5), .int (nI tcn), .ref (mo + 6), .ref (mo + 7), .ref (mo + 8), .ref (mo + 9), .ref (mo + 10), .ref (mo + 11), .ref (mo + 12), .ref (mo + 13), .ref (mo + 14), .int po, .int dr])) (mo + 10) (aI g 8 zs) := fp_o.ne o_miss ne_5
    have o_count : fp_o b n (va_up f mo (ob 8 [.int 0, .int nf, .ref (mo + 1), .ref (mo + 2), .int na, .ref (mo + 3), .ref (mo + 4), .ref (mo + 5), .int (nI tcn), .ref (mo + 6), .ref (mo + 7), .ref (mo + 8), .ref (mo + 9), .ref (mo + 10), .ref (mo + 11), .ref (mo + 12), .ref (mo + 13), .ref (mo + 14), .int po, .int dr])) (mo + 11) (aI g 8 zc) := fp_o.ne o_count ne_6
    have om : fp_o b n (va_up f mo (ob 8 [.int 0, .int nf, .ref (mo + 1), .ref (mo + 2), .int na, .ref (mo + 3), .ref (mo + 4), .ref (mo + 5), .int (nI tcn), .ref (mo + 6), .ref (mo + 7), .ref (mo + 8), .ref (mo + 9), .ref (mo + 10), .ref (mo + 11), .ref (mo + 12), .ref (mo + 13), .ref (mo + 14), .int po, .int dr])) mo (ob 8 [.int 0, .int nf, .ref (mo + 1), .ref (mo + 2), .int na, .ref (mo + 3), .ref (mo + 4), .ref (mo + 5), .int (nI tcn), .ref (mo + 6), .ref (mo + 7), .ref (mo + 8), .ref (mo + 9), .ref (mo + 10), .ref (mo + 11), .ref (mo + 12), .ref (mo + 13), .ref (mo + 14), .int po, .int dr]) := fp_o.up om
    refine lv_aload_n hx hb d_M_table_158 rfl (lv_at hl 2 rfl) ?_
    refine fp_get X Y om rfl in_M 0 (by decide) w601 rfl d_M_table_159 ?_
    refine lv_if_eq (tgt := 167) hx hb d_M_table_162 (by decide) (fun c_162 => ?_) (fun c_162 => absurd (by decide) c_162)
    refine lv_aload_n hx hb d_M_table_167 rfl (lv_at hl 2 rfl) ?_
    refine fp_get X Y om rfl in_M 9 (by decide) w610 rfl d_M_table_168 ?_
    refine lv_aload_n hx hb d_M_table_171 rfl (lv_at hl 2 rfl) ?_
    refine fp_get X Y om rfl in_M 8 (by decide) w609 rfl d_M_table_172 ?_
    refine lv_iload_n hx hb d_M_table_175 rfl (lv_at hl 3 rfl) ?_
    refine fp_ist X Y o_one tcn rfl htc (by decide) d_M_table_176 (fun H locs Y => ?_)
    have ne_7 : mo ≠ mo + 6 := (fp_o.nf om o_one (by simp))
    have ne_8 : mo + 7 ≠ mo + 6 := (by omega)
    have ne_9 : mo + 8 ≠ mo + 6 := (by omega)
    have ne_10 : mo + 9 ≠ mo + 6 := (by omega)
    have ne_11 : mo + 10 ≠ mo + 6 := (by omega)
    have ne_12 : mo + 11 ≠ mo + 6 := (by omega)
    have Y : fp_H D b n A (va_up (va_up f mo (ob 8 [.int 0, .int nf, .ref (mo + 1), .ref (mo + 2), .int na, .ref (mo + 3), .ref (mo + 4), .ref (mo + 5), .int (nI tcn), .ref (mo + 6), .ref (mo + 7), .ref (mo + 8), .ref (mo + 9), .ref (mo + 10), .ref (mo + 11), .ref (mo + 12), .ref (mo + 13), .ref (mo + 14), .int po, .int dr])) (mo + 6) (aI g 8 (upd zo tcn x1))) s.heap H locs := Y
    have om : fp_o b n (va_up (va_up f mo (ob 8 [.int 0, .int nf, .ref (mo + 1), .ref (mo + 2), .int na, .ref (mo + 3), .ref (mo + 4), .ref (mo + 5), .int (nI tcn), .ref (mo + 6), .ref (mo + 7), .ref (mo + 8), .ref (mo + 9), .ref (mo + 10), .ref (mo + 11), .ref (mo + 12), .ref (mo + 13), .ref (mo + 14), .int po, .int dr])) (mo + 6) (aI g 8 (upd zo tcn x1))) mo (ob 8 [.int 0, .int nf, .ref (mo + 1), .ref (mo + 2), .int na, .ref (mo + 3), .ref (mo + 4), .ref (mo + 5), .int (nI tcn), .ref (mo + 6), .ref (mo + 7), .ref (mo + 8), .ref (mo + 9), .ref (mo + 10), .ref (mo + 11), .ref (mo + 12), .ref (mo + 13), .ref (mo + 14), .int po, .int dr]) := fp_o.ne om ne_7
    have o_two : fp_o b n (va_up (va_up f mo (ob 8 [.int 0, .int nf, .ref (mo + 1), .ref (mo + 2), .int na, .ref (mo + 3), .ref (mo + 4), .ref (mo + 5), .int (nI tcn), .ref (mo + 6), .ref (mo + 7), .ref (mo + 8), .ref (mo + 9), .ref (mo + 10), .ref (mo + 11), .ref (mo + 12), .ref (mo + 13), .ref (mo + 14), .int po, .int dr])) (mo + 6) (aI g 8 (upd zo tcn x1))) (mo + 7) (aI g 8 zt) := fp_o.ne o_two ne_8
    have o_how : fp_o b n (va_up (va_up f mo (ob 8 [.int 0, .int nf, .ref (mo + 1), .ref (mo + 2), .int na, .ref (mo + 3), .ref (mo + 4), .ref (mo + 5), .int (nI tcn), .ref (mo + 6), .ref (mo + 7), .ref (mo + 8), .ref (mo + 9), .ref (mo + 10), .ref (mo + 11), .ref (mo + 12), .ref (mo + 13), .ref (mo + 14), .int po, .int dr])) (mo + 6) (aI g 8 (upd zo tcn x1))) (mo + 8) (aI g 8 zq) := fp_o.ne o_how ne_9
    have o_may : fp_o b n (va_up (va_up f mo (ob 8 [.int 0, .int nf, .ref (mo + 1), .ref (mo + 2), .int na, .ref (mo + 3), .ref (mo + 4), .ref (mo + 5), .int (nI tcn), .ref (mo + 6), .ref (mo + 7), .ref (mo + 8), .ref (mo + 9), .ref (mo + 10), .ref (mo + 11), .ref (mo + 12), .ref (mo + 13), .ref (mo + 14), .int po, .int dr])) (mo + 6) (aI g 8 (upd zo tcn x1))) (mo + 9) (aI g 8 zm) := fp_o.ne o_may ne_10
    have o_miss : fp_o b n (va_up (va_up f mo (ob 8 [.int 0, .int nf, .ref (mo + 1), .ref (mo + 2), .int na, .ref (mo + 3), .ref (mo + 4), .ref (mo + 5), .int (nI tcn), .ref (mo + 6), .ref (mo + 7), .ref (mo + 8), .ref (mo + 9), .ref (mo + 10), .ref (mo + 11), .ref (mo + 12), .ref (mo + 13), .ref (mo + 14), .int po, .int dr])) (mo + 6) (aI g 8 (upd zo tcn x1))) (mo + 10) (aI g 8 zs) := fp_o.ne o_miss ne_11
    have o_count : fp_o b n (va_up (va_up f mo (ob 8 [.int 0, .int nf, .ref (mo + 1), .ref (mo + 2), .int na, .ref (mo + 3), .ref (mo + 4), .ref (mo + 5), .int (nI tcn), .ref (mo + 6), .ref (mo + 7), .ref (mo + 8), .ref (mo + 9), .ref (mo + 10), .ref (mo + 11), .ref (mo + 12), .ref (mo + 13), .ref (mo + 14), .int po, .int dr])) (mo + 6) (aI g 8 (upd zo tcn x1))) (mo + 11) (aI g 8 zc) := fp_o.ne o_count ne_12
    have o_one : fp_o b n (va_up (va_up f mo (ob 8 [.int 0, .int nf, .ref (mo + 1), .ref (mo + 2), .int na, .ref (mo + 3), .ref (mo + 4), .ref (mo + 5), .int (nI tcn), .ref (mo + 6), .ref (mo + 7), .ref (mo + 8), .ref (mo + 9), .ref (mo + 10), .ref (mo + 11), .ref (mo + 12), .ref (mo + 13), .ref (mo + 14), .int po, .int dr])) (mo + 6) (aI g 8 (upd zo tcn x1))) (mo + 6) (aI g 8 (upd zo tcn x1)) := fp_o.up o_one
    refine lv_aload_n hx hb d_M_table_177 rfl (lv_at hl 2 rfl) ?_
    refine fp_get X Y om rfl in_M 10 (by decide) w611 rfl d_M_table_178 ?_
    refine lv_aload_n hx hb d_M_table_181 rfl (lv_at hl 2 rfl) ?_
    refine fp_get X Y om rfl in_M 8 (by decide) w609 rfl d_M_table_182 ?_
    refine lv_iload_n hx hb d_M_table_185 rfl (lv_at hl 4 rfl) ?_
    refine fp_ist X Y o_two tcn rfl htc (by decide) d_M_table_186 (fun H locs Y => ?_)
    have ne_13 : mo ≠ mo + 7 := (fp_o.nf om o_two (by simp))
    have ne_14 : mo + 6 ≠ mo + 7 := (by omega)
    have ne_15 : mo + 8 ≠ mo + 7 := (by omega)
    have ne_16 : mo + 9 ≠ mo + 7 := (by omega)
    have ne_17 : mo + 10 ≠ mo + 7 := (by omega)
    have ne_18 : mo + 11 ≠ mo + 7 := (by omega)
    have Y : fp_H D b n A (va_up (va_up (va_up f mo (ob 8 [.int 0, .int nf, .ref (mo + 1), .ref (mo + 2), .int na, .ref (mo + 3), .ref (mo + 4), .ref (mo + 5), .int (nI tcn), .ref (mo + 6), .ref (mo + 7), .ref (mo + 8), .ref (mo + 9), .ref (mo + 10), .ref (mo + 11), .ref (mo + 12), .ref (mo + 13), .ref (mo + 14), .int po, .int dr])) (mo + 6) (aI g 8 (upd zo tcn x1))) (mo + 7) (aI g 8 (upd zt tcn x2))) s.heap H locs := Y
    have om : fp_o b n (va_up (va_up (va_up f mo (ob 8 [.int 0, .int nf, .ref (mo + 1), .ref (mo + 2), .int na, .ref (mo + 3), .ref (mo + 4), .ref (mo + 5), .int (nI tcn), .ref (mo + 6), .ref (mo + 7), .ref (mo + 8), .ref (mo + 9), .ref (mo + 10), .ref (mo + 11), .ref (mo + 12), .ref (mo + 13), .ref (mo + 14), .int po, .int dr])) (mo + 6) (aI g 8 (upd zo tcn x1))) (mo + 7) (aI g 8 (upd zt tcn x2))) mo (ob 8 [.int 0, .int nf, .ref (mo + 1), .ref (mo + 2), .int na, .ref (mo + 3), .ref (mo + 4), .ref (mo + 5), .int (nI tcn), .ref (mo + 6), .ref (mo + 7), .ref (mo + 8), .ref (mo + 9), .ref (mo + 10), .ref (mo + 11), .ref (mo + 12), .ref (mo + 13), .ref (mo + 14), .int po, .int dr]) := fp_o.ne om ne_13
    have o_one : fp_o b n (va_up (va_up (va_up f mo (ob 8 [.int 0, .int nf, .ref (mo + 1), .ref (mo + 2), .int na, .ref (mo + 3), .ref (mo + 4), .ref (mo + 5), .int (nI tcn), .ref (mo + 6), .ref (mo + 7), .ref (mo + 8), .ref (mo + 9), .ref (mo + 10), .ref (mo + 11), .ref (mo + 12), .ref (mo + 13), .ref (mo + 14), .int po, .int dr])) (mo + 6) (aI g 8 (upd zo tcn x1))) (mo + 7) (aI g 8 (upd zt tcn x2))) (mo + 6) (aI g 8 (upd zo tcn x1)) := fp_o.ne o_one ne_14
    have o_how : fp_o b n (va_up (va_up (va_up f mo (ob 8 [.int 0, .int nf, .ref (mo + 1), .ref (mo + 2), .int na, .ref (mo + 3), .ref (mo + 4), .ref (mo + 5), .int (nI tcn), .ref (mo + 6), .ref (mo + 7), .ref (mo + 8), .ref (mo + 9), .ref (mo + 10), .ref (mo + 11), .ref (mo + 12), .ref (mo + 13), .ref (mo + 14), .int po, .int dr])) (mo + 6) (aI g 8 (upd zo tcn x1))) (mo + 7) (aI g 8 (upd zt tcn x2))) (mo + 8) (aI g 8 zq) := fp_o.ne o_how ne_15
    have o_may : fp_o b n (va_up (va_up (va_up f mo (ob 8 [.int 0, .int nf, .ref (mo + 1), .ref (mo + 2), .int na, .ref (mo + 3), .ref (mo + 4), .ref (mo + 5), .int (nI tcn), .ref (mo + 6), .ref (mo + 7), .ref (mo + 8), .ref (mo + 9), .ref (mo + 10), .ref (mo + 11), .ref (mo + 12), .ref (mo + 13), .ref (mo + 14), .int po, .int dr])) (mo + 6) (aI g 8 (upd zo tcn x1))) (mo + 7) (aI g 8 (upd zt tcn x2))) (mo + 9) (aI g 8 zm) := fp_o.ne o_may ne_16
    have o_miss : fp_o b n (va_up (va_up (va_up f mo (ob 8 [.int 0, .int nf, .ref (mo + 1), .ref (mo + 2), .int na, .ref (mo + 3), .ref (mo + 4), .ref (mo + 5), .int (nI tcn), .ref (mo + 6), .ref (mo + 7), .ref (mo + 8), .ref (mo + 9), .ref (mo + 10), .ref (mo + 11), .ref (mo + 12), .ref (mo + 13), .ref (mo + 14), .int po, .int dr])) (mo + 6) (aI g 8 (upd zo tcn x1))) (mo + 7) (aI g 8 (upd zt tcn x2))) (mo + 10) (aI g 8 zs) := fp_o.ne o_miss ne_17
    have o_count : fp_o b n (va_up (va_up (va_up f mo (ob 8 [.int 0, .int nf, .ref (mo + 1), .ref (mo + 2), .int na, .ref (mo + 3), .ref (mo + 4), .ref (mo + 5), .int (nI tcn), .ref (mo + 6), .ref (mo + 7), .ref (mo + 8), .ref (mo + 9), .ref (mo + 10), .ref (mo + 11), .ref (mo + 12), .ref (mo + 13), .ref (mo + 14), .int po, .int dr])) (mo + 6) (aI g 8 (upd zo tcn x1))) (mo + 7) (aI g 8 (upd zt tcn x2))) (mo + 11) (aI g 8 zc) := fp_o.ne o_count ne_18
    have o_two : fp_o b n (va_up (va_up (va_up f mo (ob 8 [.int 0, .int nf, .ref (mo + 1), .ref (mo + 2), .int na, .ref (mo + 3), .ref (mo + 4), .ref (mo + 5), .int (nI tcn), .ref (mo + 6), .ref (mo + 7), .ref (mo + 8), .ref (mo + 9), .ref (mo + 10), .ref (mo + 11), .ref (mo + 12), .ref (mo + 13), .ref (mo + 14), .int po, .int dr])) (mo + 6) (aI g 8 (upd zo tcn x1))) (mo + 7) (aI g 8 (upd zt tcn x2))) (mo + 7) (aI g 8 (upd zt tcn x2)) := fp_o.up o_two
    refine lv_aload_n hx hb d_M_table_187 rfl (lv_at hl 2 rfl) ?_
    refine fp_get X Y om rfl in_M 11 (by decide) w612 rfl d_M_table_188 ?_
    refine lv_aload_n hx hb d_M_table_191 rfl (lv_at hl 2 rfl) ?_
    refine fp_get X Y om rfl in_M 8 (by decide) w609 rfl d_M_table_192 ?_
    refine lv_iload_n hx hb d_M_table_195 rfl (lv_at hl 5 rfl) ?_
    refine fp_ist X Y o_how tcn rfl htc (by decide) d_M_table_196 (fun H locs Y => ?_)
    have ne_19 : mo ≠ mo + 8 := (fp_o.nf om o_how (by simp))
    have ne_20 : mo + 6 ≠ mo + 8 := (by omega)
    have ne_21 : mo + 7 ≠ mo + 8 := (by omega)
    have ne_22 : mo + 9 ≠ mo + 8 := (by omega)
    have ne_23 : mo + 10 ≠ mo + 8 := (by omega)
    have ne_24 : mo + 11 ≠ mo + 8 := (by omega)
    have Y : fp_H D b n A (va_up (va_up (va_up (va_up f mo (ob 8 [.int 0, .int nf, .ref (mo + 1), .ref (mo + 2), .int na, .ref (mo + 3), .ref (mo + 4), .ref (mo + 5), .int (nI tcn), .ref (mo + 6), .ref (mo + 7), .ref (mo + 8), .ref (mo + 9), .ref (mo + 10), .ref (mo + 11), .ref (mo + 12), .ref (mo + 13), .ref (mo + 14), .int po, .int dr])) (mo + 6) (aI g 8 (upd zo tcn x1))) (mo + 7) (aI g 8 (upd zt tcn x2))) (mo + 8) (aI g 8 (upd zq tcn x3))) s.heap H locs := Y
    have om : fp_o b n (va_up (va_up (va_up (va_up f mo (ob 8 [.int 0, .int nf, .ref (mo + 1), .ref (mo + 2), .int na, .ref (mo + 3), .ref (mo + 4), .ref (mo + 5), .int (nI tcn), .ref (mo + 6), .ref (mo + 7), .ref (mo + 8), .ref (mo + 9), .ref (mo + 10), .ref (mo + 11), .ref (mo + 12), .ref (mo + 13), .ref (mo + 14), .int po, .int dr])) (mo + 6) (aI g 8 (upd zo tcn x1))) (mo + 7) (aI g 8 (upd zt tcn x2))) (mo + 8) (aI g 8 (upd zq tcn x3))) mo (ob 8 [.int 0, .int nf, .ref (mo + 1), .ref (mo + 2), .int na, .ref (mo + 3), .ref (mo + 4), .ref (mo + 5), .int (nI tcn), .ref (mo + 6), .ref (mo + 7), .ref (mo + 8), .ref (mo + 9), .ref (mo + 10), .ref (mo + 11), .ref (mo + 12), .ref (mo + 13), .ref (mo + 14), .int po, .int dr]) := fp_o.ne om ne_19
    have o_one : fp_o b n (va_up (va_up (va_up (va_up f mo (ob 8 [.int 0, .int nf, .ref (mo + 1), .ref (mo + 2), .int na, .ref (mo + 3), .ref (mo + 4), .ref (mo + 5), .int (nI tcn), .ref (mo + 6), .ref (mo + 7), .ref (mo + 8), .ref (mo + 9), .ref (mo + 10), .ref (mo + 11), .ref (mo + 12), .ref (mo + 13), .ref (mo + 14), .int po, .int dr])) (mo + 6) (aI g 8 (upd zo tcn x1))) (mo + 7) (aI g 8 (upd zt tcn x2))) (mo + 8) (aI g 8 (upd zq tcn x3))) (mo + 6) (aI g 8 (upd zo tcn x1)) := fp_o.ne o_one ne_20
    have o_two : fp_o b n (va_up (va_up (va_up (va_up f mo (ob 8 [.int 0, .int nf, .ref (mo + 1), .ref (mo + 2), .int na, .ref (mo + 3), .ref (mo + 4), .ref (mo + 5), .int (nI tcn), .ref (mo + 6), .ref (mo + 7), .ref (mo + 8), .ref (mo + 9), .ref (mo + 10), .ref (mo + 11), .ref (mo + 12), .ref (mo + 13), .ref (mo + 14), .int po, .int dr])) (mo + 6) (aI g 8 (upd zo tcn x1))) (mo + 7) (aI g 8 (upd zt tcn x2))) (mo + 8) (aI g 8 (upd zq tcn x3))) (mo + 7) (aI g 8 (upd zt tcn x2)) := fp_o.ne o_two ne_21
    have o_may : fp_o b n (va_up (va_up (va_up (va_up f mo (ob 8 [.int 0, .int nf, .ref (mo + 1), .ref (mo + 2), .int na, .ref (mo + 3), .ref (mo + 4), .ref (mo + 5), .int (nI tcn), .ref (mo + 6), .ref (mo + 7), .ref (mo + 8), .ref (mo + 9), .ref (mo + 10), .ref (mo + 11), .ref (mo + 12), .ref (mo + 13), .ref (mo + 14), .int po, .int dr])) (mo + 6) (aI g 8 (upd zo tcn x1))) (mo + 7) (aI g 8 (upd zt tcn x2))) (mo + 8) (aI g 8 (upd zq tcn x3))) (mo + 9) (aI g 8 zm) := fp_o.ne o_may ne_22
    have o_miss : fp_o b n (va_up (va_up (va_up (va_up f mo (ob 8 [.int 0, .int nf, .ref (mo + 1), .ref (mo + 2), .int na, .ref (mo + 3), .ref (mo + 4), .ref (mo + 5), .int (nI tcn), .ref (mo + 6), .ref (mo + 7), .ref (mo + 8), .ref (mo + 9), .ref (mo + 10), .ref (mo + 11), .ref (mo + 12), .ref (mo + 13), .ref (mo + 14), .int po, .int dr])) (mo + 6) (aI g 8 (upd zo tcn x1))) (mo + 7) (aI g 8 (upd zt tcn x2))) (mo + 8) (aI g 8 (upd zq tcn x3))) (mo + 10) (aI g 8 zs) := fp_o.ne o_miss ne_23
    have o_count : fp_o b n (va_up (va_up (va_up (va_up f mo (ob 8 [.int 0, .int nf, .ref (mo + 1), .ref (mo + 2), .int na, .ref (mo + 3), .ref (mo + 4), .ref (mo + 5), .int (nI tcn), .ref (mo + 6), .ref (mo + 7), .ref (mo + 8), .ref (mo + 9), .ref (mo + 10), .ref (mo + 11), .ref (mo + 12), .ref (mo + 13), .ref (mo + 14), .int po, .int dr])) (mo + 6) (aI g 8 (upd zo tcn x1))) (mo + 7) (aI g 8 (upd zt tcn x2))) (mo + 8) (aI g 8 (upd zq tcn x3))) (mo + 11) (aI g 8 zc) := fp_o.ne o_count ne_24
    have o_how : fp_o b n (va_up (va_up (va_up (va_up f mo (ob 8 [.int 0, .int nf, .ref (mo + 1), .ref (mo + 2), .int na, .ref (mo + 3), .ref (mo + 4), .ref (mo + 5), .int (nI tcn), .ref (mo + 6), .ref (mo + 7), .ref (mo + 8), .ref (mo + 9), .ref (mo + 10), .ref (mo + 11), .ref (mo + 12), .ref (mo + 13), .ref (mo + 14), .int po, .int dr])) (mo + 6) (aI g 8 (upd zo tcn x1))) (mo + 7) (aI g 8 (upd zt tcn x2))) (mo + 8) (aI g 8 (upd zq tcn x3))) (mo + 8) (aI g 8 (upd zq tcn x3)) := fp_o.up o_how
    refine lv_aload_n hx hb d_M_table_197 rfl (lv_at hl 2 rfl) ?_
    refine fp_get X Y om rfl in_M 12 (by decide) w613 rfl d_M_table_198 ?_
    refine lv_aload_n hx hb d_M_table_201 rfl (lv_at hl 2 rfl) ?_
    refine fp_get X Y om rfl in_M 8 (by decide) w609 rfl d_M_table_202 ?_
    refine lv_iload hx hb d_M_table_205 (lv_at hl 6 rfl) ?_
    refine fp_ist X Y o_may tcn rfl htc (by decide) d_M_table_207 (fun H locs Y => ?_)
    have ne_25 : mo ≠ mo + 9 := (fp_o.nf om o_may (by simp))
    have ne_26 : mo + 6 ≠ mo + 9 := (by omega)
    have ne_27 : mo + 7 ≠ mo + 9 := (by omega)
    have ne_28 : mo + 8 ≠ mo + 9 := (by omega)
    have ne_29 : mo + 10 ≠ mo + 9 := (by omega)
    have ne_30 : mo + 11 ≠ mo + 9 := (by omega)
    have Y : fp_H D b n A (va_up (va_up (va_up (va_up (va_up f mo (ob 8 [.int 0, .int nf, .ref (mo + 1), .ref (mo + 2), .int na, .ref (mo + 3), .ref (mo + 4), .ref (mo + 5), .int (nI tcn), .ref (mo + 6), .ref (mo + 7), .ref (mo + 8), .ref (mo + 9), .ref (mo + 10), .ref (mo + 11), .ref (mo + 12), .ref (mo + 13), .ref (mo + 14), .int po, .int dr])) (mo + 6) (aI g 8 (upd zo tcn x1))) (mo + 7) (aI g 8 (upd zt tcn x2))) (mo + 8) (aI g 8 (upd zq tcn x3))) (mo + 9) (aI g 8 (upd zm tcn x4))) s.heap H locs := Y
    have om : fp_o b n (va_up (va_up (va_up (va_up (va_up f mo (ob 8 [.int 0, .int nf, .ref (mo + 1), .ref (mo + 2), .int na, .ref (mo + 3), .ref (mo + 4), .ref (mo + 5), .int (nI tcn), .ref (mo + 6), .ref (mo + 7), .ref (mo + 8), .ref (mo + 9), .ref (mo + 10), .ref (mo + 11), .ref (mo + 12), .ref (mo + 13), .ref (mo + 14), .int po, .int dr])) (mo + 6) (aI g 8 (upd zo tcn x1))) (mo + 7) (aI g 8 (upd zt tcn x2))) (mo + 8) (aI g 8 (upd zq tcn x3))) (mo + 9) (aI g 8 (upd zm tcn x4))) mo (ob 8 [.int 0, .int nf, .ref (mo + 1), .ref (mo + 2), .int na, .ref (mo + 3), .ref (mo + 4), .ref (mo + 5), .int (nI tcn), .ref (mo + 6), .ref (mo + 7), .ref (mo + 8), .ref (mo + 9), .ref (mo + 10), .ref (mo + 11), .ref (mo + 12), .ref (mo + 13), .ref (mo + 14), .int po, .int dr]) := fp_o.ne om ne_25
    have o_one : fp_o b n (va_up (va_up (va_up (va_up (va_up f mo (ob 8 [.int 0, .int nf, .ref (mo + 1), .ref (mo + 2), .int na, .ref (mo + 3), .ref (mo + 4), .ref (mo + 5), .int (nI tcn), .ref (mo + 6), .ref (mo + 7), .ref (mo + 8), .ref (mo + 9), .ref (mo + 10), .ref (mo + 11), .ref (mo + 12), .ref (mo + 13), .ref (mo + 14), .int po, .int dr])) (mo + 6) (aI g 8 (upd zo tcn x1))) (mo + 7) (aI g 8 (upd zt tcn x2))) (mo + 8) (aI g 8 (upd zq tcn x3))) (mo + 9) (aI g 8 (upd zm tcn x4))) (mo + 6) (aI g 8 (upd zo tcn x1)) := fp_o.ne o_one ne_26
    have o_two : fp_o b n (va_up (va_up (va_up (va_up (va_up f mo (ob 8 [.int 0, .int nf, .ref (mo + 1), .ref (mo + 2), .int na, .ref (mo + 3), .ref (mo + 4), .ref (mo + 5), .int (nI tcn), .ref (mo + 6), .ref (mo + 7), .ref (mo + 8), .ref (mo + 9), .ref (mo + 10), .ref (mo + 11), .ref (mo + 12), .ref (mo + 13), .ref (mo + 14), .int po, .int dr])) (mo + 6) (aI g 8 (upd zo tcn x1))) (mo + 7) (aI g 8 (upd zt tcn x2))) (mo + 8) (aI g 8 (upd zq tcn x3))) (mo + 9) (aI g 8 (upd zm tcn x4))) (mo + 7) (aI g 8 (upd zt tcn x2)) := fp_o.ne o_two ne_27
    have o_how : fp_o b n (va_up (va_up (va_up (va_up (va_up f mo (ob 8 [.int 0, .int nf, .ref (mo + 1), .ref (mo + 2), .int na, .ref (mo + 3), .ref (mo + 4), .ref (mo + 5), .int (nI tcn), .ref (mo + 6), .ref (mo + 7), .ref (mo + 8), .ref (mo + 9), .ref (mo + 10), .ref (mo + 11), .ref (mo + 12), .ref (mo + 13), .ref (mo + 14), .int po, .int dr])) (mo + 6) (aI g 8 (upd zo tcn x1))) (mo + 7) (aI g 8 (upd zt tcn x2))) (mo + 8) (aI g 8 (upd zq tcn x3))) (mo + 9) (aI g 8 (upd zm tcn x4))) (mo + 8) (aI g 8 (upd zq tcn x3)) := fp_o.ne o_how ne_28
    have o_miss : fp_o b n (va_up (va_up (va_up (va_up (va_up f mo (ob 8 [.int 0, .int nf, .ref (mo + 1), .ref (mo + 2), .int na, .ref (mo + 3), .ref (mo + 4), .ref (mo + 5), .int (nI tcn), .ref (mo + 6), .ref (mo + 7), .ref (mo + 8), .ref (mo + 9), .ref (mo + 10), .ref (mo + 11), .ref (mo + 12), .ref (mo + 13), .ref (mo + 14), .int po, .int dr])) (mo + 6) (aI g 8 (upd zo tcn x1))) (mo + 7) (aI g 8 (upd zt tcn x2))) (mo + 8) (aI g 8 (upd zq tcn x3))) (mo + 9) (aI g 8 (upd zm tcn x4))) (mo + 10) (aI g 8 zs) := fp_o.ne o_miss ne_29
    have o_count : fp_o b n (va_up (va_up (va_up (va_up (va_up f mo (ob 8 [.int 0, .int nf, .ref (mo + 1), .ref (mo + 2), .int na, .ref (mo + 3), .ref (mo + 4), .ref (mo + 5), .int (nI tcn), .ref (mo + 6), .ref (mo + 7), .ref (mo + 8), .ref (mo + 9), .ref (mo + 10), .ref (mo + 11), .ref (mo + 12), .ref (mo + 13), .ref (mo + 14), .int po, .int dr])) (mo + 6) (aI g 8 (upd zo tcn x1))) (mo + 7) (aI g 8 (upd zt tcn x2))) (mo + 8) (aI g 8 (upd zq tcn x3))) (mo + 9) (aI g 8 (upd zm tcn x4))) (mo + 11) (aI g 8 zc) := fp_o.ne o_count ne_30
    have o_may : fp_o b n (va_up (va_up (va_up (va_up (va_up f mo (ob 8 [.int 0, .int nf, .ref (mo + 1), .ref (mo + 2), .int na, .ref (mo + 3), .ref (mo + 4), .ref (mo + 5), .int (nI tcn), .ref (mo + 6), .ref (mo + 7), .ref (mo + 8), .ref (mo + 9), .ref (mo + 10), .ref (mo + 11), .ref (mo + 12), .ref (mo + 13), .ref (mo + 14), .int po, .int dr])) (mo + 6) (aI g 8 (upd zo tcn x1))) (mo + 7) (aI g 8 (upd zt tcn x2))) (mo + 8) (aI g 8 (upd zq tcn x3))) (mo + 9) (aI g 8 (upd zm tcn x4))) (mo + 9) (aI g 8 (upd zm tcn x4)) := fp_o.up o_may
    refine lv_aload_n hx hb d_M_table_208 rfl (lv_at hl 2 rfl) ?_
    refine fp_get X Y om rfl in_M 13 (by decide) w614 rfl d_M_table_209 ?_
    refine lv_aload_n hx hb d_M_table_212 rfl (lv_at hl 2 rfl) ?_
    refine fp_get X Y om rfl in_M 8 (by decide) w609 rfl d_M_table_213 ?_
    refine lv_iload hx hb d_M_table_216 (lv_at hl 7 rfl) ?_
    refine fp_ist X Y o_miss tcn rfl htc (by decide) d_M_table_218 (fun H locs Y => ?_)
    have ne_31 : mo ≠ mo + 10 := (fp_o.nf om o_miss (by simp))
    have ne_32 : mo + 6 ≠ mo + 10 := (by omega)
    have ne_33 : mo + 7 ≠ mo + 10 := (by omega)
    have ne_34 : mo + 8 ≠ mo + 10 := (by omega)
    have ne_35 : mo + 9 ≠ mo + 10 := (by omega)
    have ne_36 : mo + 11 ≠ mo + 10 := (by omega)
    have Y : fp_H D b n A (va_up (va_up (va_up (va_up (va_up (va_up f mo (ob 8 [.int 0, .int nf, .ref (mo + 1), .ref (mo + 2), .int na, .ref (mo + 3), .ref (mo + 4), .ref (mo + 5), .int (nI tcn), .ref (mo + 6), .ref (mo + 7), .ref (mo + 8), .ref (mo + 9), .ref (mo + 10), .ref (mo + 11), .ref (mo + 12), .ref (mo + 13), .ref (mo + 14), .int po, .int dr])) (mo + 6) (aI g 8 (upd zo tcn x1))) (mo + 7) (aI g 8 (upd zt tcn x2))) (mo + 8) (aI g 8 (upd zq tcn x3))) (mo + 9) (aI g 8 (upd zm tcn x4))) (mo + 10) (aI g 8 (upd zs tcn x5))) s.heap H locs := Y
    have om : fp_o b n (va_up (va_up (va_up (va_up (va_up (va_up f mo (ob 8 [.int 0, .int nf, .ref (mo + 1), .ref (mo + 2), .int na, .ref (mo + 3), .ref (mo + 4), .ref (mo + 5), .int (nI tcn), .ref (mo + 6), .ref (mo + 7), .ref (mo + 8), .ref (mo + 9), .ref (mo + 10), .ref (mo + 11), .ref (mo + 12), .ref (mo + 13), .ref (mo + 14), .int po, .int dr])) (mo + 6) (aI g 8 (upd zo tcn x1))) (mo + 7) (aI g 8 (upd zt tcn x2))) (mo + 8) (aI g 8 (upd zq tcn x3))) (mo + 9) (aI g 8 (upd zm tcn x4))) (mo + 10) (aI g 8 (upd zs tcn x5))) mo (ob 8 [.int 0, .int nf, .ref (mo + 1), .ref (mo + 2), .int na, .ref (mo + 3), .ref (mo + 4), .ref (mo + 5), .int (nI tcn), .ref (mo + 6), .ref (mo + 7), .ref (mo + 8), .ref (mo + 9), .ref (mo + 10), .ref (mo + 11), .ref (mo + 12), .ref (mo + 13), .ref (mo + 14), .int po, .int dr]) := fp_o.ne om ne_31
    have o_one : fp_o b n (va_up (va_up (va_up (va_up (va_up (va_up f mo (ob 8 [.int 0, .int nf, .ref (mo + 1), .ref (mo + 2), .int na, .ref (mo + 3), .ref (mo + 4), .ref (mo + 5), .int (nI tcn), .ref (mo + 6), .ref (mo + 7), .ref (mo + 8), .ref (mo + 9), .ref (mo + 10), .ref (mo + 11), .ref (mo + 12), .ref (mo + 13), .ref (mo + 14), .int po, .int dr])) (mo + 6) (aI g 8 (upd zo tcn x1))) (mo + 7) (aI g 8 (upd zt tcn x2))) (mo + 8) (aI g 8 (upd zq tcn x3))) (mo + 9) (aI g 8 (upd zm tcn x4))) (mo + 10) (aI g 8 (upd zs tcn x5))) (mo + 6) (aI g 8 (upd zo tcn x1)) := fp_o.ne o_one ne_32
    have o_two : fp_o b n (va_up (va_up (va_up (va_up (va_up (va_up f mo (ob 8 [.int 0, .int nf, .ref (mo + 1), .ref (mo + 2), .int na, .ref (mo + 3), .ref (mo + 4), .ref (mo + 5), .int (nI tcn), .ref (mo + 6), .ref (mo + 7), .ref (mo + 8), .ref (mo + 9), .ref (mo + 10), .ref (mo + 11), .ref (mo + 12), .ref (mo + 13), .ref (mo + 14), .int po, .int dr])) (mo + 6) (aI g 8 (upd zo tcn x1))) (mo + 7) (aI g 8 (upd zt tcn x2))) (mo + 8) (aI g 8 (upd zq tcn x3))) (mo + 9) (aI g 8 (upd zm tcn x4))) (mo + 10) (aI g 8 (upd zs tcn x5))) (mo + 7) (aI g 8 (upd zt tcn x2)) := fp_o.ne o_two ne_33
    have o_how : fp_o b n (va_up (va_up (va_up (va_up (va_up (va_up f mo (ob 8 [.int 0, .int nf, .ref (mo + 1), .ref (mo + 2), .int na, .ref (mo + 3), .ref (mo + 4), .ref (mo + 5), .int (nI tcn), .ref (mo + 6), .ref (mo + 7), .ref (mo + 8), .ref (mo + 9), .ref (mo + 10), .ref (mo + 11), .ref (mo + 12), .ref (mo + 13), .ref (mo + 14), .int po, .int dr])) (mo + 6) (aI g 8 (upd zo tcn x1))) (mo + 7) (aI g 8 (upd zt tcn x2))) (mo + 8) (aI g 8 (upd zq tcn x3))) (mo + 9) (aI g 8 (upd zm tcn x4))) (mo + 10) (aI g 8 (upd zs tcn x5))) (mo + 8) (aI g 8 (upd zq tcn x3)) := fp_o.ne o_how ne_34
    have o_may : fp_o b n (va_up (va_up (va_up (va_up (va_up (va_up f mo (ob 8 [.int 0, .int nf, .ref (mo + 1), .ref (mo + 2), .int na, .ref (mo + 3), .ref (mo + 4), .ref (mo + 5), .int (nI tcn), .ref (mo + 6), .ref (mo + 7), .ref (mo + 8), .ref (mo + 9), .ref (mo + 10), .ref (mo + 11), .ref (mo + 12), .ref (mo + 13), .ref (mo + 14), .int po, .int dr])) (mo + 6) (aI g 8 (upd zo tcn x1))) (mo + 7) (aI g 8 (upd zt tcn x2))) (mo + 8) (aI g 8 (upd zq tcn x3))) (mo + 9) (aI g 8 (upd zm tcn x4))) (mo + 10) (aI g 8 (upd zs tcn x5))) (mo + 9) (aI g 8 (upd zm tcn x4)) := fp_o.ne o_may ne_35
    have o_count : fp_o b n (va_up (va_up (va_up (va_up (va_up (va_up f mo (ob 8 [.int 0, .int nf, .ref (mo + 1), .ref (mo + 2), .int na, .ref (mo + 3), .ref (mo + 4), .ref (mo + 5), .int (nI tcn), .ref (mo + 6), .ref (mo + 7), .ref (mo + 8), .ref (mo + 9), .ref (mo + 10), .ref (mo + 11), .ref (mo + 12), .ref (mo + 13), .ref (mo + 14), .int po, .int dr])) (mo + 6) (aI g 8 (upd zo tcn x1))) (mo + 7) (aI g 8 (upd zt tcn x2))) (mo + 8) (aI g 8 (upd zq tcn x3))) (mo + 9) (aI g 8 (upd zm tcn x4))) (mo + 10) (aI g 8 (upd zs tcn x5))) (mo + 11) (aI g 8 zc) := fp_o.ne o_count ne_36
    have o_miss : fp_o b n (va_up (va_up (va_up (va_up (va_up (va_up f mo (ob 8 [.int 0, .int nf, .ref (mo + 1), .ref (mo + 2), .int na, .ref (mo + 3), .ref (mo + 4), .ref (mo + 5), .int (nI tcn), .ref (mo + 6), .ref (mo + 7), .ref (mo + 8), .ref (mo + 9), .ref (mo + 10), .ref (mo + 11), .ref (mo + 12), .ref (mo + 13), .ref (mo + 14), .int po, .int dr])) (mo + 6) (aI g 8 (upd zo tcn x1))) (mo + 7) (aI g 8 (upd zt tcn x2))) (mo + 8) (aI g 8 (upd zq tcn x3))) (mo + 9) (aI g 8 (upd zm tcn x4))) (mo + 10) (aI g 8 (upd zs tcn x5))) (mo + 10) (aI g 8 (upd zs tcn x5)) := fp_o.up o_miss
    refine lv_aload_n hx hb d_M_table_219 rfl (lv_at hl 2 rfl) ?_
    refine fp_get X Y om rfl in_M 14 (by decide) w615 rfl d_M_table_220 ?_
    refine lv_aload_n hx hb d_M_table_223 rfl (lv_at hl 2 rfl) ?_
    refine fp_get X Y om rfl in_M 8 (by decide) w609 rfl d_M_table_224 ?_
    refine lv_iconst (v := 0) hx hb d_M_table_227 (by decide) ?_
    refine fp_ist X Y o_count tcn rfl htc (by decide) d_M_table_228 (fun H locs Y => ?_)
    have ne_37 : mo ≠ mo + 11 := (fp_o.nf om o_count (by simp))
    have ne_38 : mo + 6 ≠ mo + 11 := (by omega)
    have ne_39 : mo + 7 ≠ mo + 11 := (by omega)
    have ne_40 : mo + 8 ≠ mo + 11 := (by omega)
    have ne_41 : mo + 9 ≠ mo + 11 := (by omega)
    have ne_42 : mo + 10 ≠ mo + 11 := (by omega)
    have Y : fp_H D b n A (va_up (va_up (va_up (va_up (va_up (va_up (va_up f mo (ob 8 [.int 0, .int nf, .ref (mo + 1), .ref (mo + 2), .int na, .ref (mo + 3), .ref (mo + 4), .ref (mo + 5), .int (nI tcn), .ref (mo + 6), .ref (mo + 7), .ref (mo + 8), .ref (mo + 9), .ref (mo + 10), .ref (mo + 11), .ref (mo + 12), .ref (mo + 13), .ref (mo + 14), .int po, .int dr])) (mo + 6) (aI g 8 (upd zo tcn x1))) (mo + 7) (aI g 8 (upd zt tcn x2))) (mo + 8) (aI g 8 (upd zq tcn x3))) (mo + 9) (aI g 8 (upd zm tcn x4))) (mo + 10) (aI g 8 (upd zs tcn x5))) (mo + 11) (aI g 8 (upd zc tcn 0))) s.heap H locs := Y
    have om : fp_o b n (va_up (va_up (va_up (va_up (va_up (va_up (va_up f mo (ob 8 [.int 0, .int nf, .ref (mo + 1), .ref (mo + 2), .int na, .ref (mo + 3), .ref (mo + 4), .ref (mo + 5), .int (nI tcn), .ref (mo + 6), .ref (mo + 7), .ref (mo + 8), .ref (mo + 9), .ref (mo + 10), .ref (mo + 11), .ref (mo + 12), .ref (mo + 13), .ref (mo + 14), .int po, .int dr])) (mo + 6) (aI g 8 (upd zo tcn x1))) (mo + 7) (aI g 8 (upd zt tcn x2))) (mo + 8) (aI g 8 (upd zq tcn x3))) (mo + 9) (aI g 8 (upd zm tcn x4))) (mo + 10) (aI g 8 (upd zs tcn x5))) (mo + 11) (aI g 8 (upd zc tcn 0))) mo (ob 8 [.int 0, .int nf, .ref (mo + 1), .ref (mo + 2), .int na, .ref (mo + 3), .ref (mo + 4), .ref (mo + 5), .int (nI tcn), .ref (mo + 6), .ref (mo + 7), .ref (mo + 8), .ref (mo + 9), .ref (mo + 10), .ref (mo + 11), .ref (mo + 12), .ref (mo + 13), .ref (mo + 14), .int po, .int dr]) := fp_o.ne om ne_37
    have o_one : fp_o b n (va_up (va_up (va_up (va_up (va_up (va_up (va_up f mo (ob 8 [.int 0, .int nf, .ref (mo + 1), .ref (mo + 2), .int na, .ref (mo + 3), .ref (mo + 4), .ref (mo + 5), .int (nI tcn), .ref (mo + 6), .ref (mo + 7), .ref (mo + 8), .ref (mo + 9), .ref (mo + 10), .ref (mo + 11), .ref (mo + 12), .ref (mo + 13), .ref (mo + 14), .int po, .int dr])) (mo + 6) (aI g 8 (upd zo tcn x1))) (mo + 7) (aI g 8 (upd zt tcn x2))) (mo + 8) (aI g 8 (upd zq tcn x3))) (mo + 9) (aI g 8 (upd zm tcn x4))) (mo + 10) (aI g 8 (upd zs tcn x5))) (mo + 11) (aI g 8 (upd zc tcn 0))) (mo + 6) (aI g 8 (upd zo tcn x1)) := fp_o.ne o_one ne_38
    have o_two : fp_o b n (va_up (va_up (va_up (va_up (va_up (va_up (va_up f mo (ob 8 [.int 0, .int nf, .ref (mo + 1), .ref (mo + 2), .int na, .ref (mo + 3), .ref (mo + 4), .ref (mo + 5), .int (nI tcn), .ref (mo + 6), .ref (mo + 7), .ref (mo + 8), .ref (mo + 9), .ref (mo + 10), .ref (mo + 11), .ref (mo + 12), .ref (mo + 13), .ref (mo + 14), .int po, .int dr])) (mo + 6) (aI g 8 (upd zo tcn x1))) (mo + 7) (aI g 8 (upd zt tcn x2))) (mo + 8) (aI g 8 (upd zq tcn x3))) (mo + 9) (aI g 8 (upd zm tcn x4))) (mo + 10) (aI g 8 (upd zs tcn x5))) (mo + 11) (aI g 8 (upd zc tcn 0))) (mo + 7) (aI g 8 (upd zt tcn x2)) := fp_o.ne o_two ne_39
    have o_how : fp_o b n (va_up (va_up (va_up (va_up (va_up (va_up (va_up f mo (ob 8 [.int 0, .int nf, .ref (mo + 1), .ref (mo + 2), .int na, .ref (mo + 3), .ref (mo + 4), .ref (mo + 5), .int (nI tcn), .ref (mo + 6), .ref (mo + 7), .ref (mo + 8), .ref (mo + 9), .ref (mo + 10), .ref (mo + 11), .ref (mo + 12), .ref (mo + 13), .ref (mo + 14), .int po, .int dr])) (mo + 6) (aI g 8 (upd zo tcn x1))) (mo + 7) (aI g 8 (upd zt tcn x2))) (mo + 8) (aI g 8 (upd zq tcn x3))) (mo + 9) (aI g 8 (upd zm tcn x4))) (mo + 10) (aI g 8 (upd zs tcn x5))) (mo + 11) (aI g 8 (upd zc tcn 0))) (mo + 8) (aI g 8 (upd zq tcn x3)) := fp_o.ne o_how ne_40
    have o_may : fp_o b n (va_up (va_up (va_up (va_up (va_up (va_up (va_up f mo (ob 8 [.int 0, .int nf, .ref (mo + 1), .ref (mo + 2), .int na, .ref (mo + 3), .ref (mo + 4), .ref (mo + 5), .int (nI tcn), .ref (mo + 6), .ref (mo + 7), .ref (mo + 8), .ref (mo + 9), .ref (mo + 10), .ref (mo + 11), .ref (mo + 12), .ref (mo + 13), .ref (mo + 14), .int po, .int dr])) (mo + 6) (aI g 8 (upd zo tcn x1))) (mo + 7) (aI g 8 (upd zt tcn x2))) (mo + 8) (aI g 8 (upd zq tcn x3))) (mo + 9) (aI g 8 (upd zm tcn x4))) (mo + 10) (aI g 8 (upd zs tcn x5))) (mo + 11) (aI g 8 (upd zc tcn 0))) (mo + 9) (aI g 8 (upd zm tcn x4)) := fp_o.ne o_may ne_41
    have o_miss : fp_o b n (va_up (va_up (va_up (va_up (va_up (va_up (va_up f mo (ob 8 [.int 0, .int nf, .ref (mo + 1), .ref (mo + 2), .int na, .ref (mo + 3), .ref (mo + 4), .ref (mo + 5), .int (nI tcn), .ref (mo + 6), .ref (mo + 7), .ref (mo + 8), .ref (mo + 9), .ref (mo + 10), .ref (mo + 11), .ref (mo + 12), .ref (mo + 13), .ref (mo + 14), .int po, .int dr])) (mo + 6) (aI g 8 (upd zo tcn x1))) (mo + 7) (aI g 8 (upd zt tcn x2))) (mo + 8) (aI g 8 (upd zq tcn x3))) (mo + 9) (aI g 8 (upd zm tcn x4))) (mo + 10) (aI g 8 (upd zs tcn x5))) (mo + 11) (aI g 8 (upd zc tcn 0))) (mo + 10) (aI g 8 (upd zs tcn x5)) := fp_o.ne o_miss ne_42
    have o_count : fp_o b n (va_up (va_up (va_up (va_up (va_up (va_up (va_up f mo (ob 8 [.int 0, .int nf, .ref (mo + 1), .ref (mo + 2), .int na, .ref (mo + 3), .ref (mo + 4), .ref (mo + 5), .int (nI tcn), .ref (mo + 6), .ref (mo + 7), .ref (mo + 8), .ref (mo + 9), .ref (mo + 10), .ref (mo + 11), .ref (mo + 12), .ref (mo + 13), .ref (mo + 14), .int po, .int dr])) (mo + 6) (aI g 8 (upd zo tcn x1))) (mo + 7) (aI g 8 (upd zt tcn x2))) (mo + 8) (aI g 8 (upd zq tcn x3))) (mo + 9) (aI g 8 (upd zm tcn x4))) (mo + 10) (aI g 8 (upd zs tcn x5))) (mo + 11) (aI g 8 (upd zc tcn 0))) (mo + 11) (aI g 8 (upd zc tcn 0)) := fp_o.up o_count
    refine lv_aload_n hx hb d_M_table_229 rfl (lv_at hl 2 rfl) ?_
    refine lv_dup hx hb d_M_table_230 rfl ?_
    refine fp_get X Y om rfl in_M 8 (by decide) w609 rfl d_M_table_231 ?_
    refine lv_iconst (v := 1) hx hb d_M_table_234 (by decide) ?_
    refine lv_iadd hx hb d_M_table_235 ?_
    refine fp_put X Y om rfl in_M to_M nm_M 8 (by decide) w609 rfl rfl rfl (Nat.le_of_ble_eq_true rfl) d_M_table_236 (fun H locs Y => ?_)
    have ne_43 : mo + 6 ≠ mo := (fp_o.nf o_one om (by simp))
    have ne_44 : mo + 7 ≠ mo := (fp_o.nf o_two om (by simp))
    have ne_45 : mo + 8 ≠ mo := (fp_o.nf o_how om (by simp))
    have ne_46 : mo + 9 ≠ mo := (fp_o.nf o_may om (by simp))
    have ne_47 : mo + 10 ≠ mo := (fp_o.nf o_miss om (by simp))
    have ne_48 : mo + 11 ≠ mo := (fp_o.nf o_count om (by simp))
    have Y : fp_H D b n A (va_up (va_up (va_up (va_up (va_up (va_up (va_up (va_up f mo (ob 8 [.int 0, .int nf, .ref (mo + 1), .ref (mo + 2), .int na, .ref (mo + 3), .ref (mo + 4), .ref (mo + 5), .int (nI tcn), .ref (mo + 6), .ref (mo + 7), .ref (mo + 8), .ref (mo + 9), .ref (mo + 10), .ref (mo + 11), .ref (mo + 12), .ref (mo + 13), .ref (mo + 14), .int po, .int dr])) (mo + 6) (aI g 8 (upd zo tcn x1))) (mo + 7) (aI g 8 (upd zt tcn x2))) (mo + 8) (aI g 8 (upd zq tcn x3))) (mo + 9) (aI g 8 (upd zm tcn x4))) (mo + 10) (aI g 8 (upd zs tcn x5))) (mo + 11) (aI g 8 (upd zc tcn 0))) mo (ob 8 [.int 0, .int nf, .ref (mo + 1), .ref (mo + 2), .int na, .ref (mo + 3), .ref (mo + 4), .ref (mo + 5), .int ((nI tcn) + 1), .ref (mo + 6), .ref (mo + 7), .ref (mo + 8), .ref (mo + 9), .ref (mo + 10), .ref (mo + 11), .ref (mo + 12), .ref (mo + 13), .ref (mo + 14), .int po, .int dr])) s.heap H locs := Y
    have o_one : fp_o b n (va_up (va_up (va_up (va_up (va_up (va_up (va_up (va_up f mo (ob 8 [.int 0, .int nf, .ref (mo + 1), .ref (mo + 2), .int na, .ref (mo + 3), .ref (mo + 4), .ref (mo + 5), .int (nI tcn), .ref (mo + 6), .ref (mo + 7), .ref (mo + 8), .ref (mo + 9), .ref (mo + 10), .ref (mo + 11), .ref (mo + 12), .ref (mo + 13), .ref (mo + 14), .int po, .int dr])) (mo + 6) (aI g 8 (upd zo tcn x1))) (mo + 7) (aI g 8 (upd zt tcn x2))) (mo + 8) (aI g 8 (upd zq tcn x3))) (mo + 9) (aI g 8 (upd zm tcn x4))) (mo + 10) (aI g 8 (upd zs tcn x5))) (mo + 11) (aI g 8 (upd zc tcn 0))) mo (ob 8 [.int 0, .int nf, .ref (mo + 1), .ref (mo + 2), .int na, .ref (mo + 3), .ref (mo + 4), .ref (mo + 5), .int ((nI tcn) + 1), .ref (mo + 6), .ref (mo + 7), .ref (mo + 8), .ref (mo + 9), .ref (mo + 10), .ref (mo + 11), .ref (mo + 12), .ref (mo + 13), .ref (mo + 14), .int po, .int dr])) (mo + 6) (aI g 8 (upd zo tcn x1)) := fp_o.ne o_one ne_43
    have o_two : fp_o b n (va_up (va_up (va_up (va_up (va_up (va_up (va_up (va_up f mo (ob 8 [.int 0, .int nf, .ref (mo + 1), .ref (mo + 2), .int na, .ref (mo + 3), .ref (mo + 4), .ref (mo + 5), .int (nI tcn), .ref (mo + 6), .ref (mo + 7), .ref (mo + 8), .ref (mo + 9), .ref (mo + 10), .ref (mo + 11), .ref (mo + 12), .ref (mo + 13), .ref (mo + 14), .int po, .int dr])) (mo + 6) (aI g 8 (upd zo tcn x1))) (mo + 7) (aI g 8 (upd zt tcn x2))) (mo + 8) (aI g 8 (upd zq tcn x3))) (mo + 9) (aI g 8 (upd zm tcn x4))) (mo + 10) (aI g 8 (upd zs tcn x5))) (mo + 11) (aI g 8 (upd zc tcn 0))) mo (ob 8 [.int 0, .int nf, .ref (mo + 1), .ref (mo + 2), .int na, .ref (mo + 3), .ref (mo + 4), .ref (mo + 5), .int ((nI tcn) + 1), .ref (mo + 6), .ref (mo + 7), .ref (mo + 8), .ref (mo + 9), .ref (mo + 10), .ref (mo + 11), .ref (mo + 12), .ref (mo + 13), .ref (mo + 14), .int po, .int dr])) (mo + 7) (aI g 8 (upd zt tcn x2)) := fp_o.ne o_two ne_44
    have o_how : fp_o b n (va_up (va_up (va_up (va_up (va_up (va_up (va_up (va_up f mo (ob 8 [.int 0, .int nf, .ref (mo + 1), .ref (mo + 2), .int na, .ref (mo + 3), .ref (mo + 4), .ref (mo + 5), .int (nI tcn), .ref (mo + 6), .ref (mo + 7), .ref (mo + 8), .ref (mo + 9), .ref (mo + 10), .ref (mo + 11), .ref (mo + 12), .ref (mo + 13), .ref (mo + 14), .int po, .int dr])) (mo + 6) (aI g 8 (upd zo tcn x1))) (mo + 7) (aI g 8 (upd zt tcn x2))) (mo + 8) (aI g 8 (upd zq tcn x3))) (mo + 9) (aI g 8 (upd zm tcn x4))) (mo + 10) (aI g 8 (upd zs tcn x5))) (mo + 11) (aI g 8 (upd zc tcn 0))) mo (ob 8 [.int 0, .int nf, .ref (mo + 1), .ref (mo + 2), .int na, .ref (mo + 3), .ref (mo + 4), .ref (mo + 5), .int ((nI tcn) + 1), .ref (mo + 6), .ref (mo + 7), .ref (mo + 8), .ref (mo + 9), .ref (mo + 10), .ref (mo + 11), .ref (mo + 12), .ref (mo + 13), .ref (mo + 14), .int po, .int dr])) (mo + 8) (aI g 8 (upd zq tcn x3)) := fp_o.ne o_how ne_45
    have o_may : fp_o b n (va_up (va_up (va_up (va_up (va_up (va_up (va_up (va_up f mo (ob 8 [.int 0, .int nf, .ref (mo + 1), .ref (mo + 2), .int na, .ref (mo + 3), .ref (mo + 4), .ref (mo + 5), .int (nI tcn), .ref (mo + 6), .ref (mo + 7), .ref (mo + 8), .ref (mo + 9), .ref (mo + 10), .ref (mo + 11), .ref (mo + 12), .ref (mo + 13), .ref (mo + 14), .int po, .int dr])) (mo + 6) (aI g 8 (upd zo tcn x1))) (mo + 7) (aI g 8 (upd zt tcn x2))) (mo + 8) (aI g 8 (upd zq tcn x3))) (mo + 9) (aI g 8 (upd zm tcn x4))) (mo + 10) (aI g 8 (upd zs tcn x5))) (mo + 11) (aI g 8 (upd zc tcn 0))) mo (ob 8 [.int 0, .int nf, .ref (mo + 1), .ref (mo + 2), .int na, .ref (mo + 3), .ref (mo + 4), .ref (mo + 5), .int ((nI tcn) + 1), .ref (mo + 6), .ref (mo + 7), .ref (mo + 8), .ref (mo + 9), .ref (mo + 10), .ref (mo + 11), .ref (mo + 12), .ref (mo + 13), .ref (mo + 14), .int po, .int dr])) (mo + 9) (aI g 8 (upd zm tcn x4)) := fp_o.ne o_may ne_46
    have o_miss : fp_o b n (va_up (va_up (va_up (va_up (va_up (va_up (va_up (va_up f mo (ob 8 [.int 0, .int nf, .ref (mo + 1), .ref (mo + 2), .int na, .ref (mo + 3), .ref (mo + 4), .ref (mo + 5), .int (nI tcn), .ref (mo + 6), .ref (mo + 7), .ref (mo + 8), .ref (mo + 9), .ref (mo + 10), .ref (mo + 11), .ref (mo + 12), .ref (mo + 13), .ref (mo + 14), .int po, .int dr])) (mo + 6) (aI g 8 (upd zo tcn x1))) (mo + 7) (aI g 8 (upd zt tcn x2))) (mo + 8) (aI g 8 (upd zq tcn x3))) (mo + 9) (aI g 8 (upd zm tcn x4))) (mo + 10) (aI g 8 (upd zs tcn x5))) (mo + 11) (aI g 8 (upd zc tcn 0))) mo (ob 8 [.int 0, .int nf, .ref (mo + 1), .ref (mo + 2), .int na, .ref (mo + 3), .ref (mo + 4), .ref (mo + 5), .int ((nI tcn) + 1), .ref (mo + 6), .ref (mo + 7), .ref (mo + 8), .ref (mo + 9), .ref (mo + 10), .ref (mo + 11), .ref (mo + 12), .ref (mo + 13), .ref (mo + 14), .int po, .int dr])) (mo + 10) (aI g 8 (upd zs tcn x5)) := fp_o.ne o_miss ne_47
    have o_count : fp_o b n (va_up (va_up (va_up (va_up (va_up (va_up (va_up (va_up f mo (ob 8 [.int 0, .int nf, .ref (mo + 1), .ref (mo + 2), .int na, .ref (mo + 3), .ref (mo + 4), .ref (mo + 5), .int (nI tcn), .ref (mo + 6), .ref (mo + 7), .ref (mo + 8), .ref (mo + 9), .ref (mo + 10), .ref (mo + 11), .ref (mo + 12), .ref (mo + 13), .ref (mo + 14), .int po, .int dr])) (mo + 6) (aI g 8 (upd zo tcn x1))) (mo + 7) (aI g 8 (upd zt tcn x2))) (mo + 8) (aI g 8 (upd zq tcn x3))) (mo + 9) (aI g 8 (upd zm tcn x4))) (mo + 10) (aI g 8 (upd zs tcn x5))) (mo + 11) (aI g 8 (upd zc tcn 0))) mo (ob 8 [.int 0, .int nf, .ref (mo + 1), .ref (mo + 2), .int na, .ref (mo + 3), .ref (mo + 4), .ref (mo + 5), .int ((nI tcn) + 1), .ref (mo + 6), .ref (mo + 7), .ref (mo + 8), .ref (mo + 9), .ref (mo + 10), .ref (mo + 11), .ref (mo + 12), .ref (mo + 13), .ref (mo + 14), .int po, .int dr])) (mo + 11) (aI g 8 (upd zc tcn 0)) := fp_o.ne o_count ne_48
    have om : fp_o b n (va_up (va_up (va_up (va_up (va_up (va_up (va_up (va_up f mo (ob 8 [.int 0, .int nf, .ref (mo + 1), .ref (mo + 2), .int na, .ref (mo + 3), .ref (mo + 4), .ref (mo + 5), .int (nI tcn), .ref (mo + 6), .ref (mo + 7), .ref (mo + 8), .ref (mo + 9), .ref (mo + 10), .ref (mo + 11), .ref (mo + 12), .ref (mo + 13), .ref (mo + 14), .int po, .int dr])) (mo + 6) (aI g 8 (upd zo tcn x1))) (mo + 7) (aI g 8 (upd zt tcn x2))) (mo + 8) (aI g 8 (upd zq tcn x3))) (mo + 9) (aI g 8 (upd zm tcn x4))) (mo + 10) (aI g 8 (upd zs tcn x5))) (mo + 11) (aI g 8 (upd zc tcn 0))) mo (ob 8 [.int 0, .int nf, .ref (mo + 1), .ref (mo + 2), .int na, .ref (mo + 3), .ref (mo + 4), .ref (mo + 5), .int ((nI tcn) + 1), .ref (mo + 6), .ref (mo + 7), .ref (mo + 8), .ref (mo + 9), .ref (mo + 10), .ref (mo + 11), .ref (mo + 12), .ref (mo + 13), .ref (mo + 14), .int po, .int dr])) mo (ob 8 [.int 0, .int nf, .ref (mo + 1), .ref (mo + 2), .int na, .ref (mo + 3), .ref (mo + 4), .ref (mo + 5), .int ((nI tcn) + 1), .ref (mo + 6), .ref (mo + 7), .ref (mo + 8), .ref (mo + 9), .ref (mo + 10), .ref (mo + 11), .ref (mo + 12), .ref (mo + 13), .ref (mo + 14), .int po, .int dr]) := fp_o.up om
    refine lv_aload_n hx hb d_M_table_239 rfl (lv_at hl 2 rfl) ?_
    refine fp_get X Y om rfl in_M 8 (by decide) w609 rfl d_M_table_240 ?_
    refine lv_iconst (v := 1) hx hb d_M_table_243 (by decide) ?_
    refine lv_isub hx hb d_M_table_244 ?_
    exact ret _ _ _ _ _ _ d_M_table_245 ⟨_, rfl, rfl⟩ ⟨by rw [nI_p1], by rw [← nI_1]⟩ Y
  have j83 : ∀ (H : Heap) (locs : List Loc), fp_H D b n A f s.heap H locs → ∀ ls : Array Slot, lv_has ls 8 [(6, .int 0), (0, .ref mo), (1, .int x1), (2, .int x2), (3, .int x3), (4, .int x4), (5, .int x5)] → W p l e (rmD 1) s m args below meth c H locs 0 0 Q (F0 m 83 ls []) := by
    intro H locs Y ls hl
    refine lv_iload_n hx hb d_M_table_83 rfl (lv_at hl 4 rfl) ?_
    refine lv_if_lt (tgt := 115) hx hb d_M_table_84 (by decide) (fun c_84 => ?_) (fun c_84 => ?_)
    · refine lv_iconst (v := 1) hx hb d_M_table_115 (by decide) ?_
      refine lv_goto (tgt := 120) hx hb d_M_table_116 (by decide) ?_
      refine lv_istore (lv' := [(7, .int 1), (6, .int 0), (0, .ref mo), (1, .int x1), (2, .int x2), (3, .int x3), (4, .int x4), (5, .int x5)]) hx hb d_M_table_120 hl (by decide) rfl (fun ls hl => ?_)
      exact absurd hv (by unfold q_hm; rw [if_pos c_84]; decide)
    · refine lv_iload_n hx hb d_M_table_87 rfl (lv_at hl 4 rfl) ?_
      refine lv_bipush (v := 10) hx hb d_M_table_88 (by decide) ?_
      refine lv_icmp_gt (tgt := 115) hx hb d_M_table_90 (by decide) (fun c_90 => ?_) (fun c_90 => ?_)
      · refine lv_iconst (v := 1) hx hb d_M_table_115 (by decide) ?_
        refine lv_goto (tgt := 120) hx hb d_M_table_116 (by decide) ?_
        refine lv_istore (lv' := [(7, .int 1), (6, .int 0), (0, .ref mo), (1, .int x1), (2, .int x2), (3, .int x3), (4, .int x4), (5, .int x5)]) hx hb d_M_table_120 hl (by decide) rfl (fun ls hl => ?_)
        exact absurd hv (by unfold q_hm; rw [if_neg c_84, if_pos c_90]; decide)
      · refine lv_iload_n hx hb d_M_table_93 rfl (lv_at hl 4 rfl) ?_
        refine lv_iconst (v := 4) hx hb d_M_table_94 (by decide) ?_
        refine lv_irem hx hb d_M_table_95 (by decide) ?_
        refine lv_iconst (v := 3) hx hb d_M_table_96 (by decide) ?_
        refine lv_icmp_eq (tgt := 115) hx hb d_M_table_97 (by decide) (fun c_97 => ?_) (fun c_97 => ?_)
        · refine lv_iconst (v := 1) hx hb d_M_table_115 (by decide) ?_
          refine lv_goto (tgt := 120) hx hb d_M_table_116 (by decide) ?_
          refine lv_istore (lv' := [(7, .int 1), (6, .int 0), (0, .ref mo), (1, .int x1), (2, .int x2), (3, .int x3), (4, .int x4), (5, .int x5)]) hx hb d_M_table_120 hl (by decide) rfl (fun ls hl => ?_)
          exact absurd hv (by unfold q_hm; rw [if_neg c_84, if_neg c_90, if_pos c_97]; decide)
        · refine lv_iload_n hx hb d_M_table_100 rfl (lv_at hl 3 rfl) ?_
          refine lv_iconst (v := -1) hx hb d_M_table_101 (by decide) ?_
          refine lv_icmp_ne (tgt := 110) hx hb d_M_table_102 (by decide) (fun c_102 => ?_) (fun c_102 => ?_)
          · refine lv_iload_n hx hb d_M_table_110 rfl (lv_at hl 4 rfl) ?_
            refine lv_iconst (v := 5) hx hb d_M_table_111 (by decide) ?_
            refine lv_icmp_ne (tgt := 119) hx hb d_M_table_112 (by decide) (fun c_112 => ?_) (fun c_112 => ?_)
            · refine lv_iconst (v := 0) hx hb d_M_table_119 (by decide) ?_
              refine lv_istore (lv' := [(7, .int 0), (6, .int 0), (0, .ref mo), (1, .int x1), (2, .int x2), (3, .int x3), (4, .int x4), (5, .int x5)]) hx hb d_M_table_120 hl (by decide) rfl (fun ls hl => ?_)
              exact j122 _ _ Y ls (lv_sub hl [0, 1, 2, 3, 4, 5, 6, 7] rfl)
            · refine lv_iconst (v := 1) hx hb d_M_table_115 (by decide) ?_
              refine lv_goto (tgt := 120) hx hb d_M_table_116 (by decide) ?_
              refine lv_istore (lv' := [(7, .int 1), (6, .int 0), (0, .ref mo), (1, .int x1), (2, .int x2), (3, .int x3), (4, .int x4), (5, .int x5)]) hx hb d_M_table_120 hl (by decide) rfl (fun ls hl => ?_)
              exact absurd hv (by unfold q_hm; rw [if_neg c_84, if_neg c_90, if_neg c_97, if_neg (fun q9 => c_102 q9.1), if_pos c_112]; decide)
          · refine lv_iload_n hx hb d_M_table_105 rfl (lv_at hl 4 rfl) ?_
            refine lv_iconst (v := 2) hx hb d_M_table_106 (by decide) ?_
            refine lv_icmp_gt (tgt := 115) hx hb d_M_table_107 (by decide) (fun c_107 => ?_) (fun c_107 => ?_)
            · refine lv_iconst (v := 1) hx hb d_M_table_115 (by decide) ?_
              refine lv_goto (tgt := 120) hx hb d_M_table_116 (by decide) ?_
              refine lv_istore (lv' := [(7, .int 1), (6, .int 0), (0, .ref mo), (1, .int x1), (2, .int x2), (3, .int x3), (4, .int x4), (5, .int x5)]) hx hb d_M_table_120 hl (by decide) rfl (fun ls hl => ?_)
              exact absurd hv (by unfold q_hm; rw [if_neg c_84, if_neg c_90, if_neg c_97, if_pos ⟨c_102, c_107⟩]; decide)
            · refine lv_iload_n hx hb d_M_table_110 rfl (lv_at hl 4 rfl) ?_
              refine lv_iconst (v := 5) hx hb d_M_table_111 (by decide) ?_
              refine lv_icmp_ne (tgt := 119) hx hb d_M_table_112 (by decide) (fun c_112 => ?_) (fun c_112 => ?_)
              · refine lv_iconst (v := 0) hx hb d_M_table_119 (by decide) ?_
                refine lv_istore (lv' := [(7, .int 0), (6, .int 0), (0, .ref mo), (1, .int x1), (2, .int x2), (3, .int x3), (4, .int x4), (5, .int x5)]) hx hb d_M_table_120 hl (by decide) rfl (fun ls hl => ?_)
                exact j122 _ _ Y ls (lv_sub hl [0, 1, 2, 3, 4, 5, 6, 7] rfl)
              · refine lv_iconst (v := 1) hx hb d_M_table_115 (by decide) ?_
                refine lv_goto (tgt := 120) hx hb d_M_table_116 (by decide) ?_
                refine lv_istore (lv' := [(7, .int 1), (6, .int 0), (0, .ref mo), (1, .int x1), (2, .int x2), (3, .int x3), (4, .int x4), (5, .int x5)]) hx hb d_M_table_120 hl (by decide) rfl (fun ls hl => ?_)
                exact absurd hv (by unfold q_hm; rw [if_neg c_84, if_neg c_90, if_neg c_97, if_neg (fun q9 => absurd q9.2 c_107), if_pos c_112]; decide)
  refine lv_iload_n hx hb d_M_table_0 rfl (lv_at hl 1 rfl) ?_
  refine lv_aload_n hx hb d_M_table_1 rfl (lv_at hl 0 rfl) ?_
  refine fp_get X Y om rfl in_M 1 (by decide) w602 rfl d_M_table_2 ?_
  refine fp_callS (nA := 2) (As := [.int x1, .int nf]) (rest := []) X Y (c_M_not x1 nf) w680 w678 w679 w9 (by decide +kernel) ⟨rfl, rfl⟩ ⟨Nat.le_of_ble_eq_true rfl, Nat.le_of_ble_eq_true rfl⟩ rfl hl.1 rfl (Nat.le_of_ble_eq_true rfl) d_M_table_5 ⟨Nat.zero_le _, Nat.zero_le _⟩ (fun v9 f9 H locs hp9 Y => ?_)
  obtain ⟨e8, e9⟩ := hp9
  subst e8
  rw [e9] at Y
  refine W.eq (g2 := F0 m 8 ls [.int (q_nt x1 nf)]) rfl ?_
  refine lv_if_ne (tgt := 54) hx hb d_M_table_8 (by decide) (fun c_8 => ?_) (fun c_8 => ?_)
  · refine lv_iconst (v := 1) hx hb d_M_table_54 (by decide) ?_
    refine lv_goto (tgt := 59) hx hb d_M_table_55 (by decide) ?_
    refine lv_istore (lv' := [(6, .int 1), (0, .ref mo), (1, .int x1), (2, .int x2), (3, .int x3), (4, .int x4), (5, .int x5)]) hx hb d_M_table_59 hl (by decide) rfl (fun ls hl => ?_)
    refine lv_iload hx hb d_M_table_61 (lv_at hl 0 rfl) ?_
    refine lv_if_ne (tgt := 83) hx hb d_M_table_63 (by decide) (fun c_63 => ?_) (fun c_63 => absurd c_63 (by decide))
    exact absurd hu (by unfold q_un; rw [if_pos c_8]; decide)
  · refine lv_iload_n hx hb d_M_table_11 rfl (lv_at hl 2 rfl) ?_
    refine lv_iconst (v := -1) hx hb d_M_table_12 (by decide) ?_
    refine lv_icmp_eq (tgt := 27) hx hb d_M_table_13 (by decide) (fun c_13 => ?_) (fun c_13 => ?_)
    · refine lv_iload_n hx hb d_M_table_27 rfl (lv_at hl 1 rfl) ?_
      refine lv_iload_n hx hb d_M_table_28 rfl (lv_at hl 2 rfl) ?_
      refine lv_icmp_eq (tgt := 54) hx hb d_M_table_29 (by decide) (fun c_29 => ?_) (fun c_29 => ?_)
      · refine lv_iconst (v := 1) hx hb d_M_table_54 (by decide) ?_
        refine lv_goto (tgt := 59) hx hb d_M_table_55 (by decide) ?_
        refine lv_istore (lv' := [(6, .int 1), (0, .ref mo), (1, .int x1), (2, .int x2), (3, .int x3), (4, .int x4), (5, .int x5)]) hx hb d_M_table_59 hl (by decide) rfl (fun ls hl => ?_)
        refine lv_iload hx hb d_M_table_61 (lv_at hl 0 rfl) ?_
        refine lv_if_ne (tgt := 83) hx hb d_M_table_63 (by decide) (fun c_63 => ?_) (fun c_63 => absurd c_63 (by decide))
        exact absurd hu (by unfold q_un; rw [if_neg (fun q9 => q9 c_8), if_neg (fun q9 => q9.1 c_13), if_pos c_29]; decide)
      · refine lv_iload hx hb d_M_table_32 (lv_at hl 4 rfl) ?_
        refine lv_aload_n hx hb d_M_table_34 rfl (lv_at hl 0 rfl) ?_
        refine fp_get X Y om rfl in_M 4 (by decide) w605 rfl d_M_table_35 ?_
        refine lv_iushr hx hb d_M_table_38 rfl ?_
        refine lv_if_ne (tgt := 54) hx hb d_M_table_39 (by decide) (fun c_39 => ?_) (fun c_39 => ?_)
        · refine lv_iconst (v := 1) hx hb d_M_table_54 (by decide) ?_
          refine lv_goto (tgt := 59) hx hb d_M_table_55 (by decide) ?_
          refine lv_istore (lv' := [(6, .int 1), (0, .ref mo), (1, .int x1), (2, .int x2), (3, .int x3), (4, .int x4), (5, .int x5)]) hx hb d_M_table_59 hl (by decide) rfl (fun ls hl => ?_)
          refine lv_iload hx hb d_M_table_61 (lv_at hl 0 rfl) ?_
          refine lv_if_ne (tgt := 83) hx hb d_M_table_63 (by decide) (fun c_63 => ?_) (fun c_63 => absurd c_63 (by decide))
          exact absurd hu (by unfold q_un; rw [if_neg (fun q9 => q9 c_8), if_neg (fun q9 => q9.1 c_13), if_neg c_29, if_pos c_39]; decide)
        · refine lv_iload hx hb d_M_table_42 (lv_at hl 5 rfl) ?_
          refine lv_aload_n hx hb d_M_table_44 rfl (lv_at hl 0 rfl) ?_
          refine fp_get X Y om rfl in_M 4 (by decide) w605 rfl d_M_table_45 ?_
          refine fp_callS (nA := 2) (As := [.int x5, .int na]) (rest := []) X Y (c_M_not x5 na) w680 w678 w679 w9 (by decide +kernel) ⟨rfl, rfl⟩ ⟨Nat.le_of_ble_eq_true rfl, Nat.le_of_ble_eq_true rfl⟩ rfl hl.1 rfl (Nat.le_of_ble_eq_true rfl) d_M_table_48 ⟨Nat.zero_le _, Nat.zero_le _⟩ (fun v9 f9 H locs hp9 Y => ?_)
          obtain ⟨e8, e9⟩ := hp9
          subst e8
          rw [e9] at Y
          refine W.eq (g2 := F0 m 51 ls [.int (q_nt x5 na)]) rfl ?_
          refine lv_if_eq (tgt := 58) hx hb d_M_table_51 (by decide) (fun c_51 => ?_) (fun c_51 => ?_)
          · refine lv_iconst (v := 0) hx hb d_M_table_58 (by decide) ?_
            refine lv_istore (lv' := [(6, .int 0), (0, .ref mo), (1, .int x1), (2, .int x2), (3, .int x3), (4, .int x4), (5, .int x5)]) hx hb d_M_table_59 hl (by decide) rfl (fun ls hl => ?_)
            refine lv_iload hx hb d_M_table_61 (lv_at hl 0 rfl) ?_
            refine lv_if_ne (tgt := 83) hx hb d_M_table_63 (by decide) (fun c_63 => absurd (by decide) c_63) (fun c_63 => ?_)
            refine lv_iload hx hb d_M_table_66 (lv_at hl 5 rfl) ?_
            refine lv_iload hx hb d_M_table_68 (lv_at hl 6 rfl) ?_
            refine lv_ishr hx hb d_M_table_70 ?_
            refine lv_iconst (v := 1) hx hb d_M_table_71 (by decide) ?_
            refine lv_iand hx hb d_M_table_72 ?_
            refine lv_if_ne (tgt := 80) hx hb d_M_table_73 (by decide) (fun c_73 => ?_) (fun c_73 => ?_)
            · refine lv_iconst (v := 0) hx hb d_M_table_80 (by decide) ?_
              refine lv_istore (lv' := [(6, .int 0), (0, .ref mo), (1, .int x1), (2, .int x2), (3, .int x3), (4, .int x4), (5, .int x5)]) hx hb d_M_table_81 hl (by decide) rfl (fun ls hl => ?_)
              exact j83 _ _ Y ls (lv_sub hl [0, 1, 2, 3, 4, 5, 6] rfl)
            · refine lv_iconst (v := 1) hx hb d_M_table_76 (by decide) ?_
              refine lv_goto (tgt := 81) hx hb d_M_table_77 (by decide) ?_
              refine lv_istore (lv' := [(6, .int 1), (0, .ref mo), (1, .int x1), (2, .int x2), (3, .int x3), (4, .int x4), (5, .int x5)]) hx hb d_M_table_81 hl (by decide) rfl (fun ls hl => ?_)
              exact absurd hu (by unfold q_un; rw [if_neg (fun q9 => q9 c_8), if_neg (fun q9 => q9.1 c_13), if_neg c_29, if_neg (fun q9 => q9 c_39), if_neg (fun q9 => q9 c_51), if_pos c_73]; decide)
          · refine lv_iconst (v := 1) hx hb d_M_table_54 (by decide) ?_
            refine lv_goto (tgt := 59) hx hb d_M_table_55 (by decide) ?_
            refine lv_istore (lv' := [(6, .int 1), (0, .ref mo), (1, .int x1), (2, .int x2), (3, .int x3), (4, .int x4), (5, .int x5)]) hx hb d_M_table_59 hl (by decide) rfl (fun ls hl => ?_)
            refine lv_iload hx hb d_M_table_61 (lv_at hl 0 rfl) ?_
            refine lv_if_ne (tgt := 83) hx hb d_M_table_63 (by decide) (fun c_63 => ?_) (fun c_63 => absurd c_63 (by decide))
            exact absurd hu (by unfold q_un; rw [if_neg (fun q9 => q9 c_8), if_neg (fun q9 => q9.1 c_13), if_neg c_29, if_neg (fun q9 => q9 c_39), if_pos c_51]; decide)
    · refine lv_iload_n hx hb d_M_table_16 rfl (lv_at hl 2 rfl) ?_
      refine lv_aload_n hx hb d_M_table_17 rfl (lv_at hl 0 rfl) ?_
      refine fp_get X Y om rfl in_M 1 (by decide) w602 rfl d_M_table_18 ?_
      refine fp_callS (nA := 2) (As := [.int x2, .int nf]) (rest := []) X Y (c_M_not x2 nf) w680 w678 w679 w9 (by decide +kernel) ⟨rfl, rfl⟩ ⟨Nat.le_of_ble_eq_true rfl, Nat.le_of_ble_eq_true rfl⟩ rfl hl.1 rfl (Nat.le_of_ble_eq_true rfl) d_M_table_21 ⟨Nat.zero_le _, Nat.zero_le _⟩ (fun v9 f9 H locs hp9 Y => ?_)
      obtain ⟨e8, e9⟩ := hp9
      subst e8
      rw [e9] at Y
      refine W.eq (g2 := F0 m 24 ls [.int (q_nt x2 nf)]) rfl ?_
      refine lv_if_ne (tgt := 54) hx hb d_M_table_24 (by decide) (fun c_24 => ?_) (fun c_24 => ?_)
      · refine lv_iconst (v := 1) hx hb d_M_table_54 (by decide) ?_
        refine lv_goto (tgt := 59) hx hb d_M_table_55 (by decide) ?_
        refine lv_istore (lv' := [(6, .int 1), (0, .ref mo), (1, .int x1), (2, .int x2), (3, .int x3), (4, .int x4), (5, .int x5)]) hx hb d_M_table_59 hl (by decide) rfl (fun ls hl => ?_)
        refine lv_iload hx hb d_M_table_61 (lv_at hl 0 rfl) ?_
        refine lv_if_ne (tgt := 83) hx hb d_M_table_63 (by decide) (fun c_63 => ?_) (fun c_63 => absurd c_63 (by decide))
        exact absurd hu (by unfold q_un; rw [if_neg (fun q9 => q9 c_8), if_pos ⟨c_13, c_24⟩]; decide)
      · refine lv_iload_n hx hb d_M_table_27 rfl (lv_at hl 1 rfl) ?_
        refine lv_iload_n hx hb d_M_table_28 rfl (lv_at hl 2 rfl) ?_
        refine lv_icmp_eq (tgt := 54) hx hb d_M_table_29 (by decide) (fun c_29 => ?_) (fun c_29 => ?_)
        · refine lv_iconst (v := 1) hx hb d_M_table_54 (by decide) ?_
          refine lv_goto (tgt := 59) hx hb d_M_table_55 (by decide) ?_
          refine lv_istore (lv' := [(6, .int 1), (0, .ref mo), (1, .int x1), (2, .int x2), (3, .int x3), (4, .int x4), (5, .int x5)]) hx hb d_M_table_59 hl (by decide) rfl (fun ls hl => ?_)
          refine lv_iload hx hb d_M_table_61 (lv_at hl 0 rfl) ?_
          refine lv_if_ne (tgt := 83) hx hb d_M_table_63 (by decide) (fun c_63 => ?_) (fun c_63 => absurd c_63 (by decide))
          exact absurd hu (by unfold q_un; rw [if_neg (fun q9 => q9 c_8), if_neg (fun q9 => q9.2 c_24), if_pos c_29]; decide)
        · refine lv_iload hx hb d_M_table_32 (lv_at hl 4 rfl) ?_
          refine lv_aload_n hx hb d_M_table_34 rfl (lv_at hl 0 rfl) ?_
          refine fp_get X Y om rfl in_M 4 (by decide) w605 rfl d_M_table_35 ?_
          refine lv_iushr hx hb d_M_table_38 rfl ?_
          refine lv_if_ne (tgt := 54) hx hb d_M_table_39 (by decide) (fun c_39 => ?_) (fun c_39 => ?_)
          · refine lv_iconst (v := 1) hx hb d_M_table_54 (by decide) ?_
            refine lv_goto (tgt := 59) hx hb d_M_table_55 (by decide) ?_
            refine lv_istore (lv' := [(6, .int 1), (0, .ref mo), (1, .int x1), (2, .int x2), (3, .int x3), (4, .int x4), (5, .int x5)]) hx hb d_M_table_59 hl (by decide) rfl (fun ls hl => ?_)
            refine lv_iload hx hb d_M_table_61 (lv_at hl 0 rfl) ?_
            refine lv_if_ne (tgt := 83) hx hb d_M_table_63 (by decide) (fun c_63 => ?_) (fun c_63 => absurd c_63 (by decide))
            exact absurd hu (by unfold q_un; rw [if_neg (fun q9 => q9 c_8), if_neg (fun q9 => q9.2 c_24), if_neg c_29, if_pos c_39]; decide)
          · refine lv_iload hx hb d_M_table_42 (lv_at hl 5 rfl) ?_
            refine lv_aload_n hx hb d_M_table_44 rfl (lv_at hl 0 rfl) ?_
            refine fp_get X Y om rfl in_M 4 (by decide) w605 rfl d_M_table_45 ?_
            refine fp_callS (nA := 2) (As := [.int x5, .int na]) (rest := []) X Y (c_M_not x5 na) w680 w678 w679 w9 (by decide +kernel) ⟨rfl, rfl⟩ ⟨Nat.le_of_ble_eq_true rfl, Nat.le_of_ble_eq_true rfl⟩ rfl hl.1 rfl (Nat.le_of_ble_eq_true rfl) d_M_table_48 ⟨Nat.zero_le _, Nat.zero_le _⟩ (fun v9 f9 H locs hp9 Y => ?_)
            obtain ⟨e8, e9⟩ := hp9
            subst e8
            rw [e9] at Y
            refine W.eq (g2 := F0 m 51 ls [.int (q_nt x5 na)]) rfl ?_
            refine lv_if_eq (tgt := 58) hx hb d_M_table_51 (by decide) (fun c_51 => ?_) (fun c_51 => ?_)
            · refine lv_iconst (v := 0) hx hb d_M_table_58 (by decide) ?_
              refine lv_istore (lv' := [(6, .int 0), (0, .ref mo), (1, .int x1), (2, .int x2), (3, .int x3), (4, .int x4), (5, .int x5)]) hx hb d_M_table_59 hl (by decide) rfl (fun ls hl => ?_)
              refine lv_iload hx hb d_M_table_61 (lv_at hl 0 rfl) ?_
              refine lv_if_ne (tgt := 83) hx hb d_M_table_63 (by decide) (fun c_63 => absurd (by decide) c_63) (fun c_63 => ?_)
              refine lv_iload hx hb d_M_table_66 (lv_at hl 5 rfl) ?_
              refine lv_iload hx hb d_M_table_68 (lv_at hl 6 rfl) ?_
              refine lv_ishr hx hb d_M_table_70 ?_
              refine lv_iconst (v := 1) hx hb d_M_table_71 (by decide) ?_
              refine lv_iand hx hb d_M_table_72 ?_
              refine lv_if_ne (tgt := 80) hx hb d_M_table_73 (by decide) (fun c_73 => ?_) (fun c_73 => ?_)
              · refine lv_iconst (v := 0) hx hb d_M_table_80 (by decide) ?_
                refine lv_istore (lv' := [(6, .int 0), (0, .ref mo), (1, .int x1), (2, .int x2), (3, .int x3), (4, .int x4), (5, .int x5)]) hx hb d_M_table_81 hl (by decide) rfl (fun ls hl => ?_)
                exact j83 _ _ Y ls (lv_sub hl [0, 1, 2, 3, 4, 5, 6] rfl)
              · refine lv_iconst (v := 1) hx hb d_M_table_76 (by decide) ?_
                refine lv_goto (tgt := 81) hx hb d_M_table_77 (by decide) ?_
                refine lv_istore (lv' := [(6, .int 1), (0, .ref mo), (1, .int x1), (2, .int x2), (3, .int x3), (4, .int x4), (5, .int x5)]) hx hb d_M_table_81 hl (by decide) rfl (fun ls hl => ?_)
                exact absurd hu (by unfold q_un; rw [if_neg (fun q9 => q9 c_8), if_neg (fun q9 => q9.2 c_24), if_neg c_29, if_neg (fun q9 => q9 c_39), if_neg (fun q9 => q9 c_51), if_pos c_73]; decide)
            · refine lv_iconst (v := 1) hx hb d_M_table_54 (by decide) ?_
              refine lv_goto (tgt := 59) hx hb d_M_table_55 (by decide) ?_
              refine lv_istore (lv' := [(6, .int 1), (0, .ref mo), (1, .int x1), (2, .int x2), (3, .int x3), (4, .int x4), (5, .int x5)]) hx hb d_M_table_59 hl (by decide) rfl (fun ls hl => ?_)
              refine lv_iload hx hb d_M_table_61 (lv_at hl 0 rfl) ?_
              refine lv_if_ne (tgt := 83) hx hb d_M_table_63 (by decide) (fun c_63 => ?_) (fun c_63 => absurd c_63 (by decide))
              exact absurd hu (by unfold q_un; rw [if_neg (fun q9 => q9 c_8), if_neg (fun q9 => q9.2 c_24), if_neg c_29, if_neg (fun q9 => q9 c_39), if_pos c_51]; decide)
set_option maxHeartbeats 4000000 in
set_option maxRecDepth 100000 in
theorem c_M_clear {l : Launch} {D : va_G} {g : Nat → ClassId} {b n : Nat} {A : Nat → Prop} {f : Nat → va_E} {mo : Nat} {th nf na nt po dr : Int32} {za zk : Nat → Int32} (om : fp_o b n f mo (ob 8 [.int th, .int nf, .ref (mo + 1), .ref (mo + 2), .int na, .ref (mo + 3), .ref (mo + 4), .ref (mo + 5), .int nt, .ref (mo + 6), .ref (mo + 7), .ref (mo + 8), .ref (mo + 9), .ref (mo + 10), .ref (mo + 11), .ref (mo + 12), .ref (mo + 13), .ref (mo + 14), .int po, .int dr])) (o_array : fp_o b n f (mo + 5) (aI g 64 za)) (o_key : fp_o b n f (mo + 13) (aI g 4 zk))  (hA : fp_W b n A := by assumption) : fp_M l D (TY g) b n A y_M_clear (fp_ws y_M_clear b_M_clear 2 none) (rmD 0) [.ref mo] f (fun v f' => v = none ∧ f' = va_up (va_up (va_up (va_up f (mo) (ob 8 [.int 0, .int 0, .ref (mo + 1), .ref (mo + 2), .int 0, .ref (mo + 3), .ref (mo + 4), .ref (mo + 5), .int 0, .ref (mo + 6), .ref (mo + 7), .ref (mo + 8), .ref (mo + 9), .ref (mo + 10), .ref (mo + 11), .ref (mo + 12), .ref (mo + 13), .ref (mo + 14), .int po, .int dr])) (mo + 5) (aI g 64 (q_fill za 0 64))) (mo + 13) (aI g 4 (q_fill zk 0 4))) (mo) (ob 8 [.int 0, .int 0, .ref (mo + 1), .ref (mo + 2), .int 0, .ref (mo + 3), .ref (mo + 4), .ref (mo + 5), .int 0, .ref (mo + 6), .ref (mo + 7), .ref (mo + 8), .ref (mo + 9), .ref (mo + 10), .ref (mo + 11), .ref (mo + 12), .ref (mo + 13), .ref (mo + 14), .int 0, .int 0])) := by
  refine fp_ofV (plainFor_of_name (by decide)) (Nat.le_of_ble_eq_true rfl) ?_
  intro p e s m args below meth c Q ls H locs X Y hl ret
  have hx := X.1.1
  have hb := X.1.2.1
  have hl : lv_has ls 2 [(0, .ref mo)] := hl
  refine lv_aload_n hx hb d_M_clear_0 rfl (lv_at hl 0 rfl) ?_
  refine lv_iconst (v := 0) hx hb d_M_clear_1 (by decide) ?_
  refine fp_put X Y om rfl in_M to_M nm_M 0 (by decide) w601 rfl rfl rfl (Nat.le_of_ble_eq_true rfl) d_M_clear_2 (fun H locs Y => ?_)
  have ne_1 : mo + 5 ≠ mo := (fp_o.nf o_array om (by simp))
  have ne_2 : mo + 13 ≠ mo := (fp_o.nf o_key om (by simp))
  have Y : fp_H D b n A (va_up f mo (ob 8 [.int 0, .int nf, .ref (mo + 1), .ref (mo + 2), .int na, .ref (mo + 3), .ref (mo + 4), .ref (mo + 5), .int nt, .ref (mo + 6), .ref (mo + 7), .ref (mo + 8), .ref (mo + 9), .ref (mo + 10), .ref (mo + 11), .ref (mo + 12), .ref (mo + 13), .ref (mo + 14), .int po, .int dr])) s.heap H locs := Y
  have o_array : fp_o b n (va_up f mo (ob 8 [.int 0, .int nf, .ref (mo + 1), .ref (mo + 2), .int na, .ref (mo + 3), .ref (mo + 4), .ref (mo + 5), .int nt, .ref (mo + 6), .ref (mo + 7), .ref (mo + 8), .ref (mo + 9), .ref (mo + 10), .ref (mo + 11), .ref (mo + 12), .ref (mo + 13), .ref (mo + 14), .int po, .int dr])) (mo + 5) (aI g 64 za) := fp_o.ne o_array ne_1
  have o_key : fp_o b n (va_up f mo (ob 8 [.int 0, .int nf, .ref (mo + 1), .ref (mo + 2), .int na, .ref (mo + 3), .ref (mo + 4), .ref (mo + 5), .int nt, .ref (mo + 6), .ref (mo + 7), .ref (mo + 8), .ref (mo + 9), .ref (mo + 10), .ref (mo + 11), .ref (mo + 12), .ref (mo + 13), .ref (mo + 14), .int po, .int dr])) (mo + 13) (aI g 4 zk) := fp_o.ne o_key ne_2
  have om : fp_o b n (va_up f mo (ob 8 [.int 0, .int nf, .ref (mo + 1), .ref (mo + 2), .int na, .ref (mo + 3), .ref (mo + 4), .ref (mo + 5), .int nt, .ref (mo + 6), .ref (mo + 7), .ref (mo + 8), .ref (mo + 9), .ref (mo + 10), .ref (mo + 11), .ref (mo + 12), .ref (mo + 13), .ref (mo + 14), .int po, .int dr])) mo (ob 8 [.int 0, .int nf, .ref (mo + 1), .ref (mo + 2), .int na, .ref (mo + 3), .ref (mo + 4), .ref (mo + 5), .int nt, .ref (mo + 6), .ref (mo + 7), .ref (mo + 8), .ref (mo + 9), .ref (mo + 10), .ref (mo + 11), .ref (mo + 12), .ref (mo + 13), .ref (mo + 14), .int po, .int dr]) := fp_o.up om
  refine lv_aload_n hx hb d_M_clear_5 rfl (lv_at hl 0 rfl) ?_
  refine lv_iconst (v := 0) hx hb d_M_clear_6 (by decide) ?_
  refine fp_put X Y om rfl in_M to_M nm_M 1 (by decide) w602 rfl rfl rfl (Nat.le_of_ble_eq_true rfl) d_M_clear_7 (fun H locs Y => ?_)
  have ne_3 : mo + 5 ≠ mo := (fp_o.nf o_array om (by simp))
  have ne_4 : mo + 13 ≠ mo := (fp_o.nf o_key om (by simp))
  have Y := Y.re
  have Y : fp_H D b n A (va_up f mo (ob 8 [.int 0, .int 0, .ref (mo + 1), .ref (mo + 2), .int na, .ref (mo + 3), .ref (mo + 4), .ref (mo + 5), .int nt, .ref (mo + 6), .ref (mo + 7), .ref (mo + 8), .ref (mo + 9), .ref (mo + 10), .ref (mo + 11), .ref (mo + 12), .ref (mo + 13), .ref (mo + 14), .int po, .int dr])) s.heap H locs := Y
  have o_array : fp_o b n (va_up f mo (ob 8 [.int 0, .int 0, .ref (mo + 1), .ref (mo + 2), .int na, .ref (mo + 3), .ref (mo + 4), .ref (mo + 5), .int nt, .ref (mo + 6), .ref (mo + 7), .ref (mo + 8), .ref (mo + 9), .ref (mo + 10), .ref (mo + 11), .ref (mo + 12), .ref (mo + 13), .ref (mo + 14), .int po, .int dr])) (mo + 5) (aI g 64 za) := fp_o.re o_array ne_3
  have o_key : fp_o b n (va_up f mo (ob 8 [.int 0, .int 0, .ref (mo + 1), .ref (mo + 2), .int na, .ref (mo + 3), .ref (mo + 4), .ref (mo + 5), .int nt, .ref (mo + 6), .ref (mo + 7), .ref (mo + 8), .ref (mo + 9), .ref (mo + 10), .ref (mo + 11), .ref (mo + 12), .ref (mo + 13), .ref (mo + 14), .int po, .int dr])) (mo + 13) (aI g 4 zk) := fp_o.re o_key ne_4
  have om : fp_o b n (va_up f mo (ob 8 [.int 0, .int 0, .ref (mo + 1), .ref (mo + 2), .int na, .ref (mo + 3), .ref (mo + 4), .ref (mo + 5), .int nt, .ref (mo + 6), .ref (mo + 7), .ref (mo + 8), .ref (mo + 9), .ref (mo + 10), .ref (mo + 11), .ref (mo + 12), .ref (mo + 13), .ref (mo + 14), .int po, .int dr])) mo (ob 8 [.int 0, .int 0, .ref (mo + 1), .ref (mo + 2), .int na, .ref (mo + 3), .ref (mo + 4), .ref (mo + 5), .int nt, .ref (mo + 6), .ref (mo + 7), .ref (mo + 8), .ref (mo + 9), .ref (mo + 10), .ref (mo + 11), .ref (mo + 12), .ref (mo + 13), .ref (mo + 14), .int po, .int dr]) := fp_o.rs om
  refine lv_aload_n hx hb d_M_clear_10 rfl (lv_at hl 0 rfl) ?_
  refine lv_iconst (v := 0) hx hb d_M_clear_11 (by decide) ?_
  refine fp_put X Y om rfl in_M to_M nm_M 4 (by decide) w605 rfl rfl rfl (Nat.le_of_ble_eq_true rfl) d_M_clear_12 (fun H locs Y => ?_)
  have ne_5 : mo + 5 ≠ mo := (fp_o.nf o_array om (by simp))
  have ne_6 : mo + 13 ≠ mo := (fp_o.nf o_key om (by simp))
  have Y := Y.re
  have Y : fp_H D b n A (va_up f mo (ob 8 [.int 0, .int 0, .ref (mo + 1), .ref (mo + 2), .int 0, .ref (mo + 3), .ref (mo + 4), .ref (mo + 5), .int nt, .ref (mo + 6), .ref (mo + 7), .ref (mo + 8), .ref (mo + 9), .ref (mo + 10), .ref (mo + 11), .ref (mo + 12), .ref (mo + 13), .ref (mo + 14), .int po, .int dr])) s.heap H locs := Y
  have o_array : fp_o b n (va_up f mo (ob 8 [.int 0, .int 0, .ref (mo + 1), .ref (mo + 2), .int 0, .ref (mo + 3), .ref (mo + 4), .ref (mo + 5), .int nt, .ref (mo + 6), .ref (mo + 7), .ref (mo + 8), .ref (mo + 9), .ref (mo + 10), .ref (mo + 11), .ref (mo + 12), .ref (mo + 13), .ref (mo + 14), .int po, .int dr])) (mo + 5) (aI g 64 za) := fp_o.re o_array ne_5
  have o_key : fp_o b n (va_up f mo (ob 8 [.int 0, .int 0, .ref (mo + 1), .ref (mo + 2), .int 0, .ref (mo + 3), .ref (mo + 4), .ref (mo + 5), .int nt, .ref (mo + 6), .ref (mo + 7), .ref (mo + 8), .ref (mo + 9), .ref (mo + 10), .ref (mo + 11), .ref (mo + 12), .ref (mo + 13), .ref (mo + 14), .int po, .int dr])) (mo + 13) (aI g 4 zk) := fp_o.re o_key ne_6
  have om : fp_o b n (va_up f mo (ob 8 [.int 0, .int 0, .ref (mo + 1), .ref (mo + 2), .int 0, .ref (mo + 3), .ref (mo + 4), .ref (mo + 5), .int nt, .ref (mo + 6), .ref (mo + 7), .ref (mo + 8), .ref (mo + 9), .ref (mo + 10), .ref (mo + 11), .ref (mo + 12), .ref (mo + 13), .ref (mo + 14), .int po, .int dr])) mo (ob 8 [.int 0, .int 0, .ref (mo + 1), .ref (mo + 2), .int 0, .ref (mo + 3), .ref (mo + 4), .ref (mo + 5), .int nt, .ref (mo + 6), .ref (mo + 7), .ref (mo + 8), .ref (mo + 9), .ref (mo + 10), .ref (mo + 11), .ref (mo + 12), .ref (mo + 13), .ref (mo + 14), .int po, .int dr]) := fp_o.rs om
  refine lv_aload_n hx hb d_M_clear_15 rfl (lv_at hl 0 rfl) ?_
  refine lv_iconst (v := 0) hx hb d_M_clear_16 (by decide) ?_
  refine fp_put X Y om rfl in_M to_M nm_M 8 (by decide) w609 rfl rfl rfl (Nat.le_of_ble_eq_true rfl) d_M_clear_17 (fun H locs Y => ?_)
  have ne_7 : mo + 5 ≠ mo := (fp_o.nf o_array om (by simp))
  have ne_8 : mo + 13 ≠ mo := (fp_o.nf o_key om (by simp))
  have Y := Y.re
  have Y : fp_H D b n A (va_up f mo (ob 8 [.int 0, .int 0, .ref (mo + 1), .ref (mo + 2), .int 0, .ref (mo + 3), .ref (mo + 4), .ref (mo + 5), .int 0, .ref (mo + 6), .ref (mo + 7), .ref (mo + 8), .ref (mo + 9), .ref (mo + 10), .ref (mo + 11), .ref (mo + 12), .ref (mo + 13), .ref (mo + 14), .int po, .int dr])) s.heap H locs := Y
  have o_array : fp_o b n (va_up f mo (ob 8 [.int 0, .int 0, .ref (mo + 1), .ref (mo + 2), .int 0, .ref (mo + 3), .ref (mo + 4), .ref (mo + 5), .int 0, .ref (mo + 6), .ref (mo + 7), .ref (mo + 8), .ref (mo + 9), .ref (mo + 10), .ref (mo + 11), .ref (mo + 12), .ref (mo + 13), .ref (mo + 14), .int po, .int dr])) (mo + 5) (aI g 64 za) := fp_o.re o_array ne_7
  have o_key : fp_o b n (va_up f mo (ob 8 [.int 0, .int 0, .ref (mo + 1), .ref (mo + 2), .int 0, .ref (mo + 3), .ref (mo + 4), .ref (mo + 5), .int 0, .ref (mo + 6), .ref (mo + 7), .ref (mo + 8), .ref (mo + 9), .ref (mo + 10), .ref (mo + 11), .ref (mo + 12), .ref (mo + 13), .ref (mo + 14), .int po, .int dr])) (mo + 13) (aI g 4 zk) := fp_o.re o_key ne_8
  have om : fp_o b n (va_up f mo (ob 8 [.int 0, .int 0, .ref (mo + 1), .ref (mo + 2), .int 0, .ref (mo + 3), .ref (mo + 4), .ref (mo + 5), .int 0, .ref (mo + 6), .ref (mo + 7), .ref (mo + 8), .ref (mo + 9), .ref (mo + 10), .ref (mo + 11), .ref (mo + 12), .ref (mo + 13), .ref (mo + 14), .int po, .int dr])) mo (ob 8 [.int 0, .int 0, .ref (mo + 1), .ref (mo + 2), .int 0, .ref (mo + 3), .ref (mo + 4), .ref (mo + 5), .int 0, .ref (mo + 6), .ref (mo + 7), .ref (mo + 8), .ref (mo + 9), .ref (mo + 10), .ref (mo + 11), .ref (mo + 12), .ref (mo + 13), .ref (mo + 14), .int po, .int dr]) := fp_o.rs om
  refine lv_iconst (v := 0) hx hb d_M_clear_20 (by decide) ?_
  refine lv_istore_n (lv' := [(1, .int 0), (0, .ref mo)]) hx hb d_M_clear_21 rfl hl (by decide) rfl (fun ls hl => ?_)
  have loop : ∀ (k i : Nat), k + i = 64 → ∀ (H : Heap) (locs : List Loc), fp_H D b n A (va_up (va_up f mo (ob 8 [.int 0, .int 0, .ref (mo + 1), .ref (mo + 2), .int 0, .ref (mo + 3), .ref (mo + 4), .ref (mo + 5), .int 0, .ref (mo + 6), .ref (mo + 7), .ref (mo + 8), .ref (mo + 9), .ref (mo + 10), .ref (mo + 11), .ref (mo + 12), .ref (mo + 13), .ref (mo + 14), .int po, .int dr])) (mo + 5) (aI g 64 (q_fill za 0 i))) s.heap H locs → ∀ (ls : Array Slot), lv_has ls 2 [(1, .int (nI i)), (0, .ref mo)] → W p l e (rmD 0) s m args below meth c H locs 0 0 Q (F0 m 22 ls []) := by
    intro k
    induction k with
    | zero =>
      intro i hi H locs Y ls hl
      have e0 : i = 64 := by omega
      rw [e0] at Y hl
      have ne_9 : mo ≠ mo + 5 := (fp_o.nf om o_array (by simp))
      have ne_10 : mo + 13 ≠ mo + 5 := (by omega)
      have Y : fp_H D b n A (va_up (va_up f mo (ob 8 [.int 0, .int 0, .ref (mo + 1), .ref (mo + 2), .int 0, .ref (mo + 3), .ref (mo + 4), .ref (mo + 5), .int 0, .ref (mo + 6), .ref (mo + 7), .ref (mo + 8), .ref (mo + 9), .ref (mo + 10), .ref (mo + 11), .ref (mo + 12), .ref (mo + 13), .ref (mo + 14), .int po, .int dr])) (mo + 5) (aI g 64 (q_fill za 0 64))) s.heap H locs := Y
      have om : fp_o b n (va_up (va_up f mo (ob 8 [.int 0, .int 0, .ref (mo + 1), .ref (mo + 2), .int 0, .ref (mo + 3), .ref (mo + 4), .ref (mo + 5), .int 0, .ref (mo + 6), .ref (mo + 7), .ref (mo + 8), .ref (mo + 9), .ref (mo + 10), .ref (mo + 11), .ref (mo + 12), .ref (mo + 13), .ref (mo + 14), .int po, .int dr])) (mo + 5) (aI g 64 (q_fill za 0 64))) mo (ob 8 [.int 0, .int 0, .ref (mo + 1), .ref (mo + 2), .int 0, .ref (mo + 3), .ref (mo + 4), .ref (mo + 5), .int 0, .ref (mo + 6), .ref (mo + 7), .ref (mo + 8), .ref (mo + 9), .ref (mo + 10), .ref (mo + 11), .ref (mo + 12), .ref (mo + 13), .ref (mo + 14), .int po, .int dr]) := fp_o.ne om ne_9
      have o_key : fp_o b n (va_up (va_up f mo (ob 8 [.int 0, .int 0, .ref (mo + 1), .ref (mo + 2), .int 0, .ref (mo + 3), .ref (mo + 4), .ref (mo + 5), .int 0, .ref (mo + 6), .ref (mo + 7), .ref (mo + 8), .ref (mo + 9), .ref (mo + 10), .ref (mo + 11), .ref (mo + 12), .ref (mo + 13), .ref (mo + 14), .int po, .int dr])) (mo + 5) (aI g 64 (q_fill za 0 64))) (mo + 13) (aI g 4 zk) := fp_o.ne o_key ne_10
      have o_array : fp_o b n (va_up (va_up f mo (ob 8 [.int 0, .int 0, .ref (mo + 1), .ref (mo + 2), .int 0, .ref (mo + 3), .ref (mo + 4), .ref (mo + 5), .int 0, .ref (mo + 6), .ref (mo + 7), .ref (mo + 8), .ref (mo + 9), .ref (mo + 10), .ref (mo + 11), .ref (mo + 12), .ref (mo + 13), .ref (mo + 14), .int po, .int dr])) (mo + 5) (aI g 64 (q_fill za 0 64))) (mo + 5) (aI g 64 (q_fill za 0 64)) := fp_o.up o_array
      refine lv_iload_n hx hb d_M_clear_22 rfl (lv_at hl 0 rfl) ?_
      refine lv_bipush (v := 64) hx hb d_M_clear_23 (by decide) ?_
      refine lv_icmp_ge (tgt := 41) hx hb d_M_clear_25 (by decide) (fun c_25 => ?_) (fun c_25 => absurd (by decide) c_25)
      refine lv_iconst (v := 0) hx hb d_M_clear_41 (by decide) ?_
      refine lv_istore_n (lv' := [(1, .int 0), (0, .ref mo)]) hx hb d_M_clear_42 rfl hl (by decide) rfl (fun ls hl => ?_)
      have loop : ∀ (k i : Nat), k + i = 4 → ∀ (H : Heap) (locs : List Loc), fp_H D b n A (va_up (va_up (va_up f mo (ob 8 [.int 0, .int 0, .ref (mo + 1), .ref (mo + 2), .int 0, .ref (mo + 3), .ref (mo + 4), .ref (mo + 5), .int 0, .ref (mo + 6), .ref (mo + 7), .ref (mo + 8), .ref (mo + 9), .ref (mo + 10), .ref (mo + 11), .ref (mo + 12), .ref (mo + 13), .ref (mo + 14), .int po, .int dr])) (mo + 5) (aI g 64 (q_fill za 0 64))) (mo + 13) (aI g 4 (q_fill zk 0 i))) s.heap H locs → ∀ (ls : Array Slot), lv_has ls 2 [(1, .int (nI i)), (0, .ref mo)] → W p l e (rmD 0) s m args below meth c H locs 0 0 Q (F0 m 43 ls []) := by
        intro k
        induction k with
        | zero =>
          intro i hi H locs Y ls hl
          have e0 : i = 4 := by omega
          rw [e0] at Y hl
          have ne_11 : mo ≠ mo + 13 := (fp_o.nf om o_key (by simp))
          have ne_12 : mo + 5 ≠ mo + 13 := (by omega)
          have Y : fp_H D b n A (va_up (va_up (va_up f mo (ob 8 [.int 0, .int 0, .ref (mo + 1), .ref (mo + 2), .int 0, .ref (mo + 3), .ref (mo + 4), .ref (mo + 5), .int 0, .ref (mo + 6), .ref (mo + 7), .ref (mo + 8), .ref (mo + 9), .ref (mo + 10), .ref (mo + 11), .ref (mo + 12), .ref (mo + 13), .ref (mo + 14), .int po, .int dr])) (mo + 5) (aI g 64 (q_fill za 0 64))) (mo + 13) (aI g 4 (q_fill zk 0 4))) s.heap H locs := Y
          have om : fp_o b n (va_up (va_up (va_up f mo (ob 8 [.int 0, .int 0, .ref (mo + 1), .ref (mo + 2), .int 0, .ref (mo + 3), .ref (mo + 4), .ref (mo + 5), .int 0, .ref (mo + 6), .ref (mo + 7), .ref (mo + 8), .ref (mo + 9), .ref (mo + 10), .ref (mo + 11), .ref (mo + 12), .ref (mo + 13), .ref (mo + 14), .int po, .int dr])) (mo + 5) (aI g 64 (q_fill za 0 64))) (mo + 13) (aI g 4 (q_fill zk 0 4))) mo (ob 8 [.int 0, .int 0, .ref (mo + 1), .ref (mo + 2), .int 0, .ref (mo + 3), .ref (mo + 4), .ref (mo + 5), .int 0, .ref (mo + 6), .ref (mo + 7), .ref (mo + 8), .ref (mo + 9), .ref (mo + 10), .ref (mo + 11), .ref (mo + 12), .ref (mo + 13), .ref (mo + 14), .int po, .int dr]) := fp_o.ne om ne_11
          have o_array : fp_o b n (va_up (va_up (va_up f mo (ob 8 [.int 0, .int 0, .ref (mo + 1), .ref (mo + 2), .int 0, .ref (mo + 3), .ref (mo + 4), .ref (mo + 5), .int 0, .ref (mo + 6), .ref (mo + 7), .ref (mo + 8), .ref (mo + 9), .ref (mo + 10), .ref (mo + 11), .ref (mo + 12), .ref (mo + 13), .ref (mo + 14), .int po, .int dr])) (mo + 5) (aI g 64 (q_fill za 0 64))) (mo + 13) (aI g 4 (q_fill zk 0 4))) (mo + 5) (aI g 64 (q_fill za 0 64)) := fp_o.ne o_array ne_12
          have o_key : fp_o b n (va_up (va_up (va_up f mo (ob 8 [.int 0, .int 0, .ref (mo + 1), .ref (mo + 2), .int 0, .ref (mo + 3), .ref (mo + 4), .ref (mo + 5), .int 0, .ref (mo + 6), .ref (mo + 7), .ref (mo + 8), .ref (mo + 9), .ref (mo + 10), .ref (mo + 11), .ref (mo + 12), .ref (mo + 13), .ref (mo + 14), .int po, .int dr])) (mo + 5) (aI g 64 (q_fill za 0 64))) (mo + 13) (aI g 4 (q_fill zk 0 4))) (mo + 13) (aI g 4 (q_fill zk 0 4)) := fp_o.up o_key
          refine lv_iload_n hx hb d_M_clear_43 rfl (lv_at hl 0 rfl) ?_
          refine lv_iconst (v := 4) hx hb d_M_clear_44 (by decide) ?_
          refine lv_icmp_ge (tgt := 61) hx hb d_M_clear_45 (by decide) (fun c_45 => ?_) (fun c_45 => absurd (by decide) c_45)
          refine lv_aload_n hx hb d_M_clear_61 rfl (lv_at hl 1 rfl) ?_
          refine lv_iconst (v := 0) hx hb d_M_clear_62 (by decide) ?_
          refine fp_put X Y om rfl in_M to_M nm_M 18 (by decide) w619 rfl rfl rfl (Nat.le_of_ble_eq_true rfl) d_M_clear_63 (fun H locs Y => ?_)
          have ne_13 : mo + 5 ≠ mo := (fp_o.nf o_array om (by simp))
          have ne_14 : mo + 13 ≠ mo := (fp_o.nf o_key om (by simp))
          have Y : fp_H D b n A (va_up (va_up (va_up (va_up f mo (ob 8 [.int 0, .int 0, .ref (mo + 1), .ref (mo + 2), .int 0, .ref (mo + 3), .ref (mo + 4), .ref (mo + 5), .int 0, .ref (mo + 6), .ref (mo + 7), .ref (mo + 8), .ref (mo + 9), .ref (mo + 10), .ref (mo + 11), .ref (mo + 12), .ref (mo + 13), .ref (mo + 14), .int po, .int dr])) (mo + 5) (aI g 64 (q_fill za 0 64))) (mo + 13) (aI g 4 (q_fill zk 0 4))) mo (ob 8 [.int 0, .int 0, .ref (mo + 1), .ref (mo + 2), .int 0, .ref (mo + 3), .ref (mo + 4), .ref (mo + 5), .int 0, .ref (mo + 6), .ref (mo + 7), .ref (mo + 8), .ref (mo + 9), .ref (mo + 10), .ref (mo + 11), .ref (mo + 12), .ref (mo + 13), .ref (mo + 14), .int 0, .int dr])) s.heap H locs := Y
          have o_array : fp_o b n (va_up (va_up (va_up (va_up f mo (ob 8 [.int 0, .int 0, .ref (mo + 1), .ref (mo + 2), .int 0, .ref (mo + 3), .ref (mo + 4), .ref (mo + 5), .int 0, .ref (mo + 6), .ref (mo + 7), .ref (mo + 8), .ref (mo + 9), .ref (mo + 10), .ref (mo + 11), .ref (mo + 12), .ref (mo + 13), .ref (mo + 14), .int po, .int dr])) (mo + 5) (aI g 64 (q_fill za 0 64))) (mo + 13) (aI g 4 (q_fill zk 0 4))) mo (ob 8 [.int 0, .int 0, .ref (mo + 1), .ref (mo + 2), .int 0, .ref (mo + 3), .ref (mo + 4), .ref (mo + 5), .int 0, .ref (mo + 6), .ref (mo + 7), .ref (mo + 8), .ref (mo + 9), .ref (mo + 10), .ref (mo + 11), .ref (mo + 12), .ref (mo + 13), .ref (mo + 14), .int 0, .int dr])) (mo + 5) (aI g 64 (q_fill za 0 64)) := fp_o.ne o_array ne_13
          have o_key : fp_o b n (va_up (va_up (va_up (va_up f mo (ob 8 [.int 0, .int 0, .ref (mo + 1), .ref (mo + 2), .int 0, .ref (mo + 3), .ref (mo + 4), .ref (mo + 5), .int 0, .ref (mo + 6), .ref (mo + 7), .ref (mo + 8), .ref (mo + 9), .ref (mo + 10), .ref (mo + 11), .ref (mo + 12), .ref (mo + 13), .ref (mo + 14), .int po, .int dr])) (mo + 5) (aI g 64 (q_fill za 0 64))) (mo + 13) (aI g 4 (q_fill zk 0 4))) mo (ob 8 [.int 0, .int 0, .ref (mo + 1), .ref (mo + 2), .int 0, .ref (mo + 3), .ref (mo + 4), .ref (mo + 5), .int 0, .ref (mo + 6), .ref (mo + 7), .ref (mo + 8), .ref (mo + 9), .ref (mo + 10), .ref (mo + 11), .ref (mo + 12), .ref (mo + 13), .ref (mo + 14), .int 0, .int dr])) (mo + 13) (aI g 4 (q_fill zk 0 4)) := fp_o.ne o_key ne_14
          have om : fp_o b n (va_up (va_up (va_up (va_up f mo (ob 8 [.int 0, .int 0, .ref (mo + 1), .ref (mo + 2), .int 0, .ref (mo + 3), .ref (mo + 4), .ref (mo + 5), .int 0, .ref (mo + 6), .ref (mo + 7), .ref (mo + 8), .ref (mo + 9), .ref (mo + 10), .ref (mo + 11), .ref (mo + 12), .ref (mo + 13), .ref (mo + 14), .int po, .int dr])) (mo + 5) (aI g 64 (q_fill za 0 64))) (mo + 13) (aI g 4 (q_fill zk 0 4))) mo (ob 8 [.int 0, .int 0, .ref (mo + 1), .ref (mo + 2), .int 0, .ref (mo + 3), .ref (mo + 4), .ref (mo + 5), .int 0, .ref (mo + 6), .ref (mo + 7), .ref (mo + 8), .ref (mo + 9), .ref (mo + 10), .ref (mo + 11), .ref (mo + 12), .ref (mo + 13), .ref (mo + 14), .int 0, .int dr])) mo (ob 8 [.int 0, .int 0, .ref (mo + 1), .ref (mo + 2), .int 0, .ref (mo + 3), .ref (mo + 4), .ref (mo + 5), .int 0, .ref (mo + 6), .ref (mo + 7), .ref (mo + 8), .ref (mo + 9), .ref (mo + 10), .ref (mo + 11), .ref (mo + 12), .ref (mo + 13), .ref (mo + 14), .int 0, .int dr]) := fp_o.up om
          refine lv_aload_n hx hb d_M_clear_66 rfl (lv_at hl 1 rfl) ?_
          refine lv_iconst (v := 0) hx hb d_M_clear_67 (by decide) ?_
          refine fp_put X Y om rfl in_M to_M nm_M 19 (by decide) w620 rfl rfl rfl (Nat.le_of_ble_eq_true rfl) d_M_clear_68 (fun H locs Y => ?_)
          have ne_15 : mo + 5 ≠ mo := (fp_o.nf o_array om (by simp))
          have ne_16 : mo + 13 ≠ mo := (fp_o.nf o_key om (by simp))
          have Y := Y.re
          have Y : fp_H D b n A (va_up (va_up (va_up (va_up f mo (ob 8 [.int 0, .int 0, .ref (mo + 1), .ref (mo + 2), .int 0, .ref (mo + 3), .ref (mo + 4), .ref (mo + 5), .int 0, .ref (mo + 6), .ref (mo + 7), .ref (mo + 8), .ref (mo + 9), .ref (mo + 10), .ref (mo + 11), .ref (mo + 12), .ref (mo + 13), .ref (mo + 14), .int po, .int dr])) (mo + 5) (aI g 64 (q_fill za 0 64))) (mo + 13) (aI g 4 (q_fill zk 0 4))) mo (ob 8 [.int 0, .int 0, .ref (mo + 1), .ref (mo + 2), .int 0, .ref (mo + 3), .ref (mo + 4), .ref (mo + 5), .int 0, .ref (mo + 6), .ref (mo + 7), .ref (mo + 8), .ref (mo + 9), .ref (mo + 10), .ref (mo + 11), .ref (mo + 12), .ref (mo + 13), .ref (mo + 14), .int 0, .int 0])) s.heap H locs := Y
          have o_array : fp_o b n (va_up (va_up (va_up (va_up f mo (ob 8 [.int 0, .int 0, .ref (mo + 1), .ref (mo + 2), .int 0, .ref (mo + 3), .ref (mo + 4), .ref (mo + 5), .int 0, .ref (mo + 6), .ref (mo + 7), .ref (mo + 8), .ref (mo + 9), .ref (mo + 10), .ref (mo + 11), .ref (mo + 12), .ref (mo + 13), .ref (mo + 14), .int po, .int dr])) (mo + 5) (aI g 64 (q_fill za 0 64))) (mo + 13) (aI g 4 (q_fill zk 0 4))) mo (ob 8 [.int 0, .int 0, .ref (mo + 1), .ref (mo + 2), .int 0, .ref (mo + 3), .ref (mo + 4), .ref (mo + 5), .int 0, .ref (mo + 6), .ref (mo + 7), .ref (mo + 8), .ref (mo + 9), .ref (mo + 10), .ref (mo + 11), .ref (mo + 12), .ref (mo + 13), .ref (mo + 14), .int 0, .int 0])) (mo + 5) (aI g 64 (q_fill za 0 64)) := fp_o.re o_array ne_15
          have o_key : fp_o b n (va_up (va_up (va_up (va_up f mo (ob 8 [.int 0, .int 0, .ref (mo + 1), .ref (mo + 2), .int 0, .ref (mo + 3), .ref (mo + 4), .ref (mo + 5), .int 0, .ref (mo + 6), .ref (mo + 7), .ref (mo + 8), .ref (mo + 9), .ref (mo + 10), .ref (mo + 11), .ref (mo + 12), .ref (mo + 13), .ref (mo + 14), .int po, .int dr])) (mo + 5) (aI g 64 (q_fill za 0 64))) (mo + 13) (aI g 4 (q_fill zk 0 4))) mo (ob 8 [.int 0, .int 0, .ref (mo + 1), .ref (mo + 2), .int 0, .ref (mo + 3), .ref (mo + 4), .ref (mo + 5), .int 0, .ref (mo + 6), .ref (mo + 7), .ref (mo + 8), .ref (mo + 9), .ref (mo + 10), .ref (mo + 11), .ref (mo + 12), .ref (mo + 13), .ref (mo + 14), .int 0, .int 0])) (mo + 13) (aI g 4 (q_fill zk 0 4)) := fp_o.re o_key ne_16
          have om : fp_o b n (va_up (va_up (va_up (va_up f mo (ob 8 [.int 0, .int 0, .ref (mo + 1), .ref (mo + 2), .int 0, .ref (mo + 3), .ref (mo + 4), .ref (mo + 5), .int 0, .ref (mo + 6), .ref (mo + 7), .ref (mo + 8), .ref (mo + 9), .ref (mo + 10), .ref (mo + 11), .ref (mo + 12), .ref (mo + 13), .ref (mo + 14), .int po, .int dr])) (mo + 5) (aI g 64 (q_fill za 0 64))) (mo + 13) (aI g 4 (q_fill zk 0 4))) mo (ob 8 [.int 0, .int 0, .ref (mo + 1), .ref (mo + 2), .int 0, .ref (mo + 3), .ref (mo + 4), .ref (mo + 5), .int 0, .ref (mo + 6), .ref (mo + 7), .ref (mo + 8), .ref (mo + 9), .ref (mo + 10), .ref (mo + 11), .ref (mo + 12), .ref (mo + 13), .ref (mo + 14), .int 0, .int 0])) mo (ob 8 [.int 0, .int 0, .ref (mo + 1), .ref (mo + 2), .int 0, .ref (mo + 3), .ref (mo + 4), .ref (mo + 5), .int 0, .ref (mo + 6), .ref (mo + 7), .ref (mo + 8), .ref (mo + 9), .ref (mo + 10), .ref (mo + 11), .ref (mo + 12), .ref (mo + 13), .ref (mo + 14), .int 0, .int 0]) := fp_o.rs om
          exact ret _ _ _ _ _ d_M_clear_71 ⟨rfl, rfl⟩ Y
        | succ k ih =>
          intro i hi H locs Y ls hl
          have ne_17 : mo ≠ mo + 13 := (fp_o.nf om o_key (by simp))
          have ne_18 : mo + 5 ≠ mo + 13 := (by omega)
          have Y : fp_H D b n A (va_up (va_up (va_up f mo (ob 8 [.int 0, .int 0, .ref (mo + 1), .ref (mo + 2), .int 0, .ref (mo + 3), .ref (mo + 4), .ref (mo + 5), .int 0, .ref (mo + 6), .ref (mo + 7), .ref (mo + 8), .ref (mo + 9), .ref (mo + 10), .ref (mo + 11), .ref (mo + 12), .ref (mo + 13), .ref (mo + 14), .int po, .int dr])) (mo + 5) (aI g 64 (q_fill za 0 64))) (mo + 13) (aI g 4 (q_fill zk 0 i))) s.heap H locs := Y
          have om : fp_o b n (va_up (va_up (va_up f mo (ob 8 [.int 0, .int 0, .ref (mo + 1), .ref (mo + 2), .int 0, .ref (mo + 3), .ref (mo + 4), .ref (mo + 5), .int 0, .ref (mo + 6), .ref (mo + 7), .ref (mo + 8), .ref (mo + 9), .ref (mo + 10), .ref (mo + 11), .ref (mo + 12), .ref (mo + 13), .ref (mo + 14), .int po, .int dr])) (mo + 5) (aI g 64 (q_fill za 0 64))) (mo + 13) (aI g 4 (q_fill zk 0 i))) mo (ob 8 [.int 0, .int 0, .ref (mo + 1), .ref (mo + 2), .int 0, .ref (mo + 3), .ref (mo + 4), .ref (mo + 5), .int 0, .ref (mo + 6), .ref (mo + 7), .ref (mo + 8), .ref (mo + 9), .ref (mo + 10), .ref (mo + 11), .ref (mo + 12), .ref (mo + 13), .ref (mo + 14), .int po, .int dr]) := fp_o.ne om ne_17
          have o_array : fp_o b n (va_up (va_up (va_up f mo (ob 8 [.int 0, .int 0, .ref (mo + 1), .ref (mo + 2), .int 0, .ref (mo + 3), .ref (mo + 4), .ref (mo + 5), .int 0, .ref (mo + 6), .ref (mo + 7), .ref (mo + 8), .ref (mo + 9), .ref (mo + 10), .ref (mo + 11), .ref (mo + 12), .ref (mo + 13), .ref (mo + 14), .int po, .int dr])) (mo + 5) (aI g 64 (q_fill za 0 64))) (mo + 13) (aI g 4 (q_fill zk 0 i))) (mo + 5) (aI g 64 (q_fill za 0 64)) := fp_o.ne o_array ne_18
          have o_key : fp_o b n (va_up (va_up (va_up f mo (ob 8 [.int 0, .int 0, .ref (mo + 1), .ref (mo + 2), .int 0, .ref (mo + 3), .ref (mo + 4), .ref (mo + 5), .int 0, .ref (mo + 6), .ref (mo + 7), .ref (mo + 8), .ref (mo + 9), .ref (mo + 10), .ref (mo + 11), .ref (mo + 12), .ref (mo + 13), .ref (mo + 14), .int po, .int dr])) (mo + 5) (aI g 64 (q_fill za 0 64))) (mo + 13) (aI g 4 (q_fill zk 0 i))) (mo + 13) (aI g 4 (q_fill zk 0 i)) := fp_o.up o_key
          refine lv_iload_n hx hb d_M_clear_43 rfl (lv_at hl 0 rfl) ?_
          refine lv_iconst (v := 4) hx hb d_M_clear_44 (by decide) ?_
          refine lv_icmp_ge (tgt := 61) hx hb d_M_clear_45 (by decide) (fun c_45 => absurd c_45 (nI_ge (b := 4) (by omega) (by decide))) (fun c_45 => ?_)
          refine lv_aload_n hx hb d_M_clear_48 rfl (lv_at hl 1 rfl) ?_
          refine fp_get X Y om rfl in_M 16 (by decide) w617 rfl d_M_clear_49 ?_
          refine lv_iload_n hx hb d_M_clear_52 rfl (lv_at hl 0 rfl) ?_
          refine lv_iconst (v := 0) hx hb d_M_clear_53 (by decide) ?_
          refine fp_ist X Y o_key i rfl (by omega) (by decide) d_M_clear_54 (fun H locs Y => ?_)
          have ne_19 : mo ≠ mo + 13 := (fp_o.nf om o_key (by simp))
          have ne_20 : mo + 5 ≠ mo + 13 := (by omega)
          have Y := Y.re
          have Y : fp_H D b n A (va_up (va_up (va_up f mo (ob 8 [.int 0, .int 0, .ref (mo + 1), .ref (mo + 2), .int 0, .ref (mo + 3), .ref (mo + 4), .ref (mo + 5), .int 0, .ref (mo + 6), .ref (mo + 7), .ref (mo + 8), .ref (mo + 9), .ref (mo + 10), .ref (mo + 11), .ref (mo + 12), .ref (mo + 13), .ref (mo + 14), .int po, .int dr])) (mo + 5) (aI g 64 (q_fill za 0 64))) (mo + 13) (aI g 4 (upd (q_fill zk 0 i) i 0))) s.heap H locs := Y
          have om : fp_o b n (va_up (va_up (va_up f mo (ob 8 [.int 0, .int 0, .ref (mo + 1), .ref (mo + 2), .int 0, .ref (mo + 3), .ref (mo + 4), .ref (mo + 5), .int 0, .ref (mo + 6), .ref (mo + 7), .ref (mo + 8), .ref (mo + 9), .ref (mo + 10), .ref (mo + 11), .ref (mo + 12), .ref (mo + 13), .ref (mo + 14), .int po, .int dr])) (mo + 5) (aI g 64 (q_fill za 0 64))) (mo + 13) (aI g 4 (upd (q_fill zk 0 i) i 0))) mo (ob 8 [.int 0, .int 0, .ref (mo + 1), .ref (mo + 2), .int 0, .ref (mo + 3), .ref (mo + 4), .ref (mo + 5), .int 0, .ref (mo + 6), .ref (mo + 7), .ref (mo + 8), .ref (mo + 9), .ref (mo + 10), .ref (mo + 11), .ref (mo + 12), .ref (mo + 13), .ref (mo + 14), .int po, .int dr]) := fp_o.re om ne_19
          have o_array : fp_o b n (va_up (va_up (va_up f mo (ob 8 [.int 0, .int 0, .ref (mo + 1), .ref (mo + 2), .int 0, .ref (mo + 3), .ref (mo + 4), .ref (mo + 5), .int 0, .ref (mo + 6), .ref (mo + 7), .ref (mo + 8), .ref (mo + 9), .ref (mo + 10), .ref (mo + 11), .ref (mo + 12), .ref (mo + 13), .ref (mo + 14), .int po, .int dr])) (mo + 5) (aI g 64 (q_fill za 0 64))) (mo + 13) (aI g 4 (upd (q_fill zk 0 i) i 0))) (mo + 5) (aI g 64 (q_fill za 0 64)) := fp_o.re o_array ne_20
          have o_key : fp_o b n (va_up (va_up (va_up f mo (ob 8 [.int 0, .int 0, .ref (mo + 1), .ref (mo + 2), .int 0, .ref (mo + 3), .ref (mo + 4), .ref (mo + 5), .int 0, .ref (mo + 6), .ref (mo + 7), .ref (mo + 8), .ref (mo + 9), .ref (mo + 10), .ref (mo + 11), .ref (mo + 12), .ref (mo + 13), .ref (mo + 14), .int po, .int dr])) (mo + 5) (aI g 64 (q_fill za 0 64))) (mo + 13) (aI g 4 (upd (q_fill zk 0 i) i 0))) (mo + 13) (aI g 4 (upd (q_fill zk 0 i) i 0)) := fp_o.rs o_key
          refine lv_iinc (v := nI (i + 1)) (lv' := [(1, .int (nI (i + 1))), (0, .ref mo)]) hx hb d_M_clear_55 hl (k := 0) rfl (nI_1 i) (by decide) rfl (fun ls hl => ?_)
          refine lv_goto (tgt := 43) hx hb d_M_clear_58 (by decide) ?_
          exact ih (i + 1) (by omega) _ _ (by rw [← q_fill_s zk 0 i]; exact Y) ls (lv_sub hl [0, 1] rfl)
      exact loop 4 0 (by omega) _ _ (by rw [q_fill_0, va_up_same o_key.2.2]; exact Y) ls (lv_sub hl [0, 1] rfl)
    | succ k ih =>
      intro i hi H locs Y ls hl
      have ne_21 : mo ≠ mo + 5 := (fp_o.nf om o_array (by simp))
      have ne_22 : mo + 13 ≠ mo + 5 := (by omega)
      have Y : fp_H D b n A (va_up (va_up f mo (ob 8 [.int 0, .int 0, .ref (mo + 1), .ref (mo + 2), .int 0, .ref (mo + 3), .ref (mo + 4), .ref (mo + 5), .int 0, .ref (mo + 6), .ref (mo + 7), .ref (mo + 8), .ref (mo + 9), .ref (mo + 10), .ref (mo + 11), .ref (mo + 12), .ref (mo + 13), .ref (mo + 14), .int po, .int dr])) (mo + 5) (aI g 64 (q_fill za 0 i))) s.heap H locs := Y
      have om : fp_o b n (va_up (va_up f mo (ob 8 [.int 0, .int 0, .ref (mo + 1), .ref (mo + 2), .int 0, .ref (mo + 3), .ref (mo + 4), .ref (mo + 5), .int 0, .ref (mo + 6), .ref (mo + 7), .ref (mo + 8), .ref (mo + 9), .ref (mo + 10), .ref (mo + 11), .ref (mo + 12), .ref (mo + 13), .ref (mo + 14), .int po, .int dr])) (mo + 5) (aI g 64 (q_fill za 0 i))) mo (ob 8 [.int 0, .int 0, .ref (mo + 1), .ref (mo + 2), .int 0, .ref (mo + 3), .ref (mo + 4), .ref (mo + 5), .int 0, .ref (mo + 6), .ref (mo + 7), .ref (mo + 8), .ref (mo + 9), .ref (mo + 10), .ref (mo + 11), .ref (mo + 12), .ref (mo + 13), .ref (mo + 14), .int po, .int dr]) := fp_o.ne om ne_21
      have o_key : fp_o b n (va_up (va_up f mo (ob 8 [.int 0, .int 0, .ref (mo + 1), .ref (mo + 2), .int 0, .ref (mo + 3), .ref (mo + 4), .ref (mo + 5), .int 0, .ref (mo + 6), .ref (mo + 7), .ref (mo + 8), .ref (mo + 9), .ref (mo + 10), .ref (mo + 11), .ref (mo + 12), .ref (mo + 13), .ref (mo + 14), .int po, .int dr])) (mo + 5) (aI g 64 (q_fill za 0 i))) (mo + 13) (aI g 4 zk) := fp_o.ne o_key ne_22
      have o_array : fp_o b n (va_up (va_up f mo (ob 8 [.int 0, .int 0, .ref (mo + 1), .ref (mo + 2), .int 0, .ref (mo + 3), .ref (mo + 4), .ref (mo + 5), .int 0, .ref (mo + 6), .ref (mo + 7), .ref (mo + 8), .ref (mo + 9), .ref (mo + 10), .ref (mo + 11), .ref (mo + 12), .ref (mo + 13), .ref (mo + 14), .int po, .int dr])) (mo + 5) (aI g 64 (q_fill za 0 i))) (mo + 5) (aI g 64 (q_fill za 0 i)) := fp_o.up o_array
      refine lv_iload_n hx hb d_M_clear_22 rfl (lv_at hl 0 rfl) ?_
      refine lv_bipush (v := 64) hx hb d_M_clear_23 (by decide) ?_
      refine lv_icmp_ge (tgt := 41) hx hb d_M_clear_25 (by decide) (fun c_25 => absurd c_25 (nI_ge (b := 64) (by omega) (by decide))) (fun c_25 => ?_)
      refine lv_aload_n hx hb d_M_clear_28 rfl (lv_at hl 1 rfl) ?_
      refine fp_get X Y om rfl in_M 7 (by decide) w608 rfl d_M_clear_29 ?_
      refine lv_iload_n hx hb d_M_clear_32 rfl (lv_at hl 0 rfl) ?_
      refine lv_iconst (v := 0) hx hb d_M_clear_33 (by decide) ?_
      refine fp_ist X Y o_array i rfl (by omega) (by decide) d_M_clear_34 (fun H locs Y => ?_)
      have ne_23 : mo ≠ mo + 5 := (fp_o.nf om o_array (by simp))
      have ne_24 : mo + 13 ≠ mo + 5 := (by omega)
      have Y := Y.re
      have Y : fp_H D b n A (va_up (va_up f mo (ob 8 [.int 0, .int 0, .ref (mo + 1), .ref (mo + 2), .int 0, .ref (mo + 3), .ref (mo + 4), .ref (mo + 5), .int 0, .ref (mo + 6), .ref (mo + 7), .ref (mo + 8), .ref (mo + 9), .ref (mo + 10), .ref (mo + 11), .ref (mo + 12), .ref (mo + 13), .ref (mo + 14), .int po, .int dr])) (mo + 5) (aI g 64 (upd (q_fill za 0 i) i 0))) s.heap H locs := Y
      have om : fp_o b n (va_up (va_up f mo (ob 8 [.int 0, .int 0, .ref (mo + 1), .ref (mo + 2), .int 0, .ref (mo + 3), .ref (mo + 4), .ref (mo + 5), .int 0, .ref (mo + 6), .ref (mo + 7), .ref (mo + 8), .ref (mo + 9), .ref (mo + 10), .ref (mo + 11), .ref (mo + 12), .ref (mo + 13), .ref (mo + 14), .int po, .int dr])) (mo + 5) (aI g 64 (upd (q_fill za 0 i) i 0))) mo (ob 8 [.int 0, .int 0, .ref (mo + 1), .ref (mo + 2), .int 0, .ref (mo + 3), .ref (mo + 4), .ref (mo + 5), .int 0, .ref (mo + 6), .ref (mo + 7), .ref (mo + 8), .ref (mo + 9), .ref (mo + 10), .ref (mo + 11), .ref (mo + 12), .ref (mo + 13), .ref (mo + 14), .int po, .int dr]) := fp_o.re om ne_23
      have o_key : fp_o b n (va_up (va_up f mo (ob 8 [.int 0, .int 0, .ref (mo + 1), .ref (mo + 2), .int 0, .ref (mo + 3), .ref (mo + 4), .ref (mo + 5), .int 0, .ref (mo + 6), .ref (mo + 7), .ref (mo + 8), .ref (mo + 9), .ref (mo + 10), .ref (mo + 11), .ref (mo + 12), .ref (mo + 13), .ref (mo + 14), .int po, .int dr])) (mo + 5) (aI g 64 (upd (q_fill za 0 i) i 0))) (mo + 13) (aI g 4 zk) := fp_o.re o_key ne_24
      have o_array : fp_o b n (va_up (va_up f mo (ob 8 [.int 0, .int 0, .ref (mo + 1), .ref (mo + 2), .int 0, .ref (mo + 3), .ref (mo + 4), .ref (mo + 5), .int 0, .ref (mo + 6), .ref (mo + 7), .ref (mo + 8), .ref (mo + 9), .ref (mo + 10), .ref (mo + 11), .ref (mo + 12), .ref (mo + 13), .ref (mo + 14), .int po, .int dr])) (mo + 5) (aI g 64 (upd (q_fill za 0 i) i 0))) (mo + 5) (aI g 64 (upd (q_fill za 0 i) i 0)) := fp_o.rs o_array
      refine lv_iinc (v := nI (i + 1)) (lv' := [(1, .int (nI (i + 1))), (0, .ref mo)]) hx hb d_M_clear_35 hl (k := 0) rfl (nI_1 i) (by decide) rfl (fun ls hl => ?_)
      refine lv_goto (tgt := 22) hx hb d_M_clear_38 (by decide) ?_
      exact ih (i + 1) (by omega) _ _ (by rw [← q_fill_s za 0 i]; exact Y) ls (lv_sub hl [0, 1] rfl)
  exact loop 64 0 (by omega) _ _ (by rw [q_fill_0, va_up_same o_array.2.2]; exact Y) ls (lv_sub hl [0, 1] rfl)
