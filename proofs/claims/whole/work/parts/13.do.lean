/-! Contracts: EntryTables.doOne, doAction, entries, matches (by wip/gen/k6.py). -/
/-- what the doings change: the fields' words, the counts, the port, the drop -/
abbrev q_S : Type := (Nat → Int32) × (Nat → Int32) × Int32 × Int32
def q_dat (y i1 i2 : Int32) : Int32 := if y = 0 then i1 else i2
/-- one doing -/
def q_do (kf : Int32) (z1 : Nat → Int32) (kj : Nat) (x y z i1 i2 : Int32) (s : q_S) : q_S := match kj with
  | 0 => (q_wr z1 s.1 x kf y, s.2)
  | 1 => (q_wr z1 s.1 x kf (q_at s.1 y kf), s.2)
  | 2 => (q_wr z1 s.1 x kf (q_at s.1 x kf + q_at s.1 y kf + z), s.2)
  | 3 => (q_wr z1 s.1 x kf (q_dat y i1 i2), s.2)
  | 4 => (s.1, s.2.1, y, s.2.2.2)
  | 5 => (s.1, s.2.1, q_dat y i1 i2, s.2.2.2)
  | 6 => (s.1, s.2.1, s.2.2.1, 1)
  | 7 => (s.1, q_cg s.2.1 x (q_fm (q_at s.1 y kf)) z, s.2.2)
  | 8 => (q_wr z1 s.1 x kf (q_cr s.2.1 z (q_fm (q_at s.1 y kf))), s.2)
  | _ => s
/-- the world with these -/
def q_put (g : Nat → ClassId) (f : Nat → va_E) (q2 qc a fo co qa qt kq : Nat) (ac tc : Int32) (s : q_S) : Nat → va_E := va_up (va_up (va_up f q2 (aI g 16 s.1)) qc (aI g 64 s.2.1)) a (ob 7 [.ref fo, .ref co, .ref qa, .int ac, .ref qt, .int tc, .ref kq, .int s.2.2.1, .int s.2.2.2])
theorem q_put_put {g : Nat → ClassId} {f : Nat → va_E} {q2 qc a fo co qa qt kq : Nat} {ac tc : Int32} {s s' : q_S} (h1 : q2 ≠ qc) (h2 : q2 ≠ a) (h3 : qc ≠ a) : q_put g (q_put g f q2 qc a fo co qa qt kq ac tc s) q2 qc a fo co qa qt kq ac tc s' = q_put g f q2 qc a fo co qa qt kq ac tc s' := by
  funext j
  simp only [q_put, va_up]
  by_cases e1 : j = a
  · simp [e1]
  · by_cases e2 : j = qc
    · simp [e1, e2]
    · by_cases e3 : j = q2
      · simp [e1, e2, e3]
      · simp [e1, e2, e3]
theorem q_put_0 {g : Nat → ClassId} {f : Nat → va_E} {q2 qc a fo co qa qt kq : Nat} {ac tc po dr : Int32} {z2 zc : Nat → Int32} {b n : Nat} (o2 : fp_o b n f q2 (aI g 16 z2)) (oc : fp_o b n f qc (aI g 64 zc)) (oa : fp_o b n f a (ob 7 [.ref fo, .ref co, .ref qa, .int ac, .ref qt, .int tc, .ref kq, .int po, .int dr])) : q_put g f q2 qc a fo co qa qt kq ac tc (z2, zc, po, dr) = f := by
  unfold q_put
  rw [va_up_same o2.2.2, va_up_same oc.2.2, va_up_same oa.2.2]
/-- the first k doings -/
def q_run (kf : Int32) (z1 : Nat → Int32) (dk : Nat → Nat) (dx dy dz : Nat → Int32) (i1 i2 : Int32) (s : q_S) : Nat → q_S
  | 0 => s
  | k + 1 => q_do kf z1 (dk k) (dx k) (dy k) (dz k) i1 i2 (q_run kf z1 dk dx dy dz i1 i2 s k)
set_option maxHeartbeats 4000000 in
set_option maxRecDepth 100000 in
theorem c_X_doOne {l : Launch} {D : va_G} {g : Nat → ClassId} {b n : Nat} {A : Nat → Prop} {f : Nat → va_E} {a fo co qa qt kq : Nat} {ac tc po dr : Int32} {q1 q2 kf : Nat} {z1 z2 : Nat → Int32} {qc : Nat} {zc : Nat → Int32} {dq kj : Nat} {x y z : Int32} (i1 i2 : Int32) (hk : kf ≤ 16) (hkj : kj < 9) (oa : fp_o b n f a (ob 7 [.ref fo, .ref co, .ref qa, .int ac, .ref qt, .int tc, .ref kq, .int po, .int dr])) (of : fp_o b n f fo (ob 4 [.ref q1, .ref q2, .int (nI kf)])) (o1 : fp_o b n f q1 (aI g 16 z1)) (o2 : fp_o b n f q2 (aI g 16 z2)) (oc : fp_o b n f co (ob 1 [.ref qc])) (oqc : fp_o b n f qc (aI g 64 zc)) (od : fp_o b n f dq (ob 2 [.int (nI kj), .int x, .int y, .int z])) (hne : q1 ≠ q2) (n2 : q1 ≠ qc) (n3 : q2 ≠ qc) (hA : fp_W b n A := by assumption) : fp_M l D (TY g) b n A y_X_doOne (fp_ws y_X_doOne b_X_doOne 4 none) (rmD 3) [.ref a, .ref dq, .int i1, .int i2] f (fun v f' => v = none ∧ f' = q_put g f q2 qc a fo co qa qt kq ac tc (q_do (nI kf) z1 kj x y z i1 i2 (z2, zc, po, dr))) := by
  refine fp_ofV (plainFor_of_name (by decide)) (Nat.le_of_ble_eq_true rfl) ?_
  intro p e s m args below meth c Q ls H locs X Y hl ret
  have hx := X.1.1
  have hb := X.1.2.1
  have hl : lv_has ls 4 [(0, .ref a), (1, .ref dq), (2, .int i1), (3, .int i2)] := hl
  have o2i := o2
  have oci := oqc
  refine lv_aload_n hx hb d_X_doOne_0 rfl (lv_at hl 1 rfl) ?_
  refine fp_getN X Y od rfl in_D 0 (by decide) nw94 rfl d_X_doOne_1 ?_
  rcases (show kj = 0 ∨ kj = 1 ∨ kj = 2 ∨ kj = 3 ∨ kj = 4 ∨ kj = 5 ∨ kj = 6 ∨ kj = 7 ∨ kj = 8 by omega) with h9 | h9 | h9 | h9 | h9 | h9 | h9 | h9 | h9
  · subst h9
    refine lv_tableIn (tgt := 56) (off := 52) hx hb d_X_doOne_4 (by decide) (by decide) (by decide) (by decide) ?_
    refine lv_aload_n hx hb d_X_doOne_56 rfl (lv_at hl 0 rfl) ?_
    refine fp_get X Y oa rfl in_X 0 (by decide) w191 rfl d_X_doOne_57 ?_
    refine lv_aload_n hx hb d_X_doOne_60 rfl (lv_at hl 1 rfl) ?_
    refine fp_getN X Y od rfl in_D 1 (by decide) nw96 rfl d_X_doOne_61 ?_
    refine lv_aload_n hx hb d_X_doOne_64 rfl (lv_at hl 1 rfl) ?_
    refine fp_getN X Y od rfl in_D 2 (by decide) nw98 rfl d_X_doOne_65 ?_
    refine fp_callV (nA := 2) (As := [.int x, .int y]) (rest := []) X Y (c_F_write x y hk of o1 o2 hne) of rfl w441 w438 w439 w440 w2 (by decide +kernel) ⟨rfl, rfl⟩ ⟨Nat.le_of_ble_eq_true rfl, Nat.le_of_ble_eq_true rfl⟩ rfl hl.1 rfl (Nat.le_of_ble_eq_true rfl) d_X_doOne_68 ⟨Nat.zero_le _, Nat.zero_le _⟩ (fun v9 f9 H locs hp9 Y => ?_)
    obtain ⟨e8, e9⟩ := hp9
    subst e8
    rw [e9] at Y
    have ne_1 : a ≠ q2 := (fp_o.nf oa o2 (by simp))
    have ne_2 : fo ≠ q2 := (fp_o.nf of o2 (by simp))
    have ne_3 : q1 ≠ q2 := hne
    have ne_4 : co ≠ q2 := (fp_o.nf oc o2 (by simp))
    have ne_5 : qc ≠ q2 := (Ne.symm n3)
    have ne_6 : dq ≠ q2 := (fp_o.nf od o2 (by simp))
    have Y : fp_H D b n A (va_up f q2 (aI g 16 (q_wr z1 z2 x (nI kf) y))) s.heap H locs := Y
    have oa : fp_o b n (va_up f q2 (aI g 16 (q_wr z1 z2 x (nI kf) y))) a (ob 7 [.ref fo, .ref co, .ref qa, .int ac, .ref qt, .int tc, .ref kq, .int po, .int dr]) := fp_o.ne oa ne_1
    have of : fp_o b n (va_up f q2 (aI g 16 (q_wr z1 z2 x (nI kf) y))) fo (ob 4 [.ref q1, .ref q2, .int (nI kf)]) := fp_o.ne of ne_2
    have o1 : fp_o b n (va_up f q2 (aI g 16 (q_wr z1 z2 x (nI kf) y))) q1 (aI g 16 z1) := fp_o.ne o1 ne_3
    have oc : fp_o b n (va_up f q2 (aI g 16 (q_wr z1 z2 x (nI kf) y))) co (ob 1 [.ref qc]) := fp_o.ne oc ne_4
    have oqc : fp_o b n (va_up f q2 (aI g 16 (q_wr z1 z2 x (nI kf) y))) qc (aI g 64 zc) := fp_o.ne oqc ne_5
    have od : fp_o b n (va_up f q2 (aI g 16 (q_wr z1 z2 x (nI kf) y))) dq (ob 2 [.int (nI 0), .int x, .int y, .int z]) := fp_o.ne od ne_6
    have o2 : fp_o b n (va_up f q2 (aI g 16 (q_wr z1 z2 x (nI kf) y))) q2 (aI g 16 (q_wr z1 z2 x (nI kf) y)) := fp_o.up o2
    refine W.eq (g2 := F0 m 71 ls []) rfl ?_
    refine lv_goto (tgt := 264) hx hb d_X_doOne_71 (by decide) ?_
    exact ret _ _ _ _ _ d_X_doOne_264 ⟨rfl, by simp only [q_put, q_do]; rw [va_up_same oqc.2.2, va_up_same oa.2.2]⟩ Y
  · subst h9
    refine lv_tableIn (tgt := 74) (off := 70) hx hb d_X_doOne_4 (by decide) (by decide) (by decide) (by decide) ?_
    refine lv_aload_n hx hb d_X_doOne_74 rfl (lv_at hl 0 rfl) ?_
    refine fp_get X Y oa rfl in_X 0 (by decide) w191 rfl d_X_doOne_75 ?_
    refine lv_aload_n hx hb d_X_doOne_78 rfl (lv_at hl 1 rfl) ?_
    refine fp_getN X Y od rfl in_D 1 (by decide) nw96 rfl d_X_doOne_79 ?_
    refine lv_aload_n hx hb d_X_doOne_82 rfl (lv_at hl 0 rfl) ?_
    refine fp_get X Y oa rfl in_X 0 (by decide) w191 rfl d_X_doOne_83 ?_
    refine lv_aload_n hx hb d_X_doOne_86 rfl (lv_at hl 1 rfl) ?_
    refine fp_getN X Y od rfl in_D 2 (by decide) nw98 rfl d_X_doOne_87 ?_
    refine fp_callV (nA := 1) (As := [.int y]) (rest := [.int x, .ref fo]) X Y (c_F_read y hk of o1 o2) of rfl w245 w242 w243 w244 w2 (by decide +kernel) ⟨rfl, rfl⟩ ⟨Nat.le_of_ble_eq_true rfl, Nat.le_of_ble_eq_true rfl⟩ rfl hl.1 rfl (Nat.le_of_ble_eq_true rfl) d_X_doOne_90 ⟨Nat.zero_le _, Nat.zero_le _⟩ (fun v9 f9 H locs hp9 Y => ?_)
    obtain ⟨e8, e9⟩ := hp9
    subst e8
    rw [e9] at Y
    refine W.eq (g2 := F0 m 93 ls [.int (q_at z2 y (nI kf)), .int x, .ref fo]) rfl ?_
    refine fp_callV (nA := 2) (As := [.int x, .int (q_at z2 y (nI kf))]) (rest := []) X Y (c_F_write x (q_at z2 y (nI kf)) hk of o1 o2 hne) of rfl w441 w438 w439 w440 w2 (by decide +kernel) ⟨rfl, rfl⟩ ⟨Nat.le_of_ble_eq_true rfl, Nat.le_of_ble_eq_true rfl⟩ rfl hl.1 rfl (Nat.le_of_ble_eq_true rfl) d_X_doOne_93 ⟨Nat.zero_le _, Nat.zero_le _⟩ (fun v9 f9 H locs hp9 Y => ?_)
    obtain ⟨e8, e9⟩ := hp9
    subst e8
    rw [e9] at Y
    have ne_7 : a ≠ q2 := (fp_o.nf oa o2 (by simp))
    have ne_8 : fo ≠ q2 := (fp_o.nf of o2 (by simp))
    have ne_9 : q1 ≠ q2 := hne
    have ne_10 : co ≠ q2 := (fp_o.nf oc o2 (by simp))
    have ne_11 : qc ≠ q2 := (Ne.symm n3)
    have ne_12 : dq ≠ q2 := (fp_o.nf od o2 (by simp))
    have Y : fp_H D b n A (va_up f q2 (aI g 16 (q_wr z1 z2 x (nI kf) (q_at z2 y (nI kf))))) s.heap H locs := Y
    have oa : fp_o b n (va_up f q2 (aI g 16 (q_wr z1 z2 x (nI kf) (q_at z2 y (nI kf))))) a (ob 7 [.ref fo, .ref co, .ref qa, .int ac, .ref qt, .int tc, .ref kq, .int po, .int dr]) := fp_o.ne oa ne_7
    have of : fp_o b n (va_up f q2 (aI g 16 (q_wr z1 z2 x (nI kf) (q_at z2 y (nI kf))))) fo (ob 4 [.ref q1, .ref q2, .int (nI kf)]) := fp_o.ne of ne_8
    have o1 : fp_o b n (va_up f q2 (aI g 16 (q_wr z1 z2 x (nI kf) (q_at z2 y (nI kf))))) q1 (aI g 16 z1) := fp_o.ne o1 ne_9
    have oc : fp_o b n (va_up f q2 (aI g 16 (q_wr z1 z2 x (nI kf) (q_at z2 y (nI kf))))) co (ob 1 [.ref qc]) := fp_o.ne oc ne_10
    have oqc : fp_o b n (va_up f q2 (aI g 16 (q_wr z1 z2 x (nI kf) (q_at z2 y (nI kf))))) qc (aI g 64 zc) := fp_o.ne oqc ne_11
    have od : fp_o b n (va_up f q2 (aI g 16 (q_wr z1 z2 x (nI kf) (q_at z2 y (nI kf))))) dq (ob 2 [.int (nI 1), .int x, .int y, .int z]) := fp_o.ne od ne_12
    have o2 : fp_o b n (va_up f q2 (aI g 16 (q_wr z1 z2 x (nI kf) (q_at z2 y (nI kf))))) q2 (aI g 16 (q_wr z1 z2 x (nI kf) (q_at z2 y (nI kf)))) := fp_o.up o2
    refine W.eq (g2 := F0 m 96 ls []) rfl ?_
    refine lv_goto (tgt := 264) hx hb d_X_doOne_96 (by decide) ?_
    exact ret _ _ _ _ _ d_X_doOne_264 ⟨rfl, by simp only [q_put, q_do]; rw [va_up_same oqc.2.2, va_up_same oa.2.2]⟩ Y
  · subst h9
    refine lv_tableIn (tgt := 99) (off := 95) hx hb d_X_doOne_4 (by decide) (by decide) (by decide) (by decide) ?_
    refine lv_aload_n hx hb d_X_doOne_99 rfl (lv_at hl 0 rfl) ?_
    refine fp_get X Y oa rfl in_X 0 (by decide) w191 rfl d_X_doOne_100 ?_
    refine lv_aload_n hx hb d_X_doOne_103 rfl (lv_at hl 1 rfl) ?_
    refine fp_getN X Y od rfl in_D 1 (by decide) nw96 rfl d_X_doOne_104 ?_
    refine lv_aload_n hx hb d_X_doOne_107 rfl (lv_at hl 0 rfl) ?_
    refine fp_get X Y oa rfl in_X 0 (by decide) w191 rfl d_X_doOne_108 ?_
    refine lv_aload_n hx hb d_X_doOne_111 rfl (lv_at hl 1 rfl) ?_
    refine fp_getN X Y od rfl in_D 1 (by decide) nw96 rfl d_X_doOne_112 ?_
    refine fp_callV (nA := 1) (As := [.int x]) (rest := [.int x, .ref fo]) X Y (c_F_read x hk of o1 o2) of rfl w245 w242 w243 w244 w2 (by decide +kernel) ⟨rfl, rfl⟩ ⟨Nat.le_of_ble_eq_true rfl, Nat.le_of_ble_eq_true rfl⟩ rfl hl.1 rfl (Nat.le_of_ble_eq_true rfl) d_X_doOne_115 ⟨Nat.zero_le _, Nat.zero_le _⟩ (fun v9 f9 H locs hp9 Y => ?_)
    obtain ⟨e8, e9⟩ := hp9
    subst e8
    rw [e9] at Y
    refine W.eq (g2 := F0 m 118 ls [.int (q_at z2 x (nI kf)), .int x, .ref fo]) rfl ?_
    refine lv_aload_n hx hb d_X_doOne_118 rfl (lv_at hl 0 rfl) ?_
    refine fp_get X Y oa rfl in_X 0 (by decide) w191 rfl d_X_doOne_119 ?_
    refine lv_aload_n hx hb d_X_doOne_122 rfl (lv_at hl 1 rfl) ?_
    refine fp_getN X Y od rfl in_D 2 (by decide) nw98 rfl d_X_doOne_123 ?_
    refine fp_callV (nA := 1) (As := [.int y]) (rest := [.int (q_at z2 x (nI kf)), .int x, .ref fo]) X Y (c_F_read y hk of o1 o2) of rfl w245 w242 w243 w244 w2 (by decide +kernel) ⟨rfl, rfl⟩ ⟨Nat.le_of_ble_eq_true rfl, Nat.le_of_ble_eq_true rfl⟩ rfl hl.1 rfl (Nat.le_of_ble_eq_true rfl) d_X_doOne_126 ⟨Nat.zero_le _, Nat.zero_le _⟩ (fun v9 f9 H locs hp9 Y => ?_)
    obtain ⟨e8, e9⟩ := hp9
    subst e8
    rw [e9] at Y
    refine W.eq (g2 := F0 m 129 ls [.int (q_at z2 y (nI kf)), .int (q_at z2 x (nI kf)), .int x, .ref fo]) rfl ?_
    refine lv_iadd hx hb d_X_doOne_129 ?_
    refine lv_aload_n hx hb d_X_doOne_130 rfl (lv_at hl 1 rfl) ?_
    refine fp_getN X Y od rfl in_D 3 (by decide) nw100 rfl d_X_doOne_131 ?_
    refine lv_iadd hx hb d_X_doOne_134 ?_
    refine fp_callV (nA := 2) (As := [.int x, .int (((q_at z2 x (nI kf)) + (q_at z2 y (nI kf))) + z)]) (rest := []) X Y (c_F_write x (((q_at z2 x (nI kf)) + (q_at z2 y (nI kf))) + z) hk of o1 o2 hne) of rfl w441 w438 w439 w440 w2 (by decide +kernel) ⟨rfl, rfl⟩ ⟨Nat.le_of_ble_eq_true rfl, Nat.le_of_ble_eq_true rfl⟩ rfl hl.1 rfl (Nat.le_of_ble_eq_true rfl) d_X_doOne_135 ⟨Nat.zero_le _, Nat.zero_le _⟩ (fun v9 f9 H locs hp9 Y => ?_)
    obtain ⟨e8, e9⟩ := hp9
    subst e8
    rw [e9] at Y
    have ne_13 : a ≠ q2 := (fp_o.nf oa o2 (by simp))
    have ne_14 : fo ≠ q2 := (fp_o.nf of o2 (by simp))
    have ne_15 : q1 ≠ q2 := hne
    have ne_16 : co ≠ q2 := (fp_o.nf oc o2 (by simp))
    have ne_17 : qc ≠ q2 := (Ne.symm n3)
    have ne_18 : dq ≠ q2 := (fp_o.nf od o2 (by simp))
    have Y : fp_H D b n A (va_up f q2 (aI g 16 (q_wr z1 z2 x (nI kf) (((q_at z2 x (nI kf)) + (q_at z2 y (nI kf))) + z)))) s.heap H locs := Y
    have oa : fp_o b n (va_up f q2 (aI g 16 (q_wr z1 z2 x (nI kf) (((q_at z2 x (nI kf)) + (q_at z2 y (nI kf))) + z)))) a (ob 7 [.ref fo, .ref co, .ref qa, .int ac, .ref qt, .int tc, .ref kq, .int po, .int dr]) := fp_o.ne oa ne_13
    have of : fp_o b n (va_up f q2 (aI g 16 (q_wr z1 z2 x (nI kf) (((q_at z2 x (nI kf)) + (q_at z2 y (nI kf))) + z)))) fo (ob 4 [.ref q1, .ref q2, .int (nI kf)]) := fp_o.ne of ne_14
    have o1 : fp_o b n (va_up f q2 (aI g 16 (q_wr z1 z2 x (nI kf) (((q_at z2 x (nI kf)) + (q_at z2 y (nI kf))) + z)))) q1 (aI g 16 z1) := fp_o.ne o1 ne_15
    have oc : fp_o b n (va_up f q2 (aI g 16 (q_wr z1 z2 x (nI kf) (((q_at z2 x (nI kf)) + (q_at z2 y (nI kf))) + z)))) co (ob 1 [.ref qc]) := fp_o.ne oc ne_16
    have oqc : fp_o b n (va_up f q2 (aI g 16 (q_wr z1 z2 x (nI kf) (((q_at z2 x (nI kf)) + (q_at z2 y (nI kf))) + z)))) qc (aI g 64 zc) := fp_o.ne oqc ne_17
    have od : fp_o b n (va_up f q2 (aI g 16 (q_wr z1 z2 x (nI kf) (((q_at z2 x (nI kf)) + (q_at z2 y (nI kf))) + z)))) dq (ob 2 [.int (nI 2), .int x, .int y, .int z]) := fp_o.ne od ne_18
    have o2 : fp_o b n (va_up f q2 (aI g 16 (q_wr z1 z2 x (nI kf) (((q_at z2 x (nI kf)) + (q_at z2 y (nI kf))) + z)))) q2 (aI g 16 (q_wr z1 z2 x (nI kf) (((q_at z2 x (nI kf)) + (q_at z2 y (nI kf))) + z))) := fp_o.up o2
    refine W.eq (g2 := F0 m 138 ls []) rfl ?_
    refine lv_goto (tgt := 264) hx hb d_X_doOne_138 (by decide) ?_
    exact ret _ _ _ _ _ d_X_doOne_264 ⟨rfl, by simp only [q_put, q_do]; rw [va_up_same oqc.2.2, va_up_same oa.2.2]⟩ Y
  · subst h9
    refine lv_tableIn (tgt := 141) (off := 137) hx hb d_X_doOne_4 (by decide) (by decide) (by decide) (by decide) ?_
    refine lv_aload_n hx hb d_X_doOne_141 rfl (lv_at hl 0 rfl) ?_
    refine fp_get X Y oa rfl in_X 0 (by decide) w191 rfl d_X_doOne_142 ?_
    refine lv_aload_n hx hb d_X_doOne_145 rfl (lv_at hl 1 rfl) ?_
    refine fp_getN X Y od rfl in_D 1 (by decide) nw96 rfl d_X_doOne_146 ?_
    refine lv_aload_n hx hb d_X_doOne_149 rfl (lv_at hl 1 rfl) ?_
    refine fp_getN X Y od rfl in_D 2 (by decide) nw98 rfl d_X_doOne_150 ?_
    refine lv_if_ne (tgt := 160) hx hb d_X_doOne_153 (by decide) (fun c_153 => ?_) (fun c_153 => ?_)
    · refine lv_iload_n hx hb d_X_doOne_160 rfl (lv_at hl 3 rfl) ?_
      refine fp_callV (nA := 2) (As := [.int x, .int i2]) (rest := []) X Y (c_F_write x i2 hk of o1 o2 hne) of rfl w441 w438 w439 w440 w2 (by decide +kernel) ⟨rfl, rfl⟩ ⟨Nat.le_of_ble_eq_true rfl, Nat.le_of_ble_eq_true rfl⟩ rfl hl.1 rfl (Nat.le_of_ble_eq_true rfl) d_X_doOne_161 ⟨Nat.zero_le _, Nat.zero_le _⟩ (fun v9 f9 H locs hp9 Y => ?_)
      obtain ⟨e8, e9⟩ := hp9
      subst e8
      rw [e9] at Y
      have ne_19 : a ≠ q2 := (fp_o.nf oa o2 (by simp))
      have ne_20 : fo ≠ q2 := (fp_o.nf of o2 (by simp))
      have ne_21 : q1 ≠ q2 := hne
      have ne_22 : co ≠ q2 := (fp_o.nf oc o2 (by simp))
      have ne_23 : qc ≠ q2 := (Ne.symm n3)
      have ne_24 : dq ≠ q2 := (fp_o.nf od o2 (by simp))
      have Y : fp_H D b n A (va_up f q2 (aI g 16 (q_wr z1 z2 x (nI kf) i2))) s.heap H locs := Y
      have oa : fp_o b n (va_up f q2 (aI g 16 (q_wr z1 z2 x (nI kf) i2))) a (ob 7 [.ref fo, .ref co, .ref qa, .int ac, .ref qt, .int tc, .ref kq, .int po, .int dr]) := fp_o.ne oa ne_19
      have of : fp_o b n (va_up f q2 (aI g 16 (q_wr z1 z2 x (nI kf) i2))) fo (ob 4 [.ref q1, .ref q2, .int (nI kf)]) := fp_o.ne of ne_20
      have o1 : fp_o b n (va_up f q2 (aI g 16 (q_wr z1 z2 x (nI kf) i2))) q1 (aI g 16 z1) := fp_o.ne o1 ne_21
      have oc : fp_o b n (va_up f q2 (aI g 16 (q_wr z1 z2 x (nI kf) i2))) co (ob 1 [.ref qc]) := fp_o.ne oc ne_22
      have oqc : fp_o b n (va_up f q2 (aI g 16 (q_wr z1 z2 x (nI kf) i2))) qc (aI g 64 zc) := fp_o.ne oqc ne_23
      have od : fp_o b n (va_up f q2 (aI g 16 (q_wr z1 z2 x (nI kf) i2))) dq (ob 2 [.int (nI 3), .int x, .int y, .int z]) := fp_o.ne od ne_24
      have o2 : fp_o b n (va_up f q2 (aI g 16 (q_wr z1 z2 x (nI kf) i2))) q2 (aI g 16 (q_wr z1 z2 x (nI kf) i2)) := fp_o.up o2
      refine W.eq (g2 := F0 m 164 ls []) rfl ?_
      refine lv_goto (tgt := 264) hx hb d_X_doOne_164 (by decide) ?_
      exact ret _ _ _ _ _ d_X_doOne_264 ⟨rfl, by simp only [q_put, q_do]; simp only [q_dat, if_neg c_153]; rw [va_up_same oqc.2.2, va_up_same oa.2.2]⟩ Y
    · refine lv_iload_n hx hb d_X_doOne_156 rfl (lv_at hl 2 rfl) ?_
      refine lv_goto (tgt := 161) hx hb d_X_doOne_157 (by decide) ?_
      refine fp_callV (nA := 2) (As := [.int x, .int i1]) (rest := []) X Y (c_F_write x i1 hk of o1 o2 hne) of rfl w441 w438 w439 w440 w2 (by decide +kernel) ⟨rfl, rfl⟩ ⟨Nat.le_of_ble_eq_true rfl, Nat.le_of_ble_eq_true rfl⟩ rfl hl.1 rfl (Nat.le_of_ble_eq_true rfl) d_X_doOne_161 ⟨Nat.zero_le _, Nat.zero_le _⟩ (fun v9 f9 H locs hp9 Y => ?_)
      obtain ⟨e8, e9⟩ := hp9
      subst e8
      rw [e9] at Y
      have ne_25 : a ≠ q2 := (fp_o.nf oa o2 (by simp))
      have ne_26 : fo ≠ q2 := (fp_o.nf of o2 (by simp))
      have ne_27 : q1 ≠ q2 := hne
      have ne_28 : co ≠ q2 := (fp_o.nf oc o2 (by simp))
      have ne_29 : qc ≠ q2 := (Ne.symm n3)
      have ne_30 : dq ≠ q2 := (fp_o.nf od o2 (by simp))
      have Y : fp_H D b n A (va_up f q2 (aI g 16 (q_wr z1 z2 x (nI kf) i1))) s.heap H locs := Y
      have oa : fp_o b n (va_up f q2 (aI g 16 (q_wr z1 z2 x (nI kf) i1))) a (ob 7 [.ref fo, .ref co, .ref qa, .int ac, .ref qt, .int tc, .ref kq, .int po, .int dr]) := fp_o.ne oa ne_25
      have of : fp_o b n (va_up f q2 (aI g 16 (q_wr z1 z2 x (nI kf) i1))) fo (ob 4 [.ref q1, .ref q2, .int (nI kf)]) := fp_o.ne of ne_26
      have o1 : fp_o b n (va_up f q2 (aI g 16 (q_wr z1 z2 x (nI kf) i1))) q1 (aI g 16 z1) := fp_o.ne o1 ne_27
      have oc : fp_o b n (va_up f q2 (aI g 16 (q_wr z1 z2 x (nI kf) i1))) co (ob 1 [.ref qc]) := fp_o.ne oc ne_28
      have oqc : fp_o b n (va_up f q2 (aI g 16 (q_wr z1 z2 x (nI kf) i1))) qc (aI g 64 zc) := fp_o.ne oqc ne_29
      have od : fp_o b n (va_up f q2 (aI g 16 (q_wr z1 z2 x (nI kf) i1))) dq (ob 2 [.int (nI 3), .int x, .int y, .int z]) := fp_o.ne od ne_30
      have o2 : fp_o b n (va_up f q2 (aI g 16 (q_wr z1 z2 x (nI kf) i1))) q2 (aI g 16 (q_wr z1 z2 x (nI kf) i1)) := fp_o.up o2
      refine W.eq (g2 := F0 m 164 ls []) rfl ?_
      refine lv_goto (tgt := 264) hx hb d_X_doOne_164 (by decide) ?_
      exact ret _ _ _ _ _ d_X_doOne_264 ⟨rfl, by simp only [q_put, q_do]; simp only [q_dat, if_pos c_153]; rw [va_up_same oqc.2.2, va_up_same oa.2.2]⟩ Y
  · subst h9
    refine lv_tableIn (tgt := 167) (off := 163) hx hb d_X_doOne_4 (by decide) (by decide) (by decide) (by decide) ?_
    refine lv_aload_n hx hb d_X_doOne_167 rfl (lv_at hl 0 rfl) ?_
    refine lv_aload_n hx hb d_X_doOne_168 rfl (lv_at hl 1 rfl) ?_
    refine fp_getN X Y od rfl in_D 2 (by decide) nw98 rfl d_X_doOne_169 ?_
    refine fp_put X Y oa rfl in_X to_X nm_X 7 (by decide) w198 rfl rfl rfl (Nat.le_of_ble_eq_true rfl) d_X_doOne_172 (fun H locs Y => ?_)
    have ne_31 : fo ≠ a := (fp_o.nf of oa (by simp))
    have ne_32 : q1 ≠ a := (fp_o.nf o1 oa (by simp))
    have ne_33 : q2 ≠ a := (fp_o.nf o2 oa (by simp))
    have ne_34 : co ≠ a := (fp_o.nf oc oa (by simp))
    have ne_35 : qc ≠ a := (fp_o.nf oqc oa (by simp))
    have ne_36 : dq ≠ a := (fp_o.nf od oa (by simp))
    have Y : fp_H D b n A (va_up f a (ob 7 [.ref fo, .ref co, .ref qa, .int ac, .ref qt, .int tc, .ref kq, .int y, .int dr])) s.heap H locs := Y
    have of : fp_o b n (va_up f a (ob 7 [.ref fo, .ref co, .ref qa, .int ac, .ref qt, .int tc, .ref kq, .int y, .int dr])) fo (ob 4 [.ref q1, .ref q2, .int (nI kf)]) := fp_o.ne of ne_31
    have o1 : fp_o b n (va_up f a (ob 7 [.ref fo, .ref co, .ref qa, .int ac, .ref qt, .int tc, .ref kq, .int y, .int dr])) q1 (aI g 16 z1) := fp_o.ne o1 ne_32
    have o2 : fp_o b n (va_up f a (ob 7 [.ref fo, .ref co, .ref qa, .int ac, .ref qt, .int tc, .ref kq, .int y, .int dr])) q2 (aI g 16 z2) := fp_o.ne o2 ne_33
    have oc : fp_o b n (va_up f a (ob 7 [.ref fo, .ref co, .ref qa, .int ac, .ref qt, .int tc, .ref kq, .int y, .int dr])) co (ob 1 [.ref qc]) := fp_o.ne oc ne_34
    have oqc : fp_o b n (va_up f a (ob 7 [.ref fo, .ref co, .ref qa, .int ac, .ref qt, .int tc, .ref kq, .int y, .int dr])) qc (aI g 64 zc) := fp_o.ne oqc ne_35
    have od : fp_o b n (va_up f a (ob 7 [.ref fo, .ref co, .ref qa, .int ac, .ref qt, .int tc, .ref kq, .int y, .int dr])) dq (ob 2 [.int (nI 4), .int x, .int y, .int z]) := fp_o.ne od ne_36
    have oa : fp_o b n (va_up f a (ob 7 [.ref fo, .ref co, .ref qa, .int ac, .ref qt, .int tc, .ref kq, .int y, .int dr])) a (ob 7 [.ref fo, .ref co, .ref qa, .int ac, .ref qt, .int tc, .ref kq, .int y, .int dr]) := fp_o.up oa
    refine lv_goto (tgt := 264) hx hb d_X_doOne_175 (by decide) ?_
    exact ret _ _ _ _ _ d_X_doOne_264 ⟨rfl, by simp only [q_put, q_do]; rw [va_up_same o2i.2.2, va_up_same oci.2.2]⟩ Y
  · subst h9
    refine lv_tableIn (tgt := 178) (off := 174) hx hb d_X_doOne_4 (by decide) (by decide) (by decide) (by decide) ?_
    refine lv_aload_n hx hb d_X_doOne_178 rfl (lv_at hl 0 rfl) ?_
    refine lv_aload_n hx hb d_X_doOne_179 rfl (lv_at hl 1 rfl) ?_
    refine fp_getN X Y od rfl in_D 2 (by decide) nw98 rfl d_X_doOne_180 ?_
    refine lv_if_ne (tgt := 190) hx hb d_X_doOne_183 (by decide) (fun c_183 => ?_) (fun c_183 => ?_)
    · refine lv_iload_n hx hb d_X_doOne_190 rfl (lv_at hl 3 rfl) ?_
      refine fp_put X Y oa rfl in_X to_X nm_X 7 (by decide) w198 rfl rfl rfl (Nat.le_of_ble_eq_true rfl) d_X_doOne_191 (fun H locs Y => ?_)
      have ne_37 : fo ≠ a := (fp_o.nf of oa (by simp))
      have ne_38 : q1 ≠ a := (fp_o.nf o1 oa (by simp))
      have ne_39 : q2 ≠ a := (fp_o.nf o2 oa (by simp))
      have ne_40 : co ≠ a := (fp_o.nf oc oa (by simp))
      have ne_41 : qc ≠ a := (fp_o.nf oqc oa (by simp))
      have ne_42 : dq ≠ a := (fp_o.nf od oa (by simp))
      have Y : fp_H D b n A (va_up f a (ob 7 [.ref fo, .ref co, .ref qa, .int ac, .ref qt, .int tc, .ref kq, .int i2, .int dr])) s.heap H locs := Y
      have of : fp_o b n (va_up f a (ob 7 [.ref fo, .ref co, .ref qa, .int ac, .ref qt, .int tc, .ref kq, .int i2, .int dr])) fo (ob 4 [.ref q1, .ref q2, .int (nI kf)]) := fp_o.ne of ne_37
      have o1 : fp_o b n (va_up f a (ob 7 [.ref fo, .ref co, .ref qa, .int ac, .ref qt, .int tc, .ref kq, .int i2, .int dr])) q1 (aI g 16 z1) := fp_o.ne o1 ne_38
      have o2 : fp_o b n (va_up f a (ob 7 [.ref fo, .ref co, .ref qa, .int ac, .ref qt, .int tc, .ref kq, .int i2, .int dr])) q2 (aI g 16 z2) := fp_o.ne o2 ne_39
      have oc : fp_o b n (va_up f a (ob 7 [.ref fo, .ref co, .ref qa, .int ac, .ref qt, .int tc, .ref kq, .int i2, .int dr])) co (ob 1 [.ref qc]) := fp_o.ne oc ne_40
      have oqc : fp_o b n (va_up f a (ob 7 [.ref fo, .ref co, .ref qa, .int ac, .ref qt, .int tc, .ref kq, .int i2, .int dr])) qc (aI g 64 zc) := fp_o.ne oqc ne_41
      have od : fp_o b n (va_up f a (ob 7 [.ref fo, .ref co, .ref qa, .int ac, .ref qt, .int tc, .ref kq, .int i2, .int dr])) dq (ob 2 [.int (nI 5), .int x, .int y, .int z]) := fp_o.ne od ne_42
      have oa : fp_o b n (va_up f a (ob 7 [.ref fo, .ref co, .ref qa, .int ac, .ref qt, .int tc, .ref kq, .int i2, .int dr])) a (ob 7 [.ref fo, .ref co, .ref qa, .int ac, .ref qt, .int tc, .ref kq, .int i2, .int dr]) := fp_o.up oa
      refine lv_goto (tgt := 264) hx hb d_X_doOne_194 (by decide) ?_
      exact ret _ _ _ _ _ d_X_doOne_264 ⟨rfl, by simp only [q_put, q_do]; simp only [q_dat, if_neg c_183]; rw [va_up_same o2i.2.2, va_up_same oci.2.2]⟩ Y
    · refine lv_iload_n hx hb d_X_doOne_186 rfl (lv_at hl 2 rfl) ?_
      refine lv_goto (tgt := 191) hx hb d_X_doOne_187 (by decide) ?_
      refine fp_put X Y oa rfl in_X to_X nm_X 7 (by decide) w198 rfl rfl rfl (Nat.le_of_ble_eq_true rfl) d_X_doOne_191 (fun H locs Y => ?_)
      have ne_43 : fo ≠ a := (fp_o.nf of oa (by simp))
      have ne_44 : q1 ≠ a := (fp_o.nf o1 oa (by simp))
      have ne_45 : q2 ≠ a := (fp_o.nf o2 oa (by simp))
      have ne_46 : co ≠ a := (fp_o.nf oc oa (by simp))
      have ne_47 : qc ≠ a := (fp_o.nf oqc oa (by simp))
      have ne_48 : dq ≠ a := (fp_o.nf od oa (by simp))
      have Y : fp_H D b n A (va_up f a (ob 7 [.ref fo, .ref co, .ref qa, .int ac, .ref qt, .int tc, .ref kq, .int i1, .int dr])) s.heap H locs := Y
      have of : fp_o b n (va_up f a (ob 7 [.ref fo, .ref co, .ref qa, .int ac, .ref qt, .int tc, .ref kq, .int i1, .int dr])) fo (ob 4 [.ref q1, .ref q2, .int (nI kf)]) := fp_o.ne of ne_43
      have o1 : fp_o b n (va_up f a (ob 7 [.ref fo, .ref co, .ref qa, .int ac, .ref qt, .int tc, .ref kq, .int i1, .int dr])) q1 (aI g 16 z1) := fp_o.ne o1 ne_44
      have o2 : fp_o b n (va_up f a (ob 7 [.ref fo, .ref co, .ref qa, .int ac, .ref qt, .int tc, .ref kq, .int i1, .int dr])) q2 (aI g 16 z2) := fp_o.ne o2 ne_45
      have oc : fp_o b n (va_up f a (ob 7 [.ref fo, .ref co, .ref qa, .int ac, .ref qt, .int tc, .ref kq, .int i1, .int dr])) co (ob 1 [.ref qc]) := fp_o.ne oc ne_46
      have oqc : fp_o b n (va_up f a (ob 7 [.ref fo, .ref co, .ref qa, .int ac, .ref qt, .int tc, .ref kq, .int i1, .int dr])) qc (aI g 64 zc) := fp_o.ne oqc ne_47
      have od : fp_o b n (va_up f a (ob 7 [.ref fo, .ref co, .ref qa, .int ac, .ref qt, .int tc, .ref kq, .int i1, .int dr])) dq (ob 2 [.int (nI 5), .int x, .int y, .int z]) := fp_o.ne od ne_48
      have oa : fp_o b n (va_up f a (ob 7 [.ref fo, .ref co, .ref qa, .int ac, .ref qt, .int tc, .ref kq, .int i1, .int dr])) a (ob 7 [.ref fo, .ref co, .ref qa, .int ac, .ref qt, .int tc, .ref kq, .int i1, .int dr]) := fp_o.up oa
      refine lv_goto (tgt := 264) hx hb d_X_doOne_194 (by decide) ?_
      exact ret _ _ _ _ _ d_X_doOne_264 ⟨rfl, by simp only [q_put, q_do]; simp only [q_dat, if_pos c_183]; rw [va_up_same o2i.2.2, va_up_same oci.2.2]⟩ Y
  · subst h9
    refine lv_tableIn (tgt := 197) (off := 193) hx hb d_X_doOne_4 (by decide) (by decide) (by decide) (by decide) ?_
    refine lv_aload_n hx hb d_X_doOne_197 rfl (lv_at hl 0 rfl) ?_
    refine lv_iconst (v := 1) hx hb d_X_doOne_198 (by decide) ?_
    refine fp_put X Y oa rfl in_X to_X nm_X 8 (by decide) w199 rfl rfl rfl (Nat.le_of_ble_eq_true rfl) d_X_doOne_199 (fun H locs Y => ?_)
    have ne_49 : fo ≠ a := (fp_o.nf of oa (by simp))
    have ne_50 : q1 ≠ a := (fp_o.nf o1 oa (by simp))
    have ne_51 : q2 ≠ a := (fp_o.nf o2 oa (by simp))
    have ne_52 : co ≠ a := (fp_o.nf oc oa (by simp))
    have ne_53 : qc ≠ a := (fp_o.nf oqc oa (by simp))
    have ne_54 : dq ≠ a := (fp_o.nf od oa (by simp))
    have Y : fp_H D b n A (va_up f a (ob 7 [.ref fo, .ref co, .ref qa, .int ac, .ref qt, .int tc, .ref kq, .int po, .int 1])) s.heap H locs := Y
    have of : fp_o b n (va_up f a (ob 7 [.ref fo, .ref co, .ref qa, .int ac, .ref qt, .int tc, .ref kq, .int po, .int 1])) fo (ob 4 [.ref q1, .ref q2, .int (nI kf)]) := fp_o.ne of ne_49
    have o1 : fp_o b n (va_up f a (ob 7 [.ref fo, .ref co, .ref qa, .int ac, .ref qt, .int tc, .ref kq, .int po, .int 1])) q1 (aI g 16 z1) := fp_o.ne o1 ne_50
    have o2 : fp_o b n (va_up f a (ob 7 [.ref fo, .ref co, .ref qa, .int ac, .ref qt, .int tc, .ref kq, .int po, .int 1])) q2 (aI g 16 z2) := fp_o.ne o2 ne_51
    have oc : fp_o b n (va_up f a (ob 7 [.ref fo, .ref co, .ref qa, .int ac, .ref qt, .int tc, .ref kq, .int po, .int 1])) co (ob 1 [.ref qc]) := fp_o.ne oc ne_52
    have oqc : fp_o b n (va_up f a (ob 7 [.ref fo, .ref co, .ref qa, .int ac, .ref qt, .int tc, .ref kq, .int po, .int 1])) qc (aI g 64 zc) := fp_o.ne oqc ne_53
    have od : fp_o b n (va_up f a (ob 7 [.ref fo, .ref co, .ref qa, .int ac, .ref qt, .int tc, .ref kq, .int po, .int 1])) dq (ob 2 [.int (nI 6), .int x, .int y, .int z]) := fp_o.ne od ne_54
    have oa : fp_o b n (va_up f a (ob 7 [.ref fo, .ref co, .ref qa, .int ac, .ref qt, .int tc, .ref kq, .int po, .int 1])) a (ob 7 [.ref fo, .ref co, .ref qa, .int ac, .ref qt, .int tc, .ref kq, .int po, .int 1]) := fp_o.up oa
    refine lv_goto (tgt := 264) hx hb d_X_doOne_202 (by decide) ?_
    exact ret _ _ _ _ _ d_X_doOne_264 ⟨rfl, by simp only [q_put, q_do]; rw [va_up_same o2i.2.2, va_up_same oci.2.2]⟩ Y
  · subst h9
    refine lv_tableIn (tgt := 205) (off := 201) hx hb d_X_doOne_4 (by decide) (by decide) (by decide) (by decide) ?_
    refine lv_aload_n hx hb d_X_doOne_205 rfl (lv_at hl 0 rfl) ?_
    refine fp_get X Y oa rfl in_X 1 (by decide) w192 rfl d_X_doOne_206 ?_
    refine lv_aload_n hx hb d_X_doOne_209 rfl (lv_at hl 1 rfl) ?_
    refine fp_getN X Y od rfl in_D 1 (by decide) nw96 rfl d_X_doOne_210 ?_
    refine lv_aload_n hx hb d_X_doOne_213 rfl (lv_at hl 0 rfl) ?_
    refine lv_aload_n hx hb d_X_doOne_214 rfl (lv_at hl 1 rfl) ?_
    refine fp_getN X Y od rfl in_D 2 (by decide) nw98 rfl d_X_doOne_215 ?_
    refine fp_callV (nA := 1) (As := [.int y]) (rest := [.int x, .ref co]) X Y (c_X_wordNumber y hk oa of o1 o2) oa rfl w587 w584 w586 wp14 w1 (by decide +kernel) ⟨rfl, rfl⟩ ⟨Nat.le_of_ble_eq_true rfl, Nat.le_of_ble_eq_true rfl⟩ rfl hl.1 rfl (Nat.le_of_ble_eq_true rfl) d_X_doOne_218 ⟨Nat.zero_le _, Nat.zero_le _⟩ (fun v9 f9 H locs hp9 Y => ?_)
    obtain ⟨e8, e9⟩ := hp9
    subst e8
    rw [e9] at Y
    refine W.eq (g2 := F0 m 221 ls [.int (q_fm (q_at z2 y (nI kf))), .int x, .ref co]) rfl ?_
    refine lv_aload_n hx hb d_X_doOne_221 rfl (lv_at hl 1 rfl) ?_
    refine fp_getN X Y od rfl in_D 3 (by decide) nw100 rfl d_X_doOne_222 ?_
    refine fp_callV (nA := 3) (As := [.int x, .int (q_fm (q_at z2 y (nI kf))), .int z]) (rest := []) X Y (c_C_grow x (q_fm (q_at z2 y (nI kf))) z oc oqc) oc rfl w594 w591 w592 w593 w3 (by decide +kernel) ⟨rfl, rfl⟩ ⟨Nat.le_of_ble_eq_true rfl, Nat.le_of_ble_eq_true rfl⟩ rfl hl.1 rfl (Nat.le_of_ble_eq_true rfl) d_X_doOne_225 ⟨Nat.zero_le _, Nat.zero_le _⟩ (fun v9 f9 H locs hp9 Y => ?_)
    obtain ⟨e8, e9⟩ := hp9
    subst e8
    rw [e9] at Y
    have ne_55 : a ≠ qc := (fp_o.nf oa oqc (by simp))
    have ne_56 : fo ≠ qc := (fp_o.nf of oqc (by simp))
    have ne_57 : q1 ≠ qc := n2
    have ne_58 : q2 ≠ qc := n3
    have ne_59 : co ≠ qc := (fp_o.nf oc oqc (by simp))
    have ne_60 : dq ≠ qc := (fp_o.nf od oqc (by simp))
    have Y : fp_H D b n A (va_up f qc (aI g 64 (q_cg zc x (q_fm (q_at z2 y (nI kf))) z))) s.heap H locs := Y
    have oa : fp_o b n (va_up f qc (aI g 64 (q_cg zc x (q_fm (q_at z2 y (nI kf))) z))) a (ob 7 [.ref fo, .ref co, .ref qa, .int ac, .ref qt, .int tc, .ref kq, .int po, .int dr]) := fp_o.ne oa ne_55
    have of : fp_o b n (va_up f qc (aI g 64 (q_cg zc x (q_fm (q_at z2 y (nI kf))) z))) fo (ob 4 [.ref q1, .ref q2, .int (nI kf)]) := fp_o.ne of ne_56
    have o1 : fp_o b n (va_up f qc (aI g 64 (q_cg zc x (q_fm (q_at z2 y (nI kf))) z))) q1 (aI g 16 z1) := fp_o.ne o1 ne_57
    have o2 : fp_o b n (va_up f qc (aI g 64 (q_cg zc x (q_fm (q_at z2 y (nI kf))) z))) q2 (aI g 16 z2) := fp_o.ne o2 ne_58
    have oc : fp_o b n (va_up f qc (aI g 64 (q_cg zc x (q_fm (q_at z2 y (nI kf))) z))) co (ob 1 [.ref qc]) := fp_o.ne oc ne_59
    have od : fp_o b n (va_up f qc (aI g 64 (q_cg zc x (q_fm (q_at z2 y (nI kf))) z))) dq (ob 2 [.int (nI 7), .int x, .int y, .int z]) := fp_o.ne od ne_60
    have oqc : fp_o b n (va_up f qc (aI g 64 (q_cg zc x (q_fm (q_at z2 y (nI kf))) z))) qc (aI g 64 (q_cg zc x (q_fm (q_at z2 y (nI kf))) z)) := fp_o.up oqc
    refine W.eq (g2 := F0 m 228 ls []) rfl ?_
    refine lv_goto (tgt := 264) hx hb d_X_doOne_228 (by decide) ?_
    exact ret _ _ _ _ _ d_X_doOne_264 ⟨rfl, by simp only [q_put, q_do]; rw [va_up_same o2i.2.2, va_up_same oa.2.2]⟩ Y
  · subst h9
    refine lv_tableIn (tgt := 231) (off := 227) hx hb d_X_doOne_4 (by decide) (by decide) (by decide) (by decide) ?_
    refine lv_aload_n hx hb d_X_doOne_231 rfl (lv_at hl 0 rfl) ?_
    refine fp_get X Y oa rfl in_X 0 (by decide) w191 rfl d_X_doOne_232 ?_
    refine lv_aload_n hx hb d_X_doOne_235 rfl (lv_at hl 1 rfl) ?_
    refine fp_getN X Y od rfl in_D 1 (by decide) nw96 rfl d_X_doOne_236 ?_
    refine lv_aload_n hx hb d_X_doOne_239 rfl (lv_at hl 0 rfl) ?_
    refine fp_get X Y oa rfl in_X 1 (by decide) w192 rfl d_X_doOne_240 ?_
    refine lv_aload_n hx hb d_X_doOne_243 rfl (lv_at hl 1 rfl) ?_
    refine fp_getN X Y od rfl in_D 3 (by decide) nw100 rfl d_X_doOne_244 ?_
    refine lv_aload_n hx hb d_X_doOne_247 rfl (lv_at hl 0 rfl) ?_
    refine lv_aload_n hx hb d_X_doOne_248 rfl (lv_at hl 1 rfl) ?_
    refine fp_getN X Y od rfl in_D 2 (by decide) nw98 rfl d_X_doOne_249 ?_
    refine fp_callV (nA := 1) (As := [.int y]) (rest := [.int z, .ref co, .int x, .ref fo]) X Y (c_X_wordNumber y hk oa of o1 o2) oa rfl w587 w584 w586 wp14 w1 (by decide +kernel) ⟨rfl, rfl⟩ ⟨Nat.le_of_ble_eq_true rfl, Nat.le_of_ble_eq_true rfl⟩ rfl hl.1 rfl (Nat.le_of_ble_eq_true rfl) d_X_doOne_252 ⟨Nat.zero_le _, Nat.zero_le _⟩ (fun v9 f9 H locs hp9 Y => ?_)
    obtain ⟨e8, e9⟩ := hp9
    subst e8
    rw [e9] at Y
    refine W.eq (g2 := F0 m 255 ls [.int (q_fm (q_at z2 y (nI kf))), .int z, .ref co, .int x, .ref fo]) rfl ?_
    refine fp_callV (nA := 2) (As := [.int z, .int (q_fm (q_at z2 y (nI kf)))]) (rest := [.int x, .ref fo]) X Y (c_C_read z (q_fm (q_at z2 y (nI kf))) oc oqc) oc rfl w300 w297 w298 w299 w3 (by decide +kernel) ⟨rfl, rfl⟩ ⟨Nat.le_of_ble_eq_true rfl, Nat.le_of_ble_eq_true rfl⟩ rfl hl.1 rfl (Nat.le_of_ble_eq_true rfl) d_X_doOne_255 ⟨Nat.zero_le _, Nat.zero_le _⟩ (fun v9 f9 H locs hp9 Y => ?_)
    obtain ⟨e8, e9⟩ := hp9
    subst e8
    rw [e9] at Y
    refine W.eq (g2 := F0 m 258 ls [.int (q_cr zc z (q_fm (q_at z2 y (nI kf)))), .int x, .ref fo]) rfl ?_
    refine fp_callV (nA := 2) (As := [.int x, .int (q_cr zc z (q_fm (q_at z2 y (nI kf))))]) (rest := []) X Y (c_F_write x (q_cr zc z (q_fm (q_at z2 y (nI kf)))) hk of o1 o2 hne) of rfl w441 w438 w439 w440 w2 (by decide +kernel) ⟨rfl, rfl⟩ ⟨Nat.le_of_ble_eq_true rfl, Nat.le_of_ble_eq_true rfl⟩ rfl hl.1 rfl (Nat.le_of_ble_eq_true rfl) d_X_doOne_258 ⟨Nat.zero_le _, Nat.zero_le _⟩ (fun v9 f9 H locs hp9 Y => ?_)
    obtain ⟨e8, e9⟩ := hp9
    subst e8
    rw [e9] at Y
    have ne_61 : a ≠ q2 := (fp_o.nf oa o2 (by simp))
    have ne_62 : fo ≠ q2 := (fp_o.nf of o2 (by simp))
    have ne_63 : q1 ≠ q2 := hne
    have ne_64 : co ≠ q2 := (fp_o.nf oc o2 (by simp))
    have ne_65 : qc ≠ q2 := (Ne.symm n3)
    have ne_66 : dq ≠ q2 := (fp_o.nf od o2 (by simp))
    have Y : fp_H D b n A (va_up f q2 (aI g 16 (q_wr z1 z2 x (nI kf) (q_cr zc z (q_fm (q_at z2 y (nI kf))))))) s.heap H locs := Y
    have oa : fp_o b n (va_up f q2 (aI g 16 (q_wr z1 z2 x (nI kf) (q_cr zc z (q_fm (q_at z2 y (nI kf))))))) a (ob 7 [.ref fo, .ref co, .ref qa, .int ac, .ref qt, .int tc, .ref kq, .int po, .int dr]) := fp_o.ne oa ne_61
    have of : fp_o b n (va_up f q2 (aI g 16 (q_wr z1 z2 x (nI kf) (q_cr zc z (q_fm (q_at z2 y (nI kf))))))) fo (ob 4 [.ref q1, .ref q2, .int (nI kf)]) := fp_o.ne of ne_62
    have o1 : fp_o b n (va_up f q2 (aI g 16 (q_wr z1 z2 x (nI kf) (q_cr zc z (q_fm (q_at z2 y (nI kf))))))) q1 (aI g 16 z1) := fp_o.ne o1 ne_63
    have oc : fp_o b n (va_up f q2 (aI g 16 (q_wr z1 z2 x (nI kf) (q_cr zc z (q_fm (q_at z2 y (nI kf))))))) co (ob 1 [.ref qc]) := fp_o.ne oc ne_64
    have oqc : fp_o b n (va_up f q2 (aI g 16 (q_wr z1 z2 x (nI kf) (q_cr zc z (q_fm (q_at z2 y (nI kf))))))) qc (aI g 64 zc) := fp_o.ne oqc ne_65
    have od : fp_o b n (va_up f q2 (aI g 16 (q_wr z1 z2 x (nI kf) (q_cr zc z (q_fm (q_at z2 y (nI kf))))))) dq (ob 2 [.int (nI 8), .int x, .int y, .int z]) := fp_o.ne od ne_66
    have o2 : fp_o b n (va_up f q2 (aI g 16 (q_wr z1 z2 x (nI kf) (q_cr zc z (q_fm (q_at z2 y (nI kf))))))) q2 (aI g 16 (q_wr z1 z2 x (nI kf) (q_cr zc z (q_fm (q_at z2 y (nI kf)))))) := fp_o.up o2
    refine W.eq (g2 := F0 m 261 ls []) rfl ?_
    refine lv_goto (tgt := 264) hx hb d_X_doOne_261 (by decide) ?_
    exact ret _ _ _ _ _ d_X_doOne_264 ⟨rfl, by simp only [q_put, q_do]; rw [va_up_same oqc.2.2, va_up_same oa.2.2]⟩ Y
set_option maxHeartbeats 4000000 in
set_option maxRecDepth 100000 in
theorem c_X_doAction {l : Launch} {D : va_G} {g : Nat → ClassId} {b n : Nat} {A : Nat → Prop} {f : Nat → va_E} {a fo co qa qt kq acn : Nat} {tc po dr : Int32} {q1 q2 kf : Nat} {z1 z2 : Nat → Int32} {qc : Nat} {zc : Nat → Int32} {ax dq aj dn : Nat} {za zd : Nat → Option Nat} {da dk : Nat → Nat} {dx dy dz : Nat → Int32} (i1 i2 : Int32) (hk : kf ≤ 16) (haj : aj < acn) (hac : acn ≤ 16) (hza : za aj = some ax) (hdn : dn ≤ 4) (hz : ∀ i : Nat, i < dn → zd i = some (da i)) (hdk : ∀ i : Nat, i < dn → dk i < 9) (oa : fp_o b n f a (ob 7 [.ref fo, .ref co, .ref qa, .int (nI acn), .ref qt, .int tc, .ref kq, .int po, .int dr])) (of : fp_o b n f fo (ob 4 [.ref q1, .ref q2, .int (nI kf)])) (o1 : fp_o b n f q1 (aI g 16 z1)) (o2 : fp_o b n f q2 (aI g 16 z2)) (oc : fp_o b n f co (ob 1 [.ref qc])) (oqc : fp_o b n f qc (aI g 64 zc)) (oqa : fp_o b n f qa (aR g 1 16 za)) (oax : fp_o b n f ax (ob 0 [.ref dq, .int (nI dn)])) (odq : fp_o b n f dq (aR g 2 4 zd)) (hd : ∀ i9 : Nat, i9 < dn → fp_o b n f (da i9) (ob 2 [.int (nI (dk i9)), .int (dx i9), .int (dy i9), .int (dz i9)])) (hne : q1 ≠ q2) (n2 : q1 ≠ qc) (n3 : q2 ≠ qc) (hA : fp_W b n A := by assumption) : fp_M l D (TY g) b n A y_X_doAction (fp_ws y_X_doAction b_X_doAction 6 none) (rmD 4) [.ref a, .int (nI aj), .int i1, .int i2] f (fun v f' => v = none ∧ f' = q_put g f q2 qc a fo co qa qt kq (nI acn) tc (q_run (nI kf) z1 dk dx dy dz i1 i2 (z2, zc, po, dr) dn)) := by
  refine fp_ofV (plainFor_of_name (by decide)) (Nat.le_of_ble_eq_true rfl) ?_
  intro p e s m args below meth c Q ls H locs X Y hl ret
  have hx := X.1.1
  have hb := X.1.2.1
  have hl : lv_has ls 6 [(0, .ref a), (1, .int (nI aj)), (2, .int i1), (3, .int i2)] := hl
  refine lv_aload_n hx hb d_X_doAction_0 rfl (lv_at hl 0 rfl) ?_
  refine lv_iload_n hx hb d_X_doAction_1 rfl (lv_at hl 1 rfl) ?_
  refine fp_callV (nA := 1) (As := [.int (nI aj)]) (rest := []) X Y (c_X_isAction (nI aj) oa) oa rfl w465 w462 w464 wp4 w1 (by decide +kernel) ⟨rfl, rfl⟩ ⟨Nat.le_of_ble_eq_true rfl, Nat.le_of_ble_eq_true rfl⟩ rfl hl.1 rfl (Nat.le_of_ble_eq_true rfl) d_X_doAction_2 ⟨Nat.zero_le _, Nat.zero_le _⟩ (fun v9 f9 H locs hp9 Y => ?_)
  obtain ⟨e8, e9⟩ := hp9
  subst e8
  rw [e9] at Y
  refine W.eq (g2 := F0 m 5 ls [.int (q_in (nI aj) (nI acn))]) rfl ?_
  refine lv_if_ne (tgt := 9) hx hb d_X_doAction_5 (by decide) (fun c_5 => ?_) (fun c_5 => absurd c_5 (by rw [q_in_lt haj (by omega)]; decide))
  refine lv_aload_n hx hb d_X_doAction_9 rfl (lv_at hl 0 rfl) ?_
  refine fp_get X Y oa rfl in_X 2 (by decide) w193 rfl d_X_doAction_10 ?_
  refine lv_iload_n hx hb d_X_doAction_13 rfl (lv_at hl 1 rfl) ?_
  refine fp_ald 1 rfl X Y oqa aj rfl (by omega) (by decide) hza d_X_doAction_14 ?_
  refine lv_astore (lv' := [(4, .ref ax), (0, .ref a), (1, .int (nI aj)), (2, .int i1), (3, .int i2)]) hx hb d_X_doAction_15 hl (by decide) rfl (fun ls hl => ?_)
  refine lv_iconst (v := 0) hx hb d_X_doAction_17 (by decide) ?_
  refine lv_istore (lv' := [(5, .int 0), (4, .ref ax), (0, .ref a), (1, .int (nI aj)), (2, .int i1), (3, .int i2)]) hx hb d_X_doAction_18 hl (by decide) rfl (fun ls hl => ?_)
  have loop : ∀ (k i : Nat), k + i = dn → ∀ (H : Heap) (locs : List Loc), fp_H D b n A (q_put g f q2 qc a fo co qa qt kq (nI acn) tc (q_run (nI kf) z1 dk dx dy dz i1 i2 (z2, zc, po, dr) i)) s.heap H locs → ∀ (ls : Array Slot), lv_has ls 6 [(5, .int (nI i)), (4, .ref ax), (3, .int i2), (2, .int i1), (1, .int (nI aj)), (0, .ref a)] → W p l e (rmD 4) s m args below meth c H locs 0 0 Q (F0 m 20 ls []) := by
    intro k
    induction k with
    | zero =>
      intro i hi H locs Y ls hl
      have e0 : i = dn := by omega
      rw [e0] at Y hl
      have n4 : q2 ≠ a := fp_o.nf o2 oa (by simp)
      have n5 : qc ≠ a := fp_o.nf oqc oa (by simp)
      have Y9 := Y
      have ne_1 : a ≠ q2 := (fp_o.nf oa o2 (by simp))
      have ne_2 : fo ≠ q2 := (fp_o.nf of o2 (by simp))
      have ne_3 : q1 ≠ q2 := hne
      have ne_4 : co ≠ q2 := (fp_o.nf oc o2 (by simp))
      have ne_5 : qc ≠ q2 := (Ne.symm n3)
      have ne_6 : qa ≠ q2 := (fp_o.nf oqa o2 (by simp))
      have ne_7 : ax ≠ q2 := (fp_o.nf oax o2 (by simp))
      have ne_8 : dq ≠ q2 := (fp_o.nf odq o2 (by simp))
      have oa : fp_o b n (va_up f q2 (aI g 16 (q_run (nI kf) z1 dk dx dy dz i1 i2 (z2, zc, po, dr) dn).1)) a (ob 7 [.ref fo, .ref co, .ref qa, .int (nI acn), .ref qt, .int tc, .ref kq, .int po, .int dr]) := fp_o.ne oa ne_1
      have of : fp_o b n (va_up f q2 (aI g 16 (q_run (nI kf) z1 dk dx dy dz i1 i2 (z2, zc, po, dr) dn).1)) fo (ob 4 [.ref q1, .ref q2, .int (nI kf)]) := fp_o.ne of ne_2
      have o1 : fp_o b n (va_up f q2 (aI g 16 (q_run (nI kf) z1 dk dx dy dz i1 i2 (z2, zc, po, dr) dn).1)) q1 (aI g 16 z1) := fp_o.ne o1 ne_3
      have oc : fp_o b n (va_up f q2 (aI g 16 (q_run (nI kf) z1 dk dx dy dz i1 i2 (z2, zc, po, dr) dn).1)) co (ob 1 [.ref qc]) := fp_o.ne oc ne_4
      have oqc : fp_o b n (va_up f q2 (aI g 16 (q_run (nI kf) z1 dk dx dy dz i1 i2 (z2, zc, po, dr) dn).1)) qc (aI g 64 zc) := fp_o.ne oqc ne_5
      have oqa : fp_o b n (va_up f q2 (aI g 16 (q_run (nI kf) z1 dk dx dy dz i1 i2 (z2, zc, po, dr) dn).1)) qa (aR g 1 16 za) := fp_o.ne oqa ne_6
      have oax : fp_o b n (va_up f q2 (aI g 16 (q_run (nI kf) z1 dk dx dy dz i1 i2 (z2, zc, po, dr) dn).1)) ax (ob 0 [.ref dq, .int (nI dn)]) := fp_o.ne oax ne_7
      have odq : fp_o b n (va_up f q2 (aI g 16 (q_run (nI kf) z1 dk dx dy dz i1 i2 (z2, zc, po, dr) dn).1)) dq (aR g 2 4 zd) := fp_o.ne odq ne_8
      have hd : ∀ i9 : Nat, i9 < dn → fp_o b n (va_up f q2 (aI g 16 (q_run (nI kf) z1 dk dx dy dz i1 i2 (z2, zc, po, dr) dn).1)) (da i9) (ob 2 [.int (nI (dk i9)), .int (dx i9), .int (dy i9), .int (dz i9)]) := fun i9 hi9 => fp_o.ne (hd i9 hi9) (fp_o.nf (hd i9 hi9) o2 (by simp))
      have o2 : fp_o b n (va_up f q2 (aI g 16 (q_run (nI kf) z1 dk dx dy dz i1 i2 (z2, zc, po, dr) dn).1)) q2 (aI g 16 (q_run (nI kf) z1 dk dx dy dz i1 i2 (z2, zc, po, dr) dn).1) := fp_o.up o2
      have ne_9 : a ≠ qc := (fp_o.nf oa oqc (by simp))
      have ne_10 : fo ≠ qc := (fp_o.nf of oqc (by simp))
      have ne_11 : q1 ≠ qc := n2
      have ne_12 : q2 ≠ qc := n3
      have ne_13 : co ≠ qc := (fp_o.nf oc oqc (by simp))
      have ne_14 : qa ≠ qc := (fp_o.nf oqa oqc (by simp))
      have ne_15 : ax ≠ qc := (fp_o.nf oax oqc (by simp))
      have ne_16 : dq ≠ qc := (fp_o.nf odq oqc (by simp))
      have oa : fp_o b n (va_up (va_up f q2 (aI g 16 (q_run (nI kf) z1 dk dx dy dz i1 i2 (z2, zc, po, dr) dn).1)) qc (aI g 64 (q_run (nI kf) z1 dk dx dy dz i1 i2 (z2, zc, po, dr) dn).2.1)) a (ob 7 [.ref fo, .ref co, .ref qa, .int (nI acn), .ref qt, .int tc, .ref kq, .int po, .int dr]) := fp_o.ne oa ne_9
      have of : fp_o b n (va_up (va_up f q2 (aI g 16 (q_run (nI kf) z1 dk dx dy dz i1 i2 (z2, zc, po, dr) dn).1)) qc (aI g 64 (q_run (nI kf) z1 dk dx dy dz i1 i2 (z2, zc, po, dr) dn).2.1)) fo (ob 4 [.ref q1, .ref q2, .int (nI kf)]) := fp_o.ne of ne_10
      have o1 : fp_o b n (va_up (va_up f q2 (aI g 16 (q_run (nI kf) z1 dk dx dy dz i1 i2 (z2, zc, po, dr) dn).1)) qc (aI g 64 (q_run (nI kf) z1 dk dx dy dz i1 i2 (z2, zc, po, dr) dn).2.1)) q1 (aI g 16 z1) := fp_o.ne o1 ne_11
      have o2 : fp_o b n (va_up (va_up f q2 (aI g 16 (q_run (nI kf) z1 dk dx dy dz i1 i2 (z2, zc, po, dr) dn).1)) qc (aI g 64 (q_run (nI kf) z1 dk dx dy dz i1 i2 (z2, zc, po, dr) dn).2.1)) q2 (aI g 16 ((q_run (nI kf) z1 dk dx dy dz i1 i2 (z2, zc, po, dr) dn).1)) := fp_o.ne o2 ne_12
      have oc : fp_o b n (va_up (va_up f q2 (aI g 16 (q_run (nI kf) z1 dk dx dy dz i1 i2 (z2, zc, po, dr) dn).1)) qc (aI g 64 (q_run (nI kf) z1 dk dx dy dz i1 i2 (z2, zc, po, dr) dn).2.1)) co (ob 1 [.ref qc]) := fp_o.ne oc ne_13
      have oqa : fp_o b n (va_up (va_up f q2 (aI g 16 (q_run (nI kf) z1 dk dx dy dz i1 i2 (z2, zc, po, dr) dn).1)) qc (aI g 64 (q_run (nI kf) z1 dk dx dy dz i1 i2 (z2, zc, po, dr) dn).2.1)) qa (aR g 1 16 za) := fp_o.ne oqa ne_14
      have oax : fp_o b n (va_up (va_up f q2 (aI g 16 (q_run (nI kf) z1 dk dx dy dz i1 i2 (z2, zc, po, dr) dn).1)) qc (aI g 64 (q_run (nI kf) z1 dk dx dy dz i1 i2 (z2, zc, po, dr) dn).2.1)) ax (ob 0 [.ref dq, .int (nI dn)]) := fp_o.ne oax ne_15
      have odq : fp_o b n (va_up (va_up f q2 (aI g 16 (q_run (nI kf) z1 dk dx dy dz i1 i2 (z2, zc, po, dr) dn).1)) qc (aI g 64 (q_run (nI kf) z1 dk dx dy dz i1 i2 (z2, zc, po, dr) dn).2.1)) dq (aR g 2 4 zd) := fp_o.ne odq ne_16
      have hd : ∀ i9 : Nat, i9 < dn → fp_o b n (va_up (va_up f q2 (aI g 16 (q_run (nI kf) z1 dk dx dy dz i1 i2 (z2, zc, po, dr) dn).1)) qc (aI g 64 (q_run (nI kf) z1 dk dx dy dz i1 i2 (z2, zc, po, dr) dn).2.1)) (da i9) (ob 2 [.int (nI (dk i9)), .int (dx i9), .int (dy i9), .int (dz i9)]) := fun i9 hi9 => fp_o.ne (hd i9 hi9) (fp_o.nf (hd i9 hi9) oqc (by simp))
      have oqc : fp_o b n (va_up (va_up f q2 (aI g 16 (q_run (nI kf) z1 dk dx dy dz i1 i2 (z2, zc, po, dr) dn).1)) qc (aI g 64 (q_run (nI kf) z1 dk dx dy dz i1 i2 (z2, zc, po, dr) dn).2.1)) qc (aI g 64 (q_run (nI kf) z1 dk dx dy dz i1 i2 (z2, zc, po, dr) dn).2.1) := fp_o.up oqc
      have ne_17 : fo ≠ a := (fp_o.nf of oa (by simp))
      have ne_18 : q1 ≠ a := (fp_o.nf o1 oa (by simp))
      have ne_19 : q2 ≠ a := (fp_o.nf o2 oa (by simp))
      have ne_20 : co ≠ a := (fp_o.nf oc oa (by simp))
      have ne_21 : qc ≠ a := (fp_o.nf oqc oa (by simp))
      have ne_22 : qa ≠ a := (fp_o.nf oqa oa (by simp))
      have ne_23 : ax ≠ a := (fp_o.nf oax oa (by simp))
      have ne_24 : dq ≠ a := (fp_o.nf odq oa (by simp))
      have of : fp_o b n (va_up (va_up (va_up f q2 (aI g 16 (q_run (nI kf) z1 dk dx dy dz i1 i2 (z2, zc, po, dr) dn).1)) qc (aI g 64 (q_run (nI kf) z1 dk dx dy dz i1 i2 (z2, zc, po, dr) dn).2.1)) a (ob 7 [.ref fo, .ref co, .ref qa, .int (nI acn), .ref qt, .int tc, .ref kq, .int ((q_run (nI kf) z1 dk dx dy dz i1 i2 (z2, zc, po, dr) dn).2.2.1), .int ((q_run (nI kf) z1 dk dx dy dz i1 i2 (z2, zc, po, dr) dn).2.2.2)])) fo (ob 4 [.ref q1, .ref q2, .int (nI kf)]) := fp_o.ne of ne_17
      have o1 : fp_o b n (va_up (va_up (va_up f q2 (aI g 16 (q_run (nI kf) z1 dk dx dy dz i1 i2 (z2, zc, po, dr) dn).1)) qc (aI g 64 (q_run (nI kf) z1 dk dx dy dz i1 i2 (z2, zc, po, dr) dn).2.1)) a (ob 7 [.ref fo, .ref co, .ref qa, .int (nI acn), .ref qt, .int tc, .ref kq, .int ((q_run (nI kf) z1 dk dx dy dz i1 i2 (z2, zc, po, dr) dn).2.2.1), .int ((q_run (nI kf) z1 dk dx dy dz i1 i2 (z2, zc, po, dr) dn).2.2.2)])) q1 (aI g 16 z1) := fp_o.ne o1 ne_18
      have o2 : fp_o b n (va_up (va_up (va_up f q2 (aI g 16 (q_run (nI kf) z1 dk dx dy dz i1 i2 (z2, zc, po, dr) dn).1)) qc (aI g 64 (q_run (nI kf) z1 dk dx dy dz i1 i2 (z2, zc, po, dr) dn).2.1)) a (ob 7 [.ref fo, .ref co, .ref qa, .int (nI acn), .ref qt, .int tc, .ref kq, .int ((q_run (nI kf) z1 dk dx dy dz i1 i2 (z2, zc, po, dr) dn).2.2.1), .int ((q_run (nI kf) z1 dk dx dy dz i1 i2 (z2, zc, po, dr) dn).2.2.2)])) q2 (aI g 16 ((q_run (nI kf) z1 dk dx dy dz i1 i2 (z2, zc, po, dr) dn).1)) := fp_o.ne o2 ne_19
      have oc : fp_o b n (va_up (va_up (va_up f q2 (aI g 16 (q_run (nI kf) z1 dk dx dy dz i1 i2 (z2, zc, po, dr) dn).1)) qc (aI g 64 (q_run (nI kf) z1 dk dx dy dz i1 i2 (z2, zc, po, dr) dn).2.1)) a (ob 7 [.ref fo, .ref co, .ref qa, .int (nI acn), .ref qt, .int tc, .ref kq, .int ((q_run (nI kf) z1 dk dx dy dz i1 i2 (z2, zc, po, dr) dn).2.2.1), .int ((q_run (nI kf) z1 dk dx dy dz i1 i2 (z2, zc, po, dr) dn).2.2.2)])) co (ob 1 [.ref qc]) := fp_o.ne oc ne_20
      have oqc : fp_o b n (va_up (va_up (va_up f q2 (aI g 16 (q_run (nI kf) z1 dk dx dy dz i1 i2 (z2, zc, po, dr) dn).1)) qc (aI g 64 (q_run (nI kf) z1 dk dx dy dz i1 i2 (z2, zc, po, dr) dn).2.1)) a (ob 7 [.ref fo, .ref co, .ref qa, .int (nI acn), .ref qt, .int tc, .ref kq, .int ((q_run (nI kf) z1 dk dx dy dz i1 i2 (z2, zc, po, dr) dn).2.2.1), .int ((q_run (nI kf) z1 dk dx dy dz i1 i2 (z2, zc, po, dr) dn).2.2.2)])) qc (aI g 64 ((q_run (nI kf) z1 dk dx dy dz i1 i2 (z2, zc, po, dr) dn).2.1)) := fp_o.ne oqc ne_21
      have oqa : fp_o b n (va_up (va_up (va_up f q2 (aI g 16 (q_run (nI kf) z1 dk dx dy dz i1 i2 (z2, zc, po, dr) dn).1)) qc (aI g 64 (q_run (nI kf) z1 dk dx dy dz i1 i2 (z2, zc, po, dr) dn).2.1)) a (ob 7 [.ref fo, .ref co, .ref qa, .int (nI acn), .ref qt, .int tc, .ref kq, .int ((q_run (nI kf) z1 dk dx dy dz i1 i2 (z2, zc, po, dr) dn).2.2.1), .int ((q_run (nI kf) z1 dk dx dy dz i1 i2 (z2, zc, po, dr) dn).2.2.2)])) qa (aR g 1 16 za) := fp_o.ne oqa ne_22
      have oax : fp_o b n (va_up (va_up (va_up f q2 (aI g 16 (q_run (nI kf) z1 dk dx dy dz i1 i2 (z2, zc, po, dr) dn).1)) qc (aI g 64 (q_run (nI kf) z1 dk dx dy dz i1 i2 (z2, zc, po, dr) dn).2.1)) a (ob 7 [.ref fo, .ref co, .ref qa, .int (nI acn), .ref qt, .int tc, .ref kq, .int ((q_run (nI kf) z1 dk dx dy dz i1 i2 (z2, zc, po, dr) dn).2.2.1), .int ((q_run (nI kf) z1 dk dx dy dz i1 i2 (z2, zc, po, dr) dn).2.2.2)])) ax (ob 0 [.ref dq, .int (nI dn)]) := fp_o.ne oax ne_23
      have odq : fp_o b n (va_up (va_up (va_up f q2 (aI g 16 (q_run (nI kf) z1 dk dx dy dz i1 i2 (z2, zc, po, dr) dn).1)) qc (aI g 64 (q_run (nI kf) z1 dk dx dy dz i1 i2 (z2, zc, po, dr) dn).2.1)) a (ob 7 [.ref fo, .ref co, .ref qa, .int (nI acn), .ref qt, .int tc, .ref kq, .int ((q_run (nI kf) z1 dk dx dy dz i1 i2 (z2, zc, po, dr) dn).2.2.1), .int ((q_run (nI kf) z1 dk dx dy dz i1 i2 (z2, zc, po, dr) dn).2.2.2)])) dq (aR g 2 4 zd) := fp_o.ne odq ne_24
      have hd : ∀ i9 : Nat, i9 < dn → fp_o b n (va_up (va_up (va_up f q2 (aI g 16 (q_run (nI kf) z1 dk dx dy dz i1 i2 (z2, zc, po, dr) dn).1)) qc (aI g 64 (q_run (nI kf) z1 dk dx dy dz i1 i2 (z2, zc, po, dr) dn).2.1)) a (ob 7 [.ref fo, .ref co, .ref qa, .int (nI acn), .ref qt, .int tc, .ref kq, .int ((q_run (nI kf) z1 dk dx dy dz i1 i2 (z2, zc, po, dr) dn).2.2.1), .int ((q_run (nI kf) z1 dk dx dy dz i1 i2 (z2, zc, po, dr) dn).2.2.2)])) (da i9) (ob 2 [.int (nI (dk i9)), .int (dx i9), .int (dy i9), .int (dz i9)]) := fun i9 hi9 => fp_o.ne (hd i9 hi9) (fp_o.nf (hd i9 hi9) oa (by simp))
      have oa : fp_o b n (va_up (va_up (va_up f q2 (aI g 16 (q_run (nI kf) z1 dk dx dy dz i1 i2 (z2, zc, po, dr) dn).1)) qc (aI g 64 (q_run (nI kf) z1 dk dx dy dz i1 i2 (z2, zc, po, dr) dn).2.1)) a (ob 7 [.ref fo, .ref co, .ref qa, .int (nI acn), .ref qt, .int tc, .ref kq, .int ((q_run (nI kf) z1 dk dx dy dz i1 i2 (z2, zc, po, dr) dn).2.2.1), .int ((q_run (nI kf) z1 dk dx dy dz i1 i2 (z2, zc, po, dr) dn).2.2.2)])) a (ob 7 [.ref fo, .ref co, .ref qa, .int (nI acn), .ref qt, .int tc, .ref kq, .int ((q_run (nI kf) z1 dk dx dy dz i1 i2 (z2, zc, po, dr) dn).2.2.1), .int ((q_run (nI kf) z1 dk dx dy dz i1 i2 (z2, zc, po, dr) dn).2.2.2)]) := fp_o.up oa
      have Y : fp_H D b n A (va_up (va_up (va_up f q2 (aI g 16 (q_run (nI kf) z1 dk dx dy dz i1 i2 (z2, zc, po, dr) dn).1)) qc (aI g 64 (q_run (nI kf) z1 dk dx dy dz i1 i2 (z2, zc, po, dr) dn).2.1)) a (ob 7 [.ref fo, .ref co, .ref qa, .int (nI acn), .ref qt, .int tc, .ref kq, .int ((q_run (nI kf) z1 dk dx dy dz i1 i2 (z2, zc, po, dr) dn).2.2.1), .int ((q_run (nI kf) z1 dk dx dy dz i1 i2 (z2, zc, po, dr) dn).2.2.2)])) s.heap H locs := Y9
      refine lv_iload hx hb d_X_doAction_20 (lv_at hl 0 rfl) ?_
      refine lv_aload hx hb d_X_doAction_22 (lv_at hl 1 rfl) ?_
      refine fp_getN X Y oax rfl in_A 1 (by decide) nw113 rfl d_X_doAction_24 ?_
      refine lv_icmp_ge (tgt := 56) hx hb d_X_doAction_27 (by decide) (fun c_27 => ?_) (fun c_27 => absurd (Int32.le_refl _) c_27)
      exact ret _ _ _ _ _ d_X_doAction_56 ⟨rfl, rfl⟩ Y
    | succ k ih =>
      intro i hi H locs Y ls hl
      have n4 : q2 ≠ a := fp_o.nf o2 oa (by simp)
      have n5 : qc ≠ a := fp_o.nf oqc oa (by simp)
      have Y9 := Y
      have ne_25 : a ≠ q2 := (fp_o.nf oa o2 (by simp))
      have ne_26 : fo ≠ q2 := (fp_o.nf of o2 (by simp))
      have ne_27 : q1 ≠ q2 := hne
      have ne_28 : co ≠ q2 := (fp_o.nf oc o2 (by simp))
      have ne_29 : qc ≠ q2 := (Ne.symm n3)
      have ne_30 : qa ≠ q2 := (fp_o.nf oqa o2 (by simp))
      have ne_31 : ax ≠ q2 := (fp_o.nf oax o2 (by simp))
      have ne_32 : dq ≠ q2 := (fp_o.nf odq o2 (by simp))
      have oa : fp_o b n (va_up f q2 (aI g 16 (q_run (nI kf) z1 dk dx dy dz i1 i2 (z2, zc, po, dr) i).1)) a (ob 7 [.ref fo, .ref co, .ref qa, .int (nI acn), .ref qt, .int tc, .ref kq, .int po, .int dr]) := fp_o.ne oa ne_25
      have of : fp_o b n (va_up f q2 (aI g 16 (q_run (nI kf) z1 dk dx dy dz i1 i2 (z2, zc, po, dr) i).1)) fo (ob 4 [.ref q1, .ref q2, .int (nI kf)]) := fp_o.ne of ne_26
      have o1 : fp_o b n (va_up f q2 (aI g 16 (q_run (nI kf) z1 dk dx dy dz i1 i2 (z2, zc, po, dr) i).1)) q1 (aI g 16 z1) := fp_o.ne o1 ne_27
      have oc : fp_o b n (va_up f q2 (aI g 16 (q_run (nI kf) z1 dk dx dy dz i1 i2 (z2, zc, po, dr) i).1)) co (ob 1 [.ref qc]) := fp_o.ne oc ne_28
      have oqc : fp_o b n (va_up f q2 (aI g 16 (q_run (nI kf) z1 dk dx dy dz i1 i2 (z2, zc, po, dr) i).1)) qc (aI g 64 zc) := fp_o.ne oqc ne_29
      have oqa : fp_o b n (va_up f q2 (aI g 16 (q_run (nI kf) z1 dk dx dy dz i1 i2 (z2, zc, po, dr) i).1)) qa (aR g 1 16 za) := fp_o.ne oqa ne_30
      have oax : fp_o b n (va_up f q2 (aI g 16 (q_run (nI kf) z1 dk dx dy dz i1 i2 (z2, zc, po, dr) i).1)) ax (ob 0 [.ref dq, .int (nI dn)]) := fp_o.ne oax ne_31
      have odq : fp_o b n (va_up f q2 (aI g 16 (q_run (nI kf) z1 dk dx dy dz i1 i2 (z2, zc, po, dr) i).1)) dq (aR g 2 4 zd) := fp_o.ne odq ne_32
      have hd : ∀ i9 : Nat, i9 < dn → fp_o b n (va_up f q2 (aI g 16 (q_run (nI kf) z1 dk dx dy dz i1 i2 (z2, zc, po, dr) i).1)) (da i9) (ob 2 [.int (nI (dk i9)), .int (dx i9), .int (dy i9), .int (dz i9)]) := fun i9 hi9 => fp_o.ne (hd i9 hi9) (fp_o.nf (hd i9 hi9) o2 (by simp))
      have o2 : fp_o b n (va_up f q2 (aI g 16 (q_run (nI kf) z1 dk dx dy dz i1 i2 (z2, zc, po, dr) i).1)) q2 (aI g 16 (q_run (nI kf) z1 dk dx dy dz i1 i2 (z2, zc, po, dr) i).1) := fp_o.up o2
      have ne_33 : a ≠ qc := (fp_o.nf oa oqc (by simp))
      have ne_34 : fo ≠ qc := (fp_o.nf of oqc (by simp))
      have ne_35 : q1 ≠ qc := n2
      have ne_36 : q2 ≠ qc := n3
      have ne_37 : co ≠ qc := (fp_o.nf oc oqc (by simp))
      have ne_38 : qa ≠ qc := (fp_o.nf oqa oqc (by simp))
      have ne_39 : ax ≠ qc := (fp_o.nf oax oqc (by simp))
      have ne_40 : dq ≠ qc := (fp_o.nf odq oqc (by simp))
      have oa : fp_o b n (va_up (va_up f q2 (aI g 16 (q_run (nI kf) z1 dk dx dy dz i1 i2 (z2, zc, po, dr) i).1)) qc (aI g 64 (q_run (nI kf) z1 dk dx dy dz i1 i2 (z2, zc, po, dr) i).2.1)) a (ob 7 [.ref fo, .ref co, .ref qa, .int (nI acn), .ref qt, .int tc, .ref kq, .int po, .int dr]) := fp_o.ne oa ne_33
      have of : fp_o b n (va_up (va_up f q2 (aI g 16 (q_run (nI kf) z1 dk dx dy dz i1 i2 (z2, zc, po, dr) i).1)) qc (aI g 64 (q_run (nI kf) z1 dk dx dy dz i1 i2 (z2, zc, po, dr) i).2.1)) fo (ob 4 [.ref q1, .ref q2, .int (nI kf)]) := fp_o.ne of ne_34
      have o1 : fp_o b n (va_up (va_up f q2 (aI g 16 (q_run (nI kf) z1 dk dx dy dz i1 i2 (z2, zc, po, dr) i).1)) qc (aI g 64 (q_run (nI kf) z1 dk dx dy dz i1 i2 (z2, zc, po, dr) i).2.1)) q1 (aI g 16 z1) := fp_o.ne o1 ne_35
      have o2 : fp_o b n (va_up (va_up f q2 (aI g 16 (q_run (nI kf) z1 dk dx dy dz i1 i2 (z2, zc, po, dr) i).1)) qc (aI g 64 (q_run (nI kf) z1 dk dx dy dz i1 i2 (z2, zc, po, dr) i).2.1)) q2 (aI g 16 ((q_run (nI kf) z1 dk dx dy dz i1 i2 (z2, zc, po, dr) i).1)) := fp_o.ne o2 ne_36
      have oc : fp_o b n (va_up (va_up f q2 (aI g 16 (q_run (nI kf) z1 dk dx dy dz i1 i2 (z2, zc, po, dr) i).1)) qc (aI g 64 (q_run (nI kf) z1 dk dx dy dz i1 i2 (z2, zc, po, dr) i).2.1)) co (ob 1 [.ref qc]) := fp_o.ne oc ne_37
      have oqa : fp_o b n (va_up (va_up f q2 (aI g 16 (q_run (nI kf) z1 dk dx dy dz i1 i2 (z2, zc, po, dr) i).1)) qc (aI g 64 (q_run (nI kf) z1 dk dx dy dz i1 i2 (z2, zc, po, dr) i).2.1)) qa (aR g 1 16 za) := fp_o.ne oqa ne_38
      have oax : fp_o b n (va_up (va_up f q2 (aI g 16 (q_run (nI kf) z1 dk dx dy dz i1 i2 (z2, zc, po, dr) i).1)) qc (aI g 64 (q_run (nI kf) z1 dk dx dy dz i1 i2 (z2, zc, po, dr) i).2.1)) ax (ob 0 [.ref dq, .int (nI dn)]) := fp_o.ne oax ne_39
      have odq : fp_o b n (va_up (va_up f q2 (aI g 16 (q_run (nI kf) z1 dk dx dy dz i1 i2 (z2, zc, po, dr) i).1)) qc (aI g 64 (q_run (nI kf) z1 dk dx dy dz i1 i2 (z2, zc, po, dr) i).2.1)) dq (aR g 2 4 zd) := fp_o.ne odq ne_40
      have hd : ∀ i9 : Nat, i9 < dn → fp_o b n (va_up (va_up f q2 (aI g 16 (q_run (nI kf) z1 dk dx dy dz i1 i2 (z2, zc, po, dr) i).1)) qc (aI g 64 (q_run (nI kf) z1 dk dx dy dz i1 i2 (z2, zc, po, dr) i).2.1)) (da i9) (ob 2 [.int (nI (dk i9)), .int (dx i9), .int (dy i9), .int (dz i9)]) := fun i9 hi9 => fp_o.ne (hd i9 hi9) (fp_o.nf (hd i9 hi9) oqc (by simp))
      have oqc : fp_o b n (va_up (va_up f q2 (aI g 16 (q_run (nI kf) z1 dk dx dy dz i1 i2 (z2, zc, po, dr) i).1)) qc (aI g 64 (q_run (nI kf) z1 dk dx dy dz i1 i2 (z2, zc, po, dr) i).2.1)) qc (aI g 64 (q_run (nI kf) z1 dk dx dy dz i1 i2 (z2, zc, po, dr) i).2.1) := fp_o.up oqc
      have ne_41 : fo ≠ a := (fp_o.nf of oa (by simp))
      have ne_42 : q1 ≠ a := (fp_o.nf o1 oa (by simp))
      have ne_43 : q2 ≠ a := (fp_o.nf o2 oa (by simp))
      have ne_44 : co ≠ a := (fp_o.nf oc oa (by simp))
      have ne_45 : qc ≠ a := (fp_o.nf oqc oa (by simp))
      have ne_46 : qa ≠ a := (fp_o.nf oqa oa (by simp))
      have ne_47 : ax ≠ a := (fp_o.nf oax oa (by simp))
      have ne_48 : dq ≠ a := (fp_o.nf odq oa (by simp))
      have of : fp_o b n (va_up (va_up (va_up f q2 (aI g 16 (q_run (nI kf) z1 dk dx dy dz i1 i2 (z2, zc, po, dr) i).1)) qc (aI g 64 (q_run (nI kf) z1 dk dx dy dz i1 i2 (z2, zc, po, dr) i).2.1)) a (ob 7 [.ref fo, .ref co, .ref qa, .int (nI acn), .ref qt, .int tc, .ref kq, .int ((q_run (nI kf) z1 dk dx dy dz i1 i2 (z2, zc, po, dr) i).2.2.1), .int ((q_run (nI kf) z1 dk dx dy dz i1 i2 (z2, zc, po, dr) i).2.2.2)])) fo (ob 4 [.ref q1, .ref q2, .int (nI kf)]) := fp_o.ne of ne_41
      have o1 : fp_o b n (va_up (va_up (va_up f q2 (aI g 16 (q_run (nI kf) z1 dk dx dy dz i1 i2 (z2, zc, po, dr) i).1)) qc (aI g 64 (q_run (nI kf) z1 dk dx dy dz i1 i2 (z2, zc, po, dr) i).2.1)) a (ob 7 [.ref fo, .ref co, .ref qa, .int (nI acn), .ref qt, .int tc, .ref kq, .int ((q_run (nI kf) z1 dk dx dy dz i1 i2 (z2, zc, po, dr) i).2.2.1), .int ((q_run (nI kf) z1 dk dx dy dz i1 i2 (z2, zc, po, dr) i).2.2.2)])) q1 (aI g 16 z1) := fp_o.ne o1 ne_42
      have o2 : fp_o b n (va_up (va_up (va_up f q2 (aI g 16 (q_run (nI kf) z1 dk dx dy dz i1 i2 (z2, zc, po, dr) i).1)) qc (aI g 64 (q_run (nI kf) z1 dk dx dy dz i1 i2 (z2, zc, po, dr) i).2.1)) a (ob 7 [.ref fo, .ref co, .ref qa, .int (nI acn), .ref qt, .int tc, .ref kq, .int ((q_run (nI kf) z1 dk dx dy dz i1 i2 (z2, zc, po, dr) i).2.2.1), .int ((q_run (nI kf) z1 dk dx dy dz i1 i2 (z2, zc, po, dr) i).2.2.2)])) q2 (aI g 16 ((q_run (nI kf) z1 dk dx dy dz i1 i2 (z2, zc, po, dr) i).1)) := fp_o.ne o2 ne_43
      have oc : fp_o b n (va_up (va_up (va_up f q2 (aI g 16 (q_run (nI kf) z1 dk dx dy dz i1 i2 (z2, zc, po, dr) i).1)) qc (aI g 64 (q_run (nI kf) z1 dk dx dy dz i1 i2 (z2, zc, po, dr) i).2.1)) a (ob 7 [.ref fo, .ref co, .ref qa, .int (nI acn), .ref qt, .int tc, .ref kq, .int ((q_run (nI kf) z1 dk dx dy dz i1 i2 (z2, zc, po, dr) i).2.2.1), .int ((q_run (nI kf) z1 dk dx dy dz i1 i2 (z2, zc, po, dr) i).2.2.2)])) co (ob 1 [.ref qc]) := fp_o.ne oc ne_44
      have oqc : fp_o b n (va_up (va_up (va_up f q2 (aI g 16 (q_run (nI kf) z1 dk dx dy dz i1 i2 (z2, zc, po, dr) i).1)) qc (aI g 64 (q_run (nI kf) z1 dk dx dy dz i1 i2 (z2, zc, po, dr) i).2.1)) a (ob 7 [.ref fo, .ref co, .ref qa, .int (nI acn), .ref qt, .int tc, .ref kq, .int ((q_run (nI kf) z1 dk dx dy dz i1 i2 (z2, zc, po, dr) i).2.2.1), .int ((q_run (nI kf) z1 dk dx dy dz i1 i2 (z2, zc, po, dr) i).2.2.2)])) qc (aI g 64 ((q_run (nI kf) z1 dk dx dy dz i1 i2 (z2, zc, po, dr) i).2.1)) := fp_o.ne oqc ne_45
      have oqa : fp_o b n (va_up (va_up (va_up f q2 (aI g 16 (q_run (nI kf) z1 dk dx dy dz i1 i2 (z2, zc, po, dr) i).1)) qc (aI g 64 (q_run (nI kf) z1 dk dx dy dz i1 i2 (z2, zc, po, dr) i).2.1)) a (ob 7 [.ref fo, .ref co, .ref qa, .int (nI acn), .ref qt, .int tc, .ref kq, .int ((q_run (nI kf) z1 dk dx dy dz i1 i2 (z2, zc, po, dr) i).2.2.1), .int ((q_run (nI kf) z1 dk dx dy dz i1 i2 (z2, zc, po, dr) i).2.2.2)])) qa (aR g 1 16 za) := fp_o.ne oqa ne_46
      have oax : fp_o b n (va_up (va_up (va_up f q2 (aI g 16 (q_run (nI kf) z1 dk dx dy dz i1 i2 (z2, zc, po, dr) i).1)) qc (aI g 64 (q_run (nI kf) z1 dk dx dy dz i1 i2 (z2, zc, po, dr) i).2.1)) a (ob 7 [.ref fo, .ref co, .ref qa, .int (nI acn), .ref qt, .int tc, .ref kq, .int ((q_run (nI kf) z1 dk dx dy dz i1 i2 (z2, zc, po, dr) i).2.2.1), .int ((q_run (nI kf) z1 dk dx dy dz i1 i2 (z2, zc, po, dr) i).2.2.2)])) ax (ob 0 [.ref dq, .int (nI dn)]) := fp_o.ne oax ne_47
      have odq : fp_o b n (va_up (va_up (va_up f q2 (aI g 16 (q_run (nI kf) z1 dk dx dy dz i1 i2 (z2, zc, po, dr) i).1)) qc (aI g 64 (q_run (nI kf) z1 dk dx dy dz i1 i2 (z2, zc, po, dr) i).2.1)) a (ob 7 [.ref fo, .ref co, .ref qa, .int (nI acn), .ref qt, .int tc, .ref kq, .int ((q_run (nI kf) z1 dk dx dy dz i1 i2 (z2, zc, po, dr) i).2.2.1), .int ((q_run (nI kf) z1 dk dx dy dz i1 i2 (z2, zc, po, dr) i).2.2.2)])) dq (aR g 2 4 zd) := fp_o.ne odq ne_48
      have hd : ∀ i9 : Nat, i9 < dn → fp_o b n (va_up (va_up (va_up f q2 (aI g 16 (q_run (nI kf) z1 dk dx dy dz i1 i2 (z2, zc, po, dr) i).1)) qc (aI g 64 (q_run (nI kf) z1 dk dx dy dz i1 i2 (z2, zc, po, dr) i).2.1)) a (ob 7 [.ref fo, .ref co, .ref qa, .int (nI acn), .ref qt, .int tc, .ref kq, .int ((q_run (nI kf) z1 dk dx dy dz i1 i2 (z2, zc, po, dr) i).2.2.1), .int ((q_run (nI kf) z1 dk dx dy dz i1 i2 (z2, zc, po, dr) i).2.2.2)])) (da i9) (ob 2 [.int (nI (dk i9)), .int (dx i9), .int (dy i9), .int (dz i9)]) := fun i9 hi9 => fp_o.ne (hd i9 hi9) (fp_o.nf (hd i9 hi9) oa (by simp))
      have oa : fp_o b n (va_up (va_up (va_up f q2 (aI g 16 (q_run (nI kf) z1 dk dx dy dz i1 i2 (z2, zc, po, dr) i).1)) qc (aI g 64 (q_run (nI kf) z1 dk dx dy dz i1 i2 (z2, zc, po, dr) i).2.1)) a (ob 7 [.ref fo, .ref co, .ref qa, .int (nI acn), .ref qt, .int tc, .ref kq, .int ((q_run (nI kf) z1 dk dx dy dz i1 i2 (z2, zc, po, dr) i).2.2.1), .int ((q_run (nI kf) z1 dk dx dy dz i1 i2 (z2, zc, po, dr) i).2.2.2)])) a (ob 7 [.ref fo, .ref co, .ref qa, .int (nI acn), .ref qt, .int tc, .ref kq, .int ((q_run (nI kf) z1 dk dx dy dz i1 i2 (z2, zc, po, dr) i).2.2.1), .int ((q_run (nI kf) z1 dk dx dy dz i1 i2 (z2, zc, po, dr) i).2.2.2)]) := fp_o.up oa
      have Y : fp_H D b n A (va_up (va_up (va_up f q2 (aI g 16 (q_run (nI kf) z1 dk dx dy dz i1 i2 (z2, zc, po, dr) i).1)) qc (aI g 64 (q_run (nI kf) z1 dk dx dy dz i1 i2 (z2, zc, po, dr) i).2.1)) a (ob 7 [.ref fo, .ref co, .ref qa, .int (nI acn), .ref qt, .int tc, .ref kq, .int ((q_run (nI kf) z1 dk dx dy dz i1 i2 (z2, zc, po, dr) i).2.2.1), .int ((q_run (nI kf) z1 dk dx dy dz i1 i2 (z2, zc, po, dr) i).2.2.2)])) s.heap H locs := Y9
      refine lv_iload hx hb d_X_doAction_20 (lv_at hl 0 rfl) ?_
      refine lv_aload hx hb d_X_doAction_22 (lv_at hl 1 rfl) ?_
      refine fp_getN X Y oax rfl in_A 1 (by decide) nw113 rfl d_X_doAction_24 ?_
      refine lv_icmp_ge (tgt := 56) hx hb d_X_doAction_27 (by decide) (fun c_27 => absurd c_27 (nI_ge (by omega) (by omega))) (fun c_27 => ?_)
      refine lv_iload hx hb d_X_doAction_30 (lv_at hl 0 rfl) ?_
      refine lv_iconst (v := 4) hx hb d_X_doAction_32 (by decide) ?_
      refine lv_icmp_ge (tgt := 56) hx hb d_X_doAction_33 (by decide) (fun c_33 => absurd c_33 (nI_ge (b := 4) (by omega) (by decide))) (fun c_33 => ?_)
      refine lv_aload_n hx hb d_X_doAction_36 rfl (lv_at hl 5 rfl) ?_
      refine lv_aload hx hb d_X_doAction_37 (lv_at hl 1 rfl) ?_
      refine fp_getN X Y oax rfl in_A 0 (by decide) nw111 rfl d_X_doAction_39 ?_
      refine lv_iload hx hb d_X_doAction_42 (lv_at hl 0 rfl) ?_
      have od : fp_o b n (va_up (va_up (va_up f q2 (aI g 16 (q_run (nI kf) z1 dk dx dy dz i1 i2 (z2, zc, po, dr) i).1)) qc (aI g 64 (q_run (nI kf) z1 dk dx dy dz i1 i2 (z2, zc, po, dr) i).2.1)) a (ob 7 [.ref fo, .ref co, .ref qa, .int (nI acn), .ref qt, .int tc, .ref kq, .int ((q_run (nI kf) z1 dk dx dy dz i1 i2 (z2, zc, po, dr) i).2.2.1), .int ((q_run (nI kf) z1 dk dx dy dz i1 i2 (z2, zc, po, dr) i).2.2.2)])) (da i) (ob 2 [.int (nI (dk i)), .int (dx i), .int (dy i), .int (dz i)]) := hd i (by omega)
      refine fp_ald 2 rfl X Y odq i rfl (by omega) (by decide) (hz i (by omega)) d_X_doAction_44 ?_
      refine lv_iload_n hx hb d_X_doAction_45 rfl (lv_at hl 3 rfl) ?_
      refine lv_iload_n hx hb d_X_doAction_46 rfl (lv_at hl 2 rfl) ?_
      refine fp_callV (nA := 3) (As := [.ref (da i), .int i1, .int i2]) (rest := []) X Y (c_X_doOne i1 i2 hk (hdk i (by omega)) oa of o1 o2 oc oqc od hne n2 n3) oa rfl w583 w580 w582 wp13 w1 (by decide +kernel) ⟨rfl, rfl⟩ ⟨Nat.le_of_ble_eq_true rfl, Nat.le_of_ble_eq_true rfl⟩ rfl hl.1 rfl (Nat.le_of_ble_eq_true rfl) d_X_doAction_47 ⟨Nat.zero_le _, Nat.zero_le _⟩ (fun v9 f9 H locs hp9 Y => ?_)
      obtain ⟨e8, e9⟩ := hp9
      subst e8
      rw [e9] at Y
      refine W.eq (g2 := F0 m 50 ls []) rfl ?_
      refine lv_iinc (v := nI (i + 1)) (lv' := [(5, .int (nI (i + 1))), (4, .ref ax), (3, .int i2), (2, .int i1), (1, .int (nI aj)), (0, .ref a)]) hx hb d_X_doAction_50 hl (k := 0) rfl (nI_1 i) (by decide) rfl (fun ls hl => ?_)
      refine lv_goto (tgt := 20) hx hb d_X_doAction_53 (by decide) ?_
      exact ih (i + 1) (by omega) _ _ (by rw [show q_run (nI kf) z1 dk dx dy dz i1 i2 (z2, zc, po, dr) (i + 1) = q_do (nI kf) z1 (dk i) (dx i) (dy i) (dz i) i1 i2 (q_run (nI kf) z1 dk dx dy dz i1 i2 (z2, zc, po, dr) i) from rfl, ← q_put_put n3 (fp_o.nf o2 oa (by simp)) (fp_o.nf oqc oa (by simp))]; exact Y) ls (lv_sub hl [0, 1, 2, 3, 4, 5] rfl)
  exact loop dn 0 (by omega) _ _ (by rw [show q_run (nI kf) z1 dk dx dy dz i1 i2 (z2, zc, po, dr) 0 = (z2, zc, po, dr) from rfl, q_put_0 o2 oqc oa]; exact Y) ls (lv_sub hl [0, 1, 5, 4, 3, 2] rfl)
