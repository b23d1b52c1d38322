/-! The kinds of arrays, the rooms by depth, repeated stores to one cell. -/
abbrev TY (g : Nat → ClassId) : List (ClassId × FieldType) := [(g 0, .int), (g 1, .object "EntryTables$Action"), (g 2, .object "EntryTables$Doing"), (g 3, .object "EntryTables$Entry"), (g 4, .object "EntryTables$Table"), (g 5, .long)]
abbrev aI (g : Nat → ClassId) (N : Nat) (z : Nat → Int32) : va_E := .inl (g 0, N, .inl z)
abbrev aL (g : Nat → ClassId) (N : Nat) (z : Nat → Int64) : va_E := .inl (g 5, N, .inr (.inl z))
abbrev aR (g : Nat → ClassId) (k N : Nat) (z : Nat → Option Nat) : va_E := .inl (g k, N, .inr (.inr (.inr (.inr z))))
abbrev ob (ci : Nat) (fs : List Value) : va_E := .inr (ci, fs)
abbrev rmD (d : Nat) : Room := { frames := d, cells := 0, slots := 0, locals := 40 * d }
theorem fp_o.re {b n : Nat} {f : Nat → va_E} {a x : Nat} {e e1 e2 : va_E} (o : fp_o b n (va_up f a e1) x e) (h : x ≠ a) : fp_o b n (va_up f a e2) x e := ⟨o.1, o.2.1, by rw [va_up_ne _ _ h, ← va_up_ne f e1 h]; exact o.2.2⟩
theorem fp_o.rs {b n : Nat} {f : Nat → va_E} {a : Nat} {e e1 e2 : va_E} (o : fp_o b n (va_up f a e1) a e) : fp_o b n (va_up f a e2) a e2 := ⟨o.1, o.2.1, va_up_self _ _ _⟩
theorem fp_H.re {D : va_G} {b n : Nat} {A : Nat → Prop} {f : Nat → va_E} {a : Nat} {e1 e2 : va_E} {H0 H : Heap} {locs : List Loc} (Y : fp_H D b n A (va_up (va_up f a e1) a e2) H0 H locs) : fp_H D b n A (va_up f a e2) H0 H locs := by rw [bx_uu] at Y; exact Y
theorem va_up_same {f : Nat → va_E} {a : Nat} {e : va_E} (h : f a = e) : va_up f a e = f := by
  funext j
  by_cases hj : j = a
  · subst hj; rw [va_up_self, h]
  · rw [va_up_ne _ _ hj]
section FPA
variable {p : Program} {l : Launch} {e : Env} {R : Room} {s : State} {m : MethodId} {args : Array Value} {below : List Frame} {meth : Method} {c : Code} {H : Heap} {locs : List Loc} {cells slots : Nat} {Q : State → Prop}
variable {cc : ByteArray} {pc nL : Nat} {ls : Array Slot} {rest : List Value} {D : va_G} {a : Nat} {g : Nat → ClassId} {b n : Nat} {A : Nat → Prop} {f : Nat → va_E} {own : String} {N : Nat} {i : Int32}
theorem fp_ild {z : Nat → Int32} (X : fp_X p s m args c cc nL own D (TY g)) (Y : fp_H D b n A f s.heap H locs) (o : fp_o b n f a (aI g N z)) (k : Nat) (hi : i = nI k) (hk : k < N) (hN : N < 2 ^ 31) (hdg : decode cc pc = .ok (.iaload, 1))
    (kk : W p l e R s m args below meth c H locs cells slots Q (F0 m (pc + 1) ls (.int (z k) :: rest))) : W p l e R s m args below meth c H locs cells slots Q (F0 m pc ls (.int i :: .ref a :: rest)) := by
  subst hi
  refine fp_iald X Y o 0 rfl (vp_in_nI hk hN) hdg ?_
  rw [nI_clamp (Nat.lt_trans hk hN)]
  exact kk
theorem fp_ist {z : Nat → Int32} {x : Int32} (X : fp_X p s m args c cc nL own D (TY g)) (Y : fp_H D b n A f s.heap H locs) (o : fp_o b n f a (aI g N z)) (k : Nat) (hi : i = nI k) (hk : k < N) (hN : N < 2 ^ 31) (hdg : decode cc pc = .ok (.iastore, 1))
    (kk : ∀ (H1 : Heap) (locs1 : List Loc), fp_H D b n A (va_up f a (aI g N (upd z k x))) s.heap H1 locs1 → W p l e R s m args below meth c H1 locs1 cells slots Q (F0 m (pc + 1) ls rest)) (hA : fp_W b n A := by assumption) : W p l e R s m args below meth c H locs cells slots Q (F0 m pc ls (.int x :: .int i :: .ref a :: rest)) := by
  subst hi
  refine fp_iast X Y o 0 rfl (vp_in_nI hk hN) hdg (fun H1 locs1 Y1 => ?_)
  rw [nI_clamp (Nat.lt_trans hk hN)] at Y1
  exact kk H1 locs1 Y1
theorem fp_lld {z : Nat → Int64} (X : fp_X p s m args c cc nL own D (TY g)) (Y : fp_H D b n A f s.heap H locs) (o : fp_o b n f a (aL g N z)) (k : Nat) (hi : i = nI k) (hk : k < N) (hN : N < 2 ^ 31) (hdg : decode cc pc = .ok (.laload, 1))
    (kk : W p l e R s m args below meth c H locs cells slots Q (F0 m (pc + 1) ls (.long (z k) :: rest))) : W p l e R s m args below meth c H locs cells slots Q (F0 m pc ls (.int i :: .ref a :: rest)) := by
  subst hi
  refine fp_lald X Y o 5 rfl (vp_in_nI hk hN) hdg ?_
  rw [nI_clamp (Nat.lt_trans hk hN)]
  exact kk
theorem fp_lst {z : Nat → Int64} {x : Int64} (X : fp_X p s m args c cc nL own D (TY g)) (Y : fp_H D b n A f s.heap H locs) (o : fp_o b n f a (aL g N z)) (k : Nat) (hi : i = nI k) (hk : k < N) (hN : N < 2 ^ 31) (hdg : decode cc pc = .ok (.lastore, 1))
    (kk : ∀ (H1 : Heap) (locs1 : List Loc), fp_H D b n A (va_up f a (aL g N (vp_updL z k x))) s.heap H1 locs1 → W p l e R s m args below meth c H1 locs1 cells slots Q (F0 m (pc + 1) ls rest)) (hA : fp_W b n A := by assumption) : W p l e R s m args below meth c H locs cells slots Q (F0 m pc ls (.long x :: .int i :: .ref a :: rest)) := by
  subst hi
  refine fp_last X Y o 5 rfl (vp_in_nI hk hN) hdg (fun H1 locs1 Y1 => ?_)
  rw [nI_clamp (Nat.lt_trans hk hN)] at Y1
  exact kk H1 locs1 Y1
theorem fp_ald {z : Nat → Option Nat} {C : String} {q : Nat} (t0 : Nat) (ht : (TY g)[t0]? = some (g t0, .object C)) (X : fp_X p s m args c cc nL own D (TY g)) (Y : fp_H D b n A f s.heap H locs) (o : fp_o b n f a (aR g t0 N z)) (k : Nat) (hi : i = nI k) (hk : k < N) (hN : N < 2 ^ 31) (hq : z k = some q) (hdg : decode cc pc = .ok (.aaload, 1))
    (kk : W p l e R s m args below meth c H locs cells slots Q (F0 m (pc + 1) ls (.ref q :: rest))) : W p l e R s m args below meth c H locs cells slots Q (F0 m pc ls (.int i :: .ref a :: rest)) := by
  subst hi
  exact fp_aald X Y o t0 ht (vp_in_nI hk hN) (by rw [nI_clamp (Nat.lt_trans hk hN)]; exact hq) hdg kk
theorem fp_ast {z : Nat → Option Nat} {r : vw_C} {v ci : Nat} {vs : List Value} (t0 : Nat) (ht : (TY g)[t0]? = some (g t0, .object r.1)) (X : fp_X p s m args c cc nL own D (TY g)) (Y : fp_H D b n A f s.heap H locs) (o : fp_o b n f a (aR g t0 N z)) (k : Nat) (hi : i = nI k) (hk : k < N) (hN : N < 2 ^ 31) (ov : fp_o b n f v (ob ci vs)) (hc : CL[ci]? = some r) (hdg : decode cc pc = .ok (.aastore, 1))
    (kk : ∀ (H1 : Heap) (locs1 : List Loc), fp_H D b n A (va_up f a (aR g t0 N (va_up z k (some v)))) s.heap H1 locs1 → W p l e R s m args below meth c H1 locs1 cells slots Q (F0 m (pc + 1) ls rest)) (hA : fp_W b n A := by assumption) : W p l e R s m args below meth c H locs cells slots Q (F0 m pc ls (.ref v :: .int i :: .ref a :: rest)) := by
  subst hi
  refine fp_aast X Y o t0 ht ov hc (vp_in_nI hk hN) hdg (fun H1 locs1 Y1 => ?_)
  rw [nI_clamp (Nat.lt_trans hk hN)] at Y1
  exact kk H1 locs1 Y1
theorem fp_alen {x : ClassId × vp_A} {ty : FieldType} (X : fp_X p s m args c cc nL own D (TY g)) (Y : fp_H D b n A f s.heap H locs) (t0 : Nat) (o : fp_o b n f a (.inl x)) (ht : (TY g)[t0]? = some (x.1, ty)) (hdg : decode cc pc = .ok (.arraylength, 1))
    (kk : W p l e R s m args below meth c H locs cells slots Q (F0 m (pc + 1) ls (.int (nI x.2.1) :: rest))) : W p l e R s m args below meth c H locs cells slots Q (F0 m pc ls (.ref a :: rest)) :=
  va_alen X.1.1 X.1.2.1 X.2.1 (fp_oneA Y.1 o) 0 t0 rfl ht rfl hdg kk
end FPA
