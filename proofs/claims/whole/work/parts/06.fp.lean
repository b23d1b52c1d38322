/-! The world as a function: the cells from address b on, n of them, each as f says of its address; no cell below b ever changes. Rows for one instruction and one call over such a world. -/
def fp_P (D : va_G) (b n : Nat) (f : Nat → va_E) (H : Heap) : Prop := ∀ a : Nat, b ≤ a → a < b + n → va_at D CL (a, f a) H
/-- a set of addresses that has the whole world -/
def fp_W (b n : Nat) (A : Nat → Prop) : Prop := ∀ q : Nat, b ≤ q → q < b + n → A q
/-- the world, and that since H0 nothing outside A has changed -/
def fp_H (D : va_G) (b n : Nat) (A : Nat → Prop) (f : Nat → va_E) (H0 H : Heap) (locs : List Loc) : Prop := fp_P D b n f H ∧ va_S A H0 H locs ∧ b ≤ H0.size
/-- the words on nest mates -/
def fp_N (U : State) : Prop := ∀ w ∈ NWs, va_Nw w U
def fp_X (p : Program) (s : State) (m : MethodId) (args : Array Value) (c : Code) (cc : ByteArray) (nL : Nat) (own : String) (D : va_G) (tys : List (ClassId × FieldType)) : Prop := CallFix p m c cc nL s args TG own ∧ va_K D CL tys s ∧ fp_N s
def fp_o (b n : Nat) (f : Nat → va_E) (a : Nat) (e : va_E) : Prop := b ≤ a ∧ a < b + n ∧ f a = e
theorem fp_o.up {b n : Nat} {f : Nat → va_E} {a : Nat} {e e' : va_E} (o : fp_o b n f a e) : fp_o b n (va_up f a e') a e' := ⟨o.1, o.2.1, va_up_self _ _ _⟩
theorem fp_o.ne {b n : Nat} {f : Nat → va_E} {a x : Nat} {e e' : va_E} (o : fp_o b n f a e) (h : a ≠ x) : fp_o b n (va_up f x e') a e := ⟨o.1, o.2.1, by rw [va_up_ne _ _ h]; exact o.2.2⟩
/-- cells of two kinds lie at two addresses -/
theorem fp_o.nf {b n : Nat} {f : Nat → va_E} {a x : Nat} {e e' : va_E} (o : fp_o b n f a e) (o' : fp_o b n f x e') (h : e ≠ e') : a ≠ x := fun q => h (by rw [← o.2.2, ← o'.2.2, q])
theorem fp_in {b n a : Nat} : a ∈ List.range' b n ↔ b ≤ a ∧ a < b + n := by simp [List.mem_range'_1]
theorem fp_P.w {D : va_G} {b n : Nat} {f : Nat → va_E} {H : Heap} (h : fp_P D b n f H) : va_P D CL (va_pl (List.range' b n) f) H := by
  intro k q hk
  obtain ⟨a, ha, rfl⟩ := List.mem_map.mp (List.mem_of_getElem? hk)
  obtain ⟨h1, h2⟩ := fp_in.mp ha
  exact h a h1 h2
theorem fp_P.of {D : va_G} {b n : Nat} {f : Nat → va_E} {H : Heap} (h : va_P D CL (va_pl (List.range' b n) f) H) : fp_P D b n f H := by
  intro a h1 h2
  obtain ⟨k, hk⟩ := va_pl_get (X := []) (f := f) (fp_in.mpr ⟨h1, h2⟩)
  exact h k _ hk
theorem fp_P.d {b n : Nat} {A : Nat → Prop} {f : Nat → va_E} (hA : fp_W b n A) : va_D A (va_pl (List.range' b n) f) := by
  have key : ∀ (i : Nat) (p : Nat × va_E), (va_pl (List.range' b n) f)[i]? = some p → p.1 = b + i ∧ i < n := by
    intro i p hi
    have hl : i < n := by
      have := (List.getElem?_eq_some_iff.mp hi).1
      simpa [va_pl] using this
    simp only [va_pl, List.getElem?_map] at hi
    rw [List.getElem?_range' hl] at hi
    simp only [Option.map_some, Option.some.injEq] at hi
    rw [← hi]
    exact ⟨by simp, hl⟩
  refine ⟨fun i j p q hi hj e => ?_, fun k q hk => ?_⟩
  · have h1 := key i p hi
    have h2 := key j q hj
    omega
  · have := key k q hk
    exact hA _ (by omega) (by omega)
theorem fp_N.warm {s U : State} (hW : s.WarmedH U.vm) (h : fp_N s) : fp_N U := by
  intro w hw
  have hs := h w hw
  simp only [NWs, List.mem_cons, List.not_mem_nil, or_false] at hw
  rcases hw with rfl | rfl | rfl | rfl | rfl | rfl | rfl | rfl | rfl | rfl | rfl | rfl | rfl | rfl | rfl | rfl | rfl | rfl | rfl | rfl | rfl | rfl | rfl | rfl | rfl | rfl | rfl | rfl | rfl | rfl | rfl | rfl <;> first | exact va_Nw.warmF hW hs | exact va_Nw.warmM hW hs
theorem fp_N.same {u U : State} (hv : u.vm = U.vm) (h : fp_N u) : fp_N U := by
  intro w hw
  have hs := h w hw
  refine va_Nw.same ?_ hv hs
  simp only [NWs, List.mem_cons, List.not_mem_nil, or_false] at hw
  rcases hw with rfl | rfl | rfl | rfl | rfl | rfl | rfl | rfl | rfl | rfl | rfl | rfl | rfl | rfl | rfl | rfl | rfl | rfl | rfl | rfl | rfl | rfl | rfl | rfl | rfl | rfl | rfl | rfl | rfl | rfl | rfl | rfl <;> rfl
section FPR
variable {p : Program} {l : Launch} {e : Env} {R : Room} {s : State} {m : MethodId} {args : Array Value} {below : List Frame} {meth : Method} {c : Code} {H : Heap} {locs : List Loc} {cells slots : Nat} {Q : State → Prop}
variable {cc : ByteArray} {pc nL : Nat} {ls : Array Slot} {rest : List Value} {D : va_G} {a : Nat} {tys : List (ClassId × FieldType)} {b n : Nat} {A : Nat → Prop} {f : Nat → va_E} {own : String}
theorem fp_X.nest (X : fp_X p s m args c cc nL own D tys) {w : Cond} (hw : w ∈ NWs) (ht : w.onTables = true) : w.before args s = true := va_Nw.use ht (X.2.2 w hw)
theorem fp_one {ci : Nat} {fs : List Value} (Y : fp_P D b n f H) (o : fp_o b n f a (.inr (ci, fs))) : va_P D CL [(a, .inr (ci, fs))] H := by
  intro k q hk
  have hz : k < 1 := (List.getElem?_eq_some_iff.mp hk).1
  rw [show k = 0 by omega] at hk
  cases hk
  rw [← o.2.2]
  exact Y a o.1 o.2.1
theorem fp_oneA {x : ClassId × vp_A} (Y : fp_P D b n f H) (o : fp_o b n f a (.inl x)) : va_P D CL [(a, .inl x)] H := by
  intro k q hk
  have hz : k < 1 := (List.getElem?_eq_some_iff.mp hk).1
  rw [show k = 0 by omega] at hk
  cases hk
  rw [← o.2.2]
  exact Y a o.1 o.2.1
theorem fp_get {C : String} {T : u_T} {N ci index : Nat} {fs : List Value} {v : Value} (X : fp_X p s m args c cc nL own D tys) (Y : fp_H D b n A f s.heap H locs) (o : fp_o b n f a (.inr (ci, fs))) (hc : CL[ci]? = some (C, T, N)) (hin : ∀ w ∈ u_ws C T N, w ∈ TG) (k : Nat) (hk : k < N) (hl : Cond.fieldLink own index (T k).1 (T k).2.1 (T k).2.2.1 ∈ TG) (hv : fs[k]? = some v) (hdg : decode cc pc = .ok (.getfield index, 3))
    (kk : W p l e R s m args below meth c H locs cells slots Q (F0 m (pc + 3) ls (v :: rest))) : W p l e R s m args below meth c H locs cells slots Q (F0 m pc ls (.ref a :: rest)) := by
  obtain ⟨⟨hx, hb, hml, hown, hts⟩, hK, hN⟩ := X
  exact va_get hx hb hts hin hown hK (fp_one Y.1 o) 0 rfl hc k hk (hts _ hl) (fun _ h => h) hv hdg kk
theorem fp_getN {C host : String} {T : u_T} {N ci index : Nat} {fs : List Value} {v : Value} (X : fp_X p s m args c cc nL own D tys) (Y : fp_H D b n A f s.heap H locs) (o : fp_o b n f a (.inr (ci, fs))) (hc : CL[ci]? = some (C, T, N)) (hin : ∀ w ∈ u_ws C T N, w ∈ TG) (k : Nat) (hk : k < N) (hl : Cond.fieldLinkNest own index (T k).1 (T k).2.1 (T k).2.2.1 host ∈ NWs) (hv : fs[k]? = some v) (hdg : decode cc pc = .ok (.getfield index, 3))
    (kk : W p l e R s m args below meth c H locs cells slots Q (F0 m (pc + 3) ls (v :: rest))) : W p l e R s m args below meth c H locs cells slots Q (F0 m pc ls (.ref a :: rest)) := by
  have hw := X.nest hl rfl
  obtain ⟨⟨hx, hb, hml, hown, hts⟩, hK, hN⟩ := X
  exact va_getN hx hb hts hin hown hK (fp_one Y.1 o) 0 rfl hc k hk hw (fun _ h => h) hv hdg kk
theorem fp_H.up {H1 : Heap} {locs1 : List Loc} {k : Nat} {e0 : va_E} (Y : fp_H D b n A f s.heap H locs) (h1 : b ≤ a) (h2 : a < b + n) (hk : (va_pl (List.range' b n) f)[k]? = some (a, f a)) (hP : va_P D CL ((va_pl (List.range' b n) f).set k (a, e0)) H1) (hA : fp_W b n A) (hS : va_S A s.heap H1 locs1) : fp_H D b n A (va_up f a e0) s.heap H1 locs1 := by
  have e := va_pl_set (X := []) (e := e0) (show va_D A ([] ++ va_pl (List.range' b n) f) from fp_P.d hA) (fp_in.mpr ⟨h1, h2⟩) hk
  refine ⟨fp_P.of ?_, hS, Y.2.2⟩
  simp only [List.nil_append] at e
  rw [← e]
  exact hP
theorem fp_put {C : String} {T : u_T} {N ci index : Nat} {fs : List Value} {v : Value} (X : fp_X p s m args c cc nL own D tys) (Y : fp_H D b n A f s.heap H locs) (o : fp_o b n f a (.inr (ci, fs))) (hc : CL[ci]? = some (C, T, N)) (hin : ∀ w ∈ u_ws C T N, w ∈ TG) {ty0 : Nat → FieldType} (hty : ∀ k, k < N → parseFieldDescriptor (T k).2.2.1 = some (ty0 k)) (hnm : ∀ a, a < N → ∀ b, b < N → a ≠ b → (T a).2.1 ≠ (T b).2.1) (k : Nat) (hk : k < N) (hl : Cond.fieldLink own index (T k).1 (T k).2.1 (T k).2.2.1 ∈ TG) (hfin : (T k).2.2.2 = false) (hn : narrow (ty0 k) v = v) (hfit : fits (ty0 k) v = true) (hlen : k < fs.length) (hdg : decode cc pc = .ok (.putfield index, 3))
    (kk : ∀ (H1 : Heap) (locs1 : List Loc), fp_H D b n A (va_up f a (.inr (ci, fs.set k v))) s.heap H1 locs1 → W p l e R s m args below meth c H1 locs1 cells slots Q (F0 m (pc + 3) ls rest)) (hA : fp_W b n A := by assumption) : W p l e R s m args below meth c H locs cells slots Q (F0 m pc ls (v :: .ref a :: rest)) := by
  obtain ⟨⟨hx, hb, hml, hown, hts⟩, hK, hN⟩ := X
  obtain ⟨q0, hq⟩ := va_pl_get (X := []) (f := f) (fp_in.mpr ⟨o.1, o.2.1⟩)
  rw [List.nil_append] at hq
  refine va_put hx hb hts hin ty0 hty hnm hown hK Y.1.w (fp_P.d hA) Y.2.1 q0 (by rw [hq, o.2.2]) hc k hk (hts _ hl) (fun _ h => h) hfin (hty k hk) hn hfit hlen hdg (fun H1 locs1 hP hD hS => kk H1 locs1 (Y.up o.1 o.2.1 hq hP hA hS))
theorem fp_putN {C host : String} {T : u_T} {N ci index : Nat} {fs : List Value} {v : Value} (X : fp_X p s m args c cc nL own D tys) (Y : fp_H D b n A f s.heap H locs) (o : fp_o b n f a (.inr (ci, fs))) (hc : CL[ci]? = some (C, T, N)) (hin : ∀ w ∈ u_ws C T N, w ∈ TG) {ty0 : Nat → FieldType} (hty : ∀ k, k < N → parseFieldDescriptor (T k).2.2.1 = some (ty0 k)) (hnm : ∀ a, a < N → ∀ b, b < N → a ≠ b → (T a).2.1 ≠ (T b).2.1) (k : Nat) (hk : k < N) (hl : Cond.fieldLinkNest own index (T k).1 (T k).2.1 (T k).2.2.1 host ∈ NWs) (hfin : (T k).2.2.2 = false) (hn : narrow (ty0 k) v = v) (hfit : fits (ty0 k) v = true) (hlen : k < fs.length) (hdg : decode cc pc = .ok (.putfield index, 3))
    (kk : ∀ (H1 : Heap) (locs1 : List Loc), fp_H D b n A (va_up f a (.inr (ci, fs.set k v))) s.heap H1 locs1 → W p l e R s m args below meth c H1 locs1 cells slots Q (F0 m (pc + 3) ls rest)) (hA : fp_W b n A := by assumption) : W p l e R s m args below meth c H locs cells slots Q (F0 m pc ls (v :: .ref a :: rest)) := by
  have hw := X.nest hl rfl
  obtain ⟨⟨hx, hb, hml, hown, hts⟩, hK, hN⟩ := X
  obtain ⟨q0, hq⟩ := va_pl_get (X := []) (f := f) (fp_in.mpr ⟨o.1, o.2.1⟩)
  rw [List.nil_append] at hq
  refine va_putN hx hb hts hin ty0 hty hnm hown hK Y.1.w (fp_P.d hA) Y.2.1 q0 (by rw [hq, o.2.2]) hc k hk hw (fun _ h => h) hfin (hty k hk) hn hfit hlen hdg (fun H1 locs1 hP hD hS => kk H1 locs1 (Y.up o.1 o.2.1 hq hP hA hS))
theorem fp_putF {C : String} {T : u_T} {N ci index : Nat} {fs : List Value} {v : Value} (X : fp_X p s m args c cc nL own D tys) (Y : fp_H D b n A f s.heap H locs) (o : fp_o b n f a (.inr (ci, fs))) (hc : CL[ci]? = some (C, T, N)) (hin : ∀ w ∈ u_ws C T N, w ∈ TG) {ty0 : Nat → FieldType} (hty : ∀ k, k < N → parseFieldDescriptor (T k).2.2.1 = some (ty0 k)) (hnm : ∀ a, a < N → ∀ b, b < N → a ≠ b → (T a).2.1 ≠ (T b).2.1) (k : Nat) (hk : k < N) (hl : Cond.fieldLink own index (T k).1 (T k).2.1 (T k).2.2.1 ∈ TG) (hfin : (T k).2.2.2 = true) (hin2 : meth.name = "<init>") (hdecl : (T k).1 = own) (hn : narrow (ty0 k) v = v) (hfit : fits (ty0 k) v = true) (hlen : k < fs.length) (hdg : decode cc pc = .ok (.putfield index, 3))
    (kk : ∀ (H1 : Heap) (locs1 : List Loc), fp_H D b n A (va_up f a (.inr (ci, fs.set k v))) s.heap H1 locs1 → W p l e R s m args below meth c H1 locs1 cells slots Q (F0 m (pc + 3) ls rest)) (hA : fp_W b n A := by assumption) : W p l e R s m args below meth c H locs cells slots Q (F0 m pc ls (v :: .ref a :: rest)) := by
  obtain ⟨⟨hx, hb, hml, hown, hts⟩, hK, hN⟩ := X
  obtain ⟨q0, hq⟩ := va_pl_get (X := []) (f := f) (fp_in.mpr ⟨o.1, o.2.1⟩)
  rw [List.nil_append] at hq
  refine va_putF hx hb hts hin ty0 hty hnm hown hK Y.1.w (fp_P.d hA) Y.2.1 q0 (by rw [hq, o.2.2]) hc k hk (hts _ hl) (fun _ h => h) hfin hin2 hdecl (hty k hk) hn hfit hlen hdg (fun H1 locs1 hP hD hS => kk H1 locs1 (Y.up o.1 o.2.1 hq hP hA hS))
theorem fp_iald {cA : ClassId} {N : Nat} {z : Nat → Int32} {i : Int32} (X : fp_X p s m args c cc nL own D tys) (Y : fp_H D b n A f s.heap H locs) (o : fp_o b n f a (.inl (cA, N, .inl z))) (t0 : Nat) (ht : tys[t0]? = some (cA, .int)) (hi : vp_in i N) (hdg : decode cc pc = .ok (.iaload, 1))
    (kk : W p l e R s m args below meth c H locs cells slots Q (F0 m (pc + 1) ls (.int (z i.toNatClampNeg) :: rest))) : W p l e R s m args below meth c H locs cells slots Q (F0 m pc ls (.int i :: .ref a :: rest)) :=
  va_iald X.1.1 X.1.2.1 X.2.1 (fp_oneA Y.1 o) 0 t0 rfl ht hi hdg kk
theorem fp_iast {cA : ClassId} {N : Nat} {z : Nat → Int32} {i x : Int32} (X : fp_X p s m args c cc nL own D tys) (Y : fp_H D b n A f s.heap H locs) (o : fp_o b n f a (.inl (cA, N, .inl z))) (t0 : Nat) (ht : tys[t0]? = some (cA, .int)) (hi : vp_in i N) (hdg : decode cc pc = .ok (.iastore, 1))
    (kk : ∀ (H1 : Heap) (locs1 : List Loc), fp_H D b n A (va_up f a (.inl (cA, N, .inl (upd z i.toNatClampNeg x)))) s.heap H1 locs1 → W p l e R s m args below meth c H1 locs1 cells slots Q (F0 m (pc + 1) ls rest)) (hA : fp_W b n A := by assumption) : W p l e R s m args below meth c H locs cells slots Q (F0 m pc ls (.int x :: .int i :: .ref a :: rest)) := by
  obtain ⟨q0, hq⟩ := va_pl_get (X := []) (f := f) (fp_in.mpr ⟨o.1, o.2.1⟩)
  rw [List.nil_append] at hq
  exact va_iast X.1.1 X.1.2.1 X.2.1 Y.1.w (fp_P.d hA) Y.2.1 q0 t0 (by rw [hq, o.2.2]) ht hi hdg (fun H1 locs1 hP hD hS => kk H1 locs1 (Y.up o.1 o.2.1 hq hP hA hS))
theorem fp_lald {cA : ClassId} {N : Nat} {z : Nat → Int64} {i : Int32} (X : fp_X p s m args c cc nL own D tys) (Y : fp_H D b n A f s.heap H locs) (o : fp_o b n f a (.inl (cA, N, .inr (.inl z)))) (t0 : Nat) (ht : tys[t0]? = some (cA, .long)) (hi : vp_in i N) (hdg : decode cc pc = .ok (.laload, 1))
    (kk : W p l e R s m args below meth c H locs cells slots Q (F0 m (pc + 1) ls (.long (z i.toNatClampNeg) :: rest))) : W p l e R s m args below meth c H locs cells slots Q (F0 m pc ls (.int i :: .ref a :: rest)) :=
  va_lald X.1.1 X.1.2.1 X.2.1 (fp_oneA Y.1 o) 0 t0 rfl ht hi hdg kk
theorem fp_last {cA : ClassId} {N : Nat} {z : Nat → Int64} {i : Int32} {x : Int64} (X : fp_X p s m args c cc nL own D tys) (Y : fp_H D b n A f s.heap H locs) (o : fp_o b n f a (.inl (cA, N, .inr (.inl z)))) (t0 : Nat) (ht : tys[t0]? = some (cA, .long)) (hi : vp_in i N) (hdg : decode cc pc = .ok (.lastore, 1))
    (kk : ∀ (H1 : Heap) (locs1 : List Loc), fp_H D b n A (va_up f a (.inl (cA, N, .inr (.inl (vp_updL z i.toNatClampNeg x))))) s.heap H1 locs1 → W p l e R s m args below meth c H1 locs1 cells slots Q (F0 m (pc + 1) ls rest)) (hA : fp_W b n A := by assumption) : W p l e R s m args below meth c H locs cells slots Q (F0 m pc ls (.long x :: .int i :: .ref a :: rest)) := by
  obtain ⟨q0, hq⟩ := va_pl_get (X := []) (f := f) (fp_in.mpr ⟨o.1, o.2.1⟩)
  rw [List.nil_append] at hq
  exact va_last X.1.1 X.1.2.1 X.2.1 Y.1.w (fp_P.d hA) Y.2.1 q0 t0 (by rw [hq, o.2.2]) ht hi hdg (fun H1 locs1 hP hD hS => kk H1 locs1 (Y.up o.1 o.2.1 hq hP hA hS))
theorem fp_aald {cA : ClassId} {C : String} {N : Nat} {z : Nat → Option Nat} {i : Int32} {q : Nat} (X : fp_X p s m args c cc nL own D tys) (Y : fp_H D b n A f s.heap H locs) (o : fp_o b n f a (.inl (cA, N, .inr (.inr (.inr (.inr z)))))) (t0 : Nat) (ht : tys[t0]? = some (cA, .object C)) (hi : vp_in i N) (hq : z i.toNatClampNeg = some q) (hdg : decode cc pc = .ok (.aaload, 1))
    (kk : W p l e R s m args below meth c H locs cells slots Q (F0 m (pc + 1) ls (.ref q :: rest))) : W p l e R s m args below meth c H locs cells slots Q (F0 m pc ls (.int i :: .ref a :: rest)) :=
  va_aldq X.1.1 X.1.2.1 X.2.1 (fp_oneA Y.1 o) 0 t0 rfl ht hi hdg (by rw [hq]; exact kk)
theorem fp_aast {cA : ClassId} {r : vw_C} {N ci v : Nat} {vs : List Value} {z : Nat → Option Nat} {i : Int32} (X : fp_X p s m args c cc nL own D tys) (Y : fp_H D b n A f s.heap H locs) (o : fp_o b n f a (.inl (cA, N, .inr (.inr (.inr (.inr z)))))) (t0 : Nat) (ht : tys[t0]? = some (cA, .object r.1)) (ov : fp_o b n f v (.inr (ci, vs))) (hc : CL[ci]? = some r) (hi : vp_in i N) (hdg : decode cc pc = .ok (.aastore, 1))
    (kk : ∀ (H1 : Heap) (locs1 : List Loc), fp_H D b n A (va_up f a (.inl (cA, N, .inr (.inr (.inr (.inr (va_up z i.toNatClampNeg (some v)))))))) s.heap H1 locs1 → W p l e R s m args below meth c H1 locs1 cells slots Q (F0 m (pc + 1) ls rest)) (hA : fp_W b n A := by assumption) : W p l e R s m args below meth c H locs cells slots Q (F0 m pc ls (.ref v :: .int i :: .ref a :: rest)) := by
  obtain ⟨q0, hq⟩ := va_pl_get (X := []) (f := f) (fp_in.mpr ⟨o.1, o.2.1⟩)
  obtain ⟨q1, hq1⟩ := va_pl_get (X := []) (f := f) (fp_in.mpr ⟨ov.1, ov.2.1⟩)
  rw [List.nil_append] at hq hq1
  exact va_astq X.1.1 X.1.2.1 X.2.1 Y.1.w (fp_P.d hA) Y.2.1 q0 t0 q1 ci (by rw [hq, o.2.2]) ht (by rw [hq1, ov.2.2]) hc hi hdg (fun H1 locs1 hP hD hS => kk H1 locs1 (Y.up o.1 o.2.1 hq hP hA hS))
/-- a method's start over the whole world -/
def fp_B (D : va_G) (tys : List (ClassId × FieldType)) (b n : Nat) (f : Nat → va_E) (U : State) : Prop := fp_P D b n f U.heap ∧ va_K D CL tys U ∧ fp_N U ∧ b ≤ U.heap.size
/-- a method's end over the whole world -/
def fp_E (D : va_G) (b n : Nat) (A : Nat → Prop) (post : Option Value → (Nat → va_E) → Prop) (st : State) (oc : Outcome) (t : State) : Prop := (∃ (v : Option Value) (f' : Nat → va_E), oc = .returned v ∧ post v f' ∧ fp_P D b n f' t.heap) ∧ va_F A st t
/-- a contract over the whole world: of a method that makes nothing -/
def fp_M (l : Launch) (D : va_G) (tys : List (ClassId × FieldType)) (b n : Nat) (A : Nat → Prop) (y : MethodName) (ws : List Cond) (rm : Room) (As : List Value) (f : Nat → va_E) (post : Option Value → (Nat → va_E) → Prop) : Prop :=
  Met l y ws rm (va_Pc As (fp_B D tys b n f)) (fun _ => fp_E D b n A post) 0 0 A
theorem fp_call {post : Option Value → (Nat → va_E) → Prop} {st0 : List Value} (Y : fp_H D b n A f s.heap H locs)
    (hr : va_Run p l e R s m args below meth c H locs cells slots 0 0 (F0 m pc ls st0) rest (fp_E D b n A post) A)
    (kk : ∀ (v : Option Value) (f' : Nat → va_E) (H1 : Heap) (locs1 : List Loc), post v f' → fp_H D b n A f' s.heap H1 locs1 → W p l e R s m args below meth c H1 locs1 cells slots Q (F0 m (pc + 3) ls (v.toList ++ rest))) : W p l e R s m args below meth c H locs cells slots Q (F0 m pc ls st0) := by
  intro T hT X
  obtain ⟨v, st₀, t, T', L, h0, X', hL, e1, e2, ⟨⟨v', f', hv, hp, hb⟩, hz, hk⟩, st⟩ := hr T hT X
  cases hv
  rw [h0] at hz hk
  obtain ⟨hP, hS, hb0⟩ := Y
  obtain ⟨t2, a1, b1⟩ := kk v f' T'.heap (locs ++ L) hp ⟨by rw [e1]; exact hb, ⟨Nat.le_trans hS.1 (by rw [e1]; exact hz), fun q h1 h2 => by rw [e1, hk q (Nat.lt_of_lt_of_le h1 hS.1) h2]; exact hS.2.1 q h1 h2, fun q hq => by
      rcases List.mem_append.mp hq with h | h
      · exact hS.2.2 q h
      · exact hL q h⟩, hb0⟩ T' rfl X'
  exact ⟨t2, st t2 a1, b1⟩
theorem fp_blind {As : List Value} : FrameBlind (va_Pc As (fp_B D tys b n f)) := fun a U g mk q => by
  obtain ⟨q0, q1, qK, qN, q2⟩ := q
  exact ⟨q0, q1, va_K.moved (u := U) (U := U.calling g mk a) (Vm.Alike.refl U.vm) qK, fp_N.same (u := U) (U := U.calling g mk a) rfl qN, q2⟩
theorem fp_preS {As : List Value} (X : fp_X p s m args c cc nL own D tys) (Y : fp_H D b n A f s.heap H locs) : PreS s H (va_Pc As (fp_B D tys b n f)) As :=
  ⟨fp_blind, fun U hU hW => ⟨rfl, by rw [hU]; exact Y.1, va_K.moved hW.alike X.2.1, X.2.2.warm hW, by rw [hU]; exact Nat.le_trans Y.2.2 Y.2.1.1⟩⟩
theorem fp_preV {As : List Value} {ci : Nat} {fs : List Value} {q : vw_C} (X : fp_X p s m args c cc nL own D tys) (Y : fp_H D b n A f s.heap H locs) (o : fp_o b n f a (.inr (ci, fs))) (hc : CL[ci]? = some q) : PreV s H q.1 a (va_Pc (.ref a :: As) (fp_B D tys b n f)) As :=
  ⟨fp_blind, va_recv X.2.1 (fp_one Y.1 o) hc (q0 := 0) rfl, fun U hU hW => ⟨rfl, by rw [hU]; exact Y.1, va_K.moved hW.alike X.2.1, X.2.2.warm hW, by rw [hU]; exact Nat.le_trans Y.2.2 Y.2.1.1⟩⟩
/-- the words of a callee: its code, and TG -/
abbrev fp_ws (y : MethodName) (cc : ByteArray) (maxL : Nat) (ret : Option FieldType) : List Cond := Cond.code y cc maxL ret :: TG
theorem fp_good : ∀ w ∈ TG, w ∈ TG ∧ ((w.onTables && w.keeps) = true ∨ ∃ ty, w = .arrayClass ty) := fun w h => ⟨h, good_of_word (TG_good w h)⟩
theorem fp_goodW {y : MethodName} {cc : ByteArray} {maxL : Nat} {ret : Option FieldType} (h : Cond.code y cc maxL ret ∈ TG) : GoodIn TG (fp_ws y cc maxL ret) := fun w hw => by
  rcases List.mem_cons.mp hw with rfl | hw
  · exact fp_good _ h
  · exact fp_good _ hw
theorem fp_goodL {pre ws : List Cond} (h1 : ∀ w ∈ pre, w ∈ TG) (h2 : GoodIn TG ws) : GoodIn TG (pre ++ ws) := fun w hw => by
  rcases List.mem_append.mp hw with hw | hw
  · exact fp_good _ (h1 w hw)
  · exact h2 w hw
theorem fp_callV {post : Option Value → (Nat → va_E) → Prop} {st0 : List Value} {y : MethodName} {bytes : ByteArray} {maxL index ci nA : Nat} {ret : Option FieldType} {rm : Room} {As : List Value} {fs : List Value} {q : vw_C} (X : fp_X p s m args c cc nL own D tys) (Y : fp_H D b n A f s.heap H locs)
    (hM : fp_M l D tys b n A y (fp_ws y bytes maxL ret) rm (.ref a :: As) f post) (o : fp_o b n f a (.inr (ci, fs))) (hc : CL[ci]? = some q)
    (w1 : Cond.code y bytes maxL ret ∈ TG) (w2 : Cond.methodLink own index y ∈ TG) (w3 : Cond.instanceMethod y ∈ TG) (w4 : Cond.selects q.1 y y ∈ TG) (w5 : Cond.initialized q.1 ∈ TG)
    (hd : y.cls = q.1 ∧ y.cls ≠ "java/lang/invoke/MethodHandle" ∧ y.cls ≠ "java/lang/invoke/VarHandle" ∧ (parseMethodDescriptor y.desc).map (fun d => d.parameters.length) = some nA) (hrc : rm.cells = 0 ∧ rm.slots = 0) (hR : rm.frames + 1 ≤ R.frames ∧ 8 + (maxL + 11) + rm.locals ≤ R.locals)
    (hn : As.length = nA) (hsz : ls.size = nL) (hst : st0 = As.reverse ++ .ref a :: rest) (hroom : (rest.map fun v => v.category).sum ≤ 8) (hdg : decode cc pc = .ok (.invokevirtual index, 3)) (hcs : cells ≤ R.cells ∧ slots ≤ R.slots)
    (kk : ∀ (v : Option Value) (f' : Nat → va_E) (H1 : Heap) (locs1 : List Loc), post v f' → fp_H D b n A f' s.heap H1 locs1 → W p l e R s m args below meth c H1 locs1 cells slots Q (F0 m (pc + 3) ls (v.toList ++ rest))) : W p l e R s m args below meth c H locs cells slots Q (F0 m pc ls st0) := by
  subst hst
  refine fp_call (rest := rest) Y (va_runV (C := q.1) (As := As) (rest := rest) X.1 hM (cwV nA X.1.2.2.2.2 (fp_goodL (fun w hw => ?_) (fp_goodW w1)) rfl hrc.1 hrc.2 hd hR) (fp_preV X Y o hc) rfl hn hsz rfl (lv_room hroom) hdg hcs) kk
  simp only [List.mem_cons, List.not_mem_nil, or_false] at hw
  rcases hw with rfl | rfl | rfl | rfl
  · exact w2
  · exact w3
  · exact w4
  · exact w5
theorem fp_callS {post : Option Value → (Nat → va_E) → Prop} {st0 : List Value} {y : MethodName} {bytes : ByteArray} {maxL index nA : Nat} {ret : Option FieldType} {rm : Room} {As : List Value} (X : fp_X p s m args c cc nL own D tys) (Y : fp_H D b n A f s.heap H locs)
    (hM : fp_M l D tys b n A y (fp_ws y bytes maxL ret) rm As f post)
    (w1 : Cond.code y bytes maxL ret ∈ TG) (w2 : Cond.methodLink own index y ∈ TG) (w3 : Cond.static y ∈ TG) (w4 : Cond.initialized y.cls ∈ TG)
    (hd : y.cls ≠ "java/lang/invoke/MethodHandle" ∧ y.cls ≠ "java/lang/invoke/VarHandle" ∧ (parseMethodDescriptor y.desc).map (fun d => d.parameters.length) = some nA) (hrc : rm.cells = 0 ∧ rm.slots = 0) (hR : rm.frames + 1 ≤ R.frames ∧ 8 + (maxL + 11) + rm.locals ≤ R.locals)
    (hn : As.length = nA) (hsz : ls.size = nL) (hst : st0 = As.reverse ++ rest) (hroom : (rest.map fun v => v.category).sum ≤ 8) (hdg : decode cc pc = .ok (.invokestatic index, 3)) (hcs : cells ≤ R.cells ∧ slots ≤ R.slots)
    (kk : ∀ (v : Option Value) (f' : Nat → va_E) (H1 : Heap) (locs1 : List Loc), post v f' → fp_H D b n A f' s.heap H1 locs1 → W p l e R s m args below meth c H1 locs1 cells slots Q (F0 m (pc + 3) ls (v.toList ++ rest))) : W p l e R s m args below meth c H locs cells slots Q (F0 m pc ls st0) := by
  subst hst
  have hts := X.1.2.2.2.2
  exact fp_call (rest := rest) Y (va_runS (As := As) (rest := rest) X.1 hM ⟨callB_of nA hts (fp_goodW w1) rfl hrc.1 hrc.2 (hts _ w4) (hts _ w2) hd hR, hts _ w3⟩ (fp_preS X Y) rfl hn hsz rfl (lv_room hroom) hdg hcs) kk
theorem fp_callVN {post : Option Value → (Nat → va_E) → Prop} {st0 : List Value} {y : MethodName} {bytes : ByteArray} {maxL index ci nA : Nat} {ret : Option FieldType} {rm : Room} {As : List Value} {fs : List Value} {q : vw_C} {host : String} (X : fp_X p s m args c cc nL own D tys) (Y : fp_H D b n A f s.heap H locs)
    (hM : fp_M l D tys b n A y (fp_ws y bytes maxL ret) rm (.ref a :: As) f post) (o : fp_o b n f a (.inr (ci, fs))) (hc : CL[ci]? = some q)
    (w1 : Cond.code y bytes maxL ret ∈ TG) (w2 : Cond.methodLinkNest own index y host ∈ NWs) (w3 : Cond.instanceMethod y ∈ TG) (w4 : Cond.selects q.1 y y ∈ TG) (w5 : Cond.initialized y.cls ∈ TG)
    (hd : y.cls ≠ "java/lang/invoke/MethodHandle" ∧ y.cls ≠ "java/lang/invoke/VarHandle" ∧ (parseMethodDescriptor y.desc).map (fun d => d.parameters.length) = some nA) (hrc : rm.cells = 0 ∧ rm.slots = 0) (hR : rm.frames + 1 ≤ R.frames ∧ 8 + (maxL + 11) + rm.locals ≤ R.locals)
    (hn : As.length = nA) (hsz : ls.size = nL) (hst : st0 = As.reverse ++ .ref a :: rest) (hroom : (rest.map fun v => v.category).sum ≤ 8) (hdg : decode cc pc = .ok (.invokevirtual index, 3)) (hcs : cells ≤ R.cells ∧ slots ≤ R.slots)
    (kk : ∀ (v : Option Value) (f' : Nat → va_E) (H1 : Heap) (locs1 : List Loc), post v f' → fp_H D b n A f' s.heap H1 locs1 → W p l e R s m args below meth c H1 locs1 cells slots Q (F0 m (pc + 3) ls (v.toList ++ rest))) : W p l e R s m args below meth c H locs cells slots Q (F0 m pc ls st0) := by
  subst hst
  have hts := X.1.2.2.2.2
  exact fp_call (rest := rest) Y (va_runVN (C := q.1) (As := As) (rest := rest) X.1 hM ⟨va_cnB nA hts (fp_goodW w1) rfl hrc.1 hrc.2 (X.2.2 _ w2) (hts _ w5) hd hR, hts _ w3, hts _ w4⟩ (fp_preV X Y o hc) rfl hn hsz rfl (lv_room hroom) hdg hcs) kk
theorem fp_callSN {post : Option Value → (Nat → va_E) → Prop} {st0 : List Value} {y : MethodName} {bytes : ByteArray} {maxL index nA : Nat} {ret : Option FieldType} {rm : Room} {As : List Value} {host : String} (X : fp_X p s m args c cc nL own D tys) (Y : fp_H D b n A f s.heap H locs)
    (hM : fp_M l D tys b n A y (fp_ws y bytes maxL ret) rm As f post)
    (w1 : Cond.code y bytes maxL ret ∈ TG) (w2 : Cond.methodLinkNest own index y host ∈ NWs) (w3 : Cond.static y ∈ TG) (w4 : Cond.initialized y.cls ∈ TG)
    (hd : y.cls ≠ "java/lang/invoke/MethodHandle" ∧ y.cls ≠ "java/lang/invoke/VarHandle" ∧ (parseMethodDescriptor y.desc).map (fun d => d.parameters.length) = some nA) (hrc : rm.cells = 0 ∧ rm.slots = 0) (hR : rm.frames + 1 ≤ R.frames ∧ 8 + (maxL + 11) + rm.locals ≤ R.locals)
    (hn : As.length = nA) (hsz : ls.size = nL) (hst : st0 = As.reverse ++ rest) (hroom : (rest.map fun v => v.category).sum ≤ 8) (hdg : decode cc pc = .ok (.invokestatic index, 3)) (hcs : cells ≤ R.cells ∧ slots ≤ R.slots)
    (kk : ∀ (v : Option Value) (f' : Nat → va_E) (H1 : Heap) (locs1 : List Loc), post v f' → fp_H D b n A f' s.heap H1 locs1 → W p l e R s m args below meth c H1 locs1 cells slots Q (F0 m (pc + 3) ls (v.toList ++ rest))) : W p l e R s m args below meth c H locs cells slots Q (F0 m pc ls st0) := by
  subst hst
  have hts := X.1.2.2.2.2
  exact fp_call (rest := rest) Y (va_runSN (As := As) (rest := rest) X.1 hM ⟨va_cnB nA hts (fp_goodW w1) rfl hrc.1 hrc.2 (X.2.2 _ w2) (hts _ w4) hd hR, hts _ w3, trivial⟩ (fp_preS X Y) rfl hn hsz rfl (lv_room hroom) hdg hcs) kk
end FPR
section FPE
variable {l : Launch} {D : va_G} {tys : List (ClassId × FieldType)} {b n : Nat} {A : Nat → Prop} {y : MethodName} {ws ws' : List Cond} {rm : Room} {As : List Value} {f : Nat → va_E} {post : Option Value → (Nat → va_E) → Prop} {cc : ByteArray} {maxL : Nat}
/-- the end of a method, by an answer or without one -/
abbrev fp_Ret (l : Launch) (D : va_G) (b n : Nat) (A : Nat → Prop) (rm : Room) (post : Option Value → (Nat → va_E) → Prop) (cc : ByteArray) (p : Program) (e : Env) (s : State) (m : MethodId) (args : Array Value) (below : List Frame) (meth : Method) (c : Code) (Q : State → Prop) (i : Instr) (ok : Value → Prop) : Prop :=
  ∀ (pc : Nat) (ls : Array Slot) (v : Value) (f' : Nat → va_E) (H : Heap) (locs : List Loc), decode cc pc = .ok (i, 1) → ok v → post (some v) f' → fp_H D b n A f' s.heap H locs → W p l e rm s m args below meth c H locs 0 0 Q (F0 m pc ls [v])
abbrev fp_RetV (l : Launch) (D : va_G) (b n : Nat) (A : Nat → Prop) (rm : Room) (post : Option Value → (Nat → va_E) → Prop) (cc : ByteArray) (p : Program) (e : Env) (s : State) (m : MethodId) (args : Array Value) (below : List Frame) (meth : Method) (c : Code) (Q : State → Prop) : Prop :=
  ∀ (pc : Nat) (ls : Array Slot) (f' : Nat → va_E) (H : Heap) (locs : List Loc), decode cc pc = .ok (.return_, 1) → post none f' → fp_H D b n A f' s.heap H locs → W p l e rm s m args below meth c H locs 0 0 Q (F0 m pc ls [])
theorem fp_ofI {ty : FieldType} (hy : plainFor y = true) (hlen : (lg_sl As).length ≤ maxL)
    (body : ∀ (p : Program) (e : Env) (s : State) (m : MethodId) (args : Array Value) (below : List Frame) (meth : Method) (c : Code) (Q : State → Prop) (ls : Array Slot) (H : Heap) (locs : List Loc), fp_X p s m args c cc maxL y.cls D tys → fp_H D b n A f s.heap H locs → lv_has ls maxL (lv_args 0 As) →
      fp_Ret l D b n A rm post cc p e s m args below meth c Q .ireturn (fun v => ∃ x : Int32, v = .int x ∧ narrow ty (.int x) = .int x) → W p l e rm s m args below meth c H locs 0 0 Q (F0 m 0 ls [])) : fp_M l D tys b n A y (fp_ws y cc maxL (some ty)) rm As f post := by
  refine va_MetF (cc := cc) (maxL := maxL) (ret := some ty) hy rfl ?_
  intro p e s m args below meth c s₁ B hml hv
  obtain ⟨rfl, hP, hK, hN, hb0⟩ := hv
  have hl := lv_entry As (n := maxL) hlen
  rw [lg_entry_eq]
  generalize (lg_sl As ++ List.replicate (maxL - (lg_sl As).length) Slot.unset).toArray = ls at hl ⊢
  have hts := atoms_spec (ws := fp_ws y cc maxL (some ty)) B.pre
  refine body p e s m _ below meth c _ ls s.heap [] ⟨⟨B.exec, B.bytes, hml, findClass_of_methodNamed B.named, fun w hw => hts w (List.mem_cons_of_mem _ hw)⟩, hK, hN⟩ ⟨hP, va_S.rf, hb0⟩ hl ?_
  intro pc ls v f' H locs hd ⟨x, hx, hnar⟩ hp Y
  subst hx
  exact W.zret B.exec B.bytes B.returns hnar (fun t ht hW => ⟨⟨_, f', rfl, hp, by rw [ht]; exact Y.1⟩, Y.2.1.F ht⟩) Y.2.1.2.2 hd (hlocks := B.notSynchronized)
theorem fp_ofA {ty : FieldType} (hrt : (∃ n, ty = .object n) ∨ ∃ t, ty = .array t) (hy : plainFor y = true) (hlen : (lg_sl As).length ≤ maxL)
    (body : ∀ (p : Program) (e : Env) (s : State) (m : MethodId) (args : Array Value) (below : List Frame) (meth : Method) (c : Code) (Q : State → Prop) (ls : Array Slot) (H : Heap) (locs : List Loc), fp_X p s m args c cc maxL y.cls D tys → fp_H D b n A f s.heap H locs → lv_has ls maxL (lv_args 0 As) →
      fp_Ret l D b n A rm post cc p e s m args below meth c Q .areturn (fun v => v = .null ∨ ∃ a, v = .ref a) → W p l e rm s m args below meth c H locs 0 0 Q (F0 m 0 ls [])) : fp_M l D tys b n A y (fp_ws y cc maxL (some ty)) rm As f post := by
  refine va_MetF (cc := cc) (maxL := maxL) (ret := some ty) hy rfl ?_
  intro p e s m args below meth c s₁ B hml hv
  obtain ⟨rfl, hP, hK, hN, hb0⟩ := hv
  have hl := lv_entry As (n := maxL) hlen
  rw [lg_entry_eq]
  generalize (lg_sl As ++ List.replicate (maxL - (lg_sl As).length) Slot.unset).toArray = ls at hl ⊢
  have hts := atoms_spec (ws := fp_ws y cc maxL (some ty)) B.pre
  refine body p e s m _ below meth c _ ls s.heap [] ⟨⟨B.exec, B.bytes, hml, findClass_of_methodNamed B.named, fun w hw => hts w (List.mem_cons_of_mem _ hw)⟩, hK, hN⟩ ⟨hP, va_S.rf, hb0⟩ hl ?_
  intro pc ls v f' H locs hd hok hp Y
  exact W.aret B.exec B.bytes B.returns hrt hok (fun t ht hW => ⟨⟨_, f', rfl, hp, by rw [ht]; exact Y.1⟩, Y.2.1.F ht⟩) Y.2.1.2.2 hd (hlocks := B.notSynchronized)
theorem fp_ofV (hy : plainFor y = true) (hlen : (lg_sl As).length ≤ maxL)
    (body : ∀ (p : Program) (e : Env) (s : State) (m : MethodId) (args : Array Value) (below : List Frame) (meth : Method) (c : Code) (Q : State → Prop) (ls : Array Slot) (H : Heap) (locs : List Loc), fp_X p s m args c cc maxL y.cls D tys → fp_H D b n A f s.heap H locs → lv_has ls maxL (lv_args 0 As) →
      fp_RetV l D b n A rm post cc p e s m args below meth c Q → W p l e rm s m args below meth c H locs 0 0 Q (F0 m 0 ls [])) : fp_M l D tys b n A y (fp_ws y cc maxL none) rm As f post := by
  refine va_MetF (cc := cc) (maxL := maxL) (ret := none) hy rfl ?_
  intro p e s m args below meth c s₁ B hml hv
  obtain ⟨rfl, hP, hK, hN, hb0⟩ := hv
  have hl := lv_entry As (n := maxL) hlen
  rw [lg_entry_eq]
  generalize (lg_sl As ++ List.replicate (maxL - (lg_sl As).length) Slot.unset).toArray = ls at hl ⊢
  have hts := atoms_spec (ws := fp_ws y cc maxL none) B.pre
  refine body p e s m _ below meth c _ ls s.heap [] ⟨⟨B.exec, B.bytes, hml, findClass_of_methodNamed B.named, fun w hw => hts w (List.mem_cons_of_mem _ hw)⟩, hK, hN⟩ ⟨hP, va_S.rf, hb0⟩ hl ?_
  intro pc ls f' H locs hd hp Y
  exact W.vret B.exec B.bytes B.returns (fun t ht hW => ⟨⟨_, f', rfl, hp, by rw [ht]; exact Y.1⟩, Y.2.1.F ht⟩) Y.2.1.2.2 hd (hlocks := B.notSynchronized)
end FPE
