/-! Making: where the heap's end is known, a new cell lies right behind the world. Contracts of constructors, their calls. -/
/-- the addresses from b on -/
abbrev fz_A (b : Nat) : Nat → Prop := fun q => b ≤ q
theorem fz_W {b n : Nat} : fp_W b n (fz_A b) := fun _ h _ => h
/-- the words on arrays of references -/
def fp_AO (U : State) : Prop := va_AO "EntryTables$Action" U ∧ va_AO "EntryTables$Doing" U ∧ va_AO "EntryTables$Entry" U ∧ va_AO "EntryTables$Table" U
theorem fp_AO.moved {u U : State} (hvm : u.vm.Alike U.vm) (h : fp_AO u) : fp_AO U := ⟨h.1.moved hvm, h.2.1.moved hvm, h.2.2.1.moved hvm, h.2.2.2.moved hvm⟩
section FZ
variable {p : Program} {l : Launch} {e : Env} {R : Room} {s : State} {m : MethodId} {args : Array Value} {below : List Frame} {meth : Method} {c : Code} {H : Heap} {locs : List Loc} {cells slots : Nat} {Q : State → Prop}
variable {cc : ByteArray} {pc nL : Nat} {ls : Array Slot} {rest : List Value} {D : va_G} {a : Nat} {g : Nat → ClassId} {b n : Nat} {A : Nat → Prop} {f : Nat → va_E} {own : String} {N : Nat} {i : Int32}
theorem fz_bd {gf : JFrame} (kk : H.size ≤ s.heap.size + cells → W p l e R s m args below meth c H locs cells slots Q gf) : W p l e R s m args below meth c H locs cells slots Q gf := by
  intro T hT X
  have h1 : T.heap.size ≤ s.heap.size + cells := X.same.2.2.1
  rw [hT] at h1
  exact kk h1 T hT X
theorem fz_ge (Y : fp_H D b n A f s.heap H locs) (hs : b + n ≤ s.heap.size + cells) (hz : n = 0 ∨ 0 < n) : b + n ≤ H.size := by
  rcases hz with h0 | h0
  · have h1 := Y.2.2
    have h2 := Y.2.1.1
    omega
  · have h1 := (Y.1 (b + n - 1) (by omega) (by omega)).lt
    have h2 : b + n - 1 < H.size := h1
    omega
theorem fz_size {gf : JFrame} (Y : fp_H D b n A f s.heap H locs) (hs : s.heap.size + cells = b + n) (kk : H.size = b + n → W p l e R s m args below meth c H locs cells slots Q gf) : W p l e R s m args below meth c H locs cells slots Q gf :=
  fz_bd (fun h => kk (by have := fz_ge (cells := cells) Y (by omega) (by omega); omega))
theorem fz_last {q : Nat} {e0 : va_E} {H1 : Heap} (hP : va_P D CL (va_pl (List.range' b n) f ++ [(q, e0)]) H1) (hD : va_D (fz_A b) (va_pl (List.range' b n) f ++ [(q, e0)])) : b + n ≤ q ∧ q < H1.size := by
  have hlen : (va_pl (List.range' b n) f).length = n := by simp [va_pl]
  have hl : (va_pl (List.range' b n) f ++ [(q, e0)])[n]? = some (q, e0) := by
    rw [List.getElem?_append_right (by omega), hlen, Nat.sub_self]; rfl
  have h1 : b ≤ q := hD.2 n _ hl
  have h2 : q < H1.size := (hP n _ hl).lt
  refine ⟨?_, h2⟩
  by_cases h : b + n ≤ q
  · exact h
  · have hi : (va_pl (List.range' b n) f ++ [(q, e0)])[q - b]? = some (q, f q) := by
      rw [List.getElem?_append_left (by omega)]
      simp only [va_pl, List.getElem?_map]
      rw [List.getElem?_range' (by omega)]
      simp only [Option.map_some]
      rw [show b + 1 * (q - b) = q by omega]
    have := hD.1 _ _ _ _ hi hl rfl
    omega
theorem fz_grow {q : Nat} {e0 : va_E} {H1 : Heap} (hP : va_P D CL (va_pl (List.range' b n) f ++ [(q, e0)]) H1) (hq : q = b + n) : fp_P D b (n + 1) (va_up f (b + n) e0) H1 := by
  subst hq
  have hlen : (va_pl (List.range' b n) f).length = n := by simp [va_pl]
  intro a h1 h2
  by_cases h : a = b + n
  · subst h
    rw [va_up_self]
    refine hP n _ ?_
    rw [List.getElem?_append_right (by omega), hlen, Nat.sub_self]; rfl
  · rw [va_up_ne _ _ h]
    refine hP (a - b) _ ?_
    rw [List.getElem?_append_left (by omega)]
    simp only [va_pl, List.getElem?_map]
    rw [List.getElem?_range' (by omega)]
    simp only [Option.map_some]
    rw [show b + 1 * (a - b) = a by omega]
theorem fz_new {C : String} {T : u_T} {ci index : Nat} {fs : List Value} (X : fp_X p s m args c cc nL own D (TY g)) (Y : fp_H D b n (fz_A b) f s.heap H locs) (hs : s.heap.size + cells = b + n) (hc : CL[ci]? = some (C, T, N)) (hin : ∀ w ∈ u_ws C T N, w ∈ TG) {ty0 : Nat → FieldType} (hty : ∀ k, k < N → parseFieldDescriptor (T k).2.2.1 = some (ty0 k))
    (w1 : Cond.classLink own index C ∈ TG) (w2 : Cond.instantiable C N ∈ TG) (w3 : Cond.initialized C ∈ TG) (hfs : ∀ j, j < N → defaultValue (ty0 j) = vp_V fs j) (hcs : cells + 1 ≤ R.cells ∧ slots + N ≤ R.slots) (hdg : decode cc pc = .ok (.new index, 3))
    (kk : ∀ H1 : Heap, fp_H D b (n + 1) (fz_A b) (va_up f (b + n) (ob ci fs)) s.heap H1 locs → W p l e R s m args below meth c H1 locs (cells + 1) (slots + N) Q (F0 m (pc + 3) ls (.ref (b + n) :: rest))) : W p l e R s m args below meth c H locs cells slots Q (F0 m pc ls rest) := by
  obtain ⟨⟨hx, hb, hml, hown, hts⟩, hK, hN⟩ := X
  refine va_new (A := fz_A b) hx hb hts hin ty0 hty hown (hts _ w1) (hts _ w2) (hts _ w3) hK Y.1.w (fp_P.d fz_W) Y.2.1 (fun q h => Nat.le_trans Y.2.2 h) hc hfs hcs.1 hcs.2 hdg (fun q H1 hP hD hS => ?_)
  refine fz_bd (fun h9 => ?_)
  obtain ⟨h1, h2⟩ := fz_last hP hD
  have hq : q = b + n := by omega
  have hP1 := fz_grow hP hq
  subst hq
  exact kk H1 ⟨hP1, hS, Y.2.2⟩
theorem fz_newI (X : fp_X p s m args c cc nL own D (TY g)) (Y : fp_H D b n (fz_A b) f s.heap H locs) (hs : s.heap.size + cells = b + n) (w1 : Cond.arrayClass FieldType.int ∈ TG) (hi : i = nI N) (hN : N < 2 ^ 20) (hcs : cells + 1 ≤ R.cells ∧ slots + N ≤ R.slots) (hdg : decode cc pc = .ok (.newarray .int, 2))
    (kk : ∀ H1 : Heap, fp_H D b (n + 1) (fz_A b) (va_up f (b + n) (aI g N (fun _ => 0))) s.heap H1 locs → W p l e R s m args below meth c H1 locs (cells + 1) (slots + N) Q (F0 m (pc + 2) ls (.ref (b + n) :: rest))) : W p l e R s m args below meth c H locs cells slots Q (F0 m pc ls (.int i :: rest)) := by
  subst hi
  obtain ⟨⟨hx, hb, hml, hown, hts⟩, hK, hNw⟩ := X
  refine va_newa (A := fz_A b) (atype := .int) (ty := .int) (a0 := (N, .inl (fun _ => 0))) hx hb (hts _ w1) rfl hK Y.1.w (fp_P.d fz_W) Y.2.1 (fun q h => Nat.le_trans Y.2.2 h) (fun _ => rfl) (nI_pos (by omega)) (nI_clamp (by omega)) (by simp only [componentBytes]; omega) hcs.1 hcs.2 hdg (fun q cA H1 hK1 hP hD hS => ?_)
  have e1 : cA = g 0 := by
    have h1 : s.vm.findClass _ = some cA := (hK1.2 6 (cA, .int) rfl).2
    have h2 : s.vm.findClass _ = some (g 0) := (hK.2 0 (g 0, .int) rfl).2
    exact Option.some.inj (h1.symm.trans h2)
  subst e1
  refine fz_bd (fun h9 => ?_)
  obtain ⟨h1, h2⟩ := fz_last hP hD
  have hq : q = b + n := by omega
  have hP1 := fz_grow hP hq
  subst hq
  exact kk H1 ⟨hP1, hS, Y.2.2⟩
theorem fz_newL (X : fp_X p s m args c cc nL own D (TY g)) (Y : fp_H D b n (fz_A b) f s.heap H locs) (hs : s.heap.size + cells = b + n) (w1 : Cond.arrayClass FieldType.long ∈ TG) (hi : i = nI N) (hN : N < 2 ^ 20) (hcs : cells + 1 ≤ R.cells ∧ slots + N ≤ R.slots) (hdg : decode cc pc = .ok (.newarray .long, 2))
    (kk : ∀ H1 : Heap, fp_H D b (n + 1) (fz_A b) (va_up f (b + n) (aL g N (fun _ => 0))) s.heap H1 locs → W p l e R s m args below meth c H1 locs (cells + 1) (slots + N) Q (F0 m (pc + 2) ls (.ref (b + n) :: rest))) : W p l e R s m args below meth c H locs cells slots Q (F0 m pc ls (.int i :: rest)) := by
  subst hi
  obtain ⟨⟨hx, hb, hml, hown, hts⟩, hK, hNw⟩ := X
  refine va_newa (A := fz_A b) (atype := .long) (ty := .long) (a0 := (N, .inr (.inl (fun _ => 0)))) hx hb (hts _ w1) rfl hK Y.1.w (fp_P.d fz_W) Y.2.1 (fun q h => Nat.le_trans Y.2.2 h) (fun _ => rfl) (nI_pos (by omega)) (nI_clamp (by omega)) (by simp only [componentBytes]; omega) hcs.1 hcs.2 hdg (fun q cA H1 hK1 hP hD hS => ?_)
  have e1 : cA = g 5 := by
    have h1 : s.vm.findClass _ = some cA := (hK1.2 6 (cA, .long) rfl).2
    have h2 : s.vm.findClass _ = some (g 5) := (hK.2 5 (g 5, .long) rfl).2
    exact Option.some.inj (h1.symm.trans h2)
  subst e1
  refine fz_bd (fun h9 => ?_)
  obtain ⟨h1, h2⟩ := fz_last hP hD
  have hq : q = b + n := by omega
  have hP1 := fz_grow hP hq
  subst hq
  exact kk H1 ⟨hP1, hS, Y.2.2⟩
theorem fz_newq {C : String} {index : Nat} (t0 : Nat) (ht : (TY g)[t0]? = some (g t0, .object C)) (X : fp_X p s m args c cc nL own D (TY g)) (Y : fp_H D b n (fz_A b) f s.heap H locs) (hs : s.heap.size + cells = b + n) (hO : va_AO C s) (w1 : Cond.classLink own index C ∈ TG) (hi : i = nI N) (hN : N < 2 ^ 20) (hcs : cells + 1 ≤ R.cells ∧ slots + N ≤ R.slots) (hdg : decode cc pc = .ok (.anewarray index, 3))
    (kk : ∀ H1 : Heap, fp_H D b (n + 1) (fz_A b) (va_up f (b + n) (aR g t0 N (fun _ => none))) s.heap H1 locs → W p l e R s m args below meth c H1 locs (cells + 1) (slots + N) Q (F0 m (pc + 3) ls (.ref (b + n) :: rest))) : W p l e R s m args below meth c H locs cells slots Q (F0 m pc ls (.int i :: rest)) := by
  subst hi
  obtain ⟨⟨hx, hb, hml, hown, hts⟩, hK, hNw⟩ := X
  refine va_newq (A := fz_A b) hx hb hown (hts _ w1) hO hK Y.1.w (fp_P.d fz_W) Y.2.1 (fun q h => Nat.le_trans Y.2.2 h) (nI_pos (by omega)) (nI_clamp (by omega)) (by omega) hcs.1 hcs.2 hdg (fun q cA H1 hK1 hP hD hS => ?_)
  have e1 : cA = g t0 := by
    obtain ⟨_, _, -, -, -, h1⟩ := (hK1.2 6 (cA, .object C) rfl).2
    obtain ⟨_, _, -, -, -, h2⟩ := (hK.2 t0 (g t0, .object C) ht).2
    exact Option.some.inj (h1.symm.trans h2)
  subst e1
  refine fz_bd (fun h9 => ?_)
  obtain ⟨h1, h2⟩ := fz_last hP hD
  have hq : q = b + n := by omega
  have hP1 := fz_grow hP hq
  subst hq
  exact kk H1 ⟨hP1, hS, Y.2.2⟩
/-- Object.<init> -/
theorem fz_obj {idx : Nat} (X : fp_X p s m args c cc nL own D (TY g)) (w1 : Cond.methodLink own idx y_JO_init ∈ TG) (w2 : Cond.instanceMethod y_JO_init ∈ TG) (w3 : Cond.code y_JO_init object_method_1_code 1 none ∈ TG) (hsz : ls.size = nL) (hdg : decode cc pc = .ok (.invokespecial idx, 3)) (hf : 1 ≤ R.frames) (hr : (rest.map fun v => v.category).sum + 12 ≤ R.locals)
    (kk : W p l e R s m args below meth c H locs cells slots Q (F0 m (pc + 3) ls rest)) : W p l e R s m args below meth c H locs cells slots Q (F0 m pc ls (.ref a :: rest)) := by
  obtain ⟨⟨hx, hb, hml, hown, hts⟩, hK, hNw⟩ := X
  exact W.objInit hx hb hown (hts _ w1) (hts _ w2) (hts _ w3) rfl (hsz.trans hml.symm) rfl hdg hf (by simpa [JFrame.monitorRoom, F0] using hr) kk
/-- a constructor's start and end -/
def fp_BG (D : va_G) (tys : List (ClassId × FieldType)) (b n : Nat) (f : Nat → va_E) (U : State) : Prop := fp_B D tys b n f U ∧ fp_AO U ∧ U.heap.size = b + n
def fp_EG (D : va_G) (b n k : Nat) (post : (Nat → va_E) → Prop) (st : State) (oc : Outcome) (t : State) : Prop := (∃ f' : Nat → va_E, oc = .returned none ∧ post f' ∧ fp_P D b (n + k) f' t.heap) ∧ va_F (fz_A b) st t
def fp_MG (l : Launch) (D : va_G) (tys : List (ClassId × FieldType)) (b n k ms : Nat) (y : MethodName) (ws : List Cond) (rm : Room) (As : List Value) (f : Nat → va_E) (post : (Nat → va_E) → Prop) : Prop :=
  Met l y ws rm (va_Pc As (fp_BG D tys b n f)) (fun _ => fp_EG D b n k post) k ms (fz_A b)
theorem fz_blind {tys : List (ClassId × FieldType)} {As : List Value} : FrameBlind (va_Pc As (fp_BG D tys b n f)) := fun a U gf mk q => by
  obtain ⟨q0, ⟨q1, qK, qN, q2⟩, q3, q4⟩ := q
  exact ⟨q0, ⟨q1, va_K.moved (u := U) (U := U.calling gf mk a) (Vm.Alike.refl U.vm) qK, fp_N.same (u := U) (U := U.calling gf mk a) rfl qN, q2⟩, fp_AO.moved (u := U) (U := U.calling gf mk a) (Vm.Alike.refl U.vm) q3, q4⟩
theorem fz_pre {As : List Value} (X : fp_X p s m args c cc nL own D (TY g)) (hO : fp_AO s) (Y : fp_H D b n A f s.heap H locs) (hsz : H.size = b + n) : PreS s H (va_Pc As (fp_BG D (TY g) b n f)) As :=
  ⟨fz_blind, fun U hU hW => ⟨rfl, ⟨by rw [hU]; exact Y.1, va_K.moved hW.alike X.2.1, X.2.2.warm hW, by rw [hU]; exact Nat.le_trans Y.2.2 Y.2.1.1⟩, hO.moved hW.alike, by rw [hU]; exact hsz⟩⟩
theorem fz_call {k ms : Nat} {post : (Nat → va_E) → Prop} {st0 : List Value} (Y : fp_H D b n (fz_A b) f s.heap H locs)
    (hr : va_Run p l e R s m args below meth c H locs cells slots k ms (F0 m pc ls st0) rest (fp_EG D b n k post) (fz_A b))
    (kk : ∀ (f' : Nat → va_E) (H1 : Heap) (locs1 : List Loc), post f' → fp_H D b (n + k) (fz_A b) f' s.heap H1 locs1 → W p l e R s m args below meth c H1 locs1 (cells + k) (slots + ms) Q (F0 m (pc + 3) ls rest)) : W p l e R s m args below meth c H locs cells slots Q (F0 m pc ls st0) := by
  intro T hT X
  obtain ⟨v, st₀, t, T', L, h0, X', hL, e1, e2, ⟨⟨f', hv, hp, hb⟩, hz, hk⟩, st⟩ := hr T hT X
  cases hv
  rw [h0] at hz hk
  obtain ⟨hP, hS, hb0⟩ := Y
  obtain ⟨t2, a1, b1⟩ := kk f' T'.heap (locs ++ L) hp ⟨by rw [e1]; exact hb, ⟨Nat.le_trans hS.1 (by rw [e1]; exact hz), fun q h1 h2 => by rw [e1, hk q (Nat.lt_of_lt_of_le h1 hS.1) h2]; exact hS.2.1 q h1 h2, fun q hq => by
      rcases List.mem_append.mp hq with h | h
      · exact hS.2.2 q h
      · exact hL q h⟩, hb0⟩ T' rfl X'
  exact ⟨t2, st t2 a1, b1⟩
theorem fz_callI {k ms : Nat} {post : (Nat → va_E) → Prop} {y : MethodName} {bytes : ByteArray} {maxL index : Nat} {rm : Room} (X : fp_X p s m args c cc nL own D (TY g)) (hO : fp_AO s) (Y : fp_H D b n (fz_A b) f s.heap H locs) (hs : s.heap.size + cells = b + n)
    (hM : fp_MG l D (TY g) b n k ms y (fp_ws y bytes maxL none) rm [.ref a] f post)
    (w1 : Cond.code y bytes maxL none ∈ TG) (w2 : Cond.methodLink own index y ∈ TG) (w3 : Cond.instanceMethod y ∈ TG) (w4 : Cond.initialized y.cls ∈ TG)
    (hd : y.cls ≠ "java/lang/invoke/MethodHandle" ∧ y.cls ≠ "java/lang/invoke/VarHandle" ∧ (parseMethodDescriptor y.desc).map (fun d => d.parameters.length) = some 0) (hnm : y.name = "<init>") (hrc : rm.cells = k ∧ rm.slots = ms) (hR : rm.frames + 1 ≤ R.frames ∧ 8 + (maxL + 11) + rm.locals ≤ R.locals)
    (hsz : ls.size = nL) (hroom : (rest.map fun v => v.category).sum ≤ 8) (hdg : decode cc pc = .ok (.invokespecial index, 3)) (hcs : cells + k ≤ R.cells ∧ slots + ms ≤ R.slots)
    (kk : ∀ (f' : Nat → va_E) (H1 : Heap) (locs1 : List Loc), post f' → fp_H D b (n + k) (fz_A b) f' s.heap H1 locs1 → W p l e R s m args below meth c H1 locs1 (cells + k) (slots + ms) Q (F0 m (pc + 3) ls rest)) : W p l e R s m args below meth c H locs cells slots Q (F0 m pc ls (.ref a :: rest)) := by
  have hts := X.1.2.2.2.2
  refine fz_size Y hs (fun h9 => ?_)
  exact fz_call (rest := rest) Y (va_runI (As := []) (rest := rest) X.1 hM ⟨callB_of 0 hts (fp_goodW w1) rfl hrc.1 hrc.2 (hts _ w4) (hts _ w2) hd hR, hnm, hts _ w3⟩ (fz_pre X hO Y h9) rfl rfl hsz rfl (lv_room hroom) hdg hcs) kk
theorem fz_callIN {k ms : Nat} {post : (Nat → va_E) → Prop} {y : MethodName} {bytes : ByteArray} {maxL index : Nat} {rm : Room} {host : String} (X : fp_X p s m args c cc nL own D (TY g)) (hO : fp_AO s) (Y : fp_H D b n (fz_A b) f s.heap H locs) (hs : s.heap.size + cells = b + n)
    (hM : fp_MG l D (TY g) b n k ms y (fp_ws y bytes maxL none) rm [.ref a] f post)
    (w1 : Cond.code y bytes maxL none ∈ TG) (w2 : Cond.methodLinkNest own index y host ∈ NWs) (w3 : Cond.instanceMethod y ∈ TG) (w4 : Cond.initialized y.cls ∈ TG)
    (hd : y.cls ≠ "java/lang/invoke/MethodHandle" ∧ y.cls ≠ "java/lang/invoke/VarHandle" ∧ (parseMethodDescriptor y.desc).map (fun d => d.parameters.length) = some 0) (hnm : y.name = "<init>") (hrc : rm.cells = k ∧ rm.slots = ms) (hR : rm.frames + 1 ≤ R.frames ∧ 8 + (maxL + 11) + rm.locals ≤ R.locals)
    (hsz : ls.size = nL) (hroom : (rest.map fun v => v.category).sum ≤ 8) (hdg : decode cc pc = .ok (.invokespecial index, 3)) (hcs : cells + k ≤ R.cells ∧ slots + ms ≤ R.slots)
    (kk : ∀ (f' : Nat → va_E) (H1 : Heap) (locs1 : List Loc), post f' → fp_H D b (n + k) (fz_A b) f' s.heap H1 locs1 → W p l e R s m args below meth c H1 locs1 (cells + k) (slots + ms) Q (F0 m (pc + 3) ls rest)) : W p l e R s m args below meth c H locs cells slots Q (F0 m pc ls (.ref a :: rest)) := by
  have hts := X.1.2.2.2.2
  refine fz_size Y hs (fun h9 => ?_)
  exact fz_call (rest := rest) Y (va_runIN (As := []) (rest := rest) X.1 hM ⟨va_cnB 0 hts (fp_goodW w1) rfl hrc.1 hrc.2 (X.2.2 _ w2) (hts _ w4) hd hR, hnm, hts _ w3⟩ (fz_pre X hO Y h9) rfl rfl hsz rfl (lv_room hroom) hdg hcs) kk
theorem fp_ofG {k ms : Nat} {y : MethodName} {rm : Room} {As : List Value} {post : (Nat → va_E) → Prop} {maxL : Nat} (hy : plainFor y = true) (hnm : y.name = "<init>") (hlen : (lg_sl As).length ≤ maxL)
    (body : ∀ (p : Program) (e : Env) (s : State) (m : MethodId) (args : Array Value) (below : List Frame) (meth : Method) (c : Code) (Q : State → Prop) (ls : Array Slot) (H : Heap) (locs : List Loc), fp_X p s m args c cc maxL y.cls D (TY g) → fp_AO s → fp_H D b n (fz_A b) f s.heap H locs → s.heap.size = b + n → meth.name = "<init>" → lv_has ls maxL (lv_args 0 As) →
      (∀ (pc : Nat) (ls : Array Slot) (f' : Nat → va_E) (H : Heap) (locs : List Loc) (cells slots : Nat), decode cc pc = .ok (.return_, 1) → post f' → fp_H D b (n + k) (fz_A b) f' s.heap H locs → cells ≤ k → slots ≤ ms → W p l e rm s m args below meth c H locs cells slots Q (F0 m pc ls [])) →
      W p l e rm s m args below meth c H locs 0 0 Q (F0 m 0 ls [])) : fp_MG l D (TY g) b n k ms y (fp_ws y cc maxL none) rm As f post := by
  refine va_MetF (cc := cc) (maxL := maxL) (ret := none) hy rfl ?_
  intro p e s m args below meth c s₁ B hml hv
  obtain ⟨rfl, ⟨hP, hK, hN, hb0⟩, hO, hsz⟩ := hv
  have hl := lv_entry As (n := maxL) hlen
  rw [lg_entry_eq]
  generalize (lg_sl As ++ List.replicate (maxL - (lg_sl As).length) Slot.unset).toArray = ls at hl ⊢
  have hts := atoms_spec (ws := fp_ws y cc maxL none) B.pre
  refine body p e s m _ below meth c _ ls s.heap [] ⟨⟨B.exec, B.bytes, hml, findClass_of_methodNamed B.named, fun w hw => hts w (List.mem_cons_of_mem _ hw)⟩, hK, hN⟩ hO ⟨hP, va_S.rf, hb0⟩ hsz ((name_of_methodNamed B.named B.method).1.trans hnm) hl ?_
  intro pc ls f' H locs cells slots hd hp Y h1 h2
  refine W.widen h1 h2 ?_
  exact W.vret B.exec B.bytes B.returns (fun t ht hW => ⟨⟨f', rfl, hp, by rw [ht]; exact Y.1⟩, Y.2.1.F ht⟩) Y.2.1.2.2 hd (hlocks := B.notSynchronized)
end FZ
abbrev rmG (d k ms : Nat) : Room := { frames := d, cells := k, slots := ms, locals := 40 * d }
theorem fp_o.gr {b n : Nat} {f : Nat → va_E} {a : Nat} {e e0 : va_E} (o : fp_o b n f a e) : fp_o b (n + 1) (va_up f (b + n) e0) a e := ⟨o.1, by have := o.2.1; omega, by rw [va_up_ne _ _ (by have := o.2.1; omega)]; exact o.2.2⟩
theorem fp_o.nw {b n : Nat} {f : Nat → va_E} {e0 : va_E} : fp_o b (n + 1) (va_up f (b + n) e0) (b + n) e0 := ⟨by omega, by omega, va_up_self _ _ _⟩
theorem fp_o.kp {b n n' : Nat} {f f' : Nat → va_E} {a x : Nat} {e : va_E} (hk : ∀ q : Nat, q < b + n → q ≠ a → f' q = f q) (hn : n ≤ n') (o : fp_o b n f x e) (h : x ≠ a) : fp_o b n' f' x e := ⟨o.1, by have := o.2.1; omega, by rw [hk x o.2.1 h]; exact o.2.2⟩
theorem fp_H.cast {D : va_G} {b n n' : Nat} {A : Nat → Prop} {f : Nat → va_E} {H0 H : Heap} {locs : List Loc} (h : n = n') (Y : fp_H D b n A f H0 H locs) : fp_H D b n' A f H0 H locs := h ▸ Y
theorem fz_cs {p : Program} {l : Launch} {e : Env} {R : Room} {s : State} {m : MethodId} {args : Array Value} {below : List Frame} {meth : Method} {c : Code} {H : Heap} {locs : List Loc} {cells slots cells' slots' : Nat} {Q : State → Prop} {gf : JFrame} (h1 : cells = cells') (h2 : slots = slots') (kk : W p l e R s m args below meth c H locs cells' slots' Q gf) : W p l e R s m args below meth c H locs cells slots Q gf := by
  subst h1; subst h2; exact kk
