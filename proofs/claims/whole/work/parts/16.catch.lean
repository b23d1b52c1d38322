/-! A call of a method that throws, and its handler; methods with handlers. -/
set_option maxHeartbeats 1000000 in
theorem fp_callT {p : Program} {l : Launch} {e : Env} {R : Room} {s : State} {m : MethodId} {args : Array Value} {below : List Frame} {meth : Method} {c : Code} {H : Heap} {locs : List Loc} {cells slots : Nat} {Q : State → Prop}
    {cc : ByteArray} {pc nL : Nat} {ls : Array Slot} {rest : List Value} {D : va_G} {a : Nat} {tys : List (ClassId × FieldType)} {b n : Nat} {A : Nat → Prop} {f : Nat → va_E} {own : String}
    {st0 : List Value} {y : MethodName} {bytes : ByteArray} {maxL index ci nA hp : Nat} {ret : Option FieldType} {rm : Room} {As : List Value} {fs : List Value} {q : vw_C} {C : String} (X : fp_X p s m args c cc nL own D tys) (Y : fp_H D b n A f s.heap H locs) (hEx : fp_Ex b s) (hbA : ∀ q : Nat, A q → b ≤ q)
    (hM : fp_T l D tys b n y (fp_ws y bytes maxL ret) rm (.ref a :: As) f C) (o : fp_o b n f a (.inr (ci, fs))) (hc : CL[ci]? = some q)
    (w1 : Cond.code y bytes maxL ret ∈ TG) (w2 : Cond.methodLink own index y ∈ TG) (w3 : Cond.instanceMethod y ∈ TG) (w4 : Cond.selects q.1 y y ∈ TG) (w5 : Cond.initialized y.cls ∈ TG)
    (hd : y.cls = q.1 ∧ y.cls ≠ "java/lang/invoke/MethodHandle" ∧ y.cls ≠ "java/lang/invoke/VarHandle" ∧ (parseMethodDescriptor y.desc).map (fun d => d.parameters.length) = some nA) (hrc : rm.cells = 1 ∧ rm.slots = 6) (hR : rm.frames + 1 ≤ R.frames ∧ 8 + (maxL + 11) + rm.locals ≤ R.locals)
    (hn : As.length = nA) (hsz : ls.size = nL) (hst : st0 = As.reverse ++ .ref a :: rest) (hroom : (rest.map fun v => v.category).sum ≤ 8) (hdg : decode cc pc = .ok (.invokevirtual index, 3)) (hcs : cells + 1 ≤ R.cells ∧ slots + 6 ≤ R.slots)
    (hfind : ∀ (S : State) (x : Addr) (cell : Cell), s.WarmedH S.vm → S.heap[x]? = some cell → cell.vm = .none → s.vm.findClass C = some cell.cls → e.platform.magicAccessors = ({} : Platform).magicAccessors →
      ∃ vm', s.WarmedH vm' ∧ ∀ (Q : Handler → Pre) (E : CtlPost) (d : Bool) (acts : List Action), wp (findHandler.go (F0 m pc ls rest) x c.exceptionTable.toList) Q E e d acts S ↔ Q (.found hp) d acts (S.setVm vm'))
    (kk : ∀ (x : Addr) (H1 : Heap) (locs1 : List Loc), fp_H D b n A f s.heap H1 locs1 → W p l e R s m args below meth c H1 locs1 (cells + 1) (slots + 6) Q (F0 m hp ls [.ref x])) : W p l e R s m args below meth c H locs cells slots Q (F0 m pc ls st0) := by
  subst hst
  obtain ⟨⟨hx, hb, hml, hown, hts⟩, hK, hN⟩ := X
  intro T hT X0
  obtain ⟨cellB, hcB, hoB, hclB⟩ := va_recv (H := H) hK (fp_one Y.1 o) hc (q0 := 0) rfl
  obtain ⟨mk, methM, hnamed, hmethM, hstM, habM⟩ := Cond.instanceMethod_spec (hts _ w3)
  obtain ⟨methM', cM, hmethM', hcodeM, -, hlocM, -, -, -, hsigM⟩ := Cond.code_spec hnamed (hts _ w1)
  cases hmethM.symm.trans hmethM'
  obtain ⟨c2, r2, m2, q1, q2, q3, q4, kP, hkP, hkPi⟩ := Cond.selects_spec (hts _ w4)
  cases hclB.symm.trans q1
  cases (State.methodFound?_of_named hnamed ⟨hd.2.1, hd.2.2.1⟩).symm.trans q2
  cases hnamed.symm.trans q3
  have hselP : selectMethod e.platform s.vm cellB.cls mk = .method mk := by rw [Launch.admits_selectMethod X0.admits]; exact q4
  have hlenA : As.length = methM.sig.parameters.length := by
    have h2 := hd.2.2.2
    rw [hsigM] at h2
    exact hn.trans (Option.some.inj h2).symm
  obtain ⟨vm₁, X₁, hstep₁⟩ := X0.invokevirtual hx hown (hts _ w2) hnamed hmethM hstM hkP hkPi ⟨hd.2.1, hd.2.2.1⟩ (a := a) (cell := cellB) (by rw [hT]; exact hcB) (fun z h => by rw [h] at hoB; cases hoB) hselP hmethM habM hkP hkPi (g := F0 m pc ls (As.reverse ++ .ref a :: rest)) rfl (argsL := As) (rest := rest) hlenA rfl (by rw [hb]; exact hdg)
  have hn₁ : (T.setVm vm₁).methodNamed? y = some mk := X₁.named hnamed
  have hws : ∀ w ∈ fp_ws y bytes maxL ret, ∀ (a' : Array Value) (U : State), s.WarmedH U.vm → w.before a' U = true := pay_in hts (fp_goodW w1)
  have hW₁ : s.WarmedH (T.setVm vm₁).vm := X₁.warmed
  obtain ⟨methY, cY, hmY, hcY, -, hlY, -, -, -, -⟩ := Cond.code_spec hn₁ (hws _ List.mem_cons_self (Value.ref a :: As).toArray (T.setVm vm₁) hW₁)
  obtain ⟨kY, hkY, -⟩ := className_of_methodNamed hn₁
  have hinitY : kY.init = .initialized := Cond.initialized_spec (findClass_of_methodNamed hn₁) hkY (hws _ (List.mem_cons_of_mem _ w5) (Value.ref a :: As).toArray (T.setVm vm₁) hW₁)
  have hsize : (F0 m pc ls rest).locals.size = c.maxLocals := hsz.trans hml.symm
  have h : At (T.setVm vm₁) (F0 m pc ls rest).method c below := X₁.here
  have hdg' : decode c.code (F0 m pc ls rest).pc = .ok (.invokevirtual index, 3) := by rw [hb]; exact hdg
  have hroom' : 2 * (F0 m pc ls rest).monitorRoom + ((F0 m pc ls rest).stack.map fun v => v.category).sum ≤ 8 := lv_room (m := m) (pc := pc) (ls := ls) (rest := rest) hroom
  have happ : (headSpec (fp_ws y bytes maxL ret) rm).appliesLoose y e.platform ((T.setVm vm₁).calling (F0 m pc ls rest) mk (Value.ref a :: As).toArray) = true :=
    Spec.appliesLoose_calling (g := F0 m pc ls rest) h hdg' hn₁ hkY hinitY
      (X₁.room_calling (g := F0 m pc ls rest) (R' := rm) hsize hmY hcY hR.1 (by rw [hlY]; have h9 := hR.2; omega) (by rw [hrc.1]; exact hcs.1) (by rw [hrc.2]; exact hcs.2)) (atoms_intro fun w hw => hws w hw _ _ hW₁)
  obtain ⟨mid, hmid⟩ := h.above
  have hfr : ((T.setVm vm₁).setTop (F0 m pc ls rest)).frames = (.java (F0 m pc ls rest) :: mid) ++ below := by rw [State.frames_setTop' (F0 m pc ls rest) h.top, hmid]; rfl
  have hheap : (T.setVm vm₁).heap = H := hT
  have hpre : va_Pc (.ref a :: As) (fp_BX D tys b n f) (Value.ref a :: As).toArray ((T.setVm vm₁).calling (F0 m pc ls rest) mk (Value.ref a :: As).toArray) := by
    refine ⟨rfl, ⟨?_, ?_, ?_, ?_⟩, ?_⟩
    · show fp_P D b n f (T.setVm vm₁).heap
      rw [hheap]; exact Y.1
    · exact va_K.moved (u := s) (U := (T.setVm vm₁).calling (F0 m pc ls rest) mk (Value.ref a :: As).toArray) hW₁.alike hK
    · exact fp_N.same (u := T.setVm vm₁) (U := (T.setVm vm₁).calling (F0 m pc ls rest) mk (Value.ref a :: As).toArray) rfl (hN.warm hW₁)
    · show b ≤ (T.setVm vm₁).heap.size
      rw [hheap]; exact Nat.le_trans Y.2.2 Y.2.1.1
    · refine fp_Ex.move (U := (T.setVm vm₁).calling (F0 m pc ls rest) mk (Value.ref a :: As).toArray) hW₁ (fun z hz => ?_) hEx
      show (T.setVm vm₁).heap[z]? = _
      rw [hheap]
      exact Y.2.1.2.1 z (Nat.lt_of_lt_of_le hz Y.2.2) (fun hA => absurd (hbA z hA) (by omega))
  obtain ⟨o2, s₂, hsteps, -, hend, hq⟩ := Steps.callFree hM p X₁.admits X₁.cas X₁.clock (acts := []) hfr happ hpre trivial
  obtain ⟨x, cell, rfl, hce, hcv, hcl, hWx, hsame⟩ := hq
  rw [State.frames_setTop' (F0 m pc ls rest) h.top, X₁.tail] at hend
  obtain ⟨T', X', hWT, hsameT, ht⟩ := X₁.outOfThrown (g := F0 m pc ls rest) rfl hend hWx hsame
  have hh' : T'.heap = s₂.heap := by rw [ht, Stand.throwing_heap]
  have hv' : T'.vm = s₂.vm := by rw [ht, Stand.throwing_vm]
  obtain ⟨vm', hW', hf⟩ := hfind ((T'.setTop (F0 m pc ls rest)).pushFrame (.throwing x)) x cell (by rw [Stand.throwing_vm]; exact X'.warmed) (by rw [Stand.throwing_heap, hh']; exact hce) hcv (by rw [← X'.warmed.alike.findClass, hv']; exact hcl) (by rw [X'.admits.platform])
  obtain ⟨X'', hst''⟩ := fh_caught X' rfl hW' hf
  rw [List.append_nil] at X''
  have hold : ∀ z : Nat, z < H.size → T'.heap[z]? = H[z]? := fun z hz => by
    have := fp_same hsameT z (by rw [hheap]; exact hz)
    rw [hheap] at this
    exact this
  have hszT : H.size ≤ T'.heap.size := by
    have := hsameT.2.1
    rw [hheap] at this
    exact this
  have Y' : fp_H D b n A f s.heap T'.heap locs := by
    refine ⟨fun z h1 h2 => ?_, ⟨Nat.le_trans Y.2.1.1 hszT, fun z h1 h2 => ?_, Y.2.1.2.2⟩, Y.2.2⟩
    · have hz := Y.1 z h1 h2
      exact hz.kept (hold z hz.lt)
    · rw [hold z (Nat.lt_of_lt_of_le h1 Y.2.1.1)]; exact Y.2.1.2.1 z h1 h2
  obtain ⟨t, a1, b1⟩ := kk x T'.heap locs Y' (T'.setVm vm') rfl X''
  refine ⟨t, hstep₁ _ (fun acts => ?_), b1⟩
  rw [doInvoke_state]
  refine hsteps.trans ?_
  rw [ht]
  exact hst'' t a1
/-- a contract of a method that may make a cell (an exception), over the whole world -/
def fp_MX (l : Launch) (D : va_G) (tys : List (ClassId × FieldType)) (b n : Nat) (A : Nat → Prop) (y : MethodName) (ws : List Cond) (rm : Room) (mc ms : Nat) (As : List Value) (f : Nat → va_E) (post : Option Value → (Nat → va_E) → Prop) : Prop :=
  Met l y ws rm (va_Pc As (fp_BX D tys b n f)) (fun _ => fp_E D b n A post) mc ms A
theorem fp_ofX {l : Launch} {D : va_G} {tys : List (ClassId × FieldType)} {b n : Nat} {A : Nat → Prop} {y : MethodName} {rm : Room} {mc ms : Nat} {As : List Value} {f : Nat → va_E} {post : Option Value → (Nat → va_E) → Prop} {cc : ByteArray} {maxL : Nat} {ty : FieldType} {hh : List (Nat × Nat × Nat × Nat)}
    (hy : plainName y.cls = true) (hlen : (lg_sl As).length ≤ maxL)
    (body : ∀ (p : Program) (e : Env) (s : State) (m : MethodId) (args : Array Value) (below : List Frame) (meth : Method) (c : Code) (Q : State → Prop) (ls : Array Slot) (H : Heap) (locs : List Loc), fp_X p s m args c cc maxL y.cls D tys → fp_H D b n A f s.heap H locs → lv_has ls maxL (lv_args 0 As) →
      fp_Ex b s → c.exceptionTable.toList = tableOf hh →
      (∀ (pc : Nat) (ls : Array Slot) (x : Int32) (f' : Nat → va_E) (H : Heap) (locs : List Loc) (cells slots : Nat), decode cc pc = .ok (.ireturn, 1) → narrow ty (.int x) = .int x → post (some (.int x)) f' → fp_H D b n A f' s.heap H locs → cells ≤ mc → slots ≤ ms → W p l e rm s m args below meth c H locs cells slots Q (F0 m pc ls [.int x])) →
      W p l e rm s m args below meth c H locs 0 0 Q (F0 m 0 ls [])) : fp_MX l D tys b n A y (Cond.codeWith y cc maxL (some ty) hh :: TG) rm mc ms As f post := by
  refine va_MetW (cc := cc) (maxL := maxL) (ret := some ty) (hh := hh) hy rfl ?_
  intro p e s m args below meth c s₁ B hml hv
  obtain ⟨rfl, ⟨hP, hK, hN, hb0⟩, hEx⟩ := hv
  have hl := lv_entry As (n := maxL) hlen
  rw [lg_entry_eq]
  generalize (lg_sl As ++ List.replicate (maxL - (lg_sl As).length) Slot.unset).toArray = ls at hl ⊢
  have hts := atoms_spec (ws := Cond.codeWith y cc maxL (some ty) hh :: TG) B.pre
  obtain ⟨m9, meth', c', hn9, hm', hc', -, -, htab, -, -, -⟩ := Cond.codeWith_spec (hts _ List.mem_cons_self)
  cases B.named.symm.trans hn9
  cases B.method.symm.trans hm'
  have X₀ := Stand.of_body B
  cases X₀.code.symm.trans hc'
  refine body p e s m _ below meth c _ ls s.heap [] ⟨⟨B.exec, B.bytes, hml, findClass_of_methodNamed B.named, fun w hw => hts w (List.mem_cons_of_mem _ hw)⟩, hK, hN⟩ ⟨hP, va_S.rf, hb0⟩ hl hEx (by rw [← htab]; exact (table_eq _).symm) ?_
  intro pc ls x f' H locs cells slots hd hnar hp Y h1 h2
  refine W.widen h1 h2 ?_
  exact W.zret B.exec B.bytes B.returns hnar (fun t ht hW => ⟨⟨_, f', rfl, hp, by rw [ht]; exact Y.1⟩, Y.2.1.F ht⟩) Y.2.1.2.2 hd (hlocks := B.notSynchronized)
