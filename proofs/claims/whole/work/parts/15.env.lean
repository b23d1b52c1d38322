/-! What a method that throws needs of the state: the words on exceptions, the String constants, which of the three classes isn't which; and that this stays while nothing below b changes. -/
def fp_IA : String := "java/lang/IllegalArgumentException"
def fp_IS : String := "java/lang/IllegalStateException"
def fp_IO : String := "java/lang/IndexOutOfBoundsException"
def EXL : List (Nat × String) := [(70, "java/lang/IllegalArgumentException"), (81, "java/lang/IllegalStateException"), (94, "java/lang/IndexOutOfBoundsException")]
def EXS : List (Nat × String) := [(68, "a width is 1 to 32 bits"), (79, "there are 16 fields"), (92, "no such field"), (102, "there are 16 actions"), (105, "no such kind of doing"), (114, "no such action, field, array or datum"), (117, "the action has four doings"), (128, "no such fields or actions"), (133, "no such way to match the keys"), (135, "there are 8 tables"), (152, "no such table")]
def EXN : List (String × String) := [("java/lang/IllegalStateException", "java/lang/IllegalArgumentException"), ("java/lang/IllegalArgumentException", "java/lang/IndexOutOfBoundsException"), ("java/lang/IllegalStateException", "java/lang/IndexOutOfBoundsException"), ("java/lang/IllegalArgumentException", "java/lang/IllegalStateException"), ("java/lang/IndexOutOfBoundsException", "java/lang/IllegalArgumentException"), ("java/lang/IndexOutOfBoundsException", "java/lang/IllegalStateException")]
/-- Throwable's statics lie below b -/
def fp_Z (b : Nat) (U : State) : Prop := ∀ (c : ClassId) (k : Class) (i : Nat), U.vm.findClass "java/lang/Throwable" = some c → U.vm.classes[c]? = some k → k.statics = some i → i < b
def fp_Ex (b : Nat) (U : State) : Prop := fp_Z b U ∧ (∀ q ∈ EXL, ∀ a ∈ Bundle.ownAtoms "EntryTables" q.1 q.2 fp_up, a.before #[] U = true) ∧ (∀ q ∈ EXS, (Cond.stringRef "EntryTables" q.1 q.2).before #[] U = true) ∧ ∀ q ∈ EXN, va_Nc q.1 q.2 U
/-- the four words on Throwable's statics -/
def fp_st (a : Cond) : Bool := a == .laysStatic "java/lang/Throwable" "UNASSIGNED_STACK" "[Ljava/lang/StackTraceElement;" || a == .laysStatic "java/lang/Throwable" "SUPPRESSED_SENTINEL" "Ljava/util/List;" || a == .isRef (.static "java/lang/Throwable" "UNASSIGNED_STACK" "[Ljava/lang/StackTraceElement;") || a == .isRef (.static "java/lang/Throwable" "SUPPRESSED_SENTINEL" "Ljava/util/List;")
theorem fp_own_kinds : ∀ q ∈ EXL, ∀ a ∈ Bundle.ownAtoms "EntryTables" q.1 q.2 fp_up, a.onTables = true ∨ fp_st a = true := by
  have h : EXL.all (fun q => (Bundle.ownAtoms "EntryTables" q.1 q.2 fp_up).all (fun a => a.onTables || fp_st a)) = true := by decide +kernel
  intro q hq a ha
  have := List.all_eq_true.mp (List.all_eq_true.mp h q hq) a ha
  simpa using this
theorem fp_ff_eq {A U : State} (hv : A.vm = U.vm) (C n d : String) : A.fieldFound? C n d = U.fieldFound? C n d := by unfold State.fieldFound?; rw [hv]
theorem fp_ls_move {A U : State} {o n d : String} (hv : A.vm = U.vm) (hb : ∀ (c : ClassId) (k : Class) (i : Nat), U.vm.findClass o = some c → U.vm.classes[c]? = some k → k.statics = some i → U.heap[i]? = A.heap[i]?) (h : (Cond.laysStatic o n d).before #[] A = true) : (Cond.laysStatic o n d).before #[] U = true := by
  obtain ⟨c, k, i, f, a, cell, h1, h2, h3, h4, h5, h6, h7, h8, h9⟩ := Cond.laysStatic_spec h
  rw [hv] at h1
  rw [fp_ff_eq hv] at h2
  obtain ⟨hk, -⟩ : U.vm.classes[c]? = some k ∧ True := ⟨(State.fieldFound?_spec h2).1, trivial⟩
  have hc : U.heap[a]? = some cell := by rw [hb c k a h1 hk h4]; exact h5
  simp [Cond.before, Cond.holds, Cond.value, h1, h2, h3, h4, hc, h6, h7, h8, h9]
theorem fp_rs_move {A U : State} {o n d : String} (hv : A.vm = U.vm) (hb : ∀ (c : ClassId) (k : Class) (i : Nat), U.vm.findClass o = some c → U.vm.classes[c]? = some k → k.statics = some i → U.heap[i]? = A.heap[i]?) (hl : (Cond.laysStatic o n d).before #[] A = true) (h : (Cond.isRef (.static o n d)).before #[] A = true) : (Cond.isRef (.static o n d)).before #[] U = true := by
  obtain ⟨c, k, i, f, a, cell, h1, h2, h3, h4, h5, h6, h7, h8, h9⟩ := Cond.laysStatic_spec hl
  have h2' := h2
  rw [hv] at h1
  rw [fp_ff_eq hv] at h2
  obtain ⟨hk, -⟩ : U.vm.classes[c]? = some k ∧ True := ⟨(State.fieldFound?_spec h2).1, trivial⟩
  have hc : U.heap[a]? = some cell := by rw [hb c k a h1 hk h4]; exact h5
  have e : (Term.static o n d).eval #[] U none [] U = (Term.static o n d).eval #[] A none [] A := by simp [Term.eval, State.fieldNamed?, h2, h2', h3, h4, hc, h5]
  simp only [Cond.before, Cond.holds, Cond.value] at h ⊢
  rw [e]
  exact h
theorem fp_st_or {a : Cond} (h : fp_st a = true) : a = .laysStatic "java/lang/Throwable" "UNASSIGNED_STACK" "[Ljava/lang/StackTraceElement;" ∨ a = .laysStatic "java/lang/Throwable" "SUPPRESSED_SENTINEL" "Ljava/util/List;" ∨ a = .isRef (.static "java/lang/Throwable" "UNASSIGNED_STACK" "[Ljava/lang/StackTraceElement;") ∨ a = .isRef (.static "java/lang/Throwable" "SUPPRESSED_SENTINEL" "Ljava/util/List;") := by
  simp only [fp_st, Bool.or_eq_true, beq_iff_eq] at h
  rcases h with ((h | h) | h) | h
  · exact Or.inl h
  · exact Or.inr (Or.inl h)
  · exact Or.inr (Or.inr (Or.inl h))
  · exact Or.inr (Or.inr (Or.inr h))
theorem fp_Z.move {b : Nat} {s U : State} (hW : s.WarmedH U.vm) (h : fp_Z b s) : fp_Z b U := by
  intro c k i h1 h2 h3
  rw [hW.alike.findClass] at h1
  obtain ⟨k0, hk0⟩ := Vm.classAt_of_findClass h1
  obtain ⟨k', hk', he⟩ := hW.alike.2.2 _ _ hk0
  cases Option.some.inj (h2.symm.trans hk')
  rw [he] at h3
  exact h c k0 i h1 hk0 h3
theorem fp_Ex.move {b : Nat} {s U : State} (hW : s.WarmedH U.vm) (hH : ∀ q : Nat, q < b → U.heap[q]? = s.heap[q]?) (h : fp_Ex b s) : fp_Ex b U := by
  obtain ⟨hz, ha, hs, hn⟩ := h
  have hz' := fp_Z.move hW hz
  have hb : ∀ (c : ClassId) (k : Class) (i : Nat), U.vm.findClass "java/lang/Throwable" = some c → U.vm.classes[c]? = some k → k.statics = some i → U.heap[i]? = (s.setVm U.vm).heap[i]? := fun c k i h1 h2 h3 => hH i (hz' c k i h1 h2 h3)
  have sh : ∀ q ∈ EXL, ∀ a ∈ Bundle.ownAtoms "EntryTables" q.1 q.2 fp_up, a.before #[] (s.setVm U.vm) = true := fun q hq a hm => Cond.before_shiftedFace (State.Shifted.of_warmed hW) a (Bundle.ownAtoms_keepsFace a hm) (ha q hq a hm)
  refine ⟨hz', fun q hq a hm => ?_, fun q hq => ?_, fun q hq => (hn q hq).moved hW.alike⟩
  · rcases fp_own_kinds q hq a hm with h1 | h1
    · exact va_tabs h1 (show (s.setVm U.vm).vm = U.vm from rfl) (sh q hq a hm)
    · rcases fp_st_or h1 with rfl | rfl | rfl | rfl
      · exact fp_ls_move (A := s.setVm U.vm) rfl hb (sh q hq _ hm)
      · exact fp_ls_move (A := s.setVm U.vm) rfl hb (sh q hq _ hm)
      · exact fp_rs_move (A := s.setVm U.vm) rfl hb (sh q hq (.laysStatic "java/lang/Throwable" "UNASSIGNED_STACK" "[Ljava/lang/StackTraceElement;") (by simp [Bundle.ownAtoms, Bundle.throwableAtoms, Bundle.tN, Bundle.steD, Bundle.listD])) (sh q hq _ hm)
      · exact fp_rs_move (A := s.setVm U.vm) rfl hb (sh q hq (.laysStatic "java/lang/Throwable" "SUPPRESSED_SENTINEL" "Ljava/util/List;") (by simp [Bundle.ownAtoms, Bundle.throwableAtoms, Bundle.tN, Bundle.steD, Bundle.listD])) (sh q hq _ hm)
  · exact Cond.stringRef_warmed hW (hs q hq)
theorem fp_Ex.own {b : Nat} {s : State} (h : fp_Ex b s) {args : Array Value} {ic : Nat} {cls : String} (hq : (ic, cls) ∈ EXL) : ∀ a ∈ Bundle.ownAtoms "EntryTables" ic cls fp_up, a.before args s = true := by
  intro a hm
  have h0 := h.2.1 (ic, cls) hq a hm
  rcases fp_own_kinds (ic, cls) hq a hm with h1 | h1
  · exact va_tabs h1 rfl h0
  · rcases fp_st_or h1 with rfl | rfl | rfl | rfl <;> exact h0
/-- where no slot was named, every old cell is as it was -/
theorem fp_same {s s' : State} {k n : Nat} (h : s.sameButNew s' [] k n) : ∀ q : Nat, q < s.heap.size → s'.heap[q]? = s.heap[q]? := by
  intro q hq
  obtain ⟨c, hc⟩ : ∃ c, s.heap[q]? = some c := ⟨_, Array.getElem?_eq_getElem hq⟩
  obtain ⟨c', h1, h2, h3, h4⟩ := h.2.2.2.2.2 q c hc
  have e : c'.slots = c.slots := Array.ext_getElem? (fun i => h4 i (by simp))
  rw [h1, hc, h2, e]
def fp_BX (D : va_G) (tys : List (ClassId × FieldType)) (b n : Nat) (f : Nat → va_E) (U : State) : Prop := fp_B D tys b n f U ∧ fp_Ex b U
/-- a contract: the method throws a new C, nothing changes -/
def fp_T (l : Launch) (D : va_G) (tys : List (ClassId × FieldType)) (b n : Nat) (y : MethodName) (ws : List Cond) (rm : Room) (As : List Value) (f : Nat → va_E) (C : String) : Prop :=
  MetFree l y (headSpec ws rm) (va_Pc As (fp_BX D tys b n f)) (fun _ _ _ _ _ => True) (fun _ st o t => fp_TQ C st o t)
theorem fp_ofT {l : Launch} {D : va_G} {tys : List (ClassId × FieldType)} {b n : Nat} {y : MethodName} {rm : Room} {As : List Value} {f : Nat → va_E} {C : String} {cc : ByteArray} {maxL : Nat} {ret : Option FieldType} (hy : plainFor y = true) (hlen : (lg_sl As).length ≤ maxL) (hfl : l.flags = flags0)
    (body : ∀ (p : Program) (e : Env) (s : State) (m : MethodId) (args : Array Value) (below : List Frame) (meth : Method) (c : Code) (Q : State → Prop) (ls : Array Slot) (H : Heap) (locs : List Loc), fp_X p s m args c cc maxL y.cls D tys → fp_H D b n (fun _ => False) f s.heap H locs → lv_has ls maxL (lv_args 0 As) →
      fp_Ex b s → e.platform.stackTraces = false → (∀ pc : Nat, ∀ x ∈ c.exceptionTable.toList, covers x pc = false) → meth.locks = false → (∀ t : State, (∃ o, t.status = .running ∧ Ended t below o ∧ fp_TQ C s o t) → Q t) → W p l e rm s m args below meth c H locs 0 0 Q (F0 m 0 ls [])) : fp_T l D tys b n y (fp_ws y cc maxL ret) rm As f C := by
  refine MetFree.of_bodySF (code := cc) (maxLocals := maxL) (ret := ret) hy ?_ ?_
  · intro args s m h hn
    obtain ⟨meth, c, h1, h2, h3, h4, h5, h6, -, -⟩ := Cond.code_spec hn (atoms_spec (ws := fp_ws y cc maxL ret) h _ List.mem_cons_self)
    exact ⟨meth, c, h1, h2, h3, h4, h5, h6⟩
  · intro p e s m args below meth c s₁ B hml hP _
    have hh0 : s₁.heap = s.heap := by rw [B.state]; rfl
    have hts := atoms_spec (ws := fp_ws y cc maxL ret) B.pre
    obtain ⟨meth', c', hm', hc', -, -, -, -, hempty, -⟩ := Cond.code_spec B.named (hts _ List.mem_cons_self)
    cases B.method.symm.trans hm'
    have X₀ := Stand.of_body B
    cases X₀.code.symm.trans hc'
    obtain ⟨rfl, ⟨hP, hK, hN, hb0⟩, hEx⟩ := hP
    have hl := lv_entry As (n := maxL) hlen
    rw [lg_entry_eq]
    generalize (lg_sl As ++ List.replicate (maxL - (lg_sl As).length) Slot.unset).toArray = ls at hl ⊢
    obtain ⟨t, a1, o, b1, b2, b3⟩ := body p e s m _ below meth c (fun t => ∃ o, t.status = .running ∧ Ended t below o ∧ fp_TQ C s o t) ls s.heap [] ⟨⟨B.exec, B.bytes, hml, findClass_of_methodNamed B.named, fun w hw => hts w (List.mem_cons_of_mem _ hw)⟩, hK, hN⟩ ⟨hP, va_S.rf, hb0⟩ hl hEx (Launch.traces_off hfl X₀.admits) (fun pc => covers_of_empty hempty pc) B.notSynchronized (fun t h => h) s₁ hh0 X₀
    exact ⟨t, o, a1, b1, b2, b3⟩
