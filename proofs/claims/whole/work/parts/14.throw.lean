/-! Throwing and catching: a handler's class may be resolved by the search itself ("cold"); a call of a method that throws; 'throw new X("text")' under a launch without stack traces. -/
theorem fh_transfer {Q : Handler → Pre} {E : CtlPost} {e : Env} {d : Bool} {acts : List Action} {s : State} {f : JFrame} {a : Addr} {x : ExceptionTableEntry} {t : List ExceptionTableEntry} {c : Nat} {vm' : Vm}
    (hx : covers x f.pc = true) (h0 : x.catchType ≠ 0) (hg : (Jvm.resolveClass f.method.cls x.catchType).Gives e.toSetting s.vm (.ok c) vm') (hr : vm'.classReady f.method.cls x.catchType c) (hsz : vm'.classes.size ≤ s.vm.classes.size) :
    wp (findHandler.go f a (x :: t)) Q E e d acts s ↔ wp (findHandler.go f a (x :: t)) Q E e d acts (s.setVm vm') := by
  obtain ⟨ha, ht⟩ := hg.op (op := VmOp.resolveClass f.method.cls x.catchType) rfl
  obtain ⟨k, hkd, hres⟩ := hr
  simp only [covers] at hx
  simp [findHandler.go, hx, h0, ha, ht, hsz, resolveClass_memo e hkd hres, VmOp.dirties, VmOp.acts]
  exact Iff.rfl
/-- one entry of the handler table: its class is resolved, if it wasn't; then it takes the exception, or doesn't -/
theorem fh_entry {e : Env} {s S : State} {args : Array Value} {g : JFrame} {x : Addr} {own name : String} {st en hp ct : Nat} {cell : Cell} {ks : Class} {cT : ClassId} (hpl : e.platform.magicAccessors = ({} : Platform).magicAccessors) (hW : s.WarmedH S.vm)
    (hown : s.vm.findClass own = some g.method.cls) (hlink : (Cond.classLink own ct name).before args s = true) (hcov : covers ⟨st, en, hp, ct⟩ g.pc = true) (h0 : ct ≠ 0)
    (hcell : S.heap[x]? = some cell) (hobj : ∀ k, cell.vm ≠ .statics k) (hks : s.vm.classes[cell.cls]? = some ks) (hcT : s.vm.findClass name = some cT) :
    ∃ vm', s.WarmedH vm' ∧ ∀ (t : List ExceptionTableEntry) (Q : Handler → Pre) (E : CtlPost) (d : Bool) (acts : List Action), wp (findHandler.go g x (⟨st, en, hp, ct⟩ :: t)) Q E e d acts S ↔
      if s.vm.assignable cell.cls cT = true then Q (.found hp) d acts (S.setVm vm') else wp (findHandler.go g x t) Q E e d acts (S.setVm vm') := by
  obtain ⟨c', hc', hcl⟩ := Cond.classLink_spec hown hlink e.platform hpl
  cases hcT.symm.trans hc'
  obtain ⟨dk, _, _, kt, hd, _, _, _, _, hkt, _, hopen⟩ := hcl.here
  have hcl₀ := hW.classLinks hcl
  have hW' : s.WarmedH (S.vm.noted g.method.cls ct (.cls cT)) := hW.noted hd hopen (State.rightAt_cls hcl)
  obtain ⟨ks', hks', -⟩ := hW'.alike.2.2 _ _ hks
  obtain ⟨kt', hkt', -⟩ := hW'.alike.2.2 _ _ hkt
  refine ⟨_, hW', fun t Q E d acts => ?_⟩
  rw [fh_transfer (x := ⟨st, en, hp, ct⟩) hcov h0 (resolveClass_links e.toSetting hcl₀) hcl₀.ready (by rw [hW'.2.1, hW.2.1]; exact Nat.le_refl _)]
  rw [W.findHandler_go_class (s := S.setVm (S.vm.noted g.method.cls ct (.cls cT))) (x := ⟨st, en, hp, ct⟩) (c := cT) (cell := cell) hcov h0 hcl₀.ready hcell hobj ⟨ks', hks'⟩ ⟨kt', hkt'⟩]
  show (if (S.vm.noted g.method.cls ct (.cls cT)).assignable cell.cls cT = true then _ else _) ↔ _
  rw [hW'.alike.assignable]
/-- the search ends at a handler: the walk goes on there -/
theorem fh_caught {p : Program} {l : Launch} {e : Env} {R : Room} {s : State} {m : MethodId} {args : Array Value} {below : List Frame} {meth : Method} {c : Code} {T : State} {locs : List Loc} {cells slots : Nat}
    (X : Stand p l e R s m args below meth c T locs cells slots) {g : JFrame} (hg : g.method = m) {x : Addr} {hp : Nat} {vm' : Vm} (hW : s.WarmedH vm')
    (hf : ∀ (Q : Handler → Pre) (E : CtlPost) (d : Bool) (acts : List Action), wp (findHandler.go g x c.exceptionTable.toList) Q E e d acts ((T.setTop g).pushFrame (.throwing x)) ↔ Q (.found hp) d acts (((T.setTop g).pushFrame (.throwing x)).setVm vm')) :
    Stand p l e R s m args below meth c (T.setVm vm') locs cells slots ∧ ∀ target, Steps p.tables e below ((T.setVm vm').setTop { g with pc := hp, stack := [.ref x] }) target → Steps p.tables e below ((T.setTop g).pushFrame (.throwing x)) target := by
  refine ⟨X.noted hW, fun target hrest => ?_⟩
  subst hg
  have h : At T g.method c below := X.here
  obtain ⟨hgo, hw⟩ := h.throwing x
  refine Steps.head hgo hw ?_
  have hm : ((T.setTop g).pushFrame (.throwing x)).vm.method? g.method = some meth := by rw [Stand.throwing_vm]; exact X.method'
  have key : (stepThrowing e ((T.setTop g).pushFrame (.throwing x)) x (.java g :: T.frames.tail)).Is ((((T.setTop g).pushFrame (.throwing x)).setVm vm').setFrames (.java { g with pc := hp, stack := [.ref x] } :: T.frames.tail)) [] := by
    simp only [stepThrowing, searchFrame, vmDo]
    generalize hr : Sem.go _ e false [] ((T.setTop g).pushFrame (.throwing x)) = res
    obtain ⟨as, rfl, ha⟩ := Sem.eq_ok_of hr (a := Handler.found hp) (s' := ((T.setTop g).pushFrame (.throwing x)).setVm vm') (acts' := []) (by simp [W.findHandler_eq hm X.code, hf])
    exact ⟨rfl, ha⟩
  rw [stepThread_throwing (frames_entered h.top _), key.1]
  obtain ⟨g₀, hg⟩ := Option.isSome_iff_exists.mp h.top
  obtain ⟨r, hr⟩ := State.topJava?_eq_some.mp hg
  have hr' : (T.setVm vm').frames = .java g₀ :: r := hr
  rw [State.setTop_of_frames _ hr'] at hrest
  rw [State.setTop_of_frames _ hr, State.pushFrame, State.setFrames_setFrames, hr]
  show Steps p.tables e below (((T.setVm vm').setFrames _).setFrames _) target
  rw [State.setFrames_setFrames]
  exact hrest
/-- the end of a method that threw a new C: nothing that was there has changed -/
def fp_TQ (C : String) (s : State) (o : Outcome) (t : State) : Prop := ∃ (x : Addr) (cell : Cell), o = .threw x ∧ t.heap[x]? = some cell ∧ cell.vm = .none ∧ t.vm.findClass C = some cell.cls ∧ s.WarmedH t.vm ∧ s.sameButNew ({ t with vm := s.vm } : State) [] 1 6
def fp_up : List String := ["java/lang/RuntimeException", "java/lang/Exception"]
set_option maxHeartbeats 1000000 in
theorem fp_throw {p : Program} {l : Launch} {e : Env} {R : Room} {s : State} {m : MethodId} {args : Array Value} {below : List Frame} {meth : Method} {c : Code} {H : Heap} {locs : List Loc} {Q : State → Prop} {cc : ByteArray} {pc nL : Nat} {ls : Array Slot} {D : va_G} {g : Nat → ClassId} {b n : Nat} {f : Nat → va_E}
    {cls text : String} {ik is ic : Nat} (X : fp_X p s m args c cc nL "EntryTables" D (TY g)) (Y : fp_H D b n (fun _ => False) f s.heap H locs) (htr : e.platform.stackTraces = false)
    (hE : ∀ a ∈ Bundle.ownAtoms "EntryTables" ic cls fp_up, a.before args s = true) (hk : Cond.classLink "EntryTables" ik cls ∈ TG) (hi : Cond.initialized cls ∈ TG) (hs : (Cond.stringRef "EntryTables" is text).before args s = true) (hcls : Bundle.fit cls = true)
    (hno : ∀ (pc : Nat), ∀ x ∈ c.exceptionTable.toList, covers x pc = false) (hlocks : meth.locks = false) (hR : 6 ≤ R.frames ∧ 140 ≤ R.locals ∧ 1 ≤ R.cells ∧ 6 ≤ R.slots) (hsz : ls.size = nL)
    (d0 : decode cc pc = .ok (.new ik, 3)) (d3 : decode cc (pc + 3) = .ok (.dup, 1)) (d4 : decode cc (pc + 4) = .ok (.ldc is, 2)) (d6 : decode cc (pc + 6) = .ok (.invokespecial ic, 3)) (d9 : decode cc (pc + 9) = .ok (.athrow, 1))
    (hq : ∀ t : State, (∃ o, t.status = .running ∧ Ended t below o ∧ fp_TQ cls s o t) → Q t) : W p l e R s m args below meth c H locs 0 0 Q (F0 m pc ls []) := by
  obtain ⟨⟨hx, hb, hml, hown, hts⟩, hK, hN⟩ := X
  have hl0 : locs = [] := List.eq_nil_iff_forall_not_mem.mpr (fun q hq => Y.2.1.2.2 q hq)
  subst hl0
  intro T hT X0
  have hsT : s.heap.size ≤ T.heap.size := by rw [hT]; exact Y.2.1.1
  obtain ⟨vm₁, cX, kX, hfX, hkX, -, -, X₁, st1⟩ := X0.newCold hx (own := "EntryTables") (C := cls) (index := ik) (n := 6) hown (hts _ hk) (hE (.instantiable cls 6) (by simp [Bundle.ownAtoms])) (hts _ hi) (g := F0 m pc ls []) rfl (by rw [hb]; exact d0) (by omega) (by omega)
  generalize hT1 : (T.setVm vm₁).pushCell { cls := cX, slots := kX.instanceTypes.map defaultValue, vm := .none } = T1 at X₁ st1
  have hcellA : T1.heap[T.heap.size]? = some (freshCell cX kX) := by rw [← hT1]; exact State.heap_pushCell_size _ _
  obtain ⟨-, -, -, sa, -, -, -, -, -, hev⟩ := Cond.stringRef_spec hown hs
  obtain ⟨U, hsteps, hrun, hend, hW, hsame, ce, hce, K⟩ := X₁.ctorThrowS hx htr (own := "EntryTables") (cls := cls) (names := fp_up) (ic := ic) hown hcls (by decide +kernel) hE (fun y hy => by cases hy) hfX hkX hcellA hsT (msg := .ref sa) rfl
    (g := { method := m, pc := pc + 6, locals := ls, stack := [.ref sa, .ref T.heap.size, .ref T.heap.size], locked := none }) rfl (hsz.trans hml.symm) rfl rfl (rest := []) rfl (by rw [hb]; exact d6) (by rw [hb]; exact d9) (hno _) (by simp [fp_up]; omega) (by simp [fp_up, Value.category, JFrame.monitorRoom]; omega)
  refine ⟨U, ?_, hq U ⟨.threw T.heap.size, hrun, hend, T.heap.size, ce, rfl, hce, K.vm, by rw [hW.alike.findClass]; exact K.cls, hW, hsame⟩⟩
  refine st1 _ ?_
  show Steps p.tables e below (T1.setTop { method := m, pc := pc + 3, locals := ls, stack := [.ref T.heap.size], locked := none }) _
  jvm_step X₁.here [X₁.here.top, hx, hb, d3, Value.category]
  exact X₁.ldcString hx (own := "EntryTables") (text := text) (index := is) (a := sa) hown hs hev (g := { method := m, pc := pc + 4, locals := ls, stack := [.ref T.heap.size, .ref T.heap.size], locked := none }) rfl (by rw [hb]; exact d4) _ hsteps
