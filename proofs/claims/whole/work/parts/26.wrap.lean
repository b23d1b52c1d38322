/-! The search for a handler, entry by entry; a static call of a method with handlers. -/
theorem fh_hit {e : Env} {s S : State} {args : Array Value} {g : JFrame} {x : Addr} {own C : String} {st en hp ct : Nat} {t : List ExceptionTableEntry} {cell : Cell} (hpl : e.platform.magicAccessors = ({} : Platform).magicAccessors) (hW : s.WarmedH S.vm)
    (hown : s.vm.findClass own = some g.method.cls) (hlink : (Cond.classLink own ct C).before args s = true) (hcov : covers ⟨st, en, hp, ct⟩ g.pc = true) (h0 : ct ≠ 0) (hcell : S.heap[x]? = some cell) (hv : cell.vm = .none) (hcl : s.vm.findClass C = some cell.cls) :
    ∃ vm', s.WarmedH vm' ∧ ∀ (Q : Handler → Pre) (E : CtlPost) (d : Bool) (acts : List Action), wp (findHandler.go g x (⟨st, en, hp, ct⟩ :: t)) Q E e d acts S ↔ Q (.found hp) d acts (S.setVm vm') := by
  obtain ⟨ks, hks⟩ := Vm.classAt_of_findClass hcl
  obtain ⟨vm', hW', h⟩ := fh_entry (st := st) (en := en) (hp := hp) (ct := ct) hpl hW hown hlink hcov h0 hcell (fun k q => by rw [hv] at q; cases q) hks hcl
  refine ⟨vm', hW', fun Q E d acts => ?_⟩
  rw [h t Q E d acts, if_pos (va_asg _ _)]
theorem fh_miss {e : Env} {s S : State} {args : Array Value} {g : JFrame} {x : Addr} {own C C2 : String} {st en hp ct hp2 : Nat} {t : List ExceptionTableEntry} {cell : Cell} (hpl : e.platform.magicAccessors = ({} : Platform).magicAccessors) (hW : s.WarmedH S.vm)
    (hown : s.vm.findClass own = some g.method.cls) (hlink : (Cond.classLink own ct C2).before args s = true) (hcov : covers ⟨st, en, hp, ct⟩ g.pc = true) (h0 : ct ≠ 0) (hcell : S.heap[x]? = some cell) (hv : cell.vm = .none) (hcl : s.vm.findClass C = some cell.cls) (hnc : va_Nc C C2 s)
    (hrest : ∀ S' : State, s.WarmedH S'.vm → S'.heap[x]? = some cell → ∃ vm', s.WarmedH vm' ∧ ∀ (Q : Handler → Pre) (E : CtlPost) (d : Bool) (acts : List Action), wp (findHandler.go g x t) Q E e d acts S' ↔ Q (.found hp2) d acts (S'.setVm vm')) :
    ∃ vm', s.WarmedH vm' ∧ ∀ (Q : Handler → Pre) (E : CtlPost) (d : Bool) (acts : List Action), wp (findHandler.go g x (⟨st, en, hp, ct⟩ :: t)) Q E e d acts S ↔ Q (.found hp2) d acts (S.setVm vm') := by
  obtain ⟨ks, hks⟩ := Vm.classAt_of_findClass hcl
  obtain ⟨c1, t1, h1, h2, h3⟩ := hnc
  cases hcl.symm.trans h1
  obtain ⟨vm1, hW1, h⟩ := fh_entry (st := st) (en := en) (hp := hp) (ct := ct) hpl hW hown hlink hcov h0 hcell (fun k q => by rw [hv] at q; cases q) hks h2
  obtain ⟨vm', hW', hr⟩ := hrest (S.setVm vm1) hW1 hcell
  refine ⟨vm', hW', fun Q E d acts => ?_⟩
  rw [h t Q E d acts, if_neg (by rw [h3]; decide), hr Q E d acts]
  exact Iff.rfl
section FPW
variable {p : Program} {l : Launch} {e : Env} {R : Room} {s : State} {m : MethodId} {args : Array Value} {below : List Frame} {meth : Method} {c : Code} {H : Heap} {locs : List Loc} {cells slots : Nat} {Q : State → Prop}
variable {cc : ByteArray} {pc nL : Nat} {ls : Array Slot} {rest : List Value} {D : va_G} {a : Nat} {g : Nat → ClassId} {b n : Nat} {A : Nat → Prop} {f : Nat → va_E} {own : String} {tys : List (ClassId × FieldType)}
theorem fp_callM {mc ms : Nat} {post : Option Value → (Nat → va_E) → Prop} {st0 : List Value} (Y : fp_H D b n A f s.heap H locs)
    (hr : va_Run p l e R s m args below meth c H locs cells slots mc ms (F0 m pc ls st0) rest (fp_E D b n A post) A)
    (kk : ∀ (v : Option Value) (f' : Nat → va_E) (H1 : Heap) (locs1 : List Loc), post v f' → fp_H D b n A f' s.heap H1 locs1 → W p l e R s m args below meth c H1 locs1 (cells + mc) (slots + ms) Q (F0 m (pc + 3) ls (v.toList ++ rest))) : W p l e R s m args below meth c H locs cells slots Q (F0 m pc ls st0) := by
  intro T hT X
  obtain ⟨v, st₀, t, T', L, h0, X', hL, e1, e2, ⟨⟨v', f', hv, hp, hb⟩, hz, hk⟩, st⟩ := hr T hT X
  cases hv
  rw [h0] at hz hk
  obtain ⟨hP, hS, hb0⟩ := Y
  obtain ⟨t2, a1, b1⟩ := kk v f' T'.heap (locs ++ L) hp ⟨by rw [e1]; exact hb, ⟨Nat.le_trans hS.1 (by rw [e1]; exact hz), fun q h1 h2 => by rw [e1, hk q (Nat.lt_of_lt_of_le h1 hS.1) h2]; exact hS.2.1 q h1 h2, fun q hq => by
      rcases List.mem_append.mp hq with h | h
      · exact hS.2.2 q h
      · exact hL q h⟩, hb0⟩ T' rfl X'
  exact ⟨t2, st t2 a1, b1⟩
theorem fp_blindX {As : List Value} : FrameBlind (va_Pc As (fp_BX D tys b n f)) := fun a U gf mk q => by
  obtain ⟨q0, ⟨q1, qK, qN, q2⟩, q3⟩ := q
  exact ⟨q0, ⟨q1, va_K.moved (u := U) (U := U.calling gf mk a) (Vm.Alike.refl U.vm) qK, fp_N.same (u := U) (U := U.calling gf mk a) rfl qN, q2⟩, fp_Ex.move (U := U.calling gf mk a) (State.WarmedH.refl U) (fun _ _ => rfl) q3⟩
theorem fp_preX {As : List Value} (X : fp_X p s m args c cc nL own D tys) (Y : fp_H D b n A f s.heap H locs) (hEx : fp_Ex b s) (hbA : ∀ q : Nat, A q → b ≤ q) : PreS s H (va_Pc As (fp_BX D tys b n f)) As :=
  ⟨fp_blindX, fun U hU hW => ⟨rfl, ⟨by rw [hU]; exact Y.1, va_K.moved hW.alike X.2.1, X.2.2.warm hW, by rw [hU]; exact Nat.le_trans Y.2.2 Y.2.1.1⟩, fp_Ex.move hW (fun z hz => by rw [hU]; exact Y.2.1.2.1 z (Nat.lt_of_lt_of_le hz Y.2.2) (fun hA => absurd (hbA z hA) (by omega))) hEx⟩⟩
theorem fp_callSW {mc ms : Nat} {post : Option Value → (Nat → va_E) → Prop} {st0 : List Value} {y : MethodName} {bytes : ByteArray} {maxL index nA : Nat} {ret : Option FieldType} {rm : Room} {As : List Value} {hh : List (Nat × Nat × Nat × Nat)} (X : fp_X p s m args c cc nL own D tys) (Y : fp_H D b n A f s.heap H locs) (hEx : fp_Ex b s) (hbA : ∀ q : Nat, A q → b ≤ q)
    (hM : fp_MX l D tys b n A y (Cond.codeWith y bytes maxL ret hh :: TG) rm mc ms As f post)
    (w1 : Cond.codeWith y bytes maxL ret hh ∈ TG) (w2 : Cond.methodLink own index y ∈ TG) (w3 : Cond.static y ∈ TG) (w4 : Cond.initialized y.cls ∈ TG)
    (hd : y.cls ≠ "java/lang/invoke/MethodHandle" ∧ y.cls ≠ "java/lang/invoke/VarHandle" ∧ (parseMethodDescriptor y.desc).map (fun d => d.parameters.length) = some nA) (hrc : rm.cells = mc ∧ rm.slots = ms) (hR : rm.frames + 1 ≤ R.frames ∧ 8 + (maxL + 11) + rm.locals ≤ R.locals)
    (hn : As.length = nA) (hsz : ls.size = nL) (hst : st0 = As.reverse ++ rest) (hroom : (rest.map fun v => v.category).sum ≤ 8) (hdg : decode cc pc = .ok (.invokestatic index, 3)) (hcs : cells + mc ≤ R.cells ∧ slots + ms ≤ R.slots)
    (kk : ∀ (v : Option Value) (f' : Nat → va_E) (H1 : Heap) (locs1 : List Loc), post v f' → fp_H D b n A f' s.heap H1 locs1 → W p l e R s m args below meth c H1 locs1 (cells + mc) (slots + ms) Q (F0 m (pc + 3) ls (v.toList ++ rest))) : W p l e R s m args below meth c H locs cells slots Q (F0 m pc ls st0) := by
  subst hst
  have hp := fp_preX (As := As) X Y hEx hbA
  refine fp_callM (rest := rest) Y ?_ kk
  obtain ⟨⟨hx, hb, hml, hown, hts⟩, hK, hN⟩ := X
  have hgw : GoodIn TG (Cond.codeWith y bytes maxL ret hh :: TG) := fun w hw => by
    rcases List.mem_cons.mp hw with rfl | hw
    · exact fp_good _ w1
    · exact fp_good _ hw
  have hini := hts _ w4
  have hB : Back l R p e below s args y 3 8 (PreOf R mc ms (va_Pc As (fp_BX D tys b n f))) (PostOf (fun _ => fp_E D b n A post) mc ms A) := va_backW (hh := hh) (bytes := bytes) (maxL := maxL) (ret := ret) hM hp.1 hrc.1 hrc.2 hR.1 hR.2 (pay_in hts hgw) List.mem_cons_self (fun a' U hW => word_at hW (Or.inl (by first | rfl | simp [Cond.onTables, Cond.keeps, Cond.steady])) hini)
  intro T hT X0
  obtain ⟨mk, methM, cM, hnamed, hmethM, -, -, -, -, -, -, hsigM⟩ := Cond.codeWith_spec (hts _ w1)
  have hstatic : methM.isStatic = true := Cond.static_spec hnamed hmethM (hts _ w3)
  obtain ⟨kP, hkP, -⟩ := className_of_methodNamed hnamed
  have hinitP : kP.init = .initialized := Cond.initialized_spec (findClass_of_methodNamed hnamed) hkP hini
  have hlenA : As.length = methM.sig.parameters.length := by
    have h2 := hd.2.2
    rw [hsigM] at h2
    exact hn.trans (Option.some.inj h2).symm
  obtain ⟨vm₁, X₁, hstep₁⟩ := X0.invokestatic hx hown (hts _ w2) hnamed hmethM hstatic hkP hinitP ⟨hd.1, hd.2.1⟩ (g := F0 m pc ls (As.reverse ++ rest)) rfl (argsL := As) (rest := rest) hlenA rfl (by rw [hb]; exact hdg)
  obtain ⟨v, B, X', hpost, hsteps⟩ := hB m meth c ⟨T.setVm vm₁, locs, cells, slots⟩ (F0 m pc ls rest) (.invokestatic index) mk As.toArray X₁ rfl (hsz.trans hml.symm) (by rw [hb]; exact hdg) (lv_room hroom) (X₁.named hnamed) ⟨hcs.1, hcs.2, hp.2 (T.setVm vm₁) hT X₁.warmed⟩
  obtain ⟨U', l2, c2, s2⟩ := B
  obtain ⟨g', mk', t, L, e1, e2, hq, h1, hL, h2, h3⟩ := hpost
  dsimp only [Pt.U, Pt.locs, Pt.cells, Pt.slots] at X' e1 e2 h1 h2 h3 hsteps
  subst h1; subst h2; subst h3
  refine ⟨v, (T.setVm vm₁).calling g' mk' As.toArray, t, U', L, hT, X', hL, e1, e2, hq, fun target h => hstep₁ _ fun acts => ?_⟩
  rw [doInvoke_state]
  exact hsteps.trans h
end FPW
abbrev rmW : Room := { frames := 9, cells := 1, slots := 6, locals := 330 }
