/-! THE LAW'S OWN METHODS: base rows. -/
theorem gTz.calling {A : Nat → Prop} {U : State} (h : gTz A U) (g : JFrame) (mk : MethodId) (a : Array Value) : gTz A (U.calling g mk a) := h.at (U := U.calling g mk a) (va_S.rf (A := A) (H0 := U.heap)) (fun _ h => h) rfl (Vm.Alike.refl U.vm)
section GP
variable {s : State} {H : Heap} {A A0 : Nat → Prop} {As : List Value} {b : Nat} {C : String} {locs : List Loc} {B : State → Prop}
theorem gpreT (h : PreV s H C b (va_Pc (.ref b :: As) B) As) (hTz : gTz A0 s) (hst : gStr s) (hS : va_S A0 s.heap H locs) (hF : ∀ q, A q → A0 q) : PreV s H C b (va_Pc (.ref b :: As) (fun U => B U ∧ gTz A U ∧ gStr U)) As :=
  ⟨fun a U g mk q => ⟨q.1, (h.1 a U g mk ⟨q.1, q.2.1⟩).2, q.2.2.1.calling g mk a, q.2.2.2.same rfl⟩, h.2.1, fun U hU hW => ⟨rfl, (h.2.2 U hU hW).2, hTz.at hS hF hU hW.alike, hst.warm hW⟩⟩
theorem gpreTN (h : PreV s H C b (va_Pc (.ref b :: As) B) As) (hTz : gTz A0 s) (hst : gStr s) (hS : va_S A0 s.heap H locs) (hF : ∀ q, A q → A0 q) (hNc : va_Nc gISE gIAE s) : PreS s H (va_Pc (.ref b :: As) (fun U => B U ∧ gTz A U ∧ gStr U ∧ va_Nc gISE gIAE U)) (.ref b :: As) :=
  ⟨fun a U g mk q => ⟨q.1, (h.1 a U g mk ⟨q.1, q.2.1⟩).2, q.2.2.1.calling g mk a, q.2.2.2.1.same rfl, q.2.2.2.2.moved (u := U) (U := U.calling g mk a) (Vm.Alike.refl U.vm)⟩, fun U hU hW => ⟨rfl, (h.2.2 U hU hW).2, hTz.at hS hF hU hW.alike, hst.warm hW, hNc.moved hW.alike⟩⟩
end GP
theorem g_self {s : State} {X : String} {c : ClassId} (h : gTd s) (hX : Cond.castable X X ∈ gTl) (hc : s.vm.findClass X = some c) : s.vm.assignable c c = true := by
  obtain ⟨c1, c2, h1, h2, h3⟩ := Cond.castable_spec (h _ hX)
  cases h1.symm.trans hc
  cases h2.symm.trans hc
  exact h3
theorem g_tab1 {L : List ExceptionTableEntry} {a b c d : Nat} (h : L.map (fun h => (h.startPc, h.endPc, h.handlerPc, h.catchType)) = [(a, b, c, d)]) : ∃ x, L = [x] ∧ x.startPc = a ∧ x.endPc = b ∧ x.handlerPc = c ∧ x.catchType = d := by
  match L, h with
  | [x], h =>
    simp only [List.map_cons, List.map_nil, List.cons.injEq, Prod.mk.injEq, and_true] at h
    exact ⟨x, rfl, h.1, h.2.1, h.2.2.1, h.2.2.2⟩
theorem g_tab2 {L : List ExceptionTableEntry} {a b c d a' b' c' d' : Nat} (h : L.map (fun h => (h.startPc, h.endPc, h.handlerPc, h.catchType)) = [(a, b, c, d), (a', b', c', d')]) : ∃ x y, L = [x, y] ∧ (x.startPc = a ∧ x.endPc = b ∧ x.handlerPc = c ∧ x.catchType = d) ∧ y.startPc = a' ∧ y.endPc = b' ∧ y.handlerPc = c' ∧ y.catchType = d' := by
  match L, h with
  | [x, y], h =>
    simp only [List.map_cons, List.map_nil, List.cons.injEq, Prod.mk.injEq, and_true] at h
    exact ⟨x, y, rfl, ⟨h.1.1, h.1.2.1, h.1.2.2.1, h.1.2.2.2⟩, h.2.1, h.2.2.1, h.2.2.2.1, h.2.2.2.2⟩
/-- the table of a method that the words tell with its table -/
theorem g_table {p : Program} {l : Launch} {y : MethodName} {S : Spec} {cc : ByteArray} {maxL : Nat} {ret : Option FieldType} {e : Env} {s : State} {m : MethodId} {args : Array Value} {below : List Frame} {meth : Method} {c : Code} {s₁ : State} {hh : List (Nat × Nat × Nat × Nat)} (B : BodyLoose p l y S cc maxL ret e s m args below meth c s₁) (h : (Cond.codeWith y cc maxL ret hh).before args s = true) :
    c.exceptionTable.toList.map (fun h => (h.startPc, h.endPc, h.handlerPc, h.catchType)) = hh := by
  obtain ⟨m9, meth9, c9, hn9, hm9, hc9, -, -, htab, -⟩ := Cond.codeWith_spec h
  cases B.named.symm.trans hn9
  cases B.method.symm.trans hm9
  cases (Stand.of_body B).code.symm.trans hc9
  exact htab
section GS
variable {p : Program} {l : Launch} {e : Env} {R : Room} {s : State} {m : MethodId} {args : Array Value} {below : List Frame} {meth : Method} {c : Code} {H : Heap} {locs : List Loc} {cells slots : Nat}
/-- a static call of a method with a table -/
theorem g_runSW {y : MethodName} {bytes cc : ByteArray} {maxL nL mc ms n index : Nat} {ret : Option FieldType} {hh : List (Nat × Nat × Nat × Nat)} {ws ws' : List Cond} {rm : Room} {Pc : Array Value → State → Prop} {Qc : Array Value → State → Outcome → State → Prop} {free : Addr → Prop} {Ts : List Cond} {own : String} {As rest : List Value} {g : JFrame}
    (S : CallFix p m c cc nL s args Ts own) (hM : Met l y ws rm Pc Qc mc ms free) (hw : ws = Cond.codeWith y bytes maxL ret hh :: ws') (hG : GoodIn Ts ws) (hl : (Cond.methodLink own index y).before args s = true) (hst : (Cond.static y).before args s = true) (hini : (Cond.initialized y.cls).before args s = true) (hy : y.cls ≠ "java/lang/invoke/MethodHandle" ∧ y.cls ≠ "java/lang/invoke/VarHandle" ∧ (parseMethodDescriptor y.desc).map (fun d => d.parameters.length) = some n)
    (hR : rm.cells = mc ∧ rm.slots = ms ∧ rm.frames + 1 ≤ R.frames ∧ 8 + (maxL + 11) + rm.locals ≤ R.locals) (hp : PreS s H Pc As) (hg : g.method = m) (hn : As.length = n) (hsize : g.locals.size = nL) (hstack : g.stack = As.reverse ++ rest) (hW : 2 * g.monitorRoom + (rest.map fun v => v.category).sum ≤ 8) (hdg : decode cc g.pc = .ok (.invokestatic index, 3)) (hf : cells + mc ≤ R.cells ∧ slots + ms ≤ R.slots) :
    va_Run p l e R s m args below meth c H locs cells slots mc ms g rest (Qc As.toArray) free := by
  obtain ⟨hx, hb, hml, ho, hts⟩ := S
  have hc : Cond.codeWith y bytes maxL ret hh ∈ ws := by rw [hw]; exact List.mem_cons_self
  have hcode := hts _ (hG _ hc).1
  have hws := pay_in hts hG
  have hK : Back l R p e below s args y 3 8 (PreOf R mc ms Pc) (PostOf Qc mc ms free) := va_backW (hh := hh) (bytes := bytes) (maxL := maxL) (ret := ret) hM hp.1 hR.1 hR.2.1 hR.2.2.1 hR.2.2.2 hws hc (fun a' U hW => word_at hW (Or.inl (by first | rfl | simp [Cond.onTables, Cond.keeps, Cond.steady])) hini)
  obtain ⟨mk, methM, cM, hnamed, hmethM, -, -, -, -, -, -, hsigM⟩ := Cond.codeWith_spec hcode
  have hstatic : methM.isStatic = true := Cond.static_spec hnamed hmethM hst
  obtain ⟨kP, hkP, -⟩ := className_of_methodNamed hnamed
  have hinitP : kP.init = .initialized := Cond.initialized_spec (findClass_of_methodNamed hnamed) hkP hini
  have hlen : As.length = methM.sig.parameters.length := by
    have h2 := hy.2.2
    rw [hsigM] at h2
    exact hn.trans (Option.some.inj h2).symm
  intro T hT X
  obtain ⟨vm₁, X₁, hstep₁⟩ := X.invokestatic hx ho hl hnamed hmethM hstatic hkP hinitP ⟨hy.1, hy.2.1⟩ (g := g) hg (argsL := As) (rest := rest) hlen hstack (by rw [hb]; exact hdg)
  obtain ⟨v, ⟨U', l2, c2, s2⟩, X', ⟨g', mk', t, L, e1, e2, hq, h1, hL, h2, h3⟩, hsteps⟩ := hK m meth c ⟨T.setVm vm₁, locs, cells, slots⟩ { g with stack := rest } (.invokestatic index) mk As.toArray X₁ hg (hsize.trans hml.symm) (by rw [hb]; exact hdg) hW (X₁.named hnamed) ⟨hf.1, hf.2, hp.2 (T.setVm vm₁) hT X₁.warmed⟩
  dsimp only [Pt.U, Pt.locs, Pt.cells, Pt.slots] at X' e1 e2 h1 h2 h3 hsteps
  subst h1; subst h2; subst h3
  exact ⟨v, (T.setVm vm₁).calling g' mk' As.toArray, t, U', L, hT, X', hL, e1, e2, hq, fun target h => hstep₁ _ fun acts => by rw [doInvoke_state]; exact hsteps.trans h⟩
end GS
