/-! CONTRACTS THAT MAY THROW, their calls, and the catch. -/
def MetT (l : Launch) (y : MethodName) (ws : List Cond) (rm : Room) (Pc : Array Value → State → Prop) (Qc : Array Value → State → Outcome → State → Prop) (mc ms : Nat) (free : Addr → Prop) : Prop :=
  MetFree l y (headSpec ws rm) Pc (fun _ _ _ _ _ => True) (fun a st o t => Qc a st o t ∧ st.WarmedH t.vm ∧ ∃ L, st.sameButNew ({ t with vm := st.vm } : State) L mc ms ∧ ∀ q ∈ L, free q.base)
def MQT (below : List Frame) (Qc : Array Value → State → Outcome → State → Prop) (a : Array Value) (s : State) (mc ms : Nat) (free : Addr → Prop) : State → Prop := fun t =>
  ∃ o, t.status = .running ∧ Ended t below o ∧ Qc a s o t ∧ s.WarmedH t.vm ∧ ∃ L, s.sameButNew ({ t with vm := s.vm } : State) L mc ms ∧ ∀ q ∈ L, free q.base
theorem MQ.toT {below : List Frame} {Qc Qd : Array Value → State → Outcome → State → Prop} {a : Array Value} {s : State} {mc ms mc' ms' : Nat} {free : Addr → Prop} (hc : mc ≤ mc') (hs : ms ≤ ms') (hQ : ∀ o t, Qc a s o t → Qd a s o t) (t : State) (h : MQ below Qc a s mc ms free t) : MQT below Qd a s mc' ms' free t := by
  obtain ⟨o, h1, h2, h3, L, ⟨-, h4, h5⟩, h6⟩ := h
  exact ⟨o, h1, h2, hQ o t h3, h4, L, h5.mono hc hs, h6⟩
section CT
variable {l : Launch}
theorem MetT.ofW {y : MethodName} {ws ws' : List Cond} {rm : Room} {Pc : Array Value → State → Prop} {Qc : Array Value → State → Outcome → State → Prop} {mc ms : Nat} {free : Addr → Prop} {cc : ByteArray} {maxL : Nat} {ret : Option FieldType}
    (hy : plainName y.cls = true) (hw : ws = Cond.code y cc maxL ret :: ws')
    (body : ∀ p e s m args below meth c s₁, BodyLoose p l y (headSpec ws rm) cc maxL ret e s m args below meth c s₁ → c.maxLocals = maxL → c.exceptionTable.isEmpty = true → Pc args s →
      W p l e (headSpec ws rm).room s m args below meth c s.heap [] 0 0 (MQT below Qc args s mc ms free) (entryFrame m args maxL)) : MetT l y ws rm Pc Qc mc ms free := by
  refine MetFree.of_bodyS (code := cc) (maxLocals := maxL) (ret := ret) hy ?_ ?_
  · intro args s m h hn
    obtain ⟨meth, c, h1, h2, h3, h4, h5, h6, -, -⟩ := Cond.code_spec hn (atoms_spec (ws := ws) h _ (by rw [hw]; exact List.mem_cons_self))
    exact ⟨meth, c, h1, h2, h3, h4, h5, h6⟩
  · intro p e s m args below meth c s₁ B hml hP _
    have hh0 : s₁.heap = s.heap := by rw [B.state]; rfl
    have hnh := B.noHandlers (atoms_spec (ws := ws) B.pre _ (by rw [hw]; exact List.mem_cons_self))
    obtain ⟨t, a1, o, b1, b2, b3⟩ := body p e s m args below meth c s₁ B hml hnh hP s₁ hh0 (Stand.of_body B)
    exact ⟨t, o, a1, b1, b2, b3⟩
end CT
section CC
variable {p : Program} {l : Launch} {e : Env} {R : Room} {s : State} {m : MethodId} {args : Array Value} {below : List Frame} {meth : Method} {c : Code} {H : Heap} {locs : List Loc} {cells slots : Nat} {Q : State → Prop}
/-- the machine where an exception a has come back to the frame g: it comes to a state with Q -/
def WT (p : Program) (l : Launch) (e : Env) (R : Room) (s : State) (m : MethodId) (args : Array Value) (below : List Frame) (meth : Method) (c : Code) (H : Heap) (locs : List Loc) (cells slots : Nat) (Q : State → Prop) (g : JFrame) (a : Addr) : Prop :=
  ∀ T : State, T.heap = H → Stand p l e R s m args below meth c T locs cells slots → ∃ t, Steps p.tables e below ((T.setTop g).pushFrame (.throwing a)) t ∧ Q t
set_option maxHeartbeats 4000000 in
/-- a call that may throw -/
theorem g_runT {y : MethodName} {bytes cc : ByteArray} {maxL nL mc ms n index : Nat} {ret : Option FieldType} {ws : List Cond} {rm : Room} {Pc : Array Value → State → Prop} {Qc : Array Value → State → Outcome → State → Prop} {free : Addr → Prop} {Ts : List Cond} {own C : String} {b : Addr} {As rest : List Value} {pc : Nat} {ls : Array Slot} {A0 A1 : Nat → Prop} {H0 : Heap}
    (S : CallFix p m c cc nL s args Ts own) (hM : MetT l y ws rm Pc Qc mc ms free) (cw : CallW R s args own C index y bytes maxL ret ws rm mc ms n) (hp : PreV s H C b Pc As) (hn : As.length = n) (hsize : ls.size = nL) (hW : (rest.map fun v => v.category).sum ≤ 8) (hdg : decode cc pc = .ok (.invokevirtual index, 3)) (hf : cells + mc ≤ R.cells ∧ slots + ms ≤ R.slots)
    (hS : va_S A0 H0 H locs) (hA : ∀ q, q < H.size → A1 q → A0 q) (hfr : ∀ q, free q → A0 q) (hQF : ∀ st o t, Qc (Value.ref b :: As).toArray st o t → va_F A1 st t)
    (kr : ∀ (v : Option Value) (st t : State) (H1 : Heap) (locs1 : List Loc), t.heap = H1 → st.heap = H → s.vm.Alike st.vm → s.vm.Alike t.vm → Qc (Value.ref b :: As).toArray st (.returned v) t → va_S A0 H0 H1 locs1 → W p l e R s m args below meth c H1 locs1 (cells + mc) (slots + ms) Q (F0 m (pc + 3) ls (v.toList ++ rest)))
    (kt : ∀ (a : Addr) (st t : State) (H1 : Heap) (locs1 : List Loc), t.heap = H1 → st.heap = H → s.vm.Alike st.vm → s.vm.Alike t.vm → Qc (Value.ref b :: As).toArray st (.threw a) t → va_S A0 H0 H1 locs1 → WT p l e R s m args below meth c H1 locs1 (cells + mc) (slots + ms) Q (F0 m pc ls rest) a) :
    W p l e R s m args below meth c H locs cells slots Q (F0 m pc ls (As.reverse ++ .ref b :: rest)) := by
  obtain ⟨⟨hrc, hrs, hfrm, hloc, hws, hcw, hcode, hini, hy, hlen, hl⟩, hin, hse⟩ := cw
  obtain ⟨hx, hb, hml, ho, -⟩ := S
  obtain ⟨hbl, ⟨cellB, hcB, hoB, hclB⟩, hPc⟩ := hp
  intro T hT X
  obtain ⟨mk, methM, hnamed, hmethM, hstM, habM⟩ := Cond.instanceMethod_spec hin
  obtain ⟨methM', cM, hmethM', hcM, -, hlM, -, -, -, hsigM⟩ := Cond.code_spec hnamed hcode
  cases hmethM.symm.trans hmethM'
  obtain ⟨c2, r2, m2, q1, q2, q3, q4, kP, hkP, hkPi⟩ := Cond.selects_spec hse
  cases hclB.symm.trans q1
  cases (State.methodFound?_of_named hnamed hy).symm.trans q2
  cases hnamed.symm.trans q3
  have hselP : selectMethod e.platform s.vm cellB.cls mk = .method mk := by rw [Launch.admits_selectMethod X.admits]; exact q4
  obtain ⟨vm₁, X₁, hstep₁⟩ := X.invokevirtual hx ho hl hnamed hmethM hstM hkP hkPi hy (a := b) (cell := cellB) (by rw [hT]; exact hcB)
    (fun z h => by rw [h] at hoB; cases hoB) hselP hmethM habM hkP hkPi (g := F0 m pc ls (As.reverse ++ .ref b :: rest)) rfl (argsL := As) (rest := rest) (hn.trans (hlen _ hsigM)) rfl (by rw [hb]; exact hdg)
  have hn1 : (T.setVm vm₁).methodNamed? y = some mk := X₁.named hnamed
  obtain ⟨kY, hkY, -⟩ := className_of_methodNamed hn1
  have hW1 : s.WarmedH (T.setVm vm₁).vm := X₁.warmed
  have hinitY : kY.init = .initialized := Cond.initialized_spec (findClass_of_methodNamed hn1) hkY (word_at (a' := args) hW1 (Or.inl (by first | rfl | simp [Cond.onTables, Cond.keeps, Cond.steady])) hini)
  have hmM : (T.setVm vm₁).vm.method? mk = some methM := by rw [hW1.alike.method?]; exact hmethM
  have h0 : At (T.setVm vm₁) (F0 m pc ls rest).method c below := X₁.here
  have hdg' : decode c.code (F0 m pc ls rest).pc = .ok (.invokevirtual index, 3) := by rw [hb]; exact hdg
  have happ : (headSpec ws rm).appliesLoose y e.platform ((T.setVm vm₁).calling (F0 m pc ls rest) mk (Value.ref b :: As).toArray) = true :=
    Spec.appliesLoose_calling (g := F0 m pc ls rest) h0 hdg' hn1 hkY hinitY
      (X₁.room_calling (g := F0 m pc ls rest) (R' := rm) (hsize.trans hml.symm) hmM hcM hfrm (by
        rw [hlM]
        show 2 * 0 + (rest.map fun v => v.category).sum + (maxL + 11) + rm.locals ≤ R.locals
        omega) (by rw [hrc]; exact hf.1) (by rw [hrs]; exact hf.2)) (atoms_intro fun w hw => hws w hw _ _ hW1)
  obtain ⟨mid, hmid⟩ := h0.above
  have hfr0 : ((T.setVm vm₁).setTop (F0 m pc ls rest)).frames = (.java (F0 m pc ls rest) :: mid) ++ below := by rw [State.frames_setTop' _ h0.top, hmid]; rfl
  obtain ⟨o, s₂, hsteps, -, hend, hq, hW₂, L, hsm, hL⟩ := Steps.callFree hM p X.admits X.cas X.clock (acts := []) hfr0 happ (hbl _ _ (F0 m pc ls rest) mk (hPc (T.setVm vm₁) hT hW1)) trivial
  have hend' : Ended s₂ (.java (F0 m pc ls rest) :: below) o := by
    rw [State.frames_setTop' _ h0.top, X₁.tail] at hend
    exact hend
  have hq' : Qc (Value.ref b :: As).toArray ((T.setVm vm₁).calling (F0 m pc ls rest) mk (Value.ref b :: As).toArray) o s₂ := hq
  have hst : ((T.setVm vm₁).calling (F0 m pc ls rest) mk (Value.ref b :: As).toArray).heap = H := hT
  have hfF := hQF _ _ _ hq'
  have hSS : va_S A0 H0 s₂.heap (locs ++ L) := by
    obtain ⟨hz, hk⟩ := hfF
    rw [hst] at hz hk
    exact ⟨Nat.le_trans hS.1 hz, fun q h1 h2 => by rw [hk q (Nat.lt_of_lt_of_le h1 hS.1) (fun z => h2 (hA q (Nat.lt_of_lt_of_le h1 hS.1) z))]; exact hS.2.1 q h1 h2, fun q hq => by
      rcases List.mem_append.mp hq with h | h
      · exact hS.2.2 q h
      · exact hfr _ (hL q h)⟩
  cases o with
  | returned v =>
    obtain ⟨T', X', hW', hsm', ht⟩ := X₁.outOf (g := F0 m pc ls rest) rfl hdg' hend' hW₂ hsm
    have hTh : s₂.heap = T'.heap := by rw [ht]; rfl
    have hTv : s₂.vm = T'.vm := by rw [ht]; rfl
    obtain ⟨t2, a1, b1⟩ := kr v _ s₂ s₂.heap (locs ++ L) rfl hst hW1.alike (by rw [hTv]; exact X'.warmed.alike) hq' hSS T' hTh.symm X'
    refine ⟨t2, hstep₁ _ fun acts => ?_, b1⟩
    rw [doInvoke_state]
    refine hsteps.trans ?_
    rw [ht]
    exact a1
  | threw a =>
    obtain ⟨T', X', hW', hsm', ht⟩ := X₁.outOfThrown (g := F0 m pc ls rest) rfl hend' hW₂ hsm
    have hTh : s₂.heap = T'.heap := by rw [ht]; exact Stand.throwing_heap _ _ _
    have hTv : s₂.vm = T'.vm := by rw [ht]; exact Stand.throwing_vm _ _ _
    obtain ⟨t2, a1, b1⟩ := kt a _ s₂ s₂.heap (locs ++ L) rfl hst hW1.alike (by rw [hTv]; exact X'.warmed.alike) hq' hSS T' hTh.symm X'
    refine ⟨t2, hstep₁ _ fun acts => ?_, b1⟩
    rw [doInvoke_state]
    refine hsteps.trans ?_
    rw [ht]
    exact a1
end CC
/-! the search through the table -/
theorem g_seek {Q : Handler → Pre} {E : CtlPost} {e : Env} {d : Bool} {acts : List Action} {s : State} {f : JFrame} {a : Addr} {x : ExceptionTableEntry} {t : List ExceptionTableEntry} {c : ClassId} {cell : Cell} (hx : covers x f.pc = true) (h0 : x.catchType ≠ 0)
    (hl : s.vm.ClassLinks e.platform f.method.cls x.catchType c) (hcell : s.heap[a]? = some cell) (hobj : ∀ k, cell.vm ≠ .statics k) (hk : ∃ k, s.vm.classes[cell.cls]? = some k) (hc : ∃ k, s.vm.classes[c]? = some k) :
    wp (findHandler.go f a (x :: t)) Q E e d acts s ↔ if s.vm.assignable cell.cls c = true then Q (.found x.handlerPc) d acts (s.setVm (s.vm.noted f.method.cls x.catchType (.cls c))) else wp (findHandler.go f a t) Q E e d acts (s.setVm (s.vm.noted f.method.cls x.catchType (.cls c))) := by
  simp only [covers] at hx
  obtain ⟨ha, ht⟩ := (resolveClass_links e.toSetting hl).op (op := VmOp.resolveClass f.method.cls x.catchType) rfl
  have hal : s.vm.Alike (s.vm.noted f.method.cls x.catchType (.cls c)) := (Vm.Alike.refl s.vm).noted _ _ _
  obtain ⟨k1, hk1⟩ := hk
  obtain ⟨k2, hk2⟩ := hc
  obtain ⟨k1', hk1', -⟩ := hal.2.2 _ _ hk1
  obtain ⟨k2', hk2', -⟩ := hal.2.2 _ _ hk2
  cases hfit : s.vm.assignable cell.cls c
  · have hfit' : (s.vm.noted f.method.cls x.catchType (.cls c)).assignable cell.cls c = false := by rw [hal.assignable]; exact hfit
    simp [findHandler.go, hx, h0, ha, ht, hcell, hobj, hk1', hk2', hfit', VmOp.dirties, VmOp.acts]
  · have hfit' : (s.vm.noted f.method.cls x.catchType (.cls c)).assignable cell.cls c = true := by rw [hal.assignable]; exact hfit
    simp [findHandler.go, hx, h0, ha, ht, hcell, hobj, hk1', hk2', hfit', VmOp.dirties, VmOp.acts]
/-- what the search comes to, and the tables behind it -/
def gSeeks (e : Env) (s : State) (f : JFrame) (a : Addr) (pc : Nat) (vm' : Vm) : Prop := ∀ (Q : Handler → Pre) (E : CtlPost) (d : Bool) (acts : List Action), wp (findHandler f a) Q E e d acts s ↔ Q (.found pc) d acts (s.setVm vm')
theorem g_caught {tb : Tables} {e : Env} {s target : State} {g : JFrame} {c : Code} {below : List Frame} {a : Addr} (h : At s g.method c below) {pc : Nat} {vm' : Vm} (hfind : gSeeks e ((s.setTop g).pushFrame (.throwing a)) g a pc vm')
    (hrest : Steps tb e below ((s.setVm vm').setTop { g with pc := pc, stack := [.ref a] }) target) : Steps tb e below ((s.setTop g).pushFrame (.throwing a)) target := by
  obtain ⟨hgo, hw⟩ := h.throwing a
  refine Steps.head hgo hw ?_
  have h1 : (stepThrowing e ((s.setTop g).pushFrame (.throwing a)) a (.java g :: s.frames.tail)).1 = (((s.setTop g).pushFrame (.throwing a)).setVm vm').setFrames (.java { g with pc := pc, stack := [.ref a] } :: s.frames.tail) := by
    simp only [stepThrowing, searchFrame, vmDo]
    generalize hr : Sem.go _ e false [] ((s.setTop g).pushFrame (.throwing a)) = res
    obtain ⟨as, rfl, ha⟩ := Sem.eq_ok_of hr (a := Handler.found pc) (s' := ((s.setTop g).pushFrame (.throwing a)).setVm vm') (acts' := []) (by simp [hfind _ _ _ _])
    rfl
  rw [stepThread_throwing (frames_entered h.top _), h1]
  obtain ⟨g₀, hg⟩ := Option.isSome_iff_exists.mp h.top
  obtain ⟨r, hr⟩ := State.topJava?_eq_some.mp hg
  have hr' : (s.setVm vm').frames = .java g₀ :: r := hr
  rw [State.setTop_of_frames _ hr'] at hrest
  have h2 : ∀ (u : State) (F G : List Frame), ((u.setFrames F).setVm vm').setFrames G = (u.setVm vm').setFrames G := by
    intro u F G
    have h3 : (u.setFrames F).setVm vm' = (u.setVm vm').setFrames F := rfl
    rw [h3, State.setFrames_setFrames]
  rw [hr, List.tail_cons, State.pushFrame, h2, State.setTop_of_frames _ hr, h2]
  exact hrest
section CK
variable {p : Program} {l : Launch} {e : Env} {R : Room} {s : State} {m : MethodId} {args : Array Value} {below : List Frame} {meth : Method} {c : Code} {H : Heap} {locs : List Loc} {cells slots : Nat} {Q : State → Prop} {pc : Nat} {ls : Array Slot} {st : List Value} {a : Addr} {cell : Cell} {own X1 X2 : String}
/-- the class of an entry of the table, as the state of now has it -/
theorem g_linked {T : State} (X : Stand p l e R s m args below meth c T locs cells slots) (hown : s.vm.findClass own = some m.cls) {i : Nat} {c1 : ClassId} (h1 : s.vm.findClass X1 = some c1) (hlink : (Cond.classLink own i X1).before args s = true) {vm : Vm} (hW : s.WarmedH vm) :
    vm.ClassLinks e.platform m.cls i c1 ∧ s.WarmedH (vm.noted m.cls i (.cls c1)) ∧ (∃ k, vm.classes[c1]? = some k) := by
  have hpl : e.platform.magicAccessors = ({} : Platform).magicAccessors := by rw [X.admits.platform]
  obtain ⟨c', hc', hcl⟩ := Cond.classLink_spec hown hlink e.platform hpl
  cases h1.symm.trans hc'
  obtain ⟨dk, _, _, kt, hd, _, _, _, _, hkt, _, hopen⟩ := hcl.here
  obtain ⟨kt', hkt', -⟩ := hW.alike.2.2 _ _ hkt
  exact ⟨hW.classLinks hcl, hW.noted hd hopen (State.rightAt_cls hcl), kt', hkt'⟩
/-- caught by the table's first entry -/
theorem g_catch1 (hown : s.vm.findClass own = some m.cls) {x : ExceptionTableEntry} {more : List ExceptionTableEntry} (htab : c.exceptionTable.toList = x :: more) (hx : covers x pc = true) (h0 : x.catchType ≠ 0) (hlink : (Cond.classLink own x.catchType X1).before args s = true)
    (hcell : H[a]? = some cell) (hobj : cell.vm = .none) (hcls : s.vm.findClass X1 = some cell.cls) (hself : s.vm.assignable cell.cls cell.cls = true) (k : W p l e R s m args below meth c H locs cells slots Q (F0 m x.handlerPc ls [.ref a])) : WT p l e R s m args below meth c H locs cells slots Q (F0 m pc ls st) a := by
  intro T hT X
  obtain ⟨hl1, hW1, hk1⟩ := g_linked X hown hcls hlink X.warmed
  obtain ⟨t, a1, b1⟩ := k (T.setVm (T.vm.noted m.cls x.catchType (.cls cell.cls))) hT (X.noted hW1)
  refine ⟨t, g_caught (g := F0 m pc ls st) X.here (pc := x.handlerPc) (vm' := T.vm.noted m.cls x.catchType (.cls cell.cls)) ?_ a1, b1⟩
  intro Q E d acts
  rw [W.findHandler_eq (show ((T.setTop (F0 m pc ls st)).pushFrame (.throwing a)).vm.method? (F0 m pc ls st).method = some meth from X.method') X.code, htab]
  rw [g_seek (e := e) (f := F0 m pc ls st) (a := a) (s := (T.setTop (F0 m pc ls st)).pushFrame (.throwing a)) (c := cell.cls) (cell := cell) hx h0 hl1 (by rw [Stand.throwing_heap, hT]; exact hcell) (fun k h => by rw [hobj] at h; cases h) hk1 hk1]
  rw [if_pos (show ((T.setTop (F0 m pc ls st)).pushFrame (.throwing a)).vm.assignable cell.cls cell.cls = true from by rw [Stand.throwing_vm, X.warmed.alike.assignable]; exact hself)]
  exact Iff.rfl
/-- it is none of the first entry's, and caught by the second -/
theorem g_catch2 (hown : s.vm.findClass own = some m.cls) {x y : ExceptionTableEntry} {more : List ExceptionTableEntry} (htab : c.exceptionTable.toList = x :: y :: more) (hx : covers x pc = true) (h0 : x.catchType ≠ 0) (hlink : (Cond.classLink own x.catchType X1).before args s = true) (hy : covers y pc = true) (hy0 : y.catchType ≠ 0) (hlinky : (Cond.classLink own y.catchType X2).before args s = true)
    (hcell : H[a]? = some cell) (hobj : cell.vm = .none) (hcls : s.vm.findClass X2 = some cell.cls) (hself : s.vm.assignable cell.cls cell.cls = true) (hno : va_Nc X2 X1 s) (k : W p l e R s m args below meth c H locs cells slots Q (F0 m y.handlerPc ls [.ref a])) : WT p l e R s m args below meth c H locs cells slots Q (F0 m pc ls st) a := by
  intro T hT X
  obtain ⟨c2, c1, hc2, hc1, hnot⟩ := hno
  cases hc2.symm.trans hcls
  obtain ⟨hl1, hW1, hk1⟩ := g_linked X hown hc1 hlink X.warmed
  have X1 := X.noted hW1
  obtain ⟨-, -, hk2⟩ := g_linked X hown hcls hlinky X.warmed
  obtain ⟨hl3, hW3, hk3⟩ := g_linked X1 hown hcls hlinky X1.warmed
  obtain ⟨t, a1, b1⟩ := k (T.setVm (((T.vm.noted m.cls x.catchType (.cls c1))).noted m.cls y.catchType (.cls cell.cls))) hT (X.noted hW3)
  refine ⟨t, g_caught (g := F0 m pc ls st) X.here (pc := y.handlerPc) (vm' := ((T.vm.noted m.cls x.catchType (.cls c1))).noted m.cls y.catchType (.cls cell.cls)) ?_ a1, b1⟩
  intro Q E d acts
  rw [W.findHandler_eq (show ((T.setTop (F0 m pc ls st)).pushFrame (.throwing a)).vm.method? (F0 m pc ls st).method = some meth from X.method') X.code, htab]
  rw [g_seek (e := e) (f := F0 m pc ls st) (a := a) (s := (T.setTop (F0 m pc ls st)).pushFrame (.throwing a)) (c := c1) (cell := cell) hx h0 hl1 (by rw [Stand.throwing_heap, hT]; exact hcell) (fun k h => by rw [hobj] at h; cases h) hk2 hk1]
  rw [if_neg (show ¬ ((T.setTop (F0 m pc ls st)).pushFrame (.throwing a)).vm.assignable cell.cls c1 = true from by rw [Stand.throwing_vm, X.warmed.alike.assignable, hnot]; decide)]
  refine (g_seek (Q := Q) (E := E) (d := d) (acts := acts) (t := more) (e := e) (f := F0 m pc ls st) (a := a) (s := ((T.setTop (F0 m pc ls st)).pushFrame (.throwing a)).setVm (T.vm.noted m.cls x.catchType (.cls c1))) (c := cell.cls) (cell := cell) hy hy0 hl3 (by show ((T.setTop (F0 m pc ls st)).pushFrame (.throwing a)).heap[a]? = _; rw [Stand.throwing_heap, hT]; exact hcell) (fun k h => by rw [hobj] at h; cases h) hk3 hk3).trans ?_
  rw [if_pos (show (((T.setTop (F0 m pc ls st)).pushFrame (.throwing a)).setVm (T.vm.noted m.cls x.catchType (.cls c1))).vm.assignable cell.cls cell.cls = true from by show (T.vm.noted m.cls x.catchType (.cls c1)).assignable _ _ = true; rw [hW1.alike.assignable]; exact hself)]
  exact Iff.rfl
end CK
