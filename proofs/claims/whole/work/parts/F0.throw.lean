/-! THROWS: a new exception is made and leaves the method; a call that may throw; the search through the caller's table, its class entries cold or warm. -/
def gIAE : String := "java/lang/IllegalArgumentException"
def gISE : String := "java/lang/IllegalStateException"
section TB
variable {p : Program} {l : Launch} {e : Env} {R : Room} {s : State} {m : MethodId} {args : Array Value} {below : List Frame} {meth : Method} {c : Code} {T : State} {locs : List Loc} {cells slots : Nat}
/-- the walk begun anew where it stands: the state of now in the place of the invocation's -/
theorem g_base (X : Stand p l e R s m args below meth c T locs cells slots) {k n : Nat} (hc : cells + k ≤ R.cells) (hn : slots + n ≤ R.slots) :
    Stand p l e { frames := R.frames, cells := k, slots := n, locals := R.locals } ((T.setVm s.vm).setFrames (.invoking m args :: below)) m args below meth c T [] 0 0 := by
  obtain ⟨g₀, hr⟩ := X.frames_eq
  obtain ⟨th, hth, -⟩ := State.frames_cons hr
  have hcur : T.cur < T.threads.size := (Array.getElem?_eq_some_iff.mp hth).1
  have hfr : ((T.setVm s.vm).setFrames (.invoking m args :: below)).frames = .invoking m args :: below := State.frames_setFrames _ hcur
  have hsame := State.sameButNew.refl (T.setVm s.vm) (x := th) hth
  have hm1 : e.platform.stackLimits ((T.setVm s.vm).setFrames (.invoking m args :: below)).me = e.platform.stackLimits s.me := (State.stackLimits_setFrames e.platform (T.setVm s.vm) _).trans X.limits
  have hm2 : ((T.setVm s.vm).setFrames (.invoking m args :: below)).me.stackBytes = s.me.stackBytes := (State.stackBytes_setFrames (T.setVm s.vm) _).trans X.bytes
  have hli : ((T.setVm s.vm).setFrames (.invoking m args :: below)).localsInUse = s.localsInUse := by
    rw [State.localsInUse_invoking X.frames X.method X.code, State.localsInUse_invoking hfr (show ((T.setVm s.vm).setFrames (.invoking m args :: below)).vm.method? m = some meth from X.method) X.code]
  refine ⟨X.admits, X.cas, X.clock, hfr, ?_, ?_, X.method, X.code, X.here, X.tail, X.warmed, ?_, ?_, ?_⟩
  · have h := X.room
    have h1 := X.heapHas hc hn
    simp only [State.hasRoom, Bool.and_eq_true, decide_eq_true_eq] at h ⊢
    rw [hm1, hm2, hli, hfr]
    rw [X.frames] at h
    exact ⟨⟨⟨⟨h.1.1.1.1, h.1.1.1.2⟩, h1.1⟩, h1.2⟩, X.book⟩
  · have h := X.hears
    cases below with
    | nil => exact h
    | cons f r => cases f <;> exact h
  · exact (State.stackLimits_setFrames e.platform (T.setVm s.vm) _).symm
  · exact (State.stackBytes_setFrames (T.setVm s.vm) _).symm
  · refine ⟨?_, hsame.2⟩
    have h := hsame.1
    show T.setVm s.vm = { ((T.setVm s.vm).setFrames (.invoking m args :: below)).setFrames (T.setVm s.vm).frames with heap := (T.setVm s.vm).heap, slotsUsed := (T.setVm s.vm).slotsUsed }
    rw [State.setFrames_setFrames]
    exact h
end TB
/-- a static of Throwable's, which nobody writes -/
def gZs (n d : String) (A : Nat → Prop) (U : State) : Prop := ∃ (c : ClassId) (k : Class) (i : Nat) (f : Field) (a : Nat) (cell : Cell) (v : Value), U.vm.findClass Bundle.tN = some c ∧ U.fieldFound? Bundle.tN n d = some (c, k, i, f) ∧ f.isStatic = true ∧ k.statics = some a ∧ U.heap[a]? = some cell ∧ cell.vm.isStatics = true ∧ cell.cls = c ∧ f.slot < cell.slots.size ∧ k.staticTypes[f.slot]? = some f.type ∧ cell.slots[f.slot]? = some v ∧ (v = .null ∨ ∃ t, v = .ref t) ∧ ¬ A a
theorem gZs.at {n d : String} {A B : Nat → Prop} {s U : State} {H : Heap} {locs : List Loc} (h : gZs n d A s) (hS : va_S A s.heap H locs) (hB : ∀ q, B q → A q) (hU : U.heap = H) (hvm : s.vm.Alike U.vm) : gZs n d B U := by
  obtain ⟨c, k, i, f, a, cell, v, h1, h2, h3, h4, h5, h6, h7, h8, h9, h10, h11, h12⟩ := h
  obtain ⟨k', hi', he⟩ := State.fieldFound?_setVm hvm h2
  exact ⟨c, k', i, f, a, cell, v, by rw [hvm.findClass]; exact h1, hi', h3, by rw [he]; exact h4, by rw [hU, hS.2.1 a (Array.getElem?_eq_some_iff.mp h5).1 h12]; exact h5, h6, h7, h8, by rw [he]; exact h9, h10, h11, fun z => h12 (hB a z)⟩
theorem gZs.ref {n d : String} {A : Nat → Prop} {U : State} (h : gZs n d A U) (ar : Array Value) : (Cond.isRef (.static Bundle.tN n d)).before ar U = true := by
  obtain ⟨c, k, i, f, a, cell, v, h1, h2, h3, h4, h5, h6, h7, h8, h9, h10, h11, h12⟩ := h
  rcases h11 with rfl | ⟨t, rfl⟩ <;> simp [Cond.before, Cond.holds, Cond.value, Term.eval, State.fieldNamed?, h2, h3, h4, h5, h6, h10]
theorem gZs.lays {n d : String} {A : Nat → Prop} {U : State} (h : gZs n d A U) (ar : Array Value) : (Cond.laysStatic Bundle.tN n d).before ar U = true := by
  obtain ⟨c, k, i, f, a, cell, v, h1, h2, h3, h4, h5, h6, h7, h8, h9, h10, h11, h12⟩ := h
  simp [Cond.before, Cond.holds, Cond.value, h1, h2, h3, h4, h5, h6, h7, h8, h9]
theorem gZs.of {n d : String} {A : Nat → Prop} {ar : Array Value} {s : State} (hl : (Cond.laysStatic Bundle.tN n d).before ar s = true) (hr : (Cond.isRef (.static Bundle.tN n d)).before ar s = true) (hA : ∀ a : Nat, a < s.heap.size → ¬ A a) : gZs n d A s := by
  obtain ⟨c, k, i, f, a, cell, h1, h2, h3, h4, h5, h6, h7, h8, h9⟩ := Cond.laysStatic_spec hl
  cases hv : (Term.static Bundle.tN n d).eval ar s none [] s with
  | none => simp [Cond.before, Cond.holds, Cond.value, hv] at hr
  | some w =>
    obtain ⟨_, a', cell', ha', hcell', -, hslot⟩ := Term.static_spec h2 hv
    cases h4.symm.trans ha'
    cases h5.symm.trans hcell'
    simp only [Cond.before, Cond.holds, Cond.value, hv] at hr
    refine ⟨c, k, i, f, a, cell, w, h1, h2, h3, h4, h5, h6, h7, h8, h9, hslot, ?_, hA a (Array.getElem?_eq_some_iff.mp h5).1⟩
    cases w with
    | null => exact Or.inl rfl
    | ref t => exact Or.inr ⟨t, rfl⟩
    | _ => simp at hr
def gTl : List Cond := [.castable gIAE gIAE, .castable gISE gISE, .declares (Bundle.initS "java/lang/RuntimeException"), .declares (Bundle.initS "java/lang/Exception"), .declares (Bundle.initS Bundle.tN)]
def gTd (U : State) : Prop := ∀ w ∈ gTl, w.before #[] U = true
theorem gTd.moved {u U : State} (hvm : u.vm.Alike U.vm) (h : gTd u) : gTd U := by
  intro w hw
  have h1 := h w hw
  have hU : U.setVm U.vm = U := rfl
  have tr : ∀ {c : Cond}, c.onTables = true → c.before #[] (u.setVm U.vm) = true → c.before #[] U = true := by
    intro c hc h
    have e := Cond.onTables_vm (A := #[]) (A' := #[]) (U := u) (U' := U) U.vm c hc
    rw [hU] at e
    rw [← e]
    exact h
  simp only [gTl, List.mem_cons, List.not_mem_nil, or_false] at hw
  rcases hw with rfl | rfl | rfl | rfl | rfl
  · exact tr rfl (by rw [Cond.castable_setVm hvm]; exact h1)
  · exact tr rfl (by rw [Cond.castable_setVm hvm]; exact h1)
  · exact tr rfl (by rw [Cond.declares_setVm hvm]; exact h1)
  · exact tr rfl (by rw [Cond.declares_setVm hvm]; exact h1)
  · exact tr rfl (by rw [Cond.declares_setVm hvm]; exact h1)
theorem gTl_on : ∀ w ∈ gTl, w.onTables = true := by decide +kernel
def gTz (A : Nat → Prop) (U : State) : Prop := gZs "UNASSIGNED_STACK" Bundle.steD A U ∧ gZs "SUPPRESSED_SENTINEL" Bundle.listD A U ∧ gTd U
theorem gTz.at {A B : Nat → Prop} {s U : State} {H : Heap} {locs : List Loc} (h : gTz A s) (hS : va_S A s.heap H locs) (hB : ∀ q, B q → A q) (hU : U.heap = H) (hvm : s.vm.Alike U.vm) : gTz B U := ⟨h.1.at hS hB hU hvm, h.2.1.at hS hB hU hvm, h.2.2.moved hvm⟩
/-- the words that a throw asks: those of the tables -/
def gTn : List String := ["java/lang/RuntimeException", "java/lang/Exception"]
def gTw (own : String) (ia ic : Nat) (X : String) : List Cond := [.classLink own ia X, .instantiable X 6, .initialized X] ++ (Bundle.ownAtoms own ic X gTn).filter (fun w => w.onTables && w.keeps)
def gTo : List Cond := [.isRef (.static Bundle.tN "UNASSIGNED_STACK" Bundle.steD), .isRef (.static Bundle.tN "SUPPRESSED_SENTINEL" Bundle.listD), .laysStatic Bundle.tN "UNASSIGNED_STACK" Bundle.steD, .laysStatic Bundle.tN "SUPPRESSED_SENTINEL" Bundle.listD]
theorem gTok1 : ∀ w ∈ Bundle.ownAtoms "RemnantDictionary" 62 gIAE gTn, (w.onTables && w.keeps) = true ∨ w ∈ gTo ∨ w ∈ gTl := by decide +kernel
theorem gTok2 : ∀ w ∈ Bundle.ownAtoms "RemnantDictionary" 97 gISE gTn, (w.onTables && w.keeps) = true ∨ w ∈ gTo ∨ w ∈ gTl := by decide +kernel
theorem gTz.words {A : Nat → Prop} {U : State} (h : gTz A U) (ar : Array Value) : ∀ w ∈ gTo, w.before ar U = true := by
  intro w hw
  simp only [gTo, List.mem_cons, List.not_mem_nil, or_false] at hw
  rcases hw with rfl | rfl | rfl | rfl
  · exact h.1.ref ar
  · exact h.2.1.ref ar
  · exact h.1.lays ar
  · exact h.2.1.lays ar
section TR
variable {p : Program} {l : Launch} {e : Env} {R : Room} {s : State} {m : MethodId} {args : Array Value} {below : List Frame} {meth : Method} {c : Code} {H : Heap} {locs : List Loc} {cells slots : Nat} {Q : State → Prop}
theorem W.up {Q' : State → Prop} {g : JFrame} (h : ∀ t, Q t → Q' t) (k : W p l e R s m args below meth c H locs cells slots Q g) : W p l e R s m args below meth c H locs cells slots Q' g := by
  intro T hT X
  obtain ⟨t, a, b⟩ := k T hT X
  exact ⟨t, a, h t b⟩
set_option maxHeartbeats 4000000 in
theorem g_throwK {cc : ByteArray} {pc : Nat} {ls : Array Slot} {rest : List Value} (hexec : p.tables.exec = Jvm.exec) (hb : c.code = cc) (htr : e.platform.stackTraces = false) (hnh : c.exceptionTable.isEmpty = true) (hlocks : meth.locks = false) (hml : ls.size = c.maxLocals)
    {own X tx : String} {ia ib ic q : Nat} (hown : s.vm.findClass own = some m.cls) (hX : Bundle.fit X = true) (h1 : (Cond.classLink own ia X).before args s = true) (h2 : (Cond.instantiable X 6).before args s = true) (h3 : (Cond.initialized X).before args s = true) (hts : ∀ w ∈ Bundle.ownAtoms own ic X gTn, w.before args s = true)
    (hstr : vk_R own ib tx q s) (hRf : 5 < R.frames) (hRl : (rest.map fun v => v.category).sum + 82 ≤ R.locals) (hcells : 1 ≤ R.cells) (hslots : 6 ≤ R.slots) (hsz : H.size = s.heap.size)
    (hd0 : decode cc pc = .ok (.new ia, 3)) (hd3 : decode cc (pc + 3) = .ok (.dup, 1)) (hd4 : decode cc (pc + 4) = .ok (.ldc ib, 2)) (hd6 : decode cc (pc + 6) = .ok (.invokespecial ic, 3)) (hd9 : decode cc (pc + 9) = .ok (.athrow, 1)) :
    W p l e R s m args below meth c H [] 0 0 (fun U => U.status = .running ∧ Ended U below (.threw s.heap.size) ∧ s.WarmedH U.vm ∧ s.sameButNew ({ U with vm := s.vm } : State) [] 1 6 ∧ U.heap.size = s.heap.size + 1 ∧ (∃ ce, U.heap[s.heap.size]? = some ce ∧ ce.vm = .none ∧ s.vm.findClass X = some ce.cls)) (F0 m pc ls rest) := by
  refine W.newc hexec hb (own := own) (C := X) (n := 6) hown h1 h2 h3 rfl hd0 (by omega) (by omega) (fun cC kC h1 h2 h3 h4 => ?_)
  refine W.eq (g2 := F0 m (pc + 3) ls (.ref H.size :: rest)) rfl ?_
  refine lv_dup hexec hb hd3 rfl ?_
  refine va_ldcS hexec hb hown hstr hd4 ?_
  intro T2 hT2 X2
  obtain ⟨U, st, hrun, hend, hW2, hsm, ce, hce, hoc⟩ := X2.ctorThrowS hexec htr (own := own) (cls := X) (names := gTn) (ic := ic) hown hX (by decide) hts (fun x hx => by cases hx) (a := H.size) (cX := cC) (kX := kC) h1 h2 (by rw [hT2]; exact Array.getElem?_push_size) (by omega)
    (msg := .ref q) rfl (g := F0 m (pc + 6) ls (.ref q :: .ref H.size :: .ref H.size :: rest)) rfl hml rfl rfl (rest := rest) rfl (by rw [hb]; exact hd6) (by rw [hb]; exact hd9)
    (fun x hx => by rw [show c.exceptionTable.toList = [] from by simpa [Array.isEmpty] using hnh] at hx; cases hx) hRf (by
      have h9 : (F0 m (pc + 6) ls (.ref q :: .ref H.size :: .ref H.size :: rest)).monitorRoom = 0 := rfl
      rw [h9]
      have h8 : ((Value.ref H.size :: rest).map fun v => v.category).sum = 1 + (rest.map fun v => v.category).sum := by rw [List.map_cons, List.sum_cons]; rfl
      rw [h8]
      show 2 * 0 + (1 + (rest.map fun v => v.category).sum) + (13 * (2 + 1) + 42) ≤ R.locals
      omega) hlocks
  rw [hsz] at hend hce
  refine ⟨U, st, hrun, hend, hW2, hsm, ?_, ce, hce, hoc.vm, hoc.cls⟩
  have h5 := hsm.2.2.1
  have h6 := (Array.getElem?_eq_some_iff.mp hce).1
  have h7 : U.heap.size ≤ s.heap.size + 1 := h5
  omega
set_option maxHeartbeats 4000000 in
/-- new, dup, ldc, the constructor, athrow: it is gone -/
theorem g_throw {cc : ByteArray} {pc : Nat} {ls : Array Slot} {rest : List Value} {A : Nat → Prop} (hexec : p.tables.exec = Jvm.exec) (hb : c.code = cc) (hfl : l.flags = flags0) (hnh : c.exceptionTable.isEmpty = true) (hlocks : meth.locks = false) (hml : ls.size = c.maxLocals)
    {own X tx : String} {ia ib ic q : Nat} (hown : s.vm.findClass own = some m.cls) (hX : Bundle.fit X = true) (hok : ∀ w ∈ Bundle.ownAtoms own ic X gTn, (w.onTables && w.keeps) = true ∨ w ∈ gTo ∨ w ∈ gTl)
    (hts : ∀ w ∈ gTw own ia ic X, w.before args s = true) (hz : gTz A s) (hS : va_S A s.heap H locs) (hstr : vk_R own ib tx q s) (hRf : 5 < R.frames) (hRl : (rest.map fun v => v.category).sum + 82 ≤ R.locals) (hcells : cells + 1 ≤ R.cells) (hslots : slots + 6 ≤ R.slots)
    (hd0 : decode cc pc = .ok (.new ia, 3)) (hd3 : decode cc (pc + 3) = .ok (.dup, 1)) (hd4 : decode cc (pc + 4) = .ok (.ldc ib, 2)) (hd6 : decode cc (pc + 6) = .ok (.invokespecial ic, 3)) (hd9 : decode cc (pc + 9) = .ok (.athrow, 1))
    (hQ : ∀ U : State, U.status = .running → Ended U below (.threw H.size) → s.WarmedH U.vm → s.sameButNew ({ U with vm := s.vm } : State) locs (cells + 1) (slots + 6) → U.heap.size = H.size + 1 → (∀ q, q < H.size → U.heap[q]? = H[q]?) → (∃ ce, U.heap[H.size]? = some ce ∧ ce.vm = .none ∧ s.vm.findClass X = some ce.cls) → Q U) :
    W p l e R s m args below meth c H locs cells slots Q (F0 m pc ls rest) := by
  intro T hT X0
  have htr : e.platform.stackTraces = false := Launch.traces_off hfl X0.admits
  have XB := g_base X0 hcells hslots
  have hsame0 := X0.same
  obtain ⟨s', hs'⟩ : ∃ s', s' = (T.setVm s.vm).setFrames (.invoking m args :: below) := ⟨_, rfl⟩
  have hv : s'.vm = s.vm := by rw [hs']; rfl
  have hH : s'.heap = T.heap := by rw [hs']; rfl
  have hTs : s.sameButNew s' locs cells slots := by
    rw [hs']
    exact hsame0.setFrames _ X0.cur
  rw [← hs'] at XB
  clear hs' hsame0
  have hWW : s.WarmedH s'.vm := by rw [hv]; exact State.WarmedH.refl s
  have hz' : gTz A s' := hz.at (U := s') hS (fun _ h => h) (by rw [hH, hT]) hWW.alike
  have hw : ∀ w ∈ gTw own ia ic X, (w.onTables && w.keeps) = true → w.before args s' = true := fun w h h2 => word_at hWW (Or.inl h2) (hts w h)
  have hown' : ∀ w ∈ Bundle.ownAtoms own ic X gTn, w.before args s' = true := by
    intro w h
    rcases hok w h with h1 | h1 | h1
    · exact hw w (List.mem_append_right _ (List.mem_filter.mpr ⟨h, h1⟩)) h1
    · exact hz'.words args w h1
    · exact va_any (gTl_on w h1) (hz'.2.2 w h1)
  have K := g_throwK (H := T.heap) (p := p) (l := l) (e := e) (s := s') (rest := rest) (m := m) (args := args) (below := below) (ib := ib) (tx := tx) (q := q) (R := { frames := R.frames, cells := 1, slots := 6, locals := R.locals }) hexec hb htr hnh hlocks hml (by rw [hv]; exact hown) hX (hw (.classLink own ia X) (List.mem_append_left _ (by simp)) rfl) (hw (.instantiable X 6) (List.mem_append_left _ (by simp)) rfl) (hw (.initialized X) (List.mem_append_left _ (by simp)) rfl) hown' (vk_R.same hv hstr) hRf hRl (Nat.le_refl 1) (Nat.le_refl 6) (by rw [hH]) hd0 hd3 hd4 hd6 hd9
  obtain ⟨U, st, hrun, hend, hW2, hsm, hsz, hce⟩ := K T rfl XB
  have hHs : s'.heap.size = H.size := by rw [hH, hT]
  rw [hHs] at hend hsz hce
  rw [hv] at hsm hce
  refine ⟨U, st, hQ U hrun hend ?_ ?_ hsz ?_ hce⟩
  · exact State.WarmedH.trans hWW hW2
  · have h9 := hTs.trans hsm
    rwa [List.append_nil] at h9
  · intro q hq
    have hq2 : q < s'.heap.size := by rw [hHs]; exact hq
    have hce1 : s'.heap[q]? = some s'.heap[q] := Array.getElem?_eq_getElem hq2
    obtain ⟨c', h1, h2, h3, h4⟩ := hsm.2.2.2.2.2 q _ hce1
    have h5 : c'.slots = (s'.heap[q]).slots := by
      apply Array.ext_getElem?
      intro i
      exact h4 i (by simp)
    have h6 : c' = s'.heap[q] := by rw [h2, h5]
    rw [← hT, ← hH, hce1, ← h6]
    exact h1
end TR
