/-! WORDS of the methods that throw; GENERATED (wip/gen/run4.py) but for its last rows. -/
def y_RD_field : MethodName := ⟨"RemnantDictionary", "field", "(III)V"⟩
abbrev c_RD_fieldb : ByteArray := prog_1_method_2_code
def y_RD_coefficient : MethodName := ⟨"RemnantDictionary", "coefficient", "(II)V"⟩
abbrev c_RD_coefficientb : ByteArray := prog_1_method_3_code
def y_RD_join : MethodName := ⟨"RemnantDictionary", "join", "()I"⟩
abbrev c_RD_joinb : ByteArray := prog_1_method_5_code
def y_RD_find : MethodName := ⟨"RemnantDictionary", "find", "(I)I"⟩
abbrev c_RD_findb : ByteArray := prog_1_method_7_code
def gXw : List Cond := [.instanceMethod y_Mo_lay, .selects "RemnantDictionary$Monomials" y_Mo_lay y_Mo_lay, .methodLink "RemnantDictionary" 50 y_Mo_lay, .instanceMethod y_RD_clear, .selects "RemnantDictionary" y_RD_clear y_RD_clear, .methodLink "RemnantDictionary" 69 y_RD_clear, .code y_RD_field c_RD_fieldb 4 none, .static y_RD_isPrime, .methodLink "RemnantDictionary" 54 y_RD_isPrime, .static y_Math_floorMod0, .methodLink "RemnantDictionary" 78 y_Math_floorMod0, .code y_RD_coefficient c_RD_coefficientb 4 none, .methodLink "RemnantDictionary" 84 y_RD_firstThatIsNot0, .methodLink "RemnantDictionary" 98 (⟨"java/lang/System", "arraycopy", "(Ljava/lang/Object;ILjava/lang/Object;II)V"⟩ : MethodName), .code y_RD_join c_RD_joinb 1 (some .int), .fieldLink "RemnantDictionary" 110 "RemnantDictionary$Monomials" "highest" "I", .methodLink "RemnantDictionary" 115 y_Re_forget, .instanceMethod y_Le_forget, .selects "RemnantDictionary$Lexicon" y_Le_forget y_Le_forget, .methodLink "RemnantDictionary" 118 y_Le_forget, .instanceMethod y_RD_hasCompleteBasis, .selects "RemnantDictionary" y_RD_hasCompleteBasis y_RD_hasCompleteBasis, .methodLink "RemnantDictionary" 119 y_RD_hasCompleteBasis, .methodLink "RemnantDictionary" 124 y_Sp_has1, .instanceMethod y_Re_gather, .selects "RemnantDictionary$Remnant" y_Re_gather y_Re_gather, .methodLink "RemnantDictionary" 130 y_Re_gather, .instanceMethod y_Re_multiply, .selects "RemnantDictionary$Remnant" y_Re_multiply y_Re_multiply, .methodLink "RemnantDictionary" 136 y_Re_multiply, .instanceMethod y_Le_build, .selects "RemnantDictionary$Lexicon" y_Le_build y_Le_build, .methodLink "RemnantDictionary" 140 y_Le_build, .code y_RD_find c_RD_findb 2 (some .int)]
def gTt : List Cond := gTw "RemnantDictionary" 58 62 gIAE ++ gTw "RemnantDictionary" 93 97 gISE
def gAll2 : List Cond := gAll ++ (gXw ++ gTt)
theorem gk {w : Cond} (h : w ∈ gAll) : w ∈ gAll2 := List.mem_append_left _ h
theorem gki {us : List Cond} (h : ∀ w ∈ us, w ∈ gAll) : ∀ w ∈ us, w ∈ gAll2 := fun w hw => gk (h w hw)
theorem x_509 : (.instanceMethod y_Mo_lay : Cond) ∈ gAll2 := List.mem_append_right _ (List.mem_append_left _ (List.mem_of_getElem? (i := 0) rfl))
theorem x_510 : (.selects "RemnantDictionary$Monomials" y_Mo_lay y_Mo_lay : Cond) ∈ gAll2 := List.mem_append_right _ (List.mem_append_left _ (List.mem_of_getElem? (i := 1) rfl))
theorem x_511 : (.methodLink "RemnantDictionary" 50 y_Mo_lay : Cond) ∈ gAll2 := List.mem_append_right _ (List.mem_append_left _ (List.mem_of_getElem? (i := 2) rfl))
theorem x_512 : (.instanceMethod y_RD_clear : Cond) ∈ gAll2 := List.mem_append_right _ (List.mem_append_left _ (List.mem_of_getElem? (i := 3) rfl))
theorem x_513 : (.selects "RemnantDictionary" y_RD_clear y_RD_clear : Cond) ∈ gAll2 := List.mem_append_right _ (List.mem_append_left _ (List.mem_of_getElem? (i := 4) rfl))
theorem x_514 : (.methodLink "RemnantDictionary" 69 y_RD_clear : Cond) ∈ gAll2 := List.mem_append_right _ (List.mem_append_left _ (List.mem_of_getElem? (i := 5) rfl))
theorem x_515 : (.code y_RD_field c_RD_fieldb 4 none : Cond) ∈ gAll2 := List.mem_append_right _ (List.mem_append_left _ (List.mem_of_getElem? (i := 6) rfl))
theorem x_516 : (.static y_RD_isPrime : Cond) ∈ gAll2 := List.mem_append_right _ (List.mem_append_left _ (List.mem_of_getElem? (i := 7) rfl))
theorem x_517 : (.methodLink "RemnantDictionary" 54 y_RD_isPrime : Cond) ∈ gAll2 := List.mem_append_right _ (List.mem_append_left _ (List.mem_of_getElem? (i := 8) rfl))
theorem x_518 : (.static y_Math_floorMod0 : Cond) ∈ gAll2 := List.mem_append_right _ (List.mem_append_left _ (List.mem_of_getElem? (i := 9) rfl))
theorem x_519 : (.methodLink "RemnantDictionary" 78 y_Math_floorMod0 : Cond) ∈ gAll2 := List.mem_append_right _ (List.mem_append_left _ (List.mem_of_getElem? (i := 10) rfl))
theorem x_520 : (.code y_RD_coefficient c_RD_coefficientb 4 none : Cond) ∈ gAll2 := List.mem_append_right _ (List.mem_append_left _ (List.mem_of_getElem? (i := 11) rfl))
theorem x_521 : (.methodLink "RemnantDictionary" 84 y_RD_firstThatIsNot0 : Cond) ∈ gAll2 := List.mem_append_right _ (List.mem_append_left _ (List.mem_of_getElem? (i := 12) rfl))
theorem x_522 : (.methodLink "RemnantDictionary" 98 (⟨"java/lang/System", "arraycopy", "(Ljava/lang/Object;ILjava/lang/Object;II)V"⟩ : MethodName) : Cond) ∈ gAll2 := List.mem_append_right _ (List.mem_append_left _ (List.mem_of_getElem? (i := 13) rfl))
theorem x_523 : (.code y_RD_join c_RD_joinb 1 (some .int) : Cond) ∈ gAll2 := List.mem_append_right _ (List.mem_append_left _ (List.mem_of_getElem? (i := 14) rfl))
theorem x_524 : (.fieldLink "RemnantDictionary" 110 "RemnantDictionary$Monomials" "highest" "I" : Cond) ∈ gAll2 := List.mem_append_right _ (List.mem_append_left _ (List.mem_of_getElem? (i := 15) rfl))
theorem x_525 : (.methodLink "RemnantDictionary" 115 y_Re_forget : Cond) ∈ gAll2 := List.mem_append_right _ (List.mem_append_left _ (List.mem_of_getElem? (i := 16) rfl))
theorem x_526 : (.instanceMethod y_Le_forget : Cond) ∈ gAll2 := List.mem_append_right _ (List.mem_append_left _ (List.mem_of_getElem? (i := 17) rfl))
theorem x_527 : (.selects "RemnantDictionary$Lexicon" y_Le_forget y_Le_forget : Cond) ∈ gAll2 := List.mem_append_right _ (List.mem_append_left _ (List.mem_of_getElem? (i := 18) rfl))
theorem x_528 : (.methodLink "RemnantDictionary" 118 y_Le_forget : Cond) ∈ gAll2 := List.mem_append_right _ (List.mem_append_left _ (List.mem_of_getElem? (i := 19) rfl))
theorem x_529 : (.instanceMethod y_RD_hasCompleteBasis : Cond) ∈ gAll2 := List.mem_append_right _ (List.mem_append_left _ (List.mem_of_getElem? (i := 20) rfl))
theorem x_530 : (.selects "RemnantDictionary" y_RD_hasCompleteBasis y_RD_hasCompleteBasis : Cond) ∈ gAll2 := List.mem_append_right _ (List.mem_append_left _ (List.mem_of_getElem? (i := 21) rfl))
theorem x_531 : (.methodLink "RemnantDictionary" 119 y_RD_hasCompleteBasis : Cond) ∈ gAll2 := List.mem_append_right _ (List.mem_append_left _ (List.mem_of_getElem? (i := 22) rfl))
theorem x_532 : (.methodLink "RemnantDictionary" 124 y_Sp_has1 : Cond) ∈ gAll2 := List.mem_append_right _ (List.mem_append_left _ (List.mem_of_getElem? (i := 23) rfl))
theorem x_533 : (.instanceMethod y_Re_gather : Cond) ∈ gAll2 := List.mem_append_right _ (List.mem_append_left _ (List.mem_of_getElem? (i := 24) rfl))
theorem x_534 : (.selects "RemnantDictionary$Remnant" y_Re_gather y_Re_gather : Cond) ∈ gAll2 := List.mem_append_right _ (List.mem_append_left _ (List.mem_of_getElem? (i := 25) rfl))
theorem x_535 : (.methodLink "RemnantDictionary" 130 y_Re_gather : Cond) ∈ gAll2 := List.mem_append_right _ (List.mem_append_left _ (List.mem_of_getElem? (i := 26) rfl))
theorem x_536 : (.instanceMethod y_Re_multiply : Cond) ∈ gAll2 := List.mem_append_right _ (List.mem_append_left _ (List.mem_of_getElem? (i := 27) rfl))
theorem x_537 : (.selects "RemnantDictionary$Remnant" y_Re_multiply y_Re_multiply : Cond) ∈ gAll2 := List.mem_append_right _ (List.mem_append_left _ (List.mem_of_getElem? (i := 28) rfl))
theorem x_538 : (.methodLink "RemnantDictionary" 136 y_Re_multiply : Cond) ∈ gAll2 := List.mem_append_right _ (List.mem_append_left _ (List.mem_of_getElem? (i := 29) rfl))
theorem x_539 : (.instanceMethod y_Le_build : Cond) ∈ gAll2 := List.mem_append_right _ (List.mem_append_left _ (List.mem_of_getElem? (i := 30) rfl))
theorem x_540 : (.selects "RemnantDictionary$Lexicon" y_Le_build y_Le_build : Cond) ∈ gAll2 := List.mem_append_right _ (List.mem_append_left _ (List.mem_of_getElem? (i := 31) rfl))
theorem x_541 : (.methodLink "RemnantDictionary" 140 y_Le_build : Cond) ∈ gAll2 := List.mem_append_right _ (List.mem_append_left _ (List.mem_of_getElem? (i := 32) rfl))
theorem x_542 : (.code y_RD_find c_RD_findb 2 (some .int) : Cond) ∈ gAll2 := List.mem_append_right _ (List.mem_append_left _ (List.mem_of_getElem? (i := 33) rfl))
theorem gTin1 : ∀ w ∈ gTw "RemnantDictionary" 58 62 gIAE, w ∈ gAll2 := fun w h => List.mem_append_right _ (List.mem_append_right _ (List.mem_append_left _ h))
theorem gTin2 : ∀ w ∈ gTw "RemnantDictionary" 93 97 gISE, w ∈ gAll2 := fun w h => List.mem_append_right _ (List.mem_append_right _ (List.mem_append_right _ h))
theorem gXw_good : gXw.all goodWord = true := by decide +kernel
theorem gTt_good : gTt.all goodWord = true := by decide +kernel
theorem gGood2 : ∀ w ∈ gAll2, (w.onTables && w.keeps) = true ∨ ∃ ty, w = .arrayClass ty := fun w h => (List.mem_append.mp h).elim (gGood w) (fun h => good_of_word ((List.mem_append.mp h).elim (List.all_eq_true.mp gXw_good w) (List.all_eq_true.mp gTt_good w)))
theorem gwV2 {own C : String} {idx n : Nat} {y : MethodName} {b : ByteArray} {r : Option FieldType} (h1 : Cond.methodLink own idx y ∈ gAll2) (h2 : Cond.instanceMethod y ∈ gAll2) (h3 : Cond.selects C y y ∈ gAll2) (h4 : Cond.initialized C ∈ gAll2) (h5 : Cond.code y b n r ∈ gAll2) : GoodIn gAll2 (wsV own idx C y (Cond.code y b n r :: gAll)) := by
  intro w hw
  have hm : w ∈ gAll2 := by
    simp only [wsV, List.mem_append, List.mem_cons, List.not_mem_nil, or_false] at hw
    rcases hw with (rfl | rfl | rfl | rfl) | rfl | hw
    · exact h1
    · exact h2
    · exact h3
    · exact h4
    · exact h5
    · exact gk hw
  exact ⟨hm, gGood2 w hm⟩
theorem gwS2 {own : String} {idx n : Nat} {y : MethodName} {b : ByteArray} {r : Option FieldType} (h1 : Cond.methodLink own idx y ∈ gAll2) (h2 : Cond.static y ∈ gAll2) (h4 : Cond.initialized y.cls ∈ gAll2) (h5 : Cond.code y b n r ∈ gAll2) : GoodIn gAll2 (va_wsS own idx y (Cond.code y b n r :: gAll)) := by
  intro w hw
  have hm : w ∈ gAll2 := by
    simp only [va_wsS, List.mem_append, List.mem_cons, List.not_mem_nil, or_false] at hw
    rcases hw with (rfl | rfl | rfl) | rfl | hw
    · exact h1
    · exact h2
    · exact h4
    · exact h5
    · exact gk hw
  exact ⟨hm, gGood2 w hm⟩
theorem gwN2 {n : Nat} {y : MethodName} {b : ByteArray} {r : Option FieldType} (h5 : Cond.code y b n r ∈ gAll2) : GoodIn gAll2 (Cond.code y b n r :: gAll) := by
  intro w hw
  have hm : w ∈ gAll2 := by
    rcases List.mem_cons.mp hw with rfl | hw
    · exact h5
    · exact gk hw
  exact ⟨hm, gGood2 w hm⟩
/-- the texts of the exceptions -/
def gSt : List (Nat × String) := [(60, "p is no prime up to 32003"), (65, "n is not 1 .. 4"), (67, "order is not 0 or 1"), (76, "e is no monomial of the variables up to the highest degree"), (88, "the polynomial in hand is 0"), (95, "there are 8 generators"), (113, "d is not 0 .. the highest degree"), (122, "the basis is not complete"), (128, "1 is in the ideal"), (134, "more than 40 monomials are left over")]
def gStr (U : State) : Prop := ∀ q ∈ gSt, ∃ a : Nat, vk_R "RemnantDictionary" q.1 q.2 a U
theorem gStr.warm {s U : State} (h : gStr s) (hW : s.WarmedH U.vm) : gStr U := fun q hq => (h q hq).elim fun a ha => ⟨a, vk_R.warm hW ha⟩
theorem gStr.same {s U : State} (h : gStr s) (hv : U.vm = s.vm) : gStr U := fun q hq => (h q hq).elim fun a ha => ⟨a, vk_R.same hv ha⟩
/-- what is thrown -/
def gTh (X : String) (st : State) (o : Outcome) (t : State) : Prop := ∃ (a : Addr) (ce : Cell), o = .threw a ∧ t.heap[a]? = some ce ∧ ce.vm = .none ∧ st.vm.findClass X = some ce.cls
def gQT (k : Int32) (rv : Option Value) (B : State → Prop) (A : Nat → Prop) : Array Value → State → Outcome → State → Prop := fun _ st o t => (B t ∧ va_F A st t) ∧ ((k = 0 ∧ o = .returned rv) ∨ (k = 1 ∧ gTh gIAE st o t) ∨ (k = 2 ∧ gTh gISE st o t))
theorem gQT_v {B : Unit → State → Prop} {A : Nat → Prop} {a : Array Value} {s : State} {o : Outcome} {t : State} (h : va_Qv (fun _ : Unit => True) B A a s o t) : gQT 0 none (B ()) A a s o t := by
  obtain ⟨⟨u, h1, -, h2⟩, h3⟩ := h
  exact ⟨⟨h2, h3⟩, Or.inl ⟨rfl, h1⟩⟩
theorem gQT_i {B : Unit → State → Prop} {A : Nat → Prop} {a : Array Value} {s : State} {o : Outcome} {t : State} {r_ : Int32} (h : va_Qi (fun r (_ : Unit) => r = r_) B A a s o t) : gQT 0 (some (.int r_)) (B ()) A a s o t := by
  obtain ⟨⟨r, u, h1, h2, h4⟩, h3⟩ := h
  subst h2
  exact ⟨⟨h4, h3⟩, Or.inl ⟨rfl, h1⟩⟩
theorem g_thrown {D : va_G} {tys : List (ClassId × FieldType)} {A : Nat → Prop} {ws : va_W} {s U : State} {H : Heap} {locs : List Loc} (hP : va_P D classes ws H) (hK : va_K D classes tys s) (hD : va_D A ws) (hS : va_S A s.heap H locs) (hW : s.WarmedH U.vm) (hz : U.heap.size = H.size + 1) (hk : ∀ q, q < H.size → U.heap[q]? = H[q]?) : gB D tys A ws () U ∧ va_F A s U := by
  refine ⟨⟨fun k q hq => (hP k q hq).kept (hk q.1 (hP k q hq).lt), va_K.moved hW.alike hK, hD⟩, by have := hS.1; omega, fun q h1 h2 => ?_⟩
  rw [hk q (Nat.lt_of_lt_of_le h1 hS.1)]
  exact hS.2.1 q h1 h2
