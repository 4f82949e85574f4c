/-! WORDS of the constructors; GENERATED (wip/gen/run5.py). -/
def y_Mo_init : MethodName := ⟨"RemnantDictionary$Monomials", "<init>", "()V"⟩
abbrev c_Mo_initb : ByteArray := prog_3_method_1_code
def y_Sp_init : MethodName := ⟨"RemnantDictionary$Space", "<init>", "(LRemnantDictionary$Monomials;)V"⟩
abbrev c_Sp_initb : ByteArray := prog_5_method_1_code
def y_Re_init : MethodName := ⟨"RemnantDictionary$Remnant", "<init>", "()V"⟩
abbrev c_Re_initb : ByteArray := prog_4_method_1_code
def y_Le_init : MethodName := ⟨"RemnantDictionary$Lexicon", "<init>", "()V"⟩
abbrev c_Le_initb : ByteArray := prog_2_method_1_code
def y_RD_init : MethodName := ⟨"RemnantDictionary", "<init>", "()V"⟩
abbrev c_RD_initb : ByteArray := prog_1_method_1_code
def y_Z_init : MethodName := ⟨"RemnantDictionaryModel", "<init>", "()V"⟩
abbrev c_Z_initb : ByteArray := prog_7_method_1_code
def gYw : List Cond := [.methodLink "RemnantDictionary$Monomials" 3 Lib.objectInit, .instanceMethod Lib.objectInit, .code Lib.objectInit ⟨#[0xb1]⟩ 1 none, .arrayClass .int, .arrayClass .long, .code y_Mo_init c_Mo_initb 1 none, .methodLink "RemnantDictionary$Space" 3 Lib.objectInit, .arrayClass .boolean, .code y_Sp_init c_Sp_initb 2 none, .methodLink "RemnantDictionary$Remnant" 3 Lib.objectInit, .code y_Re_init c_Re_initb 1 none, .methodLink "RemnantDictionary$Lexicon" 3 Lib.objectInit, .code y_Le_init c_Le_initb 1 none, .methodLink "RemnantDictionary" 3 Lib.objectInit, .classLink "RemnantDictionary" 16 "RemnantDictionary$Monomials", .instantiable "RemnantDictionary$Monomials" 8, .instanceMethod y_Mo_init, .classLink "RemnantDictionary" 23 "RemnantDictionary$Space", .instantiable "RemnantDictionary$Space" 10, .instanceMethod y_Sp_init, .methodLink "RemnantDictionary" 25 y_Sp_init, .classLink "RemnantDictionary" 32 "RemnantDictionary$Remnant", .instantiable "RemnantDictionary$Remnant" 9, .instanceMethod y_Re_init, .classLink "RemnantDictionary" 39 "RemnantDictionary$Lexicon", .instantiable "RemnantDictionary$Lexicon" 14, .instanceMethod y_Le_init, .code y_RD_init c_RD_initb 1 none, .methodLink "RemnantDictionaryModel" 1 Lib.objectInit, .code y_Z_init c_Z_initb 1 none]
def gAll3 : List Cond := gAll2 ++ gYw
theorem gk3 {w : Cond} (h : w ∈ gAll2) : w ∈ gAll3 := List.mem_append_left _ h
theorem gki3 {us : List Cond} (h : ∀ w ∈ us, w ∈ gAll) : ∀ w ∈ us, w ∈ gAll3 := fun w hw => gk3 (gk (h w hw))
theorem y_543 : (.methodLink "RemnantDictionary$Monomials" 3 Lib.objectInit : Cond) ∈ gAll3 := List.mem_append_right _ (List.mem_of_getElem? (i := 0) rfl)
theorem y_544 : (.instanceMethod Lib.objectInit : Cond) ∈ gAll3 := List.mem_append_right _ (List.mem_of_getElem? (i := 1) rfl)
theorem y_545 : (.code Lib.objectInit ⟨#[0xb1]⟩ 1 none : Cond) ∈ gAll3 := List.mem_append_right _ (List.mem_of_getElem? (i := 2) rfl)
theorem y_546 : (.arrayClass .int : Cond) ∈ gAll3 := List.mem_append_right _ (List.mem_of_getElem? (i := 3) rfl)
theorem y_547 : (.arrayClass .long : Cond) ∈ gAll3 := List.mem_append_right _ (List.mem_of_getElem? (i := 4) rfl)
theorem y_548 : (.code y_Mo_init c_Mo_initb 1 none : Cond) ∈ gAll3 := List.mem_append_right _ (List.mem_of_getElem? (i := 5) rfl)
theorem y_549 : (.methodLink "RemnantDictionary$Space" 3 Lib.objectInit : Cond) ∈ gAll3 := List.mem_append_right _ (List.mem_of_getElem? (i := 6) rfl)
theorem y_550 : (.arrayClass .boolean : Cond) ∈ gAll3 := List.mem_append_right _ (List.mem_of_getElem? (i := 7) rfl)
theorem y_551 : (.code y_Sp_init c_Sp_initb 2 none : Cond) ∈ gAll3 := List.mem_append_right _ (List.mem_of_getElem? (i := 8) rfl)
theorem y_552 : (.methodLink "RemnantDictionary$Remnant" 3 Lib.objectInit : Cond) ∈ gAll3 := List.mem_append_right _ (List.mem_of_getElem? (i := 9) rfl)
theorem y_553 : (.code y_Re_init c_Re_initb 1 none : Cond) ∈ gAll3 := List.mem_append_right _ (List.mem_of_getElem? (i := 10) rfl)
theorem y_554 : (.methodLink "RemnantDictionary$Lexicon" 3 Lib.objectInit : Cond) ∈ gAll3 := List.mem_append_right _ (List.mem_of_getElem? (i := 11) rfl)
theorem y_555 : (.code y_Le_init c_Le_initb 1 none : Cond) ∈ gAll3 := List.mem_append_right _ (List.mem_of_getElem? (i := 12) rfl)
theorem y_556 : (.methodLink "RemnantDictionary" 3 Lib.objectInit : Cond) ∈ gAll3 := List.mem_append_right _ (List.mem_of_getElem? (i := 13) rfl)
theorem y_557 : (.classLink "RemnantDictionary" 16 "RemnantDictionary$Monomials" : Cond) ∈ gAll3 := List.mem_append_right _ (List.mem_of_getElem? (i := 14) rfl)
theorem y_558 : (.instantiable "RemnantDictionary$Monomials" 8 : Cond) ∈ gAll3 := List.mem_append_right _ (List.mem_of_getElem? (i := 15) rfl)
theorem y_559 : (.instanceMethod y_Mo_init : Cond) ∈ gAll3 := List.mem_append_right _ (List.mem_of_getElem? (i := 16) rfl)
theorem y_560 : (.classLink "RemnantDictionary" 23 "RemnantDictionary$Space" : Cond) ∈ gAll3 := List.mem_append_right _ (List.mem_of_getElem? (i := 17) rfl)
theorem y_561 : (.instantiable "RemnantDictionary$Space" 10 : Cond) ∈ gAll3 := List.mem_append_right _ (List.mem_of_getElem? (i := 18) rfl)
theorem y_562 : (.instanceMethod y_Sp_init : Cond) ∈ gAll3 := List.mem_append_right _ (List.mem_of_getElem? (i := 19) rfl)
theorem y_563 : (.methodLink "RemnantDictionary" 25 y_Sp_init : Cond) ∈ gAll3 := List.mem_append_right _ (List.mem_of_getElem? (i := 20) rfl)
theorem y_564 : (.classLink "RemnantDictionary" 32 "RemnantDictionary$Remnant" : Cond) ∈ gAll3 := List.mem_append_right _ (List.mem_of_getElem? (i := 21) rfl)
theorem y_565 : (.instantiable "RemnantDictionary$Remnant" 9 : Cond) ∈ gAll3 := List.mem_append_right _ (List.mem_of_getElem? (i := 22) rfl)
theorem y_566 : (.instanceMethod y_Re_init : Cond) ∈ gAll3 := List.mem_append_right _ (List.mem_of_getElem? (i := 23) rfl)
theorem y_567 : (.classLink "RemnantDictionary" 39 "RemnantDictionary$Lexicon" : Cond) ∈ gAll3 := List.mem_append_right _ (List.mem_of_getElem? (i := 24) rfl)
theorem y_568 : (.instantiable "RemnantDictionary$Lexicon" 14 : Cond) ∈ gAll3 := List.mem_append_right _ (List.mem_of_getElem? (i := 25) rfl)
theorem y_569 : (.instanceMethod y_Le_init : Cond) ∈ gAll3 := List.mem_append_right _ (List.mem_of_getElem? (i := 26) rfl)
theorem y_570 : (.code y_RD_init c_RD_initb 1 none : Cond) ∈ gAll3 := List.mem_append_right _ (List.mem_of_getElem? (i := 27) rfl)
theorem y_571 : (.methodLink "RemnantDictionaryModel" 1 Lib.objectInit : Cond) ∈ gAll3 := List.mem_append_right _ (List.mem_of_getElem? (i := 28) rfl)
theorem y_572 : (.code y_Z_init c_Z_initb 1 none : Cond) ∈ gAll3 := List.mem_append_right _ (List.mem_of_getElem? (i := 29) rfl)
theorem gYw_good : gYw.all goodWord = true := by decide +kernel
theorem gGood3 : ∀ w ∈ gAll3, (w.onTables && w.keeps) = true ∨ ∃ ty, w = .arrayClass ty := fun w h => (List.mem_append.mp h).elim (gGood2 w) (fun h => good_of_word (List.all_eq_true.mp gYw_good w h))
theorem gw3 {n : Nat} {y : MethodName} {b : ByteArray} {r : Option FieldType} (h5 : Cond.code y b n r ∈ gAll3) : GoodIn gAll3 (Cond.code y b n r :: gAll3) := by
  intro w hw
  have hm : w ∈ gAll3 := by
    rcases List.mem_cons.mp hw with rfl | hw
    · exact h5
    · exact hw
  exact ⟨hm, gGood3 w hm⟩
theorem gwV3 {own C : String} {idx n : Nat} {y : MethodName} {b : ByteArray} {r : Option FieldType} (h1 : Cond.methodLink own idx y ∈ gAll3) (h2 : Cond.instanceMethod y ∈ gAll3) (h3 : Cond.selects C y y ∈ gAll3) (h4 : Cond.initialized C ∈ gAll3) (h5 : Cond.code y b n r ∈ gAll3) : GoodIn gAll3 (wsV own idx C y (Cond.code y b n r :: gAll)) := by
  intro w hw
  have hm : w ∈ gAll3 := by
    simp only [wsV, List.mem_append, List.mem_cons, List.not_mem_nil, or_false] at hw
    rcases hw with (rfl | rfl | rfl | rfl) | rfl | hw
    · exact h1
    · exact h2
    · exact h3
    · exact h4
    · exact h5
    · exact gk3 (gk hw)
  exact ⟨hm, gGood3 w hm⟩
section GN
variable {p : Program} {l : Launch} {e : Env} {R : Room} {s : State} {m : MethodId} {args : Array Value} {below : List Frame} {meth : Method} {c : Code} {H : Heap} {locs : List Loc} {cells slots : Nat} {Q : State → Prop}
variable {cc : ByteArray} {pc : Nat} {ls : Array Slot} {rest : List Value} {D : va_G} {cl : List vw_C} {A : Nat → Prop} {tys : List (ClassId × FieldType)} {ws : va_W} {H0 : Heap}
/-- a new array of a known class -/
theorem g_newa (hexec : p.tables.exec = Jvm.exec) (hb : c.code = cc) {atype : ArrayType} (harr : (Cond.arrayClass (newarray.typeOf atype)).before args s = true) {ty : FieldType} (hty : newarray.typeOf atype = ty) (hK : va_K D cl tys s) (hP : va_P D cl ws H) (hD : va_D A ws) (hS : va_S A H0 H locs) (hA : ∀ q, H0.size ≤ q → A q)
    {n : Int32} {N' : Nat} {a0 : vp_A} (ha : ∀ cA : ClassId, vp_cell cA a0 = arrV cA N' (fun _ => defaultValue ty)) (hn : ¬ n < 0) (hN : n.toNatClampNeg = N') (hbytes : N' * componentBytes ty ≤ 536870912) (hcells : cells + 1 ≤ R.cells) (hslots : slots + N' ≤ R.slots) (hdg : decode cc pc = .ok (.newarray atype, 2)) (t0 : Nat) {c0 : ClassId} (ht : tys[t0]? = some (c0, ty)) (hra : ∀ cA, va_RA s cA ty → s.vm.findClass ("[" ++ ty.toString) = some cA)
    (kk : ∀ (q : Nat) (H1 : Heap), va_P D cl (ws ++ [(q, .inl (c0, a0))]) H1 → va_D A (ws ++ [(q, .inl (c0, a0))]) → va_S A H0 H1 locs →
      W p l e R s m args below meth c H1 locs (cells + 1) (slots + N') Q (F0 m (pc + 2) ls (.ref q :: rest))) : W p l e R s m args below meth c H locs cells slots Q (F0 m pc ls (.int n :: rest)) := by
  refine va_newa hexec hb harr hty hK hP hD hS hA ha hn hN hbytes hcells hslots hdg (fun q cA H1 hK2 hP2 hD2 hS2 => ?_)
  have h1 := hra _ (hK.2 t0 _ ht).2
  have h2 := hra _ (hK2.2 tys.length (cA, ty) (by rw [List.getElem?_append_right (Nat.le_refl _), Nat.sub_self]; rfl)).2
  have h3 : cA = c0 := Option.some.inj (h2.symm.trans h1)
  subst h3
  exact kk q H1 hP2 hD2 hS2
end GN
