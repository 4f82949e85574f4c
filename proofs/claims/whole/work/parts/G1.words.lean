/-! WORDS of the law; GENERATED (wip/gen/run6.py). -/
def y_L_field : MethodName := ⟨"RemnantDictionaryLaw", "field", "(LRemnantDictionary;III)I"⟩
abbrev c_L_fieldb : ByteArray := method_3_code
def y_L_coefficient : MethodName := ⟨"RemnantDictionaryLaw", "coefficient", "(LRemnantDictionary;II)I"⟩
abbrev c_L_coefficientb : ByteArray := method_4_code
def y_L_join : MethodName := ⟨"RemnantDictionaryLaw", "join", "(LRemnantDictionary;[J)I"⟩
abbrev c_L_joinb : ByteArray := method_5_code
def y_L_find : MethodName := ⟨"RemnantDictionaryLaw", "find", "(LRemnantDictionary;I[J)I"⟩
abbrev c_L_findb : ByteArray := method_6_code
def gL0 : List Cond := [.methodLink "RemnantDictionaryLaw" 33 (⟨"RemnantDictionaryLaw", "field", "(LRemnantDictionary;III)I"⟩ : MethodName), .static (⟨"RemnantDictionaryLaw", "field", "(LRemnantDictionary;III)I"⟩ : MethodName), .codeWith y_L_field c_L_fieldb 5 (some .int) [(0, 7, 10, 13)], .methodLink "RemnantDictionaryLaw" 42 (⟨"RemnantDictionaryLaw", "coefficient", "(LRemnantDictionary;II)I"⟩ : MethodName), .static (⟨"RemnantDictionaryLaw", "coefficient", "(LRemnantDictionary;II)I"⟩ : MethodName), .codeWith y_L_coefficient c_L_coefficientb 4 (some .int) [(0, 6, 9, 13)], .methodLink "RemnantDictionaryLaw" 50 (⟨"RemnantDictionaryLaw", "join", "(LRemnantDictionary;[J)I"⟩ : MethodName), .static (⟨"RemnantDictionaryLaw", "join", "(LRemnantDictionary;[J)I"⟩ : MethodName), .codeWith y_L_join c_L_joinb 3 (some .int) [(0, 8, 11, 13), (0, 8, 14, 23)], .methodLink "RemnantDictionaryLaw" 58 (⟨"RemnantDictionaryLaw", "find", "(LRemnantDictionary;I[J)I"⟩ : MethodName), .static (⟨"RemnantDictionaryLaw", "find", "(LRemnantDictionary;I[J)I"⟩ : MethodName), .codeWith y_L_find c_L_findb 4 (some .int) [(0, 9, 12, 13), (0, 9, 15, 23)], .initialized "RemnantDictionaryLaw", .classLink "RemnantDictionaryLaw" 8 "RemnantDictionary", .instantiable "RemnantDictionary" 8, .methodLink "RemnantDictionaryLaw" 29 y_RD_init, .instanceMethod y_RD_init, .classLink "RemnantDictionaryLaw" 30 "RemnantDictionaryModel", .instantiable "RemnantDictionaryModel" 30, .methodLink "RemnantDictionaryLaw" 32 y_Z_init, .instanceMethod y_Z_init, .methodLink "RemnantDictionaryLaw" 38 y_Z_field, .instanceMethod y_Z_field, .selects "RemnantDictionaryModel" y_Z_field y_Z_field]
def gL1 : List Cond := [.methodLink "RemnantDictionaryLaw" 39 y_Z_thrown, .instanceMethod y_Z_thrown, .selects "RemnantDictionaryModel" y_Z_thrown y_Z_thrown, .methodLink "RemnantDictionaryLaw" 45 y_Z_coefficient, .instanceMethod y_Z_coefficient, .selects "RemnantDictionaryModel" y_Z_coefficient y_Z_coefficient, .methodLink "RemnantDictionaryLaw" 46 y_RD_hand, .instanceMethod y_RD_hand, .selects "RemnantDictionary" y_RD_hand y_RD_hand, .methodLink "RemnantDictionaryLaw" 49 y_Z_hand, .instanceMethod y_Z_hand, .selects "RemnantDictionaryModel" y_Z_hand y_Z_hand, .methodLink "RemnantDictionaryLaw" 53 y_Z_join, .instanceMethod y_Z_join, .selects "RemnantDictionaryModel" y_Z_join y_Z_join, .methodLink "RemnantDictionaryLaw" 54 y_RD_clear, .methodLink "RemnantDictionaryLaw" 57 y_Z_clear, .instanceMethod y_Z_clear, .selects "RemnantDictionaryModel" y_Z_clear y_Z_clear, .methodLink "RemnantDictionaryLaw" 61 y_Z_find, .instanceMethod y_Z_find, .selects "RemnantDictionaryModel" y_Z_find y_Z_find, .methodLink "RemnantDictionaryLaw" 62 y_RD_left, .instanceMethod y_RD_left]
def gL2 : List Cond := [.selects "RemnantDictionary" y_RD_left y_RD_left, .methodLink "RemnantDictionaryLaw" 65 y_Z_left, .instanceMethod y_Z_left, .selects "RemnantDictionaryModel" y_Z_left y_Z_left, .methodLink "RemnantDictionaryLaw" 66 y_RD_times, .instanceMethod y_RD_times, .selects "RemnantDictionary" y_RD_times y_RD_times, .methodLink "RemnantDictionaryLaw" 70 y_Z_times, .instanceMethod y_Z_times, .selects "RemnantDictionaryModel" y_Z_times y_Z_times, .methodLink "RemnantDictionaryLaw" 71 y_RD_dictionary, .instanceMethod y_RD_dictionary, .selects "RemnantDictionary" y_RD_dictionary y_RD_dictionary, .methodLink "RemnantDictionaryLaw" 74 y_Z_dictionary, .instanceMethod y_Z_dictionary, .selects "RemnantDictionaryModel" y_Z_dictionary y_Z_dictionary, .methodLink "RemnantDictionaryLaw" 75 y_RD_entry, .instanceMethod y_RD_entry, .selects "RemnantDictionary" y_RD_entry y_RD_entry, .methodLink "RemnantDictionaryLaw" 78 y_Z_entry, .instanceMethod y_Z_entry, .selects "RemnantDictionaryModel" y_Z_entry y_Z_entry, .methodLink "RemnantDictionaryLaw" 7 y_RD_field, .instanceMethod y_RD_field]
def gL3 : List Cond := [.selects "RemnantDictionary" y_RD_field y_RD_field, .classLink "RemnantDictionaryLaw" 13 "java/lang/IllegalArgumentException", .methodLink "RemnantDictionaryLaw" 15 y_RD_coefficient, .instanceMethod y_RD_coefficient, .selects "RemnantDictionary" y_RD_coefficient y_RD_coefficient, .methodLink "RemnantDictionaryLaw" 19 y_RD_join, .instanceMethod y_RD_join, .selects "RemnantDictionary" y_RD_join y_RD_join, .classLink "RemnantDictionaryLaw" 23 "java/lang/IllegalStateException", .methodLink "RemnantDictionaryLaw" 25 y_RD_find, .instanceMethod y_RD_find, .selects "RemnantDictionary" y_RD_find y_RD_find]
def gLw : List Cond := gL0 ++ (gL1 ++ (gL2 ++ (gL3)))
def gAll4 : List Cond := gAll3 ++ gLw
theorem gk4 {w : Cond} (h : w ∈ gAll3) : w ∈ gAll4 := List.mem_append_left _ h
theorem gki4 {us : List Cond} (h : ∀ w ∈ us, w ∈ gAll) : ∀ w ∈ us, w ∈ gAll4 := fun w hw => gk4 (gk3 (gk (h w hw)))
theorem gL0_in : ∀ w ∈ gL0, w ∈ gAll4 := fun _ h => List.mem_append_right _ (List.mem_append_left _ h)
theorem u_573 : (.methodLink "RemnantDictionaryLaw" 33 (⟨"RemnantDictionaryLaw", "field", "(LRemnantDictionary;III)I"⟩ : MethodName) : Cond) ∈ gAll4 := gL0_in _ (List.mem_of_getElem? (i := 0) rfl)
theorem u_574 : (.static (⟨"RemnantDictionaryLaw", "field", "(LRemnantDictionary;III)I"⟩ : MethodName) : Cond) ∈ gAll4 := gL0_in _ (List.mem_of_getElem? (i := 1) rfl)
theorem u_575 : (.codeWith y_L_field c_L_fieldb 5 (some .int) [(0, 7, 10, 13)] : Cond) ∈ gAll4 := gL0_in _ (List.mem_of_getElem? (i := 2) rfl)
theorem u_576 : (.methodLink "RemnantDictionaryLaw" 42 (⟨"RemnantDictionaryLaw", "coefficient", "(LRemnantDictionary;II)I"⟩ : MethodName) : Cond) ∈ gAll4 := gL0_in _ (List.mem_of_getElem? (i := 3) rfl)
theorem u_577 : (.static (⟨"RemnantDictionaryLaw", "coefficient", "(LRemnantDictionary;II)I"⟩ : MethodName) : Cond) ∈ gAll4 := gL0_in _ (List.mem_of_getElem? (i := 4) rfl)
theorem u_578 : (.codeWith y_L_coefficient c_L_coefficientb 4 (some .int) [(0, 6, 9, 13)] : Cond) ∈ gAll4 := gL0_in _ (List.mem_of_getElem? (i := 5) rfl)
theorem u_579 : (.methodLink "RemnantDictionaryLaw" 50 (⟨"RemnantDictionaryLaw", "join", "(LRemnantDictionary;[J)I"⟩ : MethodName) : Cond) ∈ gAll4 := gL0_in _ (List.mem_of_getElem? (i := 6) rfl)
theorem u_580 : (.static (⟨"RemnantDictionaryLaw", "join", "(LRemnantDictionary;[J)I"⟩ : MethodName) : Cond) ∈ gAll4 := gL0_in _ (List.mem_of_getElem? (i := 7) rfl)
theorem u_581 : (.codeWith y_L_join c_L_joinb 3 (some .int) [(0, 8, 11, 13), (0, 8, 14, 23)] : Cond) ∈ gAll4 := gL0_in _ (List.mem_of_getElem? (i := 8) rfl)
theorem u_582 : (.methodLink "RemnantDictionaryLaw" 58 (⟨"RemnantDictionaryLaw", "find", "(LRemnantDictionary;I[J)I"⟩ : MethodName) : Cond) ∈ gAll4 := gL0_in _ (List.mem_of_getElem? (i := 9) rfl)
theorem u_583 : (.static (⟨"RemnantDictionaryLaw", "find", "(LRemnantDictionary;I[J)I"⟩ : MethodName) : Cond) ∈ gAll4 := gL0_in _ (List.mem_of_getElem? (i := 10) rfl)
theorem u_584 : (.codeWith y_L_find c_L_findb 4 (some .int) [(0, 9, 12, 13), (0, 9, 15, 23)] : Cond) ∈ gAll4 := gL0_in _ (List.mem_of_getElem? (i := 11) rfl)
theorem u_585 : (.initialized "RemnantDictionaryLaw" : Cond) ∈ gAll4 := gL0_in _ (List.mem_of_getElem? (i := 12) rfl)
theorem u_586 : (.classLink "RemnantDictionaryLaw" 8 "RemnantDictionary" : Cond) ∈ gAll4 := gL0_in _ (List.mem_of_getElem? (i := 13) rfl)
theorem u_587 : (.instantiable "RemnantDictionary" 8 : Cond) ∈ gAll4 := gL0_in _ (List.mem_of_getElem? (i := 14) rfl)
theorem u_588 : (.methodLink "RemnantDictionaryLaw" 29 y_RD_init : Cond) ∈ gAll4 := gL0_in _ (List.mem_of_getElem? (i := 15) rfl)
theorem u_589 : (.instanceMethod y_RD_init : Cond) ∈ gAll4 := gL0_in _ (List.mem_of_getElem? (i := 16) rfl)
theorem u_590 : (.classLink "RemnantDictionaryLaw" 30 "RemnantDictionaryModel" : Cond) ∈ gAll4 := gL0_in _ (List.mem_of_getElem? (i := 17) rfl)
theorem u_591 : (.instantiable "RemnantDictionaryModel" 30 : Cond) ∈ gAll4 := gL0_in _ (List.mem_of_getElem? (i := 18) rfl)
theorem u_592 : (.methodLink "RemnantDictionaryLaw" 32 y_Z_init : Cond) ∈ gAll4 := gL0_in _ (List.mem_of_getElem? (i := 19) rfl)
theorem u_593 : (.instanceMethod y_Z_init : Cond) ∈ gAll4 := gL0_in _ (List.mem_of_getElem? (i := 20) rfl)
theorem u_594 : (.methodLink "RemnantDictionaryLaw" 38 y_Z_field : Cond) ∈ gAll4 := gL0_in _ (List.mem_of_getElem? (i := 21) rfl)
theorem u_595 : (.instanceMethod y_Z_field : Cond) ∈ gAll4 := gL0_in _ (List.mem_of_getElem? (i := 22) rfl)
theorem u_596 : (.selects "RemnantDictionaryModel" y_Z_field y_Z_field : Cond) ∈ gAll4 := gL0_in _ (List.mem_of_getElem? (i := 23) rfl)
theorem gL1_in : ∀ w ∈ gL1, w ∈ gAll4 := fun _ h => List.mem_append_right _ (List.mem_append_right _ (List.mem_append_left _ h))
theorem u_597 : (.methodLink "RemnantDictionaryLaw" 39 y_Z_thrown : Cond) ∈ gAll4 := gL1_in _ (List.mem_of_getElem? (i := 0) rfl)
theorem u_598 : (.instanceMethod y_Z_thrown : Cond) ∈ gAll4 := gL1_in _ (List.mem_of_getElem? (i := 1) rfl)
theorem u_599 : (.selects "RemnantDictionaryModel" y_Z_thrown y_Z_thrown : Cond) ∈ gAll4 := gL1_in _ (List.mem_of_getElem? (i := 2) rfl)
theorem u_600 : (.methodLink "RemnantDictionaryLaw" 45 y_Z_coefficient : Cond) ∈ gAll4 := gL1_in _ (List.mem_of_getElem? (i := 3) rfl)
theorem u_601 : (.instanceMethod y_Z_coefficient : Cond) ∈ gAll4 := gL1_in _ (List.mem_of_getElem? (i := 4) rfl)
theorem u_602 : (.selects "RemnantDictionaryModel" y_Z_coefficient y_Z_coefficient : Cond) ∈ gAll4 := gL1_in _ (List.mem_of_getElem? (i := 5) rfl)
theorem u_603 : (.methodLink "RemnantDictionaryLaw" 46 y_RD_hand : Cond) ∈ gAll4 := gL1_in _ (List.mem_of_getElem? (i := 6) rfl)
theorem u_604 : (.instanceMethod y_RD_hand : Cond) ∈ gAll4 := gL1_in _ (List.mem_of_getElem? (i := 7) rfl)
theorem u_605 : (.selects "RemnantDictionary" y_RD_hand y_RD_hand : Cond) ∈ gAll4 := gL1_in _ (List.mem_of_getElem? (i := 8) rfl)
theorem u_606 : (.methodLink "RemnantDictionaryLaw" 49 y_Z_hand : Cond) ∈ gAll4 := gL1_in _ (List.mem_of_getElem? (i := 9) rfl)
theorem u_607 : (.instanceMethod y_Z_hand : Cond) ∈ gAll4 := gL1_in _ (List.mem_of_getElem? (i := 10) rfl)
theorem u_608 : (.selects "RemnantDictionaryModel" y_Z_hand y_Z_hand : Cond) ∈ gAll4 := gL1_in _ (List.mem_of_getElem? (i := 11) rfl)
theorem u_609 : (.methodLink "RemnantDictionaryLaw" 53 y_Z_join : Cond) ∈ gAll4 := gL1_in _ (List.mem_of_getElem? (i := 12) rfl)
theorem u_610 : (.instanceMethod y_Z_join : Cond) ∈ gAll4 := gL1_in _ (List.mem_of_getElem? (i := 13) rfl)
theorem u_611 : (.selects "RemnantDictionaryModel" y_Z_join y_Z_join : Cond) ∈ gAll4 := gL1_in _ (List.mem_of_getElem? (i := 14) rfl)
theorem u_612 : (.methodLink "RemnantDictionaryLaw" 54 y_RD_clear : Cond) ∈ gAll4 := gL1_in _ (List.mem_of_getElem? (i := 15) rfl)
theorem u_613 : (.methodLink "RemnantDictionaryLaw" 57 y_Z_clear : Cond) ∈ gAll4 := gL1_in _ (List.mem_of_getElem? (i := 16) rfl)
theorem u_614 : (.instanceMethod y_Z_clear : Cond) ∈ gAll4 := gL1_in _ (List.mem_of_getElem? (i := 17) rfl)
theorem u_615 : (.selects "RemnantDictionaryModel" y_Z_clear y_Z_clear : Cond) ∈ gAll4 := gL1_in _ (List.mem_of_getElem? (i := 18) rfl)
theorem u_616 : (.methodLink "RemnantDictionaryLaw" 61 y_Z_find : Cond) ∈ gAll4 := gL1_in _ (List.mem_of_getElem? (i := 19) rfl)
theorem u_617 : (.instanceMethod y_Z_find : Cond) ∈ gAll4 := gL1_in _ (List.mem_of_getElem? (i := 20) rfl)
theorem u_618 : (.selects "RemnantDictionaryModel" y_Z_find y_Z_find : Cond) ∈ gAll4 := gL1_in _ (List.mem_of_getElem? (i := 21) rfl)
theorem u_619 : (.methodLink "RemnantDictionaryLaw" 62 y_RD_left : Cond) ∈ gAll4 := gL1_in _ (List.mem_of_getElem? (i := 22) rfl)
theorem u_620 : (.instanceMethod y_RD_left : Cond) ∈ gAll4 := gL1_in _ (List.mem_of_getElem? (i := 23) rfl)
theorem gL2_in : ∀ w ∈ gL2, w ∈ gAll4 := fun _ h => List.mem_append_right _ (List.mem_append_right _ (List.mem_append_right _ (List.mem_append_left _ h)))
theorem u_621 : (.selects "RemnantDictionary" y_RD_left y_RD_left : Cond) ∈ gAll4 := gL2_in _ (List.mem_of_getElem? (i := 0) rfl)
theorem u_622 : (.methodLink "RemnantDictionaryLaw" 65 y_Z_left : Cond) ∈ gAll4 := gL2_in _ (List.mem_of_getElem? (i := 1) rfl)
theorem u_623 : (.instanceMethod y_Z_left : Cond) ∈ gAll4 := gL2_in _ (List.mem_of_getElem? (i := 2) rfl)
theorem u_624 : (.selects "RemnantDictionaryModel" y_Z_left y_Z_left : Cond) ∈ gAll4 := gL2_in _ (List.mem_of_getElem? (i := 3) rfl)
theorem u_625 : (.methodLink "RemnantDictionaryLaw" 66 y_RD_times : Cond) ∈ gAll4 := gL2_in _ (List.mem_of_getElem? (i := 4) rfl)
theorem u_626 : (.instanceMethod y_RD_times : Cond) ∈ gAll4 := gL2_in _ (List.mem_of_getElem? (i := 5) rfl)
theorem u_627 : (.selects "RemnantDictionary" y_RD_times y_RD_times : Cond) ∈ gAll4 := gL2_in _ (List.mem_of_getElem? (i := 6) rfl)
theorem u_628 : (.methodLink "RemnantDictionaryLaw" 70 y_Z_times : Cond) ∈ gAll4 := gL2_in _ (List.mem_of_getElem? (i := 7) rfl)
theorem u_629 : (.instanceMethod y_Z_times : Cond) ∈ gAll4 := gL2_in _ (List.mem_of_getElem? (i := 8) rfl)
theorem u_630 : (.selects "RemnantDictionaryModel" y_Z_times y_Z_times : Cond) ∈ gAll4 := gL2_in _ (List.mem_of_getElem? (i := 9) rfl)
theorem u_631 : (.methodLink "RemnantDictionaryLaw" 71 y_RD_dictionary : Cond) ∈ gAll4 := gL2_in _ (List.mem_of_getElem? (i := 10) rfl)
theorem u_632 : (.instanceMethod y_RD_dictionary : Cond) ∈ gAll4 := gL2_in _ (List.mem_of_getElem? (i := 11) rfl)
theorem u_633 : (.selects "RemnantDictionary" y_RD_dictionary y_RD_dictionary : Cond) ∈ gAll4 := gL2_in _ (List.mem_of_getElem? (i := 12) rfl)
theorem u_634 : (.methodLink "RemnantDictionaryLaw" 74 y_Z_dictionary : Cond) ∈ gAll4 := gL2_in _ (List.mem_of_getElem? (i := 13) rfl)
theorem u_635 : (.instanceMethod y_Z_dictionary : Cond) ∈ gAll4 := gL2_in _ (List.mem_of_getElem? (i := 14) rfl)
theorem u_636 : (.selects "RemnantDictionaryModel" y_Z_dictionary y_Z_dictionary : Cond) ∈ gAll4 := gL2_in _ (List.mem_of_getElem? (i := 15) rfl)
theorem u_637 : (.methodLink "RemnantDictionaryLaw" 75 y_RD_entry : Cond) ∈ gAll4 := gL2_in _ (List.mem_of_getElem? (i := 16) rfl)
theorem u_638 : (.instanceMethod y_RD_entry : Cond) ∈ gAll4 := gL2_in _ (List.mem_of_getElem? (i := 17) rfl)
theorem u_639 : (.selects "RemnantDictionary" y_RD_entry y_RD_entry : Cond) ∈ gAll4 := gL2_in _ (List.mem_of_getElem? (i := 18) rfl)
theorem u_640 : (.methodLink "RemnantDictionaryLaw" 78 y_Z_entry : Cond) ∈ gAll4 := gL2_in _ (List.mem_of_getElem? (i := 19) rfl)
theorem u_641 : (.instanceMethod y_Z_entry : Cond) ∈ gAll4 := gL2_in _ (List.mem_of_getElem? (i := 20) rfl)
theorem u_642 : (.selects "RemnantDictionaryModel" y_Z_entry y_Z_entry : Cond) ∈ gAll4 := gL2_in _ (List.mem_of_getElem? (i := 21) rfl)
theorem u_643 : (.methodLink "RemnantDictionaryLaw" 7 y_RD_field : Cond) ∈ gAll4 := gL2_in _ (List.mem_of_getElem? (i := 22) rfl)
theorem u_644 : (.instanceMethod y_RD_field : Cond) ∈ gAll4 := gL2_in _ (List.mem_of_getElem? (i := 23) rfl)
theorem gL3_in : ∀ w ∈ gL3, w ∈ gAll4 := fun _ h => List.mem_append_right _ (List.mem_append_right _ (List.mem_append_right _ (List.mem_append_right _ (h))))
theorem u_645 : (.selects "RemnantDictionary" y_RD_field y_RD_field : Cond) ∈ gAll4 := gL3_in _ (List.mem_of_getElem? (i := 0) rfl)
theorem u_646 : (.classLink "RemnantDictionaryLaw" 13 "java/lang/IllegalArgumentException" : Cond) ∈ gAll4 := gL3_in _ (List.mem_of_getElem? (i := 1) rfl)
theorem u_647 : (.methodLink "RemnantDictionaryLaw" 15 y_RD_coefficient : Cond) ∈ gAll4 := gL3_in _ (List.mem_of_getElem? (i := 2) rfl)
theorem u_648 : (.instanceMethod y_RD_coefficient : Cond) ∈ gAll4 := gL3_in _ (List.mem_of_getElem? (i := 3) rfl)
theorem u_649 : (.selects "RemnantDictionary" y_RD_coefficient y_RD_coefficient : Cond) ∈ gAll4 := gL3_in _ (List.mem_of_getElem? (i := 4) rfl)
theorem u_650 : (.methodLink "RemnantDictionaryLaw" 19 y_RD_join : Cond) ∈ gAll4 := gL3_in _ (List.mem_of_getElem? (i := 5) rfl)
theorem u_651 : (.instanceMethod y_RD_join : Cond) ∈ gAll4 := gL3_in _ (List.mem_of_getElem? (i := 6) rfl)
theorem u_652 : (.selects "RemnantDictionary" y_RD_join y_RD_join : Cond) ∈ gAll4 := gL3_in _ (List.mem_of_getElem? (i := 7) rfl)
theorem u_653 : (.classLink "RemnantDictionaryLaw" 23 "java/lang/IllegalStateException" : Cond) ∈ gAll4 := gL3_in _ (List.mem_of_getElem? (i := 8) rfl)
theorem u_654 : (.methodLink "RemnantDictionaryLaw" 25 y_RD_find : Cond) ∈ gAll4 := gL3_in _ (List.mem_of_getElem? (i := 9) rfl)
theorem u_655 : (.instanceMethod y_RD_find : Cond) ∈ gAll4 := gL3_in _ (List.mem_of_getElem? (i := 10) rfl)
theorem u_656 : (.selects "RemnantDictionary" y_RD_find y_RD_find : Cond) ∈ gAll4 := gL3_in _ (List.mem_of_getElem? (i := 11) rfl)
theorem gLw_good : gLw.all goodWord = true := by decide +kernel
theorem gGood4 : ∀ w ∈ gAll4, (w.onTables && w.keeps) = true ∨ ∃ ty, w = .arrayClass ty := fun w h => (List.mem_append.mp h).elim (gGood3 w) (fun h => good_of_word (List.all_eq_true.mp gLw_good w h))
theorem gwL {ws : List Cond} (h : ∀ w ∈ ws, w ∈ gAll4) : GoodIn gAll4 ws := fun w hw => ⟨h w hw, gGood4 w (h w hw)⟩
theorem gwV4 {own C : String} {idx n : Nat} {y : MethodName} {b : ByteArray} {r : Option FieldType} (h1 : Cond.methodLink own idx y ∈ gAll4) (h2 : Cond.instanceMethod y ∈ gAll4) (h3 : Cond.selects C y y ∈ gAll4) (h4 : Cond.initialized C ∈ gAll4) (h5 : Cond.code y b n r ∈ gAll4) : GoodIn gAll4 (wsV own idx C y (Cond.code y b n r :: gAll2)) := by
  refine gwL fun w hw => ?_
  simp only [wsV, List.mem_append, List.mem_cons, List.not_mem_nil, or_false] at hw
  rcases hw with (rfl | rfl | rfl | rfl) | rfl | hw
  · exact h1
  · exact h2
  · exact h3
  · exact h4
  · exact h5
  · exact gk4 (gk3 hw)
theorem gwV40 {own C : String} {idx n : Nat} {y : MethodName} {b : ByteArray} {r : Option FieldType} (h1 : Cond.methodLink own idx y ∈ gAll4) (h2 : Cond.instanceMethod y ∈ gAll4) (h3 : Cond.selects C y y ∈ gAll4) (h4 : Cond.initialized C ∈ gAll4) (h5 : Cond.code y b n r ∈ gAll4) : GoodIn gAll4 (wsV own idx C y (Cond.code y b n r :: gAll)) := by
  refine gwL fun w hw => ?_
  simp only [wsV, List.mem_append, List.mem_cons, List.not_mem_nil, or_false] at hw
  rcases hw with (rfl | rfl | rfl | rfl) | rfl | hw
  · exact h1
  · exact h2
  · exact h3
  · exact h4
  · exact h5
  · exact gk4 (gk3 (gk hw))
theorem gwI4 {n : Nat} {y : MethodName} {b : ByteArray} {r : Option FieldType} (h5 : Cond.code y b n r ∈ gAll4) : GoodIn gAll4 (Cond.code y b n r :: gAll3) := by
  refine gwL fun w hw => ?_
  rcases List.mem_cons.mp hw with rfl | hw
  · exact h5
  · exact gk4 hw
theorem gwW4 {n : Nat} {y : MethodName} {b : ByteArray} {r : Option FieldType} {hh : List (Nat × Nat × Nat × Nat)} (h5 : Cond.codeWith y b n r hh ∈ gAll4) : GoodIn gAll4 (Cond.codeWith y b n r hh :: gAll4) := by
  refine gwL fun w hw => ?_
  rcases List.mem_cons.mp hw with rfl | hw
  · exact h5
  · exact hw
