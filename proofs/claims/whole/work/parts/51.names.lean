/-! NAMES: fields, methods, words, decoded instructions: printed by our own program out of the listing and the tables. -/
def T_RD : u_T := fun k => match k with
  | 0 => ("RemnantDictionary", "prime", "I", false)
  | 1 => ("RemnantDictionary", "generatorCount", "I", false)
  | 2 => ("RemnantDictionary", "inHand", "[I", true)
  | 3 => ("RemnantDictionary", "generators", "[I", true)
  | 4 => ("RemnantDictionary", "monomials", "LRemnantDictionary$Monomials;", true)
  | 5 => ("RemnantDictionary", "space", "LRemnantDictionary$Space;", true)
  | 6 => ("RemnantDictionary", "remnant", "LRemnantDictionary$Remnant;", true)
  | _ => ("RemnantDictionary", "lexicon", "LRemnantDictionary$Lexicon;", true)
def ty_RD : Nat → FieldType := fun k => match k with
  | 0 => .int
  | 1 => .int
  | 2 => .array .int
  | 3 => .array .int
  | 4 => .object "RemnantDictionary$Monomials"
  | 5 => .object "RemnantDictionary$Space"
  | 6 => .object "RemnantDictionary$Remnant"
  | _ => .object "RemnantDictionary$Lexicon"
theorem nm_RD : ∀ a, a < 8 → ∀ b, b < 8 → a ≠ b → (T_RD a).2.1 ≠ (T_RD b).2.1 := by decide +kernel
theorem ty_RD_ok : ∀ k, k < 8 → parseFieldDescriptor (T_RD k).2.2.1 = some (ty_RD k) := by decide +kernel
def T_Mo : u_T := fun k => match k with
  | 0 => ("RemnantDictionary$Monomials", "variables", "I", false)
  | 1 => ("RemnantDictionary$Monomials", "order", "I", false)
  | 2 => ("RemnantDictionary$Monomials", "highest", "I", false)
  | 3 => ("RemnantDictionary$Monomials", "count", "I", false)
  | 4 => ("RemnantDictionary$Monomials", "codes", "[I", true)
  | 5 => ("RemnantDictionary$Monomials", "degrees", "[I", true)
  | 6 => ("RemnantDictionary$Monomials", "keys", "[J", true)
  | _ => ("RemnantDictionary$Monomials", "raised", "[I", true)
def ty_Mo : Nat → FieldType := fun k => match k with
  | 0 => .int
  | 1 => .int
  | 2 => .int
  | 3 => .int
  | 4 => .array .int
  | 5 => .array .int
  | 6 => .array .long
  | _ => .array .int
theorem nm_Mo : ∀ a, a < 8 → ∀ b, b < 8 → a ≠ b → (T_Mo a).2.1 ≠ (T_Mo b).2.1 := by decide +kernel
theorem ty_Mo_ok : ∀ k, k < 8 → parseFieldDescriptor (T_Mo k).2.2.1 = some (ty_Mo k) := by decide +kernel
def T_Sp : u_T := fun k => match k with
  | 0 => ("RemnantDictionary$Space", "monomials", "LRemnantDictionary$Monomials;", true)
  | 1 => ("RemnantDictionary$Space", "prime", "I", false)
  | 2 => ("RemnantDictionary$Space", "limit", "I", false)
  | 3 => ("RemnantDictionary$Space", "rows", "[I", true)
  | 4 => ("RemnantDictionary$Space", "leads", "[Z", true)
  | 5 => ("RemnantDictionary$Space", "kept", "[I", true)
  | 6 => ("RemnantDictionary$Space", "keptCount", "I", false)
  | 7 => ("RemnantDictionary$Space", "work", "[I", true)
  | 8 => ("RemnantDictionary$Space", "basis", "[I", true)
  | _ => ("RemnantDictionary$Space", "basisCount", "I", false)
def ty_Sp : Nat → FieldType := fun k => match k with
  | 0 => .object "RemnantDictionary$Monomials"
  | 1 => .int
  | 2 => .int
  | 3 => .array .int
  | 4 => .array .boolean
  | 5 => .array .int
  | 6 => .int
  | 7 => .array .int
  | 8 => .array .int
  | _ => .int
theorem nm_Sp : ∀ a, a < 10 → ∀ b, b < 10 → a ≠ b → (T_Sp a).2.1 ≠ (T_Sp b).2.1 := by decide +kernel
theorem ty_Sp_ok : ∀ k, k < 10 → parseFieldDescriptor (T_Sp k).2.2.1 = some (ty_Sp k) := by decide +kernel
def T_Re : u_T := fun k => match k with
  | 0 => ("RemnantDictionary$Remnant", "prime", "I", false)
  | 1 => ("RemnantDictionary$Remnant", "variables", "I", false)
  | 2 => ("RemnantDictionary$Remnant", "size", "I", false)
  | 3 => ("RemnantDictionary$Remnant", "codes", "[I", true)
  | 4 => ("RemnantDictionary$Remnant", "products", "[I", true)
  | 5 => ("RemnantDictionary$Remnant", "bounds", "[I", true)
  | 6 => ("RemnantDictionary$Remnant", "pairs", "[I", true)
  | 7 => ("RemnantDictionary$Remnant", "keys", "[J", true)
  | _ => ("RemnantDictionary$Remnant", "pairCount", "I", false)
def ty_Re : Nat → FieldType := fun k => match k with
  | 0 => .int
  | 1 => .int
  | 2 => .int
  | 3 => .array .int
  | 4 => .array .int
  | 5 => .array .int
  | 6 => .array .int
  | 7 => .array .long
  | _ => .int
theorem nm_Re : ∀ a, a < 9 → ∀ b, b < 9 → a ≠ b → (T_Re a).2.1 ≠ (T_Re b).2.1 := by decide +kernel
theorem ty_Re_ok : ∀ k, k < 9 → parseFieldDescriptor (T_Re k).2.2.1 = some (ty_Re k) := by decide +kernel
def T_Le : u_T := fun k => match k with
  | 0 => ("RemnantDictionary$Lexicon", "prime", "I", false)
  | 1 => ("RemnantDictionary$Lexicon", "size", "I", false)
  | 2 => ("RemnantDictionary$Lexicon", "count", "I", false)
  | 3 => ("RemnantDictionary$Lexicon", "heads", "[I", true)
  | 4 => ("RemnantDictionary$Lexicon", "tails", "[I", true)
  | 5 => ("RemnantDictionary$Lexicon", "standard", "[I", true)
  | 6 => ("RemnantDictionary$Lexicon", "standardCount", "I", false)
  | 7 => ("RemnantDictionary$Lexicon", "images", "[I", true)
  | 8 => ("RemnantDictionary$Lexicon", "steps", "[I", true)
  | 9 => ("RemnantDictionary$Lexicon", "mixes", "[I", true)
  | 10 => ("RemnantDictionary$Lexicon", "pivots", "[I", true)
  | 11 => ("RemnantDictionary$Lexicon", "image", "[I", true)
  | 12 => ("RemnantDictionary$Lexicon", "rest", "[I", true)
  | _ => ("RemnantDictionary$Lexicon", "mix", "[I", true)
def ty_Le : Nat → FieldType := fun k => match k with
  | 0 => .int
  | 1 => .int
  | 2 => .int
  | 3 => .array .int
  | 4 => .array .int
  | 5 => .array .int
  | 6 => .int
  | 7 => .array .int
  | 8 => .array .int
  | 9 => .array .int
  | 10 => .array .int
  | 11 => .array .int
  | 12 => .array .int
  | _ => .array .int
theorem nm_Le : ∀ a, a < 14 → ∀ b, b < 14 → a ≠ b → (T_Le a).2.1 ≠ (T_Le b).2.1 := by decide +kernel
theorem ty_Le_ok : ∀ k, k < 14 → parseFieldDescriptor (T_Le k).2.2.1 = some (ty_Le k) := by decide +kernel
def T_Z : u_T := fun k => match k with
  | 0 => ("RemnantDictionaryModel", "thrownCode", "I", false)
  | 1 => ("RemnantDictionaryModel", "p", "I", false)
  | 2 => ("RemnantDictionaryModel", "n", "I", false)
  | 3 => ("RemnantDictionaryModel", "order", "I", false)
  | 4 => ("RemnantDictionaryModel", "monomials", "I", false)
  | 5 => ("RemnantDictionaryModel", "mono", "[I", true)
  | 6 => ("RemnantDictionaryModel", "degree", "[I", true)
  | 7 => ("RemnantDictionaryModel", "generators", "I", false)
  | 8 => ("RemnantDictionaryModel", "generator", "[I", true)
  | 9 => ("RemnantDictionaryModel", "hand", "[I", true)
  | 10 => ("RemnantDictionaryModel", "upTo", "I", false)
  | 11 => ("RemnantDictionaryModel", "has", "[Z", true)
  | 12 => ("RemnantDictionaryModel", "row", "[I", true)
  | 13 => ("RemnantDictionaryModel", "work", "[I", true)
  | 14 => ("RemnantDictionaryModel", "basis", "[I", true)
  | 15 => ("RemnantDictionaryModel", "members", "I", false)
  | 16 => ("RemnantDictionaryModel", "lefts", "I", false)
  | 17 => ("RemnantDictionaryModel", "vars", "I", false)
  | 18 => ("RemnantDictionaryModel", "rest", "[I", true)
  | 19 => ("RemnantDictionaryModel", "product", "[I", true)
  | 20 => ("RemnantDictionaryModel", "known", "[Z", true)
  | 21 => ("RemnantDictionaryModel", "leadsFound", "I", false)
  | 22 => ("RemnantDictionaryModel", "lead", "[I", true)
  | 23 => ("RemnantDictionaryModel", "tail", "[I", true)
  | 24 => ("RemnantDictionaryModel", "words", "I", false)
  | 25 => ("RemnantDictionaryModel", "word", "[I", true)
  | 26 => ("RemnantDictionaryModel", "vector", "[I", true)
  | 27 => ("RemnantDictionaryModel", "system", "[I", true)
  | 28 => ("RemnantDictionaryModel", "now", "[I", true)
  | _ => ("RemnantDictionaryModel", "next", "[I", true)
def ty_Z : Nat → FieldType := fun k => match k with
  | 0 => .int
  | 1 => .int
  | 2 => .int
  | 3 => .int
  | 4 => .int
  | 5 => .array .int
  | 6 => .array .int
  | 7 => .int
  | 8 => .array .int
  | 9 => .array .int
  | 10 => .int
  | 11 => .array .boolean
  | 12 => .array .int
  | 13 => .array .int
  | 14 => .array .int
  | 15 => .int
  | 16 => .int
  | 17 => .int
  | 18 => .array .int
  | 19 => .array .int
  | 20 => .array .boolean
  | 21 => .int
  | 22 => .array .int
  | 23 => .array .int
  | 24 => .int
  | 25 => .array .int
  | 26 => .array .int
  | 27 => .array .int
  | 28 => .array .int
  | _ => .array .int
theorem nm_Z : ∀ a, a < 30 → ∀ b, b < 30 → a ≠ b → (T_Z a).2.1 ≠ (T_Z b).2.1 := by decide +kernel
theorem ty_Z_ok : ∀ k, k < 30 → parseFieldDescriptor (T_Z k).2.2.1 = some (ty_Z k) := by decide +kernel
abbrev classes : List vw_C := [("RemnantDictionary", T_RD, 8), ("RemnantDictionary$Monomials", T_Mo, 8), ("RemnantDictionary$Space", T_Sp, 10), ("RemnantDictionary$Remnant", T_Re, 9), ("RemnantDictionary$Lexicon", T_Le, 14), ("RemnantDictionaryModel", T_Z, 30)]
def y_Arrays_rangeCheck : MethodName := ⟨"java/util/Arrays", "rangeCheck", "(III)V"⟩
abbrev c_Arrays_rangeCheckb : ByteArray := prog_22_method_30_code
def y_Arrays_fill2 : MethodName := ⟨"java/util/Arrays", "fill", "([II)V"⟩
abbrev c_Arrays_fill2b : ByteArray := prog_22_method_103_code
def y_Arrays_fill3 : MethodName := ⟨"java/util/Arrays", "fill", "([IIII)V"⟩
abbrev c_Arrays_fill3b : ByteArray := prog_22_method_104_code
def y_Math_floorMod0 : MethodName := ⟨"java/lang/Math", "floorMod", "(II)I"⟩
abbrev c_Math_floorMod0b : ByteArray := prog_14_method_50_code
def y_RD_isPrime : MethodName := ⟨"RemnantDictionary", "isPrime", "(I)Z"⟩
abbrev c_RD_isPrimeb : ByteArray := prog_1_method_13_code
def y_RD_inverse : MethodName := ⟨"RemnantDictionary", "inverse", "(II)I"⟩
abbrev c_RD_inverseb : ByteArray := prog_1_method_14_code
def y_RD_addMultiple : MethodName := ⟨"RemnantDictionary", "addMultiple", "([II[IIIII)V"⟩
abbrev c_RD_addMultipleb : ByteArray := prog_1_method_15_code
def y_RD_firstThatIsNot0 : MethodName := ⟨"RemnantDictionary", "firstThatIsNot0", "([II)I"⟩
abbrev c_RD_firstThatIsNot0b : ByteArray := prog_1_method_16_code
def y_RD_variable : MethodName := ⟨"RemnantDictionary", "variable", "(I)I"⟩
abbrev c_RD_variableb : ByteArray := prog_1_method_17_code
def y_RD_exponent : MethodName := ⟨"RemnantDictionary", "exponent", "(II)I"⟩
abbrev c_RD_exponentb : ByteArray := prog_1_method_18_code
def y_RD_degree : MethodName := ⟨"RemnantDictionary", "degree", "(I)I"⟩
abbrev c_RD_degreeb : ByteArray := prog_1_method_19_code
def y_RD_divides : MethodName := ⟨"RemnantDictionary", "divides", "(II)Z"⟩
abbrev c_RD_dividesb : ByteArray := prog_1_method_20_code
def y_RD_degreeOfCommonMultiple : MethodName := ⟨"RemnantDictionary", "degreeOfCommonMultiple", "(II)I"⟩
abbrev c_RD_degreeOfCommonMultipleb : ByteArray := prog_1_method_21_code
def y_Math_max0 : MethodName := ⟨"java/lang/Math", "max", "(II)I"⟩
abbrev c_Math_max0b : ByteArray := prog_14_method_65_code
def y_RD_key : MethodName := ⟨"RemnantDictionary", "key", "(II)J"⟩
abbrev c_RD_keyb : ByteArray := prog_1_method_22_code
def y_RD_productRow : MethodName := ⟨"RemnantDictionary", "productRow", "(II)I"⟩
abbrev c_RD_productRowb : ByteArray := prog_1_method_23_code
def y_Mo_most : MethodName := ⟨"RemnantDictionary$Monomials", "most", "(II)I"⟩
abbrev c_Mo_mostb : ByteArray := prog_3_method_4_code
def y_Mo_insert : MethodName := ⟨"RemnantDictionary$Monomials", "insert", "(I)V"⟩
abbrev c_Mo_insertb : ByteArray := prog_3_method_5_code
def y_Mo_rank : MethodName := ⟨"RemnantDictionary$Monomials", "rank", "(I)I"⟩
abbrev c_Mo_rankb : ByteArray := prog_3_method_6_code
def y_Mo_layWithX : MethodName := ⟨"RemnantDictionary$Monomials", "layWithX", "()V"⟩
abbrev c_Mo_layWithXb : ByteArray := prog_3_method_3_code
def y_Mo_lay : MethodName := ⟨"RemnantDictionary$Monomials", "lay", "(II)V"⟩
abbrev c_Mo_layb : ByteArray := prog_3_method_2_code
def y_Sp_has1 : MethodName := ⟨"RemnantDictionary$Space", "has1", "()Z"⟩
abbrev c_Sp_has1b : ByteArray := prog_5_method_8_code
def y_Sp_start : MethodName := ⟨"RemnantDictionary$Space", "start", "(II)V"⟩
abbrev c_Sp_startb : ByteArray := prog_5_method_2_code
def y_Sp_keepWork : MethodName := ⟨"RemnantDictionary$Space", "keepWork", "(I)V"⟩
abbrev c_Sp_keepWorkb : ByteArray := prog_5_method_7_code
def y_Sp_absorbWork : MethodName := ⟨"RemnantDictionary$Space", "absorbWork", "()V"⟩
abbrev c_Sp_absorbWorkb : ByteArray := prog_5_method_6_code
def y_Sp_loadProduct : MethodName := ⟨"RemnantDictionary$Space", "loadProduct", "(II)V"⟩
abbrev c_Sp_loadProductb : ByteArray := prog_5_method_5_code
def y_Sp_takes : MethodName := ⟨"RemnantDictionary$Space", "takes", "([II)Z"⟩
abbrev c_Sp_takesb : ByteArray := prog_5_method_3_code
def y_Sp_close : MethodName := ⟨"RemnantDictionary$Space", "close", "()V"⟩
abbrev c_Sp_closeb : ByteArray := prog_5_method_4_code
def y_Sp_hasLeadThatDivides : MethodName := ⟨"RemnantDictionary$Space", "hasLeadThatDivides", "(I)Z"⟩
abbrev c_Sp_hasLeadThatDividesb : ByteArray := prog_5_method_10_code
def y_Sp_clearTail : MethodName := ⟨"RemnantDictionary$Space", "clearTail", "(I)V"⟩
abbrev c_Sp_clearTailb : ByteArray := prog_5_method_11_code
def y_Sp_pickBasis : MethodName := ⟨"RemnantDictionary$Space", "pickBasis", "()V"⟩
abbrev c_Sp_pickBasisb : ByteArray := prog_5_method_9_code
def y_Sp_isComplete : MethodName := ⟨"RemnantDictionary$Space", "isComplete", "()Z"⟩
abbrev c_Sp_isCompleteb : ByteArray := prog_5_method_12_code
def y_Sp_rankInBasis : MethodName := ⟨"RemnantDictionary$Space", "rankInBasis", "(I)I"⟩
abbrev c_Sp_rankInBasisb : ByteArray := prog_5_method_13_code
def y_Sp_purePower : MethodName := ⟨"RemnantDictionary$Space", "purePower", "(I)I"⟩
abbrev c_Sp_purePowerb : ByteArray := prog_5_method_14_code
def y_Re_forget : MethodName := ⟨"RemnantDictionary$Remnant", "forget", "()V"⟩
abbrev c_Re_forgetb : ByteArray := prog_4_method_2_code
def y_Re_setBounds : MethodName := ⟨"RemnantDictionary$Remnant", "setBounds", "(LRemnantDictionary$Space;)Z"⟩
abbrev c_Re_setBoundsb : ByteArray := prog_4_method_4_code
def y_Re_takes : MethodName := ⟨"RemnantDictionary$Remnant", "takes", "(II)Z"⟩
abbrev c_Re_takesb : ByteArray := prog_4_method_6_code
def y_Re_gatherWithin : MethodName := ⟨"RemnantDictionary$Remnant", "gatherWithin", "(LRemnantDictionary$Space;)Z"⟩
abbrev c_Re_gatherWithinb : ByteArray := prog_4_method_5_code
def y_Re_gather : MethodName := ⟨"RemnantDictionary$Remnant", "gather", "(LRemnantDictionary$Space;)Z"⟩
abbrev c_Re_gatherb : ByteArray := prog_4_method_3_code
def y_Re_insertPair : MethodName := ⟨"RemnantDictionary$Remnant", "insertPair", "(IJ)V"⟩
abbrev c_Re_insertPairb : ByteArray := prog_4_method_9_code
def y_Re_sortPairs : MethodName := ⟨"RemnantDictionary$Remnant", "sortPairs", "(I)V"⟩
abbrev c_Re_sortPairsb : ByteArray := prog_4_method_8_code
def y_Re_placeOf : MethodName := ⟨"RemnantDictionary$Remnant", "placeOf", "(I)I"⟩
abbrev c_Re_placeOfb : ByteArray := prog_4_method_11_code
def y_Re_fillFromBasis : MethodName := ⟨"RemnantDictionary$Remnant", "fillFromBasis", "(LRemnantDictionary$Space;II)V"⟩
abbrev c_Re_fillFromBasisb : ByteArray := prog_4_method_12_code
def y_Re_act : MethodName := ⟨"RemnantDictionary$Remnant", "act", "(I[II[II)V"⟩
abbrev c_Re_actb : ByteArray := prog_4_method_14_code
def y_Re_fillFromLesser : MethodName := ⟨"RemnantDictionary$Remnant", "fillFromLesser", "(III)V"⟩
abbrev c_Re_fillFromLesserb : ByteArray := prog_4_method_13_code
def y_Re_fillProduct : MethodName := ⟨"RemnantDictionary$Remnant", "fillProduct", "(LRemnantDictionary$Space;II)V"⟩
abbrev c_Re_fillProductb : ByteArray := prog_4_method_10_code
def y_Re_multiply : MethodName := ⟨"RemnantDictionary$Remnant", "multiply", "(LRemnantDictionary$Space;)V"⟩
abbrev c_Re_multiplyb : ByteArray := prog_4_method_7_code
def y_Le_forget : MethodName := ⟨"RemnantDictionary$Lexicon", "forget", "()V"⟩
abbrev c_Le_forgetb : ByteArray := prog_2_method_2_code
def y_Le_leastProductAbove : MethodName := ⟨"RemnantDictionary$Lexicon", "leastProductAbove", "(II)I"⟩
abbrev c_Le_leastProductAboveb : ByteArray := prog_2_method_4_code
def y_Le_hasHeadThatDivides : MethodName := ⟨"RemnantDictionary$Lexicon", "hasHeadThatDivides", "(I)Z"⟩
abbrev c_Le_hasHeadThatDividesb : ByteArray := prog_2_method_5_code
def y_Le_reduceImage : MethodName := ⟨"RemnantDictionary$Lexicon", "reduceImage", "()V"⟩
abbrev c_Le_reduceImageb : ByteArray := prog_2_method_7_code
def y_Le_addPolynomial : MethodName := ⟨"RemnantDictionary$Lexicon", "addPolynomial", "(I)V"⟩
abbrev c_Le_addPolynomialb : ByteArray := prog_2_method_8_code
def y_Le_addStandard : MethodName := ⟨"RemnantDictionary$Lexicon", "addStandard", "(II)V"⟩
abbrev c_Le_addStandardb : ByteArray := prog_2_method_9_code
def y_Le_place : MethodName := ⟨"RemnantDictionary$Lexicon", "place", "(I)V"⟩
abbrev c_Le_placeb : ByteArray := prog_2_method_6_code
def y_Le_build : MethodName := ⟨"RemnantDictionary$Lexicon", "build", "(LRemnantDictionary$Remnant;)V"⟩
abbrev c_Le_buildb : ByteArray := prog_2_method_3_code
def y_Le_tailTerm : MethodName := ⟨"RemnantDictionary$Lexicon", "tailTerm", "(II)I"⟩
abbrev c_Le_tailTermb : ByteArray := prog_2_method_10_code
def y_RD_hasCompleteBasis : MethodName := ⟨"RemnantDictionary", "hasCompleteBasis", "(I)Z"⟩
abbrev c_RD_hasCompleteBasisb : ByteArray := prog_1_method_12_code
def y_RD_clear : MethodName := ⟨"RemnantDictionary", "clear", "()V"⟩
abbrev c_RD_clearb : ByteArray := prog_1_method_6_code
def y_RD_left : MethodName := ⟨"RemnantDictionary", "left", "(I)I"⟩
abbrev c_RD_leftb : ByteArray := prog_1_method_8_code
def y_RD_times : MethodName := ⟨"RemnantDictionary", "times", "(III)I"⟩
abbrev c_RD_timesb : ByteArray := prog_1_method_9_code
def y_RD_dictionary : MethodName := ⟨"RemnantDictionary", "dictionary", "()I"⟩
abbrev c_RD_dictionaryb : ByteArray := prog_1_method_10_code
def y_RD_entry : MethodName := ⟨"RemnantDictionary", "entry", "(III)I"⟩
abbrev c_RD_entryb : ByteArray := prog_1_method_11_code
def y_RD_hand : MethodName := ⟨"RemnantDictionary", "hand", "(I)I"⟩
abbrev c_RD_handb : ByteArray := prog_1_method_4_code
def y_Z_highest : MethodName := ⟨"RemnantDictionaryModel", "highest", "(I)I"⟩
abbrev c_Z_highestb : ByteArray := prog_7_method_2_code
def y_Z_exponent : MethodName := ⟨"RemnantDictionaryModel", "exponent", "(II)I"⟩
abbrev c_Z_exponentb : ByteArray := prog_7_method_3_code
def y_Z_degreeOf : MethodName := ⟨"RemnantDictionaryModel", "degreeOf", "(I)I"⟩
abbrev c_Z_degreeOfb : ByteArray := prog_7_method_4_code
def y_Z_divides : MethodName := ⟨"RemnantDictionaryModel", "divides", "(II)Z"⟩
abbrev c_Z_dividesb : ByteArray := prog_7_method_17_code
def y_Z_prime : MethodName := ⟨"RemnantDictionaryModel", "prime", "(I)Z"⟩
abbrev c_Z_primeb : ByteArray := prog_7_method_19_code
def y_Z_greater : MethodName := ⟨"RemnantDictionaryModel", "greater", "(II)Z"⟩
abbrev c_Z_greaterb : ByteArray := prog_7_method_5_code
def y_Z_put : MethodName := ⟨"RemnantDictionaryModel", "put", "(I)V"⟩
abbrev c_Z_putb : ByteArray := prog_7_method_7_code
def y_Z_fresh : MethodName := ⟨"RemnantDictionaryModel", "fresh", "(III)V"⟩
abbrev c_Z_freshb : ByteArray := prog_7_method_6_code
def y_Z_placeOf : MethodName := ⟨"RemnantDictionaryModel", "placeOf", "(I)I"⟩
abbrev c_Z_placeOfb : ByteArray := prog_7_method_8_code
def y_Z_inverse : MethodName := ⟨"RemnantDictionaryModel", "inverse", "(I)I"⟩
abbrev c_Z_inverseb : ByteArray := prog_7_method_9_code
def y_Z_takeRow : MethodName := ⟨"RemnantDictionaryModel", "takeRow", "(I)V"⟩
abbrev c_Z_takeRowb : ByteArray := prog_7_method_11_code
def y_Z_reduce : MethodName := ⟨"RemnantDictionaryModel", "reduce", "()I"⟩
abbrev c_Z_reduceb : ByteArray := prog_7_method_10_code
def y_Z_comes : MethodName := ⟨"RemnantDictionaryModel", "comes", "()Z"⟩
abbrev c_Z_comesb : ByteArray := prog_7_method_12_code
def y_Z_multiplied : MethodName := ⟨"RemnantDictionaryModel", "multiplied", "(II)V"⟩
abbrev c_Z_multipliedb : ByteArray := prog_7_method_13_code
def y_Z_degreeOfGenerator : MethodName := ⟨"RemnantDictionaryModel", "degreeOfGenerator", "(I)I"⟩
abbrev c_Z_degreeOfGeneratorb : ByteArray := prog_7_method_14_code
def y_Z_clean : MethodName := ⟨"RemnantDictionaryModel", "clean", "(I)V"⟩
abbrev c_Z_cleanb : ByteArray := prog_7_method_16_code
def y_Z_findSpace : MethodName := ⟨"RemnantDictionaryModel", "findSpace", "(I)V"⟩
abbrev c_Z_findSpaceb : ByteArray := prog_7_method_15_code
def y_Z_complete : MethodName := ⟨"RemnantDictionaryModel", "complete", "()Z"⟩
abbrev c_Z_completeb : ByteArray := prog_7_method_18_code
def y_Z_thrown : MethodName := ⟨"RemnantDictionaryModel", "thrown", "()I"⟩
abbrev c_Z_thrownb : ByteArray := prog_7_method_20_code
def y_Z_field : MethodName := ⟨"RemnantDictionaryModel", "field", "(III)V"⟩
abbrev c_Z_fieldb : ByteArray := prog_7_method_21_code
def y_Z_coefficient : MethodName := ⟨"RemnantDictionaryModel", "coefficient", "(II)V"⟩
abbrev c_Z_coefficientb : ByteArray := prog_7_method_22_code
def y_Z_hand : MethodName := ⟨"RemnantDictionaryModel", "hand", "(I)I"⟩
abbrev c_Z_handb : ByteArray := prog_7_method_23_code
def y_Z_join : MethodName := ⟨"RemnantDictionaryModel", "join", "()I"⟩
abbrev c_Z_joinb : ByteArray := prog_7_method_24_code
def y_Z_clear : MethodName := ⟨"RemnantDictionaryModel", "clear", "()V"⟩
abbrev c_Z_clearb : ByteArray := prog_7_method_25_code
def y_Z_leading : MethodName := ⟨"RemnantDictionaryModel", "leading", "(I)Z"⟩
abbrev c_Z_leadingb : ByteArray := prog_7_method_26_code
def y_Z_restOf : MethodName := ⟨"RemnantDictionaryModel", "restOf", "(I)I"⟩
abbrev c_Z_restOfb : ByteArray := prog_7_method_27_code
def y_Z_findRest : MethodName := ⟨"RemnantDictionaryModel", "findRest", "()Z"⟩
abbrev c_Z_findRestb : ByteArray := prog_7_method_28_code
def y_Z_findProduct : MethodName := ⟨"RemnantDictionaryModel", "findProduct", "(II)V"⟩
abbrev c_Z_findProductb : ByteArray := prog_7_method_29_code
def y_Z_findProducts : MethodName := ⟨"RemnantDictionaryModel", "findProducts", "()V"⟩
abbrev c_Z_findProductsb : ByteArray := prog_7_method_30_code
def y_Z_comesTo : MethodName := ⟨"RemnantDictionaryModel", "comesTo", "(I)V"⟩
abbrev c_Z_comesTob : ByteArray := prog_7_method_31_code
def y_Z_solved : MethodName := ⟨"RemnantDictionaryModel", "solved", "()Z"⟩
abbrev c_Z_solvedb : ByteArray := prog_7_method_32_code
def y_Z_tries : MethodName := ⟨"RemnantDictionaryModel", "tries", "(I)V"⟩
abbrev c_Z_triesb : ByteArray := prog_7_method_33_code
def y_Z_behindLead : MethodName := ⟨"RemnantDictionaryModel", "behindLead", "(I)Z"⟩
abbrev c_Z_behindLeadb : ByteArray := prog_7_method_34_code
def y_Z_findDictionary : MethodName := ⟨"RemnantDictionaryModel", "findDictionary", "()V"⟩
abbrev c_Z_findDictionaryb : ByteArray := prog_7_method_35_code
def y_Z_find : MethodName := ⟨"RemnantDictionaryModel", "find", "(I)I"⟩
abbrev c_Z_findb : ByteArray := prog_7_method_36_code
def y_Z_left : MethodName := ⟨"RemnantDictionaryModel", "left", "(I)I"⟩
abbrev c_Z_leftb : ByteArray := prog_7_method_37_code
def y_Z_times : MethodName := ⟨"RemnantDictionaryModel", "times", "(III)I"⟩
abbrev c_Z_timesb : ByteArray := prog_7_method_38_code
def y_Z_dictionary : MethodName := ⟨"RemnantDictionaryModel", "dictionary", "()I"⟩
abbrev c_Z_dictionaryb : ByteArray := prog_7_method_39_code
def y_Z_entry : MethodName := ⟨"RemnantDictionaryModel", "entry", "(III)I"⟩
abbrev c_Z_entryb : ByteArray := prog_7_method_40_code
def gA0 : List Cond := [.code y_Arrays_rangeCheck c_Arrays_rangeCheckb 3 none, .code y_Arrays_fill2 c_Arrays_fill2b 4 none, .code y_Arrays_fill3 c_Arrays_fill3b 5 none, .static y_Arrays_rangeCheck, .initialized "java/util/Arrays", .methodLink "java/util/Arrays" 13 y_Arrays_rangeCheck, .code y_Math_floorMod0 c_Math_floorMod0b 3 (some .int), .code y_RD_isPrime c_RD_isPrimeb 2 (some .boolean), .code y_RD_inverse c_RD_inverseb 5 (some .int), .code y_RD_addMultiple c_RD_addMultipleb 9 none, .code y_RD_firstThatIsNot0 c_RD_firstThatIsNot0b 3 (some .int), .code y_RD_variable c_RD_variableb 1 (some .int), .code y_RD_exponent c_RD_exponentb 2 (some .int), .static y_RD_exponent, .initialized "RemnantDictionary", .methodLink "RemnantDictionary" 190 y_RD_exponent, .code y_RD_degree c_RD_degreeb 1 (some .int), .code y_RD_divides c_RD_dividesb 3 (some .boolean), .methodLink "RemnantDictionary" 193 y_Math_max0, .static y_Math_max0, .initialized "java/lang/Math", .code y_Math_max0 c_Math_max0b 2 (some .int), .code y_RD_degreeOfCommonMultiple c_RD_degreeOfCommonMultipleb 4 (some .int), .constantLong "RemnantDictionary" 199 256]
def gA1 : List Cond := [.code y_RD_key c_RD_keyb 6 (some .long), .static y_RD_degree, .methodLink "RemnantDictionary" 196 y_RD_degree, .code y_RD_productRow c_RD_productRowb 2 (some .int), .lays "RemnantDictionary$Monomials" "RemnantDictionary$Monomials" "variables" "I", .lays "RemnantDictionary$Monomials" "RemnantDictionary$Monomials" "order" "I", .lays "RemnantDictionary$Monomials" "RemnantDictionary$Monomials" "highest" "I", .lays "RemnantDictionary$Monomials" "RemnantDictionary$Monomials" "count" "I", .laysFinal "RemnantDictionary$Monomials" "RemnantDictionary$Monomials" "codes" "[I", .laysFinal "RemnantDictionary$Monomials" "RemnantDictionary$Monomials" "degrees" "[I", .laysFinal "RemnantDictionary$Monomials" "RemnantDictionary$Monomials" "keys" "[J", .laysFinal "RemnantDictionary$Monomials" "RemnantDictionary$Monomials" "raised" "[I", .fieldLink "RemnantDictionary$Monomials" 25 "RemnantDictionary$Monomials" "variables" "I", .fieldLink "RemnantDictionary$Monomials" 35 "RemnantDictionary$Monomials" "highest" "I", .code y_Mo_most c_Mo_mostb 3 (some .int), .fieldLink "RemnantDictionary$Monomials" 18 "RemnantDictionary$Monomials" "keys" "[J", .fieldLink "RemnantDictionary$Monomials" 9 "RemnantDictionary$Monomials" "codes" "[I", .fieldLink "RemnantDictionary$Monomials" 38 "RemnantDictionary$Monomials" "count" "I", .code y_Mo_insert c_Mo_insertb 5 none, .fieldLink "RemnantDictionary$Monomials" 29 "RemnantDictionary$Monomials" "order" "I", .static y_RD_key, .code y_Mo_rank c_Mo_rankb 8 (some .int), .instanceMethod y_Mo_most, .selects "RemnantDictionary$Monomials" y_Mo_most y_Mo_most]
def gA2 : List Cond := [.initialized "RemnantDictionary$Monomials", .methodLink "RemnantDictionary$Monomials" 54 y_Mo_most, .instanceMethod y_Mo_insert, .selects "RemnantDictionary$Monomials" y_Mo_insert y_Mo_insert, .methodLink "RemnantDictionary$Monomials" 58 y_Mo_insert, .code y_Mo_layWithX c_Mo_layWithXb 5 none, .fieldLink "RemnantDictionary$Monomials" 22 "RemnantDictionary$Monomials" "raised" "[I", .static y_RD_variable, .instanceMethod y_Mo_rank, .selects "RemnantDictionary$Monomials" y_Mo_rank y_Mo_rank, .methodLink "RemnantDictionary$Monomials" 51 y_Mo_rank, .code y_Mo_lay c_Mo_layb 5 none, .fieldLink "RemnantDictionary$Monomials" 15 "RemnantDictionary$Monomials" "degrees" "[I", .instanceMethod y_Mo_layWithX, .selects "RemnantDictionary$Monomials" y_Mo_layWithX y_Mo_layWithX, .methodLink "RemnantDictionary$Monomials" 41 y_Mo_layWithX, .laysFinal "RemnantDictionary$Space" "RemnantDictionary$Space" "monomials" "LRemnantDictionary$Monomials;", .lays "RemnantDictionary$Space" "RemnantDictionary$Space" "prime" "I", .lays "RemnantDictionary$Space" "RemnantDictionary$Space" "limit" "I", .laysFinal "RemnantDictionary$Space" "RemnantDictionary$Space" "rows" "[I", .laysFinal "RemnantDictionary$Space" "RemnantDictionary$Space" "leads" "[Z", .laysFinal "RemnantDictionary$Space" "RemnantDictionary$Space" "kept" "[I", .lays "RemnantDictionary$Space" "RemnantDictionary$Space" "keptCount" "I", .laysFinal "RemnantDictionary$Space" "RemnantDictionary$Space" "work" "[I"]
def gA3 : List Cond := [.laysFinal "RemnantDictionary$Space" "RemnantDictionary$Space" "basis" "[I", .lays "RemnantDictionary$Space" "RemnantDictionary$Space" "basisCount" "I", .fieldLink "RemnantDictionary$Space" 15 "RemnantDictionary$Space" "leads" "[Z", .code y_Sp_has1 c_Sp_has1b 1 (some .boolean), .code y_Sp_start c_Sp_startb 4 none, .fieldLink "RemnantDictionary$Space" 32 "RemnantDictionary$Space" "prime" "I", .fieldLink "RemnantDictionary$Space" 36 "RemnantDictionary$Space" "limit" "I", .fieldLink "RemnantDictionary$Space" 39 "RemnantDictionary$Space" "keptCount" "I", .fieldLink "RemnantDictionary$Space" 42 "RemnantDictionary$Space" "basisCount" "I", .fieldLink "RemnantDictionary$Space" 9 "RemnantDictionary$Space" "rows" "[I", .static y_Arrays_fill3, .methodLink "RemnantDictionary$Space" 90 y_Arrays_fill3, .fieldLink "RemnantDictionary$Space" 22 "RemnantDictionary$Space" "work" "[I", .static y_RD_inverse, .static y_RD_addMultiple, .fieldLink "RemnantDictionary$Space" 19 "RemnantDictionary$Space" "kept" "[I", .code y_Sp_keepWork c_Sp_keepWorkb 3 none, .instanceMethod y_Sp_keepWork, .selects "RemnantDictionary$Space" y_Sp_keepWork y_Sp_keepWork, .initialized "RemnantDictionary$Space", .methodLink "RemnantDictionary$Space" 82 y_Sp_keepWork, .code y_Sp_absorbWork c_Sp_absorbWorkb 2 none, .fieldLink "RemnantDictionary$Space" 28 "RemnantDictionary$Space" "monomials" "LRemnantDictionary$Monomials;", .fieldLink "RemnantDictionary$Space" 51 "RemnantDictionary$Monomials" "count" "I"]
def gA4 : List Cond := [.fieldLink "RemnantDictionary$Space" 79 "RemnantDictionary$Monomials" "raised" "[I", .code y_Sp_loadProduct c_Sp_loadProductb 5 none, .static y_Arrays_fill2, .methodLink "RemnantDictionary$Space" 73 y_Arrays_fill2, .instanceMethod y_Sp_absorbWork, .selects "RemnantDictionary$Space" y_Sp_absorbWork y_Sp_absorbWork, .methodLink "RemnantDictionary$Space" 59 y_Sp_absorbWork, .code y_Sp_takes c_Sp_takesb 4 (some .boolean), .fieldLink "RemnantDictionary$Space" 56 "RemnantDictionary$Monomials" "degrees" "[I", .methodLink "RemnantDictionary$Space" 45 (⟨"java/lang/System", "arraycopy", "(Ljava/lang/Object;ILjava/lang/Object;II)V"⟩ : MethodName), .native (⟨"java/lang/System", "arraycopy", "(Ljava/lang/Object;ILjava/lang/Object;II)V"⟩ : MethodName), .static (⟨"java/lang/System", "arraycopy", "(Ljava/lang/Object;ILjava/lang/Object;II)V"⟩ : MethodName), .initialized "java/lang/System", .fieldLink "RemnantDictionary$Space" 66 "RemnantDictionary$Monomials" "variables" "I", .instanceMethod y_Sp_loadProduct, .selects "RemnantDictionary$Space" y_Sp_loadProduct y_Sp_loadProduct, .methodLink "RemnantDictionary$Space" 69 y_Sp_loadProduct, .code y_Sp_close c_Sp_closeb 4 none, .instanceMethod y_Sp_has1, .selects "RemnantDictionary$Space" y_Sp_has1 y_Sp_has1, .methodLink "RemnantDictionary$Space" 62 y_Sp_has1, .fieldLink "RemnantDictionary$Space" 97 "RemnantDictionary$Monomials" "codes" "[I", .fieldLink "RemnantDictionary$Space" 25 "RemnantDictionary$Space" "basis" "[I", .static y_RD_divides]
def gA5 : List Cond := [.code y_Sp_hasLeadThatDivides c_Sp_hasLeadThatDividesb 3 (some .boolean), .code y_Sp_clearTail c_Sp_clearTailb 5 none, .instanceMethod y_Sp_hasLeadThatDivides, .selects "RemnantDictionary$Space" y_Sp_hasLeadThatDivides y_Sp_hasLeadThatDivides, .methodLink "RemnantDictionary$Space" 100 y_Sp_hasLeadThatDivides, .instanceMethod y_Sp_clearTail, .selects "RemnantDictionary$Space" y_Sp_clearTail y_Sp_clearTail, .methodLink "RemnantDictionary$Space" 104 y_Sp_clearTail, .code y_Sp_pickBasis c_Sp_pickBasisb 2 none, .static y_RD_degreeOfCommonMultiple, .code y_Sp_isComplete c_Sp_isCompleteb 5 (some .boolean), .code y_Sp_rankInBasis c_Sp_rankInBasisb 3 (some .int), .code y_Sp_purePower c_Sp_purePowerb 4 (some .int), .lays "RemnantDictionary$Remnant" "RemnantDictionary$Remnant" "prime" "I", .lays "RemnantDictionary$Remnant" "RemnantDictionary$Remnant" "variables" "I", .lays "RemnantDictionary$Remnant" "RemnantDictionary$Remnant" "size" "I", .laysFinal "RemnantDictionary$Remnant" "RemnantDictionary$Remnant" "codes" "[I", .laysFinal "RemnantDictionary$Remnant" "RemnantDictionary$Remnant" "products" "[I", .laysFinal "RemnantDictionary$Remnant" "RemnantDictionary$Remnant" "bounds" "[I", .laysFinal "RemnantDictionary$Remnant" "RemnantDictionary$Remnant" "pairs" "[I", .laysFinal "RemnantDictionary$Remnant" "RemnantDictionary$Remnant" "keys" "[J", .lays "RemnantDictionary$Remnant" "RemnantDictionary$Remnant" "pairCount" "I", .fieldLink "RemnantDictionary$Remnant" 28 "RemnantDictionary$Remnant" "size" "I", .code y_Re_forget c_Re_forgetb 1 none]
def gA6 : List Cond := [.fieldLink "RemnantDictionary$Remnant" 18 "RemnantDictionary$Remnant" "bounds" "[I", .code y_Re_setBounds c_Re_setBoundsb 3 (some .boolean), .fieldLink "RemnantDictionary$Remnant" 47 "RemnantDictionary$Remnant" "variables" "I", .instanceMethod y_Sp_purePower, .selects "RemnantDictionary$Space" y_Sp_purePower y_Sp_purePower, .methodLink "RemnantDictionary$Remnant" 58 y_Sp_purePower, .fieldLink "RemnantDictionary$Remnant" 9 "RemnantDictionary$Remnant" "codes" "[I", .code y_Re_takes c_Re_takesb 6 (some .boolean), .methodLink "RemnantDictionary$Remnant" 62 y_Sp_hasLeadThatDivides, .fieldLink "RemnantDictionary$Remnant" 38 "RemnantDictionary$Space" "monomials" "LRemnantDictionary$Monomials;", .fieldLink "RemnantDictionary$Remnant" 66 "RemnantDictionary$Monomials" "order" "I", .instanceMethod y_Re_takes, .selects "RemnantDictionary$Remnant" y_Re_takes y_Re_takes, .initialized "RemnantDictionary$Remnant", .methodLink "RemnantDictionary$Remnant" 69 y_Re_takes, .code y_Re_gatherWithin c_Re_gatherWithinb 7 (some .boolean), .instanceMethod y_Re_forget, .selects "RemnantDictionary$Remnant" y_Re_forget y_Re_forget, .methodLink "RemnantDictionary$Remnant" 55 y_Re_forget, .code y_Re_gather c_Re_gatherb 2 (some .boolean), .fieldLink "RemnantDictionary$Remnant" 32 "RemnantDictionary$Space" "prime" "I", .fieldLink "RemnantDictionary$Remnant" 37 "RemnantDictionary$Remnant" "prime" "I", .fieldLink "RemnantDictionary$Remnant" 42 "RemnantDictionary$Monomials" "variables" "I", .instanceMethod y_Re_setBounds]
def gA7 : List Cond := [.selects "RemnantDictionary$Remnant" y_Re_setBounds y_Re_setBounds, .methodLink "RemnantDictionary$Remnant" 48 y_Re_setBounds, .instanceMethod y_Re_gatherWithin, .selects "RemnantDictionary$Remnant" y_Re_gatherWithin y_Re_gatherWithin, .methodLink "RemnantDictionary$Remnant" 52 y_Re_gatherWithin, .fieldLink "RemnantDictionary$Remnant" 24 "RemnantDictionary$Remnant" "keys" "[J", .fieldLink "RemnantDictionary$Remnant" 21 "RemnantDictionary$Remnant" "pairs" "[I", .fieldLink "RemnantDictionary$Remnant" 81 "RemnantDictionary$Remnant" "pairCount" "I", .code y_Re_insertPair c_Re_insertPairb 5 none, .instanceMethod y_Re_insertPair, .selects "RemnantDictionary$Remnant" y_Re_insertPair y_Re_insertPair, .methodLink "RemnantDictionary$Remnant" 91 y_Re_insertPair, .code y_Re_sortPairs c_Re_sortPairsb 4 none, .code y_Re_placeOf c_Re_placeOfb 3 (some .int), .fieldLink "RemnantDictionary$Remnant" 15 "RemnantDictionary$Remnant" "products" "[I", .code y_Re_fillFromBasis c_Re_fillFromBasisb 7 none, .fieldLink "RemnantDictionary$Remnant" 118 "RemnantDictionary$Space" "rows" "[I", .fieldLink "RemnantDictionary$Remnant" 121 "RemnantDictionary$Monomials" "codes" "[I", .instanceMethod y_Re_placeOf, .selects "RemnantDictionary$Remnant" y_Re_placeOf y_Re_placeOf, .methodLink "RemnantDictionary$Remnant" 105 y_Re_placeOf, .static y_RD_productRow, .code y_Re_act c_Re_actb 8 none, .instanceMethod y_Re_act]
def gA8 : List Cond := [.selects "RemnantDictionary$Remnant" y_Re_act y_Re_act, .methodLink "RemnantDictionary$Remnant" 125 y_Re_act, .code y_Re_fillFromLesser c_Re_fillFromLesserb 7 none, .methodLink "RemnantDictionary$Remnant" 99 y_Arrays_fill3, .instanceMethod y_Sp_rankInBasis, .selects "RemnantDictionary$Space" y_Sp_rankInBasis y_Sp_rankInBasis, .methodLink "RemnantDictionary$Remnant" 108 y_Sp_rankInBasis, .instanceMethod y_Re_fillFromLesser, .selects "RemnantDictionary$Remnant" y_Re_fillFromLesser y_Re_fillFromLesser, .methodLink "RemnantDictionary$Remnant" 114 y_Re_fillFromLesser, .instanceMethod y_Re_fillFromBasis, .selects "RemnantDictionary$Remnant" y_Re_fillFromBasis y_Re_fillFromBasis, .methodLink "RemnantDictionary$Remnant" 111 y_Re_fillFromBasis, .code y_Re_fillProduct c_Re_fillProductb 8 none, .instanceMethod y_Re_fillProduct, .selects "RemnantDictionary$Remnant" y_Re_fillProduct y_Re_fillProduct, .methodLink "RemnantDictionary$Remnant" 84 y_Re_fillProduct, .code y_Re_multiply c_Re_multiplyb 3 none, .instanceMethod y_Re_sortPairs, .selects "RemnantDictionary$Remnant" y_Re_sortPairs y_Re_sortPairs, .methodLink "RemnantDictionary$Remnant" 77 y_Re_sortPairs, .lays "RemnantDictionary$Lexicon" "RemnantDictionary$Lexicon" "prime" "I", .lays "RemnantDictionary$Lexicon" "RemnantDictionary$Lexicon" "size" "I", .lays "RemnantDictionary$Lexicon" "RemnantDictionary$Lexicon" "count" "I"]
def gA9 : List Cond := [.laysFinal "RemnantDictionary$Lexicon" "RemnantDictionary$Lexicon" "heads" "[I", .laysFinal "RemnantDictionary$Lexicon" "RemnantDictionary$Lexicon" "tails" "[I", .laysFinal "RemnantDictionary$Lexicon" "RemnantDictionary$Lexicon" "standard" "[I", .lays "RemnantDictionary$Lexicon" "RemnantDictionary$Lexicon" "standardCount" "I", .laysFinal "RemnantDictionary$Lexicon" "RemnantDictionary$Lexicon" "images" "[I", .laysFinal "RemnantDictionary$Lexicon" "RemnantDictionary$Lexicon" "steps" "[I", .laysFinal "RemnantDictionary$Lexicon" "RemnantDictionary$Lexicon" "mixes" "[I", .laysFinal "RemnantDictionary$Lexicon" "RemnantDictionary$Lexicon" "pivots" "[I", .laysFinal "RemnantDictionary$Lexicon" "RemnantDictionary$Lexicon" "image" "[I", .laysFinal "RemnantDictionary$Lexicon" "RemnantDictionary$Lexicon" "rest" "[I", .laysFinal "RemnantDictionary$Lexicon" "RemnantDictionary$Lexicon" "mix" "[I", .fieldLink "RemnantDictionary$Lexicon" 42 "RemnantDictionary$Lexicon" "count" "I", .code y_Le_forget c_Le_forgetb 1 none, .fieldLink "RemnantDictionary$Lexicon" 56 "RemnantDictionary$Lexicon" "standardCount" "I", .fieldLink "RemnantDictionary$Lexicon" 18 "RemnantDictionary$Lexicon" "standard" "[I", .code y_Le_leastProductAbove c_Le_leastProductAboveb 8 (some .int), .constant "RemnantDictionary$Lexicon" 90 2147483647, .fieldLink "RemnantDictionary$Lexicon" 9 "RemnantDictionary$Lexicon" "heads" "[I", .code y_Le_hasHeadThatDivides c_Le_hasHeadThatDividesb 3 (some .boolean), .fieldLink "RemnantDictionary$Lexicon" 36 "RemnantDictionary$Lexicon" "rest" "[I", .fieldLink "RemnantDictionary$Lexicon" 30 "RemnantDictionary$Lexicon" "pivots" "[I", .fieldLink "RemnantDictionary$Lexicon" 24 "RemnantDictionary$Lexicon" "steps" "[I", .fieldLink "RemnantDictionary$Lexicon" 55 "RemnantDictionary$Lexicon" "size" "I", .fieldLink "RemnantDictionary$Lexicon" 51 "RemnantDictionary$Lexicon" "prime" "I"]
def gA10 : List Cond := [.fieldLink "RemnantDictionary$Lexicon" 39 "RemnantDictionary$Lexicon" "mix" "[I", .fieldLink "RemnantDictionary$Lexicon" 27 "RemnantDictionary$Lexicon" "mixes" "[I", .code y_Le_reduceImage c_Le_reduceImageb 3 none, .fieldLink "RemnantDictionary$Lexicon" 33 "RemnantDictionary$Lexicon" "image" "[I", .methodLink "RemnantDictionary$Lexicon" 109 (⟨"java/lang/System", "arraycopy", "(Ljava/lang/Object;ILjava/lang/Object;II)V"⟩ : MethodName), .methodLink "RemnantDictionary$Lexicon" 59 y_Arrays_fill2, .fieldLink "RemnantDictionary$Lexicon" 15 "RemnantDictionary$Lexicon" "tails" "[I", .code y_Le_addPolynomial c_Le_addPolynomialb 2 none, .methodLink "RemnantDictionary$Lexicon" 122 y_Arrays_fill3, .fieldLink "RemnantDictionary$Lexicon" 21 "RemnantDictionary$Lexicon" "images" "[I", .code y_Le_addStandard c_Le_addStandardb 5 none, .instanceMethod y_Le_reduceImage, .selects "RemnantDictionary$Lexicon" y_Le_reduceImage y_Le_reduceImage, .initialized "RemnantDictionary$Lexicon", .methodLink "RemnantDictionary$Lexicon" 95 y_Le_reduceImage, .static y_RD_firstThatIsNot0, .instanceMethod y_Le_addStandard, .selects "RemnantDictionary$Lexicon" y_Le_addStandard y_Le_addStandard, .methodLink "RemnantDictionary$Lexicon" 105 y_Le_addStandard, .instanceMethod y_Le_addPolynomial, .selects "RemnantDictionary$Lexicon" y_Le_addPolynomial y_Le_addPolynomial, .methodLink "RemnantDictionary$Lexicon" 102 y_Le_addPolynomial, .code y_Le_place c_Le_placeb 3 none, .fieldLink "RemnantDictionary$Lexicon" 69 "RemnantDictionary$Remnant" "variables" "I"]
def gA11 : List Cond := [.instanceMethod y_Le_leastProductAbove, .selects "RemnantDictionary$Lexicon" y_Le_leastProductAbove y_Le_leastProductAbove, .methodLink "RemnantDictionary$Lexicon" 72 y_Le_leastProductAbove, .instanceMethod y_Le_hasHeadThatDivides, .selects "RemnantDictionary$Lexicon" y_Le_hasHeadThatDivides y_Le_hasHeadThatDivides, .methodLink "RemnantDictionary$Lexicon" 80 y_Le_hasHeadThatDivides, .methodLink "RemnantDictionary$Lexicon" 84 y_Re_act, .instanceMethod y_Le_place, .selects "RemnantDictionary$Lexicon" y_Le_place y_Le_place, .methodLink "RemnantDictionary$Lexicon" 65 y_Le_place, .code y_Le_build c_Le_buildb 7 none, .fieldLink "RemnantDictionary$Lexicon" 46 "RemnantDictionary$Remnant" "prime" "I", .fieldLink "RemnantDictionary$Lexicon" 52 "RemnantDictionary$Remnant" "size" "I", .code y_Le_tailTerm c_Le_tailTermb 5 (some .int), .lays "RemnantDictionary" "RemnantDictionary" "prime" "I", .lays "RemnantDictionary" "RemnantDictionary" "generatorCount" "I", .laysFinal "RemnantDictionary" "RemnantDictionary" "inHand" "[I", .laysFinal "RemnantDictionary" "RemnantDictionary" "generators" "[I", .laysFinal "RemnantDictionary" "RemnantDictionary" "monomials" "LRemnantDictionary$Monomials;", .laysFinal "RemnantDictionary" "RemnantDictionary" "space" "LRemnantDictionary$Space;", .laysFinal "RemnantDictionary" "RemnantDictionary" "remnant" "LRemnantDictionary$Remnant;", .laysFinal "RemnantDictionary" "RemnantDictionary" "lexicon" "LRemnantDictionary$Lexicon;", .fieldLink "RemnantDictionary" 90 "RemnantDictionary" "generatorCount" "I", .fieldLink "RemnantDictionary" 28 "RemnantDictionary" "space" "LRemnantDictionary$Space;"]
def gA12 : List Cond := [.instanceMethod y_Sp_close, .selects "RemnantDictionary$Space" y_Sp_close y_Sp_close, .methodLink "RemnantDictionary" 181 y_Sp_close, .instanceMethod y_Sp_pickBasis, .selects "RemnantDictionary$Space" y_Sp_pickBasis y_Sp_pickBasis, .methodLink "RemnantDictionary" 184 y_Sp_pickBasis, .instanceMethod y_Sp_isComplete, .selects "RemnantDictionary$Space" y_Sp_isComplete y_Sp_isComplete, .methodLink "RemnantDictionary" 187 y_Sp_isComplete, .fieldLink "RemnantDictionary" 13 "RemnantDictionary" "generators" "[I", .instanceMethod y_Sp_takes, .selects "RemnantDictionary$Space" y_Sp_takes y_Sp_takes, .methodLink "RemnantDictionary" 177 y_Sp_takes, .code y_RD_hasCompleteBasis c_RD_hasCompleteBasisb 3 (some .boolean), .fieldLink "RemnantDictionary" 46 "RemnantDictionary" "prime" "I", .instanceMethod y_Sp_start, .selects "RemnantDictionary$Space" y_Sp_start y_Sp_start, .methodLink "RemnantDictionary" 174 y_Sp_start, .fieldLink "RemnantDictionary" 9 "RemnantDictionary" "inHand" "[I", .methodLink "RemnantDictionary" 104 y_Arrays_fill2, .code y_RD_clear c_RD_clearb 1 none, .fieldLink "RemnantDictionary" 35 "RemnantDictionary" "remnant" "LRemnantDictionary$Remnant;", .fieldLink "RemnantDictionary" 144 "RemnantDictionary$Remnant" "size" "I", .fieldLink "RemnantDictionary" 147 "RemnantDictionary$Remnant" "codes" "[I"]
def gA13 : List Cond := [.code y_RD_left c_RD_leftb 2 (some .int), .fieldLink "RemnantDictionary" 150 "RemnantDictionary$Remnant" "variables" "I", .fieldLink "RemnantDictionary" 153 "RemnantDictionary$Remnant" "products" "[I", .methodLink "RemnantDictionary" 156 y_RD_productRow, .code y_RD_times c_RD_timesb 4 (some .int), .fieldLink "RemnantDictionary" 42 "RemnantDictionary" "lexicon" "LRemnantDictionary$Lexicon;", .fieldLink "RemnantDictionary" 159 "RemnantDictionary$Lexicon" "count" "I", .code y_RD_dictionary c_RD_dictionaryb 1 (some .int), .instanceMethod y_Le_tailTerm, .selects "RemnantDictionary$Lexicon" y_Le_tailTerm y_Le_tailTerm, .methodLink "RemnantDictionary" 165 y_Le_tailTerm, .fieldLink "RemnantDictionary" 171 "RemnantDictionary$Lexicon" "tails" "[I", .fieldLink "RemnantDictionary" 168 "RemnantDictionary$Lexicon" "standard" "[I", .fieldLink "RemnantDictionary" 162 "RemnantDictionary$Lexicon" "heads" "[I", .code y_RD_entry c_RD_entryb 5 (some .int), .fieldLink "RemnantDictionary" 19 "RemnantDictionary" "monomials" "LRemnantDictionary$Monomials;", .methodLink "RemnantDictionary" 72 y_Mo_rank, .code y_RD_hand c_RD_handb 3 (some .int), .code y_Z_highest c_Z_highestb 1 (some .int), .code y_Z_exponent c_Z_exponentb 2 (some .int), .static y_Z_exponent, .initialized "RemnantDictionaryModel", .methodLink "RemnantDictionaryModel" 106 y_Z_exponent, .code y_Z_degreeOf c_Z_degreeOfb 1 (some .int)]
def gA14 : List Cond := [.code y_Z_divides c_Z_dividesb 3 (some .boolean), .code y_Z_prime c_Z_primeb 2 (some .boolean), .lays "RemnantDictionaryModel" "RemnantDictionaryModel" "thrownCode" "I", .lays "RemnantDictionaryModel" "RemnantDictionaryModel" "p" "I", .lays "RemnantDictionaryModel" "RemnantDictionaryModel" "n" "I", .lays "RemnantDictionaryModel" "RemnantDictionaryModel" "order" "I", .lays "RemnantDictionaryModel" "RemnantDictionaryModel" "monomials" "I", .laysFinal "RemnantDictionaryModel" "RemnantDictionaryModel" "mono" "[I", .laysFinal "RemnantDictionaryModel" "RemnantDictionaryModel" "degree" "[I", .lays "RemnantDictionaryModel" "RemnantDictionaryModel" "generators" "I", .laysFinal "RemnantDictionaryModel" "RemnantDictionaryModel" "generator" "[I", .laysFinal "RemnantDictionaryModel" "RemnantDictionaryModel" "hand" "[I", .lays "RemnantDictionaryModel" "RemnantDictionaryModel" "upTo" "I", .laysFinal "RemnantDictionaryModel" "RemnantDictionaryModel" "has" "[Z", .laysFinal "RemnantDictionaryModel" "RemnantDictionaryModel" "row" "[I", .laysFinal "RemnantDictionaryModel" "RemnantDictionaryModel" "work" "[I", .laysFinal "RemnantDictionaryModel" "RemnantDictionaryModel" "basis" "[I", .lays "RemnantDictionaryModel" "RemnantDictionaryModel" "members" "I", .lays "RemnantDictionaryModel" "RemnantDictionaryModel" "lefts" "I", .lays "RemnantDictionaryModel" "RemnantDictionaryModel" "vars" "I", .laysFinal "RemnantDictionaryModel" "RemnantDictionaryModel" "rest" "[I", .laysFinal "RemnantDictionaryModel" "RemnantDictionaryModel" "product" "[I", .laysFinal "RemnantDictionaryModel" "RemnantDictionaryModel" "known" "[Z", .lays "RemnantDictionaryModel" "RemnantDictionaryModel" "leadsFound" "I"]
def gA15 : List Cond := [.laysFinal "RemnantDictionaryModel" "RemnantDictionaryModel" "lead" "[I", .laysFinal "RemnantDictionaryModel" "RemnantDictionaryModel" "tail" "[I", .lays "RemnantDictionaryModel" "RemnantDictionaryModel" "words" "I", .laysFinal "RemnantDictionaryModel" "RemnantDictionaryModel" "word" "[I", .laysFinal "RemnantDictionaryModel" "RemnantDictionaryModel" "vector" "[I", .laysFinal "RemnantDictionaryModel" "RemnantDictionaryModel" "system" "[I", .laysFinal "RemnantDictionaryModel" "RemnantDictionaryModel" "now" "[I", .laysFinal "RemnantDictionaryModel" "RemnantDictionaryModel" "next" "[I", .fieldLink "RemnantDictionaryModel" 19 "RemnantDictionaryModel" "order" "I", .code y_Z_greater c_Z_greaterb 5 (some .boolean), .static y_Z_degreeOf, .methodLink "RemnantDictionaryModel" 110 y_Z_degreeOf, .fieldLink "RemnantDictionaryModel" 25 "RemnantDictionaryModel" "mono" "[I", .fieldLink "RemnantDictionaryModel" 22 "RemnantDictionaryModel" "monomials" "I", .code y_Z_put c_Z_putb 3 none, .instanceMethod y_Z_greater, .selects "RemnantDictionaryModel" y_Z_greater y_Z_greater, .methodLink "RemnantDictionaryModel" 121 y_Z_greater, .fieldLink "RemnantDictionaryModel" 29 "RemnantDictionaryModel" "degree" "[I", .fieldLink "RemnantDictionaryModel" 38 "RemnantDictionaryModel" "hand" "[I", .code y_Z_fresh c_Z_freshb 9 none, .instanceMethod y_Z_put, .selects "RemnantDictionaryModel" y_Z_put y_Z_put, .methodLink "RemnantDictionaryModel" 117 y_Z_put]
def gA16 : List Cond := [.fieldLink "RemnantDictionaryModel" 16 "RemnantDictionaryModel" "n" "I", .fieldLink "RemnantDictionaryModel" 13 "RemnantDictionaryModel" "p" "I", .fieldLink "RemnantDictionaryModel" 32 "RemnantDictionaryModel" "generators" "I", .static y_Z_highest, .methodLink "RemnantDictionaryModel" 114 y_Z_highest, .code y_Z_placeOf c_Z_placeOfb 3 (some .int), .code y_Z_inverse c_Z_inverseb 7 (some .int), .fieldLink "RemnantDictionaryModel" 51 "RemnantDictionaryModel" "work" "[I", .fieldLink "RemnantDictionaryModel" 48 "RemnantDictionaryModel" "row" "[I", .code y_Z_takeRow c_Z_takeRowb 5 none, .fieldLink "RemnantDictionaryModel" 44 "RemnantDictionaryModel" "has" "[Z", .instanceMethod y_Z_takeRow, .selects "RemnantDictionaryModel" y_Z_takeRow y_Z_takeRow, .methodLink "RemnantDictionaryModel" 125 y_Z_takeRow, .code y_Z_reduce c_Z_reduceb 3 (some .int), .code y_Z_comes c_Z_comesb 5 (some .boolean), .instanceMethod y_Z_reduce, .selects "RemnantDictionaryModel" y_Z_reduce y_Z_reduce, .methodLink "RemnantDictionaryModel" 128 y_Z_reduce, .instanceMethod y_Z_inverse, .selects "RemnantDictionaryModel" y_Z_inverse y_Z_inverse, .methodLink "RemnantDictionaryModel" 132 y_Z_inverse, .instanceMethod y_Z_placeOf, .selects "RemnantDictionaryModel" y_Z_placeOf y_Z_placeOf]
def gA17 : List Cond := [.methodLink "RemnantDictionaryModel" 135 y_Z_placeOf, .code y_Z_multiplied c_Z_multipliedb 4 none, .fieldLink "RemnantDictionaryModel" 35 "RemnantDictionaryModel" "generator" "[I", .code y_Z_degreeOfGenerator c_Z_degreeOfGeneratorb 4 (some .int), .code y_Z_clean c_Z_cleanb 3 none, .instanceMethod y_Z_clean, .selects "RemnantDictionaryModel" y_Z_clean y_Z_clean, .methodLink "RemnantDictionaryModel" 149 y_Z_clean, .code y_Z_findSpace c_Z_findSpaceb 5 none, .instanceMethod y_Z_multiplied, .selects "RemnantDictionaryModel" y_Z_multiplied y_Z_multiplied, .methodLink "RemnantDictionaryModel" 145 y_Z_multiplied, .instanceMethod y_Z_comes, .selects "RemnantDictionaryModel" y_Z_comes y_Z_comes, .methodLink "RemnantDictionaryModel" 141 y_Z_comes, .instanceMethod y_Z_degreeOfGenerator, .selects "RemnantDictionaryModel" y_Z_degreeOfGenerator y_Z_degreeOfGenerator, .methodLink "RemnantDictionaryModel" 138 y_Z_degreeOfGenerator, .code y_Z_complete c_Z_completeb 8 (some .boolean), .fieldLink "RemnantDictionaryModel" 41 "RemnantDictionaryModel" "upTo" "I", .fieldLink "RemnantDictionaryModel" 54 "RemnantDictionaryModel" "basis" "[I", .fieldLink "RemnantDictionaryModel" 57 "RemnantDictionaryModel" "members" "I", .fieldLink "RemnantDictionaryModel" 7 "RemnantDictionaryModel" "thrownCode" "I", .code y_Z_thrown c_Z_thrownb 1 (some .int)]
def gA18 : List Cond := [.instanceMethod y_Z_fresh, .selects "RemnantDictionaryModel" y_Z_fresh y_Z_fresh, .methodLink "RemnantDictionaryModel" 102 y_Z_fresh, .code y_Z_field c_Z_fieldb 4 none, .static y_Z_prime, .methodLink "RemnantDictionaryModel" 152 y_Z_prime, .code y_Z_coefficient c_Z_coefficientb 4 none, .code y_Z_hand c_Z_handb 3 (some .int), .code y_Z_join c_Z_joinb 3 (some .int), .code y_Z_clear c_Z_clearb 2 none, .static y_Z_divides, .methodLink "RemnantDictionaryModel" 156 y_Z_divides, .code y_Z_leading c_Z_leadingb 3 (some .boolean), .fieldLink "RemnantDictionaryModel" 60 "RemnantDictionaryModel" "lefts" "I", .fieldLink "RemnantDictionaryModel" 66 "RemnantDictionaryModel" "rest" "[I", .code y_Z_restOf c_Z_restOfb 3 (some .int), .instanceMethod y_Z_leading, .selects "RemnantDictionaryModel" y_Z_leading y_Z_leading, .methodLink "RemnantDictionaryModel" 159 y_Z_leading, .code y_Z_findRest c_Z_findRestb 6 (some .boolean), .fieldLink "RemnantDictionaryModel" 69 "RemnantDictionaryModel" "product" "[I", .code y_Z_findProduct c_Z_findProductb 11 none, .instanceMethod y_Z_restOf, .selects "RemnantDictionaryModel" y_Z_restOf y_Z_restOf]
def gA19 : List Cond := [.methodLink "RemnantDictionaryModel" 162 y_Z_restOf, .fieldLink "RemnantDictionaryModel" 72 "RemnantDictionaryModel" "known" "[Z", .instanceMethod y_Z_findProduct, .selects "RemnantDictionaryModel" y_Z_findProduct y_Z_findProduct, .methodLink "RemnantDictionaryModel" 165 y_Z_findProduct, .code y_Z_findProducts c_Z_findProductsb 6 none, .fieldLink "RemnantDictionaryModel" 96 "RemnantDictionaryModel" "now" "[I", .fieldLink "RemnantDictionaryModel" 99 "RemnantDictionaryModel" "next" "[I", .code y_Z_comesTo c_Z_comesTob 8 none, .fieldLink "RemnantDictionaryModel" 84 "RemnantDictionaryModel" "words" "I", .fieldLink "RemnantDictionaryModel" 93 "RemnantDictionaryModel" "system" "[I", .code y_Z_solved c_Z_solvedb 11 (some .boolean), .fieldLink "RemnantDictionaryModel" 90 "RemnantDictionaryModel" "vector" "[I", .code y_Z_tries c_Z_triesb 3 none, .fieldLink "RemnantDictionaryModel" 75 "RemnantDictionaryModel" "leadsFound" "I", .fieldLink "RemnantDictionaryModel" 81 "RemnantDictionaryModel" "tail" "[I", .instanceMethod y_Z_comesTo, .selects "RemnantDictionaryModel" y_Z_comesTo y_Z_comesTo, .methodLink "RemnantDictionaryModel" 168 y_Z_comesTo, .instanceMethod y_Z_solved, .selects "RemnantDictionaryModel" y_Z_solved y_Z_solved, .methodLink "RemnantDictionaryModel" 171 y_Z_solved, .fieldLink "RemnantDictionaryModel" 87 "RemnantDictionaryModel" "word" "[I", .fieldLink "RemnantDictionaryModel" 78 "RemnantDictionaryModel" "lead" "[I"]
def gA20 : List Cond := [.code y_Z_behindLead c_Z_behindLeadb 3 (some .boolean), .code y_Z_findDictionary c_Z_findDictionaryb 4 none, .instanceMethod y_Z_behindLead, .selects "RemnantDictionaryModel" y_Z_behindLead y_Z_behindLead, .methodLink "RemnantDictionaryModel" 177 y_Z_behindLead, .instanceMethod y_Z_tries, .selects "RemnantDictionaryModel" y_Z_tries y_Z_tries, .methodLink "RemnantDictionaryModel" 174 y_Z_tries, .code y_Z_find c_Z_findb 5 (some .int), .instanceMethod y_Z_complete, .selects "RemnantDictionaryModel" y_Z_complete y_Z_complete, .methodLink "RemnantDictionaryModel" 183 y_Z_complete, .instanceMethod y_Z_findRest, .selects "RemnantDictionaryModel" y_Z_findRest y_Z_findRest, .methodLink "RemnantDictionaryModel" 186 y_Z_findRest, .fieldLink "RemnantDictionaryModel" 63 "RemnantDictionaryModel" "vars" "I", .instanceMethod y_Z_findProducts, .selects "RemnantDictionaryModel" y_Z_findProducts y_Z_findProducts, .methodLink "RemnantDictionaryModel" 189 y_Z_findProducts, .instanceMethod y_Z_findDictionary, .selects "RemnantDictionaryModel" y_Z_findDictionary y_Z_findDictionary, .methodLink "RemnantDictionaryModel" 192 y_Z_findDictionary, .instanceMethod y_Z_findSpace, .selects "RemnantDictionaryModel" y_Z_findSpace y_Z_findSpace]
def gA21 : List Cond := [.methodLink "RemnantDictionaryModel" 180 y_Z_findSpace, .code y_Z_left c_Z_leftb 2 (some .int), .code y_Z_times c_Z_timesb 5 (some .int), .code y_Z_dictionary c_Z_dictionaryb 1 (some .int), .code y_Z_entry c_Z_entryb 6 (some .int)]
def gAll : List Cond := gA0 ++ (gA1 ++ (gA2 ++ (gA3 ++ (gA4 ++ (gA5 ++ (gA6 ++ (gA7 ++ (gA8 ++ (gA9 ++ (gA10 ++ (gA11 ++ (gA12 ++ (gA13 ++ (gA14 ++ (gA15 ++ (gA16 ++ (gA17 ++ (gA18 ++ (gA19 ++ (gA20 ++ (gA21)))))))))))))))))))))
theorem gA0_in : ∀ w ∈ gA0, w ∈ gAll := fun _ h => List.mem_append_left _ h
theorem gA1_in : ∀ w ∈ gA1, w ∈ gAll := fun _ h => List.mem_append_right _ (List.mem_append_left _ h)
theorem gA2_in : ∀ w ∈ gA2, w ∈ gAll := fun _ h => List.mem_append_right _ (List.mem_append_right _ (List.mem_append_left _ h))
theorem gA3_in : ∀ w ∈ gA3, w ∈ gAll := fun _ h => List.mem_append_right _ (List.mem_append_right _ (List.mem_append_right _ (List.mem_append_left _ h)))
theorem gA4_in : ∀ w ∈ gA4, w ∈ gAll := fun _ h => List.mem_append_right _ (List.mem_append_right _ (List.mem_append_right _ (List.mem_append_right _ (List.mem_append_left _ h))))
theorem gA5_in : ∀ w ∈ gA5, w ∈ gAll := fun _ h => List.mem_append_right _ (List.mem_append_right _ (List.mem_append_right _ (List.mem_append_right _ (List.mem_append_right _ (List.mem_append_left _ h)))))
theorem gA6_in : ∀ w ∈ gA6, w ∈ gAll := fun _ h => List.mem_append_right _ (List.mem_append_right _ (List.mem_append_right _ (List.mem_append_right _ (List.mem_append_right _ (List.mem_append_right _ (List.mem_append_left _ h))))))
theorem gA7_in : ∀ w ∈ gA7, w ∈ gAll := fun _ h => List.mem_append_right _ (List.mem_append_right _ (List.mem_append_right _ (List.mem_append_right _ (List.mem_append_right _ (List.mem_append_right _ (List.mem_append_right _ (List.mem_append_left _ h)))))))
theorem gA8_in : ∀ w ∈ gA8, w ∈ gAll := fun _ h => List.mem_append_right _ (List.mem_append_right _ (List.mem_append_right _ (List.mem_append_right _ (List.mem_append_right _ (List.mem_append_right _ (List.mem_append_right _ (List.mem_append_right _ (List.mem_append_left _ h))))))))
theorem gA9_in : ∀ w ∈ gA9, w ∈ gAll := fun _ h => List.mem_append_right _ (List.mem_append_right _ (List.mem_append_right _ (List.mem_append_right _ (List.mem_append_right _ (List.mem_append_right _ (List.mem_append_right _ (List.mem_append_right _ (List.mem_append_right _ (List.mem_append_left _ h)))))))))
theorem gA10_in : ∀ w ∈ gA10, w ∈ gAll := fun _ h => List.mem_append_right _ (List.mem_append_right _ (List.mem_append_right _ (List.mem_append_right _ (List.mem_append_right _ (List.mem_append_right _ (List.mem_append_right _ (List.mem_append_right _ (List.mem_append_right _ (List.mem_append_right _ (List.mem_append_left _ h))))))))))
theorem gA11_in : ∀ w ∈ gA11, w ∈ gAll := fun _ h => List.mem_append_right _ (List.mem_append_right _ (List.mem_append_right _ (List.mem_append_right _ (List.mem_append_right _ (List.mem_append_right _ (List.mem_append_right _ (List.mem_append_right _ (List.mem_append_right _ (List.mem_append_right _ (List.mem_append_right _ (List.mem_append_left _ h)))))))))))
theorem gA12_in : ∀ w ∈ gA12, w ∈ gAll := fun _ h => List.mem_append_right _ (List.mem_append_right _ (List.mem_append_right _ (List.mem_append_right _ (List.mem_append_right _ (List.mem_append_right _ (List.mem_append_right _ (List.mem_append_right _ (List.mem_append_right _ (List.mem_append_right _ (List.mem_append_right _ (List.mem_append_right _ (List.mem_append_left _ h))))))))))))
theorem gA13_in : ∀ w ∈ gA13, w ∈ gAll := fun _ h => List.mem_append_right _ (List.mem_append_right _ (List.mem_append_right _ (List.mem_append_right _ (List.mem_append_right _ (List.mem_append_right _ (List.mem_append_right _ (List.mem_append_right _ (List.mem_append_right _ (List.mem_append_right _ (List.mem_append_right _ (List.mem_append_right _ (List.mem_append_right _ (List.mem_append_left _ h)))))))))))))
theorem gA14_in : ∀ w ∈ gA14, w ∈ gAll := fun _ h => List.mem_append_right _ (List.mem_append_right _ (List.mem_append_right _ (List.mem_append_right _ (List.mem_append_right _ (List.mem_append_right _ (List.mem_append_right _ (List.mem_append_right _ (List.mem_append_right _ (List.mem_append_right _ (List.mem_append_right _ (List.mem_append_right _ (List.mem_append_right _ (List.mem_append_right _ (List.mem_append_left _ h))))))))))))))
theorem gA15_in : ∀ w ∈ gA15, w ∈ gAll := fun _ h => List.mem_append_right _ (List.mem_append_right _ (List.mem_append_right _ (List.mem_append_right _ (List.mem_append_right _ (List.mem_append_right _ (List.mem_append_right _ (List.mem_append_right _ (List.mem_append_right _ (List.mem_append_right _ (List.mem_append_right _ (List.mem_append_right _ (List.mem_append_right _ (List.mem_append_right _ (List.mem_append_right _ (List.mem_append_left _ h)))))))))))))))
theorem gA16_in : ∀ w ∈ gA16, w ∈ gAll := fun _ h => List.mem_append_right _ (List.mem_append_right _ (List.mem_append_right _ (List.mem_append_right _ (List.mem_append_right _ (List.mem_append_right _ (List.mem_append_right _ (List.mem_append_right _ (List.mem_append_right _ (List.mem_append_right _ (List.mem_append_right _ (List.mem_append_right _ (List.mem_append_right _ (List.mem_append_right _ (List.mem_append_right _ (List.mem_append_right _ (List.mem_append_left _ h))))))))))))))))
theorem gA17_in : ∀ w ∈ gA17, w ∈ gAll := fun _ h => List.mem_append_right _ (List.mem_append_right _ (List.mem_append_right _ (List.mem_append_right _ (List.mem_append_right _ (List.mem_append_right _ (List.mem_append_right _ (List.mem_append_right _ (List.mem_append_right _ (List.mem_append_right _ (List.mem_append_right _ (List.mem_append_right _ (List.mem_append_right _ (List.mem_append_right _ (List.mem_append_right _ (List.mem_append_right _ (List.mem_append_right _ (List.mem_append_left _ h)))))))))))))))))
theorem gA18_in : ∀ w ∈ gA18, w ∈ gAll := fun _ h => List.mem_append_right _ (List.mem_append_right _ (List.mem_append_right _ (List.mem_append_right _ (List.mem_append_right _ (List.mem_append_right _ (List.mem_append_right _ (List.mem_append_right _ (List.mem_append_right _ (List.mem_append_right _ (List.mem_append_right _ (List.mem_append_right _ (List.mem_append_right _ (List.mem_append_right _ (List.mem_append_right _ (List.mem_append_right _ (List.mem_append_right _ (List.mem_append_right _ (List.mem_append_left _ h))))))))))))))))))
theorem gA19_in : ∀ w ∈ gA19, w ∈ gAll := fun _ h => List.mem_append_right _ (List.mem_append_right _ (List.mem_append_right _ (List.mem_append_right _ (List.mem_append_right _ (List.mem_append_right _ (List.mem_append_right _ (List.mem_append_right _ (List.mem_append_right _ (List.mem_append_right _ (List.mem_append_right _ (List.mem_append_right _ (List.mem_append_right _ (List.mem_append_right _ (List.mem_append_right _ (List.mem_append_right _ (List.mem_append_right _ (List.mem_append_right _ (List.mem_append_right _ (List.mem_append_left _ h)))))))))))))))))))
theorem gA20_in : ∀ w ∈ gA20, w ∈ gAll := fun _ h => List.mem_append_right _ (List.mem_append_right _ (List.mem_append_right _ (List.mem_append_right _ (List.mem_append_right _ (List.mem_append_right _ (List.mem_append_right _ (List.mem_append_right _ (List.mem_append_right _ (List.mem_append_right _ (List.mem_append_right _ (List.mem_append_right _ (List.mem_append_right _ (List.mem_append_right _ (List.mem_append_right _ (List.mem_append_right _ (List.mem_append_right _ (List.mem_append_right _ (List.mem_append_right _ (List.mem_append_right _ (List.mem_append_left _ h))))))))))))))))))))
theorem gA21_in : ∀ w ∈ gA21, w ∈ gAll := fun _ h => List.mem_append_right _ (List.mem_append_right _ (List.mem_append_right _ (List.mem_append_right _ (List.mem_append_right _ (List.mem_append_right _ (List.mem_append_right _ (List.mem_append_right _ (List.mem_append_right _ (List.mem_append_right _ (List.mem_append_right _ (List.mem_append_right _ (List.mem_append_right _ (List.mem_append_right _ (List.mem_append_right _ (List.mem_append_right _ (List.mem_append_right _ (List.mem_append_right _ (List.mem_append_right _ (List.mem_append_right _ (List.mem_append_right _ (h)))))))))))))))))))))
theorem k_0 : (.code y_Arrays_rangeCheck c_Arrays_rangeCheckb 3 none : Cond) ∈ gAll := gA0_in _ (List.mem_of_getElem? (i := 0) rfl)
theorem k_1 : (.code y_Arrays_fill2 c_Arrays_fill2b 4 none : Cond) ∈ gAll := gA0_in _ (List.mem_of_getElem? (i := 1) rfl)
theorem k_2 : (.code y_Arrays_fill3 c_Arrays_fill3b 5 none : Cond) ∈ gAll := gA0_in _ (List.mem_of_getElem? (i := 2) rfl)
theorem k_3 : (.static y_Arrays_rangeCheck : Cond) ∈ gAll := gA0_in _ (List.mem_of_getElem? (i := 3) rfl)
theorem k_4 : (.initialized "java/util/Arrays" : Cond) ∈ gAll := gA0_in _ (List.mem_of_getElem? (i := 4) rfl)
theorem k_5 : (.methodLink "java/util/Arrays" 13 y_Arrays_rangeCheck : Cond) ∈ gAll := gA0_in _ (List.mem_of_getElem? (i := 5) rfl)
theorem k_6 : (.code y_Math_floorMod0 c_Math_floorMod0b 3 (some .int) : Cond) ∈ gAll := gA0_in _ (List.mem_of_getElem? (i := 6) rfl)
theorem k_7 : (.code y_RD_isPrime c_RD_isPrimeb 2 (some .boolean) : Cond) ∈ gAll := gA0_in _ (List.mem_of_getElem? (i := 7) rfl)
theorem k_8 : (.code y_RD_inverse c_RD_inverseb 5 (some .int) : Cond) ∈ gAll := gA0_in _ (List.mem_of_getElem? (i := 8) rfl)
theorem k_9 : (.code y_RD_addMultiple c_RD_addMultipleb 9 none : Cond) ∈ gAll := gA0_in _ (List.mem_of_getElem? (i := 9) rfl)
theorem k_10 : (.code y_RD_firstThatIsNot0 c_RD_firstThatIsNot0b 3 (some .int) : Cond) ∈ gAll := gA0_in _ (List.mem_of_getElem? (i := 10) rfl)
theorem k_11 : (.code y_RD_variable c_RD_variableb 1 (some .int) : Cond) ∈ gAll := gA0_in _ (List.mem_of_getElem? (i := 11) rfl)
theorem k_12 : (.code y_RD_exponent c_RD_exponentb 2 (some .int) : Cond) ∈ gAll := gA0_in _ (List.mem_of_getElem? (i := 12) rfl)
theorem k_13 : (.static y_RD_exponent : Cond) ∈ gAll := gA0_in _ (List.mem_of_getElem? (i := 13) rfl)
theorem k_14 : (.initialized "RemnantDictionary" : Cond) ∈ gAll := gA0_in _ (List.mem_of_getElem? (i := 14) rfl)
theorem k_15 : (.methodLink "RemnantDictionary" 190 y_RD_exponent : Cond) ∈ gAll := gA0_in _ (List.mem_of_getElem? (i := 15) rfl)
theorem k_16 : (.code y_RD_degree c_RD_degreeb 1 (some .int) : Cond) ∈ gAll := gA0_in _ (List.mem_of_getElem? (i := 16) rfl)
theorem k_17 : (.code y_RD_divides c_RD_dividesb 3 (some .boolean) : Cond) ∈ gAll := gA0_in _ (List.mem_of_getElem? (i := 17) rfl)
theorem k_18 : (.methodLink "RemnantDictionary" 193 y_Math_max0 : Cond) ∈ gAll := gA0_in _ (List.mem_of_getElem? (i := 18) rfl)
theorem k_19 : (.static y_Math_max0 : Cond) ∈ gAll := gA0_in _ (List.mem_of_getElem? (i := 19) rfl)
theorem k_20 : (.initialized "java/lang/Math" : Cond) ∈ gAll := gA0_in _ (List.mem_of_getElem? (i := 20) rfl)
theorem k_21 : (.code y_Math_max0 c_Math_max0b 2 (some .int) : Cond) ∈ gAll := gA0_in _ (List.mem_of_getElem? (i := 21) rfl)
theorem k_22 : (.code y_RD_degreeOfCommonMultiple c_RD_degreeOfCommonMultipleb 4 (some .int) : Cond) ∈ gAll := gA0_in _ (List.mem_of_getElem? (i := 22) rfl)
theorem k_23 : (.constantLong "RemnantDictionary" 199 256 : Cond) ∈ gAll := gA0_in _ (List.mem_of_getElem? (i := 23) rfl)
theorem k_24 : (.code y_RD_key c_RD_keyb 6 (some .long) : Cond) ∈ gAll := gA1_in _ (List.mem_of_getElem? (i := 0) rfl)
theorem k_25 : (.static y_RD_degree : Cond) ∈ gAll := gA1_in _ (List.mem_of_getElem? (i := 1) rfl)
theorem k_26 : (.methodLink "RemnantDictionary" 196 y_RD_degree : Cond) ∈ gAll := gA1_in _ (List.mem_of_getElem? (i := 2) rfl)
theorem k_27 : (.code y_RD_productRow c_RD_productRowb 2 (some .int) : Cond) ∈ gAll := gA1_in _ (List.mem_of_getElem? (i := 3) rfl)
theorem k_28 : (.lays "RemnantDictionary$Monomials" "RemnantDictionary$Monomials" "variables" "I" : Cond) ∈ gAll := gA1_in _ (List.mem_of_getElem? (i := 4) rfl)
theorem k_29 : (.lays "RemnantDictionary$Monomials" "RemnantDictionary$Monomials" "order" "I" : Cond) ∈ gAll := gA1_in _ (List.mem_of_getElem? (i := 5) rfl)
theorem k_30 : (.lays "RemnantDictionary$Monomials" "RemnantDictionary$Monomials" "highest" "I" : Cond) ∈ gAll := gA1_in _ (List.mem_of_getElem? (i := 6) rfl)
theorem k_31 : (.lays "RemnantDictionary$Monomials" "RemnantDictionary$Monomials" "count" "I" : Cond) ∈ gAll := gA1_in _ (List.mem_of_getElem? (i := 7) rfl)
theorem k_32 : (.laysFinal "RemnantDictionary$Monomials" "RemnantDictionary$Monomials" "codes" "[I" : Cond) ∈ gAll := gA1_in _ (List.mem_of_getElem? (i := 8) rfl)
theorem k_33 : (.laysFinal "RemnantDictionary$Monomials" "RemnantDictionary$Monomials" "degrees" "[I" : Cond) ∈ gAll := gA1_in _ (List.mem_of_getElem? (i := 9) rfl)
theorem k_34 : (.laysFinal "RemnantDictionary$Monomials" "RemnantDictionary$Monomials" "keys" "[J" : Cond) ∈ gAll := gA1_in _ (List.mem_of_getElem? (i := 10) rfl)
theorem k_35 : (.laysFinal "RemnantDictionary$Monomials" "RemnantDictionary$Monomials" "raised" "[I" : Cond) ∈ gAll := gA1_in _ (List.mem_of_getElem? (i := 11) rfl)
theorem k_36 : (.fieldLink "RemnantDictionary$Monomials" 25 "RemnantDictionary$Monomials" "variables" "I" : Cond) ∈ gAll := gA1_in _ (List.mem_of_getElem? (i := 12) rfl)
theorem k_37 : (.fieldLink "RemnantDictionary$Monomials" 35 "RemnantDictionary$Monomials" "highest" "I" : Cond) ∈ gAll := gA1_in _ (List.mem_of_getElem? (i := 13) rfl)
theorem k_38 : (.code y_Mo_most c_Mo_mostb 3 (some .int) : Cond) ∈ gAll := gA1_in _ (List.mem_of_getElem? (i := 14) rfl)
theorem k_39 : (.fieldLink "RemnantDictionary$Monomials" 18 "RemnantDictionary$Monomials" "keys" "[J" : Cond) ∈ gAll := gA1_in _ (List.mem_of_getElem? (i := 15) rfl)
theorem k_40 : (.fieldLink "RemnantDictionary$Monomials" 9 "RemnantDictionary$Monomials" "codes" "[I" : Cond) ∈ gAll := gA1_in _ (List.mem_of_getElem? (i := 16) rfl)
theorem k_41 : (.fieldLink "RemnantDictionary$Monomials" 38 "RemnantDictionary$Monomials" "count" "I" : Cond) ∈ gAll := gA1_in _ (List.mem_of_getElem? (i := 17) rfl)
theorem k_42 : (.code y_Mo_insert c_Mo_insertb 5 none : Cond) ∈ gAll := gA1_in _ (List.mem_of_getElem? (i := 18) rfl)
theorem k_43 : (.fieldLink "RemnantDictionary$Monomials" 29 "RemnantDictionary$Monomials" "order" "I" : Cond) ∈ gAll := gA1_in _ (List.mem_of_getElem? (i := 19) rfl)
theorem k_44 : (.static y_RD_key : Cond) ∈ gAll := gA1_in _ (List.mem_of_getElem? (i := 20) rfl)
theorem k_45 : (.code y_Mo_rank c_Mo_rankb 8 (some .int) : Cond) ∈ gAll := gA1_in _ (List.mem_of_getElem? (i := 21) rfl)
theorem k_46 : (.instanceMethod y_Mo_most : Cond) ∈ gAll := gA1_in _ (List.mem_of_getElem? (i := 22) rfl)
theorem k_47 : (.selects "RemnantDictionary$Monomials" y_Mo_most y_Mo_most : Cond) ∈ gAll := gA1_in _ (List.mem_of_getElem? (i := 23) rfl)
theorem k_48 : (.initialized "RemnantDictionary$Monomials" : Cond) ∈ gAll := gA2_in _ (List.mem_of_getElem? (i := 0) rfl)
theorem k_49 : (.methodLink "RemnantDictionary$Monomials" 54 y_Mo_most : Cond) ∈ gAll := gA2_in _ (List.mem_of_getElem? (i := 1) rfl)
theorem k_50 : (.instanceMethod y_Mo_insert : Cond) ∈ gAll := gA2_in _ (List.mem_of_getElem? (i := 2) rfl)
theorem k_51 : (.selects "RemnantDictionary$Monomials" y_Mo_insert y_Mo_insert : Cond) ∈ gAll := gA2_in _ (List.mem_of_getElem? (i := 3) rfl)
theorem k_52 : (.methodLink "RemnantDictionary$Monomials" 58 y_Mo_insert : Cond) ∈ gAll := gA2_in _ (List.mem_of_getElem? (i := 4) rfl)
theorem k_53 : (.code y_Mo_layWithX c_Mo_layWithXb 5 none : Cond) ∈ gAll := gA2_in _ (List.mem_of_getElem? (i := 5) rfl)
theorem k_54 : (.fieldLink "RemnantDictionary$Monomials" 22 "RemnantDictionary$Monomials" "raised" "[I" : Cond) ∈ gAll := gA2_in _ (List.mem_of_getElem? (i := 6) rfl)
theorem k_55 : (.static y_RD_variable : Cond) ∈ gAll := gA2_in _ (List.mem_of_getElem? (i := 7) rfl)
theorem k_56 : (.instanceMethod y_Mo_rank : Cond) ∈ gAll := gA2_in _ (List.mem_of_getElem? (i := 8) rfl)
theorem k_57 : (.selects "RemnantDictionary$Monomials" y_Mo_rank y_Mo_rank : Cond) ∈ gAll := gA2_in _ (List.mem_of_getElem? (i := 9) rfl)
theorem k_58 : (.methodLink "RemnantDictionary$Monomials" 51 y_Mo_rank : Cond) ∈ gAll := gA2_in _ (List.mem_of_getElem? (i := 10) rfl)
theorem k_59 : (.code y_Mo_lay c_Mo_layb 5 none : Cond) ∈ gAll := gA2_in _ (List.mem_of_getElem? (i := 11) rfl)
theorem k_60 : (.fieldLink "RemnantDictionary$Monomials" 15 "RemnantDictionary$Monomials" "degrees" "[I" : Cond) ∈ gAll := gA2_in _ (List.mem_of_getElem? (i := 12) rfl)
theorem k_61 : (.instanceMethod y_Mo_layWithX : Cond) ∈ gAll := gA2_in _ (List.mem_of_getElem? (i := 13) rfl)
theorem k_62 : (.selects "RemnantDictionary$Monomials" y_Mo_layWithX y_Mo_layWithX : Cond) ∈ gAll := gA2_in _ (List.mem_of_getElem? (i := 14) rfl)
theorem k_63 : (.methodLink "RemnantDictionary$Monomials" 41 y_Mo_layWithX : Cond) ∈ gAll := gA2_in _ (List.mem_of_getElem? (i := 15) rfl)
theorem k_64 : (.laysFinal "RemnantDictionary$Space" "RemnantDictionary$Space" "monomials" "LRemnantDictionary$Monomials;" : Cond) ∈ gAll := gA2_in _ (List.mem_of_getElem? (i := 16) rfl)
theorem k_65 : (.lays "RemnantDictionary$Space" "RemnantDictionary$Space" "prime" "I" : Cond) ∈ gAll := gA2_in _ (List.mem_of_getElem? (i := 17) rfl)
theorem k_66 : (.lays "RemnantDictionary$Space" "RemnantDictionary$Space" "limit" "I" : Cond) ∈ gAll := gA2_in _ (List.mem_of_getElem? (i := 18) rfl)
theorem k_67 : (.laysFinal "RemnantDictionary$Space" "RemnantDictionary$Space" "rows" "[I" : Cond) ∈ gAll := gA2_in _ (List.mem_of_getElem? (i := 19) rfl)
theorem k_68 : (.laysFinal "RemnantDictionary$Space" "RemnantDictionary$Space" "leads" "[Z" : Cond) ∈ gAll := gA2_in _ (List.mem_of_getElem? (i := 20) rfl)
theorem k_69 : (.laysFinal "RemnantDictionary$Space" "RemnantDictionary$Space" "kept" "[I" : Cond) ∈ gAll := gA2_in _ (List.mem_of_getElem? (i := 21) rfl)
theorem k_70 : (.lays "RemnantDictionary$Space" "RemnantDictionary$Space" "keptCount" "I" : Cond) ∈ gAll := gA2_in _ (List.mem_of_getElem? (i := 22) rfl)
theorem k_71 : (.laysFinal "RemnantDictionary$Space" "RemnantDictionary$Space" "work" "[I" : Cond) ∈ gAll := gA2_in _ (List.mem_of_getElem? (i := 23) rfl)
theorem k_72 : (.laysFinal "RemnantDictionary$Space" "RemnantDictionary$Space" "basis" "[I" : Cond) ∈ gAll := gA3_in _ (List.mem_of_getElem? (i := 0) rfl)
theorem k_73 : (.lays "RemnantDictionary$Space" "RemnantDictionary$Space" "basisCount" "I" : Cond) ∈ gAll := gA3_in _ (List.mem_of_getElem? (i := 1) rfl)
theorem k_74 : (.fieldLink "RemnantDictionary$Space" 15 "RemnantDictionary$Space" "leads" "[Z" : Cond) ∈ gAll := gA3_in _ (List.mem_of_getElem? (i := 2) rfl)
theorem k_75 : (.code y_Sp_has1 c_Sp_has1b 1 (some .boolean) : Cond) ∈ gAll := gA3_in _ (List.mem_of_getElem? (i := 3) rfl)
theorem k_76 : (.code y_Sp_start c_Sp_startb 4 none : Cond) ∈ gAll := gA3_in _ (List.mem_of_getElem? (i := 4) rfl)
theorem k_77 : (.fieldLink "RemnantDictionary$Space" 32 "RemnantDictionary$Space" "prime" "I" : Cond) ∈ gAll := gA3_in _ (List.mem_of_getElem? (i := 5) rfl)
theorem k_78 : (.fieldLink "RemnantDictionary$Space" 36 "RemnantDictionary$Space" "limit" "I" : Cond) ∈ gAll := gA3_in _ (List.mem_of_getElem? (i := 6) rfl)
theorem k_79 : (.fieldLink "RemnantDictionary$Space" 39 "RemnantDictionary$Space" "keptCount" "I" : Cond) ∈ gAll := gA3_in _ (List.mem_of_getElem? (i := 7) rfl)
theorem k_80 : (.fieldLink "RemnantDictionary$Space" 42 "RemnantDictionary$Space" "basisCount" "I" : Cond) ∈ gAll := gA3_in _ (List.mem_of_getElem? (i := 8) rfl)
theorem k_81 : (.fieldLink "RemnantDictionary$Space" 9 "RemnantDictionary$Space" "rows" "[I" : Cond) ∈ gAll := gA3_in _ (List.mem_of_getElem? (i := 9) rfl)
theorem k_82 : (.static y_Arrays_fill3 : Cond) ∈ gAll := gA3_in _ (List.mem_of_getElem? (i := 10) rfl)
theorem k_83 : (.methodLink "RemnantDictionary$Space" 90 y_Arrays_fill3 : Cond) ∈ gAll := gA3_in _ (List.mem_of_getElem? (i := 11) rfl)
theorem k_84 : (.fieldLink "RemnantDictionary$Space" 22 "RemnantDictionary$Space" "work" "[I" : Cond) ∈ gAll := gA3_in _ (List.mem_of_getElem? (i := 12) rfl)
theorem k_85 : (.static y_RD_inverse : Cond) ∈ gAll := gA3_in _ (List.mem_of_getElem? (i := 13) rfl)
theorem k_86 : (.static y_RD_addMultiple : Cond) ∈ gAll := gA3_in _ (List.mem_of_getElem? (i := 14) rfl)
theorem k_87 : (.fieldLink "RemnantDictionary$Space" 19 "RemnantDictionary$Space" "kept" "[I" : Cond) ∈ gAll := gA3_in _ (List.mem_of_getElem? (i := 15) rfl)
theorem k_88 : (.code y_Sp_keepWork c_Sp_keepWorkb 3 none : Cond) ∈ gAll := gA3_in _ (List.mem_of_getElem? (i := 16) rfl)
theorem k_89 : (.instanceMethod y_Sp_keepWork : Cond) ∈ gAll := gA3_in _ (List.mem_of_getElem? (i := 17) rfl)
theorem k_90 : (.selects "RemnantDictionary$Space" y_Sp_keepWork y_Sp_keepWork : Cond) ∈ gAll := gA3_in _ (List.mem_of_getElem? (i := 18) rfl)
theorem k_91 : (.initialized "RemnantDictionary$Space" : Cond) ∈ gAll := gA3_in _ (List.mem_of_getElem? (i := 19) rfl)
theorem k_92 : (.methodLink "RemnantDictionary$Space" 82 y_Sp_keepWork : Cond) ∈ gAll := gA3_in _ (List.mem_of_getElem? (i := 20) rfl)
theorem k_93 : (.code y_Sp_absorbWork c_Sp_absorbWorkb 2 none : Cond) ∈ gAll := gA3_in _ (List.mem_of_getElem? (i := 21) rfl)
theorem k_94 : (.fieldLink "RemnantDictionary$Space" 28 "RemnantDictionary$Space" "monomials" "LRemnantDictionary$Monomials;" : Cond) ∈ gAll := gA3_in _ (List.mem_of_getElem? (i := 22) rfl)
theorem k_95 : (.fieldLink "RemnantDictionary$Space" 51 "RemnantDictionary$Monomials" "count" "I" : Cond) ∈ gAll := gA3_in _ (List.mem_of_getElem? (i := 23) rfl)
theorem k_96 : (.fieldLink "RemnantDictionary$Space" 79 "RemnantDictionary$Monomials" "raised" "[I" : Cond) ∈ gAll := gA4_in _ (List.mem_of_getElem? (i := 0) rfl)
theorem k_97 : (.code y_Sp_loadProduct c_Sp_loadProductb 5 none : Cond) ∈ gAll := gA4_in _ (List.mem_of_getElem? (i := 1) rfl)
theorem k_98 : (.static y_Arrays_fill2 : Cond) ∈ gAll := gA4_in _ (List.mem_of_getElem? (i := 2) rfl)
theorem k_99 : (.methodLink "RemnantDictionary$Space" 73 y_Arrays_fill2 : Cond) ∈ gAll := gA4_in _ (List.mem_of_getElem? (i := 3) rfl)
theorem k_100 : (.instanceMethod y_Sp_absorbWork : Cond) ∈ gAll := gA4_in _ (List.mem_of_getElem? (i := 4) rfl)
theorem k_101 : (.selects "RemnantDictionary$Space" y_Sp_absorbWork y_Sp_absorbWork : Cond) ∈ gAll := gA4_in _ (List.mem_of_getElem? (i := 5) rfl)
theorem k_102 : (.methodLink "RemnantDictionary$Space" 59 y_Sp_absorbWork : Cond) ∈ gAll := gA4_in _ (List.mem_of_getElem? (i := 6) rfl)
theorem k_103 : (.code y_Sp_takes c_Sp_takesb 4 (some .boolean) : Cond) ∈ gAll := gA4_in _ (List.mem_of_getElem? (i := 7) rfl)
theorem k_104 : (.fieldLink "RemnantDictionary$Space" 56 "RemnantDictionary$Monomials" "degrees" "[I" : Cond) ∈ gAll := gA4_in _ (List.mem_of_getElem? (i := 8) rfl)
theorem k_105 : (.methodLink "RemnantDictionary$Space" 45 (⟨"java/lang/System", "arraycopy", "(Ljava/lang/Object;ILjava/lang/Object;II)V"⟩ : MethodName) : Cond) ∈ gAll := gA4_in _ (List.mem_of_getElem? (i := 9) rfl)
theorem k_106 : (.native (⟨"java/lang/System", "arraycopy", "(Ljava/lang/Object;ILjava/lang/Object;II)V"⟩ : MethodName) : Cond) ∈ gAll := gA4_in _ (List.mem_of_getElem? (i := 10) rfl)
theorem k_107 : (.static (⟨"java/lang/System", "arraycopy", "(Ljava/lang/Object;ILjava/lang/Object;II)V"⟩ : MethodName) : Cond) ∈ gAll := gA4_in _ (List.mem_of_getElem? (i := 11) rfl)
theorem k_108 : (.initialized "java/lang/System" : Cond) ∈ gAll := gA4_in _ (List.mem_of_getElem? (i := 12) rfl)
theorem k_109 : (.fieldLink "RemnantDictionary$Space" 66 "RemnantDictionary$Monomials" "variables" "I" : Cond) ∈ gAll := gA4_in _ (List.mem_of_getElem? (i := 13) rfl)
theorem k_110 : (.instanceMethod y_Sp_loadProduct : Cond) ∈ gAll := gA4_in _ (List.mem_of_getElem? (i := 14) rfl)
theorem k_111 : (.selects "RemnantDictionary$Space" y_Sp_loadProduct y_Sp_loadProduct : Cond) ∈ gAll := gA4_in _ (List.mem_of_getElem? (i := 15) rfl)
theorem k_112 : (.methodLink "RemnantDictionary$Space" 69 y_Sp_loadProduct : Cond) ∈ gAll := gA4_in _ (List.mem_of_getElem? (i := 16) rfl)
theorem k_113 : (.code y_Sp_close c_Sp_closeb 4 none : Cond) ∈ gAll := gA4_in _ (List.mem_of_getElem? (i := 17) rfl)
theorem k_114 : (.instanceMethod y_Sp_has1 : Cond) ∈ gAll := gA4_in _ (List.mem_of_getElem? (i := 18) rfl)
theorem k_115 : (.selects "RemnantDictionary$Space" y_Sp_has1 y_Sp_has1 : Cond) ∈ gAll := gA4_in _ (List.mem_of_getElem? (i := 19) rfl)
theorem k_116 : (.methodLink "RemnantDictionary$Space" 62 y_Sp_has1 : Cond) ∈ gAll := gA4_in _ (List.mem_of_getElem? (i := 20) rfl)
theorem k_117 : (.fieldLink "RemnantDictionary$Space" 97 "RemnantDictionary$Monomials" "codes" "[I" : Cond) ∈ gAll := gA4_in _ (List.mem_of_getElem? (i := 21) rfl)
theorem k_118 : (.fieldLink "RemnantDictionary$Space" 25 "RemnantDictionary$Space" "basis" "[I" : Cond) ∈ gAll := gA4_in _ (List.mem_of_getElem? (i := 22) rfl)
theorem k_119 : (.static y_RD_divides : Cond) ∈ gAll := gA4_in _ (List.mem_of_getElem? (i := 23) rfl)
theorem k_120 : (.code y_Sp_hasLeadThatDivides c_Sp_hasLeadThatDividesb 3 (some .boolean) : Cond) ∈ gAll := gA5_in _ (List.mem_of_getElem? (i := 0) rfl)
theorem k_121 : (.code y_Sp_clearTail c_Sp_clearTailb 5 none : Cond) ∈ gAll := gA5_in _ (List.mem_of_getElem? (i := 1) rfl)
theorem k_122 : (.instanceMethod y_Sp_hasLeadThatDivides : Cond) ∈ gAll := gA5_in _ (List.mem_of_getElem? (i := 2) rfl)
theorem k_123 : (.selects "RemnantDictionary$Space" y_Sp_hasLeadThatDivides y_Sp_hasLeadThatDivides : Cond) ∈ gAll := gA5_in _ (List.mem_of_getElem? (i := 3) rfl)
theorem k_124 : (.methodLink "RemnantDictionary$Space" 100 y_Sp_hasLeadThatDivides : Cond) ∈ gAll := gA5_in _ (List.mem_of_getElem? (i := 4) rfl)
theorem k_125 : (.instanceMethod y_Sp_clearTail : Cond) ∈ gAll := gA5_in _ (List.mem_of_getElem? (i := 5) rfl)
theorem k_126 : (.selects "RemnantDictionary$Space" y_Sp_clearTail y_Sp_clearTail : Cond) ∈ gAll := gA5_in _ (List.mem_of_getElem? (i := 6) rfl)
theorem k_127 : (.methodLink "RemnantDictionary$Space" 104 y_Sp_clearTail : Cond) ∈ gAll := gA5_in _ (List.mem_of_getElem? (i := 7) rfl)
theorem k_128 : (.code y_Sp_pickBasis c_Sp_pickBasisb 2 none : Cond) ∈ gAll := gA5_in _ (List.mem_of_getElem? (i := 8) rfl)
theorem k_129 : (.static y_RD_degreeOfCommonMultiple : Cond) ∈ gAll := gA5_in _ (List.mem_of_getElem? (i := 9) rfl)
theorem k_130 : (.code y_Sp_isComplete c_Sp_isCompleteb 5 (some .boolean) : Cond) ∈ gAll := gA5_in _ (List.mem_of_getElem? (i := 10) rfl)
theorem k_131 : (.code y_Sp_rankInBasis c_Sp_rankInBasisb 3 (some .int) : Cond) ∈ gAll := gA5_in _ (List.mem_of_getElem? (i := 11) rfl)
theorem k_132 : (.code y_Sp_purePower c_Sp_purePowerb 4 (some .int) : Cond) ∈ gAll := gA5_in _ (List.mem_of_getElem? (i := 12) rfl)
theorem k_133 : (.lays "RemnantDictionary$Remnant" "RemnantDictionary$Remnant" "prime" "I" : Cond) ∈ gAll := gA5_in _ (List.mem_of_getElem? (i := 13) rfl)
theorem k_134 : (.lays "RemnantDictionary$Remnant" "RemnantDictionary$Remnant" "variables" "I" : Cond) ∈ gAll := gA5_in _ (List.mem_of_getElem? (i := 14) rfl)
theorem k_135 : (.lays "RemnantDictionary$Remnant" "RemnantDictionary$Remnant" "size" "I" : Cond) ∈ gAll := gA5_in _ (List.mem_of_getElem? (i := 15) rfl)
theorem k_136 : (.laysFinal "RemnantDictionary$Remnant" "RemnantDictionary$Remnant" "codes" "[I" : Cond) ∈ gAll := gA5_in _ (List.mem_of_getElem? (i := 16) rfl)
theorem k_137 : (.laysFinal "RemnantDictionary$Remnant" "RemnantDictionary$Remnant" "products" "[I" : Cond) ∈ gAll := gA5_in _ (List.mem_of_getElem? (i := 17) rfl)
theorem k_138 : (.laysFinal "RemnantDictionary$Remnant" "RemnantDictionary$Remnant" "bounds" "[I" : Cond) ∈ gAll := gA5_in _ (List.mem_of_getElem? (i := 18) rfl)
theorem k_139 : (.laysFinal "RemnantDictionary$Remnant" "RemnantDictionary$Remnant" "pairs" "[I" : Cond) ∈ gAll := gA5_in _ (List.mem_of_getElem? (i := 19) rfl)
theorem k_140 : (.laysFinal "RemnantDictionary$Remnant" "RemnantDictionary$Remnant" "keys" "[J" : Cond) ∈ gAll := gA5_in _ (List.mem_of_getElem? (i := 20) rfl)
theorem k_141 : (.lays "RemnantDictionary$Remnant" "RemnantDictionary$Remnant" "pairCount" "I" : Cond) ∈ gAll := gA5_in _ (List.mem_of_getElem? (i := 21) rfl)
theorem k_142 : (.fieldLink "RemnantDictionary$Remnant" 28 "RemnantDictionary$Remnant" "size" "I" : Cond) ∈ gAll := gA5_in _ (List.mem_of_getElem? (i := 22) rfl)
theorem k_143 : (.code y_Re_forget c_Re_forgetb 1 none : Cond) ∈ gAll := gA5_in _ (List.mem_of_getElem? (i := 23) rfl)
theorem k_144 : (.fieldLink "RemnantDictionary$Remnant" 18 "RemnantDictionary$Remnant" "bounds" "[I" : Cond) ∈ gAll := gA6_in _ (List.mem_of_getElem? (i := 0) rfl)
theorem k_145 : (.code y_Re_setBounds c_Re_setBoundsb 3 (some .boolean) : Cond) ∈ gAll := gA6_in _ (List.mem_of_getElem? (i := 1) rfl)
theorem k_146 : (.fieldLink "RemnantDictionary$Remnant" 47 "RemnantDictionary$Remnant" "variables" "I" : Cond) ∈ gAll := gA6_in _ (List.mem_of_getElem? (i := 2) rfl)
theorem k_147 : (.instanceMethod y_Sp_purePower : Cond) ∈ gAll := gA6_in _ (List.mem_of_getElem? (i := 3) rfl)
theorem k_148 : (.selects "RemnantDictionary$Space" y_Sp_purePower y_Sp_purePower : Cond) ∈ gAll := gA6_in _ (List.mem_of_getElem? (i := 4) rfl)
theorem k_149 : (.methodLink "RemnantDictionary$Remnant" 58 y_Sp_purePower : Cond) ∈ gAll := gA6_in _ (List.mem_of_getElem? (i := 5) rfl)
theorem k_150 : (.fieldLink "RemnantDictionary$Remnant" 9 "RemnantDictionary$Remnant" "codes" "[I" : Cond) ∈ gAll := gA6_in _ (List.mem_of_getElem? (i := 6) rfl)
theorem k_151 : (.code y_Re_takes c_Re_takesb 6 (some .boolean) : Cond) ∈ gAll := gA6_in _ (List.mem_of_getElem? (i := 7) rfl)
theorem k_152 : (.methodLink "RemnantDictionary$Remnant" 62 y_Sp_hasLeadThatDivides : Cond) ∈ gAll := gA6_in _ (List.mem_of_getElem? (i := 8) rfl)
theorem k_153 : (.fieldLink "RemnantDictionary$Remnant" 38 "RemnantDictionary$Space" "monomials" "LRemnantDictionary$Monomials;" : Cond) ∈ gAll := gA6_in _ (List.mem_of_getElem? (i := 9) rfl)
theorem k_154 : (.fieldLink "RemnantDictionary$Remnant" 66 "RemnantDictionary$Monomials" "order" "I" : Cond) ∈ gAll := gA6_in _ (List.mem_of_getElem? (i := 10) rfl)
theorem k_155 : (.instanceMethod y_Re_takes : Cond) ∈ gAll := gA6_in _ (List.mem_of_getElem? (i := 11) rfl)
theorem k_156 : (.selects "RemnantDictionary$Remnant" y_Re_takes y_Re_takes : Cond) ∈ gAll := gA6_in _ (List.mem_of_getElem? (i := 12) rfl)
theorem k_157 : (.initialized "RemnantDictionary$Remnant" : Cond) ∈ gAll := gA6_in _ (List.mem_of_getElem? (i := 13) rfl)
theorem k_158 : (.methodLink "RemnantDictionary$Remnant" 69 y_Re_takes : Cond) ∈ gAll := gA6_in _ (List.mem_of_getElem? (i := 14) rfl)
theorem k_159 : (.code y_Re_gatherWithin c_Re_gatherWithinb 7 (some .boolean) : Cond) ∈ gAll := gA6_in _ (List.mem_of_getElem? (i := 15) rfl)
theorem k_160 : (.instanceMethod y_Re_forget : Cond) ∈ gAll := gA6_in _ (List.mem_of_getElem? (i := 16) rfl)
theorem k_161 : (.selects "RemnantDictionary$Remnant" y_Re_forget y_Re_forget : Cond) ∈ gAll := gA6_in _ (List.mem_of_getElem? (i := 17) rfl)
theorem k_162 : (.methodLink "RemnantDictionary$Remnant" 55 y_Re_forget : Cond) ∈ gAll := gA6_in _ (List.mem_of_getElem? (i := 18) rfl)
theorem k_163 : (.code y_Re_gather c_Re_gatherb 2 (some .boolean) : Cond) ∈ gAll := gA6_in _ (List.mem_of_getElem? (i := 19) rfl)
theorem k_164 : (.fieldLink "RemnantDictionary$Remnant" 32 "RemnantDictionary$Space" "prime" "I" : Cond) ∈ gAll := gA6_in _ (List.mem_of_getElem? (i := 20) rfl)
theorem k_165 : (.fieldLink "RemnantDictionary$Remnant" 37 "RemnantDictionary$Remnant" "prime" "I" : Cond) ∈ gAll := gA6_in _ (List.mem_of_getElem? (i := 21) rfl)
theorem k_166 : (.fieldLink "RemnantDictionary$Remnant" 42 "RemnantDictionary$Monomials" "variables" "I" : Cond) ∈ gAll := gA6_in _ (List.mem_of_getElem? (i := 22) rfl)
theorem k_167 : (.instanceMethod y_Re_setBounds : Cond) ∈ gAll := gA6_in _ (List.mem_of_getElem? (i := 23) rfl)
theorem k_168 : (.selects "RemnantDictionary$Remnant" y_Re_setBounds y_Re_setBounds : Cond) ∈ gAll := gA7_in _ (List.mem_of_getElem? (i := 0) rfl)
theorem k_169 : (.methodLink "RemnantDictionary$Remnant" 48 y_Re_setBounds : Cond) ∈ gAll := gA7_in _ (List.mem_of_getElem? (i := 1) rfl)
theorem k_170 : (.instanceMethod y_Re_gatherWithin : Cond) ∈ gAll := gA7_in _ (List.mem_of_getElem? (i := 2) rfl)
theorem k_171 : (.selects "RemnantDictionary$Remnant" y_Re_gatherWithin y_Re_gatherWithin : Cond) ∈ gAll := gA7_in _ (List.mem_of_getElem? (i := 3) rfl)
theorem k_172 : (.methodLink "RemnantDictionary$Remnant" 52 y_Re_gatherWithin : Cond) ∈ gAll := gA7_in _ (List.mem_of_getElem? (i := 4) rfl)
theorem k_173 : (.fieldLink "RemnantDictionary$Remnant" 24 "RemnantDictionary$Remnant" "keys" "[J" : Cond) ∈ gAll := gA7_in _ (List.mem_of_getElem? (i := 5) rfl)
theorem k_174 : (.fieldLink "RemnantDictionary$Remnant" 21 "RemnantDictionary$Remnant" "pairs" "[I" : Cond) ∈ gAll := gA7_in _ (List.mem_of_getElem? (i := 6) rfl)
theorem k_175 : (.fieldLink "RemnantDictionary$Remnant" 81 "RemnantDictionary$Remnant" "pairCount" "I" : Cond) ∈ gAll := gA7_in _ (List.mem_of_getElem? (i := 7) rfl)
theorem k_176 : (.code y_Re_insertPair c_Re_insertPairb 5 none : Cond) ∈ gAll := gA7_in _ (List.mem_of_getElem? (i := 8) rfl)
theorem k_177 : (.instanceMethod y_Re_insertPair : Cond) ∈ gAll := gA7_in _ (List.mem_of_getElem? (i := 9) rfl)
theorem k_178 : (.selects "RemnantDictionary$Remnant" y_Re_insertPair y_Re_insertPair : Cond) ∈ gAll := gA7_in _ (List.mem_of_getElem? (i := 10) rfl)
theorem k_179 : (.methodLink "RemnantDictionary$Remnant" 91 y_Re_insertPair : Cond) ∈ gAll := gA7_in _ (List.mem_of_getElem? (i := 11) rfl)
theorem k_180 : (.code y_Re_sortPairs c_Re_sortPairsb 4 none : Cond) ∈ gAll := gA7_in _ (List.mem_of_getElem? (i := 12) rfl)
theorem k_181 : (.code y_Re_placeOf c_Re_placeOfb 3 (some .int) : Cond) ∈ gAll := gA7_in _ (List.mem_of_getElem? (i := 13) rfl)
theorem k_182 : (.fieldLink "RemnantDictionary$Remnant" 15 "RemnantDictionary$Remnant" "products" "[I" : Cond) ∈ gAll := gA7_in _ (List.mem_of_getElem? (i := 14) rfl)
theorem k_183 : (.code y_Re_fillFromBasis c_Re_fillFromBasisb 7 none : Cond) ∈ gAll := gA7_in _ (List.mem_of_getElem? (i := 15) rfl)
theorem k_184 : (.fieldLink "RemnantDictionary$Remnant" 118 "RemnantDictionary$Space" "rows" "[I" : Cond) ∈ gAll := gA7_in _ (List.mem_of_getElem? (i := 16) rfl)
theorem k_185 : (.fieldLink "RemnantDictionary$Remnant" 121 "RemnantDictionary$Monomials" "codes" "[I" : Cond) ∈ gAll := gA7_in _ (List.mem_of_getElem? (i := 17) rfl)
theorem k_186 : (.instanceMethod y_Re_placeOf : Cond) ∈ gAll := gA7_in _ (List.mem_of_getElem? (i := 18) rfl)
theorem k_187 : (.selects "RemnantDictionary$Remnant" y_Re_placeOf y_Re_placeOf : Cond) ∈ gAll := gA7_in _ (List.mem_of_getElem? (i := 19) rfl)
theorem k_188 : (.methodLink "RemnantDictionary$Remnant" 105 y_Re_placeOf : Cond) ∈ gAll := gA7_in _ (List.mem_of_getElem? (i := 20) rfl)
theorem k_189 : (.static y_RD_productRow : Cond) ∈ gAll := gA7_in _ (List.mem_of_getElem? (i := 21) rfl)
theorem k_190 : (.code y_Re_act c_Re_actb 8 none : Cond) ∈ gAll := gA7_in _ (List.mem_of_getElem? (i := 22) rfl)
theorem k_191 : (.instanceMethod y_Re_act : Cond) ∈ gAll := gA7_in _ (List.mem_of_getElem? (i := 23) rfl)
theorem k_192 : (.selects "RemnantDictionary$Remnant" y_Re_act y_Re_act : Cond) ∈ gAll := gA8_in _ (List.mem_of_getElem? (i := 0) rfl)
theorem k_193 : (.methodLink "RemnantDictionary$Remnant" 125 y_Re_act : Cond) ∈ gAll := gA8_in _ (List.mem_of_getElem? (i := 1) rfl)
theorem k_194 : (.code y_Re_fillFromLesser c_Re_fillFromLesserb 7 none : Cond) ∈ gAll := gA8_in _ (List.mem_of_getElem? (i := 2) rfl)
theorem k_195 : (.methodLink "RemnantDictionary$Remnant" 99 y_Arrays_fill3 : Cond) ∈ gAll := gA8_in _ (List.mem_of_getElem? (i := 3) rfl)
theorem k_196 : (.instanceMethod y_Sp_rankInBasis : Cond) ∈ gAll := gA8_in _ (List.mem_of_getElem? (i := 4) rfl)
theorem k_197 : (.selects "RemnantDictionary$Space" y_Sp_rankInBasis y_Sp_rankInBasis : Cond) ∈ gAll := gA8_in _ (List.mem_of_getElem? (i := 5) rfl)
theorem k_198 : (.methodLink "RemnantDictionary$Remnant" 108 y_Sp_rankInBasis : Cond) ∈ gAll := gA8_in _ (List.mem_of_getElem? (i := 6) rfl)
theorem k_199 : (.instanceMethod y_Re_fillFromLesser : Cond) ∈ gAll := gA8_in _ (List.mem_of_getElem? (i := 7) rfl)
theorem k_200 : (.selects "RemnantDictionary$Remnant" y_Re_fillFromLesser y_Re_fillFromLesser : Cond) ∈ gAll := gA8_in _ (List.mem_of_getElem? (i := 8) rfl)
theorem k_201 : (.methodLink "RemnantDictionary$Remnant" 114 y_Re_fillFromLesser : Cond) ∈ gAll := gA8_in _ (List.mem_of_getElem? (i := 9) rfl)
theorem k_202 : (.instanceMethod y_Re_fillFromBasis : Cond) ∈ gAll := gA8_in _ (List.mem_of_getElem? (i := 10) rfl)
theorem k_203 : (.selects "RemnantDictionary$Remnant" y_Re_fillFromBasis y_Re_fillFromBasis : Cond) ∈ gAll := gA8_in _ (List.mem_of_getElem? (i := 11) rfl)
theorem k_204 : (.methodLink "RemnantDictionary$Remnant" 111 y_Re_fillFromBasis : Cond) ∈ gAll := gA8_in _ (List.mem_of_getElem? (i := 12) rfl)
theorem k_205 : (.code y_Re_fillProduct c_Re_fillProductb 8 none : Cond) ∈ gAll := gA8_in _ (List.mem_of_getElem? (i := 13) rfl)
theorem k_206 : (.instanceMethod y_Re_fillProduct : Cond) ∈ gAll := gA8_in _ (List.mem_of_getElem? (i := 14) rfl)
theorem k_207 : (.selects "RemnantDictionary$Remnant" y_Re_fillProduct y_Re_fillProduct : Cond) ∈ gAll := gA8_in _ (List.mem_of_getElem? (i := 15) rfl)
theorem k_208 : (.methodLink "RemnantDictionary$Remnant" 84 y_Re_fillProduct : Cond) ∈ gAll := gA8_in _ (List.mem_of_getElem? (i := 16) rfl)
theorem k_209 : (.code y_Re_multiply c_Re_multiplyb 3 none : Cond) ∈ gAll := gA8_in _ (List.mem_of_getElem? (i := 17) rfl)
theorem k_210 : (.instanceMethod y_Re_sortPairs : Cond) ∈ gAll := gA8_in _ (List.mem_of_getElem? (i := 18) rfl)
theorem k_211 : (.selects "RemnantDictionary$Remnant" y_Re_sortPairs y_Re_sortPairs : Cond) ∈ gAll := gA8_in _ (List.mem_of_getElem? (i := 19) rfl)
theorem k_212 : (.methodLink "RemnantDictionary$Remnant" 77 y_Re_sortPairs : Cond) ∈ gAll := gA8_in _ (List.mem_of_getElem? (i := 20) rfl)
theorem k_213 : (.lays "RemnantDictionary$Lexicon" "RemnantDictionary$Lexicon" "prime" "I" : Cond) ∈ gAll := gA8_in _ (List.mem_of_getElem? (i := 21) rfl)
theorem k_214 : (.lays "RemnantDictionary$Lexicon" "RemnantDictionary$Lexicon" "size" "I" : Cond) ∈ gAll := gA8_in _ (List.mem_of_getElem? (i := 22) rfl)
theorem k_215 : (.lays "RemnantDictionary$Lexicon" "RemnantDictionary$Lexicon" "count" "I" : Cond) ∈ gAll := gA8_in _ (List.mem_of_getElem? (i := 23) rfl)
theorem k_216 : (.laysFinal "RemnantDictionary$Lexicon" "RemnantDictionary$Lexicon" "heads" "[I" : Cond) ∈ gAll := gA9_in _ (List.mem_of_getElem? (i := 0) rfl)
theorem k_217 : (.laysFinal "RemnantDictionary$Lexicon" "RemnantDictionary$Lexicon" "tails" "[I" : Cond) ∈ gAll := gA9_in _ (List.mem_of_getElem? (i := 1) rfl)
theorem k_218 : (.laysFinal "RemnantDictionary$Lexicon" "RemnantDictionary$Lexicon" "standard" "[I" : Cond) ∈ gAll := gA9_in _ (List.mem_of_getElem? (i := 2) rfl)
theorem k_219 : (.lays "RemnantDictionary$Lexicon" "RemnantDictionary$Lexicon" "standardCount" "I" : Cond) ∈ gAll := gA9_in _ (List.mem_of_getElem? (i := 3) rfl)
theorem k_220 : (.laysFinal "RemnantDictionary$Lexicon" "RemnantDictionary$Lexicon" "images" "[I" : Cond) ∈ gAll := gA9_in _ (List.mem_of_getElem? (i := 4) rfl)
theorem k_221 : (.laysFinal "RemnantDictionary$Lexicon" "RemnantDictionary$Lexicon" "steps" "[I" : Cond) ∈ gAll := gA9_in _ (List.mem_of_getElem? (i := 5) rfl)
theorem k_222 : (.laysFinal "RemnantDictionary$Lexicon" "RemnantDictionary$Lexicon" "mixes" "[I" : Cond) ∈ gAll := gA9_in _ (List.mem_of_getElem? (i := 6) rfl)
theorem k_223 : (.laysFinal "RemnantDictionary$Lexicon" "RemnantDictionary$Lexicon" "pivots" "[I" : Cond) ∈ gAll := gA9_in _ (List.mem_of_getElem? (i := 7) rfl)
theorem k_224 : (.laysFinal "RemnantDictionary$Lexicon" "RemnantDictionary$Lexicon" "image" "[I" : Cond) ∈ gAll := gA9_in _ (List.mem_of_getElem? (i := 8) rfl)
theorem k_225 : (.laysFinal "RemnantDictionary$Lexicon" "RemnantDictionary$Lexicon" "rest" "[I" : Cond) ∈ gAll := gA9_in _ (List.mem_of_getElem? (i := 9) rfl)
theorem k_226 : (.laysFinal "RemnantDictionary$Lexicon" "RemnantDictionary$Lexicon" "mix" "[I" : Cond) ∈ gAll := gA9_in _ (List.mem_of_getElem? (i := 10) rfl)
theorem k_227 : (.fieldLink "RemnantDictionary$Lexicon" 42 "RemnantDictionary$Lexicon" "count" "I" : Cond) ∈ gAll := gA9_in _ (List.mem_of_getElem? (i := 11) rfl)
theorem k_228 : (.code y_Le_forget c_Le_forgetb 1 none : Cond) ∈ gAll := gA9_in _ (List.mem_of_getElem? (i := 12) rfl)
theorem k_229 : (.fieldLink "RemnantDictionary$Lexicon" 56 "RemnantDictionary$Lexicon" "standardCount" "I" : Cond) ∈ gAll := gA9_in _ (List.mem_of_getElem? (i := 13) rfl)
theorem k_230 : (.fieldLink "RemnantDictionary$Lexicon" 18 "RemnantDictionary$Lexicon" "standard" "[I" : Cond) ∈ gAll := gA9_in _ (List.mem_of_getElem? (i := 14) rfl)
theorem k_231 : (.code y_Le_leastProductAbove c_Le_leastProductAboveb 8 (some .int) : Cond) ∈ gAll := gA9_in _ (List.mem_of_getElem? (i := 15) rfl)
theorem k_232 : (.constant "RemnantDictionary$Lexicon" 90 2147483647 : Cond) ∈ gAll := gA9_in _ (List.mem_of_getElem? (i := 16) rfl)
theorem k_233 : (.fieldLink "RemnantDictionary$Lexicon" 9 "RemnantDictionary$Lexicon" "heads" "[I" : Cond) ∈ gAll := gA9_in _ (List.mem_of_getElem? (i := 17) rfl)
theorem k_234 : (.code y_Le_hasHeadThatDivides c_Le_hasHeadThatDividesb 3 (some .boolean) : Cond) ∈ gAll := gA9_in _ (List.mem_of_getElem? (i := 18) rfl)
theorem k_235 : (.fieldLink "RemnantDictionary$Lexicon" 36 "RemnantDictionary$Lexicon" "rest" "[I" : Cond) ∈ gAll := gA9_in _ (List.mem_of_getElem? (i := 19) rfl)
theorem k_236 : (.fieldLink "RemnantDictionary$Lexicon" 30 "RemnantDictionary$Lexicon" "pivots" "[I" : Cond) ∈ gAll := gA9_in _ (List.mem_of_getElem? (i := 20) rfl)
theorem k_237 : (.fieldLink "RemnantDictionary$Lexicon" 24 "RemnantDictionary$Lexicon" "steps" "[I" : Cond) ∈ gAll := gA9_in _ (List.mem_of_getElem? (i := 21) rfl)
theorem k_238 : (.fieldLink "RemnantDictionary$Lexicon" 55 "RemnantDictionary$Lexicon" "size" "I" : Cond) ∈ gAll := gA9_in _ (List.mem_of_getElem? (i := 22) rfl)
theorem k_239 : (.fieldLink "RemnantDictionary$Lexicon" 51 "RemnantDictionary$Lexicon" "prime" "I" : Cond) ∈ gAll := gA9_in _ (List.mem_of_getElem? (i := 23) rfl)
theorem k_240 : (.fieldLink "RemnantDictionary$Lexicon" 39 "RemnantDictionary$Lexicon" "mix" "[I" : Cond) ∈ gAll := gA10_in _ (List.mem_of_getElem? (i := 0) rfl)
theorem k_241 : (.fieldLink "RemnantDictionary$Lexicon" 27 "RemnantDictionary$Lexicon" "mixes" "[I" : Cond) ∈ gAll := gA10_in _ (List.mem_of_getElem? (i := 1) rfl)
theorem k_242 : (.code y_Le_reduceImage c_Le_reduceImageb 3 none : Cond) ∈ gAll := gA10_in _ (List.mem_of_getElem? (i := 2) rfl)
theorem k_243 : (.fieldLink "RemnantDictionary$Lexicon" 33 "RemnantDictionary$Lexicon" "image" "[I" : Cond) ∈ gAll := gA10_in _ (List.mem_of_getElem? (i := 3) rfl)
theorem k_244 : (.methodLink "RemnantDictionary$Lexicon" 109 (⟨"java/lang/System", "arraycopy", "(Ljava/lang/Object;ILjava/lang/Object;II)V"⟩ : MethodName) : Cond) ∈ gAll := gA10_in _ (List.mem_of_getElem? (i := 4) rfl)
theorem k_245 : (.methodLink "RemnantDictionary$Lexicon" 59 y_Arrays_fill2 : Cond) ∈ gAll := gA10_in _ (List.mem_of_getElem? (i := 5) rfl)
theorem k_246 : (.fieldLink "RemnantDictionary$Lexicon" 15 "RemnantDictionary$Lexicon" "tails" "[I" : Cond) ∈ gAll := gA10_in _ (List.mem_of_getElem? (i := 6) rfl)
theorem k_247 : (.code y_Le_addPolynomial c_Le_addPolynomialb 2 none : Cond) ∈ gAll := gA10_in _ (List.mem_of_getElem? (i := 7) rfl)
theorem k_248 : (.methodLink "RemnantDictionary$Lexicon" 122 y_Arrays_fill3 : Cond) ∈ gAll := gA10_in _ (List.mem_of_getElem? (i := 8) rfl)
theorem k_249 : (.fieldLink "RemnantDictionary$Lexicon" 21 "RemnantDictionary$Lexicon" "images" "[I" : Cond) ∈ gAll := gA10_in _ (List.mem_of_getElem? (i := 9) rfl)
theorem k_250 : (.code y_Le_addStandard c_Le_addStandardb 5 none : Cond) ∈ gAll := gA10_in _ (List.mem_of_getElem? (i := 10) rfl)
theorem k_251 : (.instanceMethod y_Le_reduceImage : Cond) ∈ gAll := gA10_in _ (List.mem_of_getElem? (i := 11) rfl)
theorem k_252 : (.selects "RemnantDictionary$Lexicon" y_Le_reduceImage y_Le_reduceImage : Cond) ∈ gAll := gA10_in _ (List.mem_of_getElem? (i := 12) rfl)
theorem k_253 : (.initialized "RemnantDictionary$Lexicon" : Cond) ∈ gAll := gA10_in _ (List.mem_of_getElem? (i := 13) rfl)
theorem k_254 : (.methodLink "RemnantDictionary$Lexicon" 95 y_Le_reduceImage : Cond) ∈ gAll := gA10_in _ (List.mem_of_getElem? (i := 14) rfl)
theorem k_255 : (.static y_RD_firstThatIsNot0 : Cond) ∈ gAll := gA10_in _ (List.mem_of_getElem? (i := 15) rfl)
theorem k_256 : (.instanceMethod y_Le_addStandard : Cond) ∈ gAll := gA10_in _ (List.mem_of_getElem? (i := 16) rfl)
theorem k_257 : (.selects "RemnantDictionary$Lexicon" y_Le_addStandard y_Le_addStandard : Cond) ∈ gAll := gA10_in _ (List.mem_of_getElem? (i := 17) rfl)
theorem k_258 : (.methodLink "RemnantDictionary$Lexicon" 105 y_Le_addStandard : Cond) ∈ gAll := gA10_in _ (List.mem_of_getElem? (i := 18) rfl)
theorem k_259 : (.instanceMethod y_Le_addPolynomial : Cond) ∈ gAll := gA10_in _ (List.mem_of_getElem? (i := 19) rfl)
theorem k_260 : (.selects "RemnantDictionary$Lexicon" y_Le_addPolynomial y_Le_addPolynomial : Cond) ∈ gAll := gA10_in _ (List.mem_of_getElem? (i := 20) rfl)
theorem k_261 : (.methodLink "RemnantDictionary$Lexicon" 102 y_Le_addPolynomial : Cond) ∈ gAll := gA10_in _ (List.mem_of_getElem? (i := 21) rfl)
theorem k_262 : (.code y_Le_place c_Le_placeb 3 none : Cond) ∈ gAll := gA10_in _ (List.mem_of_getElem? (i := 22) rfl)
theorem k_263 : (.fieldLink "RemnantDictionary$Lexicon" 69 "RemnantDictionary$Remnant" "variables" "I" : Cond) ∈ gAll := gA10_in _ (List.mem_of_getElem? (i := 23) rfl)
theorem k_264 : (.instanceMethod y_Le_leastProductAbove : Cond) ∈ gAll := gA11_in _ (List.mem_of_getElem? (i := 0) rfl)
theorem k_265 : (.selects "RemnantDictionary$Lexicon" y_Le_leastProductAbove y_Le_leastProductAbove : Cond) ∈ gAll := gA11_in _ (List.mem_of_getElem? (i := 1) rfl)
theorem k_266 : (.methodLink "RemnantDictionary$Lexicon" 72 y_Le_leastProductAbove : Cond) ∈ gAll := gA11_in _ (List.mem_of_getElem? (i := 2) rfl)
theorem k_267 : (.instanceMethod y_Le_hasHeadThatDivides : Cond) ∈ gAll := gA11_in _ (List.mem_of_getElem? (i := 3) rfl)
theorem k_268 : (.selects "RemnantDictionary$Lexicon" y_Le_hasHeadThatDivides y_Le_hasHeadThatDivides : Cond) ∈ gAll := gA11_in _ (List.mem_of_getElem? (i := 4) rfl)
theorem k_269 : (.methodLink "RemnantDictionary$Lexicon" 80 y_Le_hasHeadThatDivides : Cond) ∈ gAll := gA11_in _ (List.mem_of_getElem? (i := 5) rfl)
theorem k_270 : (.methodLink "RemnantDictionary$Lexicon" 84 y_Re_act : Cond) ∈ gAll := gA11_in _ (List.mem_of_getElem? (i := 6) rfl)
theorem k_271 : (.instanceMethod y_Le_place : Cond) ∈ gAll := gA11_in _ (List.mem_of_getElem? (i := 7) rfl)
theorem k_272 : (.selects "RemnantDictionary$Lexicon" y_Le_place y_Le_place : Cond) ∈ gAll := gA11_in _ (List.mem_of_getElem? (i := 8) rfl)
theorem k_273 : (.methodLink "RemnantDictionary$Lexicon" 65 y_Le_place : Cond) ∈ gAll := gA11_in _ (List.mem_of_getElem? (i := 9) rfl)
theorem k_274 : (.code y_Le_build c_Le_buildb 7 none : Cond) ∈ gAll := gA11_in _ (List.mem_of_getElem? (i := 10) rfl)
theorem k_275 : (.fieldLink "RemnantDictionary$Lexicon" 46 "RemnantDictionary$Remnant" "prime" "I" : Cond) ∈ gAll := gA11_in _ (List.mem_of_getElem? (i := 11) rfl)
theorem k_276 : (.fieldLink "RemnantDictionary$Lexicon" 52 "RemnantDictionary$Remnant" "size" "I" : Cond) ∈ gAll := gA11_in _ (List.mem_of_getElem? (i := 12) rfl)
theorem k_277 : (.code y_Le_tailTerm c_Le_tailTermb 5 (some .int) : Cond) ∈ gAll := gA11_in _ (List.mem_of_getElem? (i := 13) rfl)
theorem k_278 : (.lays "RemnantDictionary" "RemnantDictionary" "prime" "I" : Cond) ∈ gAll := gA11_in _ (List.mem_of_getElem? (i := 14) rfl)
theorem k_279 : (.lays "RemnantDictionary" "RemnantDictionary" "generatorCount" "I" : Cond) ∈ gAll := gA11_in _ (List.mem_of_getElem? (i := 15) rfl)
theorem k_280 : (.laysFinal "RemnantDictionary" "RemnantDictionary" "inHand" "[I" : Cond) ∈ gAll := gA11_in _ (List.mem_of_getElem? (i := 16) rfl)
theorem k_281 : (.laysFinal "RemnantDictionary" "RemnantDictionary" "generators" "[I" : Cond) ∈ gAll := gA11_in _ (List.mem_of_getElem? (i := 17) rfl)
theorem k_282 : (.laysFinal "RemnantDictionary" "RemnantDictionary" "monomials" "LRemnantDictionary$Monomials;" : Cond) ∈ gAll := gA11_in _ (List.mem_of_getElem? (i := 18) rfl)
theorem k_283 : (.laysFinal "RemnantDictionary" "RemnantDictionary" "space" "LRemnantDictionary$Space;" : Cond) ∈ gAll := gA11_in _ (List.mem_of_getElem? (i := 19) rfl)
theorem k_284 : (.laysFinal "RemnantDictionary" "RemnantDictionary" "remnant" "LRemnantDictionary$Remnant;" : Cond) ∈ gAll := gA11_in _ (List.mem_of_getElem? (i := 20) rfl)
theorem k_285 : (.laysFinal "RemnantDictionary" "RemnantDictionary" "lexicon" "LRemnantDictionary$Lexicon;" : Cond) ∈ gAll := gA11_in _ (List.mem_of_getElem? (i := 21) rfl)
theorem k_286 : (.fieldLink "RemnantDictionary" 90 "RemnantDictionary" "generatorCount" "I" : Cond) ∈ gAll := gA11_in _ (List.mem_of_getElem? (i := 22) rfl)
theorem k_287 : (.fieldLink "RemnantDictionary" 28 "RemnantDictionary" "space" "LRemnantDictionary$Space;" : Cond) ∈ gAll := gA11_in _ (List.mem_of_getElem? (i := 23) rfl)
theorem k_288 : (.instanceMethod y_Sp_close : Cond) ∈ gAll := gA12_in _ (List.mem_of_getElem? (i := 0) rfl)
theorem k_289 : (.selects "RemnantDictionary$Space" y_Sp_close y_Sp_close : Cond) ∈ gAll := gA12_in _ (List.mem_of_getElem? (i := 1) rfl)
theorem k_290 : (.methodLink "RemnantDictionary" 181 y_Sp_close : Cond) ∈ gAll := gA12_in _ (List.mem_of_getElem? (i := 2) rfl)
theorem k_291 : (.instanceMethod y_Sp_pickBasis : Cond) ∈ gAll := gA12_in _ (List.mem_of_getElem? (i := 3) rfl)
theorem k_292 : (.selects "RemnantDictionary$Space" y_Sp_pickBasis y_Sp_pickBasis : Cond) ∈ gAll := gA12_in _ (List.mem_of_getElem? (i := 4) rfl)
theorem k_293 : (.methodLink "RemnantDictionary" 184 y_Sp_pickBasis : Cond) ∈ gAll := gA12_in _ (List.mem_of_getElem? (i := 5) rfl)
theorem k_294 : (.instanceMethod y_Sp_isComplete : Cond) ∈ gAll := gA12_in _ (List.mem_of_getElem? (i := 6) rfl)
theorem k_295 : (.selects "RemnantDictionary$Space" y_Sp_isComplete y_Sp_isComplete : Cond) ∈ gAll := gA12_in _ (List.mem_of_getElem? (i := 7) rfl)
theorem k_296 : (.methodLink "RemnantDictionary" 187 y_Sp_isComplete : Cond) ∈ gAll := gA12_in _ (List.mem_of_getElem? (i := 8) rfl)
theorem k_297 : (.fieldLink "RemnantDictionary" 13 "RemnantDictionary" "generators" "[I" : Cond) ∈ gAll := gA12_in _ (List.mem_of_getElem? (i := 9) rfl)
theorem k_298 : (.instanceMethod y_Sp_takes : Cond) ∈ gAll := gA12_in _ (List.mem_of_getElem? (i := 10) rfl)
theorem k_299 : (.selects "RemnantDictionary$Space" y_Sp_takes y_Sp_takes : Cond) ∈ gAll := gA12_in _ (List.mem_of_getElem? (i := 11) rfl)
theorem k_300 : (.methodLink "RemnantDictionary" 177 y_Sp_takes : Cond) ∈ gAll := gA12_in _ (List.mem_of_getElem? (i := 12) rfl)
theorem k_301 : (.code y_RD_hasCompleteBasis c_RD_hasCompleteBasisb 3 (some .boolean) : Cond) ∈ gAll := gA12_in _ (List.mem_of_getElem? (i := 13) rfl)
theorem k_302 : (.fieldLink "RemnantDictionary" 46 "RemnantDictionary" "prime" "I" : Cond) ∈ gAll := gA12_in _ (List.mem_of_getElem? (i := 14) rfl)
theorem k_303 : (.instanceMethod y_Sp_start : Cond) ∈ gAll := gA12_in _ (List.mem_of_getElem? (i := 15) rfl)
theorem k_304 : (.selects "RemnantDictionary$Space" y_Sp_start y_Sp_start : Cond) ∈ gAll := gA12_in _ (List.mem_of_getElem? (i := 16) rfl)
theorem k_305 : (.methodLink "RemnantDictionary" 174 y_Sp_start : Cond) ∈ gAll := gA12_in _ (List.mem_of_getElem? (i := 17) rfl)
theorem k_306 : (.fieldLink "RemnantDictionary" 9 "RemnantDictionary" "inHand" "[I" : Cond) ∈ gAll := gA12_in _ (List.mem_of_getElem? (i := 18) rfl)
theorem k_307 : (.methodLink "RemnantDictionary" 104 y_Arrays_fill2 : Cond) ∈ gAll := gA12_in _ (List.mem_of_getElem? (i := 19) rfl)
theorem k_308 : (.code y_RD_clear c_RD_clearb 1 none : Cond) ∈ gAll := gA12_in _ (List.mem_of_getElem? (i := 20) rfl)
theorem k_309 : (.fieldLink "RemnantDictionary" 35 "RemnantDictionary" "remnant" "LRemnantDictionary$Remnant;" : Cond) ∈ gAll := gA12_in _ (List.mem_of_getElem? (i := 21) rfl)
theorem k_310 : (.fieldLink "RemnantDictionary" 144 "RemnantDictionary$Remnant" "size" "I" : Cond) ∈ gAll := gA12_in _ (List.mem_of_getElem? (i := 22) rfl)
theorem k_311 : (.fieldLink "RemnantDictionary" 147 "RemnantDictionary$Remnant" "codes" "[I" : Cond) ∈ gAll := gA12_in _ (List.mem_of_getElem? (i := 23) rfl)
theorem k_312 : (.code y_RD_left c_RD_leftb 2 (some .int) : Cond) ∈ gAll := gA13_in _ (List.mem_of_getElem? (i := 0) rfl)
theorem k_313 : (.fieldLink "RemnantDictionary" 150 "RemnantDictionary$Remnant" "variables" "I" : Cond) ∈ gAll := gA13_in _ (List.mem_of_getElem? (i := 1) rfl)
theorem k_314 : (.fieldLink "RemnantDictionary" 153 "RemnantDictionary$Remnant" "products" "[I" : Cond) ∈ gAll := gA13_in _ (List.mem_of_getElem? (i := 2) rfl)
theorem k_315 : (.methodLink "RemnantDictionary" 156 y_RD_productRow : Cond) ∈ gAll := gA13_in _ (List.mem_of_getElem? (i := 3) rfl)
theorem k_316 : (.code y_RD_times c_RD_timesb 4 (some .int) : Cond) ∈ gAll := gA13_in _ (List.mem_of_getElem? (i := 4) rfl)
theorem k_317 : (.fieldLink "RemnantDictionary" 42 "RemnantDictionary" "lexicon" "LRemnantDictionary$Lexicon;" : Cond) ∈ gAll := gA13_in _ (List.mem_of_getElem? (i := 5) rfl)
theorem k_318 : (.fieldLink "RemnantDictionary" 159 "RemnantDictionary$Lexicon" "count" "I" : Cond) ∈ gAll := gA13_in _ (List.mem_of_getElem? (i := 6) rfl)
theorem k_319 : (.code y_RD_dictionary c_RD_dictionaryb 1 (some .int) : Cond) ∈ gAll := gA13_in _ (List.mem_of_getElem? (i := 7) rfl)
theorem k_320 : (.instanceMethod y_Le_tailTerm : Cond) ∈ gAll := gA13_in _ (List.mem_of_getElem? (i := 8) rfl)
theorem k_321 : (.selects "RemnantDictionary$Lexicon" y_Le_tailTerm y_Le_tailTerm : Cond) ∈ gAll := gA13_in _ (List.mem_of_getElem? (i := 9) rfl)
theorem k_322 : (.methodLink "RemnantDictionary" 165 y_Le_tailTerm : Cond) ∈ gAll := gA13_in _ (List.mem_of_getElem? (i := 10) rfl)
theorem k_323 : (.fieldLink "RemnantDictionary" 171 "RemnantDictionary$Lexicon" "tails" "[I" : Cond) ∈ gAll := gA13_in _ (List.mem_of_getElem? (i := 11) rfl)
theorem k_324 : (.fieldLink "RemnantDictionary" 168 "RemnantDictionary$Lexicon" "standard" "[I" : Cond) ∈ gAll := gA13_in _ (List.mem_of_getElem? (i := 12) rfl)
theorem k_325 : (.fieldLink "RemnantDictionary" 162 "RemnantDictionary$Lexicon" "heads" "[I" : Cond) ∈ gAll := gA13_in _ (List.mem_of_getElem? (i := 13) rfl)
theorem k_326 : (.code y_RD_entry c_RD_entryb 5 (some .int) : Cond) ∈ gAll := gA13_in _ (List.mem_of_getElem? (i := 14) rfl)
theorem k_327 : (.fieldLink "RemnantDictionary" 19 "RemnantDictionary" "monomials" "LRemnantDictionary$Monomials;" : Cond) ∈ gAll := gA13_in _ (List.mem_of_getElem? (i := 15) rfl)
theorem k_328 : (.methodLink "RemnantDictionary" 72 y_Mo_rank : Cond) ∈ gAll := gA13_in _ (List.mem_of_getElem? (i := 16) rfl)
theorem k_329 : (.code y_RD_hand c_RD_handb 3 (some .int) : Cond) ∈ gAll := gA13_in _ (List.mem_of_getElem? (i := 17) rfl)
theorem k_330 : (.code y_Z_highest c_Z_highestb 1 (some .int) : Cond) ∈ gAll := gA13_in _ (List.mem_of_getElem? (i := 18) rfl)
theorem k_331 : (.code y_Z_exponent c_Z_exponentb 2 (some .int) : Cond) ∈ gAll := gA13_in _ (List.mem_of_getElem? (i := 19) rfl)
theorem k_332 : (.static y_Z_exponent : Cond) ∈ gAll := gA13_in _ (List.mem_of_getElem? (i := 20) rfl)
theorem k_333 : (.initialized "RemnantDictionaryModel" : Cond) ∈ gAll := gA13_in _ (List.mem_of_getElem? (i := 21) rfl)
theorem k_334 : (.methodLink "RemnantDictionaryModel" 106 y_Z_exponent : Cond) ∈ gAll := gA13_in _ (List.mem_of_getElem? (i := 22) rfl)
theorem k_335 : (.code y_Z_degreeOf c_Z_degreeOfb 1 (some .int) : Cond) ∈ gAll := gA13_in _ (List.mem_of_getElem? (i := 23) rfl)
theorem k_336 : (.code y_Z_divides c_Z_dividesb 3 (some .boolean) : Cond) ∈ gAll := gA14_in _ (List.mem_of_getElem? (i := 0) rfl)
theorem k_337 : (.code y_Z_prime c_Z_primeb 2 (some .boolean) : Cond) ∈ gAll := gA14_in _ (List.mem_of_getElem? (i := 1) rfl)
theorem k_338 : (.lays "RemnantDictionaryModel" "RemnantDictionaryModel" "thrownCode" "I" : Cond) ∈ gAll := gA14_in _ (List.mem_of_getElem? (i := 2) rfl)
theorem k_339 : (.lays "RemnantDictionaryModel" "RemnantDictionaryModel" "p" "I" : Cond) ∈ gAll := gA14_in _ (List.mem_of_getElem? (i := 3) rfl)
theorem k_340 : (.lays "RemnantDictionaryModel" "RemnantDictionaryModel" "n" "I" : Cond) ∈ gAll := gA14_in _ (List.mem_of_getElem? (i := 4) rfl)
theorem k_341 : (.lays "RemnantDictionaryModel" "RemnantDictionaryModel" "order" "I" : Cond) ∈ gAll := gA14_in _ (List.mem_of_getElem? (i := 5) rfl)
theorem k_342 : (.lays "RemnantDictionaryModel" "RemnantDictionaryModel" "monomials" "I" : Cond) ∈ gAll := gA14_in _ (List.mem_of_getElem? (i := 6) rfl)
theorem k_343 : (.laysFinal "RemnantDictionaryModel" "RemnantDictionaryModel" "mono" "[I" : Cond) ∈ gAll := gA14_in _ (List.mem_of_getElem? (i := 7) rfl)
theorem k_344 : (.laysFinal "RemnantDictionaryModel" "RemnantDictionaryModel" "degree" "[I" : Cond) ∈ gAll := gA14_in _ (List.mem_of_getElem? (i := 8) rfl)
theorem k_345 : (.lays "RemnantDictionaryModel" "RemnantDictionaryModel" "generators" "I" : Cond) ∈ gAll := gA14_in _ (List.mem_of_getElem? (i := 9) rfl)
theorem k_346 : (.laysFinal "RemnantDictionaryModel" "RemnantDictionaryModel" "generator" "[I" : Cond) ∈ gAll := gA14_in _ (List.mem_of_getElem? (i := 10) rfl)
theorem k_347 : (.laysFinal "RemnantDictionaryModel" "RemnantDictionaryModel" "hand" "[I" : Cond) ∈ gAll := gA14_in _ (List.mem_of_getElem? (i := 11) rfl)
theorem k_348 : (.lays "RemnantDictionaryModel" "RemnantDictionaryModel" "upTo" "I" : Cond) ∈ gAll := gA14_in _ (List.mem_of_getElem? (i := 12) rfl)
theorem k_349 : (.laysFinal "RemnantDictionaryModel" "RemnantDictionaryModel" "has" "[Z" : Cond) ∈ gAll := gA14_in _ (List.mem_of_getElem? (i := 13) rfl)
theorem k_350 : (.laysFinal "RemnantDictionaryModel" "RemnantDictionaryModel" "row" "[I" : Cond) ∈ gAll := gA14_in _ (List.mem_of_getElem? (i := 14) rfl)
theorem k_351 : (.laysFinal "RemnantDictionaryModel" "RemnantDictionaryModel" "work" "[I" : Cond) ∈ gAll := gA14_in _ (List.mem_of_getElem? (i := 15) rfl)
theorem k_352 : (.laysFinal "RemnantDictionaryModel" "RemnantDictionaryModel" "basis" "[I" : Cond) ∈ gAll := gA14_in _ (List.mem_of_getElem? (i := 16) rfl)
theorem k_353 : (.lays "RemnantDictionaryModel" "RemnantDictionaryModel" "members" "I" : Cond) ∈ gAll := gA14_in _ (List.mem_of_getElem? (i := 17) rfl)
theorem k_354 : (.lays "RemnantDictionaryModel" "RemnantDictionaryModel" "lefts" "I" : Cond) ∈ gAll := gA14_in _ (List.mem_of_getElem? (i := 18) rfl)
theorem k_355 : (.lays "RemnantDictionaryModel" "RemnantDictionaryModel" "vars" "I" : Cond) ∈ gAll := gA14_in _ (List.mem_of_getElem? (i := 19) rfl)
theorem k_356 : (.laysFinal "RemnantDictionaryModel" "RemnantDictionaryModel" "rest" "[I" : Cond) ∈ gAll := gA14_in _ (List.mem_of_getElem? (i := 20) rfl)
theorem k_357 : (.laysFinal "RemnantDictionaryModel" "RemnantDictionaryModel" "product" "[I" : Cond) ∈ gAll := gA14_in _ (List.mem_of_getElem? (i := 21) rfl)
theorem k_358 : (.laysFinal "RemnantDictionaryModel" "RemnantDictionaryModel" "known" "[Z" : Cond) ∈ gAll := gA14_in _ (List.mem_of_getElem? (i := 22) rfl)
theorem k_359 : (.lays "RemnantDictionaryModel" "RemnantDictionaryModel" "leadsFound" "I" : Cond) ∈ gAll := gA14_in _ (List.mem_of_getElem? (i := 23) rfl)
theorem k_360 : (.laysFinal "RemnantDictionaryModel" "RemnantDictionaryModel" "lead" "[I" : Cond) ∈ gAll := gA15_in _ (List.mem_of_getElem? (i := 0) rfl)
theorem k_361 : (.laysFinal "RemnantDictionaryModel" "RemnantDictionaryModel" "tail" "[I" : Cond) ∈ gAll := gA15_in _ (List.mem_of_getElem? (i := 1) rfl)
theorem k_362 : (.lays "RemnantDictionaryModel" "RemnantDictionaryModel" "words" "I" : Cond) ∈ gAll := gA15_in _ (List.mem_of_getElem? (i := 2) rfl)
theorem k_363 : (.laysFinal "RemnantDictionaryModel" "RemnantDictionaryModel" "word" "[I" : Cond) ∈ gAll := gA15_in _ (List.mem_of_getElem? (i := 3) rfl)
theorem k_364 : (.laysFinal "RemnantDictionaryModel" "RemnantDictionaryModel" "vector" "[I" : Cond) ∈ gAll := gA15_in _ (List.mem_of_getElem? (i := 4) rfl)
theorem k_365 : (.laysFinal "RemnantDictionaryModel" "RemnantDictionaryModel" "system" "[I" : Cond) ∈ gAll := gA15_in _ (List.mem_of_getElem? (i := 5) rfl)
theorem k_366 : (.laysFinal "RemnantDictionaryModel" "RemnantDictionaryModel" "now" "[I" : Cond) ∈ gAll := gA15_in _ (List.mem_of_getElem? (i := 6) rfl)
theorem k_367 : (.laysFinal "RemnantDictionaryModel" "RemnantDictionaryModel" "next" "[I" : Cond) ∈ gAll := gA15_in _ (List.mem_of_getElem? (i := 7) rfl)
theorem k_368 : (.fieldLink "RemnantDictionaryModel" 19 "RemnantDictionaryModel" "order" "I" : Cond) ∈ gAll := gA15_in _ (List.mem_of_getElem? (i := 8) rfl)
theorem k_369 : (.code y_Z_greater c_Z_greaterb 5 (some .boolean) : Cond) ∈ gAll := gA15_in _ (List.mem_of_getElem? (i := 9) rfl)
theorem k_370 : (.static y_Z_degreeOf : Cond) ∈ gAll := gA15_in _ (List.mem_of_getElem? (i := 10) rfl)
theorem k_371 : (.methodLink "RemnantDictionaryModel" 110 y_Z_degreeOf : Cond) ∈ gAll := gA15_in _ (List.mem_of_getElem? (i := 11) rfl)
theorem k_372 : (.fieldLink "RemnantDictionaryModel" 25 "RemnantDictionaryModel" "mono" "[I" : Cond) ∈ gAll := gA15_in _ (List.mem_of_getElem? (i := 12) rfl)
theorem k_373 : (.fieldLink "RemnantDictionaryModel" 22 "RemnantDictionaryModel" "monomials" "I" : Cond) ∈ gAll := gA15_in _ (List.mem_of_getElem? (i := 13) rfl)
theorem k_374 : (.code y_Z_put c_Z_putb 3 none : Cond) ∈ gAll := gA15_in _ (List.mem_of_getElem? (i := 14) rfl)
theorem k_375 : (.instanceMethod y_Z_greater : Cond) ∈ gAll := gA15_in _ (List.mem_of_getElem? (i := 15) rfl)
theorem k_376 : (.selects "RemnantDictionaryModel" y_Z_greater y_Z_greater : Cond) ∈ gAll := gA15_in _ (List.mem_of_getElem? (i := 16) rfl)
theorem k_377 : (.methodLink "RemnantDictionaryModel" 121 y_Z_greater : Cond) ∈ gAll := gA15_in _ (List.mem_of_getElem? (i := 17) rfl)
theorem k_378 : (.fieldLink "RemnantDictionaryModel" 29 "RemnantDictionaryModel" "degree" "[I" : Cond) ∈ gAll := gA15_in _ (List.mem_of_getElem? (i := 18) rfl)
theorem k_379 : (.fieldLink "RemnantDictionaryModel" 38 "RemnantDictionaryModel" "hand" "[I" : Cond) ∈ gAll := gA15_in _ (List.mem_of_getElem? (i := 19) rfl)
theorem k_380 : (.code y_Z_fresh c_Z_freshb 9 none : Cond) ∈ gAll := gA15_in _ (List.mem_of_getElem? (i := 20) rfl)
theorem k_381 : (.instanceMethod y_Z_put : Cond) ∈ gAll := gA15_in _ (List.mem_of_getElem? (i := 21) rfl)
theorem k_382 : (.selects "RemnantDictionaryModel" y_Z_put y_Z_put : Cond) ∈ gAll := gA15_in _ (List.mem_of_getElem? (i := 22) rfl)
theorem k_383 : (.methodLink "RemnantDictionaryModel" 117 y_Z_put : Cond) ∈ gAll := gA15_in _ (List.mem_of_getElem? (i := 23) rfl)
theorem k_384 : (.fieldLink "RemnantDictionaryModel" 16 "RemnantDictionaryModel" "n" "I" : Cond) ∈ gAll := gA16_in _ (List.mem_of_getElem? (i := 0) rfl)
theorem k_385 : (.fieldLink "RemnantDictionaryModel" 13 "RemnantDictionaryModel" "p" "I" : Cond) ∈ gAll := gA16_in _ (List.mem_of_getElem? (i := 1) rfl)
theorem k_386 : (.fieldLink "RemnantDictionaryModel" 32 "RemnantDictionaryModel" "generators" "I" : Cond) ∈ gAll := gA16_in _ (List.mem_of_getElem? (i := 2) rfl)
theorem k_387 : (.static y_Z_highest : Cond) ∈ gAll := gA16_in _ (List.mem_of_getElem? (i := 3) rfl)
theorem k_388 : (.methodLink "RemnantDictionaryModel" 114 y_Z_highest : Cond) ∈ gAll := gA16_in _ (List.mem_of_getElem? (i := 4) rfl)
theorem k_389 : (.code y_Z_placeOf c_Z_placeOfb 3 (some .int) : Cond) ∈ gAll := gA16_in _ (List.mem_of_getElem? (i := 5) rfl)
theorem k_390 : (.code y_Z_inverse c_Z_inverseb 7 (some .int) : Cond) ∈ gAll := gA16_in _ (List.mem_of_getElem? (i := 6) rfl)
theorem k_391 : (.fieldLink "RemnantDictionaryModel" 51 "RemnantDictionaryModel" "work" "[I" : Cond) ∈ gAll := gA16_in _ (List.mem_of_getElem? (i := 7) rfl)
theorem k_392 : (.fieldLink "RemnantDictionaryModel" 48 "RemnantDictionaryModel" "row" "[I" : Cond) ∈ gAll := gA16_in _ (List.mem_of_getElem? (i := 8) rfl)
theorem k_393 : (.code y_Z_takeRow c_Z_takeRowb 5 none : Cond) ∈ gAll := gA16_in _ (List.mem_of_getElem? (i := 9) rfl)
theorem k_394 : (.fieldLink "RemnantDictionaryModel" 44 "RemnantDictionaryModel" "has" "[Z" : Cond) ∈ gAll := gA16_in _ (List.mem_of_getElem? (i := 10) rfl)
theorem k_395 : (.instanceMethod y_Z_takeRow : Cond) ∈ gAll := gA16_in _ (List.mem_of_getElem? (i := 11) rfl)
theorem k_396 : (.selects "RemnantDictionaryModel" y_Z_takeRow y_Z_takeRow : Cond) ∈ gAll := gA16_in _ (List.mem_of_getElem? (i := 12) rfl)
theorem k_397 : (.methodLink "RemnantDictionaryModel" 125 y_Z_takeRow : Cond) ∈ gAll := gA16_in _ (List.mem_of_getElem? (i := 13) rfl)
theorem k_398 : (.code y_Z_reduce c_Z_reduceb 3 (some .int) : Cond) ∈ gAll := gA16_in _ (List.mem_of_getElem? (i := 14) rfl)
theorem k_399 : (.code y_Z_comes c_Z_comesb 5 (some .boolean) : Cond) ∈ gAll := gA16_in _ (List.mem_of_getElem? (i := 15) rfl)
theorem k_400 : (.instanceMethod y_Z_reduce : Cond) ∈ gAll := gA16_in _ (List.mem_of_getElem? (i := 16) rfl)
theorem k_401 : (.selects "RemnantDictionaryModel" y_Z_reduce y_Z_reduce : Cond) ∈ gAll := gA16_in _ (List.mem_of_getElem? (i := 17) rfl)
theorem k_402 : (.methodLink "RemnantDictionaryModel" 128 y_Z_reduce : Cond) ∈ gAll := gA16_in _ (List.mem_of_getElem? (i := 18) rfl)
theorem k_403 : (.instanceMethod y_Z_inverse : Cond) ∈ gAll := gA16_in _ (List.mem_of_getElem? (i := 19) rfl)
theorem k_404 : (.selects "RemnantDictionaryModel" y_Z_inverse y_Z_inverse : Cond) ∈ gAll := gA16_in _ (List.mem_of_getElem? (i := 20) rfl)
theorem k_405 : (.methodLink "RemnantDictionaryModel" 132 y_Z_inverse : Cond) ∈ gAll := gA16_in _ (List.mem_of_getElem? (i := 21) rfl)
theorem k_406 : (.instanceMethod y_Z_placeOf : Cond) ∈ gAll := gA16_in _ (List.mem_of_getElem? (i := 22) rfl)
theorem k_407 : (.selects "RemnantDictionaryModel" y_Z_placeOf y_Z_placeOf : Cond) ∈ gAll := gA16_in _ (List.mem_of_getElem? (i := 23) rfl)
theorem k_408 : (.methodLink "RemnantDictionaryModel" 135 y_Z_placeOf : Cond) ∈ gAll := gA17_in _ (List.mem_of_getElem? (i := 0) rfl)
theorem k_409 : (.code y_Z_multiplied c_Z_multipliedb 4 none : Cond) ∈ gAll := gA17_in _ (List.mem_of_getElem? (i := 1) rfl)
theorem k_410 : (.fieldLink "RemnantDictionaryModel" 35 "RemnantDictionaryModel" "generator" "[I" : Cond) ∈ gAll := gA17_in _ (List.mem_of_getElem? (i := 2) rfl)
theorem k_411 : (.code y_Z_degreeOfGenerator c_Z_degreeOfGeneratorb 4 (some .int) : Cond) ∈ gAll := gA17_in _ (List.mem_of_getElem? (i := 3) rfl)
theorem k_412 : (.code y_Z_clean c_Z_cleanb 3 none : Cond) ∈ gAll := gA17_in _ (List.mem_of_getElem? (i := 4) rfl)
theorem k_413 : (.instanceMethod y_Z_clean : Cond) ∈ gAll := gA17_in _ (List.mem_of_getElem? (i := 5) rfl)
theorem k_414 : (.selects "RemnantDictionaryModel" y_Z_clean y_Z_clean : Cond) ∈ gAll := gA17_in _ (List.mem_of_getElem? (i := 6) rfl)
theorem k_415 : (.methodLink "RemnantDictionaryModel" 149 y_Z_clean : Cond) ∈ gAll := gA17_in _ (List.mem_of_getElem? (i := 7) rfl)
theorem k_416 : (.code y_Z_findSpace c_Z_findSpaceb 5 none : Cond) ∈ gAll := gA17_in _ (List.mem_of_getElem? (i := 8) rfl)
theorem k_417 : (.instanceMethod y_Z_multiplied : Cond) ∈ gAll := gA17_in _ (List.mem_of_getElem? (i := 9) rfl)
theorem k_418 : (.selects "RemnantDictionaryModel" y_Z_multiplied y_Z_multiplied : Cond) ∈ gAll := gA17_in _ (List.mem_of_getElem? (i := 10) rfl)
theorem k_419 : (.methodLink "RemnantDictionaryModel" 145 y_Z_multiplied : Cond) ∈ gAll := gA17_in _ (List.mem_of_getElem? (i := 11) rfl)
theorem k_420 : (.instanceMethod y_Z_comes : Cond) ∈ gAll := gA17_in _ (List.mem_of_getElem? (i := 12) rfl)
theorem k_421 : (.selects "RemnantDictionaryModel" y_Z_comes y_Z_comes : Cond) ∈ gAll := gA17_in _ (List.mem_of_getElem? (i := 13) rfl)
theorem k_422 : (.methodLink "RemnantDictionaryModel" 141 y_Z_comes : Cond) ∈ gAll := gA17_in _ (List.mem_of_getElem? (i := 14) rfl)
theorem k_423 : (.instanceMethod y_Z_degreeOfGenerator : Cond) ∈ gAll := gA17_in _ (List.mem_of_getElem? (i := 15) rfl)
theorem k_424 : (.selects "RemnantDictionaryModel" y_Z_degreeOfGenerator y_Z_degreeOfGenerator : Cond) ∈ gAll := gA17_in _ (List.mem_of_getElem? (i := 16) rfl)
theorem k_425 : (.methodLink "RemnantDictionaryModel" 138 y_Z_degreeOfGenerator : Cond) ∈ gAll := gA17_in _ (List.mem_of_getElem? (i := 17) rfl)
theorem k_426 : (.code y_Z_complete c_Z_completeb 8 (some .boolean) : Cond) ∈ gAll := gA17_in _ (List.mem_of_getElem? (i := 18) rfl)
theorem k_427 : (.fieldLink "RemnantDictionaryModel" 41 "RemnantDictionaryModel" "upTo" "I" : Cond) ∈ gAll := gA17_in _ (List.mem_of_getElem? (i := 19) rfl)
theorem k_428 : (.fieldLink "RemnantDictionaryModel" 54 "RemnantDictionaryModel" "basis" "[I" : Cond) ∈ gAll := gA17_in _ (List.mem_of_getElem? (i := 20) rfl)
theorem k_429 : (.fieldLink "RemnantDictionaryModel" 57 "RemnantDictionaryModel" "members" "I" : Cond) ∈ gAll := gA17_in _ (List.mem_of_getElem? (i := 21) rfl)
theorem k_430 : (.fieldLink "RemnantDictionaryModel" 7 "RemnantDictionaryModel" "thrownCode" "I" : Cond) ∈ gAll := gA17_in _ (List.mem_of_getElem? (i := 22) rfl)
theorem k_431 : (.code y_Z_thrown c_Z_thrownb 1 (some .int) : Cond) ∈ gAll := gA17_in _ (List.mem_of_getElem? (i := 23) rfl)
theorem k_432 : (.instanceMethod y_Z_fresh : Cond) ∈ gAll := gA18_in _ (List.mem_of_getElem? (i := 0) rfl)
theorem k_433 : (.selects "RemnantDictionaryModel" y_Z_fresh y_Z_fresh : Cond) ∈ gAll := gA18_in _ (List.mem_of_getElem? (i := 1) rfl)
theorem k_434 : (.methodLink "RemnantDictionaryModel" 102 y_Z_fresh : Cond) ∈ gAll := gA18_in _ (List.mem_of_getElem? (i := 2) rfl)
theorem k_435 : (.code y_Z_field c_Z_fieldb 4 none : Cond) ∈ gAll := gA18_in _ (List.mem_of_getElem? (i := 3) rfl)
theorem k_436 : (.static y_Z_prime : Cond) ∈ gAll := gA18_in _ (List.mem_of_getElem? (i := 4) rfl)
theorem k_437 : (.methodLink "RemnantDictionaryModel" 152 y_Z_prime : Cond) ∈ gAll := gA18_in _ (List.mem_of_getElem? (i := 5) rfl)
theorem k_438 : (.code y_Z_coefficient c_Z_coefficientb 4 none : Cond) ∈ gAll := gA18_in _ (List.mem_of_getElem? (i := 6) rfl)
theorem k_439 : (.code y_Z_hand c_Z_handb 3 (some .int) : Cond) ∈ gAll := gA18_in _ (List.mem_of_getElem? (i := 7) rfl)
theorem k_440 : (.code y_Z_join c_Z_joinb 3 (some .int) : Cond) ∈ gAll := gA18_in _ (List.mem_of_getElem? (i := 8) rfl)
theorem k_441 : (.code y_Z_clear c_Z_clearb 2 none : Cond) ∈ gAll := gA18_in _ (List.mem_of_getElem? (i := 9) rfl)
theorem k_442 : (.static y_Z_divides : Cond) ∈ gAll := gA18_in _ (List.mem_of_getElem? (i := 10) rfl)
theorem k_443 : (.methodLink "RemnantDictionaryModel" 156 y_Z_divides : Cond) ∈ gAll := gA18_in _ (List.mem_of_getElem? (i := 11) rfl)
theorem k_444 : (.code y_Z_leading c_Z_leadingb 3 (some .boolean) : Cond) ∈ gAll := gA18_in _ (List.mem_of_getElem? (i := 12) rfl)
theorem k_445 : (.fieldLink "RemnantDictionaryModel" 60 "RemnantDictionaryModel" "lefts" "I" : Cond) ∈ gAll := gA18_in _ (List.mem_of_getElem? (i := 13) rfl)
theorem k_446 : (.fieldLink "RemnantDictionaryModel" 66 "RemnantDictionaryModel" "rest" "[I" : Cond) ∈ gAll := gA18_in _ (List.mem_of_getElem? (i := 14) rfl)
theorem k_447 : (.code y_Z_restOf c_Z_restOfb 3 (some .int) : Cond) ∈ gAll := gA18_in _ (List.mem_of_getElem? (i := 15) rfl)
theorem k_448 : (.instanceMethod y_Z_leading : Cond) ∈ gAll := gA18_in _ (List.mem_of_getElem? (i := 16) rfl)
theorem k_449 : (.selects "RemnantDictionaryModel" y_Z_leading y_Z_leading : Cond) ∈ gAll := gA18_in _ (List.mem_of_getElem? (i := 17) rfl)
theorem k_450 : (.methodLink "RemnantDictionaryModel" 159 y_Z_leading : Cond) ∈ gAll := gA18_in _ (List.mem_of_getElem? (i := 18) rfl)
theorem k_451 : (.code y_Z_findRest c_Z_findRestb 6 (some .boolean) : Cond) ∈ gAll := gA18_in _ (List.mem_of_getElem? (i := 19) rfl)
theorem k_452 : (.fieldLink "RemnantDictionaryModel" 69 "RemnantDictionaryModel" "product" "[I" : Cond) ∈ gAll := gA18_in _ (List.mem_of_getElem? (i := 20) rfl)
theorem k_453 : (.code y_Z_findProduct c_Z_findProductb 11 none : Cond) ∈ gAll := gA18_in _ (List.mem_of_getElem? (i := 21) rfl)
theorem k_454 : (.instanceMethod y_Z_restOf : Cond) ∈ gAll := gA18_in _ (List.mem_of_getElem? (i := 22) rfl)
theorem k_455 : (.selects "RemnantDictionaryModel" y_Z_restOf y_Z_restOf : Cond) ∈ gAll := gA18_in _ (List.mem_of_getElem? (i := 23) rfl)
theorem k_456 : (.methodLink "RemnantDictionaryModel" 162 y_Z_restOf : Cond) ∈ gAll := gA19_in _ (List.mem_of_getElem? (i := 0) rfl)
theorem k_457 : (.fieldLink "RemnantDictionaryModel" 72 "RemnantDictionaryModel" "known" "[Z" : Cond) ∈ gAll := gA19_in _ (List.mem_of_getElem? (i := 1) rfl)
theorem k_458 : (.instanceMethod y_Z_findProduct : Cond) ∈ gAll := gA19_in _ (List.mem_of_getElem? (i := 2) rfl)
theorem k_459 : (.selects "RemnantDictionaryModel" y_Z_findProduct y_Z_findProduct : Cond) ∈ gAll := gA19_in _ (List.mem_of_getElem? (i := 3) rfl)
theorem k_460 : (.methodLink "RemnantDictionaryModel" 165 y_Z_findProduct : Cond) ∈ gAll := gA19_in _ (List.mem_of_getElem? (i := 4) rfl)
theorem k_461 : (.code y_Z_findProducts c_Z_findProductsb 6 none : Cond) ∈ gAll := gA19_in _ (List.mem_of_getElem? (i := 5) rfl)
theorem k_462 : (.fieldLink "RemnantDictionaryModel" 96 "RemnantDictionaryModel" "now" "[I" : Cond) ∈ gAll := gA19_in _ (List.mem_of_getElem? (i := 6) rfl)
theorem k_463 : (.fieldLink "RemnantDictionaryModel" 99 "RemnantDictionaryModel" "next" "[I" : Cond) ∈ gAll := gA19_in _ (List.mem_of_getElem? (i := 7) rfl)
theorem k_464 : (.code y_Z_comesTo c_Z_comesTob 8 none : Cond) ∈ gAll := gA19_in _ (List.mem_of_getElem? (i := 8) rfl)
theorem k_465 : (.fieldLink "RemnantDictionaryModel" 84 "RemnantDictionaryModel" "words" "I" : Cond) ∈ gAll := gA19_in _ (List.mem_of_getElem? (i := 9) rfl)
theorem k_466 : (.fieldLink "RemnantDictionaryModel" 93 "RemnantDictionaryModel" "system" "[I" : Cond) ∈ gAll := gA19_in _ (List.mem_of_getElem? (i := 10) rfl)
theorem k_467 : (.code y_Z_solved c_Z_solvedb 11 (some .boolean) : Cond) ∈ gAll := gA19_in _ (List.mem_of_getElem? (i := 11) rfl)
theorem k_468 : (.fieldLink "RemnantDictionaryModel" 90 "RemnantDictionaryModel" "vector" "[I" : Cond) ∈ gAll := gA19_in _ (List.mem_of_getElem? (i := 12) rfl)
theorem k_469 : (.code y_Z_tries c_Z_triesb 3 none : Cond) ∈ gAll := gA19_in _ (List.mem_of_getElem? (i := 13) rfl)
theorem k_470 : (.fieldLink "RemnantDictionaryModel" 75 "RemnantDictionaryModel" "leadsFound" "I" : Cond) ∈ gAll := gA19_in _ (List.mem_of_getElem? (i := 14) rfl)
theorem k_471 : (.fieldLink "RemnantDictionaryModel" 81 "RemnantDictionaryModel" "tail" "[I" : Cond) ∈ gAll := gA19_in _ (List.mem_of_getElem? (i := 15) rfl)
theorem k_472 : (.instanceMethod y_Z_comesTo : Cond) ∈ gAll := gA19_in _ (List.mem_of_getElem? (i := 16) rfl)
theorem k_473 : (.selects "RemnantDictionaryModel" y_Z_comesTo y_Z_comesTo : Cond) ∈ gAll := gA19_in _ (List.mem_of_getElem? (i := 17) rfl)
theorem k_474 : (.methodLink "RemnantDictionaryModel" 168 y_Z_comesTo : Cond) ∈ gAll := gA19_in _ (List.mem_of_getElem? (i := 18) rfl)
theorem k_475 : (.instanceMethod y_Z_solved : Cond) ∈ gAll := gA19_in _ (List.mem_of_getElem? (i := 19) rfl)
theorem k_476 : (.selects "RemnantDictionaryModel" y_Z_solved y_Z_solved : Cond) ∈ gAll := gA19_in _ (List.mem_of_getElem? (i := 20) rfl)
theorem k_477 : (.methodLink "RemnantDictionaryModel" 171 y_Z_solved : Cond) ∈ gAll := gA19_in _ (List.mem_of_getElem? (i := 21) rfl)
theorem k_478 : (.fieldLink "RemnantDictionaryModel" 87 "RemnantDictionaryModel" "word" "[I" : Cond) ∈ gAll := gA19_in _ (List.mem_of_getElem? (i := 22) rfl)
theorem k_479 : (.fieldLink "RemnantDictionaryModel" 78 "RemnantDictionaryModel" "lead" "[I" : Cond) ∈ gAll := gA19_in _ (List.mem_of_getElem? (i := 23) rfl)
theorem k_480 : (.code y_Z_behindLead c_Z_behindLeadb 3 (some .boolean) : Cond) ∈ gAll := gA20_in _ (List.mem_of_getElem? (i := 0) rfl)
theorem k_481 : (.code y_Z_findDictionary c_Z_findDictionaryb 4 none : Cond) ∈ gAll := gA20_in _ (List.mem_of_getElem? (i := 1) rfl)
theorem k_482 : (.instanceMethod y_Z_behindLead : Cond) ∈ gAll := gA20_in _ (List.mem_of_getElem? (i := 2) rfl)
theorem k_483 : (.selects "RemnantDictionaryModel" y_Z_behindLead y_Z_behindLead : Cond) ∈ gAll := gA20_in _ (List.mem_of_getElem? (i := 3) rfl)
theorem k_484 : (.methodLink "RemnantDictionaryModel" 177 y_Z_behindLead : Cond) ∈ gAll := gA20_in _ (List.mem_of_getElem? (i := 4) rfl)
theorem k_485 : (.instanceMethod y_Z_tries : Cond) ∈ gAll := gA20_in _ (List.mem_of_getElem? (i := 5) rfl)
theorem k_486 : (.selects "RemnantDictionaryModel" y_Z_tries y_Z_tries : Cond) ∈ gAll := gA20_in _ (List.mem_of_getElem? (i := 6) rfl)
theorem k_487 : (.methodLink "RemnantDictionaryModel" 174 y_Z_tries : Cond) ∈ gAll := gA20_in _ (List.mem_of_getElem? (i := 7) rfl)
theorem k_488 : (.code y_Z_find c_Z_findb 5 (some .int) : Cond) ∈ gAll := gA20_in _ (List.mem_of_getElem? (i := 8) rfl)
theorem k_489 : (.instanceMethod y_Z_complete : Cond) ∈ gAll := gA20_in _ (List.mem_of_getElem? (i := 9) rfl)
theorem k_490 : (.selects "RemnantDictionaryModel" y_Z_complete y_Z_complete : Cond) ∈ gAll := gA20_in _ (List.mem_of_getElem? (i := 10) rfl)
theorem k_491 : (.methodLink "RemnantDictionaryModel" 183 y_Z_complete : Cond) ∈ gAll := gA20_in _ (List.mem_of_getElem? (i := 11) rfl)
theorem k_492 : (.instanceMethod y_Z_findRest : Cond) ∈ gAll := gA20_in _ (List.mem_of_getElem? (i := 12) rfl)
theorem k_493 : (.selects "RemnantDictionaryModel" y_Z_findRest y_Z_findRest : Cond) ∈ gAll := gA20_in _ (List.mem_of_getElem? (i := 13) rfl)
theorem k_494 : (.methodLink "RemnantDictionaryModel" 186 y_Z_findRest : Cond) ∈ gAll := gA20_in _ (List.mem_of_getElem? (i := 14) rfl)
theorem k_495 : (.fieldLink "RemnantDictionaryModel" 63 "RemnantDictionaryModel" "vars" "I" : Cond) ∈ gAll := gA20_in _ (List.mem_of_getElem? (i := 15) rfl)
theorem k_496 : (.instanceMethod y_Z_findProducts : Cond) ∈ gAll := gA20_in _ (List.mem_of_getElem? (i := 16) rfl)
theorem k_497 : (.selects "RemnantDictionaryModel" y_Z_findProducts y_Z_findProducts : Cond) ∈ gAll := gA20_in _ (List.mem_of_getElem? (i := 17) rfl)
theorem k_498 : (.methodLink "RemnantDictionaryModel" 189 y_Z_findProducts : Cond) ∈ gAll := gA20_in _ (List.mem_of_getElem? (i := 18) rfl)
theorem k_499 : (.instanceMethod y_Z_findDictionary : Cond) ∈ gAll := gA20_in _ (List.mem_of_getElem? (i := 19) rfl)
theorem k_500 : (.selects "RemnantDictionaryModel" y_Z_findDictionary y_Z_findDictionary : Cond) ∈ gAll := gA20_in _ (List.mem_of_getElem? (i := 20) rfl)
theorem k_501 : (.methodLink "RemnantDictionaryModel" 192 y_Z_findDictionary : Cond) ∈ gAll := gA20_in _ (List.mem_of_getElem? (i := 21) rfl)
theorem k_502 : (.instanceMethod y_Z_findSpace : Cond) ∈ gAll := gA20_in _ (List.mem_of_getElem? (i := 22) rfl)
theorem k_503 : (.selects "RemnantDictionaryModel" y_Z_findSpace y_Z_findSpace : Cond) ∈ gAll := gA20_in _ (List.mem_of_getElem? (i := 23) rfl)
theorem k_504 : (.methodLink "RemnantDictionaryModel" 180 y_Z_findSpace : Cond) ∈ gAll := gA21_in _ (List.mem_of_getElem? (i := 0) rfl)
theorem k_505 : (.code y_Z_left c_Z_leftb 2 (some .int) : Cond) ∈ gAll := gA21_in _ (List.mem_of_getElem? (i := 1) rfl)
theorem k_506 : (.code y_Z_times c_Z_timesb 5 (some .int) : Cond) ∈ gAll := gA21_in _ (List.mem_of_getElem? (i := 2) rfl)
theorem k_507 : (.code y_Z_dictionary c_Z_dictionaryb 1 (some .int) : Cond) ∈ gAll := gA21_in _ (List.mem_of_getElem? (i := 3) rfl)
theorem k_508 : (.code y_Z_entry c_Z_entryb 6 (some .int) : Cond) ∈ gAll := gA21_in _ (List.mem_of_getElem? (i := 4) rfl)
theorem gA0_good : gA0.all goodWord = true := by decide +kernel
theorem gA1_good : gA1.all goodWord = true := by decide +kernel
theorem gA2_good : gA2.all goodWord = true := by decide +kernel
theorem gA3_good : gA3.all goodWord = true := by decide +kernel
theorem gA4_good : gA4.all goodWord = true := by decide +kernel
theorem gA5_good : gA5.all goodWord = true := by decide +kernel
theorem gA6_good : gA6.all goodWord = true := by decide +kernel
theorem gA7_good : gA7.all goodWord = true := by decide +kernel
theorem gA8_good : gA8.all goodWord = true := by decide +kernel
theorem gA9_good : gA9.all goodWord = true := by decide +kernel
theorem gA10_good : gA10.all goodWord = true := by decide +kernel
theorem gA11_good : gA11.all goodWord = true := by decide +kernel
theorem gA12_good : gA12.all goodWord = true := by decide +kernel
theorem gA13_good : gA13.all goodWord = true := by decide +kernel
theorem gA14_good : gA14.all goodWord = true := by decide +kernel
theorem gA15_good : gA15.all goodWord = true := by decide +kernel
theorem gA16_good : gA16.all goodWord = true := by decide +kernel
theorem gA17_good : gA17.all goodWord = true := by decide +kernel
theorem gA18_good : gA18.all goodWord = true := by decide +kernel
theorem gA19_good : gA19.all goodWord = true := by decide +kernel
theorem gA20_good : gA20.all goodWord = true := by decide +kernel
theorem gA21_good : gA21.all goodWord = true := by decide +kernel
theorem gAll_all : ∀ w ∈ gAll, goodWord w = true := fun w h => (List.mem_append.mp h).elim (fun h => List.all_eq_true.mp gA0_good w h) (fun h => (List.mem_append.mp h).elim (fun h => List.all_eq_true.mp gA1_good w h) (fun h => (List.mem_append.mp h).elim (fun h => List.all_eq_true.mp gA2_good w h) (fun h => (List.mem_append.mp h).elim (fun h => List.all_eq_true.mp gA3_good w h) (fun h => (List.mem_append.mp h).elim (fun h => List.all_eq_true.mp gA4_good w h) (fun h => (List.mem_append.mp h).elim (fun h => List.all_eq_true.mp gA5_good w h) (fun h => (List.mem_append.mp h).elim (fun h => List.all_eq_true.mp gA6_good w h) (fun h => (List.mem_append.mp h).elim (fun h => List.all_eq_true.mp gA7_good w h) (fun h => (List.mem_append.mp h).elim (fun h => List.all_eq_true.mp gA8_good w h) (fun h => (List.mem_append.mp h).elim (fun h => List.all_eq_true.mp gA9_good w h) (fun h => (List.mem_append.mp h).elim (fun h => List.all_eq_true.mp gA10_good w h) (fun h => (List.mem_append.mp h).elim (fun h => List.all_eq_true.mp gA11_good w h) (fun h => (List.mem_append.mp h).elim (fun h => List.all_eq_true.mp gA12_good w h) (fun h => (List.mem_append.mp h).elim (fun h => List.all_eq_true.mp gA13_good w h) (fun h => (List.mem_append.mp h).elim (fun h => List.all_eq_true.mp gA14_good w h) (fun h => (List.mem_append.mp h).elim (fun h => List.all_eq_true.mp gA15_good w h) (fun h => (List.mem_append.mp h).elim (fun h => List.all_eq_true.mp gA16_good w h) (fun h => (List.mem_append.mp h).elim (fun h => List.all_eq_true.mp gA17_good w h) (fun h => (List.mem_append.mp h).elim (fun h => List.all_eq_true.mp gA18_good w h) (fun h => (List.mem_append.mp h).elim (fun h => List.all_eq_true.mp gA19_good w h) (fun h => (List.mem_append.mp h).elim (fun h => List.all_eq_true.mp gA20_good w h) (fun h => List.all_eq_true.mp gA21_good w h)))))))))))))))))))))
theorem gGood : ∀ w ∈ gAll, (w.onTables && w.keeps) = true ∨ ∃ ty, w = .arrayClass ty := fun w h => good_of_word (gAll_all w h)
set_option maxRecDepth 100000 in
theorem gA0_tbl : GoodIn lw_tbl gA0 := goodIn_p _ [516, 327, 513, 442, 361, 759, 762, 453, 286, 281, 278, 786, 574, 797] (by decide +kernel) (by decide +kernel)
set_option maxRecDepth 100000 in
theorem gA1_tbl : GoodIn lw_tbl gA1 := goodIn_p _ [275, 338, 268, 272, 290] (by decide +kernel) (by decide +kernel)
set_option maxRecDepth 100000 in
theorem gA2_tbl : GoodIn lw_tbl gA2 := goodIn_p _ [264, 258] (by decide +kernel) (by decide +kernel)
set_option maxRecDepth 100000 in
theorem gA3_tbl : GoodIn lw_tbl gA3 := goodIn_p _ [770, 497, 510, 506] (by decide +kernel) (by decide +kernel)
set_option maxRecDepth 100000 in
theorem gA4_tbl : GoodIn lw_tbl gA4 := goodIn_p _ [774, 501, 766] (by decide +kernel) (by decide +kernel)
set_option maxRecDepth 100000 in
theorem gA5_tbl : GoodIn lw_tbl gA5 := goodIn_p _ [783, 790, 779, 794, 854, 813, 485] (by decide +kernel) (by decide +kernel)
set_option maxRecDepth 100000 in
theorem gA6_tbl : GoodIn lw_tbl gA6 := goodIn_p _ [809, 824, 819, 805] (by decide +kernel) (by decide +kernel)
set_option maxRecDepth 100000 in
theorem gA7_tbl : GoodIn lw_tbl gA7 := goodIn_p _ [840, 835, 850, 858, 867] (by decide +kernel) (by decide +kernel)
set_option maxRecDepth 100000 in
theorem gA8_tbl : GoodIn lw_tbl gA8 := goodIn_p _ [862, 844, 831] (by decide +kernel) (by decide +kernel)
set_option maxRecDepth 100000 in
theorem gA9_tbl : GoodIn lw_tbl gA9 := goodIn_p _ [489, 898, 904] (by decide +kernel) (by decide +kernel)
set_option maxRecDepth 100000 in
theorem gA10_tbl : GoodIn lw_tbl gA10 := goodIn_p _ [881, 888, 892, 877] (by decide +kernel) (by decide +kernel)
set_option maxRecDepth 100000 in
theorem gA11_tbl : GoodIn lw_tbl gA11 := goodIn_p _ [872, 350] (by decide +kernel) (by decide +kernel)
set_option maxRecDepth 100000 in
theorem gA12_tbl : GoodIn lw_tbl gA12 := goodIn_p _ [493, 324] (by decide +kernel) (by decide +kernel)
set_option maxRecDepth 100000 in
theorem gA13_tbl : GoodIn lw_tbl gA13 := goodIn_p _ [331, 335, 342, 346, 319, 919, 933, 930] (by decide +kernel) (by decide +kernel)
set_option maxRecDepth 100000 in
theorem gA14_tbl : GoodIn lw_tbl gA14 := goodIn_p _ [1094, 1035] (by decide +kernel) (by decide +kernel)
set_option maxRecDepth 100000 in
theorem gA15_tbl : GoodIn lw_tbl gA15 := goodIn_p _ [927, 923, 916] (by decide +kernel) (by decide +kernel)
set_option maxRecDepth 100000 in
theorem gA16_tbl : GoodIn lw_tbl gA16 := goodIn_p _ [1043, 1083, 1079, 1075, 1071] (by decide +kernel) (by decide +kernel)
set_option maxRecDepth 100000 in
theorem gA17_tbl : GoodIn lw_tbl gA17 := goodIn_p _ [1087, 1067, 1091, 1063, 1098, 1028] (by decide +kernel) (by decide +kernel)
set_option maxRecDepth 100000 in
theorem gA18_tbl : GoodIn lw_tbl gA18 := goodIn_p _ [1032, 1039, 1047, 1051, 1055, 1106, 1118, 1102, 1114] (by decide +kernel) (by decide +kernel)
set_option maxRecDepth 100000 in
theorem gA19_tbl : GoodIn lw_tbl gA19 := goodIn_p _ [1110, 1130, 1134, 1126] (by decide +kernel) (by decide +kernel)
set_option maxRecDepth 100000 in
theorem gA20_tbl : GoodIn lw_tbl gA20 := goodIn_p _ [1138, 1122, 1059] (by decide +kernel) (by decide +kernel)
set_option maxRecDepth 100000 in
theorem gA21_tbl : GoodIn lw_tbl gA21 := goodIn_p _ [1142, 1146, 1150, 1154] (by decide +kernel) (by decide +kernel)
theorem gAll_tbl : ∀ w ∈ gAll, w ∈ lw_tbl := fun w h => (List.mem_append.mp h).elim (fun h => (gA0_tbl w h).1) (fun h => (List.mem_append.mp h).elim (fun h => (gA1_tbl w h).1) (fun h => (List.mem_append.mp h).elim (fun h => (gA2_tbl w h).1) (fun h => (List.mem_append.mp h).elim (fun h => (gA3_tbl w h).1) (fun h => (List.mem_append.mp h).elim (fun h => (gA4_tbl w h).1) (fun h => (List.mem_append.mp h).elim (fun h => (gA5_tbl w h).1) (fun h => (List.mem_append.mp h).elim (fun h => (gA6_tbl w h).1) (fun h => (List.mem_append.mp h).elim (fun h => (gA7_tbl w h).1) (fun h => (List.mem_append.mp h).elim (fun h => (gA8_tbl w h).1) (fun h => (List.mem_append.mp h).elim (fun h => (gA9_tbl w h).1) (fun h => (List.mem_append.mp h).elim (fun h => (gA10_tbl w h).1) (fun h => (List.mem_append.mp h).elim (fun h => (gA11_tbl w h).1) (fun h => (List.mem_append.mp h).elim (fun h => (gA12_tbl w h).1) (fun h => (List.mem_append.mp h).elim (fun h => (gA13_tbl w h).1) (fun h => (List.mem_append.mp h).elim (fun h => (gA14_tbl w h).1) (fun h => (List.mem_append.mp h).elim (fun h => (gA15_tbl w h).1) (fun h => (List.mem_append.mp h).elim (fun h => (gA16_tbl w h).1) (fun h => (List.mem_append.mp h).elim (fun h => (gA17_tbl w h).1) (fun h => (List.mem_append.mp h).elim (fun h => (gA18_tbl w h).1) (fun h => (List.mem_append.mp h).elim (fun h => (gA19_tbl w h).1) (fun h => (List.mem_append.mp h).elim (fun h => (gA20_tbl w h).1) (fun h => (gA21_tbl w h).1)))))))))))))))))))))
theorem gwV {own C : String} {idx n : Nat} {y : MethodName} {b : ByteArray} {r : Option FieldType} (h1 : Cond.methodLink own idx y ∈ gAll) (h2 : Cond.instanceMethod y ∈ gAll) (h3 : Cond.selects C y y ∈ gAll) (h4 : Cond.initialized C ∈ gAll) (h5 : Cond.code y b n r ∈ gAll) : GoodIn gAll (wsV own idx C y (Cond.code y b n r :: gAll)) := by
  intro w hw
  have hm : w ∈ gAll := by
    simp only [wsV, List.mem_append, List.mem_cons, List.not_mem_nil, or_false] at hw
    rcases hw with (rfl | rfl | rfl | rfl) | rfl | hw <;> assumption
  exact ⟨hm, gGood w hm⟩
theorem gwS {own : String} {idx n : Nat} {y : MethodName} {b : ByteArray} {r : Option FieldType} (h1 : Cond.methodLink own idx y ∈ gAll) (h2 : Cond.static y ∈ gAll) (h4 : Cond.initialized y.cls ∈ gAll) (h5 : Cond.code y b n r ∈ gAll) : GoodIn gAll (va_wsS own idx y (Cond.code y b n r :: gAll)) := by
  intro w hw
  have hm : w ∈ gAll := by
    simp only [va_wsS, List.mem_append, List.mem_cons, List.not_mem_nil, or_false] at hw
    rcases hw with (rfl | rfl | rfl) | rfl | hw <;> assumption
  exact ⟨hm, gGood w hm⟩
theorem gwN {n : Nat} {y : MethodName} {b : ByteArray} {r : Option FieldType} (h5 : Cond.code y b n r ∈ gAll) : GoodIn gAll (Cond.code y b n r :: gAll) := by
  intro w hw
  have hm : w ∈ gAll := by
    rcases List.mem_cons.mp hw with rfl | hw <;> assumption
  exact ⟨hm, gGood w hm⟩
theorem iw_RD : ∀ w ∈ u_ws "RemnantDictionary" T_RD 8, w ∈ gAll := List.forall_mem_cons.mpr ⟨k_278, List.forall_mem_cons.mpr ⟨k_279, List.forall_mem_cons.mpr ⟨k_280, List.forall_mem_cons.mpr ⟨k_281, List.forall_mem_cons.mpr ⟨k_282, List.forall_mem_cons.mpr ⟨k_283, List.forall_mem_cons.mpr ⟨k_284, List.forall_mem_cons.mpr ⟨k_285, fun _ h => absurd h List.not_mem_nil⟩⟩⟩⟩⟩⟩⟩⟩
theorem iw_Mo : ∀ w ∈ u_ws "RemnantDictionary$Monomials" T_Mo 8, w ∈ gAll := List.forall_mem_cons.mpr ⟨k_28, List.forall_mem_cons.mpr ⟨k_29, List.forall_mem_cons.mpr ⟨k_30, List.forall_mem_cons.mpr ⟨k_31, List.forall_mem_cons.mpr ⟨k_32, List.forall_mem_cons.mpr ⟨k_33, List.forall_mem_cons.mpr ⟨k_34, List.forall_mem_cons.mpr ⟨k_35, fun _ h => absurd h List.not_mem_nil⟩⟩⟩⟩⟩⟩⟩⟩
theorem iw_Sp : ∀ w ∈ u_ws "RemnantDictionary$Space" T_Sp 10, w ∈ gAll := List.forall_mem_cons.mpr ⟨k_64, List.forall_mem_cons.mpr ⟨k_65, List.forall_mem_cons.mpr ⟨k_66, List.forall_mem_cons.mpr ⟨k_67, List.forall_mem_cons.mpr ⟨k_68, List.forall_mem_cons.mpr ⟨k_69, List.forall_mem_cons.mpr ⟨k_70, List.forall_mem_cons.mpr ⟨k_71, List.forall_mem_cons.mpr ⟨k_72, List.forall_mem_cons.mpr ⟨k_73, fun _ h => absurd h List.not_mem_nil⟩⟩⟩⟩⟩⟩⟩⟩⟩⟩
theorem iw_Re : ∀ w ∈ u_ws "RemnantDictionary$Remnant" T_Re 9, w ∈ gAll := List.forall_mem_cons.mpr ⟨k_133, List.forall_mem_cons.mpr ⟨k_134, List.forall_mem_cons.mpr ⟨k_135, List.forall_mem_cons.mpr ⟨k_136, List.forall_mem_cons.mpr ⟨k_137, List.forall_mem_cons.mpr ⟨k_138, List.forall_mem_cons.mpr ⟨k_139, List.forall_mem_cons.mpr ⟨k_140, List.forall_mem_cons.mpr ⟨k_141, fun _ h => absurd h List.not_mem_nil⟩⟩⟩⟩⟩⟩⟩⟩⟩
theorem iw_Le : ∀ w ∈ u_ws "RemnantDictionary$Lexicon" T_Le 14, w ∈ gAll := List.forall_mem_cons.mpr ⟨k_213, List.forall_mem_cons.mpr ⟨k_214, List.forall_mem_cons.mpr ⟨k_215, List.forall_mem_cons.mpr ⟨k_216, List.forall_mem_cons.mpr ⟨k_217, List.forall_mem_cons.mpr ⟨k_218, List.forall_mem_cons.mpr ⟨k_219, List.forall_mem_cons.mpr ⟨k_220, List.forall_mem_cons.mpr ⟨k_221, List.forall_mem_cons.mpr ⟨k_222, List.forall_mem_cons.mpr ⟨k_223, List.forall_mem_cons.mpr ⟨k_224, List.forall_mem_cons.mpr ⟨k_225, List.forall_mem_cons.mpr ⟨k_226, fun _ h => absurd h List.not_mem_nil⟩⟩⟩⟩⟩⟩⟩⟩⟩⟩⟩⟩⟩⟩
theorem iw_Z : ∀ w ∈ u_ws "RemnantDictionaryModel" T_Z 30, w ∈ gAll := List.forall_mem_cons.mpr ⟨k_338, List.forall_mem_cons.mpr ⟨k_339, List.forall_mem_cons.mpr ⟨k_340, List.forall_mem_cons.mpr ⟨k_341, List.forall_mem_cons.mpr ⟨k_342, List.forall_mem_cons.mpr ⟨k_343, List.forall_mem_cons.mpr ⟨k_344, List.forall_mem_cons.mpr ⟨k_345, List.forall_mem_cons.mpr ⟨k_346, List.forall_mem_cons.mpr ⟨k_347, List.forall_mem_cons.mpr ⟨k_348, List.forall_mem_cons.mpr ⟨k_349, List.forall_mem_cons.mpr ⟨k_350, List.forall_mem_cons.mpr ⟨k_351, List.forall_mem_cons.mpr ⟨k_352, List.forall_mem_cons.mpr ⟨k_353, List.forall_mem_cons.mpr ⟨k_354, List.forall_mem_cons.mpr ⟨k_355, List.forall_mem_cons.mpr ⟨k_356, List.forall_mem_cons.mpr ⟨k_357, List.forall_mem_cons.mpr ⟨k_358, List.forall_mem_cons.mpr ⟨k_359, List.forall_mem_cons.mpr ⟨k_360, List.forall_mem_cons.mpr ⟨k_361, List.forall_mem_cons.mpr ⟨k_362, List.forall_mem_cons.mpr ⟨k_363, List.forall_mem_cons.mpr ⟨k_364, List.forall_mem_cons.mpr ⟨k_365, List.forall_mem_cons.mpr ⟨k_366, List.forall_mem_cons.mpr ⟨k_367, fun _ h => absurd h List.not_mem_nil⟩⟩⟩⟩⟩⟩⟩⟩⟩⟩⟩⟩⟩⟩⟩⟩⟩⟩⟩⟩⟩⟩⟩⟩⟩⟩⟩⟩⟩⟩
def nestM : List (String × Nat × MethodName × String) := [("RemnantDictionary$Monomials", 62, y_RD_key, "RemnantDictionary"), ("RemnantDictionary$Monomials", 48, y_RD_variable, "RemnantDictionary"), ("RemnantDictionary$Monomials", 44, y_RD_degree, "RemnantDictionary"), ("RemnantDictionary$Space", 93, y_RD_inverse, "RemnantDictionary"), ("RemnantDictionary$Space", 86, y_RD_addMultiple, "RemnantDictionary"), ("RemnantDictionary$Space", 107, y_RD_divides, "RemnantDictionary"), ("RemnantDictionary$Space", 111, y_RD_degreeOfCommonMultiple, "RemnantDictionary"), ("RemnantDictionary$Space", 114, y_RD_exponent, "RemnantDictionary"), ("RemnantDictionary$Space", 117, y_RD_degree, "RemnantDictionary"), ("RemnantDictionary$Remnant", 73, y_RD_key, "RemnantDictionary"), ("RemnantDictionary$Remnant", 88, y_RD_variable, "RemnantDictionary"), ("RemnantDictionary$Remnant", 95, y_RD_productRow, "RemnantDictionary"), ("RemnantDictionary$Remnant", 129, y_RD_addMultiple, "RemnantDictionary"), ("RemnantDictionary$Remnant", 122, y_RD_exponent, "RemnantDictionary"), ("RemnantDictionary$Lexicon", 76, y_RD_variable, "RemnantDictionary"), ("RemnantDictionary$Lexicon", 91, y_RD_divides, "RemnantDictionary"), ("RemnantDictionary$Lexicon", 115, y_RD_addMultiple, "RemnantDictionary"), ("RemnantDictionary$Lexicon", 119, y_RD_inverse, "RemnantDictionary"), ("RemnantDictionary$Lexicon", 98, y_RD_firstThatIsNot0, "RemnantDictionary"), ("RemnantDictionary", 18, (⟨"RemnantDictionary$Monomials", "<init>", "()V"⟩ : MethodName), "RemnantDictionary"), ("RemnantDictionary", 34, (⟨"RemnantDictionary$Remnant", "<init>", "()V"⟩ : MethodName), "RemnantDictionary"), ("RemnantDictionary", 41, (⟨"RemnantDictionary$Lexicon", "<init>", "()V"⟩ : MethodName), "RemnantDictionary")]
def nestF : List (String × Nat × String × String × String × String) := [("RemnantDictionary$Monomials", 32, "RemnantDictionary", "HIGHEST", "[I", "RemnantDictionary")]
