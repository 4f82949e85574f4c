theorem d_Z_join_0 : decode c_Z_joinb 0 = .ok (.iconst 0, 1) := by decide +kernel
theorem d_Z_join_1 : decode c_Z_joinb 1 = .ok (.istore_n 1, 1) := by decide +kernel
theorem d_Z_join_2 : decode c_Z_joinb 2 = .ok (.iconst 0, 1) := by decide +kernel
theorem d_Z_join_3 : decode c_Z_joinb 3 = .ok (.istore_n 2, 1) := by decide +kernel
theorem d_Z_join_4 : decode c_Z_joinb 4 = .ok (.iload_n 2, 1) := by decide +kernel
theorem d_Z_join_5 : decode c_Z_joinb 5 = .ok (.aload_n 0, 1) := by decide +kernel
theorem d_Z_join_6 : decode c_Z_joinb 6 = .ok (.getfield 22, 3) := by decide +kernel
theorem d_Z_join_9 : decode c_Z_joinb 9 = .ok (.if_icmp .ge 20, 3) := by decide +kernel
theorem d_Z_join_12 : decode c_Z_joinb 12 = .ok (.aload_n 0, 1) := by decide +kernel
theorem d_Z_join_13 : decode c_Z_joinb 13 = .ok (.getfield 38, 3) := by decide +kernel
theorem d_Z_join_16 : decode c_Z_joinb 16 = .ok (.iload_n 2, 1) := by decide +kernel
theorem d_Z_join_17 : decode c_Z_joinb 17 = .ok (.iaload, 1) := by decide +kernel
theorem d_Z_join_18 : decode c_Z_joinb 18 = .ok (.ifCond .eq 5, 3) := by decide +kernel
theorem d_Z_join_21 : decode c_Z_joinb 21 = .ok (.iconst 1, 1) := by decide +kernel
theorem d_Z_join_22 : decode c_Z_joinb 22 = .ok (.istore_n 1, 1) := by decide +kernel
theorem d_Z_join_23 : decode c_Z_joinb 23 = .ok (.iinc 2 1, 3) := by decide +kernel
theorem d_Z_join_26 : decode c_Z_joinb 26 = .ok (.goto (-22), 3) := by decide +kernel
theorem d_Z_join_29 : decode c_Z_joinb 29 = .ok (.aload_n 0, 1) := by decide +kernel
theorem d_Z_join_30 : decode c_Z_joinb 30 = .ok (.iload_n 1, 1) := by decide +kernel
theorem d_Z_join_31 : decode c_Z_joinb 31 = .ok (.ifCond .ne 7, 3) := by decide +kernel
theorem d_Z_join_34 : decode c_Z_joinb 34 = .ok (.iconst 1, 1) := by decide +kernel
theorem d_Z_join_35 : decode c_Z_joinb 35 = .ok (.goto 17, 3) := by decide +kernel
theorem d_Z_join_38 : decode c_Z_joinb 38 = .ok (.aload_n 0, 1) := by decide +kernel
theorem d_Z_join_39 : decode c_Z_joinb 39 = .ok (.getfield 32, 3) := by decide +kernel
theorem d_Z_join_42 : decode c_Z_joinb 42 = .ok (.bipush 8, 2) := by decide +kernel
theorem d_Z_join_44 : decode c_Z_joinb 44 = .ok (.if_icmp .ne 7, 3) := by decide +kernel
theorem d_Z_join_47 : decode c_Z_joinb 47 = .ok (.iconst 2, 1) := by decide +kernel
theorem d_Z_join_48 : decode c_Z_joinb 48 = .ok (.goto 4, 3) := by decide +kernel
theorem d_Z_join_51 : decode c_Z_joinb 51 = .ok (.iconst 0, 1) := by decide +kernel
theorem d_Z_join_52 : decode c_Z_joinb 52 = .ok (.putfield 7, 3) := by decide +kernel
theorem d_Z_join_55 : decode c_Z_joinb 55 = .ok (.aload_n 0, 1) := by decide +kernel
theorem d_Z_join_56 : decode c_Z_joinb 56 = .ok (.getfield 7, 3) := by decide +kernel
theorem d_Z_join_59 : decode c_Z_joinb 59 = .ok (.ifCond .eq 5, 3) := by decide +kernel
theorem d_Z_join_62 : decode c_Z_joinb 62 = .ok (.iconst 0, 1) := by decide +kernel
theorem d_Z_join_63 : decode c_Z_joinb 63 = .ok (.ireturn, 1) := by decide +kernel
theorem d_Z_join_64 : decode c_Z_joinb 64 = .ok (.iconst 0, 1) := by decide +kernel
theorem d_Z_join_65 : decode c_Z_joinb 65 = .ok (.istore_n 2, 1) := by decide +kernel
theorem d_Z_join_66 : decode c_Z_joinb 66 = .ok (.iload_n 2, 1) := by decide +kernel
theorem d_Z_join_67 : decode c_Z_joinb 67 = .ok (.bipush 126, 2) := by decide +kernel
theorem d_Z_join_69 : decode c_Z_joinb 69 = .ok (.if_icmp .ge 24, 3) := by decide +kernel
theorem d_Z_join_72 : decode c_Z_joinb 72 = .ok (.aload_n 0, 1) := by decide +kernel
theorem d_Z_join_73 : decode c_Z_joinb 73 = .ok (.getfield 35, 3) := by decide +kernel
theorem d_Z_join_76 : decode c_Z_joinb 76 = .ok (.bipush 126, 2) := by decide +kernel
theorem d_Z_join_78 : decode c_Z_joinb 78 = .ok (.aload_n 0, 1) := by decide +kernel
theorem d_Z_join_79 : decode c_Z_joinb 79 = .ok (.getfield 32, 3) := by decide +kernel
theorem d_Z_join_82 : decode c_Z_joinb 82 = .ok (.imul, 1) := by decide +kernel
theorem d_Z_join_83 : decode c_Z_joinb 83 = .ok (.iload_n 2, 1) := by decide +kernel
theorem d_Z_join_84 : decode c_Z_joinb 84 = .ok (.iadd, 1) := by decide +kernel
theorem d_Z_join_85 : decode c_Z_joinb 85 = .ok (.iconst 0, 1) := by decide +kernel
theorem d_Z_join_86 : decode c_Z_joinb 86 = .ok (.iastore, 1) := by decide +kernel
theorem d_Z_join_87 : decode c_Z_joinb 87 = .ok (.iinc 2 1, 3) := by decide +kernel
theorem d_Z_join_90 : decode c_Z_joinb 90 = .ok (.goto (-24), 3) := by decide +kernel
theorem d_Z_join_93 : decode c_Z_joinb 93 = .ok (.iconst 0, 1) := by decide +kernel
theorem d_Z_join_94 : decode c_Z_joinb 94 = .ok (.istore_n 2, 1) := by decide +kernel
theorem d_Z_join_95 : decode c_Z_joinb 95 = .ok (.iload_n 2, 1) := by decide +kernel
theorem d_Z_join_96 : decode c_Z_joinb 96 = .ok (.aload_n 0, 1) := by decide +kernel
theorem d_Z_join_97 : decode c_Z_joinb 97 = .ok (.getfield 22, 3) := by decide +kernel
theorem d_Z_join_100 : decode c_Z_joinb 100 = .ok (.if_icmp .ge 36, 3) := by decide +kernel
theorem d_Z_join_103 : decode c_Z_joinb 103 = .ok (.aload_n 0, 1) := by decide +kernel
theorem d_Z_join_104 : decode c_Z_joinb 104 = .ok (.getfield 35, 3) := by decide +kernel
theorem d_Z_join_107 : decode c_Z_joinb 107 = .ok (.bipush 126, 2) := by decide +kernel
theorem d_Z_join_109 : decode c_Z_joinb 109 = .ok (.aload_n 0, 1) := by decide +kernel
theorem d_Z_join_110 : decode c_Z_joinb 110 = .ok (.getfield 32, 3) := by decide +kernel
theorem d_Z_join_113 : decode c_Z_joinb 113 = .ok (.imul, 1) := by decide +kernel
theorem d_Z_join_114 : decode c_Z_joinb 114 = .ok (.iload_n 2, 1) := by decide +kernel
theorem d_Z_join_115 : decode c_Z_joinb 115 = .ok (.iadd, 1) := by decide +kernel
theorem d_Z_join_116 : decode c_Z_joinb 116 = .ok (.aload_n 0, 1) := by decide +kernel
theorem d_Z_join_117 : decode c_Z_joinb 117 = .ok (.getfield 38, 3) := by decide +kernel
theorem d_Z_join_120 : decode c_Z_joinb 120 = .ok (.iload_n 2, 1) := by decide +kernel
theorem d_Z_join_121 : decode c_Z_joinb 121 = .ok (.iaload, 1) := by decide +kernel
theorem d_Z_join_122 : decode c_Z_joinb 122 = .ok (.iastore, 1) := by decide +kernel
theorem d_Z_join_123 : decode c_Z_joinb 123 = .ok (.aload_n 0, 1) := by decide +kernel
theorem d_Z_join_124 : decode c_Z_joinb 124 = .ok (.getfield 38, 3) := by decide +kernel
theorem d_Z_join_127 : decode c_Z_joinb 127 = .ok (.iload_n 2, 1) := by decide +kernel
theorem d_Z_join_128 : decode c_Z_joinb 128 = .ok (.iconst 0, 1) := by decide +kernel
theorem d_Z_join_129 : decode c_Z_joinb 129 = .ok (.iastore, 1) := by decide +kernel
theorem d_Z_join_130 : decode c_Z_joinb 130 = .ok (.iinc 2 1, 3) := by decide +kernel
theorem d_Z_join_133 : decode c_Z_joinb 133 = .ok (.goto (-38), 3) := by decide +kernel
theorem d_Z_join_136 : decode c_Z_joinb 136 = .ok (.aload_n 0, 1) := by decide +kernel
theorem d_Z_join_137 : decode c_Z_joinb 137 = .ok (.dup, 1) := by decide +kernel
theorem d_Z_join_138 : decode c_Z_joinb 138 = .ok (.getfield 32, 3) := by decide +kernel
theorem d_Z_join_141 : decode c_Z_joinb 141 = .ok (.iconst 1, 1) := by decide +kernel
theorem d_Z_join_142 : decode c_Z_joinb 142 = .ok (.iadd, 1) := by decide +kernel
theorem d_Z_join_143 : decode c_Z_joinb 143 = .ok (.putfield 32, 3) := by decide +kernel
theorem d_Z_join_146 : decode c_Z_joinb 146 = .ok (.aload_n 0, 1) := by decide +kernel
theorem d_Z_join_147 : decode c_Z_joinb 147 = .ok (.getfield 32, 3) := by decide +kernel
theorem d_Z_join_150 : decode c_Z_joinb 150 = .ok (.ireturn, 1) := by decide +kernel
abbrev ws_zjoin (a_Z a_Z_generator a_Z_hand a_Z_mono a_Z_degree a_Z_has a_Z_row a_Z_work a_Z_basis a_Z_rest a_Z_product a_Z_known a_Z_lead a_Z_tail a_Z_word a_Z_vector a_Z_system a_Z_now a_Z_next : Nat) (cI cL cZ : ClassId) (Z_thrownCode Z_p Z_n Z_order Z_monomials Z_generators Z_upTo Z_members Z_lefts Z_vars Z_leadsFound Z_words : Int32) (Z_generator Z_hand : Nat → Int32) : va_W := [(a_Z, .inr (5, [.int Z_thrownCode, .int Z_p, .int Z_n, .int Z_order, .int Z_monomials, .ref a_Z_mono, .ref a_Z_degree, .int Z_generators, .ref a_Z_generator, .ref a_Z_hand, .int Z_upTo, .ref a_Z_has, .ref a_Z_row, .ref a_Z_work, .ref a_Z_basis, .int Z_members, .int Z_lefts, .int Z_vars, .ref a_Z_rest, .ref a_Z_product, .ref a_Z_known, .int Z_leadsFound, .ref a_Z_lead, .ref a_Z_tail, .int Z_words, .ref a_Z_word, .ref a_Z_vector, .ref a_Z_system, .ref a_Z_now, .ref a_Z_next])), (a_Z_generator, .inl (cI, 1008, .inl Z_generator)), (a_Z_hand, .inl (cI, 126, .inl Z_hand))]
abbrev rm_zjoin : Room := { frames := 0, cells := 0, slots := 0, locals := 0 }
abbrev g_zjoin (X : gX) (D : va_G) (cI cL cZ : ClassId) (a_Z a_Z_generator a_Z_hand a_Z_mono a_Z_degree a_Z_has a_Z_row a_Z_work a_Z_basis a_Z_rest a_Z_product a_Z_known a_Z_lead a_Z_tail a_Z_word a_Z_vector a_Z_system a_Z_now a_Z_next : Nat) (A : Nat → Prop) (Z_p Z_n Z_order Z_monomials Z_upTo Z_members Z_lefts Z_vars Z_leadsFound Z_words r_ Z_generators_r Z_thrownCode_r : Int32) (Z_generator_r Z_hand_r : Nat → Int32) (pc : Nat) (lv : List (Nat × Value)) (st : List Value) (Z_generators Z_thrownCode : Int32) (Z_generator Z_hand : Nat → Int32) : Prop := ∀ (H : Heap) (locs : List Loc) (ls : Array Slot), va_P D classes (ws_zjoin a_Z a_Z_generator a_Z_hand a_Z_mono a_Z_degree a_Z_has a_Z_row a_Z_work a_Z_basis a_Z_rest a_Z_product a_Z_known a_Z_lead a_Z_tail a_Z_word a_Z_vector a_Z_system a_Z_now a_Z_next cI cL cZ Z_thrownCode Z_p Z_n Z_order Z_monomials Z_generators Z_upTo Z_members Z_lefts Z_vars Z_leadsFound Z_words Z_generator Z_hand) H → va_D A (ws_zjoin a_Z a_Z_generator a_Z_hand a_Z_mono a_Z_degree a_Z_has a_Z_row a_Z_work a_Z_basis a_Z_rest a_Z_product a_Z_known a_Z_lead a_Z_tail a_Z_word a_Z_vector a_Z_system a_Z_now a_Z_next cI cL cZ Z_thrownCode Z_p Z_n Z_order Z_monomials Z_generators Z_upTo Z_members Z_lefts Z_vars Z_leadsFound Z_words Z_generator Z_hand) → va_S A (gs X).heap H locs → lv_has ls 3 lv → gWW X rm_zjoin H locs 0 0 (MQ (gbl X) (va_Qi (fun r (_ : Unit) => r = r_) (gB D (gT cI cL cZ) A (ws_zjoin a_Z a_Z_generator a_Z_hand a_Z_mono a_Z_degree a_Z_has a_Z_row a_Z_work a_Z_basis a_Z_rest a_Z_product a_Z_known a_Z_lead a_Z_tail a_Z_word a_Z_vector a_Z_system a_Z_now a_Z_next cI cL cZ Z_thrownCode_r Z_p Z_n Z_order Z_monomials Z_generators_r Z_upTo Z_members Z_lefts Z_vars Z_leadsFound Z_words Z_generator_r Z_hand_r)) A) (ga X) (gs X) 0 0 A) (F0 (gm X) pc ls st)
set_option maxHeartbeats 4000000 in
set_option maxRecDepth 100000 in
theorem w_zjoin_95 (X : gX) (D : va_G) (cI cL cZ : ClassId) (a_Z a_Z_generator a_Z_hand a_Z_mono a_Z_degree a_Z_has a_Z_row a_Z_work a_Z_basis a_Z_rest a_Z_product a_Z_known a_Z_lead a_Z_tail a_Z_word a_Z_vector a_Z_system a_Z_now a_Z_next : Nat) (A : Nat → Prop) (Z_p Z_n Z_order Z_monomials Z_upTo Z_members Z_lefts Z_vars Z_leadsFound Z_words r_ Z_generators_r Z_thrownCode_r : Int32) (Z_generator_r Z_hand_r : Nat → Int32) (F : Nat) (C0 : gC X c_Z_joinb (some .int) 3 "RemnantDictionaryModel" gAll) (hK : va_K D classes (gT cI cL cZ) (gs X)) (hA : ∀ q : Nat, (gs X).heap.size ≤ q → A q) (hN : gN (gs X)) (k95 : Int32 → Int32 → Int32 → (Nat → Int32) → (Nat → Int32) → Option (Int32 × Int32 × Int32 × (Nat → Int32) × (Nat → Int32))) (hk95 : ∀ (i2 Z_generators Z_thrownCode : Int32) (Z_generator Z_hand : Nat → Int32), k95 i2 Z_generators Z_thrownCode Z_generator Z_hand = some (r_, Z_generators_r, Z_thrownCode_r, Z_generator_r, Z_hand_r) → g_zjoin X D cI cL cZ a_Z a_Z_generator a_Z_hand a_Z_mono a_Z_degree a_Z_has a_Z_row a_Z_work a_Z_basis a_Z_rest a_Z_product a_Z_known a_Z_lead a_Z_tail a_Z_word a_Z_vector a_Z_system a_Z_now a_Z_next A Z_p Z_n Z_order Z_monomials Z_upTo Z_members Z_lefts Z_vars Z_leadsFound Z_words r_ Z_generators_r Z_thrownCode_r Z_generator_r Z_hand_r 95 [(0, .ref a_Z), (2, .int i2)] [] Z_generators Z_thrownCode Z_generator Z_hand) (i2 Z_generators Z_thrownCode : Int32) (Z_generator Z_hand : Nat → Int32) (hrun : s_zjoin_95 F Z_monomials k95 i2 Z_generators Z_thrownCode Z_generator Z_hand = some (r_, Z_generators_r, Z_thrownCode_r, Z_generator_r, Z_hand_r)) : g_zjoin X D cI cL cZ a_Z a_Z_generator a_Z_hand a_Z_mono a_Z_degree a_Z_has a_Z_row a_Z_work a_Z_basis a_Z_rest a_Z_product a_Z_known a_Z_lead a_Z_tail a_Z_word a_Z_vector a_Z_system a_Z_now a_Z_next A Z_p Z_n Z_order Z_monomials Z_upTo Z_members Z_lefts Z_vars Z_leadsFound Z_words r_ Z_generators_r Z_thrownCode_r Z_generator_r Z_hand_r 95 [(0, .ref a_Z), (2, .int i2)] [] Z_generators Z_thrownCode Z_generator Z_hand := by
  have C1 := C0
  obtain ⟨hx, hb, hr, hml, hown, hts, hlocks⟩ := C1
  unfold s_zjoin_95 at hrun
  intro H locs ls hP hD hS hl
  refine lv_iload_n hx hb d_Z_join_95 rfl (lv_at hl 1 rfl) ?_
  refine lv_aload_n hx hb d_Z_join_96 rfl (lv_at hl 0 rfl) ?_
  refine va_get (D := D) (ci := 5) (v := .int Z_monomials) (C := "RemnantDictionaryModel") (T := T_Z) (N := 30) hx hb hts iw_Z hown hK hP 0 rfl rfl 4 (by decide) (hts _ k_373) (fun _ h9 => h9) rfl d_Z_join_97 ?_
  refine g_icmp_ge (tgt := 136) hx hb d_Z_join_100 (by decide) hrun (fun _ hrun => ?_) (fun _ hrun => ?_)
  · refine lv_aload_n hx hb d_Z_join_136 rfl (lv_at hl 0 rfl) ?_
    refine lv_dup hx hb d_Z_join_137 rfl ?_
    refine va_get (D := D) (ci := 5) (v := .int Z_generators) (C := "RemnantDictionaryModel") (T := T_Z) (N := 30) hx hb hts iw_Z hown hK hP 0 rfl rfl 7 (by decide) (hts _ k_386) (fun _ h9 => h9) rfl d_Z_join_138 ?_
    refine lv_iconst (v := 1) hx hb d_Z_join_141 (by decide) ?_
    refine lv_iadd hx hb d_Z_join_142 ?_
    refine va_put (D := D) (ci := 5) (v := .int (Z_generators + 1)) (ty := .int) (C := "RemnantDictionaryModel") (T := T_Z) (N := 30) hx hb hts iw_Z ty_Z ty_Z_ok nm_Z hown hK hP hD hS 0 rfl rfl 7 (by decide) (hts _ k_386) (fun _ h9 => h9) rfl (by decide +kernel) rfl rfl (Nat.le_of_ble_eq_true rfl) d_Z_join_143 (fun H locs (hP : va_P D classes (ws_zjoin a_Z a_Z_generator a_Z_hand a_Z_mono a_Z_degree a_Z_has a_Z_row a_Z_work a_Z_basis a_Z_rest a_Z_product a_Z_known a_Z_lead a_Z_tail a_Z_word a_Z_vector a_Z_system a_Z_now a_Z_next cI cL cZ Z_thrownCode Z_p Z_n Z_order Z_monomials (Z_generators + 1) Z_upTo Z_members Z_lefts Z_vars Z_leadsFound Z_words Z_generator Z_hand) H) (hD : va_D A (ws_zjoin a_Z a_Z_generator a_Z_hand a_Z_mono a_Z_degree a_Z_has a_Z_row a_Z_work a_Z_basis a_Z_rest a_Z_product a_Z_known a_Z_lead a_Z_tail a_Z_word a_Z_vector a_Z_system a_Z_now a_Z_next cI cL cZ Z_thrownCode Z_p Z_n Z_order Z_monomials (Z_generators + 1) Z_upTo Z_members Z_lefts Z_vars Z_leadsFound Z_words Z_generator Z_hand)) hS => ?_)
    refine lv_aload_n hx hb d_Z_join_146 rfl (lv_at hl 0 rfl) ?_
    refine va_get (D := D) (ci := 5) (v := .int (Z_generators + 1)) (C := "RemnantDictionaryModel") (T := T_Z) (N := 30) hx hb hts iw_Z hown hK hP 0 rfl rfl 7 (by decide) (hts _ k_386) (fun _ h9 => h9) rfl d_Z_join_147 ?_
    cases hrun
    exact W.iret hx hb hr (fun t ht hW => ⟨⟨_, (), rfl, rfl, gB_of ht hW.alike hP hK hD⟩, hS.F ht⟩) hS.2.2 d_Z_join_150
  · refine lv_aload_n hx hb d_Z_join_103 rfl (lv_at hl 0 rfl) ?_
    refine va_get (D := D) (ci := 5) (v := .ref a_Z_generator) (C := "RemnantDictionaryModel") (T := T_Z) (N := 30) hx hb hts iw_Z hown hK hP 0 rfl rfl 8 (by decide) (hts _ k_410) (fun _ h9 => h9) rfl d_Z_join_104 ?_
    refine lv_bipush (v := 126) hx hb d_Z_join_107 (by decide) ?_
    refine lv_aload_n hx hb d_Z_join_109 rfl (lv_at hl 0 rfl) ?_
    refine va_get (D := D) (ci := 5) (v := .int Z_generators) (C := "RemnantDictionaryModel") (T := T_Z) (N := 30) hx hb hts iw_Z hown hK hP 0 rfl rfl 7 (by decide) (hts _ k_386) (fun _ h9 => h9) rfl d_Z_join_110 ?_
    refine lv_imul hx hb d_Z_join_113 ?_
    refine lv_iload_n hx hb d_Z_join_114 rfl (lv_at hl 1 rfl) ?_
    refine lv_iadd hx hb d_Z_join_115 ?_
    refine lv_aload_n hx hb d_Z_join_116 rfl (lv_at hl 0 rfl) ?_
    refine va_get (D := D) (ci := 5) (v := .ref a_Z_hand) (C := "RemnantDictionaryModel") (T := T_Z) (N := 30) hx hb hts iw_Z hown hK hP 0 rfl rfl 9 (by decide) (hts _ k_379) (fun _ h9 => h9) rfl d_Z_join_117 ?_
    refine lv_iload_n hx hb d_Z_join_120 rfl (lv_at hl 1 rfl) ?_
    refine g_iald hx hb hK hP 2 0 rfl rfl hrun d_Z_join_121 (fun x_1 hrun => ?_)
    refine g_iast hx hb hK hP hD hS 1 0 rfl rfl hrun d_Z_join_122 (fun Z_generator_2 hrun H locs (hP : va_P D classes (ws_zjoin a_Z a_Z_generator a_Z_hand a_Z_mono a_Z_degree a_Z_has a_Z_row a_Z_work a_Z_basis a_Z_rest a_Z_product a_Z_known a_Z_lead a_Z_tail a_Z_word a_Z_vector a_Z_system a_Z_now a_Z_next cI cL cZ Z_thrownCode Z_p Z_n Z_order Z_monomials Z_generators Z_upTo Z_members Z_lefts Z_vars Z_leadsFound Z_words Z_generator_2 Z_hand) H) (hD : va_D A (ws_zjoin a_Z a_Z_generator a_Z_hand a_Z_mono a_Z_degree a_Z_has a_Z_row a_Z_work a_Z_basis a_Z_rest a_Z_product a_Z_known a_Z_lead a_Z_tail a_Z_word a_Z_vector a_Z_system a_Z_now a_Z_next cI cL cZ Z_thrownCode Z_p Z_n Z_order Z_monomials Z_generators Z_upTo Z_members Z_lefts Z_vars Z_leadsFound Z_words Z_generator_2 Z_hand)) hS => ?_)
    refine lv_aload_n hx hb d_Z_join_123 rfl (lv_at hl 0 rfl) ?_
    refine va_get (D := D) (ci := 5) (v := .ref a_Z_hand) (C := "RemnantDictionaryModel") (T := T_Z) (N := 30) hx hb hts iw_Z hown hK hP 0 rfl rfl 9 (by decide) (hts _ k_379) (fun _ h9 => h9) rfl d_Z_join_124 ?_
    refine lv_iload_n hx hb d_Z_join_127 rfl (lv_at hl 1 rfl) ?_
    refine lv_iconst (v := 0) hx hb d_Z_join_128 (by decide) ?_
    refine g_iast hx hb hK hP hD hS 2 0 rfl rfl hrun d_Z_join_129 (fun Z_hand_3 hrun H locs (hP : va_P D classes (ws_zjoin a_Z a_Z_generator a_Z_hand a_Z_mono a_Z_degree a_Z_has a_Z_row a_Z_work a_Z_basis a_Z_rest a_Z_product a_Z_known a_Z_lead a_Z_tail a_Z_word a_Z_vector a_Z_system a_Z_now a_Z_next cI cL cZ Z_thrownCode Z_p Z_n Z_order Z_monomials Z_generators Z_upTo Z_members Z_lefts Z_vars Z_leadsFound Z_words Z_generator_2 Z_hand_3) H) (hD : va_D A (ws_zjoin a_Z a_Z_generator a_Z_hand a_Z_mono a_Z_degree a_Z_has a_Z_row a_Z_work a_Z_basis a_Z_rest a_Z_product a_Z_known a_Z_lead a_Z_tail a_Z_word a_Z_vector a_Z_system a_Z_now a_Z_next cI cL cZ Z_thrownCode Z_p Z_n Z_order Z_monomials Z_generators Z_upTo Z_members Z_lefts Z_vars Z_leadsFound Z_words Z_generator_2 Z_hand_3)) hS => ?_)
    refine lv_iinc (v := (i2 + 1)) (lv' := [(2, .int (i2 + 1)), (0, .ref a_Z)]) hx hb d_Z_join_130 hl (k := 1) rfl rfl (by decide) rfl (fun ls hl => ?_)
    refine lv_goto (tgt := 95) hx hb d_Z_join_133 (by decide) ?_
    exact hk95 (i2 + 1) Z_generators Z_thrownCode Z_generator_2 Z_hand_3 hrun H locs ls hP hD hS (lv_sub hl [1, 0] rfl)
theorem v_zjoin_95 (X : gX) (D : va_G) (cI cL cZ : ClassId) (a_Z a_Z_generator a_Z_hand a_Z_mono a_Z_degree a_Z_has a_Z_row a_Z_work a_Z_basis a_Z_rest a_Z_product a_Z_known a_Z_lead a_Z_tail a_Z_word a_Z_vector a_Z_system a_Z_now a_Z_next : Nat) (A : Nat → Prop) (Z_p Z_n Z_order Z_monomials Z_upTo Z_members Z_lefts Z_vars Z_leadsFound Z_words r_ Z_generators_r Z_thrownCode_r : Int32) (Z_generator_r Z_hand_r : Nat → Int32) (F : Nat) (C0 : gC X c_Z_joinb (some .int) 3 "RemnantDictionaryModel" gAll) (hK : va_K D classes (gT cI cL cZ) (gs X)) (hA : ∀ q : Nat, (gs X).heap.size ≤ q → A q) (hN : gN (gs X))  : ∀ (n : Nat) (i2 Z_generators Z_thrownCode : Int32) (Z_generator Z_hand : Nat → Int32), b_zjoin_95 F Z_monomials n i2 Z_generators Z_thrownCode Z_generator Z_hand = some (r_, Z_generators_r, Z_thrownCode_r, Z_generator_r, Z_hand_r) → g_zjoin X D cI cL cZ a_Z a_Z_generator a_Z_hand a_Z_mono a_Z_degree a_Z_has a_Z_row a_Z_work a_Z_basis a_Z_rest a_Z_product a_Z_known a_Z_lead a_Z_tail a_Z_word a_Z_vector a_Z_system a_Z_now a_Z_next A Z_p Z_n Z_order Z_monomials Z_upTo Z_members Z_lefts Z_vars Z_leadsFound Z_words r_ Z_generators_r Z_thrownCode_r Z_generator_r Z_hand_r 95 [(0, .ref a_Z), (2, .int i2)] [] Z_generators Z_thrownCode Z_generator Z_hand := by
  intro n
  induction n with
  | zero => intro i2 Z_generators Z_thrownCode Z_generator Z_hand hrun; cases hrun
  | succ n ih =>
    intro i2 Z_generators Z_thrownCode Z_generator Z_hand hrun
    exact w_zjoin_95 X D cI cL cZ a_Z a_Z_generator a_Z_hand a_Z_mono a_Z_degree a_Z_has a_Z_row a_Z_work a_Z_basis a_Z_rest a_Z_product a_Z_known a_Z_lead a_Z_tail a_Z_word a_Z_vector a_Z_system a_Z_now a_Z_next A Z_p Z_n Z_order Z_monomials Z_upTo Z_members Z_lefts Z_vars Z_leadsFound Z_words r_ Z_generators_r Z_thrownCode_r Z_generator_r Z_hand_r F C0 hK hA hN (b_zjoin_95 F Z_monomials n) ih i2 Z_generators Z_thrownCode Z_generator Z_hand hrun
set_option maxHeartbeats 4000000 in
set_option maxRecDepth 100000 in
theorem w_zjoin_66 (X : gX) (D : va_G) (cI cL cZ : ClassId) (a_Z a_Z_generator a_Z_hand a_Z_mono a_Z_degree a_Z_has a_Z_row a_Z_work a_Z_basis a_Z_rest a_Z_product a_Z_known a_Z_lead a_Z_tail a_Z_word a_Z_vector a_Z_system a_Z_now a_Z_next : Nat) (A : Nat → Prop) (Z_p Z_n Z_order Z_monomials Z_upTo Z_members Z_lefts Z_vars Z_leadsFound Z_words r_ Z_generators_r Z_thrownCode_r : Int32) (Z_generator_r Z_hand_r : Nat → Int32) (F : Nat) (C0 : gC X c_Z_joinb (some .int) 3 "RemnantDictionaryModel" gAll) (hK : va_K D classes (gT cI cL cZ) (gs X)) (hA : ∀ q : Nat, (gs X).heap.size ≤ q → A q) (hN : gN (gs X)) (k66 : Int32 → Int32 → Int32 → (Nat → Int32) → (Nat → Int32) → Option (Int32 × Int32 × Int32 × (Nat → Int32) × (Nat → Int32))) (hk66 : ∀ (i2 Z_generators Z_thrownCode : Int32) (Z_generator Z_hand : Nat → Int32), k66 i2 Z_generators Z_thrownCode Z_generator Z_hand = some (r_, Z_generators_r, Z_thrownCode_r, Z_generator_r, Z_hand_r) → g_zjoin X D cI cL cZ a_Z a_Z_generator a_Z_hand a_Z_mono a_Z_degree a_Z_has a_Z_row a_Z_work a_Z_basis a_Z_rest a_Z_product a_Z_known a_Z_lead a_Z_tail a_Z_word a_Z_vector a_Z_system a_Z_now a_Z_next A Z_p Z_n Z_order Z_monomials Z_upTo Z_members Z_lefts Z_vars Z_leadsFound Z_words r_ Z_generators_r Z_thrownCode_r Z_generator_r Z_hand_r 66 [(0, .ref a_Z), (2, .int i2)] [] Z_generators Z_thrownCode Z_generator Z_hand) (i2 Z_generators Z_thrownCode : Int32) (Z_generator Z_hand : Nat → Int32) (hrun : s_zjoin_66 F Z_monomials k66 i2 Z_generators Z_thrownCode Z_generator Z_hand = some (r_, Z_generators_r, Z_thrownCode_r, Z_generator_r, Z_hand_r)) : g_zjoin X D cI cL cZ a_Z a_Z_generator a_Z_hand a_Z_mono a_Z_degree a_Z_has a_Z_row a_Z_work a_Z_basis a_Z_rest a_Z_product a_Z_known a_Z_lead a_Z_tail a_Z_word a_Z_vector a_Z_system a_Z_now a_Z_next A Z_p Z_n Z_order Z_monomials Z_upTo Z_members Z_lefts Z_vars Z_leadsFound Z_words r_ Z_generators_r Z_thrownCode_r Z_generator_r Z_hand_r 66 [(0, .ref a_Z), (2, .int i2)] [] Z_generators Z_thrownCode Z_generator Z_hand := by
  have C1 := C0
  obtain ⟨hx, hb, hr, hml, hown, hts, hlocks⟩ := C1
  unfold s_zjoin_66 at hrun
  intro H locs ls hP hD hS hl
  refine lv_iload_n hx hb d_Z_join_66 rfl (lv_at hl 1 rfl) ?_
  refine lv_bipush (v := 126) hx hb d_Z_join_67 (by decide) ?_
  refine g_icmp_ge (tgt := 93) hx hb d_Z_join_69 (by decide) hrun (fun _ hrun => ?_) (fun _ hrun => ?_)
  · refine lv_iconst (v := 0) hx hb d_Z_join_93 (by decide) ?_
    refine lv_istore_n (lv' := [(2, .int 0), (0, .ref a_Z)]) hx hb d_Z_join_94 rfl hl (by decide) rfl (fun ls hl => ?_)
    exact v_zjoin_95 X D cI cL cZ a_Z a_Z_generator a_Z_hand a_Z_mono a_Z_degree a_Z_has a_Z_row a_Z_work a_Z_basis a_Z_rest a_Z_product a_Z_known a_Z_lead a_Z_tail a_Z_word a_Z_vector a_Z_system a_Z_now a_Z_next A Z_p Z_n Z_order Z_monomials Z_upTo Z_members Z_lefts Z_vars Z_leadsFound Z_words r_ Z_generators_r Z_thrownCode_r Z_generator_r Z_hand_r F C0 hK hA hN  F 0 Z_generators Z_thrownCode Z_generator Z_hand hrun H locs ls hP hD hS (lv_sub hl [1, 0] rfl)
  · refine lv_aload_n hx hb d_Z_join_72 rfl (lv_at hl 0 rfl) ?_
    refine va_get (D := D) (ci := 5) (v := .ref a_Z_generator) (C := "RemnantDictionaryModel") (T := T_Z) (N := 30) hx hb hts iw_Z hown hK hP 0 rfl rfl 8 (by decide) (hts _ k_410) (fun _ h9 => h9) rfl d_Z_join_73 ?_
    refine lv_bipush (v := 126) hx hb d_Z_join_76 (by decide) ?_
    refine lv_aload_n hx hb d_Z_join_78 rfl (lv_at hl 0 rfl) ?_
    refine va_get (D := D) (ci := 5) (v := .int Z_generators) (C := "RemnantDictionaryModel") (T := T_Z) (N := 30) hx hb hts iw_Z hown hK hP 0 rfl rfl 7 (by decide) (hts _ k_386) (fun _ h9 => h9) rfl d_Z_join_79 ?_
    refine lv_imul hx hb d_Z_join_82 ?_
    refine lv_iload_n hx hb d_Z_join_83 rfl (lv_at hl 1 rfl) ?_
    refine lv_iadd hx hb d_Z_join_84 ?_
    refine lv_iconst (v := 0) hx hb d_Z_join_85 (by decide) ?_
    refine g_iast hx hb hK hP hD hS 1 0 rfl rfl hrun d_Z_join_86 (fun Z_generator_1 hrun H locs (hP : va_P D classes (ws_zjoin a_Z a_Z_generator a_Z_hand a_Z_mono a_Z_degree a_Z_has a_Z_row a_Z_work a_Z_basis a_Z_rest a_Z_product a_Z_known a_Z_lead a_Z_tail a_Z_word a_Z_vector a_Z_system a_Z_now a_Z_next cI cL cZ Z_thrownCode Z_p Z_n Z_order Z_monomials Z_generators Z_upTo Z_members Z_lefts Z_vars Z_leadsFound Z_words Z_generator_1 Z_hand) H) (hD : va_D A (ws_zjoin a_Z a_Z_generator a_Z_hand a_Z_mono a_Z_degree a_Z_has a_Z_row a_Z_work a_Z_basis a_Z_rest a_Z_product a_Z_known a_Z_lead a_Z_tail a_Z_word a_Z_vector a_Z_system a_Z_now a_Z_next cI cL cZ Z_thrownCode Z_p Z_n Z_order Z_monomials Z_generators Z_upTo Z_members Z_lefts Z_vars Z_leadsFound Z_words Z_generator_1 Z_hand)) hS => ?_)
    refine lv_iinc (v := (i2 + 1)) (lv' := [(2, .int (i2 + 1)), (0, .ref a_Z)]) hx hb d_Z_join_87 hl (k := 1) rfl rfl (by decide) rfl (fun ls hl => ?_)
    refine lv_goto (tgt := 66) hx hb d_Z_join_90 (by decide) ?_
    exact hk66 (i2 + 1) Z_generators Z_thrownCode Z_generator_1 Z_hand hrun H locs ls hP hD hS (lv_sub hl [1, 0] rfl)
theorem v_zjoin_66 (X : gX) (D : va_G) (cI cL cZ : ClassId) (a_Z a_Z_generator a_Z_hand a_Z_mono a_Z_degree a_Z_has a_Z_row a_Z_work a_Z_basis a_Z_rest a_Z_product a_Z_known a_Z_lead a_Z_tail a_Z_word a_Z_vector a_Z_system a_Z_now a_Z_next : Nat) (A : Nat → Prop) (Z_p Z_n Z_order Z_monomials Z_upTo Z_members Z_lefts Z_vars Z_leadsFound Z_words r_ Z_generators_r Z_thrownCode_r : Int32) (Z_generator_r Z_hand_r : Nat → Int32) (F : Nat) (C0 : gC X c_Z_joinb (some .int) 3 "RemnantDictionaryModel" gAll) (hK : va_K D classes (gT cI cL cZ) (gs X)) (hA : ∀ q : Nat, (gs X).heap.size ≤ q → A q) (hN : gN (gs X))  : ∀ (n : Nat) (i2 Z_generators Z_thrownCode : Int32) (Z_generator Z_hand : Nat → Int32), b_zjoin_66 F Z_monomials n i2 Z_generators Z_thrownCode Z_generator Z_hand = some (r_, Z_generators_r, Z_thrownCode_r, Z_generator_r, Z_hand_r) → g_zjoin X D cI cL cZ a_Z a_Z_generator a_Z_hand a_Z_mono a_Z_degree a_Z_has a_Z_row a_Z_work a_Z_basis a_Z_rest a_Z_product a_Z_known a_Z_lead a_Z_tail a_Z_word a_Z_vector a_Z_system a_Z_now a_Z_next A Z_p Z_n Z_order Z_monomials Z_upTo Z_members Z_lefts Z_vars Z_leadsFound Z_words r_ Z_generators_r Z_thrownCode_r Z_generator_r Z_hand_r 66 [(0, .ref a_Z), (2, .int i2)] [] Z_generators Z_thrownCode Z_generator Z_hand := by
  intro n
  induction n with
  | zero => intro i2 Z_generators Z_thrownCode Z_generator Z_hand hrun; cases hrun
  | succ n ih =>
    intro i2 Z_generators Z_thrownCode Z_generator Z_hand hrun
    exact w_zjoin_66 X D cI cL cZ a_Z a_Z_generator a_Z_hand a_Z_mono a_Z_degree a_Z_has a_Z_row a_Z_work a_Z_basis a_Z_rest a_Z_product a_Z_known a_Z_lead a_Z_tail a_Z_word a_Z_vector a_Z_system a_Z_now a_Z_next A Z_p Z_n Z_order Z_monomials Z_upTo Z_members Z_lefts Z_vars Z_leadsFound Z_words r_ Z_generators_r Z_thrownCode_r Z_generator_r Z_hand_r F C0 hK hA hN (b_zjoin_66 F Z_monomials n) ih i2 Z_generators Z_thrownCode Z_generator Z_hand hrun
set_option maxHeartbeats 4000000 in
set_option maxRecDepth 100000 in
theorem w_zjoin_52 (X : gX) (D : va_G) (cI cL cZ : ClassId) (a_Z a_Z_generator a_Z_hand a_Z_mono a_Z_degree a_Z_has a_Z_row a_Z_work a_Z_basis a_Z_rest a_Z_product a_Z_known a_Z_lead a_Z_tail a_Z_word a_Z_vector a_Z_system a_Z_now a_Z_next : Nat) (A : Nat → Prop) (Z_p Z_n Z_order Z_monomials Z_upTo Z_members Z_lefts Z_vars Z_leadsFound Z_words r_ Z_generators_r Z_thrownCode_r : Int32) (Z_generator_r Z_hand_r : Nat → Int32) (F : Nat) (C0 : gC X c_Z_joinb (some .int) 3 "RemnantDictionaryModel" gAll) (hK : va_K D classes (gT cI cL cZ) (gs X)) (hA : ∀ q : Nat, (gs X).heap.size ≤ q → A q) (hN : gN (gs X))  (t1 Z_generators Z_thrownCode : Int32) (Z_generator Z_hand : Nat → Int32) (hrun : s_zjoin_52 F Z_monomials t1 Z_generators Z_thrownCode Z_generator Z_hand = some (r_, Z_generators_r, Z_thrownCode_r, Z_generator_r, Z_hand_r)) : g_zjoin X D cI cL cZ a_Z a_Z_generator a_Z_hand a_Z_mono a_Z_degree a_Z_has a_Z_row a_Z_work a_Z_basis a_Z_rest a_Z_product a_Z_known a_Z_lead a_Z_tail a_Z_word a_Z_vector a_Z_system a_Z_now a_Z_next A Z_p Z_n Z_order Z_monomials Z_upTo Z_members Z_lefts Z_vars Z_leadsFound Z_words r_ Z_generators_r Z_thrownCode_r Z_generator_r Z_hand_r 52 [(0, .ref a_Z)] [.int t1, .ref a_Z] Z_generators Z_thrownCode Z_generator Z_hand := by
  have C1 := C0
  obtain ⟨hx, hb, hr, hml, hown, hts, hlocks⟩ := C1
  unfold s_zjoin_52 at hrun
  intro H locs ls hP hD hS hl
  refine va_put (D := D) (ci := 5) (v := .int t1) (ty := .int) (C := "RemnantDictionaryModel") (T := T_Z) (N := 30) hx hb hts iw_Z ty_Z ty_Z_ok nm_Z hown hK hP hD hS 0 rfl rfl 0 (by decide) (hts _ k_430) (fun _ h9 => h9) rfl (by decide +kernel) rfl rfl (Nat.le_of_ble_eq_true rfl) d_Z_join_52 (fun H locs (hP : va_P D classes (ws_zjoin a_Z a_Z_generator a_Z_hand a_Z_mono a_Z_degree a_Z_has a_Z_row a_Z_work a_Z_basis a_Z_rest a_Z_product a_Z_known a_Z_lead a_Z_tail a_Z_word a_Z_vector a_Z_system a_Z_now a_Z_next cI cL cZ t1 Z_p Z_n Z_order Z_monomials Z_generators Z_upTo Z_members Z_lefts Z_vars Z_leadsFound Z_words Z_generator Z_hand) H) (hD : va_D A (ws_zjoin a_Z a_Z_generator a_Z_hand a_Z_mono a_Z_degree a_Z_has a_Z_row a_Z_work a_Z_basis a_Z_rest a_Z_product a_Z_known a_Z_lead a_Z_tail a_Z_word a_Z_vector a_Z_system a_Z_now a_Z_next cI cL cZ t1 Z_p Z_n Z_order Z_monomials Z_generators Z_upTo Z_members Z_lefts Z_vars Z_leadsFound Z_words Z_generator Z_hand)) hS => ?_)
  refine lv_aload_n hx hb d_Z_join_55 rfl (lv_at hl 0 rfl) ?_
  refine va_get (D := D) (ci := 5) (v := .int t1) (C := "RemnantDictionaryModel") (T := T_Z) (N := 30) hx hb hts iw_Z hown hK hP 0 rfl rfl 0 (by decide) (hts _ k_430) (fun _ h9 => h9) rfl d_Z_join_56 ?_
  refine g_if_eq (tgt := 64) hx hb d_Z_join_59 (by decide) hrun (fun _ hrun => ?_) (fun _ hrun => ?_)
  · refine lv_iconst (v := 0) hx hb d_Z_join_64 (by decide) ?_
    refine lv_istore_n (lv' := [(2, .int 0), (0, .ref a_Z)]) hx hb d_Z_join_65 rfl hl (by decide) rfl (fun ls hl => ?_)
    exact v_zjoin_66 X D cI cL cZ a_Z a_Z_generator a_Z_hand a_Z_mono a_Z_degree a_Z_has a_Z_row a_Z_work a_Z_basis a_Z_rest a_Z_product a_Z_known a_Z_lead a_Z_tail a_Z_word a_Z_vector a_Z_system a_Z_now a_Z_next A Z_p Z_n Z_order Z_monomials Z_upTo Z_members Z_lefts Z_vars Z_leadsFound Z_words r_ Z_generators_r Z_thrownCode_r Z_generator_r Z_hand_r F C0 hK hA hN  F 0 Z_generators t1 Z_generator Z_hand hrun H locs ls hP hD hS (lv_sub hl [1, 0] rfl)
  · refine lv_iconst (v := 0) hx hb d_Z_join_62 (by decide) ?_
    cases hrun
    exact W.iret hx hb hr (fun t ht hW => ⟨⟨_, (), rfl, rfl, gB_of ht hW.alike hP hK hD⟩, hS.F ht⟩) hS.2.2 d_Z_join_63
set_option maxHeartbeats 4000000 in
set_option maxRecDepth 100000 in
theorem w_zjoin_4 (X : gX) (D : va_G) (cI cL cZ : ClassId) (a_Z a_Z_generator a_Z_hand a_Z_mono a_Z_degree a_Z_has a_Z_row a_Z_work a_Z_basis a_Z_rest a_Z_product a_Z_known a_Z_lead a_Z_tail a_Z_word a_Z_vector a_Z_system a_Z_now a_Z_next : Nat) (A : Nat → Prop) (Z_p Z_n Z_order Z_monomials Z_upTo Z_members Z_lefts Z_vars Z_leadsFound Z_words r_ Z_generators_r Z_thrownCode_r : Int32) (Z_generator_r Z_hand_r : Nat → Int32) (F : Nat) (C0 : gC X c_Z_joinb (some .int) 3 "RemnantDictionaryModel" gAll) (hK : va_K D classes (gT cI cL cZ) (gs X)) (hA : ∀ q : Nat, (gs X).heap.size ≤ q → A q) (hN : gN (gs X)) (k4 : Int32 → Int32 → Int32 → Int32 → (Nat → Int32) → (Nat → Int32) → Option (Int32 × Int32 × Int32 × (Nat → Int32) × (Nat → Int32))) (hk4 : ∀ (i1 i2 Z_generators Z_thrownCode : Int32) (Z_generator Z_hand : Nat → Int32), k4 i1 i2 Z_generators Z_thrownCode Z_generator Z_hand = some (r_, Z_generators_r, Z_thrownCode_r, Z_generator_r, Z_hand_r) → g_zjoin X D cI cL cZ a_Z a_Z_generator a_Z_hand a_Z_mono a_Z_degree a_Z_has a_Z_row a_Z_work a_Z_basis a_Z_rest a_Z_product a_Z_known a_Z_lead a_Z_tail a_Z_word a_Z_vector a_Z_system a_Z_now a_Z_next A Z_p Z_n Z_order Z_monomials Z_upTo Z_members Z_lefts Z_vars Z_leadsFound Z_words r_ Z_generators_r Z_thrownCode_r Z_generator_r Z_hand_r 4 [(0, .ref a_Z), (1, .int i1), (2, .int i2)] [] Z_generators Z_thrownCode Z_generator Z_hand) (i1 i2 Z_generators Z_thrownCode : Int32) (Z_generator Z_hand : Nat → Int32) (hrun : s_zjoin_4 F Z_monomials k4 i1 i2 Z_generators Z_thrownCode Z_generator Z_hand = some (r_, Z_generators_r, Z_thrownCode_r, Z_generator_r, Z_hand_r)) : g_zjoin X D cI cL cZ a_Z a_Z_generator a_Z_hand a_Z_mono a_Z_degree a_Z_has a_Z_row a_Z_work a_Z_basis a_Z_rest a_Z_product a_Z_known a_Z_lead a_Z_tail a_Z_word a_Z_vector a_Z_system a_Z_now a_Z_next A Z_p Z_n Z_order Z_monomials Z_upTo Z_members Z_lefts Z_vars Z_leadsFound Z_words r_ Z_generators_r Z_thrownCode_r Z_generator_r Z_hand_r 4 [(0, .ref a_Z), (1, .int i1), (2, .int i2)] [] Z_generators Z_thrownCode Z_generator Z_hand := by
  have C1 := C0
  obtain ⟨hx, hb, hr, hml, hown, hts, hlocks⟩ := C1
  unfold s_zjoin_4 at hrun
  intro H locs ls hP hD hS hl
  refine lv_iload_n hx hb d_Z_join_4 rfl (lv_at hl 2 rfl) ?_
  refine lv_aload_n hx hb d_Z_join_5 rfl (lv_at hl 0 rfl) ?_
  refine va_get (D := D) (ci := 5) (v := .int Z_monomials) (C := "RemnantDictionaryModel") (T := T_Z) (N := 30) hx hb hts iw_Z hown hK hP 0 rfl rfl 4 (by decide) (hts _ k_373) (fun _ h9 => h9) rfl d_Z_join_6 ?_
  refine g_icmp_ge (tgt := 29) hx hb d_Z_join_9 (by decide) hrun (fun _ hrun => ?_) (fun _ hrun => ?_)
  · refine lv_aload_n hx hb d_Z_join_29 rfl (lv_at hl 0 rfl) ?_
    refine lv_iload_n hx hb d_Z_join_30 rfl (lv_at hl 1 rfl) ?_
    refine g_if_ne (tgt := 38) hx hb d_Z_join_31 (by decide) hrun (fun _ hrun => ?_) (fun _ hrun => ?_)
    · refine lv_aload_n hx hb d_Z_join_38 rfl (lv_at hl 0 rfl) ?_
      refine va_get (D := D) (ci := 5) (v := .int Z_generators) (C := "RemnantDictionaryModel") (T := T_Z) (N := 30) hx hb hts iw_Z hown hK hP 0 rfl rfl 7 (by decide) (hts _ k_386) (fun _ h9 => h9) rfl d_Z_join_39 ?_
      refine lv_bipush (v := 8) hx hb d_Z_join_42 (by decide) ?_
      refine g_icmp_ne (tgt := 51) hx hb d_Z_join_44 (by decide) hrun (fun _ hrun => ?_) (fun _ hrun => ?_)
      · refine lv_iconst (v := 0) hx hb d_Z_join_51 (by decide) ?_
        exact w_zjoin_52 X D cI cL cZ a_Z a_Z_generator a_Z_hand a_Z_mono a_Z_degree a_Z_has a_Z_row a_Z_work a_Z_basis a_Z_rest a_Z_product a_Z_known a_Z_lead a_Z_tail a_Z_word a_Z_vector a_Z_system a_Z_now a_Z_next A Z_p Z_n Z_order Z_monomials Z_upTo Z_members Z_lefts Z_vars Z_leadsFound Z_words r_ Z_generators_r Z_thrownCode_r Z_generator_r Z_hand_r F C0 hK hA hN  0 Z_generators Z_thrownCode Z_generator Z_hand hrun H locs ls hP hD hS (lv_sub hl [0] rfl)
      · refine lv_iconst (v := 2) hx hb d_Z_join_47 (by decide) ?_
        refine lv_goto (tgt := 52) hx hb d_Z_join_48 (by decide) ?_
        exact w_zjoin_52 X D cI cL cZ a_Z a_Z_generator a_Z_hand a_Z_mono a_Z_degree a_Z_has a_Z_row a_Z_work a_Z_basis a_Z_rest a_Z_product a_Z_known a_Z_lead a_Z_tail a_Z_word a_Z_vector a_Z_system a_Z_now a_Z_next A Z_p Z_n Z_order Z_monomials Z_upTo Z_members Z_lefts Z_vars Z_leadsFound Z_words r_ Z_generators_r Z_thrownCode_r Z_generator_r Z_hand_r F C0 hK hA hN  2 Z_generators Z_thrownCode Z_generator Z_hand hrun H locs ls hP hD hS (lv_sub hl [0] rfl)
    · refine lv_iconst (v := 1) hx hb d_Z_join_34 (by decide) ?_
      refine lv_goto (tgt := 52) hx hb d_Z_join_35 (by decide) ?_
      exact w_zjoin_52 X D cI cL cZ a_Z a_Z_generator a_Z_hand a_Z_mono a_Z_degree a_Z_has a_Z_row a_Z_work a_Z_basis a_Z_rest a_Z_product a_Z_known a_Z_lead a_Z_tail a_Z_word a_Z_vector a_Z_system a_Z_now a_Z_next A Z_p Z_n Z_order Z_monomials Z_upTo Z_members Z_lefts Z_vars Z_leadsFound Z_words r_ Z_generators_r Z_thrownCode_r Z_generator_r Z_hand_r F C0 hK hA hN  1 Z_generators Z_thrownCode Z_generator Z_hand hrun H locs ls hP hD hS (lv_sub hl [0] rfl)
  · refine lv_aload_n hx hb d_Z_join_12 rfl (lv_at hl 0 rfl) ?_
    refine va_get (D := D) (ci := 5) (v := .ref a_Z_hand) (C := "RemnantDictionaryModel") (T := T_Z) (N := 30) hx hb hts iw_Z hown hK hP 0 rfl rfl 9 (by decide) (hts _ k_379) (fun _ h9 => h9) rfl d_Z_join_13 ?_
    refine lv_iload_n hx hb d_Z_join_16 rfl (lv_at hl 2 rfl) ?_
    refine g_iald hx hb hK hP 2 0 rfl rfl hrun d_Z_join_17 (fun x_1 hrun => ?_)
    refine g_if_eq (tgt := 23) hx hb d_Z_join_18 (by decide) hrun (fun _ hrun => ?_) (fun _ hrun => ?_)
    · refine lv_iinc (v := (i2 + 1)) (lv' := [(2, .int (i2 + 1)), (0, .ref a_Z), (1, .int i1)]) hx hb d_Z_join_23 hl (k := 2) rfl rfl (by decide) rfl (fun ls hl => ?_)
      refine lv_goto (tgt := 4) hx hb d_Z_join_26 (by decide) ?_
      exact hk4 i1 (i2 + 1) Z_generators Z_thrownCode Z_generator Z_hand hrun H locs ls hP hD hS (lv_sub hl [1, 2, 0] rfl)
    · refine lv_iconst (v := 1) hx hb d_Z_join_21 (by decide) ?_
      refine lv_istore_n (lv' := [(1, .int 1), (0, .ref a_Z), (2, .int i2)]) hx hb d_Z_join_22 rfl hl (by decide) rfl (fun ls hl => ?_)
      refine lv_iinc (v := (i2 + 1)) (lv' := [(2, .int (i2 + 1)), (1, .int 1), (0, .ref a_Z)]) hx hb d_Z_join_23 hl (k := 2) rfl rfl (by decide) rfl (fun ls hl => ?_)
      refine lv_goto (tgt := 4) hx hb d_Z_join_26 (by decide) ?_
      exact hk4 1 (i2 + 1) Z_generators Z_thrownCode Z_generator Z_hand hrun H locs ls hP hD hS (lv_sub hl [2, 1, 0] rfl)
theorem v_zjoin_4 (X : gX) (D : va_G) (cI cL cZ : ClassId) (a_Z a_Z_generator a_Z_hand a_Z_mono a_Z_degree a_Z_has a_Z_row a_Z_work a_Z_basis a_Z_rest a_Z_product a_Z_known a_Z_lead a_Z_tail a_Z_word a_Z_vector a_Z_system a_Z_now a_Z_next : Nat) (A : Nat → Prop) (Z_p Z_n Z_order Z_monomials Z_upTo Z_members Z_lefts Z_vars Z_leadsFound Z_words r_ Z_generators_r Z_thrownCode_r : Int32) (Z_generator_r Z_hand_r : Nat → Int32) (F : Nat) (C0 : gC X c_Z_joinb (some .int) 3 "RemnantDictionaryModel" gAll) (hK : va_K D classes (gT cI cL cZ) (gs X)) (hA : ∀ q : Nat, (gs X).heap.size ≤ q → A q) (hN : gN (gs X))  : ∀ (n : Nat) (i1 i2 Z_generators Z_thrownCode : Int32) (Z_generator Z_hand : Nat → Int32), b_zjoin_4 F Z_monomials n i1 i2 Z_generators Z_thrownCode Z_generator Z_hand = some (r_, Z_generators_r, Z_thrownCode_r, Z_generator_r, Z_hand_r) → g_zjoin X D cI cL cZ a_Z a_Z_generator a_Z_hand a_Z_mono a_Z_degree a_Z_has a_Z_row a_Z_work a_Z_basis a_Z_rest a_Z_product a_Z_known a_Z_lead a_Z_tail a_Z_word a_Z_vector a_Z_system a_Z_now a_Z_next A Z_p Z_n Z_order Z_monomials Z_upTo Z_members Z_lefts Z_vars Z_leadsFound Z_words r_ Z_generators_r Z_thrownCode_r Z_generator_r Z_hand_r 4 [(0, .ref a_Z), (1, .int i1), (2, .int i2)] [] Z_generators Z_thrownCode Z_generator Z_hand := by
  intro n
  induction n with
  | zero => intro i1 i2 Z_generators Z_thrownCode Z_generator Z_hand hrun; cases hrun
  | succ n ih =>
    intro i1 i2 Z_generators Z_thrownCode Z_generator Z_hand hrun
    exact w_zjoin_4 X D cI cL cZ a_Z a_Z_generator a_Z_hand a_Z_mono a_Z_degree a_Z_has a_Z_row a_Z_work a_Z_basis a_Z_rest a_Z_product a_Z_known a_Z_lead a_Z_tail a_Z_word a_Z_vector a_Z_system a_Z_now a_Z_next A Z_p Z_n Z_order Z_monomials Z_upTo Z_members Z_lefts Z_vars Z_leadsFound Z_words r_ Z_generators_r Z_thrownCode_r Z_generator_r Z_hand_r F C0 hK hA hN (b_zjoin_4 F Z_monomials n) ih i1 i2 Z_generators Z_thrownCode Z_generator Z_hand hrun
set_option maxHeartbeats 4000000 in
set_option maxRecDepth 100000 in
theorem e_zjoin (X : gX) (D : va_G) (cI cL cZ : ClassId) (a_Z a_Z_generator a_Z_hand a_Z_mono a_Z_degree a_Z_has a_Z_row a_Z_work a_Z_basis a_Z_rest a_Z_product a_Z_known a_Z_lead a_Z_tail a_Z_word a_Z_vector a_Z_system a_Z_now a_Z_next : Nat) (A : Nat → Prop) (Z_p Z_n Z_order Z_monomials Z_upTo Z_members Z_lefts Z_vars Z_leadsFound Z_words r_ Z_generators_r Z_thrownCode_r : Int32) (Z_generator_r Z_hand_r : Nat → Int32) (F : Nat) (C0 : gC X c_Z_joinb (some .int) 3 "RemnantDictionaryModel" gAll) (hK : va_K D classes (gT cI cL cZ) (gs X)) (hA : ∀ q : Nat, (gs X).heap.size ≤ q → A q) (hN : gN (gs X)) (Z_generators Z_thrownCode : Int32) (Z_generator Z_hand : Nat → Int32) (hrun : m_zjoin F Z_monomials Z_generators Z_thrownCode Z_generator Z_hand = some (r_, Z_generators_r, Z_thrownCode_r, Z_generator_r, Z_hand_r)) : g_zjoin X D cI cL cZ a_Z a_Z_generator a_Z_hand a_Z_mono a_Z_degree a_Z_has a_Z_row a_Z_work a_Z_basis a_Z_rest a_Z_product a_Z_known a_Z_lead a_Z_tail a_Z_word a_Z_vector a_Z_system a_Z_now a_Z_next A Z_p Z_n Z_order Z_monomials Z_upTo Z_members Z_lefts Z_vars Z_leadsFound Z_words r_ Z_generators_r Z_thrownCode_r Z_generator_r Z_hand_r 0 [(0, .ref a_Z)] [] Z_generators Z_thrownCode Z_generator Z_hand := by
  have C1 := C0
  obtain ⟨hx, hb, hr, hml, hown, hts, hlocks⟩ := C1
  unfold m_zjoin at hrun
  intro H locs ls hP hD hS hl
  refine lv_iconst (v := 0) hx hb d_Z_join_0 (by decide) ?_
  refine lv_istore_n (lv' := [(1, .int 0), (0, .ref a_Z)]) hx hb d_Z_join_1 rfl hl (by decide) rfl (fun ls hl => ?_)
  refine lv_iconst (v := 0) hx hb d_Z_join_2 (by decide) ?_
  refine lv_istore_n (lv' := [(2, .int 0), (1, .int 0), (0, .ref a_Z)]) hx hb d_Z_join_3 rfl hl (by decide) rfl (fun ls hl => ?_)
  exact v_zjoin_4 X D cI cL cZ a_Z a_Z_generator a_Z_hand a_Z_mono a_Z_degree a_Z_has a_Z_row a_Z_work a_Z_basis a_Z_rest a_Z_product a_Z_known a_Z_lead a_Z_tail a_Z_word a_Z_vector a_Z_system a_Z_now a_Z_next A Z_p Z_n Z_order Z_monomials Z_upTo Z_members Z_lefts Z_vars Z_leadsFound Z_words r_ Z_generators_r Z_thrownCode_r Z_generator_r Z_hand_r F C0 hK hA hN  F 0 0 Z_generators Z_thrownCode Z_generator Z_hand hrun H locs ls hP hD hS (lv_sub hl [2, 1, 0] rfl)
set_option maxHeartbeats 4000000 in
set_option maxRecDepth 100000 in
theorem c_zjoin (l : Launch) (D : va_G) (cI cL cZ : ClassId) (a_Z a_Z_generator a_Z_hand a_Z_mono a_Z_degree a_Z_has a_Z_row a_Z_work a_Z_basis a_Z_rest a_Z_product a_Z_known a_Z_lead a_Z_tail a_Z_word a_Z_vector a_Z_system a_Z_now a_Z_next : Nat) (F : Nat) (Z_thrownCode Z_p Z_n Z_order Z_monomials Z_generators Z_upTo Z_members Z_lefts Z_vars Z_leadsFound Z_words : Int32) (Z_generator Z_hand : Nat → Int32) (sz : Nat) (r_ Z_generators_r Z_thrownCode_r : Int32) (Z_generator_r Z_hand_r : Nat → Int32) (hrun : m_zjoin F Z_monomials Z_generators Z_thrownCode Z_generator Z_hand = some (r_, Z_generators_r, Z_thrownCode_r, Z_generator_r, Z_hand_r)) : Met l y_Z_join (.code y_Z_join c_Z_joinb 3 (some .int) :: gAll) rm_zjoin (va_Pc [.ref a_Z] (gPW D (gT cI cL cZ) (ws_zjoin a_Z a_Z_generator a_Z_hand a_Z_mono a_Z_degree a_Z_has a_Z_row a_Z_work a_Z_basis a_Z_rest a_Z_product a_Z_known a_Z_lead a_Z_tail a_Z_word a_Z_vector a_Z_system a_Z_now a_Z_next cI cL cZ Z_thrownCode Z_p Z_n Z_order Z_monomials Z_generators Z_upTo Z_members Z_lefts Z_vars Z_leadsFound Z_words Z_generator Z_hand) sz)) (va_Qi (fun r (_ : Unit) => r = r_) (gB D (gT cI cL cZ) (va_A (ws_zjoin a_Z a_Z_generator a_Z_hand a_Z_mono a_Z_degree a_Z_has a_Z_row a_Z_work a_Z_basis a_Z_rest a_Z_product a_Z_known a_Z_lead a_Z_tail a_Z_word a_Z_vector a_Z_system a_Z_now a_Z_next cI cL cZ Z_thrownCode Z_p Z_n Z_order Z_monomials Z_generators Z_upTo Z_members Z_lefts Z_vars Z_leadsFound Z_words Z_generator Z_hand) sz) (ws_zjoin a_Z a_Z_generator a_Z_hand a_Z_mono a_Z_degree a_Z_has a_Z_row a_Z_work a_Z_basis a_Z_rest a_Z_product a_Z_known a_Z_lead a_Z_tail a_Z_word a_Z_vector a_Z_system a_Z_now a_Z_next cI cL cZ Z_thrownCode_r Z_p Z_n Z_order Z_monomials Z_generators_r Z_upTo Z_members Z_lefts Z_vars Z_leadsFound Z_words Z_generator_r Z_hand_r)) (va_A (ws_zjoin a_Z a_Z_generator a_Z_hand a_Z_mono a_Z_degree a_Z_has a_Z_row a_Z_work a_Z_basis a_Z_rest a_Z_product a_Z_known a_Z_lead a_Z_tail a_Z_word a_Z_vector a_Z_system a_Z_now a_Z_next cI cL cZ Z_thrownCode Z_p Z_n Z_order Z_monomials Z_generators Z_upTo Z_members Z_lefts Z_vars Z_leadsFound Z_words Z_generator Z_hand) sz)) 0 0 (va_A (ws_zjoin a_Z a_Z_generator a_Z_hand a_Z_mono a_Z_degree a_Z_has a_Z_row a_Z_work a_Z_basis a_Z_rest a_Z_product a_Z_known a_Z_lead a_Z_tail a_Z_word a_Z_vector a_Z_system a_Z_now a_Z_next cI cL cZ Z_thrownCode Z_p Z_n Z_order Z_monomials Z_generators Z_upTo Z_members Z_lefts Z_vars Z_leadsFound Z_words Z_generator Z_hand) sz) := by
  refine Met.ofW (cc := c_Z_joinb) (maxL := 3) (ret := (some .int)) (by decide +kernel) rfl ?_
  intro p e s m args below meth c s₁ B hml hv
  obtain ⟨rfl, hsz, hP, hK, hN, hD0⟩ := hv
  subst hsz
  have hD := hD0.self (sz := s.heap.size)
  have hl := lv_entry ([.ref a_Z]) (n := 3) (Nat.le_of_ble_eq_true rfl)
  rw [lg_entry_eq]
  generalize (lg_sl ([.ref a_Z]) ++ List.replicate (3 - (lg_sl ([.ref a_Z])).length) Slot.unset).toArray = ls at hl ⊢
  exact e_zjoin (p, l, e, s, m, ([.ref a_Z] : List Value).toArray, below, meth, c) D cI cL cZ a_Z a_Z_generator a_Z_hand a_Z_mono a_Z_degree a_Z_has a_Z_row a_Z_work a_Z_basis a_Z_rest a_Z_product a_Z_known a_Z_lead a_Z_tail a_Z_word a_Z_vector a_Z_system a_Z_now a_Z_next (va_A (ws_zjoin a_Z a_Z_generator a_Z_hand a_Z_mono a_Z_degree a_Z_has a_Z_row a_Z_work a_Z_basis a_Z_rest a_Z_product a_Z_known a_Z_lead a_Z_tail a_Z_word a_Z_vector a_Z_system a_Z_now a_Z_next cI cL cZ Z_thrownCode Z_p Z_n Z_order Z_monomials Z_generators Z_upTo Z_members Z_lefts Z_vars Z_leadsFound Z_words Z_generator Z_hand) s.heap.size) Z_p Z_n Z_order Z_monomials Z_upTo Z_members Z_lefts Z_vars Z_leadsFound Z_words r_ Z_generators_r Z_thrownCode_r Z_generator_r Z_hand_r F ⟨B.exec, B.bytes, B.returns, hml, findClass_of_methodNamed B.named, fun w h => atoms_spec (ws := (.code y_Z_join c_Z_joinb 3 (some .int) :: gAll)) B.pre w (List.mem_cons_of_mem _ h), B.notSynchronized⟩ hK (fun q h => Or.inr h) hN Z_generators Z_thrownCode Z_generator Z_hand hrun s.heap [] ls hP hD va_S.rf hl
theorem d_Z_clear_0 : decode c_Z_clearb 0 = .ok (.aload_n 0, 1) := by decide +kernel
theorem d_Z_clear_1 : decode c_Z_clearb 1 = .ok (.iconst 0, 1) := by decide +kernel
theorem d_Z_clear_2 : decode c_Z_clearb 2 = .ok (.putfield 7, 3) := by decide +kernel
theorem d_Z_clear_5 : decode c_Z_clearb 5 = .ok (.aload_n 0, 1) := by decide +kernel
theorem d_Z_clear_6 : decode c_Z_clearb 6 = .ok (.iconst 0, 1) := by decide +kernel
theorem d_Z_clear_7 : decode c_Z_clearb 7 = .ok (.putfield 32, 3) := by decide +kernel
theorem d_Z_clear_10 : decode c_Z_clearb 10 = .ok (.iconst 0, 1) := by decide +kernel
theorem d_Z_clear_11 : decode c_Z_clearb 11 = .ok (.istore_n 1, 1) := by decide +kernel
theorem d_Z_clear_12 : decode c_Z_clearb 12 = .ok (.iload_n 1, 1) := by decide +kernel
theorem d_Z_clear_13 : decode c_Z_clearb 13 = .ok (.bipush 126, 2) := by decide +kernel
theorem d_Z_clear_15 : decode c_Z_clearb 15 = .ok (.if_icmp .ge 16, 3) := by decide +kernel
theorem d_Z_clear_18 : decode c_Z_clearb 18 = .ok (.aload_n 0, 1) := by decide +kernel
theorem d_Z_clear_19 : decode c_Z_clearb 19 = .ok (.getfield 38, 3) := by decide +kernel
theorem d_Z_clear_22 : decode c_Z_clearb 22 = .ok (.iload_n 1, 1) := by decide +kernel
theorem d_Z_clear_23 : decode c_Z_clearb 23 = .ok (.iconst 0, 1) := by decide +kernel
theorem d_Z_clear_24 : decode c_Z_clearb 24 = .ok (.iastore, 1) := by decide +kernel
theorem d_Z_clear_25 : decode c_Z_clearb 25 = .ok (.iinc 1 1, 3) := by decide +kernel
theorem d_Z_clear_28 : decode c_Z_clearb 28 = .ok (.goto (-16), 3) := by decide +kernel
theorem d_Z_clear_31 : decode c_Z_clearb 31 = .ok (.return_, 1) := by decide +kernel
abbrev ws_zclear (a_Z a_Z_hand a_Z_mono a_Z_degree a_Z_generator a_Z_has a_Z_row a_Z_work a_Z_basis a_Z_rest a_Z_product a_Z_known a_Z_lead a_Z_tail a_Z_word a_Z_vector a_Z_system a_Z_now a_Z_next : Nat) (cI cL cZ : ClassId) (Z_thrownCode Z_p Z_n Z_order Z_monomials Z_generators Z_upTo Z_members Z_lefts Z_vars Z_leadsFound Z_words : Int32) (Z_hand : Nat → Int32) : va_W := [(a_Z, .inr (5, [.int Z_thrownCode, .int Z_p, .int Z_n, .int Z_order, .int Z_monomials, .ref a_Z_mono, .ref a_Z_degree, .int Z_generators, .ref a_Z_generator, .ref a_Z_hand, .int Z_upTo, .ref a_Z_has, .ref a_Z_row, .ref a_Z_work, .ref a_Z_basis, .int Z_members, .int Z_lefts, .int Z_vars, .ref a_Z_rest, .ref a_Z_product, .ref a_Z_known, .int Z_leadsFound, .ref a_Z_lead, .ref a_Z_tail, .int Z_words, .ref a_Z_word, .ref a_Z_vector, .ref a_Z_system, .ref a_Z_now, .ref a_Z_next])), (a_Z_hand, .inl (cI, 126, .inl Z_hand))]
abbrev rm_zclear : Room := { frames := 0, cells := 0, slots := 0, locals := 0 }
abbrev g_zclear (X : gX) (D : va_G) (cI cL cZ : ClassId) (a_Z a_Z_hand a_Z_mono a_Z_degree a_Z_generator a_Z_has a_Z_row a_Z_work a_Z_basis a_Z_rest a_Z_product a_Z_known a_Z_lead a_Z_tail a_Z_word a_Z_vector a_Z_system a_Z_now a_Z_next : Nat) (A : Nat → Prop) (Z_p Z_n Z_order Z_monomials Z_upTo Z_members Z_lefts Z_vars Z_leadsFound Z_words Z_generators_r Z_thrownCode_r : Int32) (Z_hand_r : Nat → Int32) (pc : Nat) (lv : List (Nat × Value)) (st : List Value) (Z_generators Z_thrownCode : Int32) (Z_hand : Nat → Int32) : Prop := ∀ (H : Heap) (locs : List Loc) (ls : Array Slot), va_P D classes (ws_zclear a_Z a_Z_hand a_Z_mono a_Z_degree a_Z_generator a_Z_has a_Z_row a_Z_work a_Z_basis a_Z_rest a_Z_product a_Z_known a_Z_lead a_Z_tail a_Z_word a_Z_vector a_Z_system a_Z_now a_Z_next cI cL cZ Z_thrownCode Z_p Z_n Z_order Z_monomials Z_generators Z_upTo Z_members Z_lefts Z_vars Z_leadsFound Z_words Z_hand) H → va_D A (ws_zclear a_Z a_Z_hand a_Z_mono a_Z_degree a_Z_generator a_Z_has a_Z_row a_Z_work a_Z_basis a_Z_rest a_Z_product a_Z_known a_Z_lead a_Z_tail a_Z_word a_Z_vector a_Z_system a_Z_now a_Z_next cI cL cZ Z_thrownCode Z_p Z_n Z_order Z_monomials Z_generators Z_upTo Z_members Z_lefts Z_vars Z_leadsFound Z_words Z_hand) → va_S A (gs X).heap H locs → lv_has ls 2 lv → gWW X rm_zclear H locs 0 0 (MQ (gbl X) (va_Qv (fun _ : Unit => True) (gB D (gT cI cL cZ) A (ws_zclear a_Z a_Z_hand a_Z_mono a_Z_degree a_Z_generator a_Z_has a_Z_row a_Z_work a_Z_basis a_Z_rest a_Z_product a_Z_known a_Z_lead a_Z_tail a_Z_word a_Z_vector a_Z_system a_Z_now a_Z_next cI cL cZ Z_thrownCode_r Z_p Z_n Z_order Z_monomials Z_generators_r Z_upTo Z_members Z_lefts Z_vars Z_leadsFound Z_words Z_hand_r)) A) (ga X) (gs X) 0 0 A) (F0 (gm X) pc ls st)
set_option maxHeartbeats 4000000 in
set_option maxRecDepth 100000 in
theorem w_zclear_12 (X : gX) (D : va_G) (cI cL cZ : ClassId) (a_Z a_Z_hand a_Z_mono a_Z_degree a_Z_generator a_Z_has a_Z_row a_Z_work a_Z_basis a_Z_rest a_Z_product a_Z_known a_Z_lead a_Z_tail a_Z_word a_Z_vector a_Z_system a_Z_now a_Z_next : Nat) (A : Nat → Prop) (Z_p Z_n Z_order Z_monomials Z_upTo Z_members Z_lefts Z_vars Z_leadsFound Z_words Z_generators_r Z_thrownCode_r : Int32) (Z_hand_r : Nat → Int32) (F : Nat) (C0 : gC X c_Z_clearb none 2 "RemnantDictionaryModel" gAll) (hK : va_K D classes (gT cI cL cZ) (gs X)) (hA : ∀ q : Nat, (gs X).heap.size ≤ q → A q) (hN : gN (gs X)) (k12 : Int32 → Int32 → Int32 → (Nat → Int32) → Option (Int32 × Int32 × (Nat → Int32))) (hk12 : ∀ (i1 Z_generators Z_thrownCode : Int32) (Z_hand : Nat → Int32), k12 i1 Z_generators Z_thrownCode Z_hand = some (Z_generators_r, Z_thrownCode_r, Z_hand_r) → g_zclear X D cI cL cZ a_Z a_Z_hand a_Z_mono a_Z_degree a_Z_generator a_Z_has a_Z_row a_Z_work a_Z_basis a_Z_rest a_Z_product a_Z_known a_Z_lead a_Z_tail a_Z_word a_Z_vector a_Z_system a_Z_now a_Z_next A Z_p Z_n Z_order Z_monomials Z_upTo Z_members Z_lefts Z_vars Z_leadsFound Z_words Z_generators_r Z_thrownCode_r Z_hand_r 12 [(0, .ref a_Z), (1, .int i1)] [] Z_generators Z_thrownCode Z_hand) (i1 Z_generators Z_thrownCode : Int32) (Z_hand : Nat → Int32) (hrun : s_zclear_12 F k12 i1 Z_generators Z_thrownCode Z_hand = some (Z_generators_r, Z_thrownCode_r, Z_hand_r)) : g_zclear X D cI cL cZ a_Z a_Z_hand a_Z_mono a_Z_degree a_Z_generator a_Z_has a_Z_row a_Z_work a_Z_basis a_Z_rest a_Z_product a_Z_known a_Z_lead a_Z_tail a_Z_word a_Z_vector a_Z_system a_Z_now a_Z_next A Z_p Z_n Z_order Z_monomials Z_upTo Z_members Z_lefts Z_vars Z_leadsFound Z_words Z_generators_r Z_thrownCode_r Z_hand_r 12 [(0, .ref a_Z), (1, .int i1)] [] Z_generators Z_thrownCode Z_hand := by
  have C1 := C0
  obtain ⟨hx, hb, hr, hml, hown, hts, hlocks⟩ := C1
  unfold s_zclear_12 at hrun
  intro H locs ls hP hD hS hl
  refine lv_iload_n hx hb d_Z_clear_12 rfl (lv_at hl 1 rfl) ?_
  refine lv_bipush (v := 126) hx hb d_Z_clear_13 (by decide) ?_
  refine g_icmp_ge (tgt := 31) hx hb d_Z_clear_15 (by decide) hrun (fun _ hrun => ?_) (fun _ hrun => ?_)
  · cases hrun
    exact W.vret hx hb hr (fun t ht hW => ⟨⟨(), rfl, trivial, gB_of ht hW.alike hP hK hD⟩, hS.F ht⟩) hS.2.2 d_Z_clear_31
  · refine lv_aload_n hx hb d_Z_clear_18 rfl (lv_at hl 0 rfl) ?_
    refine va_get (D := D) (ci := 5) (v := .ref a_Z_hand) (C := "RemnantDictionaryModel") (T := T_Z) (N := 30) hx hb hts iw_Z hown hK hP 0 rfl rfl 9 (by decide) (hts _ k_379) (fun _ h9 => h9) rfl d_Z_clear_19 ?_
    refine lv_iload_n hx hb d_Z_clear_22 rfl (lv_at hl 1 rfl) ?_
    refine lv_iconst (v := 0) hx hb d_Z_clear_23 (by decide) ?_
    refine g_iast hx hb hK hP hD hS 1 0 rfl rfl hrun d_Z_clear_24 (fun Z_hand_1 hrun H locs (hP : va_P D classes (ws_zclear a_Z a_Z_hand a_Z_mono a_Z_degree a_Z_generator a_Z_has a_Z_row a_Z_work a_Z_basis a_Z_rest a_Z_product a_Z_known a_Z_lead a_Z_tail a_Z_word a_Z_vector a_Z_system a_Z_now a_Z_next cI cL cZ Z_thrownCode Z_p Z_n Z_order Z_monomials Z_generators Z_upTo Z_members Z_lefts Z_vars Z_leadsFound Z_words Z_hand_1) H) (hD : va_D A (ws_zclear a_Z a_Z_hand a_Z_mono a_Z_degree a_Z_generator a_Z_has a_Z_row a_Z_work a_Z_basis a_Z_rest a_Z_product a_Z_known a_Z_lead a_Z_tail a_Z_word a_Z_vector a_Z_system a_Z_now a_Z_next cI cL cZ Z_thrownCode Z_p Z_n Z_order Z_monomials Z_generators Z_upTo Z_members Z_lefts Z_vars Z_leadsFound Z_words Z_hand_1)) hS => ?_)
    refine lv_iinc (v := (i1 + 1)) (lv' := [(1, .int (i1 + 1)), (0, .ref a_Z)]) hx hb d_Z_clear_25 hl (k := 1) rfl rfl (by decide) rfl (fun ls hl => ?_)
    refine lv_goto (tgt := 12) hx hb d_Z_clear_28 (by decide) ?_
    exact hk12 (i1 + 1) Z_generators Z_thrownCode Z_hand_1 hrun H locs ls hP hD hS (lv_sub hl [1, 0] rfl)
theorem v_zclear_12 (X : gX) (D : va_G) (cI cL cZ : ClassId) (a_Z a_Z_hand a_Z_mono a_Z_degree a_Z_generator a_Z_has a_Z_row a_Z_work a_Z_basis a_Z_rest a_Z_product a_Z_known a_Z_lead a_Z_tail a_Z_word a_Z_vector a_Z_system a_Z_now a_Z_next : Nat) (A : Nat → Prop) (Z_p Z_n Z_order Z_monomials Z_upTo Z_members Z_lefts Z_vars Z_leadsFound Z_words Z_generators_r Z_thrownCode_r : Int32) (Z_hand_r : Nat → Int32) (F : Nat) (C0 : gC X c_Z_clearb none 2 "RemnantDictionaryModel" gAll) (hK : va_K D classes (gT cI cL cZ) (gs X)) (hA : ∀ q : Nat, (gs X).heap.size ≤ q → A q) (hN : gN (gs X))  : ∀ (n : Nat) (i1 Z_generators Z_thrownCode : Int32) (Z_hand : Nat → Int32), b_zclear_12 F n i1 Z_generators Z_thrownCode Z_hand = some (Z_generators_r, Z_thrownCode_r, Z_hand_r) → g_zclear X D cI cL cZ a_Z a_Z_hand a_Z_mono a_Z_degree a_Z_generator a_Z_has a_Z_row a_Z_work a_Z_basis a_Z_rest a_Z_product a_Z_known a_Z_lead a_Z_tail a_Z_word a_Z_vector a_Z_system a_Z_now a_Z_next A Z_p Z_n Z_order Z_monomials Z_upTo Z_members Z_lefts Z_vars Z_leadsFound Z_words Z_generators_r Z_thrownCode_r Z_hand_r 12 [(0, .ref a_Z), (1, .int i1)] [] Z_generators Z_thrownCode Z_hand := by
  intro n
  induction n with
  | zero => intro i1 Z_generators Z_thrownCode Z_hand hrun; cases hrun
  | succ n ih =>
    intro i1 Z_generators Z_thrownCode Z_hand hrun
    exact w_zclear_12 X D cI cL cZ a_Z a_Z_hand a_Z_mono a_Z_degree a_Z_generator a_Z_has a_Z_row a_Z_work a_Z_basis a_Z_rest a_Z_product a_Z_known a_Z_lead a_Z_tail a_Z_word a_Z_vector a_Z_system a_Z_now a_Z_next A Z_p Z_n Z_order Z_monomials Z_upTo Z_members Z_lefts Z_vars Z_leadsFound Z_words Z_generators_r Z_thrownCode_r Z_hand_r F C0 hK hA hN (b_zclear_12 F n) ih i1 Z_generators Z_thrownCode Z_hand hrun
set_option maxHeartbeats 4000000 in
set_option maxRecDepth 100000 in
theorem e_zclear (X : gX) (D : va_G) (cI cL cZ : ClassId) (a_Z a_Z_hand a_Z_mono a_Z_degree a_Z_generator a_Z_has a_Z_row a_Z_work a_Z_basis a_Z_rest a_Z_product a_Z_known a_Z_lead a_Z_tail a_Z_word a_Z_vector a_Z_system a_Z_now a_Z_next : Nat) (A : Nat → Prop) (Z_p Z_n Z_order Z_monomials Z_upTo Z_members Z_lefts Z_vars Z_leadsFound Z_words Z_generators_r Z_thrownCode_r : Int32) (Z_hand_r : Nat → Int32) (F : Nat) (C0 : gC X c_Z_clearb none 2 "RemnantDictionaryModel" gAll) (hK : va_K D classes (gT cI cL cZ) (gs X)) (hA : ∀ q : Nat, (gs X).heap.size ≤ q → A q) (hN : gN (gs X)) (Z_generators Z_thrownCode : Int32) (Z_hand : Nat → Int32) (hrun : m_zclear F Z_generators Z_thrownCode Z_hand = some (Z_generators_r, Z_thrownCode_r, Z_hand_r)) : g_zclear X D cI cL cZ a_Z a_Z_hand a_Z_mono a_Z_degree a_Z_generator a_Z_has a_Z_row a_Z_work a_Z_basis a_Z_rest a_Z_product a_Z_known a_Z_lead a_Z_tail a_Z_word a_Z_vector a_Z_system a_Z_now a_Z_next A Z_p Z_n Z_order Z_monomials Z_upTo Z_members Z_lefts Z_vars Z_leadsFound Z_words Z_generators_r Z_thrownCode_r Z_hand_r 0 [(0, .ref a_Z)] [] Z_generators Z_thrownCode Z_hand := by
  have C1 := C0
  obtain ⟨hx, hb, hr, hml, hown, hts, hlocks⟩ := C1
  unfold m_zclear at hrun
  intro H locs ls hP hD hS hl
  refine lv_aload_n hx hb d_Z_clear_0 rfl (lv_at hl 0 rfl) ?_
  refine lv_iconst (v := 0) hx hb d_Z_clear_1 (by decide) ?_
  refine va_put (D := D) (ci := 5) (v := .int 0) (ty := .int) (C := "RemnantDictionaryModel") (T := T_Z) (N := 30) hx hb hts iw_Z ty_Z ty_Z_ok nm_Z hown hK hP hD hS 0 rfl rfl 0 (by decide) (hts _ k_430) (fun _ h9 => h9) rfl (by decide +kernel) rfl rfl (Nat.le_of_ble_eq_true rfl) d_Z_clear_2 (fun H locs (hP : va_P D classes (ws_zclear a_Z a_Z_hand a_Z_mono a_Z_degree a_Z_generator a_Z_has a_Z_row a_Z_work a_Z_basis a_Z_rest a_Z_product a_Z_known a_Z_lead a_Z_tail a_Z_word a_Z_vector a_Z_system a_Z_now a_Z_next cI cL cZ 0 Z_p Z_n Z_order Z_monomials Z_generators Z_upTo Z_members Z_lefts Z_vars Z_leadsFound Z_words Z_hand) H) (hD : va_D A (ws_zclear a_Z a_Z_hand a_Z_mono a_Z_degree a_Z_generator a_Z_has a_Z_row a_Z_work a_Z_basis a_Z_rest a_Z_product a_Z_known a_Z_lead a_Z_tail a_Z_word a_Z_vector a_Z_system a_Z_now a_Z_next cI cL cZ 0 Z_p Z_n Z_order Z_monomials Z_generators Z_upTo Z_members Z_lefts Z_vars Z_leadsFound Z_words Z_hand)) hS => ?_)
  refine lv_aload_n hx hb d_Z_clear_5 rfl (lv_at hl 0 rfl) ?_
  refine lv_iconst (v := 0) hx hb d_Z_clear_6 (by decide) ?_
  refine va_put (D := D) (ci := 5) (v := .int 0) (ty := .int) (C := "RemnantDictionaryModel") (T := T_Z) (N := 30) hx hb hts iw_Z ty_Z ty_Z_ok nm_Z hown hK hP hD hS 0 rfl rfl 7 (by decide) (hts _ k_386) (fun _ h9 => h9) rfl (by decide +kernel) rfl rfl (Nat.le_of_ble_eq_true rfl) d_Z_clear_7 (fun H locs (hP : va_P D classes (ws_zclear a_Z a_Z_hand a_Z_mono a_Z_degree a_Z_generator a_Z_has a_Z_row a_Z_work a_Z_basis a_Z_rest a_Z_product a_Z_known a_Z_lead a_Z_tail a_Z_word a_Z_vector a_Z_system a_Z_now a_Z_next cI cL cZ 0 Z_p Z_n Z_order Z_monomials 0 Z_upTo Z_members Z_lefts Z_vars Z_leadsFound Z_words Z_hand) H) (hD : va_D A (ws_zclear a_Z a_Z_hand a_Z_mono a_Z_degree a_Z_generator a_Z_has a_Z_row a_Z_work a_Z_basis a_Z_rest a_Z_product a_Z_known a_Z_lead a_Z_tail a_Z_word a_Z_vector a_Z_system a_Z_now a_Z_next cI cL cZ 0 Z_p Z_n Z_order Z_monomials 0 Z_upTo Z_members Z_lefts Z_vars Z_leadsFound Z_words Z_hand)) hS => ?_)
  refine lv_iconst (v := 0) hx hb d_Z_clear_10 (by decide) ?_
  refine lv_istore_n (lv' := [(1, .int 0), (0, .ref a_Z)]) hx hb d_Z_clear_11 rfl hl (by decide) rfl (fun ls hl => ?_)
  exact v_zclear_12 X D cI cL cZ a_Z a_Z_hand a_Z_mono a_Z_degree a_Z_generator a_Z_has a_Z_row a_Z_work a_Z_basis a_Z_rest a_Z_product a_Z_known a_Z_lead a_Z_tail a_Z_word a_Z_vector a_Z_system a_Z_now a_Z_next A Z_p Z_n Z_order Z_monomials Z_upTo Z_members Z_lefts Z_vars Z_leadsFound Z_words Z_generators_r Z_thrownCode_r Z_hand_r F C0 hK hA hN  F 0 0 0 Z_hand hrun H locs ls hP hD hS (lv_sub hl [1, 0] rfl)
set_option maxHeartbeats 4000000 in
set_option maxRecDepth 100000 in
theorem c_zclear (l : Launch) (D : va_G) (cI cL cZ : ClassId) (a_Z a_Z_hand a_Z_mono a_Z_degree a_Z_generator a_Z_has a_Z_row a_Z_work a_Z_basis a_Z_rest a_Z_product a_Z_known a_Z_lead a_Z_tail a_Z_word a_Z_vector a_Z_system a_Z_now a_Z_next : Nat) (F : Nat) (Z_thrownCode Z_p Z_n Z_order Z_monomials Z_generators Z_upTo Z_members Z_lefts Z_vars Z_leadsFound Z_words : Int32) (Z_hand : Nat → Int32) (sz : Nat) (Z_generators_r Z_thrownCode_r : Int32) (Z_hand_r : Nat → Int32) (hrun : m_zclear F Z_generators Z_thrownCode Z_hand = some (Z_generators_r, Z_thrownCode_r, Z_hand_r)) : Met l y_Z_clear (.code y_Z_clear c_Z_clearb 2 none :: gAll) rm_zclear (va_Pc [.ref a_Z] (gPW D (gT cI cL cZ) (ws_zclear a_Z a_Z_hand a_Z_mono a_Z_degree a_Z_generator a_Z_has a_Z_row a_Z_work a_Z_basis a_Z_rest a_Z_product a_Z_known a_Z_lead a_Z_tail a_Z_word a_Z_vector a_Z_system a_Z_now a_Z_next cI cL cZ Z_thrownCode Z_p Z_n Z_order Z_monomials Z_generators Z_upTo Z_members Z_lefts Z_vars Z_leadsFound Z_words Z_hand) sz)) (va_Qv (fun _ : Unit => True) (gB D (gT cI cL cZ) (va_A (ws_zclear a_Z a_Z_hand a_Z_mono a_Z_degree a_Z_generator a_Z_has a_Z_row a_Z_work a_Z_basis a_Z_rest a_Z_product a_Z_known a_Z_lead a_Z_tail a_Z_word a_Z_vector a_Z_system a_Z_now a_Z_next cI cL cZ Z_thrownCode Z_p Z_n Z_order Z_monomials Z_generators Z_upTo Z_members Z_lefts Z_vars Z_leadsFound Z_words Z_hand) sz) (ws_zclear a_Z a_Z_hand a_Z_mono a_Z_degree a_Z_generator a_Z_has a_Z_row a_Z_work a_Z_basis a_Z_rest a_Z_product a_Z_known a_Z_lead a_Z_tail a_Z_word a_Z_vector a_Z_system a_Z_now a_Z_next cI cL cZ Z_thrownCode_r Z_p Z_n Z_order Z_monomials Z_generators_r Z_upTo Z_members Z_lefts Z_vars Z_leadsFound Z_words Z_hand_r)) (va_A (ws_zclear a_Z a_Z_hand a_Z_mono a_Z_degree a_Z_generator a_Z_has a_Z_row a_Z_work a_Z_basis a_Z_rest a_Z_product a_Z_known a_Z_lead a_Z_tail a_Z_word a_Z_vector a_Z_system a_Z_now a_Z_next cI cL cZ Z_thrownCode Z_p Z_n Z_order Z_monomials Z_generators Z_upTo Z_members Z_lefts Z_vars Z_leadsFound Z_words Z_hand) sz)) 0 0 (va_A (ws_zclear a_Z a_Z_hand a_Z_mono a_Z_degree a_Z_generator a_Z_has a_Z_row a_Z_work a_Z_basis a_Z_rest a_Z_product a_Z_known a_Z_lead a_Z_tail a_Z_word a_Z_vector a_Z_system a_Z_now a_Z_next cI cL cZ Z_thrownCode Z_p Z_n Z_order Z_monomials Z_generators Z_upTo Z_members Z_lefts Z_vars Z_leadsFound Z_words Z_hand) sz) := by
  refine Met.ofW (cc := c_Z_clearb) (maxL := 2) (ret := none) (by decide +kernel) rfl ?_
  intro p e s m args below meth c s₁ B hml hv
  obtain ⟨rfl, hsz, hP, hK, hN, hD0⟩ := hv
  subst hsz
  have hD := hD0.self (sz := s.heap.size)
  have hl := lv_entry ([.ref a_Z]) (n := 2) (Nat.le_of_ble_eq_true rfl)
  rw [lg_entry_eq]
  generalize (lg_sl ([.ref a_Z]) ++ List.replicate (2 - (lg_sl ([.ref a_Z])).length) Slot.unset).toArray = ls at hl ⊢
  exact e_zclear (p, l, e, s, m, ([.ref a_Z] : List Value).toArray, below, meth, c) D cI cL cZ a_Z a_Z_hand a_Z_mono a_Z_degree a_Z_generator a_Z_has a_Z_row a_Z_work a_Z_basis a_Z_rest a_Z_product a_Z_known a_Z_lead a_Z_tail a_Z_word a_Z_vector a_Z_system a_Z_now a_Z_next (va_A (ws_zclear a_Z a_Z_hand a_Z_mono a_Z_degree a_Z_generator a_Z_has a_Z_row a_Z_work a_Z_basis a_Z_rest a_Z_product a_Z_known a_Z_lead a_Z_tail a_Z_word a_Z_vector a_Z_system a_Z_now a_Z_next cI cL cZ Z_thrownCode Z_p Z_n Z_order Z_monomials Z_generators Z_upTo Z_members Z_lefts Z_vars Z_leadsFound Z_words Z_hand) s.heap.size) Z_p Z_n Z_order Z_monomials Z_upTo Z_members Z_lefts Z_vars Z_leadsFound Z_words Z_generators_r Z_thrownCode_r Z_hand_r F ⟨B.exec, B.bytes, B.returns, hml, findClass_of_methodNamed B.named, fun w h => atoms_spec (ws := (.code y_Z_clear c_Z_clearb 2 none :: gAll)) B.pre w (List.mem_cons_of_mem _ h), B.notSynchronized⟩ hK (fun q h => Or.inr h) hN Z_generators Z_thrownCode Z_hand hrun s.heap [] ls hP hD va_S.rf hl
theorem d_Z_leading_0 : decode c_Z_leadingb 0 = .ok (.iconst 0, 1) := by decide +kernel
theorem d_Z_leading_1 : decode c_Z_leadingb 1 = .ok (.istore_n 2, 1) := by decide +kernel
theorem d_Z_leading_2 : decode c_Z_leadingb 2 = .ok (.iload_n 2, 1) := by decide +kernel
theorem d_Z_leading_3 : decode c_Z_leadingb 3 = .ok (.aload_n 0, 1) := by decide +kernel
theorem d_Z_leading_4 : decode c_Z_leadingb 4 = .ok (.getfield 57, 3) := by decide +kernel
theorem d_Z_leading_7 : decode c_Z_leadingb 7 = .ok (.if_icmp .ge 29, 3) := by decide +kernel
theorem d_Z_leading_10 : decode c_Z_leadingb 10 = .ok (.aload_n 0, 1) := by decide +kernel
theorem d_Z_leading_11 : decode c_Z_leadingb 11 = .ok (.getfield 25, 3) := by decide +kernel
theorem d_Z_leading_14 : decode c_Z_leadingb 14 = .ok (.aload_n 0, 1) := by decide +kernel
theorem d_Z_leading_15 : decode c_Z_leadingb 15 = .ok (.getfield 54, 3) := by decide +kernel
theorem d_Z_leading_18 : decode c_Z_leadingb 18 = .ok (.iload_n 2, 1) := by decide +kernel
theorem d_Z_leading_19 : decode c_Z_leadingb 19 = .ok (.iaload, 1) := by decide +kernel
theorem d_Z_leading_20 : decode c_Z_leadingb 20 = .ok (.iaload, 1) := by decide +kernel
theorem d_Z_leading_21 : decode c_Z_leadingb 21 = .ok (.iload_n 1, 1) := by decide +kernel
theorem d_Z_leading_22 : decode c_Z_leadingb 22 = .ok (.invokestatic 156, 3) := by decide +kernel
theorem d_Z_leading_25 : decode c_Z_leadingb 25 = .ok (.ifCond .eq 5, 3) := by decide +kernel
theorem d_Z_leading_28 : decode c_Z_leadingb 28 = .ok (.iconst 1, 1) := by decide +kernel
theorem d_Z_leading_29 : decode c_Z_leadingb 29 = .ok (.ireturn, 1) := by decide +kernel
theorem d_Z_leading_30 : decode c_Z_leadingb 30 = .ok (.iinc 2 1, 3) := by decide +kernel
theorem d_Z_leading_33 : decode c_Z_leadingb 33 = .ok (.goto (-31), 3) := by decide +kernel
theorem d_Z_leading_36 : decode c_Z_leadingb 36 = .ok (.iconst 0, 1) := by decide +kernel
theorem d_Z_leading_37 : decode c_Z_leadingb 37 = .ok (.ireturn, 1) := by decide +kernel
abbrev ws_zleading (a_Z a_Z_mono a_Z_basis a_Z_degree a_Z_generator a_Z_hand a_Z_has a_Z_row a_Z_work a_Z_rest a_Z_product a_Z_known a_Z_lead a_Z_tail a_Z_word a_Z_vector a_Z_system a_Z_now a_Z_next : Nat) (cI cL cZ : ClassId) (Z_thrownCode Z_p Z_n Z_order Z_monomials Z_generators Z_upTo Z_members Z_lefts Z_vars Z_leadsFound Z_words : Int32) (Z_mono Z_basis : Nat → Int32) : va_W := [(a_Z, .inr (5, [.int Z_thrownCode, .int Z_p, .int Z_n, .int Z_order, .int Z_monomials, .ref a_Z_mono, .ref a_Z_degree, .int Z_generators, .ref a_Z_generator, .ref a_Z_hand, .int Z_upTo, .ref a_Z_has, .ref a_Z_row, .ref a_Z_work, .ref a_Z_basis, .int Z_members, .int Z_lefts, .int Z_vars, .ref a_Z_rest, .ref a_Z_product, .ref a_Z_known, .int Z_leadsFound, .ref a_Z_lead, .ref a_Z_tail, .int Z_words, .ref a_Z_word, .ref a_Z_vector, .ref a_Z_system, .ref a_Z_now, .ref a_Z_next])), (a_Z_mono, .inl (cI, 126, .inl Z_mono)), (a_Z_basis, .inl (cI, 126, .inl Z_basis))]
abbrev rm_zleading : Room := { frames := 2, cells := 0, slots := 0, locals := 43 }
abbrev g_zleading (X : gX) (r_ : Int32) (pc : Nat) (lv : List (Nat × Value)) (st : List Value) : Prop := ∀ ls : Array Slot, lv_has ls 3 lv → gWW X rm_zleading (gs X).heap [] 0 0 (MQ (gbl X) (vp_Si (fun r => r = r_)) (ga X) (gs X) 0 0 (fun _ => False)) (F0 (gm X) pc ls st)
set_option maxHeartbeats 4000000 in
set_option maxRecDepth 100000 in
theorem w_zleading_2 (X : gX) (D : va_G) (cI cL cZ : ClassId) (a_Z a_Z_mono a_Z_basis a_Z_degree a_Z_generator a_Z_hand a_Z_has a_Z_row a_Z_work a_Z_rest a_Z_product a_Z_known a_Z_lead a_Z_tail a_Z_word a_Z_vector a_Z_system a_Z_now a_Z_next : Nat) (F : Nat) (Z_thrownCode Z_p Z_n Z_order Z_monomials Z_generators Z_upTo Z_members Z_lefts Z_vars Z_leadsFound Z_words : Int32) (Z_mono Z_basis : Nat → Int32) (r_ : Int32) (C0 : gC X c_Z_leadingb (some .boolean) 3 "RemnantDictionaryModel" gAll) (hK : va_K D classes (gT cI cL cZ) (gs X)) (hP : va_P D classes (ws_zleading a_Z a_Z_mono a_Z_basis a_Z_degree a_Z_generator a_Z_hand a_Z_has a_Z_row a_Z_work a_Z_rest a_Z_product a_Z_known a_Z_lead a_Z_tail a_Z_word a_Z_vector a_Z_system a_Z_now a_Z_next cI cL cZ Z_thrownCode Z_p Z_n Z_order Z_monomials Z_generators Z_upTo Z_members Z_lefts Z_vars Z_leadsFound Z_words Z_mono Z_basis) (gs X).heap) (hN : gN (gs X)) (k2 : Int32 → Int32 → Option (Int32)) (hk2 : ∀ (i1 i2 : Int32), k2 i1 i2 = some r_ → g_zleading X r_ 2 [(0, .ref a_Z), (1, .int i1), (2, .int i2)] []) (i1 i2 : Int32) (hrun : s_zleading_2 F Z_members Z_mono Z_basis k2 i1 i2 = some r_) : g_zleading X r_ 2 [(0, .ref a_Z), (1, .int i1), (2, .int i2)] [] := by
  have C1 := C0
  obtain ⟨hx, hb, hr, hml, hown, hts, hlocks⟩ := C1
  unfold s_zleading_2 at hrun
  intro ls hl
  refine lv_iload_n hx hb d_Z_leading_2 rfl (lv_at hl 2 rfl) ?_
  refine lv_aload_n hx hb d_Z_leading_3 rfl (lv_at hl 0 rfl) ?_
  refine va_get (D := D) (ci := 5) (v := .int Z_members) (C := "RemnantDictionaryModel") (T := T_Z) (N := 30) hx hb hts iw_Z hown hK hP 0 rfl rfl 15 (by decide) (hts _ k_429) (fun _ h9 => h9) rfl d_Z_leading_4 ?_
  refine g_icmp_ge (tgt := 36) hx hb d_Z_leading_7 (by decide) hrun (fun _ hrun => ?_) (fun _ hrun => ?_)
  · refine lv_iconst (v := 0) hx hb d_Z_leading_36 (by decide) ?_
    cases hrun
    exact W.zret hx hb hr rfl (fun t ht hW => ⟨_, rfl, rfl, ht⟩) (fun q h => absurd h List.not_mem_nil) d_Z_leading_37
  · refine lv_aload_n hx hb d_Z_leading_10 rfl (lv_at hl 0 rfl) ?_
    refine va_get (D := D) (ci := 5) (v := .ref a_Z_mono) (C := "RemnantDictionaryModel") (T := T_Z) (N := 30) hx hb hts iw_Z hown hK hP 0 rfl rfl 5 (by decide) (hts _ k_372) (fun _ h9 => h9) rfl d_Z_leading_11 ?_
    refine lv_aload_n hx hb d_Z_leading_14 rfl (lv_at hl 0 rfl) ?_
    refine va_get (D := D) (ci := 5) (v := .ref a_Z_basis) (C := "RemnantDictionaryModel") (T := T_Z) (N := 30) hx hb hts iw_Z hown hK hP 0 rfl rfl 14 (by decide) (hts _ k_428) (fun _ h9 => h9) rfl d_Z_leading_15 ?_
    refine lv_iload_n hx hb d_Z_leading_18 rfl (lv_at hl 2 rfl) ?_
    refine g_iald hx hb hK hP 2 0 rfl rfl hrun d_Z_leading_19 (fun x_1 hrun => ?_)
    refine g_iald hx hb hK hP 1 0 rfl rfl hrun d_Z_leading_20 (fun x_2 hrun => ?_)
    refine lv_iload_n hx hb d_Z_leading_21 rfl (lv_at hl 1 rfl) ?_
    obtain ⟨r_3, hc, hrun⟩ := bd1_s hrun
    refine vp_callSi (W.runS (As := [.int x_2, .int i1]) (rest := []) ⟨hx, hb, hml, hown, hts⟩ (c_zdivides (gl X) F x_2 i1 r_3 hc) (va_cwS 2 hts (gwS k_443 k_442 k_333 k_336) rfl rfl rfl (by decide +kernel) ⟨Nat.le_of_ble_eq_true rfl, Nat.le_of_ble_eq_true rfl⟩) (gpreS0 hN) rfl rfl hl.1 rfl (lv_room (Nat.le_of_ble_eq_true rfl)) d_Z_leading_22 ⟨Nat.le_of_ble_eq_true rfl, Nat.le_of_ble_eq_true rfl⟩) (nm_e ?_)
    refine g_if_eq (tgt := 30) hx hb d_Z_leading_25 (by decide) hrun (fun _ hrun => ?_) (fun _ hrun => ?_)
    · refine lv_iinc (v := (i2 + 1)) (lv' := [(2, .int (i2 + 1)), (0, .ref a_Z), (1, .int i1)]) hx hb d_Z_leading_30 hl (k := 2) rfl rfl (by decide) rfl (fun ls hl => ?_)
      refine lv_goto (tgt := 2) hx hb d_Z_leading_33 (by decide) ?_
      exact hk2 i1 (i2 + 1) hrun ls (lv_sub hl [1, 2, 0] rfl)
    · refine lv_iconst (v := 1) hx hb d_Z_leading_28 (by decide) ?_
      cases hrun
      exact W.zret hx hb hr rfl (fun t ht hW => ⟨_, rfl, rfl, ht⟩) (fun q h => absurd h List.not_mem_nil) d_Z_leading_29
theorem v_zleading_2 (X : gX) (D : va_G) (cI cL cZ : ClassId) (a_Z a_Z_mono a_Z_basis a_Z_degree a_Z_generator a_Z_hand a_Z_has a_Z_row a_Z_work a_Z_rest a_Z_product a_Z_known a_Z_lead a_Z_tail a_Z_word a_Z_vector a_Z_system a_Z_now a_Z_next : Nat) (F : Nat) (Z_thrownCode Z_p Z_n Z_order Z_monomials Z_generators Z_upTo Z_members Z_lefts Z_vars Z_leadsFound Z_words : Int32) (Z_mono Z_basis : Nat → Int32) (r_ : Int32) (C0 : gC X c_Z_leadingb (some .boolean) 3 "RemnantDictionaryModel" gAll) (hK : va_K D classes (gT cI cL cZ) (gs X)) (hP : va_P D classes (ws_zleading a_Z a_Z_mono a_Z_basis a_Z_degree a_Z_generator a_Z_hand a_Z_has a_Z_row a_Z_work a_Z_rest a_Z_product a_Z_known a_Z_lead a_Z_tail a_Z_word a_Z_vector a_Z_system a_Z_now a_Z_next cI cL cZ Z_thrownCode Z_p Z_n Z_order Z_monomials Z_generators Z_upTo Z_members Z_lefts Z_vars Z_leadsFound Z_words Z_mono Z_basis) (gs X).heap) (hN : gN (gs X))  : ∀ (n : Nat) (i1 i2 : Int32), b_zleading_2 F Z_members Z_mono Z_basis n i1 i2 = some r_ → g_zleading X r_ 2 [(0, .ref a_Z), (1, .int i1), (2, .int i2)] [] := by
  intro n
  induction n with
  | zero => intro i1 i2 hrun; cases hrun
  | succ n ih =>
    intro i1 i2 hrun
    exact w_zleading_2 X D cI cL cZ a_Z a_Z_mono a_Z_basis a_Z_degree a_Z_generator a_Z_hand a_Z_has a_Z_row a_Z_work a_Z_rest a_Z_product a_Z_known a_Z_lead a_Z_tail a_Z_word a_Z_vector a_Z_system a_Z_now a_Z_next F Z_thrownCode Z_p Z_n Z_order Z_monomials Z_generators Z_upTo Z_members Z_lefts Z_vars Z_leadsFound Z_words Z_mono Z_basis r_ C0 hK hP hN (b_zleading_2 F Z_members Z_mono Z_basis n) ih i1 i2 hrun
set_option maxHeartbeats 4000000 in
set_option maxRecDepth 100000 in
theorem e_zleading (X : gX) (D : va_G) (cI cL cZ : ClassId) (a_Z a_Z_mono a_Z_basis a_Z_degree a_Z_generator a_Z_hand a_Z_has a_Z_row a_Z_work a_Z_rest a_Z_product a_Z_known a_Z_lead a_Z_tail a_Z_word a_Z_vector a_Z_system a_Z_now a_Z_next : Nat) (F : Nat) (Z_thrownCode Z_p Z_n Z_order Z_monomials Z_generators Z_upTo Z_members Z_lefts Z_vars Z_leadsFound Z_words : Int32) (Z_mono Z_basis : Nat → Int32) (r_ : Int32) (C0 : gC X c_Z_leadingb (some .boolean) 3 "RemnantDictionaryModel" gAll) (hK : va_K D classes (gT cI cL cZ) (gs X)) (hP : va_P D classes (ws_zleading a_Z a_Z_mono a_Z_basis a_Z_degree a_Z_generator a_Z_hand a_Z_has a_Z_row a_Z_work a_Z_rest a_Z_product a_Z_known a_Z_lead a_Z_tail a_Z_word a_Z_vector a_Z_system a_Z_now a_Z_next cI cL cZ Z_thrownCode Z_p Z_n Z_order Z_monomials Z_generators Z_upTo Z_members Z_lefts Z_vars Z_leadsFound Z_words Z_mono Z_basis) (gs X).heap) (hN : gN (gs X)) (i1 : Int32) (hrun : m_zleading F Z_members Z_mono Z_basis i1 = some r_) : g_zleading X r_ 0 [(0, .ref a_Z), (1, .int i1)] [] := by
  have C1 := C0
  obtain ⟨hx, hb, hr, hml, hown, hts, hlocks⟩ := C1
  unfold m_zleading at hrun
  intro ls hl
  refine lv_iconst (v := 0) hx hb d_Z_leading_0 (by decide) ?_
  refine lv_istore_n (lv' := [(2, .int 0), (0, .ref a_Z), (1, .int i1)]) hx hb d_Z_leading_1 rfl hl (by decide) rfl (fun ls hl => ?_)
  exact v_zleading_2 X D cI cL cZ a_Z a_Z_mono a_Z_basis a_Z_degree a_Z_generator a_Z_hand a_Z_has a_Z_row a_Z_work a_Z_rest a_Z_product a_Z_known a_Z_lead a_Z_tail a_Z_word a_Z_vector a_Z_system a_Z_now a_Z_next F Z_thrownCode Z_p Z_n Z_order Z_monomials Z_generators Z_upTo Z_members Z_lefts Z_vars Z_leadsFound Z_words Z_mono Z_basis r_ C0 hK hP hN  F i1 0 hrun ls (lv_sub hl [1, 2, 0] rfl)
set_option maxHeartbeats 4000000 in
set_option maxRecDepth 100000 in
theorem c_zleading (l : Launch) (D : va_G) (cI cL cZ : ClassId) (a_Z a_Z_mono a_Z_basis a_Z_degree a_Z_generator a_Z_hand a_Z_has a_Z_row a_Z_work a_Z_rest a_Z_product a_Z_known a_Z_lead a_Z_tail a_Z_word a_Z_vector a_Z_system a_Z_now a_Z_next : Nat) (F : Nat) (Z_thrownCode Z_p Z_n Z_order Z_monomials Z_generators Z_upTo Z_members Z_lefts Z_vars Z_leadsFound Z_words : Int32) (Z_mono Z_basis : Nat → Int32) (i1 : Int32) (r_ : Int32) (hrun : m_zleading F Z_members Z_mono Z_basis i1 = some r_) : Met l y_Z_leading (.code y_Z_leading c_Z_leadingb 3 (some .boolean) :: gAll) rm_zleading (va_Pc [.ref a_Z, .int i1] (gPR D (gT cI cL cZ) (ws_zleading a_Z a_Z_mono a_Z_basis a_Z_degree a_Z_generator a_Z_hand a_Z_has a_Z_row a_Z_work a_Z_rest a_Z_product a_Z_known a_Z_lead a_Z_tail a_Z_word a_Z_vector a_Z_system a_Z_now a_Z_next cI cL cZ Z_thrownCode Z_p Z_n Z_order Z_monomials Z_generators Z_upTo Z_members Z_lefts Z_vars Z_leadsFound Z_words Z_mono Z_basis))) (vp_Si (fun r => r = r_)) 0 0 (fun _ => False) := by
  refine Met.ofW (cc := c_Z_leadingb) (maxL := 3) (ret := (some .boolean)) (by decide +kernel) rfl ?_
  intro p e s m args below meth c s₁ B hml hv
  obtain ⟨rfl, hP, hK, hN⟩ := hv
  have hl := lv_entry ([.ref a_Z, .int i1]) (n := 3) (Nat.le_of_ble_eq_true rfl)
  rw [lg_entry_eq]
  generalize (lg_sl ([.ref a_Z, .int i1]) ++ List.replicate (3 - (lg_sl ([.ref a_Z, .int i1])).length) Slot.unset).toArray = ls at hl ⊢
  exact e_zleading (p, l, e, s, m, ([.ref a_Z, .int i1] : List Value).toArray, below, meth, c) D cI cL cZ a_Z a_Z_mono a_Z_basis a_Z_degree a_Z_generator a_Z_hand a_Z_has a_Z_row a_Z_work a_Z_rest a_Z_product a_Z_known a_Z_lead a_Z_tail a_Z_word a_Z_vector a_Z_system a_Z_now a_Z_next F Z_thrownCode Z_p Z_n Z_order Z_monomials Z_generators Z_upTo Z_members Z_lefts Z_vars Z_leadsFound Z_words Z_mono Z_basis r_ ⟨B.exec, B.bytes, B.returns, hml, findClass_of_methodNamed B.named, fun w h => atoms_spec (ws := (.code y_Z_leading c_Z_leadingb 3 (some .boolean) :: gAll)) B.pre w (List.mem_cons_of_mem _ h), B.notSynchronized⟩ hK hP hN i1 hrun ls hl
theorem d_Z_restOf_0 : decode c_Z_restOfb 0 = .ok (.iconst 0, 1) := by decide +kernel
theorem d_Z_restOf_1 : decode c_Z_restOfb 1 = .ok (.istore_n 2, 1) := by decide +kernel
theorem d_Z_restOf_2 : decode c_Z_restOfb 2 = .ok (.iload_n 2, 1) := by decide +kernel
theorem d_Z_restOf_3 : decode c_Z_restOfb 3 = .ok (.aload_n 0, 1) := by decide +kernel
theorem d_Z_restOf_4 : decode c_Z_restOfb 4 = .ok (.getfield 60, 3) := by decide +kernel
theorem d_Z_restOf_7 : decode c_Z_restOfb 7 = .ok (.if_icmp .ge 21, 3) := by decide +kernel
theorem d_Z_restOf_10 : decode c_Z_restOfb 10 = .ok (.aload_n 0, 1) := by decide +kernel
theorem d_Z_restOf_11 : decode c_Z_restOfb 11 = .ok (.getfield 66, 3) := by decide +kernel
theorem d_Z_restOf_14 : decode c_Z_restOfb 14 = .ok (.iload_n 2, 1) := by decide +kernel
theorem d_Z_restOf_15 : decode c_Z_restOfb 15 = .ok (.iaload, 1) := by decide +kernel
theorem d_Z_restOf_16 : decode c_Z_restOfb 16 = .ok (.iload_n 1, 1) := by decide +kernel
theorem d_Z_restOf_17 : decode c_Z_restOfb 17 = .ok (.if_icmp .ne 5, 3) := by decide +kernel
theorem d_Z_restOf_20 : decode c_Z_restOfb 20 = .ok (.iload_n 2, 1) := by decide +kernel
theorem d_Z_restOf_21 : decode c_Z_restOfb 21 = .ok (.ireturn, 1) := by decide +kernel
theorem d_Z_restOf_22 : decode c_Z_restOfb 22 = .ok (.iinc 2 1, 3) := by decide +kernel
theorem d_Z_restOf_25 : decode c_Z_restOfb 25 = .ok (.goto (-23), 3) := by decide +kernel
theorem d_Z_restOf_28 : decode c_Z_restOfb 28 = .ok (.iconst (-1), 1) := by decide +kernel
theorem d_Z_restOf_29 : decode c_Z_restOfb 29 = .ok (.ireturn, 1) := by decide +kernel
abbrev ws_zrestOf (a_Z a_Z_rest a_Z_mono a_Z_degree a_Z_generator a_Z_hand a_Z_has a_Z_row a_Z_work a_Z_basis a_Z_product a_Z_known a_Z_lead a_Z_tail a_Z_word a_Z_vector a_Z_system a_Z_now a_Z_next : Nat) (cI cL cZ : ClassId) (Z_thrownCode Z_p Z_n Z_order Z_monomials Z_generators Z_upTo Z_members Z_lefts Z_vars Z_leadsFound Z_words : Int32) (Z_rest : Nat → Int32) : va_W := [(a_Z, .inr (5, [.int Z_thrownCode, .int Z_p, .int Z_n, .int Z_order, .int Z_monomials, .ref a_Z_mono, .ref a_Z_degree, .int Z_generators, .ref a_Z_generator, .ref a_Z_hand, .int Z_upTo, .ref a_Z_has, .ref a_Z_row, .ref a_Z_work, .ref a_Z_basis, .int Z_members, .int Z_lefts, .int Z_vars, .ref a_Z_rest, .ref a_Z_product, .ref a_Z_known, .int Z_leadsFound, .ref a_Z_lead, .ref a_Z_tail, .int Z_words, .ref a_Z_word, .ref a_Z_vector, .ref a_Z_system, .ref a_Z_now, .ref a_Z_next])), (a_Z_rest, .inl (cI, 41, .inl Z_rest))]
abbrev rm_zrestOf : Room := { frames := 0, cells := 0, slots := 0, locals := 0 }
abbrev g_zrestOf (X : gX) (r_ : Int32) (pc : Nat) (lv : List (Nat × Value)) (st : List Value) : Prop := ∀ ls : Array Slot, lv_has ls 3 lv → gWW X rm_zrestOf (gs X).heap [] 0 0 (MQ (gbl X) (vp_Si (fun r => r = r_)) (ga X) (gs X) 0 0 (fun _ => False)) (F0 (gm X) pc ls st)
set_option maxHeartbeats 4000000 in
set_option maxRecDepth 100000 in
theorem w_zrestOf_2 (X : gX) (D : va_G) (cI cL cZ : ClassId) (a_Z a_Z_rest a_Z_mono a_Z_degree a_Z_generator a_Z_hand a_Z_has a_Z_row a_Z_work a_Z_basis a_Z_product a_Z_known a_Z_lead a_Z_tail a_Z_word a_Z_vector a_Z_system a_Z_now a_Z_next : Nat) (F : Nat) (Z_thrownCode Z_p Z_n Z_order Z_monomials Z_generators Z_upTo Z_members Z_lefts Z_vars Z_leadsFound Z_words : Int32) (Z_rest : Nat → Int32) (r_ : Int32) (C0 : gC X c_Z_restOfb (some .int) 3 "RemnantDictionaryModel" gAll) (hK : va_K D classes (gT cI cL cZ) (gs X)) (hP : va_P D classes (ws_zrestOf a_Z a_Z_rest a_Z_mono a_Z_degree a_Z_generator a_Z_hand a_Z_has a_Z_row a_Z_work a_Z_basis a_Z_product a_Z_known a_Z_lead a_Z_tail a_Z_word a_Z_vector a_Z_system a_Z_now a_Z_next cI cL cZ Z_thrownCode Z_p Z_n Z_order Z_monomials Z_generators Z_upTo Z_members Z_lefts Z_vars Z_leadsFound Z_words Z_rest) (gs X).heap) (hN : gN (gs X)) (k2 : Int32 → Int32 → Option (Int32)) (hk2 : ∀ (i1 i2 : Int32), k2 i1 i2 = some r_ → g_zrestOf X r_ 2 [(0, .ref a_Z), (1, .int i1), (2, .int i2)] []) (i1 i2 : Int32) (hrun : s_zrestOf_2 F Z_lefts Z_rest k2 i1 i2 = some r_) : g_zrestOf X r_ 2 [(0, .ref a_Z), (1, .int i1), (2, .int i2)] [] := by
  have C1 := C0
  obtain ⟨hx, hb, hr, hml, hown, hts, hlocks⟩ := C1
  unfold s_zrestOf_2 at hrun
  intro ls hl
  refine lv_iload_n hx hb d_Z_restOf_2 rfl (lv_at hl 2 rfl) ?_
  refine lv_aload_n hx hb d_Z_restOf_3 rfl (lv_at hl 0 rfl) ?_
  refine va_get (D := D) (ci := 5) (v := .int Z_lefts) (C := "RemnantDictionaryModel") (T := T_Z) (N := 30) hx hb hts iw_Z hown hK hP 0 rfl rfl 16 (by decide) (hts _ k_445) (fun _ h9 => h9) rfl d_Z_restOf_4 ?_
  refine g_icmp_ge (tgt := 28) hx hb d_Z_restOf_7 (by decide) hrun (fun _ hrun => ?_) (fun _ hrun => ?_)
  · refine lv_iconst (v := (-1)) hx hb d_Z_restOf_28 (by decide) ?_
    cases hrun
    exact W.iret hx hb hr (fun t ht hW => ⟨_, rfl, rfl, ht⟩) (fun q h => absurd h List.not_mem_nil) d_Z_restOf_29
  · refine lv_aload_n hx hb d_Z_restOf_10 rfl (lv_at hl 0 rfl) ?_
    refine va_get (D := D) (ci := 5) (v := .ref a_Z_rest) (C := "RemnantDictionaryModel") (T := T_Z) (N := 30) hx hb hts iw_Z hown hK hP 0 rfl rfl 18 (by decide) (hts _ k_446) (fun _ h9 => h9) rfl d_Z_restOf_11 ?_
    refine lv_iload_n hx hb d_Z_restOf_14 rfl (lv_at hl 2 rfl) ?_
    refine g_iald hx hb hK hP 1 0 rfl rfl hrun d_Z_restOf_15 (fun x_1 hrun => ?_)
    refine lv_iload_n hx hb d_Z_restOf_16 rfl (lv_at hl 1 rfl) ?_
    refine g_icmp_ne (tgt := 22) hx hb d_Z_restOf_17 (by decide) hrun (fun _ hrun => ?_) (fun _ hrun => ?_)
    · refine lv_iinc (v := (i2 + 1)) (lv' := [(2, .int (i2 + 1)), (0, .ref a_Z), (1, .int i1)]) hx hb d_Z_restOf_22 hl (k := 2) rfl rfl (by decide) rfl (fun ls hl => ?_)
      refine lv_goto (tgt := 2) hx hb d_Z_restOf_25 (by decide) ?_
      exact hk2 i1 (i2 + 1) hrun ls (lv_sub hl [1, 2, 0] rfl)
    · refine lv_iload_n hx hb d_Z_restOf_20 rfl (lv_at hl 2 rfl) ?_
      cases hrun
      exact W.iret hx hb hr (fun t ht hW => ⟨_, rfl, rfl, ht⟩) (fun q h => absurd h List.not_mem_nil) d_Z_restOf_21
theorem v_zrestOf_2 (X : gX) (D : va_G) (cI cL cZ : ClassId) (a_Z a_Z_rest a_Z_mono a_Z_degree a_Z_generator a_Z_hand a_Z_has a_Z_row a_Z_work a_Z_basis a_Z_product a_Z_known a_Z_lead a_Z_tail a_Z_word a_Z_vector a_Z_system a_Z_now a_Z_next : Nat) (F : Nat) (Z_thrownCode Z_p Z_n Z_order Z_monomials Z_generators Z_upTo Z_members Z_lefts Z_vars Z_leadsFound Z_words : Int32) (Z_rest : Nat → Int32) (r_ : Int32) (C0 : gC X c_Z_restOfb (some .int) 3 "RemnantDictionaryModel" gAll) (hK : va_K D classes (gT cI cL cZ) (gs X)) (hP : va_P D classes (ws_zrestOf a_Z a_Z_rest a_Z_mono a_Z_degree a_Z_generator a_Z_hand a_Z_has a_Z_row a_Z_work a_Z_basis a_Z_product a_Z_known a_Z_lead a_Z_tail a_Z_word a_Z_vector a_Z_system a_Z_now a_Z_next cI cL cZ Z_thrownCode Z_p Z_n Z_order Z_monomials Z_generators Z_upTo Z_members Z_lefts Z_vars Z_leadsFound Z_words Z_rest) (gs X).heap) (hN : gN (gs X))  : ∀ (n : Nat) (i1 i2 : Int32), b_zrestOf_2 F Z_lefts Z_rest n i1 i2 = some r_ → g_zrestOf X r_ 2 [(0, .ref a_Z), (1, .int i1), (2, .int i2)] [] := by
  intro n
  induction n with
  | zero => intro i1 i2 hrun; cases hrun
  | succ n ih =>
    intro i1 i2 hrun
    exact w_zrestOf_2 X D cI cL cZ a_Z a_Z_rest a_Z_mono a_Z_degree a_Z_generator a_Z_hand a_Z_has a_Z_row a_Z_work a_Z_basis a_Z_product a_Z_known a_Z_lead a_Z_tail a_Z_word a_Z_vector a_Z_system a_Z_now a_Z_next F Z_thrownCode Z_p Z_n Z_order Z_monomials Z_generators Z_upTo Z_members Z_lefts Z_vars Z_leadsFound Z_words Z_rest r_ C0 hK hP hN (b_zrestOf_2 F Z_lefts Z_rest n) ih i1 i2 hrun
set_option maxHeartbeats 4000000 in
set_option maxRecDepth 100000 in
theorem e_zrestOf (X : gX) (D : va_G) (cI cL cZ : ClassId) (a_Z a_Z_rest a_Z_mono a_Z_degree a_Z_generator a_Z_hand a_Z_has a_Z_row a_Z_work a_Z_basis a_Z_product a_Z_known a_Z_lead a_Z_tail a_Z_word a_Z_vector a_Z_system a_Z_now a_Z_next : Nat) (F : Nat) (Z_thrownCode Z_p Z_n Z_order Z_monomials Z_generators Z_upTo Z_members Z_lefts Z_vars Z_leadsFound Z_words : Int32) (Z_rest : Nat → Int32) (r_ : Int32) (C0 : gC X c_Z_restOfb (some .int) 3 "RemnantDictionaryModel" gAll) (hK : va_K D classes (gT cI cL cZ) (gs X)) (hP : va_P D classes (ws_zrestOf a_Z a_Z_rest a_Z_mono a_Z_degree a_Z_generator a_Z_hand a_Z_has a_Z_row a_Z_work a_Z_basis a_Z_product a_Z_known a_Z_lead a_Z_tail a_Z_word a_Z_vector a_Z_system a_Z_now a_Z_next cI cL cZ Z_thrownCode Z_p Z_n Z_order Z_monomials Z_generators Z_upTo Z_members Z_lefts Z_vars Z_leadsFound Z_words Z_rest) (gs X).heap) (hN : gN (gs X)) (i1 : Int32) (hrun : m_zrestOf F Z_lefts Z_rest i1 = some r_) : g_zrestOf X r_ 0 [(0, .ref a_Z), (1, .int i1)] [] := by
  have C1 := C0
  obtain ⟨hx, hb, hr, hml, hown, hts, hlocks⟩ := C1
  unfold m_zrestOf at hrun
  intro ls hl
  refine lv_iconst (v := 0) hx hb d_Z_restOf_0 (by decide) ?_
  refine lv_istore_n (lv' := [(2, .int 0), (0, .ref a_Z), (1, .int i1)]) hx hb d_Z_restOf_1 rfl hl (by decide) rfl (fun ls hl => ?_)
  exact v_zrestOf_2 X D cI cL cZ a_Z a_Z_rest a_Z_mono a_Z_degree a_Z_generator a_Z_hand a_Z_has a_Z_row a_Z_work a_Z_basis a_Z_product a_Z_known a_Z_lead a_Z_tail a_Z_word a_Z_vector a_Z_system a_Z_now a_Z_next F Z_thrownCode Z_p Z_n Z_order Z_monomials Z_generators Z_upTo Z_members Z_lefts Z_vars Z_leadsFound Z_words Z_rest r_ C0 hK hP hN  F i1 0 hrun ls (lv_sub hl [1, 2, 0] rfl)
set_option maxHeartbeats 4000000 in
set_option maxRecDepth 100000 in
theorem c_zrestOf (l : Launch) (D : va_G) (cI cL cZ : ClassId) (a_Z a_Z_rest a_Z_mono a_Z_degree a_Z_generator a_Z_hand a_Z_has a_Z_row a_Z_work a_Z_basis a_Z_product a_Z_known a_Z_lead a_Z_tail a_Z_word a_Z_vector a_Z_system a_Z_now a_Z_next : Nat) (F : Nat) (Z_thrownCode Z_p Z_n Z_order Z_monomials Z_generators Z_upTo Z_members Z_lefts Z_vars Z_leadsFound Z_words : Int32) (Z_rest : Nat → Int32) (i1 : Int32) (r_ : Int32) (hrun : m_zrestOf F Z_lefts Z_rest i1 = some r_) : Met l y_Z_restOf (.code y_Z_restOf c_Z_restOfb 3 (some .int) :: gAll) rm_zrestOf (va_Pc [.ref a_Z, .int i1] (gPR D (gT cI cL cZ) (ws_zrestOf a_Z a_Z_rest a_Z_mono a_Z_degree a_Z_generator a_Z_hand a_Z_has a_Z_row a_Z_work a_Z_basis a_Z_product a_Z_known a_Z_lead a_Z_tail a_Z_word a_Z_vector a_Z_system a_Z_now a_Z_next cI cL cZ Z_thrownCode Z_p Z_n Z_order Z_monomials Z_generators Z_upTo Z_members Z_lefts Z_vars Z_leadsFound Z_words Z_rest))) (vp_Si (fun r => r = r_)) 0 0 (fun _ => False) := by
  refine Met.ofW (cc := c_Z_restOfb) (maxL := 3) (ret := (some .int)) (by decide +kernel) rfl ?_
  intro p e s m args below meth c s₁ B hml hv
  obtain ⟨rfl, hP, hK, hN⟩ := hv
  have hl := lv_entry ([.ref a_Z, .int i1]) (n := 3) (Nat.le_of_ble_eq_true rfl)
  rw [lg_entry_eq]
  generalize (lg_sl ([.ref a_Z, .int i1]) ++ List.replicate (3 - (lg_sl ([.ref a_Z, .int i1])).length) Slot.unset).toArray = ls at hl ⊢
  exact e_zrestOf (p, l, e, s, m, ([.ref a_Z, .int i1] : List Value).toArray, below, meth, c) D cI cL cZ a_Z a_Z_rest a_Z_mono a_Z_degree a_Z_generator a_Z_hand a_Z_has a_Z_row a_Z_work a_Z_basis a_Z_product a_Z_known a_Z_lead a_Z_tail a_Z_word a_Z_vector a_Z_system a_Z_now a_Z_next F Z_thrownCode Z_p Z_n Z_order Z_monomials Z_generators Z_upTo Z_members Z_lefts Z_vars Z_leadsFound Z_words Z_rest r_ ⟨B.exec, B.bytes, B.returns, hml, findClass_of_methodNamed B.named, fun w h => atoms_spec (ws := (.code y_Z_restOf c_Z_restOfb 3 (some .int) :: gAll)) B.pre w (List.mem_cons_of_mem _ h), B.notSynchronized⟩ hK hP hN i1 hrun ls hl
theorem d_Z_findRest_0 : decode c_Z_findRestb 0 = .ok (.aload_n 0, 1) := by decide +kernel
theorem d_Z_findRest_1 : decode c_Z_findRestb 1 = .ok (.iconst 0, 1) := by decide +kernel
theorem d_Z_findRest_2 : decode c_Z_findRestb 2 = .ok (.putfield 60, 3) := by decide +kernel
theorem d_Z_findRest_5 : decode c_Z_findRestb 5 = .ok (.iconst 0, 1) := by decide +kernel
theorem d_Z_findRest_6 : decode c_Z_findRestb 6 = .ok (.istore_n 1, 1) := by decide +kernel
theorem d_Z_findRest_7 : decode c_Z_findRestb 7 = .ok (.iload_n 1, 1) := by decide +kernel
theorem d_Z_findRest_8 : decode c_Z_findRestb 8 = .ok (.aload_n 0, 1) := by decide +kernel
theorem d_Z_findRest_9 : decode c_Z_findRestb 9 = .ok (.getfield 16, 3) := by decide +kernel
theorem d_Z_findRest_12 : decode c_Z_findRestb 12 = .ok (.if_icmp .ge 62, 3) := by decide +kernel
theorem d_Z_findRest_15 : decode c_Z_findRestb 15 = .ok (.iconst 0, 1) := by decide +kernel
theorem d_Z_findRest_16 : decode c_Z_findRestb 16 = .ok (.istore_n 2, 1) := by decide +kernel
theorem d_Z_findRest_17 : decode c_Z_findRestb 17 = .ok (.iconst 0, 1) := by decide +kernel
theorem d_Z_findRest_18 : decode c_Z_findRestb 18 = .ok (.istore_n 3, 1) := by decide +kernel
theorem d_Z_findRest_19 : decode c_Z_findRestb 19 = .ok (.iload_n 3, 1) := by decide +kernel
theorem d_Z_findRest_20 : decode c_Z_findRestb 20 = .ok (.aload_n 0, 1) := by decide +kernel
theorem d_Z_findRest_21 : decode c_Z_findRestb 21 = .ok (.getfield 57, 3) := by decide +kernel
theorem d_Z_findRest_24 : decode c_Z_findRestb 24 = .ok (.if_icmp .ge 38, 3) := by decide +kernel
theorem d_Z_findRest_27 : decode c_Z_findRestb 27 = .ok (.aload_n 0, 1) := by decide +kernel
theorem d_Z_findRest_28 : decode c_Z_findRestb 28 = .ok (.getfield 25, 3) := by decide +kernel
theorem d_Z_findRest_31 : decode c_Z_findRestb 31 = .ok (.aload_n 0, 1) := by decide +kernel
theorem d_Z_findRest_32 : decode c_Z_findRestb 32 = .ok (.getfield 54, 3) := by decide +kernel
theorem d_Z_findRest_35 : decode c_Z_findRestb 35 = .ok (.iload_n 3, 1) := by decide +kernel
theorem d_Z_findRest_36 : decode c_Z_findRestb 36 = .ok (.iaload, 1) := by decide +kernel
theorem d_Z_findRest_37 : decode c_Z_findRestb 37 = .ok (.iaload, 1) := by decide +kernel
theorem d_Z_findRest_38 : decode c_Z_findRestb 38 = .ok (.istore 4, 2) := by decide +kernel
theorem d_Z_findRest_40 : decode c_Z_findRestb 40 = .ok (.iload 4, 2) := by decide +kernel
theorem d_Z_findRest_42 : decode c_Z_findRestb 42 = .ok (.iload_n 1, 1) := by decide +kernel
theorem d_Z_findRest_43 : decode c_Z_findRestb 43 = .ok (.invokestatic 106, 3) := by decide +kernel
theorem d_Z_findRest_46 : decode c_Z_findRestb 46 = .ok (.iload 4, 2) := by decide +kernel
theorem d_Z_findRest_48 : decode c_Z_findRestb 48 = .ok (.invokestatic 110, 3) := by decide +kernel
theorem d_Z_findRest_51 : decode c_Z_findRestb 51 = .ok (.if_icmp .ne 5, 3) := by decide +kernel
theorem d_Z_findRest_54 : decode c_Z_findRestb 54 = .ok (.iconst 1, 1) := by decide +kernel
theorem d_Z_findRest_55 : decode c_Z_findRestb 55 = .ok (.istore_n 2, 1) := by decide +kernel
theorem d_Z_findRest_56 : decode c_Z_findRestb 56 = .ok (.iinc 3 1, 3) := by decide +kernel
theorem d_Z_findRest_59 : decode c_Z_findRestb 59 = .ok (.goto (-40), 3) := by decide +kernel
theorem d_Z_findRest_62 : decode c_Z_findRestb 62 = .ok (.iload_n 2, 1) := by decide +kernel
theorem d_Z_findRest_63 : decode c_Z_findRestb 63 = .ok (.ifCond .ne 5, 3) := by decide +kernel
theorem d_Z_findRest_66 : decode c_Z_findRestb 66 = .ok (.iconst 0, 1) := by decide +kernel
theorem d_Z_findRest_67 : decode c_Z_findRestb 67 = .ok (.ireturn, 1) := by decide +kernel
theorem d_Z_findRest_68 : decode c_Z_findRestb 68 = .ok (.iinc 1 1, 3) := by decide +kernel
theorem d_Z_findRest_71 : decode c_Z_findRestb 71 = .ok (.goto (-64), 3) := by decide +kernel
theorem d_Z_findRest_74 : decode c_Z_findRestb 74 = .ok (.iconst 0, 1) := by decide +kernel
theorem d_Z_findRest_75 : decode c_Z_findRestb 75 = .ok (.istore_n 1, 1) := by decide +kernel
theorem d_Z_findRest_76 : decode c_Z_findRestb 76 = .ok (.aload_n 0, 1) := by decide +kernel
theorem d_Z_findRest_77 : decode c_Z_findRestb 77 = .ok (.iconst 0, 1) := by decide +kernel
theorem d_Z_findRest_78 : decode c_Z_findRestb 78 = .ok (.invokevirtual 159, 3) := by decide +kernel
theorem d_Z_findRest_81 : decode c_Z_findRestb 81 = .ok (.ifCond .ne 7, 3) := by decide +kernel
theorem d_Z_findRest_84 : decode c_Z_findRestb 84 = .ok (.iconst 1, 1) := by decide +kernel
theorem d_Z_findRest_85 : decode c_Z_findRestb 85 = .ok (.goto 4, 3) := by decide +kernel
theorem d_Z_findRest_88 : decode c_Z_findRestb 88 = .ok (.iconst 0, 1) := by decide +kernel
theorem d_Z_findRest_89 : decode c_Z_findRestb 89 = .ok (.istore_n 2, 1) := by decide +kernel
theorem d_Z_findRest_90 : decode c_Z_findRestb 90 = .ok (.iload_n 2, 1) := by decide +kernel
theorem d_Z_findRest_91 : decode c_Z_findRestb 91 = .ok (.ifCond .eq 148, 3) := by decide +kernel
theorem d_Z_findRest_94 : decode c_Z_findRestb 94 = .ok (.aload_n 0, 1) := by decide +kernel
theorem d_Z_findRest_95 : decode c_Z_findRestb 95 = .ok (.getfield 60, 3) := by decide +kernel
theorem d_Z_findRest_98 : decode c_Z_findRestb 98 = .ok (.bipush 40, 2) := by decide +kernel
theorem d_Z_findRest_100 : decode c_Z_findRestb 100 = .ok (.if_icmp .ne 5, 3) := by decide +kernel
theorem d_Z_findRest_103 : decode c_Z_findRestb 103 = .ok (.iconst 0, 1) := by decide +kernel
theorem d_Z_findRest_104 : decode c_Z_findRestb 104 = .ok (.ireturn, 1) := by decide +kernel
theorem d_Z_findRest_105 : decode c_Z_findRestb 105 = .ok (.aload_n 0, 1) := by decide +kernel
theorem d_Z_findRest_106 : decode c_Z_findRestb 106 = .ok (.getfield 60, 3) := by decide +kernel
theorem d_Z_findRest_109 : decode c_Z_findRestb 109 = .ok (.istore_n 3, 1) := by decide +kernel
theorem d_Z_findRest_110 : decode c_Z_findRestb 110 = .ok (.iload_n 3, 1) := by decide +kernel
theorem d_Z_findRest_111 : decode c_Z_findRestb 111 = .ok (.ifCond .le 39, 3) := by decide +kernel
theorem d_Z_findRest_114 : decode c_Z_findRestb 114 = .ok (.aload_n 0, 1) := by decide +kernel
theorem d_Z_findRest_115 : decode c_Z_findRestb 115 = .ok (.aload_n 0, 1) := by decide +kernel
theorem d_Z_findRest_116 : decode c_Z_findRestb 116 = .ok (.getfield 66, 3) := by decide +kernel
theorem d_Z_findRest_119 : decode c_Z_findRestb 119 = .ok (.iload_n 3, 1) := by decide +kernel
theorem d_Z_findRest_120 : decode c_Z_findRestb 120 = .ok (.iconst 1, 1) := by decide +kernel
theorem d_Z_findRest_121 : decode c_Z_findRestb 121 = .ok (.isub, 1) := by decide +kernel
theorem d_Z_findRest_122 : decode c_Z_findRestb 122 = .ok (.iaload, 1) := by decide +kernel
theorem d_Z_findRest_123 : decode c_Z_findRestb 123 = .ok (.iload_n 1, 1) := by decide +kernel
theorem d_Z_findRest_124 : decode c_Z_findRestb 124 = .ok (.invokevirtual 121, 3) := by decide +kernel
theorem d_Z_findRest_127 : decode c_Z_findRestb 127 = .ok (.ifCond .eq 23, 3) := by decide +kernel
theorem d_Z_findRest_130 : decode c_Z_findRestb 130 = .ok (.aload_n 0, 1) := by decide +kernel
theorem d_Z_findRest_131 : decode c_Z_findRestb 131 = .ok (.getfield 66, 3) := by decide +kernel
theorem d_Z_findRest_134 : decode c_Z_findRestb 134 = .ok (.iload_n 3, 1) := by decide +kernel
theorem d_Z_findRest_135 : decode c_Z_findRestb 135 = .ok (.aload_n 0, 1) := by decide +kernel
theorem d_Z_findRest_136 : decode c_Z_findRestb 136 = .ok (.getfield 66, 3) := by decide +kernel
theorem d_Z_findRest_139 : decode c_Z_findRestb 139 = .ok (.iload_n 3, 1) := by decide +kernel
theorem d_Z_findRest_140 : decode c_Z_findRestb 140 = .ok (.iconst 1, 1) := by decide +kernel
theorem d_Z_findRest_141 : decode c_Z_findRestb 141 = .ok (.isub, 1) := by decide +kernel
theorem d_Z_findRest_142 : decode c_Z_findRestb 142 = .ok (.iaload, 1) := by decide +kernel
theorem d_Z_findRest_143 : decode c_Z_findRestb 143 = .ok (.iastore, 1) := by decide +kernel
theorem d_Z_findRest_144 : decode c_Z_findRestb 144 = .ok (.iinc 3 (-1), 3) := by decide +kernel
theorem d_Z_findRest_147 : decode c_Z_findRestb 147 = .ok (.goto (-37), 3) := by decide +kernel
theorem d_Z_findRest_150 : decode c_Z_findRestb 150 = .ok (.aload_n 0, 1) := by decide +kernel
theorem d_Z_findRest_151 : decode c_Z_findRestb 151 = .ok (.getfield 66, 3) := by decide +kernel
theorem d_Z_findRest_154 : decode c_Z_findRestb 154 = .ok (.iload_n 3, 1) := by decide +kernel
theorem d_Z_findRest_155 : decode c_Z_findRestb 155 = .ok (.iload_n 1, 1) := by decide +kernel
theorem d_Z_findRest_156 : decode c_Z_findRestb 156 = .ok (.iastore, 1) := by decide +kernel
theorem d_Z_findRest_157 : decode c_Z_findRestb 157 = .ok (.aload_n 0, 1) := by decide +kernel
theorem d_Z_findRest_158 : decode c_Z_findRestb 158 = .ok (.dup, 1) := by decide +kernel
theorem d_Z_findRest_159 : decode c_Z_findRestb 159 = .ok (.getfield 60, 3) := by decide +kernel
theorem d_Z_findRest_162 : decode c_Z_findRestb 162 = .ok (.iconst 1, 1) := by decide +kernel
theorem d_Z_findRest_163 : decode c_Z_findRestb 163 = .ok (.iadd, 1) := by decide +kernel
theorem d_Z_findRest_164 : decode c_Z_findRestb 164 = .ok (.putfield 60, 3) := by decide +kernel
theorem d_Z_findRest_167 : decode c_Z_findRestb 167 = .ok (.aload_n 0, 1) := by decide +kernel
theorem d_Z_findRest_168 : decode c_Z_findRestb 168 = .ok (.getfield 16, 3) := by decide +kernel
theorem d_Z_findRest_171 : decode c_Z_findRestb 171 = .ok (.iconst 1, 1) := by decide +kernel
theorem d_Z_findRest_172 : decode c_Z_findRestb 172 = .ok (.isub, 1) := by decide +kernel
theorem d_Z_findRest_173 : decode c_Z_findRestb 173 = .ok (.istore 4, 2) := by decide +kernel
theorem d_Z_findRest_175 : decode c_Z_findRestb 175 = .ok (.iconst 1, 1) := by decide +kernel
theorem d_Z_findRest_176 : decode c_Z_findRestb 176 = .ok (.istore 5, 2) := by decide +kernel
theorem d_Z_findRest_178 : decode c_Z_findRestb 178 = .ok (.iload 5, 2) := by decide +kernel
theorem d_Z_findRest_180 : decode c_Z_findRestb 180 = .ok (.ifCond .eq 56, 3) := by decide +kernel
theorem d_Z_findRest_183 : decode c_Z_findRestb 183 = .ok (.iload_n 1, 1) := by decide +kernel
theorem d_Z_findRest_184 : decode c_Z_findRestb 184 = .ok (.iconst 1, 1) := by decide +kernel
theorem d_Z_findRest_185 : decode c_Z_findRestb 185 = .ok (.bipush 24, 2) := by decide +kernel
theorem d_Z_findRest_187 : decode c_Z_findRestb 187 = .ok (.bipush 8, 2) := by decide +kernel
theorem d_Z_findRest_189 : decode c_Z_findRestb 189 = .ok (.iload 4, 2) := by decide +kernel
theorem d_Z_findRest_191 : decode c_Z_findRestb 191 = .ok (.imul, 1) := by decide +kernel
theorem d_Z_findRest_192 : decode c_Z_findRestb 192 = .ok (.isub, 1) := by decide +kernel
theorem d_Z_findRest_193 : decode c_Z_findRestb 193 = .ok (.ishl, 1) := by decide +kernel
theorem d_Z_findRest_194 : decode c_Z_findRestb 194 = .ok (.iadd, 1) := by decide +kernel
theorem d_Z_findRest_195 : decode c_Z_findRestb 195 = .ok (.istore_n 1, 1) := by decide +kernel
theorem d_Z_findRest_196 : decode c_Z_findRestb 196 = .ok (.aload_n 0, 1) := by decide +kernel
theorem d_Z_findRest_197 : decode c_Z_findRestb 197 = .ok (.iload_n 1, 1) := by decide +kernel
theorem d_Z_findRest_198 : decode c_Z_findRestb 198 = .ok (.invokevirtual 159, 3) := by decide +kernel
theorem d_Z_findRest_201 : decode c_Z_findRestb 201 = .ok (.istore 5, 2) := by decide +kernel
theorem d_Z_findRest_203 : decode c_Z_findRestb 203 = .ok (.iload 5, 2) := by decide +kernel
theorem d_Z_findRest_205 : decode c_Z_findRestb 205 = .ok (.ifCond .eq (-27), 3) := by decide +kernel
theorem d_Z_findRest_208 : decode c_Z_findRestb 208 = .ok (.iload_n 1, 1) := by decide +kernel
theorem d_Z_findRest_209 : decode c_Z_findRestb 209 = .ok (.iload_n 1, 1) := by decide +kernel
theorem d_Z_findRest_210 : decode c_Z_findRestb 210 = .ok (.iload 4, 2) := by decide +kernel
theorem d_Z_findRest_212 : decode c_Z_findRestb 212 = .ok (.invokestatic 106, 3) := by decide +kernel
theorem d_Z_findRest_215 : decode c_Z_findRestb 215 = .ok (.bipush 24, 2) := by decide +kernel
theorem d_Z_findRest_217 : decode c_Z_findRestb 217 = .ok (.bipush 8, 2) := by decide +kernel
theorem d_Z_findRest_219 : decode c_Z_findRestb 219 = .ok (.iload 4, 2) := by decide +kernel
theorem d_Z_findRest_221 : decode c_Z_findRestb 221 = .ok (.imul, 1) := by decide +kernel
theorem d_Z_findRest_222 : decode c_Z_findRestb 222 = .ok (.isub, 1) := by decide +kernel
theorem d_Z_findRest_223 : decode c_Z_findRestb 223 = .ok (.ishl, 1) := by decide +kernel
theorem d_Z_findRest_224 : decode c_Z_findRestb 224 = .ok (.isub, 1) := by decide +kernel
theorem d_Z_findRest_225 : decode c_Z_findRestb 225 = .ok (.istore_n 1, 1) := by decide +kernel
theorem d_Z_findRest_226 : decode c_Z_findRestb 226 = .ok (.iinc 4 (-1), 3) := by decide +kernel
theorem d_Z_findRest_229 : decode c_Z_findRestb 229 = .ok (.iload 4, 2) := by decide +kernel
theorem d_Z_findRest_231 : decode c_Z_findRestb 231 = .ok (.ifCond .ge (-53), 3) := by decide +kernel
theorem d_Z_findRest_234 : decode c_Z_findRestb 234 = .ok (.iconst 1, 1) := by decide +kernel
theorem d_Z_findRest_235 : decode c_Z_findRestb 235 = .ok (.ireturn, 1) := by decide +kernel
theorem d_Z_findRest_236 : decode c_Z_findRestb 236 = .ok (.goto (-146), 3) := by decide +kernel
theorem d_Z_findRest_239 : decode c_Z_findRestb 239 = .ok (.aload_n 0, 1) := by decide +kernel
theorem d_Z_findRest_240 : decode c_Z_findRestb 240 = .ok (.getfield 60, 3) := by decide +kernel
theorem d_Z_findRest_243 : decode c_Z_findRestb 243 = .ok (.ifCond .le 7, 3) := by decide +kernel
theorem d_Z_findRest_246 : decode c_Z_findRestb 246 = .ok (.iconst 1, 1) := by decide +kernel
theorem d_Z_findRest_247 : decode c_Z_findRestb 247 = .ok (.goto 4, 3) := by decide +kernel
theorem d_Z_findRest_250 : decode c_Z_findRestb 250 = .ok (.iconst 0, 1) := by decide +kernel
theorem d_Z_findRest_251 : decode c_Z_findRestb 251 = .ok (.ireturn, 1) := by decide +kernel
abbrev ws_zfindRest (a_Z a_Z_mono a_Z_basis a_Z_rest a_Z_degree a_Z_generator a_Z_hand a_Z_has a_Z_row a_Z_work a_Z_product a_Z_known a_Z_lead a_Z_tail a_Z_word a_Z_vector a_Z_system a_Z_now a_Z_next : Nat) (cI cL cZ : ClassId) (Z_thrownCode Z_p Z_n Z_order Z_monomials Z_generators Z_upTo Z_members Z_lefts Z_vars Z_leadsFound Z_words : Int32) (Z_mono Z_basis Z_rest : Nat → Int32) : va_W := [(a_Z, .inr (5, [.int Z_thrownCode, .int Z_p, .int Z_n, .int Z_order, .int Z_monomials, .ref a_Z_mono, .ref a_Z_degree, .int Z_generators, .ref a_Z_generator, .ref a_Z_hand, .int Z_upTo, .ref a_Z_has, .ref a_Z_row, .ref a_Z_work, .ref a_Z_basis, .int Z_members, .int Z_lefts, .int Z_vars, .ref a_Z_rest, .ref a_Z_product, .ref a_Z_known, .int Z_leadsFound, .ref a_Z_lead, .ref a_Z_tail, .int Z_words, .ref a_Z_word, .ref a_Z_vector, .ref a_Z_system, .ref a_Z_now, .ref a_Z_next])), (a_Z_mono, .inl (cI, 126, .inl Z_mono)), (a_Z_basis, .inl (cI, 126, .inl Z_basis)), (a_Z_rest, .inl (cI, 41, .inl Z_rest))]
abbrev rm_zfindRest : Room := { frames := 3, cells := 0, slots := 0, locals := 65 }
abbrev g_zfindRest (X : gX) (D : va_G) (cI cL cZ : ClassId) (a_Z a_Z_mono a_Z_basis a_Z_rest a_Z_degree a_Z_generator a_Z_hand a_Z_has a_Z_row a_Z_work a_Z_product a_Z_known a_Z_lead a_Z_tail a_Z_word a_Z_vector a_Z_system a_Z_now a_Z_next : Nat) (A : Nat → Prop) (Z_thrownCode Z_p Z_n Z_order Z_monomials Z_generators Z_upTo Z_members Z_vars Z_leadsFound Z_words : Int32) (Z_mono Z_basis : Nat → Int32) (r_ Z_lefts_r : Int32) (Z_rest_r : Nat → Int32) (pc : Nat) (lv : List (Nat × Value)) (st : List Value) (Z_lefts : Int32) (Z_rest : Nat → Int32) : Prop := ∀ (H : Heap) (locs : List Loc) (ls : Array Slot), va_P D classes (ws_zfindRest a_Z a_Z_mono a_Z_basis a_Z_rest a_Z_degree a_Z_generator a_Z_hand a_Z_has a_Z_row a_Z_work a_Z_product a_Z_known a_Z_lead a_Z_tail a_Z_word a_Z_vector a_Z_system a_Z_now a_Z_next cI cL cZ Z_thrownCode Z_p Z_n Z_order Z_monomials Z_generators Z_upTo Z_members Z_lefts Z_vars Z_leadsFound Z_words Z_mono Z_basis Z_rest) H → va_D A (ws_zfindRest a_Z a_Z_mono a_Z_basis a_Z_rest a_Z_degree a_Z_generator a_Z_hand a_Z_has a_Z_row a_Z_work a_Z_product a_Z_known a_Z_lead a_Z_tail a_Z_word a_Z_vector a_Z_system a_Z_now a_Z_next cI cL cZ Z_thrownCode Z_p Z_n Z_order Z_monomials Z_generators Z_upTo Z_members Z_lefts Z_vars Z_leadsFound Z_words Z_mono Z_basis Z_rest) → va_S A (gs X).heap H locs → lv_has ls 6 lv → gWW X rm_zfindRest H locs 0 0 (MQ (gbl X) (va_Qi (fun r (_ : Unit) => r = r_) (gB D (gT cI cL cZ) A (ws_zfindRest a_Z a_Z_mono a_Z_basis a_Z_rest a_Z_degree a_Z_generator a_Z_hand a_Z_has a_Z_row a_Z_work a_Z_product a_Z_known a_Z_lead a_Z_tail a_Z_word a_Z_vector a_Z_system a_Z_now a_Z_next cI cL cZ Z_thrownCode Z_p Z_n Z_order Z_monomials Z_generators Z_upTo Z_members Z_lefts_r Z_vars Z_leadsFound Z_words Z_mono Z_basis Z_rest_r)) A) (ga X) (gs X) 0 0 A) (F0 (gm X) pc ls st)
set_option maxHeartbeats 4000000 in
set_option maxRecDepth 100000 in
theorem w_zfindRest_178 (X : gX) (D : va_G) (cI cL cZ : ClassId) (a_Z a_Z_mono a_Z_basis a_Z_rest a_Z_degree a_Z_generator a_Z_hand a_Z_has a_Z_row a_Z_work a_Z_product a_Z_known a_Z_lead a_Z_tail a_Z_word a_Z_vector a_Z_system a_Z_now a_Z_next : Nat) (A : Nat → Prop) (Z_thrownCode Z_p Z_n Z_order Z_monomials Z_generators Z_upTo Z_members Z_vars Z_leadsFound Z_words : Int32) (Z_mono Z_basis : Nat → Int32) (r_ Z_lefts_r : Int32) (Z_rest_r : Nat → Int32) (F : Nat) (C0 : gC X c_Z_findRestb (some .boolean) 6 "RemnantDictionaryModel" gAll) (hK : va_K D classes (gT cI cL cZ) (gs X)) (hA : ∀ q : Nat, (gs X).heap.size ≤ q → A q) (hN : gN (gs X)) (k90 : Int32 → Int32 → Int32 → (Nat → Int32) → Option (Int32 × Int32 × (Nat → Int32))) (hk90 : ∀ (i1 i2 Z_lefts : Int32) (Z_rest : Nat → Int32), k90 i1 i2 Z_lefts Z_rest = some (r_, Z_lefts_r, Z_rest_r) → g_zfindRest X D cI cL cZ a_Z a_Z_mono a_Z_basis a_Z_rest a_Z_degree a_Z_generator a_Z_hand a_Z_has a_Z_row a_Z_work a_Z_product a_Z_known a_Z_lead a_Z_tail a_Z_word a_Z_vector a_Z_system a_Z_now a_Z_next A Z_thrownCode Z_p Z_n Z_order Z_monomials Z_generators Z_upTo Z_members Z_vars Z_leadsFound Z_words Z_mono Z_basis r_ Z_lefts_r Z_rest_r 90 [(0, .ref a_Z), (1, .int i1), (2, .int i2)] [] Z_lefts Z_rest) (k178 : Int32 → Int32 → Int32 → Int32 → Int32 → (Nat → Int32) → Option (Int32 × Int32 × (Nat → Int32))) (hk178 : ∀ (i1 i2 i4 i5 Z_lefts : Int32) (Z_rest : Nat → Int32), k178 i1 i2 i4 i5 Z_lefts Z_rest = some (r_, Z_lefts_r, Z_rest_r) → g_zfindRest X D cI cL cZ a_Z a_Z_mono a_Z_basis a_Z_rest a_Z_degree a_Z_generator a_Z_hand a_Z_has a_Z_row a_Z_work a_Z_product a_Z_known a_Z_lead a_Z_tail a_Z_word a_Z_vector a_Z_system a_Z_now a_Z_next A Z_thrownCode Z_p Z_n Z_order Z_monomials Z_generators Z_upTo Z_members Z_vars Z_leadsFound Z_words Z_mono Z_basis r_ Z_lefts_r Z_rest_r 178 [(0, .ref a_Z), (1, .int i1), (2, .int i2), (4, .int i4), (5, .int i5)] [] Z_lefts Z_rest) (i1 i2 i4 i5 Z_lefts : Int32) (Z_rest : Nat → Int32) (hrun : s_zfindRest_178 F Z_members Z_n Z_order Z_mono Z_basis k90 k178 i1 i2 i4 i5 Z_lefts Z_rest = some (r_, Z_lefts_r, Z_rest_r)) : g_zfindRest X D cI cL cZ a_Z a_Z_mono a_Z_basis a_Z_rest a_Z_degree a_Z_generator a_Z_hand a_Z_has a_Z_row a_Z_work a_Z_product a_Z_known a_Z_lead a_Z_tail a_Z_word a_Z_vector a_Z_system a_Z_now a_Z_next A Z_thrownCode Z_p Z_n Z_order Z_monomials Z_generators Z_upTo Z_members Z_vars Z_leadsFound Z_words Z_mono Z_basis r_ Z_lefts_r Z_rest_r 178 [(0, .ref a_Z), (1, .int i1), (2, .int i2), (4, .int i4), (5, .int i5)] [] Z_lefts Z_rest := by
  have C1 := C0
  obtain ⟨hx, hb, hr, hml, hown, hts, hlocks⟩ := C1
  unfold s_zfindRest_178 at hrun
  intro H locs ls hP hD hS hl
  refine lv_iload hx hb d_Z_findRest_178 (lv_at hl 4 rfl) ?_
  refine g_if_eq (tgt := 236) hx hb d_Z_findRest_180 (by decide) hrun (fun _ hrun => ?_) (fun _ hrun => ?_)
  · refine lv_goto (tgt := 90) hx hb d_Z_findRest_236 (by decide) ?_
    exact hk90 i1 i2 Z_lefts Z_rest hrun H locs ls hP hD hS (lv_sub hl [0, 1, 2] rfl)
  · refine lv_iload_n hx hb d_Z_findRest_183 rfl (lv_at hl 1 rfl) ?_
    refine lv_iconst (v := 1) hx hb d_Z_findRest_184 (by decide) ?_
    refine lv_bipush (v := 24) hx hb d_Z_findRest_185 (by decide) ?_
    refine lv_bipush (v := 8) hx hb d_Z_findRest_187 (by decide) ?_
    refine lv_iload hx hb d_Z_findRest_189 (lv_at hl 3 rfl) ?_
    refine lv_imul hx hb d_Z_findRest_191 ?_
    refine lv_isub hx hb d_Z_findRest_192 ?_
    refine g_ishl hx hb d_Z_findRest_193 ?_
    refine lv_iadd hx hb d_Z_findRest_194 ?_
    refine lv_istore_n (lv' := [(1, .int (i1 + (shlI 1 (24 - (8 * i4))))), (0, .ref a_Z), (2, .int i2), (4, .int i4), (5, .int i5)]) hx hb d_Z_findRest_195 rfl hl (by decide) rfl (fun ls hl => ?_)
    refine lv_aload_n hx hb d_Z_findRest_196 rfl (lv_at hl 1 rfl) ?_
    refine lv_iload_n hx hb d_Z_findRest_197 rfl (lv_at hl 0 rfl) ?_
    obtain ⟨r_1, hc, hrun⟩ := bd1_s hrun
    refine vp_callSi (W.runV (As := [.int (i1 + (shlI 1 (24 - (8 * i4))))]) (rest := []) ⟨hx, hb, hml, hown, hts⟩ (c_zleading (gl X) D cI cL cZ a_Z a_Z_mono a_Z_basis a_Z_degree a_Z_generator a_Z_hand a_Z_has a_Z_row a_Z_work a_Z_rest a_Z_product a_Z_known a_Z_lead a_Z_tail a_Z_word a_Z_vector a_Z_system a_Z_now a_Z_next F Z_thrownCode Z_p Z_n Z_order Z_monomials Z_generators Z_upTo Z_members Z_lefts Z_vars Z_leadsFound Z_words Z_mono Z_basis (i1 + (shlI 1 (24 - (8 * i4)))) r_1 hc) (cwV 1 hts (gwV k_450 k_448 k_449 k_333 k_444) rfl rfl rfl (by decide +kernel) ⟨Nat.le_of_ble_eq_true rfl, Nat.le_of_ble_eq_true rfl⟩) (gpreV (hP.sub (ws' := (ws_zleading a_Z a_Z_mono a_Z_basis a_Z_degree a_Z_generator a_Z_hand a_Z_has a_Z_row a_Z_work a_Z_rest a_Z_product a_Z_known a_Z_lead a_Z_tail a_Z_word a_Z_vector a_Z_system a_Z_now a_Z_next cI cL cZ Z_thrownCode Z_p Z_n Z_order Z_monomials Z_generators Z_upTo Z_members Z_lefts Z_vars Z_leadsFound Z_words Z_mono Z_basis)) [0, 1, 2] rfl) hK hN 5 0 rfl rfl) rfl rfl hl.1 rfl (lv_room (Nat.le_of_ble_eq_true rfl)) d_Z_findRest_198 ⟨Nat.le_of_ble_eq_true rfl, Nat.le_of_ble_eq_true rfl⟩) (nm_e ?_)
    refine lv_istore (lv' := [(5, .int r_1), (1, .int (i1 + (shlI 1 (24 - (8 * i4))))), (0, .ref a_Z), (2, .int i2), (4, .int i4)]) hx hb d_Z_findRest_201 hl (by decide) rfl (fun ls hl => ?_)
    refine lv_iload hx hb d_Z_findRest_203 (lv_at hl 0 rfl) ?_
    refine g_if_eq (tgt := 178) hx hb d_Z_findRest_205 (by decide) hrun (fun _ hrun => ?_) (fun _ hrun => ?_)
    · exact hk178 (i1 + (shlI 1 (24 - (8 * i4)))) i2 i4 r_1 Z_lefts Z_rest hrun H locs ls hP hD hS (lv_sub hl [2, 1, 3, 4, 0] rfl)
    · refine lv_iload_n hx hb d_Z_findRest_208 rfl (lv_at hl 1 rfl) ?_
      refine lv_iload_n hx hb d_Z_findRest_209 rfl (lv_at hl 1 rfl) ?_
      refine lv_iload hx hb d_Z_findRest_210 (lv_at hl 4 rfl) ?_
      obtain ⟨r_2, hc, hrun⟩ := bd1_s hrun
      refine vp_callSi (W.runS (As := [.int (i1 + (shlI 1 (24 - (8 * i4)))), .int i4]) (rest := [.int (i1 + (shlI 1 (24 - (8 * i4))))]) ⟨hx, hb, hml, hown, hts⟩ (c_zexponent (gl X) F (i1 + (shlI 1 (24 - (8 * i4)))) i4 r_2 hc) (va_cwS 2 hts (gwS k_334 k_332 k_333 k_331) rfl rfl rfl (by decide +kernel) ⟨Nat.le_of_ble_eq_true rfl, Nat.le_of_ble_eq_true rfl⟩) (gpreS0 hN) rfl rfl hl.1 rfl (lv_room (Nat.le_of_ble_eq_true rfl)) d_Z_findRest_212 ⟨Nat.le_of_ble_eq_true rfl, Nat.le_of_ble_eq_true rfl⟩) (nm_e ?_)
      refine lv_bipush (v := 24) hx hb d_Z_findRest_215 (by decide) ?_
      refine lv_bipush (v := 8) hx hb d_Z_findRest_217 (by decide) ?_
      refine lv_iload hx hb d_Z_findRest_219 (lv_at hl 4 rfl) ?_
      refine lv_imul hx hb d_Z_findRest_221 ?_
      refine lv_isub hx hb d_Z_findRest_222 ?_
      refine g_ishl hx hb d_Z_findRest_223 ?_
      refine lv_isub hx hb d_Z_findRest_224 ?_
      refine lv_istore_n (lv' := [(1, .int ((i1 + (shlI 1 (24 - (8 * i4)))) - (shlI r_2 (24 - (8 * i4))))), (5, .int r_1), (0, .ref a_Z), (2, .int i2), (4, .int i4)]) hx hb d_Z_findRest_225 rfl hl (by decide) rfl (fun ls hl => ?_)
      refine lv_iinc (v := (i4 + (-1))) (lv' := [(4, .int (i4 + (-1))), (1, .int ((i1 + (shlI 1 (24 - (8 * i4)))) - (shlI r_2 (24 - (8 * i4))))), (5, .int r_1), (0, .ref a_Z), (2, .int i2)]) hx hb d_Z_findRest_226 hl (k := 4) rfl rfl (by decide) rfl (fun ls hl => ?_)
      refine lv_iload hx hb d_Z_findRest_229 (lv_at hl 0 rfl) ?_
      refine g_if_ge (tgt := 178) hx hb d_Z_findRest_231 (by decide) hrun (fun _ hrun => ?_) (fun _ hrun => ?_)
      · exact hk178 ((i1 + (shlI 1 (24 - (8 * i4)))) - (shlI r_2 (24 - (8 * i4)))) i2 (i4 + (-1)) r_1 Z_lefts Z_rest hrun H locs ls hP hD hS (lv_sub hl [3, 1, 4, 0, 2] rfl)
      · refine lv_iconst (v := 1) hx hb d_Z_findRest_234 (by decide) ?_
        cases hrun
        exact W.zret hx hb hr rfl (fun t ht hW => ⟨⟨_, (), rfl, rfl, gB_of ht hW.alike hP hK hD⟩, hS.F ht⟩) hS.2.2 d_Z_findRest_235
theorem v_zfindRest_178 (X : gX) (D : va_G) (cI cL cZ : ClassId) (a_Z a_Z_mono a_Z_basis a_Z_rest a_Z_degree a_Z_generator a_Z_hand a_Z_has a_Z_row a_Z_work a_Z_product a_Z_known a_Z_lead a_Z_tail a_Z_word a_Z_vector a_Z_system a_Z_now a_Z_next : Nat) (A : Nat → Prop) (Z_thrownCode Z_p Z_n Z_order Z_monomials Z_generators Z_upTo Z_members Z_vars Z_leadsFound Z_words : Int32) (Z_mono Z_basis : Nat → Int32) (r_ Z_lefts_r : Int32) (Z_rest_r : Nat → Int32) (F : Nat) (C0 : gC X c_Z_findRestb (some .boolean) 6 "RemnantDictionaryModel" gAll) (hK : va_K D classes (gT cI cL cZ) (gs X)) (hA : ∀ q : Nat, (gs X).heap.size ≤ q → A q) (hN : gN (gs X)) (k90 : Int32 → Int32 → Int32 → (Nat → Int32) → Option (Int32 × Int32 × (Nat → Int32))) (hk90 : ∀ (i1 i2 Z_lefts : Int32) (Z_rest : Nat → Int32), k90 i1 i2 Z_lefts Z_rest = some (r_, Z_lefts_r, Z_rest_r) → g_zfindRest X D cI cL cZ a_Z a_Z_mono a_Z_basis a_Z_rest a_Z_degree a_Z_generator a_Z_hand a_Z_has a_Z_row a_Z_work a_Z_product a_Z_known a_Z_lead a_Z_tail a_Z_word a_Z_vector a_Z_system a_Z_now a_Z_next A Z_thrownCode Z_p Z_n Z_order Z_monomials Z_generators Z_upTo Z_members Z_vars Z_leadsFound Z_words Z_mono Z_basis r_ Z_lefts_r Z_rest_r 90 [(0, .ref a_Z), (1, .int i1), (2, .int i2)] [] Z_lefts Z_rest) : ∀ (n : Nat) (i1 i2 i4 i5 Z_lefts : Int32) (Z_rest : Nat → Int32), b_zfindRest_178 F Z_members Z_n Z_order Z_mono Z_basis k90 n i1 i2 i4 i5 Z_lefts Z_rest = some (r_, Z_lefts_r, Z_rest_r) → g_zfindRest X D cI cL cZ a_Z a_Z_mono a_Z_basis a_Z_rest a_Z_degree a_Z_generator a_Z_hand a_Z_has a_Z_row a_Z_work a_Z_product a_Z_known a_Z_lead a_Z_tail a_Z_word a_Z_vector a_Z_system a_Z_now a_Z_next A Z_thrownCode Z_p Z_n Z_order Z_monomials Z_generators Z_upTo Z_members Z_vars Z_leadsFound Z_words Z_mono Z_basis r_ Z_lefts_r Z_rest_r 178 [(0, .ref a_Z), (1, .int i1), (2, .int i2), (4, .int i4), (5, .int i5)] [] Z_lefts Z_rest := by
  intro n
  induction n with
  | zero => intro i1 i2 i4 i5 Z_lefts Z_rest hrun; cases hrun
  | succ n ih =>
    intro i1 i2 i4 i5 Z_lefts Z_rest hrun
    exact w_zfindRest_178 X D cI cL cZ a_Z a_Z_mono a_Z_basis a_Z_rest a_Z_degree a_Z_generator a_Z_hand a_Z_has a_Z_row a_Z_work a_Z_product a_Z_known a_Z_lead a_Z_tail a_Z_word a_Z_vector a_Z_system a_Z_now a_Z_next A Z_thrownCode Z_p Z_n Z_order Z_monomials Z_generators Z_upTo Z_members Z_vars Z_leadsFound Z_words Z_mono Z_basis r_ Z_lefts_r Z_rest_r F C0 hK hA hN k90 hk90 (b_zfindRest_178 F Z_members Z_n Z_order Z_mono Z_basis k90 n) ih i1 i2 i4 i5 Z_lefts Z_rest hrun
set_option maxHeartbeats 4000000 in
set_option maxRecDepth 100000 in
theorem w_zfindRest_150 (X : gX) (D : va_G) (cI cL cZ : ClassId) (a_Z a_Z_mono a_Z_basis a_Z_rest a_Z_degree a_Z_generator a_Z_hand a_Z_has a_Z_row a_Z_work a_Z_product a_Z_known a_Z_lead a_Z_tail a_Z_word a_Z_vector a_Z_system a_Z_now a_Z_next : Nat) (A : Nat → Prop) (Z_thrownCode Z_p Z_n Z_order Z_monomials Z_generators Z_upTo Z_members Z_vars Z_leadsFound Z_words : Int32) (Z_mono Z_basis : Nat → Int32) (r_ Z_lefts_r : Int32) (Z_rest_r : Nat → Int32) (F : Nat) (C0 : gC X c_Z_findRestb (some .boolean) 6 "RemnantDictionaryModel" gAll) (hK : va_K D classes (gT cI cL cZ) (gs X)) (hA : ∀ q : Nat, (gs X).heap.size ≤ q → A q) (hN : gN (gs X)) (k90 : Int32 → Int32 → Int32 → (Nat → Int32) → Option (Int32 × Int32 × (Nat → Int32))) (hk90 : ∀ (i1 i2 Z_lefts : Int32) (Z_rest : Nat → Int32), k90 i1 i2 Z_lefts Z_rest = some (r_, Z_lefts_r, Z_rest_r) → g_zfindRest X D cI cL cZ a_Z a_Z_mono a_Z_basis a_Z_rest a_Z_degree a_Z_generator a_Z_hand a_Z_has a_Z_row a_Z_work a_Z_product a_Z_known a_Z_lead a_Z_tail a_Z_word a_Z_vector a_Z_system a_Z_now a_Z_next A Z_thrownCode Z_p Z_n Z_order Z_monomials Z_generators Z_upTo Z_members Z_vars Z_leadsFound Z_words Z_mono Z_basis r_ Z_lefts_r Z_rest_r 90 [(0, .ref a_Z), (1, .int i1), (2, .int i2)] [] Z_lefts Z_rest) (i1 i2 i3 Z_lefts : Int32) (Z_rest : Nat → Int32) (hrun : s_zfindRest_150 F Z_members Z_n Z_order Z_mono Z_basis k90 i1 i2 i3 Z_lefts Z_rest = some (r_, Z_lefts_r, Z_rest_r)) : g_zfindRest X D cI cL cZ a_Z a_Z_mono a_Z_basis a_Z_rest a_Z_degree a_Z_generator a_Z_hand a_Z_has a_Z_row a_Z_work a_Z_product a_Z_known a_Z_lead a_Z_tail a_Z_word a_Z_vector a_Z_system a_Z_now a_Z_next A Z_thrownCode Z_p Z_n Z_order Z_monomials Z_generators Z_upTo Z_members Z_vars Z_leadsFound Z_words Z_mono Z_basis r_ Z_lefts_r Z_rest_r 150 [(0, .ref a_Z), (1, .int i1), (2, .int i2), (3, .int i3)] [] Z_lefts Z_rest := by
  have C1 := C0
  obtain ⟨hx, hb, hr, hml, hown, hts, hlocks⟩ := C1
  unfold s_zfindRest_150 at hrun
  intro H locs ls hP hD hS hl
  refine lv_aload_n hx hb d_Z_findRest_150 rfl (lv_at hl 0 rfl) ?_
  refine va_get (D := D) (ci := 5) (v := .ref a_Z_rest) (C := "RemnantDictionaryModel") (T := T_Z) (N := 30) hx hb hts iw_Z hown hK hP 0 rfl rfl 18 (by decide) (hts _ k_446) (fun _ h9 => h9) rfl d_Z_findRest_151 ?_
  refine lv_iload_n hx hb d_Z_findRest_154 rfl (lv_at hl 3 rfl) ?_
  refine lv_iload_n hx hb d_Z_findRest_155 rfl (lv_at hl 1 rfl) ?_
  refine g_iast hx hb hK hP hD hS 3 0 rfl rfl hrun d_Z_findRest_156 (fun Z_rest_1 hrun H locs (hP : va_P D classes (ws_zfindRest a_Z a_Z_mono a_Z_basis a_Z_rest a_Z_degree a_Z_generator a_Z_hand a_Z_has a_Z_row a_Z_work a_Z_product a_Z_known a_Z_lead a_Z_tail a_Z_word a_Z_vector a_Z_system a_Z_now a_Z_next cI cL cZ Z_thrownCode Z_p Z_n Z_order Z_monomials Z_generators Z_upTo Z_members Z_lefts Z_vars Z_leadsFound Z_words Z_mono Z_basis Z_rest_1) H) (hD : va_D A (ws_zfindRest a_Z a_Z_mono a_Z_basis a_Z_rest a_Z_degree a_Z_generator a_Z_hand a_Z_has a_Z_row a_Z_work a_Z_product a_Z_known a_Z_lead a_Z_tail a_Z_word a_Z_vector a_Z_system a_Z_now a_Z_next cI cL cZ Z_thrownCode Z_p Z_n Z_order Z_monomials Z_generators Z_upTo Z_members Z_lefts Z_vars Z_leadsFound Z_words Z_mono Z_basis Z_rest_1)) hS => ?_)
  refine lv_aload_n hx hb d_Z_findRest_157 rfl (lv_at hl 0 rfl) ?_
  refine lv_dup hx hb d_Z_findRest_158 rfl ?_
  refine va_get (D := D) (ci := 5) (v := .int Z_lefts) (C := "RemnantDictionaryModel") (T := T_Z) (N := 30) hx hb hts iw_Z hown hK hP 0 rfl rfl 16 (by decide) (hts _ k_445) (fun _ h9 => h9) rfl d_Z_findRest_159 ?_
  refine lv_iconst (v := 1) hx hb d_Z_findRest_162 (by decide) ?_
  refine lv_iadd hx hb d_Z_findRest_163 ?_
  refine va_put (D := D) (ci := 5) (v := .int (Z_lefts + 1)) (ty := .int) (C := "RemnantDictionaryModel") (T := T_Z) (N := 30) hx hb hts iw_Z ty_Z ty_Z_ok nm_Z hown hK hP hD hS 0 rfl rfl 16 (by decide) (hts _ k_445) (fun _ h9 => h9) rfl (by decide +kernel) rfl rfl (Nat.le_of_ble_eq_true rfl) d_Z_findRest_164 (fun H locs (hP : va_P D classes (ws_zfindRest a_Z a_Z_mono a_Z_basis a_Z_rest a_Z_degree a_Z_generator a_Z_hand a_Z_has a_Z_row a_Z_work a_Z_product a_Z_known a_Z_lead a_Z_tail a_Z_word a_Z_vector a_Z_system a_Z_now a_Z_next cI cL cZ Z_thrownCode Z_p Z_n Z_order Z_monomials Z_generators Z_upTo Z_members (Z_lefts + 1) Z_vars Z_leadsFound Z_words Z_mono Z_basis Z_rest_1) H) (hD : va_D A (ws_zfindRest a_Z a_Z_mono a_Z_basis a_Z_rest a_Z_degree a_Z_generator a_Z_hand a_Z_has a_Z_row a_Z_work a_Z_product a_Z_known a_Z_lead a_Z_tail a_Z_word a_Z_vector a_Z_system a_Z_now a_Z_next cI cL cZ Z_thrownCode Z_p Z_n Z_order Z_monomials Z_generators Z_upTo Z_members (Z_lefts + 1) Z_vars Z_leadsFound Z_words Z_mono Z_basis Z_rest_1)) hS => ?_)
  refine lv_aload_n hx hb d_Z_findRest_167 rfl (lv_at hl 0 rfl) ?_
  refine va_get (D := D) (ci := 5) (v := .int Z_n) (C := "RemnantDictionaryModel") (T := T_Z) (N := 30) hx hb hts iw_Z hown hK hP 0 rfl rfl 2 (by decide) (hts _ k_384) (fun _ h9 => h9) rfl d_Z_findRest_168 ?_
  refine lv_iconst (v := 1) hx hb d_Z_findRest_171 (by decide) ?_
  refine lv_isub hx hb d_Z_findRest_172 ?_
  refine lv_istore (lv' := [(4, .int (Z_n - 1)), (0, .ref a_Z), (1, .int i1), (2, .int i2), (3, .int i3)]) hx hb d_Z_findRest_173 hl (by decide) rfl (fun ls hl => ?_)
  refine lv_iconst (v := 1) hx hb d_Z_findRest_175 (by decide) ?_
  refine lv_istore (lv' := [(5, .int 1), (4, .int (Z_n - 1)), (0, .ref a_Z), (1, .int i1), (2, .int i2), (3, .int i3)]) hx hb d_Z_findRest_176 hl (by decide) rfl (fun ls hl => ?_)
  exact v_zfindRest_178 X D cI cL cZ a_Z a_Z_mono a_Z_basis a_Z_rest a_Z_degree a_Z_generator a_Z_hand a_Z_has a_Z_row a_Z_work a_Z_product a_Z_known a_Z_lead a_Z_tail a_Z_word a_Z_vector a_Z_system a_Z_now a_Z_next A Z_thrownCode Z_p Z_n Z_order Z_monomials Z_generators Z_upTo Z_members Z_vars Z_leadsFound Z_words Z_mono Z_basis r_ Z_lefts_r Z_rest_r F C0 hK hA hN k90 hk90 F i1 i2 (Z_n - 1) 1 (Z_lefts + 1) Z_rest_1 hrun H locs ls hP hD hS (lv_sub hl [2, 3, 4, 1, 0] rfl)
set_option maxHeartbeats 4000000 in
set_option maxRecDepth 100000 in
theorem w_zfindRest_110 (X : gX) (D : va_G) (cI cL cZ : ClassId) (a_Z a_Z_mono a_Z_basis a_Z_rest a_Z_degree a_Z_generator a_Z_hand a_Z_has a_Z_row a_Z_work a_Z_product a_Z_known a_Z_lead a_Z_tail a_Z_word a_Z_vector a_Z_system a_Z_now a_Z_next : Nat) (A : Nat → Prop) (Z_thrownCode Z_p Z_n Z_order Z_monomials Z_generators Z_upTo Z_members Z_vars Z_leadsFound Z_words : Int32) (Z_mono Z_basis : Nat → Int32) (r_ Z_lefts_r : Int32) (Z_rest_r : Nat → Int32) (F : Nat) (C0 : gC X c_Z_findRestb (some .boolean) 6 "RemnantDictionaryModel" gAll) (hK : va_K D classes (gT cI cL cZ) (gs X)) (hA : ∀ q : Nat, (gs X).heap.size ≤ q → A q) (hN : gN (gs X)) (k90 : Int32 → Int32 → Int32 → (Nat → Int32) → Option (Int32 × Int32 × (Nat → Int32))) (hk90 : ∀ (i1 i2 Z_lefts : Int32) (Z_rest : Nat → Int32), k90 i1 i2 Z_lefts Z_rest = some (r_, Z_lefts_r, Z_rest_r) → g_zfindRest X D cI cL cZ a_Z a_Z_mono a_Z_basis a_Z_rest a_Z_degree a_Z_generator a_Z_hand a_Z_has a_Z_row a_Z_work a_Z_product a_Z_known a_Z_lead a_Z_tail a_Z_word a_Z_vector a_Z_system a_Z_now a_Z_next A Z_thrownCode Z_p Z_n Z_order Z_monomials Z_generators Z_upTo Z_members Z_vars Z_leadsFound Z_words Z_mono Z_basis r_ Z_lefts_r Z_rest_r 90 [(0, .ref a_Z), (1, .int i1), (2, .int i2)] [] Z_lefts Z_rest) (k110 : Int32 → Int32 → Int32 → Int32 → (Nat → Int32) → Option (Int32 × Int32 × (Nat → Int32))) (hk110 : ∀ (i1 i2 i3 Z_lefts : Int32) (Z_rest : Nat → Int32), k110 i1 i2 i3 Z_lefts Z_rest = some (r_, Z_lefts_r, Z_rest_r) → g_zfindRest X D cI cL cZ a_Z a_Z_mono a_Z_basis a_Z_rest a_Z_degree a_Z_generator a_Z_hand a_Z_has a_Z_row a_Z_work a_Z_product a_Z_known a_Z_lead a_Z_tail a_Z_word a_Z_vector a_Z_system a_Z_now a_Z_next A Z_thrownCode Z_p Z_n Z_order Z_monomials Z_generators Z_upTo Z_members Z_vars Z_leadsFound Z_words Z_mono Z_basis r_ Z_lefts_r Z_rest_r 110 [(0, .ref a_Z), (1, .int i1), (2, .int i2), (3, .int i3)] [] Z_lefts Z_rest) (i1 i2 i3 Z_lefts : Int32) (Z_rest : Nat → Int32) (hrun : s_zfindRest_110 F Z_members Z_n Z_order Z_mono Z_basis k90 k110 i1 i2 i3 Z_lefts Z_rest = some (r_, Z_lefts_r, Z_rest_r)) : g_zfindRest X D cI cL cZ a_Z a_Z_mono a_Z_basis a_Z_rest a_Z_degree a_Z_generator a_Z_hand a_Z_has a_Z_row a_Z_work a_Z_product a_Z_known a_Z_lead a_Z_tail a_Z_word a_Z_vector a_Z_system a_Z_now a_Z_next A Z_thrownCode Z_p Z_n Z_order Z_monomials Z_generators Z_upTo Z_members Z_vars Z_leadsFound Z_words Z_mono Z_basis r_ Z_lefts_r Z_rest_r 110 [(0, .ref a_Z), (1, .int i1), (2, .int i2), (3, .int i3)] [] Z_lefts Z_rest := by
  have C1 := C0
  obtain ⟨hx, hb, hr, hml, hown, hts, hlocks⟩ := C1
  unfold s_zfindRest_110 at hrun
  intro H locs ls hP hD hS hl
  refine lv_iload_n hx hb d_Z_findRest_110 rfl (lv_at hl 3 rfl) ?_
  refine g_if_le (tgt := 150) hx hb d_Z_findRest_111 (by decide) hrun (fun _ hrun => ?_) (fun _ hrun => ?_)
  · exact w_zfindRest_150 X D cI cL cZ a_Z a_Z_mono a_Z_basis a_Z_rest a_Z_degree a_Z_generator a_Z_hand a_Z_has a_Z_row a_Z_work a_Z_product a_Z_known a_Z_lead a_Z_tail a_Z_word a_Z_vector a_Z_system a_Z_now a_Z_next A Z_thrownCode Z_p Z_n Z_order Z_monomials Z_generators Z_upTo Z_members Z_vars Z_leadsFound Z_words Z_mono Z_basis r_ Z_lefts_r Z_rest_r F C0 hK hA hN k90 hk90 i1 i2 i3 Z_lefts Z_rest hrun H locs ls hP hD hS (lv_sub hl [0, 1, 2, 3] rfl)
  · refine lv_aload_n hx hb d_Z_findRest_114 rfl (lv_at hl 0 rfl) ?_
    refine lv_aload_n hx hb d_Z_findRest_115 rfl (lv_at hl 0 rfl) ?_
    refine va_get (D := D) (ci := 5) (v := .ref a_Z_rest) (C := "RemnantDictionaryModel") (T := T_Z) (N := 30) hx hb hts iw_Z hown hK hP 0 rfl rfl 18 (by decide) (hts _ k_446) (fun _ h9 => h9) rfl d_Z_findRest_116 ?_
    refine lv_iload_n hx hb d_Z_findRest_119 rfl (lv_at hl 3 rfl) ?_
    refine lv_iconst (v := 1) hx hb d_Z_findRest_120 (by decide) ?_
    refine lv_isub hx hb d_Z_findRest_121 ?_
    refine g_iald hx hb hK hP 3 0 rfl rfl hrun d_Z_findRest_122 (fun x_1 hrun => ?_)
    refine lv_iload_n hx hb d_Z_findRest_123 rfl (lv_at hl 1 rfl) ?_
    obtain ⟨r_2, hc, hrun⟩ := bd1_s hrun
    refine vp_callSi (W.runV (As := [.int x_1, .int i1]) (rest := []) ⟨hx, hb, hml, hown, hts⟩ (c_zgreater (gl X) D cI cL cZ a_Z a_Z_mono a_Z_degree a_Z_generator a_Z_hand a_Z_has a_Z_row a_Z_work a_Z_basis a_Z_rest a_Z_product a_Z_known a_Z_lead a_Z_tail a_Z_word a_Z_vector a_Z_system a_Z_now a_Z_next F Z_thrownCode Z_p Z_n Z_order Z_monomials Z_generators Z_upTo Z_members Z_lefts Z_vars Z_leadsFound Z_words x_1 i1 r_2 hc) (cwV 2 hts (gwV k_377 k_375 k_376 k_333 k_369) rfl rfl rfl (by decide +kernel) ⟨Nat.le_of_ble_eq_true rfl, Nat.le_of_ble_eq_true rfl⟩) (gpreV (hP.sub (ws' := (ws_zgreater a_Z a_Z_mono a_Z_degree a_Z_generator a_Z_hand a_Z_has a_Z_row a_Z_work a_Z_basis a_Z_rest a_Z_product a_Z_known a_Z_lead a_Z_tail a_Z_word a_Z_vector a_Z_system a_Z_now a_Z_next cI cL cZ Z_thrownCode Z_p Z_n Z_order Z_monomials Z_generators Z_upTo Z_members Z_lefts Z_vars Z_leadsFound Z_words)) [0] rfl) hK hN 5 0 rfl rfl) rfl rfl hl.1 rfl (lv_room (Nat.le_of_ble_eq_true rfl)) d_Z_findRest_124 ⟨Nat.le_of_ble_eq_true rfl, Nat.le_of_ble_eq_true rfl⟩) (nm_e ?_)
    refine g_if_eq (tgt := 150) hx hb d_Z_findRest_127 (by decide) hrun (fun _ hrun => ?_) (fun _ hrun => ?_)
    · exact w_zfindRest_150 X D cI cL cZ a_Z a_Z_mono a_Z_basis a_Z_rest a_Z_degree a_Z_generator a_Z_hand a_Z_has a_Z_row a_Z_work a_Z_product a_Z_known a_Z_lead a_Z_tail a_Z_word a_Z_vector a_Z_system a_Z_now a_Z_next A Z_thrownCode Z_p Z_n Z_order Z_monomials Z_generators Z_upTo Z_members Z_vars Z_leadsFound Z_words Z_mono Z_basis r_ Z_lefts_r Z_rest_r F C0 hK hA hN k90 hk90 i1 i2 i3 Z_lefts Z_rest hrun H locs ls hP hD hS (lv_sub hl [0, 1, 2, 3] rfl)
    · refine lv_aload_n hx hb d_Z_findRest_130 rfl (lv_at hl 0 rfl) ?_
      refine va_get (D := D) (ci := 5) (v := .ref a_Z_rest) (C := "RemnantDictionaryModel") (T := T_Z) (N := 30) hx hb hts iw_Z hown hK hP 0 rfl rfl 18 (by decide) (hts _ k_446) (fun _ h9 => h9) rfl d_Z_findRest_131 ?_
      refine lv_iload_n hx hb d_Z_findRest_134 rfl (lv_at hl 3 rfl) ?_
      refine lv_aload_n hx hb d_Z_findRest_135 rfl (lv_at hl 0 rfl) ?_
      refine va_get (D := D) (ci := 5) (v := .ref a_Z_rest) (C := "RemnantDictionaryModel") (T := T_Z) (N := 30) hx hb hts iw_Z hown hK hP 0 rfl rfl 18 (by decide) (hts _ k_446) (fun _ h9 => h9) rfl d_Z_findRest_136 ?_
      refine lv_iload_n hx hb d_Z_findRest_139 rfl (lv_at hl 3 rfl) ?_
      refine lv_iconst (v := 1) hx hb d_Z_findRest_140 (by decide) ?_
      refine lv_isub hx hb d_Z_findRest_141 ?_
      refine g_iald hx hb hK hP 3 0 rfl rfl hrun d_Z_findRest_142 (fun x_3 hrun => ?_)
      refine g_iast hx hb hK hP hD hS 3 0 rfl rfl hrun d_Z_findRest_143 (fun Z_rest_4 hrun H locs (hP : va_P D classes (ws_zfindRest a_Z a_Z_mono a_Z_basis a_Z_rest a_Z_degree a_Z_generator a_Z_hand a_Z_has a_Z_row a_Z_work a_Z_product a_Z_known a_Z_lead a_Z_tail a_Z_word a_Z_vector a_Z_system a_Z_now a_Z_next cI cL cZ Z_thrownCode Z_p Z_n Z_order Z_monomials Z_generators Z_upTo Z_members Z_lefts Z_vars Z_leadsFound Z_words Z_mono Z_basis Z_rest_4) H) (hD : va_D A (ws_zfindRest a_Z a_Z_mono a_Z_basis a_Z_rest a_Z_degree a_Z_generator a_Z_hand a_Z_has a_Z_row a_Z_work a_Z_product a_Z_known a_Z_lead a_Z_tail a_Z_word a_Z_vector a_Z_system a_Z_now a_Z_next cI cL cZ Z_thrownCode Z_p Z_n Z_order Z_monomials Z_generators Z_upTo Z_members Z_lefts Z_vars Z_leadsFound Z_words Z_mono Z_basis Z_rest_4)) hS => ?_)
      refine lv_iinc (v := (i3 + (-1))) (lv' := [(3, .int (i3 + (-1))), (0, .ref a_Z), (1, .int i1), (2, .int i2)]) hx hb d_Z_findRest_144 hl (k := 3) rfl rfl (by decide) rfl (fun ls hl => ?_)
      refine lv_goto (tgt := 110) hx hb d_Z_findRest_147 (by decide) ?_
      exact hk110 i1 i2 (i3 + (-1)) Z_lefts Z_rest_4 hrun H locs ls hP hD hS (lv_sub hl [1, 2, 3, 0] rfl)
theorem v_zfindRest_110 (X : gX) (D : va_G) (cI cL cZ : ClassId) (a_Z a_Z_mono a_Z_basis a_Z_rest a_Z_degree a_Z_generator a_Z_hand a_Z_has a_Z_row a_Z_work a_Z_product a_Z_known a_Z_lead a_Z_tail a_Z_word a_Z_vector a_Z_system a_Z_now a_Z_next : Nat) (A : Nat → Prop) (Z_thrownCode Z_p Z_n Z_order Z_monomials Z_generators Z_upTo Z_members Z_vars Z_leadsFound Z_words : Int32) (Z_mono Z_basis : Nat → Int32) (r_ Z_lefts_r : Int32) (Z_rest_r : Nat → Int32) (F : Nat) (C0 : gC X c_Z_findRestb (some .boolean) 6 "RemnantDictionaryModel" gAll) (hK : va_K D classes (gT cI cL cZ) (gs X)) (hA : ∀ q : Nat, (gs X).heap.size ≤ q → A q) (hN : gN (gs X)) (k90 : Int32 → Int32 → Int32 → (Nat → Int32) → Option (Int32 × Int32 × (Nat → Int32))) (hk90 : ∀ (i1 i2 Z_lefts : Int32) (Z_rest : Nat → Int32), k90 i1 i2 Z_lefts Z_rest = some (r_, Z_lefts_r, Z_rest_r) → g_zfindRest X D cI cL cZ a_Z a_Z_mono a_Z_basis a_Z_rest a_Z_degree a_Z_generator a_Z_hand a_Z_has a_Z_row a_Z_work a_Z_product a_Z_known a_Z_lead a_Z_tail a_Z_word a_Z_vector a_Z_system a_Z_now a_Z_next A Z_thrownCode Z_p Z_n Z_order Z_monomials Z_generators Z_upTo Z_members Z_vars Z_leadsFound Z_words Z_mono Z_basis r_ Z_lefts_r Z_rest_r 90 [(0, .ref a_Z), (1, .int i1), (2, .int i2)] [] Z_lefts Z_rest) : ∀ (n : Nat) (i1 i2 i3 Z_lefts : Int32) (Z_rest : Nat → Int32), b_zfindRest_110 F Z_members Z_n Z_order Z_mono Z_basis k90 n i1 i2 i3 Z_lefts Z_rest = some (r_, Z_lefts_r, Z_rest_r) → g_zfindRest X D cI cL cZ a_Z a_Z_mono a_Z_basis a_Z_rest a_Z_degree a_Z_generator a_Z_hand a_Z_has a_Z_row a_Z_work a_Z_product a_Z_known a_Z_lead a_Z_tail a_Z_word a_Z_vector a_Z_system a_Z_now a_Z_next A Z_thrownCode Z_p Z_n Z_order Z_monomials Z_generators Z_upTo Z_members Z_vars Z_leadsFound Z_words Z_mono Z_basis r_ Z_lefts_r Z_rest_r 110 [(0, .ref a_Z), (1, .int i1), (2, .int i2), (3, .int i3)] [] Z_lefts Z_rest := by
  intro n
  induction n with
  | zero => intro i1 i2 i3 Z_lefts Z_rest hrun; cases hrun
  | succ n ih =>
    intro i1 i2 i3 Z_lefts Z_rest hrun
    exact w_zfindRest_110 X D cI cL cZ a_Z a_Z_mono a_Z_basis a_Z_rest a_Z_degree a_Z_generator a_Z_hand a_Z_has a_Z_row a_Z_work a_Z_product a_Z_known a_Z_lead a_Z_tail a_Z_word a_Z_vector a_Z_system a_Z_now a_Z_next A Z_thrownCode Z_p Z_n Z_order Z_monomials Z_generators Z_upTo Z_members Z_vars Z_leadsFound Z_words Z_mono Z_basis r_ Z_lefts_r Z_rest_r F C0 hK hA hN k90 hk90 (b_zfindRest_110 F Z_members Z_n Z_order Z_mono Z_basis k90 n) ih i1 i2 i3 Z_lefts Z_rest hrun
set_option maxHeartbeats 4000000 in
set_option maxRecDepth 100000 in
theorem w_zfindRest_90 (X : gX) (D : va_G) (cI cL cZ : ClassId) (a_Z a_Z_mono a_Z_basis a_Z_rest a_Z_degree a_Z_generator a_Z_hand a_Z_has a_Z_row a_Z_work a_Z_product a_Z_known a_Z_lead a_Z_tail a_Z_word a_Z_vector a_Z_system a_Z_now a_Z_next : Nat) (A : Nat → Prop) (Z_thrownCode Z_p Z_n Z_order Z_monomials Z_generators Z_upTo Z_members Z_vars Z_leadsFound Z_words : Int32) (Z_mono Z_basis : Nat → Int32) (r_ Z_lefts_r : Int32) (Z_rest_r : Nat → Int32) (F : Nat) (C0 : gC X c_Z_findRestb (some .boolean) 6 "RemnantDictionaryModel" gAll) (hK : va_K D classes (gT cI cL cZ) (gs X)) (hA : ∀ q : Nat, (gs X).heap.size ≤ q → A q) (hN : gN (gs X)) (k90 : Int32 → Int32 → Int32 → (Nat → Int32) → Option (Int32 × Int32 × (Nat → Int32))) (hk90 : ∀ (i1 i2 Z_lefts : Int32) (Z_rest : Nat → Int32), k90 i1 i2 Z_lefts Z_rest = some (r_, Z_lefts_r, Z_rest_r) → g_zfindRest X D cI cL cZ a_Z a_Z_mono a_Z_basis a_Z_rest a_Z_degree a_Z_generator a_Z_hand a_Z_has a_Z_row a_Z_work a_Z_product a_Z_known a_Z_lead a_Z_tail a_Z_word a_Z_vector a_Z_system a_Z_now a_Z_next A Z_thrownCode Z_p Z_n Z_order Z_monomials Z_generators Z_upTo Z_members Z_vars Z_leadsFound Z_words Z_mono Z_basis r_ Z_lefts_r Z_rest_r 90 [(0, .ref a_Z), (1, .int i1), (2, .int i2)] [] Z_lefts Z_rest) (i1 i2 Z_lefts : Int32) (Z_rest : Nat → Int32) (hrun : s_zfindRest_90 F Z_members Z_n Z_order Z_mono Z_basis k90 i1 i2 Z_lefts Z_rest = some (r_, Z_lefts_r, Z_rest_r)) : g_zfindRest X D cI cL cZ a_Z a_Z_mono a_Z_basis a_Z_rest a_Z_degree a_Z_generator a_Z_hand a_Z_has a_Z_row a_Z_work a_Z_product a_Z_known a_Z_lead a_Z_tail a_Z_word a_Z_vector a_Z_system a_Z_now a_Z_next A Z_thrownCode Z_p Z_n Z_order Z_monomials Z_generators Z_upTo Z_members Z_vars Z_leadsFound Z_words Z_mono Z_basis r_ Z_lefts_r Z_rest_r 90 [(0, .ref a_Z), (1, .int i1), (2, .int i2)] [] Z_lefts Z_rest := by
  have C1 := C0
  obtain ⟨hx, hb, hr, hml, hown, hts, hlocks⟩ := C1
  unfold s_zfindRest_90 at hrun
  intro H locs ls hP hD hS hl
  refine lv_iload_n hx hb d_Z_findRest_90 rfl (lv_at hl 2 rfl) ?_
  refine g_if_eq (tgt := 239) hx hb d_Z_findRest_91 (by decide) hrun (fun _ hrun => ?_) (fun _ hrun => ?_)
  · refine lv_aload_n hx hb d_Z_findRest_239 rfl (lv_at hl 0 rfl) ?_
    refine va_get (D := D) (ci := 5) (v := .int Z_lefts) (C := "RemnantDictionaryModel") (T := T_Z) (N := 30) hx hb hts iw_Z hown hK hP 0 rfl rfl 16 (by decide) (hts _ k_445) (fun _ h9 => h9) rfl d_Z_findRest_240 ?_
    refine g_if_le (tgt := 250) hx hb d_Z_findRest_243 (by decide) hrun (fun _ hrun => ?_) (fun _ hrun => ?_)
    · refine lv_iconst (v := 0) hx hb d_Z_findRest_250 (by decide) ?_
      cases hrun
      exact W.zret hx hb hr rfl (fun t ht hW => ⟨⟨_, (), rfl, rfl, gB_of ht hW.alike hP hK hD⟩, hS.F ht⟩) hS.2.2 d_Z_findRest_251
    · refine lv_iconst (v := 1) hx hb d_Z_findRest_246 (by decide) ?_
      refine lv_goto (tgt := 251) hx hb d_Z_findRest_247 (by decide) ?_
      cases hrun
      exact W.zret hx hb hr rfl (fun t ht hW => ⟨⟨_, (), rfl, rfl, gB_of ht hW.alike hP hK hD⟩, hS.F ht⟩) hS.2.2 d_Z_findRest_251
  · refine lv_aload_n hx hb d_Z_findRest_94 rfl (lv_at hl 0 rfl) ?_
    refine va_get (D := D) (ci := 5) (v := .int Z_lefts) (C := "RemnantDictionaryModel") (T := T_Z) (N := 30) hx hb hts iw_Z hown hK hP 0 rfl rfl 16 (by decide) (hts _ k_445) (fun _ h9 => h9) rfl d_Z_findRest_95 ?_
    refine lv_bipush (v := 40) hx hb d_Z_findRest_98 (by decide) ?_
    refine g_icmp_ne (tgt := 105) hx hb d_Z_findRest_100 (by decide) hrun (fun _ hrun => ?_) (fun _ hrun => ?_)
    · refine lv_aload_n hx hb d_Z_findRest_105 rfl (lv_at hl 0 rfl) ?_
      refine va_get (D := D) (ci := 5) (v := .int Z_lefts) (C := "RemnantDictionaryModel") (T := T_Z) (N := 30) hx hb hts iw_Z hown hK hP 0 rfl rfl 16 (by decide) (hts _ k_445) (fun _ h9 => h9) rfl d_Z_findRest_106 ?_
      refine lv_istore_n (lv' := [(3, .int Z_lefts), (0, .ref a_Z), (1, .int i1), (2, .int i2)]) hx hb d_Z_findRest_109 rfl hl (by decide) rfl (fun ls hl => ?_)
      exact v_zfindRest_110 X D cI cL cZ a_Z a_Z_mono a_Z_basis a_Z_rest a_Z_degree a_Z_generator a_Z_hand a_Z_has a_Z_row a_Z_work a_Z_product a_Z_known a_Z_lead a_Z_tail a_Z_word a_Z_vector a_Z_system a_Z_now a_Z_next A Z_thrownCode Z_p Z_n Z_order Z_monomials Z_generators Z_upTo Z_members Z_vars Z_leadsFound Z_words Z_mono Z_basis r_ Z_lefts_r Z_rest_r F C0 hK hA hN k90 hk90 F i1 i2 Z_lefts Z_lefts Z_rest hrun H locs ls hP hD hS (lv_sub hl [1, 2, 3, 0] rfl)
    · refine lv_iconst (v := 0) hx hb d_Z_findRest_103 (by decide) ?_
      cases hrun
      exact W.zret hx hb hr rfl (fun t ht hW => ⟨⟨_, (), rfl, rfl, gB_of ht hW.alike hP hK hD⟩, hS.F ht⟩) hS.2.2 d_Z_findRest_104
theorem v_zfindRest_90 (X : gX) (D : va_G) (cI cL cZ : ClassId) (a_Z a_Z_mono a_Z_basis a_Z_rest a_Z_degree a_Z_generator a_Z_hand a_Z_has a_Z_row a_Z_work a_Z_product a_Z_known a_Z_lead a_Z_tail a_Z_word a_Z_vector a_Z_system a_Z_now a_Z_next : Nat) (A : Nat → Prop) (Z_thrownCode Z_p Z_n Z_order Z_monomials Z_generators Z_upTo Z_members Z_vars Z_leadsFound Z_words : Int32) (Z_mono Z_basis : Nat → Int32) (r_ Z_lefts_r : Int32) (Z_rest_r : Nat → Int32) (F : Nat) (C0 : gC X c_Z_findRestb (some .boolean) 6 "RemnantDictionaryModel" gAll) (hK : va_K D classes (gT cI cL cZ) (gs X)) (hA : ∀ q : Nat, (gs X).heap.size ≤ q → A q) (hN : gN (gs X))  : ∀ (n : Nat) (i1 i2 Z_lefts : Int32) (Z_rest : Nat → Int32), b_zfindRest_90 F Z_members Z_n Z_order Z_mono Z_basis n i1 i2 Z_lefts Z_rest = some (r_, Z_lefts_r, Z_rest_r) → g_zfindRest X D cI cL cZ a_Z a_Z_mono a_Z_basis a_Z_rest a_Z_degree a_Z_generator a_Z_hand a_Z_has a_Z_row a_Z_work a_Z_product a_Z_known a_Z_lead a_Z_tail a_Z_word a_Z_vector a_Z_system a_Z_now a_Z_next A Z_thrownCode Z_p Z_n Z_order Z_monomials Z_generators Z_upTo Z_members Z_vars Z_leadsFound Z_words Z_mono Z_basis r_ Z_lefts_r Z_rest_r 90 [(0, .ref a_Z), (1, .int i1), (2, .int i2)] [] Z_lefts Z_rest := by
  intro n
  induction n with
  | zero => intro i1 i2 Z_lefts Z_rest hrun; cases hrun
  | succ n ih =>
    intro i1 i2 Z_lefts Z_rest hrun
    exact w_zfindRest_90 X D cI cL cZ a_Z a_Z_mono a_Z_basis a_Z_rest a_Z_degree a_Z_generator a_Z_hand a_Z_has a_Z_row a_Z_work a_Z_product a_Z_known a_Z_lead a_Z_tail a_Z_word a_Z_vector a_Z_system a_Z_now a_Z_next A Z_thrownCode Z_p Z_n Z_order Z_monomials Z_generators Z_upTo Z_members Z_vars Z_leadsFound Z_words Z_mono Z_basis r_ Z_lefts_r Z_rest_r F C0 hK hA hN (b_zfindRest_90 F Z_members Z_n Z_order Z_mono Z_basis n) ih i1 i2 Z_lefts Z_rest hrun
set_option maxHeartbeats 4000000 in
set_option maxRecDepth 100000 in
theorem w_zfindRest_19 (X : gX) (D : va_G) (cI cL cZ : ClassId) (a_Z a_Z_mono a_Z_basis a_Z_rest a_Z_degree a_Z_generator a_Z_hand a_Z_has a_Z_row a_Z_work a_Z_product a_Z_known a_Z_lead a_Z_tail a_Z_word a_Z_vector a_Z_system a_Z_now a_Z_next : Nat) (A : Nat → Prop) (Z_thrownCode Z_p Z_n Z_order Z_monomials Z_generators Z_upTo Z_members Z_vars Z_leadsFound Z_words : Int32) (Z_mono Z_basis : Nat → Int32) (r_ Z_lefts_r : Int32) (Z_rest_r : Nat → Int32) (F : Nat) (C0 : gC X c_Z_findRestb (some .boolean) 6 "RemnantDictionaryModel" gAll) (hK : va_K D classes (gT cI cL cZ) (gs X)) (hA : ∀ q : Nat, (gs X).heap.size ≤ q → A q) (hN : gN (gs X)) (k7 : Int32 → Int32 → (Nat → Int32) → Option (Int32 × Int32 × (Nat → Int32))) (hk7 : ∀ (i1 Z_lefts : Int32) (Z_rest : Nat → Int32), k7 i1 Z_lefts Z_rest = some (r_, Z_lefts_r, Z_rest_r) → g_zfindRest X D cI cL cZ a_Z a_Z_mono a_Z_basis a_Z_rest a_Z_degree a_Z_generator a_Z_hand a_Z_has a_Z_row a_Z_work a_Z_product a_Z_known a_Z_lead a_Z_tail a_Z_word a_Z_vector a_Z_system a_Z_now a_Z_next A Z_thrownCode Z_p Z_n Z_order Z_monomials Z_generators Z_upTo Z_members Z_vars Z_leadsFound Z_words Z_mono Z_basis r_ Z_lefts_r Z_rest_r 7 [(0, .ref a_Z), (1, .int i1)] [] Z_lefts Z_rest) (k19 : Int32 → Int32 → Int32 → Int32 → (Nat → Int32) → Option (Int32 × Int32 × (Nat → Int32))) (hk19 : ∀ (i1 i2 i3 Z_lefts : Int32) (Z_rest : Nat → Int32), k19 i1 i2 i3 Z_lefts Z_rest = some (r_, Z_lefts_r, Z_rest_r) → g_zfindRest X D cI cL cZ a_Z a_Z_mono a_Z_basis a_Z_rest a_Z_degree a_Z_generator a_Z_hand a_Z_has a_Z_row a_Z_work a_Z_product a_Z_known a_Z_lead a_Z_tail a_Z_word a_Z_vector a_Z_system a_Z_now a_Z_next A Z_thrownCode Z_p Z_n Z_order Z_monomials Z_generators Z_upTo Z_members Z_vars Z_leadsFound Z_words Z_mono Z_basis r_ Z_lefts_r Z_rest_r 19 [(0, .ref a_Z), (1, .int i1), (2, .int i2), (3, .int i3)] [] Z_lefts Z_rest) (i1 i2 i3 Z_lefts : Int32) (Z_rest : Nat → Int32) (hrun : s_zfindRest_19 F Z_members Z_n Z_order Z_mono Z_basis k7 k19 i1 i2 i3 Z_lefts Z_rest = some (r_, Z_lefts_r, Z_rest_r)) : g_zfindRest X D cI cL cZ a_Z a_Z_mono a_Z_basis a_Z_rest a_Z_degree a_Z_generator a_Z_hand a_Z_has a_Z_row a_Z_work a_Z_product a_Z_known a_Z_lead a_Z_tail a_Z_word a_Z_vector a_Z_system a_Z_now a_Z_next A Z_thrownCode Z_p Z_n Z_order Z_monomials Z_generators Z_upTo Z_members Z_vars Z_leadsFound Z_words Z_mono Z_basis r_ Z_lefts_r Z_rest_r 19 [(0, .ref a_Z), (1, .int i1), (2, .int i2), (3, .int i3)] [] Z_lefts Z_rest := by
  have C1 := C0
  obtain ⟨hx, hb, hr, hml, hown, hts, hlocks⟩ := C1
  unfold s_zfindRest_19 at hrun
  intro H locs ls hP hD hS hl
  refine lv_iload_n hx hb d_Z_findRest_19 rfl (lv_at hl 3 rfl) ?_
  refine lv_aload_n hx hb d_Z_findRest_20 rfl (lv_at hl 0 rfl) ?_
  refine va_get (D := D) (ci := 5) (v := .int Z_members) (C := "RemnantDictionaryModel") (T := T_Z) (N := 30) hx hb hts iw_Z hown hK hP 0 rfl rfl 15 (by decide) (hts _ k_429) (fun _ h9 => h9) rfl d_Z_findRest_21 ?_
  refine g_icmp_ge (tgt := 62) hx hb d_Z_findRest_24 (by decide) hrun (fun _ hrun => ?_) (fun _ hrun => ?_)
  · refine lv_iload_n hx hb d_Z_findRest_62 rfl (lv_at hl 2 rfl) ?_
    refine g_if_ne (tgt := 68) hx hb d_Z_findRest_63 (by decide) hrun (fun _ hrun => ?_) (fun _ hrun => ?_)
    · refine lv_iinc (v := (i1 + 1)) (lv' := [(1, .int (i1 + 1)), (0, .ref a_Z), (2, .int i2), (3, .int i3)]) hx hb d_Z_findRest_68 hl (k := 1) rfl rfl (by decide) rfl (fun ls hl => ?_)
      refine lv_goto (tgt := 7) hx hb d_Z_findRest_71 (by decide) ?_
      exact hk7 (i1 + 1) Z_lefts Z_rest hrun H locs ls hP hD hS (lv_sub hl [1, 0] rfl)
    · refine lv_iconst (v := 0) hx hb d_Z_findRest_66 (by decide) ?_
      cases hrun
      exact W.zret hx hb hr rfl (fun t ht hW => ⟨⟨_, (), rfl, rfl, gB_of ht hW.alike hP hK hD⟩, hS.F ht⟩) hS.2.2 d_Z_findRest_67
  · refine lv_aload_n hx hb d_Z_findRest_27 rfl (lv_at hl 0 rfl) ?_
    refine va_get (D := D) (ci := 5) (v := .ref a_Z_mono) (C := "RemnantDictionaryModel") (T := T_Z) (N := 30) hx hb hts iw_Z hown hK hP 0 rfl rfl 5 (by decide) (hts _ k_372) (fun _ h9 => h9) rfl d_Z_findRest_28 ?_
    refine lv_aload_n hx hb d_Z_findRest_31 rfl (lv_at hl 0 rfl) ?_
    refine va_get (D := D) (ci := 5) (v := .ref a_Z_basis) (C := "RemnantDictionaryModel") (T := T_Z) (N := 30) hx hb hts iw_Z hown hK hP 0 rfl rfl 14 (by decide) (hts _ k_428) (fun _ h9 => h9) rfl d_Z_findRest_32 ?_
    refine lv_iload_n hx hb d_Z_findRest_35 rfl (lv_at hl 3 rfl) ?_
    refine g_iald hx hb hK hP 2 0 rfl rfl hrun d_Z_findRest_36 (fun x_1 hrun => ?_)
    refine g_iald hx hb hK hP 1 0 rfl rfl hrun d_Z_findRest_37 (fun x_2 hrun => ?_)
    refine lv_istore (lv' := [(4, .int x_2), (0, .ref a_Z), (1, .int i1), (2, .int i2), (3, .int i3)]) hx hb d_Z_findRest_38 hl (by decide) rfl (fun ls hl => ?_)
    refine lv_iload hx hb d_Z_findRest_40 (lv_at hl 0 rfl) ?_
    refine lv_iload_n hx hb d_Z_findRest_42 rfl (lv_at hl 2 rfl) ?_
    obtain ⟨r_3, hc, hrun⟩ := bd1_s hrun
    refine vp_callSi (W.runS (As := [.int x_2, .int i1]) (rest := []) ⟨hx, hb, hml, hown, hts⟩ (c_zexponent (gl X) F x_2 i1 r_3 hc) (va_cwS 2 hts (gwS k_334 k_332 k_333 k_331) rfl rfl rfl (by decide +kernel) ⟨Nat.le_of_ble_eq_true rfl, Nat.le_of_ble_eq_true rfl⟩) (gpreS0 hN) rfl rfl hl.1 rfl (lv_room (Nat.le_of_ble_eq_true rfl)) d_Z_findRest_43 ⟨Nat.le_of_ble_eq_true rfl, Nat.le_of_ble_eq_true rfl⟩) (nm_e ?_)
    refine lv_iload hx hb d_Z_findRest_46 (lv_at hl 0 rfl) ?_
    obtain ⟨r_4, hc, hrun⟩ := bd1_s hrun
    refine vp_callSi (W.runS (As := [.int x_2]) (rest := [.int r_3]) ⟨hx, hb, hml, hown, hts⟩ (c_zdegreeOf (gl X) F x_2 r_4 hc) (va_cwS 1 hts (gwS k_371 k_370 k_333 k_335) rfl rfl rfl (by decide +kernel) ⟨Nat.le_of_ble_eq_true rfl, Nat.le_of_ble_eq_true rfl⟩) (gpreS0 hN) rfl rfl hl.1 rfl (lv_room (Nat.le_of_ble_eq_true rfl)) d_Z_findRest_48 ⟨Nat.le_of_ble_eq_true rfl, Nat.le_of_ble_eq_true rfl⟩) (nm_e ?_)
    refine g_icmp_ne (tgt := 56) hx hb d_Z_findRest_51 (by decide) hrun (fun _ hrun => ?_) (fun _ hrun => ?_)
    · refine lv_iinc (v := (i3 + 1)) (lv' := [(3, .int (i3 + 1)), (4, .int x_2), (0, .ref a_Z), (1, .int i1), (2, .int i2)]) hx hb d_Z_findRest_56 hl (k := 4) rfl rfl (by decide) rfl (fun ls hl => ?_)
      refine lv_goto (tgt := 19) hx hb d_Z_findRest_59 (by decide) ?_
      exact hk19 i1 i2 (i3 + 1) Z_lefts Z_rest hrun H locs ls hP hD hS (lv_sub hl [2, 3, 4, 0] rfl)
    · refine lv_iconst (v := 1) hx hb d_Z_findRest_54 (by decide) ?_
      refine lv_istore_n (lv' := [(2, .int 1), (4, .int x_2), (0, .ref a_Z), (1, .int i1), (3, .int i3)]) hx hb d_Z_findRest_55 rfl hl (by decide) rfl (fun ls hl => ?_)
      refine lv_iinc (v := (i3 + 1)) (lv' := [(3, .int (i3 + 1)), (2, .int 1), (4, .int x_2), (0, .ref a_Z), (1, .int i1)]) hx hb d_Z_findRest_56 hl (k := 4) rfl rfl (by decide) rfl (fun ls hl => ?_)
      refine lv_goto (tgt := 19) hx hb d_Z_findRest_59 (by decide) ?_
      exact hk19 i1 1 (i3 + 1) Z_lefts Z_rest hrun H locs ls hP hD hS (lv_sub hl [3, 4, 1, 0] rfl)
theorem v_zfindRest_19 (X : gX) (D : va_G) (cI cL cZ : ClassId) (a_Z a_Z_mono a_Z_basis a_Z_rest a_Z_degree a_Z_generator a_Z_hand a_Z_has a_Z_row a_Z_work a_Z_product a_Z_known a_Z_lead a_Z_tail a_Z_word a_Z_vector a_Z_system a_Z_now a_Z_next : Nat) (A : Nat → Prop) (Z_thrownCode Z_p Z_n Z_order Z_monomials Z_generators Z_upTo Z_members Z_vars Z_leadsFound Z_words : Int32) (Z_mono Z_basis : Nat → Int32) (r_ Z_lefts_r : Int32) (Z_rest_r : Nat → Int32) (F : Nat) (C0 : gC X c_Z_findRestb (some .boolean) 6 "RemnantDictionaryModel" gAll) (hK : va_K D classes (gT cI cL cZ) (gs X)) (hA : ∀ q : Nat, (gs X).heap.size ≤ q → A q) (hN : gN (gs X)) (k7 : Int32 → Int32 → (Nat → Int32) → Option (Int32 × Int32 × (Nat → Int32))) (hk7 : ∀ (i1 Z_lefts : Int32) (Z_rest : Nat → Int32), k7 i1 Z_lefts Z_rest = some (r_, Z_lefts_r, Z_rest_r) → g_zfindRest X D cI cL cZ a_Z a_Z_mono a_Z_basis a_Z_rest a_Z_degree a_Z_generator a_Z_hand a_Z_has a_Z_row a_Z_work a_Z_product a_Z_known a_Z_lead a_Z_tail a_Z_word a_Z_vector a_Z_system a_Z_now a_Z_next A Z_thrownCode Z_p Z_n Z_order Z_monomials Z_generators Z_upTo Z_members Z_vars Z_leadsFound Z_words Z_mono Z_basis r_ Z_lefts_r Z_rest_r 7 [(0, .ref a_Z), (1, .int i1)] [] Z_lefts Z_rest) : ∀ (n : Nat) (i1 i2 i3 Z_lefts : Int32) (Z_rest : Nat → Int32), b_zfindRest_19 F Z_members Z_n Z_order Z_mono Z_basis k7 n i1 i2 i3 Z_lefts Z_rest = some (r_, Z_lefts_r, Z_rest_r) → g_zfindRest X D cI cL cZ a_Z a_Z_mono a_Z_basis a_Z_rest a_Z_degree a_Z_generator a_Z_hand a_Z_has a_Z_row a_Z_work a_Z_product a_Z_known a_Z_lead a_Z_tail a_Z_word a_Z_vector a_Z_system a_Z_now a_Z_next A Z_thrownCode Z_p Z_n Z_order Z_monomials Z_generators Z_upTo Z_members Z_vars Z_leadsFound Z_words Z_mono Z_basis r_ Z_lefts_r Z_rest_r 19 [(0, .ref a_Z), (1, .int i1), (2, .int i2), (3, .int i3)] [] Z_lefts Z_rest := by
  intro n
  induction n with
  | zero => intro i1 i2 i3 Z_lefts Z_rest hrun; cases hrun
  | succ n ih =>
    intro i1 i2 i3 Z_lefts Z_rest hrun
    exact w_zfindRest_19 X D cI cL cZ a_Z a_Z_mono a_Z_basis a_Z_rest a_Z_degree a_Z_generator a_Z_hand a_Z_has a_Z_row a_Z_work a_Z_product a_Z_known a_Z_lead a_Z_tail a_Z_word a_Z_vector a_Z_system a_Z_now a_Z_next A Z_thrownCode Z_p Z_n Z_order Z_monomials Z_generators Z_upTo Z_members Z_vars Z_leadsFound Z_words Z_mono Z_basis r_ Z_lefts_r Z_rest_r F C0 hK hA hN k7 hk7 (b_zfindRest_19 F Z_members Z_n Z_order Z_mono Z_basis k7 n) ih i1 i2 i3 Z_lefts Z_rest hrun
set_option maxHeartbeats 4000000 in
set_option maxRecDepth 100000 in
theorem w_zfindRest_7 (X : gX) (D : va_G) (cI cL cZ : ClassId) (a_Z a_Z_mono a_Z_basis a_Z_rest a_Z_degree a_Z_generator a_Z_hand a_Z_has a_Z_row a_Z_work a_Z_product a_Z_known a_Z_lead a_Z_tail a_Z_word a_Z_vector a_Z_system a_Z_now a_Z_next : Nat) (A : Nat → Prop) (Z_thrownCode Z_p Z_n Z_order Z_monomials Z_generators Z_upTo Z_members Z_vars Z_leadsFound Z_words : Int32) (Z_mono Z_basis : Nat → Int32) (r_ Z_lefts_r : Int32) (Z_rest_r : Nat → Int32) (F : Nat) (C0 : gC X c_Z_findRestb (some .boolean) 6 "RemnantDictionaryModel" gAll) (hK : va_K D classes (gT cI cL cZ) (gs X)) (hA : ∀ q : Nat, (gs X).heap.size ≤ q → A q) (hN : gN (gs X)) (k7 : Int32 → Int32 → (Nat → Int32) → Option (Int32 × Int32 × (Nat → Int32))) (hk7 : ∀ (i1 Z_lefts : Int32) (Z_rest : Nat → Int32), k7 i1 Z_lefts Z_rest = some (r_, Z_lefts_r, Z_rest_r) → g_zfindRest X D cI cL cZ a_Z a_Z_mono a_Z_basis a_Z_rest a_Z_degree a_Z_generator a_Z_hand a_Z_has a_Z_row a_Z_work a_Z_product a_Z_known a_Z_lead a_Z_tail a_Z_word a_Z_vector a_Z_system a_Z_now a_Z_next A Z_thrownCode Z_p Z_n Z_order Z_monomials Z_generators Z_upTo Z_members Z_vars Z_leadsFound Z_words Z_mono Z_basis r_ Z_lefts_r Z_rest_r 7 [(0, .ref a_Z), (1, .int i1)] [] Z_lefts Z_rest) (i1 Z_lefts : Int32) (Z_rest : Nat → Int32) (hrun : s_zfindRest_7 F Z_members Z_n Z_order Z_mono Z_basis k7 i1 Z_lefts Z_rest = some (r_, Z_lefts_r, Z_rest_r)) : g_zfindRest X D cI cL cZ a_Z a_Z_mono a_Z_basis a_Z_rest a_Z_degree a_Z_generator a_Z_hand a_Z_has a_Z_row a_Z_work a_Z_product a_Z_known a_Z_lead a_Z_tail a_Z_word a_Z_vector a_Z_system a_Z_now a_Z_next A Z_thrownCode Z_p Z_n Z_order Z_monomials Z_generators Z_upTo Z_members Z_vars Z_leadsFound Z_words Z_mono Z_basis r_ Z_lefts_r Z_rest_r 7 [(0, .ref a_Z), (1, .int i1)] [] Z_lefts Z_rest := by
  have C1 := C0
  obtain ⟨hx, hb, hr, hml, hown, hts, hlocks⟩ := C1
  unfold s_zfindRest_7 at hrun
  intro H locs ls hP hD hS hl
  refine lv_iload_n hx hb d_Z_findRest_7 rfl (lv_at hl 1 rfl) ?_
  refine lv_aload_n hx hb d_Z_findRest_8 rfl (lv_at hl 0 rfl) ?_
  refine va_get (D := D) (ci := 5) (v := .int Z_n) (C := "RemnantDictionaryModel") (T := T_Z) (N := 30) hx hb hts iw_Z hown hK hP 0 rfl rfl 2 (by decide) (hts _ k_384) (fun _ h9 => h9) rfl d_Z_findRest_9 ?_
  refine g_icmp_ge (tgt := 74) hx hb d_Z_findRest_12 (by decide) hrun (fun _ hrun => ?_) (fun _ hrun => ?_)
  · refine lv_iconst (v := 0) hx hb d_Z_findRest_74 (by decide) ?_
    refine lv_istore_n (lv' := [(1, .int 0), (0, .ref a_Z)]) hx hb d_Z_findRest_75 rfl hl (by decide) rfl (fun ls hl => ?_)
    refine lv_aload_n hx hb d_Z_findRest_76 rfl (lv_at hl 1 rfl) ?_
    refine lv_iconst (v := 0) hx hb d_Z_findRest_77 (by decide) ?_
    obtain ⟨r_1, hc, hrun⟩ := bd1_s hrun
    refine vp_callSi (W.runV (As := [.int 0]) (rest := []) ⟨hx, hb, hml, hown, hts⟩ (c_zleading (gl X) D cI cL cZ a_Z a_Z_mono a_Z_basis a_Z_degree a_Z_generator a_Z_hand a_Z_has a_Z_row a_Z_work a_Z_rest a_Z_product a_Z_known a_Z_lead a_Z_tail a_Z_word a_Z_vector a_Z_system a_Z_now a_Z_next F Z_thrownCode Z_p Z_n Z_order Z_monomials Z_generators Z_upTo Z_members Z_lefts Z_vars Z_leadsFound Z_words Z_mono Z_basis 0 r_1 hc) (cwV 1 hts (gwV k_450 k_448 k_449 k_333 k_444) rfl rfl rfl (by decide +kernel) ⟨Nat.le_of_ble_eq_true rfl, Nat.le_of_ble_eq_true rfl⟩) (gpreV (hP.sub (ws' := (ws_zleading a_Z a_Z_mono a_Z_basis a_Z_degree a_Z_generator a_Z_hand a_Z_has a_Z_row a_Z_work a_Z_rest a_Z_product a_Z_known a_Z_lead a_Z_tail a_Z_word a_Z_vector a_Z_system a_Z_now a_Z_next cI cL cZ Z_thrownCode Z_p Z_n Z_order Z_monomials Z_generators Z_upTo Z_members Z_lefts Z_vars Z_leadsFound Z_words Z_mono Z_basis)) [0, 1, 2] rfl) hK hN 5 0 rfl rfl) rfl rfl hl.1 rfl (lv_room (Nat.le_of_ble_eq_true rfl)) d_Z_findRest_78 ⟨Nat.le_of_ble_eq_true rfl, Nat.le_of_ble_eq_true rfl⟩) (nm_e ?_)
    refine g_if_ne (tgt := 88) hx hb d_Z_findRest_81 (by decide) hrun (fun _ hrun => ?_) (fun _ hrun => ?_)
    · refine lv_iconst (v := 0) hx hb d_Z_findRest_88 (by decide) ?_
      refine lv_istore_n (lv' := [(2, .int 0), (1, .int 0), (0, .ref a_Z)]) hx hb d_Z_findRest_89 rfl hl (by decide) rfl (fun ls hl => ?_)
      exact v_zfindRest_90 X D cI cL cZ a_Z a_Z_mono a_Z_basis a_Z_rest a_Z_degree a_Z_generator a_Z_hand a_Z_has a_Z_row a_Z_work a_Z_product a_Z_known a_Z_lead a_Z_tail a_Z_word a_Z_vector a_Z_system a_Z_now a_Z_next A Z_thrownCode Z_p Z_n Z_order Z_monomials Z_generators Z_upTo Z_members Z_vars Z_leadsFound Z_words Z_mono Z_basis r_ Z_lefts_r Z_rest_r F C0 hK hA hN  F 0 0 Z_lefts Z_rest hrun H locs ls hP hD hS (lv_sub hl [2, 1, 0] rfl)
    · refine lv_iconst (v := 1) hx hb d_Z_findRest_84 (by decide) ?_
      refine lv_goto (tgt := 89) hx hb d_Z_findRest_85 (by decide) ?_
      refine lv_istore_n (lv' := [(2, .int 1), (1, .int 0), (0, .ref a_Z)]) hx hb d_Z_findRest_89 rfl hl (by decide) rfl (fun ls hl => ?_)
      exact v_zfindRest_90 X D cI cL cZ a_Z a_Z_mono a_Z_basis a_Z_rest a_Z_degree a_Z_generator a_Z_hand a_Z_has a_Z_row a_Z_work a_Z_product a_Z_known a_Z_lead a_Z_tail a_Z_word a_Z_vector a_Z_system a_Z_now a_Z_next A Z_thrownCode Z_p Z_n Z_order Z_monomials Z_generators Z_upTo Z_members Z_vars Z_leadsFound Z_words Z_mono Z_basis r_ Z_lefts_r Z_rest_r F C0 hK hA hN  F 0 1 Z_lefts Z_rest hrun H locs ls hP hD hS (lv_sub hl [2, 1, 0] rfl)
  · refine lv_iconst (v := 0) hx hb d_Z_findRest_15 (by decide) ?_
    refine lv_istore_n (lv' := [(2, .int 0), (0, .ref a_Z), (1, .int i1)]) hx hb d_Z_findRest_16 rfl hl (by decide) rfl (fun ls hl => ?_)
    refine lv_iconst (v := 0) hx hb d_Z_findRest_17 (by decide) ?_
    refine lv_istore_n (lv' := [(3, .int 0), (2, .int 0), (0, .ref a_Z), (1, .int i1)]) hx hb d_Z_findRest_18 rfl hl (by decide) rfl (fun ls hl => ?_)
    exact v_zfindRest_19 X D cI cL cZ a_Z a_Z_mono a_Z_basis a_Z_rest a_Z_degree a_Z_generator a_Z_hand a_Z_has a_Z_row a_Z_work a_Z_product a_Z_known a_Z_lead a_Z_tail a_Z_word a_Z_vector a_Z_system a_Z_now a_Z_next A Z_thrownCode Z_p Z_n Z_order Z_monomials Z_generators Z_upTo Z_members Z_vars Z_leadsFound Z_words Z_mono Z_basis r_ Z_lefts_r Z_rest_r F C0 hK hA hN k7 hk7 F i1 0 0 Z_lefts Z_rest hrun H locs ls hP hD hS (lv_sub hl [2, 3, 1, 0] rfl)
theorem v_zfindRest_7 (X : gX) (D : va_G) (cI cL cZ : ClassId) (a_Z a_Z_mono a_Z_basis a_Z_rest a_Z_degree a_Z_generator a_Z_hand a_Z_has a_Z_row a_Z_work a_Z_product a_Z_known a_Z_lead a_Z_tail a_Z_word a_Z_vector a_Z_system a_Z_now a_Z_next : Nat) (A : Nat → Prop) (Z_thrownCode Z_p Z_n Z_order Z_monomials Z_generators Z_upTo Z_members Z_vars Z_leadsFound Z_words : Int32) (Z_mono Z_basis : Nat → Int32) (r_ Z_lefts_r : Int32) (Z_rest_r : Nat → Int32) (F : Nat) (C0 : gC X c_Z_findRestb (some .boolean) 6 "RemnantDictionaryModel" gAll) (hK : va_K D classes (gT cI cL cZ) (gs X)) (hA : ∀ q : Nat, (gs X).heap.size ≤ q → A q) (hN : gN (gs X))  : ∀ (n : Nat) (i1 Z_lefts : Int32) (Z_rest : Nat → Int32), b_zfindRest_7 F Z_members Z_n Z_order Z_mono Z_basis n i1 Z_lefts Z_rest = some (r_, Z_lefts_r, Z_rest_r) → g_zfindRest X D cI cL cZ a_Z a_Z_mono a_Z_basis a_Z_rest a_Z_degree a_Z_generator a_Z_hand a_Z_has a_Z_row a_Z_work a_Z_product a_Z_known a_Z_lead a_Z_tail a_Z_word a_Z_vector a_Z_system a_Z_now a_Z_next A Z_thrownCode Z_p Z_n Z_order Z_monomials Z_generators Z_upTo Z_members Z_vars Z_leadsFound Z_words Z_mono Z_basis r_ Z_lefts_r Z_rest_r 7 [(0, .ref a_Z), (1, .int i1)] [] Z_lefts Z_rest := by
  intro n
  induction n with
  | zero => intro i1 Z_lefts Z_rest hrun; cases hrun
  | succ n ih =>
    intro i1 Z_lefts Z_rest hrun
    exact w_zfindRest_7 X D cI cL cZ a_Z a_Z_mono a_Z_basis a_Z_rest a_Z_degree a_Z_generator a_Z_hand a_Z_has a_Z_row a_Z_work a_Z_product a_Z_known a_Z_lead a_Z_tail a_Z_word a_Z_vector a_Z_system a_Z_now a_Z_next A Z_thrownCode Z_p Z_n Z_order Z_monomials Z_generators Z_upTo Z_members Z_vars Z_leadsFound Z_words Z_mono Z_basis r_ Z_lefts_r Z_rest_r F C0 hK hA hN (b_zfindRest_7 F Z_members Z_n Z_order Z_mono Z_basis n) ih i1 Z_lefts Z_rest hrun
set_option maxHeartbeats 4000000 in
set_option maxRecDepth 100000 in
theorem e_zfindRest (X : gX) (D : va_G) (cI cL cZ : ClassId) (a_Z a_Z_mono a_Z_basis a_Z_rest a_Z_degree a_Z_generator a_Z_hand a_Z_has a_Z_row a_Z_work a_Z_product a_Z_known a_Z_lead a_Z_tail a_Z_word a_Z_vector a_Z_system a_Z_now a_Z_next : Nat) (A : Nat → Prop) (Z_thrownCode Z_p Z_n Z_order Z_monomials Z_generators Z_upTo Z_members Z_vars Z_leadsFound Z_words : Int32) (Z_mono Z_basis : Nat → Int32) (r_ Z_lefts_r : Int32) (Z_rest_r : Nat → Int32) (F : Nat) (C0 : gC X c_Z_findRestb (some .boolean) 6 "RemnantDictionaryModel" gAll) (hK : va_K D classes (gT cI cL cZ) (gs X)) (hA : ∀ q : Nat, (gs X).heap.size ≤ q → A q) (hN : gN (gs X)) (Z_lefts : Int32) (Z_rest : Nat → Int32) (hrun : m_zfindRest F Z_members Z_n Z_order Z_mono Z_basis Z_lefts Z_rest = some (r_, Z_lefts_r, Z_rest_r)) : g_zfindRest X D cI cL cZ a_Z a_Z_mono a_Z_basis a_Z_rest a_Z_degree a_Z_generator a_Z_hand a_Z_has a_Z_row a_Z_work a_Z_product a_Z_known a_Z_lead a_Z_tail a_Z_word a_Z_vector a_Z_system a_Z_now a_Z_next A Z_thrownCode Z_p Z_n Z_order Z_monomials Z_generators Z_upTo Z_members Z_vars Z_leadsFound Z_words Z_mono Z_basis r_ Z_lefts_r Z_rest_r 0 [(0, .ref a_Z)] [] Z_lefts Z_rest := by
  have C1 := C0
  obtain ⟨hx, hb, hr, hml, hown, hts, hlocks⟩ := C1
  unfold m_zfindRest at hrun
  intro H locs ls hP hD hS hl
  refine lv_aload_n hx hb d_Z_findRest_0 rfl (lv_at hl 0 rfl) ?_
  refine lv_iconst (v := 0) hx hb d_Z_findRest_1 (by decide) ?_
  refine va_put (D := D) (ci := 5) (v := .int 0) (ty := .int) (C := "RemnantDictionaryModel") (T := T_Z) (N := 30) hx hb hts iw_Z ty_Z ty_Z_ok nm_Z hown hK hP hD hS 0 rfl rfl 16 (by decide) (hts _ k_445) (fun _ h9 => h9) rfl (by decide +kernel) rfl rfl (Nat.le_of_ble_eq_true rfl) d_Z_findRest_2 (fun H locs (hP : va_P D classes (ws_zfindRest a_Z a_Z_mono a_Z_basis a_Z_rest a_Z_degree a_Z_generator a_Z_hand a_Z_has a_Z_row a_Z_work a_Z_product a_Z_known a_Z_lead a_Z_tail a_Z_word a_Z_vector a_Z_system a_Z_now a_Z_next cI cL cZ Z_thrownCode Z_p Z_n Z_order Z_monomials Z_generators Z_upTo Z_members 0 Z_vars Z_leadsFound Z_words Z_mono Z_basis Z_rest) H) (hD : va_D A (ws_zfindRest a_Z a_Z_mono a_Z_basis a_Z_rest a_Z_degree a_Z_generator a_Z_hand a_Z_has a_Z_row a_Z_work a_Z_product a_Z_known a_Z_lead a_Z_tail a_Z_word a_Z_vector a_Z_system a_Z_now a_Z_next cI cL cZ Z_thrownCode Z_p Z_n Z_order Z_monomials Z_generators Z_upTo Z_members 0 Z_vars Z_leadsFound Z_words Z_mono Z_basis Z_rest)) hS => ?_)
  refine lv_iconst (v := 0) hx hb d_Z_findRest_5 (by decide) ?_
  refine lv_istore_n (lv' := [(1, .int 0), (0, .ref a_Z)]) hx hb d_Z_findRest_6 rfl hl (by decide) rfl (fun ls hl => ?_)
  exact v_zfindRest_7 X D cI cL cZ a_Z a_Z_mono a_Z_basis a_Z_rest a_Z_degree a_Z_generator a_Z_hand a_Z_has a_Z_row a_Z_work a_Z_product a_Z_known a_Z_lead a_Z_tail a_Z_word a_Z_vector a_Z_system a_Z_now a_Z_next A Z_thrownCode Z_p Z_n Z_order Z_monomials Z_generators Z_upTo Z_members Z_vars Z_leadsFound Z_words Z_mono Z_basis r_ Z_lefts_r Z_rest_r F C0 hK hA hN  F 0 0 Z_rest hrun H locs ls hP hD hS (lv_sub hl [1, 0] rfl)
set_option maxHeartbeats 4000000 in
set_option maxRecDepth 100000 in
theorem c_zfindRest (l : Launch) (D : va_G) (cI cL cZ : ClassId) (a_Z a_Z_mono a_Z_basis a_Z_rest a_Z_degree a_Z_generator a_Z_hand a_Z_has a_Z_row a_Z_work a_Z_product a_Z_known a_Z_lead a_Z_tail a_Z_word a_Z_vector a_Z_system a_Z_now a_Z_next : Nat) (F : Nat) (Z_thrownCode Z_p Z_n Z_order Z_monomials Z_generators Z_upTo Z_members Z_lefts Z_vars Z_leadsFound Z_words : Int32) (Z_mono Z_basis Z_rest : Nat → Int32) (sz : Nat) (r_ Z_lefts_r : Int32) (Z_rest_r : Nat → Int32) (hrun : m_zfindRest F Z_members Z_n Z_order Z_mono Z_basis Z_lefts Z_rest = some (r_, Z_lefts_r, Z_rest_r)) : Met l y_Z_findRest (.code y_Z_findRest c_Z_findRestb 6 (some .boolean) :: gAll) rm_zfindRest (va_Pc [.ref a_Z] (gPW D (gT cI cL cZ) (ws_zfindRest a_Z a_Z_mono a_Z_basis a_Z_rest a_Z_degree a_Z_generator a_Z_hand a_Z_has a_Z_row a_Z_work a_Z_product a_Z_known a_Z_lead a_Z_tail a_Z_word a_Z_vector a_Z_system a_Z_now a_Z_next cI cL cZ Z_thrownCode Z_p Z_n Z_order Z_monomials Z_generators Z_upTo Z_members Z_lefts Z_vars Z_leadsFound Z_words Z_mono Z_basis Z_rest) sz)) (va_Qi (fun r (_ : Unit) => r = r_) (gB D (gT cI cL cZ) (va_A (ws_zfindRest a_Z a_Z_mono a_Z_basis a_Z_rest a_Z_degree a_Z_generator a_Z_hand a_Z_has a_Z_row a_Z_work a_Z_product a_Z_known a_Z_lead a_Z_tail a_Z_word a_Z_vector a_Z_system a_Z_now a_Z_next cI cL cZ Z_thrownCode Z_p Z_n Z_order Z_monomials Z_generators Z_upTo Z_members Z_lefts Z_vars Z_leadsFound Z_words Z_mono Z_basis Z_rest) sz) (ws_zfindRest a_Z a_Z_mono a_Z_basis a_Z_rest a_Z_degree a_Z_generator a_Z_hand a_Z_has a_Z_row a_Z_work a_Z_product a_Z_known a_Z_lead a_Z_tail a_Z_word a_Z_vector a_Z_system a_Z_now a_Z_next cI cL cZ Z_thrownCode Z_p Z_n Z_order Z_monomials Z_generators Z_upTo Z_members Z_lefts_r Z_vars Z_leadsFound Z_words Z_mono Z_basis Z_rest_r)) (va_A (ws_zfindRest a_Z a_Z_mono a_Z_basis a_Z_rest a_Z_degree a_Z_generator a_Z_hand a_Z_has a_Z_row a_Z_work a_Z_product a_Z_known a_Z_lead a_Z_tail a_Z_word a_Z_vector a_Z_system a_Z_now a_Z_next cI cL cZ Z_thrownCode Z_p Z_n Z_order Z_monomials Z_generators Z_upTo Z_members Z_lefts Z_vars Z_leadsFound Z_words Z_mono Z_basis Z_rest) sz)) 0 0 (va_A (ws_zfindRest a_Z a_Z_mono a_Z_basis a_Z_rest a_Z_degree a_Z_generator a_Z_hand a_Z_has a_Z_row a_Z_work a_Z_product a_Z_known a_Z_lead a_Z_tail a_Z_word a_Z_vector a_Z_system a_Z_now a_Z_next cI cL cZ Z_thrownCode Z_p Z_n Z_order Z_monomials Z_generators Z_upTo Z_members Z_lefts Z_vars Z_leadsFound Z_words Z_mono Z_basis Z_rest) sz) := by
  refine Met.ofW (cc := c_Z_findRestb) (maxL := 6) (ret := (some .boolean)) (by decide +kernel) rfl ?_
  intro p e s m args below meth c s₁ B hml hv
  obtain ⟨rfl, hsz, hP, hK, hN, hD0⟩ := hv
  subst hsz
  have hD := hD0.self (sz := s.heap.size)
  have hl := lv_entry ([.ref a_Z]) (n := 6) (Nat.le_of_ble_eq_true rfl)
  rw [lg_entry_eq]
  generalize (lg_sl ([.ref a_Z]) ++ List.replicate (6 - (lg_sl ([.ref a_Z])).length) Slot.unset).toArray = ls at hl ⊢
  exact e_zfindRest (p, l, e, s, m, ([.ref a_Z] : List Value).toArray, below, meth, c) D cI cL cZ a_Z a_Z_mono a_Z_basis a_Z_rest a_Z_degree a_Z_generator a_Z_hand a_Z_has a_Z_row a_Z_work a_Z_product a_Z_known a_Z_lead a_Z_tail a_Z_word a_Z_vector a_Z_system a_Z_now a_Z_next (va_A (ws_zfindRest a_Z a_Z_mono a_Z_basis a_Z_rest a_Z_degree a_Z_generator a_Z_hand a_Z_has a_Z_row a_Z_work a_Z_product a_Z_known a_Z_lead a_Z_tail a_Z_word a_Z_vector a_Z_system a_Z_now a_Z_next cI cL cZ Z_thrownCode Z_p Z_n Z_order Z_monomials Z_generators Z_upTo Z_members Z_lefts Z_vars Z_leadsFound Z_words Z_mono Z_basis Z_rest) s.heap.size) Z_thrownCode Z_p Z_n Z_order Z_monomials Z_generators Z_upTo Z_members Z_vars Z_leadsFound Z_words Z_mono Z_basis r_ Z_lefts_r Z_rest_r F ⟨B.exec, B.bytes, B.returns, hml, findClass_of_methodNamed B.named, fun w h => atoms_spec (ws := (.code y_Z_findRest c_Z_findRestb 6 (some .boolean) :: gAll)) B.pre w (List.mem_cons_of_mem _ h), B.notSynchronized⟩ hK (fun q h => Or.inr h) hN Z_lefts Z_rest hrun s.heap [] ls hP hD va_S.rf hl
