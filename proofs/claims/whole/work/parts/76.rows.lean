theorem d_Z_comesTo_0 : decode c_Z_comesTob 0 = .ok (.iconst 0, 1) := by decide +kernel
theorem d_Z_comesTo_1 : decode c_Z_comesTob 1 = .ok (.istore_n 2, 1) := by decide +kernel
theorem d_Z_comesTo_2 : decode c_Z_comesTob 2 = .ok (.iload_n 2, 1) := by decide +kernel
theorem d_Z_comesTo_3 : decode c_Z_comesTob 3 = .ok (.bipush 40, 2) := by decide +kernel
theorem d_Z_comesTo_5 : decode c_Z_comesTob 5 = .ok (.if_icmp .ge 24, 3) := by decide +kernel
theorem d_Z_comesTo_8 : decode c_Z_comesTob 8 = .ok (.aload_n 0, 1) := by decide +kernel
theorem d_Z_comesTo_9 : decode c_Z_comesTob 9 = .ok (.getfield 96, 3) := by decide +kernel
theorem d_Z_comesTo_12 : decode c_Z_comesTob 12 = .ok (.iload_n 2, 1) := by decide +kernel
theorem d_Z_comesTo_13 : decode c_Z_comesTob 13 = .ok (.iload_n 2, 1) := by decide +kernel
theorem d_Z_comesTo_14 : decode c_Z_comesTob 14 = .ok (.ifCond .ne 7, 3) := by decide +kernel
theorem d_Z_comesTo_17 : decode c_Z_comesTob 17 = .ok (.iconst 1, 1) := by decide +kernel
theorem d_Z_comesTo_18 : decode c_Z_comesTob 18 = .ok (.goto 4, 3) := by decide +kernel
theorem d_Z_comesTo_21 : decode c_Z_comesTob 21 = .ok (.iconst 0, 1) := by decide +kernel
theorem d_Z_comesTo_22 : decode c_Z_comesTob 22 = .ok (.iastore, 1) := by decide +kernel
theorem d_Z_comesTo_23 : decode c_Z_comesTob 23 = .ok (.iinc 2 1, 3) := by decide +kernel
theorem d_Z_comesTo_26 : decode c_Z_comesTob 26 = .ok (.goto (-24), 3) := by decide +kernel
theorem d_Z_comesTo_29 : decode c_Z_comesTob 29 = .ok (.iconst 0, 1) := by decide +kernel
theorem d_Z_comesTo_30 : decode c_Z_comesTob 30 = .ok (.istore_n 2, 1) := by decide +kernel
theorem d_Z_comesTo_31 : decode c_Z_comesTob 31 = .ok (.iload_n 2, 1) := by decide +kernel
theorem d_Z_comesTo_32 : decode c_Z_comesTob 32 = .ok (.aload_n 0, 1) := by decide +kernel
theorem d_Z_comesTo_33 : decode c_Z_comesTob 33 = .ok (.getfield 16, 3) := by decide +kernel
theorem d_Z_comesTo_36 : decode c_Z_comesTob 36 = .ok (.if_icmp .ge 147, 3) := by decide +kernel
theorem d_Z_comesTo_39 : decode c_Z_comesTob 39 = .ok (.iconst 0, 1) := by decide +kernel
theorem d_Z_comesTo_40 : decode c_Z_comesTob 40 = .ok (.istore_n 3, 1) := by decide +kernel
theorem d_Z_comesTo_41 : decode c_Z_comesTob 41 = .ok (.iload_n 3, 1) := by decide +kernel
theorem d_Z_comesTo_42 : decode c_Z_comesTob 42 = .ok (.iload_n 1, 1) := by decide +kernel
theorem d_Z_comesTo_43 : decode c_Z_comesTob 43 = .ok (.iload_n 2, 1) := by decide +kernel
theorem d_Z_comesTo_44 : decode c_Z_comesTob 44 = .ok (.invokestatic 106, 3) := by decide +kernel
theorem d_Z_comesTo_47 : decode c_Z_comesTob 47 = .ok (.if_icmp .ge 130, 3) := by decide +kernel
theorem d_Z_comesTo_50 : decode c_Z_comesTob 50 = .ok (.iconst 0, 1) := by decide +kernel
theorem d_Z_comesTo_51 : decode c_Z_comesTob 51 = .ok (.istore 4, 2) := by decide +kernel
theorem d_Z_comesTo_53 : decode c_Z_comesTob 53 = .ok (.iload 4, 2) := by decide +kernel
theorem d_Z_comesTo_55 : decode c_Z_comesTob 55 = .ok (.aload_n 0, 1) := by decide +kernel
theorem d_Z_comesTo_56 : decode c_Z_comesTob 56 = .ok (.getfield 60, 3) := by decide +kernel
theorem d_Z_comesTo_59 : decode c_Z_comesTob 59 = .ok (.if_icmp .ge 80, 3) := by decide +kernel
theorem d_Z_comesTo_62 : decode c_Z_comesTob 62 = .ok (.lconst 0, 1) := by decide +kernel
theorem d_Z_comesTo_63 : decode c_Z_comesTob 63 = .ok (.lstore 5, 2) := by decide +kernel
theorem d_Z_comesTo_65 : decode c_Z_comesTob 65 = .ok (.iconst 0, 1) := by decide +kernel
theorem d_Z_comesTo_66 : decode c_Z_comesTob 66 = .ok (.istore 7, 2) := by decide +kernel
theorem d_Z_comesTo_68 : decode c_Z_comesTob 68 = .ok (.iload 7, 2) := by decide +kernel
theorem d_Z_comesTo_70 : decode c_Z_comesTob 70 = .ok (.aload_n 0, 1) := by decide +kernel
theorem d_Z_comesTo_71 : decode c_Z_comesTob 71 = .ok (.getfield 60, 3) := by decide +kernel
theorem d_Z_comesTo_74 : decode c_Z_comesTob 74 = .ok (.if_icmp .ge 49, 3) := by decide +kernel
theorem d_Z_comesTo_77 : decode c_Z_comesTob 77 = .ok (.lload 5, 2) := by decide +kernel
theorem d_Z_comesTo_79 : decode c_Z_comesTob 79 = .ok (.aload_n 0, 1) := by decide +kernel
theorem d_Z_comesTo_80 : decode c_Z_comesTob 80 = .ok (.getfield 96, 3) := by decide +kernel
theorem d_Z_comesTo_83 : decode c_Z_comesTob 83 = .ok (.iload 7, 2) := by decide +kernel
theorem d_Z_comesTo_85 : decode c_Z_comesTob 85 = .ok (.iaload, 1) := by decide +kernel
theorem d_Z_comesTo_86 : decode c_Z_comesTob 86 = .ok (.i2l, 1) := by decide +kernel
theorem d_Z_comesTo_87 : decode c_Z_comesTob 87 = .ok (.aload_n 0, 1) := by decide +kernel
theorem d_Z_comesTo_88 : decode c_Z_comesTob 88 = .ok (.getfield 69, 3) := by decide +kernel
theorem d_Z_comesTo_91 : decode c_Z_comesTob 91 = .ok (.sipush 1600, 3) := by decide +kernel
theorem d_Z_comesTo_94 : decode c_Z_comesTob 94 = .ok (.iload_n 2, 1) := by decide +kernel
theorem d_Z_comesTo_95 : decode c_Z_comesTob 95 = .ok (.imul, 1) := by decide +kernel
theorem d_Z_comesTo_96 : decode c_Z_comesTob 96 = .ok (.bipush 40, 2) := by decide +kernel
theorem d_Z_comesTo_98 : decode c_Z_comesTob 98 = .ok (.iload 7, 2) := by decide +kernel
theorem d_Z_comesTo_100 : decode c_Z_comesTob 100 = .ok (.imul, 1) := by decide +kernel
theorem d_Z_comesTo_101 : decode c_Z_comesTob 101 = .ok (.iadd, 1) := by decide +kernel
theorem d_Z_comesTo_102 : decode c_Z_comesTob 102 = .ok (.iload 4, 2) := by decide +kernel
theorem d_Z_comesTo_104 : decode c_Z_comesTob 104 = .ok (.iadd, 1) := by decide +kernel
theorem d_Z_comesTo_105 : decode c_Z_comesTob 105 = .ok (.iaload, 1) := by decide +kernel
theorem d_Z_comesTo_106 : decode c_Z_comesTob 106 = .ok (.i2l, 1) := by decide +kernel
theorem d_Z_comesTo_107 : decode c_Z_comesTob 107 = .ok (.lmul, 1) := by decide +kernel
theorem d_Z_comesTo_108 : decode c_Z_comesTob 108 = .ok (.ladd, 1) := by decide +kernel
theorem d_Z_comesTo_109 : decode c_Z_comesTob 109 = .ok (.aload_n 0, 1) := by decide +kernel
theorem d_Z_comesTo_110 : decode c_Z_comesTob 110 = .ok (.getfield 13, 3) := by decide +kernel
theorem d_Z_comesTo_113 : decode c_Z_comesTob 113 = .ok (.i2l, 1) := by decide +kernel
theorem d_Z_comesTo_114 : decode c_Z_comesTob 114 = .ok (.lrem, 1) := by decide +kernel
theorem d_Z_comesTo_115 : decode c_Z_comesTob 115 = .ok (.lstore 5, 2) := by decide +kernel
theorem d_Z_comesTo_117 : decode c_Z_comesTob 117 = .ok (.iinc 7 1, 3) := by decide +kernel
theorem d_Z_comesTo_120 : decode c_Z_comesTob 120 = .ok (.goto (-52), 3) := by decide +kernel
theorem d_Z_comesTo_123 : decode c_Z_comesTob 123 = .ok (.aload_n 0, 1) := by decide +kernel
theorem d_Z_comesTo_124 : decode c_Z_comesTob 124 = .ok (.getfield 99, 3) := by decide +kernel
theorem d_Z_comesTo_127 : decode c_Z_comesTob 127 = .ok (.iload 4, 2) := by decide +kernel
theorem d_Z_comesTo_129 : decode c_Z_comesTob 129 = .ok (.lload 5, 2) := by decide +kernel
theorem d_Z_comesTo_131 : decode c_Z_comesTob 131 = .ok (.l2i, 1) := by decide +kernel
theorem d_Z_comesTo_132 : decode c_Z_comesTob 132 = .ok (.iastore, 1) := by decide +kernel
theorem d_Z_comesTo_133 : decode c_Z_comesTob 133 = .ok (.iinc 4 1, 3) := by decide +kernel
theorem d_Z_comesTo_136 : decode c_Z_comesTob 136 = .ok (.goto (-83), 3) := by decide +kernel
theorem d_Z_comesTo_139 : decode c_Z_comesTob 139 = .ok (.iconst 0, 1) := by decide +kernel
theorem d_Z_comesTo_140 : decode c_Z_comesTob 140 = .ok (.istore 4, 2) := by decide +kernel
theorem d_Z_comesTo_142 : decode c_Z_comesTob 142 = .ok (.iload 4, 2) := by decide +kernel
theorem d_Z_comesTo_144 : decode c_Z_comesTob 144 = .ok (.aload_n 0, 1) := by decide +kernel
theorem d_Z_comesTo_145 : decode c_Z_comesTob 145 = .ok (.getfield 60, 3) := by decide +kernel
theorem d_Z_comesTo_148 : decode c_Z_comesTob 148 = .ok (.if_icmp .ge 23, 3) := by decide +kernel
theorem d_Z_comesTo_151 : decode c_Z_comesTob 151 = .ok (.aload_n 0, 1) := by decide +kernel
theorem d_Z_comesTo_152 : decode c_Z_comesTob 152 = .ok (.getfield 96, 3) := by decide +kernel
theorem d_Z_comesTo_155 : decode c_Z_comesTob 155 = .ok (.iload 4, 2) := by decide +kernel
theorem d_Z_comesTo_157 : decode c_Z_comesTob 157 = .ok (.aload_n 0, 1) := by decide +kernel
theorem d_Z_comesTo_158 : decode c_Z_comesTob 158 = .ok (.getfield 99, 3) := by decide +kernel
theorem d_Z_comesTo_161 : decode c_Z_comesTob 161 = .ok (.iload 4, 2) := by decide +kernel
theorem d_Z_comesTo_163 : decode c_Z_comesTob 163 = .ok (.iaload, 1) := by decide +kernel
theorem d_Z_comesTo_164 : decode c_Z_comesTob 164 = .ok (.iastore, 1) := by decide +kernel
theorem d_Z_comesTo_165 : decode c_Z_comesTob 165 = .ok (.iinc 4 1, 3) := by decide +kernel
theorem d_Z_comesTo_168 : decode c_Z_comesTob 168 = .ok (.goto (-26), 3) := by decide +kernel
theorem d_Z_comesTo_171 : decode c_Z_comesTob 171 = .ok (.iinc 3 1, 3) := by decide +kernel
theorem d_Z_comesTo_174 : decode c_Z_comesTob 174 = .ok (.goto (-133), 3) := by decide +kernel
theorem d_Z_comesTo_177 : decode c_Z_comesTob 177 = .ok (.iinc 2 1, 3) := by decide +kernel
theorem d_Z_comesTo_180 : decode c_Z_comesTob 180 = .ok (.goto (-149), 3) := by decide +kernel
theorem d_Z_comesTo_183 : decode c_Z_comesTob 183 = .ok (.return_, 1) := by decide +kernel
abbrev ws_zcomesTo (a_Z a_Z_product a_Z_now a_Z_next a_Z_mono a_Z_degree a_Z_generator a_Z_hand a_Z_has a_Z_row a_Z_work a_Z_basis a_Z_rest a_Z_known a_Z_lead a_Z_tail a_Z_word a_Z_vector a_Z_system : Nat) (cI cL cZ : ClassId) (Z_thrownCode Z_p Z_n Z_order Z_monomials Z_generators Z_upTo Z_members Z_lefts Z_vars Z_leadsFound Z_words : Int32) (Z_product Z_now Z_next : Nat → Int32) : va_W := [(a_Z, .inr (5, [.int Z_thrownCode, .int Z_p, .int Z_n, .int Z_order, .int Z_monomials, .ref a_Z_mono, .ref a_Z_degree, .int Z_generators, .ref a_Z_generator, .ref a_Z_hand, .int Z_upTo, .ref a_Z_has, .ref a_Z_row, .ref a_Z_work, .ref a_Z_basis, .int Z_members, .int Z_lefts, .int Z_vars, .ref a_Z_rest, .ref a_Z_product, .ref a_Z_known, .int Z_leadsFound, .ref a_Z_lead, .ref a_Z_tail, .int Z_words, .ref a_Z_word, .ref a_Z_vector, .ref a_Z_system, .ref a_Z_now, .ref a_Z_next])), (a_Z_product, .inl (cI, 6400, .inl Z_product)), (a_Z_now, .inl (cI, 40, .inl Z_now)), (a_Z_next, .inl (cI, 40, .inl Z_next))]
abbrev rm_zcomesTo : Room := { frames := 1, cells := 0, slots := 0, locals := 21 }
abbrev g_zcomesTo (X : gX) (D : va_G) (cI cL cZ : ClassId) (a_Z a_Z_product a_Z_now a_Z_next a_Z_mono a_Z_degree a_Z_generator a_Z_hand a_Z_has a_Z_row a_Z_work a_Z_basis a_Z_rest a_Z_known a_Z_lead a_Z_tail a_Z_word a_Z_vector a_Z_system : Nat) (A : Nat → Prop) (Z_thrownCode Z_p Z_n Z_order Z_monomials Z_generators Z_upTo Z_members Z_lefts Z_vars Z_leadsFound Z_words : Int32) (Z_product Z_now_r Z_next_r : Nat → Int32) (pc : Nat) (lv : List (Nat × Value)) (st : List Value) (Z_now Z_next : Nat → Int32) : Prop := ∀ (H : Heap) (locs : List Loc) (ls : Array Slot), va_P D classes (ws_zcomesTo a_Z a_Z_product a_Z_now a_Z_next a_Z_mono a_Z_degree a_Z_generator a_Z_hand a_Z_has a_Z_row a_Z_work a_Z_basis a_Z_rest a_Z_known a_Z_lead a_Z_tail a_Z_word a_Z_vector a_Z_system cI cL cZ Z_thrownCode Z_p Z_n Z_order Z_monomials Z_generators Z_upTo Z_members Z_lefts Z_vars Z_leadsFound Z_words Z_product Z_now Z_next) H → va_D A (ws_zcomesTo a_Z a_Z_product a_Z_now a_Z_next a_Z_mono a_Z_degree a_Z_generator a_Z_hand a_Z_has a_Z_row a_Z_work a_Z_basis a_Z_rest a_Z_known a_Z_lead a_Z_tail a_Z_word a_Z_vector a_Z_system cI cL cZ Z_thrownCode Z_p Z_n Z_order Z_monomials Z_generators Z_upTo Z_members Z_lefts Z_vars Z_leadsFound Z_words Z_product Z_now Z_next) → va_S A (gs X).heap H locs → lv_has ls 8 lv → gWW X rm_zcomesTo H locs 0 0 (MQ (gbl X) (va_Qv (fun _ : Unit => True) (gB D (gT cI cL cZ) A (ws_zcomesTo a_Z a_Z_product a_Z_now a_Z_next a_Z_mono a_Z_degree a_Z_generator a_Z_hand a_Z_has a_Z_row a_Z_work a_Z_basis a_Z_rest a_Z_known a_Z_lead a_Z_tail a_Z_word a_Z_vector a_Z_system cI cL cZ Z_thrownCode Z_p Z_n Z_order Z_monomials Z_generators Z_upTo Z_members Z_lefts Z_vars Z_leadsFound Z_words Z_product Z_now_r Z_next_r)) A) (ga X) (gs X) 0 0 A) (F0 (gm X) pc ls st)
set_option maxHeartbeats 4000000 in
set_option maxRecDepth 100000 in
theorem w_zcomesTo_142 (X : gX) (D : va_G) (cI cL cZ : ClassId) (a_Z a_Z_product a_Z_now a_Z_next a_Z_mono a_Z_degree a_Z_generator a_Z_hand a_Z_has a_Z_row a_Z_work a_Z_basis a_Z_rest a_Z_known a_Z_lead a_Z_tail a_Z_word a_Z_vector a_Z_system : Nat) (A : Nat → Prop) (Z_thrownCode Z_p Z_n Z_order Z_monomials Z_generators Z_upTo Z_members Z_lefts Z_vars Z_leadsFound Z_words : Int32) (Z_product Z_now_r Z_next_r : Nat → Int32) (F : Nat) (C0 : gC X c_Z_comesTob none 8 "RemnantDictionaryModel" gAll) (hK : va_K D classes (gT cI cL cZ) (gs X)) (hA : ∀ q : Nat, (gs X).heap.size ≤ q → A q) (hN : gN (gs X)) (k31 : Int32 → Int32 → (Nat → Int32) → (Nat → Int32) → Option ((Nat → Int32) × (Nat → Int32))) (hk31 : ∀ (i1 i2 : Int32) (Z_now Z_next : Nat → Int32), k31 i1 i2 Z_now Z_next = some (Z_now_r, Z_next_r) → g_zcomesTo X D cI cL cZ a_Z a_Z_product a_Z_now a_Z_next a_Z_mono a_Z_degree a_Z_generator a_Z_hand a_Z_has a_Z_row a_Z_work a_Z_basis a_Z_rest a_Z_known a_Z_lead a_Z_tail a_Z_word a_Z_vector a_Z_system A Z_thrownCode Z_p Z_n Z_order Z_monomials Z_generators Z_upTo Z_members Z_lefts Z_vars Z_leadsFound Z_words Z_product Z_now_r Z_next_r 31 [(0, .ref a_Z), (1, .int i1), (2, .int i2)] [] Z_now Z_next) (k41 : Int32 → Int32 → Int32 → (Nat → Int32) → (Nat → Int32) → Option ((Nat → Int32) × (Nat → Int32))) (hk41 : ∀ (i1 i2 i3 : Int32) (Z_now Z_next : Nat → Int32), k41 i1 i2 i3 Z_now Z_next = some (Z_now_r, Z_next_r) → g_zcomesTo X D cI cL cZ a_Z a_Z_product a_Z_now a_Z_next a_Z_mono a_Z_degree a_Z_generator a_Z_hand a_Z_has a_Z_row a_Z_work a_Z_basis a_Z_rest a_Z_known a_Z_lead a_Z_tail a_Z_word a_Z_vector a_Z_system A Z_thrownCode Z_p Z_n Z_order Z_monomials Z_generators Z_upTo Z_members Z_lefts Z_vars Z_leadsFound Z_words Z_product Z_now_r Z_next_r 41 [(0, .ref a_Z), (1, .int i1), (2, .int i2), (3, .int i3)] [] Z_now Z_next) (k142 : Int32 → Int32 → Int32 → Int32 → (Nat → Int32) → (Nat → Int32) → Option ((Nat → Int32) × (Nat → Int32))) (hk142 : ∀ (i1 i2 i3 i4 : Int32) (Z_now Z_next : Nat → Int32), k142 i1 i2 i3 i4 Z_now Z_next = some (Z_now_r, Z_next_r) → g_zcomesTo X D cI cL cZ a_Z a_Z_product a_Z_now a_Z_next a_Z_mono a_Z_degree a_Z_generator a_Z_hand a_Z_has a_Z_row a_Z_work a_Z_basis a_Z_rest a_Z_known a_Z_lead a_Z_tail a_Z_word a_Z_vector a_Z_system A Z_thrownCode Z_p Z_n Z_order Z_monomials Z_generators Z_upTo Z_members Z_lefts Z_vars Z_leadsFound Z_words Z_product Z_now_r Z_next_r 142 [(0, .ref a_Z), (1, .int i1), (2, .int i2), (3, .int i3), (4, .int i4)] [] Z_now Z_next) (i1 i2 i3 i4 : Int32) (Z_now Z_next : Nat → Int32) (hrun : s_zcomesTo_142 F Z_lefts Z_n Z_p Z_product k31 k41 k142 i1 i2 i3 i4 Z_now Z_next = some (Z_now_r, Z_next_r)) : g_zcomesTo X D cI cL cZ a_Z a_Z_product a_Z_now a_Z_next a_Z_mono a_Z_degree a_Z_generator a_Z_hand a_Z_has a_Z_row a_Z_work a_Z_basis a_Z_rest a_Z_known a_Z_lead a_Z_tail a_Z_word a_Z_vector a_Z_system A Z_thrownCode Z_p Z_n Z_order Z_monomials Z_generators Z_upTo Z_members Z_lefts Z_vars Z_leadsFound Z_words Z_product Z_now_r Z_next_r 142 [(0, .ref a_Z), (1, .int i1), (2, .int i2), (3, .int i3), (4, .int i4)] [] Z_now Z_next := by
  have C1 := C0
  obtain ⟨hx, hb, hr, hml, hown, hts, hlocks⟩ := C1
  unfold s_zcomesTo_142 at hrun
  intro H locs ls hP hD hS hl
  refine lv_iload hx hb d_Z_comesTo_142 (lv_at hl 4 rfl) ?_
  refine lv_aload_n hx hb d_Z_comesTo_144 rfl (lv_at hl 0 rfl) ?_
  refine va_get (D := D) (ci := 5) (v := .int Z_lefts) (C := "RemnantDictionaryModel") (T := T_Z) (N := 30) hx hb hts iw_Z hown hK hP 0 rfl rfl 16 (by decide) (hts _ k_445) (fun _ h9 => h9) rfl d_Z_comesTo_145 ?_
  refine g_icmp_ge (tgt := 171) hx hb d_Z_comesTo_148 (by decide) hrun (fun _ hrun => ?_) (fun _ hrun => ?_)
  · refine lv_iinc (v := (i3 + 1)) (lv' := [(3, .int (i3 + 1)), (0, .ref a_Z), (1, .int i1), (2, .int i2), (4, .int i4)]) hx hb d_Z_comesTo_171 hl (k := 3) rfl rfl (by decide) rfl (fun ls hl => ?_)
    refine lv_goto (tgt := 41) hx hb d_Z_comesTo_174 (by decide) ?_
    exact hk41 i1 i2 (i3 + 1) Z_now Z_next hrun H locs ls hP hD hS (lv_sub hl [1, 2, 3, 0] rfl)
  · refine lv_aload_n hx hb d_Z_comesTo_151 rfl (lv_at hl 0 rfl) ?_
    refine va_get (D := D) (ci := 5) (v := .ref a_Z_now) (C := "RemnantDictionaryModel") (T := T_Z) (N := 30) hx hb hts iw_Z hown hK hP 0 rfl rfl 28 (by decide) (hts _ k_462) (fun _ h9 => h9) rfl d_Z_comesTo_152 ?_
    refine lv_iload hx hb d_Z_comesTo_155 (lv_at hl 4 rfl) ?_
    refine lv_aload_n hx hb d_Z_comesTo_157 rfl (lv_at hl 0 rfl) ?_
    refine va_get (D := D) (ci := 5) (v := .ref a_Z_next) (C := "RemnantDictionaryModel") (T := T_Z) (N := 30) hx hb hts iw_Z hown hK hP 0 rfl rfl 29 (by decide) (hts _ k_463) (fun _ h9 => h9) rfl d_Z_comesTo_158 ?_
    refine lv_iload hx hb d_Z_comesTo_161 (lv_at hl 4 rfl) ?_
    refine g_iald hx hb hK hP 3 0 rfl rfl hrun d_Z_comesTo_163 (fun x_1 hrun => ?_)
    refine g_iast hx hb hK hP hD hS 2 0 rfl rfl hrun d_Z_comesTo_164 (fun Z_now_2 hrun H locs (hP : va_P D classes (ws_zcomesTo a_Z a_Z_product a_Z_now a_Z_next a_Z_mono a_Z_degree a_Z_generator a_Z_hand a_Z_has a_Z_row a_Z_work a_Z_basis a_Z_rest a_Z_known a_Z_lead a_Z_tail a_Z_word a_Z_vector a_Z_system cI cL cZ Z_thrownCode Z_p Z_n Z_order Z_monomials Z_generators Z_upTo Z_members Z_lefts Z_vars Z_leadsFound Z_words Z_product Z_now_2 Z_next) H) (hD : va_D A (ws_zcomesTo a_Z a_Z_product a_Z_now a_Z_next a_Z_mono a_Z_degree a_Z_generator a_Z_hand a_Z_has a_Z_row a_Z_work a_Z_basis a_Z_rest a_Z_known a_Z_lead a_Z_tail a_Z_word a_Z_vector a_Z_system cI cL cZ Z_thrownCode Z_p Z_n Z_order Z_monomials Z_generators Z_upTo Z_members Z_lefts Z_vars Z_leadsFound Z_words Z_product Z_now_2 Z_next)) hS => ?_)
    refine lv_iinc (v := (i4 + 1)) (lv' := [(4, .int (i4 + 1)), (0, .ref a_Z), (1, .int i1), (2, .int i2), (3, .int i3)]) hx hb d_Z_comesTo_165 hl (k := 4) rfl rfl (by decide) rfl (fun ls hl => ?_)
    refine lv_goto (tgt := 142) hx hb d_Z_comesTo_168 (by decide) ?_
    exact hk142 i1 i2 i3 (i4 + 1) Z_now_2 Z_next hrun H locs ls hP hD hS (lv_sub hl [1, 2, 3, 4, 0] rfl)
theorem v_zcomesTo_142 (X : gX) (D : va_G) (cI cL cZ : ClassId) (a_Z a_Z_product a_Z_now a_Z_next a_Z_mono a_Z_degree a_Z_generator a_Z_hand a_Z_has a_Z_row a_Z_work a_Z_basis a_Z_rest a_Z_known a_Z_lead a_Z_tail a_Z_word a_Z_vector a_Z_system : Nat) (A : Nat → Prop) (Z_thrownCode Z_p Z_n Z_order Z_monomials Z_generators Z_upTo Z_members Z_lefts Z_vars Z_leadsFound Z_words : Int32) (Z_product Z_now_r Z_next_r : Nat → Int32) (F : Nat) (C0 : gC X c_Z_comesTob none 8 "RemnantDictionaryModel" gAll) (hK : va_K D classes (gT cI cL cZ) (gs X)) (hA : ∀ q : Nat, (gs X).heap.size ≤ q → A q) (hN : gN (gs X)) (k31 : Int32 → Int32 → (Nat → Int32) → (Nat → Int32) → Option ((Nat → Int32) × (Nat → Int32))) (hk31 : ∀ (i1 i2 : Int32) (Z_now Z_next : Nat → Int32), k31 i1 i2 Z_now Z_next = some (Z_now_r, Z_next_r) → g_zcomesTo X D cI cL cZ a_Z a_Z_product a_Z_now a_Z_next a_Z_mono a_Z_degree a_Z_generator a_Z_hand a_Z_has a_Z_row a_Z_work a_Z_basis a_Z_rest a_Z_known a_Z_lead a_Z_tail a_Z_word a_Z_vector a_Z_system A Z_thrownCode Z_p Z_n Z_order Z_monomials Z_generators Z_upTo Z_members Z_lefts Z_vars Z_leadsFound Z_words Z_product Z_now_r Z_next_r 31 [(0, .ref a_Z), (1, .int i1), (2, .int i2)] [] Z_now Z_next) (k41 : Int32 → Int32 → Int32 → (Nat → Int32) → (Nat → Int32) → Option ((Nat → Int32) × (Nat → Int32))) (hk41 : ∀ (i1 i2 i3 : Int32) (Z_now Z_next : Nat → Int32), k41 i1 i2 i3 Z_now Z_next = some (Z_now_r, Z_next_r) → g_zcomesTo X D cI cL cZ a_Z a_Z_product a_Z_now a_Z_next a_Z_mono a_Z_degree a_Z_generator a_Z_hand a_Z_has a_Z_row a_Z_work a_Z_basis a_Z_rest a_Z_known a_Z_lead a_Z_tail a_Z_word a_Z_vector a_Z_system A Z_thrownCode Z_p Z_n Z_order Z_monomials Z_generators Z_upTo Z_members Z_lefts Z_vars Z_leadsFound Z_words Z_product Z_now_r Z_next_r 41 [(0, .ref a_Z), (1, .int i1), (2, .int i2), (3, .int i3)] [] Z_now Z_next) : ∀ (n : Nat) (i1 i2 i3 i4 : Int32) (Z_now Z_next : Nat → Int32), b_zcomesTo_142 F Z_lefts Z_n Z_p Z_product k31 k41 n i1 i2 i3 i4 Z_now Z_next = some (Z_now_r, Z_next_r) → g_zcomesTo X D cI cL cZ a_Z a_Z_product a_Z_now a_Z_next a_Z_mono a_Z_degree a_Z_generator a_Z_hand a_Z_has a_Z_row a_Z_work a_Z_basis a_Z_rest a_Z_known a_Z_lead a_Z_tail a_Z_word a_Z_vector a_Z_system A Z_thrownCode Z_p Z_n Z_order Z_monomials Z_generators Z_upTo Z_members Z_lefts Z_vars Z_leadsFound Z_words Z_product Z_now_r Z_next_r 142 [(0, .ref a_Z), (1, .int i1), (2, .int i2), (3, .int i3), (4, .int i4)] [] Z_now Z_next := by
  intro n
  induction n with
  | zero => intro i1 i2 i3 i4 Z_now Z_next hrun; cases hrun
  | succ n ih =>
    intro i1 i2 i3 i4 Z_now Z_next hrun
    exact w_zcomesTo_142 X D cI cL cZ a_Z a_Z_product a_Z_now a_Z_next a_Z_mono a_Z_degree a_Z_generator a_Z_hand a_Z_has a_Z_row a_Z_work a_Z_basis a_Z_rest a_Z_known a_Z_lead a_Z_tail a_Z_word a_Z_vector a_Z_system A Z_thrownCode Z_p Z_n Z_order Z_monomials Z_generators Z_upTo Z_members Z_lefts Z_vars Z_leadsFound Z_words Z_product Z_now_r Z_next_r F C0 hK hA hN k31 hk31 k41 hk41 (b_zcomesTo_142 F Z_lefts Z_n Z_p Z_product k31 k41 n) ih i1 i2 i3 i4 Z_now Z_next hrun
set_option maxHeartbeats 4000000 in
set_option maxRecDepth 100000 in
theorem w_zcomesTo_68 (X : gX) (D : va_G) (cI cL cZ : ClassId) (a_Z a_Z_product a_Z_now a_Z_next a_Z_mono a_Z_degree a_Z_generator a_Z_hand a_Z_has a_Z_row a_Z_work a_Z_basis a_Z_rest a_Z_known a_Z_lead a_Z_tail a_Z_word a_Z_vector a_Z_system : Nat) (A : Nat → Prop) (Z_thrownCode Z_p Z_n Z_order Z_monomials Z_generators Z_upTo Z_members Z_lefts Z_vars Z_leadsFound Z_words : Int32) (Z_product Z_now_r Z_next_r : Nat → Int32) (F : Nat) (C0 : gC X c_Z_comesTob none 8 "RemnantDictionaryModel" gAll) (hK : va_K D classes (gT cI cL cZ) (gs X)) (hA : ∀ q : Nat, (gs X).heap.size ≤ q → A q) (hN : gN (gs X)) (k31 : Int32 → Int32 → (Nat → Int32) → (Nat → Int32) → Option ((Nat → Int32) × (Nat → Int32))) (hk31 : ∀ (i1 i2 : Int32) (Z_now Z_next : Nat → Int32), k31 i1 i2 Z_now Z_next = some (Z_now_r, Z_next_r) → g_zcomesTo X D cI cL cZ a_Z a_Z_product a_Z_now a_Z_next a_Z_mono a_Z_degree a_Z_generator a_Z_hand a_Z_has a_Z_row a_Z_work a_Z_basis a_Z_rest a_Z_known a_Z_lead a_Z_tail a_Z_word a_Z_vector a_Z_system A Z_thrownCode Z_p Z_n Z_order Z_monomials Z_generators Z_upTo Z_members Z_lefts Z_vars Z_leadsFound Z_words Z_product Z_now_r Z_next_r 31 [(0, .ref a_Z), (1, .int i1), (2, .int i2)] [] Z_now Z_next) (k41 : Int32 → Int32 → Int32 → (Nat → Int32) → (Nat → Int32) → Option ((Nat → Int32) × (Nat → Int32))) (hk41 : ∀ (i1 i2 i3 : Int32) (Z_now Z_next : Nat → Int32), k41 i1 i2 i3 Z_now Z_next = some (Z_now_r, Z_next_r) → g_zcomesTo X D cI cL cZ a_Z a_Z_product a_Z_now a_Z_next a_Z_mono a_Z_degree a_Z_generator a_Z_hand a_Z_has a_Z_row a_Z_work a_Z_basis a_Z_rest a_Z_known a_Z_lead a_Z_tail a_Z_word a_Z_vector a_Z_system A Z_thrownCode Z_p Z_n Z_order Z_monomials Z_generators Z_upTo Z_members Z_lefts Z_vars Z_leadsFound Z_words Z_product Z_now_r Z_next_r 41 [(0, .ref a_Z), (1, .int i1), (2, .int i2), (3, .int i3)] [] Z_now Z_next) (k53 : Int32 → Int32 → Int32 → Int32 → (Nat → Int32) → (Nat → Int32) → Option ((Nat → Int32) × (Nat → Int32))) (hk53 : ∀ (i1 i2 i3 i4 : Int32) (Z_now Z_next : Nat → Int32), k53 i1 i2 i3 i4 Z_now Z_next = some (Z_now_r, Z_next_r) → g_zcomesTo X D cI cL cZ a_Z a_Z_product a_Z_now a_Z_next a_Z_mono a_Z_degree a_Z_generator a_Z_hand a_Z_has a_Z_row a_Z_work a_Z_basis a_Z_rest a_Z_known a_Z_lead a_Z_tail a_Z_word a_Z_vector a_Z_system A Z_thrownCode Z_p Z_n Z_order Z_monomials Z_generators Z_upTo Z_members Z_lefts Z_vars Z_leadsFound Z_words Z_product Z_now_r Z_next_r 53 [(0, .ref a_Z), (1, .int i1), (2, .int i2), (3, .int i3), (4, .int i4)] [] Z_now Z_next) (k68 : Int32 → Int32 → Int32 → Int32 → Int64 → Int32 → (Nat → Int32) → (Nat → Int32) → Option ((Nat → Int32) × (Nat → Int32))) (hk68 : ∀ (i1 i2 i3 i4 : Int32) (l5 : Int64) (i7 : Int32) (Z_now Z_next : Nat → Int32), k68 i1 i2 i3 i4 l5 i7 Z_now Z_next = some (Z_now_r, Z_next_r) → g_zcomesTo X D cI cL cZ a_Z a_Z_product a_Z_now a_Z_next a_Z_mono a_Z_degree a_Z_generator a_Z_hand a_Z_has a_Z_row a_Z_work a_Z_basis a_Z_rest a_Z_known a_Z_lead a_Z_tail a_Z_word a_Z_vector a_Z_system A Z_thrownCode Z_p Z_n Z_order Z_monomials Z_generators Z_upTo Z_members Z_lefts Z_vars Z_leadsFound Z_words Z_product Z_now_r Z_next_r 68 [(0, .ref a_Z), (1, .int i1), (2, .int i2), (3, .int i3), (4, .int i4), (5, .long l5), (7, .int i7)] [] Z_now Z_next) (i1 i2 i3 i4 : Int32) (l5 : Int64) (i7 : Int32) (Z_now Z_next : Nat → Int32) (hrun : s_zcomesTo_68 F Z_lefts Z_n Z_p Z_product k31 k41 k53 k68 i1 i2 i3 i4 l5 i7 Z_now Z_next = some (Z_now_r, Z_next_r)) : g_zcomesTo X D cI cL cZ a_Z a_Z_product a_Z_now a_Z_next a_Z_mono a_Z_degree a_Z_generator a_Z_hand a_Z_has a_Z_row a_Z_work a_Z_basis a_Z_rest a_Z_known a_Z_lead a_Z_tail a_Z_word a_Z_vector a_Z_system A Z_thrownCode Z_p Z_n Z_order Z_monomials Z_generators Z_upTo Z_members Z_lefts Z_vars Z_leadsFound Z_words Z_product Z_now_r Z_next_r 68 [(0, .ref a_Z), (1, .int i1), (2, .int i2), (3, .int i3), (4, .int i4), (5, .long l5), (7, .int i7)] [] Z_now Z_next := by
  have C1 := C0
  obtain ⟨hx, hb, hr, hml, hown, hts, hlocks⟩ := C1
  unfold s_zcomesTo_68 at hrun
  intro H locs ls hP hD hS hl
  refine lv_iload hx hb d_Z_comesTo_68 (lv_at hl 6 rfl) ?_
  refine lv_aload_n hx hb d_Z_comesTo_70 rfl (lv_at hl 0 rfl) ?_
  refine va_get (D := D) (ci := 5) (v := .int Z_lefts) (C := "RemnantDictionaryModel") (T := T_Z) (N := 30) hx hb hts iw_Z hown hK hP 0 rfl rfl 16 (by decide) (hts _ k_445) (fun _ h9 => h9) rfl d_Z_comesTo_71 ?_
  refine g_icmp_ge (tgt := 123) hx hb d_Z_comesTo_74 (by decide) hrun (fun _ hrun => ?_) (fun _ hrun => ?_)
  · refine lv_aload_n hx hb d_Z_comesTo_123 rfl (lv_at hl 0 rfl) ?_
    refine va_get (D := D) (ci := 5) (v := .ref a_Z_next) (C := "RemnantDictionaryModel") (T := T_Z) (N := 30) hx hb hts iw_Z hown hK hP 0 rfl rfl 29 (by decide) (hts _ k_463) (fun _ h9 => h9) rfl d_Z_comesTo_124 ?_
    refine lv_iload hx hb d_Z_comesTo_127 (lv_at hl 4 rfl) ?_
    refine lv_lload hx hb d_Z_comesTo_129 (lv_at hl 5 rfl) ?_
    refine lv_l2i hx hb d_Z_comesTo_131 rfl ?_
    refine g_iast hx hb hK hP hD hS 3 0 rfl rfl hrun d_Z_comesTo_132 (fun Z_next_1 hrun H locs (hP : va_P D classes (ws_zcomesTo a_Z a_Z_product a_Z_now a_Z_next a_Z_mono a_Z_degree a_Z_generator a_Z_hand a_Z_has a_Z_row a_Z_work a_Z_basis a_Z_rest a_Z_known a_Z_lead a_Z_tail a_Z_word a_Z_vector a_Z_system cI cL cZ Z_thrownCode Z_p Z_n Z_order Z_monomials Z_generators Z_upTo Z_members Z_lefts Z_vars Z_leadsFound Z_words Z_product Z_now Z_next_1) H) (hD : va_D A (ws_zcomesTo a_Z a_Z_product a_Z_now a_Z_next a_Z_mono a_Z_degree a_Z_generator a_Z_hand a_Z_has a_Z_row a_Z_work a_Z_basis a_Z_rest a_Z_known a_Z_lead a_Z_tail a_Z_word a_Z_vector a_Z_system cI cL cZ Z_thrownCode Z_p Z_n Z_order Z_monomials Z_generators Z_upTo Z_members Z_lefts Z_vars Z_leadsFound Z_words Z_product Z_now Z_next_1)) hS => ?_)
    refine lv_iinc (v := (i4 + 1)) (lv' := [(4, .int (i4 + 1)), (0, .ref a_Z), (1, .int i1), (2, .int i2), (3, .int i3), (5, .long l5), (7, .int i7)]) hx hb d_Z_comesTo_133 hl (k := 4) rfl rfl (by decide) rfl (fun ls hl => ?_)
    refine lv_goto (tgt := 53) hx hb d_Z_comesTo_136 (by decide) ?_
    exact hk53 i1 i2 i3 (i4 + 1) Z_now Z_next_1 hrun H locs ls hP hD hS (lv_sub hl [1, 2, 3, 4, 0] rfl)
  · refine lv_lload hx hb d_Z_comesTo_77 (lv_at hl 5 rfl) ?_
    refine lv_aload_n hx hb d_Z_comesTo_79 rfl (lv_at hl 0 rfl) ?_
    refine va_get (D := D) (ci := 5) (v := .ref a_Z_now) (C := "RemnantDictionaryModel") (T := T_Z) (N := 30) hx hb hts iw_Z hown hK hP 0 rfl rfl 28 (by decide) (hts _ k_462) (fun _ h9 => h9) rfl d_Z_comesTo_80 ?_
    refine lv_iload hx hb d_Z_comesTo_83 (lv_at hl 6 rfl) ?_
    refine g_iald hx hb hK hP 2 0 rfl rfl hrun d_Z_comesTo_85 (fun x_2 hrun => ?_)
    refine lv_i2l hx hb d_Z_comesTo_86 rfl ?_
    refine lv_aload_n hx hb d_Z_comesTo_87 rfl (lv_at hl 0 rfl) ?_
    refine va_get (D := D) (ci := 5) (v := .ref a_Z_product) (C := "RemnantDictionaryModel") (T := T_Z) (N := 30) hx hb hts iw_Z hown hK hP 0 rfl rfl 19 (by decide) (hts _ k_452) (fun _ h9 => h9) rfl d_Z_comesTo_88 ?_
    refine lv_sipush (v := 1600) hx hb d_Z_comesTo_91 (by decide) ?_
    refine lv_iload_n hx hb d_Z_comesTo_94 rfl (lv_at hl 2 rfl) ?_
    refine lv_imul hx hb d_Z_comesTo_95 ?_
    refine lv_bipush (v := 40) hx hb d_Z_comesTo_96 (by decide) ?_
    refine lv_iload hx hb d_Z_comesTo_98 (lv_at hl 6 rfl) ?_
    refine lv_imul hx hb d_Z_comesTo_100 ?_
    refine lv_iadd hx hb d_Z_comesTo_101 ?_
    refine lv_iload hx hb d_Z_comesTo_102 (lv_at hl 4 rfl) ?_
    refine lv_iadd hx hb d_Z_comesTo_104 ?_
    refine g_iald hx hb hK hP 1 0 rfl rfl hrun d_Z_comesTo_105 (fun x_3 hrun => ?_)
    refine lv_i2l hx hb d_Z_comesTo_106 rfl ?_
    refine lv_lmul hx hb d_Z_comesTo_107 ?_
    refine lv_ladd hx hb d_Z_comesTo_108 ?_
    refine lv_aload_n hx hb d_Z_comesTo_109 rfl (lv_at hl 0 rfl) ?_
    refine va_get (D := D) (ci := 5) (v := .int Z_p) (C := "RemnantDictionaryModel") (T := T_Z) (N := 30) hx hb hts iw_Z hown hK hP 0 rfl rfl 1 (by decide) (hts _ k_385) (fun _ h9 => h9) rfl d_Z_comesTo_110 ?_
    refine lv_i2l hx hb d_Z_comesTo_113 rfl ?_
    refine g_lrem hx hb d_Z_comesTo_114 hrun (fun hrun => ?_)
    refine lv_lstore (lv' := [(5, .long (remL (l5 + (x_2.toInt64 * x_3.toInt64)) Z_p.toInt64)), (0, .ref a_Z), (1, .int i1), (2, .int i2), (3, .int i3), (4, .int i4), (7, .int i7)]) hx hb d_Z_comesTo_115 hl (by decide) rfl (fun ls hl => ?_)
    refine lv_iinc (v := (i7 + 1)) (lv' := [(7, .int (i7 + 1)), (5, .long (remL (l5 + (x_2.toInt64 * x_3.toInt64)) Z_p.toInt64)), (0, .ref a_Z), (1, .int i1), (2, .int i2), (3, .int i3), (4, .int i4)]) hx hb d_Z_comesTo_117 hl (k := 6) rfl rfl (by decide) rfl (fun ls hl => ?_)
    refine lv_goto (tgt := 68) hx hb d_Z_comesTo_120 (by decide) ?_
    exact hk68 i1 i2 i3 i4 (remL (l5 + (x_2.toInt64 * x_3.toInt64)) Z_p.toInt64) (i7 + 1) Z_now Z_next hrun H locs ls hP hD hS (lv_sub hl [2, 3, 4, 5, 6, 1, 0] rfl)
theorem v_zcomesTo_68 (X : gX) (D : va_G) (cI cL cZ : ClassId) (a_Z a_Z_product a_Z_now a_Z_next a_Z_mono a_Z_degree a_Z_generator a_Z_hand a_Z_has a_Z_row a_Z_work a_Z_basis a_Z_rest a_Z_known a_Z_lead a_Z_tail a_Z_word a_Z_vector a_Z_system : Nat) (A : Nat → Prop) (Z_thrownCode Z_p Z_n Z_order Z_monomials Z_generators Z_upTo Z_members Z_lefts Z_vars Z_leadsFound Z_words : Int32) (Z_product Z_now_r Z_next_r : Nat → Int32) (F : Nat) (C0 : gC X c_Z_comesTob none 8 "RemnantDictionaryModel" gAll) (hK : va_K D classes (gT cI cL cZ) (gs X)) (hA : ∀ q : Nat, (gs X).heap.size ≤ q → A q) (hN : gN (gs X)) (k31 : Int32 → Int32 → (Nat → Int32) → (Nat → Int32) → Option ((Nat → Int32) × (Nat → Int32))) (hk31 : ∀ (i1 i2 : Int32) (Z_now Z_next : Nat → Int32), k31 i1 i2 Z_now Z_next = some (Z_now_r, Z_next_r) → g_zcomesTo X D cI cL cZ a_Z a_Z_product a_Z_now a_Z_next a_Z_mono a_Z_degree a_Z_generator a_Z_hand a_Z_has a_Z_row a_Z_work a_Z_basis a_Z_rest a_Z_known a_Z_lead a_Z_tail a_Z_word a_Z_vector a_Z_system A Z_thrownCode Z_p Z_n Z_order Z_monomials Z_generators Z_upTo Z_members Z_lefts Z_vars Z_leadsFound Z_words Z_product Z_now_r Z_next_r 31 [(0, .ref a_Z), (1, .int i1), (2, .int i2)] [] Z_now Z_next) (k41 : Int32 → Int32 → Int32 → (Nat → Int32) → (Nat → Int32) → Option ((Nat → Int32) × (Nat → Int32))) (hk41 : ∀ (i1 i2 i3 : Int32) (Z_now Z_next : Nat → Int32), k41 i1 i2 i3 Z_now Z_next = some (Z_now_r, Z_next_r) → g_zcomesTo X D cI cL cZ a_Z a_Z_product a_Z_now a_Z_next a_Z_mono a_Z_degree a_Z_generator a_Z_hand a_Z_has a_Z_row a_Z_work a_Z_basis a_Z_rest a_Z_known a_Z_lead a_Z_tail a_Z_word a_Z_vector a_Z_system A Z_thrownCode Z_p Z_n Z_order Z_monomials Z_generators Z_upTo Z_members Z_lefts Z_vars Z_leadsFound Z_words Z_product Z_now_r Z_next_r 41 [(0, .ref a_Z), (1, .int i1), (2, .int i2), (3, .int i3)] [] Z_now Z_next) (k53 : Int32 → Int32 → Int32 → Int32 → (Nat → Int32) → (Nat → Int32) → Option ((Nat → Int32) × (Nat → Int32))) (hk53 : ∀ (i1 i2 i3 i4 : Int32) (Z_now Z_next : Nat → Int32), k53 i1 i2 i3 i4 Z_now Z_next = some (Z_now_r, Z_next_r) → g_zcomesTo X D cI cL cZ a_Z a_Z_product a_Z_now a_Z_next a_Z_mono a_Z_degree a_Z_generator a_Z_hand a_Z_has a_Z_row a_Z_work a_Z_basis a_Z_rest a_Z_known a_Z_lead a_Z_tail a_Z_word a_Z_vector a_Z_system A Z_thrownCode Z_p Z_n Z_order Z_monomials Z_generators Z_upTo Z_members Z_lefts Z_vars Z_leadsFound Z_words Z_product Z_now_r Z_next_r 53 [(0, .ref a_Z), (1, .int i1), (2, .int i2), (3, .int i3), (4, .int i4)] [] Z_now Z_next) : ∀ (n : Nat) (i1 i2 i3 i4 : Int32) (l5 : Int64) (i7 : Int32) (Z_now Z_next : Nat → Int32), b_zcomesTo_68 F Z_lefts Z_n Z_p Z_product k31 k41 k53 n i1 i2 i3 i4 l5 i7 Z_now Z_next = some (Z_now_r, Z_next_r) → g_zcomesTo X D cI cL cZ a_Z a_Z_product a_Z_now a_Z_next a_Z_mono a_Z_degree a_Z_generator a_Z_hand a_Z_has a_Z_row a_Z_work a_Z_basis a_Z_rest a_Z_known a_Z_lead a_Z_tail a_Z_word a_Z_vector a_Z_system A Z_thrownCode Z_p Z_n Z_order Z_monomials Z_generators Z_upTo Z_members Z_lefts Z_vars Z_leadsFound Z_words Z_product Z_now_r Z_next_r 68 [(0, .ref a_Z), (1, .int i1), (2, .int i2), (3, .int i3), (4, .int i4), (5, .long l5), (7, .int i7)] [] Z_now Z_next := by
  intro n
  induction n with
  | zero => intro i1 i2 i3 i4 l5 i7 Z_now Z_next hrun; cases hrun
  | succ n ih =>
    intro i1 i2 i3 i4 l5 i7 Z_now Z_next hrun
    exact w_zcomesTo_68 X D cI cL cZ a_Z a_Z_product a_Z_now a_Z_next a_Z_mono a_Z_degree a_Z_generator a_Z_hand a_Z_has a_Z_row a_Z_work a_Z_basis a_Z_rest a_Z_known a_Z_lead a_Z_tail a_Z_word a_Z_vector a_Z_system A Z_thrownCode Z_p Z_n Z_order Z_monomials Z_generators Z_upTo Z_members Z_lefts Z_vars Z_leadsFound Z_words Z_product Z_now_r Z_next_r F C0 hK hA hN k31 hk31 k41 hk41 k53 hk53 (b_zcomesTo_68 F Z_lefts Z_n Z_p Z_product k31 k41 k53 n) ih i1 i2 i3 i4 l5 i7 Z_now Z_next hrun
set_option maxHeartbeats 4000000 in
set_option maxRecDepth 100000 in
theorem w_zcomesTo_53 (X : gX) (D : va_G) (cI cL cZ : ClassId) (a_Z a_Z_product a_Z_now a_Z_next a_Z_mono a_Z_degree a_Z_generator a_Z_hand a_Z_has a_Z_row a_Z_work a_Z_basis a_Z_rest a_Z_known a_Z_lead a_Z_tail a_Z_word a_Z_vector a_Z_system : Nat) (A : Nat → Prop) (Z_thrownCode Z_p Z_n Z_order Z_monomials Z_generators Z_upTo Z_members Z_lefts Z_vars Z_leadsFound Z_words : Int32) (Z_product Z_now_r Z_next_r : Nat → Int32) (F : Nat) (C0 : gC X c_Z_comesTob none 8 "RemnantDictionaryModel" gAll) (hK : va_K D classes (gT cI cL cZ) (gs X)) (hA : ∀ q : Nat, (gs X).heap.size ≤ q → A q) (hN : gN (gs X)) (k31 : Int32 → Int32 → (Nat → Int32) → (Nat → Int32) → Option ((Nat → Int32) × (Nat → Int32))) (hk31 : ∀ (i1 i2 : Int32) (Z_now Z_next : Nat → Int32), k31 i1 i2 Z_now Z_next = some (Z_now_r, Z_next_r) → g_zcomesTo X D cI cL cZ a_Z a_Z_product a_Z_now a_Z_next a_Z_mono a_Z_degree a_Z_generator a_Z_hand a_Z_has a_Z_row a_Z_work a_Z_basis a_Z_rest a_Z_known a_Z_lead a_Z_tail a_Z_word a_Z_vector a_Z_system A Z_thrownCode Z_p Z_n Z_order Z_monomials Z_generators Z_upTo Z_members Z_lefts Z_vars Z_leadsFound Z_words Z_product Z_now_r Z_next_r 31 [(0, .ref a_Z), (1, .int i1), (2, .int i2)] [] Z_now Z_next) (k41 : Int32 → Int32 → Int32 → (Nat → Int32) → (Nat → Int32) → Option ((Nat → Int32) × (Nat → Int32))) (hk41 : ∀ (i1 i2 i3 : Int32) (Z_now Z_next : Nat → Int32), k41 i1 i2 i3 Z_now Z_next = some (Z_now_r, Z_next_r) → g_zcomesTo X D cI cL cZ a_Z a_Z_product a_Z_now a_Z_next a_Z_mono a_Z_degree a_Z_generator a_Z_hand a_Z_has a_Z_row a_Z_work a_Z_basis a_Z_rest a_Z_known a_Z_lead a_Z_tail a_Z_word a_Z_vector a_Z_system A Z_thrownCode Z_p Z_n Z_order Z_monomials Z_generators Z_upTo Z_members Z_lefts Z_vars Z_leadsFound Z_words Z_product Z_now_r Z_next_r 41 [(0, .ref a_Z), (1, .int i1), (2, .int i2), (3, .int i3)] [] Z_now Z_next) (k53 : Int32 → Int32 → Int32 → Int32 → (Nat → Int32) → (Nat → Int32) → Option ((Nat → Int32) × (Nat → Int32))) (hk53 : ∀ (i1 i2 i3 i4 : Int32) (Z_now Z_next : Nat → Int32), k53 i1 i2 i3 i4 Z_now Z_next = some (Z_now_r, Z_next_r) → g_zcomesTo X D cI cL cZ a_Z a_Z_product a_Z_now a_Z_next a_Z_mono a_Z_degree a_Z_generator a_Z_hand a_Z_has a_Z_row a_Z_work a_Z_basis a_Z_rest a_Z_known a_Z_lead a_Z_tail a_Z_word a_Z_vector a_Z_system A Z_thrownCode Z_p Z_n Z_order Z_monomials Z_generators Z_upTo Z_members Z_lefts Z_vars Z_leadsFound Z_words Z_product Z_now_r Z_next_r 53 [(0, .ref a_Z), (1, .int i1), (2, .int i2), (3, .int i3), (4, .int i4)] [] Z_now Z_next) (i1 i2 i3 i4 : Int32) (Z_now Z_next : Nat → Int32) (hrun : s_zcomesTo_53 F Z_lefts Z_n Z_p Z_product k31 k41 k53 i1 i2 i3 i4 Z_now Z_next = some (Z_now_r, Z_next_r)) : g_zcomesTo X D cI cL cZ a_Z a_Z_product a_Z_now a_Z_next a_Z_mono a_Z_degree a_Z_generator a_Z_hand a_Z_has a_Z_row a_Z_work a_Z_basis a_Z_rest a_Z_known a_Z_lead a_Z_tail a_Z_word a_Z_vector a_Z_system A Z_thrownCode Z_p Z_n Z_order Z_monomials Z_generators Z_upTo Z_members Z_lefts Z_vars Z_leadsFound Z_words Z_product Z_now_r Z_next_r 53 [(0, .ref a_Z), (1, .int i1), (2, .int i2), (3, .int i3), (4, .int i4)] [] Z_now Z_next := by
  have C1 := C0
  obtain ⟨hx, hb, hr, hml, hown, hts, hlocks⟩ := C1
  unfold s_zcomesTo_53 at hrun
  intro H locs ls hP hD hS hl
  refine lv_iload hx hb d_Z_comesTo_53 (lv_at hl 4 rfl) ?_
  refine lv_aload_n hx hb d_Z_comesTo_55 rfl (lv_at hl 0 rfl) ?_
  refine va_get (D := D) (ci := 5) (v := .int Z_lefts) (C := "RemnantDictionaryModel") (T := T_Z) (N := 30) hx hb hts iw_Z hown hK hP 0 rfl rfl 16 (by decide) (hts _ k_445) (fun _ h9 => h9) rfl d_Z_comesTo_56 ?_
  refine g_icmp_ge (tgt := 139) hx hb d_Z_comesTo_59 (by decide) hrun (fun _ hrun => ?_) (fun _ hrun => ?_)
  · refine lv_iconst (v := 0) hx hb d_Z_comesTo_139 (by decide) ?_
    refine lv_istore (lv' := [(4, .int 0), (0, .ref a_Z), (1, .int i1), (2, .int i2), (3, .int i3)]) hx hb d_Z_comesTo_140 hl (by decide) rfl (fun ls hl => ?_)
    exact v_zcomesTo_142 X D cI cL cZ a_Z a_Z_product a_Z_now a_Z_next a_Z_mono a_Z_degree a_Z_generator a_Z_hand a_Z_has a_Z_row a_Z_work a_Z_basis a_Z_rest a_Z_known a_Z_lead a_Z_tail a_Z_word a_Z_vector a_Z_system A Z_thrownCode Z_p Z_n Z_order Z_monomials Z_generators Z_upTo Z_members Z_lefts Z_vars Z_leadsFound Z_words Z_product Z_now_r Z_next_r F C0 hK hA hN k31 hk31 k41 hk41 F i1 i2 i3 0 Z_now Z_next hrun H locs ls hP hD hS (lv_sub hl [1, 2, 3, 4, 0] rfl)
  · refine lv_lconst (v := 0) hx hb d_Z_comesTo_62 (by decide) ?_
    refine lv_lstore (lv' := [(5, .long 0), (0, .ref a_Z), (1, .int i1), (2, .int i2), (3, .int i3), (4, .int i4)]) hx hb d_Z_comesTo_63 hl (by decide) rfl (fun ls hl => ?_)
    refine lv_iconst (v := 0) hx hb d_Z_comesTo_65 (by decide) ?_
    refine lv_istore (lv' := [(7, .int 0), (5, .long 0), (0, .ref a_Z), (1, .int i1), (2, .int i2), (3, .int i3), (4, .int i4)]) hx hb d_Z_comesTo_66 hl (by decide) rfl (fun ls hl => ?_)
    exact v_zcomesTo_68 X D cI cL cZ a_Z a_Z_product a_Z_now a_Z_next a_Z_mono a_Z_degree a_Z_generator a_Z_hand a_Z_has a_Z_row a_Z_work a_Z_basis a_Z_rest a_Z_known a_Z_lead a_Z_tail a_Z_word a_Z_vector a_Z_system A Z_thrownCode Z_p Z_n Z_order Z_monomials Z_generators Z_upTo Z_members Z_lefts Z_vars Z_leadsFound Z_words Z_product Z_now_r Z_next_r F C0 hK hA hN k31 hk31 k41 hk41 k53 hk53 F i1 i2 i3 i4 0 0 Z_now Z_next hrun H locs ls hP hD hS (lv_sub hl [2, 3, 4, 5, 6, 1, 0] rfl)
theorem v_zcomesTo_53 (X : gX) (D : va_G) (cI cL cZ : ClassId) (a_Z a_Z_product a_Z_now a_Z_next a_Z_mono a_Z_degree a_Z_generator a_Z_hand a_Z_has a_Z_row a_Z_work a_Z_basis a_Z_rest a_Z_known a_Z_lead a_Z_tail a_Z_word a_Z_vector a_Z_system : Nat) (A : Nat → Prop) (Z_thrownCode Z_p Z_n Z_order Z_monomials Z_generators Z_upTo Z_members Z_lefts Z_vars Z_leadsFound Z_words : Int32) (Z_product Z_now_r Z_next_r : Nat → Int32) (F : Nat) (C0 : gC X c_Z_comesTob none 8 "RemnantDictionaryModel" gAll) (hK : va_K D classes (gT cI cL cZ) (gs X)) (hA : ∀ q : Nat, (gs X).heap.size ≤ q → A q) (hN : gN (gs X)) (k31 : Int32 → Int32 → (Nat → Int32) → (Nat → Int32) → Option ((Nat → Int32) × (Nat → Int32))) (hk31 : ∀ (i1 i2 : Int32) (Z_now Z_next : Nat → Int32), k31 i1 i2 Z_now Z_next = some (Z_now_r, Z_next_r) → g_zcomesTo X D cI cL cZ a_Z a_Z_product a_Z_now a_Z_next a_Z_mono a_Z_degree a_Z_generator a_Z_hand a_Z_has a_Z_row a_Z_work a_Z_basis a_Z_rest a_Z_known a_Z_lead a_Z_tail a_Z_word a_Z_vector a_Z_system A Z_thrownCode Z_p Z_n Z_order Z_monomials Z_generators Z_upTo Z_members Z_lefts Z_vars Z_leadsFound Z_words Z_product Z_now_r Z_next_r 31 [(0, .ref a_Z), (1, .int i1), (2, .int i2)] [] Z_now Z_next) (k41 : Int32 → Int32 → Int32 → (Nat → Int32) → (Nat → Int32) → Option ((Nat → Int32) × (Nat → Int32))) (hk41 : ∀ (i1 i2 i3 : Int32) (Z_now Z_next : Nat → Int32), k41 i1 i2 i3 Z_now Z_next = some (Z_now_r, Z_next_r) → g_zcomesTo X D cI cL cZ a_Z a_Z_product a_Z_now a_Z_next a_Z_mono a_Z_degree a_Z_generator a_Z_hand a_Z_has a_Z_row a_Z_work a_Z_basis a_Z_rest a_Z_known a_Z_lead a_Z_tail a_Z_word a_Z_vector a_Z_system A Z_thrownCode Z_p Z_n Z_order Z_monomials Z_generators Z_upTo Z_members Z_lefts Z_vars Z_leadsFound Z_words Z_product Z_now_r Z_next_r 41 [(0, .ref a_Z), (1, .int i1), (2, .int i2), (3, .int i3)] [] Z_now Z_next) : ∀ (n : Nat) (i1 i2 i3 i4 : Int32) (Z_now Z_next : Nat → Int32), b_zcomesTo_53 F Z_lefts Z_n Z_p Z_product k31 k41 n i1 i2 i3 i4 Z_now Z_next = some (Z_now_r, Z_next_r) → g_zcomesTo X D cI cL cZ a_Z a_Z_product a_Z_now a_Z_next a_Z_mono a_Z_degree a_Z_generator a_Z_hand a_Z_has a_Z_row a_Z_work a_Z_basis a_Z_rest a_Z_known a_Z_lead a_Z_tail a_Z_word a_Z_vector a_Z_system A Z_thrownCode Z_p Z_n Z_order Z_monomials Z_generators Z_upTo Z_members Z_lefts Z_vars Z_leadsFound Z_words Z_product Z_now_r Z_next_r 53 [(0, .ref a_Z), (1, .int i1), (2, .int i2), (3, .int i3), (4, .int i4)] [] Z_now Z_next := by
  intro n
  induction n with
  | zero => intro i1 i2 i3 i4 Z_now Z_next hrun; cases hrun
  | succ n ih =>
    intro i1 i2 i3 i4 Z_now Z_next hrun
    exact w_zcomesTo_53 X D cI cL cZ a_Z a_Z_product a_Z_now a_Z_next a_Z_mono a_Z_degree a_Z_generator a_Z_hand a_Z_has a_Z_row a_Z_work a_Z_basis a_Z_rest a_Z_known a_Z_lead a_Z_tail a_Z_word a_Z_vector a_Z_system A Z_thrownCode Z_p Z_n Z_order Z_monomials Z_generators Z_upTo Z_members Z_lefts Z_vars Z_leadsFound Z_words Z_product Z_now_r Z_next_r F C0 hK hA hN k31 hk31 k41 hk41 (b_zcomesTo_53 F Z_lefts Z_n Z_p Z_product k31 k41 n) ih i1 i2 i3 i4 Z_now Z_next hrun
set_option maxHeartbeats 4000000 in
set_option maxRecDepth 100000 in
theorem w_zcomesTo_41 (X : gX) (D : va_G) (cI cL cZ : ClassId) (a_Z a_Z_product a_Z_now a_Z_next a_Z_mono a_Z_degree a_Z_generator a_Z_hand a_Z_has a_Z_row a_Z_work a_Z_basis a_Z_rest a_Z_known a_Z_lead a_Z_tail a_Z_word a_Z_vector a_Z_system : Nat) (A : Nat → Prop) (Z_thrownCode Z_p Z_n Z_order Z_monomials Z_generators Z_upTo Z_members Z_lefts Z_vars Z_leadsFound Z_words : Int32) (Z_product Z_now_r Z_next_r : Nat → Int32) (F : Nat) (C0 : gC X c_Z_comesTob none 8 "RemnantDictionaryModel" gAll) (hK : va_K D classes (gT cI cL cZ) (gs X)) (hA : ∀ q : Nat, (gs X).heap.size ≤ q → A q) (hN : gN (gs X)) (k31 : Int32 → Int32 → (Nat → Int32) → (Nat → Int32) → Option ((Nat → Int32) × (Nat → Int32))) (hk31 : ∀ (i1 i2 : Int32) (Z_now Z_next : Nat → Int32), k31 i1 i2 Z_now Z_next = some (Z_now_r, Z_next_r) → g_zcomesTo X D cI cL cZ a_Z a_Z_product a_Z_now a_Z_next a_Z_mono a_Z_degree a_Z_generator a_Z_hand a_Z_has a_Z_row a_Z_work a_Z_basis a_Z_rest a_Z_known a_Z_lead a_Z_tail a_Z_word a_Z_vector a_Z_system A Z_thrownCode Z_p Z_n Z_order Z_monomials Z_generators Z_upTo Z_members Z_lefts Z_vars Z_leadsFound Z_words Z_product Z_now_r Z_next_r 31 [(0, .ref a_Z), (1, .int i1), (2, .int i2)] [] Z_now Z_next) (k41 : Int32 → Int32 → Int32 → (Nat → Int32) → (Nat → Int32) → Option ((Nat → Int32) × (Nat → Int32))) (hk41 : ∀ (i1 i2 i3 : Int32) (Z_now Z_next : Nat → Int32), k41 i1 i2 i3 Z_now Z_next = some (Z_now_r, Z_next_r) → g_zcomesTo X D cI cL cZ a_Z a_Z_product a_Z_now a_Z_next a_Z_mono a_Z_degree a_Z_generator a_Z_hand a_Z_has a_Z_row a_Z_work a_Z_basis a_Z_rest a_Z_known a_Z_lead a_Z_tail a_Z_word a_Z_vector a_Z_system A Z_thrownCode Z_p Z_n Z_order Z_monomials Z_generators Z_upTo Z_members Z_lefts Z_vars Z_leadsFound Z_words Z_product Z_now_r Z_next_r 41 [(0, .ref a_Z), (1, .int i1), (2, .int i2), (3, .int i3)] [] Z_now Z_next) (i1 i2 i3 : Int32) (Z_now Z_next : Nat → Int32) (hrun : s_zcomesTo_41 F Z_lefts Z_n Z_p Z_product k31 k41 i1 i2 i3 Z_now Z_next = some (Z_now_r, Z_next_r)) : g_zcomesTo X D cI cL cZ a_Z a_Z_product a_Z_now a_Z_next a_Z_mono a_Z_degree a_Z_generator a_Z_hand a_Z_has a_Z_row a_Z_work a_Z_basis a_Z_rest a_Z_known a_Z_lead a_Z_tail a_Z_word a_Z_vector a_Z_system A Z_thrownCode Z_p Z_n Z_order Z_monomials Z_generators Z_upTo Z_members Z_lefts Z_vars Z_leadsFound Z_words Z_product Z_now_r Z_next_r 41 [(0, .ref a_Z), (1, .int i1), (2, .int i2), (3, .int i3)] [] Z_now Z_next := by
  have C1 := C0
  obtain ⟨hx, hb, hr, hml, hown, hts, hlocks⟩ := C1
  unfold s_zcomesTo_41 at hrun
  intro H locs ls hP hD hS hl
  refine lv_iload_n hx hb d_Z_comesTo_41 rfl (lv_at hl 3 rfl) ?_
  refine lv_iload_n hx hb d_Z_comesTo_42 rfl (lv_at hl 1 rfl) ?_
  refine lv_iload_n hx hb d_Z_comesTo_43 rfl (lv_at hl 2 rfl) ?_
  obtain ⟨r_1, hc, hrun⟩ := bd1_s hrun
  refine vp_callSi (W.runS (As := [.int i1, .int i2]) (rest := [.int i3]) ⟨hx, hb, hml, hown, hts⟩ (c_zexponent (gl X) F i1 i2 r_1 hc) (va_cwS 2 hts (gwS k_334 k_332 k_333 k_331) rfl rfl rfl (by decide +kernel) ⟨Nat.le_of_ble_eq_true rfl, Nat.le_of_ble_eq_true rfl⟩) (gpreS0 hN) rfl rfl hl.1 rfl (lv_room (Nat.le_of_ble_eq_true rfl)) d_Z_comesTo_44 ⟨Nat.le_of_ble_eq_true rfl, Nat.le_of_ble_eq_true rfl⟩) (nm_e ?_)
  refine g_icmp_ge (tgt := 177) hx hb d_Z_comesTo_47 (by decide) hrun (fun _ hrun => ?_) (fun _ hrun => ?_)
  · refine lv_iinc (v := (i2 + 1)) (lv' := [(2, .int (i2 + 1)), (0, .ref a_Z), (1, .int i1), (3, .int i3)]) hx hb d_Z_comesTo_177 hl (k := 2) rfl rfl (by decide) rfl (fun ls hl => ?_)
    refine lv_goto (tgt := 31) hx hb d_Z_comesTo_180 (by decide) ?_
    exact hk31 i1 (i2 + 1) Z_now Z_next hrun H locs ls hP hD hS (lv_sub hl [1, 2, 0] rfl)
  · refine lv_iconst (v := 0) hx hb d_Z_comesTo_50 (by decide) ?_
    refine lv_istore (lv' := [(4, .int 0), (0, .ref a_Z), (1, .int i1), (2, .int i2), (3, .int i3)]) hx hb d_Z_comesTo_51 hl (by decide) rfl (fun ls hl => ?_)
    exact v_zcomesTo_53 X D cI cL cZ a_Z a_Z_product a_Z_now a_Z_next a_Z_mono a_Z_degree a_Z_generator a_Z_hand a_Z_has a_Z_row a_Z_work a_Z_basis a_Z_rest a_Z_known a_Z_lead a_Z_tail a_Z_word a_Z_vector a_Z_system A Z_thrownCode Z_p Z_n Z_order Z_monomials Z_generators Z_upTo Z_members Z_lefts Z_vars Z_leadsFound Z_words Z_product Z_now_r Z_next_r F C0 hK hA hN k31 hk31 k41 hk41 F i1 i2 i3 0 Z_now Z_next hrun H locs ls hP hD hS (lv_sub hl [1, 2, 3, 4, 0] rfl)
theorem v_zcomesTo_41 (X : gX) (D : va_G) (cI cL cZ : ClassId) (a_Z a_Z_product a_Z_now a_Z_next a_Z_mono a_Z_degree a_Z_generator a_Z_hand a_Z_has a_Z_row a_Z_work a_Z_basis a_Z_rest a_Z_known a_Z_lead a_Z_tail a_Z_word a_Z_vector a_Z_system : Nat) (A : Nat → Prop) (Z_thrownCode Z_p Z_n Z_order Z_monomials Z_generators Z_upTo Z_members Z_lefts Z_vars Z_leadsFound Z_words : Int32) (Z_product Z_now_r Z_next_r : Nat → Int32) (F : Nat) (C0 : gC X c_Z_comesTob none 8 "RemnantDictionaryModel" gAll) (hK : va_K D classes (gT cI cL cZ) (gs X)) (hA : ∀ q : Nat, (gs X).heap.size ≤ q → A q) (hN : gN (gs X)) (k31 : Int32 → Int32 → (Nat → Int32) → (Nat → Int32) → Option ((Nat → Int32) × (Nat → Int32))) (hk31 : ∀ (i1 i2 : Int32) (Z_now Z_next : Nat → Int32), k31 i1 i2 Z_now Z_next = some (Z_now_r, Z_next_r) → g_zcomesTo X D cI cL cZ a_Z a_Z_product a_Z_now a_Z_next a_Z_mono a_Z_degree a_Z_generator a_Z_hand a_Z_has a_Z_row a_Z_work a_Z_basis a_Z_rest a_Z_known a_Z_lead a_Z_tail a_Z_word a_Z_vector a_Z_system A Z_thrownCode Z_p Z_n Z_order Z_monomials Z_generators Z_upTo Z_members Z_lefts Z_vars Z_leadsFound Z_words Z_product Z_now_r Z_next_r 31 [(0, .ref a_Z), (1, .int i1), (2, .int i2)] [] Z_now Z_next) : ∀ (n : Nat) (i1 i2 i3 : Int32) (Z_now Z_next : Nat → Int32), b_zcomesTo_41 F Z_lefts Z_n Z_p Z_product k31 n i1 i2 i3 Z_now Z_next = some (Z_now_r, Z_next_r) → g_zcomesTo X D cI cL cZ a_Z a_Z_product a_Z_now a_Z_next a_Z_mono a_Z_degree a_Z_generator a_Z_hand a_Z_has a_Z_row a_Z_work a_Z_basis a_Z_rest a_Z_known a_Z_lead a_Z_tail a_Z_word a_Z_vector a_Z_system A Z_thrownCode Z_p Z_n Z_order Z_monomials Z_generators Z_upTo Z_members Z_lefts Z_vars Z_leadsFound Z_words Z_product Z_now_r Z_next_r 41 [(0, .ref a_Z), (1, .int i1), (2, .int i2), (3, .int i3)] [] Z_now Z_next := by
  intro n
  induction n with
  | zero => intro i1 i2 i3 Z_now Z_next hrun; cases hrun
  | succ n ih =>
    intro i1 i2 i3 Z_now Z_next hrun
    exact w_zcomesTo_41 X D cI cL cZ a_Z a_Z_product a_Z_now a_Z_next a_Z_mono a_Z_degree a_Z_generator a_Z_hand a_Z_has a_Z_row a_Z_work a_Z_basis a_Z_rest a_Z_known a_Z_lead a_Z_tail a_Z_word a_Z_vector a_Z_system A Z_thrownCode Z_p Z_n Z_order Z_monomials Z_generators Z_upTo Z_members Z_lefts Z_vars Z_leadsFound Z_words Z_product Z_now_r Z_next_r F C0 hK hA hN k31 hk31 (b_zcomesTo_41 F Z_lefts Z_n Z_p Z_product k31 n) ih i1 i2 i3 Z_now Z_next hrun
set_option maxHeartbeats 4000000 in
set_option maxRecDepth 100000 in
theorem w_zcomesTo_31 (X : gX) (D : va_G) (cI cL cZ : ClassId) (a_Z a_Z_product a_Z_now a_Z_next a_Z_mono a_Z_degree a_Z_generator a_Z_hand a_Z_has a_Z_row a_Z_work a_Z_basis a_Z_rest a_Z_known a_Z_lead a_Z_tail a_Z_word a_Z_vector a_Z_system : Nat) (A : Nat → Prop) (Z_thrownCode Z_p Z_n Z_order Z_monomials Z_generators Z_upTo Z_members Z_lefts Z_vars Z_leadsFound Z_words : Int32) (Z_product Z_now_r Z_next_r : Nat → Int32) (F : Nat) (C0 : gC X c_Z_comesTob none 8 "RemnantDictionaryModel" gAll) (hK : va_K D classes (gT cI cL cZ) (gs X)) (hA : ∀ q : Nat, (gs X).heap.size ≤ q → A q) (hN : gN (gs X)) (k31 : Int32 → Int32 → (Nat → Int32) → (Nat → Int32) → Option ((Nat → Int32) × (Nat → Int32))) (hk31 : ∀ (i1 i2 : Int32) (Z_now Z_next : Nat → Int32), k31 i1 i2 Z_now Z_next = some (Z_now_r, Z_next_r) → g_zcomesTo X D cI cL cZ a_Z a_Z_product a_Z_now a_Z_next a_Z_mono a_Z_degree a_Z_generator a_Z_hand a_Z_has a_Z_row a_Z_work a_Z_basis a_Z_rest a_Z_known a_Z_lead a_Z_tail a_Z_word a_Z_vector a_Z_system A Z_thrownCode Z_p Z_n Z_order Z_monomials Z_generators Z_upTo Z_members Z_lefts Z_vars Z_leadsFound Z_words Z_product Z_now_r Z_next_r 31 [(0, .ref a_Z), (1, .int i1), (2, .int i2)] [] Z_now Z_next) (i1 i2 : Int32) (Z_now Z_next : Nat → Int32) (hrun : s_zcomesTo_31 F Z_lefts Z_n Z_p Z_product k31 i1 i2 Z_now Z_next = some (Z_now_r, Z_next_r)) : g_zcomesTo X D cI cL cZ a_Z a_Z_product a_Z_now a_Z_next a_Z_mono a_Z_degree a_Z_generator a_Z_hand a_Z_has a_Z_row a_Z_work a_Z_basis a_Z_rest a_Z_known a_Z_lead a_Z_tail a_Z_word a_Z_vector a_Z_system A Z_thrownCode Z_p Z_n Z_order Z_monomials Z_generators Z_upTo Z_members Z_lefts Z_vars Z_leadsFound Z_words Z_product Z_now_r Z_next_r 31 [(0, .ref a_Z), (1, .int i1), (2, .int i2)] [] Z_now Z_next := by
  have C1 := C0
  obtain ⟨hx, hb, hr, hml, hown, hts, hlocks⟩ := C1
  unfold s_zcomesTo_31 at hrun
  intro H locs ls hP hD hS hl
  refine lv_iload_n hx hb d_Z_comesTo_31 rfl (lv_at hl 2 rfl) ?_
  refine lv_aload_n hx hb d_Z_comesTo_32 rfl (lv_at hl 0 rfl) ?_
  refine va_get (D := D) (ci := 5) (v := .int Z_n) (C := "RemnantDictionaryModel") (T := T_Z) (N := 30) hx hb hts iw_Z hown hK hP 0 rfl rfl 2 (by decide) (hts _ k_384) (fun _ h9 => h9) rfl d_Z_comesTo_33 ?_
  refine g_icmp_ge (tgt := 183) hx hb d_Z_comesTo_36 (by decide) hrun (fun _ hrun => ?_) (fun _ hrun => ?_)
  · cases hrun
    exact W.vret hx hb hr (fun t ht hW => ⟨⟨(), rfl, trivial, gB_of ht hW.alike hP hK hD⟩, hS.F ht⟩) hS.2.2 d_Z_comesTo_183
  · refine lv_iconst (v := 0) hx hb d_Z_comesTo_39 (by decide) ?_
    refine lv_istore_n (lv' := [(3, .int 0), (0, .ref a_Z), (1, .int i1), (2, .int i2)]) hx hb d_Z_comesTo_40 rfl hl (by decide) rfl (fun ls hl => ?_)
    exact v_zcomesTo_41 X D cI cL cZ a_Z a_Z_product a_Z_now a_Z_next a_Z_mono a_Z_degree a_Z_generator a_Z_hand a_Z_has a_Z_row a_Z_work a_Z_basis a_Z_rest a_Z_known a_Z_lead a_Z_tail a_Z_word a_Z_vector a_Z_system A Z_thrownCode Z_p Z_n Z_order Z_monomials Z_generators Z_upTo Z_members Z_lefts Z_vars Z_leadsFound Z_words Z_product Z_now_r Z_next_r F C0 hK hA hN k31 hk31 F i1 i2 0 Z_now Z_next hrun H locs ls hP hD hS (lv_sub hl [1, 2, 3, 0] rfl)
theorem v_zcomesTo_31 (X : gX) (D : va_G) (cI cL cZ : ClassId) (a_Z a_Z_product a_Z_now a_Z_next a_Z_mono a_Z_degree a_Z_generator a_Z_hand a_Z_has a_Z_row a_Z_work a_Z_basis a_Z_rest a_Z_known a_Z_lead a_Z_tail a_Z_word a_Z_vector a_Z_system : Nat) (A : Nat → Prop) (Z_thrownCode Z_p Z_n Z_order Z_monomials Z_generators Z_upTo Z_members Z_lefts Z_vars Z_leadsFound Z_words : Int32) (Z_product Z_now_r Z_next_r : Nat → Int32) (F : Nat) (C0 : gC X c_Z_comesTob none 8 "RemnantDictionaryModel" gAll) (hK : va_K D classes (gT cI cL cZ) (gs X)) (hA : ∀ q : Nat, (gs X).heap.size ≤ q → A q) (hN : gN (gs X))  : ∀ (n : Nat) (i1 i2 : Int32) (Z_now Z_next : Nat → Int32), b_zcomesTo_31 F Z_lefts Z_n Z_p Z_product n i1 i2 Z_now Z_next = some (Z_now_r, Z_next_r) → g_zcomesTo X D cI cL cZ a_Z a_Z_product a_Z_now a_Z_next a_Z_mono a_Z_degree a_Z_generator a_Z_hand a_Z_has a_Z_row a_Z_work a_Z_basis a_Z_rest a_Z_known a_Z_lead a_Z_tail a_Z_word a_Z_vector a_Z_system A Z_thrownCode Z_p Z_n Z_order Z_monomials Z_generators Z_upTo Z_members Z_lefts Z_vars Z_leadsFound Z_words Z_product Z_now_r Z_next_r 31 [(0, .ref a_Z), (1, .int i1), (2, .int i2)] [] Z_now Z_next := by
  intro n
  induction n with
  | zero => intro i1 i2 Z_now Z_next hrun; cases hrun
  | succ n ih =>
    intro i1 i2 Z_now Z_next hrun
    exact w_zcomesTo_31 X D cI cL cZ a_Z a_Z_product a_Z_now a_Z_next a_Z_mono a_Z_degree a_Z_generator a_Z_hand a_Z_has a_Z_row a_Z_work a_Z_basis a_Z_rest a_Z_known a_Z_lead a_Z_tail a_Z_word a_Z_vector a_Z_system A Z_thrownCode Z_p Z_n Z_order Z_monomials Z_generators Z_upTo Z_members Z_lefts Z_vars Z_leadsFound Z_words Z_product Z_now_r Z_next_r F C0 hK hA hN (b_zcomesTo_31 F Z_lefts Z_n Z_p Z_product n) ih i1 i2 Z_now Z_next hrun
set_option maxHeartbeats 4000000 in
set_option maxRecDepth 100000 in
theorem w_zcomesTo_22 (X : gX) (D : va_G) (cI cL cZ : ClassId) (a_Z a_Z_product a_Z_now a_Z_next a_Z_mono a_Z_degree a_Z_generator a_Z_hand a_Z_has a_Z_row a_Z_work a_Z_basis a_Z_rest a_Z_known a_Z_lead a_Z_tail a_Z_word a_Z_vector a_Z_system : Nat) (A : Nat → Prop) (Z_thrownCode Z_p Z_n Z_order Z_monomials Z_generators Z_upTo Z_members Z_lefts Z_vars Z_leadsFound Z_words : Int32) (Z_product Z_now_r Z_next_r : Nat → Int32) (F : Nat) (C0 : gC X c_Z_comesTob none 8 "RemnantDictionaryModel" gAll) (hK : va_K D classes (gT cI cL cZ) (gs X)) (hA : ∀ q : Nat, (gs X).heap.size ≤ q → A q) (hN : gN (gs X)) (k2 : Int32 → Int32 → (Nat → Int32) → (Nat → Int32) → Option ((Nat → Int32) × (Nat → Int32))) (hk2 : ∀ (i1 i2 : Int32) (Z_now Z_next : Nat → Int32), k2 i1 i2 Z_now Z_next = some (Z_now_r, Z_next_r) → g_zcomesTo X D cI cL cZ a_Z a_Z_product a_Z_now a_Z_next a_Z_mono a_Z_degree a_Z_generator a_Z_hand a_Z_has a_Z_row a_Z_work a_Z_basis a_Z_rest a_Z_known a_Z_lead a_Z_tail a_Z_word a_Z_vector a_Z_system A Z_thrownCode Z_p Z_n Z_order Z_monomials Z_generators Z_upTo Z_members Z_lefts Z_vars Z_leadsFound Z_words Z_product Z_now_r Z_next_r 2 [(0, .ref a_Z), (1, .int i1), (2, .int i2)] [] Z_now Z_next) (i1 i2 t1 t2 : Int32) (Z_now Z_next : Nat → Int32) (hrun : s_zcomesTo_22 F Z_lefts Z_n Z_p Z_product k2 i1 i2 t1 t2 Z_now Z_next = some (Z_now_r, Z_next_r)) : g_zcomesTo X D cI cL cZ a_Z a_Z_product a_Z_now a_Z_next a_Z_mono a_Z_degree a_Z_generator a_Z_hand a_Z_has a_Z_row a_Z_work a_Z_basis a_Z_rest a_Z_known a_Z_lead a_Z_tail a_Z_word a_Z_vector a_Z_system A Z_thrownCode Z_p Z_n Z_order Z_monomials Z_generators Z_upTo Z_members Z_lefts Z_vars Z_leadsFound Z_words Z_product Z_now_r Z_next_r 22 [(0, .ref a_Z), (1, .int i1), (2, .int i2)] [.int t2, .int t1, .ref a_Z_now] Z_now Z_next := by
  have C1 := C0
  obtain ⟨hx, hb, hr, hml, hown, hts, hlocks⟩ := C1
  unfold s_zcomesTo_22 at hrun
  intro H locs ls hP hD hS hl
  refine g_iast hx hb hK hP hD hS 2 0 rfl rfl hrun d_Z_comesTo_22 (fun Z_now_1 hrun H locs (hP : va_P D classes (ws_zcomesTo a_Z a_Z_product a_Z_now a_Z_next a_Z_mono a_Z_degree a_Z_generator a_Z_hand a_Z_has a_Z_row a_Z_work a_Z_basis a_Z_rest a_Z_known a_Z_lead a_Z_tail a_Z_word a_Z_vector a_Z_system cI cL cZ Z_thrownCode Z_p Z_n Z_order Z_monomials Z_generators Z_upTo Z_members Z_lefts Z_vars Z_leadsFound Z_words Z_product Z_now_1 Z_next) H) (hD : va_D A (ws_zcomesTo a_Z a_Z_product a_Z_now a_Z_next a_Z_mono a_Z_degree a_Z_generator a_Z_hand a_Z_has a_Z_row a_Z_work a_Z_basis a_Z_rest a_Z_known a_Z_lead a_Z_tail a_Z_word a_Z_vector a_Z_system cI cL cZ Z_thrownCode Z_p Z_n Z_order Z_monomials Z_generators Z_upTo Z_members Z_lefts Z_vars Z_leadsFound Z_words Z_product Z_now_1 Z_next)) hS => ?_)
  refine lv_iinc (v := (i2 + 1)) (lv' := [(2, .int (i2 + 1)), (0, .ref a_Z), (1, .int i1)]) hx hb d_Z_comesTo_23 hl (k := 2) rfl rfl (by decide) rfl (fun ls hl => ?_)
  refine lv_goto (tgt := 2) hx hb d_Z_comesTo_26 (by decide) ?_
  exact hk2 i1 (i2 + 1) Z_now_1 Z_next hrun H locs ls hP hD hS (lv_sub hl [1, 2, 0] rfl)
set_option maxHeartbeats 4000000 in
set_option maxRecDepth 100000 in
theorem w_zcomesTo_2 (X : gX) (D : va_G) (cI cL cZ : ClassId) (a_Z a_Z_product a_Z_now a_Z_next a_Z_mono a_Z_degree a_Z_generator a_Z_hand a_Z_has a_Z_row a_Z_work a_Z_basis a_Z_rest a_Z_known a_Z_lead a_Z_tail a_Z_word a_Z_vector a_Z_system : Nat) (A : Nat → Prop) (Z_thrownCode Z_p Z_n Z_order Z_monomials Z_generators Z_upTo Z_members Z_lefts Z_vars Z_leadsFound Z_words : Int32) (Z_product Z_now_r Z_next_r : Nat → Int32) (F : Nat) (C0 : gC X c_Z_comesTob none 8 "RemnantDictionaryModel" gAll) (hK : va_K D classes (gT cI cL cZ) (gs X)) (hA : ∀ q : Nat, (gs X).heap.size ≤ q → A q) (hN : gN (gs X)) (k2 : Int32 → Int32 → (Nat → Int32) → (Nat → Int32) → Option ((Nat → Int32) × (Nat → Int32))) (hk2 : ∀ (i1 i2 : Int32) (Z_now Z_next : Nat → Int32), k2 i1 i2 Z_now Z_next = some (Z_now_r, Z_next_r) → g_zcomesTo X D cI cL cZ a_Z a_Z_product a_Z_now a_Z_next a_Z_mono a_Z_degree a_Z_generator a_Z_hand a_Z_has a_Z_row a_Z_work a_Z_basis a_Z_rest a_Z_known a_Z_lead a_Z_tail a_Z_word a_Z_vector a_Z_system A Z_thrownCode Z_p Z_n Z_order Z_monomials Z_generators Z_upTo Z_members Z_lefts Z_vars Z_leadsFound Z_words Z_product Z_now_r Z_next_r 2 [(0, .ref a_Z), (1, .int i1), (2, .int i2)] [] Z_now Z_next) (i1 i2 : Int32) (Z_now Z_next : Nat → Int32) (hrun : s_zcomesTo_2 F Z_lefts Z_n Z_p Z_product k2 i1 i2 Z_now Z_next = some (Z_now_r, Z_next_r)) : g_zcomesTo X D cI cL cZ a_Z a_Z_product a_Z_now a_Z_next a_Z_mono a_Z_degree a_Z_generator a_Z_hand a_Z_has a_Z_row a_Z_work a_Z_basis a_Z_rest a_Z_known a_Z_lead a_Z_tail a_Z_word a_Z_vector a_Z_system A Z_thrownCode Z_p Z_n Z_order Z_monomials Z_generators Z_upTo Z_members Z_lefts Z_vars Z_leadsFound Z_words Z_product Z_now_r Z_next_r 2 [(0, .ref a_Z), (1, .int i1), (2, .int i2)] [] Z_now Z_next := by
  have C1 := C0
  obtain ⟨hx, hb, hr, hml, hown, hts, hlocks⟩ := C1
  unfold s_zcomesTo_2 at hrun
  intro H locs ls hP hD hS hl
  refine lv_iload_n hx hb d_Z_comesTo_2 rfl (lv_at hl 2 rfl) ?_
  refine lv_bipush (v := 40) hx hb d_Z_comesTo_3 (by decide) ?_
  refine g_icmp_ge (tgt := 29) hx hb d_Z_comesTo_5 (by decide) hrun (fun _ hrun => ?_) (fun _ hrun => ?_)
  · refine lv_iconst (v := 0) hx hb d_Z_comesTo_29 (by decide) ?_
    refine lv_istore_n (lv' := [(2, .int 0), (0, .ref a_Z), (1, .int i1)]) hx hb d_Z_comesTo_30 rfl hl (by decide) rfl (fun ls hl => ?_)
    exact v_zcomesTo_31 X D cI cL cZ a_Z a_Z_product a_Z_now a_Z_next a_Z_mono a_Z_degree a_Z_generator a_Z_hand a_Z_has a_Z_row a_Z_work a_Z_basis a_Z_rest a_Z_known a_Z_lead a_Z_tail a_Z_word a_Z_vector a_Z_system A Z_thrownCode Z_p Z_n Z_order Z_monomials Z_generators Z_upTo Z_members Z_lefts Z_vars Z_leadsFound Z_words Z_product Z_now_r Z_next_r F C0 hK hA hN  F i1 0 Z_now Z_next hrun H locs ls hP hD hS (lv_sub hl [1, 2, 0] rfl)
  · refine lv_aload_n hx hb d_Z_comesTo_8 rfl (lv_at hl 0 rfl) ?_
    refine va_get (D := D) (ci := 5) (v := .ref a_Z_now) (C := "RemnantDictionaryModel") (T := T_Z) (N := 30) hx hb hts iw_Z hown hK hP 0 rfl rfl 28 (by decide) (hts _ k_462) (fun _ h9 => h9) rfl d_Z_comesTo_9 ?_
    refine lv_iload_n hx hb d_Z_comesTo_12 rfl (lv_at hl 2 rfl) ?_
    refine lv_iload_n hx hb d_Z_comesTo_13 rfl (lv_at hl 2 rfl) ?_
    refine g_if_ne (tgt := 21) hx hb d_Z_comesTo_14 (by decide) hrun (fun _ hrun => ?_) (fun _ hrun => ?_)
    · refine lv_iconst (v := 0) hx hb d_Z_comesTo_21 (by decide) ?_
      exact w_zcomesTo_22 X D cI cL cZ a_Z a_Z_product a_Z_now a_Z_next a_Z_mono a_Z_degree a_Z_generator a_Z_hand a_Z_has a_Z_row a_Z_work a_Z_basis a_Z_rest a_Z_known a_Z_lead a_Z_tail a_Z_word a_Z_vector a_Z_system A Z_thrownCode Z_p Z_n Z_order Z_monomials Z_generators Z_upTo Z_members Z_lefts Z_vars Z_leadsFound Z_words Z_product Z_now_r Z_next_r F C0 hK hA hN k2 hk2 i1 i2 i2 0 Z_now Z_next hrun H locs ls hP hD hS (lv_sub hl [0, 1, 2] rfl)
    · refine lv_iconst (v := 1) hx hb d_Z_comesTo_17 (by decide) ?_
      refine lv_goto (tgt := 22) hx hb d_Z_comesTo_18 (by decide) ?_
      exact w_zcomesTo_22 X D cI cL cZ a_Z a_Z_product a_Z_now a_Z_next a_Z_mono a_Z_degree a_Z_generator a_Z_hand a_Z_has a_Z_row a_Z_work a_Z_basis a_Z_rest a_Z_known a_Z_lead a_Z_tail a_Z_word a_Z_vector a_Z_system A Z_thrownCode Z_p Z_n Z_order Z_monomials Z_generators Z_upTo Z_members Z_lefts Z_vars Z_leadsFound Z_words Z_product Z_now_r Z_next_r F C0 hK hA hN k2 hk2 i1 i2 i2 1 Z_now Z_next hrun H locs ls hP hD hS (lv_sub hl [0, 1, 2] rfl)
theorem v_zcomesTo_2 (X : gX) (D : va_G) (cI cL cZ : ClassId) (a_Z a_Z_product a_Z_now a_Z_next a_Z_mono a_Z_degree a_Z_generator a_Z_hand a_Z_has a_Z_row a_Z_work a_Z_basis a_Z_rest a_Z_known a_Z_lead a_Z_tail a_Z_word a_Z_vector a_Z_system : Nat) (A : Nat → Prop) (Z_thrownCode Z_p Z_n Z_order Z_monomials Z_generators Z_upTo Z_members Z_lefts Z_vars Z_leadsFound Z_words : Int32) (Z_product Z_now_r Z_next_r : Nat → Int32) (F : Nat) (C0 : gC X c_Z_comesTob none 8 "RemnantDictionaryModel" gAll) (hK : va_K D classes (gT cI cL cZ) (gs X)) (hA : ∀ q : Nat, (gs X).heap.size ≤ q → A q) (hN : gN (gs X))  : ∀ (n : Nat) (i1 i2 : Int32) (Z_now Z_next : Nat → Int32), b_zcomesTo_2 F Z_lefts Z_n Z_p Z_product n i1 i2 Z_now Z_next = some (Z_now_r, Z_next_r) → g_zcomesTo X D cI cL cZ a_Z a_Z_product a_Z_now a_Z_next a_Z_mono a_Z_degree a_Z_generator a_Z_hand a_Z_has a_Z_row a_Z_work a_Z_basis a_Z_rest a_Z_known a_Z_lead a_Z_tail a_Z_word a_Z_vector a_Z_system A Z_thrownCode Z_p Z_n Z_order Z_monomials Z_generators Z_upTo Z_members Z_lefts Z_vars Z_leadsFound Z_words Z_product Z_now_r Z_next_r 2 [(0, .ref a_Z), (1, .int i1), (2, .int i2)] [] Z_now Z_next := by
  intro n
  induction n with
  | zero => intro i1 i2 Z_now Z_next hrun; cases hrun
  | succ n ih =>
    intro i1 i2 Z_now Z_next hrun
    exact w_zcomesTo_2 X D cI cL cZ a_Z a_Z_product a_Z_now a_Z_next a_Z_mono a_Z_degree a_Z_generator a_Z_hand a_Z_has a_Z_row a_Z_work a_Z_basis a_Z_rest a_Z_known a_Z_lead a_Z_tail a_Z_word a_Z_vector a_Z_system A Z_thrownCode Z_p Z_n Z_order Z_monomials Z_generators Z_upTo Z_members Z_lefts Z_vars Z_leadsFound Z_words Z_product Z_now_r Z_next_r F C0 hK hA hN (b_zcomesTo_2 F Z_lefts Z_n Z_p Z_product n) ih i1 i2 Z_now Z_next hrun
set_option maxHeartbeats 4000000 in
set_option maxRecDepth 100000 in
theorem e_zcomesTo (X : gX) (D : va_G) (cI cL cZ : ClassId) (a_Z a_Z_product a_Z_now a_Z_next a_Z_mono a_Z_degree a_Z_generator a_Z_hand a_Z_has a_Z_row a_Z_work a_Z_basis a_Z_rest a_Z_known a_Z_lead a_Z_tail a_Z_word a_Z_vector a_Z_system : Nat) (A : Nat → Prop) (Z_thrownCode Z_p Z_n Z_order Z_monomials Z_generators Z_upTo Z_members Z_lefts Z_vars Z_leadsFound Z_words : Int32) (Z_product Z_now_r Z_next_r : Nat → Int32) (F : Nat) (C0 : gC X c_Z_comesTob none 8 "RemnantDictionaryModel" gAll) (hK : va_K D classes (gT cI cL cZ) (gs X)) (hA : ∀ q : Nat, (gs X).heap.size ≤ q → A q) (hN : gN (gs X)) (i1 : Int32) (Z_now Z_next : Nat → Int32) (hrun : m_zcomesTo F Z_lefts Z_n Z_p Z_product i1 Z_now Z_next = some (Z_now_r, Z_next_r)) : g_zcomesTo X D cI cL cZ a_Z a_Z_product a_Z_now a_Z_next a_Z_mono a_Z_degree a_Z_generator a_Z_hand a_Z_has a_Z_row a_Z_work a_Z_basis a_Z_rest a_Z_known a_Z_lead a_Z_tail a_Z_word a_Z_vector a_Z_system A Z_thrownCode Z_p Z_n Z_order Z_monomials Z_generators Z_upTo Z_members Z_lefts Z_vars Z_leadsFound Z_words Z_product Z_now_r Z_next_r 0 [(0, .ref a_Z), (1, .int i1)] [] Z_now Z_next := by
  have C1 := C0
  obtain ⟨hx, hb, hr, hml, hown, hts, hlocks⟩ := C1
  unfold m_zcomesTo at hrun
  intro H locs ls hP hD hS hl
  refine lv_iconst (v := 0) hx hb d_Z_comesTo_0 (by decide) ?_
  refine lv_istore_n (lv' := [(2, .int 0), (0, .ref a_Z), (1, .int i1)]) hx hb d_Z_comesTo_1 rfl hl (by decide) rfl (fun ls hl => ?_)
  exact v_zcomesTo_2 X D cI cL cZ a_Z a_Z_product a_Z_now a_Z_next a_Z_mono a_Z_degree a_Z_generator a_Z_hand a_Z_has a_Z_row a_Z_work a_Z_basis a_Z_rest a_Z_known a_Z_lead a_Z_tail a_Z_word a_Z_vector a_Z_system A Z_thrownCode Z_p Z_n Z_order Z_monomials Z_generators Z_upTo Z_members Z_lefts Z_vars Z_leadsFound Z_words Z_product Z_now_r Z_next_r F C0 hK hA hN  F i1 0 Z_now Z_next hrun H locs ls hP hD hS (lv_sub hl [1, 2, 0] rfl)
set_option maxHeartbeats 4000000 in
set_option maxRecDepth 100000 in
theorem c_zcomesTo (l : Launch) (D : va_G) (cI cL cZ : ClassId) (a_Z a_Z_product a_Z_now a_Z_next a_Z_mono a_Z_degree a_Z_generator a_Z_hand a_Z_has a_Z_row a_Z_work a_Z_basis a_Z_rest a_Z_known a_Z_lead a_Z_tail a_Z_word a_Z_vector a_Z_system : Nat) (F : Nat) (Z_thrownCode Z_p Z_n Z_order Z_monomials Z_generators Z_upTo Z_members Z_lefts Z_vars Z_leadsFound Z_words : Int32) (Z_product Z_now Z_next : Nat → Int32) (i1 : Int32) (sz : Nat) (Z_now_r Z_next_r : Nat → Int32) (hrun : m_zcomesTo F Z_lefts Z_n Z_p Z_product i1 Z_now Z_next = some (Z_now_r, Z_next_r)) : Met l y_Z_comesTo (.code y_Z_comesTo c_Z_comesTob 8 none :: gAll) rm_zcomesTo (va_Pc [.ref a_Z, .int i1] (gPW D (gT cI cL cZ) (ws_zcomesTo a_Z a_Z_product a_Z_now a_Z_next a_Z_mono a_Z_degree a_Z_generator a_Z_hand a_Z_has a_Z_row a_Z_work a_Z_basis a_Z_rest a_Z_known a_Z_lead a_Z_tail a_Z_word a_Z_vector a_Z_system cI cL cZ Z_thrownCode Z_p Z_n Z_order Z_monomials Z_generators Z_upTo Z_members Z_lefts Z_vars Z_leadsFound Z_words Z_product Z_now Z_next) sz)) (va_Qv (fun _ : Unit => True) (gB D (gT cI cL cZ) (va_A (ws_zcomesTo a_Z a_Z_product a_Z_now a_Z_next a_Z_mono a_Z_degree a_Z_generator a_Z_hand a_Z_has a_Z_row a_Z_work a_Z_basis a_Z_rest a_Z_known a_Z_lead a_Z_tail a_Z_word a_Z_vector a_Z_system cI cL cZ Z_thrownCode Z_p Z_n Z_order Z_monomials Z_generators Z_upTo Z_members Z_lefts Z_vars Z_leadsFound Z_words Z_product Z_now Z_next) sz) (ws_zcomesTo a_Z a_Z_product a_Z_now a_Z_next a_Z_mono a_Z_degree a_Z_generator a_Z_hand a_Z_has a_Z_row a_Z_work a_Z_basis a_Z_rest a_Z_known a_Z_lead a_Z_tail a_Z_word a_Z_vector a_Z_system cI cL cZ Z_thrownCode Z_p Z_n Z_order Z_monomials Z_generators Z_upTo Z_members Z_lefts Z_vars Z_leadsFound Z_words Z_product Z_now_r Z_next_r)) (va_A (ws_zcomesTo a_Z a_Z_product a_Z_now a_Z_next a_Z_mono a_Z_degree a_Z_generator a_Z_hand a_Z_has a_Z_row a_Z_work a_Z_basis a_Z_rest a_Z_known a_Z_lead a_Z_tail a_Z_word a_Z_vector a_Z_system cI cL cZ Z_thrownCode Z_p Z_n Z_order Z_monomials Z_generators Z_upTo Z_members Z_lefts Z_vars Z_leadsFound Z_words Z_product Z_now Z_next) sz)) 0 0 (va_A (ws_zcomesTo a_Z a_Z_product a_Z_now a_Z_next a_Z_mono a_Z_degree a_Z_generator a_Z_hand a_Z_has a_Z_row a_Z_work a_Z_basis a_Z_rest a_Z_known a_Z_lead a_Z_tail a_Z_word a_Z_vector a_Z_system cI cL cZ Z_thrownCode Z_p Z_n Z_order Z_monomials Z_generators Z_upTo Z_members Z_lefts Z_vars Z_leadsFound Z_words Z_product Z_now Z_next) sz) := by
  refine Met.ofW (cc := c_Z_comesTob) (maxL := 8) (ret := none) (by decide +kernel) rfl ?_
  intro p e s m args below meth c s₁ B hml hv
  obtain ⟨rfl, hsz, hP, hK, hN, hD0⟩ := hv
  subst hsz
  have hD := hD0.self (sz := s.heap.size)
  have hl := lv_entry ([.ref a_Z, .int i1]) (n := 8) (Nat.le_of_ble_eq_true rfl)
  rw [lg_entry_eq]
  generalize (lg_sl ([.ref a_Z, .int i1]) ++ List.replicate (8 - (lg_sl ([.ref a_Z, .int i1])).length) Slot.unset).toArray = ls at hl ⊢
  exact e_zcomesTo (p, l, e, s, m, ([.ref a_Z, .int i1] : List Value).toArray, below, meth, c) D cI cL cZ a_Z a_Z_product a_Z_now a_Z_next a_Z_mono a_Z_degree a_Z_generator a_Z_hand a_Z_has a_Z_row a_Z_work a_Z_basis a_Z_rest a_Z_known a_Z_lead a_Z_tail a_Z_word a_Z_vector a_Z_system (va_A (ws_zcomesTo a_Z a_Z_product a_Z_now a_Z_next a_Z_mono a_Z_degree a_Z_generator a_Z_hand a_Z_has a_Z_row a_Z_work a_Z_basis a_Z_rest a_Z_known a_Z_lead a_Z_tail a_Z_word a_Z_vector a_Z_system cI cL cZ Z_thrownCode Z_p Z_n Z_order Z_monomials Z_generators Z_upTo Z_members Z_lefts Z_vars Z_leadsFound Z_words Z_product Z_now Z_next) s.heap.size) Z_thrownCode Z_p Z_n Z_order Z_monomials Z_generators Z_upTo Z_members Z_lefts Z_vars Z_leadsFound Z_words Z_product Z_now_r Z_next_r F ⟨B.exec, B.bytes, B.returns, hml, findClass_of_methodNamed B.named, fun w h => atoms_spec (ws := (.code y_Z_comesTo c_Z_comesTob 8 none :: gAll)) B.pre w (List.mem_cons_of_mem _ h), B.notSynchronized⟩ hK (fun q h => Or.inr h) hN i1 Z_now Z_next hrun s.heap [] ls hP hD va_S.rf hl
theorem d_Z_solved_0 : decode c_Z_solvedb 0 = .ok (.aload_n 0, 1) := by decide +kernel
theorem d_Z_solved_1 : decode c_Z_solvedb 1 = .ok (.getfield 84, 3) := by decide +kernel
theorem d_Z_solved_4 : decode c_Z_solvedb 4 = .ok (.iconst 1, 1) := by decide +kernel
theorem d_Z_solved_5 : decode c_Z_solvedb 5 = .ok (.iadd, 1) := by decide +kernel
theorem d_Z_solved_6 : decode c_Z_solvedb 6 = .ok (.istore_n 1, 1) := by decide +kernel
theorem d_Z_solved_7 : decode c_Z_solvedb 7 = .ok (.iconst 0, 1) := by decide +kernel
theorem d_Z_solved_8 : decode c_Z_solvedb 8 = .ok (.istore_n 2, 1) := by decide +kernel
theorem d_Z_solved_9 : decode c_Z_solvedb 9 = .ok (.iload_n 2, 1) := by decide +kernel
theorem d_Z_solved_10 : decode c_Z_solvedb 10 = .ok (.aload_n 0, 1) := by decide +kernel
theorem d_Z_solved_11 : decode c_Z_solvedb 11 = .ok (.getfield 60, 3) := by decide +kernel
theorem d_Z_solved_14 : decode c_Z_solvedb 14 = .ok (.if_icmp .ge 65, 3) := by decide +kernel
theorem d_Z_solved_17 : decode c_Z_solvedb 17 = .ok (.iconst 0, 1) := by decide +kernel
theorem d_Z_solved_18 : decode c_Z_solvedb 18 = .ok (.istore_n 3, 1) := by decide +kernel
theorem d_Z_solved_19 : decode c_Z_solvedb 19 = .ok (.iload_n 3, 1) := by decide +kernel
theorem d_Z_solved_20 : decode c_Z_solvedb 20 = .ok (.aload_n 0, 1) := by decide +kernel
theorem d_Z_solved_21 : decode c_Z_solvedb 21 = .ok (.getfield 84, 3) := by decide +kernel
theorem d_Z_solved_24 : decode c_Z_solvedb 24 = .ok (.if_icmp .ge 30, 3) := by decide +kernel
theorem d_Z_solved_27 : decode c_Z_solvedb 27 = .ok (.aload_n 0, 1) := by decide +kernel
theorem d_Z_solved_28 : decode c_Z_solvedb 28 = .ok (.getfield 93, 3) := by decide +kernel
theorem d_Z_solved_31 : decode c_Z_solvedb 31 = .ok (.iload_n 1, 1) := by decide +kernel
theorem d_Z_solved_32 : decode c_Z_solvedb 32 = .ok (.iload_n 2, 1) := by decide +kernel
theorem d_Z_solved_33 : decode c_Z_solvedb 33 = .ok (.imul, 1) := by decide +kernel
theorem d_Z_solved_34 : decode c_Z_solvedb 34 = .ok (.iload_n 3, 1) := by decide +kernel
theorem d_Z_solved_35 : decode c_Z_solvedb 35 = .ok (.iadd, 1) := by decide +kernel
theorem d_Z_solved_36 : decode c_Z_solvedb 36 = .ok (.aload_n 0, 1) := by decide +kernel
theorem d_Z_solved_37 : decode c_Z_solvedb 37 = .ok (.getfield 90, 3) := by decide +kernel
theorem d_Z_solved_40 : decode c_Z_solvedb 40 = .ok (.bipush 40, 2) := by decide +kernel
theorem d_Z_solved_42 : decode c_Z_solvedb 42 = .ok (.iload_n 3, 1) := by decide +kernel
theorem d_Z_solved_43 : decode c_Z_solvedb 43 = .ok (.imul, 1) := by decide +kernel
theorem d_Z_solved_44 : decode c_Z_solvedb 44 = .ok (.iload_n 2, 1) := by decide +kernel
theorem d_Z_solved_45 : decode c_Z_solvedb 45 = .ok (.iadd, 1) := by decide +kernel
theorem d_Z_solved_46 : decode c_Z_solvedb 46 = .ok (.iaload, 1) := by decide +kernel
theorem d_Z_solved_47 : decode c_Z_solvedb 47 = .ok (.iastore, 1) := by decide +kernel
theorem d_Z_solved_48 : decode c_Z_solvedb 48 = .ok (.iinc 3 1, 3) := by decide +kernel
theorem d_Z_solved_51 : decode c_Z_solvedb 51 = .ok (.goto (-32), 3) := by decide +kernel
theorem d_Z_solved_54 : decode c_Z_solvedb 54 = .ok (.aload_n 0, 1) := by decide +kernel
theorem d_Z_solved_55 : decode c_Z_solvedb 55 = .ok (.getfield 93, 3) := by decide +kernel
theorem d_Z_solved_58 : decode c_Z_solvedb 58 = .ok (.iload_n 1, 1) := by decide +kernel
theorem d_Z_solved_59 : decode c_Z_solvedb 59 = .ok (.iload_n 2, 1) := by decide +kernel
theorem d_Z_solved_60 : decode c_Z_solvedb 60 = .ok (.imul, 1) := by decide +kernel
theorem d_Z_solved_61 : decode c_Z_solvedb 61 = .ok (.aload_n 0, 1) := by decide +kernel
theorem d_Z_solved_62 : decode c_Z_solvedb 62 = .ok (.getfield 84, 3) := by decide +kernel
theorem d_Z_solved_65 : decode c_Z_solvedb 65 = .ok (.iadd, 1) := by decide +kernel
theorem d_Z_solved_66 : decode c_Z_solvedb 66 = .ok (.aload_n 0, 1) := by decide +kernel
theorem d_Z_solved_67 : decode c_Z_solvedb 67 = .ok (.getfield 96, 3) := by decide +kernel
theorem d_Z_solved_70 : decode c_Z_solvedb 70 = .ok (.iload_n 2, 1) := by decide +kernel
theorem d_Z_solved_71 : decode c_Z_solvedb 71 = .ok (.iaload, 1) := by decide +kernel
theorem d_Z_solved_72 : decode c_Z_solvedb 72 = .ok (.iastore, 1) := by decide +kernel
theorem d_Z_solved_73 : decode c_Z_solvedb 73 = .ok (.iinc 2 1, 3) := by decide +kernel
theorem d_Z_solved_76 : decode c_Z_solvedb 76 = .ok (.goto (-67), 3) := by decide +kernel
theorem d_Z_solved_79 : decode c_Z_solvedb 79 = .ok (.iconst 0, 1) := by decide +kernel
theorem d_Z_solved_80 : decode c_Z_solvedb 80 = .ok (.istore_n 2, 1) := by decide +kernel
theorem d_Z_solved_81 : decode c_Z_solvedb 81 = .ok (.iconst 0, 1) := by decide +kernel
theorem d_Z_solved_82 : decode c_Z_solvedb 82 = .ok (.istore_n 3, 1) := by decide +kernel
theorem d_Z_solved_83 : decode c_Z_solvedb 83 = .ok (.iload_n 3, 1) := by decide +kernel
theorem d_Z_solved_84 : decode c_Z_solvedb 84 = .ok (.aload_n 0, 1) := by decide +kernel
theorem d_Z_solved_85 : decode c_Z_solvedb 85 = .ok (.getfield 84, 3) := by decide +kernel
theorem d_Z_solved_88 : decode c_Z_solvedb 88 = .ok (.if_icmp .ge 300, 3) := by decide +kernel
theorem d_Z_solved_91 : decode c_Z_solvedb 91 = .ok (.iload_n 2, 1) := by decide +kernel
theorem d_Z_solved_92 : decode c_Z_solvedb 92 = .ok (.istore 4, 2) := by decide +kernel
theorem d_Z_solved_94 : decode c_Z_solvedb 94 = .ok (.iload 4, 2) := by decide +kernel
theorem d_Z_solved_96 : decode c_Z_solvedb 96 = .ok (.aload_n 0, 1) := by decide +kernel
theorem d_Z_solved_97 : decode c_Z_solvedb 97 = .ok (.getfield 60, 3) := by decide +kernel
theorem d_Z_solved_100 : decode c_Z_solvedb 100 = .ok (.if_icmp .ge 23, 3) := by decide +kernel
theorem d_Z_solved_103 : decode c_Z_solvedb 103 = .ok (.aload_n 0, 1) := by decide +kernel
theorem d_Z_solved_104 : decode c_Z_solvedb 104 = .ok (.getfield 93, 3) := by decide +kernel
theorem d_Z_solved_107 : decode c_Z_solvedb 107 = .ok (.iload_n 1, 1) := by decide +kernel
theorem d_Z_solved_108 : decode c_Z_solvedb 108 = .ok (.iload 4, 2) := by decide +kernel
theorem d_Z_solved_110 : decode c_Z_solvedb 110 = .ok (.imul, 1) := by decide +kernel
theorem d_Z_solved_111 : decode c_Z_solvedb 111 = .ok (.iload_n 3, 1) := by decide +kernel
theorem d_Z_solved_112 : decode c_Z_solvedb 112 = .ok (.iadd, 1) := by decide +kernel
theorem d_Z_solved_113 : decode c_Z_solvedb 113 = .ok (.iaload, 1) := by decide +kernel
theorem d_Z_solved_114 : decode c_Z_solvedb 114 = .ok (.ifCond .ne 9, 3) := by decide +kernel
theorem d_Z_solved_117 : decode c_Z_solvedb 117 = .ok (.iinc 4 1, 3) := by decide +kernel
theorem d_Z_solved_120 : decode c_Z_solvedb 120 = .ok (.goto (-26), 3) := by decide +kernel
theorem d_Z_solved_123 : decode c_Z_solvedb 123 = .ok (.iload 4, 2) := by decide +kernel
theorem d_Z_solved_125 : decode c_Z_solvedb 125 = .ok (.aload_n 0, 1) := by decide +kernel
theorem d_Z_solved_126 : decode c_Z_solvedb 126 = .ok (.getfield 60, 3) := by decide +kernel
theorem d_Z_solved_129 : decode c_Z_solvedb 129 = .ok (.if_icmp .ge 253, 3) := by decide +kernel
theorem d_Z_solved_132 : decode c_Z_solvedb 132 = .ok (.iconst 0, 1) := by decide +kernel
theorem d_Z_solved_133 : decode c_Z_solvedb 133 = .ok (.istore 5, 2) := by decide +kernel
theorem d_Z_solved_135 : decode c_Z_solvedb 135 = .ok (.iload 5, 2) := by decide +kernel
theorem d_Z_solved_137 : decode c_Z_solvedb 137 = .ok (.iload_n 1, 1) := by decide +kernel
theorem d_Z_solved_138 : decode c_Z_solvedb 138 = .ok (.if_icmp .ge 59, 3) := by decide +kernel
theorem d_Z_solved_141 : decode c_Z_solvedb 141 = .ok (.aload_n 0, 1) := by decide +kernel
theorem d_Z_solved_142 : decode c_Z_solvedb 142 = .ok (.getfield 93, 3) := by decide +kernel
theorem d_Z_solved_145 : decode c_Z_solvedb 145 = .ok (.iload_n 1, 1) := by decide +kernel
theorem d_Z_solved_146 : decode c_Z_solvedb 146 = .ok (.iload 4, 2) := by decide +kernel
theorem d_Z_solved_148 : decode c_Z_solvedb 148 = .ok (.imul, 1) := by decide +kernel
theorem d_Z_solved_149 : decode c_Z_solvedb 149 = .ok (.iload 5, 2) := by decide +kernel
theorem d_Z_solved_151 : decode c_Z_solvedb 151 = .ok (.iadd, 1) := by decide +kernel
theorem d_Z_solved_152 : decode c_Z_solvedb 152 = .ok (.iaload, 1) := by decide +kernel
theorem d_Z_solved_153 : decode c_Z_solvedb 153 = .ok (.istore 6, 2) := by decide +kernel
theorem d_Z_solved_155 : decode c_Z_solvedb 155 = .ok (.aload_n 0, 1) := by decide +kernel
theorem d_Z_solved_156 : decode c_Z_solvedb 156 = .ok (.getfield 93, 3) := by decide +kernel
theorem d_Z_solved_159 : decode c_Z_solvedb 159 = .ok (.iload_n 1, 1) := by decide +kernel
theorem d_Z_solved_160 : decode c_Z_solvedb 160 = .ok (.iload 4, 2) := by decide +kernel
theorem d_Z_solved_162 : decode c_Z_solvedb 162 = .ok (.imul, 1) := by decide +kernel
theorem d_Z_solved_163 : decode c_Z_solvedb 163 = .ok (.iload 5, 2) := by decide +kernel
theorem d_Z_solved_165 : decode c_Z_solvedb 165 = .ok (.iadd, 1) := by decide +kernel
theorem d_Z_solved_166 : decode c_Z_solvedb 166 = .ok (.aload_n 0, 1) := by decide +kernel
theorem d_Z_solved_167 : decode c_Z_solvedb 167 = .ok (.getfield 93, 3) := by decide +kernel
theorem d_Z_solved_170 : decode c_Z_solvedb 170 = .ok (.iload_n 1, 1) := by decide +kernel
theorem d_Z_solved_171 : decode c_Z_solvedb 171 = .ok (.iload_n 2, 1) := by decide +kernel
theorem d_Z_solved_172 : decode c_Z_solvedb 172 = .ok (.imul, 1) := by decide +kernel
theorem d_Z_solved_173 : decode c_Z_solvedb 173 = .ok (.iload 5, 2) := by decide +kernel
theorem d_Z_solved_175 : decode c_Z_solvedb 175 = .ok (.iadd, 1) := by decide +kernel
theorem d_Z_solved_176 : decode c_Z_solvedb 176 = .ok (.iaload, 1) := by decide +kernel
theorem d_Z_solved_177 : decode c_Z_solvedb 177 = .ok (.iastore, 1) := by decide +kernel
theorem d_Z_solved_178 : decode c_Z_solvedb 178 = .ok (.aload_n 0, 1) := by decide +kernel
theorem d_Z_solved_179 : decode c_Z_solvedb 179 = .ok (.getfield 93, 3) := by decide +kernel
theorem d_Z_solved_182 : decode c_Z_solvedb 182 = .ok (.iload_n 1, 1) := by decide +kernel
theorem d_Z_solved_183 : decode c_Z_solvedb 183 = .ok (.iload_n 2, 1) := by decide +kernel
theorem d_Z_solved_184 : decode c_Z_solvedb 184 = .ok (.imul, 1) := by decide +kernel
theorem d_Z_solved_185 : decode c_Z_solvedb 185 = .ok (.iload 5, 2) := by decide +kernel
theorem d_Z_solved_187 : decode c_Z_solvedb 187 = .ok (.iadd, 1) := by decide +kernel
theorem d_Z_solved_188 : decode c_Z_solvedb 188 = .ok (.iload 6, 2) := by decide +kernel
theorem d_Z_solved_190 : decode c_Z_solvedb 190 = .ok (.iastore, 1) := by decide +kernel
theorem d_Z_solved_191 : decode c_Z_solvedb 191 = .ok (.iinc 5 1, 3) := by decide +kernel
theorem d_Z_solved_194 : decode c_Z_solvedb 194 = .ok (.goto (-59), 3) := by decide +kernel
theorem d_Z_solved_197 : decode c_Z_solvedb 197 = .ok (.aload_n 0, 1) := by decide +kernel
theorem d_Z_solved_198 : decode c_Z_solvedb 198 = .ok (.aload_n 0, 1) := by decide +kernel
theorem d_Z_solved_199 : decode c_Z_solvedb 199 = .ok (.getfield 93, 3) := by decide +kernel
theorem d_Z_solved_202 : decode c_Z_solvedb 202 = .ok (.iload_n 1, 1) := by decide +kernel
theorem d_Z_solved_203 : decode c_Z_solvedb 203 = .ok (.iload_n 2, 1) := by decide +kernel
theorem d_Z_solved_204 : decode c_Z_solvedb 204 = .ok (.imul, 1) := by decide +kernel
theorem d_Z_solved_205 : decode c_Z_solvedb 205 = .ok (.iload_n 3, 1) := by decide +kernel
theorem d_Z_solved_206 : decode c_Z_solvedb 206 = .ok (.iadd, 1) := by decide +kernel
theorem d_Z_solved_207 : decode c_Z_solvedb 207 = .ok (.iaload, 1) := by decide +kernel
theorem d_Z_solved_208 : decode c_Z_solvedb 208 = .ok (.invokevirtual 132, 3) := by decide +kernel
theorem d_Z_solved_211 : decode c_Z_solvedb 211 = .ok (.i2l, 1) := by decide +kernel
theorem d_Z_solved_212 : decode c_Z_solvedb 212 = .ok (.lstore 5, 2) := by decide +kernel
theorem d_Z_solved_214 : decode c_Z_solvedb 214 = .ok (.iconst 0, 1) := by decide +kernel
theorem d_Z_solved_215 : decode c_Z_solvedb 215 = .ok (.istore 7, 2) := by decide +kernel
theorem d_Z_solved_217 : decode c_Z_solvedb 217 = .ok (.iload 7, 2) := by decide +kernel
theorem d_Z_solved_219 : decode c_Z_solvedb 219 = .ok (.iload_n 1, 1) := by decide +kernel
theorem d_Z_solved_220 : decode c_Z_solvedb 220 = .ok (.if_icmp .ge 42, 3) := by decide +kernel
theorem d_Z_solved_223 : decode c_Z_solvedb 223 = .ok (.aload_n 0, 1) := by decide +kernel
theorem d_Z_solved_224 : decode c_Z_solvedb 224 = .ok (.getfield 93, 3) := by decide +kernel
theorem d_Z_solved_227 : decode c_Z_solvedb 227 = .ok (.iload_n 1, 1) := by decide +kernel
theorem d_Z_solved_228 : decode c_Z_solvedb 228 = .ok (.iload_n 2, 1) := by decide +kernel
theorem d_Z_solved_229 : decode c_Z_solvedb 229 = .ok (.imul, 1) := by decide +kernel
theorem d_Z_solved_230 : decode c_Z_solvedb 230 = .ok (.iload 7, 2) := by decide +kernel
theorem d_Z_solved_232 : decode c_Z_solvedb 232 = .ok (.iadd, 1) := by decide +kernel
theorem d_Z_solved_233 : decode c_Z_solvedb 233 = .ok (.aload_n 0, 1) := by decide +kernel
theorem d_Z_solved_234 : decode c_Z_solvedb 234 = .ok (.getfield 93, 3) := by decide +kernel
theorem d_Z_solved_237 : decode c_Z_solvedb 237 = .ok (.iload_n 1, 1) := by decide +kernel
theorem d_Z_solved_238 : decode c_Z_solvedb 238 = .ok (.iload_n 2, 1) := by decide +kernel
theorem d_Z_solved_239 : decode c_Z_solvedb 239 = .ok (.imul, 1) := by decide +kernel
theorem d_Z_solved_240 : decode c_Z_solvedb 240 = .ok (.iload 7, 2) := by decide +kernel
theorem d_Z_solved_242 : decode c_Z_solvedb 242 = .ok (.iadd, 1) := by decide +kernel
theorem d_Z_solved_243 : decode c_Z_solvedb 243 = .ok (.iaload, 1) := by decide +kernel
theorem d_Z_solved_244 : decode c_Z_solvedb 244 = .ok (.i2l, 1) := by decide +kernel
theorem d_Z_solved_245 : decode c_Z_solvedb 245 = .ok (.lload 5, 2) := by decide +kernel
theorem d_Z_solved_247 : decode c_Z_solvedb 247 = .ok (.lmul, 1) := by decide +kernel
theorem d_Z_solved_248 : decode c_Z_solvedb 248 = .ok (.aload_n 0, 1) := by decide +kernel
theorem d_Z_solved_249 : decode c_Z_solvedb 249 = .ok (.getfield 13, 3) := by decide +kernel
theorem d_Z_solved_252 : decode c_Z_solvedb 252 = .ok (.i2l, 1) := by decide +kernel
theorem d_Z_solved_253 : decode c_Z_solvedb 253 = .ok (.lrem, 1) := by decide +kernel
theorem d_Z_solved_254 : decode c_Z_solvedb 254 = .ok (.l2i, 1) := by decide +kernel
theorem d_Z_solved_255 : decode c_Z_solvedb 255 = .ok (.iastore, 1) := by decide +kernel
theorem d_Z_solved_256 : decode c_Z_solvedb 256 = .ok (.iinc 7 1, 3) := by decide +kernel
theorem d_Z_solved_259 : decode c_Z_solvedb 259 = .ok (.goto (-42), 3) := by decide +kernel
theorem d_Z_solved_262 : decode c_Z_solvedb 262 = .ok (.iconst 0, 1) := by decide +kernel
theorem d_Z_solved_263 : decode c_Z_solvedb 263 = .ok (.istore 7, 2) := by decide +kernel
theorem d_Z_solved_265 : decode c_Z_solvedb 265 = .ok (.iload 7, 2) := by decide +kernel
theorem d_Z_solved_267 : decode c_Z_solvedb 267 = .ok (.aload_n 0, 1) := by decide +kernel
theorem d_Z_solved_268 : decode c_Z_solvedb 268 = .ok (.getfield 60, 3) := by decide +kernel
theorem d_Z_solved_271 : decode c_Z_solvedb 271 = .ok (.if_icmp .ge 108, 3) := by decide +kernel
theorem d_Z_solved_274 : decode c_Z_solvedb 274 = .ok (.iload 7, 2) := by decide +kernel
theorem d_Z_solved_276 : decode c_Z_solvedb 276 = .ok (.iload_n 2, 1) := by decide +kernel
theorem d_Z_solved_277 : decode c_Z_solvedb 277 = .ok (.if_icmp .ne 7, 3) := by decide +kernel
theorem d_Z_solved_280 : decode c_Z_solvedb 280 = .ok (.lconst 0, 1) := by decide +kernel
theorem d_Z_solved_281 : decode c_Z_solvedb 281 = .ok (.goto 20, 3) := by decide +kernel
theorem d_Z_solved_284 : decode c_Z_solvedb 284 = .ok (.aload_n 0, 1) := by decide +kernel
theorem d_Z_solved_285 : decode c_Z_solvedb 285 = .ok (.getfield 13, 3) := by decide +kernel
theorem d_Z_solved_288 : decode c_Z_solvedb 288 = .ok (.aload_n 0, 1) := by decide +kernel
theorem d_Z_solved_289 : decode c_Z_solvedb 289 = .ok (.getfield 93, 3) := by decide +kernel
theorem d_Z_solved_292 : decode c_Z_solvedb 292 = .ok (.iload_n 1, 1) := by decide +kernel
theorem d_Z_solved_293 : decode c_Z_solvedb 293 = .ok (.iload 7, 2) := by decide +kernel
theorem d_Z_solved_295 : decode c_Z_solvedb 295 = .ok (.imul, 1) := by decide +kernel
theorem d_Z_solved_296 : decode c_Z_solvedb 296 = .ok (.iload_n 3, 1) := by decide +kernel
theorem d_Z_solved_297 : decode c_Z_solvedb 297 = .ok (.iadd, 1) := by decide +kernel
theorem d_Z_solved_298 : decode c_Z_solvedb 298 = .ok (.iaload, 1) := by decide +kernel
theorem d_Z_solved_299 : decode c_Z_solvedb 299 = .ok (.isub, 1) := by decide +kernel
theorem d_Z_solved_300 : decode c_Z_solvedb 300 = .ok (.i2l, 1) := by decide +kernel
theorem d_Z_solved_301 : decode c_Z_solvedb 301 = .ok (.lstore 8, 2) := by decide +kernel
theorem d_Z_solved_303 : decode c_Z_solvedb 303 = .ok (.iconst 0, 1) := by decide +kernel
theorem d_Z_solved_304 : decode c_Z_solvedb 304 = .ok (.istore 10, 2) := by decide +kernel
theorem d_Z_solved_306 : decode c_Z_solvedb 306 = .ok (.iload 10, 2) := by decide +kernel
theorem d_Z_solved_308 : decode c_Z_solvedb 308 = .ok (.iload_n 1, 1) := by decide +kernel
theorem d_Z_solved_309 : decode c_Z_solvedb 309 = .ok (.if_icmp .ge 64, 3) := by decide +kernel
theorem d_Z_solved_312 : decode c_Z_solvedb 312 = .ok (.lload 8, 2) := by decide +kernel
theorem d_Z_solved_314 : decode c_Z_solvedb 314 = .ok (.lconst 0, 1) := by decide +kernel
theorem d_Z_solved_315 : decode c_Z_solvedb 315 = .ok (.lcmp, 1) := by decide +kernel
theorem d_Z_solved_316 : decode c_Z_solvedb 316 = .ok (.ifCond .le 57, 3) := by decide +kernel
theorem d_Z_solved_319 : decode c_Z_solvedb 319 = .ok (.aload_n 0, 1) := by decide +kernel
theorem d_Z_solved_320 : decode c_Z_solvedb 320 = .ok (.getfield 93, 3) := by decide +kernel
theorem d_Z_solved_323 : decode c_Z_solvedb 323 = .ok (.iload_n 1, 1) := by decide +kernel
theorem d_Z_solved_324 : decode c_Z_solvedb 324 = .ok (.iload 7, 2) := by decide +kernel
theorem d_Z_solved_326 : decode c_Z_solvedb 326 = .ok (.imul, 1) := by decide +kernel
theorem d_Z_solved_327 : decode c_Z_solvedb 327 = .ok (.iload 10, 2) := by decide +kernel
theorem d_Z_solved_329 : decode c_Z_solvedb 329 = .ok (.iadd, 1) := by decide +kernel
theorem d_Z_solved_330 : decode c_Z_solvedb 330 = .ok (.aload_n 0, 1) := by decide +kernel
theorem d_Z_solved_331 : decode c_Z_solvedb 331 = .ok (.getfield 93, 3) := by decide +kernel
theorem d_Z_solved_334 : decode c_Z_solvedb 334 = .ok (.iload_n 1, 1) := by decide +kernel
theorem d_Z_solved_335 : decode c_Z_solvedb 335 = .ok (.iload 7, 2) := by decide +kernel
theorem d_Z_solved_337 : decode c_Z_solvedb 337 = .ok (.imul, 1) := by decide +kernel
theorem d_Z_solved_338 : decode c_Z_solvedb 338 = .ok (.iload 10, 2) := by decide +kernel
theorem d_Z_solved_340 : decode c_Z_solvedb 340 = .ok (.iadd, 1) := by decide +kernel
theorem d_Z_solved_341 : decode c_Z_solvedb 341 = .ok (.iaload, 1) := by decide +kernel
theorem d_Z_solved_342 : decode c_Z_solvedb 342 = .ok (.i2l, 1) := by decide +kernel
theorem d_Z_solved_343 : decode c_Z_solvedb 343 = .ok (.lload 8, 2) := by decide +kernel
theorem d_Z_solved_345 : decode c_Z_solvedb 345 = .ok (.aload_n 0, 1) := by decide +kernel
theorem d_Z_solved_346 : decode c_Z_solvedb 346 = .ok (.getfield 93, 3) := by decide +kernel
theorem d_Z_solved_349 : decode c_Z_solvedb 349 = .ok (.iload_n 1, 1) := by decide +kernel
theorem d_Z_solved_350 : decode c_Z_solvedb 350 = .ok (.iload_n 2, 1) := by decide +kernel
theorem d_Z_solved_351 : decode c_Z_solvedb 351 = .ok (.imul, 1) := by decide +kernel
theorem d_Z_solved_352 : decode c_Z_solvedb 352 = .ok (.iload 10, 2) := by decide +kernel
theorem d_Z_solved_354 : decode c_Z_solvedb 354 = .ok (.iadd, 1) := by decide +kernel
theorem d_Z_solved_355 : decode c_Z_solvedb 355 = .ok (.iaload, 1) := by decide +kernel
theorem d_Z_solved_356 : decode c_Z_solvedb 356 = .ok (.i2l, 1) := by decide +kernel
theorem d_Z_solved_357 : decode c_Z_solvedb 357 = .ok (.lmul, 1) := by decide +kernel
theorem d_Z_solved_358 : decode c_Z_solvedb 358 = .ok (.ladd, 1) := by decide +kernel
theorem d_Z_solved_359 : decode c_Z_solvedb 359 = .ok (.aload_n 0, 1) := by decide +kernel
theorem d_Z_solved_360 : decode c_Z_solvedb 360 = .ok (.getfield 13, 3) := by decide +kernel
theorem d_Z_solved_363 : decode c_Z_solvedb 363 = .ok (.i2l, 1) := by decide +kernel
theorem d_Z_solved_364 : decode c_Z_solvedb 364 = .ok (.lrem, 1) := by decide +kernel
theorem d_Z_solved_365 : decode c_Z_solvedb 365 = .ok (.l2i, 1) := by decide +kernel
theorem d_Z_solved_366 : decode c_Z_solvedb 366 = .ok (.iastore, 1) := by decide +kernel
theorem d_Z_solved_367 : decode c_Z_solvedb 367 = .ok (.iinc 10 1, 3) := by decide +kernel
theorem d_Z_solved_370 : decode c_Z_solvedb 370 = .ok (.goto (-64), 3) := by decide +kernel
theorem d_Z_solved_373 : decode c_Z_solvedb 373 = .ok (.iinc 7 1, 3) := by decide +kernel
theorem d_Z_solved_376 : decode c_Z_solvedb 376 = .ok (.goto (-111), 3) := by decide +kernel
theorem d_Z_solved_379 : decode c_Z_solvedb 379 = .ok (.iinc 2 1, 3) := by decide +kernel
theorem d_Z_solved_382 : decode c_Z_solvedb 382 = .ok (.iinc 3 1, 3) := by decide +kernel
theorem d_Z_solved_385 : decode c_Z_solvedb 385 = .ok (.goto (-302), 3) := by decide +kernel
theorem d_Z_solved_388 : decode c_Z_solvedb 388 = .ok (.iload_n 2, 1) := by decide +kernel
theorem d_Z_solved_389 : decode c_Z_solvedb 389 = .ok (.istore_n 3, 1) := by decide +kernel
theorem d_Z_solved_390 : decode c_Z_solvedb 390 = .ok (.iload_n 3, 1) := by decide +kernel
theorem d_Z_solved_391 : decode c_Z_solvedb 391 = .ok (.aload_n 0, 1) := by decide +kernel
theorem d_Z_solved_392 : decode c_Z_solvedb 392 = .ok (.getfield 60, 3) := by decide +kernel
theorem d_Z_solved_395 : decode c_Z_solvedb 395 = .ok (.if_icmp .ge 27, 3) := by decide +kernel
theorem d_Z_solved_398 : decode c_Z_solvedb 398 = .ok (.aload_n 0, 1) := by decide +kernel
theorem d_Z_solved_399 : decode c_Z_solvedb 399 = .ok (.getfield 93, 3) := by decide +kernel
theorem d_Z_solved_402 : decode c_Z_solvedb 402 = .ok (.iload_n 1, 1) := by decide +kernel
theorem d_Z_solved_403 : decode c_Z_solvedb 403 = .ok (.iload_n 3, 1) := by decide +kernel
theorem d_Z_solved_404 : decode c_Z_solvedb 404 = .ok (.imul, 1) := by decide +kernel
theorem d_Z_solved_405 : decode c_Z_solvedb 405 = .ok (.aload_n 0, 1) := by decide +kernel
theorem d_Z_solved_406 : decode c_Z_solvedb 406 = .ok (.getfield 84, 3) := by decide +kernel
theorem d_Z_solved_409 : decode c_Z_solvedb 409 = .ok (.iadd, 1) := by decide +kernel
theorem d_Z_solved_410 : decode c_Z_solvedb 410 = .ok (.iaload, 1) := by decide +kernel
theorem d_Z_solved_411 : decode c_Z_solvedb 411 = .ok (.ifCond .eq 5, 3) := by decide +kernel
theorem d_Z_solved_414 : decode c_Z_solvedb 414 = .ok (.iconst 0, 1) := by decide +kernel
theorem d_Z_solved_415 : decode c_Z_solvedb 415 = .ok (.ireturn, 1) := by decide +kernel
theorem d_Z_solved_416 : decode c_Z_solvedb 416 = .ok (.iinc 3 1, 3) := by decide +kernel
theorem d_Z_solved_419 : decode c_Z_solvedb 419 = .ok (.goto (-29), 3) := by decide +kernel
theorem d_Z_solved_422 : decode c_Z_solvedb 422 = .ok (.iconst 0, 1) := by decide +kernel
theorem d_Z_solved_423 : decode c_Z_solvedb 423 = .ok (.istore_n 3, 1) := by decide +kernel
theorem d_Z_solved_424 : decode c_Z_solvedb 424 = .ok (.iload_n 3, 1) := by decide +kernel
theorem d_Z_solved_425 : decode c_Z_solvedb 425 = .ok (.aload_n 0, 1) := by decide +kernel
theorem d_Z_solved_426 : decode c_Z_solvedb 426 = .ok (.getfield 84, 3) := by decide +kernel
theorem d_Z_solved_429 : decode c_Z_solvedb 429 = .ok (.if_icmp .ge 28, 3) := by decide +kernel
theorem d_Z_solved_432 : decode c_Z_solvedb 432 = .ok (.aload_n 0, 1) := by decide +kernel
theorem d_Z_solved_433 : decode c_Z_solvedb 433 = .ok (.getfield 99, 3) := by decide +kernel
theorem d_Z_solved_436 : decode c_Z_solvedb 436 = .ok (.iload_n 3, 1) := by decide +kernel
theorem d_Z_solved_437 : decode c_Z_solvedb 437 = .ok (.aload_n 0, 1) := by decide +kernel
theorem d_Z_solved_438 : decode c_Z_solvedb 438 = .ok (.getfield 93, 3) := by decide +kernel
theorem d_Z_solved_441 : decode c_Z_solvedb 441 = .ok (.iload_n 1, 1) := by decide +kernel
theorem d_Z_solved_442 : decode c_Z_solvedb 442 = .ok (.iload_n 3, 1) := by decide +kernel
theorem d_Z_solved_443 : decode c_Z_solvedb 443 = .ok (.imul, 1) := by decide +kernel
theorem d_Z_solved_444 : decode c_Z_solvedb 444 = .ok (.aload_n 0, 1) := by decide +kernel
theorem d_Z_solved_445 : decode c_Z_solvedb 445 = .ok (.getfield 84, 3) := by decide +kernel
theorem d_Z_solved_448 : decode c_Z_solvedb 448 = .ok (.iadd, 1) := by decide +kernel
theorem d_Z_solved_449 : decode c_Z_solvedb 449 = .ok (.iaload, 1) := by decide +kernel
theorem d_Z_solved_450 : decode c_Z_solvedb 450 = .ok (.iastore, 1) := by decide +kernel
theorem d_Z_solved_451 : decode c_Z_solvedb 451 = .ok (.iinc 3 1, 3) := by decide +kernel
theorem d_Z_solved_454 : decode c_Z_solvedb 454 = .ok (.goto (-30), 3) := by decide +kernel
theorem d_Z_solved_457 : decode c_Z_solvedb 457 = .ok (.iconst 1, 1) := by decide +kernel
theorem d_Z_solved_458 : decode c_Z_solvedb 458 = .ok (.ireturn, 1) := by decide +kernel
abbrev ws_zsolved (a_Z a_Z_vector a_Z_system a_Z_now a_Z_next a_Z_mono a_Z_degree a_Z_generator a_Z_hand a_Z_has a_Z_row a_Z_work a_Z_basis a_Z_rest a_Z_product a_Z_known a_Z_lead a_Z_tail a_Z_word : Nat) (cI cL cZ : ClassId) (Z_thrownCode Z_p Z_n Z_order Z_monomials Z_generators Z_upTo Z_members Z_lefts Z_vars Z_leadsFound Z_words : Int32) (Z_vector Z_system Z_now Z_next : Nat → Int32) : va_W := [(a_Z, .inr (5, [.int Z_thrownCode, .int Z_p, .int Z_n, .int Z_order, .int Z_monomials, .ref a_Z_mono, .ref a_Z_degree, .int Z_generators, .ref a_Z_generator, .ref a_Z_hand, .int Z_upTo, .ref a_Z_has, .ref a_Z_row, .ref a_Z_work, .ref a_Z_basis, .int Z_members, .int Z_lefts, .int Z_vars, .ref a_Z_rest, .ref a_Z_product, .ref a_Z_known, .int Z_leadsFound, .ref a_Z_lead, .ref a_Z_tail, .int Z_words, .ref a_Z_word, .ref a_Z_vector, .ref a_Z_system, .ref a_Z_now, .ref a_Z_next])), (a_Z_vector, .inl (cI, 1600, .inl Z_vector)), (a_Z_system, .inl (cI, 1640, .inl Z_system)), (a_Z_now, .inl (cI, 40, .inl Z_now)), (a_Z_next, .inl (cI, 40, .inl Z_next))]
abbrev rm_zsolved : Room := { frames := 1, cells := 0, slots := 0, locals := 26 }
abbrev g_zsolved (X : gX) (D : va_G) (cI cL cZ : ClassId) (a_Z a_Z_vector a_Z_system a_Z_now a_Z_next a_Z_mono a_Z_degree a_Z_generator a_Z_hand a_Z_has a_Z_row a_Z_work a_Z_basis a_Z_rest a_Z_product a_Z_known a_Z_lead a_Z_tail a_Z_word : Nat) (A : Nat → Prop) (Z_thrownCode Z_p Z_n Z_order Z_monomials Z_generators Z_upTo Z_members Z_lefts Z_vars Z_leadsFound Z_words : Int32) (Z_vector Z_now : Nat → Int32) (r_ : Int32) (Z_system_r Z_next_r : Nat → Int32) (pc : Nat) (lv : List (Nat × Value)) (st : List Value) (Z_system Z_next : Nat → Int32) : Prop := ∀ (H : Heap) (locs : List Loc) (ls : Array Slot), va_P D classes (ws_zsolved a_Z a_Z_vector a_Z_system a_Z_now a_Z_next a_Z_mono a_Z_degree a_Z_generator a_Z_hand a_Z_has a_Z_row a_Z_work a_Z_basis a_Z_rest a_Z_product a_Z_known a_Z_lead a_Z_tail a_Z_word cI cL cZ Z_thrownCode Z_p Z_n Z_order Z_monomials Z_generators Z_upTo Z_members Z_lefts Z_vars Z_leadsFound Z_words Z_vector Z_system Z_now Z_next) H → va_D A (ws_zsolved a_Z a_Z_vector a_Z_system a_Z_now a_Z_next a_Z_mono a_Z_degree a_Z_generator a_Z_hand a_Z_has a_Z_row a_Z_work a_Z_basis a_Z_rest a_Z_product a_Z_known a_Z_lead a_Z_tail a_Z_word cI cL cZ Z_thrownCode Z_p Z_n Z_order Z_monomials Z_generators Z_upTo Z_members Z_lefts Z_vars Z_leadsFound Z_words Z_vector Z_system Z_now Z_next) → va_S A (gs X).heap H locs → lv_has ls 11 lv → gWW X rm_zsolved H locs 0 0 (MQ (gbl X) (va_Qi (fun r (_ : Unit) => r = r_) (gB D (gT cI cL cZ) A (ws_zsolved a_Z a_Z_vector a_Z_system a_Z_now a_Z_next a_Z_mono a_Z_degree a_Z_generator a_Z_hand a_Z_has a_Z_row a_Z_work a_Z_basis a_Z_rest a_Z_product a_Z_known a_Z_lead a_Z_tail a_Z_word cI cL cZ Z_thrownCode Z_p Z_n Z_order Z_monomials Z_generators Z_upTo Z_members Z_lefts Z_vars Z_leadsFound Z_words Z_vector Z_system_r Z_now Z_next_r)) A) (ga X) (gs X) 0 0 A) (F0 (gm X) pc ls st)
set_option maxHeartbeats 4000000 in
set_option maxRecDepth 100000 in
theorem w_zsolved_424 (X : gX) (D : va_G) (cI cL cZ : ClassId) (a_Z a_Z_vector a_Z_system a_Z_now a_Z_next a_Z_mono a_Z_degree a_Z_generator a_Z_hand a_Z_has a_Z_row a_Z_work a_Z_basis a_Z_rest a_Z_product a_Z_known a_Z_lead a_Z_tail a_Z_word : Nat) (A : Nat → Prop) (Z_thrownCode Z_p Z_n Z_order Z_monomials Z_generators Z_upTo Z_members Z_lefts Z_vars Z_leadsFound Z_words : Int32) (Z_vector Z_now : Nat → Int32) (r_ : Int32) (Z_system_r Z_next_r : Nat → Int32) (F : Nat) (C0 : gC X c_Z_solvedb (some .boolean) 11 "RemnantDictionaryModel" gAll) (hK : va_K D classes (gT cI cL cZ) (gs X)) (hA : ∀ q : Nat, (gs X).heap.size ≤ q → A q) (hN : gN (gs X)) (k424 : Int32 → Int32 → (Nat → Int32) → (Nat → Int32) → Option (Int32 × (Nat → Int32) × (Nat → Int32))) (hk424 : ∀ (i1 i3 : Int32) (Z_system Z_next : Nat → Int32), k424 i1 i3 Z_system Z_next = some (r_, Z_system_r, Z_next_r) → g_zsolved X D cI cL cZ a_Z a_Z_vector a_Z_system a_Z_now a_Z_next a_Z_mono a_Z_degree a_Z_generator a_Z_hand a_Z_has a_Z_row a_Z_work a_Z_basis a_Z_rest a_Z_product a_Z_known a_Z_lead a_Z_tail a_Z_word A Z_thrownCode Z_p Z_n Z_order Z_monomials Z_generators Z_upTo Z_members Z_lefts Z_vars Z_leadsFound Z_words Z_vector Z_now r_ Z_system_r Z_next_r 424 [(0, .ref a_Z), (1, .int i1), (3, .int i3)] [] Z_system Z_next) (i1 i3 : Int32) (Z_system Z_next : Nat → Int32) (hrun : s_zsolved_424 F Z_lefts Z_p Z_words Z_vector Z_now k424 i1 i3 Z_system Z_next = some (r_, Z_system_r, Z_next_r)) : g_zsolved X D cI cL cZ a_Z a_Z_vector a_Z_system a_Z_now a_Z_next a_Z_mono a_Z_degree a_Z_generator a_Z_hand a_Z_has a_Z_row a_Z_work a_Z_basis a_Z_rest a_Z_product a_Z_known a_Z_lead a_Z_tail a_Z_word A Z_thrownCode Z_p Z_n Z_order Z_monomials Z_generators Z_upTo Z_members Z_lefts Z_vars Z_leadsFound Z_words Z_vector Z_now r_ Z_system_r Z_next_r 424 [(0, .ref a_Z), (1, .int i1), (3, .int i3)] [] Z_system Z_next := by
  have C1 := C0
  obtain ⟨hx, hb, hr, hml, hown, hts, hlocks⟩ := C1
  unfold s_zsolved_424 at hrun
  intro H locs ls hP hD hS hl
  refine lv_iload_n hx hb d_Z_solved_424 rfl (lv_at hl 2 rfl) ?_
  refine lv_aload_n hx hb d_Z_solved_425 rfl (lv_at hl 0 rfl) ?_
  refine va_get (D := D) (ci := 5) (v := .int Z_words) (C := "RemnantDictionaryModel") (T := T_Z) (N := 30) hx hb hts iw_Z hown hK hP 0 rfl rfl 24 (by decide) (hts _ k_465) (fun _ h9 => h9) rfl d_Z_solved_426 ?_
  refine g_icmp_ge (tgt := 457) hx hb d_Z_solved_429 (by decide) hrun (fun _ hrun => ?_) (fun _ hrun => ?_)
  · refine lv_iconst (v := 1) hx hb d_Z_solved_457 (by decide) ?_
    cases hrun
    exact W.zret hx hb hr rfl (fun t ht hW => ⟨⟨_, (), rfl, rfl, gB_of ht hW.alike hP hK hD⟩, hS.F ht⟩) hS.2.2 d_Z_solved_458
  · refine lv_aload_n hx hb d_Z_solved_432 rfl (lv_at hl 0 rfl) ?_
    refine va_get (D := D) (ci := 5) (v := .ref a_Z_next) (C := "RemnantDictionaryModel") (T := T_Z) (N := 30) hx hb hts iw_Z hown hK hP 0 rfl rfl 29 (by decide) (hts _ k_463) (fun _ h9 => h9) rfl d_Z_solved_433 ?_
    refine lv_iload_n hx hb d_Z_solved_436 rfl (lv_at hl 2 rfl) ?_
    refine lv_aload_n hx hb d_Z_solved_437 rfl (lv_at hl 0 rfl) ?_
    refine va_get (D := D) (ci := 5) (v := .ref a_Z_system) (C := "RemnantDictionaryModel") (T := T_Z) (N := 30) hx hb hts iw_Z hown hK hP 0 rfl rfl 27 (by decide) (hts _ k_466) (fun _ h9 => h9) rfl d_Z_solved_438 ?_
    refine lv_iload_n hx hb d_Z_solved_441 rfl (lv_at hl 1 rfl) ?_
    refine lv_iload_n hx hb d_Z_solved_442 rfl (lv_at hl 2 rfl) ?_
    refine lv_imul hx hb d_Z_solved_443 ?_
    refine lv_aload_n hx hb d_Z_solved_444 rfl (lv_at hl 0 rfl) ?_
    refine va_get (D := D) (ci := 5) (v := .int Z_words) (C := "RemnantDictionaryModel") (T := T_Z) (N := 30) hx hb hts iw_Z hown hK hP 0 rfl rfl 24 (by decide) (hts _ k_465) (fun _ h9 => h9) rfl d_Z_solved_445 ?_
    refine lv_iadd hx hb d_Z_solved_448 ?_
    refine g_iald hx hb hK hP 2 0 rfl rfl hrun d_Z_solved_449 (fun x_1 hrun => ?_)
    refine g_iast hx hb hK hP hD hS 4 0 rfl rfl hrun d_Z_solved_450 (fun Z_next_2 hrun H locs (hP : va_P D classes (ws_zsolved a_Z a_Z_vector a_Z_system a_Z_now a_Z_next a_Z_mono a_Z_degree a_Z_generator a_Z_hand a_Z_has a_Z_row a_Z_work a_Z_basis a_Z_rest a_Z_product a_Z_known a_Z_lead a_Z_tail a_Z_word cI cL cZ Z_thrownCode Z_p Z_n Z_order Z_monomials Z_generators Z_upTo Z_members Z_lefts Z_vars Z_leadsFound Z_words Z_vector Z_system Z_now Z_next_2) H) (hD : va_D A (ws_zsolved a_Z a_Z_vector a_Z_system a_Z_now a_Z_next a_Z_mono a_Z_degree a_Z_generator a_Z_hand a_Z_has a_Z_row a_Z_work a_Z_basis a_Z_rest a_Z_product a_Z_known a_Z_lead a_Z_tail a_Z_word cI cL cZ Z_thrownCode Z_p Z_n Z_order Z_monomials Z_generators Z_upTo Z_members Z_lefts Z_vars Z_leadsFound Z_words Z_vector Z_system Z_now Z_next_2)) hS => ?_)
    refine lv_iinc (v := (i3 + 1)) (lv' := [(3, .int (i3 + 1)), (0, .ref a_Z), (1, .int i1)]) hx hb d_Z_solved_451 hl (k := 2) rfl rfl (by decide) rfl (fun ls hl => ?_)
    refine lv_goto (tgt := 424) hx hb d_Z_solved_454 (by decide) ?_
    exact hk424 i1 (i3 + 1) Z_system Z_next_2 hrun H locs ls hP hD hS (lv_sub hl [1, 2, 0] rfl)
theorem v_zsolved_424 (X : gX) (D : va_G) (cI cL cZ : ClassId) (a_Z a_Z_vector a_Z_system a_Z_now a_Z_next a_Z_mono a_Z_degree a_Z_generator a_Z_hand a_Z_has a_Z_row a_Z_work a_Z_basis a_Z_rest a_Z_product a_Z_known a_Z_lead a_Z_tail a_Z_word : Nat) (A : Nat → Prop) (Z_thrownCode Z_p Z_n Z_order Z_monomials Z_generators Z_upTo Z_members Z_lefts Z_vars Z_leadsFound Z_words : Int32) (Z_vector Z_now : Nat → Int32) (r_ : Int32) (Z_system_r Z_next_r : Nat → Int32) (F : Nat) (C0 : gC X c_Z_solvedb (some .boolean) 11 "RemnantDictionaryModel" gAll) (hK : va_K D classes (gT cI cL cZ) (gs X)) (hA : ∀ q : Nat, (gs X).heap.size ≤ q → A q) (hN : gN (gs X))  : ∀ (n : Nat) (i1 i3 : Int32) (Z_system Z_next : Nat → Int32), b_zsolved_424 F Z_lefts Z_p Z_words Z_vector Z_now n i1 i3 Z_system Z_next = some (r_, Z_system_r, Z_next_r) → g_zsolved X D cI cL cZ a_Z a_Z_vector a_Z_system a_Z_now a_Z_next a_Z_mono a_Z_degree a_Z_generator a_Z_hand a_Z_has a_Z_row a_Z_work a_Z_basis a_Z_rest a_Z_product a_Z_known a_Z_lead a_Z_tail a_Z_word A Z_thrownCode Z_p Z_n Z_order Z_monomials Z_generators Z_upTo Z_members Z_lefts Z_vars Z_leadsFound Z_words Z_vector Z_now r_ Z_system_r Z_next_r 424 [(0, .ref a_Z), (1, .int i1), (3, .int i3)] [] Z_system Z_next := by
  intro n
  induction n with
  | zero => intro i1 i3 Z_system Z_next hrun; cases hrun
  | succ n ih =>
    intro i1 i3 Z_system Z_next hrun
    exact w_zsolved_424 X D cI cL cZ a_Z a_Z_vector a_Z_system a_Z_now a_Z_next a_Z_mono a_Z_degree a_Z_generator a_Z_hand a_Z_has a_Z_row a_Z_work a_Z_basis a_Z_rest a_Z_product a_Z_known a_Z_lead a_Z_tail a_Z_word A Z_thrownCode Z_p Z_n Z_order Z_monomials Z_generators Z_upTo Z_members Z_lefts Z_vars Z_leadsFound Z_words Z_vector Z_now r_ Z_system_r Z_next_r F C0 hK hA hN (b_zsolved_424 F Z_lefts Z_p Z_words Z_vector Z_now n) ih i1 i3 Z_system Z_next hrun
set_option maxHeartbeats 4000000 in
set_option maxRecDepth 100000 in
theorem w_zsolved_390 (X : gX) (D : va_G) (cI cL cZ : ClassId) (a_Z a_Z_vector a_Z_system a_Z_now a_Z_next a_Z_mono a_Z_degree a_Z_generator a_Z_hand a_Z_has a_Z_row a_Z_work a_Z_basis a_Z_rest a_Z_product a_Z_known a_Z_lead a_Z_tail a_Z_word : Nat) (A : Nat → Prop) (Z_thrownCode Z_p Z_n Z_order Z_monomials Z_generators Z_upTo Z_members Z_lefts Z_vars Z_leadsFound Z_words : Int32) (Z_vector Z_now : Nat → Int32) (r_ : Int32) (Z_system_r Z_next_r : Nat → Int32) (F : Nat) (C0 : gC X c_Z_solvedb (some .boolean) 11 "RemnantDictionaryModel" gAll) (hK : va_K D classes (gT cI cL cZ) (gs X)) (hA : ∀ q : Nat, (gs X).heap.size ≤ q → A q) (hN : gN (gs X)) (k390 : Int32 → Int32 → (Nat → Int32) → (Nat → Int32) → Option (Int32 × (Nat → Int32) × (Nat → Int32))) (hk390 : ∀ (i1 i3 : Int32) (Z_system Z_next : Nat → Int32), k390 i1 i3 Z_system Z_next = some (r_, Z_system_r, Z_next_r) → g_zsolved X D cI cL cZ a_Z a_Z_vector a_Z_system a_Z_now a_Z_next a_Z_mono a_Z_degree a_Z_generator a_Z_hand a_Z_has a_Z_row a_Z_work a_Z_basis a_Z_rest a_Z_product a_Z_known a_Z_lead a_Z_tail a_Z_word A Z_thrownCode Z_p Z_n Z_order Z_monomials Z_generators Z_upTo Z_members Z_lefts Z_vars Z_leadsFound Z_words Z_vector Z_now r_ Z_system_r Z_next_r 390 [(0, .ref a_Z), (1, .int i1), (3, .int i3)] [] Z_system Z_next) (i1 i3 : Int32) (Z_system Z_next : Nat → Int32) (hrun : s_zsolved_390 F Z_lefts Z_p Z_words Z_vector Z_now k390 i1 i3 Z_system Z_next = some (r_, Z_system_r, Z_next_r)) : g_zsolved X D cI cL cZ a_Z a_Z_vector a_Z_system a_Z_now a_Z_next a_Z_mono a_Z_degree a_Z_generator a_Z_hand a_Z_has a_Z_row a_Z_work a_Z_basis a_Z_rest a_Z_product a_Z_known a_Z_lead a_Z_tail a_Z_word A Z_thrownCode Z_p Z_n Z_order Z_monomials Z_generators Z_upTo Z_members Z_lefts Z_vars Z_leadsFound Z_words Z_vector Z_now r_ Z_system_r Z_next_r 390 [(0, .ref a_Z), (1, .int i1), (3, .int i3)] [] Z_system Z_next := by
  have C1 := C0
  obtain ⟨hx, hb, hr, hml, hown, hts, hlocks⟩ := C1
  unfold s_zsolved_390 at hrun
  intro H locs ls hP hD hS hl
  refine lv_iload_n hx hb d_Z_solved_390 rfl (lv_at hl 2 rfl) ?_
  refine lv_aload_n hx hb d_Z_solved_391 rfl (lv_at hl 0 rfl) ?_
  refine va_get (D := D) (ci := 5) (v := .int Z_lefts) (C := "RemnantDictionaryModel") (T := T_Z) (N := 30) hx hb hts iw_Z hown hK hP 0 rfl rfl 16 (by decide) (hts _ k_445) (fun _ h9 => h9) rfl d_Z_solved_392 ?_
  refine g_icmp_ge (tgt := 422) hx hb d_Z_solved_395 (by decide) hrun (fun _ hrun => ?_) (fun _ hrun => ?_)
  · refine lv_iconst (v := 0) hx hb d_Z_solved_422 (by decide) ?_
    refine lv_istore_n (lv' := [(3, .int 0), (0, .ref a_Z), (1, .int i1)]) hx hb d_Z_solved_423 rfl hl (by decide) rfl (fun ls hl => ?_)
    exact v_zsolved_424 X D cI cL cZ a_Z a_Z_vector a_Z_system a_Z_now a_Z_next a_Z_mono a_Z_degree a_Z_generator a_Z_hand a_Z_has a_Z_row a_Z_work a_Z_basis a_Z_rest a_Z_product a_Z_known a_Z_lead a_Z_tail a_Z_word A Z_thrownCode Z_p Z_n Z_order Z_monomials Z_generators Z_upTo Z_members Z_lefts Z_vars Z_leadsFound Z_words Z_vector Z_now r_ Z_system_r Z_next_r F C0 hK hA hN  F i1 0 Z_system Z_next hrun H locs ls hP hD hS (lv_sub hl [1, 2, 0] rfl)
  · refine lv_aload_n hx hb d_Z_solved_398 rfl (lv_at hl 0 rfl) ?_
    refine va_get (D := D) (ci := 5) (v := .ref a_Z_system) (C := "RemnantDictionaryModel") (T := T_Z) (N := 30) hx hb hts iw_Z hown hK hP 0 rfl rfl 27 (by decide) (hts _ k_466) (fun _ h9 => h9) rfl d_Z_solved_399 ?_
    refine lv_iload_n hx hb d_Z_solved_402 rfl (lv_at hl 1 rfl) ?_
    refine lv_iload_n hx hb d_Z_solved_403 rfl (lv_at hl 2 rfl) ?_
    refine lv_imul hx hb d_Z_solved_404 ?_
    refine lv_aload_n hx hb d_Z_solved_405 rfl (lv_at hl 0 rfl) ?_
    refine va_get (D := D) (ci := 5) (v := .int Z_words) (C := "RemnantDictionaryModel") (T := T_Z) (N := 30) hx hb hts iw_Z hown hK hP 0 rfl rfl 24 (by decide) (hts _ k_465) (fun _ h9 => h9) rfl d_Z_solved_406 ?_
    refine lv_iadd hx hb d_Z_solved_409 ?_
    refine g_iald hx hb hK hP 2 0 rfl rfl hrun d_Z_solved_410 (fun x_1 hrun => ?_)
    refine g_if_eq (tgt := 416) hx hb d_Z_solved_411 (by decide) hrun (fun _ hrun => ?_) (fun _ hrun => ?_)
    · refine lv_iinc (v := (i3 + 1)) (lv' := [(3, .int (i3 + 1)), (0, .ref a_Z), (1, .int i1)]) hx hb d_Z_solved_416 hl (k := 2) rfl rfl (by decide) rfl (fun ls hl => ?_)
      refine lv_goto (tgt := 390) hx hb d_Z_solved_419 (by decide) ?_
      exact hk390 i1 (i3 + 1) Z_system Z_next hrun H locs ls hP hD hS (lv_sub hl [1, 2, 0] rfl)
    · refine lv_iconst (v := 0) hx hb d_Z_solved_414 (by decide) ?_
      cases hrun
      exact W.zret hx hb hr rfl (fun t ht hW => ⟨⟨_, (), rfl, rfl, gB_of ht hW.alike hP hK hD⟩, hS.F ht⟩) hS.2.2 d_Z_solved_415
theorem v_zsolved_390 (X : gX) (D : va_G) (cI cL cZ : ClassId) (a_Z a_Z_vector a_Z_system a_Z_now a_Z_next a_Z_mono a_Z_degree a_Z_generator a_Z_hand a_Z_has a_Z_row a_Z_work a_Z_basis a_Z_rest a_Z_product a_Z_known a_Z_lead a_Z_tail a_Z_word : Nat) (A : Nat → Prop) (Z_thrownCode Z_p Z_n Z_order Z_monomials Z_generators Z_upTo Z_members Z_lefts Z_vars Z_leadsFound Z_words : Int32) (Z_vector Z_now : Nat → Int32) (r_ : Int32) (Z_system_r Z_next_r : Nat → Int32) (F : Nat) (C0 : gC X c_Z_solvedb (some .boolean) 11 "RemnantDictionaryModel" gAll) (hK : va_K D classes (gT cI cL cZ) (gs X)) (hA : ∀ q : Nat, (gs X).heap.size ≤ q → A q) (hN : gN (gs X))  : ∀ (n : Nat) (i1 i3 : Int32) (Z_system Z_next : Nat → Int32), b_zsolved_390 F Z_lefts Z_p Z_words Z_vector Z_now n i1 i3 Z_system Z_next = some (r_, Z_system_r, Z_next_r) → g_zsolved X D cI cL cZ a_Z a_Z_vector a_Z_system a_Z_now a_Z_next a_Z_mono a_Z_degree a_Z_generator a_Z_hand a_Z_has a_Z_row a_Z_work a_Z_basis a_Z_rest a_Z_product a_Z_known a_Z_lead a_Z_tail a_Z_word A Z_thrownCode Z_p Z_n Z_order Z_monomials Z_generators Z_upTo Z_members Z_lefts Z_vars Z_leadsFound Z_words Z_vector Z_now r_ Z_system_r Z_next_r 390 [(0, .ref a_Z), (1, .int i1), (3, .int i3)] [] Z_system Z_next := by
  intro n
  induction n with
  | zero => intro i1 i3 Z_system Z_next hrun; cases hrun
  | succ n ih =>
    intro i1 i3 Z_system Z_next hrun
    exact w_zsolved_390 X D cI cL cZ a_Z a_Z_vector a_Z_system a_Z_now a_Z_next a_Z_mono a_Z_degree a_Z_generator a_Z_hand a_Z_has a_Z_row a_Z_work a_Z_basis a_Z_rest a_Z_product a_Z_known a_Z_lead a_Z_tail a_Z_word A Z_thrownCode Z_p Z_n Z_order Z_monomials Z_generators Z_upTo Z_members Z_lefts Z_vars Z_leadsFound Z_words Z_vector Z_now r_ Z_system_r Z_next_r F C0 hK hA hN (b_zsolved_390 F Z_lefts Z_p Z_words Z_vector Z_now n) ih i1 i3 Z_system Z_next hrun
set_option maxHeartbeats 4000000 in
set_option maxRecDepth 100000 in
theorem w_zsolved_306 (X : gX) (D : va_G) (cI cL cZ : ClassId) (a_Z a_Z_vector a_Z_system a_Z_now a_Z_next a_Z_mono a_Z_degree a_Z_generator a_Z_hand a_Z_has a_Z_row a_Z_work a_Z_basis a_Z_rest a_Z_product a_Z_known a_Z_lead a_Z_tail a_Z_word : Nat) (A : Nat → Prop) (Z_thrownCode Z_p Z_n Z_order Z_monomials Z_generators Z_upTo Z_members Z_lefts Z_vars Z_leadsFound Z_words : Int32) (Z_vector Z_now : Nat → Int32) (r_ : Int32) (Z_system_r Z_next_r : Nat → Int32) (F : Nat) (C0 : gC X c_Z_solvedb (some .boolean) 11 "RemnantDictionaryModel" gAll) (hK : va_K D classes (gT cI cL cZ) (gs X)) (hA : ∀ q : Nat, (gs X).heap.size ≤ q → A q) (hN : gN (gs X)) (k83 : Int32 → Int32 → Int32 → (Nat → Int32) → (Nat → Int32) → Option (Int32 × (Nat → Int32) × (Nat → Int32))) (hk83 : ∀ (i1 i2 i3 : Int32) (Z_system Z_next : Nat → Int32), k83 i1 i2 i3 Z_system Z_next = some (r_, Z_system_r, Z_next_r) → g_zsolved X D cI cL cZ a_Z a_Z_vector a_Z_system a_Z_now a_Z_next a_Z_mono a_Z_degree a_Z_generator a_Z_hand a_Z_has a_Z_row a_Z_work a_Z_basis a_Z_rest a_Z_product a_Z_known a_Z_lead a_Z_tail a_Z_word A Z_thrownCode Z_p Z_n Z_order Z_monomials Z_generators Z_upTo Z_members Z_lefts Z_vars Z_leadsFound Z_words Z_vector Z_now r_ Z_system_r Z_next_r 83 [(0, .ref a_Z), (1, .int i1), (2, .int i2), (3, .int i3)] [] Z_system Z_next) (k265 : Int32 → Int32 → Int32 → Int32 → (Nat → Int32) → (Nat → Int32) → Option (Int32 × (Nat → Int32) × (Nat → Int32))) (hk265 : ∀ (i1 i2 i3 i7 : Int32) (Z_system Z_next : Nat → Int32), k265 i1 i2 i3 i7 Z_system Z_next = some (r_, Z_system_r, Z_next_r) → g_zsolved X D cI cL cZ a_Z a_Z_vector a_Z_system a_Z_now a_Z_next a_Z_mono a_Z_degree a_Z_generator a_Z_hand a_Z_has a_Z_row a_Z_work a_Z_basis a_Z_rest a_Z_product a_Z_known a_Z_lead a_Z_tail a_Z_word A Z_thrownCode Z_p Z_n Z_order Z_monomials Z_generators Z_upTo Z_members Z_lefts Z_vars Z_leadsFound Z_words Z_vector Z_now r_ Z_system_r Z_next_r 265 [(0, .ref a_Z), (1, .int i1), (2, .int i2), (3, .int i3), (7, .int i7)] [] Z_system Z_next) (k306 : Int32 → Int32 → Int32 → Int32 → Int64 → Int32 → (Nat → Int32) → (Nat → Int32) → Option (Int32 × (Nat → Int32) × (Nat → Int32))) (hk306 : ∀ (i1 i2 i3 i7 : Int32) (l8 : Int64) (i10 : Int32) (Z_system Z_next : Nat → Int32), k306 i1 i2 i3 i7 l8 i10 Z_system Z_next = some (r_, Z_system_r, Z_next_r) → g_zsolved X D cI cL cZ a_Z a_Z_vector a_Z_system a_Z_now a_Z_next a_Z_mono a_Z_degree a_Z_generator a_Z_hand a_Z_has a_Z_row a_Z_work a_Z_basis a_Z_rest a_Z_product a_Z_known a_Z_lead a_Z_tail a_Z_word A Z_thrownCode Z_p Z_n Z_order Z_monomials Z_generators Z_upTo Z_members Z_lefts Z_vars Z_leadsFound Z_words Z_vector Z_now r_ Z_system_r Z_next_r 306 [(0, .ref a_Z), (1, .int i1), (2, .int i2), (3, .int i3), (7, .int i7), (8, .long l8), (10, .int i10)] [] Z_system Z_next) (i1 i2 i3 i7 : Int32) (l8 : Int64) (i10 : Int32) (Z_system Z_next : Nat → Int32) (hrun : s_zsolved_306 F Z_lefts Z_p Z_words Z_vector Z_now k83 k265 k306 i1 i2 i3 i7 l8 i10 Z_system Z_next = some (r_, Z_system_r, Z_next_r)) : g_zsolved X D cI cL cZ a_Z a_Z_vector a_Z_system a_Z_now a_Z_next a_Z_mono a_Z_degree a_Z_generator a_Z_hand a_Z_has a_Z_row a_Z_work a_Z_basis a_Z_rest a_Z_product a_Z_known a_Z_lead a_Z_tail a_Z_word A Z_thrownCode Z_p Z_n Z_order Z_monomials Z_generators Z_upTo Z_members Z_lefts Z_vars Z_leadsFound Z_words Z_vector Z_now r_ Z_system_r Z_next_r 306 [(0, .ref a_Z), (1, .int i1), (2, .int i2), (3, .int i3), (7, .int i7), (8, .long l8), (10, .int i10)] [] Z_system Z_next := by
  have C1 := C0
  obtain ⟨hx, hb, hr, hml, hown, hts, hlocks⟩ := C1
  unfold s_zsolved_306 at hrun
  intro H locs ls hP hD hS hl
  refine lv_iload hx hb d_Z_solved_306 (lv_at hl 6 rfl) ?_
  refine lv_iload_n hx hb d_Z_solved_308 rfl (lv_at hl 1 rfl) ?_
  refine g_icmp_ge (tgt := 373) hx hb d_Z_solved_309 (by decide) hrun (fun _ hrun => ?_) (fun _ hrun => ?_)
  · refine lv_iinc (v := (i7 + 1)) (lv' := [(7, .int (i7 + 1)), (0, .ref a_Z), (1, .int i1), (2, .int i2), (3, .int i3), (8, .long l8), (10, .int i10)]) hx hb d_Z_solved_373 hl (k := 4) rfl rfl (by decide) rfl (fun ls hl => ?_)
    refine lv_goto (tgt := 265) hx hb d_Z_solved_376 (by decide) ?_
    exact hk265 i1 i2 i3 (i7 + 1) Z_system Z_next hrun H locs ls hP hD hS (lv_sub hl [1, 2, 3, 4, 0] rfl)
  · refine lv_lload hx hb d_Z_solved_312 (lv_at hl 5 rfl) ?_
    refine lv_lconst (v := 0) hx hb d_Z_solved_314 (by decide) ?_
    refine W.lcmp hx hb d_Z_solved_315 ?_
    refine g_if_le (tgt := 373) hx hb d_Z_solved_316 (by decide) hrun (fun _ hrun => ?_) (fun _ hrun => ?_)
    · refine lv_iinc (v := (i7 + 1)) (lv' := [(7, .int (i7 + 1)), (0, .ref a_Z), (1, .int i1), (2, .int i2), (3, .int i3), (8, .long l8), (10, .int i10)]) hx hb d_Z_solved_373 hl (k := 4) rfl rfl (by decide) rfl (fun ls hl => ?_)
      refine lv_goto (tgt := 265) hx hb d_Z_solved_376 (by decide) ?_
      exact hk265 i1 i2 i3 (i7 + 1) Z_system Z_next hrun H locs ls hP hD hS (lv_sub hl [1, 2, 3, 4, 0] rfl)
    · refine lv_aload_n hx hb d_Z_solved_319 rfl (lv_at hl 0 rfl) ?_
      refine va_get (D := D) (ci := 5) (v := .ref a_Z_system) (C := "RemnantDictionaryModel") (T := T_Z) (N := 30) hx hb hts iw_Z hown hK hP 0 rfl rfl 27 (by decide) (hts _ k_466) (fun _ h9 => h9) rfl d_Z_solved_320 ?_
      refine lv_iload_n hx hb d_Z_solved_323 rfl (lv_at hl 1 rfl) ?_
      refine lv_iload hx hb d_Z_solved_324 (lv_at hl 4 rfl) ?_
      refine lv_imul hx hb d_Z_solved_326 ?_
      refine lv_iload hx hb d_Z_solved_327 (lv_at hl 6 rfl) ?_
      refine lv_iadd hx hb d_Z_solved_329 ?_
      refine lv_aload_n hx hb d_Z_solved_330 rfl (lv_at hl 0 rfl) ?_
      refine va_get (D := D) (ci := 5) (v := .ref a_Z_system) (C := "RemnantDictionaryModel") (T := T_Z) (N := 30) hx hb hts iw_Z hown hK hP 0 rfl rfl 27 (by decide) (hts _ k_466) (fun _ h9 => h9) rfl d_Z_solved_331 ?_
      refine lv_iload_n hx hb d_Z_solved_334 rfl (lv_at hl 1 rfl) ?_
      refine lv_iload hx hb d_Z_solved_335 (lv_at hl 4 rfl) ?_
      refine lv_imul hx hb d_Z_solved_337 ?_
      refine lv_iload hx hb d_Z_solved_338 (lv_at hl 6 rfl) ?_
      refine lv_iadd hx hb d_Z_solved_340 ?_
      refine g_iald hx hb hK hP 2 0 rfl rfl hrun d_Z_solved_341 (fun x_1 hrun => ?_)
      refine lv_i2l hx hb d_Z_solved_342 rfl ?_
      refine lv_lload hx hb d_Z_solved_343 (lv_at hl 5 rfl) ?_
      refine lv_aload_n hx hb d_Z_solved_345 rfl (lv_at hl 0 rfl) ?_
      refine va_get (D := D) (ci := 5) (v := .ref a_Z_system) (C := "RemnantDictionaryModel") (T := T_Z) (N := 30) hx hb hts iw_Z hown hK hP 0 rfl rfl 27 (by decide) (hts _ k_466) (fun _ h9 => h9) rfl d_Z_solved_346 ?_
      refine lv_iload_n hx hb d_Z_solved_349 rfl (lv_at hl 1 rfl) ?_
      refine lv_iload_n hx hb d_Z_solved_350 rfl (lv_at hl 2 rfl) ?_
      refine lv_imul hx hb d_Z_solved_351 ?_
      refine lv_iload hx hb d_Z_solved_352 (lv_at hl 6 rfl) ?_
      refine lv_iadd hx hb d_Z_solved_354 ?_
      refine g_iald hx hb hK hP 2 0 rfl rfl hrun d_Z_solved_355 (fun x_2 hrun => ?_)
      refine lv_i2l hx hb d_Z_solved_356 rfl ?_
      refine lv_lmul hx hb d_Z_solved_357 ?_
      refine lv_ladd hx hb d_Z_solved_358 ?_
      refine lv_aload_n hx hb d_Z_solved_359 rfl (lv_at hl 0 rfl) ?_
      refine va_get (D := D) (ci := 5) (v := .int Z_p) (C := "RemnantDictionaryModel") (T := T_Z) (N := 30) hx hb hts iw_Z hown hK hP 0 rfl rfl 1 (by decide) (hts _ k_385) (fun _ h9 => h9) rfl d_Z_solved_360 ?_
      refine lv_i2l hx hb d_Z_solved_363 rfl ?_
      refine g_lrem hx hb d_Z_solved_364 hrun (fun hrun => ?_)
      refine lv_l2i hx hb d_Z_solved_365 rfl ?_
      refine g_iast hx hb hK hP hD hS 2 0 rfl rfl hrun d_Z_solved_366 (fun Z_system_3 hrun H locs (hP : va_P D classes (ws_zsolved a_Z a_Z_vector a_Z_system a_Z_now a_Z_next a_Z_mono a_Z_degree a_Z_generator a_Z_hand a_Z_has a_Z_row a_Z_work a_Z_basis a_Z_rest a_Z_product a_Z_known a_Z_lead a_Z_tail a_Z_word cI cL cZ Z_thrownCode Z_p Z_n Z_order Z_monomials Z_generators Z_upTo Z_members Z_lefts Z_vars Z_leadsFound Z_words Z_vector Z_system_3 Z_now Z_next) H) (hD : va_D A (ws_zsolved a_Z a_Z_vector a_Z_system a_Z_now a_Z_next a_Z_mono a_Z_degree a_Z_generator a_Z_hand a_Z_has a_Z_row a_Z_work a_Z_basis a_Z_rest a_Z_product a_Z_known a_Z_lead a_Z_tail a_Z_word cI cL cZ Z_thrownCode Z_p Z_n Z_order Z_monomials Z_generators Z_upTo Z_members Z_lefts Z_vars Z_leadsFound Z_words Z_vector Z_system_3 Z_now Z_next)) hS => ?_)
      refine lv_iinc (v := (i10 + 1)) (lv' := [(10, .int (i10 + 1)), (0, .ref a_Z), (1, .int i1), (2, .int i2), (3, .int i3), (7, .int i7), (8, .long l8)]) hx hb d_Z_solved_367 hl (k := 6) rfl rfl (by decide) rfl (fun ls hl => ?_)
      refine lv_goto (tgt := 306) hx hb d_Z_solved_370 (by decide) ?_
      exact hk306 i1 i2 i3 i7 l8 (i10 + 1) Z_system_3 Z_next hrun H locs ls hP hD hS (lv_sub hl [1, 2, 3, 4, 5, 6, 0] rfl)
theorem v_zsolved_306 (X : gX) (D : va_G) (cI cL cZ : ClassId) (a_Z a_Z_vector a_Z_system a_Z_now a_Z_next a_Z_mono a_Z_degree a_Z_generator a_Z_hand a_Z_has a_Z_row a_Z_work a_Z_basis a_Z_rest a_Z_product a_Z_known a_Z_lead a_Z_tail a_Z_word : Nat) (A : Nat → Prop) (Z_thrownCode Z_p Z_n Z_order Z_monomials Z_generators Z_upTo Z_members Z_lefts Z_vars Z_leadsFound Z_words : Int32) (Z_vector Z_now : Nat → Int32) (r_ : Int32) (Z_system_r Z_next_r : Nat → Int32) (F : Nat) (C0 : gC X c_Z_solvedb (some .boolean) 11 "RemnantDictionaryModel" gAll) (hK : va_K D classes (gT cI cL cZ) (gs X)) (hA : ∀ q : Nat, (gs X).heap.size ≤ q → A q) (hN : gN (gs X)) (k83 : Int32 → Int32 → Int32 → (Nat → Int32) → (Nat → Int32) → Option (Int32 × (Nat → Int32) × (Nat → Int32))) (hk83 : ∀ (i1 i2 i3 : Int32) (Z_system Z_next : Nat → Int32), k83 i1 i2 i3 Z_system Z_next = some (r_, Z_system_r, Z_next_r) → g_zsolved X D cI cL cZ a_Z a_Z_vector a_Z_system a_Z_now a_Z_next a_Z_mono a_Z_degree a_Z_generator a_Z_hand a_Z_has a_Z_row a_Z_work a_Z_basis a_Z_rest a_Z_product a_Z_known a_Z_lead a_Z_tail a_Z_word A Z_thrownCode Z_p Z_n Z_order Z_monomials Z_generators Z_upTo Z_members Z_lefts Z_vars Z_leadsFound Z_words Z_vector Z_now r_ Z_system_r Z_next_r 83 [(0, .ref a_Z), (1, .int i1), (2, .int i2), (3, .int i3)] [] Z_system Z_next) (k265 : Int32 → Int32 → Int32 → Int32 → (Nat → Int32) → (Nat → Int32) → Option (Int32 × (Nat → Int32) × (Nat → Int32))) (hk265 : ∀ (i1 i2 i3 i7 : Int32) (Z_system Z_next : Nat → Int32), k265 i1 i2 i3 i7 Z_system Z_next = some (r_, Z_system_r, Z_next_r) → g_zsolved X D cI cL cZ a_Z a_Z_vector a_Z_system a_Z_now a_Z_next a_Z_mono a_Z_degree a_Z_generator a_Z_hand a_Z_has a_Z_row a_Z_work a_Z_basis a_Z_rest a_Z_product a_Z_known a_Z_lead a_Z_tail a_Z_word A Z_thrownCode Z_p Z_n Z_order Z_monomials Z_generators Z_upTo Z_members Z_lefts Z_vars Z_leadsFound Z_words Z_vector Z_now r_ Z_system_r Z_next_r 265 [(0, .ref a_Z), (1, .int i1), (2, .int i2), (3, .int i3), (7, .int i7)] [] Z_system Z_next) : ∀ (n : Nat) (i1 i2 i3 i7 : Int32) (l8 : Int64) (i10 : Int32) (Z_system Z_next : Nat → Int32), b_zsolved_306 F Z_lefts Z_p Z_words Z_vector Z_now k83 k265 n i1 i2 i3 i7 l8 i10 Z_system Z_next = some (r_, Z_system_r, Z_next_r) → g_zsolved X D cI cL cZ a_Z a_Z_vector a_Z_system a_Z_now a_Z_next a_Z_mono a_Z_degree a_Z_generator a_Z_hand a_Z_has a_Z_row a_Z_work a_Z_basis a_Z_rest a_Z_product a_Z_known a_Z_lead a_Z_tail a_Z_word A Z_thrownCode Z_p Z_n Z_order Z_monomials Z_generators Z_upTo Z_members Z_lefts Z_vars Z_leadsFound Z_words Z_vector Z_now r_ Z_system_r Z_next_r 306 [(0, .ref a_Z), (1, .int i1), (2, .int i2), (3, .int i3), (7, .int i7), (8, .long l8), (10, .int i10)] [] Z_system Z_next := by
  intro n
  induction n with
  | zero => intro i1 i2 i3 i7 l8 i10 Z_system Z_next hrun; cases hrun
  | succ n ih =>
    intro i1 i2 i3 i7 l8 i10 Z_system Z_next hrun
    exact w_zsolved_306 X D cI cL cZ a_Z a_Z_vector a_Z_system a_Z_now a_Z_next a_Z_mono a_Z_degree a_Z_generator a_Z_hand a_Z_has a_Z_row a_Z_work a_Z_basis a_Z_rest a_Z_product a_Z_known a_Z_lead a_Z_tail a_Z_word A Z_thrownCode Z_p Z_n Z_order Z_monomials Z_generators Z_upTo Z_members Z_lefts Z_vars Z_leadsFound Z_words Z_vector Z_now r_ Z_system_r Z_next_r F C0 hK hA hN k83 hk83 k265 hk265 (b_zsolved_306 F Z_lefts Z_p Z_words Z_vector Z_now k83 k265 n) ih i1 i2 i3 i7 l8 i10 Z_system Z_next hrun
set_option maxHeartbeats 4000000 in
set_option maxRecDepth 100000 in
theorem w_zsolved_265 (X : gX) (D : va_G) (cI cL cZ : ClassId) (a_Z a_Z_vector a_Z_system a_Z_now a_Z_next a_Z_mono a_Z_degree a_Z_generator a_Z_hand a_Z_has a_Z_row a_Z_work a_Z_basis a_Z_rest a_Z_product a_Z_known a_Z_lead a_Z_tail a_Z_word : Nat) (A : Nat → Prop) (Z_thrownCode Z_p Z_n Z_order Z_monomials Z_generators Z_upTo Z_members Z_lefts Z_vars Z_leadsFound Z_words : Int32) (Z_vector Z_now : Nat → Int32) (r_ : Int32) (Z_system_r Z_next_r : Nat → Int32) (F : Nat) (C0 : gC X c_Z_solvedb (some .boolean) 11 "RemnantDictionaryModel" gAll) (hK : va_K D classes (gT cI cL cZ) (gs X)) (hA : ∀ q : Nat, (gs X).heap.size ≤ q → A q) (hN : gN (gs X)) (k83 : Int32 → Int32 → Int32 → (Nat → Int32) → (Nat → Int32) → Option (Int32 × (Nat → Int32) × (Nat → Int32))) (hk83 : ∀ (i1 i2 i3 : Int32) (Z_system Z_next : Nat → Int32), k83 i1 i2 i3 Z_system Z_next = some (r_, Z_system_r, Z_next_r) → g_zsolved X D cI cL cZ a_Z a_Z_vector a_Z_system a_Z_now a_Z_next a_Z_mono a_Z_degree a_Z_generator a_Z_hand a_Z_has a_Z_row a_Z_work a_Z_basis a_Z_rest a_Z_product a_Z_known a_Z_lead a_Z_tail a_Z_word A Z_thrownCode Z_p Z_n Z_order Z_monomials Z_generators Z_upTo Z_members Z_lefts Z_vars Z_leadsFound Z_words Z_vector Z_now r_ Z_system_r Z_next_r 83 [(0, .ref a_Z), (1, .int i1), (2, .int i2), (3, .int i3)] [] Z_system Z_next) (k265 : Int32 → Int32 → Int32 → Int32 → (Nat → Int32) → (Nat → Int32) → Option (Int32 × (Nat → Int32) × (Nat → Int32))) (hk265 : ∀ (i1 i2 i3 i7 : Int32) (Z_system Z_next : Nat → Int32), k265 i1 i2 i3 i7 Z_system Z_next = some (r_, Z_system_r, Z_next_r) → g_zsolved X D cI cL cZ a_Z a_Z_vector a_Z_system a_Z_now a_Z_next a_Z_mono a_Z_degree a_Z_generator a_Z_hand a_Z_has a_Z_row a_Z_work a_Z_basis a_Z_rest a_Z_product a_Z_known a_Z_lead a_Z_tail a_Z_word A Z_thrownCode Z_p Z_n Z_order Z_monomials Z_generators Z_upTo Z_members Z_lefts Z_vars Z_leadsFound Z_words Z_vector Z_now r_ Z_system_r Z_next_r 265 [(0, .ref a_Z), (1, .int i1), (2, .int i2), (3, .int i3), (7, .int i7)] [] Z_system Z_next) (i1 i2 i3 i7 : Int32) (Z_system Z_next : Nat → Int32) (hrun : s_zsolved_265 F Z_lefts Z_p Z_words Z_vector Z_now k83 k265 i1 i2 i3 i7 Z_system Z_next = some (r_, Z_system_r, Z_next_r)) : g_zsolved X D cI cL cZ a_Z a_Z_vector a_Z_system a_Z_now a_Z_next a_Z_mono a_Z_degree a_Z_generator a_Z_hand a_Z_has a_Z_row a_Z_work a_Z_basis a_Z_rest a_Z_product a_Z_known a_Z_lead a_Z_tail a_Z_word A Z_thrownCode Z_p Z_n Z_order Z_monomials Z_generators Z_upTo Z_members Z_lefts Z_vars Z_leadsFound Z_words Z_vector Z_now r_ Z_system_r Z_next_r 265 [(0, .ref a_Z), (1, .int i1), (2, .int i2), (3, .int i3), (7, .int i7)] [] Z_system Z_next := by
  have C1 := C0
  obtain ⟨hx, hb, hr, hml, hown, hts, hlocks⟩ := C1
  unfold s_zsolved_265 at hrun
  intro H locs ls hP hD hS hl
  refine lv_iload hx hb d_Z_solved_265 (lv_at hl 4 rfl) ?_
  refine lv_aload_n hx hb d_Z_solved_267 rfl (lv_at hl 0 rfl) ?_
  refine va_get (D := D) (ci := 5) (v := .int Z_lefts) (C := "RemnantDictionaryModel") (T := T_Z) (N := 30) hx hb hts iw_Z hown hK hP 0 rfl rfl 16 (by decide) (hts _ k_445) (fun _ h9 => h9) rfl d_Z_solved_268 ?_
  refine g_icmp_ge (tgt := 379) hx hb d_Z_solved_271 (by decide) hrun (fun _ hrun => ?_) (fun _ hrun => ?_)
  · refine lv_iinc (v := (i2 + 1)) (lv' := [(2, .int (i2 + 1)), (0, .ref a_Z), (1, .int i1), (3, .int i3), (7, .int i7)]) hx hb d_Z_solved_379 hl (k := 2) rfl rfl (by decide) rfl (fun ls hl => ?_)
    refine lv_iinc (v := (i3 + 1)) (lv' := [(3, .int (i3 + 1)), (2, .int (i2 + 1)), (0, .ref a_Z), (1, .int i1), (7, .int i7)]) hx hb d_Z_solved_382 hl (k := 3) rfl rfl (by decide) rfl (fun ls hl => ?_)
    refine lv_goto (tgt := 83) hx hb d_Z_solved_385 (by decide) ?_
    exact hk83 i1 (i2 + 1) (i3 + 1) Z_system Z_next hrun H locs ls hP hD hS (lv_sub hl [2, 3, 1, 0] rfl)
  · refine lv_iload hx hb d_Z_solved_274 (lv_at hl 4 rfl) ?_
    refine lv_iload_n hx hb d_Z_solved_276 rfl (lv_at hl 2 rfl) ?_
    refine g_icmp_ne (tgt := 284) hx hb d_Z_solved_277 (by decide) hrun (fun _ hrun => ?_) (fun _ hrun => ?_)
    · refine lv_aload_n hx hb d_Z_solved_284 rfl (lv_at hl 0 rfl) ?_
      refine va_get (D := D) (ci := 5) (v := .int Z_p) (C := "RemnantDictionaryModel") (T := T_Z) (N := 30) hx hb hts iw_Z hown hK hP 0 rfl rfl 1 (by decide) (hts _ k_385) (fun _ h9 => h9) rfl d_Z_solved_285 ?_
      refine lv_aload_n hx hb d_Z_solved_288 rfl (lv_at hl 0 rfl) ?_
      refine va_get (D := D) (ci := 5) (v := .ref a_Z_system) (C := "RemnantDictionaryModel") (T := T_Z) (N := 30) hx hb hts iw_Z hown hK hP 0 rfl rfl 27 (by decide) (hts _ k_466) (fun _ h9 => h9) rfl d_Z_solved_289 ?_
      refine lv_iload_n hx hb d_Z_solved_292 rfl (lv_at hl 1 rfl) ?_
      refine lv_iload hx hb d_Z_solved_293 (lv_at hl 4 rfl) ?_
      refine lv_imul hx hb d_Z_solved_295 ?_
      refine lv_iload_n hx hb d_Z_solved_296 rfl (lv_at hl 3 rfl) ?_
      refine lv_iadd hx hb d_Z_solved_297 ?_
      refine g_iald hx hb hK hP 2 0 rfl rfl hrun d_Z_solved_298 (fun x_1 hrun => ?_)
      refine lv_isub hx hb d_Z_solved_299 ?_
      refine lv_i2l hx hb d_Z_solved_300 rfl ?_
      refine lv_lstore (lv' := [(8, .long ((Z_p - x_1).toInt64)), (0, .ref a_Z), (1, .int i1), (2, .int i2), (3, .int i3), (7, .int i7)]) hx hb d_Z_solved_301 hl (by decide) rfl (fun ls hl => ?_)
      refine lv_iconst (v := 0) hx hb d_Z_solved_303 (by decide) ?_
      refine lv_istore (lv' := [(10, .int 0), (8, .long ((Z_p - x_1).toInt64)), (0, .ref a_Z), (1, .int i1), (2, .int i2), (3, .int i3), (7, .int i7)]) hx hb d_Z_solved_304 hl (by decide) rfl (fun ls hl => ?_)
      exact v_zsolved_306 X D cI cL cZ a_Z a_Z_vector a_Z_system a_Z_now a_Z_next a_Z_mono a_Z_degree a_Z_generator a_Z_hand a_Z_has a_Z_row a_Z_work a_Z_basis a_Z_rest a_Z_product a_Z_known a_Z_lead a_Z_tail a_Z_word A Z_thrownCode Z_p Z_n Z_order Z_monomials Z_generators Z_upTo Z_members Z_lefts Z_vars Z_leadsFound Z_words Z_vector Z_now r_ Z_system_r Z_next_r F C0 hK hA hN k83 hk83 k265 hk265 F i1 i2 i3 i7 ((Z_p - x_1).toInt64) 0 Z_system Z_next hrun H locs ls hP hD hS (lv_sub hl [2, 3, 4, 5, 6, 1, 0] rfl)
    · refine lv_lconst (v := 0) hx hb d_Z_solved_280 (by decide) ?_
      refine lv_goto (tgt := 301) hx hb d_Z_solved_281 (by decide) ?_
      refine lv_lstore (lv' := [(8, .long 0), (0, .ref a_Z), (1, .int i1), (2, .int i2), (3, .int i3), (7, .int i7)]) hx hb d_Z_solved_301 hl (by decide) rfl (fun ls hl => ?_)
      refine lv_iconst (v := 0) hx hb d_Z_solved_303 (by decide) ?_
      refine lv_istore (lv' := [(10, .int 0), (8, .long 0), (0, .ref a_Z), (1, .int i1), (2, .int i2), (3, .int i3), (7, .int i7)]) hx hb d_Z_solved_304 hl (by decide) rfl (fun ls hl => ?_)
      exact v_zsolved_306 X D cI cL cZ a_Z a_Z_vector a_Z_system a_Z_now a_Z_next a_Z_mono a_Z_degree a_Z_generator a_Z_hand a_Z_has a_Z_row a_Z_work a_Z_basis a_Z_rest a_Z_product a_Z_known a_Z_lead a_Z_tail a_Z_word A Z_thrownCode Z_p Z_n Z_order Z_monomials Z_generators Z_upTo Z_members Z_lefts Z_vars Z_leadsFound Z_words Z_vector Z_now r_ Z_system_r Z_next_r F C0 hK hA hN k83 hk83 k265 hk265 F i1 i2 i3 i7 0 0 Z_system Z_next hrun H locs ls hP hD hS (lv_sub hl [2, 3, 4, 5, 6, 1, 0] rfl)
theorem v_zsolved_265 (X : gX) (D : va_G) (cI cL cZ : ClassId) (a_Z a_Z_vector a_Z_system a_Z_now a_Z_next a_Z_mono a_Z_degree a_Z_generator a_Z_hand a_Z_has a_Z_row a_Z_work a_Z_basis a_Z_rest a_Z_product a_Z_known a_Z_lead a_Z_tail a_Z_word : Nat) (A : Nat → Prop) (Z_thrownCode Z_p Z_n Z_order Z_monomials Z_generators Z_upTo Z_members Z_lefts Z_vars Z_leadsFound Z_words : Int32) (Z_vector Z_now : Nat → Int32) (r_ : Int32) (Z_system_r Z_next_r : Nat → Int32) (F : Nat) (C0 : gC X c_Z_solvedb (some .boolean) 11 "RemnantDictionaryModel" gAll) (hK : va_K D classes (gT cI cL cZ) (gs X)) (hA : ∀ q : Nat, (gs X).heap.size ≤ q → A q) (hN : gN (gs X)) (k83 : Int32 → Int32 → Int32 → (Nat → Int32) → (Nat → Int32) → Option (Int32 × (Nat → Int32) × (Nat → Int32))) (hk83 : ∀ (i1 i2 i3 : Int32) (Z_system Z_next : Nat → Int32), k83 i1 i2 i3 Z_system Z_next = some (r_, Z_system_r, Z_next_r) → g_zsolved X D cI cL cZ a_Z a_Z_vector a_Z_system a_Z_now a_Z_next a_Z_mono a_Z_degree a_Z_generator a_Z_hand a_Z_has a_Z_row a_Z_work a_Z_basis a_Z_rest a_Z_product a_Z_known a_Z_lead a_Z_tail a_Z_word A Z_thrownCode Z_p Z_n Z_order Z_monomials Z_generators Z_upTo Z_members Z_lefts Z_vars Z_leadsFound Z_words Z_vector Z_now r_ Z_system_r Z_next_r 83 [(0, .ref a_Z), (1, .int i1), (2, .int i2), (3, .int i3)] [] Z_system Z_next) : ∀ (n : Nat) (i1 i2 i3 i7 : Int32) (Z_system Z_next : Nat → Int32), b_zsolved_265 F Z_lefts Z_p Z_words Z_vector Z_now k83 n i1 i2 i3 i7 Z_system Z_next = some (r_, Z_system_r, Z_next_r) → g_zsolved X D cI cL cZ a_Z a_Z_vector a_Z_system a_Z_now a_Z_next a_Z_mono a_Z_degree a_Z_generator a_Z_hand a_Z_has a_Z_row a_Z_work a_Z_basis a_Z_rest a_Z_product a_Z_known a_Z_lead a_Z_tail a_Z_word A Z_thrownCode Z_p Z_n Z_order Z_monomials Z_generators Z_upTo Z_members Z_lefts Z_vars Z_leadsFound Z_words Z_vector Z_now r_ Z_system_r Z_next_r 265 [(0, .ref a_Z), (1, .int i1), (2, .int i2), (3, .int i3), (7, .int i7)] [] Z_system Z_next := by
  intro n
  induction n with
  | zero => intro i1 i2 i3 i7 Z_system Z_next hrun; cases hrun
  | succ n ih =>
    intro i1 i2 i3 i7 Z_system Z_next hrun
    exact w_zsolved_265 X D cI cL cZ a_Z a_Z_vector a_Z_system a_Z_now a_Z_next a_Z_mono a_Z_degree a_Z_generator a_Z_hand a_Z_has a_Z_row a_Z_work a_Z_basis a_Z_rest a_Z_product a_Z_known a_Z_lead a_Z_tail a_Z_word A Z_thrownCode Z_p Z_n Z_order Z_monomials Z_generators Z_upTo Z_members Z_lefts Z_vars Z_leadsFound Z_words Z_vector Z_now r_ Z_system_r Z_next_r F C0 hK hA hN k83 hk83 (b_zsolved_265 F Z_lefts Z_p Z_words Z_vector Z_now k83 n) ih i1 i2 i3 i7 Z_system Z_next hrun
set_option maxHeartbeats 4000000 in
set_option maxRecDepth 100000 in
theorem w_zsolved_217 (X : gX) (D : va_G) (cI cL cZ : ClassId) (a_Z a_Z_vector a_Z_system a_Z_now a_Z_next a_Z_mono a_Z_degree a_Z_generator a_Z_hand a_Z_has a_Z_row a_Z_work a_Z_basis a_Z_rest a_Z_product a_Z_known a_Z_lead a_Z_tail a_Z_word : Nat) (A : Nat → Prop) (Z_thrownCode Z_p Z_n Z_order Z_monomials Z_generators Z_upTo Z_members Z_lefts Z_vars Z_leadsFound Z_words : Int32) (Z_vector Z_now : Nat → Int32) (r_ : Int32) (Z_system_r Z_next_r : Nat → Int32) (F : Nat) (C0 : gC X c_Z_solvedb (some .boolean) 11 "RemnantDictionaryModel" gAll) (hK : va_K D classes (gT cI cL cZ) (gs X)) (hA : ∀ q : Nat, (gs X).heap.size ≤ q → A q) (hN : gN (gs X)) (k83 : Int32 → Int32 → Int32 → (Nat → Int32) → (Nat → Int32) → Option (Int32 × (Nat → Int32) × (Nat → Int32))) (hk83 : ∀ (i1 i2 i3 : Int32) (Z_system Z_next : Nat → Int32), k83 i1 i2 i3 Z_system Z_next = some (r_, Z_system_r, Z_next_r) → g_zsolved X D cI cL cZ a_Z a_Z_vector a_Z_system a_Z_now a_Z_next a_Z_mono a_Z_degree a_Z_generator a_Z_hand a_Z_has a_Z_row a_Z_work a_Z_basis a_Z_rest a_Z_product a_Z_known a_Z_lead a_Z_tail a_Z_word A Z_thrownCode Z_p Z_n Z_order Z_monomials Z_generators Z_upTo Z_members Z_lefts Z_vars Z_leadsFound Z_words Z_vector Z_now r_ Z_system_r Z_next_r 83 [(0, .ref a_Z), (1, .int i1), (2, .int i2), (3, .int i3)] [] Z_system Z_next) (k217 : Int32 → Int32 → Int32 → Int64 → Int32 → (Nat → Int32) → (Nat → Int32) → Option (Int32 × (Nat → Int32) × (Nat → Int32))) (hk217 : ∀ (i1 i2 i3 : Int32) (l5 : Int64) (i7 : Int32) (Z_system Z_next : Nat → Int32), k217 i1 i2 i3 l5 i7 Z_system Z_next = some (r_, Z_system_r, Z_next_r) → g_zsolved X D cI cL cZ a_Z a_Z_vector a_Z_system a_Z_now a_Z_next a_Z_mono a_Z_degree a_Z_generator a_Z_hand a_Z_has a_Z_row a_Z_work a_Z_basis a_Z_rest a_Z_product a_Z_known a_Z_lead a_Z_tail a_Z_word A Z_thrownCode Z_p Z_n Z_order Z_monomials Z_generators Z_upTo Z_members Z_lefts Z_vars Z_leadsFound Z_words Z_vector Z_now r_ Z_system_r Z_next_r 217 [(0, .ref a_Z), (1, .int i1), (2, .int i2), (3, .int i3), (5, .long l5), (7, .int i7)] [] Z_system Z_next) (i1 i2 i3 : Int32) (l5 : Int64) (i7 : Int32) (Z_system Z_next : Nat → Int32) (hrun : s_zsolved_217 F Z_lefts Z_p Z_words Z_vector Z_now k83 k217 i1 i2 i3 l5 i7 Z_system Z_next = some (r_, Z_system_r, Z_next_r)) : g_zsolved X D cI cL cZ a_Z a_Z_vector a_Z_system a_Z_now a_Z_next a_Z_mono a_Z_degree a_Z_generator a_Z_hand a_Z_has a_Z_row a_Z_work a_Z_basis a_Z_rest a_Z_product a_Z_known a_Z_lead a_Z_tail a_Z_word A Z_thrownCode Z_p Z_n Z_order Z_monomials Z_generators Z_upTo Z_members Z_lefts Z_vars Z_leadsFound Z_words Z_vector Z_now r_ Z_system_r Z_next_r 217 [(0, .ref a_Z), (1, .int i1), (2, .int i2), (3, .int i3), (5, .long l5), (7, .int i7)] [] Z_system Z_next := by
  have C1 := C0
  obtain ⟨hx, hb, hr, hml, hown, hts, hlocks⟩ := C1
  unfold s_zsolved_217 at hrun
  intro H locs ls hP hD hS hl
  refine lv_iload hx hb d_Z_solved_217 (lv_at hl 5 rfl) ?_
  refine lv_iload_n hx hb d_Z_solved_219 rfl (lv_at hl 1 rfl) ?_
  refine g_icmp_ge (tgt := 262) hx hb d_Z_solved_220 (by decide) hrun (fun _ hrun => ?_) (fun _ hrun => ?_)
  · refine lv_iconst (v := 0) hx hb d_Z_solved_262 (by decide) ?_
    refine lv_istore (lv' := [(7, .int 0), (0, .ref a_Z), (1, .int i1), (2, .int i2), (3, .int i3), (5, .long l5)]) hx hb d_Z_solved_263 hl (by decide) rfl (fun ls hl => ?_)
    exact v_zsolved_265 X D cI cL cZ a_Z a_Z_vector a_Z_system a_Z_now a_Z_next a_Z_mono a_Z_degree a_Z_generator a_Z_hand a_Z_has a_Z_row a_Z_work a_Z_basis a_Z_rest a_Z_product a_Z_known a_Z_lead a_Z_tail a_Z_word A Z_thrownCode Z_p Z_n Z_order Z_monomials Z_generators Z_upTo Z_members Z_lefts Z_vars Z_leadsFound Z_words Z_vector Z_now r_ Z_system_r Z_next_r F C0 hK hA hN k83 hk83 F i1 i2 i3 0 Z_system Z_next hrun H locs ls hP hD hS (lv_sub hl [1, 2, 3, 4, 0] rfl)
  · refine lv_aload_n hx hb d_Z_solved_223 rfl (lv_at hl 0 rfl) ?_
    refine va_get (D := D) (ci := 5) (v := .ref a_Z_system) (C := "RemnantDictionaryModel") (T := T_Z) (N := 30) hx hb hts iw_Z hown hK hP 0 rfl rfl 27 (by decide) (hts _ k_466) (fun _ h9 => h9) rfl d_Z_solved_224 ?_
    refine lv_iload_n hx hb d_Z_solved_227 rfl (lv_at hl 1 rfl) ?_
    refine lv_iload_n hx hb d_Z_solved_228 rfl (lv_at hl 2 rfl) ?_
    refine lv_imul hx hb d_Z_solved_229 ?_
    refine lv_iload hx hb d_Z_solved_230 (lv_at hl 5 rfl) ?_
    refine lv_iadd hx hb d_Z_solved_232 ?_
    refine lv_aload_n hx hb d_Z_solved_233 rfl (lv_at hl 0 rfl) ?_
    refine va_get (D := D) (ci := 5) (v := .ref a_Z_system) (C := "RemnantDictionaryModel") (T := T_Z) (N := 30) hx hb hts iw_Z hown hK hP 0 rfl rfl 27 (by decide) (hts _ k_466) (fun _ h9 => h9) rfl d_Z_solved_234 ?_
    refine lv_iload_n hx hb d_Z_solved_237 rfl (lv_at hl 1 rfl) ?_
    refine lv_iload_n hx hb d_Z_solved_238 rfl (lv_at hl 2 rfl) ?_
    refine lv_imul hx hb d_Z_solved_239 ?_
    refine lv_iload hx hb d_Z_solved_240 (lv_at hl 5 rfl) ?_
    refine lv_iadd hx hb d_Z_solved_242 ?_
    refine g_iald hx hb hK hP 2 0 rfl rfl hrun d_Z_solved_243 (fun x_1 hrun => ?_)
    refine lv_i2l hx hb d_Z_solved_244 rfl ?_
    refine lv_lload hx hb d_Z_solved_245 (lv_at hl 4 rfl) ?_
    refine lv_lmul hx hb d_Z_solved_247 ?_
    refine lv_aload_n hx hb d_Z_solved_248 rfl (lv_at hl 0 rfl) ?_
    refine va_get (D := D) (ci := 5) (v := .int Z_p) (C := "RemnantDictionaryModel") (T := T_Z) (N := 30) hx hb hts iw_Z hown hK hP 0 rfl rfl 1 (by decide) (hts _ k_385) (fun _ h9 => h9) rfl d_Z_solved_249 ?_
    refine lv_i2l hx hb d_Z_solved_252 rfl ?_
    refine g_lrem hx hb d_Z_solved_253 hrun (fun hrun => ?_)
    refine lv_l2i hx hb d_Z_solved_254 rfl ?_
    refine g_iast hx hb hK hP hD hS 2 0 rfl rfl hrun d_Z_solved_255 (fun Z_system_2 hrun H locs (hP : va_P D classes (ws_zsolved a_Z a_Z_vector a_Z_system a_Z_now a_Z_next a_Z_mono a_Z_degree a_Z_generator a_Z_hand a_Z_has a_Z_row a_Z_work a_Z_basis a_Z_rest a_Z_product a_Z_known a_Z_lead a_Z_tail a_Z_word cI cL cZ Z_thrownCode Z_p Z_n Z_order Z_monomials Z_generators Z_upTo Z_members Z_lefts Z_vars Z_leadsFound Z_words Z_vector Z_system_2 Z_now Z_next) H) (hD : va_D A (ws_zsolved a_Z a_Z_vector a_Z_system a_Z_now a_Z_next a_Z_mono a_Z_degree a_Z_generator a_Z_hand a_Z_has a_Z_row a_Z_work a_Z_basis a_Z_rest a_Z_product a_Z_known a_Z_lead a_Z_tail a_Z_word cI cL cZ Z_thrownCode Z_p Z_n Z_order Z_monomials Z_generators Z_upTo Z_members Z_lefts Z_vars Z_leadsFound Z_words Z_vector Z_system_2 Z_now Z_next)) hS => ?_)
    refine lv_iinc (v := (i7 + 1)) (lv' := [(7, .int (i7 + 1)), (0, .ref a_Z), (1, .int i1), (2, .int i2), (3, .int i3), (5, .long l5)]) hx hb d_Z_solved_256 hl (k := 5) rfl rfl (by decide) rfl (fun ls hl => ?_)
    refine lv_goto (tgt := 217) hx hb d_Z_solved_259 (by decide) ?_
    exact hk217 i1 i2 i3 l5 (i7 + 1) Z_system_2 Z_next hrun H locs ls hP hD hS (lv_sub hl [1, 2, 3, 4, 5, 0] rfl)
theorem v_zsolved_217 (X : gX) (D : va_G) (cI cL cZ : ClassId) (a_Z a_Z_vector a_Z_system a_Z_now a_Z_next a_Z_mono a_Z_degree a_Z_generator a_Z_hand a_Z_has a_Z_row a_Z_work a_Z_basis a_Z_rest a_Z_product a_Z_known a_Z_lead a_Z_tail a_Z_word : Nat) (A : Nat → Prop) (Z_thrownCode Z_p Z_n Z_order Z_monomials Z_generators Z_upTo Z_members Z_lefts Z_vars Z_leadsFound Z_words : Int32) (Z_vector Z_now : Nat → Int32) (r_ : Int32) (Z_system_r Z_next_r : Nat → Int32) (F : Nat) (C0 : gC X c_Z_solvedb (some .boolean) 11 "RemnantDictionaryModel" gAll) (hK : va_K D classes (gT cI cL cZ) (gs X)) (hA : ∀ q : Nat, (gs X).heap.size ≤ q → A q) (hN : gN (gs X)) (k83 : Int32 → Int32 → Int32 → (Nat → Int32) → (Nat → Int32) → Option (Int32 × (Nat → Int32) × (Nat → Int32))) (hk83 : ∀ (i1 i2 i3 : Int32) (Z_system Z_next : Nat → Int32), k83 i1 i2 i3 Z_system Z_next = some (r_, Z_system_r, Z_next_r) → g_zsolved X D cI cL cZ a_Z a_Z_vector a_Z_system a_Z_now a_Z_next a_Z_mono a_Z_degree a_Z_generator a_Z_hand a_Z_has a_Z_row a_Z_work a_Z_basis a_Z_rest a_Z_product a_Z_known a_Z_lead a_Z_tail a_Z_word A Z_thrownCode Z_p Z_n Z_order Z_monomials Z_generators Z_upTo Z_members Z_lefts Z_vars Z_leadsFound Z_words Z_vector Z_now r_ Z_system_r Z_next_r 83 [(0, .ref a_Z), (1, .int i1), (2, .int i2), (3, .int i3)] [] Z_system Z_next) : ∀ (n : Nat) (i1 i2 i3 : Int32) (l5 : Int64) (i7 : Int32) (Z_system Z_next : Nat → Int32), b_zsolved_217 F Z_lefts Z_p Z_words Z_vector Z_now k83 n i1 i2 i3 l5 i7 Z_system Z_next = some (r_, Z_system_r, Z_next_r) → g_zsolved X D cI cL cZ a_Z a_Z_vector a_Z_system a_Z_now a_Z_next a_Z_mono a_Z_degree a_Z_generator a_Z_hand a_Z_has a_Z_row a_Z_work a_Z_basis a_Z_rest a_Z_product a_Z_known a_Z_lead a_Z_tail a_Z_word A Z_thrownCode Z_p Z_n Z_order Z_monomials Z_generators Z_upTo Z_members Z_lefts Z_vars Z_leadsFound Z_words Z_vector Z_now r_ Z_system_r Z_next_r 217 [(0, .ref a_Z), (1, .int i1), (2, .int i2), (3, .int i3), (5, .long l5), (7, .int i7)] [] Z_system Z_next := by
  intro n
  induction n with
  | zero => intro i1 i2 i3 l5 i7 Z_system Z_next hrun; cases hrun
  | succ n ih =>
    intro i1 i2 i3 l5 i7 Z_system Z_next hrun
    exact w_zsolved_217 X D cI cL cZ a_Z a_Z_vector a_Z_system a_Z_now a_Z_next a_Z_mono a_Z_degree a_Z_generator a_Z_hand a_Z_has a_Z_row a_Z_work a_Z_basis a_Z_rest a_Z_product a_Z_known a_Z_lead a_Z_tail a_Z_word A Z_thrownCode Z_p Z_n Z_order Z_monomials Z_generators Z_upTo Z_members Z_lefts Z_vars Z_leadsFound Z_words Z_vector Z_now r_ Z_system_r Z_next_r F C0 hK hA hN k83 hk83 (b_zsolved_217 F Z_lefts Z_p Z_words Z_vector Z_now k83 n) ih i1 i2 i3 l5 i7 Z_system Z_next hrun
set_option maxHeartbeats 4000000 in
set_option maxRecDepth 100000 in
theorem w_zsolved_135 (X : gX) (D : va_G) (cI cL cZ : ClassId) (a_Z a_Z_vector a_Z_system a_Z_now a_Z_next a_Z_mono a_Z_degree a_Z_generator a_Z_hand a_Z_has a_Z_row a_Z_work a_Z_basis a_Z_rest a_Z_product a_Z_known a_Z_lead a_Z_tail a_Z_word : Nat) (A : Nat → Prop) (Z_thrownCode Z_p Z_n Z_order Z_monomials Z_generators Z_upTo Z_members Z_lefts Z_vars Z_leadsFound Z_words : Int32) (Z_vector Z_now : Nat → Int32) (r_ : Int32) (Z_system_r Z_next_r : Nat → Int32) (F : Nat) (C0 : gC X c_Z_solvedb (some .boolean) 11 "RemnantDictionaryModel" gAll) (hK : va_K D classes (gT cI cL cZ) (gs X)) (hA : ∀ q : Nat, (gs X).heap.size ≤ q → A q) (hN : gN (gs X)) (k83 : Int32 → Int32 → Int32 → (Nat → Int32) → (Nat → Int32) → Option (Int32 × (Nat → Int32) × (Nat → Int32))) (hk83 : ∀ (i1 i2 i3 : Int32) (Z_system Z_next : Nat → Int32), k83 i1 i2 i3 Z_system Z_next = some (r_, Z_system_r, Z_next_r) → g_zsolved X D cI cL cZ a_Z a_Z_vector a_Z_system a_Z_now a_Z_next a_Z_mono a_Z_degree a_Z_generator a_Z_hand a_Z_has a_Z_row a_Z_work a_Z_basis a_Z_rest a_Z_product a_Z_known a_Z_lead a_Z_tail a_Z_word A Z_thrownCode Z_p Z_n Z_order Z_monomials Z_generators Z_upTo Z_members Z_lefts Z_vars Z_leadsFound Z_words Z_vector Z_now r_ Z_system_r Z_next_r 83 [(0, .ref a_Z), (1, .int i1), (2, .int i2), (3, .int i3)] [] Z_system Z_next) (k135 : Int32 → Int32 → Int32 → Int32 → Int32 → (Nat → Int32) → (Nat → Int32) → Option (Int32 × (Nat → Int32) × (Nat → Int32))) (hk135 : ∀ (i1 i2 i3 i4 i5 : Int32) (Z_system Z_next : Nat → Int32), k135 i1 i2 i3 i4 i5 Z_system Z_next = some (r_, Z_system_r, Z_next_r) → g_zsolved X D cI cL cZ a_Z a_Z_vector a_Z_system a_Z_now a_Z_next a_Z_mono a_Z_degree a_Z_generator a_Z_hand a_Z_has a_Z_row a_Z_work a_Z_basis a_Z_rest a_Z_product a_Z_known a_Z_lead a_Z_tail a_Z_word A Z_thrownCode Z_p Z_n Z_order Z_monomials Z_generators Z_upTo Z_members Z_lefts Z_vars Z_leadsFound Z_words Z_vector Z_now r_ Z_system_r Z_next_r 135 [(0, .ref a_Z), (1, .int i1), (2, .int i2), (3, .int i3), (4, .int i4), (5, .int i5)] [] Z_system Z_next) (i1 i2 i3 i4 i5 : Int32) (Z_system Z_next : Nat → Int32) (hrun : s_zsolved_135 F Z_lefts Z_p Z_words Z_vector Z_now k83 k135 i1 i2 i3 i4 i5 Z_system Z_next = some (r_, Z_system_r, Z_next_r)) : g_zsolved X D cI cL cZ a_Z a_Z_vector a_Z_system a_Z_now a_Z_next a_Z_mono a_Z_degree a_Z_generator a_Z_hand a_Z_has a_Z_row a_Z_work a_Z_basis a_Z_rest a_Z_product a_Z_known a_Z_lead a_Z_tail a_Z_word A Z_thrownCode Z_p Z_n Z_order Z_monomials Z_generators Z_upTo Z_members Z_lefts Z_vars Z_leadsFound Z_words Z_vector Z_now r_ Z_system_r Z_next_r 135 [(0, .ref a_Z), (1, .int i1), (2, .int i2), (3, .int i3), (4, .int i4), (5, .int i5)] [] Z_system Z_next := by
  have C1 := C0
  obtain ⟨hx, hb, hr, hml, hown, hts, hlocks⟩ := C1
  unfold s_zsolved_135 at hrun
  intro H locs ls hP hD hS hl
  refine lv_iload hx hb d_Z_solved_135 (lv_at hl 5 rfl) ?_
  refine lv_iload_n hx hb d_Z_solved_137 rfl (lv_at hl 1 rfl) ?_
  refine g_icmp_ge (tgt := 197) hx hb d_Z_solved_138 (by decide) hrun (fun _ hrun => ?_) (fun _ hrun => ?_)
  · refine lv_aload_n hx hb d_Z_solved_197 rfl (lv_at hl 0 rfl) ?_
    refine lv_aload_n hx hb d_Z_solved_198 rfl (lv_at hl 0 rfl) ?_
    refine va_get (D := D) (ci := 5) (v := .ref a_Z_system) (C := "RemnantDictionaryModel") (T := T_Z) (N := 30) hx hb hts iw_Z hown hK hP 0 rfl rfl 27 (by decide) (hts _ k_466) (fun _ h9 => h9) rfl d_Z_solved_199 ?_
    refine lv_iload_n hx hb d_Z_solved_202 rfl (lv_at hl 1 rfl) ?_
    refine lv_iload_n hx hb d_Z_solved_203 rfl (lv_at hl 2 rfl) ?_
    refine lv_imul hx hb d_Z_solved_204 ?_
    refine lv_iload_n hx hb d_Z_solved_205 rfl (lv_at hl 3 rfl) ?_
    refine lv_iadd hx hb d_Z_solved_206 ?_
    refine g_iald hx hb hK hP 2 0 rfl rfl hrun d_Z_solved_207 (fun x_1 hrun => ?_)
    obtain ⟨r_2, hc, hrun⟩ := bd1_s hrun
    refine vp_callSi (W.runV (As := [.int x_1]) (rest := []) ⟨hx, hb, hml, hown, hts⟩ (c_zinverse (gl X) D cI cL cZ a_Z a_Z_mono a_Z_degree a_Z_generator a_Z_hand a_Z_has a_Z_row a_Z_work a_Z_basis a_Z_rest a_Z_product a_Z_known a_Z_lead a_Z_tail a_Z_word a_Z_vector a_Z_system a_Z_now a_Z_next F Z_thrownCode Z_p Z_n Z_order Z_monomials Z_generators Z_upTo Z_members Z_lefts Z_vars Z_leadsFound Z_words x_1 r_2 hc) (cwV 1 hts (gwV k_405 k_403 k_404 k_333 k_390) rfl rfl rfl (by decide +kernel) ⟨Nat.le_of_ble_eq_true rfl, Nat.le_of_ble_eq_true rfl⟩) (gpreV (hP.sub (ws' := (ws_zinverse a_Z a_Z_mono a_Z_degree a_Z_generator a_Z_hand a_Z_has a_Z_row a_Z_work a_Z_basis a_Z_rest a_Z_product a_Z_known a_Z_lead a_Z_tail a_Z_word a_Z_vector a_Z_system a_Z_now a_Z_next cI cL cZ Z_thrownCode Z_p Z_n Z_order Z_monomials Z_generators Z_upTo Z_members Z_lefts Z_vars Z_leadsFound Z_words)) [0] rfl) hK hN 5 0 rfl rfl) rfl rfl hl.1 rfl (lv_room (Nat.le_of_ble_eq_true rfl)) d_Z_solved_208 ⟨Nat.le_of_ble_eq_true rfl, Nat.le_of_ble_eq_true rfl⟩) (nm_e ?_)
    refine lv_i2l hx hb d_Z_solved_211 rfl ?_
    refine lv_lstore (lv' := [(5, .long r_2.toInt64), (0, .ref a_Z), (1, .int i1), (2, .int i2), (3, .int i3), (4, .int i4)]) hx hb d_Z_solved_212 hl (by decide) rfl (fun ls hl => ?_)
    refine lv_iconst (v := 0) hx hb d_Z_solved_214 (by decide) ?_
    refine lv_istore (lv' := [(7, .int 0), (5, .long r_2.toInt64), (0, .ref a_Z), (1, .int i1), (2, .int i2), (3, .int i3), (4, .int i4)]) hx hb d_Z_solved_215 hl (by decide) rfl (fun ls hl => ?_)
    exact v_zsolved_217 X D cI cL cZ a_Z a_Z_vector a_Z_system a_Z_now a_Z_next a_Z_mono a_Z_degree a_Z_generator a_Z_hand a_Z_has a_Z_row a_Z_work a_Z_basis a_Z_rest a_Z_product a_Z_known a_Z_lead a_Z_tail a_Z_word A Z_thrownCode Z_p Z_n Z_order Z_monomials Z_generators Z_upTo Z_members Z_lefts Z_vars Z_leadsFound Z_words Z_vector Z_now r_ Z_system_r Z_next_r F C0 hK hA hN k83 hk83 F i1 i2 i3 r_2.toInt64 0 Z_system Z_next hrun H locs ls hP hD hS (lv_sub hl [2, 3, 4, 5, 1, 0] rfl)
  · refine lv_aload_n hx hb d_Z_solved_141 rfl (lv_at hl 0 rfl) ?_
    refine va_get (D := D) (ci := 5) (v := .ref a_Z_system) (C := "RemnantDictionaryModel") (T := T_Z) (N := 30) hx hb hts iw_Z hown hK hP 0 rfl rfl 27 (by decide) (hts _ k_466) (fun _ h9 => h9) rfl d_Z_solved_142 ?_
    refine lv_iload_n hx hb d_Z_solved_145 rfl (lv_at hl 1 rfl) ?_
    refine lv_iload hx hb d_Z_solved_146 (lv_at hl 4 rfl) ?_
    refine lv_imul hx hb d_Z_solved_148 ?_
    refine lv_iload hx hb d_Z_solved_149 (lv_at hl 5 rfl) ?_
    refine lv_iadd hx hb d_Z_solved_151 ?_
    refine g_iald hx hb hK hP 2 0 rfl rfl hrun d_Z_solved_152 (fun x_3 hrun => ?_)
    refine lv_istore (lv' := [(6, .int x_3), (0, .ref a_Z), (1, .int i1), (2, .int i2), (3, .int i3), (4, .int i4), (5, .int i5)]) hx hb d_Z_solved_153 hl (by decide) rfl (fun ls hl => ?_)
    refine lv_aload_n hx hb d_Z_solved_155 rfl (lv_at hl 1 rfl) ?_
    refine va_get (D := D) (ci := 5) (v := .ref a_Z_system) (C := "RemnantDictionaryModel") (T := T_Z) (N := 30) hx hb hts iw_Z hown hK hP 0 rfl rfl 27 (by decide) (hts _ k_466) (fun _ h9 => h9) rfl d_Z_solved_156 ?_
    refine lv_iload_n hx hb d_Z_solved_159 rfl (lv_at hl 2 rfl) ?_
    refine lv_iload hx hb d_Z_solved_160 (lv_at hl 5 rfl) ?_
    refine lv_imul hx hb d_Z_solved_162 ?_
    refine lv_iload hx hb d_Z_solved_163 (lv_at hl 6 rfl) ?_
    refine lv_iadd hx hb d_Z_solved_165 ?_
    refine lv_aload_n hx hb d_Z_solved_166 rfl (lv_at hl 1 rfl) ?_
    refine va_get (D := D) (ci := 5) (v := .ref a_Z_system) (C := "RemnantDictionaryModel") (T := T_Z) (N := 30) hx hb hts iw_Z hown hK hP 0 rfl rfl 27 (by decide) (hts _ k_466) (fun _ h9 => h9) rfl d_Z_solved_167 ?_
    refine lv_iload_n hx hb d_Z_solved_170 rfl (lv_at hl 2 rfl) ?_
    refine lv_iload_n hx hb d_Z_solved_171 rfl (lv_at hl 3 rfl) ?_
    refine lv_imul hx hb d_Z_solved_172 ?_
    refine lv_iload hx hb d_Z_solved_173 (lv_at hl 6 rfl) ?_
    refine lv_iadd hx hb d_Z_solved_175 ?_
    refine g_iald hx hb hK hP 2 0 rfl rfl hrun d_Z_solved_176 (fun x_4 hrun => ?_)
    refine g_iast hx hb hK hP hD hS 2 0 rfl rfl hrun d_Z_solved_177 (fun Z_system_5 hrun H locs (hP : va_P D classes (ws_zsolved a_Z a_Z_vector a_Z_system a_Z_now a_Z_next a_Z_mono a_Z_degree a_Z_generator a_Z_hand a_Z_has a_Z_row a_Z_work a_Z_basis a_Z_rest a_Z_product a_Z_known a_Z_lead a_Z_tail a_Z_word cI cL cZ Z_thrownCode Z_p Z_n Z_order Z_monomials Z_generators Z_upTo Z_members Z_lefts Z_vars Z_leadsFound Z_words Z_vector Z_system_5 Z_now Z_next) H) (hD : va_D A (ws_zsolved a_Z a_Z_vector a_Z_system a_Z_now a_Z_next a_Z_mono a_Z_degree a_Z_generator a_Z_hand a_Z_has a_Z_row a_Z_work a_Z_basis a_Z_rest a_Z_product a_Z_known a_Z_lead a_Z_tail a_Z_word cI cL cZ Z_thrownCode Z_p Z_n Z_order Z_monomials Z_generators Z_upTo Z_members Z_lefts Z_vars Z_leadsFound Z_words Z_vector Z_system_5 Z_now Z_next)) hS => ?_)
    refine lv_aload_n hx hb d_Z_solved_178 rfl (lv_at hl 1 rfl) ?_
    refine va_get (D := D) (ci := 5) (v := .ref a_Z_system) (C := "RemnantDictionaryModel") (T := T_Z) (N := 30) hx hb hts iw_Z hown hK hP 0 rfl rfl 27 (by decide) (hts _ k_466) (fun _ h9 => h9) rfl d_Z_solved_179 ?_
    refine lv_iload_n hx hb d_Z_solved_182 rfl (lv_at hl 2 rfl) ?_
    refine lv_iload_n hx hb d_Z_solved_183 rfl (lv_at hl 3 rfl) ?_
    refine lv_imul hx hb d_Z_solved_184 ?_
    refine lv_iload hx hb d_Z_solved_185 (lv_at hl 6 rfl) ?_
    refine lv_iadd hx hb d_Z_solved_187 ?_
    refine lv_iload hx hb d_Z_solved_188 (lv_at hl 0 rfl) ?_
    refine g_iast hx hb hK hP hD hS 2 0 rfl rfl hrun d_Z_solved_190 (fun Z_system_6 hrun H locs (hP : va_P D classes (ws_zsolved a_Z a_Z_vector a_Z_system a_Z_now a_Z_next a_Z_mono a_Z_degree a_Z_generator a_Z_hand a_Z_has a_Z_row a_Z_work a_Z_basis a_Z_rest a_Z_product a_Z_known a_Z_lead a_Z_tail a_Z_word cI cL cZ Z_thrownCode Z_p Z_n Z_order Z_monomials Z_generators Z_upTo Z_members Z_lefts Z_vars Z_leadsFound Z_words Z_vector Z_system_6 Z_now Z_next) H) (hD : va_D A (ws_zsolved a_Z a_Z_vector a_Z_system a_Z_now a_Z_next a_Z_mono a_Z_degree a_Z_generator a_Z_hand a_Z_has a_Z_row a_Z_work a_Z_basis a_Z_rest a_Z_product a_Z_known a_Z_lead a_Z_tail a_Z_word cI cL cZ Z_thrownCode Z_p Z_n Z_order Z_monomials Z_generators Z_upTo Z_members Z_lefts Z_vars Z_leadsFound Z_words Z_vector Z_system_6 Z_now Z_next)) hS => ?_)
    refine lv_iinc (v := (i5 + 1)) (lv' := [(5, .int (i5 + 1)), (6, .int x_3), (0, .ref a_Z), (1, .int i1), (2, .int i2), (3, .int i3), (4, .int i4)]) hx hb d_Z_solved_191 hl (k := 6) rfl rfl (by decide) rfl (fun ls hl => ?_)
    refine lv_goto (tgt := 135) hx hb d_Z_solved_194 (by decide) ?_
    exact hk135 i1 i2 i3 i4 (i5 + 1) Z_system_6 Z_next hrun H locs ls hP hD hS (lv_sub hl [2, 3, 4, 5, 6, 0] rfl)
theorem v_zsolved_135 (X : gX) (D : va_G) (cI cL cZ : ClassId) (a_Z a_Z_vector a_Z_system a_Z_now a_Z_next a_Z_mono a_Z_degree a_Z_generator a_Z_hand a_Z_has a_Z_row a_Z_work a_Z_basis a_Z_rest a_Z_product a_Z_known a_Z_lead a_Z_tail a_Z_word : Nat) (A : Nat → Prop) (Z_thrownCode Z_p Z_n Z_order Z_monomials Z_generators Z_upTo Z_members Z_lefts Z_vars Z_leadsFound Z_words : Int32) (Z_vector Z_now : Nat → Int32) (r_ : Int32) (Z_system_r Z_next_r : Nat → Int32) (F : Nat) (C0 : gC X c_Z_solvedb (some .boolean) 11 "RemnantDictionaryModel" gAll) (hK : va_K D classes (gT cI cL cZ) (gs X)) (hA : ∀ q : Nat, (gs X).heap.size ≤ q → A q) (hN : gN (gs X)) (k83 : Int32 → Int32 → Int32 → (Nat → Int32) → (Nat → Int32) → Option (Int32 × (Nat → Int32) × (Nat → Int32))) (hk83 : ∀ (i1 i2 i3 : Int32) (Z_system Z_next : Nat → Int32), k83 i1 i2 i3 Z_system Z_next = some (r_, Z_system_r, Z_next_r) → g_zsolved X D cI cL cZ a_Z a_Z_vector a_Z_system a_Z_now a_Z_next a_Z_mono a_Z_degree a_Z_generator a_Z_hand a_Z_has a_Z_row a_Z_work a_Z_basis a_Z_rest a_Z_product a_Z_known a_Z_lead a_Z_tail a_Z_word A Z_thrownCode Z_p Z_n Z_order Z_monomials Z_generators Z_upTo Z_members Z_lefts Z_vars Z_leadsFound Z_words Z_vector Z_now r_ Z_system_r Z_next_r 83 [(0, .ref a_Z), (1, .int i1), (2, .int i2), (3, .int i3)] [] Z_system Z_next) : ∀ (n : Nat) (i1 i2 i3 i4 i5 : Int32) (Z_system Z_next : Nat → Int32), b_zsolved_135 F Z_lefts Z_p Z_words Z_vector Z_now k83 n i1 i2 i3 i4 i5 Z_system Z_next = some (r_, Z_system_r, Z_next_r) → g_zsolved X D cI cL cZ a_Z a_Z_vector a_Z_system a_Z_now a_Z_next a_Z_mono a_Z_degree a_Z_generator a_Z_hand a_Z_has a_Z_row a_Z_work a_Z_basis a_Z_rest a_Z_product a_Z_known a_Z_lead a_Z_tail a_Z_word A Z_thrownCode Z_p Z_n Z_order Z_monomials Z_generators Z_upTo Z_members Z_lefts Z_vars Z_leadsFound Z_words Z_vector Z_now r_ Z_system_r Z_next_r 135 [(0, .ref a_Z), (1, .int i1), (2, .int i2), (3, .int i3), (4, .int i4), (5, .int i5)] [] Z_system Z_next := by
  intro n
  induction n with
  | zero => intro i1 i2 i3 i4 i5 Z_system Z_next hrun; cases hrun
  | succ n ih =>
    intro i1 i2 i3 i4 i5 Z_system Z_next hrun
    exact w_zsolved_135 X D cI cL cZ a_Z a_Z_vector a_Z_system a_Z_now a_Z_next a_Z_mono a_Z_degree a_Z_generator a_Z_hand a_Z_has a_Z_row a_Z_work a_Z_basis a_Z_rest a_Z_product a_Z_known a_Z_lead a_Z_tail a_Z_word A Z_thrownCode Z_p Z_n Z_order Z_monomials Z_generators Z_upTo Z_members Z_lefts Z_vars Z_leadsFound Z_words Z_vector Z_now r_ Z_system_r Z_next_r F C0 hK hA hN k83 hk83 (b_zsolved_135 F Z_lefts Z_p Z_words Z_vector Z_now k83 n) ih i1 i2 i3 i4 i5 Z_system Z_next hrun
set_option maxHeartbeats 4000000 in
set_option maxRecDepth 100000 in
theorem w_zsolved_123 (X : gX) (D : va_G) (cI cL cZ : ClassId) (a_Z a_Z_vector a_Z_system a_Z_now a_Z_next a_Z_mono a_Z_degree a_Z_generator a_Z_hand a_Z_has a_Z_row a_Z_work a_Z_basis a_Z_rest a_Z_product a_Z_known a_Z_lead a_Z_tail a_Z_word : Nat) (A : Nat → Prop) (Z_thrownCode Z_p Z_n Z_order Z_monomials Z_generators Z_upTo Z_members Z_lefts Z_vars Z_leadsFound Z_words : Int32) (Z_vector Z_now : Nat → Int32) (r_ : Int32) (Z_system_r Z_next_r : Nat → Int32) (F : Nat) (C0 : gC X c_Z_solvedb (some .boolean) 11 "RemnantDictionaryModel" gAll) (hK : va_K D classes (gT cI cL cZ) (gs X)) (hA : ∀ q : Nat, (gs X).heap.size ≤ q → A q) (hN : gN (gs X)) (k83 : Int32 → Int32 → Int32 → (Nat → Int32) → (Nat → Int32) → Option (Int32 × (Nat → Int32) × (Nat → Int32))) (hk83 : ∀ (i1 i2 i3 : Int32) (Z_system Z_next : Nat → Int32), k83 i1 i2 i3 Z_system Z_next = some (r_, Z_system_r, Z_next_r) → g_zsolved X D cI cL cZ a_Z a_Z_vector a_Z_system a_Z_now a_Z_next a_Z_mono a_Z_degree a_Z_generator a_Z_hand a_Z_has a_Z_row a_Z_work a_Z_basis a_Z_rest a_Z_product a_Z_known a_Z_lead a_Z_tail a_Z_word A Z_thrownCode Z_p Z_n Z_order Z_monomials Z_generators Z_upTo Z_members Z_lefts Z_vars Z_leadsFound Z_words Z_vector Z_now r_ Z_system_r Z_next_r 83 [(0, .ref a_Z), (1, .int i1), (2, .int i2), (3, .int i3)] [] Z_system Z_next) (i1 i2 i3 i4 : Int32) (Z_system Z_next : Nat → Int32) (hrun : s_zsolved_123 F Z_lefts Z_p Z_words Z_vector Z_now k83 i1 i2 i3 i4 Z_system Z_next = some (r_, Z_system_r, Z_next_r)) : g_zsolved X D cI cL cZ a_Z a_Z_vector a_Z_system a_Z_now a_Z_next a_Z_mono a_Z_degree a_Z_generator a_Z_hand a_Z_has a_Z_row a_Z_work a_Z_basis a_Z_rest a_Z_product a_Z_known a_Z_lead a_Z_tail a_Z_word A Z_thrownCode Z_p Z_n Z_order Z_monomials Z_generators Z_upTo Z_members Z_lefts Z_vars Z_leadsFound Z_words Z_vector Z_now r_ Z_system_r Z_next_r 123 [(0, .ref a_Z), (1, .int i1), (2, .int i2), (3, .int i3), (4, .int i4)] [] Z_system Z_next := by
  have C1 := C0
  obtain ⟨hx, hb, hr, hml, hown, hts, hlocks⟩ := C1
  unfold s_zsolved_123 at hrun
  intro H locs ls hP hD hS hl
  refine lv_iload hx hb d_Z_solved_123 (lv_at hl 4 rfl) ?_
  refine lv_aload_n hx hb d_Z_solved_125 rfl (lv_at hl 0 rfl) ?_
  refine va_get (D := D) (ci := 5) (v := .int Z_lefts) (C := "RemnantDictionaryModel") (T := T_Z) (N := 30) hx hb hts iw_Z hown hK hP 0 rfl rfl 16 (by decide) (hts _ k_445) (fun _ h9 => h9) rfl d_Z_solved_126 ?_
  refine g_icmp_ge (tgt := 382) hx hb d_Z_solved_129 (by decide) hrun (fun _ hrun => ?_) (fun _ hrun => ?_)
  · refine lv_iinc (v := (i3 + 1)) (lv' := [(3, .int (i3 + 1)), (0, .ref a_Z), (1, .int i1), (2, .int i2), (4, .int i4)]) hx hb d_Z_solved_382 hl (k := 3) rfl rfl (by decide) rfl (fun ls hl => ?_)
    refine lv_goto (tgt := 83) hx hb d_Z_solved_385 (by decide) ?_
    exact hk83 i1 i2 (i3 + 1) Z_system Z_next hrun H locs ls hP hD hS (lv_sub hl [1, 2, 3, 0] rfl)
  · refine lv_iconst (v := 0) hx hb d_Z_solved_132 (by decide) ?_
    refine lv_istore (lv' := [(5, .int 0), (0, .ref a_Z), (1, .int i1), (2, .int i2), (3, .int i3), (4, .int i4)]) hx hb d_Z_solved_133 hl (by decide) rfl (fun ls hl => ?_)
    exact v_zsolved_135 X D cI cL cZ a_Z a_Z_vector a_Z_system a_Z_now a_Z_next a_Z_mono a_Z_degree a_Z_generator a_Z_hand a_Z_has a_Z_row a_Z_work a_Z_basis a_Z_rest a_Z_product a_Z_known a_Z_lead a_Z_tail a_Z_word A Z_thrownCode Z_p Z_n Z_order Z_monomials Z_generators Z_upTo Z_members Z_lefts Z_vars Z_leadsFound Z_words Z_vector Z_now r_ Z_system_r Z_next_r F C0 hK hA hN k83 hk83 F i1 i2 i3 i4 0 Z_system Z_next hrun H locs ls hP hD hS (lv_sub hl [1, 2, 3, 4, 5, 0] rfl)
set_option maxHeartbeats 4000000 in
set_option maxRecDepth 100000 in
theorem w_zsolved_94 (X : gX) (D : va_G) (cI cL cZ : ClassId) (a_Z a_Z_vector a_Z_system a_Z_now a_Z_next a_Z_mono a_Z_degree a_Z_generator a_Z_hand a_Z_has a_Z_row a_Z_work a_Z_basis a_Z_rest a_Z_product a_Z_known a_Z_lead a_Z_tail a_Z_word : Nat) (A : Nat → Prop) (Z_thrownCode Z_p Z_n Z_order Z_monomials Z_generators Z_upTo Z_members Z_lefts Z_vars Z_leadsFound Z_words : Int32) (Z_vector Z_now : Nat → Int32) (r_ : Int32) (Z_system_r Z_next_r : Nat → Int32) (F : Nat) (C0 : gC X c_Z_solvedb (some .boolean) 11 "RemnantDictionaryModel" gAll) (hK : va_K D classes (gT cI cL cZ) (gs X)) (hA : ∀ q : Nat, (gs X).heap.size ≤ q → A q) (hN : gN (gs X)) (k83 : Int32 → Int32 → Int32 → (Nat → Int32) → (Nat → Int32) → Option (Int32 × (Nat → Int32) × (Nat → Int32))) (hk83 : ∀ (i1 i2 i3 : Int32) (Z_system Z_next : Nat → Int32), k83 i1 i2 i3 Z_system Z_next = some (r_, Z_system_r, Z_next_r) → g_zsolved X D cI cL cZ a_Z a_Z_vector a_Z_system a_Z_now a_Z_next a_Z_mono a_Z_degree a_Z_generator a_Z_hand a_Z_has a_Z_row a_Z_work a_Z_basis a_Z_rest a_Z_product a_Z_known a_Z_lead a_Z_tail a_Z_word A Z_thrownCode Z_p Z_n Z_order Z_monomials Z_generators Z_upTo Z_members Z_lefts Z_vars Z_leadsFound Z_words Z_vector Z_now r_ Z_system_r Z_next_r 83 [(0, .ref a_Z), (1, .int i1), (2, .int i2), (3, .int i3)] [] Z_system Z_next) (k94 : Int32 → Int32 → Int32 → Int32 → (Nat → Int32) → (Nat → Int32) → Option (Int32 × (Nat → Int32) × (Nat → Int32))) (hk94 : ∀ (i1 i2 i3 i4 : Int32) (Z_system Z_next : Nat → Int32), k94 i1 i2 i3 i4 Z_system Z_next = some (r_, Z_system_r, Z_next_r) → g_zsolved X D cI cL cZ a_Z a_Z_vector a_Z_system a_Z_now a_Z_next a_Z_mono a_Z_degree a_Z_generator a_Z_hand a_Z_has a_Z_row a_Z_work a_Z_basis a_Z_rest a_Z_product a_Z_known a_Z_lead a_Z_tail a_Z_word A Z_thrownCode Z_p Z_n Z_order Z_monomials Z_generators Z_upTo Z_members Z_lefts Z_vars Z_leadsFound Z_words Z_vector Z_now r_ Z_system_r Z_next_r 94 [(0, .ref a_Z), (1, .int i1), (2, .int i2), (3, .int i3), (4, .int i4)] [] Z_system Z_next) (i1 i2 i3 i4 : Int32) (Z_system Z_next : Nat → Int32) (hrun : s_zsolved_94 F Z_lefts Z_p Z_words Z_vector Z_now k83 k94 i1 i2 i3 i4 Z_system Z_next = some (r_, Z_system_r, Z_next_r)) : g_zsolved X D cI cL cZ a_Z a_Z_vector a_Z_system a_Z_now a_Z_next a_Z_mono a_Z_degree a_Z_generator a_Z_hand a_Z_has a_Z_row a_Z_work a_Z_basis a_Z_rest a_Z_product a_Z_known a_Z_lead a_Z_tail a_Z_word A Z_thrownCode Z_p Z_n Z_order Z_monomials Z_generators Z_upTo Z_members Z_lefts Z_vars Z_leadsFound Z_words Z_vector Z_now r_ Z_system_r Z_next_r 94 [(0, .ref a_Z), (1, .int i1), (2, .int i2), (3, .int i3), (4, .int i4)] [] Z_system Z_next := by
  have C1 := C0
  obtain ⟨hx, hb, hr, hml, hown, hts, hlocks⟩ := C1
  unfold s_zsolved_94 at hrun
  intro H locs ls hP hD hS hl
  refine lv_iload hx hb d_Z_solved_94 (lv_at hl 4 rfl) ?_
  refine lv_aload_n hx hb d_Z_solved_96 rfl (lv_at hl 0 rfl) ?_
  refine va_get (D := D) (ci := 5) (v := .int Z_lefts) (C := "RemnantDictionaryModel") (T := T_Z) (N := 30) hx hb hts iw_Z hown hK hP 0 rfl rfl 16 (by decide) (hts _ k_445) (fun _ h9 => h9) rfl d_Z_solved_97 ?_
  refine g_icmp_ge (tgt := 123) hx hb d_Z_solved_100 (by decide) hrun (fun _ hrun => ?_) (fun _ hrun => ?_)
  · exact w_zsolved_123 X D cI cL cZ a_Z a_Z_vector a_Z_system a_Z_now a_Z_next a_Z_mono a_Z_degree a_Z_generator a_Z_hand a_Z_has a_Z_row a_Z_work a_Z_basis a_Z_rest a_Z_product a_Z_known a_Z_lead a_Z_tail a_Z_word A Z_thrownCode Z_p Z_n Z_order Z_monomials Z_generators Z_upTo Z_members Z_lefts Z_vars Z_leadsFound Z_words Z_vector Z_now r_ Z_system_r Z_next_r F C0 hK hA hN k83 hk83 i1 i2 i3 i4 Z_system Z_next hrun H locs ls hP hD hS (lv_sub hl [0, 1, 2, 3, 4] rfl)
  · refine lv_aload_n hx hb d_Z_solved_103 rfl (lv_at hl 0 rfl) ?_
    refine va_get (D := D) (ci := 5) (v := .ref a_Z_system) (C := "RemnantDictionaryModel") (T := T_Z) (N := 30) hx hb hts iw_Z hown hK hP 0 rfl rfl 27 (by decide) (hts _ k_466) (fun _ h9 => h9) rfl d_Z_solved_104 ?_
    refine lv_iload_n hx hb d_Z_solved_107 rfl (lv_at hl 1 rfl) ?_
    refine lv_iload hx hb d_Z_solved_108 (lv_at hl 4 rfl) ?_
    refine lv_imul hx hb d_Z_solved_110 ?_
    refine lv_iload_n hx hb d_Z_solved_111 rfl (lv_at hl 3 rfl) ?_
    refine lv_iadd hx hb d_Z_solved_112 ?_
    refine g_iald hx hb hK hP 2 0 rfl rfl hrun d_Z_solved_113 (fun x_1 hrun => ?_)
    refine g_if_ne (tgt := 123) hx hb d_Z_solved_114 (by decide) hrun (fun _ hrun => ?_) (fun _ hrun => ?_)
    · exact w_zsolved_123 X D cI cL cZ a_Z a_Z_vector a_Z_system a_Z_now a_Z_next a_Z_mono a_Z_degree a_Z_generator a_Z_hand a_Z_has a_Z_row a_Z_work a_Z_basis a_Z_rest a_Z_product a_Z_known a_Z_lead a_Z_tail a_Z_word A Z_thrownCode Z_p Z_n Z_order Z_monomials Z_generators Z_upTo Z_members Z_lefts Z_vars Z_leadsFound Z_words Z_vector Z_now r_ Z_system_r Z_next_r F C0 hK hA hN k83 hk83 i1 i2 i3 i4 Z_system Z_next hrun H locs ls hP hD hS (lv_sub hl [0, 1, 2, 3, 4] rfl)
    · refine lv_iinc (v := (i4 + 1)) (lv' := [(4, .int (i4 + 1)), (0, .ref a_Z), (1, .int i1), (2, .int i2), (3, .int i3)]) hx hb d_Z_solved_117 hl (k := 4) rfl rfl (by decide) rfl (fun ls hl => ?_)
      refine lv_goto (tgt := 94) hx hb d_Z_solved_120 (by decide) ?_
      exact hk94 i1 i2 i3 (i4 + 1) Z_system Z_next hrun H locs ls hP hD hS (lv_sub hl [1, 2, 3, 4, 0] rfl)
theorem v_zsolved_94 (X : gX) (D : va_G) (cI cL cZ : ClassId) (a_Z a_Z_vector a_Z_system a_Z_now a_Z_next a_Z_mono a_Z_degree a_Z_generator a_Z_hand a_Z_has a_Z_row a_Z_work a_Z_basis a_Z_rest a_Z_product a_Z_known a_Z_lead a_Z_tail a_Z_word : Nat) (A : Nat → Prop) (Z_thrownCode Z_p Z_n Z_order Z_monomials Z_generators Z_upTo Z_members Z_lefts Z_vars Z_leadsFound Z_words : Int32) (Z_vector Z_now : Nat → Int32) (r_ : Int32) (Z_system_r Z_next_r : Nat → Int32) (F : Nat) (C0 : gC X c_Z_solvedb (some .boolean) 11 "RemnantDictionaryModel" gAll) (hK : va_K D classes (gT cI cL cZ) (gs X)) (hA : ∀ q : Nat, (gs X).heap.size ≤ q → A q) (hN : gN (gs X)) (k83 : Int32 → Int32 → Int32 → (Nat → Int32) → (Nat → Int32) → Option (Int32 × (Nat → Int32) × (Nat → Int32))) (hk83 : ∀ (i1 i2 i3 : Int32) (Z_system Z_next : Nat → Int32), k83 i1 i2 i3 Z_system Z_next = some (r_, Z_system_r, Z_next_r) → g_zsolved X D cI cL cZ a_Z a_Z_vector a_Z_system a_Z_now a_Z_next a_Z_mono a_Z_degree a_Z_generator a_Z_hand a_Z_has a_Z_row a_Z_work a_Z_basis a_Z_rest a_Z_product a_Z_known a_Z_lead a_Z_tail a_Z_word A Z_thrownCode Z_p Z_n Z_order Z_monomials Z_generators Z_upTo Z_members Z_lefts Z_vars Z_leadsFound Z_words Z_vector Z_now r_ Z_system_r Z_next_r 83 [(0, .ref a_Z), (1, .int i1), (2, .int i2), (3, .int i3)] [] Z_system Z_next) : ∀ (n : Nat) (i1 i2 i3 i4 : Int32) (Z_system Z_next : Nat → Int32), b_zsolved_94 F Z_lefts Z_p Z_words Z_vector Z_now k83 n i1 i2 i3 i4 Z_system Z_next = some (r_, Z_system_r, Z_next_r) → g_zsolved X D cI cL cZ a_Z a_Z_vector a_Z_system a_Z_now a_Z_next a_Z_mono a_Z_degree a_Z_generator a_Z_hand a_Z_has a_Z_row a_Z_work a_Z_basis a_Z_rest a_Z_product a_Z_known a_Z_lead a_Z_tail a_Z_word A Z_thrownCode Z_p Z_n Z_order Z_monomials Z_generators Z_upTo Z_members Z_lefts Z_vars Z_leadsFound Z_words Z_vector Z_now r_ Z_system_r Z_next_r 94 [(0, .ref a_Z), (1, .int i1), (2, .int i2), (3, .int i3), (4, .int i4)] [] Z_system Z_next := by
  intro n
  induction n with
  | zero => intro i1 i2 i3 i4 Z_system Z_next hrun; cases hrun
  | succ n ih =>
    intro i1 i2 i3 i4 Z_system Z_next hrun
    exact w_zsolved_94 X D cI cL cZ a_Z a_Z_vector a_Z_system a_Z_now a_Z_next a_Z_mono a_Z_degree a_Z_generator a_Z_hand a_Z_has a_Z_row a_Z_work a_Z_basis a_Z_rest a_Z_product a_Z_known a_Z_lead a_Z_tail a_Z_word A Z_thrownCode Z_p Z_n Z_order Z_monomials Z_generators Z_upTo Z_members Z_lefts Z_vars Z_leadsFound Z_words Z_vector Z_now r_ Z_system_r Z_next_r F C0 hK hA hN k83 hk83 (b_zsolved_94 F Z_lefts Z_p Z_words Z_vector Z_now k83 n) ih i1 i2 i3 i4 Z_system Z_next hrun
set_option maxHeartbeats 4000000 in
set_option maxRecDepth 100000 in
theorem w_zsolved_83 (X : gX) (D : va_G) (cI cL cZ : ClassId) (a_Z a_Z_vector a_Z_system a_Z_now a_Z_next a_Z_mono a_Z_degree a_Z_generator a_Z_hand a_Z_has a_Z_row a_Z_work a_Z_basis a_Z_rest a_Z_product a_Z_known a_Z_lead a_Z_tail a_Z_word : Nat) (A : Nat → Prop) (Z_thrownCode Z_p Z_n Z_order Z_monomials Z_generators Z_upTo Z_members Z_lefts Z_vars Z_leadsFound Z_words : Int32) (Z_vector Z_now : Nat → Int32) (r_ : Int32) (Z_system_r Z_next_r : Nat → Int32) (F : Nat) (C0 : gC X c_Z_solvedb (some .boolean) 11 "RemnantDictionaryModel" gAll) (hK : va_K D classes (gT cI cL cZ) (gs X)) (hA : ∀ q : Nat, (gs X).heap.size ≤ q → A q) (hN : gN (gs X)) (k83 : Int32 → Int32 → Int32 → (Nat → Int32) → (Nat → Int32) → Option (Int32 × (Nat → Int32) × (Nat → Int32))) (hk83 : ∀ (i1 i2 i3 : Int32) (Z_system Z_next : Nat → Int32), k83 i1 i2 i3 Z_system Z_next = some (r_, Z_system_r, Z_next_r) → g_zsolved X D cI cL cZ a_Z a_Z_vector a_Z_system a_Z_now a_Z_next a_Z_mono a_Z_degree a_Z_generator a_Z_hand a_Z_has a_Z_row a_Z_work a_Z_basis a_Z_rest a_Z_product a_Z_known a_Z_lead a_Z_tail a_Z_word A Z_thrownCode Z_p Z_n Z_order Z_monomials Z_generators Z_upTo Z_members Z_lefts Z_vars Z_leadsFound Z_words Z_vector Z_now r_ Z_system_r Z_next_r 83 [(0, .ref a_Z), (1, .int i1), (2, .int i2), (3, .int i3)] [] Z_system Z_next) (i1 i2 i3 : Int32) (Z_system Z_next : Nat → Int32) (hrun : s_zsolved_83 F Z_lefts Z_p Z_words Z_vector Z_now k83 i1 i2 i3 Z_system Z_next = some (r_, Z_system_r, Z_next_r)) : g_zsolved X D cI cL cZ a_Z a_Z_vector a_Z_system a_Z_now a_Z_next a_Z_mono a_Z_degree a_Z_generator a_Z_hand a_Z_has a_Z_row a_Z_work a_Z_basis a_Z_rest a_Z_product a_Z_known a_Z_lead a_Z_tail a_Z_word A Z_thrownCode Z_p Z_n Z_order Z_monomials Z_generators Z_upTo Z_members Z_lefts Z_vars Z_leadsFound Z_words Z_vector Z_now r_ Z_system_r Z_next_r 83 [(0, .ref a_Z), (1, .int i1), (2, .int i2), (3, .int i3)] [] Z_system Z_next := by
  have C1 := C0
  obtain ⟨hx, hb, hr, hml, hown, hts, hlocks⟩ := C1
  unfold s_zsolved_83 at hrun
  intro H locs ls hP hD hS hl
  refine lv_iload_n hx hb d_Z_solved_83 rfl (lv_at hl 3 rfl) ?_
  refine lv_aload_n hx hb d_Z_solved_84 rfl (lv_at hl 0 rfl) ?_
  refine va_get (D := D) (ci := 5) (v := .int Z_words) (C := "RemnantDictionaryModel") (T := T_Z) (N := 30) hx hb hts iw_Z hown hK hP 0 rfl rfl 24 (by decide) (hts _ k_465) (fun _ h9 => h9) rfl d_Z_solved_85 ?_
  refine g_icmp_ge (tgt := 388) hx hb d_Z_solved_88 (by decide) hrun (fun _ hrun => ?_) (fun _ hrun => ?_)
  · refine lv_iload_n hx hb d_Z_solved_388 rfl (lv_at hl 2 rfl) ?_
    refine lv_istore_n (lv' := [(3, .int i2), (0, .ref a_Z), (1, .int i1), (2, .int i2)]) hx hb d_Z_solved_389 rfl hl (by decide) rfl (fun ls hl => ?_)
    exact v_zsolved_390 X D cI cL cZ a_Z a_Z_vector a_Z_system a_Z_now a_Z_next a_Z_mono a_Z_degree a_Z_generator a_Z_hand a_Z_has a_Z_row a_Z_work a_Z_basis a_Z_rest a_Z_product a_Z_known a_Z_lead a_Z_tail a_Z_word A Z_thrownCode Z_p Z_n Z_order Z_monomials Z_generators Z_upTo Z_members Z_lefts Z_vars Z_leadsFound Z_words Z_vector Z_now r_ Z_system_r Z_next_r F C0 hK hA hN  F i1 i2 Z_system Z_next hrun H locs ls hP hD hS (lv_sub hl [1, 2, 0] rfl)
  · refine lv_iload_n hx hb d_Z_solved_91 rfl (lv_at hl 2 rfl) ?_
    refine lv_istore (lv' := [(4, .int i2), (0, .ref a_Z), (1, .int i1), (2, .int i2), (3, .int i3)]) hx hb d_Z_solved_92 hl (by decide) rfl (fun ls hl => ?_)
    exact v_zsolved_94 X D cI cL cZ a_Z a_Z_vector a_Z_system a_Z_now a_Z_next a_Z_mono a_Z_degree a_Z_generator a_Z_hand a_Z_has a_Z_row a_Z_work a_Z_basis a_Z_rest a_Z_product a_Z_known a_Z_lead a_Z_tail a_Z_word A Z_thrownCode Z_p Z_n Z_order Z_monomials Z_generators Z_upTo Z_members Z_lefts Z_vars Z_leadsFound Z_words Z_vector Z_now r_ Z_system_r Z_next_r F C0 hK hA hN k83 hk83 F i1 i2 i3 i2 Z_system Z_next hrun H locs ls hP hD hS (lv_sub hl [1, 2, 3, 4, 0] rfl)
theorem v_zsolved_83 (X : gX) (D : va_G) (cI cL cZ : ClassId) (a_Z a_Z_vector a_Z_system a_Z_now a_Z_next a_Z_mono a_Z_degree a_Z_generator a_Z_hand a_Z_has a_Z_row a_Z_work a_Z_basis a_Z_rest a_Z_product a_Z_known a_Z_lead a_Z_tail a_Z_word : Nat) (A : Nat → Prop) (Z_thrownCode Z_p Z_n Z_order Z_monomials Z_generators Z_upTo Z_members Z_lefts Z_vars Z_leadsFound Z_words : Int32) (Z_vector Z_now : Nat → Int32) (r_ : Int32) (Z_system_r Z_next_r : Nat → Int32) (F : Nat) (C0 : gC X c_Z_solvedb (some .boolean) 11 "RemnantDictionaryModel" gAll) (hK : va_K D classes (gT cI cL cZ) (gs X)) (hA : ∀ q : Nat, (gs X).heap.size ≤ q → A q) (hN : gN (gs X))  : ∀ (n : Nat) (i1 i2 i3 : Int32) (Z_system Z_next : Nat → Int32), b_zsolved_83 F Z_lefts Z_p Z_words Z_vector Z_now n i1 i2 i3 Z_system Z_next = some (r_, Z_system_r, Z_next_r) → g_zsolved X D cI cL cZ a_Z a_Z_vector a_Z_system a_Z_now a_Z_next a_Z_mono a_Z_degree a_Z_generator a_Z_hand a_Z_has a_Z_row a_Z_work a_Z_basis a_Z_rest a_Z_product a_Z_known a_Z_lead a_Z_tail a_Z_word A Z_thrownCode Z_p Z_n Z_order Z_monomials Z_generators Z_upTo Z_members Z_lefts Z_vars Z_leadsFound Z_words Z_vector Z_now r_ Z_system_r Z_next_r 83 [(0, .ref a_Z), (1, .int i1), (2, .int i2), (3, .int i3)] [] Z_system Z_next := by
  intro n
  induction n with
  | zero => intro i1 i2 i3 Z_system Z_next hrun; cases hrun
  | succ n ih =>
    intro i1 i2 i3 Z_system Z_next hrun
    exact w_zsolved_83 X D cI cL cZ a_Z a_Z_vector a_Z_system a_Z_now a_Z_next a_Z_mono a_Z_degree a_Z_generator a_Z_hand a_Z_has a_Z_row a_Z_work a_Z_basis a_Z_rest a_Z_product a_Z_known a_Z_lead a_Z_tail a_Z_word A Z_thrownCode Z_p Z_n Z_order Z_monomials Z_generators Z_upTo Z_members Z_lefts Z_vars Z_leadsFound Z_words Z_vector Z_now r_ Z_system_r Z_next_r F C0 hK hA hN (b_zsolved_83 F Z_lefts Z_p Z_words Z_vector Z_now n) ih i1 i2 i3 Z_system Z_next hrun
set_option maxHeartbeats 4000000 in
set_option maxRecDepth 100000 in
theorem w_zsolved_19 (X : gX) (D : va_G) (cI cL cZ : ClassId) (a_Z a_Z_vector a_Z_system a_Z_now a_Z_next a_Z_mono a_Z_degree a_Z_generator a_Z_hand a_Z_has a_Z_row a_Z_work a_Z_basis a_Z_rest a_Z_product a_Z_known a_Z_lead a_Z_tail a_Z_word : Nat) (A : Nat → Prop) (Z_thrownCode Z_p Z_n Z_order Z_monomials Z_generators Z_upTo Z_members Z_lefts Z_vars Z_leadsFound Z_words : Int32) (Z_vector Z_now : Nat → Int32) (r_ : Int32) (Z_system_r Z_next_r : Nat → Int32) (F : Nat) (C0 : gC X c_Z_solvedb (some .boolean) 11 "RemnantDictionaryModel" gAll) (hK : va_K D classes (gT cI cL cZ) (gs X)) (hA : ∀ q : Nat, (gs X).heap.size ≤ q → A q) (hN : gN (gs X)) (k9 : Int32 → Int32 → (Nat → Int32) → (Nat → Int32) → Option (Int32 × (Nat → Int32) × (Nat → Int32))) (hk9 : ∀ (i1 i2 : Int32) (Z_system Z_next : Nat → Int32), k9 i1 i2 Z_system Z_next = some (r_, Z_system_r, Z_next_r) → g_zsolved X D cI cL cZ a_Z a_Z_vector a_Z_system a_Z_now a_Z_next a_Z_mono a_Z_degree a_Z_generator a_Z_hand a_Z_has a_Z_row a_Z_work a_Z_basis a_Z_rest a_Z_product a_Z_known a_Z_lead a_Z_tail a_Z_word A Z_thrownCode Z_p Z_n Z_order Z_monomials Z_generators Z_upTo Z_members Z_lefts Z_vars Z_leadsFound Z_words Z_vector Z_now r_ Z_system_r Z_next_r 9 [(0, .ref a_Z), (1, .int i1), (2, .int i2)] [] Z_system Z_next) (k19 : Int32 → Int32 → Int32 → (Nat → Int32) → (Nat → Int32) → Option (Int32 × (Nat → Int32) × (Nat → Int32))) (hk19 : ∀ (i1 i2 i3 : Int32) (Z_system Z_next : Nat → Int32), k19 i1 i2 i3 Z_system Z_next = some (r_, Z_system_r, Z_next_r) → g_zsolved X D cI cL cZ a_Z a_Z_vector a_Z_system a_Z_now a_Z_next a_Z_mono a_Z_degree a_Z_generator a_Z_hand a_Z_has a_Z_row a_Z_work a_Z_basis a_Z_rest a_Z_product a_Z_known a_Z_lead a_Z_tail a_Z_word A Z_thrownCode Z_p Z_n Z_order Z_monomials Z_generators Z_upTo Z_members Z_lefts Z_vars Z_leadsFound Z_words Z_vector Z_now r_ Z_system_r Z_next_r 19 [(0, .ref a_Z), (1, .int i1), (2, .int i2), (3, .int i3)] [] Z_system Z_next) (i1 i2 i3 : Int32) (Z_system Z_next : Nat → Int32) (hrun : s_zsolved_19 F Z_lefts Z_p Z_words Z_vector Z_now k9 k19 i1 i2 i3 Z_system Z_next = some (r_, Z_system_r, Z_next_r)) : g_zsolved X D cI cL cZ a_Z a_Z_vector a_Z_system a_Z_now a_Z_next a_Z_mono a_Z_degree a_Z_generator a_Z_hand a_Z_has a_Z_row a_Z_work a_Z_basis a_Z_rest a_Z_product a_Z_known a_Z_lead a_Z_tail a_Z_word A Z_thrownCode Z_p Z_n Z_order Z_monomials Z_generators Z_upTo Z_members Z_lefts Z_vars Z_leadsFound Z_words Z_vector Z_now r_ Z_system_r Z_next_r 19 [(0, .ref a_Z), (1, .int i1), (2, .int i2), (3, .int i3)] [] Z_system Z_next := by
  have C1 := C0
  obtain ⟨hx, hb, hr, hml, hown, hts, hlocks⟩ := C1
  unfold s_zsolved_19 at hrun
  intro H locs ls hP hD hS hl
  refine lv_iload_n hx hb d_Z_solved_19 rfl (lv_at hl 3 rfl) ?_
  refine lv_aload_n hx hb d_Z_solved_20 rfl (lv_at hl 0 rfl) ?_
  refine va_get (D := D) (ci := 5) (v := .int Z_words) (C := "RemnantDictionaryModel") (T := T_Z) (N := 30) hx hb hts iw_Z hown hK hP 0 rfl rfl 24 (by decide) (hts _ k_465) (fun _ h9 => h9) rfl d_Z_solved_21 ?_
  refine g_icmp_ge (tgt := 54) hx hb d_Z_solved_24 (by decide) hrun (fun _ hrun => ?_) (fun _ hrun => ?_)
  · refine lv_aload_n hx hb d_Z_solved_54 rfl (lv_at hl 0 rfl) ?_
    refine va_get (D := D) (ci := 5) (v := .ref a_Z_system) (C := "RemnantDictionaryModel") (T := T_Z) (N := 30) hx hb hts iw_Z hown hK hP 0 rfl rfl 27 (by decide) (hts _ k_466) (fun _ h9 => h9) rfl d_Z_solved_55 ?_
    refine lv_iload_n hx hb d_Z_solved_58 rfl (lv_at hl 1 rfl) ?_
    refine lv_iload_n hx hb d_Z_solved_59 rfl (lv_at hl 2 rfl) ?_
    refine lv_imul hx hb d_Z_solved_60 ?_
    refine lv_aload_n hx hb d_Z_solved_61 rfl (lv_at hl 0 rfl) ?_
    refine va_get (D := D) (ci := 5) (v := .int Z_words) (C := "RemnantDictionaryModel") (T := T_Z) (N := 30) hx hb hts iw_Z hown hK hP 0 rfl rfl 24 (by decide) (hts _ k_465) (fun _ h9 => h9) rfl d_Z_solved_62 ?_
    refine lv_iadd hx hb d_Z_solved_65 ?_
    refine lv_aload_n hx hb d_Z_solved_66 rfl (lv_at hl 0 rfl) ?_
    refine va_get (D := D) (ci := 5) (v := .ref a_Z_now) (C := "RemnantDictionaryModel") (T := T_Z) (N := 30) hx hb hts iw_Z hown hK hP 0 rfl rfl 28 (by decide) (hts _ k_462) (fun _ h9 => h9) rfl d_Z_solved_67 ?_
    refine lv_iload_n hx hb d_Z_solved_70 rfl (lv_at hl 2 rfl) ?_
    refine g_iald hx hb hK hP 3 0 rfl rfl hrun d_Z_solved_71 (fun x_1 hrun => ?_)
    refine g_iast hx hb hK hP hD hS 2 0 rfl rfl hrun d_Z_solved_72 (fun Z_system_2 hrun H locs (hP : va_P D classes (ws_zsolved a_Z a_Z_vector a_Z_system a_Z_now a_Z_next a_Z_mono a_Z_degree a_Z_generator a_Z_hand a_Z_has a_Z_row a_Z_work a_Z_basis a_Z_rest a_Z_product a_Z_known a_Z_lead a_Z_tail a_Z_word cI cL cZ Z_thrownCode Z_p Z_n Z_order Z_monomials Z_generators Z_upTo Z_members Z_lefts Z_vars Z_leadsFound Z_words Z_vector Z_system_2 Z_now Z_next) H) (hD : va_D A (ws_zsolved a_Z a_Z_vector a_Z_system a_Z_now a_Z_next a_Z_mono a_Z_degree a_Z_generator a_Z_hand a_Z_has a_Z_row a_Z_work a_Z_basis a_Z_rest a_Z_product a_Z_known a_Z_lead a_Z_tail a_Z_word cI cL cZ Z_thrownCode Z_p Z_n Z_order Z_monomials Z_generators Z_upTo Z_members Z_lefts Z_vars Z_leadsFound Z_words Z_vector Z_system_2 Z_now Z_next)) hS => ?_)
    refine lv_iinc (v := (i2 + 1)) (lv' := [(2, .int (i2 + 1)), (0, .ref a_Z), (1, .int i1), (3, .int i3)]) hx hb d_Z_solved_73 hl (k := 2) rfl rfl (by decide) rfl (fun ls hl => ?_)
    refine lv_goto (tgt := 9) hx hb d_Z_solved_76 (by decide) ?_
    exact hk9 i1 (i2 + 1) Z_system_2 Z_next hrun H locs ls hP hD hS (lv_sub hl [1, 2, 0] rfl)
  · refine lv_aload_n hx hb d_Z_solved_27 rfl (lv_at hl 0 rfl) ?_
    refine va_get (D := D) (ci := 5) (v := .ref a_Z_system) (C := "RemnantDictionaryModel") (T := T_Z) (N := 30) hx hb hts iw_Z hown hK hP 0 rfl rfl 27 (by decide) (hts _ k_466) (fun _ h9 => h9) rfl d_Z_solved_28 ?_
    refine lv_iload_n hx hb d_Z_solved_31 rfl (lv_at hl 1 rfl) ?_
    refine lv_iload_n hx hb d_Z_solved_32 rfl (lv_at hl 2 rfl) ?_
    refine lv_imul hx hb d_Z_solved_33 ?_
    refine lv_iload_n hx hb d_Z_solved_34 rfl (lv_at hl 3 rfl) ?_
    refine lv_iadd hx hb d_Z_solved_35 ?_
    refine lv_aload_n hx hb d_Z_solved_36 rfl (lv_at hl 0 rfl) ?_
    refine va_get (D := D) (ci := 5) (v := .ref a_Z_vector) (C := "RemnantDictionaryModel") (T := T_Z) (N := 30) hx hb hts iw_Z hown hK hP 0 rfl rfl 26 (by decide) (hts _ k_468) (fun _ h9 => h9) rfl d_Z_solved_37 ?_
    refine lv_bipush (v := 40) hx hb d_Z_solved_40 (by decide) ?_
    refine lv_iload_n hx hb d_Z_solved_42 rfl (lv_at hl 3 rfl) ?_
    refine lv_imul hx hb d_Z_solved_43 ?_
    refine lv_iload_n hx hb d_Z_solved_44 rfl (lv_at hl 2 rfl) ?_
    refine lv_iadd hx hb d_Z_solved_45 ?_
    refine g_iald hx hb hK hP 1 0 rfl rfl hrun d_Z_solved_46 (fun x_3 hrun => ?_)
    refine g_iast hx hb hK hP hD hS 2 0 rfl rfl hrun d_Z_solved_47 (fun Z_system_4 hrun H locs (hP : va_P D classes (ws_zsolved a_Z a_Z_vector a_Z_system a_Z_now a_Z_next a_Z_mono a_Z_degree a_Z_generator a_Z_hand a_Z_has a_Z_row a_Z_work a_Z_basis a_Z_rest a_Z_product a_Z_known a_Z_lead a_Z_tail a_Z_word cI cL cZ Z_thrownCode Z_p Z_n Z_order Z_monomials Z_generators Z_upTo Z_members Z_lefts Z_vars Z_leadsFound Z_words Z_vector Z_system_4 Z_now Z_next) H) (hD : va_D A (ws_zsolved a_Z a_Z_vector a_Z_system a_Z_now a_Z_next a_Z_mono a_Z_degree a_Z_generator a_Z_hand a_Z_has a_Z_row a_Z_work a_Z_basis a_Z_rest a_Z_product a_Z_known a_Z_lead a_Z_tail a_Z_word cI cL cZ Z_thrownCode Z_p Z_n Z_order Z_monomials Z_generators Z_upTo Z_members Z_lefts Z_vars Z_leadsFound Z_words Z_vector Z_system_4 Z_now Z_next)) hS => ?_)
    refine lv_iinc (v := (i3 + 1)) (lv' := [(3, .int (i3 + 1)), (0, .ref a_Z), (1, .int i1), (2, .int i2)]) hx hb d_Z_solved_48 hl (k := 3) rfl rfl (by decide) rfl (fun ls hl => ?_)
    refine lv_goto (tgt := 19) hx hb d_Z_solved_51 (by decide) ?_
    exact hk19 i1 i2 (i3 + 1) Z_system_4 Z_next hrun H locs ls hP hD hS (lv_sub hl [1, 2, 3, 0] rfl)
theorem v_zsolved_19 (X : gX) (D : va_G) (cI cL cZ : ClassId) (a_Z a_Z_vector a_Z_system a_Z_now a_Z_next a_Z_mono a_Z_degree a_Z_generator a_Z_hand a_Z_has a_Z_row a_Z_work a_Z_basis a_Z_rest a_Z_product a_Z_known a_Z_lead a_Z_tail a_Z_word : Nat) (A : Nat → Prop) (Z_thrownCode Z_p Z_n Z_order Z_monomials Z_generators Z_upTo Z_members Z_lefts Z_vars Z_leadsFound Z_words : Int32) (Z_vector Z_now : Nat → Int32) (r_ : Int32) (Z_system_r Z_next_r : Nat → Int32) (F : Nat) (C0 : gC X c_Z_solvedb (some .boolean) 11 "RemnantDictionaryModel" gAll) (hK : va_K D classes (gT cI cL cZ) (gs X)) (hA : ∀ q : Nat, (gs X).heap.size ≤ q → A q) (hN : gN (gs X)) (k9 : Int32 → Int32 → (Nat → Int32) → (Nat → Int32) → Option (Int32 × (Nat → Int32) × (Nat → Int32))) (hk9 : ∀ (i1 i2 : Int32) (Z_system Z_next : Nat → Int32), k9 i1 i2 Z_system Z_next = some (r_, Z_system_r, Z_next_r) → g_zsolved X D cI cL cZ a_Z a_Z_vector a_Z_system a_Z_now a_Z_next a_Z_mono a_Z_degree a_Z_generator a_Z_hand a_Z_has a_Z_row a_Z_work a_Z_basis a_Z_rest a_Z_product a_Z_known a_Z_lead a_Z_tail a_Z_word A Z_thrownCode Z_p Z_n Z_order Z_monomials Z_generators Z_upTo Z_members Z_lefts Z_vars Z_leadsFound Z_words Z_vector Z_now r_ Z_system_r Z_next_r 9 [(0, .ref a_Z), (1, .int i1), (2, .int i2)] [] Z_system Z_next) : ∀ (n : Nat) (i1 i2 i3 : Int32) (Z_system Z_next : Nat → Int32), b_zsolved_19 F Z_lefts Z_p Z_words Z_vector Z_now k9 n i1 i2 i3 Z_system Z_next = some (r_, Z_system_r, Z_next_r) → g_zsolved X D cI cL cZ a_Z a_Z_vector a_Z_system a_Z_now a_Z_next a_Z_mono a_Z_degree a_Z_generator a_Z_hand a_Z_has a_Z_row a_Z_work a_Z_basis a_Z_rest a_Z_product a_Z_known a_Z_lead a_Z_tail a_Z_word A Z_thrownCode Z_p Z_n Z_order Z_monomials Z_generators Z_upTo Z_members Z_lefts Z_vars Z_leadsFound Z_words Z_vector Z_now r_ Z_system_r Z_next_r 19 [(0, .ref a_Z), (1, .int i1), (2, .int i2), (3, .int i3)] [] Z_system Z_next := by
  intro n
  induction n with
  | zero => intro i1 i2 i3 Z_system Z_next hrun; cases hrun
  | succ n ih =>
    intro i1 i2 i3 Z_system Z_next hrun
    exact w_zsolved_19 X D cI cL cZ a_Z a_Z_vector a_Z_system a_Z_now a_Z_next a_Z_mono a_Z_degree a_Z_generator a_Z_hand a_Z_has a_Z_row a_Z_work a_Z_basis a_Z_rest a_Z_product a_Z_known a_Z_lead a_Z_tail a_Z_word A Z_thrownCode Z_p Z_n Z_order Z_monomials Z_generators Z_upTo Z_members Z_lefts Z_vars Z_leadsFound Z_words Z_vector Z_now r_ Z_system_r Z_next_r F C0 hK hA hN k9 hk9 (b_zsolved_19 F Z_lefts Z_p Z_words Z_vector Z_now k9 n) ih i1 i2 i3 Z_system Z_next hrun
set_option maxHeartbeats 4000000 in
set_option maxRecDepth 100000 in
theorem w_zsolved_9 (X : gX) (D : va_G) (cI cL cZ : ClassId) (a_Z a_Z_vector a_Z_system a_Z_now a_Z_next a_Z_mono a_Z_degree a_Z_generator a_Z_hand a_Z_has a_Z_row a_Z_work a_Z_basis a_Z_rest a_Z_product a_Z_known a_Z_lead a_Z_tail a_Z_word : Nat) (A : Nat → Prop) (Z_thrownCode Z_p Z_n Z_order Z_monomials Z_generators Z_upTo Z_members Z_lefts Z_vars Z_leadsFound Z_words : Int32) (Z_vector Z_now : Nat → Int32) (r_ : Int32) (Z_system_r Z_next_r : Nat → Int32) (F : Nat) (C0 : gC X c_Z_solvedb (some .boolean) 11 "RemnantDictionaryModel" gAll) (hK : va_K D classes (gT cI cL cZ) (gs X)) (hA : ∀ q : Nat, (gs X).heap.size ≤ q → A q) (hN : gN (gs X)) (k9 : Int32 → Int32 → (Nat → Int32) → (Nat → Int32) → Option (Int32 × (Nat → Int32) × (Nat → Int32))) (hk9 : ∀ (i1 i2 : Int32) (Z_system Z_next : Nat → Int32), k9 i1 i2 Z_system Z_next = some (r_, Z_system_r, Z_next_r) → g_zsolved X D cI cL cZ a_Z a_Z_vector a_Z_system a_Z_now a_Z_next a_Z_mono a_Z_degree a_Z_generator a_Z_hand a_Z_has a_Z_row a_Z_work a_Z_basis a_Z_rest a_Z_product a_Z_known a_Z_lead a_Z_tail a_Z_word A Z_thrownCode Z_p Z_n Z_order Z_monomials Z_generators Z_upTo Z_members Z_lefts Z_vars Z_leadsFound Z_words Z_vector Z_now r_ Z_system_r Z_next_r 9 [(0, .ref a_Z), (1, .int i1), (2, .int i2)] [] Z_system Z_next) (i1 i2 : Int32) (Z_system Z_next : Nat → Int32) (hrun : s_zsolved_9 F Z_lefts Z_p Z_words Z_vector Z_now k9 i1 i2 Z_system Z_next = some (r_, Z_system_r, Z_next_r)) : g_zsolved X D cI cL cZ a_Z a_Z_vector a_Z_system a_Z_now a_Z_next a_Z_mono a_Z_degree a_Z_generator a_Z_hand a_Z_has a_Z_row a_Z_work a_Z_basis a_Z_rest a_Z_product a_Z_known a_Z_lead a_Z_tail a_Z_word A Z_thrownCode Z_p Z_n Z_order Z_monomials Z_generators Z_upTo Z_members Z_lefts Z_vars Z_leadsFound Z_words Z_vector Z_now r_ Z_system_r Z_next_r 9 [(0, .ref a_Z), (1, .int i1), (2, .int i2)] [] Z_system Z_next := by
  have C1 := C0
  obtain ⟨hx, hb, hr, hml, hown, hts, hlocks⟩ := C1
  unfold s_zsolved_9 at hrun
  intro H locs ls hP hD hS hl
  refine lv_iload_n hx hb d_Z_solved_9 rfl (lv_at hl 2 rfl) ?_
  refine lv_aload_n hx hb d_Z_solved_10 rfl (lv_at hl 0 rfl) ?_
  refine va_get (D := D) (ci := 5) (v := .int Z_lefts) (C := "RemnantDictionaryModel") (T := T_Z) (N := 30) hx hb hts iw_Z hown hK hP 0 rfl rfl 16 (by decide) (hts _ k_445) (fun _ h9 => h9) rfl d_Z_solved_11 ?_
  refine g_icmp_ge (tgt := 79) hx hb d_Z_solved_14 (by decide) hrun (fun _ hrun => ?_) (fun _ hrun => ?_)
  · refine lv_iconst (v := 0) hx hb d_Z_solved_79 (by decide) ?_
    refine lv_istore_n (lv' := [(2, .int 0), (0, .ref a_Z), (1, .int i1)]) hx hb d_Z_solved_80 rfl hl (by decide) rfl (fun ls hl => ?_)
    refine lv_iconst (v := 0) hx hb d_Z_solved_81 (by decide) ?_
    refine lv_istore_n (lv' := [(3, .int 0), (2, .int 0), (0, .ref a_Z), (1, .int i1)]) hx hb d_Z_solved_82 rfl hl (by decide) rfl (fun ls hl => ?_)
    exact v_zsolved_83 X D cI cL cZ a_Z a_Z_vector a_Z_system a_Z_now a_Z_next a_Z_mono a_Z_degree a_Z_generator a_Z_hand a_Z_has a_Z_row a_Z_work a_Z_basis a_Z_rest a_Z_product a_Z_known a_Z_lead a_Z_tail a_Z_word A Z_thrownCode Z_p Z_n Z_order Z_monomials Z_generators Z_upTo Z_members Z_lefts Z_vars Z_leadsFound Z_words Z_vector Z_now r_ Z_system_r Z_next_r F C0 hK hA hN  F i1 0 0 Z_system Z_next hrun H locs ls hP hD hS (lv_sub hl [2, 3, 1, 0] rfl)
  · refine lv_iconst (v := 0) hx hb d_Z_solved_17 (by decide) ?_
    refine lv_istore_n (lv' := [(3, .int 0), (0, .ref a_Z), (1, .int i1), (2, .int i2)]) hx hb d_Z_solved_18 rfl hl (by decide) rfl (fun ls hl => ?_)
    exact v_zsolved_19 X D cI cL cZ a_Z a_Z_vector a_Z_system a_Z_now a_Z_next a_Z_mono a_Z_degree a_Z_generator a_Z_hand a_Z_has a_Z_row a_Z_work a_Z_basis a_Z_rest a_Z_product a_Z_known a_Z_lead a_Z_tail a_Z_word A Z_thrownCode Z_p Z_n Z_order Z_monomials Z_generators Z_upTo Z_members Z_lefts Z_vars Z_leadsFound Z_words Z_vector Z_now r_ Z_system_r Z_next_r F C0 hK hA hN k9 hk9 F i1 i2 0 Z_system Z_next hrun H locs ls hP hD hS (lv_sub hl [1, 2, 3, 0] rfl)
theorem v_zsolved_9 (X : gX) (D : va_G) (cI cL cZ : ClassId) (a_Z a_Z_vector a_Z_system a_Z_now a_Z_next a_Z_mono a_Z_degree a_Z_generator a_Z_hand a_Z_has a_Z_row a_Z_work a_Z_basis a_Z_rest a_Z_product a_Z_known a_Z_lead a_Z_tail a_Z_word : Nat) (A : Nat → Prop) (Z_thrownCode Z_p Z_n Z_order Z_monomials Z_generators Z_upTo Z_members Z_lefts Z_vars Z_leadsFound Z_words : Int32) (Z_vector Z_now : Nat → Int32) (r_ : Int32) (Z_system_r Z_next_r : Nat → Int32) (F : Nat) (C0 : gC X c_Z_solvedb (some .boolean) 11 "RemnantDictionaryModel" gAll) (hK : va_K D classes (gT cI cL cZ) (gs X)) (hA : ∀ q : Nat, (gs X).heap.size ≤ q → A q) (hN : gN (gs X))  : ∀ (n : Nat) (i1 i2 : Int32) (Z_system Z_next : Nat → Int32), b_zsolved_9 F Z_lefts Z_p Z_words Z_vector Z_now n i1 i2 Z_system Z_next = some (r_, Z_system_r, Z_next_r) → g_zsolved X D cI cL cZ a_Z a_Z_vector a_Z_system a_Z_now a_Z_next a_Z_mono a_Z_degree a_Z_generator a_Z_hand a_Z_has a_Z_row a_Z_work a_Z_basis a_Z_rest a_Z_product a_Z_known a_Z_lead a_Z_tail a_Z_word A Z_thrownCode Z_p Z_n Z_order Z_monomials Z_generators Z_upTo Z_members Z_lefts Z_vars Z_leadsFound Z_words Z_vector Z_now r_ Z_system_r Z_next_r 9 [(0, .ref a_Z), (1, .int i1), (2, .int i2)] [] Z_system Z_next := by
  intro n
  induction n with
  | zero => intro i1 i2 Z_system Z_next hrun; cases hrun
  | succ n ih =>
    intro i1 i2 Z_system Z_next hrun
    exact w_zsolved_9 X D cI cL cZ a_Z a_Z_vector a_Z_system a_Z_now a_Z_next a_Z_mono a_Z_degree a_Z_generator a_Z_hand a_Z_has a_Z_row a_Z_work a_Z_basis a_Z_rest a_Z_product a_Z_known a_Z_lead a_Z_tail a_Z_word A Z_thrownCode Z_p Z_n Z_order Z_monomials Z_generators Z_upTo Z_members Z_lefts Z_vars Z_leadsFound Z_words Z_vector Z_now r_ Z_system_r Z_next_r F C0 hK hA hN (b_zsolved_9 F Z_lefts Z_p Z_words Z_vector Z_now n) ih i1 i2 Z_system Z_next hrun
set_option maxHeartbeats 4000000 in
set_option maxRecDepth 100000 in
theorem e_zsolved (X : gX) (D : va_G) (cI cL cZ : ClassId) (a_Z a_Z_vector a_Z_system a_Z_now a_Z_next a_Z_mono a_Z_degree a_Z_generator a_Z_hand a_Z_has a_Z_row a_Z_work a_Z_basis a_Z_rest a_Z_product a_Z_known a_Z_lead a_Z_tail a_Z_word : Nat) (A : Nat → Prop) (Z_thrownCode Z_p Z_n Z_order Z_monomials Z_generators Z_upTo Z_members Z_lefts Z_vars Z_leadsFound Z_words : Int32) (Z_vector Z_now : Nat → Int32) (r_ : Int32) (Z_system_r Z_next_r : Nat → Int32) (F : Nat) (C0 : gC X c_Z_solvedb (some .boolean) 11 "RemnantDictionaryModel" gAll) (hK : va_K D classes (gT cI cL cZ) (gs X)) (hA : ∀ q : Nat, (gs X).heap.size ≤ q → A q) (hN : gN (gs X)) (Z_system Z_next : Nat → Int32) (hrun : m_zsolved F Z_lefts Z_p Z_words Z_vector Z_now Z_system Z_next = some (r_, Z_system_r, Z_next_r)) : g_zsolved X D cI cL cZ a_Z a_Z_vector a_Z_system a_Z_now a_Z_next a_Z_mono a_Z_degree a_Z_generator a_Z_hand a_Z_has a_Z_row a_Z_work a_Z_basis a_Z_rest a_Z_product a_Z_known a_Z_lead a_Z_tail a_Z_word A Z_thrownCode Z_p Z_n Z_order Z_monomials Z_generators Z_upTo Z_members Z_lefts Z_vars Z_leadsFound Z_words Z_vector Z_now r_ Z_system_r Z_next_r 0 [(0, .ref a_Z)] [] Z_system Z_next := by
  have C1 := C0
  obtain ⟨hx, hb, hr, hml, hown, hts, hlocks⟩ := C1
  unfold m_zsolved at hrun
  intro H locs ls hP hD hS hl
  refine lv_aload_n hx hb d_Z_solved_0 rfl (lv_at hl 0 rfl) ?_
  refine va_get (D := D) (ci := 5) (v := .int Z_words) (C := "RemnantDictionaryModel") (T := T_Z) (N := 30) hx hb hts iw_Z hown hK hP 0 rfl rfl 24 (by decide) (hts _ k_465) (fun _ h9 => h9) rfl d_Z_solved_1 ?_
  refine lv_iconst (v := 1) hx hb d_Z_solved_4 (by decide) ?_
  refine lv_iadd hx hb d_Z_solved_5 ?_
  refine lv_istore_n (lv' := [(1, .int (Z_words + 1)), (0, .ref a_Z)]) hx hb d_Z_solved_6 rfl hl (by decide) rfl (fun ls hl => ?_)
  refine lv_iconst (v := 0) hx hb d_Z_solved_7 (by decide) ?_
  refine lv_istore_n (lv' := [(2, .int 0), (1, .int (Z_words + 1)), (0, .ref a_Z)]) hx hb d_Z_solved_8 rfl hl (by decide) rfl (fun ls hl => ?_)
  exact v_zsolved_9 X D cI cL cZ a_Z a_Z_vector a_Z_system a_Z_now a_Z_next a_Z_mono a_Z_degree a_Z_generator a_Z_hand a_Z_has a_Z_row a_Z_work a_Z_basis a_Z_rest a_Z_product a_Z_known a_Z_lead a_Z_tail a_Z_word A Z_thrownCode Z_p Z_n Z_order Z_monomials Z_generators Z_upTo Z_members Z_lefts Z_vars Z_leadsFound Z_words Z_vector Z_now r_ Z_system_r Z_next_r F C0 hK hA hN  F (Z_words + 1) 0 Z_system Z_next hrun H locs ls hP hD hS (lv_sub hl [2, 1, 0] rfl)
set_option maxHeartbeats 4000000 in
set_option maxRecDepth 100000 in
theorem c_zsolved (l : Launch) (D : va_G) (cI cL cZ : ClassId) (a_Z a_Z_vector a_Z_system a_Z_now a_Z_next a_Z_mono a_Z_degree a_Z_generator a_Z_hand a_Z_has a_Z_row a_Z_work a_Z_basis a_Z_rest a_Z_product a_Z_known a_Z_lead a_Z_tail a_Z_word : Nat) (F : Nat) (Z_thrownCode Z_p Z_n Z_order Z_monomials Z_generators Z_upTo Z_members Z_lefts Z_vars Z_leadsFound Z_words : Int32) (Z_vector Z_system Z_now Z_next : Nat → Int32) (sz : Nat) (r_ : Int32) (Z_system_r Z_next_r : Nat → Int32) (hrun : m_zsolved F Z_lefts Z_p Z_words Z_vector Z_now Z_system Z_next = some (r_, Z_system_r, Z_next_r)) : Met l y_Z_solved (.code y_Z_solved c_Z_solvedb 11 (some .boolean) :: gAll) rm_zsolved (va_Pc [.ref a_Z] (gPW D (gT cI cL cZ) (ws_zsolved a_Z a_Z_vector a_Z_system a_Z_now a_Z_next a_Z_mono a_Z_degree a_Z_generator a_Z_hand a_Z_has a_Z_row a_Z_work a_Z_basis a_Z_rest a_Z_product a_Z_known a_Z_lead a_Z_tail a_Z_word cI cL cZ Z_thrownCode Z_p Z_n Z_order Z_monomials Z_generators Z_upTo Z_members Z_lefts Z_vars Z_leadsFound Z_words Z_vector Z_system Z_now Z_next) sz)) (va_Qi (fun r (_ : Unit) => r = r_) (gB D (gT cI cL cZ) (va_A (ws_zsolved a_Z a_Z_vector a_Z_system a_Z_now a_Z_next a_Z_mono a_Z_degree a_Z_generator a_Z_hand a_Z_has a_Z_row a_Z_work a_Z_basis a_Z_rest a_Z_product a_Z_known a_Z_lead a_Z_tail a_Z_word cI cL cZ Z_thrownCode Z_p Z_n Z_order Z_monomials Z_generators Z_upTo Z_members Z_lefts Z_vars Z_leadsFound Z_words Z_vector Z_system Z_now Z_next) sz) (ws_zsolved a_Z a_Z_vector a_Z_system a_Z_now a_Z_next a_Z_mono a_Z_degree a_Z_generator a_Z_hand a_Z_has a_Z_row a_Z_work a_Z_basis a_Z_rest a_Z_product a_Z_known a_Z_lead a_Z_tail a_Z_word cI cL cZ Z_thrownCode Z_p Z_n Z_order Z_monomials Z_generators Z_upTo Z_members Z_lefts Z_vars Z_leadsFound Z_words Z_vector Z_system_r Z_now Z_next_r)) (va_A (ws_zsolved a_Z a_Z_vector a_Z_system a_Z_now a_Z_next a_Z_mono a_Z_degree a_Z_generator a_Z_hand a_Z_has a_Z_row a_Z_work a_Z_basis a_Z_rest a_Z_product a_Z_known a_Z_lead a_Z_tail a_Z_word cI cL cZ Z_thrownCode Z_p Z_n Z_order Z_monomials Z_generators Z_upTo Z_members Z_lefts Z_vars Z_leadsFound Z_words Z_vector Z_system Z_now Z_next) sz)) 0 0 (va_A (ws_zsolved a_Z a_Z_vector a_Z_system a_Z_now a_Z_next a_Z_mono a_Z_degree a_Z_generator a_Z_hand a_Z_has a_Z_row a_Z_work a_Z_basis a_Z_rest a_Z_product a_Z_known a_Z_lead a_Z_tail a_Z_word cI cL cZ Z_thrownCode Z_p Z_n Z_order Z_monomials Z_generators Z_upTo Z_members Z_lefts Z_vars Z_leadsFound Z_words Z_vector Z_system Z_now Z_next) sz) := by
  refine Met.ofW (cc := c_Z_solvedb) (maxL := 11) (ret := (some .boolean)) (by decide +kernel) rfl ?_
  intro p e s m args below meth c s₁ B hml hv
  obtain ⟨rfl, hsz, hP, hK, hN, hD0⟩ := hv
  subst hsz
  have hD := hD0.self (sz := s.heap.size)
  have hl := lv_entry ([.ref a_Z]) (n := 11) (Nat.le_of_ble_eq_true rfl)
  rw [lg_entry_eq]
  generalize (lg_sl ([.ref a_Z]) ++ List.replicate (11 - (lg_sl ([.ref a_Z])).length) Slot.unset).toArray = ls at hl ⊢
  exact e_zsolved (p, l, e, s, m, ([.ref a_Z] : List Value).toArray, below, meth, c) D cI cL cZ a_Z a_Z_vector a_Z_system a_Z_now a_Z_next a_Z_mono a_Z_degree a_Z_generator a_Z_hand a_Z_has a_Z_row a_Z_work a_Z_basis a_Z_rest a_Z_product a_Z_known a_Z_lead a_Z_tail a_Z_word (va_A (ws_zsolved a_Z a_Z_vector a_Z_system a_Z_now a_Z_next a_Z_mono a_Z_degree a_Z_generator a_Z_hand a_Z_has a_Z_row a_Z_work a_Z_basis a_Z_rest a_Z_product a_Z_known a_Z_lead a_Z_tail a_Z_word cI cL cZ Z_thrownCode Z_p Z_n Z_order Z_monomials Z_generators Z_upTo Z_members Z_lefts Z_vars Z_leadsFound Z_words Z_vector Z_system Z_now Z_next) s.heap.size) Z_thrownCode Z_p Z_n Z_order Z_monomials Z_generators Z_upTo Z_members Z_lefts Z_vars Z_leadsFound Z_words Z_vector Z_now r_ Z_system_r Z_next_r F ⟨B.exec, B.bytes, B.returns, hml, findClass_of_methodNamed B.named, fun w h => atoms_spec (ws := (.code y_Z_solved c_Z_solvedb 11 (some .boolean) :: gAll)) B.pre w (List.mem_cons_of_mem _ h), B.notSynchronized⟩ hK (fun q h => Or.inr h) hN Z_system Z_next hrun s.heap [] ls hP hD va_S.rf hl
