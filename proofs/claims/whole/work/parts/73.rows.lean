theorem d_Z_complete_0 : decode c_Z_completeb 0 = .ok (.iconst 0, 1) := by decide +kernel
theorem d_Z_complete_1 : decode c_Z_completeb 1 = .ok (.istore_n 1, 1) := by decide +kernel
theorem d_Z_complete_2 : decode c_Z_completeb 2 = .ok (.iload_n 1, 1) := by decide +kernel
theorem d_Z_complete_3 : decode c_Z_completeb 3 = .ok (.aload_n 0, 1) := by decide +kernel
theorem d_Z_complete_4 : decode c_Z_completeb 4 = .ok (.getfield 32, 3) := by decide +kernel
theorem d_Z_complete_7 : decode c_Z_completeb 7 = .ok (.if_icmp .ge 23, 3) := by decide +kernel
theorem d_Z_complete_10 : decode c_Z_completeb 10 = .ok (.aload_n 0, 1) := by decide +kernel
theorem d_Z_complete_11 : decode c_Z_completeb 11 = .ok (.iload_n 1, 1) := by decide +kernel
theorem d_Z_complete_12 : decode c_Z_completeb 12 = .ok (.invokevirtual 138, 3) := by decide +kernel
theorem d_Z_complete_15 : decode c_Z_completeb 15 = .ok (.aload_n 0, 1) := by decide +kernel
theorem d_Z_complete_16 : decode c_Z_completeb 16 = .ok (.getfield 41, 3) := by decide +kernel
theorem d_Z_complete_19 : decode c_Z_completeb 19 = .ok (.if_icmp .le 5, 3) := by decide +kernel
theorem d_Z_complete_22 : decode c_Z_completeb 22 = .ok (.iconst 0, 1) := by decide +kernel
theorem d_Z_complete_23 : decode c_Z_completeb 23 = .ok (.ireturn, 1) := by decide +kernel
theorem d_Z_complete_24 : decode c_Z_completeb 24 = .ok (.iinc 1 1, 3) := by decide +kernel
theorem d_Z_complete_27 : decode c_Z_completeb 27 = .ok (.goto (-25), 3) := by decide +kernel
theorem d_Z_complete_30 : decode c_Z_completeb 30 = .ok (.iconst 0, 1) := by decide +kernel
theorem d_Z_complete_31 : decode c_Z_completeb 31 = .ok (.istore_n 1, 1) := by decide +kernel
theorem d_Z_complete_32 : decode c_Z_completeb 32 = .ok (.iload_n 1, 1) := by decide +kernel
theorem d_Z_complete_33 : decode c_Z_completeb 33 = .ok (.aload_n 0, 1) := by decide +kernel
theorem d_Z_complete_34 : decode c_Z_completeb 34 = .ok (.getfield 57, 3) := by decide +kernel
theorem d_Z_complete_37 : decode c_Z_completeb 37 = .ok (.if_icmp .ge 121, 3) := by decide +kernel
theorem d_Z_complete_40 : decode c_Z_completeb 40 = .ok (.iconst 0, 1) := by decide +kernel
theorem d_Z_complete_41 : decode c_Z_completeb 41 = .ok (.istore_n 2, 1) := by decide +kernel
theorem d_Z_complete_42 : decode c_Z_completeb 42 = .ok (.iload_n 2, 1) := by decide +kernel
theorem d_Z_complete_43 : decode c_Z_completeb 43 = .ok (.iload_n 1, 1) := by decide +kernel
theorem d_Z_complete_44 : decode c_Z_completeb 44 = .ok (.if_icmp .ge 108, 3) := by decide +kernel
theorem d_Z_complete_47 : decode c_Z_completeb 47 = .ok (.iconst 0, 1) := by decide +kernel
theorem d_Z_complete_48 : decode c_Z_completeb 48 = .ok (.istore_n 3, 1) := by decide +kernel
theorem d_Z_complete_49 : decode c_Z_completeb 49 = .ok (.iconst 0, 1) := by decide +kernel
theorem d_Z_complete_50 : decode c_Z_completeb 50 = .ok (.istore 4, 2) := by decide +kernel
theorem d_Z_complete_52 : decode c_Z_completeb 52 = .ok (.iconst 0, 1) := by decide +kernel
theorem d_Z_complete_53 : decode c_Z_completeb 53 = .ok (.istore 5, 2) := by decide +kernel
theorem d_Z_complete_55 : decode c_Z_completeb 55 = .ok (.iload 5, 2) := by decide +kernel
theorem d_Z_complete_57 : decode c_Z_completeb 57 = .ok (.iconst 4, 1) := by decide +kernel
theorem d_Z_complete_58 : decode c_Z_completeb 58 = .ok (.if_icmp .ge 72, 3) := by decide +kernel
theorem d_Z_complete_61 : decode c_Z_completeb 61 = .ok (.aload_n 0, 1) := by decide +kernel
theorem d_Z_complete_62 : decode c_Z_completeb 62 = .ok (.getfield 25, 3) := by decide +kernel
theorem d_Z_complete_65 : decode c_Z_completeb 65 = .ok (.aload_n 0, 1) := by decide +kernel
theorem d_Z_complete_66 : decode c_Z_completeb 66 = .ok (.getfield 54, 3) := by decide +kernel
theorem d_Z_complete_69 : decode c_Z_completeb 69 = .ok (.iload_n 1, 1) := by decide +kernel
theorem d_Z_complete_70 : decode c_Z_completeb 70 = .ok (.iaload, 1) := by decide +kernel
theorem d_Z_complete_71 : decode c_Z_completeb 71 = .ok (.iaload, 1) := by decide +kernel
theorem d_Z_complete_72 : decode c_Z_completeb 72 = .ok (.iload 5, 2) := by decide +kernel
theorem d_Z_complete_74 : decode c_Z_completeb 74 = .ok (.invokestatic 106, 3) := by decide +kernel
theorem d_Z_complete_77 : decode c_Z_completeb 77 = .ok (.istore 6, 2) := by decide +kernel
theorem d_Z_complete_79 : decode c_Z_completeb 79 = .ok (.aload_n 0, 1) := by decide +kernel
theorem d_Z_complete_80 : decode c_Z_completeb 80 = .ok (.getfield 25, 3) := by decide +kernel
theorem d_Z_complete_83 : decode c_Z_completeb 83 = .ok (.aload_n 0, 1) := by decide +kernel
theorem d_Z_complete_84 : decode c_Z_completeb 84 = .ok (.getfield 54, 3) := by decide +kernel
theorem d_Z_complete_87 : decode c_Z_completeb 87 = .ok (.iload_n 2, 1) := by decide +kernel
theorem d_Z_complete_88 : decode c_Z_completeb 88 = .ok (.iaload, 1) := by decide +kernel
theorem d_Z_complete_89 : decode c_Z_completeb 89 = .ok (.iaload, 1) := by decide +kernel
theorem d_Z_complete_90 : decode c_Z_completeb 90 = .ok (.iload 5, 2) := by decide +kernel
theorem d_Z_complete_92 : decode c_Z_completeb 92 = .ok (.invokestatic 106, 3) := by decide +kernel
theorem d_Z_complete_95 : decode c_Z_completeb 95 = .ok (.istore 7, 2) := by decide +kernel
theorem d_Z_complete_97 : decode c_Z_completeb 97 = .ok (.iload_n 3, 1) := by decide +kernel
theorem d_Z_complete_98 : decode c_Z_completeb 98 = .ok (.iload 6, 2) := by decide +kernel
theorem d_Z_complete_100 : decode c_Z_completeb 100 = .ok (.iload 7, 2) := by decide +kernel
theorem d_Z_complete_102 : decode c_Z_completeb 102 = .ok (.if_icmp .le 8, 3) := by decide +kernel
theorem d_Z_complete_105 : decode c_Z_completeb 105 = .ok (.iload 6, 2) := by decide +kernel
theorem d_Z_complete_107 : decode c_Z_completeb 107 = .ok (.goto 5, 3) := by decide +kernel
theorem d_Z_complete_110 : decode c_Z_completeb 110 = .ok (.iload 7, 2) := by decide +kernel
theorem d_Z_complete_112 : decode c_Z_completeb 112 = .ok (.iadd, 1) := by decide +kernel
theorem d_Z_complete_113 : decode c_Z_completeb 113 = .ok (.istore_n 3, 1) := by decide +kernel
theorem d_Z_complete_114 : decode c_Z_completeb 114 = .ok (.iload 4, 2) := by decide +kernel
theorem d_Z_complete_116 : decode c_Z_completeb 116 = .ok (.iload 6, 2) := by decide +kernel
theorem d_Z_complete_118 : decode c_Z_completeb 118 = .ok (.iload 7, 2) := by decide +kernel
theorem d_Z_complete_120 : decode c_Z_completeb 120 = .ok (.iadd, 1) := by decide +kernel
theorem d_Z_complete_121 : decode c_Z_completeb 121 = .ok (.iadd, 1) := by decide +kernel
theorem d_Z_complete_122 : decode c_Z_completeb 122 = .ok (.istore 4, 2) := by decide +kernel
theorem d_Z_complete_124 : decode c_Z_completeb 124 = .ok (.iinc 5 1, 3) := by decide +kernel
theorem d_Z_complete_127 : decode c_Z_completeb 127 = .ok (.goto (-72), 3) := by decide +kernel
theorem d_Z_complete_130 : decode c_Z_completeb 130 = .ok (.iload_n 3, 1) := by decide +kernel
theorem d_Z_complete_131 : decode c_Z_completeb 131 = .ok (.aload_n 0, 1) := by decide +kernel
theorem d_Z_complete_132 : decode c_Z_completeb 132 = .ok (.getfield 41, 3) := by decide +kernel
theorem d_Z_complete_135 : decode c_Z_completeb 135 = .ok (.if_icmp .le 11, 3) := by decide +kernel
theorem d_Z_complete_138 : decode c_Z_completeb 138 = .ok (.iload_n 3, 1) := by decide +kernel
theorem d_Z_complete_139 : decode c_Z_completeb 139 = .ok (.iload 4, 2) := by decide +kernel
theorem d_Z_complete_141 : decode c_Z_completeb 141 = .ok (.if_icmp .eq 5, 3) := by decide +kernel
theorem d_Z_complete_144 : decode c_Z_completeb 144 = .ok (.iconst 0, 1) := by decide +kernel
theorem d_Z_complete_145 : decode c_Z_completeb 145 = .ok (.ireturn, 1) := by decide +kernel
theorem d_Z_complete_146 : decode c_Z_completeb 146 = .ok (.iinc 2 1, 3) := by decide +kernel
theorem d_Z_complete_149 : decode c_Z_completeb 149 = .ok (.goto (-107), 3) := by decide +kernel
theorem d_Z_complete_152 : decode c_Z_completeb 152 = .ok (.iinc 1 1, 3) := by decide +kernel
theorem d_Z_complete_155 : decode c_Z_completeb 155 = .ok (.goto (-123), 3) := by decide +kernel
theorem d_Z_complete_158 : decode c_Z_completeb 158 = .ok (.iconst 1, 1) := by decide +kernel
theorem d_Z_complete_159 : decode c_Z_completeb 159 = .ok (.ireturn, 1) := by decide +kernel
abbrev ws_zcomplete (a_Z a_Z_mono a_Z_degree a_Z_generator a_Z_basis a_Z_hand a_Z_has a_Z_row a_Z_work a_Z_rest a_Z_product a_Z_known a_Z_lead a_Z_tail a_Z_word a_Z_vector a_Z_system a_Z_now a_Z_next : Nat) (cI cL cZ : ClassId) (Z_thrownCode Z_p Z_n Z_order Z_monomials Z_generators Z_upTo Z_members Z_lefts Z_vars Z_leadsFound Z_words : Int32) (Z_mono Z_degree Z_generator Z_basis : Nat → Int32) : va_W := [(a_Z, .inr (5, [.int Z_thrownCode, .int Z_p, .int Z_n, .int Z_order, .int Z_monomials, .ref a_Z_mono, .ref a_Z_degree, .int Z_generators, .ref a_Z_generator, .ref a_Z_hand, .int Z_upTo, .ref a_Z_has, .ref a_Z_row, .ref a_Z_work, .ref a_Z_basis, .int Z_members, .int Z_lefts, .int Z_vars, .ref a_Z_rest, .ref a_Z_product, .ref a_Z_known, .int Z_leadsFound, .ref a_Z_lead, .ref a_Z_tail, .int Z_words, .ref a_Z_word, .ref a_Z_vector, .ref a_Z_system, .ref a_Z_now, .ref a_Z_next])), (a_Z_mono, .inl (cI, 126, .inl Z_mono)), (a_Z_degree, .inl (cI, 126, .inl Z_degree)), (a_Z_generator, .inl (cI, 1008, .inl Z_generator)), (a_Z_basis, .inl (cI, 126, .inl Z_basis))]
abbrev rm_zcomplete : Room := { frames := 1, cells := 0, slots := 0, locals := 23 }
abbrev g_zcomplete (X : gX) (r_ : Int32) (pc : Nat) (lv : List (Nat × Value)) (st : List Value) : Prop := ∀ ls : Array Slot, lv_has ls 8 lv → gWW X rm_zcomplete (gs X).heap [] 0 0 (MQ (gbl X) (vp_Si (fun r => r = r_)) (ga X) (gs X) 0 0 (fun _ => False)) (F0 (gm X) pc ls st)
set_option maxHeartbeats 4000000 in
set_option maxRecDepth 100000 in
theorem w_zcomplete_112 (X : gX) (D : va_G) (cI cL cZ : ClassId) (a_Z a_Z_mono a_Z_degree a_Z_generator a_Z_basis a_Z_hand a_Z_has a_Z_row a_Z_work a_Z_rest a_Z_product a_Z_known a_Z_lead a_Z_tail a_Z_word a_Z_vector a_Z_system a_Z_now a_Z_next : Nat) (F : Nat) (Z_thrownCode Z_p Z_n Z_order Z_monomials Z_generators Z_upTo Z_members Z_lefts Z_vars Z_leadsFound Z_words : Int32) (Z_mono Z_degree Z_generator Z_basis : Nat → Int32) (r_ : Int32) (C0 : gC X c_Z_completeb (some .boolean) 8 "RemnantDictionaryModel" gAll) (hK : va_K D classes (gT cI cL cZ) (gs X)) (hP : va_P D classes (ws_zcomplete a_Z a_Z_mono a_Z_degree a_Z_generator a_Z_basis a_Z_hand a_Z_has a_Z_row a_Z_work a_Z_rest a_Z_product a_Z_known a_Z_lead a_Z_tail a_Z_word a_Z_vector a_Z_system a_Z_now a_Z_next cI cL cZ Z_thrownCode Z_p Z_n Z_order Z_monomials Z_generators Z_upTo Z_members Z_lefts Z_vars Z_leadsFound Z_words Z_mono Z_degree Z_generator Z_basis) (gs X).heap) (hN : gN (gs X)) (k32 : Int32 → Option (Int32)) (hk32 : ∀ (i1 : Int32), k32 i1 = some r_ → g_zcomplete X r_ 32 [(0, .ref a_Z), (1, .int i1)] []) (k42 : Int32 → Int32 → Option (Int32)) (hk42 : ∀ (i1 i2 : Int32), k42 i1 i2 = some r_ → g_zcomplete X r_ 42 [(0, .ref a_Z), (1, .int i1), (2, .int i2)] []) (k55 : Int32 → Int32 → Int32 → Int32 → Int32 → Option (Int32)) (hk55 : ∀ (i1 i2 i3 i4 i5 : Int32), k55 i1 i2 i3 i4 i5 = some r_ → g_zcomplete X r_ 55 [(0, .ref a_Z), (1, .int i1), (2, .int i2), (3, .int i3), (4, .int i4), (5, .int i5)] []) (i1 i2 i4 i5 i6 i7 t0 t1 : Int32) (hrun : s_zcomplete_112 F Z_generators Z_members Z_monomials Z_upTo Z_mono Z_degree Z_generator Z_basis k32 k42 k55 i1 i2 i4 i5 i6 i7 t0 t1 = some r_) : g_zcomplete X r_ 112 [(0, .ref a_Z), (1, .int i1), (2, .int i2), (4, .int i4), (5, .int i5), (6, .int i6), (7, .int i7)] [.int t1, .int t0] := by
  have C1 := C0
  obtain ⟨hx, hb, hr, hml, hown, hts, hlocks⟩ := C1
  unfold s_zcomplete_112 at hrun
  intro ls hl
  refine lv_iadd hx hb d_Z_complete_112 ?_
  refine lv_istore_n (lv' := [(3, .int (t0 + t1)), (0, .ref a_Z), (1, .int i1), (2, .int i2), (4, .int i4), (5, .int i5), (6, .int i6), (7, .int i7)]) hx hb d_Z_complete_113 rfl hl (by decide) rfl (fun ls hl => ?_)
  refine lv_iload hx hb d_Z_complete_114 (lv_at hl 4 rfl) ?_
  refine lv_iload hx hb d_Z_complete_116 (lv_at hl 6 rfl) ?_
  refine lv_iload hx hb d_Z_complete_118 (lv_at hl 7 rfl) ?_
  refine lv_iadd hx hb d_Z_complete_120 ?_
  refine lv_iadd hx hb d_Z_complete_121 ?_
  refine lv_istore (lv' := [(4, .int (i4 + (i6 + i7))), (3, .int (t0 + t1)), (0, .ref a_Z), (1, .int i1), (2, .int i2), (5, .int i5), (6, .int i6), (7, .int i7)]) hx hb d_Z_complete_122 hl (by decide) rfl (fun ls hl => ?_)
  refine lv_iinc (v := (i5 + 1)) (lv' := [(5, .int (i5 + 1)), (4, .int (i4 + (i6 + i7))), (3, .int (t0 + t1)), (0, .ref a_Z), (1, .int i1), (2, .int i2), (6, .int i6), (7, .int i7)]) hx hb d_Z_complete_124 hl (k := 5) rfl rfl (by decide) rfl (fun ls hl => ?_)
  refine lv_goto (tgt := 55) hx hb d_Z_complete_127 (by decide) ?_
  exact hk55 i1 i2 (t0 + t1) (i4 + (i6 + i7)) (i5 + 1) hrun ls (lv_sub hl [3, 4, 5, 2, 1, 0] rfl)
set_option maxHeartbeats 4000000 in
set_option maxRecDepth 100000 in
theorem w_zcomplete_55 (X : gX) (D : va_G) (cI cL cZ : ClassId) (a_Z a_Z_mono a_Z_degree a_Z_generator a_Z_basis a_Z_hand a_Z_has a_Z_row a_Z_work a_Z_rest a_Z_product a_Z_known a_Z_lead a_Z_tail a_Z_word a_Z_vector a_Z_system a_Z_now a_Z_next : Nat) (F : Nat) (Z_thrownCode Z_p Z_n Z_order Z_monomials Z_generators Z_upTo Z_members Z_lefts Z_vars Z_leadsFound Z_words : Int32) (Z_mono Z_degree Z_generator Z_basis : Nat → Int32) (r_ : Int32) (C0 : gC X c_Z_completeb (some .boolean) 8 "RemnantDictionaryModel" gAll) (hK : va_K D classes (gT cI cL cZ) (gs X)) (hP : va_P D classes (ws_zcomplete a_Z a_Z_mono a_Z_degree a_Z_generator a_Z_basis a_Z_hand a_Z_has a_Z_row a_Z_work a_Z_rest a_Z_product a_Z_known a_Z_lead a_Z_tail a_Z_word a_Z_vector a_Z_system a_Z_now a_Z_next cI cL cZ Z_thrownCode Z_p Z_n Z_order Z_monomials Z_generators Z_upTo Z_members Z_lefts Z_vars Z_leadsFound Z_words Z_mono Z_degree Z_generator Z_basis) (gs X).heap) (hN : gN (gs X)) (k32 : Int32 → Option (Int32)) (hk32 : ∀ (i1 : Int32), k32 i1 = some r_ → g_zcomplete X r_ 32 [(0, .ref a_Z), (1, .int i1)] []) (k42 : Int32 → Int32 → Option (Int32)) (hk42 : ∀ (i1 i2 : Int32), k42 i1 i2 = some r_ → g_zcomplete X r_ 42 [(0, .ref a_Z), (1, .int i1), (2, .int i2)] []) (k55 : Int32 → Int32 → Int32 → Int32 → Int32 → Option (Int32)) (hk55 : ∀ (i1 i2 i3 i4 i5 : Int32), k55 i1 i2 i3 i4 i5 = some r_ → g_zcomplete X r_ 55 [(0, .ref a_Z), (1, .int i1), (2, .int i2), (3, .int i3), (4, .int i4), (5, .int i5)] []) (i1 i2 i3 i4 i5 : Int32) (hrun : s_zcomplete_55 F Z_generators Z_members Z_monomials Z_upTo Z_mono Z_degree Z_generator Z_basis k32 k42 k55 i1 i2 i3 i4 i5 = some r_) : g_zcomplete X r_ 55 [(0, .ref a_Z), (1, .int i1), (2, .int i2), (3, .int i3), (4, .int i4), (5, .int i5)] [] := by
  have C1 := C0
  obtain ⟨hx, hb, hr, hml, hown, hts, hlocks⟩ := C1
  unfold s_zcomplete_55 at hrun
  intro ls hl
  refine lv_iload hx hb d_Z_complete_55 (lv_at hl 5 rfl) ?_
  refine lv_iconst (v := 4) hx hb d_Z_complete_57 (by decide) ?_
  refine g_icmp_ge (tgt := 130) hx hb d_Z_complete_58 (by decide) hrun (fun _ hrun => ?_) (fun _ hrun => ?_)
  · refine lv_iload_n hx hb d_Z_complete_130 rfl (lv_at hl 3 rfl) ?_
    refine lv_aload_n hx hb d_Z_complete_131 rfl (lv_at hl 0 rfl) ?_
    refine va_get (D := D) (ci := 5) (v := .int Z_upTo) (C := "RemnantDictionaryModel") (T := T_Z) (N := 30) hx hb hts iw_Z hown hK hP 0 rfl rfl 10 (by decide) (hts _ k_427) (fun _ h9 => h9) rfl d_Z_complete_132 ?_
    refine g_icmp_le (tgt := 146) hx hb d_Z_complete_135 (by decide) hrun (fun _ hrun => ?_) (fun _ hrun => ?_)
    · refine lv_iinc (v := (i2 + 1)) (lv' := [(2, .int (i2 + 1)), (0, .ref a_Z), (1, .int i1), (3, .int i3), (4, .int i4), (5, .int i5)]) hx hb d_Z_complete_146 hl (k := 2) rfl rfl (by decide) rfl (fun ls hl => ?_)
      refine lv_goto (tgt := 42) hx hb d_Z_complete_149 (by decide) ?_
      exact hk42 i1 (i2 + 1) hrun ls (lv_sub hl [1, 2, 0] rfl)
    · refine lv_iload_n hx hb d_Z_complete_138 rfl (lv_at hl 3 rfl) ?_
      refine lv_iload hx hb d_Z_complete_139 (lv_at hl 4 rfl) ?_
      refine g_icmp_eq (tgt := 146) hx hb d_Z_complete_141 (by decide) hrun (fun _ hrun => ?_) (fun _ hrun => ?_)
      · refine lv_iinc (v := (i2 + 1)) (lv' := [(2, .int (i2 + 1)), (0, .ref a_Z), (1, .int i1), (3, .int i3), (4, .int i4), (5, .int i5)]) hx hb d_Z_complete_146 hl (k := 2) rfl rfl (by decide) rfl (fun ls hl => ?_)
        refine lv_goto (tgt := 42) hx hb d_Z_complete_149 (by decide) ?_
        exact hk42 i1 (i2 + 1) hrun ls (lv_sub hl [1, 2, 0] rfl)
      · refine lv_iconst (v := 0) hx hb d_Z_complete_144 (by decide) ?_
        cases hrun
        exact W.zret hx hb hr rfl (fun t ht hW => ⟨_, rfl, rfl, ht⟩) (fun q h => absurd h List.not_mem_nil) d_Z_complete_145
  · refine lv_aload_n hx hb d_Z_complete_61 rfl (lv_at hl 0 rfl) ?_
    refine va_get (D := D) (ci := 5) (v := .ref a_Z_mono) (C := "RemnantDictionaryModel") (T := T_Z) (N := 30) hx hb hts iw_Z hown hK hP 0 rfl rfl 5 (by decide) (hts _ k_372) (fun _ h9 => h9) rfl d_Z_complete_62 ?_
    refine lv_aload_n hx hb d_Z_complete_65 rfl (lv_at hl 0 rfl) ?_
    refine va_get (D := D) (ci := 5) (v := .ref a_Z_basis) (C := "RemnantDictionaryModel") (T := T_Z) (N := 30) hx hb hts iw_Z hown hK hP 0 rfl rfl 14 (by decide) (hts _ k_428) (fun _ h9 => h9) rfl d_Z_complete_66 ?_
    refine lv_iload_n hx hb d_Z_complete_69 rfl (lv_at hl 1 rfl) ?_
    refine g_iald hx hb hK hP 4 0 rfl rfl hrun d_Z_complete_70 (fun x_1 hrun => ?_)
    refine g_iald hx hb hK hP 1 0 rfl rfl hrun d_Z_complete_71 (fun x_2 hrun => ?_)
    refine lv_iload hx hb d_Z_complete_72 (lv_at hl 5 rfl) ?_
    obtain ⟨r_3, hc, hrun⟩ := bd1_s hrun
    refine vp_callSi (W.runS (As := [.int x_2, .int i5]) (rest := []) ⟨hx, hb, hml, hown, hts⟩ (c_zexponent (gl X) F x_2 i5 r_3 hc) (va_cwS 2 hts (gwS k_334 k_332 k_333 k_331) rfl rfl rfl (by decide +kernel) ⟨Nat.le_of_ble_eq_true rfl, Nat.le_of_ble_eq_true rfl⟩) (gpreS0 hN) rfl rfl hl.1 rfl (lv_room (Nat.le_of_ble_eq_true rfl)) d_Z_complete_74 ⟨Nat.le_of_ble_eq_true rfl, Nat.le_of_ble_eq_true rfl⟩) (nm_e ?_)
    refine lv_istore (lv' := [(6, .int r_3), (0, .ref a_Z), (1, .int i1), (2, .int i2), (3, .int i3), (4, .int i4), (5, .int i5)]) hx hb d_Z_complete_77 hl (by decide) rfl (fun ls hl => ?_)
    refine lv_aload_n hx hb d_Z_complete_79 rfl (lv_at hl 1 rfl) ?_
    refine va_get (D := D) (ci := 5) (v := .ref a_Z_mono) (C := "RemnantDictionaryModel") (T := T_Z) (N := 30) hx hb hts iw_Z hown hK hP 0 rfl rfl 5 (by decide) (hts _ k_372) (fun _ h9 => h9) rfl d_Z_complete_80 ?_
    refine lv_aload_n hx hb d_Z_complete_83 rfl (lv_at hl 1 rfl) ?_
    refine va_get (D := D) (ci := 5) (v := .ref a_Z_basis) (C := "RemnantDictionaryModel") (T := T_Z) (N := 30) hx hb hts iw_Z hown hK hP 0 rfl rfl 14 (by decide) (hts _ k_428) (fun _ h9 => h9) rfl d_Z_complete_84 ?_
    refine lv_iload_n hx hb d_Z_complete_87 rfl (lv_at hl 3 rfl) ?_
    refine g_iald hx hb hK hP 4 0 rfl rfl hrun d_Z_complete_88 (fun x_4 hrun => ?_)
    refine g_iald hx hb hK hP 1 0 rfl rfl hrun d_Z_complete_89 (fun x_5 hrun => ?_)
    refine lv_iload hx hb d_Z_complete_90 (lv_at hl 6 rfl) ?_
    obtain ⟨r_6, hc, hrun⟩ := bd1_s hrun
    refine vp_callSi (W.runS (As := [.int x_5, .int i5]) (rest := []) ⟨hx, hb, hml, hown, hts⟩ (c_zexponent (gl X) F x_5 i5 r_6 hc) (va_cwS 2 hts (gwS k_334 k_332 k_333 k_331) rfl rfl rfl (by decide +kernel) ⟨Nat.le_of_ble_eq_true rfl, Nat.le_of_ble_eq_true rfl⟩) (gpreS0 hN) rfl rfl hl.1 rfl (lv_room (Nat.le_of_ble_eq_true rfl)) d_Z_complete_92 ⟨Nat.le_of_ble_eq_true rfl, Nat.le_of_ble_eq_true rfl⟩) (nm_e ?_)
    refine lv_istore (lv' := [(7, .int r_6), (6, .int r_3), (0, .ref a_Z), (1, .int i1), (2, .int i2), (3, .int i3), (4, .int i4), (5, .int i5)]) hx hb d_Z_complete_95 hl (by decide) rfl (fun ls hl => ?_)
    refine lv_iload_n hx hb d_Z_complete_97 rfl (lv_at hl 5 rfl) ?_
    refine lv_iload hx hb d_Z_complete_98 (lv_at hl 1 rfl) ?_
    refine lv_iload hx hb d_Z_complete_100 (lv_at hl 0 rfl) ?_
    refine g_icmp_le (tgt := 110) hx hb d_Z_complete_102 (by decide) hrun (fun _ hrun => ?_) (fun _ hrun => ?_)
    · refine lv_iload hx hb d_Z_complete_110 (lv_at hl 0 rfl) ?_
      exact w_zcomplete_112 X D cI cL cZ a_Z a_Z_mono a_Z_degree a_Z_generator a_Z_basis a_Z_hand a_Z_has a_Z_row a_Z_work a_Z_rest a_Z_product a_Z_known a_Z_lead a_Z_tail a_Z_word a_Z_vector a_Z_system a_Z_now a_Z_next F Z_thrownCode Z_p Z_n Z_order Z_monomials Z_generators Z_upTo Z_members Z_lefts Z_vars Z_leadsFound Z_words Z_mono Z_degree Z_generator Z_basis r_ C0 hK hP hN k32 hk32 k42 hk42 k55 hk55 i1 i2 i4 i5 r_3 r_6 i3 r_6 hrun ls (lv_sub hl [2, 3, 4, 6, 7, 1, 0] rfl)
    · refine lv_iload hx hb d_Z_complete_105 (lv_at hl 1 rfl) ?_
      refine lv_goto (tgt := 112) hx hb d_Z_complete_107 (by decide) ?_
      exact w_zcomplete_112 X D cI cL cZ a_Z a_Z_mono a_Z_degree a_Z_generator a_Z_basis a_Z_hand a_Z_has a_Z_row a_Z_work a_Z_rest a_Z_product a_Z_known a_Z_lead a_Z_tail a_Z_word a_Z_vector a_Z_system a_Z_now a_Z_next F Z_thrownCode Z_p Z_n Z_order Z_monomials Z_generators Z_upTo Z_members Z_lefts Z_vars Z_leadsFound Z_words Z_mono Z_degree Z_generator Z_basis r_ C0 hK hP hN k32 hk32 k42 hk42 k55 hk55 i1 i2 i4 i5 r_3 r_6 i3 r_3 hrun ls (lv_sub hl [2, 3, 4, 6, 7, 1, 0] rfl)
theorem v_zcomplete_55 (X : gX) (D : va_G) (cI cL cZ : ClassId) (a_Z a_Z_mono a_Z_degree a_Z_generator a_Z_basis a_Z_hand a_Z_has a_Z_row a_Z_work a_Z_rest a_Z_product a_Z_known a_Z_lead a_Z_tail a_Z_word a_Z_vector a_Z_system a_Z_now a_Z_next : Nat) (F : Nat) (Z_thrownCode Z_p Z_n Z_order Z_monomials Z_generators Z_upTo Z_members Z_lefts Z_vars Z_leadsFound Z_words : Int32) (Z_mono Z_degree Z_generator Z_basis : Nat → Int32) (r_ : Int32) (C0 : gC X c_Z_completeb (some .boolean) 8 "RemnantDictionaryModel" gAll) (hK : va_K D classes (gT cI cL cZ) (gs X)) (hP : va_P D classes (ws_zcomplete a_Z a_Z_mono a_Z_degree a_Z_generator a_Z_basis a_Z_hand a_Z_has a_Z_row a_Z_work a_Z_rest a_Z_product a_Z_known a_Z_lead a_Z_tail a_Z_word a_Z_vector a_Z_system a_Z_now a_Z_next cI cL cZ Z_thrownCode Z_p Z_n Z_order Z_monomials Z_generators Z_upTo Z_members Z_lefts Z_vars Z_leadsFound Z_words Z_mono Z_degree Z_generator Z_basis) (gs X).heap) (hN : gN (gs X)) (k32 : Int32 → Option (Int32)) (hk32 : ∀ (i1 : Int32), k32 i1 = some r_ → g_zcomplete X r_ 32 [(0, .ref a_Z), (1, .int i1)] []) (k42 : Int32 → Int32 → Option (Int32)) (hk42 : ∀ (i1 i2 : Int32), k42 i1 i2 = some r_ → g_zcomplete X r_ 42 [(0, .ref a_Z), (1, .int i1), (2, .int i2)] []) : ∀ (n : Nat) (i1 i2 i3 i4 i5 : Int32), b_zcomplete_55 F Z_generators Z_members Z_monomials Z_upTo Z_mono Z_degree Z_generator Z_basis k32 k42 n i1 i2 i3 i4 i5 = some r_ → g_zcomplete X r_ 55 [(0, .ref a_Z), (1, .int i1), (2, .int i2), (3, .int i3), (4, .int i4), (5, .int i5)] [] := by
  intro n
  induction n with
  | zero => intro i1 i2 i3 i4 i5 hrun; cases hrun
  | succ n ih =>
    intro i1 i2 i3 i4 i5 hrun
    exact w_zcomplete_55 X D cI cL cZ a_Z a_Z_mono a_Z_degree a_Z_generator a_Z_basis a_Z_hand a_Z_has a_Z_row a_Z_work a_Z_rest a_Z_product a_Z_known a_Z_lead a_Z_tail a_Z_word a_Z_vector a_Z_system a_Z_now a_Z_next F Z_thrownCode Z_p Z_n Z_order Z_monomials Z_generators Z_upTo Z_members Z_lefts Z_vars Z_leadsFound Z_words Z_mono Z_degree Z_generator Z_basis r_ C0 hK hP hN k32 hk32 k42 hk42 (b_zcomplete_55 F Z_generators Z_members Z_monomials Z_upTo Z_mono Z_degree Z_generator Z_basis k32 k42 n) ih i1 i2 i3 i4 i5 hrun
set_option maxHeartbeats 4000000 in
set_option maxRecDepth 100000 in
theorem w_zcomplete_42 (X : gX) (D : va_G) (cI cL cZ : ClassId) (a_Z a_Z_mono a_Z_degree a_Z_generator a_Z_basis a_Z_hand a_Z_has a_Z_row a_Z_work a_Z_rest a_Z_product a_Z_known a_Z_lead a_Z_tail a_Z_word a_Z_vector a_Z_system a_Z_now a_Z_next : Nat) (F : Nat) (Z_thrownCode Z_p Z_n Z_order Z_monomials Z_generators Z_upTo Z_members Z_lefts Z_vars Z_leadsFound Z_words : Int32) (Z_mono Z_degree Z_generator Z_basis : Nat → Int32) (r_ : Int32) (C0 : gC X c_Z_completeb (some .boolean) 8 "RemnantDictionaryModel" gAll) (hK : va_K D classes (gT cI cL cZ) (gs X)) (hP : va_P D classes (ws_zcomplete a_Z a_Z_mono a_Z_degree a_Z_generator a_Z_basis a_Z_hand a_Z_has a_Z_row a_Z_work a_Z_rest a_Z_product a_Z_known a_Z_lead a_Z_tail a_Z_word a_Z_vector a_Z_system a_Z_now a_Z_next cI cL cZ Z_thrownCode Z_p Z_n Z_order Z_monomials Z_generators Z_upTo Z_members Z_lefts Z_vars Z_leadsFound Z_words Z_mono Z_degree Z_generator Z_basis) (gs X).heap) (hN : gN (gs X)) (k32 : Int32 → Option (Int32)) (hk32 : ∀ (i1 : Int32), k32 i1 = some r_ → g_zcomplete X r_ 32 [(0, .ref a_Z), (1, .int i1)] []) (k42 : Int32 → Int32 → Option (Int32)) (hk42 : ∀ (i1 i2 : Int32), k42 i1 i2 = some r_ → g_zcomplete X r_ 42 [(0, .ref a_Z), (1, .int i1), (2, .int i2)] []) (i1 i2 : Int32) (hrun : s_zcomplete_42 F Z_generators Z_members Z_monomials Z_upTo Z_mono Z_degree Z_generator Z_basis k32 k42 i1 i2 = some r_) : g_zcomplete X r_ 42 [(0, .ref a_Z), (1, .int i1), (2, .int i2)] [] := by
  have C1 := C0
  obtain ⟨hx, hb, hr, hml, hown, hts, hlocks⟩ := C1
  unfold s_zcomplete_42 at hrun
  intro ls hl
  refine lv_iload_n hx hb d_Z_complete_42 rfl (lv_at hl 2 rfl) ?_
  refine lv_iload_n hx hb d_Z_complete_43 rfl (lv_at hl 1 rfl) ?_
  refine g_icmp_ge (tgt := 152) hx hb d_Z_complete_44 (by decide) hrun (fun _ hrun => ?_) (fun _ hrun => ?_)
  · refine lv_iinc (v := (i1 + 1)) (lv' := [(1, .int (i1 + 1)), (0, .ref a_Z), (2, .int i2)]) hx hb d_Z_complete_152 hl (k := 1) rfl rfl (by decide) rfl (fun ls hl => ?_)
    refine lv_goto (tgt := 32) hx hb d_Z_complete_155 (by decide) ?_
    exact hk32 (i1 + 1) hrun ls (lv_sub hl [1, 0] rfl)
  · refine lv_iconst (v := 0) hx hb d_Z_complete_47 (by decide) ?_
    refine lv_istore_n (lv' := [(3, .int 0), (0, .ref a_Z), (1, .int i1), (2, .int i2)]) hx hb d_Z_complete_48 rfl hl (by decide) rfl (fun ls hl => ?_)
    refine lv_iconst (v := 0) hx hb d_Z_complete_49 (by decide) ?_
    refine lv_istore (lv' := [(4, .int 0), (3, .int 0), (0, .ref a_Z), (1, .int i1), (2, .int i2)]) hx hb d_Z_complete_50 hl (by decide) rfl (fun ls hl => ?_)
    refine lv_iconst (v := 0) hx hb d_Z_complete_52 (by decide) ?_
    refine lv_istore (lv' := [(5, .int 0), (4, .int 0), (3, .int 0), (0, .ref a_Z), (1, .int i1), (2, .int i2)]) hx hb d_Z_complete_53 hl (by decide) rfl (fun ls hl => ?_)
    exact v_zcomplete_55 X D cI cL cZ a_Z a_Z_mono a_Z_degree a_Z_generator a_Z_basis a_Z_hand a_Z_has a_Z_row a_Z_work a_Z_rest a_Z_product a_Z_known a_Z_lead a_Z_tail a_Z_word a_Z_vector a_Z_system a_Z_now a_Z_next F Z_thrownCode Z_p Z_n Z_order Z_monomials Z_generators Z_upTo Z_members Z_lefts Z_vars Z_leadsFound Z_words Z_mono Z_degree Z_generator Z_basis r_ C0 hK hP hN k32 hk32 k42 hk42 F i1 i2 0 0 0 hrun ls (lv_sub hl [3, 4, 5, 2, 1, 0] rfl)
theorem v_zcomplete_42 (X : gX) (D : va_G) (cI cL cZ : ClassId) (a_Z a_Z_mono a_Z_degree a_Z_generator a_Z_basis a_Z_hand a_Z_has a_Z_row a_Z_work a_Z_rest a_Z_product a_Z_known a_Z_lead a_Z_tail a_Z_word a_Z_vector a_Z_system a_Z_now a_Z_next : Nat) (F : Nat) (Z_thrownCode Z_p Z_n Z_order Z_monomials Z_generators Z_upTo Z_members Z_lefts Z_vars Z_leadsFound Z_words : Int32) (Z_mono Z_degree Z_generator Z_basis : Nat → Int32) (r_ : Int32) (C0 : gC X c_Z_completeb (some .boolean) 8 "RemnantDictionaryModel" gAll) (hK : va_K D classes (gT cI cL cZ) (gs X)) (hP : va_P D classes (ws_zcomplete a_Z a_Z_mono a_Z_degree a_Z_generator a_Z_basis a_Z_hand a_Z_has a_Z_row a_Z_work a_Z_rest a_Z_product a_Z_known a_Z_lead a_Z_tail a_Z_word a_Z_vector a_Z_system a_Z_now a_Z_next cI cL cZ Z_thrownCode Z_p Z_n Z_order Z_monomials Z_generators Z_upTo Z_members Z_lefts Z_vars Z_leadsFound Z_words Z_mono Z_degree Z_generator Z_basis) (gs X).heap) (hN : gN (gs X)) (k32 : Int32 → Option (Int32)) (hk32 : ∀ (i1 : Int32), k32 i1 = some r_ → g_zcomplete X r_ 32 [(0, .ref a_Z), (1, .int i1)] []) : ∀ (n : Nat) (i1 i2 : Int32), b_zcomplete_42 F Z_generators Z_members Z_monomials Z_upTo Z_mono Z_degree Z_generator Z_basis k32 n i1 i2 = some r_ → g_zcomplete X r_ 42 [(0, .ref a_Z), (1, .int i1), (2, .int i2)] [] := by
  intro n
  induction n with
  | zero => intro i1 i2 hrun; cases hrun
  | succ n ih =>
    intro i1 i2 hrun
    exact w_zcomplete_42 X D cI cL cZ a_Z a_Z_mono a_Z_degree a_Z_generator a_Z_basis a_Z_hand a_Z_has a_Z_row a_Z_work a_Z_rest a_Z_product a_Z_known a_Z_lead a_Z_tail a_Z_word a_Z_vector a_Z_system a_Z_now a_Z_next F Z_thrownCode Z_p Z_n Z_order Z_monomials Z_generators Z_upTo Z_members Z_lefts Z_vars Z_leadsFound Z_words Z_mono Z_degree Z_generator Z_basis r_ C0 hK hP hN k32 hk32 (b_zcomplete_42 F Z_generators Z_members Z_monomials Z_upTo Z_mono Z_degree Z_generator Z_basis k32 n) ih i1 i2 hrun
set_option maxHeartbeats 4000000 in
set_option maxRecDepth 100000 in
theorem w_zcomplete_32 (X : gX) (D : va_G) (cI cL cZ : ClassId) (a_Z a_Z_mono a_Z_degree a_Z_generator a_Z_basis a_Z_hand a_Z_has a_Z_row a_Z_work a_Z_rest a_Z_product a_Z_known a_Z_lead a_Z_tail a_Z_word a_Z_vector a_Z_system a_Z_now a_Z_next : Nat) (F : Nat) (Z_thrownCode Z_p Z_n Z_order Z_monomials Z_generators Z_upTo Z_members Z_lefts Z_vars Z_leadsFound Z_words : Int32) (Z_mono Z_degree Z_generator Z_basis : Nat → Int32) (r_ : Int32) (C0 : gC X c_Z_completeb (some .boolean) 8 "RemnantDictionaryModel" gAll) (hK : va_K D classes (gT cI cL cZ) (gs X)) (hP : va_P D classes (ws_zcomplete a_Z a_Z_mono a_Z_degree a_Z_generator a_Z_basis a_Z_hand a_Z_has a_Z_row a_Z_work a_Z_rest a_Z_product a_Z_known a_Z_lead a_Z_tail a_Z_word a_Z_vector a_Z_system a_Z_now a_Z_next cI cL cZ Z_thrownCode Z_p Z_n Z_order Z_monomials Z_generators Z_upTo Z_members Z_lefts Z_vars Z_leadsFound Z_words Z_mono Z_degree Z_generator Z_basis) (gs X).heap) (hN : gN (gs X)) (k32 : Int32 → Option (Int32)) (hk32 : ∀ (i1 : Int32), k32 i1 = some r_ → g_zcomplete X r_ 32 [(0, .ref a_Z), (1, .int i1)] []) (i1 : Int32) (hrun : s_zcomplete_32 F Z_generators Z_members Z_monomials Z_upTo Z_mono Z_degree Z_generator Z_basis k32 i1 = some r_) : g_zcomplete X r_ 32 [(0, .ref a_Z), (1, .int i1)] [] := by
  have C1 := C0
  obtain ⟨hx, hb, hr, hml, hown, hts, hlocks⟩ := C1
  unfold s_zcomplete_32 at hrun
  intro ls hl
  refine lv_iload_n hx hb d_Z_complete_32 rfl (lv_at hl 1 rfl) ?_
  refine lv_aload_n hx hb d_Z_complete_33 rfl (lv_at hl 0 rfl) ?_
  refine va_get (D := D) (ci := 5) (v := .int Z_members) (C := "RemnantDictionaryModel") (T := T_Z) (N := 30) hx hb hts iw_Z hown hK hP 0 rfl rfl 15 (by decide) (hts _ k_429) (fun _ h9 => h9) rfl d_Z_complete_34 ?_
  refine g_icmp_ge (tgt := 158) hx hb d_Z_complete_37 (by decide) hrun (fun _ hrun => ?_) (fun _ hrun => ?_)
  · refine lv_iconst (v := 1) hx hb d_Z_complete_158 (by decide) ?_
    cases hrun
    exact W.zret hx hb hr rfl (fun t ht hW => ⟨_, rfl, rfl, ht⟩) (fun q h => absurd h List.not_mem_nil) d_Z_complete_159
  · refine lv_iconst (v := 0) hx hb d_Z_complete_40 (by decide) ?_
    refine lv_istore_n (lv' := [(2, .int 0), (0, .ref a_Z), (1, .int i1)]) hx hb d_Z_complete_41 rfl hl (by decide) rfl (fun ls hl => ?_)
    exact v_zcomplete_42 X D cI cL cZ a_Z a_Z_mono a_Z_degree a_Z_generator a_Z_basis a_Z_hand a_Z_has a_Z_row a_Z_work a_Z_rest a_Z_product a_Z_known a_Z_lead a_Z_tail a_Z_word a_Z_vector a_Z_system a_Z_now a_Z_next F Z_thrownCode Z_p Z_n Z_order Z_monomials Z_generators Z_upTo Z_members Z_lefts Z_vars Z_leadsFound Z_words Z_mono Z_degree Z_generator Z_basis r_ C0 hK hP hN k32 hk32 F i1 0 hrun ls (lv_sub hl [1, 2, 0] rfl)
theorem v_zcomplete_32 (X : gX) (D : va_G) (cI cL cZ : ClassId) (a_Z a_Z_mono a_Z_degree a_Z_generator a_Z_basis a_Z_hand a_Z_has a_Z_row a_Z_work a_Z_rest a_Z_product a_Z_known a_Z_lead a_Z_tail a_Z_word a_Z_vector a_Z_system a_Z_now a_Z_next : Nat) (F : Nat) (Z_thrownCode Z_p Z_n Z_order Z_monomials Z_generators Z_upTo Z_members Z_lefts Z_vars Z_leadsFound Z_words : Int32) (Z_mono Z_degree Z_generator Z_basis : Nat → Int32) (r_ : Int32) (C0 : gC X c_Z_completeb (some .boolean) 8 "RemnantDictionaryModel" gAll) (hK : va_K D classes (gT cI cL cZ) (gs X)) (hP : va_P D classes (ws_zcomplete a_Z a_Z_mono a_Z_degree a_Z_generator a_Z_basis a_Z_hand a_Z_has a_Z_row a_Z_work a_Z_rest a_Z_product a_Z_known a_Z_lead a_Z_tail a_Z_word a_Z_vector a_Z_system a_Z_now a_Z_next cI cL cZ Z_thrownCode Z_p Z_n Z_order Z_monomials Z_generators Z_upTo Z_members Z_lefts Z_vars Z_leadsFound Z_words Z_mono Z_degree Z_generator Z_basis) (gs X).heap) (hN : gN (gs X))  : ∀ (n : Nat) (i1 : Int32), b_zcomplete_32 F Z_generators Z_members Z_monomials Z_upTo Z_mono Z_degree Z_generator Z_basis n i1 = some r_ → g_zcomplete X r_ 32 [(0, .ref a_Z), (1, .int i1)] [] := by
  intro n
  induction n with
  | zero => intro i1 hrun; cases hrun
  | succ n ih =>
    intro i1 hrun
    exact w_zcomplete_32 X D cI cL cZ a_Z a_Z_mono a_Z_degree a_Z_generator a_Z_basis a_Z_hand a_Z_has a_Z_row a_Z_work a_Z_rest a_Z_product a_Z_known a_Z_lead a_Z_tail a_Z_word a_Z_vector a_Z_system a_Z_now a_Z_next F Z_thrownCode Z_p Z_n Z_order Z_monomials Z_generators Z_upTo Z_members Z_lefts Z_vars Z_leadsFound Z_words Z_mono Z_degree Z_generator Z_basis r_ C0 hK hP hN (b_zcomplete_32 F Z_generators Z_members Z_monomials Z_upTo Z_mono Z_degree Z_generator Z_basis n) ih i1 hrun
set_option maxHeartbeats 4000000 in
set_option maxRecDepth 100000 in
theorem w_zcomplete_2 (X : gX) (D : va_G) (cI cL cZ : ClassId) (a_Z a_Z_mono a_Z_degree a_Z_generator a_Z_basis a_Z_hand a_Z_has a_Z_row a_Z_work a_Z_rest a_Z_product a_Z_known a_Z_lead a_Z_tail a_Z_word a_Z_vector a_Z_system a_Z_now a_Z_next : Nat) (F : Nat) (Z_thrownCode Z_p Z_n Z_order Z_monomials Z_generators Z_upTo Z_members Z_lefts Z_vars Z_leadsFound Z_words : Int32) (Z_mono Z_degree Z_generator Z_basis : Nat → Int32) (r_ : Int32) (C0 : gC X c_Z_completeb (some .boolean) 8 "RemnantDictionaryModel" gAll) (hK : va_K D classes (gT cI cL cZ) (gs X)) (hP : va_P D classes (ws_zcomplete a_Z a_Z_mono a_Z_degree a_Z_generator a_Z_basis a_Z_hand a_Z_has a_Z_row a_Z_work a_Z_rest a_Z_product a_Z_known a_Z_lead a_Z_tail a_Z_word a_Z_vector a_Z_system a_Z_now a_Z_next cI cL cZ Z_thrownCode Z_p Z_n Z_order Z_monomials Z_generators Z_upTo Z_members Z_lefts Z_vars Z_leadsFound Z_words Z_mono Z_degree Z_generator Z_basis) (gs X).heap) (hN : gN (gs X)) (k2 : Int32 → Option (Int32)) (hk2 : ∀ (i1 : Int32), k2 i1 = some r_ → g_zcomplete X r_ 2 [(0, .ref a_Z), (1, .int i1)] []) (i1 : Int32) (hrun : s_zcomplete_2 F Z_generators Z_members Z_monomials Z_upTo Z_mono Z_degree Z_generator Z_basis k2 i1 = some r_) : g_zcomplete X r_ 2 [(0, .ref a_Z), (1, .int i1)] [] := by
  have C1 := C0
  obtain ⟨hx, hb, hr, hml, hown, hts, hlocks⟩ := C1
  unfold s_zcomplete_2 at hrun
  intro ls hl
  refine lv_iload_n hx hb d_Z_complete_2 rfl (lv_at hl 1 rfl) ?_
  refine lv_aload_n hx hb d_Z_complete_3 rfl (lv_at hl 0 rfl) ?_
  refine va_get (D := D) (ci := 5) (v := .int Z_generators) (C := "RemnantDictionaryModel") (T := T_Z) (N := 30) hx hb hts iw_Z hown hK hP 0 rfl rfl 7 (by decide) (hts _ k_386) (fun _ h9 => h9) rfl d_Z_complete_4 ?_
  refine g_icmp_ge (tgt := 30) hx hb d_Z_complete_7 (by decide) hrun (fun _ hrun => ?_) (fun _ hrun => ?_)
  · refine lv_iconst (v := 0) hx hb d_Z_complete_30 (by decide) ?_
    refine lv_istore_n (lv' := [(1, .int 0), (0, .ref a_Z)]) hx hb d_Z_complete_31 rfl hl (by decide) rfl (fun ls hl => ?_)
    exact v_zcomplete_32 X D cI cL cZ a_Z a_Z_mono a_Z_degree a_Z_generator a_Z_basis a_Z_hand a_Z_has a_Z_row a_Z_work a_Z_rest a_Z_product a_Z_known a_Z_lead a_Z_tail a_Z_word a_Z_vector a_Z_system a_Z_now a_Z_next F Z_thrownCode Z_p Z_n Z_order Z_monomials Z_generators Z_upTo Z_members Z_lefts Z_vars Z_leadsFound Z_words Z_mono Z_degree Z_generator Z_basis r_ C0 hK hP hN  F 0 hrun ls (lv_sub hl [1, 0] rfl)
  · refine lv_aload_n hx hb d_Z_complete_10 rfl (lv_at hl 0 rfl) ?_
    refine lv_iload_n hx hb d_Z_complete_11 rfl (lv_at hl 1 rfl) ?_
    obtain ⟨r_1, hc, hrun⟩ := bd1_s hrun
    refine vp_callSi (W.runV (As := [.int i1]) (rest := []) ⟨hx, hb, hml, hown, hts⟩ (c_zdegreeOfGenerator (gl X) D cI cL cZ a_Z a_Z_degree a_Z_generator a_Z_mono a_Z_hand a_Z_has a_Z_row a_Z_work a_Z_basis a_Z_rest a_Z_product a_Z_known a_Z_lead a_Z_tail a_Z_word a_Z_vector a_Z_system a_Z_now a_Z_next F Z_thrownCode Z_p Z_n Z_order Z_monomials Z_generators Z_upTo Z_members Z_lefts Z_vars Z_leadsFound Z_words Z_degree Z_generator i1 r_1 hc) (cwV 1 hts (gwV k_425 k_423 k_424 k_333 k_411) rfl rfl rfl (by decide +kernel) ⟨Nat.le_of_ble_eq_true rfl, Nat.le_of_ble_eq_true rfl⟩) (gpreV (hP.sub (ws' := (ws_zdegreeOfGenerator a_Z a_Z_degree a_Z_generator a_Z_mono a_Z_hand a_Z_has a_Z_row a_Z_work a_Z_basis a_Z_rest a_Z_product a_Z_known a_Z_lead a_Z_tail a_Z_word a_Z_vector a_Z_system a_Z_now a_Z_next cI cL cZ Z_thrownCode Z_p Z_n Z_order Z_monomials Z_generators Z_upTo Z_members Z_lefts Z_vars Z_leadsFound Z_words Z_degree Z_generator)) [0, 2, 3] rfl) hK hN 5 0 rfl rfl) rfl rfl hl.1 rfl (lv_room (Nat.le_of_ble_eq_true rfl)) d_Z_complete_12 ⟨Nat.le_of_ble_eq_true rfl, Nat.le_of_ble_eq_true rfl⟩) (nm_e ?_)
    refine lv_aload_n hx hb d_Z_complete_15 rfl (lv_at hl 0 rfl) ?_
    refine va_get (D := D) (ci := 5) (v := .int Z_upTo) (C := "RemnantDictionaryModel") (T := T_Z) (N := 30) hx hb hts iw_Z hown hK hP 0 rfl rfl 10 (by decide) (hts _ k_427) (fun _ h9 => h9) rfl d_Z_complete_16 ?_
    refine g_icmp_le (tgt := 24) hx hb d_Z_complete_19 (by decide) hrun (fun _ hrun => ?_) (fun _ hrun => ?_)
    · refine lv_iinc (v := (i1 + 1)) (lv' := [(1, .int (i1 + 1)), (0, .ref a_Z)]) hx hb d_Z_complete_24 hl (k := 1) rfl rfl (by decide) rfl (fun ls hl => ?_)
      refine lv_goto (tgt := 2) hx hb d_Z_complete_27 (by decide) ?_
      exact hk2 (i1 + 1) hrun ls (lv_sub hl [1, 0] rfl)
    · refine lv_iconst (v := 0) hx hb d_Z_complete_22 (by decide) ?_
      cases hrun
      exact W.zret hx hb hr rfl (fun t ht hW => ⟨_, rfl, rfl, ht⟩) (fun q h => absurd h List.not_mem_nil) d_Z_complete_23
theorem v_zcomplete_2 (X : gX) (D : va_G) (cI cL cZ : ClassId) (a_Z a_Z_mono a_Z_degree a_Z_generator a_Z_basis a_Z_hand a_Z_has a_Z_row a_Z_work a_Z_rest a_Z_product a_Z_known a_Z_lead a_Z_tail a_Z_word a_Z_vector a_Z_system a_Z_now a_Z_next : Nat) (F : Nat) (Z_thrownCode Z_p Z_n Z_order Z_monomials Z_generators Z_upTo Z_members Z_lefts Z_vars Z_leadsFound Z_words : Int32) (Z_mono Z_degree Z_generator Z_basis : Nat → Int32) (r_ : Int32) (C0 : gC X c_Z_completeb (some .boolean) 8 "RemnantDictionaryModel" gAll) (hK : va_K D classes (gT cI cL cZ) (gs X)) (hP : va_P D classes (ws_zcomplete a_Z a_Z_mono a_Z_degree a_Z_generator a_Z_basis a_Z_hand a_Z_has a_Z_row a_Z_work a_Z_rest a_Z_product a_Z_known a_Z_lead a_Z_tail a_Z_word a_Z_vector a_Z_system a_Z_now a_Z_next cI cL cZ Z_thrownCode Z_p Z_n Z_order Z_monomials Z_generators Z_upTo Z_members Z_lefts Z_vars Z_leadsFound Z_words Z_mono Z_degree Z_generator Z_basis) (gs X).heap) (hN : gN (gs X))  : ∀ (n : Nat) (i1 : Int32), b_zcomplete_2 F Z_generators Z_members Z_monomials Z_upTo Z_mono Z_degree Z_generator Z_basis n i1 = some r_ → g_zcomplete X r_ 2 [(0, .ref a_Z), (1, .int i1)] [] := by
  intro n
  induction n with
  | zero => intro i1 hrun; cases hrun
  | succ n ih =>
    intro i1 hrun
    exact w_zcomplete_2 X D cI cL cZ a_Z a_Z_mono a_Z_degree a_Z_generator a_Z_basis a_Z_hand a_Z_has a_Z_row a_Z_work a_Z_rest a_Z_product a_Z_known a_Z_lead a_Z_tail a_Z_word a_Z_vector a_Z_system a_Z_now a_Z_next F Z_thrownCode Z_p Z_n Z_order Z_monomials Z_generators Z_upTo Z_members Z_lefts Z_vars Z_leadsFound Z_words Z_mono Z_degree Z_generator Z_basis r_ C0 hK hP hN (b_zcomplete_2 F Z_generators Z_members Z_monomials Z_upTo Z_mono Z_degree Z_generator Z_basis n) ih i1 hrun
set_option maxHeartbeats 4000000 in
set_option maxRecDepth 100000 in
theorem e_zcomplete (X : gX) (D : va_G) (cI cL cZ : ClassId) (a_Z a_Z_mono a_Z_degree a_Z_generator a_Z_basis a_Z_hand a_Z_has a_Z_row a_Z_work a_Z_rest a_Z_product a_Z_known a_Z_lead a_Z_tail a_Z_word a_Z_vector a_Z_system a_Z_now a_Z_next : Nat) (F : Nat) (Z_thrownCode Z_p Z_n Z_order Z_monomials Z_generators Z_upTo Z_members Z_lefts Z_vars Z_leadsFound Z_words : Int32) (Z_mono Z_degree Z_generator Z_basis : Nat → Int32) (r_ : Int32) (C0 : gC X c_Z_completeb (some .boolean) 8 "RemnantDictionaryModel" gAll) (hK : va_K D classes (gT cI cL cZ) (gs X)) (hP : va_P D classes (ws_zcomplete a_Z a_Z_mono a_Z_degree a_Z_generator a_Z_basis a_Z_hand a_Z_has a_Z_row a_Z_work a_Z_rest a_Z_product a_Z_known a_Z_lead a_Z_tail a_Z_word a_Z_vector a_Z_system a_Z_now a_Z_next cI cL cZ Z_thrownCode Z_p Z_n Z_order Z_monomials Z_generators Z_upTo Z_members Z_lefts Z_vars Z_leadsFound Z_words Z_mono Z_degree Z_generator Z_basis) (gs X).heap) (hN : gN (gs X))  (hrun : m_zcomplete F Z_generators Z_members Z_monomials Z_upTo Z_mono Z_degree Z_generator Z_basis = some r_) : g_zcomplete X r_ 0 [(0, .ref a_Z)] [] := by
  have C1 := C0
  obtain ⟨hx, hb, hr, hml, hown, hts, hlocks⟩ := C1
  unfold m_zcomplete at hrun
  intro ls hl
  refine lv_iconst (v := 0) hx hb d_Z_complete_0 (by decide) ?_
  refine lv_istore_n (lv' := [(1, .int 0), (0, .ref a_Z)]) hx hb d_Z_complete_1 rfl hl (by decide) rfl (fun ls hl => ?_)
  exact v_zcomplete_2 X D cI cL cZ a_Z a_Z_mono a_Z_degree a_Z_generator a_Z_basis a_Z_hand a_Z_has a_Z_row a_Z_work a_Z_rest a_Z_product a_Z_known a_Z_lead a_Z_tail a_Z_word a_Z_vector a_Z_system a_Z_now a_Z_next F Z_thrownCode Z_p Z_n Z_order Z_monomials Z_generators Z_upTo Z_members Z_lefts Z_vars Z_leadsFound Z_words Z_mono Z_degree Z_generator Z_basis r_ C0 hK hP hN  F 0 hrun ls (lv_sub hl [1, 0] rfl)
set_option maxHeartbeats 4000000 in
set_option maxRecDepth 100000 in
theorem c_zcomplete (l : Launch) (D : va_G) (cI cL cZ : ClassId) (a_Z a_Z_mono a_Z_degree a_Z_generator a_Z_basis a_Z_hand a_Z_has a_Z_row a_Z_work a_Z_rest a_Z_product a_Z_known a_Z_lead a_Z_tail a_Z_word a_Z_vector a_Z_system a_Z_now a_Z_next : Nat) (F : Nat) (Z_thrownCode Z_p Z_n Z_order Z_monomials Z_generators Z_upTo Z_members Z_lefts Z_vars Z_leadsFound Z_words : Int32) (Z_mono Z_degree Z_generator Z_basis : Nat → Int32) (r_ : Int32) (hrun : m_zcomplete F Z_generators Z_members Z_monomials Z_upTo Z_mono Z_degree Z_generator Z_basis = some r_) : Met l y_Z_complete (.code y_Z_complete c_Z_completeb 8 (some .boolean) :: gAll) rm_zcomplete (va_Pc [.ref a_Z] (gPR D (gT cI cL cZ) (ws_zcomplete a_Z a_Z_mono a_Z_degree a_Z_generator a_Z_basis a_Z_hand a_Z_has a_Z_row a_Z_work a_Z_rest a_Z_product a_Z_known a_Z_lead a_Z_tail a_Z_word a_Z_vector a_Z_system a_Z_now a_Z_next cI cL cZ Z_thrownCode Z_p Z_n Z_order Z_monomials Z_generators Z_upTo Z_members Z_lefts Z_vars Z_leadsFound Z_words Z_mono Z_degree Z_generator Z_basis))) (vp_Si (fun r => r = r_)) 0 0 (fun _ => False) := by
  refine Met.ofW (cc := c_Z_completeb) (maxL := 8) (ret := (some .boolean)) (by decide +kernel) rfl ?_
  intro p e s m args below meth c s₁ B hml hv
  obtain ⟨rfl, hP, hK, hN⟩ := hv
  have hl := lv_entry ([.ref a_Z]) (n := 8) (Nat.le_of_ble_eq_true rfl)
  rw [lg_entry_eq]
  generalize (lg_sl ([.ref a_Z]) ++ List.replicate (8 - (lg_sl ([.ref a_Z])).length) Slot.unset).toArray = ls at hl ⊢
  exact e_zcomplete (p, l, e, s, m, ([.ref a_Z] : List Value).toArray, below, meth, c) D cI cL cZ a_Z a_Z_mono a_Z_degree a_Z_generator a_Z_basis a_Z_hand a_Z_has a_Z_row a_Z_work a_Z_rest a_Z_product a_Z_known a_Z_lead a_Z_tail a_Z_word a_Z_vector a_Z_system a_Z_now a_Z_next F Z_thrownCode Z_p Z_n Z_order Z_monomials Z_generators Z_upTo Z_members Z_lefts Z_vars Z_leadsFound Z_words Z_mono Z_degree Z_generator Z_basis r_ ⟨B.exec, B.bytes, B.returns, hml, findClass_of_methodNamed B.named, fun w h => atoms_spec (ws := (.code y_Z_complete c_Z_completeb 8 (some .boolean) :: gAll)) B.pre w (List.mem_cons_of_mem _ h), B.notSynchronized⟩ hK hP hN  hrun ls hl
theorem d_Z_thrown_0 : decode c_Z_thrownb 0 = .ok (.aload_n 0, 1) := by decide +kernel
theorem d_Z_thrown_1 : decode c_Z_thrownb 1 = .ok (.getfield 7, 3) := by decide +kernel
theorem d_Z_thrown_4 : decode c_Z_thrownb 4 = .ok (.ireturn, 1) := by decide +kernel
abbrev ws_zthrown (a_Z a_Z_mono a_Z_degree a_Z_generator a_Z_hand a_Z_has a_Z_row a_Z_work a_Z_basis a_Z_rest a_Z_product a_Z_known a_Z_lead a_Z_tail a_Z_word a_Z_vector a_Z_system a_Z_now a_Z_next : Nat) (cI cL cZ : ClassId) (Z_thrownCode Z_p Z_n Z_order Z_monomials Z_generators Z_upTo Z_members Z_lefts Z_vars Z_leadsFound Z_words : Int32) : va_W := [(a_Z, .inr (5, [.int Z_thrownCode, .int Z_p, .int Z_n, .int Z_order, .int Z_monomials, .ref a_Z_mono, .ref a_Z_degree, .int Z_generators, .ref a_Z_generator, .ref a_Z_hand, .int Z_upTo, .ref a_Z_has, .ref a_Z_row, .ref a_Z_work, .ref a_Z_basis, .int Z_members, .int Z_lefts, .int Z_vars, .ref a_Z_rest, .ref a_Z_product, .ref a_Z_known, .int Z_leadsFound, .ref a_Z_lead, .ref a_Z_tail, .int Z_words, .ref a_Z_word, .ref a_Z_vector, .ref a_Z_system, .ref a_Z_now, .ref a_Z_next]))]
abbrev rm_zthrown : Room := { frames := 0, cells := 0, slots := 0, locals := 0 }
abbrev g_zthrown (X : gX) (r_ : Int32) (pc : Nat) (lv : List (Nat × Value)) (st : List Value) : Prop := ∀ ls : Array Slot, lv_has ls 1 lv → gWW X rm_zthrown (gs X).heap [] 0 0 (MQ (gbl X) (vp_Si (fun r => r = r_)) (ga X) (gs X) 0 0 (fun _ => False)) (F0 (gm X) pc ls st)
set_option maxHeartbeats 4000000 in
set_option maxRecDepth 100000 in
theorem e_zthrown (X : gX) (D : va_G) (cI cL cZ : ClassId) (a_Z a_Z_mono a_Z_degree a_Z_generator a_Z_hand a_Z_has a_Z_row a_Z_work a_Z_basis a_Z_rest a_Z_product a_Z_known a_Z_lead a_Z_tail a_Z_word a_Z_vector a_Z_system a_Z_now a_Z_next : Nat) (F : Nat) (Z_thrownCode Z_p Z_n Z_order Z_monomials Z_generators Z_upTo Z_members Z_lefts Z_vars Z_leadsFound Z_words r_ : Int32) (C0 : gC X c_Z_thrownb (some .int) 1 "RemnantDictionaryModel" gAll) (hK : va_K D classes (gT cI cL cZ) (gs X)) (hP : va_P D classes (ws_zthrown a_Z a_Z_mono a_Z_degree a_Z_generator a_Z_hand a_Z_has a_Z_row a_Z_work a_Z_basis a_Z_rest a_Z_product a_Z_known a_Z_lead a_Z_tail a_Z_word a_Z_vector a_Z_system a_Z_now a_Z_next cI cL cZ Z_thrownCode Z_p Z_n Z_order Z_monomials Z_generators Z_upTo Z_members Z_lefts Z_vars Z_leadsFound Z_words) (gs X).heap) (hN : gN (gs X))  (hrun : m_zthrown F Z_thrownCode = some r_) : g_zthrown X r_ 0 [(0, .ref a_Z)] [] := by
  have C1 := C0
  obtain ⟨hx, hb, hr, hml, hown, hts, hlocks⟩ := C1
  unfold m_zthrown at hrun
  intro ls hl
  refine lv_aload_n hx hb d_Z_thrown_0 rfl (lv_at hl 0 rfl) ?_
  refine va_get (D := D) (ci := 5) (v := .int Z_thrownCode) (C := "RemnantDictionaryModel") (T := T_Z) (N := 30) hx hb hts iw_Z hown hK hP 0 rfl rfl 0 (by decide) (hts _ k_430) (fun _ h9 => h9) rfl d_Z_thrown_1 ?_
  cases hrun
  exact W.iret hx hb hr (fun t ht hW => ⟨_, rfl, rfl, ht⟩) (fun q h => absurd h List.not_mem_nil) d_Z_thrown_4
set_option maxHeartbeats 4000000 in
set_option maxRecDepth 100000 in
theorem c_zthrown (l : Launch) (D : va_G) (cI cL cZ : ClassId) (a_Z a_Z_mono a_Z_degree a_Z_generator a_Z_hand a_Z_has a_Z_row a_Z_work a_Z_basis a_Z_rest a_Z_product a_Z_known a_Z_lead a_Z_tail a_Z_word a_Z_vector a_Z_system a_Z_now a_Z_next : Nat) (F : Nat) (Z_thrownCode Z_p Z_n Z_order Z_monomials Z_generators Z_upTo Z_members Z_lefts Z_vars Z_leadsFound Z_words : Int32) (r_ : Int32) (hrun : m_zthrown F Z_thrownCode = some r_) : Met l y_Z_thrown (.code y_Z_thrown c_Z_thrownb 1 (some .int) :: gAll) rm_zthrown (va_Pc [.ref a_Z] (gPR D (gT cI cL cZ) (ws_zthrown a_Z a_Z_mono a_Z_degree a_Z_generator a_Z_hand a_Z_has a_Z_row a_Z_work a_Z_basis a_Z_rest a_Z_product a_Z_known a_Z_lead a_Z_tail a_Z_word a_Z_vector a_Z_system a_Z_now a_Z_next cI cL cZ Z_thrownCode Z_p Z_n Z_order Z_monomials Z_generators Z_upTo Z_members Z_lefts Z_vars Z_leadsFound Z_words))) (vp_Si (fun r => r = r_)) 0 0 (fun _ => False) := by
  refine Met.ofW (cc := c_Z_thrownb) (maxL := 1) (ret := (some .int)) (by decide +kernel) rfl ?_
  intro p e s m args below meth c s₁ B hml hv
  obtain ⟨rfl, hP, hK, hN⟩ := hv
  have hl := lv_entry ([.ref a_Z]) (n := 1) (Nat.le_of_ble_eq_true rfl)
  rw [lg_entry_eq]
  generalize (lg_sl ([.ref a_Z]) ++ List.replicate (1 - (lg_sl ([.ref a_Z])).length) Slot.unset).toArray = ls at hl ⊢
  exact e_zthrown (p, l, e, s, m, ([.ref a_Z] : List Value).toArray, below, meth, c) D cI cL cZ a_Z a_Z_mono a_Z_degree a_Z_generator a_Z_hand a_Z_has a_Z_row a_Z_work a_Z_basis a_Z_rest a_Z_product a_Z_known a_Z_lead a_Z_tail a_Z_word a_Z_vector a_Z_system a_Z_now a_Z_next F Z_thrownCode Z_p Z_n Z_order Z_monomials Z_generators Z_upTo Z_members Z_lefts Z_vars Z_leadsFound Z_words r_ ⟨B.exec, B.bytes, B.returns, hml, findClass_of_methodNamed B.named, fun w h => atoms_spec (ws := (.code y_Z_thrown c_Z_thrownb 1 (some .int) :: gAll)) B.pre w (List.mem_cons_of_mem _ h), B.notSynchronized⟩ hK hP hN  hrun ls hl
theorem d_Z_field_0 : decode c_Z_fieldb 0 = .ok (.aload_n 0, 1) := by decide +kernel
theorem d_Z_field_1 : decode c_Z_fieldb 1 = .ok (.iload_n 1, 1) := by decide +kernel
theorem d_Z_field_2 : decode c_Z_fieldb 2 = .ok (.invokestatic 152, 3) := by decide +kernel
theorem d_Z_field_5 : decode c_Z_fieldb 5 = .ok (.ifCond .eq 22, 3) := by decide +kernel
theorem d_Z_field_8 : decode c_Z_fieldb 8 = .ok (.iload_n 2, 1) := by decide +kernel
theorem d_Z_field_9 : decode c_Z_fieldb 9 = .ok (.iconst 1, 1) := by decide +kernel
theorem d_Z_field_10 : decode c_Z_fieldb 10 = .ok (.if_icmp .lt 17, 3) := by decide +kernel
theorem d_Z_field_13 : decode c_Z_fieldb 13 = .ok (.iload_n 2, 1) := by decide +kernel
theorem d_Z_field_14 : decode c_Z_fieldb 14 = .ok (.iconst 4, 1) := by decide +kernel
theorem d_Z_field_15 : decode c_Z_fieldb 15 = .ok (.if_icmp .gt 12, 3) := by decide +kernel
theorem d_Z_field_18 : decode c_Z_fieldb 18 = .ok (.iload_n 3, 1) := by decide +kernel
theorem d_Z_field_19 : decode c_Z_fieldb 19 = .ok (.ifCond .lt 8, 3) := by decide +kernel
theorem d_Z_field_22 : decode c_Z_fieldb 22 = .ok (.iload_n 3, 1) := by decide +kernel
theorem d_Z_field_23 : decode c_Z_fieldb 23 = .ok (.iconst 1, 1) := by decide +kernel
theorem d_Z_field_24 : decode c_Z_fieldb 24 = .ok (.if_icmp .le 7, 3) := by decide +kernel
theorem d_Z_field_27 : decode c_Z_fieldb 27 = .ok (.iconst 1, 1) := by decide +kernel
theorem d_Z_field_28 : decode c_Z_fieldb 28 = .ok (.goto 4, 3) := by decide +kernel
theorem d_Z_field_31 : decode c_Z_fieldb 31 = .ok (.iconst 0, 1) := by decide +kernel
theorem d_Z_field_32 : decode c_Z_fieldb 32 = .ok (.putfield 7, 3) := by decide +kernel
theorem d_Z_field_35 : decode c_Z_fieldb 35 = .ok (.aload_n 0, 1) := by decide +kernel
theorem d_Z_field_36 : decode c_Z_fieldb 36 = .ok (.getfield 7, 3) := by decide +kernel
theorem d_Z_field_39 : decode c_Z_fieldb 39 = .ok (.ifCond .ne 10, 3) := by decide +kernel
theorem d_Z_field_42 : decode c_Z_fieldb 42 = .ok (.aload_n 0, 1) := by decide +kernel
theorem d_Z_field_43 : decode c_Z_fieldb 43 = .ok (.iload_n 1, 1) := by decide +kernel
theorem d_Z_field_44 : decode c_Z_fieldb 44 = .ok (.iload_n 2, 1) := by decide +kernel
theorem d_Z_field_45 : decode c_Z_fieldb 45 = .ok (.iload_n 3, 1) := by decide +kernel
theorem d_Z_field_46 : decode c_Z_fieldb 46 = .ok (.invokevirtual 102, 3) := by decide +kernel
theorem d_Z_field_49 : decode c_Z_fieldb 49 = .ok (.return_, 1) := by decide +kernel
abbrev ws_zfield (a_Z a_Z_mono a_Z_degree a_Z_hand a_Z_generator a_Z_has a_Z_row a_Z_work a_Z_basis a_Z_rest a_Z_product a_Z_known a_Z_lead a_Z_tail a_Z_word a_Z_vector a_Z_system a_Z_now a_Z_next : Nat) (cI cL cZ : ClassId) (Z_thrownCode Z_p Z_n Z_order Z_monomials Z_generators Z_upTo Z_members Z_lefts Z_vars Z_leadsFound Z_words : Int32) (Z_mono Z_degree Z_hand : Nat → Int32) : va_W := [(a_Z, .inr (5, [.int Z_thrownCode, .int Z_p, .int Z_n, .int Z_order, .int Z_monomials, .ref a_Z_mono, .ref a_Z_degree, .int Z_generators, .ref a_Z_generator, .ref a_Z_hand, .int Z_upTo, .ref a_Z_has, .ref a_Z_row, .ref a_Z_work, .ref a_Z_basis, .int Z_members, .int Z_lefts, .int Z_vars, .ref a_Z_rest, .ref a_Z_product, .ref a_Z_known, .int Z_leadsFound, .ref a_Z_lead, .ref a_Z_tail, .int Z_words, .ref a_Z_word, .ref a_Z_vector, .ref a_Z_system, .ref a_Z_now, .ref a_Z_next])), (a_Z_mono, .inl (cI, 126, .inl Z_mono)), (a_Z_degree, .inl (cI, 126, .inl Z_degree)), (a_Z_hand, .inl (cI, 126, .inl Z_hand))]
abbrev rm_zfield : Room := { frames := 5, cells := 0, slots := 0, locals := 115 }
abbrev g_zfield (X : gX) (D : va_G) (cI cL cZ : ClassId) (a_Z a_Z_mono a_Z_degree a_Z_hand a_Z_generator a_Z_has a_Z_row a_Z_work a_Z_basis a_Z_rest a_Z_product a_Z_known a_Z_lead a_Z_tail a_Z_word a_Z_vector a_Z_system a_Z_now a_Z_next : Nat) (A : Nat → Prop) (Z_upTo Z_members Z_lefts Z_vars Z_leadsFound Z_words Z_generators_r Z_monomials_r Z_n_r Z_order_r Z_p_r Z_thrownCode_r : Int32) (Z_mono_r Z_degree_r Z_hand_r : Nat → Int32) (pc : Nat) (lv : List (Nat × Value)) (st : List Value) (Z_generators Z_monomials Z_n Z_order Z_p Z_thrownCode : Int32) (Z_mono Z_degree Z_hand : Nat → Int32) : Prop := ∀ (H : Heap) (locs : List Loc) (ls : Array Slot), va_P D classes (ws_zfield a_Z a_Z_mono a_Z_degree a_Z_hand a_Z_generator a_Z_has a_Z_row a_Z_work a_Z_basis a_Z_rest a_Z_product a_Z_known a_Z_lead a_Z_tail a_Z_word a_Z_vector a_Z_system a_Z_now a_Z_next cI cL cZ Z_thrownCode Z_p Z_n Z_order Z_monomials Z_generators Z_upTo Z_members Z_lefts Z_vars Z_leadsFound Z_words Z_mono Z_degree Z_hand) H → va_D A (ws_zfield a_Z a_Z_mono a_Z_degree a_Z_hand a_Z_generator a_Z_has a_Z_row a_Z_work a_Z_basis a_Z_rest a_Z_product a_Z_known a_Z_lead a_Z_tail a_Z_word a_Z_vector a_Z_system a_Z_now a_Z_next cI cL cZ Z_thrownCode Z_p Z_n Z_order Z_monomials Z_generators Z_upTo Z_members Z_lefts Z_vars Z_leadsFound Z_words Z_mono Z_degree Z_hand) → va_S A (gs X).heap H locs → lv_has ls 4 lv → gWW X rm_zfield H locs 0 0 (MQ (gbl X) (va_Qv (fun _ : Unit => True) (gB D (gT cI cL cZ) A (ws_zfield a_Z a_Z_mono a_Z_degree a_Z_hand a_Z_generator a_Z_has a_Z_row a_Z_work a_Z_basis a_Z_rest a_Z_product a_Z_known a_Z_lead a_Z_tail a_Z_word a_Z_vector a_Z_system a_Z_now a_Z_next cI cL cZ Z_thrownCode_r Z_p_r Z_n_r Z_order_r Z_monomials_r Z_generators_r Z_upTo Z_members Z_lefts Z_vars Z_leadsFound Z_words Z_mono_r Z_degree_r Z_hand_r)) A) (ga X) (gs X) 0 0 A) (F0 (gm X) pc ls st)
set_option maxHeartbeats 4000000 in
set_option maxRecDepth 100000 in
theorem w_zfield_32 (X : gX) (D : va_G) (cI cL cZ : ClassId) (a_Z a_Z_mono a_Z_degree a_Z_hand a_Z_generator a_Z_has a_Z_row a_Z_work a_Z_basis a_Z_rest a_Z_product a_Z_known a_Z_lead a_Z_tail a_Z_word a_Z_vector a_Z_system a_Z_now a_Z_next : Nat) (A : Nat → Prop) (Z_upTo Z_members Z_lefts Z_vars Z_leadsFound Z_words Z_generators_r Z_monomials_r Z_n_r Z_order_r Z_p_r Z_thrownCode_r : Int32) (Z_mono_r Z_degree_r Z_hand_r : Nat → Int32) (F : Nat) (C0 : gC X c_Z_fieldb none 4 "RemnantDictionaryModel" gAll) (hK : va_K D classes (gT cI cL cZ) (gs X)) (hA : ∀ q : Nat, (gs X).heap.size ≤ q → A q) (hN : gN (gs X))  (i1 i2 i3 t1 Z_generators Z_monomials Z_n Z_order Z_p Z_thrownCode : Int32) (Z_mono Z_degree Z_hand : Nat → Int32) (hrun : s_zfield_32 F i1 i2 i3 t1 Z_generators Z_monomials Z_n Z_order Z_p Z_thrownCode Z_mono Z_degree Z_hand = some (Z_generators_r, Z_monomials_r, Z_n_r, Z_order_r, Z_p_r, Z_thrownCode_r, Z_mono_r, Z_degree_r, Z_hand_r)) : g_zfield X D cI cL cZ a_Z a_Z_mono a_Z_degree a_Z_hand a_Z_generator a_Z_has a_Z_row a_Z_work a_Z_basis a_Z_rest a_Z_product a_Z_known a_Z_lead a_Z_tail a_Z_word a_Z_vector a_Z_system a_Z_now a_Z_next A Z_upTo Z_members Z_lefts Z_vars Z_leadsFound Z_words Z_generators_r Z_monomials_r Z_n_r Z_order_r Z_p_r Z_thrownCode_r Z_mono_r Z_degree_r Z_hand_r 32 [(0, .ref a_Z), (1, .int i1), (2, .int i2), (3, .int i3)] [.int t1, .ref a_Z] Z_generators Z_monomials Z_n Z_order Z_p Z_thrownCode Z_mono Z_degree Z_hand := by
  have C1 := C0
  obtain ⟨hx, hb, hr, hml, hown, hts, hlocks⟩ := C1
  unfold s_zfield_32 at hrun
  intro H locs ls hP hD hS hl
  refine va_put (D := D) (ci := 5) (v := .int t1) (ty := .int) (C := "RemnantDictionaryModel") (T := T_Z) (N := 30) hx hb hts iw_Z ty_Z ty_Z_ok nm_Z hown hK hP hD hS 0 rfl rfl 0 (by decide) (hts _ k_430) (fun _ h9 => h9) rfl (by decide +kernel) rfl rfl (Nat.le_of_ble_eq_true rfl) d_Z_field_32 (fun H locs (hP : va_P D classes (ws_zfield a_Z a_Z_mono a_Z_degree a_Z_hand a_Z_generator a_Z_has a_Z_row a_Z_work a_Z_basis a_Z_rest a_Z_product a_Z_known a_Z_lead a_Z_tail a_Z_word a_Z_vector a_Z_system a_Z_now a_Z_next cI cL cZ t1 Z_p Z_n Z_order Z_monomials Z_generators Z_upTo Z_members Z_lefts Z_vars Z_leadsFound Z_words Z_mono Z_degree Z_hand) H) (hD : va_D A (ws_zfield a_Z a_Z_mono a_Z_degree a_Z_hand a_Z_generator a_Z_has a_Z_row a_Z_work a_Z_basis a_Z_rest a_Z_product a_Z_known a_Z_lead a_Z_tail a_Z_word a_Z_vector a_Z_system a_Z_now a_Z_next cI cL cZ t1 Z_p Z_n Z_order Z_monomials Z_generators Z_upTo Z_members Z_lefts Z_vars Z_leadsFound Z_words Z_mono Z_degree Z_hand)) hS => ?_)
  refine lv_aload_n hx hb d_Z_field_35 rfl (lv_at hl 0 rfl) ?_
  refine va_get (D := D) (ci := 5) (v := .int t1) (C := "RemnantDictionaryModel") (T := T_Z) (N := 30) hx hb hts iw_Z hown hK hP 0 rfl rfl 0 (by decide) (hts _ k_430) (fun _ h9 => h9) rfl d_Z_field_36 ?_
  refine g_if_ne (tgt := 49) hx hb d_Z_field_39 (by decide) hrun (fun _ hrun => ?_) (fun _ hrun => ?_)
  · cases hrun
    exact W.vret hx hb hr (fun t ht hW => ⟨⟨(), rfl, trivial, gB_of ht hW.alike hP hK hD⟩, hS.F ht⟩) hS.2.2 d_Z_field_49
  · refine lv_aload_n hx hb d_Z_field_42 rfl (lv_at hl 0 rfl) ?_
    refine lv_iload_n hx hb d_Z_field_43 rfl (lv_at hl 1 rfl) ?_
    refine lv_iload_n hx hb d_Z_field_44 rfl (lv_at hl 2 rfl) ?_
    refine lv_iload_n hx hb d_Z_field_45 rfl (lv_at hl 3 rfl) ?_
    obtain ⟨Z_generators_1, Z_monomials_2, Z_n_3, Z_order_4, Z_p_5, Z_mono_6, Z_degree_7, Z_hand_8, hc, hrun⟩ := bd8_s hrun
    have hFc := va_free (wc := (ws_zfresh a_Z a_Z_mono a_Z_degree a_Z_hand a_Z_generator a_Z_has a_Z_row a_Z_work a_Z_basis a_Z_rest a_Z_product a_Z_known a_Z_lead a_Z_tail a_Z_word a_Z_vector a_Z_system a_Z_now a_Z_next cI cL cZ t1 Z_p Z_n Z_order Z_monomials Z_generators Z_upTo Z_members Z_lefts Z_vars Z_leadsFound Z_words Z_mono Z_degree Z_hand)) hD hS hA [0, 1, 2, 3] rfl
    refine va_callv (va_runV (As := [.int i1, .int i2, .int i3]) (rest := []) ⟨hx, hb, hml, hown, hts⟩ (c_zfresh (gl X) D cI cL cZ a_Z a_Z_mono a_Z_degree a_Z_hand a_Z_generator a_Z_has a_Z_row a_Z_work a_Z_basis a_Z_rest a_Z_product a_Z_known a_Z_lead a_Z_tail a_Z_word a_Z_vector a_Z_system a_Z_now a_Z_next F t1 Z_p Z_n Z_order Z_monomials Z_generators Z_upTo Z_members Z_lefts Z_vars Z_leadsFound Z_words Z_mono Z_degree Z_hand i1 i2 i3 H.size Z_generators_1 Z_monomials_2 Z_n_3 Z_order_4 Z_p_5 Z_mono_6 Z_degree_7 Z_hand_8 hc) (cwV 3 hts (gwV k_434 k_432 k_433 k_333 k_380) rfl rfl rfl (by decide +kernel) ⟨Nat.le_of_ble_eq_true rfl, Nat.le_of_ble_eq_true rfl⟩) (gpreVW (hP.sub (ws' := (ws_zfresh a_Z a_Z_mono a_Z_degree a_Z_hand a_Z_generator a_Z_has a_Z_row a_Z_work a_Z_basis a_Z_rest a_Z_product a_Z_known a_Z_lead a_Z_tail a_Z_word a_Z_vector a_Z_system a_Z_now a_Z_next cI cL cZ t1 Z_p Z_n Z_order Z_monomials Z_generators Z_upTo Z_members Z_lefts Z_vars Z_leadsFound Z_words Z_mono Z_degree Z_hand)) [0, 1, 2, 3] rfl) hK hN (hD.sub (ws' := (ws_zfresh a_Z a_Z_mono a_Z_degree a_Z_hand a_Z_generator a_Z_has a_Z_row a_Z_work a_Z_basis a_Z_rest a_Z_product a_Z_known a_Z_lead a_Z_tail a_Z_word a_Z_vector a_Z_system a_Z_now a_Z_next cI cL cZ t1 Z_p Z_n Z_order Z_monomials Z_generators Z_upTo Z_members Z_lefts Z_vars Z_leadsFound Z_words Z_mono Z_degree Z_hand)) [0, 1, 2, 3] (by decide) rfl) 5 0 rfl rfl) rfl rfl hl.1 rfl (lv_room (Nat.le_of_ble_eq_true rfl)) d_Z_field_46 ⟨Nat.le_of_ble_eq_true rfl, Nat.le_of_ble_eq_true rfl⟩) hS (fun q _ h => hFc q h) hFc (fun _ t H_9 locs ht hvm hw hB hz1 hk1 hS => ?_)
    obtain ⟨hP, hD⟩ := va_join (wr := []) (w1 := (ws_zfresh a_Z a_Z_mono a_Z_degree a_Z_hand a_Z_generator a_Z_has a_Z_row a_Z_work a_Z_basis a_Z_rest a_Z_product a_Z_known a_Z_lead a_Z_tail a_Z_word a_Z_vector a_Z_system a_Z_now a_Z_next cI cL cZ t1 Z_p_5 Z_n_3 Z_order_4 Z_monomials_2 Z_generators_1 Z_upTo Z_members Z_lefts Z_vars Z_leadsFound Z_words Z_mono_6 Z_degree_7 Z_hand_8)) hP hD [0, 1, 2, 3] [] rfl rfl (by decide) (by decide) hk1 hFc (by have h9 := hB.1; rw [ht] at h9; exact h9) hB.2.2
    have hP : va_P D classes (ws_zfield a_Z a_Z_mono a_Z_degree a_Z_hand a_Z_generator a_Z_has a_Z_row a_Z_work a_Z_basis a_Z_rest a_Z_product a_Z_known a_Z_lead a_Z_tail a_Z_word a_Z_vector a_Z_system a_Z_now a_Z_next cI cL cZ t1 Z_p_5 Z_n_3 Z_order_4 Z_monomials_2 Z_generators_1 Z_upTo Z_members Z_lefts Z_vars Z_leadsFound Z_words Z_mono_6 Z_degree_7 Z_hand_8) H_9 := hP.sub [0, 1, 2, 3] rfl
    have hD : va_D A (ws_zfield a_Z a_Z_mono a_Z_degree a_Z_hand a_Z_generator a_Z_has a_Z_row a_Z_work a_Z_basis a_Z_rest a_Z_product a_Z_known a_Z_lead a_Z_tail a_Z_word a_Z_vector a_Z_system a_Z_now a_Z_next cI cL cZ t1 Z_p_5 Z_n_3 Z_order_4 Z_monomials_2 Z_generators_1 Z_upTo Z_members Z_lefts Z_vars Z_leadsFound Z_words Z_mono_6 Z_degree_7 Z_hand_8) := hD.sub [0, 1, 2, 3] (by decide) rfl
    cases hrun
    exact W.vret hx hb hr (fun t ht hW => ⟨⟨(), rfl, trivial, gB_of ht hW.alike hP hK hD⟩, hS.F ht⟩) hS.2.2 d_Z_field_49
set_option maxHeartbeats 4000000 in
set_option maxRecDepth 100000 in
theorem w_zfield_27 (X : gX) (D : va_G) (cI cL cZ : ClassId) (a_Z a_Z_mono a_Z_degree a_Z_hand a_Z_generator a_Z_has a_Z_row a_Z_work a_Z_basis a_Z_rest a_Z_product a_Z_known a_Z_lead a_Z_tail a_Z_word a_Z_vector a_Z_system a_Z_now a_Z_next : Nat) (A : Nat → Prop) (Z_upTo Z_members Z_lefts Z_vars Z_leadsFound Z_words Z_generators_r Z_monomials_r Z_n_r Z_order_r Z_p_r Z_thrownCode_r : Int32) (Z_mono_r Z_degree_r Z_hand_r : Nat → Int32) (F : Nat) (C0 : gC X c_Z_fieldb none 4 "RemnantDictionaryModel" gAll) (hK : va_K D classes (gT cI cL cZ) (gs X)) (hA : ∀ q : Nat, (gs X).heap.size ≤ q → A q) (hN : gN (gs X))  (i1 i2 i3 Z_generators Z_monomials Z_n Z_order Z_p Z_thrownCode : Int32) (Z_mono Z_degree Z_hand : Nat → Int32) (hrun : s_zfield_27 F i1 i2 i3 Z_generators Z_monomials Z_n Z_order Z_p Z_thrownCode Z_mono Z_degree Z_hand = some (Z_generators_r, Z_monomials_r, Z_n_r, Z_order_r, Z_p_r, Z_thrownCode_r, Z_mono_r, Z_degree_r, Z_hand_r)) : g_zfield X D cI cL cZ a_Z a_Z_mono a_Z_degree a_Z_hand a_Z_generator a_Z_has a_Z_row a_Z_work a_Z_basis a_Z_rest a_Z_product a_Z_known a_Z_lead a_Z_tail a_Z_word a_Z_vector a_Z_system a_Z_now a_Z_next A Z_upTo Z_members Z_lefts Z_vars Z_leadsFound Z_words Z_generators_r Z_monomials_r Z_n_r Z_order_r Z_p_r Z_thrownCode_r Z_mono_r Z_degree_r Z_hand_r 27 [(0, .ref a_Z), (1, .int i1), (2, .int i2), (3, .int i3)] [.ref a_Z] Z_generators Z_monomials Z_n Z_order Z_p Z_thrownCode Z_mono Z_degree Z_hand := by
  have C1 := C0
  obtain ⟨hx, hb, hr, hml, hown, hts, hlocks⟩ := C1
  unfold s_zfield_27 at hrun
  intro H locs ls hP hD hS hl
  refine lv_iconst (v := 1) hx hb d_Z_field_27 (by decide) ?_
  refine lv_goto (tgt := 32) hx hb d_Z_field_28 (by decide) ?_
  exact w_zfield_32 X D cI cL cZ a_Z a_Z_mono a_Z_degree a_Z_hand a_Z_generator a_Z_has a_Z_row a_Z_work a_Z_basis a_Z_rest a_Z_product a_Z_known a_Z_lead a_Z_tail a_Z_word a_Z_vector a_Z_system a_Z_now a_Z_next A Z_upTo Z_members Z_lefts Z_vars Z_leadsFound Z_words Z_generators_r Z_monomials_r Z_n_r Z_order_r Z_p_r Z_thrownCode_r Z_mono_r Z_degree_r Z_hand_r F C0 hK hA hN  i1 i2 i3 1 Z_generators Z_monomials Z_n Z_order Z_p Z_thrownCode Z_mono Z_degree Z_hand hrun H locs ls hP hD hS (lv_sub hl [0, 1, 2, 3] rfl)
set_option maxHeartbeats 4000000 in
set_option maxRecDepth 100000 in
theorem e_zfield (X : gX) (D : va_G) (cI cL cZ : ClassId) (a_Z a_Z_mono a_Z_degree a_Z_hand a_Z_generator a_Z_has a_Z_row a_Z_work a_Z_basis a_Z_rest a_Z_product a_Z_known a_Z_lead a_Z_tail a_Z_word a_Z_vector a_Z_system a_Z_now a_Z_next : Nat) (A : Nat → Prop) (Z_upTo Z_members Z_lefts Z_vars Z_leadsFound Z_words Z_generators_r Z_monomials_r Z_n_r Z_order_r Z_p_r Z_thrownCode_r : Int32) (Z_mono_r Z_degree_r Z_hand_r : Nat → Int32) (F : Nat) (C0 : gC X c_Z_fieldb none 4 "RemnantDictionaryModel" gAll) (hK : va_K D classes (gT cI cL cZ) (gs X)) (hA : ∀ q : Nat, (gs X).heap.size ≤ q → A q) (hN : gN (gs X)) (i1 i2 i3 Z_generators Z_monomials Z_n Z_order Z_p Z_thrownCode : Int32) (Z_mono Z_degree Z_hand : Nat → Int32) (hrun : m_zfield F i1 i2 i3 Z_generators Z_monomials Z_n Z_order Z_p Z_thrownCode Z_mono Z_degree Z_hand = some (Z_generators_r, Z_monomials_r, Z_n_r, Z_order_r, Z_p_r, Z_thrownCode_r, Z_mono_r, Z_degree_r, Z_hand_r)) : g_zfield X D cI cL cZ a_Z a_Z_mono a_Z_degree a_Z_hand a_Z_generator a_Z_has a_Z_row a_Z_work a_Z_basis a_Z_rest a_Z_product a_Z_known a_Z_lead a_Z_tail a_Z_word a_Z_vector a_Z_system a_Z_now a_Z_next A Z_upTo Z_members Z_lefts Z_vars Z_leadsFound Z_words Z_generators_r Z_monomials_r Z_n_r Z_order_r Z_p_r Z_thrownCode_r Z_mono_r Z_degree_r Z_hand_r 0 [(0, .ref a_Z), (1, .int i1), (2, .int i2), (3, .int i3)] [] Z_generators Z_monomials Z_n Z_order Z_p Z_thrownCode Z_mono Z_degree Z_hand := by
  have C1 := C0
  obtain ⟨hx, hb, hr, hml, hown, hts, hlocks⟩ := C1
  unfold m_zfield at hrun
  intro H locs ls hP hD hS hl
  refine lv_aload_n hx hb d_Z_field_0 rfl (lv_at hl 0 rfl) ?_
  refine lv_iload_n hx hb d_Z_field_1 rfl (lv_at hl 1 rfl) ?_
  obtain ⟨r_1, hc, hrun⟩ := bd1_s hrun
  refine vp_callSi (W.runS (As := [.int i1]) (rest := [.ref a_Z]) ⟨hx, hb, hml, hown, hts⟩ (c_zprime (gl X) F i1 r_1 hc) (va_cwS 1 hts (gwS k_437 k_436 k_333 k_337) rfl rfl rfl (by decide +kernel) ⟨Nat.le_of_ble_eq_true rfl, Nat.le_of_ble_eq_true rfl⟩) (gpreS0 hN) rfl rfl hl.1 rfl (lv_room (Nat.le_of_ble_eq_true rfl)) d_Z_field_2 ⟨Nat.le_of_ble_eq_true rfl, Nat.le_of_ble_eq_true rfl⟩) (nm_e ?_)
  refine g_if_eq (tgt := 27) hx hb d_Z_field_5 (by decide) hrun (fun _ hrun => ?_) (fun _ hrun => ?_)
  · exact w_zfield_27 X D cI cL cZ a_Z a_Z_mono a_Z_degree a_Z_hand a_Z_generator a_Z_has a_Z_row a_Z_work a_Z_basis a_Z_rest a_Z_product a_Z_known a_Z_lead a_Z_tail a_Z_word a_Z_vector a_Z_system a_Z_now a_Z_next A Z_upTo Z_members Z_lefts Z_vars Z_leadsFound Z_words Z_generators_r Z_monomials_r Z_n_r Z_order_r Z_p_r Z_thrownCode_r Z_mono_r Z_degree_r Z_hand_r F C0 hK hA hN  i1 i2 i3 Z_generators Z_monomials Z_n Z_order Z_p Z_thrownCode Z_mono Z_degree Z_hand hrun H locs ls hP hD hS (lv_sub hl [0, 1, 2, 3] rfl)
  · refine lv_iload_n hx hb d_Z_field_8 rfl (lv_at hl 2 rfl) ?_
    refine lv_iconst (v := 1) hx hb d_Z_field_9 (by decide) ?_
    refine g_icmp_lt (tgt := 27) hx hb d_Z_field_10 (by decide) hrun (fun _ hrun => ?_) (fun _ hrun => ?_)
    · exact w_zfield_27 X D cI cL cZ a_Z a_Z_mono a_Z_degree a_Z_hand a_Z_generator a_Z_has a_Z_row a_Z_work a_Z_basis a_Z_rest a_Z_product a_Z_known a_Z_lead a_Z_tail a_Z_word a_Z_vector a_Z_system a_Z_now a_Z_next A Z_upTo Z_members Z_lefts Z_vars Z_leadsFound Z_words Z_generators_r Z_monomials_r Z_n_r Z_order_r Z_p_r Z_thrownCode_r Z_mono_r Z_degree_r Z_hand_r F C0 hK hA hN  i1 i2 i3 Z_generators Z_monomials Z_n Z_order Z_p Z_thrownCode Z_mono Z_degree Z_hand hrun H locs ls hP hD hS (lv_sub hl [0, 1, 2, 3] rfl)
    · refine lv_iload_n hx hb d_Z_field_13 rfl (lv_at hl 2 rfl) ?_
      refine lv_iconst (v := 4) hx hb d_Z_field_14 (by decide) ?_
      refine g_icmp_gt (tgt := 27) hx hb d_Z_field_15 (by decide) hrun (fun _ hrun => ?_) (fun _ hrun => ?_)
      · exact w_zfield_27 X D cI cL cZ a_Z a_Z_mono a_Z_degree a_Z_hand a_Z_generator a_Z_has a_Z_row a_Z_work a_Z_basis a_Z_rest a_Z_product a_Z_known a_Z_lead a_Z_tail a_Z_word a_Z_vector a_Z_system a_Z_now a_Z_next A Z_upTo Z_members Z_lefts Z_vars Z_leadsFound Z_words Z_generators_r Z_monomials_r Z_n_r Z_order_r Z_p_r Z_thrownCode_r Z_mono_r Z_degree_r Z_hand_r F C0 hK hA hN  i1 i2 i3 Z_generators Z_monomials Z_n Z_order Z_p Z_thrownCode Z_mono Z_degree Z_hand hrun H locs ls hP hD hS (lv_sub hl [0, 1, 2, 3] rfl)
      · refine lv_iload_n hx hb d_Z_field_18 rfl (lv_at hl 3 rfl) ?_
        refine g_if_lt (tgt := 27) hx hb d_Z_field_19 (by decide) hrun (fun _ hrun => ?_) (fun _ hrun => ?_)
        · exact w_zfield_27 X D cI cL cZ a_Z a_Z_mono a_Z_degree a_Z_hand a_Z_generator a_Z_has a_Z_row a_Z_work a_Z_basis a_Z_rest a_Z_product a_Z_known a_Z_lead a_Z_tail a_Z_word a_Z_vector a_Z_system a_Z_now a_Z_next A Z_upTo Z_members Z_lefts Z_vars Z_leadsFound Z_words Z_generators_r Z_monomials_r Z_n_r Z_order_r Z_p_r Z_thrownCode_r Z_mono_r Z_degree_r Z_hand_r F C0 hK hA hN  i1 i2 i3 Z_generators Z_monomials Z_n Z_order Z_p Z_thrownCode Z_mono Z_degree Z_hand hrun H locs ls hP hD hS (lv_sub hl [0, 1, 2, 3] rfl)
        · refine lv_iload_n hx hb d_Z_field_22 rfl (lv_at hl 3 rfl) ?_
          refine lv_iconst (v := 1) hx hb d_Z_field_23 (by decide) ?_
          refine g_icmp_le (tgt := 31) hx hb d_Z_field_24 (by decide) hrun (fun _ hrun => ?_) (fun _ hrun => ?_)
          · refine lv_iconst (v := 0) hx hb d_Z_field_31 (by decide) ?_
            exact w_zfield_32 X D cI cL cZ a_Z a_Z_mono a_Z_degree a_Z_hand a_Z_generator a_Z_has a_Z_row a_Z_work a_Z_basis a_Z_rest a_Z_product a_Z_known a_Z_lead a_Z_tail a_Z_word a_Z_vector a_Z_system a_Z_now a_Z_next A Z_upTo Z_members Z_lefts Z_vars Z_leadsFound Z_words Z_generators_r Z_monomials_r Z_n_r Z_order_r Z_p_r Z_thrownCode_r Z_mono_r Z_degree_r Z_hand_r F C0 hK hA hN  i1 i2 i3 0 Z_generators Z_monomials Z_n Z_order Z_p Z_thrownCode Z_mono Z_degree Z_hand hrun H locs ls hP hD hS (lv_sub hl [0, 1, 2, 3] rfl)
          · exact w_zfield_27 X D cI cL cZ a_Z a_Z_mono a_Z_degree a_Z_hand a_Z_generator a_Z_has a_Z_row a_Z_work a_Z_basis a_Z_rest a_Z_product a_Z_known a_Z_lead a_Z_tail a_Z_word a_Z_vector a_Z_system a_Z_now a_Z_next A Z_upTo Z_members Z_lefts Z_vars Z_leadsFound Z_words Z_generators_r Z_monomials_r Z_n_r Z_order_r Z_p_r Z_thrownCode_r Z_mono_r Z_degree_r Z_hand_r F C0 hK hA hN  i1 i2 i3 Z_generators Z_monomials Z_n Z_order Z_p Z_thrownCode Z_mono Z_degree Z_hand hrun H locs ls hP hD hS (lv_sub hl [0, 1, 2, 3] rfl)
set_option maxHeartbeats 4000000 in
set_option maxRecDepth 100000 in
theorem c_zfield (l : Launch) (D : va_G) (cI cL cZ : ClassId) (a_Z a_Z_mono a_Z_degree a_Z_hand a_Z_generator a_Z_has a_Z_row a_Z_work a_Z_basis a_Z_rest a_Z_product a_Z_known a_Z_lead a_Z_tail a_Z_word a_Z_vector a_Z_system a_Z_now a_Z_next : Nat) (F : Nat) (Z_thrownCode Z_p Z_n Z_order Z_monomials Z_generators Z_upTo Z_members Z_lefts Z_vars Z_leadsFound Z_words : Int32) (Z_mono Z_degree Z_hand : Nat → Int32) (i1 i2 i3 : Int32) (sz : Nat) (Z_generators_r Z_monomials_r Z_n_r Z_order_r Z_p_r Z_thrownCode_r : Int32) (Z_mono_r Z_degree_r Z_hand_r : Nat → Int32) (hrun : m_zfield F i1 i2 i3 Z_generators Z_monomials Z_n Z_order Z_p Z_thrownCode Z_mono Z_degree Z_hand = some (Z_generators_r, Z_monomials_r, Z_n_r, Z_order_r, Z_p_r, Z_thrownCode_r, Z_mono_r, Z_degree_r, Z_hand_r)) : Met l y_Z_field (.code y_Z_field c_Z_fieldb 4 none :: gAll) rm_zfield (va_Pc [.ref a_Z, .int i1, .int i2, .int i3] (gPW D (gT cI cL cZ) (ws_zfield a_Z a_Z_mono a_Z_degree a_Z_hand a_Z_generator a_Z_has a_Z_row a_Z_work a_Z_basis a_Z_rest a_Z_product a_Z_known a_Z_lead a_Z_tail a_Z_word a_Z_vector a_Z_system a_Z_now a_Z_next cI cL cZ Z_thrownCode Z_p Z_n Z_order Z_monomials Z_generators Z_upTo Z_members Z_lefts Z_vars Z_leadsFound Z_words Z_mono Z_degree Z_hand) sz)) (va_Qv (fun _ : Unit => True) (gB D (gT cI cL cZ) (va_A (ws_zfield a_Z a_Z_mono a_Z_degree a_Z_hand a_Z_generator a_Z_has a_Z_row a_Z_work a_Z_basis a_Z_rest a_Z_product a_Z_known a_Z_lead a_Z_tail a_Z_word a_Z_vector a_Z_system a_Z_now a_Z_next cI cL cZ Z_thrownCode Z_p Z_n Z_order Z_monomials Z_generators Z_upTo Z_members Z_lefts Z_vars Z_leadsFound Z_words Z_mono Z_degree Z_hand) sz) (ws_zfield a_Z a_Z_mono a_Z_degree a_Z_hand a_Z_generator a_Z_has a_Z_row a_Z_work a_Z_basis a_Z_rest a_Z_product a_Z_known a_Z_lead a_Z_tail a_Z_word a_Z_vector a_Z_system a_Z_now a_Z_next cI cL cZ Z_thrownCode_r Z_p_r Z_n_r Z_order_r Z_monomials_r Z_generators_r Z_upTo Z_members Z_lefts Z_vars Z_leadsFound Z_words Z_mono_r Z_degree_r Z_hand_r)) (va_A (ws_zfield a_Z a_Z_mono a_Z_degree a_Z_hand a_Z_generator a_Z_has a_Z_row a_Z_work a_Z_basis a_Z_rest a_Z_product a_Z_known a_Z_lead a_Z_tail a_Z_word a_Z_vector a_Z_system a_Z_now a_Z_next cI cL cZ Z_thrownCode Z_p Z_n Z_order Z_monomials Z_generators Z_upTo Z_members Z_lefts Z_vars Z_leadsFound Z_words Z_mono Z_degree Z_hand) sz)) 0 0 (va_A (ws_zfield a_Z a_Z_mono a_Z_degree a_Z_hand a_Z_generator a_Z_has a_Z_row a_Z_work a_Z_basis a_Z_rest a_Z_product a_Z_known a_Z_lead a_Z_tail a_Z_word a_Z_vector a_Z_system a_Z_now a_Z_next cI cL cZ Z_thrownCode Z_p Z_n Z_order Z_monomials Z_generators Z_upTo Z_members Z_lefts Z_vars Z_leadsFound Z_words Z_mono Z_degree Z_hand) sz) := by
  refine Met.ofW (cc := c_Z_fieldb) (maxL := 4) (ret := none) (by decide +kernel) rfl ?_
  intro p e s m args below meth c s₁ B hml hv
  obtain ⟨rfl, hsz, hP, hK, hN, hD0⟩ := hv
  subst hsz
  have hD := hD0.self (sz := s.heap.size)
  have hl := lv_entry ([.ref a_Z, .int i1, .int i2, .int i3]) (n := 4) (Nat.le_of_ble_eq_true rfl)
  rw [lg_entry_eq]
  generalize (lg_sl ([.ref a_Z, .int i1, .int i2, .int i3]) ++ List.replicate (4 - (lg_sl ([.ref a_Z, .int i1, .int i2, .int i3])).length) Slot.unset).toArray = ls at hl ⊢
  exact e_zfield (p, l, e, s, m, ([.ref a_Z, .int i1, .int i2, .int i3] : List Value).toArray, below, meth, c) D cI cL cZ a_Z a_Z_mono a_Z_degree a_Z_hand a_Z_generator a_Z_has a_Z_row a_Z_work a_Z_basis a_Z_rest a_Z_product a_Z_known a_Z_lead a_Z_tail a_Z_word a_Z_vector a_Z_system a_Z_now a_Z_next (va_A (ws_zfield a_Z a_Z_mono a_Z_degree a_Z_hand a_Z_generator a_Z_has a_Z_row a_Z_work a_Z_basis a_Z_rest a_Z_product a_Z_known a_Z_lead a_Z_tail a_Z_word a_Z_vector a_Z_system a_Z_now a_Z_next cI cL cZ Z_thrownCode Z_p Z_n Z_order Z_monomials Z_generators Z_upTo Z_members Z_lefts Z_vars Z_leadsFound Z_words Z_mono Z_degree Z_hand) s.heap.size) Z_upTo Z_members Z_lefts Z_vars Z_leadsFound Z_words Z_generators_r Z_monomials_r Z_n_r Z_order_r Z_p_r Z_thrownCode_r Z_mono_r Z_degree_r Z_hand_r F ⟨B.exec, B.bytes, B.returns, hml, findClass_of_methodNamed B.named, fun w h => atoms_spec (ws := (.code y_Z_field c_Z_fieldb 4 none :: gAll)) B.pre w (List.mem_cons_of_mem _ h), B.notSynchronized⟩ hK (fun q h => Or.inr h) hN i1 i2 i3 Z_generators Z_monomials Z_n Z_order Z_p Z_thrownCode Z_mono Z_degree Z_hand hrun s.heap [] ls hP hD va_S.rf hl
theorem d_Z_coefficient_0 : decode c_Z_coefficientb 0 = .ok (.aload_n 0, 1) := by decide +kernel
theorem d_Z_coefficient_1 : decode c_Z_coefficientb 1 = .ok (.iload_n 1, 1) := by decide +kernel
theorem d_Z_coefficient_2 : decode c_Z_coefficientb 2 = .ok (.invokevirtual 135, 3) := by decide +kernel
theorem d_Z_coefficient_5 : decode c_Z_coefficientb 5 = .ok (.istore_n 3, 1) := by decide +kernel
theorem d_Z_coefficient_6 : decode c_Z_coefficientb 6 = .ok (.aload_n 0, 1) := by decide +kernel
theorem d_Z_coefficient_7 : decode c_Z_coefficientb 7 = .ok (.iload_n 3, 1) := by decide +kernel
theorem d_Z_coefficient_8 : decode c_Z_coefficientb 8 = .ok (.ifCond .ge 7, 3) := by decide +kernel
theorem d_Z_coefficient_11 : decode c_Z_coefficientb 11 = .ok (.iconst 1, 1) := by decide +kernel
theorem d_Z_coefficient_12 : decode c_Z_coefficientb 12 = .ok (.goto 4, 3) := by decide +kernel
theorem d_Z_coefficient_15 : decode c_Z_coefficientb 15 = .ok (.iconst 0, 1) := by decide +kernel
theorem d_Z_coefficient_16 : decode c_Z_coefficientb 16 = .ok (.putfield 7, 3) := by decide +kernel
theorem d_Z_coefficient_19 : decode c_Z_coefficientb 19 = .ok (.aload_n 0, 1) := by decide +kernel
theorem d_Z_coefficient_20 : decode c_Z_coefficientb 20 = .ok (.getfield 7, 3) := by decide +kernel
theorem d_Z_coefficient_23 : decode c_Z_coefficientb 23 = .ok (.ifCond .ne 25, 3) := by decide +kernel
theorem d_Z_coefficient_26 : decode c_Z_coefficientb 26 = .ok (.aload_n 0, 1) := by decide +kernel
theorem d_Z_coefficient_27 : decode c_Z_coefficientb 27 = .ok (.getfield 38, 3) := by decide +kernel
theorem d_Z_coefficient_30 : decode c_Z_coefficientb 30 = .ok (.iload_n 3, 1) := by decide +kernel
theorem d_Z_coefficient_31 : decode c_Z_coefficientb 31 = .ok (.iload_n 2, 1) := by decide +kernel
theorem d_Z_coefficient_32 : decode c_Z_coefficientb 32 = .ok (.aload_n 0, 1) := by decide +kernel
theorem d_Z_coefficient_33 : decode c_Z_coefficientb 33 = .ok (.getfield 13, 3) := by decide +kernel
theorem d_Z_coefficient_36 : decode c_Z_coefficientb 36 = .ok (.irem, 1) := by decide +kernel
theorem d_Z_coefficient_37 : decode c_Z_coefficientb 37 = .ok (.aload_n 0, 1) := by decide +kernel
theorem d_Z_coefficient_38 : decode c_Z_coefficientb 38 = .ok (.getfield 13, 3) := by decide +kernel
theorem d_Z_coefficient_41 : decode c_Z_coefficientb 41 = .ok (.iadd, 1) := by decide +kernel
theorem d_Z_coefficient_42 : decode c_Z_coefficientb 42 = .ok (.aload_n 0, 1) := by decide +kernel
theorem d_Z_coefficient_43 : decode c_Z_coefficientb 43 = .ok (.getfield 13, 3) := by decide +kernel
theorem d_Z_coefficient_46 : decode c_Z_coefficientb 46 = .ok (.irem, 1) := by decide +kernel
theorem d_Z_coefficient_47 : decode c_Z_coefficientb 47 = .ok (.iastore, 1) := by decide +kernel
theorem d_Z_coefficient_48 : decode c_Z_coefficientb 48 = .ok (.return_, 1) := by decide +kernel
abbrev ws_zcoefficient (a_Z a_Z_mono a_Z_hand a_Z_degree a_Z_generator a_Z_has a_Z_row a_Z_work a_Z_basis a_Z_rest a_Z_product a_Z_known a_Z_lead a_Z_tail a_Z_word a_Z_vector a_Z_system a_Z_now a_Z_next : Nat) (cI cL cZ : ClassId) (Z_thrownCode Z_p Z_n Z_order Z_monomials Z_generators Z_upTo Z_members Z_lefts Z_vars Z_leadsFound Z_words : Int32) (Z_mono Z_hand : Nat → Int32) : va_W := [(a_Z, .inr (5, [.int Z_thrownCode, .int Z_p, .int Z_n, .int Z_order, .int Z_monomials, .ref a_Z_mono, .ref a_Z_degree, .int Z_generators, .ref a_Z_generator, .ref a_Z_hand, .int Z_upTo, .ref a_Z_has, .ref a_Z_row, .ref a_Z_work, .ref a_Z_basis, .int Z_members, .int Z_lefts, .int Z_vars, .ref a_Z_rest, .ref a_Z_product, .ref a_Z_known, .int Z_leadsFound, .ref a_Z_lead, .ref a_Z_tail, .int Z_words, .ref a_Z_word, .ref a_Z_vector, .ref a_Z_system, .ref a_Z_now, .ref a_Z_next])), (a_Z_mono, .inl (cI, 126, .inl Z_mono)), (a_Z_hand, .inl (cI, 126, .inl Z_hand))]
abbrev rm_zcoefficient : Room := { frames := 1, cells := 0, slots := 0, locals := 22 }
abbrev g_zcoefficient (X : gX) (D : va_G) (cI cL cZ : ClassId) (a_Z a_Z_mono a_Z_hand a_Z_degree a_Z_generator a_Z_has a_Z_row a_Z_work a_Z_basis a_Z_rest a_Z_product a_Z_known a_Z_lead a_Z_tail a_Z_word a_Z_vector a_Z_system a_Z_now a_Z_next : Nat) (A : Nat → Prop) (Z_p Z_n Z_order Z_monomials Z_generators Z_upTo Z_members Z_lefts Z_vars Z_leadsFound Z_words : Int32) (Z_mono : Nat → Int32) (Z_thrownCode_r : Int32) (Z_hand_r : Nat → Int32) (pc : Nat) (lv : List (Nat × Value)) (st : List Value) (Z_thrownCode : Int32) (Z_hand : Nat → Int32) : Prop := ∀ (H : Heap) (locs : List Loc) (ls : Array Slot), va_P D classes (ws_zcoefficient a_Z a_Z_mono a_Z_hand a_Z_degree a_Z_generator a_Z_has a_Z_row a_Z_work a_Z_basis a_Z_rest a_Z_product a_Z_known a_Z_lead a_Z_tail a_Z_word a_Z_vector a_Z_system a_Z_now a_Z_next cI cL cZ Z_thrownCode Z_p Z_n Z_order Z_monomials Z_generators Z_upTo Z_members Z_lefts Z_vars Z_leadsFound Z_words Z_mono Z_hand) H → va_D A (ws_zcoefficient a_Z a_Z_mono a_Z_hand a_Z_degree a_Z_generator a_Z_has a_Z_row a_Z_work a_Z_basis a_Z_rest a_Z_product a_Z_known a_Z_lead a_Z_tail a_Z_word a_Z_vector a_Z_system a_Z_now a_Z_next cI cL cZ Z_thrownCode Z_p Z_n Z_order Z_monomials Z_generators Z_upTo Z_members Z_lefts Z_vars Z_leadsFound Z_words Z_mono Z_hand) → va_S A (gs X).heap H locs → lv_has ls 4 lv → gWW X rm_zcoefficient H locs 0 0 (MQ (gbl X) (va_Qv (fun _ : Unit => True) (gB D (gT cI cL cZ) A (ws_zcoefficient a_Z a_Z_mono a_Z_hand a_Z_degree a_Z_generator a_Z_has a_Z_row a_Z_work a_Z_basis a_Z_rest a_Z_product a_Z_known a_Z_lead a_Z_tail a_Z_word a_Z_vector a_Z_system a_Z_now a_Z_next cI cL cZ Z_thrownCode_r Z_p Z_n Z_order Z_monomials Z_generators Z_upTo Z_members Z_lefts Z_vars Z_leadsFound Z_words Z_mono Z_hand_r)) A) (ga X) (gs X) 0 0 A) (F0 (gm X) pc ls st)
set_option maxHeartbeats 4000000 in
set_option maxRecDepth 100000 in
theorem w_zcoefficient_16 (X : gX) (D : va_G) (cI cL cZ : ClassId) (a_Z a_Z_mono a_Z_hand a_Z_degree a_Z_generator a_Z_has a_Z_row a_Z_work a_Z_basis a_Z_rest a_Z_product a_Z_known a_Z_lead a_Z_tail a_Z_word a_Z_vector a_Z_system a_Z_now a_Z_next : Nat) (A : Nat → Prop) (Z_p Z_n Z_order Z_monomials Z_generators Z_upTo Z_members Z_lefts Z_vars Z_leadsFound Z_words : Int32) (Z_mono : Nat → Int32) (Z_thrownCode_r : Int32) (Z_hand_r : Nat → Int32) (F : Nat) (C0 : gC X c_Z_coefficientb none 4 "RemnantDictionaryModel" gAll) (hK : va_K D classes (gT cI cL cZ) (gs X)) (hA : ∀ q : Nat, (gs X).heap.size ≤ q → A q) (hN : gN (gs X))  (i2 i3 t1 Z_thrownCode : Int32) (Z_hand : Nat → Int32) (hrun : s_zcoefficient_16 F Z_monomials Z_p Z_mono i2 i3 t1 Z_thrownCode Z_hand = some (Z_thrownCode_r, Z_hand_r)) : g_zcoefficient X D cI cL cZ a_Z a_Z_mono a_Z_hand a_Z_degree a_Z_generator a_Z_has a_Z_row a_Z_work a_Z_basis a_Z_rest a_Z_product a_Z_known a_Z_lead a_Z_tail a_Z_word a_Z_vector a_Z_system a_Z_now a_Z_next A Z_p Z_n Z_order Z_monomials Z_generators Z_upTo Z_members Z_lefts Z_vars Z_leadsFound Z_words Z_mono Z_thrownCode_r Z_hand_r 16 [(0, .ref a_Z), (2, .int i2), (3, .int i3)] [.int t1, .ref a_Z] Z_thrownCode Z_hand := by
  have C1 := C0
  obtain ⟨hx, hb, hr, hml, hown, hts, hlocks⟩ := C1
  unfold s_zcoefficient_16 at hrun
  intro H locs ls hP hD hS hl
  refine va_put (D := D) (ci := 5) (v := .int t1) (ty := .int) (C := "RemnantDictionaryModel") (T := T_Z) (N := 30) hx hb hts iw_Z ty_Z ty_Z_ok nm_Z hown hK hP hD hS 0 rfl rfl 0 (by decide) (hts _ k_430) (fun _ h9 => h9) rfl (by decide +kernel) rfl rfl (Nat.le_of_ble_eq_true rfl) d_Z_coefficient_16 (fun H locs (hP : va_P D classes (ws_zcoefficient a_Z a_Z_mono a_Z_hand a_Z_degree a_Z_generator a_Z_has a_Z_row a_Z_work a_Z_basis a_Z_rest a_Z_product a_Z_known a_Z_lead a_Z_tail a_Z_word a_Z_vector a_Z_system a_Z_now a_Z_next cI cL cZ t1 Z_p Z_n Z_order Z_monomials Z_generators Z_upTo Z_members Z_lefts Z_vars Z_leadsFound Z_words Z_mono Z_hand) H) (hD : va_D A (ws_zcoefficient a_Z a_Z_mono a_Z_hand a_Z_degree a_Z_generator a_Z_has a_Z_row a_Z_work a_Z_basis a_Z_rest a_Z_product a_Z_known a_Z_lead a_Z_tail a_Z_word a_Z_vector a_Z_system a_Z_now a_Z_next cI cL cZ t1 Z_p Z_n Z_order Z_monomials Z_generators Z_upTo Z_members Z_lefts Z_vars Z_leadsFound Z_words Z_mono Z_hand)) hS => ?_)
  refine lv_aload_n hx hb d_Z_coefficient_19 rfl (lv_at hl 0 rfl) ?_
  refine va_get (D := D) (ci := 5) (v := .int t1) (C := "RemnantDictionaryModel") (T := T_Z) (N := 30) hx hb hts iw_Z hown hK hP 0 rfl rfl 0 (by decide) (hts _ k_430) (fun _ h9 => h9) rfl d_Z_coefficient_20 ?_
  refine g_if_ne (tgt := 48) hx hb d_Z_coefficient_23 (by decide) hrun (fun _ hrun => ?_) (fun _ hrun => ?_)
  · cases hrun
    exact W.vret hx hb hr (fun t ht hW => ⟨⟨(), rfl, trivial, gB_of ht hW.alike hP hK hD⟩, hS.F ht⟩) hS.2.2 d_Z_coefficient_48
  · refine lv_aload_n hx hb d_Z_coefficient_26 rfl (lv_at hl 0 rfl) ?_
    refine va_get (D := D) (ci := 5) (v := .ref a_Z_hand) (C := "RemnantDictionaryModel") (T := T_Z) (N := 30) hx hb hts iw_Z hown hK hP 0 rfl rfl 9 (by decide) (hts _ k_379) (fun _ h9 => h9) rfl d_Z_coefficient_27 ?_
    refine lv_iload_n hx hb d_Z_coefficient_30 rfl (lv_at hl 2 rfl) ?_
    refine lv_iload_n hx hb d_Z_coefficient_31 rfl (lv_at hl 1 rfl) ?_
    refine lv_aload_n hx hb d_Z_coefficient_32 rfl (lv_at hl 0 rfl) ?_
    refine va_get (D := D) (ci := 5) (v := .int Z_p) (C := "RemnantDictionaryModel") (T := T_Z) (N := 30) hx hb hts iw_Z hown hK hP 0 rfl rfl 1 (by decide) (hts _ k_385) (fun _ h9 => h9) rfl d_Z_coefficient_33 ?_
    refine g_irem hx hb d_Z_coefficient_36 hrun (fun hrun => ?_)
    refine lv_aload_n hx hb d_Z_coefficient_37 rfl (lv_at hl 0 rfl) ?_
    refine va_get (D := D) (ci := 5) (v := .int Z_p) (C := "RemnantDictionaryModel") (T := T_Z) (N := 30) hx hb hts iw_Z hown hK hP 0 rfl rfl 1 (by decide) (hts _ k_385) (fun _ h9 => h9) rfl d_Z_coefficient_38 ?_
    refine lv_iadd hx hb d_Z_coefficient_41 ?_
    refine lv_aload_n hx hb d_Z_coefficient_42 rfl (lv_at hl 0 rfl) ?_
    refine va_get (D := D) (ci := 5) (v := .int Z_p) (C := "RemnantDictionaryModel") (T := T_Z) (N := 30) hx hb hts iw_Z hown hK hP 0 rfl rfl 1 (by decide) (hts _ k_385) (fun _ h9 => h9) rfl d_Z_coefficient_43 ?_
    refine g_irem hx hb d_Z_coefficient_46 hrun (fun hrun => ?_)
    refine g_iast hx hb hK hP hD hS 2 0 rfl rfl hrun d_Z_coefficient_47 (fun Z_hand_1 hrun H locs (hP : va_P D classes (ws_zcoefficient a_Z a_Z_mono a_Z_hand a_Z_degree a_Z_generator a_Z_has a_Z_row a_Z_work a_Z_basis a_Z_rest a_Z_product a_Z_known a_Z_lead a_Z_tail a_Z_word a_Z_vector a_Z_system a_Z_now a_Z_next cI cL cZ t1 Z_p Z_n Z_order Z_monomials Z_generators Z_upTo Z_members Z_lefts Z_vars Z_leadsFound Z_words Z_mono Z_hand_1) H) (hD : va_D A (ws_zcoefficient a_Z a_Z_mono a_Z_hand a_Z_degree a_Z_generator a_Z_has a_Z_row a_Z_work a_Z_basis a_Z_rest a_Z_product a_Z_known a_Z_lead a_Z_tail a_Z_word a_Z_vector a_Z_system a_Z_now a_Z_next cI cL cZ t1 Z_p Z_n Z_order Z_monomials Z_generators Z_upTo Z_members Z_lefts Z_vars Z_leadsFound Z_words Z_mono Z_hand_1)) hS => ?_)
    cases hrun
    exact W.vret hx hb hr (fun t ht hW => ⟨⟨(), rfl, trivial, gB_of ht hW.alike hP hK hD⟩, hS.F ht⟩) hS.2.2 d_Z_coefficient_48
set_option maxHeartbeats 4000000 in
set_option maxRecDepth 100000 in
theorem e_zcoefficient (X : gX) (D : va_G) (cI cL cZ : ClassId) (a_Z a_Z_mono a_Z_hand a_Z_degree a_Z_generator a_Z_has a_Z_row a_Z_work a_Z_basis a_Z_rest a_Z_product a_Z_known a_Z_lead a_Z_tail a_Z_word a_Z_vector a_Z_system a_Z_now a_Z_next : Nat) (A : Nat → Prop) (Z_p Z_n Z_order Z_monomials Z_generators Z_upTo Z_members Z_lefts Z_vars Z_leadsFound Z_words : Int32) (Z_mono : Nat → Int32) (Z_thrownCode_r : Int32) (Z_hand_r : Nat → Int32) (F : Nat) (C0 : gC X c_Z_coefficientb none 4 "RemnantDictionaryModel" gAll) (hK : va_K D classes (gT cI cL cZ) (gs X)) (hA : ∀ q : Nat, (gs X).heap.size ≤ q → A q) (hN : gN (gs X)) (i1 i2 Z_thrownCode : Int32) (Z_hand : Nat → Int32) (hrun : m_zcoefficient F Z_monomials Z_p Z_mono i1 i2 Z_thrownCode Z_hand = some (Z_thrownCode_r, Z_hand_r)) : g_zcoefficient X D cI cL cZ a_Z a_Z_mono a_Z_hand a_Z_degree a_Z_generator a_Z_has a_Z_row a_Z_work a_Z_basis a_Z_rest a_Z_product a_Z_known a_Z_lead a_Z_tail a_Z_word a_Z_vector a_Z_system a_Z_now a_Z_next A Z_p Z_n Z_order Z_monomials Z_generators Z_upTo Z_members Z_lefts Z_vars Z_leadsFound Z_words Z_mono Z_thrownCode_r Z_hand_r 0 [(0, .ref a_Z), (1, .int i1), (2, .int i2)] [] Z_thrownCode Z_hand := by
  have C1 := C0
  obtain ⟨hx, hb, hr, hml, hown, hts, hlocks⟩ := C1
  unfold m_zcoefficient at hrun
  intro H locs ls hP hD hS hl
  refine lv_aload_n hx hb d_Z_coefficient_0 rfl (lv_at hl 0 rfl) ?_
  refine lv_iload_n hx hb d_Z_coefficient_1 rfl (lv_at hl 1 rfl) ?_
  obtain ⟨r_1, hc, hrun⟩ := bd1_s hrun
  refine vp_callSi (W.runV (As := [.int i1]) (rest := []) ⟨hx, hb, hml, hown, hts⟩ (c_zplaceOf (gl X) D cI cL cZ a_Z a_Z_mono a_Z_degree a_Z_generator a_Z_hand a_Z_has a_Z_row a_Z_work a_Z_basis a_Z_rest a_Z_product a_Z_known a_Z_lead a_Z_tail a_Z_word a_Z_vector a_Z_system a_Z_now a_Z_next F Z_thrownCode Z_p Z_n Z_order Z_monomials Z_generators Z_upTo Z_members Z_lefts Z_vars Z_leadsFound Z_words Z_mono i1 r_1 hc) (cwV 1 hts (gwV k_408 k_406 k_407 k_333 k_389) rfl rfl rfl (by decide +kernel) ⟨Nat.le_of_ble_eq_true rfl, Nat.le_of_ble_eq_true rfl⟩) (gpreV (hP.sub (ws' := (ws_zplaceOf a_Z a_Z_mono a_Z_degree a_Z_generator a_Z_hand a_Z_has a_Z_row a_Z_work a_Z_basis a_Z_rest a_Z_product a_Z_known a_Z_lead a_Z_tail a_Z_word a_Z_vector a_Z_system a_Z_now a_Z_next cI cL cZ Z_thrownCode Z_p Z_n Z_order Z_monomials Z_generators Z_upTo Z_members Z_lefts Z_vars Z_leadsFound Z_words Z_mono)) [0, 1] rfl) hK hN 5 0 rfl rfl) rfl rfl hl.1 rfl (lv_room (Nat.le_of_ble_eq_true rfl)) d_Z_coefficient_2 ⟨Nat.le_of_ble_eq_true rfl, Nat.le_of_ble_eq_true rfl⟩) (nm_e ?_)
  refine lv_istore_n (lv' := [(3, .int r_1), (0, .ref a_Z), (1, .int i1), (2, .int i2)]) hx hb d_Z_coefficient_5 rfl hl (by decide) rfl (fun ls hl => ?_)
  refine lv_aload_n hx hb d_Z_coefficient_6 rfl (lv_at hl 1 rfl) ?_
  refine lv_iload_n hx hb d_Z_coefficient_7 rfl (lv_at hl 0 rfl) ?_
  refine g_if_ge (tgt := 15) hx hb d_Z_coefficient_8 (by decide) hrun (fun _ hrun => ?_) (fun _ hrun => ?_)
  · refine lv_iconst (v := 0) hx hb d_Z_coefficient_15 (by decide) ?_
    exact w_zcoefficient_16 X D cI cL cZ a_Z a_Z_mono a_Z_hand a_Z_degree a_Z_generator a_Z_has a_Z_row a_Z_work a_Z_basis a_Z_rest a_Z_product a_Z_known a_Z_lead a_Z_tail a_Z_word a_Z_vector a_Z_system a_Z_now a_Z_next A Z_p Z_n Z_order Z_monomials Z_generators Z_upTo Z_members Z_lefts Z_vars Z_leadsFound Z_words Z_mono Z_thrownCode_r Z_hand_r F C0 hK hA hN  i2 r_1 0 Z_thrownCode Z_hand hrun H locs ls hP hD hS (lv_sub hl [1, 3, 0] rfl)
  · refine lv_iconst (v := 1) hx hb d_Z_coefficient_11 (by decide) ?_
    refine lv_goto (tgt := 16) hx hb d_Z_coefficient_12 (by decide) ?_
    exact w_zcoefficient_16 X D cI cL cZ a_Z a_Z_mono a_Z_hand a_Z_degree a_Z_generator a_Z_has a_Z_row a_Z_work a_Z_basis a_Z_rest a_Z_product a_Z_known a_Z_lead a_Z_tail a_Z_word a_Z_vector a_Z_system a_Z_now a_Z_next A Z_p Z_n Z_order Z_monomials Z_generators Z_upTo Z_members Z_lefts Z_vars Z_leadsFound Z_words Z_mono Z_thrownCode_r Z_hand_r F C0 hK hA hN  i2 r_1 1 Z_thrownCode Z_hand hrun H locs ls hP hD hS (lv_sub hl [1, 3, 0] rfl)
set_option maxHeartbeats 4000000 in
set_option maxRecDepth 100000 in
theorem c_zcoefficient (l : Launch) (D : va_G) (cI cL cZ : ClassId) (a_Z a_Z_mono a_Z_hand a_Z_degree a_Z_generator a_Z_has a_Z_row a_Z_work a_Z_basis a_Z_rest a_Z_product a_Z_known a_Z_lead a_Z_tail a_Z_word a_Z_vector a_Z_system a_Z_now a_Z_next : Nat) (F : Nat) (Z_thrownCode Z_p Z_n Z_order Z_monomials Z_generators Z_upTo Z_members Z_lefts Z_vars Z_leadsFound Z_words : Int32) (Z_mono Z_hand : Nat → Int32) (i1 i2 : Int32) (sz : Nat) (Z_thrownCode_r : Int32) (Z_hand_r : Nat → Int32) (hrun : m_zcoefficient F Z_monomials Z_p Z_mono i1 i2 Z_thrownCode Z_hand = some (Z_thrownCode_r, Z_hand_r)) : Met l y_Z_coefficient (.code y_Z_coefficient c_Z_coefficientb 4 none :: gAll) rm_zcoefficient (va_Pc [.ref a_Z, .int i1, .int i2] (gPW D (gT cI cL cZ) (ws_zcoefficient a_Z a_Z_mono a_Z_hand a_Z_degree a_Z_generator a_Z_has a_Z_row a_Z_work a_Z_basis a_Z_rest a_Z_product a_Z_known a_Z_lead a_Z_tail a_Z_word a_Z_vector a_Z_system a_Z_now a_Z_next cI cL cZ Z_thrownCode Z_p Z_n Z_order Z_monomials Z_generators Z_upTo Z_members Z_lefts Z_vars Z_leadsFound Z_words Z_mono Z_hand) sz)) (va_Qv (fun _ : Unit => True) (gB D (gT cI cL cZ) (va_A (ws_zcoefficient a_Z a_Z_mono a_Z_hand a_Z_degree a_Z_generator a_Z_has a_Z_row a_Z_work a_Z_basis a_Z_rest a_Z_product a_Z_known a_Z_lead a_Z_tail a_Z_word a_Z_vector a_Z_system a_Z_now a_Z_next cI cL cZ Z_thrownCode Z_p Z_n Z_order Z_monomials Z_generators Z_upTo Z_members Z_lefts Z_vars Z_leadsFound Z_words Z_mono Z_hand) sz) (ws_zcoefficient a_Z a_Z_mono a_Z_hand a_Z_degree a_Z_generator a_Z_has a_Z_row a_Z_work a_Z_basis a_Z_rest a_Z_product a_Z_known a_Z_lead a_Z_tail a_Z_word a_Z_vector a_Z_system a_Z_now a_Z_next cI cL cZ Z_thrownCode_r Z_p Z_n Z_order Z_monomials Z_generators Z_upTo Z_members Z_lefts Z_vars Z_leadsFound Z_words Z_mono Z_hand_r)) (va_A (ws_zcoefficient a_Z a_Z_mono a_Z_hand a_Z_degree a_Z_generator a_Z_has a_Z_row a_Z_work a_Z_basis a_Z_rest a_Z_product a_Z_known a_Z_lead a_Z_tail a_Z_word a_Z_vector a_Z_system a_Z_now a_Z_next cI cL cZ Z_thrownCode Z_p Z_n Z_order Z_monomials Z_generators Z_upTo Z_members Z_lefts Z_vars Z_leadsFound Z_words Z_mono Z_hand) sz)) 0 0 (va_A (ws_zcoefficient a_Z a_Z_mono a_Z_hand a_Z_degree a_Z_generator a_Z_has a_Z_row a_Z_work a_Z_basis a_Z_rest a_Z_product a_Z_known a_Z_lead a_Z_tail a_Z_word a_Z_vector a_Z_system a_Z_now a_Z_next cI cL cZ Z_thrownCode Z_p Z_n Z_order Z_monomials Z_generators Z_upTo Z_members Z_lefts Z_vars Z_leadsFound Z_words Z_mono Z_hand) sz) := by
  refine Met.ofW (cc := c_Z_coefficientb) (maxL := 4) (ret := none) (by decide +kernel) rfl ?_
  intro p e s m args below meth c s₁ B hml hv
  obtain ⟨rfl, hsz, hP, hK, hN, hD0⟩ := hv
  subst hsz
  have hD := hD0.self (sz := s.heap.size)
  have hl := lv_entry ([.ref a_Z, .int i1, .int i2]) (n := 4) (Nat.le_of_ble_eq_true rfl)
  rw [lg_entry_eq]
  generalize (lg_sl ([.ref a_Z, .int i1, .int i2]) ++ List.replicate (4 - (lg_sl ([.ref a_Z, .int i1, .int i2])).length) Slot.unset).toArray = ls at hl ⊢
  exact e_zcoefficient (p, l, e, s, m, ([.ref a_Z, .int i1, .int i2] : List Value).toArray, below, meth, c) D cI cL cZ a_Z a_Z_mono a_Z_hand a_Z_degree a_Z_generator a_Z_has a_Z_row a_Z_work a_Z_basis a_Z_rest a_Z_product a_Z_known a_Z_lead a_Z_tail a_Z_word a_Z_vector a_Z_system a_Z_now a_Z_next (va_A (ws_zcoefficient a_Z a_Z_mono a_Z_hand a_Z_degree a_Z_generator a_Z_has a_Z_row a_Z_work a_Z_basis a_Z_rest a_Z_product a_Z_known a_Z_lead a_Z_tail a_Z_word a_Z_vector a_Z_system a_Z_now a_Z_next cI cL cZ Z_thrownCode Z_p Z_n Z_order Z_monomials Z_generators Z_upTo Z_members Z_lefts Z_vars Z_leadsFound Z_words Z_mono Z_hand) s.heap.size) Z_p Z_n Z_order Z_monomials Z_generators Z_upTo Z_members Z_lefts Z_vars Z_leadsFound Z_words Z_mono Z_thrownCode_r Z_hand_r F ⟨B.exec, B.bytes, B.returns, hml, findClass_of_methodNamed B.named, fun w h => atoms_spec (ws := (.code y_Z_coefficient c_Z_coefficientb 4 none :: gAll)) B.pre w (List.mem_cons_of_mem _ h), B.notSynchronized⟩ hK (fun q h => Or.inr h) hN i1 i2 Z_thrownCode Z_hand hrun s.heap [] ls hP hD va_S.rf hl
theorem d_Z_hand_0 : decode c_Z_handb 0 = .ok (.aload_n 0, 1) := by decide +kernel
theorem d_Z_hand_1 : decode c_Z_handb 1 = .ok (.iconst 0, 1) := by decide +kernel
theorem d_Z_hand_2 : decode c_Z_handb 2 = .ok (.putfield 7, 3) := by decide +kernel
theorem d_Z_hand_5 : decode c_Z_handb 5 = .ok (.aload_n 0, 1) := by decide +kernel
theorem d_Z_hand_6 : decode c_Z_handb 6 = .ok (.iload_n 1, 1) := by decide +kernel
theorem d_Z_hand_7 : decode c_Z_handb 7 = .ok (.invokevirtual 135, 3) := by decide +kernel
theorem d_Z_hand_10 : decode c_Z_handb 10 = .ok (.istore_n 2, 1) := by decide +kernel
theorem d_Z_hand_11 : decode c_Z_handb 11 = .ok (.iload_n 2, 1) := by decide +kernel
theorem d_Z_hand_12 : decode c_Z_handb 12 = .ok (.ifCond .ge 7, 3) := by decide +kernel
theorem d_Z_hand_15 : decode c_Z_handb 15 = .ok (.iconst 0, 1) := by decide +kernel
theorem d_Z_hand_16 : decode c_Z_handb 16 = .ok (.goto 9, 3) := by decide +kernel
theorem d_Z_hand_19 : decode c_Z_handb 19 = .ok (.aload_n 0, 1) := by decide +kernel
theorem d_Z_hand_20 : decode c_Z_handb 20 = .ok (.getfield 38, 3) := by decide +kernel
theorem d_Z_hand_23 : decode c_Z_handb 23 = .ok (.iload_n 2, 1) := by decide +kernel
theorem d_Z_hand_24 : decode c_Z_handb 24 = .ok (.iaload, 1) := by decide +kernel
theorem d_Z_hand_25 : decode c_Z_handb 25 = .ok (.ireturn, 1) := by decide +kernel
abbrev ws_zhand (a_Z a_Z_mono a_Z_hand a_Z_degree a_Z_generator a_Z_has a_Z_row a_Z_work a_Z_basis a_Z_rest a_Z_product a_Z_known a_Z_lead a_Z_tail a_Z_word a_Z_vector a_Z_system a_Z_now a_Z_next : Nat) (cI cL cZ : ClassId) (Z_thrownCode Z_p Z_n Z_order Z_monomials Z_generators Z_upTo Z_members Z_lefts Z_vars Z_leadsFound Z_words : Int32) (Z_mono Z_hand : Nat → Int32) : va_W := [(a_Z, .inr (5, [.int Z_thrownCode, .int Z_p, .int Z_n, .int Z_order, .int Z_monomials, .ref a_Z_mono, .ref a_Z_degree, .int Z_generators, .ref a_Z_generator, .ref a_Z_hand, .int Z_upTo, .ref a_Z_has, .ref a_Z_row, .ref a_Z_work, .ref a_Z_basis, .int Z_members, .int Z_lefts, .int Z_vars, .ref a_Z_rest, .ref a_Z_product, .ref a_Z_known, .int Z_leadsFound, .ref a_Z_lead, .ref a_Z_tail, .int Z_words, .ref a_Z_word, .ref a_Z_vector, .ref a_Z_system, .ref a_Z_now, .ref a_Z_next])), (a_Z_mono, .inl (cI, 126, .inl Z_mono)), (a_Z_hand, .inl (cI, 126, .inl Z_hand))]
abbrev rm_zhand : Room := { frames := 1, cells := 0, slots := 0, locals := 22 }
abbrev g_zhand (X : gX) (D : va_G) (cI cL cZ : ClassId) (a_Z a_Z_mono a_Z_hand a_Z_degree a_Z_generator a_Z_has a_Z_row a_Z_work a_Z_basis a_Z_rest a_Z_product a_Z_known a_Z_lead a_Z_tail a_Z_word a_Z_vector a_Z_system a_Z_now a_Z_next : Nat) (A : Nat → Prop) (Z_p Z_n Z_order Z_monomials Z_generators Z_upTo Z_members Z_lefts Z_vars Z_leadsFound Z_words : Int32) (Z_mono Z_hand : Nat → Int32) (r_ Z_thrownCode_r : Int32) (pc : Nat) (lv : List (Nat × Value)) (st : List Value) (Z_thrownCode : Int32) : Prop := ∀ (H : Heap) (locs : List Loc) (ls : Array Slot), va_P D classes (ws_zhand a_Z a_Z_mono a_Z_hand a_Z_degree a_Z_generator a_Z_has a_Z_row a_Z_work a_Z_basis a_Z_rest a_Z_product a_Z_known a_Z_lead a_Z_tail a_Z_word a_Z_vector a_Z_system a_Z_now a_Z_next cI cL cZ Z_thrownCode Z_p Z_n Z_order Z_monomials Z_generators Z_upTo Z_members Z_lefts Z_vars Z_leadsFound Z_words Z_mono Z_hand) H → va_D A (ws_zhand a_Z a_Z_mono a_Z_hand a_Z_degree a_Z_generator a_Z_has a_Z_row a_Z_work a_Z_basis a_Z_rest a_Z_product a_Z_known a_Z_lead a_Z_tail a_Z_word a_Z_vector a_Z_system a_Z_now a_Z_next cI cL cZ Z_thrownCode Z_p Z_n Z_order Z_monomials Z_generators Z_upTo Z_members Z_lefts Z_vars Z_leadsFound Z_words Z_mono Z_hand) → va_S A (gs X).heap H locs → lv_has ls 3 lv → gWW X rm_zhand H locs 0 0 (MQ (gbl X) (va_Qi (fun r (_ : Unit) => r = r_) (gB D (gT cI cL cZ) A (ws_zhand a_Z a_Z_mono a_Z_hand a_Z_degree a_Z_generator a_Z_has a_Z_row a_Z_work a_Z_basis a_Z_rest a_Z_product a_Z_known a_Z_lead a_Z_tail a_Z_word a_Z_vector a_Z_system a_Z_now a_Z_next cI cL cZ Z_thrownCode_r Z_p Z_n Z_order Z_monomials Z_generators Z_upTo Z_members Z_lefts Z_vars Z_leadsFound Z_words Z_mono Z_hand)) A) (ga X) (gs X) 0 0 A) (F0 (gm X) pc ls st)
set_option maxHeartbeats 4000000 in
set_option maxRecDepth 100000 in
theorem e_zhand (X : gX) (D : va_G) (cI cL cZ : ClassId) (a_Z a_Z_mono a_Z_hand a_Z_degree a_Z_generator a_Z_has a_Z_row a_Z_work a_Z_basis a_Z_rest a_Z_product a_Z_known a_Z_lead a_Z_tail a_Z_word a_Z_vector a_Z_system a_Z_now a_Z_next : Nat) (A : Nat → Prop) (Z_p Z_n Z_order Z_monomials Z_generators Z_upTo Z_members Z_lefts Z_vars Z_leadsFound Z_words : Int32) (Z_mono Z_hand : Nat → Int32) (r_ Z_thrownCode_r : Int32) (F : Nat) (C0 : gC X c_Z_handb (some .int) 3 "RemnantDictionaryModel" gAll) (hK : va_K D classes (gT cI cL cZ) (gs X)) (hA : ∀ q : Nat, (gs X).heap.size ≤ q → A q) (hN : gN (gs X)) (i1 Z_thrownCode : Int32) (hrun : m_zhand F Z_monomials Z_mono Z_hand i1 Z_thrownCode = some (r_, Z_thrownCode_r)) : g_zhand X D cI cL cZ a_Z a_Z_mono a_Z_hand a_Z_degree a_Z_generator a_Z_has a_Z_row a_Z_work a_Z_basis a_Z_rest a_Z_product a_Z_known a_Z_lead a_Z_tail a_Z_word a_Z_vector a_Z_system a_Z_now a_Z_next A Z_p Z_n Z_order Z_monomials Z_generators Z_upTo Z_members Z_lefts Z_vars Z_leadsFound Z_words Z_mono Z_hand r_ Z_thrownCode_r 0 [(0, .ref a_Z), (1, .int i1)] [] Z_thrownCode := by
  have C1 := C0
  obtain ⟨hx, hb, hr, hml, hown, hts, hlocks⟩ := C1
  unfold m_zhand at hrun
  intro H locs ls hP hD hS hl
  refine lv_aload_n hx hb d_Z_hand_0 rfl (lv_at hl 0 rfl) ?_
  refine lv_iconst (v := 0) hx hb d_Z_hand_1 (by decide) ?_
  refine va_put (D := D) (ci := 5) (v := .int 0) (ty := .int) (C := "RemnantDictionaryModel") (T := T_Z) (N := 30) hx hb hts iw_Z ty_Z ty_Z_ok nm_Z hown hK hP hD hS 0 rfl rfl 0 (by decide) (hts _ k_430) (fun _ h9 => h9) rfl (by decide +kernel) rfl rfl (Nat.le_of_ble_eq_true rfl) d_Z_hand_2 (fun H locs (hP : va_P D classes (ws_zhand a_Z a_Z_mono a_Z_hand a_Z_degree a_Z_generator a_Z_has a_Z_row a_Z_work a_Z_basis a_Z_rest a_Z_product a_Z_known a_Z_lead a_Z_tail a_Z_word a_Z_vector a_Z_system a_Z_now a_Z_next cI cL cZ 0 Z_p Z_n Z_order Z_monomials Z_generators Z_upTo Z_members Z_lefts Z_vars Z_leadsFound Z_words Z_mono Z_hand) H) (hD : va_D A (ws_zhand a_Z a_Z_mono a_Z_hand a_Z_degree a_Z_generator a_Z_has a_Z_row a_Z_work a_Z_basis a_Z_rest a_Z_product a_Z_known a_Z_lead a_Z_tail a_Z_word a_Z_vector a_Z_system a_Z_now a_Z_next cI cL cZ 0 Z_p Z_n Z_order Z_monomials Z_generators Z_upTo Z_members Z_lefts Z_vars Z_leadsFound Z_words Z_mono Z_hand)) hS => ?_)
  refine lv_aload_n hx hb d_Z_hand_5 rfl (lv_at hl 0 rfl) ?_
  refine lv_iload_n hx hb d_Z_hand_6 rfl (lv_at hl 1 rfl) ?_
  obtain ⟨r_1, hc, hrun⟩ := bd1_s hrun
  refine vp_callSi (W.runV (As := [.int i1]) (rest := []) ⟨hx, hb, hml, hown, hts⟩ (c_zplaceOf (gl X) D cI cL cZ a_Z a_Z_mono a_Z_degree a_Z_generator a_Z_hand a_Z_has a_Z_row a_Z_work a_Z_basis a_Z_rest a_Z_product a_Z_known a_Z_lead a_Z_tail a_Z_word a_Z_vector a_Z_system a_Z_now a_Z_next F 0 Z_p Z_n Z_order Z_monomials Z_generators Z_upTo Z_members Z_lefts Z_vars Z_leadsFound Z_words Z_mono i1 r_1 hc) (cwV 1 hts (gwV k_408 k_406 k_407 k_333 k_389) rfl rfl rfl (by decide +kernel) ⟨Nat.le_of_ble_eq_true rfl, Nat.le_of_ble_eq_true rfl⟩) (gpreV (hP.sub (ws' := (ws_zplaceOf a_Z a_Z_mono a_Z_degree a_Z_generator a_Z_hand a_Z_has a_Z_row a_Z_work a_Z_basis a_Z_rest a_Z_product a_Z_known a_Z_lead a_Z_tail a_Z_word a_Z_vector a_Z_system a_Z_now a_Z_next cI cL cZ 0 Z_p Z_n Z_order Z_monomials Z_generators Z_upTo Z_members Z_lefts Z_vars Z_leadsFound Z_words Z_mono)) [0, 1] rfl) hK hN 5 0 rfl rfl) rfl rfl hl.1 rfl (lv_room (Nat.le_of_ble_eq_true rfl)) d_Z_hand_7 ⟨Nat.le_of_ble_eq_true rfl, Nat.le_of_ble_eq_true rfl⟩) (nm_e ?_)
  refine lv_istore_n (lv' := [(2, .int r_1), (0, .ref a_Z), (1, .int i1)]) hx hb d_Z_hand_10 rfl hl (by decide) rfl (fun ls hl => ?_)
  refine lv_iload_n hx hb d_Z_hand_11 rfl (lv_at hl 0 rfl) ?_
  refine g_if_ge (tgt := 19) hx hb d_Z_hand_12 (by decide) hrun (fun _ hrun => ?_) (fun _ hrun => ?_)
  · refine lv_aload_n hx hb d_Z_hand_19 rfl (lv_at hl 1 rfl) ?_
    refine va_get (D := D) (ci := 5) (v := .ref a_Z_hand) (C := "RemnantDictionaryModel") (T := T_Z) (N := 30) hx hb hts iw_Z hown hK hP 0 rfl rfl 9 (by decide) (hts _ k_379) (fun _ h9 => h9) rfl d_Z_hand_20 ?_
    refine lv_iload_n hx hb d_Z_hand_23 rfl (lv_at hl 0 rfl) ?_
    refine g_iald hx hb hK hP 2 0 rfl rfl hrun d_Z_hand_24 (fun x_2 hrun => ?_)
    cases hrun
    exact W.iret hx hb hr (fun t ht hW => ⟨⟨_, (), rfl, rfl, gB_of ht hW.alike hP hK hD⟩, hS.F ht⟩) hS.2.2 d_Z_hand_25
  · refine lv_iconst (v := 0) hx hb d_Z_hand_15 (by decide) ?_
    refine lv_goto (tgt := 25) hx hb d_Z_hand_16 (by decide) ?_
    cases hrun
    exact W.iret hx hb hr (fun t ht hW => ⟨⟨_, (), rfl, rfl, gB_of ht hW.alike hP hK hD⟩, hS.F ht⟩) hS.2.2 d_Z_hand_25
set_option maxHeartbeats 4000000 in
set_option maxRecDepth 100000 in
theorem c_zhand (l : Launch) (D : va_G) (cI cL cZ : ClassId) (a_Z a_Z_mono a_Z_hand a_Z_degree a_Z_generator a_Z_has a_Z_row a_Z_work a_Z_basis a_Z_rest a_Z_product a_Z_known a_Z_lead a_Z_tail a_Z_word a_Z_vector a_Z_system a_Z_now a_Z_next : Nat) (F : Nat) (Z_thrownCode Z_p Z_n Z_order Z_monomials Z_generators Z_upTo Z_members Z_lefts Z_vars Z_leadsFound Z_words : Int32) (Z_mono Z_hand : Nat → Int32) (i1 : Int32) (sz : Nat) (r_ Z_thrownCode_r : Int32) (hrun : m_zhand F Z_monomials Z_mono Z_hand i1 Z_thrownCode = some (r_, Z_thrownCode_r)) : Met l y_Z_hand (.code y_Z_hand c_Z_handb 3 (some .int) :: gAll) rm_zhand (va_Pc [.ref a_Z, .int i1] (gPW D (gT cI cL cZ) (ws_zhand a_Z a_Z_mono a_Z_hand a_Z_degree a_Z_generator a_Z_has a_Z_row a_Z_work a_Z_basis a_Z_rest a_Z_product a_Z_known a_Z_lead a_Z_tail a_Z_word a_Z_vector a_Z_system a_Z_now a_Z_next cI cL cZ Z_thrownCode Z_p Z_n Z_order Z_monomials Z_generators Z_upTo Z_members Z_lefts Z_vars Z_leadsFound Z_words Z_mono Z_hand) sz)) (va_Qi (fun r (_ : Unit) => r = r_) (gB D (gT cI cL cZ) (va_A (ws_zhand a_Z a_Z_mono a_Z_hand a_Z_degree a_Z_generator a_Z_has a_Z_row a_Z_work a_Z_basis a_Z_rest a_Z_product a_Z_known a_Z_lead a_Z_tail a_Z_word a_Z_vector a_Z_system a_Z_now a_Z_next cI cL cZ Z_thrownCode Z_p Z_n Z_order Z_monomials Z_generators Z_upTo Z_members Z_lefts Z_vars Z_leadsFound Z_words Z_mono Z_hand) sz) (ws_zhand a_Z a_Z_mono a_Z_hand a_Z_degree a_Z_generator a_Z_has a_Z_row a_Z_work a_Z_basis a_Z_rest a_Z_product a_Z_known a_Z_lead a_Z_tail a_Z_word a_Z_vector a_Z_system a_Z_now a_Z_next cI cL cZ Z_thrownCode_r Z_p Z_n Z_order Z_monomials Z_generators Z_upTo Z_members Z_lefts Z_vars Z_leadsFound Z_words Z_mono Z_hand)) (va_A (ws_zhand a_Z a_Z_mono a_Z_hand a_Z_degree a_Z_generator a_Z_has a_Z_row a_Z_work a_Z_basis a_Z_rest a_Z_product a_Z_known a_Z_lead a_Z_tail a_Z_word a_Z_vector a_Z_system a_Z_now a_Z_next cI cL cZ Z_thrownCode Z_p Z_n Z_order Z_monomials Z_generators Z_upTo Z_members Z_lefts Z_vars Z_leadsFound Z_words Z_mono Z_hand) sz)) 0 0 (va_A (ws_zhand a_Z a_Z_mono a_Z_hand a_Z_degree a_Z_generator a_Z_has a_Z_row a_Z_work a_Z_basis a_Z_rest a_Z_product a_Z_known a_Z_lead a_Z_tail a_Z_word a_Z_vector a_Z_system a_Z_now a_Z_next cI cL cZ Z_thrownCode Z_p Z_n Z_order Z_monomials Z_generators Z_upTo Z_members Z_lefts Z_vars Z_leadsFound Z_words Z_mono Z_hand) sz) := by
  refine Met.ofW (cc := c_Z_handb) (maxL := 3) (ret := (some .int)) (by decide +kernel) rfl ?_
  intro p e s m args below meth c s₁ B hml hv
  obtain ⟨rfl, hsz, hP, hK, hN, hD0⟩ := hv
  subst hsz
  have hD := hD0.self (sz := s.heap.size)
  have hl := lv_entry ([.ref a_Z, .int i1]) (n := 3) (Nat.le_of_ble_eq_true rfl)
  rw [lg_entry_eq]
  generalize (lg_sl ([.ref a_Z, .int i1]) ++ List.replicate (3 - (lg_sl ([.ref a_Z, .int i1])).length) Slot.unset).toArray = ls at hl ⊢
  exact e_zhand (p, l, e, s, m, ([.ref a_Z, .int i1] : List Value).toArray, below, meth, c) D cI cL cZ a_Z a_Z_mono a_Z_hand a_Z_degree a_Z_generator a_Z_has a_Z_row a_Z_work a_Z_basis a_Z_rest a_Z_product a_Z_known a_Z_lead a_Z_tail a_Z_word a_Z_vector a_Z_system a_Z_now a_Z_next (va_A (ws_zhand a_Z a_Z_mono a_Z_hand a_Z_degree a_Z_generator a_Z_has a_Z_row a_Z_work a_Z_basis a_Z_rest a_Z_product a_Z_known a_Z_lead a_Z_tail a_Z_word a_Z_vector a_Z_system a_Z_now a_Z_next cI cL cZ Z_thrownCode Z_p Z_n Z_order Z_monomials Z_generators Z_upTo Z_members Z_lefts Z_vars Z_leadsFound Z_words Z_mono Z_hand) s.heap.size) Z_p Z_n Z_order Z_monomials Z_generators Z_upTo Z_members Z_lefts Z_vars Z_leadsFound Z_words Z_mono Z_hand r_ Z_thrownCode_r F ⟨B.exec, B.bytes, B.returns, hml, findClass_of_methodNamed B.named, fun w h => atoms_spec (ws := (.code y_Z_hand c_Z_handb 3 (some .int) :: gAll)) B.pre w (List.mem_cons_of_mem _ h), B.notSynchronized⟩ hK (fun q h => Or.inr h) hN i1 Z_thrownCode hrun s.heap [] ls hP hD va_S.rf hl
