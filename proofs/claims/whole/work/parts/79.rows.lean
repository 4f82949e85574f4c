theorem d_Z_left_0 : decode c_Z_leftb 0 = .ok (.aload_n 0, 1) := by decide +kernel
theorem d_Z_left_1 : decode c_Z_leftb 1 = .ok (.iconst 0, 1) := by decide +kernel
theorem d_Z_left_2 : decode c_Z_leftb 2 = .ok (.putfield 7, 3) := by decide +kernel
theorem d_Z_left_5 : decode c_Z_leftb 5 = .ok (.iload_n 1, 1) := by decide +kernel
theorem d_Z_left_6 : decode c_Z_leftb 6 = .ok (.ifCond .lt 11, 3) := by decide +kernel
theorem d_Z_left_9 : decode c_Z_leftb 9 = .ok (.iload_n 1, 1) := by decide +kernel
theorem d_Z_left_10 : decode c_Z_leftb 10 = .ok (.aload_n 0, 1) := by decide +kernel
theorem d_Z_left_11 : decode c_Z_leftb 11 = .ok (.getfield 60, 3) := by decide +kernel
theorem d_Z_left_14 : decode c_Z_leftb 14 = .ok (.if_icmp .lt 7, 3) := by decide +kernel
theorem d_Z_left_17 : decode c_Z_leftb 17 = .ok (.iconst (-1), 1) := by decide +kernel
theorem d_Z_left_18 : decode c_Z_leftb 18 = .ok (.goto 9, 3) := by decide +kernel
theorem d_Z_left_21 : decode c_Z_leftb 21 = .ok (.aload_n 0, 1) := by decide +kernel
theorem d_Z_left_22 : decode c_Z_leftb 22 = .ok (.getfield 66, 3) := by decide +kernel
theorem d_Z_left_25 : decode c_Z_leftb 25 = .ok (.iload_n 1, 1) := by decide +kernel
theorem d_Z_left_26 : decode c_Z_leftb 26 = .ok (.iaload, 1) := by decide +kernel
theorem d_Z_left_27 : decode c_Z_leftb 27 = .ok (.ireturn, 1) := by decide +kernel
abbrev ws_zleft (a_Z a_Z_rest a_Z_mono a_Z_degree a_Z_generator a_Z_hand a_Z_has a_Z_row a_Z_work a_Z_basis a_Z_product a_Z_known a_Z_lead a_Z_tail a_Z_word a_Z_vector a_Z_system a_Z_now a_Z_next : Nat) (cI cL cZ : ClassId) (Z_thrownCode Z_p Z_n Z_order Z_monomials Z_generators Z_upTo Z_members Z_lefts Z_vars Z_leadsFound Z_words : Int32) (Z_rest : Nat → Int32) : va_W := [(a_Z, .inr (5, [.int Z_thrownCode, .int Z_p, .int Z_n, .int Z_order, .int Z_monomials, .ref a_Z_mono, .ref a_Z_degree, .int Z_generators, .ref a_Z_generator, .ref a_Z_hand, .int Z_upTo, .ref a_Z_has, .ref a_Z_row, .ref a_Z_work, .ref a_Z_basis, .int Z_members, .int Z_lefts, .int Z_vars, .ref a_Z_rest, .ref a_Z_product, .ref a_Z_known, .int Z_leadsFound, .ref a_Z_lead, .ref a_Z_tail, .int Z_words, .ref a_Z_word, .ref a_Z_vector, .ref a_Z_system, .ref a_Z_now, .ref a_Z_next])), (a_Z_rest, .inl (cI, 41, .inl Z_rest))]
abbrev rm_zleft : Room := { frames := 0, cells := 0, slots := 0, locals := 0 }
abbrev g_zleft (X : gX) (D : va_G) (cI cL cZ : ClassId) (a_Z a_Z_rest a_Z_mono a_Z_degree a_Z_generator a_Z_hand a_Z_has a_Z_row a_Z_work a_Z_basis a_Z_product a_Z_known a_Z_lead a_Z_tail a_Z_word a_Z_vector a_Z_system a_Z_now a_Z_next : Nat) (A : Nat → Prop) (Z_p Z_n Z_order Z_monomials Z_generators Z_upTo Z_members Z_lefts Z_vars Z_leadsFound Z_words : Int32) (Z_rest : Nat → Int32) (r_ Z_thrownCode_r : Int32) (pc : Nat) (lv : List (Nat × Value)) (st : List Value) (Z_thrownCode : Int32) : Prop := ∀ (H : Heap) (locs : List Loc) (ls : Array Slot), va_P D classes (ws_zleft a_Z a_Z_rest a_Z_mono a_Z_degree a_Z_generator a_Z_hand a_Z_has a_Z_row a_Z_work a_Z_basis a_Z_product a_Z_known a_Z_lead a_Z_tail a_Z_word a_Z_vector a_Z_system a_Z_now a_Z_next cI cL cZ Z_thrownCode Z_p Z_n Z_order Z_monomials Z_generators Z_upTo Z_members Z_lefts Z_vars Z_leadsFound Z_words Z_rest) H → va_D A (ws_zleft a_Z a_Z_rest a_Z_mono a_Z_degree a_Z_generator a_Z_hand a_Z_has a_Z_row a_Z_work a_Z_basis a_Z_product a_Z_known a_Z_lead a_Z_tail a_Z_word a_Z_vector a_Z_system a_Z_now a_Z_next cI cL cZ Z_thrownCode Z_p Z_n Z_order Z_monomials Z_generators Z_upTo Z_members Z_lefts Z_vars Z_leadsFound Z_words Z_rest) → va_S A (gs X).heap H locs → lv_has ls 2 lv → gWW X rm_zleft H locs 0 0 (MQ (gbl X) (va_Qi (fun r (_ : Unit) => r = r_) (gB D (gT cI cL cZ) A (ws_zleft a_Z a_Z_rest a_Z_mono a_Z_degree a_Z_generator a_Z_hand a_Z_has a_Z_row a_Z_work a_Z_basis a_Z_product a_Z_known a_Z_lead a_Z_tail a_Z_word a_Z_vector a_Z_system a_Z_now a_Z_next cI cL cZ Z_thrownCode_r Z_p Z_n Z_order Z_monomials Z_generators Z_upTo Z_members Z_lefts Z_vars Z_leadsFound Z_words Z_rest)) A) (ga X) (gs X) 0 0 A) (F0 (gm X) pc ls st)
set_option maxHeartbeats 4000000 in
set_option maxRecDepth 100000 in
theorem e_zleft (X : gX) (D : va_G) (cI cL cZ : ClassId) (a_Z a_Z_rest a_Z_mono a_Z_degree a_Z_generator a_Z_hand a_Z_has a_Z_row a_Z_work a_Z_basis a_Z_product a_Z_known a_Z_lead a_Z_tail a_Z_word a_Z_vector a_Z_system a_Z_now a_Z_next : Nat) (A : Nat → Prop) (Z_p Z_n Z_order Z_monomials Z_generators Z_upTo Z_members Z_lefts Z_vars Z_leadsFound Z_words : Int32) (Z_rest : Nat → Int32) (r_ Z_thrownCode_r : Int32) (F : Nat) (C0 : gC X c_Z_leftb (some .int) 2 "RemnantDictionaryModel" gAll) (hK : va_K D classes (gT cI cL cZ) (gs X)) (hA : ∀ q : Nat, (gs X).heap.size ≤ q → A q) (hN : gN (gs X)) (i1 Z_thrownCode : Int32) (hrun : m_zleft F Z_lefts Z_rest i1 Z_thrownCode = some (r_, Z_thrownCode_r)) : g_zleft X D cI cL cZ a_Z a_Z_rest a_Z_mono a_Z_degree a_Z_generator a_Z_hand a_Z_has a_Z_row a_Z_work a_Z_basis a_Z_product a_Z_known a_Z_lead a_Z_tail a_Z_word a_Z_vector a_Z_system a_Z_now a_Z_next A Z_p Z_n Z_order Z_monomials Z_generators Z_upTo Z_members Z_lefts Z_vars Z_leadsFound Z_words Z_rest r_ Z_thrownCode_r 0 [(0, .ref a_Z), (1, .int i1)] [] Z_thrownCode := by
  have C1 := C0
  obtain ⟨hx, hb, hr, hml, hown, hts, hlocks⟩ := C1
  unfold m_zleft at hrun
  intro H locs ls hP hD hS hl
  refine lv_aload_n hx hb d_Z_left_0 rfl (lv_at hl 0 rfl) ?_
  refine lv_iconst (v := 0) hx hb d_Z_left_1 (by decide) ?_
  refine va_put (D := D) (ci := 5) (v := .int 0) (ty := .int) (C := "RemnantDictionaryModel") (T := T_Z) (N := 30) hx hb hts iw_Z ty_Z ty_Z_ok nm_Z hown hK hP hD hS 0 rfl rfl 0 (by decide) (hts _ k_430) (fun _ h9 => h9) rfl (by decide +kernel) rfl rfl (Nat.le_of_ble_eq_true rfl) d_Z_left_2 (fun H locs (hP : va_P D classes (ws_zleft a_Z a_Z_rest a_Z_mono a_Z_degree a_Z_generator a_Z_hand a_Z_has a_Z_row a_Z_work a_Z_basis a_Z_product a_Z_known a_Z_lead a_Z_tail a_Z_word a_Z_vector a_Z_system a_Z_now a_Z_next cI cL cZ 0 Z_p Z_n Z_order Z_monomials Z_generators Z_upTo Z_members Z_lefts Z_vars Z_leadsFound Z_words Z_rest) H) (hD : va_D A (ws_zleft a_Z a_Z_rest a_Z_mono a_Z_degree a_Z_generator a_Z_hand a_Z_has a_Z_row a_Z_work a_Z_basis a_Z_product a_Z_known a_Z_lead a_Z_tail a_Z_word a_Z_vector a_Z_system a_Z_now a_Z_next cI cL cZ 0 Z_p Z_n Z_order Z_monomials Z_generators Z_upTo Z_members Z_lefts Z_vars Z_leadsFound Z_words Z_rest)) hS => ?_)
  refine lv_iload_n hx hb d_Z_left_5 rfl (lv_at hl 1 rfl) ?_
  refine g_if_lt (tgt := 17) hx hb d_Z_left_6 (by decide) hrun (fun _ hrun => ?_) (fun _ hrun => ?_)
  · refine lv_iconst (v := (-1)) hx hb d_Z_left_17 (by decide) ?_
    refine lv_goto (tgt := 27) hx hb d_Z_left_18 (by decide) ?_
    cases hrun
    exact W.iret hx hb hr (fun t ht hW => ⟨⟨_, (), rfl, rfl, gB_of ht hW.alike hP hK hD⟩, hS.F ht⟩) hS.2.2 d_Z_left_27
  · refine lv_iload_n hx hb d_Z_left_9 rfl (lv_at hl 1 rfl) ?_
    refine lv_aload_n hx hb d_Z_left_10 rfl (lv_at hl 0 rfl) ?_
    refine va_get (D := D) (ci := 5) (v := .int Z_lefts) (C := "RemnantDictionaryModel") (T := T_Z) (N := 30) hx hb hts iw_Z hown hK hP 0 rfl rfl 16 (by decide) (hts _ k_445) (fun _ h9 => h9) rfl d_Z_left_11 ?_
    refine g_icmp_lt (tgt := 21) hx hb d_Z_left_14 (by decide) hrun (fun _ hrun => ?_) (fun _ hrun => ?_)
    · refine lv_aload_n hx hb d_Z_left_21 rfl (lv_at hl 0 rfl) ?_
      refine va_get (D := D) (ci := 5) (v := .ref a_Z_rest) (C := "RemnantDictionaryModel") (T := T_Z) (N := 30) hx hb hts iw_Z hown hK hP 0 rfl rfl 18 (by decide) (hts _ k_446) (fun _ h9 => h9) rfl d_Z_left_22 ?_
      refine lv_iload_n hx hb d_Z_left_25 rfl (lv_at hl 1 rfl) ?_
      refine g_iald hx hb hK hP 1 0 rfl rfl hrun d_Z_left_26 (fun x_1 hrun => ?_)
      cases hrun
      exact W.iret hx hb hr (fun t ht hW => ⟨⟨_, (), rfl, rfl, gB_of ht hW.alike hP hK hD⟩, hS.F ht⟩) hS.2.2 d_Z_left_27
    · refine lv_iconst (v := (-1)) hx hb d_Z_left_17 (by decide) ?_
      refine lv_goto (tgt := 27) hx hb d_Z_left_18 (by decide) ?_
      cases hrun
      exact W.iret hx hb hr (fun t ht hW => ⟨⟨_, (), rfl, rfl, gB_of ht hW.alike hP hK hD⟩, hS.F ht⟩) hS.2.2 d_Z_left_27
set_option maxHeartbeats 4000000 in
set_option maxRecDepth 100000 in
theorem c_zleft (l : Launch) (D : va_G) (cI cL cZ : ClassId) (a_Z a_Z_rest a_Z_mono a_Z_degree a_Z_generator a_Z_hand a_Z_has a_Z_row a_Z_work a_Z_basis a_Z_product a_Z_known a_Z_lead a_Z_tail a_Z_word a_Z_vector a_Z_system a_Z_now a_Z_next : Nat) (F : Nat) (Z_thrownCode Z_p Z_n Z_order Z_monomials Z_generators Z_upTo Z_members Z_lefts Z_vars Z_leadsFound Z_words : Int32) (Z_rest : Nat → Int32) (i1 : Int32) (sz : Nat) (r_ Z_thrownCode_r : Int32) (hrun : m_zleft F Z_lefts Z_rest i1 Z_thrownCode = some (r_, Z_thrownCode_r)) : Met l y_Z_left (.code y_Z_left c_Z_leftb 2 (some .int) :: gAll) rm_zleft (va_Pc [.ref a_Z, .int i1] (gPW D (gT cI cL cZ) (ws_zleft a_Z a_Z_rest a_Z_mono a_Z_degree a_Z_generator a_Z_hand a_Z_has a_Z_row a_Z_work a_Z_basis a_Z_product a_Z_known a_Z_lead a_Z_tail a_Z_word a_Z_vector a_Z_system a_Z_now a_Z_next cI cL cZ Z_thrownCode Z_p Z_n Z_order Z_monomials Z_generators Z_upTo Z_members Z_lefts Z_vars Z_leadsFound Z_words Z_rest) sz)) (va_Qi (fun r (_ : Unit) => r = r_) (gB D (gT cI cL cZ) (va_A (ws_zleft a_Z a_Z_rest a_Z_mono a_Z_degree a_Z_generator a_Z_hand a_Z_has a_Z_row a_Z_work a_Z_basis a_Z_product a_Z_known a_Z_lead a_Z_tail a_Z_word a_Z_vector a_Z_system a_Z_now a_Z_next cI cL cZ Z_thrownCode Z_p Z_n Z_order Z_monomials Z_generators Z_upTo Z_members Z_lefts Z_vars Z_leadsFound Z_words Z_rest) sz) (ws_zleft a_Z a_Z_rest a_Z_mono a_Z_degree a_Z_generator a_Z_hand a_Z_has a_Z_row a_Z_work a_Z_basis a_Z_product a_Z_known a_Z_lead a_Z_tail a_Z_word a_Z_vector a_Z_system a_Z_now a_Z_next cI cL cZ Z_thrownCode_r Z_p Z_n Z_order Z_monomials Z_generators Z_upTo Z_members Z_lefts Z_vars Z_leadsFound Z_words Z_rest)) (va_A (ws_zleft a_Z a_Z_rest a_Z_mono a_Z_degree a_Z_generator a_Z_hand a_Z_has a_Z_row a_Z_work a_Z_basis a_Z_product a_Z_known a_Z_lead a_Z_tail a_Z_word a_Z_vector a_Z_system a_Z_now a_Z_next cI cL cZ Z_thrownCode Z_p Z_n Z_order Z_monomials Z_generators Z_upTo Z_members Z_lefts Z_vars Z_leadsFound Z_words Z_rest) sz)) 0 0 (va_A (ws_zleft a_Z a_Z_rest a_Z_mono a_Z_degree a_Z_generator a_Z_hand a_Z_has a_Z_row a_Z_work a_Z_basis a_Z_product a_Z_known a_Z_lead a_Z_tail a_Z_word a_Z_vector a_Z_system a_Z_now a_Z_next cI cL cZ Z_thrownCode Z_p Z_n Z_order Z_monomials Z_generators Z_upTo Z_members Z_lefts Z_vars Z_leadsFound Z_words Z_rest) sz) := by
  refine Met.ofW (cc := c_Z_leftb) (maxL := 2) (ret := (some .int)) (by decide +kernel) rfl ?_
  intro p e s m args below meth c s₁ B hml hv
  obtain ⟨rfl, hsz, hP, hK, hN, hD0⟩ := hv
  subst hsz
  have hD := hD0.self (sz := s.heap.size)
  have hl := lv_entry ([.ref a_Z, .int i1]) (n := 2) (Nat.le_of_ble_eq_true rfl)
  rw [lg_entry_eq]
  generalize (lg_sl ([.ref a_Z, .int i1]) ++ List.replicate (2 - (lg_sl ([.ref a_Z, .int i1])).length) Slot.unset).toArray = ls at hl ⊢
  exact e_zleft (p, l, e, s, m, ([.ref a_Z, .int i1] : List Value).toArray, below, meth, c) D cI cL cZ a_Z a_Z_rest a_Z_mono a_Z_degree a_Z_generator a_Z_hand a_Z_has a_Z_row a_Z_work a_Z_basis a_Z_product a_Z_known a_Z_lead a_Z_tail a_Z_word a_Z_vector a_Z_system a_Z_now a_Z_next (va_A (ws_zleft a_Z a_Z_rest a_Z_mono a_Z_degree a_Z_generator a_Z_hand a_Z_has a_Z_row a_Z_work a_Z_basis a_Z_product a_Z_known a_Z_lead a_Z_tail a_Z_word a_Z_vector a_Z_system a_Z_now a_Z_next cI cL cZ Z_thrownCode Z_p Z_n Z_order Z_monomials Z_generators Z_upTo Z_members Z_lefts Z_vars Z_leadsFound Z_words Z_rest) s.heap.size) Z_p Z_n Z_order Z_monomials Z_generators Z_upTo Z_members Z_lefts Z_vars Z_leadsFound Z_words Z_rest r_ Z_thrownCode_r F ⟨B.exec, B.bytes, B.returns, hml, findClass_of_methodNamed B.named, fun w h => atoms_spec (ws := (.code y_Z_left c_Z_leftb 2 (some .int) :: gAll)) B.pre w (List.mem_cons_of_mem _ h), B.notSynchronized⟩ hK (fun q h => Or.inr h) hN i1 Z_thrownCode hrun s.heap [] ls hP hD va_S.rf hl
theorem d_Z_times_0 : decode c_Z_timesb 0 = .ok (.aload_n 0, 1) := by decide +kernel
theorem d_Z_times_1 : decode c_Z_timesb 1 = .ok (.iconst 0, 1) := by decide +kernel
theorem d_Z_times_2 : decode c_Z_timesb 2 = .ok (.putfield 7, 3) := by decide +kernel
theorem d_Z_times_5 : decode c_Z_timesb 5 = .ok (.iload_n 1, 1) := by decide +kernel
theorem d_Z_times_6 : decode c_Z_timesb 6 = .ok (.ifCond .lt 35, 3) := by decide +kernel
theorem d_Z_times_9 : decode c_Z_timesb 9 = .ok (.iload_n 1, 1) := by decide +kernel
theorem d_Z_times_10 : decode c_Z_timesb 10 = .ok (.aload_n 0, 1) := by decide +kernel
theorem d_Z_times_11 : decode c_Z_timesb 11 = .ok (.getfield 63, 3) := by decide +kernel
theorem d_Z_times_14 : decode c_Z_timesb 14 = .ok (.if_icmp .ge 27, 3) := by decide +kernel
theorem d_Z_times_17 : decode c_Z_timesb 17 = .ok (.iload_n 2, 1) := by decide +kernel
theorem d_Z_times_18 : decode c_Z_timesb 18 = .ok (.ifCond .lt 23, 3) := by decide +kernel
theorem d_Z_times_21 : decode c_Z_timesb 21 = .ok (.iload_n 2, 1) := by decide +kernel
theorem d_Z_times_22 : decode c_Z_timesb 22 = .ok (.aload_n 0, 1) := by decide +kernel
theorem d_Z_times_23 : decode c_Z_timesb 23 = .ok (.getfield 60, 3) := by decide +kernel
theorem d_Z_times_26 : decode c_Z_timesb 26 = .ok (.if_icmp .ge 15, 3) := by decide +kernel
theorem d_Z_times_29 : decode c_Z_timesb 29 = .ok (.iload_n 3, 1) := by decide +kernel
theorem d_Z_times_30 : decode c_Z_timesb 30 = .ok (.ifCond .lt 11, 3) := by decide +kernel
theorem d_Z_times_33 : decode c_Z_timesb 33 = .ok (.iload_n 3, 1) := by decide +kernel
theorem d_Z_times_34 : decode c_Z_timesb 34 = .ok (.aload_n 0, 1) := by decide +kernel
theorem d_Z_times_35 : decode c_Z_timesb 35 = .ok (.getfield 60, 3) := by decide +kernel
theorem d_Z_times_38 : decode c_Z_timesb 38 = .ok (.if_icmp .lt 7, 3) := by decide +kernel
theorem d_Z_times_41 : decode c_Z_timesb 41 = .ok (.iconst 1, 1) := by decide +kernel
theorem d_Z_times_42 : decode c_Z_timesb 42 = .ok (.goto 4, 3) := by decide +kernel
theorem d_Z_times_45 : decode c_Z_timesb 45 = .ok (.iconst 0, 1) := by decide +kernel
theorem d_Z_times_46 : decode c_Z_timesb 46 = .ok (.istore 4, 2) := by decide +kernel
theorem d_Z_times_48 : decode c_Z_timesb 48 = .ok (.iload 4, 2) := by decide +kernel
theorem d_Z_times_50 : decode c_Z_timesb 50 = .ok (.ifCond .eq 7, 3) := by decide +kernel
theorem d_Z_times_53 : decode c_Z_timesb 53 = .ok (.iconst (-1), 1) := by decide +kernel
theorem d_Z_times_54 : decode c_Z_timesb 54 = .ok (.goto 20, 3) := by decide +kernel
theorem d_Z_times_57 : decode c_Z_timesb 57 = .ok (.aload_n 0, 1) := by decide +kernel
theorem d_Z_times_58 : decode c_Z_timesb 58 = .ok (.getfield 69, 3) := by decide +kernel
theorem d_Z_times_61 : decode c_Z_timesb 61 = .ok (.sipush 1600, 3) := by decide +kernel
theorem d_Z_times_64 : decode c_Z_timesb 64 = .ok (.iload_n 1, 1) := by decide +kernel
theorem d_Z_times_65 : decode c_Z_timesb 65 = .ok (.imul, 1) := by decide +kernel
theorem d_Z_times_66 : decode c_Z_timesb 66 = .ok (.bipush 40, 2) := by decide +kernel
theorem d_Z_times_68 : decode c_Z_timesb 68 = .ok (.iload_n 2, 1) := by decide +kernel
theorem d_Z_times_69 : decode c_Z_timesb 69 = .ok (.imul, 1) := by decide +kernel
theorem d_Z_times_70 : decode c_Z_timesb 70 = .ok (.iadd, 1) := by decide +kernel
theorem d_Z_times_71 : decode c_Z_timesb 71 = .ok (.iload_n 3, 1) := by decide +kernel
theorem d_Z_times_72 : decode c_Z_timesb 72 = .ok (.iadd, 1) := by decide +kernel
theorem d_Z_times_73 : decode c_Z_timesb 73 = .ok (.iaload, 1) := by decide +kernel
theorem d_Z_times_74 : decode c_Z_timesb 74 = .ok (.ireturn, 1) := by decide +kernel
abbrev ws_ztimes (a_Z a_Z_product a_Z_mono a_Z_degree a_Z_generator a_Z_hand a_Z_has a_Z_row a_Z_work a_Z_basis a_Z_rest a_Z_known a_Z_lead a_Z_tail a_Z_word a_Z_vector a_Z_system a_Z_now a_Z_next : Nat) (cI cL cZ : ClassId) (Z_thrownCode Z_p Z_n Z_order Z_monomials Z_generators Z_upTo Z_members Z_lefts Z_vars Z_leadsFound Z_words : Int32) (Z_product : Nat → Int32) : va_W := [(a_Z, .inr (5, [.int Z_thrownCode, .int Z_p, .int Z_n, .int Z_order, .int Z_monomials, .ref a_Z_mono, .ref a_Z_degree, .int Z_generators, .ref a_Z_generator, .ref a_Z_hand, .int Z_upTo, .ref a_Z_has, .ref a_Z_row, .ref a_Z_work, .ref a_Z_basis, .int Z_members, .int Z_lefts, .int Z_vars, .ref a_Z_rest, .ref a_Z_product, .ref a_Z_known, .int Z_leadsFound, .ref a_Z_lead, .ref a_Z_tail, .int Z_words, .ref a_Z_word, .ref a_Z_vector, .ref a_Z_system, .ref a_Z_now, .ref a_Z_next])), (a_Z_product, .inl (cI, 6400, .inl Z_product))]
abbrev rm_ztimes : Room := { frames := 0, cells := 0, slots := 0, locals := 0 }
abbrev g_ztimes (X : gX) (D : va_G) (cI cL cZ : ClassId) (a_Z a_Z_product a_Z_mono a_Z_degree a_Z_generator a_Z_hand a_Z_has a_Z_row a_Z_work a_Z_basis a_Z_rest a_Z_known a_Z_lead a_Z_tail a_Z_word a_Z_vector a_Z_system a_Z_now a_Z_next : Nat) (A : Nat → Prop) (Z_p Z_n Z_order Z_monomials Z_generators Z_upTo Z_members Z_lefts Z_vars Z_leadsFound Z_words : Int32) (Z_product : Nat → Int32) (r_ Z_thrownCode_r : Int32) (pc : Nat) (lv : List (Nat × Value)) (st : List Value) (Z_thrownCode : Int32) : Prop := ∀ (H : Heap) (locs : List Loc) (ls : Array Slot), va_P D classes (ws_ztimes a_Z a_Z_product a_Z_mono a_Z_degree a_Z_generator a_Z_hand a_Z_has a_Z_row a_Z_work a_Z_basis a_Z_rest a_Z_known a_Z_lead a_Z_tail a_Z_word a_Z_vector a_Z_system a_Z_now a_Z_next cI cL cZ Z_thrownCode Z_p Z_n Z_order Z_monomials Z_generators Z_upTo Z_members Z_lefts Z_vars Z_leadsFound Z_words Z_product) H → va_D A (ws_ztimes a_Z a_Z_product a_Z_mono a_Z_degree a_Z_generator a_Z_hand a_Z_has a_Z_row a_Z_work a_Z_basis a_Z_rest a_Z_known a_Z_lead a_Z_tail a_Z_word a_Z_vector a_Z_system a_Z_now a_Z_next cI cL cZ Z_thrownCode Z_p Z_n Z_order Z_monomials Z_generators Z_upTo Z_members Z_lefts Z_vars Z_leadsFound Z_words Z_product) → va_S A (gs X).heap H locs → lv_has ls 5 lv → gWW X rm_ztimes H locs 0 0 (MQ (gbl X) (va_Qi (fun r (_ : Unit) => r = r_) (gB D (gT cI cL cZ) A (ws_ztimes a_Z a_Z_product a_Z_mono a_Z_degree a_Z_generator a_Z_hand a_Z_has a_Z_row a_Z_work a_Z_basis a_Z_rest a_Z_known a_Z_lead a_Z_tail a_Z_word a_Z_vector a_Z_system a_Z_now a_Z_next cI cL cZ Z_thrownCode_r Z_p Z_n Z_order Z_monomials Z_generators Z_upTo Z_members Z_lefts Z_vars Z_leadsFound Z_words Z_product)) A) (ga X) (gs X) 0 0 A) (F0 (gm X) pc ls st)
set_option maxHeartbeats 4000000 in
set_option maxRecDepth 100000 in
theorem w_ztimes_46 (X : gX) (D : va_G) (cI cL cZ : ClassId) (a_Z a_Z_product a_Z_mono a_Z_degree a_Z_generator a_Z_hand a_Z_has a_Z_row a_Z_work a_Z_basis a_Z_rest a_Z_known a_Z_lead a_Z_tail a_Z_word a_Z_vector a_Z_system a_Z_now a_Z_next : Nat) (A : Nat → Prop) (Z_p Z_n Z_order Z_monomials Z_generators Z_upTo Z_members Z_lefts Z_vars Z_leadsFound Z_words : Int32) (Z_product : Nat → Int32) (r_ Z_thrownCode_r : Int32) (F : Nat) (C0 : gC X c_Z_timesb (some .int) 5 "RemnantDictionaryModel" gAll) (hK : va_K D classes (gT cI cL cZ) (gs X)) (hA : ∀ q : Nat, (gs X).heap.size ≤ q → A q) (hN : gN (gs X))  (i1 i2 i3 t0 Z_thrownCode : Int32) (hrun : s_ztimes_46 F Z_lefts Z_vars Z_product i1 i2 i3 t0 Z_thrownCode = some (r_, Z_thrownCode_r)) : g_ztimes X D cI cL cZ a_Z a_Z_product a_Z_mono a_Z_degree a_Z_generator a_Z_hand a_Z_has a_Z_row a_Z_work a_Z_basis a_Z_rest a_Z_known a_Z_lead a_Z_tail a_Z_word a_Z_vector a_Z_system a_Z_now a_Z_next A Z_p Z_n Z_order Z_monomials Z_generators Z_upTo Z_members Z_lefts Z_vars Z_leadsFound Z_words Z_product r_ Z_thrownCode_r 46 [(0, .ref a_Z), (1, .int i1), (2, .int i2), (3, .int i3)] [.int t0] Z_thrownCode := by
  have C1 := C0
  obtain ⟨hx, hb, hr, hml, hown, hts, hlocks⟩ := C1
  unfold s_ztimes_46 at hrun
  intro H locs ls hP hD hS hl
  refine lv_istore (lv' := [(4, .int t0), (0, .ref a_Z), (1, .int i1), (2, .int i2), (3, .int i3)]) hx hb d_Z_times_46 hl (by decide) rfl (fun ls hl => ?_)
  refine lv_iload hx hb d_Z_times_48 (lv_at hl 0 rfl) ?_
  refine g_if_eq (tgt := 57) hx hb d_Z_times_50 (by decide) hrun (fun _ hrun => ?_) (fun _ hrun => ?_)
  · refine lv_aload_n hx hb d_Z_times_57 rfl (lv_at hl 1 rfl) ?_
    refine va_get (D := D) (ci := 5) (v := .ref a_Z_product) (C := "RemnantDictionaryModel") (T := T_Z) (N := 30) hx hb hts iw_Z hown hK hP 0 rfl rfl 19 (by decide) (hts _ k_452) (fun _ h9 => h9) rfl d_Z_times_58 ?_
    refine lv_sipush (v := 1600) hx hb d_Z_times_61 (by decide) ?_
    refine lv_iload_n hx hb d_Z_times_64 rfl (lv_at hl 2 rfl) ?_
    refine lv_imul hx hb d_Z_times_65 ?_
    refine lv_bipush (v := 40) hx hb d_Z_times_66 (by decide) ?_
    refine lv_iload_n hx hb d_Z_times_68 rfl (lv_at hl 3 rfl) ?_
    refine lv_imul hx hb d_Z_times_69 ?_
    refine lv_iadd hx hb d_Z_times_70 ?_
    refine lv_iload_n hx hb d_Z_times_71 rfl (lv_at hl 4 rfl) ?_
    refine lv_iadd hx hb d_Z_times_72 ?_
    refine g_iald hx hb hK hP 1 0 rfl rfl hrun d_Z_times_73 (fun x_1 hrun => ?_)
    cases hrun
    exact W.iret hx hb hr (fun t ht hW => ⟨⟨_, (), rfl, rfl, gB_of ht hW.alike hP hK hD⟩, hS.F ht⟩) hS.2.2 d_Z_times_74
  · refine lv_iconst (v := (-1)) hx hb d_Z_times_53 (by decide) ?_
    refine lv_goto (tgt := 74) hx hb d_Z_times_54 (by decide) ?_
    cases hrun
    exact W.iret hx hb hr (fun t ht hW => ⟨⟨_, (), rfl, rfl, gB_of ht hW.alike hP hK hD⟩, hS.F ht⟩) hS.2.2 d_Z_times_74
set_option maxHeartbeats 4000000 in
set_option maxRecDepth 100000 in
theorem w_ztimes_41 (X : gX) (D : va_G) (cI cL cZ : ClassId) (a_Z a_Z_product a_Z_mono a_Z_degree a_Z_generator a_Z_hand a_Z_has a_Z_row a_Z_work a_Z_basis a_Z_rest a_Z_known a_Z_lead a_Z_tail a_Z_word a_Z_vector a_Z_system a_Z_now a_Z_next : Nat) (A : Nat → Prop) (Z_p Z_n Z_order Z_monomials Z_generators Z_upTo Z_members Z_lefts Z_vars Z_leadsFound Z_words : Int32) (Z_product : Nat → Int32) (r_ Z_thrownCode_r : Int32) (F : Nat) (C0 : gC X c_Z_timesb (some .int) 5 "RemnantDictionaryModel" gAll) (hK : va_K D classes (gT cI cL cZ) (gs X)) (hA : ∀ q : Nat, (gs X).heap.size ≤ q → A q) (hN : gN (gs X))  (i1 i2 i3 Z_thrownCode : Int32) (hrun : s_ztimes_41 F Z_lefts Z_vars Z_product i1 i2 i3 Z_thrownCode = some (r_, Z_thrownCode_r)) : g_ztimes X D cI cL cZ a_Z a_Z_product a_Z_mono a_Z_degree a_Z_generator a_Z_hand a_Z_has a_Z_row a_Z_work a_Z_basis a_Z_rest a_Z_known a_Z_lead a_Z_tail a_Z_word a_Z_vector a_Z_system a_Z_now a_Z_next A Z_p Z_n Z_order Z_monomials Z_generators Z_upTo Z_members Z_lefts Z_vars Z_leadsFound Z_words Z_product r_ Z_thrownCode_r 41 [(0, .ref a_Z), (1, .int i1), (2, .int i2), (3, .int i3)] [] Z_thrownCode := by
  have C1 := C0
  obtain ⟨hx, hb, hr, hml, hown, hts, hlocks⟩ := C1
  unfold s_ztimes_41 at hrun
  intro H locs ls hP hD hS hl
  refine lv_iconst (v := 1) hx hb d_Z_times_41 (by decide) ?_
  refine lv_goto (tgt := 46) hx hb d_Z_times_42 (by decide) ?_
  exact w_ztimes_46 X D cI cL cZ a_Z a_Z_product a_Z_mono a_Z_degree a_Z_generator a_Z_hand a_Z_has a_Z_row a_Z_work a_Z_basis a_Z_rest a_Z_known a_Z_lead a_Z_tail a_Z_word a_Z_vector a_Z_system a_Z_now a_Z_next A Z_p Z_n Z_order Z_monomials Z_generators Z_upTo Z_members Z_lefts Z_vars Z_leadsFound Z_words Z_product r_ Z_thrownCode_r F C0 hK hA hN  i1 i2 i3 1 Z_thrownCode hrun H locs ls hP hD hS (lv_sub hl [0, 1, 2, 3] rfl)
set_option maxHeartbeats 4000000 in
set_option maxRecDepth 100000 in
theorem e_ztimes (X : gX) (D : va_G) (cI cL cZ : ClassId) (a_Z a_Z_product a_Z_mono a_Z_degree a_Z_generator a_Z_hand a_Z_has a_Z_row a_Z_work a_Z_basis a_Z_rest a_Z_known a_Z_lead a_Z_tail a_Z_word a_Z_vector a_Z_system a_Z_now a_Z_next : Nat) (A : Nat → Prop) (Z_p Z_n Z_order Z_monomials Z_generators Z_upTo Z_members Z_lefts Z_vars Z_leadsFound Z_words : Int32) (Z_product : Nat → Int32) (r_ Z_thrownCode_r : Int32) (F : Nat) (C0 : gC X c_Z_timesb (some .int) 5 "RemnantDictionaryModel" gAll) (hK : va_K D classes (gT cI cL cZ) (gs X)) (hA : ∀ q : Nat, (gs X).heap.size ≤ q → A q) (hN : gN (gs X)) (i1 i2 i3 Z_thrownCode : Int32) (hrun : m_ztimes F Z_lefts Z_vars Z_product i1 i2 i3 Z_thrownCode = some (r_, Z_thrownCode_r)) : g_ztimes X D cI cL cZ a_Z a_Z_product a_Z_mono a_Z_degree a_Z_generator a_Z_hand a_Z_has a_Z_row a_Z_work a_Z_basis a_Z_rest a_Z_known a_Z_lead a_Z_tail a_Z_word a_Z_vector a_Z_system a_Z_now a_Z_next A Z_p Z_n Z_order Z_monomials Z_generators Z_upTo Z_members Z_lefts Z_vars Z_leadsFound Z_words Z_product r_ Z_thrownCode_r 0 [(0, .ref a_Z), (1, .int i1), (2, .int i2), (3, .int i3)] [] Z_thrownCode := by
  have C1 := C0
  obtain ⟨hx, hb, hr, hml, hown, hts, hlocks⟩ := C1
  unfold m_ztimes at hrun
  intro H locs ls hP hD hS hl
  refine lv_aload_n hx hb d_Z_times_0 rfl (lv_at hl 0 rfl) ?_
  refine lv_iconst (v := 0) hx hb d_Z_times_1 (by decide) ?_
  refine va_put (D := D) (ci := 5) (v := .int 0) (ty := .int) (C := "RemnantDictionaryModel") (T := T_Z) (N := 30) hx hb hts iw_Z ty_Z ty_Z_ok nm_Z hown hK hP hD hS 0 rfl rfl 0 (by decide) (hts _ k_430) (fun _ h9 => h9) rfl (by decide +kernel) rfl rfl (Nat.le_of_ble_eq_true rfl) d_Z_times_2 (fun H locs (hP : va_P D classes (ws_ztimes a_Z a_Z_product a_Z_mono a_Z_degree a_Z_generator a_Z_hand a_Z_has a_Z_row a_Z_work a_Z_basis a_Z_rest a_Z_known a_Z_lead a_Z_tail a_Z_word a_Z_vector a_Z_system a_Z_now a_Z_next cI cL cZ 0 Z_p Z_n Z_order Z_monomials Z_generators Z_upTo Z_members Z_lefts Z_vars Z_leadsFound Z_words Z_product) H) (hD : va_D A (ws_ztimes a_Z a_Z_product a_Z_mono a_Z_degree a_Z_generator a_Z_hand a_Z_has a_Z_row a_Z_work a_Z_basis a_Z_rest a_Z_known a_Z_lead a_Z_tail a_Z_word a_Z_vector a_Z_system a_Z_now a_Z_next cI cL cZ 0 Z_p Z_n Z_order Z_monomials Z_generators Z_upTo Z_members Z_lefts Z_vars Z_leadsFound Z_words Z_product)) hS => ?_)
  refine lv_iload_n hx hb d_Z_times_5 rfl (lv_at hl 1 rfl) ?_
  refine g_if_lt (tgt := 41) hx hb d_Z_times_6 (by decide) hrun (fun _ hrun => ?_) (fun _ hrun => ?_)
  · exact w_ztimes_41 X D cI cL cZ a_Z a_Z_product a_Z_mono a_Z_degree a_Z_generator a_Z_hand a_Z_has a_Z_row a_Z_work a_Z_basis a_Z_rest a_Z_known a_Z_lead a_Z_tail a_Z_word a_Z_vector a_Z_system a_Z_now a_Z_next A Z_p Z_n Z_order Z_monomials Z_generators Z_upTo Z_members Z_lefts Z_vars Z_leadsFound Z_words Z_product r_ Z_thrownCode_r F C0 hK hA hN  i1 i2 i3 0 hrun H locs ls hP hD hS (lv_sub hl [0, 1, 2, 3] rfl)
  · refine lv_iload_n hx hb d_Z_times_9 rfl (lv_at hl 1 rfl) ?_
    refine lv_aload_n hx hb d_Z_times_10 rfl (lv_at hl 0 rfl) ?_
    refine va_get (D := D) (ci := 5) (v := .int Z_vars) (C := "RemnantDictionaryModel") (T := T_Z) (N := 30) hx hb hts iw_Z hown hK hP 0 rfl rfl 17 (by decide) (hts _ k_495) (fun _ h9 => h9) rfl d_Z_times_11 ?_
    refine g_icmp_ge (tgt := 41) hx hb d_Z_times_14 (by decide) hrun (fun _ hrun => ?_) (fun _ hrun => ?_)
    · exact w_ztimes_41 X D cI cL cZ a_Z a_Z_product a_Z_mono a_Z_degree a_Z_generator a_Z_hand a_Z_has a_Z_row a_Z_work a_Z_basis a_Z_rest a_Z_known a_Z_lead a_Z_tail a_Z_word a_Z_vector a_Z_system a_Z_now a_Z_next A Z_p Z_n Z_order Z_monomials Z_generators Z_upTo Z_members Z_lefts Z_vars Z_leadsFound Z_words Z_product r_ Z_thrownCode_r F C0 hK hA hN  i1 i2 i3 0 hrun H locs ls hP hD hS (lv_sub hl [0, 1, 2, 3] rfl)
    · refine lv_iload_n hx hb d_Z_times_17 rfl (lv_at hl 2 rfl) ?_
      refine g_if_lt (tgt := 41) hx hb d_Z_times_18 (by decide) hrun (fun _ hrun => ?_) (fun _ hrun => ?_)
      · exact w_ztimes_41 X D cI cL cZ a_Z a_Z_product a_Z_mono a_Z_degree a_Z_generator a_Z_hand a_Z_has a_Z_row a_Z_work a_Z_basis a_Z_rest a_Z_known a_Z_lead a_Z_tail a_Z_word a_Z_vector a_Z_system a_Z_now a_Z_next A Z_p Z_n Z_order Z_monomials Z_generators Z_upTo Z_members Z_lefts Z_vars Z_leadsFound Z_words Z_product r_ Z_thrownCode_r F C0 hK hA hN  i1 i2 i3 0 hrun H locs ls hP hD hS (lv_sub hl [0, 1, 2, 3] rfl)
      · refine lv_iload_n hx hb d_Z_times_21 rfl (lv_at hl 2 rfl) ?_
        refine lv_aload_n hx hb d_Z_times_22 rfl (lv_at hl 0 rfl) ?_
        refine va_get (D := D) (ci := 5) (v := .int Z_lefts) (C := "RemnantDictionaryModel") (T := T_Z) (N := 30) hx hb hts iw_Z hown hK hP 0 rfl rfl 16 (by decide) (hts _ k_445) (fun _ h9 => h9) rfl d_Z_times_23 ?_
        refine g_icmp_ge (tgt := 41) hx hb d_Z_times_26 (by decide) hrun (fun _ hrun => ?_) (fun _ hrun => ?_)
        · exact w_ztimes_41 X D cI cL cZ a_Z a_Z_product a_Z_mono a_Z_degree a_Z_generator a_Z_hand a_Z_has a_Z_row a_Z_work a_Z_basis a_Z_rest a_Z_known a_Z_lead a_Z_tail a_Z_word a_Z_vector a_Z_system a_Z_now a_Z_next A Z_p Z_n Z_order Z_monomials Z_generators Z_upTo Z_members Z_lefts Z_vars Z_leadsFound Z_words Z_product r_ Z_thrownCode_r F C0 hK hA hN  i1 i2 i3 0 hrun H locs ls hP hD hS (lv_sub hl [0, 1, 2, 3] rfl)
        · refine lv_iload_n hx hb d_Z_times_29 rfl (lv_at hl 3 rfl) ?_
          refine g_if_lt (tgt := 41) hx hb d_Z_times_30 (by decide) hrun (fun _ hrun => ?_) (fun _ hrun => ?_)
          · exact w_ztimes_41 X D cI cL cZ a_Z a_Z_product a_Z_mono a_Z_degree a_Z_generator a_Z_hand a_Z_has a_Z_row a_Z_work a_Z_basis a_Z_rest a_Z_known a_Z_lead a_Z_tail a_Z_word a_Z_vector a_Z_system a_Z_now a_Z_next A Z_p Z_n Z_order Z_monomials Z_generators Z_upTo Z_members Z_lefts Z_vars Z_leadsFound Z_words Z_product r_ Z_thrownCode_r F C0 hK hA hN  i1 i2 i3 0 hrun H locs ls hP hD hS (lv_sub hl [0, 1, 2, 3] rfl)
          · refine lv_iload_n hx hb d_Z_times_33 rfl (lv_at hl 3 rfl) ?_
            refine lv_aload_n hx hb d_Z_times_34 rfl (lv_at hl 0 rfl) ?_
            refine va_get (D := D) (ci := 5) (v := .int Z_lefts) (C := "RemnantDictionaryModel") (T := T_Z) (N := 30) hx hb hts iw_Z hown hK hP 0 rfl rfl 16 (by decide) (hts _ k_445) (fun _ h9 => h9) rfl d_Z_times_35 ?_
            refine g_icmp_lt (tgt := 45) hx hb d_Z_times_38 (by decide) hrun (fun _ hrun => ?_) (fun _ hrun => ?_)
            · refine lv_iconst (v := 0) hx hb d_Z_times_45 (by decide) ?_
              exact w_ztimes_46 X D cI cL cZ a_Z a_Z_product a_Z_mono a_Z_degree a_Z_generator a_Z_hand a_Z_has a_Z_row a_Z_work a_Z_basis a_Z_rest a_Z_known a_Z_lead a_Z_tail a_Z_word a_Z_vector a_Z_system a_Z_now a_Z_next A Z_p Z_n Z_order Z_monomials Z_generators Z_upTo Z_members Z_lefts Z_vars Z_leadsFound Z_words Z_product r_ Z_thrownCode_r F C0 hK hA hN  i1 i2 i3 0 0 hrun H locs ls hP hD hS (lv_sub hl [0, 1, 2, 3] rfl)
            · exact w_ztimes_41 X D cI cL cZ a_Z a_Z_product a_Z_mono a_Z_degree a_Z_generator a_Z_hand a_Z_has a_Z_row a_Z_work a_Z_basis a_Z_rest a_Z_known a_Z_lead a_Z_tail a_Z_word a_Z_vector a_Z_system a_Z_now a_Z_next A Z_p Z_n Z_order Z_monomials Z_generators Z_upTo Z_members Z_lefts Z_vars Z_leadsFound Z_words Z_product r_ Z_thrownCode_r F C0 hK hA hN  i1 i2 i3 0 hrun H locs ls hP hD hS (lv_sub hl [0, 1, 2, 3] rfl)
set_option maxHeartbeats 4000000 in
set_option maxRecDepth 100000 in
theorem c_ztimes (l : Launch) (D : va_G) (cI cL cZ : ClassId) (a_Z a_Z_product a_Z_mono a_Z_degree a_Z_generator a_Z_hand a_Z_has a_Z_row a_Z_work a_Z_basis a_Z_rest a_Z_known a_Z_lead a_Z_tail a_Z_word a_Z_vector a_Z_system a_Z_now a_Z_next : Nat) (F : Nat) (Z_thrownCode Z_p Z_n Z_order Z_monomials Z_generators Z_upTo Z_members Z_lefts Z_vars Z_leadsFound Z_words : Int32) (Z_product : Nat → Int32) (i1 i2 i3 : Int32) (sz : Nat) (r_ Z_thrownCode_r : Int32) (hrun : m_ztimes F Z_lefts Z_vars Z_product i1 i2 i3 Z_thrownCode = some (r_, Z_thrownCode_r)) : Met l y_Z_times (.code y_Z_times c_Z_timesb 5 (some .int) :: gAll) rm_ztimes (va_Pc [.ref a_Z, .int i1, .int i2, .int i3] (gPW D (gT cI cL cZ) (ws_ztimes a_Z a_Z_product a_Z_mono a_Z_degree a_Z_generator a_Z_hand a_Z_has a_Z_row a_Z_work a_Z_basis a_Z_rest a_Z_known a_Z_lead a_Z_tail a_Z_word a_Z_vector a_Z_system a_Z_now a_Z_next cI cL cZ Z_thrownCode Z_p Z_n Z_order Z_monomials Z_generators Z_upTo Z_members Z_lefts Z_vars Z_leadsFound Z_words Z_product) sz)) (va_Qi (fun r (_ : Unit) => r = r_) (gB D (gT cI cL cZ) (va_A (ws_ztimes a_Z a_Z_product a_Z_mono a_Z_degree a_Z_generator a_Z_hand a_Z_has a_Z_row a_Z_work a_Z_basis a_Z_rest a_Z_known a_Z_lead a_Z_tail a_Z_word a_Z_vector a_Z_system a_Z_now a_Z_next cI cL cZ Z_thrownCode Z_p Z_n Z_order Z_monomials Z_generators Z_upTo Z_members Z_lefts Z_vars Z_leadsFound Z_words Z_product) sz) (ws_ztimes a_Z a_Z_product a_Z_mono a_Z_degree a_Z_generator a_Z_hand a_Z_has a_Z_row a_Z_work a_Z_basis a_Z_rest a_Z_known a_Z_lead a_Z_tail a_Z_word a_Z_vector a_Z_system a_Z_now a_Z_next cI cL cZ Z_thrownCode_r Z_p Z_n Z_order Z_monomials Z_generators Z_upTo Z_members Z_lefts Z_vars Z_leadsFound Z_words Z_product)) (va_A (ws_ztimes a_Z a_Z_product a_Z_mono a_Z_degree a_Z_generator a_Z_hand a_Z_has a_Z_row a_Z_work a_Z_basis a_Z_rest a_Z_known a_Z_lead a_Z_tail a_Z_word a_Z_vector a_Z_system a_Z_now a_Z_next cI cL cZ Z_thrownCode Z_p Z_n Z_order Z_monomials Z_generators Z_upTo Z_members Z_lefts Z_vars Z_leadsFound Z_words Z_product) sz)) 0 0 (va_A (ws_ztimes a_Z a_Z_product a_Z_mono a_Z_degree a_Z_generator a_Z_hand a_Z_has a_Z_row a_Z_work a_Z_basis a_Z_rest a_Z_known a_Z_lead a_Z_tail a_Z_word a_Z_vector a_Z_system a_Z_now a_Z_next cI cL cZ Z_thrownCode Z_p Z_n Z_order Z_monomials Z_generators Z_upTo Z_members Z_lefts Z_vars Z_leadsFound Z_words Z_product) sz) := by
  refine Met.ofW (cc := c_Z_timesb) (maxL := 5) (ret := (some .int)) (by decide +kernel) rfl ?_
  intro p e s m args below meth c s₁ B hml hv
  obtain ⟨rfl, hsz, hP, hK, hN, hD0⟩ := hv
  subst hsz
  have hD := hD0.self (sz := s.heap.size)
  have hl := lv_entry ([.ref a_Z, .int i1, .int i2, .int i3]) (n := 5) (Nat.le_of_ble_eq_true rfl)
  rw [lg_entry_eq]
  generalize (lg_sl ([.ref a_Z, .int i1, .int i2, .int i3]) ++ List.replicate (5 - (lg_sl ([.ref a_Z, .int i1, .int i2, .int i3])).length) Slot.unset).toArray = ls at hl ⊢
  exact e_ztimes (p, l, e, s, m, ([.ref a_Z, .int i1, .int i2, .int i3] : List Value).toArray, below, meth, c) D cI cL cZ a_Z a_Z_product a_Z_mono a_Z_degree a_Z_generator a_Z_hand a_Z_has a_Z_row a_Z_work a_Z_basis a_Z_rest a_Z_known a_Z_lead a_Z_tail a_Z_word a_Z_vector a_Z_system a_Z_now a_Z_next (va_A (ws_ztimes a_Z a_Z_product a_Z_mono a_Z_degree a_Z_generator a_Z_hand a_Z_has a_Z_row a_Z_work a_Z_basis a_Z_rest a_Z_known a_Z_lead a_Z_tail a_Z_word a_Z_vector a_Z_system a_Z_now a_Z_next cI cL cZ Z_thrownCode Z_p Z_n Z_order Z_monomials Z_generators Z_upTo Z_members Z_lefts Z_vars Z_leadsFound Z_words Z_product) s.heap.size) Z_p Z_n Z_order Z_monomials Z_generators Z_upTo Z_members Z_lefts Z_vars Z_leadsFound Z_words Z_product r_ Z_thrownCode_r F ⟨B.exec, B.bytes, B.returns, hml, findClass_of_methodNamed B.named, fun w h => atoms_spec (ws := (.code y_Z_times c_Z_timesb 5 (some .int) :: gAll)) B.pre w (List.mem_cons_of_mem _ h), B.notSynchronized⟩ hK (fun q h => Or.inr h) hN i1 i2 i3 Z_thrownCode hrun s.heap [] ls hP hD va_S.rf hl
theorem d_Z_dictionary_0 : decode c_Z_dictionaryb 0 = .ok (.aload_n 0, 1) := by decide +kernel
theorem d_Z_dictionary_1 : decode c_Z_dictionaryb 1 = .ok (.iconst 0, 1) := by decide +kernel
theorem d_Z_dictionary_2 : decode c_Z_dictionaryb 2 = .ok (.putfield 7, 3) := by decide +kernel
theorem d_Z_dictionary_5 : decode c_Z_dictionaryb 5 = .ok (.aload_n 0, 1) := by decide +kernel
theorem d_Z_dictionary_6 : decode c_Z_dictionaryb 6 = .ok (.getfield 75, 3) := by decide +kernel
theorem d_Z_dictionary_9 : decode c_Z_dictionaryb 9 = .ok (.ireturn, 1) := by decide +kernel
abbrev ws_zdictionary (a_Z a_Z_mono a_Z_degree a_Z_generator a_Z_hand a_Z_has a_Z_row a_Z_work a_Z_basis a_Z_rest a_Z_product a_Z_known a_Z_lead a_Z_tail a_Z_word a_Z_vector a_Z_system a_Z_now a_Z_next : Nat) (cI cL cZ : ClassId) (Z_thrownCode Z_p Z_n Z_order Z_monomials Z_generators Z_upTo Z_members Z_lefts Z_vars Z_leadsFound Z_words : Int32) : va_W := [(a_Z, .inr (5, [.int Z_thrownCode, .int Z_p, .int Z_n, .int Z_order, .int Z_monomials, .ref a_Z_mono, .ref a_Z_degree, .int Z_generators, .ref a_Z_generator, .ref a_Z_hand, .int Z_upTo, .ref a_Z_has, .ref a_Z_row, .ref a_Z_work, .ref a_Z_basis, .int Z_members, .int Z_lefts, .int Z_vars, .ref a_Z_rest, .ref a_Z_product, .ref a_Z_known, .int Z_leadsFound, .ref a_Z_lead, .ref a_Z_tail, .int Z_words, .ref a_Z_word, .ref a_Z_vector, .ref a_Z_system, .ref a_Z_now, .ref a_Z_next]))]
abbrev rm_zdictionary : Room := { frames := 0, cells := 0, slots := 0, locals := 0 }
abbrev g_zdictionary (X : gX) (D : va_G) (cI cL cZ : ClassId) (a_Z a_Z_mono a_Z_degree a_Z_generator a_Z_hand a_Z_has a_Z_row a_Z_work a_Z_basis a_Z_rest a_Z_product a_Z_known a_Z_lead a_Z_tail a_Z_word a_Z_vector a_Z_system a_Z_now a_Z_next : Nat) (A : Nat → Prop) (Z_p Z_n Z_order Z_monomials Z_generators Z_upTo Z_members Z_lefts Z_vars Z_leadsFound Z_words r_ Z_thrownCode_r : Int32) (pc : Nat) (lv : List (Nat × Value)) (st : List Value) (Z_thrownCode : Int32) : Prop := ∀ (H : Heap) (locs : List Loc) (ls : Array Slot), va_P D classes (ws_zdictionary a_Z a_Z_mono a_Z_degree a_Z_generator a_Z_hand a_Z_has a_Z_row a_Z_work a_Z_basis a_Z_rest a_Z_product a_Z_known a_Z_lead a_Z_tail a_Z_word a_Z_vector a_Z_system a_Z_now a_Z_next cI cL cZ Z_thrownCode Z_p Z_n Z_order Z_monomials Z_generators Z_upTo Z_members Z_lefts Z_vars Z_leadsFound Z_words) H → va_D A (ws_zdictionary a_Z a_Z_mono a_Z_degree a_Z_generator a_Z_hand a_Z_has a_Z_row a_Z_work a_Z_basis a_Z_rest a_Z_product a_Z_known a_Z_lead a_Z_tail a_Z_word a_Z_vector a_Z_system a_Z_now a_Z_next cI cL cZ Z_thrownCode Z_p Z_n Z_order Z_monomials Z_generators Z_upTo Z_members Z_lefts Z_vars Z_leadsFound Z_words) → va_S A (gs X).heap H locs → lv_has ls 1 lv → gWW X rm_zdictionary H locs 0 0 (MQ (gbl X) (va_Qi (fun r (_ : Unit) => r = r_) (gB D (gT cI cL cZ) A (ws_zdictionary a_Z a_Z_mono a_Z_degree a_Z_generator a_Z_hand a_Z_has a_Z_row a_Z_work a_Z_basis a_Z_rest a_Z_product a_Z_known a_Z_lead a_Z_tail a_Z_word a_Z_vector a_Z_system a_Z_now a_Z_next cI cL cZ Z_thrownCode_r Z_p Z_n Z_order Z_monomials Z_generators Z_upTo Z_members Z_lefts Z_vars Z_leadsFound Z_words)) A) (ga X) (gs X) 0 0 A) (F0 (gm X) pc ls st)
set_option maxHeartbeats 4000000 in
set_option maxRecDepth 100000 in
theorem e_zdictionary (X : gX) (D : va_G) (cI cL cZ : ClassId) (a_Z a_Z_mono a_Z_degree a_Z_generator a_Z_hand a_Z_has a_Z_row a_Z_work a_Z_basis a_Z_rest a_Z_product a_Z_known a_Z_lead a_Z_tail a_Z_word a_Z_vector a_Z_system a_Z_now a_Z_next : Nat) (A : Nat → Prop) (Z_p Z_n Z_order Z_monomials Z_generators Z_upTo Z_members Z_lefts Z_vars Z_leadsFound Z_words r_ Z_thrownCode_r : Int32) (F : Nat) (C0 : gC X c_Z_dictionaryb (some .int) 1 "RemnantDictionaryModel" gAll) (hK : va_K D classes (gT cI cL cZ) (gs X)) (hA : ∀ q : Nat, (gs X).heap.size ≤ q → A q) (hN : gN (gs X)) (Z_thrownCode : Int32) (hrun : m_zdictionary F Z_leadsFound Z_thrownCode = some (r_, Z_thrownCode_r)) : g_zdictionary X D cI cL cZ a_Z a_Z_mono a_Z_degree a_Z_generator a_Z_hand a_Z_has a_Z_row a_Z_work a_Z_basis a_Z_rest a_Z_product a_Z_known a_Z_lead a_Z_tail a_Z_word a_Z_vector a_Z_system a_Z_now a_Z_next A Z_p Z_n Z_order Z_monomials Z_generators Z_upTo Z_members Z_lefts Z_vars Z_leadsFound Z_words r_ Z_thrownCode_r 0 [(0, .ref a_Z)] [] Z_thrownCode := by
  have C1 := C0
  obtain ⟨hx, hb, hr, hml, hown, hts, hlocks⟩ := C1
  unfold m_zdictionary at hrun
  intro H locs ls hP hD hS hl
  refine lv_aload_n hx hb d_Z_dictionary_0 rfl (lv_at hl 0 rfl) ?_
  refine lv_iconst (v := 0) hx hb d_Z_dictionary_1 (by decide) ?_
  refine va_put (D := D) (ci := 5) (v := .int 0) (ty := .int) (C := "RemnantDictionaryModel") (T := T_Z) (N := 30) hx hb hts iw_Z ty_Z ty_Z_ok nm_Z hown hK hP hD hS 0 rfl rfl 0 (by decide) (hts _ k_430) (fun _ h9 => h9) rfl (by decide +kernel) rfl rfl (Nat.le_of_ble_eq_true rfl) d_Z_dictionary_2 (fun H locs (hP : va_P D classes (ws_zdictionary a_Z a_Z_mono a_Z_degree a_Z_generator a_Z_hand a_Z_has a_Z_row a_Z_work a_Z_basis a_Z_rest a_Z_product a_Z_known a_Z_lead a_Z_tail a_Z_word a_Z_vector a_Z_system a_Z_now a_Z_next cI cL cZ 0 Z_p Z_n Z_order Z_monomials Z_generators Z_upTo Z_members Z_lefts Z_vars Z_leadsFound Z_words) H) (hD : va_D A (ws_zdictionary a_Z a_Z_mono a_Z_degree a_Z_generator a_Z_hand a_Z_has a_Z_row a_Z_work a_Z_basis a_Z_rest a_Z_product a_Z_known a_Z_lead a_Z_tail a_Z_word a_Z_vector a_Z_system a_Z_now a_Z_next cI cL cZ 0 Z_p Z_n Z_order Z_monomials Z_generators Z_upTo Z_members Z_lefts Z_vars Z_leadsFound Z_words)) hS => ?_)
  refine lv_aload_n hx hb d_Z_dictionary_5 rfl (lv_at hl 0 rfl) ?_
  refine va_get (D := D) (ci := 5) (v := .int Z_leadsFound) (C := "RemnantDictionaryModel") (T := T_Z) (N := 30) hx hb hts iw_Z hown hK hP 0 rfl rfl 21 (by decide) (hts _ k_470) (fun _ h9 => h9) rfl d_Z_dictionary_6 ?_
  cases hrun
  exact W.iret hx hb hr (fun t ht hW => ⟨⟨_, (), rfl, rfl, gB_of ht hW.alike hP hK hD⟩, hS.F ht⟩) hS.2.2 d_Z_dictionary_9
set_option maxHeartbeats 4000000 in
set_option maxRecDepth 100000 in
theorem c_zdictionary (l : Launch) (D : va_G) (cI cL cZ : ClassId) (a_Z a_Z_mono a_Z_degree a_Z_generator a_Z_hand a_Z_has a_Z_row a_Z_work a_Z_basis a_Z_rest a_Z_product a_Z_known a_Z_lead a_Z_tail a_Z_word a_Z_vector a_Z_system a_Z_now a_Z_next : Nat) (F : Nat) (Z_thrownCode Z_p Z_n Z_order Z_monomials Z_generators Z_upTo Z_members Z_lefts Z_vars Z_leadsFound Z_words : Int32) (sz : Nat) (r_ Z_thrownCode_r : Int32) (hrun : m_zdictionary F Z_leadsFound Z_thrownCode = some (r_, Z_thrownCode_r)) : Met l y_Z_dictionary (.code y_Z_dictionary c_Z_dictionaryb 1 (some .int) :: gAll) rm_zdictionary (va_Pc [.ref a_Z] (gPW D (gT cI cL cZ) (ws_zdictionary a_Z a_Z_mono a_Z_degree a_Z_generator a_Z_hand a_Z_has a_Z_row a_Z_work a_Z_basis a_Z_rest a_Z_product a_Z_known a_Z_lead a_Z_tail a_Z_word a_Z_vector a_Z_system a_Z_now a_Z_next cI cL cZ Z_thrownCode Z_p Z_n Z_order Z_monomials Z_generators Z_upTo Z_members Z_lefts Z_vars Z_leadsFound Z_words) sz)) (va_Qi (fun r (_ : Unit) => r = r_) (gB D (gT cI cL cZ) (va_A (ws_zdictionary a_Z a_Z_mono a_Z_degree a_Z_generator a_Z_hand a_Z_has a_Z_row a_Z_work a_Z_basis a_Z_rest a_Z_product a_Z_known a_Z_lead a_Z_tail a_Z_word a_Z_vector a_Z_system a_Z_now a_Z_next cI cL cZ Z_thrownCode Z_p Z_n Z_order Z_monomials Z_generators Z_upTo Z_members Z_lefts Z_vars Z_leadsFound Z_words) sz) (ws_zdictionary a_Z a_Z_mono a_Z_degree a_Z_generator a_Z_hand a_Z_has a_Z_row a_Z_work a_Z_basis a_Z_rest a_Z_product a_Z_known a_Z_lead a_Z_tail a_Z_word a_Z_vector a_Z_system a_Z_now a_Z_next cI cL cZ Z_thrownCode_r Z_p Z_n Z_order Z_monomials Z_generators Z_upTo Z_members Z_lefts Z_vars Z_leadsFound Z_words)) (va_A (ws_zdictionary a_Z a_Z_mono a_Z_degree a_Z_generator a_Z_hand a_Z_has a_Z_row a_Z_work a_Z_basis a_Z_rest a_Z_product a_Z_known a_Z_lead a_Z_tail a_Z_word a_Z_vector a_Z_system a_Z_now a_Z_next cI cL cZ Z_thrownCode Z_p Z_n Z_order Z_monomials Z_generators Z_upTo Z_members Z_lefts Z_vars Z_leadsFound Z_words) sz)) 0 0 (va_A (ws_zdictionary a_Z a_Z_mono a_Z_degree a_Z_generator a_Z_hand a_Z_has a_Z_row a_Z_work a_Z_basis a_Z_rest a_Z_product a_Z_known a_Z_lead a_Z_tail a_Z_word a_Z_vector a_Z_system a_Z_now a_Z_next cI cL cZ Z_thrownCode Z_p Z_n Z_order Z_monomials Z_generators Z_upTo Z_members Z_lefts Z_vars Z_leadsFound Z_words) sz) := by
  refine Met.ofW (cc := c_Z_dictionaryb) (maxL := 1) (ret := (some .int)) (by decide +kernel) rfl ?_
  intro p e s m args below meth c s₁ B hml hv
  obtain ⟨rfl, hsz, hP, hK, hN, hD0⟩ := hv
  subst hsz
  have hD := hD0.self (sz := s.heap.size)
  have hl := lv_entry ([.ref a_Z]) (n := 1) (Nat.le_of_ble_eq_true rfl)
  rw [lg_entry_eq]
  generalize (lg_sl ([.ref a_Z]) ++ List.replicate (1 - (lg_sl ([.ref a_Z])).length) Slot.unset).toArray = ls at hl ⊢
  exact e_zdictionary (p, l, e, s, m, ([.ref a_Z] : List Value).toArray, below, meth, c) D cI cL cZ a_Z a_Z_mono a_Z_degree a_Z_generator a_Z_hand a_Z_has a_Z_row a_Z_work a_Z_basis a_Z_rest a_Z_product a_Z_known a_Z_lead a_Z_tail a_Z_word a_Z_vector a_Z_system a_Z_now a_Z_next (va_A (ws_zdictionary a_Z a_Z_mono a_Z_degree a_Z_generator a_Z_hand a_Z_has a_Z_row a_Z_work a_Z_basis a_Z_rest a_Z_product a_Z_known a_Z_lead a_Z_tail a_Z_word a_Z_vector a_Z_system a_Z_now a_Z_next cI cL cZ Z_thrownCode Z_p Z_n Z_order Z_monomials Z_generators Z_upTo Z_members Z_lefts Z_vars Z_leadsFound Z_words) s.heap.size) Z_p Z_n Z_order Z_monomials Z_generators Z_upTo Z_members Z_lefts Z_vars Z_leadsFound Z_words r_ Z_thrownCode_r F ⟨B.exec, B.bytes, B.returns, hml, findClass_of_methodNamed B.named, fun w h => atoms_spec (ws := (.code y_Z_dictionary c_Z_dictionaryb 1 (some .int) :: gAll)) B.pre w (List.mem_cons_of_mem _ h), B.notSynchronized⟩ hK (fun q h => Or.inr h) hN Z_thrownCode hrun s.heap [] ls hP hD va_S.rf hl
theorem d_Z_entry_0 : decode c_Z_entryb 0 = .ok (.aload_n 0, 1) := by decide +kernel
theorem d_Z_entry_1 : decode c_Z_entryb 1 = .ok (.iconst 0, 1) := by decide +kernel
theorem d_Z_entry_2 : decode c_Z_entryb 2 = .ok (.putfield 7, 3) := by decide +kernel
theorem d_Z_entry_5 : decode c_Z_entryb 5 = .ok (.iload_n 1, 1) := by decide +kernel
theorem d_Z_entry_6 : decode c_Z_entryb 6 = .ok (.ifCond .lt 24, 3) := by decide +kernel
theorem d_Z_entry_9 : decode c_Z_entryb 9 = .ok (.iload_n 1, 1) := by decide +kernel
theorem d_Z_entry_10 : decode c_Z_entryb 10 = .ok (.aload_n 0, 1) := by decide +kernel
theorem d_Z_entry_11 : decode c_Z_entryb 11 = .ok (.getfield 75, 3) := by decide +kernel
theorem d_Z_entry_14 : decode c_Z_entryb 14 = .ok (.if_icmp .ge 16, 3) := by decide +kernel
theorem d_Z_entry_17 : decode c_Z_entryb 17 = .ok (.iload_n 2, 1) := by decide +kernel
theorem d_Z_entry_18 : decode c_Z_entryb 18 = .ok (.ifCond .lt 12, 3) := by decide +kernel
theorem d_Z_entry_21 : decode c_Z_entryb 21 = .ok (.iload_n 3, 1) := by decide +kernel
theorem d_Z_entry_22 : decode c_Z_entryb 22 = .ok (.ifCond .lt 8, 3) := by decide +kernel
theorem d_Z_entry_25 : decode c_Z_entryb 25 = .ok (.iload_n 3, 1) := by decide +kernel
theorem d_Z_entry_26 : decode c_Z_entryb 26 = .ok (.iconst 1, 1) := by decide +kernel
theorem d_Z_entry_27 : decode c_Z_entryb 27 = .ok (.if_icmp .le 5, 3) := by decide +kernel
theorem d_Z_entry_30 : decode c_Z_entryb 30 = .ok (.iconst (-1), 1) := by decide +kernel
theorem d_Z_entry_31 : decode c_Z_entryb 31 = .ok (.ireturn, 1) := by decide +kernel
theorem d_Z_entry_32 : decode c_Z_entryb 32 = .ok (.iload_n 2, 1) := by decide +kernel
theorem d_Z_entry_33 : decode c_Z_entryb 33 = .ok (.ifCond .ne 18, 3) := by decide +kernel
theorem d_Z_entry_36 : decode c_Z_entryb 36 = .ok (.iload_n 3, 1) := by decide +kernel
theorem d_Z_entry_37 : decode c_Z_entryb 37 = .ok (.ifCond .ne 12, 3) := by decide +kernel
theorem d_Z_entry_40 : decode c_Z_entryb 40 = .ok (.aload_n 0, 1) := by decide +kernel
theorem d_Z_entry_41 : decode c_Z_entryb 41 = .ok (.getfield 78, 3) := by decide +kernel
theorem d_Z_entry_44 : decode c_Z_entryb 44 = .ok (.iload_n 1, 1) := by decide +kernel
theorem d_Z_entry_45 : decode c_Z_entryb 45 = .ok (.iaload, 1) := by decide +kernel
theorem d_Z_entry_46 : decode c_Z_entryb 46 = .ok (.goto 4, 3) := by decide +kernel
theorem d_Z_entry_49 : decode c_Z_entryb 49 = .ok (.iconst 1, 1) := by decide +kernel
theorem d_Z_entry_50 : decode c_Z_entryb 50 = .ok (.ireturn, 1) := by decide +kernel
theorem d_Z_entry_51 : decode c_Z_entryb 51 = .ok (.iconst 0, 1) := by decide +kernel
theorem d_Z_entry_52 : decode c_Z_entryb 52 = .ok (.istore 4, 2) := by decide +kernel
theorem d_Z_entry_54 : decode c_Z_entryb 54 = .ok (.bipush 39, 2) := by decide +kernel
theorem d_Z_entry_56 : decode c_Z_entryb 56 = .ok (.istore 5, 2) := by decide +kernel
theorem d_Z_entry_58 : decode c_Z_entryb 58 = .ok (.iload 5, 2) := by decide +kernel
theorem d_Z_entry_60 : decode c_Z_entryb 60 = .ok (.ifCond .lt 60, 3) := by decide +kernel
theorem d_Z_entry_63 : decode c_Z_entryb 63 = .ok (.aload_n 0, 1) := by decide +kernel
theorem d_Z_entry_64 : decode c_Z_entryb 64 = .ok (.getfield 81, 3) := by decide +kernel
theorem d_Z_entry_67 : decode c_Z_entryb 67 = .ok (.bipush 40, 2) := by decide +kernel
theorem d_Z_entry_69 : decode c_Z_entryb 69 = .ok (.iload_n 1, 1) := by decide +kernel
theorem d_Z_entry_70 : decode c_Z_entryb 70 = .ok (.imul, 1) := by decide +kernel
theorem d_Z_entry_71 : decode c_Z_entryb 71 = .ok (.iload 5, 2) := by decide +kernel
theorem d_Z_entry_73 : decode c_Z_entryb 73 = .ok (.iadd, 1) := by decide +kernel
theorem d_Z_entry_74 : decode c_Z_entryb 74 = .ok (.iaload, 1) := by decide +kernel
theorem d_Z_entry_75 : decode c_Z_entryb 75 = .ok (.ifCond .eq 39, 3) := by decide +kernel
theorem d_Z_entry_78 : decode c_Z_entryb 78 = .ok (.iinc 4 1, 3) := by decide +kernel
theorem d_Z_entry_81 : decode c_Z_entryb 81 = .ok (.iload 4, 2) := by decide +kernel
theorem d_Z_entry_83 : decode c_Z_entryb 83 = .ok (.iload_n 2, 1) := by decide +kernel
theorem d_Z_entry_84 : decode c_Z_entryb 84 = .ok (.if_icmp .ne 30, 3) := by decide +kernel
theorem d_Z_entry_87 : decode c_Z_entryb 87 = .ok (.iload_n 3, 1) := by decide +kernel
theorem d_Z_entry_88 : decode c_Z_entryb 88 = .ok (.ifCond .ne 13, 3) := by decide +kernel
theorem d_Z_entry_91 : decode c_Z_entryb 91 = .ok (.aload_n 0, 1) := by decide +kernel
theorem d_Z_entry_92 : decode c_Z_entryb 92 = .ok (.getfield 87, 3) := by decide +kernel
theorem d_Z_entry_95 : decode c_Z_entryb 95 = .ok (.iload 5, 2) := by decide +kernel
theorem d_Z_entry_97 : decode c_Z_entryb 97 = .ok (.iaload, 1) := by decide +kernel
theorem d_Z_entry_98 : decode c_Z_entryb 98 = .ok (.goto 15, 3) := by decide +kernel
theorem d_Z_entry_101 : decode c_Z_entryb 101 = .ok (.aload_n 0, 1) := by decide +kernel
theorem d_Z_entry_102 : decode c_Z_entryb 102 = .ok (.getfield 81, 3) := by decide +kernel
theorem d_Z_entry_105 : decode c_Z_entryb 105 = .ok (.bipush 40, 2) := by decide +kernel
theorem d_Z_entry_107 : decode c_Z_entryb 107 = .ok (.iload_n 1, 1) := by decide +kernel
theorem d_Z_entry_108 : decode c_Z_entryb 108 = .ok (.imul, 1) := by decide +kernel
theorem d_Z_entry_109 : decode c_Z_entryb 109 = .ok (.iload 5, 2) := by decide +kernel
theorem d_Z_entry_111 : decode c_Z_entryb 111 = .ok (.iadd, 1) := by decide +kernel
theorem d_Z_entry_112 : decode c_Z_entryb 112 = .ok (.iaload, 1) := by decide +kernel
theorem d_Z_entry_113 : decode c_Z_entryb 113 = .ok (.ireturn, 1) := by decide +kernel
theorem d_Z_entry_114 : decode c_Z_entryb 114 = .ok (.iinc 5 (-1), 3) := by decide +kernel
theorem d_Z_entry_117 : decode c_Z_entryb 117 = .ok (.goto (-59), 3) := by decide +kernel
theorem d_Z_entry_120 : decode c_Z_entryb 120 = .ok (.iconst (-1), 1) := by decide +kernel
theorem d_Z_entry_121 : decode c_Z_entryb 121 = .ok (.ireturn, 1) := by decide +kernel
abbrev ws_zentry (a_Z a_Z_lead a_Z_tail a_Z_word a_Z_mono a_Z_degree a_Z_generator a_Z_hand a_Z_has a_Z_row a_Z_work a_Z_basis a_Z_rest a_Z_product a_Z_known a_Z_vector a_Z_system a_Z_now a_Z_next : Nat) (cI cL cZ : ClassId) (Z_thrownCode Z_p Z_n Z_order Z_monomials Z_generators Z_upTo Z_members Z_lefts Z_vars Z_leadsFound Z_words : Int32) (Z_lead Z_tail Z_word : Nat → Int32) : va_W := [(a_Z, .inr (5, [.int Z_thrownCode, .int Z_p, .int Z_n, .int Z_order, .int Z_monomials, .ref a_Z_mono, .ref a_Z_degree, .int Z_generators, .ref a_Z_generator, .ref a_Z_hand, .int Z_upTo, .ref a_Z_has, .ref a_Z_row, .ref a_Z_work, .ref a_Z_basis, .int Z_members, .int Z_lefts, .int Z_vars, .ref a_Z_rest, .ref a_Z_product, .ref a_Z_known, .int Z_leadsFound, .ref a_Z_lead, .ref a_Z_tail, .int Z_words, .ref a_Z_word, .ref a_Z_vector, .ref a_Z_system, .ref a_Z_now, .ref a_Z_next])), (a_Z_lead, .inl (cI, 160, .inl Z_lead)), (a_Z_tail, .inl (cI, 6400, .inl Z_tail)), (a_Z_word, .inl (cI, 40, .inl Z_word))]
abbrev rm_zentry : Room := { frames := 0, cells := 0, slots := 0, locals := 0 }
abbrev g_zentry (X : gX) (D : va_G) (cI cL cZ : ClassId) (a_Z a_Z_lead a_Z_tail a_Z_word a_Z_mono a_Z_degree a_Z_generator a_Z_hand a_Z_has a_Z_row a_Z_work a_Z_basis a_Z_rest a_Z_product a_Z_known a_Z_vector a_Z_system a_Z_now a_Z_next : Nat) (A : Nat → Prop) (Z_p Z_n Z_order Z_monomials Z_generators Z_upTo Z_members Z_lefts Z_vars Z_leadsFound Z_words : Int32) (Z_lead Z_tail Z_word : Nat → Int32) (r_ Z_thrownCode_r : Int32) (pc : Nat) (lv : List (Nat × Value)) (st : List Value) (Z_thrownCode : Int32) : Prop := ∀ (H : Heap) (locs : List Loc) (ls : Array Slot), va_P D classes (ws_zentry a_Z a_Z_lead a_Z_tail a_Z_word a_Z_mono a_Z_degree a_Z_generator a_Z_hand a_Z_has a_Z_row a_Z_work a_Z_basis a_Z_rest a_Z_product a_Z_known a_Z_vector a_Z_system a_Z_now a_Z_next cI cL cZ Z_thrownCode Z_p Z_n Z_order Z_monomials Z_generators Z_upTo Z_members Z_lefts Z_vars Z_leadsFound Z_words Z_lead Z_tail Z_word) H → va_D A (ws_zentry a_Z a_Z_lead a_Z_tail a_Z_word a_Z_mono a_Z_degree a_Z_generator a_Z_hand a_Z_has a_Z_row a_Z_work a_Z_basis a_Z_rest a_Z_product a_Z_known a_Z_vector a_Z_system a_Z_now a_Z_next cI cL cZ Z_thrownCode Z_p Z_n Z_order Z_monomials Z_generators Z_upTo Z_members Z_lefts Z_vars Z_leadsFound Z_words Z_lead Z_tail Z_word) → va_S A (gs X).heap H locs → lv_has ls 6 lv → gWW X rm_zentry H locs 0 0 (MQ (gbl X) (va_Qi (fun r (_ : Unit) => r = r_) (gB D (gT cI cL cZ) A (ws_zentry a_Z a_Z_lead a_Z_tail a_Z_word a_Z_mono a_Z_degree a_Z_generator a_Z_hand a_Z_has a_Z_row a_Z_work a_Z_basis a_Z_rest a_Z_product a_Z_known a_Z_vector a_Z_system a_Z_now a_Z_next cI cL cZ Z_thrownCode_r Z_p Z_n Z_order Z_monomials Z_generators Z_upTo Z_members Z_lefts Z_vars Z_leadsFound Z_words Z_lead Z_tail Z_word)) A) (ga X) (gs X) 0 0 A) (F0 (gm X) pc ls st)
set_option maxHeartbeats 4000000 in
set_option maxRecDepth 100000 in
theorem w_zentry_58 (X : gX) (D : va_G) (cI cL cZ : ClassId) (a_Z a_Z_lead a_Z_tail a_Z_word a_Z_mono a_Z_degree a_Z_generator a_Z_hand a_Z_has a_Z_row a_Z_work a_Z_basis a_Z_rest a_Z_product a_Z_known a_Z_vector a_Z_system a_Z_now a_Z_next : Nat) (A : Nat → Prop) (Z_p Z_n Z_order Z_monomials Z_generators Z_upTo Z_members Z_lefts Z_vars Z_leadsFound Z_words : Int32) (Z_lead Z_tail Z_word : Nat → Int32) (r_ Z_thrownCode_r : Int32) (F : Nat) (C0 : gC X c_Z_entryb (some .int) 6 "RemnantDictionaryModel" gAll) (hK : va_K D classes (gT cI cL cZ) (gs X)) (hA : ∀ q : Nat, (gs X).heap.size ≤ q → A q) (hN : gN (gs X)) (k58 : Int32 → Int32 → Int32 → Int32 → Int32 → Int32 → Option (Int32 × Int32)) (hk58 : ∀ (i1 i2 i3 i4 i5 Z_thrownCode : Int32), k58 i1 i2 i3 i4 i5 Z_thrownCode = some (r_, Z_thrownCode_r) → g_zentry X D cI cL cZ a_Z a_Z_lead a_Z_tail a_Z_word a_Z_mono a_Z_degree a_Z_generator a_Z_hand a_Z_has a_Z_row a_Z_work a_Z_basis a_Z_rest a_Z_product a_Z_known a_Z_vector a_Z_system a_Z_now a_Z_next A Z_p Z_n Z_order Z_monomials Z_generators Z_upTo Z_members Z_lefts Z_vars Z_leadsFound Z_words Z_lead Z_tail Z_word r_ Z_thrownCode_r 58 [(0, .ref a_Z), (1, .int i1), (2, .int i2), (3, .int i3), (4, .int i4), (5, .int i5)] [] Z_thrownCode) (i1 i2 i3 i4 i5 Z_thrownCode : Int32) (hrun : s_zentry_58 F Z_leadsFound Z_lead Z_tail Z_word k58 i1 i2 i3 i4 i5 Z_thrownCode = some (r_, Z_thrownCode_r)) : g_zentry X D cI cL cZ a_Z a_Z_lead a_Z_tail a_Z_word a_Z_mono a_Z_degree a_Z_generator a_Z_hand a_Z_has a_Z_row a_Z_work a_Z_basis a_Z_rest a_Z_product a_Z_known a_Z_vector a_Z_system a_Z_now a_Z_next A Z_p Z_n Z_order Z_monomials Z_generators Z_upTo Z_members Z_lefts Z_vars Z_leadsFound Z_words Z_lead Z_tail Z_word r_ Z_thrownCode_r 58 [(0, .ref a_Z), (1, .int i1), (2, .int i2), (3, .int i3), (4, .int i4), (5, .int i5)] [] Z_thrownCode := by
  have C1 := C0
  obtain ⟨hx, hb, hr, hml, hown, hts, hlocks⟩ := C1
  unfold s_zentry_58 at hrun
  intro H locs ls hP hD hS hl
  refine lv_iload hx hb d_Z_entry_58 (lv_at hl 5 rfl) ?_
  refine g_if_lt (tgt := 120) hx hb d_Z_entry_60 (by decide) hrun (fun _ hrun => ?_) (fun _ hrun => ?_)
  · refine lv_iconst (v := (-1)) hx hb d_Z_entry_120 (by decide) ?_
    cases hrun
    exact W.iret hx hb hr (fun t ht hW => ⟨⟨_, (), rfl, rfl, gB_of ht hW.alike hP hK hD⟩, hS.F ht⟩) hS.2.2 d_Z_entry_121
  · refine lv_aload_n hx hb d_Z_entry_63 rfl (lv_at hl 0 rfl) ?_
    refine va_get (D := D) (ci := 5) (v := .ref a_Z_tail) (C := "RemnantDictionaryModel") (T := T_Z) (N := 30) hx hb hts iw_Z hown hK hP 0 rfl rfl 23 (by decide) (hts _ k_471) (fun _ h9 => h9) rfl d_Z_entry_64 ?_
    refine lv_bipush (v := 40) hx hb d_Z_entry_67 (by decide) ?_
    refine lv_iload_n hx hb d_Z_entry_69 rfl (lv_at hl 1 rfl) ?_
    refine lv_imul hx hb d_Z_entry_70 ?_
    refine lv_iload hx hb d_Z_entry_71 (lv_at hl 5 rfl) ?_
    refine lv_iadd hx hb d_Z_entry_73 ?_
    refine g_iald hx hb hK hP 2 0 rfl rfl hrun d_Z_entry_74 (fun x_1 hrun => ?_)
    refine g_if_eq (tgt := 114) hx hb d_Z_entry_75 (by decide) hrun (fun _ hrun => ?_) (fun _ hrun => ?_)
    · refine lv_iinc (v := (i5 + (-1))) (lv' := [(5, .int (i5 + (-1))), (0, .ref a_Z), (1, .int i1), (2, .int i2), (3, .int i3), (4, .int i4)]) hx hb d_Z_entry_114 hl (k := 5) rfl rfl (by decide) rfl (fun ls hl => ?_)
      refine lv_goto (tgt := 58) hx hb d_Z_entry_117 (by decide) ?_
      exact hk58 i1 i2 i3 i4 (i5 + (-1)) Z_thrownCode hrun H locs ls hP hD hS (lv_sub hl [1, 2, 3, 4, 5, 0] rfl)
    · refine lv_iinc (v := (i4 + 1)) (lv' := [(4, .int (i4 + 1)), (0, .ref a_Z), (1, .int i1), (2, .int i2), (3, .int i3), (5, .int i5)]) hx hb d_Z_entry_78 hl (k := 4) rfl rfl (by decide) rfl (fun ls hl => ?_)
      refine lv_iload hx hb d_Z_entry_81 (lv_at hl 0 rfl) ?_
      refine lv_iload_n hx hb d_Z_entry_83 rfl (lv_at hl 3 rfl) ?_
      refine g_icmp_ne (tgt := 114) hx hb d_Z_entry_84 (by decide) hrun (fun _ hrun => ?_) (fun _ hrun => ?_)
      · refine lv_iinc (v := (i5 + (-1))) (lv' := [(5, .int (i5 + (-1))), (4, .int (i4 + 1)), (0, .ref a_Z), (1, .int i1), (2, .int i2), (3, .int i3)]) hx hb d_Z_entry_114 hl (k := 5) rfl rfl (by decide) rfl (fun ls hl => ?_)
        refine lv_goto (tgt := 58) hx hb d_Z_entry_117 (by decide) ?_
        exact hk58 i1 i2 i3 (i4 + 1) (i5 + (-1)) Z_thrownCode hrun H locs ls hP hD hS (lv_sub hl [2, 3, 4, 5, 1, 0] rfl)
      · refine lv_iload_n hx hb d_Z_entry_87 rfl (lv_at hl 4 rfl) ?_
        refine g_if_ne (tgt := 101) hx hb d_Z_entry_88 (by decide) hrun (fun _ hrun => ?_) (fun _ hrun => ?_)
        · refine lv_aload_n hx hb d_Z_entry_101 rfl (lv_at hl 1 rfl) ?_
          refine va_get (D := D) (ci := 5) (v := .ref a_Z_tail) (C := "RemnantDictionaryModel") (T := T_Z) (N := 30) hx hb hts iw_Z hown hK hP 0 rfl rfl 23 (by decide) (hts _ k_471) (fun _ h9 => h9) rfl d_Z_entry_102 ?_
          refine lv_bipush (v := 40) hx hb d_Z_entry_105 (by decide) ?_
          refine lv_iload_n hx hb d_Z_entry_107 rfl (lv_at hl 2 rfl) ?_
          refine lv_imul hx hb d_Z_entry_108 ?_
          refine lv_iload hx hb d_Z_entry_109 (lv_at hl 5 rfl) ?_
          refine lv_iadd hx hb d_Z_entry_111 ?_
          refine g_iald hx hb hK hP 2 0 rfl rfl hrun d_Z_entry_112 (fun x_2 hrun => ?_)
          cases hrun
          exact W.iret hx hb hr (fun t ht hW => ⟨⟨_, (), rfl, rfl, gB_of ht hW.alike hP hK hD⟩, hS.F ht⟩) hS.2.2 d_Z_entry_113
        · refine lv_aload_n hx hb d_Z_entry_91 rfl (lv_at hl 1 rfl) ?_
          refine va_get (D := D) (ci := 5) (v := .ref a_Z_word) (C := "RemnantDictionaryModel") (T := T_Z) (N := 30) hx hb hts iw_Z hown hK hP 0 rfl rfl 25 (by decide) (hts _ k_478) (fun _ h9 => h9) rfl d_Z_entry_92 ?_
          refine lv_iload hx hb d_Z_entry_95 (lv_at hl 5 rfl) ?_
          refine g_iald hx hb hK hP 3 0 rfl rfl hrun d_Z_entry_97 (fun x_3 hrun => ?_)
          refine lv_goto (tgt := 113) hx hb d_Z_entry_98 (by decide) ?_
          cases hrun
          exact W.iret hx hb hr (fun t ht hW => ⟨⟨_, (), rfl, rfl, gB_of ht hW.alike hP hK hD⟩, hS.F ht⟩) hS.2.2 d_Z_entry_113
theorem v_zentry_58 (X : gX) (D : va_G) (cI cL cZ : ClassId) (a_Z a_Z_lead a_Z_tail a_Z_word a_Z_mono a_Z_degree a_Z_generator a_Z_hand a_Z_has a_Z_row a_Z_work a_Z_basis a_Z_rest a_Z_product a_Z_known a_Z_vector a_Z_system a_Z_now a_Z_next : Nat) (A : Nat → Prop) (Z_p Z_n Z_order Z_monomials Z_generators Z_upTo Z_members Z_lefts Z_vars Z_leadsFound Z_words : Int32) (Z_lead Z_tail Z_word : Nat → Int32) (r_ Z_thrownCode_r : Int32) (F : Nat) (C0 : gC X c_Z_entryb (some .int) 6 "RemnantDictionaryModel" gAll) (hK : va_K D classes (gT cI cL cZ) (gs X)) (hA : ∀ q : Nat, (gs X).heap.size ≤ q → A q) (hN : gN (gs X))  : ∀ (n : Nat) (i1 i2 i3 i4 i5 Z_thrownCode : Int32), b_zentry_58 F Z_leadsFound Z_lead Z_tail Z_word n i1 i2 i3 i4 i5 Z_thrownCode = some (r_, Z_thrownCode_r) → g_zentry X D cI cL cZ a_Z a_Z_lead a_Z_tail a_Z_word a_Z_mono a_Z_degree a_Z_generator a_Z_hand a_Z_has a_Z_row a_Z_work a_Z_basis a_Z_rest a_Z_product a_Z_known a_Z_vector a_Z_system a_Z_now a_Z_next A Z_p Z_n Z_order Z_monomials Z_generators Z_upTo Z_members Z_lefts Z_vars Z_leadsFound Z_words Z_lead Z_tail Z_word r_ Z_thrownCode_r 58 [(0, .ref a_Z), (1, .int i1), (2, .int i2), (3, .int i3), (4, .int i4), (5, .int i5)] [] Z_thrownCode := by
  intro n
  induction n with
  | zero => intro i1 i2 i3 i4 i5 Z_thrownCode hrun; cases hrun
  | succ n ih =>
    intro i1 i2 i3 i4 i5 Z_thrownCode hrun
    exact w_zentry_58 X D cI cL cZ a_Z a_Z_lead a_Z_tail a_Z_word a_Z_mono a_Z_degree a_Z_generator a_Z_hand a_Z_has a_Z_row a_Z_work a_Z_basis a_Z_rest a_Z_product a_Z_known a_Z_vector a_Z_system a_Z_now a_Z_next A Z_p Z_n Z_order Z_monomials Z_generators Z_upTo Z_members Z_lefts Z_vars Z_leadsFound Z_words Z_lead Z_tail Z_word r_ Z_thrownCode_r F C0 hK hA hN (b_zentry_58 F Z_leadsFound Z_lead Z_tail Z_word n) ih i1 i2 i3 i4 i5 Z_thrownCode hrun
set_option maxHeartbeats 4000000 in
set_option maxRecDepth 100000 in
theorem e_zentry (X : gX) (D : va_G) (cI cL cZ : ClassId) (a_Z a_Z_lead a_Z_tail a_Z_word a_Z_mono a_Z_degree a_Z_generator a_Z_hand a_Z_has a_Z_row a_Z_work a_Z_basis a_Z_rest a_Z_product a_Z_known a_Z_vector a_Z_system a_Z_now a_Z_next : Nat) (A : Nat → Prop) (Z_p Z_n Z_order Z_monomials Z_generators Z_upTo Z_members Z_lefts Z_vars Z_leadsFound Z_words : Int32) (Z_lead Z_tail Z_word : Nat → Int32) (r_ Z_thrownCode_r : Int32) (F : Nat) (C0 : gC X c_Z_entryb (some .int) 6 "RemnantDictionaryModel" gAll) (hK : va_K D classes (gT cI cL cZ) (gs X)) (hA : ∀ q : Nat, (gs X).heap.size ≤ q → A q) (hN : gN (gs X)) (i1 i2 i3 Z_thrownCode : Int32) (hrun : m_zentry F Z_leadsFound Z_lead Z_tail Z_word i1 i2 i3 Z_thrownCode = some (r_, Z_thrownCode_r)) : g_zentry X D cI cL cZ a_Z a_Z_lead a_Z_tail a_Z_word a_Z_mono a_Z_degree a_Z_generator a_Z_hand a_Z_has a_Z_row a_Z_work a_Z_basis a_Z_rest a_Z_product a_Z_known a_Z_vector a_Z_system a_Z_now a_Z_next A Z_p Z_n Z_order Z_monomials Z_generators Z_upTo Z_members Z_lefts Z_vars Z_leadsFound Z_words Z_lead Z_tail Z_word r_ Z_thrownCode_r 0 [(0, .ref a_Z), (1, .int i1), (2, .int i2), (3, .int i3)] [] Z_thrownCode := by
  have C1 := C0
  obtain ⟨hx, hb, hr, hml, hown, hts, hlocks⟩ := C1
  unfold m_zentry at hrun
  intro H locs ls hP hD hS hl
  refine lv_aload_n hx hb d_Z_entry_0 rfl (lv_at hl 0 rfl) ?_
  refine lv_iconst (v := 0) hx hb d_Z_entry_1 (by decide) ?_
  refine va_put (D := D) (ci := 5) (v := .int 0) (ty := .int) (C := "RemnantDictionaryModel") (T := T_Z) (N := 30) hx hb hts iw_Z ty_Z ty_Z_ok nm_Z hown hK hP hD hS 0 rfl rfl 0 (by decide) (hts _ k_430) (fun _ h9 => h9) rfl (by decide +kernel) rfl rfl (Nat.le_of_ble_eq_true rfl) d_Z_entry_2 (fun H locs (hP : va_P D classes (ws_zentry a_Z a_Z_lead a_Z_tail a_Z_word a_Z_mono a_Z_degree a_Z_generator a_Z_hand a_Z_has a_Z_row a_Z_work a_Z_basis a_Z_rest a_Z_product a_Z_known a_Z_vector a_Z_system a_Z_now a_Z_next cI cL cZ 0 Z_p Z_n Z_order Z_monomials Z_generators Z_upTo Z_members Z_lefts Z_vars Z_leadsFound Z_words Z_lead Z_tail Z_word) H) (hD : va_D A (ws_zentry a_Z a_Z_lead a_Z_tail a_Z_word a_Z_mono a_Z_degree a_Z_generator a_Z_hand a_Z_has a_Z_row a_Z_work a_Z_basis a_Z_rest a_Z_product a_Z_known a_Z_vector a_Z_system a_Z_now a_Z_next cI cL cZ 0 Z_p Z_n Z_order Z_monomials Z_generators Z_upTo Z_members Z_lefts Z_vars Z_leadsFound Z_words Z_lead Z_tail Z_word)) hS => ?_)
  refine lv_iload_n hx hb d_Z_entry_5 rfl (lv_at hl 1 rfl) ?_
  refine g_if_lt (tgt := 30) hx hb d_Z_entry_6 (by decide) hrun (fun _ hrun => ?_) (fun _ hrun => ?_)
  · refine lv_iconst (v := (-1)) hx hb d_Z_entry_30 (by decide) ?_
    cases hrun
    exact W.iret hx hb hr (fun t ht hW => ⟨⟨_, (), rfl, rfl, gB_of ht hW.alike hP hK hD⟩, hS.F ht⟩) hS.2.2 d_Z_entry_31
  · refine lv_iload_n hx hb d_Z_entry_9 rfl (lv_at hl 1 rfl) ?_
    refine lv_aload_n hx hb d_Z_entry_10 rfl (lv_at hl 0 rfl) ?_
    refine va_get (D := D) (ci := 5) (v := .int Z_leadsFound) (C := "RemnantDictionaryModel") (T := T_Z) (N := 30) hx hb hts iw_Z hown hK hP 0 rfl rfl 21 (by decide) (hts _ k_470) (fun _ h9 => h9) rfl d_Z_entry_11 ?_
    refine g_icmp_ge (tgt := 30) hx hb d_Z_entry_14 (by decide) hrun (fun _ hrun => ?_) (fun _ hrun => ?_)
    · refine lv_iconst (v := (-1)) hx hb d_Z_entry_30 (by decide) ?_
      cases hrun
      exact W.iret hx hb hr (fun t ht hW => ⟨⟨_, (), rfl, rfl, gB_of ht hW.alike hP hK hD⟩, hS.F ht⟩) hS.2.2 d_Z_entry_31
    · refine lv_iload_n hx hb d_Z_entry_17 rfl (lv_at hl 2 rfl) ?_
      refine g_if_lt (tgt := 30) hx hb d_Z_entry_18 (by decide) hrun (fun _ hrun => ?_) (fun _ hrun => ?_)
      · refine lv_iconst (v := (-1)) hx hb d_Z_entry_30 (by decide) ?_
        cases hrun
        exact W.iret hx hb hr (fun t ht hW => ⟨⟨_, (), rfl, rfl, gB_of ht hW.alike hP hK hD⟩, hS.F ht⟩) hS.2.2 d_Z_entry_31
      · refine lv_iload_n hx hb d_Z_entry_21 rfl (lv_at hl 3 rfl) ?_
        refine g_if_lt (tgt := 30) hx hb d_Z_entry_22 (by decide) hrun (fun _ hrun => ?_) (fun _ hrun => ?_)
        · refine lv_iconst (v := (-1)) hx hb d_Z_entry_30 (by decide) ?_
          cases hrun
          exact W.iret hx hb hr (fun t ht hW => ⟨⟨_, (), rfl, rfl, gB_of ht hW.alike hP hK hD⟩, hS.F ht⟩) hS.2.2 d_Z_entry_31
        · refine lv_iload_n hx hb d_Z_entry_25 rfl (lv_at hl 3 rfl) ?_
          refine lv_iconst (v := 1) hx hb d_Z_entry_26 (by decide) ?_
          refine g_icmp_le (tgt := 32) hx hb d_Z_entry_27 (by decide) hrun (fun _ hrun => ?_) (fun _ hrun => ?_)
          · refine lv_iload_n hx hb d_Z_entry_32 rfl (lv_at hl 2 rfl) ?_
            refine g_if_ne (tgt := 51) hx hb d_Z_entry_33 (by decide) hrun (fun _ hrun => ?_) (fun _ hrun => ?_)
            · refine lv_iconst (v := 0) hx hb d_Z_entry_51 (by decide) ?_
              refine lv_istore (lv' := [(4, .int 0), (0, .ref a_Z), (1, .int i1), (2, .int i2), (3, .int i3)]) hx hb d_Z_entry_52 hl (by decide) rfl (fun ls hl => ?_)
              refine lv_bipush (v := 39) hx hb d_Z_entry_54 (by decide) ?_
              refine lv_istore (lv' := [(5, .int 39), (4, .int 0), (0, .ref a_Z), (1, .int i1), (2, .int i2), (3, .int i3)]) hx hb d_Z_entry_56 hl (by decide) rfl (fun ls hl => ?_)
              exact v_zentry_58 X D cI cL cZ a_Z a_Z_lead a_Z_tail a_Z_word a_Z_mono a_Z_degree a_Z_generator a_Z_hand a_Z_has a_Z_row a_Z_work a_Z_basis a_Z_rest a_Z_product a_Z_known a_Z_vector a_Z_system a_Z_now a_Z_next A Z_p Z_n Z_order Z_monomials Z_generators Z_upTo Z_members Z_lefts Z_vars Z_leadsFound Z_words Z_lead Z_tail Z_word r_ Z_thrownCode_r F C0 hK hA hN  F i1 i2 i3 0 39 0 hrun H locs ls hP hD hS (lv_sub hl [2, 3, 4, 5, 1, 0] rfl)
            · refine lv_iload_n hx hb d_Z_entry_36 rfl (lv_at hl 3 rfl) ?_
              refine g_if_ne (tgt := 49) hx hb d_Z_entry_37 (by decide) hrun (fun _ hrun => ?_) (fun _ hrun => ?_)
              · refine lv_iconst (v := 1) hx hb d_Z_entry_49 (by decide) ?_
                cases hrun
                exact W.iret hx hb hr (fun t ht hW => ⟨⟨_, (), rfl, rfl, gB_of ht hW.alike hP hK hD⟩, hS.F ht⟩) hS.2.2 d_Z_entry_50
              · refine lv_aload_n hx hb d_Z_entry_40 rfl (lv_at hl 0 rfl) ?_
                refine va_get (D := D) (ci := 5) (v := .ref a_Z_lead) (C := "RemnantDictionaryModel") (T := T_Z) (N := 30) hx hb hts iw_Z hown hK hP 0 rfl rfl 22 (by decide) (hts _ k_479) (fun _ h9 => h9) rfl d_Z_entry_41 ?_
                refine lv_iload_n hx hb d_Z_entry_44 rfl (lv_at hl 1 rfl) ?_
                refine g_iald hx hb hK hP 1 0 rfl rfl hrun d_Z_entry_45 (fun x_1 hrun => ?_)
                refine lv_goto (tgt := 50) hx hb d_Z_entry_46 (by decide) ?_
                cases hrun
                exact W.iret hx hb hr (fun t ht hW => ⟨⟨_, (), rfl, rfl, gB_of ht hW.alike hP hK hD⟩, hS.F ht⟩) hS.2.2 d_Z_entry_50
          · refine lv_iconst (v := (-1)) hx hb d_Z_entry_30 (by decide) ?_
            cases hrun
            exact W.iret hx hb hr (fun t ht hW => ⟨⟨_, (), rfl, rfl, gB_of ht hW.alike hP hK hD⟩, hS.F ht⟩) hS.2.2 d_Z_entry_31
set_option maxHeartbeats 4000000 in
set_option maxRecDepth 100000 in
theorem c_zentry (l : Launch) (D : va_G) (cI cL cZ : ClassId) (a_Z a_Z_lead a_Z_tail a_Z_word a_Z_mono a_Z_degree a_Z_generator a_Z_hand a_Z_has a_Z_row a_Z_work a_Z_basis a_Z_rest a_Z_product a_Z_known a_Z_vector a_Z_system a_Z_now a_Z_next : Nat) (F : Nat) (Z_thrownCode Z_p Z_n Z_order Z_monomials Z_generators Z_upTo Z_members Z_lefts Z_vars Z_leadsFound Z_words : Int32) (Z_lead Z_tail Z_word : Nat → Int32) (i1 i2 i3 : Int32) (sz : Nat) (r_ Z_thrownCode_r : Int32) (hrun : m_zentry F Z_leadsFound Z_lead Z_tail Z_word i1 i2 i3 Z_thrownCode = some (r_, Z_thrownCode_r)) : Met l y_Z_entry (.code y_Z_entry c_Z_entryb 6 (some .int) :: gAll) rm_zentry (va_Pc [.ref a_Z, .int i1, .int i2, .int i3] (gPW D (gT cI cL cZ) (ws_zentry a_Z a_Z_lead a_Z_tail a_Z_word a_Z_mono a_Z_degree a_Z_generator a_Z_hand a_Z_has a_Z_row a_Z_work a_Z_basis a_Z_rest a_Z_product a_Z_known a_Z_vector a_Z_system a_Z_now a_Z_next cI cL cZ Z_thrownCode Z_p Z_n Z_order Z_monomials Z_generators Z_upTo Z_members Z_lefts Z_vars Z_leadsFound Z_words Z_lead Z_tail Z_word) sz)) (va_Qi (fun r (_ : Unit) => r = r_) (gB D (gT cI cL cZ) (va_A (ws_zentry a_Z a_Z_lead a_Z_tail a_Z_word a_Z_mono a_Z_degree a_Z_generator a_Z_hand a_Z_has a_Z_row a_Z_work a_Z_basis a_Z_rest a_Z_product a_Z_known a_Z_vector a_Z_system a_Z_now a_Z_next cI cL cZ Z_thrownCode Z_p Z_n Z_order Z_monomials Z_generators Z_upTo Z_members Z_lefts Z_vars Z_leadsFound Z_words Z_lead Z_tail Z_word) sz) (ws_zentry a_Z a_Z_lead a_Z_tail a_Z_word a_Z_mono a_Z_degree a_Z_generator a_Z_hand a_Z_has a_Z_row a_Z_work a_Z_basis a_Z_rest a_Z_product a_Z_known a_Z_vector a_Z_system a_Z_now a_Z_next cI cL cZ Z_thrownCode_r Z_p Z_n Z_order Z_monomials Z_generators Z_upTo Z_members Z_lefts Z_vars Z_leadsFound Z_words Z_lead Z_tail Z_word)) (va_A (ws_zentry a_Z a_Z_lead a_Z_tail a_Z_word a_Z_mono a_Z_degree a_Z_generator a_Z_hand a_Z_has a_Z_row a_Z_work a_Z_basis a_Z_rest a_Z_product a_Z_known a_Z_vector a_Z_system a_Z_now a_Z_next cI cL cZ Z_thrownCode Z_p Z_n Z_order Z_monomials Z_generators Z_upTo Z_members Z_lefts Z_vars Z_leadsFound Z_words Z_lead Z_tail Z_word) sz)) 0 0 (va_A (ws_zentry a_Z a_Z_lead a_Z_tail a_Z_word a_Z_mono a_Z_degree a_Z_generator a_Z_hand a_Z_has a_Z_row a_Z_work a_Z_basis a_Z_rest a_Z_product a_Z_known a_Z_vector a_Z_system a_Z_now a_Z_next cI cL cZ Z_thrownCode Z_p Z_n Z_order Z_monomials Z_generators Z_upTo Z_members Z_lefts Z_vars Z_leadsFound Z_words Z_lead Z_tail Z_word) sz) := by
  refine Met.ofW (cc := c_Z_entryb) (maxL := 6) (ret := (some .int)) (by decide +kernel) rfl ?_
  intro p e s m args below meth c s₁ B hml hv
  obtain ⟨rfl, hsz, hP, hK, hN, hD0⟩ := hv
  subst hsz
  have hD := hD0.self (sz := s.heap.size)
  have hl := lv_entry ([.ref a_Z, .int i1, .int i2, .int i3]) (n := 6) (Nat.le_of_ble_eq_true rfl)
  rw [lg_entry_eq]
  generalize (lg_sl ([.ref a_Z, .int i1, .int i2, .int i3]) ++ List.replicate (6 - (lg_sl ([.ref a_Z, .int i1, .int i2, .int i3])).length) Slot.unset).toArray = ls at hl ⊢
  exact e_zentry (p, l, e, s, m, ([.ref a_Z, .int i1, .int i2, .int i3] : List Value).toArray, below, meth, c) D cI cL cZ a_Z a_Z_lead a_Z_tail a_Z_word a_Z_mono a_Z_degree a_Z_generator a_Z_hand a_Z_has a_Z_row a_Z_work a_Z_basis a_Z_rest a_Z_product a_Z_known a_Z_vector a_Z_system a_Z_now a_Z_next (va_A (ws_zentry a_Z a_Z_lead a_Z_tail a_Z_word a_Z_mono a_Z_degree a_Z_generator a_Z_hand a_Z_has a_Z_row a_Z_work a_Z_basis a_Z_rest a_Z_product a_Z_known a_Z_vector a_Z_system a_Z_now a_Z_next cI cL cZ Z_thrownCode Z_p Z_n Z_order Z_monomials Z_generators Z_upTo Z_members Z_lefts Z_vars Z_leadsFound Z_words Z_lead Z_tail Z_word) s.heap.size) Z_p Z_n Z_order Z_monomials Z_generators Z_upTo Z_members Z_lefts Z_vars Z_leadsFound Z_words Z_lead Z_tail Z_word r_ Z_thrownCode_r F ⟨B.exec, B.bytes, B.returns, hml, findClass_of_methodNamed B.named, fun w h => atoms_spec (ws := (.code y_Z_entry c_Z_entryb 6 (some .int) :: gAll)) B.pre w (List.mem_cons_of_mem _ h), B.notSynchronized⟩ hK (fun q h => Or.inr h) hN i1 i2 i3 Z_thrownCode hrun s.heap [] ls hP hD va_S.rf hl
