theorem d_Z_placeOf_0 : decode c_Z_placeOfb 0 = .ok (.iconst 0, 1) := by decide +kernel
theorem d_Z_placeOf_1 : decode c_Z_placeOfb 1 = .ok (.istore_n 2, 1) := by decide +kernel
theorem d_Z_placeOf_2 : decode c_Z_placeOfb 2 = .ok (.iload_n 2, 1) := by decide +kernel
theorem d_Z_placeOf_3 : decode c_Z_placeOfb 3 = .ok (.aload_n 0, 1) := by decide +kernel
theorem d_Z_placeOf_4 : decode c_Z_placeOfb 4 = .ok (.getfield 22, 3) := by decide +kernel
theorem d_Z_placeOf_7 : decode c_Z_placeOfb 7 = .ok (.if_icmp .ge 21, 3) := by decide +kernel
theorem d_Z_placeOf_10 : decode c_Z_placeOfb 10 = .ok (.aload_n 0, 1) := by decide +kernel
theorem d_Z_placeOf_11 : decode c_Z_placeOfb 11 = .ok (.getfield 25, 3) := by decide +kernel
theorem d_Z_placeOf_14 : decode c_Z_placeOfb 14 = .ok (.iload_n 2, 1) := by decide +kernel
theorem d_Z_placeOf_15 : decode c_Z_placeOfb 15 = .ok (.iaload, 1) := by decide +kernel
theorem d_Z_placeOf_16 : decode c_Z_placeOfb 16 = .ok (.iload_n 1, 1) := by decide +kernel
theorem d_Z_placeOf_17 : decode c_Z_placeOfb 17 = .ok (.if_icmp .ne 5, 3) := by decide +kernel
theorem d_Z_placeOf_20 : decode c_Z_placeOfb 20 = .ok (.iload_n 2, 1) := by decide +kernel
theorem d_Z_placeOf_21 : decode c_Z_placeOfb 21 = .ok (.ireturn, 1) := by decide +kernel
theorem d_Z_placeOf_22 : decode c_Z_placeOfb 22 = .ok (.iinc 2 1, 3) := by decide +kernel
theorem d_Z_placeOf_25 : decode c_Z_placeOfb 25 = .ok (.goto (-23), 3) := by decide +kernel
theorem d_Z_placeOf_28 : decode c_Z_placeOfb 28 = .ok (.iconst (-1), 1) := by decide +kernel
theorem d_Z_placeOf_29 : decode c_Z_placeOfb 29 = .ok (.ireturn, 1) := by decide +kernel
abbrev ws_zplaceOf (a_Z a_Z_mono a_Z_degree a_Z_generator a_Z_hand a_Z_has a_Z_row a_Z_work a_Z_basis a_Z_rest a_Z_product a_Z_known a_Z_lead a_Z_tail a_Z_word a_Z_vector a_Z_system a_Z_now a_Z_next : Nat) (cI cL cZ : ClassId) (Z_thrownCode Z_p Z_n Z_order Z_monomials Z_generators Z_upTo Z_members Z_lefts Z_vars Z_leadsFound Z_words : Int32) (Z_mono : Nat → Int32) : va_W := [(a_Z, .inr (5, [.int Z_thrownCode, .int Z_p, .int Z_n, .int Z_order, .int Z_monomials, .ref a_Z_mono, .ref a_Z_degree, .int Z_generators, .ref a_Z_generator, .ref a_Z_hand, .int Z_upTo, .ref a_Z_has, .ref a_Z_row, .ref a_Z_work, .ref a_Z_basis, .int Z_members, .int Z_lefts, .int Z_vars, .ref a_Z_rest, .ref a_Z_product, .ref a_Z_known, .int Z_leadsFound, .ref a_Z_lead, .ref a_Z_tail, .int Z_words, .ref a_Z_word, .ref a_Z_vector, .ref a_Z_system, .ref a_Z_now, .ref a_Z_next])), (a_Z_mono, .inl (cI, 126, .inl Z_mono))]
abbrev rm_zplaceOf : Room := { frames := 0, cells := 0, slots := 0, locals := 0 }
abbrev g_zplaceOf (X : gX) (r_ : Int32) (pc : Nat) (lv : List (Nat × Value)) (st : List Value) : Prop := ∀ ls : Array Slot, lv_has ls 3 lv → gWW X rm_zplaceOf (gs X).heap [] 0 0 (MQ (gbl X) (vp_Si (fun r => r = r_)) (ga X) (gs X) 0 0 (fun _ => False)) (F0 (gm X) pc ls st)
set_option maxHeartbeats 4000000 in
set_option maxRecDepth 100000 in
theorem w_zplaceOf_2 (X : gX) (D : va_G) (cI cL cZ : ClassId) (a_Z a_Z_mono a_Z_degree a_Z_generator a_Z_hand a_Z_has a_Z_row a_Z_work a_Z_basis a_Z_rest a_Z_product a_Z_known a_Z_lead a_Z_tail a_Z_word a_Z_vector a_Z_system a_Z_now a_Z_next : Nat) (F : Nat) (Z_thrownCode Z_p Z_n Z_order Z_monomials Z_generators Z_upTo Z_members Z_lefts Z_vars Z_leadsFound Z_words : Int32) (Z_mono : Nat → Int32) (r_ : Int32) (C0 : gC X c_Z_placeOfb (some .int) 3 "RemnantDictionaryModel" gAll) (hK : va_K D classes (gT cI cL cZ) (gs X)) (hP : va_P D classes (ws_zplaceOf a_Z a_Z_mono a_Z_degree a_Z_generator a_Z_hand a_Z_has a_Z_row a_Z_work a_Z_basis a_Z_rest a_Z_product a_Z_known a_Z_lead a_Z_tail a_Z_word a_Z_vector a_Z_system a_Z_now a_Z_next cI cL cZ Z_thrownCode Z_p Z_n Z_order Z_monomials Z_generators Z_upTo Z_members Z_lefts Z_vars Z_leadsFound Z_words Z_mono) (gs X).heap) (hN : gN (gs X)) (k2 : Int32 → Int32 → Option (Int32)) (hk2 : ∀ (i1 i2 : Int32), k2 i1 i2 = some r_ → g_zplaceOf X r_ 2 [(0, .ref a_Z), (1, .int i1), (2, .int i2)] []) (i1 i2 : Int32) (hrun : s_zplaceOf_2 F Z_monomials Z_mono k2 i1 i2 = some r_) : g_zplaceOf X r_ 2 [(0, .ref a_Z), (1, .int i1), (2, .int i2)] [] := by
  have C1 := C0
  obtain ⟨hx, hb, hr, hml, hown, hts, hlocks⟩ := C1
  unfold s_zplaceOf_2 at hrun
  intro ls hl
  refine lv_iload_n hx hb d_Z_placeOf_2 rfl (lv_at hl 2 rfl) ?_
  refine lv_aload_n hx hb d_Z_placeOf_3 rfl (lv_at hl 0 rfl) ?_
  refine va_get (D := D) (ci := 5) (v := .int Z_monomials) (C := "RemnantDictionaryModel") (T := T_Z) (N := 30) hx hb hts iw_Z hown hK hP 0 rfl rfl 4 (by decide) (hts _ k_373) (fun _ h9 => h9) rfl d_Z_placeOf_4 ?_
  refine g_icmp_ge (tgt := 28) hx hb d_Z_placeOf_7 (by decide) hrun (fun _ hrun => ?_) (fun _ hrun => ?_)
  · refine lv_iconst (v := (-1)) hx hb d_Z_placeOf_28 (by decide) ?_
    cases hrun
    exact W.iret hx hb hr (fun t ht hW => ⟨_, rfl, rfl, ht⟩) (fun q h => absurd h List.not_mem_nil) d_Z_placeOf_29
  · refine lv_aload_n hx hb d_Z_placeOf_10 rfl (lv_at hl 0 rfl) ?_
    refine va_get (D := D) (ci := 5) (v := .ref a_Z_mono) (C := "RemnantDictionaryModel") (T := T_Z) (N := 30) hx hb hts iw_Z hown hK hP 0 rfl rfl 5 (by decide) (hts _ k_372) (fun _ h9 => h9) rfl d_Z_placeOf_11 ?_
    refine lv_iload_n hx hb d_Z_placeOf_14 rfl (lv_at hl 2 rfl) ?_
    refine g_iald hx hb hK hP 1 0 rfl rfl hrun d_Z_placeOf_15 (fun x_1 hrun => ?_)
    refine lv_iload_n hx hb d_Z_placeOf_16 rfl (lv_at hl 1 rfl) ?_
    refine g_icmp_ne (tgt := 22) hx hb d_Z_placeOf_17 (by decide) hrun (fun _ hrun => ?_) (fun _ hrun => ?_)
    · refine lv_iinc (v := (i2 + 1)) (lv' := [(2, .int (i2 + 1)), (0, .ref a_Z), (1, .int i1)]) hx hb d_Z_placeOf_22 hl (k := 2) rfl rfl (by decide) rfl (fun ls hl => ?_)
      refine lv_goto (tgt := 2) hx hb d_Z_placeOf_25 (by decide) ?_
      exact hk2 i1 (i2 + 1) hrun ls (lv_sub hl [1, 2, 0] rfl)
    · refine lv_iload_n hx hb d_Z_placeOf_20 rfl (lv_at hl 2 rfl) ?_
      cases hrun
      exact W.iret hx hb hr (fun t ht hW => ⟨_, rfl, rfl, ht⟩) (fun q h => absurd h List.not_mem_nil) d_Z_placeOf_21
theorem v_zplaceOf_2 (X : gX) (D : va_G) (cI cL cZ : ClassId) (a_Z a_Z_mono a_Z_degree a_Z_generator a_Z_hand a_Z_has a_Z_row a_Z_work a_Z_basis a_Z_rest a_Z_product a_Z_known a_Z_lead a_Z_tail a_Z_word a_Z_vector a_Z_system a_Z_now a_Z_next : Nat) (F : Nat) (Z_thrownCode Z_p Z_n Z_order Z_monomials Z_generators Z_upTo Z_members Z_lefts Z_vars Z_leadsFound Z_words : Int32) (Z_mono : Nat → Int32) (r_ : Int32) (C0 : gC X c_Z_placeOfb (some .int) 3 "RemnantDictionaryModel" gAll) (hK : va_K D classes (gT cI cL cZ) (gs X)) (hP : va_P D classes (ws_zplaceOf a_Z a_Z_mono a_Z_degree a_Z_generator a_Z_hand a_Z_has a_Z_row a_Z_work a_Z_basis a_Z_rest a_Z_product a_Z_known a_Z_lead a_Z_tail a_Z_word a_Z_vector a_Z_system a_Z_now a_Z_next cI cL cZ Z_thrownCode Z_p Z_n Z_order Z_monomials Z_generators Z_upTo Z_members Z_lefts Z_vars Z_leadsFound Z_words Z_mono) (gs X).heap) (hN : gN (gs X))  : ∀ (n : Nat) (i1 i2 : Int32), b_zplaceOf_2 F Z_monomials Z_mono n i1 i2 = some r_ → g_zplaceOf X r_ 2 [(0, .ref a_Z), (1, .int i1), (2, .int i2)] [] := by
  intro n
  induction n with
  | zero => intro i1 i2 hrun; cases hrun
  | succ n ih =>
    intro i1 i2 hrun
    exact w_zplaceOf_2 X D cI cL cZ a_Z a_Z_mono a_Z_degree a_Z_generator a_Z_hand a_Z_has a_Z_row a_Z_work a_Z_basis a_Z_rest a_Z_product a_Z_known a_Z_lead a_Z_tail a_Z_word a_Z_vector a_Z_system a_Z_now a_Z_next F Z_thrownCode Z_p Z_n Z_order Z_monomials Z_generators Z_upTo Z_members Z_lefts Z_vars Z_leadsFound Z_words Z_mono r_ C0 hK hP hN (b_zplaceOf_2 F Z_monomials Z_mono n) ih i1 i2 hrun
set_option maxHeartbeats 4000000 in
set_option maxRecDepth 100000 in
theorem e_zplaceOf (X : gX) (D : va_G) (cI cL cZ : ClassId) (a_Z a_Z_mono a_Z_degree a_Z_generator a_Z_hand a_Z_has a_Z_row a_Z_work a_Z_basis a_Z_rest a_Z_product a_Z_known a_Z_lead a_Z_tail a_Z_word a_Z_vector a_Z_system a_Z_now a_Z_next : Nat) (F : Nat) (Z_thrownCode Z_p Z_n Z_order Z_monomials Z_generators Z_upTo Z_members Z_lefts Z_vars Z_leadsFound Z_words : Int32) (Z_mono : Nat → Int32) (r_ : Int32) (C0 : gC X c_Z_placeOfb (some .int) 3 "RemnantDictionaryModel" gAll) (hK : va_K D classes (gT cI cL cZ) (gs X)) (hP : va_P D classes (ws_zplaceOf a_Z a_Z_mono a_Z_degree a_Z_generator a_Z_hand a_Z_has a_Z_row a_Z_work a_Z_basis a_Z_rest a_Z_product a_Z_known a_Z_lead a_Z_tail a_Z_word a_Z_vector a_Z_system a_Z_now a_Z_next cI cL cZ Z_thrownCode Z_p Z_n Z_order Z_monomials Z_generators Z_upTo Z_members Z_lefts Z_vars Z_leadsFound Z_words Z_mono) (gs X).heap) (hN : gN (gs X)) (i1 : Int32) (hrun : m_zplaceOf F Z_monomials Z_mono i1 = some r_) : g_zplaceOf X r_ 0 [(0, .ref a_Z), (1, .int i1)] [] := by
  have C1 := C0
  obtain ⟨hx, hb, hr, hml, hown, hts, hlocks⟩ := C1
  unfold m_zplaceOf at hrun
  intro ls hl
  refine lv_iconst (v := 0) hx hb d_Z_placeOf_0 (by decide) ?_
  refine lv_istore_n (lv' := [(2, .int 0), (0, .ref a_Z), (1, .int i1)]) hx hb d_Z_placeOf_1 rfl hl (by decide) rfl (fun ls hl => ?_)
  exact v_zplaceOf_2 X D cI cL cZ a_Z a_Z_mono a_Z_degree a_Z_generator a_Z_hand a_Z_has a_Z_row a_Z_work a_Z_basis a_Z_rest a_Z_product a_Z_known a_Z_lead a_Z_tail a_Z_word a_Z_vector a_Z_system a_Z_now a_Z_next F Z_thrownCode Z_p Z_n Z_order Z_monomials Z_generators Z_upTo Z_members Z_lefts Z_vars Z_leadsFound Z_words Z_mono r_ C0 hK hP hN  F i1 0 hrun ls (lv_sub hl [1, 2, 0] rfl)
set_option maxHeartbeats 4000000 in
set_option maxRecDepth 100000 in
theorem c_zplaceOf (l : Launch) (D : va_G) (cI cL cZ : ClassId) (a_Z a_Z_mono a_Z_degree a_Z_generator a_Z_hand a_Z_has a_Z_row a_Z_work a_Z_basis a_Z_rest a_Z_product a_Z_known a_Z_lead a_Z_tail a_Z_word a_Z_vector a_Z_system a_Z_now a_Z_next : Nat) (F : Nat) (Z_thrownCode Z_p Z_n Z_order Z_monomials Z_generators Z_upTo Z_members Z_lefts Z_vars Z_leadsFound Z_words : Int32) (Z_mono : Nat → Int32) (i1 : Int32) (r_ : Int32) (hrun : m_zplaceOf F Z_monomials Z_mono i1 = some r_) : Met l y_Z_placeOf (.code y_Z_placeOf c_Z_placeOfb 3 (some .int) :: gAll) rm_zplaceOf (va_Pc [.ref a_Z, .int i1] (gPR D (gT cI cL cZ) (ws_zplaceOf a_Z a_Z_mono a_Z_degree a_Z_generator a_Z_hand a_Z_has a_Z_row a_Z_work a_Z_basis a_Z_rest a_Z_product a_Z_known a_Z_lead a_Z_tail a_Z_word a_Z_vector a_Z_system a_Z_now a_Z_next cI cL cZ Z_thrownCode Z_p Z_n Z_order Z_monomials Z_generators Z_upTo Z_members Z_lefts Z_vars Z_leadsFound Z_words Z_mono))) (vp_Si (fun r => r = r_)) 0 0 (fun _ => False) := by
  refine Met.ofW (cc := c_Z_placeOfb) (maxL := 3) (ret := (some .int)) (by decide +kernel) rfl ?_
  intro p e s m args below meth c s₁ B hml hv
  obtain ⟨rfl, hP, hK, hN⟩ := hv
  have hl := lv_entry ([.ref a_Z, .int i1]) (n := 3) (Nat.le_of_ble_eq_true rfl)
  rw [lg_entry_eq]
  generalize (lg_sl ([.ref a_Z, .int i1]) ++ List.replicate (3 - (lg_sl ([.ref a_Z, .int i1])).length) Slot.unset).toArray = ls at hl ⊢
  exact e_zplaceOf (p, l, e, s, m, ([.ref a_Z, .int i1] : List Value).toArray, below, meth, c) D cI cL cZ a_Z a_Z_mono a_Z_degree a_Z_generator a_Z_hand a_Z_has a_Z_row a_Z_work a_Z_basis a_Z_rest a_Z_product a_Z_known a_Z_lead a_Z_tail a_Z_word a_Z_vector a_Z_system a_Z_now a_Z_next F Z_thrownCode Z_p Z_n Z_order Z_monomials Z_generators Z_upTo Z_members Z_lefts Z_vars Z_leadsFound Z_words Z_mono r_ ⟨B.exec, B.bytes, B.returns, hml, findClass_of_methodNamed B.named, fun w h => atoms_spec (ws := (.code y_Z_placeOf c_Z_placeOfb 3 (some .int) :: gAll)) B.pre w (List.mem_cons_of_mem _ h), B.notSynchronized⟩ hK hP hN i1 hrun ls hl
theorem d_Z_inverse_0 : decode c_Z_inverseb 0 = .ok (.lconst 1, 1) := by decide +kernel
theorem d_Z_inverse_1 : decode c_Z_inverseb 1 = .ok (.lstore_n 2, 1) := by decide +kernel
theorem d_Z_inverse_2 : decode c_Z_inverseb 2 = .ok (.iload_n 1, 1) := by decide +kernel
theorem d_Z_inverse_3 : decode c_Z_inverseb 3 = .ok (.i2l, 1) := by decide +kernel
theorem d_Z_inverse_4 : decode c_Z_inverseb 4 = .ok (.lstore 4, 2) := by decide +kernel
theorem d_Z_inverse_6 : decode c_Z_inverseb 6 = .ok (.aload_n 0, 1) := by decide +kernel
theorem d_Z_inverse_7 : decode c_Z_inverseb 7 = .ok (.getfield 13, 3) := by decide +kernel
theorem d_Z_inverse_10 : decode c_Z_inverseb 10 = .ok (.iconst 2, 1) := by decide +kernel
theorem d_Z_inverse_11 : decode c_Z_inverseb 11 = .ok (.isub, 1) := by decide +kernel
theorem d_Z_inverse_12 : decode c_Z_inverseb 12 = .ok (.istore 6, 2) := by decide +kernel
theorem d_Z_inverse_14 : decode c_Z_inverseb 14 = .ok (.iload 6, 2) := by decide +kernel
theorem d_Z_inverse_16 : decode c_Z_inverseb 16 = .ok (.ifCond .le 44, 3) := by decide +kernel
theorem d_Z_inverse_19 : decode c_Z_inverseb 19 = .ok (.iload 6, 2) := by decide +kernel
theorem d_Z_inverse_21 : decode c_Z_inverseb 21 = .ok (.iconst 1, 1) := by decide +kernel
theorem d_Z_inverse_22 : decode c_Z_inverseb 22 = .ok (.iand, 1) := by decide +kernel
theorem d_Z_inverse_23 : decode c_Z_inverseb 23 = .ok (.iconst 1, 1) := by decide +kernel
theorem d_Z_inverse_24 : decode c_Z_inverseb 24 = .ok (.if_icmp .ne 14, 3) := by decide +kernel
theorem d_Z_inverse_27 : decode c_Z_inverseb 27 = .ok (.lload_n 2, 1) := by decide +kernel
theorem d_Z_inverse_28 : decode c_Z_inverseb 28 = .ok (.lload 4, 2) := by decide +kernel
theorem d_Z_inverse_30 : decode c_Z_inverseb 30 = .ok (.lmul, 1) := by decide +kernel
theorem d_Z_inverse_31 : decode c_Z_inverseb 31 = .ok (.aload_n 0, 1) := by decide +kernel
theorem d_Z_inverse_32 : decode c_Z_inverseb 32 = .ok (.getfield 13, 3) := by decide +kernel
theorem d_Z_inverse_35 : decode c_Z_inverseb 35 = .ok (.i2l, 1) := by decide +kernel
theorem d_Z_inverse_36 : decode c_Z_inverseb 36 = .ok (.lrem, 1) := by decide +kernel
theorem d_Z_inverse_37 : decode c_Z_inverseb 37 = .ok (.lstore_n 2, 1) := by decide +kernel
theorem d_Z_inverse_38 : decode c_Z_inverseb 38 = .ok (.lload 4, 2) := by decide +kernel
theorem d_Z_inverse_40 : decode c_Z_inverseb 40 = .ok (.lload 4, 2) := by decide +kernel
theorem d_Z_inverse_42 : decode c_Z_inverseb 42 = .ok (.lmul, 1) := by decide +kernel
theorem d_Z_inverse_43 : decode c_Z_inverseb 43 = .ok (.aload_n 0, 1) := by decide +kernel
theorem d_Z_inverse_44 : decode c_Z_inverseb 44 = .ok (.getfield 13, 3) := by decide +kernel
theorem d_Z_inverse_47 : decode c_Z_inverseb 47 = .ok (.i2l, 1) := by decide +kernel
theorem d_Z_inverse_48 : decode c_Z_inverseb 48 = .ok (.lrem, 1) := by decide +kernel
theorem d_Z_inverse_49 : decode c_Z_inverseb 49 = .ok (.lstore 4, 2) := by decide +kernel
theorem d_Z_inverse_51 : decode c_Z_inverseb 51 = .ok (.iload 6, 2) := by decide +kernel
theorem d_Z_inverse_53 : decode c_Z_inverseb 53 = .ok (.iconst 1, 1) := by decide +kernel
theorem d_Z_inverse_54 : decode c_Z_inverseb 54 = .ok (.ishr, 1) := by decide +kernel
theorem d_Z_inverse_55 : decode c_Z_inverseb 55 = .ok (.istore 6, 2) := by decide +kernel
theorem d_Z_inverse_57 : decode c_Z_inverseb 57 = .ok (.goto (-43), 3) := by decide +kernel
theorem d_Z_inverse_60 : decode c_Z_inverseb 60 = .ok (.lload_n 2, 1) := by decide +kernel
theorem d_Z_inverse_61 : decode c_Z_inverseb 61 = .ok (.l2i, 1) := by decide +kernel
theorem d_Z_inverse_62 : decode c_Z_inverseb 62 = .ok (.ireturn, 1) := by decide +kernel
abbrev ws_zinverse (a_Z a_Z_mono a_Z_degree a_Z_generator a_Z_hand a_Z_has a_Z_row a_Z_work a_Z_basis a_Z_rest a_Z_product a_Z_known a_Z_lead a_Z_tail a_Z_word a_Z_vector a_Z_system a_Z_now a_Z_next : Nat) (cI cL cZ : ClassId) (Z_thrownCode Z_p Z_n Z_order Z_monomials Z_generators Z_upTo Z_members Z_lefts Z_vars Z_leadsFound Z_words : Int32) : va_W := [(a_Z, .inr (5, [.int Z_thrownCode, .int Z_p, .int Z_n, .int Z_order, .int Z_monomials, .ref a_Z_mono, .ref a_Z_degree, .int Z_generators, .ref a_Z_generator, .ref a_Z_hand, .int Z_upTo, .ref a_Z_has, .ref a_Z_row, .ref a_Z_work, .ref a_Z_basis, .int Z_members, .int Z_lefts, .int Z_vars, .ref a_Z_rest, .ref a_Z_product, .ref a_Z_known, .int Z_leadsFound, .ref a_Z_lead, .ref a_Z_tail, .int Z_words, .ref a_Z_word, .ref a_Z_vector, .ref a_Z_system, .ref a_Z_now, .ref a_Z_next]))]
abbrev rm_zinverse : Room := { frames := 0, cells := 0, slots := 0, locals := 0 }
abbrev g_zinverse (X : gX) (r_ : Int32) (pc : Nat) (lv : List (Nat × Value)) (st : List Value) : Prop := ∀ ls : Array Slot, lv_has ls 7 lv → gWW X rm_zinverse (gs X).heap [] 0 0 (MQ (gbl X) (vp_Si (fun r => r = r_)) (ga X) (gs X) 0 0 (fun _ => False)) (F0 (gm X) pc ls st)
set_option maxHeartbeats 4000000 in
set_option maxRecDepth 100000 in
theorem w_zinverse_38 (X : gX) (D : va_G) (cI cL cZ : ClassId) (a_Z a_Z_mono a_Z_degree a_Z_generator a_Z_hand a_Z_has a_Z_row a_Z_work a_Z_basis a_Z_rest a_Z_product a_Z_known a_Z_lead a_Z_tail a_Z_word a_Z_vector a_Z_system a_Z_now a_Z_next : Nat) (F : Nat) (Z_thrownCode Z_p Z_n Z_order Z_monomials Z_generators Z_upTo Z_members Z_lefts Z_vars Z_leadsFound Z_words r_ : Int32) (C0 : gC X c_Z_inverseb (some .int) 7 "RemnantDictionaryModel" gAll) (hK : va_K D classes (gT cI cL cZ) (gs X)) (hP : va_P D classes (ws_zinverse a_Z a_Z_mono a_Z_degree a_Z_generator a_Z_hand a_Z_has a_Z_row a_Z_work a_Z_basis a_Z_rest a_Z_product a_Z_known a_Z_lead a_Z_tail a_Z_word a_Z_vector a_Z_system a_Z_now a_Z_next cI cL cZ Z_thrownCode Z_p Z_n Z_order Z_monomials Z_generators Z_upTo Z_members Z_lefts Z_vars Z_leadsFound Z_words) (gs X).heap) (hN : gN (gs X)) (k14 : Int64 → Int64 → Int32 → Option (Int32)) (hk14 : ∀ (l2 l4 : Int64) (i6 : Int32), k14 l2 l4 i6 = some r_ → g_zinverse X r_ 14 [(0, .ref a_Z), (2, .long l2), (4, .long l4), (6, .int i6)] []) (l2 l4 : Int64) (i6 : Int32) (hrun : s_zinverse_38 F Z_p k14 l2 l4 i6 = some r_) : g_zinverse X r_ 38 [(0, .ref a_Z), (2, .long l2), (4, .long l4), (6, .int i6)] [] := by
  have C1 := C0
  obtain ⟨hx, hb, hr, hml, hown, hts, hlocks⟩ := C1
  unfold s_zinverse_38 at hrun
  intro ls hl
  refine lv_lload hx hb d_Z_inverse_38 (lv_at hl 2 rfl) ?_
  refine lv_lload hx hb d_Z_inverse_40 (lv_at hl 2 rfl) ?_
  refine lv_lmul hx hb d_Z_inverse_42 ?_
  refine lv_aload_n hx hb d_Z_inverse_43 rfl (lv_at hl 0 rfl) ?_
  refine va_get (D := D) (ci := 5) (v := .int Z_p) (C := "RemnantDictionaryModel") (T := T_Z) (N := 30) hx hb hts iw_Z hown hK hP 0 rfl rfl 1 (by decide) (hts _ k_385) (fun _ h9 => h9) rfl d_Z_inverse_44 ?_
  refine lv_i2l hx hb d_Z_inverse_47 rfl ?_
  refine g_lrem hx hb d_Z_inverse_48 hrun (fun hrun => ?_)
  refine lv_lstore (lv' := [(4, .long (remL (l4 * l4) Z_p.toInt64)), (0, .ref a_Z), (2, .long l2), (6, .int i6)]) hx hb d_Z_inverse_49 hl (by decide) rfl (fun ls hl => ?_)
  refine lv_iload hx hb d_Z_inverse_51 (lv_at hl 3 rfl) ?_
  refine lv_iconst (v := 1) hx hb d_Z_inverse_53 (by decide) ?_
  refine g_ishr hx hb d_Z_inverse_54 ?_
  refine lv_istore (lv' := [(6, .int (shrI i6 1)), (4, .long (remL (l4 * l4) Z_p.toInt64)), (0, .ref a_Z), (2, .long l2)]) hx hb d_Z_inverse_55 hl (by decide) rfl (fun ls hl => ?_)
  refine lv_goto (tgt := 14) hx hb d_Z_inverse_57 (by decide) ?_
  exact hk14 l2 (remL (l4 * l4) Z_p.toInt64) (shrI i6 1) hrun ls (lv_sub hl [2, 3, 1, 0] rfl)
set_option maxHeartbeats 4000000 in
set_option maxRecDepth 100000 in
theorem w_zinverse_14 (X : gX) (D : va_G) (cI cL cZ : ClassId) (a_Z a_Z_mono a_Z_degree a_Z_generator a_Z_hand a_Z_has a_Z_row a_Z_work a_Z_basis a_Z_rest a_Z_product a_Z_known a_Z_lead a_Z_tail a_Z_word a_Z_vector a_Z_system a_Z_now a_Z_next : Nat) (F : Nat) (Z_thrownCode Z_p Z_n Z_order Z_monomials Z_generators Z_upTo Z_members Z_lefts Z_vars Z_leadsFound Z_words r_ : Int32) (C0 : gC X c_Z_inverseb (some .int) 7 "RemnantDictionaryModel" gAll) (hK : va_K D classes (gT cI cL cZ) (gs X)) (hP : va_P D classes (ws_zinverse a_Z a_Z_mono a_Z_degree a_Z_generator a_Z_hand a_Z_has a_Z_row a_Z_work a_Z_basis a_Z_rest a_Z_product a_Z_known a_Z_lead a_Z_tail a_Z_word a_Z_vector a_Z_system a_Z_now a_Z_next cI cL cZ Z_thrownCode Z_p Z_n Z_order Z_monomials Z_generators Z_upTo Z_members Z_lefts Z_vars Z_leadsFound Z_words) (gs X).heap) (hN : gN (gs X)) (k14 : Int64 → Int64 → Int32 → Option (Int32)) (hk14 : ∀ (l2 l4 : Int64) (i6 : Int32), k14 l2 l4 i6 = some r_ → g_zinverse X r_ 14 [(0, .ref a_Z), (2, .long l2), (4, .long l4), (6, .int i6)] []) (l2 l4 : Int64) (i6 : Int32) (hrun : s_zinverse_14 F Z_p k14 l2 l4 i6 = some r_) : g_zinverse X r_ 14 [(0, .ref a_Z), (2, .long l2), (4, .long l4), (6, .int i6)] [] := by
  have C1 := C0
  obtain ⟨hx, hb, hr, hml, hown, hts, hlocks⟩ := C1
  unfold s_zinverse_14 at hrun
  intro ls hl
  refine lv_iload hx hb d_Z_inverse_14 (lv_at hl 3 rfl) ?_
  refine g_if_le (tgt := 60) hx hb d_Z_inverse_16 (by decide) hrun (fun _ hrun => ?_) (fun _ hrun => ?_)
  · refine lv_lload_n hx hb d_Z_inverse_60 rfl (lv_at hl 1 rfl) ?_
    refine lv_l2i hx hb d_Z_inverse_61 rfl ?_
    cases hrun
    exact W.iret hx hb hr (fun t ht hW => ⟨_, rfl, rfl, ht⟩) (fun q h => absurd h List.not_mem_nil) d_Z_inverse_62
  · refine lv_iload hx hb d_Z_inverse_19 (lv_at hl 3 rfl) ?_
    refine lv_iconst (v := 1) hx hb d_Z_inverse_21 (by decide) ?_
    refine lv_iand hx hb d_Z_inverse_22 ?_
    refine lv_iconst (v := 1) hx hb d_Z_inverse_23 (by decide) ?_
    refine g_icmp_ne (tgt := 38) hx hb d_Z_inverse_24 (by decide) hrun (fun _ hrun => ?_) (fun _ hrun => ?_)
    · exact w_zinverse_38 X D cI cL cZ a_Z a_Z_mono a_Z_degree a_Z_generator a_Z_hand a_Z_has a_Z_row a_Z_work a_Z_basis a_Z_rest a_Z_product a_Z_known a_Z_lead a_Z_tail a_Z_word a_Z_vector a_Z_system a_Z_now a_Z_next F Z_thrownCode Z_p Z_n Z_order Z_monomials Z_generators Z_upTo Z_members Z_lefts Z_vars Z_leadsFound Z_words r_ C0 hK hP hN k14 hk14 l2 l4 i6 hrun ls (lv_sub hl [0, 1, 2, 3] rfl)
    · refine lv_lload_n hx hb d_Z_inverse_27 rfl (lv_at hl 1 rfl) ?_
      refine lv_lload hx hb d_Z_inverse_28 (lv_at hl 2 rfl) ?_
      refine lv_lmul hx hb d_Z_inverse_30 ?_
      refine lv_aload_n hx hb d_Z_inverse_31 rfl (lv_at hl 0 rfl) ?_
      refine va_get (D := D) (ci := 5) (v := .int Z_p) (C := "RemnantDictionaryModel") (T := T_Z) (N := 30) hx hb hts iw_Z hown hK hP 0 rfl rfl 1 (by decide) (hts _ k_385) (fun _ h9 => h9) rfl d_Z_inverse_32 ?_
      refine lv_i2l hx hb d_Z_inverse_35 rfl ?_
      refine g_lrem hx hb d_Z_inverse_36 hrun (fun hrun => ?_)
      refine lv_lstore_n (lv' := [(2, .long (remL (l2 * l4) Z_p.toInt64)), (0, .ref a_Z), (4, .long l4), (6, .int i6)]) hx hb d_Z_inverse_37 rfl hl (by decide) rfl (fun ls hl => ?_)
      exact w_zinverse_38 X D cI cL cZ a_Z a_Z_mono a_Z_degree a_Z_generator a_Z_hand a_Z_has a_Z_row a_Z_work a_Z_basis a_Z_rest a_Z_product a_Z_known a_Z_lead a_Z_tail a_Z_word a_Z_vector a_Z_system a_Z_now a_Z_next F Z_thrownCode Z_p Z_n Z_order Z_monomials Z_generators Z_upTo Z_members Z_lefts Z_vars Z_leadsFound Z_words r_ C0 hK hP hN k14 hk14 (remL (l2 * l4) Z_p.toInt64) l4 i6 hrun ls (lv_sub hl [1, 0, 2, 3] rfl)
theorem v_zinverse_14 (X : gX) (D : va_G) (cI cL cZ : ClassId) (a_Z a_Z_mono a_Z_degree a_Z_generator a_Z_hand a_Z_has a_Z_row a_Z_work a_Z_basis a_Z_rest a_Z_product a_Z_known a_Z_lead a_Z_tail a_Z_word a_Z_vector a_Z_system a_Z_now a_Z_next : Nat) (F : Nat) (Z_thrownCode Z_p Z_n Z_order Z_monomials Z_generators Z_upTo Z_members Z_lefts Z_vars Z_leadsFound Z_words r_ : Int32) (C0 : gC X c_Z_inverseb (some .int) 7 "RemnantDictionaryModel" gAll) (hK : va_K D classes (gT cI cL cZ) (gs X)) (hP : va_P D classes (ws_zinverse a_Z a_Z_mono a_Z_degree a_Z_generator a_Z_hand a_Z_has a_Z_row a_Z_work a_Z_basis a_Z_rest a_Z_product a_Z_known a_Z_lead a_Z_tail a_Z_word a_Z_vector a_Z_system a_Z_now a_Z_next cI cL cZ Z_thrownCode Z_p Z_n Z_order Z_monomials Z_generators Z_upTo Z_members Z_lefts Z_vars Z_leadsFound Z_words) (gs X).heap) (hN : gN (gs X))  : ∀ (n : Nat) (l2 l4 : Int64) (i6 : Int32), b_zinverse_14 F Z_p n l2 l4 i6 = some r_ → g_zinverse X r_ 14 [(0, .ref a_Z), (2, .long l2), (4, .long l4), (6, .int i6)] [] := by
  intro n
  induction n with
  | zero => intro l2 l4 i6 hrun; cases hrun
  | succ n ih =>
    intro l2 l4 i6 hrun
    exact w_zinverse_14 X D cI cL cZ a_Z a_Z_mono a_Z_degree a_Z_generator a_Z_hand a_Z_has a_Z_row a_Z_work a_Z_basis a_Z_rest a_Z_product a_Z_known a_Z_lead a_Z_tail a_Z_word a_Z_vector a_Z_system a_Z_now a_Z_next F Z_thrownCode Z_p Z_n Z_order Z_monomials Z_generators Z_upTo Z_members Z_lefts Z_vars Z_leadsFound Z_words r_ C0 hK hP hN (b_zinverse_14 F Z_p n) ih l2 l4 i6 hrun
set_option maxHeartbeats 4000000 in
set_option maxRecDepth 100000 in
theorem e_zinverse (X : gX) (D : va_G) (cI cL cZ : ClassId) (a_Z a_Z_mono a_Z_degree a_Z_generator a_Z_hand a_Z_has a_Z_row a_Z_work a_Z_basis a_Z_rest a_Z_product a_Z_known a_Z_lead a_Z_tail a_Z_word a_Z_vector a_Z_system a_Z_now a_Z_next : Nat) (F : Nat) (Z_thrownCode Z_p Z_n Z_order Z_monomials Z_generators Z_upTo Z_members Z_lefts Z_vars Z_leadsFound Z_words r_ : Int32) (C0 : gC X c_Z_inverseb (some .int) 7 "RemnantDictionaryModel" gAll) (hK : va_K D classes (gT cI cL cZ) (gs X)) (hP : va_P D classes (ws_zinverse a_Z a_Z_mono a_Z_degree a_Z_generator a_Z_hand a_Z_has a_Z_row a_Z_work a_Z_basis a_Z_rest a_Z_product a_Z_known a_Z_lead a_Z_tail a_Z_word a_Z_vector a_Z_system a_Z_now a_Z_next cI cL cZ Z_thrownCode Z_p Z_n Z_order Z_monomials Z_generators Z_upTo Z_members Z_lefts Z_vars Z_leadsFound Z_words) (gs X).heap) (hN : gN (gs X)) (i1 : Int32) (hrun : m_zinverse F Z_p i1 = some r_) : g_zinverse X r_ 0 [(0, .ref a_Z), (1, .int i1)] [] := by
  have C1 := C0
  obtain ⟨hx, hb, hr, hml, hown, hts, hlocks⟩ := C1
  unfold m_zinverse at hrun
  intro ls hl
  refine lv_lconst (v := 1) hx hb d_Z_inverse_0 (by decide) ?_
  refine lv_lstore_n (lv' := [(2, .long 1), (0, .ref a_Z), (1, .int i1)]) hx hb d_Z_inverse_1 rfl hl (by decide) rfl (fun ls hl => ?_)
  refine lv_iload_n hx hb d_Z_inverse_2 rfl (lv_at hl 2 rfl) ?_
  refine lv_i2l hx hb d_Z_inverse_3 rfl ?_
  refine lv_lstore (lv' := [(4, .long i1.toInt64), (2, .long 1), (0, .ref a_Z), (1, .int i1)]) hx hb d_Z_inverse_4 hl (by decide) rfl (fun ls hl => ?_)
  refine lv_aload_n hx hb d_Z_inverse_6 rfl (lv_at hl 2 rfl) ?_
  refine va_get (D := D) (ci := 5) (v := .int Z_p) (C := "RemnantDictionaryModel") (T := T_Z) (N := 30) hx hb hts iw_Z hown hK hP 0 rfl rfl 1 (by decide) (hts _ k_385) (fun _ h9 => h9) rfl d_Z_inverse_7 ?_
  refine lv_iconst (v := 2) hx hb d_Z_inverse_10 (by decide) ?_
  refine lv_isub hx hb d_Z_inverse_11 ?_
  refine lv_istore (lv' := [(6, .int (Z_p - 2)), (4, .long i1.toInt64), (2, .long 1), (0, .ref a_Z), (1, .int i1)]) hx hb d_Z_inverse_12 hl (by decide) rfl (fun ls hl => ?_)
  exact v_zinverse_14 X D cI cL cZ a_Z a_Z_mono a_Z_degree a_Z_generator a_Z_hand a_Z_has a_Z_row a_Z_work a_Z_basis a_Z_rest a_Z_product a_Z_known a_Z_lead a_Z_tail a_Z_word a_Z_vector a_Z_system a_Z_now a_Z_next F Z_thrownCode Z_p Z_n Z_order Z_monomials Z_generators Z_upTo Z_members Z_lefts Z_vars Z_leadsFound Z_words r_ C0 hK hP hN  F 1 i1.toInt64 (Z_p - 2) hrun ls (lv_sub hl [3, 2, 1, 0] rfl)
set_option maxHeartbeats 4000000 in
set_option maxRecDepth 100000 in
theorem c_zinverse (l : Launch) (D : va_G) (cI cL cZ : ClassId) (a_Z a_Z_mono a_Z_degree a_Z_generator a_Z_hand a_Z_has a_Z_row a_Z_work a_Z_basis a_Z_rest a_Z_product a_Z_known a_Z_lead a_Z_tail a_Z_word a_Z_vector a_Z_system a_Z_now a_Z_next : Nat) (F : Nat) (Z_thrownCode Z_p Z_n Z_order Z_monomials Z_generators Z_upTo Z_members Z_lefts Z_vars Z_leadsFound Z_words i1 : Int32) (r_ : Int32) (hrun : m_zinverse F Z_p i1 = some r_) : Met l y_Z_inverse (.code y_Z_inverse c_Z_inverseb 7 (some .int) :: gAll) rm_zinverse (va_Pc [.ref a_Z, .int i1] (gPR D (gT cI cL cZ) (ws_zinverse a_Z a_Z_mono a_Z_degree a_Z_generator a_Z_hand a_Z_has a_Z_row a_Z_work a_Z_basis a_Z_rest a_Z_product a_Z_known a_Z_lead a_Z_tail a_Z_word a_Z_vector a_Z_system a_Z_now a_Z_next cI cL cZ Z_thrownCode Z_p Z_n Z_order Z_monomials Z_generators Z_upTo Z_members Z_lefts Z_vars Z_leadsFound Z_words))) (vp_Si (fun r => r = r_)) 0 0 (fun _ => False) := by
  refine Met.ofW (cc := c_Z_inverseb) (maxL := 7) (ret := (some .int)) (by decide +kernel) rfl ?_
  intro p e s m args below meth c s₁ B hml hv
  obtain ⟨rfl, hP, hK, hN⟩ := hv
  have hl := lv_entry ([.ref a_Z, .int i1]) (n := 7) (Nat.le_of_ble_eq_true rfl)
  rw [lg_entry_eq]
  generalize (lg_sl ([.ref a_Z, .int i1]) ++ List.replicate (7 - (lg_sl ([.ref a_Z, .int i1])).length) Slot.unset).toArray = ls at hl ⊢
  exact e_zinverse (p, l, e, s, m, ([.ref a_Z, .int i1] : List Value).toArray, below, meth, c) D cI cL cZ a_Z a_Z_mono a_Z_degree a_Z_generator a_Z_hand a_Z_has a_Z_row a_Z_work a_Z_basis a_Z_rest a_Z_product a_Z_known a_Z_lead a_Z_tail a_Z_word a_Z_vector a_Z_system a_Z_now a_Z_next F Z_thrownCode Z_p Z_n Z_order Z_monomials Z_generators Z_upTo Z_members Z_lefts Z_vars Z_leadsFound Z_words r_ ⟨B.exec, B.bytes, B.returns, hml, findClass_of_methodNamed B.named, fun w h => atoms_spec (ws := (.code y_Z_inverse c_Z_inverseb 7 (some .int) :: gAll)) B.pre w (List.mem_cons_of_mem _ h), B.notSynchronized⟩ hK hP hN i1 hrun ls hl
theorem d_Z_takeRow_0 : decode c_Z_takeRowb 0 = .ok (.aload_n 0, 1) := by decide +kernel
theorem d_Z_takeRow_1 : decode c_Z_takeRowb 1 = .ok (.getfield 13, 3) := by decide +kernel
theorem d_Z_takeRow_4 : decode c_Z_takeRowb 4 = .ok (.aload_n 0, 1) := by decide +kernel
theorem d_Z_takeRow_5 : decode c_Z_takeRowb 5 = .ok (.getfield 51, 3) := by decide +kernel
theorem d_Z_takeRow_8 : decode c_Z_takeRowb 8 = .ok (.iload_n 1, 1) := by decide +kernel
theorem d_Z_takeRow_9 : decode c_Z_takeRowb 9 = .ok (.iaload, 1) := by decide +kernel
theorem d_Z_takeRow_10 : decode c_Z_takeRowb 10 = .ok (.isub, 1) := by decide +kernel
theorem d_Z_takeRow_11 : decode c_Z_takeRowb 11 = .ok (.i2l, 1) := by decide +kernel
theorem d_Z_takeRow_12 : decode c_Z_takeRowb 12 = .ok (.lstore_n 2, 1) := by decide +kernel
theorem d_Z_takeRow_13 : decode c_Z_takeRowb 13 = .ok (.iconst 0, 1) := by decide +kernel
theorem d_Z_takeRow_14 : decode c_Z_takeRowb 14 = .ok (.istore 4, 2) := by decide +kernel
theorem d_Z_takeRow_16 : decode c_Z_takeRowb 16 = .ok (.iload 4, 2) := by decide +kernel
theorem d_Z_takeRow_18 : decode c_Z_takeRowb 18 = .ok (.iload_n 1, 1) := by decide +kernel
theorem d_Z_takeRow_19 : decode c_Z_takeRowb 19 = .ok (.if_icmp .gt 47, 3) := by decide +kernel
theorem d_Z_takeRow_22 : decode c_Z_takeRowb 22 = .ok (.aload_n 0, 1) := by decide +kernel
theorem d_Z_takeRow_23 : decode c_Z_takeRowb 23 = .ok (.getfield 51, 3) := by decide +kernel
theorem d_Z_takeRow_26 : decode c_Z_takeRowb 26 = .ok (.iload 4, 2) := by decide +kernel
theorem d_Z_takeRow_28 : decode c_Z_takeRowb 28 = .ok (.aload_n 0, 1) := by decide +kernel
theorem d_Z_takeRow_29 : decode c_Z_takeRowb 29 = .ok (.getfield 51, 3) := by decide +kernel
theorem d_Z_takeRow_32 : decode c_Z_takeRowb 32 = .ok (.iload 4, 2) := by decide +kernel
theorem d_Z_takeRow_34 : decode c_Z_takeRowb 34 = .ok (.iaload, 1) := by decide +kernel
theorem d_Z_takeRow_35 : decode c_Z_takeRowb 35 = .ok (.i2l, 1) := by decide +kernel
theorem d_Z_takeRow_36 : decode c_Z_takeRowb 36 = .ok (.lload_n 2, 1) := by decide +kernel
theorem d_Z_takeRow_37 : decode c_Z_takeRowb 37 = .ok (.aload_n 0, 1) := by decide +kernel
theorem d_Z_takeRow_38 : decode c_Z_takeRowb 38 = .ok (.getfield 48, 3) := by decide +kernel
theorem d_Z_takeRow_41 : decode c_Z_takeRowb 41 = .ok (.bipush 126, 2) := by decide +kernel
theorem d_Z_takeRow_43 : decode c_Z_takeRowb 43 = .ok (.iload_n 1, 1) := by decide +kernel
theorem d_Z_takeRow_44 : decode c_Z_takeRowb 44 = .ok (.imul, 1) := by decide +kernel
theorem d_Z_takeRow_45 : decode c_Z_takeRowb 45 = .ok (.iload 4, 2) := by decide +kernel
theorem d_Z_takeRow_47 : decode c_Z_takeRowb 47 = .ok (.iadd, 1) := by decide +kernel
theorem d_Z_takeRow_48 : decode c_Z_takeRowb 48 = .ok (.iaload, 1) := by decide +kernel
theorem d_Z_takeRow_49 : decode c_Z_takeRowb 49 = .ok (.i2l, 1) := by decide +kernel
theorem d_Z_takeRow_50 : decode c_Z_takeRowb 50 = .ok (.lmul, 1) := by decide +kernel
theorem d_Z_takeRow_51 : decode c_Z_takeRowb 51 = .ok (.ladd, 1) := by decide +kernel
theorem d_Z_takeRow_52 : decode c_Z_takeRowb 52 = .ok (.aload_n 0, 1) := by decide +kernel
theorem d_Z_takeRow_53 : decode c_Z_takeRowb 53 = .ok (.getfield 13, 3) := by decide +kernel
theorem d_Z_takeRow_56 : decode c_Z_takeRowb 56 = .ok (.i2l, 1) := by decide +kernel
theorem d_Z_takeRow_57 : decode c_Z_takeRowb 57 = .ok (.lrem, 1) := by decide +kernel
theorem d_Z_takeRow_58 : decode c_Z_takeRowb 58 = .ok (.l2i, 1) := by decide +kernel
theorem d_Z_takeRow_59 : decode c_Z_takeRowb 59 = .ok (.iastore, 1) := by decide +kernel
theorem d_Z_takeRow_60 : decode c_Z_takeRowb 60 = .ok (.iinc 4 1, 3) := by decide +kernel
theorem d_Z_takeRow_63 : decode c_Z_takeRowb 63 = .ok (.goto (-47), 3) := by decide +kernel
theorem d_Z_takeRow_66 : decode c_Z_takeRowb 66 = .ok (.return_, 1) := by decide +kernel
abbrev ws_ztakeRow (a_Z a_Z_row a_Z_work a_Z_mono a_Z_degree a_Z_generator a_Z_hand a_Z_has a_Z_basis a_Z_rest a_Z_product a_Z_known a_Z_lead a_Z_tail a_Z_word a_Z_vector a_Z_system a_Z_now a_Z_next : Nat) (cI cL cZ : ClassId) (Z_thrownCode Z_p Z_n Z_order Z_monomials Z_generators Z_upTo Z_members Z_lefts Z_vars Z_leadsFound Z_words : Int32) (Z_row Z_work : Nat → Int32) : va_W := [(a_Z, .inr (5, [.int Z_thrownCode, .int Z_p, .int Z_n, .int Z_order, .int Z_monomials, .ref a_Z_mono, .ref a_Z_degree, .int Z_generators, .ref a_Z_generator, .ref a_Z_hand, .int Z_upTo, .ref a_Z_has, .ref a_Z_row, .ref a_Z_work, .ref a_Z_basis, .int Z_members, .int Z_lefts, .int Z_vars, .ref a_Z_rest, .ref a_Z_product, .ref a_Z_known, .int Z_leadsFound, .ref a_Z_lead, .ref a_Z_tail, .int Z_words, .ref a_Z_word, .ref a_Z_vector, .ref a_Z_system, .ref a_Z_now, .ref a_Z_next])), (a_Z_row, .inl (cI, 15876, .inl Z_row)), (a_Z_work, .inl (cI, 126, .inl Z_work))]
abbrev rm_ztakeRow : Room := { frames := 0, cells := 0, slots := 0, locals := 0 }
abbrev g_ztakeRow (X : gX) (D : va_G) (cI cL cZ : ClassId) (a_Z a_Z_row a_Z_work a_Z_mono a_Z_degree a_Z_generator a_Z_hand a_Z_has a_Z_basis a_Z_rest a_Z_product a_Z_known a_Z_lead a_Z_tail a_Z_word a_Z_vector a_Z_system a_Z_now a_Z_next : Nat) (A : Nat → Prop) (Z_thrownCode Z_p Z_n Z_order Z_monomials Z_generators Z_upTo Z_members Z_lefts Z_vars Z_leadsFound Z_words : Int32) (Z_row Z_work_r : Nat → Int32) (pc : Nat) (lv : List (Nat × Value)) (st : List Value) (Z_work : Nat → Int32) : Prop := ∀ (H : Heap) (locs : List Loc) (ls : Array Slot), va_P D classes (ws_ztakeRow a_Z a_Z_row a_Z_work a_Z_mono a_Z_degree a_Z_generator a_Z_hand a_Z_has a_Z_basis a_Z_rest a_Z_product a_Z_known a_Z_lead a_Z_tail a_Z_word a_Z_vector a_Z_system a_Z_now a_Z_next cI cL cZ Z_thrownCode Z_p Z_n Z_order Z_monomials Z_generators Z_upTo Z_members Z_lefts Z_vars Z_leadsFound Z_words Z_row Z_work) H → va_D A (ws_ztakeRow a_Z a_Z_row a_Z_work a_Z_mono a_Z_degree a_Z_generator a_Z_hand a_Z_has a_Z_basis a_Z_rest a_Z_product a_Z_known a_Z_lead a_Z_tail a_Z_word a_Z_vector a_Z_system a_Z_now a_Z_next cI cL cZ Z_thrownCode Z_p Z_n Z_order Z_monomials Z_generators Z_upTo Z_members Z_lefts Z_vars Z_leadsFound Z_words Z_row Z_work) → va_S A (gs X).heap H locs → lv_has ls 5 lv → gWW X rm_ztakeRow H locs 0 0 (MQ (gbl X) (va_Qv (fun _ : Unit => True) (gB D (gT cI cL cZ) A (ws_ztakeRow a_Z a_Z_row a_Z_work a_Z_mono a_Z_degree a_Z_generator a_Z_hand a_Z_has a_Z_basis a_Z_rest a_Z_product a_Z_known a_Z_lead a_Z_tail a_Z_word a_Z_vector a_Z_system a_Z_now a_Z_next cI cL cZ Z_thrownCode Z_p Z_n Z_order Z_monomials Z_generators Z_upTo Z_members Z_lefts Z_vars Z_leadsFound Z_words Z_row Z_work_r)) A) (ga X) (gs X) 0 0 A) (F0 (gm X) pc ls st)
set_option maxHeartbeats 4000000 in
set_option maxRecDepth 100000 in
theorem w_ztakeRow_16 (X : gX) (D : va_G) (cI cL cZ : ClassId) (a_Z a_Z_row a_Z_work a_Z_mono a_Z_degree a_Z_generator a_Z_hand a_Z_has a_Z_basis a_Z_rest a_Z_product a_Z_known a_Z_lead a_Z_tail a_Z_word a_Z_vector a_Z_system a_Z_now a_Z_next : Nat) (A : Nat → Prop) (Z_thrownCode Z_p Z_n Z_order Z_monomials Z_generators Z_upTo Z_members Z_lefts Z_vars Z_leadsFound Z_words : Int32) (Z_row Z_work_r : Nat → Int32) (F : Nat) (C0 : gC X c_Z_takeRowb none 5 "RemnantDictionaryModel" gAll) (hK : va_K D classes (gT cI cL cZ) (gs X)) (hA : ∀ q : Nat, (gs X).heap.size ≤ q → A q) (hN : gN (gs X)) (k16 : Int32 → Int64 → Int32 → (Nat → Int32) → Option ((Nat → Int32))) (hk16 : ∀ (i1 : Int32) (l2 : Int64) (i4 : Int32) (Z_work : Nat → Int32), k16 i1 l2 i4 Z_work = some Z_work_r → g_ztakeRow X D cI cL cZ a_Z a_Z_row a_Z_work a_Z_mono a_Z_degree a_Z_generator a_Z_hand a_Z_has a_Z_basis a_Z_rest a_Z_product a_Z_known a_Z_lead a_Z_tail a_Z_word a_Z_vector a_Z_system a_Z_now a_Z_next A Z_thrownCode Z_p Z_n Z_order Z_monomials Z_generators Z_upTo Z_members Z_lefts Z_vars Z_leadsFound Z_words Z_row Z_work_r 16 [(0, .ref a_Z), (1, .int i1), (2, .long l2), (4, .int i4)] [] Z_work) (i1 : Int32) (l2 : Int64) (i4 : Int32) (Z_work : Nat → Int32) (hrun : s_ztakeRow_16 F Z_p Z_row k16 i1 l2 i4 Z_work = some Z_work_r) : g_ztakeRow X D cI cL cZ a_Z a_Z_row a_Z_work a_Z_mono a_Z_degree a_Z_generator a_Z_hand a_Z_has a_Z_basis a_Z_rest a_Z_product a_Z_known a_Z_lead a_Z_tail a_Z_word a_Z_vector a_Z_system a_Z_now a_Z_next A Z_thrownCode Z_p Z_n Z_order Z_monomials Z_generators Z_upTo Z_members Z_lefts Z_vars Z_leadsFound Z_words Z_row Z_work_r 16 [(0, .ref a_Z), (1, .int i1), (2, .long l2), (4, .int i4)] [] Z_work := by
  have C1 := C0
  obtain ⟨hx, hb, hr, hml, hown, hts, hlocks⟩ := C1
  unfold s_ztakeRow_16 at hrun
  intro H locs ls hP hD hS hl
  refine lv_iload hx hb d_Z_takeRow_16 (lv_at hl 3 rfl) ?_
  refine lv_iload_n hx hb d_Z_takeRow_18 rfl (lv_at hl 1 rfl) ?_
  refine g_icmp_gt (tgt := 66) hx hb d_Z_takeRow_19 (by decide) hrun (fun _ hrun => ?_) (fun _ hrun => ?_)
  · cases hrun
    exact W.vret hx hb hr (fun t ht hW => ⟨⟨(), rfl, trivial, gB_of ht hW.alike hP hK hD⟩, hS.F ht⟩) hS.2.2 d_Z_takeRow_66
  · refine lv_aload_n hx hb d_Z_takeRow_22 rfl (lv_at hl 0 rfl) ?_
    refine va_get (D := D) (ci := 5) (v := .ref a_Z_work) (C := "RemnantDictionaryModel") (T := T_Z) (N := 30) hx hb hts iw_Z hown hK hP 0 rfl rfl 13 (by decide) (hts _ k_391) (fun _ h9 => h9) rfl d_Z_takeRow_23 ?_
    refine lv_iload hx hb d_Z_takeRow_26 (lv_at hl 3 rfl) ?_
    refine lv_aload_n hx hb d_Z_takeRow_28 rfl (lv_at hl 0 rfl) ?_
    refine va_get (D := D) (ci := 5) (v := .ref a_Z_work) (C := "RemnantDictionaryModel") (T := T_Z) (N := 30) hx hb hts iw_Z hown hK hP 0 rfl rfl 13 (by decide) (hts _ k_391) (fun _ h9 => h9) rfl d_Z_takeRow_29 ?_
    refine lv_iload hx hb d_Z_takeRow_32 (lv_at hl 3 rfl) ?_
    refine g_iald hx hb hK hP 2 0 rfl rfl hrun d_Z_takeRow_34 (fun x_1 hrun => ?_)
    refine lv_i2l hx hb d_Z_takeRow_35 rfl ?_
    refine lv_lload_n hx hb d_Z_takeRow_36 rfl (lv_at hl 2 rfl) ?_
    refine lv_aload_n hx hb d_Z_takeRow_37 rfl (lv_at hl 0 rfl) ?_
    refine va_get (D := D) (ci := 5) (v := .ref a_Z_row) (C := "RemnantDictionaryModel") (T := T_Z) (N := 30) hx hb hts iw_Z hown hK hP 0 rfl rfl 12 (by decide) (hts _ k_392) (fun _ h9 => h9) rfl d_Z_takeRow_38 ?_
    refine lv_bipush (v := 126) hx hb d_Z_takeRow_41 (by decide) ?_
    refine lv_iload_n hx hb d_Z_takeRow_43 rfl (lv_at hl 1 rfl) ?_
    refine lv_imul hx hb d_Z_takeRow_44 ?_
    refine lv_iload hx hb d_Z_takeRow_45 (lv_at hl 3 rfl) ?_
    refine lv_iadd hx hb d_Z_takeRow_47 ?_
    refine g_iald hx hb hK hP 1 0 rfl rfl hrun d_Z_takeRow_48 (fun x_2 hrun => ?_)
    refine lv_i2l hx hb d_Z_takeRow_49 rfl ?_
    refine lv_lmul hx hb d_Z_takeRow_50 ?_
    refine lv_ladd hx hb d_Z_takeRow_51 ?_
    refine lv_aload_n hx hb d_Z_takeRow_52 rfl (lv_at hl 0 rfl) ?_
    refine va_get (D := D) (ci := 5) (v := .int Z_p) (C := "RemnantDictionaryModel") (T := T_Z) (N := 30) hx hb hts iw_Z hown hK hP 0 rfl rfl 1 (by decide) (hts _ k_385) (fun _ h9 => h9) rfl d_Z_takeRow_53 ?_
    refine lv_i2l hx hb d_Z_takeRow_56 rfl ?_
    refine g_lrem hx hb d_Z_takeRow_57 hrun (fun hrun => ?_)
    refine lv_l2i hx hb d_Z_takeRow_58 rfl ?_
    refine g_iast hx hb hK hP hD hS 2 0 rfl rfl hrun d_Z_takeRow_59 (fun Z_work_3 hrun H locs (hP : va_P D classes (ws_ztakeRow a_Z a_Z_row a_Z_work a_Z_mono a_Z_degree a_Z_generator a_Z_hand a_Z_has a_Z_basis a_Z_rest a_Z_product a_Z_known a_Z_lead a_Z_tail a_Z_word a_Z_vector a_Z_system a_Z_now a_Z_next cI cL cZ Z_thrownCode Z_p Z_n Z_order Z_monomials Z_generators Z_upTo Z_members Z_lefts Z_vars Z_leadsFound Z_words Z_row Z_work_3) H) (hD : va_D A (ws_ztakeRow a_Z a_Z_row a_Z_work a_Z_mono a_Z_degree a_Z_generator a_Z_hand a_Z_has a_Z_basis a_Z_rest a_Z_product a_Z_known a_Z_lead a_Z_tail a_Z_word a_Z_vector a_Z_system a_Z_now a_Z_next cI cL cZ Z_thrownCode Z_p Z_n Z_order Z_monomials Z_generators Z_upTo Z_members Z_lefts Z_vars Z_leadsFound Z_words Z_row Z_work_3)) hS => ?_)
    refine lv_iinc (v := (i4 + 1)) (lv' := [(4, .int (i4 + 1)), (0, .ref a_Z), (1, .int i1), (2, .long l2)]) hx hb d_Z_takeRow_60 hl (k := 3) rfl rfl (by decide) rfl (fun ls hl => ?_)
    refine lv_goto (tgt := 16) hx hb d_Z_takeRow_63 (by decide) ?_
    exact hk16 i1 l2 (i4 + 1) Z_work_3 hrun H locs ls hP hD hS (lv_sub hl [1, 2, 3, 0] rfl)
theorem v_ztakeRow_16 (X : gX) (D : va_G) (cI cL cZ : ClassId) (a_Z a_Z_row a_Z_work a_Z_mono a_Z_degree a_Z_generator a_Z_hand a_Z_has a_Z_basis a_Z_rest a_Z_product a_Z_known a_Z_lead a_Z_tail a_Z_word a_Z_vector a_Z_system a_Z_now a_Z_next : Nat) (A : Nat → Prop) (Z_thrownCode Z_p Z_n Z_order Z_monomials Z_generators Z_upTo Z_members Z_lefts Z_vars Z_leadsFound Z_words : Int32) (Z_row Z_work_r : Nat → Int32) (F : Nat) (C0 : gC X c_Z_takeRowb none 5 "RemnantDictionaryModel" gAll) (hK : va_K D classes (gT cI cL cZ) (gs X)) (hA : ∀ q : Nat, (gs X).heap.size ≤ q → A q) (hN : gN (gs X))  : ∀ (n : Nat) (i1 : Int32) (l2 : Int64) (i4 : Int32) (Z_work : Nat → Int32), b_ztakeRow_16 F Z_p Z_row n i1 l2 i4 Z_work = some Z_work_r → g_ztakeRow X D cI cL cZ a_Z a_Z_row a_Z_work a_Z_mono a_Z_degree a_Z_generator a_Z_hand a_Z_has a_Z_basis a_Z_rest a_Z_product a_Z_known a_Z_lead a_Z_tail a_Z_word a_Z_vector a_Z_system a_Z_now a_Z_next A Z_thrownCode Z_p Z_n Z_order Z_monomials Z_generators Z_upTo Z_members Z_lefts Z_vars Z_leadsFound Z_words Z_row Z_work_r 16 [(0, .ref a_Z), (1, .int i1), (2, .long l2), (4, .int i4)] [] Z_work := by
  intro n
  induction n with
  | zero => intro i1 l2 i4 Z_work hrun; cases hrun
  | succ n ih =>
    intro i1 l2 i4 Z_work hrun
    exact w_ztakeRow_16 X D cI cL cZ a_Z a_Z_row a_Z_work a_Z_mono a_Z_degree a_Z_generator a_Z_hand a_Z_has a_Z_basis a_Z_rest a_Z_product a_Z_known a_Z_lead a_Z_tail a_Z_word a_Z_vector a_Z_system a_Z_now a_Z_next A Z_thrownCode Z_p Z_n Z_order Z_monomials Z_generators Z_upTo Z_members Z_lefts Z_vars Z_leadsFound Z_words Z_row Z_work_r F C0 hK hA hN (b_ztakeRow_16 F Z_p Z_row n) ih i1 l2 i4 Z_work hrun
set_option maxHeartbeats 4000000 in
set_option maxRecDepth 100000 in
theorem e_ztakeRow (X : gX) (D : va_G) (cI cL cZ : ClassId) (a_Z a_Z_row a_Z_work a_Z_mono a_Z_degree a_Z_generator a_Z_hand a_Z_has a_Z_basis a_Z_rest a_Z_product a_Z_known a_Z_lead a_Z_tail a_Z_word a_Z_vector a_Z_system a_Z_now a_Z_next : Nat) (A : Nat → Prop) (Z_thrownCode Z_p Z_n Z_order Z_monomials Z_generators Z_upTo Z_members Z_lefts Z_vars Z_leadsFound Z_words : Int32) (Z_row Z_work_r : Nat → Int32) (F : Nat) (C0 : gC X c_Z_takeRowb none 5 "RemnantDictionaryModel" gAll) (hK : va_K D classes (gT cI cL cZ) (gs X)) (hA : ∀ q : Nat, (gs X).heap.size ≤ q → A q) (hN : gN (gs X)) (i1 : Int32) (Z_work : Nat → Int32) (hrun : m_ztakeRow F Z_p Z_row i1 Z_work = some Z_work_r) : g_ztakeRow X D cI cL cZ a_Z a_Z_row a_Z_work a_Z_mono a_Z_degree a_Z_generator a_Z_hand a_Z_has a_Z_basis a_Z_rest a_Z_product a_Z_known a_Z_lead a_Z_tail a_Z_word a_Z_vector a_Z_system a_Z_now a_Z_next A Z_thrownCode Z_p Z_n Z_order Z_monomials Z_generators Z_upTo Z_members Z_lefts Z_vars Z_leadsFound Z_words Z_row Z_work_r 0 [(0, .ref a_Z), (1, .int i1)] [] Z_work := by
  have C1 := C0
  obtain ⟨hx, hb, hr, hml, hown, hts, hlocks⟩ := C1
  unfold m_ztakeRow at hrun
  intro H locs ls hP hD hS hl
  refine lv_aload_n hx hb d_Z_takeRow_0 rfl (lv_at hl 0 rfl) ?_
  refine va_get (D := D) (ci := 5) (v := .int Z_p) (C := "RemnantDictionaryModel") (T := T_Z) (N := 30) hx hb hts iw_Z hown hK hP 0 rfl rfl 1 (by decide) (hts _ k_385) (fun _ h9 => h9) rfl d_Z_takeRow_1 ?_
  refine lv_aload_n hx hb d_Z_takeRow_4 rfl (lv_at hl 0 rfl) ?_
  refine va_get (D := D) (ci := 5) (v := .ref a_Z_work) (C := "RemnantDictionaryModel") (T := T_Z) (N := 30) hx hb hts iw_Z hown hK hP 0 rfl rfl 13 (by decide) (hts _ k_391) (fun _ h9 => h9) rfl d_Z_takeRow_5 ?_
  refine lv_iload_n hx hb d_Z_takeRow_8 rfl (lv_at hl 1 rfl) ?_
  refine g_iald hx hb hK hP 2 0 rfl rfl hrun d_Z_takeRow_9 (fun x_1 hrun => ?_)
  refine lv_isub hx hb d_Z_takeRow_10 ?_
  refine lv_i2l hx hb d_Z_takeRow_11 rfl ?_
  refine lv_lstore_n (lv' := [(2, .long ((Z_p - x_1).toInt64)), (0, .ref a_Z), (1, .int i1)]) hx hb d_Z_takeRow_12 rfl hl (by decide) rfl (fun ls hl => ?_)
  refine lv_iconst (v := 0) hx hb d_Z_takeRow_13 (by decide) ?_
  refine lv_istore (lv' := [(4, .int 0), (2, .long ((Z_p - x_1).toInt64)), (0, .ref a_Z), (1, .int i1)]) hx hb d_Z_takeRow_14 hl (by decide) rfl (fun ls hl => ?_)
  exact v_ztakeRow_16 X D cI cL cZ a_Z a_Z_row a_Z_work a_Z_mono a_Z_degree a_Z_generator a_Z_hand a_Z_has a_Z_basis a_Z_rest a_Z_product a_Z_known a_Z_lead a_Z_tail a_Z_word a_Z_vector a_Z_system a_Z_now a_Z_next A Z_thrownCode Z_p Z_n Z_order Z_monomials Z_generators Z_upTo Z_members Z_lefts Z_vars Z_leadsFound Z_words Z_row Z_work_r F C0 hK hA hN  F i1 ((Z_p - x_1).toInt64) 0 Z_work hrun H locs ls hP hD hS (lv_sub hl [2, 3, 1, 0] rfl)
set_option maxHeartbeats 4000000 in
set_option maxRecDepth 100000 in
theorem c_ztakeRow (l : Launch) (D : va_G) (cI cL cZ : ClassId) (a_Z a_Z_row a_Z_work a_Z_mono a_Z_degree a_Z_generator a_Z_hand a_Z_has a_Z_basis a_Z_rest a_Z_product a_Z_known a_Z_lead a_Z_tail a_Z_word a_Z_vector a_Z_system a_Z_now a_Z_next : Nat) (F : Nat) (Z_thrownCode Z_p Z_n Z_order Z_monomials Z_generators Z_upTo Z_members Z_lefts Z_vars Z_leadsFound Z_words : Int32) (Z_row Z_work : Nat → Int32) (i1 : Int32) (sz : Nat) (Z_work_r : Nat → Int32) (hrun : m_ztakeRow F Z_p Z_row i1 Z_work = some Z_work_r) : Met l y_Z_takeRow (.code y_Z_takeRow c_Z_takeRowb 5 none :: gAll) rm_ztakeRow (va_Pc [.ref a_Z, .int i1] (gPW D (gT cI cL cZ) (ws_ztakeRow a_Z a_Z_row a_Z_work a_Z_mono a_Z_degree a_Z_generator a_Z_hand a_Z_has a_Z_basis a_Z_rest a_Z_product a_Z_known a_Z_lead a_Z_tail a_Z_word a_Z_vector a_Z_system a_Z_now a_Z_next cI cL cZ Z_thrownCode Z_p Z_n Z_order Z_monomials Z_generators Z_upTo Z_members Z_lefts Z_vars Z_leadsFound Z_words Z_row Z_work) sz)) (va_Qv (fun _ : Unit => True) (gB D (gT cI cL cZ) (va_A (ws_ztakeRow a_Z a_Z_row a_Z_work a_Z_mono a_Z_degree a_Z_generator a_Z_hand a_Z_has a_Z_basis a_Z_rest a_Z_product a_Z_known a_Z_lead a_Z_tail a_Z_word a_Z_vector a_Z_system a_Z_now a_Z_next cI cL cZ Z_thrownCode Z_p Z_n Z_order Z_monomials Z_generators Z_upTo Z_members Z_lefts Z_vars Z_leadsFound Z_words Z_row Z_work) sz) (ws_ztakeRow a_Z a_Z_row a_Z_work a_Z_mono a_Z_degree a_Z_generator a_Z_hand a_Z_has a_Z_basis a_Z_rest a_Z_product a_Z_known a_Z_lead a_Z_tail a_Z_word a_Z_vector a_Z_system a_Z_now a_Z_next cI cL cZ Z_thrownCode Z_p Z_n Z_order Z_monomials Z_generators Z_upTo Z_members Z_lefts Z_vars Z_leadsFound Z_words Z_row Z_work_r)) (va_A (ws_ztakeRow a_Z a_Z_row a_Z_work a_Z_mono a_Z_degree a_Z_generator a_Z_hand a_Z_has a_Z_basis a_Z_rest a_Z_product a_Z_known a_Z_lead a_Z_tail a_Z_word a_Z_vector a_Z_system a_Z_now a_Z_next cI cL cZ Z_thrownCode Z_p Z_n Z_order Z_monomials Z_generators Z_upTo Z_members Z_lefts Z_vars Z_leadsFound Z_words Z_row Z_work) sz)) 0 0 (va_A (ws_ztakeRow a_Z a_Z_row a_Z_work a_Z_mono a_Z_degree a_Z_generator a_Z_hand a_Z_has a_Z_basis a_Z_rest a_Z_product a_Z_known a_Z_lead a_Z_tail a_Z_word a_Z_vector a_Z_system a_Z_now a_Z_next cI cL cZ Z_thrownCode Z_p Z_n Z_order Z_monomials Z_generators Z_upTo Z_members Z_lefts Z_vars Z_leadsFound Z_words Z_row Z_work) sz) := by
  refine Met.ofW (cc := c_Z_takeRowb) (maxL := 5) (ret := none) (by decide +kernel) rfl ?_
  intro p e s m args below meth c s₁ B hml hv
  obtain ⟨rfl, hsz, hP, hK, hN, hD0⟩ := hv
  subst hsz
  have hD := hD0.self (sz := s.heap.size)
  have hl := lv_entry ([.ref a_Z, .int i1]) (n := 5) (Nat.le_of_ble_eq_true rfl)
  rw [lg_entry_eq]
  generalize (lg_sl ([.ref a_Z, .int i1]) ++ List.replicate (5 - (lg_sl ([.ref a_Z, .int i1])).length) Slot.unset).toArray = ls at hl ⊢
  exact e_ztakeRow (p, l, e, s, m, ([.ref a_Z, .int i1] : List Value).toArray, below, meth, c) D cI cL cZ a_Z a_Z_row a_Z_work a_Z_mono a_Z_degree a_Z_generator a_Z_hand a_Z_has a_Z_basis a_Z_rest a_Z_product a_Z_known a_Z_lead a_Z_tail a_Z_word a_Z_vector a_Z_system a_Z_now a_Z_next (va_A (ws_ztakeRow a_Z a_Z_row a_Z_work a_Z_mono a_Z_degree a_Z_generator a_Z_hand a_Z_has a_Z_basis a_Z_rest a_Z_product a_Z_known a_Z_lead a_Z_tail a_Z_word a_Z_vector a_Z_system a_Z_now a_Z_next cI cL cZ Z_thrownCode Z_p Z_n Z_order Z_monomials Z_generators Z_upTo Z_members Z_lefts Z_vars Z_leadsFound Z_words Z_row Z_work) s.heap.size) Z_thrownCode Z_p Z_n Z_order Z_monomials Z_generators Z_upTo Z_members Z_lefts Z_vars Z_leadsFound Z_words Z_row Z_work_r F ⟨B.exec, B.bytes, B.returns, hml, findClass_of_methodNamed B.named, fun w h => atoms_spec (ws := (.code y_Z_takeRow c_Z_takeRowb 5 none :: gAll)) B.pre w (List.mem_cons_of_mem _ h), B.notSynchronized⟩ hK (fun q h => Or.inr h) hN i1 Z_work hrun s.heap [] ls hP hD va_S.rf hl
theorem d_Z_reduce_0 : decode c_Z_reduceb 0 = .ok (.iconst (-1), 1) := by decide +kernel
theorem d_Z_reduce_1 : decode c_Z_reduceb 1 = .ok (.istore_n 1, 1) := by decide +kernel
theorem d_Z_reduce_2 : decode c_Z_reduceb 2 = .ok (.aload_n 0, 1) := by decide +kernel
theorem d_Z_reduce_3 : decode c_Z_reduceb 3 = .ok (.getfield 22, 3) := by decide +kernel
theorem d_Z_reduce_6 : decode c_Z_reduceb 6 = .ok (.iconst 1, 1) := by decide +kernel
theorem d_Z_reduce_7 : decode c_Z_reduceb 7 = .ok (.isub, 1) := by decide +kernel
theorem d_Z_reduce_8 : decode c_Z_reduceb 8 = .ok (.istore_n 2, 1) := by decide +kernel
theorem d_Z_reduce_9 : decode c_Z_reduceb 9 = .ok (.iload_n 2, 1) := by decide +kernel
theorem d_Z_reduce_10 : decode c_Z_reduceb 10 = .ok (.ifCond .lt 41, 3) := by decide +kernel
theorem d_Z_reduce_13 : decode c_Z_reduceb 13 = .ok (.aload_n 0, 1) := by decide +kernel
theorem d_Z_reduce_14 : decode c_Z_reduceb 14 = .ok (.getfield 51, 3) := by decide +kernel
theorem d_Z_reduce_17 : decode c_Z_reduceb 17 = .ok (.iload_n 2, 1) := by decide +kernel
theorem d_Z_reduce_18 : decode c_Z_reduceb 18 = .ok (.iaload, 1) := by decide +kernel
theorem d_Z_reduce_19 : decode c_Z_reduceb 19 = .ok (.ifCond .eq 26, 3) := by decide +kernel
theorem d_Z_reduce_22 : decode c_Z_reduceb 22 = .ok (.aload_n 0, 1) := by decide +kernel
theorem d_Z_reduce_23 : decode c_Z_reduceb 23 = .ok (.getfield 44, 3) := by decide +kernel
theorem d_Z_reduce_26 : decode c_Z_reduceb 26 = .ok (.iload_n 2, 1) := by decide +kernel
theorem d_Z_reduce_27 : decode c_Z_reduceb 27 = .ok (.baload, 1) := by decide +kernel
theorem d_Z_reduce_28 : decode c_Z_reduceb 28 = .ok (.ifCond .eq 11, 3) := by decide +kernel
theorem d_Z_reduce_31 : decode c_Z_reduceb 31 = .ok (.aload_n 0, 1) := by decide +kernel
theorem d_Z_reduce_32 : decode c_Z_reduceb 32 = .ok (.iload_n 2, 1) := by decide +kernel
theorem d_Z_reduce_33 : decode c_Z_reduceb 33 = .ok (.invokevirtual 125, 3) := by decide +kernel
theorem d_Z_reduce_36 : decode c_Z_reduceb 36 = .ok (.goto 9, 3) := by decide +kernel
theorem d_Z_reduce_39 : decode c_Z_reduceb 39 = .ok (.iload_n 1, 1) := by decide +kernel
theorem d_Z_reduce_40 : decode c_Z_reduceb 40 = .ok (.ifCond .ge 5, 3) := by decide +kernel
theorem d_Z_reduce_43 : decode c_Z_reduceb 43 = .ok (.iload_n 2, 1) := by decide +kernel
theorem d_Z_reduce_44 : decode c_Z_reduceb 44 = .ok (.istore_n 1, 1) := by decide +kernel
theorem d_Z_reduce_45 : decode c_Z_reduceb 45 = .ok (.iinc 2 (-1), 3) := by decide +kernel
theorem d_Z_reduce_48 : decode c_Z_reduceb 48 = .ok (.goto (-39), 3) := by decide +kernel
theorem d_Z_reduce_51 : decode c_Z_reduceb 51 = .ok (.iload_n 1, 1) := by decide +kernel
theorem d_Z_reduce_52 : decode c_Z_reduceb 52 = .ok (.ireturn, 1) := by decide +kernel
abbrev ws_zreduce (a_Z a_Z_has a_Z_row a_Z_work a_Z_mono a_Z_degree a_Z_generator a_Z_hand a_Z_basis a_Z_rest a_Z_product a_Z_known a_Z_lead a_Z_tail a_Z_word a_Z_vector a_Z_system a_Z_now a_Z_next : Nat) (cI cL cZ : ClassId) (Z_thrownCode Z_p Z_n Z_order Z_monomials Z_generators Z_upTo Z_members Z_lefts Z_vars Z_leadsFound Z_words : Int32) (Z_has Z_row Z_work : Nat → Int32) : va_W := [(a_Z, .inr (5, [.int Z_thrownCode, .int Z_p, .int Z_n, .int Z_order, .int Z_monomials, .ref a_Z_mono, .ref a_Z_degree, .int Z_generators, .ref a_Z_generator, .ref a_Z_hand, .int Z_upTo, .ref a_Z_has, .ref a_Z_row, .ref a_Z_work, .ref a_Z_basis, .int Z_members, .int Z_lefts, .int Z_vars, .ref a_Z_rest, .ref a_Z_product, .ref a_Z_known, .int Z_leadsFound, .ref a_Z_lead, .ref a_Z_tail, .int Z_words, .ref a_Z_word, .ref a_Z_vector, .ref a_Z_system, .ref a_Z_now, .ref a_Z_next])), (a_Z_has, .inl (cZ, 126, .inl Z_has)), (a_Z_row, .inl (cI, 15876, .inl Z_row)), (a_Z_work, .inl (cI, 126, .inl Z_work))]
abbrev rm_zreduce : Room := { frames := 1, cells := 0, slots := 0, locals := 24 }
abbrev g_zreduce (X : gX) (D : va_G) (cI cL cZ : ClassId) (a_Z a_Z_has a_Z_row a_Z_work a_Z_mono a_Z_degree a_Z_generator a_Z_hand a_Z_basis a_Z_rest a_Z_product a_Z_known a_Z_lead a_Z_tail a_Z_word a_Z_vector a_Z_system a_Z_now a_Z_next : Nat) (A : Nat → Prop) (Z_thrownCode Z_p Z_n Z_order Z_monomials Z_generators Z_upTo Z_members Z_lefts Z_vars Z_leadsFound Z_words : Int32) (Z_has Z_row : Nat → Int32) (r_ : Int32) (Z_work_r : Nat → Int32) (pc : Nat) (lv : List (Nat × Value)) (st : List Value) (Z_work : Nat → Int32) : Prop := ∀ (H : Heap) (locs : List Loc) (ls : Array Slot), va_P D classes (ws_zreduce a_Z a_Z_has a_Z_row a_Z_work a_Z_mono a_Z_degree a_Z_generator a_Z_hand a_Z_basis a_Z_rest a_Z_product a_Z_known a_Z_lead a_Z_tail a_Z_word a_Z_vector a_Z_system a_Z_now a_Z_next cI cL cZ Z_thrownCode Z_p Z_n Z_order Z_monomials Z_generators Z_upTo Z_members Z_lefts Z_vars Z_leadsFound Z_words Z_has Z_row Z_work) H → va_D A (ws_zreduce a_Z a_Z_has a_Z_row a_Z_work a_Z_mono a_Z_degree a_Z_generator a_Z_hand a_Z_basis a_Z_rest a_Z_product a_Z_known a_Z_lead a_Z_tail a_Z_word a_Z_vector a_Z_system a_Z_now a_Z_next cI cL cZ Z_thrownCode Z_p Z_n Z_order Z_monomials Z_generators Z_upTo Z_members Z_lefts Z_vars Z_leadsFound Z_words Z_has Z_row Z_work) → va_S A (gs X).heap H locs → lv_has ls 3 lv → gWW X rm_zreduce H locs 0 0 (MQ (gbl X) (va_Qi (fun r (_ : Unit) => r = r_) (gB D (gT cI cL cZ) A (ws_zreduce a_Z a_Z_has a_Z_row a_Z_work a_Z_mono a_Z_degree a_Z_generator a_Z_hand a_Z_basis a_Z_rest a_Z_product a_Z_known a_Z_lead a_Z_tail a_Z_word a_Z_vector a_Z_system a_Z_now a_Z_next cI cL cZ Z_thrownCode Z_p Z_n Z_order Z_monomials Z_generators Z_upTo Z_members Z_lefts Z_vars Z_leadsFound Z_words Z_has Z_row Z_work_r)) A) (ga X) (gs X) 0 0 A) (F0 (gm X) pc ls st)
set_option maxHeartbeats 4000000 in
set_option maxRecDepth 100000 in
theorem w_zreduce_9 (X : gX) (D : va_G) (cI cL cZ : ClassId) (a_Z a_Z_has a_Z_row a_Z_work a_Z_mono a_Z_degree a_Z_generator a_Z_hand a_Z_basis a_Z_rest a_Z_product a_Z_known a_Z_lead a_Z_tail a_Z_word a_Z_vector a_Z_system a_Z_now a_Z_next : Nat) (A : Nat → Prop) (Z_thrownCode Z_p Z_n Z_order Z_monomials Z_generators Z_upTo Z_members Z_lefts Z_vars Z_leadsFound Z_words : Int32) (Z_has Z_row : Nat → Int32) (r_ : Int32) (Z_work_r : Nat → Int32) (F : Nat) (C0 : gC X c_Z_reduceb (some .int) 3 "RemnantDictionaryModel" gAll) (hK : va_K D classes (gT cI cL cZ) (gs X)) (hA : ∀ q : Nat, (gs X).heap.size ≤ q → A q) (hN : gN (gs X)) (k9 : Int32 → Int32 → (Nat → Int32) → Option (Int32 × (Nat → Int32))) (hk9 : ∀ (i1 i2 : Int32) (Z_work : Nat → Int32), k9 i1 i2 Z_work = some (r_, Z_work_r) → g_zreduce X D cI cL cZ a_Z a_Z_has a_Z_row a_Z_work a_Z_mono a_Z_degree a_Z_generator a_Z_hand a_Z_basis a_Z_rest a_Z_product a_Z_known a_Z_lead a_Z_tail a_Z_word a_Z_vector a_Z_system a_Z_now a_Z_next A Z_thrownCode Z_p Z_n Z_order Z_monomials Z_generators Z_upTo Z_members Z_lefts Z_vars Z_leadsFound Z_words Z_has Z_row r_ Z_work_r 9 [(0, .ref a_Z), (1, .int i1), (2, .int i2)] [] Z_work) (i1 i2 : Int32) (Z_work : Nat → Int32) (hrun : s_zreduce_9 F Z_monomials Z_p Z_has Z_row k9 i1 i2 Z_work = some (r_, Z_work_r)) : g_zreduce X D cI cL cZ a_Z a_Z_has a_Z_row a_Z_work a_Z_mono a_Z_degree a_Z_generator a_Z_hand a_Z_basis a_Z_rest a_Z_product a_Z_known a_Z_lead a_Z_tail a_Z_word a_Z_vector a_Z_system a_Z_now a_Z_next A Z_thrownCode Z_p Z_n Z_order Z_monomials Z_generators Z_upTo Z_members Z_lefts Z_vars Z_leadsFound Z_words Z_has Z_row r_ Z_work_r 9 [(0, .ref a_Z), (1, .int i1), (2, .int i2)] [] Z_work := by
  have C1 := C0
  obtain ⟨hx, hb, hr, hml, hown, hts, hlocks⟩ := C1
  unfold s_zreduce_9 at hrun
  intro H locs ls hP hD hS hl
  refine lv_iload_n hx hb d_Z_reduce_9 rfl (lv_at hl 2 rfl) ?_
  refine g_if_lt (tgt := 51) hx hb d_Z_reduce_10 (by decide) hrun (fun _ hrun => ?_) (fun _ hrun => ?_)
  · refine lv_iload_n hx hb d_Z_reduce_51 rfl (lv_at hl 1 rfl) ?_
    cases hrun
    exact W.iret hx hb hr (fun t ht hW => ⟨⟨_, (), rfl, rfl, gB_of ht hW.alike hP hK hD⟩, hS.F ht⟩) hS.2.2 d_Z_reduce_52
  · refine lv_aload_n hx hb d_Z_reduce_13 rfl (lv_at hl 0 rfl) ?_
    refine va_get (D := D) (ci := 5) (v := .ref a_Z_work) (C := "RemnantDictionaryModel") (T := T_Z) (N := 30) hx hb hts iw_Z hown hK hP 0 rfl rfl 13 (by decide) (hts _ k_391) (fun _ h9 => h9) rfl d_Z_reduce_14 ?_
    refine lv_iload_n hx hb d_Z_reduce_17 rfl (lv_at hl 2 rfl) ?_
    refine g_iald hx hb hK hP 3 0 rfl rfl hrun d_Z_reduce_18 (fun x_1 hrun => ?_)
    refine g_if_eq (tgt := 45) hx hb d_Z_reduce_19 (by decide) hrun (fun _ hrun => ?_) (fun _ hrun => ?_)
    · refine lv_iinc (v := (i2 + (-1))) (lv' := [(2, .int (i2 + (-1))), (0, .ref a_Z), (1, .int i1)]) hx hb d_Z_reduce_45 hl (k := 2) rfl rfl (by decide) rfl (fun ls hl => ?_)
      refine lv_goto (tgt := 9) hx hb d_Z_reduce_48 (by decide) ?_
      exact hk9 i1 (i2 + (-1)) Z_work hrun H locs ls hP hD hS (lv_sub hl [1, 2, 0] rfl)
    · refine lv_aload_n hx hb d_Z_reduce_22 rfl (lv_at hl 0 rfl) ?_
      refine va_get (D := D) (ci := 5) (v := .ref a_Z_has) (C := "RemnantDictionaryModel") (T := T_Z) (N := 30) hx hb hts iw_Z hown hK hP 0 rfl rfl 11 (by decide) (hts _ k_394) (fun _ h9 => h9) rfl d_Z_reduce_23 ?_
      refine lv_iload_n hx hb d_Z_reduce_26 rfl (lv_at hl 2 rfl) ?_
      refine g_zald hx hb hK hP 1 2 rfl rfl hrun d_Z_reduce_27 (fun x_2 hrun => ?_)
      refine g_if_eq (tgt := 39) hx hb d_Z_reduce_28 (by decide) hrun (fun _ hrun => ?_) (fun _ hrun => ?_)
      · refine lv_iload_n hx hb d_Z_reduce_39 rfl (lv_at hl 1 rfl) ?_
        refine g_if_ge (tgt := 45) hx hb d_Z_reduce_40 (by decide) hrun (fun _ hrun => ?_) (fun _ hrun => ?_)
        · refine lv_iinc (v := (i2 + (-1))) (lv' := [(2, .int (i2 + (-1))), (0, .ref a_Z), (1, .int i1)]) hx hb d_Z_reduce_45 hl (k := 2) rfl rfl (by decide) rfl (fun ls hl => ?_)
          refine lv_goto (tgt := 9) hx hb d_Z_reduce_48 (by decide) ?_
          exact hk9 i1 (i2 + (-1)) Z_work hrun H locs ls hP hD hS (lv_sub hl [1, 2, 0] rfl)
        · refine lv_iload_n hx hb d_Z_reduce_43 rfl (lv_at hl 2 rfl) ?_
          refine lv_istore_n (lv' := [(1, .int i2), (0, .ref a_Z), (2, .int i2)]) hx hb d_Z_reduce_44 rfl hl (by decide) rfl (fun ls hl => ?_)
          refine lv_iinc (v := (i2 + (-1))) (lv' := [(2, .int (i2 + (-1))), (1, .int i2), (0, .ref a_Z)]) hx hb d_Z_reduce_45 hl (k := 2) rfl rfl (by decide) rfl (fun ls hl => ?_)
          refine lv_goto (tgt := 9) hx hb d_Z_reduce_48 (by decide) ?_
          exact hk9 i2 (i2 + (-1)) Z_work hrun H locs ls hP hD hS (lv_sub hl [2, 1, 0] rfl)
      · refine lv_aload_n hx hb d_Z_reduce_31 rfl (lv_at hl 0 rfl) ?_
        refine lv_iload_n hx hb d_Z_reduce_32 rfl (lv_at hl 2 rfl) ?_
        obtain ⟨Z_work_3, hc, hrun⟩ := bd1_s hrun
        have hFc := va_free (wc := (ws_ztakeRow a_Z a_Z_row a_Z_work a_Z_mono a_Z_degree a_Z_generator a_Z_hand a_Z_has a_Z_basis a_Z_rest a_Z_product a_Z_known a_Z_lead a_Z_tail a_Z_word a_Z_vector a_Z_system a_Z_now a_Z_next cI cL cZ Z_thrownCode Z_p Z_n Z_order Z_monomials Z_generators Z_upTo Z_members Z_lefts Z_vars Z_leadsFound Z_words Z_row Z_work)) hD hS hA [0, 2, 3] rfl
        refine va_callv (va_runV (As := [.int i2]) (rest := []) ⟨hx, hb, hml, hown, hts⟩ (c_ztakeRow (gl X) D cI cL cZ a_Z a_Z_row a_Z_work a_Z_mono a_Z_degree a_Z_generator a_Z_hand a_Z_has a_Z_basis a_Z_rest a_Z_product a_Z_known a_Z_lead a_Z_tail a_Z_word a_Z_vector a_Z_system a_Z_now a_Z_next F Z_thrownCode Z_p Z_n Z_order Z_monomials Z_generators Z_upTo Z_members Z_lefts Z_vars Z_leadsFound Z_words Z_row Z_work i2 H.size Z_work_3 hc) (cwV 1 hts (gwV k_397 k_395 k_396 k_333 k_393) rfl rfl rfl (by decide +kernel) ⟨Nat.le_of_ble_eq_true rfl, Nat.le_of_ble_eq_true rfl⟩) (gpreVW (hP.sub (ws' := (ws_ztakeRow a_Z a_Z_row a_Z_work a_Z_mono a_Z_degree a_Z_generator a_Z_hand a_Z_has a_Z_basis a_Z_rest a_Z_product a_Z_known a_Z_lead a_Z_tail a_Z_word a_Z_vector a_Z_system a_Z_now a_Z_next cI cL cZ Z_thrownCode Z_p Z_n Z_order Z_monomials Z_generators Z_upTo Z_members Z_lefts Z_vars Z_leadsFound Z_words Z_row Z_work)) [0, 2, 3] rfl) hK hN (hD.sub (ws' := (ws_ztakeRow a_Z a_Z_row a_Z_work a_Z_mono a_Z_degree a_Z_generator a_Z_hand a_Z_has a_Z_basis a_Z_rest a_Z_product a_Z_known a_Z_lead a_Z_tail a_Z_word a_Z_vector a_Z_system a_Z_now a_Z_next cI cL cZ Z_thrownCode Z_p Z_n Z_order Z_monomials Z_generators Z_upTo Z_members Z_lefts Z_vars Z_leadsFound Z_words Z_row Z_work)) [0, 2, 3] (by decide) rfl) 5 0 rfl rfl) rfl rfl hl.1 rfl (lv_room (Nat.le_of_ble_eq_true rfl)) d_Z_reduce_33 ⟨Nat.le_of_ble_eq_true rfl, Nat.le_of_ble_eq_true rfl⟩) hS (fun q _ h => hFc q h) hFc (fun _ t H_4 locs ht hvm hw hB hz1 hk1 hS => ?_)
        obtain ⟨hP, hD⟩ := va_join (wr := [(a_Z_has, .inl (cZ, 126, .inl Z_has))]) (w1 := (ws_ztakeRow a_Z a_Z_row a_Z_work a_Z_mono a_Z_degree a_Z_generator a_Z_hand a_Z_has a_Z_basis a_Z_rest a_Z_product a_Z_known a_Z_lead a_Z_tail a_Z_word a_Z_vector a_Z_system a_Z_now a_Z_next cI cL cZ Z_thrownCode Z_p Z_n Z_order Z_monomials Z_generators Z_upTo Z_members Z_lefts Z_vars Z_leadsFound Z_words Z_row Z_work_3)) hP hD [0, 2, 3] [1] rfl rfl (by decide) (by decide) hk1 hFc (by have h9 := hB.1; rw [ht] at h9; exact h9) hB.2.2
        have hP : va_P D classes (ws_zreduce a_Z a_Z_has a_Z_row a_Z_work a_Z_mono a_Z_degree a_Z_generator a_Z_hand a_Z_basis a_Z_rest a_Z_product a_Z_known a_Z_lead a_Z_tail a_Z_word a_Z_vector a_Z_system a_Z_now a_Z_next cI cL cZ Z_thrownCode Z_p Z_n Z_order Z_monomials Z_generators Z_upTo Z_members Z_lefts Z_vars Z_leadsFound Z_words Z_has Z_row Z_work_3) H_4 := hP.sub [1, 0, 2, 3] rfl
        have hD : va_D A (ws_zreduce a_Z a_Z_has a_Z_row a_Z_work a_Z_mono a_Z_degree a_Z_generator a_Z_hand a_Z_basis a_Z_rest a_Z_product a_Z_known a_Z_lead a_Z_tail a_Z_word a_Z_vector a_Z_system a_Z_now a_Z_next cI cL cZ Z_thrownCode Z_p Z_n Z_order Z_monomials Z_generators Z_upTo Z_members Z_lefts Z_vars Z_leadsFound Z_words Z_has Z_row Z_work_3) := hD.sub [1, 0, 2, 3] (by decide) rfl
        refine lv_goto (tgt := 45) hx hb d_Z_reduce_36 (by decide) ?_
        refine lv_iinc (v := (i2 + (-1))) (lv' := [(2, .int (i2 + (-1))), (0, .ref a_Z), (1, .int i1)]) hx hb d_Z_reduce_45 hl (k := 2) rfl rfl (by decide) rfl (fun ls hl => ?_)
        refine lv_goto (tgt := 9) hx hb d_Z_reduce_48 (by decide) ?_
        exact hk9 i1 (i2 + (-1)) Z_work_3 hrun H_4 locs ls hP hD hS (lv_sub hl [1, 2, 0] rfl)
theorem v_zreduce_9 (X : gX) (D : va_G) (cI cL cZ : ClassId) (a_Z a_Z_has a_Z_row a_Z_work a_Z_mono a_Z_degree a_Z_generator a_Z_hand a_Z_basis a_Z_rest a_Z_product a_Z_known a_Z_lead a_Z_tail a_Z_word a_Z_vector a_Z_system a_Z_now a_Z_next : Nat) (A : Nat → Prop) (Z_thrownCode Z_p Z_n Z_order Z_monomials Z_generators Z_upTo Z_members Z_lefts Z_vars Z_leadsFound Z_words : Int32) (Z_has Z_row : Nat → Int32) (r_ : Int32) (Z_work_r : Nat → Int32) (F : Nat) (C0 : gC X c_Z_reduceb (some .int) 3 "RemnantDictionaryModel" gAll) (hK : va_K D classes (gT cI cL cZ) (gs X)) (hA : ∀ q : Nat, (gs X).heap.size ≤ q → A q) (hN : gN (gs X))  : ∀ (n : Nat) (i1 i2 : Int32) (Z_work : Nat → Int32), b_zreduce_9 F Z_monomials Z_p Z_has Z_row n i1 i2 Z_work = some (r_, Z_work_r) → g_zreduce X D cI cL cZ a_Z a_Z_has a_Z_row a_Z_work a_Z_mono a_Z_degree a_Z_generator a_Z_hand a_Z_basis a_Z_rest a_Z_product a_Z_known a_Z_lead a_Z_tail a_Z_word a_Z_vector a_Z_system a_Z_now a_Z_next A Z_thrownCode Z_p Z_n Z_order Z_monomials Z_generators Z_upTo Z_members Z_lefts Z_vars Z_leadsFound Z_words Z_has Z_row r_ Z_work_r 9 [(0, .ref a_Z), (1, .int i1), (2, .int i2)] [] Z_work := by
  intro n
  induction n with
  | zero => intro i1 i2 Z_work hrun; cases hrun
  | succ n ih =>
    intro i1 i2 Z_work hrun
    exact w_zreduce_9 X D cI cL cZ a_Z a_Z_has a_Z_row a_Z_work a_Z_mono a_Z_degree a_Z_generator a_Z_hand a_Z_basis a_Z_rest a_Z_product a_Z_known a_Z_lead a_Z_tail a_Z_word a_Z_vector a_Z_system a_Z_now a_Z_next A Z_thrownCode Z_p Z_n Z_order Z_monomials Z_generators Z_upTo Z_members Z_lefts Z_vars Z_leadsFound Z_words Z_has Z_row r_ Z_work_r F C0 hK hA hN (b_zreduce_9 F Z_monomials Z_p Z_has Z_row n) ih i1 i2 Z_work hrun
set_option maxHeartbeats 4000000 in
set_option maxRecDepth 100000 in
theorem e_zreduce (X : gX) (D : va_G) (cI cL cZ : ClassId) (a_Z a_Z_has a_Z_row a_Z_work a_Z_mono a_Z_degree a_Z_generator a_Z_hand a_Z_basis a_Z_rest a_Z_product a_Z_known a_Z_lead a_Z_tail a_Z_word a_Z_vector a_Z_system a_Z_now a_Z_next : Nat) (A : Nat → Prop) (Z_thrownCode Z_p Z_n Z_order Z_monomials Z_generators Z_upTo Z_members Z_lefts Z_vars Z_leadsFound Z_words : Int32) (Z_has Z_row : Nat → Int32) (r_ : Int32) (Z_work_r : Nat → Int32) (F : Nat) (C0 : gC X c_Z_reduceb (some .int) 3 "RemnantDictionaryModel" gAll) (hK : va_K D classes (gT cI cL cZ) (gs X)) (hA : ∀ q : Nat, (gs X).heap.size ≤ q → A q) (hN : gN (gs X)) (Z_work : Nat → Int32) (hrun : m_zreduce F Z_monomials Z_p Z_has Z_row Z_work = some (r_, Z_work_r)) : g_zreduce X D cI cL cZ a_Z a_Z_has a_Z_row a_Z_work a_Z_mono a_Z_degree a_Z_generator a_Z_hand a_Z_basis a_Z_rest a_Z_product a_Z_known a_Z_lead a_Z_tail a_Z_word a_Z_vector a_Z_system a_Z_now a_Z_next A Z_thrownCode Z_p Z_n Z_order Z_monomials Z_generators Z_upTo Z_members Z_lefts Z_vars Z_leadsFound Z_words Z_has Z_row r_ Z_work_r 0 [(0, .ref a_Z)] [] Z_work := by
  have C1 := C0
  obtain ⟨hx, hb, hr, hml, hown, hts, hlocks⟩ := C1
  unfold m_zreduce at hrun
  intro H locs ls hP hD hS hl
  refine lv_iconst (v := (-1)) hx hb d_Z_reduce_0 (by decide) ?_
  refine lv_istore_n (lv' := [(1, .int (-1)), (0, .ref a_Z)]) hx hb d_Z_reduce_1 rfl hl (by decide) rfl (fun ls hl => ?_)
  refine lv_aload_n hx hb d_Z_reduce_2 rfl (lv_at hl 1 rfl) ?_
  refine va_get (D := D) (ci := 5) (v := .int Z_monomials) (C := "RemnantDictionaryModel") (T := T_Z) (N := 30) hx hb hts iw_Z hown hK hP 0 rfl rfl 4 (by decide) (hts _ k_373) (fun _ h9 => h9) rfl d_Z_reduce_3 ?_
  refine lv_iconst (v := 1) hx hb d_Z_reduce_6 (by decide) ?_
  refine lv_isub hx hb d_Z_reduce_7 ?_
  refine lv_istore_n (lv' := [(2, .int (Z_monomials - 1)), (1, .int (-1)), (0, .ref a_Z)]) hx hb d_Z_reduce_8 rfl hl (by decide) rfl (fun ls hl => ?_)
  exact v_zreduce_9 X D cI cL cZ a_Z a_Z_has a_Z_row a_Z_work a_Z_mono a_Z_degree a_Z_generator a_Z_hand a_Z_basis a_Z_rest a_Z_product a_Z_known a_Z_lead a_Z_tail a_Z_word a_Z_vector a_Z_system a_Z_now a_Z_next A Z_thrownCode Z_p Z_n Z_order Z_monomials Z_generators Z_upTo Z_members Z_lefts Z_vars Z_leadsFound Z_words Z_has Z_row r_ Z_work_r F C0 hK hA hN  F (-1) (Z_monomials - 1) Z_work hrun H locs ls hP hD hS (lv_sub hl [2, 1, 0] rfl)
set_option maxHeartbeats 4000000 in
set_option maxRecDepth 100000 in
theorem c_zreduce (l : Launch) (D : va_G) (cI cL cZ : ClassId) (a_Z a_Z_has a_Z_row a_Z_work a_Z_mono a_Z_degree a_Z_generator a_Z_hand a_Z_basis a_Z_rest a_Z_product a_Z_known a_Z_lead a_Z_tail a_Z_word a_Z_vector a_Z_system a_Z_now a_Z_next : Nat) (F : Nat) (Z_thrownCode Z_p Z_n Z_order Z_monomials Z_generators Z_upTo Z_members Z_lefts Z_vars Z_leadsFound Z_words : Int32) (Z_has Z_row Z_work : Nat → Int32) (sz : Nat) (r_ : Int32) (Z_work_r : Nat → Int32) (hrun : m_zreduce F Z_monomials Z_p Z_has Z_row Z_work = some (r_, Z_work_r)) : Met l y_Z_reduce (.code y_Z_reduce c_Z_reduceb 3 (some .int) :: gAll) rm_zreduce (va_Pc [.ref a_Z] (gPW D (gT cI cL cZ) (ws_zreduce a_Z a_Z_has a_Z_row a_Z_work a_Z_mono a_Z_degree a_Z_generator a_Z_hand a_Z_basis a_Z_rest a_Z_product a_Z_known a_Z_lead a_Z_tail a_Z_word a_Z_vector a_Z_system a_Z_now a_Z_next cI cL cZ Z_thrownCode Z_p Z_n Z_order Z_monomials Z_generators Z_upTo Z_members Z_lefts Z_vars Z_leadsFound Z_words Z_has Z_row Z_work) sz)) (va_Qi (fun r (_ : Unit) => r = r_) (gB D (gT cI cL cZ) (va_A (ws_zreduce a_Z a_Z_has a_Z_row a_Z_work a_Z_mono a_Z_degree a_Z_generator a_Z_hand a_Z_basis a_Z_rest a_Z_product a_Z_known a_Z_lead a_Z_tail a_Z_word a_Z_vector a_Z_system a_Z_now a_Z_next cI cL cZ Z_thrownCode Z_p Z_n Z_order Z_monomials Z_generators Z_upTo Z_members Z_lefts Z_vars Z_leadsFound Z_words Z_has Z_row Z_work) sz) (ws_zreduce a_Z a_Z_has a_Z_row a_Z_work a_Z_mono a_Z_degree a_Z_generator a_Z_hand a_Z_basis a_Z_rest a_Z_product a_Z_known a_Z_lead a_Z_tail a_Z_word a_Z_vector a_Z_system a_Z_now a_Z_next cI cL cZ Z_thrownCode Z_p Z_n Z_order Z_monomials Z_generators Z_upTo Z_members Z_lefts Z_vars Z_leadsFound Z_words Z_has Z_row Z_work_r)) (va_A (ws_zreduce a_Z a_Z_has a_Z_row a_Z_work a_Z_mono a_Z_degree a_Z_generator a_Z_hand a_Z_basis a_Z_rest a_Z_product a_Z_known a_Z_lead a_Z_tail a_Z_word a_Z_vector a_Z_system a_Z_now a_Z_next cI cL cZ Z_thrownCode Z_p Z_n Z_order Z_monomials Z_generators Z_upTo Z_members Z_lefts Z_vars Z_leadsFound Z_words Z_has Z_row Z_work) sz)) 0 0 (va_A (ws_zreduce a_Z a_Z_has a_Z_row a_Z_work a_Z_mono a_Z_degree a_Z_generator a_Z_hand a_Z_basis a_Z_rest a_Z_product a_Z_known a_Z_lead a_Z_tail a_Z_word a_Z_vector a_Z_system a_Z_now a_Z_next cI cL cZ Z_thrownCode Z_p Z_n Z_order Z_monomials Z_generators Z_upTo Z_members Z_lefts Z_vars Z_leadsFound Z_words Z_has Z_row Z_work) sz) := by
  refine Met.ofW (cc := c_Z_reduceb) (maxL := 3) (ret := (some .int)) (by decide +kernel) rfl ?_
  intro p e s m args below meth c s₁ B hml hv
  obtain ⟨rfl, hsz, hP, hK, hN, hD0⟩ := hv
  subst hsz
  have hD := hD0.self (sz := s.heap.size)
  have hl := lv_entry ([.ref a_Z]) (n := 3) (Nat.le_of_ble_eq_true rfl)
  rw [lg_entry_eq]
  generalize (lg_sl ([.ref a_Z]) ++ List.replicate (3 - (lg_sl ([.ref a_Z])).length) Slot.unset).toArray = ls at hl ⊢
  exact e_zreduce (p, l, e, s, m, ([.ref a_Z] : List Value).toArray, below, meth, c) D cI cL cZ a_Z a_Z_has a_Z_row a_Z_work a_Z_mono a_Z_degree a_Z_generator a_Z_hand a_Z_basis a_Z_rest a_Z_product a_Z_known a_Z_lead a_Z_tail a_Z_word a_Z_vector a_Z_system a_Z_now a_Z_next (va_A (ws_zreduce a_Z a_Z_has a_Z_row a_Z_work a_Z_mono a_Z_degree a_Z_generator a_Z_hand a_Z_basis a_Z_rest a_Z_product a_Z_known a_Z_lead a_Z_tail a_Z_word a_Z_vector a_Z_system a_Z_now a_Z_next cI cL cZ Z_thrownCode Z_p Z_n Z_order Z_monomials Z_generators Z_upTo Z_members Z_lefts Z_vars Z_leadsFound Z_words Z_has Z_row Z_work) s.heap.size) Z_thrownCode Z_p Z_n Z_order Z_monomials Z_generators Z_upTo Z_members Z_lefts Z_vars Z_leadsFound Z_words Z_has Z_row r_ Z_work_r F ⟨B.exec, B.bytes, B.returns, hml, findClass_of_methodNamed B.named, fun w h => atoms_spec (ws := (.code y_Z_reduce c_Z_reduceb 3 (some .int) :: gAll)) B.pre w (List.mem_cons_of_mem _ h), B.notSynchronized⟩ hK (fun q h => Or.inr h) hN Z_work hrun s.heap [] ls hP hD va_S.rf hl
theorem d_Z_comes_0 : decode c_Z_comesb 0 = .ok (.aload_n 0, 1) := by decide +kernel
theorem d_Z_comes_1 : decode c_Z_comesb 1 = .ok (.invokevirtual 128, 3) := by decide +kernel
theorem d_Z_comes_4 : decode c_Z_comesb 4 = .ok (.istore_n 1, 1) := by decide +kernel
theorem d_Z_comes_5 : decode c_Z_comesb 5 = .ok (.iload_n 1, 1) := by decide +kernel
theorem d_Z_comes_6 : decode c_Z_comesb 6 = .ok (.ifCond .ge 5, 3) := by decide +kernel
theorem d_Z_comes_9 : decode c_Z_comesb 9 = .ok (.iconst 0, 1) := by decide +kernel
theorem d_Z_comes_10 : decode c_Z_comesb 10 = .ok (.ireturn, 1) := by decide +kernel
theorem d_Z_comes_11 : decode c_Z_comesb 11 = .ok (.aload_n 0, 1) := by decide +kernel
theorem d_Z_comes_12 : decode c_Z_comesb 12 = .ok (.aload_n 0, 1) := by decide +kernel
theorem d_Z_comes_13 : decode c_Z_comesb 13 = .ok (.getfield 51, 3) := by decide +kernel
theorem d_Z_comes_16 : decode c_Z_comesb 16 = .ok (.iload_n 1, 1) := by decide +kernel
theorem d_Z_comes_17 : decode c_Z_comesb 17 = .ok (.iaload, 1) := by decide +kernel
theorem d_Z_comes_18 : decode c_Z_comesb 18 = .ok (.invokevirtual 132, 3) := by decide +kernel
theorem d_Z_comes_21 : decode c_Z_comesb 21 = .ok (.i2l, 1) := by decide +kernel
theorem d_Z_comes_22 : decode c_Z_comesb 22 = .ok (.lstore_n 2, 1) := by decide +kernel
theorem d_Z_comes_23 : decode c_Z_comesb 23 = .ok (.iconst 0, 1) := by decide +kernel
theorem d_Z_comes_24 : decode c_Z_comesb 24 = .ok (.istore 4, 2) := by decide +kernel
theorem d_Z_comes_26 : decode c_Z_comesb 26 = .ok (.iload 4, 2) := by decide +kernel
theorem d_Z_comes_28 : decode c_Z_comesb 28 = .ok (.aload_n 0, 1) := by decide +kernel
theorem d_Z_comes_29 : decode c_Z_comesb 29 = .ok (.getfield 22, 3) := by decide +kernel
theorem d_Z_comes_32 : decode c_Z_comesb 32 = .ok (.if_icmp .ge 38, 3) := by decide +kernel
theorem d_Z_comes_35 : decode c_Z_comesb 35 = .ok (.aload_n 0, 1) := by decide +kernel
theorem d_Z_comes_36 : decode c_Z_comesb 36 = .ok (.getfield 48, 3) := by decide +kernel
theorem d_Z_comes_39 : decode c_Z_comesb 39 = .ok (.bipush 126, 2) := by decide +kernel
theorem d_Z_comes_41 : decode c_Z_comesb 41 = .ok (.iload_n 1, 1) := by decide +kernel
theorem d_Z_comes_42 : decode c_Z_comesb 42 = .ok (.imul, 1) := by decide +kernel
theorem d_Z_comes_43 : decode c_Z_comesb 43 = .ok (.iload 4, 2) := by decide +kernel
theorem d_Z_comes_45 : decode c_Z_comesb 45 = .ok (.iadd, 1) := by decide +kernel
theorem d_Z_comes_46 : decode c_Z_comesb 46 = .ok (.aload_n 0, 1) := by decide +kernel
theorem d_Z_comes_47 : decode c_Z_comesb 47 = .ok (.getfield 51, 3) := by decide +kernel
theorem d_Z_comes_50 : decode c_Z_comesb 50 = .ok (.iload 4, 2) := by decide +kernel
theorem d_Z_comes_52 : decode c_Z_comesb 52 = .ok (.iaload, 1) := by decide +kernel
theorem d_Z_comes_53 : decode c_Z_comesb 53 = .ok (.i2l, 1) := by decide +kernel
theorem d_Z_comes_54 : decode c_Z_comesb 54 = .ok (.lload_n 2, 1) := by decide +kernel
theorem d_Z_comes_55 : decode c_Z_comesb 55 = .ok (.lmul, 1) := by decide +kernel
theorem d_Z_comes_56 : decode c_Z_comesb 56 = .ok (.aload_n 0, 1) := by decide +kernel
theorem d_Z_comes_57 : decode c_Z_comesb 57 = .ok (.getfield 13, 3) := by decide +kernel
theorem d_Z_comes_60 : decode c_Z_comesb 60 = .ok (.i2l, 1) := by decide +kernel
theorem d_Z_comes_61 : decode c_Z_comesb 61 = .ok (.lrem, 1) := by decide +kernel
theorem d_Z_comes_62 : decode c_Z_comesb 62 = .ok (.l2i, 1) := by decide +kernel
theorem d_Z_comes_63 : decode c_Z_comesb 63 = .ok (.iastore, 1) := by decide +kernel
theorem d_Z_comes_64 : decode c_Z_comesb 64 = .ok (.iinc 4 1, 3) := by decide +kernel
theorem d_Z_comes_67 : decode c_Z_comesb 67 = .ok (.goto (-41), 3) := by decide +kernel
theorem d_Z_comes_70 : decode c_Z_comesb 70 = .ok (.aload_n 0, 1) := by decide +kernel
theorem d_Z_comes_71 : decode c_Z_comesb 71 = .ok (.getfield 44, 3) := by decide +kernel
theorem d_Z_comes_74 : decode c_Z_comesb 74 = .ok (.iload_n 1, 1) := by decide +kernel
theorem d_Z_comes_75 : decode c_Z_comesb 75 = .ok (.iconst 1, 1) := by decide +kernel
theorem d_Z_comes_76 : decode c_Z_comesb 76 = .ok (.bastore, 1) := by decide +kernel
theorem d_Z_comes_77 : decode c_Z_comesb 77 = .ok (.iconst 1, 1) := by decide +kernel
theorem d_Z_comes_78 : decode c_Z_comesb 78 = .ok (.ireturn, 1) := by decide +kernel
abbrev ws_zcomes (a_Z a_Z_has a_Z_row a_Z_work a_Z_mono a_Z_degree a_Z_generator a_Z_hand a_Z_basis a_Z_rest a_Z_product a_Z_known a_Z_lead a_Z_tail a_Z_word a_Z_vector a_Z_system a_Z_now a_Z_next : Nat) (cI cL cZ : ClassId) (Z_thrownCode Z_p Z_n Z_order Z_monomials Z_generators Z_upTo Z_members Z_lefts Z_vars Z_leadsFound Z_words : Int32) (Z_has Z_row Z_work : Nat → Int32) : va_W := [(a_Z, .inr (5, [.int Z_thrownCode, .int Z_p, .int Z_n, .int Z_order, .int Z_monomials, .ref a_Z_mono, .ref a_Z_degree, .int Z_generators, .ref a_Z_generator, .ref a_Z_hand, .int Z_upTo, .ref a_Z_has, .ref a_Z_row, .ref a_Z_work, .ref a_Z_basis, .int Z_members, .int Z_lefts, .int Z_vars, .ref a_Z_rest, .ref a_Z_product, .ref a_Z_known, .int Z_leadsFound, .ref a_Z_lead, .ref a_Z_tail, .int Z_words, .ref a_Z_word, .ref a_Z_vector, .ref a_Z_system, .ref a_Z_now, .ref a_Z_next])), (a_Z_has, .inl (cZ, 126, .inl Z_has)), (a_Z_row, .inl (cI, 15876, .inl Z_row)), (a_Z_work, .inl (cI, 126, .inl Z_work))]
abbrev rm_zcomes : Room := { frames := 2, cells := 0, slots := 0, locals := 46 }
abbrev g_zcomes (X : gX) (D : va_G) (cI cL cZ : ClassId) (a_Z a_Z_has a_Z_row a_Z_work a_Z_mono a_Z_degree a_Z_generator a_Z_hand a_Z_basis a_Z_rest a_Z_product a_Z_known a_Z_lead a_Z_tail a_Z_word a_Z_vector a_Z_system a_Z_now a_Z_next : Nat) (A : Nat → Prop) (Z_thrownCode Z_p Z_n Z_order Z_monomials Z_generators Z_upTo Z_members Z_lefts Z_vars Z_leadsFound Z_words r_ : Int32) (Z_has_r Z_row_r Z_work_r : Nat → Int32) (pc : Nat) (lv : List (Nat × Value)) (st : List Value) (Z_has Z_row Z_work : Nat → Int32) : Prop := ∀ (H : Heap) (locs : List Loc) (ls : Array Slot), va_P D classes (ws_zcomes a_Z a_Z_has a_Z_row a_Z_work a_Z_mono a_Z_degree a_Z_generator a_Z_hand a_Z_basis a_Z_rest a_Z_product a_Z_known a_Z_lead a_Z_tail a_Z_word a_Z_vector a_Z_system a_Z_now a_Z_next cI cL cZ Z_thrownCode Z_p Z_n Z_order Z_monomials Z_generators Z_upTo Z_members Z_lefts Z_vars Z_leadsFound Z_words Z_has Z_row Z_work) H → va_D A (ws_zcomes a_Z a_Z_has a_Z_row a_Z_work a_Z_mono a_Z_degree a_Z_generator a_Z_hand a_Z_basis a_Z_rest a_Z_product a_Z_known a_Z_lead a_Z_tail a_Z_word a_Z_vector a_Z_system a_Z_now a_Z_next cI cL cZ Z_thrownCode Z_p Z_n Z_order Z_monomials Z_generators Z_upTo Z_members Z_lefts Z_vars Z_leadsFound Z_words Z_has Z_row Z_work) → va_S A (gs X).heap H locs → lv_has ls 5 lv → gWW X rm_zcomes H locs 0 0 (MQ (gbl X) (va_Qi (fun r (_ : Unit) => r = r_) (gB D (gT cI cL cZ) A (ws_zcomes a_Z a_Z_has a_Z_row a_Z_work a_Z_mono a_Z_degree a_Z_generator a_Z_hand a_Z_basis a_Z_rest a_Z_product a_Z_known a_Z_lead a_Z_tail a_Z_word a_Z_vector a_Z_system a_Z_now a_Z_next cI cL cZ Z_thrownCode Z_p Z_n Z_order Z_monomials Z_generators Z_upTo Z_members Z_lefts Z_vars Z_leadsFound Z_words Z_has_r Z_row_r Z_work_r)) A) (ga X) (gs X) 0 0 A) (F0 (gm X) pc ls st)
set_option maxHeartbeats 4000000 in
set_option maxRecDepth 100000 in
theorem w_zcomes_26 (X : gX) (D : va_G) (cI cL cZ : ClassId) (a_Z a_Z_has a_Z_row a_Z_work a_Z_mono a_Z_degree a_Z_generator a_Z_hand a_Z_basis a_Z_rest a_Z_product a_Z_known a_Z_lead a_Z_tail a_Z_word a_Z_vector a_Z_system a_Z_now a_Z_next : Nat) (A : Nat → Prop) (Z_thrownCode Z_p Z_n Z_order Z_monomials Z_generators Z_upTo Z_members Z_lefts Z_vars Z_leadsFound Z_words r_ : Int32) (Z_has_r Z_row_r Z_work_r : Nat → Int32) (F : Nat) (C0 : gC X c_Z_comesb (some .boolean) 5 "RemnantDictionaryModel" gAll) (hK : va_K D classes (gT cI cL cZ) (gs X)) (hA : ∀ q : Nat, (gs X).heap.size ≤ q → A q) (hN : gN (gs X)) (k26 : Int32 → Int64 → Int32 → (Nat → Int32) → (Nat → Int32) → (Nat → Int32) → Option (Int32 × (Nat → Int32) × (Nat → Int32) × (Nat → Int32))) (hk26 : ∀ (i1 : Int32) (l2 : Int64) (i4 : Int32) (Z_has Z_row Z_work : Nat → Int32), k26 i1 l2 i4 Z_has Z_row Z_work = some (r_, Z_has_r, Z_row_r, Z_work_r) → g_zcomes X D cI cL cZ a_Z a_Z_has a_Z_row a_Z_work a_Z_mono a_Z_degree a_Z_generator a_Z_hand a_Z_basis a_Z_rest a_Z_product a_Z_known a_Z_lead a_Z_tail a_Z_word a_Z_vector a_Z_system a_Z_now a_Z_next A Z_thrownCode Z_p Z_n Z_order Z_monomials Z_generators Z_upTo Z_members Z_lefts Z_vars Z_leadsFound Z_words r_ Z_has_r Z_row_r Z_work_r 26 [(0, .ref a_Z), (1, .int i1), (2, .long l2), (4, .int i4)] [] Z_has Z_row Z_work) (i1 : Int32) (l2 : Int64) (i4 : Int32) (Z_has Z_row Z_work : Nat → Int32) (hrun : s_zcomes_26 F Z_monomials Z_p k26 i1 l2 i4 Z_has Z_row Z_work = some (r_, Z_has_r, Z_row_r, Z_work_r)) : g_zcomes X D cI cL cZ a_Z a_Z_has a_Z_row a_Z_work a_Z_mono a_Z_degree a_Z_generator a_Z_hand a_Z_basis a_Z_rest a_Z_product a_Z_known a_Z_lead a_Z_tail a_Z_word a_Z_vector a_Z_system a_Z_now a_Z_next A Z_thrownCode Z_p Z_n Z_order Z_monomials Z_generators Z_upTo Z_members Z_lefts Z_vars Z_leadsFound Z_words r_ Z_has_r Z_row_r Z_work_r 26 [(0, .ref a_Z), (1, .int i1), (2, .long l2), (4, .int i4)] [] Z_has Z_row Z_work := by
  have C1 := C0
  obtain ⟨hx, hb, hr, hml, hown, hts, hlocks⟩ := C1
  unfold s_zcomes_26 at hrun
  intro H locs ls hP hD hS hl
  refine lv_iload hx hb d_Z_comes_26 (lv_at hl 3 rfl) ?_
  refine lv_aload_n hx hb d_Z_comes_28 rfl (lv_at hl 0 rfl) ?_
  refine va_get (D := D) (ci := 5) (v := .int Z_monomials) (C := "RemnantDictionaryModel") (T := T_Z) (N := 30) hx hb hts iw_Z hown hK hP 0 rfl rfl 4 (by decide) (hts _ k_373) (fun _ h9 => h9) rfl d_Z_comes_29 ?_
  refine g_icmp_ge (tgt := 70) hx hb d_Z_comes_32 (by decide) hrun (fun _ hrun => ?_) (fun _ hrun => ?_)
  · refine lv_aload_n hx hb d_Z_comes_70 rfl (lv_at hl 0 rfl) ?_
    refine va_get (D := D) (ci := 5) (v := .ref a_Z_has) (C := "RemnantDictionaryModel") (T := T_Z) (N := 30) hx hb hts iw_Z hown hK hP 0 rfl rfl 11 (by decide) (hts _ k_394) (fun _ h9 => h9) rfl d_Z_comes_71 ?_
    refine lv_iload_n hx hb d_Z_comes_74 rfl (lv_at hl 1 rfl) ?_
    refine lv_iconst (v := 1) hx hb d_Z_comes_75 (by decide) ?_
    refine g_zast hx hb hK hP hD hS 1 2 rfl rfl hrun d_Z_comes_76 (fun Z_has_1 hrun H locs (hP : va_P D classes (ws_zcomes a_Z a_Z_has a_Z_row a_Z_work a_Z_mono a_Z_degree a_Z_generator a_Z_hand a_Z_basis a_Z_rest a_Z_product a_Z_known a_Z_lead a_Z_tail a_Z_word a_Z_vector a_Z_system a_Z_now a_Z_next cI cL cZ Z_thrownCode Z_p Z_n Z_order Z_monomials Z_generators Z_upTo Z_members Z_lefts Z_vars Z_leadsFound Z_words Z_has_1 Z_row Z_work) H) (hD : va_D A (ws_zcomes a_Z a_Z_has a_Z_row a_Z_work a_Z_mono a_Z_degree a_Z_generator a_Z_hand a_Z_basis a_Z_rest a_Z_product a_Z_known a_Z_lead a_Z_tail a_Z_word a_Z_vector a_Z_system a_Z_now a_Z_next cI cL cZ Z_thrownCode Z_p Z_n Z_order Z_monomials Z_generators Z_upTo Z_members Z_lefts Z_vars Z_leadsFound Z_words Z_has_1 Z_row Z_work)) hS => ?_)
    refine lv_iconst (v := 1) hx hb d_Z_comes_77 (by decide) ?_
    cases hrun
    exact W.zret hx hb hr rfl (fun t ht hW => ⟨⟨_, (), rfl, rfl, gB_of ht hW.alike hP hK hD⟩, hS.F ht⟩) hS.2.2 d_Z_comes_78
  · refine lv_aload_n hx hb d_Z_comes_35 rfl (lv_at hl 0 rfl) ?_
    refine va_get (D := D) (ci := 5) (v := .ref a_Z_row) (C := "RemnantDictionaryModel") (T := T_Z) (N := 30) hx hb hts iw_Z hown hK hP 0 rfl rfl 12 (by decide) (hts _ k_392) (fun _ h9 => h9) rfl d_Z_comes_36 ?_
    refine lv_bipush (v := 126) hx hb d_Z_comes_39 (by decide) ?_
    refine lv_iload_n hx hb d_Z_comes_41 rfl (lv_at hl 1 rfl) ?_
    refine lv_imul hx hb d_Z_comes_42 ?_
    refine lv_iload hx hb d_Z_comes_43 (lv_at hl 3 rfl) ?_
    refine lv_iadd hx hb d_Z_comes_45 ?_
    refine lv_aload_n hx hb d_Z_comes_46 rfl (lv_at hl 0 rfl) ?_
    refine va_get (D := D) (ci := 5) (v := .ref a_Z_work) (C := "RemnantDictionaryModel") (T := T_Z) (N := 30) hx hb hts iw_Z hown hK hP 0 rfl rfl 13 (by decide) (hts _ k_391) (fun _ h9 => h9) rfl d_Z_comes_47 ?_
    refine lv_iload hx hb d_Z_comes_50 (lv_at hl 3 rfl) ?_
    refine g_iald hx hb hK hP 3 0 rfl rfl hrun d_Z_comes_52 (fun x_2 hrun => ?_)
    refine lv_i2l hx hb d_Z_comes_53 rfl ?_
    refine lv_lload_n hx hb d_Z_comes_54 rfl (lv_at hl 2 rfl) ?_
    refine lv_lmul hx hb d_Z_comes_55 ?_
    refine lv_aload_n hx hb d_Z_comes_56 rfl (lv_at hl 0 rfl) ?_
    refine va_get (D := D) (ci := 5) (v := .int Z_p) (C := "RemnantDictionaryModel") (T := T_Z) (N := 30) hx hb hts iw_Z hown hK hP 0 rfl rfl 1 (by decide) (hts _ k_385) (fun _ h9 => h9) rfl d_Z_comes_57 ?_
    refine lv_i2l hx hb d_Z_comes_60 rfl ?_
    refine g_lrem hx hb d_Z_comes_61 hrun (fun hrun => ?_)
    refine lv_l2i hx hb d_Z_comes_62 rfl ?_
    refine g_iast hx hb hK hP hD hS 2 0 rfl rfl hrun d_Z_comes_63 (fun Z_row_3 hrun H locs (hP : va_P D classes (ws_zcomes a_Z a_Z_has a_Z_row a_Z_work a_Z_mono a_Z_degree a_Z_generator a_Z_hand a_Z_basis a_Z_rest a_Z_product a_Z_known a_Z_lead a_Z_tail a_Z_word a_Z_vector a_Z_system a_Z_now a_Z_next cI cL cZ Z_thrownCode Z_p Z_n Z_order Z_monomials Z_generators Z_upTo Z_members Z_lefts Z_vars Z_leadsFound Z_words Z_has Z_row_3 Z_work) H) (hD : va_D A (ws_zcomes a_Z a_Z_has a_Z_row a_Z_work a_Z_mono a_Z_degree a_Z_generator a_Z_hand a_Z_basis a_Z_rest a_Z_product a_Z_known a_Z_lead a_Z_tail a_Z_word a_Z_vector a_Z_system a_Z_now a_Z_next cI cL cZ Z_thrownCode Z_p Z_n Z_order Z_monomials Z_generators Z_upTo Z_members Z_lefts Z_vars Z_leadsFound Z_words Z_has Z_row_3 Z_work)) hS => ?_)
    refine lv_iinc (v := (i4 + 1)) (lv' := [(4, .int (i4 + 1)), (0, .ref a_Z), (1, .int i1), (2, .long l2)]) hx hb d_Z_comes_64 hl (k := 3) rfl rfl (by decide) rfl (fun ls hl => ?_)
    refine lv_goto (tgt := 26) hx hb d_Z_comes_67 (by decide) ?_
    exact hk26 i1 l2 (i4 + 1) Z_has Z_row_3 Z_work hrun H locs ls hP hD hS (lv_sub hl [1, 2, 3, 0] rfl)
theorem v_zcomes_26 (X : gX) (D : va_G) (cI cL cZ : ClassId) (a_Z a_Z_has a_Z_row a_Z_work a_Z_mono a_Z_degree a_Z_generator a_Z_hand a_Z_basis a_Z_rest a_Z_product a_Z_known a_Z_lead a_Z_tail a_Z_word a_Z_vector a_Z_system a_Z_now a_Z_next : Nat) (A : Nat → Prop) (Z_thrownCode Z_p Z_n Z_order Z_monomials Z_generators Z_upTo Z_members Z_lefts Z_vars Z_leadsFound Z_words r_ : Int32) (Z_has_r Z_row_r Z_work_r : Nat → Int32) (F : Nat) (C0 : gC X c_Z_comesb (some .boolean) 5 "RemnantDictionaryModel" gAll) (hK : va_K D classes (gT cI cL cZ) (gs X)) (hA : ∀ q : Nat, (gs X).heap.size ≤ q → A q) (hN : gN (gs X))  : ∀ (n : Nat) (i1 : Int32) (l2 : Int64) (i4 : Int32) (Z_has Z_row Z_work : Nat → Int32), b_zcomes_26 F Z_monomials Z_p n i1 l2 i4 Z_has Z_row Z_work = some (r_, Z_has_r, Z_row_r, Z_work_r) → g_zcomes X D cI cL cZ a_Z a_Z_has a_Z_row a_Z_work a_Z_mono a_Z_degree a_Z_generator a_Z_hand a_Z_basis a_Z_rest a_Z_product a_Z_known a_Z_lead a_Z_tail a_Z_word a_Z_vector a_Z_system a_Z_now a_Z_next A Z_thrownCode Z_p Z_n Z_order Z_monomials Z_generators Z_upTo Z_members Z_lefts Z_vars Z_leadsFound Z_words r_ Z_has_r Z_row_r Z_work_r 26 [(0, .ref a_Z), (1, .int i1), (2, .long l2), (4, .int i4)] [] Z_has Z_row Z_work := by
  intro n
  induction n with
  | zero => intro i1 l2 i4 Z_has Z_row Z_work hrun; cases hrun
  | succ n ih =>
    intro i1 l2 i4 Z_has Z_row Z_work hrun
    exact w_zcomes_26 X D cI cL cZ a_Z a_Z_has a_Z_row a_Z_work a_Z_mono a_Z_degree a_Z_generator a_Z_hand a_Z_basis a_Z_rest a_Z_product a_Z_known a_Z_lead a_Z_tail a_Z_word a_Z_vector a_Z_system a_Z_now a_Z_next A Z_thrownCode Z_p Z_n Z_order Z_monomials Z_generators Z_upTo Z_members Z_lefts Z_vars Z_leadsFound Z_words r_ Z_has_r Z_row_r Z_work_r F C0 hK hA hN (b_zcomes_26 F Z_monomials Z_p n) ih i1 l2 i4 Z_has Z_row Z_work hrun
set_option maxHeartbeats 4000000 in
set_option maxRecDepth 100000 in
theorem e_zcomes (X : gX) (D : va_G) (cI cL cZ : ClassId) (a_Z a_Z_has a_Z_row a_Z_work a_Z_mono a_Z_degree a_Z_generator a_Z_hand a_Z_basis a_Z_rest a_Z_product a_Z_known a_Z_lead a_Z_tail a_Z_word a_Z_vector a_Z_system a_Z_now a_Z_next : Nat) (A : Nat → Prop) (Z_thrownCode Z_p Z_n Z_order Z_monomials Z_generators Z_upTo Z_members Z_lefts Z_vars Z_leadsFound Z_words r_ : Int32) (Z_has_r Z_row_r Z_work_r : Nat → Int32) (F : Nat) (C0 : gC X c_Z_comesb (some .boolean) 5 "RemnantDictionaryModel" gAll) (hK : va_K D classes (gT cI cL cZ) (gs X)) (hA : ∀ q : Nat, (gs X).heap.size ≤ q → A q) (hN : gN (gs X)) (Z_has Z_row Z_work : Nat → Int32) (hrun : m_zcomes F Z_monomials Z_p Z_has Z_row Z_work = some (r_, Z_has_r, Z_row_r, Z_work_r)) : g_zcomes X D cI cL cZ a_Z a_Z_has a_Z_row a_Z_work a_Z_mono a_Z_degree a_Z_generator a_Z_hand a_Z_basis a_Z_rest a_Z_product a_Z_known a_Z_lead a_Z_tail a_Z_word a_Z_vector a_Z_system a_Z_now a_Z_next A Z_thrownCode Z_p Z_n Z_order Z_monomials Z_generators Z_upTo Z_members Z_lefts Z_vars Z_leadsFound Z_words r_ Z_has_r Z_row_r Z_work_r 0 [(0, .ref a_Z)] [] Z_has Z_row Z_work := by
  have C1 := C0
  obtain ⟨hx, hb, hr, hml, hown, hts, hlocks⟩ := C1
  unfold m_zcomes at hrun
  intro H locs ls hP hD hS hl
  refine lv_aload_n hx hb d_Z_comes_0 rfl (lv_at hl 0 rfl) ?_
  obtain ⟨r_1, Z_work_2, hc, hrun⟩ := bd2_s hrun
  have hFc := va_free (wc := (ws_zreduce a_Z a_Z_has a_Z_row a_Z_work a_Z_mono a_Z_degree a_Z_generator a_Z_hand a_Z_basis a_Z_rest a_Z_product a_Z_known a_Z_lead a_Z_tail a_Z_word a_Z_vector a_Z_system a_Z_now a_Z_next cI cL cZ Z_thrownCode Z_p Z_n Z_order Z_monomials Z_generators Z_upTo Z_members Z_lefts Z_vars Z_leadsFound Z_words Z_has Z_row Z_work)) hD hS hA [0, 1, 2, 3] rfl
  refine va_calli (va_runV (As := []) (rest := []) ⟨hx, hb, hml, hown, hts⟩ (c_zreduce (gl X) D cI cL cZ a_Z a_Z_has a_Z_row a_Z_work a_Z_mono a_Z_degree a_Z_generator a_Z_hand a_Z_basis a_Z_rest a_Z_product a_Z_known a_Z_lead a_Z_tail a_Z_word a_Z_vector a_Z_system a_Z_now a_Z_next F Z_thrownCode Z_p Z_n Z_order Z_monomials Z_generators Z_upTo Z_members Z_lefts Z_vars Z_leadsFound Z_words Z_has Z_row Z_work H.size r_1 Z_work_2 hc) (cwV 0 hts (gwV k_402 k_400 k_401 k_333 k_398) rfl rfl rfl (by decide +kernel) ⟨Nat.le_of_ble_eq_true rfl, Nat.le_of_ble_eq_true rfl⟩) (gpreVW (hP.sub (ws' := (ws_zreduce a_Z a_Z_has a_Z_row a_Z_work a_Z_mono a_Z_degree a_Z_generator a_Z_hand a_Z_basis a_Z_rest a_Z_product a_Z_known a_Z_lead a_Z_tail a_Z_word a_Z_vector a_Z_system a_Z_now a_Z_next cI cL cZ Z_thrownCode Z_p Z_n Z_order Z_monomials Z_generators Z_upTo Z_members Z_lefts Z_vars Z_leadsFound Z_words Z_has Z_row Z_work)) [0, 1, 2, 3] rfl) hK hN (hD.sub (ws' := (ws_zreduce a_Z a_Z_has a_Z_row a_Z_work a_Z_mono a_Z_degree a_Z_generator a_Z_hand a_Z_basis a_Z_rest a_Z_product a_Z_known a_Z_lead a_Z_tail a_Z_word a_Z_vector a_Z_system a_Z_now a_Z_next cI cL cZ Z_thrownCode Z_p Z_n Z_order Z_monomials Z_generators Z_upTo Z_members Z_lefts Z_vars Z_leadsFound Z_words Z_has Z_row Z_work)) [0, 1, 2, 3] (by decide) rfl) 5 0 rfl rfl) rfl rfl hl.1 rfl (lv_room (Nat.le_of_ble_eq_true rfl)) d_Z_comes_1 ⟨Nat.le_of_ble_eq_true rfl, Nat.le_of_ble_eq_true rfl⟩) hS (fun q _ h => hFc q h) hFc (fun r_1x _ t H_3 locs ht hvm hw hB hz1 hk1 hS => ?_)
  rw [hw]
  obtain ⟨hP, hD⟩ := va_join (wr := []) (w1 := (ws_zreduce a_Z a_Z_has a_Z_row a_Z_work a_Z_mono a_Z_degree a_Z_generator a_Z_hand a_Z_basis a_Z_rest a_Z_product a_Z_known a_Z_lead a_Z_tail a_Z_word a_Z_vector a_Z_system a_Z_now a_Z_next cI cL cZ Z_thrownCode Z_p Z_n Z_order Z_monomials Z_generators Z_upTo Z_members Z_lefts Z_vars Z_leadsFound Z_words Z_has Z_row Z_work_2)) hP hD [0, 1, 2, 3] [] rfl rfl (by decide) (by decide) hk1 hFc (by have h9 := hB.1; rw [ht] at h9; exact h9) hB.2.2
  have hP : va_P D classes (ws_zcomes a_Z a_Z_has a_Z_row a_Z_work a_Z_mono a_Z_degree a_Z_generator a_Z_hand a_Z_basis a_Z_rest a_Z_product a_Z_known a_Z_lead a_Z_tail a_Z_word a_Z_vector a_Z_system a_Z_now a_Z_next cI cL cZ Z_thrownCode Z_p Z_n Z_order Z_monomials Z_generators Z_upTo Z_members Z_lefts Z_vars Z_leadsFound Z_words Z_has Z_row Z_work_2) H_3 := hP.sub [0, 1, 2, 3] rfl
  have hD : va_D A (ws_zcomes a_Z a_Z_has a_Z_row a_Z_work a_Z_mono a_Z_degree a_Z_generator a_Z_hand a_Z_basis a_Z_rest a_Z_product a_Z_known a_Z_lead a_Z_tail a_Z_word a_Z_vector a_Z_system a_Z_now a_Z_next cI cL cZ Z_thrownCode Z_p Z_n Z_order Z_monomials Z_generators Z_upTo Z_members Z_lefts Z_vars Z_leadsFound Z_words Z_has Z_row Z_work_2) := hD.sub [0, 1, 2, 3] (by decide) rfl
  refine lv_istore_n (lv' := [(1, .int r_1), (0, .ref a_Z)]) hx hb d_Z_comes_4 rfl hl (by decide) rfl (fun ls hl => ?_)
  refine lv_iload_n hx hb d_Z_comes_5 rfl (lv_at hl 0 rfl) ?_
  refine g_if_ge (tgt := 11) hx hb d_Z_comes_6 (by decide) hrun (fun _ hrun => ?_) (fun _ hrun => ?_)
  · refine lv_aload_n hx hb d_Z_comes_11 rfl (lv_at hl 1 rfl) ?_
    refine lv_aload_n hx hb d_Z_comes_12 rfl (lv_at hl 1 rfl) ?_
    refine va_get (D := D) (ci := 5) (v := .ref a_Z_work) (C := "RemnantDictionaryModel") (T := T_Z) (N := 30) hx hb hts iw_Z hown hK hP 0 rfl rfl 13 (by decide) (hts _ k_391) (fun _ h9 => h9) rfl d_Z_comes_13 ?_
    refine lv_iload_n hx hb d_Z_comes_16 rfl (lv_at hl 0 rfl) ?_
    refine g_iald hx hb hK hP 3 0 rfl rfl hrun d_Z_comes_17 (fun x_4 hrun => ?_)
    obtain ⟨r_5, hc, hrun⟩ := bd1_s hrun
    refine vp_callSi (W.runV (As := [.int x_4]) (rest := []) ⟨hx, hb, hml, hown, hts⟩ (c_zinverse (gl X) D cI cL cZ a_Z a_Z_mono a_Z_degree a_Z_generator a_Z_hand a_Z_has a_Z_row a_Z_work a_Z_basis a_Z_rest a_Z_product a_Z_known a_Z_lead a_Z_tail a_Z_word a_Z_vector a_Z_system a_Z_now a_Z_next F Z_thrownCode Z_p Z_n Z_order Z_monomials Z_generators Z_upTo Z_members Z_lefts Z_vars Z_leadsFound Z_words x_4 r_5 hc) (cwV 1 hts (gwV k_405 k_403 k_404 k_333 k_390) rfl rfl rfl (by decide +kernel) ⟨Nat.le_of_ble_eq_true rfl, Nat.le_of_ble_eq_true rfl⟩) (gpreV (hP.sub (ws' := (ws_zinverse a_Z a_Z_mono a_Z_degree a_Z_generator a_Z_hand a_Z_has a_Z_row a_Z_work a_Z_basis a_Z_rest a_Z_product a_Z_known a_Z_lead a_Z_tail a_Z_word a_Z_vector a_Z_system a_Z_now a_Z_next cI cL cZ Z_thrownCode Z_p Z_n Z_order Z_monomials Z_generators Z_upTo Z_members Z_lefts Z_vars Z_leadsFound Z_words)) [0] rfl) hK hN 5 0 rfl rfl) rfl rfl hl.1 rfl (lv_room (Nat.le_of_ble_eq_true rfl)) d_Z_comes_18 ⟨Nat.le_of_ble_eq_true rfl, Nat.le_of_ble_eq_true rfl⟩) (nm_e ?_)
    refine lv_i2l hx hb d_Z_comes_21 rfl ?_
    refine lv_lstore_n (lv' := [(2, .long r_5.toInt64), (1, .int r_1), (0, .ref a_Z)]) hx hb d_Z_comes_22 rfl hl (by decide) rfl (fun ls hl => ?_)
    refine lv_iconst (v := 0) hx hb d_Z_comes_23 (by decide) ?_
    refine lv_istore (lv' := [(4, .int 0), (2, .long r_5.toInt64), (1, .int r_1), (0, .ref a_Z)]) hx hb d_Z_comes_24 hl (by decide) rfl (fun ls hl => ?_)
    exact v_zcomes_26 X D cI cL cZ a_Z a_Z_has a_Z_row a_Z_work a_Z_mono a_Z_degree a_Z_generator a_Z_hand a_Z_basis a_Z_rest a_Z_product a_Z_known a_Z_lead a_Z_tail a_Z_word a_Z_vector a_Z_system a_Z_now a_Z_next A Z_thrownCode Z_p Z_n Z_order Z_monomials Z_generators Z_upTo Z_members Z_lefts Z_vars Z_leadsFound Z_words r_ Z_has_r Z_row_r Z_work_r F C0 hK hA hN  F r_1 r_5.toInt64 0 Z_has Z_row Z_work_2 hrun H_3 locs ls hP hD hS (lv_sub hl [3, 2, 1, 0] rfl)
  · refine lv_iconst (v := 0) hx hb d_Z_comes_9 (by decide) ?_
    cases hrun
    exact W.zret hx hb hr rfl (fun t ht hW => ⟨⟨_, (), rfl, rfl, gB_of ht hW.alike hP hK hD⟩, hS.F ht⟩) hS.2.2 d_Z_comes_10
set_option maxHeartbeats 4000000 in
set_option maxRecDepth 100000 in
theorem c_zcomes (l : Launch) (D : va_G) (cI cL cZ : ClassId) (a_Z a_Z_has a_Z_row a_Z_work a_Z_mono a_Z_degree a_Z_generator a_Z_hand a_Z_basis a_Z_rest a_Z_product a_Z_known a_Z_lead a_Z_tail a_Z_word a_Z_vector a_Z_system a_Z_now a_Z_next : Nat) (F : Nat) (Z_thrownCode Z_p Z_n Z_order Z_monomials Z_generators Z_upTo Z_members Z_lefts Z_vars Z_leadsFound Z_words : Int32) (Z_has Z_row Z_work : Nat → Int32) (sz : Nat) (r_ : Int32) (Z_has_r Z_row_r Z_work_r : Nat → Int32) (hrun : m_zcomes F Z_monomials Z_p Z_has Z_row Z_work = some (r_, Z_has_r, Z_row_r, Z_work_r)) : Met l y_Z_comes (.code y_Z_comes c_Z_comesb 5 (some .boolean) :: gAll) rm_zcomes (va_Pc [.ref a_Z] (gPW D (gT cI cL cZ) (ws_zcomes a_Z a_Z_has a_Z_row a_Z_work a_Z_mono a_Z_degree a_Z_generator a_Z_hand a_Z_basis a_Z_rest a_Z_product a_Z_known a_Z_lead a_Z_tail a_Z_word a_Z_vector a_Z_system a_Z_now a_Z_next cI cL cZ Z_thrownCode Z_p Z_n Z_order Z_monomials Z_generators Z_upTo Z_members Z_lefts Z_vars Z_leadsFound Z_words Z_has Z_row Z_work) sz)) (va_Qi (fun r (_ : Unit) => r = r_) (gB D (gT cI cL cZ) (va_A (ws_zcomes a_Z a_Z_has a_Z_row a_Z_work a_Z_mono a_Z_degree a_Z_generator a_Z_hand a_Z_basis a_Z_rest a_Z_product a_Z_known a_Z_lead a_Z_tail a_Z_word a_Z_vector a_Z_system a_Z_now a_Z_next cI cL cZ Z_thrownCode Z_p Z_n Z_order Z_monomials Z_generators Z_upTo Z_members Z_lefts Z_vars Z_leadsFound Z_words Z_has Z_row Z_work) sz) (ws_zcomes a_Z a_Z_has a_Z_row a_Z_work a_Z_mono a_Z_degree a_Z_generator a_Z_hand a_Z_basis a_Z_rest a_Z_product a_Z_known a_Z_lead a_Z_tail a_Z_word a_Z_vector a_Z_system a_Z_now a_Z_next cI cL cZ Z_thrownCode Z_p Z_n Z_order Z_monomials Z_generators Z_upTo Z_members Z_lefts Z_vars Z_leadsFound Z_words Z_has_r Z_row_r Z_work_r)) (va_A (ws_zcomes a_Z a_Z_has a_Z_row a_Z_work a_Z_mono a_Z_degree a_Z_generator a_Z_hand a_Z_basis a_Z_rest a_Z_product a_Z_known a_Z_lead a_Z_tail a_Z_word a_Z_vector a_Z_system a_Z_now a_Z_next cI cL cZ Z_thrownCode Z_p Z_n Z_order Z_monomials Z_generators Z_upTo Z_members Z_lefts Z_vars Z_leadsFound Z_words Z_has Z_row Z_work) sz)) 0 0 (va_A (ws_zcomes a_Z a_Z_has a_Z_row a_Z_work a_Z_mono a_Z_degree a_Z_generator a_Z_hand a_Z_basis a_Z_rest a_Z_product a_Z_known a_Z_lead a_Z_tail a_Z_word a_Z_vector a_Z_system a_Z_now a_Z_next cI cL cZ Z_thrownCode Z_p Z_n Z_order Z_monomials Z_generators Z_upTo Z_members Z_lefts Z_vars Z_leadsFound Z_words Z_has Z_row Z_work) sz) := by
  refine Met.ofW (cc := c_Z_comesb) (maxL := 5) (ret := (some .boolean)) (by decide +kernel) rfl ?_
  intro p e s m args below meth c s₁ B hml hv
  obtain ⟨rfl, hsz, hP, hK, hN, hD0⟩ := hv
  subst hsz
  have hD := hD0.self (sz := s.heap.size)
  have hl := lv_entry ([.ref a_Z]) (n := 5) (Nat.le_of_ble_eq_true rfl)
  rw [lg_entry_eq]
  generalize (lg_sl ([.ref a_Z]) ++ List.replicate (5 - (lg_sl ([.ref a_Z])).length) Slot.unset).toArray = ls at hl ⊢
  exact e_zcomes (p, l, e, s, m, ([.ref a_Z] : List Value).toArray, below, meth, c) D cI cL cZ a_Z a_Z_has a_Z_row a_Z_work a_Z_mono a_Z_degree a_Z_generator a_Z_hand a_Z_basis a_Z_rest a_Z_product a_Z_known a_Z_lead a_Z_tail a_Z_word a_Z_vector a_Z_system a_Z_now a_Z_next (va_A (ws_zcomes a_Z a_Z_has a_Z_row a_Z_work a_Z_mono a_Z_degree a_Z_generator a_Z_hand a_Z_basis a_Z_rest a_Z_product a_Z_known a_Z_lead a_Z_tail a_Z_word a_Z_vector a_Z_system a_Z_now a_Z_next cI cL cZ Z_thrownCode Z_p Z_n Z_order Z_monomials Z_generators Z_upTo Z_members Z_lefts Z_vars Z_leadsFound Z_words Z_has Z_row Z_work) s.heap.size) Z_thrownCode Z_p Z_n Z_order Z_monomials Z_generators Z_upTo Z_members Z_lefts Z_vars Z_leadsFound Z_words r_ Z_has_r Z_row_r Z_work_r F ⟨B.exec, B.bytes, B.returns, hml, findClass_of_methodNamed B.named, fun w h => atoms_spec (ws := (.code y_Z_comes c_Z_comesb 5 (some .boolean) :: gAll)) B.pre w (List.mem_cons_of_mem _ h), B.notSynchronized⟩ hK (fun q h => Or.inr h) hN Z_has Z_row Z_work hrun s.heap [] ls hP hD va_S.rf hl
theorem d_Z_multiplied_0 : decode c_Z_multipliedb 0 = .ok (.iconst 0, 1) := by decide +kernel
theorem d_Z_multiplied_1 : decode c_Z_multipliedb 1 = .ok (.istore_n 3, 1) := by decide +kernel
theorem d_Z_multiplied_2 : decode c_Z_multipliedb 2 = .ok (.iload_n 3, 1) := by decide +kernel
theorem d_Z_multiplied_3 : decode c_Z_multipliedb 3 = .ok (.aload_n 0, 1) := by decide +kernel
theorem d_Z_multiplied_4 : decode c_Z_multipliedb 4 = .ok (.getfield 22, 3) := by decide +kernel
theorem d_Z_multiplied_7 : decode c_Z_multipliedb 7 = .ok (.if_icmp .ge 16, 3) := by decide +kernel
theorem d_Z_multiplied_10 : decode c_Z_multipliedb 10 = .ok (.aload_n 0, 1) := by decide +kernel
theorem d_Z_multiplied_11 : decode c_Z_multipliedb 11 = .ok (.getfield 51, 3) := by decide +kernel
theorem d_Z_multiplied_14 : decode c_Z_multipliedb 14 = .ok (.iload_n 3, 1) := by decide +kernel
theorem d_Z_multiplied_15 : decode c_Z_multipliedb 15 = .ok (.iconst 0, 1) := by decide +kernel
theorem d_Z_multiplied_16 : decode c_Z_multipliedb 16 = .ok (.iastore, 1) := by decide +kernel
theorem d_Z_multiplied_17 : decode c_Z_multipliedb 17 = .ok (.iinc 3 1, 3) := by decide +kernel
theorem d_Z_multiplied_20 : decode c_Z_multipliedb 20 = .ok (.goto (-18), 3) := by decide +kernel
theorem d_Z_multiplied_23 : decode c_Z_multipliedb 23 = .ok (.iconst 0, 1) := by decide +kernel
theorem d_Z_multiplied_24 : decode c_Z_multipliedb 24 = .ok (.istore_n 3, 1) := by decide +kernel
theorem d_Z_multiplied_25 : decode c_Z_multipliedb 25 = .ok (.iload_n 3, 1) := by decide +kernel
theorem d_Z_multiplied_26 : decode c_Z_multipliedb 26 = .ok (.iload_n 1, 1) := by decide +kernel
theorem d_Z_multiplied_27 : decode c_Z_multipliedb 27 = .ok (.if_icmp .gt 59, 3) := by decide +kernel
theorem d_Z_multiplied_30 : decode c_Z_multipliedb 30 = .ok (.aload_n 0, 1) := by decide +kernel
theorem d_Z_multiplied_31 : decode c_Z_multipliedb 31 = .ok (.getfield 48, 3) := by decide +kernel
theorem d_Z_multiplied_34 : decode c_Z_multipliedb 34 = .ok (.bipush 126, 2) := by decide +kernel
theorem d_Z_multiplied_36 : decode c_Z_multipliedb 36 = .ok (.iload_n 1, 1) := by decide +kernel
theorem d_Z_multiplied_37 : decode c_Z_multipliedb 37 = .ok (.imul, 1) := by decide +kernel
theorem d_Z_multiplied_38 : decode c_Z_multipliedb 38 = .ok (.iload_n 3, 1) := by decide +kernel
theorem d_Z_multiplied_39 : decode c_Z_multipliedb 39 = .ok (.iadd, 1) := by decide +kernel
theorem d_Z_multiplied_40 : decode c_Z_multipliedb 40 = .ok (.iaload, 1) := by decide +kernel
theorem d_Z_multiplied_41 : decode c_Z_multipliedb 41 = .ok (.ifCond .eq 39, 3) := by decide +kernel
theorem d_Z_multiplied_44 : decode c_Z_multipliedb 44 = .ok (.aload_n 0, 1) := by decide +kernel
theorem d_Z_multiplied_45 : decode c_Z_multipliedb 45 = .ok (.getfield 51, 3) := by decide +kernel
theorem d_Z_multiplied_48 : decode c_Z_multipliedb 48 = .ok (.aload_n 0, 1) := by decide +kernel
theorem d_Z_multiplied_49 : decode c_Z_multipliedb 49 = .ok (.aload_n 0, 1) := by decide +kernel
theorem d_Z_multiplied_50 : decode c_Z_multipliedb 50 = .ok (.getfield 25, 3) := by decide +kernel
theorem d_Z_multiplied_53 : decode c_Z_multipliedb 53 = .ok (.iload_n 3, 1) := by decide +kernel
theorem d_Z_multiplied_54 : decode c_Z_multipliedb 54 = .ok (.iaload, 1) := by decide +kernel
theorem d_Z_multiplied_55 : decode c_Z_multipliedb 55 = .ok (.iconst 1, 1) := by decide +kernel
theorem d_Z_multiplied_56 : decode c_Z_multipliedb 56 = .ok (.bipush 24, 2) := by decide +kernel
theorem d_Z_multiplied_58 : decode c_Z_multipliedb 58 = .ok (.bipush 8, 2) := by decide +kernel
theorem d_Z_multiplied_60 : decode c_Z_multipliedb 60 = .ok (.iload_n 2, 1) := by decide +kernel
theorem d_Z_multiplied_61 : decode c_Z_multipliedb 61 = .ok (.imul, 1) := by decide +kernel
theorem d_Z_multiplied_62 : decode c_Z_multipliedb 62 = .ok (.isub, 1) := by decide +kernel
theorem d_Z_multiplied_63 : decode c_Z_multipliedb 63 = .ok (.ishl, 1) := by decide +kernel
theorem d_Z_multiplied_64 : decode c_Z_multipliedb 64 = .ok (.iadd, 1) := by decide +kernel
theorem d_Z_multiplied_65 : decode c_Z_multipliedb 65 = .ok (.invokevirtual 135, 3) := by decide +kernel
theorem d_Z_multiplied_68 : decode c_Z_multipliedb 68 = .ok (.aload_n 0, 1) := by decide +kernel
theorem d_Z_multiplied_69 : decode c_Z_multipliedb 69 = .ok (.getfield 48, 3) := by decide +kernel
theorem d_Z_multiplied_72 : decode c_Z_multipliedb 72 = .ok (.bipush 126, 2) := by decide +kernel
theorem d_Z_multiplied_74 : decode c_Z_multipliedb 74 = .ok (.iload_n 1, 1) := by decide +kernel
theorem d_Z_multiplied_75 : decode c_Z_multipliedb 75 = .ok (.imul, 1) := by decide +kernel
theorem d_Z_multiplied_76 : decode c_Z_multipliedb 76 = .ok (.iload_n 3, 1) := by decide +kernel
theorem d_Z_multiplied_77 : decode c_Z_multipliedb 77 = .ok (.iadd, 1) := by decide +kernel
theorem d_Z_multiplied_78 : decode c_Z_multipliedb 78 = .ok (.iaload, 1) := by decide +kernel
theorem d_Z_multiplied_79 : decode c_Z_multipliedb 79 = .ok (.iastore, 1) := by decide +kernel
theorem d_Z_multiplied_80 : decode c_Z_multipliedb 80 = .ok (.iinc 3 1, 3) := by decide +kernel
theorem d_Z_multiplied_83 : decode c_Z_multipliedb 83 = .ok (.goto (-58), 3) := by decide +kernel
theorem d_Z_multiplied_86 : decode c_Z_multipliedb 86 = .ok (.return_, 1) := by decide +kernel
abbrev ws_zmultiplied (a_Z a_Z_mono a_Z_row a_Z_work a_Z_degree a_Z_generator a_Z_hand a_Z_has a_Z_basis a_Z_rest a_Z_product a_Z_known a_Z_lead a_Z_tail a_Z_word a_Z_vector a_Z_system a_Z_now a_Z_next : Nat) (cI cL cZ : ClassId) (Z_thrownCode Z_p Z_n Z_order Z_monomials Z_generators Z_upTo Z_members Z_lefts Z_vars Z_leadsFound Z_words : Int32) (Z_mono Z_row Z_work : Nat → Int32) : va_W := [(a_Z, .inr (5, [.int Z_thrownCode, .int Z_p, .int Z_n, .int Z_order, .int Z_monomials, .ref a_Z_mono, .ref a_Z_degree, .int Z_generators, .ref a_Z_generator, .ref a_Z_hand, .int Z_upTo, .ref a_Z_has, .ref a_Z_row, .ref a_Z_work, .ref a_Z_basis, .int Z_members, .int Z_lefts, .int Z_vars, .ref a_Z_rest, .ref a_Z_product, .ref a_Z_known, .int Z_leadsFound, .ref a_Z_lead, .ref a_Z_tail, .int Z_words, .ref a_Z_word, .ref a_Z_vector, .ref a_Z_system, .ref a_Z_now, .ref a_Z_next])), (a_Z_mono, .inl (cI, 126, .inl Z_mono)), (a_Z_row, .inl (cI, 15876, .inl Z_row)), (a_Z_work, .inl (cI, 126, .inl Z_work))]
abbrev rm_zmultiplied : Room := { frames := 1, cells := 0, slots := 0, locals := 22 }
abbrev g_zmultiplied (X : gX) (D : va_G) (cI cL cZ : ClassId) (a_Z a_Z_mono a_Z_row a_Z_work a_Z_degree a_Z_generator a_Z_hand a_Z_has a_Z_basis a_Z_rest a_Z_product a_Z_known a_Z_lead a_Z_tail a_Z_word a_Z_vector a_Z_system a_Z_now a_Z_next : Nat) (A : Nat → Prop) (Z_thrownCode Z_p Z_n Z_order Z_monomials Z_generators Z_upTo Z_members Z_lefts Z_vars Z_leadsFound Z_words : Int32) (Z_mono Z_row Z_work_r : Nat → Int32) (pc : Nat) (lv : List (Nat × Value)) (st : List Value) (Z_work : Nat → Int32) : Prop := ∀ (H : Heap) (locs : List Loc) (ls : Array Slot), va_P D classes (ws_zmultiplied a_Z a_Z_mono a_Z_row a_Z_work a_Z_degree a_Z_generator a_Z_hand a_Z_has a_Z_basis a_Z_rest a_Z_product a_Z_known a_Z_lead a_Z_tail a_Z_word a_Z_vector a_Z_system a_Z_now a_Z_next cI cL cZ Z_thrownCode Z_p Z_n Z_order Z_monomials Z_generators Z_upTo Z_members Z_lefts Z_vars Z_leadsFound Z_words Z_mono Z_row Z_work) H → va_D A (ws_zmultiplied a_Z a_Z_mono a_Z_row a_Z_work a_Z_degree a_Z_generator a_Z_hand a_Z_has a_Z_basis a_Z_rest a_Z_product a_Z_known a_Z_lead a_Z_tail a_Z_word a_Z_vector a_Z_system a_Z_now a_Z_next cI cL cZ Z_thrownCode Z_p Z_n Z_order Z_monomials Z_generators Z_upTo Z_members Z_lefts Z_vars Z_leadsFound Z_words Z_mono Z_row Z_work) → va_S A (gs X).heap H locs → lv_has ls 4 lv → gWW X rm_zmultiplied H locs 0 0 (MQ (gbl X) (va_Qv (fun _ : Unit => True) (gB D (gT cI cL cZ) A (ws_zmultiplied a_Z a_Z_mono a_Z_row a_Z_work a_Z_degree a_Z_generator a_Z_hand a_Z_has a_Z_basis a_Z_rest a_Z_product a_Z_known a_Z_lead a_Z_tail a_Z_word a_Z_vector a_Z_system a_Z_now a_Z_next cI cL cZ Z_thrownCode Z_p Z_n Z_order Z_monomials Z_generators Z_upTo Z_members Z_lefts Z_vars Z_leadsFound Z_words Z_mono Z_row Z_work_r)) A) (ga X) (gs X) 0 0 A) (F0 (gm X) pc ls st)
set_option maxHeartbeats 4000000 in
set_option maxRecDepth 100000 in
theorem w_zmultiplied_25 (X : gX) (D : va_G) (cI cL cZ : ClassId) (a_Z a_Z_mono a_Z_row a_Z_work a_Z_degree a_Z_generator a_Z_hand a_Z_has a_Z_basis a_Z_rest a_Z_product a_Z_known a_Z_lead a_Z_tail a_Z_word a_Z_vector a_Z_system a_Z_now a_Z_next : Nat) (A : Nat → Prop) (Z_thrownCode Z_p Z_n Z_order Z_monomials Z_generators Z_upTo Z_members Z_lefts Z_vars Z_leadsFound Z_words : Int32) (Z_mono Z_row Z_work_r : Nat → Int32) (F : Nat) (C0 : gC X c_Z_multipliedb none 4 "RemnantDictionaryModel" gAll) (hK : va_K D classes (gT cI cL cZ) (gs X)) (hA : ∀ q : Nat, (gs X).heap.size ≤ q → A q) (hN : gN (gs X)) (k25 : Int32 → Int32 → Int32 → (Nat → Int32) → Option ((Nat → Int32))) (hk25 : ∀ (i1 i2 i3 : Int32) (Z_work : Nat → Int32), k25 i1 i2 i3 Z_work = some Z_work_r → g_zmultiplied X D cI cL cZ a_Z a_Z_mono a_Z_row a_Z_work a_Z_degree a_Z_generator a_Z_hand a_Z_has a_Z_basis a_Z_rest a_Z_product a_Z_known a_Z_lead a_Z_tail a_Z_word a_Z_vector a_Z_system a_Z_now a_Z_next A Z_thrownCode Z_p Z_n Z_order Z_monomials Z_generators Z_upTo Z_members Z_lefts Z_vars Z_leadsFound Z_words Z_mono Z_row Z_work_r 25 [(0, .ref a_Z), (1, .int i1), (2, .int i2), (3, .int i3)] [] Z_work) (i1 i2 i3 : Int32) (Z_work : Nat → Int32) (hrun : s_zmultiplied_25 F Z_monomials Z_mono Z_row k25 i1 i2 i3 Z_work = some Z_work_r) : g_zmultiplied X D cI cL cZ a_Z a_Z_mono a_Z_row a_Z_work a_Z_degree a_Z_generator a_Z_hand a_Z_has a_Z_basis a_Z_rest a_Z_product a_Z_known a_Z_lead a_Z_tail a_Z_word a_Z_vector a_Z_system a_Z_now a_Z_next A Z_thrownCode Z_p Z_n Z_order Z_monomials Z_generators Z_upTo Z_members Z_lefts Z_vars Z_leadsFound Z_words Z_mono Z_row Z_work_r 25 [(0, .ref a_Z), (1, .int i1), (2, .int i2), (3, .int i3)] [] Z_work := by
  have C1 := C0
  obtain ⟨hx, hb, hr, hml, hown, hts, hlocks⟩ := C1
  unfold s_zmultiplied_25 at hrun
  intro H locs ls hP hD hS hl
  refine lv_iload_n hx hb d_Z_multiplied_25 rfl (lv_at hl 3 rfl) ?_
  refine lv_iload_n hx hb d_Z_multiplied_26 rfl (lv_at hl 1 rfl) ?_
  refine g_icmp_gt (tgt := 86) hx hb d_Z_multiplied_27 (by decide) hrun (fun _ hrun => ?_) (fun _ hrun => ?_)
  · cases hrun
    exact W.vret hx hb hr (fun t ht hW => ⟨⟨(), rfl, trivial, gB_of ht hW.alike hP hK hD⟩, hS.F ht⟩) hS.2.2 d_Z_multiplied_86
  · refine lv_aload_n hx hb d_Z_multiplied_30 rfl (lv_at hl 0 rfl) ?_
    refine va_get (D := D) (ci := 5) (v := .ref a_Z_row) (C := "RemnantDictionaryModel") (T := T_Z) (N := 30) hx hb hts iw_Z hown hK hP 0 rfl rfl 12 (by decide) (hts _ k_392) (fun _ h9 => h9) rfl d_Z_multiplied_31 ?_
    refine lv_bipush (v := 126) hx hb d_Z_multiplied_34 (by decide) ?_
    refine lv_iload_n hx hb d_Z_multiplied_36 rfl (lv_at hl 1 rfl) ?_
    refine lv_imul hx hb d_Z_multiplied_37 ?_
    refine lv_iload_n hx hb d_Z_multiplied_38 rfl (lv_at hl 3 rfl) ?_
    refine lv_iadd hx hb d_Z_multiplied_39 ?_
    refine g_iald hx hb hK hP 2 0 rfl rfl hrun d_Z_multiplied_40 (fun x_1 hrun => ?_)
    refine g_if_eq (tgt := 80) hx hb d_Z_multiplied_41 (by decide) hrun (fun _ hrun => ?_) (fun _ hrun => ?_)
    · refine lv_iinc (v := (i3 + 1)) (lv' := [(3, .int (i3 + 1)), (0, .ref a_Z), (1, .int i1), (2, .int i2)]) hx hb d_Z_multiplied_80 hl (k := 3) rfl rfl (by decide) rfl (fun ls hl => ?_)
      refine lv_goto (tgt := 25) hx hb d_Z_multiplied_83 (by decide) ?_
      exact hk25 i1 i2 (i3 + 1) Z_work hrun H locs ls hP hD hS (lv_sub hl [1, 2, 3, 0] rfl)
    · refine lv_aload_n hx hb d_Z_multiplied_44 rfl (lv_at hl 0 rfl) ?_
      refine va_get (D := D) (ci := 5) (v := .ref a_Z_work) (C := "RemnantDictionaryModel") (T := T_Z) (N := 30) hx hb hts iw_Z hown hK hP 0 rfl rfl 13 (by decide) (hts _ k_391) (fun _ h9 => h9) rfl d_Z_multiplied_45 ?_
      refine lv_aload_n hx hb d_Z_multiplied_48 rfl (lv_at hl 0 rfl) ?_
      refine lv_aload_n hx hb d_Z_multiplied_49 rfl (lv_at hl 0 rfl) ?_
      refine va_get (D := D) (ci := 5) (v := .ref a_Z_mono) (C := "RemnantDictionaryModel") (T := T_Z) (N := 30) hx hb hts iw_Z hown hK hP 0 rfl rfl 5 (by decide) (hts _ k_372) (fun _ h9 => h9) rfl d_Z_multiplied_50 ?_
      refine lv_iload_n hx hb d_Z_multiplied_53 rfl (lv_at hl 3 rfl) ?_
      refine g_iald hx hb hK hP 1 0 rfl rfl hrun d_Z_multiplied_54 (fun x_2 hrun => ?_)
      refine lv_iconst (v := 1) hx hb d_Z_multiplied_55 (by decide) ?_
      refine lv_bipush (v := 24) hx hb d_Z_multiplied_56 (by decide) ?_
      refine lv_bipush (v := 8) hx hb d_Z_multiplied_58 (by decide) ?_
      refine lv_iload_n hx hb d_Z_multiplied_60 rfl (lv_at hl 2 rfl) ?_
      refine lv_imul hx hb d_Z_multiplied_61 ?_
      refine lv_isub hx hb d_Z_multiplied_62 ?_
      refine g_ishl hx hb d_Z_multiplied_63 ?_
      refine lv_iadd hx hb d_Z_multiplied_64 ?_
      obtain ⟨r_3, hc, hrun⟩ := bd1_s hrun
      refine vp_callSi (W.runV (As := [.int (x_2 + (shlI 1 (24 - (8 * i2))))]) (rest := [.ref a_Z_work]) ⟨hx, hb, hml, hown, hts⟩ (c_zplaceOf (gl X) D cI cL cZ a_Z a_Z_mono a_Z_degree a_Z_generator a_Z_hand a_Z_has a_Z_row a_Z_work a_Z_basis a_Z_rest a_Z_product a_Z_known a_Z_lead a_Z_tail a_Z_word a_Z_vector a_Z_system a_Z_now a_Z_next F Z_thrownCode Z_p Z_n Z_order Z_monomials Z_generators Z_upTo Z_members Z_lefts Z_vars Z_leadsFound Z_words Z_mono (x_2 + (shlI 1 (24 - (8 * i2)))) r_3 hc) (cwV 1 hts (gwV k_408 k_406 k_407 k_333 k_389) rfl rfl rfl (by decide +kernel) ⟨Nat.le_of_ble_eq_true rfl, Nat.le_of_ble_eq_true rfl⟩) (gpreV (hP.sub (ws' := (ws_zplaceOf a_Z a_Z_mono a_Z_degree a_Z_generator a_Z_hand a_Z_has a_Z_row a_Z_work a_Z_basis a_Z_rest a_Z_product a_Z_known a_Z_lead a_Z_tail a_Z_word a_Z_vector a_Z_system a_Z_now a_Z_next cI cL cZ Z_thrownCode Z_p Z_n Z_order Z_monomials Z_generators Z_upTo Z_members Z_lefts Z_vars Z_leadsFound Z_words Z_mono)) [0, 1] rfl) hK hN 5 0 rfl rfl) rfl rfl hl.1 rfl (lv_room (Nat.le_of_ble_eq_true rfl)) d_Z_multiplied_65 ⟨Nat.le_of_ble_eq_true rfl, Nat.le_of_ble_eq_true rfl⟩) (nm_e ?_)
      refine lv_aload_n hx hb d_Z_multiplied_68 rfl (lv_at hl 0 rfl) ?_
      refine va_get (D := D) (ci := 5) (v := .ref a_Z_row) (C := "RemnantDictionaryModel") (T := T_Z) (N := 30) hx hb hts iw_Z hown hK hP 0 rfl rfl 12 (by decide) (hts _ k_392) (fun _ h9 => h9) rfl d_Z_multiplied_69 ?_
      refine lv_bipush (v := 126) hx hb d_Z_multiplied_72 (by decide) ?_
      refine lv_iload_n hx hb d_Z_multiplied_74 rfl (lv_at hl 1 rfl) ?_
      refine lv_imul hx hb d_Z_multiplied_75 ?_
      refine lv_iload_n hx hb d_Z_multiplied_76 rfl (lv_at hl 3 rfl) ?_
      refine lv_iadd hx hb d_Z_multiplied_77 ?_
      refine g_iald hx hb hK hP 2 0 rfl rfl hrun d_Z_multiplied_78 (fun x_4 hrun => ?_)
      refine g_iast hx hb hK hP hD hS 3 0 rfl rfl hrun d_Z_multiplied_79 (fun Z_work_5 hrun H locs (hP : va_P D classes (ws_zmultiplied a_Z a_Z_mono a_Z_row a_Z_work a_Z_degree a_Z_generator a_Z_hand a_Z_has a_Z_basis a_Z_rest a_Z_product a_Z_known a_Z_lead a_Z_tail a_Z_word a_Z_vector a_Z_system a_Z_now a_Z_next cI cL cZ Z_thrownCode Z_p Z_n Z_order Z_monomials Z_generators Z_upTo Z_members Z_lefts Z_vars Z_leadsFound Z_words Z_mono Z_row Z_work_5) H) (hD : va_D A (ws_zmultiplied a_Z a_Z_mono a_Z_row a_Z_work a_Z_degree a_Z_generator a_Z_hand a_Z_has a_Z_basis a_Z_rest a_Z_product a_Z_known a_Z_lead a_Z_tail a_Z_word a_Z_vector a_Z_system a_Z_now a_Z_next cI cL cZ Z_thrownCode Z_p Z_n Z_order Z_monomials Z_generators Z_upTo Z_members Z_lefts Z_vars Z_leadsFound Z_words Z_mono Z_row Z_work_5)) hS => ?_)
      refine lv_iinc (v := (i3 + 1)) (lv' := [(3, .int (i3 + 1)), (0, .ref a_Z), (1, .int i1), (2, .int i2)]) hx hb d_Z_multiplied_80 hl (k := 3) rfl rfl (by decide) rfl (fun ls hl => ?_)
      refine lv_goto (tgt := 25) hx hb d_Z_multiplied_83 (by decide) ?_
      exact hk25 i1 i2 (i3 + 1) Z_work_5 hrun H locs ls hP hD hS (lv_sub hl [1, 2, 3, 0] rfl)
theorem v_zmultiplied_25 (X : gX) (D : va_G) (cI cL cZ : ClassId) (a_Z a_Z_mono a_Z_row a_Z_work a_Z_degree a_Z_generator a_Z_hand a_Z_has a_Z_basis a_Z_rest a_Z_product a_Z_known a_Z_lead a_Z_tail a_Z_word a_Z_vector a_Z_system a_Z_now a_Z_next : Nat) (A : Nat → Prop) (Z_thrownCode Z_p Z_n Z_order Z_monomials Z_generators Z_upTo Z_members Z_lefts Z_vars Z_leadsFound Z_words : Int32) (Z_mono Z_row Z_work_r : Nat → Int32) (F : Nat) (C0 : gC X c_Z_multipliedb none 4 "RemnantDictionaryModel" gAll) (hK : va_K D classes (gT cI cL cZ) (gs X)) (hA : ∀ q : Nat, (gs X).heap.size ≤ q → A q) (hN : gN (gs X))  : ∀ (n : Nat) (i1 i2 i3 : Int32) (Z_work : Nat → Int32), b_zmultiplied_25 F Z_monomials Z_mono Z_row n i1 i2 i3 Z_work = some Z_work_r → g_zmultiplied X D cI cL cZ a_Z a_Z_mono a_Z_row a_Z_work a_Z_degree a_Z_generator a_Z_hand a_Z_has a_Z_basis a_Z_rest a_Z_product a_Z_known a_Z_lead a_Z_tail a_Z_word a_Z_vector a_Z_system a_Z_now a_Z_next A Z_thrownCode Z_p Z_n Z_order Z_monomials Z_generators Z_upTo Z_members Z_lefts Z_vars Z_leadsFound Z_words Z_mono Z_row Z_work_r 25 [(0, .ref a_Z), (1, .int i1), (2, .int i2), (3, .int i3)] [] Z_work := by
  intro n
  induction n with
  | zero => intro i1 i2 i3 Z_work hrun; cases hrun
  | succ n ih =>
    intro i1 i2 i3 Z_work hrun
    exact w_zmultiplied_25 X D cI cL cZ a_Z a_Z_mono a_Z_row a_Z_work a_Z_degree a_Z_generator a_Z_hand a_Z_has a_Z_basis a_Z_rest a_Z_product a_Z_known a_Z_lead a_Z_tail a_Z_word a_Z_vector a_Z_system a_Z_now a_Z_next A Z_thrownCode Z_p Z_n Z_order Z_monomials Z_generators Z_upTo Z_members Z_lefts Z_vars Z_leadsFound Z_words Z_mono Z_row Z_work_r F C0 hK hA hN (b_zmultiplied_25 F Z_monomials Z_mono Z_row n) ih i1 i2 i3 Z_work hrun
set_option maxHeartbeats 4000000 in
set_option maxRecDepth 100000 in
theorem w_zmultiplied_2 (X : gX) (D : va_G) (cI cL cZ : ClassId) (a_Z a_Z_mono a_Z_row a_Z_work a_Z_degree a_Z_generator a_Z_hand a_Z_has a_Z_basis a_Z_rest a_Z_product a_Z_known a_Z_lead a_Z_tail a_Z_word a_Z_vector a_Z_system a_Z_now a_Z_next : Nat) (A : Nat → Prop) (Z_thrownCode Z_p Z_n Z_order Z_monomials Z_generators Z_upTo Z_members Z_lefts Z_vars Z_leadsFound Z_words : Int32) (Z_mono Z_row Z_work_r : Nat → Int32) (F : Nat) (C0 : gC X c_Z_multipliedb none 4 "RemnantDictionaryModel" gAll) (hK : va_K D classes (gT cI cL cZ) (gs X)) (hA : ∀ q : Nat, (gs X).heap.size ≤ q → A q) (hN : gN (gs X)) (k2 : Int32 → Int32 → Int32 → (Nat → Int32) → Option ((Nat → Int32))) (hk2 : ∀ (i1 i2 i3 : Int32) (Z_work : Nat → Int32), k2 i1 i2 i3 Z_work = some Z_work_r → g_zmultiplied X D cI cL cZ a_Z a_Z_mono a_Z_row a_Z_work a_Z_degree a_Z_generator a_Z_hand a_Z_has a_Z_basis a_Z_rest a_Z_product a_Z_known a_Z_lead a_Z_tail a_Z_word a_Z_vector a_Z_system a_Z_now a_Z_next A Z_thrownCode Z_p Z_n Z_order Z_monomials Z_generators Z_upTo Z_members Z_lefts Z_vars Z_leadsFound Z_words Z_mono Z_row Z_work_r 2 [(0, .ref a_Z), (1, .int i1), (2, .int i2), (3, .int i3)] [] Z_work) (i1 i2 i3 : Int32) (Z_work : Nat → Int32) (hrun : s_zmultiplied_2 F Z_monomials Z_mono Z_row k2 i1 i2 i3 Z_work = some Z_work_r) : g_zmultiplied X D cI cL cZ a_Z a_Z_mono a_Z_row a_Z_work a_Z_degree a_Z_generator a_Z_hand a_Z_has a_Z_basis a_Z_rest a_Z_product a_Z_known a_Z_lead a_Z_tail a_Z_word a_Z_vector a_Z_system a_Z_now a_Z_next A Z_thrownCode Z_p Z_n Z_order Z_monomials Z_generators Z_upTo Z_members Z_lefts Z_vars Z_leadsFound Z_words Z_mono Z_row Z_work_r 2 [(0, .ref a_Z), (1, .int i1), (2, .int i2), (3, .int i3)] [] Z_work := by
  have C1 := C0
  obtain ⟨hx, hb, hr, hml, hown, hts, hlocks⟩ := C1
  unfold s_zmultiplied_2 at hrun
  intro H locs ls hP hD hS hl
  refine lv_iload_n hx hb d_Z_multiplied_2 rfl (lv_at hl 3 rfl) ?_
  refine lv_aload_n hx hb d_Z_multiplied_3 rfl (lv_at hl 0 rfl) ?_
  refine va_get (D := D) (ci := 5) (v := .int Z_monomials) (C := "RemnantDictionaryModel") (T := T_Z) (N := 30) hx hb hts iw_Z hown hK hP 0 rfl rfl 4 (by decide) (hts _ k_373) (fun _ h9 => h9) rfl d_Z_multiplied_4 ?_
  refine g_icmp_ge (tgt := 23) hx hb d_Z_multiplied_7 (by decide) hrun (fun _ hrun => ?_) (fun _ hrun => ?_)
  · refine lv_iconst (v := 0) hx hb d_Z_multiplied_23 (by decide) ?_
    refine lv_istore_n (lv' := [(3, .int 0), (0, .ref a_Z), (1, .int i1), (2, .int i2)]) hx hb d_Z_multiplied_24 rfl hl (by decide) rfl (fun ls hl => ?_)
    exact v_zmultiplied_25 X D cI cL cZ a_Z a_Z_mono a_Z_row a_Z_work a_Z_degree a_Z_generator a_Z_hand a_Z_has a_Z_basis a_Z_rest a_Z_product a_Z_known a_Z_lead a_Z_tail a_Z_word a_Z_vector a_Z_system a_Z_now a_Z_next A Z_thrownCode Z_p Z_n Z_order Z_monomials Z_generators Z_upTo Z_members Z_lefts Z_vars Z_leadsFound Z_words Z_mono Z_row Z_work_r F C0 hK hA hN  F i1 i2 0 Z_work hrun H locs ls hP hD hS (lv_sub hl [1, 2, 3, 0] rfl)
  · refine lv_aload_n hx hb d_Z_multiplied_10 rfl (lv_at hl 0 rfl) ?_
    refine va_get (D := D) (ci := 5) (v := .ref a_Z_work) (C := "RemnantDictionaryModel") (T := T_Z) (N := 30) hx hb hts iw_Z hown hK hP 0 rfl rfl 13 (by decide) (hts _ k_391) (fun _ h9 => h9) rfl d_Z_multiplied_11 ?_
    refine lv_iload_n hx hb d_Z_multiplied_14 rfl (lv_at hl 3 rfl) ?_
    refine lv_iconst (v := 0) hx hb d_Z_multiplied_15 (by decide) ?_
    refine g_iast hx hb hK hP hD hS 3 0 rfl rfl hrun d_Z_multiplied_16 (fun Z_work_1 hrun H locs (hP : va_P D classes (ws_zmultiplied a_Z a_Z_mono a_Z_row a_Z_work a_Z_degree a_Z_generator a_Z_hand a_Z_has a_Z_basis a_Z_rest a_Z_product a_Z_known a_Z_lead a_Z_tail a_Z_word a_Z_vector a_Z_system a_Z_now a_Z_next cI cL cZ Z_thrownCode Z_p Z_n Z_order Z_monomials Z_generators Z_upTo Z_members Z_lefts Z_vars Z_leadsFound Z_words Z_mono Z_row Z_work_1) H) (hD : va_D A (ws_zmultiplied a_Z a_Z_mono a_Z_row a_Z_work a_Z_degree a_Z_generator a_Z_hand a_Z_has a_Z_basis a_Z_rest a_Z_product a_Z_known a_Z_lead a_Z_tail a_Z_word a_Z_vector a_Z_system a_Z_now a_Z_next cI cL cZ Z_thrownCode Z_p Z_n Z_order Z_monomials Z_generators Z_upTo Z_members Z_lefts Z_vars Z_leadsFound Z_words Z_mono Z_row Z_work_1)) hS => ?_)
    refine lv_iinc (v := (i3 + 1)) (lv' := [(3, .int (i3 + 1)), (0, .ref a_Z), (1, .int i1), (2, .int i2)]) hx hb d_Z_multiplied_17 hl (k := 3) rfl rfl (by decide) rfl (fun ls hl => ?_)
    refine lv_goto (tgt := 2) hx hb d_Z_multiplied_20 (by decide) ?_
    exact hk2 i1 i2 (i3 + 1) Z_work_1 hrun H locs ls hP hD hS (lv_sub hl [1, 2, 3, 0] rfl)
theorem v_zmultiplied_2 (X : gX) (D : va_G) (cI cL cZ : ClassId) (a_Z a_Z_mono a_Z_row a_Z_work a_Z_degree a_Z_generator a_Z_hand a_Z_has a_Z_basis a_Z_rest a_Z_product a_Z_known a_Z_lead a_Z_tail a_Z_word a_Z_vector a_Z_system a_Z_now a_Z_next : Nat) (A : Nat → Prop) (Z_thrownCode Z_p Z_n Z_order Z_monomials Z_generators Z_upTo Z_members Z_lefts Z_vars Z_leadsFound Z_words : Int32) (Z_mono Z_row Z_work_r : Nat → Int32) (F : Nat) (C0 : gC X c_Z_multipliedb none 4 "RemnantDictionaryModel" gAll) (hK : va_K D classes (gT cI cL cZ) (gs X)) (hA : ∀ q : Nat, (gs X).heap.size ≤ q → A q) (hN : gN (gs X))  : ∀ (n : Nat) (i1 i2 i3 : Int32) (Z_work : Nat → Int32), b_zmultiplied_2 F Z_monomials Z_mono Z_row n i1 i2 i3 Z_work = some Z_work_r → g_zmultiplied X D cI cL cZ a_Z a_Z_mono a_Z_row a_Z_work a_Z_degree a_Z_generator a_Z_hand a_Z_has a_Z_basis a_Z_rest a_Z_product a_Z_known a_Z_lead a_Z_tail a_Z_word a_Z_vector a_Z_system a_Z_now a_Z_next A Z_thrownCode Z_p Z_n Z_order Z_monomials Z_generators Z_upTo Z_members Z_lefts Z_vars Z_leadsFound Z_words Z_mono Z_row Z_work_r 2 [(0, .ref a_Z), (1, .int i1), (2, .int i2), (3, .int i3)] [] Z_work := by
  intro n
  induction n with
  | zero => intro i1 i2 i3 Z_work hrun; cases hrun
  | succ n ih =>
    intro i1 i2 i3 Z_work hrun
    exact w_zmultiplied_2 X D cI cL cZ a_Z a_Z_mono a_Z_row a_Z_work a_Z_degree a_Z_generator a_Z_hand a_Z_has a_Z_basis a_Z_rest a_Z_product a_Z_known a_Z_lead a_Z_tail a_Z_word a_Z_vector a_Z_system a_Z_now a_Z_next A Z_thrownCode Z_p Z_n Z_order Z_monomials Z_generators Z_upTo Z_members Z_lefts Z_vars Z_leadsFound Z_words Z_mono Z_row Z_work_r F C0 hK hA hN (b_zmultiplied_2 F Z_monomials Z_mono Z_row n) ih i1 i2 i3 Z_work hrun
set_option maxHeartbeats 4000000 in
set_option maxRecDepth 100000 in
theorem e_zmultiplied (X : gX) (D : va_G) (cI cL cZ : ClassId) (a_Z a_Z_mono a_Z_row a_Z_work a_Z_degree a_Z_generator a_Z_hand a_Z_has a_Z_basis a_Z_rest a_Z_product a_Z_known a_Z_lead a_Z_tail a_Z_word a_Z_vector a_Z_system a_Z_now a_Z_next : Nat) (A : Nat → Prop) (Z_thrownCode Z_p Z_n Z_order Z_monomials Z_generators Z_upTo Z_members Z_lefts Z_vars Z_leadsFound Z_words : Int32) (Z_mono Z_row Z_work_r : Nat → Int32) (F : Nat) (C0 : gC X c_Z_multipliedb none 4 "RemnantDictionaryModel" gAll) (hK : va_K D classes (gT cI cL cZ) (gs X)) (hA : ∀ q : Nat, (gs X).heap.size ≤ q → A q) (hN : gN (gs X)) (i1 i2 : Int32) (Z_work : Nat → Int32) (hrun : m_zmultiplied F Z_monomials Z_mono Z_row i1 i2 Z_work = some Z_work_r) : g_zmultiplied X D cI cL cZ a_Z a_Z_mono a_Z_row a_Z_work a_Z_degree a_Z_generator a_Z_hand a_Z_has a_Z_basis a_Z_rest a_Z_product a_Z_known a_Z_lead a_Z_tail a_Z_word a_Z_vector a_Z_system a_Z_now a_Z_next A Z_thrownCode Z_p Z_n Z_order Z_monomials Z_generators Z_upTo Z_members Z_lefts Z_vars Z_leadsFound Z_words Z_mono Z_row Z_work_r 0 [(0, .ref a_Z), (1, .int i1), (2, .int i2)] [] Z_work := by
  have C1 := C0
  obtain ⟨hx, hb, hr, hml, hown, hts, hlocks⟩ := C1
  unfold m_zmultiplied at hrun
  intro H locs ls hP hD hS hl
  refine lv_iconst (v := 0) hx hb d_Z_multiplied_0 (by decide) ?_
  refine lv_istore_n (lv' := [(3, .int 0), (0, .ref a_Z), (1, .int i1), (2, .int i2)]) hx hb d_Z_multiplied_1 rfl hl (by decide) rfl (fun ls hl => ?_)
  exact v_zmultiplied_2 X D cI cL cZ a_Z a_Z_mono a_Z_row a_Z_work a_Z_degree a_Z_generator a_Z_hand a_Z_has a_Z_basis a_Z_rest a_Z_product a_Z_known a_Z_lead a_Z_tail a_Z_word a_Z_vector a_Z_system a_Z_now a_Z_next A Z_thrownCode Z_p Z_n Z_order Z_monomials Z_generators Z_upTo Z_members Z_lefts Z_vars Z_leadsFound Z_words Z_mono Z_row Z_work_r F C0 hK hA hN  F i1 i2 0 Z_work hrun H locs ls hP hD hS (lv_sub hl [1, 2, 3, 0] rfl)
set_option maxHeartbeats 4000000 in
set_option maxRecDepth 100000 in
theorem c_zmultiplied (l : Launch) (D : va_G) (cI cL cZ : ClassId) (a_Z a_Z_mono a_Z_row a_Z_work a_Z_degree a_Z_generator a_Z_hand a_Z_has a_Z_basis a_Z_rest a_Z_product a_Z_known a_Z_lead a_Z_tail a_Z_word a_Z_vector a_Z_system a_Z_now a_Z_next : Nat) (F : Nat) (Z_thrownCode Z_p Z_n Z_order Z_monomials Z_generators Z_upTo Z_members Z_lefts Z_vars Z_leadsFound Z_words : Int32) (Z_mono Z_row Z_work : Nat → Int32) (i1 i2 : Int32) (sz : Nat) (Z_work_r : Nat → Int32) (hrun : m_zmultiplied F Z_monomials Z_mono Z_row i1 i2 Z_work = some Z_work_r) : Met l y_Z_multiplied (.code y_Z_multiplied c_Z_multipliedb 4 none :: gAll) rm_zmultiplied (va_Pc [.ref a_Z, .int i1, .int i2] (gPW D (gT cI cL cZ) (ws_zmultiplied a_Z a_Z_mono a_Z_row a_Z_work a_Z_degree a_Z_generator a_Z_hand a_Z_has a_Z_basis a_Z_rest a_Z_product a_Z_known a_Z_lead a_Z_tail a_Z_word a_Z_vector a_Z_system a_Z_now a_Z_next cI cL cZ Z_thrownCode Z_p Z_n Z_order Z_monomials Z_generators Z_upTo Z_members Z_lefts Z_vars Z_leadsFound Z_words Z_mono Z_row Z_work) sz)) (va_Qv (fun _ : Unit => True) (gB D (gT cI cL cZ) (va_A (ws_zmultiplied a_Z a_Z_mono a_Z_row a_Z_work a_Z_degree a_Z_generator a_Z_hand a_Z_has a_Z_basis a_Z_rest a_Z_product a_Z_known a_Z_lead a_Z_tail a_Z_word a_Z_vector a_Z_system a_Z_now a_Z_next cI cL cZ Z_thrownCode Z_p Z_n Z_order Z_monomials Z_generators Z_upTo Z_members Z_lefts Z_vars Z_leadsFound Z_words Z_mono Z_row Z_work) sz) (ws_zmultiplied a_Z a_Z_mono a_Z_row a_Z_work a_Z_degree a_Z_generator a_Z_hand a_Z_has a_Z_basis a_Z_rest a_Z_product a_Z_known a_Z_lead a_Z_tail a_Z_word a_Z_vector a_Z_system a_Z_now a_Z_next cI cL cZ Z_thrownCode Z_p Z_n Z_order Z_monomials Z_generators Z_upTo Z_members Z_lefts Z_vars Z_leadsFound Z_words Z_mono Z_row Z_work_r)) (va_A (ws_zmultiplied a_Z a_Z_mono a_Z_row a_Z_work a_Z_degree a_Z_generator a_Z_hand a_Z_has a_Z_basis a_Z_rest a_Z_product a_Z_known a_Z_lead a_Z_tail a_Z_word a_Z_vector a_Z_system a_Z_now a_Z_next cI cL cZ Z_thrownCode Z_p Z_n Z_order Z_monomials Z_generators Z_upTo Z_members Z_lefts Z_vars Z_leadsFound Z_words Z_mono Z_row Z_work) sz)) 0 0 (va_A (ws_zmultiplied a_Z a_Z_mono a_Z_row a_Z_work a_Z_degree a_Z_generator a_Z_hand a_Z_has a_Z_basis a_Z_rest a_Z_product a_Z_known a_Z_lead a_Z_tail a_Z_word a_Z_vector a_Z_system a_Z_now a_Z_next cI cL cZ Z_thrownCode Z_p Z_n Z_order Z_monomials Z_generators Z_upTo Z_members Z_lefts Z_vars Z_leadsFound Z_words Z_mono Z_row Z_work) sz) := by
  refine Met.ofW (cc := c_Z_multipliedb) (maxL := 4) (ret := none) (by decide +kernel) rfl ?_
  intro p e s m args below meth c s₁ B hml hv
  obtain ⟨rfl, hsz, hP, hK, hN, hD0⟩ := hv
  subst hsz
  have hD := hD0.self (sz := s.heap.size)
  have hl := lv_entry ([.ref a_Z, .int i1, .int i2]) (n := 4) (Nat.le_of_ble_eq_true rfl)
  rw [lg_entry_eq]
  generalize (lg_sl ([.ref a_Z, .int i1, .int i2]) ++ List.replicate (4 - (lg_sl ([.ref a_Z, .int i1, .int i2])).length) Slot.unset).toArray = ls at hl ⊢
  exact e_zmultiplied (p, l, e, s, m, ([.ref a_Z, .int i1, .int i2] : List Value).toArray, below, meth, c) D cI cL cZ a_Z a_Z_mono a_Z_row a_Z_work a_Z_degree a_Z_generator a_Z_hand a_Z_has a_Z_basis a_Z_rest a_Z_product a_Z_known a_Z_lead a_Z_tail a_Z_word a_Z_vector a_Z_system a_Z_now a_Z_next (va_A (ws_zmultiplied a_Z a_Z_mono a_Z_row a_Z_work a_Z_degree a_Z_generator a_Z_hand a_Z_has a_Z_basis a_Z_rest a_Z_product a_Z_known a_Z_lead a_Z_tail a_Z_word a_Z_vector a_Z_system a_Z_now a_Z_next cI cL cZ Z_thrownCode Z_p Z_n Z_order Z_monomials Z_generators Z_upTo Z_members Z_lefts Z_vars Z_leadsFound Z_words Z_mono Z_row Z_work) s.heap.size) Z_thrownCode Z_p Z_n Z_order Z_monomials Z_generators Z_upTo Z_members Z_lefts Z_vars Z_leadsFound Z_words Z_mono Z_row Z_work_r F ⟨B.exec, B.bytes, B.returns, hml, findClass_of_methodNamed B.named, fun w h => atoms_spec (ws := (.code y_Z_multiplied c_Z_multipliedb 4 none :: gAll)) B.pre w (List.mem_cons_of_mem _ h), B.notSynchronized⟩ hK (fun q h => Or.inr h) hN i1 i2 Z_work hrun s.heap [] ls hP hD va_S.rf hl
