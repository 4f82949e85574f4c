theorem d_RD_join_0 : decode c_RD_joinb 0 = .ok (.aload_n 0, 1) := by decide +kernel
theorem d_RD_join_1 : decode c_RD_joinb 1 = .ok (.getfield 9, 3) := by decide +kernel
theorem d_RD_join_4 : decode c_RD_joinb 4 = .ok (.bipush 126, 2) := by decide +kernel
theorem d_RD_join_6 : decode c_RD_joinb 6 = .ok (.invokestatic 84, 3) := by decide +kernel
theorem d_RD_join_9 : decode c_RD_joinb 9 = .ok (.iconst (-1), 1) := by decide +kernel
theorem d_RD_join_10 : decode c_RD_joinb 10 = .ok (.if_icmp .ne 13, 3) := by decide +kernel
theorem d_RD_join_13 : decode c_RD_joinb 13 = .ok (.new 58, 3) := by decide +kernel
theorem d_RD_join_16 : decode c_RD_joinb 16 = .ok (.dup, 1) := by decide +kernel
theorem d_RD_join_17 : decode c_RD_joinb 17 = .ok (.ldc 88, 2) := by decide +kernel
theorem d_RD_join_19 : decode c_RD_joinb 19 = .ok (.invokespecial 62, 3) := by decide +kernel
theorem d_RD_join_22 : decode c_RD_joinb 22 = .ok (.athrow, 1) := by decide +kernel
theorem d_RD_join_23 : decode c_RD_joinb 23 = .ok (.aload_n 0, 1) := by decide +kernel
theorem d_RD_join_24 : decode c_RD_joinb 24 = .ok (.getfield 90, 3) := by decide +kernel
theorem d_RD_join_27 : decode c_RD_joinb 27 = .ok (.bipush 8, 2) := by decide +kernel
theorem d_RD_join_29 : decode c_RD_joinb 29 = .ok (.if_icmp .lt 13, 3) := by decide +kernel
theorem d_RD_join_32 : decode c_RD_joinb 32 = .ok (.new 93, 3) := by decide +kernel
theorem d_RD_join_35 : decode c_RD_joinb 35 = .ok (.dup, 1) := by decide +kernel
theorem d_RD_join_36 : decode c_RD_joinb 36 = .ok (.ldc 95, 2) := by decide +kernel
theorem d_RD_join_38 : decode c_RD_joinb 38 = .ok (.invokespecial 97, 3) := by decide +kernel
theorem d_RD_join_41 : decode c_RD_joinb 41 = .ok (.athrow, 1) := by decide +kernel
theorem d_RD_join_42 : decode c_RD_joinb 42 = .ok (.aload_n 0, 1) := by decide +kernel
theorem d_RD_join_43 : decode c_RD_joinb 43 = .ok (.getfield 9, 3) := by decide +kernel
theorem d_RD_join_46 : decode c_RD_joinb 46 = .ok (.iconst 0, 1) := by decide +kernel
theorem d_RD_join_47 : decode c_RD_joinb 47 = .ok (.aload_n 0, 1) := by decide +kernel
theorem d_RD_join_48 : decode c_RD_joinb 48 = .ok (.getfield 13, 3) := by decide +kernel
theorem d_RD_join_51 : decode c_RD_joinb 51 = .ok (.aload_n 0, 1) := by decide +kernel
theorem d_RD_join_52 : decode c_RD_joinb 52 = .ok (.getfield 90, 3) := by decide +kernel
theorem d_RD_join_55 : decode c_RD_joinb 55 = .ok (.bipush 126, 2) := by decide +kernel
theorem d_RD_join_57 : decode c_RD_joinb 57 = .ok (.imul, 1) := by decide +kernel
theorem d_RD_join_58 : decode c_RD_joinb 58 = .ok (.bipush 126, 2) := by decide +kernel
theorem d_RD_join_60 : decode c_RD_joinb 60 = .ok (.invokestatic 98, 3) := by decide +kernel
theorem d_RD_join_63 : decode c_RD_joinb 63 = .ok (.aload_n 0, 1) := by decide +kernel
theorem d_RD_join_64 : decode c_RD_joinb 64 = .ok (.dup, 1) := by decide +kernel
theorem d_RD_join_65 : decode c_RD_joinb 65 = .ok (.getfield 90, 3) := by decide +kernel
theorem d_RD_join_68 : decode c_RD_joinb 68 = .ok (.iconst 1, 1) := by decide +kernel
theorem d_RD_join_69 : decode c_RD_joinb 69 = .ok (.iadd, 1) := by decide +kernel
theorem d_RD_join_70 : decode c_RD_joinb 70 = .ok (.putfield 90, 3) := by decide +kernel
theorem d_RD_join_73 : decode c_RD_joinb 73 = .ok (.aload_n 0, 1) := by decide +kernel
theorem d_RD_join_74 : decode c_RD_joinb 74 = .ok (.getfield 9, 3) := by decide +kernel
theorem d_RD_join_77 : decode c_RD_joinb 77 = .ok (.iconst 0, 1) := by decide +kernel
theorem d_RD_join_78 : decode c_RD_joinb 78 = .ok (.invokestatic 104, 3) := by decide +kernel
theorem d_RD_join_81 : decode c_RD_joinb 81 = .ok (.aload_n 0, 1) := by decide +kernel
theorem d_RD_join_82 : decode c_RD_joinb 82 = .ok (.getfield 90, 3) := by decide +kernel
theorem d_RD_join_85 : decode c_RD_joinb 85 = .ok (.ireturn, 1) := by decide +kernel
abbrev ws_tJoin (a_RD a_RD_inHand a_RD_generators a_Mo a_Sp a_Re a_Le : Nat) (cI cL cZ : ClassId) (RD_prime RD_generatorCount : Int32) (RD_inHand RD_generators : Nat → Int32) : va_W := [(a_RD, .inr (0, [.int RD_prime, .int RD_generatorCount, .ref a_RD_inHand, .ref a_RD_generators, .ref a_Mo, .ref a_Sp, .ref a_Re, .ref a_Le])), (a_RD_inHand, .inl (cI, 126, .inl RD_inHand)), (a_RD_generators, .inl (cI, 1008, .inl RD_generators))]
abbrev rm_tJoin : Room := { frames := 6, cells := 1, slots := 6, locals := 82 }
abbrev g_tJoin (X : gX) (D : va_G) (cI cL cZ : ClassId) (a_RD a_RD_inHand a_RD_generators a_Mo a_Sp a_Re a_Le : Nat) (A : Nat → Prop) (RD_prime k_ r_ RD_generatorCount_r : Int32) (RD_inHand_r RD_generators_r : Nat → Int32) (pc : Nat) (lv : List (Nat × Value)) (st : List Value) (RD_generatorCount : Int32) (RD_inHand RD_generators : Nat → Int32) : Prop := ∀ (H : Heap) (locs : List Loc) (ls : Array Slot), va_P D classes (ws_tJoin a_RD a_RD_inHand a_RD_generators a_Mo a_Sp a_Re a_Le cI cL cZ RD_prime RD_generatorCount RD_inHand RD_generators) H → va_D A (ws_tJoin a_RD a_RD_inHand a_RD_generators a_Mo a_Sp a_Re a_Le cI cL cZ RD_prime RD_generatorCount RD_inHand RD_generators) → va_S A (gs X).heap H locs → lv_has ls 1 lv → gWW X rm_tJoin H locs 0 0 (MQT (gbl X) (gQT k_ (some (.int r_)) (gB D (gT cI cL cZ) A (ws_tJoin a_RD a_RD_inHand a_RD_generators a_Mo a_Sp a_Re a_Le cI cL cZ RD_prime RD_generatorCount_r RD_inHand_r RD_generators_r) ()) A) (ga X) (gs X) 1 6 A) (F0 (gm X) pc ls st)
set_option maxHeartbeats 4000000 in
set_option maxRecDepth 100000 in
theorem e_tJoin (X : gX) (D : va_G) (cI cL cZ : ClassId) (a_RD a_RD_inHand a_RD_generators a_Mo a_Sp a_Re a_Le : Nat) (A : Nat → Prop) (RD_prime k_ r_ RD_generatorCount_r : Int32) (RD_inHand_r RD_generators_r : Nat → Int32) (F : Nat) (C0 : gC X c_RD_joinb (some .int) 1 "RemnantDictionary" gAll2) (hK : va_K D classes (gT cI cL cZ) (gs X)) (hA : ∀ q : Nat, (gs X).heap.size ≤ q → A q) (hN : gN (gs X)) (hTz : gTz A (gs X)) (hst : gStr (gs X)) (hfl : (gl X).flags = flags0) (hnh : (gc X).exceptionTable.isEmpty = true) (RD_generatorCount : Int32) (RD_inHand RD_generators : Nat → Int32) (hrun : m_tJoin F RD_generatorCount RD_inHand RD_generators = some (k_, r_, RD_generatorCount_r, RD_inHand_r, RD_generators_r)) : g_tJoin X D cI cL cZ a_RD a_RD_inHand a_RD_generators a_Mo a_Sp a_Re a_Le A RD_prime k_ r_ RD_generatorCount_r RD_inHand_r RD_generators_r 0 [(0, .ref a_RD)] [] RD_generatorCount RD_inHand RD_generators := by
  have C1 := C0
  obtain ⟨hx, hb, hr, hml, hown, hts, hlocks⟩ := C1
  unfold m_tJoin at hrun
  intro H locs ls hP hD hS hl
  refine lv_aload_n hx hb d_RD_join_0 rfl (lv_at hl 0 rfl) ?_
  refine va_get (D := D) (ci := 0) (v := .ref a_RD_inHand) (C := "RemnantDictionary") (T := T_RD) (N := 8) hx hb hts (gki iw_RD) hown hK hP 0 rfl rfl 2 (by decide) (hts _ (gk k_306)) (fun _ h9 => h9) rfl d_RD_join_1 ?_
  refine lv_bipush (v := 126) hx hb d_RD_join_4 (by decide) ?_
  obtain ⟨r_1, hc, hrun⟩ := bd1_s hrun
  refine vp_callSi (W.runS (As := [.ref a_RD_inHand, .int 126]) (rest := []) ⟨hx, hb, hml, hown, hts⟩ (c_first (gl X) D cI cL cZ a_RD_inHand F 126 RD_inHand 126 r_1 hc) (va_cwS 2 hts (gwS2 x_521 (gk k_255) (gk k_14) (gk k_10)) rfl rfl rfl (by decide +kernel) ⟨Nat.le_of_ble_eq_true rfl, Nat.le_of_ble_eq_true rfl⟩) (gpreS (hP.sub (ws' := (ws_first a_RD_inHand cI cL cZ 126 RD_inHand)) [1] rfl) hK hN) rfl rfl hl.1 rfl (lv_room (Nat.le_of_ble_eq_true rfl)) d_RD_join_6 ⟨Nat.le_of_ble_eq_true rfl, Nat.le_of_ble_eq_true rfl⟩) (nm_e ?_)
  refine lv_iconst (v := (-1)) hx hb d_RD_join_9 (by decide) ?_
  refine g_icmp_ne (tgt := 23) hx hb d_RD_join_10 (by decide) hrun (fun _ hrun => ?_) (fun _ hrun => ?_)
  · refine lv_aload_n hx hb d_RD_join_23 rfl (lv_at hl 0 rfl) ?_
    refine va_get (D := D) (ci := 0) (v := .int RD_generatorCount) (C := "RemnantDictionary") (T := T_RD) (N := 8) hx hb hts (gki iw_RD) hown hK hP 0 rfl rfl 1 (by decide) (hts _ (gk k_286)) (fun _ h9 => h9) rfl d_RD_join_24 ?_
    refine lv_bipush (v := 8) hx hb d_RD_join_27 (by decide) ?_
    refine g_icmp_lt (tgt := 42) hx hb d_RD_join_29 (by decide) hrun (fun _ hrun => ?_) (fun _ hrun => ?_)
    · refine lv_aload_n hx hb d_RD_join_42 rfl (lv_at hl 0 rfl) ?_
      refine va_get (D := D) (ci := 0) (v := .ref a_RD_inHand) (C := "RemnantDictionary") (T := T_RD) (N := 8) hx hb hts (gki iw_RD) hown hK hP 0 rfl rfl 2 (by decide) (hts _ (gk k_306)) (fun _ h9 => h9) rfl d_RD_join_43 ?_
      refine lv_iconst (v := 0) hx hb d_RD_join_46 (by decide) ?_
      refine lv_aload_n hx hb d_RD_join_47 rfl (lv_at hl 0 rfl) ?_
      refine va_get (D := D) (ci := 0) (v := .ref a_RD_generators) (C := "RemnantDictionary") (T := T_RD) (N := 8) hx hb hts (gki iw_RD) hown hK hP 0 rfl rfl 3 (by decide) (hts _ (gk k_297)) (fun _ h9 => h9) rfl d_RD_join_48 ?_
      refine lv_aload_n hx hb d_RD_join_51 rfl (lv_at hl 0 rfl) ?_
      refine va_get (D := D) (ci := 0) (v := .int RD_generatorCount) (C := "RemnantDictionary") (T := T_RD) (N := 8) hx hb hts (gki iw_RD) hown hK hP 0 rfl rfl 1 (by decide) (hts _ (gk k_286)) (fun _ h9 => h9) rfl d_RD_join_52 ?_
      refine lv_bipush (v := 126) hx hb d_RD_join_55 (by decide) ?_
      refine lv_imul hx hb d_RD_join_57 ?_
      refine lv_bipush (v := 126) hx hb d_RD_join_58 (by decide) ?_
      refine g_copy hx hb (hml.trans hl.1.symm) hown (hts _ x_522) (hts _ (gk k_106)) (hts _ (gk k_107)) (hts _ (gk k_108)) hK hP hD hS 1 2 0 rfl rfl rfl rfl hrun (Nat.le_of_ble_eq_true rfl) (by decide) d_RD_join_60 (fun RD_generators_2 hrun H locs (hP : va_P D classes (ws_tJoin a_RD a_RD_inHand a_RD_generators a_Mo a_Sp a_Re a_Le cI cL cZ RD_prime RD_generatorCount RD_inHand RD_generators_2) H) (hD : va_D A (ws_tJoin a_RD a_RD_inHand a_RD_generators a_Mo a_Sp a_Re a_Le cI cL cZ RD_prime RD_generatorCount RD_inHand RD_generators_2)) hS => ?_)
      refine lv_aload_n hx hb d_RD_join_63 rfl (lv_at hl 0 rfl) ?_
      refine lv_dup hx hb d_RD_join_64 rfl ?_
      refine va_get (D := D) (ci := 0) (v := .int RD_generatorCount) (C := "RemnantDictionary") (T := T_RD) (N := 8) hx hb hts (gki iw_RD) hown hK hP 0 rfl rfl 1 (by decide) (hts _ (gk k_286)) (fun _ h9 => h9) rfl d_RD_join_65 ?_
      refine lv_iconst (v := 1) hx hb d_RD_join_68 (by decide) ?_
      refine lv_iadd hx hb d_RD_join_69 ?_
      refine va_put (D := D) (ci := 0) (v := .int (RD_generatorCount + 1)) (ty := .int) (C := "RemnantDictionary") (T := T_RD) (N := 8) hx hb hts (gki iw_RD) ty_RD ty_RD_ok nm_RD hown hK hP hD hS 0 rfl rfl 1 (by decide) (hts _ (gk k_286)) (fun _ h9 => h9) rfl (by decide +kernel) rfl rfl (Nat.le_of_ble_eq_true rfl) d_RD_join_70 (fun H locs (hP : va_P D classes (ws_tJoin a_RD a_RD_inHand a_RD_generators a_Mo a_Sp a_Re a_Le cI cL cZ RD_prime (RD_generatorCount + 1) RD_inHand RD_generators_2) H) (hD : va_D A (ws_tJoin a_RD a_RD_inHand a_RD_generators a_Mo a_Sp a_Re a_Le cI cL cZ RD_prime (RD_generatorCount + 1) RD_inHand RD_generators_2)) hS => ?_)
      refine lv_aload_n hx hb d_RD_join_73 rfl (lv_at hl 0 rfl) ?_
      refine va_get (D := D) (ci := 0) (v := .ref a_RD_inHand) (C := "RemnantDictionary") (T := T_RD) (N := 8) hx hb hts (gki iw_RD) hown hK hP 0 rfl rfl 2 (by decide) (hts _ (gk k_306)) (fun _ h9 => h9) rfl d_RD_join_74 ?_
      refine lv_iconst (v := 0) hx hb d_RD_join_77 (by decide) ?_
      obtain ⟨RD_inHand_3, hc, hrun⟩ := bd1_s hrun
      have hFc := va_free (wc := (ws_fill a_RD_inHand cI cL cZ 126 RD_inHand)) hD hS hA [1] rfl
      refine va_callv (va_runS (As := [.ref a_RD_inHand, .int 0]) (rest := []) ⟨hx, hb, hml, hown, hts⟩ (c_fill (gl X) D cI cL cZ a_RD_inHand F 126 RD_inHand 0 H.size RD_inHand_3 hc) (va_cwS 2 hts (gwS2 (gk k_307) (gk k_98) (gk k_4) (gk k_1)) rfl rfl rfl (by decide +kernel) ⟨Nat.le_of_ble_eq_true rfl, Nat.le_of_ble_eq_true rfl⟩) (gpreSW (hP.sub (ws' := (ws_fill a_RD_inHand cI cL cZ 126 RD_inHand)) [1] rfl) hK hN (hD.sub (ws' := (ws_fill a_RD_inHand cI cL cZ 126 RD_inHand)) [1] (by decide) rfl)) rfl rfl hl.1 rfl (lv_room (Nat.le_of_ble_eq_true rfl)) d_RD_join_78 ⟨Nat.le_of_ble_eq_true rfl, Nat.le_of_ble_eq_true rfl⟩) hS (fun q _ h => hFc q h) hFc (fun _ t H_4 locs ht hvm hw hB hz1 hk1 hS => ?_)
      obtain ⟨hP, hD⟩ := va_join (wr := [(a_RD, .inr (0, [.int RD_prime, .int (RD_generatorCount + 1), .ref a_RD_inHand, .ref a_RD_generators, .ref a_Mo, .ref a_Sp, .ref a_Re, .ref a_Le])), (a_RD_generators, .inl (cI, 1008, .inl RD_generators_2))]) (w1 := (ws_fill a_RD_inHand cI cL cZ 126 RD_inHand_3)) hP hD [1] [0, 2] rfl rfl (by decide) (by decide) hk1 hFc (by have h9 := hB.1; rw [ht] at h9; exact h9) hB.2.2
      have hP : va_P D classes (ws_tJoin a_RD a_RD_inHand a_RD_generators a_Mo a_Sp a_Re a_Le cI cL cZ RD_prime (RD_generatorCount + 1) RD_inHand_3 RD_generators_2) H_4 := hP.sub [0, 2, 1] rfl
      have hD : va_D A (ws_tJoin a_RD a_RD_inHand a_RD_generators a_Mo a_Sp a_Re a_Le cI cL cZ RD_prime (RD_generatorCount + 1) RD_inHand_3 RD_generators_2) := hD.sub [0, 2, 1] (by decide) rfl
      refine lv_aload_n hx hb d_RD_join_81 rfl (lv_at hl 0 rfl) ?_
      refine va_get (D := D) (ci := 0) (v := .int (RD_generatorCount + 1)) (C := "RemnantDictionary") (T := T_RD) (N := 8) hx hb hts (gki iw_RD) hown hK hP 0 rfl rfl 1 (by decide) (hts _ (gk k_286)) (fun _ h9 => h9) rfl d_RD_join_82 ?_
      cases hrun
      refine W.up (MQ.toT (Nat.zero_le _) (Nat.zero_le _) (fun o t h => gQT_i h)) ?_
      exact W.iret hx hb hr (fun t ht hW => ⟨⟨_, (), rfl, rfl, gB_of ht hW.alike hP hK hD⟩, hS.F ht⟩) hS.2.2 d_RD_join_85
    · cases hrun
      obtain ⟨q9, hq9⟩ := hst (95, "there are 8 generators") (by decide)
      exact g_throw (A := A) hx hb hfl hnh hlocks (hl.1.trans hml.symm) (own := "RemnantDictionary") (X := gISE) (ia := 93) (ib := 95) (ic := 97) hown (by decide +kernel) gTok2 (fun w h => hts w (gTin2 w h)) hTz hS hq9 (Nat.le_of_ble_eq_true rfl) (Nat.le_of_ble_eq_true rfl) (Nat.le_of_ble_eq_true rfl) (Nat.le_of_ble_eq_true rfl) d_RD_join_32 d_RD_join_35 d_RD_join_36 d_RD_join_38 d_RD_join_41 (fun U h1 h2 h3 h4 h5 h6 ⟨ce, h8⟩ => ⟨_, h1, h2, ⟨g_thrown hP hK hD hS h3 h5 h6, Or.inr (Or.inr ⟨rfl, _, ce, rfl, h8⟩)⟩, h3, locs, h4, hS.2.2⟩)
  · cases hrun
    obtain ⟨q9, hq9⟩ := hst (88, "the polynomial in hand is 0") (by decide)
    exact g_throw (A := A) hx hb hfl hnh hlocks (hl.1.trans hml.symm) (own := "RemnantDictionary") (X := gIAE) (ia := 58) (ib := 88) (ic := 62) hown (by decide +kernel) gTok1 (fun w h => hts w (gTin1 w h)) hTz hS hq9 (Nat.le_of_ble_eq_true rfl) (Nat.le_of_ble_eq_true rfl) (Nat.le_of_ble_eq_true rfl) (Nat.le_of_ble_eq_true rfl) d_RD_join_13 d_RD_join_16 d_RD_join_17 d_RD_join_19 d_RD_join_22 (fun U h1 h2 h3 h4 h5 h6 ⟨ce, h8⟩ => ⟨_, h1, h2, ⟨g_thrown hP hK hD hS h3 h5 h6, Or.inr (Or.inl ⟨rfl, _, ce, rfl, h8⟩)⟩, h3, locs, h4, hS.2.2⟩)
set_option maxHeartbeats 4000000 in
set_option maxRecDepth 100000 in
theorem c_tJoin (l : Launch) (D : va_G) (cI cL cZ : ClassId) (a_RD a_RD_inHand a_RD_generators a_Mo a_Sp a_Re a_Le : Nat) (F : Nat) (RD_prime RD_generatorCount : Int32) (RD_inHand RD_generators : Nat → Int32) (sz : Nat) (k_ r_ RD_generatorCount_r : Int32) (RD_inHand_r RD_generators_r : Nat → Int32) (hfl : l.flags = flags0) (hrun : m_tJoin F RD_generatorCount RD_inHand RD_generators = some (k_, r_, RD_generatorCount_r, RD_inHand_r, RD_generators_r)) : MetT l y_RD_join (.code y_RD_join c_RD_joinb 1 (some .int) :: gAll2) rm_tJoin (va_Pc [.ref a_RD] (fun U => gPW D (gT cI cL cZ) (ws_tJoin a_RD a_RD_inHand a_RD_generators a_Mo a_Sp a_Re a_Le cI cL cZ RD_prime RD_generatorCount RD_inHand RD_generators) sz U ∧ gTz (va_A (ws_tJoin a_RD a_RD_inHand a_RD_generators a_Mo a_Sp a_Re a_Le cI cL cZ RD_prime RD_generatorCount RD_inHand RD_generators) sz) U ∧ gStr U)) (gQT k_ (some (.int r_)) (gB D (gT cI cL cZ) (va_A (ws_tJoin a_RD a_RD_inHand a_RD_generators a_Mo a_Sp a_Re a_Le cI cL cZ RD_prime RD_generatorCount RD_inHand RD_generators) sz) (ws_tJoin a_RD a_RD_inHand a_RD_generators a_Mo a_Sp a_Re a_Le cI cL cZ RD_prime RD_generatorCount_r RD_inHand_r RD_generators_r) ()) (va_A (ws_tJoin a_RD a_RD_inHand a_RD_generators a_Mo a_Sp a_Re a_Le cI cL cZ RD_prime RD_generatorCount RD_inHand RD_generators) sz)) 1 6 (va_A (ws_tJoin a_RD a_RD_inHand a_RD_generators a_Mo a_Sp a_Re a_Le cI cL cZ RD_prime RD_generatorCount RD_inHand RD_generators) sz) := by
  refine MetT.ofW (cc := c_RD_joinb) (maxL := 1) (ret := (some .int)) (by decide +kernel) rfl ?_
  intro p e s m args below meth c s₁ B hml hnh hv
  obtain ⟨rfl, ⟨hsz, hP, hK, hN, hD0⟩, hTz, hst⟩ := hv
  subst hsz
  have hD := hD0.self (sz := s.heap.size)
  have hl := lv_entry ([.ref a_RD]) (n := 1) (Nat.le_of_ble_eq_true rfl)
  rw [lg_entry_eq]
  generalize (lg_sl ([.ref a_RD]) ++ List.replicate (1 - (lg_sl ([.ref a_RD])).length) Slot.unset).toArray = ls at hl ⊢
  exact e_tJoin (p, l, e, s, m, ([.ref a_RD] : List Value).toArray, below, meth, c) D cI cL cZ a_RD a_RD_inHand a_RD_generators a_Mo a_Sp a_Re a_Le (va_A (ws_tJoin a_RD a_RD_inHand a_RD_generators a_Mo a_Sp a_Re a_Le cI cL cZ RD_prime RD_generatorCount RD_inHand RD_generators) s.heap.size) RD_prime k_ r_ RD_generatorCount_r RD_inHand_r RD_generators_r F ⟨B.exec, B.bytes, B.returns, hml, findClass_of_methodNamed B.named, fun w h => atoms_spec (ws := (.code y_RD_join c_RD_joinb 1 (some .int) :: gAll2)) B.pre w (List.mem_cons_of_mem _ h), B.notSynchronized⟩ hK (fun q h => Or.inr h) hN hTz hst hfl hnh RD_generatorCount RD_inHand RD_generators hrun s.heap [] ls hP hD va_S.rf hl
