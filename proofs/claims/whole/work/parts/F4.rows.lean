theorem d_RD_coefficient_0 : decode c_RD_coefficientb 0 = .ok (.aload_n 0, 1) := by decide +kernel
theorem d_RD_coefficient_1 : decode c_RD_coefficientb 1 = .ok (.getfield 19, 3) := by decide +kernel
theorem d_RD_coefficient_4 : decode c_RD_coefficientb 4 = .ok (.iload_n 1, 1) := by decide +kernel
theorem d_RD_coefficient_5 : decode c_RD_coefficientb 5 = .ok (.invokevirtual 72, 3) := by decide +kernel
theorem d_RD_coefficient_8 : decode c_RD_coefficientb 8 = .ok (.istore_n 3, 1) := by decide +kernel
theorem d_RD_coefficient_9 : decode c_RD_coefficientb 9 = .ok (.iload_n 3, 1) := by decide +kernel
theorem d_RD_coefficient_10 : decode c_RD_coefficientb 10 = .ok (.iconst (-1), 1) := by decide +kernel
theorem d_RD_coefficient_11 : decode c_RD_coefficientb 11 = .ok (.if_icmp .ne 13, 3) := by decide +kernel
theorem d_RD_coefficient_14 : decode c_RD_coefficientb 14 = .ok (.new 58, 3) := by decide +kernel
theorem d_RD_coefficient_17 : decode c_RD_coefficientb 17 = .ok (.dup, 1) := by decide +kernel
theorem d_RD_coefficient_18 : decode c_RD_coefficientb 18 = .ok (.ldc 76, 2) := by decide +kernel
theorem d_RD_coefficient_20 : decode c_RD_coefficientb 20 = .ok (.invokespecial 62, 3) := by decide +kernel
theorem d_RD_coefficient_23 : decode c_RD_coefficientb 23 = .ok (.athrow, 1) := by decide +kernel
theorem d_RD_coefficient_24 : decode c_RD_coefficientb 24 = .ok (.aload_n 0, 1) := by decide +kernel
theorem d_RD_coefficient_25 : decode c_RD_coefficientb 25 = .ok (.getfield 9, 3) := by decide +kernel
theorem d_RD_coefficient_28 : decode c_RD_coefficientb 28 = .ok (.iload_n 3, 1) := by decide +kernel
theorem d_RD_coefficient_29 : decode c_RD_coefficientb 29 = .ok (.iload_n 2, 1) := by decide +kernel
theorem d_RD_coefficient_30 : decode c_RD_coefficientb 30 = .ok (.aload_n 0, 1) := by decide +kernel
theorem d_RD_coefficient_31 : decode c_RD_coefficientb 31 = .ok (.getfield 46, 3) := by decide +kernel
theorem d_RD_coefficient_34 : decode c_RD_coefficientb 34 = .ok (.invokestatic 78, 3) := by decide +kernel
theorem d_RD_coefficient_37 : decode c_RD_coefficientb 37 = .ok (.iastore, 1) := by decide +kernel
theorem d_RD_coefficient_38 : decode c_RD_coefficientb 38 = .ok (.return_, 1) := by decide +kernel
abbrev ws_tCoef (a_RD a_Mo a_RD_inHand a_Mo_keys a_RD_generators a_Sp a_Re a_Le a_Mo_codes a_Mo_degrees a_Mo_raised : Nat) (cI cL cZ : ClassId) (RD_prime RD_generatorCount Mo_variables Mo_order Mo_highest Mo_count : Int32) (RD_inHand : Nat → Int32) (Mo_keys : Nat → Int64) : va_W := [(a_RD, .inr (0, [.int RD_prime, .int RD_generatorCount, .ref a_RD_inHand, .ref a_RD_generators, .ref a_Mo, .ref a_Sp, .ref a_Re, .ref a_Le])), (a_Mo, .inr (1, [.int Mo_variables, .int Mo_order, .int Mo_highest, .int Mo_count, .ref a_Mo_codes, .ref a_Mo_degrees, .ref a_Mo_keys, .ref a_Mo_raised])), (a_RD_inHand, .inl (cI, 126, .inl RD_inHand)), (a_Mo_keys, .inl (cL, 126, .inr (.inl Mo_keys)))]
abbrev rm_tCoef : Room := { frames := 6, cells := 1, slots := 6, locals := 93 }
abbrev g_tCoef (X : gX) (D : va_G) (cI cL cZ : ClassId) (a_RD a_Mo a_RD_inHand a_Mo_keys a_RD_generators a_Sp a_Re a_Le a_Mo_codes a_Mo_degrees a_Mo_raised : Nat) (A : Nat → Prop) (RD_prime RD_generatorCount Mo_variables Mo_order Mo_highest Mo_count : Int32) (Mo_keys : Nat → Int64) (k_ : Int32) (RD_inHand_r : Nat → Int32) (pc : Nat) (lv : List (Nat × Value)) (st : List Value) (RD_inHand : Nat → Int32) : Prop := ∀ (H : Heap) (locs : List Loc) (ls : Array Slot), va_P D classes (ws_tCoef a_RD a_Mo a_RD_inHand a_Mo_keys a_RD_generators a_Sp a_Re a_Le a_Mo_codes a_Mo_degrees a_Mo_raised cI cL cZ RD_prime RD_generatorCount Mo_variables Mo_order Mo_highest Mo_count RD_inHand Mo_keys) H → va_D A (ws_tCoef a_RD a_Mo a_RD_inHand a_Mo_keys a_RD_generators a_Sp a_Re a_Le a_Mo_codes a_Mo_degrees a_Mo_raised cI cL cZ RD_prime RD_generatorCount Mo_variables Mo_order Mo_highest Mo_count RD_inHand Mo_keys) → va_S A (gs X).heap H locs → lv_has ls 4 lv → gWW X rm_tCoef H locs 0 0 (MQT (gbl X) (gQT k_ none (gB D (gT cI cL cZ) A (ws_tCoef a_RD a_Mo a_RD_inHand a_Mo_keys a_RD_generators a_Sp a_Re a_Le a_Mo_codes a_Mo_degrees a_Mo_raised cI cL cZ RD_prime RD_generatorCount Mo_variables Mo_order Mo_highest Mo_count RD_inHand_r Mo_keys) ()) A) (ga X) (gs X) 1 6 A) (F0 (gm X) pc ls st)
set_option maxHeartbeats 4000000 in
set_option maxRecDepth 100000 in
theorem e_tCoef (X : gX) (D : va_G) (cI cL cZ : ClassId) (a_RD a_Mo a_RD_inHand a_Mo_keys a_RD_generators a_Sp a_Re a_Le a_Mo_codes a_Mo_degrees a_Mo_raised : Nat) (A : Nat → Prop) (RD_prime RD_generatorCount Mo_variables Mo_order Mo_highest Mo_count : Int32) (Mo_keys : Nat → Int64) (k_ : Int32) (RD_inHand_r : Nat → Int32) (F : Nat) (C0 : gC X c_RD_coefficientb none 4 "RemnantDictionary" gAll2) (hK : va_K D classes (gT cI cL cZ) (gs X)) (hA : ∀ q : Nat, (gs X).heap.size ≤ q → A q) (hN : gN (gs X)) (hTz : gTz A (gs X)) (hst : gStr (gs X)) (hfl : (gl X).flags = flags0) (hnh : (gc X).exceptionTable.isEmpty = true) (i1 i2 : Int32) (RD_inHand : Nat → Int32) (hrun : m_tCoef F RD_prime Mo_count Mo_order Mo_keys i1 i2 RD_inHand = some (k_, RD_inHand_r)) : g_tCoef X D cI cL cZ a_RD a_Mo a_RD_inHand a_Mo_keys a_RD_generators a_Sp a_Re a_Le a_Mo_codes a_Mo_degrees a_Mo_raised A RD_prime RD_generatorCount Mo_variables Mo_order Mo_highest Mo_count Mo_keys k_ RD_inHand_r 0 [(0, .ref a_RD), (1, .int i1), (2, .int i2)] [] RD_inHand := by
  have C1 := C0
  obtain ⟨hx, hb, hr, hml, hown, hts, hlocks⟩ := C1
  unfold m_tCoef at hrun
  intro H locs ls hP hD hS hl
  refine lv_aload_n hx hb d_RD_coefficient_0 rfl (lv_at hl 0 rfl) ?_
  refine va_get (D := D) (ci := 0) (v := .ref a_Mo) (C := "RemnantDictionary") (T := T_RD) (N := 8) hx hb hts (gki iw_RD) hown hK hP 0 rfl rfl 4 (by decide) (hts _ (gk k_327)) (fun _ h9 => h9) rfl d_RD_coefficient_1 ?_
  refine lv_iload_n hx hb d_RD_coefficient_4 rfl (lv_at hl 1 rfl) ?_
  obtain ⟨r_1, hc, hrun⟩ := bd1_s hrun
  refine vp_callSi (W.runV (As := [.int i1]) (rest := []) ⟨hx, hb, hml, hown, hts⟩ (c_rank (gl X) D cI cL cZ a_Mo a_Mo_keys a_Mo_codes a_Mo_degrees a_Mo_raised F Mo_variables Mo_order Mo_highest Mo_count Mo_keys i1 r_1 hc) (cwV 1 hts (gwV2 (gk k_328) (gk k_56) (gk k_57) (gk k_48) (gk k_45)) rfl rfl rfl (by decide +kernel) ⟨Nat.le_of_ble_eq_true rfl, Nat.le_of_ble_eq_true rfl⟩) (gpreV (hP.sub (ws' := (ws_rank a_Mo a_Mo_keys a_Mo_codes a_Mo_degrees a_Mo_raised cI cL cZ Mo_variables Mo_order Mo_highest Mo_count Mo_keys)) [1, 3] rfl) hK hN 1 0 rfl rfl) rfl rfl hl.1 rfl (lv_room (Nat.le_of_ble_eq_true rfl)) d_RD_coefficient_5 ⟨Nat.le_of_ble_eq_true rfl, Nat.le_of_ble_eq_true rfl⟩) (nm_e ?_)
  refine lv_istore_n (lv' := [(3, .int r_1), (0, .ref a_RD), (1, .int i1), (2, .int i2)]) hx hb d_RD_coefficient_8 rfl hl (by decide) rfl (fun ls hl => ?_)
  refine lv_iload_n hx hb d_RD_coefficient_9 rfl (lv_at hl 0 rfl) ?_
  refine lv_iconst (v := (-1)) hx hb d_RD_coefficient_10 (by decide) ?_
  refine g_icmp_ne (tgt := 24) hx hb d_RD_coefficient_11 (by decide) hrun (fun _ hrun => ?_) (fun _ hrun => ?_)
  · refine lv_aload_n hx hb d_RD_coefficient_24 rfl (lv_at hl 1 rfl) ?_
    refine va_get (D := D) (ci := 0) (v := .ref a_RD_inHand) (C := "RemnantDictionary") (T := T_RD) (N := 8) hx hb hts (gki iw_RD) hown hK hP 0 rfl rfl 2 (by decide) (hts _ (gk k_306)) (fun _ h9 => h9) rfl d_RD_coefficient_25 ?_
    refine lv_iload_n hx hb d_RD_coefficient_28 rfl (lv_at hl 0 rfl) ?_
    refine lv_iload_n hx hb d_RD_coefficient_29 rfl (lv_at hl 3 rfl) ?_
    refine lv_aload_n hx hb d_RD_coefficient_30 rfl (lv_at hl 1 rfl) ?_
    refine va_get (D := D) (ci := 0) (v := .int RD_prime) (C := "RemnantDictionary") (T := T_RD) (N := 8) hx hb hts (gki iw_RD) hown hK hP 0 rfl rfl 0 (by decide) (hts _ (gk k_302)) (fun _ h9 => h9) rfl d_RD_coefficient_31 ?_
    obtain ⟨r_2, hc, hrun⟩ := bd1_s hrun
    refine vp_callSi (W.runS (As := [.int i2, .int RD_prime]) (rest := [.int r_1, .ref a_RD_inHand]) ⟨hx, hb, hml, hown, hts⟩ (c_floorMod (gl X) F i2 RD_prime r_2 hc) (va_cwS 2 hts (gwS2 x_519 x_518 (gk k_20) (gk k_6)) rfl rfl rfl (by decide +kernel) ⟨Nat.le_of_ble_eq_true rfl, Nat.le_of_ble_eq_true rfl⟩) (gpreS0 hN) rfl rfl hl.1 rfl (lv_room (Nat.le_of_ble_eq_true rfl)) d_RD_coefficient_34 ⟨Nat.le_of_ble_eq_true rfl, Nat.le_of_ble_eq_true rfl⟩) (nm_e ?_)
    refine g_iast hx hb hK hP hD hS 2 0 rfl rfl hrun d_RD_coefficient_37 (fun RD_inHand_3 hrun H locs (hP : va_P D classes (ws_tCoef a_RD a_Mo a_RD_inHand a_Mo_keys a_RD_generators a_Sp a_Re a_Le a_Mo_codes a_Mo_degrees a_Mo_raised cI cL cZ RD_prime RD_generatorCount Mo_variables Mo_order Mo_highest Mo_count RD_inHand_3 Mo_keys) H) (hD : va_D A (ws_tCoef a_RD a_Mo a_RD_inHand a_Mo_keys a_RD_generators a_Sp a_Re a_Le a_Mo_codes a_Mo_degrees a_Mo_raised cI cL cZ RD_prime RD_generatorCount Mo_variables Mo_order Mo_highest Mo_count RD_inHand_3 Mo_keys)) hS => ?_)
    cases hrun
    refine W.up (MQ.toT (Nat.zero_le _) (Nat.zero_le _) (fun o t h => gQT_v h)) ?_
    exact W.vret hx hb hr (fun t ht hW => ⟨⟨(), rfl, trivial, gB_of ht hW.alike hP hK hD⟩, hS.F ht⟩) hS.2.2 d_RD_coefficient_38
  · cases hrun
    obtain ⟨q9, hq9⟩ := hst (76, "e is no monomial of the variables up to the highest degree") (by decide)
    exact g_throw (A := A) hx hb hfl hnh hlocks (hl.1.trans hml.symm) (own := "RemnantDictionary") (X := gIAE) (ia := 58) (ib := 76) (ic := 62) hown (by decide +kernel) gTok1 (fun w h => hts w (gTin1 w h)) hTz hS hq9 (Nat.le_of_ble_eq_true rfl) (Nat.le_of_ble_eq_true rfl) (Nat.le_of_ble_eq_true rfl) (Nat.le_of_ble_eq_true rfl) d_RD_coefficient_14 d_RD_coefficient_17 d_RD_coefficient_18 d_RD_coefficient_20 d_RD_coefficient_23 (fun U h1 h2 h3 h4 h5 h6 ⟨ce, h8⟩ => ⟨_, h1, h2, ⟨g_thrown hP hK hD hS h3 h5 h6, Or.inr (Or.inl ⟨rfl, _, ce, rfl, h8⟩)⟩, h3, locs, h4, hS.2.2⟩)
set_option maxHeartbeats 4000000 in
set_option maxRecDepth 100000 in
theorem c_tCoef (l : Launch) (D : va_G) (cI cL cZ : ClassId) (a_RD a_Mo a_RD_inHand a_Mo_keys a_RD_generators a_Sp a_Re a_Le a_Mo_codes a_Mo_degrees a_Mo_raised : Nat) (F : Nat) (RD_prime RD_generatorCount Mo_variables Mo_order Mo_highest Mo_count : Int32) (RD_inHand : Nat → Int32) (Mo_keys : Nat → Int64) (i1 i2 : Int32) (sz : Nat) (k_ : Int32) (RD_inHand_r : Nat → Int32) (hfl : l.flags = flags0) (hrun : m_tCoef F RD_prime Mo_count Mo_order Mo_keys i1 i2 RD_inHand = some (k_, RD_inHand_r)) : MetT l y_RD_coefficient (.code y_RD_coefficient c_RD_coefficientb 4 none :: gAll2) rm_tCoef (va_Pc [.ref a_RD, .int i1, .int i2] (fun U => gPW D (gT cI cL cZ) (ws_tCoef a_RD a_Mo a_RD_inHand a_Mo_keys a_RD_generators a_Sp a_Re a_Le a_Mo_codes a_Mo_degrees a_Mo_raised cI cL cZ RD_prime RD_generatorCount Mo_variables Mo_order Mo_highest Mo_count RD_inHand Mo_keys) sz U ∧ gTz (va_A (ws_tCoef a_RD a_Mo a_RD_inHand a_Mo_keys a_RD_generators a_Sp a_Re a_Le a_Mo_codes a_Mo_degrees a_Mo_raised cI cL cZ RD_prime RD_generatorCount Mo_variables Mo_order Mo_highest Mo_count RD_inHand Mo_keys) sz) U ∧ gStr U)) (gQT k_ none (gB D (gT cI cL cZ) (va_A (ws_tCoef a_RD a_Mo a_RD_inHand a_Mo_keys a_RD_generators a_Sp a_Re a_Le a_Mo_codes a_Mo_degrees a_Mo_raised cI cL cZ RD_prime RD_generatorCount Mo_variables Mo_order Mo_highest Mo_count RD_inHand Mo_keys) sz) (ws_tCoef a_RD a_Mo a_RD_inHand a_Mo_keys a_RD_generators a_Sp a_Re a_Le a_Mo_codes a_Mo_degrees a_Mo_raised cI cL cZ RD_prime RD_generatorCount Mo_variables Mo_order Mo_highest Mo_count RD_inHand_r Mo_keys) ()) (va_A (ws_tCoef a_RD a_Mo a_RD_inHand a_Mo_keys a_RD_generators a_Sp a_Re a_Le a_Mo_codes a_Mo_degrees a_Mo_raised cI cL cZ RD_prime RD_generatorCount Mo_variables Mo_order Mo_highest Mo_count RD_inHand Mo_keys) sz)) 1 6 (va_A (ws_tCoef a_RD a_Mo a_RD_inHand a_Mo_keys a_RD_generators a_Sp a_Re a_Le a_Mo_codes a_Mo_degrees a_Mo_raised cI cL cZ RD_prime RD_generatorCount Mo_variables Mo_order Mo_highest Mo_count RD_inHand Mo_keys) sz) := by
  refine MetT.ofW (cc := c_RD_coefficientb) (maxL := 4) (ret := none) (by decide +kernel) rfl ?_
  intro p e s m args below meth c s₁ B hml hnh hv
  obtain ⟨rfl, ⟨hsz, hP, hK, hN, hD0⟩, hTz, hst⟩ := hv
  subst hsz
  have hD := hD0.self (sz := s.heap.size)
  have hl := lv_entry ([.ref a_RD, .int i1, .int i2]) (n := 4) (Nat.le_of_ble_eq_true rfl)
  rw [lg_entry_eq]
  generalize (lg_sl ([.ref a_RD, .int i1, .int i2]) ++ List.replicate (4 - (lg_sl ([.ref a_RD, .int i1, .int i2])).length) Slot.unset).toArray = ls at hl ⊢
  exact e_tCoef (p, l, e, s, m, ([.ref a_RD, .int i1, .int i2] : List Value).toArray, below, meth, c) D cI cL cZ a_RD a_Mo a_RD_inHand a_Mo_keys a_RD_generators a_Sp a_Re a_Le a_Mo_codes a_Mo_degrees a_Mo_raised (va_A (ws_tCoef a_RD a_Mo a_RD_inHand a_Mo_keys a_RD_generators a_Sp a_Re a_Le a_Mo_codes a_Mo_degrees a_Mo_raised cI cL cZ RD_prime RD_generatorCount Mo_variables Mo_order Mo_highest Mo_count RD_inHand Mo_keys) s.heap.size) RD_prime RD_generatorCount Mo_variables Mo_order Mo_highest Mo_count Mo_keys k_ RD_inHand_r F ⟨B.exec, B.bytes, B.returns, hml, findClass_of_methodNamed B.named, fun w h => atoms_spec (ws := (.code y_RD_coefficient c_RD_coefficientb 4 none :: gAll2)) B.pre w (List.mem_cons_of_mem _ h), B.notSynchronized⟩ hK (fun q h => Or.inr h) hN hTz hst hfl hnh i1 i2 RD_inHand hrun s.heap [] ls hP hD va_S.rf hl
