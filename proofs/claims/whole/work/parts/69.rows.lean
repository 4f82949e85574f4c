theorem d_RD_clear_0 : decode c_RD_clearb 0 = .ok (.aload_n 0, 1) := by decide +kernel
theorem d_RD_clear_1 : decode c_RD_clearb 1 = .ok (.iconst 0, 1) := by decide +kernel
theorem d_RD_clear_2 : decode c_RD_clearb 2 = .ok (.putfield 90, 3) := by decide +kernel
theorem d_RD_clear_5 : decode c_RD_clearb 5 = .ok (.aload_n 0, 1) := by decide +kernel
theorem d_RD_clear_6 : decode c_RD_clearb 6 = .ok (.getfield 9, 3) := by decide +kernel
theorem d_RD_clear_9 : decode c_RD_clearb 9 = .ok (.iconst 0, 1) := by decide +kernel
theorem d_RD_clear_10 : decode c_RD_clearb 10 = .ok (.invokestatic 104, 3) := by decide +kernel
theorem d_RD_clear_13 : decode c_RD_clearb 13 = .ok (.return_, 1) := by decide +kernel
abbrev ws_clear (a_RD a_RD_inHand a_RD_generators a_Mo a_Sp a_Re a_Le : Nat) (cI cL cZ : ClassId) (RD_prime RD_generatorCount : Int32) (RD_inHand : Nat → Int32) : va_W := [(a_RD, .inr (0, [.int RD_prime, .int RD_generatorCount, .ref a_RD_inHand, .ref a_RD_generators, .ref a_Mo, .ref a_Sp, .ref a_Re, .ref a_Le])), (a_RD_inHand, .inl (cI, 126, .inl RD_inHand))]
abbrev rm_clear : Room := { frames := 1, cells := 0, slots := 0, locals := 23 }
abbrev g_clear (X : gX) (D : va_G) (cI cL cZ : ClassId) (a_RD a_RD_inHand a_RD_generators a_Mo a_Sp a_Re a_Le : Nat) (A : Nat → Prop) (RD_prime RD_generatorCount_r : Int32) (RD_inHand_r : Nat → Int32) (pc : Nat) (lv : List (Nat × Value)) (st : List Value) (RD_generatorCount : Int32) (RD_inHand : Nat → Int32) : Prop := ∀ (H : Heap) (locs : List Loc) (ls : Array Slot), va_P D classes (ws_clear a_RD a_RD_inHand a_RD_generators a_Mo a_Sp a_Re a_Le cI cL cZ RD_prime RD_generatorCount RD_inHand) H → va_D A (ws_clear a_RD a_RD_inHand a_RD_generators a_Mo a_Sp a_Re a_Le cI cL cZ RD_prime RD_generatorCount RD_inHand) → va_S A (gs X).heap H locs → lv_has ls 1 lv → gWW X rm_clear H locs 0 0 (MQ (gbl X) (va_Qv (fun _ : Unit => True) (gB D (gT cI cL cZ) A (ws_clear a_RD a_RD_inHand a_RD_generators a_Mo a_Sp a_Re a_Le cI cL cZ RD_prime RD_generatorCount_r RD_inHand_r)) A) (ga X) (gs X) 0 0 A) (F0 (gm X) pc ls st)
set_option maxHeartbeats 4000000 in
set_option maxRecDepth 100000 in
theorem e_clear (X : gX) (D : va_G) (cI cL cZ : ClassId) (a_RD a_RD_inHand a_RD_generators a_Mo a_Sp a_Re a_Le : Nat) (A : Nat → Prop) (RD_prime RD_generatorCount_r : Int32) (RD_inHand_r : Nat → Int32) (F : Nat) (C0 : gC X c_RD_clearb none 1 "RemnantDictionary" gAll) (hK : va_K D classes (gT cI cL cZ) (gs X)) (hA : ∀ q : Nat, (gs X).heap.size ≤ q → A q) (hN : gN (gs X)) (RD_generatorCount : Int32) (RD_inHand : Nat → Int32) (hrun : m_clear F RD_generatorCount RD_inHand = some (RD_generatorCount_r, RD_inHand_r)) : g_clear X D cI cL cZ a_RD a_RD_inHand a_RD_generators a_Mo a_Sp a_Re a_Le A RD_prime RD_generatorCount_r RD_inHand_r 0 [(0, .ref a_RD)] [] RD_generatorCount RD_inHand := by
  have C1 := C0
  obtain ⟨hx, hb, hr, hml, hown, hts, hlocks⟩ := C1
  unfold m_clear at hrun
  intro H locs ls hP hD hS hl
  refine lv_aload_n hx hb d_RD_clear_0 rfl (lv_at hl 0 rfl) ?_
  refine lv_iconst (v := 0) hx hb d_RD_clear_1 (by decide) ?_
  refine va_put (D := D) (ci := 0) (v := .int 0) (ty := .int) (C := "RemnantDictionary") (T := T_RD) (N := 8) hx hb hts iw_RD ty_RD ty_RD_ok nm_RD hown hK hP hD hS 0 rfl rfl 1 (by decide) (hts _ k_286) (fun _ h9 => h9) rfl (by decide +kernel) rfl rfl (Nat.le_of_ble_eq_true rfl) d_RD_clear_2 (fun H locs (hP : va_P D classes (ws_clear a_RD a_RD_inHand a_RD_generators a_Mo a_Sp a_Re a_Le cI cL cZ RD_prime 0 RD_inHand) H) (hD : va_D A (ws_clear a_RD a_RD_inHand a_RD_generators a_Mo a_Sp a_Re a_Le cI cL cZ RD_prime 0 RD_inHand)) hS => ?_)
  refine lv_aload_n hx hb d_RD_clear_5 rfl (lv_at hl 0 rfl) ?_
  refine va_get (D := D) (ci := 0) (v := .ref a_RD_inHand) (C := "RemnantDictionary") (T := T_RD) (N := 8) hx hb hts iw_RD hown hK hP 0 rfl rfl 2 (by decide) (hts _ k_306) (fun _ h9 => h9) rfl d_RD_clear_6 ?_
  refine lv_iconst (v := 0) hx hb d_RD_clear_9 (by decide) ?_
  obtain ⟨RD_inHand_1, hc, hrun⟩ := bd1_s hrun
  have hFc := va_free (wc := (ws_fill a_RD_inHand cI cL cZ 126 RD_inHand)) hD hS hA [1] rfl
  refine va_callv (va_runS (As := [.ref a_RD_inHand, .int 0]) (rest := []) ⟨hx, hb, hml, hown, hts⟩ (c_fill (gl X) D cI cL cZ a_RD_inHand F 126 RD_inHand 0 H.size RD_inHand_1 hc) (va_cwS 2 hts (gwS k_307 k_98 k_4 k_1) rfl rfl rfl (by decide +kernel) ⟨Nat.le_of_ble_eq_true rfl, Nat.le_of_ble_eq_true rfl⟩) (gpreSW (hP.sub (ws' := (ws_fill a_RD_inHand cI cL cZ 126 RD_inHand)) [1] rfl) hK hN (hD.sub (ws' := (ws_fill a_RD_inHand cI cL cZ 126 RD_inHand)) [1] (by decide) rfl)) rfl rfl hl.1 rfl (lv_room (Nat.le_of_ble_eq_true rfl)) d_RD_clear_10 ⟨Nat.le_of_ble_eq_true rfl, Nat.le_of_ble_eq_true rfl⟩) hS (fun q _ h => hFc q h) hFc (fun _ t H_2 locs ht hvm hw hB hz1 hk1 hS => ?_)
  obtain ⟨hP, hD⟩ := va_join (wr := [(a_RD, .inr (0, [.int RD_prime, .int 0, .ref a_RD_inHand, .ref a_RD_generators, .ref a_Mo, .ref a_Sp, .ref a_Re, .ref a_Le]))]) (w1 := (ws_fill a_RD_inHand cI cL cZ 126 RD_inHand_1)) hP hD [1] [0] rfl rfl (by decide) (by decide) hk1 hFc (by have h9 := hB.1; rw [ht] at h9; exact h9) hB.2.2
  have hP : va_P D classes (ws_clear a_RD a_RD_inHand a_RD_generators a_Mo a_Sp a_Re a_Le cI cL cZ RD_prime 0 RD_inHand_1) H_2 := hP.sub [0, 1] rfl
  have hD : va_D A (ws_clear a_RD a_RD_inHand a_RD_generators a_Mo a_Sp a_Re a_Le cI cL cZ RD_prime 0 RD_inHand_1) := hD.sub [0, 1] (by decide) rfl
  cases hrun
  exact W.vret hx hb hr (fun t ht hW => ⟨⟨(), rfl, trivial, gB_of ht hW.alike hP hK hD⟩, hS.F ht⟩) hS.2.2 d_RD_clear_13
set_option maxHeartbeats 4000000 in
set_option maxRecDepth 100000 in
theorem c_clear (l : Launch) (D : va_G) (cI cL cZ : ClassId) (a_RD a_RD_inHand a_RD_generators a_Mo a_Sp a_Re a_Le : Nat) (F : Nat) (RD_prime RD_generatorCount : Int32) (RD_inHand : Nat → Int32) (sz : Nat) (RD_generatorCount_r : Int32) (RD_inHand_r : Nat → Int32) (hrun : m_clear F RD_generatorCount RD_inHand = some (RD_generatorCount_r, RD_inHand_r)) : Met l y_RD_clear (.code y_RD_clear c_RD_clearb 1 none :: gAll) rm_clear (va_Pc [.ref a_RD] (gPW D (gT cI cL cZ) (ws_clear a_RD a_RD_inHand a_RD_generators a_Mo a_Sp a_Re a_Le cI cL cZ RD_prime RD_generatorCount RD_inHand) sz)) (va_Qv (fun _ : Unit => True) (gB D (gT cI cL cZ) (va_A (ws_clear a_RD a_RD_inHand a_RD_generators a_Mo a_Sp a_Re a_Le cI cL cZ RD_prime RD_generatorCount RD_inHand) sz) (ws_clear a_RD a_RD_inHand a_RD_generators a_Mo a_Sp a_Re a_Le cI cL cZ RD_prime RD_generatorCount_r RD_inHand_r)) (va_A (ws_clear a_RD a_RD_inHand a_RD_generators a_Mo a_Sp a_Re a_Le cI cL cZ RD_prime RD_generatorCount RD_inHand) sz)) 0 0 (va_A (ws_clear a_RD a_RD_inHand a_RD_generators a_Mo a_Sp a_Re a_Le cI cL cZ RD_prime RD_generatorCount RD_inHand) sz) := by
  refine Met.ofW (cc := c_RD_clearb) (maxL := 1) (ret := none) (by decide +kernel) rfl ?_
  intro p e s m args below meth c s₁ B hml hv
  obtain ⟨rfl, hsz, hP, hK, hN, hD0⟩ := hv
  subst hsz
  have hD := hD0.self (sz := s.heap.size)
  have hl := lv_entry ([.ref a_RD]) (n := 1) (Nat.le_of_ble_eq_true rfl)
  rw [lg_entry_eq]
  generalize (lg_sl ([.ref a_RD]) ++ List.replicate (1 - (lg_sl ([.ref a_RD])).length) Slot.unset).toArray = ls at hl ⊢
  exact e_clear (p, l, e, s, m, ([.ref a_RD] : List Value).toArray, below, meth, c) D cI cL cZ a_RD a_RD_inHand a_RD_generators a_Mo a_Sp a_Re a_Le (va_A (ws_clear a_RD a_RD_inHand a_RD_generators a_Mo a_Sp a_Re a_Le cI cL cZ RD_prime RD_generatorCount RD_inHand) s.heap.size) RD_prime RD_generatorCount_r RD_inHand_r F ⟨B.exec, B.bytes, B.returns, hml, findClass_of_methodNamed B.named, fun w h => atoms_spec (ws := (.code y_RD_clear c_RD_clearb 1 none :: gAll)) B.pre w (List.mem_cons_of_mem _ h), B.notSynchronized⟩ hK (fun q h => Or.inr h) hN RD_generatorCount RD_inHand hrun s.heap [] ls hP hD va_S.rf hl
theorem d_RD_left_0 : decode c_RD_leftb 0 = .ok (.iload_n 1, 1) := by decide +kernel
theorem d_RD_left_1 : decode c_RD_leftb 1 = .ok (.ifCond .lt 14, 3) := by decide +kernel
theorem d_RD_left_4 : decode c_RD_leftb 4 = .ok (.iload_n 1, 1) := by decide +kernel
theorem d_RD_left_5 : decode c_RD_leftb 5 = .ok (.aload_n 0, 1) := by decide +kernel
theorem d_RD_left_6 : decode c_RD_leftb 6 = .ok (.getfield 35, 3) := by decide +kernel
theorem d_RD_left_9 : decode c_RD_leftb 9 = .ok (.getfield 144, 3) := by decide +kernel
theorem d_RD_left_12 : decode c_RD_leftb 12 = .ok (.if_icmp .lt 7, 3) := by decide +kernel
theorem d_RD_left_15 : decode c_RD_leftb 15 = .ok (.iconst (-1), 1) := by decide +kernel
theorem d_RD_left_16 : decode c_RD_leftb 16 = .ok (.goto 12, 3) := by decide +kernel
theorem d_RD_left_19 : decode c_RD_leftb 19 = .ok (.aload_n 0, 1) := by decide +kernel
theorem d_RD_left_20 : decode c_RD_leftb 20 = .ok (.getfield 35, 3) := by decide +kernel
theorem d_RD_left_23 : decode c_RD_leftb 23 = .ok (.getfield 147, 3) := by decide +kernel
theorem d_RD_left_26 : decode c_RD_leftb 26 = .ok (.iload_n 1, 1) := by decide +kernel
theorem d_RD_left_27 : decode c_RD_leftb 27 = .ok (.iaload, 1) := by decide +kernel
theorem d_RD_left_28 : decode c_RD_leftb 28 = .ok (.ireturn, 1) := by decide +kernel
abbrev ws_left (a_RD a_Re a_Re_codes a_RD_inHand a_RD_generators a_Mo a_Sp a_Le a_Re_products a_Re_bounds a_Re_pairs a_Re_keys : Nat) (cI cL cZ : ClassId) (RD_prime RD_generatorCount Re_prime Re_variables Re_size Re_pairCount : Int32) (Re_codes : Nat → Int32) : va_W := [(a_RD, .inr (0, [.int RD_prime, .int RD_generatorCount, .ref a_RD_inHand, .ref a_RD_generators, .ref a_Mo, .ref a_Sp, .ref a_Re, .ref a_Le])), (a_Re, .inr (3, [.int Re_prime, .int Re_variables, .int Re_size, .ref a_Re_codes, .ref a_Re_products, .ref a_Re_bounds, .ref a_Re_pairs, .ref a_Re_keys, .int Re_pairCount])), (a_Re_codes, .inl (cI, 40, .inl Re_codes))]
abbrev rm_left : Room := { frames := 0, cells := 0, slots := 0, locals := 0 }
abbrev g_left (X : gX) (r_ : Int32) (pc : Nat) (lv : List (Nat × Value)) (st : List Value) : Prop := ∀ ls : Array Slot, lv_has ls 2 lv → gWW X rm_left (gs X).heap [] 0 0 (MQ (gbl X) (vp_Si (fun r => r = r_)) (ga X) (gs X) 0 0 (fun _ => False)) (F0 (gm X) pc ls st)
set_option maxHeartbeats 4000000 in
set_option maxRecDepth 100000 in
theorem e_left (X : gX) (D : va_G) (cI cL cZ : ClassId) (a_RD a_Re a_Re_codes a_RD_inHand a_RD_generators a_Mo a_Sp a_Le a_Re_products a_Re_bounds a_Re_pairs a_Re_keys : Nat) (F : Nat) (RD_prime RD_generatorCount Re_prime Re_variables Re_size Re_pairCount : Int32) (Re_codes : Nat → Int32) (r_ : Int32) (C0 : gC X c_RD_leftb (some .int) 2 "RemnantDictionary" gAll) (hK : va_K D classes (gT cI cL cZ) (gs X)) (hP : va_P D classes (ws_left a_RD a_Re a_Re_codes a_RD_inHand a_RD_generators a_Mo a_Sp a_Le a_Re_products a_Re_bounds a_Re_pairs a_Re_keys cI cL cZ RD_prime RD_generatorCount Re_prime Re_variables Re_size Re_pairCount Re_codes) (gs X).heap) (hN : gN (gs X)) (i1 : Int32) (hrun : m_left F Re_size Re_codes i1 = some r_) : g_left X r_ 0 [(0, .ref a_RD), (1, .int i1)] [] := by
  have C1 := C0
  obtain ⟨hx, hb, hr, hml, hown, hts, hlocks⟩ := C1
  unfold m_left at hrun
  intro ls hl
  refine lv_iload_n hx hb d_RD_left_0 rfl (lv_at hl 1 rfl) ?_
  refine g_if_lt (tgt := 15) hx hb d_RD_left_1 (by decide) hrun (fun _ hrun => ?_) (fun _ hrun => ?_)
  · refine lv_iconst (v := (-1)) hx hb d_RD_left_15 (by decide) ?_
    refine lv_goto (tgt := 28) hx hb d_RD_left_16 (by decide) ?_
    cases hrun
    exact W.iret hx hb hr (fun t ht hW => ⟨_, rfl, rfl, ht⟩) (fun q h => absurd h List.not_mem_nil) d_RD_left_28
  · refine lv_iload_n hx hb d_RD_left_4 rfl (lv_at hl 1 rfl) ?_
    refine lv_aload_n hx hb d_RD_left_5 rfl (lv_at hl 0 rfl) ?_
    refine va_get (D := D) (ci := 0) (v := .ref a_Re) (C := "RemnantDictionary") (T := T_RD) (N := 8) hx hb hts iw_RD hown hK hP 0 rfl rfl 6 (by decide) (hts _ k_309) (fun _ h9 => h9) rfl d_RD_left_6 ?_
    refine va_get (D := D) (ci := 3) (v := .int Re_size) (C := "RemnantDictionary$Remnant") (T := T_Re) (N := 9) hx hb hts iw_Re hown hK hP 1 rfl rfl 2 (by decide) (hts _ k_310) (fun _ h9 => h9) rfl d_RD_left_9 ?_
    refine g_icmp_lt (tgt := 19) hx hb d_RD_left_12 (by decide) hrun (fun _ hrun => ?_) (fun _ hrun => ?_)
    · refine lv_aload_n hx hb d_RD_left_19 rfl (lv_at hl 0 rfl) ?_
      refine va_get (D := D) (ci := 0) (v := .ref a_Re) (C := "RemnantDictionary") (T := T_RD) (N := 8) hx hb hts iw_RD hown hK hP 0 rfl rfl 6 (by decide) (hts _ k_309) (fun _ h9 => h9) rfl d_RD_left_20 ?_
      refine va_get (D := D) (ci := 3) (v := .ref a_Re_codes) (C := "RemnantDictionary$Remnant") (T := T_Re) (N := 9) hx hb hts iw_Re hown hK hP 1 rfl rfl 3 (by decide) (hts _ k_311) (fun _ h9 => h9) rfl d_RD_left_23 ?_
      refine lv_iload_n hx hb d_RD_left_26 rfl (lv_at hl 1 rfl) ?_
      refine g_iald hx hb hK hP 2 0 rfl rfl hrun d_RD_left_27 (fun x_1 hrun => ?_)
      cases hrun
      exact W.iret hx hb hr (fun t ht hW => ⟨_, rfl, rfl, ht⟩) (fun q h => absurd h List.not_mem_nil) d_RD_left_28
    · refine lv_iconst (v := (-1)) hx hb d_RD_left_15 (by decide) ?_
      refine lv_goto (tgt := 28) hx hb d_RD_left_16 (by decide) ?_
      cases hrun
      exact W.iret hx hb hr (fun t ht hW => ⟨_, rfl, rfl, ht⟩) (fun q h => absurd h List.not_mem_nil) d_RD_left_28
set_option maxHeartbeats 4000000 in
set_option maxRecDepth 100000 in
theorem c_left (l : Launch) (D : va_G) (cI cL cZ : ClassId) (a_RD a_Re a_Re_codes a_RD_inHand a_RD_generators a_Mo a_Sp a_Le a_Re_products a_Re_bounds a_Re_pairs a_Re_keys : Nat) (F : Nat) (RD_prime RD_generatorCount Re_prime Re_variables Re_size Re_pairCount : Int32) (Re_codes : Nat → Int32) (i1 : Int32) (r_ : Int32) (hrun : m_left F Re_size Re_codes i1 = some r_) : Met l y_RD_left (.code y_RD_left c_RD_leftb 2 (some .int) :: gAll) rm_left (va_Pc [.ref a_RD, .int i1] (gPR D (gT cI cL cZ) (ws_left a_RD a_Re a_Re_codes a_RD_inHand a_RD_generators a_Mo a_Sp a_Le a_Re_products a_Re_bounds a_Re_pairs a_Re_keys cI cL cZ RD_prime RD_generatorCount Re_prime Re_variables Re_size Re_pairCount Re_codes))) (vp_Si (fun r => r = r_)) 0 0 (fun _ => False) := by
  refine Met.ofW (cc := c_RD_leftb) (maxL := 2) (ret := (some .int)) (by decide +kernel) rfl ?_
  intro p e s m args below meth c s₁ B hml hv
  obtain ⟨rfl, hP, hK, hN⟩ := hv
  have hl := lv_entry ([.ref a_RD, .int i1]) (n := 2) (Nat.le_of_ble_eq_true rfl)
  rw [lg_entry_eq]
  generalize (lg_sl ([.ref a_RD, .int i1]) ++ List.replicate (2 - (lg_sl ([.ref a_RD, .int i1])).length) Slot.unset).toArray = ls at hl ⊢
  exact e_left (p, l, e, s, m, ([.ref a_RD, .int i1] : List Value).toArray, below, meth, c) D cI cL cZ a_RD a_Re a_Re_codes a_RD_inHand a_RD_generators a_Mo a_Sp a_Le a_Re_products a_Re_bounds a_Re_pairs a_Re_keys F RD_prime RD_generatorCount Re_prime Re_variables Re_size Re_pairCount Re_codes r_ ⟨B.exec, B.bytes, B.returns, hml, findClass_of_methodNamed B.named, fun w h => atoms_spec (ws := (.code y_RD_left c_RD_leftb 2 (some .int) :: gAll)) B.pre w (List.mem_cons_of_mem _ h), B.notSynchronized⟩ hK hP hN i1 hrun ls hl
theorem d_RD_times_0 : decode c_RD_timesb 0 = .ok (.iload_n 1, 1) := by decide +kernel
theorem d_RD_times_1 : decode c_RD_timesb 1 = .ok (.ifCond .lt 44, 3) := by decide +kernel
theorem d_RD_times_4 : decode c_RD_timesb 4 = .ok (.iload_n 1, 1) := by decide +kernel
theorem d_RD_times_5 : decode c_RD_timesb 5 = .ok (.aload_n 0, 1) := by decide +kernel
theorem d_RD_times_6 : decode c_RD_timesb 6 = .ok (.getfield 35, 3) := by decide +kernel
theorem d_RD_times_9 : decode c_RD_timesb 9 = .ok (.getfield 150, 3) := by decide +kernel
theorem d_RD_times_12 : decode c_RD_timesb 12 = .ok (.if_icmp .ge 33, 3) := by decide +kernel
theorem d_RD_times_15 : decode c_RD_timesb 15 = .ok (.iload_n 2, 1) := by decide +kernel
theorem d_RD_times_16 : decode c_RD_timesb 16 = .ok (.ifCond .lt 29, 3) := by decide +kernel
theorem d_RD_times_19 : decode c_RD_timesb 19 = .ok (.iload_n 2, 1) := by decide +kernel
theorem d_RD_times_20 : decode c_RD_timesb 20 = .ok (.aload_n 0, 1) := by decide +kernel
theorem d_RD_times_21 : decode c_RD_timesb 21 = .ok (.getfield 35, 3) := by decide +kernel
theorem d_RD_times_24 : decode c_RD_timesb 24 = .ok (.getfield 144, 3) := by decide +kernel
theorem d_RD_times_27 : decode c_RD_timesb 27 = .ok (.if_icmp .ge 18, 3) := by decide +kernel
theorem d_RD_times_30 : decode c_RD_timesb 30 = .ok (.iload_n 3, 1) := by decide +kernel
theorem d_RD_times_31 : decode c_RD_timesb 31 = .ok (.ifCond .lt 14, 3) := by decide +kernel
theorem d_RD_times_34 : decode c_RD_timesb 34 = .ok (.iload_n 3, 1) := by decide +kernel
theorem d_RD_times_35 : decode c_RD_timesb 35 = .ok (.aload_n 0, 1) := by decide +kernel
theorem d_RD_times_36 : decode c_RD_timesb 36 = .ok (.getfield 35, 3) := by decide +kernel
theorem d_RD_times_39 : decode c_RD_timesb 39 = .ok (.getfield 144, 3) := by decide +kernel
theorem d_RD_times_42 : decode c_RD_timesb 42 = .ok (.if_icmp .lt 5, 3) := by decide +kernel
theorem d_RD_times_45 : decode c_RD_timesb 45 = .ok (.iconst (-1), 1) := by decide +kernel
theorem d_RD_times_46 : decode c_RD_timesb 46 = .ok (.ireturn, 1) := by decide +kernel
theorem d_RD_times_47 : decode c_RD_timesb 47 = .ok (.aload_n 0, 1) := by decide +kernel
theorem d_RD_times_48 : decode c_RD_timesb 48 = .ok (.getfield 35, 3) := by decide +kernel
theorem d_RD_times_51 : decode c_RD_timesb 51 = .ok (.getfield 153, 3) := by decide +kernel
theorem d_RD_times_54 : decode c_RD_timesb 54 = .ok (.iload_n 1, 1) := by decide +kernel
theorem d_RD_times_55 : decode c_RD_timesb 55 = .ok (.iload_n 2, 1) := by decide +kernel
theorem d_RD_times_56 : decode c_RD_timesb 56 = .ok (.invokestatic 156, 3) := by decide +kernel
theorem d_RD_times_59 : decode c_RD_timesb 59 = .ok (.iload_n 3, 1) := by decide +kernel
theorem d_RD_times_60 : decode c_RD_timesb 60 = .ok (.iadd, 1) := by decide +kernel
theorem d_RD_times_61 : decode c_RD_timesb 61 = .ok (.iaload, 1) := by decide +kernel
theorem d_RD_times_62 : decode c_RD_timesb 62 = .ok (.ireturn, 1) := by decide +kernel
abbrev ws_times (a_RD a_Re a_Re_products a_RD_inHand a_RD_generators a_Mo a_Sp a_Le a_Re_codes a_Re_bounds a_Re_pairs a_Re_keys : Nat) (cI cL cZ : ClassId) (RD_prime RD_generatorCount Re_prime Re_variables Re_size Re_pairCount : Int32) (Re_products : Nat → Int32) : va_W := [(a_RD, .inr (0, [.int RD_prime, .int RD_generatorCount, .ref a_RD_inHand, .ref a_RD_generators, .ref a_Mo, .ref a_Sp, .ref a_Re, .ref a_Le])), (a_Re, .inr (3, [.int Re_prime, .int Re_variables, .int Re_size, .ref a_Re_codes, .ref a_Re_products, .ref a_Re_bounds, .ref a_Re_pairs, .ref a_Re_keys, .int Re_pairCount])), (a_Re_products, .inl (cI, 6400, .inl Re_products))]
abbrev rm_times : Room := { frames := 1, cells := 0, slots := 0, locals := 21 }
abbrev g_times (X : gX) (r_ : Int32) (pc : Nat) (lv : List (Nat × Value)) (st : List Value) : Prop := ∀ ls : Array Slot, lv_has ls 4 lv → gWW X rm_times (gs X).heap [] 0 0 (MQ (gbl X) (vp_Si (fun r => r = r_)) (ga X) (gs X) 0 0 (fun _ => False)) (F0 (gm X) pc ls st)
set_option maxHeartbeats 4000000 in
set_option maxRecDepth 100000 in
theorem e_times (X : gX) (D : va_G) (cI cL cZ : ClassId) (a_RD a_Re a_Re_products a_RD_inHand a_RD_generators a_Mo a_Sp a_Le a_Re_codes a_Re_bounds a_Re_pairs a_Re_keys : Nat) (F : Nat) (RD_prime RD_generatorCount Re_prime Re_variables Re_size Re_pairCount : Int32) (Re_products : Nat → Int32) (r_ : Int32) (C0 : gC X c_RD_timesb (some .int) 4 "RemnantDictionary" gAll) (hK : va_K D classes (gT cI cL cZ) (gs X)) (hP : va_P D classes (ws_times a_RD a_Re a_Re_products a_RD_inHand a_RD_generators a_Mo a_Sp a_Le a_Re_codes a_Re_bounds a_Re_pairs a_Re_keys cI cL cZ RD_prime RD_generatorCount Re_prime Re_variables Re_size Re_pairCount Re_products) (gs X).heap) (hN : gN (gs X)) (i1 i2 i3 : Int32) (hrun : m_times F Re_size Re_variables Re_products i1 i2 i3 = some r_) : g_times X r_ 0 [(0, .ref a_RD), (1, .int i1), (2, .int i2), (3, .int i3)] [] := by
  have C1 := C0
  obtain ⟨hx, hb, hr, hml, hown, hts, hlocks⟩ := C1
  unfold m_times at hrun
  intro ls hl
  refine lv_iload_n hx hb d_RD_times_0 rfl (lv_at hl 1 rfl) ?_
  refine g_if_lt (tgt := 45) hx hb d_RD_times_1 (by decide) hrun (fun _ hrun => ?_) (fun _ hrun => ?_)
  · refine lv_iconst (v := (-1)) hx hb d_RD_times_45 (by decide) ?_
    cases hrun
    exact W.iret hx hb hr (fun t ht hW => ⟨_, rfl, rfl, ht⟩) (fun q h => absurd h List.not_mem_nil) d_RD_times_46
  · refine lv_iload_n hx hb d_RD_times_4 rfl (lv_at hl 1 rfl) ?_
    refine lv_aload_n hx hb d_RD_times_5 rfl (lv_at hl 0 rfl) ?_
    refine va_get (D := D) (ci := 0) (v := .ref a_Re) (C := "RemnantDictionary") (T := T_RD) (N := 8) hx hb hts iw_RD hown hK hP 0 rfl rfl 6 (by decide) (hts _ k_309) (fun _ h9 => h9) rfl d_RD_times_6 ?_
    refine va_get (D := D) (ci := 3) (v := .int Re_variables) (C := "RemnantDictionary$Remnant") (T := T_Re) (N := 9) hx hb hts iw_Re hown hK hP 1 rfl rfl 1 (by decide) (hts _ k_313) (fun _ h9 => h9) rfl d_RD_times_9 ?_
    refine g_icmp_ge (tgt := 45) hx hb d_RD_times_12 (by decide) hrun (fun _ hrun => ?_) (fun _ hrun => ?_)
    · refine lv_iconst (v := (-1)) hx hb d_RD_times_45 (by decide) ?_
      cases hrun
      exact W.iret hx hb hr (fun t ht hW => ⟨_, rfl, rfl, ht⟩) (fun q h => absurd h List.not_mem_nil) d_RD_times_46
    · refine lv_iload_n hx hb d_RD_times_15 rfl (lv_at hl 2 rfl) ?_
      refine g_if_lt (tgt := 45) hx hb d_RD_times_16 (by decide) hrun (fun _ hrun => ?_) (fun _ hrun => ?_)
      · refine lv_iconst (v := (-1)) hx hb d_RD_times_45 (by decide) ?_
        cases hrun
        exact W.iret hx hb hr (fun t ht hW => ⟨_, rfl, rfl, ht⟩) (fun q h => absurd h List.not_mem_nil) d_RD_times_46
      · refine lv_iload_n hx hb d_RD_times_19 rfl (lv_at hl 2 rfl) ?_
        refine lv_aload_n hx hb d_RD_times_20 rfl (lv_at hl 0 rfl) ?_
        refine va_get (D := D) (ci := 0) (v := .ref a_Re) (C := "RemnantDictionary") (T := T_RD) (N := 8) hx hb hts iw_RD hown hK hP 0 rfl rfl 6 (by decide) (hts _ k_309) (fun _ h9 => h9) rfl d_RD_times_21 ?_
        refine va_get (D := D) (ci := 3) (v := .int Re_size) (C := "RemnantDictionary$Remnant") (T := T_Re) (N := 9) hx hb hts iw_Re hown hK hP 1 rfl rfl 2 (by decide) (hts _ k_310) (fun _ h9 => h9) rfl d_RD_times_24 ?_
        refine g_icmp_ge (tgt := 45) hx hb d_RD_times_27 (by decide) hrun (fun _ hrun => ?_) (fun _ hrun => ?_)
        · refine lv_iconst (v := (-1)) hx hb d_RD_times_45 (by decide) ?_
          cases hrun
          exact W.iret hx hb hr (fun t ht hW => ⟨_, rfl, rfl, ht⟩) (fun q h => absurd h List.not_mem_nil) d_RD_times_46
        · refine lv_iload_n hx hb d_RD_times_30 rfl (lv_at hl 3 rfl) ?_
          refine g_if_lt (tgt := 45) hx hb d_RD_times_31 (by decide) hrun (fun _ hrun => ?_) (fun _ hrun => ?_)
          · refine lv_iconst (v := (-1)) hx hb d_RD_times_45 (by decide) ?_
            cases hrun
            exact W.iret hx hb hr (fun t ht hW => ⟨_, rfl, rfl, ht⟩) (fun q h => absurd h List.not_mem_nil) d_RD_times_46
          · refine lv_iload_n hx hb d_RD_times_34 rfl (lv_at hl 3 rfl) ?_
            refine lv_aload_n hx hb d_RD_times_35 rfl (lv_at hl 0 rfl) ?_
            refine va_get (D := D) (ci := 0) (v := .ref a_Re) (C := "RemnantDictionary") (T := T_RD) (N := 8) hx hb hts iw_RD hown hK hP 0 rfl rfl 6 (by decide) (hts _ k_309) (fun _ h9 => h9) rfl d_RD_times_36 ?_
            refine va_get (D := D) (ci := 3) (v := .int Re_size) (C := "RemnantDictionary$Remnant") (T := T_Re) (N := 9) hx hb hts iw_Re hown hK hP 1 rfl rfl 2 (by decide) (hts _ k_310) (fun _ h9 => h9) rfl d_RD_times_39 ?_
            refine g_icmp_lt (tgt := 47) hx hb d_RD_times_42 (by decide) hrun (fun _ hrun => ?_) (fun _ hrun => ?_)
            · refine lv_aload_n hx hb d_RD_times_47 rfl (lv_at hl 0 rfl) ?_
              refine va_get (D := D) (ci := 0) (v := .ref a_Re) (C := "RemnantDictionary") (T := T_RD) (N := 8) hx hb hts iw_RD hown hK hP 0 rfl rfl 6 (by decide) (hts _ k_309) (fun _ h9 => h9) rfl d_RD_times_48 ?_
              refine va_get (D := D) (ci := 3) (v := .ref a_Re_products) (C := "RemnantDictionary$Remnant") (T := T_Re) (N := 9) hx hb hts iw_Re hown hK hP 1 rfl rfl 4 (by decide) (hts _ k_314) (fun _ h9 => h9) rfl d_RD_times_51 ?_
              refine lv_iload_n hx hb d_RD_times_54 rfl (lv_at hl 1 rfl) ?_
              refine lv_iload_n hx hb d_RD_times_55 rfl (lv_at hl 2 rfl) ?_
              obtain ⟨r_1, hc, hrun⟩ := bd1_s hrun
              refine vp_callSi (W.runS (As := [.int i1, .int i2]) (rest := [.ref a_Re_products]) ⟨hx, hb, hml, hown, hts⟩ (c_productRow (gl X) F i1 i2 r_1 hc) (va_cwS 2 hts (gwS k_315 k_189 k_14 k_27) rfl rfl rfl (by decide +kernel) ⟨Nat.le_of_ble_eq_true rfl, Nat.le_of_ble_eq_true rfl⟩) (gpreS0 hN) rfl rfl hl.1 rfl (lv_room (Nat.le_of_ble_eq_true rfl)) d_RD_times_56 ⟨Nat.le_of_ble_eq_true rfl, Nat.le_of_ble_eq_true rfl⟩) (nm_e ?_)
              refine lv_iload_n hx hb d_RD_times_59 rfl (lv_at hl 3 rfl) ?_
              refine lv_iadd hx hb d_RD_times_60 ?_
              refine g_iald hx hb hK hP 2 0 rfl rfl hrun d_RD_times_61 (fun x_2 hrun => ?_)
              cases hrun
              exact W.iret hx hb hr (fun t ht hW => ⟨_, rfl, rfl, ht⟩) (fun q h => absurd h List.not_mem_nil) d_RD_times_62
            · refine lv_iconst (v := (-1)) hx hb d_RD_times_45 (by decide) ?_
              cases hrun
              exact W.iret hx hb hr (fun t ht hW => ⟨_, rfl, rfl, ht⟩) (fun q h => absurd h List.not_mem_nil) d_RD_times_46
set_option maxHeartbeats 4000000 in
set_option maxRecDepth 100000 in
theorem c_times (l : Launch) (D : va_G) (cI cL cZ : ClassId) (a_RD a_Re a_Re_products a_RD_inHand a_RD_generators a_Mo a_Sp a_Le a_Re_codes a_Re_bounds a_Re_pairs a_Re_keys : Nat) (F : Nat) (RD_prime RD_generatorCount Re_prime Re_variables Re_size Re_pairCount : Int32) (Re_products : Nat → Int32) (i1 i2 i3 : Int32) (r_ : Int32) (hrun : m_times F Re_size Re_variables Re_products i1 i2 i3 = some r_) : Met l y_RD_times (.code y_RD_times c_RD_timesb 4 (some .int) :: gAll) rm_times (va_Pc [.ref a_RD, .int i1, .int i2, .int i3] (gPR D (gT cI cL cZ) (ws_times a_RD a_Re a_Re_products a_RD_inHand a_RD_generators a_Mo a_Sp a_Le a_Re_codes a_Re_bounds a_Re_pairs a_Re_keys cI cL cZ RD_prime RD_generatorCount Re_prime Re_variables Re_size Re_pairCount Re_products))) (vp_Si (fun r => r = r_)) 0 0 (fun _ => False) := by
  refine Met.ofW (cc := c_RD_timesb) (maxL := 4) (ret := (some .int)) (by decide +kernel) rfl ?_
  intro p e s m args below meth c s₁ B hml hv
  obtain ⟨rfl, hP, hK, hN⟩ := hv
  have hl := lv_entry ([.ref a_RD, .int i1, .int i2, .int i3]) (n := 4) (Nat.le_of_ble_eq_true rfl)
  rw [lg_entry_eq]
  generalize (lg_sl ([.ref a_RD, .int i1, .int i2, .int i3]) ++ List.replicate (4 - (lg_sl ([.ref a_RD, .int i1, .int i2, .int i3])).length) Slot.unset).toArray = ls at hl ⊢
  exact e_times (p, l, e, s, m, ([.ref a_RD, .int i1, .int i2, .int i3] : List Value).toArray, below, meth, c) D cI cL cZ a_RD a_Re a_Re_products a_RD_inHand a_RD_generators a_Mo a_Sp a_Le a_Re_codes a_Re_bounds a_Re_pairs a_Re_keys F RD_prime RD_generatorCount Re_prime Re_variables Re_size Re_pairCount Re_products r_ ⟨B.exec, B.bytes, B.returns, hml, findClass_of_methodNamed B.named, fun w h => atoms_spec (ws := (.code y_RD_times c_RD_timesb 4 (some .int) :: gAll)) B.pre w (List.mem_cons_of_mem _ h), B.notSynchronized⟩ hK hP hN i1 i2 i3 hrun ls hl
theorem d_RD_dictionary_0 : decode c_RD_dictionaryb 0 = .ok (.aload_n 0, 1) := by decide +kernel
theorem d_RD_dictionary_1 : decode c_RD_dictionaryb 1 = .ok (.getfield 42, 3) := by decide +kernel
theorem d_RD_dictionary_4 : decode c_RD_dictionaryb 4 = .ok (.getfield 159, 3) := by decide +kernel
theorem d_RD_dictionary_7 : decode c_RD_dictionaryb 7 = .ok (.ireturn, 1) := by decide +kernel
abbrev ws_dictionary (a_RD a_Le a_RD_inHand a_RD_generators a_Mo a_Sp a_Re a_Le_heads a_Le_tails a_Le_standard a_Le_images a_Le_steps a_Le_mixes a_Le_pivots a_Le_image a_Le_rest a_Le_mix : Nat) (cI cL cZ : ClassId) (RD_prime RD_generatorCount Le_prime Le_size Le_count Le_standardCount : Int32) : va_W := [(a_RD, .inr (0, [.int RD_prime, .int RD_generatorCount, .ref a_RD_inHand, .ref a_RD_generators, .ref a_Mo, .ref a_Sp, .ref a_Re, .ref a_Le])), (a_Le, .inr (4, [.int Le_prime, .int Le_size, .int Le_count, .ref a_Le_heads, .ref a_Le_tails, .ref a_Le_standard, .int Le_standardCount, .ref a_Le_images, .ref a_Le_steps, .ref a_Le_mixes, .ref a_Le_pivots, .ref a_Le_image, .ref a_Le_rest, .ref a_Le_mix]))]
abbrev rm_dictionary : Room := { frames := 0, cells := 0, slots := 0, locals := 0 }
abbrev g_dictionary (X : gX) (r_ : Int32) (pc : Nat) (lv : List (Nat × Value)) (st : List Value) : Prop := ∀ ls : Array Slot, lv_has ls 1 lv → gWW X rm_dictionary (gs X).heap [] 0 0 (MQ (gbl X) (vp_Si (fun r => r = r_)) (ga X) (gs X) 0 0 (fun _ => False)) (F0 (gm X) pc ls st)
set_option maxHeartbeats 4000000 in
set_option maxRecDepth 100000 in
theorem e_dictionary (X : gX) (D : va_G) (cI cL cZ : ClassId) (a_RD a_Le a_RD_inHand a_RD_generators a_Mo a_Sp a_Re a_Le_heads a_Le_tails a_Le_standard a_Le_images a_Le_steps a_Le_mixes a_Le_pivots a_Le_image a_Le_rest a_Le_mix : Nat) (F : Nat) (RD_prime RD_generatorCount Le_prime Le_size Le_count Le_standardCount r_ : Int32) (C0 : gC X c_RD_dictionaryb (some .int) 1 "RemnantDictionary" gAll) (hK : va_K D classes (gT cI cL cZ) (gs X)) (hP : va_P D classes (ws_dictionary a_RD a_Le a_RD_inHand a_RD_generators a_Mo a_Sp a_Re a_Le_heads a_Le_tails a_Le_standard a_Le_images a_Le_steps a_Le_mixes a_Le_pivots a_Le_image a_Le_rest a_Le_mix cI cL cZ RD_prime RD_generatorCount Le_prime Le_size Le_count Le_standardCount) (gs X).heap) (hN : gN (gs X))  (hrun : m_dictionary F Le_count = some r_) : g_dictionary X r_ 0 [(0, .ref a_RD)] [] := by
  have C1 := C0
  obtain ⟨hx, hb, hr, hml, hown, hts, hlocks⟩ := C1
  unfold m_dictionary at hrun
  intro ls hl
  refine lv_aload_n hx hb d_RD_dictionary_0 rfl (lv_at hl 0 rfl) ?_
  refine va_get (D := D) (ci := 0) (v := .ref a_Le) (C := "RemnantDictionary") (T := T_RD) (N := 8) hx hb hts iw_RD hown hK hP 0 rfl rfl 7 (by decide) (hts _ k_317) (fun _ h9 => h9) rfl d_RD_dictionary_1 ?_
  refine va_get (D := D) (ci := 4) (v := .int Le_count) (C := "RemnantDictionary$Lexicon") (T := T_Le) (N := 14) hx hb hts iw_Le hown hK hP 1 rfl rfl 2 (by decide) (hts _ k_318) (fun _ h9 => h9) rfl d_RD_dictionary_4 ?_
  cases hrun
  exact W.iret hx hb hr (fun t ht hW => ⟨_, rfl, rfl, ht⟩) (fun q h => absurd h List.not_mem_nil) d_RD_dictionary_7
set_option maxHeartbeats 4000000 in
set_option maxRecDepth 100000 in
theorem c_dictionary (l : Launch) (D : va_G) (cI cL cZ : ClassId) (a_RD a_Le a_RD_inHand a_RD_generators a_Mo a_Sp a_Re a_Le_heads a_Le_tails a_Le_standard a_Le_images a_Le_steps a_Le_mixes a_Le_pivots a_Le_image a_Le_rest a_Le_mix : Nat) (F : Nat) (RD_prime RD_generatorCount Le_prime Le_size Le_count Le_standardCount : Int32) (r_ : Int32) (hrun : m_dictionary F Le_count = some r_) : Met l y_RD_dictionary (.code y_RD_dictionary c_RD_dictionaryb 1 (some .int) :: gAll) rm_dictionary (va_Pc [.ref a_RD] (gPR D (gT cI cL cZ) (ws_dictionary a_RD a_Le a_RD_inHand a_RD_generators a_Mo a_Sp a_Re a_Le_heads a_Le_tails a_Le_standard a_Le_images a_Le_steps a_Le_mixes a_Le_pivots a_Le_image a_Le_rest a_Le_mix cI cL cZ RD_prime RD_generatorCount Le_prime Le_size Le_count Le_standardCount))) (vp_Si (fun r => r = r_)) 0 0 (fun _ => False) := by
  refine Met.ofW (cc := c_RD_dictionaryb) (maxL := 1) (ret := (some .int)) (by decide +kernel) rfl ?_
  intro p e s m args below meth c s₁ B hml hv
  obtain ⟨rfl, hP, hK, hN⟩ := hv
  have hl := lv_entry ([.ref a_RD]) (n := 1) (Nat.le_of_ble_eq_true rfl)
  rw [lg_entry_eq]
  generalize (lg_sl ([.ref a_RD]) ++ List.replicate (1 - (lg_sl ([.ref a_RD])).length) Slot.unset).toArray = ls at hl ⊢
  exact e_dictionary (p, l, e, s, m, ([.ref a_RD] : List Value).toArray, below, meth, c) D cI cL cZ a_RD a_Le a_RD_inHand a_RD_generators a_Mo a_Sp a_Re a_Le_heads a_Le_tails a_Le_standard a_Le_images a_Le_steps a_Le_mixes a_Le_pivots a_Le_image a_Le_rest a_Le_mix F RD_prime RD_generatorCount Le_prime Le_size Le_count Le_standardCount r_ ⟨B.exec, B.bytes, B.returns, hml, findClass_of_methodNamed B.named, fun w h => atoms_spec (ws := (.code y_RD_dictionary c_RD_dictionaryb 1 (some .int) :: gAll)) B.pre w (List.mem_cons_of_mem _ h), B.notSynchronized⟩ hK hP hN  hrun ls hl
theorem d_RD_entry_0 : decode c_RD_entryb 0 = .ok (.iload_n 1, 1) := by decide +kernel
theorem d_RD_entry_1 : decode c_RD_entryb 1 = .ok (.ifCond .lt 27, 3) := by decide +kernel
theorem d_RD_entry_4 : decode c_RD_entryb 4 = .ok (.iload_n 1, 1) := by decide +kernel
theorem d_RD_entry_5 : decode c_RD_entryb 5 = .ok (.aload_n 0, 1) := by decide +kernel
theorem d_RD_entry_6 : decode c_RD_entryb 6 = .ok (.getfield 42, 3) := by decide +kernel
theorem d_RD_entry_9 : decode c_RD_entryb 9 = .ok (.getfield 159, 3) := by decide +kernel
theorem d_RD_entry_12 : decode c_RD_entryb 12 = .ok (.if_icmp .ge 16, 3) := by decide +kernel
theorem d_RD_entry_15 : decode c_RD_entryb 15 = .ok (.iload_n 2, 1) := by decide +kernel
theorem d_RD_entry_16 : decode c_RD_entryb 16 = .ok (.ifCond .lt 12, 3) := by decide +kernel
theorem d_RD_entry_19 : decode c_RD_entryb 19 = .ok (.iload_n 3, 1) := by decide +kernel
theorem d_RD_entry_20 : decode c_RD_entryb 20 = .ok (.ifCond .eq 10, 3) := by decide +kernel
theorem d_RD_entry_23 : decode c_RD_entryb 23 = .ok (.iload_n 3, 1) := by decide +kernel
theorem d_RD_entry_24 : decode c_RD_entryb 24 = .ok (.iconst 1, 1) := by decide +kernel
theorem d_RD_entry_25 : decode c_RD_entryb 25 = .ok (.if_icmp .eq 5, 3) := by decide +kernel
theorem d_RD_entry_28 : decode c_RD_entryb 28 = .ok (.iconst (-1), 1) := by decide +kernel
theorem d_RD_entry_29 : decode c_RD_entryb 29 = .ok (.ireturn, 1) := by decide +kernel
theorem d_RD_entry_30 : decode c_RD_entryb 30 = .ok (.iload_n 2, 1) := by decide +kernel
theorem d_RD_entry_31 : decode c_RD_entryb 31 = .ok (.ifCond .ne 21, 3) := by decide +kernel
theorem d_RD_entry_34 : decode c_RD_entryb 34 = .ok (.iload_n 3, 1) := by decide +kernel
theorem d_RD_entry_35 : decode c_RD_entryb 35 = .ok (.ifCond .ne 15, 3) := by decide +kernel
theorem d_RD_entry_38 : decode c_RD_entryb 38 = .ok (.aload_n 0, 1) := by decide +kernel
theorem d_RD_entry_39 : decode c_RD_entryb 39 = .ok (.getfield 42, 3) := by decide +kernel
theorem d_RD_entry_42 : decode c_RD_entryb 42 = .ok (.getfield 162, 3) := by decide +kernel
theorem d_RD_entry_45 : decode c_RD_entryb 45 = .ok (.iload_n 1, 1) := by decide +kernel
theorem d_RD_entry_46 : decode c_RD_entryb 46 = .ok (.iaload, 1) := by decide +kernel
theorem d_RD_entry_47 : decode c_RD_entryb 47 = .ok (.goto 4, 3) := by decide +kernel
theorem d_RD_entry_50 : decode c_RD_entryb 50 = .ok (.iconst 1, 1) := by decide +kernel
theorem d_RD_entry_51 : decode c_RD_entryb 51 = .ok (.ireturn, 1) := by decide +kernel
theorem d_RD_entry_52 : decode c_RD_entryb 52 = .ok (.aload_n 0, 1) := by decide +kernel
theorem d_RD_entry_53 : decode c_RD_entryb 53 = .ok (.getfield 42, 3) := by decide +kernel
theorem d_RD_entry_56 : decode c_RD_entryb 56 = .ok (.iload_n 1, 1) := by decide +kernel
theorem d_RD_entry_57 : decode c_RD_entryb 57 = .ok (.iload_n 2, 1) := by decide +kernel
theorem d_RD_entry_58 : decode c_RD_entryb 58 = .ok (.invokevirtual 165, 3) := by decide +kernel
theorem d_RD_entry_61 : decode c_RD_entryb 61 = .ok (.istore 4, 2) := by decide +kernel
theorem d_RD_entry_63 : decode c_RD_entryb 63 = .ok (.iload 4, 2) := by decide +kernel
theorem d_RD_entry_65 : decode c_RD_entryb 65 = .ok (.iconst (-1), 1) := by decide +kernel
theorem d_RD_entry_66 : decode c_RD_entryb 66 = .ok (.if_icmp .ne 5, 3) := by decide +kernel
theorem d_RD_entry_69 : decode c_RD_entryb 69 = .ok (.iconst (-1), 1) := by decide +kernel
theorem d_RD_entry_70 : decode c_RD_entryb 70 = .ok (.ireturn, 1) := by decide +kernel
theorem d_RD_entry_71 : decode c_RD_entryb 71 = .ok (.iload_n 3, 1) := by decide +kernel
theorem d_RD_entry_72 : decode c_RD_entryb 72 = .ok (.ifCond .ne 16, 3) := by decide +kernel
theorem d_RD_entry_75 : decode c_RD_entryb 75 = .ok (.aload_n 0, 1) := by decide +kernel
theorem d_RD_entry_76 : decode c_RD_entryb 76 = .ok (.getfield 42, 3) := by decide +kernel
theorem d_RD_entry_79 : decode c_RD_entryb 79 = .ok (.getfield 168, 3) := by decide +kernel
theorem d_RD_entry_82 : decode c_RD_entryb 82 = .ok (.iload 4, 2) := by decide +kernel
theorem d_RD_entry_84 : decode c_RD_entryb 84 = .ok (.iaload, 1) := by decide +kernel
theorem d_RD_entry_85 : decode c_RD_entryb 85 = .ok (.goto 18, 3) := by decide +kernel
theorem d_RD_entry_88 : decode c_RD_entryb 88 = .ok (.aload_n 0, 1) := by decide +kernel
theorem d_RD_entry_89 : decode c_RD_entryb 89 = .ok (.getfield 42, 3) := by decide +kernel
theorem d_RD_entry_92 : decode c_RD_entryb 92 = .ok (.getfield 171, 3) := by decide +kernel
theorem d_RD_entry_95 : decode c_RD_entryb 95 = .ok (.iload_n 1, 1) := by decide +kernel
theorem d_RD_entry_96 : decode c_RD_entryb 96 = .ok (.bipush 40, 2) := by decide +kernel
theorem d_RD_entry_98 : decode c_RD_entryb 98 = .ok (.imul, 1) := by decide +kernel
theorem d_RD_entry_99 : decode c_RD_entryb 99 = .ok (.iload 4, 2) := by decide +kernel
theorem d_RD_entry_101 : decode c_RD_entryb 101 = .ok (.iadd, 1) := by decide +kernel
theorem d_RD_entry_102 : decode c_RD_entryb 102 = .ok (.iaload, 1) := by decide +kernel
theorem d_RD_entry_103 : decode c_RD_entryb 103 = .ok (.ireturn, 1) := by decide +kernel
abbrev ws_entry (a_RD a_Le a_Le_heads a_Le_tails a_Le_standard a_RD_inHand a_RD_generators a_Mo a_Sp a_Re a_Le_images a_Le_steps a_Le_mixes a_Le_pivots a_Le_image a_Le_rest a_Le_mix : Nat) (cI cL cZ : ClassId) (RD_prime RD_generatorCount Le_prime Le_size Le_count Le_standardCount : Int32) (Le_heads Le_tails Le_standard : Nat → Int32) : va_W := [(a_RD, .inr (0, [.int RD_prime, .int RD_generatorCount, .ref a_RD_inHand, .ref a_RD_generators, .ref a_Mo, .ref a_Sp, .ref a_Re, .ref a_Le])), (a_Le, .inr (4, [.int Le_prime, .int Le_size, .int Le_count, .ref a_Le_heads, .ref a_Le_tails, .ref a_Le_standard, .int Le_standardCount, .ref a_Le_images, .ref a_Le_steps, .ref a_Le_mixes, .ref a_Le_pivots, .ref a_Le_image, .ref a_Le_rest, .ref a_Le_mix])), (a_Le_heads, .inl (cI, 160, .inl Le_heads)), (a_Le_tails, .inl (cI, 6400, .inl Le_tails)), (a_Le_standard, .inl (cI, 40, .inl Le_standard))]
abbrev rm_entry : Room := { frames := 1, cells := 0, slots := 0, locals := 24 }
abbrev g_entry (X : gX) (r_ : Int32) (pc : Nat) (lv : List (Nat × Value)) (st : List Value) : Prop := ∀ ls : Array Slot, lv_has ls 5 lv → gWW X rm_entry (gs X).heap [] 0 0 (MQ (gbl X) (vp_Si (fun r => r = r_)) (ga X) (gs X) 0 0 (fun _ => False)) (F0 (gm X) pc ls st)
set_option maxHeartbeats 4000000 in
set_option maxRecDepth 100000 in
theorem w_entry_30 (X : gX) (D : va_G) (cI cL cZ : ClassId) (a_RD a_Le a_Le_heads a_Le_tails a_Le_standard a_RD_inHand a_RD_generators a_Mo a_Sp a_Re a_Le_images a_Le_steps a_Le_mixes a_Le_pivots a_Le_image a_Le_rest a_Le_mix : Nat) (F : Nat) (RD_prime RD_generatorCount Le_prime Le_size Le_count Le_standardCount : Int32) (Le_heads Le_tails Le_standard : Nat → Int32) (r_ : Int32) (C0 : gC X c_RD_entryb (some .int) 5 "RemnantDictionary" gAll) (hK : va_K D classes (gT cI cL cZ) (gs X)) (hP : va_P D classes (ws_entry a_RD a_Le a_Le_heads a_Le_tails a_Le_standard a_RD_inHand a_RD_generators a_Mo a_Sp a_Re a_Le_images a_Le_steps a_Le_mixes a_Le_pivots a_Le_image a_Le_rest a_Le_mix cI cL cZ RD_prime RD_generatorCount Le_prime Le_size Le_count Le_standardCount Le_heads Le_tails Le_standard) (gs X).heap) (hN : gN (gs X))  (i1 i2 i3 : Int32) (hrun : s_entry_30 F Le_count Le_standardCount Le_heads Le_tails Le_standard i1 i2 i3 = some r_) : g_entry X r_ 30 [(0, .ref a_RD), (1, .int i1), (2, .int i2), (3, .int i3)] [] := by
  have C1 := C0
  obtain ⟨hx, hb, hr, hml, hown, hts, hlocks⟩ := C1
  unfold s_entry_30 at hrun
  intro ls hl
  refine lv_iload_n hx hb d_RD_entry_30 rfl (lv_at hl 2 rfl) ?_
  refine g_if_ne (tgt := 52) hx hb d_RD_entry_31 (by decide) hrun (fun _ hrun => ?_) (fun _ hrun => ?_)
  · refine lv_aload_n hx hb d_RD_entry_52 rfl (lv_at hl 0 rfl) ?_
    refine va_get (D := D) (ci := 0) (v := .ref a_Le) (C := "RemnantDictionary") (T := T_RD) (N := 8) hx hb hts iw_RD hown hK hP 0 rfl rfl 7 (by decide) (hts _ k_317) (fun _ h9 => h9) rfl d_RD_entry_53 ?_
    refine lv_iload_n hx hb d_RD_entry_56 rfl (lv_at hl 1 rfl) ?_
    refine lv_iload_n hx hb d_RD_entry_57 rfl (lv_at hl 2 rfl) ?_
    obtain ⟨r_1, hc, hrun⟩ := bd1_s hrun
    refine vp_callSi (W.runV (As := [.int i1, .int i2]) (rest := []) ⟨hx, hb, hml, hown, hts⟩ (c_tailTerm (gl X) D cI cL cZ a_Le a_Le_tails a_Le_heads a_Le_standard a_Le_images a_Le_steps a_Le_mixes a_Le_pivots a_Le_image a_Le_rest a_Le_mix F Le_prime Le_size Le_count Le_standardCount Le_tails i1 i2 r_1 hc) (cwV 2 hts (gwV k_322 k_320 k_321 k_253 k_277) rfl rfl rfl (by decide +kernel) ⟨Nat.le_of_ble_eq_true rfl, Nat.le_of_ble_eq_true rfl⟩) (gpreV (hP.sub (ws' := (ws_tailTerm a_Le a_Le_tails a_Le_heads a_Le_standard a_Le_images a_Le_steps a_Le_mixes a_Le_pivots a_Le_image a_Le_rest a_Le_mix cI cL cZ Le_prime Le_size Le_count Le_standardCount Le_tails)) [1, 3] rfl) hK hN 4 0 rfl rfl) rfl rfl hl.1 rfl (lv_room (Nat.le_of_ble_eq_true rfl)) d_RD_entry_58 ⟨Nat.le_of_ble_eq_true rfl, Nat.le_of_ble_eq_true rfl⟩) (nm_e ?_)
    refine lv_istore (lv' := [(4, .int r_1), (0, .ref a_RD), (1, .int i1), (2, .int i2), (3, .int i3)]) hx hb d_RD_entry_61 hl (by decide) rfl (fun ls hl => ?_)
    refine lv_iload hx hb d_RD_entry_63 (lv_at hl 0 rfl) ?_
    refine lv_iconst (v := (-1)) hx hb d_RD_entry_65 (by decide) ?_
    refine g_icmp_ne (tgt := 71) hx hb d_RD_entry_66 (by decide) hrun (fun _ hrun => ?_) (fun _ hrun => ?_)
    · refine lv_iload_n hx hb d_RD_entry_71 rfl (lv_at hl 4 rfl) ?_
      refine g_if_ne (tgt := 88) hx hb d_RD_entry_72 (by decide) hrun (fun _ hrun => ?_) (fun _ hrun => ?_)
      · refine lv_aload_n hx hb d_RD_entry_88 rfl (lv_at hl 1 rfl) ?_
        refine va_get (D := D) (ci := 0) (v := .ref a_Le) (C := "RemnantDictionary") (T := T_RD) (N := 8) hx hb hts iw_RD hown hK hP 0 rfl rfl 7 (by decide) (hts _ k_317) (fun _ h9 => h9) rfl d_RD_entry_89 ?_
        refine va_get (D := D) (ci := 4) (v := .ref a_Le_tails) (C := "RemnantDictionary$Lexicon") (T := T_Le) (N := 14) hx hb hts iw_Le hown hK hP 1 rfl rfl 4 (by decide) (hts _ k_323) (fun _ h9 => h9) rfl d_RD_entry_92 ?_
        refine lv_iload_n hx hb d_RD_entry_95 rfl (lv_at hl 2 rfl) ?_
        refine lv_bipush (v := 40) hx hb d_RD_entry_96 (by decide) ?_
        refine lv_imul hx hb d_RD_entry_98 ?_
        refine lv_iload hx hb d_RD_entry_99 (lv_at hl 0 rfl) ?_
        refine lv_iadd hx hb d_RD_entry_101 ?_
        refine g_iald hx hb hK hP 3 0 rfl rfl hrun d_RD_entry_102 (fun x_2 hrun => ?_)
        cases hrun
        exact W.iret hx hb hr (fun t ht hW => ⟨_, rfl, rfl, ht⟩) (fun q h => absurd h List.not_mem_nil) d_RD_entry_103
      · refine lv_aload_n hx hb d_RD_entry_75 rfl (lv_at hl 1 rfl) ?_
        refine va_get (D := D) (ci := 0) (v := .ref a_Le) (C := "RemnantDictionary") (T := T_RD) (N := 8) hx hb hts iw_RD hown hK hP 0 rfl rfl 7 (by decide) (hts _ k_317) (fun _ h9 => h9) rfl d_RD_entry_76 ?_
        refine va_get (D := D) (ci := 4) (v := .ref a_Le_standard) (C := "RemnantDictionary$Lexicon") (T := T_Le) (N := 14) hx hb hts iw_Le hown hK hP 1 rfl rfl 5 (by decide) (hts _ k_324) (fun _ h9 => h9) rfl d_RD_entry_79 ?_
        refine lv_iload hx hb d_RD_entry_82 (lv_at hl 0 rfl) ?_
        refine g_iald hx hb hK hP 4 0 rfl rfl hrun d_RD_entry_84 (fun x_3 hrun => ?_)
        refine lv_goto (tgt := 103) hx hb d_RD_entry_85 (by decide) ?_
        cases hrun
        exact W.iret hx hb hr (fun t ht hW => ⟨_, rfl, rfl, ht⟩) (fun q h => absurd h List.not_mem_nil) d_RD_entry_103
    · refine lv_iconst (v := (-1)) hx hb d_RD_entry_69 (by decide) ?_
      cases hrun
      exact W.iret hx hb hr (fun t ht hW => ⟨_, rfl, rfl, ht⟩) (fun q h => absurd h List.not_mem_nil) d_RD_entry_70
  · refine lv_iload_n hx hb d_RD_entry_34 rfl (lv_at hl 3 rfl) ?_
    refine g_if_ne (tgt := 50) hx hb d_RD_entry_35 (by decide) hrun (fun _ hrun => ?_) (fun _ hrun => ?_)
    · refine lv_iconst (v := 1) hx hb d_RD_entry_50 (by decide) ?_
      cases hrun
      exact W.iret hx hb hr (fun t ht hW => ⟨_, rfl, rfl, ht⟩) (fun q h => absurd h List.not_mem_nil) d_RD_entry_51
    · refine lv_aload_n hx hb d_RD_entry_38 rfl (lv_at hl 0 rfl) ?_
      refine va_get (D := D) (ci := 0) (v := .ref a_Le) (C := "RemnantDictionary") (T := T_RD) (N := 8) hx hb hts iw_RD hown hK hP 0 rfl rfl 7 (by decide) (hts _ k_317) (fun _ h9 => h9) rfl d_RD_entry_39 ?_
      refine va_get (D := D) (ci := 4) (v := .ref a_Le_heads) (C := "RemnantDictionary$Lexicon") (T := T_Le) (N := 14) hx hb hts iw_Le hown hK hP 1 rfl rfl 3 (by decide) (hts _ k_325) (fun _ h9 => h9) rfl d_RD_entry_42 ?_
      refine lv_iload_n hx hb d_RD_entry_45 rfl (lv_at hl 1 rfl) ?_
      refine g_iald hx hb hK hP 2 0 rfl rfl hrun d_RD_entry_46 (fun x_4 hrun => ?_)
      refine lv_goto (tgt := 51) hx hb d_RD_entry_47 (by decide) ?_
      cases hrun
      exact W.iret hx hb hr (fun t ht hW => ⟨_, rfl, rfl, ht⟩) (fun q h => absurd h List.not_mem_nil) d_RD_entry_51
set_option maxHeartbeats 4000000 in
set_option maxRecDepth 100000 in
theorem e_entry (X : gX) (D : va_G) (cI cL cZ : ClassId) (a_RD a_Le a_Le_heads a_Le_tails a_Le_standard a_RD_inHand a_RD_generators a_Mo a_Sp a_Re a_Le_images a_Le_steps a_Le_mixes a_Le_pivots a_Le_image a_Le_rest a_Le_mix : Nat) (F : Nat) (RD_prime RD_generatorCount Le_prime Le_size Le_count Le_standardCount : Int32) (Le_heads Le_tails Le_standard : Nat → Int32) (r_ : Int32) (C0 : gC X c_RD_entryb (some .int) 5 "RemnantDictionary" gAll) (hK : va_K D classes (gT cI cL cZ) (gs X)) (hP : va_P D classes (ws_entry a_RD a_Le a_Le_heads a_Le_tails a_Le_standard a_RD_inHand a_RD_generators a_Mo a_Sp a_Re a_Le_images a_Le_steps a_Le_mixes a_Le_pivots a_Le_image a_Le_rest a_Le_mix cI cL cZ RD_prime RD_generatorCount Le_prime Le_size Le_count Le_standardCount Le_heads Le_tails Le_standard) (gs X).heap) (hN : gN (gs X)) (i1 i2 i3 : Int32) (hrun : m_entry F Le_count Le_standardCount Le_heads Le_tails Le_standard i1 i2 i3 = some r_) : g_entry X r_ 0 [(0, .ref a_RD), (1, .int i1), (2, .int i2), (3, .int i3)] [] := by
  have C1 := C0
  obtain ⟨hx, hb, hr, hml, hown, hts, hlocks⟩ := C1
  unfold m_entry at hrun
  intro ls hl
  refine lv_iload_n hx hb d_RD_entry_0 rfl (lv_at hl 1 rfl) ?_
  refine g_if_lt (tgt := 28) hx hb d_RD_entry_1 (by decide) hrun (fun _ hrun => ?_) (fun _ hrun => ?_)
  · refine lv_iconst (v := (-1)) hx hb d_RD_entry_28 (by decide) ?_
    cases hrun
    exact W.iret hx hb hr (fun t ht hW => ⟨_, rfl, rfl, ht⟩) (fun q h => absurd h List.not_mem_nil) d_RD_entry_29
  · refine lv_iload_n hx hb d_RD_entry_4 rfl (lv_at hl 1 rfl) ?_
    refine lv_aload_n hx hb d_RD_entry_5 rfl (lv_at hl 0 rfl) ?_
    refine va_get (D := D) (ci := 0) (v := .ref a_Le) (C := "RemnantDictionary") (T := T_RD) (N := 8) hx hb hts iw_RD hown hK hP 0 rfl rfl 7 (by decide) (hts _ k_317) (fun _ h9 => h9) rfl d_RD_entry_6 ?_
    refine va_get (D := D) (ci := 4) (v := .int Le_count) (C := "RemnantDictionary$Lexicon") (T := T_Le) (N := 14) hx hb hts iw_Le hown hK hP 1 rfl rfl 2 (by decide) (hts _ k_318) (fun _ h9 => h9) rfl d_RD_entry_9 ?_
    refine g_icmp_ge (tgt := 28) hx hb d_RD_entry_12 (by decide) hrun (fun _ hrun => ?_) (fun _ hrun => ?_)
    · refine lv_iconst (v := (-1)) hx hb d_RD_entry_28 (by decide) ?_
      cases hrun
      exact W.iret hx hb hr (fun t ht hW => ⟨_, rfl, rfl, ht⟩) (fun q h => absurd h List.not_mem_nil) d_RD_entry_29
    · refine lv_iload_n hx hb d_RD_entry_15 rfl (lv_at hl 2 rfl) ?_
      refine g_if_lt (tgt := 28) hx hb d_RD_entry_16 (by decide) hrun (fun _ hrun => ?_) (fun _ hrun => ?_)
      · refine lv_iconst (v := (-1)) hx hb d_RD_entry_28 (by decide) ?_
        cases hrun
        exact W.iret hx hb hr (fun t ht hW => ⟨_, rfl, rfl, ht⟩) (fun q h => absurd h List.not_mem_nil) d_RD_entry_29
      · refine lv_iload_n hx hb d_RD_entry_19 rfl (lv_at hl 3 rfl) ?_
        refine g_if_eq (tgt := 30) hx hb d_RD_entry_20 (by decide) hrun (fun _ hrun => ?_) (fun _ hrun => ?_)
        · exact w_entry_30 X D cI cL cZ a_RD a_Le a_Le_heads a_Le_tails a_Le_standard a_RD_inHand a_RD_generators a_Mo a_Sp a_Re a_Le_images a_Le_steps a_Le_mixes a_Le_pivots a_Le_image a_Le_rest a_Le_mix F RD_prime RD_generatorCount Le_prime Le_size Le_count Le_standardCount Le_heads Le_tails Le_standard r_ C0 hK hP hN  i1 i2 i3 hrun ls (lv_sub hl [0, 1, 2, 3] rfl)
        · refine lv_iload_n hx hb d_RD_entry_23 rfl (lv_at hl 3 rfl) ?_
          refine lv_iconst (v := 1) hx hb d_RD_entry_24 (by decide) ?_
          refine g_icmp_eq (tgt := 30) hx hb d_RD_entry_25 (by decide) hrun (fun _ hrun => ?_) (fun _ hrun => ?_)
          · exact w_entry_30 X D cI cL cZ a_RD a_Le a_Le_heads a_Le_tails a_Le_standard a_RD_inHand a_RD_generators a_Mo a_Sp a_Re a_Le_images a_Le_steps a_Le_mixes a_Le_pivots a_Le_image a_Le_rest a_Le_mix F RD_prime RD_generatorCount Le_prime Le_size Le_count Le_standardCount Le_heads Le_tails Le_standard r_ C0 hK hP hN  i1 i2 i3 hrun ls (lv_sub hl [0, 1, 2, 3] rfl)
          · refine lv_iconst (v := (-1)) hx hb d_RD_entry_28 (by decide) ?_
            cases hrun
            exact W.iret hx hb hr (fun t ht hW => ⟨_, rfl, rfl, ht⟩) (fun q h => absurd h List.not_mem_nil) d_RD_entry_29
set_option maxHeartbeats 4000000 in
set_option maxRecDepth 100000 in
theorem c_entry (l : Launch) (D : va_G) (cI cL cZ : ClassId) (a_RD a_Le a_Le_heads a_Le_tails a_Le_standard a_RD_inHand a_RD_generators a_Mo a_Sp a_Re a_Le_images a_Le_steps a_Le_mixes a_Le_pivots a_Le_image a_Le_rest a_Le_mix : Nat) (F : Nat) (RD_prime RD_generatorCount Le_prime Le_size Le_count Le_standardCount : Int32) (Le_heads Le_tails Le_standard : Nat → Int32) (i1 i2 i3 : Int32) (r_ : Int32) (hrun : m_entry F Le_count Le_standardCount Le_heads Le_tails Le_standard i1 i2 i3 = some r_) : Met l y_RD_entry (.code y_RD_entry c_RD_entryb 5 (some .int) :: gAll) rm_entry (va_Pc [.ref a_RD, .int i1, .int i2, .int i3] (gPR D (gT cI cL cZ) (ws_entry a_RD a_Le a_Le_heads a_Le_tails a_Le_standard a_RD_inHand a_RD_generators a_Mo a_Sp a_Re a_Le_images a_Le_steps a_Le_mixes a_Le_pivots a_Le_image a_Le_rest a_Le_mix cI cL cZ RD_prime RD_generatorCount Le_prime Le_size Le_count Le_standardCount Le_heads Le_tails Le_standard))) (vp_Si (fun r => r = r_)) 0 0 (fun _ => False) := by
  refine Met.ofW (cc := c_RD_entryb) (maxL := 5) (ret := (some .int)) (by decide +kernel) rfl ?_
  intro p e s m args below meth c s₁ B hml hv
  obtain ⟨rfl, hP, hK, hN⟩ := hv
  have hl := lv_entry ([.ref a_RD, .int i1, .int i2, .int i3]) (n := 5) (Nat.le_of_ble_eq_true rfl)
  rw [lg_entry_eq]
  generalize (lg_sl ([.ref a_RD, .int i1, .int i2, .int i3]) ++ List.replicate (5 - (lg_sl ([.ref a_RD, .int i1, .int i2, .int i3])).length) Slot.unset).toArray = ls at hl ⊢
  exact e_entry (p, l, e, s, m, ([.ref a_RD, .int i1, .int i2, .int i3] : List Value).toArray, below, meth, c) D cI cL cZ a_RD a_Le a_Le_heads a_Le_tails a_Le_standard a_RD_inHand a_RD_generators a_Mo a_Sp a_Re a_Le_images a_Le_steps a_Le_mixes a_Le_pivots a_Le_image a_Le_rest a_Le_mix F RD_prime RD_generatorCount Le_prime Le_size Le_count Le_standardCount Le_heads Le_tails Le_standard r_ ⟨B.exec, B.bytes, B.returns, hml, findClass_of_methodNamed B.named, fun w h => atoms_spec (ws := (.code y_RD_entry c_RD_entryb 5 (some .int) :: gAll)) B.pre w (List.mem_cons_of_mem _ h), B.notSynchronized⟩ hK hP hN i1 i2 i3 hrun ls hl
theorem d_RD_hand_0 : decode c_RD_handb 0 = .ok (.aload_n 0, 1) := by decide +kernel
theorem d_RD_hand_1 : decode c_RD_handb 1 = .ok (.getfield 19, 3) := by decide +kernel
theorem d_RD_hand_4 : decode c_RD_handb 4 = .ok (.iload_n 1, 1) := by decide +kernel
theorem d_RD_hand_5 : decode c_RD_handb 5 = .ok (.invokevirtual 72, 3) := by decide +kernel
theorem d_RD_hand_8 : decode c_RD_handb 8 = .ok (.istore_n 2, 1) := by decide +kernel
theorem d_RD_hand_9 : decode c_RD_handb 9 = .ok (.iload_n 2, 1) := by decide +kernel
theorem d_RD_hand_10 : decode c_RD_handb 10 = .ok (.iconst (-1), 1) := by decide +kernel
theorem d_RD_hand_11 : decode c_RD_handb 11 = .ok (.if_icmp .ne 7, 3) := by decide +kernel
theorem d_RD_hand_14 : decode c_RD_handb 14 = .ok (.iconst 0, 1) := by decide +kernel
theorem d_RD_hand_15 : decode c_RD_handb 15 = .ok (.goto 9, 3) := by decide +kernel
theorem d_RD_hand_18 : decode c_RD_handb 18 = .ok (.aload_n 0, 1) := by decide +kernel
theorem d_RD_hand_19 : decode c_RD_handb 19 = .ok (.getfield 9, 3) := by decide +kernel
theorem d_RD_hand_22 : decode c_RD_handb 22 = .ok (.iload_n 2, 1) := by decide +kernel
theorem d_RD_hand_23 : decode c_RD_handb 23 = .ok (.iaload, 1) := by decide +kernel
theorem d_RD_hand_24 : decode c_RD_handb 24 = .ok (.ireturn, 1) := by decide +kernel
abbrev ws_hand (a_RD a_Mo a_RD_inHand a_Mo_keys a_RD_generators a_Sp a_Re a_Le a_Mo_codes a_Mo_degrees a_Mo_raised : Nat) (cI cL cZ : ClassId) (RD_prime RD_generatorCount Mo_variables Mo_order Mo_highest Mo_count : Int32) (RD_inHand : Nat → Int32) (Mo_keys : Nat → Int64) : va_W := [(a_RD, .inr (0, [.int RD_prime, .int RD_generatorCount, .ref a_RD_inHand, .ref a_RD_generators, .ref a_Mo, .ref a_Sp, .ref a_Re, .ref a_Le])), (a_Mo, .inr (1, [.int Mo_variables, .int Mo_order, .int Mo_highest, .int Mo_count, .ref a_Mo_codes, .ref a_Mo_degrees, .ref a_Mo_keys, .ref a_Mo_raised])), (a_RD_inHand, .inl (cI, 126, .inl RD_inHand)), (a_Mo_keys, .inl (cL, 126, .inr (.inl Mo_keys)))]
abbrev rm_hand : Room := { frames := 4, cells := 0, slots := 0, locals := 93 }
abbrev g_hand (X : gX) (r_ : Int32) (pc : Nat) (lv : List (Nat × Value)) (st : List Value) : Prop := ∀ ls : Array Slot, lv_has ls 3 lv → gWW X rm_hand (gs X).heap [] 0 0 (MQ (gbl X) (vp_Si (fun r => r = r_)) (ga X) (gs X) 0 0 (fun _ => False)) (F0 (gm X) pc ls st)
set_option maxHeartbeats 4000000 in
set_option maxRecDepth 100000 in
theorem e_hand (X : gX) (D : va_G) (cI cL cZ : ClassId) (a_RD a_Mo a_RD_inHand a_Mo_keys a_RD_generators a_Sp a_Re a_Le a_Mo_codes a_Mo_degrees a_Mo_raised : Nat) (F : Nat) (RD_prime RD_generatorCount Mo_variables Mo_order Mo_highest Mo_count : Int32) (RD_inHand : Nat → Int32) (Mo_keys : Nat → Int64) (r_ : Int32) (C0 : gC X c_RD_handb (some .int) 3 "RemnantDictionary" gAll) (hK : va_K D classes (gT cI cL cZ) (gs X)) (hP : va_P D classes (ws_hand a_RD a_Mo a_RD_inHand a_Mo_keys a_RD_generators a_Sp a_Re a_Le a_Mo_codes a_Mo_degrees a_Mo_raised cI cL cZ RD_prime RD_generatorCount Mo_variables Mo_order Mo_highest Mo_count RD_inHand Mo_keys) (gs X).heap) (hN : gN (gs X)) (i1 : Int32) (hrun : m_hand F Mo_count Mo_order RD_inHand Mo_keys i1 = some r_) : g_hand X r_ 0 [(0, .ref a_RD), (1, .int i1)] [] := by
  have C1 := C0
  obtain ⟨hx, hb, hr, hml, hown, hts, hlocks⟩ := C1
  unfold m_hand at hrun
  intro ls hl
  refine lv_aload_n hx hb d_RD_hand_0 rfl (lv_at hl 0 rfl) ?_
  refine va_get (D := D) (ci := 0) (v := .ref a_Mo) (C := "RemnantDictionary") (T := T_RD) (N := 8) hx hb hts iw_RD hown hK hP 0 rfl rfl 4 (by decide) (hts _ k_327) (fun _ h9 => h9) rfl d_RD_hand_1 ?_
  refine lv_iload_n hx hb d_RD_hand_4 rfl (lv_at hl 1 rfl) ?_
  obtain ⟨r_1, hc, hrun⟩ := bd1_s hrun
  refine vp_callSi (W.runV (As := [.int i1]) (rest := []) ⟨hx, hb, hml, hown, hts⟩ (c_rank (gl X) D cI cL cZ a_Mo a_Mo_keys a_Mo_codes a_Mo_degrees a_Mo_raised F Mo_variables Mo_order Mo_highest Mo_count Mo_keys i1 r_1 hc) (cwV 1 hts (gwV k_328 k_56 k_57 k_48 k_45) rfl rfl rfl (by decide +kernel) ⟨Nat.le_of_ble_eq_true rfl, Nat.le_of_ble_eq_true rfl⟩) (gpreV (hP.sub (ws' := (ws_rank a_Mo a_Mo_keys a_Mo_codes a_Mo_degrees a_Mo_raised cI cL cZ Mo_variables Mo_order Mo_highest Mo_count Mo_keys)) [1, 3] rfl) hK hN 1 0 rfl rfl) rfl rfl hl.1 rfl (lv_room (Nat.le_of_ble_eq_true rfl)) d_RD_hand_5 ⟨Nat.le_of_ble_eq_true rfl, Nat.le_of_ble_eq_true rfl⟩) (nm_e ?_)
  refine lv_istore_n (lv' := [(2, .int r_1), (0, .ref a_RD), (1, .int i1)]) hx hb d_RD_hand_8 rfl hl (by decide) rfl (fun ls hl => ?_)
  refine lv_iload_n hx hb d_RD_hand_9 rfl (lv_at hl 0 rfl) ?_
  refine lv_iconst (v := (-1)) hx hb d_RD_hand_10 (by decide) ?_
  refine g_icmp_ne (tgt := 18) hx hb d_RD_hand_11 (by decide) hrun (fun _ hrun => ?_) (fun _ hrun => ?_)
  · refine lv_aload_n hx hb d_RD_hand_18 rfl (lv_at hl 1 rfl) ?_
    refine va_get (D := D) (ci := 0) (v := .ref a_RD_inHand) (C := "RemnantDictionary") (T := T_RD) (N := 8) hx hb hts iw_RD hown hK hP 0 rfl rfl 2 (by decide) (hts _ k_306) (fun _ h9 => h9) rfl d_RD_hand_19 ?_
    refine lv_iload_n hx hb d_RD_hand_22 rfl (lv_at hl 0 rfl) ?_
    refine g_iald hx hb hK hP 2 0 rfl rfl hrun d_RD_hand_23 (fun x_2 hrun => ?_)
    cases hrun
    exact W.iret hx hb hr (fun t ht hW => ⟨_, rfl, rfl, ht⟩) (fun q h => absurd h List.not_mem_nil) d_RD_hand_24
  · refine lv_iconst (v := 0) hx hb d_RD_hand_14 (by decide) ?_
    refine lv_goto (tgt := 24) hx hb d_RD_hand_15 (by decide) ?_
    cases hrun
    exact W.iret hx hb hr (fun t ht hW => ⟨_, rfl, rfl, ht⟩) (fun q h => absurd h List.not_mem_nil) d_RD_hand_24
set_option maxHeartbeats 4000000 in
set_option maxRecDepth 100000 in
theorem c_hand (l : Launch) (D : va_G) (cI cL cZ : ClassId) (a_RD a_Mo a_RD_inHand a_Mo_keys a_RD_generators a_Sp a_Re a_Le a_Mo_codes a_Mo_degrees a_Mo_raised : Nat) (F : Nat) (RD_prime RD_generatorCount Mo_variables Mo_order Mo_highest Mo_count : Int32) (RD_inHand : Nat → Int32) (Mo_keys : Nat → Int64) (i1 : Int32) (r_ : Int32) (hrun : m_hand F Mo_count Mo_order RD_inHand Mo_keys i1 = some r_) : Met l y_RD_hand (.code y_RD_hand c_RD_handb 3 (some .int) :: gAll) rm_hand (va_Pc [.ref a_RD, .int i1] (gPR D (gT cI cL cZ) (ws_hand a_RD a_Mo a_RD_inHand a_Mo_keys a_RD_generators a_Sp a_Re a_Le a_Mo_codes a_Mo_degrees a_Mo_raised cI cL cZ RD_prime RD_generatorCount Mo_variables Mo_order Mo_highest Mo_count RD_inHand Mo_keys))) (vp_Si (fun r => r = r_)) 0 0 (fun _ => False) := by
  refine Met.ofW (cc := c_RD_handb) (maxL := 3) (ret := (some .int)) (by decide +kernel) rfl ?_
  intro p e s m args below meth c s₁ B hml hv
  obtain ⟨rfl, hP, hK, hN⟩ := hv
  have hl := lv_entry ([.ref a_RD, .int i1]) (n := 3) (Nat.le_of_ble_eq_true rfl)
  rw [lg_entry_eq]
  generalize (lg_sl ([.ref a_RD, .int i1]) ++ List.replicate (3 - (lg_sl ([.ref a_RD, .int i1])).length) Slot.unset).toArray = ls at hl ⊢
  exact e_hand (p, l, e, s, m, ([.ref a_RD, .int i1] : List Value).toArray, below, meth, c) D cI cL cZ a_RD a_Mo a_RD_inHand a_Mo_keys a_RD_generators a_Sp a_Re a_Le a_Mo_codes a_Mo_degrees a_Mo_raised F RD_prime RD_generatorCount Mo_variables Mo_order Mo_highest Mo_count RD_inHand Mo_keys r_ ⟨B.exec, B.bytes, B.returns, hml, findClass_of_methodNamed B.named, fun w h => atoms_spec (ws := (.code y_RD_hand c_RD_handb 3 (some .int) :: gAll)) B.pre w (List.mem_cons_of_mem _ h), B.notSynchronized⟩ hK hP hN i1 hrun ls hl
