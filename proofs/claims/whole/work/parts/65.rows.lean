theorem d_Re_gather_0 : decode c_Re_gatherb 0 = .ok (.aload_n 0, 1) := by decide +kernel
theorem d_Re_gather_1 : decode c_Re_gatherb 1 = .ok (.aload_n 1, 1) := by decide +kernel
theorem d_Re_gather_2 : decode c_Re_gatherb 2 = .ok (.getfield 32, 3) := by decide +kernel
theorem d_Re_gather_5 : decode c_Re_gatherb 5 = .ok (.putfield 37, 3) := by decide +kernel
theorem d_Re_gather_8 : decode c_Re_gatherb 8 = .ok (.aload_n 0, 1) := by decide +kernel
theorem d_Re_gather_9 : decode c_Re_gatherb 9 = .ok (.aload_n 1, 1) := by decide +kernel
theorem d_Re_gather_10 : decode c_Re_gatherb 10 = .ok (.getfield 38, 3) := by decide +kernel
theorem d_Re_gather_13 : decode c_Re_gatherb 13 = .ok (.getfield 42, 3) := by decide +kernel
theorem d_Re_gather_16 : decode c_Re_gatherb 16 = .ok (.putfield 47, 3) := by decide +kernel
theorem d_Re_gather_19 : decode c_Re_gatherb 19 = .ok (.aload_n 0, 1) := by decide +kernel
theorem d_Re_gather_20 : decode c_Re_gatherb 20 = .ok (.aload_n 1, 1) := by decide +kernel
theorem d_Re_gather_21 : decode c_Re_gatherb 21 = .ok (.invokevirtual 48, 3) := by decide +kernel
theorem d_Re_gather_24 : decode c_Re_gatherb 24 = .ok (.ifCond .eq 11, 3) := by decide +kernel
theorem d_Re_gather_27 : decode c_Re_gatherb 27 = .ok (.aload_n 0, 1) := by decide +kernel
theorem d_Re_gather_28 : decode c_Re_gatherb 28 = .ok (.aload_n 1, 1) := by decide +kernel
theorem d_Re_gather_29 : decode c_Re_gatherb 29 = .ok (.invokevirtual 52, 3) := by decide +kernel
theorem d_Re_gather_32 : decode c_Re_gatherb 32 = .ok (.ifCond .ne 9, 3) := by decide +kernel
theorem d_Re_gather_35 : decode c_Re_gatherb 35 = .ok (.aload_n 0, 1) := by decide +kernel
theorem d_Re_gather_36 : decode c_Re_gatherb 36 = .ok (.invokevirtual 55, 3) := by decide +kernel
theorem d_Re_gather_39 : decode c_Re_gatherb 39 = .ok (.iconst 0, 1) := by decide +kernel
theorem d_Re_gather_40 : decode c_Re_gatherb 40 = .ok (.ireturn, 1) := by decide +kernel
theorem d_Re_gather_41 : decode c_Re_gatherb 41 = .ok (.iconst 1, 1) := by decide +kernel
theorem d_Re_gather_42 : decode c_Re_gatherb 42 = .ok (.ireturn, 1) := by decide +kernel
abbrev ws_gather (a_Mo a_Sp a_Re a_Mo_codes a_Sp_basis a_Re_codes a_Re_bounds a_Mo_degrees a_Mo_keys a_Mo_raised a_Sp_rows a_Sp_leads a_Sp_kept a_Sp_work a_Re_products a_Re_pairs a_Re_keys : Nat) (cI cL cZ : ClassId) (Mo_variables Mo_order Mo_highest Mo_count Sp_prime Sp_limit Sp_keptCount Sp_basisCount Re_prime Re_variables Re_size Re_pairCount : Int32) (Mo_codes Sp_basis Re_codes Re_bounds : Nat → Int32) : va_W := [(a_Mo, .inr (1, [.int Mo_variables, .int Mo_order, .int Mo_highest, .int Mo_count, .ref a_Mo_codes, .ref a_Mo_degrees, .ref a_Mo_keys, .ref a_Mo_raised])), (a_Sp, .inr (2, [.ref a_Mo, .int Sp_prime, .int Sp_limit, .ref a_Sp_rows, .ref a_Sp_leads, .ref a_Sp_kept, .int Sp_keptCount, .ref a_Sp_work, .ref a_Sp_basis, .int Sp_basisCount])), (a_Re, .inr (3, [.int Re_prime, .int Re_variables, .int Re_size, .ref a_Re_codes, .ref a_Re_products, .ref a_Re_bounds, .ref a_Re_pairs, .ref a_Re_keys, .int Re_pairCount])), (a_Mo_codes, .inl (cI, 126, .inl Mo_codes)), (a_Sp_basis, .inl (cI, 126, .inl Sp_basis)), (a_Re_codes, .inl (cI, 40, .inl Re_codes)), (a_Re_bounds, .inl (cI, 4, .inl Re_bounds))]
abbrev rm_gather : Room := { frames := 5, cells := 0, slots := 0, locals := 117 }
abbrev g_gather (X : gX) (D : va_G) (cI cL cZ : ClassId) (a_Mo a_Sp a_Re a_Mo_codes a_Sp_basis a_Re_codes a_Re_bounds a_Mo_degrees a_Mo_keys a_Mo_raised a_Sp_rows a_Sp_leads a_Sp_kept a_Sp_work a_Re_products a_Re_pairs a_Re_keys : Nat) (A : Nat → Prop) (Mo_variables Mo_order Mo_highest Mo_count Sp_prime Sp_limit Sp_keptCount Sp_basisCount Re_pairCount : Int32) (Mo_codes Sp_basis : Nat → Int32) (r_ Re_prime_r Re_size_r Re_variables_r : Int32) (Re_codes_r Re_bounds_r : Nat → Int32) (pc : Nat) (lv : List (Nat × Value)) (st : List Value) (Re_prime Re_size Re_variables : Int32) (Re_codes Re_bounds : Nat → Int32) : Prop := ∀ (H : Heap) (locs : List Loc) (ls : Array Slot), va_P D classes (ws_gather a_Mo a_Sp a_Re a_Mo_codes a_Sp_basis a_Re_codes a_Re_bounds a_Mo_degrees a_Mo_keys a_Mo_raised a_Sp_rows a_Sp_leads a_Sp_kept a_Sp_work a_Re_products a_Re_pairs a_Re_keys cI cL cZ Mo_variables Mo_order Mo_highest Mo_count Sp_prime Sp_limit Sp_keptCount Sp_basisCount Re_prime Re_variables Re_size Re_pairCount Mo_codes Sp_basis Re_codes Re_bounds) H → va_D A (ws_gather a_Mo a_Sp a_Re a_Mo_codes a_Sp_basis a_Re_codes a_Re_bounds a_Mo_degrees a_Mo_keys a_Mo_raised a_Sp_rows a_Sp_leads a_Sp_kept a_Sp_work a_Re_products a_Re_pairs a_Re_keys cI cL cZ Mo_variables Mo_order Mo_highest Mo_count Sp_prime Sp_limit Sp_keptCount Sp_basisCount Re_prime Re_variables Re_size Re_pairCount Mo_codes Sp_basis Re_codes Re_bounds) → va_S A (gs X).heap H locs → lv_has ls 2 lv → gWW X rm_gather H locs 0 0 (MQ (gbl X) (va_Qi (fun r (_ : Unit) => r = r_) (gB D (gT cI cL cZ) A (ws_gather a_Mo a_Sp a_Re a_Mo_codes a_Sp_basis a_Re_codes a_Re_bounds a_Mo_degrees a_Mo_keys a_Mo_raised a_Sp_rows a_Sp_leads a_Sp_kept a_Sp_work a_Re_products a_Re_pairs a_Re_keys cI cL cZ Mo_variables Mo_order Mo_highest Mo_count Sp_prime Sp_limit Sp_keptCount Sp_basisCount Re_prime_r Re_variables_r Re_size_r Re_pairCount Mo_codes Sp_basis Re_codes_r Re_bounds_r)) A) (ga X) (gs X) 0 0 A) (F0 (gm X) pc ls st)
set_option maxHeartbeats 4000000 in
set_option maxRecDepth 100000 in
theorem w_gather_35 (X : gX) (D : va_G) (cI cL cZ : ClassId) (a_Mo a_Sp a_Re a_Mo_codes a_Sp_basis a_Re_codes a_Re_bounds a_Mo_degrees a_Mo_keys a_Mo_raised a_Sp_rows a_Sp_leads a_Sp_kept a_Sp_work a_Re_products a_Re_pairs a_Re_keys : Nat) (A : Nat → Prop) (Mo_variables Mo_order Mo_highest Mo_count Sp_prime Sp_limit Sp_keptCount Sp_basisCount Re_pairCount : Int32) (Mo_codes Sp_basis : Nat → Int32) (r_ Re_prime_r Re_size_r Re_variables_r : Int32) (Re_codes_r Re_bounds_r : Nat → Int32) (F : Nat) (C0 : gC X c_Re_gatherb (some .boolean) 2 "RemnantDictionary$Remnant" gAll) (hK : va_K D classes (gT cI cL cZ) (gs X)) (hA : ∀ q : Nat, (gs X).heap.size ≤ q → A q) (hN : gN (gs X))  (Re_prime Re_size Re_variables : Int32) (Re_codes Re_bounds : Nat → Int32) (hrun : s_gather_35 F Mo_order Mo_variables Sp_basisCount Sp_prime Mo_codes Sp_basis Re_prime Re_size Re_variables Re_codes Re_bounds = some (r_, Re_prime_r, Re_size_r, Re_variables_r, Re_codes_r, Re_bounds_r)) : g_gather X D cI cL cZ a_Mo a_Sp a_Re a_Mo_codes a_Sp_basis a_Re_codes a_Re_bounds a_Mo_degrees a_Mo_keys a_Mo_raised a_Sp_rows a_Sp_leads a_Sp_kept a_Sp_work a_Re_products a_Re_pairs a_Re_keys A Mo_variables Mo_order Mo_highest Mo_count Sp_prime Sp_limit Sp_keptCount Sp_basisCount Re_pairCount Mo_codes Sp_basis r_ Re_prime_r Re_size_r Re_variables_r Re_codes_r Re_bounds_r 35 [(0, .ref a_Re)] [] Re_prime Re_size Re_variables Re_codes Re_bounds := by
  have C1 := C0
  obtain ⟨hx, hb, hr, hml, hown, hts, hlocks⟩ := C1
  unfold s_gather_35 at hrun
  intro H locs ls hP hD hS hl
  refine lv_aload_n hx hb d_Re_gather_35 rfl (lv_at hl 0 rfl) ?_
  obtain ⟨Re_size_1, hc, hrun⟩ := bd1_s hrun
  have hFc := va_free (wc := (ws_reForget a_Re a_Re_codes a_Re_products a_Re_bounds a_Re_pairs a_Re_keys cI cL cZ Re_prime Re_variables Re_size Re_pairCount)) hD hS hA [2] rfl
  refine va_callv (va_runV (As := []) (rest := []) ⟨hx, hb, hml, hown, hts⟩ (c_reForget (gl X) D cI cL cZ a_Re a_Re_codes a_Re_products a_Re_bounds a_Re_pairs a_Re_keys F Re_prime Re_variables Re_size Re_pairCount H.size Re_size_1 hc) (cwV 0 hts (gwV k_162 k_160 k_161 k_157 k_143) rfl rfl rfl (by decide +kernel) ⟨Nat.le_of_ble_eq_true rfl, Nat.le_of_ble_eq_true rfl⟩) (gpreVW (hP.sub (ws' := (ws_reForget a_Re a_Re_codes a_Re_products a_Re_bounds a_Re_pairs a_Re_keys cI cL cZ Re_prime Re_variables Re_size Re_pairCount)) [2] rfl) hK hN (hD.sub (ws' := (ws_reForget a_Re a_Re_codes a_Re_products a_Re_bounds a_Re_pairs a_Re_keys cI cL cZ Re_prime Re_variables Re_size Re_pairCount)) [2] (by decide) rfl) 3 0 rfl rfl) rfl rfl hl.1 rfl (lv_room (Nat.le_of_ble_eq_true rfl)) d_Re_gather_36 ⟨Nat.le_of_ble_eq_true rfl, Nat.le_of_ble_eq_true rfl⟩) hS (fun q _ h => hFc q h) hFc (fun _ t H_2 locs ht hvm hw hB hz1 hk1 hS => ?_)
  obtain ⟨hP, hD⟩ := va_join (wr := [(a_Mo, .inr (1, [.int Mo_variables, .int Mo_order, .int Mo_highest, .int Mo_count, .ref a_Mo_codes, .ref a_Mo_degrees, .ref a_Mo_keys, .ref a_Mo_raised])), (a_Sp, .inr (2, [.ref a_Mo, .int Sp_prime, .int Sp_limit, .ref a_Sp_rows, .ref a_Sp_leads, .ref a_Sp_kept, .int Sp_keptCount, .ref a_Sp_work, .ref a_Sp_basis, .int Sp_basisCount])), (a_Mo_codes, .inl (cI, 126, .inl Mo_codes)), (a_Sp_basis, .inl (cI, 126, .inl Sp_basis)), (a_Re_codes, .inl (cI, 40, .inl Re_codes)), (a_Re_bounds, .inl (cI, 4, .inl Re_bounds))]) (w1 := (ws_reForget a_Re a_Re_codes a_Re_products a_Re_bounds a_Re_pairs a_Re_keys cI cL cZ Re_prime Re_variables Re_size_1 Re_pairCount)) hP hD [2] [0, 1, 3, 4, 5, 6] rfl rfl (by decide) (by decide) hk1 hFc (by have h9 := hB.1; rw [ht] at h9; exact h9) hB.2.2
  have hP : va_P D classes (ws_gather a_Mo a_Sp a_Re a_Mo_codes a_Sp_basis a_Re_codes a_Re_bounds a_Mo_degrees a_Mo_keys a_Mo_raised a_Sp_rows a_Sp_leads a_Sp_kept a_Sp_work a_Re_products a_Re_pairs a_Re_keys cI cL cZ Mo_variables Mo_order Mo_highest Mo_count Sp_prime Sp_limit Sp_keptCount Sp_basisCount Re_prime Re_variables Re_size_1 Re_pairCount Mo_codes Sp_basis Re_codes Re_bounds) H_2 := hP.sub [0, 1, 6, 2, 3, 4, 5] rfl
  have hD : va_D A (ws_gather a_Mo a_Sp a_Re a_Mo_codes a_Sp_basis a_Re_codes a_Re_bounds a_Mo_degrees a_Mo_keys a_Mo_raised a_Sp_rows a_Sp_leads a_Sp_kept a_Sp_work a_Re_products a_Re_pairs a_Re_keys cI cL cZ Mo_variables Mo_order Mo_highest Mo_count Sp_prime Sp_limit Sp_keptCount Sp_basisCount Re_prime Re_variables Re_size_1 Re_pairCount Mo_codes Sp_basis Re_codes Re_bounds) := hD.sub [0, 1, 6, 2, 3, 4, 5] (by decide) rfl
  refine lv_iconst (v := 0) hx hb d_Re_gather_39 (by decide) ?_
  cases hrun
  exact W.zret hx hb hr rfl (fun t ht hW => ⟨⟨_, (), rfl, rfl, gB_of ht hW.alike hP hK hD⟩, hS.F ht⟩) hS.2.2 d_Re_gather_40
set_option maxHeartbeats 4000000 in
set_option maxRecDepth 100000 in
theorem e_gather (X : gX) (D : va_G) (cI cL cZ : ClassId) (a_Mo a_Sp a_Re a_Mo_codes a_Sp_basis a_Re_codes a_Re_bounds a_Mo_degrees a_Mo_keys a_Mo_raised a_Sp_rows a_Sp_leads a_Sp_kept a_Sp_work a_Re_products a_Re_pairs a_Re_keys : Nat) (A : Nat → Prop) (Mo_variables Mo_order Mo_highest Mo_count Sp_prime Sp_limit Sp_keptCount Sp_basisCount Re_pairCount : Int32) (Mo_codes Sp_basis : Nat → Int32) (r_ Re_prime_r Re_size_r Re_variables_r : Int32) (Re_codes_r Re_bounds_r : Nat → Int32) (F : Nat) (C0 : gC X c_Re_gatherb (some .boolean) 2 "RemnantDictionary$Remnant" gAll) (hK : va_K D classes (gT cI cL cZ) (gs X)) (hA : ∀ q : Nat, (gs X).heap.size ≤ q → A q) (hN : gN (gs X)) (Re_prime Re_size Re_variables : Int32) (Re_codes Re_bounds : Nat → Int32) (hrun : m_gather F Mo_order Mo_variables Sp_basisCount Sp_prime Mo_codes Sp_basis Re_prime Re_size Re_variables Re_codes Re_bounds = some (r_, Re_prime_r, Re_size_r, Re_variables_r, Re_codes_r, Re_bounds_r)) : g_gather X D cI cL cZ a_Mo a_Sp a_Re a_Mo_codes a_Sp_basis a_Re_codes a_Re_bounds a_Mo_degrees a_Mo_keys a_Mo_raised a_Sp_rows a_Sp_leads a_Sp_kept a_Sp_work a_Re_products a_Re_pairs a_Re_keys A Mo_variables Mo_order Mo_highest Mo_count Sp_prime Sp_limit Sp_keptCount Sp_basisCount Re_pairCount Mo_codes Sp_basis r_ Re_prime_r Re_size_r Re_variables_r Re_codes_r Re_bounds_r 0 [(0, .ref a_Re), (1, .ref a_Sp)] [] Re_prime Re_size Re_variables Re_codes Re_bounds := by
  have C1 := C0
  obtain ⟨hx, hb, hr, hml, hown, hts, hlocks⟩ := C1
  unfold m_gather at hrun
  intro H locs ls hP hD hS hl
  refine lv_aload_n hx hb d_Re_gather_0 rfl (lv_at hl 0 rfl) ?_
  refine lv_aload_n hx hb d_Re_gather_1 rfl (lv_at hl 1 rfl) ?_
  refine va_get (D := D) (ci := 2) (v := .int Sp_prime) (C := "RemnantDictionary$Space") (T := T_Sp) (N := 10) hx hb hts iw_Sp hown hK hP 1 rfl rfl 1 (by decide) (hts _ k_164) (fun _ h9 => h9) rfl d_Re_gather_2 ?_
  refine va_put (D := D) (ci := 3) (v := .int Sp_prime) (ty := .int) (C := "RemnantDictionary$Remnant") (T := T_Re) (N := 9) hx hb hts iw_Re ty_Re ty_Re_ok nm_Re hown hK hP hD hS 2 rfl rfl 0 (by decide) (hts _ k_165) (fun _ h9 => h9) rfl (by decide +kernel) rfl rfl (Nat.le_of_ble_eq_true rfl) d_Re_gather_5 (fun H locs (hP : va_P D classes (ws_gather a_Mo a_Sp a_Re a_Mo_codes a_Sp_basis a_Re_codes a_Re_bounds a_Mo_degrees a_Mo_keys a_Mo_raised a_Sp_rows a_Sp_leads a_Sp_kept a_Sp_work a_Re_products a_Re_pairs a_Re_keys cI cL cZ Mo_variables Mo_order Mo_highest Mo_count Sp_prime Sp_limit Sp_keptCount Sp_basisCount Sp_prime Re_variables Re_size Re_pairCount Mo_codes Sp_basis Re_codes Re_bounds) H) (hD : va_D A (ws_gather a_Mo a_Sp a_Re a_Mo_codes a_Sp_basis a_Re_codes a_Re_bounds a_Mo_degrees a_Mo_keys a_Mo_raised a_Sp_rows a_Sp_leads a_Sp_kept a_Sp_work a_Re_products a_Re_pairs a_Re_keys cI cL cZ Mo_variables Mo_order Mo_highest Mo_count Sp_prime Sp_limit Sp_keptCount Sp_basisCount Sp_prime Re_variables Re_size Re_pairCount Mo_codes Sp_basis Re_codes Re_bounds)) hS => ?_)
  refine lv_aload_n hx hb d_Re_gather_8 rfl (lv_at hl 0 rfl) ?_
  refine lv_aload_n hx hb d_Re_gather_9 rfl (lv_at hl 1 rfl) ?_
  refine va_get (D := D) (ci := 2) (v := .ref a_Mo) (C := "RemnantDictionary$Space") (T := T_Sp) (N := 10) hx hb hts iw_Sp hown hK hP 1 rfl rfl 0 (by decide) (hts _ k_153) (fun _ h9 => h9) rfl d_Re_gather_10 ?_
  refine va_get (D := D) (ci := 1) (v := .int Mo_variables) (C := "RemnantDictionary$Monomials") (T := T_Mo) (N := 8) hx hb hts iw_Mo hown hK hP 0 rfl rfl 0 (by decide) (hts _ k_166) (fun _ h9 => h9) rfl d_Re_gather_13 ?_
  refine va_put (D := D) (ci := 3) (v := .int Mo_variables) (ty := .int) (C := "RemnantDictionary$Remnant") (T := T_Re) (N := 9) hx hb hts iw_Re ty_Re ty_Re_ok nm_Re hown hK hP hD hS 2 rfl rfl 1 (by decide) (hts _ k_146) (fun _ h9 => h9) rfl (by decide +kernel) rfl rfl (Nat.le_of_ble_eq_true rfl) d_Re_gather_16 (fun H locs (hP : va_P D classes (ws_gather a_Mo a_Sp a_Re a_Mo_codes a_Sp_basis a_Re_codes a_Re_bounds a_Mo_degrees a_Mo_keys a_Mo_raised a_Sp_rows a_Sp_leads a_Sp_kept a_Sp_work a_Re_products a_Re_pairs a_Re_keys cI cL cZ Mo_variables Mo_order Mo_highest Mo_count Sp_prime Sp_limit Sp_keptCount Sp_basisCount Sp_prime Mo_variables Re_size Re_pairCount Mo_codes Sp_basis Re_codes Re_bounds) H) (hD : va_D A (ws_gather a_Mo a_Sp a_Re a_Mo_codes a_Sp_basis a_Re_codes a_Re_bounds a_Mo_degrees a_Mo_keys a_Mo_raised a_Sp_rows a_Sp_leads a_Sp_kept a_Sp_work a_Re_products a_Re_pairs a_Re_keys cI cL cZ Mo_variables Mo_order Mo_highest Mo_count Sp_prime Sp_limit Sp_keptCount Sp_basisCount Sp_prime Mo_variables Re_size Re_pairCount Mo_codes Sp_basis Re_codes Re_bounds)) hS => ?_)
  refine lv_aload_n hx hb d_Re_gather_19 rfl (lv_at hl 0 rfl) ?_
  refine lv_aload_n hx hb d_Re_gather_20 rfl (lv_at hl 1 rfl) ?_
  obtain ⟨r_1, Re_bounds_2, hc, hrun⟩ := bd2_s hrun
  have hFc := va_free (wc := (ws_setBounds a_Mo a_Sp a_Re a_Mo_codes a_Sp_basis a_Re_bounds a_Mo_degrees a_Mo_keys a_Mo_raised a_Sp_rows a_Sp_leads a_Sp_kept a_Sp_work a_Re_codes a_Re_products a_Re_pairs a_Re_keys cI cL cZ Mo_variables Mo_order Mo_highest Mo_count Sp_prime Sp_limit Sp_keptCount Sp_basisCount Sp_prime Mo_variables Re_size Re_pairCount Mo_codes Sp_basis Re_bounds)) hD hS hA [0, 1, 2, 3, 4, 6] rfl
  refine va_calli (va_runV (As := [.ref a_Sp]) (rest := []) ⟨hx, hb, hml, hown, hts⟩ (c_setBounds (gl X) D cI cL cZ a_Mo a_Sp a_Re a_Mo_codes a_Sp_basis a_Re_bounds a_Mo_degrees a_Mo_keys a_Mo_raised a_Sp_rows a_Sp_leads a_Sp_kept a_Sp_work a_Re_codes a_Re_products a_Re_pairs a_Re_keys F Mo_variables Mo_order Mo_highest Mo_count Sp_prime Sp_limit Sp_keptCount Sp_basisCount Sp_prime Mo_variables Re_size Re_pairCount Mo_codes Sp_basis Re_bounds H.size r_1 Re_bounds_2 hc) (cwV 1 hts (gwV k_169 k_167 k_168 k_157 k_145) rfl rfl rfl (by decide +kernel) ⟨Nat.le_of_ble_eq_true rfl, Nat.le_of_ble_eq_true rfl⟩) (gpreVW (hP.sub (ws' := (ws_setBounds a_Mo a_Sp a_Re a_Mo_codes a_Sp_basis a_Re_bounds a_Mo_degrees a_Mo_keys a_Mo_raised a_Sp_rows a_Sp_leads a_Sp_kept a_Sp_work a_Re_codes a_Re_products a_Re_pairs a_Re_keys cI cL cZ Mo_variables Mo_order Mo_highest Mo_count Sp_prime Sp_limit Sp_keptCount Sp_basisCount Sp_prime Mo_variables Re_size Re_pairCount Mo_codes Sp_basis Re_bounds)) [0, 1, 2, 3, 4, 6] rfl) hK hN (hD.sub (ws' := (ws_setBounds a_Mo a_Sp a_Re a_Mo_codes a_Sp_basis a_Re_bounds a_Mo_degrees a_Mo_keys a_Mo_raised a_Sp_rows a_Sp_leads a_Sp_kept a_Sp_work a_Re_codes a_Re_products a_Re_pairs a_Re_keys cI cL cZ Mo_variables Mo_order Mo_highest Mo_count Sp_prime Sp_limit Sp_keptCount Sp_basisCount Sp_prime Mo_variables Re_size Re_pairCount Mo_codes Sp_basis Re_bounds)) [0, 1, 2, 3, 4, 6] (by decide) rfl) 3 2 rfl rfl) rfl rfl hl.1 rfl (lv_room (Nat.le_of_ble_eq_true rfl)) d_Re_gather_21 ⟨Nat.le_of_ble_eq_true rfl, Nat.le_of_ble_eq_true rfl⟩) hS (fun q _ h => hFc q h) hFc (fun r_1x _ t H_3 locs ht hvm hw hB hz1 hk1 hS => ?_)
  rw [hw]
  obtain ⟨hP, hD⟩ := va_join (wr := [(a_Re_codes, .inl (cI, 40, .inl Re_codes))]) (w1 := (ws_setBounds a_Mo a_Sp a_Re a_Mo_codes a_Sp_basis a_Re_bounds a_Mo_degrees a_Mo_keys a_Mo_raised a_Sp_rows a_Sp_leads a_Sp_kept a_Sp_work a_Re_codes a_Re_products a_Re_pairs a_Re_keys cI cL cZ Mo_variables Mo_order Mo_highest Mo_count Sp_prime Sp_limit Sp_keptCount Sp_basisCount Sp_prime Mo_variables Re_size Re_pairCount Mo_codes Sp_basis Re_bounds_2)) hP hD [0, 1, 2, 3, 4, 6] [5] rfl rfl (by decide) (by decide) hk1 hFc (by have h9 := hB.1; rw [ht] at h9; exact h9) hB.2.2
  have hP : va_P D classes (ws_gather a_Mo a_Sp a_Re a_Mo_codes a_Sp_basis a_Re_codes a_Re_bounds a_Mo_degrees a_Mo_keys a_Mo_raised a_Sp_rows a_Sp_leads a_Sp_kept a_Sp_work a_Re_products a_Re_pairs a_Re_keys cI cL cZ Mo_variables Mo_order Mo_highest Mo_count Sp_prime Sp_limit Sp_keptCount Sp_basisCount Sp_prime Mo_variables Re_size Re_pairCount Mo_codes Sp_basis Re_codes Re_bounds_2) H_3 := hP.sub [1, 2, 3, 4, 5, 0, 6] rfl
  have hD : va_D A (ws_gather a_Mo a_Sp a_Re a_Mo_codes a_Sp_basis a_Re_codes a_Re_bounds a_Mo_degrees a_Mo_keys a_Mo_raised a_Sp_rows a_Sp_leads a_Sp_kept a_Sp_work a_Re_products a_Re_pairs a_Re_keys cI cL cZ Mo_variables Mo_order Mo_highest Mo_count Sp_prime Sp_limit Sp_keptCount Sp_basisCount Sp_prime Mo_variables Re_size Re_pairCount Mo_codes Sp_basis Re_codes Re_bounds_2) := hD.sub [1, 2, 3, 4, 5, 0, 6] (by decide) rfl
  refine g_if_eq (tgt := 35) hx hb d_Re_gather_24 (by decide) hrun (fun _ hrun => ?_) (fun _ hrun => ?_)
  · exact w_gather_35 X D cI cL cZ a_Mo a_Sp a_Re a_Mo_codes a_Sp_basis a_Re_codes a_Re_bounds a_Mo_degrees a_Mo_keys a_Mo_raised a_Sp_rows a_Sp_leads a_Sp_kept a_Sp_work a_Re_products a_Re_pairs a_Re_keys A Mo_variables Mo_order Mo_highest Mo_count Sp_prime Sp_limit Sp_keptCount Sp_basisCount Re_pairCount Mo_codes Sp_basis r_ Re_prime_r Re_size_r Re_variables_r Re_codes_r Re_bounds_r F C0 hK hA hN  Sp_prime Re_size Mo_variables Re_codes Re_bounds_2 hrun H_3 locs ls hP hD hS (lv_sub hl [0] rfl)
  · refine lv_aload_n hx hb d_Re_gather_27 rfl (lv_at hl 0 rfl) ?_
    refine lv_aload_n hx hb d_Re_gather_28 rfl (lv_at hl 1 rfl) ?_
    obtain ⟨r_4, Re_size_5, Re_codes_6, hc, hrun⟩ := bd3_s hrun
    have hFc := va_free (wc := (ws_gatherWithin a_Mo a_Sp a_Re a_Mo_codes a_Sp_basis a_Re_codes a_Re_bounds a_Mo_degrees a_Mo_keys a_Mo_raised a_Sp_rows a_Sp_leads a_Sp_kept a_Sp_work a_Re_products a_Re_pairs a_Re_keys cI cL cZ Mo_variables Mo_order Mo_highest Mo_count Sp_prime Sp_limit Sp_keptCount Sp_basisCount Sp_prime Mo_variables Re_size Re_pairCount Mo_codes Sp_basis Re_codes Re_bounds_2)) hD hS hA [0, 1, 2, 3, 4, 5, 6] rfl
    refine va_calli (va_runV (As := [.ref a_Sp]) (rest := []) ⟨hx, hb, hml, hown, hts⟩ (c_gatherWithin (gl X) D cI cL cZ a_Mo a_Sp a_Re a_Mo_codes a_Sp_basis a_Re_codes a_Re_bounds a_Mo_degrees a_Mo_keys a_Mo_raised a_Sp_rows a_Sp_leads a_Sp_kept a_Sp_work a_Re_products a_Re_pairs a_Re_keys F Mo_variables Mo_order Mo_highest Mo_count Sp_prime Sp_limit Sp_keptCount Sp_basisCount Sp_prime Mo_variables Re_size Re_pairCount Mo_codes Sp_basis Re_codes Re_bounds_2 H_3.size r_4 Re_size_5 Re_codes_6 hc) (cwV 1 hts (gwV k_172 k_170 k_171 k_157 k_159) rfl rfl rfl (by decide +kernel) ⟨Nat.le_of_ble_eq_true rfl, Nat.le_of_ble_eq_true rfl⟩) (gpreVW (hP.sub (ws' := (ws_gatherWithin a_Mo a_Sp a_Re a_Mo_codes a_Sp_basis a_Re_codes a_Re_bounds a_Mo_degrees a_Mo_keys a_Mo_raised a_Sp_rows a_Sp_leads a_Sp_kept a_Sp_work a_Re_products a_Re_pairs a_Re_keys cI cL cZ Mo_variables Mo_order Mo_highest Mo_count Sp_prime Sp_limit Sp_keptCount Sp_basisCount Sp_prime Mo_variables Re_size Re_pairCount Mo_codes Sp_basis Re_codes Re_bounds_2)) [0, 1, 2, 3, 4, 5, 6] rfl) hK hN (hD.sub (ws' := (ws_gatherWithin a_Mo a_Sp a_Re a_Mo_codes a_Sp_basis a_Re_codes a_Re_bounds a_Mo_degrees a_Mo_keys a_Mo_raised a_Sp_rows a_Sp_leads a_Sp_kept a_Sp_work a_Re_products a_Re_pairs a_Re_keys cI cL cZ Mo_variables Mo_order Mo_highest Mo_count Sp_prime Sp_limit Sp_keptCount Sp_basisCount Sp_prime Mo_variables Re_size Re_pairCount Mo_codes Sp_basis Re_codes Re_bounds_2)) [0, 1, 2, 3, 4, 5, 6] (by decide) rfl) 3 2 rfl rfl) rfl rfl hl.1 rfl (lv_room (Nat.le_of_ble_eq_true rfl)) d_Re_gather_29 ⟨Nat.le_of_ble_eq_true rfl, Nat.le_of_ble_eq_true rfl⟩) hS (fun q _ h => hFc q h) hFc (fun r_4x _ t H_7 locs ht hvm hw hB hz1 hk1 hS => ?_)
    rw [hw]
    obtain ⟨hP, hD⟩ := va_join (wr := []) (w1 := (ws_gatherWithin a_Mo a_Sp a_Re a_Mo_codes a_Sp_basis a_Re_codes a_Re_bounds a_Mo_degrees a_Mo_keys a_Mo_raised a_Sp_rows a_Sp_leads a_Sp_kept a_Sp_work a_Re_products a_Re_pairs a_Re_keys cI cL cZ Mo_variables Mo_order Mo_highest Mo_count Sp_prime Sp_limit Sp_keptCount Sp_basisCount Sp_prime Mo_variables Re_size_5 Re_pairCount Mo_codes Sp_basis Re_codes_6 Re_bounds_2)) hP hD [0, 1, 2, 3, 4, 5, 6] [] rfl rfl (by decide) (by decide) hk1 hFc (by have h9 := hB.1; rw [ht] at h9; exact h9) hB.2.2
    have hP : va_P D classes (ws_gather a_Mo a_Sp a_Re a_Mo_codes a_Sp_basis a_Re_codes a_Re_bounds a_Mo_degrees a_Mo_keys a_Mo_raised a_Sp_rows a_Sp_leads a_Sp_kept a_Sp_work a_Re_products a_Re_pairs a_Re_keys cI cL cZ Mo_variables Mo_order Mo_highest Mo_count Sp_prime Sp_limit Sp_keptCount Sp_basisCount Sp_prime Mo_variables Re_size_5 Re_pairCount Mo_codes Sp_basis Re_codes_6 Re_bounds_2) H_7 := hP.sub [0, 1, 2, 3, 4, 5, 6] rfl
    have hD : va_D A (ws_gather a_Mo a_Sp a_Re a_Mo_codes a_Sp_basis a_Re_codes a_Re_bounds a_Mo_degrees a_Mo_keys a_Mo_raised a_Sp_rows a_Sp_leads a_Sp_kept a_Sp_work a_Re_products a_Re_pairs a_Re_keys cI cL cZ Mo_variables Mo_order Mo_highest Mo_count Sp_prime Sp_limit Sp_keptCount Sp_basisCount Sp_prime Mo_variables Re_size_5 Re_pairCount Mo_codes Sp_basis Re_codes_6 Re_bounds_2) := hD.sub [0, 1, 2, 3, 4, 5, 6] (by decide) rfl
    refine g_if_ne (tgt := 41) hx hb d_Re_gather_32 (by decide) hrun (fun _ hrun => ?_) (fun _ hrun => ?_)
    · refine lv_iconst (v := 1) hx hb d_Re_gather_41 (by decide) ?_
      cases hrun
      exact W.zret hx hb hr rfl (fun t ht hW => ⟨⟨_, (), rfl, rfl, gB_of ht hW.alike hP hK hD⟩, hS.F ht⟩) hS.2.2 d_Re_gather_42
    · exact w_gather_35 X D cI cL cZ a_Mo a_Sp a_Re a_Mo_codes a_Sp_basis a_Re_codes a_Re_bounds a_Mo_degrees a_Mo_keys a_Mo_raised a_Sp_rows a_Sp_leads a_Sp_kept a_Sp_work a_Re_products a_Re_pairs a_Re_keys A Mo_variables Mo_order Mo_highest Mo_count Sp_prime Sp_limit Sp_keptCount Sp_basisCount Re_pairCount Mo_codes Sp_basis r_ Re_prime_r Re_size_r Re_variables_r Re_codes_r Re_bounds_r F C0 hK hA hN  Sp_prime Re_size_5 Mo_variables Re_codes_6 Re_bounds_2 hrun H_7 locs ls hP hD hS (lv_sub hl [0] rfl)
set_option maxHeartbeats 4000000 in
set_option maxRecDepth 100000 in
theorem c_gather (l : Launch) (D : va_G) (cI cL cZ : ClassId) (a_Mo a_Sp a_Re a_Mo_codes a_Sp_basis a_Re_codes a_Re_bounds a_Mo_degrees a_Mo_keys a_Mo_raised a_Sp_rows a_Sp_leads a_Sp_kept a_Sp_work a_Re_products a_Re_pairs a_Re_keys : Nat) (F : Nat) (Mo_variables Mo_order Mo_highest Mo_count Sp_prime Sp_limit Sp_keptCount Sp_basisCount Re_prime Re_variables Re_size Re_pairCount : Int32) (Mo_codes Sp_basis Re_codes Re_bounds : Nat → Int32) (sz : Nat) (r_ Re_prime_r Re_size_r Re_variables_r : Int32) (Re_codes_r Re_bounds_r : Nat → Int32) (hrun : m_gather F Mo_order Mo_variables Sp_basisCount Sp_prime Mo_codes Sp_basis Re_prime Re_size Re_variables Re_codes Re_bounds = some (r_, Re_prime_r, Re_size_r, Re_variables_r, Re_codes_r, Re_bounds_r)) : Met l y_Re_gather (.code y_Re_gather c_Re_gatherb 2 (some .boolean) :: gAll) rm_gather (va_Pc [.ref a_Re, .ref a_Sp] (gPW D (gT cI cL cZ) (ws_gather a_Mo a_Sp a_Re a_Mo_codes a_Sp_basis a_Re_codes a_Re_bounds a_Mo_degrees a_Mo_keys a_Mo_raised a_Sp_rows a_Sp_leads a_Sp_kept a_Sp_work a_Re_products a_Re_pairs a_Re_keys cI cL cZ Mo_variables Mo_order Mo_highest Mo_count Sp_prime Sp_limit Sp_keptCount Sp_basisCount Re_prime Re_variables Re_size Re_pairCount Mo_codes Sp_basis Re_codes Re_bounds) sz)) (va_Qi (fun r (_ : Unit) => r = r_) (gB D (gT cI cL cZ) (va_A (ws_gather a_Mo a_Sp a_Re a_Mo_codes a_Sp_basis a_Re_codes a_Re_bounds a_Mo_degrees a_Mo_keys a_Mo_raised a_Sp_rows a_Sp_leads a_Sp_kept a_Sp_work a_Re_products a_Re_pairs a_Re_keys cI cL cZ Mo_variables Mo_order Mo_highest Mo_count Sp_prime Sp_limit Sp_keptCount Sp_basisCount Re_prime Re_variables Re_size Re_pairCount Mo_codes Sp_basis Re_codes Re_bounds) sz) (ws_gather a_Mo a_Sp a_Re a_Mo_codes a_Sp_basis a_Re_codes a_Re_bounds a_Mo_degrees a_Mo_keys a_Mo_raised a_Sp_rows a_Sp_leads a_Sp_kept a_Sp_work a_Re_products a_Re_pairs a_Re_keys cI cL cZ Mo_variables Mo_order Mo_highest Mo_count Sp_prime Sp_limit Sp_keptCount Sp_basisCount Re_prime_r Re_variables_r Re_size_r Re_pairCount Mo_codes Sp_basis Re_codes_r Re_bounds_r)) (va_A (ws_gather a_Mo a_Sp a_Re a_Mo_codes a_Sp_basis a_Re_codes a_Re_bounds a_Mo_degrees a_Mo_keys a_Mo_raised a_Sp_rows a_Sp_leads a_Sp_kept a_Sp_work a_Re_products a_Re_pairs a_Re_keys cI cL cZ Mo_variables Mo_order Mo_highest Mo_count Sp_prime Sp_limit Sp_keptCount Sp_basisCount Re_prime Re_variables Re_size Re_pairCount Mo_codes Sp_basis Re_codes Re_bounds) sz)) 0 0 (va_A (ws_gather a_Mo a_Sp a_Re a_Mo_codes a_Sp_basis a_Re_codes a_Re_bounds a_Mo_degrees a_Mo_keys a_Mo_raised a_Sp_rows a_Sp_leads a_Sp_kept a_Sp_work a_Re_products a_Re_pairs a_Re_keys cI cL cZ Mo_variables Mo_order Mo_highest Mo_count Sp_prime Sp_limit Sp_keptCount Sp_basisCount Re_prime Re_variables Re_size Re_pairCount Mo_codes Sp_basis Re_codes Re_bounds) sz) := by
  refine Met.ofW (cc := c_Re_gatherb) (maxL := 2) (ret := (some .boolean)) (by decide +kernel) rfl ?_
  intro p e s m args below meth c s₁ B hml hv
  obtain ⟨rfl, hsz, hP, hK, hN, hD0⟩ := hv
  subst hsz
  have hD := hD0.self (sz := s.heap.size)
  have hl := lv_entry ([.ref a_Re, .ref a_Sp]) (n := 2) (Nat.le_of_ble_eq_true rfl)
  rw [lg_entry_eq]
  generalize (lg_sl ([.ref a_Re, .ref a_Sp]) ++ List.replicate (2 - (lg_sl ([.ref a_Re, .ref a_Sp])).length) Slot.unset).toArray = ls at hl ⊢
  exact e_gather (p, l, e, s, m, ([.ref a_Re, .ref a_Sp] : List Value).toArray, below, meth, c) D cI cL cZ a_Mo a_Sp a_Re a_Mo_codes a_Sp_basis a_Re_codes a_Re_bounds a_Mo_degrees a_Mo_keys a_Mo_raised a_Sp_rows a_Sp_leads a_Sp_kept a_Sp_work a_Re_products a_Re_pairs a_Re_keys (va_A (ws_gather a_Mo a_Sp a_Re a_Mo_codes a_Sp_basis a_Re_codes a_Re_bounds a_Mo_degrees a_Mo_keys a_Mo_raised a_Sp_rows a_Sp_leads a_Sp_kept a_Sp_work a_Re_products a_Re_pairs a_Re_keys cI cL cZ Mo_variables Mo_order Mo_highest Mo_count Sp_prime Sp_limit Sp_keptCount Sp_basisCount Re_prime Re_variables Re_size Re_pairCount Mo_codes Sp_basis Re_codes Re_bounds) s.heap.size) Mo_variables Mo_order Mo_highest Mo_count Sp_prime Sp_limit Sp_keptCount Sp_basisCount Re_pairCount Mo_codes Sp_basis r_ Re_prime_r Re_size_r Re_variables_r Re_codes_r Re_bounds_r F ⟨B.exec, B.bytes, B.returns, hml, findClass_of_methodNamed B.named, fun w h => atoms_spec (ws := (.code y_Re_gather c_Re_gatherb 2 (some .boolean) :: gAll)) B.pre w (List.mem_cons_of_mem _ h), B.notSynchronized⟩ hK (fun q h => Or.inr h) hN Re_prime Re_size Re_variables Re_codes Re_bounds hrun s.heap [] ls hP hD va_S.rf hl
theorem d_Re_insertPair_0 : decode c_Re_insertPairb 0 = .ok (.aload_n 0, 1) := by decide +kernel
theorem d_Re_insertPair_1 : decode c_Re_insertPairb 1 = .ok (.getfield 81, 3) := by decide +kernel
theorem d_Re_insertPair_4 : decode c_Re_insertPairb 4 = .ok (.sipush 160, 3) := by decide +kernel
theorem d_Re_insertPair_7 : decode c_Re_insertPairb 7 = .ok (.if_icmp .lt 4, 3) := by decide +kernel
theorem d_Re_insertPair_10 : decode c_Re_insertPairb 10 = .ok (.return_, 1) := by decide +kernel
theorem d_Re_insertPair_11 : decode c_Re_insertPairb 11 = .ok (.aload_n 0, 1) := by decide +kernel
theorem d_Re_insertPair_12 : decode c_Re_insertPairb 12 = .ok (.getfield 81, 3) := by decide +kernel
theorem d_Re_insertPair_15 : decode c_Re_insertPairb 15 = .ok (.istore 4, 2) := by decide +kernel
theorem d_Re_insertPair_17 : decode c_Re_insertPairb 17 = .ok (.iload 4, 2) := by decide +kernel
theorem d_Re_insertPair_19 : decode c_Re_insertPairb 19 = .ok (.ifCond .le 55, 3) := by decide +kernel
theorem d_Re_insertPair_22 : decode c_Re_insertPairb 22 = .ok (.aload_n 0, 1) := by decide +kernel
theorem d_Re_insertPair_23 : decode c_Re_insertPairb 23 = .ok (.getfield 24, 3) := by decide +kernel
theorem d_Re_insertPair_26 : decode c_Re_insertPairb 26 = .ok (.iload 4, 2) := by decide +kernel
theorem d_Re_insertPair_28 : decode c_Re_insertPairb 28 = .ok (.iconst 1, 1) := by decide +kernel
theorem d_Re_insertPair_29 : decode c_Re_insertPairb 29 = .ok (.isub, 1) := by decide +kernel
theorem d_Re_insertPair_30 : decode c_Re_insertPairb 30 = .ok (.laload, 1) := by decide +kernel
theorem d_Re_insertPair_31 : decode c_Re_insertPairb 31 = .ok (.lload_n 2, 1) := by decide +kernel
theorem d_Re_insertPair_32 : decode c_Re_insertPairb 32 = .ok (.lcmp, 1) := by decide +kernel
theorem d_Re_insertPair_33 : decode c_Re_insertPairb 33 = .ok (.ifCond .le 41, 3) := by decide +kernel
theorem d_Re_insertPair_36 : decode c_Re_insertPairb 36 = .ok (.aload_n 0, 1) := by decide +kernel
theorem d_Re_insertPair_37 : decode c_Re_insertPairb 37 = .ok (.getfield 24, 3) := by decide +kernel
theorem d_Re_insertPair_40 : decode c_Re_insertPairb 40 = .ok (.iload 4, 2) := by decide +kernel
theorem d_Re_insertPair_42 : decode c_Re_insertPairb 42 = .ok (.aload_n 0, 1) := by decide +kernel
theorem d_Re_insertPair_43 : decode c_Re_insertPairb 43 = .ok (.getfield 24, 3) := by decide +kernel
theorem d_Re_insertPair_46 : decode c_Re_insertPairb 46 = .ok (.iload 4, 2) := by decide +kernel
theorem d_Re_insertPair_48 : decode c_Re_insertPairb 48 = .ok (.iconst 1, 1) := by decide +kernel
theorem d_Re_insertPair_49 : decode c_Re_insertPairb 49 = .ok (.isub, 1) := by decide +kernel
theorem d_Re_insertPair_50 : decode c_Re_insertPairb 50 = .ok (.laload, 1) := by decide +kernel
theorem d_Re_insertPair_51 : decode c_Re_insertPairb 51 = .ok (.lastore, 1) := by decide +kernel
theorem d_Re_insertPair_52 : decode c_Re_insertPairb 52 = .ok (.aload_n 0, 1) := by decide +kernel
theorem d_Re_insertPair_53 : decode c_Re_insertPairb 53 = .ok (.getfield 21, 3) := by decide +kernel
theorem d_Re_insertPair_56 : decode c_Re_insertPairb 56 = .ok (.iload 4, 2) := by decide +kernel
theorem d_Re_insertPair_58 : decode c_Re_insertPairb 58 = .ok (.aload_n 0, 1) := by decide +kernel
theorem d_Re_insertPair_59 : decode c_Re_insertPairb 59 = .ok (.getfield 21, 3) := by decide +kernel
theorem d_Re_insertPair_62 : decode c_Re_insertPairb 62 = .ok (.iload 4, 2) := by decide +kernel
theorem d_Re_insertPair_64 : decode c_Re_insertPairb 64 = .ok (.iconst 1, 1) := by decide +kernel
theorem d_Re_insertPair_65 : decode c_Re_insertPairb 65 = .ok (.isub, 1) := by decide +kernel
theorem d_Re_insertPair_66 : decode c_Re_insertPairb 66 = .ok (.iaload, 1) := by decide +kernel
theorem d_Re_insertPair_67 : decode c_Re_insertPairb 67 = .ok (.iastore, 1) := by decide +kernel
theorem d_Re_insertPair_68 : decode c_Re_insertPairb 68 = .ok (.iinc 4 (-1), 3) := by decide +kernel
theorem d_Re_insertPair_71 : decode c_Re_insertPairb 71 = .ok (.goto (-54), 3) := by decide +kernel
theorem d_Re_insertPair_74 : decode c_Re_insertPairb 74 = .ok (.aload_n 0, 1) := by decide +kernel
theorem d_Re_insertPair_75 : decode c_Re_insertPairb 75 = .ok (.getfield 24, 3) := by decide +kernel
theorem d_Re_insertPair_78 : decode c_Re_insertPairb 78 = .ok (.iload 4, 2) := by decide +kernel
theorem d_Re_insertPair_80 : decode c_Re_insertPairb 80 = .ok (.lload_n 2, 1) := by decide +kernel
theorem d_Re_insertPair_81 : decode c_Re_insertPairb 81 = .ok (.lastore, 1) := by decide +kernel
theorem d_Re_insertPair_82 : decode c_Re_insertPairb 82 = .ok (.aload_n 0, 1) := by decide +kernel
theorem d_Re_insertPair_83 : decode c_Re_insertPairb 83 = .ok (.getfield 21, 3) := by decide +kernel
theorem d_Re_insertPair_86 : decode c_Re_insertPairb 86 = .ok (.iload 4, 2) := by decide +kernel
theorem d_Re_insertPair_88 : decode c_Re_insertPairb 88 = .ok (.iload_n 1, 1) := by decide +kernel
theorem d_Re_insertPair_89 : decode c_Re_insertPairb 89 = .ok (.iastore, 1) := by decide +kernel
theorem d_Re_insertPair_90 : decode c_Re_insertPairb 90 = .ok (.aload_n 0, 1) := by decide +kernel
theorem d_Re_insertPair_91 : decode c_Re_insertPairb 91 = .ok (.dup, 1) := by decide +kernel
theorem d_Re_insertPair_92 : decode c_Re_insertPairb 92 = .ok (.getfield 81, 3) := by decide +kernel
theorem d_Re_insertPair_95 : decode c_Re_insertPairb 95 = .ok (.iconst 1, 1) := by decide +kernel
theorem d_Re_insertPair_96 : decode c_Re_insertPairb 96 = .ok (.iadd, 1) := by decide +kernel
theorem d_Re_insertPair_97 : decode c_Re_insertPairb 97 = .ok (.putfield 81, 3) := by decide +kernel
theorem d_Re_insertPair_100 : decode c_Re_insertPairb 100 = .ok (.return_, 1) := by decide +kernel
abbrev ws_insertPair (a_Re a_Re_pairs a_Re_keys a_Re_codes a_Re_products a_Re_bounds : Nat) (cI cL cZ : ClassId) (Re_prime Re_variables Re_size Re_pairCount : Int32) (Re_pairs : Nat → Int32) (Re_keys : Nat → Int64) : va_W := [(a_Re, .inr (3, [.int Re_prime, .int Re_variables, .int Re_size, .ref a_Re_codes, .ref a_Re_products, .ref a_Re_bounds, .ref a_Re_pairs, .ref a_Re_keys, .int Re_pairCount])), (a_Re_pairs, .inl (cI, 160, .inl Re_pairs)), (a_Re_keys, .inl (cL, 160, .inr (.inl Re_keys)))]
abbrev rm_insertPair : Room := { frames := 0, cells := 0, slots := 0, locals := 0 }
abbrev g_insertPair (X : gX) (D : va_G) (cI cL cZ : ClassId) (a_Re a_Re_pairs a_Re_keys a_Re_codes a_Re_products a_Re_bounds : Nat) (A : Nat → Prop) (Re_prime Re_variables Re_size Re_pairCount_r : Int32) (Re_pairs_r : Nat → Int32) (Re_keys_r : Nat → Int64) (pc : Nat) (lv : List (Nat × Value)) (st : List Value) (Re_pairCount : Int32) (Re_pairs : Nat → Int32) (Re_keys : Nat → Int64) : Prop := ∀ (H : Heap) (locs : List Loc) (ls : Array Slot), va_P D classes (ws_insertPair a_Re a_Re_pairs a_Re_keys a_Re_codes a_Re_products a_Re_bounds cI cL cZ Re_prime Re_variables Re_size Re_pairCount Re_pairs Re_keys) H → va_D A (ws_insertPair a_Re a_Re_pairs a_Re_keys a_Re_codes a_Re_products a_Re_bounds cI cL cZ Re_prime Re_variables Re_size Re_pairCount Re_pairs Re_keys) → va_S A (gs X).heap H locs → lv_has ls 5 lv → gWW X rm_insertPair H locs 0 0 (MQ (gbl X) (va_Qv (fun _ : Unit => True) (gB D (gT cI cL cZ) A (ws_insertPair a_Re a_Re_pairs a_Re_keys a_Re_codes a_Re_products a_Re_bounds cI cL cZ Re_prime Re_variables Re_size Re_pairCount_r Re_pairs_r Re_keys_r)) A) (ga X) (gs X) 0 0 A) (F0 (gm X) pc ls st)
set_option maxHeartbeats 4000000 in
set_option maxRecDepth 100000 in
theorem w_insertPair_74 (X : gX) (D : va_G) (cI cL cZ : ClassId) (a_Re a_Re_pairs a_Re_keys a_Re_codes a_Re_products a_Re_bounds : Nat) (A : Nat → Prop) (Re_prime Re_variables Re_size Re_pairCount_r : Int32) (Re_pairs_r : Nat → Int32) (Re_keys_r : Nat → Int64) (F : Nat) (C0 : gC X c_Re_insertPairb none 5 "RemnantDictionary$Remnant" gAll) (hK : va_K D classes (gT cI cL cZ) (gs X)) (hA : ∀ q : Nat, (gs X).heap.size ≤ q → A q) (hN : gN (gs X))  (i1 : Int32) (l2 : Int64) (i4 Re_pairCount : Int32) (Re_pairs : Nat → Int32) (Re_keys : Nat → Int64) (hrun : s_insertPair_74 F i1 l2 i4 Re_pairCount Re_pairs Re_keys = some (Re_pairCount_r, Re_pairs_r, Re_keys_r)) : g_insertPair X D cI cL cZ a_Re a_Re_pairs a_Re_keys a_Re_codes a_Re_products a_Re_bounds A Re_prime Re_variables Re_size Re_pairCount_r Re_pairs_r Re_keys_r 74 [(0, .ref a_Re), (1, .int i1), (2, .long l2), (4, .int i4)] [] Re_pairCount Re_pairs Re_keys := by
  have C1 := C0
  obtain ⟨hx, hb, hr, hml, hown, hts, hlocks⟩ := C1
  unfold s_insertPair_74 at hrun
  intro H locs ls hP hD hS hl
  refine lv_aload_n hx hb d_Re_insertPair_74 rfl (lv_at hl 0 rfl) ?_
  refine va_get (D := D) (ci := 3) (v := .ref a_Re_keys) (C := "RemnantDictionary$Remnant") (T := T_Re) (N := 9) hx hb hts iw_Re hown hK hP 0 rfl rfl 7 (by decide) (hts _ k_173) (fun _ h9 => h9) rfl d_Re_insertPair_75 ?_
  refine lv_iload hx hb d_Re_insertPair_78 (lv_at hl 3 rfl) ?_
  refine lv_lload_n hx hb d_Re_insertPair_80 rfl (lv_at hl 2 rfl) ?_
  refine g_last hx hb hK hP hD hS 2 1 rfl rfl hrun d_Re_insertPair_81 (fun Re_keys_1 hrun H locs (hP : va_P D classes (ws_insertPair a_Re a_Re_pairs a_Re_keys a_Re_codes a_Re_products a_Re_bounds cI cL cZ Re_prime Re_variables Re_size Re_pairCount Re_pairs Re_keys_1) H) (hD : va_D A (ws_insertPair a_Re a_Re_pairs a_Re_keys a_Re_codes a_Re_products a_Re_bounds cI cL cZ Re_prime Re_variables Re_size Re_pairCount Re_pairs Re_keys_1)) hS => ?_)
  refine lv_aload_n hx hb d_Re_insertPair_82 rfl (lv_at hl 0 rfl) ?_
  refine va_get (D := D) (ci := 3) (v := .ref a_Re_pairs) (C := "RemnantDictionary$Remnant") (T := T_Re) (N := 9) hx hb hts iw_Re hown hK hP 0 rfl rfl 6 (by decide) (hts _ k_174) (fun _ h9 => h9) rfl d_Re_insertPair_83 ?_
  refine lv_iload hx hb d_Re_insertPair_86 (lv_at hl 3 rfl) ?_
  refine lv_iload_n hx hb d_Re_insertPair_88 rfl (lv_at hl 1 rfl) ?_
  refine g_iast hx hb hK hP hD hS 1 0 rfl rfl hrun d_Re_insertPair_89 (fun Re_pairs_2 hrun H locs (hP : va_P D classes (ws_insertPair a_Re a_Re_pairs a_Re_keys a_Re_codes a_Re_products a_Re_bounds cI cL cZ Re_prime Re_variables Re_size Re_pairCount Re_pairs_2 Re_keys_1) H) (hD : va_D A (ws_insertPair a_Re a_Re_pairs a_Re_keys a_Re_codes a_Re_products a_Re_bounds cI cL cZ Re_prime Re_variables Re_size Re_pairCount Re_pairs_2 Re_keys_1)) hS => ?_)
  refine lv_aload_n hx hb d_Re_insertPair_90 rfl (lv_at hl 0 rfl) ?_
  refine lv_dup hx hb d_Re_insertPair_91 rfl ?_
  refine va_get (D := D) (ci := 3) (v := .int Re_pairCount) (C := "RemnantDictionary$Remnant") (T := T_Re) (N := 9) hx hb hts iw_Re hown hK hP 0 rfl rfl 8 (by decide) (hts _ k_175) (fun _ h9 => h9) rfl d_Re_insertPair_92 ?_
  refine lv_iconst (v := 1) hx hb d_Re_insertPair_95 (by decide) ?_
  refine lv_iadd hx hb d_Re_insertPair_96 ?_
  refine va_put (D := D) (ci := 3) (v := .int (Re_pairCount + 1)) (ty := .int) (C := "RemnantDictionary$Remnant") (T := T_Re) (N := 9) hx hb hts iw_Re ty_Re ty_Re_ok nm_Re hown hK hP hD hS 0 rfl rfl 8 (by decide) (hts _ k_175) (fun _ h9 => h9) rfl (by decide +kernel) rfl rfl (Nat.le_of_ble_eq_true rfl) d_Re_insertPair_97 (fun H locs (hP : va_P D classes (ws_insertPair a_Re a_Re_pairs a_Re_keys a_Re_codes a_Re_products a_Re_bounds cI cL cZ Re_prime Re_variables Re_size (Re_pairCount + 1) Re_pairs_2 Re_keys_1) H) (hD : va_D A (ws_insertPair a_Re a_Re_pairs a_Re_keys a_Re_codes a_Re_products a_Re_bounds cI cL cZ Re_prime Re_variables Re_size (Re_pairCount + 1) Re_pairs_2 Re_keys_1)) hS => ?_)
  cases hrun
  exact W.vret hx hb hr (fun t ht hW => ⟨⟨(), rfl, trivial, gB_of ht hW.alike hP hK hD⟩, hS.F ht⟩) hS.2.2 d_Re_insertPair_100
set_option maxHeartbeats 4000000 in
set_option maxRecDepth 100000 in
theorem w_insertPair_17 (X : gX) (D : va_G) (cI cL cZ : ClassId) (a_Re a_Re_pairs a_Re_keys a_Re_codes a_Re_products a_Re_bounds : Nat) (A : Nat → Prop) (Re_prime Re_variables Re_size Re_pairCount_r : Int32) (Re_pairs_r : Nat → Int32) (Re_keys_r : Nat → Int64) (F : Nat) (C0 : gC X c_Re_insertPairb none 5 "RemnantDictionary$Remnant" gAll) (hK : va_K D classes (gT cI cL cZ) (gs X)) (hA : ∀ q : Nat, (gs X).heap.size ≤ q → A q) (hN : gN (gs X)) (k17 : Int32 → Int64 → Int32 → Int32 → (Nat → Int32) → (Nat → Int64) → Option (Int32 × (Nat → Int32) × (Nat → Int64))) (hk17 : ∀ (i1 : Int32) (l2 : Int64) (i4 Re_pairCount : Int32) (Re_pairs : Nat → Int32) (Re_keys : Nat → Int64), k17 i1 l2 i4 Re_pairCount Re_pairs Re_keys = some (Re_pairCount_r, Re_pairs_r, Re_keys_r) → g_insertPair X D cI cL cZ a_Re a_Re_pairs a_Re_keys a_Re_codes a_Re_products a_Re_bounds A Re_prime Re_variables Re_size Re_pairCount_r Re_pairs_r Re_keys_r 17 [(0, .ref a_Re), (1, .int i1), (2, .long l2), (4, .int i4)] [] Re_pairCount Re_pairs Re_keys) (i1 : Int32) (l2 : Int64) (i4 Re_pairCount : Int32) (Re_pairs : Nat → Int32) (Re_keys : Nat → Int64) (hrun : s_insertPair_17 F k17 i1 l2 i4 Re_pairCount Re_pairs Re_keys = some (Re_pairCount_r, Re_pairs_r, Re_keys_r)) : g_insertPair X D cI cL cZ a_Re a_Re_pairs a_Re_keys a_Re_codes a_Re_products a_Re_bounds A Re_prime Re_variables Re_size Re_pairCount_r Re_pairs_r Re_keys_r 17 [(0, .ref a_Re), (1, .int i1), (2, .long l2), (4, .int i4)] [] Re_pairCount Re_pairs Re_keys := by
  have C1 := C0
  obtain ⟨hx, hb, hr, hml, hown, hts, hlocks⟩ := C1
  unfold s_insertPair_17 at hrun
  intro H locs ls hP hD hS hl
  refine lv_iload hx hb d_Re_insertPair_17 (lv_at hl 3 rfl) ?_
  refine g_if_le (tgt := 74) hx hb d_Re_insertPair_19 (by decide) hrun (fun _ hrun => ?_) (fun _ hrun => ?_)
  · exact w_insertPair_74 X D cI cL cZ a_Re a_Re_pairs a_Re_keys a_Re_codes a_Re_products a_Re_bounds A Re_prime Re_variables Re_size Re_pairCount_r Re_pairs_r Re_keys_r F C0 hK hA hN  i1 l2 i4 Re_pairCount Re_pairs Re_keys hrun H locs ls hP hD hS (lv_sub hl [0, 1, 2, 3] rfl)
  · refine lv_aload_n hx hb d_Re_insertPair_22 rfl (lv_at hl 0 rfl) ?_
    refine va_get (D := D) (ci := 3) (v := .ref a_Re_keys) (C := "RemnantDictionary$Remnant") (T := T_Re) (N := 9) hx hb hts iw_Re hown hK hP 0 rfl rfl 7 (by decide) (hts _ k_173) (fun _ h9 => h9) rfl d_Re_insertPair_23 ?_
    refine lv_iload hx hb d_Re_insertPair_26 (lv_at hl 3 rfl) ?_
    refine lv_iconst (v := 1) hx hb d_Re_insertPair_28 (by decide) ?_
    refine lv_isub hx hb d_Re_insertPair_29 ?_
    refine g_lald hx hb hK hP 2 1 rfl rfl hrun d_Re_insertPair_30 (fun x_1 hrun => ?_)
    refine lv_lload_n hx hb d_Re_insertPair_31 rfl (lv_at hl 2 rfl) ?_
    refine W.lcmp hx hb d_Re_insertPair_32 ?_
    refine g_if_le (tgt := 74) hx hb d_Re_insertPair_33 (by decide) hrun (fun _ hrun => ?_) (fun _ hrun => ?_)
    · exact w_insertPair_74 X D cI cL cZ a_Re a_Re_pairs a_Re_keys a_Re_codes a_Re_products a_Re_bounds A Re_prime Re_variables Re_size Re_pairCount_r Re_pairs_r Re_keys_r F C0 hK hA hN  i1 l2 i4 Re_pairCount Re_pairs Re_keys hrun H locs ls hP hD hS (lv_sub hl [0, 1, 2, 3] rfl)
    · refine lv_aload_n hx hb d_Re_insertPair_36 rfl (lv_at hl 0 rfl) ?_
      refine va_get (D := D) (ci := 3) (v := .ref a_Re_keys) (C := "RemnantDictionary$Remnant") (T := T_Re) (N := 9) hx hb hts iw_Re hown hK hP 0 rfl rfl 7 (by decide) (hts _ k_173) (fun _ h9 => h9) rfl d_Re_insertPair_37 ?_
      refine lv_iload hx hb d_Re_insertPair_40 (lv_at hl 3 rfl) ?_
      refine lv_aload_n hx hb d_Re_insertPair_42 rfl (lv_at hl 0 rfl) ?_
      refine va_get (D := D) (ci := 3) (v := .ref a_Re_keys) (C := "RemnantDictionary$Remnant") (T := T_Re) (N := 9) hx hb hts iw_Re hown hK hP 0 rfl rfl 7 (by decide) (hts _ k_173) (fun _ h9 => h9) rfl d_Re_insertPair_43 ?_
      refine lv_iload hx hb d_Re_insertPair_46 (lv_at hl 3 rfl) ?_
      refine lv_iconst (v := 1) hx hb d_Re_insertPair_48 (by decide) ?_
      refine lv_isub hx hb d_Re_insertPair_49 ?_
      refine g_lald hx hb hK hP 2 1 rfl rfl hrun d_Re_insertPair_50 (fun x_2 hrun => ?_)
      refine g_last hx hb hK hP hD hS 2 1 rfl rfl hrun d_Re_insertPair_51 (fun Re_keys_3 hrun H locs (hP : va_P D classes (ws_insertPair a_Re a_Re_pairs a_Re_keys a_Re_codes a_Re_products a_Re_bounds cI cL cZ Re_prime Re_variables Re_size Re_pairCount Re_pairs Re_keys_3) H) (hD : va_D A (ws_insertPair a_Re a_Re_pairs a_Re_keys a_Re_codes a_Re_products a_Re_bounds cI cL cZ Re_prime Re_variables Re_size Re_pairCount Re_pairs Re_keys_3)) hS => ?_)
      refine lv_aload_n hx hb d_Re_insertPair_52 rfl (lv_at hl 0 rfl) ?_
      refine va_get (D := D) (ci := 3) (v := .ref a_Re_pairs) (C := "RemnantDictionary$Remnant") (T := T_Re) (N := 9) hx hb hts iw_Re hown hK hP 0 rfl rfl 6 (by decide) (hts _ k_174) (fun _ h9 => h9) rfl d_Re_insertPair_53 ?_
      refine lv_iload hx hb d_Re_insertPair_56 (lv_at hl 3 rfl) ?_
      refine lv_aload_n hx hb d_Re_insertPair_58 rfl (lv_at hl 0 rfl) ?_
      refine va_get (D := D) (ci := 3) (v := .ref a_Re_pairs) (C := "RemnantDictionary$Remnant") (T := T_Re) (N := 9) hx hb hts iw_Re hown hK hP 0 rfl rfl 6 (by decide) (hts _ k_174) (fun _ h9 => h9) rfl d_Re_insertPair_59 ?_
      refine lv_iload hx hb d_Re_insertPair_62 (lv_at hl 3 rfl) ?_
      refine lv_iconst (v := 1) hx hb d_Re_insertPair_64 (by decide) ?_
      refine lv_isub hx hb d_Re_insertPair_65 ?_
      refine g_iald hx hb hK hP 1 0 rfl rfl hrun d_Re_insertPair_66 (fun x_4 hrun => ?_)
      refine g_iast hx hb hK hP hD hS 1 0 rfl rfl hrun d_Re_insertPair_67 (fun Re_pairs_5 hrun H locs (hP : va_P D classes (ws_insertPair a_Re a_Re_pairs a_Re_keys a_Re_codes a_Re_products a_Re_bounds cI cL cZ Re_prime Re_variables Re_size Re_pairCount Re_pairs_5 Re_keys_3) H) (hD : va_D A (ws_insertPair a_Re a_Re_pairs a_Re_keys a_Re_codes a_Re_products a_Re_bounds cI cL cZ Re_prime Re_variables Re_size Re_pairCount Re_pairs_5 Re_keys_3)) hS => ?_)
      refine lv_iinc (v := (i4 + (-1))) (lv' := [(4, .int (i4 + (-1))), (0, .ref a_Re), (1, .int i1), (2, .long l2)]) hx hb d_Re_insertPair_68 hl (k := 3) rfl rfl (by decide) rfl (fun ls hl => ?_)
      refine lv_goto (tgt := 17) hx hb d_Re_insertPair_71 (by decide) ?_
      exact hk17 i1 l2 (i4 + (-1)) Re_pairCount Re_pairs_5 Re_keys_3 hrun H locs ls hP hD hS (lv_sub hl [1, 2, 3, 0] rfl)
theorem v_insertPair_17 (X : gX) (D : va_G) (cI cL cZ : ClassId) (a_Re a_Re_pairs a_Re_keys a_Re_codes a_Re_products a_Re_bounds : Nat) (A : Nat → Prop) (Re_prime Re_variables Re_size Re_pairCount_r : Int32) (Re_pairs_r : Nat → Int32) (Re_keys_r : Nat → Int64) (F : Nat) (C0 : gC X c_Re_insertPairb none 5 "RemnantDictionary$Remnant" gAll) (hK : va_K D classes (gT cI cL cZ) (gs X)) (hA : ∀ q : Nat, (gs X).heap.size ≤ q → A q) (hN : gN (gs X))  : ∀ (n : Nat) (i1 : Int32) (l2 : Int64) (i4 Re_pairCount : Int32) (Re_pairs : Nat → Int32) (Re_keys : Nat → Int64), b_insertPair_17 F n i1 l2 i4 Re_pairCount Re_pairs Re_keys = some (Re_pairCount_r, Re_pairs_r, Re_keys_r) → g_insertPair X D cI cL cZ a_Re a_Re_pairs a_Re_keys a_Re_codes a_Re_products a_Re_bounds A Re_prime Re_variables Re_size Re_pairCount_r Re_pairs_r Re_keys_r 17 [(0, .ref a_Re), (1, .int i1), (2, .long l2), (4, .int i4)] [] Re_pairCount Re_pairs Re_keys := by
  intro n
  induction n with
  | zero => intro i1 l2 i4 Re_pairCount Re_pairs Re_keys hrun; cases hrun
  | succ n ih =>
    intro i1 l2 i4 Re_pairCount Re_pairs Re_keys hrun
    exact w_insertPair_17 X D cI cL cZ a_Re a_Re_pairs a_Re_keys a_Re_codes a_Re_products a_Re_bounds A Re_prime Re_variables Re_size Re_pairCount_r Re_pairs_r Re_keys_r F C0 hK hA hN (b_insertPair_17 F n) ih i1 l2 i4 Re_pairCount Re_pairs Re_keys hrun
set_option maxHeartbeats 4000000 in
set_option maxRecDepth 100000 in
theorem e_insertPair (X : gX) (D : va_G) (cI cL cZ : ClassId) (a_Re a_Re_pairs a_Re_keys a_Re_codes a_Re_products a_Re_bounds : Nat) (A : Nat → Prop) (Re_prime Re_variables Re_size Re_pairCount_r : Int32) (Re_pairs_r : Nat → Int32) (Re_keys_r : Nat → Int64) (F : Nat) (C0 : gC X c_Re_insertPairb none 5 "RemnantDictionary$Remnant" gAll) (hK : va_K D classes (gT cI cL cZ) (gs X)) (hA : ∀ q : Nat, (gs X).heap.size ≤ q → A q) (hN : gN (gs X)) (i1 : Int32) (l2 : Int64) (Re_pairCount : Int32) (Re_pairs : Nat → Int32) (Re_keys : Nat → Int64) (hrun : m_insertPair F i1 l2 Re_pairCount Re_pairs Re_keys = some (Re_pairCount_r, Re_pairs_r, Re_keys_r)) : g_insertPair X D cI cL cZ a_Re a_Re_pairs a_Re_keys a_Re_codes a_Re_products a_Re_bounds A Re_prime Re_variables Re_size Re_pairCount_r Re_pairs_r Re_keys_r 0 [(0, .ref a_Re), (1, .int i1), (2, .long l2)] [] Re_pairCount Re_pairs Re_keys := by
  have C1 := C0
  obtain ⟨hx, hb, hr, hml, hown, hts, hlocks⟩ := C1
  unfold m_insertPair at hrun
  intro H locs ls hP hD hS hl
  refine lv_aload_n hx hb d_Re_insertPair_0 rfl (lv_at hl 0 rfl) ?_
  refine va_get (D := D) (ci := 3) (v := .int Re_pairCount) (C := "RemnantDictionary$Remnant") (T := T_Re) (N := 9) hx hb hts iw_Re hown hK hP 0 rfl rfl 8 (by decide) (hts _ k_175) (fun _ h9 => h9) rfl d_Re_insertPair_1 ?_
  refine lv_sipush (v := 160) hx hb d_Re_insertPair_4 (by decide) ?_
  refine g_icmp_lt (tgt := 11) hx hb d_Re_insertPair_7 (by decide) hrun (fun _ hrun => ?_) (fun _ hrun => ?_)
  · refine lv_aload_n hx hb d_Re_insertPair_11 rfl (lv_at hl 0 rfl) ?_
    refine va_get (D := D) (ci := 3) (v := .int Re_pairCount) (C := "RemnantDictionary$Remnant") (T := T_Re) (N := 9) hx hb hts iw_Re hown hK hP 0 rfl rfl 8 (by decide) (hts _ k_175) (fun _ h9 => h9) rfl d_Re_insertPair_12 ?_
    refine lv_istore (lv' := [(4, .int Re_pairCount), (0, .ref a_Re), (1, .int i1), (2, .long l2)]) hx hb d_Re_insertPair_15 hl (by decide) rfl (fun ls hl => ?_)
    exact v_insertPair_17 X D cI cL cZ a_Re a_Re_pairs a_Re_keys a_Re_codes a_Re_products a_Re_bounds A Re_prime Re_variables Re_size Re_pairCount_r Re_pairs_r Re_keys_r F C0 hK hA hN  F i1 l2 Re_pairCount Re_pairCount Re_pairs Re_keys hrun H locs ls hP hD hS (lv_sub hl [1, 2, 3, 0] rfl)
  · cases hrun
    exact W.vret hx hb hr (fun t ht hW => ⟨⟨(), rfl, trivial, gB_of ht hW.alike hP hK hD⟩, hS.F ht⟩) hS.2.2 d_Re_insertPair_10
set_option maxHeartbeats 4000000 in
set_option maxRecDepth 100000 in
theorem c_insertPair (l : Launch) (D : va_G) (cI cL cZ : ClassId) (a_Re a_Re_pairs a_Re_keys a_Re_codes a_Re_products a_Re_bounds : Nat) (F : Nat) (Re_prime Re_variables Re_size Re_pairCount : Int32) (Re_pairs : Nat → Int32) (Re_keys : Nat → Int64) (i1 : Int32) (l2 : Int64) (sz : Nat) (Re_pairCount_r : Int32) (Re_pairs_r : Nat → Int32) (Re_keys_r : Nat → Int64) (hrun : m_insertPair F i1 l2 Re_pairCount Re_pairs Re_keys = some (Re_pairCount_r, Re_pairs_r, Re_keys_r)) : Met l y_Re_insertPair (.code y_Re_insertPair c_Re_insertPairb 5 none :: gAll) rm_insertPair (va_Pc [.ref a_Re, .int i1, .long l2] (gPW D (gT cI cL cZ) (ws_insertPair a_Re a_Re_pairs a_Re_keys a_Re_codes a_Re_products a_Re_bounds cI cL cZ Re_prime Re_variables Re_size Re_pairCount Re_pairs Re_keys) sz)) (va_Qv (fun _ : Unit => True) (gB D (gT cI cL cZ) (va_A (ws_insertPair a_Re a_Re_pairs a_Re_keys a_Re_codes a_Re_products a_Re_bounds cI cL cZ Re_prime Re_variables Re_size Re_pairCount Re_pairs Re_keys) sz) (ws_insertPair a_Re a_Re_pairs a_Re_keys a_Re_codes a_Re_products a_Re_bounds cI cL cZ Re_prime Re_variables Re_size Re_pairCount_r Re_pairs_r Re_keys_r)) (va_A (ws_insertPair a_Re a_Re_pairs a_Re_keys a_Re_codes a_Re_products a_Re_bounds cI cL cZ Re_prime Re_variables Re_size Re_pairCount Re_pairs Re_keys) sz)) 0 0 (va_A (ws_insertPair a_Re a_Re_pairs a_Re_keys a_Re_codes a_Re_products a_Re_bounds cI cL cZ Re_prime Re_variables Re_size Re_pairCount Re_pairs Re_keys) sz) := by
  refine Met.ofW (cc := c_Re_insertPairb) (maxL := 5) (ret := none) (by decide +kernel) rfl ?_
  intro p e s m args below meth c s₁ B hml hv
  obtain ⟨rfl, hsz, hP, hK, hN, hD0⟩ := hv
  subst hsz
  have hD := hD0.self (sz := s.heap.size)
  have hl := lv_entry ([.ref a_Re, .int i1, .long l2]) (n := 5) (Nat.le_of_ble_eq_true rfl)
  rw [lg_entry_eq]
  generalize (lg_sl ([.ref a_Re, .int i1, .long l2]) ++ List.replicate (5 - (lg_sl ([.ref a_Re, .int i1, .long l2])).length) Slot.unset).toArray = ls at hl ⊢
  exact e_insertPair (p, l, e, s, m, ([.ref a_Re, .int i1, .long l2] : List Value).toArray, below, meth, c) D cI cL cZ a_Re a_Re_pairs a_Re_keys a_Re_codes a_Re_products a_Re_bounds (va_A (ws_insertPair a_Re a_Re_pairs a_Re_keys a_Re_codes a_Re_products a_Re_bounds cI cL cZ Re_prime Re_variables Re_size Re_pairCount Re_pairs Re_keys) s.heap.size) Re_prime Re_variables Re_size Re_pairCount_r Re_pairs_r Re_keys_r F ⟨B.exec, B.bytes, B.returns, hml, findClass_of_methodNamed B.named, fun w h => atoms_spec (ws := (.code y_Re_insertPair c_Re_insertPairb 5 none :: gAll)) B.pre w (List.mem_cons_of_mem _ h), B.notSynchronized⟩ hK (fun q h => Or.inr h) hN i1 l2 Re_pairCount Re_pairs Re_keys hrun s.heap [] ls hP hD va_S.rf hl
theorem d_Re_sortPairs_0 : decode c_Re_sortPairsb 0 = .ok (.aload_n 0, 1) := by decide +kernel
theorem d_Re_sortPairs_1 : decode c_Re_sortPairsb 1 = .ok (.iconst 0, 1) := by decide +kernel
theorem d_Re_sortPairs_2 : decode c_Re_sortPairsb 2 = .ok (.putfield 81, 3) := by decide +kernel
theorem d_Re_sortPairs_5 : decode c_Re_sortPairsb 5 = .ok (.iconst 0, 1) := by decide +kernel
theorem d_Re_sortPairs_6 : decode c_Re_sortPairsb 6 = .ok (.istore_n 2, 1) := by decide +kernel
theorem d_Re_sortPairs_7 : decode c_Re_sortPairsb 7 = .ok (.iload_n 2, 1) := by decide +kernel
theorem d_Re_sortPairs_8 : decode c_Re_sortPairsb 8 = .ok (.aload_n 0, 1) := by decide +kernel
theorem d_Re_sortPairs_9 : decode c_Re_sortPairsb 9 = .ok (.getfield 47, 3) := by decide +kernel
theorem d_Re_sortPairs_12 : decode c_Re_sortPairsb 12 = .ok (.if_icmp .ge 50, 3) := by decide +kernel
theorem d_Re_sortPairs_15 : decode c_Re_sortPairsb 15 = .ok (.iconst 0, 1) := by decide +kernel
theorem d_Re_sortPairs_16 : decode c_Re_sortPairsb 16 = .ok (.istore_n 3, 1) := by decide +kernel
theorem d_Re_sortPairs_17 : decode c_Re_sortPairsb 17 = .ok (.iload_n 3, 1) := by decide +kernel
theorem d_Re_sortPairs_18 : decode c_Re_sortPairsb 18 = .ok (.aload_n 0, 1) := by decide +kernel
theorem d_Re_sortPairs_19 : decode c_Re_sortPairsb 19 = .ok (.getfield 28, 3) := by decide +kernel
theorem d_Re_sortPairs_22 : decode c_Re_sortPairsb 22 = .ok (.if_icmp .ge 34, 3) := by decide +kernel
theorem d_Re_sortPairs_25 : decode c_Re_sortPairsb 25 = .ok (.aload_n 0, 1) := by decide +kernel
theorem d_Re_sortPairs_26 : decode c_Re_sortPairsb 26 = .ok (.iload_n 2, 1) := by decide +kernel
theorem d_Re_sortPairs_27 : decode c_Re_sortPairsb 27 = .ok (.bipush 40, 2) := by decide +kernel
theorem d_Re_sortPairs_29 : decode c_Re_sortPairsb 29 = .ok (.imul, 1) := by decide +kernel
theorem d_Re_sortPairs_30 : decode c_Re_sortPairsb 30 = .ok (.iload_n 3, 1) := by decide +kernel
theorem d_Re_sortPairs_31 : decode c_Re_sortPairsb 31 = .ok (.iadd, 1) := by decide +kernel
theorem d_Re_sortPairs_32 : decode c_Re_sortPairsb 32 = .ok (.aload_n 0, 1) := by decide +kernel
theorem d_Re_sortPairs_33 : decode c_Re_sortPairsb 33 = .ok (.getfield 9, 3) := by decide +kernel
theorem d_Re_sortPairs_36 : decode c_Re_sortPairsb 36 = .ok (.iload_n 3, 1) := by decide +kernel
theorem d_Re_sortPairs_37 : decode c_Re_sortPairsb 37 = .ok (.iaload, 1) := by decide +kernel
theorem d_Re_sortPairs_38 : decode c_Re_sortPairsb 38 = .ok (.iload_n 2, 1) := by decide +kernel
theorem d_Re_sortPairs_39 : decode c_Re_sortPairsb 39 = .ok (.invokestatic 88, 3) := by decide +kernel
theorem d_Re_sortPairs_42 : decode c_Re_sortPairsb 42 = .ok (.iadd, 1) := by decide +kernel
theorem d_Re_sortPairs_43 : decode c_Re_sortPairsb 43 = .ok (.iload_n 1, 1) := by decide +kernel
theorem d_Re_sortPairs_44 : decode c_Re_sortPairsb 44 = .ok (.invokestatic 73, 3) := by decide +kernel
theorem d_Re_sortPairs_47 : decode c_Re_sortPairsb 47 = .ok (.invokevirtual 91, 3) := by decide +kernel
theorem d_Re_sortPairs_50 : decode c_Re_sortPairsb 50 = .ok (.iinc 3 1, 3) := by decide +kernel
theorem d_Re_sortPairs_53 : decode c_Re_sortPairsb 53 = .ok (.goto (-36), 3) := by decide +kernel
theorem d_Re_sortPairs_56 : decode c_Re_sortPairsb 56 = .ok (.iinc 2 1, 3) := by decide +kernel
theorem d_Re_sortPairs_59 : decode c_Re_sortPairsb 59 = .ok (.goto (-52), 3) := by decide +kernel
theorem d_Re_sortPairs_62 : decode c_Re_sortPairsb 62 = .ok (.return_, 1) := by decide +kernel
abbrev ws_sortPairs (a_Re a_Re_codes a_Re_pairs a_Re_keys a_Re_products a_Re_bounds : Nat) (cI cL cZ : ClassId) (Re_prime Re_variables Re_size Re_pairCount : Int32) (Re_codes Re_pairs : Nat → Int32) (Re_keys : Nat → Int64) : va_W := [(a_Re, .inr (3, [.int Re_prime, .int Re_variables, .int Re_size, .ref a_Re_codes, .ref a_Re_products, .ref a_Re_bounds, .ref a_Re_pairs, .ref a_Re_keys, .int Re_pairCount])), (a_Re_codes, .inl (cI, 40, .inl Re_codes)), (a_Re_pairs, .inl (cI, 160, .inl Re_pairs)), (a_Re_keys, .inl (cL, 160, .inr (.inl Re_keys)))]
abbrev rm_sortPairs : Room := { frames := 3, cells := 0, slots := 0, locals := 66 }
abbrev g_sortPairs (X : gX) (D : va_G) (cI cL cZ : ClassId) (a_Re a_Re_codes a_Re_pairs a_Re_keys a_Re_products a_Re_bounds : Nat) (A : Nat → Prop) (Re_prime Re_variables Re_size : Int32) (Re_codes : Nat → Int32) (Re_pairCount_r : Int32) (Re_pairs_r : Nat → Int32) (Re_keys_r : Nat → Int64) (pc : Nat) (lv : List (Nat × Value)) (st : List Value) (Re_pairCount : Int32) (Re_pairs : Nat → Int32) (Re_keys : Nat → Int64) : Prop := ∀ (H : Heap) (locs : List Loc) (ls : Array Slot), va_P D classes (ws_sortPairs a_Re a_Re_codes a_Re_pairs a_Re_keys a_Re_products a_Re_bounds cI cL cZ Re_prime Re_variables Re_size Re_pairCount Re_codes Re_pairs Re_keys) H → va_D A (ws_sortPairs a_Re a_Re_codes a_Re_pairs a_Re_keys a_Re_products a_Re_bounds cI cL cZ Re_prime Re_variables Re_size Re_pairCount Re_codes Re_pairs Re_keys) → va_S A (gs X).heap H locs → lv_has ls 4 lv → gWW X rm_sortPairs H locs 0 0 (MQ (gbl X) (va_Qv (fun _ : Unit => True) (gB D (gT cI cL cZ) A (ws_sortPairs a_Re a_Re_codes a_Re_pairs a_Re_keys a_Re_products a_Re_bounds cI cL cZ Re_prime Re_variables Re_size Re_pairCount_r Re_codes Re_pairs_r Re_keys_r)) A) (ga X) (gs X) 0 0 A) (F0 (gm X) pc ls st)
set_option maxHeartbeats 4000000 in
set_option maxRecDepth 100000 in
theorem w_sortPairs_17 (X : gX) (D : va_G) (cI cL cZ : ClassId) (a_Re a_Re_codes a_Re_pairs a_Re_keys a_Re_products a_Re_bounds : Nat) (A : Nat → Prop) (Re_prime Re_variables Re_size : Int32) (Re_codes : Nat → Int32) (Re_pairCount_r : Int32) (Re_pairs_r : Nat → Int32) (Re_keys_r : Nat → Int64) (F : Nat) (C0 : gC X c_Re_sortPairsb none 4 "RemnantDictionary$Remnant" gAll) (hK : va_K D classes (gT cI cL cZ) (gs X)) (hA : ∀ q : Nat, (gs X).heap.size ≤ q → A q) (hN : gN (gs X)) (k7 : Int32 → Int32 → Int32 → (Nat → Int32) → (Nat → Int64) → Option (Int32 × (Nat → Int32) × (Nat → Int64))) (hk7 : ∀ (i1 i2 Re_pairCount : Int32) (Re_pairs : Nat → Int32) (Re_keys : Nat → Int64), k7 i1 i2 Re_pairCount Re_pairs Re_keys = some (Re_pairCount_r, Re_pairs_r, Re_keys_r) → g_sortPairs X D cI cL cZ a_Re a_Re_codes a_Re_pairs a_Re_keys a_Re_products a_Re_bounds A Re_prime Re_variables Re_size Re_codes Re_pairCount_r Re_pairs_r Re_keys_r 7 [(0, .ref a_Re), (1, .int i1), (2, .int i2)] [] Re_pairCount Re_pairs Re_keys) (k17 : Int32 → Int32 → Int32 → Int32 → (Nat → Int32) → (Nat → Int64) → Option (Int32 × (Nat → Int32) × (Nat → Int64))) (hk17 : ∀ (i1 i2 i3 Re_pairCount : Int32) (Re_pairs : Nat → Int32) (Re_keys : Nat → Int64), k17 i1 i2 i3 Re_pairCount Re_pairs Re_keys = some (Re_pairCount_r, Re_pairs_r, Re_keys_r) → g_sortPairs X D cI cL cZ a_Re a_Re_codes a_Re_pairs a_Re_keys a_Re_products a_Re_bounds A Re_prime Re_variables Re_size Re_codes Re_pairCount_r Re_pairs_r Re_keys_r 17 [(0, .ref a_Re), (1, .int i1), (2, .int i2), (3, .int i3)] [] Re_pairCount Re_pairs Re_keys) (i1 i2 i3 Re_pairCount : Int32) (Re_pairs : Nat → Int32) (Re_keys : Nat → Int64) (hrun : s_sortPairs_17 F Re_size Re_variables Re_codes k7 k17 i1 i2 i3 Re_pairCount Re_pairs Re_keys = some (Re_pairCount_r, Re_pairs_r, Re_keys_r)) : g_sortPairs X D cI cL cZ a_Re a_Re_codes a_Re_pairs a_Re_keys a_Re_products a_Re_bounds A Re_prime Re_variables Re_size Re_codes Re_pairCount_r Re_pairs_r Re_keys_r 17 [(0, .ref a_Re), (1, .int i1), (2, .int i2), (3, .int i3)] [] Re_pairCount Re_pairs Re_keys := by
  have C1 := C0
  obtain ⟨hx, hb, hr, hml, hown, hts, hlocks⟩ := C1
  unfold s_sortPairs_17 at hrun
  intro H locs ls hP hD hS hl
  refine lv_iload_n hx hb d_Re_sortPairs_17 rfl (lv_at hl 3 rfl) ?_
  refine lv_aload_n hx hb d_Re_sortPairs_18 rfl (lv_at hl 0 rfl) ?_
  refine va_get (D := D) (ci := 3) (v := .int Re_size) (C := "RemnantDictionary$Remnant") (T := T_Re) (N := 9) hx hb hts iw_Re hown hK hP 0 rfl rfl 2 (by decide) (hts _ k_142) (fun _ h9 => h9) rfl d_Re_sortPairs_19 ?_
  refine g_icmp_ge (tgt := 56) hx hb d_Re_sortPairs_22 (by decide) hrun (fun _ hrun => ?_) (fun _ hrun => ?_)
  · refine lv_iinc (v := (i2 + 1)) (lv' := [(2, .int (i2 + 1)), (0, .ref a_Re), (1, .int i1), (3, .int i3)]) hx hb d_Re_sortPairs_56 hl (k := 2) rfl rfl (by decide) rfl (fun ls hl => ?_)
    refine lv_goto (tgt := 7) hx hb d_Re_sortPairs_59 (by decide) ?_
    exact hk7 i1 (i2 + 1) Re_pairCount Re_pairs Re_keys hrun H locs ls hP hD hS (lv_sub hl [1, 2, 0] rfl)
  · refine lv_aload_n hx hb d_Re_sortPairs_25 rfl (lv_at hl 0 rfl) ?_
    refine lv_iload_n hx hb d_Re_sortPairs_26 rfl (lv_at hl 2 rfl) ?_
    refine lv_bipush (v := 40) hx hb d_Re_sortPairs_27 (by decide) ?_
    refine lv_imul hx hb d_Re_sortPairs_29 ?_
    refine lv_iload_n hx hb d_Re_sortPairs_30 rfl (lv_at hl 3 rfl) ?_
    refine lv_iadd hx hb d_Re_sortPairs_31 ?_
    refine lv_aload_n hx hb d_Re_sortPairs_32 rfl (lv_at hl 0 rfl) ?_
    refine va_get (D := D) (ci := 3) (v := .ref a_Re_codes) (C := "RemnantDictionary$Remnant") (T := T_Re) (N := 9) hx hb hts iw_Re hown hK hP 0 rfl rfl 3 (by decide) (hts _ k_150) (fun _ h9 => h9) rfl d_Re_sortPairs_33 ?_
    refine lv_iload_n hx hb d_Re_sortPairs_36 rfl (lv_at hl 3 rfl) ?_
    refine g_iald hx hb hK hP 1 0 rfl rfl hrun d_Re_sortPairs_37 (fun x_1 hrun => ?_)
    refine lv_iload_n hx hb d_Re_sortPairs_38 rfl (lv_at hl 2 rfl) ?_
    obtain ⟨r_2, hc, hrun⟩ := bd1_s hrun
    refine vp_callSi (g_ofRun (va_runSN (As := [.int i2]) (rest := [.int x_1, .int ((i2 * 40) + i3), .ref a_Re]) ⟨hx, hb, hml, hown, hts⟩ (c_variable (gl X) F i2 r_2 hc) (⟨va_cnB 1 hts (gwN k_11) rfl rfl rfl (hN.1 _ (List.mem_of_getElem? (i := 10) rfl)) (hts _ k_14) (by decide +kernel) ⟨Nat.le_of_ble_eq_true rfl, Nat.le_of_ble_eq_true rfl⟩, hts _ k_55, trivial⟩) (gpreS0 hN) rfl rfl hl.1 rfl (lv_room (Nat.le_of_ble_eq_true rfl)) d_Re_sortPairs_39 ⟨Nat.le_of_ble_eq_true rfl, Nat.le_of_ble_eq_true rfl⟩)) (nm_e ?_)
    refine lv_iadd hx hb d_Re_sortPairs_42 ?_
    refine lv_iload_n hx hb d_Re_sortPairs_43 rfl (lv_at hl 1 rfl) ?_
    obtain ⟨r_3, hc, hrun⟩ := bd1_s hrun
    refine vp_callSl (g_ofRun (va_runSN (As := [.int (x_1 + r_2), .int i1]) (rest := [.int ((i2 * 40) + i3), .ref a_Re]) ⟨hx, hb, hml, hown, hts⟩ (c_key (gl X) F (x_1 + r_2) i1 r_3 hc) (⟨va_cnB 2 hts (gwN k_24) rfl rfl rfl (hN.1 _ (List.mem_of_getElem? (i := 9) rfl)) (hts _ k_14) (by decide +kernel) ⟨Nat.le_of_ble_eq_true rfl, Nat.le_of_ble_eq_true rfl⟩, hts _ k_44, trivial⟩) (gpreS0 hN) rfl rfl hl.1 rfl (lv_room (Nat.le_of_ble_eq_true rfl)) d_Re_sortPairs_44 ⟨Nat.le_of_ble_eq_true rfl, Nat.le_of_ble_eq_true rfl⟩)) (nm_e ?_)
    obtain ⟨Re_pairCount_4, Re_pairs_5, Re_keys_6, hc, hrun⟩ := bd3_s hrun
    have hFc := va_free (wc := (ws_insertPair a_Re a_Re_pairs a_Re_keys a_Re_codes a_Re_products a_Re_bounds cI cL cZ Re_prime Re_variables Re_size Re_pairCount Re_pairs Re_keys)) hD hS hA [0, 2, 3] rfl
    refine va_callv (va_runV (As := [.int ((i2 * 40) + i3), .long r_3]) (rest := []) ⟨hx, hb, hml, hown, hts⟩ (c_insertPair (gl X) D cI cL cZ a_Re a_Re_pairs a_Re_keys a_Re_codes a_Re_products a_Re_bounds F Re_prime Re_variables Re_size Re_pairCount Re_pairs Re_keys ((i2 * 40) + i3) r_3 H.size Re_pairCount_4 Re_pairs_5 Re_keys_6 hc) (cwV 2 hts (gwV k_179 k_177 k_178 k_157 k_176) rfl rfl rfl (by decide +kernel) ⟨Nat.le_of_ble_eq_true rfl, Nat.le_of_ble_eq_true rfl⟩) (gpreVW (hP.sub (ws' := (ws_insertPair a_Re a_Re_pairs a_Re_keys a_Re_codes a_Re_products a_Re_bounds cI cL cZ Re_prime Re_variables Re_size Re_pairCount Re_pairs Re_keys)) [0, 2, 3] rfl) hK hN (hD.sub (ws' := (ws_insertPair a_Re a_Re_pairs a_Re_keys a_Re_codes a_Re_products a_Re_bounds cI cL cZ Re_prime Re_variables Re_size Re_pairCount Re_pairs Re_keys)) [0, 2, 3] (by decide) rfl) 3 0 rfl rfl) rfl rfl hl.1 rfl (lv_room (Nat.le_of_ble_eq_true rfl)) d_Re_sortPairs_47 ⟨Nat.le_of_ble_eq_true rfl, Nat.le_of_ble_eq_true rfl⟩) hS (fun q _ h => hFc q h) hFc (fun _ t H_7 locs ht hvm hw hB hz1 hk1 hS => ?_)
    obtain ⟨hP, hD⟩ := va_join (wr := [(a_Re_codes, .inl (cI, 40, .inl Re_codes))]) (w1 := (ws_insertPair a_Re a_Re_pairs a_Re_keys a_Re_codes a_Re_products a_Re_bounds cI cL cZ Re_prime Re_variables Re_size Re_pairCount_4 Re_pairs_5 Re_keys_6)) hP hD [0, 2, 3] [1] rfl rfl (by decide) (by decide) hk1 hFc (by have h9 := hB.1; rw [ht] at h9; exact h9) hB.2.2
    have hP : va_P D classes (ws_sortPairs a_Re a_Re_codes a_Re_pairs a_Re_keys a_Re_products a_Re_bounds cI cL cZ Re_prime Re_variables Re_size Re_pairCount_4 Re_codes Re_pairs_5 Re_keys_6) H_7 := hP.sub [1, 0, 2, 3] rfl
    have hD : va_D A (ws_sortPairs a_Re a_Re_codes a_Re_pairs a_Re_keys a_Re_products a_Re_bounds cI cL cZ Re_prime Re_variables Re_size Re_pairCount_4 Re_codes Re_pairs_5 Re_keys_6) := hD.sub [1, 0, 2, 3] (by decide) rfl
    refine lv_iinc (v := (i3 + 1)) (lv' := [(3, .int (i3 + 1)), (0, .ref a_Re), (1, .int i1), (2, .int i2)]) hx hb d_Re_sortPairs_50 hl (k := 3) rfl rfl (by decide) rfl (fun ls hl => ?_)
    refine lv_goto (tgt := 17) hx hb d_Re_sortPairs_53 (by decide) ?_
    exact hk17 i1 i2 (i3 + 1) Re_pairCount_4 Re_pairs_5 Re_keys_6 hrun H_7 locs ls hP hD hS (lv_sub hl [1, 2, 3, 0] rfl)
theorem v_sortPairs_17 (X : gX) (D : va_G) (cI cL cZ : ClassId) (a_Re a_Re_codes a_Re_pairs a_Re_keys a_Re_products a_Re_bounds : Nat) (A : Nat → Prop) (Re_prime Re_variables Re_size : Int32) (Re_codes : Nat → Int32) (Re_pairCount_r : Int32) (Re_pairs_r : Nat → Int32) (Re_keys_r : Nat → Int64) (F : Nat) (C0 : gC X c_Re_sortPairsb none 4 "RemnantDictionary$Remnant" gAll) (hK : va_K D classes (gT cI cL cZ) (gs X)) (hA : ∀ q : Nat, (gs X).heap.size ≤ q → A q) (hN : gN (gs X)) (k7 : Int32 → Int32 → Int32 → (Nat → Int32) → (Nat → Int64) → Option (Int32 × (Nat → Int32) × (Nat → Int64))) (hk7 : ∀ (i1 i2 Re_pairCount : Int32) (Re_pairs : Nat → Int32) (Re_keys : Nat → Int64), k7 i1 i2 Re_pairCount Re_pairs Re_keys = some (Re_pairCount_r, Re_pairs_r, Re_keys_r) → g_sortPairs X D cI cL cZ a_Re a_Re_codes a_Re_pairs a_Re_keys a_Re_products a_Re_bounds A Re_prime Re_variables Re_size Re_codes Re_pairCount_r Re_pairs_r Re_keys_r 7 [(0, .ref a_Re), (1, .int i1), (2, .int i2)] [] Re_pairCount Re_pairs Re_keys) : ∀ (n : Nat) (i1 i2 i3 Re_pairCount : Int32) (Re_pairs : Nat → Int32) (Re_keys : Nat → Int64), b_sortPairs_17 F Re_size Re_variables Re_codes k7 n i1 i2 i3 Re_pairCount Re_pairs Re_keys = some (Re_pairCount_r, Re_pairs_r, Re_keys_r) → g_sortPairs X D cI cL cZ a_Re a_Re_codes a_Re_pairs a_Re_keys a_Re_products a_Re_bounds A Re_prime Re_variables Re_size Re_codes Re_pairCount_r Re_pairs_r Re_keys_r 17 [(0, .ref a_Re), (1, .int i1), (2, .int i2), (3, .int i3)] [] Re_pairCount Re_pairs Re_keys := by
  intro n
  induction n with
  | zero => intro i1 i2 i3 Re_pairCount Re_pairs Re_keys hrun; cases hrun
  | succ n ih =>
    intro i1 i2 i3 Re_pairCount Re_pairs Re_keys hrun
    exact w_sortPairs_17 X D cI cL cZ a_Re a_Re_codes a_Re_pairs a_Re_keys a_Re_products a_Re_bounds A Re_prime Re_variables Re_size Re_codes Re_pairCount_r Re_pairs_r Re_keys_r F C0 hK hA hN k7 hk7 (b_sortPairs_17 F Re_size Re_variables Re_codes k7 n) ih i1 i2 i3 Re_pairCount Re_pairs Re_keys hrun
set_option maxHeartbeats 4000000 in
set_option maxRecDepth 100000 in
theorem w_sortPairs_7 (X : gX) (D : va_G) (cI cL cZ : ClassId) (a_Re a_Re_codes a_Re_pairs a_Re_keys a_Re_products a_Re_bounds : Nat) (A : Nat → Prop) (Re_prime Re_variables Re_size : Int32) (Re_codes : Nat → Int32) (Re_pairCount_r : Int32) (Re_pairs_r : Nat → Int32) (Re_keys_r : Nat → Int64) (F : Nat) (C0 : gC X c_Re_sortPairsb none 4 "RemnantDictionary$Remnant" gAll) (hK : va_K D classes (gT cI cL cZ) (gs X)) (hA : ∀ q : Nat, (gs X).heap.size ≤ q → A q) (hN : gN (gs X)) (k7 : Int32 → Int32 → Int32 → (Nat → Int32) → (Nat → Int64) → Option (Int32 × (Nat → Int32) × (Nat → Int64))) (hk7 : ∀ (i1 i2 Re_pairCount : Int32) (Re_pairs : Nat → Int32) (Re_keys : Nat → Int64), k7 i1 i2 Re_pairCount Re_pairs Re_keys = some (Re_pairCount_r, Re_pairs_r, Re_keys_r) → g_sortPairs X D cI cL cZ a_Re a_Re_codes a_Re_pairs a_Re_keys a_Re_products a_Re_bounds A Re_prime Re_variables Re_size Re_codes Re_pairCount_r Re_pairs_r Re_keys_r 7 [(0, .ref a_Re), (1, .int i1), (2, .int i2)] [] Re_pairCount Re_pairs Re_keys) (i1 i2 Re_pairCount : Int32) (Re_pairs : Nat → Int32) (Re_keys : Nat → Int64) (hrun : s_sortPairs_7 F Re_size Re_variables Re_codes k7 i1 i2 Re_pairCount Re_pairs Re_keys = some (Re_pairCount_r, Re_pairs_r, Re_keys_r)) : g_sortPairs X D cI cL cZ a_Re a_Re_codes a_Re_pairs a_Re_keys a_Re_products a_Re_bounds A Re_prime Re_variables Re_size Re_codes Re_pairCount_r Re_pairs_r Re_keys_r 7 [(0, .ref a_Re), (1, .int i1), (2, .int i2)] [] Re_pairCount Re_pairs Re_keys := by
  have C1 := C0
  obtain ⟨hx, hb, hr, hml, hown, hts, hlocks⟩ := C1
  unfold s_sortPairs_7 at hrun
  intro H locs ls hP hD hS hl
  refine lv_iload_n hx hb d_Re_sortPairs_7 rfl (lv_at hl 2 rfl) ?_
  refine lv_aload_n hx hb d_Re_sortPairs_8 rfl (lv_at hl 0 rfl) ?_
  refine va_get (D := D) (ci := 3) (v := .int Re_variables) (C := "RemnantDictionary$Remnant") (T := T_Re) (N := 9) hx hb hts iw_Re hown hK hP 0 rfl rfl 1 (by decide) (hts _ k_146) (fun _ h9 => h9) rfl d_Re_sortPairs_9 ?_
  refine g_icmp_ge (tgt := 62) hx hb d_Re_sortPairs_12 (by decide) hrun (fun _ hrun => ?_) (fun _ hrun => ?_)
  · cases hrun
    exact W.vret hx hb hr (fun t ht hW => ⟨⟨(), rfl, trivial, gB_of ht hW.alike hP hK hD⟩, hS.F ht⟩) hS.2.2 d_Re_sortPairs_62
  · refine lv_iconst (v := 0) hx hb d_Re_sortPairs_15 (by decide) ?_
    refine lv_istore_n (lv' := [(3, .int 0), (0, .ref a_Re), (1, .int i1), (2, .int i2)]) hx hb d_Re_sortPairs_16 rfl hl (by decide) rfl (fun ls hl => ?_)
    exact v_sortPairs_17 X D cI cL cZ a_Re a_Re_codes a_Re_pairs a_Re_keys a_Re_products a_Re_bounds A Re_prime Re_variables Re_size Re_codes Re_pairCount_r Re_pairs_r Re_keys_r F C0 hK hA hN k7 hk7 F i1 i2 0 Re_pairCount Re_pairs Re_keys hrun H locs ls hP hD hS (lv_sub hl [1, 2, 3, 0] rfl)
theorem v_sortPairs_7 (X : gX) (D : va_G) (cI cL cZ : ClassId) (a_Re a_Re_codes a_Re_pairs a_Re_keys a_Re_products a_Re_bounds : Nat) (A : Nat → Prop) (Re_prime Re_variables Re_size : Int32) (Re_codes : Nat → Int32) (Re_pairCount_r : Int32) (Re_pairs_r : Nat → Int32) (Re_keys_r : Nat → Int64) (F : Nat) (C0 : gC X c_Re_sortPairsb none 4 "RemnantDictionary$Remnant" gAll) (hK : va_K D classes (gT cI cL cZ) (gs X)) (hA : ∀ q : Nat, (gs X).heap.size ≤ q → A q) (hN : gN (gs X))  : ∀ (n : Nat) (i1 i2 Re_pairCount : Int32) (Re_pairs : Nat → Int32) (Re_keys : Nat → Int64), b_sortPairs_7 F Re_size Re_variables Re_codes n i1 i2 Re_pairCount Re_pairs Re_keys = some (Re_pairCount_r, Re_pairs_r, Re_keys_r) → g_sortPairs X D cI cL cZ a_Re a_Re_codes a_Re_pairs a_Re_keys a_Re_products a_Re_bounds A Re_prime Re_variables Re_size Re_codes Re_pairCount_r Re_pairs_r Re_keys_r 7 [(0, .ref a_Re), (1, .int i1), (2, .int i2)] [] Re_pairCount Re_pairs Re_keys := by
  intro n
  induction n with
  | zero => intro i1 i2 Re_pairCount Re_pairs Re_keys hrun; cases hrun
  | succ n ih =>
    intro i1 i2 Re_pairCount Re_pairs Re_keys hrun
    exact w_sortPairs_7 X D cI cL cZ a_Re a_Re_codes a_Re_pairs a_Re_keys a_Re_products a_Re_bounds A Re_prime Re_variables Re_size Re_codes Re_pairCount_r Re_pairs_r Re_keys_r F C0 hK hA hN (b_sortPairs_7 F Re_size Re_variables Re_codes n) ih i1 i2 Re_pairCount Re_pairs Re_keys hrun
set_option maxHeartbeats 4000000 in
set_option maxRecDepth 100000 in
theorem e_sortPairs (X : gX) (D : va_G) (cI cL cZ : ClassId) (a_Re a_Re_codes a_Re_pairs a_Re_keys a_Re_products a_Re_bounds : Nat) (A : Nat → Prop) (Re_prime Re_variables Re_size : Int32) (Re_codes : Nat → Int32) (Re_pairCount_r : Int32) (Re_pairs_r : Nat → Int32) (Re_keys_r : Nat → Int64) (F : Nat) (C0 : gC X c_Re_sortPairsb none 4 "RemnantDictionary$Remnant" gAll) (hK : va_K D classes (gT cI cL cZ) (gs X)) (hA : ∀ q : Nat, (gs X).heap.size ≤ q → A q) (hN : gN (gs X)) (i1 Re_pairCount : Int32) (Re_pairs : Nat → Int32) (Re_keys : Nat → Int64) (hrun : m_sortPairs F Re_size Re_variables Re_codes i1 Re_pairCount Re_pairs Re_keys = some (Re_pairCount_r, Re_pairs_r, Re_keys_r)) : g_sortPairs X D cI cL cZ a_Re a_Re_codes a_Re_pairs a_Re_keys a_Re_products a_Re_bounds A Re_prime Re_variables Re_size Re_codes Re_pairCount_r Re_pairs_r Re_keys_r 0 [(0, .ref a_Re), (1, .int i1)] [] Re_pairCount Re_pairs Re_keys := by
  have C1 := C0
  obtain ⟨hx, hb, hr, hml, hown, hts, hlocks⟩ := C1
  unfold m_sortPairs at hrun
  intro H locs ls hP hD hS hl
  refine lv_aload_n hx hb d_Re_sortPairs_0 rfl (lv_at hl 0 rfl) ?_
  refine lv_iconst (v := 0) hx hb d_Re_sortPairs_1 (by decide) ?_
  refine va_put (D := D) (ci := 3) (v := .int 0) (ty := .int) (C := "RemnantDictionary$Remnant") (T := T_Re) (N := 9) hx hb hts iw_Re ty_Re ty_Re_ok nm_Re hown hK hP hD hS 0 rfl rfl 8 (by decide) (hts _ k_175) (fun _ h9 => h9) rfl (by decide +kernel) rfl rfl (Nat.le_of_ble_eq_true rfl) d_Re_sortPairs_2 (fun H locs (hP : va_P D classes (ws_sortPairs a_Re a_Re_codes a_Re_pairs a_Re_keys a_Re_products a_Re_bounds cI cL cZ Re_prime Re_variables Re_size 0 Re_codes Re_pairs Re_keys) H) (hD : va_D A (ws_sortPairs a_Re a_Re_codes a_Re_pairs a_Re_keys a_Re_products a_Re_bounds cI cL cZ Re_prime Re_variables Re_size 0 Re_codes Re_pairs Re_keys)) hS => ?_)
  refine lv_iconst (v := 0) hx hb d_Re_sortPairs_5 (by decide) ?_
  refine lv_istore_n (lv' := [(2, .int 0), (0, .ref a_Re), (1, .int i1)]) hx hb d_Re_sortPairs_6 rfl hl (by decide) rfl (fun ls hl => ?_)
  exact v_sortPairs_7 X D cI cL cZ a_Re a_Re_codes a_Re_pairs a_Re_keys a_Re_products a_Re_bounds A Re_prime Re_variables Re_size Re_codes Re_pairCount_r Re_pairs_r Re_keys_r F C0 hK hA hN  F i1 0 0 Re_pairs Re_keys hrun H locs ls hP hD hS (lv_sub hl [1, 2, 0] rfl)
set_option maxHeartbeats 4000000 in
set_option maxRecDepth 100000 in
theorem c_sortPairs (l : Launch) (D : va_G) (cI cL cZ : ClassId) (a_Re a_Re_codes a_Re_pairs a_Re_keys a_Re_products a_Re_bounds : Nat) (F : Nat) (Re_prime Re_variables Re_size Re_pairCount : Int32) (Re_codes Re_pairs : Nat → Int32) (Re_keys : Nat → Int64) (i1 : Int32) (sz : Nat) (Re_pairCount_r : Int32) (Re_pairs_r : Nat → Int32) (Re_keys_r : Nat → Int64) (hrun : m_sortPairs F Re_size Re_variables Re_codes i1 Re_pairCount Re_pairs Re_keys = some (Re_pairCount_r, Re_pairs_r, Re_keys_r)) : Met l y_Re_sortPairs (.code y_Re_sortPairs c_Re_sortPairsb 4 none :: gAll) rm_sortPairs (va_Pc [.ref a_Re, .int i1] (gPW D (gT cI cL cZ) (ws_sortPairs a_Re a_Re_codes a_Re_pairs a_Re_keys a_Re_products a_Re_bounds cI cL cZ Re_prime Re_variables Re_size Re_pairCount Re_codes Re_pairs Re_keys) sz)) (va_Qv (fun _ : Unit => True) (gB D (gT cI cL cZ) (va_A (ws_sortPairs a_Re a_Re_codes a_Re_pairs a_Re_keys a_Re_products a_Re_bounds cI cL cZ Re_prime Re_variables Re_size Re_pairCount Re_codes Re_pairs Re_keys) sz) (ws_sortPairs a_Re a_Re_codes a_Re_pairs a_Re_keys a_Re_products a_Re_bounds cI cL cZ Re_prime Re_variables Re_size Re_pairCount_r Re_codes Re_pairs_r Re_keys_r)) (va_A (ws_sortPairs a_Re a_Re_codes a_Re_pairs a_Re_keys a_Re_products a_Re_bounds cI cL cZ Re_prime Re_variables Re_size Re_pairCount Re_codes Re_pairs Re_keys) sz)) 0 0 (va_A (ws_sortPairs a_Re a_Re_codes a_Re_pairs a_Re_keys a_Re_products a_Re_bounds cI cL cZ Re_prime Re_variables Re_size Re_pairCount Re_codes Re_pairs Re_keys) sz) := by
  refine Met.ofW (cc := c_Re_sortPairsb) (maxL := 4) (ret := none) (by decide +kernel) rfl ?_
  intro p e s m args below meth c s₁ B hml hv
  obtain ⟨rfl, hsz, hP, hK, hN, hD0⟩ := hv
  subst hsz
  have hD := hD0.self (sz := s.heap.size)
  have hl := lv_entry ([.ref a_Re, .int i1]) (n := 4) (Nat.le_of_ble_eq_true rfl)
  rw [lg_entry_eq]
  generalize (lg_sl ([.ref a_Re, .int i1]) ++ List.replicate (4 - (lg_sl ([.ref a_Re, .int i1])).length) Slot.unset).toArray = ls at hl ⊢
  exact e_sortPairs (p, l, e, s, m, ([.ref a_Re, .int i1] : List Value).toArray, below, meth, c) D cI cL cZ a_Re a_Re_codes a_Re_pairs a_Re_keys a_Re_products a_Re_bounds (va_A (ws_sortPairs a_Re a_Re_codes a_Re_pairs a_Re_keys a_Re_products a_Re_bounds cI cL cZ Re_prime Re_variables Re_size Re_pairCount Re_codes Re_pairs Re_keys) s.heap.size) Re_prime Re_variables Re_size Re_codes Re_pairCount_r Re_pairs_r Re_keys_r F ⟨B.exec, B.bytes, B.returns, hml, findClass_of_methodNamed B.named, fun w h => atoms_spec (ws := (.code y_Re_sortPairs c_Re_sortPairsb 4 none :: gAll)) B.pre w (List.mem_cons_of_mem _ h), B.notSynchronized⟩ hK (fun q h => Or.inr h) hN i1 Re_pairCount Re_pairs Re_keys hrun s.heap [] ls hP hD va_S.rf hl
theorem d_Re_placeOf_0 : decode c_Re_placeOfb 0 = .ok (.iconst 0, 1) := by decide +kernel
theorem d_Re_placeOf_1 : decode c_Re_placeOfb 1 = .ok (.istore_n 2, 1) := by decide +kernel
theorem d_Re_placeOf_2 : decode c_Re_placeOfb 2 = .ok (.iload_n 2, 1) := by decide +kernel
theorem d_Re_placeOf_3 : decode c_Re_placeOfb 3 = .ok (.aload_n 0, 1) := by decide +kernel
theorem d_Re_placeOf_4 : decode c_Re_placeOfb 4 = .ok (.getfield 28, 3) := by decide +kernel
theorem d_Re_placeOf_7 : decode c_Re_placeOfb 7 = .ok (.if_icmp .ge 21, 3) := by decide +kernel
theorem d_Re_placeOf_10 : decode c_Re_placeOfb 10 = .ok (.aload_n 0, 1) := by decide +kernel
theorem d_Re_placeOf_11 : decode c_Re_placeOfb 11 = .ok (.getfield 9, 3) := by decide +kernel
theorem d_Re_placeOf_14 : decode c_Re_placeOfb 14 = .ok (.iload_n 2, 1) := by decide +kernel
theorem d_Re_placeOf_15 : decode c_Re_placeOfb 15 = .ok (.iaload, 1) := by decide +kernel
theorem d_Re_placeOf_16 : decode c_Re_placeOfb 16 = .ok (.iload_n 1, 1) := by decide +kernel
theorem d_Re_placeOf_17 : decode c_Re_placeOfb 17 = .ok (.if_icmp .ne 5, 3) := by decide +kernel
theorem d_Re_placeOf_20 : decode c_Re_placeOfb 20 = .ok (.iload_n 2, 1) := by decide +kernel
theorem d_Re_placeOf_21 : decode c_Re_placeOfb 21 = .ok (.ireturn, 1) := by decide +kernel
theorem d_Re_placeOf_22 : decode c_Re_placeOfb 22 = .ok (.iinc 2 1, 3) := by decide +kernel
theorem d_Re_placeOf_25 : decode c_Re_placeOfb 25 = .ok (.goto (-23), 3) := by decide +kernel
theorem d_Re_placeOf_28 : decode c_Re_placeOfb 28 = .ok (.iconst (-1), 1) := by decide +kernel
theorem d_Re_placeOf_29 : decode c_Re_placeOfb 29 = .ok (.ireturn, 1) := by decide +kernel
abbrev ws_placeOf (a_Re a_Re_codes a_Re_products a_Re_bounds a_Re_pairs a_Re_keys : Nat) (cI cL cZ : ClassId) (Re_prime Re_variables Re_size Re_pairCount : Int32) (Re_codes : Nat → Int32) : va_W := [(a_Re, .inr (3, [.int Re_prime, .int Re_variables, .int Re_size, .ref a_Re_codes, .ref a_Re_products, .ref a_Re_bounds, .ref a_Re_pairs, .ref a_Re_keys, .int Re_pairCount])), (a_Re_codes, .inl (cI, 40, .inl Re_codes))]
abbrev rm_placeOf : Room := { frames := 0, cells := 0, slots := 0, locals := 0 }
abbrev g_placeOf (X : gX) (r_ : Int32) (pc : Nat) (lv : List (Nat × Value)) (st : List Value) : Prop := ∀ ls : Array Slot, lv_has ls 3 lv → gWW X rm_placeOf (gs X).heap [] 0 0 (MQ (gbl X) (vp_Si (fun r => r = r_)) (ga X) (gs X) 0 0 (fun _ => False)) (F0 (gm X) pc ls st)
set_option maxHeartbeats 4000000 in
set_option maxRecDepth 100000 in
theorem w_placeOf_2 (X : gX) (D : va_G) (cI cL cZ : ClassId) (a_Re a_Re_codes a_Re_products a_Re_bounds a_Re_pairs a_Re_keys : Nat) (F : Nat) (Re_prime Re_variables Re_size Re_pairCount : Int32) (Re_codes : Nat → Int32) (r_ : Int32) (C0 : gC X c_Re_placeOfb (some .int) 3 "RemnantDictionary$Remnant" gAll) (hK : va_K D classes (gT cI cL cZ) (gs X)) (hP : va_P D classes (ws_placeOf a_Re a_Re_codes a_Re_products a_Re_bounds a_Re_pairs a_Re_keys cI cL cZ Re_prime Re_variables Re_size Re_pairCount Re_codes) (gs X).heap) (hN : gN (gs X)) (k2 : Int32 → Int32 → Option (Int32)) (hk2 : ∀ (i1 i2 : Int32), k2 i1 i2 = some r_ → g_placeOf X r_ 2 [(0, .ref a_Re), (1, .int i1), (2, .int i2)] []) (i1 i2 : Int32) (hrun : s_placeOf_2 F Re_size Re_codes k2 i1 i2 = some r_) : g_placeOf X r_ 2 [(0, .ref a_Re), (1, .int i1), (2, .int i2)] [] := by
  have C1 := C0
  obtain ⟨hx, hb, hr, hml, hown, hts, hlocks⟩ := C1
  unfold s_placeOf_2 at hrun
  intro ls hl
  refine lv_iload_n hx hb d_Re_placeOf_2 rfl (lv_at hl 2 rfl) ?_
  refine lv_aload_n hx hb d_Re_placeOf_3 rfl (lv_at hl 0 rfl) ?_
  refine va_get (D := D) (ci := 3) (v := .int Re_size) (C := "RemnantDictionary$Remnant") (T := T_Re) (N := 9) hx hb hts iw_Re hown hK hP 0 rfl rfl 2 (by decide) (hts _ k_142) (fun _ h9 => h9) rfl d_Re_placeOf_4 ?_
  refine g_icmp_ge (tgt := 28) hx hb d_Re_placeOf_7 (by decide) hrun (fun _ hrun => ?_) (fun _ hrun => ?_)
  · refine lv_iconst (v := (-1)) hx hb d_Re_placeOf_28 (by decide) ?_
    cases hrun
    exact W.iret hx hb hr (fun t ht hW => ⟨_, rfl, rfl, ht⟩) (fun q h => absurd h List.not_mem_nil) d_Re_placeOf_29
  · refine lv_aload_n hx hb d_Re_placeOf_10 rfl (lv_at hl 0 rfl) ?_
    refine va_get (D := D) (ci := 3) (v := .ref a_Re_codes) (C := "RemnantDictionary$Remnant") (T := T_Re) (N := 9) hx hb hts iw_Re hown hK hP 0 rfl rfl 3 (by decide) (hts _ k_150) (fun _ h9 => h9) rfl d_Re_placeOf_11 ?_
    refine lv_iload_n hx hb d_Re_placeOf_14 rfl (lv_at hl 2 rfl) ?_
    refine g_iald hx hb hK hP 1 0 rfl rfl hrun d_Re_placeOf_15 (fun x_1 hrun => ?_)
    refine lv_iload_n hx hb d_Re_placeOf_16 rfl (lv_at hl 1 rfl) ?_
    refine g_icmp_ne (tgt := 22) hx hb d_Re_placeOf_17 (by decide) hrun (fun _ hrun => ?_) (fun _ hrun => ?_)
    · refine lv_iinc (v := (i2 + 1)) (lv' := [(2, .int (i2 + 1)), (0, .ref a_Re), (1, .int i1)]) hx hb d_Re_placeOf_22 hl (k := 2) rfl rfl (by decide) rfl (fun ls hl => ?_)
      refine lv_goto (tgt := 2) hx hb d_Re_placeOf_25 (by decide) ?_
      exact hk2 i1 (i2 + 1) hrun ls (lv_sub hl [1, 2, 0] rfl)
    · refine lv_iload_n hx hb d_Re_placeOf_20 rfl (lv_at hl 2 rfl) ?_
      cases hrun
      exact W.iret hx hb hr (fun t ht hW => ⟨_, rfl, rfl, ht⟩) (fun q h => absurd h List.not_mem_nil) d_Re_placeOf_21
theorem v_placeOf_2 (X : gX) (D : va_G) (cI cL cZ : ClassId) (a_Re a_Re_codes a_Re_products a_Re_bounds a_Re_pairs a_Re_keys : Nat) (F : Nat) (Re_prime Re_variables Re_size Re_pairCount : Int32) (Re_codes : Nat → Int32) (r_ : Int32) (C0 : gC X c_Re_placeOfb (some .int) 3 "RemnantDictionary$Remnant" gAll) (hK : va_K D classes (gT cI cL cZ) (gs X)) (hP : va_P D classes (ws_placeOf a_Re a_Re_codes a_Re_products a_Re_bounds a_Re_pairs a_Re_keys cI cL cZ Re_prime Re_variables Re_size Re_pairCount Re_codes) (gs X).heap) (hN : gN (gs X))  : ∀ (n : Nat) (i1 i2 : Int32), b_placeOf_2 F Re_size Re_codes n i1 i2 = some r_ → g_placeOf X r_ 2 [(0, .ref a_Re), (1, .int i1), (2, .int i2)] [] := by
  intro n
  induction n with
  | zero => intro i1 i2 hrun; cases hrun
  | succ n ih =>
    intro i1 i2 hrun
    exact w_placeOf_2 X D cI cL cZ a_Re a_Re_codes a_Re_products a_Re_bounds a_Re_pairs a_Re_keys F Re_prime Re_variables Re_size Re_pairCount Re_codes r_ C0 hK hP hN (b_placeOf_2 F Re_size Re_codes n) ih i1 i2 hrun
set_option maxHeartbeats 4000000 in
set_option maxRecDepth 100000 in
theorem e_placeOf (X : gX) (D : va_G) (cI cL cZ : ClassId) (a_Re a_Re_codes a_Re_products a_Re_bounds a_Re_pairs a_Re_keys : Nat) (F : Nat) (Re_prime Re_variables Re_size Re_pairCount : Int32) (Re_codes : Nat → Int32) (r_ : Int32) (C0 : gC X c_Re_placeOfb (some .int) 3 "RemnantDictionary$Remnant" gAll) (hK : va_K D classes (gT cI cL cZ) (gs X)) (hP : va_P D classes (ws_placeOf a_Re a_Re_codes a_Re_products a_Re_bounds a_Re_pairs a_Re_keys cI cL cZ Re_prime Re_variables Re_size Re_pairCount Re_codes) (gs X).heap) (hN : gN (gs X)) (i1 : Int32) (hrun : m_placeOf F Re_size Re_codes i1 = some r_) : g_placeOf X r_ 0 [(0, .ref a_Re), (1, .int i1)] [] := by
  have C1 := C0
  obtain ⟨hx, hb, hr, hml, hown, hts, hlocks⟩ := C1
  unfold m_placeOf at hrun
  intro ls hl
  refine lv_iconst (v := 0) hx hb d_Re_placeOf_0 (by decide) ?_
  refine lv_istore_n (lv' := [(2, .int 0), (0, .ref a_Re), (1, .int i1)]) hx hb d_Re_placeOf_1 rfl hl (by decide) rfl (fun ls hl => ?_)
  exact v_placeOf_2 X D cI cL cZ a_Re a_Re_codes a_Re_products a_Re_bounds a_Re_pairs a_Re_keys F Re_prime Re_variables Re_size Re_pairCount Re_codes r_ C0 hK hP hN  F i1 0 hrun ls (lv_sub hl [1, 2, 0] rfl)
set_option maxHeartbeats 4000000 in
set_option maxRecDepth 100000 in
theorem c_placeOf (l : Launch) (D : va_G) (cI cL cZ : ClassId) (a_Re a_Re_codes a_Re_products a_Re_bounds a_Re_pairs a_Re_keys : Nat) (F : Nat) (Re_prime Re_variables Re_size Re_pairCount : Int32) (Re_codes : Nat → Int32) (i1 : Int32) (r_ : Int32) (hrun : m_placeOf F Re_size Re_codes i1 = some r_) : Met l y_Re_placeOf (.code y_Re_placeOf c_Re_placeOfb 3 (some .int) :: gAll) rm_placeOf (va_Pc [.ref a_Re, .int i1] (gPR D (gT cI cL cZ) (ws_placeOf a_Re a_Re_codes a_Re_products a_Re_bounds a_Re_pairs a_Re_keys cI cL cZ Re_prime Re_variables Re_size Re_pairCount Re_codes))) (vp_Si (fun r => r = r_)) 0 0 (fun _ => False) := by
  refine Met.ofW (cc := c_Re_placeOfb) (maxL := 3) (ret := (some .int)) (by decide +kernel) rfl ?_
  intro p e s m args below meth c s₁ B hml hv
  obtain ⟨rfl, hP, hK, hN⟩ := hv
  have hl := lv_entry ([.ref a_Re, .int i1]) (n := 3) (Nat.le_of_ble_eq_true rfl)
  rw [lg_entry_eq]
  generalize (lg_sl ([.ref a_Re, .int i1]) ++ List.replicate (3 - (lg_sl ([.ref a_Re, .int i1])).length) Slot.unset).toArray = ls at hl ⊢
  exact e_placeOf (p, l, e, s, m, ([.ref a_Re, .int i1] : List Value).toArray, below, meth, c) D cI cL cZ a_Re a_Re_codes a_Re_products a_Re_bounds a_Re_pairs a_Re_keys F Re_prime Re_variables Re_size Re_pairCount Re_codes r_ ⟨B.exec, B.bytes, B.returns, hml, findClass_of_methodNamed B.named, fun w h => atoms_spec (ws := (.code y_Re_placeOf c_Re_placeOfb 3 (some .int) :: gAll)) B.pre w (List.mem_cons_of_mem _ h), B.notSynchronized⟩ hK hP hN i1 hrun ls hl
theorem d_Re_fillFromBasis_0 : decode c_Re_fillFromBasisb 0 = .ok (.iconst 0, 1) := by decide +kernel
theorem d_Re_fillFromBasis_1 : decode c_Re_fillFromBasisb 1 = .ok (.istore 4, 2) := by decide +kernel
theorem d_Re_fillFromBasis_3 : decode c_Re_fillFromBasisb 3 = .ok (.iload 4, 2) := by decide +kernel
theorem d_Re_fillFromBasis_5 : decode c_Re_fillFromBasisb 5 = .ok (.iload_n 2, 1) := by decide +kernel
theorem d_Re_fillFromBasis_6 : decode c_Re_fillFromBasisb 6 = .ok (.if_icmp .ge 70, 3) := by decide +kernel
theorem d_Re_fillFromBasis_9 : decode c_Re_fillFromBasisb 9 = .ok (.aload_n 1, 1) := by decide +kernel
theorem d_Re_fillFromBasis_10 : decode c_Re_fillFromBasisb 10 = .ok (.getfield 118, 3) := by decide +kernel
theorem d_Re_fillFromBasis_13 : decode c_Re_fillFromBasisb 13 = .ok (.iload_n 2, 1) := by decide +kernel
theorem d_Re_fillFromBasis_14 : decode c_Re_fillFromBasisb 14 = .ok (.bipush 126, 2) := by decide +kernel
theorem d_Re_fillFromBasis_16 : decode c_Re_fillFromBasisb 16 = .ok (.imul, 1) := by decide +kernel
theorem d_Re_fillFromBasis_17 : decode c_Re_fillFromBasisb 17 = .ok (.iload 4, 2) := by decide +kernel
theorem d_Re_fillFromBasis_19 : decode c_Re_fillFromBasisb 19 = .ok (.iadd, 1) := by decide +kernel
theorem d_Re_fillFromBasis_20 : decode c_Re_fillFromBasisb 20 = .ok (.iaload, 1) := by decide +kernel
theorem d_Re_fillFromBasis_21 : decode c_Re_fillFromBasisb 21 = .ok (.istore 5, 2) := by decide +kernel
theorem d_Re_fillFromBasis_23 : decode c_Re_fillFromBasisb 23 = .ok (.iload 5, 2) := by decide +kernel
theorem d_Re_fillFromBasis_25 : decode c_Re_fillFromBasisb 25 = .ok (.ifCond .ne 7, 3) := by decide +kernel
theorem d_Re_fillFromBasis_28 : decode c_Re_fillFromBasisb 28 = .ok (.iconst (-1), 1) := by decide +kernel
theorem d_Re_fillFromBasis_29 : decode c_Re_fillFromBasisb 29 = .ok (.goto 17, 3) := by decide +kernel
theorem d_Re_fillFromBasis_32 : decode c_Re_fillFromBasisb 32 = .ok (.aload_n 0, 1) := by decide +kernel
theorem d_Re_fillFromBasis_33 : decode c_Re_fillFromBasisb 33 = .ok (.aload_n 1, 1) := by decide +kernel
theorem d_Re_fillFromBasis_34 : decode c_Re_fillFromBasisb 34 = .ok (.getfield 38, 3) := by decide +kernel
theorem d_Re_fillFromBasis_37 : decode c_Re_fillFromBasisb 37 = .ok (.getfield 121, 3) := by decide +kernel
theorem d_Re_fillFromBasis_40 : decode c_Re_fillFromBasisb 40 = .ok (.iload 4, 2) := by decide +kernel
theorem d_Re_fillFromBasis_42 : decode c_Re_fillFromBasisb 42 = .ok (.iaload, 1) := by decide +kernel
theorem d_Re_fillFromBasis_43 : decode c_Re_fillFromBasisb 43 = .ok (.invokevirtual 105, 3) := by decide +kernel
theorem d_Re_fillFromBasis_46 : decode c_Re_fillFromBasisb 46 = .ok (.istore 6, 2) := by decide +kernel
theorem d_Re_fillFromBasis_48 : decode c_Re_fillFromBasisb 48 = .ok (.iload 6, 2) := by decide +kernel
theorem d_Re_fillFromBasis_50 : decode c_Re_fillFromBasisb 50 = .ok (.iconst (-1), 1) := by decide +kernel
theorem d_Re_fillFromBasis_51 : decode c_Re_fillFromBasisb 51 = .ok (.if_icmp .eq 19, 3) := by decide +kernel
theorem d_Re_fillFromBasis_54 : decode c_Re_fillFromBasisb 54 = .ok (.aload_n 0, 1) := by decide +kernel
theorem d_Re_fillFromBasis_55 : decode c_Re_fillFromBasisb 55 = .ok (.getfield 15, 3) := by decide +kernel
theorem d_Re_fillFromBasis_58 : decode c_Re_fillFromBasisb 58 = .ok (.iload_n 3, 1) := by decide +kernel
theorem d_Re_fillFromBasis_59 : decode c_Re_fillFromBasisb 59 = .ok (.iload 6, 2) := by decide +kernel
theorem d_Re_fillFromBasis_61 : decode c_Re_fillFromBasisb 61 = .ok (.iadd, 1) := by decide +kernel
theorem d_Re_fillFromBasis_62 : decode c_Re_fillFromBasisb 62 = .ok (.aload_n 0, 1) := by decide +kernel
theorem d_Re_fillFromBasis_63 : decode c_Re_fillFromBasisb 63 = .ok (.getfield 37, 3) := by decide +kernel
theorem d_Re_fillFromBasis_66 : decode c_Re_fillFromBasisb 66 = .ok (.iload 5, 2) := by decide +kernel
theorem d_Re_fillFromBasis_68 : decode c_Re_fillFromBasisb 68 = .ok (.isub, 1) := by decide +kernel
theorem d_Re_fillFromBasis_69 : decode c_Re_fillFromBasisb 69 = .ok (.iastore, 1) := by decide +kernel
theorem d_Re_fillFromBasis_70 : decode c_Re_fillFromBasisb 70 = .ok (.iinc 4 1, 3) := by decide +kernel
theorem d_Re_fillFromBasis_73 : decode c_Re_fillFromBasisb 73 = .ok (.goto (-70), 3) := by decide +kernel
theorem d_Re_fillFromBasis_76 : decode c_Re_fillFromBasisb 76 = .ok (.return_, 1) := by decide +kernel
abbrev ws_fillFromBasis (a_Mo a_Sp a_Re a_Mo_codes a_Sp_rows a_Re_codes a_Re_products a_Mo_degrees a_Mo_keys a_Mo_raised a_Sp_leads a_Sp_kept a_Sp_work a_Sp_basis a_Re_bounds a_Re_pairs a_Re_keys : Nat) (cI cL cZ : ClassId) (Mo_variables Mo_order Mo_highest Mo_count Sp_prime Sp_limit Sp_keptCount Sp_basisCount Re_prime Re_variables Re_size Re_pairCount : Int32) (Mo_codes Sp_rows Re_codes Re_products : Nat → Int32) : va_W := [(a_Mo, .inr (1, [.int Mo_variables, .int Mo_order, .int Mo_highest, .int Mo_count, .ref a_Mo_codes, .ref a_Mo_degrees, .ref a_Mo_keys, .ref a_Mo_raised])), (a_Sp, .inr (2, [.ref a_Mo, .int Sp_prime, .int Sp_limit, .ref a_Sp_rows, .ref a_Sp_leads, .ref a_Sp_kept, .int Sp_keptCount, .ref a_Sp_work, .ref a_Sp_basis, .int Sp_basisCount])), (a_Re, .inr (3, [.int Re_prime, .int Re_variables, .int Re_size, .ref a_Re_codes, .ref a_Re_products, .ref a_Re_bounds, .ref a_Re_pairs, .ref a_Re_keys, .int Re_pairCount])), (a_Mo_codes, .inl (cI, 126, .inl Mo_codes)), (a_Sp_rows, .inl (cI, 15876, .inl Sp_rows)), (a_Re_codes, .inl (cI, 40, .inl Re_codes)), (a_Re_products, .inl (cI, 6400, .inl Re_products))]
abbrev rm_fillFromBasis : Room := { frames := 1, cells := 0, slots := 0, locals := 22 }
abbrev g_fillFromBasis (X : gX) (D : va_G) (cI cL cZ : ClassId) (a_Mo a_Sp a_Re a_Mo_codes a_Sp_rows a_Re_codes a_Re_products a_Mo_degrees a_Mo_keys a_Mo_raised a_Sp_leads a_Sp_kept a_Sp_work a_Sp_basis a_Re_bounds a_Re_pairs a_Re_keys : Nat) (A : Nat → Prop) (Mo_variables Mo_order Mo_highest Mo_count Sp_prime Sp_limit Sp_keptCount Sp_basisCount Re_prime Re_variables Re_size Re_pairCount : Int32) (Mo_codes Sp_rows Re_codes Re_products_r : Nat → Int32) (pc : Nat) (lv : List (Nat × Value)) (st : List Value) (Re_products : Nat → Int32) : Prop := ∀ (H : Heap) (locs : List Loc) (ls : Array Slot), va_P D classes (ws_fillFromBasis a_Mo a_Sp a_Re a_Mo_codes a_Sp_rows a_Re_codes a_Re_products a_Mo_degrees a_Mo_keys a_Mo_raised a_Sp_leads a_Sp_kept a_Sp_work a_Sp_basis a_Re_bounds a_Re_pairs a_Re_keys cI cL cZ Mo_variables Mo_order Mo_highest Mo_count Sp_prime Sp_limit Sp_keptCount Sp_basisCount Re_prime Re_variables Re_size Re_pairCount Mo_codes Sp_rows Re_codes Re_products) H → va_D A (ws_fillFromBasis a_Mo a_Sp a_Re a_Mo_codes a_Sp_rows a_Re_codes a_Re_products a_Mo_degrees a_Mo_keys a_Mo_raised a_Sp_leads a_Sp_kept a_Sp_work a_Sp_basis a_Re_bounds a_Re_pairs a_Re_keys cI cL cZ Mo_variables Mo_order Mo_highest Mo_count Sp_prime Sp_limit Sp_keptCount Sp_basisCount Re_prime Re_variables Re_size Re_pairCount Mo_codes Sp_rows Re_codes Re_products) → va_S A (gs X).heap H locs → lv_has ls 7 lv → gWW X rm_fillFromBasis H locs 0 0 (MQ (gbl X) (va_Qv (fun _ : Unit => True) (gB D (gT cI cL cZ) A (ws_fillFromBasis a_Mo a_Sp a_Re a_Mo_codes a_Sp_rows a_Re_codes a_Re_products a_Mo_degrees a_Mo_keys a_Mo_raised a_Sp_leads a_Sp_kept a_Sp_work a_Sp_basis a_Re_bounds a_Re_pairs a_Re_keys cI cL cZ Mo_variables Mo_order Mo_highest Mo_count Sp_prime Sp_limit Sp_keptCount Sp_basisCount Re_prime Re_variables Re_size Re_pairCount Mo_codes Sp_rows Re_codes Re_products_r)) A) (ga X) (gs X) 0 0 A) (F0 (gm X) pc ls st)
set_option maxHeartbeats 4000000 in
set_option maxRecDepth 100000 in
theorem w_fillFromBasis_46 (X : gX) (D : va_G) (cI cL cZ : ClassId) (a_Mo a_Sp a_Re a_Mo_codes a_Sp_rows a_Re_codes a_Re_products a_Mo_degrees a_Mo_keys a_Mo_raised a_Sp_leads a_Sp_kept a_Sp_work a_Sp_basis a_Re_bounds a_Re_pairs a_Re_keys : Nat) (A : Nat → Prop) (Mo_variables Mo_order Mo_highest Mo_count Sp_prime Sp_limit Sp_keptCount Sp_basisCount Re_prime Re_variables Re_size Re_pairCount : Int32) (Mo_codes Sp_rows Re_codes Re_products_r : Nat → Int32) (F : Nat) (C0 : gC X c_Re_fillFromBasisb none 7 "RemnantDictionary$Remnant" gAll) (hK : va_K D classes (gT cI cL cZ) (gs X)) (hA : ∀ q : Nat, (gs X).heap.size ≤ q → A q) (hN : gN (gs X)) (k3 : Int32 → Int32 → Int32 → (Nat → Int32) → Option ((Nat → Int32))) (hk3 : ∀ (i2 i3 i4 : Int32) (Re_products : Nat → Int32), k3 i2 i3 i4 Re_products = some Re_products_r → g_fillFromBasis X D cI cL cZ a_Mo a_Sp a_Re a_Mo_codes a_Sp_rows a_Re_codes a_Re_products a_Mo_degrees a_Mo_keys a_Mo_raised a_Sp_leads a_Sp_kept a_Sp_work a_Sp_basis a_Re_bounds a_Re_pairs a_Re_keys A Mo_variables Mo_order Mo_highest Mo_count Sp_prime Sp_limit Sp_keptCount Sp_basisCount Re_prime Re_variables Re_size Re_pairCount Mo_codes Sp_rows Re_codes Re_products_r 3 [(0, .ref a_Re), (1, .ref a_Sp), (2, .int i2), (3, .int i3), (4, .int i4)] [] Re_products) (i2 i3 i4 i5 t0 : Int32) (Re_products : Nat → Int32) (hrun : s_fillFromBasis_46 F Re_prime Re_size Mo_codes Sp_rows Re_codes k3 i2 i3 i4 i5 t0 Re_products = some Re_products_r) : g_fillFromBasis X D cI cL cZ a_Mo a_Sp a_Re a_Mo_codes a_Sp_rows a_Re_codes a_Re_products a_Mo_degrees a_Mo_keys a_Mo_raised a_Sp_leads a_Sp_kept a_Sp_work a_Sp_basis a_Re_bounds a_Re_pairs a_Re_keys A Mo_variables Mo_order Mo_highest Mo_count Sp_prime Sp_limit Sp_keptCount Sp_basisCount Re_prime Re_variables Re_size Re_pairCount Mo_codes Sp_rows Re_codes Re_products_r 46 [(0, .ref a_Re), (1, .ref a_Sp), (2, .int i2), (3, .int i3), (4, .int i4), (5, .int i5)] [.int t0] Re_products := by
  have C1 := C0
  obtain ⟨hx, hb, hr, hml, hown, hts, hlocks⟩ := C1
  unfold s_fillFromBasis_46 at hrun
  intro H locs ls hP hD hS hl
  refine lv_istore (lv' := [(6, .int t0), (0, .ref a_Re), (1, .ref a_Sp), (2, .int i2), (3, .int i3), (4, .int i4), (5, .int i5)]) hx hb d_Re_fillFromBasis_46 hl (by decide) rfl (fun ls hl => ?_)
  refine lv_iload hx hb d_Re_fillFromBasis_48 (lv_at hl 0 rfl) ?_
  refine lv_iconst (v := (-1)) hx hb d_Re_fillFromBasis_50 (by decide) ?_
  refine g_icmp_eq (tgt := 70) hx hb d_Re_fillFromBasis_51 (by decide) hrun (fun _ hrun => ?_) (fun _ hrun => ?_)
  · refine lv_iinc (v := (i4 + 1)) (lv' := [(4, .int (i4 + 1)), (6, .int t0), (0, .ref a_Re), (1, .ref a_Sp), (2, .int i2), (3, .int i3), (5, .int i5)]) hx hb d_Re_fillFromBasis_70 hl (k := 5) rfl rfl (by decide) rfl (fun ls hl => ?_)
    refine lv_goto (tgt := 3) hx hb d_Re_fillFromBasis_73 (by decide) ?_
    exact hk3 i2 i3 (i4 + 1) Re_products hrun H locs ls hP hD hS (lv_sub hl [2, 3, 4, 5, 0] rfl)
  · refine lv_aload_n hx hb d_Re_fillFromBasis_54 rfl (lv_at hl 1 rfl) ?_
    refine va_get (D := D) (ci := 3) (v := .ref a_Re_products) (C := "RemnantDictionary$Remnant") (T := T_Re) (N := 9) hx hb hts iw_Re hown hK hP 2 rfl rfl 4 (by decide) (hts _ k_182) (fun _ h9 => h9) rfl d_Re_fillFromBasis_55 ?_
    refine lv_iload_n hx hb d_Re_fillFromBasis_58 rfl (lv_at hl 4 rfl) ?_
    refine lv_iload hx hb d_Re_fillFromBasis_59 (lv_at hl 0 rfl) ?_
    refine lv_iadd hx hb d_Re_fillFromBasis_61 ?_
    refine lv_aload_n hx hb d_Re_fillFromBasis_62 rfl (lv_at hl 1 rfl) ?_
    refine va_get (D := D) (ci := 3) (v := .int Re_prime) (C := "RemnantDictionary$Remnant") (T := T_Re) (N := 9) hx hb hts iw_Re hown hK hP 2 rfl rfl 0 (by decide) (hts _ k_165) (fun _ h9 => h9) rfl d_Re_fillFromBasis_63 ?_
    refine lv_iload hx hb d_Re_fillFromBasis_66 (lv_at hl 6 rfl) ?_
    refine lv_isub hx hb d_Re_fillFromBasis_68 ?_
    refine g_iast hx hb hK hP hD hS 6 0 rfl rfl hrun d_Re_fillFromBasis_69 (fun Re_products_1 hrun H locs (hP : va_P D classes (ws_fillFromBasis a_Mo a_Sp a_Re a_Mo_codes a_Sp_rows a_Re_codes a_Re_products a_Mo_degrees a_Mo_keys a_Mo_raised a_Sp_leads a_Sp_kept a_Sp_work a_Sp_basis a_Re_bounds a_Re_pairs a_Re_keys cI cL cZ Mo_variables Mo_order Mo_highest Mo_count Sp_prime Sp_limit Sp_keptCount Sp_basisCount Re_prime Re_variables Re_size Re_pairCount Mo_codes Sp_rows Re_codes Re_products_1) H) (hD : va_D A (ws_fillFromBasis a_Mo a_Sp a_Re a_Mo_codes a_Sp_rows a_Re_codes a_Re_products a_Mo_degrees a_Mo_keys a_Mo_raised a_Sp_leads a_Sp_kept a_Sp_work a_Sp_basis a_Re_bounds a_Re_pairs a_Re_keys cI cL cZ Mo_variables Mo_order Mo_highest Mo_count Sp_prime Sp_limit Sp_keptCount Sp_basisCount Re_prime Re_variables Re_size Re_pairCount Mo_codes Sp_rows Re_codes Re_products_1)) hS => ?_)
    refine lv_iinc (v := (i4 + 1)) (lv' := [(4, .int (i4 + 1)), (6, .int t0), (0, .ref a_Re), (1, .ref a_Sp), (2, .int i2), (3, .int i3), (5, .int i5)]) hx hb d_Re_fillFromBasis_70 hl (k := 5) rfl rfl (by decide) rfl (fun ls hl => ?_)
    refine lv_goto (tgt := 3) hx hb d_Re_fillFromBasis_73 (by decide) ?_
    exact hk3 i2 i3 (i4 + 1) Re_products_1 hrun H locs ls hP hD hS (lv_sub hl [2, 3, 4, 5, 0] rfl)
set_option maxHeartbeats 4000000 in
set_option maxRecDepth 100000 in
theorem w_fillFromBasis_3 (X : gX) (D : va_G) (cI cL cZ : ClassId) (a_Mo a_Sp a_Re a_Mo_codes a_Sp_rows a_Re_codes a_Re_products a_Mo_degrees a_Mo_keys a_Mo_raised a_Sp_leads a_Sp_kept a_Sp_work a_Sp_basis a_Re_bounds a_Re_pairs a_Re_keys : Nat) (A : Nat → Prop) (Mo_variables Mo_order Mo_highest Mo_count Sp_prime Sp_limit Sp_keptCount Sp_basisCount Re_prime Re_variables Re_size Re_pairCount : Int32) (Mo_codes Sp_rows Re_codes Re_products_r : Nat → Int32) (F : Nat) (C0 : gC X c_Re_fillFromBasisb none 7 "RemnantDictionary$Remnant" gAll) (hK : va_K D classes (gT cI cL cZ) (gs X)) (hA : ∀ q : Nat, (gs X).heap.size ≤ q → A q) (hN : gN (gs X)) (k3 : Int32 → Int32 → Int32 → (Nat → Int32) → Option ((Nat → Int32))) (hk3 : ∀ (i2 i3 i4 : Int32) (Re_products : Nat → Int32), k3 i2 i3 i4 Re_products = some Re_products_r → g_fillFromBasis X D cI cL cZ a_Mo a_Sp a_Re a_Mo_codes a_Sp_rows a_Re_codes a_Re_products a_Mo_degrees a_Mo_keys a_Mo_raised a_Sp_leads a_Sp_kept a_Sp_work a_Sp_basis a_Re_bounds a_Re_pairs a_Re_keys A Mo_variables Mo_order Mo_highest Mo_count Sp_prime Sp_limit Sp_keptCount Sp_basisCount Re_prime Re_variables Re_size Re_pairCount Mo_codes Sp_rows Re_codes Re_products_r 3 [(0, .ref a_Re), (1, .ref a_Sp), (2, .int i2), (3, .int i3), (4, .int i4)] [] Re_products) (i2 i3 i4 : Int32) (Re_products : Nat → Int32) (hrun : s_fillFromBasis_3 F Re_prime Re_size Mo_codes Sp_rows Re_codes k3 i2 i3 i4 Re_products = some Re_products_r) : g_fillFromBasis X D cI cL cZ a_Mo a_Sp a_Re a_Mo_codes a_Sp_rows a_Re_codes a_Re_products a_Mo_degrees a_Mo_keys a_Mo_raised a_Sp_leads a_Sp_kept a_Sp_work a_Sp_basis a_Re_bounds a_Re_pairs a_Re_keys A Mo_variables Mo_order Mo_highest Mo_count Sp_prime Sp_limit Sp_keptCount Sp_basisCount Re_prime Re_variables Re_size Re_pairCount Mo_codes Sp_rows Re_codes Re_products_r 3 [(0, .ref a_Re), (1, .ref a_Sp), (2, .int i2), (3, .int i3), (4, .int i4)] [] Re_products := by
  have C1 := C0
  obtain ⟨hx, hb, hr, hml, hown, hts, hlocks⟩ := C1
  unfold s_fillFromBasis_3 at hrun
  intro H locs ls hP hD hS hl
  refine lv_iload hx hb d_Re_fillFromBasis_3 (lv_at hl 4 rfl) ?_
  refine lv_iload_n hx hb d_Re_fillFromBasis_5 rfl (lv_at hl 2 rfl) ?_
  refine g_icmp_ge (tgt := 76) hx hb d_Re_fillFromBasis_6 (by decide) hrun (fun _ hrun => ?_) (fun _ hrun => ?_)
  · cases hrun
    exact W.vret hx hb hr (fun t ht hW => ⟨⟨(), rfl, trivial, gB_of ht hW.alike hP hK hD⟩, hS.F ht⟩) hS.2.2 d_Re_fillFromBasis_76
  · refine lv_aload_n hx hb d_Re_fillFromBasis_9 rfl (lv_at hl 1 rfl) ?_
    refine va_get (D := D) (ci := 2) (v := .ref a_Sp_rows) (C := "RemnantDictionary$Space") (T := T_Sp) (N := 10) hx hb hts iw_Sp hown hK hP 1 rfl rfl 3 (by decide) (hts _ k_184) (fun _ h9 => h9) rfl d_Re_fillFromBasis_10 ?_
    refine lv_iload_n hx hb d_Re_fillFromBasis_13 rfl (lv_at hl 2 rfl) ?_
    refine lv_bipush (v := 126) hx hb d_Re_fillFromBasis_14 (by decide) ?_
    refine lv_imul hx hb d_Re_fillFromBasis_16 ?_
    refine lv_iload hx hb d_Re_fillFromBasis_17 (lv_at hl 4 rfl) ?_
    refine lv_iadd hx hb d_Re_fillFromBasis_19 ?_
    refine g_iald hx hb hK hP 4 0 rfl rfl hrun d_Re_fillFromBasis_20 (fun x_1 hrun => ?_)
    refine lv_istore (lv' := [(5, .int x_1), (0, .ref a_Re), (1, .ref a_Sp), (2, .int i2), (3, .int i3), (4, .int i4)]) hx hb d_Re_fillFromBasis_21 hl (by decide) rfl (fun ls hl => ?_)
    refine lv_iload hx hb d_Re_fillFromBasis_23 (lv_at hl 0 rfl) ?_
    refine g_if_ne (tgt := 32) hx hb d_Re_fillFromBasis_25 (by decide) hrun (fun _ hrun => ?_) (fun _ hrun => ?_)
    · refine lv_aload_n hx hb d_Re_fillFromBasis_32 rfl (lv_at hl 1 rfl) ?_
      refine lv_aload_n hx hb d_Re_fillFromBasis_33 rfl (lv_at hl 2 rfl) ?_
      refine va_get (D := D) (ci := 2) (v := .ref a_Mo) (C := "RemnantDictionary$Space") (T := T_Sp) (N := 10) hx hb hts iw_Sp hown hK hP 1 rfl rfl 0 (by decide) (hts _ k_153) (fun _ h9 => h9) rfl d_Re_fillFromBasis_34 ?_
      refine va_get (D := D) (ci := 1) (v := .ref a_Mo_codes) (C := "RemnantDictionary$Monomials") (T := T_Mo) (N := 8) hx hb hts iw_Mo hown hK hP 0 rfl rfl 4 (by decide) (hts _ k_185) (fun _ h9 => h9) rfl d_Re_fillFromBasis_37 ?_
      refine lv_iload hx hb d_Re_fillFromBasis_40 (lv_at hl 5 rfl) ?_
      refine g_iald hx hb hK hP 3 0 rfl rfl hrun d_Re_fillFromBasis_42 (fun x_2 hrun => ?_)
      obtain ⟨r_3, hc, hrun⟩ := bd1_s hrun
      refine vp_callSi (W.runV (As := [.int x_2]) (rest := []) ⟨hx, hb, hml, hown, hts⟩ (c_placeOf (gl X) D cI cL cZ a_Re a_Re_codes a_Re_products a_Re_bounds a_Re_pairs a_Re_keys F Re_prime Re_variables Re_size Re_pairCount Re_codes x_2 r_3 hc) (cwV 1 hts (gwV k_188 k_186 k_187 k_157 k_181) rfl rfl rfl (by decide +kernel) ⟨Nat.le_of_ble_eq_true rfl, Nat.le_of_ble_eq_true rfl⟩) (gpreV (hP.sub (ws' := (ws_placeOf a_Re a_Re_codes a_Re_products a_Re_bounds a_Re_pairs a_Re_keys cI cL cZ Re_prime Re_variables Re_size Re_pairCount Re_codes)) [2, 5] rfl) hK hN 3 0 rfl rfl) rfl rfl hl.1 rfl (lv_room (Nat.le_of_ble_eq_true rfl)) d_Re_fillFromBasis_43 ⟨Nat.le_of_ble_eq_true rfl, Nat.le_of_ble_eq_true rfl⟩) (nm_e ?_)
      exact w_fillFromBasis_46 X D cI cL cZ a_Mo a_Sp a_Re a_Mo_codes a_Sp_rows a_Re_codes a_Re_products a_Mo_degrees a_Mo_keys a_Mo_raised a_Sp_leads a_Sp_kept a_Sp_work a_Sp_basis a_Re_bounds a_Re_pairs a_Re_keys A Mo_variables Mo_order Mo_highest Mo_count Sp_prime Sp_limit Sp_keptCount Sp_basisCount Re_prime Re_variables Re_size Re_pairCount Mo_codes Sp_rows Re_codes Re_products_r F C0 hK hA hN k3 hk3 i2 i3 i4 x_1 r_3 Re_products hrun H locs ls hP hD hS (lv_sub hl [1, 2, 3, 4, 5, 0] rfl)
    · refine lv_iconst (v := (-1)) hx hb d_Re_fillFromBasis_28 (by decide) ?_
      refine lv_goto (tgt := 46) hx hb d_Re_fillFromBasis_29 (by decide) ?_
      exact w_fillFromBasis_46 X D cI cL cZ a_Mo a_Sp a_Re a_Mo_codes a_Sp_rows a_Re_codes a_Re_products a_Mo_degrees a_Mo_keys a_Mo_raised a_Sp_leads a_Sp_kept a_Sp_work a_Sp_basis a_Re_bounds a_Re_pairs a_Re_keys A Mo_variables Mo_order Mo_highest Mo_count Sp_prime Sp_limit Sp_keptCount Sp_basisCount Re_prime Re_variables Re_size Re_pairCount Mo_codes Sp_rows Re_codes Re_products_r F C0 hK hA hN k3 hk3 i2 i3 i4 x_1 (-1) Re_products hrun H locs ls hP hD hS (lv_sub hl [1, 2, 3, 4, 5, 0] rfl)
theorem v_fillFromBasis_3 (X : gX) (D : va_G) (cI cL cZ : ClassId) (a_Mo a_Sp a_Re a_Mo_codes a_Sp_rows a_Re_codes a_Re_products a_Mo_degrees a_Mo_keys a_Mo_raised a_Sp_leads a_Sp_kept a_Sp_work a_Sp_basis a_Re_bounds a_Re_pairs a_Re_keys : Nat) (A : Nat → Prop) (Mo_variables Mo_order Mo_highest Mo_count Sp_prime Sp_limit Sp_keptCount Sp_basisCount Re_prime Re_variables Re_size Re_pairCount : Int32) (Mo_codes Sp_rows Re_codes Re_products_r : Nat → Int32) (F : Nat) (C0 : gC X c_Re_fillFromBasisb none 7 "RemnantDictionary$Remnant" gAll) (hK : va_K D classes (gT cI cL cZ) (gs X)) (hA : ∀ q : Nat, (gs X).heap.size ≤ q → A q) (hN : gN (gs X))  : ∀ (n : Nat) (i2 i3 i4 : Int32) (Re_products : Nat → Int32), b_fillFromBasis_3 F Re_prime Re_size Mo_codes Sp_rows Re_codes n i2 i3 i4 Re_products = some Re_products_r → g_fillFromBasis X D cI cL cZ a_Mo a_Sp a_Re a_Mo_codes a_Sp_rows a_Re_codes a_Re_products a_Mo_degrees a_Mo_keys a_Mo_raised a_Sp_leads a_Sp_kept a_Sp_work a_Sp_basis a_Re_bounds a_Re_pairs a_Re_keys A Mo_variables Mo_order Mo_highest Mo_count Sp_prime Sp_limit Sp_keptCount Sp_basisCount Re_prime Re_variables Re_size Re_pairCount Mo_codes Sp_rows Re_codes Re_products_r 3 [(0, .ref a_Re), (1, .ref a_Sp), (2, .int i2), (3, .int i3), (4, .int i4)] [] Re_products := by
  intro n
  induction n with
  | zero => intro i2 i3 i4 Re_products hrun; cases hrun
  | succ n ih =>
    intro i2 i3 i4 Re_products hrun
    exact w_fillFromBasis_3 X D cI cL cZ a_Mo a_Sp a_Re a_Mo_codes a_Sp_rows a_Re_codes a_Re_products a_Mo_degrees a_Mo_keys a_Mo_raised a_Sp_leads a_Sp_kept a_Sp_work a_Sp_basis a_Re_bounds a_Re_pairs a_Re_keys A Mo_variables Mo_order Mo_highest Mo_count Sp_prime Sp_limit Sp_keptCount Sp_basisCount Re_prime Re_variables Re_size Re_pairCount Mo_codes Sp_rows Re_codes Re_products_r F C0 hK hA hN (b_fillFromBasis_3 F Re_prime Re_size Mo_codes Sp_rows Re_codes n) ih i2 i3 i4 Re_products hrun
set_option maxHeartbeats 4000000 in
set_option maxRecDepth 100000 in
theorem e_fillFromBasis (X : gX) (D : va_G) (cI cL cZ : ClassId) (a_Mo a_Sp a_Re a_Mo_codes a_Sp_rows a_Re_codes a_Re_products a_Mo_degrees a_Mo_keys a_Mo_raised a_Sp_leads a_Sp_kept a_Sp_work a_Sp_basis a_Re_bounds a_Re_pairs a_Re_keys : Nat) (A : Nat → Prop) (Mo_variables Mo_order Mo_highest Mo_count Sp_prime Sp_limit Sp_keptCount Sp_basisCount Re_prime Re_variables Re_size Re_pairCount : Int32) (Mo_codes Sp_rows Re_codes Re_products_r : Nat → Int32) (F : Nat) (C0 : gC X c_Re_fillFromBasisb none 7 "RemnantDictionary$Remnant" gAll) (hK : va_K D classes (gT cI cL cZ) (gs X)) (hA : ∀ q : Nat, (gs X).heap.size ≤ q → A q) (hN : gN (gs X)) (i2 i3 : Int32) (Re_products : Nat → Int32) (hrun : m_fillFromBasis F Re_prime Re_size Mo_codes Sp_rows Re_codes i2 i3 Re_products = some Re_products_r) : g_fillFromBasis X D cI cL cZ a_Mo a_Sp a_Re a_Mo_codes a_Sp_rows a_Re_codes a_Re_products a_Mo_degrees a_Mo_keys a_Mo_raised a_Sp_leads a_Sp_kept a_Sp_work a_Sp_basis a_Re_bounds a_Re_pairs a_Re_keys A Mo_variables Mo_order Mo_highest Mo_count Sp_prime Sp_limit Sp_keptCount Sp_basisCount Re_prime Re_variables Re_size Re_pairCount Mo_codes Sp_rows Re_codes Re_products_r 0 [(0, .ref a_Re), (1, .ref a_Sp), (2, .int i2), (3, .int i3)] [] Re_products := by
  have C1 := C0
  obtain ⟨hx, hb, hr, hml, hown, hts, hlocks⟩ := C1
  unfold m_fillFromBasis at hrun
  intro H locs ls hP hD hS hl
  refine lv_iconst (v := 0) hx hb d_Re_fillFromBasis_0 (by decide) ?_
  refine lv_istore (lv' := [(4, .int 0), (0, .ref a_Re), (1, .ref a_Sp), (2, .int i2), (3, .int i3)]) hx hb d_Re_fillFromBasis_1 hl (by decide) rfl (fun ls hl => ?_)
  exact v_fillFromBasis_3 X D cI cL cZ a_Mo a_Sp a_Re a_Mo_codes a_Sp_rows a_Re_codes a_Re_products a_Mo_degrees a_Mo_keys a_Mo_raised a_Sp_leads a_Sp_kept a_Sp_work a_Sp_basis a_Re_bounds a_Re_pairs a_Re_keys A Mo_variables Mo_order Mo_highest Mo_count Sp_prime Sp_limit Sp_keptCount Sp_basisCount Re_prime Re_variables Re_size Re_pairCount Mo_codes Sp_rows Re_codes Re_products_r F C0 hK hA hN  F i2 i3 0 Re_products hrun H locs ls hP hD hS (lv_sub hl [1, 2, 3, 4, 0] rfl)
set_option maxHeartbeats 4000000 in
set_option maxRecDepth 100000 in
theorem c_fillFromBasis (l : Launch) (D : va_G) (cI cL cZ : ClassId) (a_Mo a_Sp a_Re a_Mo_codes a_Sp_rows a_Re_codes a_Re_products a_Mo_degrees a_Mo_keys a_Mo_raised a_Sp_leads a_Sp_kept a_Sp_work a_Sp_basis a_Re_bounds a_Re_pairs a_Re_keys : Nat) (F : Nat) (Mo_variables Mo_order Mo_highest Mo_count Sp_prime Sp_limit Sp_keptCount Sp_basisCount Re_prime Re_variables Re_size Re_pairCount : Int32) (Mo_codes Sp_rows Re_codes Re_products : Nat → Int32) (i2 i3 : Int32) (sz : Nat) (Re_products_r : Nat → Int32) (hrun : m_fillFromBasis F Re_prime Re_size Mo_codes Sp_rows Re_codes i2 i3 Re_products = some Re_products_r) : Met l y_Re_fillFromBasis (.code y_Re_fillFromBasis c_Re_fillFromBasisb 7 none :: gAll) rm_fillFromBasis (va_Pc [.ref a_Re, .ref a_Sp, .int i2, .int i3] (gPW D (gT cI cL cZ) (ws_fillFromBasis a_Mo a_Sp a_Re a_Mo_codes a_Sp_rows a_Re_codes a_Re_products a_Mo_degrees a_Mo_keys a_Mo_raised a_Sp_leads a_Sp_kept a_Sp_work a_Sp_basis a_Re_bounds a_Re_pairs a_Re_keys cI cL cZ Mo_variables Mo_order Mo_highest Mo_count Sp_prime Sp_limit Sp_keptCount Sp_basisCount Re_prime Re_variables Re_size Re_pairCount Mo_codes Sp_rows Re_codes Re_products) sz)) (va_Qv (fun _ : Unit => True) (gB D (gT cI cL cZ) (va_A (ws_fillFromBasis a_Mo a_Sp a_Re a_Mo_codes a_Sp_rows a_Re_codes a_Re_products a_Mo_degrees a_Mo_keys a_Mo_raised a_Sp_leads a_Sp_kept a_Sp_work a_Sp_basis a_Re_bounds a_Re_pairs a_Re_keys cI cL cZ Mo_variables Mo_order Mo_highest Mo_count Sp_prime Sp_limit Sp_keptCount Sp_basisCount Re_prime Re_variables Re_size Re_pairCount Mo_codes Sp_rows Re_codes Re_products) sz) (ws_fillFromBasis a_Mo a_Sp a_Re a_Mo_codes a_Sp_rows a_Re_codes a_Re_products a_Mo_degrees a_Mo_keys a_Mo_raised a_Sp_leads a_Sp_kept a_Sp_work a_Sp_basis a_Re_bounds a_Re_pairs a_Re_keys cI cL cZ Mo_variables Mo_order Mo_highest Mo_count Sp_prime Sp_limit Sp_keptCount Sp_basisCount Re_prime Re_variables Re_size Re_pairCount Mo_codes Sp_rows Re_codes Re_products_r)) (va_A (ws_fillFromBasis a_Mo a_Sp a_Re a_Mo_codes a_Sp_rows a_Re_codes a_Re_products a_Mo_degrees a_Mo_keys a_Mo_raised a_Sp_leads a_Sp_kept a_Sp_work a_Sp_basis a_Re_bounds a_Re_pairs a_Re_keys cI cL cZ Mo_variables Mo_order Mo_highest Mo_count Sp_prime Sp_limit Sp_keptCount Sp_basisCount Re_prime Re_variables Re_size Re_pairCount Mo_codes Sp_rows Re_codes Re_products) sz)) 0 0 (va_A (ws_fillFromBasis a_Mo a_Sp a_Re a_Mo_codes a_Sp_rows a_Re_codes a_Re_products a_Mo_degrees a_Mo_keys a_Mo_raised a_Sp_leads a_Sp_kept a_Sp_work a_Sp_basis a_Re_bounds a_Re_pairs a_Re_keys cI cL cZ Mo_variables Mo_order Mo_highest Mo_count Sp_prime Sp_limit Sp_keptCount Sp_basisCount Re_prime Re_variables Re_size Re_pairCount Mo_codes Sp_rows Re_codes Re_products) sz) := by
  refine Met.ofW (cc := c_Re_fillFromBasisb) (maxL := 7) (ret := none) (by decide +kernel) rfl ?_
  intro p e s m args below meth c s₁ B hml hv
  obtain ⟨rfl, hsz, hP, hK, hN, hD0⟩ := hv
  subst hsz
  have hD := hD0.self (sz := s.heap.size)
  have hl := lv_entry ([.ref a_Re, .ref a_Sp, .int i2, .int i3]) (n := 7) (Nat.le_of_ble_eq_true rfl)
  rw [lg_entry_eq]
  generalize (lg_sl ([.ref a_Re, .ref a_Sp, .int i2, .int i3]) ++ List.replicate (7 - (lg_sl ([.ref a_Re, .ref a_Sp, .int i2, .int i3])).length) Slot.unset).toArray = ls at hl ⊢
  exact e_fillFromBasis (p, l, e, s, m, ([.ref a_Re, .ref a_Sp, .int i2, .int i3] : List Value).toArray, below, meth, c) D cI cL cZ a_Mo a_Sp a_Re a_Mo_codes a_Sp_rows a_Re_codes a_Re_products a_Mo_degrees a_Mo_keys a_Mo_raised a_Sp_leads a_Sp_kept a_Sp_work a_Sp_basis a_Re_bounds a_Re_pairs a_Re_keys (va_A (ws_fillFromBasis a_Mo a_Sp a_Re a_Mo_codes a_Sp_rows a_Re_codes a_Re_products a_Mo_degrees a_Mo_keys a_Mo_raised a_Sp_leads a_Sp_kept a_Sp_work a_Sp_basis a_Re_bounds a_Re_pairs a_Re_keys cI cL cZ Mo_variables Mo_order Mo_highest Mo_count Sp_prime Sp_limit Sp_keptCount Sp_basisCount Re_prime Re_variables Re_size Re_pairCount Mo_codes Sp_rows Re_codes Re_products) s.heap.size) Mo_variables Mo_order Mo_highest Mo_count Sp_prime Sp_limit Sp_keptCount Sp_basisCount Re_prime Re_variables Re_size Re_pairCount Mo_codes Sp_rows Re_codes Re_products_r F ⟨B.exec, B.bytes, B.returns, hml, findClass_of_methodNamed B.named, fun w h => atoms_spec (ws := (.code y_Re_fillFromBasis c_Re_fillFromBasisb 7 none :: gAll)) B.pre w (List.mem_cons_of_mem _ h), B.notSynchronized⟩ hK (fun q h => Or.inr h) hN i2 i3 Re_products hrun s.heap [] ls hP hD va_S.rf hl
