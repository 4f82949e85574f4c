theorem d_Re_act_0 : decode c_Re_actb 0 = .ok (.iconst 0, 1) := by decide +kernel
theorem d_Re_act_1 : decode c_Re_actb 1 = .ok (.istore 6, 2) := by decide +kernel
theorem d_Re_act_3 : decode c_Re_actb 3 = .ok (.iload 6, 2) := by decide +kernel
theorem d_Re_act_5 : decode c_Re_actb 5 = .ok (.aload_n 0, 1) := by decide +kernel
theorem d_Re_act_6 : decode c_Re_actb 6 = .ok (.getfield 28, 3) := by decide +kernel
theorem d_Re_act_9 : decode c_Re_actb 9 = .ok (.if_icmp .ge 49, 3) := by decide +kernel
theorem d_Re_act_12 : decode c_Re_actb 12 = .ok (.aload_n 2, 1) := by decide +kernel
theorem d_Re_act_13 : decode c_Re_actb 13 = .ok (.iload_n 3, 1) := by decide +kernel
theorem d_Re_act_14 : decode c_Re_actb 14 = .ok (.iload 6, 2) := by decide +kernel
theorem d_Re_act_16 : decode c_Re_actb 16 = .ok (.iadd, 1) := by decide +kernel
theorem d_Re_act_17 : decode c_Re_actb 17 = .ok (.iaload, 1) := by decide +kernel
theorem d_Re_act_18 : decode c_Re_actb 18 = .ok (.istore 7, 2) := by decide +kernel
theorem d_Re_act_20 : decode c_Re_actb 20 = .ok (.iload 7, 2) := by decide +kernel
theorem d_Re_act_22 : decode c_Re_actb 22 = .ok (.ifCond .eq 30, 3) := by decide +kernel
theorem d_Re_act_25 : decode c_Re_actb 25 = .ok (.aload 4, 2) := by decide +kernel
theorem d_Re_act_27 : decode c_Re_actb 27 = .ok (.iload 5, 2) := by decide +kernel
theorem d_Re_act_29 : decode c_Re_actb 29 = .ok (.aload_n 0, 1) := by decide +kernel
theorem d_Re_act_30 : decode c_Re_actb 30 = .ok (.getfield 15, 3) := by decide +kernel
theorem d_Re_act_33 : decode c_Re_actb 33 = .ok (.iload_n 1, 1) := by decide +kernel
theorem d_Re_act_34 : decode c_Re_actb 34 = .ok (.iload 6, 2) := by decide +kernel
theorem d_Re_act_36 : decode c_Re_actb 36 = .ok (.invokestatic 95, 3) := by decide +kernel
theorem d_Re_act_39 : decode c_Re_actb 39 = .ok (.aload_n 0, 1) := by decide +kernel
theorem d_Re_act_40 : decode c_Re_actb 40 = .ok (.getfield 28, 3) := by decide +kernel
theorem d_Re_act_43 : decode c_Re_actb 43 = .ok (.iload 7, 2) := by decide +kernel
theorem d_Re_act_45 : decode c_Re_actb 45 = .ok (.aload_n 0, 1) := by decide +kernel
theorem d_Re_act_46 : decode c_Re_actb 46 = .ok (.getfield 37, 3) := by decide +kernel
theorem d_Re_act_49 : decode c_Re_actb 49 = .ok (.invokestatic 129, 3) := by decide +kernel
theorem d_Re_act_52 : decode c_Re_actb 52 = .ok (.iinc 6 1, 3) := by decide +kernel
theorem d_Re_act_55 : decode c_Re_actb 55 = .ok (.goto (-52), 3) := by decide +kernel
theorem d_Re_act_58 : decode c_Re_actb 58 = .ok (.return_, 1) := by decide +kernel
abbrev ws_act (a_Re a_Re_products a_Re_codes a_Re_bounds a_Re_pairs a_Re_keys : Nat) (cI cL cZ : ClassId) (Re_prime Re_variables Re_size Re_pairCount : Int32) (Re_products : Nat → Int32) : va_W := [(a_Re, .inr (3, [.int Re_prime, .int Re_variables, .int Re_size, .ref a_Re_codes, .ref a_Re_products, .ref a_Re_bounds, .ref a_Re_pairs, .ref a_Re_keys, .int Re_pairCount])), (a_Re_products, .inl (cI, 6400, .inl Re_products))]
abbrev rm_act : Room := { frames := 1, cells := 0, slots := 0, locals := 28 }
abbrev g_act (X : gX) (D : va_G) (cI cL cZ : ClassId) (a_Re a_Re_products a_Re_codes a_Re_bounds a_Re_pairs a_Re_keys : Nat) (A : Nat → Prop) (Re_prime Re_variables Re_size Re_pairCount : Int32) (Re_products_r : Nat → Int32) (pc : Nat) (lv : List (Nat × Value)) (st : List Value) (Re_products : Nat → Int32) : Prop := ∀ (H : Heap) (locs : List Loc) (ls : Array Slot), va_P D classes (ws_act a_Re a_Re_products a_Re_codes a_Re_bounds a_Re_pairs a_Re_keys cI cL cZ Re_prime Re_variables Re_size Re_pairCount Re_products) H → va_D A (ws_act a_Re a_Re_products a_Re_codes a_Re_bounds a_Re_pairs a_Re_keys cI cL cZ Re_prime Re_variables Re_size Re_pairCount Re_products) → va_S A (gs X).heap H locs → lv_has ls 8 lv → gWW X rm_act H locs 0 0 (MQ (gbl X) (va_Qv (fun _ : Unit => True) (gB D (gT cI cL cZ) A (ws_act a_Re a_Re_products a_Re_codes a_Re_bounds a_Re_pairs a_Re_keys cI cL cZ Re_prime Re_variables Re_size Re_pairCount Re_products_r)) A) (ga X) (gs X) 0 0 A) (F0 (gm X) pc ls st)
set_option maxHeartbeats 4000000 in
set_option maxRecDepth 100000 in
theorem w_act_3 (X : gX) (D : va_G) (cI cL cZ : ClassId) (a_Re a_Re_products a_Re_codes a_Re_bounds a_Re_pairs a_Re_keys : Nat) (A : Nat → Prop) (Re_prime Re_variables Re_size Re_pairCount : Int32) (Re_products_r : Nat → Int32) (F : Nat) (C0 : gC X c_Re_actb none 8 "RemnantDictionary$Remnant" gAll) (hK : va_K D classes (gT cI cL cZ) (gs X)) (hA : ∀ q : Nat, (gs X).heap.size ≤ q → A q) (hN : gN (gs X)) (k3 : Int32 → Int32 → Int32 → Int32 → (Nat → Int32) → Option ((Nat → Int32))) (hk3 : ∀ (i1 i3 i5 i6 : Int32) (Re_products : Nat → Int32), k3 i1 i3 i5 i6 Re_products = some Re_products_r → g_act X D cI cL cZ a_Re a_Re_products a_Re_codes a_Re_bounds a_Re_pairs a_Re_keys A Re_prime Re_variables Re_size Re_pairCount Re_products_r 3 [(0, .ref a_Re), (1, .int i1), (2, .ref a_Re_products), (3, .int i3), (4, .ref a_Re_products), (5, .int i5), (6, .int i6)] [] Re_products) (i1 i3 i5 i6 : Int32) (Re_products : Nat → Int32) (hrun : s_act_3 F Re_prime Re_size k3 i1 i3 i5 i6 Re_products = some Re_products_r) : g_act X D cI cL cZ a_Re a_Re_products a_Re_codes a_Re_bounds a_Re_pairs a_Re_keys A Re_prime Re_variables Re_size Re_pairCount Re_products_r 3 [(0, .ref a_Re), (1, .int i1), (2, .ref a_Re_products), (3, .int i3), (4, .ref a_Re_products), (5, .int i5), (6, .int i6)] [] Re_products := by
  have C1 := C0
  obtain ⟨hx, hb, hr, hml, hown, hts, hlocks⟩ := C1
  unfold s_act_3 at hrun
  intro H locs ls hP hD hS hl
  refine lv_iload hx hb d_Re_act_3 (lv_at hl 6 rfl) ?_
  refine lv_aload_n hx hb d_Re_act_5 rfl (lv_at hl 0 rfl) ?_
  refine va_get (D := D) (ci := 3) (v := .int Re_size) (C := "RemnantDictionary$Remnant") (T := T_Re) (N := 9) hx hb hts iw_Re hown hK hP 0 rfl rfl 2 (by decide) (hts _ k_142) (fun _ h9 => h9) rfl d_Re_act_6 ?_
  refine g_icmp_ge (tgt := 58) hx hb d_Re_act_9 (by decide) hrun (fun _ hrun => ?_) (fun _ hrun => ?_)
  · cases hrun
    exact W.vret hx hb hr (fun t ht hW => ⟨⟨(), rfl, trivial, gB_of ht hW.alike hP hK hD⟩, hS.F ht⟩) hS.2.2 d_Re_act_58
  · refine lv_aload_n hx hb d_Re_act_12 rfl (lv_at hl 2 rfl) ?_
    refine lv_iload_n hx hb d_Re_act_13 rfl (lv_at hl 3 rfl) ?_
    refine lv_iload hx hb d_Re_act_14 (lv_at hl 6 rfl) ?_
    refine lv_iadd hx hb d_Re_act_16 ?_
    refine g_iald hx hb hK hP 1 0 rfl rfl hrun d_Re_act_17 (fun x_1 hrun => ?_)
    refine lv_istore (lv' := [(7, .int x_1), (0, .ref a_Re), (1, .int i1), (2, .ref a_Re_products), (3, .int i3), (4, .ref a_Re_products), (5, .int i5), (6, .int i6)]) hx hb d_Re_act_18 hl (by decide) rfl (fun ls hl => ?_)
    refine lv_iload hx hb d_Re_act_20 (lv_at hl 0 rfl) ?_
    refine g_if_eq (tgt := 52) hx hb d_Re_act_22 (by decide) hrun (fun _ hrun => ?_) (fun _ hrun => ?_)
    · refine lv_iinc (v := (i6 + 1)) (lv' := [(6, .int (i6 + 1)), (7, .int x_1), (0, .ref a_Re), (1, .int i1), (2, .ref a_Re_products), (3, .int i3), (4, .ref a_Re_products), (5, .int i5)]) hx hb d_Re_act_52 hl (k := 7) rfl rfl (by decide) rfl (fun ls hl => ?_)
      refine lv_goto (tgt := 3) hx hb d_Re_act_55 (by decide) ?_
      exact hk3 i1 i3 i5 (i6 + 1) Re_products hrun H locs ls hP hD hS (lv_sub hl [2, 3, 4, 5, 6, 7, 0] rfl)
    · refine lv_aload hx hb d_Re_act_25 (lv_at hl 5 rfl) ?_
      refine lv_iload hx hb d_Re_act_27 (lv_at hl 6 rfl) ?_
      refine lv_aload_n hx hb d_Re_act_29 rfl (lv_at hl 1 rfl) ?_
      refine va_get (D := D) (ci := 3) (v := .ref a_Re_products) (C := "RemnantDictionary$Remnant") (T := T_Re) (N := 9) hx hb hts iw_Re hown hK hP 0 rfl rfl 4 (by decide) (hts _ k_182) (fun _ h9 => h9) rfl d_Re_act_30 ?_
      refine lv_iload_n hx hb d_Re_act_33 rfl (lv_at hl 2 rfl) ?_
      refine lv_iload hx hb d_Re_act_34 (lv_at hl 7 rfl) ?_
      obtain ⟨r_2, hc, hrun⟩ := bd1_s hrun
      refine vp_callSi (g_ofRun (va_runSN (As := [.int i1, .int i6]) (rest := [.ref a_Re_products, .int i5, .ref a_Re_products]) ⟨hx, hb, hml, hown, hts⟩ (c_productRow (gl X) F i1 i6 r_2 hc) (⟨va_cnB 2 hts (gwN k_27) rfl rfl rfl (hN.1 _ (List.mem_of_getElem? (i := 11) rfl)) (hts _ k_14) (by decide +kernel) ⟨Nat.le_of_ble_eq_true rfl, Nat.le_of_ble_eq_true rfl⟩, hts _ k_189, trivial⟩) (gpreS0 hN) rfl rfl hl.1 rfl (lv_room (Nat.le_of_ble_eq_true rfl)) d_Re_act_36 ⟨Nat.le_of_ble_eq_true rfl, Nat.le_of_ble_eq_true rfl⟩)) (nm_e ?_)
      refine lv_aload_n hx hb d_Re_act_39 rfl (lv_at hl 1 rfl) ?_
      refine va_get (D := D) (ci := 3) (v := .int Re_size) (C := "RemnantDictionary$Remnant") (T := T_Re) (N := 9) hx hb hts iw_Re hown hK hP 0 rfl rfl 2 (by decide) (hts _ k_142) (fun _ h9 => h9) rfl d_Re_act_40 ?_
      refine lv_iload hx hb d_Re_act_43 (lv_at hl 0 rfl) ?_
      refine lv_aload_n hx hb d_Re_act_45 rfl (lv_at hl 1 rfl) ?_
      refine va_get (D := D) (ci := 3) (v := .int Re_prime) (C := "RemnantDictionary$Remnant") (T := T_Re) (N := 9) hx hb hts iw_Re hown hK hP 0 rfl rfl 0 (by decide) (hts _ k_165) (fun _ h9 => h9) rfl d_Re_act_46 ?_
      obtain ⟨Re_products_3, hc, hrun⟩ := bd1_s hrun
      have hFc := va_free (wc := (ws_addMultipleS a_Re_products cI cL cZ 6400 Re_products)) hD hS hA [1] rfl
      refine va_callv (va_runSN (As := [.ref a_Re_products, .int i5, .ref a_Re_products, .int r_2, .int Re_size, .int x_1, .int Re_prime]) (rest := []) ⟨hx, hb, hml, hown, hts⟩ (c_addMultipleS (gl X) D cI cL cZ a_Re_products F 6400 Re_products i5 r_2 Re_size x_1 Re_prime H.size Re_products_3 hc) (⟨va_cnB 7 hts (gwN k_9) rfl rfl rfl (hN.1 _ (List.mem_of_getElem? (i := 12) rfl)) (hts _ k_14) (by decide +kernel) ⟨Nat.le_of_ble_eq_true rfl, Nat.le_of_ble_eq_true rfl⟩, hts _ k_86, trivial⟩) (gpreSW (hP.sub (ws' := (ws_addMultipleS a_Re_products cI cL cZ 6400 Re_products)) [1] rfl) hK hN (hD.sub (ws' := (ws_addMultipleS a_Re_products cI cL cZ 6400 Re_products)) [1] (by decide) rfl)) rfl rfl hl.1 rfl (lv_room (Nat.le_of_ble_eq_true rfl)) d_Re_act_49 ⟨Nat.le_of_ble_eq_true rfl, Nat.le_of_ble_eq_true rfl⟩) hS (fun q _ h => hFc q h) hFc (fun _ t H_4 locs ht hvm hw hB hz1 hk1 hS => ?_)
      obtain ⟨hP, hD⟩ := va_join (wr := [(a_Re, .inr (3, [.int Re_prime, .int Re_variables, .int Re_size, .ref a_Re_codes, .ref a_Re_products, .ref a_Re_bounds, .ref a_Re_pairs, .ref a_Re_keys, .int Re_pairCount]))]) (w1 := (ws_addMultipleS a_Re_products cI cL cZ 6400 Re_products_3)) hP hD [1] [0] rfl rfl (by decide) (by decide) hk1 hFc (by have h9 := hB.1; rw [ht] at h9; exact h9) hB.2.2
      have hP : va_P D classes (ws_act a_Re a_Re_products a_Re_codes a_Re_bounds a_Re_pairs a_Re_keys cI cL cZ Re_prime Re_variables Re_size Re_pairCount Re_products_3) H_4 := hP.sub [0, 1] rfl
      have hD : va_D A (ws_act a_Re a_Re_products a_Re_codes a_Re_bounds a_Re_pairs a_Re_keys cI cL cZ Re_prime Re_variables Re_size Re_pairCount Re_products_3) := hD.sub [0, 1] (by decide) rfl
      refine lv_iinc (v := (i6 + 1)) (lv' := [(6, .int (i6 + 1)), (7, .int x_1), (0, .ref a_Re), (1, .int i1), (2, .ref a_Re_products), (3, .int i3), (4, .ref a_Re_products), (5, .int i5)]) hx hb d_Re_act_52 hl (k := 7) rfl rfl (by decide) rfl (fun ls hl => ?_)
      refine lv_goto (tgt := 3) hx hb d_Re_act_55 (by decide) ?_
      exact hk3 i1 i3 i5 (i6 + 1) Re_products_3 hrun H_4 locs ls hP hD hS (lv_sub hl [2, 3, 4, 5, 6, 7, 0] rfl)
theorem v_act_3 (X : gX) (D : va_G) (cI cL cZ : ClassId) (a_Re a_Re_products a_Re_codes a_Re_bounds a_Re_pairs a_Re_keys : Nat) (A : Nat → Prop) (Re_prime Re_variables Re_size Re_pairCount : Int32) (Re_products_r : Nat → Int32) (F : Nat) (C0 : gC X c_Re_actb none 8 "RemnantDictionary$Remnant" gAll) (hK : va_K D classes (gT cI cL cZ) (gs X)) (hA : ∀ q : Nat, (gs X).heap.size ≤ q → A q) (hN : gN (gs X))  : ∀ (n : Nat) (i1 i3 i5 i6 : Int32) (Re_products : Nat → Int32), b_act_3 F Re_prime Re_size n i1 i3 i5 i6 Re_products = some Re_products_r → g_act X D cI cL cZ a_Re a_Re_products a_Re_codes a_Re_bounds a_Re_pairs a_Re_keys A Re_prime Re_variables Re_size Re_pairCount Re_products_r 3 [(0, .ref a_Re), (1, .int i1), (2, .ref a_Re_products), (3, .int i3), (4, .ref a_Re_products), (5, .int i5), (6, .int i6)] [] Re_products := by
  intro n
  induction n with
  | zero => intro i1 i3 i5 i6 Re_products hrun; cases hrun
  | succ n ih =>
    intro i1 i3 i5 i6 Re_products hrun
    exact w_act_3 X D cI cL cZ a_Re a_Re_products a_Re_codes a_Re_bounds a_Re_pairs a_Re_keys A Re_prime Re_variables Re_size Re_pairCount Re_products_r F C0 hK hA hN (b_act_3 F Re_prime Re_size n) ih i1 i3 i5 i6 Re_products hrun
set_option maxHeartbeats 4000000 in
set_option maxRecDepth 100000 in
theorem e_act (X : gX) (D : va_G) (cI cL cZ : ClassId) (a_Re a_Re_products a_Re_codes a_Re_bounds a_Re_pairs a_Re_keys : Nat) (A : Nat → Prop) (Re_prime Re_variables Re_size Re_pairCount : Int32) (Re_products_r : Nat → Int32) (F : Nat) (C0 : gC X c_Re_actb none 8 "RemnantDictionary$Remnant" gAll) (hK : va_K D classes (gT cI cL cZ) (gs X)) (hA : ∀ q : Nat, (gs X).heap.size ≤ q → A q) (hN : gN (gs X)) (i1 i3 i5 : Int32) (Re_products : Nat → Int32) (hrun : m_act F Re_prime Re_size i1 i3 i5 Re_products = some Re_products_r) : g_act X D cI cL cZ a_Re a_Re_products a_Re_codes a_Re_bounds a_Re_pairs a_Re_keys A Re_prime Re_variables Re_size Re_pairCount Re_products_r 0 [(0, .ref a_Re), (1, .int i1), (2, .ref a_Re_products), (3, .int i3), (4, .ref a_Re_products), (5, .int i5)] [] Re_products := by
  have C1 := C0
  obtain ⟨hx, hb, hr, hml, hown, hts, hlocks⟩ := C1
  unfold m_act at hrun
  intro H locs ls hP hD hS hl
  refine lv_iconst (v := 0) hx hb d_Re_act_0 (by decide) ?_
  refine lv_istore (lv' := [(6, .int 0), (0, .ref a_Re), (1, .int i1), (2, .ref a_Re_products), (3, .int i3), (4, .ref a_Re_products), (5, .int i5)]) hx hb d_Re_act_1 hl (by decide) rfl (fun ls hl => ?_)
  exact v_act_3 X D cI cL cZ a_Re a_Re_products a_Re_codes a_Re_bounds a_Re_pairs a_Re_keys A Re_prime Re_variables Re_size Re_pairCount Re_products_r F C0 hK hA hN  F i1 i3 i5 0 Re_products hrun H locs ls hP hD hS (lv_sub hl [1, 2, 3, 4, 5, 6, 0] rfl)
set_option maxHeartbeats 4000000 in
set_option maxRecDepth 100000 in
theorem c_act (l : Launch) (D : va_G) (cI cL cZ : ClassId) (a_Re a_Re_products a_Re_codes a_Re_bounds a_Re_pairs a_Re_keys : Nat) (F : Nat) (Re_prime Re_variables Re_size Re_pairCount : Int32) (Re_products : Nat → Int32) (i1 i3 i5 : Int32) (sz : Nat) (Re_products_r : Nat → Int32) (hrun : m_act F Re_prime Re_size i1 i3 i5 Re_products = some Re_products_r) : Met l y_Re_act (.code y_Re_act c_Re_actb 8 none :: gAll) rm_act (va_Pc [.ref a_Re, .int i1, .ref a_Re_products, .int i3, .ref a_Re_products, .int i5] (gPW D (gT cI cL cZ) (ws_act a_Re a_Re_products a_Re_codes a_Re_bounds a_Re_pairs a_Re_keys cI cL cZ Re_prime Re_variables Re_size Re_pairCount Re_products) sz)) (va_Qv (fun _ : Unit => True) (gB D (gT cI cL cZ) (va_A (ws_act a_Re a_Re_products a_Re_codes a_Re_bounds a_Re_pairs a_Re_keys cI cL cZ Re_prime Re_variables Re_size Re_pairCount Re_products) sz) (ws_act a_Re a_Re_products a_Re_codes a_Re_bounds a_Re_pairs a_Re_keys cI cL cZ Re_prime Re_variables Re_size Re_pairCount Re_products_r)) (va_A (ws_act a_Re a_Re_products a_Re_codes a_Re_bounds a_Re_pairs a_Re_keys cI cL cZ Re_prime Re_variables Re_size Re_pairCount Re_products) sz)) 0 0 (va_A (ws_act a_Re a_Re_products a_Re_codes a_Re_bounds a_Re_pairs a_Re_keys cI cL cZ Re_prime Re_variables Re_size Re_pairCount Re_products) sz) := by
  refine Met.ofW (cc := c_Re_actb) (maxL := 8) (ret := none) (by decide +kernel) rfl ?_
  intro p e s m args below meth c s₁ B hml hv
  obtain ⟨rfl, hsz, hP, hK, hN, hD0⟩ := hv
  subst hsz
  have hD := hD0.self (sz := s.heap.size)
  have hl := lv_entry ([.ref a_Re, .int i1, .ref a_Re_products, .int i3, .ref a_Re_products, .int i5]) (n := 8) (Nat.le_of_ble_eq_true rfl)
  rw [lg_entry_eq]
  generalize (lg_sl ([.ref a_Re, .int i1, .ref a_Re_products, .int i3, .ref a_Re_products, .int i5]) ++ List.replicate (8 - (lg_sl ([.ref a_Re, .int i1, .ref a_Re_products, .int i3, .ref a_Re_products, .int i5])).length) Slot.unset).toArray = ls at hl ⊢
  exact e_act (p, l, e, s, m, ([.ref a_Re, .int i1, .ref a_Re_products, .int i3, .ref a_Re_products, .int i5] : List Value).toArray, below, meth, c) D cI cL cZ a_Re a_Re_products a_Re_codes a_Re_bounds a_Re_pairs a_Re_keys (va_A (ws_act a_Re a_Re_products a_Re_codes a_Re_bounds a_Re_pairs a_Re_keys cI cL cZ Re_prime Re_variables Re_size Re_pairCount Re_products) s.heap.size) Re_prime Re_variables Re_size Re_pairCount Re_products_r F ⟨B.exec, B.bytes, B.returns, hml, findClass_of_methodNamed B.named, fun w h => atoms_spec (ws := (.code y_Re_act c_Re_actb 8 none :: gAll)) B.pre w (List.mem_cons_of_mem _ h), B.notSynchronized⟩ hK (fun q h => Or.inr h) hN i1 i3 i5 Re_products hrun s.heap [] ls hP hD va_S.rf hl
abbrev ws_actL (a_Re a_Re_products a_Le_images a_Le_image a_Re_codes a_Re_bounds a_Re_pairs a_Re_keys : Nat) (cI cL cZ : ClassId) (Re_prime Re_variables Re_size Re_pairCount : Int32) (Re_products Le_images Le_image : Nat → Int32) : va_W := [(a_Re, .inr (3, [.int Re_prime, .int Re_variables, .int Re_size, .ref a_Re_codes, .ref a_Re_products, .ref a_Re_bounds, .ref a_Re_pairs, .ref a_Re_keys, .int Re_pairCount])), (a_Re_products, .inl (cI, 6400, .inl Re_products)), (a_Le_images, .inl (cI, 1600, .inl Le_images)), (a_Le_image, .inl (cI, 40, .inl Le_image))]
abbrev rm_actL : Room := { frames := 1, cells := 0, slots := 0, locals := 28 }
abbrev g_actL (X : gX) (D : va_G) (cI cL cZ : ClassId) (a_Re a_Re_products a_Le_images a_Le_image a_Re_codes a_Re_bounds a_Re_pairs a_Re_keys : Nat) (A : Nat → Prop) (Re_prime Re_variables Re_size Re_pairCount : Int32) (Re_products Le_images Le_image_r : Nat → Int32) (pc : Nat) (lv : List (Nat × Value)) (st : List Value) (Le_image : Nat → Int32) : Prop := ∀ (H : Heap) (locs : List Loc) (ls : Array Slot), va_P D classes (ws_actL a_Re a_Re_products a_Le_images a_Le_image a_Re_codes a_Re_bounds a_Re_pairs a_Re_keys cI cL cZ Re_prime Re_variables Re_size Re_pairCount Re_products Le_images Le_image) H → va_D A (ws_actL a_Re a_Re_products a_Le_images a_Le_image a_Re_codes a_Re_bounds a_Re_pairs a_Re_keys cI cL cZ Re_prime Re_variables Re_size Re_pairCount Re_products Le_images Le_image) → va_S A (gs X).heap H locs → lv_has ls 8 lv → gWW X rm_actL H locs 0 0 (MQ (gbl X) (va_Qv (fun _ : Unit => True) (gB D (gT cI cL cZ) A (ws_actL a_Re a_Re_products a_Le_images a_Le_image a_Re_codes a_Re_bounds a_Re_pairs a_Re_keys cI cL cZ Re_prime Re_variables Re_size Re_pairCount Re_products Le_images Le_image_r)) A) (ga X) (gs X) 0 0 A) (F0 (gm X) pc ls st)
set_option maxHeartbeats 4000000 in
set_option maxRecDepth 100000 in
theorem w_actL_3 (X : gX) (D : va_G) (cI cL cZ : ClassId) (a_Re a_Re_products a_Le_images a_Le_image a_Re_codes a_Re_bounds a_Re_pairs a_Re_keys : Nat) (A : Nat → Prop) (Re_prime Re_variables Re_size Re_pairCount : Int32) (Re_products Le_images Le_image_r : Nat → Int32) (F : Nat) (C0 : gC X c_Re_actb none 8 "RemnantDictionary$Remnant" gAll) (hK : va_K D classes (gT cI cL cZ) (gs X)) (hA : ∀ q : Nat, (gs X).heap.size ≤ q → A q) (hN : gN (gs X)) (k3 : Int32 → Int32 → Int32 → Int32 → (Nat → Int32) → Option ((Nat → Int32))) (hk3 : ∀ (i1 i3 i5 i6 : Int32) (Le_image : Nat → Int32), k3 i1 i3 i5 i6 Le_image = some Le_image_r → g_actL X D cI cL cZ a_Re a_Re_products a_Le_images a_Le_image a_Re_codes a_Re_bounds a_Re_pairs a_Re_keys A Re_prime Re_variables Re_size Re_pairCount Re_products Le_images Le_image_r 3 [(0, .ref a_Re), (1, .int i1), (2, .ref a_Le_images), (3, .int i3), (4, .ref a_Le_image), (5, .int i5), (6, .int i6)] [] Le_image) (i1 i3 i5 i6 : Int32) (Le_image : Nat → Int32) (hrun : s_actL_3 F Re_prime Re_size Re_products Le_images k3 i1 i3 i5 i6 Le_image = some Le_image_r) : g_actL X D cI cL cZ a_Re a_Re_products a_Le_images a_Le_image a_Re_codes a_Re_bounds a_Re_pairs a_Re_keys A Re_prime Re_variables Re_size Re_pairCount Re_products Le_images Le_image_r 3 [(0, .ref a_Re), (1, .int i1), (2, .ref a_Le_images), (3, .int i3), (4, .ref a_Le_image), (5, .int i5), (6, .int i6)] [] Le_image := by
  have C1 := C0
  obtain ⟨hx, hb, hr, hml, hown, hts, hlocks⟩ := C1
  unfold s_actL_3 at hrun
  intro H locs ls hP hD hS hl
  refine lv_iload hx hb d_Re_act_3 (lv_at hl 6 rfl) ?_
  refine lv_aload_n hx hb d_Re_act_5 rfl (lv_at hl 0 rfl) ?_
  refine va_get (D := D) (ci := 3) (v := .int Re_size) (C := "RemnantDictionary$Remnant") (T := T_Re) (N := 9) hx hb hts iw_Re hown hK hP 0 rfl rfl 2 (by decide) (hts _ k_142) (fun _ h9 => h9) rfl d_Re_act_6 ?_
  refine g_icmp_ge (tgt := 58) hx hb d_Re_act_9 (by decide) hrun (fun _ hrun => ?_) (fun _ hrun => ?_)
  · cases hrun
    exact W.vret hx hb hr (fun t ht hW => ⟨⟨(), rfl, trivial, gB_of ht hW.alike hP hK hD⟩, hS.F ht⟩) hS.2.2 d_Re_act_58
  · refine lv_aload_n hx hb d_Re_act_12 rfl (lv_at hl 2 rfl) ?_
    refine lv_iload_n hx hb d_Re_act_13 rfl (lv_at hl 3 rfl) ?_
    refine lv_iload hx hb d_Re_act_14 (lv_at hl 6 rfl) ?_
    refine lv_iadd hx hb d_Re_act_16 ?_
    refine g_iald hx hb hK hP 2 0 rfl rfl hrun d_Re_act_17 (fun x_1 hrun => ?_)
    refine lv_istore (lv' := [(7, .int x_1), (0, .ref a_Re), (1, .int i1), (2, .ref a_Le_images), (3, .int i3), (4, .ref a_Le_image), (5, .int i5), (6, .int i6)]) hx hb d_Re_act_18 hl (by decide) rfl (fun ls hl => ?_)
    refine lv_iload hx hb d_Re_act_20 (lv_at hl 0 rfl) ?_
    refine g_if_eq (tgt := 52) hx hb d_Re_act_22 (by decide) hrun (fun _ hrun => ?_) (fun _ hrun => ?_)
    · refine lv_iinc (v := (i6 + 1)) (lv' := [(6, .int (i6 + 1)), (7, .int x_1), (0, .ref a_Re), (1, .int i1), (2, .ref a_Le_images), (3, .int i3), (4, .ref a_Le_image), (5, .int i5)]) hx hb d_Re_act_52 hl (k := 7) rfl rfl (by decide) rfl (fun ls hl => ?_)
      refine lv_goto (tgt := 3) hx hb d_Re_act_55 (by decide) ?_
      exact hk3 i1 i3 i5 (i6 + 1) Le_image hrun H locs ls hP hD hS (lv_sub hl [2, 3, 4, 5, 6, 7, 0] rfl)
    · refine lv_aload hx hb d_Re_act_25 (lv_at hl 5 rfl) ?_
      refine lv_iload hx hb d_Re_act_27 (lv_at hl 6 rfl) ?_
      refine lv_aload_n hx hb d_Re_act_29 rfl (lv_at hl 1 rfl) ?_
      refine va_get (D := D) (ci := 3) (v := .ref a_Re_products) (C := "RemnantDictionary$Remnant") (T := T_Re) (N := 9) hx hb hts iw_Re hown hK hP 0 rfl rfl 4 (by decide) (hts _ k_182) (fun _ h9 => h9) rfl d_Re_act_30 ?_
      refine lv_iload_n hx hb d_Re_act_33 rfl (lv_at hl 2 rfl) ?_
      refine lv_iload hx hb d_Re_act_34 (lv_at hl 7 rfl) ?_
      obtain ⟨r_2, hc, hrun⟩ := bd1_s hrun
      refine vp_callSi (g_ofRun (va_runSN (As := [.int i1, .int i6]) (rest := [.ref a_Re_products, .int i5, .ref a_Le_image]) ⟨hx, hb, hml, hown, hts⟩ (c_productRow (gl X) F i1 i6 r_2 hc) (⟨va_cnB 2 hts (gwN k_27) rfl rfl rfl (hN.1 _ (List.mem_of_getElem? (i := 11) rfl)) (hts _ k_14) (by decide +kernel) ⟨Nat.le_of_ble_eq_true rfl, Nat.le_of_ble_eq_true rfl⟩, hts _ k_189, trivial⟩) (gpreS0 hN) rfl rfl hl.1 rfl (lv_room (Nat.le_of_ble_eq_true rfl)) d_Re_act_36 ⟨Nat.le_of_ble_eq_true rfl, Nat.le_of_ble_eq_true rfl⟩)) (nm_e ?_)
      refine lv_aload_n hx hb d_Re_act_39 rfl (lv_at hl 1 rfl) ?_
      refine va_get (D := D) (ci := 3) (v := .int Re_size) (C := "RemnantDictionary$Remnant") (T := T_Re) (N := 9) hx hb hts iw_Re hown hK hP 0 rfl rfl 2 (by decide) (hts _ k_142) (fun _ h9 => h9) rfl d_Re_act_40 ?_
      refine lv_iload hx hb d_Re_act_43 (lv_at hl 0 rfl) ?_
      refine lv_aload_n hx hb d_Re_act_45 rfl (lv_at hl 1 rfl) ?_
      refine va_get (D := D) (ci := 3) (v := .int Re_prime) (C := "RemnantDictionary$Remnant") (T := T_Re) (N := 9) hx hb hts iw_Re hown hK hP 0 rfl rfl 0 (by decide) (hts _ k_165) (fun _ h9 => h9) rfl d_Re_act_46 ?_
      obtain ⟨Le_image_3, hc, hrun⟩ := bd1_s hrun
      have hFc := va_free (wc := (ws_addMultiple a_Le_image a_Re_products cI cL cZ 40 6400 Le_image Re_products)) hD hS hA [3, 1] rfl
      refine va_callv (va_runSN (As := [.ref a_Le_image, .int i5, .ref a_Re_products, .int r_2, .int Re_size, .int x_1, .int Re_prime]) (rest := []) ⟨hx, hb, hml, hown, hts⟩ (c_addMultiple (gl X) D cI cL cZ a_Le_image a_Re_products F 40 6400 Le_image Re_products i5 r_2 Re_size x_1 Re_prime H.size Le_image_3 hc) (⟨va_cnB 7 hts (gwN k_9) rfl rfl rfl (hN.1 _ (List.mem_of_getElem? (i := 12) rfl)) (hts _ k_14) (by decide +kernel) ⟨Nat.le_of_ble_eq_true rfl, Nat.le_of_ble_eq_true rfl⟩, hts _ k_86, trivial⟩) (gpreSW (hP.sub (ws' := (ws_addMultiple a_Le_image a_Re_products cI cL cZ 40 6400 Le_image Re_products)) [3, 1] rfl) hK hN (hD.sub (ws' := (ws_addMultiple a_Le_image a_Re_products cI cL cZ 40 6400 Le_image Re_products)) [3, 1] (by decide) rfl)) rfl rfl hl.1 rfl (lv_room (Nat.le_of_ble_eq_true rfl)) d_Re_act_49 ⟨Nat.le_of_ble_eq_true rfl, Nat.le_of_ble_eq_true rfl⟩) hS (fun q _ h => hFc q h) hFc (fun _ t H_4 locs ht hvm hw hB hz1 hk1 hS => ?_)
      obtain ⟨hP, hD⟩ := va_join (wr := [(a_Re, .inr (3, [.int Re_prime, .int Re_variables, .int Re_size, .ref a_Re_codes, .ref a_Re_products, .ref a_Re_bounds, .ref a_Re_pairs, .ref a_Re_keys, .int Re_pairCount])), (a_Le_images, .inl (cI, 1600, .inl Le_images))]) (w1 := (ws_addMultiple a_Le_image a_Re_products cI cL cZ 40 6400 Le_image_3 Re_products)) hP hD [3, 1] [0, 2] rfl rfl (by decide) (by decide) hk1 hFc (by have h9 := hB.1; rw [ht] at h9; exact h9) hB.2.2
      have hP : va_P D classes (ws_actL a_Re a_Re_products a_Le_images a_Le_image a_Re_codes a_Re_bounds a_Re_pairs a_Re_keys cI cL cZ Re_prime Re_variables Re_size Re_pairCount Re_products Le_images Le_image_3) H_4 := hP.sub [0, 3, 1, 2] rfl
      have hD : va_D A (ws_actL a_Re a_Re_products a_Le_images a_Le_image a_Re_codes a_Re_bounds a_Re_pairs a_Re_keys cI cL cZ Re_prime Re_variables Re_size Re_pairCount Re_products Le_images Le_image_3) := hD.sub [0, 3, 1, 2] (by decide) rfl
      refine lv_iinc (v := (i6 + 1)) (lv' := [(6, .int (i6 + 1)), (7, .int x_1), (0, .ref a_Re), (1, .int i1), (2, .ref a_Le_images), (3, .int i3), (4, .ref a_Le_image), (5, .int i5)]) hx hb d_Re_act_52 hl (k := 7) rfl rfl (by decide) rfl (fun ls hl => ?_)
      refine lv_goto (tgt := 3) hx hb d_Re_act_55 (by decide) ?_
      exact hk3 i1 i3 i5 (i6 + 1) Le_image_3 hrun H_4 locs ls hP hD hS (lv_sub hl [2, 3, 4, 5, 6, 7, 0] rfl)
theorem v_actL_3 (X : gX) (D : va_G) (cI cL cZ : ClassId) (a_Re a_Re_products a_Le_images a_Le_image a_Re_codes a_Re_bounds a_Re_pairs a_Re_keys : Nat) (A : Nat → Prop) (Re_prime Re_variables Re_size Re_pairCount : Int32) (Re_products Le_images Le_image_r : Nat → Int32) (F : Nat) (C0 : gC X c_Re_actb none 8 "RemnantDictionary$Remnant" gAll) (hK : va_K D classes (gT cI cL cZ) (gs X)) (hA : ∀ q : Nat, (gs X).heap.size ≤ q → A q) (hN : gN (gs X))  : ∀ (n : Nat) (i1 i3 i5 i6 : Int32) (Le_image : Nat → Int32), b_actL_3 F Re_prime Re_size Re_products Le_images n i1 i3 i5 i6 Le_image = some Le_image_r → g_actL X D cI cL cZ a_Re a_Re_products a_Le_images a_Le_image a_Re_codes a_Re_bounds a_Re_pairs a_Re_keys A Re_prime Re_variables Re_size Re_pairCount Re_products Le_images Le_image_r 3 [(0, .ref a_Re), (1, .int i1), (2, .ref a_Le_images), (3, .int i3), (4, .ref a_Le_image), (5, .int i5), (6, .int i6)] [] Le_image := by
  intro n
  induction n with
  | zero => intro i1 i3 i5 i6 Le_image hrun; cases hrun
  | succ n ih =>
    intro i1 i3 i5 i6 Le_image hrun
    exact w_actL_3 X D cI cL cZ a_Re a_Re_products a_Le_images a_Le_image a_Re_codes a_Re_bounds a_Re_pairs a_Re_keys A Re_prime Re_variables Re_size Re_pairCount Re_products Le_images Le_image_r F C0 hK hA hN (b_actL_3 F Re_prime Re_size Re_products Le_images n) ih i1 i3 i5 i6 Le_image hrun
set_option maxHeartbeats 4000000 in
set_option maxRecDepth 100000 in
theorem e_actL (X : gX) (D : va_G) (cI cL cZ : ClassId) (a_Re a_Re_products a_Le_images a_Le_image a_Re_codes a_Re_bounds a_Re_pairs a_Re_keys : Nat) (A : Nat → Prop) (Re_prime Re_variables Re_size Re_pairCount : Int32) (Re_products Le_images Le_image_r : Nat → Int32) (F : Nat) (C0 : gC X c_Re_actb none 8 "RemnantDictionary$Remnant" gAll) (hK : va_K D classes (gT cI cL cZ) (gs X)) (hA : ∀ q : Nat, (gs X).heap.size ≤ q → A q) (hN : gN (gs X)) (i1 i3 i5 : Int32) (Le_image : Nat → Int32) (hrun : m_actL F Re_prime Re_size Re_products Le_images i1 i3 i5 Le_image = some Le_image_r) : g_actL X D cI cL cZ a_Re a_Re_products a_Le_images a_Le_image a_Re_codes a_Re_bounds a_Re_pairs a_Re_keys A Re_prime Re_variables Re_size Re_pairCount Re_products Le_images Le_image_r 0 [(0, .ref a_Re), (1, .int i1), (2, .ref a_Le_images), (3, .int i3), (4, .ref a_Le_image), (5, .int i5)] [] Le_image := by
  have C1 := C0
  obtain ⟨hx, hb, hr, hml, hown, hts, hlocks⟩ := C1
  unfold m_actL at hrun
  intro H locs ls hP hD hS hl
  refine lv_iconst (v := 0) hx hb d_Re_act_0 (by decide) ?_
  refine lv_istore (lv' := [(6, .int 0), (0, .ref a_Re), (1, .int i1), (2, .ref a_Le_images), (3, .int i3), (4, .ref a_Le_image), (5, .int i5)]) hx hb d_Re_act_1 hl (by decide) rfl (fun ls hl => ?_)
  exact v_actL_3 X D cI cL cZ a_Re a_Re_products a_Le_images a_Le_image a_Re_codes a_Re_bounds a_Re_pairs a_Re_keys A Re_prime Re_variables Re_size Re_pairCount Re_products Le_images Le_image_r F C0 hK hA hN  F i1 i3 i5 0 Le_image hrun H locs ls hP hD hS (lv_sub hl [1, 2, 3, 4, 5, 6, 0] rfl)
set_option maxHeartbeats 4000000 in
set_option maxRecDepth 100000 in
theorem c_actL (l : Launch) (D : va_G) (cI cL cZ : ClassId) (a_Re a_Re_products a_Le_images a_Le_image a_Re_codes a_Re_bounds a_Re_pairs a_Re_keys : Nat) (F : Nat) (Re_prime Re_variables Re_size Re_pairCount : Int32) (Re_products Le_images Le_image : Nat → Int32) (i1 i3 i5 : Int32) (sz : Nat) (Le_image_r : Nat → Int32) (hrun : m_actL F Re_prime Re_size Re_products Le_images i1 i3 i5 Le_image = some Le_image_r) : Met l y_Re_act (.code y_Re_act c_Re_actb 8 none :: gAll) rm_actL (va_Pc [.ref a_Re, .int i1, .ref a_Le_images, .int i3, .ref a_Le_image, .int i5] (gPW D (gT cI cL cZ) (ws_actL a_Re a_Re_products a_Le_images a_Le_image a_Re_codes a_Re_bounds a_Re_pairs a_Re_keys cI cL cZ Re_prime Re_variables Re_size Re_pairCount Re_products Le_images Le_image) sz)) (va_Qv (fun _ : Unit => True) (gB D (gT cI cL cZ) (va_A (ws_actL a_Re a_Re_products a_Le_images a_Le_image a_Re_codes a_Re_bounds a_Re_pairs a_Re_keys cI cL cZ Re_prime Re_variables Re_size Re_pairCount Re_products Le_images Le_image) sz) (ws_actL a_Re a_Re_products a_Le_images a_Le_image a_Re_codes a_Re_bounds a_Re_pairs a_Re_keys cI cL cZ Re_prime Re_variables Re_size Re_pairCount Re_products Le_images Le_image_r)) (va_A (ws_actL a_Re a_Re_products a_Le_images a_Le_image a_Re_codes a_Re_bounds a_Re_pairs a_Re_keys cI cL cZ Re_prime Re_variables Re_size Re_pairCount Re_products Le_images Le_image) sz)) 0 0 (va_A (ws_actL a_Re a_Re_products a_Le_images a_Le_image a_Re_codes a_Re_bounds a_Re_pairs a_Re_keys cI cL cZ Re_prime Re_variables Re_size Re_pairCount Re_products Le_images Le_image) sz) := by
  refine Met.ofW (cc := c_Re_actb) (maxL := 8) (ret := none) (by decide +kernel) rfl ?_
  intro p e s m args below meth c s₁ B hml hv
  obtain ⟨rfl, hsz, hP, hK, hN, hD0⟩ := hv
  subst hsz
  have hD := hD0.self (sz := s.heap.size)
  have hl := lv_entry ([.ref a_Re, .int i1, .ref a_Le_images, .int i3, .ref a_Le_image, .int i5]) (n := 8) (Nat.le_of_ble_eq_true rfl)
  rw [lg_entry_eq]
  generalize (lg_sl ([.ref a_Re, .int i1, .ref a_Le_images, .int i3, .ref a_Le_image, .int i5]) ++ List.replicate (8 - (lg_sl ([.ref a_Re, .int i1, .ref a_Le_images, .int i3, .ref a_Le_image, .int i5])).length) Slot.unset).toArray = ls at hl ⊢
  exact e_actL (p, l, e, s, m, ([.ref a_Re, .int i1, .ref a_Le_images, .int i3, .ref a_Le_image, .int i5] : List Value).toArray, below, meth, c) D cI cL cZ a_Re a_Re_products a_Le_images a_Le_image a_Re_codes a_Re_bounds a_Re_pairs a_Re_keys (va_A (ws_actL a_Re a_Re_products a_Le_images a_Le_image a_Re_codes a_Re_bounds a_Re_pairs a_Re_keys cI cL cZ Re_prime Re_variables Re_size Re_pairCount Re_products Le_images Le_image) s.heap.size) Re_prime Re_variables Re_size Re_pairCount Re_products Le_images Le_image_r F ⟨B.exec, B.bytes, B.returns, hml, findClass_of_methodNamed B.named, fun w h => atoms_spec (ws := (.code y_Re_act c_Re_actb 8 none :: gAll)) B.pre w (List.mem_cons_of_mem _ h), B.notSynchronized⟩ hK (fun q h => Or.inr h) hN i1 i3 i5 Le_image hrun s.heap [] ls hP hD va_S.rf hl
theorem d_Re_fillFromLesser_0 : decode c_Re_fillFromLesserb 0 = .ok (.iconst 0, 1) := by decide +kernel
theorem d_Re_fillFromLesser_1 : decode c_Re_fillFromLesserb 1 = .ok (.istore 4, 2) := by decide +kernel
theorem d_Re_fillFromLesser_3 : decode c_Re_fillFromLesserb 3 = .ok (.iload 4, 2) := by decide +kernel
theorem d_Re_fillFromLesser_5 : decode c_Re_fillFromLesserb 5 = .ok (.aload_n 0, 1) := by decide +kernel
theorem d_Re_fillFromLesser_6 : decode c_Re_fillFromLesserb 6 = .ok (.getfield 47, 3) := by decide +kernel
theorem d_Re_fillFromLesser_9 : decode c_Re_fillFromLesserb 9 = .ok (.if_icmp .ge 88, 3) := by decide +kernel
theorem d_Re_fillFromLesser_12 : decode c_Re_fillFromLesserb 12 = .ok (.aload_n 0, 1) := by decide +kernel
theorem d_Re_fillFromLesser_13 : decode c_Re_fillFromLesserb 13 = .ok (.getfield 9, 3) := by decide +kernel
theorem d_Re_fillFromLesser_16 : decode c_Re_fillFromLesserb 16 = .ok (.iload_n 2, 1) := by decide +kernel
theorem d_Re_fillFromLesser_17 : decode c_Re_fillFromLesserb 17 = .ok (.iaload, 1) := by decide +kernel
theorem d_Re_fillFromLesser_18 : decode c_Re_fillFromLesserb 18 = .ok (.iload 4, 2) := by decide +kernel
theorem d_Re_fillFromLesser_20 : decode c_Re_fillFromLesserb 20 = .ok (.invokestatic 88, 3) := by decide +kernel
theorem d_Re_fillFromLesser_23 : decode c_Re_fillFromLesserb 23 = .ok (.isub, 1) := by decide +kernel
theorem d_Re_fillFromLesser_24 : decode c_Re_fillFromLesserb 24 = .ok (.istore 5, 2) := by decide +kernel
theorem d_Re_fillFromLesser_26 : decode c_Re_fillFromLesserb 26 = .ok (.aload_n 0, 1) := by decide +kernel
theorem d_Re_fillFromLesser_27 : decode c_Re_fillFromLesserb 27 = .ok (.getfield 9, 3) := by decide +kernel
theorem d_Re_fillFromLesser_30 : decode c_Re_fillFromLesserb 30 = .ok (.iload_n 2, 1) := by decide +kernel
theorem d_Re_fillFromLesser_31 : decode c_Re_fillFromLesserb 31 = .ok (.iaload, 1) := by decide +kernel
theorem d_Re_fillFromLesser_32 : decode c_Re_fillFromLesserb 32 = .ok (.iload 4, 2) := by decide +kernel
theorem d_Re_fillFromLesser_34 : decode c_Re_fillFromLesserb 34 = .ok (.invokestatic 122, 3) := by decide +kernel
theorem d_Re_fillFromLesser_37 : decode c_Re_fillFromLesserb 37 = .ok (.ifCond .le 54, 3) := by decide +kernel
theorem d_Re_fillFromLesser_40 : decode c_Re_fillFromLesserb 40 = .ok (.aload_n 0, 1) := by decide +kernel
theorem d_Re_fillFromLesser_41 : decode c_Re_fillFromLesserb 41 = .ok (.iload 5, 2) := by decide +kernel
theorem d_Re_fillFromLesser_43 : decode c_Re_fillFromLesserb 43 = .ok (.iload_n 1, 1) := by decide +kernel
theorem d_Re_fillFromLesser_44 : decode c_Re_fillFromLesserb 44 = .ok (.invokestatic 88, 3) := by decide +kernel
theorem d_Re_fillFromLesser_47 : decode c_Re_fillFromLesserb 47 = .ok (.iadd, 1) := by decide +kernel
theorem d_Re_fillFromLesser_48 : decode c_Re_fillFromLesserb 48 = .ok (.invokevirtual 105, 3) := by decide +kernel
theorem d_Re_fillFromLesser_51 : decode c_Re_fillFromLesserb 51 = .ok (.iconst (-1), 1) := by decide +kernel
theorem d_Re_fillFromLesser_52 : decode c_Re_fillFromLesserb 52 = .ok (.if_icmp .ne 39, 3) := by decide +kernel
theorem d_Re_fillFromLesser_55 : decode c_Re_fillFromLesserb 55 = .ok (.aload_n 0, 1) := by decide +kernel
theorem d_Re_fillFromLesser_56 : decode c_Re_fillFromLesserb 56 = .ok (.iload 5, 2) := by decide +kernel
theorem d_Re_fillFromLesser_58 : decode c_Re_fillFromLesserb 58 = .ok (.invokevirtual 105, 3) := by decide +kernel
theorem d_Re_fillFromLesser_61 : decode c_Re_fillFromLesserb 61 = .ok (.istore 6, 2) := by decide +kernel
theorem d_Re_fillFromLesser_63 : decode c_Re_fillFromLesserb 63 = .ok (.iload 6, 2) := by decide +kernel
theorem d_Re_fillFromLesser_65 : decode c_Re_fillFromLesserb 65 = .ok (.iconst (-1), 1) := by decide +kernel
theorem d_Re_fillFromLesser_66 : decode c_Re_fillFromLesserb 66 = .ok (.if_icmp .eq 25, 3) := by decide +kernel
theorem d_Re_fillFromLesser_69 : decode c_Re_fillFromLesserb 69 = .ok (.aload_n 0, 1) := by decide +kernel
theorem d_Re_fillFromLesser_70 : decode c_Re_fillFromLesserb 70 = .ok (.iload 4, 2) := by decide +kernel
theorem d_Re_fillFromLesser_72 : decode c_Re_fillFromLesserb 72 = .ok (.aload_n 0, 1) := by decide +kernel
theorem d_Re_fillFromLesser_73 : decode c_Re_fillFromLesserb 73 = .ok (.getfield 15, 3) := by decide +kernel
theorem d_Re_fillFromLesser_76 : decode c_Re_fillFromLesserb 76 = .ok (.iload_n 1, 1) := by decide +kernel
theorem d_Re_fillFromLesser_77 : decode c_Re_fillFromLesserb 77 = .ok (.iload 6, 2) := by decide +kernel
theorem d_Re_fillFromLesser_79 : decode c_Re_fillFromLesserb 79 = .ok (.invokestatic 95, 3) := by decide +kernel
theorem d_Re_fillFromLesser_82 : decode c_Re_fillFromLesserb 82 = .ok (.aload_n 0, 1) := by decide +kernel
theorem d_Re_fillFromLesser_83 : decode c_Re_fillFromLesserb 83 = .ok (.getfield 15, 3) := by decide +kernel
theorem d_Re_fillFromLesser_86 : decode c_Re_fillFromLesserb 86 = .ok (.iload_n 3, 1) := by decide +kernel
theorem d_Re_fillFromLesser_87 : decode c_Re_fillFromLesserb 87 = .ok (.invokevirtual 125, 3) := by decide +kernel
theorem d_Re_fillFromLesser_90 : decode c_Re_fillFromLesserb 90 = .ok (.return_, 1) := by decide +kernel
theorem d_Re_fillFromLesser_91 : decode c_Re_fillFromLesserb 91 = .ok (.iinc 4 1, 3) := by decide +kernel
theorem d_Re_fillFromLesser_94 : decode c_Re_fillFromLesserb 94 = .ok (.goto (-91), 3) := by decide +kernel
theorem d_Re_fillFromLesser_97 : decode c_Re_fillFromLesserb 97 = .ok (.return_, 1) := by decide +kernel
abbrev ws_fillFromLesser (a_Re a_Re_codes a_Re_products a_Re_bounds a_Re_pairs a_Re_keys : Nat) (cI cL cZ : ClassId) (Re_prime Re_variables Re_size Re_pairCount : Int32) (Re_codes Re_products : Nat → Int32) : va_W := [(a_Re, .inr (3, [.int Re_prime, .int Re_variables, .int Re_size, .ref a_Re_codes, .ref a_Re_products, .ref a_Re_bounds, .ref a_Re_pairs, .ref a_Re_keys, .int Re_pairCount])), (a_Re_codes, .inl (cI, 40, .inl Re_codes)), (a_Re_products, .inl (cI, 6400, .inl Re_products))]
abbrev rm_fillFromLesser : Room := { frames := 2, cells := 0, slots := 0, locals := 55 }
abbrev g_fillFromLesser (X : gX) (D : va_G) (cI cL cZ : ClassId) (a_Re a_Re_codes a_Re_products a_Re_bounds a_Re_pairs a_Re_keys : Nat) (A : Nat → Prop) (Re_prime Re_variables Re_size Re_pairCount : Int32) (Re_codes Re_products_r : Nat → Int32) (pc : Nat) (lv : List (Nat × Value)) (st : List Value) (Re_products : Nat → Int32) : Prop := ∀ (H : Heap) (locs : List Loc) (ls : Array Slot), va_P D classes (ws_fillFromLesser a_Re a_Re_codes a_Re_products a_Re_bounds a_Re_pairs a_Re_keys cI cL cZ Re_prime Re_variables Re_size Re_pairCount Re_codes Re_products) H → va_D A (ws_fillFromLesser a_Re a_Re_codes a_Re_products a_Re_bounds a_Re_pairs a_Re_keys cI cL cZ Re_prime Re_variables Re_size Re_pairCount Re_codes Re_products) → va_S A (gs X).heap H locs → lv_has ls 7 lv → gWW X rm_fillFromLesser H locs 0 0 (MQ (gbl X) (va_Qv (fun _ : Unit => True) (gB D (gT cI cL cZ) A (ws_fillFromLesser a_Re a_Re_codes a_Re_products a_Re_bounds a_Re_pairs a_Re_keys cI cL cZ Re_prime Re_variables Re_size Re_pairCount Re_codes Re_products_r)) A) (ga X) (gs X) 0 0 A) (F0 (gm X) pc ls st)
set_option maxHeartbeats 4000000 in
set_option maxRecDepth 100000 in
theorem w_fillFromLesser_3 (X : gX) (D : va_G) (cI cL cZ : ClassId) (a_Re a_Re_codes a_Re_products a_Re_bounds a_Re_pairs a_Re_keys : Nat) (A : Nat → Prop) (Re_prime Re_variables Re_size Re_pairCount : Int32) (Re_codes Re_products_r : Nat → Int32) (F : Nat) (C0 : gC X c_Re_fillFromLesserb none 7 "RemnantDictionary$Remnant" gAll) (hK : va_K D classes (gT cI cL cZ) (gs X)) (hA : ∀ q : Nat, (gs X).heap.size ≤ q → A q) (hN : gN (gs X)) (k3 : Int32 → Int32 → Int32 → Int32 → (Nat → Int32) → Option ((Nat → Int32))) (hk3 : ∀ (i1 i2 i3 i4 : Int32) (Re_products : Nat → Int32), k3 i1 i2 i3 i4 Re_products = some Re_products_r → g_fillFromLesser X D cI cL cZ a_Re a_Re_codes a_Re_products a_Re_bounds a_Re_pairs a_Re_keys A Re_prime Re_variables Re_size Re_pairCount Re_codes Re_products_r 3 [(0, .ref a_Re), (1, .int i1), (2, .int i2), (3, .int i3), (4, .int i4)] [] Re_products) (i1 i2 i3 i4 : Int32) (Re_products : Nat → Int32) (hrun : s_fillFromLesser_3 F Re_prime Re_size Re_variables Re_codes k3 i1 i2 i3 i4 Re_products = some Re_products_r) : g_fillFromLesser X D cI cL cZ a_Re a_Re_codes a_Re_products a_Re_bounds a_Re_pairs a_Re_keys A Re_prime Re_variables Re_size Re_pairCount Re_codes Re_products_r 3 [(0, .ref a_Re), (1, .int i1), (2, .int i2), (3, .int i3), (4, .int i4)] [] Re_products := by
  have C1 := C0
  obtain ⟨hx, hb, hr, hml, hown, hts, hlocks⟩ := C1
  unfold s_fillFromLesser_3 at hrun
  intro H locs ls hP hD hS hl
  refine lv_iload hx hb d_Re_fillFromLesser_3 (lv_at hl 4 rfl) ?_
  refine lv_aload_n hx hb d_Re_fillFromLesser_5 rfl (lv_at hl 0 rfl) ?_
  refine va_get (D := D) (ci := 3) (v := .int Re_variables) (C := "RemnantDictionary$Remnant") (T := T_Re) (N := 9) hx hb hts iw_Re hown hK hP 0 rfl rfl 1 (by decide) (hts _ k_146) (fun _ h9 => h9) rfl d_Re_fillFromLesser_6 ?_
  refine g_icmp_ge (tgt := 97) hx hb d_Re_fillFromLesser_9 (by decide) hrun (fun _ hrun => ?_) (fun _ hrun => ?_)
  · cases hrun
    exact W.vret hx hb hr (fun t ht hW => ⟨⟨(), rfl, trivial, gB_of ht hW.alike hP hK hD⟩, hS.F ht⟩) hS.2.2 d_Re_fillFromLesser_97
  · refine lv_aload_n hx hb d_Re_fillFromLesser_12 rfl (lv_at hl 0 rfl) ?_
    refine va_get (D := D) (ci := 3) (v := .ref a_Re_codes) (C := "RemnantDictionary$Remnant") (T := T_Re) (N := 9) hx hb hts iw_Re hown hK hP 0 rfl rfl 3 (by decide) (hts _ k_150) (fun _ h9 => h9) rfl d_Re_fillFromLesser_13 ?_
    refine lv_iload_n hx hb d_Re_fillFromLesser_16 rfl (lv_at hl 2 rfl) ?_
    refine g_iald hx hb hK hP 1 0 rfl rfl hrun d_Re_fillFromLesser_17 (fun x_1 hrun => ?_)
    refine lv_iload hx hb d_Re_fillFromLesser_18 (lv_at hl 4 rfl) ?_
    obtain ⟨r_2, hc, hrun⟩ := bd1_s hrun
    refine vp_callSi (g_ofRun (va_runSN (As := [.int i4]) (rest := [.int x_1]) ⟨hx, hb, hml, hown, hts⟩ (c_variable (gl X) F i4 r_2 hc) (⟨va_cnB 1 hts (gwN k_11) rfl rfl rfl (hN.1 _ (List.mem_of_getElem? (i := 10) rfl)) (hts _ k_14) (by decide +kernel) ⟨Nat.le_of_ble_eq_true rfl, Nat.le_of_ble_eq_true rfl⟩, hts _ k_55, trivial⟩) (gpreS0 hN) rfl rfl hl.1 rfl (lv_room (Nat.le_of_ble_eq_true rfl)) d_Re_fillFromLesser_20 ⟨Nat.le_of_ble_eq_true rfl, Nat.le_of_ble_eq_true rfl⟩)) (nm_e ?_)
    refine lv_isub hx hb d_Re_fillFromLesser_23 ?_
    refine lv_istore (lv' := [(5, .int (x_1 - r_2)), (0, .ref a_Re), (1, .int i1), (2, .int i2), (3, .int i3), (4, .int i4)]) hx hb d_Re_fillFromLesser_24 hl (by decide) rfl (fun ls hl => ?_)
    refine lv_aload_n hx hb d_Re_fillFromLesser_26 rfl (lv_at hl 1 rfl) ?_
    refine va_get (D := D) (ci := 3) (v := .ref a_Re_codes) (C := "RemnantDictionary$Remnant") (T := T_Re) (N := 9) hx hb hts iw_Re hown hK hP 0 rfl rfl 3 (by decide) (hts _ k_150) (fun _ h9 => h9) rfl d_Re_fillFromLesser_27 ?_
    refine lv_iload_n hx hb d_Re_fillFromLesser_30 rfl (lv_at hl 3 rfl) ?_
    refine g_iald hx hb hK hP 1 0 rfl rfl hrun d_Re_fillFromLesser_31 (fun x_3 hrun => ?_)
    refine lv_iload hx hb d_Re_fillFromLesser_32 (lv_at hl 5 rfl) ?_
    obtain ⟨r_4, hc, hrun⟩ := bd1_s hrun
    refine vp_callSi (g_ofRun (va_runSN (As := [.int x_3, .int i4]) (rest := []) ⟨hx, hb, hml, hown, hts⟩ (c_exponent (gl X) F x_3 i4 r_4 hc) (⟨va_cnB 2 hts (gwN k_12) rfl rfl rfl (hN.1 _ (List.mem_of_getElem? (i := 13) rfl)) (hts _ k_14) (by decide +kernel) ⟨Nat.le_of_ble_eq_true rfl, Nat.le_of_ble_eq_true rfl⟩, hts _ k_13, trivial⟩) (gpreS0 hN) rfl rfl hl.1 rfl (lv_room (Nat.le_of_ble_eq_true rfl)) d_Re_fillFromLesser_34 ⟨Nat.le_of_ble_eq_true rfl, Nat.le_of_ble_eq_true rfl⟩)) (nm_e ?_)
    refine g_if_le (tgt := 91) hx hb d_Re_fillFromLesser_37 (by decide) hrun (fun _ hrun => ?_) (fun _ hrun => ?_)
    · refine lv_iinc (v := (i4 + 1)) (lv' := [(4, .int (i4 + 1)), (5, .int (x_1 - r_2)), (0, .ref a_Re), (1, .int i1), (2, .int i2), (3, .int i3)]) hx hb d_Re_fillFromLesser_91 hl (k := 5) rfl rfl (by decide) rfl (fun ls hl => ?_)
      refine lv_goto (tgt := 3) hx hb d_Re_fillFromLesser_94 (by decide) ?_
      exact hk3 i1 i2 i3 (i4 + 1) Re_products hrun H locs ls hP hD hS (lv_sub hl [2, 3, 4, 5, 0] rfl)
    · refine lv_aload_n hx hb d_Re_fillFromLesser_40 rfl (lv_at hl 1 rfl) ?_
      refine lv_iload hx hb d_Re_fillFromLesser_41 (lv_at hl 0 rfl) ?_
      refine lv_iload_n hx hb d_Re_fillFromLesser_43 rfl (lv_at hl 2 rfl) ?_
      obtain ⟨r_5, hc, hrun⟩ := bd1_s hrun
      refine vp_callSi (g_ofRun (va_runSN (As := [.int i1]) (rest := [.int (x_1 - r_2), .ref a_Re]) ⟨hx, hb, hml, hown, hts⟩ (c_variable (gl X) F i1 r_5 hc) (⟨va_cnB 1 hts (gwN k_11) rfl rfl rfl (hN.1 _ (List.mem_of_getElem? (i := 10) rfl)) (hts _ k_14) (by decide +kernel) ⟨Nat.le_of_ble_eq_true rfl, Nat.le_of_ble_eq_true rfl⟩, hts _ k_55, trivial⟩) (gpreS0 hN) rfl rfl hl.1 rfl (lv_room (Nat.le_of_ble_eq_true rfl)) d_Re_fillFromLesser_44 ⟨Nat.le_of_ble_eq_true rfl, Nat.le_of_ble_eq_true rfl⟩)) (nm_e ?_)
      refine lv_iadd hx hb d_Re_fillFromLesser_47 ?_
      obtain ⟨r_6, hc, hrun⟩ := bd1_s hrun
      refine vp_callSi (W.runV (As := [.int ((x_1 - r_2) + r_5)]) (rest := []) ⟨hx, hb, hml, hown, hts⟩ (c_placeOf (gl X) D cI cL cZ a_Re a_Re_codes a_Re_products a_Re_bounds a_Re_pairs a_Re_keys F Re_prime Re_variables Re_size Re_pairCount Re_codes ((x_1 - r_2) + r_5) r_6 hc) (cwV 1 hts (gwV k_188 k_186 k_187 k_157 k_181) rfl rfl rfl (by decide +kernel) ⟨Nat.le_of_ble_eq_true rfl, Nat.le_of_ble_eq_true rfl⟩) (gpreV (hP.sub (ws' := (ws_placeOf a_Re a_Re_codes a_Re_products a_Re_bounds a_Re_pairs a_Re_keys cI cL cZ Re_prime Re_variables Re_size Re_pairCount Re_codes)) [0, 1] rfl) hK hN 3 0 rfl rfl) rfl rfl hl.1 rfl (lv_room (Nat.le_of_ble_eq_true rfl)) d_Re_fillFromLesser_48 ⟨Nat.le_of_ble_eq_true rfl, Nat.le_of_ble_eq_true rfl⟩) (nm_e ?_)
      refine lv_iconst (v := (-1)) hx hb d_Re_fillFromLesser_51 (by decide) ?_
      refine g_icmp_ne (tgt := 91) hx hb d_Re_fillFromLesser_52 (by decide) hrun (fun _ hrun => ?_) (fun _ hrun => ?_)
      · refine lv_iinc (v := (i4 + 1)) (lv' := [(4, .int (i4 + 1)), (5, .int (x_1 - r_2)), (0, .ref a_Re), (1, .int i1), (2, .int i2), (3, .int i3)]) hx hb d_Re_fillFromLesser_91 hl (k := 5) rfl rfl (by decide) rfl (fun ls hl => ?_)
        refine lv_goto (tgt := 3) hx hb d_Re_fillFromLesser_94 (by decide) ?_
        exact hk3 i1 i2 i3 (i4 + 1) Re_products hrun H locs ls hP hD hS (lv_sub hl [2, 3, 4, 5, 0] rfl)
      · refine lv_aload_n hx hb d_Re_fillFromLesser_55 rfl (lv_at hl 1 rfl) ?_
        refine lv_iload hx hb d_Re_fillFromLesser_56 (lv_at hl 0 rfl) ?_
        obtain ⟨r_7, hc, hrun⟩ := bd1_s hrun
        refine vp_callSi (W.runV (As := [.int (x_1 - r_2)]) (rest := []) ⟨hx, hb, hml, hown, hts⟩ (c_placeOf (gl X) D cI cL cZ a_Re a_Re_codes a_Re_products a_Re_bounds a_Re_pairs a_Re_keys F Re_prime Re_variables Re_size Re_pairCount Re_codes (x_1 - r_2) r_7 hc) (cwV 1 hts (gwV k_188 k_186 k_187 k_157 k_181) rfl rfl rfl (by decide +kernel) ⟨Nat.le_of_ble_eq_true rfl, Nat.le_of_ble_eq_true rfl⟩) (gpreV (hP.sub (ws' := (ws_placeOf a_Re a_Re_codes a_Re_products a_Re_bounds a_Re_pairs a_Re_keys cI cL cZ Re_prime Re_variables Re_size Re_pairCount Re_codes)) [0, 1] rfl) hK hN 3 0 rfl rfl) rfl rfl hl.1 rfl (lv_room (Nat.le_of_ble_eq_true rfl)) d_Re_fillFromLesser_58 ⟨Nat.le_of_ble_eq_true rfl, Nat.le_of_ble_eq_true rfl⟩) (nm_e ?_)
        refine lv_istore (lv' := [(6, .int r_7), (5, .int (x_1 - r_2)), (0, .ref a_Re), (1, .int i1), (2, .int i2), (3, .int i3), (4, .int i4)]) hx hb d_Re_fillFromLesser_61 hl (by decide) rfl (fun ls hl => ?_)
        refine lv_iload hx hb d_Re_fillFromLesser_63 (lv_at hl 0 rfl) ?_
        refine lv_iconst (v := (-1)) hx hb d_Re_fillFromLesser_65 (by decide) ?_
        refine g_icmp_eq (tgt := 91) hx hb d_Re_fillFromLesser_66 (by decide) hrun (fun _ hrun => ?_) (fun _ hrun => ?_)
        · refine lv_iinc (v := (i4 + 1)) (lv' := [(4, .int (i4 + 1)), (6, .int r_7), (5, .int (x_1 - r_2)), (0, .ref a_Re), (1, .int i1), (2, .int i2), (3, .int i3)]) hx hb d_Re_fillFromLesser_91 hl (k := 6) rfl rfl (by decide) rfl (fun ls hl => ?_)
          refine lv_goto (tgt := 3) hx hb d_Re_fillFromLesser_94 (by decide) ?_
          exact hk3 i1 i2 i3 (i4 + 1) Re_products hrun H locs ls hP hD hS (lv_sub hl [3, 4, 5, 6, 0] rfl)
        · refine lv_aload_n hx hb d_Re_fillFromLesser_69 rfl (lv_at hl 2 rfl) ?_
          refine lv_iload hx hb d_Re_fillFromLesser_70 (lv_at hl 6 rfl) ?_
          refine lv_aload_n hx hb d_Re_fillFromLesser_72 rfl (lv_at hl 2 rfl) ?_
          refine va_get (D := D) (ci := 3) (v := .ref a_Re_products) (C := "RemnantDictionary$Remnant") (T := T_Re) (N := 9) hx hb hts iw_Re hown hK hP 0 rfl rfl 4 (by decide) (hts _ k_182) (fun _ h9 => h9) rfl d_Re_fillFromLesser_73 ?_
          refine lv_iload_n hx hb d_Re_fillFromLesser_76 rfl (lv_at hl 3 rfl) ?_
          refine lv_iload hx hb d_Re_fillFromLesser_77 (lv_at hl 0 rfl) ?_
          obtain ⟨r_8, hc, hrun⟩ := bd1_s hrun
          refine vp_callSi (g_ofRun (va_runSN (As := [.int i1, .int r_7]) (rest := [.ref a_Re_products, .int i4, .ref a_Re]) ⟨hx, hb, hml, hown, hts⟩ (c_productRow (gl X) F i1 r_7 r_8 hc) (⟨va_cnB 2 hts (gwN k_27) rfl rfl rfl (hN.1 _ (List.mem_of_getElem? (i := 11) rfl)) (hts _ k_14) (by decide +kernel) ⟨Nat.le_of_ble_eq_true rfl, Nat.le_of_ble_eq_true rfl⟩, hts _ k_189, trivial⟩) (gpreS0 hN) rfl rfl hl.1 rfl (lv_room (Nat.le_of_ble_eq_true rfl)) d_Re_fillFromLesser_79 ⟨Nat.le_of_ble_eq_true rfl, Nat.le_of_ble_eq_true rfl⟩)) (nm_e ?_)
          refine lv_aload_n hx hb d_Re_fillFromLesser_82 rfl (lv_at hl 2 rfl) ?_
          refine va_get (D := D) (ci := 3) (v := .ref a_Re_products) (C := "RemnantDictionary$Remnant") (T := T_Re) (N := 9) hx hb hts iw_Re hown hK hP 0 rfl rfl 4 (by decide) (hts _ k_182) (fun _ h9 => h9) rfl d_Re_fillFromLesser_83 ?_
          refine lv_iload_n hx hb d_Re_fillFromLesser_86 rfl (lv_at hl 5 rfl) ?_
          obtain ⟨Re_products_9, hc, hrun⟩ := bd1_s hrun
          have hFc := va_free (wc := (ws_act a_Re a_Re_products a_Re_codes a_Re_bounds a_Re_pairs a_Re_keys cI cL cZ Re_prime Re_variables Re_size Re_pairCount Re_products)) hD hS hA [0, 2] rfl
          refine va_callv (va_runV (As := [.int i4, .ref a_Re_products, .int r_8, .ref a_Re_products, .int i3]) (rest := []) ⟨hx, hb, hml, hown, hts⟩ (c_act (gl X) D cI cL cZ a_Re a_Re_products a_Re_codes a_Re_bounds a_Re_pairs a_Re_keys F Re_prime Re_variables Re_size Re_pairCount Re_products i4 r_8 i3 H.size Re_products_9 hc) (cwV 5 hts (gwV k_193 k_191 k_192 k_157 k_190) rfl rfl rfl (by decide +kernel) ⟨Nat.le_of_ble_eq_true rfl, Nat.le_of_ble_eq_true rfl⟩) (gpreVW (hP.sub (ws' := (ws_act a_Re a_Re_products a_Re_codes a_Re_bounds a_Re_pairs a_Re_keys cI cL cZ Re_prime Re_variables Re_size Re_pairCount Re_products)) [0, 2] rfl) hK hN (hD.sub (ws' := (ws_act a_Re a_Re_products a_Re_codes a_Re_bounds a_Re_pairs a_Re_keys cI cL cZ Re_prime Re_variables Re_size Re_pairCount Re_products)) [0, 2] (by decide) rfl) 3 0 rfl rfl) rfl rfl hl.1 rfl (lv_room (Nat.le_of_ble_eq_true rfl)) d_Re_fillFromLesser_87 ⟨Nat.le_of_ble_eq_true rfl, Nat.le_of_ble_eq_true rfl⟩) hS (fun q _ h => hFc q h) hFc (fun _ t H_10 locs ht hvm hw hB hz1 hk1 hS => ?_)
          obtain ⟨hP, hD⟩ := va_join (wr := [(a_Re_codes, .inl (cI, 40, .inl Re_codes))]) (w1 := (ws_act a_Re a_Re_products a_Re_codes a_Re_bounds a_Re_pairs a_Re_keys cI cL cZ Re_prime Re_variables Re_size Re_pairCount Re_products_9)) hP hD [0, 2] [1] rfl rfl (by decide) (by decide) hk1 hFc (by have h9 := hB.1; rw [ht] at h9; exact h9) hB.2.2
          have hP : va_P D classes (ws_fillFromLesser a_Re a_Re_codes a_Re_products a_Re_bounds a_Re_pairs a_Re_keys cI cL cZ Re_prime Re_variables Re_size Re_pairCount Re_codes Re_products_9) H_10 := hP.sub [1, 0, 2] rfl
          have hD : va_D A (ws_fillFromLesser a_Re a_Re_codes a_Re_products a_Re_bounds a_Re_pairs a_Re_keys cI cL cZ Re_prime Re_variables Re_size Re_pairCount Re_codes Re_products_9) := hD.sub [1, 0, 2] (by decide) rfl
          cases hrun
          exact W.vret hx hb hr (fun t ht hW => ⟨⟨(), rfl, trivial, gB_of ht hW.alike hP hK hD⟩, hS.F ht⟩) hS.2.2 d_Re_fillFromLesser_90
theorem v_fillFromLesser_3 (X : gX) (D : va_G) (cI cL cZ : ClassId) (a_Re a_Re_codes a_Re_products a_Re_bounds a_Re_pairs a_Re_keys : Nat) (A : Nat → Prop) (Re_prime Re_variables Re_size Re_pairCount : Int32) (Re_codes Re_products_r : Nat → Int32) (F : Nat) (C0 : gC X c_Re_fillFromLesserb none 7 "RemnantDictionary$Remnant" gAll) (hK : va_K D classes (gT cI cL cZ) (gs X)) (hA : ∀ q : Nat, (gs X).heap.size ≤ q → A q) (hN : gN (gs X))  : ∀ (n : Nat) (i1 i2 i3 i4 : Int32) (Re_products : Nat → Int32), b_fillFromLesser_3 F Re_prime Re_size Re_variables Re_codes n i1 i2 i3 i4 Re_products = some Re_products_r → g_fillFromLesser X D cI cL cZ a_Re a_Re_codes a_Re_products a_Re_bounds a_Re_pairs a_Re_keys A Re_prime Re_variables Re_size Re_pairCount Re_codes Re_products_r 3 [(0, .ref a_Re), (1, .int i1), (2, .int i2), (3, .int i3), (4, .int i4)] [] Re_products := by
  intro n
  induction n with
  | zero => intro i1 i2 i3 i4 Re_products hrun; cases hrun
  | succ n ih =>
    intro i1 i2 i3 i4 Re_products hrun
    exact w_fillFromLesser_3 X D cI cL cZ a_Re a_Re_codes a_Re_products a_Re_bounds a_Re_pairs a_Re_keys A Re_prime Re_variables Re_size Re_pairCount Re_codes Re_products_r F C0 hK hA hN (b_fillFromLesser_3 F Re_prime Re_size Re_variables Re_codes n) ih i1 i2 i3 i4 Re_products hrun
set_option maxHeartbeats 4000000 in
set_option maxRecDepth 100000 in
theorem e_fillFromLesser (X : gX) (D : va_G) (cI cL cZ : ClassId) (a_Re a_Re_codes a_Re_products a_Re_bounds a_Re_pairs a_Re_keys : Nat) (A : Nat → Prop) (Re_prime Re_variables Re_size Re_pairCount : Int32) (Re_codes Re_products_r : Nat → Int32) (F : Nat) (C0 : gC X c_Re_fillFromLesserb none 7 "RemnantDictionary$Remnant" gAll) (hK : va_K D classes (gT cI cL cZ) (gs X)) (hA : ∀ q : Nat, (gs X).heap.size ≤ q → A q) (hN : gN (gs X)) (i1 i2 i3 : Int32) (Re_products : Nat → Int32) (hrun : m_fillFromLesser F Re_prime Re_size Re_variables Re_codes i1 i2 i3 Re_products = some Re_products_r) : g_fillFromLesser X D cI cL cZ a_Re a_Re_codes a_Re_products a_Re_bounds a_Re_pairs a_Re_keys A Re_prime Re_variables Re_size Re_pairCount Re_codes Re_products_r 0 [(0, .ref a_Re), (1, .int i1), (2, .int i2), (3, .int i3)] [] Re_products := by
  have C1 := C0
  obtain ⟨hx, hb, hr, hml, hown, hts, hlocks⟩ := C1
  unfold m_fillFromLesser at hrun
  intro H locs ls hP hD hS hl
  refine lv_iconst (v := 0) hx hb d_Re_fillFromLesser_0 (by decide) ?_
  refine lv_istore (lv' := [(4, .int 0), (0, .ref a_Re), (1, .int i1), (2, .int i2), (3, .int i3)]) hx hb d_Re_fillFromLesser_1 hl (by decide) rfl (fun ls hl => ?_)
  exact v_fillFromLesser_3 X D cI cL cZ a_Re a_Re_codes a_Re_products a_Re_bounds a_Re_pairs a_Re_keys A Re_prime Re_variables Re_size Re_pairCount Re_codes Re_products_r F C0 hK hA hN  F i1 i2 i3 0 Re_products hrun H locs ls hP hD hS (lv_sub hl [1, 2, 3, 4, 0] rfl)
set_option maxHeartbeats 4000000 in
set_option maxRecDepth 100000 in
theorem c_fillFromLesser (l : Launch) (D : va_G) (cI cL cZ : ClassId) (a_Re a_Re_codes a_Re_products a_Re_bounds a_Re_pairs a_Re_keys : Nat) (F : Nat) (Re_prime Re_variables Re_size Re_pairCount : Int32) (Re_codes Re_products : Nat → Int32) (i1 i2 i3 : Int32) (sz : Nat) (Re_products_r : Nat → Int32) (hrun : m_fillFromLesser F Re_prime Re_size Re_variables Re_codes i1 i2 i3 Re_products = some Re_products_r) : Met l y_Re_fillFromLesser (.code y_Re_fillFromLesser c_Re_fillFromLesserb 7 none :: gAll) rm_fillFromLesser (va_Pc [.ref a_Re, .int i1, .int i2, .int i3] (gPW D (gT cI cL cZ) (ws_fillFromLesser a_Re a_Re_codes a_Re_products a_Re_bounds a_Re_pairs a_Re_keys cI cL cZ Re_prime Re_variables Re_size Re_pairCount Re_codes Re_products) sz)) (va_Qv (fun _ : Unit => True) (gB D (gT cI cL cZ) (va_A (ws_fillFromLesser a_Re a_Re_codes a_Re_products a_Re_bounds a_Re_pairs a_Re_keys cI cL cZ Re_prime Re_variables Re_size Re_pairCount Re_codes Re_products) sz) (ws_fillFromLesser a_Re a_Re_codes a_Re_products a_Re_bounds a_Re_pairs a_Re_keys cI cL cZ Re_prime Re_variables Re_size Re_pairCount Re_codes Re_products_r)) (va_A (ws_fillFromLesser a_Re a_Re_codes a_Re_products a_Re_bounds a_Re_pairs a_Re_keys cI cL cZ Re_prime Re_variables Re_size Re_pairCount Re_codes Re_products) sz)) 0 0 (va_A (ws_fillFromLesser a_Re a_Re_codes a_Re_products a_Re_bounds a_Re_pairs a_Re_keys cI cL cZ Re_prime Re_variables Re_size Re_pairCount Re_codes Re_products) sz) := by
  refine Met.ofW (cc := c_Re_fillFromLesserb) (maxL := 7) (ret := none) (by decide +kernel) rfl ?_
  intro p e s m args below meth c s₁ B hml hv
  obtain ⟨rfl, hsz, hP, hK, hN, hD0⟩ := hv
  subst hsz
  have hD := hD0.self (sz := s.heap.size)
  have hl := lv_entry ([.ref a_Re, .int i1, .int i2, .int i3]) (n := 7) (Nat.le_of_ble_eq_true rfl)
  rw [lg_entry_eq]
  generalize (lg_sl ([.ref a_Re, .int i1, .int i2, .int i3]) ++ List.replicate (7 - (lg_sl ([.ref a_Re, .int i1, .int i2, .int i3])).length) Slot.unset).toArray = ls at hl ⊢
  exact e_fillFromLesser (p, l, e, s, m, ([.ref a_Re, .int i1, .int i2, .int i3] : List Value).toArray, below, meth, c) D cI cL cZ a_Re a_Re_codes a_Re_products a_Re_bounds a_Re_pairs a_Re_keys (va_A (ws_fillFromLesser a_Re a_Re_codes a_Re_products a_Re_bounds a_Re_pairs a_Re_keys cI cL cZ Re_prime Re_variables Re_size Re_pairCount Re_codes Re_products) s.heap.size) Re_prime Re_variables Re_size Re_pairCount Re_codes Re_products_r F ⟨B.exec, B.bytes, B.returns, hml, findClass_of_methodNamed B.named, fun w h => atoms_spec (ws := (.code y_Re_fillFromLesser c_Re_fillFromLesserb 7 none :: gAll)) B.pre w (List.mem_cons_of_mem _ h), B.notSynchronized⟩ hK (fun q h => Or.inr h) hN i1 i2 i3 Re_products hrun s.heap [] ls hP hD va_S.rf hl
theorem d_Re_fillProduct_0 : decode c_Re_fillProductb 0 = .ok (.iload_n 2, 1) := by decide +kernel
theorem d_Re_fillProduct_1 : decode c_Re_fillProductb 1 = .ok (.iload_n 3, 1) := by decide +kernel
theorem d_Re_fillProduct_2 : decode c_Re_fillProductb 2 = .ok (.invokestatic 95, 3) := by decide +kernel
theorem d_Re_fillProduct_5 : decode c_Re_fillProductb 5 = .ok (.istore 4, 2) := by decide +kernel
theorem d_Re_fillProduct_7 : decode c_Re_fillProductb 7 = .ok (.aload_n 0, 1) := by decide +kernel
theorem d_Re_fillProduct_8 : decode c_Re_fillProductb 8 = .ok (.getfield 15, 3) := by decide +kernel
theorem d_Re_fillProduct_11 : decode c_Re_fillProductb 11 = .ok (.iload 4, 2) := by decide +kernel
theorem d_Re_fillProduct_13 : decode c_Re_fillProductb 13 = .ok (.iload 4, 2) := by decide +kernel
theorem d_Re_fillProduct_15 : decode c_Re_fillProductb 15 = .ok (.bipush 40, 2) := by decide +kernel
theorem d_Re_fillProduct_17 : decode c_Re_fillProductb 17 = .ok (.iadd, 1) := by decide +kernel
theorem d_Re_fillProduct_18 : decode c_Re_fillProductb 18 = .ok (.iconst 0, 1) := by decide +kernel
theorem d_Re_fillProduct_19 : decode c_Re_fillProductb 19 = .ok (.invokestatic 99, 3) := by decide +kernel
theorem d_Re_fillProduct_22 : decode c_Re_fillProductb 22 = .ok (.aload_n 0, 1) := by decide +kernel
theorem d_Re_fillProduct_23 : decode c_Re_fillProductb 23 = .ok (.getfield 9, 3) := by decide +kernel
theorem d_Re_fillProduct_26 : decode c_Re_fillProductb 26 = .ok (.iload_n 3, 1) := by decide +kernel
theorem d_Re_fillProduct_27 : decode c_Re_fillProductb 27 = .ok (.iaload, 1) := by decide +kernel
theorem d_Re_fillProduct_28 : decode c_Re_fillProductb 28 = .ok (.iload_n 2, 1) := by decide +kernel
theorem d_Re_fillProduct_29 : decode c_Re_fillProductb 29 = .ok (.invokestatic 88, 3) := by decide +kernel
theorem d_Re_fillProduct_32 : decode c_Re_fillProductb 32 = .ok (.iadd, 1) := by decide +kernel
theorem d_Re_fillProduct_33 : decode c_Re_fillProductb 33 = .ok (.istore 5, 2) := by decide +kernel
theorem d_Re_fillProduct_35 : decode c_Re_fillProductb 35 = .ok (.aload_n 0, 1) := by decide +kernel
theorem d_Re_fillProduct_36 : decode c_Re_fillProductb 36 = .ok (.iload 5, 2) := by decide +kernel
theorem d_Re_fillProduct_38 : decode c_Re_fillProductb 38 = .ok (.invokevirtual 105, 3) := by decide +kernel
theorem d_Re_fillProduct_41 : decode c_Re_fillProductb 41 = .ok (.istore 6, 2) := by decide +kernel
theorem d_Re_fillProduct_43 : decode c_Re_fillProductb 43 = .ok (.iload 6, 2) := by decide +kernel
theorem d_Re_fillProduct_45 : decode c_Re_fillProductb 45 = .ok (.iconst (-1), 1) := by decide +kernel
theorem d_Re_fillProduct_46 : decode c_Re_fillProductb 46 = .ok (.if_icmp .eq 15, 3) := by decide +kernel
theorem d_Re_fillProduct_49 : decode c_Re_fillProductb 49 = .ok (.aload_n 0, 1) := by decide +kernel
theorem d_Re_fillProduct_50 : decode c_Re_fillProductb 50 = .ok (.getfield 15, 3) := by decide +kernel
theorem d_Re_fillProduct_53 : decode c_Re_fillProductb 53 = .ok (.iload 4, 2) := by decide +kernel
theorem d_Re_fillProduct_55 : decode c_Re_fillProductb 55 = .ok (.iload 6, 2) := by decide +kernel
theorem d_Re_fillProduct_57 : decode c_Re_fillProductb 57 = .ok (.iadd, 1) := by decide +kernel
theorem d_Re_fillProduct_58 : decode c_Re_fillProductb 58 = .ok (.iconst 1, 1) := by decide +kernel
theorem d_Re_fillProduct_59 : decode c_Re_fillProductb 59 = .ok (.iastore, 1) := by decide +kernel
theorem d_Re_fillProduct_60 : decode c_Re_fillProductb 60 = .ok (.return_, 1) := by decide +kernel
theorem d_Re_fillProduct_61 : decode c_Re_fillProductb 61 = .ok (.aload_n 1, 1) := by decide +kernel
theorem d_Re_fillProduct_62 : decode c_Re_fillProductb 62 = .ok (.iload 5, 2) := by decide +kernel
theorem d_Re_fillProduct_64 : decode c_Re_fillProductb 64 = .ok (.invokevirtual 108, 3) := by decide +kernel
theorem d_Re_fillProduct_67 : decode c_Re_fillProductb 67 = .ok (.istore 7, 2) := by decide +kernel
theorem d_Re_fillProduct_69 : decode c_Re_fillProductb 69 = .ok (.iload 7, 2) := by decide +kernel
theorem d_Re_fillProduct_71 : decode c_Re_fillProductb 71 = .ok (.iconst (-1), 1) := by decide +kernel
theorem d_Re_fillProduct_72 : decode c_Re_fillProductb 72 = .ok (.if_icmp .eq 15, 3) := by decide +kernel
theorem d_Re_fillProduct_75 : decode c_Re_fillProductb 75 = .ok (.aload_n 0, 1) := by decide +kernel
theorem d_Re_fillProduct_76 : decode c_Re_fillProductb 76 = .ok (.aload_n 1, 1) := by decide +kernel
theorem d_Re_fillProduct_77 : decode c_Re_fillProductb 77 = .ok (.iload 7, 2) := by decide +kernel
theorem d_Re_fillProduct_79 : decode c_Re_fillProductb 79 = .ok (.iload 4, 2) := by decide +kernel
theorem d_Re_fillProduct_81 : decode c_Re_fillProductb 81 = .ok (.invokevirtual 111, 3) := by decide +kernel
theorem d_Re_fillProduct_84 : decode c_Re_fillProductb 84 = .ok (.goto 11, 3) := by decide +kernel
theorem d_Re_fillProduct_87 : decode c_Re_fillProductb 87 = .ok (.aload_n 0, 1) := by decide +kernel
theorem d_Re_fillProduct_88 : decode c_Re_fillProductb 88 = .ok (.iload_n 2, 1) := by decide +kernel
theorem d_Re_fillProduct_89 : decode c_Re_fillProductb 89 = .ok (.iload_n 3, 1) := by decide +kernel
theorem d_Re_fillProduct_90 : decode c_Re_fillProductb 90 = .ok (.iload 4, 2) := by decide +kernel
theorem d_Re_fillProduct_92 : decode c_Re_fillProductb 92 = .ok (.invokevirtual 114, 3) := by decide +kernel
theorem d_Re_fillProduct_95 : decode c_Re_fillProductb 95 = .ok (.return_, 1) := by decide +kernel
abbrev ws_fillProduct (a_Mo a_Sp a_Re a_Mo_codes a_Sp_rows a_Sp_basis a_Re_codes a_Re_products a_Mo_degrees a_Mo_keys a_Mo_raised a_Sp_leads a_Sp_kept a_Sp_work a_Re_bounds a_Re_pairs a_Re_keys : Nat) (cI cL cZ : ClassId) (Mo_variables Mo_order Mo_highest Mo_count Sp_prime Sp_limit Sp_keptCount Sp_basisCount Re_prime Re_variables Re_size Re_pairCount : Int32) (Mo_codes Sp_rows Sp_basis Re_codes Re_products : Nat → Int32) : va_W := [(a_Mo, .inr (1, [.int Mo_variables, .int Mo_order, .int Mo_highest, .int Mo_count, .ref a_Mo_codes, .ref a_Mo_degrees, .ref a_Mo_keys, .ref a_Mo_raised])), (a_Sp, .inr (2, [.ref a_Mo, .int Sp_prime, .int Sp_limit, .ref a_Sp_rows, .ref a_Sp_leads, .ref a_Sp_kept, .int Sp_keptCount, .ref a_Sp_work, .ref a_Sp_basis, .int Sp_basisCount])), (a_Re, .inr (3, [.int Re_prime, .int Re_variables, .int Re_size, .ref a_Re_codes, .ref a_Re_products, .ref a_Re_bounds, .ref a_Re_pairs, .ref a_Re_keys, .int Re_pairCount])), (a_Mo_codes, .inl (cI, 126, .inl Mo_codes)), (a_Sp_rows, .inl (cI, 15876, .inl Sp_rows)), (a_Sp_basis, .inl (cI, 126, .inl Sp_basis)), (a_Re_codes, .inl (cI, 40, .inl Re_codes)), (a_Re_products, .inl (cI, 6400, .inl Re_products))]
abbrev rm_fillProduct : Room := { frames := 3, cells := 0, slots := 0, locals := 81 }
abbrev g_fillProduct (X : gX) (D : va_G) (cI cL cZ : ClassId) (a_Mo a_Sp a_Re a_Mo_codes a_Sp_rows a_Sp_basis a_Re_codes a_Re_products a_Mo_degrees a_Mo_keys a_Mo_raised a_Sp_leads a_Sp_kept a_Sp_work a_Re_bounds a_Re_pairs a_Re_keys : Nat) (A : Nat → Prop) (Mo_variables Mo_order Mo_highest Mo_count Sp_prime Sp_limit Sp_keptCount Sp_basisCount Re_prime Re_variables Re_size Re_pairCount : Int32) (Mo_codes Sp_rows Sp_basis Re_codes Re_products_r : Nat → Int32) (pc : Nat) (lv : List (Nat × Value)) (st : List Value) (Re_products : Nat → Int32) : Prop := ∀ (H : Heap) (locs : List Loc) (ls : Array Slot), va_P D classes (ws_fillProduct a_Mo a_Sp a_Re a_Mo_codes a_Sp_rows a_Sp_basis a_Re_codes a_Re_products a_Mo_degrees a_Mo_keys a_Mo_raised a_Sp_leads a_Sp_kept a_Sp_work a_Re_bounds a_Re_pairs a_Re_keys cI cL cZ Mo_variables Mo_order Mo_highest Mo_count Sp_prime Sp_limit Sp_keptCount Sp_basisCount Re_prime Re_variables Re_size Re_pairCount Mo_codes Sp_rows Sp_basis Re_codes Re_products) H → va_D A (ws_fillProduct a_Mo a_Sp a_Re a_Mo_codes a_Sp_rows a_Sp_basis a_Re_codes a_Re_products a_Mo_degrees a_Mo_keys a_Mo_raised a_Sp_leads a_Sp_kept a_Sp_work a_Re_bounds a_Re_pairs a_Re_keys cI cL cZ Mo_variables Mo_order Mo_highest Mo_count Sp_prime Sp_limit Sp_keptCount Sp_basisCount Re_prime Re_variables Re_size Re_pairCount Mo_codes Sp_rows Sp_basis Re_codes Re_products) → va_S A (gs X).heap H locs → lv_has ls 8 lv → gWW X rm_fillProduct H locs 0 0 (MQ (gbl X) (va_Qv (fun _ : Unit => True) (gB D (gT cI cL cZ) A (ws_fillProduct a_Mo a_Sp a_Re a_Mo_codes a_Sp_rows a_Sp_basis a_Re_codes a_Re_products a_Mo_degrees a_Mo_keys a_Mo_raised a_Sp_leads a_Sp_kept a_Sp_work a_Re_bounds a_Re_pairs a_Re_keys cI cL cZ Mo_variables Mo_order Mo_highest Mo_count Sp_prime Sp_limit Sp_keptCount Sp_basisCount Re_prime Re_variables Re_size Re_pairCount Mo_codes Sp_rows Sp_basis Re_codes Re_products_r)) A) (ga X) (gs X) 0 0 A) (F0 (gm X) pc ls st)
set_option maxHeartbeats 4000000 in
set_option maxRecDepth 100000 in
theorem e_fillProduct (X : gX) (D : va_G) (cI cL cZ : ClassId) (a_Mo a_Sp a_Re a_Mo_codes a_Sp_rows a_Sp_basis a_Re_codes a_Re_products a_Mo_degrees a_Mo_keys a_Mo_raised a_Sp_leads a_Sp_kept a_Sp_work a_Re_bounds a_Re_pairs a_Re_keys : Nat) (A : Nat → Prop) (Mo_variables Mo_order Mo_highest Mo_count Sp_prime Sp_limit Sp_keptCount Sp_basisCount Re_prime Re_variables Re_size Re_pairCount : Int32) (Mo_codes Sp_rows Sp_basis Re_codes Re_products_r : Nat → Int32) (F : Nat) (C0 : gC X c_Re_fillProductb none 8 "RemnantDictionary$Remnant" gAll) (hK : va_K D classes (gT cI cL cZ) (gs X)) (hA : ∀ q : Nat, (gs X).heap.size ≤ q → A q) (hN : gN (gs X)) (i2 i3 : Int32) (Re_products : Nat → Int32) (hrun : m_fillProduct F Sp_basisCount Re_prime Re_size Re_variables Mo_codes Sp_rows Sp_basis Re_codes i2 i3 Re_products = some Re_products_r) : g_fillProduct X D cI cL cZ a_Mo a_Sp a_Re a_Mo_codes a_Sp_rows a_Sp_basis a_Re_codes a_Re_products a_Mo_degrees a_Mo_keys a_Mo_raised a_Sp_leads a_Sp_kept a_Sp_work a_Re_bounds a_Re_pairs a_Re_keys A Mo_variables Mo_order Mo_highest Mo_count Sp_prime Sp_limit Sp_keptCount Sp_basisCount Re_prime Re_variables Re_size Re_pairCount Mo_codes Sp_rows Sp_basis Re_codes Re_products_r 0 [(0, .ref a_Re), (1, .ref a_Sp), (2, .int i2), (3, .int i3)] [] Re_products := by
  have C1 := C0
  obtain ⟨hx, hb, hr, hml, hown, hts, hlocks⟩ := C1
  unfold m_fillProduct at hrun
  intro H locs ls hP hD hS hl
  refine lv_iload_n hx hb d_Re_fillProduct_0 rfl (lv_at hl 2 rfl) ?_
  refine lv_iload_n hx hb d_Re_fillProduct_1 rfl (lv_at hl 3 rfl) ?_
  obtain ⟨r_1, hc, hrun⟩ := bd1_s hrun
  refine vp_callSi (g_ofRun (va_runSN (As := [.int i2, .int i3]) (rest := []) ⟨hx, hb, hml, hown, hts⟩ (c_productRow (gl X) F i2 i3 r_1 hc) (⟨va_cnB 2 hts (gwN k_27) rfl rfl rfl (hN.1 _ (List.mem_of_getElem? (i := 11) rfl)) (hts _ k_14) (by decide +kernel) ⟨Nat.le_of_ble_eq_true rfl, Nat.le_of_ble_eq_true rfl⟩, hts _ k_189, trivial⟩) (gpreS0 hN) rfl rfl hl.1 rfl (lv_room (Nat.le_of_ble_eq_true rfl)) d_Re_fillProduct_2 ⟨Nat.le_of_ble_eq_true rfl, Nat.le_of_ble_eq_true rfl⟩)) (nm_e ?_)
  refine lv_istore (lv' := [(4, .int r_1), (0, .ref a_Re), (1, .ref a_Sp), (2, .int i2), (3, .int i3)]) hx hb d_Re_fillProduct_5 hl (by decide) rfl (fun ls hl => ?_)
  refine lv_aload_n hx hb d_Re_fillProduct_7 rfl (lv_at hl 1 rfl) ?_
  refine va_get (D := D) (ci := 3) (v := .ref a_Re_products) (C := "RemnantDictionary$Remnant") (T := T_Re) (N := 9) hx hb hts iw_Re hown hK hP 2 rfl rfl 4 (by decide) (hts _ k_182) (fun _ h9 => h9) rfl d_Re_fillProduct_8 ?_
  refine lv_iload hx hb d_Re_fillProduct_11 (lv_at hl 0 rfl) ?_
  refine lv_iload hx hb d_Re_fillProduct_13 (lv_at hl 0 rfl) ?_
  refine lv_bipush (v := 40) hx hb d_Re_fillProduct_15 (by decide) ?_
  refine lv_iadd hx hb d_Re_fillProduct_17 ?_
  refine lv_iconst (v := 0) hx hb d_Re_fillProduct_18 (by decide) ?_
  obtain ⟨Re_products_2, hc, hrun⟩ := bd1_s hrun
  have hFc := va_free (wc := (ws_fillR a_Re_products cI cL cZ 6400 Re_products)) hD hS hA [7] rfl
  refine va_callv (va_runS (As := [.ref a_Re_products, .int r_1, .int (r_1 + 40), .int 0]) (rest := []) ⟨hx, hb, hml, hown, hts⟩ (c_fillR (gl X) D cI cL cZ a_Re_products F 6400 Re_products r_1 (r_1 + 40) 0 H.size Re_products_2 hc) (va_cwS 4 hts (gwS k_195 k_82 k_4 k_2) rfl rfl rfl (by decide +kernel) ⟨Nat.le_of_ble_eq_true rfl, Nat.le_of_ble_eq_true rfl⟩) (gpreSW (hP.sub (ws' := (ws_fillR a_Re_products cI cL cZ 6400 Re_products)) [7] rfl) hK hN (hD.sub (ws' := (ws_fillR a_Re_products cI cL cZ 6400 Re_products)) [7] (by decide) rfl)) rfl rfl hl.1 rfl (lv_room (Nat.le_of_ble_eq_true rfl)) d_Re_fillProduct_19 ⟨Nat.le_of_ble_eq_true rfl, Nat.le_of_ble_eq_true rfl⟩) hS (fun q _ h => hFc q h) hFc (fun _ t H_3 locs ht hvm hw hB hz1 hk1 hS => ?_)
  obtain ⟨hP, hD⟩ := va_join (wr := [(a_Mo, .inr (1, [.int Mo_variables, .int Mo_order, .int Mo_highest, .int Mo_count, .ref a_Mo_codes, .ref a_Mo_degrees, .ref a_Mo_keys, .ref a_Mo_raised])), (a_Sp, .inr (2, [.ref a_Mo, .int Sp_prime, .int Sp_limit, .ref a_Sp_rows, .ref a_Sp_leads, .ref a_Sp_kept, .int Sp_keptCount, .ref a_Sp_work, .ref a_Sp_basis, .int Sp_basisCount])), (a_Re, .inr (3, [.int Re_prime, .int Re_variables, .int Re_size, .ref a_Re_codes, .ref a_Re_products, .ref a_Re_bounds, .ref a_Re_pairs, .ref a_Re_keys, .int Re_pairCount])), (a_Mo_codes, .inl (cI, 126, .inl Mo_codes)), (a_Sp_rows, .inl (cI, 15876, .inl Sp_rows)), (a_Sp_basis, .inl (cI, 126, .inl Sp_basis)), (a_Re_codes, .inl (cI, 40, .inl Re_codes))]) (w1 := (ws_fillR a_Re_products cI cL cZ 6400 Re_products_2)) hP hD [7] [0, 1, 2, 3, 4, 5, 6] rfl rfl (by decide) (by decide) hk1 hFc (by have h9 := hB.1; rw [ht] at h9; exact h9) hB.2.2
  have hP : va_P D classes (ws_fillProduct a_Mo a_Sp a_Re a_Mo_codes a_Sp_rows a_Sp_basis a_Re_codes a_Re_products a_Mo_degrees a_Mo_keys a_Mo_raised a_Sp_leads a_Sp_kept a_Sp_work a_Re_bounds a_Re_pairs a_Re_keys cI cL cZ Mo_variables Mo_order Mo_highest Mo_count Sp_prime Sp_limit Sp_keptCount Sp_basisCount Re_prime Re_variables Re_size Re_pairCount Mo_codes Sp_rows Sp_basis Re_codes Re_products_2) H_3 := hP.sub [0, 1, 2, 3, 4, 5, 6, 7] rfl
  have hD : va_D A (ws_fillProduct a_Mo a_Sp a_Re a_Mo_codes a_Sp_rows a_Sp_basis a_Re_codes a_Re_products a_Mo_degrees a_Mo_keys a_Mo_raised a_Sp_leads a_Sp_kept a_Sp_work a_Re_bounds a_Re_pairs a_Re_keys cI cL cZ Mo_variables Mo_order Mo_highest Mo_count Sp_prime Sp_limit Sp_keptCount Sp_basisCount Re_prime Re_variables Re_size Re_pairCount Mo_codes Sp_rows Sp_basis Re_codes Re_products_2) := hD.sub [0, 1, 2, 3, 4, 5, 6, 7] (by decide) rfl
  refine lv_aload_n hx hb d_Re_fillProduct_22 rfl (lv_at hl 1 rfl) ?_
  refine va_get (D := D) (ci := 3) (v := .ref a_Re_codes) (C := "RemnantDictionary$Remnant") (T := T_Re) (N := 9) hx hb hts iw_Re hown hK hP 2 rfl rfl 3 (by decide) (hts _ k_150) (fun _ h9 => h9) rfl d_Re_fillProduct_23 ?_
  refine lv_iload_n hx hb d_Re_fillProduct_26 rfl (lv_at hl 4 rfl) ?_
  refine g_iald hx hb hK hP 6 0 rfl rfl hrun d_Re_fillProduct_27 (fun x_4 hrun => ?_)
  refine lv_iload_n hx hb d_Re_fillProduct_28 rfl (lv_at hl 3 rfl) ?_
  obtain ⟨r_5, hc, hrun⟩ := bd1_s hrun
  refine vp_callSi (g_ofRun (va_runSN (As := [.int i2]) (rest := [.int x_4]) ⟨hx, hb, hml, hown, hts⟩ (c_variable (gl X) F i2 r_5 hc) (⟨va_cnB 1 hts (gwN k_11) rfl rfl rfl (hN.1 _ (List.mem_of_getElem? (i := 10) rfl)) (hts _ k_14) (by decide +kernel) ⟨Nat.le_of_ble_eq_true rfl, Nat.le_of_ble_eq_true rfl⟩, hts _ k_55, trivial⟩) (gpreS0 hN) rfl rfl hl.1 rfl (lv_room (Nat.le_of_ble_eq_true rfl)) d_Re_fillProduct_29 ⟨Nat.le_of_ble_eq_true rfl, Nat.le_of_ble_eq_true rfl⟩)) (nm_e ?_)
  refine lv_iadd hx hb d_Re_fillProduct_32 ?_
  refine lv_istore (lv' := [(5, .int (x_4 + r_5)), (4, .int r_1), (0, .ref a_Re), (1, .ref a_Sp), (2, .int i2), (3, .int i3)]) hx hb d_Re_fillProduct_33 hl (by decide) rfl (fun ls hl => ?_)
  refine lv_aload_n hx hb d_Re_fillProduct_35 rfl (lv_at hl 2 rfl) ?_
  refine lv_iload hx hb d_Re_fillProduct_36 (lv_at hl 0 rfl) ?_
  obtain ⟨r_6, hc, hrun⟩ := bd1_s hrun
  refine vp_callSi (W.runV (As := [.int (x_4 + r_5)]) (rest := []) ⟨hx, hb, hml, hown, hts⟩ (c_placeOf (gl X) D cI cL cZ a_Re a_Re_codes a_Re_products a_Re_bounds a_Re_pairs a_Re_keys F Re_prime Re_variables Re_size Re_pairCount Re_codes (x_4 + r_5) r_6 hc) (cwV 1 hts (gwV k_188 k_186 k_187 k_157 k_181) rfl rfl rfl (by decide +kernel) ⟨Nat.le_of_ble_eq_true rfl, Nat.le_of_ble_eq_true rfl⟩) (gpreV (hP.sub (ws' := (ws_placeOf a_Re a_Re_codes a_Re_products a_Re_bounds a_Re_pairs a_Re_keys cI cL cZ Re_prime Re_variables Re_size Re_pairCount Re_codes)) [2, 6] rfl) hK hN 3 0 rfl rfl) rfl rfl hl.1 rfl (lv_room (Nat.le_of_ble_eq_true rfl)) d_Re_fillProduct_38 ⟨Nat.le_of_ble_eq_true rfl, Nat.le_of_ble_eq_true rfl⟩) (nm_e ?_)
  refine lv_istore (lv' := [(6, .int r_6), (5, .int (x_4 + r_5)), (4, .int r_1), (0, .ref a_Re), (1, .ref a_Sp), (2, .int i2), (3, .int i3)]) hx hb d_Re_fillProduct_41 hl (by decide) rfl (fun ls hl => ?_)
  refine lv_iload hx hb d_Re_fillProduct_43 (lv_at hl 0 rfl) ?_
  refine lv_iconst (v := (-1)) hx hb d_Re_fillProduct_45 (by decide) ?_
  refine g_icmp_eq (tgt := 61) hx hb d_Re_fillProduct_46 (by decide) hrun (fun _ hrun => ?_) (fun _ hrun => ?_)
  · refine lv_aload_n hx hb d_Re_fillProduct_61 rfl (lv_at hl 4 rfl) ?_
    refine lv_iload hx hb d_Re_fillProduct_62 (lv_at hl 1 rfl) ?_
    obtain ⟨r_7, hc, hrun⟩ := bd1_s hrun
    refine vp_callSi (W.runV (As := [.int (x_4 + r_5)]) (rest := []) ⟨hx, hb, hml, hown, hts⟩ (c_rankInBasis (gl X) D cI cL cZ a_Mo a_Sp a_Mo_codes a_Sp_basis a_Mo_degrees a_Mo_keys a_Mo_raised a_Sp_rows a_Sp_leads a_Sp_kept a_Sp_work F Mo_variables Mo_order Mo_highest Mo_count Sp_prime Sp_limit Sp_keptCount Sp_basisCount Mo_codes Sp_basis (x_4 + r_5) r_7 hc) (cwV 1 hts (gwV k_198 k_196 k_197 k_91 k_131) rfl rfl rfl (by decide +kernel) ⟨Nat.le_of_ble_eq_true rfl, Nat.le_of_ble_eq_true rfl⟩) (gpreV (hP.sub (ws' := (ws_rankInBasis a_Mo a_Sp a_Mo_codes a_Sp_basis a_Mo_degrees a_Mo_keys a_Mo_raised a_Sp_rows a_Sp_leads a_Sp_kept a_Sp_work cI cL cZ Mo_variables Mo_order Mo_highest Mo_count Sp_prime Sp_limit Sp_keptCount Sp_basisCount Mo_codes Sp_basis)) [0, 1, 3, 5] rfl) hK hN 2 1 rfl rfl) rfl rfl hl.1 rfl (lv_room (Nat.le_of_ble_eq_true rfl)) d_Re_fillProduct_64 ⟨Nat.le_of_ble_eq_true rfl, Nat.le_of_ble_eq_true rfl⟩) (nm_e ?_)
    refine lv_istore (lv' := [(7, .int r_7), (6, .int r_6), (5, .int (x_4 + r_5)), (4, .int r_1), (0, .ref a_Re), (1, .ref a_Sp), (2, .int i2), (3, .int i3)]) hx hb d_Re_fillProduct_67 hl (by decide) rfl (fun ls hl => ?_)
    refine lv_iload hx hb d_Re_fillProduct_69 (lv_at hl 0 rfl) ?_
    refine lv_iconst (v := (-1)) hx hb d_Re_fillProduct_71 (by decide) ?_
    refine g_icmp_eq (tgt := 87) hx hb d_Re_fillProduct_72 (by decide) hrun (fun _ hrun => ?_) (fun _ hrun => ?_)
    · refine lv_aload_n hx hb d_Re_fillProduct_87 rfl (lv_at hl 4 rfl) ?_
      refine lv_iload_n hx hb d_Re_fillProduct_88 rfl (lv_at hl 6 rfl) ?_
      refine lv_iload_n hx hb d_Re_fillProduct_89 rfl (lv_at hl 7 rfl) ?_
      refine lv_iload hx hb d_Re_fillProduct_90 (lv_at hl 3 rfl) ?_
      obtain ⟨Re_products_8, hc, hrun⟩ := bd1_s hrun
      have hFc := va_free (wc := (ws_fillFromLesser a_Re a_Re_codes a_Re_products a_Re_bounds a_Re_pairs a_Re_keys cI cL cZ Re_prime Re_variables Re_size Re_pairCount Re_codes Re_products_2)) hD hS hA [2, 6, 7] rfl
      refine va_callv (va_runV (As := [.int i2, .int i3, .int r_1]) (rest := []) ⟨hx, hb, hml, hown, hts⟩ (c_fillFromLesser (gl X) D cI cL cZ a_Re a_Re_codes a_Re_products a_Re_bounds a_Re_pairs a_Re_keys F Re_prime Re_variables Re_size Re_pairCount Re_codes Re_products_2 i2 i3 r_1 H_3.size Re_products_8 hc) (cwV 3 hts (gwV k_201 k_199 k_200 k_157 k_194) rfl rfl rfl (by decide +kernel) ⟨Nat.le_of_ble_eq_true rfl, Nat.le_of_ble_eq_true rfl⟩) (gpreVW (hP.sub (ws' := (ws_fillFromLesser a_Re a_Re_codes a_Re_products a_Re_bounds a_Re_pairs a_Re_keys cI cL cZ Re_prime Re_variables Re_size Re_pairCount Re_codes Re_products_2)) [2, 6, 7] rfl) hK hN (hD.sub (ws' := (ws_fillFromLesser a_Re a_Re_codes a_Re_products a_Re_bounds a_Re_pairs a_Re_keys cI cL cZ Re_prime Re_variables Re_size Re_pairCount Re_codes Re_products_2)) [2, 6, 7] (by decide) rfl) 3 0 rfl rfl) rfl rfl hl.1 rfl (lv_room (Nat.le_of_ble_eq_true rfl)) d_Re_fillProduct_92 ⟨Nat.le_of_ble_eq_true rfl, Nat.le_of_ble_eq_true rfl⟩) hS (fun q _ h => hFc q h) hFc (fun _ t H_9 locs ht hvm hw hB hz1 hk1 hS => ?_)
      obtain ⟨hP, hD⟩ := va_join (wr := [(a_Mo, .inr (1, [.int Mo_variables, .int Mo_order, .int Mo_highest, .int Mo_count, .ref a_Mo_codes, .ref a_Mo_degrees, .ref a_Mo_keys, .ref a_Mo_raised])), (a_Sp, .inr (2, [.ref a_Mo, .int Sp_prime, .int Sp_limit, .ref a_Sp_rows, .ref a_Sp_leads, .ref a_Sp_kept, .int Sp_keptCount, .ref a_Sp_work, .ref a_Sp_basis, .int Sp_basisCount])), (a_Mo_codes, .inl (cI, 126, .inl Mo_codes)), (a_Sp_rows, .inl (cI, 15876, .inl Sp_rows)), (a_Sp_basis, .inl (cI, 126, .inl Sp_basis))]) (w1 := (ws_fillFromLesser a_Re a_Re_codes a_Re_products a_Re_bounds a_Re_pairs a_Re_keys cI cL cZ Re_prime Re_variables Re_size Re_pairCount Re_codes Re_products_8)) hP hD [2, 6, 7] [0, 1, 3, 4, 5] rfl rfl (by decide) (by decide) hk1 hFc (by have h9 := hB.1; rw [ht] at h9; exact h9) hB.2.2
      have hP : va_P D classes (ws_fillProduct a_Mo a_Sp a_Re a_Mo_codes a_Sp_rows a_Sp_basis a_Re_codes a_Re_products a_Mo_degrees a_Mo_keys a_Mo_raised a_Sp_leads a_Sp_kept a_Sp_work a_Re_bounds a_Re_pairs a_Re_keys cI cL cZ Mo_variables Mo_order Mo_highest Mo_count Sp_prime Sp_limit Sp_keptCount Sp_basisCount Re_prime Re_variables Re_size Re_pairCount Mo_codes Sp_rows Sp_basis Re_codes Re_products_8) H_9 := hP.sub [0, 1, 5, 2, 3, 4, 6, 7] rfl
      have hD : va_D A (ws_fillProduct a_Mo a_Sp a_Re a_Mo_codes a_Sp_rows a_Sp_basis a_Re_codes a_Re_products a_Mo_degrees a_Mo_keys a_Mo_raised a_Sp_leads a_Sp_kept a_Sp_work a_Re_bounds a_Re_pairs a_Re_keys cI cL cZ Mo_variables Mo_order Mo_highest Mo_count Sp_prime Sp_limit Sp_keptCount Sp_basisCount Re_prime Re_variables Re_size Re_pairCount Mo_codes Sp_rows Sp_basis Re_codes Re_products_8) := hD.sub [0, 1, 5, 2, 3, 4, 6, 7] (by decide) rfl
      cases hrun
      exact W.vret hx hb hr (fun t ht hW => ⟨⟨(), rfl, trivial, gB_of ht hW.alike hP hK hD⟩, hS.F ht⟩) hS.2.2 d_Re_fillProduct_95
    · refine lv_aload_n hx hb d_Re_fillProduct_75 rfl (lv_at hl 4 rfl) ?_
      refine lv_aload_n hx hb d_Re_fillProduct_76 rfl (lv_at hl 5 rfl) ?_
      refine lv_iload hx hb d_Re_fillProduct_77 (lv_at hl 0 rfl) ?_
      refine lv_iload hx hb d_Re_fillProduct_79 (lv_at hl 3 rfl) ?_
      obtain ⟨Re_products_10, hc, hrun⟩ := bd1_s hrun
      have hFc := va_free (wc := (ws_fillFromBasis a_Mo a_Sp a_Re a_Mo_codes a_Sp_rows a_Re_codes a_Re_products a_Mo_degrees a_Mo_keys a_Mo_raised a_Sp_leads a_Sp_kept a_Sp_work a_Sp_basis a_Re_bounds a_Re_pairs a_Re_keys cI cL cZ Mo_variables Mo_order Mo_highest Mo_count Sp_prime Sp_limit Sp_keptCount Sp_basisCount Re_prime Re_variables Re_size Re_pairCount Mo_codes Sp_rows Re_codes Re_products_2)) hD hS hA [0, 1, 2, 3, 4, 6, 7] rfl
      refine va_callv (va_runV (As := [.ref a_Sp, .int r_7, .int r_1]) (rest := []) ⟨hx, hb, hml, hown, hts⟩ (c_fillFromBasis (gl X) D cI cL cZ a_Mo a_Sp a_Re a_Mo_codes a_Sp_rows a_Re_codes a_Re_products a_Mo_degrees a_Mo_keys a_Mo_raised a_Sp_leads a_Sp_kept a_Sp_work a_Sp_basis a_Re_bounds a_Re_pairs a_Re_keys F Mo_variables Mo_order Mo_highest Mo_count Sp_prime Sp_limit Sp_keptCount Sp_basisCount Re_prime Re_variables Re_size Re_pairCount Mo_codes Sp_rows Re_codes Re_products_2 r_7 r_1 H_3.size Re_products_10 hc) (cwV 3 hts (gwV k_204 k_202 k_203 k_157 k_183) rfl rfl rfl (by decide +kernel) ⟨Nat.le_of_ble_eq_true rfl, Nat.le_of_ble_eq_true rfl⟩) (gpreVW (hP.sub (ws' := (ws_fillFromBasis a_Mo a_Sp a_Re a_Mo_codes a_Sp_rows a_Re_codes a_Re_products a_Mo_degrees a_Mo_keys a_Mo_raised a_Sp_leads a_Sp_kept a_Sp_work a_Sp_basis a_Re_bounds a_Re_pairs a_Re_keys cI cL cZ Mo_variables Mo_order Mo_highest Mo_count Sp_prime Sp_limit Sp_keptCount Sp_basisCount Re_prime Re_variables Re_size Re_pairCount Mo_codes Sp_rows Re_codes Re_products_2)) [0, 1, 2, 3, 4, 6, 7] rfl) hK hN (hD.sub (ws' := (ws_fillFromBasis a_Mo a_Sp a_Re a_Mo_codes a_Sp_rows a_Re_codes a_Re_products a_Mo_degrees a_Mo_keys a_Mo_raised a_Sp_leads a_Sp_kept a_Sp_work a_Sp_basis a_Re_bounds a_Re_pairs a_Re_keys cI cL cZ Mo_variables Mo_order Mo_highest Mo_count Sp_prime Sp_limit Sp_keptCount Sp_basisCount Re_prime Re_variables Re_size Re_pairCount Mo_codes Sp_rows Re_codes Re_products_2)) [0, 1, 2, 3, 4, 6, 7] (by decide) rfl) 3 2 rfl rfl) rfl rfl hl.1 rfl (lv_room (Nat.le_of_ble_eq_true rfl)) d_Re_fillProduct_81 ⟨Nat.le_of_ble_eq_true rfl, Nat.le_of_ble_eq_true rfl⟩) hS (fun q _ h => hFc q h) hFc (fun _ t H_11 locs ht hvm hw hB hz1 hk1 hS => ?_)
      obtain ⟨hP, hD⟩ := va_join (wr := [(a_Sp_basis, .inl (cI, 126, .inl Sp_basis))]) (w1 := (ws_fillFromBasis a_Mo a_Sp a_Re a_Mo_codes a_Sp_rows a_Re_codes a_Re_products a_Mo_degrees a_Mo_keys a_Mo_raised a_Sp_leads a_Sp_kept a_Sp_work a_Sp_basis a_Re_bounds a_Re_pairs a_Re_keys cI cL cZ Mo_variables Mo_order Mo_highest Mo_count Sp_prime Sp_limit Sp_keptCount Sp_basisCount Re_prime Re_variables Re_size Re_pairCount Mo_codes Sp_rows Re_codes Re_products_10)) hP hD [0, 1, 2, 3, 4, 6, 7] [5] rfl rfl (by decide) (by decide) hk1 hFc (by have h9 := hB.1; rw [ht] at h9; exact h9) hB.2.2
      have hP : va_P D classes (ws_fillProduct a_Mo a_Sp a_Re a_Mo_codes a_Sp_rows a_Sp_basis a_Re_codes a_Re_products a_Mo_degrees a_Mo_keys a_Mo_raised a_Sp_leads a_Sp_kept a_Sp_work a_Re_bounds a_Re_pairs a_Re_keys cI cL cZ Mo_variables Mo_order Mo_highest Mo_count Sp_prime Sp_limit Sp_keptCount Sp_basisCount Re_prime Re_variables Re_size Re_pairCount Mo_codes Sp_rows Sp_basis Re_codes Re_products_10) H_11 := hP.sub [1, 2, 3, 4, 5, 0, 6, 7] rfl
      have hD : va_D A (ws_fillProduct a_Mo a_Sp a_Re a_Mo_codes a_Sp_rows a_Sp_basis a_Re_codes a_Re_products a_Mo_degrees a_Mo_keys a_Mo_raised a_Sp_leads a_Sp_kept a_Sp_work a_Re_bounds a_Re_pairs a_Re_keys cI cL cZ Mo_variables Mo_order Mo_highest Mo_count Sp_prime Sp_limit Sp_keptCount Sp_basisCount Re_prime Re_variables Re_size Re_pairCount Mo_codes Sp_rows Sp_basis Re_codes Re_products_10) := hD.sub [1, 2, 3, 4, 5, 0, 6, 7] (by decide) rfl
      refine lv_goto (tgt := 95) hx hb d_Re_fillProduct_84 (by decide) ?_
      cases hrun
      exact W.vret hx hb hr (fun t ht hW => ⟨⟨(), rfl, trivial, gB_of ht hW.alike hP hK hD⟩, hS.F ht⟩) hS.2.2 d_Re_fillProduct_95
  · refine lv_aload_n hx hb d_Re_fillProduct_49 rfl (lv_at hl 3 rfl) ?_
    refine va_get (D := D) (ci := 3) (v := .ref a_Re_products) (C := "RemnantDictionary$Remnant") (T := T_Re) (N := 9) hx hb hts iw_Re hown hK hP 2 rfl rfl 4 (by decide) (hts _ k_182) (fun _ h9 => h9) rfl d_Re_fillProduct_50 ?_
    refine lv_iload hx hb d_Re_fillProduct_53 (lv_at hl 2 rfl) ?_
    refine lv_iload hx hb d_Re_fillProduct_55 (lv_at hl 0 rfl) ?_
    refine lv_iadd hx hb d_Re_fillProduct_57 ?_
    refine lv_iconst (v := 1) hx hb d_Re_fillProduct_58 (by decide) ?_
    refine g_iast hx hb hK hP hD hS 7 0 rfl rfl hrun d_Re_fillProduct_59 (fun Re_products_12 hrun H locs (hP : va_P D classes (ws_fillProduct a_Mo a_Sp a_Re a_Mo_codes a_Sp_rows a_Sp_basis a_Re_codes a_Re_products a_Mo_degrees a_Mo_keys a_Mo_raised a_Sp_leads a_Sp_kept a_Sp_work a_Re_bounds a_Re_pairs a_Re_keys cI cL cZ Mo_variables Mo_order Mo_highest Mo_count Sp_prime Sp_limit Sp_keptCount Sp_basisCount Re_prime Re_variables Re_size Re_pairCount Mo_codes Sp_rows Sp_basis Re_codes Re_products_12) H) (hD : va_D A (ws_fillProduct a_Mo a_Sp a_Re a_Mo_codes a_Sp_rows a_Sp_basis a_Re_codes a_Re_products a_Mo_degrees a_Mo_keys a_Mo_raised a_Sp_leads a_Sp_kept a_Sp_work a_Re_bounds a_Re_pairs a_Re_keys cI cL cZ Mo_variables Mo_order Mo_highest Mo_count Sp_prime Sp_limit Sp_keptCount Sp_basisCount Re_prime Re_variables Re_size Re_pairCount Mo_codes Sp_rows Sp_basis Re_codes Re_products_12)) hS => ?_)
    cases hrun
    exact W.vret hx hb hr (fun t ht hW => ⟨⟨(), rfl, trivial, gB_of ht hW.alike hP hK hD⟩, hS.F ht⟩) hS.2.2 d_Re_fillProduct_60
set_option maxHeartbeats 4000000 in
set_option maxRecDepth 100000 in
theorem c_fillProduct (l : Launch) (D : va_G) (cI cL cZ : ClassId) (a_Mo a_Sp a_Re a_Mo_codes a_Sp_rows a_Sp_basis a_Re_codes a_Re_products a_Mo_degrees a_Mo_keys a_Mo_raised a_Sp_leads a_Sp_kept a_Sp_work a_Re_bounds a_Re_pairs a_Re_keys : Nat) (F : Nat) (Mo_variables Mo_order Mo_highest Mo_count Sp_prime Sp_limit Sp_keptCount Sp_basisCount Re_prime Re_variables Re_size Re_pairCount : Int32) (Mo_codes Sp_rows Sp_basis Re_codes Re_products : Nat → Int32) (i2 i3 : Int32) (sz : Nat) (Re_products_r : Nat → Int32) (hrun : m_fillProduct F Sp_basisCount Re_prime Re_size Re_variables Mo_codes Sp_rows Sp_basis Re_codes i2 i3 Re_products = some Re_products_r) : Met l y_Re_fillProduct (.code y_Re_fillProduct c_Re_fillProductb 8 none :: gAll) rm_fillProduct (va_Pc [.ref a_Re, .ref a_Sp, .int i2, .int i3] (gPW D (gT cI cL cZ) (ws_fillProduct a_Mo a_Sp a_Re a_Mo_codes a_Sp_rows a_Sp_basis a_Re_codes a_Re_products a_Mo_degrees a_Mo_keys a_Mo_raised a_Sp_leads a_Sp_kept a_Sp_work a_Re_bounds a_Re_pairs a_Re_keys cI cL cZ Mo_variables Mo_order Mo_highest Mo_count Sp_prime Sp_limit Sp_keptCount Sp_basisCount Re_prime Re_variables Re_size Re_pairCount Mo_codes Sp_rows Sp_basis Re_codes Re_products) sz)) (va_Qv (fun _ : Unit => True) (gB D (gT cI cL cZ) (va_A (ws_fillProduct a_Mo a_Sp a_Re a_Mo_codes a_Sp_rows a_Sp_basis a_Re_codes a_Re_products a_Mo_degrees a_Mo_keys a_Mo_raised a_Sp_leads a_Sp_kept a_Sp_work a_Re_bounds a_Re_pairs a_Re_keys cI cL cZ Mo_variables Mo_order Mo_highest Mo_count Sp_prime Sp_limit Sp_keptCount Sp_basisCount Re_prime Re_variables Re_size Re_pairCount Mo_codes Sp_rows Sp_basis Re_codes Re_products) sz) (ws_fillProduct a_Mo a_Sp a_Re a_Mo_codes a_Sp_rows a_Sp_basis a_Re_codes a_Re_products a_Mo_degrees a_Mo_keys a_Mo_raised a_Sp_leads a_Sp_kept a_Sp_work a_Re_bounds a_Re_pairs a_Re_keys cI cL cZ Mo_variables Mo_order Mo_highest Mo_count Sp_prime Sp_limit Sp_keptCount Sp_basisCount Re_prime Re_variables Re_size Re_pairCount Mo_codes Sp_rows Sp_basis Re_codes Re_products_r)) (va_A (ws_fillProduct a_Mo a_Sp a_Re a_Mo_codes a_Sp_rows a_Sp_basis a_Re_codes a_Re_products a_Mo_degrees a_Mo_keys a_Mo_raised a_Sp_leads a_Sp_kept a_Sp_work a_Re_bounds a_Re_pairs a_Re_keys cI cL cZ Mo_variables Mo_order Mo_highest Mo_count Sp_prime Sp_limit Sp_keptCount Sp_basisCount Re_prime Re_variables Re_size Re_pairCount Mo_codes Sp_rows Sp_basis Re_codes Re_products) sz)) 0 0 (va_A (ws_fillProduct a_Mo a_Sp a_Re a_Mo_codes a_Sp_rows a_Sp_basis a_Re_codes a_Re_products a_Mo_degrees a_Mo_keys a_Mo_raised a_Sp_leads a_Sp_kept a_Sp_work a_Re_bounds a_Re_pairs a_Re_keys cI cL cZ Mo_variables Mo_order Mo_highest Mo_count Sp_prime Sp_limit Sp_keptCount Sp_basisCount Re_prime Re_variables Re_size Re_pairCount Mo_codes Sp_rows Sp_basis Re_codes Re_products) sz) := by
  refine Met.ofW (cc := c_Re_fillProductb) (maxL := 8) (ret := none) (by decide +kernel) rfl ?_
  intro p e s m args below meth c s₁ B hml hv
  obtain ⟨rfl, hsz, hP, hK, hN, hD0⟩ := hv
  subst hsz
  have hD := hD0.self (sz := s.heap.size)
  have hl := lv_entry ([.ref a_Re, .ref a_Sp, .int i2, .int i3]) (n := 8) (Nat.le_of_ble_eq_true rfl)
  rw [lg_entry_eq]
  generalize (lg_sl ([.ref a_Re, .ref a_Sp, .int i2, .int i3]) ++ List.replicate (8 - (lg_sl ([.ref a_Re, .ref a_Sp, .int i2, .int i3])).length) Slot.unset).toArray = ls at hl ⊢
  exact e_fillProduct (p, l, e, s, m, ([.ref a_Re, .ref a_Sp, .int i2, .int i3] : List Value).toArray, below, meth, c) D cI cL cZ a_Mo a_Sp a_Re a_Mo_codes a_Sp_rows a_Sp_basis a_Re_codes a_Re_products a_Mo_degrees a_Mo_keys a_Mo_raised a_Sp_leads a_Sp_kept a_Sp_work a_Re_bounds a_Re_pairs a_Re_keys (va_A (ws_fillProduct a_Mo a_Sp a_Re a_Mo_codes a_Sp_rows a_Sp_basis a_Re_codes a_Re_products a_Mo_degrees a_Mo_keys a_Mo_raised a_Sp_leads a_Sp_kept a_Sp_work a_Re_bounds a_Re_pairs a_Re_keys cI cL cZ Mo_variables Mo_order Mo_highest Mo_count Sp_prime Sp_limit Sp_keptCount Sp_basisCount Re_prime Re_variables Re_size Re_pairCount Mo_codes Sp_rows Sp_basis Re_codes Re_products) s.heap.size) Mo_variables Mo_order Mo_highest Mo_count Sp_prime Sp_limit Sp_keptCount Sp_basisCount Re_prime Re_variables Re_size Re_pairCount Mo_codes Sp_rows Sp_basis Re_codes Re_products_r F ⟨B.exec, B.bytes, B.returns, hml, findClass_of_methodNamed B.named, fun w h => atoms_spec (ws := (.code y_Re_fillProduct c_Re_fillProductb 8 none :: gAll)) B.pre w (List.mem_cons_of_mem _ h), B.notSynchronized⟩ hK (fun q h => Or.inr h) hN i2 i3 Re_products hrun s.heap [] ls hP hD va_S.rf hl
theorem d_Re_multiply_0 : decode c_Re_multiplyb 0 = .ok (.aload_n 0, 1) := by decide +kernel
theorem d_Re_multiply_1 : decode c_Re_multiplyb 1 = .ok (.aload_n 1, 1) := by decide +kernel
theorem d_Re_multiply_2 : decode c_Re_multiplyb 2 = .ok (.getfield 38, 3) := by decide +kernel
theorem d_Re_multiply_5 : decode c_Re_multiplyb 5 = .ok (.getfield 66, 3) := by decide +kernel
theorem d_Re_multiply_8 : decode c_Re_multiplyb 8 = .ok (.invokevirtual 77, 3) := by decide +kernel
theorem d_Re_multiply_11 : decode c_Re_multiplyb 11 = .ok (.iconst 0, 1) := by decide +kernel
theorem d_Re_multiply_12 : decode c_Re_multiplyb 12 = .ok (.istore_n 2, 1) := by decide +kernel
theorem d_Re_multiply_13 : decode c_Re_multiplyb 13 = .ok (.iload_n 2, 1) := by decide +kernel
theorem d_Re_multiply_14 : decode c_Re_multiplyb 14 = .ok (.aload_n 0, 1) := by decide +kernel
theorem d_Re_multiply_15 : decode c_Re_multiplyb 15 = .ok (.getfield 81, 3) := by decide +kernel
theorem d_Re_multiply_18 : decode c_Re_multiplyb 18 = .ok (.if_icmp .ge 32, 3) := by decide +kernel
theorem d_Re_multiply_21 : decode c_Re_multiplyb 21 = .ok (.aload_n 0, 1) := by decide +kernel
theorem d_Re_multiply_22 : decode c_Re_multiplyb 22 = .ok (.aload_n 1, 1) := by decide +kernel
theorem d_Re_multiply_23 : decode c_Re_multiplyb 23 = .ok (.aload_n 0, 1) := by decide +kernel
theorem d_Re_multiply_24 : decode c_Re_multiplyb 24 = .ok (.getfield 21, 3) := by decide +kernel
theorem d_Re_multiply_27 : decode c_Re_multiplyb 27 = .ok (.iload_n 2, 1) := by decide +kernel
theorem d_Re_multiply_28 : decode c_Re_multiplyb 28 = .ok (.iaload, 1) := by decide +kernel
theorem d_Re_multiply_29 : decode c_Re_multiplyb 29 = .ok (.bipush 40, 2) := by decide +kernel
theorem d_Re_multiply_31 : decode c_Re_multiplyb 31 = .ok (.idiv, 1) := by decide +kernel
theorem d_Re_multiply_32 : decode c_Re_multiplyb 32 = .ok (.aload_n 0, 1) := by decide +kernel
theorem d_Re_multiply_33 : decode c_Re_multiplyb 33 = .ok (.getfield 21, 3) := by decide +kernel
theorem d_Re_multiply_36 : decode c_Re_multiplyb 36 = .ok (.iload_n 2, 1) := by decide +kernel
theorem d_Re_multiply_37 : decode c_Re_multiplyb 37 = .ok (.iaload, 1) := by decide +kernel
theorem d_Re_multiply_38 : decode c_Re_multiplyb 38 = .ok (.bipush 40, 2) := by decide +kernel
theorem d_Re_multiply_40 : decode c_Re_multiplyb 40 = .ok (.irem, 1) := by decide +kernel
theorem d_Re_multiply_41 : decode c_Re_multiplyb 41 = .ok (.invokevirtual 84, 3) := by decide +kernel
theorem d_Re_multiply_44 : decode c_Re_multiplyb 44 = .ok (.iinc 2 1, 3) := by decide +kernel
theorem d_Re_multiply_47 : decode c_Re_multiplyb 47 = .ok (.goto (-34), 3) := by decide +kernel
theorem d_Re_multiply_50 : decode c_Re_multiplyb 50 = .ok (.return_, 1) := by decide +kernel
abbrev ws_multiply (a_Mo a_Sp a_Re a_Mo_codes a_Sp_rows a_Sp_basis a_Re_codes a_Re_products a_Re_pairs a_Re_keys a_Mo_degrees a_Mo_keys a_Mo_raised a_Sp_leads a_Sp_kept a_Sp_work a_Re_bounds : Nat) (cI cL cZ : ClassId) (Mo_variables Mo_order Mo_highest Mo_count Sp_prime Sp_limit Sp_keptCount Sp_basisCount Re_prime Re_variables Re_size Re_pairCount : Int32) (Mo_codes Sp_rows Sp_basis Re_codes Re_products Re_pairs : Nat → Int32) (Re_keys : Nat → Int64) : va_W := [(a_Mo, .inr (1, [.int Mo_variables, .int Mo_order, .int Mo_highest, .int Mo_count, .ref a_Mo_codes, .ref a_Mo_degrees, .ref a_Mo_keys, .ref a_Mo_raised])), (a_Sp, .inr (2, [.ref a_Mo, .int Sp_prime, .int Sp_limit, .ref a_Sp_rows, .ref a_Sp_leads, .ref a_Sp_kept, .int Sp_keptCount, .ref a_Sp_work, .ref a_Sp_basis, .int Sp_basisCount])), (a_Re, .inr (3, [.int Re_prime, .int Re_variables, .int Re_size, .ref a_Re_codes, .ref a_Re_products, .ref a_Re_bounds, .ref a_Re_pairs, .ref a_Re_keys, .int Re_pairCount])), (a_Mo_codes, .inl (cI, 126, .inl Mo_codes)), (a_Sp_rows, .inl (cI, 15876, .inl Sp_rows)), (a_Sp_basis, .inl (cI, 126, .inl Sp_basis)), (a_Re_codes, .inl (cI, 40, .inl Re_codes)), (a_Re_products, .inl (cI, 6400, .inl Re_products)), (a_Re_pairs, .inl (cI, 160, .inl Re_pairs)), (a_Re_keys, .inl (cL, 160, .inr (.inl Re_keys)))]
abbrev rm_multiply : Room := { frames := 4, cells := 0, slots := 0, locals := 108 }
abbrev g_multiply (X : gX) (D : va_G) (cI cL cZ : ClassId) (a_Mo a_Sp a_Re a_Mo_codes a_Sp_rows a_Sp_basis a_Re_codes a_Re_products a_Re_pairs a_Re_keys a_Mo_degrees a_Mo_keys a_Mo_raised a_Sp_leads a_Sp_kept a_Sp_work a_Re_bounds : Nat) (A : Nat → Prop) (Mo_variables Mo_order Mo_highest Mo_count Sp_prime Sp_limit Sp_keptCount Sp_basisCount Re_prime Re_variables Re_size : Int32) (Mo_codes Sp_rows Sp_basis Re_codes : Nat → Int32) (Re_pairCount_r : Int32) (Re_products_r Re_pairs_r : Nat → Int32) (Re_keys_r : Nat → Int64) (pc : Nat) (lv : List (Nat × Value)) (st : List Value) (Re_pairCount : Int32) (Re_products Re_pairs : Nat → Int32) (Re_keys : Nat → Int64) : Prop := ∀ (H : Heap) (locs : List Loc) (ls : Array Slot), va_P D classes (ws_multiply a_Mo a_Sp a_Re a_Mo_codes a_Sp_rows a_Sp_basis a_Re_codes a_Re_products a_Re_pairs a_Re_keys a_Mo_degrees a_Mo_keys a_Mo_raised a_Sp_leads a_Sp_kept a_Sp_work a_Re_bounds cI cL cZ Mo_variables Mo_order Mo_highest Mo_count Sp_prime Sp_limit Sp_keptCount Sp_basisCount Re_prime Re_variables Re_size Re_pairCount Mo_codes Sp_rows Sp_basis Re_codes Re_products Re_pairs Re_keys) H → va_D A (ws_multiply a_Mo a_Sp a_Re a_Mo_codes a_Sp_rows a_Sp_basis a_Re_codes a_Re_products a_Re_pairs a_Re_keys a_Mo_degrees a_Mo_keys a_Mo_raised a_Sp_leads a_Sp_kept a_Sp_work a_Re_bounds cI cL cZ Mo_variables Mo_order Mo_highest Mo_count Sp_prime Sp_limit Sp_keptCount Sp_basisCount Re_prime Re_variables Re_size Re_pairCount Mo_codes Sp_rows Sp_basis Re_codes Re_products Re_pairs Re_keys) → va_S A (gs X).heap H locs → lv_has ls 3 lv → gWW X rm_multiply H locs 0 0 (MQ (gbl X) (va_Qv (fun _ : Unit => True) (gB D (gT cI cL cZ) A (ws_multiply a_Mo a_Sp a_Re a_Mo_codes a_Sp_rows a_Sp_basis a_Re_codes a_Re_products a_Re_pairs a_Re_keys a_Mo_degrees a_Mo_keys a_Mo_raised a_Sp_leads a_Sp_kept a_Sp_work a_Re_bounds cI cL cZ Mo_variables Mo_order Mo_highest Mo_count Sp_prime Sp_limit Sp_keptCount Sp_basisCount Re_prime Re_variables Re_size Re_pairCount_r Mo_codes Sp_rows Sp_basis Re_codes Re_products_r Re_pairs_r Re_keys_r)) A) (ga X) (gs X) 0 0 A) (F0 (gm X) pc ls st)
set_option maxHeartbeats 4000000 in
set_option maxRecDepth 100000 in
theorem w_multiply_13 (X : gX) (D : va_G) (cI cL cZ : ClassId) (a_Mo a_Sp a_Re a_Mo_codes a_Sp_rows a_Sp_basis a_Re_codes a_Re_products a_Re_pairs a_Re_keys a_Mo_degrees a_Mo_keys a_Mo_raised a_Sp_leads a_Sp_kept a_Sp_work a_Re_bounds : Nat) (A : Nat → Prop) (Mo_variables Mo_order Mo_highest Mo_count Sp_prime Sp_limit Sp_keptCount Sp_basisCount Re_prime Re_variables Re_size : Int32) (Mo_codes Sp_rows Sp_basis Re_codes : Nat → Int32) (Re_pairCount_r : Int32) (Re_products_r Re_pairs_r : Nat → Int32) (Re_keys_r : Nat → Int64) (F : Nat) (C0 : gC X c_Re_multiplyb none 3 "RemnantDictionary$Remnant" gAll) (hK : va_K D classes (gT cI cL cZ) (gs X)) (hA : ∀ q : Nat, (gs X).heap.size ≤ q → A q) (hN : gN (gs X)) (k13 : Int32 → Int32 → (Nat → Int32) → (Nat → Int32) → (Nat → Int64) → Option (Int32 × (Nat → Int32) × (Nat → Int32) × (Nat → Int64))) (hk13 : ∀ (i2 Re_pairCount : Int32) (Re_products Re_pairs : Nat → Int32) (Re_keys : Nat → Int64), k13 i2 Re_pairCount Re_products Re_pairs Re_keys = some (Re_pairCount_r, Re_products_r, Re_pairs_r, Re_keys_r) → g_multiply X D cI cL cZ a_Mo a_Sp a_Re a_Mo_codes a_Sp_rows a_Sp_basis a_Re_codes a_Re_products a_Re_pairs a_Re_keys a_Mo_degrees a_Mo_keys a_Mo_raised a_Sp_leads a_Sp_kept a_Sp_work a_Re_bounds A Mo_variables Mo_order Mo_highest Mo_count Sp_prime Sp_limit Sp_keptCount Sp_basisCount Re_prime Re_variables Re_size Mo_codes Sp_rows Sp_basis Re_codes Re_pairCount_r Re_products_r Re_pairs_r Re_keys_r 13 [(0, .ref a_Re), (1, .ref a_Sp), (2, .int i2)] [] Re_pairCount Re_products Re_pairs Re_keys) (i2 Re_pairCount : Int32) (Re_products Re_pairs : Nat → Int32) (Re_keys : Nat → Int64) (hrun : s_multiply_13 F Mo_order Sp_basisCount Re_prime Re_size Re_variables Mo_codes Sp_rows Sp_basis Re_codes k13 i2 Re_pairCount Re_products Re_pairs Re_keys = some (Re_pairCount_r, Re_products_r, Re_pairs_r, Re_keys_r)) : g_multiply X D cI cL cZ a_Mo a_Sp a_Re a_Mo_codes a_Sp_rows a_Sp_basis a_Re_codes a_Re_products a_Re_pairs a_Re_keys a_Mo_degrees a_Mo_keys a_Mo_raised a_Sp_leads a_Sp_kept a_Sp_work a_Re_bounds A Mo_variables Mo_order Mo_highest Mo_count Sp_prime Sp_limit Sp_keptCount Sp_basisCount Re_prime Re_variables Re_size Mo_codes Sp_rows Sp_basis Re_codes Re_pairCount_r Re_products_r Re_pairs_r Re_keys_r 13 [(0, .ref a_Re), (1, .ref a_Sp), (2, .int i2)] [] Re_pairCount Re_products Re_pairs Re_keys := by
  have C1 := C0
  obtain ⟨hx, hb, hr, hml, hown, hts, hlocks⟩ := C1
  unfold s_multiply_13 at hrun
  intro H locs ls hP hD hS hl
  refine lv_iload_n hx hb d_Re_multiply_13 rfl (lv_at hl 2 rfl) ?_
  refine lv_aload_n hx hb d_Re_multiply_14 rfl (lv_at hl 0 rfl) ?_
  refine va_get (D := D) (ci := 3) (v := .int Re_pairCount) (C := "RemnantDictionary$Remnant") (T := T_Re) (N := 9) hx hb hts iw_Re hown hK hP 2 rfl rfl 8 (by decide) (hts _ k_175) (fun _ h9 => h9) rfl d_Re_multiply_15 ?_
  refine g_icmp_ge (tgt := 50) hx hb d_Re_multiply_18 (by decide) hrun (fun _ hrun => ?_) (fun _ hrun => ?_)
  · cases hrun
    exact W.vret hx hb hr (fun t ht hW => ⟨⟨(), rfl, trivial, gB_of ht hW.alike hP hK hD⟩, hS.F ht⟩) hS.2.2 d_Re_multiply_50
  · refine lv_aload_n hx hb d_Re_multiply_21 rfl (lv_at hl 0 rfl) ?_
    refine lv_aload_n hx hb d_Re_multiply_22 rfl (lv_at hl 1 rfl) ?_
    refine lv_aload_n hx hb d_Re_multiply_23 rfl (lv_at hl 0 rfl) ?_
    refine va_get (D := D) (ci := 3) (v := .ref a_Re_pairs) (C := "RemnantDictionary$Remnant") (T := T_Re) (N := 9) hx hb hts iw_Re hown hK hP 2 rfl rfl 6 (by decide) (hts _ k_174) (fun _ h9 => h9) rfl d_Re_multiply_24 ?_
    refine lv_iload_n hx hb d_Re_multiply_27 rfl (lv_at hl 2 rfl) ?_
    refine g_iald hx hb hK hP 8 0 rfl rfl hrun d_Re_multiply_28 (fun x_1 hrun => ?_)
    refine lv_bipush (v := 40) hx hb d_Re_multiply_29 (by decide) ?_
    refine g_idiv hx hb d_Re_multiply_31 hrun (fun hrun => ?_)
    refine lv_aload_n hx hb d_Re_multiply_32 rfl (lv_at hl 0 rfl) ?_
    refine va_get (D := D) (ci := 3) (v := .ref a_Re_pairs) (C := "RemnantDictionary$Remnant") (T := T_Re) (N := 9) hx hb hts iw_Re hown hK hP 2 rfl rfl 6 (by decide) (hts _ k_174) (fun _ h9 => h9) rfl d_Re_multiply_33 ?_
    refine lv_iload_n hx hb d_Re_multiply_36 rfl (lv_at hl 2 rfl) ?_
    refine g_iald hx hb hK hP 8 0 rfl rfl hrun d_Re_multiply_37 (fun x_2 hrun => ?_)
    refine lv_bipush (v := 40) hx hb d_Re_multiply_38 (by decide) ?_
    refine g_irem hx hb d_Re_multiply_40 hrun (fun hrun => ?_)
    obtain ⟨Re_products_3, hc, hrun⟩ := bd1_s hrun
    have hFc := va_free (wc := (ws_fillProduct a_Mo a_Sp a_Re a_Mo_codes a_Sp_rows a_Sp_basis a_Re_codes a_Re_products a_Mo_degrees a_Mo_keys a_Mo_raised a_Sp_leads a_Sp_kept a_Sp_work a_Re_bounds a_Re_pairs a_Re_keys cI cL cZ Mo_variables Mo_order Mo_highest Mo_count Sp_prime Sp_limit Sp_keptCount Sp_basisCount Re_prime Re_variables Re_size Re_pairCount Mo_codes Sp_rows Sp_basis Re_codes Re_products)) hD hS hA [0, 1, 2, 3, 4, 5, 6, 7] rfl
    refine va_callv (va_runV (As := [.ref a_Sp, .int (x_1 / 40), .int (remI x_2 40)]) (rest := []) ⟨hx, hb, hml, hown, hts⟩ (c_fillProduct (gl X) D cI cL cZ a_Mo a_Sp a_Re a_Mo_codes a_Sp_rows a_Sp_basis a_Re_codes a_Re_products a_Mo_degrees a_Mo_keys a_Mo_raised a_Sp_leads a_Sp_kept a_Sp_work a_Re_bounds a_Re_pairs a_Re_keys F Mo_variables Mo_order Mo_highest Mo_count Sp_prime Sp_limit Sp_keptCount Sp_basisCount Re_prime Re_variables Re_size Re_pairCount Mo_codes Sp_rows Sp_basis Re_codes Re_products (x_1 / 40) (remI x_2 40) H.size Re_products_3 hc) (cwV 3 hts (gwV k_208 k_206 k_207 k_157 k_205) rfl rfl rfl (by decide +kernel) ⟨Nat.le_of_ble_eq_true rfl, Nat.le_of_ble_eq_true rfl⟩) (gpreVW (hP.sub (ws' := (ws_fillProduct a_Mo a_Sp a_Re a_Mo_codes a_Sp_rows a_Sp_basis a_Re_codes a_Re_products a_Mo_degrees a_Mo_keys a_Mo_raised a_Sp_leads a_Sp_kept a_Sp_work a_Re_bounds a_Re_pairs a_Re_keys cI cL cZ Mo_variables Mo_order Mo_highest Mo_count Sp_prime Sp_limit Sp_keptCount Sp_basisCount Re_prime Re_variables Re_size Re_pairCount Mo_codes Sp_rows Sp_basis Re_codes Re_products)) [0, 1, 2, 3, 4, 5, 6, 7] rfl) hK hN (hD.sub (ws' := (ws_fillProduct a_Mo a_Sp a_Re a_Mo_codes a_Sp_rows a_Sp_basis a_Re_codes a_Re_products a_Mo_degrees a_Mo_keys a_Mo_raised a_Sp_leads a_Sp_kept a_Sp_work a_Re_bounds a_Re_pairs a_Re_keys cI cL cZ Mo_variables Mo_order Mo_highest Mo_count Sp_prime Sp_limit Sp_keptCount Sp_basisCount Re_prime Re_variables Re_size Re_pairCount Mo_codes Sp_rows Sp_basis Re_codes Re_products)) [0, 1, 2, 3, 4, 5, 6, 7] (by decide) rfl) 3 2 rfl rfl) rfl rfl hl.1 rfl (lv_room (Nat.le_of_ble_eq_true rfl)) d_Re_multiply_41 ⟨Nat.le_of_ble_eq_true rfl, Nat.le_of_ble_eq_true rfl⟩) hS (fun q _ h => hFc q h) hFc (fun _ t H_4 locs ht hvm hw hB hz1 hk1 hS => ?_)
    obtain ⟨hP, hD⟩ := va_join (wr := [(a_Re_pairs, .inl (cI, 160, .inl Re_pairs)), (a_Re_keys, .inl (cL, 160, .inr (.inl Re_keys)))]) (w1 := (ws_fillProduct a_Mo a_Sp a_Re a_Mo_codes a_Sp_rows a_Sp_basis a_Re_codes a_Re_products a_Mo_degrees a_Mo_keys a_Mo_raised a_Sp_leads a_Sp_kept a_Sp_work a_Re_bounds a_Re_pairs a_Re_keys cI cL cZ Mo_variables Mo_order Mo_highest Mo_count Sp_prime Sp_limit Sp_keptCount Sp_basisCount Re_prime Re_variables Re_size Re_pairCount Mo_codes Sp_rows Sp_basis Re_codes Re_products_3)) hP hD [0, 1, 2, 3, 4, 5, 6, 7] [8, 9] rfl rfl (by decide) (by decide) hk1 hFc (by have h9 := hB.1; rw [ht] at h9; exact h9) hB.2.2
    have hP : va_P D classes (ws_multiply a_Mo a_Sp a_Re a_Mo_codes a_Sp_rows a_Sp_basis a_Re_codes a_Re_products a_Re_pairs a_Re_keys a_Mo_degrees a_Mo_keys a_Mo_raised a_Sp_leads a_Sp_kept a_Sp_work a_Re_bounds cI cL cZ Mo_variables Mo_order Mo_highest Mo_count Sp_prime Sp_limit Sp_keptCount Sp_basisCount Re_prime Re_variables Re_size Re_pairCount Mo_codes Sp_rows Sp_basis Re_codes Re_products_3 Re_pairs Re_keys) H_4 := hP.sub [2, 3, 4, 5, 6, 7, 8, 9, 0, 1] rfl
    have hD : va_D A (ws_multiply a_Mo a_Sp a_Re a_Mo_codes a_Sp_rows a_Sp_basis a_Re_codes a_Re_products a_Re_pairs a_Re_keys a_Mo_degrees a_Mo_keys a_Mo_raised a_Sp_leads a_Sp_kept a_Sp_work a_Re_bounds cI cL cZ Mo_variables Mo_order Mo_highest Mo_count Sp_prime Sp_limit Sp_keptCount Sp_basisCount Re_prime Re_variables Re_size Re_pairCount Mo_codes Sp_rows Sp_basis Re_codes Re_products_3 Re_pairs Re_keys) := hD.sub [2, 3, 4, 5, 6, 7, 8, 9, 0, 1] (by decide) rfl
    refine lv_iinc (v := (i2 + 1)) (lv' := [(2, .int (i2 + 1)), (0, .ref a_Re), (1, .ref a_Sp)]) hx hb d_Re_multiply_44 hl (k := 2) rfl rfl (by decide) rfl (fun ls hl => ?_)
    refine lv_goto (tgt := 13) hx hb d_Re_multiply_47 (by decide) ?_
    exact hk13 (i2 + 1) Re_pairCount Re_products_3 Re_pairs Re_keys hrun H_4 locs ls hP hD hS (lv_sub hl [1, 2, 0] rfl)
theorem v_multiply_13 (X : gX) (D : va_G) (cI cL cZ : ClassId) (a_Mo a_Sp a_Re a_Mo_codes a_Sp_rows a_Sp_basis a_Re_codes a_Re_products a_Re_pairs a_Re_keys a_Mo_degrees a_Mo_keys a_Mo_raised a_Sp_leads a_Sp_kept a_Sp_work a_Re_bounds : Nat) (A : Nat → Prop) (Mo_variables Mo_order Mo_highest Mo_count Sp_prime Sp_limit Sp_keptCount Sp_basisCount Re_prime Re_variables Re_size : Int32) (Mo_codes Sp_rows Sp_basis Re_codes : Nat → Int32) (Re_pairCount_r : Int32) (Re_products_r Re_pairs_r : Nat → Int32) (Re_keys_r : Nat → Int64) (F : Nat) (C0 : gC X c_Re_multiplyb none 3 "RemnantDictionary$Remnant" gAll) (hK : va_K D classes (gT cI cL cZ) (gs X)) (hA : ∀ q : Nat, (gs X).heap.size ≤ q → A q) (hN : gN (gs X))  : ∀ (n : Nat) (i2 Re_pairCount : Int32) (Re_products Re_pairs : Nat → Int32) (Re_keys : Nat → Int64), b_multiply_13 F Mo_order Sp_basisCount Re_prime Re_size Re_variables Mo_codes Sp_rows Sp_basis Re_codes n i2 Re_pairCount Re_products Re_pairs Re_keys = some (Re_pairCount_r, Re_products_r, Re_pairs_r, Re_keys_r) → g_multiply X D cI cL cZ a_Mo a_Sp a_Re a_Mo_codes a_Sp_rows a_Sp_basis a_Re_codes a_Re_products a_Re_pairs a_Re_keys a_Mo_degrees a_Mo_keys a_Mo_raised a_Sp_leads a_Sp_kept a_Sp_work a_Re_bounds A Mo_variables Mo_order Mo_highest Mo_count Sp_prime Sp_limit Sp_keptCount Sp_basisCount Re_prime Re_variables Re_size Mo_codes Sp_rows Sp_basis Re_codes Re_pairCount_r Re_products_r Re_pairs_r Re_keys_r 13 [(0, .ref a_Re), (1, .ref a_Sp), (2, .int i2)] [] Re_pairCount Re_products Re_pairs Re_keys := by
  intro n
  induction n with
  | zero => intro i2 Re_pairCount Re_products Re_pairs Re_keys hrun; cases hrun
  | succ n ih =>
    intro i2 Re_pairCount Re_products Re_pairs Re_keys hrun
    exact w_multiply_13 X D cI cL cZ a_Mo a_Sp a_Re a_Mo_codes a_Sp_rows a_Sp_basis a_Re_codes a_Re_products a_Re_pairs a_Re_keys a_Mo_degrees a_Mo_keys a_Mo_raised a_Sp_leads a_Sp_kept a_Sp_work a_Re_bounds A Mo_variables Mo_order Mo_highest Mo_count Sp_prime Sp_limit Sp_keptCount Sp_basisCount Re_prime Re_variables Re_size Mo_codes Sp_rows Sp_basis Re_codes Re_pairCount_r Re_products_r Re_pairs_r Re_keys_r F C0 hK hA hN (b_multiply_13 F Mo_order Sp_basisCount Re_prime Re_size Re_variables Mo_codes Sp_rows Sp_basis Re_codes n) ih i2 Re_pairCount Re_products Re_pairs Re_keys hrun
set_option maxHeartbeats 4000000 in
set_option maxRecDepth 100000 in
theorem e_multiply (X : gX) (D : va_G) (cI cL cZ : ClassId) (a_Mo a_Sp a_Re a_Mo_codes a_Sp_rows a_Sp_basis a_Re_codes a_Re_products a_Re_pairs a_Re_keys a_Mo_degrees a_Mo_keys a_Mo_raised a_Sp_leads a_Sp_kept a_Sp_work a_Re_bounds : Nat) (A : Nat → Prop) (Mo_variables Mo_order Mo_highest Mo_count Sp_prime Sp_limit Sp_keptCount Sp_basisCount Re_prime Re_variables Re_size : Int32) (Mo_codes Sp_rows Sp_basis Re_codes : Nat → Int32) (Re_pairCount_r : Int32) (Re_products_r Re_pairs_r : Nat → Int32) (Re_keys_r : Nat → Int64) (F : Nat) (C0 : gC X c_Re_multiplyb none 3 "RemnantDictionary$Remnant" gAll) (hK : va_K D classes (gT cI cL cZ) (gs X)) (hA : ∀ q : Nat, (gs X).heap.size ≤ q → A q) (hN : gN (gs X)) (Re_pairCount : Int32) (Re_products Re_pairs : Nat → Int32) (Re_keys : Nat → Int64) (hrun : m_multiply F Mo_order Sp_basisCount Re_prime Re_size Re_variables Mo_codes Sp_rows Sp_basis Re_codes Re_pairCount Re_products Re_pairs Re_keys = some (Re_pairCount_r, Re_products_r, Re_pairs_r, Re_keys_r)) : g_multiply X D cI cL cZ a_Mo a_Sp a_Re a_Mo_codes a_Sp_rows a_Sp_basis a_Re_codes a_Re_products a_Re_pairs a_Re_keys a_Mo_degrees a_Mo_keys a_Mo_raised a_Sp_leads a_Sp_kept a_Sp_work a_Re_bounds A Mo_variables Mo_order Mo_highest Mo_count Sp_prime Sp_limit Sp_keptCount Sp_basisCount Re_prime Re_variables Re_size Mo_codes Sp_rows Sp_basis Re_codes Re_pairCount_r Re_products_r Re_pairs_r Re_keys_r 0 [(0, .ref a_Re), (1, .ref a_Sp)] [] Re_pairCount Re_products Re_pairs Re_keys := by
  have C1 := C0
  obtain ⟨hx, hb, hr, hml, hown, hts, hlocks⟩ := C1
  unfold m_multiply at hrun
  intro H locs ls hP hD hS hl
  refine lv_aload_n hx hb d_Re_multiply_0 rfl (lv_at hl 0 rfl) ?_
  refine lv_aload_n hx hb d_Re_multiply_1 rfl (lv_at hl 1 rfl) ?_
  refine va_get (D := D) (ci := 2) (v := .ref a_Mo) (C := "RemnantDictionary$Space") (T := T_Sp) (N := 10) hx hb hts iw_Sp hown hK hP 1 rfl rfl 0 (by decide) (hts _ k_153) (fun _ h9 => h9) rfl d_Re_multiply_2 ?_
  refine va_get (D := D) (ci := 1) (v := .int Mo_order) (C := "RemnantDictionary$Monomials") (T := T_Mo) (N := 8) hx hb hts iw_Mo hown hK hP 0 rfl rfl 1 (by decide) (hts _ k_154) (fun _ h9 => h9) rfl d_Re_multiply_5 ?_
  obtain ⟨Re_pairCount_1, Re_pairs_2, Re_keys_3, hc, hrun⟩ := bd3_s hrun
  have hFc := va_free (wc := (ws_sortPairs a_Re a_Re_codes a_Re_pairs a_Re_keys a_Re_products a_Re_bounds cI cL cZ Re_prime Re_variables Re_size Re_pairCount Re_codes Re_pairs Re_keys)) hD hS hA [2, 6, 8, 9] rfl
  refine va_callv (va_runV (As := [.int Mo_order]) (rest := []) ⟨hx, hb, hml, hown, hts⟩ (c_sortPairs (gl X) D cI cL cZ a_Re a_Re_codes a_Re_pairs a_Re_keys a_Re_products a_Re_bounds F Re_prime Re_variables Re_size Re_pairCount Re_codes Re_pairs Re_keys Mo_order H.size Re_pairCount_1 Re_pairs_2 Re_keys_3 hc) (cwV 1 hts (gwV k_212 k_210 k_211 k_157 k_180) rfl rfl rfl (by decide +kernel) ⟨Nat.le_of_ble_eq_true rfl, Nat.le_of_ble_eq_true rfl⟩) (gpreVW (hP.sub (ws' := (ws_sortPairs a_Re a_Re_codes a_Re_pairs a_Re_keys a_Re_products a_Re_bounds cI cL cZ Re_prime Re_variables Re_size Re_pairCount Re_codes Re_pairs Re_keys)) [2, 6, 8, 9] rfl) hK hN (hD.sub (ws' := (ws_sortPairs a_Re a_Re_codes a_Re_pairs a_Re_keys a_Re_products a_Re_bounds cI cL cZ Re_prime Re_variables Re_size Re_pairCount Re_codes Re_pairs Re_keys)) [2, 6, 8, 9] (by decide) rfl) 3 0 rfl rfl) rfl rfl hl.1 rfl (lv_room (Nat.le_of_ble_eq_true rfl)) d_Re_multiply_8 ⟨Nat.le_of_ble_eq_true rfl, Nat.le_of_ble_eq_true rfl⟩) hS (fun q _ h => hFc q h) hFc (fun _ t H_4 locs ht hvm hw hB hz1 hk1 hS => ?_)
  obtain ⟨hP, hD⟩ := va_join (wr := [(a_Mo, .inr (1, [.int Mo_variables, .int Mo_order, .int Mo_highest, .int Mo_count, .ref a_Mo_codes, .ref a_Mo_degrees, .ref a_Mo_keys, .ref a_Mo_raised])), (a_Sp, .inr (2, [.ref a_Mo, .int Sp_prime, .int Sp_limit, .ref a_Sp_rows, .ref a_Sp_leads, .ref a_Sp_kept, .int Sp_keptCount, .ref a_Sp_work, .ref a_Sp_basis, .int Sp_basisCount])), (a_Mo_codes, .inl (cI, 126, .inl Mo_codes)), (a_Sp_rows, .inl (cI, 15876, .inl Sp_rows)), (a_Sp_basis, .inl (cI, 126, .inl Sp_basis)), (a_Re_products, .inl (cI, 6400, .inl Re_products))]) (w1 := (ws_sortPairs a_Re a_Re_codes a_Re_pairs a_Re_keys a_Re_products a_Re_bounds cI cL cZ Re_prime Re_variables Re_size Re_pairCount_1 Re_codes Re_pairs_2 Re_keys_3)) hP hD [2, 6, 8, 9] [0, 1, 3, 4, 5, 7] rfl rfl (by decide) (by decide) hk1 hFc (by have h9 := hB.1; rw [ht] at h9; exact h9) hB.2.2
  have hP : va_P D classes (ws_multiply a_Mo a_Sp a_Re a_Mo_codes a_Sp_rows a_Sp_basis a_Re_codes a_Re_products a_Re_pairs a_Re_keys a_Mo_degrees a_Mo_keys a_Mo_raised a_Sp_leads a_Sp_kept a_Sp_work a_Re_bounds cI cL cZ Mo_variables Mo_order Mo_highest Mo_count Sp_prime Sp_limit Sp_keptCount Sp_basisCount Re_prime Re_variables Re_size Re_pairCount_1 Mo_codes Sp_rows Sp_basis Re_codes Re_products Re_pairs_2 Re_keys_3) H_4 := hP.sub [0, 1, 6, 2, 3, 4, 7, 5, 8, 9] rfl
  have hD : va_D A (ws_multiply a_Mo a_Sp a_Re a_Mo_codes a_Sp_rows a_Sp_basis a_Re_codes a_Re_products a_Re_pairs a_Re_keys a_Mo_degrees a_Mo_keys a_Mo_raised a_Sp_leads a_Sp_kept a_Sp_work a_Re_bounds cI cL cZ Mo_variables Mo_order Mo_highest Mo_count Sp_prime Sp_limit Sp_keptCount Sp_basisCount Re_prime Re_variables Re_size Re_pairCount_1 Mo_codes Sp_rows Sp_basis Re_codes Re_products Re_pairs_2 Re_keys_3) := hD.sub [0, 1, 6, 2, 3, 4, 7, 5, 8, 9] (by decide) rfl
  refine lv_iconst (v := 0) hx hb d_Re_multiply_11 (by decide) ?_
  refine lv_istore_n (lv' := [(2, .int 0), (0, .ref a_Re), (1, .ref a_Sp)]) hx hb d_Re_multiply_12 rfl hl (by decide) rfl (fun ls hl => ?_)
  exact v_multiply_13 X D cI cL cZ a_Mo a_Sp a_Re a_Mo_codes a_Sp_rows a_Sp_basis a_Re_codes a_Re_products a_Re_pairs a_Re_keys a_Mo_degrees a_Mo_keys a_Mo_raised a_Sp_leads a_Sp_kept a_Sp_work a_Re_bounds A Mo_variables Mo_order Mo_highest Mo_count Sp_prime Sp_limit Sp_keptCount Sp_basisCount Re_prime Re_variables Re_size Mo_codes Sp_rows Sp_basis Re_codes Re_pairCount_r Re_products_r Re_pairs_r Re_keys_r F C0 hK hA hN  F 0 Re_pairCount_1 Re_products Re_pairs_2 Re_keys_3 hrun H_4 locs ls hP hD hS (lv_sub hl [1, 2, 0] rfl)
set_option maxHeartbeats 4000000 in
set_option maxRecDepth 100000 in
theorem c_multiply (l : Launch) (D : va_G) (cI cL cZ : ClassId) (a_Mo a_Sp a_Re a_Mo_codes a_Sp_rows a_Sp_basis a_Re_codes a_Re_products a_Re_pairs a_Re_keys a_Mo_degrees a_Mo_keys a_Mo_raised a_Sp_leads a_Sp_kept a_Sp_work a_Re_bounds : Nat) (F : Nat) (Mo_variables Mo_order Mo_highest Mo_count Sp_prime Sp_limit Sp_keptCount Sp_basisCount Re_prime Re_variables Re_size Re_pairCount : Int32) (Mo_codes Sp_rows Sp_basis Re_codes Re_products Re_pairs : Nat → Int32) (Re_keys : Nat → Int64) (sz : Nat) (Re_pairCount_r : Int32) (Re_products_r Re_pairs_r : Nat → Int32) (Re_keys_r : Nat → Int64) (hrun : m_multiply F Mo_order Sp_basisCount Re_prime Re_size Re_variables Mo_codes Sp_rows Sp_basis Re_codes Re_pairCount Re_products Re_pairs Re_keys = some (Re_pairCount_r, Re_products_r, Re_pairs_r, Re_keys_r)) : Met l y_Re_multiply (.code y_Re_multiply c_Re_multiplyb 3 none :: gAll) rm_multiply (va_Pc [.ref a_Re, .ref a_Sp] (gPW D (gT cI cL cZ) (ws_multiply a_Mo a_Sp a_Re a_Mo_codes a_Sp_rows a_Sp_basis a_Re_codes a_Re_products a_Re_pairs a_Re_keys a_Mo_degrees a_Mo_keys a_Mo_raised a_Sp_leads a_Sp_kept a_Sp_work a_Re_bounds cI cL cZ Mo_variables Mo_order Mo_highest Mo_count Sp_prime Sp_limit Sp_keptCount Sp_basisCount Re_prime Re_variables Re_size Re_pairCount Mo_codes Sp_rows Sp_basis Re_codes Re_products Re_pairs Re_keys) sz)) (va_Qv (fun _ : Unit => True) (gB D (gT cI cL cZ) (va_A (ws_multiply a_Mo a_Sp a_Re a_Mo_codes a_Sp_rows a_Sp_basis a_Re_codes a_Re_products a_Re_pairs a_Re_keys a_Mo_degrees a_Mo_keys a_Mo_raised a_Sp_leads a_Sp_kept a_Sp_work a_Re_bounds cI cL cZ Mo_variables Mo_order Mo_highest Mo_count Sp_prime Sp_limit Sp_keptCount Sp_basisCount Re_prime Re_variables Re_size Re_pairCount Mo_codes Sp_rows Sp_basis Re_codes Re_products Re_pairs Re_keys) sz) (ws_multiply a_Mo a_Sp a_Re a_Mo_codes a_Sp_rows a_Sp_basis a_Re_codes a_Re_products a_Re_pairs a_Re_keys a_Mo_degrees a_Mo_keys a_Mo_raised a_Sp_leads a_Sp_kept a_Sp_work a_Re_bounds cI cL cZ Mo_variables Mo_order Mo_highest Mo_count Sp_prime Sp_limit Sp_keptCount Sp_basisCount Re_prime Re_variables Re_size Re_pairCount_r Mo_codes Sp_rows Sp_basis Re_codes Re_products_r Re_pairs_r Re_keys_r)) (va_A (ws_multiply a_Mo a_Sp a_Re a_Mo_codes a_Sp_rows a_Sp_basis a_Re_codes a_Re_products a_Re_pairs a_Re_keys a_Mo_degrees a_Mo_keys a_Mo_raised a_Sp_leads a_Sp_kept a_Sp_work a_Re_bounds cI cL cZ Mo_variables Mo_order Mo_highest Mo_count Sp_prime Sp_limit Sp_keptCount Sp_basisCount Re_prime Re_variables Re_size Re_pairCount Mo_codes Sp_rows Sp_basis Re_codes Re_products Re_pairs Re_keys) sz)) 0 0 (va_A (ws_multiply a_Mo a_Sp a_Re a_Mo_codes a_Sp_rows a_Sp_basis a_Re_codes a_Re_products a_Re_pairs a_Re_keys a_Mo_degrees a_Mo_keys a_Mo_raised a_Sp_leads a_Sp_kept a_Sp_work a_Re_bounds cI cL cZ Mo_variables Mo_order Mo_highest Mo_count Sp_prime Sp_limit Sp_keptCount Sp_basisCount Re_prime Re_variables Re_size Re_pairCount Mo_codes Sp_rows Sp_basis Re_codes Re_products Re_pairs Re_keys) sz) := by
  refine Met.ofW (cc := c_Re_multiplyb) (maxL := 3) (ret := none) (by decide +kernel) rfl ?_
  intro p e s m args below meth c s₁ B hml hv
  obtain ⟨rfl, hsz, hP, hK, hN, hD0⟩ := hv
  subst hsz
  have hD := hD0.self (sz := s.heap.size)
  have hl := lv_entry ([.ref a_Re, .ref a_Sp]) (n := 3) (Nat.le_of_ble_eq_true rfl)
  rw [lg_entry_eq]
  generalize (lg_sl ([.ref a_Re, .ref a_Sp]) ++ List.replicate (3 - (lg_sl ([.ref a_Re, .ref a_Sp])).length) Slot.unset).toArray = ls at hl ⊢
  exact e_multiply (p, l, e, s, m, ([.ref a_Re, .ref a_Sp] : List Value).toArray, below, meth, c) D cI cL cZ a_Mo a_Sp a_Re a_Mo_codes a_Sp_rows a_Sp_basis a_Re_codes a_Re_products a_Re_pairs a_Re_keys a_Mo_degrees a_Mo_keys a_Mo_raised a_Sp_leads a_Sp_kept a_Sp_work a_Re_bounds (va_A (ws_multiply a_Mo a_Sp a_Re a_Mo_codes a_Sp_rows a_Sp_basis a_Re_codes a_Re_products a_Re_pairs a_Re_keys a_Mo_degrees a_Mo_keys a_Mo_raised a_Sp_leads a_Sp_kept a_Sp_work a_Re_bounds cI cL cZ Mo_variables Mo_order Mo_highest Mo_count Sp_prime Sp_limit Sp_keptCount Sp_basisCount Re_prime Re_variables Re_size Re_pairCount Mo_codes Sp_rows Sp_basis Re_codes Re_products Re_pairs Re_keys) s.heap.size) Mo_variables Mo_order Mo_highest Mo_count Sp_prime Sp_limit Sp_keptCount Sp_basisCount Re_prime Re_variables Re_size Mo_codes Sp_rows Sp_basis Re_codes Re_pairCount_r Re_products_r Re_pairs_r Re_keys_r F ⟨B.exec, B.bytes, B.returns, hml, findClass_of_methodNamed B.named, fun w h => atoms_spec (ws := (.code y_Re_multiply c_Re_multiplyb 3 none :: gAll)) B.pre w (List.mem_cons_of_mem _ h), B.notSynchronized⟩ hK (fun q h => Or.inr h) hN Re_pairCount Re_products Re_pairs Re_keys hrun s.heap [] ls hP hD va_S.rf hl
