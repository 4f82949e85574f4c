theorem d_Sp_rankInBasis_0 : decode c_Sp_rankInBasisb 0 = .ok (.iconst 0, 1) := by decide +kernel
theorem d_Sp_rankInBasis_1 : decode c_Sp_rankInBasisb 1 = .ok (.istore_n 2, 1) := by decide +kernel
theorem d_Sp_rankInBasis_2 : decode c_Sp_rankInBasisb 2 = .ok (.iload_n 2, 1) := by decide +kernel
theorem d_Sp_rankInBasis_3 : decode c_Sp_rankInBasisb 3 = .ok (.aload_n 0, 1) := by decide +kernel
theorem d_Sp_rankInBasis_4 : decode c_Sp_rankInBasisb 4 = .ok (.getfield 42, 3) := by decide +kernel
theorem d_Sp_rankInBasis_7 : decode c_Sp_rankInBasisb 7 = .ok (.if_icmp .ge 34, 3) := by decide +kernel
theorem d_Sp_rankInBasis_10 : decode c_Sp_rankInBasisb 10 = .ok (.aload_n 0, 1) := by decide +kernel
theorem d_Sp_rankInBasis_11 : decode c_Sp_rankInBasisb 11 = .ok (.getfield 28, 3) := by decide +kernel
theorem d_Sp_rankInBasis_14 : decode c_Sp_rankInBasisb 14 = .ok (.getfield 97, 3) := by decide +kernel
theorem d_Sp_rankInBasis_17 : decode c_Sp_rankInBasisb 17 = .ok (.aload_n 0, 1) := by decide +kernel
theorem d_Sp_rankInBasis_18 : decode c_Sp_rankInBasisb 18 = .ok (.getfield 25, 3) := by decide +kernel
theorem d_Sp_rankInBasis_21 : decode c_Sp_rankInBasisb 21 = .ok (.iload_n 2, 1) := by decide +kernel
theorem d_Sp_rankInBasis_22 : decode c_Sp_rankInBasisb 22 = .ok (.iaload, 1) := by decide +kernel
theorem d_Sp_rankInBasis_23 : decode c_Sp_rankInBasisb 23 = .ok (.iaload, 1) := by decide +kernel
theorem d_Sp_rankInBasis_24 : decode c_Sp_rankInBasisb 24 = .ok (.iload_n 1, 1) := by decide +kernel
theorem d_Sp_rankInBasis_25 : decode c_Sp_rankInBasisb 25 = .ok (.if_icmp .ne 10, 3) := by decide +kernel
theorem d_Sp_rankInBasis_28 : decode c_Sp_rankInBasisb 28 = .ok (.aload_n 0, 1) := by decide +kernel
theorem d_Sp_rankInBasis_29 : decode c_Sp_rankInBasisb 29 = .ok (.getfield 25, 3) := by decide +kernel
theorem d_Sp_rankInBasis_32 : decode c_Sp_rankInBasisb 32 = .ok (.iload_n 2, 1) := by decide +kernel
theorem d_Sp_rankInBasis_33 : decode c_Sp_rankInBasisb 33 = .ok (.iaload, 1) := by decide +kernel
theorem d_Sp_rankInBasis_34 : decode c_Sp_rankInBasisb 34 = .ok (.ireturn, 1) := by decide +kernel
theorem d_Sp_rankInBasis_35 : decode c_Sp_rankInBasisb 35 = .ok (.iinc 2 1, 3) := by decide +kernel
theorem d_Sp_rankInBasis_38 : decode c_Sp_rankInBasisb 38 = .ok (.goto (-36), 3) := by decide +kernel
theorem d_Sp_rankInBasis_41 : decode c_Sp_rankInBasisb 41 = .ok (.iconst (-1), 1) := by decide +kernel
theorem d_Sp_rankInBasis_42 : decode c_Sp_rankInBasisb 42 = .ok (.ireturn, 1) := by decide +kernel
abbrev ws_rankInBasis (a_Mo a_Sp a_Mo_codes a_Sp_basis a_Mo_degrees a_Mo_keys a_Mo_raised a_Sp_rows a_Sp_leads a_Sp_kept a_Sp_work : Nat) (cI cL cZ : ClassId) (Mo_variables Mo_order Mo_highest Mo_count Sp_prime Sp_limit Sp_keptCount Sp_basisCount : Int32) (Mo_codes Sp_basis : Nat → Int32) : va_W := [(a_Mo, .inr (1, [.int Mo_variables, .int Mo_order, .int Mo_highest, .int Mo_count, .ref a_Mo_codes, .ref a_Mo_degrees, .ref a_Mo_keys, .ref a_Mo_raised])), (a_Sp, .inr (2, [.ref a_Mo, .int Sp_prime, .int Sp_limit, .ref a_Sp_rows, .ref a_Sp_leads, .ref a_Sp_kept, .int Sp_keptCount, .ref a_Sp_work, .ref a_Sp_basis, .int Sp_basisCount])), (a_Mo_codes, .inl (cI, 126, .inl Mo_codes)), (a_Sp_basis, .inl (cI, 126, .inl Sp_basis))]
abbrev rm_rankInBasis : Room := { frames := 0, cells := 0, slots := 0, locals := 0 }
abbrev g_rankInBasis (X : gX) (r_ : Int32) (pc : Nat) (lv : List (Nat × Value)) (st : List Value) : Prop := ∀ ls : Array Slot, lv_has ls 3 lv → gWW X rm_rankInBasis (gs X).heap [] 0 0 (MQ (gbl X) (vp_Si (fun r => r = r_)) (ga X) (gs X) 0 0 (fun _ => False)) (F0 (gm X) pc ls st)
set_option maxHeartbeats 4000000 in
set_option maxRecDepth 100000 in
theorem w_rankInBasis_2 (X : gX) (D : va_G) (cI cL cZ : ClassId) (a_Mo a_Sp a_Mo_codes a_Sp_basis a_Mo_degrees a_Mo_keys a_Mo_raised a_Sp_rows a_Sp_leads a_Sp_kept a_Sp_work : Nat) (F : Nat) (Mo_variables Mo_order Mo_highest Mo_count Sp_prime Sp_limit Sp_keptCount Sp_basisCount : Int32) (Mo_codes Sp_basis : Nat → Int32) (r_ : Int32) (C0 : gC X c_Sp_rankInBasisb (some .int) 3 "RemnantDictionary$Space" gAll) (hK : va_K D classes (gT cI cL cZ) (gs X)) (hP : va_P D classes (ws_rankInBasis a_Mo a_Sp a_Mo_codes a_Sp_basis a_Mo_degrees a_Mo_keys a_Mo_raised a_Sp_rows a_Sp_leads a_Sp_kept a_Sp_work cI cL cZ Mo_variables Mo_order Mo_highest Mo_count Sp_prime Sp_limit Sp_keptCount Sp_basisCount Mo_codes Sp_basis) (gs X).heap) (hN : gN (gs X)) (k2 : Int32 → Int32 → Option (Int32)) (hk2 : ∀ (i1 i2 : Int32), k2 i1 i2 = some r_ → g_rankInBasis X r_ 2 [(0, .ref a_Sp), (1, .int i1), (2, .int i2)] []) (i1 i2 : Int32) (hrun : s_rankInBasis_2 F Sp_basisCount Mo_codes Sp_basis k2 i1 i2 = some r_) : g_rankInBasis X r_ 2 [(0, .ref a_Sp), (1, .int i1), (2, .int i2)] [] := by
  have C1 := C0
  obtain ⟨hx, hb, hr, hml, hown, hts, hlocks⟩ := C1
  unfold s_rankInBasis_2 at hrun
  intro ls hl
  refine lv_iload_n hx hb d_Sp_rankInBasis_2 rfl (lv_at hl 2 rfl) ?_
  refine lv_aload_n hx hb d_Sp_rankInBasis_3 rfl (lv_at hl 0 rfl) ?_
  refine va_get (D := D) (ci := 2) (v := .int Sp_basisCount) (C := "RemnantDictionary$Space") (T := T_Sp) (N := 10) hx hb hts iw_Sp hown hK hP 1 rfl rfl 9 (by decide) (hts _ k_80) (fun _ h9 => h9) rfl d_Sp_rankInBasis_4 ?_
  refine g_icmp_ge (tgt := 41) hx hb d_Sp_rankInBasis_7 (by decide) hrun (fun _ hrun => ?_) (fun _ hrun => ?_)
  · refine lv_iconst (v := (-1)) hx hb d_Sp_rankInBasis_41 (by decide) ?_
    cases hrun
    exact W.iret hx hb hr (fun t ht hW => ⟨_, rfl, rfl, ht⟩) (fun q h => absurd h List.not_mem_nil) d_Sp_rankInBasis_42
  · refine lv_aload_n hx hb d_Sp_rankInBasis_10 rfl (lv_at hl 0 rfl) ?_
    refine va_get (D := D) (ci := 2) (v := .ref a_Mo) (C := "RemnantDictionary$Space") (T := T_Sp) (N := 10) hx hb hts iw_Sp hown hK hP 1 rfl rfl 0 (by decide) (hts _ k_94) (fun _ h9 => h9) rfl d_Sp_rankInBasis_11 ?_
    refine va_get (D := D) (ci := 1) (v := .ref a_Mo_codes) (C := "RemnantDictionary$Monomials") (T := T_Mo) (N := 8) hx hb hts iw_Mo hown hK hP 0 rfl rfl 4 (by decide) (hts _ k_117) (fun _ h9 => h9) rfl d_Sp_rankInBasis_14 ?_
    refine lv_aload_n hx hb d_Sp_rankInBasis_17 rfl (lv_at hl 0 rfl) ?_
    refine va_get (D := D) (ci := 2) (v := .ref a_Sp_basis) (C := "RemnantDictionary$Space") (T := T_Sp) (N := 10) hx hb hts iw_Sp hown hK hP 1 rfl rfl 8 (by decide) (hts _ k_118) (fun _ h9 => h9) rfl d_Sp_rankInBasis_18 ?_
    refine lv_iload_n hx hb d_Sp_rankInBasis_21 rfl (lv_at hl 2 rfl) ?_
    refine g_iald hx hb hK hP 3 0 rfl rfl hrun d_Sp_rankInBasis_22 (fun x_1 hrun => ?_)
    refine g_iald hx hb hK hP 2 0 rfl rfl hrun d_Sp_rankInBasis_23 (fun x_2 hrun => ?_)
    refine lv_iload_n hx hb d_Sp_rankInBasis_24 rfl (lv_at hl 1 rfl) ?_
    refine g_icmp_ne (tgt := 35) hx hb d_Sp_rankInBasis_25 (by decide) hrun (fun _ hrun => ?_) (fun _ hrun => ?_)
    · refine lv_iinc (v := (i2 + 1)) (lv' := [(2, .int (i2 + 1)), (0, .ref a_Sp), (1, .int i1)]) hx hb d_Sp_rankInBasis_35 hl (k := 2) rfl rfl (by decide) rfl (fun ls hl => ?_)
      refine lv_goto (tgt := 2) hx hb d_Sp_rankInBasis_38 (by decide) ?_
      exact hk2 i1 (i2 + 1) hrun ls (lv_sub hl [1, 2, 0] rfl)
    · refine lv_aload_n hx hb d_Sp_rankInBasis_28 rfl (lv_at hl 0 rfl) ?_
      refine va_get (D := D) (ci := 2) (v := .ref a_Sp_basis) (C := "RemnantDictionary$Space") (T := T_Sp) (N := 10) hx hb hts iw_Sp hown hK hP 1 rfl rfl 8 (by decide) (hts _ k_118) (fun _ h9 => h9) rfl d_Sp_rankInBasis_29 ?_
      refine lv_iload_n hx hb d_Sp_rankInBasis_32 rfl (lv_at hl 2 rfl) ?_
      refine g_iald hx hb hK hP 3 0 rfl rfl hrun d_Sp_rankInBasis_33 (fun x_3 hrun => ?_)
      cases hrun
      exact W.iret hx hb hr (fun t ht hW => ⟨_, rfl, rfl, ht⟩) (fun q h => absurd h List.not_mem_nil) d_Sp_rankInBasis_34
theorem v_rankInBasis_2 (X : gX) (D : va_G) (cI cL cZ : ClassId) (a_Mo a_Sp a_Mo_codes a_Sp_basis a_Mo_degrees a_Mo_keys a_Mo_raised a_Sp_rows a_Sp_leads a_Sp_kept a_Sp_work : Nat) (F : Nat) (Mo_variables Mo_order Mo_highest Mo_count Sp_prime Sp_limit Sp_keptCount Sp_basisCount : Int32) (Mo_codes Sp_basis : Nat → Int32) (r_ : Int32) (C0 : gC X c_Sp_rankInBasisb (some .int) 3 "RemnantDictionary$Space" gAll) (hK : va_K D classes (gT cI cL cZ) (gs X)) (hP : va_P D classes (ws_rankInBasis a_Mo a_Sp a_Mo_codes a_Sp_basis a_Mo_degrees a_Mo_keys a_Mo_raised a_Sp_rows a_Sp_leads a_Sp_kept a_Sp_work cI cL cZ Mo_variables Mo_order Mo_highest Mo_count Sp_prime Sp_limit Sp_keptCount Sp_basisCount Mo_codes Sp_basis) (gs X).heap) (hN : gN (gs X))  : ∀ (n : Nat) (i1 i2 : Int32), b_rankInBasis_2 F Sp_basisCount Mo_codes Sp_basis n i1 i2 = some r_ → g_rankInBasis X r_ 2 [(0, .ref a_Sp), (1, .int i1), (2, .int i2)] [] := by
  intro n
  induction n with
  | zero => intro i1 i2 hrun; cases hrun
  | succ n ih =>
    intro i1 i2 hrun
    exact w_rankInBasis_2 X D cI cL cZ a_Mo a_Sp a_Mo_codes a_Sp_basis a_Mo_degrees a_Mo_keys a_Mo_raised a_Sp_rows a_Sp_leads a_Sp_kept a_Sp_work F Mo_variables Mo_order Mo_highest Mo_count Sp_prime Sp_limit Sp_keptCount Sp_basisCount Mo_codes Sp_basis r_ C0 hK hP hN (b_rankInBasis_2 F Sp_basisCount Mo_codes Sp_basis n) ih i1 i2 hrun
set_option maxHeartbeats 4000000 in
set_option maxRecDepth 100000 in
theorem e_rankInBasis (X : gX) (D : va_G) (cI cL cZ : ClassId) (a_Mo a_Sp a_Mo_codes a_Sp_basis a_Mo_degrees a_Mo_keys a_Mo_raised a_Sp_rows a_Sp_leads a_Sp_kept a_Sp_work : Nat) (F : Nat) (Mo_variables Mo_order Mo_highest Mo_count Sp_prime Sp_limit Sp_keptCount Sp_basisCount : Int32) (Mo_codes Sp_basis : Nat → Int32) (r_ : Int32) (C0 : gC X c_Sp_rankInBasisb (some .int) 3 "RemnantDictionary$Space" gAll) (hK : va_K D classes (gT cI cL cZ) (gs X)) (hP : va_P D classes (ws_rankInBasis a_Mo a_Sp a_Mo_codes a_Sp_basis a_Mo_degrees a_Mo_keys a_Mo_raised a_Sp_rows a_Sp_leads a_Sp_kept a_Sp_work cI cL cZ Mo_variables Mo_order Mo_highest Mo_count Sp_prime Sp_limit Sp_keptCount Sp_basisCount Mo_codes Sp_basis) (gs X).heap) (hN : gN (gs X)) (i1 : Int32) (hrun : m_rankInBasis F Sp_basisCount Mo_codes Sp_basis i1 = some r_) : g_rankInBasis X r_ 0 [(0, .ref a_Sp), (1, .int i1)] [] := by
  have C1 := C0
  obtain ⟨hx, hb, hr, hml, hown, hts, hlocks⟩ := C1
  unfold m_rankInBasis at hrun
  intro ls hl
  refine lv_iconst (v := 0) hx hb d_Sp_rankInBasis_0 (by decide) ?_
  refine lv_istore_n (lv' := [(2, .int 0), (0, .ref a_Sp), (1, .int i1)]) hx hb d_Sp_rankInBasis_1 rfl hl (by decide) rfl (fun ls hl => ?_)
  exact v_rankInBasis_2 X D cI cL cZ a_Mo a_Sp a_Mo_codes a_Sp_basis a_Mo_degrees a_Mo_keys a_Mo_raised a_Sp_rows a_Sp_leads a_Sp_kept a_Sp_work F Mo_variables Mo_order Mo_highest Mo_count Sp_prime Sp_limit Sp_keptCount Sp_basisCount Mo_codes Sp_basis r_ C0 hK hP hN  F i1 0 hrun ls (lv_sub hl [1, 2, 0] rfl)
set_option maxHeartbeats 4000000 in
set_option maxRecDepth 100000 in
theorem c_rankInBasis (l : Launch) (D : va_G) (cI cL cZ : ClassId) (a_Mo a_Sp a_Mo_codes a_Sp_basis a_Mo_degrees a_Mo_keys a_Mo_raised a_Sp_rows a_Sp_leads a_Sp_kept a_Sp_work : Nat) (F : Nat) (Mo_variables Mo_order Mo_highest Mo_count Sp_prime Sp_limit Sp_keptCount Sp_basisCount : Int32) (Mo_codes Sp_basis : Nat → Int32) (i1 : Int32) (r_ : Int32) (hrun : m_rankInBasis F Sp_basisCount Mo_codes Sp_basis i1 = some r_) : Met l y_Sp_rankInBasis (.code y_Sp_rankInBasis c_Sp_rankInBasisb 3 (some .int) :: gAll) rm_rankInBasis (va_Pc [.ref a_Sp, .int i1] (gPR D (gT cI cL cZ) (ws_rankInBasis a_Mo a_Sp a_Mo_codes a_Sp_basis a_Mo_degrees a_Mo_keys a_Mo_raised a_Sp_rows a_Sp_leads a_Sp_kept a_Sp_work cI cL cZ Mo_variables Mo_order Mo_highest Mo_count Sp_prime Sp_limit Sp_keptCount Sp_basisCount Mo_codes Sp_basis))) (vp_Si (fun r => r = r_)) 0 0 (fun _ => False) := by
  refine Met.ofW (cc := c_Sp_rankInBasisb) (maxL := 3) (ret := (some .int)) (by decide +kernel) rfl ?_
  intro p e s m args below meth c s₁ B hml hv
  obtain ⟨rfl, hP, hK, hN⟩ := hv
  have hl := lv_entry ([.ref a_Sp, .int i1]) (n := 3) (Nat.le_of_ble_eq_true rfl)
  rw [lg_entry_eq]
  generalize (lg_sl ([.ref a_Sp, .int i1]) ++ List.replicate (3 - (lg_sl ([.ref a_Sp, .int i1])).length) Slot.unset).toArray = ls at hl ⊢
  exact e_rankInBasis (p, l, e, s, m, ([.ref a_Sp, .int i1] : List Value).toArray, below, meth, c) D cI cL cZ a_Mo a_Sp a_Mo_codes a_Sp_basis a_Mo_degrees a_Mo_keys a_Mo_raised a_Sp_rows a_Sp_leads a_Sp_kept a_Sp_work F Mo_variables Mo_order Mo_highest Mo_count Sp_prime Sp_limit Sp_keptCount Sp_basisCount Mo_codes Sp_basis r_ ⟨B.exec, B.bytes, B.returns, hml, findClass_of_methodNamed B.named, fun w h => atoms_spec (ws := (.code y_Sp_rankInBasis c_Sp_rankInBasisb 3 (some .int) :: gAll)) B.pre w (List.mem_cons_of_mem _ h), B.notSynchronized⟩ hK hP hN i1 hrun ls hl
theorem d_Sp_purePower_0 : decode c_Sp_purePowerb 0 = .ok (.iconst 0, 1) := by decide +kernel
theorem d_Sp_purePower_1 : decode c_Sp_purePowerb 1 = .ok (.istore_n 2, 1) := by decide +kernel
theorem d_Sp_purePower_2 : decode c_Sp_purePowerb 2 = .ok (.iload_n 2, 1) := by decide +kernel
theorem d_Sp_purePower_3 : decode c_Sp_purePowerb 3 = .ok (.aload_n 0, 1) := by decide +kernel
theorem d_Sp_purePower_4 : decode c_Sp_purePowerb 4 = .ok (.getfield 42, 3) := by decide +kernel
theorem d_Sp_purePower_7 : decode c_Sp_purePowerb 7 = .ok (.if_icmp .ge 41, 3) := by decide +kernel
theorem d_Sp_purePower_10 : decode c_Sp_purePowerb 10 = .ok (.aload_n 0, 1) := by decide +kernel
theorem d_Sp_purePower_11 : decode c_Sp_purePowerb 11 = .ok (.getfield 28, 3) := by decide +kernel
theorem d_Sp_purePower_14 : decode c_Sp_purePowerb 14 = .ok (.getfield 97, 3) := by decide +kernel
theorem d_Sp_purePower_17 : decode c_Sp_purePowerb 17 = .ok (.aload_n 0, 1) := by decide +kernel
theorem d_Sp_purePower_18 : decode c_Sp_purePowerb 18 = .ok (.getfield 25, 3) := by decide +kernel
theorem d_Sp_purePower_21 : decode c_Sp_purePowerb 21 = .ok (.iload_n 2, 1) := by decide +kernel
theorem d_Sp_purePower_22 : decode c_Sp_purePowerb 22 = .ok (.iaload, 1) := by decide +kernel
theorem d_Sp_purePower_23 : decode c_Sp_purePowerb 23 = .ok (.iaload, 1) := by decide +kernel
theorem d_Sp_purePower_24 : decode c_Sp_purePowerb 24 = .ok (.istore_n 3, 1) := by decide +kernel
theorem d_Sp_purePower_25 : decode c_Sp_purePowerb 25 = .ok (.iload_n 3, 1) := by decide +kernel
theorem d_Sp_purePower_26 : decode c_Sp_purePowerb 26 = .ok (.iload_n 1, 1) := by decide +kernel
theorem d_Sp_purePower_27 : decode c_Sp_purePowerb 27 = .ok (.invokestatic 114, 3) := by decide +kernel
theorem d_Sp_purePower_30 : decode c_Sp_purePowerb 30 = .ok (.iload_n 3, 1) := by decide +kernel
theorem d_Sp_purePower_31 : decode c_Sp_purePowerb 31 = .ok (.invokestatic 117, 3) := by decide +kernel
theorem d_Sp_purePower_34 : decode c_Sp_purePowerb 34 = .ok (.if_icmp .ne 8, 3) := by decide +kernel
theorem d_Sp_purePower_37 : decode c_Sp_purePowerb 37 = .ok (.iload_n 3, 1) := by decide +kernel
theorem d_Sp_purePower_38 : decode c_Sp_purePowerb 38 = .ok (.invokestatic 117, 3) := by decide +kernel
theorem d_Sp_purePower_41 : decode c_Sp_purePowerb 41 = .ok (.ireturn, 1) := by decide +kernel
theorem d_Sp_purePower_42 : decode c_Sp_purePowerb 42 = .ok (.iinc 2 1, 3) := by decide +kernel
theorem d_Sp_purePower_45 : decode c_Sp_purePowerb 45 = .ok (.goto (-43), 3) := by decide +kernel
theorem d_Sp_purePower_48 : decode c_Sp_purePowerb 48 = .ok (.iconst (-1), 1) := by decide +kernel
theorem d_Sp_purePower_49 : decode c_Sp_purePowerb 49 = .ok (.ireturn, 1) := by decide +kernel
abbrev ws_purePower (a_Mo a_Sp a_Mo_codes a_Sp_basis a_Mo_degrees a_Mo_keys a_Mo_raised a_Sp_rows a_Sp_leads a_Sp_kept a_Sp_work : Nat) (cI cL cZ : ClassId) (Mo_variables Mo_order Mo_highest Mo_count Sp_prime Sp_limit Sp_keptCount Sp_basisCount : Int32) (Mo_codes Sp_basis : Nat → Int32) : va_W := [(a_Mo, .inr (1, [.int Mo_variables, .int Mo_order, .int Mo_highest, .int Mo_count, .ref a_Mo_codes, .ref a_Mo_degrees, .ref a_Mo_keys, .ref a_Mo_raised])), (a_Sp, .inr (2, [.ref a_Mo, .int Sp_prime, .int Sp_limit, .ref a_Sp_rows, .ref a_Sp_leads, .ref a_Sp_kept, .int Sp_keptCount, .ref a_Sp_work, .ref a_Sp_basis, .int Sp_basisCount])), (a_Mo_codes, .inl (cI, 126, .inl Mo_codes)), (a_Sp_basis, .inl (cI, 126, .inl Sp_basis))]
abbrev rm_purePower : Room := { frames := 2, cells := 0, slots := 0, locals := 41 }
abbrev g_purePower (X : gX) (r_ : Int32) (pc : Nat) (lv : List (Nat × Value)) (st : List Value) : Prop := ∀ ls : Array Slot, lv_has ls 4 lv → gWW X rm_purePower (gs X).heap [] 0 0 (MQ (gbl X) (vp_Si (fun r => r = r_)) (ga X) (gs X) 0 0 (fun _ => False)) (F0 (gm X) pc ls st)
set_option maxHeartbeats 4000000 in
set_option maxRecDepth 100000 in
theorem w_purePower_2 (X : gX) (D : va_G) (cI cL cZ : ClassId) (a_Mo a_Sp a_Mo_codes a_Sp_basis a_Mo_degrees a_Mo_keys a_Mo_raised a_Sp_rows a_Sp_leads a_Sp_kept a_Sp_work : Nat) (F : Nat) (Mo_variables Mo_order Mo_highest Mo_count Sp_prime Sp_limit Sp_keptCount Sp_basisCount : Int32) (Mo_codes Sp_basis : Nat → Int32) (r_ : Int32) (C0 : gC X c_Sp_purePowerb (some .int) 4 "RemnantDictionary$Space" gAll) (hK : va_K D classes (gT cI cL cZ) (gs X)) (hP : va_P D classes (ws_purePower a_Mo a_Sp a_Mo_codes a_Sp_basis a_Mo_degrees a_Mo_keys a_Mo_raised a_Sp_rows a_Sp_leads a_Sp_kept a_Sp_work cI cL cZ Mo_variables Mo_order Mo_highest Mo_count Sp_prime Sp_limit Sp_keptCount Sp_basisCount Mo_codes Sp_basis) (gs X).heap) (hN : gN (gs X)) (k2 : Int32 → Int32 → Option (Int32)) (hk2 : ∀ (i1 i2 : Int32), k2 i1 i2 = some r_ → g_purePower X r_ 2 [(0, .ref a_Sp), (1, .int i1), (2, .int i2)] []) (i1 i2 : Int32) (hrun : s_purePower_2 F Sp_basisCount Mo_codes Sp_basis k2 i1 i2 = some r_) : g_purePower X r_ 2 [(0, .ref a_Sp), (1, .int i1), (2, .int i2)] [] := by
  have C1 := C0
  obtain ⟨hx, hb, hr, hml, hown, hts, hlocks⟩ := C1
  unfold s_purePower_2 at hrun
  intro ls hl
  refine lv_iload_n hx hb d_Sp_purePower_2 rfl (lv_at hl 2 rfl) ?_
  refine lv_aload_n hx hb d_Sp_purePower_3 rfl (lv_at hl 0 rfl) ?_
  refine va_get (D := D) (ci := 2) (v := .int Sp_basisCount) (C := "RemnantDictionary$Space") (T := T_Sp) (N := 10) hx hb hts iw_Sp hown hK hP 1 rfl rfl 9 (by decide) (hts _ k_80) (fun _ h9 => h9) rfl d_Sp_purePower_4 ?_
  refine g_icmp_ge (tgt := 48) hx hb d_Sp_purePower_7 (by decide) hrun (fun _ hrun => ?_) (fun _ hrun => ?_)
  · refine lv_iconst (v := (-1)) hx hb d_Sp_purePower_48 (by decide) ?_
    cases hrun
    exact W.iret hx hb hr (fun t ht hW => ⟨_, rfl, rfl, ht⟩) (fun q h => absurd h List.not_mem_nil) d_Sp_purePower_49
  · refine lv_aload_n hx hb d_Sp_purePower_10 rfl (lv_at hl 0 rfl) ?_
    refine va_get (D := D) (ci := 2) (v := .ref a_Mo) (C := "RemnantDictionary$Space") (T := T_Sp) (N := 10) hx hb hts iw_Sp hown hK hP 1 rfl rfl 0 (by decide) (hts _ k_94) (fun _ h9 => h9) rfl d_Sp_purePower_11 ?_
    refine va_get (D := D) (ci := 1) (v := .ref a_Mo_codes) (C := "RemnantDictionary$Monomials") (T := T_Mo) (N := 8) hx hb hts iw_Mo hown hK hP 0 rfl rfl 4 (by decide) (hts _ k_117) (fun _ h9 => h9) rfl d_Sp_purePower_14 ?_
    refine lv_aload_n hx hb d_Sp_purePower_17 rfl (lv_at hl 0 rfl) ?_
    refine va_get (D := D) (ci := 2) (v := .ref a_Sp_basis) (C := "RemnantDictionary$Space") (T := T_Sp) (N := 10) hx hb hts iw_Sp hown hK hP 1 rfl rfl 8 (by decide) (hts _ k_118) (fun _ h9 => h9) rfl d_Sp_purePower_18 ?_
    refine lv_iload_n hx hb d_Sp_purePower_21 rfl (lv_at hl 2 rfl) ?_
    refine g_iald hx hb hK hP 3 0 rfl rfl hrun d_Sp_purePower_22 (fun x_1 hrun => ?_)
    refine g_iald hx hb hK hP 2 0 rfl rfl hrun d_Sp_purePower_23 (fun x_2 hrun => ?_)
    refine lv_istore_n (lv' := [(3, .int x_2), (0, .ref a_Sp), (1, .int i1), (2, .int i2)]) hx hb d_Sp_purePower_24 rfl hl (by decide) rfl (fun ls hl => ?_)
    refine lv_iload_n hx hb d_Sp_purePower_25 rfl (lv_at hl 0 rfl) ?_
    refine lv_iload_n hx hb d_Sp_purePower_26 rfl (lv_at hl 2 rfl) ?_
    obtain ⟨r_3, hc, hrun⟩ := bd1_s hrun
    refine vp_callSi (g_ofRun (va_runSN (As := [.int x_2, .int i1]) (rest := []) ⟨hx, hb, hml, hown, hts⟩ (c_exponent (gl X) F x_2 i1 r_3 hc) (⟨va_cnB 2 hts (gwN k_12) rfl rfl rfl (hN.1 _ (List.mem_of_getElem? (i := 7) rfl)) (hts _ k_14) (by decide +kernel) ⟨Nat.le_of_ble_eq_true rfl, Nat.le_of_ble_eq_true rfl⟩, hts _ k_13, trivial⟩) (gpreS0 hN) rfl rfl hl.1 rfl (lv_room (Nat.le_of_ble_eq_true rfl)) d_Sp_purePower_27 ⟨Nat.le_of_ble_eq_true rfl, Nat.le_of_ble_eq_true rfl⟩)) (nm_e ?_)
    refine lv_iload_n hx hb d_Sp_purePower_30 rfl (lv_at hl 0 rfl) ?_
    obtain ⟨r_4, hc, hrun⟩ := bd1_s hrun
    refine vp_callSi (g_ofRun (va_runSN (As := [.int x_2]) (rest := [.int r_3]) ⟨hx, hb, hml, hown, hts⟩ (c_degree (gl X) F x_2 r_4 hc) (⟨va_cnB 1 hts (gwN k_16) rfl rfl rfl (hN.1 _ (List.mem_of_getElem? (i := 8) rfl)) (hts _ k_14) (by decide +kernel) ⟨Nat.le_of_ble_eq_true rfl, Nat.le_of_ble_eq_true rfl⟩, hts _ k_25, trivial⟩) (gpreS0 hN) rfl rfl hl.1 rfl (lv_room (Nat.le_of_ble_eq_true rfl)) d_Sp_purePower_31 ⟨Nat.le_of_ble_eq_true rfl, Nat.le_of_ble_eq_true rfl⟩)) (nm_e ?_)
    refine g_icmp_ne (tgt := 42) hx hb d_Sp_purePower_34 (by decide) hrun (fun _ hrun => ?_) (fun _ hrun => ?_)
    · refine lv_iinc (v := (i2 + 1)) (lv' := [(2, .int (i2 + 1)), (3, .int x_2), (0, .ref a_Sp), (1, .int i1)]) hx hb d_Sp_purePower_42 hl (k := 3) rfl rfl (by decide) rfl (fun ls hl => ?_)
      refine lv_goto (tgt := 2) hx hb d_Sp_purePower_45 (by decide) ?_
      exact hk2 i1 (i2 + 1) hrun ls (lv_sub hl [2, 3, 0] rfl)
    · refine lv_iload_n hx hb d_Sp_purePower_37 rfl (lv_at hl 0 rfl) ?_
      obtain ⟨r_5, hc, hrun⟩ := bd1_s hrun
      refine vp_callSi (g_ofRun (va_runSN (As := [.int x_2]) (rest := []) ⟨hx, hb, hml, hown, hts⟩ (c_degree (gl X) F x_2 r_5 hc) (⟨va_cnB 1 hts (gwN k_16) rfl rfl rfl (hN.1 _ (List.mem_of_getElem? (i := 8) rfl)) (hts _ k_14) (by decide +kernel) ⟨Nat.le_of_ble_eq_true rfl, Nat.le_of_ble_eq_true rfl⟩, hts _ k_25, trivial⟩) (gpreS0 hN) rfl rfl hl.1 rfl (lv_room (Nat.le_of_ble_eq_true rfl)) d_Sp_purePower_38 ⟨Nat.le_of_ble_eq_true rfl, Nat.le_of_ble_eq_true rfl⟩)) (nm_e ?_)
      cases hrun
      exact W.iret hx hb hr (fun t ht hW => ⟨_, rfl, rfl, ht⟩) (fun q h => absurd h List.not_mem_nil) d_Sp_purePower_41
theorem v_purePower_2 (X : gX) (D : va_G) (cI cL cZ : ClassId) (a_Mo a_Sp a_Mo_codes a_Sp_basis a_Mo_degrees a_Mo_keys a_Mo_raised a_Sp_rows a_Sp_leads a_Sp_kept a_Sp_work : Nat) (F : Nat) (Mo_variables Mo_order Mo_highest Mo_count Sp_prime Sp_limit Sp_keptCount Sp_basisCount : Int32) (Mo_codes Sp_basis : Nat → Int32) (r_ : Int32) (C0 : gC X c_Sp_purePowerb (some .int) 4 "RemnantDictionary$Space" gAll) (hK : va_K D classes (gT cI cL cZ) (gs X)) (hP : va_P D classes (ws_purePower a_Mo a_Sp a_Mo_codes a_Sp_basis a_Mo_degrees a_Mo_keys a_Mo_raised a_Sp_rows a_Sp_leads a_Sp_kept a_Sp_work cI cL cZ Mo_variables Mo_order Mo_highest Mo_count Sp_prime Sp_limit Sp_keptCount Sp_basisCount Mo_codes Sp_basis) (gs X).heap) (hN : gN (gs X))  : ∀ (n : Nat) (i1 i2 : Int32), b_purePower_2 F Sp_basisCount Mo_codes Sp_basis n i1 i2 = some r_ → g_purePower X r_ 2 [(0, .ref a_Sp), (1, .int i1), (2, .int i2)] [] := by
  intro n
  induction n with
  | zero => intro i1 i2 hrun; cases hrun
  | succ n ih =>
    intro i1 i2 hrun
    exact w_purePower_2 X D cI cL cZ a_Mo a_Sp a_Mo_codes a_Sp_basis a_Mo_degrees a_Mo_keys a_Mo_raised a_Sp_rows a_Sp_leads a_Sp_kept a_Sp_work F Mo_variables Mo_order Mo_highest Mo_count Sp_prime Sp_limit Sp_keptCount Sp_basisCount Mo_codes Sp_basis r_ C0 hK hP hN (b_purePower_2 F Sp_basisCount Mo_codes Sp_basis n) ih i1 i2 hrun
set_option maxHeartbeats 4000000 in
set_option maxRecDepth 100000 in
theorem e_purePower (X : gX) (D : va_G) (cI cL cZ : ClassId) (a_Mo a_Sp a_Mo_codes a_Sp_basis a_Mo_degrees a_Mo_keys a_Mo_raised a_Sp_rows a_Sp_leads a_Sp_kept a_Sp_work : Nat) (F : Nat) (Mo_variables Mo_order Mo_highest Mo_count Sp_prime Sp_limit Sp_keptCount Sp_basisCount : Int32) (Mo_codes Sp_basis : Nat → Int32) (r_ : Int32) (C0 : gC X c_Sp_purePowerb (some .int) 4 "RemnantDictionary$Space" gAll) (hK : va_K D classes (gT cI cL cZ) (gs X)) (hP : va_P D classes (ws_purePower a_Mo a_Sp a_Mo_codes a_Sp_basis a_Mo_degrees a_Mo_keys a_Mo_raised a_Sp_rows a_Sp_leads a_Sp_kept a_Sp_work cI cL cZ Mo_variables Mo_order Mo_highest Mo_count Sp_prime Sp_limit Sp_keptCount Sp_basisCount Mo_codes Sp_basis) (gs X).heap) (hN : gN (gs X)) (i1 : Int32) (hrun : m_purePower F Sp_basisCount Mo_codes Sp_basis i1 = some r_) : g_purePower X r_ 0 [(0, .ref a_Sp), (1, .int i1)] [] := by
  have C1 := C0
  obtain ⟨hx, hb, hr, hml, hown, hts, hlocks⟩ := C1
  unfold m_purePower at hrun
  intro ls hl
  refine lv_iconst (v := 0) hx hb d_Sp_purePower_0 (by decide) ?_
  refine lv_istore_n (lv' := [(2, .int 0), (0, .ref a_Sp), (1, .int i1)]) hx hb d_Sp_purePower_1 rfl hl (by decide) rfl (fun ls hl => ?_)
  exact v_purePower_2 X D cI cL cZ a_Mo a_Sp a_Mo_codes a_Sp_basis a_Mo_degrees a_Mo_keys a_Mo_raised a_Sp_rows a_Sp_leads a_Sp_kept a_Sp_work F Mo_variables Mo_order Mo_highest Mo_count Sp_prime Sp_limit Sp_keptCount Sp_basisCount Mo_codes Sp_basis r_ C0 hK hP hN  F i1 0 hrun ls (lv_sub hl [1, 2, 0] rfl)
set_option maxHeartbeats 4000000 in
set_option maxRecDepth 100000 in
theorem c_purePower (l : Launch) (D : va_G) (cI cL cZ : ClassId) (a_Mo a_Sp a_Mo_codes a_Sp_basis a_Mo_degrees a_Mo_keys a_Mo_raised a_Sp_rows a_Sp_leads a_Sp_kept a_Sp_work : Nat) (F : Nat) (Mo_variables Mo_order Mo_highest Mo_count Sp_prime Sp_limit Sp_keptCount Sp_basisCount : Int32) (Mo_codes Sp_basis : Nat → Int32) (i1 : Int32) (r_ : Int32) (hrun : m_purePower F Sp_basisCount Mo_codes Sp_basis i1 = some r_) : Met l y_Sp_purePower (.code y_Sp_purePower c_Sp_purePowerb 4 (some .int) :: gAll) rm_purePower (va_Pc [.ref a_Sp, .int i1] (gPR D (gT cI cL cZ) (ws_purePower a_Mo a_Sp a_Mo_codes a_Sp_basis a_Mo_degrees a_Mo_keys a_Mo_raised a_Sp_rows a_Sp_leads a_Sp_kept a_Sp_work cI cL cZ Mo_variables Mo_order Mo_highest Mo_count Sp_prime Sp_limit Sp_keptCount Sp_basisCount Mo_codes Sp_basis))) (vp_Si (fun r => r = r_)) 0 0 (fun _ => False) := by
  refine Met.ofW (cc := c_Sp_purePowerb) (maxL := 4) (ret := (some .int)) (by decide +kernel) rfl ?_
  intro p e s m args below meth c s₁ B hml hv
  obtain ⟨rfl, hP, hK, hN⟩ := hv
  have hl := lv_entry ([.ref a_Sp, .int i1]) (n := 4) (Nat.le_of_ble_eq_true rfl)
  rw [lg_entry_eq]
  generalize (lg_sl ([.ref a_Sp, .int i1]) ++ List.replicate (4 - (lg_sl ([.ref a_Sp, .int i1])).length) Slot.unset).toArray = ls at hl ⊢
  exact e_purePower (p, l, e, s, m, ([.ref a_Sp, .int i1] : List Value).toArray, below, meth, c) D cI cL cZ a_Mo a_Sp a_Mo_codes a_Sp_basis a_Mo_degrees a_Mo_keys a_Mo_raised a_Sp_rows a_Sp_leads a_Sp_kept a_Sp_work F Mo_variables Mo_order Mo_highest Mo_count Sp_prime Sp_limit Sp_keptCount Sp_basisCount Mo_codes Sp_basis r_ ⟨B.exec, B.bytes, B.returns, hml, findClass_of_methodNamed B.named, fun w h => atoms_spec (ws := (.code y_Sp_purePower c_Sp_purePowerb 4 (some .int) :: gAll)) B.pre w (List.mem_cons_of_mem _ h), B.notSynchronized⟩ hK hP hN i1 hrun ls hl
theorem d_Re_forget_0 : decode c_Re_forgetb 0 = .ok (.aload_n 0, 1) := by decide +kernel
theorem d_Re_forget_1 : decode c_Re_forgetb 1 = .ok (.iconst 0, 1) := by decide +kernel
theorem d_Re_forget_2 : decode c_Re_forgetb 2 = .ok (.putfield 28, 3) := by decide +kernel
theorem d_Re_forget_5 : decode c_Re_forgetb 5 = .ok (.return_, 1) := by decide +kernel
abbrev ws_reForget (a_Re a_Re_codes a_Re_products a_Re_bounds a_Re_pairs a_Re_keys : Nat) (cI cL cZ : ClassId) (Re_prime Re_variables Re_size Re_pairCount : Int32) : va_W := [(a_Re, .inr (3, [.int Re_prime, .int Re_variables, .int Re_size, .ref a_Re_codes, .ref a_Re_products, .ref a_Re_bounds, .ref a_Re_pairs, .ref a_Re_keys, .int Re_pairCount]))]
abbrev rm_reForget : Room := { frames := 0, cells := 0, slots := 0, locals := 0 }
abbrev g_reForget (X : gX) (D : va_G) (cI cL cZ : ClassId) (a_Re a_Re_codes a_Re_products a_Re_bounds a_Re_pairs a_Re_keys : Nat) (A : Nat → Prop) (Re_prime Re_variables Re_pairCount Re_size_r : Int32) (pc : Nat) (lv : List (Nat × Value)) (st : List Value) (Re_size : Int32) : Prop := ∀ (H : Heap) (locs : List Loc) (ls : Array Slot), va_P D classes (ws_reForget a_Re a_Re_codes a_Re_products a_Re_bounds a_Re_pairs a_Re_keys cI cL cZ Re_prime Re_variables Re_size Re_pairCount) H → va_D A (ws_reForget a_Re a_Re_codes a_Re_products a_Re_bounds a_Re_pairs a_Re_keys cI cL cZ Re_prime Re_variables Re_size Re_pairCount) → va_S A (gs X).heap H locs → lv_has ls 1 lv → gWW X rm_reForget H locs 0 0 (MQ (gbl X) (va_Qv (fun _ : Unit => True) (gB D (gT cI cL cZ) A (ws_reForget a_Re a_Re_codes a_Re_products a_Re_bounds a_Re_pairs a_Re_keys cI cL cZ Re_prime Re_variables Re_size_r Re_pairCount)) A) (ga X) (gs X) 0 0 A) (F0 (gm X) pc ls st)
set_option maxHeartbeats 4000000 in
set_option maxRecDepth 100000 in
theorem e_reForget (X : gX) (D : va_G) (cI cL cZ : ClassId) (a_Re a_Re_codes a_Re_products a_Re_bounds a_Re_pairs a_Re_keys : Nat) (A : Nat → Prop) (Re_prime Re_variables Re_pairCount Re_size_r : Int32) (F : Nat) (C0 : gC X c_Re_forgetb none 1 "RemnantDictionary$Remnant" gAll) (hK : va_K D classes (gT cI cL cZ) (gs X)) (hA : ∀ q : Nat, (gs X).heap.size ≤ q → A q) (hN : gN (gs X)) (Re_size : Int32) (hrun : m_reForget F Re_size = some Re_size_r) : g_reForget X D cI cL cZ a_Re a_Re_codes a_Re_products a_Re_bounds a_Re_pairs a_Re_keys A Re_prime Re_variables Re_pairCount Re_size_r 0 [(0, .ref a_Re)] [] Re_size := by
  have C1 := C0
  obtain ⟨hx, hb, hr, hml, hown, hts, hlocks⟩ := C1
  unfold m_reForget at hrun
  intro H locs ls hP hD hS hl
  refine lv_aload_n hx hb d_Re_forget_0 rfl (lv_at hl 0 rfl) ?_
  refine lv_iconst (v := 0) hx hb d_Re_forget_1 (by decide) ?_
  refine va_put (D := D) (ci := 3) (v := .int 0) (ty := .int) (C := "RemnantDictionary$Remnant") (T := T_Re) (N := 9) hx hb hts iw_Re ty_Re ty_Re_ok nm_Re hown hK hP hD hS 0 rfl rfl 2 (by decide) (hts _ k_142) (fun _ h9 => h9) rfl (by decide +kernel) rfl rfl (Nat.le_of_ble_eq_true rfl) d_Re_forget_2 (fun H locs (hP : va_P D classes (ws_reForget a_Re a_Re_codes a_Re_products a_Re_bounds a_Re_pairs a_Re_keys cI cL cZ Re_prime Re_variables 0 Re_pairCount) H) (hD : va_D A (ws_reForget a_Re a_Re_codes a_Re_products a_Re_bounds a_Re_pairs a_Re_keys cI cL cZ Re_prime Re_variables 0 Re_pairCount)) hS => ?_)
  cases hrun
  exact W.vret hx hb hr (fun t ht hW => ⟨⟨(), rfl, trivial, gB_of ht hW.alike hP hK hD⟩, hS.F ht⟩) hS.2.2 d_Re_forget_5
set_option maxHeartbeats 4000000 in
set_option maxRecDepth 100000 in
theorem c_reForget (l : Launch) (D : va_G) (cI cL cZ : ClassId) (a_Re a_Re_codes a_Re_products a_Re_bounds a_Re_pairs a_Re_keys : Nat) (F : Nat) (Re_prime Re_variables Re_size Re_pairCount : Int32) (sz : Nat) (Re_size_r : Int32) (hrun : m_reForget F Re_size = some Re_size_r) : Met l y_Re_forget (.code y_Re_forget c_Re_forgetb 1 none :: gAll) rm_reForget (va_Pc [.ref a_Re] (gPW D (gT cI cL cZ) (ws_reForget a_Re a_Re_codes a_Re_products a_Re_bounds a_Re_pairs a_Re_keys cI cL cZ Re_prime Re_variables Re_size Re_pairCount) sz)) (va_Qv (fun _ : Unit => True) (gB D (gT cI cL cZ) (va_A (ws_reForget a_Re a_Re_codes a_Re_products a_Re_bounds a_Re_pairs a_Re_keys cI cL cZ Re_prime Re_variables Re_size Re_pairCount) sz) (ws_reForget a_Re a_Re_codes a_Re_products a_Re_bounds a_Re_pairs a_Re_keys cI cL cZ Re_prime Re_variables Re_size_r Re_pairCount)) (va_A (ws_reForget a_Re a_Re_codes a_Re_products a_Re_bounds a_Re_pairs a_Re_keys cI cL cZ Re_prime Re_variables Re_size Re_pairCount) sz)) 0 0 (va_A (ws_reForget a_Re a_Re_codes a_Re_products a_Re_bounds a_Re_pairs a_Re_keys cI cL cZ Re_prime Re_variables Re_size Re_pairCount) sz) := by
  refine Met.ofW (cc := c_Re_forgetb) (maxL := 1) (ret := none) (by decide +kernel) rfl ?_
  intro p e s m args below meth c s₁ B hml hv
  obtain ⟨rfl, hsz, hP, hK, hN, hD0⟩ := hv
  subst hsz
  have hD := hD0.self (sz := s.heap.size)
  have hl := lv_entry ([.ref a_Re]) (n := 1) (Nat.le_of_ble_eq_true rfl)
  rw [lg_entry_eq]
  generalize (lg_sl ([.ref a_Re]) ++ List.replicate (1 - (lg_sl ([.ref a_Re])).length) Slot.unset).toArray = ls at hl ⊢
  exact e_reForget (p, l, e, s, m, ([.ref a_Re] : List Value).toArray, below, meth, c) D cI cL cZ a_Re a_Re_codes a_Re_products a_Re_bounds a_Re_pairs a_Re_keys (va_A (ws_reForget a_Re a_Re_codes a_Re_products a_Re_bounds a_Re_pairs a_Re_keys cI cL cZ Re_prime Re_variables Re_size Re_pairCount) s.heap.size) Re_prime Re_variables Re_pairCount Re_size_r F ⟨B.exec, B.bytes, B.returns, hml, findClass_of_methodNamed B.named, fun w h => atoms_spec (ws := (.code y_Re_forget c_Re_forgetb 1 none :: gAll)) B.pre w (List.mem_cons_of_mem _ h), B.notSynchronized⟩ hK (fun q h => Or.inr h) hN Re_size hrun s.heap [] ls hP hD va_S.rf hl
theorem d_Re_setBounds_0 : decode c_Re_setBoundsb 0 = .ok (.iconst 0, 1) := by decide +kernel
theorem d_Re_setBounds_1 : decode c_Re_setBoundsb 1 = .ok (.istore_n 2, 1) := by decide +kernel
theorem d_Re_setBounds_2 : decode c_Re_setBoundsb 2 = .ok (.iload_n 2, 1) := by decide +kernel
theorem d_Re_setBounds_3 : decode c_Re_setBoundsb 3 = .ok (.iconst 4, 1) := by decide +kernel
theorem d_Re_setBounds_4 : decode c_Re_setBoundsb 4 = .ok (.if_icmp .ge 44, 3) := by decide +kernel
theorem d_Re_setBounds_7 : decode c_Re_setBoundsb 7 = .ok (.aload_n 0, 1) := by decide +kernel
theorem d_Re_setBounds_8 : decode c_Re_setBoundsb 8 = .ok (.getfield 18, 3) := by decide +kernel
theorem d_Re_setBounds_11 : decode c_Re_setBoundsb 11 = .ok (.iload_n 2, 1) := by decide +kernel
theorem d_Re_setBounds_12 : decode c_Re_setBoundsb 12 = .ok (.iload_n 2, 1) := by decide +kernel
theorem d_Re_setBounds_13 : decode c_Re_setBoundsb 13 = .ok (.aload_n 0, 1) := by decide +kernel
theorem d_Re_setBounds_14 : decode c_Re_setBoundsb 14 = .ok (.getfield 47, 3) := by decide +kernel
theorem d_Re_setBounds_17 : decode c_Re_setBoundsb 17 = .ok (.if_icmp .ge 11, 3) := by decide +kernel
theorem d_Re_setBounds_20 : decode c_Re_setBoundsb 20 = .ok (.aload_n 1, 1) := by decide +kernel
theorem d_Re_setBounds_21 : decode c_Re_setBoundsb 21 = .ok (.iload_n 2, 1) := by decide +kernel
theorem d_Re_setBounds_22 : decode c_Re_setBoundsb 22 = .ok (.invokevirtual 58, 3) := by decide +kernel
theorem d_Re_setBounds_25 : decode c_Re_setBoundsb 25 = .ok (.goto 4, 3) := by decide +kernel
theorem d_Re_setBounds_28 : decode c_Re_setBoundsb 28 = .ok (.iconst 1, 1) := by decide +kernel
theorem d_Re_setBounds_29 : decode c_Re_setBoundsb 29 = .ok (.iastore, 1) := by decide +kernel
theorem d_Re_setBounds_30 : decode c_Re_setBoundsb 30 = .ok (.aload_n 0, 1) := by decide +kernel
theorem d_Re_setBounds_31 : decode c_Re_setBoundsb 31 = .ok (.getfield 18, 3) := by decide +kernel
theorem d_Re_setBounds_34 : decode c_Re_setBoundsb 34 = .ok (.iload_n 2, 1) := by decide +kernel
theorem d_Re_setBounds_35 : decode c_Re_setBoundsb 35 = .ok (.iaload, 1) := by decide +kernel
theorem d_Re_setBounds_36 : decode c_Re_setBoundsb 36 = .ok (.iconst (-1), 1) := by decide +kernel
theorem d_Re_setBounds_37 : decode c_Re_setBoundsb 37 = .ok (.if_icmp .ne 5, 3) := by decide +kernel
theorem d_Re_setBounds_40 : decode c_Re_setBoundsb 40 = .ok (.iconst 0, 1) := by decide +kernel
theorem d_Re_setBounds_41 : decode c_Re_setBoundsb 41 = .ok (.ireturn, 1) := by decide +kernel
theorem d_Re_setBounds_42 : decode c_Re_setBoundsb 42 = .ok (.iinc 2 1, 3) := by decide +kernel
theorem d_Re_setBounds_45 : decode c_Re_setBoundsb 45 = .ok (.goto (-43), 3) := by decide +kernel
theorem d_Re_setBounds_48 : decode c_Re_setBoundsb 48 = .ok (.iconst 1, 1) := by decide +kernel
theorem d_Re_setBounds_49 : decode c_Re_setBoundsb 49 = .ok (.ireturn, 1) := by decide +kernel
abbrev ws_setBounds (a_Mo a_Sp a_Re a_Mo_codes a_Sp_basis a_Re_bounds a_Mo_degrees a_Mo_keys a_Mo_raised a_Sp_rows a_Sp_leads a_Sp_kept a_Sp_work a_Re_codes a_Re_products a_Re_pairs a_Re_keys : Nat) (cI cL cZ : ClassId) (Mo_variables Mo_order Mo_highest Mo_count Sp_prime Sp_limit Sp_keptCount Sp_basisCount Re_prime Re_variables Re_size Re_pairCount : Int32) (Mo_codes Sp_basis Re_bounds : Nat → Int32) : va_W := [(a_Mo, .inr (1, [.int Mo_variables, .int Mo_order, .int Mo_highest, .int Mo_count, .ref a_Mo_codes, .ref a_Mo_degrees, .ref a_Mo_keys, .ref a_Mo_raised])), (a_Sp, .inr (2, [.ref a_Mo, .int Sp_prime, .int Sp_limit, .ref a_Sp_rows, .ref a_Sp_leads, .ref a_Sp_kept, .int Sp_keptCount, .ref a_Sp_work, .ref a_Sp_basis, .int Sp_basisCount])), (a_Re, .inr (3, [.int Re_prime, .int Re_variables, .int Re_size, .ref a_Re_codes, .ref a_Re_products, .ref a_Re_bounds, .ref a_Re_pairs, .ref a_Re_keys, .int Re_pairCount])), (a_Mo_codes, .inl (cI, 126, .inl Mo_codes)), (a_Sp_basis, .inl (cI, 126, .inl Sp_basis)), (a_Re_bounds, .inl (cI, 4, .inl Re_bounds))]
abbrev rm_setBounds : Room := { frames := 3, cells := 0, slots := 0, locals := 64 }
abbrev g_setBounds (X : gX) (D : va_G) (cI cL cZ : ClassId) (a_Mo a_Sp a_Re a_Mo_codes a_Sp_basis a_Re_bounds a_Mo_degrees a_Mo_keys a_Mo_raised a_Sp_rows a_Sp_leads a_Sp_kept a_Sp_work a_Re_codes a_Re_products a_Re_pairs a_Re_keys : Nat) (A : Nat → Prop) (Mo_variables Mo_order Mo_highest Mo_count Sp_prime Sp_limit Sp_keptCount Sp_basisCount Re_prime Re_variables Re_size Re_pairCount : Int32) (Mo_codes Sp_basis : Nat → Int32) (r_ : Int32) (Re_bounds_r : Nat → Int32) (pc : Nat) (lv : List (Nat × Value)) (st : List Value) (Re_bounds : Nat → Int32) : Prop := ∀ (H : Heap) (locs : List Loc) (ls : Array Slot), va_P D classes (ws_setBounds a_Mo a_Sp a_Re a_Mo_codes a_Sp_basis a_Re_bounds a_Mo_degrees a_Mo_keys a_Mo_raised a_Sp_rows a_Sp_leads a_Sp_kept a_Sp_work a_Re_codes a_Re_products a_Re_pairs a_Re_keys cI cL cZ Mo_variables Mo_order Mo_highest Mo_count Sp_prime Sp_limit Sp_keptCount Sp_basisCount Re_prime Re_variables Re_size Re_pairCount Mo_codes Sp_basis Re_bounds) H → va_D A (ws_setBounds a_Mo a_Sp a_Re a_Mo_codes a_Sp_basis a_Re_bounds a_Mo_degrees a_Mo_keys a_Mo_raised a_Sp_rows a_Sp_leads a_Sp_kept a_Sp_work a_Re_codes a_Re_products a_Re_pairs a_Re_keys cI cL cZ Mo_variables Mo_order Mo_highest Mo_count Sp_prime Sp_limit Sp_keptCount Sp_basisCount Re_prime Re_variables Re_size Re_pairCount Mo_codes Sp_basis Re_bounds) → va_S A (gs X).heap H locs → lv_has ls 3 lv → gWW X rm_setBounds H locs 0 0 (MQ (gbl X) (va_Qi (fun r (_ : Unit) => r = r_) (gB D (gT cI cL cZ) A (ws_setBounds a_Mo a_Sp a_Re a_Mo_codes a_Sp_basis a_Re_bounds a_Mo_degrees a_Mo_keys a_Mo_raised a_Sp_rows a_Sp_leads a_Sp_kept a_Sp_work a_Re_codes a_Re_products a_Re_pairs a_Re_keys cI cL cZ Mo_variables Mo_order Mo_highest Mo_count Sp_prime Sp_limit Sp_keptCount Sp_basisCount Re_prime Re_variables Re_size Re_pairCount Mo_codes Sp_basis Re_bounds_r)) A) (ga X) (gs X) 0 0 A) (F0 (gm X) pc ls st)
set_option maxHeartbeats 4000000 in
set_option maxRecDepth 100000 in
theorem w_setBounds_29 (X : gX) (D : va_G) (cI cL cZ : ClassId) (a_Mo a_Sp a_Re a_Mo_codes a_Sp_basis a_Re_bounds a_Mo_degrees a_Mo_keys a_Mo_raised a_Sp_rows a_Sp_leads a_Sp_kept a_Sp_work a_Re_codes a_Re_products a_Re_pairs a_Re_keys : Nat) (A : Nat → Prop) (Mo_variables Mo_order Mo_highest Mo_count Sp_prime Sp_limit Sp_keptCount Sp_basisCount Re_prime Re_variables Re_size Re_pairCount : Int32) (Mo_codes Sp_basis : Nat → Int32) (r_ : Int32) (Re_bounds_r : Nat → Int32) (F : Nat) (C0 : gC X c_Re_setBoundsb (some .boolean) 3 "RemnantDictionary$Remnant" gAll) (hK : va_K D classes (gT cI cL cZ) (gs X)) (hA : ∀ q : Nat, (gs X).heap.size ≤ q → A q) (hN : gN (gs X)) (k2 : Int32 → (Nat → Int32) → Option (Int32 × (Nat → Int32))) (hk2 : ∀ (i2 : Int32) (Re_bounds : Nat → Int32), k2 i2 Re_bounds = some (r_, Re_bounds_r) → g_setBounds X D cI cL cZ a_Mo a_Sp a_Re a_Mo_codes a_Sp_basis a_Re_bounds a_Mo_degrees a_Mo_keys a_Mo_raised a_Sp_rows a_Sp_leads a_Sp_kept a_Sp_work a_Re_codes a_Re_products a_Re_pairs a_Re_keys A Mo_variables Mo_order Mo_highest Mo_count Sp_prime Sp_limit Sp_keptCount Sp_basisCount Re_prime Re_variables Re_size Re_pairCount Mo_codes Sp_basis r_ Re_bounds_r 2 [(0, .ref a_Re), (1, .ref a_Sp), (2, .int i2)] [] Re_bounds) (i2 t1 t2 : Int32) (Re_bounds : Nat → Int32) (hrun : s_setBounds_29 F Sp_basisCount Re_variables Mo_codes Sp_basis k2 i2 t1 t2 Re_bounds = some (r_, Re_bounds_r)) : g_setBounds X D cI cL cZ a_Mo a_Sp a_Re a_Mo_codes a_Sp_basis a_Re_bounds a_Mo_degrees a_Mo_keys a_Mo_raised a_Sp_rows a_Sp_leads a_Sp_kept a_Sp_work a_Re_codes a_Re_products a_Re_pairs a_Re_keys A Mo_variables Mo_order Mo_highest Mo_count Sp_prime Sp_limit Sp_keptCount Sp_basisCount Re_prime Re_variables Re_size Re_pairCount Mo_codes Sp_basis r_ Re_bounds_r 29 [(0, .ref a_Re), (1, .ref a_Sp), (2, .int i2)] [.int t2, .int t1, .ref a_Re_bounds] Re_bounds := by
  have C1 := C0
  obtain ⟨hx, hb, hr, hml, hown, hts, hlocks⟩ := C1
  unfold s_setBounds_29 at hrun
  intro H locs ls hP hD hS hl
  refine g_iast hx hb hK hP hD hS 5 0 rfl rfl hrun d_Re_setBounds_29 (fun Re_bounds_1 hrun H locs (hP : va_P D classes (ws_setBounds a_Mo a_Sp a_Re a_Mo_codes a_Sp_basis a_Re_bounds a_Mo_degrees a_Mo_keys a_Mo_raised a_Sp_rows a_Sp_leads a_Sp_kept a_Sp_work a_Re_codes a_Re_products a_Re_pairs a_Re_keys cI cL cZ Mo_variables Mo_order Mo_highest Mo_count Sp_prime Sp_limit Sp_keptCount Sp_basisCount Re_prime Re_variables Re_size Re_pairCount Mo_codes Sp_basis Re_bounds_1) H) (hD : va_D A (ws_setBounds a_Mo a_Sp a_Re a_Mo_codes a_Sp_basis a_Re_bounds a_Mo_degrees a_Mo_keys a_Mo_raised a_Sp_rows a_Sp_leads a_Sp_kept a_Sp_work a_Re_codes a_Re_products a_Re_pairs a_Re_keys cI cL cZ Mo_variables Mo_order Mo_highest Mo_count Sp_prime Sp_limit Sp_keptCount Sp_basisCount Re_prime Re_variables Re_size Re_pairCount Mo_codes Sp_basis Re_bounds_1)) hS => ?_)
  refine lv_aload_n hx hb d_Re_setBounds_30 rfl (lv_at hl 0 rfl) ?_
  refine va_get (D := D) (ci := 3) (v := .ref a_Re_bounds) (C := "RemnantDictionary$Remnant") (T := T_Re) (N := 9) hx hb hts iw_Re hown hK hP 2 rfl rfl 5 (by decide) (hts _ k_144) (fun _ h9 => h9) rfl d_Re_setBounds_31 ?_
  refine lv_iload_n hx hb d_Re_setBounds_34 rfl (lv_at hl 2 rfl) ?_
  refine g_iald hx hb hK hP 5 0 rfl rfl hrun d_Re_setBounds_35 (fun x_2 hrun => ?_)
  refine lv_iconst (v := (-1)) hx hb d_Re_setBounds_36 (by decide) ?_
  refine g_icmp_ne (tgt := 42) hx hb d_Re_setBounds_37 (by decide) hrun (fun _ hrun => ?_) (fun _ hrun => ?_)
  · refine lv_iinc (v := (i2 + 1)) (lv' := [(2, .int (i2 + 1)), (0, .ref a_Re), (1, .ref a_Sp)]) hx hb d_Re_setBounds_42 hl (k := 2) rfl rfl (by decide) rfl (fun ls hl => ?_)
    refine lv_goto (tgt := 2) hx hb d_Re_setBounds_45 (by decide) ?_
    exact hk2 (i2 + 1) Re_bounds_1 hrun H locs ls hP hD hS (lv_sub hl [1, 2, 0] rfl)
  · refine lv_iconst (v := 0) hx hb d_Re_setBounds_40 (by decide) ?_
    cases hrun
    exact W.zret hx hb hr rfl (fun t ht hW => ⟨⟨_, (), rfl, rfl, gB_of ht hW.alike hP hK hD⟩, hS.F ht⟩) hS.2.2 d_Re_setBounds_41
set_option maxHeartbeats 4000000 in
set_option maxRecDepth 100000 in
theorem w_setBounds_2 (X : gX) (D : va_G) (cI cL cZ : ClassId) (a_Mo a_Sp a_Re a_Mo_codes a_Sp_basis a_Re_bounds a_Mo_degrees a_Mo_keys a_Mo_raised a_Sp_rows a_Sp_leads a_Sp_kept a_Sp_work a_Re_codes a_Re_products a_Re_pairs a_Re_keys : Nat) (A : Nat → Prop) (Mo_variables Mo_order Mo_highest Mo_count Sp_prime Sp_limit Sp_keptCount Sp_basisCount Re_prime Re_variables Re_size Re_pairCount : Int32) (Mo_codes Sp_basis : Nat → Int32) (r_ : Int32) (Re_bounds_r : Nat → Int32) (F : Nat) (C0 : gC X c_Re_setBoundsb (some .boolean) 3 "RemnantDictionary$Remnant" gAll) (hK : va_K D classes (gT cI cL cZ) (gs X)) (hA : ∀ q : Nat, (gs X).heap.size ≤ q → A q) (hN : gN (gs X)) (k2 : Int32 → (Nat → Int32) → Option (Int32 × (Nat → Int32))) (hk2 : ∀ (i2 : Int32) (Re_bounds : Nat → Int32), k2 i2 Re_bounds = some (r_, Re_bounds_r) → g_setBounds X D cI cL cZ a_Mo a_Sp a_Re a_Mo_codes a_Sp_basis a_Re_bounds a_Mo_degrees a_Mo_keys a_Mo_raised a_Sp_rows a_Sp_leads a_Sp_kept a_Sp_work a_Re_codes a_Re_products a_Re_pairs a_Re_keys A Mo_variables Mo_order Mo_highest Mo_count Sp_prime Sp_limit Sp_keptCount Sp_basisCount Re_prime Re_variables Re_size Re_pairCount Mo_codes Sp_basis r_ Re_bounds_r 2 [(0, .ref a_Re), (1, .ref a_Sp), (2, .int i2)] [] Re_bounds) (i2 : Int32) (Re_bounds : Nat → Int32) (hrun : s_setBounds_2 F Sp_basisCount Re_variables Mo_codes Sp_basis k2 i2 Re_bounds = some (r_, Re_bounds_r)) : g_setBounds X D cI cL cZ a_Mo a_Sp a_Re a_Mo_codes a_Sp_basis a_Re_bounds a_Mo_degrees a_Mo_keys a_Mo_raised a_Sp_rows a_Sp_leads a_Sp_kept a_Sp_work a_Re_codes a_Re_products a_Re_pairs a_Re_keys A Mo_variables Mo_order Mo_highest Mo_count Sp_prime Sp_limit Sp_keptCount Sp_basisCount Re_prime Re_variables Re_size Re_pairCount Mo_codes Sp_basis r_ Re_bounds_r 2 [(0, .ref a_Re), (1, .ref a_Sp), (2, .int i2)] [] Re_bounds := by
  have C1 := C0
  obtain ⟨hx, hb, hr, hml, hown, hts, hlocks⟩ := C1
  unfold s_setBounds_2 at hrun
  intro H locs ls hP hD hS hl
  refine lv_iload_n hx hb d_Re_setBounds_2 rfl (lv_at hl 2 rfl) ?_
  refine lv_iconst (v := 4) hx hb d_Re_setBounds_3 (by decide) ?_
  refine g_icmp_ge (tgt := 48) hx hb d_Re_setBounds_4 (by decide) hrun (fun _ hrun => ?_) (fun _ hrun => ?_)
  · refine lv_iconst (v := 1) hx hb d_Re_setBounds_48 (by decide) ?_
    cases hrun
    exact W.zret hx hb hr rfl (fun t ht hW => ⟨⟨_, (), rfl, rfl, gB_of ht hW.alike hP hK hD⟩, hS.F ht⟩) hS.2.2 d_Re_setBounds_49
  · refine lv_aload_n hx hb d_Re_setBounds_7 rfl (lv_at hl 0 rfl) ?_
    refine va_get (D := D) (ci := 3) (v := .ref a_Re_bounds) (C := "RemnantDictionary$Remnant") (T := T_Re) (N := 9) hx hb hts iw_Re hown hK hP 2 rfl rfl 5 (by decide) (hts _ k_144) (fun _ h9 => h9) rfl d_Re_setBounds_8 ?_
    refine lv_iload_n hx hb d_Re_setBounds_11 rfl (lv_at hl 2 rfl) ?_
    refine lv_iload_n hx hb d_Re_setBounds_12 rfl (lv_at hl 2 rfl) ?_
    refine lv_aload_n hx hb d_Re_setBounds_13 rfl (lv_at hl 0 rfl) ?_
    refine va_get (D := D) (ci := 3) (v := .int Re_variables) (C := "RemnantDictionary$Remnant") (T := T_Re) (N := 9) hx hb hts iw_Re hown hK hP 2 rfl rfl 1 (by decide) (hts _ k_146) (fun _ h9 => h9) rfl d_Re_setBounds_14 ?_
    refine g_icmp_ge (tgt := 28) hx hb d_Re_setBounds_17 (by decide) hrun (fun _ hrun => ?_) (fun _ hrun => ?_)
    · refine lv_iconst (v := 1) hx hb d_Re_setBounds_28 (by decide) ?_
      exact w_setBounds_29 X D cI cL cZ a_Mo a_Sp a_Re a_Mo_codes a_Sp_basis a_Re_bounds a_Mo_degrees a_Mo_keys a_Mo_raised a_Sp_rows a_Sp_leads a_Sp_kept a_Sp_work a_Re_codes a_Re_products a_Re_pairs a_Re_keys A Mo_variables Mo_order Mo_highest Mo_count Sp_prime Sp_limit Sp_keptCount Sp_basisCount Re_prime Re_variables Re_size Re_pairCount Mo_codes Sp_basis r_ Re_bounds_r F C0 hK hA hN k2 hk2 i2 i2 1 Re_bounds hrun H locs ls hP hD hS (lv_sub hl [0, 1, 2] rfl)
    · refine lv_aload_n hx hb d_Re_setBounds_20 rfl (lv_at hl 1 rfl) ?_
      refine lv_iload_n hx hb d_Re_setBounds_21 rfl (lv_at hl 2 rfl) ?_
      obtain ⟨r_1, hc, hrun⟩ := bd1_s hrun
      refine vp_callSi (W.runV (As := [.int i2]) (rest := [.int i2, .ref a_Re_bounds]) ⟨hx, hb, hml, hown, hts⟩ (c_purePower (gl X) D cI cL cZ a_Mo a_Sp a_Mo_codes a_Sp_basis a_Mo_degrees a_Mo_keys a_Mo_raised a_Sp_rows a_Sp_leads a_Sp_kept a_Sp_work F Mo_variables Mo_order Mo_highest Mo_count Sp_prime Sp_limit Sp_keptCount Sp_basisCount Mo_codes Sp_basis i2 r_1 hc) (cwV 1 hts (gwV k_149 k_147 k_148 k_91 k_132) rfl rfl rfl (by decide +kernel) ⟨Nat.le_of_ble_eq_true rfl, Nat.le_of_ble_eq_true rfl⟩) (gpreV (hP.sub (ws' := (ws_purePower a_Mo a_Sp a_Mo_codes a_Sp_basis a_Mo_degrees a_Mo_keys a_Mo_raised a_Sp_rows a_Sp_leads a_Sp_kept a_Sp_work cI cL cZ Mo_variables Mo_order Mo_highest Mo_count Sp_prime Sp_limit Sp_keptCount Sp_basisCount Mo_codes Sp_basis)) [0, 1, 3, 4] rfl) hK hN 2 1 rfl rfl) rfl rfl hl.1 rfl (lv_room (Nat.le_of_ble_eq_true rfl)) d_Re_setBounds_22 ⟨Nat.le_of_ble_eq_true rfl, Nat.le_of_ble_eq_true rfl⟩) (nm_e ?_)
      refine lv_goto (tgt := 29) hx hb d_Re_setBounds_25 (by decide) ?_
      exact w_setBounds_29 X D cI cL cZ a_Mo a_Sp a_Re a_Mo_codes a_Sp_basis a_Re_bounds a_Mo_degrees a_Mo_keys a_Mo_raised a_Sp_rows a_Sp_leads a_Sp_kept a_Sp_work a_Re_codes a_Re_products a_Re_pairs a_Re_keys A Mo_variables Mo_order Mo_highest Mo_count Sp_prime Sp_limit Sp_keptCount Sp_basisCount Re_prime Re_variables Re_size Re_pairCount Mo_codes Sp_basis r_ Re_bounds_r F C0 hK hA hN k2 hk2 i2 i2 r_1 Re_bounds hrun H locs ls hP hD hS (lv_sub hl [0, 1, 2] rfl)
theorem v_setBounds_2 (X : gX) (D : va_G) (cI cL cZ : ClassId) (a_Mo a_Sp a_Re a_Mo_codes a_Sp_basis a_Re_bounds a_Mo_degrees a_Mo_keys a_Mo_raised a_Sp_rows a_Sp_leads a_Sp_kept a_Sp_work a_Re_codes a_Re_products a_Re_pairs a_Re_keys : Nat) (A : Nat → Prop) (Mo_variables Mo_order Mo_highest Mo_count Sp_prime Sp_limit Sp_keptCount Sp_basisCount Re_prime Re_variables Re_size Re_pairCount : Int32) (Mo_codes Sp_basis : Nat → Int32) (r_ : Int32) (Re_bounds_r : Nat → Int32) (F : Nat) (C0 : gC X c_Re_setBoundsb (some .boolean) 3 "RemnantDictionary$Remnant" gAll) (hK : va_K D classes (gT cI cL cZ) (gs X)) (hA : ∀ q : Nat, (gs X).heap.size ≤ q → A q) (hN : gN (gs X))  : ∀ (n : Nat) (i2 : Int32) (Re_bounds : Nat → Int32), b_setBounds_2 F Sp_basisCount Re_variables Mo_codes Sp_basis n i2 Re_bounds = some (r_, Re_bounds_r) → g_setBounds X D cI cL cZ a_Mo a_Sp a_Re a_Mo_codes a_Sp_basis a_Re_bounds a_Mo_degrees a_Mo_keys a_Mo_raised a_Sp_rows a_Sp_leads a_Sp_kept a_Sp_work a_Re_codes a_Re_products a_Re_pairs a_Re_keys A Mo_variables Mo_order Mo_highest Mo_count Sp_prime Sp_limit Sp_keptCount Sp_basisCount Re_prime Re_variables Re_size Re_pairCount Mo_codes Sp_basis r_ Re_bounds_r 2 [(0, .ref a_Re), (1, .ref a_Sp), (2, .int i2)] [] Re_bounds := by
  intro n
  induction n with
  | zero => intro i2 Re_bounds hrun; cases hrun
  | succ n ih =>
    intro i2 Re_bounds hrun
    exact w_setBounds_2 X D cI cL cZ a_Mo a_Sp a_Re a_Mo_codes a_Sp_basis a_Re_bounds a_Mo_degrees a_Mo_keys a_Mo_raised a_Sp_rows a_Sp_leads a_Sp_kept a_Sp_work a_Re_codes a_Re_products a_Re_pairs a_Re_keys A Mo_variables Mo_order Mo_highest Mo_count Sp_prime Sp_limit Sp_keptCount Sp_basisCount Re_prime Re_variables Re_size Re_pairCount Mo_codes Sp_basis r_ Re_bounds_r F C0 hK hA hN (b_setBounds_2 F Sp_basisCount Re_variables Mo_codes Sp_basis n) ih i2 Re_bounds hrun
set_option maxHeartbeats 4000000 in
set_option maxRecDepth 100000 in
theorem e_setBounds (X : gX) (D : va_G) (cI cL cZ : ClassId) (a_Mo a_Sp a_Re a_Mo_codes a_Sp_basis a_Re_bounds a_Mo_degrees a_Mo_keys a_Mo_raised a_Sp_rows a_Sp_leads a_Sp_kept a_Sp_work a_Re_codes a_Re_products a_Re_pairs a_Re_keys : Nat) (A : Nat → Prop) (Mo_variables Mo_order Mo_highest Mo_count Sp_prime Sp_limit Sp_keptCount Sp_basisCount Re_prime Re_variables Re_size Re_pairCount : Int32) (Mo_codes Sp_basis : Nat → Int32) (r_ : Int32) (Re_bounds_r : Nat → Int32) (F : Nat) (C0 : gC X c_Re_setBoundsb (some .boolean) 3 "RemnantDictionary$Remnant" gAll) (hK : va_K D classes (gT cI cL cZ) (gs X)) (hA : ∀ q : Nat, (gs X).heap.size ≤ q → A q) (hN : gN (gs X)) (Re_bounds : Nat → Int32) (hrun : m_setBounds F Sp_basisCount Re_variables Mo_codes Sp_basis Re_bounds = some (r_, Re_bounds_r)) : g_setBounds X D cI cL cZ a_Mo a_Sp a_Re a_Mo_codes a_Sp_basis a_Re_bounds a_Mo_degrees a_Mo_keys a_Mo_raised a_Sp_rows a_Sp_leads a_Sp_kept a_Sp_work a_Re_codes a_Re_products a_Re_pairs a_Re_keys A Mo_variables Mo_order Mo_highest Mo_count Sp_prime Sp_limit Sp_keptCount Sp_basisCount Re_prime Re_variables Re_size Re_pairCount Mo_codes Sp_basis r_ Re_bounds_r 0 [(0, .ref a_Re), (1, .ref a_Sp)] [] Re_bounds := by
  have C1 := C0
  obtain ⟨hx, hb, hr, hml, hown, hts, hlocks⟩ := C1
  unfold m_setBounds at hrun
  intro H locs ls hP hD hS hl
  refine lv_iconst (v := 0) hx hb d_Re_setBounds_0 (by decide) ?_
  refine lv_istore_n (lv' := [(2, .int 0), (0, .ref a_Re), (1, .ref a_Sp)]) hx hb d_Re_setBounds_1 rfl hl (by decide) rfl (fun ls hl => ?_)
  exact v_setBounds_2 X D cI cL cZ a_Mo a_Sp a_Re a_Mo_codes a_Sp_basis a_Re_bounds a_Mo_degrees a_Mo_keys a_Mo_raised a_Sp_rows a_Sp_leads a_Sp_kept a_Sp_work a_Re_codes a_Re_products a_Re_pairs a_Re_keys A Mo_variables Mo_order Mo_highest Mo_count Sp_prime Sp_limit Sp_keptCount Sp_basisCount Re_prime Re_variables Re_size Re_pairCount Mo_codes Sp_basis r_ Re_bounds_r F C0 hK hA hN  F 0 Re_bounds hrun H locs ls hP hD hS (lv_sub hl [1, 2, 0] rfl)
set_option maxHeartbeats 4000000 in
set_option maxRecDepth 100000 in
theorem c_setBounds (l : Launch) (D : va_G) (cI cL cZ : ClassId) (a_Mo a_Sp a_Re a_Mo_codes a_Sp_basis a_Re_bounds a_Mo_degrees a_Mo_keys a_Mo_raised a_Sp_rows a_Sp_leads a_Sp_kept a_Sp_work a_Re_codes a_Re_products a_Re_pairs a_Re_keys : Nat) (F : Nat) (Mo_variables Mo_order Mo_highest Mo_count Sp_prime Sp_limit Sp_keptCount Sp_basisCount Re_prime Re_variables Re_size Re_pairCount : Int32) (Mo_codes Sp_basis Re_bounds : Nat → Int32) (sz : Nat) (r_ : Int32) (Re_bounds_r : Nat → Int32) (hrun : m_setBounds F Sp_basisCount Re_variables Mo_codes Sp_basis Re_bounds = some (r_, Re_bounds_r)) : Met l y_Re_setBounds (.code y_Re_setBounds c_Re_setBoundsb 3 (some .boolean) :: gAll) rm_setBounds (va_Pc [.ref a_Re, .ref a_Sp] (gPW D (gT cI cL cZ) (ws_setBounds a_Mo a_Sp a_Re a_Mo_codes a_Sp_basis a_Re_bounds a_Mo_degrees a_Mo_keys a_Mo_raised a_Sp_rows a_Sp_leads a_Sp_kept a_Sp_work a_Re_codes a_Re_products a_Re_pairs a_Re_keys cI cL cZ Mo_variables Mo_order Mo_highest Mo_count Sp_prime Sp_limit Sp_keptCount Sp_basisCount Re_prime Re_variables Re_size Re_pairCount Mo_codes Sp_basis Re_bounds) sz)) (va_Qi (fun r (_ : Unit) => r = r_) (gB D (gT cI cL cZ) (va_A (ws_setBounds a_Mo a_Sp a_Re a_Mo_codes a_Sp_basis a_Re_bounds a_Mo_degrees a_Mo_keys a_Mo_raised a_Sp_rows a_Sp_leads a_Sp_kept a_Sp_work a_Re_codes a_Re_products a_Re_pairs a_Re_keys cI cL cZ Mo_variables Mo_order Mo_highest Mo_count Sp_prime Sp_limit Sp_keptCount Sp_basisCount Re_prime Re_variables Re_size Re_pairCount Mo_codes Sp_basis Re_bounds) sz) (ws_setBounds a_Mo a_Sp a_Re a_Mo_codes a_Sp_basis a_Re_bounds a_Mo_degrees a_Mo_keys a_Mo_raised a_Sp_rows a_Sp_leads a_Sp_kept a_Sp_work a_Re_codes a_Re_products a_Re_pairs a_Re_keys cI cL cZ Mo_variables Mo_order Mo_highest Mo_count Sp_prime Sp_limit Sp_keptCount Sp_basisCount Re_prime Re_variables Re_size Re_pairCount Mo_codes Sp_basis Re_bounds_r)) (va_A (ws_setBounds a_Mo a_Sp a_Re a_Mo_codes a_Sp_basis a_Re_bounds a_Mo_degrees a_Mo_keys a_Mo_raised a_Sp_rows a_Sp_leads a_Sp_kept a_Sp_work a_Re_codes a_Re_products a_Re_pairs a_Re_keys cI cL cZ Mo_variables Mo_order Mo_highest Mo_count Sp_prime Sp_limit Sp_keptCount Sp_basisCount Re_prime Re_variables Re_size Re_pairCount Mo_codes Sp_basis Re_bounds) sz)) 0 0 (va_A (ws_setBounds a_Mo a_Sp a_Re a_Mo_codes a_Sp_basis a_Re_bounds a_Mo_degrees a_Mo_keys a_Mo_raised a_Sp_rows a_Sp_leads a_Sp_kept a_Sp_work a_Re_codes a_Re_products a_Re_pairs a_Re_keys cI cL cZ Mo_variables Mo_order Mo_highest Mo_count Sp_prime Sp_limit Sp_keptCount Sp_basisCount Re_prime Re_variables Re_size Re_pairCount Mo_codes Sp_basis Re_bounds) sz) := by
  refine Met.ofW (cc := c_Re_setBoundsb) (maxL := 3) (ret := (some .boolean)) (by decide +kernel) rfl ?_
  intro p e s m args below meth c s₁ B hml hv
  obtain ⟨rfl, hsz, hP, hK, hN, hD0⟩ := hv
  subst hsz
  have hD := hD0.self (sz := s.heap.size)
  have hl := lv_entry ([.ref a_Re, .ref a_Sp]) (n := 3) (Nat.le_of_ble_eq_true rfl)
  rw [lg_entry_eq]
  generalize (lg_sl ([.ref a_Re, .ref a_Sp]) ++ List.replicate (3 - (lg_sl ([.ref a_Re, .ref a_Sp])).length) Slot.unset).toArray = ls at hl ⊢
  exact e_setBounds (p, l, e, s, m, ([.ref a_Re, .ref a_Sp] : List Value).toArray, below, meth, c) D cI cL cZ a_Mo a_Sp a_Re a_Mo_codes a_Sp_basis a_Re_bounds a_Mo_degrees a_Mo_keys a_Mo_raised a_Sp_rows a_Sp_leads a_Sp_kept a_Sp_work a_Re_codes a_Re_products a_Re_pairs a_Re_keys (va_A (ws_setBounds a_Mo a_Sp a_Re a_Mo_codes a_Sp_basis a_Re_bounds a_Mo_degrees a_Mo_keys a_Mo_raised a_Sp_rows a_Sp_leads a_Sp_kept a_Sp_work a_Re_codes a_Re_products a_Re_pairs a_Re_keys cI cL cZ Mo_variables Mo_order Mo_highest Mo_count Sp_prime Sp_limit Sp_keptCount Sp_basisCount Re_prime Re_variables Re_size Re_pairCount Mo_codes Sp_basis Re_bounds) s.heap.size) Mo_variables Mo_order Mo_highest Mo_count Sp_prime Sp_limit Sp_keptCount Sp_basisCount Re_prime Re_variables Re_size Re_pairCount Mo_codes Sp_basis r_ Re_bounds_r F ⟨B.exec, B.bytes, B.returns, hml, findClass_of_methodNamed B.named, fun w h => atoms_spec (ws := (.code y_Re_setBounds c_Re_setBoundsb 3 (some .boolean) :: gAll)) B.pre w (List.mem_cons_of_mem _ h), B.notSynchronized⟩ hK (fun q h => Or.inr h) hN Re_bounds hrun s.heap [] ls hP hD va_S.rf hl
theorem d_Re_takes_0 : decode c_Re_takesb 0 = .ok (.aload_n 0, 1) := by decide +kernel
theorem d_Re_takes_1 : decode c_Re_takesb 1 = .ok (.getfield 28, 3) := by decide +kernel
theorem d_Re_takes_4 : decode c_Re_takesb 4 = .ok (.bipush 40, 2) := by decide +kernel
theorem d_Re_takes_6 : decode c_Re_takesb 6 = .ok (.if_icmp .lt 5, 3) := by decide +kernel
theorem d_Re_takes_9 : decode c_Re_takesb 9 = .ok (.iconst 0, 1) := by decide +kernel
theorem d_Re_takes_10 : decode c_Re_takesb 10 = .ok (.ireturn, 1) := by decide +kernel
theorem d_Re_takes_11 : decode c_Re_takesb 11 = .ok (.iload_n 1, 1) := by decide +kernel
theorem d_Re_takes_12 : decode c_Re_takesb 12 = .ok (.iload_n 2, 1) := by decide +kernel
theorem d_Re_takes_13 : decode c_Re_takesb 13 = .ok (.invokestatic 73, 3) := by decide +kernel
theorem d_Re_takes_16 : decode c_Re_takesb 16 = .ok (.lstore_n 3, 1) := by decide +kernel
theorem d_Re_takes_17 : decode c_Re_takesb 17 = .ok (.aload_n 0, 1) := by decide +kernel
theorem d_Re_takes_18 : decode c_Re_takesb 18 = .ok (.getfield 28, 3) := by decide +kernel
theorem d_Re_takes_21 : decode c_Re_takesb 21 = .ok (.istore 5, 2) := by decide +kernel
theorem d_Re_takes_23 : decode c_Re_takesb 23 = .ok (.iload 5, 2) := by decide +kernel
theorem d_Re_takes_25 : decode c_Re_takesb 25 = .ok (.ifCond .le 43, 3) := by decide +kernel
theorem d_Re_takes_28 : decode c_Re_takesb 28 = .ok (.aload_n 0, 1) := by decide +kernel
theorem d_Re_takes_29 : decode c_Re_takesb 29 = .ok (.getfield 9, 3) := by decide +kernel
theorem d_Re_takes_32 : decode c_Re_takesb 32 = .ok (.iload 5, 2) := by decide +kernel
theorem d_Re_takes_34 : decode c_Re_takesb 34 = .ok (.iconst 1, 1) := by decide +kernel
theorem d_Re_takes_35 : decode c_Re_takesb 35 = .ok (.isub, 1) := by decide +kernel
theorem d_Re_takes_36 : decode c_Re_takesb 36 = .ok (.iaload, 1) := by decide +kernel
theorem d_Re_takes_37 : decode c_Re_takesb 37 = .ok (.iload_n 2, 1) := by decide +kernel
theorem d_Re_takes_38 : decode c_Re_takesb 38 = .ok (.invokestatic 73, 3) := by decide +kernel
theorem d_Re_takes_41 : decode c_Re_takesb 41 = .ok (.lload_n 3, 1) := by decide +kernel
theorem d_Re_takes_42 : decode c_Re_takesb 42 = .ok (.lcmp, 1) := by decide +kernel
theorem d_Re_takes_43 : decode c_Re_takesb 43 = .ok (.ifCond .le 25, 3) := by decide +kernel
theorem d_Re_takes_46 : decode c_Re_takesb 46 = .ok (.aload_n 0, 1) := by decide +kernel
theorem d_Re_takes_47 : decode c_Re_takesb 47 = .ok (.getfield 9, 3) := by decide +kernel
theorem d_Re_takes_50 : decode c_Re_takesb 50 = .ok (.iload 5, 2) := by decide +kernel
theorem d_Re_takes_52 : decode c_Re_takesb 52 = .ok (.aload_n 0, 1) := by decide +kernel
theorem d_Re_takes_53 : decode c_Re_takesb 53 = .ok (.getfield 9, 3) := by decide +kernel
theorem d_Re_takes_56 : decode c_Re_takesb 56 = .ok (.iload 5, 2) := by decide +kernel
theorem d_Re_takes_58 : decode c_Re_takesb 58 = .ok (.iconst 1, 1) := by decide +kernel
theorem d_Re_takes_59 : decode c_Re_takesb 59 = .ok (.isub, 1) := by decide +kernel
theorem d_Re_takes_60 : decode c_Re_takesb 60 = .ok (.iaload, 1) := by decide +kernel
theorem d_Re_takes_61 : decode c_Re_takesb 61 = .ok (.iastore, 1) := by decide +kernel
theorem d_Re_takes_62 : decode c_Re_takesb 62 = .ok (.iinc 5 (-1), 3) := by decide +kernel
theorem d_Re_takes_65 : decode c_Re_takesb 65 = .ok (.goto (-42), 3) := by decide +kernel
theorem d_Re_takes_68 : decode c_Re_takesb 68 = .ok (.aload_n 0, 1) := by decide +kernel
theorem d_Re_takes_69 : decode c_Re_takesb 69 = .ok (.getfield 9, 3) := by decide +kernel
theorem d_Re_takes_72 : decode c_Re_takesb 72 = .ok (.iload 5, 2) := by decide +kernel
theorem d_Re_takes_74 : decode c_Re_takesb 74 = .ok (.iload_n 1, 1) := by decide +kernel
theorem d_Re_takes_75 : decode c_Re_takesb 75 = .ok (.iastore, 1) := by decide +kernel
theorem d_Re_takes_76 : decode c_Re_takesb 76 = .ok (.aload_n 0, 1) := by decide +kernel
theorem d_Re_takes_77 : decode c_Re_takesb 77 = .ok (.dup, 1) := by decide +kernel
theorem d_Re_takes_78 : decode c_Re_takesb 78 = .ok (.getfield 28, 3) := by decide +kernel
theorem d_Re_takes_81 : decode c_Re_takesb 81 = .ok (.iconst 1, 1) := by decide +kernel
theorem d_Re_takes_82 : decode c_Re_takesb 82 = .ok (.iadd, 1) := by decide +kernel
theorem d_Re_takes_83 : decode c_Re_takesb 83 = .ok (.putfield 28, 3) := by decide +kernel
theorem d_Re_takes_86 : decode c_Re_takesb 86 = .ok (.iconst 1, 1) := by decide +kernel
theorem d_Re_takes_87 : decode c_Re_takesb 87 = .ok (.ireturn, 1) := by decide +kernel
abbrev ws_reTakes (a_Re a_Re_codes a_Re_products a_Re_bounds a_Re_pairs a_Re_keys : Nat) (cI cL cZ : ClassId) (Re_prime Re_variables Re_size Re_pairCount : Int32) (Re_codes : Nat → Int32) : va_W := [(a_Re, .inr (3, [.int Re_prime, .int Re_variables, .int Re_size, .ref a_Re_codes, .ref a_Re_products, .ref a_Re_bounds, .ref a_Re_pairs, .ref a_Re_keys, .int Re_pairCount])), (a_Re_codes, .inl (cI, 40, .inl Re_codes))]
abbrev rm_reTakes : Room := { frames := 3, cells := 0, slots := 0, locals := 66 }
abbrev g_reTakes (X : gX) (D : va_G) (cI cL cZ : ClassId) (a_Re a_Re_codes a_Re_products a_Re_bounds a_Re_pairs a_Re_keys : Nat) (A : Nat → Prop) (Re_prime Re_variables Re_pairCount r_ Re_size_r : Int32) (Re_codes_r : Nat → Int32) (pc : Nat) (lv : List (Nat × Value)) (st : List Value) (Re_size : Int32) (Re_codes : Nat → Int32) : Prop := ∀ (H : Heap) (locs : List Loc) (ls : Array Slot), va_P D classes (ws_reTakes a_Re a_Re_codes a_Re_products a_Re_bounds a_Re_pairs a_Re_keys cI cL cZ Re_prime Re_variables Re_size Re_pairCount Re_codes) H → va_D A (ws_reTakes a_Re a_Re_codes a_Re_products a_Re_bounds a_Re_pairs a_Re_keys cI cL cZ Re_prime Re_variables Re_size Re_pairCount Re_codes) → va_S A (gs X).heap H locs → lv_has ls 6 lv → gWW X rm_reTakes H locs 0 0 (MQ (gbl X) (va_Qi (fun r (_ : Unit) => r = r_) (gB D (gT cI cL cZ) A (ws_reTakes a_Re a_Re_codes a_Re_products a_Re_bounds a_Re_pairs a_Re_keys cI cL cZ Re_prime Re_variables Re_size_r Re_pairCount Re_codes_r)) A) (ga X) (gs X) 0 0 A) (F0 (gm X) pc ls st)
set_option maxHeartbeats 4000000 in
set_option maxRecDepth 100000 in
theorem w_reTakes_68 (X : gX) (D : va_G) (cI cL cZ : ClassId) (a_Re a_Re_codes a_Re_products a_Re_bounds a_Re_pairs a_Re_keys : Nat) (A : Nat → Prop) (Re_prime Re_variables Re_pairCount r_ Re_size_r : Int32) (Re_codes_r : Nat → Int32) (F : Nat) (C0 : gC X c_Re_takesb (some .boolean) 6 "RemnantDictionary$Remnant" gAll) (hK : va_K D classes (gT cI cL cZ) (gs X)) (hA : ∀ q : Nat, (gs X).heap.size ≤ q → A q) (hN : gN (gs X))  (i1 i5 Re_size : Int32) (Re_codes : Nat → Int32) (hrun : s_reTakes_68 F i1 i5 Re_size Re_codes = some (r_, Re_size_r, Re_codes_r)) : g_reTakes X D cI cL cZ a_Re a_Re_codes a_Re_products a_Re_bounds a_Re_pairs a_Re_keys A Re_prime Re_variables Re_pairCount r_ Re_size_r Re_codes_r 68 [(0, .ref a_Re), (1, .int i1), (5, .int i5)] [] Re_size Re_codes := by
  have C1 := C0
  obtain ⟨hx, hb, hr, hml, hown, hts, hlocks⟩ := C1
  unfold s_reTakes_68 at hrun
  intro H locs ls hP hD hS hl
  refine lv_aload_n hx hb d_Re_takes_68 rfl (lv_at hl 0 rfl) ?_
  refine va_get (D := D) (ci := 3) (v := .ref a_Re_codes) (C := "RemnantDictionary$Remnant") (T := T_Re) (N := 9) hx hb hts iw_Re hown hK hP 0 rfl rfl 3 (by decide) (hts _ k_150) (fun _ h9 => h9) rfl d_Re_takes_69 ?_
  refine lv_iload hx hb d_Re_takes_72 (lv_at hl 2 rfl) ?_
  refine lv_iload_n hx hb d_Re_takes_74 rfl (lv_at hl 1 rfl) ?_
  refine g_iast hx hb hK hP hD hS 1 0 rfl rfl hrun d_Re_takes_75 (fun Re_codes_1 hrun H locs (hP : va_P D classes (ws_reTakes a_Re a_Re_codes a_Re_products a_Re_bounds a_Re_pairs a_Re_keys cI cL cZ Re_prime Re_variables Re_size Re_pairCount Re_codes_1) H) (hD : va_D A (ws_reTakes a_Re a_Re_codes a_Re_products a_Re_bounds a_Re_pairs a_Re_keys cI cL cZ Re_prime Re_variables Re_size Re_pairCount Re_codes_1)) hS => ?_)
  refine lv_aload_n hx hb d_Re_takes_76 rfl (lv_at hl 0 rfl) ?_
  refine lv_dup hx hb d_Re_takes_77 rfl ?_
  refine va_get (D := D) (ci := 3) (v := .int Re_size) (C := "RemnantDictionary$Remnant") (T := T_Re) (N := 9) hx hb hts iw_Re hown hK hP 0 rfl rfl 2 (by decide) (hts _ k_142) (fun _ h9 => h9) rfl d_Re_takes_78 ?_
  refine lv_iconst (v := 1) hx hb d_Re_takes_81 (by decide) ?_
  refine lv_iadd hx hb d_Re_takes_82 ?_
  refine va_put (D := D) (ci := 3) (v := .int (Re_size + 1)) (ty := .int) (C := "RemnantDictionary$Remnant") (T := T_Re) (N := 9) hx hb hts iw_Re ty_Re ty_Re_ok nm_Re hown hK hP hD hS 0 rfl rfl 2 (by decide) (hts _ k_142) (fun _ h9 => h9) rfl (by decide +kernel) rfl rfl (Nat.le_of_ble_eq_true rfl) d_Re_takes_83 (fun H locs (hP : va_P D classes (ws_reTakes a_Re a_Re_codes a_Re_products a_Re_bounds a_Re_pairs a_Re_keys cI cL cZ Re_prime Re_variables (Re_size + 1) Re_pairCount Re_codes_1) H) (hD : va_D A (ws_reTakes a_Re a_Re_codes a_Re_products a_Re_bounds a_Re_pairs a_Re_keys cI cL cZ Re_prime Re_variables (Re_size + 1) Re_pairCount Re_codes_1)) hS => ?_)
  refine lv_iconst (v := 1) hx hb d_Re_takes_86 (by decide) ?_
  cases hrun
  exact W.zret hx hb hr rfl (fun t ht hW => ⟨⟨_, (), rfl, rfl, gB_of ht hW.alike hP hK hD⟩, hS.F ht⟩) hS.2.2 d_Re_takes_87
set_option maxHeartbeats 4000000 in
set_option maxRecDepth 100000 in
theorem w_reTakes_23 (X : gX) (D : va_G) (cI cL cZ : ClassId) (a_Re a_Re_codes a_Re_products a_Re_bounds a_Re_pairs a_Re_keys : Nat) (A : Nat → Prop) (Re_prime Re_variables Re_pairCount r_ Re_size_r : Int32) (Re_codes_r : Nat → Int32) (F : Nat) (C0 : gC X c_Re_takesb (some .boolean) 6 "RemnantDictionary$Remnant" gAll) (hK : va_K D classes (gT cI cL cZ) (gs X)) (hA : ∀ q : Nat, (gs X).heap.size ≤ q → A q) (hN : gN (gs X)) (k23 : Int32 → Int32 → Int64 → Int32 → Int32 → (Nat → Int32) → Option (Int32 × Int32 × (Nat → Int32))) (hk23 : ∀ (i1 i2 : Int32) (l3 : Int64) (i5 Re_size : Int32) (Re_codes : Nat → Int32), k23 i1 i2 l3 i5 Re_size Re_codes = some (r_, Re_size_r, Re_codes_r) → g_reTakes X D cI cL cZ a_Re a_Re_codes a_Re_products a_Re_bounds a_Re_pairs a_Re_keys A Re_prime Re_variables Re_pairCount r_ Re_size_r Re_codes_r 23 [(0, .ref a_Re), (1, .int i1), (2, .int i2), (3, .long l3), (5, .int i5)] [] Re_size Re_codes) (i1 i2 : Int32) (l3 : Int64) (i5 Re_size : Int32) (Re_codes : Nat → Int32) (hrun : s_reTakes_23 F k23 i1 i2 l3 i5 Re_size Re_codes = some (r_, Re_size_r, Re_codes_r)) : g_reTakes X D cI cL cZ a_Re a_Re_codes a_Re_products a_Re_bounds a_Re_pairs a_Re_keys A Re_prime Re_variables Re_pairCount r_ Re_size_r Re_codes_r 23 [(0, .ref a_Re), (1, .int i1), (2, .int i2), (3, .long l3), (5, .int i5)] [] Re_size Re_codes := by
  have C1 := C0
  obtain ⟨hx, hb, hr, hml, hown, hts, hlocks⟩ := C1
  unfold s_reTakes_23 at hrun
  intro H locs ls hP hD hS hl
  refine lv_iload hx hb d_Re_takes_23 (lv_at hl 4 rfl) ?_
  refine g_if_le (tgt := 68) hx hb d_Re_takes_25 (by decide) hrun (fun _ hrun => ?_) (fun _ hrun => ?_)
  · exact w_reTakes_68 X D cI cL cZ a_Re a_Re_codes a_Re_products a_Re_bounds a_Re_pairs a_Re_keys A Re_prime Re_variables Re_pairCount r_ Re_size_r Re_codes_r F C0 hK hA hN  i1 i5 Re_size Re_codes hrun H locs ls hP hD hS (lv_sub hl [0, 1, 4] rfl)
  · refine lv_aload_n hx hb d_Re_takes_28 rfl (lv_at hl 0 rfl) ?_
    refine va_get (D := D) (ci := 3) (v := .ref a_Re_codes) (C := "RemnantDictionary$Remnant") (T := T_Re) (N := 9) hx hb hts iw_Re hown hK hP 0 rfl rfl 3 (by decide) (hts _ k_150) (fun _ h9 => h9) rfl d_Re_takes_29 ?_
    refine lv_iload hx hb d_Re_takes_32 (lv_at hl 4 rfl) ?_
    refine lv_iconst (v := 1) hx hb d_Re_takes_34 (by decide) ?_
    refine lv_isub hx hb d_Re_takes_35 ?_
    refine g_iald hx hb hK hP 1 0 rfl rfl hrun d_Re_takes_36 (fun x_1 hrun => ?_)
    refine lv_iload_n hx hb d_Re_takes_37 rfl (lv_at hl 2 rfl) ?_
    obtain ⟨r_2, hc, hrun⟩ := bd1_s hrun
    refine vp_callSl (g_ofRun (va_runSN (As := [.int x_1, .int i2]) (rest := []) ⟨hx, hb, hml, hown, hts⟩ (c_key (gl X) F x_1 i2 r_2 hc) (⟨va_cnB 2 hts (gwN k_24) rfl rfl rfl (hN.1 _ (List.mem_of_getElem? (i := 9) rfl)) (hts _ k_14) (by decide +kernel) ⟨Nat.le_of_ble_eq_true rfl, Nat.le_of_ble_eq_true rfl⟩, hts _ k_44, trivial⟩) (gpreS0 hN) rfl rfl hl.1 rfl (lv_room (Nat.le_of_ble_eq_true rfl)) d_Re_takes_38 ⟨Nat.le_of_ble_eq_true rfl, Nat.le_of_ble_eq_true rfl⟩)) (nm_e ?_)
    refine lv_lload_n hx hb d_Re_takes_41 rfl (lv_at hl 3 rfl) ?_
    refine W.lcmp hx hb d_Re_takes_42 ?_
    refine g_if_le (tgt := 68) hx hb d_Re_takes_43 (by decide) hrun (fun _ hrun => ?_) (fun _ hrun => ?_)
    · exact w_reTakes_68 X D cI cL cZ a_Re a_Re_codes a_Re_products a_Re_bounds a_Re_pairs a_Re_keys A Re_prime Re_variables Re_pairCount r_ Re_size_r Re_codes_r F C0 hK hA hN  i1 i5 Re_size Re_codes hrun H locs ls hP hD hS (lv_sub hl [0, 1, 4] rfl)
    · refine lv_aload_n hx hb d_Re_takes_46 rfl (lv_at hl 0 rfl) ?_
      refine va_get (D := D) (ci := 3) (v := .ref a_Re_codes) (C := "RemnantDictionary$Remnant") (T := T_Re) (N := 9) hx hb hts iw_Re hown hK hP 0 rfl rfl 3 (by decide) (hts _ k_150) (fun _ h9 => h9) rfl d_Re_takes_47 ?_
      refine lv_iload hx hb d_Re_takes_50 (lv_at hl 4 rfl) ?_
      refine lv_aload_n hx hb d_Re_takes_52 rfl (lv_at hl 0 rfl) ?_
      refine va_get (D := D) (ci := 3) (v := .ref a_Re_codes) (C := "RemnantDictionary$Remnant") (T := T_Re) (N := 9) hx hb hts iw_Re hown hK hP 0 rfl rfl 3 (by decide) (hts _ k_150) (fun _ h9 => h9) rfl d_Re_takes_53 ?_
      refine lv_iload hx hb d_Re_takes_56 (lv_at hl 4 rfl) ?_
      refine lv_iconst (v := 1) hx hb d_Re_takes_58 (by decide) ?_
      refine lv_isub hx hb d_Re_takes_59 ?_
      refine g_iald hx hb hK hP 1 0 rfl rfl hrun d_Re_takes_60 (fun x_3 hrun => ?_)
      refine g_iast hx hb hK hP hD hS 1 0 rfl rfl hrun d_Re_takes_61 (fun Re_codes_4 hrun H locs (hP : va_P D classes (ws_reTakes a_Re a_Re_codes a_Re_products a_Re_bounds a_Re_pairs a_Re_keys cI cL cZ Re_prime Re_variables Re_size Re_pairCount Re_codes_4) H) (hD : va_D A (ws_reTakes a_Re a_Re_codes a_Re_products a_Re_bounds a_Re_pairs a_Re_keys cI cL cZ Re_prime Re_variables Re_size Re_pairCount Re_codes_4)) hS => ?_)
      refine lv_iinc (v := (i5 + (-1))) (lv' := [(5, .int (i5 + (-1))), (0, .ref a_Re), (1, .int i1), (2, .int i2), (3, .long l3)]) hx hb d_Re_takes_62 hl (k := 4) rfl rfl (by decide) rfl (fun ls hl => ?_)
      refine lv_goto (tgt := 23) hx hb d_Re_takes_65 (by decide) ?_
      exact hk23 i1 i2 l3 (i5 + (-1)) Re_size Re_codes_4 hrun H locs ls hP hD hS (lv_sub hl [1, 2, 3, 4, 0] rfl)
theorem v_reTakes_23 (X : gX) (D : va_G) (cI cL cZ : ClassId) (a_Re a_Re_codes a_Re_products a_Re_bounds a_Re_pairs a_Re_keys : Nat) (A : Nat → Prop) (Re_prime Re_variables Re_pairCount r_ Re_size_r : Int32) (Re_codes_r : Nat → Int32) (F : Nat) (C0 : gC X c_Re_takesb (some .boolean) 6 "RemnantDictionary$Remnant" gAll) (hK : va_K D classes (gT cI cL cZ) (gs X)) (hA : ∀ q : Nat, (gs X).heap.size ≤ q → A q) (hN : gN (gs X))  : ∀ (n : Nat) (i1 i2 : Int32) (l3 : Int64) (i5 Re_size : Int32) (Re_codes : Nat → Int32), b_reTakes_23 F n i1 i2 l3 i5 Re_size Re_codes = some (r_, Re_size_r, Re_codes_r) → g_reTakes X D cI cL cZ a_Re a_Re_codes a_Re_products a_Re_bounds a_Re_pairs a_Re_keys A Re_prime Re_variables Re_pairCount r_ Re_size_r Re_codes_r 23 [(0, .ref a_Re), (1, .int i1), (2, .int i2), (3, .long l3), (5, .int i5)] [] Re_size Re_codes := by
  intro n
  induction n with
  | zero => intro i1 i2 l3 i5 Re_size Re_codes hrun; cases hrun
  | succ n ih =>
    intro i1 i2 l3 i5 Re_size Re_codes hrun
    exact w_reTakes_23 X D cI cL cZ a_Re a_Re_codes a_Re_products a_Re_bounds a_Re_pairs a_Re_keys A Re_prime Re_variables Re_pairCount r_ Re_size_r Re_codes_r F C0 hK hA hN (b_reTakes_23 F n) ih i1 i2 l3 i5 Re_size Re_codes hrun
set_option maxHeartbeats 4000000 in
set_option maxRecDepth 100000 in
theorem e_reTakes (X : gX) (D : va_G) (cI cL cZ : ClassId) (a_Re a_Re_codes a_Re_products a_Re_bounds a_Re_pairs a_Re_keys : Nat) (A : Nat → Prop) (Re_prime Re_variables Re_pairCount r_ Re_size_r : Int32) (Re_codes_r : Nat → Int32) (F : Nat) (C0 : gC X c_Re_takesb (some .boolean) 6 "RemnantDictionary$Remnant" gAll) (hK : va_K D classes (gT cI cL cZ) (gs X)) (hA : ∀ q : Nat, (gs X).heap.size ≤ q → A q) (hN : gN (gs X)) (i1 i2 Re_size : Int32) (Re_codes : Nat → Int32) (hrun : m_reTakes F i1 i2 Re_size Re_codes = some (r_, Re_size_r, Re_codes_r)) : g_reTakes X D cI cL cZ a_Re a_Re_codes a_Re_products a_Re_bounds a_Re_pairs a_Re_keys A Re_prime Re_variables Re_pairCount r_ Re_size_r Re_codes_r 0 [(0, .ref a_Re), (1, .int i1), (2, .int i2)] [] Re_size Re_codes := by
  have C1 := C0
  obtain ⟨hx, hb, hr, hml, hown, hts, hlocks⟩ := C1
  unfold m_reTakes at hrun
  intro H locs ls hP hD hS hl
  refine lv_aload_n hx hb d_Re_takes_0 rfl (lv_at hl 0 rfl) ?_
  refine va_get (D := D) (ci := 3) (v := .int Re_size) (C := "RemnantDictionary$Remnant") (T := T_Re) (N := 9) hx hb hts iw_Re hown hK hP 0 rfl rfl 2 (by decide) (hts _ k_142) (fun _ h9 => h9) rfl d_Re_takes_1 ?_
  refine lv_bipush (v := 40) hx hb d_Re_takes_4 (by decide) ?_
  refine g_icmp_lt (tgt := 11) hx hb d_Re_takes_6 (by decide) hrun (fun _ hrun => ?_) (fun _ hrun => ?_)
  · refine lv_iload_n hx hb d_Re_takes_11 rfl (lv_at hl 1 rfl) ?_
    refine lv_iload_n hx hb d_Re_takes_12 rfl (lv_at hl 2 rfl) ?_
    obtain ⟨r_1, hc, hrun⟩ := bd1_s hrun
    refine vp_callSl (g_ofRun (va_runSN (As := [.int i1, .int i2]) (rest := []) ⟨hx, hb, hml, hown, hts⟩ (c_key (gl X) F i1 i2 r_1 hc) (⟨va_cnB 2 hts (gwN k_24) rfl rfl rfl (hN.1 _ (List.mem_of_getElem? (i := 9) rfl)) (hts _ k_14) (by decide +kernel) ⟨Nat.le_of_ble_eq_true rfl, Nat.le_of_ble_eq_true rfl⟩, hts _ k_44, trivial⟩) (gpreS0 hN) rfl rfl hl.1 rfl (lv_room (Nat.le_of_ble_eq_true rfl)) d_Re_takes_13 ⟨Nat.le_of_ble_eq_true rfl, Nat.le_of_ble_eq_true rfl⟩)) (nm_e ?_)
    refine lv_lstore_n (lv' := [(3, .long r_1), (0, .ref a_Re), (1, .int i1), (2, .int i2)]) hx hb d_Re_takes_16 rfl hl (by decide) rfl (fun ls hl => ?_)
    refine lv_aload_n hx hb d_Re_takes_17 rfl (lv_at hl 1 rfl) ?_
    refine va_get (D := D) (ci := 3) (v := .int Re_size) (C := "RemnantDictionary$Remnant") (T := T_Re) (N := 9) hx hb hts iw_Re hown hK hP 0 rfl rfl 2 (by decide) (hts _ k_142) (fun _ h9 => h9) rfl d_Re_takes_18 ?_
    refine lv_istore (lv' := [(5, .int Re_size), (3, .long r_1), (0, .ref a_Re), (1, .int i1), (2, .int i2)]) hx hb d_Re_takes_21 hl (by decide) rfl (fun ls hl => ?_)
    exact v_reTakes_23 X D cI cL cZ a_Re a_Re_codes a_Re_products a_Re_bounds a_Re_pairs a_Re_keys A Re_prime Re_variables Re_pairCount r_ Re_size_r Re_codes_r F C0 hK hA hN  F i1 i2 r_1 Re_size Re_size Re_codes hrun H locs ls hP hD hS (lv_sub hl [2, 3, 4, 1, 0] rfl)
  · refine lv_iconst (v := 0) hx hb d_Re_takes_9 (by decide) ?_
    cases hrun
    exact W.zret hx hb hr rfl (fun t ht hW => ⟨⟨_, (), rfl, rfl, gB_of ht hW.alike hP hK hD⟩, hS.F ht⟩) hS.2.2 d_Re_takes_10
set_option maxHeartbeats 4000000 in
set_option maxRecDepth 100000 in
theorem c_reTakes (l : Launch) (D : va_G) (cI cL cZ : ClassId) (a_Re a_Re_codes a_Re_products a_Re_bounds a_Re_pairs a_Re_keys : Nat) (F : Nat) (Re_prime Re_variables Re_size Re_pairCount : Int32) (Re_codes : Nat → Int32) (i1 i2 : Int32) (sz : Nat) (r_ Re_size_r : Int32) (Re_codes_r : Nat → Int32) (hrun : m_reTakes F i1 i2 Re_size Re_codes = some (r_, Re_size_r, Re_codes_r)) : Met l y_Re_takes (.code y_Re_takes c_Re_takesb 6 (some .boolean) :: gAll) rm_reTakes (va_Pc [.ref a_Re, .int i1, .int i2] (gPW D (gT cI cL cZ) (ws_reTakes a_Re a_Re_codes a_Re_products a_Re_bounds a_Re_pairs a_Re_keys cI cL cZ Re_prime Re_variables Re_size Re_pairCount Re_codes) sz)) (va_Qi (fun r (_ : Unit) => r = r_) (gB D (gT cI cL cZ) (va_A (ws_reTakes a_Re a_Re_codes a_Re_products a_Re_bounds a_Re_pairs a_Re_keys cI cL cZ Re_prime Re_variables Re_size Re_pairCount Re_codes) sz) (ws_reTakes a_Re a_Re_codes a_Re_products a_Re_bounds a_Re_pairs a_Re_keys cI cL cZ Re_prime Re_variables Re_size_r Re_pairCount Re_codes_r)) (va_A (ws_reTakes a_Re a_Re_codes a_Re_products a_Re_bounds a_Re_pairs a_Re_keys cI cL cZ Re_prime Re_variables Re_size Re_pairCount Re_codes) sz)) 0 0 (va_A (ws_reTakes a_Re a_Re_codes a_Re_products a_Re_bounds a_Re_pairs a_Re_keys cI cL cZ Re_prime Re_variables Re_size Re_pairCount Re_codes) sz) := by
  refine Met.ofW (cc := c_Re_takesb) (maxL := 6) (ret := (some .boolean)) (by decide +kernel) rfl ?_
  intro p e s m args below meth c s₁ B hml hv
  obtain ⟨rfl, hsz, hP, hK, hN, hD0⟩ := hv
  subst hsz
  have hD := hD0.self (sz := s.heap.size)
  have hl := lv_entry ([.ref a_Re, .int i1, .int i2]) (n := 6) (Nat.le_of_ble_eq_true rfl)
  rw [lg_entry_eq]
  generalize (lg_sl ([.ref a_Re, .int i1, .int i2]) ++ List.replicate (6 - (lg_sl ([.ref a_Re, .int i1, .int i2])).length) Slot.unset).toArray = ls at hl ⊢
  exact e_reTakes (p, l, e, s, m, ([.ref a_Re, .int i1, .int i2] : List Value).toArray, below, meth, c) D cI cL cZ a_Re a_Re_codes a_Re_products a_Re_bounds a_Re_pairs a_Re_keys (va_A (ws_reTakes a_Re a_Re_codes a_Re_products a_Re_bounds a_Re_pairs a_Re_keys cI cL cZ Re_prime Re_variables Re_size Re_pairCount Re_codes) s.heap.size) Re_prime Re_variables Re_pairCount r_ Re_size_r Re_codes_r F ⟨B.exec, B.bytes, B.returns, hml, findClass_of_methodNamed B.named, fun w h => atoms_spec (ws := (.code y_Re_takes c_Re_takesb 6 (some .boolean) :: gAll)) B.pre w (List.mem_cons_of_mem _ h), B.notSynchronized⟩ hK (fun q h => Or.inr h) hN i1 i2 Re_size Re_codes hrun s.heap [] ls hP hD va_S.rf hl
theorem d_Re_gatherWithin_0 : decode c_Re_gatherWithinb 0 = .ok (.iconst 0, 1) := by decide +kernel
theorem d_Re_gatherWithin_1 : decode c_Re_gatherWithinb 1 = .ok (.istore_n 2, 1) := by decide +kernel
theorem d_Re_gatherWithin_2 : decode c_Re_gatherWithinb 2 = .ok (.iload_n 2, 1) := by decide +kernel
theorem d_Re_gatherWithin_3 : decode c_Re_gatherWithinb 3 = .ok (.aload_n 0, 1) := by decide +kernel
theorem d_Re_gatherWithin_4 : decode c_Re_gatherWithinb 4 = .ok (.getfield 18, 3) := by decide +kernel
theorem d_Re_gatherWithin_7 : decode c_Re_gatherWithinb 7 = .ok (.iconst 0, 1) := by decide +kernel
theorem d_Re_gatherWithin_8 : decode c_Re_gatherWithinb 8 = .ok (.iaload, 1) := by decide +kernel
theorem d_Re_gatherWithin_9 : decode c_Re_gatherWithinb 9 = .ok (.if_icmp .ge 114, 3) := by decide +kernel
theorem d_Re_gatherWithin_12 : decode c_Re_gatherWithinb 12 = .ok (.iconst 0, 1) := by decide +kernel
theorem d_Re_gatherWithin_13 : decode c_Re_gatherWithinb 13 = .ok (.istore_n 3, 1) := by decide +kernel
theorem d_Re_gatherWithin_14 : decode c_Re_gatherWithinb 14 = .ok (.iload_n 3, 1) := by decide +kernel
theorem d_Re_gatherWithin_15 : decode c_Re_gatherWithinb 15 = .ok (.aload_n 0, 1) := by decide +kernel
theorem d_Re_gatherWithin_16 : decode c_Re_gatherWithinb 16 = .ok (.getfield 18, 3) := by decide +kernel
theorem d_Re_gatherWithin_19 : decode c_Re_gatherWithinb 19 = .ok (.iconst 1, 1) := by decide +kernel
theorem d_Re_gatherWithin_20 : decode c_Re_gatherWithinb 20 = .ok (.iaload, 1) := by decide +kernel
theorem d_Re_gatherWithin_21 : decode c_Re_gatherWithinb 21 = .ok (.if_icmp .ge 96, 3) := by decide +kernel
theorem d_Re_gatherWithin_24 : decode c_Re_gatherWithinb 24 = .ok (.iconst 0, 1) := by decide +kernel
theorem d_Re_gatherWithin_25 : decode c_Re_gatherWithinb 25 = .ok (.istore 4, 2) := by decide +kernel
theorem d_Re_gatherWithin_27 : decode c_Re_gatherWithinb 27 = .ok (.iload 4, 2) := by decide +kernel
theorem d_Re_gatherWithin_29 : decode c_Re_gatherWithinb 29 = .ok (.aload_n 0, 1) := by decide +kernel
theorem d_Re_gatherWithin_30 : decode c_Re_gatherWithinb 30 = .ok (.getfield 18, 3) := by decide +kernel
theorem d_Re_gatherWithin_33 : decode c_Re_gatherWithinb 33 = .ok (.iconst 2, 1) := by decide +kernel
theorem d_Re_gatherWithin_34 : decode c_Re_gatherWithinb 34 = .ok (.iaload, 1) := by decide +kernel
theorem d_Re_gatherWithin_35 : decode c_Re_gatherWithinb 35 = .ok (.if_icmp .ge 76, 3) := by decide +kernel
theorem d_Re_gatherWithin_38 : decode c_Re_gatherWithinb 38 = .ok (.iconst 0, 1) := by decide +kernel
theorem d_Re_gatherWithin_39 : decode c_Re_gatherWithinb 39 = .ok (.istore 5, 2) := by decide +kernel
theorem d_Re_gatherWithin_41 : decode c_Re_gatherWithinb 41 = .ok (.iload 5, 2) := by decide +kernel
theorem d_Re_gatherWithin_43 : decode c_Re_gatherWithinb 43 = .ok (.aload_n 0, 1) := by decide +kernel
theorem d_Re_gatherWithin_44 : decode c_Re_gatherWithinb 44 = .ok (.getfield 18, 3) := by decide +kernel
theorem d_Re_gatherWithin_47 : decode c_Re_gatherWithinb 47 = .ok (.iconst 3, 1) := by decide +kernel
theorem d_Re_gatherWithin_48 : decode c_Re_gatherWithinb 48 = .ok (.iaload, 1) := by decide +kernel
theorem d_Re_gatherWithin_49 : decode c_Re_gatherWithinb 49 = .ok (.if_icmp .ge 56, 3) := by decide +kernel
theorem d_Re_gatherWithin_52 : decode c_Re_gatherWithinb 52 = .ok (.iload_n 2, 1) := by decide +kernel
theorem d_Re_gatherWithin_53 : decode c_Re_gatherWithinb 53 = .ok (.bipush 24, 2) := by decide +kernel
theorem d_Re_gatherWithin_55 : decode c_Re_gatherWithinb 55 = .ok (.ishl, 1) := by decide +kernel
theorem d_Re_gatherWithin_56 : decode c_Re_gatherWithinb 56 = .ok (.iload_n 3, 1) := by decide +kernel
theorem d_Re_gatherWithin_57 : decode c_Re_gatherWithinb 57 = .ok (.bipush 16, 2) := by decide +kernel
theorem d_Re_gatherWithin_59 : decode c_Re_gatherWithinb 59 = .ok (.ishl, 1) := by decide +kernel
theorem d_Re_gatherWithin_60 : decode c_Re_gatherWithinb 60 = .ok (.ior, 1) := by decide +kernel
theorem d_Re_gatherWithin_61 : decode c_Re_gatherWithinb 61 = .ok (.iload 4, 2) := by decide +kernel
theorem d_Re_gatherWithin_63 : decode c_Re_gatherWithinb 63 = .ok (.bipush 8, 2) := by decide +kernel
theorem d_Re_gatherWithin_65 : decode c_Re_gatherWithinb 65 = .ok (.ishl, 1) := by decide +kernel
theorem d_Re_gatherWithin_66 : decode c_Re_gatherWithinb 66 = .ok (.ior, 1) := by decide +kernel
theorem d_Re_gatherWithin_67 : decode c_Re_gatherWithinb 67 = .ok (.iload 5, 2) := by decide +kernel
theorem d_Re_gatherWithin_69 : decode c_Re_gatherWithinb 69 = .ok (.ior, 1) := by decide +kernel
theorem d_Re_gatherWithin_70 : decode c_Re_gatherWithinb 70 = .ok (.istore 6, 2) := by decide +kernel
theorem d_Re_gatherWithin_72 : decode c_Re_gatherWithinb 72 = .ok (.aload_n 1, 1) := by decide +kernel
theorem d_Re_gatherWithin_73 : decode c_Re_gatherWithinb 73 = .ok (.iload 6, 2) := by decide +kernel
theorem d_Re_gatherWithin_75 : decode c_Re_gatherWithinb 75 = .ok (.invokevirtual 62, 3) := by decide +kernel
theorem d_Re_gatherWithin_78 : decode c_Re_gatherWithinb 78 = .ok (.ifCond .ne 21, 3) := by decide +kernel
theorem d_Re_gatherWithin_81 : decode c_Re_gatherWithinb 81 = .ok (.aload_n 0, 1) := by decide +kernel
theorem d_Re_gatherWithin_82 : decode c_Re_gatherWithinb 82 = .ok (.iload 6, 2) := by decide +kernel
theorem d_Re_gatherWithin_84 : decode c_Re_gatherWithinb 84 = .ok (.aload_n 1, 1) := by decide +kernel
theorem d_Re_gatherWithin_85 : decode c_Re_gatherWithinb 85 = .ok (.getfield 38, 3) := by decide +kernel
theorem d_Re_gatherWithin_88 : decode c_Re_gatherWithinb 88 = .ok (.getfield 66, 3) := by decide +kernel
theorem d_Re_gatherWithin_91 : decode c_Re_gatherWithinb 91 = .ok (.invokevirtual 69, 3) := by decide +kernel
theorem d_Re_gatherWithin_94 : decode c_Re_gatherWithinb 94 = .ok (.ifCond .ne 5, 3) := by decide +kernel
theorem d_Re_gatherWithin_97 : decode c_Re_gatherWithinb 97 = .ok (.iconst 0, 1) := by decide +kernel
theorem d_Re_gatherWithin_98 : decode c_Re_gatherWithinb 98 = .ok (.ireturn, 1) := by decide +kernel
theorem d_Re_gatherWithin_99 : decode c_Re_gatherWithinb 99 = .ok (.iinc 5 1, 3) := by decide +kernel
theorem d_Re_gatherWithin_102 : decode c_Re_gatherWithinb 102 = .ok (.goto (-61), 3) := by decide +kernel
theorem d_Re_gatherWithin_105 : decode c_Re_gatherWithinb 105 = .ok (.iinc 4 1, 3) := by decide +kernel
theorem d_Re_gatherWithin_108 : decode c_Re_gatherWithinb 108 = .ok (.goto (-81), 3) := by decide +kernel
theorem d_Re_gatherWithin_111 : decode c_Re_gatherWithinb 111 = .ok (.iinc 3 1, 3) := by decide +kernel
theorem d_Re_gatherWithin_114 : decode c_Re_gatherWithinb 114 = .ok (.goto (-100), 3) := by decide +kernel
theorem d_Re_gatherWithin_117 : decode c_Re_gatherWithinb 117 = .ok (.iinc 2 1, 3) := by decide +kernel
theorem d_Re_gatherWithin_120 : decode c_Re_gatherWithinb 120 = .ok (.goto (-118), 3) := by decide +kernel
theorem d_Re_gatherWithin_123 : decode c_Re_gatherWithinb 123 = .ok (.iconst 1, 1) := by decide +kernel
theorem d_Re_gatherWithin_124 : decode c_Re_gatherWithinb 124 = .ok (.ireturn, 1) := by decide +kernel
abbrev ws_gatherWithin (a_Mo a_Sp a_Re a_Mo_codes a_Sp_basis a_Re_codes a_Re_bounds a_Mo_degrees a_Mo_keys a_Mo_raised a_Sp_rows a_Sp_leads a_Sp_kept a_Sp_work a_Re_products a_Re_pairs a_Re_keys : Nat) (cI cL cZ : ClassId) (Mo_variables Mo_order Mo_highest Mo_count Sp_prime Sp_limit Sp_keptCount Sp_basisCount Re_prime Re_variables Re_size Re_pairCount : Int32) (Mo_codes Sp_basis Re_codes Re_bounds : Nat → Int32) : va_W := [(a_Mo, .inr (1, [.int Mo_variables, .int Mo_order, .int Mo_highest, .int Mo_count, .ref a_Mo_codes, .ref a_Mo_degrees, .ref a_Mo_keys, .ref a_Mo_raised])), (a_Sp, .inr (2, [.ref a_Mo, .int Sp_prime, .int Sp_limit, .ref a_Sp_rows, .ref a_Sp_leads, .ref a_Sp_kept, .int Sp_keptCount, .ref a_Sp_work, .ref a_Sp_basis, .int Sp_basisCount])), (a_Re, .inr (3, [.int Re_prime, .int Re_variables, .int Re_size, .ref a_Re_codes, .ref a_Re_products, .ref a_Re_bounds, .ref a_Re_pairs, .ref a_Re_keys, .int Re_pairCount])), (a_Mo_codes, .inl (cI, 126, .inl Mo_codes)), (a_Sp_basis, .inl (cI, 126, .inl Sp_basis)), (a_Re_codes, .inl (cI, 40, .inl Re_codes)), (a_Re_bounds, .inl (cI, 4, .inl Re_bounds))]
abbrev rm_gatherWithin : Room := { frames := 4, cells := 0, slots := 0, locals := 91 }
abbrev g_gatherWithin (X : gX) (D : va_G) (cI cL cZ : ClassId) (a_Mo a_Sp a_Re a_Mo_codes a_Sp_basis a_Re_codes a_Re_bounds a_Mo_degrees a_Mo_keys a_Mo_raised a_Sp_rows a_Sp_leads a_Sp_kept a_Sp_work a_Re_products a_Re_pairs a_Re_keys : Nat) (A : Nat → Prop) (Mo_variables Mo_order Mo_highest Mo_count Sp_prime Sp_limit Sp_keptCount Sp_basisCount Re_prime Re_variables Re_pairCount : Int32) (Mo_codes Sp_basis Re_bounds : Nat → Int32) (r_ Re_size_r : Int32) (Re_codes_r : Nat → Int32) (pc : Nat) (lv : List (Nat × Value)) (st : List Value) (Re_size : Int32) (Re_codes : Nat → Int32) : Prop := ∀ (H : Heap) (locs : List Loc) (ls : Array Slot), va_P D classes (ws_gatherWithin a_Mo a_Sp a_Re a_Mo_codes a_Sp_basis a_Re_codes a_Re_bounds a_Mo_degrees a_Mo_keys a_Mo_raised a_Sp_rows a_Sp_leads a_Sp_kept a_Sp_work a_Re_products a_Re_pairs a_Re_keys cI cL cZ Mo_variables Mo_order Mo_highest Mo_count Sp_prime Sp_limit Sp_keptCount Sp_basisCount Re_prime Re_variables Re_size Re_pairCount Mo_codes Sp_basis Re_codes Re_bounds) H → va_D A (ws_gatherWithin a_Mo a_Sp a_Re a_Mo_codes a_Sp_basis a_Re_codes a_Re_bounds a_Mo_degrees a_Mo_keys a_Mo_raised a_Sp_rows a_Sp_leads a_Sp_kept a_Sp_work a_Re_products a_Re_pairs a_Re_keys cI cL cZ Mo_variables Mo_order Mo_highest Mo_count Sp_prime Sp_limit Sp_keptCount Sp_basisCount Re_prime Re_variables Re_size Re_pairCount Mo_codes Sp_basis Re_codes Re_bounds) → va_S A (gs X).heap H locs → lv_has ls 7 lv → gWW X rm_gatherWithin H locs 0 0 (MQ (gbl X) (va_Qi (fun r (_ : Unit) => r = r_) (gB D (gT cI cL cZ) A (ws_gatherWithin a_Mo a_Sp a_Re a_Mo_codes a_Sp_basis a_Re_codes a_Re_bounds a_Mo_degrees a_Mo_keys a_Mo_raised a_Sp_rows a_Sp_leads a_Sp_kept a_Sp_work a_Re_products a_Re_pairs a_Re_keys cI cL cZ Mo_variables Mo_order Mo_highest Mo_count Sp_prime Sp_limit Sp_keptCount Sp_basisCount Re_prime Re_variables Re_size_r Re_pairCount Mo_codes Sp_basis Re_codes_r Re_bounds)) A) (ga X) (gs X) 0 0 A) (F0 (gm X) pc ls st)
set_option maxHeartbeats 4000000 in
set_option maxRecDepth 100000 in
theorem w_gatherWithin_41 (X : gX) (D : va_G) (cI cL cZ : ClassId) (a_Mo a_Sp a_Re a_Mo_codes a_Sp_basis a_Re_codes a_Re_bounds a_Mo_degrees a_Mo_keys a_Mo_raised a_Sp_rows a_Sp_leads a_Sp_kept a_Sp_work a_Re_products a_Re_pairs a_Re_keys : Nat) (A : Nat → Prop) (Mo_variables Mo_order Mo_highest Mo_count Sp_prime Sp_limit Sp_keptCount Sp_basisCount Re_prime Re_variables Re_pairCount : Int32) (Mo_codes Sp_basis Re_bounds : Nat → Int32) (r_ Re_size_r : Int32) (Re_codes_r : Nat → Int32) (F : Nat) (C0 : gC X c_Re_gatherWithinb (some .boolean) 7 "RemnantDictionary$Remnant" gAll) (hK : va_K D classes (gT cI cL cZ) (gs X)) (hA : ∀ q : Nat, (gs X).heap.size ≤ q → A q) (hN : gN (gs X)) (k2 : Int32 → Int32 → (Nat → Int32) → Option (Int32 × Int32 × (Nat → Int32))) (hk2 : ∀ (i2 Re_size : Int32) (Re_codes : Nat → Int32), k2 i2 Re_size Re_codes = some (r_, Re_size_r, Re_codes_r) → g_gatherWithin X D cI cL cZ a_Mo a_Sp a_Re a_Mo_codes a_Sp_basis a_Re_codes a_Re_bounds a_Mo_degrees a_Mo_keys a_Mo_raised a_Sp_rows a_Sp_leads a_Sp_kept a_Sp_work a_Re_products a_Re_pairs a_Re_keys A Mo_variables Mo_order Mo_highest Mo_count Sp_prime Sp_limit Sp_keptCount Sp_basisCount Re_prime Re_variables Re_pairCount Mo_codes Sp_basis Re_bounds r_ Re_size_r Re_codes_r 2 [(0, .ref a_Re), (1, .ref a_Sp), (2, .int i2)] [] Re_size Re_codes) (k14 : Int32 → Int32 → Int32 → (Nat → Int32) → Option (Int32 × Int32 × (Nat → Int32))) (hk14 : ∀ (i2 i3 Re_size : Int32) (Re_codes : Nat → Int32), k14 i2 i3 Re_size Re_codes = some (r_, Re_size_r, Re_codes_r) → g_gatherWithin X D cI cL cZ a_Mo a_Sp a_Re a_Mo_codes a_Sp_basis a_Re_codes a_Re_bounds a_Mo_degrees a_Mo_keys a_Mo_raised a_Sp_rows a_Sp_leads a_Sp_kept a_Sp_work a_Re_products a_Re_pairs a_Re_keys A Mo_variables Mo_order Mo_highest Mo_count Sp_prime Sp_limit Sp_keptCount Sp_basisCount Re_prime Re_variables Re_pairCount Mo_codes Sp_basis Re_bounds r_ Re_size_r Re_codes_r 14 [(0, .ref a_Re), (1, .ref a_Sp), (2, .int i2), (3, .int i3)] [] Re_size Re_codes) (k27 : Int32 → Int32 → Int32 → Int32 → (Nat → Int32) → Option (Int32 × Int32 × (Nat → Int32))) (hk27 : ∀ (i2 i3 i4 Re_size : Int32) (Re_codes : Nat → Int32), k27 i2 i3 i4 Re_size Re_codes = some (r_, Re_size_r, Re_codes_r) → g_gatherWithin X D cI cL cZ a_Mo a_Sp a_Re a_Mo_codes a_Sp_basis a_Re_codes a_Re_bounds a_Mo_degrees a_Mo_keys a_Mo_raised a_Sp_rows a_Sp_leads a_Sp_kept a_Sp_work a_Re_products a_Re_pairs a_Re_keys A Mo_variables Mo_order Mo_highest Mo_count Sp_prime Sp_limit Sp_keptCount Sp_basisCount Re_prime Re_variables Re_pairCount Mo_codes Sp_basis Re_bounds r_ Re_size_r Re_codes_r 27 [(0, .ref a_Re), (1, .ref a_Sp), (2, .int i2), (3, .int i3), (4, .int i4)] [] Re_size Re_codes) (k41 : Int32 → Int32 → Int32 → Int32 → Int32 → (Nat → Int32) → Option (Int32 × Int32 × (Nat → Int32))) (hk41 : ∀ (i2 i3 i4 i5 Re_size : Int32) (Re_codes : Nat → Int32), k41 i2 i3 i4 i5 Re_size Re_codes = some (r_, Re_size_r, Re_codes_r) → g_gatherWithin X D cI cL cZ a_Mo a_Sp a_Re a_Mo_codes a_Sp_basis a_Re_codes a_Re_bounds a_Mo_degrees a_Mo_keys a_Mo_raised a_Sp_rows a_Sp_leads a_Sp_kept a_Sp_work a_Re_products a_Re_pairs a_Re_keys A Mo_variables Mo_order Mo_highest Mo_count Sp_prime Sp_limit Sp_keptCount Sp_basisCount Re_prime Re_variables Re_pairCount Mo_codes Sp_basis Re_bounds r_ Re_size_r Re_codes_r 41 [(0, .ref a_Re), (1, .ref a_Sp), (2, .int i2), (3, .int i3), (4, .int i4), (5, .int i5)] [] Re_size Re_codes) (i2 i3 i4 i5 Re_size : Int32) (Re_codes : Nat → Int32) (hrun : s_gatherWithin_41 F Mo_order Sp_basisCount Mo_codes Sp_basis Re_bounds k2 k14 k27 k41 i2 i3 i4 i5 Re_size Re_codes = some (r_, Re_size_r, Re_codes_r)) : g_gatherWithin X D cI cL cZ a_Mo a_Sp a_Re a_Mo_codes a_Sp_basis a_Re_codes a_Re_bounds a_Mo_degrees a_Mo_keys a_Mo_raised a_Sp_rows a_Sp_leads a_Sp_kept a_Sp_work a_Re_products a_Re_pairs a_Re_keys A Mo_variables Mo_order Mo_highest Mo_count Sp_prime Sp_limit Sp_keptCount Sp_basisCount Re_prime Re_variables Re_pairCount Mo_codes Sp_basis Re_bounds r_ Re_size_r Re_codes_r 41 [(0, .ref a_Re), (1, .ref a_Sp), (2, .int i2), (3, .int i3), (4, .int i4), (5, .int i5)] [] Re_size Re_codes := by
  have C1 := C0
  obtain ⟨hx, hb, hr, hml, hown, hts, hlocks⟩ := C1
  unfold s_gatherWithin_41 at hrun
  intro H locs ls hP hD hS hl
  refine lv_iload hx hb d_Re_gatherWithin_41 (lv_at hl 5 rfl) ?_
  refine lv_aload_n hx hb d_Re_gatherWithin_43 rfl (lv_at hl 0 rfl) ?_
  refine va_get (D := D) (ci := 3) (v := .ref a_Re_bounds) (C := "RemnantDictionary$Remnant") (T := T_Re) (N := 9) hx hb hts iw_Re hown hK hP 2 rfl rfl 5 (by decide) (hts _ k_144) (fun _ h9 => h9) rfl d_Re_gatherWithin_44 ?_
  refine lv_iconst (v := 3) hx hb d_Re_gatherWithin_47 (by decide) ?_
  refine g_iald hx hb hK hP 6 0 rfl rfl hrun d_Re_gatherWithin_48 (fun x_1 hrun => ?_)
  refine g_icmp_ge (tgt := 105) hx hb d_Re_gatherWithin_49 (by decide) hrun (fun _ hrun => ?_) (fun _ hrun => ?_)
  · refine lv_iinc (v := (i4 + 1)) (lv' := [(4, .int (i4 + 1)), (0, .ref a_Re), (1, .ref a_Sp), (2, .int i2), (3, .int i3), (5, .int i5)]) hx hb d_Re_gatherWithin_105 hl (k := 4) rfl rfl (by decide) rfl (fun ls hl => ?_)
    refine lv_goto (tgt := 27) hx hb d_Re_gatherWithin_108 (by decide) ?_
    exact hk27 i2 i3 (i4 + 1) Re_size Re_codes hrun H locs ls hP hD hS (lv_sub hl [1, 2, 3, 4, 0] rfl)
  · refine lv_iload_n hx hb d_Re_gatherWithin_52 rfl (lv_at hl 2 rfl) ?_
    refine lv_bipush (v := 24) hx hb d_Re_gatherWithin_53 (by decide) ?_
    refine g_ishl hx hb d_Re_gatherWithin_55 ?_
    refine lv_iload_n hx hb d_Re_gatherWithin_56 rfl (lv_at hl 3 rfl) ?_
    refine lv_bipush (v := 16) hx hb d_Re_gatherWithin_57 (by decide) ?_
    refine g_ishl hx hb d_Re_gatherWithin_59 ?_
    refine lv_ior hx hb d_Re_gatherWithin_60 ?_
    refine lv_iload hx hb d_Re_gatherWithin_61 (lv_at hl 4 rfl) ?_
    refine lv_bipush (v := 8) hx hb d_Re_gatherWithin_63 (by decide) ?_
    refine g_ishl hx hb d_Re_gatherWithin_65 ?_
    refine lv_ior hx hb d_Re_gatherWithin_66 ?_
    refine lv_iload hx hb d_Re_gatherWithin_67 (lv_at hl 5 rfl) ?_
    refine lv_ior hx hb d_Re_gatherWithin_69 ?_
    refine lv_istore (lv' := [(6, .int ((((shlI i2 24) ||| (shlI i3 16)) ||| (shlI i4 8)) ||| i5)), (0, .ref a_Re), (1, .ref a_Sp), (2, .int i2), (3, .int i3), (4, .int i4), (5, .int i5)]) hx hb d_Re_gatherWithin_70 hl (by decide) rfl (fun ls hl => ?_)
    refine lv_aload_n hx hb d_Re_gatherWithin_72 rfl (lv_at hl 2 rfl) ?_
    refine lv_iload hx hb d_Re_gatherWithin_73 (lv_at hl 0 rfl) ?_
    obtain ⟨r_2, hc, hrun⟩ := bd1_s hrun
    refine vp_callSi (W.runV (As := [.int ((((shlI i2 24) ||| (shlI i3 16)) ||| (shlI i4 8)) ||| i5)]) (rest := []) ⟨hx, hb, hml, hown, hts⟩ (c_hasLead (gl X) D cI cL cZ a_Mo a_Sp a_Mo_codes a_Sp_basis a_Mo_degrees a_Mo_keys a_Mo_raised a_Sp_rows a_Sp_leads a_Sp_kept a_Sp_work F Mo_variables Mo_order Mo_highest Mo_count Sp_prime Sp_limit Sp_keptCount Sp_basisCount Mo_codes Sp_basis ((((shlI i2 24) ||| (shlI i3 16)) ||| (shlI i4 8)) ||| i5) r_2 hc) (cwV 1 hts (gwV k_152 k_122 k_123 k_91 k_120) rfl rfl rfl (by decide +kernel) ⟨Nat.le_of_ble_eq_true rfl, Nat.le_of_ble_eq_true rfl⟩) (gpreV (hP.sub (ws' := (ws_hasLead a_Mo a_Sp a_Mo_codes a_Sp_basis a_Mo_degrees a_Mo_keys a_Mo_raised a_Sp_rows a_Sp_leads a_Sp_kept a_Sp_work cI cL cZ Mo_variables Mo_order Mo_highest Mo_count Sp_prime Sp_limit Sp_keptCount Sp_basisCount Mo_codes Sp_basis)) [0, 1, 3, 4] rfl) hK hN 2 1 rfl rfl) rfl rfl hl.1 rfl (lv_room (Nat.le_of_ble_eq_true rfl)) d_Re_gatherWithin_75 ⟨Nat.le_of_ble_eq_true rfl, Nat.le_of_ble_eq_true rfl⟩) (nm_e ?_)
    refine g_if_ne (tgt := 99) hx hb d_Re_gatherWithin_78 (by decide) hrun (fun _ hrun => ?_) (fun _ hrun => ?_)
    · refine lv_iinc (v := (i5 + 1)) (lv' := [(5, .int (i5 + 1)), (6, .int ((((shlI i2 24) ||| (shlI i3 16)) ||| (shlI i4 8)) ||| i5)), (0, .ref a_Re), (1, .ref a_Sp), (2, .int i2), (3, .int i3), (4, .int i4)]) hx hb d_Re_gatherWithin_99 hl (k := 6) rfl rfl (by decide) rfl (fun ls hl => ?_)
      refine lv_goto (tgt := 41) hx hb d_Re_gatherWithin_102 (by decide) ?_
      exact hk41 i2 i3 i4 (i5 + 1) Re_size Re_codes hrun H locs ls hP hD hS (lv_sub hl [2, 3, 4, 5, 6, 0] rfl)
    · refine lv_aload_n hx hb d_Re_gatherWithin_81 rfl (lv_at hl 1 rfl) ?_
      refine lv_iload hx hb d_Re_gatherWithin_82 (lv_at hl 0 rfl) ?_
      refine lv_aload_n hx hb d_Re_gatherWithin_84 rfl (lv_at hl 2 rfl) ?_
      refine va_get (D := D) (ci := 2) (v := .ref a_Mo) (C := "RemnantDictionary$Space") (T := T_Sp) (N := 10) hx hb hts iw_Sp hown hK hP 1 rfl rfl 0 (by decide) (hts _ k_153) (fun _ h9 => h9) rfl d_Re_gatherWithin_85 ?_
      refine va_get (D := D) (ci := 1) (v := .int Mo_order) (C := "RemnantDictionary$Monomials") (T := T_Mo) (N := 8) hx hb hts iw_Mo hown hK hP 0 rfl rfl 1 (by decide) (hts _ k_154) (fun _ h9 => h9) rfl d_Re_gatherWithin_88 ?_
      obtain ⟨r_3, Re_size_4, Re_codes_5, hc, hrun⟩ := bd3_s hrun
      have hFc := va_free (wc := (ws_reTakes a_Re a_Re_codes a_Re_products a_Re_bounds a_Re_pairs a_Re_keys cI cL cZ Re_prime Re_variables Re_size Re_pairCount Re_codes)) hD hS hA [2, 5] rfl
      refine va_calli (va_runV (As := [.int ((((shlI i2 24) ||| (shlI i3 16)) ||| (shlI i4 8)) ||| i5), .int Mo_order]) (rest := []) ⟨hx, hb, hml, hown, hts⟩ (c_reTakes (gl X) D cI cL cZ a_Re a_Re_codes a_Re_products a_Re_bounds a_Re_pairs a_Re_keys F Re_prime Re_variables Re_size Re_pairCount Re_codes ((((shlI i2 24) ||| (shlI i3 16)) ||| (shlI i4 8)) ||| i5) Mo_order H.size r_3 Re_size_4 Re_codes_5 hc) (cwV 2 hts (gwV k_158 k_155 k_156 k_157 k_151) rfl rfl rfl (by decide +kernel) ⟨Nat.le_of_ble_eq_true rfl, Nat.le_of_ble_eq_true rfl⟩) (gpreVW (hP.sub (ws' := (ws_reTakes a_Re a_Re_codes a_Re_products a_Re_bounds a_Re_pairs a_Re_keys cI cL cZ Re_prime Re_variables Re_size Re_pairCount Re_codes)) [2, 5] rfl) hK hN (hD.sub (ws' := (ws_reTakes a_Re a_Re_codes a_Re_products a_Re_bounds a_Re_pairs a_Re_keys cI cL cZ Re_prime Re_variables Re_size Re_pairCount Re_codes)) [2, 5] (by decide) rfl) 3 0 rfl rfl) rfl rfl hl.1 rfl (lv_room (Nat.le_of_ble_eq_true rfl)) d_Re_gatherWithin_91 ⟨Nat.le_of_ble_eq_true rfl, Nat.le_of_ble_eq_true rfl⟩) hS (fun q _ h => hFc q h) hFc (fun r_3x _ t H_6 locs ht hvm hw hB hz1 hk1 hS => ?_)
      rw [hw]
      obtain ⟨hP, hD⟩ := va_join (wr := [(a_Mo, .inr (1, [.int Mo_variables, .int Mo_order, .int Mo_highest, .int Mo_count, .ref a_Mo_codes, .ref a_Mo_degrees, .ref a_Mo_keys, .ref a_Mo_raised])), (a_Sp, .inr (2, [.ref a_Mo, .int Sp_prime, .int Sp_limit, .ref a_Sp_rows, .ref a_Sp_leads, .ref a_Sp_kept, .int Sp_keptCount, .ref a_Sp_work, .ref a_Sp_basis, .int Sp_basisCount])), (a_Mo_codes, .inl (cI, 126, .inl Mo_codes)), (a_Sp_basis, .inl (cI, 126, .inl Sp_basis)), (a_Re_bounds, .inl (cI, 4, .inl Re_bounds))]) (w1 := (ws_reTakes a_Re a_Re_codes a_Re_products a_Re_bounds a_Re_pairs a_Re_keys cI cL cZ Re_prime Re_variables Re_size_4 Re_pairCount Re_codes_5)) hP hD [2, 5] [0, 1, 3, 4, 6] rfl rfl (by decide) (by decide) hk1 hFc (by have h9 := hB.1; rw [ht] at h9; exact h9) hB.2.2
      have hP : va_P D classes (ws_gatherWithin a_Mo a_Sp a_Re a_Mo_codes a_Sp_basis a_Re_codes a_Re_bounds a_Mo_degrees a_Mo_keys a_Mo_raised a_Sp_rows a_Sp_leads a_Sp_kept a_Sp_work a_Re_products a_Re_pairs a_Re_keys cI cL cZ Mo_variables Mo_order Mo_highest Mo_count Sp_prime Sp_limit Sp_keptCount Sp_basisCount Re_prime Re_variables Re_size_4 Re_pairCount Mo_codes Sp_basis Re_codes_5 Re_bounds) H_6 := hP.sub [0, 1, 5, 2, 3, 6, 4] rfl
      have hD : va_D A (ws_gatherWithin a_Mo a_Sp a_Re a_Mo_codes a_Sp_basis a_Re_codes a_Re_bounds a_Mo_degrees a_Mo_keys a_Mo_raised a_Sp_rows a_Sp_leads a_Sp_kept a_Sp_work a_Re_products a_Re_pairs a_Re_keys cI cL cZ Mo_variables Mo_order Mo_highest Mo_count Sp_prime Sp_limit Sp_keptCount Sp_basisCount Re_prime Re_variables Re_size_4 Re_pairCount Mo_codes Sp_basis Re_codes_5 Re_bounds) := hD.sub [0, 1, 5, 2, 3, 6, 4] (by decide) rfl
      refine g_if_ne (tgt := 99) hx hb d_Re_gatherWithin_94 (by decide) hrun (fun _ hrun => ?_) (fun _ hrun => ?_)
      · refine lv_iinc (v := (i5 + 1)) (lv' := [(5, .int (i5 + 1)), (6, .int ((((shlI i2 24) ||| (shlI i3 16)) ||| (shlI i4 8)) ||| i5)), (0, .ref a_Re), (1, .ref a_Sp), (2, .int i2), (3, .int i3), (4, .int i4)]) hx hb d_Re_gatherWithin_99 hl (k := 6) rfl rfl (by decide) rfl (fun ls hl => ?_)
        refine lv_goto (tgt := 41) hx hb d_Re_gatherWithin_102 (by decide) ?_
        exact hk41 i2 i3 i4 (i5 + 1) Re_size_4 Re_codes_5 hrun H_6 locs ls hP hD hS (lv_sub hl [2, 3, 4, 5, 6, 0] rfl)
      · refine lv_iconst (v := 0) hx hb d_Re_gatherWithin_97 (by decide) ?_
        cases hrun
        exact W.zret hx hb hr rfl (fun t ht hW => ⟨⟨_, (), rfl, rfl, gB_of ht hW.alike hP hK hD⟩, hS.F ht⟩) hS.2.2 d_Re_gatherWithin_98
theorem v_gatherWithin_41 (X : gX) (D : va_G) (cI cL cZ : ClassId) (a_Mo a_Sp a_Re a_Mo_codes a_Sp_basis a_Re_codes a_Re_bounds a_Mo_degrees a_Mo_keys a_Mo_raised a_Sp_rows a_Sp_leads a_Sp_kept a_Sp_work a_Re_products a_Re_pairs a_Re_keys : Nat) (A : Nat → Prop) (Mo_variables Mo_order Mo_highest Mo_count Sp_prime Sp_limit Sp_keptCount Sp_basisCount Re_prime Re_variables Re_pairCount : Int32) (Mo_codes Sp_basis Re_bounds : Nat → Int32) (r_ Re_size_r : Int32) (Re_codes_r : Nat → Int32) (F : Nat) (C0 : gC X c_Re_gatherWithinb (some .boolean) 7 "RemnantDictionary$Remnant" gAll) (hK : va_K D classes (gT cI cL cZ) (gs X)) (hA : ∀ q : Nat, (gs X).heap.size ≤ q → A q) (hN : gN (gs X)) (k2 : Int32 → Int32 → (Nat → Int32) → Option (Int32 × Int32 × (Nat → Int32))) (hk2 : ∀ (i2 Re_size : Int32) (Re_codes : Nat → Int32), k2 i2 Re_size Re_codes = some (r_, Re_size_r, Re_codes_r) → g_gatherWithin X D cI cL cZ a_Mo a_Sp a_Re a_Mo_codes a_Sp_basis a_Re_codes a_Re_bounds a_Mo_degrees a_Mo_keys a_Mo_raised a_Sp_rows a_Sp_leads a_Sp_kept a_Sp_work a_Re_products a_Re_pairs a_Re_keys A Mo_variables Mo_order Mo_highest Mo_count Sp_prime Sp_limit Sp_keptCount Sp_basisCount Re_prime Re_variables Re_pairCount Mo_codes Sp_basis Re_bounds r_ Re_size_r Re_codes_r 2 [(0, .ref a_Re), (1, .ref a_Sp), (2, .int i2)] [] Re_size Re_codes) (k14 : Int32 → Int32 → Int32 → (Nat → Int32) → Option (Int32 × Int32 × (Nat → Int32))) (hk14 : ∀ (i2 i3 Re_size : Int32) (Re_codes : Nat → Int32), k14 i2 i3 Re_size Re_codes = some (r_, Re_size_r, Re_codes_r) → g_gatherWithin X D cI cL cZ a_Mo a_Sp a_Re a_Mo_codes a_Sp_basis a_Re_codes a_Re_bounds a_Mo_degrees a_Mo_keys a_Mo_raised a_Sp_rows a_Sp_leads a_Sp_kept a_Sp_work a_Re_products a_Re_pairs a_Re_keys A Mo_variables Mo_order Mo_highest Mo_count Sp_prime Sp_limit Sp_keptCount Sp_basisCount Re_prime Re_variables Re_pairCount Mo_codes Sp_basis Re_bounds r_ Re_size_r Re_codes_r 14 [(0, .ref a_Re), (1, .ref a_Sp), (2, .int i2), (3, .int i3)] [] Re_size Re_codes) (k27 : Int32 → Int32 → Int32 → Int32 → (Nat → Int32) → Option (Int32 × Int32 × (Nat → Int32))) (hk27 : ∀ (i2 i3 i4 Re_size : Int32) (Re_codes : Nat → Int32), k27 i2 i3 i4 Re_size Re_codes = some (r_, Re_size_r, Re_codes_r) → g_gatherWithin X D cI cL cZ a_Mo a_Sp a_Re a_Mo_codes a_Sp_basis a_Re_codes a_Re_bounds a_Mo_degrees a_Mo_keys a_Mo_raised a_Sp_rows a_Sp_leads a_Sp_kept a_Sp_work a_Re_products a_Re_pairs a_Re_keys A Mo_variables Mo_order Mo_highest Mo_count Sp_prime Sp_limit Sp_keptCount Sp_basisCount Re_prime Re_variables Re_pairCount Mo_codes Sp_basis Re_bounds r_ Re_size_r Re_codes_r 27 [(0, .ref a_Re), (1, .ref a_Sp), (2, .int i2), (3, .int i3), (4, .int i4)] [] Re_size Re_codes) : ∀ (n : Nat) (i2 i3 i4 i5 Re_size : Int32) (Re_codes : Nat → Int32), b_gatherWithin_41 F Mo_order Sp_basisCount Mo_codes Sp_basis Re_bounds k2 k14 k27 n i2 i3 i4 i5 Re_size Re_codes = some (r_, Re_size_r, Re_codes_r) → g_gatherWithin X D cI cL cZ a_Mo a_Sp a_Re a_Mo_codes a_Sp_basis a_Re_codes a_Re_bounds a_Mo_degrees a_Mo_keys a_Mo_raised a_Sp_rows a_Sp_leads a_Sp_kept a_Sp_work a_Re_products a_Re_pairs a_Re_keys A Mo_variables Mo_order Mo_highest Mo_count Sp_prime Sp_limit Sp_keptCount Sp_basisCount Re_prime Re_variables Re_pairCount Mo_codes Sp_basis Re_bounds r_ Re_size_r Re_codes_r 41 [(0, .ref a_Re), (1, .ref a_Sp), (2, .int i2), (3, .int i3), (4, .int i4), (5, .int i5)] [] Re_size Re_codes := by
  intro n
  induction n with
  | zero => intro i2 i3 i4 i5 Re_size Re_codes hrun; cases hrun
  | succ n ih =>
    intro i2 i3 i4 i5 Re_size Re_codes hrun
    exact w_gatherWithin_41 X D cI cL cZ a_Mo a_Sp a_Re a_Mo_codes a_Sp_basis a_Re_codes a_Re_bounds a_Mo_degrees a_Mo_keys a_Mo_raised a_Sp_rows a_Sp_leads a_Sp_kept a_Sp_work a_Re_products a_Re_pairs a_Re_keys A Mo_variables Mo_order Mo_highest Mo_count Sp_prime Sp_limit Sp_keptCount Sp_basisCount Re_prime Re_variables Re_pairCount Mo_codes Sp_basis Re_bounds r_ Re_size_r Re_codes_r F C0 hK hA hN k2 hk2 k14 hk14 k27 hk27 (b_gatherWithin_41 F Mo_order Sp_basisCount Mo_codes Sp_basis Re_bounds k2 k14 k27 n) ih i2 i3 i4 i5 Re_size Re_codes hrun
set_option maxHeartbeats 4000000 in
set_option maxRecDepth 100000 in
theorem w_gatherWithin_27 (X : gX) (D : va_G) (cI cL cZ : ClassId) (a_Mo a_Sp a_Re a_Mo_codes a_Sp_basis a_Re_codes a_Re_bounds a_Mo_degrees a_Mo_keys a_Mo_raised a_Sp_rows a_Sp_leads a_Sp_kept a_Sp_work a_Re_products a_Re_pairs a_Re_keys : Nat) (A : Nat → Prop) (Mo_variables Mo_order Mo_highest Mo_count Sp_prime Sp_limit Sp_keptCount Sp_basisCount Re_prime Re_variables Re_pairCount : Int32) (Mo_codes Sp_basis Re_bounds : Nat → Int32) (r_ Re_size_r : Int32) (Re_codes_r : Nat → Int32) (F : Nat) (C0 : gC X c_Re_gatherWithinb (some .boolean) 7 "RemnantDictionary$Remnant" gAll) (hK : va_K D classes (gT cI cL cZ) (gs X)) (hA : ∀ q : Nat, (gs X).heap.size ≤ q → A q) (hN : gN (gs X)) (k2 : Int32 → Int32 → (Nat → Int32) → Option (Int32 × Int32 × (Nat → Int32))) (hk2 : ∀ (i2 Re_size : Int32) (Re_codes : Nat → Int32), k2 i2 Re_size Re_codes = some (r_, Re_size_r, Re_codes_r) → g_gatherWithin X D cI cL cZ a_Mo a_Sp a_Re a_Mo_codes a_Sp_basis a_Re_codes a_Re_bounds a_Mo_degrees a_Mo_keys a_Mo_raised a_Sp_rows a_Sp_leads a_Sp_kept a_Sp_work a_Re_products a_Re_pairs a_Re_keys A Mo_variables Mo_order Mo_highest Mo_count Sp_prime Sp_limit Sp_keptCount Sp_basisCount Re_prime Re_variables Re_pairCount Mo_codes Sp_basis Re_bounds r_ Re_size_r Re_codes_r 2 [(0, .ref a_Re), (1, .ref a_Sp), (2, .int i2)] [] Re_size Re_codes) (k14 : Int32 → Int32 → Int32 → (Nat → Int32) → Option (Int32 × Int32 × (Nat → Int32))) (hk14 : ∀ (i2 i3 Re_size : Int32) (Re_codes : Nat → Int32), k14 i2 i3 Re_size Re_codes = some (r_, Re_size_r, Re_codes_r) → g_gatherWithin X D cI cL cZ a_Mo a_Sp a_Re a_Mo_codes a_Sp_basis a_Re_codes a_Re_bounds a_Mo_degrees a_Mo_keys a_Mo_raised a_Sp_rows a_Sp_leads a_Sp_kept a_Sp_work a_Re_products a_Re_pairs a_Re_keys A Mo_variables Mo_order Mo_highest Mo_count Sp_prime Sp_limit Sp_keptCount Sp_basisCount Re_prime Re_variables Re_pairCount Mo_codes Sp_basis Re_bounds r_ Re_size_r Re_codes_r 14 [(0, .ref a_Re), (1, .ref a_Sp), (2, .int i2), (3, .int i3)] [] Re_size Re_codes) (k27 : Int32 → Int32 → Int32 → Int32 → (Nat → Int32) → Option (Int32 × Int32 × (Nat → Int32))) (hk27 : ∀ (i2 i3 i4 Re_size : Int32) (Re_codes : Nat → Int32), k27 i2 i3 i4 Re_size Re_codes = some (r_, Re_size_r, Re_codes_r) → g_gatherWithin X D cI cL cZ a_Mo a_Sp a_Re a_Mo_codes a_Sp_basis a_Re_codes a_Re_bounds a_Mo_degrees a_Mo_keys a_Mo_raised a_Sp_rows a_Sp_leads a_Sp_kept a_Sp_work a_Re_products a_Re_pairs a_Re_keys A Mo_variables Mo_order Mo_highest Mo_count Sp_prime Sp_limit Sp_keptCount Sp_basisCount Re_prime Re_variables Re_pairCount Mo_codes Sp_basis Re_bounds r_ Re_size_r Re_codes_r 27 [(0, .ref a_Re), (1, .ref a_Sp), (2, .int i2), (3, .int i3), (4, .int i4)] [] Re_size Re_codes) (i2 i3 i4 Re_size : Int32) (Re_codes : Nat → Int32) (hrun : s_gatherWithin_27 F Mo_order Sp_basisCount Mo_codes Sp_basis Re_bounds k2 k14 k27 i2 i3 i4 Re_size Re_codes = some (r_, Re_size_r, Re_codes_r)) : g_gatherWithin X D cI cL cZ a_Mo a_Sp a_Re a_Mo_codes a_Sp_basis a_Re_codes a_Re_bounds a_Mo_degrees a_Mo_keys a_Mo_raised a_Sp_rows a_Sp_leads a_Sp_kept a_Sp_work a_Re_products a_Re_pairs a_Re_keys A Mo_variables Mo_order Mo_highest Mo_count Sp_prime Sp_limit Sp_keptCount Sp_basisCount Re_prime Re_variables Re_pairCount Mo_codes Sp_basis Re_bounds r_ Re_size_r Re_codes_r 27 [(0, .ref a_Re), (1, .ref a_Sp), (2, .int i2), (3, .int i3), (4, .int i4)] [] Re_size Re_codes := by
  have C1 := C0
  obtain ⟨hx, hb, hr, hml, hown, hts, hlocks⟩ := C1
  unfold s_gatherWithin_27 at hrun
  intro H locs ls hP hD hS hl
  refine lv_iload hx hb d_Re_gatherWithin_27 (lv_at hl 4 rfl) ?_
  refine lv_aload_n hx hb d_Re_gatherWithin_29 rfl (lv_at hl 0 rfl) ?_
  refine va_get (D := D) (ci := 3) (v := .ref a_Re_bounds) (C := "RemnantDictionary$Remnant") (T := T_Re) (N := 9) hx hb hts iw_Re hown hK hP 2 rfl rfl 5 (by decide) (hts _ k_144) (fun _ h9 => h9) rfl d_Re_gatherWithin_30 ?_
  refine lv_iconst (v := 2) hx hb d_Re_gatherWithin_33 (by decide) ?_
  refine g_iald hx hb hK hP 6 0 rfl rfl hrun d_Re_gatherWithin_34 (fun x_1 hrun => ?_)
  refine g_icmp_ge (tgt := 111) hx hb d_Re_gatherWithin_35 (by decide) hrun (fun _ hrun => ?_) (fun _ hrun => ?_)
  · refine lv_iinc (v := (i3 + 1)) (lv' := [(3, .int (i3 + 1)), (0, .ref a_Re), (1, .ref a_Sp), (2, .int i2), (4, .int i4)]) hx hb d_Re_gatherWithin_111 hl (k := 3) rfl rfl (by decide) rfl (fun ls hl => ?_)
    refine lv_goto (tgt := 14) hx hb d_Re_gatherWithin_114 (by decide) ?_
    exact hk14 i2 (i3 + 1) Re_size Re_codes hrun H locs ls hP hD hS (lv_sub hl [1, 2, 3, 0] rfl)
  · refine lv_iconst (v := 0) hx hb d_Re_gatherWithin_38 (by decide) ?_
    refine lv_istore (lv' := [(5, .int 0), (0, .ref a_Re), (1, .ref a_Sp), (2, .int i2), (3, .int i3), (4, .int i4)]) hx hb d_Re_gatherWithin_39 hl (by decide) rfl (fun ls hl => ?_)
    exact v_gatherWithin_41 X D cI cL cZ a_Mo a_Sp a_Re a_Mo_codes a_Sp_basis a_Re_codes a_Re_bounds a_Mo_degrees a_Mo_keys a_Mo_raised a_Sp_rows a_Sp_leads a_Sp_kept a_Sp_work a_Re_products a_Re_pairs a_Re_keys A Mo_variables Mo_order Mo_highest Mo_count Sp_prime Sp_limit Sp_keptCount Sp_basisCount Re_prime Re_variables Re_pairCount Mo_codes Sp_basis Re_bounds r_ Re_size_r Re_codes_r F C0 hK hA hN k2 hk2 k14 hk14 k27 hk27 F i2 i3 i4 0 Re_size Re_codes hrun H locs ls hP hD hS (lv_sub hl [1, 2, 3, 4, 5, 0] rfl)
theorem v_gatherWithin_27 (X : gX) (D : va_G) (cI cL cZ : ClassId) (a_Mo a_Sp a_Re a_Mo_codes a_Sp_basis a_Re_codes a_Re_bounds a_Mo_degrees a_Mo_keys a_Mo_raised a_Sp_rows a_Sp_leads a_Sp_kept a_Sp_work a_Re_products a_Re_pairs a_Re_keys : Nat) (A : Nat → Prop) (Mo_variables Mo_order Mo_highest Mo_count Sp_prime Sp_limit Sp_keptCount Sp_basisCount Re_prime Re_variables Re_pairCount : Int32) (Mo_codes Sp_basis Re_bounds : Nat → Int32) (r_ Re_size_r : Int32) (Re_codes_r : Nat → Int32) (F : Nat) (C0 : gC X c_Re_gatherWithinb (some .boolean) 7 "RemnantDictionary$Remnant" gAll) (hK : va_K D classes (gT cI cL cZ) (gs X)) (hA : ∀ q : Nat, (gs X).heap.size ≤ q → A q) (hN : gN (gs X)) (k2 : Int32 → Int32 → (Nat → Int32) → Option (Int32 × Int32 × (Nat → Int32))) (hk2 : ∀ (i2 Re_size : Int32) (Re_codes : Nat → Int32), k2 i2 Re_size Re_codes = some (r_, Re_size_r, Re_codes_r) → g_gatherWithin X D cI cL cZ a_Mo a_Sp a_Re a_Mo_codes a_Sp_basis a_Re_codes a_Re_bounds a_Mo_degrees a_Mo_keys a_Mo_raised a_Sp_rows a_Sp_leads a_Sp_kept a_Sp_work a_Re_products a_Re_pairs a_Re_keys A Mo_variables Mo_order Mo_highest Mo_count Sp_prime Sp_limit Sp_keptCount Sp_basisCount Re_prime Re_variables Re_pairCount Mo_codes Sp_basis Re_bounds r_ Re_size_r Re_codes_r 2 [(0, .ref a_Re), (1, .ref a_Sp), (2, .int i2)] [] Re_size Re_codes) (k14 : Int32 → Int32 → Int32 → (Nat → Int32) → Option (Int32 × Int32 × (Nat → Int32))) (hk14 : ∀ (i2 i3 Re_size : Int32) (Re_codes : Nat → Int32), k14 i2 i3 Re_size Re_codes = some (r_, Re_size_r, Re_codes_r) → g_gatherWithin X D cI cL cZ a_Mo a_Sp a_Re a_Mo_codes a_Sp_basis a_Re_codes a_Re_bounds a_Mo_degrees a_Mo_keys a_Mo_raised a_Sp_rows a_Sp_leads a_Sp_kept a_Sp_work a_Re_products a_Re_pairs a_Re_keys A Mo_variables Mo_order Mo_highest Mo_count Sp_prime Sp_limit Sp_keptCount Sp_basisCount Re_prime Re_variables Re_pairCount Mo_codes Sp_basis Re_bounds r_ Re_size_r Re_codes_r 14 [(0, .ref a_Re), (1, .ref a_Sp), (2, .int i2), (3, .int i3)] [] Re_size Re_codes) : ∀ (n : Nat) (i2 i3 i4 Re_size : Int32) (Re_codes : Nat → Int32), b_gatherWithin_27 F Mo_order Sp_basisCount Mo_codes Sp_basis Re_bounds k2 k14 n i2 i3 i4 Re_size Re_codes = some (r_, Re_size_r, Re_codes_r) → g_gatherWithin X D cI cL cZ a_Mo a_Sp a_Re a_Mo_codes a_Sp_basis a_Re_codes a_Re_bounds a_Mo_degrees a_Mo_keys a_Mo_raised a_Sp_rows a_Sp_leads a_Sp_kept a_Sp_work a_Re_products a_Re_pairs a_Re_keys A Mo_variables Mo_order Mo_highest Mo_count Sp_prime Sp_limit Sp_keptCount Sp_basisCount Re_prime Re_variables Re_pairCount Mo_codes Sp_basis Re_bounds r_ Re_size_r Re_codes_r 27 [(0, .ref a_Re), (1, .ref a_Sp), (2, .int i2), (3, .int i3), (4, .int i4)] [] Re_size Re_codes := by
  intro n
  induction n with
  | zero => intro i2 i3 i4 Re_size Re_codes hrun; cases hrun
  | succ n ih =>
    intro i2 i3 i4 Re_size Re_codes hrun
    exact w_gatherWithin_27 X D cI cL cZ a_Mo a_Sp a_Re a_Mo_codes a_Sp_basis a_Re_codes a_Re_bounds a_Mo_degrees a_Mo_keys a_Mo_raised a_Sp_rows a_Sp_leads a_Sp_kept a_Sp_work a_Re_products a_Re_pairs a_Re_keys A Mo_variables Mo_order Mo_highest Mo_count Sp_prime Sp_limit Sp_keptCount Sp_basisCount Re_prime Re_variables Re_pairCount Mo_codes Sp_basis Re_bounds r_ Re_size_r Re_codes_r F C0 hK hA hN k2 hk2 k14 hk14 (b_gatherWithin_27 F Mo_order Sp_basisCount Mo_codes Sp_basis Re_bounds k2 k14 n) ih i2 i3 i4 Re_size Re_codes hrun
set_option maxHeartbeats 4000000 in
set_option maxRecDepth 100000 in
theorem w_gatherWithin_14 (X : gX) (D : va_G) (cI cL cZ : ClassId) (a_Mo a_Sp a_Re a_Mo_codes a_Sp_basis a_Re_codes a_Re_bounds a_Mo_degrees a_Mo_keys a_Mo_raised a_Sp_rows a_Sp_leads a_Sp_kept a_Sp_work a_Re_products a_Re_pairs a_Re_keys : Nat) (A : Nat → Prop) (Mo_variables Mo_order Mo_highest Mo_count Sp_prime Sp_limit Sp_keptCount Sp_basisCount Re_prime Re_variables Re_pairCount : Int32) (Mo_codes Sp_basis Re_bounds : Nat → Int32) (r_ Re_size_r : Int32) (Re_codes_r : Nat → Int32) (F : Nat) (C0 : gC X c_Re_gatherWithinb (some .boolean) 7 "RemnantDictionary$Remnant" gAll) (hK : va_K D classes (gT cI cL cZ) (gs X)) (hA : ∀ q : Nat, (gs X).heap.size ≤ q → A q) (hN : gN (gs X)) (k2 : Int32 → Int32 → (Nat → Int32) → Option (Int32 × Int32 × (Nat → Int32))) (hk2 : ∀ (i2 Re_size : Int32) (Re_codes : Nat → Int32), k2 i2 Re_size Re_codes = some (r_, Re_size_r, Re_codes_r) → g_gatherWithin X D cI cL cZ a_Mo a_Sp a_Re a_Mo_codes a_Sp_basis a_Re_codes a_Re_bounds a_Mo_degrees a_Mo_keys a_Mo_raised a_Sp_rows a_Sp_leads a_Sp_kept a_Sp_work a_Re_products a_Re_pairs a_Re_keys A Mo_variables Mo_order Mo_highest Mo_count Sp_prime Sp_limit Sp_keptCount Sp_basisCount Re_prime Re_variables Re_pairCount Mo_codes Sp_basis Re_bounds r_ Re_size_r Re_codes_r 2 [(0, .ref a_Re), (1, .ref a_Sp), (2, .int i2)] [] Re_size Re_codes) (k14 : Int32 → Int32 → Int32 → (Nat → Int32) → Option (Int32 × Int32 × (Nat → Int32))) (hk14 : ∀ (i2 i3 Re_size : Int32) (Re_codes : Nat → Int32), k14 i2 i3 Re_size Re_codes = some (r_, Re_size_r, Re_codes_r) → g_gatherWithin X D cI cL cZ a_Mo a_Sp a_Re a_Mo_codes a_Sp_basis a_Re_codes a_Re_bounds a_Mo_degrees a_Mo_keys a_Mo_raised a_Sp_rows a_Sp_leads a_Sp_kept a_Sp_work a_Re_products a_Re_pairs a_Re_keys A Mo_variables Mo_order Mo_highest Mo_count Sp_prime Sp_limit Sp_keptCount Sp_basisCount Re_prime Re_variables Re_pairCount Mo_codes Sp_basis Re_bounds r_ Re_size_r Re_codes_r 14 [(0, .ref a_Re), (1, .ref a_Sp), (2, .int i2), (3, .int i3)] [] Re_size Re_codes) (i2 i3 Re_size : Int32) (Re_codes : Nat → Int32) (hrun : s_gatherWithin_14 F Mo_order Sp_basisCount Mo_codes Sp_basis Re_bounds k2 k14 i2 i3 Re_size Re_codes = some (r_, Re_size_r, Re_codes_r)) : g_gatherWithin X D cI cL cZ a_Mo a_Sp a_Re a_Mo_codes a_Sp_basis a_Re_codes a_Re_bounds a_Mo_degrees a_Mo_keys a_Mo_raised a_Sp_rows a_Sp_leads a_Sp_kept a_Sp_work a_Re_products a_Re_pairs a_Re_keys A Mo_variables Mo_order Mo_highest Mo_count Sp_prime Sp_limit Sp_keptCount Sp_basisCount Re_prime Re_variables Re_pairCount Mo_codes Sp_basis Re_bounds r_ Re_size_r Re_codes_r 14 [(0, .ref a_Re), (1, .ref a_Sp), (2, .int i2), (3, .int i3)] [] Re_size Re_codes := by
  have C1 := C0
  obtain ⟨hx, hb, hr, hml, hown, hts, hlocks⟩ := C1
  unfold s_gatherWithin_14 at hrun
  intro H locs ls hP hD hS hl
  refine lv_iload_n hx hb d_Re_gatherWithin_14 rfl (lv_at hl 3 rfl) ?_
  refine lv_aload_n hx hb d_Re_gatherWithin_15 rfl (lv_at hl 0 rfl) ?_
  refine va_get (D := D) (ci := 3) (v := .ref a_Re_bounds) (C := "RemnantDictionary$Remnant") (T := T_Re) (N := 9) hx hb hts iw_Re hown hK hP 2 rfl rfl 5 (by decide) (hts _ k_144) (fun _ h9 => h9) rfl d_Re_gatherWithin_16 ?_
  refine lv_iconst (v := 1) hx hb d_Re_gatherWithin_19 (by decide) ?_
  refine g_iald hx hb hK hP 6 0 rfl rfl hrun d_Re_gatherWithin_20 (fun x_1 hrun => ?_)
  refine g_icmp_ge (tgt := 117) hx hb d_Re_gatherWithin_21 (by decide) hrun (fun _ hrun => ?_) (fun _ hrun => ?_)
  · refine lv_iinc (v := (i2 + 1)) (lv' := [(2, .int (i2 + 1)), (0, .ref a_Re), (1, .ref a_Sp), (3, .int i3)]) hx hb d_Re_gatherWithin_117 hl (k := 2) rfl rfl (by decide) rfl (fun ls hl => ?_)
    refine lv_goto (tgt := 2) hx hb d_Re_gatherWithin_120 (by decide) ?_
    exact hk2 (i2 + 1) Re_size Re_codes hrun H locs ls hP hD hS (lv_sub hl [1, 2, 0] rfl)
  · refine lv_iconst (v := 0) hx hb d_Re_gatherWithin_24 (by decide) ?_
    refine lv_istore (lv' := [(4, .int 0), (0, .ref a_Re), (1, .ref a_Sp), (2, .int i2), (3, .int i3)]) hx hb d_Re_gatherWithin_25 hl (by decide) rfl (fun ls hl => ?_)
    exact v_gatherWithin_27 X D cI cL cZ a_Mo a_Sp a_Re a_Mo_codes a_Sp_basis a_Re_codes a_Re_bounds a_Mo_degrees a_Mo_keys a_Mo_raised a_Sp_rows a_Sp_leads a_Sp_kept a_Sp_work a_Re_products a_Re_pairs a_Re_keys A Mo_variables Mo_order Mo_highest Mo_count Sp_prime Sp_limit Sp_keptCount Sp_basisCount Re_prime Re_variables Re_pairCount Mo_codes Sp_basis Re_bounds r_ Re_size_r Re_codes_r F C0 hK hA hN k2 hk2 k14 hk14 F i2 i3 0 Re_size Re_codes hrun H locs ls hP hD hS (lv_sub hl [1, 2, 3, 4, 0] rfl)
theorem v_gatherWithin_14 (X : gX) (D : va_G) (cI cL cZ : ClassId) (a_Mo a_Sp a_Re a_Mo_codes a_Sp_basis a_Re_codes a_Re_bounds a_Mo_degrees a_Mo_keys a_Mo_raised a_Sp_rows a_Sp_leads a_Sp_kept a_Sp_work a_Re_products a_Re_pairs a_Re_keys : Nat) (A : Nat → Prop) (Mo_variables Mo_order Mo_highest Mo_count Sp_prime Sp_limit Sp_keptCount Sp_basisCount Re_prime Re_variables Re_pairCount : Int32) (Mo_codes Sp_basis Re_bounds : Nat → Int32) (r_ Re_size_r : Int32) (Re_codes_r : Nat → Int32) (F : Nat) (C0 : gC X c_Re_gatherWithinb (some .boolean) 7 "RemnantDictionary$Remnant" gAll) (hK : va_K D classes (gT cI cL cZ) (gs X)) (hA : ∀ q : Nat, (gs X).heap.size ≤ q → A q) (hN : gN (gs X)) (k2 : Int32 → Int32 → (Nat → Int32) → Option (Int32 × Int32 × (Nat → Int32))) (hk2 : ∀ (i2 Re_size : Int32) (Re_codes : Nat → Int32), k2 i2 Re_size Re_codes = some (r_, Re_size_r, Re_codes_r) → g_gatherWithin X D cI cL cZ a_Mo a_Sp a_Re a_Mo_codes a_Sp_basis a_Re_codes a_Re_bounds a_Mo_degrees a_Mo_keys a_Mo_raised a_Sp_rows a_Sp_leads a_Sp_kept a_Sp_work a_Re_products a_Re_pairs a_Re_keys A Mo_variables Mo_order Mo_highest Mo_count Sp_prime Sp_limit Sp_keptCount Sp_basisCount Re_prime Re_variables Re_pairCount Mo_codes Sp_basis Re_bounds r_ Re_size_r Re_codes_r 2 [(0, .ref a_Re), (1, .ref a_Sp), (2, .int i2)] [] Re_size Re_codes) : ∀ (n : Nat) (i2 i3 Re_size : Int32) (Re_codes : Nat → Int32), b_gatherWithin_14 F Mo_order Sp_basisCount Mo_codes Sp_basis Re_bounds k2 n i2 i3 Re_size Re_codes = some (r_, Re_size_r, Re_codes_r) → g_gatherWithin X D cI cL cZ a_Mo a_Sp a_Re a_Mo_codes a_Sp_basis a_Re_codes a_Re_bounds a_Mo_degrees a_Mo_keys a_Mo_raised a_Sp_rows a_Sp_leads a_Sp_kept a_Sp_work a_Re_products a_Re_pairs a_Re_keys A Mo_variables Mo_order Mo_highest Mo_count Sp_prime Sp_limit Sp_keptCount Sp_basisCount Re_prime Re_variables Re_pairCount Mo_codes Sp_basis Re_bounds r_ Re_size_r Re_codes_r 14 [(0, .ref a_Re), (1, .ref a_Sp), (2, .int i2), (3, .int i3)] [] Re_size Re_codes := by
  intro n
  induction n with
  | zero => intro i2 i3 Re_size Re_codes hrun; cases hrun
  | succ n ih =>
    intro i2 i3 Re_size Re_codes hrun
    exact w_gatherWithin_14 X D cI cL cZ a_Mo a_Sp a_Re a_Mo_codes a_Sp_basis a_Re_codes a_Re_bounds a_Mo_degrees a_Mo_keys a_Mo_raised a_Sp_rows a_Sp_leads a_Sp_kept a_Sp_work a_Re_products a_Re_pairs a_Re_keys A Mo_variables Mo_order Mo_highest Mo_count Sp_prime Sp_limit Sp_keptCount Sp_basisCount Re_prime Re_variables Re_pairCount Mo_codes Sp_basis Re_bounds r_ Re_size_r Re_codes_r F C0 hK hA hN k2 hk2 (b_gatherWithin_14 F Mo_order Sp_basisCount Mo_codes Sp_basis Re_bounds k2 n) ih i2 i3 Re_size Re_codes hrun
set_option maxHeartbeats 4000000 in
set_option maxRecDepth 100000 in
theorem w_gatherWithin_2 (X : gX) (D : va_G) (cI cL cZ : ClassId) (a_Mo a_Sp a_Re a_Mo_codes a_Sp_basis a_Re_codes a_Re_bounds a_Mo_degrees a_Mo_keys a_Mo_raised a_Sp_rows a_Sp_leads a_Sp_kept a_Sp_work a_Re_products a_Re_pairs a_Re_keys : Nat) (A : Nat → Prop) (Mo_variables Mo_order Mo_highest Mo_count Sp_prime Sp_limit Sp_keptCount Sp_basisCount Re_prime Re_variables Re_pairCount : Int32) (Mo_codes Sp_basis Re_bounds : Nat → Int32) (r_ Re_size_r : Int32) (Re_codes_r : Nat → Int32) (F : Nat) (C0 : gC X c_Re_gatherWithinb (some .boolean) 7 "RemnantDictionary$Remnant" gAll) (hK : va_K D classes (gT cI cL cZ) (gs X)) (hA : ∀ q : Nat, (gs X).heap.size ≤ q → A q) (hN : gN (gs X)) (k2 : Int32 → Int32 → (Nat → Int32) → Option (Int32 × Int32 × (Nat → Int32))) (hk2 : ∀ (i2 Re_size : Int32) (Re_codes : Nat → Int32), k2 i2 Re_size Re_codes = some (r_, Re_size_r, Re_codes_r) → g_gatherWithin X D cI cL cZ a_Mo a_Sp a_Re a_Mo_codes a_Sp_basis a_Re_codes a_Re_bounds a_Mo_degrees a_Mo_keys a_Mo_raised a_Sp_rows a_Sp_leads a_Sp_kept a_Sp_work a_Re_products a_Re_pairs a_Re_keys A Mo_variables Mo_order Mo_highest Mo_count Sp_prime Sp_limit Sp_keptCount Sp_basisCount Re_prime Re_variables Re_pairCount Mo_codes Sp_basis Re_bounds r_ Re_size_r Re_codes_r 2 [(0, .ref a_Re), (1, .ref a_Sp), (2, .int i2)] [] Re_size Re_codes) (i2 Re_size : Int32) (Re_codes : Nat → Int32) (hrun : s_gatherWithin_2 F Mo_order Sp_basisCount Mo_codes Sp_basis Re_bounds k2 i2 Re_size Re_codes = some (r_, Re_size_r, Re_codes_r)) : g_gatherWithin X D cI cL cZ a_Mo a_Sp a_Re a_Mo_codes a_Sp_basis a_Re_codes a_Re_bounds a_Mo_degrees a_Mo_keys a_Mo_raised a_Sp_rows a_Sp_leads a_Sp_kept a_Sp_work a_Re_products a_Re_pairs a_Re_keys A Mo_variables Mo_order Mo_highest Mo_count Sp_prime Sp_limit Sp_keptCount Sp_basisCount Re_prime Re_variables Re_pairCount Mo_codes Sp_basis Re_bounds r_ Re_size_r Re_codes_r 2 [(0, .ref a_Re), (1, .ref a_Sp), (2, .int i2)] [] Re_size Re_codes := by
  have C1 := C0
  obtain ⟨hx, hb, hr, hml, hown, hts, hlocks⟩ := C1
  unfold s_gatherWithin_2 at hrun
  intro H locs ls hP hD hS hl
  refine lv_iload_n hx hb d_Re_gatherWithin_2 rfl (lv_at hl 2 rfl) ?_
  refine lv_aload_n hx hb d_Re_gatherWithin_3 rfl (lv_at hl 0 rfl) ?_
  refine va_get (D := D) (ci := 3) (v := .ref a_Re_bounds) (C := "RemnantDictionary$Remnant") (T := T_Re) (N := 9) hx hb hts iw_Re hown hK hP 2 rfl rfl 5 (by decide) (hts _ k_144) (fun _ h9 => h9) rfl d_Re_gatherWithin_4 ?_
  refine lv_iconst (v := 0) hx hb d_Re_gatherWithin_7 (by decide) ?_
  refine g_iald hx hb hK hP 6 0 rfl rfl hrun d_Re_gatherWithin_8 (fun x_1 hrun => ?_)
  refine g_icmp_ge (tgt := 123) hx hb d_Re_gatherWithin_9 (by decide) hrun (fun _ hrun => ?_) (fun _ hrun => ?_)
  · refine lv_iconst (v := 1) hx hb d_Re_gatherWithin_123 (by decide) ?_
    cases hrun
    exact W.zret hx hb hr rfl (fun t ht hW => ⟨⟨_, (), rfl, rfl, gB_of ht hW.alike hP hK hD⟩, hS.F ht⟩) hS.2.2 d_Re_gatherWithin_124
  · refine lv_iconst (v := 0) hx hb d_Re_gatherWithin_12 (by decide) ?_
    refine lv_istore_n (lv' := [(3, .int 0), (0, .ref a_Re), (1, .ref a_Sp), (2, .int i2)]) hx hb d_Re_gatherWithin_13 rfl hl (by decide) rfl (fun ls hl => ?_)
    exact v_gatherWithin_14 X D cI cL cZ a_Mo a_Sp a_Re a_Mo_codes a_Sp_basis a_Re_codes a_Re_bounds a_Mo_degrees a_Mo_keys a_Mo_raised a_Sp_rows a_Sp_leads a_Sp_kept a_Sp_work a_Re_products a_Re_pairs a_Re_keys A Mo_variables Mo_order Mo_highest Mo_count Sp_prime Sp_limit Sp_keptCount Sp_basisCount Re_prime Re_variables Re_pairCount Mo_codes Sp_basis Re_bounds r_ Re_size_r Re_codes_r F C0 hK hA hN k2 hk2 F i2 0 Re_size Re_codes hrun H locs ls hP hD hS (lv_sub hl [1, 2, 3, 0] rfl)
theorem v_gatherWithin_2 (X : gX) (D : va_G) (cI cL cZ : ClassId) (a_Mo a_Sp a_Re a_Mo_codes a_Sp_basis a_Re_codes a_Re_bounds a_Mo_degrees a_Mo_keys a_Mo_raised a_Sp_rows a_Sp_leads a_Sp_kept a_Sp_work a_Re_products a_Re_pairs a_Re_keys : Nat) (A : Nat → Prop) (Mo_variables Mo_order Mo_highest Mo_count Sp_prime Sp_limit Sp_keptCount Sp_basisCount Re_prime Re_variables Re_pairCount : Int32) (Mo_codes Sp_basis Re_bounds : Nat → Int32) (r_ Re_size_r : Int32) (Re_codes_r : Nat → Int32) (F : Nat) (C0 : gC X c_Re_gatherWithinb (some .boolean) 7 "RemnantDictionary$Remnant" gAll) (hK : va_K D classes (gT cI cL cZ) (gs X)) (hA : ∀ q : Nat, (gs X).heap.size ≤ q → A q) (hN : gN (gs X))  : ∀ (n : Nat) (i2 Re_size : Int32) (Re_codes : Nat → Int32), b_gatherWithin_2 F Mo_order Sp_basisCount Mo_codes Sp_basis Re_bounds n i2 Re_size Re_codes = some (r_, Re_size_r, Re_codes_r) → g_gatherWithin X D cI cL cZ a_Mo a_Sp a_Re a_Mo_codes a_Sp_basis a_Re_codes a_Re_bounds a_Mo_degrees a_Mo_keys a_Mo_raised a_Sp_rows a_Sp_leads a_Sp_kept a_Sp_work a_Re_products a_Re_pairs a_Re_keys A Mo_variables Mo_order Mo_highest Mo_count Sp_prime Sp_limit Sp_keptCount Sp_basisCount Re_prime Re_variables Re_pairCount Mo_codes Sp_basis Re_bounds r_ Re_size_r Re_codes_r 2 [(0, .ref a_Re), (1, .ref a_Sp), (2, .int i2)] [] Re_size Re_codes := by
  intro n
  induction n with
  | zero => intro i2 Re_size Re_codes hrun; cases hrun
  | succ n ih =>
    intro i2 Re_size Re_codes hrun
    exact w_gatherWithin_2 X D cI cL cZ a_Mo a_Sp a_Re a_Mo_codes a_Sp_basis a_Re_codes a_Re_bounds a_Mo_degrees a_Mo_keys a_Mo_raised a_Sp_rows a_Sp_leads a_Sp_kept a_Sp_work a_Re_products a_Re_pairs a_Re_keys A Mo_variables Mo_order Mo_highest Mo_count Sp_prime Sp_limit Sp_keptCount Sp_basisCount Re_prime Re_variables Re_pairCount Mo_codes Sp_basis Re_bounds r_ Re_size_r Re_codes_r F C0 hK hA hN (b_gatherWithin_2 F Mo_order Sp_basisCount Mo_codes Sp_basis Re_bounds n) ih i2 Re_size Re_codes hrun
set_option maxHeartbeats 4000000 in
set_option maxRecDepth 100000 in
theorem e_gatherWithin (X : gX) (D : va_G) (cI cL cZ : ClassId) (a_Mo a_Sp a_Re a_Mo_codes a_Sp_basis a_Re_codes a_Re_bounds a_Mo_degrees a_Mo_keys a_Mo_raised a_Sp_rows a_Sp_leads a_Sp_kept a_Sp_work a_Re_products a_Re_pairs a_Re_keys : Nat) (A : Nat → Prop) (Mo_variables Mo_order Mo_highest Mo_count Sp_prime Sp_limit Sp_keptCount Sp_basisCount Re_prime Re_variables Re_pairCount : Int32) (Mo_codes Sp_basis Re_bounds : Nat → Int32) (r_ Re_size_r : Int32) (Re_codes_r : Nat → Int32) (F : Nat) (C0 : gC X c_Re_gatherWithinb (some .boolean) 7 "RemnantDictionary$Remnant" gAll) (hK : va_K D classes (gT cI cL cZ) (gs X)) (hA : ∀ q : Nat, (gs X).heap.size ≤ q → A q) (hN : gN (gs X)) (Re_size : Int32) (Re_codes : Nat → Int32) (hrun : m_gatherWithin F Mo_order Sp_basisCount Mo_codes Sp_basis Re_bounds Re_size Re_codes = some (r_, Re_size_r, Re_codes_r)) : g_gatherWithin X D cI cL cZ a_Mo a_Sp a_Re a_Mo_codes a_Sp_basis a_Re_codes a_Re_bounds a_Mo_degrees a_Mo_keys a_Mo_raised a_Sp_rows a_Sp_leads a_Sp_kept a_Sp_work a_Re_products a_Re_pairs a_Re_keys A Mo_variables Mo_order Mo_highest Mo_count Sp_prime Sp_limit Sp_keptCount Sp_basisCount Re_prime Re_variables Re_pairCount Mo_codes Sp_basis Re_bounds r_ Re_size_r Re_codes_r 0 [(0, .ref a_Re), (1, .ref a_Sp)] [] Re_size Re_codes := by
  have C1 := C0
  obtain ⟨hx, hb, hr, hml, hown, hts, hlocks⟩ := C1
  unfold m_gatherWithin at hrun
  intro H locs ls hP hD hS hl
  refine lv_iconst (v := 0) hx hb d_Re_gatherWithin_0 (by decide) ?_
  refine lv_istore_n (lv' := [(2, .int 0), (0, .ref a_Re), (1, .ref a_Sp)]) hx hb d_Re_gatherWithin_1 rfl hl (by decide) rfl (fun ls hl => ?_)
  exact v_gatherWithin_2 X D cI cL cZ a_Mo a_Sp a_Re a_Mo_codes a_Sp_basis a_Re_codes a_Re_bounds a_Mo_degrees a_Mo_keys a_Mo_raised a_Sp_rows a_Sp_leads a_Sp_kept a_Sp_work a_Re_products a_Re_pairs a_Re_keys A Mo_variables Mo_order Mo_highest Mo_count Sp_prime Sp_limit Sp_keptCount Sp_basisCount Re_prime Re_variables Re_pairCount Mo_codes Sp_basis Re_bounds r_ Re_size_r Re_codes_r F C0 hK hA hN  F 0 Re_size Re_codes hrun H locs ls hP hD hS (lv_sub hl [1, 2, 0] rfl)
set_option maxHeartbeats 4000000 in
set_option maxRecDepth 100000 in
theorem c_gatherWithin (l : Launch) (D : va_G) (cI cL cZ : ClassId) (a_Mo a_Sp a_Re a_Mo_codes a_Sp_basis a_Re_codes a_Re_bounds a_Mo_degrees a_Mo_keys a_Mo_raised a_Sp_rows a_Sp_leads a_Sp_kept a_Sp_work a_Re_products a_Re_pairs a_Re_keys : Nat) (F : Nat) (Mo_variables Mo_order Mo_highest Mo_count Sp_prime Sp_limit Sp_keptCount Sp_basisCount Re_prime Re_variables Re_size Re_pairCount : Int32) (Mo_codes Sp_basis Re_codes Re_bounds : Nat → Int32) (sz : Nat) (r_ Re_size_r : Int32) (Re_codes_r : Nat → Int32) (hrun : m_gatherWithin F Mo_order Sp_basisCount Mo_codes Sp_basis Re_bounds Re_size Re_codes = some (r_, Re_size_r, Re_codes_r)) : Met l y_Re_gatherWithin (.code y_Re_gatherWithin c_Re_gatherWithinb 7 (some .boolean) :: gAll) rm_gatherWithin (va_Pc [.ref a_Re, .ref a_Sp] (gPW D (gT cI cL cZ) (ws_gatherWithin a_Mo a_Sp a_Re a_Mo_codes a_Sp_basis a_Re_codes a_Re_bounds a_Mo_degrees a_Mo_keys a_Mo_raised a_Sp_rows a_Sp_leads a_Sp_kept a_Sp_work a_Re_products a_Re_pairs a_Re_keys cI cL cZ Mo_variables Mo_order Mo_highest Mo_count Sp_prime Sp_limit Sp_keptCount Sp_basisCount Re_prime Re_variables Re_size Re_pairCount Mo_codes Sp_basis Re_codes Re_bounds) sz)) (va_Qi (fun r (_ : Unit) => r = r_) (gB D (gT cI cL cZ) (va_A (ws_gatherWithin a_Mo a_Sp a_Re a_Mo_codes a_Sp_basis a_Re_codes a_Re_bounds a_Mo_degrees a_Mo_keys a_Mo_raised a_Sp_rows a_Sp_leads a_Sp_kept a_Sp_work a_Re_products a_Re_pairs a_Re_keys cI cL cZ Mo_variables Mo_order Mo_highest Mo_count Sp_prime Sp_limit Sp_keptCount Sp_basisCount Re_prime Re_variables Re_size Re_pairCount Mo_codes Sp_basis Re_codes Re_bounds) sz) (ws_gatherWithin a_Mo a_Sp a_Re a_Mo_codes a_Sp_basis a_Re_codes a_Re_bounds a_Mo_degrees a_Mo_keys a_Mo_raised a_Sp_rows a_Sp_leads a_Sp_kept a_Sp_work a_Re_products a_Re_pairs a_Re_keys cI cL cZ Mo_variables Mo_order Mo_highest Mo_count Sp_prime Sp_limit Sp_keptCount Sp_basisCount Re_prime Re_variables Re_size_r Re_pairCount Mo_codes Sp_basis Re_codes_r Re_bounds)) (va_A (ws_gatherWithin a_Mo a_Sp a_Re a_Mo_codes a_Sp_basis a_Re_codes a_Re_bounds a_Mo_degrees a_Mo_keys a_Mo_raised a_Sp_rows a_Sp_leads a_Sp_kept a_Sp_work a_Re_products a_Re_pairs a_Re_keys cI cL cZ Mo_variables Mo_order Mo_highest Mo_count Sp_prime Sp_limit Sp_keptCount Sp_basisCount Re_prime Re_variables Re_size Re_pairCount Mo_codes Sp_basis Re_codes Re_bounds) sz)) 0 0 (va_A (ws_gatherWithin a_Mo a_Sp a_Re a_Mo_codes a_Sp_basis a_Re_codes a_Re_bounds a_Mo_degrees a_Mo_keys a_Mo_raised a_Sp_rows a_Sp_leads a_Sp_kept a_Sp_work a_Re_products a_Re_pairs a_Re_keys cI cL cZ Mo_variables Mo_order Mo_highest Mo_count Sp_prime Sp_limit Sp_keptCount Sp_basisCount Re_prime Re_variables Re_size Re_pairCount Mo_codes Sp_basis Re_codes Re_bounds) sz) := by
  refine Met.ofW (cc := c_Re_gatherWithinb) (maxL := 7) (ret := (some .boolean)) (by decide +kernel) rfl ?_
  intro p e s m args below meth c s₁ B hml hv
  obtain ⟨rfl, hsz, hP, hK, hN, hD0⟩ := hv
  subst hsz
  have hD := hD0.self (sz := s.heap.size)
  have hl := lv_entry ([.ref a_Re, .ref a_Sp]) (n := 7) (Nat.le_of_ble_eq_true rfl)
  rw [lg_entry_eq]
  generalize (lg_sl ([.ref a_Re, .ref a_Sp]) ++ List.replicate (7 - (lg_sl ([.ref a_Re, .ref a_Sp])).length) Slot.unset).toArray = ls at hl ⊢
  exact e_gatherWithin (p, l, e, s, m, ([.ref a_Re, .ref a_Sp] : List Value).toArray, below, meth, c) D cI cL cZ a_Mo a_Sp a_Re a_Mo_codes a_Sp_basis a_Re_codes a_Re_bounds a_Mo_degrees a_Mo_keys a_Mo_raised a_Sp_rows a_Sp_leads a_Sp_kept a_Sp_work a_Re_products a_Re_pairs a_Re_keys (va_A (ws_gatherWithin a_Mo a_Sp a_Re a_Mo_codes a_Sp_basis a_Re_codes a_Re_bounds a_Mo_degrees a_Mo_keys a_Mo_raised a_Sp_rows a_Sp_leads a_Sp_kept a_Sp_work a_Re_products a_Re_pairs a_Re_keys cI cL cZ Mo_variables Mo_order Mo_highest Mo_count Sp_prime Sp_limit Sp_keptCount Sp_basisCount Re_prime Re_variables Re_size Re_pairCount Mo_codes Sp_basis Re_codes Re_bounds) s.heap.size) Mo_variables Mo_order Mo_highest Mo_count Sp_prime Sp_limit Sp_keptCount Sp_basisCount Re_prime Re_variables Re_pairCount Mo_codes Sp_basis Re_bounds r_ Re_size_r Re_codes_r F ⟨B.exec, B.bytes, B.returns, hml, findClass_of_methodNamed B.named, fun w h => atoms_spec (ws := (.code y_Re_gatherWithin c_Re_gatherWithinb 7 (some .boolean) :: gAll)) B.pre w (List.mem_cons_of_mem _ h), B.notSynchronized⟩ hK (fun q h => Or.inr h) hN Re_size Re_codes hrun s.heap [] ls hP hD va_S.rf hl
