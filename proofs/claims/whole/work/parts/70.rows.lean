theorem d_Z_highest_0 : decode c_Z_highestb 0 = .ok (.iload_n 0, 1) := by decide +kernel
theorem d_Z_highest_1 : decode c_Z_highestb 1 = .ok (.iconst 1, 1) := by decide +kernel
theorem d_Z_highest_2 : decode c_Z_highestb 2 = .ok (.if_icmp .ne 8, 3) := by decide +kernel
theorem d_Z_highest_5 : decode c_Z_highestb 5 = .ok (.bipush 30, 2) := by decide +kernel
theorem d_Z_highest_7 : decode c_Z_highestb 7 = .ok (.goto 24, 3) := by decide +kernel
theorem d_Z_highest_10 : decode c_Z_highestb 10 = .ok (.iload_n 0, 1) := by decide +kernel
theorem d_Z_highest_11 : decode c_Z_highestb 11 = .ok (.iconst 2, 1) := by decide +kernel
theorem d_Z_highest_12 : decode c_Z_highestb 12 = .ok (.if_icmp .ne 8, 3) := by decide +kernel
theorem d_Z_highest_15 : decode c_Z_highestb 15 = .ok (.bipush 12, 2) := by decide +kernel
theorem d_Z_highest_17 : decode c_Z_highestb 17 = .ok (.goto 14, 3) := by decide +kernel
theorem d_Z_highest_20 : decode c_Z_highestb 20 = .ok (.iload_n 0, 1) := by decide +kernel
theorem d_Z_highest_21 : decode c_Z_highestb 21 = .ok (.iconst 3, 1) := by decide +kernel
theorem d_Z_highest_22 : decode c_Z_highestb 22 = .ok (.if_icmp .ne 8, 3) := by decide +kernel
theorem d_Z_highest_25 : decode c_Z_highestb 25 = .ok (.bipush 7, 2) := by decide +kernel
theorem d_Z_highest_27 : decode c_Z_highestb 27 = .ok (.goto 4, 3) := by decide +kernel
theorem d_Z_highest_30 : decode c_Z_highestb 30 = .ok (.iconst 5, 1) := by decide +kernel
theorem d_Z_highest_31 : decode c_Z_highestb 31 = .ok (.ireturn, 1) := by decide +kernel
abbrev rm_zhighest : Room := { frames := 0, cells := 0, slots := 0, locals := 0 }
abbrev g_zhighest (X : gX) (r_ : Int32) (pc : Nat) (lv : List (Nat × Value)) (st : List Value) : Prop := ∀ ls : Array Slot, lv_has ls 1 lv → gWW X rm_zhighest (gs X).heap [] 0 0 (MQ (gbl X) (vp_Si (fun r => r = r_)) (ga X) (gs X) 0 0 (fun _ => False)) (F0 (gm X) pc ls st)
set_option maxHeartbeats 4000000 in
set_option maxRecDepth 100000 in
theorem e_zhighest (X : gX) (F : Nat) (r_ : Int32) (C0 : gC X c_Z_highestb (some .int) 1 "RemnantDictionaryModel" gAll) (hN : gN (gs X)) (i0 : Int32) (hrun : m_zhighest F i0 = some r_) : g_zhighest X r_ 0 [(0, .int i0)] [] := by
  have C1 := C0
  obtain ⟨hx, hb, hr, hml, hown, hts, hlocks⟩ := C1
  unfold m_zhighest at hrun
  intro ls hl
  refine lv_iload_n hx hb d_Z_highest_0 rfl (lv_at hl 0 rfl) ?_
  refine lv_iconst (v := 1) hx hb d_Z_highest_1 (by decide) ?_
  refine g_icmp_ne (tgt := 10) hx hb d_Z_highest_2 (by decide) hrun (fun _ hrun => ?_) (fun _ hrun => ?_)
  · refine lv_iload_n hx hb d_Z_highest_10 rfl (lv_at hl 0 rfl) ?_
    refine lv_iconst (v := 2) hx hb d_Z_highest_11 (by decide) ?_
    refine g_icmp_ne (tgt := 20) hx hb d_Z_highest_12 (by decide) hrun (fun _ hrun => ?_) (fun _ hrun => ?_)
    · refine lv_iload_n hx hb d_Z_highest_20 rfl (lv_at hl 0 rfl) ?_
      refine lv_iconst (v := 3) hx hb d_Z_highest_21 (by decide) ?_
      refine g_icmp_ne (tgt := 30) hx hb d_Z_highest_22 (by decide) hrun (fun _ hrun => ?_) (fun _ hrun => ?_)
      · refine lv_iconst (v := 5) hx hb d_Z_highest_30 (by decide) ?_
        cases hrun
        exact W.iret hx hb hr (fun t ht hW => ⟨_, rfl, rfl, ht⟩) (fun q h => absurd h List.not_mem_nil) d_Z_highest_31
      · refine lv_bipush (v := 7) hx hb d_Z_highest_25 (by decide) ?_
        refine lv_goto (tgt := 31) hx hb d_Z_highest_27 (by decide) ?_
        cases hrun
        exact W.iret hx hb hr (fun t ht hW => ⟨_, rfl, rfl, ht⟩) (fun q h => absurd h List.not_mem_nil) d_Z_highest_31
    · refine lv_bipush (v := 12) hx hb d_Z_highest_15 (by decide) ?_
      refine lv_goto (tgt := 31) hx hb d_Z_highest_17 (by decide) ?_
      cases hrun
      exact W.iret hx hb hr (fun t ht hW => ⟨_, rfl, rfl, ht⟩) (fun q h => absurd h List.not_mem_nil) d_Z_highest_31
  · refine lv_bipush (v := 30) hx hb d_Z_highest_5 (by decide) ?_
    refine lv_goto (tgt := 31) hx hb d_Z_highest_7 (by decide) ?_
    cases hrun
    exact W.iret hx hb hr (fun t ht hW => ⟨_, rfl, rfl, ht⟩) (fun q h => absurd h List.not_mem_nil) d_Z_highest_31
set_option maxHeartbeats 4000000 in
set_option maxRecDepth 100000 in
theorem c_zhighest (l : Launch) (F : Nat) (i0 : Int32) (r_ : Int32) (hrun : m_zhighest F i0 = some r_) : Met l y_Z_highest (.code y_Z_highest c_Z_highestb 1 (some .int) :: gAll) rm_zhighest (va_Pc [.int i0] gN) (vp_Si (fun r => r = r_)) 0 0 (fun _ => False) := by
  refine Met.ofW (cc := c_Z_highestb) (maxL := 1) (ret := (some .int)) (by decide +kernel) rfl ?_
  intro p e s m args below meth c s₁ B hml hv
  obtain ⟨rfl, hN⟩ := hv
  have hl := lv_entry ([.int i0]) (n := 1) (Nat.le_of_ble_eq_true rfl)
  rw [lg_entry_eq]
  generalize (lg_sl ([.int i0]) ++ List.replicate (1 - (lg_sl ([.int i0])).length) Slot.unset).toArray = ls at hl ⊢
  exact e_zhighest (p, l, e, s, m, ([.int i0] : List Value).toArray, below, meth, c) F r_ ⟨B.exec, B.bytes, B.returns, hml, findClass_of_methodNamed B.named, fun w h => atoms_spec (ws := (.code y_Z_highest c_Z_highestb 1 (some .int) :: gAll)) B.pre w (List.mem_cons_of_mem _ h), B.notSynchronized⟩ hN i0 hrun ls hl
theorem d_Z_exponent_0 : decode c_Z_exponentb 0 = .ok (.iload_n 0, 1) := by decide +kernel
theorem d_Z_exponent_1 : decode c_Z_exponentb 1 = .ok (.bipush 24, 2) := by decide +kernel
theorem d_Z_exponent_3 : decode c_Z_exponentb 3 = .ok (.bipush 8, 2) := by decide +kernel
theorem d_Z_exponent_5 : decode c_Z_exponentb 5 = .ok (.iload_n 1, 1) := by decide +kernel
theorem d_Z_exponent_6 : decode c_Z_exponentb 6 = .ok (.imul, 1) := by decide +kernel
theorem d_Z_exponent_7 : decode c_Z_exponentb 7 = .ok (.isub, 1) := by decide +kernel
theorem d_Z_exponent_8 : decode c_Z_exponentb 8 = .ok (.ishr, 1) := by decide +kernel
theorem d_Z_exponent_9 : decode c_Z_exponentb 9 = .ok (.sipush 255, 3) := by decide +kernel
theorem d_Z_exponent_12 : decode c_Z_exponentb 12 = .ok (.iand, 1) := by decide +kernel
theorem d_Z_exponent_13 : decode c_Z_exponentb 13 = .ok (.ireturn, 1) := by decide +kernel
abbrev rm_zexponent : Room := { frames := 0, cells := 0, slots := 0, locals := 0 }
abbrev g_zexponent (X : gX) (r_ : Int32) (pc : Nat) (lv : List (Nat × Value)) (st : List Value) : Prop := ∀ ls : Array Slot, lv_has ls 2 lv → gWW X rm_zexponent (gs X).heap [] 0 0 (MQ (gbl X) (vp_Si (fun r => r = r_)) (ga X) (gs X) 0 0 (fun _ => False)) (F0 (gm X) pc ls st)
set_option maxHeartbeats 4000000 in
set_option maxRecDepth 100000 in
theorem e_zexponent (X : gX) (F : Nat) (r_ : Int32) (C0 : gC X c_Z_exponentb (some .int) 2 "RemnantDictionaryModel" gAll) (hN : gN (gs X)) (i0 i1 : Int32) (hrun : m_zexponent F i0 i1 = some r_) : g_zexponent X r_ 0 [(0, .int i0), (1, .int i1)] [] := by
  have C1 := C0
  obtain ⟨hx, hb, hr, hml, hown, hts, hlocks⟩ := C1
  unfold m_zexponent at hrun
  intro ls hl
  refine lv_iload_n hx hb d_Z_exponent_0 rfl (lv_at hl 0 rfl) ?_
  refine lv_bipush (v := 24) hx hb d_Z_exponent_1 (by decide) ?_
  refine lv_bipush (v := 8) hx hb d_Z_exponent_3 (by decide) ?_
  refine lv_iload_n hx hb d_Z_exponent_5 rfl (lv_at hl 1 rfl) ?_
  refine lv_imul hx hb d_Z_exponent_6 ?_
  refine lv_isub hx hb d_Z_exponent_7 ?_
  refine g_ishr hx hb d_Z_exponent_8 ?_
  refine lv_sipush (v := 255) hx hb d_Z_exponent_9 (by decide) ?_
  refine lv_iand hx hb d_Z_exponent_12 ?_
  cases hrun
  exact W.iret hx hb hr (fun t ht hW => ⟨_, rfl, rfl, ht⟩) (fun q h => absurd h List.not_mem_nil) d_Z_exponent_13
set_option maxHeartbeats 4000000 in
set_option maxRecDepth 100000 in
theorem c_zexponent (l : Launch) (F : Nat) (i0 i1 : Int32) (r_ : Int32) (hrun : m_zexponent F i0 i1 = some r_) : Met l y_Z_exponent (.code y_Z_exponent c_Z_exponentb 2 (some .int) :: gAll) rm_zexponent (va_Pc [.int i0, .int i1] gN) (vp_Si (fun r => r = r_)) 0 0 (fun _ => False) := by
  refine Met.ofW (cc := c_Z_exponentb) (maxL := 2) (ret := (some .int)) (by decide +kernel) rfl ?_
  intro p e s m args below meth c s₁ B hml hv
  obtain ⟨rfl, hN⟩ := hv
  have hl := lv_entry ([.int i0, .int i1]) (n := 2) (Nat.le_of_ble_eq_true rfl)
  rw [lg_entry_eq]
  generalize (lg_sl ([.int i0, .int i1]) ++ List.replicate (2 - (lg_sl ([.int i0, .int i1])).length) Slot.unset).toArray = ls at hl ⊢
  exact e_zexponent (p, l, e, s, m, ([.int i0, .int i1] : List Value).toArray, below, meth, c) F r_ ⟨B.exec, B.bytes, B.returns, hml, findClass_of_methodNamed B.named, fun w h => atoms_spec (ws := (.code y_Z_exponent c_Z_exponentb 2 (some .int) :: gAll)) B.pre w (List.mem_cons_of_mem _ h), B.notSynchronized⟩ hN i0 i1 hrun ls hl
theorem d_Z_degreeOf_0 : decode c_Z_degreeOfb 0 = .ok (.iload_n 0, 1) := by decide +kernel
theorem d_Z_degreeOf_1 : decode c_Z_degreeOfb 1 = .ok (.iconst 0, 1) := by decide +kernel
theorem d_Z_degreeOf_2 : decode c_Z_degreeOfb 2 = .ok (.invokestatic 106, 3) := by decide +kernel
theorem d_Z_degreeOf_5 : decode c_Z_degreeOfb 5 = .ok (.iload_n 0, 1) := by decide +kernel
theorem d_Z_degreeOf_6 : decode c_Z_degreeOfb 6 = .ok (.iconst 1, 1) := by decide +kernel
theorem d_Z_degreeOf_7 : decode c_Z_degreeOfb 7 = .ok (.invokestatic 106, 3) := by decide +kernel
theorem d_Z_degreeOf_10 : decode c_Z_degreeOfb 10 = .ok (.iadd, 1) := by decide +kernel
theorem d_Z_degreeOf_11 : decode c_Z_degreeOfb 11 = .ok (.iload_n 0, 1) := by decide +kernel
theorem d_Z_degreeOf_12 : decode c_Z_degreeOfb 12 = .ok (.iconst 2, 1) := by decide +kernel
theorem d_Z_degreeOf_13 : decode c_Z_degreeOfb 13 = .ok (.invokestatic 106, 3) := by decide +kernel
theorem d_Z_degreeOf_16 : decode c_Z_degreeOfb 16 = .ok (.iadd, 1) := by decide +kernel
theorem d_Z_degreeOf_17 : decode c_Z_degreeOfb 17 = .ok (.iload_n 0, 1) := by decide +kernel
theorem d_Z_degreeOf_18 : decode c_Z_degreeOfb 18 = .ok (.iconst 3, 1) := by decide +kernel
theorem d_Z_degreeOf_19 : decode c_Z_degreeOfb 19 = .ok (.invokestatic 106, 3) := by decide +kernel
theorem d_Z_degreeOf_22 : decode c_Z_degreeOfb 22 = .ok (.iadd, 1) := by decide +kernel
theorem d_Z_degreeOf_23 : decode c_Z_degreeOfb 23 = .ok (.ireturn, 1) := by decide +kernel
abbrev rm_zdegreeOf : Room := { frames := 1, cells := 0, slots := 0, locals := 21 }
abbrev g_zdegreeOf (X : gX) (r_ : Int32) (pc : Nat) (lv : List (Nat × Value)) (st : List Value) : Prop := ∀ ls : Array Slot, lv_has ls 1 lv → gWW X rm_zdegreeOf (gs X).heap [] 0 0 (MQ (gbl X) (vp_Si (fun r => r = r_)) (ga X) (gs X) 0 0 (fun _ => False)) (F0 (gm X) pc ls st)
set_option maxHeartbeats 4000000 in
set_option maxRecDepth 100000 in
theorem e_zdegreeOf (X : gX) (F : Nat) (r_ : Int32) (C0 : gC X c_Z_degreeOfb (some .int) 1 "RemnantDictionaryModel" gAll) (hN : gN (gs X)) (i0 : Int32) (hrun : m_zdegreeOf F i0 = some r_) : g_zdegreeOf X r_ 0 [(0, .int i0)] [] := by
  have C1 := C0
  obtain ⟨hx, hb, hr, hml, hown, hts, hlocks⟩ := C1
  unfold m_zdegreeOf at hrun
  intro ls hl
  refine lv_iload_n hx hb d_Z_degreeOf_0 rfl (lv_at hl 0 rfl) ?_
  refine lv_iconst (v := 0) hx hb d_Z_degreeOf_1 (by decide) ?_
  obtain ⟨r_1, hc, hrun⟩ := bd1_s hrun
  refine vp_callSi (W.runS (As := [.int i0, .int 0]) (rest := []) ⟨hx, hb, hml, hown, hts⟩ (c_zexponent (gl X) F i0 0 r_1 hc) (va_cwS 2 hts (gwS k_334 k_332 k_333 k_331) rfl rfl rfl (by decide +kernel) ⟨Nat.le_of_ble_eq_true rfl, Nat.le_of_ble_eq_true rfl⟩) (gpreS0 hN) rfl rfl hl.1 rfl (lv_room (Nat.le_of_ble_eq_true rfl)) d_Z_degreeOf_2 ⟨Nat.le_of_ble_eq_true rfl, Nat.le_of_ble_eq_true rfl⟩) (nm_e ?_)
  refine lv_iload_n hx hb d_Z_degreeOf_5 rfl (lv_at hl 0 rfl) ?_
  refine lv_iconst (v := 1) hx hb d_Z_degreeOf_6 (by decide) ?_
  obtain ⟨r_2, hc, hrun⟩ := bd1_s hrun
  refine vp_callSi (W.runS (As := [.int i0, .int 1]) (rest := [.int r_1]) ⟨hx, hb, hml, hown, hts⟩ (c_zexponent (gl X) F i0 1 r_2 hc) (va_cwS 2 hts (gwS k_334 k_332 k_333 k_331) rfl rfl rfl (by decide +kernel) ⟨Nat.le_of_ble_eq_true rfl, Nat.le_of_ble_eq_true rfl⟩) (gpreS0 hN) rfl rfl hl.1 rfl (lv_room (Nat.le_of_ble_eq_true rfl)) d_Z_degreeOf_7 ⟨Nat.le_of_ble_eq_true rfl, Nat.le_of_ble_eq_true rfl⟩) (nm_e ?_)
  refine lv_iadd hx hb d_Z_degreeOf_10 ?_
  refine lv_iload_n hx hb d_Z_degreeOf_11 rfl (lv_at hl 0 rfl) ?_
  refine lv_iconst (v := 2) hx hb d_Z_degreeOf_12 (by decide) ?_
  obtain ⟨r_3, hc, hrun⟩ := bd1_s hrun
  refine vp_callSi (W.runS (As := [.int i0, .int 2]) (rest := [.int (r_1 + r_2)]) ⟨hx, hb, hml, hown, hts⟩ (c_zexponent (gl X) F i0 2 r_3 hc) (va_cwS 2 hts (gwS k_334 k_332 k_333 k_331) rfl rfl rfl (by decide +kernel) ⟨Nat.le_of_ble_eq_true rfl, Nat.le_of_ble_eq_true rfl⟩) (gpreS0 hN) rfl rfl hl.1 rfl (lv_room (Nat.le_of_ble_eq_true rfl)) d_Z_degreeOf_13 ⟨Nat.le_of_ble_eq_true rfl, Nat.le_of_ble_eq_true rfl⟩) (nm_e ?_)
  refine lv_iadd hx hb d_Z_degreeOf_16 ?_
  refine lv_iload_n hx hb d_Z_degreeOf_17 rfl (lv_at hl 0 rfl) ?_
  refine lv_iconst (v := 3) hx hb d_Z_degreeOf_18 (by decide) ?_
  obtain ⟨r_4, hc, hrun⟩ := bd1_s hrun
  refine vp_callSi (W.runS (As := [.int i0, .int 3]) (rest := [.int ((r_1 + r_2) + r_3)]) ⟨hx, hb, hml, hown, hts⟩ (c_zexponent (gl X) F i0 3 r_4 hc) (va_cwS 2 hts (gwS k_334 k_332 k_333 k_331) rfl rfl rfl (by decide +kernel) ⟨Nat.le_of_ble_eq_true rfl, Nat.le_of_ble_eq_true rfl⟩) (gpreS0 hN) rfl rfl hl.1 rfl (lv_room (Nat.le_of_ble_eq_true rfl)) d_Z_degreeOf_19 ⟨Nat.le_of_ble_eq_true rfl, Nat.le_of_ble_eq_true rfl⟩) (nm_e ?_)
  refine lv_iadd hx hb d_Z_degreeOf_22 ?_
  cases hrun
  exact W.iret hx hb hr (fun t ht hW => ⟨_, rfl, rfl, ht⟩) (fun q h => absurd h List.not_mem_nil) d_Z_degreeOf_23
set_option maxHeartbeats 4000000 in
set_option maxRecDepth 100000 in
theorem c_zdegreeOf (l : Launch) (F : Nat) (i0 : Int32) (r_ : Int32) (hrun : m_zdegreeOf F i0 = some r_) : Met l y_Z_degreeOf (.code y_Z_degreeOf c_Z_degreeOfb 1 (some .int) :: gAll) rm_zdegreeOf (va_Pc [.int i0] gN) (vp_Si (fun r => r = r_)) 0 0 (fun _ => False) := by
  refine Met.ofW (cc := c_Z_degreeOfb) (maxL := 1) (ret := (some .int)) (by decide +kernel) rfl ?_
  intro p e s m args below meth c s₁ B hml hv
  obtain ⟨rfl, hN⟩ := hv
  have hl := lv_entry ([.int i0]) (n := 1) (Nat.le_of_ble_eq_true rfl)
  rw [lg_entry_eq]
  generalize (lg_sl ([.int i0]) ++ List.replicate (1 - (lg_sl ([.int i0])).length) Slot.unset).toArray = ls at hl ⊢
  exact e_zdegreeOf (p, l, e, s, m, ([.int i0] : List Value).toArray, below, meth, c) F r_ ⟨B.exec, B.bytes, B.returns, hml, findClass_of_methodNamed B.named, fun w h => atoms_spec (ws := (.code y_Z_degreeOf c_Z_degreeOfb 1 (some .int) :: gAll)) B.pre w (List.mem_cons_of_mem _ h), B.notSynchronized⟩ hN i0 hrun ls hl
theorem d_Z_divides_0 : decode c_Z_dividesb 0 = .ok (.iconst 0, 1) := by decide +kernel
theorem d_Z_divides_1 : decode c_Z_dividesb 1 = .ok (.istore_n 2, 1) := by decide +kernel
theorem d_Z_divides_2 : decode c_Z_dividesb 2 = .ok (.iload_n 2, 1) := by decide +kernel
theorem d_Z_divides_3 : decode c_Z_dividesb 3 = .ok (.iconst 4, 1) := by decide +kernel
theorem d_Z_divides_4 : decode c_Z_dividesb 4 = .ok (.if_icmp .ge 24, 3) := by decide +kernel
theorem d_Z_divides_7 : decode c_Z_dividesb 7 = .ok (.iload_n 0, 1) := by decide +kernel
theorem d_Z_divides_8 : decode c_Z_dividesb 8 = .ok (.iload_n 2, 1) := by decide +kernel
theorem d_Z_divides_9 : decode c_Z_dividesb 9 = .ok (.invokestatic 106, 3) := by decide +kernel
theorem d_Z_divides_12 : decode c_Z_dividesb 12 = .ok (.iload_n 1, 1) := by decide +kernel
theorem d_Z_divides_13 : decode c_Z_dividesb 13 = .ok (.iload_n 2, 1) := by decide +kernel
theorem d_Z_divides_14 : decode c_Z_dividesb 14 = .ok (.invokestatic 106, 3) := by decide +kernel
theorem d_Z_divides_17 : decode c_Z_dividesb 17 = .ok (.if_icmp .le 5, 3) := by decide +kernel
theorem d_Z_divides_20 : decode c_Z_dividesb 20 = .ok (.iconst 0, 1) := by decide +kernel
theorem d_Z_divides_21 : decode c_Z_dividesb 21 = .ok (.ireturn, 1) := by decide +kernel
theorem d_Z_divides_22 : decode c_Z_dividesb 22 = .ok (.iinc 2 1, 3) := by decide +kernel
theorem d_Z_divides_25 : decode c_Z_dividesb 25 = .ok (.goto (-23), 3) := by decide +kernel
theorem d_Z_divides_28 : decode c_Z_dividesb 28 = .ok (.iconst 1, 1) := by decide +kernel
theorem d_Z_divides_29 : decode c_Z_dividesb 29 = .ok (.ireturn, 1) := by decide +kernel
abbrev rm_zdivides : Room := { frames := 1, cells := 0, slots := 0, locals := 21 }
abbrev g_zdivides (X : gX) (r_ : Int32) (pc : Nat) (lv : List (Nat × Value)) (st : List Value) : Prop := ∀ ls : Array Slot, lv_has ls 3 lv → gWW X rm_zdivides (gs X).heap [] 0 0 (MQ (gbl X) (vp_Si (fun r => r = r_)) (ga X) (gs X) 0 0 (fun _ => False)) (F0 (gm X) pc ls st)
set_option maxHeartbeats 4000000 in
set_option maxRecDepth 100000 in
theorem w_zdivides_2 (X : gX) (F : Nat) (r_ : Int32) (C0 : gC X c_Z_dividesb (some .boolean) 3 "RemnantDictionaryModel" gAll) (hN : gN (gs X)) (k2 : Int32 → Int32 → Int32 → Option (Int32)) (hk2 : ∀ (i0 i1 i2 : Int32), k2 i0 i1 i2 = some r_ → g_zdivides X r_ 2 [(0, .int i0), (1, .int i1), (2, .int i2)] []) (i0 i1 i2 : Int32) (hrun : s_zdivides_2 F k2 i0 i1 i2 = some r_) : g_zdivides X r_ 2 [(0, .int i0), (1, .int i1), (2, .int i2)] [] := by
  have C1 := C0
  obtain ⟨hx, hb, hr, hml, hown, hts, hlocks⟩ := C1
  unfold s_zdivides_2 at hrun
  intro ls hl
  refine lv_iload_n hx hb d_Z_divides_2 rfl (lv_at hl 2 rfl) ?_
  refine lv_iconst (v := 4) hx hb d_Z_divides_3 (by decide) ?_
  refine g_icmp_ge (tgt := 28) hx hb d_Z_divides_4 (by decide) hrun (fun _ hrun => ?_) (fun _ hrun => ?_)
  · refine lv_iconst (v := 1) hx hb d_Z_divides_28 (by decide) ?_
    cases hrun
    exact W.zret hx hb hr rfl (fun t ht hW => ⟨_, rfl, rfl, ht⟩) (fun q h => absurd h List.not_mem_nil) d_Z_divides_29
  · refine lv_iload_n hx hb d_Z_divides_7 rfl (lv_at hl 0 rfl) ?_
    refine lv_iload_n hx hb d_Z_divides_8 rfl (lv_at hl 2 rfl) ?_
    obtain ⟨r_1, hc, hrun⟩ := bd1_s hrun
    refine vp_callSi (W.runS (As := [.int i0, .int i2]) (rest := []) ⟨hx, hb, hml, hown, hts⟩ (c_zexponent (gl X) F i0 i2 r_1 hc) (va_cwS 2 hts (gwS k_334 k_332 k_333 k_331) rfl rfl rfl (by decide +kernel) ⟨Nat.le_of_ble_eq_true rfl, Nat.le_of_ble_eq_true rfl⟩) (gpreS0 hN) rfl rfl hl.1 rfl (lv_room (Nat.le_of_ble_eq_true rfl)) d_Z_divides_9 ⟨Nat.le_of_ble_eq_true rfl, Nat.le_of_ble_eq_true rfl⟩) (nm_e ?_)
    refine lv_iload_n hx hb d_Z_divides_12 rfl (lv_at hl 1 rfl) ?_
    refine lv_iload_n hx hb d_Z_divides_13 rfl (lv_at hl 2 rfl) ?_
    obtain ⟨r_2, hc, hrun⟩ := bd1_s hrun
    refine vp_callSi (W.runS (As := [.int i1, .int i2]) (rest := [.int r_1]) ⟨hx, hb, hml, hown, hts⟩ (c_zexponent (gl X) F i1 i2 r_2 hc) (va_cwS 2 hts (gwS k_334 k_332 k_333 k_331) rfl rfl rfl (by decide +kernel) ⟨Nat.le_of_ble_eq_true rfl, Nat.le_of_ble_eq_true rfl⟩) (gpreS0 hN) rfl rfl hl.1 rfl (lv_room (Nat.le_of_ble_eq_true rfl)) d_Z_divides_14 ⟨Nat.le_of_ble_eq_true rfl, Nat.le_of_ble_eq_true rfl⟩) (nm_e ?_)
    refine g_icmp_le (tgt := 22) hx hb d_Z_divides_17 (by decide) hrun (fun _ hrun => ?_) (fun _ hrun => ?_)
    · refine lv_iinc (v := (i2 + 1)) (lv' := [(2, .int (i2 + 1)), (0, .int i0), (1, .int i1)]) hx hb d_Z_divides_22 hl (k := 2) rfl rfl (by decide) rfl (fun ls hl => ?_)
      refine lv_goto (tgt := 2) hx hb d_Z_divides_25 (by decide) ?_
      exact hk2 i0 i1 (i2 + 1) hrun ls (lv_sub hl [1, 2, 0] rfl)
    · refine lv_iconst (v := 0) hx hb d_Z_divides_20 (by decide) ?_
      cases hrun
      exact W.zret hx hb hr rfl (fun t ht hW => ⟨_, rfl, rfl, ht⟩) (fun q h => absurd h List.not_mem_nil) d_Z_divides_21
theorem v_zdivides_2 (X : gX) (F : Nat) (r_ : Int32) (C0 : gC X c_Z_dividesb (some .boolean) 3 "RemnantDictionaryModel" gAll) (hN : gN (gs X))  : ∀ (n : Nat) (i0 i1 i2 : Int32), b_zdivides_2 F n i0 i1 i2 = some r_ → g_zdivides X r_ 2 [(0, .int i0), (1, .int i1), (2, .int i2)] [] := by
  intro n
  induction n with
  | zero => intro i0 i1 i2 hrun; cases hrun
  | succ n ih =>
    intro i0 i1 i2 hrun
    exact w_zdivides_2 X F r_ C0 hN (b_zdivides_2 F n) ih i0 i1 i2 hrun
set_option maxHeartbeats 4000000 in
set_option maxRecDepth 100000 in
theorem e_zdivides (X : gX) (F : Nat) (r_ : Int32) (C0 : gC X c_Z_dividesb (some .boolean) 3 "RemnantDictionaryModel" gAll) (hN : gN (gs X)) (i0 i1 : Int32) (hrun : m_zdivides F i0 i1 = some r_) : g_zdivides X r_ 0 [(0, .int i0), (1, .int i1)] [] := by
  have C1 := C0
  obtain ⟨hx, hb, hr, hml, hown, hts, hlocks⟩ := C1
  unfold m_zdivides at hrun
  intro ls hl
  refine lv_iconst (v := 0) hx hb d_Z_divides_0 (by decide) ?_
  refine lv_istore_n (lv' := [(2, .int 0), (0, .int i0), (1, .int i1)]) hx hb d_Z_divides_1 rfl hl (by decide) rfl (fun ls hl => ?_)
  exact v_zdivides_2 X F r_ C0 hN  F i0 i1 0 hrun ls (lv_sub hl [1, 2, 0] rfl)
set_option maxHeartbeats 4000000 in
set_option maxRecDepth 100000 in
theorem c_zdivides (l : Launch) (F : Nat) (i0 i1 : Int32) (r_ : Int32) (hrun : m_zdivides F i0 i1 = some r_) : Met l y_Z_divides (.code y_Z_divides c_Z_dividesb 3 (some .boolean) :: gAll) rm_zdivides (va_Pc [.int i0, .int i1] gN) (vp_Si (fun r => r = r_)) 0 0 (fun _ => False) := by
  refine Met.ofW (cc := c_Z_dividesb) (maxL := 3) (ret := (some .boolean)) (by decide +kernel) rfl ?_
  intro p e s m args below meth c s₁ B hml hv
  obtain ⟨rfl, hN⟩ := hv
  have hl := lv_entry ([.int i0, .int i1]) (n := 3) (Nat.le_of_ble_eq_true rfl)
  rw [lg_entry_eq]
  generalize (lg_sl ([.int i0, .int i1]) ++ List.replicate (3 - (lg_sl ([.int i0, .int i1])).length) Slot.unset).toArray = ls at hl ⊢
  exact e_zdivides (p, l, e, s, m, ([.int i0, .int i1] : List Value).toArray, below, meth, c) F r_ ⟨B.exec, B.bytes, B.returns, hml, findClass_of_methodNamed B.named, fun w h => atoms_spec (ws := (.code y_Z_divides c_Z_dividesb 3 (some .boolean) :: gAll)) B.pre w (List.mem_cons_of_mem _ h), B.notSynchronized⟩ hN i0 i1 hrun ls hl
theorem d_Z_prime_0 : decode c_Z_primeb 0 = .ok (.iload_n 0, 1) := by decide +kernel
theorem d_Z_prime_1 : decode c_Z_primeb 1 = .ok (.iconst 2, 1) := by decide +kernel
theorem d_Z_prime_2 : decode c_Z_primeb 2 = .ok (.if_icmp .lt 10, 3) := by decide +kernel
theorem d_Z_prime_5 : decode c_Z_primeb 5 = .ok (.iload_n 0, 1) := by decide +kernel
theorem d_Z_prime_6 : decode c_Z_primeb 6 = .ok (.sipush 32003, 3) := by decide +kernel
theorem d_Z_prime_9 : decode c_Z_primeb 9 = .ok (.if_icmp .le 5, 3) := by decide +kernel
theorem d_Z_prime_12 : decode c_Z_primeb 12 = .ok (.iconst 0, 1) := by decide +kernel
theorem d_Z_prime_13 : decode c_Z_primeb 13 = .ok (.ireturn, 1) := by decide +kernel
theorem d_Z_prime_14 : decode c_Z_primeb 14 = .ok (.iconst 2, 1) := by decide +kernel
theorem d_Z_prime_15 : decode c_Z_primeb 15 = .ok (.istore_n 1, 1) := by decide +kernel
theorem d_Z_prime_16 : decode c_Z_primeb 16 = .ok (.iload_n 1, 1) := by decide +kernel
theorem d_Z_prime_17 : decode c_Z_primeb 17 = .ok (.iload_n 1, 1) := by decide +kernel
theorem d_Z_prime_18 : decode c_Z_primeb 18 = .ok (.imul, 1) := by decide +kernel
theorem d_Z_prime_19 : decode c_Z_primeb 19 = .ok (.iload_n 0, 1) := by decide +kernel
theorem d_Z_prime_20 : decode c_Z_primeb 20 = .ok (.if_icmp .gt 17, 3) := by decide +kernel
theorem d_Z_prime_23 : decode c_Z_primeb 23 = .ok (.iload_n 0, 1) := by decide +kernel
theorem d_Z_prime_24 : decode c_Z_primeb 24 = .ok (.iload_n 1, 1) := by decide +kernel
theorem d_Z_prime_25 : decode c_Z_primeb 25 = .ok (.irem, 1) := by decide +kernel
theorem d_Z_prime_26 : decode c_Z_primeb 26 = .ok (.ifCond .ne 5, 3) := by decide +kernel
theorem d_Z_prime_29 : decode c_Z_primeb 29 = .ok (.iconst 0, 1) := by decide +kernel
theorem d_Z_prime_30 : decode c_Z_primeb 30 = .ok (.ireturn, 1) := by decide +kernel
theorem d_Z_prime_31 : decode c_Z_primeb 31 = .ok (.iinc 1 1, 3) := by decide +kernel
theorem d_Z_prime_34 : decode c_Z_primeb 34 = .ok (.goto (-18), 3) := by decide +kernel
theorem d_Z_prime_37 : decode c_Z_primeb 37 = .ok (.iconst 1, 1) := by decide +kernel
theorem d_Z_prime_38 : decode c_Z_primeb 38 = .ok (.ireturn, 1) := by decide +kernel
abbrev rm_zprime : Room := { frames := 0, cells := 0, slots := 0, locals := 0 }
abbrev g_zprime (X : gX) (r_ : Int32) (pc : Nat) (lv : List (Nat × Value)) (st : List Value) : Prop := ∀ ls : Array Slot, lv_has ls 2 lv → gWW X rm_zprime (gs X).heap [] 0 0 (MQ (gbl X) (vp_Si (fun r => r = r_)) (ga X) (gs X) 0 0 (fun _ => False)) (F0 (gm X) pc ls st)
set_option maxHeartbeats 4000000 in
set_option maxRecDepth 100000 in
theorem w_zprime_16 (X : gX) (F : Nat) (r_ : Int32) (C0 : gC X c_Z_primeb (some .boolean) 2 "RemnantDictionaryModel" gAll) (hN : gN (gs X)) (k16 : Int32 → Int32 → Option (Int32)) (hk16 : ∀ (i0 i1 : Int32), k16 i0 i1 = some r_ → g_zprime X r_ 16 [(0, .int i0), (1, .int i1)] []) (i0 i1 : Int32) (hrun : s_zprime_16 F k16 i0 i1 = some r_) : g_zprime X r_ 16 [(0, .int i0), (1, .int i1)] [] := by
  have C1 := C0
  obtain ⟨hx, hb, hr, hml, hown, hts, hlocks⟩ := C1
  unfold s_zprime_16 at hrun
  intro ls hl
  refine lv_iload_n hx hb d_Z_prime_16 rfl (lv_at hl 1 rfl) ?_
  refine lv_iload_n hx hb d_Z_prime_17 rfl (lv_at hl 1 rfl) ?_
  refine lv_imul hx hb d_Z_prime_18 ?_
  refine lv_iload_n hx hb d_Z_prime_19 rfl (lv_at hl 0 rfl) ?_
  refine g_icmp_gt (tgt := 37) hx hb d_Z_prime_20 (by decide) hrun (fun _ hrun => ?_) (fun _ hrun => ?_)
  · refine lv_iconst (v := 1) hx hb d_Z_prime_37 (by decide) ?_
    cases hrun
    exact W.zret hx hb hr rfl (fun t ht hW => ⟨_, rfl, rfl, ht⟩) (fun q h => absurd h List.not_mem_nil) d_Z_prime_38
  · refine lv_iload_n hx hb d_Z_prime_23 rfl (lv_at hl 0 rfl) ?_
    refine lv_iload_n hx hb d_Z_prime_24 rfl (lv_at hl 1 rfl) ?_
    refine g_irem hx hb d_Z_prime_25 hrun (fun hrun => ?_)
    refine g_if_ne (tgt := 31) hx hb d_Z_prime_26 (by decide) hrun (fun _ hrun => ?_) (fun _ hrun => ?_)
    · refine lv_iinc (v := (i1 + 1)) (lv' := [(1, .int (i1 + 1)), (0, .int i0)]) hx hb d_Z_prime_31 hl (k := 1) rfl rfl (by decide) rfl (fun ls hl => ?_)
      refine lv_goto (tgt := 16) hx hb d_Z_prime_34 (by decide) ?_
      exact hk16 i0 (i1 + 1) hrun ls (lv_sub hl [1, 0] rfl)
    · refine lv_iconst (v := 0) hx hb d_Z_prime_29 (by decide) ?_
      cases hrun
      exact W.zret hx hb hr rfl (fun t ht hW => ⟨_, rfl, rfl, ht⟩) (fun q h => absurd h List.not_mem_nil) d_Z_prime_30
theorem v_zprime_16 (X : gX) (F : Nat) (r_ : Int32) (C0 : gC X c_Z_primeb (some .boolean) 2 "RemnantDictionaryModel" gAll) (hN : gN (gs X))  : ∀ (n : Nat) (i0 i1 : Int32), b_zprime_16 F n i0 i1 = some r_ → g_zprime X r_ 16 [(0, .int i0), (1, .int i1)] [] := by
  intro n
  induction n with
  | zero => intro i0 i1 hrun; cases hrun
  | succ n ih =>
    intro i0 i1 hrun
    exact w_zprime_16 X F r_ C0 hN (b_zprime_16 F n) ih i0 i1 hrun
set_option maxHeartbeats 4000000 in
set_option maxRecDepth 100000 in
theorem e_zprime (X : gX) (F : Nat) (r_ : Int32) (C0 : gC X c_Z_primeb (some .boolean) 2 "RemnantDictionaryModel" gAll) (hN : gN (gs X)) (i0 : Int32) (hrun : m_zprime F i0 = some r_) : g_zprime X r_ 0 [(0, .int i0)] [] := by
  have C1 := C0
  obtain ⟨hx, hb, hr, hml, hown, hts, hlocks⟩ := C1
  unfold m_zprime at hrun
  intro ls hl
  refine lv_iload_n hx hb d_Z_prime_0 rfl (lv_at hl 0 rfl) ?_
  refine lv_iconst (v := 2) hx hb d_Z_prime_1 (by decide) ?_
  refine g_icmp_lt (tgt := 12) hx hb d_Z_prime_2 (by decide) hrun (fun _ hrun => ?_) (fun _ hrun => ?_)
  · refine lv_iconst (v := 0) hx hb d_Z_prime_12 (by decide) ?_
    cases hrun
    exact W.zret hx hb hr rfl (fun t ht hW => ⟨_, rfl, rfl, ht⟩) (fun q h => absurd h List.not_mem_nil) d_Z_prime_13
  · refine lv_iload_n hx hb d_Z_prime_5 rfl (lv_at hl 0 rfl) ?_
    refine lv_sipush (v := 32003) hx hb d_Z_prime_6 (by decide) ?_
    refine g_icmp_le (tgt := 14) hx hb d_Z_prime_9 (by decide) hrun (fun _ hrun => ?_) (fun _ hrun => ?_)
    · refine lv_iconst (v := 2) hx hb d_Z_prime_14 (by decide) ?_
      refine lv_istore_n (lv' := [(1, .int 2), (0, .int i0)]) hx hb d_Z_prime_15 rfl hl (by decide) rfl (fun ls hl => ?_)
      exact v_zprime_16 X F r_ C0 hN  F i0 2 hrun ls (lv_sub hl [1, 0] rfl)
    · refine lv_iconst (v := 0) hx hb d_Z_prime_12 (by decide) ?_
      cases hrun
      exact W.zret hx hb hr rfl (fun t ht hW => ⟨_, rfl, rfl, ht⟩) (fun q h => absurd h List.not_mem_nil) d_Z_prime_13
set_option maxHeartbeats 4000000 in
set_option maxRecDepth 100000 in
theorem c_zprime (l : Launch) (F : Nat) (i0 : Int32) (r_ : Int32) (hrun : m_zprime F i0 = some r_) : Met l y_Z_prime (.code y_Z_prime c_Z_primeb 2 (some .boolean) :: gAll) rm_zprime (va_Pc [.int i0] gN) (vp_Si (fun r => r = r_)) 0 0 (fun _ => False) := by
  refine Met.ofW (cc := c_Z_primeb) (maxL := 2) (ret := (some .boolean)) (by decide +kernel) rfl ?_
  intro p e s m args below meth c s₁ B hml hv
  obtain ⟨rfl, hN⟩ := hv
  have hl := lv_entry ([.int i0]) (n := 2) (Nat.le_of_ble_eq_true rfl)
  rw [lg_entry_eq]
  generalize (lg_sl ([.int i0]) ++ List.replicate (2 - (lg_sl ([.int i0])).length) Slot.unset).toArray = ls at hl ⊢
  exact e_zprime (p, l, e, s, m, ([.int i0] : List Value).toArray, below, meth, c) F r_ ⟨B.exec, B.bytes, B.returns, hml, findClass_of_methodNamed B.named, fun w h => atoms_spec (ws := (.code y_Z_prime c_Z_primeb 2 (some .boolean) :: gAll)) B.pre w (List.mem_cons_of_mem _ h), B.notSynchronized⟩ hN i0 hrun ls hl
theorem d_Z_greater_0 : decode c_Z_greaterb 0 = .ok (.iload_n 1, 1) := by decide +kernel
theorem d_Z_greater_1 : decode c_Z_greaterb 1 = .ok (.invokestatic 110, 3) := by decide +kernel
theorem d_Z_greater_4 : decode c_Z_greaterb 4 = .ok (.iload_n 2, 1) := by decide +kernel
theorem d_Z_greater_5 : decode c_Z_greaterb 5 = .ok (.invokestatic 110, 3) := by decide +kernel
theorem d_Z_greater_8 : decode c_Z_greaterb 8 = .ok (.if_icmp .eq 20, 3) := by decide +kernel
theorem d_Z_greater_11 : decode c_Z_greaterb 11 = .ok (.iload_n 1, 1) := by decide +kernel
theorem d_Z_greater_12 : decode c_Z_greaterb 12 = .ok (.invokestatic 110, 3) := by decide +kernel
theorem d_Z_greater_15 : decode c_Z_greaterb 15 = .ok (.iload_n 2, 1) := by decide +kernel
theorem d_Z_greater_16 : decode c_Z_greaterb 16 = .ok (.invokestatic 110, 3) := by decide +kernel
theorem d_Z_greater_19 : decode c_Z_greaterb 19 = .ok (.if_icmp .le 7, 3) := by decide +kernel
theorem d_Z_greater_22 : decode c_Z_greaterb 22 = .ok (.iconst 1, 1) := by decide +kernel
theorem d_Z_greater_23 : decode c_Z_greaterb 23 = .ok (.goto 4, 3) := by decide +kernel
theorem d_Z_greater_26 : decode c_Z_greaterb 26 = .ok (.iconst 0, 1) := by decide +kernel
theorem d_Z_greater_27 : decode c_Z_greaterb 27 = .ok (.ireturn, 1) := by decide +kernel
theorem d_Z_greater_28 : decode c_Z_greaterb 28 = .ok (.iconst 0, 1) := by decide +kernel
theorem d_Z_greater_29 : decode c_Z_greaterb 29 = .ok (.istore_n 3, 1) := by decide +kernel
theorem d_Z_greater_30 : decode c_Z_greaterb 30 = .ok (.iload_n 3, 1) := by decide +kernel
theorem d_Z_greater_31 : decode c_Z_greaterb 31 = .ok (.iconst 4, 1) := by decide +kernel
theorem d_Z_greater_32 : decode c_Z_greaterb 32 = .ok (.if_icmp .ge 91, 3) := by decide +kernel
theorem d_Z_greater_35 : decode c_Z_greaterb 35 = .ok (.aload_n 0, 1) := by decide +kernel
theorem d_Z_greater_36 : decode c_Z_greaterb 36 = .ok (.getfield 19, 3) := by decide +kernel
theorem d_Z_greater_39 : decode c_Z_greaterb 39 = .ok (.ifCond .ne 9, 3) := by decide +kernel
theorem d_Z_greater_42 : decode c_Z_greaterb 42 = .ok (.iconst 3, 1) := by decide +kernel
theorem d_Z_greater_43 : decode c_Z_greaterb 43 = .ok (.iload_n 3, 1) := by decide +kernel
theorem d_Z_greater_44 : decode c_Z_greaterb 44 = .ok (.isub, 1) := by decide +kernel
theorem d_Z_greater_45 : decode c_Z_greaterb 45 = .ok (.goto 4, 3) := by decide +kernel
theorem d_Z_greater_48 : decode c_Z_greaterb 48 = .ok (.iload_n 3, 1) := by decide +kernel
theorem d_Z_greater_49 : decode c_Z_greaterb 49 = .ok (.istore 4, 2) := by decide +kernel
theorem d_Z_greater_51 : decode c_Z_greaterb 51 = .ok (.iload_n 1, 1) := by decide +kernel
theorem d_Z_greater_52 : decode c_Z_greaterb 52 = .ok (.iload 4, 2) := by decide +kernel
theorem d_Z_greater_54 : decode c_Z_greaterb 54 = .ok (.invokestatic 106, 3) := by decide +kernel
theorem d_Z_greater_57 : decode c_Z_greaterb 57 = .ok (.iload_n 2, 1) := by decide +kernel
theorem d_Z_greater_58 : decode c_Z_greaterb 58 = .ok (.iload 4, 2) := by decide +kernel
theorem d_Z_greater_60 : decode c_Z_greaterb 60 = .ok (.invokestatic 106, 3) := by decide +kernel
theorem d_Z_greater_63 : decode c_Z_greaterb 63 = .ok (.if_icmp .eq 54, 3) := by decide +kernel
theorem d_Z_greater_66 : decode c_Z_greaterb 66 = .ok (.aload_n 0, 1) := by decide +kernel
theorem d_Z_greater_67 : decode c_Z_greaterb 67 = .ok (.getfield 19, 3) := by decide +kernel
theorem d_Z_greater_70 : decode c_Z_greaterb 70 = .ok (.ifCond .ne 26, 3) := by decide +kernel
theorem d_Z_greater_73 : decode c_Z_greaterb 73 = .ok (.iload_n 1, 1) := by decide +kernel
theorem d_Z_greater_74 : decode c_Z_greaterb 74 = .ok (.iload 4, 2) := by decide +kernel
theorem d_Z_greater_76 : decode c_Z_greaterb 76 = .ok (.invokestatic 106, 3) := by decide +kernel
theorem d_Z_greater_79 : decode c_Z_greaterb 79 = .ok (.iload_n 2, 1) := by decide +kernel
theorem d_Z_greater_80 : decode c_Z_greaterb 80 = .ok (.iload 4, 2) := by decide +kernel
theorem d_Z_greater_82 : decode c_Z_greaterb 82 = .ok (.invokestatic 106, 3) := by decide +kernel
theorem d_Z_greater_85 : decode c_Z_greaterb 85 = .ok (.if_icmp .ge 7, 3) := by decide +kernel
theorem d_Z_greater_88 : decode c_Z_greaterb 88 = .ok (.iconst 1, 1) := by decide +kernel
theorem d_Z_greater_89 : decode c_Z_greaterb 89 = .ok (.goto 27, 3) := by decide +kernel
theorem d_Z_greater_92 : decode c_Z_greaterb 92 = .ok (.iconst 0, 1) := by decide +kernel
theorem d_Z_greater_93 : decode c_Z_greaterb 93 = .ok (.goto 23, 3) := by decide +kernel
theorem d_Z_greater_96 : decode c_Z_greaterb 96 = .ok (.iload_n 1, 1) := by decide +kernel
theorem d_Z_greater_97 : decode c_Z_greaterb 97 = .ok (.iload 4, 2) := by decide +kernel
theorem d_Z_greater_99 : decode c_Z_greaterb 99 = .ok (.invokestatic 106, 3) := by decide +kernel
theorem d_Z_greater_102 : decode c_Z_greaterb 102 = .ok (.iload_n 2, 1) := by decide +kernel
theorem d_Z_greater_103 : decode c_Z_greaterb 103 = .ok (.iload 4, 2) := by decide +kernel
theorem d_Z_greater_105 : decode c_Z_greaterb 105 = .ok (.invokestatic 106, 3) := by decide +kernel
theorem d_Z_greater_108 : decode c_Z_greaterb 108 = .ok (.if_icmp .le 7, 3) := by decide +kernel
theorem d_Z_greater_111 : decode c_Z_greaterb 111 = .ok (.iconst 1, 1) := by decide +kernel
theorem d_Z_greater_112 : decode c_Z_greaterb 112 = .ok (.goto 4, 3) := by decide +kernel
theorem d_Z_greater_115 : decode c_Z_greaterb 115 = .ok (.iconst 0, 1) := by decide +kernel
theorem d_Z_greater_116 : decode c_Z_greaterb 116 = .ok (.ireturn, 1) := by decide +kernel
theorem d_Z_greater_117 : decode c_Z_greaterb 117 = .ok (.iinc 3 1, 3) := by decide +kernel
theorem d_Z_greater_120 : decode c_Z_greaterb 120 = .ok (.goto (-90), 3) := by decide +kernel
theorem d_Z_greater_123 : decode c_Z_greaterb 123 = .ok (.iconst 0, 1) := by decide +kernel
theorem d_Z_greater_124 : decode c_Z_greaterb 124 = .ok (.ireturn, 1) := by decide +kernel
abbrev ws_zgreater (a_Z a_Z_mono a_Z_degree a_Z_generator a_Z_hand a_Z_has a_Z_row a_Z_work a_Z_basis a_Z_rest a_Z_product a_Z_known a_Z_lead a_Z_tail a_Z_word a_Z_vector a_Z_system a_Z_now a_Z_next : Nat) (cI cL cZ : ClassId) (Z_thrownCode Z_p Z_n Z_order Z_monomials Z_generators Z_upTo Z_members Z_lefts Z_vars Z_leadsFound Z_words : Int32) : va_W := [(a_Z, .inr (5, [.int Z_thrownCode, .int Z_p, .int Z_n, .int Z_order, .int Z_monomials, .ref a_Z_mono, .ref a_Z_degree, .int Z_generators, .ref a_Z_generator, .ref a_Z_hand, .int Z_upTo, .ref a_Z_has, .ref a_Z_row, .ref a_Z_work, .ref a_Z_basis, .int Z_members, .int Z_lefts, .int Z_vars, .ref a_Z_rest, .ref a_Z_product, .ref a_Z_known, .int Z_leadsFound, .ref a_Z_lead, .ref a_Z_tail, .int Z_words, .ref a_Z_word, .ref a_Z_vector, .ref a_Z_system, .ref a_Z_now, .ref a_Z_next]))]
abbrev rm_zgreater : Room := { frames := 2, cells := 0, slots := 0, locals := 41 }
abbrev g_zgreater (X : gX) (r_ : Int32) (pc : Nat) (lv : List (Nat × Value)) (st : List Value) : Prop := ∀ ls : Array Slot, lv_has ls 5 lv → gWW X rm_zgreater (gs X).heap [] 0 0 (MQ (gbl X) (vp_Si (fun r => r = r_)) (ga X) (gs X) 0 0 (fun _ => False)) (F0 (gm X) pc ls st)
set_option maxHeartbeats 4000000 in
set_option maxRecDepth 100000 in
theorem w_zgreater_49 (X : gX) (D : va_G) (cI cL cZ : ClassId) (a_Z a_Z_mono a_Z_degree a_Z_generator a_Z_hand a_Z_has a_Z_row a_Z_work a_Z_basis a_Z_rest a_Z_product a_Z_known a_Z_lead a_Z_tail a_Z_word a_Z_vector a_Z_system a_Z_now a_Z_next : Nat) (F : Nat) (Z_thrownCode Z_p Z_n Z_order Z_monomials Z_generators Z_upTo Z_members Z_lefts Z_vars Z_leadsFound Z_words r_ : Int32) (C0 : gC X c_Z_greaterb (some .boolean) 5 "RemnantDictionaryModel" gAll) (hK : va_K D classes (gT cI cL cZ) (gs X)) (hP : va_P D classes (ws_zgreater a_Z a_Z_mono a_Z_degree a_Z_generator a_Z_hand a_Z_has a_Z_row a_Z_work a_Z_basis a_Z_rest a_Z_product a_Z_known a_Z_lead a_Z_tail a_Z_word a_Z_vector a_Z_system a_Z_now a_Z_next cI cL cZ Z_thrownCode Z_p Z_n Z_order Z_monomials Z_generators Z_upTo Z_members Z_lefts Z_vars Z_leadsFound Z_words) (gs X).heap) (hN : gN (gs X)) (k30 : Int32 → Int32 → Int32 → Option (Int32)) (hk30 : ∀ (i1 i2 i3 : Int32), k30 i1 i2 i3 = some r_ → g_zgreater X r_ 30 [(0, .ref a_Z), (1, .int i1), (2, .int i2), (3, .int i3)] []) (i1 i2 i3 t0 : Int32) (hrun : s_zgreater_49 F Z_order k30 i1 i2 i3 t0 = some r_) : g_zgreater X r_ 49 [(0, .ref a_Z), (1, .int i1), (2, .int i2), (3, .int i3)] [.int t0] := by
  have C1 := C0
  obtain ⟨hx, hb, hr, hml, hown, hts, hlocks⟩ := C1
  unfold s_zgreater_49 at hrun
  intro ls hl
  refine lv_istore (lv' := [(4, .int t0), (0, .ref a_Z), (1, .int i1), (2, .int i2), (3, .int i3)]) hx hb d_Z_greater_49 hl (by decide) rfl (fun ls hl => ?_)
  refine lv_iload_n hx hb d_Z_greater_51 rfl (lv_at hl 2 rfl) ?_
  refine lv_iload hx hb d_Z_greater_52 (lv_at hl 0 rfl) ?_
  obtain ⟨r_1, hc, hrun⟩ := bd1_s hrun
  refine vp_callSi (W.runS (As := [.int i1, .int t0]) (rest := []) ⟨hx, hb, hml, hown, hts⟩ (c_zexponent (gl X) F i1 t0 r_1 hc) (va_cwS 2 hts (gwS k_334 k_332 k_333 k_331) rfl rfl rfl (by decide +kernel) ⟨Nat.le_of_ble_eq_true rfl, Nat.le_of_ble_eq_true rfl⟩) (gpreS0 hN) rfl rfl hl.1 rfl (lv_room (Nat.le_of_ble_eq_true rfl)) d_Z_greater_54 ⟨Nat.le_of_ble_eq_true rfl, Nat.le_of_ble_eq_true rfl⟩) (nm_e ?_)
  refine lv_iload_n hx hb d_Z_greater_57 rfl (lv_at hl 3 rfl) ?_
  refine lv_iload hx hb d_Z_greater_58 (lv_at hl 0 rfl) ?_
  obtain ⟨r_2, hc, hrun⟩ := bd1_s hrun
  refine vp_callSi (W.runS (As := [.int i2, .int t0]) (rest := [.int r_1]) ⟨hx, hb, hml, hown, hts⟩ (c_zexponent (gl X) F i2 t0 r_2 hc) (va_cwS 2 hts (gwS k_334 k_332 k_333 k_331) rfl rfl rfl (by decide +kernel) ⟨Nat.le_of_ble_eq_true rfl, Nat.le_of_ble_eq_true rfl⟩) (gpreS0 hN) rfl rfl hl.1 rfl (lv_room (Nat.le_of_ble_eq_true rfl)) d_Z_greater_60 ⟨Nat.le_of_ble_eq_true rfl, Nat.le_of_ble_eq_true rfl⟩) (nm_e ?_)
  refine g_icmp_eq (tgt := 117) hx hb d_Z_greater_63 (by decide) hrun (fun _ hrun => ?_) (fun _ hrun => ?_)
  · refine lv_iinc (v := (i3 + 1)) (lv' := [(3, .int (i3 + 1)), (4, .int t0), (0, .ref a_Z), (1, .int i1), (2, .int i2)]) hx hb d_Z_greater_117 hl (k := 4) rfl rfl (by decide) rfl (fun ls hl => ?_)
    refine lv_goto (tgt := 30) hx hb d_Z_greater_120 (by decide) ?_
    exact hk30 i1 i2 (i3 + 1) hrun ls (lv_sub hl [2, 3, 4, 0] rfl)
  · refine lv_aload_n hx hb d_Z_greater_66 rfl (lv_at hl 1 rfl) ?_
    refine va_get (D := D) (ci := 5) (v := .int Z_order) (C := "RemnantDictionaryModel") (T := T_Z) (N := 30) hx hb hts iw_Z hown hK hP 0 rfl rfl 3 (by decide) (hts _ k_368) (fun _ h9 => h9) rfl d_Z_greater_67 ?_
    refine g_if_ne (tgt := 96) hx hb d_Z_greater_70 (by decide) hrun (fun _ hrun => ?_) (fun _ hrun => ?_)
    · refine lv_iload_n hx hb d_Z_greater_96 rfl (lv_at hl 2 rfl) ?_
      refine lv_iload hx hb d_Z_greater_97 (lv_at hl 0 rfl) ?_
      obtain ⟨r_3, hc, hrun⟩ := bd1_s hrun
      refine vp_callSi (W.runS (As := [.int i1, .int t0]) (rest := []) ⟨hx, hb, hml, hown, hts⟩ (c_zexponent (gl X) F i1 t0 r_3 hc) (va_cwS 2 hts (gwS k_334 k_332 k_333 k_331) rfl rfl rfl (by decide +kernel) ⟨Nat.le_of_ble_eq_true rfl, Nat.le_of_ble_eq_true rfl⟩) (gpreS0 hN) rfl rfl hl.1 rfl (lv_room (Nat.le_of_ble_eq_true rfl)) d_Z_greater_99 ⟨Nat.le_of_ble_eq_true rfl, Nat.le_of_ble_eq_true rfl⟩) (nm_e ?_)
      refine lv_iload_n hx hb d_Z_greater_102 rfl (lv_at hl 3 rfl) ?_
      refine lv_iload hx hb d_Z_greater_103 (lv_at hl 0 rfl) ?_
      obtain ⟨r_4, hc, hrun⟩ := bd1_s hrun
      refine vp_callSi (W.runS (As := [.int i2, .int t0]) (rest := [.int r_3]) ⟨hx, hb, hml, hown, hts⟩ (c_zexponent (gl X) F i2 t0 r_4 hc) (va_cwS 2 hts (gwS k_334 k_332 k_333 k_331) rfl rfl rfl (by decide +kernel) ⟨Nat.le_of_ble_eq_true rfl, Nat.le_of_ble_eq_true rfl⟩) (gpreS0 hN) rfl rfl hl.1 rfl (lv_room (Nat.le_of_ble_eq_true rfl)) d_Z_greater_105 ⟨Nat.le_of_ble_eq_true rfl, Nat.le_of_ble_eq_true rfl⟩) (nm_e ?_)
      refine g_icmp_le (tgt := 115) hx hb d_Z_greater_108 (by decide) hrun (fun _ hrun => ?_) (fun _ hrun => ?_)
      · refine lv_iconst (v := 0) hx hb d_Z_greater_115 (by decide) ?_
        cases hrun
        exact W.zret hx hb hr rfl (fun t ht hW => ⟨_, rfl, rfl, ht⟩) (fun q h => absurd h List.not_mem_nil) d_Z_greater_116
      · refine lv_iconst (v := 1) hx hb d_Z_greater_111 (by decide) ?_
        refine lv_goto (tgt := 116) hx hb d_Z_greater_112 (by decide) ?_
        cases hrun
        exact W.zret hx hb hr rfl (fun t ht hW => ⟨_, rfl, rfl, ht⟩) (fun q h => absurd h List.not_mem_nil) d_Z_greater_116
    · refine lv_iload_n hx hb d_Z_greater_73 rfl (lv_at hl 2 rfl) ?_
      refine lv_iload hx hb d_Z_greater_74 (lv_at hl 0 rfl) ?_
      obtain ⟨r_5, hc, hrun⟩ := bd1_s hrun
      refine vp_callSi (W.runS (As := [.int i1, .int t0]) (rest := []) ⟨hx, hb, hml, hown, hts⟩ (c_zexponent (gl X) F i1 t0 r_5 hc) (va_cwS 2 hts (gwS k_334 k_332 k_333 k_331) rfl rfl rfl (by decide +kernel) ⟨Nat.le_of_ble_eq_true rfl, Nat.le_of_ble_eq_true rfl⟩) (gpreS0 hN) rfl rfl hl.1 rfl (lv_room (Nat.le_of_ble_eq_true rfl)) d_Z_greater_76 ⟨Nat.le_of_ble_eq_true rfl, Nat.le_of_ble_eq_true rfl⟩) (nm_e ?_)
      refine lv_iload_n hx hb d_Z_greater_79 rfl (lv_at hl 3 rfl) ?_
      refine lv_iload hx hb d_Z_greater_80 (lv_at hl 0 rfl) ?_
      obtain ⟨r_6, hc, hrun⟩ := bd1_s hrun
      refine vp_callSi (W.runS (As := [.int i2, .int t0]) (rest := [.int r_5]) ⟨hx, hb, hml, hown, hts⟩ (c_zexponent (gl X) F i2 t0 r_6 hc) (va_cwS 2 hts (gwS k_334 k_332 k_333 k_331) rfl rfl rfl (by decide +kernel) ⟨Nat.le_of_ble_eq_true rfl, Nat.le_of_ble_eq_true rfl⟩) (gpreS0 hN) rfl rfl hl.1 rfl (lv_room (Nat.le_of_ble_eq_true rfl)) d_Z_greater_82 ⟨Nat.le_of_ble_eq_true rfl, Nat.le_of_ble_eq_true rfl⟩) (nm_e ?_)
      refine g_icmp_ge (tgt := 92) hx hb d_Z_greater_85 (by decide) hrun (fun _ hrun => ?_) (fun _ hrun => ?_)
      · refine lv_iconst (v := 0) hx hb d_Z_greater_92 (by decide) ?_
        refine lv_goto (tgt := 116) hx hb d_Z_greater_93 (by decide) ?_
        cases hrun
        exact W.zret hx hb hr rfl (fun t ht hW => ⟨_, rfl, rfl, ht⟩) (fun q h => absurd h List.not_mem_nil) d_Z_greater_116
      · refine lv_iconst (v := 1) hx hb d_Z_greater_88 (by decide) ?_
        refine lv_goto (tgt := 116) hx hb d_Z_greater_89 (by decide) ?_
        cases hrun
        exact W.zret hx hb hr rfl (fun t ht hW => ⟨_, rfl, rfl, ht⟩) (fun q h => absurd h List.not_mem_nil) d_Z_greater_116
set_option maxHeartbeats 4000000 in
set_option maxRecDepth 100000 in
theorem w_zgreater_30 (X : gX) (D : va_G) (cI cL cZ : ClassId) (a_Z a_Z_mono a_Z_degree a_Z_generator a_Z_hand a_Z_has a_Z_row a_Z_work a_Z_basis a_Z_rest a_Z_product a_Z_known a_Z_lead a_Z_tail a_Z_word a_Z_vector a_Z_system a_Z_now a_Z_next : Nat) (F : Nat) (Z_thrownCode Z_p Z_n Z_order Z_monomials Z_generators Z_upTo Z_members Z_lefts Z_vars Z_leadsFound Z_words r_ : Int32) (C0 : gC X c_Z_greaterb (some .boolean) 5 "RemnantDictionaryModel" gAll) (hK : va_K D classes (gT cI cL cZ) (gs X)) (hP : va_P D classes (ws_zgreater a_Z a_Z_mono a_Z_degree a_Z_generator a_Z_hand a_Z_has a_Z_row a_Z_work a_Z_basis a_Z_rest a_Z_product a_Z_known a_Z_lead a_Z_tail a_Z_word a_Z_vector a_Z_system a_Z_now a_Z_next cI cL cZ Z_thrownCode Z_p Z_n Z_order Z_monomials Z_generators Z_upTo Z_members Z_lefts Z_vars Z_leadsFound Z_words) (gs X).heap) (hN : gN (gs X)) (k30 : Int32 → Int32 → Int32 → Option (Int32)) (hk30 : ∀ (i1 i2 i3 : Int32), k30 i1 i2 i3 = some r_ → g_zgreater X r_ 30 [(0, .ref a_Z), (1, .int i1), (2, .int i2), (3, .int i3)] []) (i1 i2 i3 : Int32) (hrun : s_zgreater_30 F Z_order k30 i1 i2 i3 = some r_) : g_zgreater X r_ 30 [(0, .ref a_Z), (1, .int i1), (2, .int i2), (3, .int i3)] [] := by
  have C1 := C0
  obtain ⟨hx, hb, hr, hml, hown, hts, hlocks⟩ := C1
  unfold s_zgreater_30 at hrun
  intro ls hl
  refine lv_iload_n hx hb d_Z_greater_30 rfl (lv_at hl 3 rfl) ?_
  refine lv_iconst (v := 4) hx hb d_Z_greater_31 (by decide) ?_
  refine g_icmp_ge (tgt := 123) hx hb d_Z_greater_32 (by decide) hrun (fun _ hrun => ?_) (fun _ hrun => ?_)
  · refine lv_iconst (v := 0) hx hb d_Z_greater_123 (by decide) ?_
    cases hrun
    exact W.zret hx hb hr rfl (fun t ht hW => ⟨_, rfl, rfl, ht⟩) (fun q h => absurd h List.not_mem_nil) d_Z_greater_124
  · refine lv_aload_n hx hb d_Z_greater_35 rfl (lv_at hl 0 rfl) ?_
    refine va_get (D := D) (ci := 5) (v := .int Z_order) (C := "RemnantDictionaryModel") (T := T_Z) (N := 30) hx hb hts iw_Z hown hK hP 0 rfl rfl 3 (by decide) (hts _ k_368) (fun _ h9 => h9) rfl d_Z_greater_36 ?_
    refine g_if_ne (tgt := 48) hx hb d_Z_greater_39 (by decide) hrun (fun _ hrun => ?_) (fun _ hrun => ?_)
    · refine lv_iload_n hx hb d_Z_greater_48 rfl (lv_at hl 3 rfl) ?_
      exact w_zgreater_49 X D cI cL cZ a_Z a_Z_mono a_Z_degree a_Z_generator a_Z_hand a_Z_has a_Z_row a_Z_work a_Z_basis a_Z_rest a_Z_product a_Z_known a_Z_lead a_Z_tail a_Z_word a_Z_vector a_Z_system a_Z_now a_Z_next F Z_thrownCode Z_p Z_n Z_order Z_monomials Z_generators Z_upTo Z_members Z_lefts Z_vars Z_leadsFound Z_words r_ C0 hK hP hN k30 hk30 i1 i2 i3 i3 hrun ls (lv_sub hl [0, 1, 2, 3] rfl)
    · refine lv_iconst (v := 3) hx hb d_Z_greater_42 (by decide) ?_
      refine lv_iload_n hx hb d_Z_greater_43 rfl (lv_at hl 3 rfl) ?_
      refine lv_isub hx hb d_Z_greater_44 ?_
      refine lv_goto (tgt := 49) hx hb d_Z_greater_45 (by decide) ?_
      exact w_zgreater_49 X D cI cL cZ a_Z a_Z_mono a_Z_degree a_Z_generator a_Z_hand a_Z_has a_Z_row a_Z_work a_Z_basis a_Z_rest a_Z_product a_Z_known a_Z_lead a_Z_tail a_Z_word a_Z_vector a_Z_system a_Z_now a_Z_next F Z_thrownCode Z_p Z_n Z_order Z_monomials Z_generators Z_upTo Z_members Z_lefts Z_vars Z_leadsFound Z_words r_ C0 hK hP hN k30 hk30 i1 i2 i3 (3 - i3) hrun ls (lv_sub hl [0, 1, 2, 3] rfl)
theorem v_zgreater_30 (X : gX) (D : va_G) (cI cL cZ : ClassId) (a_Z a_Z_mono a_Z_degree a_Z_generator a_Z_hand a_Z_has a_Z_row a_Z_work a_Z_basis a_Z_rest a_Z_product a_Z_known a_Z_lead a_Z_tail a_Z_word a_Z_vector a_Z_system a_Z_now a_Z_next : Nat) (F : Nat) (Z_thrownCode Z_p Z_n Z_order Z_monomials Z_generators Z_upTo Z_members Z_lefts Z_vars Z_leadsFound Z_words r_ : Int32) (C0 : gC X c_Z_greaterb (some .boolean) 5 "RemnantDictionaryModel" gAll) (hK : va_K D classes (gT cI cL cZ) (gs X)) (hP : va_P D classes (ws_zgreater a_Z a_Z_mono a_Z_degree a_Z_generator a_Z_hand a_Z_has a_Z_row a_Z_work a_Z_basis a_Z_rest a_Z_product a_Z_known a_Z_lead a_Z_tail a_Z_word a_Z_vector a_Z_system a_Z_now a_Z_next cI cL cZ Z_thrownCode Z_p Z_n Z_order Z_monomials Z_generators Z_upTo Z_members Z_lefts Z_vars Z_leadsFound Z_words) (gs X).heap) (hN : gN (gs X))  : ∀ (n : Nat) (i1 i2 i3 : Int32), b_zgreater_30 F Z_order n i1 i2 i3 = some r_ → g_zgreater X r_ 30 [(0, .ref a_Z), (1, .int i1), (2, .int i2), (3, .int i3)] [] := by
  intro n
  induction n with
  | zero => intro i1 i2 i3 hrun; cases hrun
  | succ n ih =>
    intro i1 i2 i3 hrun
    exact w_zgreater_30 X D cI cL cZ a_Z a_Z_mono a_Z_degree a_Z_generator a_Z_hand a_Z_has a_Z_row a_Z_work a_Z_basis a_Z_rest a_Z_product a_Z_known a_Z_lead a_Z_tail a_Z_word a_Z_vector a_Z_system a_Z_now a_Z_next F Z_thrownCode Z_p Z_n Z_order Z_monomials Z_generators Z_upTo Z_members Z_lefts Z_vars Z_leadsFound Z_words r_ C0 hK hP hN (b_zgreater_30 F Z_order n) ih i1 i2 i3 hrun
set_option maxHeartbeats 4000000 in
set_option maxRecDepth 100000 in
theorem e_zgreater (X : gX) (D : va_G) (cI cL cZ : ClassId) (a_Z a_Z_mono a_Z_degree a_Z_generator a_Z_hand a_Z_has a_Z_row a_Z_work a_Z_basis a_Z_rest a_Z_product a_Z_known a_Z_lead a_Z_tail a_Z_word a_Z_vector a_Z_system a_Z_now a_Z_next : Nat) (F : Nat) (Z_thrownCode Z_p Z_n Z_order Z_monomials Z_generators Z_upTo Z_members Z_lefts Z_vars Z_leadsFound Z_words r_ : Int32) (C0 : gC X c_Z_greaterb (some .boolean) 5 "RemnantDictionaryModel" gAll) (hK : va_K D classes (gT cI cL cZ) (gs X)) (hP : va_P D classes (ws_zgreater a_Z a_Z_mono a_Z_degree a_Z_generator a_Z_hand a_Z_has a_Z_row a_Z_work a_Z_basis a_Z_rest a_Z_product a_Z_known a_Z_lead a_Z_tail a_Z_word a_Z_vector a_Z_system a_Z_now a_Z_next cI cL cZ Z_thrownCode Z_p Z_n Z_order Z_monomials Z_generators Z_upTo Z_members Z_lefts Z_vars Z_leadsFound Z_words) (gs X).heap) (hN : gN (gs X)) (i1 i2 : Int32) (hrun : m_zgreater F Z_order i1 i2 = some r_) : g_zgreater X r_ 0 [(0, .ref a_Z), (1, .int i1), (2, .int i2)] [] := by
  have C1 := C0
  obtain ⟨hx, hb, hr, hml, hown, hts, hlocks⟩ := C1
  unfold m_zgreater at hrun
  intro ls hl
  refine lv_iload_n hx hb d_Z_greater_0 rfl (lv_at hl 1 rfl) ?_
  obtain ⟨r_1, hc, hrun⟩ := bd1_s hrun
  refine vp_callSi (W.runS (As := [.int i1]) (rest := []) ⟨hx, hb, hml, hown, hts⟩ (c_zdegreeOf (gl X) F i1 r_1 hc) (va_cwS 1 hts (gwS k_371 k_370 k_333 k_335) rfl rfl rfl (by decide +kernel) ⟨Nat.le_of_ble_eq_true rfl, Nat.le_of_ble_eq_true rfl⟩) (gpreS0 hN) rfl rfl hl.1 rfl (lv_room (Nat.le_of_ble_eq_true rfl)) d_Z_greater_1 ⟨Nat.le_of_ble_eq_true rfl, Nat.le_of_ble_eq_true rfl⟩) (nm_e ?_)
  refine lv_iload_n hx hb d_Z_greater_4 rfl (lv_at hl 2 rfl) ?_
  obtain ⟨r_2, hc, hrun⟩ := bd1_s hrun
  refine vp_callSi (W.runS (As := [.int i2]) (rest := [.int r_1]) ⟨hx, hb, hml, hown, hts⟩ (c_zdegreeOf (gl X) F i2 r_2 hc) (va_cwS 1 hts (gwS k_371 k_370 k_333 k_335) rfl rfl rfl (by decide +kernel) ⟨Nat.le_of_ble_eq_true rfl, Nat.le_of_ble_eq_true rfl⟩) (gpreS0 hN) rfl rfl hl.1 rfl (lv_room (Nat.le_of_ble_eq_true rfl)) d_Z_greater_5 ⟨Nat.le_of_ble_eq_true rfl, Nat.le_of_ble_eq_true rfl⟩) (nm_e ?_)
  refine g_icmp_eq (tgt := 28) hx hb d_Z_greater_8 (by decide) hrun (fun _ hrun => ?_) (fun _ hrun => ?_)
  · refine lv_iconst (v := 0) hx hb d_Z_greater_28 (by decide) ?_
    refine lv_istore_n (lv' := [(3, .int 0), (0, .ref a_Z), (1, .int i1), (2, .int i2)]) hx hb d_Z_greater_29 rfl hl (by decide) rfl (fun ls hl => ?_)
    exact v_zgreater_30 X D cI cL cZ a_Z a_Z_mono a_Z_degree a_Z_generator a_Z_hand a_Z_has a_Z_row a_Z_work a_Z_basis a_Z_rest a_Z_product a_Z_known a_Z_lead a_Z_tail a_Z_word a_Z_vector a_Z_system a_Z_now a_Z_next F Z_thrownCode Z_p Z_n Z_order Z_monomials Z_generators Z_upTo Z_members Z_lefts Z_vars Z_leadsFound Z_words r_ C0 hK hP hN  F i1 i2 0 hrun ls (lv_sub hl [1, 2, 3, 0] rfl)
  · refine lv_iload_n hx hb d_Z_greater_11 rfl (lv_at hl 1 rfl) ?_
    obtain ⟨r_3, hc, hrun⟩ := bd1_s hrun
    refine vp_callSi (W.runS (As := [.int i1]) (rest := []) ⟨hx, hb, hml, hown, hts⟩ (c_zdegreeOf (gl X) F i1 r_3 hc) (va_cwS 1 hts (gwS k_371 k_370 k_333 k_335) rfl rfl rfl (by decide +kernel) ⟨Nat.le_of_ble_eq_true rfl, Nat.le_of_ble_eq_true rfl⟩) (gpreS0 hN) rfl rfl hl.1 rfl (lv_room (Nat.le_of_ble_eq_true rfl)) d_Z_greater_12 ⟨Nat.le_of_ble_eq_true rfl, Nat.le_of_ble_eq_true rfl⟩) (nm_e ?_)
    refine lv_iload_n hx hb d_Z_greater_15 rfl (lv_at hl 2 rfl) ?_
    obtain ⟨r_4, hc, hrun⟩ := bd1_s hrun
    refine vp_callSi (W.runS (As := [.int i2]) (rest := [.int r_3]) ⟨hx, hb, hml, hown, hts⟩ (c_zdegreeOf (gl X) F i2 r_4 hc) (va_cwS 1 hts (gwS k_371 k_370 k_333 k_335) rfl rfl rfl (by decide +kernel) ⟨Nat.le_of_ble_eq_true rfl, Nat.le_of_ble_eq_true rfl⟩) (gpreS0 hN) rfl rfl hl.1 rfl (lv_room (Nat.le_of_ble_eq_true rfl)) d_Z_greater_16 ⟨Nat.le_of_ble_eq_true rfl, Nat.le_of_ble_eq_true rfl⟩) (nm_e ?_)
    refine g_icmp_le (tgt := 26) hx hb d_Z_greater_19 (by decide) hrun (fun _ hrun => ?_) (fun _ hrun => ?_)
    · refine lv_iconst (v := 0) hx hb d_Z_greater_26 (by decide) ?_
      cases hrun
      exact W.zret hx hb hr rfl (fun t ht hW => ⟨_, rfl, rfl, ht⟩) (fun q h => absurd h List.not_mem_nil) d_Z_greater_27
    · refine lv_iconst (v := 1) hx hb d_Z_greater_22 (by decide) ?_
      refine lv_goto (tgt := 27) hx hb d_Z_greater_23 (by decide) ?_
      cases hrun
      exact W.zret hx hb hr rfl (fun t ht hW => ⟨_, rfl, rfl, ht⟩) (fun q h => absurd h List.not_mem_nil) d_Z_greater_27
set_option maxHeartbeats 4000000 in
set_option maxRecDepth 100000 in
theorem c_zgreater (l : Launch) (D : va_G) (cI cL cZ : ClassId) (a_Z a_Z_mono a_Z_degree a_Z_generator a_Z_hand a_Z_has a_Z_row a_Z_work a_Z_basis a_Z_rest a_Z_product a_Z_known a_Z_lead a_Z_tail a_Z_word a_Z_vector a_Z_system a_Z_now a_Z_next : Nat) (F : Nat) (Z_thrownCode Z_p Z_n Z_order Z_monomials Z_generators Z_upTo Z_members Z_lefts Z_vars Z_leadsFound Z_words i1 i2 : Int32) (r_ : Int32) (hrun : m_zgreater F Z_order i1 i2 = some r_) : Met l y_Z_greater (.code y_Z_greater c_Z_greaterb 5 (some .boolean) :: gAll) rm_zgreater (va_Pc [.ref a_Z, .int i1, .int i2] (gPR D (gT cI cL cZ) (ws_zgreater a_Z a_Z_mono a_Z_degree a_Z_generator a_Z_hand a_Z_has a_Z_row a_Z_work a_Z_basis a_Z_rest a_Z_product a_Z_known a_Z_lead a_Z_tail a_Z_word a_Z_vector a_Z_system a_Z_now a_Z_next cI cL cZ Z_thrownCode Z_p Z_n Z_order Z_monomials Z_generators Z_upTo Z_members Z_lefts Z_vars Z_leadsFound Z_words))) (vp_Si (fun r => r = r_)) 0 0 (fun _ => False) := by
  refine Met.ofW (cc := c_Z_greaterb) (maxL := 5) (ret := (some .boolean)) (by decide +kernel) rfl ?_
  intro p e s m args below meth c s₁ B hml hv
  obtain ⟨rfl, hP, hK, hN⟩ := hv
  have hl := lv_entry ([.ref a_Z, .int i1, .int i2]) (n := 5) (Nat.le_of_ble_eq_true rfl)
  rw [lg_entry_eq]
  generalize (lg_sl ([.ref a_Z, .int i1, .int i2]) ++ List.replicate (5 - (lg_sl ([.ref a_Z, .int i1, .int i2])).length) Slot.unset).toArray = ls at hl ⊢
  exact e_zgreater (p, l, e, s, m, ([.ref a_Z, .int i1, .int i2] : List Value).toArray, below, meth, c) D cI cL cZ a_Z a_Z_mono a_Z_degree a_Z_generator a_Z_hand a_Z_has a_Z_row a_Z_work a_Z_basis a_Z_rest a_Z_product a_Z_known a_Z_lead a_Z_tail a_Z_word a_Z_vector a_Z_system a_Z_now a_Z_next F Z_thrownCode Z_p Z_n Z_order Z_monomials Z_generators Z_upTo Z_members Z_lefts Z_vars Z_leadsFound Z_words r_ ⟨B.exec, B.bytes, B.returns, hml, findClass_of_methodNamed B.named, fun w h => atoms_spec (ws := (.code y_Z_greater c_Z_greaterb 5 (some .boolean) :: gAll)) B.pre w (List.mem_cons_of_mem _ h), B.notSynchronized⟩ hK hP hN i1 i2 hrun ls hl
theorem d_Z_put_0 : decode c_Z_putb 0 = .ok (.aload_n 0, 1) := by decide +kernel
theorem d_Z_put_1 : decode c_Z_putb 1 = .ok (.getfield 22, 3) := by decide +kernel
theorem d_Z_put_4 : decode c_Z_putb 4 = .ok (.istore_n 2, 1) := by decide +kernel
theorem d_Z_put_5 : decode c_Z_putb 5 = .ok (.iload_n 2, 1) := by decide +kernel
theorem d_Z_put_6 : decode c_Z_putb 6 = .ok (.ifCond .le 39, 3) := by decide +kernel
theorem d_Z_put_9 : decode c_Z_putb 9 = .ok (.aload_n 0, 1) := by decide +kernel
theorem d_Z_put_10 : decode c_Z_putb 10 = .ok (.aload_n 0, 1) := by decide +kernel
theorem d_Z_put_11 : decode c_Z_putb 11 = .ok (.getfield 25, 3) := by decide +kernel
theorem d_Z_put_14 : decode c_Z_putb 14 = .ok (.iload_n 2, 1) := by decide +kernel
theorem d_Z_put_15 : decode c_Z_putb 15 = .ok (.iconst 1, 1) := by decide +kernel
theorem d_Z_put_16 : decode c_Z_putb 16 = .ok (.isub, 1) := by decide +kernel
theorem d_Z_put_17 : decode c_Z_putb 17 = .ok (.iaload, 1) := by decide +kernel
theorem d_Z_put_18 : decode c_Z_putb 18 = .ok (.iload_n 1, 1) := by decide +kernel
theorem d_Z_put_19 : decode c_Z_putb 19 = .ok (.invokevirtual 121, 3) := by decide +kernel
theorem d_Z_put_22 : decode c_Z_putb 22 = .ok (.ifCond .eq 23, 3) := by decide +kernel
theorem d_Z_put_25 : decode c_Z_putb 25 = .ok (.aload_n 0, 1) := by decide +kernel
theorem d_Z_put_26 : decode c_Z_putb 26 = .ok (.getfield 25, 3) := by decide +kernel
theorem d_Z_put_29 : decode c_Z_putb 29 = .ok (.iload_n 2, 1) := by decide +kernel
theorem d_Z_put_30 : decode c_Z_putb 30 = .ok (.aload_n 0, 1) := by decide +kernel
theorem d_Z_put_31 : decode c_Z_putb 31 = .ok (.getfield 25, 3) := by decide +kernel
theorem d_Z_put_34 : decode c_Z_putb 34 = .ok (.iload_n 2, 1) := by decide +kernel
theorem d_Z_put_35 : decode c_Z_putb 35 = .ok (.iconst 1, 1) := by decide +kernel
theorem d_Z_put_36 : decode c_Z_putb 36 = .ok (.isub, 1) := by decide +kernel
theorem d_Z_put_37 : decode c_Z_putb 37 = .ok (.iaload, 1) := by decide +kernel
theorem d_Z_put_38 : decode c_Z_putb 38 = .ok (.iastore, 1) := by decide +kernel
theorem d_Z_put_39 : decode c_Z_putb 39 = .ok (.iinc 2 (-1), 3) := by decide +kernel
theorem d_Z_put_42 : decode c_Z_putb 42 = .ok (.goto (-37), 3) := by decide +kernel
theorem d_Z_put_45 : decode c_Z_putb 45 = .ok (.aload_n 0, 1) := by decide +kernel
theorem d_Z_put_46 : decode c_Z_putb 46 = .ok (.getfield 25, 3) := by decide +kernel
theorem d_Z_put_49 : decode c_Z_putb 49 = .ok (.iload_n 2, 1) := by decide +kernel
theorem d_Z_put_50 : decode c_Z_putb 50 = .ok (.iload_n 1, 1) := by decide +kernel
theorem d_Z_put_51 : decode c_Z_putb 51 = .ok (.iastore, 1) := by decide +kernel
theorem d_Z_put_52 : decode c_Z_putb 52 = .ok (.aload_n 0, 1) := by decide +kernel
theorem d_Z_put_53 : decode c_Z_putb 53 = .ok (.dup, 1) := by decide +kernel
theorem d_Z_put_54 : decode c_Z_putb 54 = .ok (.getfield 22, 3) := by decide +kernel
theorem d_Z_put_57 : decode c_Z_putb 57 = .ok (.iconst 1, 1) := by decide +kernel
theorem d_Z_put_58 : decode c_Z_putb 58 = .ok (.iadd, 1) := by decide +kernel
theorem d_Z_put_59 : decode c_Z_putb 59 = .ok (.putfield 22, 3) := by decide +kernel
theorem d_Z_put_62 : decode c_Z_putb 62 = .ok (.return_, 1) := by decide +kernel
abbrev ws_zput (a_Z a_Z_mono a_Z_degree a_Z_generator a_Z_hand a_Z_has a_Z_row a_Z_work a_Z_basis a_Z_rest a_Z_product a_Z_known a_Z_lead a_Z_tail a_Z_word a_Z_vector a_Z_system a_Z_now a_Z_next : Nat) (cI cL cZ : ClassId) (Z_thrownCode Z_p Z_n Z_order Z_monomials Z_generators Z_upTo Z_members Z_lefts Z_vars Z_leadsFound Z_words : Int32) (Z_mono : Nat → Int32) : va_W := [(a_Z, .inr (5, [.int Z_thrownCode, .int Z_p, .int Z_n, .int Z_order, .int Z_monomials, .ref a_Z_mono, .ref a_Z_degree, .int Z_generators, .ref a_Z_generator, .ref a_Z_hand, .int Z_upTo, .ref a_Z_has, .ref a_Z_row, .ref a_Z_work, .ref a_Z_basis, .int Z_members, .int Z_lefts, .int Z_vars, .ref a_Z_rest, .ref a_Z_product, .ref a_Z_known, .int Z_leadsFound, .ref a_Z_lead, .ref a_Z_tail, .int Z_words, .ref a_Z_word, .ref a_Z_vector, .ref a_Z_system, .ref a_Z_now, .ref a_Z_next])), (a_Z_mono, .inl (cI, 126, .inl Z_mono))]
abbrev rm_zput : Room := { frames := 3, cells := 0, slots := 0, locals := 65 }
abbrev g_zput (X : gX) (D : va_G) (cI cL cZ : ClassId) (a_Z a_Z_mono a_Z_degree a_Z_generator a_Z_hand a_Z_has a_Z_row a_Z_work a_Z_basis a_Z_rest a_Z_product a_Z_known a_Z_lead a_Z_tail a_Z_word a_Z_vector a_Z_system a_Z_now a_Z_next : Nat) (A : Nat → Prop) (Z_thrownCode Z_p Z_n Z_order Z_generators Z_upTo Z_members Z_lefts Z_vars Z_leadsFound Z_words Z_monomials_r : Int32) (Z_mono_r : Nat → Int32) (pc : Nat) (lv : List (Nat × Value)) (st : List Value) (Z_monomials : Int32) (Z_mono : Nat → Int32) : Prop := ∀ (H : Heap) (locs : List Loc) (ls : Array Slot), va_P D classes (ws_zput a_Z a_Z_mono a_Z_degree a_Z_generator a_Z_hand a_Z_has a_Z_row a_Z_work a_Z_basis a_Z_rest a_Z_product a_Z_known a_Z_lead a_Z_tail a_Z_word a_Z_vector a_Z_system a_Z_now a_Z_next cI cL cZ Z_thrownCode Z_p Z_n Z_order Z_monomials Z_generators Z_upTo Z_members Z_lefts Z_vars Z_leadsFound Z_words Z_mono) H → va_D A (ws_zput a_Z a_Z_mono a_Z_degree a_Z_generator a_Z_hand a_Z_has a_Z_row a_Z_work a_Z_basis a_Z_rest a_Z_product a_Z_known a_Z_lead a_Z_tail a_Z_word a_Z_vector a_Z_system a_Z_now a_Z_next cI cL cZ Z_thrownCode Z_p Z_n Z_order Z_monomials Z_generators Z_upTo Z_members Z_lefts Z_vars Z_leadsFound Z_words Z_mono) → va_S A (gs X).heap H locs → lv_has ls 3 lv → gWW X rm_zput H locs 0 0 (MQ (gbl X) (va_Qv (fun _ : Unit => True) (gB D (gT cI cL cZ) A (ws_zput a_Z a_Z_mono a_Z_degree a_Z_generator a_Z_hand a_Z_has a_Z_row a_Z_work a_Z_basis a_Z_rest a_Z_product a_Z_known a_Z_lead a_Z_tail a_Z_word a_Z_vector a_Z_system a_Z_now a_Z_next cI cL cZ Z_thrownCode Z_p Z_n Z_order Z_monomials_r Z_generators Z_upTo Z_members Z_lefts Z_vars Z_leadsFound Z_words Z_mono_r)) A) (ga X) (gs X) 0 0 A) (F0 (gm X) pc ls st)
set_option maxHeartbeats 4000000 in
set_option maxRecDepth 100000 in
theorem w_zput_45 (X : gX) (D : va_G) (cI cL cZ : ClassId) (a_Z a_Z_mono a_Z_degree a_Z_generator a_Z_hand a_Z_has a_Z_row a_Z_work a_Z_basis a_Z_rest a_Z_product a_Z_known a_Z_lead a_Z_tail a_Z_word a_Z_vector a_Z_system a_Z_now a_Z_next : Nat) (A : Nat → Prop) (Z_thrownCode Z_p Z_n Z_order Z_generators Z_upTo Z_members Z_lefts Z_vars Z_leadsFound Z_words Z_monomials_r : Int32) (Z_mono_r : Nat → Int32) (F : Nat) (C0 : gC X c_Z_putb none 3 "RemnantDictionaryModel" gAll) (hK : va_K D classes (gT cI cL cZ) (gs X)) (hA : ∀ q : Nat, (gs X).heap.size ≤ q → A q) (hN : gN (gs X))  (i1 i2 Z_monomials : Int32) (Z_mono : Nat → Int32) (hrun : s_zput_45 F Z_order i1 i2 Z_monomials Z_mono = some (Z_monomials_r, Z_mono_r)) : g_zput X D cI cL cZ a_Z a_Z_mono a_Z_degree a_Z_generator a_Z_hand a_Z_has a_Z_row a_Z_work a_Z_basis a_Z_rest a_Z_product a_Z_known a_Z_lead a_Z_tail a_Z_word a_Z_vector a_Z_system a_Z_now a_Z_next A Z_thrownCode Z_p Z_n Z_order Z_generators Z_upTo Z_members Z_lefts Z_vars Z_leadsFound Z_words Z_monomials_r Z_mono_r 45 [(0, .ref a_Z), (1, .int i1), (2, .int i2)] [] Z_monomials Z_mono := by
  have C1 := C0
  obtain ⟨hx, hb, hr, hml, hown, hts, hlocks⟩ := C1
  unfold s_zput_45 at hrun
  intro H locs ls hP hD hS hl
  refine lv_aload_n hx hb d_Z_put_45 rfl (lv_at hl 0 rfl) ?_
  refine va_get (D := D) (ci := 5) (v := .ref a_Z_mono) (C := "RemnantDictionaryModel") (T := T_Z) (N := 30) hx hb hts iw_Z hown hK hP 0 rfl rfl 5 (by decide) (hts _ k_372) (fun _ h9 => h9) rfl d_Z_put_46 ?_
  refine lv_iload_n hx hb d_Z_put_49 rfl (lv_at hl 2 rfl) ?_
  refine lv_iload_n hx hb d_Z_put_50 rfl (lv_at hl 1 rfl) ?_
  refine g_iast hx hb hK hP hD hS 1 0 rfl rfl hrun d_Z_put_51 (fun Z_mono_1 hrun H locs (hP : va_P D classes (ws_zput a_Z a_Z_mono a_Z_degree a_Z_generator a_Z_hand a_Z_has a_Z_row a_Z_work a_Z_basis a_Z_rest a_Z_product a_Z_known a_Z_lead a_Z_tail a_Z_word a_Z_vector a_Z_system a_Z_now a_Z_next cI cL cZ Z_thrownCode Z_p Z_n Z_order Z_monomials Z_generators Z_upTo Z_members Z_lefts Z_vars Z_leadsFound Z_words Z_mono_1) H) (hD : va_D A (ws_zput a_Z a_Z_mono a_Z_degree a_Z_generator a_Z_hand a_Z_has a_Z_row a_Z_work a_Z_basis a_Z_rest a_Z_product a_Z_known a_Z_lead a_Z_tail a_Z_word a_Z_vector a_Z_system a_Z_now a_Z_next cI cL cZ Z_thrownCode Z_p Z_n Z_order Z_monomials Z_generators Z_upTo Z_members Z_lefts Z_vars Z_leadsFound Z_words Z_mono_1)) hS => ?_)
  refine lv_aload_n hx hb d_Z_put_52 rfl (lv_at hl 0 rfl) ?_
  refine lv_dup hx hb d_Z_put_53 rfl ?_
  refine va_get (D := D) (ci := 5) (v := .int Z_monomials) (C := "RemnantDictionaryModel") (T := T_Z) (N := 30) hx hb hts iw_Z hown hK hP 0 rfl rfl 4 (by decide) (hts _ k_373) (fun _ h9 => h9) rfl d_Z_put_54 ?_
  refine lv_iconst (v := 1) hx hb d_Z_put_57 (by decide) ?_
  refine lv_iadd hx hb d_Z_put_58 ?_
  refine va_put (D := D) (ci := 5) (v := .int (Z_monomials + 1)) (ty := .int) (C := "RemnantDictionaryModel") (T := T_Z) (N := 30) hx hb hts iw_Z ty_Z ty_Z_ok nm_Z hown hK hP hD hS 0 rfl rfl 4 (by decide) (hts _ k_373) (fun _ h9 => h9) rfl (by decide +kernel) rfl rfl (Nat.le_of_ble_eq_true rfl) d_Z_put_59 (fun H locs (hP : va_P D classes (ws_zput a_Z a_Z_mono a_Z_degree a_Z_generator a_Z_hand a_Z_has a_Z_row a_Z_work a_Z_basis a_Z_rest a_Z_product a_Z_known a_Z_lead a_Z_tail a_Z_word a_Z_vector a_Z_system a_Z_now a_Z_next cI cL cZ Z_thrownCode Z_p Z_n Z_order (Z_monomials + 1) Z_generators Z_upTo Z_members Z_lefts Z_vars Z_leadsFound Z_words Z_mono_1) H) (hD : va_D A (ws_zput a_Z a_Z_mono a_Z_degree a_Z_generator a_Z_hand a_Z_has a_Z_row a_Z_work a_Z_basis a_Z_rest a_Z_product a_Z_known a_Z_lead a_Z_tail a_Z_word a_Z_vector a_Z_system a_Z_now a_Z_next cI cL cZ Z_thrownCode Z_p Z_n Z_order (Z_monomials + 1) Z_generators Z_upTo Z_members Z_lefts Z_vars Z_leadsFound Z_words Z_mono_1)) hS => ?_)
  cases hrun
  exact W.vret hx hb hr (fun t ht hW => ⟨⟨(), rfl, trivial, gB_of ht hW.alike hP hK hD⟩, hS.F ht⟩) hS.2.2 d_Z_put_62
set_option maxHeartbeats 4000000 in
set_option maxRecDepth 100000 in
theorem w_zput_5 (X : gX) (D : va_G) (cI cL cZ : ClassId) (a_Z a_Z_mono a_Z_degree a_Z_generator a_Z_hand a_Z_has a_Z_row a_Z_work a_Z_basis a_Z_rest a_Z_product a_Z_known a_Z_lead a_Z_tail a_Z_word a_Z_vector a_Z_system a_Z_now a_Z_next : Nat) (A : Nat → Prop) (Z_thrownCode Z_p Z_n Z_order Z_generators Z_upTo Z_members Z_lefts Z_vars Z_leadsFound Z_words Z_monomials_r : Int32) (Z_mono_r : Nat → Int32) (F : Nat) (C0 : gC X c_Z_putb none 3 "RemnantDictionaryModel" gAll) (hK : va_K D classes (gT cI cL cZ) (gs X)) (hA : ∀ q : Nat, (gs X).heap.size ≤ q → A q) (hN : gN (gs X)) (k5 : Int32 → Int32 → Int32 → (Nat → Int32) → Option (Int32 × (Nat → Int32))) (hk5 : ∀ (i1 i2 Z_monomials : Int32) (Z_mono : Nat → Int32), k5 i1 i2 Z_monomials Z_mono = some (Z_monomials_r, Z_mono_r) → g_zput X D cI cL cZ a_Z a_Z_mono a_Z_degree a_Z_generator a_Z_hand a_Z_has a_Z_row a_Z_work a_Z_basis a_Z_rest a_Z_product a_Z_known a_Z_lead a_Z_tail a_Z_word a_Z_vector a_Z_system a_Z_now a_Z_next A Z_thrownCode Z_p Z_n Z_order Z_generators Z_upTo Z_members Z_lefts Z_vars Z_leadsFound Z_words Z_monomials_r Z_mono_r 5 [(0, .ref a_Z), (1, .int i1), (2, .int i2)] [] Z_monomials Z_mono) (i1 i2 Z_monomials : Int32) (Z_mono : Nat → Int32) (hrun : s_zput_5 F Z_order k5 i1 i2 Z_monomials Z_mono = some (Z_monomials_r, Z_mono_r)) : g_zput X D cI cL cZ a_Z a_Z_mono a_Z_degree a_Z_generator a_Z_hand a_Z_has a_Z_row a_Z_work a_Z_basis a_Z_rest a_Z_product a_Z_known a_Z_lead a_Z_tail a_Z_word a_Z_vector a_Z_system a_Z_now a_Z_next A Z_thrownCode Z_p Z_n Z_order Z_generators Z_upTo Z_members Z_lefts Z_vars Z_leadsFound Z_words Z_monomials_r Z_mono_r 5 [(0, .ref a_Z), (1, .int i1), (2, .int i2)] [] Z_monomials Z_mono := by
  have C1 := C0
  obtain ⟨hx, hb, hr, hml, hown, hts, hlocks⟩ := C1
  unfold s_zput_5 at hrun
  intro H locs ls hP hD hS hl
  refine lv_iload_n hx hb d_Z_put_5 rfl (lv_at hl 2 rfl) ?_
  refine g_if_le (tgt := 45) hx hb d_Z_put_6 (by decide) hrun (fun _ hrun => ?_) (fun _ hrun => ?_)
  · exact w_zput_45 X D cI cL cZ a_Z a_Z_mono a_Z_degree a_Z_generator a_Z_hand a_Z_has a_Z_row a_Z_work a_Z_basis a_Z_rest a_Z_product a_Z_known a_Z_lead a_Z_tail a_Z_word a_Z_vector a_Z_system a_Z_now a_Z_next A Z_thrownCode Z_p Z_n Z_order Z_generators Z_upTo Z_members Z_lefts Z_vars Z_leadsFound Z_words Z_monomials_r Z_mono_r F C0 hK hA hN  i1 i2 Z_monomials Z_mono hrun H locs ls hP hD hS (lv_sub hl [0, 1, 2] rfl)
  · refine lv_aload_n hx hb d_Z_put_9 rfl (lv_at hl 0 rfl) ?_
    refine lv_aload_n hx hb d_Z_put_10 rfl (lv_at hl 0 rfl) ?_
    refine va_get (D := D) (ci := 5) (v := .ref a_Z_mono) (C := "RemnantDictionaryModel") (T := T_Z) (N := 30) hx hb hts iw_Z hown hK hP 0 rfl rfl 5 (by decide) (hts _ k_372) (fun _ h9 => h9) rfl d_Z_put_11 ?_
    refine lv_iload_n hx hb d_Z_put_14 rfl (lv_at hl 2 rfl) ?_
    refine lv_iconst (v := 1) hx hb d_Z_put_15 (by decide) ?_
    refine lv_isub hx hb d_Z_put_16 ?_
    refine g_iald hx hb hK hP 1 0 rfl rfl hrun d_Z_put_17 (fun x_1 hrun => ?_)
    refine lv_iload_n hx hb d_Z_put_18 rfl (lv_at hl 1 rfl) ?_
    obtain ⟨r_2, hc, hrun⟩ := bd1_s hrun
    refine vp_callSi (W.runV (As := [.int x_1, .int i1]) (rest := []) ⟨hx, hb, hml, hown, hts⟩ (c_zgreater (gl X) D cI cL cZ a_Z a_Z_mono a_Z_degree a_Z_generator a_Z_hand a_Z_has a_Z_row a_Z_work a_Z_basis a_Z_rest a_Z_product a_Z_known a_Z_lead a_Z_tail a_Z_word a_Z_vector a_Z_system a_Z_now a_Z_next F Z_thrownCode Z_p Z_n Z_order Z_monomials Z_generators Z_upTo Z_members Z_lefts Z_vars Z_leadsFound Z_words x_1 i1 r_2 hc) (cwV 2 hts (gwV k_377 k_375 k_376 k_333 k_369) rfl rfl rfl (by decide +kernel) ⟨Nat.le_of_ble_eq_true rfl, Nat.le_of_ble_eq_true rfl⟩) (gpreV (hP.sub (ws' := (ws_zgreater a_Z a_Z_mono a_Z_degree a_Z_generator a_Z_hand a_Z_has a_Z_row a_Z_work a_Z_basis a_Z_rest a_Z_product a_Z_known a_Z_lead a_Z_tail a_Z_word a_Z_vector a_Z_system a_Z_now a_Z_next cI cL cZ Z_thrownCode Z_p Z_n Z_order Z_monomials Z_generators Z_upTo Z_members Z_lefts Z_vars Z_leadsFound Z_words)) [0] rfl) hK hN 5 0 rfl rfl) rfl rfl hl.1 rfl (lv_room (Nat.le_of_ble_eq_true rfl)) d_Z_put_19 ⟨Nat.le_of_ble_eq_true rfl, Nat.le_of_ble_eq_true rfl⟩) (nm_e ?_)
    refine g_if_eq (tgt := 45) hx hb d_Z_put_22 (by decide) hrun (fun _ hrun => ?_) (fun _ hrun => ?_)
    · exact w_zput_45 X D cI cL cZ a_Z a_Z_mono a_Z_degree a_Z_generator a_Z_hand a_Z_has a_Z_row a_Z_work a_Z_basis a_Z_rest a_Z_product a_Z_known a_Z_lead a_Z_tail a_Z_word a_Z_vector a_Z_system a_Z_now a_Z_next A Z_thrownCode Z_p Z_n Z_order Z_generators Z_upTo Z_members Z_lefts Z_vars Z_leadsFound Z_words Z_monomials_r Z_mono_r F C0 hK hA hN  i1 i2 Z_monomials Z_mono hrun H locs ls hP hD hS (lv_sub hl [0, 1, 2] rfl)
    · refine lv_aload_n hx hb d_Z_put_25 rfl (lv_at hl 0 rfl) ?_
      refine va_get (D := D) (ci := 5) (v := .ref a_Z_mono) (C := "RemnantDictionaryModel") (T := T_Z) (N := 30) hx hb hts iw_Z hown hK hP 0 rfl rfl 5 (by decide) (hts _ k_372) (fun _ h9 => h9) rfl d_Z_put_26 ?_
      refine lv_iload_n hx hb d_Z_put_29 rfl (lv_at hl 2 rfl) ?_
      refine lv_aload_n hx hb d_Z_put_30 rfl (lv_at hl 0 rfl) ?_
      refine va_get (D := D) (ci := 5) (v := .ref a_Z_mono) (C := "RemnantDictionaryModel") (T := T_Z) (N := 30) hx hb hts iw_Z hown hK hP 0 rfl rfl 5 (by decide) (hts _ k_372) (fun _ h9 => h9) rfl d_Z_put_31 ?_
      refine lv_iload_n hx hb d_Z_put_34 rfl (lv_at hl 2 rfl) ?_
      refine lv_iconst (v := 1) hx hb d_Z_put_35 (by decide) ?_
      refine lv_isub hx hb d_Z_put_36 ?_
      refine g_iald hx hb hK hP 1 0 rfl rfl hrun d_Z_put_37 (fun x_3 hrun => ?_)
      refine g_iast hx hb hK hP hD hS 1 0 rfl rfl hrun d_Z_put_38 (fun Z_mono_4 hrun H locs (hP : va_P D classes (ws_zput a_Z a_Z_mono a_Z_degree a_Z_generator a_Z_hand a_Z_has a_Z_row a_Z_work a_Z_basis a_Z_rest a_Z_product a_Z_known a_Z_lead a_Z_tail a_Z_word a_Z_vector a_Z_system a_Z_now a_Z_next cI cL cZ Z_thrownCode Z_p Z_n Z_order Z_monomials Z_generators Z_upTo Z_members Z_lefts Z_vars Z_leadsFound Z_words Z_mono_4) H) (hD : va_D A (ws_zput a_Z a_Z_mono a_Z_degree a_Z_generator a_Z_hand a_Z_has a_Z_row a_Z_work a_Z_basis a_Z_rest a_Z_product a_Z_known a_Z_lead a_Z_tail a_Z_word a_Z_vector a_Z_system a_Z_now a_Z_next cI cL cZ Z_thrownCode Z_p Z_n Z_order Z_monomials Z_generators Z_upTo Z_members Z_lefts Z_vars Z_leadsFound Z_words Z_mono_4)) hS => ?_)
      refine lv_iinc (v := (i2 + (-1))) (lv' := [(2, .int (i2 + (-1))), (0, .ref a_Z), (1, .int i1)]) hx hb d_Z_put_39 hl (k := 2) rfl rfl (by decide) rfl (fun ls hl => ?_)
      refine lv_goto (tgt := 5) hx hb d_Z_put_42 (by decide) ?_
      exact hk5 i1 (i2 + (-1)) Z_monomials Z_mono_4 hrun H locs ls hP hD hS (lv_sub hl [1, 2, 0] rfl)
theorem v_zput_5 (X : gX) (D : va_G) (cI cL cZ : ClassId) (a_Z a_Z_mono a_Z_degree a_Z_generator a_Z_hand a_Z_has a_Z_row a_Z_work a_Z_basis a_Z_rest a_Z_product a_Z_known a_Z_lead a_Z_tail a_Z_word a_Z_vector a_Z_system a_Z_now a_Z_next : Nat) (A : Nat → Prop) (Z_thrownCode Z_p Z_n Z_order Z_generators Z_upTo Z_members Z_lefts Z_vars Z_leadsFound Z_words Z_monomials_r : Int32) (Z_mono_r : Nat → Int32) (F : Nat) (C0 : gC X c_Z_putb none 3 "RemnantDictionaryModel" gAll) (hK : va_K D classes (gT cI cL cZ) (gs X)) (hA : ∀ q : Nat, (gs X).heap.size ≤ q → A q) (hN : gN (gs X))  : ∀ (n : Nat) (i1 i2 Z_monomials : Int32) (Z_mono : Nat → Int32), b_zput_5 F Z_order n i1 i2 Z_monomials Z_mono = some (Z_monomials_r, Z_mono_r) → g_zput X D cI cL cZ a_Z a_Z_mono a_Z_degree a_Z_generator a_Z_hand a_Z_has a_Z_row a_Z_work a_Z_basis a_Z_rest a_Z_product a_Z_known a_Z_lead a_Z_tail a_Z_word a_Z_vector a_Z_system a_Z_now a_Z_next A Z_thrownCode Z_p Z_n Z_order Z_generators Z_upTo Z_members Z_lefts Z_vars Z_leadsFound Z_words Z_monomials_r Z_mono_r 5 [(0, .ref a_Z), (1, .int i1), (2, .int i2)] [] Z_monomials Z_mono := by
  intro n
  induction n with
  | zero => intro i1 i2 Z_monomials Z_mono hrun; cases hrun
  | succ n ih =>
    intro i1 i2 Z_monomials Z_mono hrun
    exact w_zput_5 X D cI cL cZ a_Z a_Z_mono a_Z_degree a_Z_generator a_Z_hand a_Z_has a_Z_row a_Z_work a_Z_basis a_Z_rest a_Z_product a_Z_known a_Z_lead a_Z_tail a_Z_word a_Z_vector a_Z_system a_Z_now a_Z_next A Z_thrownCode Z_p Z_n Z_order Z_generators Z_upTo Z_members Z_lefts Z_vars Z_leadsFound Z_words Z_monomials_r Z_mono_r F C0 hK hA hN (b_zput_5 F Z_order n) ih i1 i2 Z_monomials Z_mono hrun
set_option maxHeartbeats 4000000 in
set_option maxRecDepth 100000 in
theorem e_zput (X : gX) (D : va_G) (cI cL cZ : ClassId) (a_Z a_Z_mono a_Z_degree a_Z_generator a_Z_hand a_Z_has a_Z_row a_Z_work a_Z_basis a_Z_rest a_Z_product a_Z_known a_Z_lead a_Z_tail a_Z_word a_Z_vector a_Z_system a_Z_now a_Z_next : Nat) (A : Nat → Prop) (Z_thrownCode Z_p Z_n Z_order Z_generators Z_upTo Z_members Z_lefts Z_vars Z_leadsFound Z_words Z_monomials_r : Int32) (Z_mono_r : Nat → Int32) (F : Nat) (C0 : gC X c_Z_putb none 3 "RemnantDictionaryModel" gAll) (hK : va_K D classes (gT cI cL cZ) (gs X)) (hA : ∀ q : Nat, (gs X).heap.size ≤ q → A q) (hN : gN (gs X)) (i1 Z_monomials : Int32) (Z_mono : Nat → Int32) (hrun : m_zput F Z_order i1 Z_monomials Z_mono = some (Z_monomials_r, Z_mono_r)) : g_zput X D cI cL cZ a_Z a_Z_mono a_Z_degree a_Z_generator a_Z_hand a_Z_has a_Z_row a_Z_work a_Z_basis a_Z_rest a_Z_product a_Z_known a_Z_lead a_Z_tail a_Z_word a_Z_vector a_Z_system a_Z_now a_Z_next A Z_thrownCode Z_p Z_n Z_order Z_generators Z_upTo Z_members Z_lefts Z_vars Z_leadsFound Z_words Z_monomials_r Z_mono_r 0 [(0, .ref a_Z), (1, .int i1)] [] Z_monomials Z_mono := by
  have C1 := C0
  obtain ⟨hx, hb, hr, hml, hown, hts, hlocks⟩ := C1
  unfold m_zput at hrun
  intro H locs ls hP hD hS hl
  refine lv_aload_n hx hb d_Z_put_0 rfl (lv_at hl 0 rfl) ?_
  refine va_get (D := D) (ci := 5) (v := .int Z_monomials) (C := "RemnantDictionaryModel") (T := T_Z) (N := 30) hx hb hts iw_Z hown hK hP 0 rfl rfl 4 (by decide) (hts _ k_373) (fun _ h9 => h9) rfl d_Z_put_1 ?_
  refine lv_istore_n (lv' := [(2, .int Z_monomials), (0, .ref a_Z), (1, .int i1)]) hx hb d_Z_put_4 rfl hl (by decide) rfl (fun ls hl => ?_)
  exact v_zput_5 X D cI cL cZ a_Z a_Z_mono a_Z_degree a_Z_generator a_Z_hand a_Z_has a_Z_row a_Z_work a_Z_basis a_Z_rest a_Z_product a_Z_known a_Z_lead a_Z_tail a_Z_word a_Z_vector a_Z_system a_Z_now a_Z_next A Z_thrownCode Z_p Z_n Z_order Z_generators Z_upTo Z_members Z_lefts Z_vars Z_leadsFound Z_words Z_monomials_r Z_mono_r F C0 hK hA hN  F i1 Z_monomials Z_monomials Z_mono hrun H locs ls hP hD hS (lv_sub hl [1, 2, 0] rfl)
set_option maxHeartbeats 4000000 in
set_option maxRecDepth 100000 in
theorem c_zput (l : Launch) (D : va_G) (cI cL cZ : ClassId) (a_Z a_Z_mono a_Z_degree a_Z_generator a_Z_hand a_Z_has a_Z_row a_Z_work a_Z_basis a_Z_rest a_Z_product a_Z_known a_Z_lead a_Z_tail a_Z_word a_Z_vector a_Z_system a_Z_now a_Z_next : Nat) (F : Nat) (Z_thrownCode Z_p Z_n Z_order Z_monomials Z_generators Z_upTo Z_members Z_lefts Z_vars Z_leadsFound Z_words : Int32) (Z_mono : Nat → Int32) (i1 : Int32) (sz : Nat) (Z_monomials_r : Int32) (Z_mono_r : Nat → Int32) (hrun : m_zput F Z_order i1 Z_monomials Z_mono = some (Z_monomials_r, Z_mono_r)) : Met l y_Z_put (.code y_Z_put c_Z_putb 3 none :: gAll) rm_zput (va_Pc [.ref a_Z, .int i1] (gPW D (gT cI cL cZ) (ws_zput a_Z a_Z_mono a_Z_degree a_Z_generator a_Z_hand a_Z_has a_Z_row a_Z_work a_Z_basis a_Z_rest a_Z_product a_Z_known a_Z_lead a_Z_tail a_Z_word a_Z_vector a_Z_system a_Z_now a_Z_next cI cL cZ Z_thrownCode Z_p Z_n Z_order Z_monomials Z_generators Z_upTo Z_members Z_lefts Z_vars Z_leadsFound Z_words Z_mono) sz)) (va_Qv (fun _ : Unit => True) (gB D (gT cI cL cZ) (va_A (ws_zput a_Z a_Z_mono a_Z_degree a_Z_generator a_Z_hand a_Z_has a_Z_row a_Z_work a_Z_basis a_Z_rest a_Z_product a_Z_known a_Z_lead a_Z_tail a_Z_word a_Z_vector a_Z_system a_Z_now a_Z_next cI cL cZ Z_thrownCode Z_p Z_n Z_order Z_monomials Z_generators Z_upTo Z_members Z_lefts Z_vars Z_leadsFound Z_words Z_mono) sz) (ws_zput a_Z a_Z_mono a_Z_degree a_Z_generator a_Z_hand a_Z_has a_Z_row a_Z_work a_Z_basis a_Z_rest a_Z_product a_Z_known a_Z_lead a_Z_tail a_Z_word a_Z_vector a_Z_system a_Z_now a_Z_next cI cL cZ Z_thrownCode Z_p Z_n Z_order Z_monomials_r Z_generators Z_upTo Z_members Z_lefts Z_vars Z_leadsFound Z_words Z_mono_r)) (va_A (ws_zput a_Z a_Z_mono a_Z_degree a_Z_generator a_Z_hand a_Z_has a_Z_row a_Z_work a_Z_basis a_Z_rest a_Z_product a_Z_known a_Z_lead a_Z_tail a_Z_word a_Z_vector a_Z_system a_Z_now a_Z_next cI cL cZ Z_thrownCode Z_p Z_n Z_order Z_monomials Z_generators Z_upTo Z_members Z_lefts Z_vars Z_leadsFound Z_words Z_mono) sz)) 0 0 (va_A (ws_zput a_Z a_Z_mono a_Z_degree a_Z_generator a_Z_hand a_Z_has a_Z_row a_Z_work a_Z_basis a_Z_rest a_Z_product a_Z_known a_Z_lead a_Z_tail a_Z_word a_Z_vector a_Z_system a_Z_now a_Z_next cI cL cZ Z_thrownCode Z_p Z_n Z_order Z_monomials Z_generators Z_upTo Z_members Z_lefts Z_vars Z_leadsFound Z_words Z_mono) sz) := by
  refine Met.ofW (cc := c_Z_putb) (maxL := 3) (ret := none) (by decide +kernel) rfl ?_
  intro p e s m args below meth c s₁ B hml hv
  obtain ⟨rfl, hsz, hP, hK, hN, hD0⟩ := hv
  subst hsz
  have hD := hD0.self (sz := s.heap.size)
  have hl := lv_entry ([.ref a_Z, .int i1]) (n := 3) (Nat.le_of_ble_eq_true rfl)
  rw [lg_entry_eq]
  generalize (lg_sl ([.ref a_Z, .int i1]) ++ List.replicate (3 - (lg_sl ([.ref a_Z, .int i1])).length) Slot.unset).toArray = ls at hl ⊢
  exact e_zput (p, l, e, s, m, ([.ref a_Z, .int i1] : List Value).toArray, below, meth, c) D cI cL cZ a_Z a_Z_mono a_Z_degree a_Z_generator a_Z_hand a_Z_has a_Z_row a_Z_work a_Z_basis a_Z_rest a_Z_product a_Z_known a_Z_lead a_Z_tail a_Z_word a_Z_vector a_Z_system a_Z_now a_Z_next (va_A (ws_zput a_Z a_Z_mono a_Z_degree a_Z_generator a_Z_hand a_Z_has a_Z_row a_Z_work a_Z_basis a_Z_rest a_Z_product a_Z_known a_Z_lead a_Z_tail a_Z_word a_Z_vector a_Z_system a_Z_now a_Z_next cI cL cZ Z_thrownCode Z_p Z_n Z_order Z_monomials Z_generators Z_upTo Z_members Z_lefts Z_vars Z_leadsFound Z_words Z_mono) s.heap.size) Z_thrownCode Z_p Z_n Z_order Z_generators Z_upTo Z_members Z_lefts Z_vars Z_leadsFound Z_words Z_monomials_r Z_mono_r F ⟨B.exec, B.bytes, B.returns, hml, findClass_of_methodNamed B.named, fun w h => atoms_spec (ws := (.code y_Z_put c_Z_putb 3 none :: gAll)) B.pre w (List.mem_cons_of_mem _ h), B.notSynchronized⟩ hK (fun q h => Or.inr h) hN i1 Z_monomials Z_mono hrun s.heap [] ls hP hD va_S.rf hl
theorem d_Z_fresh_0 : decode c_Z_freshb 0 = .ok (.aload_n 0, 1) := by decide +kernel
theorem d_Z_fresh_1 : decode c_Z_freshb 1 = .ok (.iload_n 1, 1) := by decide +kernel
theorem d_Z_fresh_2 : decode c_Z_freshb 2 = .ok (.putfield 13, 3) := by decide +kernel
theorem d_Z_fresh_5 : decode c_Z_freshb 5 = .ok (.aload_n 0, 1) := by decide +kernel
theorem d_Z_fresh_6 : decode c_Z_freshb 6 = .ok (.iload_n 2, 1) := by decide +kernel
theorem d_Z_fresh_7 : decode c_Z_freshb 7 = .ok (.putfield 16, 3) := by decide +kernel
theorem d_Z_fresh_10 : decode c_Z_freshb 10 = .ok (.aload_n 0, 1) := by decide +kernel
theorem d_Z_fresh_11 : decode c_Z_freshb 11 = .ok (.iload_n 3, 1) := by decide +kernel
theorem d_Z_fresh_12 : decode c_Z_freshb 12 = .ok (.putfield 19, 3) := by decide +kernel
theorem d_Z_fresh_15 : decode c_Z_freshb 15 = .ok (.aload_n 0, 1) := by decide +kernel
theorem d_Z_fresh_16 : decode c_Z_freshb 16 = .ok (.iconst 0, 1) := by decide +kernel
theorem d_Z_fresh_17 : decode c_Z_freshb 17 = .ok (.putfield 32, 3) := by decide +kernel
theorem d_Z_fresh_20 : decode c_Z_freshb 20 = .ok (.aload_n 0, 1) := by decide +kernel
theorem d_Z_fresh_21 : decode c_Z_freshb 21 = .ok (.iconst 0, 1) := by decide +kernel
theorem d_Z_fresh_22 : decode c_Z_freshb 22 = .ok (.putfield 22, 3) := by decide +kernel
theorem d_Z_fresh_25 : decode c_Z_freshb 25 = .ok (.aload_n 0, 1) := by decide +kernel
theorem d_Z_fresh_26 : decode c_Z_freshb 26 = .ok (.getfield 16, 3) := by decide +kernel
theorem d_Z_fresh_29 : decode c_Z_freshb 29 = .ok (.invokestatic 114, 3) := by decide +kernel
theorem d_Z_fresh_32 : decode c_Z_freshb 32 = .ok (.istore 4, 2) := by decide +kernel
theorem d_Z_fresh_34 : decode c_Z_freshb 34 = .ok (.iconst 0, 1) := by decide +kernel
theorem d_Z_fresh_35 : decode c_Z_freshb 35 = .ok (.istore 5, 2) := by decide +kernel
theorem d_Z_fresh_37 : decode c_Z_freshb 37 = .ok (.iload 5, 2) := by decide +kernel
theorem d_Z_fresh_39 : decode c_Z_freshb 39 = .ok (.iload 4, 2) := by decide +kernel
theorem d_Z_fresh_41 : decode c_Z_freshb 41 = .ok (.if_icmp .gt 133, 3) := by decide +kernel
theorem d_Z_fresh_44 : decode c_Z_freshb 44 = .ok (.iconst 0, 1) := by decide +kernel
theorem d_Z_fresh_45 : decode c_Z_freshb 45 = .ok (.istore 6, 2) := by decide +kernel
theorem d_Z_fresh_47 : decode c_Z_freshb 47 = .ok (.iload 6, 2) := by decide +kernel
theorem d_Z_fresh_49 : decode c_Z_freshb 49 = .ok (.aload_n 0, 1) := by decide +kernel
theorem d_Z_fresh_50 : decode c_Z_freshb 50 = .ok (.getfield 16, 3) := by decide +kernel
theorem d_Z_fresh_53 : decode c_Z_freshb 53 = .ok (.iconst 1, 1) := by decide +kernel
theorem d_Z_fresh_54 : decode c_Z_freshb 54 = .ok (.if_icmp .le 8, 3) := by decide +kernel
theorem d_Z_fresh_57 : decode c_Z_freshb 57 = .ok (.iload 4, 2) := by decide +kernel
theorem d_Z_fresh_59 : decode c_Z_freshb 59 = .ok (.goto 4, 3) := by decide +kernel
theorem d_Z_fresh_62 : decode c_Z_freshb 62 = .ok (.iconst 0, 1) := by decide +kernel
theorem d_Z_fresh_63 : decode c_Z_freshb 63 = .ok (.if_icmp .gt 105, 3) := by decide +kernel
theorem d_Z_fresh_66 : decode c_Z_freshb 66 = .ok (.iconst 0, 1) := by decide +kernel
theorem d_Z_fresh_67 : decode c_Z_freshb 67 = .ok (.istore 7, 2) := by decide +kernel
theorem d_Z_fresh_69 : decode c_Z_freshb 69 = .ok (.iload 7, 2) := by decide +kernel
theorem d_Z_fresh_71 : decode c_Z_freshb 71 = .ok (.aload_n 0, 1) := by decide +kernel
theorem d_Z_fresh_72 : decode c_Z_freshb 72 = .ok (.getfield 16, 3) := by decide +kernel
theorem d_Z_fresh_75 : decode c_Z_freshb 75 = .ok (.iconst 2, 1) := by decide +kernel
theorem d_Z_fresh_76 : decode c_Z_freshb 76 = .ok (.if_icmp .le 8, 3) := by decide +kernel
theorem d_Z_fresh_79 : decode c_Z_freshb 79 = .ok (.iload 4, 2) := by decide +kernel
theorem d_Z_fresh_81 : decode c_Z_freshb 81 = .ok (.goto 4, 3) := by decide +kernel
theorem d_Z_fresh_84 : decode c_Z_freshb 84 = .ok (.iconst 0, 1) := by decide +kernel
theorem d_Z_fresh_85 : decode c_Z_freshb 85 = .ok (.if_icmp .gt 77, 3) := by decide +kernel
theorem d_Z_fresh_88 : decode c_Z_freshb 88 = .ok (.iconst 0, 1) := by decide +kernel
theorem d_Z_fresh_89 : decode c_Z_freshb 89 = .ok (.istore 8, 2) := by decide +kernel
theorem d_Z_fresh_91 : decode c_Z_freshb 91 = .ok (.iload 8, 2) := by decide +kernel
theorem d_Z_fresh_93 : decode c_Z_freshb 93 = .ok (.aload_n 0, 1) := by decide +kernel
theorem d_Z_fresh_94 : decode c_Z_freshb 94 = .ok (.getfield 16, 3) := by decide +kernel
theorem d_Z_fresh_97 : decode c_Z_freshb 97 = .ok (.iconst 3, 1) := by decide +kernel
theorem d_Z_fresh_98 : decode c_Z_freshb 98 = .ok (.if_icmp .le 8, 3) := by decide +kernel
theorem d_Z_fresh_101 : decode c_Z_freshb 101 = .ok (.iload 4, 2) := by decide +kernel
theorem d_Z_fresh_103 : decode c_Z_freshb 103 = .ok (.goto 4, 3) := by decide +kernel
theorem d_Z_fresh_106 : decode c_Z_freshb 106 = .ok (.iconst 0, 1) := by decide +kernel
theorem d_Z_fresh_107 : decode c_Z_freshb 107 = .ok (.if_icmp .gt 49, 3) := by decide +kernel
theorem d_Z_fresh_110 : decode c_Z_freshb 110 = .ok (.iload 5, 2) := by decide +kernel
theorem d_Z_fresh_112 : decode c_Z_freshb 112 = .ok (.iload 6, 2) := by decide +kernel
theorem d_Z_fresh_114 : decode c_Z_freshb 114 = .ok (.iadd, 1) := by decide +kernel
theorem d_Z_fresh_115 : decode c_Z_freshb 115 = .ok (.iload 7, 2) := by decide +kernel
theorem d_Z_fresh_117 : decode c_Z_freshb 117 = .ok (.iadd, 1) := by decide +kernel
theorem d_Z_fresh_118 : decode c_Z_freshb 118 = .ok (.iload 8, 2) := by decide +kernel
theorem d_Z_fresh_120 : decode c_Z_freshb 120 = .ok (.iadd, 1) := by decide +kernel
theorem d_Z_fresh_121 : decode c_Z_freshb 121 = .ok (.iload 4, 2) := by decide +kernel
theorem d_Z_fresh_123 : decode c_Z_freshb 123 = .ok (.if_icmp .gt 27, 3) := by decide +kernel
theorem d_Z_fresh_126 : decode c_Z_freshb 126 = .ok (.aload_n 0, 1) := by decide +kernel
theorem d_Z_fresh_127 : decode c_Z_freshb 127 = .ok (.iload 5, 2) := by decide +kernel
theorem d_Z_fresh_129 : decode c_Z_freshb 129 = .ok (.bipush 24, 2) := by decide +kernel
theorem d_Z_fresh_131 : decode c_Z_freshb 131 = .ok (.ishl, 1) := by decide +kernel
theorem d_Z_fresh_132 : decode c_Z_freshb 132 = .ok (.iload 6, 2) := by decide +kernel
theorem d_Z_fresh_134 : decode c_Z_freshb 134 = .ok (.bipush 16, 2) := by decide +kernel
theorem d_Z_fresh_136 : decode c_Z_freshb 136 = .ok (.ishl, 1) := by decide +kernel
theorem d_Z_fresh_137 : decode c_Z_freshb 137 = .ok (.ior, 1) := by decide +kernel
theorem d_Z_fresh_138 : decode c_Z_freshb 138 = .ok (.iload 7, 2) := by decide +kernel
theorem d_Z_fresh_140 : decode c_Z_freshb 140 = .ok (.bipush 8, 2) := by decide +kernel
theorem d_Z_fresh_142 : decode c_Z_freshb 142 = .ok (.ishl, 1) := by decide +kernel
theorem d_Z_fresh_143 : decode c_Z_freshb 143 = .ok (.ior, 1) := by decide +kernel
theorem d_Z_fresh_144 : decode c_Z_freshb 144 = .ok (.iload 8, 2) := by decide +kernel
theorem d_Z_fresh_146 : decode c_Z_freshb 146 = .ok (.ior, 1) := by decide +kernel
theorem d_Z_fresh_147 : decode c_Z_freshb 147 = .ok (.invokevirtual 117, 3) := by decide +kernel
theorem d_Z_fresh_150 : decode c_Z_freshb 150 = .ok (.iinc 8 1, 3) := by decide +kernel
theorem d_Z_fresh_153 : decode c_Z_freshb 153 = .ok (.goto (-62), 3) := by decide +kernel
theorem d_Z_fresh_156 : decode c_Z_freshb 156 = .ok (.iinc 7 1, 3) := by decide +kernel
theorem d_Z_fresh_159 : decode c_Z_freshb 159 = .ok (.goto (-90), 3) := by decide +kernel
theorem d_Z_fresh_162 : decode c_Z_freshb 162 = .ok (.iinc 6 1, 3) := by decide +kernel
theorem d_Z_fresh_165 : decode c_Z_freshb 165 = .ok (.goto (-118), 3) := by decide +kernel
theorem d_Z_fresh_168 : decode c_Z_freshb 168 = .ok (.iinc 5 1, 3) := by decide +kernel
theorem d_Z_fresh_171 : decode c_Z_freshb 171 = .ok (.goto (-134), 3) := by decide +kernel
theorem d_Z_fresh_174 : decode c_Z_freshb 174 = .ok (.iconst 0, 1) := by decide +kernel
theorem d_Z_fresh_175 : decode c_Z_freshb 175 = .ok (.istore 5, 2) := by decide +kernel
theorem d_Z_fresh_177 : decode c_Z_freshb 177 = .ok (.iload 5, 2) := by decide +kernel
theorem d_Z_fresh_179 : decode c_Z_freshb 179 = .ok (.aload_n 0, 1) := by decide +kernel
theorem d_Z_fresh_180 : decode c_Z_freshb 180 = .ok (.getfield 22, 3) := by decide +kernel
theorem d_Z_fresh_183 : decode c_Z_freshb 183 = .ok (.if_icmp .ge 34, 3) := by decide +kernel
theorem d_Z_fresh_186 : decode c_Z_freshb 186 = .ok (.aload_n 0, 1) := by decide +kernel
theorem d_Z_fresh_187 : decode c_Z_freshb 187 = .ok (.getfield 29, 3) := by decide +kernel
theorem d_Z_fresh_190 : decode c_Z_freshb 190 = .ok (.iload 5, 2) := by decide +kernel
theorem d_Z_fresh_192 : decode c_Z_freshb 192 = .ok (.aload_n 0, 1) := by decide +kernel
theorem d_Z_fresh_193 : decode c_Z_freshb 193 = .ok (.getfield 25, 3) := by decide +kernel
theorem d_Z_fresh_196 : decode c_Z_freshb 196 = .ok (.iload 5, 2) := by decide +kernel
theorem d_Z_fresh_198 : decode c_Z_freshb 198 = .ok (.iaload, 1) := by decide +kernel
theorem d_Z_fresh_199 : decode c_Z_freshb 199 = .ok (.invokestatic 110, 3) := by decide +kernel
theorem d_Z_fresh_202 : decode c_Z_freshb 202 = .ok (.iastore, 1) := by decide +kernel
theorem d_Z_fresh_203 : decode c_Z_freshb 203 = .ok (.aload_n 0, 1) := by decide +kernel
theorem d_Z_fresh_204 : decode c_Z_freshb 204 = .ok (.getfield 38, 3) := by decide +kernel
theorem d_Z_fresh_207 : decode c_Z_freshb 207 = .ok (.iload 5, 2) := by decide +kernel
theorem d_Z_fresh_209 : decode c_Z_freshb 209 = .ok (.iconst 0, 1) := by decide +kernel
theorem d_Z_fresh_210 : decode c_Z_freshb 210 = .ok (.iastore, 1) := by decide +kernel
theorem d_Z_fresh_211 : decode c_Z_freshb 211 = .ok (.iinc 5 1, 3) := by decide +kernel
theorem d_Z_fresh_214 : decode c_Z_freshb 214 = .ok (.goto (-37), 3) := by decide +kernel
theorem d_Z_fresh_217 : decode c_Z_freshb 217 = .ok (.return_, 1) := by decide +kernel
abbrev ws_zfresh (a_Z a_Z_mono a_Z_degree a_Z_hand a_Z_generator a_Z_has a_Z_row a_Z_work a_Z_basis a_Z_rest a_Z_product a_Z_known a_Z_lead a_Z_tail a_Z_word a_Z_vector a_Z_system a_Z_now a_Z_next : Nat) (cI cL cZ : ClassId) (Z_thrownCode Z_p Z_n Z_order Z_monomials Z_generators Z_upTo Z_members Z_lefts Z_vars Z_leadsFound Z_words : Int32) (Z_mono Z_degree Z_hand : Nat → Int32) : va_W := [(a_Z, .inr (5, [.int Z_thrownCode, .int Z_p, .int Z_n, .int Z_order, .int Z_monomials, .ref a_Z_mono, .ref a_Z_degree, .int Z_generators, .ref a_Z_generator, .ref a_Z_hand, .int Z_upTo, .ref a_Z_has, .ref a_Z_row, .ref a_Z_work, .ref a_Z_basis, .int Z_members, .int Z_lefts, .int Z_vars, .ref a_Z_rest, .ref a_Z_product, .ref a_Z_known, .int Z_leadsFound, .ref a_Z_lead, .ref a_Z_tail, .int Z_words, .ref a_Z_word, .ref a_Z_vector, .ref a_Z_system, .ref a_Z_now, .ref a_Z_next])), (a_Z_mono, .inl (cI, 126, .inl Z_mono)), (a_Z_degree, .inl (cI, 126, .inl Z_degree)), (a_Z_hand, .inl (cI, 126, .inl Z_hand))]
abbrev rm_zfresh : Room := { frames := 4, cells := 0, slots := 0, locals := 87 }
abbrev g_zfresh (X : gX) (D : va_G) (cI cL cZ : ClassId) (a_Z a_Z_mono a_Z_degree a_Z_hand a_Z_generator a_Z_has a_Z_row a_Z_work a_Z_basis a_Z_rest a_Z_product a_Z_known a_Z_lead a_Z_tail a_Z_word a_Z_vector a_Z_system a_Z_now a_Z_next : Nat) (A : Nat → Prop) (Z_thrownCode Z_upTo Z_members Z_lefts Z_vars Z_leadsFound Z_words Z_generators_r Z_monomials_r Z_n_r Z_order_r Z_p_r : Int32) (Z_mono_r Z_degree_r Z_hand_r : Nat → Int32) (pc : Nat) (lv : List (Nat × Value)) (st : List Value) (Z_generators Z_monomials Z_n Z_order Z_p : Int32) (Z_mono Z_degree Z_hand : Nat → Int32) : Prop := ∀ (H : Heap) (locs : List Loc) (ls : Array Slot), va_P D classes (ws_zfresh a_Z a_Z_mono a_Z_degree a_Z_hand a_Z_generator a_Z_has a_Z_row a_Z_work a_Z_basis a_Z_rest a_Z_product a_Z_known a_Z_lead a_Z_tail a_Z_word a_Z_vector a_Z_system a_Z_now a_Z_next cI cL cZ Z_thrownCode Z_p Z_n Z_order Z_monomials Z_generators Z_upTo Z_members Z_lefts Z_vars Z_leadsFound Z_words Z_mono Z_degree Z_hand) H → va_D A (ws_zfresh a_Z a_Z_mono a_Z_degree a_Z_hand a_Z_generator a_Z_has a_Z_row a_Z_work a_Z_basis a_Z_rest a_Z_product a_Z_known a_Z_lead a_Z_tail a_Z_word a_Z_vector a_Z_system a_Z_now a_Z_next cI cL cZ Z_thrownCode Z_p Z_n Z_order Z_monomials Z_generators Z_upTo Z_members Z_lefts Z_vars Z_leadsFound Z_words Z_mono Z_degree Z_hand) → va_S A (gs X).heap H locs → lv_has ls 9 lv → gWW X rm_zfresh H locs 0 0 (MQ (gbl X) (va_Qv (fun _ : Unit => True) (gB D (gT cI cL cZ) A (ws_zfresh a_Z a_Z_mono a_Z_degree a_Z_hand a_Z_generator a_Z_has a_Z_row a_Z_work a_Z_basis a_Z_rest a_Z_product a_Z_known a_Z_lead a_Z_tail a_Z_word a_Z_vector a_Z_system a_Z_now a_Z_next cI cL cZ Z_thrownCode Z_p_r Z_n_r Z_order_r Z_monomials_r Z_generators_r Z_upTo Z_members Z_lefts Z_vars Z_leadsFound Z_words Z_mono_r Z_degree_r Z_hand_r)) A) (ga X) (gs X) 0 0 A) (F0 (gm X) pc ls st)
set_option maxHeartbeats 4000000 in
set_option maxRecDepth 100000 in
theorem w_zfresh_177 (X : gX) (D : va_G) (cI cL cZ : ClassId) (a_Z a_Z_mono a_Z_degree a_Z_hand a_Z_generator a_Z_has a_Z_row a_Z_work a_Z_basis a_Z_rest a_Z_product a_Z_known a_Z_lead a_Z_tail a_Z_word a_Z_vector a_Z_system a_Z_now a_Z_next : Nat) (A : Nat → Prop) (Z_thrownCode Z_upTo Z_members Z_lefts Z_vars Z_leadsFound Z_words Z_generators_r Z_monomials_r Z_n_r Z_order_r Z_p_r : Int32) (Z_mono_r Z_degree_r Z_hand_r : Nat → Int32) (F : Nat) (C0 : gC X c_Z_freshb none 9 "RemnantDictionaryModel" gAll) (hK : va_K D classes (gT cI cL cZ) (gs X)) (hA : ∀ q : Nat, (gs X).heap.size ≤ q → A q) (hN : gN (gs X)) (k177 : Int32 → Int32 → Int32 → Int32 → Int32 → Int32 → (Nat → Int32) → (Nat → Int32) → (Nat → Int32) → Option (Int32 × Int32 × Int32 × Int32 × Int32 × (Nat → Int32) × (Nat → Int32) × (Nat → Int32))) (hk177 : ∀ (i5 Z_generators Z_monomials Z_n Z_order Z_p : Int32) (Z_mono Z_degree Z_hand : Nat → Int32), k177 i5 Z_generators Z_monomials Z_n Z_order Z_p Z_mono Z_degree Z_hand = some (Z_generators_r, Z_monomials_r, Z_n_r, Z_order_r, Z_p_r, Z_mono_r, Z_degree_r, Z_hand_r) → g_zfresh X D cI cL cZ a_Z a_Z_mono a_Z_degree a_Z_hand a_Z_generator a_Z_has a_Z_row a_Z_work a_Z_basis a_Z_rest a_Z_product a_Z_known a_Z_lead a_Z_tail a_Z_word a_Z_vector a_Z_system a_Z_now a_Z_next A Z_thrownCode Z_upTo Z_members Z_lefts Z_vars Z_leadsFound Z_words Z_generators_r Z_monomials_r Z_n_r Z_order_r Z_p_r Z_mono_r Z_degree_r Z_hand_r 177 [(0, .ref a_Z), (5, .int i5)] [] Z_generators Z_monomials Z_n Z_order Z_p Z_mono Z_degree Z_hand) (i5 Z_generators Z_monomials Z_n Z_order Z_p : Int32) (Z_mono Z_degree Z_hand : Nat → Int32) (hrun : s_zfresh_177 F k177 i5 Z_generators Z_monomials Z_n Z_order Z_p Z_mono Z_degree Z_hand = some (Z_generators_r, Z_monomials_r, Z_n_r, Z_order_r, Z_p_r, Z_mono_r, Z_degree_r, Z_hand_r)) : g_zfresh X D cI cL cZ a_Z a_Z_mono a_Z_degree a_Z_hand a_Z_generator a_Z_has a_Z_row a_Z_work a_Z_basis a_Z_rest a_Z_product a_Z_known a_Z_lead a_Z_tail a_Z_word a_Z_vector a_Z_system a_Z_now a_Z_next A Z_thrownCode Z_upTo Z_members Z_lefts Z_vars Z_leadsFound Z_words Z_generators_r Z_monomials_r Z_n_r Z_order_r Z_p_r Z_mono_r Z_degree_r Z_hand_r 177 [(0, .ref a_Z), (5, .int i5)] [] Z_generators Z_monomials Z_n Z_order Z_p Z_mono Z_degree Z_hand := by
  have C1 := C0
  obtain ⟨hx, hb, hr, hml, hown, hts, hlocks⟩ := C1
  unfold s_zfresh_177 at hrun
  intro H locs ls hP hD hS hl
  refine lv_iload hx hb d_Z_fresh_177 (lv_at hl 1 rfl) ?_
  refine lv_aload_n hx hb d_Z_fresh_179 rfl (lv_at hl 0 rfl) ?_
  refine va_get (D := D) (ci := 5) (v := .int Z_monomials) (C := "RemnantDictionaryModel") (T := T_Z) (N := 30) hx hb hts iw_Z hown hK hP 0 rfl rfl 4 (by decide) (hts _ k_373) (fun _ h9 => h9) rfl d_Z_fresh_180 ?_
  refine g_icmp_ge (tgt := 217) hx hb d_Z_fresh_183 (by decide) hrun (fun _ hrun => ?_) (fun _ hrun => ?_)
  · cases hrun
    exact W.vret hx hb hr (fun t ht hW => ⟨⟨(), rfl, trivial, gB_of ht hW.alike hP hK hD⟩, hS.F ht⟩) hS.2.2 d_Z_fresh_217
  · refine lv_aload_n hx hb d_Z_fresh_186 rfl (lv_at hl 0 rfl) ?_
    refine va_get (D := D) (ci := 5) (v := .ref a_Z_degree) (C := "RemnantDictionaryModel") (T := T_Z) (N := 30) hx hb hts iw_Z hown hK hP 0 rfl rfl 6 (by decide) (hts _ k_378) (fun _ h9 => h9) rfl d_Z_fresh_187 ?_
    refine lv_iload hx hb d_Z_fresh_190 (lv_at hl 1 rfl) ?_
    refine lv_aload_n hx hb d_Z_fresh_192 rfl (lv_at hl 0 rfl) ?_
    refine va_get (D := D) (ci := 5) (v := .ref a_Z_mono) (C := "RemnantDictionaryModel") (T := T_Z) (N := 30) hx hb hts iw_Z hown hK hP 0 rfl rfl 5 (by decide) (hts _ k_372) (fun _ h9 => h9) rfl d_Z_fresh_193 ?_
    refine lv_iload hx hb d_Z_fresh_196 (lv_at hl 1 rfl) ?_
    refine g_iald hx hb hK hP 1 0 rfl rfl hrun d_Z_fresh_198 (fun x_1 hrun => ?_)
    obtain ⟨r_2, hc, hrun⟩ := bd1_s hrun
    refine vp_callSi (W.runS (As := [.int x_1]) (rest := [.int i5, .ref a_Z_degree]) ⟨hx, hb, hml, hown, hts⟩ (c_zdegreeOf (gl X) F x_1 r_2 hc) (va_cwS 1 hts (gwS k_371 k_370 k_333 k_335) rfl rfl rfl (by decide +kernel) ⟨Nat.le_of_ble_eq_true rfl, Nat.le_of_ble_eq_true rfl⟩) (gpreS0 hN) rfl rfl hl.1 rfl (lv_room (Nat.le_of_ble_eq_true rfl)) d_Z_fresh_199 ⟨Nat.le_of_ble_eq_true rfl, Nat.le_of_ble_eq_true rfl⟩) (nm_e ?_)
    refine g_iast hx hb hK hP hD hS 2 0 rfl rfl hrun d_Z_fresh_202 (fun Z_degree_3 hrun H locs (hP : va_P D classes (ws_zfresh a_Z a_Z_mono a_Z_degree a_Z_hand a_Z_generator a_Z_has a_Z_row a_Z_work a_Z_basis a_Z_rest a_Z_product a_Z_known a_Z_lead a_Z_tail a_Z_word a_Z_vector a_Z_system a_Z_now a_Z_next cI cL cZ Z_thrownCode Z_p Z_n Z_order Z_monomials Z_generators Z_upTo Z_members Z_lefts Z_vars Z_leadsFound Z_words Z_mono Z_degree_3 Z_hand) H) (hD : va_D A (ws_zfresh a_Z a_Z_mono a_Z_degree a_Z_hand a_Z_generator a_Z_has a_Z_row a_Z_work a_Z_basis a_Z_rest a_Z_product a_Z_known a_Z_lead a_Z_tail a_Z_word a_Z_vector a_Z_system a_Z_now a_Z_next cI cL cZ Z_thrownCode Z_p Z_n Z_order Z_monomials Z_generators Z_upTo Z_members Z_lefts Z_vars Z_leadsFound Z_words Z_mono Z_degree_3 Z_hand)) hS => ?_)
    refine lv_aload_n hx hb d_Z_fresh_203 rfl (lv_at hl 0 rfl) ?_
    refine va_get (D := D) (ci := 5) (v := .ref a_Z_hand) (C := "RemnantDictionaryModel") (T := T_Z) (N := 30) hx hb hts iw_Z hown hK hP 0 rfl rfl 9 (by decide) (hts _ k_379) (fun _ h9 => h9) rfl d_Z_fresh_204 ?_
    refine lv_iload hx hb d_Z_fresh_207 (lv_at hl 1 rfl) ?_
    refine lv_iconst (v := 0) hx hb d_Z_fresh_209 (by decide) ?_
    refine g_iast hx hb hK hP hD hS 3 0 rfl rfl hrun d_Z_fresh_210 (fun Z_hand_4 hrun H locs (hP : va_P D classes (ws_zfresh a_Z a_Z_mono a_Z_degree a_Z_hand a_Z_generator a_Z_has a_Z_row a_Z_work a_Z_basis a_Z_rest a_Z_product a_Z_known a_Z_lead a_Z_tail a_Z_word a_Z_vector a_Z_system a_Z_now a_Z_next cI cL cZ Z_thrownCode Z_p Z_n Z_order Z_monomials Z_generators Z_upTo Z_members Z_lefts Z_vars Z_leadsFound Z_words Z_mono Z_degree_3 Z_hand_4) H) (hD : va_D A (ws_zfresh a_Z a_Z_mono a_Z_degree a_Z_hand a_Z_generator a_Z_has a_Z_row a_Z_work a_Z_basis a_Z_rest a_Z_product a_Z_known a_Z_lead a_Z_tail a_Z_word a_Z_vector a_Z_system a_Z_now a_Z_next cI cL cZ Z_thrownCode Z_p Z_n Z_order Z_monomials Z_generators Z_upTo Z_members Z_lefts Z_vars Z_leadsFound Z_words Z_mono Z_degree_3 Z_hand_4)) hS => ?_)
    refine lv_iinc (v := (i5 + 1)) (lv' := [(5, .int (i5 + 1)), (0, .ref a_Z)]) hx hb d_Z_fresh_211 hl (k := 1) rfl rfl (by decide) rfl (fun ls hl => ?_)
    refine lv_goto (tgt := 177) hx hb d_Z_fresh_214 (by decide) ?_
    exact hk177 (i5 + 1) Z_generators Z_monomials Z_n Z_order Z_p Z_mono Z_degree_3 Z_hand_4 hrun H locs ls hP hD hS (lv_sub hl [1, 0] rfl)
theorem v_zfresh_177 (X : gX) (D : va_G) (cI cL cZ : ClassId) (a_Z a_Z_mono a_Z_degree a_Z_hand a_Z_generator a_Z_has a_Z_row a_Z_work a_Z_basis a_Z_rest a_Z_product a_Z_known a_Z_lead a_Z_tail a_Z_word a_Z_vector a_Z_system a_Z_now a_Z_next : Nat) (A : Nat → Prop) (Z_thrownCode Z_upTo Z_members Z_lefts Z_vars Z_leadsFound Z_words Z_generators_r Z_monomials_r Z_n_r Z_order_r Z_p_r : Int32) (Z_mono_r Z_degree_r Z_hand_r : Nat → Int32) (F : Nat) (C0 : gC X c_Z_freshb none 9 "RemnantDictionaryModel" gAll) (hK : va_K D classes (gT cI cL cZ) (gs X)) (hA : ∀ q : Nat, (gs X).heap.size ≤ q → A q) (hN : gN (gs X))  : ∀ (n : Nat) (i5 Z_generators Z_monomials Z_n Z_order Z_p : Int32) (Z_mono Z_degree Z_hand : Nat → Int32), b_zfresh_177 F n i5 Z_generators Z_monomials Z_n Z_order Z_p Z_mono Z_degree Z_hand = some (Z_generators_r, Z_monomials_r, Z_n_r, Z_order_r, Z_p_r, Z_mono_r, Z_degree_r, Z_hand_r) → g_zfresh X D cI cL cZ a_Z a_Z_mono a_Z_degree a_Z_hand a_Z_generator a_Z_has a_Z_row a_Z_work a_Z_basis a_Z_rest a_Z_product a_Z_known a_Z_lead a_Z_tail a_Z_word a_Z_vector a_Z_system a_Z_now a_Z_next A Z_thrownCode Z_upTo Z_members Z_lefts Z_vars Z_leadsFound Z_words Z_generators_r Z_monomials_r Z_n_r Z_order_r Z_p_r Z_mono_r Z_degree_r Z_hand_r 177 [(0, .ref a_Z), (5, .int i5)] [] Z_generators Z_monomials Z_n Z_order Z_p Z_mono Z_degree Z_hand := by
  intro n
  induction n with
  | zero => intro i5 Z_generators Z_monomials Z_n Z_order Z_p Z_mono Z_degree Z_hand hrun; cases hrun
  | succ n ih =>
    intro i5 Z_generators Z_monomials Z_n Z_order Z_p Z_mono Z_degree Z_hand hrun
    exact w_zfresh_177 X D cI cL cZ a_Z a_Z_mono a_Z_degree a_Z_hand a_Z_generator a_Z_has a_Z_row a_Z_work a_Z_basis a_Z_rest a_Z_product a_Z_known a_Z_lead a_Z_tail a_Z_word a_Z_vector a_Z_system a_Z_now a_Z_next A Z_thrownCode Z_upTo Z_members Z_lefts Z_vars Z_leadsFound Z_words Z_generators_r Z_monomials_r Z_n_r Z_order_r Z_p_r Z_mono_r Z_degree_r Z_hand_r F C0 hK hA hN (b_zfresh_177 F n) ih i5 Z_generators Z_monomials Z_n Z_order Z_p Z_mono Z_degree Z_hand hrun
set_option maxHeartbeats 4000000 in
set_option maxRecDepth 100000 in
theorem w_zfresh_107 (X : gX) (D : va_G) (cI cL cZ : ClassId) (a_Z a_Z_mono a_Z_degree a_Z_hand a_Z_generator a_Z_has a_Z_row a_Z_work a_Z_basis a_Z_rest a_Z_product a_Z_known a_Z_lead a_Z_tail a_Z_word a_Z_vector a_Z_system a_Z_now a_Z_next : Nat) (A : Nat → Prop) (Z_thrownCode Z_upTo Z_members Z_lefts Z_vars Z_leadsFound Z_words Z_generators_r Z_monomials_r Z_n_r Z_order_r Z_p_r : Int32) (Z_mono_r Z_degree_r Z_hand_r : Nat → Int32) (F : Nat) (C0 : gC X c_Z_freshb none 9 "RemnantDictionaryModel" gAll) (hK : va_K D classes (gT cI cL cZ) (gs X)) (hA : ∀ q : Nat, (gs X).heap.size ≤ q → A q) (hN : gN (gs X)) (k37 : Int32 → Int32 → Int32 → Int32 → Int32 → Int32 → Int32 → (Nat → Int32) → (Nat → Int32) → (Nat → Int32) → Option (Int32 × Int32 × Int32 × Int32 × Int32 × (Nat → Int32) × (Nat → Int32) × (Nat → Int32))) (hk37 : ∀ (i4 i5 Z_generators Z_monomials Z_n Z_order Z_p : Int32) (Z_mono Z_degree Z_hand : Nat → Int32), k37 i4 i5 Z_generators Z_monomials Z_n Z_order Z_p Z_mono Z_degree Z_hand = some (Z_generators_r, Z_monomials_r, Z_n_r, Z_order_r, Z_p_r, Z_mono_r, Z_degree_r, Z_hand_r) → g_zfresh X D cI cL cZ a_Z a_Z_mono a_Z_degree a_Z_hand a_Z_generator a_Z_has a_Z_row a_Z_work a_Z_basis a_Z_rest a_Z_product a_Z_known a_Z_lead a_Z_tail a_Z_word a_Z_vector a_Z_system a_Z_now a_Z_next A Z_thrownCode Z_upTo Z_members Z_lefts Z_vars Z_leadsFound Z_words Z_generators_r Z_monomials_r Z_n_r Z_order_r Z_p_r Z_mono_r Z_degree_r Z_hand_r 37 [(0, .ref a_Z), (4, .int i4), (5, .int i5)] [] Z_generators Z_monomials Z_n Z_order Z_p Z_mono Z_degree Z_hand) (k47 : Int32 → Int32 → Int32 → Int32 → Int32 → Int32 → Int32 → Int32 → (Nat → Int32) → (Nat → Int32) → (Nat → Int32) → Option (Int32 × Int32 × Int32 × Int32 × Int32 × (Nat → Int32) × (Nat → Int32) × (Nat → Int32))) (hk47 : ∀ (i4 i5 i6 Z_generators Z_monomials Z_n Z_order Z_p : Int32) (Z_mono Z_degree Z_hand : Nat → Int32), k47 i4 i5 i6 Z_generators Z_monomials Z_n Z_order Z_p Z_mono Z_degree Z_hand = some (Z_generators_r, Z_monomials_r, Z_n_r, Z_order_r, Z_p_r, Z_mono_r, Z_degree_r, Z_hand_r) → g_zfresh X D cI cL cZ a_Z a_Z_mono a_Z_degree a_Z_hand a_Z_generator a_Z_has a_Z_row a_Z_work a_Z_basis a_Z_rest a_Z_product a_Z_known a_Z_lead a_Z_tail a_Z_word a_Z_vector a_Z_system a_Z_now a_Z_next A Z_thrownCode Z_upTo Z_members Z_lefts Z_vars Z_leadsFound Z_words Z_generators_r Z_monomials_r Z_n_r Z_order_r Z_p_r Z_mono_r Z_degree_r Z_hand_r 47 [(0, .ref a_Z), (4, .int i4), (5, .int i5), (6, .int i6)] [] Z_generators Z_monomials Z_n Z_order Z_p Z_mono Z_degree Z_hand) (k69 : Int32 → Int32 → Int32 → Int32 → Int32 → Int32 → Int32 → Int32 → Int32 → (Nat → Int32) → (Nat → Int32) → (Nat → Int32) → Option (Int32 × Int32 × Int32 × Int32 × Int32 × (Nat → Int32) × (Nat → Int32) × (Nat → Int32))) (hk69 : ∀ (i4 i5 i6 i7 Z_generators Z_monomials Z_n Z_order Z_p : Int32) (Z_mono Z_degree Z_hand : Nat → Int32), k69 i4 i5 i6 i7 Z_generators Z_monomials Z_n Z_order Z_p Z_mono Z_degree Z_hand = some (Z_generators_r, Z_monomials_r, Z_n_r, Z_order_r, Z_p_r, Z_mono_r, Z_degree_r, Z_hand_r) → g_zfresh X D cI cL cZ a_Z a_Z_mono a_Z_degree a_Z_hand a_Z_generator a_Z_has a_Z_row a_Z_work a_Z_basis a_Z_rest a_Z_product a_Z_known a_Z_lead a_Z_tail a_Z_word a_Z_vector a_Z_system a_Z_now a_Z_next A Z_thrownCode Z_upTo Z_members Z_lefts Z_vars Z_leadsFound Z_words Z_generators_r Z_monomials_r Z_n_r Z_order_r Z_p_r Z_mono_r Z_degree_r Z_hand_r 69 [(0, .ref a_Z), (4, .int i4), (5, .int i5), (6, .int i6), (7, .int i7)] [] Z_generators Z_monomials Z_n Z_order Z_p Z_mono Z_degree Z_hand) (k91 : Int32 → Int32 → Int32 → Int32 → Int32 → Int32 → Int32 → Int32 → Int32 → Int32 → (Nat → Int32) → (Nat → Int32) → (Nat → Int32) → Option (Int32 × Int32 × Int32 × Int32 × Int32 × (Nat → Int32) × (Nat → Int32) × (Nat → Int32))) (hk91 : ∀ (i4 i5 i6 i7 i8 Z_generators Z_monomials Z_n Z_order Z_p : Int32) (Z_mono Z_degree Z_hand : Nat → Int32), k91 i4 i5 i6 i7 i8 Z_generators Z_monomials Z_n Z_order Z_p Z_mono Z_degree Z_hand = some (Z_generators_r, Z_monomials_r, Z_n_r, Z_order_r, Z_p_r, Z_mono_r, Z_degree_r, Z_hand_r) → g_zfresh X D cI cL cZ a_Z a_Z_mono a_Z_degree a_Z_hand a_Z_generator a_Z_has a_Z_row a_Z_work a_Z_basis a_Z_rest a_Z_product a_Z_known a_Z_lead a_Z_tail a_Z_word a_Z_vector a_Z_system a_Z_now a_Z_next A Z_thrownCode Z_upTo Z_members Z_lefts Z_vars Z_leadsFound Z_words Z_generators_r Z_monomials_r Z_n_r Z_order_r Z_p_r Z_mono_r Z_degree_r Z_hand_r 91 [(0, .ref a_Z), (4, .int i4), (5, .int i5), (6, .int i6), (7, .int i7), (8, .int i8)] [] Z_generators Z_monomials Z_n Z_order Z_p Z_mono Z_degree Z_hand) (i4 i5 i6 i7 i8 t0 t1 Z_generators Z_monomials Z_n Z_order Z_p : Int32) (Z_mono Z_degree Z_hand : Nat → Int32) (hrun : s_zfresh_107 F k37 k47 k69 k91 i4 i5 i6 i7 i8 t0 t1 Z_generators Z_monomials Z_n Z_order Z_p Z_mono Z_degree Z_hand = some (Z_generators_r, Z_monomials_r, Z_n_r, Z_order_r, Z_p_r, Z_mono_r, Z_degree_r, Z_hand_r)) : g_zfresh X D cI cL cZ a_Z a_Z_mono a_Z_degree a_Z_hand a_Z_generator a_Z_has a_Z_row a_Z_work a_Z_basis a_Z_rest a_Z_product a_Z_known a_Z_lead a_Z_tail a_Z_word a_Z_vector a_Z_system a_Z_now a_Z_next A Z_thrownCode Z_upTo Z_members Z_lefts Z_vars Z_leadsFound Z_words Z_generators_r Z_monomials_r Z_n_r Z_order_r Z_p_r Z_mono_r Z_degree_r Z_hand_r 107 [(0, .ref a_Z), (4, .int i4), (5, .int i5), (6, .int i6), (7, .int i7), (8, .int i8)] [.int t1, .int t0] Z_generators Z_monomials Z_n Z_order Z_p Z_mono Z_degree Z_hand := by
  have C1 := C0
  obtain ⟨hx, hb, hr, hml, hown, hts, hlocks⟩ := C1
  unfold s_zfresh_107 at hrun
  intro H locs ls hP hD hS hl
  refine g_icmp_gt (tgt := 156) hx hb d_Z_fresh_107 (by decide) hrun (fun _ hrun => ?_) (fun _ hrun => ?_)
  · refine lv_iinc (v := (i7 + 1)) (lv' := [(7, .int (i7 + 1)), (0, .ref a_Z), (4, .int i4), (5, .int i5), (6, .int i6), (8, .int i8)]) hx hb d_Z_fresh_156 hl (k := 4) rfl rfl (by decide) rfl (fun ls hl => ?_)
    refine lv_goto (tgt := 69) hx hb d_Z_fresh_159 (by decide) ?_
    exact hk69 i4 i5 i6 (i7 + 1) Z_generators Z_monomials Z_n Z_order Z_p Z_mono Z_degree Z_hand hrun H locs ls hP hD hS (lv_sub hl [1, 2, 3, 4, 0] rfl)
  · refine lv_iload hx hb d_Z_fresh_110 (lv_at hl 2 rfl) ?_
    refine lv_iload hx hb d_Z_fresh_112 (lv_at hl 3 rfl) ?_
    refine lv_iadd hx hb d_Z_fresh_114 ?_
    refine lv_iload hx hb d_Z_fresh_115 (lv_at hl 4 rfl) ?_
    refine lv_iadd hx hb d_Z_fresh_117 ?_
    refine lv_iload hx hb d_Z_fresh_118 (lv_at hl 5 rfl) ?_
    refine lv_iadd hx hb d_Z_fresh_120 ?_
    refine lv_iload hx hb d_Z_fresh_121 (lv_at hl 1 rfl) ?_
    refine g_icmp_gt (tgt := 150) hx hb d_Z_fresh_123 (by decide) hrun (fun _ hrun => ?_) (fun _ hrun => ?_)
    · refine lv_iinc (v := (i8 + 1)) (lv' := [(8, .int (i8 + 1)), (0, .ref a_Z), (4, .int i4), (5, .int i5), (6, .int i6), (7, .int i7)]) hx hb d_Z_fresh_150 hl (k := 5) rfl rfl (by decide) rfl (fun ls hl => ?_)
      refine lv_goto (tgt := 91) hx hb d_Z_fresh_153 (by decide) ?_
      exact hk91 i4 i5 i6 i7 (i8 + 1) Z_generators Z_monomials Z_n Z_order Z_p Z_mono Z_degree Z_hand hrun H locs ls hP hD hS (lv_sub hl [1, 2, 3, 4, 5, 0] rfl)
    · refine lv_aload_n hx hb d_Z_fresh_126 rfl (lv_at hl 0 rfl) ?_
      refine lv_iload hx hb d_Z_fresh_127 (lv_at hl 2 rfl) ?_
      refine lv_bipush (v := 24) hx hb d_Z_fresh_129 (by decide) ?_
      refine g_ishl hx hb d_Z_fresh_131 ?_
      refine lv_iload hx hb d_Z_fresh_132 (lv_at hl 3 rfl) ?_
      refine lv_bipush (v := 16) hx hb d_Z_fresh_134 (by decide) ?_
      refine g_ishl hx hb d_Z_fresh_136 ?_
      refine lv_ior hx hb d_Z_fresh_137 ?_
      refine lv_iload hx hb d_Z_fresh_138 (lv_at hl 4 rfl) ?_
      refine lv_bipush (v := 8) hx hb d_Z_fresh_140 (by decide) ?_
      refine g_ishl hx hb d_Z_fresh_142 ?_
      refine lv_ior hx hb d_Z_fresh_143 ?_
      refine lv_iload hx hb d_Z_fresh_144 (lv_at hl 5 rfl) ?_
      refine lv_ior hx hb d_Z_fresh_146 ?_
      obtain ⟨Z_monomials_1, Z_mono_2, hc, hrun⟩ := bd2_s hrun
      have hFc := va_free (wc := (ws_zput a_Z a_Z_mono a_Z_degree a_Z_generator a_Z_hand a_Z_has a_Z_row a_Z_work a_Z_basis a_Z_rest a_Z_product a_Z_known a_Z_lead a_Z_tail a_Z_word a_Z_vector a_Z_system a_Z_now a_Z_next cI cL cZ Z_thrownCode Z_p Z_n Z_order Z_monomials Z_generators Z_upTo Z_members Z_lefts Z_vars Z_leadsFound Z_words Z_mono)) hD hS hA [0, 1] rfl
      refine va_callv (va_runV (As := [.int ((((shlI i5 24) ||| (shlI i6 16)) ||| (shlI i7 8)) ||| i8)]) (rest := []) ⟨hx, hb, hml, hown, hts⟩ (c_zput (gl X) D cI cL cZ a_Z a_Z_mono a_Z_degree a_Z_generator a_Z_hand a_Z_has a_Z_row a_Z_work a_Z_basis a_Z_rest a_Z_product a_Z_known a_Z_lead a_Z_tail a_Z_word a_Z_vector a_Z_system a_Z_now a_Z_next F Z_thrownCode Z_p Z_n Z_order Z_monomials Z_generators Z_upTo Z_members Z_lefts Z_vars Z_leadsFound Z_words Z_mono ((((shlI i5 24) ||| (shlI i6 16)) ||| (shlI i7 8)) ||| i8) H.size Z_monomials_1 Z_mono_2 hc) (cwV 1 hts (gwV k_383 k_381 k_382 k_333 k_374) rfl rfl rfl (by decide +kernel) ⟨Nat.le_of_ble_eq_true rfl, Nat.le_of_ble_eq_true rfl⟩) (gpreVW (hP.sub (ws' := (ws_zput a_Z a_Z_mono a_Z_degree a_Z_generator a_Z_hand a_Z_has a_Z_row a_Z_work a_Z_basis a_Z_rest a_Z_product a_Z_known a_Z_lead a_Z_tail a_Z_word a_Z_vector a_Z_system a_Z_now a_Z_next cI cL cZ Z_thrownCode Z_p Z_n Z_order Z_monomials Z_generators Z_upTo Z_members Z_lefts Z_vars Z_leadsFound Z_words Z_mono)) [0, 1] rfl) hK hN (hD.sub (ws' := (ws_zput a_Z a_Z_mono a_Z_degree a_Z_generator a_Z_hand a_Z_has a_Z_row a_Z_work a_Z_basis a_Z_rest a_Z_product a_Z_known a_Z_lead a_Z_tail a_Z_word a_Z_vector a_Z_system a_Z_now a_Z_next cI cL cZ Z_thrownCode Z_p Z_n Z_order Z_monomials Z_generators Z_upTo Z_members Z_lefts Z_vars Z_leadsFound Z_words Z_mono)) [0, 1] (by decide) rfl) 5 0 rfl rfl) rfl rfl hl.1 rfl (lv_room (Nat.le_of_ble_eq_true rfl)) d_Z_fresh_147 ⟨Nat.le_of_ble_eq_true rfl, Nat.le_of_ble_eq_true rfl⟩) hS (fun q _ h => hFc q h) hFc (fun _ t H_3 locs ht hvm hw hB hz1 hk1 hS => ?_)
      obtain ⟨hP, hD⟩ := va_join (wr := [(a_Z_degree, .inl (cI, 126, .inl Z_degree)), (a_Z_hand, .inl (cI, 126, .inl Z_hand))]) (w1 := (ws_zput a_Z a_Z_mono a_Z_degree a_Z_generator a_Z_hand a_Z_has a_Z_row a_Z_work a_Z_basis a_Z_rest a_Z_product a_Z_known a_Z_lead a_Z_tail a_Z_word a_Z_vector a_Z_system a_Z_now a_Z_next cI cL cZ Z_thrownCode Z_p Z_n Z_order Z_monomials_1 Z_generators Z_upTo Z_members Z_lefts Z_vars Z_leadsFound Z_words Z_mono_2)) hP hD [0, 1] [2, 3] rfl rfl (by decide) (by decide) hk1 hFc (by have h9 := hB.1; rw [ht] at h9; exact h9) hB.2.2
      have hP : va_P D classes (ws_zfresh a_Z a_Z_mono a_Z_degree a_Z_hand a_Z_generator a_Z_has a_Z_row a_Z_work a_Z_basis a_Z_rest a_Z_product a_Z_known a_Z_lead a_Z_tail a_Z_word a_Z_vector a_Z_system a_Z_now a_Z_next cI cL cZ Z_thrownCode Z_p Z_n Z_order Z_monomials_1 Z_generators Z_upTo Z_members Z_lefts Z_vars Z_leadsFound Z_words Z_mono_2 Z_degree Z_hand) H_3 := hP.sub [2, 3, 0, 1] rfl
      have hD : va_D A (ws_zfresh a_Z a_Z_mono a_Z_degree a_Z_hand a_Z_generator a_Z_has a_Z_row a_Z_work a_Z_basis a_Z_rest a_Z_product a_Z_known a_Z_lead a_Z_tail a_Z_word a_Z_vector a_Z_system a_Z_now a_Z_next cI cL cZ Z_thrownCode Z_p Z_n Z_order Z_monomials_1 Z_generators Z_upTo Z_members Z_lefts Z_vars Z_leadsFound Z_words Z_mono_2 Z_degree Z_hand) := hD.sub [2, 3, 0, 1] (by decide) rfl
      refine lv_iinc (v := (i8 + 1)) (lv' := [(8, .int (i8 + 1)), (0, .ref a_Z), (4, .int i4), (5, .int i5), (6, .int i6), (7, .int i7)]) hx hb d_Z_fresh_150 hl (k := 5) rfl rfl (by decide) rfl (fun ls hl => ?_)
      refine lv_goto (tgt := 91) hx hb d_Z_fresh_153 (by decide) ?_
      exact hk91 i4 i5 i6 i7 (i8 + 1) Z_generators Z_monomials_1 Z_n Z_order Z_p Z_mono_2 Z_degree Z_hand hrun H_3 locs ls hP hD hS (lv_sub hl [1, 2, 3, 4, 5, 0] rfl)
set_option maxHeartbeats 4000000 in
set_option maxRecDepth 100000 in
theorem w_zfresh_91 (X : gX) (D : va_G) (cI cL cZ : ClassId) (a_Z a_Z_mono a_Z_degree a_Z_hand a_Z_generator a_Z_has a_Z_row a_Z_work a_Z_basis a_Z_rest a_Z_product a_Z_known a_Z_lead a_Z_tail a_Z_word a_Z_vector a_Z_system a_Z_now a_Z_next : Nat) (A : Nat → Prop) (Z_thrownCode Z_upTo Z_members Z_lefts Z_vars Z_leadsFound Z_words Z_generators_r Z_monomials_r Z_n_r Z_order_r Z_p_r : Int32) (Z_mono_r Z_degree_r Z_hand_r : Nat → Int32) (F : Nat) (C0 : gC X c_Z_freshb none 9 "RemnantDictionaryModel" gAll) (hK : va_K D classes (gT cI cL cZ) (gs X)) (hA : ∀ q : Nat, (gs X).heap.size ≤ q → A q) (hN : gN (gs X)) (k37 : Int32 → Int32 → Int32 → Int32 → Int32 → Int32 → Int32 → (Nat → Int32) → (Nat → Int32) → (Nat → Int32) → Option (Int32 × Int32 × Int32 × Int32 × Int32 × (Nat → Int32) × (Nat → Int32) × (Nat → Int32))) (hk37 : ∀ (i4 i5 Z_generators Z_monomials Z_n Z_order Z_p : Int32) (Z_mono Z_degree Z_hand : Nat → Int32), k37 i4 i5 Z_generators Z_monomials Z_n Z_order Z_p Z_mono Z_degree Z_hand = some (Z_generators_r, Z_monomials_r, Z_n_r, Z_order_r, Z_p_r, Z_mono_r, Z_degree_r, Z_hand_r) → g_zfresh X D cI cL cZ a_Z a_Z_mono a_Z_degree a_Z_hand a_Z_generator a_Z_has a_Z_row a_Z_work a_Z_basis a_Z_rest a_Z_product a_Z_known a_Z_lead a_Z_tail a_Z_word a_Z_vector a_Z_system a_Z_now a_Z_next A Z_thrownCode Z_upTo Z_members Z_lefts Z_vars Z_leadsFound Z_words Z_generators_r Z_monomials_r Z_n_r Z_order_r Z_p_r Z_mono_r Z_degree_r Z_hand_r 37 [(0, .ref a_Z), (4, .int i4), (5, .int i5)] [] Z_generators Z_monomials Z_n Z_order Z_p Z_mono Z_degree Z_hand) (k47 : Int32 → Int32 → Int32 → Int32 → Int32 → Int32 → Int32 → Int32 → (Nat → Int32) → (Nat → Int32) → (Nat → Int32) → Option (Int32 × Int32 × Int32 × Int32 × Int32 × (Nat → Int32) × (Nat → Int32) × (Nat → Int32))) (hk47 : ∀ (i4 i5 i6 Z_generators Z_monomials Z_n Z_order Z_p : Int32) (Z_mono Z_degree Z_hand : Nat → Int32), k47 i4 i5 i6 Z_generators Z_monomials Z_n Z_order Z_p Z_mono Z_degree Z_hand = some (Z_generators_r, Z_monomials_r, Z_n_r, Z_order_r, Z_p_r, Z_mono_r, Z_degree_r, Z_hand_r) → g_zfresh X D cI cL cZ a_Z a_Z_mono a_Z_degree a_Z_hand a_Z_generator a_Z_has a_Z_row a_Z_work a_Z_basis a_Z_rest a_Z_product a_Z_known a_Z_lead a_Z_tail a_Z_word a_Z_vector a_Z_system a_Z_now a_Z_next A Z_thrownCode Z_upTo Z_members Z_lefts Z_vars Z_leadsFound Z_words Z_generators_r Z_monomials_r Z_n_r Z_order_r Z_p_r Z_mono_r Z_degree_r Z_hand_r 47 [(0, .ref a_Z), (4, .int i4), (5, .int i5), (6, .int i6)] [] Z_generators Z_monomials Z_n Z_order Z_p Z_mono Z_degree Z_hand) (k69 : Int32 → Int32 → Int32 → Int32 → Int32 → Int32 → Int32 → Int32 → Int32 → (Nat → Int32) → (Nat → Int32) → (Nat → Int32) → Option (Int32 × Int32 × Int32 × Int32 × Int32 × (Nat → Int32) × (Nat → Int32) × (Nat → Int32))) (hk69 : ∀ (i4 i5 i6 i7 Z_generators Z_monomials Z_n Z_order Z_p : Int32) (Z_mono Z_degree Z_hand : Nat → Int32), k69 i4 i5 i6 i7 Z_generators Z_monomials Z_n Z_order Z_p Z_mono Z_degree Z_hand = some (Z_generators_r, Z_monomials_r, Z_n_r, Z_order_r, Z_p_r, Z_mono_r, Z_degree_r, Z_hand_r) → g_zfresh X D cI cL cZ a_Z a_Z_mono a_Z_degree a_Z_hand a_Z_generator a_Z_has a_Z_row a_Z_work a_Z_basis a_Z_rest a_Z_product a_Z_known a_Z_lead a_Z_tail a_Z_word a_Z_vector a_Z_system a_Z_now a_Z_next A Z_thrownCode Z_upTo Z_members Z_lefts Z_vars Z_leadsFound Z_words Z_generators_r Z_monomials_r Z_n_r Z_order_r Z_p_r Z_mono_r Z_degree_r Z_hand_r 69 [(0, .ref a_Z), (4, .int i4), (5, .int i5), (6, .int i6), (7, .int i7)] [] Z_generators Z_monomials Z_n Z_order Z_p Z_mono Z_degree Z_hand) (k91 : Int32 → Int32 → Int32 → Int32 → Int32 → Int32 → Int32 → Int32 → Int32 → Int32 → (Nat → Int32) → (Nat → Int32) → (Nat → Int32) → Option (Int32 × Int32 × Int32 × Int32 × Int32 × (Nat → Int32) × (Nat → Int32) × (Nat → Int32))) (hk91 : ∀ (i4 i5 i6 i7 i8 Z_generators Z_monomials Z_n Z_order Z_p : Int32) (Z_mono Z_degree Z_hand : Nat → Int32), k91 i4 i5 i6 i7 i8 Z_generators Z_monomials Z_n Z_order Z_p Z_mono Z_degree Z_hand = some (Z_generators_r, Z_monomials_r, Z_n_r, Z_order_r, Z_p_r, Z_mono_r, Z_degree_r, Z_hand_r) → g_zfresh X D cI cL cZ a_Z a_Z_mono a_Z_degree a_Z_hand a_Z_generator a_Z_has a_Z_row a_Z_work a_Z_basis a_Z_rest a_Z_product a_Z_known a_Z_lead a_Z_tail a_Z_word a_Z_vector a_Z_system a_Z_now a_Z_next A Z_thrownCode Z_upTo Z_members Z_lefts Z_vars Z_leadsFound Z_words Z_generators_r Z_monomials_r Z_n_r Z_order_r Z_p_r Z_mono_r Z_degree_r Z_hand_r 91 [(0, .ref a_Z), (4, .int i4), (5, .int i5), (6, .int i6), (7, .int i7), (8, .int i8)] [] Z_generators Z_monomials Z_n Z_order Z_p Z_mono Z_degree Z_hand) (i4 i5 i6 i7 i8 Z_generators Z_monomials Z_n Z_order Z_p : Int32) (Z_mono Z_degree Z_hand : Nat → Int32) (hrun : s_zfresh_91 F k37 k47 k69 k91 i4 i5 i6 i7 i8 Z_generators Z_monomials Z_n Z_order Z_p Z_mono Z_degree Z_hand = some (Z_generators_r, Z_monomials_r, Z_n_r, Z_order_r, Z_p_r, Z_mono_r, Z_degree_r, Z_hand_r)) : g_zfresh X D cI cL cZ a_Z a_Z_mono a_Z_degree a_Z_hand a_Z_generator a_Z_has a_Z_row a_Z_work a_Z_basis a_Z_rest a_Z_product a_Z_known a_Z_lead a_Z_tail a_Z_word a_Z_vector a_Z_system a_Z_now a_Z_next A Z_thrownCode Z_upTo Z_members Z_lefts Z_vars Z_leadsFound Z_words Z_generators_r Z_monomials_r Z_n_r Z_order_r Z_p_r Z_mono_r Z_degree_r Z_hand_r 91 [(0, .ref a_Z), (4, .int i4), (5, .int i5), (6, .int i6), (7, .int i7), (8, .int i8)] [] Z_generators Z_monomials Z_n Z_order Z_p Z_mono Z_degree Z_hand := by
  have C1 := C0
  obtain ⟨hx, hb, hr, hml, hown, hts, hlocks⟩ := C1
  unfold s_zfresh_91 at hrun
  intro H locs ls hP hD hS hl
  refine lv_iload hx hb d_Z_fresh_91 (lv_at hl 5 rfl) ?_
  refine lv_aload_n hx hb d_Z_fresh_93 rfl (lv_at hl 0 rfl) ?_
  refine va_get (D := D) (ci := 5) (v := .int Z_n) (C := "RemnantDictionaryModel") (T := T_Z) (N := 30) hx hb hts iw_Z hown hK hP 0 rfl rfl 2 (by decide) (hts _ k_384) (fun _ h9 => h9) rfl d_Z_fresh_94 ?_
  refine lv_iconst (v := 3) hx hb d_Z_fresh_97 (by decide) ?_
  refine g_icmp_le (tgt := 106) hx hb d_Z_fresh_98 (by decide) hrun (fun _ hrun => ?_) (fun _ hrun => ?_)
  · refine lv_iconst (v := 0) hx hb d_Z_fresh_106 (by decide) ?_
    exact w_zfresh_107 X D cI cL cZ a_Z a_Z_mono a_Z_degree a_Z_hand a_Z_generator a_Z_has a_Z_row a_Z_work a_Z_basis a_Z_rest a_Z_product a_Z_known a_Z_lead a_Z_tail a_Z_word a_Z_vector a_Z_system a_Z_now a_Z_next A Z_thrownCode Z_upTo Z_members Z_lefts Z_vars Z_leadsFound Z_words Z_generators_r Z_monomials_r Z_n_r Z_order_r Z_p_r Z_mono_r Z_degree_r Z_hand_r F C0 hK hA hN k37 hk37 k47 hk47 k69 hk69 k91 hk91 i4 i5 i6 i7 i8 i8 0 Z_generators Z_monomials Z_n Z_order Z_p Z_mono Z_degree Z_hand hrun H locs ls hP hD hS (lv_sub hl [0, 1, 2, 3, 4, 5] rfl)
  · refine lv_iload hx hb d_Z_fresh_101 (lv_at hl 1 rfl) ?_
    refine lv_goto (tgt := 107) hx hb d_Z_fresh_103 (by decide) ?_
    exact w_zfresh_107 X D cI cL cZ a_Z a_Z_mono a_Z_degree a_Z_hand a_Z_generator a_Z_has a_Z_row a_Z_work a_Z_basis a_Z_rest a_Z_product a_Z_known a_Z_lead a_Z_tail a_Z_word a_Z_vector a_Z_system a_Z_now a_Z_next A Z_thrownCode Z_upTo Z_members Z_lefts Z_vars Z_leadsFound Z_words Z_generators_r Z_monomials_r Z_n_r Z_order_r Z_p_r Z_mono_r Z_degree_r Z_hand_r F C0 hK hA hN k37 hk37 k47 hk47 k69 hk69 k91 hk91 i4 i5 i6 i7 i8 i8 i4 Z_generators Z_monomials Z_n Z_order Z_p Z_mono Z_degree Z_hand hrun H locs ls hP hD hS (lv_sub hl [0, 1, 2, 3, 4, 5] rfl)
theorem v_zfresh_91 (X : gX) (D : va_G) (cI cL cZ : ClassId) (a_Z a_Z_mono a_Z_degree a_Z_hand a_Z_generator a_Z_has a_Z_row a_Z_work a_Z_basis a_Z_rest a_Z_product a_Z_known a_Z_lead a_Z_tail a_Z_word a_Z_vector a_Z_system a_Z_now a_Z_next : Nat) (A : Nat → Prop) (Z_thrownCode Z_upTo Z_members Z_lefts Z_vars Z_leadsFound Z_words Z_generators_r Z_monomials_r Z_n_r Z_order_r Z_p_r : Int32) (Z_mono_r Z_degree_r Z_hand_r : Nat → Int32) (F : Nat) (C0 : gC X c_Z_freshb none 9 "RemnantDictionaryModel" gAll) (hK : va_K D classes (gT cI cL cZ) (gs X)) (hA : ∀ q : Nat, (gs X).heap.size ≤ q → A q) (hN : gN (gs X)) (k37 : Int32 → Int32 → Int32 → Int32 → Int32 → Int32 → Int32 → (Nat → Int32) → (Nat → Int32) → (Nat → Int32) → Option (Int32 × Int32 × Int32 × Int32 × Int32 × (Nat → Int32) × (Nat → Int32) × (Nat → Int32))) (hk37 : ∀ (i4 i5 Z_generators Z_monomials Z_n Z_order Z_p : Int32) (Z_mono Z_degree Z_hand : Nat → Int32), k37 i4 i5 Z_generators Z_monomials Z_n Z_order Z_p Z_mono Z_degree Z_hand = some (Z_generators_r, Z_monomials_r, Z_n_r, Z_order_r, Z_p_r, Z_mono_r, Z_degree_r, Z_hand_r) → g_zfresh X D cI cL cZ a_Z a_Z_mono a_Z_degree a_Z_hand a_Z_generator a_Z_has a_Z_row a_Z_work a_Z_basis a_Z_rest a_Z_product a_Z_known a_Z_lead a_Z_tail a_Z_word a_Z_vector a_Z_system a_Z_now a_Z_next A Z_thrownCode Z_upTo Z_members Z_lefts Z_vars Z_leadsFound Z_words Z_generators_r Z_monomials_r Z_n_r Z_order_r Z_p_r Z_mono_r Z_degree_r Z_hand_r 37 [(0, .ref a_Z), (4, .int i4), (5, .int i5)] [] Z_generators Z_monomials Z_n Z_order Z_p Z_mono Z_degree Z_hand) (k47 : Int32 → Int32 → Int32 → Int32 → Int32 → Int32 → Int32 → Int32 → (Nat → Int32) → (Nat → Int32) → (Nat → Int32) → Option (Int32 × Int32 × Int32 × Int32 × Int32 × (Nat → Int32) × (Nat → Int32) × (Nat → Int32))) (hk47 : ∀ (i4 i5 i6 Z_generators Z_monomials Z_n Z_order Z_p : Int32) (Z_mono Z_degree Z_hand : Nat → Int32), k47 i4 i5 i6 Z_generators Z_monomials Z_n Z_order Z_p Z_mono Z_degree Z_hand = some (Z_generators_r, Z_monomials_r, Z_n_r, Z_order_r, Z_p_r, Z_mono_r, Z_degree_r, Z_hand_r) → g_zfresh X D cI cL cZ a_Z a_Z_mono a_Z_degree a_Z_hand a_Z_generator a_Z_has a_Z_row a_Z_work a_Z_basis a_Z_rest a_Z_product a_Z_known a_Z_lead a_Z_tail a_Z_word a_Z_vector a_Z_system a_Z_now a_Z_next A Z_thrownCode Z_upTo Z_members Z_lefts Z_vars Z_leadsFound Z_words Z_generators_r Z_monomials_r Z_n_r Z_order_r Z_p_r Z_mono_r Z_degree_r Z_hand_r 47 [(0, .ref a_Z), (4, .int i4), (5, .int i5), (6, .int i6)] [] Z_generators Z_monomials Z_n Z_order Z_p Z_mono Z_degree Z_hand) (k69 : Int32 → Int32 → Int32 → Int32 → Int32 → Int32 → Int32 → Int32 → Int32 → (Nat → Int32) → (Nat → Int32) → (Nat → Int32) → Option (Int32 × Int32 × Int32 × Int32 × Int32 × (Nat → Int32) × (Nat → Int32) × (Nat → Int32))) (hk69 : ∀ (i4 i5 i6 i7 Z_generators Z_monomials Z_n Z_order Z_p : Int32) (Z_mono Z_degree Z_hand : Nat → Int32), k69 i4 i5 i6 i7 Z_generators Z_monomials Z_n Z_order Z_p Z_mono Z_degree Z_hand = some (Z_generators_r, Z_monomials_r, Z_n_r, Z_order_r, Z_p_r, Z_mono_r, Z_degree_r, Z_hand_r) → g_zfresh X D cI cL cZ a_Z a_Z_mono a_Z_degree a_Z_hand a_Z_generator a_Z_has a_Z_row a_Z_work a_Z_basis a_Z_rest a_Z_product a_Z_known a_Z_lead a_Z_tail a_Z_word a_Z_vector a_Z_system a_Z_now a_Z_next A Z_thrownCode Z_upTo Z_members Z_lefts Z_vars Z_leadsFound Z_words Z_generators_r Z_monomials_r Z_n_r Z_order_r Z_p_r Z_mono_r Z_degree_r Z_hand_r 69 [(0, .ref a_Z), (4, .int i4), (5, .int i5), (6, .int i6), (7, .int i7)] [] Z_generators Z_monomials Z_n Z_order Z_p Z_mono Z_degree Z_hand) : ∀ (n : Nat) (i4 i5 i6 i7 i8 Z_generators Z_monomials Z_n Z_order Z_p : Int32) (Z_mono Z_degree Z_hand : Nat → Int32), b_zfresh_91 F k37 k47 k69 n i4 i5 i6 i7 i8 Z_generators Z_monomials Z_n Z_order Z_p Z_mono Z_degree Z_hand = some (Z_generators_r, Z_monomials_r, Z_n_r, Z_order_r, Z_p_r, Z_mono_r, Z_degree_r, Z_hand_r) → g_zfresh X D cI cL cZ a_Z a_Z_mono a_Z_degree a_Z_hand a_Z_generator a_Z_has a_Z_row a_Z_work a_Z_basis a_Z_rest a_Z_product a_Z_known a_Z_lead a_Z_tail a_Z_word a_Z_vector a_Z_system a_Z_now a_Z_next A Z_thrownCode Z_upTo Z_members Z_lefts Z_vars Z_leadsFound Z_words Z_generators_r Z_monomials_r Z_n_r Z_order_r Z_p_r Z_mono_r Z_degree_r Z_hand_r 91 [(0, .ref a_Z), (4, .int i4), (5, .int i5), (6, .int i6), (7, .int i7), (8, .int i8)] [] Z_generators Z_monomials Z_n Z_order Z_p Z_mono Z_degree Z_hand := by
  intro n
  induction n with
  | zero => intro i4 i5 i6 i7 i8 Z_generators Z_monomials Z_n Z_order Z_p Z_mono Z_degree Z_hand hrun; cases hrun
  | succ n ih =>
    intro i4 i5 i6 i7 i8 Z_generators Z_monomials Z_n Z_order Z_p Z_mono Z_degree Z_hand hrun
    exact w_zfresh_91 X D cI cL cZ a_Z a_Z_mono a_Z_degree a_Z_hand a_Z_generator a_Z_has a_Z_row a_Z_work a_Z_basis a_Z_rest a_Z_product a_Z_known a_Z_lead a_Z_tail a_Z_word a_Z_vector a_Z_system a_Z_now a_Z_next A Z_thrownCode Z_upTo Z_members Z_lefts Z_vars Z_leadsFound Z_words Z_generators_r Z_monomials_r Z_n_r Z_order_r Z_p_r Z_mono_r Z_degree_r Z_hand_r F C0 hK hA hN k37 hk37 k47 hk47 k69 hk69 (b_zfresh_91 F k37 k47 k69 n) ih i4 i5 i6 i7 i8 Z_generators Z_monomials Z_n Z_order Z_p Z_mono Z_degree Z_hand hrun
set_option maxHeartbeats 4000000 in
set_option maxRecDepth 100000 in
theorem w_zfresh_85 (X : gX) (D : va_G) (cI cL cZ : ClassId) (a_Z a_Z_mono a_Z_degree a_Z_hand a_Z_generator a_Z_has a_Z_row a_Z_work a_Z_basis a_Z_rest a_Z_product a_Z_known a_Z_lead a_Z_tail a_Z_word a_Z_vector a_Z_system a_Z_now a_Z_next : Nat) (A : Nat → Prop) (Z_thrownCode Z_upTo Z_members Z_lefts Z_vars Z_leadsFound Z_words Z_generators_r Z_monomials_r Z_n_r Z_order_r Z_p_r : Int32) (Z_mono_r Z_degree_r Z_hand_r : Nat → Int32) (F : Nat) (C0 : gC X c_Z_freshb none 9 "RemnantDictionaryModel" gAll) (hK : va_K D classes (gT cI cL cZ) (gs X)) (hA : ∀ q : Nat, (gs X).heap.size ≤ q → A q) (hN : gN (gs X)) (k37 : Int32 → Int32 → Int32 → Int32 → Int32 → Int32 → Int32 → (Nat → Int32) → (Nat → Int32) → (Nat → Int32) → Option (Int32 × Int32 × Int32 × Int32 × Int32 × (Nat → Int32) × (Nat → Int32) × (Nat → Int32))) (hk37 : ∀ (i4 i5 Z_generators Z_monomials Z_n Z_order Z_p : Int32) (Z_mono Z_degree Z_hand : Nat → Int32), k37 i4 i5 Z_generators Z_monomials Z_n Z_order Z_p Z_mono Z_degree Z_hand = some (Z_generators_r, Z_monomials_r, Z_n_r, Z_order_r, Z_p_r, Z_mono_r, Z_degree_r, Z_hand_r) → g_zfresh X D cI cL cZ a_Z a_Z_mono a_Z_degree a_Z_hand a_Z_generator a_Z_has a_Z_row a_Z_work a_Z_basis a_Z_rest a_Z_product a_Z_known a_Z_lead a_Z_tail a_Z_word a_Z_vector a_Z_system a_Z_now a_Z_next A Z_thrownCode Z_upTo Z_members Z_lefts Z_vars Z_leadsFound Z_words Z_generators_r Z_monomials_r Z_n_r Z_order_r Z_p_r Z_mono_r Z_degree_r Z_hand_r 37 [(0, .ref a_Z), (4, .int i4), (5, .int i5)] [] Z_generators Z_monomials Z_n Z_order Z_p Z_mono Z_degree Z_hand) (k47 : Int32 → Int32 → Int32 → Int32 → Int32 → Int32 → Int32 → Int32 → (Nat → Int32) → (Nat → Int32) → (Nat → Int32) → Option (Int32 × Int32 × Int32 × Int32 × Int32 × (Nat → Int32) × (Nat → Int32) × (Nat → Int32))) (hk47 : ∀ (i4 i5 i6 Z_generators Z_monomials Z_n Z_order Z_p : Int32) (Z_mono Z_degree Z_hand : Nat → Int32), k47 i4 i5 i6 Z_generators Z_monomials Z_n Z_order Z_p Z_mono Z_degree Z_hand = some (Z_generators_r, Z_monomials_r, Z_n_r, Z_order_r, Z_p_r, Z_mono_r, Z_degree_r, Z_hand_r) → g_zfresh X D cI cL cZ a_Z a_Z_mono a_Z_degree a_Z_hand a_Z_generator a_Z_has a_Z_row a_Z_work a_Z_basis a_Z_rest a_Z_product a_Z_known a_Z_lead a_Z_tail a_Z_word a_Z_vector a_Z_system a_Z_now a_Z_next A Z_thrownCode Z_upTo Z_members Z_lefts Z_vars Z_leadsFound Z_words Z_generators_r Z_monomials_r Z_n_r Z_order_r Z_p_r Z_mono_r Z_degree_r Z_hand_r 47 [(0, .ref a_Z), (4, .int i4), (5, .int i5), (6, .int i6)] [] Z_generators Z_monomials Z_n Z_order Z_p Z_mono Z_degree Z_hand) (k69 : Int32 → Int32 → Int32 → Int32 → Int32 → Int32 → Int32 → Int32 → Int32 → (Nat → Int32) → (Nat → Int32) → (Nat → Int32) → Option (Int32 × Int32 × Int32 × Int32 × Int32 × (Nat → Int32) × (Nat → Int32) × (Nat → Int32))) (hk69 : ∀ (i4 i5 i6 i7 Z_generators Z_monomials Z_n Z_order Z_p : Int32) (Z_mono Z_degree Z_hand : Nat → Int32), k69 i4 i5 i6 i7 Z_generators Z_monomials Z_n Z_order Z_p Z_mono Z_degree Z_hand = some (Z_generators_r, Z_monomials_r, Z_n_r, Z_order_r, Z_p_r, Z_mono_r, Z_degree_r, Z_hand_r) → g_zfresh X D cI cL cZ a_Z a_Z_mono a_Z_degree a_Z_hand a_Z_generator a_Z_has a_Z_row a_Z_work a_Z_basis a_Z_rest a_Z_product a_Z_known a_Z_lead a_Z_tail a_Z_word a_Z_vector a_Z_system a_Z_now a_Z_next A Z_thrownCode Z_upTo Z_members Z_lefts Z_vars Z_leadsFound Z_words Z_generators_r Z_monomials_r Z_n_r Z_order_r Z_p_r Z_mono_r Z_degree_r Z_hand_r 69 [(0, .ref a_Z), (4, .int i4), (5, .int i5), (6, .int i6), (7, .int i7)] [] Z_generators Z_monomials Z_n Z_order Z_p Z_mono Z_degree Z_hand) (i4 i5 i6 i7 t0 t1 Z_generators Z_monomials Z_n Z_order Z_p : Int32) (Z_mono Z_degree Z_hand : Nat → Int32) (hrun : s_zfresh_85 F k37 k47 k69 i4 i5 i6 i7 t0 t1 Z_generators Z_monomials Z_n Z_order Z_p Z_mono Z_degree Z_hand = some (Z_generators_r, Z_monomials_r, Z_n_r, Z_order_r, Z_p_r, Z_mono_r, Z_degree_r, Z_hand_r)) : g_zfresh X D cI cL cZ a_Z a_Z_mono a_Z_degree a_Z_hand a_Z_generator a_Z_has a_Z_row a_Z_work a_Z_basis a_Z_rest a_Z_product a_Z_known a_Z_lead a_Z_tail a_Z_word a_Z_vector a_Z_system a_Z_now a_Z_next A Z_thrownCode Z_upTo Z_members Z_lefts Z_vars Z_leadsFound Z_words Z_generators_r Z_monomials_r Z_n_r Z_order_r Z_p_r Z_mono_r Z_degree_r Z_hand_r 85 [(0, .ref a_Z), (4, .int i4), (5, .int i5), (6, .int i6), (7, .int i7)] [.int t1, .int t0] Z_generators Z_monomials Z_n Z_order Z_p Z_mono Z_degree Z_hand := by
  have C1 := C0
  obtain ⟨hx, hb, hr, hml, hown, hts, hlocks⟩ := C1
  unfold s_zfresh_85 at hrun
  intro H locs ls hP hD hS hl
  refine g_icmp_gt (tgt := 162) hx hb d_Z_fresh_85 (by decide) hrun (fun _ hrun => ?_) (fun _ hrun => ?_)
  · refine lv_iinc (v := (i6 + 1)) (lv' := [(6, .int (i6 + 1)), (0, .ref a_Z), (4, .int i4), (5, .int i5), (7, .int i7)]) hx hb d_Z_fresh_162 hl (k := 3) rfl rfl (by decide) rfl (fun ls hl => ?_)
    refine lv_goto (tgt := 47) hx hb d_Z_fresh_165 (by decide) ?_
    exact hk47 i4 i5 (i6 + 1) Z_generators Z_monomials Z_n Z_order Z_p Z_mono Z_degree Z_hand hrun H locs ls hP hD hS (lv_sub hl [1, 2, 3, 0] rfl)
  · refine lv_iconst (v := 0) hx hb d_Z_fresh_88 (by decide) ?_
    refine lv_istore (lv' := [(8, .int 0), (0, .ref a_Z), (4, .int i4), (5, .int i5), (6, .int i6), (7, .int i7)]) hx hb d_Z_fresh_89 hl (by decide) rfl (fun ls hl => ?_)
    exact v_zfresh_91 X D cI cL cZ a_Z a_Z_mono a_Z_degree a_Z_hand a_Z_generator a_Z_has a_Z_row a_Z_work a_Z_basis a_Z_rest a_Z_product a_Z_known a_Z_lead a_Z_tail a_Z_word a_Z_vector a_Z_system a_Z_now a_Z_next A Z_thrownCode Z_upTo Z_members Z_lefts Z_vars Z_leadsFound Z_words Z_generators_r Z_monomials_r Z_n_r Z_order_r Z_p_r Z_mono_r Z_degree_r Z_hand_r F C0 hK hA hN k37 hk37 k47 hk47 k69 hk69 F i4 i5 i6 i7 0 Z_generators Z_monomials Z_n Z_order Z_p Z_mono Z_degree Z_hand hrun H locs ls hP hD hS (lv_sub hl [1, 2, 3, 4, 5, 0] rfl)
set_option maxHeartbeats 4000000 in
set_option maxRecDepth 100000 in
theorem w_zfresh_69 (X : gX) (D : va_G) (cI cL cZ : ClassId) (a_Z a_Z_mono a_Z_degree a_Z_hand a_Z_generator a_Z_has a_Z_row a_Z_work a_Z_basis a_Z_rest a_Z_product a_Z_known a_Z_lead a_Z_tail a_Z_word a_Z_vector a_Z_system a_Z_now a_Z_next : Nat) (A : Nat → Prop) (Z_thrownCode Z_upTo Z_members Z_lefts Z_vars Z_leadsFound Z_words Z_generators_r Z_monomials_r Z_n_r Z_order_r Z_p_r : Int32) (Z_mono_r Z_degree_r Z_hand_r : Nat → Int32) (F : Nat) (C0 : gC X c_Z_freshb none 9 "RemnantDictionaryModel" gAll) (hK : va_K D classes (gT cI cL cZ) (gs X)) (hA : ∀ q : Nat, (gs X).heap.size ≤ q → A q) (hN : gN (gs X)) (k37 : Int32 → Int32 → Int32 → Int32 → Int32 → Int32 → Int32 → (Nat → Int32) → (Nat → Int32) → (Nat → Int32) → Option (Int32 × Int32 × Int32 × Int32 × Int32 × (Nat → Int32) × (Nat → Int32) × (Nat → Int32))) (hk37 : ∀ (i4 i5 Z_generators Z_monomials Z_n Z_order Z_p : Int32) (Z_mono Z_degree Z_hand : Nat → Int32), k37 i4 i5 Z_generators Z_monomials Z_n Z_order Z_p Z_mono Z_degree Z_hand = some (Z_generators_r, Z_monomials_r, Z_n_r, Z_order_r, Z_p_r, Z_mono_r, Z_degree_r, Z_hand_r) → g_zfresh X D cI cL cZ a_Z a_Z_mono a_Z_degree a_Z_hand a_Z_generator a_Z_has a_Z_row a_Z_work a_Z_basis a_Z_rest a_Z_product a_Z_known a_Z_lead a_Z_tail a_Z_word a_Z_vector a_Z_system a_Z_now a_Z_next A Z_thrownCode Z_upTo Z_members Z_lefts Z_vars Z_leadsFound Z_words Z_generators_r Z_monomials_r Z_n_r Z_order_r Z_p_r Z_mono_r Z_degree_r Z_hand_r 37 [(0, .ref a_Z), (4, .int i4), (5, .int i5)] [] Z_generators Z_monomials Z_n Z_order Z_p Z_mono Z_degree Z_hand) (k47 : Int32 → Int32 → Int32 → Int32 → Int32 → Int32 → Int32 → Int32 → (Nat → Int32) → (Nat → Int32) → (Nat → Int32) → Option (Int32 × Int32 × Int32 × Int32 × Int32 × (Nat → Int32) × (Nat → Int32) × (Nat → Int32))) (hk47 : ∀ (i4 i5 i6 Z_generators Z_monomials Z_n Z_order Z_p : Int32) (Z_mono Z_degree Z_hand : Nat → Int32), k47 i4 i5 i6 Z_generators Z_monomials Z_n Z_order Z_p Z_mono Z_degree Z_hand = some (Z_generators_r, Z_monomials_r, Z_n_r, Z_order_r, Z_p_r, Z_mono_r, Z_degree_r, Z_hand_r) → g_zfresh X D cI cL cZ a_Z a_Z_mono a_Z_degree a_Z_hand a_Z_generator a_Z_has a_Z_row a_Z_work a_Z_basis a_Z_rest a_Z_product a_Z_known a_Z_lead a_Z_tail a_Z_word a_Z_vector a_Z_system a_Z_now a_Z_next A Z_thrownCode Z_upTo Z_members Z_lefts Z_vars Z_leadsFound Z_words Z_generators_r Z_monomials_r Z_n_r Z_order_r Z_p_r Z_mono_r Z_degree_r Z_hand_r 47 [(0, .ref a_Z), (4, .int i4), (5, .int i5), (6, .int i6)] [] Z_generators Z_monomials Z_n Z_order Z_p Z_mono Z_degree Z_hand) (k69 : Int32 → Int32 → Int32 → Int32 → Int32 → Int32 → Int32 → Int32 → Int32 → (Nat → Int32) → (Nat → Int32) → (Nat → Int32) → Option (Int32 × Int32 × Int32 × Int32 × Int32 × (Nat → Int32) × (Nat → Int32) × (Nat → Int32))) (hk69 : ∀ (i4 i5 i6 i7 Z_generators Z_monomials Z_n Z_order Z_p : Int32) (Z_mono Z_degree Z_hand : Nat → Int32), k69 i4 i5 i6 i7 Z_generators Z_monomials Z_n Z_order Z_p Z_mono Z_degree Z_hand = some (Z_generators_r, Z_monomials_r, Z_n_r, Z_order_r, Z_p_r, Z_mono_r, Z_degree_r, Z_hand_r) → g_zfresh X D cI cL cZ a_Z a_Z_mono a_Z_degree a_Z_hand a_Z_generator a_Z_has a_Z_row a_Z_work a_Z_basis a_Z_rest a_Z_product a_Z_known a_Z_lead a_Z_tail a_Z_word a_Z_vector a_Z_system a_Z_now a_Z_next A Z_thrownCode Z_upTo Z_members Z_lefts Z_vars Z_leadsFound Z_words Z_generators_r Z_monomials_r Z_n_r Z_order_r Z_p_r Z_mono_r Z_degree_r Z_hand_r 69 [(0, .ref a_Z), (4, .int i4), (5, .int i5), (6, .int i6), (7, .int i7)] [] Z_generators Z_monomials Z_n Z_order Z_p Z_mono Z_degree Z_hand) (i4 i5 i6 i7 Z_generators Z_monomials Z_n Z_order Z_p : Int32) (Z_mono Z_degree Z_hand : Nat → Int32) (hrun : s_zfresh_69 F k37 k47 k69 i4 i5 i6 i7 Z_generators Z_monomials Z_n Z_order Z_p Z_mono Z_degree Z_hand = some (Z_generators_r, Z_monomials_r, Z_n_r, Z_order_r, Z_p_r, Z_mono_r, Z_degree_r, Z_hand_r)) : g_zfresh X D cI cL cZ a_Z a_Z_mono a_Z_degree a_Z_hand a_Z_generator a_Z_has a_Z_row a_Z_work a_Z_basis a_Z_rest a_Z_product a_Z_known a_Z_lead a_Z_tail a_Z_word a_Z_vector a_Z_system a_Z_now a_Z_next A Z_thrownCode Z_upTo Z_members Z_lefts Z_vars Z_leadsFound Z_words Z_generators_r Z_monomials_r Z_n_r Z_order_r Z_p_r Z_mono_r Z_degree_r Z_hand_r 69 [(0, .ref a_Z), (4, .int i4), (5, .int i5), (6, .int i6), (7, .int i7)] [] Z_generators Z_monomials Z_n Z_order Z_p Z_mono Z_degree Z_hand := by
  have C1 := C0
  obtain ⟨hx, hb, hr, hml, hown, hts, hlocks⟩ := C1
  unfold s_zfresh_69 at hrun
  intro H locs ls hP hD hS hl
  refine lv_iload hx hb d_Z_fresh_69 (lv_at hl 4 rfl) ?_
  refine lv_aload_n hx hb d_Z_fresh_71 rfl (lv_at hl 0 rfl) ?_
  refine va_get (D := D) (ci := 5) (v := .int Z_n) (C := "RemnantDictionaryModel") (T := T_Z) (N := 30) hx hb hts iw_Z hown hK hP 0 rfl rfl 2 (by decide) (hts _ k_384) (fun _ h9 => h9) rfl d_Z_fresh_72 ?_
  refine lv_iconst (v := 2) hx hb d_Z_fresh_75 (by decide) ?_
  refine g_icmp_le (tgt := 84) hx hb d_Z_fresh_76 (by decide) hrun (fun _ hrun => ?_) (fun _ hrun => ?_)
  · refine lv_iconst (v := 0) hx hb d_Z_fresh_84 (by decide) ?_
    exact w_zfresh_85 X D cI cL cZ a_Z a_Z_mono a_Z_degree a_Z_hand a_Z_generator a_Z_has a_Z_row a_Z_work a_Z_basis a_Z_rest a_Z_product a_Z_known a_Z_lead a_Z_tail a_Z_word a_Z_vector a_Z_system a_Z_now a_Z_next A Z_thrownCode Z_upTo Z_members Z_lefts Z_vars Z_leadsFound Z_words Z_generators_r Z_monomials_r Z_n_r Z_order_r Z_p_r Z_mono_r Z_degree_r Z_hand_r F C0 hK hA hN k37 hk37 k47 hk47 k69 hk69 i4 i5 i6 i7 i7 0 Z_generators Z_monomials Z_n Z_order Z_p Z_mono Z_degree Z_hand hrun H locs ls hP hD hS (lv_sub hl [0, 1, 2, 3, 4] rfl)
  · refine lv_iload hx hb d_Z_fresh_79 (lv_at hl 1 rfl) ?_
    refine lv_goto (tgt := 85) hx hb d_Z_fresh_81 (by decide) ?_
    exact w_zfresh_85 X D cI cL cZ a_Z a_Z_mono a_Z_degree a_Z_hand a_Z_generator a_Z_has a_Z_row a_Z_work a_Z_basis a_Z_rest a_Z_product a_Z_known a_Z_lead a_Z_tail a_Z_word a_Z_vector a_Z_system a_Z_now a_Z_next A Z_thrownCode Z_upTo Z_members Z_lefts Z_vars Z_leadsFound Z_words Z_generators_r Z_monomials_r Z_n_r Z_order_r Z_p_r Z_mono_r Z_degree_r Z_hand_r F C0 hK hA hN k37 hk37 k47 hk47 k69 hk69 i4 i5 i6 i7 i7 i4 Z_generators Z_monomials Z_n Z_order Z_p Z_mono Z_degree Z_hand hrun H locs ls hP hD hS (lv_sub hl [0, 1, 2, 3, 4] rfl)
theorem v_zfresh_69 (X : gX) (D : va_G) (cI cL cZ : ClassId) (a_Z a_Z_mono a_Z_degree a_Z_hand a_Z_generator a_Z_has a_Z_row a_Z_work a_Z_basis a_Z_rest a_Z_product a_Z_known a_Z_lead a_Z_tail a_Z_word a_Z_vector a_Z_system a_Z_now a_Z_next : Nat) (A : Nat → Prop) (Z_thrownCode Z_upTo Z_members Z_lefts Z_vars Z_leadsFound Z_words Z_generators_r Z_monomials_r Z_n_r Z_order_r Z_p_r : Int32) (Z_mono_r Z_degree_r Z_hand_r : Nat → Int32) (F : Nat) (C0 : gC X c_Z_freshb none 9 "RemnantDictionaryModel" gAll) (hK : va_K D classes (gT cI cL cZ) (gs X)) (hA : ∀ q : Nat, (gs X).heap.size ≤ q → A q) (hN : gN (gs X)) (k37 : Int32 → Int32 → Int32 → Int32 → Int32 → Int32 → Int32 → (Nat → Int32) → (Nat → Int32) → (Nat → Int32) → Option (Int32 × Int32 × Int32 × Int32 × Int32 × (Nat → Int32) × (Nat → Int32) × (Nat → Int32))) (hk37 : ∀ (i4 i5 Z_generators Z_monomials Z_n Z_order Z_p : Int32) (Z_mono Z_degree Z_hand : Nat → Int32), k37 i4 i5 Z_generators Z_monomials Z_n Z_order Z_p Z_mono Z_degree Z_hand = some (Z_generators_r, Z_monomials_r, Z_n_r, Z_order_r, Z_p_r, Z_mono_r, Z_degree_r, Z_hand_r) → g_zfresh X D cI cL cZ a_Z a_Z_mono a_Z_degree a_Z_hand a_Z_generator a_Z_has a_Z_row a_Z_work a_Z_basis a_Z_rest a_Z_product a_Z_known a_Z_lead a_Z_tail a_Z_word a_Z_vector a_Z_system a_Z_now a_Z_next A Z_thrownCode Z_upTo Z_members Z_lefts Z_vars Z_leadsFound Z_words Z_generators_r Z_monomials_r Z_n_r Z_order_r Z_p_r Z_mono_r Z_degree_r Z_hand_r 37 [(0, .ref a_Z), (4, .int i4), (5, .int i5)] [] Z_generators Z_monomials Z_n Z_order Z_p Z_mono Z_degree Z_hand) (k47 : Int32 → Int32 → Int32 → Int32 → Int32 → Int32 → Int32 → Int32 → (Nat → Int32) → (Nat → Int32) → (Nat → Int32) → Option (Int32 × Int32 × Int32 × Int32 × Int32 × (Nat → Int32) × (Nat → Int32) × (Nat → Int32))) (hk47 : ∀ (i4 i5 i6 Z_generators Z_monomials Z_n Z_order Z_p : Int32) (Z_mono Z_degree Z_hand : Nat → Int32), k47 i4 i5 i6 Z_generators Z_monomials Z_n Z_order Z_p Z_mono Z_degree Z_hand = some (Z_generators_r, Z_monomials_r, Z_n_r, Z_order_r, Z_p_r, Z_mono_r, Z_degree_r, Z_hand_r) → g_zfresh X D cI cL cZ a_Z a_Z_mono a_Z_degree a_Z_hand a_Z_generator a_Z_has a_Z_row a_Z_work a_Z_basis a_Z_rest a_Z_product a_Z_known a_Z_lead a_Z_tail a_Z_word a_Z_vector a_Z_system a_Z_now a_Z_next A Z_thrownCode Z_upTo Z_members Z_lefts Z_vars Z_leadsFound Z_words Z_generators_r Z_monomials_r Z_n_r Z_order_r Z_p_r Z_mono_r Z_degree_r Z_hand_r 47 [(0, .ref a_Z), (4, .int i4), (5, .int i5), (6, .int i6)] [] Z_generators Z_monomials Z_n Z_order Z_p Z_mono Z_degree Z_hand) : ∀ (n : Nat) (i4 i5 i6 i7 Z_generators Z_monomials Z_n Z_order Z_p : Int32) (Z_mono Z_degree Z_hand : Nat → Int32), b_zfresh_69 F k37 k47 n i4 i5 i6 i7 Z_generators Z_monomials Z_n Z_order Z_p Z_mono Z_degree Z_hand = some (Z_generators_r, Z_monomials_r, Z_n_r, Z_order_r, Z_p_r, Z_mono_r, Z_degree_r, Z_hand_r) → g_zfresh X D cI cL cZ a_Z a_Z_mono a_Z_degree a_Z_hand a_Z_generator a_Z_has a_Z_row a_Z_work a_Z_basis a_Z_rest a_Z_product a_Z_known a_Z_lead a_Z_tail a_Z_word a_Z_vector a_Z_system a_Z_now a_Z_next A Z_thrownCode Z_upTo Z_members Z_lefts Z_vars Z_leadsFound Z_words Z_generators_r Z_monomials_r Z_n_r Z_order_r Z_p_r Z_mono_r Z_degree_r Z_hand_r 69 [(0, .ref a_Z), (4, .int i4), (5, .int i5), (6, .int i6), (7, .int i7)] [] Z_generators Z_monomials Z_n Z_order Z_p Z_mono Z_degree Z_hand := by
  intro n
  induction n with
  | zero => intro i4 i5 i6 i7 Z_generators Z_monomials Z_n Z_order Z_p Z_mono Z_degree Z_hand hrun; cases hrun
  | succ n ih =>
    intro i4 i5 i6 i7 Z_generators Z_monomials Z_n Z_order Z_p Z_mono Z_degree Z_hand hrun
    exact w_zfresh_69 X D cI cL cZ a_Z a_Z_mono a_Z_degree a_Z_hand a_Z_generator a_Z_has a_Z_row a_Z_work a_Z_basis a_Z_rest a_Z_product a_Z_known a_Z_lead a_Z_tail a_Z_word a_Z_vector a_Z_system a_Z_now a_Z_next A Z_thrownCode Z_upTo Z_members Z_lefts Z_vars Z_leadsFound Z_words Z_generators_r Z_monomials_r Z_n_r Z_order_r Z_p_r Z_mono_r Z_degree_r Z_hand_r F C0 hK hA hN k37 hk37 k47 hk47 (b_zfresh_69 F k37 k47 n) ih i4 i5 i6 i7 Z_generators Z_monomials Z_n Z_order Z_p Z_mono Z_degree Z_hand hrun
set_option maxHeartbeats 4000000 in
set_option maxRecDepth 100000 in
theorem w_zfresh_63 (X : gX) (D : va_G) (cI cL cZ : ClassId) (a_Z a_Z_mono a_Z_degree a_Z_hand a_Z_generator a_Z_has a_Z_row a_Z_work a_Z_basis a_Z_rest a_Z_product a_Z_known a_Z_lead a_Z_tail a_Z_word a_Z_vector a_Z_system a_Z_now a_Z_next : Nat) (A : Nat → Prop) (Z_thrownCode Z_upTo Z_members Z_lefts Z_vars Z_leadsFound Z_words Z_generators_r Z_monomials_r Z_n_r Z_order_r Z_p_r : Int32) (Z_mono_r Z_degree_r Z_hand_r : Nat → Int32) (F : Nat) (C0 : gC X c_Z_freshb none 9 "RemnantDictionaryModel" gAll) (hK : va_K D classes (gT cI cL cZ) (gs X)) (hA : ∀ q : Nat, (gs X).heap.size ≤ q → A q) (hN : gN (gs X)) (k37 : Int32 → Int32 → Int32 → Int32 → Int32 → Int32 → Int32 → (Nat → Int32) → (Nat → Int32) → (Nat → Int32) → Option (Int32 × Int32 × Int32 × Int32 × Int32 × (Nat → Int32) × (Nat → Int32) × (Nat → Int32))) (hk37 : ∀ (i4 i5 Z_generators Z_monomials Z_n Z_order Z_p : Int32) (Z_mono Z_degree Z_hand : Nat → Int32), k37 i4 i5 Z_generators Z_monomials Z_n Z_order Z_p Z_mono Z_degree Z_hand = some (Z_generators_r, Z_monomials_r, Z_n_r, Z_order_r, Z_p_r, Z_mono_r, Z_degree_r, Z_hand_r) → g_zfresh X D cI cL cZ a_Z a_Z_mono a_Z_degree a_Z_hand a_Z_generator a_Z_has a_Z_row a_Z_work a_Z_basis a_Z_rest a_Z_product a_Z_known a_Z_lead a_Z_tail a_Z_word a_Z_vector a_Z_system a_Z_now a_Z_next A Z_thrownCode Z_upTo Z_members Z_lefts Z_vars Z_leadsFound Z_words Z_generators_r Z_monomials_r Z_n_r Z_order_r Z_p_r Z_mono_r Z_degree_r Z_hand_r 37 [(0, .ref a_Z), (4, .int i4), (5, .int i5)] [] Z_generators Z_monomials Z_n Z_order Z_p Z_mono Z_degree Z_hand) (k47 : Int32 → Int32 → Int32 → Int32 → Int32 → Int32 → Int32 → Int32 → (Nat → Int32) → (Nat → Int32) → (Nat → Int32) → Option (Int32 × Int32 × Int32 × Int32 × Int32 × (Nat → Int32) × (Nat → Int32) × (Nat → Int32))) (hk47 : ∀ (i4 i5 i6 Z_generators Z_monomials Z_n Z_order Z_p : Int32) (Z_mono Z_degree Z_hand : Nat → Int32), k47 i4 i5 i6 Z_generators Z_monomials Z_n Z_order Z_p Z_mono Z_degree Z_hand = some (Z_generators_r, Z_monomials_r, Z_n_r, Z_order_r, Z_p_r, Z_mono_r, Z_degree_r, Z_hand_r) → g_zfresh X D cI cL cZ a_Z a_Z_mono a_Z_degree a_Z_hand a_Z_generator a_Z_has a_Z_row a_Z_work a_Z_basis a_Z_rest a_Z_product a_Z_known a_Z_lead a_Z_tail a_Z_word a_Z_vector a_Z_system a_Z_now a_Z_next A Z_thrownCode Z_upTo Z_members Z_lefts Z_vars Z_leadsFound Z_words Z_generators_r Z_monomials_r Z_n_r Z_order_r Z_p_r Z_mono_r Z_degree_r Z_hand_r 47 [(0, .ref a_Z), (4, .int i4), (5, .int i5), (6, .int i6)] [] Z_generators Z_monomials Z_n Z_order Z_p Z_mono Z_degree Z_hand) (i4 i5 i6 t0 t1 Z_generators Z_monomials Z_n Z_order Z_p : Int32) (Z_mono Z_degree Z_hand : Nat → Int32) (hrun : s_zfresh_63 F k37 k47 i4 i5 i6 t0 t1 Z_generators Z_monomials Z_n Z_order Z_p Z_mono Z_degree Z_hand = some (Z_generators_r, Z_monomials_r, Z_n_r, Z_order_r, Z_p_r, Z_mono_r, Z_degree_r, Z_hand_r)) : g_zfresh X D cI cL cZ a_Z a_Z_mono a_Z_degree a_Z_hand a_Z_generator a_Z_has a_Z_row a_Z_work a_Z_basis a_Z_rest a_Z_product a_Z_known a_Z_lead a_Z_tail a_Z_word a_Z_vector a_Z_system a_Z_now a_Z_next A Z_thrownCode Z_upTo Z_members Z_lefts Z_vars Z_leadsFound Z_words Z_generators_r Z_monomials_r Z_n_r Z_order_r Z_p_r Z_mono_r Z_degree_r Z_hand_r 63 [(0, .ref a_Z), (4, .int i4), (5, .int i5), (6, .int i6)] [.int t1, .int t0] Z_generators Z_monomials Z_n Z_order Z_p Z_mono Z_degree Z_hand := by
  have C1 := C0
  obtain ⟨hx, hb, hr, hml, hown, hts, hlocks⟩ := C1
  unfold s_zfresh_63 at hrun
  intro H locs ls hP hD hS hl
  refine g_icmp_gt (tgt := 168) hx hb d_Z_fresh_63 (by decide) hrun (fun _ hrun => ?_) (fun _ hrun => ?_)
  · refine lv_iinc (v := (i5 + 1)) (lv' := [(5, .int (i5 + 1)), (0, .ref a_Z), (4, .int i4), (6, .int i6)]) hx hb d_Z_fresh_168 hl (k := 2) rfl rfl (by decide) rfl (fun ls hl => ?_)
    refine lv_goto (tgt := 37) hx hb d_Z_fresh_171 (by decide) ?_
    exact hk37 i4 (i5 + 1) Z_generators Z_monomials Z_n Z_order Z_p Z_mono Z_degree Z_hand hrun H locs ls hP hD hS (lv_sub hl [1, 2, 0] rfl)
  · refine lv_iconst (v := 0) hx hb d_Z_fresh_66 (by decide) ?_
    refine lv_istore (lv' := [(7, .int 0), (0, .ref a_Z), (4, .int i4), (5, .int i5), (6, .int i6)]) hx hb d_Z_fresh_67 hl (by decide) rfl (fun ls hl => ?_)
    exact v_zfresh_69 X D cI cL cZ a_Z a_Z_mono a_Z_degree a_Z_hand a_Z_generator a_Z_has a_Z_row a_Z_work a_Z_basis a_Z_rest a_Z_product a_Z_known a_Z_lead a_Z_tail a_Z_word a_Z_vector a_Z_system a_Z_now a_Z_next A Z_thrownCode Z_upTo Z_members Z_lefts Z_vars Z_leadsFound Z_words Z_generators_r Z_monomials_r Z_n_r Z_order_r Z_p_r Z_mono_r Z_degree_r Z_hand_r F C0 hK hA hN k37 hk37 k47 hk47 F i4 i5 i6 0 Z_generators Z_monomials Z_n Z_order Z_p Z_mono Z_degree Z_hand hrun H locs ls hP hD hS (lv_sub hl [1, 2, 3, 4, 0] rfl)
set_option maxHeartbeats 4000000 in
set_option maxRecDepth 100000 in
theorem w_zfresh_47 (X : gX) (D : va_G) (cI cL cZ : ClassId) (a_Z a_Z_mono a_Z_degree a_Z_hand a_Z_generator a_Z_has a_Z_row a_Z_work a_Z_basis a_Z_rest a_Z_product a_Z_known a_Z_lead a_Z_tail a_Z_word a_Z_vector a_Z_system a_Z_now a_Z_next : Nat) (A : Nat → Prop) (Z_thrownCode Z_upTo Z_members Z_lefts Z_vars Z_leadsFound Z_words Z_generators_r Z_monomials_r Z_n_r Z_order_r Z_p_r : Int32) (Z_mono_r Z_degree_r Z_hand_r : Nat → Int32) (F : Nat) (C0 : gC X c_Z_freshb none 9 "RemnantDictionaryModel" gAll) (hK : va_K D classes (gT cI cL cZ) (gs X)) (hA : ∀ q : Nat, (gs X).heap.size ≤ q → A q) (hN : gN (gs X)) (k37 : Int32 → Int32 → Int32 → Int32 → Int32 → Int32 → Int32 → (Nat → Int32) → (Nat → Int32) → (Nat → Int32) → Option (Int32 × Int32 × Int32 × Int32 × Int32 × (Nat → Int32) × (Nat → Int32) × (Nat → Int32))) (hk37 : ∀ (i4 i5 Z_generators Z_monomials Z_n Z_order Z_p : Int32) (Z_mono Z_degree Z_hand : Nat → Int32), k37 i4 i5 Z_generators Z_monomials Z_n Z_order Z_p Z_mono Z_degree Z_hand = some (Z_generators_r, Z_monomials_r, Z_n_r, Z_order_r, Z_p_r, Z_mono_r, Z_degree_r, Z_hand_r) → g_zfresh X D cI cL cZ a_Z a_Z_mono a_Z_degree a_Z_hand a_Z_generator a_Z_has a_Z_row a_Z_work a_Z_basis a_Z_rest a_Z_product a_Z_known a_Z_lead a_Z_tail a_Z_word a_Z_vector a_Z_system a_Z_now a_Z_next A Z_thrownCode Z_upTo Z_members Z_lefts Z_vars Z_leadsFound Z_words Z_generators_r Z_monomials_r Z_n_r Z_order_r Z_p_r Z_mono_r Z_degree_r Z_hand_r 37 [(0, .ref a_Z), (4, .int i4), (5, .int i5)] [] Z_generators Z_monomials Z_n Z_order Z_p Z_mono Z_degree Z_hand) (k47 : Int32 → Int32 → Int32 → Int32 → Int32 → Int32 → Int32 → Int32 → (Nat → Int32) → (Nat → Int32) → (Nat → Int32) → Option (Int32 × Int32 × Int32 × Int32 × Int32 × (Nat → Int32) × (Nat → Int32) × (Nat → Int32))) (hk47 : ∀ (i4 i5 i6 Z_generators Z_monomials Z_n Z_order Z_p : Int32) (Z_mono Z_degree Z_hand : Nat → Int32), k47 i4 i5 i6 Z_generators Z_monomials Z_n Z_order Z_p Z_mono Z_degree Z_hand = some (Z_generators_r, Z_monomials_r, Z_n_r, Z_order_r, Z_p_r, Z_mono_r, Z_degree_r, Z_hand_r) → g_zfresh X D cI cL cZ a_Z a_Z_mono a_Z_degree a_Z_hand a_Z_generator a_Z_has a_Z_row a_Z_work a_Z_basis a_Z_rest a_Z_product a_Z_known a_Z_lead a_Z_tail a_Z_word a_Z_vector a_Z_system a_Z_now a_Z_next A Z_thrownCode Z_upTo Z_members Z_lefts Z_vars Z_leadsFound Z_words Z_generators_r Z_monomials_r Z_n_r Z_order_r Z_p_r Z_mono_r Z_degree_r Z_hand_r 47 [(0, .ref a_Z), (4, .int i4), (5, .int i5), (6, .int i6)] [] Z_generators Z_monomials Z_n Z_order Z_p Z_mono Z_degree Z_hand) (i4 i5 i6 Z_generators Z_monomials Z_n Z_order Z_p : Int32) (Z_mono Z_degree Z_hand : Nat → Int32) (hrun : s_zfresh_47 F k37 k47 i4 i5 i6 Z_generators Z_monomials Z_n Z_order Z_p Z_mono Z_degree Z_hand = some (Z_generators_r, Z_monomials_r, Z_n_r, Z_order_r, Z_p_r, Z_mono_r, Z_degree_r, Z_hand_r)) : g_zfresh X D cI cL cZ a_Z a_Z_mono a_Z_degree a_Z_hand a_Z_generator a_Z_has a_Z_row a_Z_work a_Z_basis a_Z_rest a_Z_product a_Z_known a_Z_lead a_Z_tail a_Z_word a_Z_vector a_Z_system a_Z_now a_Z_next A Z_thrownCode Z_upTo Z_members Z_lefts Z_vars Z_leadsFound Z_words Z_generators_r Z_monomials_r Z_n_r Z_order_r Z_p_r Z_mono_r Z_degree_r Z_hand_r 47 [(0, .ref a_Z), (4, .int i4), (5, .int i5), (6, .int i6)] [] Z_generators Z_monomials Z_n Z_order Z_p Z_mono Z_degree Z_hand := by
  have C1 := C0
  obtain ⟨hx, hb, hr, hml, hown, hts, hlocks⟩ := C1
  unfold s_zfresh_47 at hrun
  intro H locs ls hP hD hS hl
  refine lv_iload hx hb d_Z_fresh_47 (lv_at hl 3 rfl) ?_
  refine lv_aload_n hx hb d_Z_fresh_49 rfl (lv_at hl 0 rfl) ?_
  refine va_get (D := D) (ci := 5) (v := .int Z_n) (C := "RemnantDictionaryModel") (T := T_Z) (N := 30) hx hb hts iw_Z hown hK hP 0 rfl rfl 2 (by decide) (hts _ k_384) (fun _ h9 => h9) rfl d_Z_fresh_50 ?_
  refine lv_iconst (v := 1) hx hb d_Z_fresh_53 (by decide) ?_
  refine g_icmp_le (tgt := 62) hx hb d_Z_fresh_54 (by decide) hrun (fun _ hrun => ?_) (fun _ hrun => ?_)
  · refine lv_iconst (v := 0) hx hb d_Z_fresh_62 (by decide) ?_
    exact w_zfresh_63 X D cI cL cZ a_Z a_Z_mono a_Z_degree a_Z_hand a_Z_generator a_Z_has a_Z_row a_Z_work a_Z_basis a_Z_rest a_Z_product a_Z_known a_Z_lead a_Z_tail a_Z_word a_Z_vector a_Z_system a_Z_now a_Z_next A Z_thrownCode Z_upTo Z_members Z_lefts Z_vars Z_leadsFound Z_words Z_generators_r Z_monomials_r Z_n_r Z_order_r Z_p_r Z_mono_r Z_degree_r Z_hand_r F C0 hK hA hN k37 hk37 k47 hk47 i4 i5 i6 i6 0 Z_generators Z_monomials Z_n Z_order Z_p Z_mono Z_degree Z_hand hrun H locs ls hP hD hS (lv_sub hl [0, 1, 2, 3] rfl)
  · refine lv_iload hx hb d_Z_fresh_57 (lv_at hl 1 rfl) ?_
    refine lv_goto (tgt := 63) hx hb d_Z_fresh_59 (by decide) ?_
    exact w_zfresh_63 X D cI cL cZ a_Z a_Z_mono a_Z_degree a_Z_hand a_Z_generator a_Z_has a_Z_row a_Z_work a_Z_basis a_Z_rest a_Z_product a_Z_known a_Z_lead a_Z_tail a_Z_word a_Z_vector a_Z_system a_Z_now a_Z_next A Z_thrownCode Z_upTo Z_members Z_lefts Z_vars Z_leadsFound Z_words Z_generators_r Z_monomials_r Z_n_r Z_order_r Z_p_r Z_mono_r Z_degree_r Z_hand_r F C0 hK hA hN k37 hk37 k47 hk47 i4 i5 i6 i6 i4 Z_generators Z_monomials Z_n Z_order Z_p Z_mono Z_degree Z_hand hrun H locs ls hP hD hS (lv_sub hl [0, 1, 2, 3] rfl)
theorem v_zfresh_47 (X : gX) (D : va_G) (cI cL cZ : ClassId) (a_Z a_Z_mono a_Z_degree a_Z_hand a_Z_generator a_Z_has a_Z_row a_Z_work a_Z_basis a_Z_rest a_Z_product a_Z_known a_Z_lead a_Z_tail a_Z_word a_Z_vector a_Z_system a_Z_now a_Z_next : Nat) (A : Nat → Prop) (Z_thrownCode Z_upTo Z_members Z_lefts Z_vars Z_leadsFound Z_words Z_generators_r Z_monomials_r Z_n_r Z_order_r Z_p_r : Int32) (Z_mono_r Z_degree_r Z_hand_r : Nat → Int32) (F : Nat) (C0 : gC X c_Z_freshb none 9 "RemnantDictionaryModel" gAll) (hK : va_K D classes (gT cI cL cZ) (gs X)) (hA : ∀ q : Nat, (gs X).heap.size ≤ q → A q) (hN : gN (gs X)) (k37 : Int32 → Int32 → Int32 → Int32 → Int32 → Int32 → Int32 → (Nat → Int32) → (Nat → Int32) → (Nat → Int32) → Option (Int32 × Int32 × Int32 × Int32 × Int32 × (Nat → Int32) × (Nat → Int32) × (Nat → Int32))) (hk37 : ∀ (i4 i5 Z_generators Z_monomials Z_n Z_order Z_p : Int32) (Z_mono Z_degree Z_hand : Nat → Int32), k37 i4 i5 Z_generators Z_monomials Z_n Z_order Z_p Z_mono Z_degree Z_hand = some (Z_generators_r, Z_monomials_r, Z_n_r, Z_order_r, Z_p_r, Z_mono_r, Z_degree_r, Z_hand_r) → g_zfresh X D cI cL cZ a_Z a_Z_mono a_Z_degree a_Z_hand a_Z_generator a_Z_has a_Z_row a_Z_work a_Z_basis a_Z_rest a_Z_product a_Z_known a_Z_lead a_Z_tail a_Z_word a_Z_vector a_Z_system a_Z_now a_Z_next A Z_thrownCode Z_upTo Z_members Z_lefts Z_vars Z_leadsFound Z_words Z_generators_r Z_monomials_r Z_n_r Z_order_r Z_p_r Z_mono_r Z_degree_r Z_hand_r 37 [(0, .ref a_Z), (4, .int i4), (5, .int i5)] [] Z_generators Z_monomials Z_n Z_order Z_p Z_mono Z_degree Z_hand) : ∀ (n : Nat) (i4 i5 i6 Z_generators Z_monomials Z_n Z_order Z_p : Int32) (Z_mono Z_degree Z_hand : Nat → Int32), b_zfresh_47 F k37 n i4 i5 i6 Z_generators Z_monomials Z_n Z_order Z_p Z_mono Z_degree Z_hand = some (Z_generators_r, Z_monomials_r, Z_n_r, Z_order_r, Z_p_r, Z_mono_r, Z_degree_r, Z_hand_r) → g_zfresh X D cI cL cZ a_Z a_Z_mono a_Z_degree a_Z_hand a_Z_generator a_Z_has a_Z_row a_Z_work a_Z_basis a_Z_rest a_Z_product a_Z_known a_Z_lead a_Z_tail a_Z_word a_Z_vector a_Z_system a_Z_now a_Z_next A Z_thrownCode Z_upTo Z_members Z_lefts Z_vars Z_leadsFound Z_words Z_generators_r Z_monomials_r Z_n_r Z_order_r Z_p_r Z_mono_r Z_degree_r Z_hand_r 47 [(0, .ref a_Z), (4, .int i4), (5, .int i5), (6, .int i6)] [] Z_generators Z_monomials Z_n Z_order Z_p Z_mono Z_degree Z_hand := by
  intro n
  induction n with
  | zero => intro i4 i5 i6 Z_generators Z_monomials Z_n Z_order Z_p Z_mono Z_degree Z_hand hrun; cases hrun
  | succ n ih =>
    intro i4 i5 i6 Z_generators Z_monomials Z_n Z_order Z_p Z_mono Z_degree Z_hand hrun
    exact w_zfresh_47 X D cI cL cZ a_Z a_Z_mono a_Z_degree a_Z_hand a_Z_generator a_Z_has a_Z_row a_Z_work a_Z_basis a_Z_rest a_Z_product a_Z_known a_Z_lead a_Z_tail a_Z_word a_Z_vector a_Z_system a_Z_now a_Z_next A Z_thrownCode Z_upTo Z_members Z_lefts Z_vars Z_leadsFound Z_words Z_generators_r Z_monomials_r Z_n_r Z_order_r Z_p_r Z_mono_r Z_degree_r Z_hand_r F C0 hK hA hN k37 hk37 (b_zfresh_47 F k37 n) ih i4 i5 i6 Z_generators Z_monomials Z_n Z_order Z_p Z_mono Z_degree Z_hand hrun
set_option maxHeartbeats 4000000 in
set_option maxRecDepth 100000 in
theorem w_zfresh_37 (X : gX) (D : va_G) (cI cL cZ : ClassId) (a_Z a_Z_mono a_Z_degree a_Z_hand a_Z_generator a_Z_has a_Z_row a_Z_work a_Z_basis a_Z_rest a_Z_product a_Z_known a_Z_lead a_Z_tail a_Z_word a_Z_vector a_Z_system a_Z_now a_Z_next : Nat) (A : Nat → Prop) (Z_thrownCode Z_upTo Z_members Z_lefts Z_vars Z_leadsFound Z_words Z_generators_r Z_monomials_r Z_n_r Z_order_r Z_p_r : Int32) (Z_mono_r Z_degree_r Z_hand_r : Nat → Int32) (F : Nat) (C0 : gC X c_Z_freshb none 9 "RemnantDictionaryModel" gAll) (hK : va_K D classes (gT cI cL cZ) (gs X)) (hA : ∀ q : Nat, (gs X).heap.size ≤ q → A q) (hN : gN (gs X)) (k37 : Int32 → Int32 → Int32 → Int32 → Int32 → Int32 → Int32 → (Nat → Int32) → (Nat → Int32) → (Nat → Int32) → Option (Int32 × Int32 × Int32 × Int32 × Int32 × (Nat → Int32) × (Nat → Int32) × (Nat → Int32))) (hk37 : ∀ (i4 i5 Z_generators Z_monomials Z_n Z_order Z_p : Int32) (Z_mono Z_degree Z_hand : Nat → Int32), k37 i4 i5 Z_generators Z_monomials Z_n Z_order Z_p Z_mono Z_degree Z_hand = some (Z_generators_r, Z_monomials_r, Z_n_r, Z_order_r, Z_p_r, Z_mono_r, Z_degree_r, Z_hand_r) → g_zfresh X D cI cL cZ a_Z a_Z_mono a_Z_degree a_Z_hand a_Z_generator a_Z_has a_Z_row a_Z_work a_Z_basis a_Z_rest a_Z_product a_Z_known a_Z_lead a_Z_tail a_Z_word a_Z_vector a_Z_system a_Z_now a_Z_next A Z_thrownCode Z_upTo Z_members Z_lefts Z_vars Z_leadsFound Z_words Z_generators_r Z_monomials_r Z_n_r Z_order_r Z_p_r Z_mono_r Z_degree_r Z_hand_r 37 [(0, .ref a_Z), (4, .int i4), (5, .int i5)] [] Z_generators Z_monomials Z_n Z_order Z_p Z_mono Z_degree Z_hand) (i4 i5 Z_generators Z_monomials Z_n Z_order Z_p : Int32) (Z_mono Z_degree Z_hand : Nat → Int32) (hrun : s_zfresh_37 F k37 i4 i5 Z_generators Z_monomials Z_n Z_order Z_p Z_mono Z_degree Z_hand = some (Z_generators_r, Z_monomials_r, Z_n_r, Z_order_r, Z_p_r, Z_mono_r, Z_degree_r, Z_hand_r)) : g_zfresh X D cI cL cZ a_Z a_Z_mono a_Z_degree a_Z_hand a_Z_generator a_Z_has a_Z_row a_Z_work a_Z_basis a_Z_rest a_Z_product a_Z_known a_Z_lead a_Z_tail a_Z_word a_Z_vector a_Z_system a_Z_now a_Z_next A Z_thrownCode Z_upTo Z_members Z_lefts Z_vars Z_leadsFound Z_words Z_generators_r Z_monomials_r Z_n_r Z_order_r Z_p_r Z_mono_r Z_degree_r Z_hand_r 37 [(0, .ref a_Z), (4, .int i4), (5, .int i5)] [] Z_generators Z_monomials Z_n Z_order Z_p Z_mono Z_degree Z_hand := by
  have C1 := C0
  obtain ⟨hx, hb, hr, hml, hown, hts, hlocks⟩ := C1
  unfold s_zfresh_37 at hrun
  intro H locs ls hP hD hS hl
  refine lv_iload hx hb d_Z_fresh_37 (lv_at hl 2 rfl) ?_
  refine lv_iload hx hb d_Z_fresh_39 (lv_at hl 1 rfl) ?_
  refine g_icmp_gt (tgt := 174) hx hb d_Z_fresh_41 (by decide) hrun (fun _ hrun => ?_) (fun _ hrun => ?_)
  · refine lv_iconst (v := 0) hx hb d_Z_fresh_174 (by decide) ?_
    refine lv_istore (lv' := [(5, .int 0), (0, .ref a_Z), (4, .int i4)]) hx hb d_Z_fresh_175 hl (by decide) rfl (fun ls hl => ?_)
    exact v_zfresh_177 X D cI cL cZ a_Z a_Z_mono a_Z_degree a_Z_hand a_Z_generator a_Z_has a_Z_row a_Z_work a_Z_basis a_Z_rest a_Z_product a_Z_known a_Z_lead a_Z_tail a_Z_word a_Z_vector a_Z_system a_Z_now a_Z_next A Z_thrownCode Z_upTo Z_members Z_lefts Z_vars Z_leadsFound Z_words Z_generators_r Z_monomials_r Z_n_r Z_order_r Z_p_r Z_mono_r Z_degree_r Z_hand_r F C0 hK hA hN  F 0 Z_generators Z_monomials Z_n Z_order Z_p Z_mono Z_degree Z_hand hrun H locs ls hP hD hS (lv_sub hl [1, 0] rfl)
  · refine lv_iconst (v := 0) hx hb d_Z_fresh_44 (by decide) ?_
    refine lv_istore (lv' := [(6, .int 0), (0, .ref a_Z), (4, .int i4), (5, .int i5)]) hx hb d_Z_fresh_45 hl (by decide) rfl (fun ls hl => ?_)
    exact v_zfresh_47 X D cI cL cZ a_Z a_Z_mono a_Z_degree a_Z_hand a_Z_generator a_Z_has a_Z_row a_Z_work a_Z_basis a_Z_rest a_Z_product a_Z_known a_Z_lead a_Z_tail a_Z_word a_Z_vector a_Z_system a_Z_now a_Z_next A Z_thrownCode Z_upTo Z_members Z_lefts Z_vars Z_leadsFound Z_words Z_generators_r Z_monomials_r Z_n_r Z_order_r Z_p_r Z_mono_r Z_degree_r Z_hand_r F C0 hK hA hN k37 hk37 F i4 i5 0 Z_generators Z_monomials Z_n Z_order Z_p Z_mono Z_degree Z_hand hrun H locs ls hP hD hS (lv_sub hl [1, 2, 3, 0] rfl)
theorem v_zfresh_37 (X : gX) (D : va_G) (cI cL cZ : ClassId) (a_Z a_Z_mono a_Z_degree a_Z_hand a_Z_generator a_Z_has a_Z_row a_Z_work a_Z_basis a_Z_rest a_Z_product a_Z_known a_Z_lead a_Z_tail a_Z_word a_Z_vector a_Z_system a_Z_now a_Z_next : Nat) (A : Nat → Prop) (Z_thrownCode Z_upTo Z_members Z_lefts Z_vars Z_leadsFound Z_words Z_generators_r Z_monomials_r Z_n_r Z_order_r Z_p_r : Int32) (Z_mono_r Z_degree_r Z_hand_r : Nat → Int32) (F : Nat) (C0 : gC X c_Z_freshb none 9 "RemnantDictionaryModel" gAll) (hK : va_K D classes (gT cI cL cZ) (gs X)) (hA : ∀ q : Nat, (gs X).heap.size ≤ q → A q) (hN : gN (gs X))  : ∀ (n : Nat) (i4 i5 Z_generators Z_monomials Z_n Z_order Z_p : Int32) (Z_mono Z_degree Z_hand : Nat → Int32), b_zfresh_37 F n i4 i5 Z_generators Z_monomials Z_n Z_order Z_p Z_mono Z_degree Z_hand = some (Z_generators_r, Z_monomials_r, Z_n_r, Z_order_r, Z_p_r, Z_mono_r, Z_degree_r, Z_hand_r) → g_zfresh X D cI cL cZ a_Z a_Z_mono a_Z_degree a_Z_hand a_Z_generator a_Z_has a_Z_row a_Z_work a_Z_basis a_Z_rest a_Z_product a_Z_known a_Z_lead a_Z_tail a_Z_word a_Z_vector a_Z_system a_Z_now a_Z_next A Z_thrownCode Z_upTo Z_members Z_lefts Z_vars Z_leadsFound Z_words Z_generators_r Z_monomials_r Z_n_r Z_order_r Z_p_r Z_mono_r Z_degree_r Z_hand_r 37 [(0, .ref a_Z), (4, .int i4), (5, .int i5)] [] Z_generators Z_monomials Z_n Z_order Z_p Z_mono Z_degree Z_hand := by
  intro n
  induction n with
  | zero => intro i4 i5 Z_generators Z_monomials Z_n Z_order Z_p Z_mono Z_degree Z_hand hrun; cases hrun
  | succ n ih =>
    intro i4 i5 Z_generators Z_monomials Z_n Z_order Z_p Z_mono Z_degree Z_hand hrun
    exact w_zfresh_37 X D cI cL cZ a_Z a_Z_mono a_Z_degree a_Z_hand a_Z_generator a_Z_has a_Z_row a_Z_work a_Z_basis a_Z_rest a_Z_product a_Z_known a_Z_lead a_Z_tail a_Z_word a_Z_vector a_Z_system a_Z_now a_Z_next A Z_thrownCode Z_upTo Z_members Z_lefts Z_vars Z_leadsFound Z_words Z_generators_r Z_monomials_r Z_n_r Z_order_r Z_p_r Z_mono_r Z_degree_r Z_hand_r F C0 hK hA hN (b_zfresh_37 F n) ih i4 i5 Z_generators Z_monomials Z_n Z_order Z_p Z_mono Z_degree Z_hand hrun
set_option maxHeartbeats 4000000 in
set_option maxRecDepth 100000 in
theorem e_zfresh (X : gX) (D : va_G) (cI cL cZ : ClassId) (a_Z a_Z_mono a_Z_degree a_Z_hand a_Z_generator a_Z_has a_Z_row a_Z_work a_Z_basis a_Z_rest a_Z_product a_Z_known a_Z_lead a_Z_tail a_Z_word a_Z_vector a_Z_system a_Z_now a_Z_next : Nat) (A : Nat → Prop) (Z_thrownCode Z_upTo Z_members Z_lefts Z_vars Z_leadsFound Z_words Z_generators_r Z_monomials_r Z_n_r Z_order_r Z_p_r : Int32) (Z_mono_r Z_degree_r Z_hand_r : Nat → Int32) (F : Nat) (C0 : gC X c_Z_freshb none 9 "RemnantDictionaryModel" gAll) (hK : va_K D classes (gT cI cL cZ) (gs X)) (hA : ∀ q : Nat, (gs X).heap.size ≤ q → A q) (hN : gN (gs X)) (i1 i2 i3 Z_generators Z_monomials Z_n Z_order Z_p : Int32) (Z_mono Z_degree Z_hand : Nat → Int32) (hrun : m_zfresh F i1 i2 i3 Z_generators Z_monomials Z_n Z_order Z_p Z_mono Z_degree Z_hand = some (Z_generators_r, Z_monomials_r, Z_n_r, Z_order_r, Z_p_r, Z_mono_r, Z_degree_r, Z_hand_r)) : g_zfresh X D cI cL cZ a_Z a_Z_mono a_Z_degree a_Z_hand a_Z_generator a_Z_has a_Z_row a_Z_work a_Z_basis a_Z_rest a_Z_product a_Z_known a_Z_lead a_Z_tail a_Z_word a_Z_vector a_Z_system a_Z_now a_Z_next A Z_thrownCode Z_upTo Z_members Z_lefts Z_vars Z_leadsFound Z_words Z_generators_r Z_monomials_r Z_n_r Z_order_r Z_p_r Z_mono_r Z_degree_r Z_hand_r 0 [(0, .ref a_Z), (1, .int i1), (2, .int i2), (3, .int i3)] [] Z_generators Z_monomials Z_n Z_order Z_p Z_mono Z_degree Z_hand := by
  have C1 := C0
  obtain ⟨hx, hb, hr, hml, hown, hts, hlocks⟩ := C1
  unfold m_zfresh at hrun
  intro H locs ls hP hD hS hl
  refine lv_aload_n hx hb d_Z_fresh_0 rfl (lv_at hl 0 rfl) ?_
  refine lv_iload_n hx hb d_Z_fresh_1 rfl (lv_at hl 1 rfl) ?_
  refine va_put (D := D) (ci := 5) (v := .int i1) (ty := .int) (C := "RemnantDictionaryModel") (T := T_Z) (N := 30) hx hb hts iw_Z ty_Z ty_Z_ok nm_Z hown hK hP hD hS 0 rfl rfl 1 (by decide) (hts _ k_385) (fun _ h9 => h9) rfl (by decide +kernel) rfl rfl (Nat.le_of_ble_eq_true rfl) d_Z_fresh_2 (fun H locs (hP : va_P D classes (ws_zfresh a_Z a_Z_mono a_Z_degree a_Z_hand a_Z_generator a_Z_has a_Z_row a_Z_work a_Z_basis a_Z_rest a_Z_product a_Z_known a_Z_lead a_Z_tail a_Z_word a_Z_vector a_Z_system a_Z_now a_Z_next cI cL cZ Z_thrownCode i1 Z_n Z_order Z_monomials Z_generators Z_upTo Z_members Z_lefts Z_vars Z_leadsFound Z_words Z_mono Z_degree Z_hand) H) (hD : va_D A (ws_zfresh a_Z a_Z_mono a_Z_degree a_Z_hand a_Z_generator a_Z_has a_Z_row a_Z_work a_Z_basis a_Z_rest a_Z_product a_Z_known a_Z_lead a_Z_tail a_Z_word a_Z_vector a_Z_system a_Z_now a_Z_next cI cL cZ Z_thrownCode i1 Z_n Z_order Z_monomials Z_generators Z_upTo Z_members Z_lefts Z_vars Z_leadsFound Z_words Z_mono Z_degree Z_hand)) hS => ?_)
  refine lv_aload_n hx hb d_Z_fresh_5 rfl (lv_at hl 0 rfl) ?_
  refine lv_iload_n hx hb d_Z_fresh_6 rfl (lv_at hl 2 rfl) ?_
  refine va_put (D := D) (ci := 5) (v := .int i2) (ty := .int) (C := "RemnantDictionaryModel") (T := T_Z) (N := 30) hx hb hts iw_Z ty_Z ty_Z_ok nm_Z hown hK hP hD hS 0 rfl rfl 2 (by decide) (hts _ k_384) (fun _ h9 => h9) rfl (by decide +kernel) rfl rfl (Nat.le_of_ble_eq_true rfl) d_Z_fresh_7 (fun H locs (hP : va_P D classes (ws_zfresh a_Z a_Z_mono a_Z_degree a_Z_hand a_Z_generator a_Z_has a_Z_row a_Z_work a_Z_basis a_Z_rest a_Z_product a_Z_known a_Z_lead a_Z_tail a_Z_word a_Z_vector a_Z_system a_Z_now a_Z_next cI cL cZ Z_thrownCode i1 i2 Z_order Z_monomials Z_generators Z_upTo Z_members Z_lefts Z_vars Z_leadsFound Z_words Z_mono Z_degree Z_hand) H) (hD : va_D A (ws_zfresh a_Z a_Z_mono a_Z_degree a_Z_hand a_Z_generator a_Z_has a_Z_row a_Z_work a_Z_basis a_Z_rest a_Z_product a_Z_known a_Z_lead a_Z_tail a_Z_word a_Z_vector a_Z_system a_Z_now a_Z_next cI cL cZ Z_thrownCode i1 i2 Z_order Z_monomials Z_generators Z_upTo Z_members Z_lefts Z_vars Z_leadsFound Z_words Z_mono Z_degree Z_hand)) hS => ?_)
  refine lv_aload_n hx hb d_Z_fresh_10 rfl (lv_at hl 0 rfl) ?_
  refine lv_iload_n hx hb d_Z_fresh_11 rfl (lv_at hl 3 rfl) ?_
  refine va_put (D := D) (ci := 5) (v := .int i3) (ty := .int) (C := "RemnantDictionaryModel") (T := T_Z) (N := 30) hx hb hts iw_Z ty_Z ty_Z_ok nm_Z hown hK hP hD hS 0 rfl rfl 3 (by decide) (hts _ k_368) (fun _ h9 => h9) rfl (by decide +kernel) rfl rfl (Nat.le_of_ble_eq_true rfl) d_Z_fresh_12 (fun H locs (hP : va_P D classes (ws_zfresh a_Z a_Z_mono a_Z_degree a_Z_hand a_Z_generator a_Z_has a_Z_row a_Z_work a_Z_basis a_Z_rest a_Z_product a_Z_known a_Z_lead a_Z_tail a_Z_word a_Z_vector a_Z_system a_Z_now a_Z_next cI cL cZ Z_thrownCode i1 i2 i3 Z_monomials Z_generators Z_upTo Z_members Z_lefts Z_vars Z_leadsFound Z_words Z_mono Z_degree Z_hand) H) (hD : va_D A (ws_zfresh a_Z a_Z_mono a_Z_degree a_Z_hand a_Z_generator a_Z_has a_Z_row a_Z_work a_Z_basis a_Z_rest a_Z_product a_Z_known a_Z_lead a_Z_tail a_Z_word a_Z_vector a_Z_system a_Z_now a_Z_next cI cL cZ Z_thrownCode i1 i2 i3 Z_monomials Z_generators Z_upTo Z_members Z_lefts Z_vars Z_leadsFound Z_words Z_mono Z_degree Z_hand)) hS => ?_)
  refine lv_aload_n hx hb d_Z_fresh_15 rfl (lv_at hl 0 rfl) ?_
  refine lv_iconst (v := 0) hx hb d_Z_fresh_16 (by decide) ?_
  refine va_put (D := D) (ci := 5) (v := .int 0) (ty := .int) (C := "RemnantDictionaryModel") (T := T_Z) (N := 30) hx hb hts iw_Z ty_Z ty_Z_ok nm_Z hown hK hP hD hS 0 rfl rfl 7 (by decide) (hts _ k_386) (fun _ h9 => h9) rfl (by decide +kernel) rfl rfl (Nat.le_of_ble_eq_true rfl) d_Z_fresh_17 (fun H locs (hP : va_P D classes (ws_zfresh a_Z a_Z_mono a_Z_degree a_Z_hand a_Z_generator a_Z_has a_Z_row a_Z_work a_Z_basis a_Z_rest a_Z_product a_Z_known a_Z_lead a_Z_tail a_Z_word a_Z_vector a_Z_system a_Z_now a_Z_next cI cL cZ Z_thrownCode i1 i2 i3 Z_monomials 0 Z_upTo Z_members Z_lefts Z_vars Z_leadsFound Z_words Z_mono Z_degree Z_hand) H) (hD : va_D A (ws_zfresh a_Z a_Z_mono a_Z_degree a_Z_hand a_Z_generator a_Z_has a_Z_row a_Z_work a_Z_basis a_Z_rest a_Z_product a_Z_known a_Z_lead a_Z_tail a_Z_word a_Z_vector a_Z_system a_Z_now a_Z_next cI cL cZ Z_thrownCode i1 i2 i3 Z_monomials 0 Z_upTo Z_members Z_lefts Z_vars Z_leadsFound Z_words Z_mono Z_degree Z_hand)) hS => ?_)
  refine lv_aload_n hx hb d_Z_fresh_20 rfl (lv_at hl 0 rfl) ?_
  refine lv_iconst (v := 0) hx hb d_Z_fresh_21 (by decide) ?_
  refine va_put (D := D) (ci := 5) (v := .int 0) (ty := .int) (C := "RemnantDictionaryModel") (T := T_Z) (N := 30) hx hb hts iw_Z ty_Z ty_Z_ok nm_Z hown hK hP hD hS 0 rfl rfl 4 (by decide) (hts _ k_373) (fun _ h9 => h9) rfl (by decide +kernel) rfl rfl (Nat.le_of_ble_eq_true rfl) d_Z_fresh_22 (fun H locs (hP : va_P D classes (ws_zfresh a_Z a_Z_mono a_Z_degree a_Z_hand a_Z_generator a_Z_has a_Z_row a_Z_work a_Z_basis a_Z_rest a_Z_product a_Z_known a_Z_lead a_Z_tail a_Z_word a_Z_vector a_Z_system a_Z_now a_Z_next cI cL cZ Z_thrownCode i1 i2 i3 0 0 Z_upTo Z_members Z_lefts Z_vars Z_leadsFound Z_words Z_mono Z_degree Z_hand) H) (hD : va_D A (ws_zfresh a_Z a_Z_mono a_Z_degree a_Z_hand a_Z_generator a_Z_has a_Z_row a_Z_work a_Z_basis a_Z_rest a_Z_product a_Z_known a_Z_lead a_Z_tail a_Z_word a_Z_vector a_Z_system a_Z_now a_Z_next cI cL cZ Z_thrownCode i1 i2 i3 0 0 Z_upTo Z_members Z_lefts Z_vars Z_leadsFound Z_words Z_mono Z_degree Z_hand)) hS => ?_)
  refine lv_aload_n hx hb d_Z_fresh_25 rfl (lv_at hl 0 rfl) ?_
  refine va_get (D := D) (ci := 5) (v := .int i2) (C := "RemnantDictionaryModel") (T := T_Z) (N := 30) hx hb hts iw_Z hown hK hP 0 rfl rfl 2 (by decide) (hts _ k_384) (fun _ h9 => h9) rfl d_Z_fresh_26 ?_
  obtain ⟨r_1, hc, hrun⟩ := bd1_s hrun
  refine vp_callSi (W.runS (As := [.int i2]) (rest := []) ⟨hx, hb, hml, hown, hts⟩ (c_zhighest (gl X) F i2 r_1 hc) (va_cwS 1 hts (gwS k_388 k_387 k_333 k_330) rfl rfl rfl (by decide +kernel) ⟨Nat.le_of_ble_eq_true rfl, Nat.le_of_ble_eq_true rfl⟩) (gpreS0 hN) rfl rfl hl.1 rfl (lv_room (Nat.le_of_ble_eq_true rfl)) d_Z_fresh_29 ⟨Nat.le_of_ble_eq_true rfl, Nat.le_of_ble_eq_true rfl⟩) (nm_e ?_)
  refine lv_istore (lv' := [(4, .int r_1), (0, .ref a_Z), (1, .int i1), (2, .int i2), (3, .int i3)]) hx hb d_Z_fresh_32 hl (by decide) rfl (fun ls hl => ?_)
  refine lv_iconst (v := 0) hx hb d_Z_fresh_34 (by decide) ?_
  refine lv_istore (lv' := [(5, .int 0), (4, .int r_1), (0, .ref a_Z), (1, .int i1), (2, .int i2), (3, .int i3)]) hx hb d_Z_fresh_35 hl (by decide) rfl (fun ls hl => ?_)
  exact v_zfresh_37 X D cI cL cZ a_Z a_Z_mono a_Z_degree a_Z_hand a_Z_generator a_Z_has a_Z_row a_Z_work a_Z_basis a_Z_rest a_Z_product a_Z_known a_Z_lead a_Z_tail a_Z_word a_Z_vector a_Z_system a_Z_now a_Z_next A Z_thrownCode Z_upTo Z_members Z_lefts Z_vars Z_leadsFound Z_words Z_generators_r Z_monomials_r Z_n_r Z_order_r Z_p_r Z_mono_r Z_degree_r Z_hand_r F C0 hK hA hN  F r_1 0 0 0 i2 i3 i1 Z_mono Z_degree Z_hand hrun H locs ls hP hD hS (lv_sub hl [2, 1, 0] rfl)
set_option maxHeartbeats 4000000 in
set_option maxRecDepth 100000 in
theorem c_zfresh (l : Launch) (D : va_G) (cI cL cZ : ClassId) (a_Z a_Z_mono a_Z_degree a_Z_hand a_Z_generator a_Z_has a_Z_row a_Z_work a_Z_basis a_Z_rest a_Z_product a_Z_known a_Z_lead a_Z_tail a_Z_word a_Z_vector a_Z_system a_Z_now a_Z_next : Nat) (F : Nat) (Z_thrownCode Z_p Z_n Z_order Z_monomials Z_generators Z_upTo Z_members Z_lefts Z_vars Z_leadsFound Z_words : Int32) (Z_mono Z_degree Z_hand : Nat → Int32) (i1 i2 i3 : Int32) (sz : Nat) (Z_generators_r Z_monomials_r Z_n_r Z_order_r Z_p_r : Int32) (Z_mono_r Z_degree_r Z_hand_r : Nat → Int32) (hrun : m_zfresh F i1 i2 i3 Z_generators Z_monomials Z_n Z_order Z_p Z_mono Z_degree Z_hand = some (Z_generators_r, Z_monomials_r, Z_n_r, Z_order_r, Z_p_r, Z_mono_r, Z_degree_r, Z_hand_r)) : Met l y_Z_fresh (.code y_Z_fresh c_Z_freshb 9 none :: gAll) rm_zfresh (va_Pc [.ref a_Z, .int i1, .int i2, .int i3] (gPW D (gT cI cL cZ) (ws_zfresh a_Z a_Z_mono a_Z_degree a_Z_hand a_Z_generator a_Z_has a_Z_row a_Z_work a_Z_basis a_Z_rest a_Z_product a_Z_known a_Z_lead a_Z_tail a_Z_word a_Z_vector a_Z_system a_Z_now a_Z_next cI cL cZ Z_thrownCode Z_p Z_n Z_order Z_monomials Z_generators Z_upTo Z_members Z_lefts Z_vars Z_leadsFound Z_words Z_mono Z_degree Z_hand) sz)) (va_Qv (fun _ : Unit => True) (gB D (gT cI cL cZ) (va_A (ws_zfresh a_Z a_Z_mono a_Z_degree a_Z_hand a_Z_generator a_Z_has a_Z_row a_Z_work a_Z_basis a_Z_rest a_Z_product a_Z_known a_Z_lead a_Z_tail a_Z_word a_Z_vector a_Z_system a_Z_now a_Z_next cI cL cZ Z_thrownCode Z_p Z_n Z_order Z_monomials Z_generators Z_upTo Z_members Z_lefts Z_vars Z_leadsFound Z_words Z_mono Z_degree Z_hand) sz) (ws_zfresh a_Z a_Z_mono a_Z_degree a_Z_hand a_Z_generator a_Z_has a_Z_row a_Z_work a_Z_basis a_Z_rest a_Z_product a_Z_known a_Z_lead a_Z_tail a_Z_word a_Z_vector a_Z_system a_Z_now a_Z_next cI cL cZ Z_thrownCode Z_p_r Z_n_r Z_order_r Z_monomials_r Z_generators_r Z_upTo Z_members Z_lefts Z_vars Z_leadsFound Z_words Z_mono_r Z_degree_r Z_hand_r)) (va_A (ws_zfresh a_Z a_Z_mono a_Z_degree a_Z_hand a_Z_generator a_Z_has a_Z_row a_Z_work a_Z_basis a_Z_rest a_Z_product a_Z_known a_Z_lead a_Z_tail a_Z_word a_Z_vector a_Z_system a_Z_now a_Z_next cI cL cZ Z_thrownCode Z_p Z_n Z_order Z_monomials Z_generators Z_upTo Z_members Z_lefts Z_vars Z_leadsFound Z_words Z_mono Z_degree Z_hand) sz)) 0 0 (va_A (ws_zfresh a_Z a_Z_mono a_Z_degree a_Z_hand a_Z_generator a_Z_has a_Z_row a_Z_work a_Z_basis a_Z_rest a_Z_product a_Z_known a_Z_lead a_Z_tail a_Z_word a_Z_vector a_Z_system a_Z_now a_Z_next cI cL cZ Z_thrownCode Z_p Z_n Z_order Z_monomials Z_generators Z_upTo Z_members Z_lefts Z_vars Z_leadsFound Z_words Z_mono Z_degree Z_hand) sz) := by
  refine Met.ofW (cc := c_Z_freshb) (maxL := 9) (ret := none) (by decide +kernel) rfl ?_
  intro p e s m args below meth c s₁ B hml hv
  obtain ⟨rfl, hsz, hP, hK, hN, hD0⟩ := hv
  subst hsz
  have hD := hD0.self (sz := s.heap.size)
  have hl := lv_entry ([.ref a_Z, .int i1, .int i2, .int i3]) (n := 9) (Nat.le_of_ble_eq_true rfl)
  rw [lg_entry_eq]
  generalize (lg_sl ([.ref a_Z, .int i1, .int i2, .int i3]) ++ List.replicate (9 - (lg_sl ([.ref a_Z, .int i1, .int i2, .int i3])).length) Slot.unset).toArray = ls at hl ⊢
  exact e_zfresh (p, l, e, s, m, ([.ref a_Z, .int i1, .int i2, .int i3] : List Value).toArray, below, meth, c) D cI cL cZ a_Z a_Z_mono a_Z_degree a_Z_hand a_Z_generator a_Z_has a_Z_row a_Z_work a_Z_basis a_Z_rest a_Z_product a_Z_known a_Z_lead a_Z_tail a_Z_word a_Z_vector a_Z_system a_Z_now a_Z_next (va_A (ws_zfresh a_Z a_Z_mono a_Z_degree a_Z_hand a_Z_generator a_Z_has a_Z_row a_Z_work a_Z_basis a_Z_rest a_Z_product a_Z_known a_Z_lead a_Z_tail a_Z_word a_Z_vector a_Z_system a_Z_now a_Z_next cI cL cZ Z_thrownCode Z_p Z_n Z_order Z_monomials Z_generators Z_upTo Z_members Z_lefts Z_vars Z_leadsFound Z_words Z_mono Z_degree Z_hand) s.heap.size) Z_thrownCode Z_upTo Z_members Z_lefts Z_vars Z_leadsFound Z_words Z_generators_r Z_monomials_r Z_n_r Z_order_r Z_p_r Z_mono_r Z_degree_r Z_hand_r F ⟨B.exec, B.bytes, B.returns, hml, findClass_of_methodNamed B.named, fun w h => atoms_spec (ws := (.code y_Z_fresh c_Z_freshb 9 none :: gAll)) B.pre w (List.mem_cons_of_mem _ h), B.notSynchronized⟩ hK (fun q h => Or.inr h) hN i1 i2 i3 Z_generators Z_monomials Z_n Z_order Z_p Z_mono Z_degree Z_hand hrun s.heap [] ls hP hD va_S.rf hl
