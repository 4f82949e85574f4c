theorem d_Mo_init_0 : decode c_Mo_initb 0 = .ok (.aload_n 0, 1) := by decide +kernel
theorem d_Mo_init_1 : decode c_Mo_initb 1 = .ok (.invokespecial 3, 3) := by decide +kernel
theorem d_Mo_init_4 : decode c_Mo_initb 4 = .ok (.aload_n 0, 1) := by decide +kernel
theorem d_Mo_init_5 : decode c_Mo_initb 5 = .ok (.bipush 126, 2) := by decide +kernel
theorem d_Mo_init_7 : decode c_Mo_initb 7 = .ok (.newarray .int, 2) := by decide +kernel
theorem d_Mo_init_9 : decode c_Mo_initb 9 = .ok (.putfield 9, 3) := by decide +kernel
theorem d_Mo_init_12 : decode c_Mo_initb 12 = .ok (.aload_n 0, 1) := by decide +kernel
theorem d_Mo_init_13 : decode c_Mo_initb 13 = .ok (.bipush 126, 2) := by decide +kernel
theorem d_Mo_init_15 : decode c_Mo_initb 15 = .ok (.newarray .int, 2) := by decide +kernel
theorem d_Mo_init_17 : decode c_Mo_initb 17 = .ok (.putfield 15, 3) := by decide +kernel
theorem d_Mo_init_20 : decode c_Mo_initb 20 = .ok (.aload_n 0, 1) := by decide +kernel
theorem d_Mo_init_21 : decode c_Mo_initb 21 = .ok (.bipush 126, 2) := by decide +kernel
theorem d_Mo_init_23 : decode c_Mo_initb 23 = .ok (.newarray .long, 2) := by decide +kernel
theorem d_Mo_init_25 : decode c_Mo_initb 25 = .ok (.putfield 18, 3) := by decide +kernel
theorem d_Mo_init_28 : decode c_Mo_initb 28 = .ok (.aload_n 0, 1) := by decide +kernel
theorem d_Mo_init_29 : decode c_Mo_initb 29 = .ok (.sipush 504, 3) := by decide +kernel
theorem d_Mo_init_32 : decode c_Mo_initb 32 = .ok (.newarray .int, 2) := by decide +kernel
theorem d_Mo_init_34 : decode c_Mo_initb 34 = .ok (.putfield 22, 3) := by decide +kernel
theorem d_Mo_init_37 : decode c_Mo_initb 37 = .ok (.return_, 1) := by decide +kernel
abbrev rm_iMo : Room := { frames := 1, cells := 4, slots := 882, locals := 12 }
set_option maxHeartbeats 4000000 in
set_option maxRecDepth 100000 in
theorem c_iMo (l : Launch) (D : va_G) (cI cL cZ : ClassId) (a_Mo : Nat) (sz : Nat) : Met l y_Mo_init (.code y_Mo_init c_Mo_initb 1 none :: gAll3) rm_iMo (va_Pc [.ref a_Mo] (gPW D (gT cI cL cZ) [(a_Mo, .inr (1, [.int 0, .int 0, .int 0, .int 0, .null, .null, .null, .null]))] sz)) (va_Qv (fun _ : Unit => True) (fun (_ : Unit) t => ∃ q7 q15 q23 q32 : Nat, gB D (gT cI cL cZ) (va_A [(a_Mo, .inr (1, [.int 0, .int 0, .int 0, .int 0, .null, .null, .null, .null]))] sz) [(a_Mo, .inr (1, [.int 0, .int 0, .int 0, .int 0, .ref q7, .ref q15, .ref q23, .ref q32])), (q7, .inl (cI, 126, .inl (fun _ => 0))), (q15, .inl (cI, 126, .inl (fun _ => 0))), (q23, .inl (cL, 126, .inr (.inl (fun _ => 0)))), (q32, .inl (cI, 504, .inl (fun _ => 0)))] () t) (va_A [(a_Mo, .inr (1, [.int 0, .int 0, .int 0, .int 0, .null, .null, .null, .null]))] sz)) 4 882 (va_A [(a_Mo, .inr (1, [.int 0, .int 0, .int 0, .int 0, .null, .null, .null, .null]))] sz) := by
  refine Met.ofW (cc := c_Mo_initb) (maxL := 1) (ret := none) (by decide +kernel) rfl ?_
  intro p e s m args below meth c s₁ B hml hv
  obtain ⟨rfl, hsz, hP, hK, hN, hD0⟩ := hv
  subst hsz
  have hD := hD0.self (sz := s.heap.size)
  generalize hAe : va_A [(a_Mo, .inr (1, [.int 0, .int 0, .int 0, .int 0, .null, .null, .null, .null]))] s.heap.size = A at *
  have hA : ∀ q : Nat, s.heap.size ≤ q → A q := fun q h => by rw [← hAe]; exact Or.inr h
  have hS : va_S A s.heap s.heap [] := va_S.rf
  have hx := B.exec
  have hb := B.bytes
  have hr := B.returns
  have hts : ∀ w ∈ gAll3, w.before ([.ref a_Mo] : List Value).toArray s = true := fun w h => atoms_spec (ws := (.code y_Mo_init c_Mo_initb 1 none :: gAll3)) B.pre w (List.mem_cons_of_mem _ h)
  have hown : s.vm.findClass "RemnantDictionary$Monomials" = some m.cls := findClass_of_methodNamed B.named
  have hlocks := B.notSynchronized
  have hin : meth.name = "<init>" := (name_of_methodNamed B.named B.method).1
  have hl := lv_entry ([.ref a_Mo]) (n := 1) (Nat.le_of_ble_eq_true rfl)
  rw [lg_entry_eq]
  generalize (lg_sl ([.ref a_Mo]) ++ List.replicate (1 - (lg_sl ([.ref a_Mo])).length) Slot.unset).toArray = ls at hl ⊢
  have hl : lv_has ls 1 [(0, .ref a_Mo)] := hl
  refine lv_aload_n hx hb d_Mo_init_0 rfl (lv_at hl 0 rfl) ?_
  refine W.objInit hx hb hown (hts _ y_543) (hts _ y_544) (hts _ y_545) rfl (by rw [hml]; exact hl.1) rfl d_Mo_init_1 (Nat.le_of_ble_eq_true rfl) (Nat.le_of_ble_eq_true rfl) ?_
  refine W.eq (g2 := F0 m 4 ls []) rfl ?_
  refine lv_aload_n hx hb d_Mo_init_4 rfl (lv_at hl 0 rfl) ?_
  refine lv_bipush (v := 126) hx hb d_Mo_init_5 (by decide) ?_
  refine g_newa (atype := .int) (ty := .int) (a0 := (126, .inl (fun _ => 0))) hx hb (hts _ y_546) rfl hK hP hD hS hA (fun _ => rfl) (by decide) (by decide +kernel) (Nat.le_of_ble_eq_true rfl) (Nat.le_of_ble_eq_true rfl) (Nat.le_of_ble_eq_true rfl) d_Mo_init_7 0 rfl (fun _ h9 => h9) (fun q7 H hP hD hS => ?_)
  have hP : va_P D classes [(a_Mo, .inr (1, [.int 0, .int 0, .int 0, .int 0, .null, .null, .null, .null])), (q7, .inl (cI, 126, .inl (fun _ => 0)))] H := hP
  have hD : va_D A [(a_Mo, .inr (1, [.int 0, .int 0, .int 0, .int 0, .null, .null, .null, .null])), (q7, .inl (cI, 126, .inl (fun _ => 0)))] := hD
  refine va_putF (D := D) (ci := 1) (v := .ref q7) (ty := .array .int) (C := "RemnantDictionary$Monomials") (T := T_Mo) (N := 8) hx hb hts (gki3 iw_Mo) ty_Mo ty_Mo_ok nm_Mo hown hK hP hD hS 0 rfl rfl 4 (by decide) (hts _ (gk3 (gk k_40))) (fun _ h9 => h9) rfl hin rfl (by decide +kernel) rfl rfl (Nat.le_of_ble_eq_true rfl) d_Mo_init_9 (fun H locs hP hD hS => ?_)
  have hP : va_P D classes [(a_Mo, .inr (1, [.int 0, .int 0, .int 0, .int 0, .ref q7, .null, .null, .null])), (q7, .inl (cI, 126, .inl (fun _ => 0)))] H := hP
  have hD : va_D A [(a_Mo, .inr (1, [.int 0, .int 0, .int 0, .int 0, .ref q7, .null, .null, .null])), (q7, .inl (cI, 126, .inl (fun _ => 0)))] := hD
  refine lv_aload_n hx hb d_Mo_init_12 rfl (lv_at hl 0 rfl) ?_
  refine lv_bipush (v := 126) hx hb d_Mo_init_13 (by decide) ?_
  refine g_newa (atype := .int) (ty := .int) (a0 := (126, .inl (fun _ => 0))) hx hb (hts _ y_546) rfl hK hP hD hS hA (fun _ => rfl) (by decide) (by decide +kernel) (Nat.le_of_ble_eq_true rfl) (Nat.le_of_ble_eq_true rfl) (Nat.le_of_ble_eq_true rfl) d_Mo_init_15 0 rfl (fun _ h9 => h9) (fun q15 H hP hD hS => ?_)
  have hP : va_P D classes [(a_Mo, .inr (1, [.int 0, .int 0, .int 0, .int 0, .ref q7, .null, .null, .null])), (q7, .inl (cI, 126, .inl (fun _ => 0))), (q15, .inl (cI, 126, .inl (fun _ => 0)))] H := hP
  have hD : va_D A [(a_Mo, .inr (1, [.int 0, .int 0, .int 0, .int 0, .ref q7, .null, .null, .null])), (q7, .inl (cI, 126, .inl (fun _ => 0))), (q15, .inl (cI, 126, .inl (fun _ => 0)))] := hD
  refine va_putF (D := D) (ci := 1) (v := .ref q15) (ty := .array .int) (C := "RemnantDictionary$Monomials") (T := T_Mo) (N := 8) hx hb hts (gki3 iw_Mo) ty_Mo ty_Mo_ok nm_Mo hown hK hP hD hS 0 rfl rfl 5 (by decide) (hts _ (gk3 (gk k_60))) (fun _ h9 => h9) rfl hin rfl (by decide +kernel) rfl rfl (Nat.le_of_ble_eq_true rfl) d_Mo_init_17 (fun H locs hP hD hS => ?_)
  have hP : va_P D classes [(a_Mo, .inr (1, [.int 0, .int 0, .int 0, .int 0, .ref q7, .ref q15, .null, .null])), (q7, .inl (cI, 126, .inl (fun _ => 0))), (q15, .inl (cI, 126, .inl (fun _ => 0)))] H := hP
  have hD : va_D A [(a_Mo, .inr (1, [.int 0, .int 0, .int 0, .int 0, .ref q7, .ref q15, .null, .null])), (q7, .inl (cI, 126, .inl (fun _ => 0))), (q15, .inl (cI, 126, .inl (fun _ => 0)))] := hD
  refine lv_aload_n hx hb d_Mo_init_20 rfl (lv_at hl 0 rfl) ?_
  refine lv_bipush (v := 126) hx hb d_Mo_init_21 (by decide) ?_
  refine g_newa (atype := .long) (ty := .long) (a0 := (126, .inr (.inl (fun _ => 0)))) hx hb (hts _ y_547) rfl hK hP hD hS hA (fun _ => rfl) (by decide) (by decide +kernel) (Nat.le_of_ble_eq_true rfl) (Nat.le_of_ble_eq_true rfl) (Nat.le_of_ble_eq_true rfl) d_Mo_init_23 1 rfl (fun _ h9 => h9) (fun q23 H hP hD hS => ?_)
  have hP : va_P D classes [(a_Mo, .inr (1, [.int 0, .int 0, .int 0, .int 0, .ref q7, .ref q15, .null, .null])), (q7, .inl (cI, 126, .inl (fun _ => 0))), (q15, .inl (cI, 126, .inl (fun _ => 0))), (q23, .inl (cL, 126, .inr (.inl (fun _ => 0))))] H := hP
  have hD : va_D A [(a_Mo, .inr (1, [.int 0, .int 0, .int 0, .int 0, .ref q7, .ref q15, .null, .null])), (q7, .inl (cI, 126, .inl (fun _ => 0))), (q15, .inl (cI, 126, .inl (fun _ => 0))), (q23, .inl (cL, 126, .inr (.inl (fun _ => 0))))] := hD
  refine va_putF (D := D) (ci := 1) (v := .ref q23) (ty := .array .long) (C := "RemnantDictionary$Monomials") (T := T_Mo) (N := 8) hx hb hts (gki3 iw_Mo) ty_Mo ty_Mo_ok nm_Mo hown hK hP hD hS 0 rfl rfl 6 (by decide) (hts _ (gk3 (gk k_39))) (fun _ h9 => h9) rfl hin rfl (by decide +kernel) rfl rfl (Nat.le_of_ble_eq_true rfl) d_Mo_init_25 (fun H locs hP hD hS => ?_)
  have hP : va_P D classes [(a_Mo, .inr (1, [.int 0, .int 0, .int 0, .int 0, .ref q7, .ref q15, .ref q23, .null])), (q7, .inl (cI, 126, .inl (fun _ => 0))), (q15, .inl (cI, 126, .inl (fun _ => 0))), (q23, .inl (cL, 126, .inr (.inl (fun _ => 0))))] H := hP
  have hD : va_D A [(a_Mo, .inr (1, [.int 0, .int 0, .int 0, .int 0, .ref q7, .ref q15, .ref q23, .null])), (q7, .inl (cI, 126, .inl (fun _ => 0))), (q15, .inl (cI, 126, .inl (fun _ => 0))), (q23, .inl (cL, 126, .inr (.inl (fun _ => 0))))] := hD
  refine lv_aload_n hx hb d_Mo_init_28 rfl (lv_at hl 0 rfl) ?_
  refine lv_sipush (v := 504) hx hb d_Mo_init_29 (by decide) ?_
  refine g_newa (atype := .int) (ty := .int) (a0 := (504, .inl (fun _ => 0))) hx hb (hts _ y_546) rfl hK hP hD hS hA (fun _ => rfl) (by decide) (by decide +kernel) (Nat.le_of_ble_eq_true rfl) (Nat.le_of_ble_eq_true rfl) (Nat.le_of_ble_eq_true rfl) d_Mo_init_32 0 rfl (fun _ h9 => h9) (fun q32 H hP hD hS => ?_)
  have hP : va_P D classes [(a_Mo, .inr (1, [.int 0, .int 0, .int 0, .int 0, .ref q7, .ref q15, .ref q23, .null])), (q7, .inl (cI, 126, .inl (fun _ => 0))), (q15, .inl (cI, 126, .inl (fun _ => 0))), (q23, .inl (cL, 126, .inr (.inl (fun _ => 0)))), (q32, .inl (cI, 504, .inl (fun _ => 0)))] H := hP
  have hD : va_D A [(a_Mo, .inr (1, [.int 0, .int 0, .int 0, .int 0, .ref q7, .ref q15, .ref q23, .null])), (q7, .inl (cI, 126, .inl (fun _ => 0))), (q15, .inl (cI, 126, .inl (fun _ => 0))), (q23, .inl (cL, 126, .inr (.inl (fun _ => 0)))), (q32, .inl (cI, 504, .inl (fun _ => 0)))] := hD
  refine va_putF (D := D) (ci := 1) (v := .ref q32) (ty := .array .int) (C := "RemnantDictionary$Monomials") (T := T_Mo) (N := 8) hx hb hts (gki3 iw_Mo) ty_Mo ty_Mo_ok nm_Mo hown hK hP hD hS 0 rfl rfl 7 (by decide) (hts _ (gk3 (gk k_54))) (fun _ h9 => h9) rfl hin rfl (by decide +kernel) rfl rfl (Nat.le_of_ble_eq_true rfl) d_Mo_init_34 (fun H locs hP hD hS => ?_)
  have hP : va_P D classes [(a_Mo, .inr (1, [.int 0, .int 0, .int 0, .int 0, .ref q7, .ref q15, .ref q23, .ref q32])), (q7, .inl (cI, 126, .inl (fun _ => 0))), (q15, .inl (cI, 126, .inl (fun _ => 0))), (q23, .inl (cL, 126, .inr (.inl (fun _ => 0)))), (q32, .inl (cI, 504, .inl (fun _ => 0)))] H := hP
  have hD : va_D A [(a_Mo, .inr (1, [.int 0, .int 0, .int 0, .int 0, .ref q7, .ref q15, .ref q23, .ref q32])), (q7, .inl (cI, 126, .inl (fun _ => 0))), (q15, .inl (cI, 126, .inl (fun _ => 0))), (q23, .inl (cL, 126, .inr (.inl (fun _ => 0)))), (q32, .inl (cI, 504, .inl (fun _ => 0)))] := hD
  refine W.widen (k := 4) (n := 882) (Nat.le_of_ble_eq_true rfl) (Nat.le_of_ble_eq_true rfl) ?_
  exact W.vret hx hb hr (fun t ht hW => ⟨⟨(), rfl, trivial, q7, q15, q23, q32, gB_of ht hW.alike hP hK hD⟩, hS.F ht⟩) hS.2.2 d_Mo_init_37
theorem d_Sp_init_0 : decode c_Sp_initb 0 = .ok (.aload_n 0, 1) := by decide +kernel
theorem d_Sp_init_1 : decode c_Sp_initb 1 = .ok (.invokespecial 3, 3) := by decide +kernel
theorem d_Sp_init_4 : decode c_Sp_initb 4 = .ok (.aload_n 0, 1) := by decide +kernel
theorem d_Sp_init_5 : decode c_Sp_initb 5 = .ok (.sipush 15876, 3) := by decide +kernel
theorem d_Sp_init_8 : decode c_Sp_initb 8 = .ok (.newarray .int, 2) := by decide +kernel
theorem d_Sp_init_10 : decode c_Sp_initb 10 = .ok (.putfield 9, 3) := by decide +kernel
theorem d_Sp_init_13 : decode c_Sp_initb 13 = .ok (.aload_n 0, 1) := by decide +kernel
theorem d_Sp_init_14 : decode c_Sp_initb 14 = .ok (.bipush 126, 2) := by decide +kernel
theorem d_Sp_init_16 : decode c_Sp_initb 16 = .ok (.newarray .boolean, 2) := by decide +kernel
theorem d_Sp_init_18 : decode c_Sp_initb 18 = .ok (.putfield 15, 3) := by decide +kernel
theorem d_Sp_init_21 : decode c_Sp_initb 21 = .ok (.aload_n 0, 1) := by decide +kernel
theorem d_Sp_init_22 : decode c_Sp_initb 22 = .ok (.bipush 126, 2) := by decide +kernel
theorem d_Sp_init_24 : decode c_Sp_initb 24 = .ok (.newarray .int, 2) := by decide +kernel
theorem d_Sp_init_26 : decode c_Sp_initb 26 = .ok (.putfield 19, 3) := by decide +kernel
theorem d_Sp_init_29 : decode c_Sp_initb 29 = .ok (.aload_n 0, 1) := by decide +kernel
theorem d_Sp_init_30 : decode c_Sp_initb 30 = .ok (.bipush 126, 2) := by decide +kernel
theorem d_Sp_init_32 : decode c_Sp_initb 32 = .ok (.newarray .int, 2) := by decide +kernel
theorem d_Sp_init_34 : decode c_Sp_initb 34 = .ok (.putfield 22, 3) := by decide +kernel
theorem d_Sp_init_37 : decode c_Sp_initb 37 = .ok (.aload_n 0, 1) := by decide +kernel
theorem d_Sp_init_38 : decode c_Sp_initb 38 = .ok (.bipush 126, 2) := by decide +kernel
theorem d_Sp_init_40 : decode c_Sp_initb 40 = .ok (.newarray .int, 2) := by decide +kernel
theorem d_Sp_init_42 : decode c_Sp_initb 42 = .ok (.putfield 25, 3) := by decide +kernel
theorem d_Sp_init_45 : decode c_Sp_initb 45 = .ok (.aload_n 0, 1) := by decide +kernel
theorem d_Sp_init_46 : decode c_Sp_initb 46 = .ok (.aload_n 1, 1) := by decide +kernel
theorem d_Sp_init_47 : decode c_Sp_initb 47 = .ok (.putfield 28, 3) := by decide +kernel
theorem d_Sp_init_50 : decode c_Sp_initb 50 = .ok (.return_, 1) := by decide +kernel
abbrev rm_iSp : Room := { frames := 1, cells := 5, slots := 16380, locals := 12 }
set_option maxHeartbeats 4000000 in
set_option maxRecDepth 100000 in
theorem c_iSp (l : Launch) (D : va_G) (cI cL cZ : ClassId) (a_Sp a_Mo : Nat) (sz : Nat) : Met l y_Sp_init (.code y_Sp_init c_Sp_initb 2 none :: gAll3) rm_iSp (va_Pc [.ref a_Sp, .ref a_Mo] (gPW D (gT cI cL cZ) [(a_Sp, .inr (2, [.null, .int 0, .int 0, .null, .null, .null, .int 0, .null, .null, .int 0]))] sz)) (va_Qv (fun _ : Unit => True) (fun (_ : Unit) t => ∃ q8 q16 q24 q32 q40 : Nat, gB D (gT cI cL cZ) (va_A [(a_Sp, .inr (2, [.null, .int 0, .int 0, .null, .null, .null, .int 0, .null, .null, .int 0]))] sz) [(a_Sp, .inr (2, [.ref a_Mo, .int 0, .int 0, .ref q8, .ref q16, .ref q24, .int 0, .ref q32, .ref q40, .int 0])), (q8, .inl (cI, 15876, .inl (fun _ => 0))), (q16, .inl (cZ, 126, .inl (fun _ => 0))), (q24, .inl (cI, 126, .inl (fun _ => 0))), (q32, .inl (cI, 126, .inl (fun _ => 0))), (q40, .inl (cI, 126, .inl (fun _ => 0)))] () t) (va_A [(a_Sp, .inr (2, [.null, .int 0, .int 0, .null, .null, .null, .int 0, .null, .null, .int 0]))] sz)) 5 16380 (va_A [(a_Sp, .inr (2, [.null, .int 0, .int 0, .null, .null, .null, .int 0, .null, .null, .int 0]))] sz) := by
  refine Met.ofW (cc := c_Sp_initb) (maxL := 2) (ret := none) (by decide +kernel) rfl ?_
  intro p e s m args below meth c s₁ B hml hv
  obtain ⟨rfl, hsz, hP, hK, hN, hD0⟩ := hv
  subst hsz
  have hD := hD0.self (sz := s.heap.size)
  generalize hAe : va_A [(a_Sp, .inr (2, [.null, .int 0, .int 0, .null, .null, .null, .int 0, .null, .null, .int 0]))] s.heap.size = A at *
  have hA : ∀ q : Nat, s.heap.size ≤ q → A q := fun q h => by rw [← hAe]; exact Or.inr h
  have hS : va_S A s.heap s.heap [] := va_S.rf
  have hx := B.exec
  have hb := B.bytes
  have hr := B.returns
  have hts : ∀ w ∈ gAll3, w.before ([.ref a_Sp, .ref a_Mo] : List Value).toArray s = true := fun w h => atoms_spec (ws := (.code y_Sp_init c_Sp_initb 2 none :: gAll3)) B.pre w (List.mem_cons_of_mem _ h)
  have hown : s.vm.findClass "RemnantDictionary$Space" = some m.cls := findClass_of_methodNamed B.named
  have hlocks := B.notSynchronized
  have hin : meth.name = "<init>" := (name_of_methodNamed B.named B.method).1
  have hl := lv_entry ([.ref a_Sp, .ref a_Mo]) (n := 2) (Nat.le_of_ble_eq_true rfl)
  rw [lg_entry_eq]
  generalize (lg_sl ([.ref a_Sp, .ref a_Mo]) ++ List.replicate (2 - (lg_sl ([.ref a_Sp, .ref a_Mo])).length) Slot.unset).toArray = ls at hl ⊢
  have hl : lv_has ls 2 [(0, .ref a_Sp), (1, .ref a_Mo)] := hl
  refine lv_aload_n hx hb d_Sp_init_0 rfl (lv_at hl 0 rfl) ?_
  refine W.objInit hx hb hown (hts _ y_549) (hts _ y_544) (hts _ y_545) rfl (by rw [hml]; exact hl.1) rfl d_Sp_init_1 (Nat.le_of_ble_eq_true rfl) (Nat.le_of_ble_eq_true rfl) ?_
  refine W.eq (g2 := F0 m 4 ls []) rfl ?_
  refine lv_aload_n hx hb d_Sp_init_4 rfl (lv_at hl 0 rfl) ?_
  refine lv_sipush (v := 15876) hx hb d_Sp_init_5 (by decide) ?_
  refine g_newa (atype := .int) (ty := .int) (a0 := (15876, .inl (fun _ => 0))) hx hb (hts _ y_546) rfl hK hP hD hS hA (fun _ => rfl) (by decide) (by decide +kernel) (Nat.le_of_ble_eq_true rfl) (Nat.le_of_ble_eq_true rfl) (Nat.le_of_ble_eq_true rfl) d_Sp_init_8 0 rfl (fun _ h9 => h9) (fun q8 H hP hD hS => ?_)
  have hP : va_P D classes [(a_Sp, .inr (2, [.null, .int 0, .int 0, .null, .null, .null, .int 0, .null, .null, .int 0])), (q8, .inl (cI, 15876, .inl (fun _ => 0)))] H := hP
  have hD : va_D A [(a_Sp, .inr (2, [.null, .int 0, .int 0, .null, .null, .null, .int 0, .null, .null, .int 0])), (q8, .inl (cI, 15876, .inl (fun _ => 0)))] := hD
  refine va_putF (D := D) (ci := 2) (v := .ref q8) (ty := .array .int) (C := "RemnantDictionary$Space") (T := T_Sp) (N := 10) hx hb hts (gki3 iw_Sp) ty_Sp ty_Sp_ok nm_Sp hown hK hP hD hS 0 rfl rfl 3 (by decide) (hts _ (gk3 (gk k_81))) (fun _ h9 => h9) rfl hin rfl (by decide +kernel) rfl rfl (Nat.le_of_ble_eq_true rfl) d_Sp_init_10 (fun H locs hP hD hS => ?_)
  have hP : va_P D classes [(a_Sp, .inr (2, [.null, .int 0, .int 0, .ref q8, .null, .null, .int 0, .null, .null, .int 0])), (q8, .inl (cI, 15876, .inl (fun _ => 0)))] H := hP
  have hD : va_D A [(a_Sp, .inr (2, [.null, .int 0, .int 0, .ref q8, .null, .null, .int 0, .null, .null, .int 0])), (q8, .inl (cI, 15876, .inl (fun _ => 0)))] := hD
  refine lv_aload_n hx hb d_Sp_init_13 rfl (lv_at hl 0 rfl) ?_
  refine lv_bipush (v := 126) hx hb d_Sp_init_14 (by decide) ?_
  refine g_newa (atype := .boolean) (ty := .boolean) (a0 := (126, .inl (fun _ => 0))) hx hb (hts _ y_550) rfl hK hP hD hS hA (fun _ => rfl) (by decide) (by decide +kernel) (Nat.le_of_ble_eq_true rfl) (Nat.le_of_ble_eq_true rfl) (Nat.le_of_ble_eq_true rfl) d_Sp_init_16 2 rfl (fun _ h9 => h9) (fun q16 H hP hD hS => ?_)
  have hP : va_P D classes [(a_Sp, .inr (2, [.null, .int 0, .int 0, .ref q8, .null, .null, .int 0, .null, .null, .int 0])), (q8, .inl (cI, 15876, .inl (fun _ => 0))), (q16, .inl (cZ, 126, .inl (fun _ => 0)))] H := hP
  have hD : va_D A [(a_Sp, .inr (2, [.null, .int 0, .int 0, .ref q8, .null, .null, .int 0, .null, .null, .int 0])), (q8, .inl (cI, 15876, .inl (fun _ => 0))), (q16, .inl (cZ, 126, .inl (fun _ => 0)))] := hD
  refine va_putF (D := D) (ci := 2) (v := .ref q16) (ty := .array .boolean) (C := "RemnantDictionary$Space") (T := T_Sp) (N := 10) hx hb hts (gki3 iw_Sp) ty_Sp ty_Sp_ok nm_Sp hown hK hP hD hS 0 rfl rfl 4 (by decide) (hts _ (gk3 (gk k_74))) (fun _ h9 => h9) rfl hin rfl (by decide +kernel) rfl rfl (Nat.le_of_ble_eq_true rfl) d_Sp_init_18 (fun H locs hP hD hS => ?_)
  have hP : va_P D classes [(a_Sp, .inr (2, [.null, .int 0, .int 0, .ref q8, .ref q16, .null, .int 0, .null, .null, .int 0])), (q8, .inl (cI, 15876, .inl (fun _ => 0))), (q16, .inl (cZ, 126, .inl (fun _ => 0)))] H := hP
  have hD : va_D A [(a_Sp, .inr (2, [.null, .int 0, .int 0, .ref q8, .ref q16, .null, .int 0, .null, .null, .int 0])), (q8, .inl (cI, 15876, .inl (fun _ => 0))), (q16, .inl (cZ, 126, .inl (fun _ => 0)))] := hD
  refine lv_aload_n hx hb d_Sp_init_21 rfl (lv_at hl 0 rfl) ?_
  refine lv_bipush (v := 126) hx hb d_Sp_init_22 (by decide) ?_
  refine g_newa (atype := .int) (ty := .int) (a0 := (126, .inl (fun _ => 0))) hx hb (hts _ y_546) rfl hK hP hD hS hA (fun _ => rfl) (by decide) (by decide +kernel) (Nat.le_of_ble_eq_true rfl) (Nat.le_of_ble_eq_true rfl) (Nat.le_of_ble_eq_true rfl) d_Sp_init_24 0 rfl (fun _ h9 => h9) (fun q24 H hP hD hS => ?_)
  have hP : va_P D classes [(a_Sp, .inr (2, [.null, .int 0, .int 0, .ref q8, .ref q16, .null, .int 0, .null, .null, .int 0])), (q8, .inl (cI, 15876, .inl (fun _ => 0))), (q16, .inl (cZ, 126, .inl (fun _ => 0))), (q24, .inl (cI, 126, .inl (fun _ => 0)))] H := hP
  have hD : va_D A [(a_Sp, .inr (2, [.null, .int 0, .int 0, .ref q8, .ref q16, .null, .int 0, .null, .null, .int 0])), (q8, .inl (cI, 15876, .inl (fun _ => 0))), (q16, .inl (cZ, 126, .inl (fun _ => 0))), (q24, .inl (cI, 126, .inl (fun _ => 0)))] := hD
  refine va_putF (D := D) (ci := 2) (v := .ref q24) (ty := .array .int) (C := "RemnantDictionary$Space") (T := T_Sp) (N := 10) hx hb hts (gki3 iw_Sp) ty_Sp ty_Sp_ok nm_Sp hown hK hP hD hS 0 rfl rfl 5 (by decide) (hts _ (gk3 (gk k_87))) (fun _ h9 => h9) rfl hin rfl (by decide +kernel) rfl rfl (Nat.le_of_ble_eq_true rfl) d_Sp_init_26 (fun H locs hP hD hS => ?_)
  have hP : va_P D classes [(a_Sp, .inr (2, [.null, .int 0, .int 0, .ref q8, .ref q16, .ref q24, .int 0, .null, .null, .int 0])), (q8, .inl (cI, 15876, .inl (fun _ => 0))), (q16, .inl (cZ, 126, .inl (fun _ => 0))), (q24, .inl (cI, 126, .inl (fun _ => 0)))] H := hP
  have hD : va_D A [(a_Sp, .inr (2, [.null, .int 0, .int 0, .ref q8, .ref q16, .ref q24, .int 0, .null, .null, .int 0])), (q8, .inl (cI, 15876, .inl (fun _ => 0))), (q16, .inl (cZ, 126, .inl (fun _ => 0))), (q24, .inl (cI, 126, .inl (fun _ => 0)))] := hD
  refine lv_aload_n hx hb d_Sp_init_29 rfl (lv_at hl 0 rfl) ?_
  refine lv_bipush (v := 126) hx hb d_Sp_init_30 (by decide) ?_
  refine g_newa (atype := .int) (ty := .int) (a0 := (126, .inl (fun _ => 0))) hx hb (hts _ y_546) rfl hK hP hD hS hA (fun _ => rfl) (by decide) (by decide +kernel) (Nat.le_of_ble_eq_true rfl) (Nat.le_of_ble_eq_true rfl) (Nat.le_of_ble_eq_true rfl) d_Sp_init_32 0 rfl (fun _ h9 => h9) (fun q32 H hP hD hS => ?_)
  have hP : va_P D classes [(a_Sp, .inr (2, [.null, .int 0, .int 0, .ref q8, .ref q16, .ref q24, .int 0, .null, .null, .int 0])), (q8, .inl (cI, 15876, .inl (fun _ => 0))), (q16, .inl (cZ, 126, .inl (fun _ => 0))), (q24, .inl (cI, 126, .inl (fun _ => 0))), (q32, .inl (cI, 126, .inl (fun _ => 0)))] H := hP
  have hD : va_D A [(a_Sp, .inr (2, [.null, .int 0, .int 0, .ref q8, .ref q16, .ref q24, .int 0, .null, .null, .int 0])), (q8, .inl (cI, 15876, .inl (fun _ => 0))), (q16, .inl (cZ, 126, .inl (fun _ => 0))), (q24, .inl (cI, 126, .inl (fun _ => 0))), (q32, .inl (cI, 126, .inl (fun _ => 0)))] := hD
  refine va_putF (D := D) (ci := 2) (v := .ref q32) (ty := .array .int) (C := "RemnantDictionary$Space") (T := T_Sp) (N := 10) hx hb hts (gki3 iw_Sp) ty_Sp ty_Sp_ok nm_Sp hown hK hP hD hS 0 rfl rfl 7 (by decide) (hts _ (gk3 (gk k_84))) (fun _ h9 => h9) rfl hin rfl (by decide +kernel) rfl rfl (Nat.le_of_ble_eq_true rfl) d_Sp_init_34 (fun H locs hP hD hS => ?_)
  have hP : va_P D classes [(a_Sp, .inr (2, [.null, .int 0, .int 0, .ref q8, .ref q16, .ref q24, .int 0, .ref q32, .null, .int 0])), (q8, .inl (cI, 15876, .inl (fun _ => 0))), (q16, .inl (cZ, 126, .inl (fun _ => 0))), (q24, .inl (cI, 126, .inl (fun _ => 0))), (q32, .inl (cI, 126, .inl (fun _ => 0)))] H := hP
  have hD : va_D A [(a_Sp, .inr (2, [.null, .int 0, .int 0, .ref q8, .ref q16, .ref q24, .int 0, .ref q32, .null, .int 0])), (q8, .inl (cI, 15876, .inl (fun _ => 0))), (q16, .inl (cZ, 126, .inl (fun _ => 0))), (q24, .inl (cI, 126, .inl (fun _ => 0))), (q32, .inl (cI, 126, .inl (fun _ => 0)))] := hD
  refine lv_aload_n hx hb d_Sp_init_37 rfl (lv_at hl 0 rfl) ?_
  refine lv_bipush (v := 126) hx hb d_Sp_init_38 (by decide) ?_
  refine g_newa (atype := .int) (ty := .int) (a0 := (126, .inl (fun _ => 0))) hx hb (hts _ y_546) rfl hK hP hD hS hA (fun _ => rfl) (by decide) (by decide +kernel) (Nat.le_of_ble_eq_true rfl) (Nat.le_of_ble_eq_true rfl) (Nat.le_of_ble_eq_true rfl) d_Sp_init_40 0 rfl (fun _ h9 => h9) (fun q40 H hP hD hS => ?_)
  have hP : va_P D classes [(a_Sp, .inr (2, [.null, .int 0, .int 0, .ref q8, .ref q16, .ref q24, .int 0, .ref q32, .null, .int 0])), (q8, .inl (cI, 15876, .inl (fun _ => 0))), (q16, .inl (cZ, 126, .inl (fun _ => 0))), (q24, .inl (cI, 126, .inl (fun _ => 0))), (q32, .inl (cI, 126, .inl (fun _ => 0))), (q40, .inl (cI, 126, .inl (fun _ => 0)))] H := hP
  have hD : va_D A [(a_Sp, .inr (2, [.null, .int 0, .int 0, .ref q8, .ref q16, .ref q24, .int 0, .ref q32, .null, .int 0])), (q8, .inl (cI, 15876, .inl (fun _ => 0))), (q16, .inl (cZ, 126, .inl (fun _ => 0))), (q24, .inl (cI, 126, .inl (fun _ => 0))), (q32, .inl (cI, 126, .inl (fun _ => 0))), (q40, .inl (cI, 126, .inl (fun _ => 0)))] := hD
  refine va_putF (D := D) (ci := 2) (v := .ref q40) (ty := .array .int) (C := "RemnantDictionary$Space") (T := T_Sp) (N := 10) hx hb hts (gki3 iw_Sp) ty_Sp ty_Sp_ok nm_Sp hown hK hP hD hS 0 rfl rfl 8 (by decide) (hts _ (gk3 (gk k_118))) (fun _ h9 => h9) rfl hin rfl (by decide +kernel) rfl rfl (Nat.le_of_ble_eq_true rfl) d_Sp_init_42 (fun H locs hP hD hS => ?_)
  have hP : va_P D classes [(a_Sp, .inr (2, [.null, .int 0, .int 0, .ref q8, .ref q16, .ref q24, .int 0, .ref q32, .ref q40, .int 0])), (q8, .inl (cI, 15876, .inl (fun _ => 0))), (q16, .inl (cZ, 126, .inl (fun _ => 0))), (q24, .inl (cI, 126, .inl (fun _ => 0))), (q32, .inl (cI, 126, .inl (fun _ => 0))), (q40, .inl (cI, 126, .inl (fun _ => 0)))] H := hP
  have hD : va_D A [(a_Sp, .inr (2, [.null, .int 0, .int 0, .ref q8, .ref q16, .ref q24, .int 0, .ref q32, .ref q40, .int 0])), (q8, .inl (cI, 15876, .inl (fun _ => 0))), (q16, .inl (cZ, 126, .inl (fun _ => 0))), (q24, .inl (cI, 126, .inl (fun _ => 0))), (q32, .inl (cI, 126, .inl (fun _ => 0))), (q40, .inl (cI, 126, .inl (fun _ => 0)))] := hD
  refine lv_aload_n hx hb d_Sp_init_45 rfl (lv_at hl 0 rfl) ?_
  refine lv_aload_n hx hb d_Sp_init_46 rfl (lv_at hl 1 rfl) ?_
  refine va_putF (D := D) (ci := 2) (v := .ref a_Mo) (ty := .object "RemnantDictionary$Monomials") (C := "RemnantDictionary$Space") (T := T_Sp) (N := 10) hx hb hts (gki3 iw_Sp) ty_Sp ty_Sp_ok nm_Sp hown hK hP hD hS 0 rfl rfl 0 (by decide) (hts _ (gk3 (gk k_94))) (fun _ h9 => h9) rfl hin rfl (by decide +kernel) rfl rfl (Nat.le_of_ble_eq_true rfl) d_Sp_init_47 (fun H locs hP hD hS => ?_)
  have hP : va_P D classes [(a_Sp, .inr (2, [.ref a_Mo, .int 0, .int 0, .ref q8, .ref q16, .ref q24, .int 0, .ref q32, .ref q40, .int 0])), (q8, .inl (cI, 15876, .inl (fun _ => 0))), (q16, .inl (cZ, 126, .inl (fun _ => 0))), (q24, .inl (cI, 126, .inl (fun _ => 0))), (q32, .inl (cI, 126, .inl (fun _ => 0))), (q40, .inl (cI, 126, .inl (fun _ => 0)))] H := hP
  have hD : va_D A [(a_Sp, .inr (2, [.ref a_Mo, .int 0, .int 0, .ref q8, .ref q16, .ref q24, .int 0, .ref q32, .ref q40, .int 0])), (q8, .inl (cI, 15876, .inl (fun _ => 0))), (q16, .inl (cZ, 126, .inl (fun _ => 0))), (q24, .inl (cI, 126, .inl (fun _ => 0))), (q32, .inl (cI, 126, .inl (fun _ => 0))), (q40, .inl (cI, 126, .inl (fun _ => 0)))] := hD
  refine W.widen (k := 5) (n := 16380) (Nat.le_of_ble_eq_true rfl) (Nat.le_of_ble_eq_true rfl) ?_
  exact W.vret hx hb hr (fun t ht hW => ⟨⟨(), rfl, trivial, q8, q16, q24, q32, q40, gB_of ht hW.alike hP hK hD⟩, hS.F ht⟩) hS.2.2 d_Sp_init_50
theorem d_Re_init_0 : decode c_Re_initb 0 = .ok (.aload_n 0, 1) := by decide +kernel
theorem d_Re_init_1 : decode c_Re_initb 1 = .ok (.invokespecial 3, 3) := by decide +kernel
theorem d_Re_init_4 : decode c_Re_initb 4 = .ok (.aload_n 0, 1) := by decide +kernel
theorem d_Re_init_5 : decode c_Re_initb 5 = .ok (.bipush 40, 2) := by decide +kernel
theorem d_Re_init_7 : decode c_Re_initb 7 = .ok (.newarray .int, 2) := by decide +kernel
theorem d_Re_init_9 : decode c_Re_initb 9 = .ok (.putfield 9, 3) := by decide +kernel
theorem d_Re_init_12 : decode c_Re_initb 12 = .ok (.aload_n 0, 1) := by decide +kernel
theorem d_Re_init_13 : decode c_Re_initb 13 = .ok (.sipush 6400, 3) := by decide +kernel
theorem d_Re_init_16 : decode c_Re_initb 16 = .ok (.newarray .int, 2) := by decide +kernel
theorem d_Re_init_18 : decode c_Re_initb 18 = .ok (.putfield 15, 3) := by decide +kernel
theorem d_Re_init_21 : decode c_Re_initb 21 = .ok (.aload_n 0, 1) := by decide +kernel
theorem d_Re_init_22 : decode c_Re_initb 22 = .ok (.iconst 4, 1) := by decide +kernel
theorem d_Re_init_23 : decode c_Re_initb 23 = .ok (.newarray .int, 2) := by decide +kernel
theorem d_Re_init_25 : decode c_Re_initb 25 = .ok (.putfield 18, 3) := by decide +kernel
theorem d_Re_init_28 : decode c_Re_initb 28 = .ok (.aload_n 0, 1) := by decide +kernel
theorem d_Re_init_29 : decode c_Re_initb 29 = .ok (.sipush 160, 3) := by decide +kernel
theorem d_Re_init_32 : decode c_Re_initb 32 = .ok (.newarray .int, 2) := by decide +kernel
theorem d_Re_init_34 : decode c_Re_initb 34 = .ok (.putfield 21, 3) := by decide +kernel
theorem d_Re_init_37 : decode c_Re_initb 37 = .ok (.aload_n 0, 1) := by decide +kernel
theorem d_Re_init_38 : decode c_Re_initb 38 = .ok (.sipush 160, 3) := by decide +kernel
theorem d_Re_init_41 : decode c_Re_initb 41 = .ok (.newarray .long, 2) := by decide +kernel
theorem d_Re_init_43 : decode c_Re_initb 43 = .ok (.putfield 24, 3) := by decide +kernel
theorem d_Re_init_46 : decode c_Re_initb 46 = .ok (.return_, 1) := by decide +kernel
abbrev rm_iRe : Room := { frames := 1, cells := 5, slots := 6764, locals := 12 }
set_option maxHeartbeats 4000000 in
set_option maxRecDepth 100000 in
theorem c_iRe (l : Launch) (D : va_G) (cI cL cZ : ClassId) (a_Re : Nat) (sz : Nat) : Met l y_Re_init (.code y_Re_init c_Re_initb 1 none :: gAll3) rm_iRe (va_Pc [.ref a_Re] (gPW D (gT cI cL cZ) [(a_Re, .inr (3, [.int 0, .int 0, .int 0, .null, .null, .null, .null, .null, .int 0]))] sz)) (va_Qv (fun _ : Unit => True) (fun (_ : Unit) t => ∃ q7 q16 q23 q32 q41 : Nat, gB D (gT cI cL cZ) (va_A [(a_Re, .inr (3, [.int 0, .int 0, .int 0, .null, .null, .null, .null, .null, .int 0]))] sz) [(a_Re, .inr (3, [.int 0, .int 0, .int 0, .ref q7, .ref q16, .ref q23, .ref q32, .ref q41, .int 0])), (q7, .inl (cI, 40, .inl (fun _ => 0))), (q16, .inl (cI, 6400, .inl (fun _ => 0))), (q23, .inl (cI, 4, .inl (fun _ => 0))), (q32, .inl (cI, 160, .inl (fun _ => 0))), (q41, .inl (cL, 160, .inr (.inl (fun _ => 0))))] () t) (va_A [(a_Re, .inr (3, [.int 0, .int 0, .int 0, .null, .null, .null, .null, .null, .int 0]))] sz)) 5 6764 (va_A [(a_Re, .inr (3, [.int 0, .int 0, .int 0, .null, .null, .null, .null, .null, .int 0]))] sz) := by
  refine Met.ofW (cc := c_Re_initb) (maxL := 1) (ret := none) (by decide +kernel) rfl ?_
  intro p e s m args below meth c s₁ B hml hv
  obtain ⟨rfl, hsz, hP, hK, hN, hD0⟩ := hv
  subst hsz
  have hD := hD0.self (sz := s.heap.size)
  generalize hAe : va_A [(a_Re, .inr (3, [.int 0, .int 0, .int 0, .null, .null, .null, .null, .null, .int 0]))] s.heap.size = A at *
  have hA : ∀ q : Nat, s.heap.size ≤ q → A q := fun q h => by rw [← hAe]; exact Or.inr h
  have hS : va_S A s.heap s.heap [] := va_S.rf
  have hx := B.exec
  have hb := B.bytes
  have hr := B.returns
  have hts : ∀ w ∈ gAll3, w.before ([.ref a_Re] : List Value).toArray s = true := fun w h => atoms_spec (ws := (.code y_Re_init c_Re_initb 1 none :: gAll3)) B.pre w (List.mem_cons_of_mem _ h)
  have hown : s.vm.findClass "RemnantDictionary$Remnant" = some m.cls := findClass_of_methodNamed B.named
  have hlocks := B.notSynchronized
  have hin : meth.name = "<init>" := (name_of_methodNamed B.named B.method).1
  have hl := lv_entry ([.ref a_Re]) (n := 1) (Nat.le_of_ble_eq_true rfl)
  rw [lg_entry_eq]
  generalize (lg_sl ([.ref a_Re]) ++ List.replicate (1 - (lg_sl ([.ref a_Re])).length) Slot.unset).toArray = ls at hl ⊢
  have hl : lv_has ls 1 [(0, .ref a_Re)] := hl
  refine lv_aload_n hx hb d_Re_init_0 rfl (lv_at hl 0 rfl) ?_
  refine W.objInit hx hb hown (hts _ y_552) (hts _ y_544) (hts _ y_545) rfl (by rw [hml]; exact hl.1) rfl d_Re_init_1 (Nat.le_of_ble_eq_true rfl) (Nat.le_of_ble_eq_true rfl) ?_
  refine W.eq (g2 := F0 m 4 ls []) rfl ?_
  refine lv_aload_n hx hb d_Re_init_4 rfl (lv_at hl 0 rfl) ?_
  refine lv_bipush (v := 40) hx hb d_Re_init_5 (by decide) ?_
  refine g_newa (atype := .int) (ty := .int) (a0 := (40, .inl (fun _ => 0))) hx hb (hts _ y_546) rfl hK hP hD hS hA (fun _ => rfl) (by decide) (by decide +kernel) (Nat.le_of_ble_eq_true rfl) (Nat.le_of_ble_eq_true rfl) (Nat.le_of_ble_eq_true rfl) d_Re_init_7 0 rfl (fun _ h9 => h9) (fun q7 H hP hD hS => ?_)
  have hP : va_P D classes [(a_Re, .inr (3, [.int 0, .int 0, .int 0, .null, .null, .null, .null, .null, .int 0])), (q7, .inl (cI, 40, .inl (fun _ => 0)))] H := hP
  have hD : va_D A [(a_Re, .inr (3, [.int 0, .int 0, .int 0, .null, .null, .null, .null, .null, .int 0])), (q7, .inl (cI, 40, .inl (fun _ => 0)))] := hD
  refine va_putF (D := D) (ci := 3) (v := .ref q7) (ty := .array .int) (C := "RemnantDictionary$Remnant") (T := T_Re) (N := 9) hx hb hts (gki3 iw_Re) ty_Re ty_Re_ok nm_Re hown hK hP hD hS 0 rfl rfl 3 (by decide) (hts _ (gk3 (gk k_150))) (fun _ h9 => h9) rfl hin rfl (by decide +kernel) rfl rfl (Nat.le_of_ble_eq_true rfl) d_Re_init_9 (fun H locs hP hD hS => ?_)
  have hP : va_P D classes [(a_Re, .inr (3, [.int 0, .int 0, .int 0, .ref q7, .null, .null, .null, .null, .int 0])), (q7, .inl (cI, 40, .inl (fun _ => 0)))] H := hP
  have hD : va_D A [(a_Re, .inr (3, [.int 0, .int 0, .int 0, .ref q7, .null, .null, .null, .null, .int 0])), (q7, .inl (cI, 40, .inl (fun _ => 0)))] := hD
  refine lv_aload_n hx hb d_Re_init_12 rfl (lv_at hl 0 rfl) ?_
  refine lv_sipush (v := 6400) hx hb d_Re_init_13 (by decide) ?_
  refine g_newa (atype := .int) (ty := .int) (a0 := (6400, .inl (fun _ => 0))) hx hb (hts _ y_546) rfl hK hP hD hS hA (fun _ => rfl) (by decide) (by decide +kernel) (Nat.le_of_ble_eq_true rfl) (Nat.le_of_ble_eq_true rfl) (Nat.le_of_ble_eq_true rfl) d_Re_init_16 0 rfl (fun _ h9 => h9) (fun q16 H hP hD hS => ?_)
  have hP : va_P D classes [(a_Re, .inr (3, [.int 0, .int 0, .int 0, .ref q7, .null, .null, .null, .null, .int 0])), (q7, .inl (cI, 40, .inl (fun _ => 0))), (q16, .inl (cI, 6400, .inl (fun _ => 0)))] H := hP
  have hD : va_D A [(a_Re, .inr (3, [.int 0, .int 0, .int 0, .ref q7, .null, .null, .null, .null, .int 0])), (q7, .inl (cI, 40, .inl (fun _ => 0))), (q16, .inl (cI, 6400, .inl (fun _ => 0)))] := hD
  refine va_putF (D := D) (ci := 3) (v := .ref q16) (ty := .array .int) (C := "RemnantDictionary$Remnant") (T := T_Re) (N := 9) hx hb hts (gki3 iw_Re) ty_Re ty_Re_ok nm_Re hown hK hP hD hS 0 rfl rfl 4 (by decide) (hts _ (gk3 (gk k_182))) (fun _ h9 => h9) rfl hin rfl (by decide +kernel) rfl rfl (Nat.le_of_ble_eq_true rfl) d_Re_init_18 (fun H locs hP hD hS => ?_)
  have hP : va_P D classes [(a_Re, .inr (3, [.int 0, .int 0, .int 0, .ref q7, .ref q16, .null, .null, .null, .int 0])), (q7, .inl (cI, 40, .inl (fun _ => 0))), (q16, .inl (cI, 6400, .inl (fun _ => 0)))] H := hP
  have hD : va_D A [(a_Re, .inr (3, [.int 0, .int 0, .int 0, .ref q7, .ref q16, .null, .null, .null, .int 0])), (q7, .inl (cI, 40, .inl (fun _ => 0))), (q16, .inl (cI, 6400, .inl (fun _ => 0)))] := hD
  refine lv_aload_n hx hb d_Re_init_21 rfl (lv_at hl 0 rfl) ?_
  refine lv_iconst (v := 4) hx hb d_Re_init_22 (by decide) ?_
  refine g_newa (atype := .int) (ty := .int) (a0 := (4, .inl (fun _ => 0))) hx hb (hts _ y_546) rfl hK hP hD hS hA (fun _ => rfl) (by decide) (by decide +kernel) (Nat.le_of_ble_eq_true rfl) (Nat.le_of_ble_eq_true rfl) (Nat.le_of_ble_eq_true rfl) d_Re_init_23 0 rfl (fun _ h9 => h9) (fun q23 H hP hD hS => ?_)
  have hP : va_P D classes [(a_Re, .inr (3, [.int 0, .int 0, .int 0, .ref q7, .ref q16, .null, .null, .null, .int 0])), (q7, .inl (cI, 40, .inl (fun _ => 0))), (q16, .inl (cI, 6400, .inl (fun _ => 0))), (q23, .inl (cI, 4, .inl (fun _ => 0)))] H := hP
  have hD : va_D A [(a_Re, .inr (3, [.int 0, .int 0, .int 0, .ref q7, .ref q16, .null, .null, .null, .int 0])), (q7, .inl (cI, 40, .inl (fun _ => 0))), (q16, .inl (cI, 6400, .inl (fun _ => 0))), (q23, .inl (cI, 4, .inl (fun _ => 0)))] := hD
  refine va_putF (D := D) (ci := 3) (v := .ref q23) (ty := .array .int) (C := "RemnantDictionary$Remnant") (T := T_Re) (N := 9) hx hb hts (gki3 iw_Re) ty_Re ty_Re_ok nm_Re hown hK hP hD hS 0 rfl rfl 5 (by decide) (hts _ (gk3 (gk k_144))) (fun _ h9 => h9) rfl hin rfl (by decide +kernel) rfl rfl (Nat.le_of_ble_eq_true rfl) d_Re_init_25 (fun H locs hP hD hS => ?_)
  have hP : va_P D classes [(a_Re, .inr (3, [.int 0, .int 0, .int 0, .ref q7, .ref q16, .ref q23, .null, .null, .int 0])), (q7, .inl (cI, 40, .inl (fun _ => 0))), (q16, .inl (cI, 6400, .inl (fun _ => 0))), (q23, .inl (cI, 4, .inl (fun _ => 0)))] H := hP
  have hD : va_D A [(a_Re, .inr (3, [.int 0, .int 0, .int 0, .ref q7, .ref q16, .ref q23, .null, .null, .int 0])), (q7, .inl (cI, 40, .inl (fun _ => 0))), (q16, .inl (cI, 6400, .inl (fun _ => 0))), (q23, .inl (cI, 4, .inl (fun _ => 0)))] := hD
  refine lv_aload_n hx hb d_Re_init_28 rfl (lv_at hl 0 rfl) ?_
  refine lv_sipush (v := 160) hx hb d_Re_init_29 (by decide) ?_
  refine g_newa (atype := .int) (ty := .int) (a0 := (160, .inl (fun _ => 0))) hx hb (hts _ y_546) rfl hK hP hD hS hA (fun _ => rfl) (by decide) (by decide +kernel) (Nat.le_of_ble_eq_true rfl) (Nat.le_of_ble_eq_true rfl) (Nat.le_of_ble_eq_true rfl) d_Re_init_32 0 rfl (fun _ h9 => h9) (fun q32 H hP hD hS => ?_)
  have hP : va_P D classes [(a_Re, .inr (3, [.int 0, .int 0, .int 0, .ref q7, .ref q16, .ref q23, .null, .null, .int 0])), (q7, .inl (cI, 40, .inl (fun _ => 0))), (q16, .inl (cI, 6400, .inl (fun _ => 0))), (q23, .inl (cI, 4, .inl (fun _ => 0))), (q32, .inl (cI, 160, .inl (fun _ => 0)))] H := hP
  have hD : va_D A [(a_Re, .inr (3, [.int 0, .int 0, .int 0, .ref q7, .ref q16, .ref q23, .null, .null, .int 0])), (q7, .inl (cI, 40, .inl (fun _ => 0))), (q16, .inl (cI, 6400, .inl (fun _ => 0))), (q23, .inl (cI, 4, .inl (fun _ => 0))), (q32, .inl (cI, 160, .inl (fun _ => 0)))] := hD
  refine va_putF (D := D) (ci := 3) (v := .ref q32) (ty := .array .int) (C := "RemnantDictionary$Remnant") (T := T_Re) (N := 9) hx hb hts (gki3 iw_Re) ty_Re ty_Re_ok nm_Re hown hK hP hD hS 0 rfl rfl 6 (by decide) (hts _ (gk3 (gk k_174))) (fun _ h9 => h9) rfl hin rfl (by decide +kernel) rfl rfl (Nat.le_of_ble_eq_true rfl) d_Re_init_34 (fun H locs hP hD hS => ?_)
  have hP : va_P D classes [(a_Re, .inr (3, [.int 0, .int 0, .int 0, .ref q7, .ref q16, .ref q23, .ref q32, .null, .int 0])), (q7, .inl (cI, 40, .inl (fun _ => 0))), (q16, .inl (cI, 6400, .inl (fun _ => 0))), (q23, .inl (cI, 4, .inl (fun _ => 0))), (q32, .inl (cI, 160, .inl (fun _ => 0)))] H := hP
  have hD : va_D A [(a_Re, .inr (3, [.int 0, .int 0, .int 0, .ref q7, .ref q16, .ref q23, .ref q32, .null, .int 0])), (q7, .inl (cI, 40, .inl (fun _ => 0))), (q16, .inl (cI, 6400, .inl (fun _ => 0))), (q23, .inl (cI, 4, .inl (fun _ => 0))), (q32, .inl (cI, 160, .inl (fun _ => 0)))] := hD
  refine lv_aload_n hx hb d_Re_init_37 rfl (lv_at hl 0 rfl) ?_
  refine lv_sipush (v := 160) hx hb d_Re_init_38 (by decide) ?_
  refine g_newa (atype := .long) (ty := .long) (a0 := (160, .inr (.inl (fun _ => 0)))) hx hb (hts _ y_547) rfl hK hP hD hS hA (fun _ => rfl) (by decide) (by decide +kernel) (Nat.le_of_ble_eq_true rfl) (Nat.le_of_ble_eq_true rfl) (Nat.le_of_ble_eq_true rfl) d_Re_init_41 1 rfl (fun _ h9 => h9) (fun q41 H hP hD hS => ?_)
  have hP : va_P D classes [(a_Re, .inr (3, [.int 0, .int 0, .int 0, .ref q7, .ref q16, .ref q23, .ref q32, .null, .int 0])), (q7, .inl (cI, 40, .inl (fun _ => 0))), (q16, .inl (cI, 6400, .inl (fun _ => 0))), (q23, .inl (cI, 4, .inl (fun _ => 0))), (q32, .inl (cI, 160, .inl (fun _ => 0))), (q41, .inl (cL, 160, .inr (.inl (fun _ => 0))))] H := hP
  have hD : va_D A [(a_Re, .inr (3, [.int 0, .int 0, .int 0, .ref q7, .ref q16, .ref q23, .ref q32, .null, .int 0])), (q7, .inl (cI, 40, .inl (fun _ => 0))), (q16, .inl (cI, 6400, .inl (fun _ => 0))), (q23, .inl (cI, 4, .inl (fun _ => 0))), (q32, .inl (cI, 160, .inl (fun _ => 0))), (q41, .inl (cL, 160, .inr (.inl (fun _ => 0))))] := hD
  refine va_putF (D := D) (ci := 3) (v := .ref q41) (ty := .array .long) (C := "RemnantDictionary$Remnant") (T := T_Re) (N := 9) hx hb hts (gki3 iw_Re) ty_Re ty_Re_ok nm_Re hown hK hP hD hS 0 rfl rfl 7 (by decide) (hts _ (gk3 (gk k_173))) (fun _ h9 => h9) rfl hin rfl (by decide +kernel) rfl rfl (Nat.le_of_ble_eq_true rfl) d_Re_init_43 (fun H locs hP hD hS => ?_)
  have hP : va_P D classes [(a_Re, .inr (3, [.int 0, .int 0, .int 0, .ref q7, .ref q16, .ref q23, .ref q32, .ref q41, .int 0])), (q7, .inl (cI, 40, .inl (fun _ => 0))), (q16, .inl (cI, 6400, .inl (fun _ => 0))), (q23, .inl (cI, 4, .inl (fun _ => 0))), (q32, .inl (cI, 160, .inl (fun _ => 0))), (q41, .inl (cL, 160, .inr (.inl (fun _ => 0))))] H := hP
  have hD : va_D A [(a_Re, .inr (3, [.int 0, .int 0, .int 0, .ref q7, .ref q16, .ref q23, .ref q32, .ref q41, .int 0])), (q7, .inl (cI, 40, .inl (fun _ => 0))), (q16, .inl (cI, 6400, .inl (fun _ => 0))), (q23, .inl (cI, 4, .inl (fun _ => 0))), (q32, .inl (cI, 160, .inl (fun _ => 0))), (q41, .inl (cL, 160, .inr (.inl (fun _ => 0))))] := hD
  refine W.widen (k := 5) (n := 6764) (Nat.le_of_ble_eq_true rfl) (Nat.le_of_ble_eq_true rfl) ?_
  exact W.vret hx hb hr (fun t ht hW => ⟨⟨(), rfl, trivial, q7, q16, q23, q32, q41, gB_of ht hW.alike hP hK hD⟩, hS.F ht⟩) hS.2.2 d_Re_init_46
theorem d_Le_init_0 : decode c_Le_initb 0 = .ok (.aload_n 0, 1) := by decide +kernel
theorem d_Le_init_1 : decode c_Le_initb 1 = .ok (.invokespecial 3, 3) := by decide +kernel
theorem d_Le_init_4 : decode c_Le_initb 4 = .ok (.aload_n 0, 1) := by decide +kernel
theorem d_Le_init_5 : decode c_Le_initb 5 = .ok (.sipush 160, 3) := by decide +kernel
theorem d_Le_init_8 : decode c_Le_initb 8 = .ok (.newarray .int, 2) := by decide +kernel
theorem d_Le_init_10 : decode c_Le_initb 10 = .ok (.putfield 9, 3) := by decide +kernel
theorem d_Le_init_13 : decode c_Le_initb 13 = .ok (.aload_n 0, 1) := by decide +kernel
theorem d_Le_init_14 : decode c_Le_initb 14 = .ok (.sipush 6400, 3) := by decide +kernel
theorem d_Le_init_17 : decode c_Le_initb 17 = .ok (.newarray .int, 2) := by decide +kernel
theorem d_Le_init_19 : decode c_Le_initb 19 = .ok (.putfield 15, 3) := by decide +kernel
theorem d_Le_init_22 : decode c_Le_initb 22 = .ok (.aload_n 0, 1) := by decide +kernel
theorem d_Le_init_23 : decode c_Le_initb 23 = .ok (.bipush 40, 2) := by decide +kernel
theorem d_Le_init_25 : decode c_Le_initb 25 = .ok (.newarray .int, 2) := by decide +kernel
theorem d_Le_init_27 : decode c_Le_initb 27 = .ok (.putfield 18, 3) := by decide +kernel
theorem d_Le_init_30 : decode c_Le_initb 30 = .ok (.aload_n 0, 1) := by decide +kernel
theorem d_Le_init_31 : decode c_Le_initb 31 = .ok (.sipush 1600, 3) := by decide +kernel
theorem d_Le_init_34 : decode c_Le_initb 34 = .ok (.newarray .int, 2) := by decide +kernel
theorem d_Le_init_36 : decode c_Le_initb 36 = .ok (.putfield 21, 3) := by decide +kernel
theorem d_Le_init_39 : decode c_Le_initb 39 = .ok (.aload_n 0, 1) := by decide +kernel
theorem d_Le_init_40 : decode c_Le_initb 40 = .ok (.sipush 1600, 3) := by decide +kernel
theorem d_Le_init_43 : decode c_Le_initb 43 = .ok (.newarray .int, 2) := by decide +kernel
theorem d_Le_init_45 : decode c_Le_initb 45 = .ok (.putfield 24, 3) := by decide +kernel
theorem d_Le_init_48 : decode c_Le_initb 48 = .ok (.aload_n 0, 1) := by decide +kernel
theorem d_Le_init_49 : decode c_Le_initb 49 = .ok (.sipush 1600, 3) := by decide +kernel
theorem d_Le_init_52 : decode c_Le_initb 52 = .ok (.newarray .int, 2) := by decide +kernel
theorem d_Le_init_54 : decode c_Le_initb 54 = .ok (.putfield 27, 3) := by decide +kernel
theorem d_Le_init_57 : decode c_Le_initb 57 = .ok (.aload_n 0, 1) := by decide +kernel
theorem d_Le_init_58 : decode c_Le_initb 58 = .ok (.bipush 40, 2) := by decide +kernel
theorem d_Le_init_60 : decode c_Le_initb 60 = .ok (.newarray .int, 2) := by decide +kernel
theorem d_Le_init_62 : decode c_Le_initb 62 = .ok (.putfield 30, 3) := by decide +kernel
theorem d_Le_init_65 : decode c_Le_initb 65 = .ok (.aload_n 0, 1) := by decide +kernel
theorem d_Le_init_66 : decode c_Le_initb 66 = .ok (.bipush 40, 2) := by decide +kernel
theorem d_Le_init_68 : decode c_Le_initb 68 = .ok (.newarray .int, 2) := by decide +kernel
theorem d_Le_init_70 : decode c_Le_initb 70 = .ok (.putfield 33, 3) := by decide +kernel
theorem d_Le_init_73 : decode c_Le_initb 73 = .ok (.aload_n 0, 1) := by decide +kernel
theorem d_Le_init_74 : decode c_Le_initb 74 = .ok (.bipush 40, 2) := by decide +kernel
theorem d_Le_init_76 : decode c_Le_initb 76 = .ok (.newarray .int, 2) := by decide +kernel
theorem d_Le_init_78 : decode c_Le_initb 78 = .ok (.putfield 36, 3) := by decide +kernel
theorem d_Le_init_81 : decode c_Le_initb 81 = .ok (.aload_n 0, 1) := by decide +kernel
theorem d_Le_init_82 : decode c_Le_initb 82 = .ok (.bipush 40, 2) := by decide +kernel
theorem d_Le_init_84 : decode c_Le_initb 84 = .ok (.newarray .int, 2) := by decide +kernel
theorem d_Le_init_86 : decode c_Le_initb 86 = .ok (.putfield 39, 3) := by decide +kernel
theorem d_Le_init_89 : decode c_Le_initb 89 = .ok (.return_, 1) := by decide +kernel
abbrev rm_iLe : Room := { frames := 1, cells := 10, slots := 11560, locals := 12 }
set_option maxHeartbeats 4000000 in
set_option maxRecDepth 100000 in
theorem c_iLe (l : Launch) (D : va_G) (cI cL cZ : ClassId) (a_Le : Nat) (sz : Nat) : Met l y_Le_init (.code y_Le_init c_Le_initb 1 none :: gAll3) rm_iLe (va_Pc [.ref a_Le] (gPW D (gT cI cL cZ) [(a_Le, .inr (4, [.int 0, .int 0, .int 0, .null, .null, .null, .int 0, .null, .null, .null, .null, .null, .null, .null]))] sz)) (va_Qv (fun _ : Unit => True) (fun (_ : Unit) t => ∃ q8 q17 q25 q34 q43 q52 q60 q68 q76 q84 : Nat, gB D (gT cI cL cZ) (va_A [(a_Le, .inr (4, [.int 0, .int 0, .int 0, .null, .null, .null, .int 0, .null, .null, .null, .null, .null, .null, .null]))] sz) [(a_Le, .inr (4, [.int 0, .int 0, .int 0, .ref q8, .ref q17, .ref q25, .int 0, .ref q34, .ref q43, .ref q52, .ref q60, .ref q68, .ref q76, .ref q84])), (q8, .inl (cI, 160, .inl (fun _ => 0))), (q17, .inl (cI, 6400, .inl (fun _ => 0))), (q25, .inl (cI, 40, .inl (fun _ => 0))), (q34, .inl (cI, 1600, .inl (fun _ => 0))), (q43, .inl (cI, 1600, .inl (fun _ => 0))), (q52, .inl (cI, 1600, .inl (fun _ => 0))), (q60, .inl (cI, 40, .inl (fun _ => 0))), (q68, .inl (cI, 40, .inl (fun _ => 0))), (q76, .inl (cI, 40, .inl (fun _ => 0))), (q84, .inl (cI, 40, .inl (fun _ => 0)))] () t) (va_A [(a_Le, .inr (4, [.int 0, .int 0, .int 0, .null, .null, .null, .int 0, .null, .null, .null, .null, .null, .null, .null]))] sz)) 10 11560 (va_A [(a_Le, .inr (4, [.int 0, .int 0, .int 0, .null, .null, .null, .int 0, .null, .null, .null, .null, .null, .null, .null]))] sz) := by
  refine Met.ofW (cc := c_Le_initb) (maxL := 1) (ret := none) (by decide +kernel) rfl ?_
  intro p e s m args below meth c s₁ B hml hv
  obtain ⟨rfl, hsz, hP, hK, hN, hD0⟩ := hv
  subst hsz
  have hD := hD0.self (sz := s.heap.size)
  generalize hAe : va_A [(a_Le, .inr (4, [.int 0, .int 0, .int 0, .null, .null, .null, .int 0, .null, .null, .null, .null, .null, .null, .null]))] s.heap.size = A at *
  have hA : ∀ q : Nat, s.heap.size ≤ q → A q := fun q h => by rw [← hAe]; exact Or.inr h
  have hS : va_S A s.heap s.heap [] := va_S.rf
  have hx := B.exec
  have hb := B.bytes
  have hr := B.returns
  have hts : ∀ w ∈ gAll3, w.before ([.ref a_Le] : List Value).toArray s = true := fun w h => atoms_spec (ws := (.code y_Le_init c_Le_initb 1 none :: gAll3)) B.pre w (List.mem_cons_of_mem _ h)
  have hown : s.vm.findClass "RemnantDictionary$Lexicon" = some m.cls := findClass_of_methodNamed B.named
  have hlocks := B.notSynchronized
  have hin : meth.name = "<init>" := (name_of_methodNamed B.named B.method).1
  have hl := lv_entry ([.ref a_Le]) (n := 1) (Nat.le_of_ble_eq_true rfl)
  rw [lg_entry_eq]
  generalize (lg_sl ([.ref a_Le]) ++ List.replicate (1 - (lg_sl ([.ref a_Le])).length) Slot.unset).toArray = ls at hl ⊢
  have hl : lv_has ls 1 [(0, .ref a_Le)] := hl
  refine lv_aload_n hx hb d_Le_init_0 rfl (lv_at hl 0 rfl) ?_
  refine W.objInit hx hb hown (hts _ y_554) (hts _ y_544) (hts _ y_545) rfl (by rw [hml]; exact hl.1) rfl d_Le_init_1 (Nat.le_of_ble_eq_true rfl) (Nat.le_of_ble_eq_true rfl) ?_
  refine W.eq (g2 := F0 m 4 ls []) rfl ?_
  refine lv_aload_n hx hb d_Le_init_4 rfl (lv_at hl 0 rfl) ?_
  refine lv_sipush (v := 160) hx hb d_Le_init_5 (by decide) ?_
  refine g_newa (atype := .int) (ty := .int) (a0 := (160, .inl (fun _ => 0))) hx hb (hts _ y_546) rfl hK hP hD hS hA (fun _ => rfl) (by decide) (by decide +kernel) (Nat.le_of_ble_eq_true rfl) (Nat.le_of_ble_eq_true rfl) (Nat.le_of_ble_eq_true rfl) d_Le_init_8 0 rfl (fun _ h9 => h9) (fun q8 H hP hD hS => ?_)
  have hP : va_P D classes [(a_Le, .inr (4, [.int 0, .int 0, .int 0, .null, .null, .null, .int 0, .null, .null, .null, .null, .null, .null, .null])), (q8, .inl (cI, 160, .inl (fun _ => 0)))] H := hP
  have hD : va_D A [(a_Le, .inr (4, [.int 0, .int 0, .int 0, .null, .null, .null, .int 0, .null, .null, .null, .null, .null, .null, .null])), (q8, .inl (cI, 160, .inl (fun _ => 0)))] := hD
  refine va_putF (D := D) (ci := 4) (v := .ref q8) (ty := .array .int) (C := "RemnantDictionary$Lexicon") (T := T_Le) (N := 14) hx hb hts (gki3 iw_Le) ty_Le ty_Le_ok nm_Le hown hK hP hD hS 0 rfl rfl 3 (by decide) (hts _ (gk3 (gk k_233))) (fun _ h9 => h9) rfl hin rfl (by decide +kernel) rfl rfl (Nat.le_of_ble_eq_true rfl) d_Le_init_10 (fun H locs hP hD hS => ?_)
  have hP : va_P D classes [(a_Le, .inr (4, [.int 0, .int 0, .int 0, .ref q8, .null, .null, .int 0, .null, .null, .null, .null, .null, .null, .null])), (q8, .inl (cI, 160, .inl (fun _ => 0)))] H := hP
  have hD : va_D A [(a_Le, .inr (4, [.int 0, .int 0, .int 0, .ref q8, .null, .null, .int 0, .null, .null, .null, .null, .null, .null, .null])), (q8, .inl (cI, 160, .inl (fun _ => 0)))] := hD
  refine lv_aload_n hx hb d_Le_init_13 rfl (lv_at hl 0 rfl) ?_
  refine lv_sipush (v := 6400) hx hb d_Le_init_14 (by decide) ?_
  refine g_newa (atype := .int) (ty := .int) (a0 := (6400, .inl (fun _ => 0))) hx hb (hts _ y_546) rfl hK hP hD hS hA (fun _ => rfl) (by decide) (by decide +kernel) (Nat.le_of_ble_eq_true rfl) (Nat.le_of_ble_eq_true rfl) (Nat.le_of_ble_eq_true rfl) d_Le_init_17 0 rfl (fun _ h9 => h9) (fun q17 H hP hD hS => ?_)
  have hP : va_P D classes [(a_Le, .inr (4, [.int 0, .int 0, .int 0, .ref q8, .null, .null, .int 0, .null, .null, .null, .null, .null, .null, .null])), (q8, .inl (cI, 160, .inl (fun _ => 0))), (q17, .inl (cI, 6400, .inl (fun _ => 0)))] H := hP
  have hD : va_D A [(a_Le, .inr (4, [.int 0, .int 0, .int 0, .ref q8, .null, .null, .int 0, .null, .null, .null, .null, .null, .null, .null])), (q8, .inl (cI, 160, .inl (fun _ => 0))), (q17, .inl (cI, 6400, .inl (fun _ => 0)))] := hD
  refine va_putF (D := D) (ci := 4) (v := .ref q17) (ty := .array .int) (C := "RemnantDictionary$Lexicon") (T := T_Le) (N := 14) hx hb hts (gki3 iw_Le) ty_Le ty_Le_ok nm_Le hown hK hP hD hS 0 rfl rfl 4 (by decide) (hts _ (gk3 (gk k_246))) (fun _ h9 => h9) rfl hin rfl (by decide +kernel) rfl rfl (Nat.le_of_ble_eq_true rfl) d_Le_init_19 (fun H locs hP hD hS => ?_)
  have hP : va_P D classes [(a_Le, .inr (4, [.int 0, .int 0, .int 0, .ref q8, .ref q17, .null, .int 0, .null, .null, .null, .null, .null, .null, .null])), (q8, .inl (cI, 160, .inl (fun _ => 0))), (q17, .inl (cI, 6400, .inl (fun _ => 0)))] H := hP
  have hD : va_D A [(a_Le, .inr (4, [.int 0, .int 0, .int 0, .ref q8, .ref q17, .null, .int 0, .null, .null, .null, .null, .null, .null, .null])), (q8, .inl (cI, 160, .inl (fun _ => 0))), (q17, .inl (cI, 6400, .inl (fun _ => 0)))] := hD
  refine lv_aload_n hx hb d_Le_init_22 rfl (lv_at hl 0 rfl) ?_
  refine lv_bipush (v := 40) hx hb d_Le_init_23 (by decide) ?_
  refine g_newa (atype := .int) (ty := .int) (a0 := (40, .inl (fun _ => 0))) hx hb (hts _ y_546) rfl hK hP hD hS hA (fun _ => rfl) (by decide) (by decide +kernel) (Nat.le_of_ble_eq_true rfl) (Nat.le_of_ble_eq_true rfl) (Nat.le_of_ble_eq_true rfl) d_Le_init_25 0 rfl (fun _ h9 => h9) (fun q25 H hP hD hS => ?_)
  have hP : va_P D classes [(a_Le, .inr (4, [.int 0, .int 0, .int 0, .ref q8, .ref q17, .null, .int 0, .null, .null, .null, .null, .null, .null, .null])), (q8, .inl (cI, 160, .inl (fun _ => 0))), (q17, .inl (cI, 6400, .inl (fun _ => 0))), (q25, .inl (cI, 40, .inl (fun _ => 0)))] H := hP
  have hD : va_D A [(a_Le, .inr (4, [.int 0, .int 0, .int 0, .ref q8, .ref q17, .null, .int 0, .null, .null, .null, .null, .null, .null, .null])), (q8, .inl (cI, 160, .inl (fun _ => 0))), (q17, .inl (cI, 6400, .inl (fun _ => 0))), (q25, .inl (cI, 40, .inl (fun _ => 0)))] := hD
  refine va_putF (D := D) (ci := 4) (v := .ref q25) (ty := .array .int) (C := "RemnantDictionary$Lexicon") (T := T_Le) (N := 14) hx hb hts (gki3 iw_Le) ty_Le ty_Le_ok nm_Le hown hK hP hD hS 0 rfl rfl 5 (by decide) (hts _ (gk3 (gk k_230))) (fun _ h9 => h9) rfl hin rfl (by decide +kernel) rfl rfl (Nat.le_of_ble_eq_true rfl) d_Le_init_27 (fun H locs hP hD hS => ?_)
  have hP : va_P D classes [(a_Le, .inr (4, [.int 0, .int 0, .int 0, .ref q8, .ref q17, .ref q25, .int 0, .null, .null, .null, .null, .null, .null, .null])), (q8, .inl (cI, 160, .inl (fun _ => 0))), (q17, .inl (cI, 6400, .inl (fun _ => 0))), (q25, .inl (cI, 40, .inl (fun _ => 0)))] H := hP
  have hD : va_D A [(a_Le, .inr (4, [.int 0, .int 0, .int 0, .ref q8, .ref q17, .ref q25, .int 0, .null, .null, .null, .null, .null, .null, .null])), (q8, .inl (cI, 160, .inl (fun _ => 0))), (q17, .inl (cI, 6400, .inl (fun _ => 0))), (q25, .inl (cI, 40, .inl (fun _ => 0)))] := hD
  refine lv_aload_n hx hb d_Le_init_30 rfl (lv_at hl 0 rfl) ?_
  refine lv_sipush (v := 1600) hx hb d_Le_init_31 (by decide) ?_
  refine g_newa (atype := .int) (ty := .int) (a0 := (1600, .inl (fun _ => 0))) hx hb (hts _ y_546) rfl hK hP hD hS hA (fun _ => rfl) (by decide) (by decide +kernel) (Nat.le_of_ble_eq_true rfl) (Nat.le_of_ble_eq_true rfl) (Nat.le_of_ble_eq_true rfl) d_Le_init_34 0 rfl (fun _ h9 => h9) (fun q34 H hP hD hS => ?_)
  have hP : va_P D classes [(a_Le, .inr (4, [.int 0, .int 0, .int 0, .ref q8, .ref q17, .ref q25, .int 0, .null, .null, .null, .null, .null, .null, .null])), (q8, .inl (cI, 160, .inl (fun _ => 0))), (q17, .inl (cI, 6400, .inl (fun _ => 0))), (q25, .inl (cI, 40, .inl (fun _ => 0))), (q34, .inl (cI, 1600, .inl (fun _ => 0)))] H := hP
  have hD : va_D A [(a_Le, .inr (4, [.int 0, .int 0, .int 0, .ref q8, .ref q17, .ref q25, .int 0, .null, .null, .null, .null, .null, .null, .null])), (q8, .inl (cI, 160, .inl (fun _ => 0))), (q17, .inl (cI, 6400, .inl (fun _ => 0))), (q25, .inl (cI, 40, .inl (fun _ => 0))), (q34, .inl (cI, 1600, .inl (fun _ => 0)))] := hD
  refine va_putF (D := D) (ci := 4) (v := .ref q34) (ty := .array .int) (C := "RemnantDictionary$Lexicon") (T := T_Le) (N := 14) hx hb hts (gki3 iw_Le) ty_Le ty_Le_ok nm_Le hown hK hP hD hS 0 rfl rfl 7 (by decide) (hts _ (gk3 (gk k_249))) (fun _ h9 => h9) rfl hin rfl (by decide +kernel) rfl rfl (Nat.le_of_ble_eq_true rfl) d_Le_init_36 (fun H locs hP hD hS => ?_)
  have hP : va_P D classes [(a_Le, .inr (4, [.int 0, .int 0, .int 0, .ref q8, .ref q17, .ref q25, .int 0, .ref q34, .null, .null, .null, .null, .null, .null])), (q8, .inl (cI, 160, .inl (fun _ => 0))), (q17, .inl (cI, 6400, .inl (fun _ => 0))), (q25, .inl (cI, 40, .inl (fun _ => 0))), (q34, .inl (cI, 1600, .inl (fun _ => 0)))] H := hP
  have hD : va_D A [(a_Le, .inr (4, [.int 0, .int 0, .int 0, .ref q8, .ref q17, .ref q25, .int 0, .ref q34, .null, .null, .null, .null, .null, .null])), (q8, .inl (cI, 160, .inl (fun _ => 0))), (q17, .inl (cI, 6400, .inl (fun _ => 0))), (q25, .inl (cI, 40, .inl (fun _ => 0))), (q34, .inl (cI, 1600, .inl (fun _ => 0)))] := hD
  refine lv_aload_n hx hb d_Le_init_39 rfl (lv_at hl 0 rfl) ?_
  refine lv_sipush (v := 1600) hx hb d_Le_init_40 (by decide) ?_
  refine g_newa (atype := .int) (ty := .int) (a0 := (1600, .inl (fun _ => 0))) hx hb (hts _ y_546) rfl hK hP hD hS hA (fun _ => rfl) (by decide) (by decide +kernel) (Nat.le_of_ble_eq_true rfl) (Nat.le_of_ble_eq_true rfl) (Nat.le_of_ble_eq_true rfl) d_Le_init_43 0 rfl (fun _ h9 => h9) (fun q43 H hP hD hS => ?_)
  have hP : va_P D classes [(a_Le, .inr (4, [.int 0, .int 0, .int 0, .ref q8, .ref q17, .ref q25, .int 0, .ref q34, .null, .null, .null, .null, .null, .null])), (q8, .inl (cI, 160, .inl (fun _ => 0))), (q17, .inl (cI, 6400, .inl (fun _ => 0))), (q25, .inl (cI, 40, .inl (fun _ => 0))), (q34, .inl (cI, 1600, .inl (fun _ => 0))), (q43, .inl (cI, 1600, .inl (fun _ => 0)))] H := hP
  have hD : va_D A [(a_Le, .inr (4, [.int 0, .int 0, .int 0, .ref q8, .ref q17, .ref q25, .int 0, .ref q34, .null, .null, .null, .null, .null, .null])), (q8, .inl (cI, 160, .inl (fun _ => 0))), (q17, .inl (cI, 6400, .inl (fun _ => 0))), (q25, .inl (cI, 40, .inl (fun _ => 0))), (q34, .inl (cI, 1600, .inl (fun _ => 0))), (q43, .inl (cI, 1600, .inl (fun _ => 0)))] := hD
  refine va_putF (D := D) (ci := 4) (v := .ref q43) (ty := .array .int) (C := "RemnantDictionary$Lexicon") (T := T_Le) (N := 14) hx hb hts (gki3 iw_Le) ty_Le ty_Le_ok nm_Le hown hK hP hD hS 0 rfl rfl 8 (by decide) (hts _ (gk3 (gk k_237))) (fun _ h9 => h9) rfl hin rfl (by decide +kernel) rfl rfl (Nat.le_of_ble_eq_true rfl) d_Le_init_45 (fun H locs hP hD hS => ?_)
  have hP : va_P D classes [(a_Le, .inr (4, [.int 0, .int 0, .int 0, .ref q8, .ref q17, .ref q25, .int 0, .ref q34, .ref q43, .null, .null, .null, .null, .null])), (q8, .inl (cI, 160, .inl (fun _ => 0))), (q17, .inl (cI, 6400, .inl (fun _ => 0))), (q25, .inl (cI, 40, .inl (fun _ => 0))), (q34, .inl (cI, 1600, .inl (fun _ => 0))), (q43, .inl (cI, 1600, .inl (fun _ => 0)))] H := hP
  have hD : va_D A [(a_Le, .inr (4, [.int 0, .int 0, .int 0, .ref q8, .ref q17, .ref q25, .int 0, .ref q34, .ref q43, .null, .null, .null, .null, .null])), (q8, .inl (cI, 160, .inl (fun _ => 0))), (q17, .inl (cI, 6400, .inl (fun _ => 0))), (q25, .inl (cI, 40, .inl (fun _ => 0))), (q34, .inl (cI, 1600, .inl (fun _ => 0))), (q43, .inl (cI, 1600, .inl (fun _ => 0)))] := hD
  refine lv_aload_n hx hb d_Le_init_48 rfl (lv_at hl 0 rfl) ?_
  refine lv_sipush (v := 1600) hx hb d_Le_init_49 (by decide) ?_
  refine g_newa (atype := .int) (ty := .int) (a0 := (1600, .inl (fun _ => 0))) hx hb (hts _ y_546) rfl hK hP hD hS hA (fun _ => rfl) (by decide) (by decide +kernel) (Nat.le_of_ble_eq_true rfl) (Nat.le_of_ble_eq_true rfl) (Nat.le_of_ble_eq_true rfl) d_Le_init_52 0 rfl (fun _ h9 => h9) (fun q52 H hP hD hS => ?_)
  have hP : va_P D classes [(a_Le, .inr (4, [.int 0, .int 0, .int 0, .ref q8, .ref q17, .ref q25, .int 0, .ref q34, .ref q43, .null, .null, .null, .null, .null])), (q8, .inl (cI, 160, .inl (fun _ => 0))), (q17, .inl (cI, 6400, .inl (fun _ => 0))), (q25, .inl (cI, 40, .inl (fun _ => 0))), (q34, .inl (cI, 1600, .inl (fun _ => 0))), (q43, .inl (cI, 1600, .inl (fun _ => 0))), (q52, .inl (cI, 1600, .inl (fun _ => 0)))] H := hP
  have hD : va_D A [(a_Le, .inr (4, [.int 0, .int 0, .int 0, .ref q8, .ref q17, .ref q25, .int 0, .ref q34, .ref q43, .null, .null, .null, .null, .null])), (q8, .inl (cI, 160, .inl (fun _ => 0))), (q17, .inl (cI, 6400, .inl (fun _ => 0))), (q25, .inl (cI, 40, .inl (fun _ => 0))), (q34, .inl (cI, 1600, .inl (fun _ => 0))), (q43, .inl (cI, 1600, .inl (fun _ => 0))), (q52, .inl (cI, 1600, .inl (fun _ => 0)))] := hD
  refine va_putF (D := D) (ci := 4) (v := .ref q52) (ty := .array .int) (C := "RemnantDictionary$Lexicon") (T := T_Le) (N := 14) hx hb hts (gki3 iw_Le) ty_Le ty_Le_ok nm_Le hown hK hP hD hS 0 rfl rfl 9 (by decide) (hts _ (gk3 (gk k_241))) (fun _ h9 => h9) rfl hin rfl (by decide +kernel) rfl rfl (Nat.le_of_ble_eq_true rfl) d_Le_init_54 (fun H locs hP hD hS => ?_)
  have hP : va_P D classes [(a_Le, .inr (4, [.int 0, .int 0, .int 0, .ref q8, .ref q17, .ref q25, .int 0, .ref q34, .ref q43, .ref q52, .null, .null, .null, .null])), (q8, .inl (cI, 160, .inl (fun _ => 0))), (q17, .inl (cI, 6400, .inl (fun _ => 0))), (q25, .inl (cI, 40, .inl (fun _ => 0))), (q34, .inl (cI, 1600, .inl (fun _ => 0))), (q43, .inl (cI, 1600, .inl (fun _ => 0))), (q52, .inl (cI, 1600, .inl (fun _ => 0)))] H := hP
  have hD : va_D A [(a_Le, .inr (4, [.int 0, .int 0, .int 0, .ref q8, .ref q17, .ref q25, .int 0, .ref q34, .ref q43, .ref q52, .null, .null, .null, .null])), (q8, .inl (cI, 160, .inl (fun _ => 0))), (q17, .inl (cI, 6400, .inl (fun _ => 0))), (q25, .inl (cI, 40, .inl (fun _ => 0))), (q34, .inl (cI, 1600, .inl (fun _ => 0))), (q43, .inl (cI, 1600, .inl (fun _ => 0))), (q52, .inl (cI, 1600, .inl (fun _ => 0)))] := hD
  refine lv_aload_n hx hb d_Le_init_57 rfl (lv_at hl 0 rfl) ?_
  refine lv_bipush (v := 40) hx hb d_Le_init_58 (by decide) ?_
  refine g_newa (atype := .int) (ty := .int) (a0 := (40, .inl (fun _ => 0))) hx hb (hts _ y_546) rfl hK hP hD hS hA (fun _ => rfl) (by decide) (by decide +kernel) (Nat.le_of_ble_eq_true rfl) (Nat.le_of_ble_eq_true rfl) (Nat.le_of_ble_eq_true rfl) d_Le_init_60 0 rfl (fun _ h9 => h9) (fun q60 H hP hD hS => ?_)
  have hP : va_P D classes [(a_Le, .inr (4, [.int 0, .int 0, .int 0, .ref q8, .ref q17, .ref q25, .int 0, .ref q34, .ref q43, .ref q52, .null, .null, .null, .null])), (q8, .inl (cI, 160, .inl (fun _ => 0))), (q17, .inl (cI, 6400, .inl (fun _ => 0))), (q25, .inl (cI, 40, .inl (fun _ => 0))), (q34, .inl (cI, 1600, .inl (fun _ => 0))), (q43, .inl (cI, 1600, .inl (fun _ => 0))), (q52, .inl (cI, 1600, .inl (fun _ => 0))), (q60, .inl (cI, 40, .inl (fun _ => 0)))] H := hP
  have hD : va_D A [(a_Le, .inr (4, [.int 0, .int 0, .int 0, .ref q8, .ref q17, .ref q25, .int 0, .ref q34, .ref q43, .ref q52, .null, .null, .null, .null])), (q8, .inl (cI, 160, .inl (fun _ => 0))), (q17, .inl (cI, 6400, .inl (fun _ => 0))), (q25, .inl (cI, 40, .inl (fun _ => 0))), (q34, .inl (cI, 1600, .inl (fun _ => 0))), (q43, .inl (cI, 1600, .inl (fun _ => 0))), (q52, .inl (cI, 1600, .inl (fun _ => 0))), (q60, .inl (cI, 40, .inl (fun _ => 0)))] := hD
  refine va_putF (D := D) (ci := 4) (v := .ref q60) (ty := .array .int) (C := "RemnantDictionary$Lexicon") (T := T_Le) (N := 14) hx hb hts (gki3 iw_Le) ty_Le ty_Le_ok nm_Le hown hK hP hD hS 0 rfl rfl 10 (by decide) (hts _ (gk3 (gk k_236))) (fun _ h9 => h9) rfl hin rfl (by decide +kernel) rfl rfl (Nat.le_of_ble_eq_true rfl) d_Le_init_62 (fun H locs hP hD hS => ?_)
  have hP : va_P D classes [(a_Le, .inr (4, [.int 0, .int 0, .int 0, .ref q8, .ref q17, .ref q25, .int 0, .ref q34, .ref q43, .ref q52, .ref q60, .null, .null, .null])), (q8, .inl (cI, 160, .inl (fun _ => 0))), (q17, .inl (cI, 6400, .inl (fun _ => 0))), (q25, .inl (cI, 40, .inl (fun _ => 0))), (q34, .inl (cI, 1600, .inl (fun _ => 0))), (q43, .inl (cI, 1600, .inl (fun _ => 0))), (q52, .inl (cI, 1600, .inl (fun _ => 0))), (q60, .inl (cI, 40, .inl (fun _ => 0)))] H := hP
  have hD : va_D A [(a_Le, .inr (4, [.int 0, .int 0, .int 0, .ref q8, .ref q17, .ref q25, .int 0, .ref q34, .ref q43, .ref q52, .ref q60, .null, .null, .null])), (q8, .inl (cI, 160, .inl (fun _ => 0))), (q17, .inl (cI, 6400, .inl (fun _ => 0))), (q25, .inl (cI, 40, .inl (fun _ => 0))), (q34, .inl (cI, 1600, .inl (fun _ => 0))), (q43, .inl (cI, 1600, .inl (fun _ => 0))), (q52, .inl (cI, 1600, .inl (fun _ => 0))), (q60, .inl (cI, 40, .inl (fun _ => 0)))] := hD
  refine lv_aload_n hx hb d_Le_init_65 rfl (lv_at hl 0 rfl) ?_
  refine lv_bipush (v := 40) hx hb d_Le_init_66 (by decide) ?_
  refine g_newa (atype := .int) (ty := .int) (a0 := (40, .inl (fun _ => 0))) hx hb (hts _ y_546) rfl hK hP hD hS hA (fun _ => rfl) (by decide) (by decide +kernel) (Nat.le_of_ble_eq_true rfl) (Nat.le_of_ble_eq_true rfl) (Nat.le_of_ble_eq_true rfl) d_Le_init_68 0 rfl (fun _ h9 => h9) (fun q68 H hP hD hS => ?_)
  have hP : va_P D classes [(a_Le, .inr (4, [.int 0, .int 0, .int 0, .ref q8, .ref q17, .ref q25, .int 0, .ref q34, .ref q43, .ref q52, .ref q60, .null, .null, .null])), (q8, .inl (cI, 160, .inl (fun _ => 0))), (q17, .inl (cI, 6400, .inl (fun _ => 0))), (q25, .inl (cI, 40, .inl (fun _ => 0))), (q34, .inl (cI, 1600, .inl (fun _ => 0))), (q43, .inl (cI, 1600, .inl (fun _ => 0))), (q52, .inl (cI, 1600, .inl (fun _ => 0))), (q60, .inl (cI, 40, .inl (fun _ => 0))), (q68, .inl (cI, 40, .inl (fun _ => 0)))] H := hP
  have hD : va_D A [(a_Le, .inr (4, [.int 0, .int 0, .int 0, .ref q8, .ref q17, .ref q25, .int 0, .ref q34, .ref q43, .ref q52, .ref q60, .null, .null, .null])), (q8, .inl (cI, 160, .inl (fun _ => 0))), (q17, .inl (cI, 6400, .inl (fun _ => 0))), (q25, .inl (cI, 40, .inl (fun _ => 0))), (q34, .inl (cI, 1600, .inl (fun _ => 0))), (q43, .inl (cI, 1600, .inl (fun _ => 0))), (q52, .inl (cI, 1600, .inl (fun _ => 0))), (q60, .inl (cI, 40, .inl (fun _ => 0))), (q68, .inl (cI, 40, .inl (fun _ => 0)))] := hD
  refine va_putF (D := D) (ci := 4) (v := .ref q68) (ty := .array .int) (C := "RemnantDictionary$Lexicon") (T := T_Le) (N := 14) hx hb hts (gki3 iw_Le) ty_Le ty_Le_ok nm_Le hown hK hP hD hS 0 rfl rfl 11 (by decide) (hts _ (gk3 (gk k_243))) (fun _ h9 => h9) rfl hin rfl (by decide +kernel) rfl rfl (Nat.le_of_ble_eq_true rfl) d_Le_init_70 (fun H locs hP hD hS => ?_)
  have hP : va_P D classes [(a_Le, .inr (4, [.int 0, .int 0, .int 0, .ref q8, .ref q17, .ref q25, .int 0, .ref q34, .ref q43, .ref q52, .ref q60, .ref q68, .null, .null])), (q8, .inl (cI, 160, .inl (fun _ => 0))), (q17, .inl (cI, 6400, .inl (fun _ => 0))), (q25, .inl (cI, 40, .inl (fun _ => 0))), (q34, .inl (cI, 1600, .inl (fun _ => 0))), (q43, .inl (cI, 1600, .inl (fun _ => 0))), (q52, .inl (cI, 1600, .inl (fun _ => 0))), (q60, .inl (cI, 40, .inl (fun _ => 0))), (q68, .inl (cI, 40, .inl (fun _ => 0)))] H := hP
  have hD : va_D A [(a_Le, .inr (4, [.int 0, .int 0, .int 0, .ref q8, .ref q17, .ref q25, .int 0, .ref q34, .ref q43, .ref q52, .ref q60, .ref q68, .null, .null])), (q8, .inl (cI, 160, .inl (fun _ => 0))), (q17, .inl (cI, 6400, .inl (fun _ => 0))), (q25, .inl (cI, 40, .inl (fun _ => 0))), (q34, .inl (cI, 1600, .inl (fun _ => 0))), (q43, .inl (cI, 1600, .inl (fun _ => 0))), (q52, .inl (cI, 1600, .inl (fun _ => 0))), (q60, .inl (cI, 40, .inl (fun _ => 0))), (q68, .inl (cI, 40, .inl (fun _ => 0)))] := hD
  refine lv_aload_n hx hb d_Le_init_73 rfl (lv_at hl 0 rfl) ?_
  refine lv_bipush (v := 40) hx hb d_Le_init_74 (by decide) ?_
  refine g_newa (atype := .int) (ty := .int) (a0 := (40, .inl (fun _ => 0))) hx hb (hts _ y_546) rfl hK hP hD hS hA (fun _ => rfl) (by decide) (by decide +kernel) (Nat.le_of_ble_eq_true rfl) (Nat.le_of_ble_eq_true rfl) (Nat.le_of_ble_eq_true rfl) d_Le_init_76 0 rfl (fun _ h9 => h9) (fun q76 H hP hD hS => ?_)
  have hP : va_P D classes [(a_Le, .inr (4, [.int 0, .int 0, .int 0, .ref q8, .ref q17, .ref q25, .int 0, .ref q34, .ref q43, .ref q52, .ref q60, .ref q68, .null, .null])), (q8, .inl (cI, 160, .inl (fun _ => 0))), (q17, .inl (cI, 6400, .inl (fun _ => 0))), (q25, .inl (cI, 40, .inl (fun _ => 0))), (q34, .inl (cI, 1600, .inl (fun _ => 0))), (q43, .inl (cI, 1600, .inl (fun _ => 0))), (q52, .inl (cI, 1600, .inl (fun _ => 0))), (q60, .inl (cI, 40, .inl (fun _ => 0))), (q68, .inl (cI, 40, .inl (fun _ => 0))), (q76, .inl (cI, 40, .inl (fun _ => 0)))] H := hP
  have hD : va_D A [(a_Le, .inr (4, [.int 0, .int 0, .int 0, .ref q8, .ref q17, .ref q25, .int 0, .ref q34, .ref q43, .ref q52, .ref q60, .ref q68, .null, .null])), (q8, .inl (cI, 160, .inl (fun _ => 0))), (q17, .inl (cI, 6400, .inl (fun _ => 0))), (q25, .inl (cI, 40, .inl (fun _ => 0))), (q34, .inl (cI, 1600, .inl (fun _ => 0))), (q43, .inl (cI, 1600, .inl (fun _ => 0))), (q52, .inl (cI, 1600, .inl (fun _ => 0))), (q60, .inl (cI, 40, .inl (fun _ => 0))), (q68, .inl (cI, 40, .inl (fun _ => 0))), (q76, .inl (cI, 40, .inl (fun _ => 0)))] := hD
  refine va_putF (D := D) (ci := 4) (v := .ref q76) (ty := .array .int) (C := "RemnantDictionary$Lexicon") (T := T_Le) (N := 14) hx hb hts (gki3 iw_Le) ty_Le ty_Le_ok nm_Le hown hK hP hD hS 0 rfl rfl 12 (by decide) (hts _ (gk3 (gk k_235))) (fun _ h9 => h9) rfl hin rfl (by decide +kernel) rfl rfl (Nat.le_of_ble_eq_true rfl) d_Le_init_78 (fun H locs hP hD hS => ?_)
  have hP : va_P D classes [(a_Le, .inr (4, [.int 0, .int 0, .int 0, .ref q8, .ref q17, .ref q25, .int 0, .ref q34, .ref q43, .ref q52, .ref q60, .ref q68, .ref q76, .null])), (q8, .inl (cI, 160, .inl (fun _ => 0))), (q17, .inl (cI, 6400, .inl (fun _ => 0))), (q25, .inl (cI, 40, .inl (fun _ => 0))), (q34, .inl (cI, 1600, .inl (fun _ => 0))), (q43, .inl (cI, 1600, .inl (fun _ => 0))), (q52, .inl (cI, 1600, .inl (fun _ => 0))), (q60, .inl (cI, 40, .inl (fun _ => 0))), (q68, .inl (cI, 40, .inl (fun _ => 0))), (q76, .inl (cI, 40, .inl (fun _ => 0)))] H := hP
  have hD : va_D A [(a_Le, .inr (4, [.int 0, .int 0, .int 0, .ref q8, .ref q17, .ref q25, .int 0, .ref q34, .ref q43, .ref q52, .ref q60, .ref q68, .ref q76, .null])), (q8, .inl (cI, 160, .inl (fun _ => 0))), (q17, .inl (cI, 6400, .inl (fun _ => 0))), (q25, .inl (cI, 40, .inl (fun _ => 0))), (q34, .inl (cI, 1600, .inl (fun _ => 0))), (q43, .inl (cI, 1600, .inl (fun _ => 0))), (q52, .inl (cI, 1600, .inl (fun _ => 0))), (q60, .inl (cI, 40, .inl (fun _ => 0))), (q68, .inl (cI, 40, .inl (fun _ => 0))), (q76, .inl (cI, 40, .inl (fun _ => 0)))] := hD
  refine lv_aload_n hx hb d_Le_init_81 rfl (lv_at hl 0 rfl) ?_
  refine lv_bipush (v := 40) hx hb d_Le_init_82 (by decide) ?_
  refine g_newa (atype := .int) (ty := .int) (a0 := (40, .inl (fun _ => 0))) hx hb (hts _ y_546) rfl hK hP hD hS hA (fun _ => rfl) (by decide) (by decide +kernel) (Nat.le_of_ble_eq_true rfl) (Nat.le_of_ble_eq_true rfl) (Nat.le_of_ble_eq_true rfl) d_Le_init_84 0 rfl (fun _ h9 => h9) (fun q84 H hP hD hS => ?_)
  have hP : va_P D classes [(a_Le, .inr (4, [.int 0, .int 0, .int 0, .ref q8, .ref q17, .ref q25, .int 0, .ref q34, .ref q43, .ref q52, .ref q60, .ref q68, .ref q76, .null])), (q8, .inl (cI, 160, .inl (fun _ => 0))), (q17, .inl (cI, 6400, .inl (fun _ => 0))), (q25, .inl (cI, 40, .inl (fun _ => 0))), (q34, .inl (cI, 1600, .inl (fun _ => 0))), (q43, .inl (cI, 1600, .inl (fun _ => 0))), (q52, .inl (cI, 1600, .inl (fun _ => 0))), (q60, .inl (cI, 40, .inl (fun _ => 0))), (q68, .inl (cI, 40, .inl (fun _ => 0))), (q76, .inl (cI, 40, .inl (fun _ => 0))), (q84, .inl (cI, 40, .inl (fun _ => 0)))] H := hP
  have hD : va_D A [(a_Le, .inr (4, [.int 0, .int 0, .int 0, .ref q8, .ref q17, .ref q25, .int 0, .ref q34, .ref q43, .ref q52, .ref q60, .ref q68, .ref q76, .null])), (q8, .inl (cI, 160, .inl (fun _ => 0))), (q17, .inl (cI, 6400, .inl (fun _ => 0))), (q25, .inl (cI, 40, .inl (fun _ => 0))), (q34, .inl (cI, 1600, .inl (fun _ => 0))), (q43, .inl (cI, 1600, .inl (fun _ => 0))), (q52, .inl (cI, 1600, .inl (fun _ => 0))), (q60, .inl (cI, 40, .inl (fun _ => 0))), (q68, .inl (cI, 40, .inl (fun _ => 0))), (q76, .inl (cI, 40, .inl (fun _ => 0))), (q84, .inl (cI, 40, .inl (fun _ => 0)))] := hD
  refine va_putF (D := D) (ci := 4) (v := .ref q84) (ty := .array .int) (C := "RemnantDictionary$Lexicon") (T := T_Le) (N := 14) hx hb hts (gki3 iw_Le) ty_Le ty_Le_ok nm_Le hown hK hP hD hS 0 rfl rfl 13 (by decide) (hts _ (gk3 (gk k_240))) (fun _ h9 => h9) rfl hin rfl (by decide +kernel) rfl rfl (Nat.le_of_ble_eq_true rfl) d_Le_init_86 (fun H locs hP hD hS => ?_)
  have hP : va_P D classes [(a_Le, .inr (4, [.int 0, .int 0, .int 0, .ref q8, .ref q17, .ref q25, .int 0, .ref q34, .ref q43, .ref q52, .ref q60, .ref q68, .ref q76, .ref q84])), (q8, .inl (cI, 160, .inl (fun _ => 0))), (q17, .inl (cI, 6400, .inl (fun _ => 0))), (q25, .inl (cI, 40, .inl (fun _ => 0))), (q34, .inl (cI, 1600, .inl (fun _ => 0))), (q43, .inl (cI, 1600, .inl (fun _ => 0))), (q52, .inl (cI, 1600, .inl (fun _ => 0))), (q60, .inl (cI, 40, .inl (fun _ => 0))), (q68, .inl (cI, 40, .inl (fun _ => 0))), (q76, .inl (cI, 40, .inl (fun _ => 0))), (q84, .inl (cI, 40, .inl (fun _ => 0)))] H := hP
  have hD : va_D A [(a_Le, .inr (4, [.int 0, .int 0, .int 0, .ref q8, .ref q17, .ref q25, .int 0, .ref q34, .ref q43, .ref q52, .ref q60, .ref q68, .ref q76, .ref q84])), (q8, .inl (cI, 160, .inl (fun _ => 0))), (q17, .inl (cI, 6400, .inl (fun _ => 0))), (q25, .inl (cI, 40, .inl (fun _ => 0))), (q34, .inl (cI, 1600, .inl (fun _ => 0))), (q43, .inl (cI, 1600, .inl (fun _ => 0))), (q52, .inl (cI, 1600, .inl (fun _ => 0))), (q60, .inl (cI, 40, .inl (fun _ => 0))), (q68, .inl (cI, 40, .inl (fun _ => 0))), (q76, .inl (cI, 40, .inl (fun _ => 0))), (q84, .inl (cI, 40, .inl (fun _ => 0)))] := hD
  refine W.widen (k := 10) (n := 11560) (Nat.le_of_ble_eq_true rfl) (Nat.le_of_ble_eq_true rfl) ?_
  exact W.vret hx hb hr (fun t ht hW => ⟨⟨(), rfl, trivial, q8, q17, q25, q34, q43, q52, q60, q68, q76, q84, gB_of ht hW.alike hP hK hD⟩, hS.F ht⟩) hS.2.2 d_Le_init_89
