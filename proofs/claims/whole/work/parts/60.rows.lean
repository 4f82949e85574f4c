theorem d_Arrays_rangeCheck_0 : decode c_Arrays_rangeCheckb 0 = .ok (.iload_n 1, 1) := by decide +kernel
theorem d_Arrays_rangeCheck_1 : decode c_Arrays_rangeCheckb 1 = .ok (.iload_n 2, 1) := by decide +kernel
theorem d_Arrays_rangeCheck_2 : decode c_Arrays_rangeCheckb 2 = .ok (.if_icmp .le 44, 3) := by decide +kernel
theorem d_Arrays_rangeCheck_5 : decode c_Arrays_rangeCheckb 5 = .ok (.new 43, 3) := by decide +kernel
theorem d_Arrays_rangeCheck_8 : decode c_Arrays_rangeCheckb 8 = .ok (.dup, 1) := by decide +kernel
theorem d_Arrays_rangeCheck_9 : decode c_Arrays_rangeCheckb 9 = .ok (.new 45, 3) := by decide +kernel
theorem d_Arrays_rangeCheck_12 : decode c_Arrays_rangeCheckb 12 = .ok (.dup, 1) := by decide +kernel
theorem d_Arrays_rangeCheck_13 : decode c_Arrays_rangeCheckb 13 = .ok (.invokespecial 47, 3) := by decide +kernel
theorem d_Arrays_rangeCheck_16 : decode c_Arrays_rangeCheckb 16 = .ok (.ldc 48, 2) := by decide +kernel
theorem d_Arrays_rangeCheck_18 : decode c_Arrays_rangeCheckb 18 = .ok (.invokevirtual 50, 3) := by decide +kernel
theorem d_Arrays_rangeCheck_21 : decode c_Arrays_rangeCheckb 21 = .ok (.iload_n 1, 1) := by decide +kernel
theorem d_Arrays_rangeCheck_22 : decode c_Arrays_rangeCheckb 22 = .ok (.invokevirtual 54, 3) := by decide +kernel
theorem d_Arrays_rangeCheck_25 : decode c_Arrays_rangeCheckb 25 = .ok (.ldc 57, 2) := by decide +kernel
theorem d_Arrays_rangeCheck_27 : decode c_Arrays_rangeCheckb 27 = .ok (.invokevirtual 50, 3) := by decide +kernel
theorem d_Arrays_rangeCheck_30 : decode c_Arrays_rangeCheckb 30 = .ok (.iload_n 2, 1) := by decide +kernel
theorem d_Arrays_rangeCheck_31 : decode c_Arrays_rangeCheckb 31 = .ok (.invokevirtual 54, 3) := by decide +kernel
theorem d_Arrays_rangeCheck_34 : decode c_Arrays_rangeCheckb 34 = .ok (.ldc 59, 2) := by decide +kernel
theorem d_Arrays_rangeCheck_36 : decode c_Arrays_rangeCheckb 36 = .ok (.invokevirtual 50, 3) := by decide +kernel
theorem d_Arrays_rangeCheck_39 : decode c_Arrays_rangeCheckb 39 = .ok (.invokevirtual 61, 3) := by decide +kernel
theorem d_Arrays_rangeCheck_42 : decode c_Arrays_rangeCheckb 42 = .ok (.invokespecial 65, 3) := by decide +kernel
theorem d_Arrays_rangeCheck_45 : decode c_Arrays_rangeCheckb 45 = .ok (.athrow, 1) := by decide +kernel
theorem d_Arrays_rangeCheck_46 : decode c_Arrays_rangeCheckb 46 = .ok (.iload_n 1, 1) := by decide +kernel
theorem d_Arrays_rangeCheck_47 : decode c_Arrays_rangeCheckb 47 = .ok (.ifCond .ge 12, 3) := by decide +kernel
theorem d_Arrays_rangeCheck_50 : decode c_Arrays_rangeCheckb 50 = .ok (.new 68, 3) := by decide +kernel
theorem d_Arrays_rangeCheck_53 : decode c_Arrays_rangeCheckb 53 = .ok (.dup, 1) := by decide +kernel
theorem d_Arrays_rangeCheck_54 : decode c_Arrays_rangeCheckb 54 = .ok (.iload_n 1, 1) := by decide +kernel
theorem d_Arrays_rangeCheck_55 : decode c_Arrays_rangeCheckb 55 = .ok (.invokespecial 70, 3) := by decide +kernel
theorem d_Arrays_rangeCheck_58 : decode c_Arrays_rangeCheckb 58 = .ok (.athrow, 1) := by decide +kernel
theorem d_Arrays_rangeCheck_59 : decode c_Arrays_rangeCheckb 59 = .ok (.iload_n 2, 1) := by decide +kernel
theorem d_Arrays_rangeCheck_60 : decode c_Arrays_rangeCheckb 60 = .ok (.iload_n 0, 1) := by decide +kernel
theorem d_Arrays_rangeCheck_61 : decode c_Arrays_rangeCheckb 61 = .ok (.if_icmp .le 12, 3) := by decide +kernel
theorem d_Arrays_rangeCheck_64 : decode c_Arrays_rangeCheckb 64 = .ok (.new 68, 3) := by decide +kernel
theorem d_Arrays_rangeCheck_67 : decode c_Arrays_rangeCheckb 67 = .ok (.dup, 1) := by decide +kernel
theorem d_Arrays_rangeCheck_68 : decode c_Arrays_rangeCheckb 68 = .ok (.iload_n 2, 1) := by decide +kernel
theorem d_Arrays_rangeCheck_69 : decode c_Arrays_rangeCheckb 69 = .ok (.invokespecial 70, 3) := by decide +kernel
theorem d_Arrays_rangeCheck_72 : decode c_Arrays_rangeCheckb 72 = .ok (.athrow, 1) := by decide +kernel
theorem d_Arrays_rangeCheck_73 : decode c_Arrays_rangeCheckb 73 = .ok (.return_, 1) := by decide +kernel
abbrev rm_rangeCheck : Room := { frames := 0, cells := 0, slots := 0, locals := 0 }
abbrev g_rangeCheck (X : gX)  (pc : Nat) (lv : List (Nat × Value)) (st : List Value) : Prop := ∀ ls : Array Slot, lv_has ls 3 lv → gWW X rm_rangeCheck (gs X).heap [] 0 0 (MQ (gbl X) (va_Sv (fun _ => True)) (ga X) (gs X) 0 0 (fun _ => False)) (F0 (gm X) pc ls st)
set_option maxHeartbeats 4000000 in
set_option maxRecDepth 100000 in
theorem e_rangeCheck (X : gX) (F : Nat)  (C0 : gC X c_Arrays_rangeCheckb none 3 "java/util/Arrays" gAll) (hN : gN (gs X)) (i0 i1 i2 : Int32) (hrun : m_rangeCheck F i0 i1 i2 = some ()) : g_rangeCheck X 0 [(0, .int i0), (1, .int i1), (2, .int i2)] [] := by
  have C1 := C0
  obtain ⟨hx, hb, hr, hml, hown, hts, hlocks⟩ := C1
  unfold m_rangeCheck at hrun
  intro ls hl
  refine lv_iload_n hx hb d_Arrays_rangeCheck_0 rfl (lv_at hl 1 rfl) ?_
  refine lv_iload_n hx hb d_Arrays_rangeCheck_1 rfl (lv_at hl 2 rfl) ?_
  refine g_icmp_le (tgt := 46) hx hb d_Arrays_rangeCheck_2 (by decide) hrun (fun _ hrun => ?_) (fun _ hrun => ?_)
  · refine lv_iload_n hx hb d_Arrays_rangeCheck_46 rfl (lv_at hl 1 rfl) ?_
    refine g_if_ge (tgt := 59) hx hb d_Arrays_rangeCheck_47 (by decide) hrun (fun _ hrun => ?_) (fun _ hrun => ?_)
    · refine lv_iload_n hx hb d_Arrays_rangeCheck_59 rfl (lv_at hl 2 rfl) ?_
      refine lv_iload_n hx hb d_Arrays_rangeCheck_60 rfl (lv_at hl 0 rfl) ?_
      refine g_icmp_le (tgt := 73) hx hb d_Arrays_rangeCheck_61 (by decide) hrun (fun _ hrun => ?_) (fun _ hrun => ?_)
      · cases hrun
        exact W.vret hx hb hr (fun t ht hW => ⟨rfl, trivial, ht⟩) (fun q h => absurd h List.not_mem_nil) d_Arrays_rangeCheck_73
      · cases hrun
    · cases hrun
  · cases hrun
set_option maxHeartbeats 4000000 in
set_option maxRecDepth 100000 in
theorem c_rangeCheck (l : Launch) (F : Nat) (i0 i1 i2 : Int32)  (hrun : m_rangeCheck F i0 i1 i2 = some ()) : Met l y_Arrays_rangeCheck (.code y_Arrays_rangeCheck c_Arrays_rangeCheckb 3 none :: gAll) rm_rangeCheck (va_Pc [.int i0, .int i1, .int i2] gN) (va_Sv (fun _ => True)) 0 0 (fun _ => False) := by
  refine va_MetF (cc := c_Arrays_rangeCheckb) (maxL := 3) (ret := none) (by decide +kernel) rfl ?_
  intro p e s m args below meth c s₁ B hml hv
  obtain ⟨rfl, hN⟩ := hv
  have hl := lv_entry ([.int i0, .int i1, .int i2]) (n := 3) (Nat.le_of_ble_eq_true rfl)
  rw [lg_entry_eq]
  generalize (lg_sl ([.int i0, .int i1, .int i2]) ++ List.replicate (3 - (lg_sl ([.int i0, .int i1, .int i2])).length) Slot.unset).toArray = ls at hl ⊢
  exact e_rangeCheck (p, l, e, s, m, ([.int i0, .int i1, .int i2] : List Value).toArray, below, meth, c) F ⟨B.exec, B.bytes, B.returns, hml, findClass_of_methodNamed B.named, fun w h => atoms_spec (ws := (.code y_Arrays_rangeCheck c_Arrays_rangeCheckb 3 none :: gAll)) B.pre w (List.mem_cons_of_mem _ h), B.notSynchronized⟩ hN i0 i1 i2 hrun ls hl
theorem d_Arrays_fill2_0 : decode c_Arrays_fill2b 0 = .ok (.iconst 0, 1) := by decide +kernel
theorem d_Arrays_fill2_1 : decode c_Arrays_fill2b 1 = .ok (.istore_n 2, 1) := by decide +kernel
theorem d_Arrays_fill2_2 : decode c_Arrays_fill2b 2 = .ok (.aload_n 0, 1) := by decide +kernel
theorem d_Arrays_fill2_3 : decode c_Arrays_fill2b 3 = .ok (.arraylength, 1) := by decide +kernel
theorem d_Arrays_fill2_4 : decode c_Arrays_fill2b 4 = .ok (.istore_n 3, 1) := by decide +kernel
theorem d_Arrays_fill2_5 : decode c_Arrays_fill2b 5 = .ok (.iload_n 2, 1) := by decide +kernel
theorem d_Arrays_fill2_6 : decode c_Arrays_fill2b 6 = .ok (.iload_n 3, 1) := by decide +kernel
theorem d_Arrays_fill2_7 : decode c_Arrays_fill2b 7 = .ok (.if_icmp .ge 13, 3) := by decide +kernel
theorem d_Arrays_fill2_10 : decode c_Arrays_fill2b 10 = .ok (.aload_n 0, 1) := by decide +kernel
theorem d_Arrays_fill2_11 : decode c_Arrays_fill2b 11 = .ok (.iload_n 2, 1) := by decide +kernel
theorem d_Arrays_fill2_12 : decode c_Arrays_fill2b 12 = .ok (.iload_n 1, 1) := by decide +kernel
theorem d_Arrays_fill2_13 : decode c_Arrays_fill2b 13 = .ok (.iastore, 1) := by decide +kernel
theorem d_Arrays_fill2_14 : decode c_Arrays_fill2b 14 = .ok (.iinc 2 1, 3) := by decide +kernel
theorem d_Arrays_fill2_17 : decode c_Arrays_fill2b 17 = .ok (.goto (-12), 3) := by decide +kernel
theorem d_Arrays_fill2_20 : decode c_Arrays_fill2b 20 = .ok (.return_, 1) := by decide +kernel
abbrev ws_fill (a_fA : Nat) (cI cL cZ : ClassId) (nA : Nat) (fA : Nat → Int32) : va_W := [(a_fA, .inl (cI, nA, .inl fA))]
abbrev rm_fill : Room := { frames := 0, cells := 0, slots := 0, locals := 0 }
abbrev g_fill (X : gX) (D : va_G) (cI cL cZ : ClassId) (a_fA nA : Nat) (A : Nat → Prop) (fA_r : Nat → Int32) (pc : Nat) (lv : List (Nat × Value)) (st : List Value) (fA : Nat → Int32) : Prop := ∀ (H : Heap) (locs : List Loc) (ls : Array Slot), va_P D classes (ws_fill a_fA cI cL cZ nA fA) H → va_D A (ws_fill a_fA cI cL cZ nA fA) → va_S A (gs X).heap H locs → lv_has ls 4 lv → gWW X rm_fill H locs 0 0 (MQ (gbl X) (va_Qv (fun _ : Unit => True) (gB D (gT cI cL cZ) A (ws_fill a_fA cI cL cZ nA fA_r)) A) (ga X) (gs X) 0 0 A) (F0 (gm X) pc ls st)
set_option maxHeartbeats 4000000 in
set_option maxRecDepth 100000 in
theorem w_fill_5 (X : gX) (D : va_G) (cI cL cZ : ClassId) (a_fA nA : Nat) (A : Nat → Prop) (fA_r : Nat → Int32) (F : Nat) (C0 : gC X c_Arrays_fill2b none 4 "java/util/Arrays" gAll) (hK : va_K D classes (gT cI cL cZ) (gs X)) (hA : ∀ q : Nat, (gs X).heap.size ≤ q → A q) (hN : gN (gs X)) (k5 : Int32 → Int32 → Int32 → (Nat → Int32) → Option ((Nat → Int32))) (hk5 : ∀ (i1 i2 i3 : Int32) (fA : Nat → Int32), k5 i1 i2 i3 fA = some fA_r → g_fill X D cI cL cZ a_fA nA A fA_r 5 [(0, .ref a_fA), (1, .int i1), (2, .int i2), (3, .int i3)] [] fA) (i1 i2 i3 : Int32) (fA : Nat → Int32) (hrun : s_fill_5 F nA k5 i1 i2 i3 fA = some fA_r) : g_fill X D cI cL cZ a_fA nA A fA_r 5 [(0, .ref a_fA), (1, .int i1), (2, .int i2), (3, .int i3)] [] fA := by
  have C1 := C0
  obtain ⟨hx, hb, hr, hml, hown, hts, hlocks⟩ := C1
  unfold s_fill_5 at hrun
  intro H locs ls hP hD hS hl
  refine lv_iload_n hx hb d_Arrays_fill2_5 rfl (lv_at hl 2 rfl) ?_
  refine lv_iload_n hx hb d_Arrays_fill2_6 rfl (lv_at hl 3 rfl) ?_
  refine g_icmp_ge (tgt := 20) hx hb d_Arrays_fill2_7 (by decide) hrun (fun _ hrun => ?_) (fun _ hrun => ?_)
  · cases hrun
    exact W.vret hx hb hr (fun t ht hW => ⟨⟨(), rfl, trivial, gB_of ht hW.alike hP hK hD⟩, hS.F ht⟩) hS.2.2 d_Arrays_fill2_20
  · refine lv_aload_n hx hb d_Arrays_fill2_10 rfl (lv_at hl 0 rfl) ?_
    refine lv_iload_n hx hb d_Arrays_fill2_11 rfl (lv_at hl 2 rfl) ?_
    refine lv_iload_n hx hb d_Arrays_fill2_12 rfl (lv_at hl 1 rfl) ?_
    refine g_iast hx hb hK hP hD hS 0 0 rfl rfl hrun d_Arrays_fill2_13 (fun fA_1 hrun H locs (hP : va_P D classes (ws_fill a_fA cI cL cZ nA fA_1) H) (hD : va_D A (ws_fill a_fA cI cL cZ nA fA_1)) hS => ?_)
    refine lv_iinc (v := (i2 + 1)) (lv' := [(2, .int (i2 + 1)), (0, .ref a_fA), (1, .int i1), (3, .int i3)]) hx hb d_Arrays_fill2_14 hl (k := 2) rfl rfl (by decide) rfl (fun ls hl => ?_)
    refine lv_goto (tgt := 5) hx hb d_Arrays_fill2_17 (by decide) ?_
    exact hk5 i1 (i2 + 1) i3 fA_1 hrun H locs ls hP hD hS (lv_sub hl [1, 2, 0, 3] rfl)
theorem v_fill_5 (X : gX) (D : va_G) (cI cL cZ : ClassId) (a_fA nA : Nat) (A : Nat → Prop) (fA_r : Nat → Int32) (F : Nat) (C0 : gC X c_Arrays_fill2b none 4 "java/util/Arrays" gAll) (hK : va_K D classes (gT cI cL cZ) (gs X)) (hA : ∀ q : Nat, (gs X).heap.size ≤ q → A q) (hN : gN (gs X))  : ∀ (n : Nat) (i1 i2 i3 : Int32) (fA : Nat → Int32), b_fill_5 F nA n i1 i2 i3 fA = some fA_r → g_fill X D cI cL cZ a_fA nA A fA_r 5 [(0, .ref a_fA), (1, .int i1), (2, .int i2), (3, .int i3)] [] fA := by
  intro n
  induction n with
  | zero => intro i1 i2 i3 fA hrun; cases hrun
  | succ n ih =>
    intro i1 i2 i3 fA hrun
    exact w_fill_5 X D cI cL cZ a_fA nA A fA_r F C0 hK hA hN (b_fill_5 F nA n) ih i1 i2 i3 fA hrun
set_option maxHeartbeats 4000000 in
set_option maxRecDepth 100000 in
theorem e_fill (X : gX) (D : va_G) (cI cL cZ : ClassId) (a_fA nA : Nat) (A : Nat → Prop) (fA_r : Nat → Int32) (F : Nat) (C0 : gC X c_Arrays_fill2b none 4 "java/util/Arrays" gAll) (hK : va_K D classes (gT cI cL cZ) (gs X)) (hA : ∀ q : Nat, (gs X).heap.size ≤ q → A q) (hN : gN (gs X)) (i1 : Int32) (fA : Nat → Int32) (hrun : m_fill F nA i1 fA = some fA_r) : g_fill X D cI cL cZ a_fA nA A fA_r 0 [(0, .ref a_fA), (1, .int i1)] [] fA := by
  have C1 := C0
  obtain ⟨hx, hb, hr, hml, hown, hts, hlocks⟩ := C1
  unfold m_fill at hrun
  intro H locs ls hP hD hS hl
  refine lv_iconst (v := 0) hx hb d_Arrays_fill2_0 (by decide) ?_
  refine lv_istore_n (lv' := [(2, .int 0), (0, .ref a_fA), (1, .int i1)]) hx hb d_Arrays_fill2_1 rfl hl (by decide) rfl (fun ls hl => ?_)
  refine lv_aload_n hx hb d_Arrays_fill2_2 rfl (lv_at hl 1 rfl) ?_
  refine va_alen (v := nI nA) hx hb hK hP 0 0 rfl rfl rfl d_Arrays_fill2_3 ?_
  refine lv_istore_n (lv' := [(3, .int (nI nA)), (2, .int 0), (0, .ref a_fA), (1, .int i1)]) hx hb d_Arrays_fill2_4 rfl hl (by decide) rfl (fun ls hl => ?_)
  exact v_fill_5 X D cI cL cZ a_fA nA A fA_r F C0 hK hA hN  F i1 0 (nI nA) fA hrun H locs ls hP hD hS (lv_sub hl [2, 3, 1, 0] rfl)
set_option maxHeartbeats 4000000 in
set_option maxRecDepth 100000 in
theorem c_fill (l : Launch) (D : va_G) (cI cL cZ : ClassId) (a_fA : Nat) (F : Nat) (nA : Nat) (fA : Nat → Int32) (i1 : Int32) (sz : Nat) (fA_r : Nat → Int32) (hrun : m_fill F nA i1 fA = some fA_r) : Met l y_Arrays_fill2 (.code y_Arrays_fill2 c_Arrays_fill2b 4 none :: gAll) rm_fill (va_Pc [.ref a_fA, .int i1] (gPW D (gT cI cL cZ) (ws_fill a_fA cI cL cZ nA fA) sz)) (va_Qv (fun _ : Unit => True) (gB D (gT cI cL cZ) (va_A (ws_fill a_fA cI cL cZ nA fA) sz) (ws_fill a_fA cI cL cZ nA fA_r)) (va_A (ws_fill a_fA cI cL cZ nA fA) sz)) 0 0 (va_A (ws_fill a_fA cI cL cZ nA fA) sz) := by
  refine va_MetF (cc := c_Arrays_fill2b) (maxL := 4) (ret := none) (by decide +kernel) rfl ?_
  intro p e s m args below meth c s₁ B hml hv
  obtain ⟨rfl, hsz, hP, hK, hN, hD0⟩ := hv
  subst hsz
  have hD := hD0.self (sz := s.heap.size)
  have hl := lv_entry ([.ref a_fA, .int i1]) (n := 4) (Nat.le_of_ble_eq_true rfl)
  rw [lg_entry_eq]
  generalize (lg_sl ([.ref a_fA, .int i1]) ++ List.replicate (4 - (lg_sl ([.ref a_fA, .int i1])).length) Slot.unset).toArray = ls at hl ⊢
  exact e_fill (p, l, e, s, m, ([.ref a_fA, .int i1] : List Value).toArray, below, meth, c) D cI cL cZ a_fA nA (va_A (ws_fill a_fA cI cL cZ nA fA) s.heap.size) fA_r F ⟨B.exec, B.bytes, B.returns, hml, findClass_of_methodNamed B.named, fun w h => atoms_spec (ws := (.code y_Arrays_fill2 c_Arrays_fill2b 4 none :: gAll)) B.pre w (List.mem_cons_of_mem _ h), B.notSynchronized⟩ hK (fun q h => Or.inr h) hN i1 fA hrun s.heap [] ls hP hD va_S.rf hl
theorem d_Arrays_fill3_0 : decode c_Arrays_fill3b 0 = .ok (.aload_n 0, 1) := by decide +kernel
theorem d_Arrays_fill3_1 : decode c_Arrays_fill3b 1 = .ok (.arraylength, 1) := by decide +kernel
theorem d_Arrays_fill3_2 : decode c_Arrays_fill3b 2 = .ok (.iload_n 1, 1) := by decide +kernel
theorem d_Arrays_fill3_3 : decode c_Arrays_fill3b 3 = .ok (.iload_n 2, 1) := by decide +kernel
theorem d_Arrays_fill3_4 : decode c_Arrays_fill3b 4 = .ok (.invokestatic 13, 3) := by decide +kernel
theorem d_Arrays_fill3_7 : decode c_Arrays_fill3b 7 = .ok (.iload_n 1, 1) := by decide +kernel
theorem d_Arrays_fill3_8 : decode c_Arrays_fill3b 8 = .ok (.istore 4, 2) := by decide +kernel
theorem d_Arrays_fill3_10 : decode c_Arrays_fill3b 10 = .ok (.iload 4, 2) := by decide +kernel
theorem d_Arrays_fill3_12 : decode c_Arrays_fill3b 12 = .ok (.iload_n 2, 1) := by decide +kernel
theorem d_Arrays_fill3_13 : decode c_Arrays_fill3b 13 = .ok (.if_icmp .ge 14, 3) := by decide +kernel
theorem d_Arrays_fill3_16 : decode c_Arrays_fill3b 16 = .ok (.aload_n 0, 1) := by decide +kernel
theorem d_Arrays_fill3_17 : decode c_Arrays_fill3b 17 = .ok (.iload 4, 2) := by decide +kernel
theorem d_Arrays_fill3_19 : decode c_Arrays_fill3b 19 = .ok (.iload_n 3, 1) := by decide +kernel
theorem d_Arrays_fill3_20 : decode c_Arrays_fill3b 20 = .ok (.iastore, 1) := by decide +kernel
theorem d_Arrays_fill3_21 : decode c_Arrays_fill3b 21 = .ok (.iinc 4 1, 3) := by decide +kernel
theorem d_Arrays_fill3_24 : decode c_Arrays_fill3b 24 = .ok (.goto (-14), 3) := by decide +kernel
theorem d_Arrays_fill3_27 : decode c_Arrays_fill3b 27 = .ok (.return_, 1) := by decide +kernel
abbrev ws_fillR (a_fA : Nat) (cI cL cZ : ClassId) (nA : Nat) (fA : Nat → Int32) : va_W := [(a_fA, .inl (cI, nA, .inl fA))]
abbrev rm_fillR : Room := { frames := 1, cells := 0, slots := 0, locals := 22 }
abbrev g_fillR (X : gX) (D : va_G) (cI cL cZ : ClassId) (a_fA nA : Nat) (A : Nat → Prop) (fA_r : Nat → Int32) (pc : Nat) (lv : List (Nat × Value)) (st : List Value) (fA : Nat → Int32) : Prop := ∀ (H : Heap) (locs : List Loc) (ls : Array Slot), va_P D classes (ws_fillR a_fA cI cL cZ nA fA) H → va_D A (ws_fillR a_fA cI cL cZ nA fA) → va_S A (gs X).heap H locs → lv_has ls 5 lv → gWW X rm_fillR H locs 0 0 (MQ (gbl X) (va_Qv (fun _ : Unit => True) (gB D (gT cI cL cZ) A (ws_fillR a_fA cI cL cZ nA fA_r)) A) (ga X) (gs X) 0 0 A) (F0 (gm X) pc ls st)
set_option maxHeartbeats 4000000 in
set_option maxRecDepth 100000 in
theorem w_fillR_10 (X : gX) (D : va_G) (cI cL cZ : ClassId) (a_fA nA : Nat) (A : Nat → Prop) (fA_r : Nat → Int32) (F : Nat) (C0 : gC X c_Arrays_fill3b none 5 "java/util/Arrays" gAll) (hK : va_K D classes (gT cI cL cZ) (gs X)) (hA : ∀ q : Nat, (gs X).heap.size ≤ q → A q) (hN : gN (gs X)) (k10 : Int32 → Int32 → Int32 → (Nat → Int32) → Option ((Nat → Int32))) (hk10 : ∀ (i2 i3 i4 : Int32) (fA : Nat → Int32), k10 i2 i3 i4 fA = some fA_r → g_fillR X D cI cL cZ a_fA nA A fA_r 10 [(0, .ref a_fA), (2, .int i2), (3, .int i3), (4, .int i4)] [] fA) (i2 i3 i4 : Int32) (fA : Nat → Int32) (hrun : s_fillR_10 F nA k10 i2 i3 i4 fA = some fA_r) : g_fillR X D cI cL cZ a_fA nA A fA_r 10 [(0, .ref a_fA), (2, .int i2), (3, .int i3), (4, .int i4)] [] fA := by
  have C1 := C0
  obtain ⟨hx, hb, hr, hml, hown, hts, hlocks⟩ := C1
  unfold s_fillR_10 at hrun
  intro H locs ls hP hD hS hl
  refine lv_iload hx hb d_Arrays_fill3_10 (lv_at hl 3 rfl) ?_
  refine lv_iload_n hx hb d_Arrays_fill3_12 rfl (lv_at hl 1 rfl) ?_
  refine g_icmp_ge (tgt := 27) hx hb d_Arrays_fill3_13 (by decide) hrun (fun _ hrun => ?_) (fun _ hrun => ?_)
  · cases hrun
    exact W.vret hx hb hr (fun t ht hW => ⟨⟨(), rfl, trivial, gB_of ht hW.alike hP hK hD⟩, hS.F ht⟩) hS.2.2 d_Arrays_fill3_27
  · refine lv_aload_n hx hb d_Arrays_fill3_16 rfl (lv_at hl 0 rfl) ?_
    refine lv_iload hx hb d_Arrays_fill3_17 (lv_at hl 3 rfl) ?_
    refine lv_iload_n hx hb d_Arrays_fill3_19 rfl (lv_at hl 2 rfl) ?_
    refine g_iast hx hb hK hP hD hS 0 0 rfl rfl hrun d_Arrays_fill3_20 (fun fA_1 hrun H locs (hP : va_P D classes (ws_fillR a_fA cI cL cZ nA fA_1) H) (hD : va_D A (ws_fillR a_fA cI cL cZ nA fA_1)) hS => ?_)
    refine lv_iinc (v := (i4 + 1)) (lv' := [(4, .int (i4 + 1)), (0, .ref a_fA), (2, .int i2), (3, .int i3)]) hx hb d_Arrays_fill3_21 hl (k := 3) rfl rfl (by decide) rfl (fun ls hl => ?_)
    refine lv_goto (tgt := 10) hx hb d_Arrays_fill3_24 (by decide) ?_
    exact hk10 i2 i3 (i4 + 1) fA_1 hrun H locs ls hP hD hS (lv_sub hl [1, 2, 3, 0] rfl)
theorem v_fillR_10 (X : gX) (D : va_G) (cI cL cZ : ClassId) (a_fA nA : Nat) (A : Nat → Prop) (fA_r : Nat → Int32) (F : Nat) (C0 : gC X c_Arrays_fill3b none 5 "java/util/Arrays" gAll) (hK : va_K D classes (gT cI cL cZ) (gs X)) (hA : ∀ q : Nat, (gs X).heap.size ≤ q → A q) (hN : gN (gs X))  : ∀ (n : Nat) (i2 i3 i4 : Int32) (fA : Nat → Int32), b_fillR_10 F nA n i2 i3 i4 fA = some fA_r → g_fillR X D cI cL cZ a_fA nA A fA_r 10 [(0, .ref a_fA), (2, .int i2), (3, .int i3), (4, .int i4)] [] fA := by
  intro n
  induction n with
  | zero => intro i2 i3 i4 fA hrun; cases hrun
  | succ n ih =>
    intro i2 i3 i4 fA hrun
    exact w_fillR_10 X D cI cL cZ a_fA nA A fA_r F C0 hK hA hN (b_fillR_10 F nA n) ih i2 i3 i4 fA hrun
set_option maxHeartbeats 4000000 in
set_option maxRecDepth 100000 in
theorem e_fillR (X : gX) (D : va_G) (cI cL cZ : ClassId) (a_fA nA : Nat) (A : Nat → Prop) (fA_r : Nat → Int32) (F : Nat) (C0 : gC X c_Arrays_fill3b none 5 "java/util/Arrays" gAll) (hK : va_K D classes (gT cI cL cZ) (gs X)) (hA : ∀ q : Nat, (gs X).heap.size ≤ q → A q) (hN : gN (gs X)) (i1 i2 i3 : Int32) (fA : Nat → Int32) (hrun : m_fillR F nA i1 i2 i3 fA = some fA_r) : g_fillR X D cI cL cZ a_fA nA A fA_r 0 [(0, .ref a_fA), (1, .int i1), (2, .int i2), (3, .int i3)] [] fA := by
  have C1 := C0
  obtain ⟨hx, hb, hr, hml, hown, hts, hlocks⟩ := C1
  unfold m_fillR at hrun
  intro H locs ls hP hD hS hl
  refine lv_aload_n hx hb d_Arrays_fill3_0 rfl (lv_at hl 0 rfl) ?_
  refine va_alen (v := nI nA) hx hb hK hP 0 0 rfl rfl rfl d_Arrays_fill3_1 ?_
  refine lv_iload_n hx hb d_Arrays_fill3_2 rfl (lv_at hl 1 rfl) ?_
  refine lv_iload_n hx hb d_Arrays_fill3_3 rfl (lv_at hl 2 rfl) ?_
  obtain ⟨hc, hrun⟩ := bd0_s hrun
  refine va_csv (W.runS (As := [.int (nI nA), .int i1, .int i2]) (rest := []) ⟨hx, hb, hml, hown, hts⟩ (c_rangeCheck (gl X) F (nI nA) i1 i2  hc) (va_cwS 3 hts (gwS k_5 k_3 k_4 k_0) rfl rfl rfl (by decide +kernel) ⟨Nat.le_of_ble_eq_true rfl, Nat.le_of_ble_eq_true rfl⟩) (gpreS0 hN) rfl rfl hl.1 rfl (lv_room (Nat.le_of_ble_eq_true rfl)) d_Arrays_fill3_4 ⟨Nat.le_of_ble_eq_true rfl, Nat.le_of_ble_eq_true rfl⟩) (fun _ => ?_)
  refine lv_iload_n hx hb d_Arrays_fill3_7 rfl (lv_at hl 1 rfl) ?_
  refine lv_istore (lv' := [(4, .int i1), (0, .ref a_fA), (1, .int i1), (2, .int i2), (3, .int i3)]) hx hb d_Arrays_fill3_8 hl (by decide) rfl (fun ls hl => ?_)
  exact v_fillR_10 X D cI cL cZ a_fA nA A fA_r F C0 hK hA hN  F i2 i3 i1 fA hrun H locs ls hP hD hS (lv_sub hl [1, 3, 4, 0] rfl)
set_option maxHeartbeats 4000000 in
set_option maxRecDepth 100000 in
theorem c_fillR (l : Launch) (D : va_G) (cI cL cZ : ClassId) (a_fA : Nat) (F : Nat) (nA : Nat) (fA : Nat → Int32) (i1 i2 i3 : Int32) (sz : Nat) (fA_r : Nat → Int32) (hrun : m_fillR F nA i1 i2 i3 fA = some fA_r) : Met l y_Arrays_fill3 (.code y_Arrays_fill3 c_Arrays_fill3b 5 none :: gAll) rm_fillR (va_Pc [.ref a_fA, .int i1, .int i2, .int i3] (gPW D (gT cI cL cZ) (ws_fillR a_fA cI cL cZ nA fA) sz)) (va_Qv (fun _ : Unit => True) (gB D (gT cI cL cZ) (va_A (ws_fillR a_fA cI cL cZ nA fA) sz) (ws_fillR a_fA cI cL cZ nA fA_r)) (va_A (ws_fillR a_fA cI cL cZ nA fA) sz)) 0 0 (va_A (ws_fillR a_fA cI cL cZ nA fA) sz) := by
  refine va_MetF (cc := c_Arrays_fill3b) (maxL := 5) (ret := none) (by decide +kernel) rfl ?_
  intro p e s m args below meth c s₁ B hml hv
  obtain ⟨rfl, hsz, hP, hK, hN, hD0⟩ := hv
  subst hsz
  have hD := hD0.self (sz := s.heap.size)
  have hl := lv_entry ([.ref a_fA, .int i1, .int i2, .int i3]) (n := 5) (Nat.le_of_ble_eq_true rfl)
  rw [lg_entry_eq]
  generalize (lg_sl ([.ref a_fA, .int i1, .int i2, .int i3]) ++ List.replicate (5 - (lg_sl ([.ref a_fA, .int i1, .int i2, .int i3])).length) Slot.unset).toArray = ls at hl ⊢
  exact e_fillR (p, l, e, s, m, ([.ref a_fA, .int i1, .int i2, .int i3] : List Value).toArray, below, meth, c) D cI cL cZ a_fA nA (va_A (ws_fillR a_fA cI cL cZ nA fA) s.heap.size) fA_r F ⟨B.exec, B.bytes, B.returns, hml, findClass_of_methodNamed B.named, fun w h => atoms_spec (ws := (.code y_Arrays_fill3 c_Arrays_fill3b 5 none :: gAll)) B.pre w (List.mem_cons_of_mem _ h), B.notSynchronized⟩ hK (fun q h => Or.inr h) hN i1 i2 i3 fA hrun s.heap [] ls hP hD va_S.rf hl
theorem d_Math_floorMod0_0 : decode c_Math_floorMod0b 0 = .ok (.iload_n 0, 1) := by decide +kernel
theorem d_Math_floorMod0_1 : decode c_Math_floorMod0b 1 = .ok (.iload_n 1, 1) := by decide +kernel
theorem d_Math_floorMod0_2 : decode c_Math_floorMod0b 2 = .ok (.irem, 1) := by decide +kernel
theorem d_Math_floorMod0_3 : decode c_Math_floorMod0b 3 = .ok (.istore_n 2, 1) := by decide +kernel
theorem d_Math_floorMod0_4 : decode c_Math_floorMod0b 4 = .ok (.iload_n 0, 1) := by decide +kernel
theorem d_Math_floorMod0_5 : decode c_Math_floorMod0b 5 = .ok (.iload_n 1, 1) := by decide +kernel
theorem d_Math_floorMod0_6 : decode c_Math_floorMod0b 6 = .ok (.ixor, 1) := by decide +kernel
theorem d_Math_floorMod0_7 : decode c_Math_floorMod0b 7 = .ok (.ifCond .ge 11, 3) := by decide +kernel
theorem d_Math_floorMod0_10 : decode c_Math_floorMod0b 10 = .ok (.iload_n 2, 1) := by decide +kernel
theorem d_Math_floorMod0_11 : decode c_Math_floorMod0b 11 = .ok (.ifCond .eq 7, 3) := by decide +kernel
theorem d_Math_floorMod0_14 : decode c_Math_floorMod0b 14 = .ok (.iload_n 2, 1) := by decide +kernel
theorem d_Math_floorMod0_15 : decode c_Math_floorMod0b 15 = .ok (.iload_n 1, 1) := by decide +kernel
theorem d_Math_floorMod0_16 : decode c_Math_floorMod0b 16 = .ok (.iadd, 1) := by decide +kernel
theorem d_Math_floorMod0_17 : decode c_Math_floorMod0b 17 = .ok (.ireturn, 1) := by decide +kernel
theorem d_Math_floorMod0_18 : decode c_Math_floorMod0b 18 = .ok (.iload_n 2, 1) := by decide +kernel
theorem d_Math_floorMod0_19 : decode c_Math_floorMod0b 19 = .ok (.ireturn, 1) := by decide +kernel
abbrev rm_floorMod : Room := { frames := 0, cells := 0, slots := 0, locals := 0 }
abbrev g_floorMod (X : gX) (r_ : Int32) (pc : Nat) (lv : List (Nat × Value)) (st : List Value) : Prop := ∀ ls : Array Slot, lv_has ls 3 lv → gWW X rm_floorMod (gs X).heap [] 0 0 (MQ (gbl X) (vp_Si (fun r => r = r_)) (ga X) (gs X) 0 0 (fun _ => False)) (F0 (gm X) pc ls st)
set_option maxHeartbeats 4000000 in
set_option maxRecDepth 100000 in
theorem e_floorMod (X : gX) (F : Nat) (r_ : Int32) (C0 : gC X c_Math_floorMod0b (some .int) 3 "java/lang/Math" gAll) (hN : gN (gs X)) (i0 i1 : Int32) (hrun : m_floorMod F i0 i1 = some r_) : g_floorMod X r_ 0 [(0, .int i0), (1, .int i1)] [] := by
  have C1 := C0
  obtain ⟨hx, hb, hr, hml, hown, hts, hlocks⟩ := C1
  unfold m_floorMod at hrun
  intro ls hl
  refine lv_iload_n hx hb d_Math_floorMod0_0 rfl (lv_at hl 0 rfl) ?_
  refine lv_iload_n hx hb d_Math_floorMod0_1 rfl (lv_at hl 1 rfl) ?_
  refine g_irem hx hb d_Math_floorMod0_2 hrun (fun hrun => ?_)
  refine lv_istore_n (lv' := [(2, .int (remI i0 i1)), (0, .int i0), (1, .int i1)]) hx hb d_Math_floorMod0_3 rfl hl (by decide) rfl (fun ls hl => ?_)
  refine lv_iload_n hx hb d_Math_floorMod0_4 rfl (lv_at hl 1 rfl) ?_
  refine lv_iload_n hx hb d_Math_floorMod0_5 rfl (lv_at hl 2 rfl) ?_
  refine lv_ixor hx hb d_Math_floorMod0_6 ?_
  refine g_if_ge (tgt := 18) hx hb d_Math_floorMod0_7 (by decide) hrun (fun _ hrun => ?_) (fun _ hrun => ?_)
  · refine lv_iload_n hx hb d_Math_floorMod0_18 rfl (lv_at hl 0 rfl) ?_
    cases hrun
    exact W.iret hx hb hr (fun t ht hW => ⟨_, rfl, rfl, ht⟩) (fun q h => absurd h List.not_mem_nil) d_Math_floorMod0_19
  · refine lv_iload_n hx hb d_Math_floorMod0_10 rfl (lv_at hl 0 rfl) ?_
    refine g_if_eq (tgt := 18) hx hb d_Math_floorMod0_11 (by decide) hrun (fun _ hrun => ?_) (fun _ hrun => ?_)
    · refine lv_iload_n hx hb d_Math_floorMod0_18 rfl (lv_at hl 0 rfl) ?_
      cases hrun
      exact W.iret hx hb hr (fun t ht hW => ⟨_, rfl, rfl, ht⟩) (fun q h => absurd h List.not_mem_nil) d_Math_floorMod0_19
    · refine lv_iload_n hx hb d_Math_floorMod0_14 rfl (lv_at hl 0 rfl) ?_
      refine lv_iload_n hx hb d_Math_floorMod0_15 rfl (lv_at hl 2 rfl) ?_
      refine lv_iadd hx hb d_Math_floorMod0_16 ?_
      cases hrun
      exact W.iret hx hb hr (fun t ht hW => ⟨_, rfl, rfl, ht⟩) (fun q h => absurd h List.not_mem_nil) d_Math_floorMod0_17
set_option maxHeartbeats 4000000 in
set_option maxRecDepth 100000 in
theorem c_floorMod (l : Launch) (F : Nat) (i0 i1 : Int32) (r_ : Int32) (hrun : m_floorMod F i0 i1 = some r_) : Met l y_Math_floorMod0 (.code y_Math_floorMod0 c_Math_floorMod0b 3 (some .int) :: gAll) rm_floorMod (va_Pc [.int i0, .int i1] gN) (vp_Si (fun r => r = r_)) 0 0 (fun _ => False) := by
  refine va_MetF (cc := c_Math_floorMod0b) (maxL := 3) (ret := (some .int)) (by decide +kernel) rfl ?_
  intro p e s m args below meth c s₁ B hml hv
  obtain ⟨rfl, hN⟩ := hv
  have hl := lv_entry ([.int i0, .int i1]) (n := 3) (Nat.le_of_ble_eq_true rfl)
  rw [lg_entry_eq]
  generalize (lg_sl ([.int i0, .int i1]) ++ List.replicate (3 - (lg_sl ([.int i0, .int i1])).length) Slot.unset).toArray = ls at hl ⊢
  exact e_floorMod (p, l, e, s, m, ([.int i0, .int i1] : List Value).toArray, below, meth, c) F r_ ⟨B.exec, B.bytes, B.returns, hml, findClass_of_methodNamed B.named, fun w h => atoms_spec (ws := (.code y_Math_floorMod0 c_Math_floorMod0b 3 (some .int) :: gAll)) B.pre w (List.mem_cons_of_mem _ h), B.notSynchronized⟩ hN i0 i1 hrun ls hl
theorem d_RD_isPrime_0 : decode c_RD_isPrimeb 0 = .ok (.iload_n 0, 1) := by decide +kernel
theorem d_RD_isPrime_1 : decode c_RD_isPrimeb 1 = .ok (.iconst 2, 1) := by decide +kernel
theorem d_RD_isPrime_2 : decode c_RD_isPrimeb 2 = .ok (.if_icmp .lt 10, 3) := by decide +kernel
theorem d_RD_isPrime_5 : decode c_RD_isPrimeb 5 = .ok (.iload_n 0, 1) := by decide +kernel
theorem d_RD_isPrime_6 : decode c_RD_isPrimeb 6 = .ok (.sipush 32003, 3) := by decide +kernel
theorem d_RD_isPrime_9 : decode c_RD_isPrimeb 9 = .ok (.if_icmp .le 5, 3) := by decide +kernel
theorem d_RD_isPrime_12 : decode c_RD_isPrimeb 12 = .ok (.iconst 0, 1) := by decide +kernel
theorem d_RD_isPrime_13 : decode c_RD_isPrimeb 13 = .ok (.ireturn, 1) := by decide +kernel
theorem d_RD_isPrime_14 : decode c_RD_isPrimeb 14 = .ok (.iconst 2, 1) := by decide +kernel
theorem d_RD_isPrime_15 : decode c_RD_isPrimeb 15 = .ok (.istore_n 1, 1) := by decide +kernel
theorem d_RD_isPrime_16 : decode c_RD_isPrimeb 16 = .ok (.iload_n 1, 1) := by decide +kernel
theorem d_RD_isPrime_17 : decode c_RD_isPrimeb 17 = .ok (.iload_n 1, 1) := by decide +kernel
theorem d_RD_isPrime_18 : decode c_RD_isPrimeb 18 = .ok (.imul, 1) := by decide +kernel
theorem d_RD_isPrime_19 : decode c_RD_isPrimeb 19 = .ok (.iload_n 0, 1) := by decide +kernel
theorem d_RD_isPrime_20 : decode c_RD_isPrimeb 20 = .ok (.if_icmp .gt 17, 3) := by decide +kernel
theorem d_RD_isPrime_23 : decode c_RD_isPrimeb 23 = .ok (.iload_n 0, 1) := by decide +kernel
theorem d_RD_isPrime_24 : decode c_RD_isPrimeb 24 = .ok (.iload_n 1, 1) := by decide +kernel
theorem d_RD_isPrime_25 : decode c_RD_isPrimeb 25 = .ok (.irem, 1) := by decide +kernel
theorem d_RD_isPrime_26 : decode c_RD_isPrimeb 26 = .ok (.ifCond .ne 5, 3) := by decide +kernel
theorem d_RD_isPrime_29 : decode c_RD_isPrimeb 29 = .ok (.iconst 0, 1) := by decide +kernel
theorem d_RD_isPrime_30 : decode c_RD_isPrimeb 30 = .ok (.ireturn, 1) := by decide +kernel
theorem d_RD_isPrime_31 : decode c_RD_isPrimeb 31 = .ok (.iinc 1 1, 3) := by decide +kernel
theorem d_RD_isPrime_34 : decode c_RD_isPrimeb 34 = .ok (.goto (-18), 3) := by decide +kernel
theorem d_RD_isPrime_37 : decode c_RD_isPrimeb 37 = .ok (.iconst 1, 1) := by decide +kernel
theorem d_RD_isPrime_38 : decode c_RD_isPrimeb 38 = .ok (.ireturn, 1) := by decide +kernel
abbrev rm_isPrime : Room := { frames := 0, cells := 0, slots := 0, locals := 0 }
abbrev g_isPrime (X : gX) (r_ : Int32) (pc : Nat) (lv : List (Nat × Value)) (st : List Value) : Prop := ∀ ls : Array Slot, lv_has ls 2 lv → gWW X rm_isPrime (gs X).heap [] 0 0 (MQ (gbl X) (vp_Si (fun r => r = r_)) (ga X) (gs X) 0 0 (fun _ => False)) (F0 (gm X) pc ls st)
set_option maxHeartbeats 4000000 in
set_option maxRecDepth 100000 in
theorem w_isPrime_16 (X : gX) (F : Nat) (r_ : Int32) (C0 : gC X c_RD_isPrimeb (some .boolean) 2 "RemnantDictionary" gAll) (hN : gN (gs X)) (k16 : Int32 → Int32 → Option (Int32)) (hk16 : ∀ (i0 i1 : Int32), k16 i0 i1 = some r_ → g_isPrime X r_ 16 [(0, .int i0), (1, .int i1)] []) (i0 i1 : Int32) (hrun : s_isPrime_16 F k16 i0 i1 = some r_) : g_isPrime X r_ 16 [(0, .int i0), (1, .int i1)] [] := by
  have C1 := C0
  obtain ⟨hx, hb, hr, hml, hown, hts, hlocks⟩ := C1
  unfold s_isPrime_16 at hrun
  intro ls hl
  refine lv_iload_n hx hb d_RD_isPrime_16 rfl (lv_at hl 1 rfl) ?_
  refine lv_iload_n hx hb d_RD_isPrime_17 rfl (lv_at hl 1 rfl) ?_
  refine lv_imul hx hb d_RD_isPrime_18 ?_
  refine lv_iload_n hx hb d_RD_isPrime_19 rfl (lv_at hl 0 rfl) ?_
  refine g_icmp_gt (tgt := 37) hx hb d_RD_isPrime_20 (by decide) hrun (fun _ hrun => ?_) (fun _ hrun => ?_)
  · refine lv_iconst (v := 1) hx hb d_RD_isPrime_37 (by decide) ?_
    cases hrun
    exact W.zret hx hb hr rfl (fun t ht hW => ⟨_, rfl, rfl, ht⟩) (fun q h => absurd h List.not_mem_nil) d_RD_isPrime_38
  · refine lv_iload_n hx hb d_RD_isPrime_23 rfl (lv_at hl 0 rfl) ?_
    refine lv_iload_n hx hb d_RD_isPrime_24 rfl (lv_at hl 1 rfl) ?_
    refine g_irem hx hb d_RD_isPrime_25 hrun (fun hrun => ?_)
    refine g_if_ne (tgt := 31) hx hb d_RD_isPrime_26 (by decide) hrun (fun _ hrun => ?_) (fun _ hrun => ?_)
    · refine lv_iinc (v := (i1 + 1)) (lv' := [(1, .int (i1 + 1)), (0, .int i0)]) hx hb d_RD_isPrime_31 hl (k := 1) rfl rfl (by decide) rfl (fun ls hl => ?_)
      refine lv_goto (tgt := 16) hx hb d_RD_isPrime_34 (by decide) ?_
      exact hk16 i0 (i1 + 1) hrun ls (lv_sub hl [1, 0] rfl)
    · refine lv_iconst (v := 0) hx hb d_RD_isPrime_29 (by decide) ?_
      cases hrun
      exact W.zret hx hb hr rfl (fun t ht hW => ⟨_, rfl, rfl, ht⟩) (fun q h => absurd h List.not_mem_nil) d_RD_isPrime_30
theorem v_isPrime_16 (X : gX) (F : Nat) (r_ : Int32) (C0 : gC X c_RD_isPrimeb (some .boolean) 2 "RemnantDictionary" gAll) (hN : gN (gs X))  : ∀ (n : Nat) (i0 i1 : Int32), b_isPrime_16 F n i0 i1 = some r_ → g_isPrime X r_ 16 [(0, .int i0), (1, .int i1)] [] := by
  intro n
  induction n with
  | zero => intro i0 i1 hrun; cases hrun
  | succ n ih =>
    intro i0 i1 hrun
    exact w_isPrime_16 X F r_ C0 hN (b_isPrime_16 F n) ih i0 i1 hrun
set_option maxHeartbeats 4000000 in
set_option maxRecDepth 100000 in
theorem e_isPrime (X : gX) (F : Nat) (r_ : Int32) (C0 : gC X c_RD_isPrimeb (some .boolean) 2 "RemnantDictionary" gAll) (hN : gN (gs X)) (i0 : Int32) (hrun : m_isPrime F i0 = some r_) : g_isPrime X r_ 0 [(0, .int i0)] [] := by
  have C1 := C0
  obtain ⟨hx, hb, hr, hml, hown, hts, hlocks⟩ := C1
  unfold m_isPrime at hrun
  intro ls hl
  refine lv_iload_n hx hb d_RD_isPrime_0 rfl (lv_at hl 0 rfl) ?_
  refine lv_iconst (v := 2) hx hb d_RD_isPrime_1 (by decide) ?_
  refine g_icmp_lt (tgt := 12) hx hb d_RD_isPrime_2 (by decide) hrun (fun _ hrun => ?_) (fun _ hrun => ?_)
  · refine lv_iconst (v := 0) hx hb d_RD_isPrime_12 (by decide) ?_
    cases hrun
    exact W.zret hx hb hr rfl (fun t ht hW => ⟨_, rfl, rfl, ht⟩) (fun q h => absurd h List.not_mem_nil) d_RD_isPrime_13
  · refine lv_iload_n hx hb d_RD_isPrime_5 rfl (lv_at hl 0 rfl) ?_
    refine lv_sipush (v := 32003) hx hb d_RD_isPrime_6 (by decide) ?_
    refine g_icmp_le (tgt := 14) hx hb d_RD_isPrime_9 (by decide) hrun (fun _ hrun => ?_) (fun _ hrun => ?_)
    · refine lv_iconst (v := 2) hx hb d_RD_isPrime_14 (by decide) ?_
      refine lv_istore_n (lv' := [(1, .int 2), (0, .int i0)]) hx hb d_RD_isPrime_15 rfl hl (by decide) rfl (fun ls hl => ?_)
      exact v_isPrime_16 X F r_ C0 hN  F i0 2 hrun ls (lv_sub hl [1, 0] rfl)
    · refine lv_iconst (v := 0) hx hb d_RD_isPrime_12 (by decide) ?_
      cases hrun
      exact W.zret hx hb hr rfl (fun t ht hW => ⟨_, rfl, rfl, ht⟩) (fun q h => absurd h List.not_mem_nil) d_RD_isPrime_13
set_option maxHeartbeats 4000000 in
set_option maxRecDepth 100000 in
theorem c_isPrime (l : Launch) (F : Nat) (i0 : Int32) (r_ : Int32) (hrun : m_isPrime F i0 = some r_) : Met l y_RD_isPrime (.code y_RD_isPrime c_RD_isPrimeb 2 (some .boolean) :: gAll) rm_isPrime (va_Pc [.int i0] gN) (vp_Si (fun r => r = r_)) 0 0 (fun _ => False) := by
  refine Met.ofW (cc := c_RD_isPrimeb) (maxL := 2) (ret := (some .boolean)) (by decide +kernel) rfl ?_
  intro p e s m args below meth c s₁ B hml hv
  obtain ⟨rfl, hN⟩ := hv
  have hl := lv_entry ([.int i0]) (n := 2) (Nat.le_of_ble_eq_true rfl)
  rw [lg_entry_eq]
  generalize (lg_sl ([.int i0]) ++ List.replicate (2 - (lg_sl ([.int i0])).length) Slot.unset).toArray = ls at hl ⊢
  exact e_isPrime (p, l, e, s, m, ([.int i0] : List Value).toArray, below, meth, c) F r_ ⟨B.exec, B.bytes, B.returns, hml, findClass_of_methodNamed B.named, fun w h => atoms_spec (ws := (.code y_RD_isPrime c_RD_isPrimeb 2 (some .boolean) :: gAll)) B.pre w (List.mem_cons_of_mem _ h), B.notSynchronized⟩ hN i0 hrun ls hl
theorem d_RD_inverse_0 : decode c_RD_inverseb 0 = .ok (.iconst 1, 1) := by decide +kernel
theorem d_RD_inverse_1 : decode c_RD_inverseb 1 = .ok (.istore_n 2, 1) := by decide +kernel
theorem d_RD_inverse_2 : decode c_RD_inverseb 2 = .ok (.iload_n 0, 1) := by decide +kernel
theorem d_RD_inverse_3 : decode c_RD_inverseb 3 = .ok (.istore_n 3, 1) := by decide +kernel
theorem d_RD_inverse_4 : decode c_RD_inverseb 4 = .ok (.iload_n 1, 1) := by decide +kernel
theorem d_RD_inverse_5 : decode c_RD_inverseb 5 = .ok (.iconst 2, 1) := by decide +kernel
theorem d_RD_inverse_6 : decode c_RD_inverseb 6 = .ok (.isub, 1) := by decide +kernel
theorem d_RD_inverse_7 : decode c_RD_inverseb 7 = .ok (.istore 4, 2) := by decide +kernel
theorem d_RD_inverse_9 : decode c_RD_inverseb 9 = .ok (.iload 4, 2) := by decide +kernel
theorem d_RD_inverse_11 : decode c_RD_inverseb 11 = .ok (.ifCond .le 32, 3) := by decide +kernel
theorem d_RD_inverse_14 : decode c_RD_inverseb 14 = .ok (.iload 4, 2) := by decide +kernel
theorem d_RD_inverse_16 : decode c_RD_inverseb 16 = .ok (.iconst 1, 1) := by decide +kernel
theorem d_RD_inverse_17 : decode c_RD_inverseb 17 = .ok (.iand, 1) := by decide +kernel
theorem d_RD_inverse_18 : decode c_RD_inverseb 18 = .ok (.iconst 1, 1) := by decide +kernel
theorem d_RD_inverse_19 : decode c_RD_inverseb 19 = .ok (.if_icmp .ne 9, 3) := by decide +kernel
theorem d_RD_inverse_22 : decode c_RD_inverseb 22 = .ok (.iload_n 2, 1) := by decide +kernel
theorem d_RD_inverse_23 : decode c_RD_inverseb 23 = .ok (.iload_n 3, 1) := by decide +kernel
theorem d_RD_inverse_24 : decode c_RD_inverseb 24 = .ok (.imul, 1) := by decide +kernel
theorem d_RD_inverse_25 : decode c_RD_inverseb 25 = .ok (.iload_n 1, 1) := by decide +kernel
theorem d_RD_inverse_26 : decode c_RD_inverseb 26 = .ok (.irem, 1) := by decide +kernel
theorem d_RD_inverse_27 : decode c_RD_inverseb 27 = .ok (.istore_n 2, 1) := by decide +kernel
theorem d_RD_inverse_28 : decode c_RD_inverseb 28 = .ok (.iload_n 3, 1) := by decide +kernel
theorem d_RD_inverse_29 : decode c_RD_inverseb 29 = .ok (.iload_n 3, 1) := by decide +kernel
theorem d_RD_inverse_30 : decode c_RD_inverseb 30 = .ok (.imul, 1) := by decide +kernel
theorem d_RD_inverse_31 : decode c_RD_inverseb 31 = .ok (.iload_n 1, 1) := by decide +kernel
theorem d_RD_inverse_32 : decode c_RD_inverseb 32 = .ok (.irem, 1) := by decide +kernel
theorem d_RD_inverse_33 : decode c_RD_inverseb 33 = .ok (.istore_n 3, 1) := by decide +kernel
theorem d_RD_inverse_34 : decode c_RD_inverseb 34 = .ok (.iload 4, 2) := by decide +kernel
theorem d_RD_inverse_36 : decode c_RD_inverseb 36 = .ok (.iconst 1, 1) := by decide +kernel
theorem d_RD_inverse_37 : decode c_RD_inverseb 37 = .ok (.ishr, 1) := by decide +kernel
theorem d_RD_inverse_38 : decode c_RD_inverseb 38 = .ok (.istore 4, 2) := by decide +kernel
theorem d_RD_inverse_40 : decode c_RD_inverseb 40 = .ok (.goto (-31), 3) := by decide +kernel
theorem d_RD_inverse_43 : decode c_RD_inverseb 43 = .ok (.iload_n 2, 1) := by decide +kernel
theorem d_RD_inverse_44 : decode c_RD_inverseb 44 = .ok (.ireturn, 1) := by decide +kernel
abbrev rm_inverse : Room := { frames := 0, cells := 0, slots := 0, locals := 0 }
abbrev g_inverse (X : gX) (r_ : Int32) (pc : Nat) (lv : List (Nat × Value)) (st : List Value) : Prop := ∀ ls : Array Slot, lv_has ls 5 lv → gWW X rm_inverse (gs X).heap [] 0 0 (MQ (gbl X) (vp_Si (fun r => r = r_)) (ga X) (gs X) 0 0 (fun _ => False)) (F0 (gm X) pc ls st)
set_option maxHeartbeats 4000000 in
set_option maxRecDepth 100000 in
theorem w_inverse_28 (X : gX) (F : Nat) (r_ : Int32) (C0 : gC X c_RD_inverseb (some .int) 5 "RemnantDictionary" gAll) (hN : gN (gs X)) (k9 : Int32 → Int32 → Int32 → Int32 → Option (Int32)) (hk9 : ∀ (i1 i2 i3 i4 : Int32), k9 i1 i2 i3 i4 = some r_ → g_inverse X r_ 9 [(1, .int i1), (2, .int i2), (3, .int i3), (4, .int i4)] []) (i1 i2 i3 i4 : Int32) (hrun : s_inverse_28 F k9 i1 i2 i3 i4 = some r_) : g_inverse X r_ 28 [(1, .int i1), (2, .int i2), (3, .int i3), (4, .int i4)] [] := by
  have C1 := C0
  obtain ⟨hx, hb, hr, hml, hown, hts, hlocks⟩ := C1
  unfold s_inverse_28 at hrun
  intro ls hl
  refine lv_iload_n hx hb d_RD_inverse_28 rfl (lv_at hl 2 rfl) ?_
  refine lv_iload_n hx hb d_RD_inverse_29 rfl (lv_at hl 2 rfl) ?_
  refine lv_imul hx hb d_RD_inverse_30 ?_
  refine lv_iload_n hx hb d_RD_inverse_31 rfl (lv_at hl 0 rfl) ?_
  refine g_irem hx hb d_RD_inverse_32 hrun (fun hrun => ?_)
  refine lv_istore_n (lv' := [(3, .int (remI (i3 * i3) i1)), (1, .int i1), (2, .int i2), (4, .int i4)]) hx hb d_RD_inverse_33 rfl hl (by decide) rfl (fun ls hl => ?_)
  refine lv_iload hx hb d_RD_inverse_34 (lv_at hl 3 rfl) ?_
  refine lv_iconst (v := 1) hx hb d_RD_inverse_36 (by decide) ?_
  refine g_ishr hx hb d_RD_inverse_37 ?_
  refine lv_istore (lv' := [(4, .int (shrI i4 1)), (3, .int (remI (i3 * i3) i1)), (1, .int i1), (2, .int i2)]) hx hb d_RD_inverse_38 hl (by decide) rfl (fun ls hl => ?_)
  refine lv_goto (tgt := 9) hx hb d_RD_inverse_40 (by decide) ?_
  exact hk9 i1 i2 (remI (i3 * i3) i1) (shrI i4 1) hrun ls (lv_sub hl [2, 3, 1, 0] rfl)
set_option maxHeartbeats 4000000 in
set_option maxRecDepth 100000 in
theorem w_inverse_9 (X : gX) (F : Nat) (r_ : Int32) (C0 : gC X c_RD_inverseb (some .int) 5 "RemnantDictionary" gAll) (hN : gN (gs X)) (k9 : Int32 → Int32 → Int32 → Int32 → Option (Int32)) (hk9 : ∀ (i1 i2 i3 i4 : Int32), k9 i1 i2 i3 i4 = some r_ → g_inverse X r_ 9 [(1, .int i1), (2, .int i2), (3, .int i3), (4, .int i4)] []) (i1 i2 i3 i4 : Int32) (hrun : s_inverse_9 F k9 i1 i2 i3 i4 = some r_) : g_inverse X r_ 9 [(1, .int i1), (2, .int i2), (3, .int i3), (4, .int i4)] [] := by
  have C1 := C0
  obtain ⟨hx, hb, hr, hml, hown, hts, hlocks⟩ := C1
  unfold s_inverse_9 at hrun
  intro ls hl
  refine lv_iload hx hb d_RD_inverse_9 (lv_at hl 3 rfl) ?_
  refine g_if_le (tgt := 43) hx hb d_RD_inverse_11 (by decide) hrun (fun _ hrun => ?_) (fun _ hrun => ?_)
  · refine lv_iload_n hx hb d_RD_inverse_43 rfl (lv_at hl 1 rfl) ?_
    cases hrun
    exact W.iret hx hb hr (fun t ht hW => ⟨_, rfl, rfl, ht⟩) (fun q h => absurd h List.not_mem_nil) d_RD_inverse_44
  · refine lv_iload hx hb d_RD_inverse_14 (lv_at hl 3 rfl) ?_
    refine lv_iconst (v := 1) hx hb d_RD_inverse_16 (by decide) ?_
    refine lv_iand hx hb d_RD_inverse_17 ?_
    refine lv_iconst (v := 1) hx hb d_RD_inverse_18 (by decide) ?_
    refine g_icmp_ne (tgt := 28) hx hb d_RD_inverse_19 (by decide) hrun (fun _ hrun => ?_) (fun _ hrun => ?_)
    · exact w_inverse_28 X F r_ C0 hN k9 hk9 i1 i2 i3 i4 hrun ls (lv_sub hl [0, 1, 2, 3] rfl)
    · refine lv_iload_n hx hb d_RD_inverse_22 rfl (lv_at hl 1 rfl) ?_
      refine lv_iload_n hx hb d_RD_inverse_23 rfl (lv_at hl 2 rfl) ?_
      refine lv_imul hx hb d_RD_inverse_24 ?_
      refine lv_iload_n hx hb d_RD_inverse_25 rfl (lv_at hl 0 rfl) ?_
      refine g_irem hx hb d_RD_inverse_26 hrun (fun hrun => ?_)
      refine lv_istore_n (lv' := [(2, .int (remI (i2 * i3) i1)), (1, .int i1), (3, .int i3), (4, .int i4)]) hx hb d_RD_inverse_27 rfl hl (by decide) rfl (fun ls hl => ?_)
      exact w_inverse_28 X F r_ C0 hN k9 hk9 i1 (remI (i2 * i3) i1) i3 i4 hrun ls (lv_sub hl [1, 0, 2, 3] rfl)
theorem v_inverse_9 (X : gX) (F : Nat) (r_ : Int32) (C0 : gC X c_RD_inverseb (some .int) 5 "RemnantDictionary" gAll) (hN : gN (gs X))  : ∀ (n : Nat) (i1 i2 i3 i4 : Int32), b_inverse_9 F n i1 i2 i3 i4 = some r_ → g_inverse X r_ 9 [(1, .int i1), (2, .int i2), (3, .int i3), (4, .int i4)] [] := by
  intro n
  induction n with
  | zero => intro i1 i2 i3 i4 hrun; cases hrun
  | succ n ih =>
    intro i1 i2 i3 i4 hrun
    exact w_inverse_9 X F r_ C0 hN (b_inverse_9 F n) ih i1 i2 i3 i4 hrun
set_option maxHeartbeats 4000000 in
set_option maxRecDepth 100000 in
theorem e_inverse (X : gX) (F : Nat) (r_ : Int32) (C0 : gC X c_RD_inverseb (some .int) 5 "RemnantDictionary" gAll) (hN : gN (gs X)) (i0 i1 : Int32) (hrun : m_inverse F i0 i1 = some r_) : g_inverse X r_ 0 [(0, .int i0), (1, .int i1)] [] := by
  have C1 := C0
  obtain ⟨hx, hb, hr, hml, hown, hts, hlocks⟩ := C1
  unfold m_inverse at hrun
  intro ls hl
  refine lv_iconst (v := 1) hx hb d_RD_inverse_0 (by decide) ?_
  refine lv_istore_n (lv' := [(2, .int 1), (0, .int i0), (1, .int i1)]) hx hb d_RD_inverse_1 rfl hl (by decide) rfl (fun ls hl => ?_)
  refine lv_iload_n hx hb d_RD_inverse_2 rfl (lv_at hl 1 rfl) ?_
  refine lv_istore_n (lv' := [(3, .int i0), (2, .int 1), (0, .int i0), (1, .int i1)]) hx hb d_RD_inverse_3 rfl hl (by decide) rfl (fun ls hl => ?_)
  refine lv_iload_n hx hb d_RD_inverse_4 rfl (lv_at hl 3 rfl) ?_
  refine lv_iconst (v := 2) hx hb d_RD_inverse_5 (by decide) ?_
  refine lv_isub hx hb d_RD_inverse_6 ?_
  refine lv_istore (lv' := [(4, .int (i1 - 2)), (3, .int i0), (2, .int 1), (0, .int i0), (1, .int i1)]) hx hb d_RD_inverse_7 hl (by decide) rfl (fun ls hl => ?_)
  exact v_inverse_9 X F r_ C0 hN  F i1 1 i0 (i1 - 2) hrun ls (lv_sub hl [4, 2, 1, 0] rfl)
set_option maxHeartbeats 4000000 in
set_option maxRecDepth 100000 in
theorem c_inverse (l : Launch) (F : Nat) (i0 i1 : Int32) (r_ : Int32) (hrun : m_inverse F i0 i1 = some r_) : Met l y_RD_inverse (.code y_RD_inverse c_RD_inverseb 5 (some .int) :: gAll) rm_inverse (va_Pc [.int i0, .int i1] gN) (vp_Si (fun r => r = r_)) 0 0 (fun _ => False) := by
  refine Met.ofW (cc := c_RD_inverseb) (maxL := 5) (ret := (some .int)) (by decide +kernel) rfl ?_
  intro p e s m args below meth c s₁ B hml hv
  obtain ⟨rfl, hN⟩ := hv
  have hl := lv_entry ([.int i0, .int i1]) (n := 5) (Nat.le_of_ble_eq_true rfl)
  rw [lg_entry_eq]
  generalize (lg_sl ([.int i0, .int i1]) ++ List.replicate (5 - (lg_sl ([.int i0, .int i1])).length) Slot.unset).toArray = ls at hl ⊢
  exact e_inverse (p, l, e, s, m, ([.int i0, .int i1] : List Value).toArray, below, meth, c) F r_ ⟨B.exec, B.bytes, B.returns, hml, findClass_of_methodNamed B.named, fun w h => atoms_spec (ws := (.code y_RD_inverse c_RD_inverseb 5 (some .int) :: gAll)) B.pre w (List.mem_cons_of_mem _ h), B.notSynchronized⟩ hN i0 i1 hrun ls hl
theorem d_RD_addMultiple_0 : decode c_RD_addMultipleb 0 = .ok (.iconst 0, 1) := by decide +kernel
theorem d_RD_addMultiple_1 : decode c_RD_addMultipleb 1 = .ok (.istore 7, 2) := by decide +kernel
theorem d_RD_addMultiple_3 : decode c_RD_addMultipleb 3 = .ok (.iload 7, 2) := by decide +kernel
theorem d_RD_addMultiple_5 : decode c_RD_addMultipleb 5 = .ok (.iload 4, 2) := by decide +kernel
theorem d_RD_addMultiple_7 : decode c_RD_addMultipleb 7 = .ok (.if_icmp .ge 43, 3) := by decide +kernel
theorem d_RD_addMultiple_10 : decode c_RD_addMultipleb 10 = .ok (.aload_n 2, 1) := by decide +kernel
theorem d_RD_addMultiple_11 : decode c_RD_addMultipleb 11 = .ok (.iload_n 3, 1) := by decide +kernel
theorem d_RD_addMultiple_12 : decode c_RD_addMultipleb 12 = .ok (.iload 7, 2) := by decide +kernel
theorem d_RD_addMultiple_14 : decode c_RD_addMultipleb 14 = .ok (.iadd, 1) := by decide +kernel
theorem d_RD_addMultiple_15 : decode c_RD_addMultipleb 15 = .ok (.iaload, 1) := by decide +kernel
theorem d_RD_addMultiple_16 : decode c_RD_addMultipleb 16 = .ok (.istore 8, 2) := by decide +kernel
theorem d_RD_addMultiple_18 : decode c_RD_addMultipleb 18 = .ok (.iload 8, 2) := by decide +kernel
theorem d_RD_addMultiple_20 : decode c_RD_addMultipleb 20 = .ok (.ifCond .eq 24, 3) := by decide +kernel
theorem d_RD_addMultiple_23 : decode c_RD_addMultipleb 23 = .ok (.aload_n 0, 1) := by decide +kernel
theorem d_RD_addMultiple_24 : decode c_RD_addMultipleb 24 = .ok (.iload_n 1, 1) := by decide +kernel
theorem d_RD_addMultiple_25 : decode c_RD_addMultipleb 25 = .ok (.iload 7, 2) := by decide +kernel
theorem d_RD_addMultiple_27 : decode c_RD_addMultipleb 27 = .ok (.iadd, 1) := by decide +kernel
theorem d_RD_addMultiple_28 : decode c_RD_addMultipleb 28 = .ok (.aload_n 0, 1) := by decide +kernel
theorem d_RD_addMultiple_29 : decode c_RD_addMultipleb 29 = .ok (.iload_n 1, 1) := by decide +kernel
theorem d_RD_addMultiple_30 : decode c_RD_addMultipleb 30 = .ok (.iload 7, 2) := by decide +kernel
theorem d_RD_addMultiple_32 : decode c_RD_addMultipleb 32 = .ok (.iadd, 1) := by decide +kernel
theorem d_RD_addMultiple_33 : decode c_RD_addMultipleb 33 = .ok (.iaload, 1) := by decide +kernel
theorem d_RD_addMultiple_34 : decode c_RD_addMultipleb 34 = .ok (.iload 5, 2) := by decide +kernel
theorem d_RD_addMultiple_36 : decode c_RD_addMultipleb 36 = .ok (.iload 8, 2) := by decide +kernel
theorem d_RD_addMultiple_38 : decode c_RD_addMultipleb 38 = .ok (.imul, 1) := by decide +kernel
theorem d_RD_addMultiple_39 : decode c_RD_addMultipleb 39 = .ok (.iadd, 1) := by decide +kernel
theorem d_RD_addMultiple_40 : decode c_RD_addMultipleb 40 = .ok (.iload 6, 2) := by decide +kernel
theorem d_RD_addMultiple_42 : decode c_RD_addMultipleb 42 = .ok (.irem, 1) := by decide +kernel
theorem d_RD_addMultiple_43 : decode c_RD_addMultipleb 43 = .ok (.iastore, 1) := by decide +kernel
theorem d_RD_addMultiple_44 : decode c_RD_addMultipleb 44 = .ok (.iinc 7 1, 3) := by decide +kernel
theorem d_RD_addMultiple_47 : decode c_RD_addMultipleb 47 = .ok (.goto (-44), 3) := by decide +kernel
theorem d_RD_addMultiple_50 : decode c_RD_addMultipleb 50 = .ok (.return_, 1) := by decide +kernel
abbrev ws_addMultiple (a_fA a_fB : Nat) (cI cL cZ : ClassId) (nA nB : Nat) (fA fB : Nat → Int32) : va_W := [(a_fA, .inl (cI, nA, .inl fA)), (a_fB, .inl (cI, nB, .inl fB))]
abbrev rm_addMultiple : Room := { frames := 0, cells := 0, slots := 0, locals := 0 }
abbrev g_addMultiple (X : gX) (D : va_G) (cI cL cZ : ClassId) (a_fA a_fB nA nB : Nat) (A : Nat → Prop) (fB fA_r : Nat → Int32) (pc : Nat) (lv : List (Nat × Value)) (st : List Value) (fA : Nat → Int32) : Prop := ∀ (H : Heap) (locs : List Loc) (ls : Array Slot), va_P D classes (ws_addMultiple a_fA a_fB cI cL cZ nA nB fA fB) H → va_D A (ws_addMultiple a_fA a_fB cI cL cZ nA nB fA fB) → va_S A (gs X).heap H locs → lv_has ls 9 lv → gWW X rm_addMultiple H locs 0 0 (MQ (gbl X) (va_Qv (fun _ : Unit => True) (gB D (gT cI cL cZ) A (ws_addMultiple a_fA a_fB cI cL cZ nA nB fA_r fB)) A) (ga X) (gs X) 0 0 A) (F0 (gm X) pc ls st)
set_option maxHeartbeats 4000000 in
set_option maxRecDepth 100000 in
theorem w_addMultiple_3 (X : gX) (D : va_G) (cI cL cZ : ClassId) (a_fA a_fB nA nB : Nat) (A : Nat → Prop) (fB fA_r : Nat → Int32) (F : Nat) (C0 : gC X c_RD_addMultipleb none 9 "RemnantDictionary" gAll) (hK : va_K D classes (gT cI cL cZ) (gs X)) (hA : ∀ q : Nat, (gs X).heap.size ≤ q → A q) (hN : gN (gs X)) (k3 : Int32 → Int32 → Int32 → Int32 → Int32 → Int32 → (Nat → Int32) → Option ((Nat → Int32))) (hk3 : ∀ (i1 i3 i4 i5 i6 i7 : Int32) (fA : Nat → Int32), k3 i1 i3 i4 i5 i6 i7 fA = some fA_r → g_addMultiple X D cI cL cZ a_fA a_fB nA nB A fB fA_r 3 [(0, .ref a_fA), (1, .int i1), (2, .ref a_fB), (3, .int i3), (4, .int i4), (5, .int i5), (6, .int i6), (7, .int i7)] [] fA) (i1 i3 i4 i5 i6 i7 : Int32) (fA : Nat → Int32) (hrun : s_addMultiple_3 F nA nB fB k3 i1 i3 i4 i5 i6 i7 fA = some fA_r) : g_addMultiple X D cI cL cZ a_fA a_fB nA nB A fB fA_r 3 [(0, .ref a_fA), (1, .int i1), (2, .ref a_fB), (3, .int i3), (4, .int i4), (5, .int i5), (6, .int i6), (7, .int i7)] [] fA := by
  have C1 := C0
  obtain ⟨hx, hb, hr, hml, hown, hts, hlocks⟩ := C1
  unfold s_addMultiple_3 at hrun
  intro H locs ls hP hD hS hl
  refine lv_iload hx hb d_RD_addMultiple_3 (lv_at hl 7 rfl) ?_
  refine lv_iload hx hb d_RD_addMultiple_5 (lv_at hl 4 rfl) ?_
  refine g_icmp_ge (tgt := 50) hx hb d_RD_addMultiple_7 (by decide) hrun (fun _ hrun => ?_) (fun _ hrun => ?_)
  · cases hrun
    exact W.vret hx hb hr (fun t ht hW => ⟨⟨(), rfl, trivial, gB_of ht hW.alike hP hK hD⟩, hS.F ht⟩) hS.2.2 d_RD_addMultiple_50
  · refine lv_aload_n hx hb d_RD_addMultiple_10 rfl (lv_at hl 2 rfl) ?_
    refine lv_iload_n hx hb d_RD_addMultiple_11 rfl (lv_at hl 3 rfl) ?_
    refine lv_iload hx hb d_RD_addMultiple_12 (lv_at hl 7 rfl) ?_
    refine lv_iadd hx hb d_RD_addMultiple_14 ?_
    refine g_iald hx hb hK hP 1 0 rfl rfl hrun d_RD_addMultiple_15 (fun x_1 hrun => ?_)
    refine lv_istore (lv' := [(8, .int x_1), (0, .ref a_fA), (1, .int i1), (2, .ref a_fB), (3, .int i3), (4, .int i4), (5, .int i5), (6, .int i6), (7, .int i7)]) hx hb d_RD_addMultiple_16 hl (by decide) rfl (fun ls hl => ?_)
    refine lv_iload hx hb d_RD_addMultiple_18 (lv_at hl 0 rfl) ?_
    refine g_if_eq (tgt := 44) hx hb d_RD_addMultiple_20 (by decide) hrun (fun _ hrun => ?_) (fun _ hrun => ?_)
    · refine lv_iinc (v := (i7 + 1)) (lv' := [(7, .int (i7 + 1)), (8, .int x_1), (0, .ref a_fA), (1, .int i1), (2, .ref a_fB), (3, .int i3), (4, .int i4), (5, .int i5), (6, .int i6)]) hx hb d_RD_addMultiple_44 hl (k := 8) rfl rfl (by decide) rfl (fun ls hl => ?_)
      refine lv_goto (tgt := 3) hx hb d_RD_addMultiple_47 (by decide) ?_
      exact hk3 i1 i3 i4 i5 i6 (i7 + 1) fA hrun H locs ls hP hD hS (lv_sub hl [2, 3, 4, 5, 6, 7, 8, 0] rfl)
    · refine lv_aload_n hx hb d_RD_addMultiple_23 rfl (lv_at hl 1 rfl) ?_
      refine lv_iload_n hx hb d_RD_addMultiple_24 rfl (lv_at hl 2 rfl) ?_
      refine lv_iload hx hb d_RD_addMultiple_25 (lv_at hl 8 rfl) ?_
      refine lv_iadd hx hb d_RD_addMultiple_27 ?_
      refine lv_aload_n hx hb d_RD_addMultiple_28 rfl (lv_at hl 1 rfl) ?_
      refine lv_iload_n hx hb d_RD_addMultiple_29 rfl (lv_at hl 2 rfl) ?_
      refine lv_iload hx hb d_RD_addMultiple_30 (lv_at hl 8 rfl) ?_
      refine lv_iadd hx hb d_RD_addMultiple_32 ?_
      refine g_iald hx hb hK hP 0 0 rfl rfl hrun d_RD_addMultiple_33 (fun x_2 hrun => ?_)
      refine lv_iload hx hb d_RD_addMultiple_34 (lv_at hl 6 rfl) ?_
      refine lv_iload hx hb d_RD_addMultiple_36 (lv_at hl 0 rfl) ?_
      refine lv_imul hx hb d_RD_addMultiple_38 ?_
      refine lv_iadd hx hb d_RD_addMultiple_39 ?_
      refine lv_iload hx hb d_RD_addMultiple_40 (lv_at hl 7 rfl) ?_
      refine g_irem hx hb d_RD_addMultiple_42 hrun (fun hrun => ?_)
      refine g_iast hx hb hK hP hD hS 0 0 rfl rfl hrun d_RD_addMultiple_43 (fun fA_3 hrun H locs (hP : va_P D classes (ws_addMultiple a_fA a_fB cI cL cZ nA nB fA_3 fB) H) (hD : va_D A (ws_addMultiple a_fA a_fB cI cL cZ nA nB fA_3 fB)) hS => ?_)
      refine lv_iinc (v := (i7 + 1)) (lv' := [(7, .int (i7 + 1)), (8, .int x_1), (0, .ref a_fA), (1, .int i1), (2, .ref a_fB), (3, .int i3), (4, .int i4), (5, .int i5), (6, .int i6)]) hx hb d_RD_addMultiple_44 hl (k := 8) rfl rfl (by decide) rfl (fun ls hl => ?_)
      refine lv_goto (tgt := 3) hx hb d_RD_addMultiple_47 (by decide) ?_
      exact hk3 i1 i3 i4 i5 i6 (i7 + 1) fA_3 hrun H locs ls hP hD hS (lv_sub hl [2, 3, 4, 5, 6, 7, 8, 0] rfl)
theorem v_addMultiple_3 (X : gX) (D : va_G) (cI cL cZ : ClassId) (a_fA a_fB nA nB : Nat) (A : Nat → Prop) (fB fA_r : Nat → Int32) (F : Nat) (C0 : gC X c_RD_addMultipleb none 9 "RemnantDictionary" gAll) (hK : va_K D classes (gT cI cL cZ) (gs X)) (hA : ∀ q : Nat, (gs X).heap.size ≤ q → A q) (hN : gN (gs X))  : ∀ (n : Nat) (i1 i3 i4 i5 i6 i7 : Int32) (fA : Nat → Int32), b_addMultiple_3 F nA nB fB n i1 i3 i4 i5 i6 i7 fA = some fA_r → g_addMultiple X D cI cL cZ a_fA a_fB nA nB A fB fA_r 3 [(0, .ref a_fA), (1, .int i1), (2, .ref a_fB), (3, .int i3), (4, .int i4), (5, .int i5), (6, .int i6), (7, .int i7)] [] fA := by
  intro n
  induction n with
  | zero => intro i1 i3 i4 i5 i6 i7 fA hrun; cases hrun
  | succ n ih =>
    intro i1 i3 i4 i5 i6 i7 fA hrun
    exact w_addMultiple_3 X D cI cL cZ a_fA a_fB nA nB A fB fA_r F C0 hK hA hN (b_addMultiple_3 F nA nB fB n) ih i1 i3 i4 i5 i6 i7 fA hrun
set_option maxHeartbeats 4000000 in
set_option maxRecDepth 100000 in
theorem e_addMultiple (X : gX) (D : va_G) (cI cL cZ : ClassId) (a_fA a_fB nA nB : Nat) (A : Nat → Prop) (fB fA_r : Nat → Int32) (F : Nat) (C0 : gC X c_RD_addMultipleb none 9 "RemnantDictionary" gAll) (hK : va_K D classes (gT cI cL cZ) (gs X)) (hA : ∀ q : Nat, (gs X).heap.size ≤ q → A q) (hN : gN (gs X)) (i1 i3 i4 i5 i6 : Int32) (fA : Nat → Int32) (hrun : m_addMultiple F nA nB fB i1 i3 i4 i5 i6 fA = some fA_r) : g_addMultiple X D cI cL cZ a_fA a_fB nA nB A fB fA_r 0 [(0, .ref a_fA), (1, .int i1), (2, .ref a_fB), (3, .int i3), (4, .int i4), (5, .int i5), (6, .int i6)] [] fA := by
  have C1 := C0
  obtain ⟨hx, hb, hr, hml, hown, hts, hlocks⟩ := C1
  unfold m_addMultiple at hrun
  intro H locs ls hP hD hS hl
  refine lv_iconst (v := 0) hx hb d_RD_addMultiple_0 (by decide) ?_
  refine lv_istore (lv' := [(7, .int 0), (0, .ref a_fA), (1, .int i1), (2, .ref a_fB), (3, .int i3), (4, .int i4), (5, .int i5), (6, .int i6)]) hx hb d_RD_addMultiple_1 hl (by decide) rfl (fun ls hl => ?_)
  exact v_addMultiple_3 X D cI cL cZ a_fA a_fB nA nB A fB fA_r F C0 hK hA hN  F i1 i3 i4 i5 i6 0 fA hrun H locs ls hP hD hS (lv_sub hl [1, 2, 3, 4, 5, 6, 7, 0] rfl)
set_option maxHeartbeats 4000000 in
set_option maxRecDepth 100000 in
theorem c_addMultiple (l : Launch) (D : va_G) (cI cL cZ : ClassId) (a_fA a_fB : Nat) (F : Nat) (nA nB : Nat) (fA fB : Nat → Int32) (i1 i3 i4 i5 i6 : Int32) (sz : Nat) (fA_r : Nat → Int32) (hrun : m_addMultiple F nA nB fB i1 i3 i4 i5 i6 fA = some fA_r) : Met l y_RD_addMultiple (.code y_RD_addMultiple c_RD_addMultipleb 9 none :: gAll) rm_addMultiple (va_Pc [.ref a_fA, .int i1, .ref a_fB, .int i3, .int i4, .int i5, .int i6] (gPW D (gT cI cL cZ) (ws_addMultiple a_fA a_fB cI cL cZ nA nB fA fB) sz)) (va_Qv (fun _ : Unit => True) (gB D (gT cI cL cZ) (va_A (ws_addMultiple a_fA a_fB cI cL cZ nA nB fA fB) sz) (ws_addMultiple a_fA a_fB cI cL cZ nA nB fA_r fB)) (va_A (ws_addMultiple a_fA a_fB cI cL cZ nA nB fA fB) sz)) 0 0 (va_A (ws_addMultiple a_fA a_fB cI cL cZ nA nB fA fB) sz) := by
  refine Met.ofW (cc := c_RD_addMultipleb) (maxL := 9) (ret := none) (by decide +kernel) rfl ?_
  intro p e s m args below meth c s₁ B hml hv
  obtain ⟨rfl, hsz, hP, hK, hN, hD0⟩ := hv
  subst hsz
  have hD := hD0.self (sz := s.heap.size)
  have hl := lv_entry ([.ref a_fA, .int i1, .ref a_fB, .int i3, .int i4, .int i5, .int i6]) (n := 9) (Nat.le_of_ble_eq_true rfl)
  rw [lg_entry_eq]
  generalize (lg_sl ([.ref a_fA, .int i1, .ref a_fB, .int i3, .int i4, .int i5, .int i6]) ++ List.replicate (9 - (lg_sl ([.ref a_fA, .int i1, .ref a_fB, .int i3, .int i4, .int i5, .int i6])).length) Slot.unset).toArray = ls at hl ⊢
  exact e_addMultiple (p, l, e, s, m, ([.ref a_fA, .int i1, .ref a_fB, .int i3, .int i4, .int i5, .int i6] : List Value).toArray, below, meth, c) D cI cL cZ a_fA a_fB nA nB (va_A (ws_addMultiple a_fA a_fB cI cL cZ nA nB fA fB) s.heap.size) fB fA_r F ⟨B.exec, B.bytes, B.returns, hml, findClass_of_methodNamed B.named, fun w h => atoms_spec (ws := (.code y_RD_addMultiple c_RD_addMultipleb 9 none :: gAll)) B.pre w (List.mem_cons_of_mem _ h), B.notSynchronized⟩ hK (fun q h => Or.inr h) hN i1 i3 i4 i5 i6 fA hrun s.heap [] ls hP hD va_S.rf hl
abbrev ws_addMultipleS (a_fA : Nat) (cI cL cZ : ClassId) (nA : Nat) (fA : Nat → Int32) : va_W := [(a_fA, .inl (cI, nA, .inl fA))]
abbrev rm_addMultipleS : Room := { frames := 0, cells := 0, slots := 0, locals := 0 }
abbrev g_addMultipleS (X : gX) (D : va_G) (cI cL cZ : ClassId) (a_fA nA : Nat) (A : Nat → Prop) (fA_r : Nat → Int32) (pc : Nat) (lv : List (Nat × Value)) (st : List Value) (fA : Nat → Int32) : Prop := ∀ (H : Heap) (locs : List Loc) (ls : Array Slot), va_P D classes (ws_addMultipleS a_fA cI cL cZ nA fA) H → va_D A (ws_addMultipleS a_fA cI cL cZ nA fA) → va_S A (gs X).heap H locs → lv_has ls 9 lv → gWW X rm_addMultipleS H locs 0 0 (MQ (gbl X) (va_Qv (fun _ : Unit => True) (gB D (gT cI cL cZ) A (ws_addMultipleS a_fA cI cL cZ nA fA_r)) A) (ga X) (gs X) 0 0 A) (F0 (gm X) pc ls st)
set_option maxHeartbeats 4000000 in
set_option maxRecDepth 100000 in
theorem w_addMultipleS_3 (X : gX) (D : va_G) (cI cL cZ : ClassId) (a_fA nA : Nat) (A : Nat → Prop) (fA_r : Nat → Int32) (F : Nat) (C0 : gC X c_RD_addMultipleb none 9 "RemnantDictionary" gAll) (hK : va_K D classes (gT cI cL cZ) (gs X)) (hA : ∀ q : Nat, (gs X).heap.size ≤ q → A q) (hN : gN (gs X)) (k3 : Int32 → Int32 → Int32 → Int32 → Int32 → Int32 → (Nat → Int32) → Option ((Nat → Int32))) (hk3 : ∀ (i1 i3 i4 i5 i6 i7 : Int32) (fA : Nat → Int32), k3 i1 i3 i4 i5 i6 i7 fA = some fA_r → g_addMultipleS X D cI cL cZ a_fA nA A fA_r 3 [(0, .ref a_fA), (1, .int i1), (2, .ref a_fA), (3, .int i3), (4, .int i4), (5, .int i5), (6, .int i6), (7, .int i7)] [] fA) (i1 i3 i4 i5 i6 i7 : Int32) (fA : Nat → Int32) (hrun : s_addMultipleS_3 F nA k3 i1 i3 i4 i5 i6 i7 fA = some fA_r) : g_addMultipleS X D cI cL cZ a_fA nA A fA_r 3 [(0, .ref a_fA), (1, .int i1), (2, .ref a_fA), (3, .int i3), (4, .int i4), (5, .int i5), (6, .int i6), (7, .int i7)] [] fA := by
  have C1 := C0
  obtain ⟨hx, hb, hr, hml, hown, hts, hlocks⟩ := C1
  unfold s_addMultipleS_3 at hrun
  intro H locs ls hP hD hS hl
  refine lv_iload hx hb d_RD_addMultiple_3 (lv_at hl 7 rfl) ?_
  refine lv_iload hx hb d_RD_addMultiple_5 (lv_at hl 4 rfl) ?_
  refine g_icmp_ge (tgt := 50) hx hb d_RD_addMultiple_7 (by decide) hrun (fun _ hrun => ?_) (fun _ hrun => ?_)
  · cases hrun
    exact W.vret hx hb hr (fun t ht hW => ⟨⟨(), rfl, trivial, gB_of ht hW.alike hP hK hD⟩, hS.F ht⟩) hS.2.2 d_RD_addMultiple_50
  · refine lv_aload_n hx hb d_RD_addMultiple_10 rfl (lv_at hl 2 rfl) ?_
    refine lv_iload_n hx hb d_RD_addMultiple_11 rfl (lv_at hl 3 rfl) ?_
    refine lv_iload hx hb d_RD_addMultiple_12 (lv_at hl 7 rfl) ?_
    refine lv_iadd hx hb d_RD_addMultiple_14 ?_
    refine g_iald hx hb hK hP 0 0 rfl rfl hrun d_RD_addMultiple_15 (fun x_1 hrun => ?_)
    refine lv_istore (lv' := [(8, .int x_1), (0, .ref a_fA), (1, .int i1), (2, .ref a_fA), (3, .int i3), (4, .int i4), (5, .int i5), (6, .int i6), (7, .int i7)]) hx hb d_RD_addMultiple_16 hl (by decide) rfl (fun ls hl => ?_)
    refine lv_iload hx hb d_RD_addMultiple_18 (lv_at hl 0 rfl) ?_
    refine g_if_eq (tgt := 44) hx hb d_RD_addMultiple_20 (by decide) hrun (fun _ hrun => ?_) (fun _ hrun => ?_)
    · refine lv_iinc (v := (i7 + 1)) (lv' := [(7, .int (i7 + 1)), (8, .int x_1), (0, .ref a_fA), (1, .int i1), (2, .ref a_fA), (3, .int i3), (4, .int i4), (5, .int i5), (6, .int i6)]) hx hb d_RD_addMultiple_44 hl (k := 8) rfl rfl (by decide) rfl (fun ls hl => ?_)
      refine lv_goto (tgt := 3) hx hb d_RD_addMultiple_47 (by decide) ?_
      exact hk3 i1 i3 i4 i5 i6 (i7 + 1) fA hrun H locs ls hP hD hS (lv_sub hl [2, 3, 4, 5, 6, 7, 8, 0] rfl)
    · refine lv_aload_n hx hb d_RD_addMultiple_23 rfl (lv_at hl 1 rfl) ?_
      refine lv_iload_n hx hb d_RD_addMultiple_24 rfl (lv_at hl 2 rfl) ?_
      refine lv_iload hx hb d_RD_addMultiple_25 (lv_at hl 8 rfl) ?_
      refine lv_iadd hx hb d_RD_addMultiple_27 ?_
      refine lv_aload_n hx hb d_RD_addMultiple_28 rfl (lv_at hl 1 rfl) ?_
      refine lv_iload_n hx hb d_RD_addMultiple_29 rfl (lv_at hl 2 rfl) ?_
      refine lv_iload hx hb d_RD_addMultiple_30 (lv_at hl 8 rfl) ?_
      refine lv_iadd hx hb d_RD_addMultiple_32 ?_
      refine g_iald hx hb hK hP 0 0 rfl rfl hrun d_RD_addMultiple_33 (fun x_2 hrun => ?_)
      refine lv_iload hx hb d_RD_addMultiple_34 (lv_at hl 6 rfl) ?_
      refine lv_iload hx hb d_RD_addMultiple_36 (lv_at hl 0 rfl) ?_
      refine lv_imul hx hb d_RD_addMultiple_38 ?_
      refine lv_iadd hx hb d_RD_addMultiple_39 ?_
      refine lv_iload hx hb d_RD_addMultiple_40 (lv_at hl 7 rfl) ?_
      refine g_irem hx hb d_RD_addMultiple_42 hrun (fun hrun => ?_)
      refine g_iast hx hb hK hP hD hS 0 0 rfl rfl hrun d_RD_addMultiple_43 (fun fA_3 hrun H locs (hP : va_P D classes (ws_addMultipleS a_fA cI cL cZ nA fA_3) H) (hD : va_D A (ws_addMultipleS a_fA cI cL cZ nA fA_3)) hS => ?_)
      refine lv_iinc (v := (i7 + 1)) (lv' := [(7, .int (i7 + 1)), (8, .int x_1), (0, .ref a_fA), (1, .int i1), (2, .ref a_fA), (3, .int i3), (4, .int i4), (5, .int i5), (6, .int i6)]) hx hb d_RD_addMultiple_44 hl (k := 8) rfl rfl (by decide) rfl (fun ls hl => ?_)
      refine lv_goto (tgt := 3) hx hb d_RD_addMultiple_47 (by decide) ?_
      exact hk3 i1 i3 i4 i5 i6 (i7 + 1) fA_3 hrun H locs ls hP hD hS (lv_sub hl [2, 3, 4, 5, 6, 7, 8, 0] rfl)
theorem v_addMultipleS_3 (X : gX) (D : va_G) (cI cL cZ : ClassId) (a_fA nA : Nat) (A : Nat → Prop) (fA_r : Nat → Int32) (F : Nat) (C0 : gC X c_RD_addMultipleb none 9 "RemnantDictionary" gAll) (hK : va_K D classes (gT cI cL cZ) (gs X)) (hA : ∀ q : Nat, (gs X).heap.size ≤ q → A q) (hN : gN (gs X))  : ∀ (n : Nat) (i1 i3 i4 i5 i6 i7 : Int32) (fA : Nat → Int32), b_addMultipleS_3 F nA n i1 i3 i4 i5 i6 i7 fA = some fA_r → g_addMultipleS X D cI cL cZ a_fA nA A fA_r 3 [(0, .ref a_fA), (1, .int i1), (2, .ref a_fA), (3, .int i3), (4, .int i4), (5, .int i5), (6, .int i6), (7, .int i7)] [] fA := by
  intro n
  induction n with
  | zero => intro i1 i3 i4 i5 i6 i7 fA hrun; cases hrun
  | succ n ih =>
    intro i1 i3 i4 i5 i6 i7 fA hrun
    exact w_addMultipleS_3 X D cI cL cZ a_fA nA A fA_r F C0 hK hA hN (b_addMultipleS_3 F nA n) ih i1 i3 i4 i5 i6 i7 fA hrun
set_option maxHeartbeats 4000000 in
set_option maxRecDepth 100000 in
theorem e_addMultipleS (X : gX) (D : va_G) (cI cL cZ : ClassId) (a_fA nA : Nat) (A : Nat → Prop) (fA_r : Nat → Int32) (F : Nat) (C0 : gC X c_RD_addMultipleb none 9 "RemnantDictionary" gAll) (hK : va_K D classes (gT cI cL cZ) (gs X)) (hA : ∀ q : Nat, (gs X).heap.size ≤ q → A q) (hN : gN (gs X)) (i1 i3 i4 i5 i6 : Int32) (fA : Nat → Int32) (hrun : m_addMultipleS F nA i1 i3 i4 i5 i6 fA = some fA_r) : g_addMultipleS X D cI cL cZ a_fA nA A fA_r 0 [(0, .ref a_fA), (1, .int i1), (2, .ref a_fA), (3, .int i3), (4, .int i4), (5, .int i5), (6, .int i6)] [] fA := by
  have C1 := C0
  obtain ⟨hx, hb, hr, hml, hown, hts, hlocks⟩ := C1
  unfold m_addMultipleS at hrun
  intro H locs ls hP hD hS hl
  refine lv_iconst (v := 0) hx hb d_RD_addMultiple_0 (by decide) ?_
  refine lv_istore (lv' := [(7, .int 0), (0, .ref a_fA), (1, .int i1), (2, .ref a_fA), (3, .int i3), (4, .int i4), (5, .int i5), (6, .int i6)]) hx hb d_RD_addMultiple_1 hl (by decide) rfl (fun ls hl => ?_)
  exact v_addMultipleS_3 X D cI cL cZ a_fA nA A fA_r F C0 hK hA hN  F i1 i3 i4 i5 i6 0 fA hrun H locs ls hP hD hS (lv_sub hl [1, 2, 3, 4, 5, 6, 7, 0] rfl)
set_option maxHeartbeats 4000000 in
set_option maxRecDepth 100000 in
theorem c_addMultipleS (l : Launch) (D : va_G) (cI cL cZ : ClassId) (a_fA : Nat) (F : Nat) (nA : Nat) (fA : Nat → Int32) (i1 i3 i4 i5 i6 : Int32) (sz : Nat) (fA_r : Nat → Int32) (hrun : m_addMultipleS F nA i1 i3 i4 i5 i6 fA = some fA_r) : Met l y_RD_addMultiple (.code y_RD_addMultiple c_RD_addMultipleb 9 none :: gAll) rm_addMultipleS (va_Pc [.ref a_fA, .int i1, .ref a_fA, .int i3, .int i4, .int i5, .int i6] (gPW D (gT cI cL cZ) (ws_addMultipleS a_fA cI cL cZ nA fA) sz)) (va_Qv (fun _ : Unit => True) (gB D (gT cI cL cZ) (va_A (ws_addMultipleS a_fA cI cL cZ nA fA) sz) (ws_addMultipleS a_fA cI cL cZ nA fA_r)) (va_A (ws_addMultipleS a_fA cI cL cZ nA fA) sz)) 0 0 (va_A (ws_addMultipleS a_fA cI cL cZ nA fA) sz) := by
  refine Met.ofW (cc := c_RD_addMultipleb) (maxL := 9) (ret := none) (by decide +kernel) rfl ?_
  intro p e s m args below meth c s₁ B hml hv
  obtain ⟨rfl, hsz, hP, hK, hN, hD0⟩ := hv
  subst hsz
  have hD := hD0.self (sz := s.heap.size)
  have hl := lv_entry ([.ref a_fA, .int i1, .ref a_fA, .int i3, .int i4, .int i5, .int i6]) (n := 9) (Nat.le_of_ble_eq_true rfl)
  rw [lg_entry_eq]
  generalize (lg_sl ([.ref a_fA, .int i1, .ref a_fA, .int i3, .int i4, .int i5, .int i6]) ++ List.replicate (9 - (lg_sl ([.ref a_fA, .int i1, .ref a_fA, .int i3, .int i4, .int i5, .int i6])).length) Slot.unset).toArray = ls at hl ⊢
  exact e_addMultipleS (p, l, e, s, m, ([.ref a_fA, .int i1, .ref a_fA, .int i3, .int i4, .int i5, .int i6] : List Value).toArray, below, meth, c) D cI cL cZ a_fA nA (va_A (ws_addMultipleS a_fA cI cL cZ nA fA) s.heap.size) fA_r F ⟨B.exec, B.bytes, B.returns, hml, findClass_of_methodNamed B.named, fun w h => atoms_spec (ws := (.code y_RD_addMultiple c_RD_addMultipleb 9 none :: gAll)) B.pre w (List.mem_cons_of_mem _ h), B.notSynchronized⟩ hK (fun q h => Or.inr h) hN i1 i3 i4 i5 i6 fA hrun s.heap [] ls hP hD va_S.rf hl
theorem d_RD_firstThatIsNot0_0 : decode c_RD_firstThatIsNot0b 0 = .ok (.iconst 0, 1) := by decide +kernel
theorem d_RD_firstThatIsNot0_1 : decode c_RD_firstThatIsNot0b 1 = .ok (.istore_n 2, 1) := by decide +kernel
theorem d_RD_firstThatIsNot0_2 : decode c_RD_firstThatIsNot0b 2 = .ok (.iload_n 2, 1) := by decide +kernel
theorem d_RD_firstThatIsNot0_3 : decode c_RD_firstThatIsNot0b 3 = .ok (.iload_n 1, 1) := by decide +kernel
theorem d_RD_firstThatIsNot0_4 : decode c_RD_firstThatIsNot0b 4 = .ok (.if_icmp .ge 17, 3) := by decide +kernel
theorem d_RD_firstThatIsNot0_7 : decode c_RD_firstThatIsNot0b 7 = .ok (.aload_n 0, 1) := by decide +kernel
theorem d_RD_firstThatIsNot0_8 : decode c_RD_firstThatIsNot0b 8 = .ok (.iload_n 2, 1) := by decide +kernel
theorem d_RD_firstThatIsNot0_9 : decode c_RD_firstThatIsNot0b 9 = .ok (.iaload, 1) := by decide +kernel
theorem d_RD_firstThatIsNot0_10 : decode c_RD_firstThatIsNot0b 10 = .ok (.ifCond .eq 5, 3) := by decide +kernel
theorem d_RD_firstThatIsNot0_13 : decode c_RD_firstThatIsNot0b 13 = .ok (.iload_n 2, 1) := by decide +kernel
theorem d_RD_firstThatIsNot0_14 : decode c_RD_firstThatIsNot0b 14 = .ok (.ireturn, 1) := by decide +kernel
theorem d_RD_firstThatIsNot0_15 : decode c_RD_firstThatIsNot0b 15 = .ok (.iinc 2 1, 3) := by decide +kernel
theorem d_RD_firstThatIsNot0_18 : decode c_RD_firstThatIsNot0b 18 = .ok (.goto (-16), 3) := by decide +kernel
theorem d_RD_firstThatIsNot0_21 : decode c_RD_firstThatIsNot0b 21 = .ok (.iconst (-1), 1) := by decide +kernel
theorem d_RD_firstThatIsNot0_22 : decode c_RD_firstThatIsNot0b 22 = .ok (.ireturn, 1) := by decide +kernel
abbrev ws_first (a_fA : Nat) (cI cL cZ : ClassId) (nA : Nat) (fA : Nat → Int32) : va_W := [(a_fA, .inl (cI, nA, .inl fA))]
abbrev rm_first : Room := { frames := 0, cells := 0, slots := 0, locals := 0 }
abbrev g_first (X : gX) (r_ : Int32) (pc : Nat) (lv : List (Nat × Value)) (st : List Value) : Prop := ∀ ls : Array Slot, lv_has ls 3 lv → gWW X rm_first (gs X).heap [] 0 0 (MQ (gbl X) (vp_Si (fun r => r = r_)) (ga X) (gs X) 0 0 (fun _ => False)) (F0 (gm X) pc ls st)
set_option maxHeartbeats 4000000 in
set_option maxRecDepth 100000 in
theorem w_first_2 (X : gX) (D : va_G) (cI cL cZ : ClassId) (a_fA : Nat) (F : Nat) (nA : Nat) (fA : Nat → Int32) (r_ : Int32) (C0 : gC X c_RD_firstThatIsNot0b (some .int) 3 "RemnantDictionary" gAll) (hK : va_K D classes (gT cI cL cZ) (gs X)) (hP : va_P D classes (ws_first a_fA cI cL cZ nA fA) (gs X).heap) (hN : gN (gs X)) (k2 : Int32 → Int32 → Option (Int32)) (hk2 : ∀ (i1 i2 : Int32), k2 i1 i2 = some r_ → g_first X r_ 2 [(0, .ref a_fA), (1, .int i1), (2, .int i2)] []) (i1 i2 : Int32) (hrun : s_first_2 F nA fA k2 i1 i2 = some r_) : g_first X r_ 2 [(0, .ref a_fA), (1, .int i1), (2, .int i2)] [] := by
  have C1 := C0
  obtain ⟨hx, hb, hr, hml, hown, hts, hlocks⟩ := C1
  unfold s_first_2 at hrun
  intro ls hl
  refine lv_iload_n hx hb d_RD_firstThatIsNot0_2 rfl (lv_at hl 2 rfl) ?_
  refine lv_iload_n hx hb d_RD_firstThatIsNot0_3 rfl (lv_at hl 1 rfl) ?_
  refine g_icmp_ge (tgt := 21) hx hb d_RD_firstThatIsNot0_4 (by decide) hrun (fun _ hrun => ?_) (fun _ hrun => ?_)
  · refine lv_iconst (v := (-1)) hx hb d_RD_firstThatIsNot0_21 (by decide) ?_
    cases hrun
    exact W.iret hx hb hr (fun t ht hW => ⟨_, rfl, rfl, ht⟩) (fun q h => absurd h List.not_mem_nil) d_RD_firstThatIsNot0_22
  · refine lv_aload_n hx hb d_RD_firstThatIsNot0_7 rfl (lv_at hl 0 rfl) ?_
    refine lv_iload_n hx hb d_RD_firstThatIsNot0_8 rfl (lv_at hl 2 rfl) ?_
    refine g_iald hx hb hK hP 0 0 rfl rfl hrun d_RD_firstThatIsNot0_9 (fun x_1 hrun => ?_)
    refine g_if_eq (tgt := 15) hx hb d_RD_firstThatIsNot0_10 (by decide) hrun (fun _ hrun => ?_) (fun _ hrun => ?_)
    · refine lv_iinc (v := (i2 + 1)) (lv' := [(2, .int (i2 + 1)), (0, .ref a_fA), (1, .int i1)]) hx hb d_RD_firstThatIsNot0_15 hl (k := 2) rfl rfl (by decide) rfl (fun ls hl => ?_)
      refine lv_goto (tgt := 2) hx hb d_RD_firstThatIsNot0_18 (by decide) ?_
      exact hk2 i1 (i2 + 1) hrun ls (lv_sub hl [1, 2, 0] rfl)
    · refine lv_iload_n hx hb d_RD_firstThatIsNot0_13 rfl (lv_at hl 2 rfl) ?_
      cases hrun
      exact W.iret hx hb hr (fun t ht hW => ⟨_, rfl, rfl, ht⟩) (fun q h => absurd h List.not_mem_nil) d_RD_firstThatIsNot0_14
theorem v_first_2 (X : gX) (D : va_G) (cI cL cZ : ClassId) (a_fA : Nat) (F : Nat) (nA : Nat) (fA : Nat → Int32) (r_ : Int32) (C0 : gC X c_RD_firstThatIsNot0b (some .int) 3 "RemnantDictionary" gAll) (hK : va_K D classes (gT cI cL cZ) (gs X)) (hP : va_P D classes (ws_first a_fA cI cL cZ nA fA) (gs X).heap) (hN : gN (gs X))  : ∀ (n : Nat) (i1 i2 : Int32), b_first_2 F nA fA n i1 i2 = some r_ → g_first X r_ 2 [(0, .ref a_fA), (1, .int i1), (2, .int i2)] [] := by
  intro n
  induction n with
  | zero => intro i1 i2 hrun; cases hrun
  | succ n ih =>
    intro i1 i2 hrun
    exact w_first_2 X D cI cL cZ a_fA F nA fA r_ C0 hK hP hN (b_first_2 F nA fA n) ih i1 i2 hrun
set_option maxHeartbeats 4000000 in
set_option maxRecDepth 100000 in
theorem e_first (X : gX) (D : va_G) (cI cL cZ : ClassId) (a_fA : Nat) (F : Nat) (nA : Nat) (fA : Nat → Int32) (r_ : Int32) (C0 : gC X c_RD_firstThatIsNot0b (some .int) 3 "RemnantDictionary" gAll) (hK : va_K D classes (gT cI cL cZ) (gs X)) (hP : va_P D classes (ws_first a_fA cI cL cZ nA fA) (gs X).heap) (hN : gN (gs X)) (i1 : Int32) (hrun : m_first F nA fA i1 = some r_) : g_first X r_ 0 [(0, .ref a_fA), (1, .int i1)] [] := by
  have C1 := C0
  obtain ⟨hx, hb, hr, hml, hown, hts, hlocks⟩ := C1
  unfold m_first at hrun
  intro ls hl
  refine lv_iconst (v := 0) hx hb d_RD_firstThatIsNot0_0 (by decide) ?_
  refine lv_istore_n (lv' := [(2, .int 0), (0, .ref a_fA), (1, .int i1)]) hx hb d_RD_firstThatIsNot0_1 rfl hl (by decide) rfl (fun ls hl => ?_)
  exact v_first_2 X D cI cL cZ a_fA F nA fA r_ C0 hK hP hN  F i1 0 hrun ls (lv_sub hl [1, 2, 0] rfl)
set_option maxHeartbeats 4000000 in
set_option maxRecDepth 100000 in
theorem c_first (l : Launch) (D : va_G) (cI cL cZ : ClassId) (a_fA : Nat) (F : Nat) (nA : Nat) (fA : Nat → Int32) (i1 : Int32) (r_ : Int32) (hrun : m_first F nA fA i1 = some r_) : Met l y_RD_firstThatIsNot0 (.code y_RD_firstThatIsNot0 c_RD_firstThatIsNot0b 3 (some .int) :: gAll) rm_first (va_Pc [.ref a_fA, .int i1] (gPR D (gT cI cL cZ) (ws_first a_fA cI cL cZ nA fA))) (vp_Si (fun r => r = r_)) 0 0 (fun _ => False) := by
  refine Met.ofW (cc := c_RD_firstThatIsNot0b) (maxL := 3) (ret := (some .int)) (by decide +kernel) rfl ?_
  intro p e s m args below meth c s₁ B hml hv
  obtain ⟨rfl, hP, hK, hN⟩ := hv
  have hl := lv_entry ([.ref a_fA, .int i1]) (n := 3) (Nat.le_of_ble_eq_true rfl)
  rw [lg_entry_eq]
  generalize (lg_sl ([.ref a_fA, .int i1]) ++ List.replicate (3 - (lg_sl ([.ref a_fA, .int i1])).length) Slot.unset).toArray = ls at hl ⊢
  exact e_first (p, l, e, s, m, ([.ref a_fA, .int i1] : List Value).toArray, below, meth, c) D cI cL cZ a_fA F nA fA r_ ⟨B.exec, B.bytes, B.returns, hml, findClass_of_methodNamed B.named, fun w h => atoms_spec (ws := (.code y_RD_firstThatIsNot0 c_RD_firstThatIsNot0b 3 (some .int) :: gAll)) B.pre w (List.mem_cons_of_mem _ h), B.notSynchronized⟩ hK hP hN i1 hrun ls hl
theorem d_RD_variable_0 : decode c_RD_variableb 0 = .ok (.iconst 1, 1) := by decide +kernel
theorem d_RD_variable_1 : decode c_RD_variableb 1 = .ok (.bipush 24, 2) := by decide +kernel
theorem d_RD_variable_3 : decode c_RD_variableb 3 = .ok (.bipush 8, 2) := by decide +kernel
theorem d_RD_variable_5 : decode c_RD_variableb 5 = .ok (.iload_n 0, 1) := by decide +kernel
theorem d_RD_variable_6 : decode c_RD_variableb 6 = .ok (.imul, 1) := by decide +kernel
theorem d_RD_variable_7 : decode c_RD_variableb 7 = .ok (.isub, 1) := by decide +kernel
theorem d_RD_variable_8 : decode c_RD_variableb 8 = .ok (.ishl, 1) := by decide +kernel
theorem d_RD_variable_9 : decode c_RD_variableb 9 = .ok (.ireturn, 1) := by decide +kernel
abbrev rm_variable : Room := { frames := 0, cells := 0, slots := 0, locals := 0 }
abbrev g_variable (X : gX) (r_ : Int32) (pc : Nat) (lv : List (Nat × Value)) (st : List Value) : Prop := ∀ ls : Array Slot, lv_has ls 1 lv → gWW X rm_variable (gs X).heap [] 0 0 (MQ (gbl X) (vp_Si (fun r => r = r_)) (ga X) (gs X) 0 0 (fun _ => False)) (F0 (gm X) pc ls st)
set_option maxHeartbeats 4000000 in
set_option maxRecDepth 100000 in
theorem e_variable (X : gX) (F : Nat) (r_ : Int32) (C0 : gC X c_RD_variableb (some .int) 1 "RemnantDictionary" gAll) (hN : gN (gs X)) (i0 : Int32) (hrun : m_variable F i0 = some r_) : g_variable X r_ 0 [(0, .int i0)] [] := by
  have C1 := C0
  obtain ⟨hx, hb, hr, hml, hown, hts, hlocks⟩ := C1
  unfold m_variable at hrun
  intro ls hl
  refine lv_iconst (v := 1) hx hb d_RD_variable_0 (by decide) ?_
  refine lv_bipush (v := 24) hx hb d_RD_variable_1 (by decide) ?_
  refine lv_bipush (v := 8) hx hb d_RD_variable_3 (by decide) ?_
  refine lv_iload_n hx hb d_RD_variable_5 rfl (lv_at hl 0 rfl) ?_
  refine lv_imul hx hb d_RD_variable_6 ?_
  refine lv_isub hx hb d_RD_variable_7 ?_
  refine g_ishl hx hb d_RD_variable_8 ?_
  cases hrun
  exact W.iret hx hb hr (fun t ht hW => ⟨_, rfl, rfl, ht⟩) (fun q h => absurd h List.not_mem_nil) d_RD_variable_9
set_option maxHeartbeats 4000000 in
set_option maxRecDepth 100000 in
theorem c_variable (l : Launch) (F : Nat) (i0 : Int32) (r_ : Int32) (hrun : m_variable F i0 = some r_) : Met l y_RD_variable (.code y_RD_variable c_RD_variableb 1 (some .int) :: gAll) rm_variable (va_Pc [.int i0] gN) (vp_Si (fun r => r = r_)) 0 0 (fun _ => False) := by
  refine Met.ofW (cc := c_RD_variableb) (maxL := 1) (ret := (some .int)) (by decide +kernel) rfl ?_
  intro p e s m args below meth c s₁ B hml hv
  obtain ⟨rfl, hN⟩ := hv
  have hl := lv_entry ([.int i0]) (n := 1) (Nat.le_of_ble_eq_true rfl)
  rw [lg_entry_eq]
  generalize (lg_sl ([.int i0]) ++ List.replicate (1 - (lg_sl ([.int i0])).length) Slot.unset).toArray = ls at hl ⊢
  exact e_variable (p, l, e, s, m, ([.int i0] : List Value).toArray, below, meth, c) F r_ ⟨B.exec, B.bytes, B.returns, hml, findClass_of_methodNamed B.named, fun w h => atoms_spec (ws := (.code y_RD_variable c_RD_variableb 1 (some .int) :: gAll)) B.pre w (List.mem_cons_of_mem _ h), B.notSynchronized⟩ hN i0 hrun ls hl
theorem d_RD_exponent_0 : decode c_RD_exponentb 0 = .ok (.iload_n 0, 1) := by decide +kernel
theorem d_RD_exponent_1 : decode c_RD_exponentb 1 = .ok (.bipush 24, 2) := by decide +kernel
theorem d_RD_exponent_3 : decode c_RD_exponentb 3 = .ok (.bipush 8, 2) := by decide +kernel
theorem d_RD_exponent_5 : decode c_RD_exponentb 5 = .ok (.iload_n 1, 1) := by decide +kernel
theorem d_RD_exponent_6 : decode c_RD_exponentb 6 = .ok (.imul, 1) := by decide +kernel
theorem d_RD_exponent_7 : decode c_RD_exponentb 7 = .ok (.isub, 1) := by decide +kernel
theorem d_RD_exponent_8 : decode c_RD_exponentb 8 = .ok (.iushr, 1) := by decide +kernel
theorem d_RD_exponent_9 : decode c_RD_exponentb 9 = .ok (.sipush 255, 3) := by decide +kernel
theorem d_RD_exponent_12 : decode c_RD_exponentb 12 = .ok (.iand, 1) := by decide +kernel
theorem d_RD_exponent_13 : decode c_RD_exponentb 13 = .ok (.ireturn, 1) := by decide +kernel
abbrev rm_exponent : Room := { frames := 0, cells := 0, slots := 0, locals := 0 }
abbrev g_exponent (X : gX) (r_ : Int32) (pc : Nat) (lv : List (Nat × Value)) (st : List Value) : Prop := ∀ ls : Array Slot, lv_has ls 2 lv → gWW X rm_exponent (gs X).heap [] 0 0 (MQ (gbl X) (vp_Si (fun r => r = r_)) (ga X) (gs X) 0 0 (fun _ => False)) (F0 (gm X) pc ls st)
set_option maxHeartbeats 4000000 in
set_option maxRecDepth 100000 in
theorem e_exponent (X : gX) (F : Nat) (r_ : Int32) (C0 : gC X c_RD_exponentb (some .int) 2 "RemnantDictionary" gAll) (hN : gN (gs X)) (i0 i1 : Int32) (hrun : m_exponent F i0 i1 = some r_) : g_exponent X r_ 0 [(0, .int i0), (1, .int i1)] [] := by
  have C1 := C0
  obtain ⟨hx, hb, hr, hml, hown, hts, hlocks⟩ := C1
  unfold m_exponent at hrun
  intro ls hl
  refine lv_iload_n hx hb d_RD_exponent_0 rfl (lv_at hl 0 rfl) ?_
  refine lv_bipush (v := 24) hx hb d_RD_exponent_1 (by decide) ?_
  refine lv_bipush (v := 8) hx hb d_RD_exponent_3 (by decide) ?_
  refine lv_iload_n hx hb d_RD_exponent_5 rfl (lv_at hl 1 rfl) ?_
  refine lv_imul hx hb d_RD_exponent_6 ?_
  refine lv_isub hx hb d_RD_exponent_7 ?_
  refine g_iushr hx hb d_RD_exponent_8 ?_
  refine lv_sipush (v := 255) hx hb d_RD_exponent_9 (by decide) ?_
  refine lv_iand hx hb d_RD_exponent_12 ?_
  cases hrun
  exact W.iret hx hb hr (fun t ht hW => ⟨_, rfl, rfl, ht⟩) (fun q h => absurd h List.not_mem_nil) d_RD_exponent_13
set_option maxHeartbeats 4000000 in
set_option maxRecDepth 100000 in
theorem c_exponent (l : Launch) (F : Nat) (i0 i1 : Int32) (r_ : Int32) (hrun : m_exponent F i0 i1 = some r_) : Met l y_RD_exponent (.code y_RD_exponent c_RD_exponentb 2 (some .int) :: gAll) rm_exponent (va_Pc [.int i0, .int i1] gN) (vp_Si (fun r => r = r_)) 0 0 (fun _ => False) := by
  refine Met.ofW (cc := c_RD_exponentb) (maxL := 2) (ret := (some .int)) (by decide +kernel) rfl ?_
  intro p e s m args below meth c s₁ B hml hv
  obtain ⟨rfl, hN⟩ := hv
  have hl := lv_entry ([.int i0, .int i1]) (n := 2) (Nat.le_of_ble_eq_true rfl)
  rw [lg_entry_eq]
  generalize (lg_sl ([.int i0, .int i1]) ++ List.replicate (2 - (lg_sl ([.int i0, .int i1])).length) Slot.unset).toArray = ls at hl ⊢
  exact e_exponent (p, l, e, s, m, ([.int i0, .int i1] : List Value).toArray, below, meth, c) F r_ ⟨B.exec, B.bytes, B.returns, hml, findClass_of_methodNamed B.named, fun w h => atoms_spec (ws := (.code y_RD_exponent c_RD_exponentb 2 (some .int) :: gAll)) B.pre w (List.mem_cons_of_mem _ h), B.notSynchronized⟩ hN i0 i1 hrun ls hl
theorem d_RD_degree_0 : decode c_RD_degreeb 0 = .ok (.iload_n 0, 1) := by decide +kernel
theorem d_RD_degree_1 : decode c_RD_degreeb 1 = .ok (.iconst 0, 1) := by decide +kernel
theorem d_RD_degree_2 : decode c_RD_degreeb 2 = .ok (.invokestatic 190, 3) := by decide +kernel
theorem d_RD_degree_5 : decode c_RD_degreeb 5 = .ok (.iload_n 0, 1) := by decide +kernel
theorem d_RD_degree_6 : decode c_RD_degreeb 6 = .ok (.iconst 1, 1) := by decide +kernel
theorem d_RD_degree_7 : decode c_RD_degreeb 7 = .ok (.invokestatic 190, 3) := by decide +kernel
theorem d_RD_degree_10 : decode c_RD_degreeb 10 = .ok (.iadd, 1) := by decide +kernel
theorem d_RD_degree_11 : decode c_RD_degreeb 11 = .ok (.iload_n 0, 1) := by decide +kernel
theorem d_RD_degree_12 : decode c_RD_degreeb 12 = .ok (.iconst 2, 1) := by decide +kernel
theorem d_RD_degree_13 : decode c_RD_degreeb 13 = .ok (.invokestatic 190, 3) := by decide +kernel
theorem d_RD_degree_16 : decode c_RD_degreeb 16 = .ok (.iadd, 1) := by decide +kernel
theorem d_RD_degree_17 : decode c_RD_degreeb 17 = .ok (.iload_n 0, 1) := by decide +kernel
theorem d_RD_degree_18 : decode c_RD_degreeb 18 = .ok (.iconst 3, 1) := by decide +kernel
theorem d_RD_degree_19 : decode c_RD_degreeb 19 = .ok (.invokestatic 190, 3) := by decide +kernel
theorem d_RD_degree_22 : decode c_RD_degreeb 22 = .ok (.iadd, 1) := by decide +kernel
theorem d_RD_degree_23 : decode c_RD_degreeb 23 = .ok (.ireturn, 1) := by decide +kernel
abbrev rm_degree : Room := { frames := 1, cells := 0, slots := 0, locals := 21 }
abbrev g_degree (X : gX) (r_ : Int32) (pc : Nat) (lv : List (Nat × Value)) (st : List Value) : Prop := ∀ ls : Array Slot, lv_has ls 1 lv → gWW X rm_degree (gs X).heap [] 0 0 (MQ (gbl X) (vp_Si (fun r => r = r_)) (ga X) (gs X) 0 0 (fun _ => False)) (F0 (gm X) pc ls st)
set_option maxHeartbeats 4000000 in
set_option maxRecDepth 100000 in
theorem e_degree (X : gX) (F : Nat) (r_ : Int32) (C0 : gC X c_RD_degreeb (some .int) 1 "RemnantDictionary" gAll) (hN : gN (gs X)) (i0 : Int32) (hrun : m_degree F i0 = some r_) : g_degree X r_ 0 [(0, .int i0)] [] := by
  have C1 := C0
  obtain ⟨hx, hb, hr, hml, hown, hts, hlocks⟩ := C1
  unfold m_degree at hrun
  intro ls hl
  refine lv_iload_n hx hb d_RD_degree_0 rfl (lv_at hl 0 rfl) ?_
  refine lv_iconst (v := 0) hx hb d_RD_degree_1 (by decide) ?_
  obtain ⟨r_1, hc, hrun⟩ := bd1_s hrun
  refine vp_callSi (W.runS (As := [.int i0, .int 0]) (rest := []) ⟨hx, hb, hml, hown, hts⟩ (c_exponent (gl X) F i0 0 r_1 hc) (va_cwS 2 hts (gwS k_15 k_13 k_14 k_12) rfl rfl rfl (by decide +kernel) ⟨Nat.le_of_ble_eq_true rfl, Nat.le_of_ble_eq_true rfl⟩) (gpreS0 hN) rfl rfl hl.1 rfl (lv_room (Nat.le_of_ble_eq_true rfl)) d_RD_degree_2 ⟨Nat.le_of_ble_eq_true rfl, Nat.le_of_ble_eq_true rfl⟩) (nm_e ?_)
  refine lv_iload_n hx hb d_RD_degree_5 rfl (lv_at hl 0 rfl) ?_
  refine lv_iconst (v := 1) hx hb d_RD_degree_6 (by decide) ?_
  obtain ⟨r_2, hc, hrun⟩ := bd1_s hrun
  refine vp_callSi (W.runS (As := [.int i0, .int 1]) (rest := [.int r_1]) ⟨hx, hb, hml, hown, hts⟩ (c_exponent (gl X) F i0 1 r_2 hc) (va_cwS 2 hts (gwS k_15 k_13 k_14 k_12) rfl rfl rfl (by decide +kernel) ⟨Nat.le_of_ble_eq_true rfl, Nat.le_of_ble_eq_true rfl⟩) (gpreS0 hN) rfl rfl hl.1 rfl (lv_room (Nat.le_of_ble_eq_true rfl)) d_RD_degree_7 ⟨Nat.le_of_ble_eq_true rfl, Nat.le_of_ble_eq_true rfl⟩) (nm_e ?_)
  refine lv_iadd hx hb d_RD_degree_10 ?_
  refine lv_iload_n hx hb d_RD_degree_11 rfl (lv_at hl 0 rfl) ?_
  refine lv_iconst (v := 2) hx hb d_RD_degree_12 (by decide) ?_
  obtain ⟨r_3, hc, hrun⟩ := bd1_s hrun
  refine vp_callSi (W.runS (As := [.int i0, .int 2]) (rest := [.int (r_1 + r_2)]) ⟨hx, hb, hml, hown, hts⟩ (c_exponent (gl X) F i0 2 r_3 hc) (va_cwS 2 hts (gwS k_15 k_13 k_14 k_12) rfl rfl rfl (by decide +kernel) ⟨Nat.le_of_ble_eq_true rfl, Nat.le_of_ble_eq_true rfl⟩) (gpreS0 hN) rfl rfl hl.1 rfl (lv_room (Nat.le_of_ble_eq_true rfl)) d_RD_degree_13 ⟨Nat.le_of_ble_eq_true rfl, Nat.le_of_ble_eq_true rfl⟩) (nm_e ?_)
  refine lv_iadd hx hb d_RD_degree_16 ?_
  refine lv_iload_n hx hb d_RD_degree_17 rfl (lv_at hl 0 rfl) ?_
  refine lv_iconst (v := 3) hx hb d_RD_degree_18 (by decide) ?_
  obtain ⟨r_4, hc, hrun⟩ := bd1_s hrun
  refine vp_callSi (W.runS (As := [.int i0, .int 3]) (rest := [.int ((r_1 + r_2) + r_3)]) ⟨hx, hb, hml, hown, hts⟩ (c_exponent (gl X) F i0 3 r_4 hc) (va_cwS 2 hts (gwS k_15 k_13 k_14 k_12) rfl rfl rfl (by decide +kernel) ⟨Nat.le_of_ble_eq_true rfl, Nat.le_of_ble_eq_true rfl⟩) (gpreS0 hN) rfl rfl hl.1 rfl (lv_room (Nat.le_of_ble_eq_true rfl)) d_RD_degree_19 ⟨Nat.le_of_ble_eq_true rfl, Nat.le_of_ble_eq_true rfl⟩) (nm_e ?_)
  refine lv_iadd hx hb d_RD_degree_22 ?_
  cases hrun
  exact W.iret hx hb hr (fun t ht hW => ⟨_, rfl, rfl, ht⟩) (fun q h => absurd h List.not_mem_nil) d_RD_degree_23
set_option maxHeartbeats 4000000 in
set_option maxRecDepth 100000 in
theorem c_degree (l : Launch) (F : Nat) (i0 : Int32) (r_ : Int32) (hrun : m_degree F i0 = some r_) : Met l y_RD_degree (.code y_RD_degree c_RD_degreeb 1 (some .int) :: gAll) rm_degree (va_Pc [.int i0] gN) (vp_Si (fun r => r = r_)) 0 0 (fun _ => False) := by
  refine Met.ofW (cc := c_RD_degreeb) (maxL := 1) (ret := (some .int)) (by decide +kernel) rfl ?_
  intro p e s m args below meth c s₁ B hml hv
  obtain ⟨rfl, hN⟩ := hv
  have hl := lv_entry ([.int i0]) (n := 1) (Nat.le_of_ble_eq_true rfl)
  rw [lg_entry_eq]
  generalize (lg_sl ([.int i0]) ++ List.replicate (1 - (lg_sl ([.int i0])).length) Slot.unset).toArray = ls at hl ⊢
  exact e_degree (p, l, e, s, m, ([.int i0] : List Value).toArray, below, meth, c) F r_ ⟨B.exec, B.bytes, B.returns, hml, findClass_of_methodNamed B.named, fun w h => atoms_spec (ws := (.code y_RD_degree c_RD_degreeb 1 (some .int) :: gAll)) B.pre w (List.mem_cons_of_mem _ h), B.notSynchronized⟩ hN i0 hrun ls hl
theorem d_RD_divides_0 : decode c_RD_dividesb 0 = .ok (.iconst 0, 1) := by decide +kernel
theorem d_RD_divides_1 : decode c_RD_dividesb 1 = .ok (.istore_n 2, 1) := by decide +kernel
theorem d_RD_divides_2 : decode c_RD_dividesb 2 = .ok (.iload_n 2, 1) := by decide +kernel
theorem d_RD_divides_3 : decode c_RD_dividesb 3 = .ok (.iconst 4, 1) := by decide +kernel
theorem d_RD_divides_4 : decode c_RD_dividesb 4 = .ok (.if_icmp .ge 24, 3) := by decide +kernel
theorem d_RD_divides_7 : decode c_RD_dividesb 7 = .ok (.iload_n 0, 1) := by decide +kernel
theorem d_RD_divides_8 : decode c_RD_dividesb 8 = .ok (.iload_n 2, 1) := by decide +kernel
theorem d_RD_divides_9 : decode c_RD_dividesb 9 = .ok (.invokestatic 190, 3) := by decide +kernel
theorem d_RD_divides_12 : decode c_RD_dividesb 12 = .ok (.iload_n 1, 1) := by decide +kernel
theorem d_RD_divides_13 : decode c_RD_dividesb 13 = .ok (.iload_n 2, 1) := by decide +kernel
theorem d_RD_divides_14 : decode c_RD_dividesb 14 = .ok (.invokestatic 190, 3) := by decide +kernel
theorem d_RD_divides_17 : decode c_RD_dividesb 17 = .ok (.if_icmp .le 5, 3) := by decide +kernel
theorem d_RD_divides_20 : decode c_RD_dividesb 20 = .ok (.iconst 0, 1) := by decide +kernel
theorem d_RD_divides_21 : decode c_RD_dividesb 21 = .ok (.ireturn, 1) := by decide +kernel
theorem d_RD_divides_22 : decode c_RD_dividesb 22 = .ok (.iinc 2 1, 3) := by decide +kernel
theorem d_RD_divides_25 : decode c_RD_dividesb 25 = .ok (.goto (-23), 3) := by decide +kernel
theorem d_RD_divides_28 : decode c_RD_dividesb 28 = .ok (.iconst 1, 1) := by decide +kernel
theorem d_RD_divides_29 : decode c_RD_dividesb 29 = .ok (.ireturn, 1) := by decide +kernel
abbrev rm_divides : Room := { frames := 1, cells := 0, slots := 0, locals := 21 }
abbrev g_divides (X : gX) (r_ : Int32) (pc : Nat) (lv : List (Nat × Value)) (st : List Value) : Prop := ∀ ls : Array Slot, lv_has ls 3 lv → gWW X rm_divides (gs X).heap [] 0 0 (MQ (gbl X) (vp_Si (fun r => r = r_)) (ga X) (gs X) 0 0 (fun _ => False)) (F0 (gm X) pc ls st)
set_option maxHeartbeats 4000000 in
set_option maxRecDepth 100000 in
theorem w_divides_2 (X : gX) (F : Nat) (r_ : Int32) (C0 : gC X c_RD_dividesb (some .boolean) 3 "RemnantDictionary" gAll) (hN : gN (gs X)) (k2 : Int32 → Int32 → Int32 → Option (Int32)) (hk2 : ∀ (i0 i1 i2 : Int32), k2 i0 i1 i2 = some r_ → g_divides X r_ 2 [(0, .int i0), (1, .int i1), (2, .int i2)] []) (i0 i1 i2 : Int32) (hrun : s_divides_2 F k2 i0 i1 i2 = some r_) : g_divides X r_ 2 [(0, .int i0), (1, .int i1), (2, .int i2)] [] := by
  have C1 := C0
  obtain ⟨hx, hb, hr, hml, hown, hts, hlocks⟩ := C1
  unfold s_divides_2 at hrun
  intro ls hl
  refine lv_iload_n hx hb d_RD_divides_2 rfl (lv_at hl 2 rfl) ?_
  refine lv_iconst (v := 4) hx hb d_RD_divides_3 (by decide) ?_
  refine g_icmp_ge (tgt := 28) hx hb d_RD_divides_4 (by decide) hrun (fun _ hrun => ?_) (fun _ hrun => ?_)
  · refine lv_iconst (v := 1) hx hb d_RD_divides_28 (by decide) ?_
    cases hrun
    exact W.zret hx hb hr rfl (fun t ht hW => ⟨_, rfl, rfl, ht⟩) (fun q h => absurd h List.not_mem_nil) d_RD_divides_29
  · refine lv_iload_n hx hb d_RD_divides_7 rfl (lv_at hl 0 rfl) ?_
    refine lv_iload_n hx hb d_RD_divides_8 rfl (lv_at hl 2 rfl) ?_
    obtain ⟨r_1, hc, hrun⟩ := bd1_s hrun
    refine vp_callSi (W.runS (As := [.int i0, .int i2]) (rest := []) ⟨hx, hb, hml, hown, hts⟩ (c_exponent (gl X) F i0 i2 r_1 hc) (va_cwS 2 hts (gwS k_15 k_13 k_14 k_12) rfl rfl rfl (by decide +kernel) ⟨Nat.le_of_ble_eq_true rfl, Nat.le_of_ble_eq_true rfl⟩) (gpreS0 hN) rfl rfl hl.1 rfl (lv_room (Nat.le_of_ble_eq_true rfl)) d_RD_divides_9 ⟨Nat.le_of_ble_eq_true rfl, Nat.le_of_ble_eq_true rfl⟩) (nm_e ?_)
    refine lv_iload_n hx hb d_RD_divides_12 rfl (lv_at hl 1 rfl) ?_
    refine lv_iload_n hx hb d_RD_divides_13 rfl (lv_at hl 2 rfl) ?_
    obtain ⟨r_2, hc, hrun⟩ := bd1_s hrun
    refine vp_callSi (W.runS (As := [.int i1, .int i2]) (rest := [.int r_1]) ⟨hx, hb, hml, hown, hts⟩ (c_exponent (gl X) F i1 i2 r_2 hc) (va_cwS 2 hts (gwS k_15 k_13 k_14 k_12) rfl rfl rfl (by decide +kernel) ⟨Nat.le_of_ble_eq_true rfl, Nat.le_of_ble_eq_true rfl⟩) (gpreS0 hN) rfl rfl hl.1 rfl (lv_room (Nat.le_of_ble_eq_true rfl)) d_RD_divides_14 ⟨Nat.le_of_ble_eq_true rfl, Nat.le_of_ble_eq_true rfl⟩) (nm_e ?_)
    refine g_icmp_le (tgt := 22) hx hb d_RD_divides_17 (by decide) hrun (fun _ hrun => ?_) (fun _ hrun => ?_)
    · refine lv_iinc (v := (i2 + 1)) (lv' := [(2, .int (i2 + 1)), (0, .int i0), (1, .int i1)]) hx hb d_RD_divides_22 hl (k := 2) rfl rfl (by decide) rfl (fun ls hl => ?_)
      refine lv_goto (tgt := 2) hx hb d_RD_divides_25 (by decide) ?_
      exact hk2 i0 i1 (i2 + 1) hrun ls (lv_sub hl [1, 2, 0] rfl)
    · refine lv_iconst (v := 0) hx hb d_RD_divides_20 (by decide) ?_
      cases hrun
      exact W.zret hx hb hr rfl (fun t ht hW => ⟨_, rfl, rfl, ht⟩) (fun q h => absurd h List.not_mem_nil) d_RD_divides_21
theorem v_divides_2 (X : gX) (F : Nat) (r_ : Int32) (C0 : gC X c_RD_dividesb (some .boolean) 3 "RemnantDictionary" gAll) (hN : gN (gs X))  : ∀ (n : Nat) (i0 i1 i2 : Int32), b_divides_2 F n i0 i1 i2 = some r_ → g_divides X r_ 2 [(0, .int i0), (1, .int i1), (2, .int i2)] [] := by
  intro n
  induction n with
  | zero => intro i0 i1 i2 hrun; cases hrun
  | succ n ih =>
    intro i0 i1 i2 hrun
    exact w_divides_2 X F r_ C0 hN (b_divides_2 F n) ih i0 i1 i2 hrun
set_option maxHeartbeats 4000000 in
set_option maxRecDepth 100000 in
theorem e_divides (X : gX) (F : Nat) (r_ : Int32) (C0 : gC X c_RD_dividesb (some .boolean) 3 "RemnantDictionary" gAll) (hN : gN (gs X)) (i0 i1 : Int32) (hrun : m_divides F i0 i1 = some r_) : g_divides X r_ 0 [(0, .int i0), (1, .int i1)] [] := by
  have C1 := C0
  obtain ⟨hx, hb, hr, hml, hown, hts, hlocks⟩ := C1
  unfold m_divides at hrun
  intro ls hl
  refine lv_iconst (v := 0) hx hb d_RD_divides_0 (by decide) ?_
  refine lv_istore_n (lv' := [(2, .int 0), (0, .int i0), (1, .int i1)]) hx hb d_RD_divides_1 rfl hl (by decide) rfl (fun ls hl => ?_)
  exact v_divides_2 X F r_ C0 hN  F i0 i1 0 hrun ls (lv_sub hl [1, 2, 0] rfl)
set_option maxHeartbeats 4000000 in
set_option maxRecDepth 100000 in
theorem c_divides (l : Launch) (F : Nat) (i0 i1 : Int32) (r_ : Int32) (hrun : m_divides F i0 i1 = some r_) : Met l y_RD_divides (.code y_RD_divides c_RD_dividesb 3 (some .boolean) :: gAll) rm_divides (va_Pc [.int i0, .int i1] gN) (vp_Si (fun r => r = r_)) 0 0 (fun _ => False) := by
  refine Met.ofW (cc := c_RD_dividesb) (maxL := 3) (ret := (some .boolean)) (by decide +kernel) rfl ?_
  intro p e s m args below meth c s₁ B hml hv
  obtain ⟨rfl, hN⟩ := hv
  have hl := lv_entry ([.int i0, .int i1]) (n := 3) (Nat.le_of_ble_eq_true rfl)
  rw [lg_entry_eq]
  generalize (lg_sl ([.int i0, .int i1]) ++ List.replicate (3 - (lg_sl ([.int i0, .int i1])).length) Slot.unset).toArray = ls at hl ⊢
  exact e_divides (p, l, e, s, m, ([.int i0, .int i1] : List Value).toArray, below, meth, c) F r_ ⟨B.exec, B.bytes, B.returns, hml, findClass_of_methodNamed B.named, fun w h => atoms_spec (ws := (.code y_RD_divides c_RD_dividesb 3 (some .boolean) :: gAll)) B.pre w (List.mem_cons_of_mem _ h), B.notSynchronized⟩ hN i0 i1 hrun ls hl
theorem d_RD_degreeOfCommonMultiple_0 : decode c_RD_degreeOfCommonMultipleb 0 = .ok (.iconst 0, 1) := by decide +kernel
theorem d_RD_degreeOfCommonMultiple_1 : decode c_RD_degreeOfCommonMultipleb 1 = .ok (.istore_n 2, 1) := by decide +kernel
theorem d_RD_degreeOfCommonMultiple_2 : decode c_RD_degreeOfCommonMultipleb 2 = .ok (.iconst 0, 1) := by decide +kernel
theorem d_RD_degreeOfCommonMultiple_3 : decode c_RD_degreeOfCommonMultipleb 3 = .ok (.istore_n 3, 1) := by decide +kernel
theorem d_RD_degreeOfCommonMultiple_4 : decode c_RD_degreeOfCommonMultipleb 4 = .ok (.iload_n 3, 1) := by decide +kernel
theorem d_RD_degreeOfCommonMultiple_5 : decode c_RD_degreeOfCommonMultipleb 5 = .ok (.iconst 4, 1) := by decide +kernel
theorem d_RD_degreeOfCommonMultiple_6 : decode c_RD_degreeOfCommonMultipleb 6 = .ok (.if_icmp .ge 25, 3) := by decide +kernel
theorem d_RD_degreeOfCommonMultiple_9 : decode c_RD_degreeOfCommonMultipleb 9 = .ok (.iload_n 2, 1) := by decide +kernel
theorem d_RD_degreeOfCommonMultiple_10 : decode c_RD_degreeOfCommonMultipleb 10 = .ok (.iload_n 0, 1) := by decide +kernel
theorem d_RD_degreeOfCommonMultiple_11 : decode c_RD_degreeOfCommonMultipleb 11 = .ok (.iload_n 3, 1) := by decide +kernel
theorem d_RD_degreeOfCommonMultiple_12 : decode c_RD_degreeOfCommonMultipleb 12 = .ok (.invokestatic 190, 3) := by decide +kernel
theorem d_RD_degreeOfCommonMultiple_15 : decode c_RD_degreeOfCommonMultipleb 15 = .ok (.iload_n 1, 1) := by decide +kernel
theorem d_RD_degreeOfCommonMultiple_16 : decode c_RD_degreeOfCommonMultipleb 16 = .ok (.iload_n 3, 1) := by decide +kernel
theorem d_RD_degreeOfCommonMultiple_17 : decode c_RD_degreeOfCommonMultipleb 17 = .ok (.invokestatic 190, 3) := by decide +kernel
theorem d_RD_degreeOfCommonMultiple_20 : decode c_RD_degreeOfCommonMultipleb 20 = .ok (.invokestatic 193, 3) := by decide +kernel
theorem d_RD_degreeOfCommonMultiple_23 : decode c_RD_degreeOfCommonMultipleb 23 = .ok (.iadd, 1) := by decide +kernel
theorem d_RD_degreeOfCommonMultiple_24 : decode c_RD_degreeOfCommonMultipleb 24 = .ok (.istore_n 2, 1) := by decide +kernel
theorem d_RD_degreeOfCommonMultiple_25 : decode c_RD_degreeOfCommonMultipleb 25 = .ok (.iinc 3 1, 3) := by decide +kernel
theorem d_RD_degreeOfCommonMultiple_28 : decode c_RD_degreeOfCommonMultipleb 28 = .ok (.goto (-24), 3) := by decide +kernel
theorem d_RD_degreeOfCommonMultiple_31 : decode c_RD_degreeOfCommonMultipleb 31 = .ok (.iload_n 2, 1) := by decide +kernel
theorem d_RD_degreeOfCommonMultiple_32 : decode c_RD_degreeOfCommonMultipleb 32 = .ok (.ireturn, 1) := by decide +kernel
abbrev rm_common : Room := { frames := 1, cells := 0, slots := 0, locals := 21 }
abbrev g_common (X : gX) (r_ : Int32) (pc : Nat) (lv : List (Nat × Value)) (st : List Value) : Prop := ∀ ls : Array Slot, lv_has ls 4 lv → gWW X rm_common (gs X).heap [] 0 0 (MQ (gbl X) (vp_Si (fun r => r = r_)) (ga X) (gs X) 0 0 (fun _ => False)) (F0 (gm X) pc ls st)
set_option maxHeartbeats 4000000 in
set_option maxRecDepth 100000 in
theorem w_common_4 (X : gX) (F : Nat) (r_ : Int32) (C0 : gC X c_RD_degreeOfCommonMultipleb (some .int) 4 "RemnantDictionary" gAll) (hN : gN (gs X)) (k4 : Int32 → Int32 → Int32 → Int32 → Option (Int32)) (hk4 : ∀ (i0 i1 i2 i3 : Int32), k4 i0 i1 i2 i3 = some r_ → g_common X r_ 4 [(0, .int i0), (1, .int i1), (2, .int i2), (3, .int i3)] []) (i0 i1 i2 i3 : Int32) (hrun : s_common_4 F k4 i0 i1 i2 i3 = some r_) : g_common X r_ 4 [(0, .int i0), (1, .int i1), (2, .int i2), (3, .int i3)] [] := by
  have C1 := C0
  obtain ⟨hx, hb, hr, hml, hown, hts, hlocks⟩ := C1
  unfold s_common_4 at hrun
  intro ls hl
  refine lv_iload_n hx hb d_RD_degreeOfCommonMultiple_4 rfl (lv_at hl 3 rfl) ?_
  refine lv_iconst (v := 4) hx hb d_RD_degreeOfCommonMultiple_5 (by decide) ?_
  refine g_icmp_ge (tgt := 31) hx hb d_RD_degreeOfCommonMultiple_6 (by decide) hrun (fun _ hrun => ?_) (fun _ hrun => ?_)
  · refine lv_iload_n hx hb d_RD_degreeOfCommonMultiple_31 rfl (lv_at hl 2 rfl) ?_
    cases hrun
    exact W.iret hx hb hr (fun t ht hW => ⟨_, rfl, rfl, ht⟩) (fun q h => absurd h List.not_mem_nil) d_RD_degreeOfCommonMultiple_32
  · refine lv_iload_n hx hb d_RD_degreeOfCommonMultiple_9 rfl (lv_at hl 2 rfl) ?_
    refine lv_iload_n hx hb d_RD_degreeOfCommonMultiple_10 rfl (lv_at hl 0 rfl) ?_
    refine lv_iload_n hx hb d_RD_degreeOfCommonMultiple_11 rfl (lv_at hl 3 rfl) ?_
    obtain ⟨r_1, hc, hrun⟩ := bd1_s hrun
    refine vp_callSi (W.runS (As := [.int i0, .int i3]) (rest := [.int i2]) ⟨hx, hb, hml, hown, hts⟩ (c_exponent (gl X) F i0 i3 r_1 hc) (va_cwS 2 hts (gwS k_15 k_13 k_14 k_12) rfl rfl rfl (by decide +kernel) ⟨Nat.le_of_ble_eq_true rfl, Nat.le_of_ble_eq_true rfl⟩) (gpreS0 hN) rfl rfl hl.1 rfl (lv_room (Nat.le_of_ble_eq_true rfl)) d_RD_degreeOfCommonMultiple_12 ⟨Nat.le_of_ble_eq_true rfl, Nat.le_of_ble_eq_true rfl⟩) (nm_e ?_)
    refine lv_iload_n hx hb d_RD_degreeOfCommonMultiple_15 rfl (lv_at hl 1 rfl) ?_
    refine lv_iload_n hx hb d_RD_degreeOfCommonMultiple_16 rfl (lv_at hl 3 rfl) ?_
    obtain ⟨r_2, hc, hrun⟩ := bd1_s hrun
    refine vp_callSi (W.runS (As := [.int i1, .int i3]) (rest := [.int r_1, .int i2]) ⟨hx, hb, hml, hown, hts⟩ (c_exponent (gl X) F i1 i3 r_2 hc) (va_cwS 2 hts (gwS k_15 k_13 k_14 k_12) rfl rfl rfl (by decide +kernel) ⟨Nat.le_of_ble_eq_true rfl, Nat.le_of_ble_eq_true rfl⟩) (gpreS0 hN) rfl rfl hl.1 rfl (lv_room (Nat.le_of_ble_eq_true rfl)) d_RD_degreeOfCommonMultiple_17 ⟨Nat.le_of_ble_eq_true rfl, Nat.le_of_ble_eq_true rfl⟩) (nm_e ?_)
    refine va_mmax hx hb (hml.trans hl.1.symm) hown (hts _ k_18) (hts _ k_19) (hts _ k_20) (hts _ k_21) (Nat.le_of_ble_eq_true rfl) (Nat.le_of_ble_eq_true rfl) (Nat.le_refl _) (Nat.le_refl _) d_RD_degreeOfCommonMultiple_20 ?_
    refine lv_iadd hx hb d_RD_degreeOfCommonMultiple_23 ?_
    refine lv_istore_n (lv' := [(2, .int (i2 + (maxI r_1 r_2))), (0, .int i0), (1, .int i1), (3, .int i3)]) hx hb d_RD_degreeOfCommonMultiple_24 rfl hl (by decide) rfl (fun ls hl => ?_)
    refine lv_iinc (v := (i3 + 1)) (lv' := [(3, .int (i3 + 1)), (2, .int (i2 + (maxI r_1 r_2))), (0, .int i0), (1, .int i1)]) hx hb d_RD_degreeOfCommonMultiple_25 hl (k := 3) rfl rfl (by decide) rfl (fun ls hl => ?_)
    refine lv_goto (tgt := 4) hx hb d_RD_degreeOfCommonMultiple_28 (by decide) ?_
    exact hk4 i0 i1 (i2 + (maxI r_1 r_2)) (i3 + 1) hrun ls (lv_sub hl [2, 3, 1, 0] rfl)
theorem v_common_4 (X : gX) (F : Nat) (r_ : Int32) (C0 : gC X c_RD_degreeOfCommonMultipleb (some .int) 4 "RemnantDictionary" gAll) (hN : gN (gs X))  : ∀ (n : Nat) (i0 i1 i2 i3 : Int32), b_common_4 F n i0 i1 i2 i3 = some r_ → g_common X r_ 4 [(0, .int i0), (1, .int i1), (2, .int i2), (3, .int i3)] [] := by
  intro n
  induction n with
  | zero => intro i0 i1 i2 i3 hrun; cases hrun
  | succ n ih =>
    intro i0 i1 i2 i3 hrun
    exact w_common_4 X F r_ C0 hN (b_common_4 F n) ih i0 i1 i2 i3 hrun
set_option maxHeartbeats 4000000 in
set_option maxRecDepth 100000 in
theorem e_common (X : gX) (F : Nat) (r_ : Int32) (C0 : gC X c_RD_degreeOfCommonMultipleb (some .int) 4 "RemnantDictionary" gAll) (hN : gN (gs X)) (i0 i1 : Int32) (hrun : m_common F i0 i1 = some r_) : g_common X r_ 0 [(0, .int i0), (1, .int i1)] [] := by
  have C1 := C0
  obtain ⟨hx, hb, hr, hml, hown, hts, hlocks⟩ := C1
  unfold m_common at hrun
  intro ls hl
  refine lv_iconst (v := 0) hx hb d_RD_degreeOfCommonMultiple_0 (by decide) ?_
  refine lv_istore_n (lv' := [(2, .int 0), (0, .int i0), (1, .int i1)]) hx hb d_RD_degreeOfCommonMultiple_1 rfl hl (by decide) rfl (fun ls hl => ?_)
  refine lv_iconst (v := 0) hx hb d_RD_degreeOfCommonMultiple_2 (by decide) ?_
  refine lv_istore_n (lv' := [(3, .int 0), (2, .int 0), (0, .int i0), (1, .int i1)]) hx hb d_RD_degreeOfCommonMultiple_3 rfl hl (by decide) rfl (fun ls hl => ?_)
  exact v_common_4 X F r_ C0 hN  F i0 i1 0 0 hrun ls (lv_sub hl [2, 3, 1, 0] rfl)
set_option maxHeartbeats 4000000 in
set_option maxRecDepth 100000 in
theorem c_common (l : Launch) (F : Nat) (i0 i1 : Int32) (r_ : Int32) (hrun : m_common F i0 i1 = some r_) : Met l y_RD_degreeOfCommonMultiple (.code y_RD_degreeOfCommonMultiple c_RD_degreeOfCommonMultipleb 4 (some .int) :: gAll) rm_common (va_Pc [.int i0, .int i1] gN) (vp_Si (fun r => r = r_)) 0 0 (fun _ => False) := by
  refine Met.ofW (cc := c_RD_degreeOfCommonMultipleb) (maxL := 4) (ret := (some .int)) (by decide +kernel) rfl ?_
  intro p e s m args below meth c s₁ B hml hv
  obtain ⟨rfl, hN⟩ := hv
  have hl := lv_entry ([.int i0, .int i1]) (n := 4) (Nat.le_of_ble_eq_true rfl)
  rw [lg_entry_eq]
  generalize (lg_sl ([.int i0, .int i1]) ++ List.replicate (4 - (lg_sl ([.int i0, .int i1])).length) Slot.unset).toArray = ls at hl ⊢
  exact e_common (p, l, e, s, m, ([.int i0, .int i1] : List Value).toArray, below, meth, c) F r_ ⟨B.exec, B.bytes, B.returns, hml, findClass_of_methodNamed B.named, fun w h => atoms_spec (ws := (.code y_RD_degreeOfCommonMultiple c_RD_degreeOfCommonMultipleb 4 (some .int) :: gAll)) B.pre w (List.mem_cons_of_mem _ h), B.notSynchronized⟩ hN i0 i1 hrun ls hl
theorem d_RD_key_0 : decode c_RD_keyb 0 = .ok (.iload_n 0, 1) := by decide +kernel
theorem d_RD_key_1 : decode c_RD_keyb 1 = .ok (.invokestatic 196, 3) := by decide +kernel
theorem d_RD_key_4 : decode c_RD_keyb 4 = .ok (.i2l, 1) := by decide +kernel
theorem d_RD_key_5 : decode c_RD_keyb 5 = .ok (.lstore_n 2, 1) := by decide +kernel
theorem d_RD_key_6 : decode c_RD_keyb 6 = .ok (.iconst 0, 1) := by decide +kernel
theorem d_RD_key_7 : decode c_RD_keyb 7 = .ok (.istore 4, 2) := by decide +kernel
theorem d_RD_key_9 : decode c_RD_keyb 9 = .ok (.iload 4, 2) := by decide +kernel
theorem d_RD_key_11 : decode c_RD_keyb 11 = .ok (.iconst 4, 1) := by decide +kernel
theorem d_RD_key_12 : decode c_RD_keyb 12 = .ok (.if_icmp .ge 46, 3) := by decide +kernel
theorem d_RD_key_15 : decode c_RD_keyb 15 = .ok (.iload_n 1, 1) := by decide +kernel
theorem d_RD_key_16 : decode c_RD_keyb 16 = .ok (.ifCond .ne 18, 3) := by decide +kernel
theorem d_RD_key_19 : decode c_RD_keyb 19 = .ok (.sipush 255, 3) := by decide +kernel
theorem d_RD_key_22 : decode c_RD_keyb 22 = .ok (.iload_n 0, 1) := by decide +kernel
theorem d_RD_key_23 : decode c_RD_keyb 23 = .ok (.iconst 3, 1) := by decide +kernel
theorem d_RD_key_24 : decode c_RD_keyb 24 = .ok (.iload 4, 2) := by decide +kernel
theorem d_RD_key_26 : decode c_RD_keyb 26 = .ok (.isub, 1) := by decide +kernel
theorem d_RD_key_27 : decode c_RD_keyb 27 = .ok (.invokestatic 190, 3) := by decide +kernel
theorem d_RD_key_30 : decode c_RD_keyb 30 = .ok (.isub, 1) := by decide +kernel
theorem d_RD_key_31 : decode c_RD_keyb 31 = .ok (.goto 9, 3) := by decide +kernel
theorem d_RD_key_34 : decode c_RD_keyb 34 = .ok (.iload_n 0, 1) := by decide +kernel
theorem d_RD_key_35 : decode c_RD_keyb 35 = .ok (.iload 4, 2) := by decide +kernel
theorem d_RD_key_37 : decode c_RD_keyb 37 = .ok (.invokestatic 190, 3) := by decide +kernel
theorem d_RD_key_40 : decode c_RD_keyb 40 = .ok (.istore 5, 2) := by decide +kernel
theorem d_RD_key_42 : decode c_RD_keyb 42 = .ok (.lload_n 2, 1) := by decide +kernel
theorem d_RD_key_43 : decode c_RD_keyb 43 = .ok (.ldc2_w 199, 3) := by decide +kernel
theorem d_RD_key_46 : decode c_RD_keyb 46 = .ok (.lmul, 1) := by decide +kernel
theorem d_RD_key_47 : decode c_RD_keyb 47 = .ok (.iload 5, 2) := by decide +kernel
theorem d_RD_key_49 : decode c_RD_keyb 49 = .ok (.i2l, 1) := by decide +kernel
theorem d_RD_key_50 : decode c_RD_keyb 50 = .ok (.ladd, 1) := by decide +kernel
theorem d_RD_key_51 : decode c_RD_keyb 51 = .ok (.lstore_n 2, 1) := by decide +kernel
theorem d_RD_key_52 : decode c_RD_keyb 52 = .ok (.iinc 4 1, 3) := by decide +kernel
theorem d_RD_key_55 : decode c_RD_keyb 55 = .ok (.goto (-46), 3) := by decide +kernel
theorem d_RD_key_58 : decode c_RD_keyb 58 = .ok (.lload_n 2, 1) := by decide +kernel
theorem d_RD_key_59 : decode c_RD_keyb 59 = .ok (.lreturn, 1) := by decide +kernel
abbrev rm_key : Room := { frames := 2, cells := 0, slots := 0, locals := 41 }
abbrev g_key (X : gX) (r_ : Int64) (pc : Nat) (lv : List (Nat × Value)) (st : List Value) : Prop := ∀ ls : Array Slot, lv_has ls 6 lv → gWW X rm_key (gs X).heap [] 0 0 (MQ (gbl X) (vp_Sl (fun r => r = r_)) (ga X) (gs X) 0 0 (fun _ => False)) (F0 (gm X) pc ls st)
set_option maxHeartbeats 4000000 in
set_option maxRecDepth 100000 in
theorem w_key_40 (X : gX) (F : Nat) (r_ : Int64) (C0 : gC X c_RD_keyb (some .long) 6 "RemnantDictionary" gAll) (hN : gN (gs X)) (k9 : Int32 → Int32 → Int64 → Int32 → Option (Int64)) (hk9 : ∀ (i0 i1 : Int32) (l2 : Int64) (i4 : Int32), k9 i0 i1 l2 i4 = some r_ → g_key X r_ 9 [(0, .int i0), (1, .int i1), (2, .long l2), (4, .int i4)] []) (i0 i1 : Int32) (l2 : Int64) (i4 t0 : Int32) (hrun : s_key_40 F k9 i0 i1 l2 i4 t0 = some r_) : g_key X r_ 40 [(0, .int i0), (1, .int i1), (2, .long l2), (4, .int i4)] [.int t0] := by
  have C1 := C0
  obtain ⟨hx, hb, hr, hml, hown, hts, hlocks⟩ := C1
  unfold s_key_40 at hrun
  intro ls hl
  refine lv_istore (lv' := [(5, .int t0), (0, .int i0), (1, .int i1), (2, .long l2), (4, .int i4)]) hx hb d_RD_key_40 hl (by decide) rfl (fun ls hl => ?_)
  refine lv_lload_n hx hb d_RD_key_42 rfl (lv_at hl 3 rfl) ?_
  refine lv_ldc2 (v := 256) hx hb hown (hts _ k_23) d_RD_key_43 ?_
  refine lv_lmul hx hb d_RD_key_46 ?_
  refine lv_iload hx hb d_RD_key_47 (lv_at hl 0 rfl) ?_
  refine lv_i2l hx hb d_RD_key_49 rfl ?_
  refine lv_ladd hx hb d_RD_key_50 ?_
  refine lv_lstore_n (lv' := [(2, .long ((l2 * 256) + t0.toInt64)), (5, .int t0), (0, .int i0), (1, .int i1), (4, .int i4)]) hx hb d_RD_key_51 rfl hl (by decide) rfl (fun ls hl => ?_)
  refine lv_iinc (v := (i4 + 1)) (lv' := [(4, .int (i4 + 1)), (2, .long ((l2 * 256) + t0.toInt64)), (5, .int t0), (0, .int i0), (1, .int i1)]) hx hb d_RD_key_52 hl (k := 4) rfl rfl (by decide) rfl (fun ls hl => ?_)
  refine lv_goto (tgt := 9) hx hb d_RD_key_55 (by decide) ?_
  exact hk9 i0 i1 ((l2 * 256) + t0.toInt64) (i4 + 1) hrun ls (lv_sub hl [3, 4, 1, 0] rfl)
set_option maxHeartbeats 4000000 in
set_option maxRecDepth 100000 in
theorem w_key_9 (X : gX) (F : Nat) (r_ : Int64) (C0 : gC X c_RD_keyb (some .long) 6 "RemnantDictionary" gAll) (hN : gN (gs X)) (k9 : Int32 → Int32 → Int64 → Int32 → Option (Int64)) (hk9 : ∀ (i0 i1 : Int32) (l2 : Int64) (i4 : Int32), k9 i0 i1 l2 i4 = some r_ → g_key X r_ 9 [(0, .int i0), (1, .int i1), (2, .long l2), (4, .int i4)] []) (i0 i1 : Int32) (l2 : Int64) (i4 : Int32) (hrun : s_key_9 F k9 i0 i1 l2 i4 = some r_) : g_key X r_ 9 [(0, .int i0), (1, .int i1), (2, .long l2), (4, .int i4)] [] := by
  have C1 := C0
  obtain ⟨hx, hb, hr, hml, hown, hts, hlocks⟩ := C1
  unfold s_key_9 at hrun
  intro ls hl
  refine lv_iload hx hb d_RD_key_9 (lv_at hl 3 rfl) ?_
  refine lv_iconst (v := 4) hx hb d_RD_key_11 (by decide) ?_
  refine g_icmp_ge (tgt := 58) hx hb d_RD_key_12 (by decide) hrun (fun _ hrun => ?_) (fun _ hrun => ?_)
  · refine lv_lload_n hx hb d_RD_key_58 rfl (lv_at hl 2 rfl) ?_
    cases hrun
    exact W.lret hx hb hr (fun t ht hW => ⟨_, rfl, rfl, ht⟩) (fun q h => absurd h List.not_mem_nil) d_RD_key_59
  · refine lv_iload_n hx hb d_RD_key_15 rfl (lv_at hl 1 rfl) ?_
    refine g_if_ne (tgt := 34) hx hb d_RD_key_16 (by decide) hrun (fun _ hrun => ?_) (fun _ hrun => ?_)
    · refine lv_iload_n hx hb d_RD_key_34 rfl (lv_at hl 0 rfl) ?_
      refine lv_iload hx hb d_RD_key_35 (lv_at hl 3 rfl) ?_
      obtain ⟨r_1, hc, hrun⟩ := bd1_s hrun
      refine vp_callSi (W.runS (As := [.int i0, .int i4]) (rest := []) ⟨hx, hb, hml, hown, hts⟩ (c_exponent (gl X) F i0 i4 r_1 hc) (va_cwS 2 hts (gwS k_15 k_13 k_14 k_12) rfl rfl rfl (by decide +kernel) ⟨Nat.le_of_ble_eq_true rfl, Nat.le_of_ble_eq_true rfl⟩) (gpreS0 hN) rfl rfl hl.1 rfl (lv_room (Nat.le_of_ble_eq_true rfl)) d_RD_key_37 ⟨Nat.le_of_ble_eq_true rfl, Nat.le_of_ble_eq_true rfl⟩) (nm_e ?_)
      exact w_key_40 X F r_ C0 hN k9 hk9 i0 i1 l2 i4 r_1 hrun ls (lv_sub hl [0, 1, 2, 3] rfl)
    · refine lv_sipush (v := 255) hx hb d_RD_key_19 (by decide) ?_
      refine lv_iload_n hx hb d_RD_key_22 rfl (lv_at hl 0 rfl) ?_
      refine lv_iconst (v := 3) hx hb d_RD_key_23 (by decide) ?_
      refine lv_iload hx hb d_RD_key_24 (lv_at hl 3 rfl) ?_
      refine lv_isub hx hb d_RD_key_26 ?_
      obtain ⟨r_2, hc, hrun⟩ := bd1_s hrun
      refine vp_callSi (W.runS (As := [.int i0, .int (3 - i4)]) (rest := [.int 255]) ⟨hx, hb, hml, hown, hts⟩ (c_exponent (gl X) F i0 (3 - i4) r_2 hc) (va_cwS 2 hts (gwS k_15 k_13 k_14 k_12) rfl rfl rfl (by decide +kernel) ⟨Nat.le_of_ble_eq_true rfl, Nat.le_of_ble_eq_true rfl⟩) (gpreS0 hN) rfl rfl hl.1 rfl (lv_room (Nat.le_of_ble_eq_true rfl)) d_RD_key_27 ⟨Nat.le_of_ble_eq_true rfl, Nat.le_of_ble_eq_true rfl⟩) (nm_e ?_)
      refine lv_isub hx hb d_RD_key_30 ?_
      refine lv_goto (tgt := 40) hx hb d_RD_key_31 (by decide) ?_
      exact w_key_40 X F r_ C0 hN k9 hk9 i0 i1 l2 i4 (255 - r_2) hrun ls (lv_sub hl [0, 1, 2, 3] rfl)
theorem v_key_9 (X : gX) (F : Nat) (r_ : Int64) (C0 : gC X c_RD_keyb (some .long) 6 "RemnantDictionary" gAll) (hN : gN (gs X))  : ∀ (n : Nat) (i0 i1 : Int32) (l2 : Int64) (i4 : Int32), b_key_9 F n i0 i1 l2 i4 = some r_ → g_key X r_ 9 [(0, .int i0), (1, .int i1), (2, .long l2), (4, .int i4)] [] := by
  intro n
  induction n with
  | zero => intro i0 i1 l2 i4 hrun; cases hrun
  | succ n ih =>
    intro i0 i1 l2 i4 hrun
    exact w_key_9 X F r_ C0 hN (b_key_9 F n) ih i0 i1 l2 i4 hrun
set_option maxHeartbeats 4000000 in
set_option maxRecDepth 100000 in
theorem e_key (X : gX) (F : Nat) (r_ : Int64) (C0 : gC X c_RD_keyb (some .long) 6 "RemnantDictionary" gAll) (hN : gN (gs X)) (i0 i1 : Int32) (hrun : m_key F i0 i1 = some r_) : g_key X r_ 0 [(0, .int i0), (1, .int i1)] [] := by
  have C1 := C0
  obtain ⟨hx, hb, hr, hml, hown, hts, hlocks⟩ := C1
  unfold m_key at hrun
  intro ls hl
  refine lv_iload_n hx hb d_RD_key_0 rfl (lv_at hl 0 rfl) ?_
  obtain ⟨r_1, hc, hrun⟩ := bd1_s hrun
  refine vp_callSi (W.runS (As := [.int i0]) (rest := []) ⟨hx, hb, hml, hown, hts⟩ (c_degree (gl X) F i0 r_1 hc) (va_cwS 1 hts (gwS k_26 k_25 k_14 k_16) rfl rfl rfl (by decide +kernel) ⟨Nat.le_of_ble_eq_true rfl, Nat.le_of_ble_eq_true rfl⟩) (gpreS0 hN) rfl rfl hl.1 rfl (lv_room (Nat.le_of_ble_eq_true rfl)) d_RD_key_1 ⟨Nat.le_of_ble_eq_true rfl, Nat.le_of_ble_eq_true rfl⟩) (nm_e ?_)
  refine lv_i2l hx hb d_RD_key_4 rfl ?_
  refine lv_lstore_n (lv' := [(2, .long r_1.toInt64), (0, .int i0), (1, .int i1)]) hx hb d_RD_key_5 rfl hl (by decide) rfl (fun ls hl => ?_)
  refine lv_iconst (v := 0) hx hb d_RD_key_6 (by decide) ?_
  refine lv_istore (lv' := [(4, .int 0), (2, .long r_1.toInt64), (0, .int i0), (1, .int i1)]) hx hb d_RD_key_7 hl (by decide) rfl (fun ls hl => ?_)
  exact v_key_9 X F r_ C0 hN  F i0 i1 r_1.toInt64 0 hrun ls (lv_sub hl [2, 3, 1, 0] rfl)
set_option maxHeartbeats 4000000 in
set_option maxRecDepth 100000 in
theorem c_key (l : Launch) (F : Nat) (i0 i1 : Int32) (r_ : Int64) (hrun : m_key F i0 i1 = some r_) : Met l y_RD_key (.code y_RD_key c_RD_keyb 6 (some .long) :: gAll) rm_key (va_Pc [.int i0, .int i1] gN) (vp_Sl (fun r => r = r_)) 0 0 (fun _ => False) := by
  refine Met.ofW (cc := c_RD_keyb) (maxL := 6) (ret := (some .long)) (by decide +kernel) rfl ?_
  intro p e s m args below meth c s₁ B hml hv
  obtain ⟨rfl, hN⟩ := hv
  have hl := lv_entry ([.int i0, .int i1]) (n := 6) (Nat.le_of_ble_eq_true rfl)
  rw [lg_entry_eq]
  generalize (lg_sl ([.int i0, .int i1]) ++ List.replicate (6 - (lg_sl ([.int i0, .int i1])).length) Slot.unset).toArray = ls at hl ⊢
  exact e_key (p, l, e, s, m, ([.int i0, .int i1] : List Value).toArray, below, meth, c) F r_ ⟨B.exec, B.bytes, B.returns, hml, findClass_of_methodNamed B.named, fun w h => atoms_spec (ws := (.code y_RD_key c_RD_keyb 6 (some .long) :: gAll)) B.pre w (List.mem_cons_of_mem _ h), B.notSynchronized⟩ hN i0 i1 hrun ls hl
theorem d_RD_productRow_0 : decode c_RD_productRowb 0 = .ok (.iload_n 0, 1) := by decide +kernel
theorem d_RD_productRow_1 : decode c_RD_productRowb 1 = .ok (.bipush 40, 2) := by decide +kernel
theorem d_RD_productRow_3 : decode c_RD_productRowb 3 = .ok (.imul, 1) := by decide +kernel
theorem d_RD_productRow_4 : decode c_RD_productRowb 4 = .ok (.iload_n 1, 1) := by decide +kernel
theorem d_RD_productRow_5 : decode c_RD_productRowb 5 = .ok (.iadd, 1) := by decide +kernel
theorem d_RD_productRow_6 : decode c_RD_productRowb 6 = .ok (.bipush 40, 2) := by decide +kernel
theorem d_RD_productRow_8 : decode c_RD_productRowb 8 = .ok (.imul, 1) := by decide +kernel
theorem d_RD_productRow_9 : decode c_RD_productRowb 9 = .ok (.ireturn, 1) := by decide +kernel
abbrev rm_productRow : Room := { frames := 0, cells := 0, slots := 0, locals := 0 }
abbrev g_productRow (X : gX) (r_ : Int32) (pc : Nat) (lv : List (Nat × Value)) (st : List Value) : Prop := ∀ ls : Array Slot, lv_has ls 2 lv → gWW X rm_productRow (gs X).heap [] 0 0 (MQ (gbl X) (vp_Si (fun r => r = r_)) (ga X) (gs X) 0 0 (fun _ => False)) (F0 (gm X) pc ls st)
set_option maxHeartbeats 4000000 in
set_option maxRecDepth 100000 in
theorem e_productRow (X : gX) (F : Nat) (r_ : Int32) (C0 : gC X c_RD_productRowb (some .int) 2 "RemnantDictionary" gAll) (hN : gN (gs X)) (i0 i1 : Int32) (hrun : m_productRow F i0 i1 = some r_) : g_productRow X r_ 0 [(0, .int i0), (1, .int i1)] [] := by
  have C1 := C0
  obtain ⟨hx, hb, hr, hml, hown, hts, hlocks⟩ := C1
  unfold m_productRow at hrun
  intro ls hl
  refine lv_iload_n hx hb d_RD_productRow_0 rfl (lv_at hl 0 rfl) ?_
  refine lv_bipush (v := 40) hx hb d_RD_productRow_1 (by decide) ?_
  refine lv_imul hx hb d_RD_productRow_3 ?_
  refine lv_iload_n hx hb d_RD_productRow_4 rfl (lv_at hl 1 rfl) ?_
  refine lv_iadd hx hb d_RD_productRow_5 ?_
  refine lv_bipush (v := 40) hx hb d_RD_productRow_6 (by decide) ?_
  refine lv_imul hx hb d_RD_productRow_8 ?_
  cases hrun
  exact W.iret hx hb hr (fun t ht hW => ⟨_, rfl, rfl, ht⟩) (fun q h => absurd h List.not_mem_nil) d_RD_productRow_9
set_option maxHeartbeats 4000000 in
set_option maxRecDepth 100000 in
theorem c_productRow (l : Launch) (F : Nat) (i0 i1 : Int32) (r_ : Int32) (hrun : m_productRow F i0 i1 = some r_) : Met l y_RD_productRow (.code y_RD_productRow c_RD_productRowb 2 (some .int) :: gAll) rm_productRow (va_Pc [.int i0, .int i1] gN) (vp_Si (fun r => r = r_)) 0 0 (fun _ => False) := by
  refine Met.ofW (cc := c_RD_productRowb) (maxL := 2) (ret := (some .int)) (by decide +kernel) rfl ?_
  intro p e s m args below meth c s₁ B hml hv
  obtain ⟨rfl, hN⟩ := hv
  have hl := lv_entry ([.int i0, .int i1]) (n := 2) (Nat.le_of_ble_eq_true rfl)
  rw [lg_entry_eq]
  generalize (lg_sl ([.int i0, .int i1]) ++ List.replicate (2 - (lg_sl ([.int i0, .int i1])).length) Slot.unset).toArray = ls at hl ⊢
  exact e_productRow (p, l, e, s, m, ([.int i0, .int i1] : List Value).toArray, below, meth, c) F r_ ⟨B.exec, B.bytes, B.returns, hml, findClass_of_methodNamed B.named, fun w h => atoms_spec (ws := (.code y_RD_productRow c_RD_productRowb 2 (some .int) :: gAll)) B.pre w (List.mem_cons_of_mem _ h), B.notSynchronized⟩ hN i0 i1 hrun ls hl
theorem d_Mo_most_0 : decode c_Mo_mostb 0 = .ok (.iload_n 1, 1) := by decide +kernel
theorem d_Mo_most_1 : decode c_Mo_mostb 1 = .ok (.aload_n 0, 1) := by decide +kernel
theorem d_Mo_most_2 : decode c_Mo_mostb 2 = .ok (.getfield 25, 3) := by decide +kernel
theorem d_Mo_most_5 : decode c_Mo_mostb 5 = .ok (.if_icmp .ge 12, 3) := by decide +kernel
theorem d_Mo_most_8 : decode c_Mo_mostb 8 = .ok (.aload_n 0, 1) := by decide +kernel
theorem d_Mo_most_9 : decode c_Mo_mostb 9 = .ok (.getfield 35, 3) := by decide +kernel
theorem d_Mo_most_12 : decode c_Mo_mostb 12 = .ok (.iload_n 2, 1) := by decide +kernel
theorem d_Mo_most_13 : decode c_Mo_mostb 13 = .ok (.isub, 1) := by decide +kernel
theorem d_Mo_most_14 : decode c_Mo_mostb 14 = .ok (.goto 4, 3) := by decide +kernel
theorem d_Mo_most_17 : decode c_Mo_mostb 17 = .ok (.iconst 0, 1) := by decide +kernel
theorem d_Mo_most_18 : decode c_Mo_mostb 18 = .ok (.ireturn, 1) := by decide +kernel
abbrev ws_most (a_Mo a_Mo_codes a_Mo_degrees a_Mo_keys a_Mo_raised : Nat) (cI cL cZ : ClassId) (Mo_variables Mo_order Mo_highest Mo_count : Int32) : va_W := [(a_Mo, .inr (1, [.int Mo_variables, .int Mo_order, .int Mo_highest, .int Mo_count, .ref a_Mo_codes, .ref a_Mo_degrees, .ref a_Mo_keys, .ref a_Mo_raised]))]
abbrev rm_most : Room := { frames := 0, cells := 0, slots := 0, locals := 0 }
abbrev g_most (X : gX) (r_ : Int32) (pc : Nat) (lv : List (Nat × Value)) (st : List Value) : Prop := ∀ ls : Array Slot, lv_has ls 3 lv → gWW X rm_most (gs X).heap [] 0 0 (MQ (gbl X) (vp_Si (fun r => r = r_)) (ga X) (gs X) 0 0 (fun _ => False)) (F0 (gm X) pc ls st)
set_option maxHeartbeats 4000000 in
set_option maxRecDepth 100000 in
theorem e_most (X : gX) (D : va_G) (cI cL cZ : ClassId) (a_Mo a_Mo_codes a_Mo_degrees a_Mo_keys a_Mo_raised : Nat) (F : Nat) (Mo_variables Mo_order Mo_highest Mo_count r_ : Int32) (C0 : gC X c_Mo_mostb (some .int) 3 "RemnantDictionary$Monomials" gAll) (hK : va_K D classes (gT cI cL cZ) (gs X)) (hP : va_P D classes (ws_most a_Mo a_Mo_codes a_Mo_degrees a_Mo_keys a_Mo_raised cI cL cZ Mo_variables Mo_order Mo_highest Mo_count) (gs X).heap) (hN : gN (gs X)) (i1 i2 : Int32) (hrun : m_most F Mo_highest Mo_variables i1 i2 = some r_) : g_most X r_ 0 [(0, .ref a_Mo), (1, .int i1), (2, .int i2)] [] := by
  have C1 := C0
  obtain ⟨hx, hb, hr, hml, hown, hts, hlocks⟩ := C1
  unfold m_most at hrun
  intro ls hl
  refine lv_iload_n hx hb d_Mo_most_0 rfl (lv_at hl 1 rfl) ?_
  refine lv_aload_n hx hb d_Mo_most_1 rfl (lv_at hl 0 rfl) ?_
  refine va_get (D := D) (ci := 1) (v := .int Mo_variables) (C := "RemnantDictionary$Monomials") (T := T_Mo) (N := 8) hx hb hts iw_Mo hown hK hP 0 rfl rfl 0 (by decide) (hts _ k_36) (fun _ h9 => h9) rfl d_Mo_most_2 ?_
  refine g_icmp_ge (tgt := 17) hx hb d_Mo_most_5 (by decide) hrun (fun _ hrun => ?_) (fun _ hrun => ?_)
  · refine lv_iconst (v := 0) hx hb d_Mo_most_17 (by decide) ?_
    cases hrun
    exact W.iret hx hb hr (fun t ht hW => ⟨_, rfl, rfl, ht⟩) (fun q h => absurd h List.not_mem_nil) d_Mo_most_18
  · refine lv_aload_n hx hb d_Mo_most_8 rfl (lv_at hl 0 rfl) ?_
    refine va_get (D := D) (ci := 1) (v := .int Mo_highest) (C := "RemnantDictionary$Monomials") (T := T_Mo) (N := 8) hx hb hts iw_Mo hown hK hP 0 rfl rfl 2 (by decide) (hts _ k_37) (fun _ h9 => h9) rfl d_Mo_most_9 ?_
    refine lv_iload_n hx hb d_Mo_most_12 rfl (lv_at hl 2 rfl) ?_
    refine lv_isub hx hb d_Mo_most_13 ?_
    refine lv_goto (tgt := 18) hx hb d_Mo_most_14 (by decide) ?_
    cases hrun
    exact W.iret hx hb hr (fun t ht hW => ⟨_, rfl, rfl, ht⟩) (fun q h => absurd h List.not_mem_nil) d_Mo_most_18
set_option maxHeartbeats 4000000 in
set_option maxRecDepth 100000 in
theorem c_most (l : Launch) (D : va_G) (cI cL cZ : ClassId) (a_Mo a_Mo_codes a_Mo_degrees a_Mo_keys a_Mo_raised : Nat) (F : Nat) (Mo_variables Mo_order Mo_highest Mo_count i1 i2 : Int32) (r_ : Int32) (hrun : m_most F Mo_highest Mo_variables i1 i2 = some r_) : Met l y_Mo_most (.code y_Mo_most c_Mo_mostb 3 (some .int) :: gAll) rm_most (va_Pc [.ref a_Mo, .int i1, .int i2] (gPR D (gT cI cL cZ) (ws_most a_Mo a_Mo_codes a_Mo_degrees a_Mo_keys a_Mo_raised cI cL cZ Mo_variables Mo_order Mo_highest Mo_count))) (vp_Si (fun r => r = r_)) 0 0 (fun _ => False) := by
  refine Met.ofW (cc := c_Mo_mostb) (maxL := 3) (ret := (some .int)) (by decide +kernel) rfl ?_
  intro p e s m args below meth c s₁ B hml hv
  obtain ⟨rfl, hP, hK, hN⟩ := hv
  have hl := lv_entry ([.ref a_Mo, .int i1, .int i2]) (n := 3) (Nat.le_of_ble_eq_true rfl)
  rw [lg_entry_eq]
  generalize (lg_sl ([.ref a_Mo, .int i1, .int i2]) ++ List.replicate (3 - (lg_sl ([.ref a_Mo, .int i1, .int i2])).length) Slot.unset).toArray = ls at hl ⊢
  exact e_most (p, l, e, s, m, ([.ref a_Mo, .int i1, .int i2] : List Value).toArray, below, meth, c) D cI cL cZ a_Mo a_Mo_codes a_Mo_degrees a_Mo_keys a_Mo_raised F Mo_variables Mo_order Mo_highest Mo_count r_ ⟨B.exec, B.bytes, B.returns, hml, findClass_of_methodNamed B.named, fun w h => atoms_spec (ws := (.code y_Mo_most c_Mo_mostb 3 (some .int) :: gAll)) B.pre w (List.mem_cons_of_mem _ h), B.notSynchronized⟩ hK hP hN i1 i2 hrun ls hl
