theorem d_Le_forget_0 : decode c_Le_forgetb 0 = .ok (.aload_n 0, 1) := by decide +kernel
theorem d_Le_forget_1 : decode c_Le_forgetb 1 = .ok (.iconst 0, 1) := by decide +kernel
theorem d_Le_forget_2 : decode c_Le_forgetb 2 = .ok (.putfield 42, 3) := by decide +kernel
theorem d_Le_forget_5 : decode c_Le_forgetb 5 = .ok (.return_, 1) := by decide +kernel
abbrev ws_leForget (a_Le a_Le_heads a_Le_tails a_Le_standard a_Le_images a_Le_steps a_Le_mixes a_Le_pivots a_Le_image a_Le_rest a_Le_mix : Nat) (cI cL cZ : ClassId) (Le_prime Le_size Le_count Le_standardCount : Int32) : va_W := [(a_Le, .inr (4, [.int Le_prime, .int Le_size, .int Le_count, .ref a_Le_heads, .ref a_Le_tails, .ref a_Le_standard, .int Le_standardCount, .ref a_Le_images, .ref a_Le_steps, .ref a_Le_mixes, .ref a_Le_pivots, .ref a_Le_image, .ref a_Le_rest, .ref a_Le_mix]))]
abbrev rm_leForget : Room := { frames := 0, cells := 0, slots := 0, locals := 0 }
abbrev g_leForget (X : gX) (D : va_G) (cI cL cZ : ClassId) (a_Le a_Le_heads a_Le_tails a_Le_standard a_Le_images a_Le_steps a_Le_mixes a_Le_pivots a_Le_image a_Le_rest a_Le_mix : Nat) (A : Nat → Prop) (Le_prime Le_size Le_standardCount Le_count_r : Int32) (pc : Nat) (lv : List (Nat × Value)) (st : List Value) (Le_count : Int32) : Prop := ∀ (H : Heap) (locs : List Loc) (ls : Array Slot), va_P D classes (ws_leForget a_Le a_Le_heads a_Le_tails a_Le_standard a_Le_images a_Le_steps a_Le_mixes a_Le_pivots a_Le_image a_Le_rest a_Le_mix cI cL cZ Le_prime Le_size Le_count Le_standardCount) H → va_D A (ws_leForget a_Le a_Le_heads a_Le_tails a_Le_standard a_Le_images a_Le_steps a_Le_mixes a_Le_pivots a_Le_image a_Le_rest a_Le_mix cI cL cZ Le_prime Le_size Le_count Le_standardCount) → va_S A (gs X).heap H locs → lv_has ls 1 lv → gWW X rm_leForget H locs 0 0 (MQ (gbl X) (va_Qv (fun _ : Unit => True) (gB D (gT cI cL cZ) A (ws_leForget a_Le a_Le_heads a_Le_tails a_Le_standard a_Le_images a_Le_steps a_Le_mixes a_Le_pivots a_Le_image a_Le_rest a_Le_mix cI cL cZ Le_prime Le_size Le_count_r Le_standardCount)) A) (ga X) (gs X) 0 0 A) (F0 (gm X) pc ls st)
set_option maxHeartbeats 4000000 in
set_option maxRecDepth 100000 in
theorem e_leForget (X : gX) (D : va_G) (cI cL cZ : ClassId) (a_Le a_Le_heads a_Le_tails a_Le_standard a_Le_images a_Le_steps a_Le_mixes a_Le_pivots a_Le_image a_Le_rest a_Le_mix : Nat) (A : Nat → Prop) (Le_prime Le_size Le_standardCount Le_count_r : Int32) (F : Nat) (C0 : gC X c_Le_forgetb none 1 "RemnantDictionary$Lexicon" gAll) (hK : va_K D classes (gT cI cL cZ) (gs X)) (hA : ∀ q : Nat, (gs X).heap.size ≤ q → A q) (hN : gN (gs X)) (Le_count : Int32) (hrun : m_leForget F Le_count = some Le_count_r) : g_leForget X D cI cL cZ a_Le a_Le_heads a_Le_tails a_Le_standard a_Le_images a_Le_steps a_Le_mixes a_Le_pivots a_Le_image a_Le_rest a_Le_mix A Le_prime Le_size Le_standardCount Le_count_r 0 [(0, .ref a_Le)] [] Le_count := by
  have C1 := C0
  obtain ⟨hx, hb, hr, hml, hown, hts, hlocks⟩ := C1
  unfold m_leForget at hrun
  intro H locs ls hP hD hS hl
  refine lv_aload_n hx hb d_Le_forget_0 rfl (lv_at hl 0 rfl) ?_
  refine lv_iconst (v := 0) hx hb d_Le_forget_1 (by decide) ?_
  refine va_put (D := D) (ci := 4) (v := .int 0) (ty := .int) (C := "RemnantDictionary$Lexicon") (T := T_Le) (N := 14) hx hb hts iw_Le ty_Le ty_Le_ok nm_Le hown hK hP hD hS 0 rfl rfl 2 (by decide) (hts _ k_227) (fun _ h9 => h9) rfl (by decide +kernel) rfl rfl (Nat.le_of_ble_eq_true rfl) d_Le_forget_2 (fun H locs (hP : va_P D classes (ws_leForget a_Le a_Le_heads a_Le_tails a_Le_standard a_Le_images a_Le_steps a_Le_mixes a_Le_pivots a_Le_image a_Le_rest a_Le_mix cI cL cZ Le_prime Le_size 0 Le_standardCount) H) (hD : va_D A (ws_leForget a_Le a_Le_heads a_Le_tails a_Le_standard a_Le_images a_Le_steps a_Le_mixes a_Le_pivots a_Le_image a_Le_rest a_Le_mix cI cL cZ Le_prime Le_size 0 Le_standardCount)) hS => ?_)
  cases hrun
  exact W.vret hx hb hr (fun t ht hW => ⟨⟨(), rfl, trivial, gB_of ht hW.alike hP hK hD⟩, hS.F ht⟩) hS.2.2 d_Le_forget_5
set_option maxHeartbeats 4000000 in
set_option maxRecDepth 100000 in
theorem c_leForget (l : Launch) (D : va_G) (cI cL cZ : ClassId) (a_Le a_Le_heads a_Le_tails a_Le_standard a_Le_images a_Le_steps a_Le_mixes a_Le_pivots a_Le_image a_Le_rest a_Le_mix : Nat) (F : Nat) (Le_prime Le_size Le_count Le_standardCount : Int32) (sz : Nat) (Le_count_r : Int32) (hrun : m_leForget F Le_count = some Le_count_r) : Met l y_Le_forget (.code y_Le_forget c_Le_forgetb 1 none :: gAll) rm_leForget (va_Pc [.ref a_Le] (gPW D (gT cI cL cZ) (ws_leForget a_Le a_Le_heads a_Le_tails a_Le_standard a_Le_images a_Le_steps a_Le_mixes a_Le_pivots a_Le_image a_Le_rest a_Le_mix cI cL cZ Le_prime Le_size Le_count Le_standardCount) sz)) (va_Qv (fun _ : Unit => True) (gB D (gT cI cL cZ) (va_A (ws_leForget a_Le a_Le_heads a_Le_tails a_Le_standard a_Le_images a_Le_steps a_Le_mixes a_Le_pivots a_Le_image a_Le_rest a_Le_mix cI cL cZ Le_prime Le_size Le_count Le_standardCount) sz) (ws_leForget a_Le a_Le_heads a_Le_tails a_Le_standard a_Le_images a_Le_steps a_Le_mixes a_Le_pivots a_Le_image a_Le_rest a_Le_mix cI cL cZ Le_prime Le_size Le_count_r Le_standardCount)) (va_A (ws_leForget a_Le a_Le_heads a_Le_tails a_Le_standard a_Le_images a_Le_steps a_Le_mixes a_Le_pivots a_Le_image a_Le_rest a_Le_mix cI cL cZ Le_prime Le_size Le_count Le_standardCount) sz)) 0 0 (va_A (ws_leForget a_Le a_Le_heads a_Le_tails a_Le_standard a_Le_images a_Le_steps a_Le_mixes a_Le_pivots a_Le_image a_Le_rest a_Le_mix cI cL cZ Le_prime Le_size Le_count Le_standardCount) sz) := by
  refine Met.ofW (cc := c_Le_forgetb) (maxL := 1) (ret := none) (by decide +kernel) rfl ?_
  intro p e s m args below meth c s₁ B hml hv
  obtain ⟨rfl, hsz, hP, hK, hN, hD0⟩ := hv
  subst hsz
  have hD := hD0.self (sz := s.heap.size)
  have hl := lv_entry ([.ref a_Le]) (n := 1) (Nat.le_of_ble_eq_true rfl)
  rw [lg_entry_eq]
  generalize (lg_sl ([.ref a_Le]) ++ List.replicate (1 - (lg_sl ([.ref a_Le])).length) Slot.unset).toArray = ls at hl ⊢
  exact e_leForget (p, l, e, s, m, ([.ref a_Le] : List Value).toArray, below, meth, c) D cI cL cZ a_Le a_Le_heads a_Le_tails a_Le_standard a_Le_images a_Le_steps a_Le_mixes a_Le_pivots a_Le_image a_Le_rest a_Le_mix (va_A (ws_leForget a_Le a_Le_heads a_Le_tails a_Le_standard a_Le_images a_Le_steps a_Le_mixes a_Le_pivots a_Le_image a_Le_rest a_Le_mix cI cL cZ Le_prime Le_size Le_count Le_standardCount) s.heap.size) Le_prime Le_size Le_standardCount Le_count_r F ⟨B.exec, B.bytes, B.returns, hml, findClass_of_methodNamed B.named, fun w h => atoms_spec (ws := (.code y_Le_forget c_Le_forgetb 1 none :: gAll)) B.pre w (List.mem_cons_of_mem _ h), B.notSynchronized⟩ hK (fun q h => Or.inr h) hN Le_count hrun s.heap [] ls hP hD va_S.rf hl
theorem d_Le_leastProductAbove_0 : decode c_Le_leastProductAboveb 0 = .ok (.iconst (-1), 1) := by decide +kernel
theorem d_Le_leastProductAbove_1 : decode c_Le_leastProductAboveb 1 = .ok (.istore_n 3, 1) := by decide +kernel
theorem d_Le_leastProductAbove_2 : decode c_Le_leastProductAboveb 2 = .ok (.ldc 90, 2) := by decide +kernel
theorem d_Le_leastProductAbove_4 : decode c_Le_leastProductAboveb 4 = .ok (.istore 4, 2) := by decide +kernel
theorem d_Le_leastProductAbove_6 : decode c_Le_leastProductAboveb 6 = .ok (.iconst 0, 1) := by decide +kernel
theorem d_Le_leastProductAbove_7 : decode c_Le_leastProductAboveb 7 = .ok (.istore 5, 2) := by decide +kernel
theorem d_Le_leastProductAbove_9 : decode c_Le_leastProductAboveb 9 = .ok (.iload 5, 2) := by decide +kernel
theorem d_Le_leastProductAbove_11 : decode c_Le_leastProductAboveb 11 = .ok (.iload_n 2, 1) := by decide +kernel
theorem d_Le_leastProductAbove_12 : decode c_Le_leastProductAboveb 12 = .ok (.if_icmp .ge 68, 3) := by decide +kernel
theorem d_Le_leastProductAbove_15 : decode c_Le_leastProductAboveb 15 = .ok (.iconst 0, 1) := by decide +kernel
theorem d_Le_leastProductAbove_16 : decode c_Le_leastProductAboveb 16 = .ok (.istore 6, 2) := by decide +kernel
theorem d_Le_leastProductAbove_18 : decode c_Le_leastProductAboveb 18 = .ok (.iload 6, 2) := by decide +kernel
theorem d_Le_leastProductAbove_20 : decode c_Le_leastProductAboveb 20 = .ok (.aload_n 0, 1) := by decide +kernel
theorem d_Le_leastProductAbove_21 : decode c_Le_leastProductAboveb 21 = .ok (.getfield 56, 3) := by decide +kernel
theorem d_Le_leastProductAbove_24 : decode c_Le_leastProductAboveb 24 = .ok (.if_icmp .ge 50, 3) := by decide +kernel
theorem d_Le_leastProductAbove_27 : decode c_Le_leastProductAboveb 27 = .ok (.aload_n 0, 1) := by decide +kernel
theorem d_Le_leastProductAbove_28 : decode c_Le_leastProductAboveb 28 = .ok (.getfield 18, 3) := by decide +kernel
theorem d_Le_leastProductAbove_31 : decode c_Le_leastProductAboveb 31 = .ok (.iload 6, 2) := by decide +kernel
theorem d_Le_leastProductAbove_33 : decode c_Le_leastProductAboveb 33 = .ok (.iaload, 1) := by decide +kernel
theorem d_Le_leastProductAbove_34 : decode c_Le_leastProductAboveb 34 = .ok (.iload 5, 2) := by decide +kernel
theorem d_Le_leastProductAbove_36 : decode c_Le_leastProductAboveb 36 = .ok (.invokestatic 76, 3) := by decide +kernel
theorem d_Le_leastProductAbove_39 : decode c_Le_leastProductAboveb 39 = .ok (.iadd, 1) := by decide +kernel
theorem d_Le_leastProductAbove_40 : decode c_Le_leastProductAboveb 40 = .ok (.istore 7, 2) := by decide +kernel
theorem d_Le_leastProductAbove_42 : decode c_Le_leastProductAboveb 42 = .ok (.iload 7, 2) := by decide +kernel
theorem d_Le_leastProductAbove_44 : decode c_Le_leastProductAboveb 44 = .ok (.iload_n 1, 1) := by decide +kernel
theorem d_Le_leastProductAbove_45 : decode c_Le_leastProductAboveb 45 = .ok (.if_icmp .le 23, 3) := by decide +kernel
theorem d_Le_leastProductAbove_48 : decode c_Le_leastProductAboveb 48 = .ok (.iload 7, 2) := by decide +kernel
theorem d_Le_leastProductAbove_50 : decode c_Le_leastProductAboveb 50 = .ok (.iload 4, 2) := by decide +kernel
theorem d_Le_leastProductAbove_52 : decode c_Le_leastProductAboveb 52 = .ok (.if_icmp .ge 16, 3) := by decide +kernel
theorem d_Le_leastProductAbove_55 : decode c_Le_leastProductAboveb 55 = .ok (.iload 7, 2) := by decide +kernel
theorem d_Le_leastProductAbove_57 : decode c_Le_leastProductAboveb 57 = .ok (.istore 4, 2) := by decide +kernel
theorem d_Le_leastProductAbove_59 : decode c_Le_leastProductAboveb 59 = .ok (.iload 5, 2) := by decide +kernel
theorem d_Le_leastProductAbove_61 : decode c_Le_leastProductAboveb 61 = .ok (.bipush 40, 2) := by decide +kernel
theorem d_Le_leastProductAbove_63 : decode c_Le_leastProductAboveb 63 = .ok (.imul, 1) := by decide +kernel
theorem d_Le_leastProductAbove_64 : decode c_Le_leastProductAboveb 64 = .ok (.iload 6, 2) := by decide +kernel
theorem d_Le_leastProductAbove_66 : decode c_Le_leastProductAboveb 66 = .ok (.iadd, 1) := by decide +kernel
theorem d_Le_leastProductAbove_67 : decode c_Le_leastProductAboveb 67 = .ok (.istore_n 3, 1) := by decide +kernel
theorem d_Le_leastProductAbove_68 : decode c_Le_leastProductAboveb 68 = .ok (.iinc 6 1, 3) := by decide +kernel
theorem d_Le_leastProductAbove_71 : decode c_Le_leastProductAboveb 71 = .ok (.goto (-53), 3) := by decide +kernel
theorem d_Le_leastProductAbove_74 : decode c_Le_leastProductAboveb 74 = .ok (.iinc 5 1, 3) := by decide +kernel
theorem d_Le_leastProductAbove_77 : decode c_Le_leastProductAboveb 77 = .ok (.goto (-68), 3) := by decide +kernel
theorem d_Le_leastProductAbove_80 : decode c_Le_leastProductAboveb 80 = .ok (.iload_n 3, 1) := by decide +kernel
theorem d_Le_leastProductAbove_81 : decode c_Le_leastProductAboveb 81 = .ok (.ireturn, 1) := by decide +kernel
abbrev ws_leastProduct (a_Le a_Le_standard a_Le_heads a_Le_tails a_Le_images a_Le_steps a_Le_mixes a_Le_pivots a_Le_image a_Le_rest a_Le_mix : Nat) (cI cL cZ : ClassId) (Le_prime Le_size Le_count Le_standardCount : Int32) (Le_standard : Nat → Int32) : va_W := [(a_Le, .inr (4, [.int Le_prime, .int Le_size, .int Le_count, .ref a_Le_heads, .ref a_Le_tails, .ref a_Le_standard, .int Le_standardCount, .ref a_Le_images, .ref a_Le_steps, .ref a_Le_mixes, .ref a_Le_pivots, .ref a_Le_image, .ref a_Le_rest, .ref a_Le_mix])), (a_Le_standard, .inl (cI, 40, .inl Le_standard))]
abbrev rm_leastProduct : Room := { frames := 1, cells := 0, slots := 0, locals := 20 }
abbrev g_leastProduct (X : gX) (r_ : Int32) (pc : Nat) (lv : List (Nat × Value)) (st : List Value) : Prop := ∀ ls : Array Slot, lv_has ls 8 lv → gWW X rm_leastProduct (gs X).heap [] 0 0 (MQ (gbl X) (vp_Si (fun r => r = r_)) (ga X) (gs X) 0 0 (fun _ => False)) (F0 (gm X) pc ls st)
set_option maxHeartbeats 4000000 in
set_option maxRecDepth 100000 in
theorem w_leastProduct_18 (X : gX) (D : va_G) (cI cL cZ : ClassId) (a_Le a_Le_standard a_Le_heads a_Le_tails a_Le_images a_Le_steps a_Le_mixes a_Le_pivots a_Le_image a_Le_rest a_Le_mix : Nat) (F : Nat) (Le_prime Le_size Le_count Le_standardCount : Int32) (Le_standard : Nat → Int32) (r_ : Int32) (C0 : gC X c_Le_leastProductAboveb (some .int) 8 "RemnantDictionary$Lexicon" gAll) (hK : va_K D classes (gT cI cL cZ) (gs X)) (hP : va_P D classes (ws_leastProduct a_Le a_Le_standard a_Le_heads a_Le_tails a_Le_images a_Le_steps a_Le_mixes a_Le_pivots a_Le_image a_Le_rest a_Le_mix cI cL cZ Le_prime Le_size Le_count Le_standardCount Le_standard) (gs X).heap) (hN : gN (gs X)) (k9 : Int32 → Int32 → Int32 → Int32 → Int32 → Option (Int32)) (hk9 : ∀ (i1 i2 i3 i4 i5 : Int32), k9 i1 i2 i3 i4 i5 = some r_ → g_leastProduct X r_ 9 [(0, .ref a_Le), (1, .int i1), (2, .int i2), (3, .int i3), (4, .int i4), (5, .int i5)] []) (k18 : Int32 → Int32 → Int32 → Int32 → Int32 → Int32 → Option (Int32)) (hk18 : ∀ (i1 i2 i3 i4 i5 i6 : Int32), k18 i1 i2 i3 i4 i5 i6 = some r_ → g_leastProduct X r_ 18 [(0, .ref a_Le), (1, .int i1), (2, .int i2), (3, .int i3), (4, .int i4), (5, .int i5), (6, .int i6)] []) (i1 i2 i3 i4 i5 i6 : Int32) (hrun : s_leastProduct_18 F Le_standardCount Le_standard k9 k18 i1 i2 i3 i4 i5 i6 = some r_) : g_leastProduct X r_ 18 [(0, .ref a_Le), (1, .int i1), (2, .int i2), (3, .int i3), (4, .int i4), (5, .int i5), (6, .int i6)] [] := by
  have C1 := C0
  obtain ⟨hx, hb, hr, hml, hown, hts, hlocks⟩ := C1
  unfold s_leastProduct_18 at hrun
  intro ls hl
  refine lv_iload hx hb d_Le_leastProductAbove_18 (lv_at hl 6 rfl) ?_
  refine lv_aload_n hx hb d_Le_leastProductAbove_20 rfl (lv_at hl 0 rfl) ?_
  refine va_get (D := D) (ci := 4) (v := .int Le_standardCount) (C := "RemnantDictionary$Lexicon") (T := T_Le) (N := 14) hx hb hts iw_Le hown hK hP 0 rfl rfl 6 (by decide) (hts _ k_229) (fun _ h9 => h9) rfl d_Le_leastProductAbove_21 ?_
  refine g_icmp_ge (tgt := 74) hx hb d_Le_leastProductAbove_24 (by decide) hrun (fun _ hrun => ?_) (fun _ hrun => ?_)
  · refine lv_iinc (v := (i5 + 1)) (lv' := [(5, .int (i5 + 1)), (0, .ref a_Le), (1, .int i1), (2, .int i2), (3, .int i3), (4, .int i4), (6, .int i6)]) hx hb d_Le_leastProductAbove_74 hl (k := 5) rfl rfl (by decide) rfl (fun ls hl => ?_)
    refine lv_goto (tgt := 9) hx hb d_Le_leastProductAbove_77 (by decide) ?_
    exact hk9 i1 i2 i3 i4 (i5 + 1) hrun ls (lv_sub hl [1, 2, 3, 4, 5, 0] rfl)
  · refine lv_aload_n hx hb d_Le_leastProductAbove_27 rfl (lv_at hl 0 rfl) ?_
    refine va_get (D := D) (ci := 4) (v := .ref a_Le_standard) (C := "RemnantDictionary$Lexicon") (T := T_Le) (N := 14) hx hb hts iw_Le hown hK hP 0 rfl rfl 5 (by decide) (hts _ k_230) (fun _ h9 => h9) rfl d_Le_leastProductAbove_28 ?_
    refine lv_iload hx hb d_Le_leastProductAbove_31 (lv_at hl 6 rfl) ?_
    refine g_iald hx hb hK hP 1 0 rfl rfl hrun d_Le_leastProductAbove_33 (fun x_1 hrun => ?_)
    refine lv_iload hx hb d_Le_leastProductAbove_34 (lv_at hl 5 rfl) ?_
    obtain ⟨r_2, hc, hrun⟩ := bd1_s hrun
    refine vp_callSi (g_ofRun (va_runSN (As := [.int i5]) (rest := [.int x_1]) ⟨hx, hb, hml, hown, hts⟩ (c_variable (gl X) F i5 r_2 hc) (⟨va_cnB 1 hts (gwN k_11) rfl rfl rfl (hN.1 _ (List.mem_of_getElem? (i := 14) rfl)) (hts _ k_14) (by decide +kernel) ⟨Nat.le_of_ble_eq_true rfl, Nat.le_of_ble_eq_true rfl⟩, hts _ k_55, trivial⟩) (gpreS0 hN) rfl rfl hl.1 rfl (lv_room (Nat.le_of_ble_eq_true rfl)) d_Le_leastProductAbove_36 ⟨Nat.le_of_ble_eq_true rfl, Nat.le_of_ble_eq_true rfl⟩)) (nm_e ?_)
    refine lv_iadd hx hb d_Le_leastProductAbove_39 ?_
    refine lv_istore (lv' := [(7, .int (x_1 + r_2)), (0, .ref a_Le), (1, .int i1), (2, .int i2), (3, .int i3), (4, .int i4), (5, .int i5), (6, .int i6)]) hx hb d_Le_leastProductAbove_40 hl (by decide) rfl (fun ls hl => ?_)
    refine lv_iload hx hb d_Le_leastProductAbove_42 (lv_at hl 0 rfl) ?_
    refine lv_iload_n hx hb d_Le_leastProductAbove_44 rfl (lv_at hl 2 rfl) ?_
    refine g_icmp_le (tgt := 68) hx hb d_Le_leastProductAbove_45 (by decide) hrun (fun _ hrun => ?_) (fun _ hrun => ?_)
    · refine lv_iinc (v := (i6 + 1)) (lv' := [(6, .int (i6 + 1)), (7, .int (x_1 + r_2)), (0, .ref a_Le), (1, .int i1), (2, .int i2), (3, .int i3), (4, .int i4), (5, .int i5)]) hx hb d_Le_leastProductAbove_68 hl (k := 7) rfl rfl (by decide) rfl (fun ls hl => ?_)
      refine lv_goto (tgt := 18) hx hb d_Le_leastProductAbove_71 (by decide) ?_
      exact hk18 i1 i2 i3 i4 i5 (i6 + 1) hrun ls (lv_sub hl [2, 3, 4, 5, 6, 7, 0] rfl)
    · refine lv_iload hx hb d_Le_leastProductAbove_48 (lv_at hl 0 rfl) ?_
      refine lv_iload hx hb d_Le_leastProductAbove_50 (lv_at hl 5 rfl) ?_
      refine g_icmp_ge (tgt := 68) hx hb d_Le_leastProductAbove_52 (by decide) hrun (fun _ hrun => ?_) (fun _ hrun => ?_)
      · refine lv_iinc (v := (i6 + 1)) (lv' := [(6, .int (i6 + 1)), (7, .int (x_1 + r_2)), (0, .ref a_Le), (1, .int i1), (2, .int i2), (3, .int i3), (4, .int i4), (5, .int i5)]) hx hb d_Le_leastProductAbove_68 hl (k := 7) rfl rfl (by decide) rfl (fun ls hl => ?_)
        refine lv_goto (tgt := 18) hx hb d_Le_leastProductAbove_71 (by decide) ?_
        exact hk18 i1 i2 i3 i4 i5 (i6 + 1) hrun ls (lv_sub hl [2, 3, 4, 5, 6, 7, 0] rfl)
      · refine lv_iload hx hb d_Le_leastProductAbove_55 (lv_at hl 0 rfl) ?_
        refine lv_istore (lv' := [(4, .int (x_1 + r_2)), (7, .int (x_1 + r_2)), (0, .ref a_Le), (1, .int i1), (2, .int i2), (3, .int i3), (5, .int i5), (6, .int i6)]) hx hb d_Le_leastProductAbove_57 hl (by decide) rfl (fun ls hl => ?_)
        refine lv_iload hx hb d_Le_leastProductAbove_59 (lv_at hl 6 rfl) ?_
        refine lv_bipush (v := 40) hx hb d_Le_leastProductAbove_61 (by decide) ?_
        refine lv_imul hx hb d_Le_leastProductAbove_63 ?_
        refine lv_iload hx hb d_Le_leastProductAbove_64 (lv_at hl 7 rfl) ?_
        refine lv_iadd hx hb d_Le_leastProductAbove_66 ?_
        refine lv_istore_n (lv' := [(3, .int ((i5 * 40) + i6)), (4, .int (x_1 + r_2)), (7, .int (x_1 + r_2)), (0, .ref a_Le), (1, .int i1), (2, .int i2), (5, .int i5), (6, .int i6)]) hx hb d_Le_leastProductAbove_67 rfl hl (by decide) rfl (fun ls hl => ?_)
        refine lv_iinc (v := (i6 + 1)) (lv' := [(6, .int (i6 + 1)), (3, .int ((i5 * 40) + i6)), (4, .int (x_1 + r_2)), (7, .int (x_1 + r_2)), (0, .ref a_Le), (1, .int i1), (2, .int i2), (5, .int i5)]) hx hb d_Le_leastProductAbove_68 hl (k := 7) rfl rfl (by decide) rfl (fun ls hl => ?_)
        refine lv_goto (tgt := 18) hx hb d_Le_leastProductAbove_71 (by decide) ?_
        exact hk18 i1 i2 ((i5 * 40) + i6) (x_1 + r_2) i5 (i6 + 1) hrun ls (lv_sub hl [4, 5, 6, 1, 2, 7, 0] rfl)
theorem v_leastProduct_18 (X : gX) (D : va_G) (cI cL cZ : ClassId) (a_Le a_Le_standard a_Le_heads a_Le_tails a_Le_images a_Le_steps a_Le_mixes a_Le_pivots a_Le_image a_Le_rest a_Le_mix : Nat) (F : Nat) (Le_prime Le_size Le_count Le_standardCount : Int32) (Le_standard : Nat → Int32) (r_ : Int32) (C0 : gC X c_Le_leastProductAboveb (some .int) 8 "RemnantDictionary$Lexicon" gAll) (hK : va_K D classes (gT cI cL cZ) (gs X)) (hP : va_P D classes (ws_leastProduct a_Le a_Le_standard a_Le_heads a_Le_tails a_Le_images a_Le_steps a_Le_mixes a_Le_pivots a_Le_image a_Le_rest a_Le_mix cI cL cZ Le_prime Le_size Le_count Le_standardCount Le_standard) (gs X).heap) (hN : gN (gs X)) (k9 : Int32 → Int32 → Int32 → Int32 → Int32 → Option (Int32)) (hk9 : ∀ (i1 i2 i3 i4 i5 : Int32), k9 i1 i2 i3 i4 i5 = some r_ → g_leastProduct X r_ 9 [(0, .ref a_Le), (1, .int i1), (2, .int i2), (3, .int i3), (4, .int i4), (5, .int i5)] []) : ∀ (n : Nat) (i1 i2 i3 i4 i5 i6 : Int32), b_leastProduct_18 F Le_standardCount Le_standard k9 n i1 i2 i3 i4 i5 i6 = some r_ → g_leastProduct X r_ 18 [(0, .ref a_Le), (1, .int i1), (2, .int i2), (3, .int i3), (4, .int i4), (5, .int i5), (6, .int i6)] [] := by
  intro n
  induction n with
  | zero => intro i1 i2 i3 i4 i5 i6 hrun; cases hrun
  | succ n ih =>
    intro i1 i2 i3 i4 i5 i6 hrun
    exact w_leastProduct_18 X D cI cL cZ a_Le a_Le_standard a_Le_heads a_Le_tails a_Le_images a_Le_steps a_Le_mixes a_Le_pivots a_Le_image a_Le_rest a_Le_mix F Le_prime Le_size Le_count Le_standardCount Le_standard r_ C0 hK hP hN k9 hk9 (b_leastProduct_18 F Le_standardCount Le_standard k9 n) ih i1 i2 i3 i4 i5 i6 hrun
set_option maxHeartbeats 4000000 in
set_option maxRecDepth 100000 in
theorem w_leastProduct_9 (X : gX) (D : va_G) (cI cL cZ : ClassId) (a_Le a_Le_standard a_Le_heads a_Le_tails a_Le_images a_Le_steps a_Le_mixes a_Le_pivots a_Le_image a_Le_rest a_Le_mix : Nat) (F : Nat) (Le_prime Le_size Le_count Le_standardCount : Int32) (Le_standard : Nat → Int32) (r_ : Int32) (C0 : gC X c_Le_leastProductAboveb (some .int) 8 "RemnantDictionary$Lexicon" gAll) (hK : va_K D classes (gT cI cL cZ) (gs X)) (hP : va_P D classes (ws_leastProduct a_Le a_Le_standard a_Le_heads a_Le_tails a_Le_images a_Le_steps a_Le_mixes a_Le_pivots a_Le_image a_Le_rest a_Le_mix cI cL cZ Le_prime Le_size Le_count Le_standardCount Le_standard) (gs X).heap) (hN : gN (gs X)) (k9 : Int32 → Int32 → Int32 → Int32 → Int32 → Option (Int32)) (hk9 : ∀ (i1 i2 i3 i4 i5 : Int32), k9 i1 i2 i3 i4 i5 = some r_ → g_leastProduct X r_ 9 [(0, .ref a_Le), (1, .int i1), (2, .int i2), (3, .int i3), (4, .int i4), (5, .int i5)] []) (i1 i2 i3 i4 i5 : Int32) (hrun : s_leastProduct_9 F Le_standardCount Le_standard k9 i1 i2 i3 i4 i5 = some r_) : g_leastProduct X r_ 9 [(0, .ref a_Le), (1, .int i1), (2, .int i2), (3, .int i3), (4, .int i4), (5, .int i5)] [] := by
  have C1 := C0
  obtain ⟨hx, hb, hr, hml, hown, hts, hlocks⟩ := C1
  unfold s_leastProduct_9 at hrun
  intro ls hl
  refine lv_iload hx hb d_Le_leastProductAbove_9 (lv_at hl 5 rfl) ?_
  refine lv_iload_n hx hb d_Le_leastProductAbove_11 rfl (lv_at hl 2 rfl) ?_
  refine g_icmp_ge (tgt := 80) hx hb d_Le_leastProductAbove_12 (by decide) hrun (fun _ hrun => ?_) (fun _ hrun => ?_)
  · refine lv_iload_n hx hb d_Le_leastProductAbove_80 rfl (lv_at hl 3 rfl) ?_
    cases hrun
    exact W.iret hx hb hr (fun t ht hW => ⟨_, rfl, rfl, ht⟩) (fun q h => absurd h List.not_mem_nil) d_Le_leastProductAbove_81
  · refine lv_iconst (v := 0) hx hb d_Le_leastProductAbove_15 (by decide) ?_
    refine lv_istore (lv' := [(6, .int 0), (0, .ref a_Le), (1, .int i1), (2, .int i2), (3, .int i3), (4, .int i4), (5, .int i5)]) hx hb d_Le_leastProductAbove_16 hl (by decide) rfl (fun ls hl => ?_)
    exact v_leastProduct_18 X D cI cL cZ a_Le a_Le_standard a_Le_heads a_Le_tails a_Le_images a_Le_steps a_Le_mixes a_Le_pivots a_Le_image a_Le_rest a_Le_mix F Le_prime Le_size Le_count Le_standardCount Le_standard r_ C0 hK hP hN k9 hk9 F i1 i2 i3 i4 i5 0 hrun ls (lv_sub hl [1, 2, 3, 4, 5, 6, 0] rfl)
theorem v_leastProduct_9 (X : gX) (D : va_G) (cI cL cZ : ClassId) (a_Le a_Le_standard a_Le_heads a_Le_tails a_Le_images a_Le_steps a_Le_mixes a_Le_pivots a_Le_image a_Le_rest a_Le_mix : Nat) (F : Nat) (Le_prime Le_size Le_count Le_standardCount : Int32) (Le_standard : Nat → Int32) (r_ : Int32) (C0 : gC X c_Le_leastProductAboveb (some .int) 8 "RemnantDictionary$Lexicon" gAll) (hK : va_K D classes (gT cI cL cZ) (gs X)) (hP : va_P D classes (ws_leastProduct a_Le a_Le_standard a_Le_heads a_Le_tails a_Le_images a_Le_steps a_Le_mixes a_Le_pivots a_Le_image a_Le_rest a_Le_mix cI cL cZ Le_prime Le_size Le_count Le_standardCount Le_standard) (gs X).heap) (hN : gN (gs X))  : ∀ (n : Nat) (i1 i2 i3 i4 i5 : Int32), b_leastProduct_9 F Le_standardCount Le_standard n i1 i2 i3 i4 i5 = some r_ → g_leastProduct X r_ 9 [(0, .ref a_Le), (1, .int i1), (2, .int i2), (3, .int i3), (4, .int i4), (5, .int i5)] [] := by
  intro n
  induction n with
  | zero => intro i1 i2 i3 i4 i5 hrun; cases hrun
  | succ n ih =>
    intro i1 i2 i3 i4 i5 hrun
    exact w_leastProduct_9 X D cI cL cZ a_Le a_Le_standard a_Le_heads a_Le_tails a_Le_images a_Le_steps a_Le_mixes a_Le_pivots a_Le_image a_Le_rest a_Le_mix F Le_prime Le_size Le_count Le_standardCount Le_standard r_ C0 hK hP hN (b_leastProduct_9 F Le_standardCount Le_standard n) ih i1 i2 i3 i4 i5 hrun
set_option maxHeartbeats 4000000 in
set_option maxRecDepth 100000 in
theorem e_leastProduct (X : gX) (D : va_G) (cI cL cZ : ClassId) (a_Le a_Le_standard a_Le_heads a_Le_tails a_Le_images a_Le_steps a_Le_mixes a_Le_pivots a_Le_image a_Le_rest a_Le_mix : Nat) (F : Nat) (Le_prime Le_size Le_count Le_standardCount : Int32) (Le_standard : Nat → Int32) (r_ : Int32) (C0 : gC X c_Le_leastProductAboveb (some .int) 8 "RemnantDictionary$Lexicon" gAll) (hK : va_K D classes (gT cI cL cZ) (gs X)) (hP : va_P D classes (ws_leastProduct a_Le a_Le_standard a_Le_heads a_Le_tails a_Le_images a_Le_steps a_Le_mixes a_Le_pivots a_Le_image a_Le_rest a_Le_mix cI cL cZ Le_prime Le_size Le_count Le_standardCount Le_standard) (gs X).heap) (hN : gN (gs X)) (i1 i2 : Int32) (hrun : m_leastProduct F Le_standardCount Le_standard i1 i2 = some r_) : g_leastProduct X r_ 0 [(0, .ref a_Le), (1, .int i1), (2, .int i2)] [] := by
  have C1 := C0
  obtain ⟨hx, hb, hr, hml, hown, hts, hlocks⟩ := C1
  unfold m_leastProduct at hrun
  intro ls hl
  refine lv_iconst (v := (-1)) hx hb d_Le_leastProductAbove_0 (by decide) ?_
  refine lv_istore_n (lv' := [(3, .int (-1)), (0, .ref a_Le), (1, .int i1), (2, .int i2)]) hx hb d_Le_leastProductAbove_1 rfl hl (by decide) rfl (fun ls hl => ?_)
  refine lv_ldc (v := 2147483647) hx hb hown (hts _ k_232) d_Le_leastProductAbove_2 ?_
  refine lv_istore (lv' := [(4, .int 2147483647), (3, .int (-1)), (0, .ref a_Le), (1, .int i1), (2, .int i2)]) hx hb d_Le_leastProductAbove_4 hl (by decide) rfl (fun ls hl => ?_)
  refine lv_iconst (v := 0) hx hb d_Le_leastProductAbove_6 (by decide) ?_
  refine lv_istore (lv' := [(5, .int 0), (4, .int 2147483647), (3, .int (-1)), (0, .ref a_Le), (1, .int i1), (2, .int i2)]) hx hb d_Le_leastProductAbove_7 hl (by decide) rfl (fun ls hl => ?_)
  exact v_leastProduct_9 X D cI cL cZ a_Le a_Le_standard a_Le_heads a_Le_tails a_Le_images a_Le_steps a_Le_mixes a_Le_pivots a_Le_image a_Le_rest a_Le_mix F Le_prime Le_size Le_count Le_standardCount Le_standard r_ C0 hK hP hN  F i1 i2 (-1) 2147483647 0 hrun ls (lv_sub hl [3, 4, 5, 2, 1, 0] rfl)
set_option maxHeartbeats 4000000 in
set_option maxRecDepth 100000 in
theorem c_leastProduct (l : Launch) (D : va_G) (cI cL cZ : ClassId) (a_Le a_Le_standard a_Le_heads a_Le_tails a_Le_images a_Le_steps a_Le_mixes a_Le_pivots a_Le_image a_Le_rest a_Le_mix : Nat) (F : Nat) (Le_prime Le_size Le_count Le_standardCount : Int32) (Le_standard : Nat → Int32) (i1 i2 : Int32) (r_ : Int32) (hrun : m_leastProduct F Le_standardCount Le_standard i1 i2 = some r_) : Met l y_Le_leastProductAbove (.code y_Le_leastProductAbove c_Le_leastProductAboveb 8 (some .int) :: gAll) rm_leastProduct (va_Pc [.ref a_Le, .int i1, .int i2] (gPR D (gT cI cL cZ) (ws_leastProduct a_Le a_Le_standard a_Le_heads a_Le_tails a_Le_images a_Le_steps a_Le_mixes a_Le_pivots a_Le_image a_Le_rest a_Le_mix cI cL cZ Le_prime Le_size Le_count Le_standardCount Le_standard))) (vp_Si (fun r => r = r_)) 0 0 (fun _ => False) := by
  refine Met.ofW (cc := c_Le_leastProductAboveb) (maxL := 8) (ret := (some .int)) (by decide +kernel) rfl ?_
  intro p e s m args below meth c s₁ B hml hv
  obtain ⟨rfl, hP, hK, hN⟩ := hv
  have hl := lv_entry ([.ref a_Le, .int i1, .int i2]) (n := 8) (Nat.le_of_ble_eq_true rfl)
  rw [lg_entry_eq]
  generalize (lg_sl ([.ref a_Le, .int i1, .int i2]) ++ List.replicate (8 - (lg_sl ([.ref a_Le, .int i1, .int i2])).length) Slot.unset).toArray = ls at hl ⊢
  exact e_leastProduct (p, l, e, s, m, ([.ref a_Le, .int i1, .int i2] : List Value).toArray, below, meth, c) D cI cL cZ a_Le a_Le_standard a_Le_heads a_Le_tails a_Le_images a_Le_steps a_Le_mixes a_Le_pivots a_Le_image a_Le_rest a_Le_mix F Le_prime Le_size Le_count Le_standardCount Le_standard r_ ⟨B.exec, B.bytes, B.returns, hml, findClass_of_methodNamed B.named, fun w h => atoms_spec (ws := (.code y_Le_leastProductAbove c_Le_leastProductAboveb 8 (some .int) :: gAll)) B.pre w (List.mem_cons_of_mem _ h), B.notSynchronized⟩ hK hP hN i1 i2 hrun ls hl
theorem d_Le_hasHeadThatDivides_0 : decode c_Le_hasHeadThatDividesb 0 = .ok (.iconst 0, 1) := by decide +kernel
theorem d_Le_hasHeadThatDivides_1 : decode c_Le_hasHeadThatDividesb 1 = .ok (.istore_n 2, 1) := by decide +kernel
theorem d_Le_hasHeadThatDivides_2 : decode c_Le_hasHeadThatDividesb 2 = .ok (.iload_n 2, 1) := by decide +kernel
theorem d_Le_hasHeadThatDivides_3 : decode c_Le_hasHeadThatDividesb 3 = .ok (.aload_n 0, 1) := by decide +kernel
theorem d_Le_hasHeadThatDivides_4 : decode c_Le_hasHeadThatDividesb 4 = .ok (.getfield 42, 3) := by decide +kernel
theorem d_Le_hasHeadThatDivides_7 : decode c_Le_hasHeadThatDividesb 7 = .ok (.if_icmp .ge 24, 3) := by decide +kernel
theorem d_Le_hasHeadThatDivides_10 : decode c_Le_hasHeadThatDividesb 10 = .ok (.aload_n 0, 1) := by decide +kernel
theorem d_Le_hasHeadThatDivides_11 : decode c_Le_hasHeadThatDividesb 11 = .ok (.getfield 9, 3) := by decide +kernel
theorem d_Le_hasHeadThatDivides_14 : decode c_Le_hasHeadThatDividesb 14 = .ok (.iload_n 2, 1) := by decide +kernel
theorem d_Le_hasHeadThatDivides_15 : decode c_Le_hasHeadThatDividesb 15 = .ok (.iaload, 1) := by decide +kernel
theorem d_Le_hasHeadThatDivides_16 : decode c_Le_hasHeadThatDividesb 16 = .ok (.iload_n 1, 1) := by decide +kernel
theorem d_Le_hasHeadThatDivides_17 : decode c_Le_hasHeadThatDividesb 17 = .ok (.invokestatic 91, 3) := by decide +kernel
theorem d_Le_hasHeadThatDivides_20 : decode c_Le_hasHeadThatDividesb 20 = .ok (.ifCond .eq 5, 3) := by decide +kernel
theorem d_Le_hasHeadThatDivides_23 : decode c_Le_hasHeadThatDividesb 23 = .ok (.iconst 1, 1) := by decide +kernel
theorem d_Le_hasHeadThatDivides_24 : decode c_Le_hasHeadThatDividesb 24 = .ok (.ireturn, 1) := by decide +kernel
theorem d_Le_hasHeadThatDivides_25 : decode c_Le_hasHeadThatDividesb 25 = .ok (.iinc 2 1, 3) := by decide +kernel
theorem d_Le_hasHeadThatDivides_28 : decode c_Le_hasHeadThatDividesb 28 = .ok (.goto (-26), 3) := by decide +kernel
theorem d_Le_hasHeadThatDivides_31 : decode c_Le_hasHeadThatDividesb 31 = .ok (.iconst 0, 1) := by decide +kernel
theorem d_Le_hasHeadThatDivides_32 : decode c_Le_hasHeadThatDividesb 32 = .ok (.ireturn, 1) := by decide +kernel
abbrev ws_hasHead (a_Le a_Le_heads a_Le_tails a_Le_standard a_Le_images a_Le_steps a_Le_mixes a_Le_pivots a_Le_image a_Le_rest a_Le_mix : Nat) (cI cL cZ : ClassId) (Le_prime Le_size Le_count Le_standardCount : Int32) (Le_heads : Nat → Int32) : va_W := [(a_Le, .inr (4, [.int Le_prime, .int Le_size, .int Le_count, .ref a_Le_heads, .ref a_Le_tails, .ref a_Le_standard, .int Le_standardCount, .ref a_Le_images, .ref a_Le_steps, .ref a_Le_mixes, .ref a_Le_pivots, .ref a_Le_image, .ref a_Le_rest, .ref a_Le_mix])), (a_Le_heads, .inl (cI, 160, .inl Le_heads))]
abbrev rm_hasHead : Room := { frames := 2, cells := 0, slots := 0, locals := 43 }
abbrev g_hasHead (X : gX) (r_ : Int32) (pc : Nat) (lv : List (Nat × Value)) (st : List Value) : Prop := ∀ ls : Array Slot, lv_has ls 3 lv → gWW X rm_hasHead (gs X).heap [] 0 0 (MQ (gbl X) (vp_Si (fun r => r = r_)) (ga X) (gs X) 0 0 (fun _ => False)) (F0 (gm X) pc ls st)
set_option maxHeartbeats 4000000 in
set_option maxRecDepth 100000 in
theorem w_hasHead_2 (X : gX) (D : va_G) (cI cL cZ : ClassId) (a_Le a_Le_heads a_Le_tails a_Le_standard a_Le_images a_Le_steps a_Le_mixes a_Le_pivots a_Le_image a_Le_rest a_Le_mix : Nat) (F : Nat) (Le_prime Le_size Le_count Le_standardCount : Int32) (Le_heads : Nat → Int32) (r_ : Int32) (C0 : gC X c_Le_hasHeadThatDividesb (some .boolean) 3 "RemnantDictionary$Lexicon" gAll) (hK : va_K D classes (gT cI cL cZ) (gs X)) (hP : va_P D classes (ws_hasHead a_Le a_Le_heads a_Le_tails a_Le_standard a_Le_images a_Le_steps a_Le_mixes a_Le_pivots a_Le_image a_Le_rest a_Le_mix cI cL cZ Le_prime Le_size Le_count Le_standardCount Le_heads) (gs X).heap) (hN : gN (gs X)) (k2 : Int32 → Int32 → Option (Int32)) (hk2 : ∀ (i1 i2 : Int32), k2 i1 i2 = some r_ → g_hasHead X r_ 2 [(0, .ref a_Le), (1, .int i1), (2, .int i2)] []) (i1 i2 : Int32) (hrun : s_hasHead_2 F Le_count Le_heads k2 i1 i2 = some r_) : g_hasHead X r_ 2 [(0, .ref a_Le), (1, .int i1), (2, .int i2)] [] := by
  have C1 := C0
  obtain ⟨hx, hb, hr, hml, hown, hts, hlocks⟩ := C1
  unfold s_hasHead_2 at hrun
  intro ls hl
  refine lv_iload_n hx hb d_Le_hasHeadThatDivides_2 rfl (lv_at hl 2 rfl) ?_
  refine lv_aload_n hx hb d_Le_hasHeadThatDivides_3 rfl (lv_at hl 0 rfl) ?_
  refine va_get (D := D) (ci := 4) (v := .int Le_count) (C := "RemnantDictionary$Lexicon") (T := T_Le) (N := 14) hx hb hts iw_Le hown hK hP 0 rfl rfl 2 (by decide) (hts _ k_227) (fun _ h9 => h9) rfl d_Le_hasHeadThatDivides_4 ?_
  refine g_icmp_ge (tgt := 31) hx hb d_Le_hasHeadThatDivides_7 (by decide) hrun (fun _ hrun => ?_) (fun _ hrun => ?_)
  · refine lv_iconst (v := 0) hx hb d_Le_hasHeadThatDivides_31 (by decide) ?_
    cases hrun
    exact W.zret hx hb hr rfl (fun t ht hW => ⟨_, rfl, rfl, ht⟩) (fun q h => absurd h List.not_mem_nil) d_Le_hasHeadThatDivides_32
  · refine lv_aload_n hx hb d_Le_hasHeadThatDivides_10 rfl (lv_at hl 0 rfl) ?_
    refine va_get (D := D) (ci := 4) (v := .ref a_Le_heads) (C := "RemnantDictionary$Lexicon") (T := T_Le) (N := 14) hx hb hts iw_Le hown hK hP 0 rfl rfl 3 (by decide) (hts _ k_233) (fun _ h9 => h9) rfl d_Le_hasHeadThatDivides_11 ?_
    refine lv_iload_n hx hb d_Le_hasHeadThatDivides_14 rfl (lv_at hl 2 rfl) ?_
    refine g_iald hx hb hK hP 1 0 rfl rfl hrun d_Le_hasHeadThatDivides_15 (fun x_1 hrun => ?_)
    refine lv_iload_n hx hb d_Le_hasHeadThatDivides_16 rfl (lv_at hl 1 rfl) ?_
    obtain ⟨r_2, hc, hrun⟩ := bd1_s hrun
    refine vp_callSi (g_ofRun (va_runSN (As := [.int x_1, .int i1]) (rest := []) ⟨hx, hb, hml, hown, hts⟩ (c_divides (gl X) F x_1 i1 r_2 hc) (⟨va_cnB 2 hts (gwN k_17) rfl rfl rfl (hN.1 _ (List.mem_of_getElem? (i := 15) rfl)) (hts _ k_14) (by decide +kernel) ⟨Nat.le_of_ble_eq_true rfl, Nat.le_of_ble_eq_true rfl⟩, hts _ k_119, trivial⟩) (gpreS0 hN) rfl rfl hl.1 rfl (lv_room (Nat.le_of_ble_eq_true rfl)) d_Le_hasHeadThatDivides_17 ⟨Nat.le_of_ble_eq_true rfl, Nat.le_of_ble_eq_true rfl⟩)) (nm_e ?_)
    refine g_if_eq (tgt := 25) hx hb d_Le_hasHeadThatDivides_20 (by decide) hrun (fun _ hrun => ?_) (fun _ hrun => ?_)
    · refine lv_iinc (v := (i2 + 1)) (lv' := [(2, .int (i2 + 1)), (0, .ref a_Le), (1, .int i1)]) hx hb d_Le_hasHeadThatDivides_25 hl (k := 2) rfl rfl (by decide) rfl (fun ls hl => ?_)
      refine lv_goto (tgt := 2) hx hb d_Le_hasHeadThatDivides_28 (by decide) ?_
      exact hk2 i1 (i2 + 1) hrun ls (lv_sub hl [1, 2, 0] rfl)
    · refine lv_iconst (v := 1) hx hb d_Le_hasHeadThatDivides_23 (by decide) ?_
      cases hrun
      exact W.zret hx hb hr rfl (fun t ht hW => ⟨_, rfl, rfl, ht⟩) (fun q h => absurd h List.not_mem_nil) d_Le_hasHeadThatDivides_24
theorem v_hasHead_2 (X : gX) (D : va_G) (cI cL cZ : ClassId) (a_Le a_Le_heads a_Le_tails a_Le_standard a_Le_images a_Le_steps a_Le_mixes a_Le_pivots a_Le_image a_Le_rest a_Le_mix : Nat) (F : Nat) (Le_prime Le_size Le_count Le_standardCount : Int32) (Le_heads : Nat → Int32) (r_ : Int32) (C0 : gC X c_Le_hasHeadThatDividesb (some .boolean) 3 "RemnantDictionary$Lexicon" gAll) (hK : va_K D classes (gT cI cL cZ) (gs X)) (hP : va_P D classes (ws_hasHead a_Le a_Le_heads a_Le_tails a_Le_standard a_Le_images a_Le_steps a_Le_mixes a_Le_pivots a_Le_image a_Le_rest a_Le_mix cI cL cZ Le_prime Le_size Le_count Le_standardCount Le_heads) (gs X).heap) (hN : gN (gs X))  : ∀ (n : Nat) (i1 i2 : Int32), b_hasHead_2 F Le_count Le_heads n i1 i2 = some r_ → g_hasHead X r_ 2 [(0, .ref a_Le), (1, .int i1), (2, .int i2)] [] := by
  intro n
  induction n with
  | zero => intro i1 i2 hrun; cases hrun
  | succ n ih =>
    intro i1 i2 hrun
    exact w_hasHead_2 X D cI cL cZ a_Le a_Le_heads a_Le_tails a_Le_standard a_Le_images a_Le_steps a_Le_mixes a_Le_pivots a_Le_image a_Le_rest a_Le_mix F Le_prime Le_size Le_count Le_standardCount Le_heads r_ C0 hK hP hN (b_hasHead_2 F Le_count Le_heads n) ih i1 i2 hrun
set_option maxHeartbeats 4000000 in
set_option maxRecDepth 100000 in
theorem e_hasHead (X : gX) (D : va_G) (cI cL cZ : ClassId) (a_Le a_Le_heads a_Le_tails a_Le_standard a_Le_images a_Le_steps a_Le_mixes a_Le_pivots a_Le_image a_Le_rest a_Le_mix : Nat) (F : Nat) (Le_prime Le_size Le_count Le_standardCount : Int32) (Le_heads : Nat → Int32) (r_ : Int32) (C0 : gC X c_Le_hasHeadThatDividesb (some .boolean) 3 "RemnantDictionary$Lexicon" gAll) (hK : va_K D classes (gT cI cL cZ) (gs X)) (hP : va_P D classes (ws_hasHead a_Le a_Le_heads a_Le_tails a_Le_standard a_Le_images a_Le_steps a_Le_mixes a_Le_pivots a_Le_image a_Le_rest a_Le_mix cI cL cZ Le_prime Le_size Le_count Le_standardCount Le_heads) (gs X).heap) (hN : gN (gs X)) (i1 : Int32) (hrun : m_hasHead F Le_count Le_heads i1 = some r_) : g_hasHead X r_ 0 [(0, .ref a_Le), (1, .int i1)] [] := by
  have C1 := C0
  obtain ⟨hx, hb, hr, hml, hown, hts, hlocks⟩ := C1
  unfold m_hasHead at hrun
  intro ls hl
  refine lv_iconst (v := 0) hx hb d_Le_hasHeadThatDivides_0 (by decide) ?_
  refine lv_istore_n (lv' := [(2, .int 0), (0, .ref a_Le), (1, .int i1)]) hx hb d_Le_hasHeadThatDivides_1 rfl hl (by decide) rfl (fun ls hl => ?_)
  exact v_hasHead_2 X D cI cL cZ a_Le a_Le_heads a_Le_tails a_Le_standard a_Le_images a_Le_steps a_Le_mixes a_Le_pivots a_Le_image a_Le_rest a_Le_mix F Le_prime Le_size Le_count Le_standardCount Le_heads r_ C0 hK hP hN  F i1 0 hrun ls (lv_sub hl [1, 2, 0] rfl)
set_option maxHeartbeats 4000000 in
set_option maxRecDepth 100000 in
theorem c_hasHead (l : Launch) (D : va_G) (cI cL cZ : ClassId) (a_Le a_Le_heads a_Le_tails a_Le_standard a_Le_images a_Le_steps a_Le_mixes a_Le_pivots a_Le_image a_Le_rest a_Le_mix : Nat) (F : Nat) (Le_prime Le_size Le_count Le_standardCount : Int32) (Le_heads : Nat → Int32) (i1 : Int32) (r_ : Int32) (hrun : m_hasHead F Le_count Le_heads i1 = some r_) : Met l y_Le_hasHeadThatDivides (.code y_Le_hasHeadThatDivides c_Le_hasHeadThatDividesb 3 (some .boolean) :: gAll) rm_hasHead (va_Pc [.ref a_Le, .int i1] (gPR D (gT cI cL cZ) (ws_hasHead a_Le a_Le_heads a_Le_tails a_Le_standard a_Le_images a_Le_steps a_Le_mixes a_Le_pivots a_Le_image a_Le_rest a_Le_mix cI cL cZ Le_prime Le_size Le_count Le_standardCount Le_heads))) (vp_Si (fun r => r = r_)) 0 0 (fun _ => False) := by
  refine Met.ofW (cc := c_Le_hasHeadThatDividesb) (maxL := 3) (ret := (some .boolean)) (by decide +kernel) rfl ?_
  intro p e s m args below meth c s₁ B hml hv
  obtain ⟨rfl, hP, hK, hN⟩ := hv
  have hl := lv_entry ([.ref a_Le, .int i1]) (n := 3) (Nat.le_of_ble_eq_true rfl)
  rw [lg_entry_eq]
  generalize (lg_sl ([.ref a_Le, .int i1]) ++ List.replicate (3 - (lg_sl ([.ref a_Le, .int i1])).length) Slot.unset).toArray = ls at hl ⊢
  exact e_hasHead (p, l, e, s, m, ([.ref a_Le, .int i1] : List Value).toArray, below, meth, c) D cI cL cZ a_Le a_Le_heads a_Le_tails a_Le_standard a_Le_images a_Le_steps a_Le_mixes a_Le_pivots a_Le_image a_Le_rest a_Le_mix F Le_prime Le_size Le_count Le_standardCount Le_heads r_ ⟨B.exec, B.bytes, B.returns, hml, findClass_of_methodNamed B.named, fun w h => atoms_spec (ws := (.code y_Le_hasHeadThatDivides c_Le_hasHeadThatDividesb 3 (some .boolean) :: gAll)) B.pre w (List.mem_cons_of_mem _ h), B.notSynchronized⟩ hK hP hN i1 hrun ls hl
theorem d_Le_reduceImage_0 : decode c_Le_reduceImageb 0 = .ok (.aload_n 0, 1) := by decide +kernel
theorem d_Le_reduceImage_1 : decode c_Le_reduceImageb 1 = .ok (.getfield 33, 3) := by decide +kernel
theorem d_Le_reduceImage_4 : decode c_Le_reduceImageb 4 = .ok (.iconst 0, 1) := by decide +kernel
theorem d_Le_reduceImage_5 : decode c_Le_reduceImageb 5 = .ok (.aload_n 0, 1) := by decide +kernel
theorem d_Le_reduceImage_6 : decode c_Le_reduceImageb 6 = .ok (.getfield 36, 3) := by decide +kernel
theorem d_Le_reduceImage_9 : decode c_Le_reduceImageb 9 = .ok (.iconst 0, 1) := by decide +kernel
theorem d_Le_reduceImage_10 : decode c_Le_reduceImageb 10 = .ok (.bipush 40, 2) := by decide +kernel
theorem d_Le_reduceImage_12 : decode c_Le_reduceImageb 12 = .ok (.invokestatic 109, 3) := by decide +kernel
theorem d_Le_reduceImage_15 : decode c_Le_reduceImageb 15 = .ok (.aload_n 0, 1) := by decide +kernel
theorem d_Le_reduceImage_16 : decode c_Le_reduceImageb 16 = .ok (.getfield 39, 3) := by decide +kernel
theorem d_Le_reduceImage_19 : decode c_Le_reduceImageb 19 = .ok (.iconst 0, 1) := by decide +kernel
theorem d_Le_reduceImage_20 : decode c_Le_reduceImageb 20 = .ok (.invokestatic 59, 3) := by decide +kernel
theorem d_Le_reduceImage_23 : decode c_Le_reduceImageb 23 = .ok (.iconst 0, 1) := by decide +kernel
theorem d_Le_reduceImage_24 : decode c_Le_reduceImageb 24 = .ok (.istore_n 1, 1) := by decide +kernel
theorem d_Le_reduceImage_25 : decode c_Le_reduceImageb 25 = .ok (.iload_n 1, 1) := by decide +kernel
theorem d_Le_reduceImage_26 : decode c_Le_reduceImageb 26 = .ok (.aload_n 0, 1) := by decide +kernel
theorem d_Le_reduceImage_27 : decode c_Le_reduceImageb 27 = .ok (.getfield 56, 3) := by decide +kernel
theorem d_Le_reduceImage_30 : decode c_Le_reduceImageb 30 = .ok (.if_icmp .ge 85, 3) := by decide +kernel
theorem d_Le_reduceImage_33 : decode c_Le_reduceImageb 33 = .ok (.aload_n 0, 1) := by decide +kernel
theorem d_Le_reduceImage_34 : decode c_Le_reduceImageb 34 = .ok (.getfield 36, 3) := by decide +kernel
theorem d_Le_reduceImage_37 : decode c_Le_reduceImageb 37 = .ok (.aload_n 0, 1) := by decide +kernel
theorem d_Le_reduceImage_38 : decode c_Le_reduceImageb 38 = .ok (.getfield 30, 3) := by decide +kernel
theorem d_Le_reduceImage_41 : decode c_Le_reduceImageb 41 = .ok (.iload_n 1, 1) := by decide +kernel
theorem d_Le_reduceImage_42 : decode c_Le_reduceImageb 42 = .ok (.iaload, 1) := by decide +kernel
theorem d_Le_reduceImage_43 : decode c_Le_reduceImageb 43 = .ok (.iaload, 1) := by decide +kernel
theorem d_Le_reduceImage_44 : decode c_Le_reduceImageb 44 = .ok (.istore_n 2, 1) := by decide +kernel
theorem d_Le_reduceImage_45 : decode c_Le_reduceImageb 45 = .ok (.iload_n 2, 1) := by decide +kernel
theorem d_Le_reduceImage_46 : decode c_Le_reduceImageb 46 = .ok (.ifCond .eq 63, 3) := by decide +kernel
theorem d_Le_reduceImage_49 : decode c_Le_reduceImageb 49 = .ok (.aload_n 0, 1) := by decide +kernel
theorem d_Le_reduceImage_50 : decode c_Le_reduceImageb 50 = .ok (.getfield 36, 3) := by decide +kernel
theorem d_Le_reduceImage_53 : decode c_Le_reduceImageb 53 = .ok (.iconst 0, 1) := by decide +kernel
theorem d_Le_reduceImage_54 : decode c_Le_reduceImageb 54 = .ok (.aload_n 0, 1) := by decide +kernel
theorem d_Le_reduceImage_55 : decode c_Le_reduceImageb 55 = .ok (.getfield 24, 3) := by decide +kernel
theorem d_Le_reduceImage_58 : decode c_Le_reduceImageb 58 = .ok (.iload_n 1, 1) := by decide +kernel
theorem d_Le_reduceImage_59 : decode c_Le_reduceImageb 59 = .ok (.bipush 40, 2) := by decide +kernel
theorem d_Le_reduceImage_61 : decode c_Le_reduceImageb 61 = .ok (.imul, 1) := by decide +kernel
theorem d_Le_reduceImage_62 : decode c_Le_reduceImageb 62 = .ok (.aload_n 0, 1) := by decide +kernel
theorem d_Le_reduceImage_63 : decode c_Le_reduceImageb 63 = .ok (.getfield 55, 3) := by decide +kernel
theorem d_Le_reduceImage_66 : decode c_Le_reduceImageb 66 = .ok (.aload_n 0, 1) := by decide +kernel
theorem d_Le_reduceImage_67 : decode c_Le_reduceImageb 67 = .ok (.getfield 51, 3) := by decide +kernel
theorem d_Le_reduceImage_70 : decode c_Le_reduceImageb 70 = .ok (.iload_n 2, 1) := by decide +kernel
theorem d_Le_reduceImage_71 : decode c_Le_reduceImageb 71 = .ok (.isub, 1) := by decide +kernel
theorem d_Le_reduceImage_72 : decode c_Le_reduceImageb 72 = .ok (.aload_n 0, 1) := by decide +kernel
theorem d_Le_reduceImage_73 : decode c_Le_reduceImageb 73 = .ok (.getfield 51, 3) := by decide +kernel
theorem d_Le_reduceImage_76 : decode c_Le_reduceImageb 76 = .ok (.invokestatic 115, 3) := by decide +kernel
theorem d_Le_reduceImage_79 : decode c_Le_reduceImageb 79 = .ok (.aload_n 0, 1) := by decide +kernel
theorem d_Le_reduceImage_80 : decode c_Le_reduceImageb 80 = .ok (.getfield 39, 3) := by decide +kernel
theorem d_Le_reduceImage_83 : decode c_Le_reduceImageb 83 = .ok (.iconst 0, 1) := by decide +kernel
theorem d_Le_reduceImage_84 : decode c_Le_reduceImageb 84 = .ok (.aload_n 0, 1) := by decide +kernel
theorem d_Le_reduceImage_85 : decode c_Le_reduceImageb 85 = .ok (.getfield 27, 3) := by decide +kernel
theorem d_Le_reduceImage_88 : decode c_Le_reduceImageb 88 = .ok (.iload_n 1, 1) := by decide +kernel
theorem d_Le_reduceImage_89 : decode c_Le_reduceImageb 89 = .ok (.bipush 40, 2) := by decide +kernel
theorem d_Le_reduceImage_91 : decode c_Le_reduceImageb 91 = .ok (.imul, 1) := by decide +kernel
theorem d_Le_reduceImage_92 : decode c_Le_reduceImageb 92 = .ok (.aload_n 0, 1) := by decide +kernel
theorem d_Le_reduceImage_93 : decode c_Le_reduceImageb 93 = .ok (.getfield 55, 3) := by decide +kernel
theorem d_Le_reduceImage_96 : decode c_Le_reduceImageb 96 = .ok (.aload_n 0, 1) := by decide +kernel
theorem d_Le_reduceImage_97 : decode c_Le_reduceImageb 97 = .ok (.getfield 51, 3) := by decide +kernel
theorem d_Le_reduceImage_100 : decode c_Le_reduceImageb 100 = .ok (.iload_n 2, 1) := by decide +kernel
theorem d_Le_reduceImage_101 : decode c_Le_reduceImageb 101 = .ok (.isub, 1) := by decide +kernel
theorem d_Le_reduceImage_102 : decode c_Le_reduceImageb 102 = .ok (.aload_n 0, 1) := by decide +kernel
theorem d_Le_reduceImage_103 : decode c_Le_reduceImageb 103 = .ok (.getfield 51, 3) := by decide +kernel
theorem d_Le_reduceImage_106 : decode c_Le_reduceImageb 106 = .ok (.invokestatic 115, 3) := by decide +kernel
theorem d_Le_reduceImage_109 : decode c_Le_reduceImageb 109 = .ok (.iinc 1 1, 3) := by decide +kernel
theorem d_Le_reduceImage_112 : decode c_Le_reduceImageb 112 = .ok (.goto (-87), 3) := by decide +kernel
theorem d_Le_reduceImage_115 : decode c_Le_reduceImageb 115 = .ok (.return_, 1) := by decide +kernel
abbrev ws_reduceImage (a_Le a_Le_steps a_Le_mixes a_Le_pivots a_Le_image a_Le_rest a_Le_mix a_Le_heads a_Le_tails a_Le_standard a_Le_images : Nat) (cI cL cZ : ClassId) (Le_prime Le_size Le_count Le_standardCount : Int32) (Le_steps Le_mixes Le_pivots Le_image Le_rest Le_mix : Nat → Int32) : va_W := [(a_Le, .inr (4, [.int Le_prime, .int Le_size, .int Le_count, .ref a_Le_heads, .ref a_Le_tails, .ref a_Le_standard, .int Le_standardCount, .ref a_Le_images, .ref a_Le_steps, .ref a_Le_mixes, .ref a_Le_pivots, .ref a_Le_image, .ref a_Le_rest, .ref a_Le_mix])), (a_Le_steps, .inl (cI, 1600, .inl Le_steps)), (a_Le_mixes, .inl (cI, 1600, .inl Le_mixes)), (a_Le_pivots, .inl (cI, 40, .inl Le_pivots)), (a_Le_image, .inl (cI, 40, .inl Le_image)), (a_Le_rest, .inl (cI, 40, .inl Le_rest)), (a_Le_mix, .inl (cI, 40, .inl Le_mix))]
abbrev rm_reduceImage : Room := { frames := 1, cells := 0, slots := 0, locals := 64 }
abbrev g_reduceImage (X : gX) (D : va_G) (cI cL cZ : ClassId) (a_Le a_Le_steps a_Le_mixes a_Le_pivots a_Le_image a_Le_rest a_Le_mix a_Le_heads a_Le_tails a_Le_standard a_Le_images : Nat) (A : Nat → Prop) (Le_prime Le_size Le_count Le_standardCount : Int32) (Le_steps Le_mixes Le_pivots Le_image Le_rest_r Le_mix_r : Nat → Int32) (pc : Nat) (lv : List (Nat × Value)) (st : List Value) (Le_rest Le_mix : Nat → Int32) : Prop := ∀ (H : Heap) (locs : List Loc) (ls : Array Slot), va_P D classes (ws_reduceImage a_Le a_Le_steps a_Le_mixes a_Le_pivots a_Le_image a_Le_rest a_Le_mix a_Le_heads a_Le_tails a_Le_standard a_Le_images cI cL cZ Le_prime Le_size Le_count Le_standardCount Le_steps Le_mixes Le_pivots Le_image Le_rest Le_mix) H → va_D A (ws_reduceImage a_Le a_Le_steps a_Le_mixes a_Le_pivots a_Le_image a_Le_rest a_Le_mix a_Le_heads a_Le_tails a_Le_standard a_Le_images cI cL cZ Le_prime Le_size Le_count Le_standardCount Le_steps Le_mixes Le_pivots Le_image Le_rest Le_mix) → va_S A (gs X).heap H locs → lv_has ls 3 lv → gWW X rm_reduceImage H locs 0 0 (MQ (gbl X) (va_Qv (fun _ : Unit => True) (gB D (gT cI cL cZ) A (ws_reduceImage a_Le a_Le_steps a_Le_mixes a_Le_pivots a_Le_image a_Le_rest a_Le_mix a_Le_heads a_Le_tails a_Le_standard a_Le_images cI cL cZ Le_prime Le_size Le_count Le_standardCount Le_steps Le_mixes Le_pivots Le_image Le_rest_r Le_mix_r)) A) (ga X) (gs X) 0 0 A) (F0 (gm X) pc ls st)
set_option maxHeartbeats 4000000 in
set_option maxRecDepth 100000 in
theorem w_reduceImage_25 (X : gX) (D : va_G) (cI cL cZ : ClassId) (a_Le a_Le_steps a_Le_mixes a_Le_pivots a_Le_image a_Le_rest a_Le_mix a_Le_heads a_Le_tails a_Le_standard a_Le_images : Nat) (A : Nat → Prop) (Le_prime Le_size Le_count Le_standardCount : Int32) (Le_steps Le_mixes Le_pivots Le_image Le_rest_r Le_mix_r : Nat → Int32) (F : Nat) (C0 : gC X c_Le_reduceImageb none 3 "RemnantDictionary$Lexicon" gAll) (hK : va_K D classes (gT cI cL cZ) (gs X)) (hA : ∀ q : Nat, (gs X).heap.size ≤ q → A q) (hN : gN (gs X)) (k25 : Int32 → (Nat → Int32) → (Nat → Int32) → Option ((Nat → Int32) × (Nat → Int32))) (hk25 : ∀ (i1 : Int32) (Le_rest Le_mix : Nat → Int32), k25 i1 Le_rest Le_mix = some (Le_rest_r, Le_mix_r) → g_reduceImage X D cI cL cZ a_Le a_Le_steps a_Le_mixes a_Le_pivots a_Le_image a_Le_rest a_Le_mix a_Le_heads a_Le_tails a_Le_standard a_Le_images A Le_prime Le_size Le_count Le_standardCount Le_steps Le_mixes Le_pivots Le_image Le_rest_r Le_mix_r 25 [(0, .ref a_Le), (1, .int i1)] [] Le_rest Le_mix) (i1 : Int32) (Le_rest Le_mix : Nat → Int32) (hrun : s_reduceImage_25 F Le_prime Le_size Le_standardCount Le_steps Le_mixes Le_pivots Le_image k25 i1 Le_rest Le_mix = some (Le_rest_r, Le_mix_r)) : g_reduceImage X D cI cL cZ a_Le a_Le_steps a_Le_mixes a_Le_pivots a_Le_image a_Le_rest a_Le_mix a_Le_heads a_Le_tails a_Le_standard a_Le_images A Le_prime Le_size Le_count Le_standardCount Le_steps Le_mixes Le_pivots Le_image Le_rest_r Le_mix_r 25 [(0, .ref a_Le), (1, .int i1)] [] Le_rest Le_mix := by
  have C1 := C0
  obtain ⟨hx, hb, hr, hml, hown, hts, hlocks⟩ := C1
  unfold s_reduceImage_25 at hrun
  intro H locs ls hP hD hS hl
  refine lv_iload_n hx hb d_Le_reduceImage_25 rfl (lv_at hl 1 rfl) ?_
  refine lv_aload_n hx hb d_Le_reduceImage_26 rfl (lv_at hl 0 rfl) ?_
  refine va_get (D := D) (ci := 4) (v := .int Le_standardCount) (C := "RemnantDictionary$Lexicon") (T := T_Le) (N := 14) hx hb hts iw_Le hown hK hP 0 rfl rfl 6 (by decide) (hts _ k_229) (fun _ h9 => h9) rfl d_Le_reduceImage_27 ?_
  refine g_icmp_ge (tgt := 115) hx hb d_Le_reduceImage_30 (by decide) hrun (fun _ hrun => ?_) (fun _ hrun => ?_)
  · cases hrun
    exact W.vret hx hb hr (fun t ht hW => ⟨⟨(), rfl, trivial, gB_of ht hW.alike hP hK hD⟩, hS.F ht⟩) hS.2.2 d_Le_reduceImage_115
  · refine lv_aload_n hx hb d_Le_reduceImage_33 rfl (lv_at hl 0 rfl) ?_
    refine va_get (D := D) (ci := 4) (v := .ref a_Le_rest) (C := "RemnantDictionary$Lexicon") (T := T_Le) (N := 14) hx hb hts iw_Le hown hK hP 0 rfl rfl 12 (by decide) (hts _ k_235) (fun _ h9 => h9) rfl d_Le_reduceImage_34 ?_
    refine lv_aload_n hx hb d_Le_reduceImage_37 rfl (lv_at hl 0 rfl) ?_
    refine va_get (D := D) (ci := 4) (v := .ref a_Le_pivots) (C := "RemnantDictionary$Lexicon") (T := T_Le) (N := 14) hx hb hts iw_Le hown hK hP 0 rfl rfl 10 (by decide) (hts _ k_236) (fun _ h9 => h9) rfl d_Le_reduceImage_38 ?_
    refine lv_iload_n hx hb d_Le_reduceImage_41 rfl (lv_at hl 1 rfl) ?_
    refine g_iald hx hb hK hP 3 0 rfl rfl hrun d_Le_reduceImage_42 (fun x_1 hrun => ?_)
    refine g_iald hx hb hK hP 5 0 rfl rfl hrun d_Le_reduceImage_43 (fun x_2 hrun => ?_)
    refine lv_istore_n (lv' := [(2, .int x_2), (0, .ref a_Le), (1, .int i1)]) hx hb d_Le_reduceImage_44 rfl hl (by decide) rfl (fun ls hl => ?_)
    refine lv_iload_n hx hb d_Le_reduceImage_45 rfl (lv_at hl 0 rfl) ?_
    refine g_if_eq (tgt := 109) hx hb d_Le_reduceImage_46 (by decide) hrun (fun _ hrun => ?_) (fun _ hrun => ?_)
    · refine lv_iinc (v := (i1 + 1)) (lv' := [(1, .int (i1 + 1)), (2, .int x_2), (0, .ref a_Le)]) hx hb d_Le_reduceImage_109 hl (k := 2) rfl rfl (by decide) rfl (fun ls hl => ?_)
      refine lv_goto (tgt := 25) hx hb d_Le_reduceImage_112 (by decide) ?_
      exact hk25 (i1 + 1) Le_rest Le_mix hrun H locs ls hP hD hS (lv_sub hl [2, 0] rfl)
    · refine lv_aload_n hx hb d_Le_reduceImage_49 rfl (lv_at hl 1 rfl) ?_
      refine va_get (D := D) (ci := 4) (v := .ref a_Le_rest) (C := "RemnantDictionary$Lexicon") (T := T_Le) (N := 14) hx hb hts iw_Le hown hK hP 0 rfl rfl 12 (by decide) (hts _ k_235) (fun _ h9 => h9) rfl d_Le_reduceImage_50 ?_
      refine lv_iconst (v := 0) hx hb d_Le_reduceImage_53 (by decide) ?_
      refine lv_aload_n hx hb d_Le_reduceImage_54 rfl (lv_at hl 1 rfl) ?_
      refine va_get (D := D) (ci := 4) (v := .ref a_Le_steps) (C := "RemnantDictionary$Lexicon") (T := T_Le) (N := 14) hx hb hts iw_Le hown hK hP 0 rfl rfl 8 (by decide) (hts _ k_237) (fun _ h9 => h9) rfl d_Le_reduceImage_55 ?_
      refine lv_iload_n hx hb d_Le_reduceImage_58 rfl (lv_at hl 2 rfl) ?_
      refine lv_bipush (v := 40) hx hb d_Le_reduceImage_59 (by decide) ?_
      refine lv_imul hx hb d_Le_reduceImage_61 ?_
      refine lv_aload_n hx hb d_Le_reduceImage_62 rfl (lv_at hl 1 rfl) ?_
      refine va_get (D := D) (ci := 4) (v := .int Le_size) (C := "RemnantDictionary$Lexicon") (T := T_Le) (N := 14) hx hb hts iw_Le hown hK hP 0 rfl rfl 1 (by decide) (hts _ k_238) (fun _ h9 => h9) rfl d_Le_reduceImage_63 ?_
      refine lv_aload_n hx hb d_Le_reduceImage_66 rfl (lv_at hl 1 rfl) ?_
      refine va_get (D := D) (ci := 4) (v := .int Le_prime) (C := "RemnantDictionary$Lexicon") (T := T_Le) (N := 14) hx hb hts iw_Le hown hK hP 0 rfl rfl 0 (by decide) (hts _ k_239) (fun _ h9 => h9) rfl d_Le_reduceImage_67 ?_
      refine lv_iload_n hx hb d_Le_reduceImage_70 rfl (lv_at hl 0 rfl) ?_
      refine lv_isub hx hb d_Le_reduceImage_71 ?_
      refine lv_aload_n hx hb d_Le_reduceImage_72 rfl (lv_at hl 1 rfl) ?_
      refine va_get (D := D) (ci := 4) (v := .int Le_prime) (C := "RemnantDictionary$Lexicon") (T := T_Le) (N := 14) hx hb hts iw_Le hown hK hP 0 rfl rfl 0 (by decide) (hts _ k_239) (fun _ h9 => h9) rfl d_Le_reduceImage_73 ?_
      obtain ⟨Le_rest_3, hc, hrun⟩ := bd1_s hrun
      have hFc := va_free (wc := (ws_addMultiple a_Le_rest a_Le_steps cI cL cZ 40 1600 Le_rest Le_steps)) hD hS hA [5, 1] rfl
      refine va_callv (va_runSN (As := [.ref a_Le_rest, .int 0, .ref a_Le_steps, .int (i1 * 40), .int Le_size, .int (Le_prime - x_2), .int Le_prime]) (rest := []) ⟨hx, hb, hml, hown, hts⟩ (c_addMultiple (gl X) D cI cL cZ a_Le_rest a_Le_steps F 40 1600 Le_rest Le_steps 0 (i1 * 40) Le_size (Le_prime - x_2) Le_prime H.size Le_rest_3 hc) (⟨va_cnB 7 hts (gwN k_9) rfl rfl rfl (hN.1 _ (List.mem_of_getElem? (i := 16) rfl)) (hts _ k_14) (by decide +kernel) ⟨Nat.le_of_ble_eq_true rfl, Nat.le_of_ble_eq_true rfl⟩, hts _ k_86, trivial⟩) (gpreSW (hP.sub (ws' := (ws_addMultiple a_Le_rest a_Le_steps cI cL cZ 40 1600 Le_rest Le_steps)) [5, 1] rfl) hK hN (hD.sub (ws' := (ws_addMultiple a_Le_rest a_Le_steps cI cL cZ 40 1600 Le_rest Le_steps)) [5, 1] (by decide) rfl)) rfl rfl hl.1 rfl (lv_room (Nat.le_of_ble_eq_true rfl)) d_Le_reduceImage_76 ⟨Nat.le_of_ble_eq_true rfl, Nat.le_of_ble_eq_true rfl⟩) hS (fun q _ h => hFc q h) hFc (fun _ t H_4 locs ht hvm hw hB hz1 hk1 hS => ?_)
      obtain ⟨hP, hD⟩ := va_join (wr := [(a_Le, .inr (4, [.int Le_prime, .int Le_size, .int Le_count, .ref a_Le_heads, .ref a_Le_tails, .ref a_Le_standard, .int Le_standardCount, .ref a_Le_images, .ref a_Le_steps, .ref a_Le_mixes, .ref a_Le_pivots, .ref a_Le_image, .ref a_Le_rest, .ref a_Le_mix])), (a_Le_mixes, .inl (cI, 1600, .inl Le_mixes)), (a_Le_pivots, .inl (cI, 40, .inl Le_pivots)), (a_Le_image, .inl (cI, 40, .inl Le_image)), (a_Le_mix, .inl (cI, 40, .inl Le_mix))]) (w1 := (ws_addMultiple a_Le_rest a_Le_steps cI cL cZ 40 1600 Le_rest_3 Le_steps)) hP hD [5, 1] [0, 2, 3, 4, 6] rfl rfl (by decide) (by decide) hk1 hFc (by have h9 := hB.1; rw [ht] at h9; exact h9) hB.2.2
      have hP : va_P D classes (ws_reduceImage a_Le a_Le_steps a_Le_mixes a_Le_pivots a_Le_image a_Le_rest a_Le_mix a_Le_heads a_Le_tails a_Le_standard a_Le_images cI cL cZ Le_prime Le_size Le_count Le_standardCount Le_steps Le_mixes Le_pivots Le_image Le_rest_3 Le_mix) H_4 := hP.sub [0, 6, 1, 2, 3, 5, 4] rfl
      have hD : va_D A (ws_reduceImage a_Le a_Le_steps a_Le_mixes a_Le_pivots a_Le_image a_Le_rest a_Le_mix a_Le_heads a_Le_tails a_Le_standard a_Le_images cI cL cZ Le_prime Le_size Le_count Le_standardCount Le_steps Le_mixes Le_pivots Le_image Le_rest_3 Le_mix) := hD.sub [0, 6, 1, 2, 3, 5, 4] (by decide) rfl
      refine lv_aload_n hx hb d_Le_reduceImage_79 rfl (lv_at hl 1 rfl) ?_
      refine va_get (D := D) (ci := 4) (v := .ref a_Le_mix) (C := "RemnantDictionary$Lexicon") (T := T_Le) (N := 14) hx hb hts iw_Le hown hK hP 0 rfl rfl 13 (by decide) (hts _ k_240) (fun _ h9 => h9) rfl d_Le_reduceImage_80 ?_
      refine lv_iconst (v := 0) hx hb d_Le_reduceImage_83 (by decide) ?_
      refine lv_aload_n hx hb d_Le_reduceImage_84 rfl (lv_at hl 1 rfl) ?_
      refine va_get (D := D) (ci := 4) (v := .ref a_Le_mixes) (C := "RemnantDictionary$Lexicon") (T := T_Le) (N := 14) hx hb hts iw_Le hown hK hP 0 rfl rfl 9 (by decide) (hts _ k_241) (fun _ h9 => h9) rfl d_Le_reduceImage_85 ?_
      refine lv_iload_n hx hb d_Le_reduceImage_88 rfl (lv_at hl 2 rfl) ?_
      refine lv_bipush (v := 40) hx hb d_Le_reduceImage_89 (by decide) ?_
      refine lv_imul hx hb d_Le_reduceImage_91 ?_
      refine lv_aload_n hx hb d_Le_reduceImage_92 rfl (lv_at hl 1 rfl) ?_
      refine va_get (D := D) (ci := 4) (v := .int Le_size) (C := "RemnantDictionary$Lexicon") (T := T_Le) (N := 14) hx hb hts iw_Le hown hK hP 0 rfl rfl 1 (by decide) (hts _ k_238) (fun _ h9 => h9) rfl d_Le_reduceImage_93 ?_
      refine lv_aload_n hx hb d_Le_reduceImage_96 rfl (lv_at hl 1 rfl) ?_
      refine va_get (D := D) (ci := 4) (v := .int Le_prime) (C := "RemnantDictionary$Lexicon") (T := T_Le) (N := 14) hx hb hts iw_Le hown hK hP 0 rfl rfl 0 (by decide) (hts _ k_239) (fun _ h9 => h9) rfl d_Le_reduceImage_97 ?_
      refine lv_iload_n hx hb d_Le_reduceImage_100 rfl (lv_at hl 0 rfl) ?_
      refine lv_isub hx hb d_Le_reduceImage_101 ?_
      refine lv_aload_n hx hb d_Le_reduceImage_102 rfl (lv_at hl 1 rfl) ?_
      refine va_get (D := D) (ci := 4) (v := .int Le_prime) (C := "RemnantDictionary$Lexicon") (T := T_Le) (N := 14) hx hb hts iw_Le hown hK hP 0 rfl rfl 0 (by decide) (hts _ k_239) (fun _ h9 => h9) rfl d_Le_reduceImage_103 ?_
      obtain ⟨Le_mix_5, hc, hrun⟩ := bd1_s hrun
      have hFc := va_free (wc := (ws_addMultiple a_Le_mix a_Le_mixes cI cL cZ 40 1600 Le_mix Le_mixes)) hD hS hA [6, 2] rfl
      refine va_callv (va_runSN (As := [.ref a_Le_mix, .int 0, .ref a_Le_mixes, .int (i1 * 40), .int Le_size, .int (Le_prime - x_2), .int Le_prime]) (rest := []) ⟨hx, hb, hml, hown, hts⟩ (c_addMultiple (gl X) D cI cL cZ a_Le_mix a_Le_mixes F 40 1600 Le_mix Le_mixes 0 (i1 * 40) Le_size (Le_prime - x_2) Le_prime H_4.size Le_mix_5 hc) (⟨va_cnB 7 hts (gwN k_9) rfl rfl rfl (hN.1 _ (List.mem_of_getElem? (i := 16) rfl)) (hts _ k_14) (by decide +kernel) ⟨Nat.le_of_ble_eq_true rfl, Nat.le_of_ble_eq_true rfl⟩, hts _ k_86, trivial⟩) (gpreSW (hP.sub (ws' := (ws_addMultiple a_Le_mix a_Le_mixes cI cL cZ 40 1600 Le_mix Le_mixes)) [6, 2] rfl) hK hN (hD.sub (ws' := (ws_addMultiple a_Le_mix a_Le_mixes cI cL cZ 40 1600 Le_mix Le_mixes)) [6, 2] (by decide) rfl)) rfl rfl hl.1 rfl (lv_room (Nat.le_of_ble_eq_true rfl)) d_Le_reduceImage_106 ⟨Nat.le_of_ble_eq_true rfl, Nat.le_of_ble_eq_true rfl⟩) hS (fun q _ h => hFc q h) hFc (fun _ t H_6 locs ht hvm hw hB hz1 hk1 hS => ?_)
      obtain ⟨hP, hD⟩ := va_join (wr := [(a_Le, .inr (4, [.int Le_prime, .int Le_size, .int Le_count, .ref a_Le_heads, .ref a_Le_tails, .ref a_Le_standard, .int Le_standardCount, .ref a_Le_images, .ref a_Le_steps, .ref a_Le_mixes, .ref a_Le_pivots, .ref a_Le_image, .ref a_Le_rest, .ref a_Le_mix])), (a_Le_steps, .inl (cI, 1600, .inl Le_steps)), (a_Le_pivots, .inl (cI, 40, .inl Le_pivots)), (a_Le_image, .inl (cI, 40, .inl Le_image)), (a_Le_rest, .inl (cI, 40, .inl Le_rest_3))]) (w1 := (ws_addMultiple a_Le_mix a_Le_mixes cI cL cZ 40 1600 Le_mix_5 Le_mixes)) hP hD [6, 2] [0, 1, 3, 4, 5] rfl rfl (by decide) (by decide) hk1 hFc (by have h9 := hB.1; rw [ht] at h9; exact h9) hB.2.2
      have hP : va_P D classes (ws_reduceImage a_Le a_Le_steps a_Le_mixes a_Le_pivots a_Le_image a_Le_rest a_Le_mix a_Le_heads a_Le_tails a_Le_standard a_Le_images cI cL cZ Le_prime Le_size Le_count Le_standardCount Le_steps Le_mixes Le_pivots Le_image Le_rest_3 Le_mix_5) H_6 := hP.sub [0, 1, 6, 2, 3, 4, 5] rfl
      have hD : va_D A (ws_reduceImage a_Le a_Le_steps a_Le_mixes a_Le_pivots a_Le_image a_Le_rest a_Le_mix a_Le_heads a_Le_tails a_Le_standard a_Le_images cI cL cZ Le_prime Le_size Le_count Le_standardCount Le_steps Le_mixes Le_pivots Le_image Le_rest_3 Le_mix_5) := hD.sub [0, 1, 6, 2, 3, 4, 5] (by decide) rfl
      refine lv_iinc (v := (i1 + 1)) (lv' := [(1, .int (i1 + 1)), (2, .int x_2), (0, .ref a_Le)]) hx hb d_Le_reduceImage_109 hl (k := 2) rfl rfl (by decide) rfl (fun ls hl => ?_)
      refine lv_goto (tgt := 25) hx hb d_Le_reduceImage_112 (by decide) ?_
      exact hk25 (i1 + 1) Le_rest_3 Le_mix_5 hrun H_6 locs ls hP hD hS (lv_sub hl [2, 0] rfl)
theorem v_reduceImage_25 (X : gX) (D : va_G) (cI cL cZ : ClassId) (a_Le a_Le_steps a_Le_mixes a_Le_pivots a_Le_image a_Le_rest a_Le_mix a_Le_heads a_Le_tails a_Le_standard a_Le_images : Nat) (A : Nat → Prop) (Le_prime Le_size Le_count Le_standardCount : Int32) (Le_steps Le_mixes Le_pivots Le_image Le_rest_r Le_mix_r : Nat → Int32) (F : Nat) (C0 : gC X c_Le_reduceImageb none 3 "RemnantDictionary$Lexicon" gAll) (hK : va_K D classes (gT cI cL cZ) (gs X)) (hA : ∀ q : Nat, (gs X).heap.size ≤ q → A q) (hN : gN (gs X))  : ∀ (n : Nat) (i1 : Int32) (Le_rest Le_mix : Nat → Int32), b_reduceImage_25 F Le_prime Le_size Le_standardCount Le_steps Le_mixes Le_pivots Le_image n i1 Le_rest Le_mix = some (Le_rest_r, Le_mix_r) → g_reduceImage X D cI cL cZ a_Le a_Le_steps a_Le_mixes a_Le_pivots a_Le_image a_Le_rest a_Le_mix a_Le_heads a_Le_tails a_Le_standard a_Le_images A Le_prime Le_size Le_count Le_standardCount Le_steps Le_mixes Le_pivots Le_image Le_rest_r Le_mix_r 25 [(0, .ref a_Le), (1, .int i1)] [] Le_rest Le_mix := by
  intro n
  induction n with
  | zero => intro i1 Le_rest Le_mix hrun; cases hrun
  | succ n ih =>
    intro i1 Le_rest Le_mix hrun
    exact w_reduceImage_25 X D cI cL cZ a_Le a_Le_steps a_Le_mixes a_Le_pivots a_Le_image a_Le_rest a_Le_mix a_Le_heads a_Le_tails a_Le_standard a_Le_images A Le_prime Le_size Le_count Le_standardCount Le_steps Le_mixes Le_pivots Le_image Le_rest_r Le_mix_r F C0 hK hA hN (b_reduceImage_25 F Le_prime Le_size Le_standardCount Le_steps Le_mixes Le_pivots Le_image n) ih i1 Le_rest Le_mix hrun
set_option maxHeartbeats 4000000 in
set_option maxRecDepth 100000 in
theorem e_reduceImage (X : gX) (D : va_G) (cI cL cZ : ClassId) (a_Le a_Le_steps a_Le_mixes a_Le_pivots a_Le_image a_Le_rest a_Le_mix a_Le_heads a_Le_tails a_Le_standard a_Le_images : Nat) (A : Nat → Prop) (Le_prime Le_size Le_count Le_standardCount : Int32) (Le_steps Le_mixes Le_pivots Le_image Le_rest_r Le_mix_r : Nat → Int32) (F : Nat) (C0 : gC X c_Le_reduceImageb none 3 "RemnantDictionary$Lexicon" gAll) (hK : va_K D classes (gT cI cL cZ) (gs X)) (hA : ∀ q : Nat, (gs X).heap.size ≤ q → A q) (hN : gN (gs X)) (Le_rest Le_mix : Nat → Int32) (hrun : m_reduceImage F Le_prime Le_size Le_standardCount Le_steps Le_mixes Le_pivots Le_image Le_rest Le_mix = some (Le_rest_r, Le_mix_r)) : g_reduceImage X D cI cL cZ a_Le a_Le_steps a_Le_mixes a_Le_pivots a_Le_image a_Le_rest a_Le_mix a_Le_heads a_Le_tails a_Le_standard a_Le_images A Le_prime Le_size Le_count Le_standardCount Le_steps Le_mixes Le_pivots Le_image Le_rest_r Le_mix_r 0 [(0, .ref a_Le)] [] Le_rest Le_mix := by
  have C1 := C0
  obtain ⟨hx, hb, hr, hml, hown, hts, hlocks⟩ := C1
  unfold m_reduceImage at hrun
  intro H locs ls hP hD hS hl
  refine lv_aload_n hx hb d_Le_reduceImage_0 rfl (lv_at hl 0 rfl) ?_
  refine va_get (D := D) (ci := 4) (v := .ref a_Le_image) (C := "RemnantDictionary$Lexicon") (T := T_Le) (N := 14) hx hb hts iw_Le hown hK hP 0 rfl rfl 11 (by decide) (hts _ k_243) (fun _ h9 => h9) rfl d_Le_reduceImage_1 ?_
  refine lv_iconst (v := 0) hx hb d_Le_reduceImage_4 (by decide) ?_
  refine lv_aload_n hx hb d_Le_reduceImage_5 rfl (lv_at hl 0 rfl) ?_
  refine va_get (D := D) (ci := 4) (v := .ref a_Le_rest) (C := "RemnantDictionary$Lexicon") (T := T_Le) (N := 14) hx hb hts iw_Le hown hK hP 0 rfl rfl 12 (by decide) (hts _ k_235) (fun _ h9 => h9) rfl d_Le_reduceImage_6 ?_
  refine lv_iconst (v := 0) hx hb d_Le_reduceImage_9 (by decide) ?_
  refine lv_bipush (v := 40) hx hb d_Le_reduceImage_10 (by decide) ?_
  refine g_copy hx hb (hml.trans hl.1.symm) hown (hts _ k_244) (hts _ k_106) (hts _ k_107) (hts _ k_108) hK hP hD hS 4 5 0 rfl rfl rfl rfl hrun (Nat.le_of_ble_eq_true rfl) (by decide) d_Le_reduceImage_12 (fun Le_rest_1 hrun H locs (hP : va_P D classes (ws_reduceImage a_Le a_Le_steps a_Le_mixes a_Le_pivots a_Le_image a_Le_rest a_Le_mix a_Le_heads a_Le_tails a_Le_standard a_Le_images cI cL cZ Le_prime Le_size Le_count Le_standardCount Le_steps Le_mixes Le_pivots Le_image Le_rest_1 Le_mix) H) (hD : va_D A (ws_reduceImage a_Le a_Le_steps a_Le_mixes a_Le_pivots a_Le_image a_Le_rest a_Le_mix a_Le_heads a_Le_tails a_Le_standard a_Le_images cI cL cZ Le_prime Le_size Le_count Le_standardCount Le_steps Le_mixes Le_pivots Le_image Le_rest_1 Le_mix)) hS => ?_)
  refine lv_aload_n hx hb d_Le_reduceImage_15 rfl (lv_at hl 0 rfl) ?_
  refine va_get (D := D) (ci := 4) (v := .ref a_Le_mix) (C := "RemnantDictionary$Lexicon") (T := T_Le) (N := 14) hx hb hts iw_Le hown hK hP 0 rfl rfl 13 (by decide) (hts _ k_240) (fun _ h9 => h9) rfl d_Le_reduceImage_16 ?_
  refine lv_iconst (v := 0) hx hb d_Le_reduceImage_19 (by decide) ?_
  obtain ⟨Le_mix_2, hc, hrun⟩ := bd1_s hrun
  have hFc := va_free (wc := (ws_fill a_Le_mix cI cL cZ 40 Le_mix)) hD hS hA [6] rfl
  refine va_callv (va_runS (As := [.ref a_Le_mix, .int 0]) (rest := []) ⟨hx, hb, hml, hown, hts⟩ (c_fill (gl X) D cI cL cZ a_Le_mix F 40 Le_mix 0 H.size Le_mix_2 hc) (va_cwS 2 hts (gwS k_245 k_98 k_4 k_1) rfl rfl rfl (by decide +kernel) ⟨Nat.le_of_ble_eq_true rfl, Nat.le_of_ble_eq_true rfl⟩) (gpreSW (hP.sub (ws' := (ws_fill a_Le_mix cI cL cZ 40 Le_mix)) [6] rfl) hK hN (hD.sub (ws' := (ws_fill a_Le_mix cI cL cZ 40 Le_mix)) [6] (by decide) rfl)) rfl rfl hl.1 rfl (lv_room (Nat.le_of_ble_eq_true rfl)) d_Le_reduceImage_20 ⟨Nat.le_of_ble_eq_true rfl, Nat.le_of_ble_eq_true rfl⟩) hS (fun q _ h => hFc q h) hFc (fun _ t H_3 locs ht hvm hw hB hz1 hk1 hS => ?_)
  obtain ⟨hP, hD⟩ := va_join (wr := [(a_Le, .inr (4, [.int Le_prime, .int Le_size, .int Le_count, .ref a_Le_heads, .ref a_Le_tails, .ref a_Le_standard, .int Le_standardCount, .ref a_Le_images, .ref a_Le_steps, .ref a_Le_mixes, .ref a_Le_pivots, .ref a_Le_image, .ref a_Le_rest, .ref a_Le_mix])), (a_Le_steps, .inl (cI, 1600, .inl Le_steps)), (a_Le_mixes, .inl (cI, 1600, .inl Le_mixes)), (a_Le_pivots, .inl (cI, 40, .inl Le_pivots)), (a_Le_image, .inl (cI, 40, .inl Le_image)), (a_Le_rest, .inl (cI, 40, .inl Le_rest_1))]) (w1 := (ws_fill a_Le_mix cI cL cZ 40 Le_mix_2)) hP hD [6] [0, 1, 2, 3, 4, 5] rfl rfl (by decide) (by decide) hk1 hFc (by have h9 := hB.1; rw [ht] at h9; exact h9) hB.2.2
  have hP : va_P D classes (ws_reduceImage a_Le a_Le_steps a_Le_mixes a_Le_pivots a_Le_image a_Le_rest a_Le_mix a_Le_heads a_Le_tails a_Le_standard a_Le_images cI cL cZ Le_prime Le_size Le_count Le_standardCount Le_steps Le_mixes Le_pivots Le_image Le_rest_1 Le_mix_2) H_3 := hP.sub [0, 1, 2, 3, 4, 5, 6] rfl
  have hD : va_D A (ws_reduceImage a_Le a_Le_steps a_Le_mixes a_Le_pivots a_Le_image a_Le_rest a_Le_mix a_Le_heads a_Le_tails a_Le_standard a_Le_images cI cL cZ Le_prime Le_size Le_count Le_standardCount Le_steps Le_mixes Le_pivots Le_image Le_rest_1 Le_mix_2) := hD.sub [0, 1, 2, 3, 4, 5, 6] (by decide) rfl
  refine lv_iconst (v := 0) hx hb d_Le_reduceImage_23 (by decide) ?_
  refine lv_istore_n (lv' := [(1, .int 0), (0, .ref a_Le)]) hx hb d_Le_reduceImage_24 rfl hl (by decide) rfl (fun ls hl => ?_)
  exact v_reduceImage_25 X D cI cL cZ a_Le a_Le_steps a_Le_mixes a_Le_pivots a_Le_image a_Le_rest a_Le_mix a_Le_heads a_Le_tails a_Le_standard a_Le_images A Le_prime Le_size Le_count Le_standardCount Le_steps Le_mixes Le_pivots Le_image Le_rest_r Le_mix_r F C0 hK hA hN  F 0 Le_rest_1 Le_mix_2 hrun H_3 locs ls hP hD hS (lv_sub hl [1, 0] rfl)
set_option maxHeartbeats 4000000 in
set_option maxRecDepth 100000 in
theorem c_reduceImage (l : Launch) (D : va_G) (cI cL cZ : ClassId) (a_Le a_Le_steps a_Le_mixes a_Le_pivots a_Le_image a_Le_rest a_Le_mix a_Le_heads a_Le_tails a_Le_standard a_Le_images : Nat) (F : Nat) (Le_prime Le_size Le_count Le_standardCount : Int32) (Le_steps Le_mixes Le_pivots Le_image Le_rest Le_mix : Nat → Int32) (sz : Nat) (Le_rest_r Le_mix_r : Nat → Int32) (hrun : m_reduceImage F Le_prime Le_size Le_standardCount Le_steps Le_mixes Le_pivots Le_image Le_rest Le_mix = some (Le_rest_r, Le_mix_r)) : Met l y_Le_reduceImage (.code y_Le_reduceImage c_Le_reduceImageb 3 none :: gAll) rm_reduceImage (va_Pc [.ref a_Le] (gPW D (gT cI cL cZ) (ws_reduceImage a_Le a_Le_steps a_Le_mixes a_Le_pivots a_Le_image a_Le_rest a_Le_mix a_Le_heads a_Le_tails a_Le_standard a_Le_images cI cL cZ Le_prime Le_size Le_count Le_standardCount Le_steps Le_mixes Le_pivots Le_image Le_rest Le_mix) sz)) (va_Qv (fun _ : Unit => True) (gB D (gT cI cL cZ) (va_A (ws_reduceImage a_Le a_Le_steps a_Le_mixes a_Le_pivots a_Le_image a_Le_rest a_Le_mix a_Le_heads a_Le_tails a_Le_standard a_Le_images cI cL cZ Le_prime Le_size Le_count Le_standardCount Le_steps Le_mixes Le_pivots Le_image Le_rest Le_mix) sz) (ws_reduceImage a_Le a_Le_steps a_Le_mixes a_Le_pivots a_Le_image a_Le_rest a_Le_mix a_Le_heads a_Le_tails a_Le_standard a_Le_images cI cL cZ Le_prime Le_size Le_count Le_standardCount Le_steps Le_mixes Le_pivots Le_image Le_rest_r Le_mix_r)) (va_A (ws_reduceImage a_Le a_Le_steps a_Le_mixes a_Le_pivots a_Le_image a_Le_rest a_Le_mix a_Le_heads a_Le_tails a_Le_standard a_Le_images cI cL cZ Le_prime Le_size Le_count Le_standardCount Le_steps Le_mixes Le_pivots Le_image Le_rest Le_mix) sz)) 0 0 (va_A (ws_reduceImage a_Le a_Le_steps a_Le_mixes a_Le_pivots a_Le_image a_Le_rest a_Le_mix a_Le_heads a_Le_tails a_Le_standard a_Le_images cI cL cZ Le_prime Le_size Le_count Le_standardCount Le_steps Le_mixes Le_pivots Le_image Le_rest Le_mix) sz) := by
  refine Met.ofW (cc := c_Le_reduceImageb) (maxL := 3) (ret := none) (by decide +kernel) rfl ?_
  intro p e s m args below meth c s₁ B hml hv
  obtain ⟨rfl, hsz, hP, hK, hN, hD0⟩ := hv
  subst hsz
  have hD := hD0.self (sz := s.heap.size)
  have hl := lv_entry ([.ref a_Le]) (n := 3) (Nat.le_of_ble_eq_true rfl)
  rw [lg_entry_eq]
  generalize (lg_sl ([.ref a_Le]) ++ List.replicate (3 - (lg_sl ([.ref a_Le])).length) Slot.unset).toArray = ls at hl ⊢
  exact e_reduceImage (p, l, e, s, m, ([.ref a_Le] : List Value).toArray, below, meth, c) D cI cL cZ a_Le a_Le_steps a_Le_mixes a_Le_pivots a_Le_image a_Le_rest a_Le_mix a_Le_heads a_Le_tails a_Le_standard a_Le_images (va_A (ws_reduceImage a_Le a_Le_steps a_Le_mixes a_Le_pivots a_Le_image a_Le_rest a_Le_mix a_Le_heads a_Le_tails a_Le_standard a_Le_images cI cL cZ Le_prime Le_size Le_count Le_standardCount Le_steps Le_mixes Le_pivots Le_image Le_rest Le_mix) s.heap.size) Le_prime Le_size Le_count Le_standardCount Le_steps Le_mixes Le_pivots Le_image Le_rest_r Le_mix_r F ⟨B.exec, B.bytes, B.returns, hml, findClass_of_methodNamed B.named, fun w h => atoms_spec (ws := (.code y_Le_reduceImage c_Le_reduceImageb 3 none :: gAll)) B.pre w (List.mem_cons_of_mem _ h), B.notSynchronized⟩ hK (fun q h => Or.inr h) hN Le_rest Le_mix hrun s.heap [] ls hP hD va_S.rf hl
theorem d_Le_addPolynomial_0 : decode c_Le_addPolynomialb 0 = .ok (.aload_n 0, 1) := by decide +kernel
theorem d_Le_addPolynomial_1 : decode c_Le_addPolynomialb 1 = .ok (.getfield 42, 3) := by decide +kernel
theorem d_Le_addPolynomial_4 : decode c_Le_addPolynomialb 4 = .ok (.sipush 160, 3) := by decide +kernel
theorem d_Le_addPolynomial_7 : decode c_Le_addPolynomialb 7 = .ok (.if_icmp .ge 44, 3) := by decide +kernel
theorem d_Le_addPolynomial_10 : decode c_Le_addPolynomialb 10 = .ok (.aload_n 0, 1) := by decide +kernel
theorem d_Le_addPolynomial_11 : decode c_Le_addPolynomialb 11 = .ok (.getfield 9, 3) := by decide +kernel
theorem d_Le_addPolynomial_14 : decode c_Le_addPolynomialb 14 = .ok (.aload_n 0, 1) := by decide +kernel
theorem d_Le_addPolynomial_15 : decode c_Le_addPolynomialb 15 = .ok (.getfield 42, 3) := by decide +kernel
theorem d_Le_addPolynomial_18 : decode c_Le_addPolynomialb 18 = .ok (.iload_n 1, 1) := by decide +kernel
theorem d_Le_addPolynomial_19 : decode c_Le_addPolynomialb 19 = .ok (.iastore, 1) := by decide +kernel
theorem d_Le_addPolynomial_20 : decode c_Le_addPolynomialb 20 = .ok (.aload_n 0, 1) := by decide +kernel
theorem d_Le_addPolynomial_21 : decode c_Le_addPolynomialb 21 = .ok (.getfield 39, 3) := by decide +kernel
theorem d_Le_addPolynomial_24 : decode c_Le_addPolynomialb 24 = .ok (.iconst 0, 1) := by decide +kernel
theorem d_Le_addPolynomial_25 : decode c_Le_addPolynomialb 25 = .ok (.aload_n 0, 1) := by decide +kernel
theorem d_Le_addPolynomial_26 : decode c_Le_addPolynomialb 26 = .ok (.getfield 15, 3) := by decide +kernel
theorem d_Le_addPolynomial_29 : decode c_Le_addPolynomialb 29 = .ok (.aload_n 0, 1) := by decide +kernel
theorem d_Le_addPolynomial_30 : decode c_Le_addPolynomialb 30 = .ok (.getfield 42, 3) := by decide +kernel
theorem d_Le_addPolynomial_33 : decode c_Le_addPolynomialb 33 = .ok (.bipush 40, 2) := by decide +kernel
theorem d_Le_addPolynomial_35 : decode c_Le_addPolynomialb 35 = .ok (.imul, 1) := by decide +kernel
theorem d_Le_addPolynomial_36 : decode c_Le_addPolynomialb 36 = .ok (.bipush 40, 2) := by decide +kernel
theorem d_Le_addPolynomial_38 : decode c_Le_addPolynomialb 38 = .ok (.invokestatic 109, 3) := by decide +kernel
theorem d_Le_addPolynomial_41 : decode c_Le_addPolynomialb 41 = .ok (.aload_n 0, 1) := by decide +kernel
theorem d_Le_addPolynomial_42 : decode c_Le_addPolynomialb 42 = .ok (.dup, 1) := by decide +kernel
theorem d_Le_addPolynomial_43 : decode c_Le_addPolynomialb 43 = .ok (.getfield 42, 3) := by decide +kernel
theorem d_Le_addPolynomial_46 : decode c_Le_addPolynomialb 46 = .ok (.iconst 1, 1) := by decide +kernel
theorem d_Le_addPolynomial_47 : decode c_Le_addPolynomialb 47 = .ok (.iadd, 1) := by decide +kernel
theorem d_Le_addPolynomial_48 : decode c_Le_addPolynomialb 48 = .ok (.putfield 42, 3) := by decide +kernel
theorem d_Le_addPolynomial_51 : decode c_Le_addPolynomialb 51 = .ok (.return_, 1) := by decide +kernel
abbrev ws_addPolynomial (a_Le a_Le_heads a_Le_tails a_Le_mix a_Le_standard a_Le_images a_Le_steps a_Le_mixes a_Le_pivots a_Le_image a_Le_rest : Nat) (cI cL cZ : ClassId) (Le_prime Le_size Le_count Le_standardCount : Int32) (Le_heads Le_tails Le_mix : Nat → Int32) : va_W := [(a_Le, .inr (4, [.int Le_prime, .int Le_size, .int Le_count, .ref a_Le_heads, .ref a_Le_tails, .ref a_Le_standard, .int Le_standardCount, .ref a_Le_images, .ref a_Le_steps, .ref a_Le_mixes, .ref a_Le_pivots, .ref a_Le_image, .ref a_Le_rest, .ref a_Le_mix])), (a_Le_heads, .inl (cI, 160, .inl Le_heads)), (a_Le_tails, .inl (cI, 6400, .inl Le_tails)), (a_Le_mix, .inl (cI, 40, .inl Le_mix))]
abbrev rm_addPolynomial : Room := { frames := 1, cells := 0, slots := 0, locals := 64 }
abbrev g_addPolynomial (X : gX) (D : va_G) (cI cL cZ : ClassId) (a_Le a_Le_heads a_Le_tails a_Le_mix a_Le_standard a_Le_images a_Le_steps a_Le_mixes a_Le_pivots a_Le_image a_Le_rest : Nat) (A : Nat → Prop) (Le_prime Le_size Le_standardCount : Int32) (Le_mix : Nat → Int32) (Le_count_r : Int32) (Le_heads_r Le_tails_r : Nat → Int32) (pc : Nat) (lv : List (Nat × Value)) (st : List Value) (Le_count : Int32) (Le_heads Le_tails : Nat → Int32) : Prop := ∀ (H : Heap) (locs : List Loc) (ls : Array Slot), va_P D classes (ws_addPolynomial a_Le a_Le_heads a_Le_tails a_Le_mix a_Le_standard a_Le_images a_Le_steps a_Le_mixes a_Le_pivots a_Le_image a_Le_rest cI cL cZ Le_prime Le_size Le_count Le_standardCount Le_heads Le_tails Le_mix) H → va_D A (ws_addPolynomial a_Le a_Le_heads a_Le_tails a_Le_mix a_Le_standard a_Le_images a_Le_steps a_Le_mixes a_Le_pivots a_Le_image a_Le_rest cI cL cZ Le_prime Le_size Le_count Le_standardCount Le_heads Le_tails Le_mix) → va_S A (gs X).heap H locs → lv_has ls 2 lv → gWW X rm_addPolynomial H locs 0 0 (MQ (gbl X) (va_Qv (fun _ : Unit => True) (gB D (gT cI cL cZ) A (ws_addPolynomial a_Le a_Le_heads a_Le_tails a_Le_mix a_Le_standard a_Le_images a_Le_steps a_Le_mixes a_Le_pivots a_Le_image a_Le_rest cI cL cZ Le_prime Le_size Le_count_r Le_standardCount Le_heads_r Le_tails_r Le_mix)) A) (ga X) (gs X) 0 0 A) (F0 (gm X) pc ls st)
set_option maxHeartbeats 4000000 in
set_option maxRecDepth 100000 in
theorem e_addPolynomial (X : gX) (D : va_G) (cI cL cZ : ClassId) (a_Le a_Le_heads a_Le_tails a_Le_mix a_Le_standard a_Le_images a_Le_steps a_Le_mixes a_Le_pivots a_Le_image a_Le_rest : Nat) (A : Nat → Prop) (Le_prime Le_size Le_standardCount : Int32) (Le_mix : Nat → Int32) (Le_count_r : Int32) (Le_heads_r Le_tails_r : Nat → Int32) (F : Nat) (C0 : gC X c_Le_addPolynomialb none 2 "RemnantDictionary$Lexicon" gAll) (hK : va_K D classes (gT cI cL cZ) (gs X)) (hA : ∀ q : Nat, (gs X).heap.size ≤ q → A q) (hN : gN (gs X)) (i1 Le_count : Int32) (Le_heads Le_tails : Nat → Int32) (hrun : m_addPolynomial F Le_mix i1 Le_count Le_heads Le_tails = some (Le_count_r, Le_heads_r, Le_tails_r)) : g_addPolynomial X D cI cL cZ a_Le a_Le_heads a_Le_tails a_Le_mix a_Le_standard a_Le_images a_Le_steps a_Le_mixes a_Le_pivots a_Le_image a_Le_rest A Le_prime Le_size Le_standardCount Le_mix Le_count_r Le_heads_r Le_tails_r 0 [(0, .ref a_Le), (1, .int i1)] [] Le_count Le_heads Le_tails := by
  have C1 := C0
  obtain ⟨hx, hb, hr, hml, hown, hts, hlocks⟩ := C1
  unfold m_addPolynomial at hrun
  intro H locs ls hP hD hS hl
  refine lv_aload_n hx hb d_Le_addPolynomial_0 rfl (lv_at hl 0 rfl) ?_
  refine va_get (D := D) (ci := 4) (v := .int Le_count) (C := "RemnantDictionary$Lexicon") (T := T_Le) (N := 14) hx hb hts iw_Le hown hK hP 0 rfl rfl 2 (by decide) (hts _ k_227) (fun _ h9 => h9) rfl d_Le_addPolynomial_1 ?_
  refine lv_sipush (v := 160) hx hb d_Le_addPolynomial_4 (by decide) ?_
  refine g_icmp_ge (tgt := 51) hx hb d_Le_addPolynomial_7 (by decide) hrun (fun _ hrun => ?_) (fun _ hrun => ?_)
  · cases hrun
    exact W.vret hx hb hr (fun t ht hW => ⟨⟨(), rfl, trivial, gB_of ht hW.alike hP hK hD⟩, hS.F ht⟩) hS.2.2 d_Le_addPolynomial_51
  · refine lv_aload_n hx hb d_Le_addPolynomial_10 rfl (lv_at hl 0 rfl) ?_
    refine va_get (D := D) (ci := 4) (v := .ref a_Le_heads) (C := "RemnantDictionary$Lexicon") (T := T_Le) (N := 14) hx hb hts iw_Le hown hK hP 0 rfl rfl 3 (by decide) (hts _ k_233) (fun _ h9 => h9) rfl d_Le_addPolynomial_11 ?_
    refine lv_aload_n hx hb d_Le_addPolynomial_14 rfl (lv_at hl 0 rfl) ?_
    refine va_get (D := D) (ci := 4) (v := .int Le_count) (C := "RemnantDictionary$Lexicon") (T := T_Le) (N := 14) hx hb hts iw_Le hown hK hP 0 rfl rfl 2 (by decide) (hts _ k_227) (fun _ h9 => h9) rfl d_Le_addPolynomial_15 ?_
    refine lv_iload_n hx hb d_Le_addPolynomial_18 rfl (lv_at hl 1 rfl) ?_
    refine g_iast hx hb hK hP hD hS 1 0 rfl rfl hrun d_Le_addPolynomial_19 (fun Le_heads_1 hrun H locs (hP : va_P D classes (ws_addPolynomial a_Le a_Le_heads a_Le_tails a_Le_mix a_Le_standard a_Le_images a_Le_steps a_Le_mixes a_Le_pivots a_Le_image a_Le_rest cI cL cZ Le_prime Le_size Le_count Le_standardCount Le_heads_1 Le_tails Le_mix) H) (hD : va_D A (ws_addPolynomial a_Le a_Le_heads a_Le_tails a_Le_mix a_Le_standard a_Le_images a_Le_steps a_Le_mixes a_Le_pivots a_Le_image a_Le_rest cI cL cZ Le_prime Le_size Le_count Le_standardCount Le_heads_1 Le_tails Le_mix)) hS => ?_)
    refine lv_aload_n hx hb d_Le_addPolynomial_20 rfl (lv_at hl 0 rfl) ?_
    refine va_get (D := D) (ci := 4) (v := .ref a_Le_mix) (C := "RemnantDictionary$Lexicon") (T := T_Le) (N := 14) hx hb hts iw_Le hown hK hP 0 rfl rfl 13 (by decide) (hts _ k_240) (fun _ h9 => h9) rfl d_Le_addPolynomial_21 ?_
    refine lv_iconst (v := 0) hx hb d_Le_addPolynomial_24 (by decide) ?_
    refine lv_aload_n hx hb d_Le_addPolynomial_25 rfl (lv_at hl 0 rfl) ?_
    refine va_get (D := D) (ci := 4) (v := .ref a_Le_tails) (C := "RemnantDictionary$Lexicon") (T := T_Le) (N := 14) hx hb hts iw_Le hown hK hP 0 rfl rfl 4 (by decide) (hts _ k_246) (fun _ h9 => h9) rfl d_Le_addPolynomial_26 ?_
    refine lv_aload_n hx hb d_Le_addPolynomial_29 rfl (lv_at hl 0 rfl) ?_
    refine va_get (D := D) (ci := 4) (v := .int Le_count) (C := "RemnantDictionary$Lexicon") (T := T_Le) (N := 14) hx hb hts iw_Le hown hK hP 0 rfl rfl 2 (by decide) (hts _ k_227) (fun _ h9 => h9) rfl d_Le_addPolynomial_30 ?_
    refine lv_bipush (v := 40) hx hb d_Le_addPolynomial_33 (by decide) ?_
    refine lv_imul hx hb d_Le_addPolynomial_35 ?_
    refine lv_bipush (v := 40) hx hb d_Le_addPolynomial_36 (by decide) ?_
    refine g_copy hx hb (hml.trans hl.1.symm) hown (hts _ k_244) (hts _ k_106) (hts _ k_107) (hts _ k_108) hK hP hD hS 3 2 0 rfl rfl rfl rfl hrun (Nat.le_of_ble_eq_true rfl) (by decide) d_Le_addPolynomial_38 (fun Le_tails_2 hrun H locs (hP : va_P D classes (ws_addPolynomial a_Le a_Le_heads a_Le_tails a_Le_mix a_Le_standard a_Le_images a_Le_steps a_Le_mixes a_Le_pivots a_Le_image a_Le_rest cI cL cZ Le_prime Le_size Le_count Le_standardCount Le_heads_1 Le_tails_2 Le_mix) H) (hD : va_D A (ws_addPolynomial a_Le a_Le_heads a_Le_tails a_Le_mix a_Le_standard a_Le_images a_Le_steps a_Le_mixes a_Le_pivots a_Le_image a_Le_rest cI cL cZ Le_prime Le_size Le_count Le_standardCount Le_heads_1 Le_tails_2 Le_mix)) hS => ?_)
    refine lv_aload_n hx hb d_Le_addPolynomial_41 rfl (lv_at hl 0 rfl) ?_
    refine lv_dup hx hb d_Le_addPolynomial_42 rfl ?_
    refine va_get (D := D) (ci := 4) (v := .int Le_count) (C := "RemnantDictionary$Lexicon") (T := T_Le) (N := 14) hx hb hts iw_Le hown hK hP 0 rfl rfl 2 (by decide) (hts _ k_227) (fun _ h9 => h9) rfl d_Le_addPolynomial_43 ?_
    refine lv_iconst (v := 1) hx hb d_Le_addPolynomial_46 (by decide) ?_
    refine lv_iadd hx hb d_Le_addPolynomial_47 ?_
    refine va_put (D := D) (ci := 4) (v := .int (Le_count + 1)) (ty := .int) (C := "RemnantDictionary$Lexicon") (T := T_Le) (N := 14) hx hb hts iw_Le ty_Le ty_Le_ok nm_Le hown hK hP hD hS 0 rfl rfl 2 (by decide) (hts _ k_227) (fun _ h9 => h9) rfl (by decide +kernel) rfl rfl (Nat.le_of_ble_eq_true rfl) d_Le_addPolynomial_48 (fun H locs (hP : va_P D classes (ws_addPolynomial a_Le a_Le_heads a_Le_tails a_Le_mix a_Le_standard a_Le_images a_Le_steps a_Le_mixes a_Le_pivots a_Le_image a_Le_rest cI cL cZ Le_prime Le_size (Le_count + 1) Le_standardCount Le_heads_1 Le_tails_2 Le_mix) H) (hD : va_D A (ws_addPolynomial a_Le a_Le_heads a_Le_tails a_Le_mix a_Le_standard a_Le_images a_Le_steps a_Le_mixes a_Le_pivots a_Le_image a_Le_rest cI cL cZ Le_prime Le_size (Le_count + 1) Le_standardCount Le_heads_1 Le_tails_2 Le_mix)) hS => ?_)
    cases hrun
    exact W.vret hx hb hr (fun t ht hW => ⟨⟨(), rfl, trivial, gB_of ht hW.alike hP hK hD⟩, hS.F ht⟩) hS.2.2 d_Le_addPolynomial_51
set_option maxHeartbeats 4000000 in
set_option maxRecDepth 100000 in
theorem c_addPolynomial (l : Launch) (D : va_G) (cI cL cZ : ClassId) (a_Le a_Le_heads a_Le_tails a_Le_mix a_Le_standard a_Le_images a_Le_steps a_Le_mixes a_Le_pivots a_Le_image a_Le_rest : Nat) (F : Nat) (Le_prime Le_size Le_count Le_standardCount : Int32) (Le_heads Le_tails Le_mix : Nat → Int32) (i1 : Int32) (sz : Nat) (Le_count_r : Int32) (Le_heads_r Le_tails_r : Nat → Int32) (hrun : m_addPolynomial F Le_mix i1 Le_count Le_heads Le_tails = some (Le_count_r, Le_heads_r, Le_tails_r)) : Met l y_Le_addPolynomial (.code y_Le_addPolynomial c_Le_addPolynomialb 2 none :: gAll) rm_addPolynomial (va_Pc [.ref a_Le, .int i1] (gPW D (gT cI cL cZ) (ws_addPolynomial a_Le a_Le_heads a_Le_tails a_Le_mix a_Le_standard a_Le_images a_Le_steps a_Le_mixes a_Le_pivots a_Le_image a_Le_rest cI cL cZ Le_prime Le_size Le_count Le_standardCount Le_heads Le_tails Le_mix) sz)) (va_Qv (fun _ : Unit => True) (gB D (gT cI cL cZ) (va_A (ws_addPolynomial a_Le a_Le_heads a_Le_tails a_Le_mix a_Le_standard a_Le_images a_Le_steps a_Le_mixes a_Le_pivots a_Le_image a_Le_rest cI cL cZ Le_prime Le_size Le_count Le_standardCount Le_heads Le_tails Le_mix) sz) (ws_addPolynomial a_Le a_Le_heads a_Le_tails a_Le_mix a_Le_standard a_Le_images a_Le_steps a_Le_mixes a_Le_pivots a_Le_image a_Le_rest cI cL cZ Le_prime Le_size Le_count_r Le_standardCount Le_heads_r Le_tails_r Le_mix)) (va_A (ws_addPolynomial a_Le a_Le_heads a_Le_tails a_Le_mix a_Le_standard a_Le_images a_Le_steps a_Le_mixes a_Le_pivots a_Le_image a_Le_rest cI cL cZ Le_prime Le_size Le_count Le_standardCount Le_heads Le_tails Le_mix) sz)) 0 0 (va_A (ws_addPolynomial a_Le a_Le_heads a_Le_tails a_Le_mix a_Le_standard a_Le_images a_Le_steps a_Le_mixes a_Le_pivots a_Le_image a_Le_rest cI cL cZ Le_prime Le_size Le_count Le_standardCount Le_heads Le_tails Le_mix) sz) := by
  refine Met.ofW (cc := c_Le_addPolynomialb) (maxL := 2) (ret := none) (by decide +kernel) rfl ?_
  intro p e s m args below meth c s₁ B hml hv
  obtain ⟨rfl, hsz, hP, hK, hN, hD0⟩ := hv
  subst hsz
  have hD := hD0.self (sz := s.heap.size)
  have hl := lv_entry ([.ref a_Le, .int i1]) (n := 2) (Nat.le_of_ble_eq_true rfl)
  rw [lg_entry_eq]
  generalize (lg_sl ([.ref a_Le, .int i1]) ++ List.replicate (2 - (lg_sl ([.ref a_Le, .int i1])).length) Slot.unset).toArray = ls at hl ⊢
  exact e_addPolynomial (p, l, e, s, m, ([.ref a_Le, .int i1] : List Value).toArray, below, meth, c) D cI cL cZ a_Le a_Le_heads a_Le_tails a_Le_mix a_Le_standard a_Le_images a_Le_steps a_Le_mixes a_Le_pivots a_Le_image a_Le_rest (va_A (ws_addPolynomial a_Le a_Le_heads a_Le_tails a_Le_mix a_Le_standard a_Le_images a_Le_steps a_Le_mixes a_Le_pivots a_Le_image a_Le_rest cI cL cZ Le_prime Le_size Le_count Le_standardCount Le_heads Le_tails Le_mix) s.heap.size) Le_prime Le_size Le_standardCount Le_mix Le_count_r Le_heads_r Le_tails_r F ⟨B.exec, B.bytes, B.returns, hml, findClass_of_methodNamed B.named, fun w h => atoms_spec (ws := (.code y_Le_addPolynomial c_Le_addPolynomialb 2 none :: gAll)) B.pre w (List.mem_cons_of_mem _ h), B.notSynchronized⟩ hK (fun q h => Or.inr h) hN i1 Le_count Le_heads Le_tails hrun s.heap [] ls hP hD va_S.rf hl
theorem d_Le_addStandard_0 : decode c_Le_addStandardb 0 = .ok (.aload_n 0, 1) := by decide +kernel
theorem d_Le_addStandard_1 : decode c_Le_addStandardb 1 = .ok (.getfield 56, 3) := by decide +kernel
theorem d_Le_addStandard_4 : decode c_Le_addStandardb 4 = .ok (.bipush 40, 2) := by decide +kernel
theorem d_Le_addStandard_6 : decode c_Le_addStandardb 6 = .ok (.if_icmp .ge 153, 3) := by decide +kernel
theorem d_Le_addStandard_9 : decode c_Le_addStandardb 9 = .ok (.aload_n 0, 1) := by decide +kernel
theorem d_Le_addStandard_10 : decode c_Le_addStandardb 10 = .ok (.getfield 56, 3) := by decide +kernel
theorem d_Le_addStandard_13 : decode c_Le_addStandardb 13 = .ok (.bipush 40, 2) := by decide +kernel
theorem d_Le_addStandard_15 : decode c_Le_addStandardb 15 = .ok (.imul, 1) := by decide +kernel
theorem d_Le_addStandard_16 : decode c_Le_addStandardb 16 = .ok (.istore_n 3, 1) := by decide +kernel
theorem d_Le_addStandard_17 : decode c_Le_addStandardb 17 = .ok (.aload_n 0, 1) := by decide +kernel
theorem d_Le_addStandard_18 : decode c_Le_addStandardb 18 = .ok (.getfield 36, 3) := by decide +kernel
theorem d_Le_addStandard_21 : decode c_Le_addStandardb 21 = .ok (.iload_n 2, 1) := by decide +kernel
theorem d_Le_addStandard_22 : decode c_Le_addStandardb 22 = .ok (.iaload, 1) := by decide +kernel
theorem d_Le_addStandard_23 : decode c_Le_addStandardb 23 = .ok (.aload_n 0, 1) := by decide +kernel
theorem d_Le_addStandard_24 : decode c_Le_addStandardb 24 = .ok (.getfield 51, 3) := by decide +kernel
theorem d_Le_addStandard_27 : decode c_Le_addStandardb 27 = .ok (.invokestatic 119, 3) := by decide +kernel
theorem d_Le_addStandard_30 : decode c_Le_addStandardb 30 = .ok (.istore 4, 2) := by decide +kernel
theorem d_Le_addStandard_32 : decode c_Le_addStandardb 32 = .ok (.aload_n 0, 1) := by decide +kernel
theorem d_Le_addStandard_33 : decode c_Le_addStandardb 33 = .ok (.getfield 39, 3) := by decide +kernel
theorem d_Le_addStandard_36 : decode c_Le_addStandardb 36 = .ok (.aload_n 0, 1) := by decide +kernel
theorem d_Le_addStandard_37 : decode c_Le_addStandardb 37 = .ok (.getfield 56, 3) := by decide +kernel
theorem d_Le_addStandard_40 : decode c_Le_addStandardb 40 = .ok (.iconst 1, 1) := by decide +kernel
theorem d_Le_addStandard_41 : decode c_Le_addStandardb 41 = .ok (.iastore, 1) := by decide +kernel
theorem d_Le_addStandard_42 : decode c_Le_addStandardb 42 = .ok (.aload_n 0, 1) := by decide +kernel
theorem d_Le_addStandard_43 : decode c_Le_addStandardb 43 = .ok (.getfield 24, 3) := by decide +kernel
theorem d_Le_addStandard_46 : decode c_Le_addStandardb 46 = .ok (.iload_n 3, 1) := by decide +kernel
theorem d_Le_addStandard_47 : decode c_Le_addStandardb 47 = .ok (.iload_n 3, 1) := by decide +kernel
theorem d_Le_addStandard_48 : decode c_Le_addStandardb 48 = .ok (.bipush 40, 2) := by decide +kernel
theorem d_Le_addStandard_50 : decode c_Le_addStandardb 50 = .ok (.iadd, 1) := by decide +kernel
theorem d_Le_addStandard_51 : decode c_Le_addStandardb 51 = .ok (.iconst 0, 1) := by decide +kernel
theorem d_Le_addStandard_52 : decode c_Le_addStandardb 52 = .ok (.invokestatic 122, 3) := by decide +kernel
theorem d_Le_addStandard_55 : decode c_Le_addStandardb 55 = .ok (.aload_n 0, 1) := by decide +kernel
theorem d_Le_addStandard_56 : decode c_Le_addStandardb 56 = .ok (.getfield 27, 3) := by decide +kernel
theorem d_Le_addStandard_59 : decode c_Le_addStandardb 59 = .ok (.iload_n 3, 1) := by decide +kernel
theorem d_Le_addStandard_60 : decode c_Le_addStandardb 60 = .ok (.iload_n 3, 1) := by decide +kernel
theorem d_Le_addStandard_61 : decode c_Le_addStandardb 61 = .ok (.bipush 40, 2) := by decide +kernel
theorem d_Le_addStandard_63 : decode c_Le_addStandardb 63 = .ok (.iadd, 1) := by decide +kernel
theorem d_Le_addStandard_64 : decode c_Le_addStandardb 64 = .ok (.iconst 0, 1) := by decide +kernel
theorem d_Le_addStandard_65 : decode c_Le_addStandardb 65 = .ok (.invokestatic 122, 3) := by decide +kernel
theorem d_Le_addStandard_68 : decode c_Le_addStandardb 68 = .ok (.aload_n 0, 1) := by decide +kernel
theorem d_Le_addStandard_69 : decode c_Le_addStandardb 69 = .ok (.getfield 24, 3) := by decide +kernel
theorem d_Le_addStandard_72 : decode c_Le_addStandardb 72 = .ok (.iload_n 3, 1) := by decide +kernel
theorem d_Le_addStandard_73 : decode c_Le_addStandardb 73 = .ok (.aload_n 0, 1) := by decide +kernel
theorem d_Le_addStandard_74 : decode c_Le_addStandardb 74 = .ok (.getfield 36, 3) := by decide +kernel
theorem d_Le_addStandard_77 : decode c_Le_addStandardb 77 = .ok (.iconst 0, 1) := by decide +kernel
theorem d_Le_addStandard_78 : decode c_Le_addStandardb 78 = .ok (.aload_n 0, 1) := by decide +kernel
theorem d_Le_addStandard_79 : decode c_Le_addStandardb 79 = .ok (.getfield 55, 3) := by decide +kernel
theorem d_Le_addStandard_82 : decode c_Le_addStandardb 82 = .ok (.iload 4, 2) := by decide +kernel
theorem d_Le_addStandard_84 : decode c_Le_addStandardb 84 = .ok (.aload_n 0, 1) := by decide +kernel
theorem d_Le_addStandard_85 : decode c_Le_addStandardb 85 = .ok (.getfield 51, 3) := by decide +kernel
theorem d_Le_addStandard_88 : decode c_Le_addStandardb 88 = .ok (.invokestatic 115, 3) := by decide +kernel
theorem d_Le_addStandard_91 : decode c_Le_addStandardb 91 = .ok (.aload_n 0, 1) := by decide +kernel
theorem d_Le_addStandard_92 : decode c_Le_addStandardb 92 = .ok (.getfield 27, 3) := by decide +kernel
theorem d_Le_addStandard_95 : decode c_Le_addStandardb 95 = .ok (.iload_n 3, 1) := by decide +kernel
theorem d_Le_addStandard_96 : decode c_Le_addStandardb 96 = .ok (.aload_n 0, 1) := by decide +kernel
theorem d_Le_addStandard_97 : decode c_Le_addStandardb 97 = .ok (.getfield 39, 3) := by decide +kernel
theorem d_Le_addStandard_100 : decode c_Le_addStandardb 100 = .ok (.iconst 0, 1) := by decide +kernel
theorem d_Le_addStandard_101 : decode c_Le_addStandardb 101 = .ok (.aload_n 0, 1) := by decide +kernel
theorem d_Le_addStandard_102 : decode c_Le_addStandardb 102 = .ok (.getfield 55, 3) := by decide +kernel
theorem d_Le_addStandard_105 : decode c_Le_addStandardb 105 = .ok (.iload 4, 2) := by decide +kernel
theorem d_Le_addStandard_107 : decode c_Le_addStandardb 107 = .ok (.aload_n 0, 1) := by decide +kernel
theorem d_Le_addStandard_108 : decode c_Le_addStandardb 108 = .ok (.getfield 51, 3) := by decide +kernel
theorem d_Le_addStandard_111 : decode c_Le_addStandardb 111 = .ok (.invokestatic 115, 3) := by decide +kernel
theorem d_Le_addStandard_114 : decode c_Le_addStandardb 114 = .ok (.aload_n 0, 1) := by decide +kernel
theorem d_Le_addStandard_115 : decode c_Le_addStandardb 115 = .ok (.getfield 33, 3) := by decide +kernel
theorem d_Le_addStandard_118 : decode c_Le_addStandardb 118 = .ok (.iconst 0, 1) := by decide +kernel
theorem d_Le_addStandard_119 : decode c_Le_addStandardb 119 = .ok (.aload_n 0, 1) := by decide +kernel
theorem d_Le_addStandard_120 : decode c_Le_addStandardb 120 = .ok (.getfield 21, 3) := by decide +kernel
theorem d_Le_addStandard_123 : decode c_Le_addStandardb 123 = .ok (.iload_n 3, 1) := by decide +kernel
theorem d_Le_addStandard_124 : decode c_Le_addStandardb 124 = .ok (.bipush 40, 2) := by decide +kernel
theorem d_Le_addStandard_126 : decode c_Le_addStandardb 126 = .ok (.invokestatic 109, 3) := by decide +kernel
theorem d_Le_addStandard_129 : decode c_Le_addStandardb 129 = .ok (.aload_n 0, 1) := by decide +kernel
theorem d_Le_addStandard_130 : decode c_Le_addStandardb 130 = .ok (.getfield 30, 3) := by decide +kernel
theorem d_Le_addStandard_133 : decode c_Le_addStandardb 133 = .ok (.aload_n 0, 1) := by decide +kernel
theorem d_Le_addStandard_134 : decode c_Le_addStandardb 134 = .ok (.getfield 56, 3) := by decide +kernel
theorem d_Le_addStandard_137 : decode c_Le_addStandardb 137 = .ok (.iload_n 2, 1) := by decide +kernel
theorem d_Le_addStandard_138 : decode c_Le_addStandardb 138 = .ok (.iastore, 1) := by decide +kernel
theorem d_Le_addStandard_139 : decode c_Le_addStandardb 139 = .ok (.aload_n 0, 1) := by decide +kernel
theorem d_Le_addStandard_140 : decode c_Le_addStandardb 140 = .ok (.getfield 18, 3) := by decide +kernel
theorem d_Le_addStandard_143 : decode c_Le_addStandardb 143 = .ok (.aload_n 0, 1) := by decide +kernel
theorem d_Le_addStandard_144 : decode c_Le_addStandardb 144 = .ok (.getfield 56, 3) := by decide +kernel
theorem d_Le_addStandard_147 : decode c_Le_addStandardb 147 = .ok (.iload_n 1, 1) := by decide +kernel
theorem d_Le_addStandard_148 : decode c_Le_addStandardb 148 = .ok (.iastore, 1) := by decide +kernel
theorem d_Le_addStandard_149 : decode c_Le_addStandardb 149 = .ok (.aload_n 0, 1) := by decide +kernel
theorem d_Le_addStandard_150 : decode c_Le_addStandardb 150 = .ok (.dup, 1) := by decide +kernel
theorem d_Le_addStandard_151 : decode c_Le_addStandardb 151 = .ok (.getfield 56, 3) := by decide +kernel
theorem d_Le_addStandard_154 : decode c_Le_addStandardb 154 = .ok (.iconst 1, 1) := by decide +kernel
theorem d_Le_addStandard_155 : decode c_Le_addStandardb 155 = .ok (.iadd, 1) := by decide +kernel
theorem d_Le_addStandard_156 : decode c_Le_addStandardb 156 = .ok (.putfield 56, 3) := by decide +kernel
theorem d_Le_addStandard_159 : decode c_Le_addStandardb 159 = .ok (.return_, 1) := by decide +kernel
abbrev ws_addStandard (a_Le a_Le_standard a_Le_images a_Le_steps a_Le_mixes a_Le_pivots a_Le_image a_Le_rest a_Le_mix a_Le_heads a_Le_tails : Nat) (cI cL cZ : ClassId) (Le_prime Le_size Le_count Le_standardCount : Int32) (Le_standard Le_images Le_steps Le_mixes Le_pivots Le_image Le_rest Le_mix : Nat → Int32) : va_W := [(a_Le, .inr (4, [.int Le_prime, .int Le_size, .int Le_count, .ref a_Le_heads, .ref a_Le_tails, .ref a_Le_standard, .int Le_standardCount, .ref a_Le_images, .ref a_Le_steps, .ref a_Le_mixes, .ref a_Le_pivots, .ref a_Le_image, .ref a_Le_rest, .ref a_Le_mix])), (a_Le_standard, .inl (cI, 40, .inl Le_standard)), (a_Le_images, .inl (cI, 1600, .inl Le_images)), (a_Le_steps, .inl (cI, 1600, .inl Le_steps)), (a_Le_mixes, .inl (cI, 1600, .inl Le_mixes)), (a_Le_pivots, .inl (cI, 40, .inl Le_pivots)), (a_Le_image, .inl (cI, 40, .inl Le_image)), (a_Le_rest, .inl (cI, 40, .inl Le_rest)), (a_Le_mix, .inl (cI, 40, .inl Le_mix))]
abbrev rm_addStandard : Room := { frames := 2, cells := 0, slots := 0, locals := 64 }
abbrev g_addStandard (X : gX) (D : va_G) (cI cL cZ : ClassId) (a_Le a_Le_standard a_Le_images a_Le_steps a_Le_mixes a_Le_pivots a_Le_image a_Le_rest a_Le_mix a_Le_heads a_Le_tails : Nat) (A : Nat → Prop) (Le_prime Le_size Le_count : Int32) (Le_image Le_rest : Nat → Int32) (Le_standardCount_r : Int32) (Le_standard_r Le_images_r Le_steps_r Le_mixes_r Le_pivots_r Le_mix_r : Nat → Int32) (pc : Nat) (lv : List (Nat × Value)) (st : List Value) (Le_standardCount : Int32) (Le_standard Le_images Le_steps Le_mixes Le_pivots Le_mix : Nat → Int32) : Prop := ∀ (H : Heap) (locs : List Loc) (ls : Array Slot), va_P D classes (ws_addStandard a_Le a_Le_standard a_Le_images a_Le_steps a_Le_mixes a_Le_pivots a_Le_image a_Le_rest a_Le_mix a_Le_heads a_Le_tails cI cL cZ Le_prime Le_size Le_count Le_standardCount Le_standard Le_images Le_steps Le_mixes Le_pivots Le_image Le_rest Le_mix) H → va_D A (ws_addStandard a_Le a_Le_standard a_Le_images a_Le_steps a_Le_mixes a_Le_pivots a_Le_image a_Le_rest a_Le_mix a_Le_heads a_Le_tails cI cL cZ Le_prime Le_size Le_count Le_standardCount Le_standard Le_images Le_steps Le_mixes Le_pivots Le_image Le_rest Le_mix) → va_S A (gs X).heap H locs → lv_has ls 5 lv → gWW X rm_addStandard H locs 0 0 (MQ (gbl X) (va_Qv (fun _ : Unit => True) (gB D (gT cI cL cZ) A (ws_addStandard a_Le a_Le_standard a_Le_images a_Le_steps a_Le_mixes a_Le_pivots a_Le_image a_Le_rest a_Le_mix a_Le_heads a_Le_tails cI cL cZ Le_prime Le_size Le_count Le_standardCount_r Le_standard_r Le_images_r Le_steps_r Le_mixes_r Le_pivots_r Le_image Le_rest Le_mix_r)) A) (ga X) (gs X) 0 0 A) (F0 (gm X) pc ls st)
set_option maxHeartbeats 4000000 in
set_option maxRecDepth 100000 in
theorem e_addStandard (X : gX) (D : va_G) (cI cL cZ : ClassId) (a_Le a_Le_standard a_Le_images a_Le_steps a_Le_mixes a_Le_pivots a_Le_image a_Le_rest a_Le_mix a_Le_heads a_Le_tails : Nat) (A : Nat → Prop) (Le_prime Le_size Le_count : Int32) (Le_image Le_rest : Nat → Int32) (Le_standardCount_r : Int32) (Le_standard_r Le_images_r Le_steps_r Le_mixes_r Le_pivots_r Le_mix_r : Nat → Int32) (F : Nat) (C0 : gC X c_Le_addStandardb none 5 "RemnantDictionary$Lexicon" gAll) (hK : va_K D classes (gT cI cL cZ) (gs X)) (hA : ∀ q : Nat, (gs X).heap.size ≤ q → A q) (hN : gN (gs X)) (i1 i2 Le_standardCount : Int32) (Le_standard Le_images Le_steps Le_mixes Le_pivots Le_mix : Nat → Int32) (hrun : m_addStandard F Le_prime Le_size Le_image Le_rest i1 i2 Le_standardCount Le_standard Le_images Le_steps Le_mixes Le_pivots Le_mix = some (Le_standardCount_r, Le_standard_r, Le_images_r, Le_steps_r, Le_mixes_r, Le_pivots_r, Le_mix_r)) : g_addStandard X D cI cL cZ a_Le a_Le_standard a_Le_images a_Le_steps a_Le_mixes a_Le_pivots a_Le_image a_Le_rest a_Le_mix a_Le_heads a_Le_tails A Le_prime Le_size Le_count Le_image Le_rest Le_standardCount_r Le_standard_r Le_images_r Le_steps_r Le_mixes_r Le_pivots_r Le_mix_r 0 [(0, .ref a_Le), (1, .int i1), (2, .int i2)] [] Le_standardCount Le_standard Le_images Le_steps Le_mixes Le_pivots Le_mix := by
  have C1 := C0
  obtain ⟨hx, hb, hr, hml, hown, hts, hlocks⟩ := C1
  unfold m_addStandard at hrun
  intro H locs ls hP hD hS hl
  refine lv_aload_n hx hb d_Le_addStandard_0 rfl (lv_at hl 0 rfl) ?_
  refine va_get (D := D) (ci := 4) (v := .int Le_standardCount) (C := "RemnantDictionary$Lexicon") (T := T_Le) (N := 14) hx hb hts iw_Le hown hK hP 0 rfl rfl 6 (by decide) (hts _ k_229) (fun _ h9 => h9) rfl d_Le_addStandard_1 ?_
  refine lv_bipush (v := 40) hx hb d_Le_addStandard_4 (by decide) ?_
  refine g_icmp_ge (tgt := 159) hx hb d_Le_addStandard_6 (by decide) hrun (fun _ hrun => ?_) (fun _ hrun => ?_)
  · cases hrun
    exact W.vret hx hb hr (fun t ht hW => ⟨⟨(), rfl, trivial, gB_of ht hW.alike hP hK hD⟩, hS.F ht⟩) hS.2.2 d_Le_addStandard_159
  · refine lv_aload_n hx hb d_Le_addStandard_9 rfl (lv_at hl 0 rfl) ?_
    refine va_get (D := D) (ci := 4) (v := .int Le_standardCount) (C := "RemnantDictionary$Lexicon") (T := T_Le) (N := 14) hx hb hts iw_Le hown hK hP 0 rfl rfl 6 (by decide) (hts _ k_229) (fun _ h9 => h9) rfl d_Le_addStandard_10 ?_
    refine lv_bipush (v := 40) hx hb d_Le_addStandard_13 (by decide) ?_
    refine lv_imul hx hb d_Le_addStandard_15 ?_
    refine lv_istore_n (lv' := [(3, .int (Le_standardCount * 40)), (0, .ref a_Le), (1, .int i1), (2, .int i2)]) hx hb d_Le_addStandard_16 rfl hl (by decide) rfl (fun ls hl => ?_)
    refine lv_aload_n hx hb d_Le_addStandard_17 rfl (lv_at hl 1 rfl) ?_
    refine va_get (D := D) (ci := 4) (v := .ref a_Le_rest) (C := "RemnantDictionary$Lexicon") (T := T_Le) (N := 14) hx hb hts iw_Le hown hK hP 0 rfl rfl 12 (by decide) (hts _ k_235) (fun _ h9 => h9) rfl d_Le_addStandard_18 ?_
    refine lv_iload_n hx hb d_Le_addStandard_21 rfl (lv_at hl 3 rfl) ?_
    refine g_iald hx hb hK hP 7 0 rfl rfl hrun d_Le_addStandard_22 (fun x_1 hrun => ?_)
    refine lv_aload_n hx hb d_Le_addStandard_23 rfl (lv_at hl 1 rfl) ?_
    refine va_get (D := D) (ci := 4) (v := .int Le_prime) (C := "RemnantDictionary$Lexicon") (T := T_Le) (N := 14) hx hb hts iw_Le hown hK hP 0 rfl rfl 0 (by decide) (hts _ k_239) (fun _ h9 => h9) rfl d_Le_addStandard_24 ?_
    obtain ⟨r_2, hc, hrun⟩ := bd1_s hrun
    refine vp_callSi (g_ofRun (va_runSN (As := [.int x_1, .int Le_prime]) (rest := []) ⟨hx, hb, hml, hown, hts⟩ (c_inverse (gl X) F x_1 Le_prime r_2 hc) (⟨va_cnB 2 hts (gwN k_8) rfl rfl rfl (hN.1 _ (List.mem_of_getElem? (i := 17) rfl)) (hts _ k_14) (by decide +kernel) ⟨Nat.le_of_ble_eq_true rfl, Nat.le_of_ble_eq_true rfl⟩, hts _ k_85, trivial⟩) (gpreS0 hN) rfl rfl hl.1 rfl (lv_room (Nat.le_of_ble_eq_true rfl)) d_Le_addStandard_27 ⟨Nat.le_of_ble_eq_true rfl, Nat.le_of_ble_eq_true rfl⟩)) (nm_e ?_)
    refine lv_istore (lv' := [(4, .int r_2), (3, .int (Le_standardCount * 40)), (0, .ref a_Le), (1, .int i1), (2, .int i2)]) hx hb d_Le_addStandard_30 hl (by decide) rfl (fun ls hl => ?_)
    refine lv_aload_n hx hb d_Le_addStandard_32 rfl (lv_at hl 2 rfl) ?_
    refine va_get (D := D) (ci := 4) (v := .ref a_Le_mix) (C := "RemnantDictionary$Lexicon") (T := T_Le) (N := 14) hx hb hts iw_Le hown hK hP 0 rfl rfl 13 (by decide) (hts _ k_240) (fun _ h9 => h9) rfl d_Le_addStandard_33 ?_
    refine lv_aload_n hx hb d_Le_addStandard_36 rfl (lv_at hl 2 rfl) ?_
    refine va_get (D := D) (ci := 4) (v := .int Le_standardCount) (C := "RemnantDictionary$Lexicon") (T := T_Le) (N := 14) hx hb hts iw_Le hown hK hP 0 rfl rfl 6 (by decide) (hts _ k_229) (fun _ h9 => h9) rfl d_Le_addStandard_37 ?_
    refine lv_iconst (v := 1) hx hb d_Le_addStandard_40 (by decide) ?_
    refine g_iast hx hb hK hP hD hS 8 0 rfl rfl hrun d_Le_addStandard_41 (fun Le_mix_3 hrun H locs (hP : va_P D classes (ws_addStandard a_Le a_Le_standard a_Le_images a_Le_steps a_Le_mixes a_Le_pivots a_Le_image a_Le_rest a_Le_mix a_Le_heads a_Le_tails cI cL cZ Le_prime Le_size Le_count Le_standardCount Le_standard Le_images Le_steps Le_mixes Le_pivots Le_image Le_rest Le_mix_3) H) (hD : va_D A (ws_addStandard a_Le a_Le_standard a_Le_images a_Le_steps a_Le_mixes a_Le_pivots a_Le_image a_Le_rest a_Le_mix a_Le_heads a_Le_tails cI cL cZ Le_prime Le_size Le_count Le_standardCount Le_standard Le_images Le_steps Le_mixes Le_pivots Le_image Le_rest Le_mix_3)) hS => ?_)
    refine lv_aload_n hx hb d_Le_addStandard_42 rfl (lv_at hl 2 rfl) ?_
    refine va_get (D := D) (ci := 4) (v := .ref a_Le_steps) (C := "RemnantDictionary$Lexicon") (T := T_Le) (N := 14) hx hb hts iw_Le hown hK hP 0 rfl rfl 8 (by decide) (hts _ k_237) (fun _ h9 => h9) rfl d_Le_addStandard_43 ?_
    refine lv_iload_n hx hb d_Le_addStandard_46 rfl (lv_at hl 1 rfl) ?_
    refine lv_iload_n hx hb d_Le_addStandard_47 rfl (lv_at hl 1 rfl) ?_
    refine lv_bipush (v := 40) hx hb d_Le_addStandard_48 (by decide) ?_
    refine lv_iadd hx hb d_Le_addStandard_50 ?_
    refine lv_iconst (v := 0) hx hb d_Le_addStandard_51 (by decide) ?_
    obtain ⟨Le_steps_4, hc, hrun⟩ := bd1_s hrun
    have hFc := va_free (wc := (ws_fillR a_Le_steps cI cL cZ 1600 Le_steps)) hD hS hA [3] rfl
    refine va_callv (va_runS (As := [.ref a_Le_steps, .int (Le_standardCount * 40), .int ((Le_standardCount * 40) + 40), .int 0]) (rest := []) ⟨hx, hb, hml, hown, hts⟩ (c_fillR (gl X) D cI cL cZ a_Le_steps F 1600 Le_steps (Le_standardCount * 40) ((Le_standardCount * 40) + 40) 0 H.size Le_steps_4 hc) (va_cwS 4 hts (gwS k_248 k_82 k_4 k_2) rfl rfl rfl (by decide +kernel) ⟨Nat.le_of_ble_eq_true rfl, Nat.le_of_ble_eq_true rfl⟩) (gpreSW (hP.sub (ws' := (ws_fillR a_Le_steps cI cL cZ 1600 Le_steps)) [3] rfl) hK hN (hD.sub (ws' := (ws_fillR a_Le_steps cI cL cZ 1600 Le_steps)) [3] (by decide) rfl)) rfl rfl hl.1 rfl (lv_room (Nat.le_of_ble_eq_true rfl)) d_Le_addStandard_52 ⟨Nat.le_of_ble_eq_true rfl, Nat.le_of_ble_eq_true rfl⟩) hS (fun q _ h => hFc q h) hFc (fun _ t H_5 locs ht hvm hw hB hz1 hk1 hS => ?_)
    obtain ⟨hP, hD⟩ := va_join (wr := [(a_Le, .inr (4, [.int Le_prime, .int Le_size, .int Le_count, .ref a_Le_heads, .ref a_Le_tails, .ref a_Le_standard, .int Le_standardCount, .ref a_Le_images, .ref a_Le_steps, .ref a_Le_mixes, .ref a_Le_pivots, .ref a_Le_image, .ref a_Le_rest, .ref a_Le_mix])), (a_Le_standard, .inl (cI, 40, .inl Le_standard)), (a_Le_images, .inl (cI, 1600, .inl Le_images)), (a_Le_mixes, .inl (cI, 1600, .inl Le_mixes)), (a_Le_pivots, .inl (cI, 40, .inl Le_pivots)), (a_Le_image, .inl (cI, 40, .inl Le_image)), (a_Le_rest, .inl (cI, 40, .inl Le_rest)), (a_Le_mix, .inl (cI, 40, .inl Le_mix_3))]) (w1 := (ws_fillR a_Le_steps cI cL cZ 1600 Le_steps_4)) hP hD [3] [0, 1, 2, 4, 5, 6, 7, 8] rfl rfl (by decide) (by decide) hk1 hFc (by have h9 := hB.1; rw [ht] at h9; exact h9) hB.2.2
    have hP : va_P D classes (ws_addStandard a_Le a_Le_standard a_Le_images a_Le_steps a_Le_mixes a_Le_pivots a_Le_image a_Le_rest a_Le_mix a_Le_heads a_Le_tails cI cL cZ Le_prime Le_size Le_count Le_standardCount Le_standard Le_images Le_steps_4 Le_mixes Le_pivots Le_image Le_rest Le_mix_3) H_5 := hP.sub [0, 1, 2, 8, 3, 4, 5, 6, 7] rfl
    have hD : va_D A (ws_addStandard a_Le a_Le_standard a_Le_images a_Le_steps a_Le_mixes a_Le_pivots a_Le_image a_Le_rest a_Le_mix a_Le_heads a_Le_tails cI cL cZ Le_prime Le_size Le_count Le_standardCount Le_standard Le_images Le_steps_4 Le_mixes Le_pivots Le_image Le_rest Le_mix_3) := hD.sub [0, 1, 2, 8, 3, 4, 5, 6, 7] (by decide) rfl
    refine lv_aload_n hx hb d_Le_addStandard_55 rfl (lv_at hl 2 rfl) ?_
    refine va_get (D := D) (ci := 4) (v := .ref a_Le_mixes) (C := "RemnantDictionary$Lexicon") (T := T_Le) (N := 14) hx hb hts iw_Le hown hK hP 0 rfl rfl 9 (by decide) (hts _ k_241) (fun _ h9 => h9) rfl d_Le_addStandard_56 ?_
    refine lv_iload_n hx hb d_Le_addStandard_59 rfl (lv_at hl 1 rfl) ?_
    refine lv_iload_n hx hb d_Le_addStandard_60 rfl (lv_at hl 1 rfl) ?_
    refine lv_bipush (v := 40) hx hb d_Le_addStandard_61 (by decide) ?_
    refine lv_iadd hx hb d_Le_addStandard_63 ?_
    refine lv_iconst (v := 0) hx hb d_Le_addStandard_64 (by decide) ?_
    obtain ⟨Le_mixes_6, hc, hrun⟩ := bd1_s hrun
    have hFc := va_free (wc := (ws_fillR a_Le_mixes cI cL cZ 1600 Le_mixes)) hD hS hA [4] rfl
    refine va_callv (va_runS (As := [.ref a_Le_mixes, .int (Le_standardCount * 40), .int ((Le_standardCount * 40) + 40), .int 0]) (rest := []) ⟨hx, hb, hml, hown, hts⟩ (c_fillR (gl X) D cI cL cZ a_Le_mixes F 1600 Le_mixes (Le_standardCount * 40) ((Le_standardCount * 40) + 40) 0 H_5.size Le_mixes_6 hc) (va_cwS 4 hts (gwS k_248 k_82 k_4 k_2) rfl rfl rfl (by decide +kernel) ⟨Nat.le_of_ble_eq_true rfl, Nat.le_of_ble_eq_true rfl⟩) (gpreSW (hP.sub (ws' := (ws_fillR a_Le_mixes cI cL cZ 1600 Le_mixes)) [4] rfl) hK hN (hD.sub (ws' := (ws_fillR a_Le_mixes cI cL cZ 1600 Le_mixes)) [4] (by decide) rfl)) rfl rfl hl.1 rfl (lv_room (Nat.le_of_ble_eq_true rfl)) d_Le_addStandard_65 ⟨Nat.le_of_ble_eq_true rfl, Nat.le_of_ble_eq_true rfl⟩) hS (fun q _ h => hFc q h) hFc (fun _ t H_7 locs ht hvm hw hB hz1 hk1 hS => ?_)
    obtain ⟨hP, hD⟩ := va_join (wr := [(a_Le, .inr (4, [.int Le_prime, .int Le_size, .int Le_count, .ref a_Le_heads, .ref a_Le_tails, .ref a_Le_standard, .int Le_standardCount, .ref a_Le_images, .ref a_Le_steps, .ref a_Le_mixes, .ref a_Le_pivots, .ref a_Le_image, .ref a_Le_rest, .ref a_Le_mix])), (a_Le_standard, .inl (cI, 40, .inl Le_standard)), (a_Le_images, .inl (cI, 1600, .inl Le_images)), (a_Le_steps, .inl (cI, 1600, .inl Le_steps_4)), (a_Le_pivots, .inl (cI, 40, .inl Le_pivots)), (a_Le_image, .inl (cI, 40, .inl Le_image)), (a_Le_rest, .inl (cI, 40, .inl Le_rest)), (a_Le_mix, .inl (cI, 40, .inl Le_mix_3))]) (w1 := (ws_fillR a_Le_mixes cI cL cZ 1600 Le_mixes_6)) hP hD [4] [0, 1, 2, 3, 5, 6, 7, 8] rfl rfl (by decide) (by decide) hk1 hFc (by have h9 := hB.1; rw [ht] at h9; exact h9) hB.2.2
    have hP : va_P D classes (ws_addStandard a_Le a_Le_standard a_Le_images a_Le_steps a_Le_mixes a_Le_pivots a_Le_image a_Le_rest a_Le_mix a_Le_heads a_Le_tails cI cL cZ Le_prime Le_size Le_count Le_standardCount Le_standard Le_images Le_steps_4 Le_mixes_6 Le_pivots Le_image Le_rest Le_mix_3) H_7 := hP.sub [0, 1, 2, 3, 8, 4, 5, 6, 7] rfl
    have hD : va_D A (ws_addStandard a_Le a_Le_standard a_Le_images a_Le_steps a_Le_mixes a_Le_pivots a_Le_image a_Le_rest a_Le_mix a_Le_heads a_Le_tails cI cL cZ Le_prime Le_size Le_count Le_standardCount Le_standard Le_images Le_steps_4 Le_mixes_6 Le_pivots Le_image Le_rest Le_mix_3) := hD.sub [0, 1, 2, 3, 8, 4, 5, 6, 7] (by decide) rfl
    refine lv_aload_n hx hb d_Le_addStandard_68 rfl (lv_at hl 2 rfl) ?_
    refine va_get (D := D) (ci := 4) (v := .ref a_Le_steps) (C := "RemnantDictionary$Lexicon") (T := T_Le) (N := 14) hx hb hts iw_Le hown hK hP 0 rfl rfl 8 (by decide) (hts _ k_237) (fun _ h9 => h9) rfl d_Le_addStandard_69 ?_
    refine lv_iload_n hx hb d_Le_addStandard_72 rfl (lv_at hl 1 rfl) ?_
    refine lv_aload_n hx hb d_Le_addStandard_73 rfl (lv_at hl 2 rfl) ?_
    refine va_get (D := D) (ci := 4) (v := .ref a_Le_rest) (C := "RemnantDictionary$Lexicon") (T := T_Le) (N := 14) hx hb hts iw_Le hown hK hP 0 rfl rfl 12 (by decide) (hts _ k_235) (fun _ h9 => h9) rfl d_Le_addStandard_74 ?_
    refine lv_iconst (v := 0) hx hb d_Le_addStandard_77 (by decide) ?_
    refine lv_aload_n hx hb d_Le_addStandard_78 rfl (lv_at hl 2 rfl) ?_
    refine va_get (D := D) (ci := 4) (v := .int Le_size) (C := "RemnantDictionary$Lexicon") (T := T_Le) (N := 14) hx hb hts iw_Le hown hK hP 0 rfl rfl 1 (by decide) (hts _ k_238) (fun _ h9 => h9) rfl d_Le_addStandard_79 ?_
    refine lv_iload hx hb d_Le_addStandard_82 (lv_at hl 0 rfl) ?_
    refine lv_aload_n hx hb d_Le_addStandard_84 rfl (lv_at hl 2 rfl) ?_
    refine va_get (D := D) (ci := 4) (v := .int Le_prime) (C := "RemnantDictionary$Lexicon") (T := T_Le) (N := 14) hx hb hts iw_Le hown hK hP 0 rfl rfl 0 (by decide) (hts _ k_239) (fun _ h9 => h9) rfl d_Le_addStandard_85 ?_
    obtain ⟨Le_steps_8, hc, hrun⟩ := bd1_s hrun
    have hFc := va_free (wc := (ws_addMultiple a_Le_steps a_Le_rest cI cL cZ 1600 40 Le_steps_4 Le_rest)) hD hS hA [3, 7] rfl
    refine va_callv (va_runSN (As := [.ref a_Le_steps, .int (Le_standardCount * 40), .ref a_Le_rest, .int 0, .int Le_size, .int r_2, .int Le_prime]) (rest := []) ⟨hx, hb, hml, hown, hts⟩ (c_addMultiple (gl X) D cI cL cZ a_Le_steps a_Le_rest F 1600 40 Le_steps_4 Le_rest (Le_standardCount * 40) 0 Le_size r_2 Le_prime H_7.size Le_steps_8 hc) (⟨va_cnB 7 hts (gwN k_9) rfl rfl rfl (hN.1 _ (List.mem_of_getElem? (i := 16) rfl)) (hts _ k_14) (by decide +kernel) ⟨Nat.le_of_ble_eq_true rfl, Nat.le_of_ble_eq_true rfl⟩, hts _ k_86, trivial⟩) (gpreSW (hP.sub (ws' := (ws_addMultiple a_Le_steps a_Le_rest cI cL cZ 1600 40 Le_steps_4 Le_rest)) [3, 7] rfl) hK hN (hD.sub (ws' := (ws_addMultiple a_Le_steps a_Le_rest cI cL cZ 1600 40 Le_steps_4 Le_rest)) [3, 7] (by decide) rfl)) rfl rfl hl.1 rfl (lv_room (Nat.le_of_ble_eq_true rfl)) d_Le_addStandard_88 ⟨Nat.le_of_ble_eq_true rfl, Nat.le_of_ble_eq_true rfl⟩) hS (fun q _ h => hFc q h) hFc (fun _ t H_9 locs ht hvm hw hB hz1 hk1 hS => ?_)
    obtain ⟨hP, hD⟩ := va_join (wr := [(a_Le, .inr (4, [.int Le_prime, .int Le_size, .int Le_count, .ref a_Le_heads, .ref a_Le_tails, .ref a_Le_standard, .int Le_standardCount, .ref a_Le_images, .ref a_Le_steps, .ref a_Le_mixes, .ref a_Le_pivots, .ref a_Le_image, .ref a_Le_rest, .ref a_Le_mix])), (a_Le_standard, .inl (cI, 40, .inl Le_standard)), (a_Le_images, .inl (cI, 1600, .inl Le_images)), (a_Le_mixes, .inl (cI, 1600, .inl Le_mixes_6)), (a_Le_pivots, .inl (cI, 40, .inl Le_pivots)), (a_Le_image, .inl (cI, 40, .inl Le_image)), (a_Le_mix, .inl (cI, 40, .inl Le_mix_3))]) (w1 := (ws_addMultiple a_Le_steps a_Le_rest cI cL cZ 1600 40 Le_steps_8 Le_rest)) hP hD [3, 7] [0, 1, 2, 4, 5, 6, 8] rfl rfl (by decide) (by decide) hk1 hFc (by have h9 := hB.1; rw [ht] at h9; exact h9) hB.2.2
    have hP : va_P D classes (ws_addStandard a_Le a_Le_standard a_Le_images a_Le_steps a_Le_mixes a_Le_pivots a_Le_image a_Le_rest a_Le_mix a_Le_heads a_Le_tails cI cL cZ Le_prime Le_size Le_count Le_standardCount Le_standard Le_images Le_steps_8 Le_mixes_6 Le_pivots Le_image Le_rest Le_mix_3) H_9 := hP.sub [0, 1, 2, 7, 3, 4, 5, 8, 6] rfl
    have hD : va_D A (ws_addStandard a_Le a_Le_standard a_Le_images a_Le_steps a_Le_mixes a_Le_pivots a_Le_image a_Le_rest a_Le_mix a_Le_heads a_Le_tails cI cL cZ Le_prime Le_size Le_count Le_standardCount Le_standard Le_images Le_steps_8 Le_mixes_6 Le_pivots Le_image Le_rest Le_mix_3) := hD.sub [0, 1, 2, 7, 3, 4, 5, 8, 6] (by decide) rfl
    refine lv_aload_n hx hb d_Le_addStandard_91 rfl (lv_at hl 2 rfl) ?_
    refine va_get (D := D) (ci := 4) (v := .ref a_Le_mixes) (C := "RemnantDictionary$Lexicon") (T := T_Le) (N := 14) hx hb hts iw_Le hown hK hP 0 rfl rfl 9 (by decide) (hts _ k_241) (fun _ h9 => h9) rfl d_Le_addStandard_92 ?_
    refine lv_iload_n hx hb d_Le_addStandard_95 rfl (lv_at hl 1 rfl) ?_
    refine lv_aload_n hx hb d_Le_addStandard_96 rfl (lv_at hl 2 rfl) ?_
    refine va_get (D := D) (ci := 4) (v := .ref a_Le_mix) (C := "RemnantDictionary$Lexicon") (T := T_Le) (N := 14) hx hb hts iw_Le hown hK hP 0 rfl rfl 13 (by decide) (hts _ k_240) (fun _ h9 => h9) rfl d_Le_addStandard_97 ?_
    refine lv_iconst (v := 0) hx hb d_Le_addStandard_100 (by decide) ?_
    refine lv_aload_n hx hb d_Le_addStandard_101 rfl (lv_at hl 2 rfl) ?_
    refine va_get (D := D) (ci := 4) (v := .int Le_size) (C := "RemnantDictionary$Lexicon") (T := T_Le) (N := 14) hx hb hts iw_Le hown hK hP 0 rfl rfl 1 (by decide) (hts _ k_238) (fun _ h9 => h9) rfl d_Le_addStandard_102 ?_
    refine lv_iload hx hb d_Le_addStandard_105 (lv_at hl 0 rfl) ?_
    refine lv_aload_n hx hb d_Le_addStandard_107 rfl (lv_at hl 2 rfl) ?_
    refine va_get (D := D) (ci := 4) (v := .int Le_prime) (C := "RemnantDictionary$Lexicon") (T := T_Le) (N := 14) hx hb hts iw_Le hown hK hP 0 rfl rfl 0 (by decide) (hts _ k_239) (fun _ h9 => h9) rfl d_Le_addStandard_108 ?_
    obtain ⟨Le_mixes_10, hc, hrun⟩ := bd1_s hrun
    have hFc := va_free (wc := (ws_addMultiple a_Le_mixes a_Le_mix cI cL cZ 1600 40 Le_mixes_6 Le_mix_3)) hD hS hA [4, 8] rfl
    refine va_callv (va_runSN (As := [.ref a_Le_mixes, .int (Le_standardCount * 40), .ref a_Le_mix, .int 0, .int Le_size, .int r_2, .int Le_prime]) (rest := []) ⟨hx, hb, hml, hown, hts⟩ (c_addMultiple (gl X) D cI cL cZ a_Le_mixes a_Le_mix F 1600 40 Le_mixes_6 Le_mix_3 (Le_standardCount * 40) 0 Le_size r_2 Le_prime H_9.size Le_mixes_10 hc) (⟨va_cnB 7 hts (gwN k_9) rfl rfl rfl (hN.1 _ (List.mem_of_getElem? (i := 16) rfl)) (hts _ k_14) (by decide +kernel) ⟨Nat.le_of_ble_eq_true rfl, Nat.le_of_ble_eq_true rfl⟩, hts _ k_86, trivial⟩) (gpreSW (hP.sub (ws' := (ws_addMultiple a_Le_mixes a_Le_mix cI cL cZ 1600 40 Le_mixes_6 Le_mix_3)) [4, 8] rfl) hK hN (hD.sub (ws' := (ws_addMultiple a_Le_mixes a_Le_mix cI cL cZ 1600 40 Le_mixes_6 Le_mix_3)) [4, 8] (by decide) rfl)) rfl rfl hl.1 rfl (lv_room (Nat.le_of_ble_eq_true rfl)) d_Le_addStandard_111 ⟨Nat.le_of_ble_eq_true rfl, Nat.le_of_ble_eq_true rfl⟩) hS (fun q _ h => hFc q h) hFc (fun _ t H_11 locs ht hvm hw hB hz1 hk1 hS => ?_)
    obtain ⟨hP, hD⟩ := va_join (wr := [(a_Le, .inr (4, [.int Le_prime, .int Le_size, .int Le_count, .ref a_Le_heads, .ref a_Le_tails, .ref a_Le_standard, .int Le_standardCount, .ref a_Le_images, .ref a_Le_steps, .ref a_Le_mixes, .ref a_Le_pivots, .ref a_Le_image, .ref a_Le_rest, .ref a_Le_mix])), (a_Le_standard, .inl (cI, 40, .inl Le_standard)), (a_Le_images, .inl (cI, 1600, .inl Le_images)), (a_Le_steps, .inl (cI, 1600, .inl Le_steps_8)), (a_Le_pivots, .inl (cI, 40, .inl Le_pivots)), (a_Le_image, .inl (cI, 40, .inl Le_image)), (a_Le_rest, .inl (cI, 40, .inl Le_rest))]) (w1 := (ws_addMultiple a_Le_mixes a_Le_mix cI cL cZ 1600 40 Le_mixes_10 Le_mix_3)) hP hD [4, 8] [0, 1, 2, 3, 5, 6, 7] rfl rfl (by decide) (by decide) hk1 hFc (by have h9 := hB.1; rw [ht] at h9; exact h9) hB.2.2
    have hP : va_P D classes (ws_addStandard a_Le a_Le_standard a_Le_images a_Le_steps a_Le_mixes a_Le_pivots a_Le_image a_Le_rest a_Le_mix a_Le_heads a_Le_tails cI cL cZ Le_prime Le_size Le_count Le_standardCount Le_standard Le_images Le_steps_8 Le_mixes_10 Le_pivots Le_image Le_rest Le_mix_3) H_11 := hP.sub [0, 1, 2, 3, 7, 4, 5, 6, 8] rfl
    have hD : va_D A (ws_addStandard a_Le a_Le_standard a_Le_images a_Le_steps a_Le_mixes a_Le_pivots a_Le_image a_Le_rest a_Le_mix a_Le_heads a_Le_tails cI cL cZ Le_prime Le_size Le_count Le_standardCount Le_standard Le_images Le_steps_8 Le_mixes_10 Le_pivots Le_image Le_rest Le_mix_3) := hD.sub [0, 1, 2, 3, 7, 4, 5, 6, 8] (by decide) rfl
    refine lv_aload_n hx hb d_Le_addStandard_114 rfl (lv_at hl 2 rfl) ?_
    refine va_get (D := D) (ci := 4) (v := .ref a_Le_image) (C := "RemnantDictionary$Lexicon") (T := T_Le) (N := 14) hx hb hts iw_Le hown hK hP 0 rfl rfl 11 (by decide) (hts _ k_243) (fun _ h9 => h9) rfl d_Le_addStandard_115 ?_
    refine lv_iconst (v := 0) hx hb d_Le_addStandard_118 (by decide) ?_
    refine lv_aload_n hx hb d_Le_addStandard_119 rfl (lv_at hl 2 rfl) ?_
    refine va_get (D := D) (ci := 4) (v := .ref a_Le_images) (C := "RemnantDictionary$Lexicon") (T := T_Le) (N := 14) hx hb hts iw_Le hown hK hP 0 rfl rfl 7 (by decide) (hts _ k_249) (fun _ h9 => h9) rfl d_Le_addStandard_120 ?_
    refine lv_iload_n hx hb d_Le_addStandard_123 rfl (lv_at hl 1 rfl) ?_
    refine lv_bipush (v := 40) hx hb d_Le_addStandard_124 (by decide) ?_
    refine g_copy hx hb (hml.trans hl.1.symm) hown (hts _ k_244) (hts _ k_106) (hts _ k_107) (hts _ k_108) hK hP hD hS 6 2 0 rfl rfl rfl rfl hrun (Nat.le_of_ble_eq_true rfl) (by decide) d_Le_addStandard_126 (fun Le_images_12 hrun H locs (hP : va_P D classes (ws_addStandard a_Le a_Le_standard a_Le_images a_Le_steps a_Le_mixes a_Le_pivots a_Le_image a_Le_rest a_Le_mix a_Le_heads a_Le_tails cI cL cZ Le_prime Le_size Le_count Le_standardCount Le_standard Le_images_12 Le_steps_8 Le_mixes_10 Le_pivots Le_image Le_rest Le_mix_3) H) (hD : va_D A (ws_addStandard a_Le a_Le_standard a_Le_images a_Le_steps a_Le_mixes a_Le_pivots a_Le_image a_Le_rest a_Le_mix a_Le_heads a_Le_tails cI cL cZ Le_prime Le_size Le_count Le_standardCount Le_standard Le_images_12 Le_steps_8 Le_mixes_10 Le_pivots Le_image Le_rest Le_mix_3)) hS => ?_)
    refine lv_aload_n hx hb d_Le_addStandard_129 rfl (lv_at hl 2 rfl) ?_
    refine va_get (D := D) (ci := 4) (v := .ref a_Le_pivots) (C := "RemnantDictionary$Lexicon") (T := T_Le) (N := 14) hx hb hts iw_Le hown hK hP 0 rfl rfl 10 (by decide) (hts _ k_236) (fun _ h9 => h9) rfl d_Le_addStandard_130 ?_
    refine lv_aload_n hx hb d_Le_addStandard_133 rfl (lv_at hl 2 rfl) ?_
    refine va_get (D := D) (ci := 4) (v := .int Le_standardCount) (C := "RemnantDictionary$Lexicon") (T := T_Le) (N := 14) hx hb hts iw_Le hown hK hP 0 rfl rfl 6 (by decide) (hts _ k_229) (fun _ h9 => h9) rfl d_Le_addStandard_134 ?_
    refine lv_iload_n hx hb d_Le_addStandard_137 rfl (lv_at hl 4 rfl) ?_
    refine g_iast hx hb hK hP hD hS 5 0 rfl rfl hrun d_Le_addStandard_138 (fun Le_pivots_13 hrun H locs (hP : va_P D classes (ws_addStandard a_Le a_Le_standard a_Le_images a_Le_steps a_Le_mixes a_Le_pivots a_Le_image a_Le_rest a_Le_mix a_Le_heads a_Le_tails cI cL cZ Le_prime Le_size Le_count Le_standardCount Le_standard Le_images_12 Le_steps_8 Le_mixes_10 Le_pivots_13 Le_image Le_rest Le_mix_3) H) (hD : va_D A (ws_addStandard a_Le a_Le_standard a_Le_images a_Le_steps a_Le_mixes a_Le_pivots a_Le_image a_Le_rest a_Le_mix a_Le_heads a_Le_tails cI cL cZ Le_prime Le_size Le_count Le_standardCount Le_standard Le_images_12 Le_steps_8 Le_mixes_10 Le_pivots_13 Le_image Le_rest Le_mix_3)) hS => ?_)
    refine lv_aload_n hx hb d_Le_addStandard_139 rfl (lv_at hl 2 rfl) ?_
    refine va_get (D := D) (ci := 4) (v := .ref a_Le_standard) (C := "RemnantDictionary$Lexicon") (T := T_Le) (N := 14) hx hb hts iw_Le hown hK hP 0 rfl rfl 5 (by decide) (hts _ k_230) (fun _ h9 => h9) rfl d_Le_addStandard_140 ?_
    refine lv_aload_n hx hb d_Le_addStandard_143 rfl (lv_at hl 2 rfl) ?_
    refine va_get (D := D) (ci := 4) (v := .int Le_standardCount) (C := "RemnantDictionary$Lexicon") (T := T_Le) (N := 14) hx hb hts iw_Le hown hK hP 0 rfl rfl 6 (by decide) (hts _ k_229) (fun _ h9 => h9) rfl d_Le_addStandard_144 ?_
    refine lv_iload_n hx hb d_Le_addStandard_147 rfl (lv_at hl 3 rfl) ?_
    refine g_iast hx hb hK hP hD hS 1 0 rfl rfl hrun d_Le_addStandard_148 (fun Le_standard_14 hrun H locs (hP : va_P D classes (ws_addStandard a_Le a_Le_standard a_Le_images a_Le_steps a_Le_mixes a_Le_pivots a_Le_image a_Le_rest a_Le_mix a_Le_heads a_Le_tails cI cL cZ Le_prime Le_size Le_count Le_standardCount Le_standard_14 Le_images_12 Le_steps_8 Le_mixes_10 Le_pivots_13 Le_image Le_rest Le_mix_3) H) (hD : va_D A (ws_addStandard a_Le a_Le_standard a_Le_images a_Le_steps a_Le_mixes a_Le_pivots a_Le_image a_Le_rest a_Le_mix a_Le_heads a_Le_tails cI cL cZ Le_prime Le_size Le_count Le_standardCount Le_standard_14 Le_images_12 Le_steps_8 Le_mixes_10 Le_pivots_13 Le_image Le_rest Le_mix_3)) hS => ?_)
    refine lv_aload_n hx hb d_Le_addStandard_149 rfl (lv_at hl 2 rfl) ?_
    refine lv_dup hx hb d_Le_addStandard_150 rfl ?_
    refine va_get (D := D) (ci := 4) (v := .int Le_standardCount) (C := "RemnantDictionary$Lexicon") (T := T_Le) (N := 14) hx hb hts iw_Le hown hK hP 0 rfl rfl 6 (by decide) (hts _ k_229) (fun _ h9 => h9) rfl d_Le_addStandard_151 ?_
    refine lv_iconst (v := 1) hx hb d_Le_addStandard_154 (by decide) ?_
    refine lv_iadd hx hb d_Le_addStandard_155 ?_
    refine va_put (D := D) (ci := 4) (v := .int (Le_standardCount + 1)) (ty := .int) (C := "RemnantDictionary$Lexicon") (T := T_Le) (N := 14) hx hb hts iw_Le ty_Le ty_Le_ok nm_Le hown hK hP hD hS 0 rfl rfl 6 (by decide) (hts _ k_229) (fun _ h9 => h9) rfl (by decide +kernel) rfl rfl (Nat.le_of_ble_eq_true rfl) d_Le_addStandard_156 (fun H locs (hP : va_P D classes (ws_addStandard a_Le a_Le_standard a_Le_images a_Le_steps a_Le_mixes a_Le_pivots a_Le_image a_Le_rest a_Le_mix a_Le_heads a_Le_tails cI cL cZ Le_prime Le_size Le_count (Le_standardCount + 1) Le_standard_14 Le_images_12 Le_steps_8 Le_mixes_10 Le_pivots_13 Le_image Le_rest Le_mix_3) H) (hD : va_D A (ws_addStandard a_Le a_Le_standard a_Le_images a_Le_steps a_Le_mixes a_Le_pivots a_Le_image a_Le_rest a_Le_mix a_Le_heads a_Le_tails cI cL cZ Le_prime Le_size Le_count (Le_standardCount + 1) Le_standard_14 Le_images_12 Le_steps_8 Le_mixes_10 Le_pivots_13 Le_image Le_rest Le_mix_3)) hS => ?_)
    cases hrun
    exact W.vret hx hb hr (fun t ht hW => ⟨⟨(), rfl, trivial, gB_of ht hW.alike hP hK hD⟩, hS.F ht⟩) hS.2.2 d_Le_addStandard_159
set_option maxHeartbeats 4000000 in
set_option maxRecDepth 100000 in
theorem c_addStandard (l : Launch) (D : va_G) (cI cL cZ : ClassId) (a_Le a_Le_standard a_Le_images a_Le_steps a_Le_mixes a_Le_pivots a_Le_image a_Le_rest a_Le_mix a_Le_heads a_Le_tails : Nat) (F : Nat) (Le_prime Le_size Le_count Le_standardCount : Int32) (Le_standard Le_images Le_steps Le_mixes Le_pivots Le_image Le_rest Le_mix : Nat → Int32) (i1 i2 : Int32) (sz : Nat) (Le_standardCount_r : Int32) (Le_standard_r Le_images_r Le_steps_r Le_mixes_r Le_pivots_r Le_mix_r : Nat → Int32) (hrun : m_addStandard F Le_prime Le_size Le_image Le_rest i1 i2 Le_standardCount Le_standard Le_images Le_steps Le_mixes Le_pivots Le_mix = some (Le_standardCount_r, Le_standard_r, Le_images_r, Le_steps_r, Le_mixes_r, Le_pivots_r, Le_mix_r)) : Met l y_Le_addStandard (.code y_Le_addStandard c_Le_addStandardb 5 none :: gAll) rm_addStandard (va_Pc [.ref a_Le, .int i1, .int i2] (gPW D (gT cI cL cZ) (ws_addStandard a_Le a_Le_standard a_Le_images a_Le_steps a_Le_mixes a_Le_pivots a_Le_image a_Le_rest a_Le_mix a_Le_heads a_Le_tails cI cL cZ Le_prime Le_size Le_count Le_standardCount Le_standard Le_images Le_steps Le_mixes Le_pivots Le_image Le_rest Le_mix) sz)) (va_Qv (fun _ : Unit => True) (gB D (gT cI cL cZ) (va_A (ws_addStandard a_Le a_Le_standard a_Le_images a_Le_steps a_Le_mixes a_Le_pivots a_Le_image a_Le_rest a_Le_mix a_Le_heads a_Le_tails cI cL cZ Le_prime Le_size Le_count Le_standardCount Le_standard Le_images Le_steps Le_mixes Le_pivots Le_image Le_rest Le_mix) sz) (ws_addStandard a_Le a_Le_standard a_Le_images a_Le_steps a_Le_mixes a_Le_pivots a_Le_image a_Le_rest a_Le_mix a_Le_heads a_Le_tails cI cL cZ Le_prime Le_size Le_count Le_standardCount_r Le_standard_r Le_images_r Le_steps_r Le_mixes_r Le_pivots_r Le_image Le_rest Le_mix_r)) (va_A (ws_addStandard a_Le a_Le_standard a_Le_images a_Le_steps a_Le_mixes a_Le_pivots a_Le_image a_Le_rest a_Le_mix a_Le_heads a_Le_tails cI cL cZ Le_prime Le_size Le_count Le_standardCount Le_standard Le_images Le_steps Le_mixes Le_pivots Le_image Le_rest Le_mix) sz)) 0 0 (va_A (ws_addStandard a_Le a_Le_standard a_Le_images a_Le_steps a_Le_mixes a_Le_pivots a_Le_image a_Le_rest a_Le_mix a_Le_heads a_Le_tails cI cL cZ Le_prime Le_size Le_count Le_standardCount Le_standard Le_images Le_steps Le_mixes Le_pivots Le_image Le_rest Le_mix) sz) := by
  refine Met.ofW (cc := c_Le_addStandardb) (maxL := 5) (ret := none) (by decide +kernel) rfl ?_
  intro p e s m args below meth c s₁ B hml hv
  obtain ⟨rfl, hsz, hP, hK, hN, hD0⟩ := hv
  subst hsz
  have hD := hD0.self (sz := s.heap.size)
  have hl := lv_entry ([.ref a_Le, .int i1, .int i2]) (n := 5) (Nat.le_of_ble_eq_true rfl)
  rw [lg_entry_eq]
  generalize (lg_sl ([.ref a_Le, .int i1, .int i2]) ++ List.replicate (5 - (lg_sl ([.ref a_Le, .int i1, .int i2])).length) Slot.unset).toArray = ls at hl ⊢
  exact e_addStandard (p, l, e, s, m, ([.ref a_Le, .int i1, .int i2] : List Value).toArray, below, meth, c) D cI cL cZ a_Le a_Le_standard a_Le_images a_Le_steps a_Le_mixes a_Le_pivots a_Le_image a_Le_rest a_Le_mix a_Le_heads a_Le_tails (va_A (ws_addStandard a_Le a_Le_standard a_Le_images a_Le_steps a_Le_mixes a_Le_pivots a_Le_image a_Le_rest a_Le_mix a_Le_heads a_Le_tails cI cL cZ Le_prime Le_size Le_count Le_standardCount Le_standard Le_images Le_steps Le_mixes Le_pivots Le_image Le_rest Le_mix) s.heap.size) Le_prime Le_size Le_count Le_image Le_rest Le_standardCount_r Le_standard_r Le_images_r Le_steps_r Le_mixes_r Le_pivots_r Le_mix_r F ⟨B.exec, B.bytes, B.returns, hml, findClass_of_methodNamed B.named, fun w h => atoms_spec (ws := (.code y_Le_addStandard c_Le_addStandardb 5 none :: gAll)) B.pre w (List.mem_cons_of_mem _ h), B.notSynchronized⟩ hK (fun q h => Or.inr h) hN i1 i2 Le_standardCount Le_standard Le_images Le_steps Le_mixes Le_pivots Le_mix hrun s.heap [] ls hP hD va_S.rf hl
