theorem d_Mo_insert_0 : decode c_Mo_insertb 0 = .ok (.aload_n 0, 1) := by decide +kernel
theorem d_Mo_insert_1 : decode c_Mo_insertb 1 = .ok (.getfield 38, 3) := by decide +kernel
theorem d_Mo_insert_4 : decode c_Mo_insertb 4 = .ok (.bipush 126, 2) := by decide +kernel
theorem d_Mo_insert_6 : decode c_Mo_insertb 6 = .ok (.if_icmp .lt 4, 3) := by decide +kernel
theorem d_Mo_insert_9 : decode c_Mo_insertb 9 = .ok (.return_, 1) := by decide +kernel
theorem d_Mo_insert_10 : decode c_Mo_insertb 10 = .ok (.iload_n 1, 1) := by decide +kernel
theorem d_Mo_insert_11 : decode c_Mo_insertb 11 = .ok (.aload_n 0, 1) := by decide +kernel
theorem d_Mo_insert_12 : decode c_Mo_insertb 12 = .ok (.getfield 29, 3) := by decide +kernel
theorem d_Mo_insert_15 : decode c_Mo_insertb 15 = .ok (.invokestatic 62, 3) := by decide +kernel
theorem d_Mo_insert_18 : decode c_Mo_insertb 18 = .ok (.lstore_n 2, 1) := by decide +kernel
theorem d_Mo_insert_19 : decode c_Mo_insertb 19 = .ok (.aload_n 0, 1) := by decide +kernel
theorem d_Mo_insert_20 : decode c_Mo_insertb 20 = .ok (.getfield 38, 3) := by decide +kernel
theorem d_Mo_insert_23 : decode c_Mo_insertb 23 = .ok (.istore 4, 2) := by decide +kernel
theorem d_Mo_insert_25 : decode c_Mo_insertb 25 = .ok (.iload 4, 2) := by decide +kernel
theorem d_Mo_insert_27 : decode c_Mo_insertb 27 = .ok (.ifCond .le 55, 3) := by decide +kernel
theorem d_Mo_insert_30 : decode c_Mo_insertb 30 = .ok (.aload_n 0, 1) := by decide +kernel
theorem d_Mo_insert_31 : decode c_Mo_insertb 31 = .ok (.getfield 18, 3) := by decide +kernel
theorem d_Mo_insert_34 : decode c_Mo_insertb 34 = .ok (.iload 4, 2) := by decide +kernel
theorem d_Mo_insert_36 : decode c_Mo_insertb 36 = .ok (.iconst 1, 1) := by decide +kernel
theorem d_Mo_insert_37 : decode c_Mo_insertb 37 = .ok (.isub, 1) := by decide +kernel
theorem d_Mo_insert_38 : decode c_Mo_insertb 38 = .ok (.laload, 1) := by decide +kernel
theorem d_Mo_insert_39 : decode c_Mo_insertb 39 = .ok (.lload_n 2, 1) := by decide +kernel
theorem d_Mo_insert_40 : decode c_Mo_insertb 40 = .ok (.lcmp, 1) := by decide +kernel
theorem d_Mo_insert_41 : decode c_Mo_insertb 41 = .ok (.ifCond .le 41, 3) := by decide +kernel
theorem d_Mo_insert_44 : decode c_Mo_insertb 44 = .ok (.aload_n 0, 1) := by decide +kernel
theorem d_Mo_insert_45 : decode c_Mo_insertb 45 = .ok (.getfield 18, 3) := by decide +kernel
theorem d_Mo_insert_48 : decode c_Mo_insertb 48 = .ok (.iload 4, 2) := by decide +kernel
theorem d_Mo_insert_50 : decode c_Mo_insertb 50 = .ok (.aload_n 0, 1) := by decide +kernel
theorem d_Mo_insert_51 : decode c_Mo_insertb 51 = .ok (.getfield 18, 3) := by decide +kernel
theorem d_Mo_insert_54 : decode c_Mo_insertb 54 = .ok (.iload 4, 2) := by decide +kernel
theorem d_Mo_insert_56 : decode c_Mo_insertb 56 = .ok (.iconst 1, 1) := by decide +kernel
theorem d_Mo_insert_57 : decode c_Mo_insertb 57 = .ok (.isub, 1) := by decide +kernel
theorem d_Mo_insert_58 : decode c_Mo_insertb 58 = .ok (.laload, 1) := by decide +kernel
theorem d_Mo_insert_59 : decode c_Mo_insertb 59 = .ok (.lastore, 1) := by decide +kernel
theorem d_Mo_insert_60 : decode c_Mo_insertb 60 = .ok (.aload_n 0, 1) := by decide +kernel
theorem d_Mo_insert_61 : decode c_Mo_insertb 61 = .ok (.getfield 9, 3) := by decide +kernel
theorem d_Mo_insert_64 : decode c_Mo_insertb 64 = .ok (.iload 4, 2) := by decide +kernel
theorem d_Mo_insert_66 : decode c_Mo_insertb 66 = .ok (.aload_n 0, 1) := by decide +kernel
theorem d_Mo_insert_67 : decode c_Mo_insertb 67 = .ok (.getfield 9, 3) := by decide +kernel
theorem d_Mo_insert_70 : decode c_Mo_insertb 70 = .ok (.iload 4, 2) := by decide +kernel
theorem d_Mo_insert_72 : decode c_Mo_insertb 72 = .ok (.iconst 1, 1) := by decide +kernel
theorem d_Mo_insert_73 : decode c_Mo_insertb 73 = .ok (.isub, 1) := by decide +kernel
theorem d_Mo_insert_74 : decode c_Mo_insertb 74 = .ok (.iaload, 1) := by decide +kernel
theorem d_Mo_insert_75 : decode c_Mo_insertb 75 = .ok (.iastore, 1) := by decide +kernel
theorem d_Mo_insert_76 : decode c_Mo_insertb 76 = .ok (.iinc 4 (-1), 3) := by decide +kernel
theorem d_Mo_insert_79 : decode c_Mo_insertb 79 = .ok (.goto (-54), 3) := by decide +kernel
theorem d_Mo_insert_82 : decode c_Mo_insertb 82 = .ok (.aload_n 0, 1) := by decide +kernel
theorem d_Mo_insert_83 : decode c_Mo_insertb 83 = .ok (.getfield 18, 3) := by decide +kernel
theorem d_Mo_insert_86 : decode c_Mo_insertb 86 = .ok (.iload 4, 2) := by decide +kernel
theorem d_Mo_insert_88 : decode c_Mo_insertb 88 = .ok (.lload_n 2, 1) := by decide +kernel
theorem d_Mo_insert_89 : decode c_Mo_insertb 89 = .ok (.lastore, 1) := by decide +kernel
theorem d_Mo_insert_90 : decode c_Mo_insertb 90 = .ok (.aload_n 0, 1) := by decide +kernel
theorem d_Mo_insert_91 : decode c_Mo_insertb 91 = .ok (.getfield 9, 3) := by decide +kernel
theorem d_Mo_insert_94 : decode c_Mo_insertb 94 = .ok (.iload 4, 2) := by decide +kernel
theorem d_Mo_insert_96 : decode c_Mo_insertb 96 = .ok (.iload_n 1, 1) := by decide +kernel
theorem d_Mo_insert_97 : decode c_Mo_insertb 97 = .ok (.iastore, 1) := by decide +kernel
theorem d_Mo_insert_98 : decode c_Mo_insertb 98 = .ok (.aload_n 0, 1) := by decide +kernel
theorem d_Mo_insert_99 : decode c_Mo_insertb 99 = .ok (.dup, 1) := by decide +kernel
theorem d_Mo_insert_100 : decode c_Mo_insertb 100 = .ok (.getfield 38, 3) := by decide +kernel
theorem d_Mo_insert_103 : decode c_Mo_insertb 103 = .ok (.iconst 1, 1) := by decide +kernel
theorem d_Mo_insert_104 : decode c_Mo_insertb 104 = .ok (.iadd, 1) := by decide +kernel
theorem d_Mo_insert_105 : decode c_Mo_insertb 105 = .ok (.putfield 38, 3) := by decide +kernel
theorem d_Mo_insert_108 : decode c_Mo_insertb 108 = .ok (.return_, 1) := by decide +kernel
abbrev ws_insert (a_Mo a_Mo_codes a_Mo_keys a_Mo_degrees a_Mo_raised : Nat) (cI cL cZ : ClassId) (Mo_variables Mo_order Mo_highest Mo_count : Int32) (Mo_codes : Nat → Int32) (Mo_keys : Nat → Int64) : va_W := [(a_Mo, .inr (1, [.int Mo_variables, .int Mo_order, .int Mo_highest, .int Mo_count, .ref a_Mo_codes, .ref a_Mo_degrees, .ref a_Mo_keys, .ref a_Mo_raised])), (a_Mo_codes, .inl (cI, 126, .inl Mo_codes)), (a_Mo_keys, .inl (cL, 126, .inr (.inl Mo_keys)))]
abbrev rm_insert : Room := { frames := 3, cells := 0, slots := 0, locals := 66 }
abbrev g_insert (X : gX) (D : va_G) (cI cL cZ : ClassId) (a_Mo a_Mo_codes a_Mo_keys a_Mo_degrees a_Mo_raised : Nat) (A : Nat → Prop) (Mo_variables Mo_order Mo_highest Mo_count_r : Int32) (Mo_codes_r : Nat → Int32) (Mo_keys_r : Nat → Int64) (pc : Nat) (lv : List (Nat × Value)) (st : List Value) (Mo_count : Int32) (Mo_codes : Nat → Int32) (Mo_keys : Nat → Int64) : Prop := ∀ (H : Heap) (locs : List Loc) (ls : Array Slot), va_P D classes (ws_insert a_Mo a_Mo_codes a_Mo_keys a_Mo_degrees a_Mo_raised cI cL cZ Mo_variables Mo_order Mo_highest Mo_count Mo_codes Mo_keys) H → va_D A (ws_insert a_Mo a_Mo_codes a_Mo_keys a_Mo_degrees a_Mo_raised cI cL cZ Mo_variables Mo_order Mo_highest Mo_count Mo_codes Mo_keys) → va_S A (gs X).heap H locs → lv_has ls 5 lv → gWW X rm_insert H locs 0 0 (MQ (gbl X) (va_Qv (fun _ : Unit => True) (gB D (gT cI cL cZ) A (ws_insert a_Mo a_Mo_codes a_Mo_keys a_Mo_degrees a_Mo_raised cI cL cZ Mo_variables Mo_order Mo_highest Mo_count_r Mo_codes_r Mo_keys_r)) A) (ga X) (gs X) 0 0 A) (F0 (gm X) pc ls st)
set_option maxHeartbeats 4000000 in
set_option maxRecDepth 100000 in
theorem w_insert_82 (X : gX) (D : va_G) (cI cL cZ : ClassId) (a_Mo a_Mo_codes a_Mo_keys a_Mo_degrees a_Mo_raised : Nat) (A : Nat → Prop) (Mo_variables Mo_order Mo_highest Mo_count_r : Int32) (Mo_codes_r : Nat → Int32) (Mo_keys_r : Nat → Int64) (F : Nat) (C0 : gC X c_Mo_insertb none 5 "RemnantDictionary$Monomials" gAll) (hK : va_K D classes (gT cI cL cZ) (gs X)) (hA : ∀ q : Nat, (gs X).heap.size ≤ q → A q) (hN : gN (gs X))  (i1 : Int32) (l2 : Int64) (i4 Mo_count : Int32) (Mo_codes : Nat → Int32) (Mo_keys : Nat → Int64) (hrun : s_insert_82 F Mo_order i1 l2 i4 Mo_count Mo_codes Mo_keys = some (Mo_count_r, Mo_codes_r, Mo_keys_r)) : g_insert X D cI cL cZ a_Mo a_Mo_codes a_Mo_keys a_Mo_degrees a_Mo_raised A Mo_variables Mo_order Mo_highest Mo_count_r Mo_codes_r Mo_keys_r 82 [(0, .ref a_Mo), (1, .int i1), (2, .long l2), (4, .int i4)] [] Mo_count Mo_codes Mo_keys := by
  have C1 := C0
  obtain ⟨hx, hb, hr, hml, hown, hts, hlocks⟩ := C1
  unfold s_insert_82 at hrun
  intro H locs ls hP hD hS hl
  refine lv_aload_n hx hb d_Mo_insert_82 rfl (lv_at hl 0 rfl) ?_
  refine va_get (D := D) (ci := 1) (v := .ref a_Mo_keys) (C := "RemnantDictionary$Monomials") (T := T_Mo) (N := 8) hx hb hts iw_Mo hown hK hP 0 rfl rfl 6 (by decide) (hts _ k_39) (fun _ h9 => h9) rfl d_Mo_insert_83 ?_
  refine lv_iload hx hb d_Mo_insert_86 (lv_at hl 3 rfl) ?_
  refine lv_lload_n hx hb d_Mo_insert_88 rfl (lv_at hl 2 rfl) ?_
  refine g_last hx hb hK hP hD hS 2 1 rfl rfl hrun d_Mo_insert_89 (fun Mo_keys_1 hrun H locs (hP : va_P D classes (ws_insert a_Mo a_Mo_codes a_Mo_keys a_Mo_degrees a_Mo_raised cI cL cZ Mo_variables Mo_order Mo_highest Mo_count Mo_codes Mo_keys_1) H) (hD : va_D A (ws_insert a_Mo a_Mo_codes a_Mo_keys a_Mo_degrees a_Mo_raised cI cL cZ Mo_variables Mo_order Mo_highest Mo_count Mo_codes Mo_keys_1)) hS => ?_)
  refine lv_aload_n hx hb d_Mo_insert_90 rfl (lv_at hl 0 rfl) ?_
  refine va_get (D := D) (ci := 1) (v := .ref a_Mo_codes) (C := "RemnantDictionary$Monomials") (T := T_Mo) (N := 8) hx hb hts iw_Mo hown hK hP 0 rfl rfl 4 (by decide) (hts _ k_40) (fun _ h9 => h9) rfl d_Mo_insert_91 ?_
  refine lv_iload hx hb d_Mo_insert_94 (lv_at hl 3 rfl) ?_
  refine lv_iload_n hx hb d_Mo_insert_96 rfl (lv_at hl 1 rfl) ?_
  refine g_iast hx hb hK hP hD hS 1 0 rfl rfl hrun d_Mo_insert_97 (fun Mo_codes_2 hrun H locs (hP : va_P D classes (ws_insert a_Mo a_Mo_codes a_Mo_keys a_Mo_degrees a_Mo_raised cI cL cZ Mo_variables Mo_order Mo_highest Mo_count Mo_codes_2 Mo_keys_1) H) (hD : va_D A (ws_insert a_Mo a_Mo_codes a_Mo_keys a_Mo_degrees a_Mo_raised cI cL cZ Mo_variables Mo_order Mo_highest Mo_count Mo_codes_2 Mo_keys_1)) hS => ?_)
  refine lv_aload_n hx hb d_Mo_insert_98 rfl (lv_at hl 0 rfl) ?_
  refine lv_dup hx hb d_Mo_insert_99 rfl ?_
  refine va_get (D := D) (ci := 1) (v := .int Mo_count) (C := "RemnantDictionary$Monomials") (T := T_Mo) (N := 8) hx hb hts iw_Mo hown hK hP 0 rfl rfl 3 (by decide) (hts _ k_41) (fun _ h9 => h9) rfl d_Mo_insert_100 ?_
  refine lv_iconst (v := 1) hx hb d_Mo_insert_103 (by decide) ?_
  refine lv_iadd hx hb d_Mo_insert_104 ?_
  refine va_put (D := D) (ci := 1) (v := .int (Mo_count + 1)) (ty := .int) (C := "RemnantDictionary$Monomials") (T := T_Mo) (N := 8) hx hb hts iw_Mo ty_Mo ty_Mo_ok nm_Mo hown hK hP hD hS 0 rfl rfl 3 (by decide) (hts _ k_41) (fun _ h9 => h9) rfl (by decide +kernel) rfl rfl (Nat.le_of_ble_eq_true rfl) d_Mo_insert_105 (fun H locs (hP : va_P D classes (ws_insert a_Mo a_Mo_codes a_Mo_keys a_Mo_degrees a_Mo_raised cI cL cZ Mo_variables Mo_order Mo_highest (Mo_count + 1) Mo_codes_2 Mo_keys_1) H) (hD : va_D A (ws_insert a_Mo a_Mo_codes a_Mo_keys a_Mo_degrees a_Mo_raised cI cL cZ Mo_variables Mo_order Mo_highest (Mo_count + 1) Mo_codes_2 Mo_keys_1)) hS => ?_)
  cases hrun
  exact W.vret hx hb hr (fun t ht hW => ⟨⟨(), rfl, trivial, gB_of ht hW.alike hP hK hD⟩, hS.F ht⟩) hS.2.2 d_Mo_insert_108
set_option maxHeartbeats 4000000 in
set_option maxRecDepth 100000 in
theorem w_insert_25 (X : gX) (D : va_G) (cI cL cZ : ClassId) (a_Mo a_Mo_codes a_Mo_keys a_Mo_degrees a_Mo_raised : Nat) (A : Nat → Prop) (Mo_variables Mo_order Mo_highest Mo_count_r : Int32) (Mo_codes_r : Nat → Int32) (Mo_keys_r : Nat → Int64) (F : Nat) (C0 : gC X c_Mo_insertb none 5 "RemnantDictionary$Monomials" gAll) (hK : va_K D classes (gT cI cL cZ) (gs X)) (hA : ∀ q : Nat, (gs X).heap.size ≤ q → A q) (hN : gN (gs X)) (k25 : Int32 → Int64 → Int32 → Int32 → (Nat → Int32) → (Nat → Int64) → Option (Int32 × (Nat → Int32) × (Nat → Int64))) (hk25 : ∀ (i1 : Int32) (l2 : Int64) (i4 Mo_count : Int32) (Mo_codes : Nat → Int32) (Mo_keys : Nat → Int64), k25 i1 l2 i4 Mo_count Mo_codes Mo_keys = some (Mo_count_r, Mo_codes_r, Mo_keys_r) → g_insert X D cI cL cZ a_Mo a_Mo_codes a_Mo_keys a_Mo_degrees a_Mo_raised A Mo_variables Mo_order Mo_highest Mo_count_r Mo_codes_r Mo_keys_r 25 [(0, .ref a_Mo), (1, .int i1), (2, .long l2), (4, .int i4)] [] Mo_count Mo_codes Mo_keys) (i1 : Int32) (l2 : Int64) (i4 Mo_count : Int32) (Mo_codes : Nat → Int32) (Mo_keys : Nat → Int64) (hrun : s_insert_25 F Mo_order k25 i1 l2 i4 Mo_count Mo_codes Mo_keys = some (Mo_count_r, Mo_codes_r, Mo_keys_r)) : g_insert X D cI cL cZ a_Mo a_Mo_codes a_Mo_keys a_Mo_degrees a_Mo_raised A Mo_variables Mo_order Mo_highest Mo_count_r Mo_codes_r Mo_keys_r 25 [(0, .ref a_Mo), (1, .int i1), (2, .long l2), (4, .int i4)] [] Mo_count Mo_codes Mo_keys := by
  have C1 := C0
  obtain ⟨hx, hb, hr, hml, hown, hts, hlocks⟩ := C1
  unfold s_insert_25 at hrun
  intro H locs ls hP hD hS hl
  refine lv_iload hx hb d_Mo_insert_25 (lv_at hl 3 rfl) ?_
  refine g_if_le (tgt := 82) hx hb d_Mo_insert_27 (by decide) hrun (fun _ hrun => ?_) (fun _ hrun => ?_)
  · exact w_insert_82 X D cI cL cZ a_Mo a_Mo_codes a_Mo_keys a_Mo_degrees a_Mo_raised A Mo_variables Mo_order Mo_highest Mo_count_r Mo_codes_r Mo_keys_r F C0 hK hA hN  i1 l2 i4 Mo_count Mo_codes Mo_keys hrun H locs ls hP hD hS (lv_sub hl [0, 1, 2, 3] rfl)
  · refine lv_aload_n hx hb d_Mo_insert_30 rfl (lv_at hl 0 rfl) ?_
    refine va_get (D := D) (ci := 1) (v := .ref a_Mo_keys) (C := "RemnantDictionary$Monomials") (T := T_Mo) (N := 8) hx hb hts iw_Mo hown hK hP 0 rfl rfl 6 (by decide) (hts _ k_39) (fun _ h9 => h9) rfl d_Mo_insert_31 ?_
    refine lv_iload hx hb d_Mo_insert_34 (lv_at hl 3 rfl) ?_
    refine lv_iconst (v := 1) hx hb d_Mo_insert_36 (by decide) ?_
    refine lv_isub hx hb d_Mo_insert_37 ?_
    refine g_lald hx hb hK hP 2 1 rfl rfl hrun d_Mo_insert_38 (fun x_1 hrun => ?_)
    refine lv_lload_n hx hb d_Mo_insert_39 rfl (lv_at hl 2 rfl) ?_
    refine W.lcmp hx hb d_Mo_insert_40 ?_
    refine g_if_le (tgt := 82) hx hb d_Mo_insert_41 (by decide) hrun (fun _ hrun => ?_) (fun _ hrun => ?_)
    · exact w_insert_82 X D cI cL cZ a_Mo a_Mo_codes a_Mo_keys a_Mo_degrees a_Mo_raised A Mo_variables Mo_order Mo_highest Mo_count_r Mo_codes_r Mo_keys_r F C0 hK hA hN  i1 l2 i4 Mo_count Mo_codes Mo_keys hrun H locs ls hP hD hS (lv_sub hl [0, 1, 2, 3] rfl)
    · refine lv_aload_n hx hb d_Mo_insert_44 rfl (lv_at hl 0 rfl) ?_
      refine va_get (D := D) (ci := 1) (v := .ref a_Mo_keys) (C := "RemnantDictionary$Monomials") (T := T_Mo) (N := 8) hx hb hts iw_Mo hown hK hP 0 rfl rfl 6 (by decide) (hts _ k_39) (fun _ h9 => h9) rfl d_Mo_insert_45 ?_
      refine lv_iload hx hb d_Mo_insert_48 (lv_at hl 3 rfl) ?_
      refine lv_aload_n hx hb d_Mo_insert_50 rfl (lv_at hl 0 rfl) ?_
      refine va_get (D := D) (ci := 1) (v := .ref a_Mo_keys) (C := "RemnantDictionary$Monomials") (T := T_Mo) (N := 8) hx hb hts iw_Mo hown hK hP 0 rfl rfl 6 (by decide) (hts _ k_39) (fun _ h9 => h9) rfl d_Mo_insert_51 ?_
      refine lv_iload hx hb d_Mo_insert_54 (lv_at hl 3 rfl) ?_
      refine lv_iconst (v := 1) hx hb d_Mo_insert_56 (by decide) ?_
      refine lv_isub hx hb d_Mo_insert_57 ?_
      refine g_lald hx hb hK hP 2 1 rfl rfl hrun d_Mo_insert_58 (fun x_2 hrun => ?_)
      refine g_last hx hb hK hP hD hS 2 1 rfl rfl hrun d_Mo_insert_59 (fun Mo_keys_3 hrun H locs (hP : va_P D classes (ws_insert a_Mo a_Mo_codes a_Mo_keys a_Mo_degrees a_Mo_raised cI cL cZ Mo_variables Mo_order Mo_highest Mo_count Mo_codes Mo_keys_3) H) (hD : va_D A (ws_insert a_Mo a_Mo_codes a_Mo_keys a_Mo_degrees a_Mo_raised cI cL cZ Mo_variables Mo_order Mo_highest Mo_count Mo_codes Mo_keys_3)) hS => ?_)
      refine lv_aload_n hx hb d_Mo_insert_60 rfl (lv_at hl 0 rfl) ?_
      refine va_get (D := D) (ci := 1) (v := .ref a_Mo_codes) (C := "RemnantDictionary$Monomials") (T := T_Mo) (N := 8) hx hb hts iw_Mo hown hK hP 0 rfl rfl 4 (by decide) (hts _ k_40) (fun _ h9 => h9) rfl d_Mo_insert_61 ?_
      refine lv_iload hx hb d_Mo_insert_64 (lv_at hl 3 rfl) ?_
      refine lv_aload_n hx hb d_Mo_insert_66 rfl (lv_at hl 0 rfl) ?_
      refine va_get (D := D) (ci := 1) (v := .ref a_Mo_codes) (C := "RemnantDictionary$Monomials") (T := T_Mo) (N := 8) hx hb hts iw_Mo hown hK hP 0 rfl rfl 4 (by decide) (hts _ k_40) (fun _ h9 => h9) rfl d_Mo_insert_67 ?_
      refine lv_iload hx hb d_Mo_insert_70 (lv_at hl 3 rfl) ?_
      refine lv_iconst (v := 1) hx hb d_Mo_insert_72 (by decide) ?_
      refine lv_isub hx hb d_Mo_insert_73 ?_
      refine g_iald hx hb hK hP 1 0 rfl rfl hrun d_Mo_insert_74 (fun x_4 hrun => ?_)
      refine g_iast hx hb hK hP hD hS 1 0 rfl rfl hrun d_Mo_insert_75 (fun Mo_codes_5 hrun H locs (hP : va_P D classes (ws_insert a_Mo a_Mo_codes a_Mo_keys a_Mo_degrees a_Mo_raised cI cL cZ Mo_variables Mo_order Mo_highest Mo_count Mo_codes_5 Mo_keys_3) H) (hD : va_D A (ws_insert a_Mo a_Mo_codes a_Mo_keys a_Mo_degrees a_Mo_raised cI cL cZ Mo_variables Mo_order Mo_highest Mo_count Mo_codes_5 Mo_keys_3)) hS => ?_)
      refine lv_iinc (v := (i4 + (-1))) (lv' := [(4, .int (i4 + (-1))), (0, .ref a_Mo), (1, .int i1), (2, .long l2)]) hx hb d_Mo_insert_76 hl (k := 3) rfl rfl (by decide) rfl (fun ls hl => ?_)
      refine lv_goto (tgt := 25) hx hb d_Mo_insert_79 (by decide) ?_
      exact hk25 i1 l2 (i4 + (-1)) Mo_count Mo_codes_5 Mo_keys_3 hrun H locs ls hP hD hS (lv_sub hl [1, 2, 3, 0] rfl)
theorem v_insert_25 (X : gX) (D : va_G) (cI cL cZ : ClassId) (a_Mo a_Mo_codes a_Mo_keys a_Mo_degrees a_Mo_raised : Nat) (A : Nat → Prop) (Mo_variables Mo_order Mo_highest Mo_count_r : Int32) (Mo_codes_r : Nat → Int32) (Mo_keys_r : Nat → Int64) (F : Nat) (C0 : gC X c_Mo_insertb none 5 "RemnantDictionary$Monomials" gAll) (hK : va_K D classes (gT cI cL cZ) (gs X)) (hA : ∀ q : Nat, (gs X).heap.size ≤ q → A q) (hN : gN (gs X))  : ∀ (n : Nat) (i1 : Int32) (l2 : Int64) (i4 Mo_count : Int32) (Mo_codes : Nat → Int32) (Mo_keys : Nat → Int64), b_insert_25 F Mo_order n i1 l2 i4 Mo_count Mo_codes Mo_keys = some (Mo_count_r, Mo_codes_r, Mo_keys_r) → g_insert X D cI cL cZ a_Mo a_Mo_codes a_Mo_keys a_Mo_degrees a_Mo_raised A Mo_variables Mo_order Mo_highest Mo_count_r Mo_codes_r Mo_keys_r 25 [(0, .ref a_Mo), (1, .int i1), (2, .long l2), (4, .int i4)] [] Mo_count Mo_codes Mo_keys := by
  intro n
  induction n with
  | zero => intro i1 l2 i4 Mo_count Mo_codes Mo_keys hrun; cases hrun
  | succ n ih =>
    intro i1 l2 i4 Mo_count Mo_codes Mo_keys hrun
    exact w_insert_25 X D cI cL cZ a_Mo a_Mo_codes a_Mo_keys a_Mo_degrees a_Mo_raised A Mo_variables Mo_order Mo_highest Mo_count_r Mo_codes_r Mo_keys_r F C0 hK hA hN (b_insert_25 F Mo_order n) ih i1 l2 i4 Mo_count Mo_codes Mo_keys hrun
set_option maxHeartbeats 4000000 in
set_option maxRecDepth 100000 in
theorem e_insert (X : gX) (D : va_G) (cI cL cZ : ClassId) (a_Mo a_Mo_codes a_Mo_keys a_Mo_degrees a_Mo_raised : Nat) (A : Nat → Prop) (Mo_variables Mo_order Mo_highest Mo_count_r : Int32) (Mo_codes_r : Nat → Int32) (Mo_keys_r : Nat → Int64) (F : Nat) (C0 : gC X c_Mo_insertb none 5 "RemnantDictionary$Monomials" gAll) (hK : va_K D classes (gT cI cL cZ) (gs X)) (hA : ∀ q : Nat, (gs X).heap.size ≤ q → A q) (hN : gN (gs X)) (i1 Mo_count : Int32) (Mo_codes : Nat → Int32) (Mo_keys : Nat → Int64) (hrun : m_insert F Mo_order i1 Mo_count Mo_codes Mo_keys = some (Mo_count_r, Mo_codes_r, Mo_keys_r)) : g_insert X D cI cL cZ a_Mo a_Mo_codes a_Mo_keys a_Mo_degrees a_Mo_raised A Mo_variables Mo_order Mo_highest Mo_count_r Mo_codes_r Mo_keys_r 0 [(0, .ref a_Mo), (1, .int i1)] [] Mo_count Mo_codes Mo_keys := by
  have C1 := C0
  obtain ⟨hx, hb, hr, hml, hown, hts, hlocks⟩ := C1
  unfold m_insert at hrun
  intro H locs ls hP hD hS hl
  refine lv_aload_n hx hb d_Mo_insert_0 rfl (lv_at hl 0 rfl) ?_
  refine va_get (D := D) (ci := 1) (v := .int Mo_count) (C := "RemnantDictionary$Monomials") (T := T_Mo) (N := 8) hx hb hts iw_Mo hown hK hP 0 rfl rfl 3 (by decide) (hts _ k_41) (fun _ h9 => h9) rfl d_Mo_insert_1 ?_
  refine lv_bipush (v := 126) hx hb d_Mo_insert_4 (by decide) ?_
  refine g_icmp_lt (tgt := 10) hx hb d_Mo_insert_6 (by decide) hrun (fun _ hrun => ?_) (fun _ hrun => ?_)
  · refine lv_iload_n hx hb d_Mo_insert_10 rfl (lv_at hl 1 rfl) ?_
    refine lv_aload_n hx hb d_Mo_insert_11 rfl (lv_at hl 0 rfl) ?_
    refine va_get (D := D) (ci := 1) (v := .int Mo_order) (C := "RemnantDictionary$Monomials") (T := T_Mo) (N := 8) hx hb hts iw_Mo hown hK hP 0 rfl rfl 1 (by decide) (hts _ k_43) (fun _ h9 => h9) rfl d_Mo_insert_12 ?_
    obtain ⟨r_1, hc, hrun⟩ := bd1_s hrun
    refine vp_callSl (g_ofRun (va_runSN (As := [.int i1, .int Mo_order]) (rest := []) ⟨hx, hb, hml, hown, hts⟩ (c_key (gl X) F i1 Mo_order r_1 hc) (⟨va_cnB 2 hts (gwN k_24) rfl rfl rfl (hN.1 _ (List.mem_of_getElem? (i := 0) rfl)) (hts _ k_14) (by decide +kernel) ⟨Nat.le_of_ble_eq_true rfl, Nat.le_of_ble_eq_true rfl⟩, hts _ k_44, trivial⟩) (gpreS0 hN) rfl rfl hl.1 rfl (lv_room (Nat.le_of_ble_eq_true rfl)) d_Mo_insert_15 ⟨Nat.le_of_ble_eq_true rfl, Nat.le_of_ble_eq_true rfl⟩)) (nm_e ?_)
    refine lv_lstore_n (lv' := [(2, .long r_1), (0, .ref a_Mo), (1, .int i1)]) hx hb d_Mo_insert_18 rfl hl (by decide) rfl (fun ls hl => ?_)
    refine lv_aload_n hx hb d_Mo_insert_19 rfl (lv_at hl 1 rfl) ?_
    refine va_get (D := D) (ci := 1) (v := .int Mo_count) (C := "RemnantDictionary$Monomials") (T := T_Mo) (N := 8) hx hb hts iw_Mo hown hK hP 0 rfl rfl 3 (by decide) (hts _ k_41) (fun _ h9 => h9) rfl d_Mo_insert_20 ?_
    refine lv_istore (lv' := [(4, .int Mo_count), (2, .long r_1), (0, .ref a_Mo), (1, .int i1)]) hx hb d_Mo_insert_23 hl (by decide) rfl (fun ls hl => ?_)
    exact v_insert_25 X D cI cL cZ a_Mo a_Mo_codes a_Mo_keys a_Mo_degrees a_Mo_raised A Mo_variables Mo_order Mo_highest Mo_count_r Mo_codes_r Mo_keys_r F C0 hK hA hN  F i1 r_1 Mo_count Mo_count Mo_codes Mo_keys hrun H locs ls hP hD hS (lv_sub hl [2, 3, 1, 0] rfl)
  · cases hrun
    exact W.vret hx hb hr (fun t ht hW => ⟨⟨(), rfl, trivial, gB_of ht hW.alike hP hK hD⟩, hS.F ht⟩) hS.2.2 d_Mo_insert_9
set_option maxHeartbeats 4000000 in
set_option maxRecDepth 100000 in
theorem c_insert (l : Launch) (D : va_G) (cI cL cZ : ClassId) (a_Mo a_Mo_codes a_Mo_keys a_Mo_degrees a_Mo_raised : Nat) (F : Nat) (Mo_variables Mo_order Mo_highest Mo_count : Int32) (Mo_codes : Nat → Int32) (Mo_keys : Nat → Int64) (i1 : Int32) (sz : Nat) (Mo_count_r : Int32) (Mo_codes_r : Nat → Int32) (Mo_keys_r : Nat → Int64) (hrun : m_insert F Mo_order i1 Mo_count Mo_codes Mo_keys = some (Mo_count_r, Mo_codes_r, Mo_keys_r)) : Met l y_Mo_insert (.code y_Mo_insert c_Mo_insertb 5 none :: gAll) rm_insert (va_Pc [.ref a_Mo, .int i1] (gPW D (gT cI cL cZ) (ws_insert a_Mo a_Mo_codes a_Mo_keys a_Mo_degrees a_Mo_raised cI cL cZ Mo_variables Mo_order Mo_highest Mo_count Mo_codes Mo_keys) sz)) (va_Qv (fun _ : Unit => True) (gB D (gT cI cL cZ) (va_A (ws_insert a_Mo a_Mo_codes a_Mo_keys a_Mo_degrees a_Mo_raised cI cL cZ Mo_variables Mo_order Mo_highest Mo_count Mo_codes Mo_keys) sz) (ws_insert a_Mo a_Mo_codes a_Mo_keys a_Mo_degrees a_Mo_raised cI cL cZ Mo_variables Mo_order Mo_highest Mo_count_r Mo_codes_r Mo_keys_r)) (va_A (ws_insert a_Mo a_Mo_codes a_Mo_keys a_Mo_degrees a_Mo_raised cI cL cZ Mo_variables Mo_order Mo_highest Mo_count Mo_codes Mo_keys) sz)) 0 0 (va_A (ws_insert a_Mo a_Mo_codes a_Mo_keys a_Mo_degrees a_Mo_raised cI cL cZ Mo_variables Mo_order Mo_highest Mo_count Mo_codes Mo_keys) sz) := by
  refine Met.ofW (cc := c_Mo_insertb) (maxL := 5) (ret := none) (by decide +kernel) rfl ?_
  intro p e s m args below meth c s₁ B hml hv
  obtain ⟨rfl, hsz, hP, hK, hN, hD0⟩ := hv
  subst hsz
  have hD := hD0.self (sz := s.heap.size)
  have hl := lv_entry ([.ref a_Mo, .int i1]) (n := 5) (Nat.le_of_ble_eq_true rfl)
  rw [lg_entry_eq]
  generalize (lg_sl ([.ref a_Mo, .int i1]) ++ List.replicate (5 - (lg_sl ([.ref a_Mo, .int i1])).length) Slot.unset).toArray = ls at hl ⊢
  exact e_insert (p, l, e, s, m, ([.ref a_Mo, .int i1] : List Value).toArray, below, meth, c) D cI cL cZ a_Mo a_Mo_codes a_Mo_keys a_Mo_degrees a_Mo_raised (va_A (ws_insert a_Mo a_Mo_codes a_Mo_keys a_Mo_degrees a_Mo_raised cI cL cZ Mo_variables Mo_order Mo_highest Mo_count Mo_codes Mo_keys) s.heap.size) Mo_variables Mo_order Mo_highest Mo_count_r Mo_codes_r Mo_keys_r F ⟨B.exec, B.bytes, B.returns, hml, findClass_of_methodNamed B.named, fun w h => atoms_spec (ws := (.code y_Mo_insert c_Mo_insertb 5 none :: gAll)) B.pre w (List.mem_cons_of_mem _ h), B.notSynchronized⟩ hK (fun q h => Or.inr h) hN i1 Mo_count Mo_codes Mo_keys hrun s.heap [] ls hP hD va_S.rf hl
theorem d_Mo_rank_0 : decode c_Mo_rankb 0 = .ok (.iload_n 1, 1) := by decide +kernel
theorem d_Mo_rank_1 : decode c_Mo_rankb 1 = .ok (.aload_n 0, 1) := by decide +kernel
theorem d_Mo_rank_2 : decode c_Mo_rankb 2 = .ok (.getfield 29, 3) := by decide +kernel
theorem d_Mo_rank_5 : decode c_Mo_rankb 5 = .ok (.invokestatic 62, 3) := by decide +kernel
theorem d_Mo_rank_8 : decode c_Mo_rankb 8 = .ok (.lstore_n 2, 1) := by decide +kernel
theorem d_Mo_rank_9 : decode c_Mo_rankb 9 = .ok (.iconst 0, 1) := by decide +kernel
theorem d_Mo_rank_10 : decode c_Mo_rankb 10 = .ok (.istore 4, 2) := by decide +kernel
theorem d_Mo_rank_12 : decode c_Mo_rankb 12 = .ok (.aload_n 0, 1) := by decide +kernel
theorem d_Mo_rank_13 : decode c_Mo_rankb 13 = .ok (.getfield 38, 3) := by decide +kernel
theorem d_Mo_rank_16 : decode c_Mo_rankb 16 = .ok (.iconst 1, 1) := by decide +kernel
theorem d_Mo_rank_17 : decode c_Mo_rankb 17 = .ok (.isub, 1) := by decide +kernel
theorem d_Mo_rank_18 : decode c_Mo_rankb 18 = .ok (.istore 5, 2) := by decide +kernel
theorem d_Mo_rank_20 : decode c_Mo_rankb 20 = .ok (.iconst 0, 1) := by decide +kernel
theorem d_Mo_rank_21 : decode c_Mo_rankb 21 = .ok (.istore 6, 2) := by decide +kernel
theorem d_Mo_rank_23 : decode c_Mo_rankb 23 = .ok (.iload 6, 2) := by decide +kernel
theorem d_Mo_rank_25 : decode c_Mo_rankb 25 = .ok (.bipush 32, 2) := by decide +kernel
theorem d_Mo_rank_27 : decode c_Mo_rankb 27 = .ok (.if_icmp .ge 67, 3) := by decide +kernel
theorem d_Mo_rank_30 : decode c_Mo_rankb 30 = .ok (.iload 4, 2) := by decide +kernel
theorem d_Mo_rank_32 : decode c_Mo_rankb 32 = .ok (.iload 5, 2) := by decide +kernel
theorem d_Mo_rank_34 : decode c_Mo_rankb 34 = .ok (.if_icmp .gt 60, 3) := by decide +kernel
theorem d_Mo_rank_37 : decode c_Mo_rankb 37 = .ok (.iload 4, 2) := by decide +kernel
theorem d_Mo_rank_39 : decode c_Mo_rankb 39 = .ok (.iload 5, 2) := by decide +kernel
theorem d_Mo_rank_41 : decode c_Mo_rankb 41 = .ok (.iadd, 1) := by decide +kernel
theorem d_Mo_rank_42 : decode c_Mo_rankb 42 = .ok (.iconst 1, 1) := by decide +kernel
theorem d_Mo_rank_43 : decode c_Mo_rankb 43 = .ok (.iushr, 1) := by decide +kernel
theorem d_Mo_rank_44 : decode c_Mo_rankb 44 = .ok (.istore 7, 2) := by decide +kernel
theorem d_Mo_rank_46 : decode c_Mo_rankb 46 = .ok (.aload_n 0, 1) := by decide +kernel
theorem d_Mo_rank_47 : decode c_Mo_rankb 47 = .ok (.getfield 18, 3) := by decide +kernel
theorem d_Mo_rank_50 : decode c_Mo_rankb 50 = .ok (.iload 7, 2) := by decide +kernel
theorem d_Mo_rank_52 : decode c_Mo_rankb 52 = .ok (.laload, 1) := by decide +kernel
theorem d_Mo_rank_53 : decode c_Mo_rankb 53 = .ok (.lload_n 2, 1) := by decide +kernel
theorem d_Mo_rank_54 : decode c_Mo_rankb 54 = .ok (.lcmp, 1) := by decide +kernel
theorem d_Mo_rank_55 : decode c_Mo_rankb 55 = .ok (.ifCond .ne 6, 3) := by decide +kernel
theorem d_Mo_rank_58 : decode c_Mo_rankb 58 = .ok (.iload 7, 2) := by decide +kernel
theorem d_Mo_rank_60 : decode c_Mo_rankb 60 = .ok (.ireturn, 1) := by decide +kernel
theorem d_Mo_rank_61 : decode c_Mo_rankb 61 = .ok (.aload_n 0, 1) := by decide +kernel
theorem d_Mo_rank_62 : decode c_Mo_rankb 62 = .ok (.getfield 18, 3) := by decide +kernel
theorem d_Mo_rank_65 : decode c_Mo_rankb 65 = .ok (.iload 7, 2) := by decide +kernel
theorem d_Mo_rank_67 : decode c_Mo_rankb 67 = .ok (.laload, 1) := by decide +kernel
theorem d_Mo_rank_68 : decode c_Mo_rankb 68 = .ok (.lload_n 2, 1) := by decide +kernel
theorem d_Mo_rank_69 : decode c_Mo_rankb 69 = .ok (.lcmp, 1) := by decide +kernel
theorem d_Mo_rank_70 : decode c_Mo_rankb 70 = .ok (.ifCond .ge 12, 3) := by decide +kernel
theorem d_Mo_rank_73 : decode c_Mo_rankb 73 = .ok (.iload 7, 2) := by decide +kernel
theorem d_Mo_rank_75 : decode c_Mo_rankb 75 = .ok (.iconst 1, 1) := by decide +kernel
theorem d_Mo_rank_76 : decode c_Mo_rankb 76 = .ok (.iadd, 1) := by decide +kernel
theorem d_Mo_rank_77 : decode c_Mo_rankb 77 = .ok (.istore 4, 2) := by decide +kernel
theorem d_Mo_rank_79 : decode c_Mo_rankb 79 = .ok (.goto 9, 3) := by decide +kernel
theorem d_Mo_rank_82 : decode c_Mo_rankb 82 = .ok (.iload 7, 2) := by decide +kernel
theorem d_Mo_rank_84 : decode c_Mo_rankb 84 = .ok (.iconst 1, 1) := by decide +kernel
theorem d_Mo_rank_85 : decode c_Mo_rankb 85 = .ok (.isub, 1) := by decide +kernel
theorem d_Mo_rank_86 : decode c_Mo_rankb 86 = .ok (.istore 5, 2) := by decide +kernel
theorem d_Mo_rank_88 : decode c_Mo_rankb 88 = .ok (.iinc 6 1, 3) := by decide +kernel
theorem d_Mo_rank_91 : decode c_Mo_rankb 91 = .ok (.goto (-68), 3) := by decide +kernel
theorem d_Mo_rank_94 : decode c_Mo_rankb 94 = .ok (.iconst (-1), 1) := by decide +kernel
theorem d_Mo_rank_95 : decode c_Mo_rankb 95 = .ok (.ireturn, 1) := by decide +kernel
abbrev ws_rank (a_Mo a_Mo_keys a_Mo_codes a_Mo_degrees a_Mo_raised : Nat) (cI cL cZ : ClassId) (Mo_variables Mo_order Mo_highest Mo_count : Int32) (Mo_keys : Nat → Int64) : va_W := [(a_Mo, .inr (1, [.int Mo_variables, .int Mo_order, .int Mo_highest, .int Mo_count, .ref a_Mo_codes, .ref a_Mo_degrees, .ref a_Mo_keys, .ref a_Mo_raised])), (a_Mo_keys, .inl (cL, 126, .inr (.inl Mo_keys)))]
abbrev rm_rank : Room := { frames := 3, cells := 0, slots := 0, locals := 66 }
abbrev g_rank (X : gX) (r_ : Int32) (pc : Nat) (lv : List (Nat × Value)) (st : List Value) : Prop := ∀ ls : Array Slot, lv_has ls 8 lv → gWW X rm_rank (gs X).heap [] 0 0 (MQ (gbl X) (vp_Si (fun r => r = r_)) (ga X) (gs X) 0 0 (fun _ => False)) (F0 (gm X) pc ls st)
set_option maxHeartbeats 4000000 in
set_option maxRecDepth 100000 in
theorem w_rank_23 (X : gX) (D : va_G) (cI cL cZ : ClassId) (a_Mo a_Mo_keys a_Mo_codes a_Mo_degrees a_Mo_raised : Nat) (F : Nat) (Mo_variables Mo_order Mo_highest Mo_count : Int32) (Mo_keys : Nat → Int64) (r_ : Int32) (C0 : gC X c_Mo_rankb (some .int) 8 "RemnantDictionary$Monomials" gAll) (hK : va_K D classes (gT cI cL cZ) (gs X)) (hP : va_P D classes (ws_rank a_Mo a_Mo_keys a_Mo_codes a_Mo_degrees a_Mo_raised cI cL cZ Mo_variables Mo_order Mo_highest Mo_count Mo_keys) (gs X).heap) (hN : gN (gs X)) (k23 : Int64 → Int32 → Int32 → Int32 → Option (Int32)) (hk23 : ∀ (l2 : Int64) (i4 i5 i6 : Int32), k23 l2 i4 i5 i6 = some r_ → g_rank X r_ 23 [(0, .ref a_Mo), (2, .long l2), (4, .int i4), (5, .int i5), (6, .int i6)] []) (l2 : Int64) (i4 i5 i6 : Int32) (hrun : s_rank_23 F Mo_count Mo_order Mo_keys k23 l2 i4 i5 i6 = some r_) : g_rank X r_ 23 [(0, .ref a_Mo), (2, .long l2), (4, .int i4), (5, .int i5), (6, .int i6)] [] := by
  have C1 := C0
  obtain ⟨hx, hb, hr, hml, hown, hts, hlocks⟩ := C1
  unfold s_rank_23 at hrun
  intro ls hl
  refine lv_iload hx hb d_Mo_rank_23 (lv_at hl 4 rfl) ?_
  refine lv_bipush (v := 32) hx hb d_Mo_rank_25 (by decide) ?_
  refine g_icmp_ge (tgt := 94) hx hb d_Mo_rank_27 (by decide) hrun (fun _ hrun => ?_) (fun _ hrun => ?_)
  · refine lv_iconst (v := (-1)) hx hb d_Mo_rank_94 (by decide) ?_
    cases hrun
    exact W.iret hx hb hr (fun t ht hW => ⟨_, rfl, rfl, ht⟩) (fun q h => absurd h List.not_mem_nil) d_Mo_rank_95
  · refine lv_iload hx hb d_Mo_rank_30 (lv_at hl 2 rfl) ?_
    refine lv_iload hx hb d_Mo_rank_32 (lv_at hl 3 rfl) ?_
    refine g_icmp_gt (tgt := 94) hx hb d_Mo_rank_34 (by decide) hrun (fun _ hrun => ?_) (fun _ hrun => ?_)
    · refine lv_iconst (v := (-1)) hx hb d_Mo_rank_94 (by decide) ?_
      cases hrun
      exact W.iret hx hb hr (fun t ht hW => ⟨_, rfl, rfl, ht⟩) (fun q h => absurd h List.not_mem_nil) d_Mo_rank_95
    · refine lv_iload hx hb d_Mo_rank_37 (lv_at hl 2 rfl) ?_
      refine lv_iload hx hb d_Mo_rank_39 (lv_at hl 3 rfl) ?_
      refine lv_iadd hx hb d_Mo_rank_41 ?_
      refine lv_iconst (v := 1) hx hb d_Mo_rank_42 (by decide) ?_
      refine g_iushr hx hb d_Mo_rank_43 ?_
      refine lv_istore (lv' := [(7, .int (ushI (i4 + i5) 1)), (0, .ref a_Mo), (2, .long l2), (4, .int i4), (5, .int i5), (6, .int i6)]) hx hb d_Mo_rank_44 hl (by decide) rfl (fun ls hl => ?_)
      refine lv_aload_n hx hb d_Mo_rank_46 rfl (lv_at hl 1 rfl) ?_
      refine va_get (D := D) (ci := 1) (v := .ref a_Mo_keys) (C := "RemnantDictionary$Monomials") (T := T_Mo) (N := 8) hx hb hts iw_Mo hown hK hP 0 rfl rfl 6 (by decide) (hts _ k_39) (fun _ h9 => h9) rfl d_Mo_rank_47 ?_
      refine lv_iload hx hb d_Mo_rank_50 (lv_at hl 0 rfl) ?_
      refine g_lald hx hb hK hP 1 1 rfl rfl hrun d_Mo_rank_52 (fun x_1 hrun => ?_)
      refine lv_lload_n hx hb d_Mo_rank_53 rfl (lv_at hl 2 rfl) ?_
      refine W.lcmp hx hb d_Mo_rank_54 ?_
      refine g_if_ne (tgt := 61) hx hb d_Mo_rank_55 (by decide) hrun (fun _ hrun => ?_) (fun _ hrun => ?_)
      · refine lv_aload_n hx hb d_Mo_rank_61 rfl (lv_at hl 1 rfl) ?_
        refine va_get (D := D) (ci := 1) (v := .ref a_Mo_keys) (C := "RemnantDictionary$Monomials") (T := T_Mo) (N := 8) hx hb hts iw_Mo hown hK hP 0 rfl rfl 6 (by decide) (hts _ k_39) (fun _ h9 => h9) rfl d_Mo_rank_62 ?_
        refine lv_iload hx hb d_Mo_rank_65 (lv_at hl 0 rfl) ?_
        refine g_lald hx hb hK hP 1 1 rfl rfl hrun d_Mo_rank_67 (fun x_2 hrun => ?_)
        refine lv_lload_n hx hb d_Mo_rank_68 rfl (lv_at hl 2 rfl) ?_
        refine W.lcmp hx hb d_Mo_rank_69 ?_
        refine g_if_ge (tgt := 82) hx hb d_Mo_rank_70 (by decide) hrun (fun _ hrun => ?_) (fun _ hrun => ?_)
        · refine lv_iload hx hb d_Mo_rank_82 (lv_at hl 0 rfl) ?_
          refine lv_iconst (v := 1) hx hb d_Mo_rank_84 (by decide) ?_
          refine lv_isub hx hb d_Mo_rank_85 ?_
          refine lv_istore (lv' := [(5, .int ((ushI (i4 + i5) 1) - 1)), (7, .int (ushI (i4 + i5) 1)), (0, .ref a_Mo), (2, .long l2), (4, .int i4), (6, .int i6)]) hx hb d_Mo_rank_86 hl (by decide) rfl (fun ls hl => ?_)
          refine lv_iinc (v := (i6 + 1)) (lv' := [(6, .int (i6 + 1)), (5, .int ((ushI (i4 + i5) 1) - 1)), (7, .int (ushI (i4 + i5) 1)), (0, .ref a_Mo), (2, .long l2), (4, .int i4)]) hx hb d_Mo_rank_88 hl (k := 5) rfl rfl (by decide) rfl (fun ls hl => ?_)
          refine lv_goto (tgt := 23) hx hb d_Mo_rank_91 (by decide) ?_
          exact hk23 l2 i4 ((ushI (i4 + i5) 1) - 1) (i6 + 1) hrun ls (lv_sub hl [3, 4, 5, 1, 0] rfl)
        · refine lv_iload hx hb d_Mo_rank_73 (lv_at hl 0 rfl) ?_
          refine lv_iconst (v := 1) hx hb d_Mo_rank_75 (by decide) ?_
          refine lv_iadd hx hb d_Mo_rank_76 ?_
          refine lv_istore (lv' := [(4, .int ((ushI (i4 + i5) 1) + 1)), (7, .int (ushI (i4 + i5) 1)), (0, .ref a_Mo), (2, .long l2), (5, .int i5), (6, .int i6)]) hx hb d_Mo_rank_77 hl (by decide) rfl (fun ls hl => ?_)
          refine lv_goto (tgt := 88) hx hb d_Mo_rank_79 (by decide) ?_
          refine lv_iinc (v := (i6 + 1)) (lv' := [(6, .int (i6 + 1)), (4, .int ((ushI (i4 + i5) 1) + 1)), (7, .int (ushI (i4 + i5) 1)), (0, .ref a_Mo), (2, .long l2), (5, .int i5)]) hx hb d_Mo_rank_88 hl (k := 5) rfl rfl (by decide) rfl (fun ls hl => ?_)
          refine lv_goto (tgt := 23) hx hb d_Mo_rank_91 (by decide) ?_
          exact hk23 l2 ((ushI (i4 + i5) 1) + 1) i5 (i6 + 1) hrun ls (lv_sub hl [3, 4, 1, 5, 0] rfl)
      · refine lv_iload hx hb d_Mo_rank_58 (lv_at hl 0 rfl) ?_
        cases hrun
        exact W.iret hx hb hr (fun t ht hW => ⟨_, rfl, rfl, ht⟩) (fun q h => absurd h List.not_mem_nil) d_Mo_rank_60
theorem v_rank_23 (X : gX) (D : va_G) (cI cL cZ : ClassId) (a_Mo a_Mo_keys a_Mo_codes a_Mo_degrees a_Mo_raised : Nat) (F : Nat) (Mo_variables Mo_order Mo_highest Mo_count : Int32) (Mo_keys : Nat → Int64) (r_ : Int32) (C0 : gC X c_Mo_rankb (some .int) 8 "RemnantDictionary$Monomials" gAll) (hK : va_K D classes (gT cI cL cZ) (gs X)) (hP : va_P D classes (ws_rank a_Mo a_Mo_keys a_Mo_codes a_Mo_degrees a_Mo_raised cI cL cZ Mo_variables Mo_order Mo_highest Mo_count Mo_keys) (gs X).heap) (hN : gN (gs X))  : ∀ (n : Nat) (l2 : Int64) (i4 i5 i6 : Int32), b_rank_23 F Mo_count Mo_order Mo_keys n l2 i4 i5 i6 = some r_ → g_rank X r_ 23 [(0, .ref a_Mo), (2, .long l2), (4, .int i4), (5, .int i5), (6, .int i6)] [] := by
  intro n
  induction n with
  | zero => intro l2 i4 i5 i6 hrun; cases hrun
  | succ n ih =>
    intro l2 i4 i5 i6 hrun
    exact w_rank_23 X D cI cL cZ a_Mo a_Mo_keys a_Mo_codes a_Mo_degrees a_Mo_raised F Mo_variables Mo_order Mo_highest Mo_count Mo_keys r_ C0 hK hP hN (b_rank_23 F Mo_count Mo_order Mo_keys n) ih l2 i4 i5 i6 hrun
set_option maxHeartbeats 4000000 in
set_option maxRecDepth 100000 in
theorem e_rank (X : gX) (D : va_G) (cI cL cZ : ClassId) (a_Mo a_Mo_keys a_Mo_codes a_Mo_degrees a_Mo_raised : Nat) (F : Nat) (Mo_variables Mo_order Mo_highest Mo_count : Int32) (Mo_keys : Nat → Int64) (r_ : Int32) (C0 : gC X c_Mo_rankb (some .int) 8 "RemnantDictionary$Monomials" gAll) (hK : va_K D classes (gT cI cL cZ) (gs X)) (hP : va_P D classes (ws_rank a_Mo a_Mo_keys a_Mo_codes a_Mo_degrees a_Mo_raised cI cL cZ Mo_variables Mo_order Mo_highest Mo_count Mo_keys) (gs X).heap) (hN : gN (gs X)) (i1 : Int32) (hrun : m_rank F Mo_count Mo_order Mo_keys i1 = some r_) : g_rank X r_ 0 [(0, .ref a_Mo), (1, .int i1)] [] := by
  have C1 := C0
  obtain ⟨hx, hb, hr, hml, hown, hts, hlocks⟩ := C1
  unfold m_rank at hrun
  intro ls hl
  refine lv_iload_n hx hb d_Mo_rank_0 rfl (lv_at hl 1 rfl) ?_
  refine lv_aload_n hx hb d_Mo_rank_1 rfl (lv_at hl 0 rfl) ?_
  refine va_get (D := D) (ci := 1) (v := .int Mo_order) (C := "RemnantDictionary$Monomials") (T := T_Mo) (N := 8) hx hb hts iw_Mo hown hK hP 0 rfl rfl 1 (by decide) (hts _ k_43) (fun _ h9 => h9) rfl d_Mo_rank_2 ?_
  obtain ⟨r_1, hc, hrun⟩ := bd1_s hrun
  refine vp_callSl (g_ofRun (va_runSN (As := [.int i1, .int Mo_order]) (rest := []) ⟨hx, hb, hml, hown, hts⟩ (c_key (gl X) F i1 Mo_order r_1 hc) (⟨va_cnB 2 hts (gwN k_24) rfl rfl rfl (hN.1 _ (List.mem_of_getElem? (i := 0) rfl)) (hts _ k_14) (by decide +kernel) ⟨Nat.le_of_ble_eq_true rfl, Nat.le_of_ble_eq_true rfl⟩, hts _ k_44, trivial⟩) (gpreS0 hN) rfl rfl hl.1 rfl (lv_room (Nat.le_of_ble_eq_true rfl)) d_Mo_rank_5 ⟨Nat.le_of_ble_eq_true rfl, Nat.le_of_ble_eq_true rfl⟩)) (nm_e ?_)
  refine lv_lstore_n (lv' := [(2, .long r_1), (0, .ref a_Mo), (1, .int i1)]) hx hb d_Mo_rank_8 rfl hl (by decide) rfl (fun ls hl => ?_)
  refine lv_iconst (v := 0) hx hb d_Mo_rank_9 (by decide) ?_
  refine lv_istore (lv' := [(4, .int 0), (2, .long r_1), (0, .ref a_Mo), (1, .int i1)]) hx hb d_Mo_rank_10 hl (by decide) rfl (fun ls hl => ?_)
  refine lv_aload_n hx hb d_Mo_rank_12 rfl (lv_at hl 2 rfl) ?_
  refine va_get (D := D) (ci := 1) (v := .int Mo_count) (C := "RemnantDictionary$Monomials") (T := T_Mo) (N := 8) hx hb hts iw_Mo hown hK hP 0 rfl rfl 3 (by decide) (hts _ k_41) (fun _ h9 => h9) rfl d_Mo_rank_13 ?_
  refine lv_iconst (v := 1) hx hb d_Mo_rank_16 (by decide) ?_
  refine lv_isub hx hb d_Mo_rank_17 ?_
  refine lv_istore (lv' := [(5, .int (Mo_count - 1)), (4, .int 0), (2, .long r_1), (0, .ref a_Mo), (1, .int i1)]) hx hb d_Mo_rank_18 hl (by decide) rfl (fun ls hl => ?_)
  refine lv_iconst (v := 0) hx hb d_Mo_rank_20 (by decide) ?_
  refine lv_istore (lv' := [(6, .int 0), (5, .int (Mo_count - 1)), (4, .int 0), (2, .long r_1), (0, .ref a_Mo), (1, .int i1)]) hx hb d_Mo_rank_21 hl (by decide) rfl (fun ls hl => ?_)
  exact v_rank_23 X D cI cL cZ a_Mo a_Mo_keys a_Mo_codes a_Mo_degrees a_Mo_raised F Mo_variables Mo_order Mo_highest Mo_count Mo_keys r_ C0 hK hP hN  F r_1 0 (Mo_count - 1) 0 hrun ls (lv_sub hl [4, 3, 2, 1, 0] rfl)
set_option maxHeartbeats 4000000 in
set_option maxRecDepth 100000 in
theorem c_rank (l : Launch) (D : va_G) (cI cL cZ : ClassId) (a_Mo a_Mo_keys a_Mo_codes a_Mo_degrees a_Mo_raised : Nat) (F : Nat) (Mo_variables Mo_order Mo_highest Mo_count : Int32) (Mo_keys : Nat → Int64) (i1 : Int32) (r_ : Int32) (hrun : m_rank F Mo_count Mo_order Mo_keys i1 = some r_) : Met l y_Mo_rank (.code y_Mo_rank c_Mo_rankb 8 (some .int) :: gAll) rm_rank (va_Pc [.ref a_Mo, .int i1] (gPR D (gT cI cL cZ) (ws_rank a_Mo a_Mo_keys a_Mo_codes a_Mo_degrees a_Mo_raised cI cL cZ Mo_variables Mo_order Mo_highest Mo_count Mo_keys))) (vp_Si (fun r => r = r_)) 0 0 (fun _ => False) := by
  refine Met.ofW (cc := c_Mo_rankb) (maxL := 8) (ret := (some .int)) (by decide +kernel) rfl ?_
  intro p e s m args below meth c s₁ B hml hv
  obtain ⟨rfl, hP, hK, hN⟩ := hv
  have hl := lv_entry ([.ref a_Mo, .int i1]) (n := 8) (Nat.le_of_ble_eq_true rfl)
  rw [lg_entry_eq]
  generalize (lg_sl ([.ref a_Mo, .int i1]) ++ List.replicate (8 - (lg_sl ([.ref a_Mo, .int i1])).length) Slot.unset).toArray = ls at hl ⊢
  exact e_rank (p, l, e, s, m, ([.ref a_Mo, .int i1] : List Value).toArray, below, meth, c) D cI cL cZ a_Mo a_Mo_keys a_Mo_codes a_Mo_degrees a_Mo_raised F Mo_variables Mo_order Mo_highest Mo_count Mo_keys r_ ⟨B.exec, B.bytes, B.returns, hml, findClass_of_methodNamed B.named, fun w h => atoms_spec (ws := (.code y_Mo_rank c_Mo_rankb 8 (some .int) :: gAll)) B.pre w (List.mem_cons_of_mem _ h), B.notSynchronized⟩ hK hP hN i1 hrun ls hl
theorem d_Mo_layWithX_0 : decode c_Mo_layWithXb 0 = .ok (.iconst 0, 1) := by decide +kernel
theorem d_Mo_layWithX_1 : decode c_Mo_layWithXb 1 = .ok (.istore_n 1, 1) := by decide +kernel
theorem d_Mo_layWithX_2 : decode c_Mo_layWithXb 2 = .ok (.iload_n 1, 1) := by decide +kernel
theorem d_Mo_layWithX_3 : decode c_Mo_layWithXb 3 = .ok (.aload_n 0, 1) := by decide +kernel
theorem d_Mo_layWithX_4 : decode c_Mo_layWithXb 4 = .ok (.getfield 35, 3) := by decide +kernel
theorem d_Mo_layWithX_7 : decode c_Mo_layWithXb 7 = .ok (.if_icmp .gt 92, 3) := by decide +kernel
theorem d_Mo_layWithX_10 : decode c_Mo_layWithXb 10 = .ok (.iconst 0, 1) := by decide +kernel
theorem d_Mo_layWithX_11 : decode c_Mo_layWithXb 11 = .ok (.istore_n 2, 1) := by decide +kernel
theorem d_Mo_layWithX_12 : decode c_Mo_layWithXb 12 = .ok (.iload_n 2, 1) := by decide +kernel
theorem d_Mo_layWithX_13 : decode c_Mo_layWithXb 13 = .ok (.aload_n 0, 1) := by decide +kernel
theorem d_Mo_layWithX_14 : decode c_Mo_layWithXb 14 = .ok (.iconst 1, 1) := by decide +kernel
theorem d_Mo_layWithX_15 : decode c_Mo_layWithXb 15 = .ok (.iload_n 1, 1) := by decide +kernel
theorem d_Mo_layWithX_16 : decode c_Mo_layWithXb 16 = .ok (.invokevirtual 54, 3) := by decide +kernel
theorem d_Mo_layWithX_19 : decode c_Mo_layWithXb 19 = .ok (.if_icmp .gt 74, 3) := by decide +kernel
theorem d_Mo_layWithX_22 : decode c_Mo_layWithXb 22 = .ok (.iconst 0, 1) := by decide +kernel
theorem d_Mo_layWithX_23 : decode c_Mo_layWithXb 23 = .ok (.istore_n 3, 1) := by decide +kernel
theorem d_Mo_layWithX_24 : decode c_Mo_layWithXb 24 = .ok (.iload_n 3, 1) := by decide +kernel
theorem d_Mo_layWithX_25 : decode c_Mo_layWithXb 25 = .ok (.aload_n 0, 1) := by decide +kernel
theorem d_Mo_layWithX_26 : decode c_Mo_layWithXb 26 = .ok (.iconst 2, 1) := by decide +kernel
theorem d_Mo_layWithX_27 : decode c_Mo_layWithXb 27 = .ok (.iload_n 1, 1) := by decide +kernel
theorem d_Mo_layWithX_28 : decode c_Mo_layWithXb 28 = .ok (.iload_n 2, 1) := by decide +kernel
theorem d_Mo_layWithX_29 : decode c_Mo_layWithXb 29 = .ok (.iadd, 1) := by decide +kernel
theorem d_Mo_layWithX_30 : decode c_Mo_layWithXb 30 = .ok (.invokevirtual 54, 3) := by decide +kernel
theorem d_Mo_layWithX_33 : decode c_Mo_layWithXb 33 = .ok (.if_icmp .gt 54, 3) := by decide +kernel
theorem d_Mo_layWithX_36 : decode c_Mo_layWithXb 36 = .ok (.iconst 0, 1) := by decide +kernel
theorem d_Mo_layWithX_37 : decode c_Mo_layWithXb 37 = .ok (.istore 4, 2) := by decide +kernel
theorem d_Mo_layWithX_39 : decode c_Mo_layWithXb 39 = .ok (.iload 4, 2) := by decide +kernel
theorem d_Mo_layWithX_41 : decode c_Mo_layWithXb 41 = .ok (.aload_n 0, 1) := by decide +kernel
theorem d_Mo_layWithX_42 : decode c_Mo_layWithXb 42 = .ok (.iconst 3, 1) := by decide +kernel
theorem d_Mo_layWithX_43 : decode c_Mo_layWithXb 43 = .ok (.iload_n 1, 1) := by decide +kernel
theorem d_Mo_layWithX_44 : decode c_Mo_layWithXb 44 = .ok (.iload_n 2, 1) := by decide +kernel
theorem d_Mo_layWithX_45 : decode c_Mo_layWithXb 45 = .ok (.iadd, 1) := by decide +kernel
theorem d_Mo_layWithX_46 : decode c_Mo_layWithXb 46 = .ok (.iload_n 3, 1) := by decide +kernel
theorem d_Mo_layWithX_47 : decode c_Mo_layWithXb 47 = .ok (.iadd, 1) := by decide +kernel
theorem d_Mo_layWithX_48 : decode c_Mo_layWithXb 48 = .ok (.invokevirtual 54, 3) := by decide +kernel
theorem d_Mo_layWithX_51 : decode c_Mo_layWithXb 51 = .ok (.if_icmp .gt 30, 3) := by decide +kernel
theorem d_Mo_layWithX_54 : decode c_Mo_layWithXb 54 = .ok (.aload_n 0, 1) := by decide +kernel
theorem d_Mo_layWithX_55 : decode c_Mo_layWithXb 55 = .ok (.iload_n 1, 1) := by decide +kernel
theorem d_Mo_layWithX_56 : decode c_Mo_layWithXb 56 = .ok (.bipush 24, 2) := by decide +kernel
theorem d_Mo_layWithX_58 : decode c_Mo_layWithXb 58 = .ok (.ishl, 1) := by decide +kernel
theorem d_Mo_layWithX_59 : decode c_Mo_layWithXb 59 = .ok (.iload_n 2, 1) := by decide +kernel
theorem d_Mo_layWithX_60 : decode c_Mo_layWithXb 60 = .ok (.bipush 16, 2) := by decide +kernel
theorem d_Mo_layWithX_62 : decode c_Mo_layWithXb 62 = .ok (.ishl, 1) := by decide +kernel
theorem d_Mo_layWithX_63 : decode c_Mo_layWithXb 63 = .ok (.ior, 1) := by decide +kernel
theorem d_Mo_layWithX_64 : decode c_Mo_layWithXb 64 = .ok (.iload_n 3, 1) := by decide +kernel
theorem d_Mo_layWithX_65 : decode c_Mo_layWithXb 65 = .ok (.bipush 8, 2) := by decide +kernel
theorem d_Mo_layWithX_67 : decode c_Mo_layWithXb 67 = .ok (.ishl, 1) := by decide +kernel
theorem d_Mo_layWithX_68 : decode c_Mo_layWithXb 68 = .ok (.ior, 1) := by decide +kernel
theorem d_Mo_layWithX_69 : decode c_Mo_layWithXb 69 = .ok (.iload 4, 2) := by decide +kernel
theorem d_Mo_layWithX_71 : decode c_Mo_layWithXb 71 = .ok (.ior, 1) := by decide +kernel
theorem d_Mo_layWithX_72 : decode c_Mo_layWithXb 72 = .ok (.invokevirtual 58, 3) := by decide +kernel
theorem d_Mo_layWithX_75 : decode c_Mo_layWithXb 75 = .ok (.iinc 4 1, 3) := by decide +kernel
theorem d_Mo_layWithX_78 : decode c_Mo_layWithXb 78 = .ok (.goto (-39), 3) := by decide +kernel
theorem d_Mo_layWithX_81 : decode c_Mo_layWithXb 81 = .ok (.iinc 3 1, 3) := by decide +kernel
theorem d_Mo_layWithX_84 : decode c_Mo_layWithXb 84 = .ok (.goto (-60), 3) := by decide +kernel
theorem d_Mo_layWithX_87 : decode c_Mo_layWithXb 87 = .ok (.iinc 2 1, 3) := by decide +kernel
theorem d_Mo_layWithX_90 : decode c_Mo_layWithXb 90 = .ok (.goto (-78), 3) := by decide +kernel
theorem d_Mo_layWithX_93 : decode c_Mo_layWithXb 93 = .ok (.iinc 1 1, 3) := by decide +kernel
theorem d_Mo_layWithX_96 : decode c_Mo_layWithXb 96 = .ok (.goto (-94), 3) := by decide +kernel
theorem d_Mo_layWithX_99 : decode c_Mo_layWithXb 99 = .ok (.return_, 1) := by decide +kernel
abbrev ws_layWithX (a_Mo a_Mo_codes a_Mo_keys a_Mo_degrees a_Mo_raised : Nat) (cI cL cZ : ClassId) (Mo_variables Mo_order Mo_highest Mo_count : Int32) (Mo_codes : Nat → Int32) (Mo_keys : Nat → Int64) : va_W := [(a_Mo, .inr (1, [.int Mo_variables, .int Mo_order, .int Mo_highest, .int Mo_count, .ref a_Mo_codes, .ref a_Mo_degrees, .ref a_Mo_keys, .ref a_Mo_raised])), (a_Mo_codes, .inl (cI, 126, .inl Mo_codes)), (a_Mo_keys, .inl (cL, 126, .inr (.inl Mo_keys)))]
abbrev rm_layWithX : Room := { frames := 4, cells := 0, slots := 0, locals := 90 }
abbrev g_layWithX (X : gX) (D : va_G) (cI cL cZ : ClassId) (a_Mo a_Mo_codes a_Mo_keys a_Mo_degrees a_Mo_raised : Nat) (A : Nat → Prop) (Mo_variables Mo_order Mo_highest Mo_count_r : Int32) (Mo_codes_r : Nat → Int32) (Mo_keys_r : Nat → Int64) (pc : Nat) (lv : List (Nat × Value)) (st : List Value) (Mo_count : Int32) (Mo_codes : Nat → Int32) (Mo_keys : Nat → Int64) : Prop := ∀ (H : Heap) (locs : List Loc) (ls : Array Slot), va_P D classes (ws_layWithX a_Mo a_Mo_codes a_Mo_keys a_Mo_degrees a_Mo_raised cI cL cZ Mo_variables Mo_order Mo_highest Mo_count Mo_codes Mo_keys) H → va_D A (ws_layWithX a_Mo a_Mo_codes a_Mo_keys a_Mo_degrees a_Mo_raised cI cL cZ Mo_variables Mo_order Mo_highest Mo_count Mo_codes Mo_keys) → va_S A (gs X).heap H locs → lv_has ls 5 lv → gWW X rm_layWithX H locs 0 0 (MQ (gbl X) (va_Qv (fun _ : Unit => True) (gB D (gT cI cL cZ) A (ws_layWithX a_Mo a_Mo_codes a_Mo_keys a_Mo_degrees a_Mo_raised cI cL cZ Mo_variables Mo_order Mo_highest Mo_count_r Mo_codes_r Mo_keys_r)) A) (ga X) (gs X) 0 0 A) (F0 (gm X) pc ls st)
set_option maxHeartbeats 4000000 in
set_option maxRecDepth 100000 in
theorem w_layWithX_39 (X : gX) (D : va_G) (cI cL cZ : ClassId) (a_Mo a_Mo_codes a_Mo_keys a_Mo_degrees a_Mo_raised : Nat) (A : Nat → Prop) (Mo_variables Mo_order Mo_highest Mo_count_r : Int32) (Mo_codes_r : Nat → Int32) (Mo_keys_r : Nat → Int64) (F : Nat) (C0 : gC X c_Mo_layWithXb none 5 "RemnantDictionary$Monomials" gAll) (hK : va_K D classes (gT cI cL cZ) (gs X)) (hA : ∀ q : Nat, (gs X).heap.size ≤ q → A q) (hN : gN (gs X)) (k2 : Int32 → Int32 → (Nat → Int32) → (Nat → Int64) → Option (Int32 × (Nat → Int32) × (Nat → Int64))) (hk2 : ∀ (i1 Mo_count : Int32) (Mo_codes : Nat → Int32) (Mo_keys : Nat → Int64), k2 i1 Mo_count Mo_codes Mo_keys = some (Mo_count_r, Mo_codes_r, Mo_keys_r) → g_layWithX X D cI cL cZ a_Mo a_Mo_codes a_Mo_keys a_Mo_degrees a_Mo_raised A Mo_variables Mo_order Mo_highest Mo_count_r Mo_codes_r Mo_keys_r 2 [(0, .ref a_Mo), (1, .int i1)] [] Mo_count Mo_codes Mo_keys) (k12 : Int32 → Int32 → Int32 → (Nat → Int32) → (Nat → Int64) → Option (Int32 × (Nat → Int32) × (Nat → Int64))) (hk12 : ∀ (i1 i2 Mo_count : Int32) (Mo_codes : Nat → Int32) (Mo_keys : Nat → Int64), k12 i1 i2 Mo_count Mo_codes Mo_keys = some (Mo_count_r, Mo_codes_r, Mo_keys_r) → g_layWithX X D cI cL cZ a_Mo a_Mo_codes a_Mo_keys a_Mo_degrees a_Mo_raised A Mo_variables Mo_order Mo_highest Mo_count_r Mo_codes_r Mo_keys_r 12 [(0, .ref a_Mo), (1, .int i1), (2, .int i2)] [] Mo_count Mo_codes Mo_keys) (k24 : Int32 → Int32 → Int32 → Int32 → (Nat → Int32) → (Nat → Int64) → Option (Int32 × (Nat → Int32) × (Nat → Int64))) (hk24 : ∀ (i1 i2 i3 Mo_count : Int32) (Mo_codes : Nat → Int32) (Mo_keys : Nat → Int64), k24 i1 i2 i3 Mo_count Mo_codes Mo_keys = some (Mo_count_r, Mo_codes_r, Mo_keys_r) → g_layWithX X D cI cL cZ a_Mo a_Mo_codes a_Mo_keys a_Mo_degrees a_Mo_raised A Mo_variables Mo_order Mo_highest Mo_count_r Mo_codes_r Mo_keys_r 24 [(0, .ref a_Mo), (1, .int i1), (2, .int i2), (3, .int i3)] [] Mo_count Mo_codes Mo_keys) (k39 : Int32 → Int32 → Int32 → Int32 → Int32 → (Nat → Int32) → (Nat → Int64) → Option (Int32 × (Nat → Int32) × (Nat → Int64))) (hk39 : ∀ (i1 i2 i3 i4 Mo_count : Int32) (Mo_codes : Nat → Int32) (Mo_keys : Nat → Int64), k39 i1 i2 i3 i4 Mo_count Mo_codes Mo_keys = some (Mo_count_r, Mo_codes_r, Mo_keys_r) → g_layWithX X D cI cL cZ a_Mo a_Mo_codes a_Mo_keys a_Mo_degrees a_Mo_raised A Mo_variables Mo_order Mo_highest Mo_count_r Mo_codes_r Mo_keys_r 39 [(0, .ref a_Mo), (1, .int i1), (2, .int i2), (3, .int i3), (4, .int i4)] [] Mo_count Mo_codes Mo_keys) (i1 i2 i3 i4 Mo_count : Int32) (Mo_codes : Nat → Int32) (Mo_keys : Nat → Int64) (hrun : s_layWithX_39 F Mo_highest Mo_order Mo_variables k2 k12 k24 k39 i1 i2 i3 i4 Mo_count Mo_codes Mo_keys = some (Mo_count_r, Mo_codes_r, Mo_keys_r)) : g_layWithX X D cI cL cZ a_Mo a_Mo_codes a_Mo_keys a_Mo_degrees a_Mo_raised A Mo_variables Mo_order Mo_highest Mo_count_r Mo_codes_r Mo_keys_r 39 [(0, .ref a_Mo), (1, .int i1), (2, .int i2), (3, .int i3), (4, .int i4)] [] Mo_count Mo_codes Mo_keys := by
  have C1 := C0
  obtain ⟨hx, hb, hr, hml, hown, hts, hlocks⟩ := C1
  unfold s_layWithX_39 at hrun
  intro H locs ls hP hD hS hl
  refine lv_iload hx hb d_Mo_layWithX_39 (lv_at hl 4 rfl) ?_
  refine lv_aload_n hx hb d_Mo_layWithX_41 rfl (lv_at hl 0 rfl) ?_
  refine lv_iconst (v := 3) hx hb d_Mo_layWithX_42 (by decide) ?_
  refine lv_iload_n hx hb d_Mo_layWithX_43 rfl (lv_at hl 1 rfl) ?_
  refine lv_iload_n hx hb d_Mo_layWithX_44 rfl (lv_at hl 2 rfl) ?_
  refine lv_iadd hx hb d_Mo_layWithX_45 ?_
  refine lv_iload_n hx hb d_Mo_layWithX_46 rfl (lv_at hl 3 rfl) ?_
  refine lv_iadd hx hb d_Mo_layWithX_47 ?_
  obtain ⟨r_1, hc, hrun⟩ := bd1_s hrun
  refine vp_callSi (W.runV (As := [.int 3, .int ((i1 + i2) + i3)]) (rest := [.int i4]) ⟨hx, hb, hml, hown, hts⟩ (c_most (gl X) D cI cL cZ a_Mo a_Mo_codes a_Mo_degrees a_Mo_keys a_Mo_raised F Mo_variables Mo_order Mo_highest Mo_count 3 ((i1 + i2) + i3) r_1 hc) (cwV 2 hts (gwV k_49 k_46 k_47 k_48 k_38) rfl rfl rfl (by decide +kernel) ⟨Nat.le_of_ble_eq_true rfl, Nat.le_of_ble_eq_true rfl⟩) (gpreV (hP.sub (ws' := (ws_most a_Mo a_Mo_codes a_Mo_degrees a_Mo_keys a_Mo_raised cI cL cZ Mo_variables Mo_order Mo_highest Mo_count)) [0] rfl) hK hN 1 0 rfl rfl) rfl rfl hl.1 rfl (lv_room (Nat.le_of_ble_eq_true rfl)) d_Mo_layWithX_48 ⟨Nat.le_of_ble_eq_true rfl, Nat.le_of_ble_eq_true rfl⟩) (nm_e ?_)
  refine g_icmp_gt (tgt := 81) hx hb d_Mo_layWithX_51 (by decide) hrun (fun _ hrun => ?_) (fun _ hrun => ?_)
  · refine lv_iinc (v := (i3 + 1)) (lv' := [(3, .int (i3 + 1)), (0, .ref a_Mo), (1, .int i1), (2, .int i2), (4, .int i4)]) hx hb d_Mo_layWithX_81 hl (k := 3) rfl rfl (by decide) rfl (fun ls hl => ?_)
    refine lv_goto (tgt := 24) hx hb d_Mo_layWithX_84 (by decide) ?_
    exact hk24 i1 i2 (i3 + 1) Mo_count Mo_codes Mo_keys hrun H locs ls hP hD hS (lv_sub hl [1, 2, 3, 0] rfl)
  · refine lv_aload_n hx hb d_Mo_layWithX_54 rfl (lv_at hl 0 rfl) ?_
    refine lv_iload_n hx hb d_Mo_layWithX_55 rfl (lv_at hl 1 rfl) ?_
    refine lv_bipush (v := 24) hx hb d_Mo_layWithX_56 (by decide) ?_
    refine g_ishl hx hb d_Mo_layWithX_58 ?_
    refine lv_iload_n hx hb d_Mo_layWithX_59 rfl (lv_at hl 2 rfl) ?_
    refine lv_bipush (v := 16) hx hb d_Mo_layWithX_60 (by decide) ?_
    refine g_ishl hx hb d_Mo_layWithX_62 ?_
    refine lv_ior hx hb d_Mo_layWithX_63 ?_
    refine lv_iload_n hx hb d_Mo_layWithX_64 rfl (lv_at hl 3 rfl) ?_
    refine lv_bipush (v := 8) hx hb d_Mo_layWithX_65 (by decide) ?_
    refine g_ishl hx hb d_Mo_layWithX_67 ?_
    refine lv_ior hx hb d_Mo_layWithX_68 ?_
    refine lv_iload hx hb d_Mo_layWithX_69 (lv_at hl 4 rfl) ?_
    refine lv_ior hx hb d_Mo_layWithX_71 ?_
    obtain ⟨Mo_count_2, Mo_codes_3, Mo_keys_4, hc, hrun⟩ := bd3_s hrun
    have hFc := va_free (wc := (ws_insert a_Mo a_Mo_codes a_Mo_keys a_Mo_degrees a_Mo_raised cI cL cZ Mo_variables Mo_order Mo_highest Mo_count Mo_codes Mo_keys)) hD hS hA [0, 1, 2] rfl
    refine va_callv (va_runV (As := [.int ((((shlI i1 24) ||| (shlI i2 16)) ||| (shlI i3 8)) ||| i4)]) (rest := []) ⟨hx, hb, hml, hown, hts⟩ (c_insert (gl X) D cI cL cZ a_Mo a_Mo_codes a_Mo_keys a_Mo_degrees a_Mo_raised F Mo_variables Mo_order Mo_highest Mo_count Mo_codes Mo_keys ((((shlI i1 24) ||| (shlI i2 16)) ||| (shlI i3 8)) ||| i4) H.size Mo_count_2 Mo_codes_3 Mo_keys_4 hc) (cwV 1 hts (gwV k_52 k_50 k_51 k_48 k_42) rfl rfl rfl (by decide +kernel) ⟨Nat.le_of_ble_eq_true rfl, Nat.le_of_ble_eq_true rfl⟩) (gpreVW (hP.sub (ws' := (ws_insert a_Mo a_Mo_codes a_Mo_keys a_Mo_degrees a_Mo_raised cI cL cZ Mo_variables Mo_order Mo_highest Mo_count Mo_codes Mo_keys)) [0, 1, 2] rfl) hK hN (hD.sub (ws' := (ws_insert a_Mo a_Mo_codes a_Mo_keys a_Mo_degrees a_Mo_raised cI cL cZ Mo_variables Mo_order Mo_highest Mo_count Mo_codes Mo_keys)) [0, 1, 2] (by decide) rfl) 1 0 rfl rfl) rfl rfl hl.1 rfl (lv_room (Nat.le_of_ble_eq_true rfl)) d_Mo_layWithX_72 ⟨Nat.le_of_ble_eq_true rfl, Nat.le_of_ble_eq_true rfl⟩) hS (fun q _ h => hFc q h) hFc (fun _ t H_5 locs ht hvm hw hB hz1 hk1 hS => ?_)
    obtain ⟨hP, hD⟩ := va_join (wr := []) (w1 := (ws_insert a_Mo a_Mo_codes a_Mo_keys a_Mo_degrees a_Mo_raised cI cL cZ Mo_variables Mo_order Mo_highest Mo_count_2 Mo_codes_3 Mo_keys_4)) hP hD [0, 1, 2] [] rfl rfl (by decide) (by decide) hk1 hFc (by have h9 := hB.1; rw [ht] at h9; exact h9) hB.2.2
    have hP : va_P D classes (ws_layWithX a_Mo a_Mo_codes a_Mo_keys a_Mo_degrees a_Mo_raised cI cL cZ Mo_variables Mo_order Mo_highest Mo_count_2 Mo_codes_3 Mo_keys_4) H_5 := hP.sub [0, 1, 2] rfl
    have hD : va_D A (ws_layWithX a_Mo a_Mo_codes a_Mo_keys a_Mo_degrees a_Mo_raised cI cL cZ Mo_variables Mo_order Mo_highest Mo_count_2 Mo_codes_3 Mo_keys_4) := hD.sub [0, 1, 2] (by decide) rfl
    refine lv_iinc (v := (i4 + 1)) (lv' := [(4, .int (i4 + 1)), (0, .ref a_Mo), (1, .int i1), (2, .int i2), (3, .int i3)]) hx hb d_Mo_layWithX_75 hl (k := 4) rfl rfl (by decide) rfl (fun ls hl => ?_)
    refine lv_goto (tgt := 39) hx hb d_Mo_layWithX_78 (by decide) ?_
    exact hk39 i1 i2 i3 (i4 + 1) Mo_count_2 Mo_codes_3 Mo_keys_4 hrun H_5 locs ls hP hD hS (lv_sub hl [1, 2, 3, 4, 0] rfl)
theorem v_layWithX_39 (X : gX) (D : va_G) (cI cL cZ : ClassId) (a_Mo a_Mo_codes a_Mo_keys a_Mo_degrees a_Mo_raised : Nat) (A : Nat → Prop) (Mo_variables Mo_order Mo_highest Mo_count_r : Int32) (Mo_codes_r : Nat → Int32) (Mo_keys_r : Nat → Int64) (F : Nat) (C0 : gC X c_Mo_layWithXb none 5 "RemnantDictionary$Monomials" gAll) (hK : va_K D classes (gT cI cL cZ) (gs X)) (hA : ∀ q : Nat, (gs X).heap.size ≤ q → A q) (hN : gN (gs X)) (k2 : Int32 → Int32 → (Nat → Int32) → (Nat → Int64) → Option (Int32 × (Nat → Int32) × (Nat → Int64))) (hk2 : ∀ (i1 Mo_count : Int32) (Mo_codes : Nat → Int32) (Mo_keys : Nat → Int64), k2 i1 Mo_count Mo_codes Mo_keys = some (Mo_count_r, Mo_codes_r, Mo_keys_r) → g_layWithX X D cI cL cZ a_Mo a_Mo_codes a_Mo_keys a_Mo_degrees a_Mo_raised A Mo_variables Mo_order Mo_highest Mo_count_r Mo_codes_r Mo_keys_r 2 [(0, .ref a_Mo), (1, .int i1)] [] Mo_count Mo_codes Mo_keys) (k12 : Int32 → Int32 → Int32 → (Nat → Int32) → (Nat → Int64) → Option (Int32 × (Nat → Int32) × (Nat → Int64))) (hk12 : ∀ (i1 i2 Mo_count : Int32) (Mo_codes : Nat → Int32) (Mo_keys : Nat → Int64), k12 i1 i2 Mo_count Mo_codes Mo_keys = some (Mo_count_r, Mo_codes_r, Mo_keys_r) → g_layWithX X D cI cL cZ a_Mo a_Mo_codes a_Mo_keys a_Mo_degrees a_Mo_raised A Mo_variables Mo_order Mo_highest Mo_count_r Mo_codes_r Mo_keys_r 12 [(0, .ref a_Mo), (1, .int i1), (2, .int i2)] [] Mo_count Mo_codes Mo_keys) (k24 : Int32 → Int32 → Int32 → Int32 → (Nat → Int32) → (Nat → Int64) → Option (Int32 × (Nat → Int32) × (Nat → Int64))) (hk24 : ∀ (i1 i2 i3 Mo_count : Int32) (Mo_codes : Nat → Int32) (Mo_keys : Nat → Int64), k24 i1 i2 i3 Mo_count Mo_codes Mo_keys = some (Mo_count_r, Mo_codes_r, Mo_keys_r) → g_layWithX X D cI cL cZ a_Mo a_Mo_codes a_Mo_keys a_Mo_degrees a_Mo_raised A Mo_variables Mo_order Mo_highest Mo_count_r Mo_codes_r Mo_keys_r 24 [(0, .ref a_Mo), (1, .int i1), (2, .int i2), (3, .int i3)] [] Mo_count Mo_codes Mo_keys) : ∀ (n : Nat) (i1 i2 i3 i4 Mo_count : Int32) (Mo_codes : Nat → Int32) (Mo_keys : Nat → Int64), b_layWithX_39 F Mo_highest Mo_order Mo_variables k2 k12 k24 n i1 i2 i3 i4 Mo_count Mo_codes Mo_keys = some (Mo_count_r, Mo_codes_r, Mo_keys_r) → g_layWithX X D cI cL cZ a_Mo a_Mo_codes a_Mo_keys a_Mo_degrees a_Mo_raised A Mo_variables Mo_order Mo_highest Mo_count_r Mo_codes_r Mo_keys_r 39 [(0, .ref a_Mo), (1, .int i1), (2, .int i2), (3, .int i3), (4, .int i4)] [] Mo_count Mo_codes Mo_keys := by
  intro n
  induction n with
  | zero => intro i1 i2 i3 i4 Mo_count Mo_codes Mo_keys hrun; cases hrun
  | succ n ih =>
    intro i1 i2 i3 i4 Mo_count Mo_codes Mo_keys hrun
    exact w_layWithX_39 X D cI cL cZ a_Mo a_Mo_codes a_Mo_keys a_Mo_degrees a_Mo_raised A Mo_variables Mo_order Mo_highest Mo_count_r Mo_codes_r Mo_keys_r F C0 hK hA hN k2 hk2 k12 hk12 k24 hk24 (b_layWithX_39 F Mo_highest Mo_order Mo_variables k2 k12 k24 n) ih i1 i2 i3 i4 Mo_count Mo_codes Mo_keys hrun
set_option maxHeartbeats 4000000 in
set_option maxRecDepth 100000 in
theorem w_layWithX_24 (X : gX) (D : va_G) (cI cL cZ : ClassId) (a_Mo a_Mo_codes a_Mo_keys a_Mo_degrees a_Mo_raised : Nat) (A : Nat → Prop) (Mo_variables Mo_order Mo_highest Mo_count_r : Int32) (Mo_codes_r : Nat → Int32) (Mo_keys_r : Nat → Int64) (F : Nat) (C0 : gC X c_Mo_layWithXb none 5 "RemnantDictionary$Monomials" gAll) (hK : va_K D classes (gT cI cL cZ) (gs X)) (hA : ∀ q : Nat, (gs X).heap.size ≤ q → A q) (hN : gN (gs X)) (k2 : Int32 → Int32 → (Nat → Int32) → (Nat → Int64) → Option (Int32 × (Nat → Int32) × (Nat → Int64))) (hk2 : ∀ (i1 Mo_count : Int32) (Mo_codes : Nat → Int32) (Mo_keys : Nat → Int64), k2 i1 Mo_count Mo_codes Mo_keys = some (Mo_count_r, Mo_codes_r, Mo_keys_r) → g_layWithX X D cI cL cZ a_Mo a_Mo_codes a_Mo_keys a_Mo_degrees a_Mo_raised A Mo_variables Mo_order Mo_highest Mo_count_r Mo_codes_r Mo_keys_r 2 [(0, .ref a_Mo), (1, .int i1)] [] Mo_count Mo_codes Mo_keys) (k12 : Int32 → Int32 → Int32 → (Nat → Int32) → (Nat → Int64) → Option (Int32 × (Nat → Int32) × (Nat → Int64))) (hk12 : ∀ (i1 i2 Mo_count : Int32) (Mo_codes : Nat → Int32) (Mo_keys : Nat → Int64), k12 i1 i2 Mo_count Mo_codes Mo_keys = some (Mo_count_r, Mo_codes_r, Mo_keys_r) → g_layWithX X D cI cL cZ a_Mo a_Mo_codes a_Mo_keys a_Mo_degrees a_Mo_raised A Mo_variables Mo_order Mo_highest Mo_count_r Mo_codes_r Mo_keys_r 12 [(0, .ref a_Mo), (1, .int i1), (2, .int i2)] [] Mo_count Mo_codes Mo_keys) (k24 : Int32 → Int32 → Int32 → Int32 → (Nat → Int32) → (Nat → Int64) → Option (Int32 × (Nat → Int32) × (Nat → Int64))) (hk24 : ∀ (i1 i2 i3 Mo_count : Int32) (Mo_codes : Nat → Int32) (Mo_keys : Nat → Int64), k24 i1 i2 i3 Mo_count Mo_codes Mo_keys = some (Mo_count_r, Mo_codes_r, Mo_keys_r) → g_layWithX X D cI cL cZ a_Mo a_Mo_codes a_Mo_keys a_Mo_degrees a_Mo_raised A Mo_variables Mo_order Mo_highest Mo_count_r Mo_codes_r Mo_keys_r 24 [(0, .ref a_Mo), (1, .int i1), (2, .int i2), (3, .int i3)] [] Mo_count Mo_codes Mo_keys) (i1 i2 i3 Mo_count : Int32) (Mo_codes : Nat → Int32) (Mo_keys : Nat → Int64) (hrun : s_layWithX_24 F Mo_highest Mo_order Mo_variables k2 k12 k24 i1 i2 i3 Mo_count Mo_codes Mo_keys = some (Mo_count_r, Mo_codes_r, Mo_keys_r)) : g_layWithX X D cI cL cZ a_Mo a_Mo_codes a_Mo_keys a_Mo_degrees a_Mo_raised A Mo_variables Mo_order Mo_highest Mo_count_r Mo_codes_r Mo_keys_r 24 [(0, .ref a_Mo), (1, .int i1), (2, .int i2), (3, .int i3)] [] Mo_count Mo_codes Mo_keys := by
  have C1 := C0
  obtain ⟨hx, hb, hr, hml, hown, hts, hlocks⟩ := C1
  unfold s_layWithX_24 at hrun
  intro H locs ls hP hD hS hl
  refine lv_iload_n hx hb d_Mo_layWithX_24 rfl (lv_at hl 3 rfl) ?_
  refine lv_aload_n hx hb d_Mo_layWithX_25 rfl (lv_at hl 0 rfl) ?_
  refine lv_iconst (v := 2) hx hb d_Mo_layWithX_26 (by decide) ?_
  refine lv_iload_n hx hb d_Mo_layWithX_27 rfl (lv_at hl 1 rfl) ?_
  refine lv_iload_n hx hb d_Mo_layWithX_28 rfl (lv_at hl 2 rfl) ?_
  refine lv_iadd hx hb d_Mo_layWithX_29 ?_
  obtain ⟨r_1, hc, hrun⟩ := bd1_s hrun
  refine vp_callSi (W.runV (As := [.int 2, .int (i1 + i2)]) (rest := [.int i3]) ⟨hx, hb, hml, hown, hts⟩ (c_most (gl X) D cI cL cZ a_Mo a_Mo_codes a_Mo_degrees a_Mo_keys a_Mo_raised F Mo_variables Mo_order Mo_highest Mo_count 2 (i1 + i2) r_1 hc) (cwV 2 hts (gwV k_49 k_46 k_47 k_48 k_38) rfl rfl rfl (by decide +kernel) ⟨Nat.le_of_ble_eq_true rfl, Nat.le_of_ble_eq_true rfl⟩) (gpreV (hP.sub (ws' := (ws_most a_Mo a_Mo_codes a_Mo_degrees a_Mo_keys a_Mo_raised cI cL cZ Mo_variables Mo_order Mo_highest Mo_count)) [0] rfl) hK hN 1 0 rfl rfl) rfl rfl hl.1 rfl (lv_room (Nat.le_of_ble_eq_true rfl)) d_Mo_layWithX_30 ⟨Nat.le_of_ble_eq_true rfl, Nat.le_of_ble_eq_true rfl⟩) (nm_e ?_)
  refine g_icmp_gt (tgt := 87) hx hb d_Mo_layWithX_33 (by decide) hrun (fun _ hrun => ?_) (fun _ hrun => ?_)
  · refine lv_iinc (v := (i2 + 1)) (lv' := [(2, .int (i2 + 1)), (0, .ref a_Mo), (1, .int i1), (3, .int i3)]) hx hb d_Mo_layWithX_87 hl (k := 2) rfl rfl (by decide) rfl (fun ls hl => ?_)
    refine lv_goto (tgt := 12) hx hb d_Mo_layWithX_90 (by decide) ?_
    exact hk12 i1 (i2 + 1) Mo_count Mo_codes Mo_keys hrun H locs ls hP hD hS (lv_sub hl [1, 2, 0] rfl)
  · refine lv_iconst (v := 0) hx hb d_Mo_layWithX_36 (by decide) ?_
    refine lv_istore (lv' := [(4, .int 0), (0, .ref a_Mo), (1, .int i1), (2, .int i2), (3, .int i3)]) hx hb d_Mo_layWithX_37 hl (by decide) rfl (fun ls hl => ?_)
    exact v_layWithX_39 X D cI cL cZ a_Mo a_Mo_codes a_Mo_keys a_Mo_degrees a_Mo_raised A Mo_variables Mo_order Mo_highest Mo_count_r Mo_codes_r Mo_keys_r F C0 hK hA hN k2 hk2 k12 hk12 k24 hk24 F i1 i2 i3 0 Mo_count Mo_codes Mo_keys hrun H locs ls hP hD hS (lv_sub hl [1, 2, 3, 4, 0] rfl)
theorem v_layWithX_24 (X : gX) (D : va_G) (cI cL cZ : ClassId) (a_Mo a_Mo_codes a_Mo_keys a_Mo_degrees a_Mo_raised : Nat) (A : Nat → Prop) (Mo_variables Mo_order Mo_highest Mo_count_r : Int32) (Mo_codes_r : Nat → Int32) (Mo_keys_r : Nat → Int64) (F : Nat) (C0 : gC X c_Mo_layWithXb none 5 "RemnantDictionary$Monomials" gAll) (hK : va_K D classes (gT cI cL cZ) (gs X)) (hA : ∀ q : Nat, (gs X).heap.size ≤ q → A q) (hN : gN (gs X)) (k2 : Int32 → Int32 → (Nat → Int32) → (Nat → Int64) → Option (Int32 × (Nat → Int32) × (Nat → Int64))) (hk2 : ∀ (i1 Mo_count : Int32) (Mo_codes : Nat → Int32) (Mo_keys : Nat → Int64), k2 i1 Mo_count Mo_codes Mo_keys = some (Mo_count_r, Mo_codes_r, Mo_keys_r) → g_layWithX X D cI cL cZ a_Mo a_Mo_codes a_Mo_keys a_Mo_degrees a_Mo_raised A Mo_variables Mo_order Mo_highest Mo_count_r Mo_codes_r Mo_keys_r 2 [(0, .ref a_Mo), (1, .int i1)] [] Mo_count Mo_codes Mo_keys) (k12 : Int32 → Int32 → Int32 → (Nat → Int32) → (Nat → Int64) → Option (Int32 × (Nat → Int32) × (Nat → Int64))) (hk12 : ∀ (i1 i2 Mo_count : Int32) (Mo_codes : Nat → Int32) (Mo_keys : Nat → Int64), k12 i1 i2 Mo_count Mo_codes Mo_keys = some (Mo_count_r, Mo_codes_r, Mo_keys_r) → g_layWithX X D cI cL cZ a_Mo a_Mo_codes a_Mo_keys a_Mo_degrees a_Mo_raised A Mo_variables Mo_order Mo_highest Mo_count_r Mo_codes_r Mo_keys_r 12 [(0, .ref a_Mo), (1, .int i1), (2, .int i2)] [] Mo_count Mo_codes Mo_keys) : ∀ (n : Nat) (i1 i2 i3 Mo_count : Int32) (Mo_codes : Nat → Int32) (Mo_keys : Nat → Int64), b_layWithX_24 F Mo_highest Mo_order Mo_variables k2 k12 n i1 i2 i3 Mo_count Mo_codes Mo_keys = some (Mo_count_r, Mo_codes_r, Mo_keys_r) → g_layWithX X D cI cL cZ a_Mo a_Mo_codes a_Mo_keys a_Mo_degrees a_Mo_raised A Mo_variables Mo_order Mo_highest Mo_count_r Mo_codes_r Mo_keys_r 24 [(0, .ref a_Mo), (1, .int i1), (2, .int i2), (3, .int i3)] [] Mo_count Mo_codes Mo_keys := by
  intro n
  induction n with
  | zero => intro i1 i2 i3 Mo_count Mo_codes Mo_keys hrun; cases hrun
  | succ n ih =>
    intro i1 i2 i3 Mo_count Mo_codes Mo_keys hrun
    exact w_layWithX_24 X D cI cL cZ a_Mo a_Mo_codes a_Mo_keys a_Mo_degrees a_Mo_raised A Mo_variables Mo_order Mo_highest Mo_count_r Mo_codes_r Mo_keys_r F C0 hK hA hN k2 hk2 k12 hk12 (b_layWithX_24 F Mo_highest Mo_order Mo_variables k2 k12 n) ih i1 i2 i3 Mo_count Mo_codes Mo_keys hrun
set_option maxHeartbeats 4000000 in
set_option maxRecDepth 100000 in
theorem w_layWithX_12 (X : gX) (D : va_G) (cI cL cZ : ClassId) (a_Mo a_Mo_codes a_Mo_keys a_Mo_degrees a_Mo_raised : Nat) (A : Nat → Prop) (Mo_variables Mo_order Mo_highest Mo_count_r : Int32) (Mo_codes_r : Nat → Int32) (Mo_keys_r : Nat → Int64) (F : Nat) (C0 : gC X c_Mo_layWithXb none 5 "RemnantDictionary$Monomials" gAll) (hK : va_K D classes (gT cI cL cZ) (gs X)) (hA : ∀ q : Nat, (gs X).heap.size ≤ q → A q) (hN : gN (gs X)) (k2 : Int32 → Int32 → (Nat → Int32) → (Nat → Int64) → Option (Int32 × (Nat → Int32) × (Nat → Int64))) (hk2 : ∀ (i1 Mo_count : Int32) (Mo_codes : Nat → Int32) (Mo_keys : Nat → Int64), k2 i1 Mo_count Mo_codes Mo_keys = some (Mo_count_r, Mo_codes_r, Mo_keys_r) → g_layWithX X D cI cL cZ a_Mo a_Mo_codes a_Mo_keys a_Mo_degrees a_Mo_raised A Mo_variables Mo_order Mo_highest Mo_count_r Mo_codes_r Mo_keys_r 2 [(0, .ref a_Mo), (1, .int i1)] [] Mo_count Mo_codes Mo_keys) (k12 : Int32 → Int32 → Int32 → (Nat → Int32) → (Nat → Int64) → Option (Int32 × (Nat → Int32) × (Nat → Int64))) (hk12 : ∀ (i1 i2 Mo_count : Int32) (Mo_codes : Nat → Int32) (Mo_keys : Nat → Int64), k12 i1 i2 Mo_count Mo_codes Mo_keys = some (Mo_count_r, Mo_codes_r, Mo_keys_r) → g_layWithX X D cI cL cZ a_Mo a_Mo_codes a_Mo_keys a_Mo_degrees a_Mo_raised A Mo_variables Mo_order Mo_highest Mo_count_r Mo_codes_r Mo_keys_r 12 [(0, .ref a_Mo), (1, .int i1), (2, .int i2)] [] Mo_count Mo_codes Mo_keys) (i1 i2 Mo_count : Int32) (Mo_codes : Nat → Int32) (Mo_keys : Nat → Int64) (hrun : s_layWithX_12 F Mo_highest Mo_order Mo_variables k2 k12 i1 i2 Mo_count Mo_codes Mo_keys = some (Mo_count_r, Mo_codes_r, Mo_keys_r)) : g_layWithX X D cI cL cZ a_Mo a_Mo_codes a_Mo_keys a_Mo_degrees a_Mo_raised A Mo_variables Mo_order Mo_highest Mo_count_r Mo_codes_r Mo_keys_r 12 [(0, .ref a_Mo), (1, .int i1), (2, .int i2)] [] Mo_count Mo_codes Mo_keys := by
  have C1 := C0
  obtain ⟨hx, hb, hr, hml, hown, hts, hlocks⟩ := C1
  unfold s_layWithX_12 at hrun
  intro H locs ls hP hD hS hl
  refine lv_iload_n hx hb d_Mo_layWithX_12 rfl (lv_at hl 2 rfl) ?_
  refine lv_aload_n hx hb d_Mo_layWithX_13 rfl (lv_at hl 0 rfl) ?_
  refine lv_iconst (v := 1) hx hb d_Mo_layWithX_14 (by decide) ?_
  refine lv_iload_n hx hb d_Mo_layWithX_15 rfl (lv_at hl 1 rfl) ?_
  obtain ⟨r_1, hc, hrun⟩ := bd1_s hrun
  refine vp_callSi (W.runV (As := [.int 1, .int i1]) (rest := [.int i2]) ⟨hx, hb, hml, hown, hts⟩ (c_most (gl X) D cI cL cZ a_Mo a_Mo_codes a_Mo_degrees a_Mo_keys a_Mo_raised F Mo_variables Mo_order Mo_highest Mo_count 1 i1 r_1 hc) (cwV 2 hts (gwV k_49 k_46 k_47 k_48 k_38) rfl rfl rfl (by decide +kernel) ⟨Nat.le_of_ble_eq_true rfl, Nat.le_of_ble_eq_true rfl⟩) (gpreV (hP.sub (ws' := (ws_most a_Mo a_Mo_codes a_Mo_degrees a_Mo_keys a_Mo_raised cI cL cZ Mo_variables Mo_order Mo_highest Mo_count)) [0] rfl) hK hN 1 0 rfl rfl) rfl rfl hl.1 rfl (lv_room (Nat.le_of_ble_eq_true rfl)) d_Mo_layWithX_16 ⟨Nat.le_of_ble_eq_true rfl, Nat.le_of_ble_eq_true rfl⟩) (nm_e ?_)
  refine g_icmp_gt (tgt := 93) hx hb d_Mo_layWithX_19 (by decide) hrun (fun _ hrun => ?_) (fun _ hrun => ?_)
  · refine lv_iinc (v := (i1 + 1)) (lv' := [(1, .int (i1 + 1)), (0, .ref a_Mo), (2, .int i2)]) hx hb d_Mo_layWithX_93 hl (k := 1) rfl rfl (by decide) rfl (fun ls hl => ?_)
    refine lv_goto (tgt := 2) hx hb d_Mo_layWithX_96 (by decide) ?_
    exact hk2 (i1 + 1) Mo_count Mo_codes Mo_keys hrun H locs ls hP hD hS (lv_sub hl [1, 0] rfl)
  · refine lv_iconst (v := 0) hx hb d_Mo_layWithX_22 (by decide) ?_
    refine lv_istore_n (lv' := [(3, .int 0), (0, .ref a_Mo), (1, .int i1), (2, .int i2)]) hx hb d_Mo_layWithX_23 rfl hl (by decide) rfl (fun ls hl => ?_)
    exact v_layWithX_24 X D cI cL cZ a_Mo a_Mo_codes a_Mo_keys a_Mo_degrees a_Mo_raised A Mo_variables Mo_order Mo_highest Mo_count_r Mo_codes_r Mo_keys_r F C0 hK hA hN k2 hk2 k12 hk12 F i1 i2 0 Mo_count Mo_codes Mo_keys hrun H locs ls hP hD hS (lv_sub hl [1, 2, 3, 0] rfl)
theorem v_layWithX_12 (X : gX) (D : va_G) (cI cL cZ : ClassId) (a_Mo a_Mo_codes a_Mo_keys a_Mo_degrees a_Mo_raised : Nat) (A : Nat → Prop) (Mo_variables Mo_order Mo_highest Mo_count_r : Int32) (Mo_codes_r : Nat → Int32) (Mo_keys_r : Nat → Int64) (F : Nat) (C0 : gC X c_Mo_layWithXb none 5 "RemnantDictionary$Monomials" gAll) (hK : va_K D classes (gT cI cL cZ) (gs X)) (hA : ∀ q : Nat, (gs X).heap.size ≤ q → A q) (hN : gN (gs X)) (k2 : Int32 → Int32 → (Nat → Int32) → (Nat → Int64) → Option (Int32 × (Nat → Int32) × (Nat → Int64))) (hk2 : ∀ (i1 Mo_count : Int32) (Mo_codes : Nat → Int32) (Mo_keys : Nat → Int64), k2 i1 Mo_count Mo_codes Mo_keys = some (Mo_count_r, Mo_codes_r, Mo_keys_r) → g_layWithX X D cI cL cZ a_Mo a_Mo_codes a_Mo_keys a_Mo_degrees a_Mo_raised A Mo_variables Mo_order Mo_highest Mo_count_r Mo_codes_r Mo_keys_r 2 [(0, .ref a_Mo), (1, .int i1)] [] Mo_count Mo_codes Mo_keys) : ∀ (n : Nat) (i1 i2 Mo_count : Int32) (Mo_codes : Nat → Int32) (Mo_keys : Nat → Int64), b_layWithX_12 F Mo_highest Mo_order Mo_variables k2 n i1 i2 Mo_count Mo_codes Mo_keys = some (Mo_count_r, Mo_codes_r, Mo_keys_r) → g_layWithX X D cI cL cZ a_Mo a_Mo_codes a_Mo_keys a_Mo_degrees a_Mo_raised A Mo_variables Mo_order Mo_highest Mo_count_r Mo_codes_r Mo_keys_r 12 [(0, .ref a_Mo), (1, .int i1), (2, .int i2)] [] Mo_count Mo_codes Mo_keys := by
  intro n
  induction n with
  | zero => intro i1 i2 Mo_count Mo_codes Mo_keys hrun; cases hrun
  | succ n ih =>
    intro i1 i2 Mo_count Mo_codes Mo_keys hrun
    exact w_layWithX_12 X D cI cL cZ a_Mo a_Mo_codes a_Mo_keys a_Mo_degrees a_Mo_raised A Mo_variables Mo_order Mo_highest Mo_count_r Mo_codes_r Mo_keys_r F C0 hK hA hN k2 hk2 (b_layWithX_12 F Mo_highest Mo_order Mo_variables k2 n) ih i1 i2 Mo_count Mo_codes Mo_keys hrun
set_option maxHeartbeats 4000000 in
set_option maxRecDepth 100000 in
theorem w_layWithX_2 (X : gX) (D : va_G) (cI cL cZ : ClassId) (a_Mo a_Mo_codes a_Mo_keys a_Mo_degrees a_Mo_raised : Nat) (A : Nat → Prop) (Mo_variables Mo_order Mo_highest Mo_count_r : Int32) (Mo_codes_r : Nat → Int32) (Mo_keys_r : Nat → Int64) (F : Nat) (C0 : gC X c_Mo_layWithXb none 5 "RemnantDictionary$Monomials" gAll) (hK : va_K D classes (gT cI cL cZ) (gs X)) (hA : ∀ q : Nat, (gs X).heap.size ≤ q → A q) (hN : gN (gs X)) (k2 : Int32 → Int32 → (Nat → Int32) → (Nat → Int64) → Option (Int32 × (Nat → Int32) × (Nat → Int64))) (hk2 : ∀ (i1 Mo_count : Int32) (Mo_codes : Nat → Int32) (Mo_keys : Nat → Int64), k2 i1 Mo_count Mo_codes Mo_keys = some (Mo_count_r, Mo_codes_r, Mo_keys_r) → g_layWithX X D cI cL cZ a_Mo a_Mo_codes a_Mo_keys a_Mo_degrees a_Mo_raised A Mo_variables Mo_order Mo_highest Mo_count_r Mo_codes_r Mo_keys_r 2 [(0, .ref a_Mo), (1, .int i1)] [] Mo_count Mo_codes Mo_keys) (i1 Mo_count : Int32) (Mo_codes : Nat → Int32) (Mo_keys : Nat → Int64) (hrun : s_layWithX_2 F Mo_highest Mo_order Mo_variables k2 i1 Mo_count Mo_codes Mo_keys = some (Mo_count_r, Mo_codes_r, Mo_keys_r)) : g_layWithX X D cI cL cZ a_Mo a_Mo_codes a_Mo_keys a_Mo_degrees a_Mo_raised A Mo_variables Mo_order Mo_highest Mo_count_r Mo_codes_r Mo_keys_r 2 [(0, .ref a_Mo), (1, .int i1)] [] Mo_count Mo_codes Mo_keys := by
  have C1 := C0
  obtain ⟨hx, hb, hr, hml, hown, hts, hlocks⟩ := C1
  unfold s_layWithX_2 at hrun
  intro H locs ls hP hD hS hl
  refine lv_iload_n hx hb d_Mo_layWithX_2 rfl (lv_at hl 1 rfl) ?_
  refine lv_aload_n hx hb d_Mo_layWithX_3 rfl (lv_at hl 0 rfl) ?_
  refine va_get (D := D) (ci := 1) (v := .int Mo_highest) (C := "RemnantDictionary$Monomials") (T := T_Mo) (N := 8) hx hb hts iw_Mo hown hK hP 0 rfl rfl 2 (by decide) (hts _ k_37) (fun _ h9 => h9) rfl d_Mo_layWithX_4 ?_
  refine g_icmp_gt (tgt := 99) hx hb d_Mo_layWithX_7 (by decide) hrun (fun _ hrun => ?_) (fun _ hrun => ?_)
  · cases hrun
    exact W.vret hx hb hr (fun t ht hW => ⟨⟨(), rfl, trivial, gB_of ht hW.alike hP hK hD⟩, hS.F ht⟩) hS.2.2 d_Mo_layWithX_99
  · refine lv_iconst (v := 0) hx hb d_Mo_layWithX_10 (by decide) ?_
    refine lv_istore_n (lv' := [(2, .int 0), (0, .ref a_Mo), (1, .int i1)]) hx hb d_Mo_layWithX_11 rfl hl (by decide) rfl (fun ls hl => ?_)
    exact v_layWithX_12 X D cI cL cZ a_Mo a_Mo_codes a_Mo_keys a_Mo_degrees a_Mo_raised A Mo_variables Mo_order Mo_highest Mo_count_r Mo_codes_r Mo_keys_r F C0 hK hA hN k2 hk2 F i1 0 Mo_count Mo_codes Mo_keys hrun H locs ls hP hD hS (lv_sub hl [1, 2, 0] rfl)
theorem v_layWithX_2 (X : gX) (D : va_G) (cI cL cZ : ClassId) (a_Mo a_Mo_codes a_Mo_keys a_Mo_degrees a_Mo_raised : Nat) (A : Nat → Prop) (Mo_variables Mo_order Mo_highest Mo_count_r : Int32) (Mo_codes_r : Nat → Int32) (Mo_keys_r : Nat → Int64) (F : Nat) (C0 : gC X c_Mo_layWithXb none 5 "RemnantDictionary$Monomials" gAll) (hK : va_K D classes (gT cI cL cZ) (gs X)) (hA : ∀ q : Nat, (gs X).heap.size ≤ q → A q) (hN : gN (gs X))  : ∀ (n : Nat) (i1 Mo_count : Int32) (Mo_codes : Nat → Int32) (Mo_keys : Nat → Int64), b_layWithX_2 F Mo_highest Mo_order Mo_variables n i1 Mo_count Mo_codes Mo_keys = some (Mo_count_r, Mo_codes_r, Mo_keys_r) → g_layWithX X D cI cL cZ a_Mo a_Mo_codes a_Mo_keys a_Mo_degrees a_Mo_raised A Mo_variables Mo_order Mo_highest Mo_count_r Mo_codes_r Mo_keys_r 2 [(0, .ref a_Mo), (1, .int i1)] [] Mo_count Mo_codes Mo_keys := by
  intro n
  induction n with
  | zero => intro i1 Mo_count Mo_codes Mo_keys hrun; cases hrun
  | succ n ih =>
    intro i1 Mo_count Mo_codes Mo_keys hrun
    exact w_layWithX_2 X D cI cL cZ a_Mo a_Mo_codes a_Mo_keys a_Mo_degrees a_Mo_raised A Mo_variables Mo_order Mo_highest Mo_count_r Mo_codes_r Mo_keys_r F C0 hK hA hN (b_layWithX_2 F Mo_highest Mo_order Mo_variables n) ih i1 Mo_count Mo_codes Mo_keys hrun
set_option maxHeartbeats 4000000 in
set_option maxRecDepth 100000 in
theorem e_layWithX (X : gX) (D : va_G) (cI cL cZ : ClassId) (a_Mo a_Mo_codes a_Mo_keys a_Mo_degrees a_Mo_raised : Nat) (A : Nat → Prop) (Mo_variables Mo_order Mo_highest Mo_count_r : Int32) (Mo_codes_r : Nat → Int32) (Mo_keys_r : Nat → Int64) (F : Nat) (C0 : gC X c_Mo_layWithXb none 5 "RemnantDictionary$Monomials" gAll) (hK : va_K D classes (gT cI cL cZ) (gs X)) (hA : ∀ q : Nat, (gs X).heap.size ≤ q → A q) (hN : gN (gs X)) (Mo_count : Int32) (Mo_codes : Nat → Int32) (Mo_keys : Nat → Int64) (hrun : m_layWithX F Mo_highest Mo_order Mo_variables Mo_count Mo_codes Mo_keys = some (Mo_count_r, Mo_codes_r, Mo_keys_r)) : g_layWithX X D cI cL cZ a_Mo a_Mo_codes a_Mo_keys a_Mo_degrees a_Mo_raised A Mo_variables Mo_order Mo_highest Mo_count_r Mo_codes_r Mo_keys_r 0 [(0, .ref a_Mo)] [] Mo_count Mo_codes Mo_keys := by
  have C1 := C0
  obtain ⟨hx, hb, hr, hml, hown, hts, hlocks⟩ := C1
  unfold m_layWithX at hrun
  intro H locs ls hP hD hS hl
  refine lv_iconst (v := 0) hx hb d_Mo_layWithX_0 (by decide) ?_
  refine lv_istore_n (lv' := [(1, .int 0), (0, .ref a_Mo)]) hx hb d_Mo_layWithX_1 rfl hl (by decide) rfl (fun ls hl => ?_)
  exact v_layWithX_2 X D cI cL cZ a_Mo a_Mo_codes a_Mo_keys a_Mo_degrees a_Mo_raised A Mo_variables Mo_order Mo_highest Mo_count_r Mo_codes_r Mo_keys_r F C0 hK hA hN  F 0 Mo_count Mo_codes Mo_keys hrun H locs ls hP hD hS (lv_sub hl [1, 0] rfl)
set_option maxHeartbeats 4000000 in
set_option maxRecDepth 100000 in
theorem c_layWithX (l : Launch) (D : va_G) (cI cL cZ : ClassId) (a_Mo a_Mo_codes a_Mo_keys a_Mo_degrees a_Mo_raised : Nat) (F : Nat) (Mo_variables Mo_order Mo_highest Mo_count : Int32) (Mo_codes : Nat → Int32) (Mo_keys : Nat → Int64) (sz : Nat) (Mo_count_r : Int32) (Mo_codes_r : Nat → Int32) (Mo_keys_r : Nat → Int64) (hrun : m_layWithX F Mo_highest Mo_order Mo_variables Mo_count Mo_codes Mo_keys = some (Mo_count_r, Mo_codes_r, Mo_keys_r)) : Met l y_Mo_layWithX (.code y_Mo_layWithX c_Mo_layWithXb 5 none :: gAll) rm_layWithX (va_Pc [.ref a_Mo] (gPW D (gT cI cL cZ) (ws_layWithX a_Mo a_Mo_codes a_Mo_keys a_Mo_degrees a_Mo_raised cI cL cZ Mo_variables Mo_order Mo_highest Mo_count Mo_codes Mo_keys) sz)) (va_Qv (fun _ : Unit => True) (gB D (gT cI cL cZ) (va_A (ws_layWithX a_Mo a_Mo_codes a_Mo_keys a_Mo_degrees a_Mo_raised cI cL cZ Mo_variables Mo_order Mo_highest Mo_count Mo_codes Mo_keys) sz) (ws_layWithX a_Mo a_Mo_codes a_Mo_keys a_Mo_degrees a_Mo_raised cI cL cZ Mo_variables Mo_order Mo_highest Mo_count_r Mo_codes_r Mo_keys_r)) (va_A (ws_layWithX a_Mo a_Mo_codes a_Mo_keys a_Mo_degrees a_Mo_raised cI cL cZ Mo_variables Mo_order Mo_highest Mo_count Mo_codes Mo_keys) sz)) 0 0 (va_A (ws_layWithX a_Mo a_Mo_codes a_Mo_keys a_Mo_degrees a_Mo_raised cI cL cZ Mo_variables Mo_order Mo_highest Mo_count Mo_codes Mo_keys) sz) := by
  refine Met.ofW (cc := c_Mo_layWithXb) (maxL := 5) (ret := none) (by decide +kernel) rfl ?_
  intro p e s m args below meth c s₁ B hml hv
  obtain ⟨rfl, hsz, hP, hK, hN, hD0⟩ := hv
  subst hsz
  have hD := hD0.self (sz := s.heap.size)
  have hl := lv_entry ([.ref a_Mo]) (n := 5) (Nat.le_of_ble_eq_true rfl)
  rw [lg_entry_eq]
  generalize (lg_sl ([.ref a_Mo]) ++ List.replicate (5 - (lg_sl ([.ref a_Mo])).length) Slot.unset).toArray = ls at hl ⊢
  exact e_layWithX (p, l, e, s, m, ([.ref a_Mo] : List Value).toArray, below, meth, c) D cI cL cZ a_Mo a_Mo_codes a_Mo_keys a_Mo_degrees a_Mo_raised (va_A (ws_layWithX a_Mo a_Mo_codes a_Mo_keys a_Mo_degrees a_Mo_raised cI cL cZ Mo_variables Mo_order Mo_highest Mo_count Mo_codes Mo_keys) s.heap.size) Mo_variables Mo_order Mo_highest Mo_count_r Mo_codes_r Mo_keys_r F ⟨B.exec, B.bytes, B.returns, hml, findClass_of_methodNamed B.named, fun w h => atoms_spec (ws := (.code y_Mo_layWithX c_Mo_layWithXb 5 none :: gAll)) B.pre w (List.mem_cons_of_mem _ h), B.notSynchronized⟩ hK (fun q h => Or.inr h) hN Mo_count Mo_codes Mo_keys hrun s.heap [] ls hP hD va_S.rf hl
theorem d_Mo_lay_0 : decode c_Mo_layb 0 = .ok (.aload_n 0, 1) := by decide +kernel
theorem d_Mo_lay_1 : decode c_Mo_layb 1 = .ok (.iload_n 1, 1) := by decide +kernel
theorem d_Mo_lay_2 : decode c_Mo_layb 2 = .ok (.putfield 25, 3) := by decide +kernel
theorem d_Mo_lay_5 : decode c_Mo_layb 5 = .ok (.aload_n 0, 1) := by decide +kernel
theorem d_Mo_lay_6 : decode c_Mo_layb 6 = .ok (.iload_n 2, 1) := by decide +kernel
theorem d_Mo_lay_7 : decode c_Mo_layb 7 = .ok (.putfield 29, 3) := by decide +kernel
theorem d_Mo_lay_10 : decode c_Mo_layb 10 = .ok (.aload_n 0, 1) := by decide +kernel
theorem d_Mo_lay_11 : decode c_Mo_layb 11 = .ok (.getstatic 32, 3) := by decide +kernel
theorem d_Mo_lay_14 : decode c_Mo_layb 14 = .ok (.iload_n 1, 1) := by decide +kernel
theorem d_Mo_lay_15 : decode c_Mo_layb 15 = .ok (.iconst 1, 1) := by decide +kernel
theorem d_Mo_lay_16 : decode c_Mo_layb 16 = .ok (.isub, 1) := by decide +kernel
theorem d_Mo_lay_17 : decode c_Mo_layb 17 = .ok (.iaload, 1) := by decide +kernel
theorem d_Mo_lay_18 : decode c_Mo_layb 18 = .ok (.putfield 35, 3) := by decide +kernel
theorem d_Mo_lay_21 : decode c_Mo_layb 21 = .ok (.aload_n 0, 1) := by decide +kernel
theorem d_Mo_lay_22 : decode c_Mo_layb 22 = .ok (.iconst 0, 1) := by decide +kernel
theorem d_Mo_lay_23 : decode c_Mo_layb 23 = .ok (.putfield 38, 3) := by decide +kernel
theorem d_Mo_lay_26 : decode c_Mo_layb 26 = .ok (.aload_n 0, 1) := by decide +kernel
theorem d_Mo_lay_27 : decode c_Mo_layb 27 = .ok (.invokevirtual 41, 3) := by decide +kernel
theorem d_Mo_lay_30 : decode c_Mo_layb 30 = .ok (.iconst 0, 1) := by decide +kernel
theorem d_Mo_lay_31 : decode c_Mo_layb 31 = .ok (.istore_n 3, 1) := by decide +kernel
theorem d_Mo_lay_32 : decode c_Mo_layb 32 = .ok (.iload_n 3, 1) := by decide +kernel
theorem d_Mo_lay_33 : decode c_Mo_layb 33 = .ok (.aload_n 0, 1) := by decide +kernel
theorem d_Mo_lay_34 : decode c_Mo_layb 34 = .ok (.getfield 38, 3) := by decide +kernel
theorem d_Mo_lay_37 : decode c_Mo_layb 37 = .ok (.if_icmp .ge 70, 3) := by decide +kernel
theorem d_Mo_lay_40 : decode c_Mo_layb 40 = .ok (.aload_n 0, 1) := by decide +kernel
theorem d_Mo_lay_41 : decode c_Mo_layb 41 = .ok (.getfield 15, 3) := by decide +kernel
theorem d_Mo_lay_44 : decode c_Mo_layb 44 = .ok (.iload_n 3, 1) := by decide +kernel
theorem d_Mo_lay_45 : decode c_Mo_layb 45 = .ok (.aload_n 0, 1) := by decide +kernel
theorem d_Mo_lay_46 : decode c_Mo_layb 46 = .ok (.getfield 9, 3) := by decide +kernel
theorem d_Mo_lay_49 : decode c_Mo_layb 49 = .ok (.iload_n 3, 1) := by decide +kernel
theorem d_Mo_lay_50 : decode c_Mo_layb 50 = .ok (.iaload, 1) := by decide +kernel
theorem d_Mo_lay_51 : decode c_Mo_layb 51 = .ok (.invokestatic 44, 3) := by decide +kernel
theorem d_Mo_lay_54 : decode c_Mo_layb 54 = .ok (.iastore, 1) := by decide +kernel
theorem d_Mo_lay_55 : decode c_Mo_layb 55 = .ok (.iconst 0, 1) := by decide +kernel
theorem d_Mo_lay_56 : decode c_Mo_layb 56 = .ok (.istore 4, 2) := by decide +kernel
theorem d_Mo_lay_58 : decode c_Mo_layb 58 = .ok (.iload 4, 2) := by decide +kernel
theorem d_Mo_lay_60 : decode c_Mo_layb 60 = .ok (.aload_n 0, 1) := by decide +kernel
theorem d_Mo_lay_61 : decode c_Mo_layb 61 = .ok (.getfield 25, 3) := by decide +kernel
theorem d_Mo_lay_64 : decode c_Mo_layb 64 = .ok (.if_icmp .ge 37, 3) := by decide +kernel
theorem d_Mo_lay_67 : decode c_Mo_layb 67 = .ok (.aload_n 0, 1) := by decide +kernel
theorem d_Mo_lay_68 : decode c_Mo_layb 68 = .ok (.getfield 22, 3) := by decide +kernel
theorem d_Mo_lay_71 : decode c_Mo_layb 71 = .ok (.iload 4, 2) := by decide +kernel
theorem d_Mo_lay_73 : decode c_Mo_layb 73 = .ok (.bipush 126, 2) := by decide +kernel
theorem d_Mo_lay_75 : decode c_Mo_layb 75 = .ok (.imul, 1) := by decide +kernel
theorem d_Mo_lay_76 : decode c_Mo_layb 76 = .ok (.iload_n 3, 1) := by decide +kernel
theorem d_Mo_lay_77 : decode c_Mo_layb 77 = .ok (.iadd, 1) := by decide +kernel
theorem d_Mo_lay_78 : decode c_Mo_layb 78 = .ok (.aload_n 0, 1) := by decide +kernel
theorem d_Mo_lay_79 : decode c_Mo_layb 79 = .ok (.aload_n 0, 1) := by decide +kernel
theorem d_Mo_lay_80 : decode c_Mo_layb 80 = .ok (.getfield 9, 3) := by decide +kernel
theorem d_Mo_lay_83 : decode c_Mo_layb 83 = .ok (.iload_n 3, 1) := by decide +kernel
theorem d_Mo_lay_84 : decode c_Mo_layb 84 = .ok (.iaload, 1) := by decide +kernel
theorem d_Mo_lay_85 : decode c_Mo_layb 85 = .ok (.iload 4, 2) := by decide +kernel
theorem d_Mo_lay_87 : decode c_Mo_layb 87 = .ok (.invokestatic 48, 3) := by decide +kernel
theorem d_Mo_lay_90 : decode c_Mo_layb 90 = .ok (.iadd, 1) := by decide +kernel
theorem d_Mo_lay_91 : decode c_Mo_layb 91 = .ok (.invokevirtual 51, 3) := by decide +kernel
theorem d_Mo_lay_94 : decode c_Mo_layb 94 = .ok (.iastore, 1) := by decide +kernel
theorem d_Mo_lay_95 : decode c_Mo_layb 95 = .ok (.iinc 4 1, 3) := by decide +kernel
theorem d_Mo_lay_98 : decode c_Mo_layb 98 = .ok (.goto (-40), 3) := by decide +kernel
theorem d_Mo_lay_101 : decode c_Mo_layb 101 = .ok (.iinc 3 1, 3) := by decide +kernel
theorem d_Mo_lay_104 : decode c_Mo_layb 104 = .ok (.goto (-72), 3) := by decide +kernel
theorem d_Mo_lay_107 : decode c_Mo_layb 107 = .ok (.return_, 1) := by decide +kernel
abbrev ws_lay (a_Mo a_Mo_codes a_Mo_degrees a_Mo_keys a_Mo_raised : Nat) (cI cL cZ : ClassId) (Mo_variables Mo_order Mo_highest Mo_count : Int32) (Mo_codes Mo_degrees : Nat → Int32) (Mo_keys : Nat → Int64) (Mo_raised : Nat → Int32) : va_W := [(a_Mo, .inr (1, [.int Mo_variables, .int Mo_order, .int Mo_highest, .int Mo_count, .ref a_Mo_codes, .ref a_Mo_degrees, .ref a_Mo_keys, .ref a_Mo_raised])), (a_Mo_codes, .inl (cI, 126, .inl Mo_codes)), (a_Mo_degrees, .inl (cI, 126, .inl Mo_degrees)), (a_Mo_keys, .inl (cL, 126, .inr (.inl Mo_keys))), (a_Mo_raised, .inl (cI, 504, .inl Mo_raised))]
abbrev rm_lay : Room := { frames := 5, cells := 0, slots := 0, locals := 114 }
abbrev g_lay (X : gX) (D : va_G) (cI cL cZ : ClassId) (a_Mo a_Mo_codes a_Mo_degrees a_Mo_keys a_Mo_raised : Nat) (A : Nat → Prop) (Mo_count_r Mo_highest_r Mo_order_r Mo_variables_r : Int32) (Mo_codes_r Mo_degrees_r : Nat → Int32) (Mo_keys_r : Nat → Int64) (Mo_raised_r : Nat → Int32) (pc : Nat) (lv : List (Nat × Value)) (st : List Value) (Mo_count Mo_highest Mo_order Mo_variables : Int32) (Mo_codes Mo_degrees : Nat → Int32) (Mo_keys : Nat → Int64) (Mo_raised : Nat → Int32) : Prop := ∀ (H : Heap) (locs : List Loc) (ls : Array Slot), va_P D classes (ws_lay a_Mo a_Mo_codes a_Mo_degrees a_Mo_keys a_Mo_raised cI cL cZ Mo_variables Mo_order Mo_highest Mo_count Mo_codes Mo_degrees Mo_keys Mo_raised) H → va_D A (ws_lay a_Mo a_Mo_codes a_Mo_degrees a_Mo_keys a_Mo_raised cI cL cZ Mo_variables Mo_order Mo_highest Mo_count Mo_codes Mo_degrees Mo_keys Mo_raised) → va_S A (gs X).heap H locs → lv_has ls 5 lv → gWW X rm_lay H locs 0 0 (MQ (gbl X) (va_Qv (fun _ : Unit => True) (gB D (gT cI cL cZ) A (ws_lay a_Mo a_Mo_codes a_Mo_degrees a_Mo_keys a_Mo_raised cI cL cZ Mo_variables_r Mo_order_r Mo_highest_r Mo_count_r Mo_codes_r Mo_degrees_r Mo_keys_r Mo_raised_r)) A) (ga X) (gs X) 0 0 A) (F0 (gm X) pc ls st)
set_option maxHeartbeats 4000000 in
set_option maxRecDepth 100000 in
theorem w_lay_58 (X : gX) (D : va_G) (cI cL cZ : ClassId) (a_Mo a_Mo_codes a_Mo_degrees a_Mo_keys a_Mo_raised : Nat) (A : Nat → Prop) (Mo_count_r Mo_highest_r Mo_order_r Mo_variables_r : Int32) (Mo_codes_r Mo_degrees_r : Nat → Int32) (Mo_keys_r : Nat → Int64) (Mo_raised_r : Nat → Int32) (a_HIGHEST : Nat) (F : Nat) (C0 : gC X c_Mo_layb none 5 "RemnantDictionary$Monomials" gAll) (hK : va_K D classes (gT cI cL cZ) (gs X)) (hA : ∀ q : Nat, (gs X).heap.size ≤ q → A q) (hHI : gHI A a_HIGHEST (gs X)) (hN : gN (gs X)) (k32 : Int32 → Int32 → Int32 → Int32 → Int32 → (Nat → Int32) → (Nat → Int32) → (Nat → Int64) → (Nat → Int32) → Option (Int32 × Int32 × Int32 × Int32 × (Nat → Int32) × (Nat → Int32) × (Nat → Int64) × (Nat → Int32))) (hk32 : ∀ (i3 Mo_count Mo_highest Mo_order Mo_variables : Int32) (Mo_codes Mo_degrees : Nat → Int32) (Mo_keys : Nat → Int64) (Mo_raised : Nat → Int32), k32 i3 Mo_count Mo_highest Mo_order Mo_variables Mo_codes Mo_degrees Mo_keys Mo_raised = some (Mo_count_r, Mo_highest_r, Mo_order_r, Mo_variables_r, Mo_codes_r, Mo_degrees_r, Mo_keys_r, Mo_raised_r) → g_lay X D cI cL cZ a_Mo a_Mo_codes a_Mo_degrees a_Mo_keys a_Mo_raised A Mo_count_r Mo_highest_r Mo_order_r Mo_variables_r Mo_codes_r Mo_degrees_r Mo_keys_r Mo_raised_r 32 [(0, .ref a_Mo), (3, .int i3)] [] Mo_count Mo_highest Mo_order Mo_variables Mo_codes Mo_degrees Mo_keys Mo_raised) (k58 : Int32 → Int32 → Int32 → Int32 → Int32 → Int32 → (Nat → Int32) → (Nat → Int32) → (Nat → Int64) → (Nat → Int32) → Option (Int32 × Int32 × Int32 × Int32 × (Nat → Int32) × (Nat → Int32) × (Nat → Int64) × (Nat → Int32))) (hk58 : ∀ (i3 i4 Mo_count Mo_highest Mo_order Mo_variables : Int32) (Mo_codes Mo_degrees : Nat → Int32) (Mo_keys : Nat → Int64) (Mo_raised : Nat → Int32), k58 i3 i4 Mo_count Mo_highest Mo_order Mo_variables Mo_codes Mo_degrees Mo_keys Mo_raised = some (Mo_count_r, Mo_highest_r, Mo_order_r, Mo_variables_r, Mo_codes_r, Mo_degrees_r, Mo_keys_r, Mo_raised_r) → g_lay X D cI cL cZ a_Mo a_Mo_codes a_Mo_degrees a_Mo_keys a_Mo_raised A Mo_count_r Mo_highest_r Mo_order_r Mo_variables_r Mo_codes_r Mo_degrees_r Mo_keys_r Mo_raised_r 58 [(0, .ref a_Mo), (3, .int i3), (4, .int i4)] [] Mo_count Mo_highest Mo_order Mo_variables Mo_codes Mo_degrees Mo_keys Mo_raised) (i3 i4 Mo_count Mo_highest Mo_order Mo_variables : Int32) (Mo_codes Mo_degrees : Nat → Int32) (Mo_keys : Nat → Int64) (Mo_raised : Nat → Int32) (hrun : s_lay_58 F k32 k58 i3 i4 Mo_count Mo_highest Mo_order Mo_variables Mo_codes Mo_degrees Mo_keys Mo_raised = some (Mo_count_r, Mo_highest_r, Mo_order_r, Mo_variables_r, Mo_codes_r, Mo_degrees_r, Mo_keys_r, Mo_raised_r)) : g_lay X D cI cL cZ a_Mo a_Mo_codes a_Mo_degrees a_Mo_keys a_Mo_raised A Mo_count_r Mo_highest_r Mo_order_r Mo_variables_r Mo_codes_r Mo_degrees_r Mo_keys_r Mo_raised_r 58 [(0, .ref a_Mo), (3, .int i3), (4, .int i4)] [] Mo_count Mo_highest Mo_order Mo_variables Mo_codes Mo_degrees Mo_keys Mo_raised := by
  have C1 := C0
  obtain ⟨hx, hb, hr, hml, hown, hts, hlocks⟩ := C1
  unfold s_lay_58 at hrun
  intro H locs ls hP hD hS hl
  refine lv_iload hx hb d_Mo_lay_58 (lv_at hl 2 rfl) ?_
  refine lv_aload_n hx hb d_Mo_lay_60 rfl (lv_at hl 0 rfl) ?_
  refine va_get (D := D) (ci := 1) (v := .int Mo_variables) (C := "RemnantDictionary$Monomials") (T := T_Mo) (N := 8) hx hb hts iw_Mo hown hK hP 0 rfl rfl 0 (by decide) (hts _ k_36) (fun _ h9 => h9) rfl d_Mo_lay_61 ?_
  refine g_icmp_ge (tgt := 101) hx hb d_Mo_lay_64 (by decide) hrun (fun _ hrun => ?_) (fun _ hrun => ?_)
  · refine lv_iinc (v := (i3 + 1)) (lv' := [(3, .int (i3 + 1)), (0, .ref a_Mo), (4, .int i4)]) hx hb d_Mo_lay_101 hl (k := 1) rfl rfl (by decide) rfl (fun ls hl => ?_)
    refine lv_goto (tgt := 32) hx hb d_Mo_lay_104 (by decide) ?_
    exact hk32 (i3 + 1) Mo_count Mo_highest Mo_order Mo_variables Mo_codes Mo_degrees Mo_keys Mo_raised hrun H locs ls hP hD hS (lv_sub hl [1, 0] rfl)
  · refine lv_aload_n hx hb d_Mo_lay_67 rfl (lv_at hl 0 rfl) ?_
    refine va_get (D := D) (ci := 1) (v := .ref a_Mo_raised) (C := "RemnantDictionary$Monomials") (T := T_Mo) (N := 8) hx hb hts iw_Mo hown hK hP 0 rfl rfl 7 (by decide) (hts _ k_54) (fun _ h9 => h9) rfl d_Mo_lay_68 ?_
    refine lv_iload hx hb d_Mo_lay_71 (lv_at hl 2 rfl) ?_
    refine lv_bipush (v := 126) hx hb d_Mo_lay_73 (by decide) ?_
    refine lv_imul hx hb d_Mo_lay_75 ?_
    refine lv_iload_n hx hb d_Mo_lay_76 rfl (lv_at hl 1 rfl) ?_
    refine lv_iadd hx hb d_Mo_lay_77 ?_
    refine lv_aload_n hx hb d_Mo_lay_78 rfl (lv_at hl 0 rfl) ?_
    refine lv_aload_n hx hb d_Mo_lay_79 rfl (lv_at hl 0 rfl) ?_
    refine va_get (D := D) (ci := 1) (v := .ref a_Mo_codes) (C := "RemnantDictionary$Monomials") (T := T_Mo) (N := 8) hx hb hts iw_Mo hown hK hP 0 rfl rfl 4 (by decide) (hts _ k_40) (fun _ h9 => h9) rfl d_Mo_lay_80 ?_
    refine lv_iload_n hx hb d_Mo_lay_83 rfl (lv_at hl 1 rfl) ?_
    refine g_iald hx hb hK hP 1 0 rfl rfl hrun d_Mo_lay_84 (fun x_1 hrun => ?_)
    refine lv_iload hx hb d_Mo_lay_85 (lv_at hl 2 rfl) ?_
    obtain ⟨r_2, hc, hrun⟩ := bd1_s hrun
    refine vp_callSi (g_ofRun (va_runSN (As := [.int i4]) (rest := [.int x_1, .ref a_Mo, .int ((i4 * 126) + i3), .ref a_Mo_raised]) ⟨hx, hb, hml, hown, hts⟩ (c_variable (gl X) F i4 r_2 hc) (⟨va_cnB 1 hts (gwN k_11) rfl rfl rfl (hN.1 _ (List.mem_of_getElem? (i := 1) rfl)) (hts _ k_14) (by decide +kernel) ⟨Nat.le_of_ble_eq_true rfl, Nat.le_of_ble_eq_true rfl⟩, hts _ k_55, trivial⟩) (gpreS0 hN) rfl rfl hl.1 rfl (lv_room (Nat.le_of_ble_eq_true rfl)) d_Mo_lay_87 ⟨Nat.le_of_ble_eq_true rfl, Nat.le_of_ble_eq_true rfl⟩)) (nm_e ?_)
    refine lv_iadd hx hb d_Mo_lay_90 ?_
    obtain ⟨r_3, hc, hrun⟩ := bd1_s hrun
    refine vp_callSi (W.runV (As := [.int (x_1 + r_2)]) (rest := [.int ((i4 * 126) + i3), .ref a_Mo_raised]) ⟨hx, hb, hml, hown, hts⟩ (c_rank (gl X) D cI cL cZ a_Mo a_Mo_keys a_Mo_codes a_Mo_degrees a_Mo_raised F Mo_variables Mo_order Mo_highest Mo_count Mo_keys (x_1 + r_2) r_3 hc) (cwV 1 hts (gwV k_58 k_56 k_57 k_48 k_45) rfl rfl rfl (by decide +kernel) ⟨Nat.le_of_ble_eq_true rfl, Nat.le_of_ble_eq_true rfl⟩) (gpreV (hP.sub (ws' := (ws_rank a_Mo a_Mo_keys a_Mo_codes a_Mo_degrees a_Mo_raised cI cL cZ Mo_variables Mo_order Mo_highest Mo_count Mo_keys)) [0, 3] rfl) hK hN 1 0 rfl rfl) rfl rfl hl.1 rfl (lv_room (Nat.le_of_ble_eq_true rfl)) d_Mo_lay_91 ⟨Nat.le_of_ble_eq_true rfl, Nat.le_of_ble_eq_true rfl⟩) (nm_e ?_)
    refine g_iast hx hb hK hP hD hS 4 0 rfl rfl hrun d_Mo_lay_94 (fun Mo_raised_4 hrun H locs (hP : va_P D classes (ws_lay a_Mo a_Mo_codes a_Mo_degrees a_Mo_keys a_Mo_raised cI cL cZ Mo_variables Mo_order Mo_highest Mo_count Mo_codes Mo_degrees Mo_keys Mo_raised_4) H) (hD : va_D A (ws_lay a_Mo a_Mo_codes a_Mo_degrees a_Mo_keys a_Mo_raised cI cL cZ Mo_variables Mo_order Mo_highest Mo_count Mo_codes Mo_degrees Mo_keys Mo_raised_4)) hS => ?_)
    refine lv_iinc (v := (i4 + 1)) (lv' := [(4, .int (i4 + 1)), (0, .ref a_Mo), (3, .int i3)]) hx hb d_Mo_lay_95 hl (k := 2) rfl rfl (by decide) rfl (fun ls hl => ?_)
    refine lv_goto (tgt := 58) hx hb d_Mo_lay_98 (by decide) ?_
    exact hk58 i3 (i4 + 1) Mo_count Mo_highest Mo_order Mo_variables Mo_codes Mo_degrees Mo_keys Mo_raised_4 hrun H locs ls hP hD hS (lv_sub hl [1, 2, 0] rfl)
theorem v_lay_58 (X : gX) (D : va_G) (cI cL cZ : ClassId) (a_Mo a_Mo_codes a_Mo_degrees a_Mo_keys a_Mo_raised : Nat) (A : Nat → Prop) (Mo_count_r Mo_highest_r Mo_order_r Mo_variables_r : Int32) (Mo_codes_r Mo_degrees_r : Nat → Int32) (Mo_keys_r : Nat → Int64) (Mo_raised_r : Nat → Int32) (a_HIGHEST : Nat) (F : Nat) (C0 : gC X c_Mo_layb none 5 "RemnantDictionary$Monomials" gAll) (hK : va_K D classes (gT cI cL cZ) (gs X)) (hA : ∀ q : Nat, (gs X).heap.size ≤ q → A q) (hHI : gHI A a_HIGHEST (gs X)) (hN : gN (gs X)) (k32 : Int32 → Int32 → Int32 → Int32 → Int32 → (Nat → Int32) → (Nat → Int32) → (Nat → Int64) → (Nat → Int32) → Option (Int32 × Int32 × Int32 × Int32 × (Nat → Int32) × (Nat → Int32) × (Nat → Int64) × (Nat → Int32))) (hk32 : ∀ (i3 Mo_count Mo_highest Mo_order Mo_variables : Int32) (Mo_codes Mo_degrees : Nat → Int32) (Mo_keys : Nat → Int64) (Mo_raised : Nat → Int32), k32 i3 Mo_count Mo_highest Mo_order Mo_variables Mo_codes Mo_degrees Mo_keys Mo_raised = some (Mo_count_r, Mo_highest_r, Mo_order_r, Mo_variables_r, Mo_codes_r, Mo_degrees_r, Mo_keys_r, Mo_raised_r) → g_lay X D cI cL cZ a_Mo a_Mo_codes a_Mo_degrees a_Mo_keys a_Mo_raised A Mo_count_r Mo_highest_r Mo_order_r Mo_variables_r Mo_codes_r Mo_degrees_r Mo_keys_r Mo_raised_r 32 [(0, .ref a_Mo), (3, .int i3)] [] Mo_count Mo_highest Mo_order Mo_variables Mo_codes Mo_degrees Mo_keys Mo_raised) : ∀ (n : Nat) (i3 i4 Mo_count Mo_highest Mo_order Mo_variables : Int32) (Mo_codes Mo_degrees : Nat → Int32) (Mo_keys : Nat → Int64) (Mo_raised : Nat → Int32), b_lay_58 F k32 n i3 i4 Mo_count Mo_highest Mo_order Mo_variables Mo_codes Mo_degrees Mo_keys Mo_raised = some (Mo_count_r, Mo_highest_r, Mo_order_r, Mo_variables_r, Mo_codes_r, Mo_degrees_r, Mo_keys_r, Mo_raised_r) → g_lay X D cI cL cZ a_Mo a_Mo_codes a_Mo_degrees a_Mo_keys a_Mo_raised A Mo_count_r Mo_highest_r Mo_order_r Mo_variables_r Mo_codes_r Mo_degrees_r Mo_keys_r Mo_raised_r 58 [(0, .ref a_Mo), (3, .int i3), (4, .int i4)] [] Mo_count Mo_highest Mo_order Mo_variables Mo_codes Mo_degrees Mo_keys Mo_raised := by
  intro n
  induction n with
  | zero => intro i3 i4 Mo_count Mo_highest Mo_order Mo_variables Mo_codes Mo_degrees Mo_keys Mo_raised hrun; cases hrun
  | succ n ih =>
    intro i3 i4 Mo_count Mo_highest Mo_order Mo_variables Mo_codes Mo_degrees Mo_keys Mo_raised hrun
    exact w_lay_58 X D cI cL cZ a_Mo a_Mo_codes a_Mo_degrees a_Mo_keys a_Mo_raised A Mo_count_r Mo_highest_r Mo_order_r Mo_variables_r Mo_codes_r Mo_degrees_r Mo_keys_r Mo_raised_r a_HIGHEST F C0 hK hA hHI hN k32 hk32 (b_lay_58 F k32 n) ih i3 i4 Mo_count Mo_highest Mo_order Mo_variables Mo_codes Mo_degrees Mo_keys Mo_raised hrun
set_option maxHeartbeats 4000000 in
set_option maxRecDepth 100000 in
theorem w_lay_32 (X : gX) (D : va_G) (cI cL cZ : ClassId) (a_Mo a_Mo_codes a_Mo_degrees a_Mo_keys a_Mo_raised : Nat) (A : Nat → Prop) (Mo_count_r Mo_highest_r Mo_order_r Mo_variables_r : Int32) (Mo_codes_r Mo_degrees_r : Nat → Int32) (Mo_keys_r : Nat → Int64) (Mo_raised_r : Nat → Int32) (a_HIGHEST : Nat) (F : Nat) (C0 : gC X c_Mo_layb none 5 "RemnantDictionary$Monomials" gAll) (hK : va_K D classes (gT cI cL cZ) (gs X)) (hA : ∀ q : Nat, (gs X).heap.size ≤ q → A q) (hHI : gHI A a_HIGHEST (gs X)) (hN : gN (gs X)) (k32 : Int32 → Int32 → Int32 → Int32 → Int32 → (Nat → Int32) → (Nat → Int32) → (Nat → Int64) → (Nat → Int32) → Option (Int32 × Int32 × Int32 × Int32 × (Nat → Int32) × (Nat → Int32) × (Nat → Int64) × (Nat → Int32))) (hk32 : ∀ (i3 Mo_count Mo_highest Mo_order Mo_variables : Int32) (Mo_codes Mo_degrees : Nat → Int32) (Mo_keys : Nat → Int64) (Mo_raised : Nat → Int32), k32 i3 Mo_count Mo_highest Mo_order Mo_variables Mo_codes Mo_degrees Mo_keys Mo_raised = some (Mo_count_r, Mo_highest_r, Mo_order_r, Mo_variables_r, Mo_codes_r, Mo_degrees_r, Mo_keys_r, Mo_raised_r) → g_lay X D cI cL cZ a_Mo a_Mo_codes a_Mo_degrees a_Mo_keys a_Mo_raised A Mo_count_r Mo_highest_r Mo_order_r Mo_variables_r Mo_codes_r Mo_degrees_r Mo_keys_r Mo_raised_r 32 [(0, .ref a_Mo), (3, .int i3)] [] Mo_count Mo_highest Mo_order Mo_variables Mo_codes Mo_degrees Mo_keys Mo_raised) (i3 Mo_count Mo_highest Mo_order Mo_variables : Int32) (Mo_codes Mo_degrees : Nat → Int32) (Mo_keys : Nat → Int64) (Mo_raised : Nat → Int32) (hrun : s_lay_32 F k32 i3 Mo_count Mo_highest Mo_order Mo_variables Mo_codes Mo_degrees Mo_keys Mo_raised = some (Mo_count_r, Mo_highest_r, Mo_order_r, Mo_variables_r, Mo_codes_r, Mo_degrees_r, Mo_keys_r, Mo_raised_r)) : g_lay X D cI cL cZ a_Mo a_Mo_codes a_Mo_degrees a_Mo_keys a_Mo_raised A Mo_count_r Mo_highest_r Mo_order_r Mo_variables_r Mo_codes_r Mo_degrees_r Mo_keys_r Mo_raised_r 32 [(0, .ref a_Mo), (3, .int i3)] [] Mo_count Mo_highest Mo_order Mo_variables Mo_codes Mo_degrees Mo_keys Mo_raised := by
  have C1 := C0
  obtain ⟨hx, hb, hr, hml, hown, hts, hlocks⟩ := C1
  unfold s_lay_32 at hrun
  intro H locs ls hP hD hS hl
  refine lv_iload_n hx hb d_Mo_lay_32 rfl (lv_at hl 1 rfl) ?_
  refine lv_aload_n hx hb d_Mo_lay_33 rfl (lv_at hl 0 rfl) ?_
  refine va_get (D := D) (ci := 1) (v := .int Mo_count) (C := "RemnantDictionary$Monomials") (T := T_Mo) (N := 8) hx hb hts iw_Mo hown hK hP 0 rfl rfl 3 (by decide) (hts _ k_41) (fun _ h9 => h9) rfl d_Mo_lay_34 ?_
  refine g_icmp_ge (tgt := 107) hx hb d_Mo_lay_37 (by decide) hrun (fun _ hrun => ?_) (fun _ hrun => ?_)
  · cases hrun
    exact W.vret hx hb hr (fun t ht hW => ⟨⟨(), rfl, trivial, gB_of ht hW.alike hP hK hD⟩, hS.F ht⟩) hS.2.2 d_Mo_lay_107
  · refine lv_aload_n hx hb d_Mo_lay_40 rfl (lv_at hl 0 rfl) ?_
    refine va_get (D := D) (ci := 1) (v := .ref a_Mo_degrees) (C := "RemnantDictionary$Monomials") (T := T_Mo) (N := 8) hx hb hts iw_Mo hown hK hP 0 rfl rfl 5 (by decide) (hts _ k_60) (fun _ h9 => h9) rfl d_Mo_lay_41 ?_
    refine lv_iload_n hx hb d_Mo_lay_44 rfl (lv_at hl 1 rfl) ?_
    refine lv_aload_n hx hb d_Mo_lay_45 rfl (lv_at hl 0 rfl) ?_
    refine va_get (D := D) (ci := 1) (v := .ref a_Mo_codes) (C := "RemnantDictionary$Monomials") (T := T_Mo) (N := 8) hx hb hts iw_Mo hown hK hP 0 rfl rfl 4 (by decide) (hts _ k_40) (fun _ h9 => h9) rfl d_Mo_lay_46 ?_
    refine lv_iload_n hx hb d_Mo_lay_49 rfl (lv_at hl 1 rfl) ?_
    refine g_iald hx hb hK hP 1 0 rfl rfl hrun d_Mo_lay_50 (fun x_1 hrun => ?_)
    obtain ⟨r_2, hc, hrun⟩ := bd1_s hrun
    refine vp_callSi (g_ofRun (va_runSN (As := [.int x_1]) (rest := [.int i3, .ref a_Mo_degrees]) ⟨hx, hb, hml, hown, hts⟩ (c_degree (gl X) F x_1 r_2 hc) (⟨va_cnB 1 hts (gwN k_16) rfl rfl rfl (hN.1 _ (List.mem_of_getElem? (i := 2) rfl)) (hts _ k_14) (by decide +kernel) ⟨Nat.le_of_ble_eq_true rfl, Nat.le_of_ble_eq_true rfl⟩, hts _ k_25, trivial⟩) (gpreS0 hN) rfl rfl hl.1 rfl (lv_room (Nat.le_of_ble_eq_true rfl)) d_Mo_lay_51 ⟨Nat.le_of_ble_eq_true rfl, Nat.le_of_ble_eq_true rfl⟩)) (nm_e ?_)
    refine g_iast hx hb hK hP hD hS 2 0 rfl rfl hrun d_Mo_lay_54 (fun Mo_degrees_3 hrun H locs (hP : va_P D classes (ws_lay a_Mo a_Mo_codes a_Mo_degrees a_Mo_keys a_Mo_raised cI cL cZ Mo_variables Mo_order Mo_highest Mo_count Mo_codes Mo_degrees_3 Mo_keys Mo_raised) H) (hD : va_D A (ws_lay a_Mo a_Mo_codes a_Mo_degrees a_Mo_keys a_Mo_raised cI cL cZ Mo_variables Mo_order Mo_highest Mo_count Mo_codes Mo_degrees_3 Mo_keys Mo_raised)) hS => ?_)
    refine lv_iconst (v := 0) hx hb d_Mo_lay_55 (by decide) ?_
    refine lv_istore (lv' := [(4, .int 0), (0, .ref a_Mo), (3, .int i3)]) hx hb d_Mo_lay_56 hl (by decide) rfl (fun ls hl => ?_)
    exact v_lay_58 X D cI cL cZ a_Mo a_Mo_codes a_Mo_degrees a_Mo_keys a_Mo_raised A Mo_count_r Mo_highest_r Mo_order_r Mo_variables_r Mo_codes_r Mo_degrees_r Mo_keys_r Mo_raised_r a_HIGHEST F C0 hK hA hHI hN k32 hk32 F i3 0 Mo_count Mo_highest Mo_order Mo_variables Mo_codes Mo_degrees_3 Mo_keys Mo_raised hrun H locs ls hP hD hS (lv_sub hl [1, 2, 0] rfl)
theorem v_lay_32 (X : gX) (D : va_G) (cI cL cZ : ClassId) (a_Mo a_Mo_codes a_Mo_degrees a_Mo_keys a_Mo_raised : Nat) (A : Nat → Prop) (Mo_count_r Mo_highest_r Mo_order_r Mo_variables_r : Int32) (Mo_codes_r Mo_degrees_r : Nat → Int32) (Mo_keys_r : Nat → Int64) (Mo_raised_r : Nat → Int32) (a_HIGHEST : Nat) (F : Nat) (C0 : gC X c_Mo_layb none 5 "RemnantDictionary$Monomials" gAll) (hK : va_K D classes (gT cI cL cZ) (gs X)) (hA : ∀ q : Nat, (gs X).heap.size ≤ q → A q) (hHI : gHI A a_HIGHEST (gs X)) (hN : gN (gs X))  : ∀ (n : Nat) (i3 Mo_count Mo_highest Mo_order Mo_variables : Int32) (Mo_codes Mo_degrees : Nat → Int32) (Mo_keys : Nat → Int64) (Mo_raised : Nat → Int32), b_lay_32 F n i3 Mo_count Mo_highest Mo_order Mo_variables Mo_codes Mo_degrees Mo_keys Mo_raised = some (Mo_count_r, Mo_highest_r, Mo_order_r, Mo_variables_r, Mo_codes_r, Mo_degrees_r, Mo_keys_r, Mo_raised_r) → g_lay X D cI cL cZ a_Mo a_Mo_codes a_Mo_degrees a_Mo_keys a_Mo_raised A Mo_count_r Mo_highest_r Mo_order_r Mo_variables_r Mo_codes_r Mo_degrees_r Mo_keys_r Mo_raised_r 32 [(0, .ref a_Mo), (3, .int i3)] [] Mo_count Mo_highest Mo_order Mo_variables Mo_codes Mo_degrees Mo_keys Mo_raised := by
  intro n
  induction n with
  | zero => intro i3 Mo_count Mo_highest Mo_order Mo_variables Mo_codes Mo_degrees Mo_keys Mo_raised hrun; cases hrun
  | succ n ih =>
    intro i3 Mo_count Mo_highest Mo_order Mo_variables Mo_codes Mo_degrees Mo_keys Mo_raised hrun
    exact w_lay_32 X D cI cL cZ a_Mo a_Mo_codes a_Mo_degrees a_Mo_keys a_Mo_raised A Mo_count_r Mo_highest_r Mo_order_r Mo_variables_r Mo_codes_r Mo_degrees_r Mo_keys_r Mo_raised_r a_HIGHEST F C0 hK hA hHI hN (b_lay_32 F n) ih i3 Mo_count Mo_highest Mo_order Mo_variables Mo_codes Mo_degrees Mo_keys Mo_raised hrun
set_option maxHeartbeats 4000000 in
set_option maxRecDepth 100000 in
theorem e_lay (X : gX) (D : va_G) (cI cL cZ : ClassId) (a_Mo a_Mo_codes a_Mo_degrees a_Mo_keys a_Mo_raised : Nat) (A : Nat → Prop) (Mo_count_r Mo_highest_r Mo_order_r Mo_variables_r : Int32) (Mo_codes_r Mo_degrees_r : Nat → Int32) (Mo_keys_r : Nat → Int64) (Mo_raised_r : Nat → Int32) (a_HIGHEST : Nat) (F : Nat) (C0 : gC X c_Mo_layb none 5 "RemnantDictionary$Monomials" gAll) (hK : va_K D classes (gT cI cL cZ) (gs X)) (hA : ∀ q : Nat, (gs X).heap.size ≤ q → A q) (hHI : gHI A a_HIGHEST (gs X)) (hN : gN (gs X)) (i1 i2 Mo_count Mo_highest Mo_order Mo_variables : Int32) (Mo_codes Mo_degrees : Nat → Int32) (Mo_keys : Nat → Int64) (Mo_raised : Nat → Int32) (hrun : m_lay F i1 i2 Mo_count Mo_highest Mo_order Mo_variables Mo_codes Mo_degrees Mo_keys Mo_raised = some (Mo_count_r, Mo_highest_r, Mo_order_r, Mo_variables_r, Mo_codes_r, Mo_degrees_r, Mo_keys_r, Mo_raised_r)) : g_lay X D cI cL cZ a_Mo a_Mo_codes a_Mo_degrees a_Mo_keys a_Mo_raised A Mo_count_r Mo_highest_r Mo_order_r Mo_variables_r Mo_codes_r Mo_degrees_r Mo_keys_r Mo_raised_r 0 [(0, .ref a_Mo), (1, .int i1), (2, .int i2)] [] Mo_count Mo_highest Mo_order Mo_variables Mo_codes Mo_degrees Mo_keys Mo_raised := by
  have C1 := C0
  obtain ⟨hx, hb, hr, hml, hown, hts, hlocks⟩ := C1
  unfold m_lay at hrun
  intro H locs ls hP hD hS hl
  refine lv_aload_n hx hb d_Mo_lay_0 rfl (lv_at hl 0 rfl) ?_
  refine lv_iload_n hx hb d_Mo_lay_1 rfl (lv_at hl 1 rfl) ?_
  refine va_put (D := D) (ci := 1) (v := .int i1) (ty := .int) (C := "RemnantDictionary$Monomials") (T := T_Mo) (N := 8) hx hb hts iw_Mo ty_Mo ty_Mo_ok nm_Mo hown hK hP hD hS 0 rfl rfl 0 (by decide) (hts _ k_36) (fun _ h9 => h9) rfl (by decide +kernel) rfl rfl (Nat.le_of_ble_eq_true rfl) d_Mo_lay_2 (fun H locs (hP : va_P D classes (ws_lay a_Mo a_Mo_codes a_Mo_degrees a_Mo_keys a_Mo_raised cI cL cZ i1 Mo_order Mo_highest Mo_count Mo_codes Mo_degrees Mo_keys Mo_raised) H) (hD : va_D A (ws_lay a_Mo a_Mo_codes a_Mo_degrees a_Mo_keys a_Mo_raised cI cL cZ i1 Mo_order Mo_highest Mo_count Mo_codes Mo_degrees Mo_keys Mo_raised)) hS => ?_)
  refine lv_aload_n hx hb d_Mo_lay_5 rfl (lv_at hl 0 rfl) ?_
  refine lv_iload_n hx hb d_Mo_lay_6 rfl (lv_at hl 2 rfl) ?_
  refine va_put (D := D) (ci := 1) (v := .int i2) (ty := .int) (C := "RemnantDictionary$Monomials") (T := T_Mo) (N := 8) hx hb hts iw_Mo ty_Mo ty_Mo_ok nm_Mo hown hK hP hD hS 0 rfl rfl 1 (by decide) (hts _ k_43) (fun _ h9 => h9) rfl (by decide +kernel) rfl rfl (Nat.le_of_ble_eq_true rfl) d_Mo_lay_7 (fun H locs (hP : va_P D classes (ws_lay a_Mo a_Mo_codes a_Mo_degrees a_Mo_keys a_Mo_raised cI cL cZ i1 i2 Mo_highest Mo_count Mo_codes Mo_degrees Mo_keys Mo_raised) H) (hD : va_D A (ws_lay a_Mo a_Mo_codes a_Mo_degrees a_Mo_keys a_Mo_raised cI cL cZ i1 i2 Mo_highest Mo_count Mo_codes Mo_degrees Mo_keys Mo_raised)) hS => ?_)
  refine lv_aload_n hx hb d_Mo_lay_10 rfl (lv_at hl 0 rfl) ?_
  refine va_getsN hx hb hHI.1 hS hown (va_Nw.use rfl (hN.2 _ (List.mem_of_getElem? (i := 0) rfl))) (fun _ h9 => h9) d_Mo_lay_11 ?_
  refine lv_iload_n hx hb d_Mo_lay_14 rfl (lv_at hl 1 rfl) ?_
  refine lv_iconst (v := 1) hx hb d_Mo_lay_15 (by decide) ?_
  refine lv_isub hx hb d_Mo_lay_16 ?_
  refine g_ti hx hb hHI.2 hS hrun d_Mo_lay_17 (fun x_1 hrun => ?_)
  refine va_put (D := D) (ci := 1) (v := .int x_1) (ty := .int) (C := "RemnantDictionary$Monomials") (T := T_Mo) (N := 8) hx hb hts iw_Mo ty_Mo ty_Mo_ok nm_Mo hown hK hP hD hS 0 rfl rfl 2 (by decide) (hts _ k_37) (fun _ h9 => h9) rfl (by decide +kernel) rfl rfl (Nat.le_of_ble_eq_true rfl) d_Mo_lay_18 (fun H locs (hP : va_P D classes (ws_lay a_Mo a_Mo_codes a_Mo_degrees a_Mo_keys a_Mo_raised cI cL cZ i1 i2 x_1 Mo_count Mo_codes Mo_degrees Mo_keys Mo_raised) H) (hD : va_D A (ws_lay a_Mo a_Mo_codes a_Mo_degrees a_Mo_keys a_Mo_raised cI cL cZ i1 i2 x_1 Mo_count Mo_codes Mo_degrees Mo_keys Mo_raised)) hS => ?_)
  refine lv_aload_n hx hb d_Mo_lay_21 rfl (lv_at hl 0 rfl) ?_
  refine lv_iconst (v := 0) hx hb d_Mo_lay_22 (by decide) ?_
  refine va_put (D := D) (ci := 1) (v := .int 0) (ty := .int) (C := "RemnantDictionary$Monomials") (T := T_Mo) (N := 8) hx hb hts iw_Mo ty_Mo ty_Mo_ok nm_Mo hown hK hP hD hS 0 rfl rfl 3 (by decide) (hts _ k_41) (fun _ h9 => h9) rfl (by decide +kernel) rfl rfl (Nat.le_of_ble_eq_true rfl) d_Mo_lay_23 (fun H locs (hP : va_P D classes (ws_lay a_Mo a_Mo_codes a_Mo_degrees a_Mo_keys a_Mo_raised cI cL cZ i1 i2 x_1 0 Mo_codes Mo_degrees Mo_keys Mo_raised) H) (hD : va_D A (ws_lay a_Mo a_Mo_codes a_Mo_degrees a_Mo_keys a_Mo_raised cI cL cZ i1 i2 x_1 0 Mo_codes Mo_degrees Mo_keys Mo_raised)) hS => ?_)
  refine lv_aload_n hx hb d_Mo_lay_26 rfl (lv_at hl 0 rfl) ?_
  obtain ⟨Mo_count_2, Mo_codes_3, Mo_keys_4, hc, hrun⟩ := bd3_s hrun
  have hFc := va_free (wc := (ws_layWithX a_Mo a_Mo_codes a_Mo_keys a_Mo_degrees a_Mo_raised cI cL cZ i1 i2 x_1 0 Mo_codes Mo_keys)) hD hS hA [0, 1, 3] rfl
  refine va_callv (va_runV (As := []) (rest := []) ⟨hx, hb, hml, hown, hts⟩ (c_layWithX (gl X) D cI cL cZ a_Mo a_Mo_codes a_Mo_keys a_Mo_degrees a_Mo_raised F i1 i2 x_1 0 Mo_codes Mo_keys H.size Mo_count_2 Mo_codes_3 Mo_keys_4 hc) (cwV 0 hts (gwV k_63 k_61 k_62 k_48 k_53) rfl rfl rfl (by decide +kernel) ⟨Nat.le_of_ble_eq_true rfl, Nat.le_of_ble_eq_true rfl⟩) (gpreVW (hP.sub (ws' := (ws_layWithX a_Mo a_Mo_codes a_Mo_keys a_Mo_degrees a_Mo_raised cI cL cZ i1 i2 x_1 0 Mo_codes Mo_keys)) [0, 1, 3] rfl) hK hN (hD.sub (ws' := (ws_layWithX a_Mo a_Mo_codes a_Mo_keys a_Mo_degrees a_Mo_raised cI cL cZ i1 i2 x_1 0 Mo_codes Mo_keys)) [0, 1, 3] (by decide) rfl) 1 0 rfl rfl) rfl rfl hl.1 rfl (lv_room (Nat.le_of_ble_eq_true rfl)) d_Mo_lay_27 ⟨Nat.le_of_ble_eq_true rfl, Nat.le_of_ble_eq_true rfl⟩) hS (fun q _ h => hFc q h) hFc (fun _ t H_5 locs ht hvm hw hB hz1 hk1 hS => ?_)
  obtain ⟨hP, hD⟩ := va_join (wr := [(a_Mo_degrees, .inl (cI, 126, .inl Mo_degrees)), (a_Mo_raised, .inl (cI, 504, .inl Mo_raised))]) (w1 := (ws_layWithX a_Mo a_Mo_codes a_Mo_keys a_Mo_degrees a_Mo_raised cI cL cZ i1 i2 x_1 Mo_count_2 Mo_codes_3 Mo_keys_4)) hP hD [0, 1, 3] [2, 4] rfl rfl (by decide) (by decide) hk1 hFc (by have h9 := hB.1; rw [ht] at h9; exact h9) hB.2.2
  have hP : va_P D classes (ws_lay a_Mo a_Mo_codes a_Mo_degrees a_Mo_keys a_Mo_raised cI cL cZ i1 i2 x_1 Mo_count_2 Mo_codes_3 Mo_degrees Mo_keys_4 Mo_raised) H_5 := hP.sub [2, 3, 0, 4, 1] rfl
  have hD : va_D A (ws_lay a_Mo a_Mo_codes a_Mo_degrees a_Mo_keys a_Mo_raised cI cL cZ i1 i2 x_1 Mo_count_2 Mo_codes_3 Mo_degrees Mo_keys_4 Mo_raised) := hD.sub [2, 3, 0, 4, 1] (by decide) rfl
  refine lv_iconst (v := 0) hx hb d_Mo_lay_30 (by decide) ?_
  refine lv_istore_n (lv' := [(3, .int 0), (0, .ref a_Mo), (1, .int i1), (2, .int i2)]) hx hb d_Mo_lay_31 rfl hl (by decide) rfl (fun ls hl => ?_)
  exact v_lay_32 X D cI cL cZ a_Mo a_Mo_codes a_Mo_degrees a_Mo_keys a_Mo_raised A Mo_count_r Mo_highest_r Mo_order_r Mo_variables_r Mo_codes_r Mo_degrees_r Mo_keys_r Mo_raised_r a_HIGHEST F C0 hK hA hHI hN  F 0 Mo_count_2 x_1 i2 i1 Mo_codes_3 Mo_degrees Mo_keys_4 Mo_raised hrun H_5 locs ls hP hD hS (lv_sub hl [1, 0] rfl)
set_option maxHeartbeats 4000000 in
set_option maxRecDepth 100000 in
theorem c_lay (l : Launch) (D : va_G) (cI cL cZ : ClassId) (a_Mo a_Mo_codes a_Mo_degrees a_Mo_keys a_Mo_raised : Nat) (a_HIGHEST : Nat) (F : Nat) (Mo_variables Mo_order Mo_highest Mo_count : Int32) (Mo_codes Mo_degrees : Nat → Int32) (Mo_keys : Nat → Int64) (Mo_raised : Nat → Int32) (i1 i2 : Int32) (sz : Nat) (Mo_count_r Mo_highest_r Mo_order_r Mo_variables_r : Int32) (Mo_codes_r Mo_degrees_r : Nat → Int32) (Mo_keys_r : Nat → Int64) (Mo_raised_r : Nat → Int32) (hrun : m_lay F i1 i2 Mo_count Mo_highest Mo_order Mo_variables Mo_codes Mo_degrees Mo_keys Mo_raised = some (Mo_count_r, Mo_highest_r, Mo_order_r, Mo_variables_r, Mo_codes_r, Mo_degrees_r, Mo_keys_r, Mo_raised_r)) : Met l y_Mo_lay (.code y_Mo_lay c_Mo_layb 5 none :: gAll) rm_lay (va_Pc [.ref a_Mo, .int i1, .int i2] (gPH D (gT cI cL cZ) (ws_lay a_Mo a_Mo_codes a_Mo_degrees a_Mo_keys a_Mo_raised cI cL cZ Mo_variables Mo_order Mo_highest Mo_count Mo_codes Mo_degrees Mo_keys Mo_raised) sz a_HIGHEST)) (va_Qv (fun _ : Unit => True) (gB D (gT cI cL cZ) (va_A (ws_lay a_Mo a_Mo_codes a_Mo_degrees a_Mo_keys a_Mo_raised cI cL cZ Mo_variables Mo_order Mo_highest Mo_count Mo_codes Mo_degrees Mo_keys Mo_raised) sz) (ws_lay a_Mo a_Mo_codes a_Mo_degrees a_Mo_keys a_Mo_raised cI cL cZ Mo_variables_r Mo_order_r Mo_highest_r Mo_count_r Mo_codes_r Mo_degrees_r Mo_keys_r Mo_raised_r)) (va_A (ws_lay a_Mo a_Mo_codes a_Mo_degrees a_Mo_keys a_Mo_raised cI cL cZ Mo_variables Mo_order Mo_highest Mo_count Mo_codes Mo_degrees Mo_keys Mo_raised) sz)) 0 0 (va_A (ws_lay a_Mo a_Mo_codes a_Mo_degrees a_Mo_keys a_Mo_raised cI cL cZ Mo_variables Mo_order Mo_highest Mo_count Mo_codes Mo_degrees Mo_keys Mo_raised) sz) := by
  refine Met.ofW (cc := c_Mo_layb) (maxL := 5) (ret := none) (by decide +kernel) rfl ?_
  intro p e s m args below meth c s₁ B hml hv
  obtain ⟨rfl, ⟨hsz, hP, hK, hN, hD0⟩, hHI⟩ := hv
  subst hsz
  have hD := hD0.self (sz := s.heap.size)
  have hl := lv_entry ([.ref a_Mo, .int i1, .int i2]) (n := 5) (Nat.le_of_ble_eq_true rfl)
  rw [lg_entry_eq]
  generalize (lg_sl ([.ref a_Mo, .int i1, .int i2]) ++ List.replicate (5 - (lg_sl ([.ref a_Mo, .int i1, .int i2])).length) Slot.unset).toArray = ls at hl ⊢
  exact e_lay (p, l, e, s, m, ([.ref a_Mo, .int i1, .int i2] : List Value).toArray, below, meth, c) D cI cL cZ a_Mo a_Mo_codes a_Mo_degrees a_Mo_keys a_Mo_raised (va_A (ws_lay a_Mo a_Mo_codes a_Mo_degrees a_Mo_keys a_Mo_raised cI cL cZ Mo_variables Mo_order Mo_highest Mo_count Mo_codes Mo_degrees Mo_keys Mo_raised) s.heap.size) Mo_count_r Mo_highest_r Mo_order_r Mo_variables_r Mo_codes_r Mo_degrees_r Mo_keys_r Mo_raised_r a_HIGHEST F ⟨B.exec, B.bytes, B.returns, hml, findClass_of_methodNamed B.named, fun w h => atoms_spec (ws := (.code y_Mo_lay c_Mo_layb 5 none :: gAll)) B.pre w (List.mem_cons_of_mem _ h), B.notSynchronized⟩ hK (fun q h => Or.inr h) hHI hN i1 i2 Mo_count Mo_highest Mo_order Mo_variables Mo_codes Mo_degrees Mo_keys Mo_raised hrun s.heap [] ls hP hD va_S.rf hl
