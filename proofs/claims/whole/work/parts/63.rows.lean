theorem d_Sp_close_0 : decode c_Sp_closeb 0 = .ok (.iconst 0, 1) := by decide +kernel
theorem d_Sp_close_1 : decode c_Sp_closeb 1 = .ok (.istore_n 1, 1) := by decide +kernel
theorem d_Sp_close_2 : decode c_Sp_closeb 2 = .ok (.iload_n 1, 1) := by decide +kernel
theorem d_Sp_close_3 : decode c_Sp_closeb 3 = .ok (.bipush 126, 2) := by decide +kernel
theorem d_Sp_close_5 : decode c_Sp_closeb 5 = .ok (.if_icmp .ge 76, 3) := by decide +kernel
theorem d_Sp_close_8 : decode c_Sp_closeb 8 = .ok (.iload_n 1, 1) := by decide +kernel
theorem d_Sp_close_9 : decode c_Sp_closeb 9 = .ok (.aload_n 0, 1) := by decide +kernel
theorem d_Sp_close_10 : decode c_Sp_closeb 10 = .ok (.getfield 39, 3) := by decide +kernel
theorem d_Sp_close_13 : decode c_Sp_closeb 13 = .ok (.if_icmp .ge 68, 3) := by decide +kernel
theorem d_Sp_close_16 : decode c_Sp_closeb 16 = .ok (.aload_n 0, 1) := by decide +kernel
theorem d_Sp_close_17 : decode c_Sp_closeb 17 = .ok (.invokevirtual 62, 3) := by decide +kernel
theorem d_Sp_close_20 : decode c_Sp_closeb 20 = .ok (.ifCond .ne 61, 3) := by decide +kernel
theorem d_Sp_close_23 : decode c_Sp_closeb 23 = .ok (.aload_n 0, 1) := by decide +kernel
theorem d_Sp_close_24 : decode c_Sp_closeb 24 = .ok (.getfield 19, 3) := by decide +kernel
theorem d_Sp_close_27 : decode c_Sp_closeb 27 = .ok (.iload_n 1, 1) := by decide +kernel
theorem d_Sp_close_28 : decode c_Sp_closeb 28 = .ok (.iaload, 1) := by decide +kernel
theorem d_Sp_close_29 : decode c_Sp_closeb 29 = .ok (.istore_n 2, 1) := by decide +kernel
theorem d_Sp_close_30 : decode c_Sp_closeb 30 = .ok (.aload_n 0, 1) := by decide +kernel
theorem d_Sp_close_31 : decode c_Sp_closeb 31 = .ok (.getfield 28, 3) := by decide +kernel
theorem d_Sp_close_34 : decode c_Sp_closeb 34 = .ok (.getfield 56, 3) := by decide +kernel
theorem d_Sp_close_37 : decode c_Sp_closeb 37 = .ok (.iload_n 2, 1) := by decide +kernel
theorem d_Sp_close_38 : decode c_Sp_closeb 38 = .ok (.iaload, 1) := by decide +kernel
theorem d_Sp_close_39 : decode c_Sp_closeb 39 = .ok (.aload_n 0, 1) := by decide +kernel
theorem d_Sp_close_40 : decode c_Sp_closeb 40 = .ok (.getfield 36, 3) := by decide +kernel
theorem d_Sp_close_43 : decode c_Sp_closeb 43 = .ok (.if_icmp .ge 32, 3) := by decide +kernel
theorem d_Sp_close_46 : decode c_Sp_closeb 46 = .ok (.iconst 0, 1) := by decide +kernel
theorem d_Sp_close_47 : decode c_Sp_closeb 47 = .ok (.istore_n 3, 1) := by decide +kernel
theorem d_Sp_close_48 : decode c_Sp_closeb 48 = .ok (.iload_n 3, 1) := by decide +kernel
theorem d_Sp_close_49 : decode c_Sp_closeb 49 = .ok (.aload_n 0, 1) := by decide +kernel
theorem d_Sp_close_50 : decode c_Sp_closeb 50 = .ok (.getfield 28, 3) := by decide +kernel
theorem d_Sp_close_53 : decode c_Sp_closeb 53 = .ok (.getfield 66, 3) := by decide +kernel
theorem d_Sp_close_56 : decode c_Sp_closeb 56 = .ok (.if_icmp .ge 19, 3) := by decide +kernel
theorem d_Sp_close_59 : decode c_Sp_closeb 59 = .ok (.aload_n 0, 1) := by decide +kernel
theorem d_Sp_close_60 : decode c_Sp_closeb 60 = .ok (.iload_n 3, 1) := by decide +kernel
theorem d_Sp_close_61 : decode c_Sp_closeb 61 = .ok (.iload_n 2, 1) := by decide +kernel
theorem d_Sp_close_62 : decode c_Sp_closeb 62 = .ok (.invokevirtual 69, 3) := by decide +kernel
theorem d_Sp_close_65 : decode c_Sp_closeb 65 = .ok (.aload_n 0, 1) := by decide +kernel
theorem d_Sp_close_66 : decode c_Sp_closeb 66 = .ok (.invokevirtual 59, 3) := by decide +kernel
theorem d_Sp_close_69 : decode c_Sp_closeb 69 = .ok (.iinc 3 1, 3) := by decide +kernel
theorem d_Sp_close_72 : decode c_Sp_closeb 72 = .ok (.goto (-24), 3) := by decide +kernel
theorem d_Sp_close_75 : decode c_Sp_closeb 75 = .ok (.iinc 1 1, 3) := by decide +kernel
theorem d_Sp_close_78 : decode c_Sp_closeb 78 = .ok (.goto (-76), 3) := by decide +kernel
theorem d_Sp_close_81 : decode c_Sp_closeb 81 = .ok (.return_, 1) := by decide +kernel
abbrev ws_close (a_Mo a_Sp a_Mo_degrees a_Mo_raised a_Sp_rows a_Sp_leads a_Sp_kept a_Sp_work a_Mo_codes a_Mo_keys a_Sp_basis : Nat) (cI cL cZ : ClassId) (Mo_variables Mo_order Mo_highest Mo_count Sp_prime Sp_limit Sp_keptCount Sp_basisCount : Int32) (Mo_degrees Mo_raised Sp_rows Sp_leads Sp_kept Sp_work : Nat → Int32) : va_W := [(a_Mo, .inr (1, [.int Mo_variables, .int Mo_order, .int Mo_highest, .int Mo_count, .ref a_Mo_codes, .ref a_Mo_degrees, .ref a_Mo_keys, .ref a_Mo_raised])), (a_Sp, .inr (2, [.ref a_Mo, .int Sp_prime, .int Sp_limit, .ref a_Sp_rows, .ref a_Sp_leads, .ref a_Sp_kept, .int Sp_keptCount, .ref a_Sp_work, .ref a_Sp_basis, .int Sp_basisCount])), (a_Mo_degrees, .inl (cI, 126, .inl Mo_degrees)), (a_Mo_raised, .inl (cI, 504, .inl Mo_raised)), (a_Sp_rows, .inl (cI, 15876, .inl Sp_rows)), (a_Sp_leads, .inl (cZ, 126, .inl Sp_leads)), (a_Sp_kept, .inl (cI, 126, .inl Sp_kept)), (a_Sp_work, .inl (cI, 126, .inl Sp_work))]
abbrev rm_close : Room := { frames := 4, cells := 0, slots := 0, locals := 89 }
abbrev g_close (X : gX) (D : va_G) (cI cL cZ : ClassId) (a_Mo a_Sp a_Mo_degrees a_Mo_raised a_Sp_rows a_Sp_leads a_Sp_kept a_Sp_work a_Mo_codes a_Mo_keys a_Sp_basis : Nat) (A : Nat → Prop) (Mo_variables Mo_order Mo_highest Mo_count Sp_prime Sp_limit Sp_basisCount : Int32) (Mo_degrees Mo_raised : Nat → Int32) (Sp_keptCount_r : Int32) (Sp_rows_r Sp_leads_r Sp_kept_r Sp_work_r : Nat → Int32) (pc : Nat) (lv : List (Nat × Value)) (st : List Value) (Sp_keptCount : Int32) (Sp_rows Sp_leads Sp_kept Sp_work : Nat → Int32) : Prop := ∀ (H : Heap) (locs : List Loc) (ls : Array Slot), va_P D classes (ws_close a_Mo a_Sp a_Mo_degrees a_Mo_raised a_Sp_rows a_Sp_leads a_Sp_kept a_Sp_work a_Mo_codes a_Mo_keys a_Sp_basis cI cL cZ Mo_variables Mo_order Mo_highest Mo_count Sp_prime Sp_limit Sp_keptCount Sp_basisCount Mo_degrees Mo_raised Sp_rows Sp_leads Sp_kept Sp_work) H → va_D A (ws_close a_Mo a_Sp a_Mo_degrees a_Mo_raised a_Sp_rows a_Sp_leads a_Sp_kept a_Sp_work a_Mo_codes a_Mo_keys a_Sp_basis cI cL cZ Mo_variables Mo_order Mo_highest Mo_count Sp_prime Sp_limit Sp_keptCount Sp_basisCount Mo_degrees Mo_raised Sp_rows Sp_leads Sp_kept Sp_work) → va_S A (gs X).heap H locs → lv_has ls 4 lv → gWW X rm_close H locs 0 0 (MQ (gbl X) (va_Qv (fun _ : Unit => True) (gB D (gT cI cL cZ) A (ws_close a_Mo a_Sp a_Mo_degrees a_Mo_raised a_Sp_rows a_Sp_leads a_Sp_kept a_Sp_work a_Mo_codes a_Mo_keys a_Sp_basis cI cL cZ Mo_variables Mo_order Mo_highest Mo_count Sp_prime Sp_limit Sp_keptCount_r Sp_basisCount Mo_degrees Mo_raised Sp_rows_r Sp_leads_r Sp_kept_r Sp_work_r)) A) (ga X) (gs X) 0 0 A) (F0 (gm X) pc ls st)
set_option maxHeartbeats 4000000 in
set_option maxRecDepth 100000 in
theorem w_close_48 (X : gX) (D : va_G) (cI cL cZ : ClassId) (a_Mo a_Sp a_Mo_degrees a_Mo_raised a_Sp_rows a_Sp_leads a_Sp_kept a_Sp_work a_Mo_codes a_Mo_keys a_Sp_basis : Nat) (A : Nat → Prop) (Mo_variables Mo_order Mo_highest Mo_count Sp_prime Sp_limit Sp_basisCount : Int32) (Mo_degrees Mo_raised : Nat → Int32) (Sp_keptCount_r : Int32) (Sp_rows_r Sp_leads_r Sp_kept_r Sp_work_r : Nat → Int32) (F : Nat) (C0 : gC X c_Sp_closeb none 4 "RemnantDictionary$Space" gAll) (hK : va_K D classes (gT cI cL cZ) (gs X)) (hA : ∀ q : Nat, (gs X).heap.size ≤ q → A q) (hN : gN (gs X)) (k2 : Int32 → Int32 → (Nat → Int32) → (Nat → Int32) → (Nat → Int32) → (Nat → Int32) → Option (Int32 × (Nat → Int32) × (Nat → Int32) × (Nat → Int32) × (Nat → Int32))) (hk2 : ∀ (i1 Sp_keptCount : Int32) (Sp_rows Sp_leads Sp_kept Sp_work : Nat → Int32), k2 i1 Sp_keptCount Sp_rows Sp_leads Sp_kept Sp_work = some (Sp_keptCount_r, Sp_rows_r, Sp_leads_r, Sp_kept_r, Sp_work_r) → g_close X D cI cL cZ a_Mo a_Sp a_Mo_degrees a_Mo_raised a_Sp_rows a_Sp_leads a_Sp_kept a_Sp_work a_Mo_codes a_Mo_keys a_Sp_basis A Mo_variables Mo_order Mo_highest Mo_count Sp_prime Sp_limit Sp_basisCount Mo_degrees Mo_raised Sp_keptCount_r Sp_rows_r Sp_leads_r Sp_kept_r Sp_work_r 2 [(0, .ref a_Sp), (1, .int i1)] [] Sp_keptCount Sp_rows Sp_leads Sp_kept Sp_work) (k48 : Int32 → Int32 → Int32 → Int32 → (Nat → Int32) → (Nat → Int32) → (Nat → Int32) → (Nat → Int32) → Option (Int32 × (Nat → Int32) × (Nat → Int32) × (Nat → Int32) × (Nat → Int32))) (hk48 : ∀ (i1 i2 i3 Sp_keptCount : Int32) (Sp_rows Sp_leads Sp_kept Sp_work : Nat → Int32), k48 i1 i2 i3 Sp_keptCount Sp_rows Sp_leads Sp_kept Sp_work = some (Sp_keptCount_r, Sp_rows_r, Sp_leads_r, Sp_kept_r, Sp_work_r) → g_close X D cI cL cZ a_Mo a_Sp a_Mo_degrees a_Mo_raised a_Sp_rows a_Sp_leads a_Sp_kept a_Sp_work a_Mo_codes a_Mo_keys a_Sp_basis A Mo_variables Mo_order Mo_highest Mo_count Sp_prime Sp_limit Sp_basisCount Mo_degrees Mo_raised Sp_keptCount_r Sp_rows_r Sp_leads_r Sp_kept_r Sp_work_r 48 [(0, .ref a_Sp), (1, .int i1), (2, .int i2), (3, .int i3)] [] Sp_keptCount Sp_rows Sp_leads Sp_kept Sp_work) (i1 i2 i3 Sp_keptCount : Int32) (Sp_rows Sp_leads Sp_kept Sp_work : Nat → Int32) (hrun : s_close_48 F Mo_count Mo_variables Sp_limit Sp_prime Mo_degrees Mo_raised k2 k48 i1 i2 i3 Sp_keptCount Sp_rows Sp_leads Sp_kept Sp_work = some (Sp_keptCount_r, Sp_rows_r, Sp_leads_r, Sp_kept_r, Sp_work_r)) : g_close X D cI cL cZ a_Mo a_Sp a_Mo_degrees a_Mo_raised a_Sp_rows a_Sp_leads a_Sp_kept a_Sp_work a_Mo_codes a_Mo_keys a_Sp_basis A Mo_variables Mo_order Mo_highest Mo_count Sp_prime Sp_limit Sp_basisCount Mo_degrees Mo_raised Sp_keptCount_r Sp_rows_r Sp_leads_r Sp_kept_r Sp_work_r 48 [(0, .ref a_Sp), (1, .int i1), (2, .int i2), (3, .int i3)] [] Sp_keptCount Sp_rows Sp_leads Sp_kept Sp_work := by
  have C1 := C0
  obtain ⟨hx, hb, hr, hml, hown, hts, hlocks⟩ := C1
  unfold s_close_48 at hrun
  intro H locs ls hP hD hS hl
  refine lv_iload_n hx hb d_Sp_close_48 rfl (lv_at hl 3 rfl) ?_
  refine lv_aload_n hx hb d_Sp_close_49 rfl (lv_at hl 0 rfl) ?_
  refine va_get (D := D) (ci := 2) (v := .ref a_Mo) (C := "RemnantDictionary$Space") (T := T_Sp) (N := 10) hx hb hts iw_Sp hown hK hP 1 rfl rfl 0 (by decide) (hts _ k_94) (fun _ h9 => h9) rfl d_Sp_close_50 ?_
  refine va_get (D := D) (ci := 1) (v := .int Mo_variables) (C := "RemnantDictionary$Monomials") (T := T_Mo) (N := 8) hx hb hts iw_Mo hown hK hP 0 rfl rfl 0 (by decide) (hts _ k_109) (fun _ h9 => h9) rfl d_Sp_close_53 ?_
  refine g_icmp_ge (tgt := 75) hx hb d_Sp_close_56 (by decide) hrun (fun _ hrun => ?_) (fun _ hrun => ?_)
  · refine lv_iinc (v := (i1 + 1)) (lv' := [(1, .int (i1 + 1)), (0, .ref a_Sp), (2, .int i2), (3, .int i3)]) hx hb d_Sp_close_75 hl (k := 1) rfl rfl (by decide) rfl (fun ls hl => ?_)
    refine lv_goto (tgt := 2) hx hb d_Sp_close_78 (by decide) ?_
    exact hk2 (i1 + 1) Sp_keptCount Sp_rows Sp_leads Sp_kept Sp_work hrun H locs ls hP hD hS (lv_sub hl [1, 0] rfl)
  · refine lv_aload_n hx hb d_Sp_close_59 rfl (lv_at hl 0 rfl) ?_
    refine lv_iload_n hx hb d_Sp_close_60 rfl (lv_at hl 3 rfl) ?_
    refine lv_iload_n hx hb d_Sp_close_61 rfl (lv_at hl 2 rfl) ?_
    obtain ⟨Sp_work_1, hc, hrun⟩ := bd1_s hrun
    have hFc := va_free (wc := (ws_loadProduct a_Mo a_Sp a_Mo_raised a_Sp_rows a_Sp_work a_Mo_codes a_Mo_degrees a_Mo_keys a_Sp_leads a_Sp_kept a_Sp_basis cI cL cZ Mo_variables Mo_order Mo_highest Mo_count Sp_prime Sp_limit Sp_keptCount Sp_basisCount Mo_raised Sp_rows Sp_work)) hD hS hA [0, 1, 3, 4, 7] rfl
    refine va_callv (va_runV (As := [.int i3, .int i2]) (rest := []) ⟨hx, hb, hml, hown, hts⟩ (c_loadProduct (gl X) D cI cL cZ a_Mo a_Sp a_Mo_raised a_Sp_rows a_Sp_work a_Mo_codes a_Mo_degrees a_Mo_keys a_Sp_leads a_Sp_kept a_Sp_basis F Mo_variables Mo_order Mo_highest Mo_count Sp_prime Sp_limit Sp_keptCount Sp_basisCount Mo_raised Sp_rows Sp_work i3 i2 H.size Sp_work_1 hc) (cwV 2 hts (gwV k_112 k_110 k_111 k_91 k_97) rfl rfl rfl (by decide +kernel) ⟨Nat.le_of_ble_eq_true rfl, Nat.le_of_ble_eq_true rfl⟩) (gpreVW (hP.sub (ws' := (ws_loadProduct a_Mo a_Sp a_Mo_raised a_Sp_rows a_Sp_work a_Mo_codes a_Mo_degrees a_Mo_keys a_Sp_leads a_Sp_kept a_Sp_basis cI cL cZ Mo_variables Mo_order Mo_highest Mo_count Sp_prime Sp_limit Sp_keptCount Sp_basisCount Mo_raised Sp_rows Sp_work)) [0, 1, 3, 4, 7] rfl) hK hN (hD.sub (ws' := (ws_loadProduct a_Mo a_Sp a_Mo_raised a_Sp_rows a_Sp_work a_Mo_codes a_Mo_degrees a_Mo_keys a_Sp_leads a_Sp_kept a_Sp_basis cI cL cZ Mo_variables Mo_order Mo_highest Mo_count Sp_prime Sp_limit Sp_keptCount Sp_basisCount Mo_raised Sp_rows Sp_work)) [0, 1, 3, 4, 7] (by decide) rfl) 2 1 rfl rfl) rfl rfl hl.1 rfl (lv_room (Nat.le_of_ble_eq_true rfl)) d_Sp_close_62 ⟨Nat.le_of_ble_eq_true rfl, Nat.le_of_ble_eq_true rfl⟩) hS (fun q _ h => hFc q h) hFc (fun _ t H_2 locs ht hvm hw hB hz1 hk1 hS => ?_)
    obtain ⟨hP, hD⟩ := va_join (wr := [(a_Mo_degrees, .inl (cI, 126, .inl Mo_degrees)), (a_Sp_leads, .inl (cZ, 126, .inl Sp_leads)), (a_Sp_kept, .inl (cI, 126, .inl Sp_kept))]) (w1 := (ws_loadProduct a_Mo a_Sp a_Mo_raised a_Sp_rows a_Sp_work a_Mo_codes a_Mo_degrees a_Mo_keys a_Sp_leads a_Sp_kept a_Sp_basis cI cL cZ Mo_variables Mo_order Mo_highest Mo_count Sp_prime Sp_limit Sp_keptCount Sp_basisCount Mo_raised Sp_rows Sp_work_1)) hP hD [0, 1, 3, 4, 7] [2, 5, 6] rfl rfl (by decide) (by decide) hk1 hFc (by have h9 := hB.1; rw [ht] at h9; exact h9) hB.2.2
    have hP : va_P D classes (ws_close a_Mo a_Sp a_Mo_degrees a_Mo_raised a_Sp_rows a_Sp_leads a_Sp_kept a_Sp_work a_Mo_codes a_Mo_keys a_Sp_basis cI cL cZ Mo_variables Mo_order Mo_highest Mo_count Sp_prime Sp_limit Sp_keptCount Sp_basisCount Mo_degrees Mo_raised Sp_rows Sp_leads Sp_kept Sp_work_1) H_2 := hP.sub [3, 4, 0, 5, 6, 1, 2, 7] rfl
    have hD : va_D A (ws_close a_Mo a_Sp a_Mo_degrees a_Mo_raised a_Sp_rows a_Sp_leads a_Sp_kept a_Sp_work a_Mo_codes a_Mo_keys a_Sp_basis cI cL cZ Mo_variables Mo_order Mo_highest Mo_count Sp_prime Sp_limit Sp_keptCount Sp_basisCount Mo_degrees Mo_raised Sp_rows Sp_leads Sp_kept Sp_work_1) := hD.sub [3, 4, 0, 5, 6, 1, 2, 7] (by decide) rfl
    refine lv_aload_n hx hb d_Sp_close_65 rfl (lv_at hl 0 rfl) ?_
    obtain ⟨Sp_keptCount_3, Sp_rows_4, Sp_leads_5, Sp_kept_6, Sp_work_7, hc, hrun⟩ := bd5_s hrun
    have hFc := va_free (wc := (ws_absorbWork a_Mo a_Sp a_Sp_rows a_Sp_leads a_Sp_kept a_Sp_work a_Mo_codes a_Mo_degrees a_Mo_keys a_Mo_raised a_Sp_basis cI cL cZ Mo_variables Mo_order Mo_highest Mo_count Sp_prime Sp_limit Sp_keptCount Sp_basisCount Sp_rows Sp_leads Sp_kept Sp_work_1)) hD hS hA [0, 1, 4, 5, 6, 7] rfl
    refine va_callv (va_runV (As := []) (rest := []) ⟨hx, hb, hml, hown, hts⟩ (c_absorbWork (gl X) D cI cL cZ a_Mo a_Sp a_Sp_rows a_Sp_leads a_Sp_kept a_Sp_work a_Mo_codes a_Mo_degrees a_Mo_keys a_Mo_raised a_Sp_basis F Mo_variables Mo_order Mo_highest Mo_count Sp_prime Sp_limit Sp_keptCount Sp_basisCount Sp_rows Sp_leads Sp_kept Sp_work_1 H_2.size Sp_keptCount_3 Sp_rows_4 Sp_leads_5 Sp_kept_6 Sp_work_7 hc) (cwV 0 hts (gwV k_102 k_100 k_101 k_91 k_93) rfl rfl rfl (by decide +kernel) ⟨Nat.le_of_ble_eq_true rfl, Nat.le_of_ble_eq_true rfl⟩) (gpreVW (hP.sub (ws' := (ws_absorbWork a_Mo a_Sp a_Sp_rows a_Sp_leads a_Sp_kept a_Sp_work a_Mo_codes a_Mo_degrees a_Mo_keys a_Mo_raised a_Sp_basis cI cL cZ Mo_variables Mo_order Mo_highest Mo_count Sp_prime Sp_limit Sp_keptCount Sp_basisCount Sp_rows Sp_leads Sp_kept Sp_work_1)) [0, 1, 4, 5, 6, 7] rfl) hK hN (hD.sub (ws' := (ws_absorbWork a_Mo a_Sp a_Sp_rows a_Sp_leads a_Sp_kept a_Sp_work a_Mo_codes a_Mo_degrees a_Mo_keys a_Mo_raised a_Sp_basis cI cL cZ Mo_variables Mo_order Mo_highest Mo_count Sp_prime Sp_limit Sp_keptCount Sp_basisCount Sp_rows Sp_leads Sp_kept Sp_work_1)) [0, 1, 4, 5, 6, 7] (by decide) rfl) 2 1 rfl rfl) rfl rfl hl.1 rfl (lv_room (Nat.le_of_ble_eq_true rfl)) d_Sp_close_66 ⟨Nat.le_of_ble_eq_true rfl, Nat.le_of_ble_eq_true rfl⟩) hS (fun q _ h => hFc q h) hFc (fun _ t H_8 locs ht hvm hw hB hz1 hk1 hS => ?_)
    obtain ⟨hP, hD⟩ := va_join (wr := [(a_Mo_degrees, .inl (cI, 126, .inl Mo_degrees)), (a_Mo_raised, .inl (cI, 504, .inl Mo_raised))]) (w1 := (ws_absorbWork a_Mo a_Sp a_Sp_rows a_Sp_leads a_Sp_kept a_Sp_work a_Mo_codes a_Mo_degrees a_Mo_keys a_Mo_raised a_Sp_basis cI cL cZ Mo_variables Mo_order Mo_highest Mo_count Sp_prime Sp_limit Sp_keptCount_3 Sp_basisCount Sp_rows_4 Sp_leads_5 Sp_kept_6 Sp_work_7)) hP hD [0, 1, 4, 5, 6, 7] [2, 3] rfl rfl (by decide) (by decide) hk1 hFc (by have h9 := hB.1; rw [ht] at h9; exact h9) hB.2.2
    have hP : va_P D classes (ws_close a_Mo a_Sp a_Mo_degrees a_Mo_raised a_Sp_rows a_Sp_leads a_Sp_kept a_Sp_work a_Mo_codes a_Mo_keys a_Sp_basis cI cL cZ Mo_variables Mo_order Mo_highest Mo_count Sp_prime Sp_limit Sp_keptCount_3 Sp_basisCount Mo_degrees Mo_raised Sp_rows_4 Sp_leads_5 Sp_kept_6 Sp_work_7) H_8 := hP.sub [2, 3, 0, 1, 4, 5, 6, 7] rfl
    have hD : va_D A (ws_close a_Mo a_Sp a_Mo_degrees a_Mo_raised a_Sp_rows a_Sp_leads a_Sp_kept a_Sp_work a_Mo_codes a_Mo_keys a_Sp_basis cI cL cZ Mo_variables Mo_order Mo_highest Mo_count Sp_prime Sp_limit Sp_keptCount_3 Sp_basisCount Mo_degrees Mo_raised Sp_rows_4 Sp_leads_5 Sp_kept_6 Sp_work_7) := hD.sub [2, 3, 0, 1, 4, 5, 6, 7] (by decide) rfl
    refine lv_iinc (v := (i3 + 1)) (lv' := [(3, .int (i3 + 1)), (0, .ref a_Sp), (1, .int i1), (2, .int i2)]) hx hb d_Sp_close_69 hl (k := 3) rfl rfl (by decide) rfl (fun ls hl => ?_)
    refine lv_goto (tgt := 48) hx hb d_Sp_close_72 (by decide) ?_
    exact hk48 i1 i2 (i3 + 1) Sp_keptCount_3 Sp_rows_4 Sp_leads_5 Sp_kept_6 Sp_work_7 hrun H_8 locs ls hP hD hS (lv_sub hl [1, 2, 3, 0] rfl)
theorem v_close_48 (X : gX) (D : va_G) (cI cL cZ : ClassId) (a_Mo a_Sp a_Mo_degrees a_Mo_raised a_Sp_rows a_Sp_leads a_Sp_kept a_Sp_work a_Mo_codes a_Mo_keys a_Sp_basis : Nat) (A : Nat → Prop) (Mo_variables Mo_order Mo_highest Mo_count Sp_prime Sp_limit Sp_basisCount : Int32) (Mo_degrees Mo_raised : Nat → Int32) (Sp_keptCount_r : Int32) (Sp_rows_r Sp_leads_r Sp_kept_r Sp_work_r : Nat → Int32) (F : Nat) (C0 : gC X c_Sp_closeb none 4 "RemnantDictionary$Space" gAll) (hK : va_K D classes (gT cI cL cZ) (gs X)) (hA : ∀ q : Nat, (gs X).heap.size ≤ q → A q) (hN : gN (gs X)) (k2 : Int32 → Int32 → (Nat → Int32) → (Nat → Int32) → (Nat → Int32) → (Nat → Int32) → Option (Int32 × (Nat → Int32) × (Nat → Int32) × (Nat → Int32) × (Nat → Int32))) (hk2 : ∀ (i1 Sp_keptCount : Int32) (Sp_rows Sp_leads Sp_kept Sp_work : Nat → Int32), k2 i1 Sp_keptCount Sp_rows Sp_leads Sp_kept Sp_work = some (Sp_keptCount_r, Sp_rows_r, Sp_leads_r, Sp_kept_r, Sp_work_r) → g_close X D cI cL cZ a_Mo a_Sp a_Mo_degrees a_Mo_raised a_Sp_rows a_Sp_leads a_Sp_kept a_Sp_work a_Mo_codes a_Mo_keys a_Sp_basis A Mo_variables Mo_order Mo_highest Mo_count Sp_prime Sp_limit Sp_basisCount Mo_degrees Mo_raised Sp_keptCount_r Sp_rows_r Sp_leads_r Sp_kept_r Sp_work_r 2 [(0, .ref a_Sp), (1, .int i1)] [] Sp_keptCount Sp_rows Sp_leads Sp_kept Sp_work) : ∀ (n : Nat) (i1 i2 i3 Sp_keptCount : Int32) (Sp_rows Sp_leads Sp_kept Sp_work : Nat → Int32), b_close_48 F Mo_count Mo_variables Sp_limit Sp_prime Mo_degrees Mo_raised k2 n i1 i2 i3 Sp_keptCount Sp_rows Sp_leads Sp_kept Sp_work = some (Sp_keptCount_r, Sp_rows_r, Sp_leads_r, Sp_kept_r, Sp_work_r) → g_close X D cI cL cZ a_Mo a_Sp a_Mo_degrees a_Mo_raised a_Sp_rows a_Sp_leads a_Sp_kept a_Sp_work a_Mo_codes a_Mo_keys a_Sp_basis A Mo_variables Mo_order Mo_highest Mo_count Sp_prime Sp_limit Sp_basisCount Mo_degrees Mo_raised Sp_keptCount_r Sp_rows_r Sp_leads_r Sp_kept_r Sp_work_r 48 [(0, .ref a_Sp), (1, .int i1), (2, .int i2), (3, .int i3)] [] Sp_keptCount Sp_rows Sp_leads Sp_kept Sp_work := by
  intro n
  induction n with
  | zero => intro i1 i2 i3 Sp_keptCount Sp_rows Sp_leads Sp_kept Sp_work hrun; cases hrun
  | succ n ih =>
    intro i1 i2 i3 Sp_keptCount Sp_rows Sp_leads Sp_kept Sp_work hrun
    exact w_close_48 X D cI cL cZ a_Mo a_Sp a_Mo_degrees a_Mo_raised a_Sp_rows a_Sp_leads a_Sp_kept a_Sp_work a_Mo_codes a_Mo_keys a_Sp_basis A Mo_variables Mo_order Mo_highest Mo_count Sp_prime Sp_limit Sp_basisCount Mo_degrees Mo_raised Sp_keptCount_r Sp_rows_r Sp_leads_r Sp_kept_r Sp_work_r F C0 hK hA hN k2 hk2 (b_close_48 F Mo_count Mo_variables Sp_limit Sp_prime Mo_degrees Mo_raised k2 n) ih i1 i2 i3 Sp_keptCount Sp_rows Sp_leads Sp_kept Sp_work hrun
set_option maxHeartbeats 4000000 in
set_option maxRecDepth 100000 in
theorem w_close_2 (X : gX) (D : va_G) (cI cL cZ : ClassId) (a_Mo a_Sp a_Mo_degrees a_Mo_raised a_Sp_rows a_Sp_leads a_Sp_kept a_Sp_work a_Mo_codes a_Mo_keys a_Sp_basis : Nat) (A : Nat → Prop) (Mo_variables Mo_order Mo_highest Mo_count Sp_prime Sp_limit Sp_basisCount : Int32) (Mo_degrees Mo_raised : Nat → Int32) (Sp_keptCount_r : Int32) (Sp_rows_r Sp_leads_r Sp_kept_r Sp_work_r : Nat → Int32) (F : Nat) (C0 : gC X c_Sp_closeb none 4 "RemnantDictionary$Space" gAll) (hK : va_K D classes (gT cI cL cZ) (gs X)) (hA : ∀ q : Nat, (gs X).heap.size ≤ q → A q) (hN : gN (gs X)) (k2 : Int32 → Int32 → (Nat → Int32) → (Nat → Int32) → (Nat → Int32) → (Nat → Int32) → Option (Int32 × (Nat → Int32) × (Nat → Int32) × (Nat → Int32) × (Nat → Int32))) (hk2 : ∀ (i1 Sp_keptCount : Int32) (Sp_rows Sp_leads Sp_kept Sp_work : Nat → Int32), k2 i1 Sp_keptCount Sp_rows Sp_leads Sp_kept Sp_work = some (Sp_keptCount_r, Sp_rows_r, Sp_leads_r, Sp_kept_r, Sp_work_r) → g_close X D cI cL cZ a_Mo a_Sp a_Mo_degrees a_Mo_raised a_Sp_rows a_Sp_leads a_Sp_kept a_Sp_work a_Mo_codes a_Mo_keys a_Sp_basis A Mo_variables Mo_order Mo_highest Mo_count Sp_prime Sp_limit Sp_basisCount Mo_degrees Mo_raised Sp_keptCount_r Sp_rows_r Sp_leads_r Sp_kept_r Sp_work_r 2 [(0, .ref a_Sp), (1, .int i1)] [] Sp_keptCount Sp_rows Sp_leads Sp_kept Sp_work) (i1 Sp_keptCount : Int32) (Sp_rows Sp_leads Sp_kept Sp_work : Nat → Int32) (hrun : s_close_2 F Mo_count Mo_variables Sp_limit Sp_prime Mo_degrees Mo_raised k2 i1 Sp_keptCount Sp_rows Sp_leads Sp_kept Sp_work = some (Sp_keptCount_r, Sp_rows_r, Sp_leads_r, Sp_kept_r, Sp_work_r)) : g_close X D cI cL cZ a_Mo a_Sp a_Mo_degrees a_Mo_raised a_Sp_rows a_Sp_leads a_Sp_kept a_Sp_work a_Mo_codes a_Mo_keys a_Sp_basis A Mo_variables Mo_order Mo_highest Mo_count Sp_prime Sp_limit Sp_basisCount Mo_degrees Mo_raised Sp_keptCount_r Sp_rows_r Sp_leads_r Sp_kept_r Sp_work_r 2 [(0, .ref a_Sp), (1, .int i1)] [] Sp_keptCount Sp_rows Sp_leads Sp_kept Sp_work := by
  have C1 := C0
  obtain ⟨hx, hb, hr, hml, hown, hts, hlocks⟩ := C1
  unfold s_close_2 at hrun
  intro H locs ls hP hD hS hl
  refine lv_iload_n hx hb d_Sp_close_2 rfl (lv_at hl 1 rfl) ?_
  refine lv_bipush (v := 126) hx hb d_Sp_close_3 (by decide) ?_
  refine g_icmp_ge (tgt := 81) hx hb d_Sp_close_5 (by decide) hrun (fun _ hrun => ?_) (fun _ hrun => ?_)
  · cases hrun
    exact W.vret hx hb hr (fun t ht hW => ⟨⟨(), rfl, trivial, gB_of ht hW.alike hP hK hD⟩, hS.F ht⟩) hS.2.2 d_Sp_close_81
  · refine lv_iload_n hx hb d_Sp_close_8 rfl (lv_at hl 1 rfl) ?_
    refine lv_aload_n hx hb d_Sp_close_9 rfl (lv_at hl 0 rfl) ?_
    refine va_get (D := D) (ci := 2) (v := .int Sp_keptCount) (C := "RemnantDictionary$Space") (T := T_Sp) (N := 10) hx hb hts iw_Sp hown hK hP 1 rfl rfl 6 (by decide) (hts _ k_79) (fun _ h9 => h9) rfl d_Sp_close_10 ?_
    refine g_icmp_ge (tgt := 81) hx hb d_Sp_close_13 (by decide) hrun (fun _ hrun => ?_) (fun _ hrun => ?_)
    · cases hrun
      exact W.vret hx hb hr (fun t ht hW => ⟨⟨(), rfl, trivial, gB_of ht hW.alike hP hK hD⟩, hS.F ht⟩) hS.2.2 d_Sp_close_81
    · refine lv_aload_n hx hb d_Sp_close_16 rfl (lv_at hl 0 rfl) ?_
      obtain ⟨r_1, hc, hrun⟩ := bd1_s hrun
      refine vp_callSi (W.runV (As := []) (rest := []) ⟨hx, hb, hml, hown, hts⟩ (c_has1 (gl X) D cI cL cZ a_Sp a_Sp_leads a_Mo a_Sp_rows a_Sp_kept a_Sp_work a_Sp_basis F Sp_prime Sp_limit Sp_keptCount Sp_basisCount Sp_leads r_1 hc) (cwV 0 hts (gwV k_116 k_114 k_115 k_91 k_75) rfl rfl rfl (by decide +kernel) ⟨Nat.le_of_ble_eq_true rfl, Nat.le_of_ble_eq_true rfl⟩) (gpreV (hP.sub (ws' := (ws_has1 a_Sp a_Sp_leads a_Mo a_Sp_rows a_Sp_kept a_Sp_work a_Sp_basis cI cL cZ Sp_prime Sp_limit Sp_keptCount Sp_basisCount Sp_leads)) [1, 5] rfl) hK hN 2 0 rfl rfl) rfl rfl hl.1 rfl (lv_room (Nat.le_of_ble_eq_true rfl)) d_Sp_close_17 ⟨Nat.le_of_ble_eq_true rfl, Nat.le_of_ble_eq_true rfl⟩) (nm_e ?_)
      refine g_if_ne (tgt := 81) hx hb d_Sp_close_20 (by decide) hrun (fun _ hrun => ?_) (fun _ hrun => ?_)
      · cases hrun
        exact W.vret hx hb hr (fun t ht hW => ⟨⟨(), rfl, trivial, gB_of ht hW.alike hP hK hD⟩, hS.F ht⟩) hS.2.2 d_Sp_close_81
      · refine lv_aload_n hx hb d_Sp_close_23 rfl (lv_at hl 0 rfl) ?_
        refine va_get (D := D) (ci := 2) (v := .ref a_Sp_kept) (C := "RemnantDictionary$Space") (T := T_Sp) (N := 10) hx hb hts iw_Sp hown hK hP 1 rfl rfl 5 (by decide) (hts _ k_87) (fun _ h9 => h9) rfl d_Sp_close_24 ?_
        refine lv_iload_n hx hb d_Sp_close_27 rfl (lv_at hl 1 rfl) ?_
        refine g_iald hx hb hK hP 6 0 rfl rfl hrun d_Sp_close_28 (fun x_2 hrun => ?_)
        refine lv_istore_n (lv' := [(2, .int x_2), (0, .ref a_Sp), (1, .int i1)]) hx hb d_Sp_close_29 rfl hl (by decide) rfl (fun ls hl => ?_)
        refine lv_aload_n hx hb d_Sp_close_30 rfl (lv_at hl 1 rfl) ?_
        refine va_get (D := D) (ci := 2) (v := .ref a_Mo) (C := "RemnantDictionary$Space") (T := T_Sp) (N := 10) hx hb hts iw_Sp hown hK hP 1 rfl rfl 0 (by decide) (hts _ k_94) (fun _ h9 => h9) rfl d_Sp_close_31 ?_
        refine va_get (D := D) (ci := 1) (v := .ref a_Mo_degrees) (C := "RemnantDictionary$Monomials") (T := T_Mo) (N := 8) hx hb hts iw_Mo hown hK hP 0 rfl rfl 5 (by decide) (hts _ k_104) (fun _ h9 => h9) rfl d_Sp_close_34 ?_
        refine lv_iload_n hx hb d_Sp_close_37 rfl (lv_at hl 0 rfl) ?_
        refine g_iald hx hb hK hP 2 0 rfl rfl hrun d_Sp_close_38 (fun x_3 hrun => ?_)
        refine lv_aload_n hx hb d_Sp_close_39 rfl (lv_at hl 1 rfl) ?_
        refine va_get (D := D) (ci := 2) (v := .int Sp_limit) (C := "RemnantDictionary$Space") (T := T_Sp) (N := 10) hx hb hts iw_Sp hown hK hP 1 rfl rfl 2 (by decide) (hts _ k_78) (fun _ h9 => h9) rfl d_Sp_close_40 ?_
        refine g_icmp_ge (tgt := 75) hx hb d_Sp_close_43 (by decide) hrun (fun _ hrun => ?_) (fun _ hrun => ?_)
        · refine lv_iinc (v := (i1 + 1)) (lv' := [(1, .int (i1 + 1)), (2, .int x_2), (0, .ref a_Sp)]) hx hb d_Sp_close_75 hl (k := 2) rfl rfl (by decide) rfl (fun ls hl => ?_)
          refine lv_goto (tgt := 2) hx hb d_Sp_close_78 (by decide) ?_
          exact hk2 (i1 + 1) Sp_keptCount Sp_rows Sp_leads Sp_kept Sp_work hrun H locs ls hP hD hS (lv_sub hl [2, 0] rfl)
        · refine lv_iconst (v := 0) hx hb d_Sp_close_46 (by decide) ?_
          refine lv_istore_n (lv' := [(3, .int 0), (2, .int x_2), (0, .ref a_Sp), (1, .int i1)]) hx hb d_Sp_close_47 rfl hl (by decide) rfl (fun ls hl => ?_)
          exact v_close_48 X D cI cL cZ a_Mo a_Sp a_Mo_degrees a_Mo_raised a_Sp_rows a_Sp_leads a_Sp_kept a_Sp_work a_Mo_codes a_Mo_keys a_Sp_basis A Mo_variables Mo_order Mo_highest Mo_count Sp_prime Sp_limit Sp_basisCount Mo_degrees Mo_raised Sp_keptCount_r Sp_rows_r Sp_leads_r Sp_kept_r Sp_work_r F C0 hK hA hN k2 hk2 F i1 x_2 0 Sp_keptCount Sp_rows Sp_leads Sp_kept Sp_work hrun H locs ls hP hD hS (lv_sub hl [2, 3, 1, 0] rfl)
theorem v_close_2 (X : gX) (D : va_G) (cI cL cZ : ClassId) (a_Mo a_Sp a_Mo_degrees a_Mo_raised a_Sp_rows a_Sp_leads a_Sp_kept a_Sp_work a_Mo_codes a_Mo_keys a_Sp_basis : Nat) (A : Nat → Prop) (Mo_variables Mo_order Mo_highest Mo_count Sp_prime Sp_limit Sp_basisCount : Int32) (Mo_degrees Mo_raised : Nat → Int32) (Sp_keptCount_r : Int32) (Sp_rows_r Sp_leads_r Sp_kept_r Sp_work_r : Nat → Int32) (F : Nat) (C0 : gC X c_Sp_closeb none 4 "RemnantDictionary$Space" gAll) (hK : va_K D classes (gT cI cL cZ) (gs X)) (hA : ∀ q : Nat, (gs X).heap.size ≤ q → A q) (hN : gN (gs X))  : ∀ (n : Nat) (i1 Sp_keptCount : Int32) (Sp_rows Sp_leads Sp_kept Sp_work : Nat → Int32), b_close_2 F Mo_count Mo_variables Sp_limit Sp_prime Mo_degrees Mo_raised n i1 Sp_keptCount Sp_rows Sp_leads Sp_kept Sp_work = some (Sp_keptCount_r, Sp_rows_r, Sp_leads_r, Sp_kept_r, Sp_work_r) → g_close X D cI cL cZ a_Mo a_Sp a_Mo_degrees a_Mo_raised a_Sp_rows a_Sp_leads a_Sp_kept a_Sp_work a_Mo_codes a_Mo_keys a_Sp_basis A Mo_variables Mo_order Mo_highest Mo_count Sp_prime Sp_limit Sp_basisCount Mo_degrees Mo_raised Sp_keptCount_r Sp_rows_r Sp_leads_r Sp_kept_r Sp_work_r 2 [(0, .ref a_Sp), (1, .int i1)] [] Sp_keptCount Sp_rows Sp_leads Sp_kept Sp_work := by
  intro n
  induction n with
  | zero => intro i1 Sp_keptCount Sp_rows Sp_leads Sp_kept Sp_work hrun; cases hrun
  | succ n ih =>
    intro i1 Sp_keptCount Sp_rows Sp_leads Sp_kept Sp_work hrun
    exact w_close_2 X D cI cL cZ a_Mo a_Sp a_Mo_degrees a_Mo_raised a_Sp_rows a_Sp_leads a_Sp_kept a_Sp_work a_Mo_codes a_Mo_keys a_Sp_basis A Mo_variables Mo_order Mo_highest Mo_count Sp_prime Sp_limit Sp_basisCount Mo_degrees Mo_raised Sp_keptCount_r Sp_rows_r Sp_leads_r Sp_kept_r Sp_work_r F C0 hK hA hN (b_close_2 F Mo_count Mo_variables Sp_limit Sp_prime Mo_degrees Mo_raised n) ih i1 Sp_keptCount Sp_rows Sp_leads Sp_kept Sp_work hrun
set_option maxHeartbeats 4000000 in
set_option maxRecDepth 100000 in
theorem e_close (X : gX) (D : va_G) (cI cL cZ : ClassId) (a_Mo a_Sp a_Mo_degrees a_Mo_raised a_Sp_rows a_Sp_leads a_Sp_kept a_Sp_work a_Mo_codes a_Mo_keys a_Sp_basis : Nat) (A : Nat → Prop) (Mo_variables Mo_order Mo_highest Mo_count Sp_prime Sp_limit Sp_basisCount : Int32) (Mo_degrees Mo_raised : Nat → Int32) (Sp_keptCount_r : Int32) (Sp_rows_r Sp_leads_r Sp_kept_r Sp_work_r : Nat → Int32) (F : Nat) (C0 : gC X c_Sp_closeb none 4 "RemnantDictionary$Space" gAll) (hK : va_K D classes (gT cI cL cZ) (gs X)) (hA : ∀ q : Nat, (gs X).heap.size ≤ q → A q) (hN : gN (gs X)) (Sp_keptCount : Int32) (Sp_rows Sp_leads Sp_kept Sp_work : Nat → Int32) (hrun : m_close F Mo_count Mo_variables Sp_limit Sp_prime Mo_degrees Mo_raised Sp_keptCount Sp_rows Sp_leads Sp_kept Sp_work = some (Sp_keptCount_r, Sp_rows_r, Sp_leads_r, Sp_kept_r, Sp_work_r)) : g_close X D cI cL cZ a_Mo a_Sp a_Mo_degrees a_Mo_raised a_Sp_rows a_Sp_leads a_Sp_kept a_Sp_work a_Mo_codes a_Mo_keys a_Sp_basis A Mo_variables Mo_order Mo_highest Mo_count Sp_prime Sp_limit Sp_basisCount Mo_degrees Mo_raised Sp_keptCount_r Sp_rows_r Sp_leads_r Sp_kept_r Sp_work_r 0 [(0, .ref a_Sp)] [] Sp_keptCount Sp_rows Sp_leads Sp_kept Sp_work := by
  have C1 := C0
  obtain ⟨hx, hb, hr, hml, hown, hts, hlocks⟩ := C1
  unfold m_close at hrun
  intro H locs ls hP hD hS hl
  refine lv_iconst (v := 0) hx hb d_Sp_close_0 (by decide) ?_
  refine lv_istore_n (lv' := [(1, .int 0), (0, .ref a_Sp)]) hx hb d_Sp_close_1 rfl hl (by decide) rfl (fun ls hl => ?_)
  exact v_close_2 X D cI cL cZ a_Mo a_Sp a_Mo_degrees a_Mo_raised a_Sp_rows a_Sp_leads a_Sp_kept a_Sp_work a_Mo_codes a_Mo_keys a_Sp_basis A Mo_variables Mo_order Mo_highest Mo_count Sp_prime Sp_limit Sp_basisCount Mo_degrees Mo_raised Sp_keptCount_r Sp_rows_r Sp_leads_r Sp_kept_r Sp_work_r F C0 hK hA hN  F 0 Sp_keptCount Sp_rows Sp_leads Sp_kept Sp_work hrun H locs ls hP hD hS (lv_sub hl [1, 0] rfl)
set_option maxHeartbeats 4000000 in
set_option maxRecDepth 100000 in
theorem c_close (l : Launch) (D : va_G) (cI cL cZ : ClassId) (a_Mo a_Sp a_Mo_degrees a_Mo_raised a_Sp_rows a_Sp_leads a_Sp_kept a_Sp_work a_Mo_codes a_Mo_keys a_Sp_basis : Nat) (F : Nat) (Mo_variables Mo_order Mo_highest Mo_count Sp_prime Sp_limit Sp_keptCount Sp_basisCount : Int32) (Mo_degrees Mo_raised Sp_rows Sp_leads Sp_kept Sp_work : Nat → Int32) (sz : Nat) (Sp_keptCount_r : Int32) (Sp_rows_r Sp_leads_r Sp_kept_r Sp_work_r : Nat → Int32) (hrun : m_close F Mo_count Mo_variables Sp_limit Sp_prime Mo_degrees Mo_raised Sp_keptCount Sp_rows Sp_leads Sp_kept Sp_work = some (Sp_keptCount_r, Sp_rows_r, Sp_leads_r, Sp_kept_r, Sp_work_r)) : Met l y_Sp_close (.code y_Sp_close c_Sp_closeb 4 none :: gAll) rm_close (va_Pc [.ref a_Sp] (gPW D (gT cI cL cZ) (ws_close a_Mo a_Sp a_Mo_degrees a_Mo_raised a_Sp_rows a_Sp_leads a_Sp_kept a_Sp_work a_Mo_codes a_Mo_keys a_Sp_basis cI cL cZ Mo_variables Mo_order Mo_highest Mo_count Sp_prime Sp_limit Sp_keptCount Sp_basisCount Mo_degrees Mo_raised Sp_rows Sp_leads Sp_kept Sp_work) sz)) (va_Qv (fun _ : Unit => True) (gB D (gT cI cL cZ) (va_A (ws_close a_Mo a_Sp a_Mo_degrees a_Mo_raised a_Sp_rows a_Sp_leads a_Sp_kept a_Sp_work a_Mo_codes a_Mo_keys a_Sp_basis cI cL cZ Mo_variables Mo_order Mo_highest Mo_count Sp_prime Sp_limit Sp_keptCount Sp_basisCount Mo_degrees Mo_raised Sp_rows Sp_leads Sp_kept Sp_work) sz) (ws_close a_Mo a_Sp a_Mo_degrees a_Mo_raised a_Sp_rows a_Sp_leads a_Sp_kept a_Sp_work a_Mo_codes a_Mo_keys a_Sp_basis cI cL cZ Mo_variables Mo_order Mo_highest Mo_count Sp_prime Sp_limit Sp_keptCount_r Sp_basisCount Mo_degrees Mo_raised Sp_rows_r Sp_leads_r Sp_kept_r Sp_work_r)) (va_A (ws_close a_Mo a_Sp a_Mo_degrees a_Mo_raised a_Sp_rows a_Sp_leads a_Sp_kept a_Sp_work a_Mo_codes a_Mo_keys a_Sp_basis cI cL cZ Mo_variables Mo_order Mo_highest Mo_count Sp_prime Sp_limit Sp_keptCount Sp_basisCount Mo_degrees Mo_raised Sp_rows Sp_leads Sp_kept Sp_work) sz)) 0 0 (va_A (ws_close a_Mo a_Sp a_Mo_degrees a_Mo_raised a_Sp_rows a_Sp_leads a_Sp_kept a_Sp_work a_Mo_codes a_Mo_keys a_Sp_basis cI cL cZ Mo_variables Mo_order Mo_highest Mo_count Sp_prime Sp_limit Sp_keptCount Sp_basisCount Mo_degrees Mo_raised Sp_rows Sp_leads Sp_kept Sp_work) sz) := by
  refine Met.ofW (cc := c_Sp_closeb) (maxL := 4) (ret := none) (by decide +kernel) rfl ?_
  intro p e s m args below meth c s₁ B hml hv
  obtain ⟨rfl, hsz, hP, hK, hN, hD0⟩ := hv
  subst hsz
  have hD := hD0.self (sz := s.heap.size)
  have hl := lv_entry ([.ref a_Sp]) (n := 4) (Nat.le_of_ble_eq_true rfl)
  rw [lg_entry_eq]
  generalize (lg_sl ([.ref a_Sp]) ++ List.replicate (4 - (lg_sl ([.ref a_Sp])).length) Slot.unset).toArray = ls at hl ⊢
  exact e_close (p, l, e, s, m, ([.ref a_Sp] : List Value).toArray, below, meth, c) D cI cL cZ a_Mo a_Sp a_Mo_degrees a_Mo_raised a_Sp_rows a_Sp_leads a_Sp_kept a_Sp_work a_Mo_codes a_Mo_keys a_Sp_basis (va_A (ws_close a_Mo a_Sp a_Mo_degrees a_Mo_raised a_Sp_rows a_Sp_leads a_Sp_kept a_Sp_work a_Mo_codes a_Mo_keys a_Sp_basis cI cL cZ Mo_variables Mo_order Mo_highest Mo_count Sp_prime Sp_limit Sp_keptCount Sp_basisCount Mo_degrees Mo_raised Sp_rows Sp_leads Sp_kept Sp_work) s.heap.size) Mo_variables Mo_order Mo_highest Mo_count Sp_prime Sp_limit Sp_basisCount Mo_degrees Mo_raised Sp_keptCount_r Sp_rows_r Sp_leads_r Sp_kept_r Sp_work_r F ⟨B.exec, B.bytes, B.returns, hml, findClass_of_methodNamed B.named, fun w h => atoms_spec (ws := (.code y_Sp_close c_Sp_closeb 4 none :: gAll)) B.pre w (List.mem_cons_of_mem _ h), B.notSynchronized⟩ hK (fun q h => Or.inr h) hN Sp_keptCount Sp_rows Sp_leads Sp_kept Sp_work hrun s.heap [] ls hP hD va_S.rf hl
theorem d_Sp_hasLeadThatDivides_0 : decode c_Sp_hasLeadThatDividesb 0 = .ok (.iconst 0, 1) := by decide +kernel
theorem d_Sp_hasLeadThatDivides_1 : decode c_Sp_hasLeadThatDividesb 1 = .ok (.istore_n 2, 1) := by decide +kernel
theorem d_Sp_hasLeadThatDivides_2 : decode c_Sp_hasLeadThatDividesb 2 = .ok (.iload_n 2, 1) := by decide +kernel
theorem d_Sp_hasLeadThatDivides_3 : decode c_Sp_hasLeadThatDividesb 3 = .ok (.aload_n 0, 1) := by decide +kernel
theorem d_Sp_hasLeadThatDivides_4 : decode c_Sp_hasLeadThatDividesb 4 = .ok (.getfield 42, 3) := by decide +kernel
theorem d_Sp_hasLeadThatDivides_7 : decode c_Sp_hasLeadThatDividesb 7 = .ok (.if_icmp .ge 32, 3) := by decide +kernel
theorem d_Sp_hasLeadThatDivides_10 : decode c_Sp_hasLeadThatDividesb 10 = .ok (.aload_n 0, 1) := by decide +kernel
theorem d_Sp_hasLeadThatDivides_11 : decode c_Sp_hasLeadThatDividesb 11 = .ok (.getfield 28, 3) := by decide +kernel
theorem d_Sp_hasLeadThatDivides_14 : decode c_Sp_hasLeadThatDividesb 14 = .ok (.getfield 97, 3) := by decide +kernel
theorem d_Sp_hasLeadThatDivides_17 : decode c_Sp_hasLeadThatDividesb 17 = .ok (.aload_n 0, 1) := by decide +kernel
theorem d_Sp_hasLeadThatDivides_18 : decode c_Sp_hasLeadThatDividesb 18 = .ok (.getfield 25, 3) := by decide +kernel
theorem d_Sp_hasLeadThatDivides_21 : decode c_Sp_hasLeadThatDividesb 21 = .ok (.iload_n 2, 1) := by decide +kernel
theorem d_Sp_hasLeadThatDivides_22 : decode c_Sp_hasLeadThatDividesb 22 = .ok (.iaload, 1) := by decide +kernel
theorem d_Sp_hasLeadThatDivides_23 : decode c_Sp_hasLeadThatDividesb 23 = .ok (.iaload, 1) := by decide +kernel
theorem d_Sp_hasLeadThatDivides_24 : decode c_Sp_hasLeadThatDividesb 24 = .ok (.iload_n 1, 1) := by decide +kernel
theorem d_Sp_hasLeadThatDivides_25 : decode c_Sp_hasLeadThatDividesb 25 = .ok (.invokestatic 107, 3) := by decide +kernel
theorem d_Sp_hasLeadThatDivides_28 : decode c_Sp_hasLeadThatDividesb 28 = .ok (.ifCond .eq 5, 3) := by decide +kernel
theorem d_Sp_hasLeadThatDivides_31 : decode c_Sp_hasLeadThatDividesb 31 = .ok (.iconst 1, 1) := by decide +kernel
theorem d_Sp_hasLeadThatDivides_32 : decode c_Sp_hasLeadThatDividesb 32 = .ok (.ireturn, 1) := by decide +kernel
theorem d_Sp_hasLeadThatDivides_33 : decode c_Sp_hasLeadThatDividesb 33 = .ok (.iinc 2 1, 3) := by decide +kernel
theorem d_Sp_hasLeadThatDivides_36 : decode c_Sp_hasLeadThatDividesb 36 = .ok (.goto (-34), 3) := by decide +kernel
theorem d_Sp_hasLeadThatDivides_39 : decode c_Sp_hasLeadThatDividesb 39 = .ok (.iconst 0, 1) := by decide +kernel
theorem d_Sp_hasLeadThatDivides_40 : decode c_Sp_hasLeadThatDividesb 40 = .ok (.ireturn, 1) := by decide +kernel
abbrev ws_hasLead (a_Mo a_Sp a_Mo_codes a_Sp_basis a_Mo_degrees a_Mo_keys a_Mo_raised a_Sp_rows a_Sp_leads a_Sp_kept a_Sp_work : Nat) (cI cL cZ : ClassId) (Mo_variables Mo_order Mo_highest Mo_count Sp_prime Sp_limit Sp_keptCount Sp_basisCount : Int32) (Mo_codes Sp_basis : Nat → Int32) : va_W := [(a_Mo, .inr (1, [.int Mo_variables, .int Mo_order, .int Mo_highest, .int Mo_count, .ref a_Mo_codes, .ref a_Mo_degrees, .ref a_Mo_keys, .ref a_Mo_raised])), (a_Sp, .inr (2, [.ref a_Mo, .int Sp_prime, .int Sp_limit, .ref a_Sp_rows, .ref a_Sp_leads, .ref a_Sp_kept, .int Sp_keptCount, .ref a_Sp_work, .ref a_Sp_basis, .int Sp_basisCount])), (a_Mo_codes, .inl (cI, 126, .inl Mo_codes)), (a_Sp_basis, .inl (cI, 126, .inl Sp_basis))]
abbrev rm_hasLead : Room := { frames := 2, cells := 0, slots := 0, locals := 43 }
abbrev g_hasLead (X : gX) (r_ : Int32) (pc : Nat) (lv : List (Nat × Value)) (st : List Value) : Prop := ∀ ls : Array Slot, lv_has ls 3 lv → gWW X rm_hasLead (gs X).heap [] 0 0 (MQ (gbl X) (vp_Si (fun r => r = r_)) (ga X) (gs X) 0 0 (fun _ => False)) (F0 (gm X) pc ls st)
set_option maxHeartbeats 4000000 in
set_option maxRecDepth 100000 in
theorem w_hasLead_2 (X : gX) (D : va_G) (cI cL cZ : ClassId) (a_Mo a_Sp a_Mo_codes a_Sp_basis a_Mo_degrees a_Mo_keys a_Mo_raised a_Sp_rows a_Sp_leads a_Sp_kept a_Sp_work : Nat) (F : Nat) (Mo_variables Mo_order Mo_highest Mo_count Sp_prime Sp_limit Sp_keptCount Sp_basisCount : Int32) (Mo_codes Sp_basis : Nat → Int32) (r_ : Int32) (C0 : gC X c_Sp_hasLeadThatDividesb (some .boolean) 3 "RemnantDictionary$Space" gAll) (hK : va_K D classes (gT cI cL cZ) (gs X)) (hP : va_P D classes (ws_hasLead a_Mo a_Sp a_Mo_codes a_Sp_basis a_Mo_degrees a_Mo_keys a_Mo_raised a_Sp_rows a_Sp_leads a_Sp_kept a_Sp_work cI cL cZ Mo_variables Mo_order Mo_highest Mo_count Sp_prime Sp_limit Sp_keptCount Sp_basisCount Mo_codes Sp_basis) (gs X).heap) (hN : gN (gs X)) (k2 : Int32 → Int32 → Option (Int32)) (hk2 : ∀ (i1 i2 : Int32), k2 i1 i2 = some r_ → g_hasLead X r_ 2 [(0, .ref a_Sp), (1, .int i1), (2, .int i2)] []) (i1 i2 : Int32) (hrun : s_hasLead_2 F Sp_basisCount Mo_codes Sp_basis k2 i1 i2 = some r_) : g_hasLead X r_ 2 [(0, .ref a_Sp), (1, .int i1), (2, .int i2)] [] := by
  have C1 := C0
  obtain ⟨hx, hb, hr, hml, hown, hts, hlocks⟩ := C1
  unfold s_hasLead_2 at hrun
  intro ls hl
  refine lv_iload_n hx hb d_Sp_hasLeadThatDivides_2 rfl (lv_at hl 2 rfl) ?_
  refine lv_aload_n hx hb d_Sp_hasLeadThatDivides_3 rfl (lv_at hl 0 rfl) ?_
  refine va_get (D := D) (ci := 2) (v := .int Sp_basisCount) (C := "RemnantDictionary$Space") (T := T_Sp) (N := 10) hx hb hts iw_Sp hown hK hP 1 rfl rfl 9 (by decide) (hts _ k_80) (fun _ h9 => h9) rfl d_Sp_hasLeadThatDivides_4 ?_
  refine g_icmp_ge (tgt := 39) hx hb d_Sp_hasLeadThatDivides_7 (by decide) hrun (fun _ hrun => ?_) (fun _ hrun => ?_)
  · refine lv_iconst (v := 0) hx hb d_Sp_hasLeadThatDivides_39 (by decide) ?_
    cases hrun
    exact W.zret hx hb hr rfl (fun t ht hW => ⟨_, rfl, rfl, ht⟩) (fun q h => absurd h List.not_mem_nil) d_Sp_hasLeadThatDivides_40
  · refine lv_aload_n hx hb d_Sp_hasLeadThatDivides_10 rfl (lv_at hl 0 rfl) ?_
    refine va_get (D := D) (ci := 2) (v := .ref a_Mo) (C := "RemnantDictionary$Space") (T := T_Sp) (N := 10) hx hb hts iw_Sp hown hK hP 1 rfl rfl 0 (by decide) (hts _ k_94) (fun _ h9 => h9) rfl d_Sp_hasLeadThatDivides_11 ?_
    refine va_get (D := D) (ci := 1) (v := .ref a_Mo_codes) (C := "RemnantDictionary$Monomials") (T := T_Mo) (N := 8) hx hb hts iw_Mo hown hK hP 0 rfl rfl 4 (by decide) (hts _ k_117) (fun _ h9 => h9) rfl d_Sp_hasLeadThatDivides_14 ?_
    refine lv_aload_n hx hb d_Sp_hasLeadThatDivides_17 rfl (lv_at hl 0 rfl) ?_
    refine va_get (D := D) (ci := 2) (v := .ref a_Sp_basis) (C := "RemnantDictionary$Space") (T := T_Sp) (N := 10) hx hb hts iw_Sp hown hK hP 1 rfl rfl 8 (by decide) (hts _ k_118) (fun _ h9 => h9) rfl d_Sp_hasLeadThatDivides_18 ?_
    refine lv_iload_n hx hb d_Sp_hasLeadThatDivides_21 rfl (lv_at hl 2 rfl) ?_
    refine g_iald hx hb hK hP 3 0 rfl rfl hrun d_Sp_hasLeadThatDivides_22 (fun x_1 hrun => ?_)
    refine g_iald hx hb hK hP 2 0 rfl rfl hrun d_Sp_hasLeadThatDivides_23 (fun x_2 hrun => ?_)
    refine lv_iload_n hx hb d_Sp_hasLeadThatDivides_24 rfl (lv_at hl 1 rfl) ?_
    obtain ⟨r_3, hc, hrun⟩ := bd1_s hrun
    refine vp_callSi (g_ofRun (va_runSN (As := [.int x_2, .int i1]) (rest := []) ⟨hx, hb, hml, hown, hts⟩ (c_divides (gl X) F x_2 i1 r_3 hc) (⟨va_cnB 2 hts (gwN k_17) rfl rfl rfl (hN.1 _ (List.mem_of_getElem? (i := 5) rfl)) (hts _ k_14) (by decide +kernel) ⟨Nat.le_of_ble_eq_true rfl, Nat.le_of_ble_eq_true rfl⟩, hts _ k_119, trivial⟩) (gpreS0 hN) rfl rfl hl.1 rfl (lv_room (Nat.le_of_ble_eq_true rfl)) d_Sp_hasLeadThatDivides_25 ⟨Nat.le_of_ble_eq_true rfl, Nat.le_of_ble_eq_true rfl⟩)) (nm_e ?_)
    refine g_if_eq (tgt := 33) hx hb d_Sp_hasLeadThatDivides_28 (by decide) hrun (fun _ hrun => ?_) (fun _ hrun => ?_)
    · refine lv_iinc (v := (i2 + 1)) (lv' := [(2, .int (i2 + 1)), (0, .ref a_Sp), (1, .int i1)]) hx hb d_Sp_hasLeadThatDivides_33 hl (k := 2) rfl rfl (by decide) rfl (fun ls hl => ?_)
      refine lv_goto (tgt := 2) hx hb d_Sp_hasLeadThatDivides_36 (by decide) ?_
      exact hk2 i1 (i2 + 1) hrun ls (lv_sub hl [1, 2, 0] rfl)
    · refine lv_iconst (v := 1) hx hb d_Sp_hasLeadThatDivides_31 (by decide) ?_
      cases hrun
      exact W.zret hx hb hr rfl (fun t ht hW => ⟨_, rfl, rfl, ht⟩) (fun q h => absurd h List.not_mem_nil) d_Sp_hasLeadThatDivides_32
theorem v_hasLead_2 (X : gX) (D : va_G) (cI cL cZ : ClassId) (a_Mo a_Sp a_Mo_codes a_Sp_basis a_Mo_degrees a_Mo_keys a_Mo_raised a_Sp_rows a_Sp_leads a_Sp_kept a_Sp_work : Nat) (F : Nat) (Mo_variables Mo_order Mo_highest Mo_count Sp_prime Sp_limit Sp_keptCount Sp_basisCount : Int32) (Mo_codes Sp_basis : Nat → Int32) (r_ : Int32) (C0 : gC X c_Sp_hasLeadThatDividesb (some .boolean) 3 "RemnantDictionary$Space" gAll) (hK : va_K D classes (gT cI cL cZ) (gs X)) (hP : va_P D classes (ws_hasLead a_Mo a_Sp a_Mo_codes a_Sp_basis a_Mo_degrees a_Mo_keys a_Mo_raised a_Sp_rows a_Sp_leads a_Sp_kept a_Sp_work cI cL cZ Mo_variables Mo_order Mo_highest Mo_count Sp_prime Sp_limit Sp_keptCount Sp_basisCount Mo_codes Sp_basis) (gs X).heap) (hN : gN (gs X))  : ∀ (n : Nat) (i1 i2 : Int32), b_hasLead_2 F Sp_basisCount Mo_codes Sp_basis n i1 i2 = some r_ → g_hasLead X r_ 2 [(0, .ref a_Sp), (1, .int i1), (2, .int i2)] [] := by
  intro n
  induction n with
  | zero => intro i1 i2 hrun; cases hrun
  | succ n ih =>
    intro i1 i2 hrun
    exact w_hasLead_2 X D cI cL cZ a_Mo a_Sp a_Mo_codes a_Sp_basis a_Mo_degrees a_Mo_keys a_Mo_raised a_Sp_rows a_Sp_leads a_Sp_kept a_Sp_work F Mo_variables Mo_order Mo_highest Mo_count Sp_prime Sp_limit Sp_keptCount Sp_basisCount Mo_codes Sp_basis r_ C0 hK hP hN (b_hasLead_2 F Sp_basisCount Mo_codes Sp_basis n) ih i1 i2 hrun
set_option maxHeartbeats 4000000 in
set_option maxRecDepth 100000 in
theorem e_hasLead (X : gX) (D : va_G) (cI cL cZ : ClassId) (a_Mo a_Sp a_Mo_codes a_Sp_basis a_Mo_degrees a_Mo_keys a_Mo_raised a_Sp_rows a_Sp_leads a_Sp_kept a_Sp_work : Nat) (F : Nat) (Mo_variables Mo_order Mo_highest Mo_count Sp_prime Sp_limit Sp_keptCount Sp_basisCount : Int32) (Mo_codes Sp_basis : Nat → Int32) (r_ : Int32) (C0 : gC X c_Sp_hasLeadThatDividesb (some .boolean) 3 "RemnantDictionary$Space" gAll) (hK : va_K D classes (gT cI cL cZ) (gs X)) (hP : va_P D classes (ws_hasLead a_Mo a_Sp a_Mo_codes a_Sp_basis a_Mo_degrees a_Mo_keys a_Mo_raised a_Sp_rows a_Sp_leads a_Sp_kept a_Sp_work cI cL cZ Mo_variables Mo_order Mo_highest Mo_count Sp_prime Sp_limit Sp_keptCount Sp_basisCount Mo_codes Sp_basis) (gs X).heap) (hN : gN (gs X)) (i1 : Int32) (hrun : m_hasLead F Sp_basisCount Mo_codes Sp_basis i1 = some r_) : g_hasLead X r_ 0 [(0, .ref a_Sp), (1, .int i1)] [] := by
  have C1 := C0
  obtain ⟨hx, hb, hr, hml, hown, hts, hlocks⟩ := C1
  unfold m_hasLead at hrun
  intro ls hl
  refine lv_iconst (v := 0) hx hb d_Sp_hasLeadThatDivides_0 (by decide) ?_
  refine lv_istore_n (lv' := [(2, .int 0), (0, .ref a_Sp), (1, .int i1)]) hx hb d_Sp_hasLeadThatDivides_1 rfl hl (by decide) rfl (fun ls hl => ?_)
  exact v_hasLead_2 X D cI cL cZ a_Mo a_Sp a_Mo_codes a_Sp_basis a_Mo_degrees a_Mo_keys a_Mo_raised a_Sp_rows a_Sp_leads a_Sp_kept a_Sp_work F Mo_variables Mo_order Mo_highest Mo_count Sp_prime Sp_limit Sp_keptCount Sp_basisCount Mo_codes Sp_basis r_ C0 hK hP hN  F i1 0 hrun ls (lv_sub hl [1, 2, 0] rfl)
set_option maxHeartbeats 4000000 in
set_option maxRecDepth 100000 in
theorem c_hasLead (l : Launch) (D : va_G) (cI cL cZ : ClassId) (a_Mo a_Sp a_Mo_codes a_Sp_basis a_Mo_degrees a_Mo_keys a_Mo_raised a_Sp_rows a_Sp_leads a_Sp_kept a_Sp_work : Nat) (F : Nat) (Mo_variables Mo_order Mo_highest Mo_count Sp_prime Sp_limit Sp_keptCount Sp_basisCount : Int32) (Mo_codes Sp_basis : Nat → Int32) (i1 : Int32) (r_ : Int32) (hrun : m_hasLead F Sp_basisCount Mo_codes Sp_basis i1 = some r_) : Met l y_Sp_hasLeadThatDivides (.code y_Sp_hasLeadThatDivides c_Sp_hasLeadThatDividesb 3 (some .boolean) :: gAll) rm_hasLead (va_Pc [.ref a_Sp, .int i1] (gPR D (gT cI cL cZ) (ws_hasLead a_Mo a_Sp a_Mo_codes a_Sp_basis a_Mo_degrees a_Mo_keys a_Mo_raised a_Sp_rows a_Sp_leads a_Sp_kept a_Sp_work cI cL cZ Mo_variables Mo_order Mo_highest Mo_count Sp_prime Sp_limit Sp_keptCount Sp_basisCount Mo_codes Sp_basis))) (vp_Si (fun r => r = r_)) 0 0 (fun _ => False) := by
  refine Met.ofW (cc := c_Sp_hasLeadThatDividesb) (maxL := 3) (ret := (some .boolean)) (by decide +kernel) rfl ?_
  intro p e s m args below meth c s₁ B hml hv
  obtain ⟨rfl, hP, hK, hN⟩ := hv
  have hl := lv_entry ([.ref a_Sp, .int i1]) (n := 3) (Nat.le_of_ble_eq_true rfl)
  rw [lg_entry_eq]
  generalize (lg_sl ([.ref a_Sp, .int i1]) ++ List.replicate (3 - (lg_sl ([.ref a_Sp, .int i1])).length) Slot.unset).toArray = ls at hl ⊢
  exact e_hasLead (p, l, e, s, m, ([.ref a_Sp, .int i1] : List Value).toArray, below, meth, c) D cI cL cZ a_Mo a_Sp a_Mo_codes a_Sp_basis a_Mo_degrees a_Mo_keys a_Mo_raised a_Sp_rows a_Sp_leads a_Sp_kept a_Sp_work F Mo_variables Mo_order Mo_highest Mo_count Sp_prime Sp_limit Sp_keptCount Sp_basisCount Mo_codes Sp_basis r_ ⟨B.exec, B.bytes, B.returns, hml, findClass_of_methodNamed B.named, fun w h => atoms_spec (ws := (.code y_Sp_hasLeadThatDivides c_Sp_hasLeadThatDividesb 3 (some .boolean) :: gAll)) B.pre w (List.mem_cons_of_mem _ h), B.notSynchronized⟩ hK hP hN i1 hrun ls hl
theorem d_Sp_clearTail_0 : decode c_Sp_clearTailb 0 = .ok (.iload_n 1, 1) := by decide +kernel
theorem d_Sp_clearTail_1 : decode c_Sp_clearTailb 1 = .ok (.bipush 126, 2) := by decide +kernel
theorem d_Sp_clearTail_3 : decode c_Sp_clearTailb 3 = .ok (.imul, 1) := by decide +kernel
theorem d_Sp_clearTail_4 : decode c_Sp_clearTailb 4 = .ok (.istore_n 2, 1) := by decide +kernel
theorem d_Sp_clearTail_5 : decode c_Sp_clearTailb 5 = .ok (.iload_n 1, 1) := by decide +kernel
theorem d_Sp_clearTail_6 : decode c_Sp_clearTailb 6 = .ok (.iconst 1, 1) := by decide +kernel
theorem d_Sp_clearTail_7 : decode c_Sp_clearTailb 7 = .ok (.isub, 1) := by decide +kernel
theorem d_Sp_clearTail_8 : decode c_Sp_clearTailb 8 = .ok (.istore_n 3, 1) := by decide +kernel
theorem d_Sp_clearTail_9 : decode c_Sp_clearTailb 9 = .ok (.iload_n 3, 1) := by decide +kernel
theorem d_Sp_clearTail_10 : decode c_Sp_clearTailb 10 = .ok (.ifCond .lt 63, 3) := by decide +kernel
theorem d_Sp_clearTail_13 : decode c_Sp_clearTailb 13 = .ok (.aload_n 0, 1) := by decide +kernel
theorem d_Sp_clearTail_14 : decode c_Sp_clearTailb 14 = .ok (.getfield 9, 3) := by decide +kernel
theorem d_Sp_clearTail_17 : decode c_Sp_clearTailb 17 = .ok (.iload_n 2, 1) := by decide +kernel
theorem d_Sp_clearTail_18 : decode c_Sp_clearTailb 18 = .ok (.iload_n 3, 1) := by decide +kernel
theorem d_Sp_clearTail_19 : decode c_Sp_clearTailb 19 = .ok (.iadd, 1) := by decide +kernel
theorem d_Sp_clearTail_20 : decode c_Sp_clearTailb 20 = .ok (.iaload, 1) := by decide +kernel
theorem d_Sp_clearTail_21 : decode c_Sp_clearTailb 21 = .ok (.istore 4, 2) := by decide +kernel
theorem d_Sp_clearTail_23 : decode c_Sp_clearTailb 23 = .ok (.iload 4, 2) := by decide +kernel
theorem d_Sp_clearTail_25 : decode c_Sp_clearTailb 25 = .ok (.ifCond .eq 42, 3) := by decide +kernel
theorem d_Sp_clearTail_28 : decode c_Sp_clearTailb 28 = .ok (.aload_n 0, 1) := by decide +kernel
theorem d_Sp_clearTail_29 : decode c_Sp_clearTailb 29 = .ok (.getfield 15, 3) := by decide +kernel
theorem d_Sp_clearTail_32 : decode c_Sp_clearTailb 32 = .ok (.iload_n 3, 1) := by decide +kernel
theorem d_Sp_clearTail_33 : decode c_Sp_clearTailb 33 = .ok (.baload, 1) := by decide +kernel
theorem d_Sp_clearTail_34 : decode c_Sp_clearTailb 34 = .ok (.ifCond .eq 33, 3) := by decide +kernel
theorem d_Sp_clearTail_37 : decode c_Sp_clearTailb 37 = .ok (.aload_n 0, 1) := by decide +kernel
theorem d_Sp_clearTail_38 : decode c_Sp_clearTailb 38 = .ok (.getfield 9, 3) := by decide +kernel
theorem d_Sp_clearTail_41 : decode c_Sp_clearTailb 41 = .ok (.iload_n 2, 1) := by decide +kernel
theorem d_Sp_clearTail_42 : decode c_Sp_clearTailb 42 = .ok (.aload_n 0, 1) := by decide +kernel
theorem d_Sp_clearTail_43 : decode c_Sp_clearTailb 43 = .ok (.getfield 9, 3) := by decide +kernel
theorem d_Sp_clearTail_46 : decode c_Sp_clearTailb 46 = .ok (.iload_n 3, 1) := by decide +kernel
theorem d_Sp_clearTail_47 : decode c_Sp_clearTailb 47 = .ok (.bipush 126, 2) := by decide +kernel
theorem d_Sp_clearTail_49 : decode c_Sp_clearTailb 49 = .ok (.imul, 1) := by decide +kernel
theorem d_Sp_clearTail_50 : decode c_Sp_clearTailb 50 = .ok (.iload_n 3, 1) := by decide +kernel
theorem d_Sp_clearTail_51 : decode c_Sp_clearTailb 51 = .ok (.iconst 1, 1) := by decide +kernel
theorem d_Sp_clearTail_52 : decode c_Sp_clearTailb 52 = .ok (.iadd, 1) := by decide +kernel
theorem d_Sp_clearTail_53 : decode c_Sp_clearTailb 53 = .ok (.aload_n 0, 1) := by decide +kernel
theorem d_Sp_clearTail_54 : decode c_Sp_clearTailb 54 = .ok (.getfield 32, 3) := by decide +kernel
theorem d_Sp_clearTail_57 : decode c_Sp_clearTailb 57 = .ok (.iload 4, 2) := by decide +kernel
theorem d_Sp_clearTail_59 : decode c_Sp_clearTailb 59 = .ok (.isub, 1) := by decide +kernel
theorem d_Sp_clearTail_60 : decode c_Sp_clearTailb 60 = .ok (.aload_n 0, 1) := by decide +kernel
theorem d_Sp_clearTail_61 : decode c_Sp_clearTailb 61 = .ok (.getfield 32, 3) := by decide +kernel
theorem d_Sp_clearTail_64 : decode c_Sp_clearTailb 64 = .ok (.invokestatic 86, 3) := by decide +kernel
theorem d_Sp_clearTail_67 : decode c_Sp_clearTailb 67 = .ok (.iinc 3 (-1), 3) := by decide +kernel
theorem d_Sp_clearTail_70 : decode c_Sp_clearTailb 70 = .ok (.goto (-61), 3) := by decide +kernel
theorem d_Sp_clearTail_73 : decode c_Sp_clearTailb 73 = .ok (.return_, 1) := by decide +kernel
abbrev ws_clearTail (a_Sp a_Sp_rows a_Sp_leads a_Mo a_Sp_kept a_Sp_work a_Sp_basis : Nat) (cI cL cZ : ClassId) (Sp_prime Sp_limit Sp_keptCount Sp_basisCount : Int32) (Sp_rows Sp_leads : Nat → Int32) : va_W := [(a_Sp, .inr (2, [.ref a_Mo, .int Sp_prime, .int Sp_limit, .ref a_Sp_rows, .ref a_Sp_leads, .ref a_Sp_kept, .int Sp_keptCount, .ref a_Sp_work, .ref a_Sp_basis, .int Sp_basisCount])), (a_Sp_rows, .inl (cI, 15876, .inl Sp_rows)), (a_Sp_leads, .inl (cZ, 126, .inl Sp_leads))]
abbrev rm_clearTail : Room := { frames := 1, cells := 0, slots := 0, locals := 28 }
abbrev g_clearTail (X : gX) (D : va_G) (cI cL cZ : ClassId) (a_Sp a_Sp_rows a_Sp_leads a_Mo a_Sp_kept a_Sp_work a_Sp_basis : Nat) (A : Nat → Prop) (Sp_prime Sp_limit Sp_keptCount Sp_basisCount : Int32) (Sp_leads Sp_rows_r : Nat → Int32) (pc : Nat) (lv : List (Nat × Value)) (st : List Value) (Sp_rows : Nat → Int32) : Prop := ∀ (H : Heap) (locs : List Loc) (ls : Array Slot), va_P D classes (ws_clearTail a_Sp a_Sp_rows a_Sp_leads a_Mo a_Sp_kept a_Sp_work a_Sp_basis cI cL cZ Sp_prime Sp_limit Sp_keptCount Sp_basisCount Sp_rows Sp_leads) H → va_D A (ws_clearTail a_Sp a_Sp_rows a_Sp_leads a_Mo a_Sp_kept a_Sp_work a_Sp_basis cI cL cZ Sp_prime Sp_limit Sp_keptCount Sp_basisCount Sp_rows Sp_leads) → va_S A (gs X).heap H locs → lv_has ls 5 lv → gWW X rm_clearTail H locs 0 0 (MQ (gbl X) (va_Qv (fun _ : Unit => True) (gB D (gT cI cL cZ) A (ws_clearTail a_Sp a_Sp_rows a_Sp_leads a_Mo a_Sp_kept a_Sp_work a_Sp_basis cI cL cZ Sp_prime Sp_limit Sp_keptCount Sp_basisCount Sp_rows_r Sp_leads)) A) (ga X) (gs X) 0 0 A) (F0 (gm X) pc ls st)
set_option maxHeartbeats 4000000 in
set_option maxRecDepth 100000 in
theorem w_clearTail_9 (X : gX) (D : va_G) (cI cL cZ : ClassId) (a_Sp a_Sp_rows a_Sp_leads a_Mo a_Sp_kept a_Sp_work a_Sp_basis : Nat) (A : Nat → Prop) (Sp_prime Sp_limit Sp_keptCount Sp_basisCount : Int32) (Sp_leads Sp_rows_r : Nat → Int32) (F : Nat) (C0 : gC X c_Sp_clearTailb none 5 "RemnantDictionary$Space" gAll) (hK : va_K D classes (gT cI cL cZ) (gs X)) (hA : ∀ q : Nat, (gs X).heap.size ≤ q → A q) (hN : gN (gs X)) (k9 : Int32 → Int32 → (Nat → Int32) → Option ((Nat → Int32))) (hk9 : ∀ (i2 i3 : Int32) (Sp_rows : Nat → Int32), k9 i2 i3 Sp_rows = some Sp_rows_r → g_clearTail X D cI cL cZ a_Sp a_Sp_rows a_Sp_leads a_Mo a_Sp_kept a_Sp_work a_Sp_basis A Sp_prime Sp_limit Sp_keptCount Sp_basisCount Sp_leads Sp_rows_r 9 [(0, .ref a_Sp), (2, .int i2), (3, .int i3)] [] Sp_rows) (i2 i3 : Int32) (Sp_rows : Nat → Int32) (hrun : s_clearTail_9 F Sp_prime Sp_leads k9 i2 i3 Sp_rows = some Sp_rows_r) : g_clearTail X D cI cL cZ a_Sp a_Sp_rows a_Sp_leads a_Mo a_Sp_kept a_Sp_work a_Sp_basis A Sp_prime Sp_limit Sp_keptCount Sp_basisCount Sp_leads Sp_rows_r 9 [(0, .ref a_Sp), (2, .int i2), (3, .int i3)] [] Sp_rows := by
  have C1 := C0
  obtain ⟨hx, hb, hr, hml, hown, hts, hlocks⟩ := C1
  unfold s_clearTail_9 at hrun
  intro H locs ls hP hD hS hl
  refine lv_iload_n hx hb d_Sp_clearTail_9 rfl (lv_at hl 2 rfl) ?_
  refine g_if_lt (tgt := 73) hx hb d_Sp_clearTail_10 (by decide) hrun (fun _ hrun => ?_) (fun _ hrun => ?_)
  · cases hrun
    exact W.vret hx hb hr (fun t ht hW => ⟨⟨(), rfl, trivial, gB_of ht hW.alike hP hK hD⟩, hS.F ht⟩) hS.2.2 d_Sp_clearTail_73
  · refine lv_aload_n hx hb d_Sp_clearTail_13 rfl (lv_at hl 0 rfl) ?_
    refine va_get (D := D) (ci := 2) (v := .ref a_Sp_rows) (C := "RemnantDictionary$Space") (T := T_Sp) (N := 10) hx hb hts iw_Sp hown hK hP 0 rfl rfl 3 (by decide) (hts _ k_81) (fun _ h9 => h9) rfl d_Sp_clearTail_14 ?_
    refine lv_iload_n hx hb d_Sp_clearTail_17 rfl (lv_at hl 1 rfl) ?_
    refine lv_iload_n hx hb d_Sp_clearTail_18 rfl (lv_at hl 2 rfl) ?_
    refine lv_iadd hx hb d_Sp_clearTail_19 ?_
    refine g_iald hx hb hK hP 1 0 rfl rfl hrun d_Sp_clearTail_20 (fun x_1 hrun => ?_)
    refine lv_istore (lv' := [(4, .int x_1), (0, .ref a_Sp), (2, .int i2), (3, .int i3)]) hx hb d_Sp_clearTail_21 hl (by decide) rfl (fun ls hl => ?_)
    refine lv_iload hx hb d_Sp_clearTail_23 (lv_at hl 0 rfl) ?_
    refine g_if_eq (tgt := 67) hx hb d_Sp_clearTail_25 (by decide) hrun (fun _ hrun => ?_) (fun _ hrun => ?_)
    · refine lv_iinc (v := (i3 + (-1))) (lv' := [(3, .int (i3 + (-1))), (4, .int x_1), (0, .ref a_Sp), (2, .int i2)]) hx hb d_Sp_clearTail_67 hl (k := 3) rfl rfl (by decide) rfl (fun ls hl => ?_)
      refine lv_goto (tgt := 9) hx hb d_Sp_clearTail_70 (by decide) ?_
      exact hk9 i2 (i3 + (-1)) Sp_rows hrun H locs ls hP hD hS (lv_sub hl [2, 3, 0] rfl)
    · refine lv_aload_n hx hb d_Sp_clearTail_28 rfl (lv_at hl 1 rfl) ?_
      refine va_get (D := D) (ci := 2) (v := .ref a_Sp_leads) (C := "RemnantDictionary$Space") (T := T_Sp) (N := 10) hx hb hts iw_Sp hown hK hP 0 rfl rfl 4 (by decide) (hts _ k_74) (fun _ h9 => h9) rfl d_Sp_clearTail_29 ?_
      refine lv_iload_n hx hb d_Sp_clearTail_32 rfl (lv_at hl 3 rfl) ?_
      refine g_zald hx hb hK hP 2 2 rfl rfl hrun d_Sp_clearTail_33 (fun x_2 hrun => ?_)
      refine g_if_eq (tgt := 67) hx hb d_Sp_clearTail_34 (by decide) hrun (fun _ hrun => ?_) (fun _ hrun => ?_)
      · refine lv_iinc (v := (i3 + (-1))) (lv' := [(3, .int (i3 + (-1))), (4, .int x_1), (0, .ref a_Sp), (2, .int i2)]) hx hb d_Sp_clearTail_67 hl (k := 3) rfl rfl (by decide) rfl (fun ls hl => ?_)
        refine lv_goto (tgt := 9) hx hb d_Sp_clearTail_70 (by decide) ?_
        exact hk9 i2 (i3 + (-1)) Sp_rows hrun H locs ls hP hD hS (lv_sub hl [2, 3, 0] rfl)
      · refine lv_aload_n hx hb d_Sp_clearTail_37 rfl (lv_at hl 1 rfl) ?_
        refine va_get (D := D) (ci := 2) (v := .ref a_Sp_rows) (C := "RemnantDictionary$Space") (T := T_Sp) (N := 10) hx hb hts iw_Sp hown hK hP 0 rfl rfl 3 (by decide) (hts _ k_81) (fun _ h9 => h9) rfl d_Sp_clearTail_38 ?_
        refine lv_iload_n hx hb d_Sp_clearTail_41 rfl (lv_at hl 2 rfl) ?_
        refine lv_aload_n hx hb d_Sp_clearTail_42 rfl (lv_at hl 1 rfl) ?_
        refine va_get (D := D) (ci := 2) (v := .ref a_Sp_rows) (C := "RemnantDictionary$Space") (T := T_Sp) (N := 10) hx hb hts iw_Sp hown hK hP 0 rfl rfl 3 (by decide) (hts _ k_81) (fun _ h9 => h9) rfl d_Sp_clearTail_43 ?_
        refine lv_iload_n hx hb d_Sp_clearTail_46 rfl (lv_at hl 3 rfl) ?_
        refine lv_bipush (v := 126) hx hb d_Sp_clearTail_47 (by decide) ?_
        refine lv_imul hx hb d_Sp_clearTail_49 ?_
        refine lv_iload_n hx hb d_Sp_clearTail_50 rfl (lv_at hl 3 rfl) ?_
        refine lv_iconst (v := 1) hx hb d_Sp_clearTail_51 (by decide) ?_
        refine lv_iadd hx hb d_Sp_clearTail_52 ?_
        refine lv_aload_n hx hb d_Sp_clearTail_53 rfl (lv_at hl 1 rfl) ?_
        refine va_get (D := D) (ci := 2) (v := .int Sp_prime) (C := "RemnantDictionary$Space") (T := T_Sp) (N := 10) hx hb hts iw_Sp hown hK hP 0 rfl rfl 1 (by decide) (hts _ k_77) (fun _ h9 => h9) rfl d_Sp_clearTail_54 ?_
        refine lv_iload hx hb d_Sp_clearTail_57 (lv_at hl 0 rfl) ?_
        refine lv_isub hx hb d_Sp_clearTail_59 ?_
        refine lv_aload_n hx hb d_Sp_clearTail_60 rfl (lv_at hl 1 rfl) ?_
        refine va_get (D := D) (ci := 2) (v := .int Sp_prime) (C := "RemnantDictionary$Space") (T := T_Sp) (N := 10) hx hb hts iw_Sp hown hK hP 0 rfl rfl 1 (by decide) (hts _ k_77) (fun _ h9 => h9) rfl d_Sp_clearTail_61 ?_
        obtain ⟨Sp_rows_3, hc, hrun⟩ := bd1_s hrun
        have hFc := va_free (wc := (ws_addMultipleS a_Sp_rows cI cL cZ 15876 Sp_rows)) hD hS hA [1] rfl
        refine va_callv (va_runSN (As := [.ref a_Sp_rows, .int i2, .ref a_Sp_rows, .int (i3 * 126), .int (i3 + 1), .int (Sp_prime - x_1), .int Sp_prime]) (rest := []) ⟨hx, hb, hml, hown, hts⟩ (c_addMultipleS (gl X) D cI cL cZ a_Sp_rows F 15876 Sp_rows i2 (i3 * 126) (i3 + 1) (Sp_prime - x_1) Sp_prime H.size Sp_rows_3 hc) (⟨va_cnB 7 hts (gwN k_9) rfl rfl rfl (hN.1 _ (List.mem_of_getElem? (i := 4) rfl)) (hts _ k_14) (by decide +kernel) ⟨Nat.le_of_ble_eq_true rfl, Nat.le_of_ble_eq_true rfl⟩, hts _ k_86, trivial⟩) (gpreSW (hP.sub (ws' := (ws_addMultipleS a_Sp_rows cI cL cZ 15876 Sp_rows)) [1] rfl) hK hN (hD.sub (ws' := (ws_addMultipleS a_Sp_rows cI cL cZ 15876 Sp_rows)) [1] (by decide) rfl)) rfl rfl hl.1 rfl (lv_room (Nat.le_of_ble_eq_true rfl)) d_Sp_clearTail_64 ⟨Nat.le_of_ble_eq_true rfl, Nat.le_of_ble_eq_true rfl⟩) hS (fun q _ h => hFc q h) hFc (fun _ t H_4 locs ht hvm hw hB hz1 hk1 hS => ?_)
        obtain ⟨hP, hD⟩ := va_join (wr := [(a_Sp, .inr (2, [.ref a_Mo, .int Sp_prime, .int Sp_limit, .ref a_Sp_rows, .ref a_Sp_leads, .ref a_Sp_kept, .int Sp_keptCount, .ref a_Sp_work, .ref a_Sp_basis, .int Sp_basisCount])), (a_Sp_leads, .inl (cZ, 126, .inl Sp_leads))]) (w1 := (ws_addMultipleS a_Sp_rows cI cL cZ 15876 Sp_rows_3)) hP hD [1] [0, 2] rfl rfl (by decide) (by decide) hk1 hFc (by have h9 := hB.1; rw [ht] at h9; exact h9) hB.2.2
        have hP : va_P D classes (ws_clearTail a_Sp a_Sp_rows a_Sp_leads a_Mo a_Sp_kept a_Sp_work a_Sp_basis cI cL cZ Sp_prime Sp_limit Sp_keptCount Sp_basisCount Sp_rows_3 Sp_leads) H_4 := hP.sub [0, 2, 1] rfl
        have hD : va_D A (ws_clearTail a_Sp a_Sp_rows a_Sp_leads a_Mo a_Sp_kept a_Sp_work a_Sp_basis cI cL cZ Sp_prime Sp_limit Sp_keptCount Sp_basisCount Sp_rows_3 Sp_leads) := hD.sub [0, 2, 1] (by decide) rfl
        refine lv_iinc (v := (i3 + (-1))) (lv' := [(3, .int (i3 + (-1))), (4, .int x_1), (0, .ref a_Sp), (2, .int i2)]) hx hb d_Sp_clearTail_67 hl (k := 3) rfl rfl (by decide) rfl (fun ls hl => ?_)
        refine lv_goto (tgt := 9) hx hb d_Sp_clearTail_70 (by decide) ?_
        exact hk9 i2 (i3 + (-1)) Sp_rows_3 hrun H_4 locs ls hP hD hS (lv_sub hl [2, 3, 0] rfl)
theorem v_clearTail_9 (X : gX) (D : va_G) (cI cL cZ : ClassId) (a_Sp a_Sp_rows a_Sp_leads a_Mo a_Sp_kept a_Sp_work a_Sp_basis : Nat) (A : Nat → Prop) (Sp_prime Sp_limit Sp_keptCount Sp_basisCount : Int32) (Sp_leads Sp_rows_r : Nat → Int32) (F : Nat) (C0 : gC X c_Sp_clearTailb none 5 "RemnantDictionary$Space" gAll) (hK : va_K D classes (gT cI cL cZ) (gs X)) (hA : ∀ q : Nat, (gs X).heap.size ≤ q → A q) (hN : gN (gs X))  : ∀ (n : Nat) (i2 i3 : Int32) (Sp_rows : Nat → Int32), b_clearTail_9 F Sp_prime Sp_leads n i2 i3 Sp_rows = some Sp_rows_r → g_clearTail X D cI cL cZ a_Sp a_Sp_rows a_Sp_leads a_Mo a_Sp_kept a_Sp_work a_Sp_basis A Sp_prime Sp_limit Sp_keptCount Sp_basisCount Sp_leads Sp_rows_r 9 [(0, .ref a_Sp), (2, .int i2), (3, .int i3)] [] Sp_rows := by
  intro n
  induction n with
  | zero => intro i2 i3 Sp_rows hrun; cases hrun
  | succ n ih =>
    intro i2 i3 Sp_rows hrun
    exact w_clearTail_9 X D cI cL cZ a_Sp a_Sp_rows a_Sp_leads a_Mo a_Sp_kept a_Sp_work a_Sp_basis A Sp_prime Sp_limit Sp_keptCount Sp_basisCount Sp_leads Sp_rows_r F C0 hK hA hN (b_clearTail_9 F Sp_prime Sp_leads n) ih i2 i3 Sp_rows hrun
set_option maxHeartbeats 4000000 in
set_option maxRecDepth 100000 in
theorem e_clearTail (X : gX) (D : va_G) (cI cL cZ : ClassId) (a_Sp a_Sp_rows a_Sp_leads a_Mo a_Sp_kept a_Sp_work a_Sp_basis : Nat) (A : Nat → Prop) (Sp_prime Sp_limit Sp_keptCount Sp_basisCount : Int32) (Sp_leads Sp_rows_r : Nat → Int32) (F : Nat) (C0 : gC X c_Sp_clearTailb none 5 "RemnantDictionary$Space" gAll) (hK : va_K D classes (gT cI cL cZ) (gs X)) (hA : ∀ q : Nat, (gs X).heap.size ≤ q → A q) (hN : gN (gs X)) (i1 : Int32) (Sp_rows : Nat → Int32) (hrun : m_clearTail F Sp_prime Sp_leads i1 Sp_rows = some Sp_rows_r) : g_clearTail X D cI cL cZ a_Sp a_Sp_rows a_Sp_leads a_Mo a_Sp_kept a_Sp_work a_Sp_basis A Sp_prime Sp_limit Sp_keptCount Sp_basisCount Sp_leads Sp_rows_r 0 [(0, .ref a_Sp), (1, .int i1)] [] Sp_rows := by
  have C1 := C0
  obtain ⟨hx, hb, hr, hml, hown, hts, hlocks⟩ := C1
  unfold m_clearTail at hrun
  intro H locs ls hP hD hS hl
  refine lv_iload_n hx hb d_Sp_clearTail_0 rfl (lv_at hl 1 rfl) ?_
  refine lv_bipush (v := 126) hx hb d_Sp_clearTail_1 (by decide) ?_
  refine lv_imul hx hb d_Sp_clearTail_3 ?_
  refine lv_istore_n (lv' := [(2, .int (i1 * 126)), (0, .ref a_Sp), (1, .int i1)]) hx hb d_Sp_clearTail_4 rfl hl (by decide) rfl (fun ls hl => ?_)
  refine lv_iload_n hx hb d_Sp_clearTail_5 rfl (lv_at hl 2 rfl) ?_
  refine lv_iconst (v := 1) hx hb d_Sp_clearTail_6 (by decide) ?_
  refine lv_isub hx hb d_Sp_clearTail_7 ?_
  refine lv_istore_n (lv' := [(3, .int (i1 - 1)), (2, .int (i1 * 126)), (0, .ref a_Sp), (1, .int i1)]) hx hb d_Sp_clearTail_8 rfl hl (by decide) rfl (fun ls hl => ?_)
  exact v_clearTail_9 X D cI cL cZ a_Sp a_Sp_rows a_Sp_leads a_Mo a_Sp_kept a_Sp_work a_Sp_basis A Sp_prime Sp_limit Sp_keptCount Sp_basisCount Sp_leads Sp_rows_r F C0 hK hA hN  F (i1 * 126) (i1 - 1) Sp_rows hrun H locs ls hP hD hS (lv_sub hl [2, 1, 0] rfl)
set_option maxHeartbeats 4000000 in
set_option maxRecDepth 100000 in
theorem c_clearTail (l : Launch) (D : va_G) (cI cL cZ : ClassId) (a_Sp a_Sp_rows a_Sp_leads a_Mo a_Sp_kept a_Sp_work a_Sp_basis : Nat) (F : Nat) (Sp_prime Sp_limit Sp_keptCount Sp_basisCount : Int32) (Sp_rows Sp_leads : Nat → Int32) (i1 : Int32) (sz : Nat) (Sp_rows_r : Nat → Int32) (hrun : m_clearTail F Sp_prime Sp_leads i1 Sp_rows = some Sp_rows_r) : Met l y_Sp_clearTail (.code y_Sp_clearTail c_Sp_clearTailb 5 none :: gAll) rm_clearTail (va_Pc [.ref a_Sp, .int i1] (gPW D (gT cI cL cZ) (ws_clearTail a_Sp a_Sp_rows a_Sp_leads a_Mo a_Sp_kept a_Sp_work a_Sp_basis cI cL cZ Sp_prime Sp_limit Sp_keptCount Sp_basisCount Sp_rows Sp_leads) sz)) (va_Qv (fun _ : Unit => True) (gB D (gT cI cL cZ) (va_A (ws_clearTail a_Sp a_Sp_rows a_Sp_leads a_Mo a_Sp_kept a_Sp_work a_Sp_basis cI cL cZ Sp_prime Sp_limit Sp_keptCount Sp_basisCount Sp_rows Sp_leads) sz) (ws_clearTail a_Sp a_Sp_rows a_Sp_leads a_Mo a_Sp_kept a_Sp_work a_Sp_basis cI cL cZ Sp_prime Sp_limit Sp_keptCount Sp_basisCount Sp_rows_r Sp_leads)) (va_A (ws_clearTail a_Sp a_Sp_rows a_Sp_leads a_Mo a_Sp_kept a_Sp_work a_Sp_basis cI cL cZ Sp_prime Sp_limit Sp_keptCount Sp_basisCount Sp_rows Sp_leads) sz)) 0 0 (va_A (ws_clearTail a_Sp a_Sp_rows a_Sp_leads a_Mo a_Sp_kept a_Sp_work a_Sp_basis cI cL cZ Sp_prime Sp_limit Sp_keptCount Sp_basisCount Sp_rows Sp_leads) sz) := by
  refine Met.ofW (cc := c_Sp_clearTailb) (maxL := 5) (ret := none) (by decide +kernel) rfl ?_
  intro p e s m args below meth c s₁ B hml hv
  obtain ⟨rfl, hsz, hP, hK, hN, hD0⟩ := hv
  subst hsz
  have hD := hD0.self (sz := s.heap.size)
  have hl := lv_entry ([.ref a_Sp, .int i1]) (n := 5) (Nat.le_of_ble_eq_true rfl)
  rw [lg_entry_eq]
  generalize (lg_sl ([.ref a_Sp, .int i1]) ++ List.replicate (5 - (lg_sl ([.ref a_Sp, .int i1])).length) Slot.unset).toArray = ls at hl ⊢
  exact e_clearTail (p, l, e, s, m, ([.ref a_Sp, .int i1] : List Value).toArray, below, meth, c) D cI cL cZ a_Sp a_Sp_rows a_Sp_leads a_Mo a_Sp_kept a_Sp_work a_Sp_basis (va_A (ws_clearTail a_Sp a_Sp_rows a_Sp_leads a_Mo a_Sp_kept a_Sp_work a_Sp_basis cI cL cZ Sp_prime Sp_limit Sp_keptCount Sp_basisCount Sp_rows Sp_leads) s.heap.size) Sp_prime Sp_limit Sp_keptCount Sp_basisCount Sp_leads Sp_rows_r F ⟨B.exec, B.bytes, B.returns, hml, findClass_of_methodNamed B.named, fun w h => atoms_spec (ws := (.code y_Sp_clearTail c_Sp_clearTailb 5 none :: gAll)) B.pre w (List.mem_cons_of_mem _ h), B.notSynchronized⟩ hK (fun q h => Or.inr h) hN i1 Sp_rows hrun s.heap [] ls hP hD va_S.rf hl
theorem d_Sp_pickBasis_0 : decode c_Sp_pickBasisb 0 = .ok (.iconst 0, 1) := by decide +kernel
theorem d_Sp_pickBasis_1 : decode c_Sp_pickBasisb 1 = .ok (.istore_n 1, 1) := by decide +kernel
theorem d_Sp_pickBasis_2 : decode c_Sp_pickBasisb 2 = .ok (.iload_n 1, 1) := by decide +kernel
theorem d_Sp_pickBasis_3 : decode c_Sp_pickBasisb 3 = .ok (.aload_n 0, 1) := by decide +kernel
theorem d_Sp_pickBasis_4 : decode c_Sp_pickBasisb 4 = .ok (.getfield 28, 3) := by decide +kernel
theorem d_Sp_pickBasis_7 : decode c_Sp_pickBasisb 7 = .ok (.getfield 51, 3) := by decide +kernel
theorem d_Sp_pickBasis_10 : decode c_Sp_pickBasisb 10 = .ok (.if_icmp .ge 68, 3) := by decide +kernel
theorem d_Sp_pickBasis_13 : decode c_Sp_pickBasisb 13 = .ok (.aload_n 0, 1) := by decide +kernel
theorem d_Sp_pickBasis_14 : decode c_Sp_pickBasisb 14 = .ok (.getfield 42, 3) := by decide +kernel
theorem d_Sp_pickBasis_17 : decode c_Sp_pickBasisb 17 = .ok (.bipush 126, 2) := by decide +kernel
theorem d_Sp_pickBasis_19 : decode c_Sp_pickBasisb 19 = .ok (.if_icmp .ge 59, 3) := by decide +kernel
theorem d_Sp_pickBasis_22 : decode c_Sp_pickBasisb 22 = .ok (.aload_n 0, 1) := by decide +kernel
theorem d_Sp_pickBasis_23 : decode c_Sp_pickBasisb 23 = .ok (.getfield 15, 3) := by decide +kernel
theorem d_Sp_pickBasis_26 : decode c_Sp_pickBasisb 26 = .ok (.iload_n 1, 1) := by decide +kernel
theorem d_Sp_pickBasis_27 : decode c_Sp_pickBasisb 27 = .ok (.baload, 1) := by decide +kernel
theorem d_Sp_pickBasis_28 : decode c_Sp_pickBasisb 28 = .ok (.ifCond .eq 44, 3) := by decide +kernel
theorem d_Sp_pickBasis_31 : decode c_Sp_pickBasisb 31 = .ok (.aload_n 0, 1) := by decide +kernel
theorem d_Sp_pickBasis_32 : decode c_Sp_pickBasisb 32 = .ok (.aload_n 0, 1) := by decide +kernel
theorem d_Sp_pickBasis_33 : decode c_Sp_pickBasisb 33 = .ok (.getfield 28, 3) := by decide +kernel
theorem d_Sp_pickBasis_36 : decode c_Sp_pickBasisb 36 = .ok (.getfield 97, 3) := by decide +kernel
theorem d_Sp_pickBasis_39 : decode c_Sp_pickBasisb 39 = .ok (.iload_n 1, 1) := by decide +kernel
theorem d_Sp_pickBasis_40 : decode c_Sp_pickBasisb 40 = .ok (.iaload, 1) := by decide +kernel
theorem d_Sp_pickBasis_41 : decode c_Sp_pickBasisb 41 = .ok (.invokevirtual 100, 3) := by decide +kernel
theorem d_Sp_pickBasis_44 : decode c_Sp_pickBasisb 44 = .ok (.ifCond .ne 28, 3) := by decide +kernel
theorem d_Sp_pickBasis_47 : decode c_Sp_pickBasisb 47 = .ok (.aload_n 0, 1) := by decide +kernel
theorem d_Sp_pickBasis_48 : decode c_Sp_pickBasisb 48 = .ok (.getfield 25, 3) := by decide +kernel
theorem d_Sp_pickBasis_51 : decode c_Sp_pickBasisb 51 = .ok (.aload_n 0, 1) := by decide +kernel
theorem d_Sp_pickBasis_52 : decode c_Sp_pickBasisb 52 = .ok (.getfield 42, 3) := by decide +kernel
theorem d_Sp_pickBasis_55 : decode c_Sp_pickBasisb 55 = .ok (.iload_n 1, 1) := by decide +kernel
theorem d_Sp_pickBasis_56 : decode c_Sp_pickBasisb 56 = .ok (.iastore, 1) := by decide +kernel
theorem d_Sp_pickBasis_57 : decode c_Sp_pickBasisb 57 = .ok (.aload_n 0, 1) := by decide +kernel
theorem d_Sp_pickBasis_58 : decode c_Sp_pickBasisb 58 = .ok (.dup, 1) := by decide +kernel
theorem d_Sp_pickBasis_59 : decode c_Sp_pickBasisb 59 = .ok (.getfield 42, 3) := by decide +kernel
theorem d_Sp_pickBasis_62 : decode c_Sp_pickBasisb 62 = .ok (.iconst 1, 1) := by decide +kernel
theorem d_Sp_pickBasis_63 : decode c_Sp_pickBasisb 63 = .ok (.iadd, 1) := by decide +kernel
theorem d_Sp_pickBasis_64 : decode c_Sp_pickBasisb 64 = .ok (.putfield 42, 3) := by decide +kernel
theorem d_Sp_pickBasis_67 : decode c_Sp_pickBasisb 67 = .ok (.aload_n 0, 1) := by decide +kernel
theorem d_Sp_pickBasis_68 : decode c_Sp_pickBasisb 68 = .ok (.iload_n 1, 1) := by decide +kernel
theorem d_Sp_pickBasis_69 : decode c_Sp_pickBasisb 69 = .ok (.invokevirtual 104, 3) := by decide +kernel
theorem d_Sp_pickBasis_72 : decode c_Sp_pickBasisb 72 = .ok (.iinc 1 1, 3) := by decide +kernel
theorem d_Sp_pickBasis_75 : decode c_Sp_pickBasisb 75 = .ok (.goto (-73), 3) := by decide +kernel
theorem d_Sp_pickBasis_78 : decode c_Sp_pickBasisb 78 = .ok (.return_, 1) := by decide +kernel
abbrev ws_pickBasis (a_Mo a_Sp a_Mo_codes a_Sp_rows a_Sp_leads a_Sp_basis a_Mo_degrees a_Mo_keys a_Mo_raised a_Sp_kept a_Sp_work : Nat) (cI cL cZ : ClassId) (Mo_variables Mo_order Mo_highest Mo_count Sp_prime Sp_limit Sp_keptCount Sp_basisCount : Int32) (Mo_codes Sp_rows Sp_leads Sp_basis : Nat → Int32) : va_W := [(a_Mo, .inr (1, [.int Mo_variables, .int Mo_order, .int Mo_highest, .int Mo_count, .ref a_Mo_codes, .ref a_Mo_degrees, .ref a_Mo_keys, .ref a_Mo_raised])), (a_Sp, .inr (2, [.ref a_Mo, .int Sp_prime, .int Sp_limit, .ref a_Sp_rows, .ref a_Sp_leads, .ref a_Sp_kept, .int Sp_keptCount, .ref a_Sp_work, .ref a_Sp_basis, .int Sp_basisCount])), (a_Mo_codes, .inl (cI, 126, .inl Mo_codes)), (a_Sp_rows, .inl (cI, 15876, .inl Sp_rows)), (a_Sp_leads, .inl (cZ, 126, .inl Sp_leads)), (a_Sp_basis, .inl (cI, 126, .inl Sp_basis))]
abbrev rm_pickBasis : Room := { frames := 3, cells := 0, slots := 0, locals := 65 }
abbrev g_pickBasis (X : gX) (D : va_G) (cI cL cZ : ClassId) (a_Mo a_Sp a_Mo_codes a_Sp_rows a_Sp_leads a_Sp_basis a_Mo_degrees a_Mo_keys a_Mo_raised a_Sp_kept a_Sp_work : Nat) (A : Nat → Prop) (Mo_variables Mo_order Mo_highest Mo_count Sp_prime Sp_limit Sp_keptCount : Int32) (Mo_codes Sp_leads : Nat → Int32) (Sp_basisCount_r : Int32) (Sp_rows_r Sp_basis_r : Nat → Int32) (pc : Nat) (lv : List (Nat × Value)) (st : List Value) (Sp_basisCount : Int32) (Sp_rows Sp_basis : Nat → Int32) : Prop := ∀ (H : Heap) (locs : List Loc) (ls : Array Slot), va_P D classes (ws_pickBasis a_Mo a_Sp a_Mo_codes a_Sp_rows a_Sp_leads a_Sp_basis a_Mo_degrees a_Mo_keys a_Mo_raised a_Sp_kept a_Sp_work cI cL cZ Mo_variables Mo_order Mo_highest Mo_count Sp_prime Sp_limit Sp_keptCount Sp_basisCount Mo_codes Sp_rows Sp_leads Sp_basis) H → va_D A (ws_pickBasis a_Mo a_Sp a_Mo_codes a_Sp_rows a_Sp_leads a_Sp_basis a_Mo_degrees a_Mo_keys a_Mo_raised a_Sp_kept a_Sp_work cI cL cZ Mo_variables Mo_order Mo_highest Mo_count Sp_prime Sp_limit Sp_keptCount Sp_basisCount Mo_codes Sp_rows Sp_leads Sp_basis) → va_S A (gs X).heap H locs → lv_has ls 2 lv → gWW X rm_pickBasis H locs 0 0 (MQ (gbl X) (va_Qv (fun _ : Unit => True) (gB D (gT cI cL cZ) A (ws_pickBasis a_Mo a_Sp a_Mo_codes a_Sp_rows a_Sp_leads a_Sp_basis a_Mo_degrees a_Mo_keys a_Mo_raised a_Sp_kept a_Sp_work cI cL cZ Mo_variables Mo_order Mo_highest Mo_count Sp_prime Sp_limit Sp_keptCount Sp_basisCount_r Mo_codes Sp_rows_r Sp_leads Sp_basis_r)) A) (ga X) (gs X) 0 0 A) (F0 (gm X) pc ls st)
set_option maxHeartbeats 4000000 in
set_option maxRecDepth 100000 in
theorem w_pickBasis_2 (X : gX) (D : va_G) (cI cL cZ : ClassId) (a_Mo a_Sp a_Mo_codes a_Sp_rows a_Sp_leads a_Sp_basis a_Mo_degrees a_Mo_keys a_Mo_raised a_Sp_kept a_Sp_work : Nat) (A : Nat → Prop) (Mo_variables Mo_order Mo_highest Mo_count Sp_prime Sp_limit Sp_keptCount : Int32) (Mo_codes Sp_leads : Nat → Int32) (Sp_basisCount_r : Int32) (Sp_rows_r Sp_basis_r : Nat → Int32) (F : Nat) (C0 : gC X c_Sp_pickBasisb none 2 "RemnantDictionary$Space" gAll) (hK : va_K D classes (gT cI cL cZ) (gs X)) (hA : ∀ q : Nat, (gs X).heap.size ≤ q → A q) (hN : gN (gs X)) (k2 : Int32 → Int32 → (Nat → Int32) → (Nat → Int32) → Option (Int32 × (Nat → Int32) × (Nat → Int32))) (hk2 : ∀ (i1 Sp_basisCount : Int32) (Sp_rows Sp_basis : Nat → Int32), k2 i1 Sp_basisCount Sp_rows Sp_basis = some (Sp_basisCount_r, Sp_rows_r, Sp_basis_r) → g_pickBasis X D cI cL cZ a_Mo a_Sp a_Mo_codes a_Sp_rows a_Sp_leads a_Sp_basis a_Mo_degrees a_Mo_keys a_Mo_raised a_Sp_kept a_Sp_work A Mo_variables Mo_order Mo_highest Mo_count Sp_prime Sp_limit Sp_keptCount Mo_codes Sp_leads Sp_basisCount_r Sp_rows_r Sp_basis_r 2 [(0, .ref a_Sp), (1, .int i1)] [] Sp_basisCount Sp_rows Sp_basis) (i1 Sp_basisCount : Int32) (Sp_rows Sp_basis : Nat → Int32) (hrun : s_pickBasis_2 F Mo_count Sp_prime Mo_codes Sp_leads k2 i1 Sp_basisCount Sp_rows Sp_basis = some (Sp_basisCount_r, Sp_rows_r, Sp_basis_r)) : g_pickBasis X D cI cL cZ a_Mo a_Sp a_Mo_codes a_Sp_rows a_Sp_leads a_Sp_basis a_Mo_degrees a_Mo_keys a_Mo_raised a_Sp_kept a_Sp_work A Mo_variables Mo_order Mo_highest Mo_count Sp_prime Sp_limit Sp_keptCount Mo_codes Sp_leads Sp_basisCount_r Sp_rows_r Sp_basis_r 2 [(0, .ref a_Sp), (1, .int i1)] [] Sp_basisCount Sp_rows Sp_basis := by
  have C1 := C0
  obtain ⟨hx, hb, hr, hml, hown, hts, hlocks⟩ := C1
  unfold s_pickBasis_2 at hrun
  intro H locs ls hP hD hS hl
  refine lv_iload_n hx hb d_Sp_pickBasis_2 rfl (lv_at hl 1 rfl) ?_
  refine lv_aload_n hx hb d_Sp_pickBasis_3 rfl (lv_at hl 0 rfl) ?_
  refine va_get (D := D) (ci := 2) (v := .ref a_Mo) (C := "RemnantDictionary$Space") (T := T_Sp) (N := 10) hx hb hts iw_Sp hown hK hP 1 rfl rfl 0 (by decide) (hts _ k_94) (fun _ h9 => h9) rfl d_Sp_pickBasis_4 ?_
  refine va_get (D := D) (ci := 1) (v := .int Mo_count) (C := "RemnantDictionary$Monomials") (T := T_Mo) (N := 8) hx hb hts iw_Mo hown hK hP 0 rfl rfl 3 (by decide) (hts _ k_95) (fun _ h9 => h9) rfl d_Sp_pickBasis_7 ?_
  refine g_icmp_ge (tgt := 78) hx hb d_Sp_pickBasis_10 (by decide) hrun (fun _ hrun => ?_) (fun _ hrun => ?_)
  · cases hrun
    exact W.vret hx hb hr (fun t ht hW => ⟨⟨(), rfl, trivial, gB_of ht hW.alike hP hK hD⟩, hS.F ht⟩) hS.2.2 d_Sp_pickBasis_78
  · refine lv_aload_n hx hb d_Sp_pickBasis_13 rfl (lv_at hl 0 rfl) ?_
    refine va_get (D := D) (ci := 2) (v := .int Sp_basisCount) (C := "RemnantDictionary$Space") (T := T_Sp) (N := 10) hx hb hts iw_Sp hown hK hP 1 rfl rfl 9 (by decide) (hts _ k_80) (fun _ h9 => h9) rfl d_Sp_pickBasis_14 ?_
    refine lv_bipush (v := 126) hx hb d_Sp_pickBasis_17 (by decide) ?_
    refine g_icmp_ge (tgt := 78) hx hb d_Sp_pickBasis_19 (by decide) hrun (fun _ hrun => ?_) (fun _ hrun => ?_)
    · cases hrun
      exact W.vret hx hb hr (fun t ht hW => ⟨⟨(), rfl, trivial, gB_of ht hW.alike hP hK hD⟩, hS.F ht⟩) hS.2.2 d_Sp_pickBasis_78
    · refine lv_aload_n hx hb d_Sp_pickBasis_22 rfl (lv_at hl 0 rfl) ?_
      refine va_get (D := D) (ci := 2) (v := .ref a_Sp_leads) (C := "RemnantDictionary$Space") (T := T_Sp) (N := 10) hx hb hts iw_Sp hown hK hP 1 rfl rfl 4 (by decide) (hts _ k_74) (fun _ h9 => h9) rfl d_Sp_pickBasis_23 ?_
      refine lv_iload_n hx hb d_Sp_pickBasis_26 rfl (lv_at hl 1 rfl) ?_
      refine g_zald hx hb hK hP 4 2 rfl rfl hrun d_Sp_pickBasis_27 (fun x_1 hrun => ?_)
      refine g_if_eq (tgt := 72) hx hb d_Sp_pickBasis_28 (by decide) hrun (fun _ hrun => ?_) (fun _ hrun => ?_)
      · refine lv_iinc (v := (i1 + 1)) (lv' := [(1, .int (i1 + 1)), (0, .ref a_Sp)]) hx hb d_Sp_pickBasis_72 hl (k := 1) rfl rfl (by decide) rfl (fun ls hl => ?_)
        refine lv_goto (tgt := 2) hx hb d_Sp_pickBasis_75 (by decide) ?_
        exact hk2 (i1 + 1) Sp_basisCount Sp_rows Sp_basis hrun H locs ls hP hD hS (lv_sub hl [1, 0] rfl)
      · refine lv_aload_n hx hb d_Sp_pickBasis_31 rfl (lv_at hl 0 rfl) ?_
        refine lv_aload_n hx hb d_Sp_pickBasis_32 rfl (lv_at hl 0 rfl) ?_
        refine va_get (D := D) (ci := 2) (v := .ref a_Mo) (C := "RemnantDictionary$Space") (T := T_Sp) (N := 10) hx hb hts iw_Sp hown hK hP 1 rfl rfl 0 (by decide) (hts _ k_94) (fun _ h9 => h9) rfl d_Sp_pickBasis_33 ?_
        refine va_get (D := D) (ci := 1) (v := .ref a_Mo_codes) (C := "RemnantDictionary$Monomials") (T := T_Mo) (N := 8) hx hb hts iw_Mo hown hK hP 0 rfl rfl 4 (by decide) (hts _ k_117) (fun _ h9 => h9) rfl d_Sp_pickBasis_36 ?_
        refine lv_iload_n hx hb d_Sp_pickBasis_39 rfl (lv_at hl 1 rfl) ?_
        refine g_iald hx hb hK hP 2 0 rfl rfl hrun d_Sp_pickBasis_40 (fun x_2 hrun => ?_)
        obtain ⟨r_3, hc, hrun⟩ := bd1_s hrun
        refine vp_callSi (W.runV (As := [.int x_2]) (rest := []) ⟨hx, hb, hml, hown, hts⟩ (c_hasLead (gl X) D cI cL cZ a_Mo a_Sp a_Mo_codes a_Sp_basis a_Mo_degrees a_Mo_keys a_Mo_raised a_Sp_rows a_Sp_leads a_Sp_kept a_Sp_work F Mo_variables Mo_order Mo_highest Mo_count Sp_prime Sp_limit Sp_keptCount Sp_basisCount Mo_codes Sp_basis x_2 r_3 hc) (cwV 1 hts (gwV k_124 k_122 k_123 k_91 k_120) rfl rfl rfl (by decide +kernel) ⟨Nat.le_of_ble_eq_true rfl, Nat.le_of_ble_eq_true rfl⟩) (gpreV (hP.sub (ws' := (ws_hasLead a_Mo a_Sp a_Mo_codes a_Sp_basis a_Mo_degrees a_Mo_keys a_Mo_raised a_Sp_rows a_Sp_leads a_Sp_kept a_Sp_work cI cL cZ Mo_variables Mo_order Mo_highest Mo_count Sp_prime Sp_limit Sp_keptCount Sp_basisCount Mo_codes Sp_basis)) [0, 1, 2, 5] rfl) hK hN 2 1 rfl rfl) rfl rfl hl.1 rfl (lv_room (Nat.le_of_ble_eq_true rfl)) d_Sp_pickBasis_41 ⟨Nat.le_of_ble_eq_true rfl, Nat.le_of_ble_eq_true rfl⟩) (nm_e ?_)
        refine g_if_ne (tgt := 72) hx hb d_Sp_pickBasis_44 (by decide) hrun (fun _ hrun => ?_) (fun _ hrun => ?_)
        · refine lv_iinc (v := (i1 + 1)) (lv' := [(1, .int (i1 + 1)), (0, .ref a_Sp)]) hx hb d_Sp_pickBasis_72 hl (k := 1) rfl rfl (by decide) rfl (fun ls hl => ?_)
          refine lv_goto (tgt := 2) hx hb d_Sp_pickBasis_75 (by decide) ?_
          exact hk2 (i1 + 1) Sp_basisCount Sp_rows Sp_basis hrun H locs ls hP hD hS (lv_sub hl [1, 0] rfl)
        · refine lv_aload_n hx hb d_Sp_pickBasis_47 rfl (lv_at hl 0 rfl) ?_
          refine va_get (D := D) (ci := 2) (v := .ref a_Sp_basis) (C := "RemnantDictionary$Space") (T := T_Sp) (N := 10) hx hb hts iw_Sp hown hK hP 1 rfl rfl 8 (by decide) (hts _ k_118) (fun _ h9 => h9) rfl d_Sp_pickBasis_48 ?_
          refine lv_aload_n hx hb d_Sp_pickBasis_51 rfl (lv_at hl 0 rfl) ?_
          refine va_get (D := D) (ci := 2) (v := .int Sp_basisCount) (C := "RemnantDictionary$Space") (T := T_Sp) (N := 10) hx hb hts iw_Sp hown hK hP 1 rfl rfl 9 (by decide) (hts _ k_80) (fun _ h9 => h9) rfl d_Sp_pickBasis_52 ?_
          refine lv_iload_n hx hb d_Sp_pickBasis_55 rfl (lv_at hl 1 rfl) ?_
          refine g_iast hx hb hK hP hD hS 5 0 rfl rfl hrun d_Sp_pickBasis_56 (fun Sp_basis_4 hrun H locs (hP : va_P D classes (ws_pickBasis a_Mo a_Sp a_Mo_codes a_Sp_rows a_Sp_leads a_Sp_basis a_Mo_degrees a_Mo_keys a_Mo_raised a_Sp_kept a_Sp_work cI cL cZ Mo_variables Mo_order Mo_highest Mo_count Sp_prime Sp_limit Sp_keptCount Sp_basisCount Mo_codes Sp_rows Sp_leads Sp_basis_4) H) (hD : va_D A (ws_pickBasis a_Mo a_Sp a_Mo_codes a_Sp_rows a_Sp_leads a_Sp_basis a_Mo_degrees a_Mo_keys a_Mo_raised a_Sp_kept a_Sp_work cI cL cZ Mo_variables Mo_order Mo_highest Mo_count Sp_prime Sp_limit Sp_keptCount Sp_basisCount Mo_codes Sp_rows Sp_leads Sp_basis_4)) hS => ?_)
          refine lv_aload_n hx hb d_Sp_pickBasis_57 rfl (lv_at hl 0 rfl) ?_
          refine lv_dup hx hb d_Sp_pickBasis_58 rfl ?_
          refine va_get (D := D) (ci := 2) (v := .int Sp_basisCount) (C := "RemnantDictionary$Space") (T := T_Sp) (N := 10) hx hb hts iw_Sp hown hK hP 1 rfl rfl 9 (by decide) (hts _ k_80) (fun _ h9 => h9) rfl d_Sp_pickBasis_59 ?_
          refine lv_iconst (v := 1) hx hb d_Sp_pickBasis_62 (by decide) ?_
          refine lv_iadd hx hb d_Sp_pickBasis_63 ?_
          refine va_put (D := D) (ci := 2) (v := .int (Sp_basisCount + 1)) (ty := .int) (C := "RemnantDictionary$Space") (T := T_Sp) (N := 10) hx hb hts iw_Sp ty_Sp ty_Sp_ok nm_Sp hown hK hP hD hS 1 rfl rfl 9 (by decide) (hts _ k_80) (fun _ h9 => h9) rfl (by decide +kernel) rfl rfl (Nat.le_of_ble_eq_true rfl) d_Sp_pickBasis_64 (fun H locs (hP : va_P D classes (ws_pickBasis a_Mo a_Sp a_Mo_codes a_Sp_rows a_Sp_leads a_Sp_basis a_Mo_degrees a_Mo_keys a_Mo_raised a_Sp_kept a_Sp_work cI cL cZ Mo_variables Mo_order Mo_highest Mo_count Sp_prime Sp_limit Sp_keptCount (Sp_basisCount + 1) Mo_codes Sp_rows Sp_leads Sp_basis_4) H) (hD : va_D A (ws_pickBasis a_Mo a_Sp a_Mo_codes a_Sp_rows a_Sp_leads a_Sp_basis a_Mo_degrees a_Mo_keys a_Mo_raised a_Sp_kept a_Sp_work cI cL cZ Mo_variables Mo_order Mo_highest Mo_count Sp_prime Sp_limit Sp_keptCount (Sp_basisCount + 1) Mo_codes Sp_rows Sp_leads Sp_basis_4)) hS => ?_)
          refine lv_aload_n hx hb d_Sp_pickBasis_67 rfl (lv_at hl 0 rfl) ?_
          refine lv_iload_n hx hb d_Sp_pickBasis_68 rfl (lv_at hl 1 rfl) ?_
          obtain ⟨Sp_rows_5, hc, hrun⟩ := bd1_s hrun
          have hFc := va_free (wc := (ws_clearTail a_Sp a_Sp_rows a_Sp_leads a_Mo a_Sp_kept a_Sp_work a_Sp_basis cI cL cZ Sp_prime Sp_limit Sp_keptCount (Sp_basisCount + 1) Sp_rows Sp_leads)) hD hS hA [1, 3, 4] rfl
          refine va_callv (va_runV (As := [.int i1]) (rest := []) ⟨hx, hb, hml, hown, hts⟩ (c_clearTail (gl X) D cI cL cZ a_Sp a_Sp_rows a_Sp_leads a_Mo a_Sp_kept a_Sp_work a_Sp_basis F Sp_prime Sp_limit Sp_keptCount (Sp_basisCount + 1) Sp_rows Sp_leads i1 H.size Sp_rows_5 hc) (cwV 1 hts (gwV k_127 k_125 k_126 k_91 k_121) rfl rfl rfl (by decide +kernel) ⟨Nat.le_of_ble_eq_true rfl, Nat.le_of_ble_eq_true rfl⟩) (gpreVW (hP.sub (ws' := (ws_clearTail a_Sp a_Sp_rows a_Sp_leads a_Mo a_Sp_kept a_Sp_work a_Sp_basis cI cL cZ Sp_prime Sp_limit Sp_keptCount (Sp_basisCount + 1) Sp_rows Sp_leads)) [1, 3, 4] rfl) hK hN (hD.sub (ws' := (ws_clearTail a_Sp a_Sp_rows a_Sp_leads a_Mo a_Sp_kept a_Sp_work a_Sp_basis cI cL cZ Sp_prime Sp_limit Sp_keptCount (Sp_basisCount + 1) Sp_rows Sp_leads)) [1, 3, 4] (by decide) rfl) 2 0 rfl rfl) rfl rfl hl.1 rfl (lv_room (Nat.le_of_ble_eq_true rfl)) d_Sp_pickBasis_69 ⟨Nat.le_of_ble_eq_true rfl, Nat.le_of_ble_eq_true rfl⟩) hS (fun q _ h => hFc q h) hFc (fun _ t H_6 locs ht hvm hw hB hz1 hk1 hS => ?_)
          obtain ⟨hP, hD⟩ := va_join (wr := [(a_Mo, .inr (1, [.int Mo_variables, .int Mo_order, .int Mo_highest, .int Mo_count, .ref a_Mo_codes, .ref a_Mo_degrees, .ref a_Mo_keys, .ref a_Mo_raised])), (a_Mo_codes, .inl (cI, 126, .inl Mo_codes)), (a_Sp_basis, .inl (cI, 126, .inl Sp_basis_4))]) (w1 := (ws_clearTail a_Sp a_Sp_rows a_Sp_leads a_Mo a_Sp_kept a_Sp_work a_Sp_basis cI cL cZ Sp_prime Sp_limit Sp_keptCount (Sp_basisCount + 1) Sp_rows_5 Sp_leads)) hP hD [1, 3, 4] [0, 2, 5] rfl rfl (by decide) (by decide) hk1 hFc (by have h9 := hB.1; rw [ht] at h9; exact h9) hB.2.2
          have hP : va_P D classes (ws_pickBasis a_Mo a_Sp a_Mo_codes a_Sp_rows a_Sp_leads a_Sp_basis a_Mo_degrees a_Mo_keys a_Mo_raised a_Sp_kept a_Sp_work cI cL cZ Mo_variables Mo_order Mo_highest Mo_count Sp_prime Sp_limit Sp_keptCount (Sp_basisCount + 1) Mo_codes Sp_rows_5 Sp_leads Sp_basis_4) H_6 := hP.sub [0, 3, 1, 4, 5, 2] rfl
          have hD : va_D A (ws_pickBasis a_Mo a_Sp a_Mo_codes a_Sp_rows a_Sp_leads a_Sp_basis a_Mo_degrees a_Mo_keys a_Mo_raised a_Sp_kept a_Sp_work cI cL cZ Mo_variables Mo_order Mo_highest Mo_count Sp_prime Sp_limit Sp_keptCount (Sp_basisCount + 1) Mo_codes Sp_rows_5 Sp_leads Sp_basis_4) := hD.sub [0, 3, 1, 4, 5, 2] (by decide) rfl
          refine lv_iinc (v := (i1 + 1)) (lv' := [(1, .int (i1 + 1)), (0, .ref a_Sp)]) hx hb d_Sp_pickBasis_72 hl (k := 1) rfl rfl (by decide) rfl (fun ls hl => ?_)
          refine lv_goto (tgt := 2) hx hb d_Sp_pickBasis_75 (by decide) ?_
          exact hk2 (i1 + 1) (Sp_basisCount + 1) Sp_rows_5 Sp_basis_4 hrun H_6 locs ls hP hD hS (lv_sub hl [1, 0] rfl)
theorem v_pickBasis_2 (X : gX) (D : va_G) (cI cL cZ : ClassId) (a_Mo a_Sp a_Mo_codes a_Sp_rows a_Sp_leads a_Sp_basis a_Mo_degrees a_Mo_keys a_Mo_raised a_Sp_kept a_Sp_work : Nat) (A : Nat → Prop) (Mo_variables Mo_order Mo_highest Mo_count Sp_prime Sp_limit Sp_keptCount : Int32) (Mo_codes Sp_leads : Nat → Int32) (Sp_basisCount_r : Int32) (Sp_rows_r Sp_basis_r : Nat → Int32) (F : Nat) (C0 : gC X c_Sp_pickBasisb none 2 "RemnantDictionary$Space" gAll) (hK : va_K D classes (gT cI cL cZ) (gs X)) (hA : ∀ q : Nat, (gs X).heap.size ≤ q → A q) (hN : gN (gs X))  : ∀ (n : Nat) (i1 Sp_basisCount : Int32) (Sp_rows Sp_basis : Nat → Int32), b_pickBasis_2 F Mo_count Sp_prime Mo_codes Sp_leads n i1 Sp_basisCount Sp_rows Sp_basis = some (Sp_basisCount_r, Sp_rows_r, Sp_basis_r) → g_pickBasis X D cI cL cZ a_Mo a_Sp a_Mo_codes a_Sp_rows a_Sp_leads a_Sp_basis a_Mo_degrees a_Mo_keys a_Mo_raised a_Sp_kept a_Sp_work A Mo_variables Mo_order Mo_highest Mo_count Sp_prime Sp_limit Sp_keptCount Mo_codes Sp_leads Sp_basisCount_r Sp_rows_r Sp_basis_r 2 [(0, .ref a_Sp), (1, .int i1)] [] Sp_basisCount Sp_rows Sp_basis := by
  intro n
  induction n with
  | zero => intro i1 Sp_basisCount Sp_rows Sp_basis hrun; cases hrun
  | succ n ih =>
    intro i1 Sp_basisCount Sp_rows Sp_basis hrun
    exact w_pickBasis_2 X D cI cL cZ a_Mo a_Sp a_Mo_codes a_Sp_rows a_Sp_leads a_Sp_basis a_Mo_degrees a_Mo_keys a_Mo_raised a_Sp_kept a_Sp_work A Mo_variables Mo_order Mo_highest Mo_count Sp_prime Sp_limit Sp_keptCount Mo_codes Sp_leads Sp_basisCount_r Sp_rows_r Sp_basis_r F C0 hK hA hN (b_pickBasis_2 F Mo_count Sp_prime Mo_codes Sp_leads n) ih i1 Sp_basisCount Sp_rows Sp_basis hrun
set_option maxHeartbeats 4000000 in
set_option maxRecDepth 100000 in
theorem e_pickBasis (X : gX) (D : va_G) (cI cL cZ : ClassId) (a_Mo a_Sp a_Mo_codes a_Sp_rows a_Sp_leads a_Sp_basis a_Mo_degrees a_Mo_keys a_Mo_raised a_Sp_kept a_Sp_work : Nat) (A : Nat → Prop) (Mo_variables Mo_order Mo_highest Mo_count Sp_prime Sp_limit Sp_keptCount : Int32) (Mo_codes Sp_leads : Nat → Int32) (Sp_basisCount_r : Int32) (Sp_rows_r Sp_basis_r : Nat → Int32) (F : Nat) (C0 : gC X c_Sp_pickBasisb none 2 "RemnantDictionary$Space" gAll) (hK : va_K D classes (gT cI cL cZ) (gs X)) (hA : ∀ q : Nat, (gs X).heap.size ≤ q → A q) (hN : gN (gs X)) (Sp_basisCount : Int32) (Sp_rows Sp_basis : Nat → Int32) (hrun : m_pickBasis F Mo_count Sp_prime Mo_codes Sp_leads Sp_basisCount Sp_rows Sp_basis = some (Sp_basisCount_r, Sp_rows_r, Sp_basis_r)) : g_pickBasis X D cI cL cZ a_Mo a_Sp a_Mo_codes a_Sp_rows a_Sp_leads a_Sp_basis a_Mo_degrees a_Mo_keys a_Mo_raised a_Sp_kept a_Sp_work A Mo_variables Mo_order Mo_highest Mo_count Sp_prime Sp_limit Sp_keptCount Mo_codes Sp_leads Sp_basisCount_r Sp_rows_r Sp_basis_r 0 [(0, .ref a_Sp)] [] Sp_basisCount Sp_rows Sp_basis := by
  have C1 := C0
  obtain ⟨hx, hb, hr, hml, hown, hts, hlocks⟩ := C1
  unfold m_pickBasis at hrun
  intro H locs ls hP hD hS hl
  refine lv_iconst (v := 0) hx hb d_Sp_pickBasis_0 (by decide) ?_
  refine lv_istore_n (lv' := [(1, .int 0), (0, .ref a_Sp)]) hx hb d_Sp_pickBasis_1 rfl hl (by decide) rfl (fun ls hl => ?_)
  exact v_pickBasis_2 X D cI cL cZ a_Mo a_Sp a_Mo_codes a_Sp_rows a_Sp_leads a_Sp_basis a_Mo_degrees a_Mo_keys a_Mo_raised a_Sp_kept a_Sp_work A Mo_variables Mo_order Mo_highest Mo_count Sp_prime Sp_limit Sp_keptCount Mo_codes Sp_leads Sp_basisCount_r Sp_rows_r Sp_basis_r F C0 hK hA hN  F 0 Sp_basisCount Sp_rows Sp_basis hrun H locs ls hP hD hS (lv_sub hl [1, 0] rfl)
set_option maxHeartbeats 4000000 in
set_option maxRecDepth 100000 in
theorem c_pickBasis (l : Launch) (D : va_G) (cI cL cZ : ClassId) (a_Mo a_Sp a_Mo_codes a_Sp_rows a_Sp_leads a_Sp_basis a_Mo_degrees a_Mo_keys a_Mo_raised a_Sp_kept a_Sp_work : Nat) (F : Nat) (Mo_variables Mo_order Mo_highest Mo_count Sp_prime Sp_limit Sp_keptCount Sp_basisCount : Int32) (Mo_codes Sp_rows Sp_leads Sp_basis : Nat → Int32) (sz : Nat) (Sp_basisCount_r : Int32) (Sp_rows_r Sp_basis_r : Nat → Int32) (hrun : m_pickBasis F Mo_count Sp_prime Mo_codes Sp_leads Sp_basisCount Sp_rows Sp_basis = some (Sp_basisCount_r, Sp_rows_r, Sp_basis_r)) : Met l y_Sp_pickBasis (.code y_Sp_pickBasis c_Sp_pickBasisb 2 none :: gAll) rm_pickBasis (va_Pc [.ref a_Sp] (gPW D (gT cI cL cZ) (ws_pickBasis a_Mo a_Sp a_Mo_codes a_Sp_rows a_Sp_leads a_Sp_basis a_Mo_degrees a_Mo_keys a_Mo_raised a_Sp_kept a_Sp_work cI cL cZ Mo_variables Mo_order Mo_highest Mo_count Sp_prime Sp_limit Sp_keptCount Sp_basisCount Mo_codes Sp_rows Sp_leads Sp_basis) sz)) (va_Qv (fun _ : Unit => True) (gB D (gT cI cL cZ) (va_A (ws_pickBasis a_Mo a_Sp a_Mo_codes a_Sp_rows a_Sp_leads a_Sp_basis a_Mo_degrees a_Mo_keys a_Mo_raised a_Sp_kept a_Sp_work cI cL cZ Mo_variables Mo_order Mo_highest Mo_count Sp_prime Sp_limit Sp_keptCount Sp_basisCount Mo_codes Sp_rows Sp_leads Sp_basis) sz) (ws_pickBasis a_Mo a_Sp a_Mo_codes a_Sp_rows a_Sp_leads a_Sp_basis a_Mo_degrees a_Mo_keys a_Mo_raised a_Sp_kept a_Sp_work cI cL cZ Mo_variables Mo_order Mo_highest Mo_count Sp_prime Sp_limit Sp_keptCount Sp_basisCount_r Mo_codes Sp_rows_r Sp_leads Sp_basis_r)) (va_A (ws_pickBasis a_Mo a_Sp a_Mo_codes a_Sp_rows a_Sp_leads a_Sp_basis a_Mo_degrees a_Mo_keys a_Mo_raised a_Sp_kept a_Sp_work cI cL cZ Mo_variables Mo_order Mo_highest Mo_count Sp_prime Sp_limit Sp_keptCount Sp_basisCount Mo_codes Sp_rows Sp_leads Sp_basis) sz)) 0 0 (va_A (ws_pickBasis a_Mo a_Sp a_Mo_codes a_Sp_rows a_Sp_leads a_Sp_basis a_Mo_degrees a_Mo_keys a_Mo_raised a_Sp_kept a_Sp_work cI cL cZ Mo_variables Mo_order Mo_highest Mo_count Sp_prime Sp_limit Sp_keptCount Sp_basisCount Mo_codes Sp_rows Sp_leads Sp_basis) sz) := by
  refine Met.ofW (cc := c_Sp_pickBasisb) (maxL := 2) (ret := none) (by decide +kernel) rfl ?_
  intro p e s m args below meth c s₁ B hml hv
  obtain ⟨rfl, hsz, hP, hK, hN, hD0⟩ := hv
  subst hsz
  have hD := hD0.self (sz := s.heap.size)
  have hl := lv_entry ([.ref a_Sp]) (n := 2) (Nat.le_of_ble_eq_true rfl)
  rw [lg_entry_eq]
  generalize (lg_sl ([.ref a_Sp]) ++ List.replicate (2 - (lg_sl ([.ref a_Sp])).length) Slot.unset).toArray = ls at hl ⊢
  exact e_pickBasis (p, l, e, s, m, ([.ref a_Sp] : List Value).toArray, below, meth, c) D cI cL cZ a_Mo a_Sp a_Mo_codes a_Sp_rows a_Sp_leads a_Sp_basis a_Mo_degrees a_Mo_keys a_Mo_raised a_Sp_kept a_Sp_work (va_A (ws_pickBasis a_Mo a_Sp a_Mo_codes a_Sp_rows a_Sp_leads a_Sp_basis a_Mo_degrees a_Mo_keys a_Mo_raised a_Sp_kept a_Sp_work cI cL cZ Mo_variables Mo_order Mo_highest Mo_count Sp_prime Sp_limit Sp_keptCount Sp_basisCount Mo_codes Sp_rows Sp_leads Sp_basis) s.heap.size) Mo_variables Mo_order Mo_highest Mo_count Sp_prime Sp_limit Sp_keptCount Mo_codes Sp_leads Sp_basisCount_r Sp_rows_r Sp_basis_r F ⟨B.exec, B.bytes, B.returns, hml, findClass_of_methodNamed B.named, fun w h => atoms_spec (ws := (.code y_Sp_pickBasis c_Sp_pickBasisb 2 none :: gAll)) B.pre w (List.mem_cons_of_mem _ h), B.notSynchronized⟩ hK (fun q h => Or.inr h) hN Sp_basisCount Sp_rows Sp_basis hrun s.heap [] ls hP hD va_S.rf hl
theorem d_Sp_isComplete_0 : decode c_Sp_isCompleteb 0 = .ok (.iconst 1, 1) := by decide +kernel
theorem d_Sp_isComplete_1 : decode c_Sp_isCompleteb 1 = .ok (.istore_n 1, 1) := by decide +kernel
theorem d_Sp_isComplete_2 : decode c_Sp_isCompleteb 2 = .ok (.iload_n 1, 1) := by decide +kernel
theorem d_Sp_isComplete_3 : decode c_Sp_isCompleteb 3 = .ok (.aload_n 0, 1) := by decide +kernel
theorem d_Sp_isComplete_4 : decode c_Sp_isCompleteb 4 = .ok (.getfield 42, 3) := by decide +kernel
theorem d_Sp_isComplete_7 : decode c_Sp_isCompleteb 7 = .ok (.if_icmp .ge 101, 3) := by decide +kernel
theorem d_Sp_isComplete_10 : decode c_Sp_isCompleteb 10 = .ok (.iconst 0, 1) := by decide +kernel
theorem d_Sp_isComplete_11 : decode c_Sp_isCompleteb 11 = .ok (.istore_n 2, 1) := by decide +kernel
theorem d_Sp_isComplete_12 : decode c_Sp_isCompleteb 12 = .ok (.iload_n 2, 1) := by decide +kernel
theorem d_Sp_isComplete_13 : decode c_Sp_isCompleteb 13 = .ok (.iload_n 1, 1) := by decide +kernel
theorem d_Sp_isComplete_14 : decode c_Sp_isCompleteb 14 = .ok (.if_icmp .ge 88, 3) := by decide +kernel
theorem d_Sp_isComplete_17 : decode c_Sp_isCompleteb 17 = .ok (.aload_n 0, 1) := by decide +kernel
theorem d_Sp_isComplete_18 : decode c_Sp_isCompleteb 18 = .ok (.getfield 28, 3) := by decide +kernel
theorem d_Sp_isComplete_21 : decode c_Sp_isCompleteb 21 = .ok (.getfield 97, 3) := by decide +kernel
theorem d_Sp_isComplete_24 : decode c_Sp_isCompleteb 24 = .ok (.aload_n 0, 1) := by decide +kernel
theorem d_Sp_isComplete_25 : decode c_Sp_isCompleteb 25 = .ok (.getfield 25, 3) := by decide +kernel
theorem d_Sp_isComplete_28 : decode c_Sp_isCompleteb 28 = .ok (.iload_n 2, 1) := by decide +kernel
theorem d_Sp_isComplete_29 : decode c_Sp_isCompleteb 29 = .ok (.iaload, 1) := by decide +kernel
theorem d_Sp_isComplete_30 : decode c_Sp_isCompleteb 30 = .ok (.iaload, 1) := by decide +kernel
theorem d_Sp_isComplete_31 : decode c_Sp_isCompleteb 31 = .ok (.aload_n 0, 1) := by decide +kernel
theorem d_Sp_isComplete_32 : decode c_Sp_isCompleteb 32 = .ok (.getfield 28, 3) := by decide +kernel
theorem d_Sp_isComplete_35 : decode c_Sp_isCompleteb 35 = .ok (.getfield 97, 3) := by decide +kernel
theorem d_Sp_isComplete_38 : decode c_Sp_isCompleteb 38 = .ok (.aload_n 0, 1) := by decide +kernel
theorem d_Sp_isComplete_39 : decode c_Sp_isCompleteb 39 = .ok (.getfield 25, 3) := by decide +kernel
theorem d_Sp_isComplete_42 : decode c_Sp_isCompleteb 42 = .ok (.iload_n 1, 1) := by decide +kernel
theorem d_Sp_isComplete_43 : decode c_Sp_isCompleteb 43 = .ok (.iaload, 1) := by decide +kernel
theorem d_Sp_isComplete_44 : decode c_Sp_isCompleteb 44 = .ok (.iaload, 1) := by decide +kernel
theorem d_Sp_isComplete_45 : decode c_Sp_isCompleteb 45 = .ok (.invokestatic 111, 3) := by decide +kernel
theorem d_Sp_isComplete_48 : decode c_Sp_isCompleteb 48 = .ok (.istore_n 3, 1) := by decide +kernel
theorem d_Sp_isComplete_49 : decode c_Sp_isCompleteb 49 = .ok (.aload_n 0, 1) := by decide +kernel
theorem d_Sp_isComplete_50 : decode c_Sp_isCompleteb 50 = .ok (.getfield 28, 3) := by decide +kernel
theorem d_Sp_isComplete_53 : decode c_Sp_isCompleteb 53 = .ok (.getfield 56, 3) := by decide +kernel
theorem d_Sp_isComplete_56 : decode c_Sp_isCompleteb 56 = .ok (.aload_n 0, 1) := by decide +kernel
theorem d_Sp_isComplete_57 : decode c_Sp_isCompleteb 57 = .ok (.getfield 25, 3) := by decide +kernel
theorem d_Sp_isComplete_60 : decode c_Sp_isCompleteb 60 = .ok (.iload_n 2, 1) := by decide +kernel
theorem d_Sp_isComplete_61 : decode c_Sp_isCompleteb 61 = .ok (.iaload, 1) := by decide +kernel
theorem d_Sp_isComplete_62 : decode c_Sp_isCompleteb 62 = .ok (.iaload, 1) := by decide +kernel
theorem d_Sp_isComplete_63 : decode c_Sp_isCompleteb 63 = .ok (.aload_n 0, 1) := by decide +kernel
theorem d_Sp_isComplete_64 : decode c_Sp_isCompleteb 64 = .ok (.getfield 28, 3) := by decide +kernel
theorem d_Sp_isComplete_67 : decode c_Sp_isCompleteb 67 = .ok (.getfield 56, 3) := by decide +kernel
theorem d_Sp_isComplete_70 : decode c_Sp_isCompleteb 70 = .ok (.aload_n 0, 1) := by decide +kernel
theorem d_Sp_isComplete_71 : decode c_Sp_isCompleteb 71 = .ok (.getfield 25, 3) := by decide +kernel
theorem d_Sp_isComplete_74 : decode c_Sp_isCompleteb 74 = .ok (.iload_n 1, 1) := by decide +kernel
theorem d_Sp_isComplete_75 : decode c_Sp_isCompleteb 75 = .ok (.iaload, 1) := by decide +kernel
theorem d_Sp_isComplete_76 : decode c_Sp_isCompleteb 76 = .ok (.iaload, 1) := by decide +kernel
theorem d_Sp_isComplete_77 : decode c_Sp_isCompleteb 77 = .ok (.iadd, 1) := by decide +kernel
theorem d_Sp_isComplete_78 : decode c_Sp_isCompleteb 78 = .ok (.istore 4, 2) := by decide +kernel
theorem d_Sp_isComplete_80 : decode c_Sp_isCompleteb 80 = .ok (.iload_n 3, 1) := by decide +kernel
theorem d_Sp_isComplete_81 : decode c_Sp_isCompleteb 81 = .ok (.aload_n 0, 1) := by decide +kernel
theorem d_Sp_isComplete_82 : decode c_Sp_isCompleteb 82 = .ok (.getfield 36, 3) := by decide +kernel
theorem d_Sp_isComplete_85 : decode c_Sp_isCompleteb 85 = .ok (.if_icmp .le 11, 3) := by decide +kernel
theorem d_Sp_isComplete_88 : decode c_Sp_isCompleteb 88 = .ok (.iload_n 3, 1) := by decide +kernel
theorem d_Sp_isComplete_89 : decode c_Sp_isCompleteb 89 = .ok (.iload 4, 2) := by decide +kernel
theorem d_Sp_isComplete_91 : decode c_Sp_isCompleteb 91 = .ok (.if_icmp .eq 5, 3) := by decide +kernel
theorem d_Sp_isComplete_94 : decode c_Sp_isCompleteb 94 = .ok (.iconst 0, 1) := by decide +kernel
theorem d_Sp_isComplete_95 : decode c_Sp_isCompleteb 95 = .ok (.ireturn, 1) := by decide +kernel
theorem d_Sp_isComplete_96 : decode c_Sp_isCompleteb 96 = .ok (.iinc 2 1, 3) := by decide +kernel
theorem d_Sp_isComplete_99 : decode c_Sp_isCompleteb 99 = .ok (.goto (-87), 3) := by decide +kernel
theorem d_Sp_isComplete_102 : decode c_Sp_isCompleteb 102 = .ok (.iinc 1 1, 3) := by decide +kernel
theorem d_Sp_isComplete_105 : decode c_Sp_isCompleteb 105 = .ok (.goto (-103), 3) := by decide +kernel
theorem d_Sp_isComplete_108 : decode c_Sp_isCompleteb 108 = .ok (.iconst 1, 1) := by decide +kernel
theorem d_Sp_isComplete_109 : decode c_Sp_isCompleteb 109 = .ok (.ireturn, 1) := by decide +kernel
abbrev ws_isComplete (a_Mo a_Sp a_Mo_codes a_Mo_degrees a_Sp_basis a_Mo_keys a_Mo_raised a_Sp_rows a_Sp_leads a_Sp_kept a_Sp_work : Nat) (cI cL cZ : ClassId) (Mo_variables Mo_order Mo_highest Mo_count Sp_prime Sp_limit Sp_keptCount Sp_basisCount : Int32) (Mo_codes Mo_degrees Sp_basis : Nat → Int32) : va_W := [(a_Mo, .inr (1, [.int Mo_variables, .int Mo_order, .int Mo_highest, .int Mo_count, .ref a_Mo_codes, .ref a_Mo_degrees, .ref a_Mo_keys, .ref a_Mo_raised])), (a_Sp, .inr (2, [.ref a_Mo, .int Sp_prime, .int Sp_limit, .ref a_Sp_rows, .ref a_Sp_leads, .ref a_Sp_kept, .int Sp_keptCount, .ref a_Sp_work, .ref a_Sp_basis, .int Sp_basisCount])), (a_Mo_codes, .inl (cI, 126, .inl Mo_codes)), (a_Mo_degrees, .inl (cI, 126, .inl Mo_degrees)), (a_Sp_basis, .inl (cI, 126, .inl Sp_basis))]
abbrev rm_isComplete : Room := { frames := 2, cells := 0, slots := 0, locals := 44 }
abbrev g_isComplete (X : gX) (r_ : Int32) (pc : Nat) (lv : List (Nat × Value)) (st : List Value) : Prop := ∀ ls : Array Slot, lv_has ls 5 lv → gWW X rm_isComplete (gs X).heap [] 0 0 (MQ (gbl X) (vp_Si (fun r => r = r_)) (ga X) (gs X) 0 0 (fun _ => False)) (F0 (gm X) pc ls st)
set_option maxHeartbeats 4000000 in
set_option maxRecDepth 100000 in
theorem w_isComplete_12 (X : gX) (D : va_G) (cI cL cZ : ClassId) (a_Mo a_Sp a_Mo_codes a_Mo_degrees a_Sp_basis a_Mo_keys a_Mo_raised a_Sp_rows a_Sp_leads a_Sp_kept a_Sp_work : Nat) (F : Nat) (Mo_variables Mo_order Mo_highest Mo_count Sp_prime Sp_limit Sp_keptCount Sp_basisCount : Int32) (Mo_codes Mo_degrees Sp_basis : Nat → Int32) (r_ : Int32) (C0 : gC X c_Sp_isCompleteb (some .boolean) 5 "RemnantDictionary$Space" gAll) (hK : va_K D classes (gT cI cL cZ) (gs X)) (hP : va_P D classes (ws_isComplete a_Mo a_Sp a_Mo_codes a_Mo_degrees a_Sp_basis a_Mo_keys a_Mo_raised a_Sp_rows a_Sp_leads a_Sp_kept a_Sp_work cI cL cZ Mo_variables Mo_order Mo_highest Mo_count Sp_prime Sp_limit Sp_keptCount Sp_basisCount Mo_codes Mo_degrees Sp_basis) (gs X).heap) (hN : gN (gs X)) (k2 : Int32 → Option (Int32)) (hk2 : ∀ (i1 : Int32), k2 i1 = some r_ → g_isComplete X r_ 2 [(0, .ref a_Sp), (1, .int i1)] []) (k12 : Int32 → Int32 → Option (Int32)) (hk12 : ∀ (i1 i2 : Int32), k12 i1 i2 = some r_ → g_isComplete X r_ 12 [(0, .ref a_Sp), (1, .int i1), (2, .int i2)] []) (i1 i2 : Int32) (hrun : s_isComplete_12 F Sp_basisCount Sp_limit Mo_codes Mo_degrees Sp_basis k2 k12 i1 i2 = some r_) : g_isComplete X r_ 12 [(0, .ref a_Sp), (1, .int i1), (2, .int i2)] [] := by
  have C1 := C0
  obtain ⟨hx, hb, hr, hml, hown, hts, hlocks⟩ := C1
  unfold s_isComplete_12 at hrun
  intro ls hl
  refine lv_iload_n hx hb d_Sp_isComplete_12 rfl (lv_at hl 2 rfl) ?_
  refine lv_iload_n hx hb d_Sp_isComplete_13 rfl (lv_at hl 1 rfl) ?_
  refine g_icmp_ge (tgt := 102) hx hb d_Sp_isComplete_14 (by decide) hrun (fun _ hrun => ?_) (fun _ hrun => ?_)
  · refine lv_iinc (v := (i1 + 1)) (lv' := [(1, .int (i1 + 1)), (0, .ref a_Sp), (2, .int i2)]) hx hb d_Sp_isComplete_102 hl (k := 1) rfl rfl (by decide) rfl (fun ls hl => ?_)
    refine lv_goto (tgt := 2) hx hb d_Sp_isComplete_105 (by decide) ?_
    exact hk2 (i1 + 1) hrun ls (lv_sub hl [1, 0] rfl)
  · refine lv_aload_n hx hb d_Sp_isComplete_17 rfl (lv_at hl 0 rfl) ?_
    refine va_get (D := D) (ci := 2) (v := .ref a_Mo) (C := "RemnantDictionary$Space") (T := T_Sp) (N := 10) hx hb hts iw_Sp hown hK hP 1 rfl rfl 0 (by decide) (hts _ k_94) (fun _ h9 => h9) rfl d_Sp_isComplete_18 ?_
    refine va_get (D := D) (ci := 1) (v := .ref a_Mo_codes) (C := "RemnantDictionary$Monomials") (T := T_Mo) (N := 8) hx hb hts iw_Mo hown hK hP 0 rfl rfl 4 (by decide) (hts _ k_117) (fun _ h9 => h9) rfl d_Sp_isComplete_21 ?_
    refine lv_aload_n hx hb d_Sp_isComplete_24 rfl (lv_at hl 0 rfl) ?_
    refine va_get (D := D) (ci := 2) (v := .ref a_Sp_basis) (C := "RemnantDictionary$Space") (T := T_Sp) (N := 10) hx hb hts iw_Sp hown hK hP 1 rfl rfl 8 (by decide) (hts _ k_118) (fun _ h9 => h9) rfl d_Sp_isComplete_25 ?_
    refine lv_iload_n hx hb d_Sp_isComplete_28 rfl (lv_at hl 2 rfl) ?_
    refine g_iald hx hb hK hP 4 0 rfl rfl hrun d_Sp_isComplete_29 (fun x_1 hrun => ?_)
    refine g_iald hx hb hK hP 2 0 rfl rfl hrun d_Sp_isComplete_30 (fun x_2 hrun => ?_)
    refine lv_aload_n hx hb d_Sp_isComplete_31 rfl (lv_at hl 0 rfl) ?_
    refine va_get (D := D) (ci := 2) (v := .ref a_Mo) (C := "RemnantDictionary$Space") (T := T_Sp) (N := 10) hx hb hts iw_Sp hown hK hP 1 rfl rfl 0 (by decide) (hts _ k_94) (fun _ h9 => h9) rfl d_Sp_isComplete_32 ?_
    refine va_get (D := D) (ci := 1) (v := .ref a_Mo_codes) (C := "RemnantDictionary$Monomials") (T := T_Mo) (N := 8) hx hb hts iw_Mo hown hK hP 0 rfl rfl 4 (by decide) (hts _ k_117) (fun _ h9 => h9) rfl d_Sp_isComplete_35 ?_
    refine lv_aload_n hx hb d_Sp_isComplete_38 rfl (lv_at hl 0 rfl) ?_
    refine va_get (D := D) (ci := 2) (v := .ref a_Sp_basis) (C := "RemnantDictionary$Space") (T := T_Sp) (N := 10) hx hb hts iw_Sp hown hK hP 1 rfl rfl 8 (by decide) (hts _ k_118) (fun _ h9 => h9) rfl d_Sp_isComplete_39 ?_
    refine lv_iload_n hx hb d_Sp_isComplete_42 rfl (lv_at hl 1 rfl) ?_
    refine g_iald hx hb hK hP 4 0 rfl rfl hrun d_Sp_isComplete_43 (fun x_3 hrun => ?_)
    refine g_iald hx hb hK hP 2 0 rfl rfl hrun d_Sp_isComplete_44 (fun x_4 hrun => ?_)
    obtain ⟨r_5, hc, hrun⟩ := bd1_s hrun
    refine vp_callSi (g_ofRun (va_runSN (As := [.int x_2, .int x_4]) (rest := []) ⟨hx, hb, hml, hown, hts⟩ (c_common (gl X) F x_2 x_4 r_5 hc) (⟨va_cnB 2 hts (gwN k_22) rfl rfl rfl (hN.1 _ (List.mem_of_getElem? (i := 6) rfl)) (hts _ k_14) (by decide +kernel) ⟨Nat.le_of_ble_eq_true rfl, Nat.le_of_ble_eq_true rfl⟩, hts _ k_129, trivial⟩) (gpreS0 hN) rfl rfl hl.1 rfl (lv_room (Nat.le_of_ble_eq_true rfl)) d_Sp_isComplete_45 ⟨Nat.le_of_ble_eq_true rfl, Nat.le_of_ble_eq_true rfl⟩)) (nm_e ?_)
    refine lv_istore_n (lv' := [(3, .int r_5), (0, .ref a_Sp), (1, .int i1), (2, .int i2)]) hx hb d_Sp_isComplete_48 rfl hl (by decide) rfl (fun ls hl => ?_)
    refine lv_aload_n hx hb d_Sp_isComplete_49 rfl (lv_at hl 1 rfl) ?_
    refine va_get (D := D) (ci := 2) (v := .ref a_Mo) (C := "RemnantDictionary$Space") (T := T_Sp) (N := 10) hx hb hts iw_Sp hown hK hP 1 rfl rfl 0 (by decide) (hts _ k_94) (fun _ h9 => h9) rfl d_Sp_isComplete_50 ?_
    refine va_get (D := D) (ci := 1) (v := .ref a_Mo_degrees) (C := "RemnantDictionary$Monomials") (T := T_Mo) (N := 8) hx hb hts iw_Mo hown hK hP 0 rfl rfl 5 (by decide) (hts _ k_104) (fun _ h9 => h9) rfl d_Sp_isComplete_53 ?_
    refine lv_aload_n hx hb d_Sp_isComplete_56 rfl (lv_at hl 1 rfl) ?_
    refine va_get (D := D) (ci := 2) (v := .ref a_Sp_basis) (C := "RemnantDictionary$Space") (T := T_Sp) (N := 10) hx hb hts iw_Sp hown hK hP 1 rfl rfl 8 (by decide) (hts _ k_118) (fun _ h9 => h9) rfl d_Sp_isComplete_57 ?_
    refine lv_iload_n hx hb d_Sp_isComplete_60 rfl (lv_at hl 3 rfl) ?_
    refine g_iald hx hb hK hP 4 0 rfl rfl hrun d_Sp_isComplete_61 (fun x_6 hrun => ?_)
    refine g_iald hx hb hK hP 3 0 rfl rfl hrun d_Sp_isComplete_62 (fun x_7 hrun => ?_)
    refine lv_aload_n hx hb d_Sp_isComplete_63 rfl (lv_at hl 1 rfl) ?_
    refine va_get (D := D) (ci := 2) (v := .ref a_Mo) (C := "RemnantDictionary$Space") (T := T_Sp) (N := 10) hx hb hts iw_Sp hown hK hP 1 rfl rfl 0 (by decide) (hts _ k_94) (fun _ h9 => h9) rfl d_Sp_isComplete_64 ?_
    refine va_get (D := D) (ci := 1) (v := .ref a_Mo_degrees) (C := "RemnantDictionary$Monomials") (T := T_Mo) (N := 8) hx hb hts iw_Mo hown hK hP 0 rfl rfl 5 (by decide) (hts _ k_104) (fun _ h9 => h9) rfl d_Sp_isComplete_67 ?_
    refine lv_aload_n hx hb d_Sp_isComplete_70 rfl (lv_at hl 1 rfl) ?_
    refine va_get (D := D) (ci := 2) (v := .ref a_Sp_basis) (C := "RemnantDictionary$Space") (T := T_Sp) (N := 10) hx hb hts iw_Sp hown hK hP 1 rfl rfl 8 (by decide) (hts _ k_118) (fun _ h9 => h9) rfl d_Sp_isComplete_71 ?_
    refine lv_iload_n hx hb d_Sp_isComplete_74 rfl (lv_at hl 2 rfl) ?_
    refine g_iald hx hb hK hP 4 0 rfl rfl hrun d_Sp_isComplete_75 (fun x_8 hrun => ?_)
    refine g_iald hx hb hK hP 3 0 rfl rfl hrun d_Sp_isComplete_76 (fun x_9 hrun => ?_)
    refine lv_iadd hx hb d_Sp_isComplete_77 ?_
    refine lv_istore (lv' := [(4, .int (x_7 + x_9)), (3, .int r_5), (0, .ref a_Sp), (1, .int i1), (2, .int i2)]) hx hb d_Sp_isComplete_78 hl (by decide) rfl (fun ls hl => ?_)
    refine lv_iload_n hx hb d_Sp_isComplete_80 rfl (lv_at hl 1 rfl) ?_
    refine lv_aload_n hx hb d_Sp_isComplete_81 rfl (lv_at hl 2 rfl) ?_
    refine va_get (D := D) (ci := 2) (v := .int Sp_limit) (C := "RemnantDictionary$Space") (T := T_Sp) (N := 10) hx hb hts iw_Sp hown hK hP 1 rfl rfl 2 (by decide) (hts _ k_78) (fun _ h9 => h9) rfl d_Sp_isComplete_82 ?_
    refine g_icmp_le (tgt := 96) hx hb d_Sp_isComplete_85 (by decide) hrun (fun _ hrun => ?_) (fun _ hrun => ?_)
    · refine lv_iinc (v := (i2 + 1)) (lv' := [(2, .int (i2 + 1)), (4, .int (x_7 + x_9)), (3, .int r_5), (0, .ref a_Sp), (1, .int i1)]) hx hb d_Sp_isComplete_96 hl (k := 4) rfl rfl (by decide) rfl (fun ls hl => ?_)
      refine lv_goto (tgt := 12) hx hb d_Sp_isComplete_99 (by decide) ?_
      exact hk12 i1 (i2 + 1) hrun ls (lv_sub hl [3, 4, 0] rfl)
    · refine lv_iload_n hx hb d_Sp_isComplete_88 rfl (lv_at hl 1 rfl) ?_
      refine lv_iload hx hb d_Sp_isComplete_89 (lv_at hl 0 rfl) ?_
      refine g_icmp_eq (tgt := 96) hx hb d_Sp_isComplete_91 (by decide) hrun (fun _ hrun => ?_) (fun _ hrun => ?_)
      · refine lv_iinc (v := (i2 + 1)) (lv' := [(2, .int (i2 + 1)), (4, .int (x_7 + x_9)), (3, .int r_5), (0, .ref a_Sp), (1, .int i1)]) hx hb d_Sp_isComplete_96 hl (k := 4) rfl rfl (by decide) rfl (fun ls hl => ?_)
        refine lv_goto (tgt := 12) hx hb d_Sp_isComplete_99 (by decide) ?_
        exact hk12 i1 (i2 + 1) hrun ls (lv_sub hl [3, 4, 0] rfl)
      · refine lv_iconst (v := 0) hx hb d_Sp_isComplete_94 (by decide) ?_
        cases hrun
        exact W.zret hx hb hr rfl (fun t ht hW => ⟨_, rfl, rfl, ht⟩) (fun q h => absurd h List.not_mem_nil) d_Sp_isComplete_95
theorem v_isComplete_12 (X : gX) (D : va_G) (cI cL cZ : ClassId) (a_Mo a_Sp a_Mo_codes a_Mo_degrees a_Sp_basis a_Mo_keys a_Mo_raised a_Sp_rows a_Sp_leads a_Sp_kept a_Sp_work : Nat) (F : Nat) (Mo_variables Mo_order Mo_highest Mo_count Sp_prime Sp_limit Sp_keptCount Sp_basisCount : Int32) (Mo_codes Mo_degrees Sp_basis : Nat → Int32) (r_ : Int32) (C0 : gC X c_Sp_isCompleteb (some .boolean) 5 "RemnantDictionary$Space" gAll) (hK : va_K D classes (gT cI cL cZ) (gs X)) (hP : va_P D classes (ws_isComplete a_Mo a_Sp a_Mo_codes a_Mo_degrees a_Sp_basis a_Mo_keys a_Mo_raised a_Sp_rows a_Sp_leads a_Sp_kept a_Sp_work cI cL cZ Mo_variables Mo_order Mo_highest Mo_count Sp_prime Sp_limit Sp_keptCount Sp_basisCount Mo_codes Mo_degrees Sp_basis) (gs X).heap) (hN : gN (gs X)) (k2 : Int32 → Option (Int32)) (hk2 : ∀ (i1 : Int32), k2 i1 = some r_ → g_isComplete X r_ 2 [(0, .ref a_Sp), (1, .int i1)] []) : ∀ (n : Nat) (i1 i2 : Int32), b_isComplete_12 F Sp_basisCount Sp_limit Mo_codes Mo_degrees Sp_basis k2 n i1 i2 = some r_ → g_isComplete X r_ 12 [(0, .ref a_Sp), (1, .int i1), (2, .int i2)] [] := by
  intro n
  induction n with
  | zero => intro i1 i2 hrun; cases hrun
  | succ n ih =>
    intro i1 i2 hrun
    exact w_isComplete_12 X D cI cL cZ a_Mo a_Sp a_Mo_codes a_Mo_degrees a_Sp_basis a_Mo_keys a_Mo_raised a_Sp_rows a_Sp_leads a_Sp_kept a_Sp_work F Mo_variables Mo_order Mo_highest Mo_count Sp_prime Sp_limit Sp_keptCount Sp_basisCount Mo_codes Mo_degrees Sp_basis r_ C0 hK hP hN k2 hk2 (b_isComplete_12 F Sp_basisCount Sp_limit Mo_codes Mo_degrees Sp_basis k2 n) ih i1 i2 hrun
set_option maxHeartbeats 4000000 in
set_option maxRecDepth 100000 in
theorem w_isComplete_2 (X : gX) (D : va_G) (cI cL cZ : ClassId) (a_Mo a_Sp a_Mo_codes a_Mo_degrees a_Sp_basis a_Mo_keys a_Mo_raised a_Sp_rows a_Sp_leads a_Sp_kept a_Sp_work : Nat) (F : Nat) (Mo_variables Mo_order Mo_highest Mo_count Sp_prime Sp_limit Sp_keptCount Sp_basisCount : Int32) (Mo_codes Mo_degrees Sp_basis : Nat → Int32) (r_ : Int32) (C0 : gC X c_Sp_isCompleteb (some .boolean) 5 "RemnantDictionary$Space" gAll) (hK : va_K D classes (gT cI cL cZ) (gs X)) (hP : va_P D classes (ws_isComplete a_Mo a_Sp a_Mo_codes a_Mo_degrees a_Sp_basis a_Mo_keys a_Mo_raised a_Sp_rows a_Sp_leads a_Sp_kept a_Sp_work cI cL cZ Mo_variables Mo_order Mo_highest Mo_count Sp_prime Sp_limit Sp_keptCount Sp_basisCount Mo_codes Mo_degrees Sp_basis) (gs X).heap) (hN : gN (gs X)) (k2 : Int32 → Option (Int32)) (hk2 : ∀ (i1 : Int32), k2 i1 = some r_ → g_isComplete X r_ 2 [(0, .ref a_Sp), (1, .int i1)] []) (i1 : Int32) (hrun : s_isComplete_2 F Sp_basisCount Sp_limit Mo_codes Mo_degrees Sp_basis k2 i1 = some r_) : g_isComplete X r_ 2 [(0, .ref a_Sp), (1, .int i1)] [] := by
  have C1 := C0
  obtain ⟨hx, hb, hr, hml, hown, hts, hlocks⟩ := C1
  unfold s_isComplete_2 at hrun
  intro ls hl
  refine lv_iload_n hx hb d_Sp_isComplete_2 rfl (lv_at hl 1 rfl) ?_
  refine lv_aload_n hx hb d_Sp_isComplete_3 rfl (lv_at hl 0 rfl) ?_
  refine va_get (D := D) (ci := 2) (v := .int Sp_basisCount) (C := "RemnantDictionary$Space") (T := T_Sp) (N := 10) hx hb hts iw_Sp hown hK hP 1 rfl rfl 9 (by decide) (hts _ k_80) (fun _ h9 => h9) rfl d_Sp_isComplete_4 ?_
  refine g_icmp_ge (tgt := 108) hx hb d_Sp_isComplete_7 (by decide) hrun (fun _ hrun => ?_) (fun _ hrun => ?_)
  · refine lv_iconst (v := 1) hx hb d_Sp_isComplete_108 (by decide) ?_
    cases hrun
    exact W.zret hx hb hr rfl (fun t ht hW => ⟨_, rfl, rfl, ht⟩) (fun q h => absurd h List.not_mem_nil) d_Sp_isComplete_109
  · refine lv_iconst (v := 0) hx hb d_Sp_isComplete_10 (by decide) ?_
    refine lv_istore_n (lv' := [(2, .int 0), (0, .ref a_Sp), (1, .int i1)]) hx hb d_Sp_isComplete_11 rfl hl (by decide) rfl (fun ls hl => ?_)
    exact v_isComplete_12 X D cI cL cZ a_Mo a_Sp a_Mo_codes a_Mo_degrees a_Sp_basis a_Mo_keys a_Mo_raised a_Sp_rows a_Sp_leads a_Sp_kept a_Sp_work F Mo_variables Mo_order Mo_highest Mo_count Sp_prime Sp_limit Sp_keptCount Sp_basisCount Mo_codes Mo_degrees Sp_basis r_ C0 hK hP hN k2 hk2 F i1 0 hrun ls (lv_sub hl [1, 2, 0] rfl)
theorem v_isComplete_2 (X : gX) (D : va_G) (cI cL cZ : ClassId) (a_Mo a_Sp a_Mo_codes a_Mo_degrees a_Sp_basis a_Mo_keys a_Mo_raised a_Sp_rows a_Sp_leads a_Sp_kept a_Sp_work : Nat) (F : Nat) (Mo_variables Mo_order Mo_highest Mo_count Sp_prime Sp_limit Sp_keptCount Sp_basisCount : Int32) (Mo_codes Mo_degrees Sp_basis : Nat → Int32) (r_ : Int32) (C0 : gC X c_Sp_isCompleteb (some .boolean) 5 "RemnantDictionary$Space" gAll) (hK : va_K D classes (gT cI cL cZ) (gs X)) (hP : va_P D classes (ws_isComplete a_Mo a_Sp a_Mo_codes a_Mo_degrees a_Sp_basis a_Mo_keys a_Mo_raised a_Sp_rows a_Sp_leads a_Sp_kept a_Sp_work cI cL cZ Mo_variables Mo_order Mo_highest Mo_count Sp_prime Sp_limit Sp_keptCount Sp_basisCount Mo_codes Mo_degrees Sp_basis) (gs X).heap) (hN : gN (gs X))  : ∀ (n : Nat) (i1 : Int32), b_isComplete_2 F Sp_basisCount Sp_limit Mo_codes Mo_degrees Sp_basis n i1 = some r_ → g_isComplete X r_ 2 [(0, .ref a_Sp), (1, .int i1)] [] := by
  intro n
  induction n with
  | zero => intro i1 hrun; cases hrun
  | succ n ih =>
    intro i1 hrun
    exact w_isComplete_2 X D cI cL cZ a_Mo a_Sp a_Mo_codes a_Mo_degrees a_Sp_basis a_Mo_keys a_Mo_raised a_Sp_rows a_Sp_leads a_Sp_kept a_Sp_work F Mo_variables Mo_order Mo_highest Mo_count Sp_prime Sp_limit Sp_keptCount Sp_basisCount Mo_codes Mo_degrees Sp_basis r_ C0 hK hP hN (b_isComplete_2 F Sp_basisCount Sp_limit Mo_codes Mo_degrees Sp_basis n) ih i1 hrun
set_option maxHeartbeats 4000000 in
set_option maxRecDepth 100000 in
theorem e_isComplete (X : gX) (D : va_G) (cI cL cZ : ClassId) (a_Mo a_Sp a_Mo_codes a_Mo_degrees a_Sp_basis a_Mo_keys a_Mo_raised a_Sp_rows a_Sp_leads a_Sp_kept a_Sp_work : Nat) (F : Nat) (Mo_variables Mo_order Mo_highest Mo_count Sp_prime Sp_limit Sp_keptCount Sp_basisCount : Int32) (Mo_codes Mo_degrees Sp_basis : Nat → Int32) (r_ : Int32) (C0 : gC X c_Sp_isCompleteb (some .boolean) 5 "RemnantDictionary$Space" gAll) (hK : va_K D classes (gT cI cL cZ) (gs X)) (hP : va_P D classes (ws_isComplete a_Mo a_Sp a_Mo_codes a_Mo_degrees a_Sp_basis a_Mo_keys a_Mo_raised a_Sp_rows a_Sp_leads a_Sp_kept a_Sp_work cI cL cZ Mo_variables Mo_order Mo_highest Mo_count Sp_prime Sp_limit Sp_keptCount Sp_basisCount Mo_codes Mo_degrees Sp_basis) (gs X).heap) (hN : gN (gs X))  (hrun : m_isComplete F Sp_basisCount Sp_limit Mo_codes Mo_degrees Sp_basis = some r_) : g_isComplete X r_ 0 [(0, .ref a_Sp)] [] := by
  have C1 := C0
  obtain ⟨hx, hb, hr, hml, hown, hts, hlocks⟩ := C1
  unfold m_isComplete at hrun
  intro ls hl
  refine lv_iconst (v := 1) hx hb d_Sp_isComplete_0 (by decide) ?_
  refine lv_istore_n (lv' := [(1, .int 1), (0, .ref a_Sp)]) hx hb d_Sp_isComplete_1 rfl hl (by decide) rfl (fun ls hl => ?_)
  exact v_isComplete_2 X D cI cL cZ a_Mo a_Sp a_Mo_codes a_Mo_degrees a_Sp_basis a_Mo_keys a_Mo_raised a_Sp_rows a_Sp_leads a_Sp_kept a_Sp_work F Mo_variables Mo_order Mo_highest Mo_count Sp_prime Sp_limit Sp_keptCount Sp_basisCount Mo_codes Mo_degrees Sp_basis r_ C0 hK hP hN  F 1 hrun ls (lv_sub hl [1, 0] rfl)
set_option maxHeartbeats 4000000 in
set_option maxRecDepth 100000 in
theorem c_isComplete (l : Launch) (D : va_G) (cI cL cZ : ClassId) (a_Mo a_Sp a_Mo_codes a_Mo_degrees a_Sp_basis a_Mo_keys a_Mo_raised a_Sp_rows a_Sp_leads a_Sp_kept a_Sp_work : Nat) (F : Nat) (Mo_variables Mo_order Mo_highest Mo_count Sp_prime Sp_limit Sp_keptCount Sp_basisCount : Int32) (Mo_codes Mo_degrees Sp_basis : Nat → Int32) (r_ : Int32) (hrun : m_isComplete F Sp_basisCount Sp_limit Mo_codes Mo_degrees Sp_basis = some r_) : Met l y_Sp_isComplete (.code y_Sp_isComplete c_Sp_isCompleteb 5 (some .boolean) :: gAll) rm_isComplete (va_Pc [.ref a_Sp] (gPR D (gT cI cL cZ) (ws_isComplete a_Mo a_Sp a_Mo_codes a_Mo_degrees a_Sp_basis a_Mo_keys a_Mo_raised a_Sp_rows a_Sp_leads a_Sp_kept a_Sp_work cI cL cZ Mo_variables Mo_order Mo_highest Mo_count Sp_prime Sp_limit Sp_keptCount Sp_basisCount Mo_codes Mo_degrees Sp_basis))) (vp_Si (fun r => r = r_)) 0 0 (fun _ => False) := by
  refine Met.ofW (cc := c_Sp_isCompleteb) (maxL := 5) (ret := (some .boolean)) (by decide +kernel) rfl ?_
  intro p e s m args below meth c s₁ B hml hv
  obtain ⟨rfl, hP, hK, hN⟩ := hv
  have hl := lv_entry ([.ref a_Sp]) (n := 5) (Nat.le_of_ble_eq_true rfl)
  rw [lg_entry_eq]
  generalize (lg_sl ([.ref a_Sp]) ++ List.replicate (5 - (lg_sl ([.ref a_Sp])).length) Slot.unset).toArray = ls at hl ⊢
  exact e_isComplete (p, l, e, s, m, ([.ref a_Sp] : List Value).toArray, below, meth, c) D cI cL cZ a_Mo a_Sp a_Mo_codes a_Mo_degrees a_Sp_basis a_Mo_keys a_Mo_raised a_Sp_rows a_Sp_leads a_Sp_kept a_Sp_work F Mo_variables Mo_order Mo_highest Mo_count Sp_prime Sp_limit Sp_keptCount Sp_basisCount Mo_codes Mo_degrees Sp_basis r_ ⟨B.exec, B.bytes, B.returns, hml, findClass_of_methodNamed B.named, fun w h => atoms_spec (ws := (.code y_Sp_isComplete c_Sp_isCompleteb 5 (some .boolean) :: gAll)) B.pre w (List.mem_cons_of_mem _ h), B.notSynchronized⟩ hK hP hN  hrun ls hl
