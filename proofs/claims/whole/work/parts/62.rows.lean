theorem d_Sp_has1_0 : decode c_Sp_has1b 0 = .ok (.aload_n 0, 1) := by decide +kernel
theorem d_Sp_has1_1 : decode c_Sp_has1b 1 = .ok (.getfield 15, 3) := by decide +kernel
theorem d_Sp_has1_4 : decode c_Sp_has1b 4 = .ok (.iconst 0, 1) := by decide +kernel
theorem d_Sp_has1_5 : decode c_Sp_has1b 5 = .ok (.baload, 1) := by decide +kernel
theorem d_Sp_has1_6 : decode c_Sp_has1b 6 = .ok (.ireturn, 1) := by decide +kernel
abbrev ws_has1 (a_Sp a_Sp_leads a_Mo a_Sp_rows a_Sp_kept a_Sp_work a_Sp_basis : Nat) (cI cL cZ : ClassId) (Sp_prime Sp_limit Sp_keptCount Sp_basisCount : Int32) (Sp_leads : Nat → Int32) : va_W := [(a_Sp, .inr (2, [.ref a_Mo, .int Sp_prime, .int Sp_limit, .ref a_Sp_rows, .ref a_Sp_leads, .ref a_Sp_kept, .int Sp_keptCount, .ref a_Sp_work, .ref a_Sp_basis, .int Sp_basisCount])), (a_Sp_leads, .inl (cZ, 126, .inl Sp_leads))]
abbrev rm_has1 : Room := { frames := 0, cells := 0, slots := 0, locals := 0 }
abbrev g_has1 (X : gX) (r_ : Int32) (pc : Nat) (lv : List (Nat × Value)) (st : List Value) : Prop := ∀ ls : Array Slot, lv_has ls 1 lv → gWW X rm_has1 (gs X).heap [] 0 0 (MQ (gbl X) (vp_Si (fun r => r = r_)) (ga X) (gs X) 0 0 (fun _ => False)) (F0 (gm X) pc ls st)
set_option maxHeartbeats 4000000 in
set_option maxRecDepth 100000 in
theorem e_has1 (X : gX) (D : va_G) (cI cL cZ : ClassId) (a_Sp a_Sp_leads a_Mo a_Sp_rows a_Sp_kept a_Sp_work a_Sp_basis : Nat) (F : Nat) (Sp_prime Sp_limit Sp_keptCount Sp_basisCount : Int32) (Sp_leads : Nat → Int32) (r_ : Int32) (C0 : gC X c_Sp_has1b (some .boolean) 1 "RemnantDictionary$Space" gAll) (hK : va_K D classes (gT cI cL cZ) (gs X)) (hP : va_P D classes (ws_has1 a_Sp a_Sp_leads a_Mo a_Sp_rows a_Sp_kept a_Sp_work a_Sp_basis cI cL cZ Sp_prime Sp_limit Sp_keptCount Sp_basisCount Sp_leads) (gs X).heap) (hN : gN (gs X))  (hrun : m_has1 F Sp_leads = some r_) : g_has1 X r_ 0 [(0, .ref a_Sp)] [] := by
  have C1 := C0
  obtain ⟨hx, hb, hr, hml, hown, hts, hlocks⟩ := C1
  unfold m_has1 at hrun
  intro ls hl
  refine lv_aload_n hx hb d_Sp_has1_0 rfl (lv_at hl 0 rfl) ?_
  refine va_get (D := D) (ci := 2) (v := .ref a_Sp_leads) (C := "RemnantDictionary$Space") (T := T_Sp) (N := 10) hx hb hts iw_Sp hown hK hP 0 rfl rfl 4 (by decide) (hts _ k_74) (fun _ h9 => h9) rfl d_Sp_has1_1 ?_
  refine lv_iconst (v := 0) hx hb d_Sp_has1_4 (by decide) ?_
  refine g_zald hx hb hK hP 1 2 rfl rfl hrun d_Sp_has1_5 (fun x_1 hrun => ?_)
  obtain ⟨hz, hrun⟩ := bzI_s hrun
  cases hrun
  exact W.zret hx hb hr hz (fun t ht hW => ⟨_, rfl, rfl, ht⟩) (fun q h => absurd h List.not_mem_nil) d_Sp_has1_6
set_option maxHeartbeats 4000000 in
set_option maxRecDepth 100000 in
theorem c_has1 (l : Launch) (D : va_G) (cI cL cZ : ClassId) (a_Sp a_Sp_leads a_Mo a_Sp_rows a_Sp_kept a_Sp_work a_Sp_basis : Nat) (F : Nat) (Sp_prime Sp_limit Sp_keptCount Sp_basisCount : Int32) (Sp_leads : Nat → Int32) (r_ : Int32) (hrun : m_has1 F Sp_leads = some r_) : Met l y_Sp_has1 (.code y_Sp_has1 c_Sp_has1b 1 (some .boolean) :: gAll) rm_has1 (va_Pc [.ref a_Sp] (gPR D (gT cI cL cZ) (ws_has1 a_Sp a_Sp_leads a_Mo a_Sp_rows a_Sp_kept a_Sp_work a_Sp_basis cI cL cZ Sp_prime Sp_limit Sp_keptCount Sp_basisCount Sp_leads))) (vp_Si (fun r => r = r_)) 0 0 (fun _ => False) := by
  refine Met.ofW (cc := c_Sp_has1b) (maxL := 1) (ret := (some .boolean)) (by decide +kernel) rfl ?_
  intro p e s m args below meth c s₁ B hml hv
  obtain ⟨rfl, hP, hK, hN⟩ := hv
  have hl := lv_entry ([.ref a_Sp]) (n := 1) (Nat.le_of_ble_eq_true rfl)
  rw [lg_entry_eq]
  generalize (lg_sl ([.ref a_Sp]) ++ List.replicate (1 - (lg_sl ([.ref a_Sp])).length) Slot.unset).toArray = ls at hl ⊢
  exact e_has1 (p, l, e, s, m, ([.ref a_Sp] : List Value).toArray, below, meth, c) D cI cL cZ a_Sp a_Sp_leads a_Mo a_Sp_rows a_Sp_kept a_Sp_work a_Sp_basis F Sp_prime Sp_limit Sp_keptCount Sp_basisCount Sp_leads r_ ⟨B.exec, B.bytes, B.returns, hml, findClass_of_methodNamed B.named, fun w h => atoms_spec (ws := (.code y_Sp_has1 c_Sp_has1b 1 (some .boolean) :: gAll)) B.pre w (List.mem_cons_of_mem _ h), B.notSynchronized⟩ hK hP hN  hrun ls hl
theorem d_Sp_start_0 : decode c_Sp_startb 0 = .ok (.aload_n 0, 1) := by decide +kernel
theorem d_Sp_start_1 : decode c_Sp_startb 1 = .ok (.iload_n 1, 1) := by decide +kernel
theorem d_Sp_start_2 : decode c_Sp_startb 2 = .ok (.putfield 32, 3) := by decide +kernel
theorem d_Sp_start_5 : decode c_Sp_startb 5 = .ok (.aload_n 0, 1) := by decide +kernel
theorem d_Sp_start_6 : decode c_Sp_startb 6 = .ok (.iload_n 2, 1) := by decide +kernel
theorem d_Sp_start_7 : decode c_Sp_startb 7 = .ok (.putfield 36, 3) := by decide +kernel
theorem d_Sp_start_10 : decode c_Sp_startb 10 = .ok (.aload_n 0, 1) := by decide +kernel
theorem d_Sp_start_11 : decode c_Sp_startb 11 = .ok (.iconst 0, 1) := by decide +kernel
theorem d_Sp_start_12 : decode c_Sp_startb 12 = .ok (.putfield 39, 3) := by decide +kernel
theorem d_Sp_start_15 : decode c_Sp_startb 15 = .ok (.aload_n 0, 1) := by decide +kernel
theorem d_Sp_start_16 : decode c_Sp_startb 16 = .ok (.iconst 0, 1) := by decide +kernel
theorem d_Sp_start_17 : decode c_Sp_startb 17 = .ok (.putfield 42, 3) := by decide +kernel
theorem d_Sp_start_20 : decode c_Sp_startb 20 = .ok (.iconst 0, 1) := by decide +kernel
theorem d_Sp_start_21 : decode c_Sp_startb 21 = .ok (.istore_n 3, 1) := by decide +kernel
theorem d_Sp_start_22 : decode c_Sp_startb 22 = .ok (.iload_n 3, 1) := by decide +kernel
theorem d_Sp_start_23 : decode c_Sp_startb 23 = .ok (.bipush 126, 2) := by decide +kernel
theorem d_Sp_start_25 : decode c_Sp_startb 25 = .ok (.if_icmp .ge 16, 3) := by decide +kernel
theorem d_Sp_start_28 : decode c_Sp_startb 28 = .ok (.aload_n 0, 1) := by decide +kernel
theorem d_Sp_start_29 : decode c_Sp_startb 29 = .ok (.getfield 15, 3) := by decide +kernel
theorem d_Sp_start_32 : decode c_Sp_startb 32 = .ok (.iload_n 3, 1) := by decide +kernel
theorem d_Sp_start_33 : decode c_Sp_startb 33 = .ok (.iconst 0, 1) := by decide +kernel
theorem d_Sp_start_34 : decode c_Sp_startb 34 = .ok (.bastore, 1) := by decide +kernel
theorem d_Sp_start_35 : decode c_Sp_startb 35 = .ok (.iinc 3 1, 3) := by decide +kernel
theorem d_Sp_start_38 : decode c_Sp_startb 38 = .ok (.goto (-16), 3) := by decide +kernel
theorem d_Sp_start_41 : decode c_Sp_startb 41 = .ok (.return_, 1) := by decide +kernel
abbrev ws_start (a_Sp a_Sp_leads a_Mo a_Sp_rows a_Sp_kept a_Sp_work a_Sp_basis : Nat) (cI cL cZ : ClassId) (Sp_prime Sp_limit Sp_keptCount Sp_basisCount : Int32) (Sp_leads : Nat → Int32) : va_W := [(a_Sp, .inr (2, [.ref a_Mo, .int Sp_prime, .int Sp_limit, .ref a_Sp_rows, .ref a_Sp_leads, .ref a_Sp_kept, .int Sp_keptCount, .ref a_Sp_work, .ref a_Sp_basis, .int Sp_basisCount])), (a_Sp_leads, .inl (cZ, 126, .inl Sp_leads))]
abbrev rm_start : Room := { frames := 0, cells := 0, slots := 0, locals := 0 }
abbrev g_start (X : gX) (D : va_G) (cI cL cZ : ClassId) (a_Sp a_Sp_leads a_Mo a_Sp_rows a_Sp_kept a_Sp_work a_Sp_basis : Nat) (A : Nat → Prop) (Sp_basisCount_r Sp_keptCount_r Sp_limit_r Sp_prime_r : Int32) (Sp_leads_r : Nat → Int32) (pc : Nat) (lv : List (Nat × Value)) (st : List Value) (Sp_basisCount Sp_keptCount Sp_limit Sp_prime : Int32) (Sp_leads : Nat → Int32) : Prop := ∀ (H : Heap) (locs : List Loc) (ls : Array Slot), va_P D classes (ws_start a_Sp a_Sp_leads a_Mo a_Sp_rows a_Sp_kept a_Sp_work a_Sp_basis cI cL cZ Sp_prime Sp_limit Sp_keptCount Sp_basisCount Sp_leads) H → va_D A (ws_start a_Sp a_Sp_leads a_Mo a_Sp_rows a_Sp_kept a_Sp_work a_Sp_basis cI cL cZ Sp_prime Sp_limit Sp_keptCount Sp_basisCount Sp_leads) → va_S A (gs X).heap H locs → lv_has ls 4 lv → gWW X rm_start H locs 0 0 (MQ (gbl X) (va_Qv (fun _ : Unit => True) (gB D (gT cI cL cZ) A (ws_start a_Sp a_Sp_leads a_Mo a_Sp_rows a_Sp_kept a_Sp_work a_Sp_basis cI cL cZ Sp_prime_r Sp_limit_r Sp_keptCount_r Sp_basisCount_r Sp_leads_r)) A) (ga X) (gs X) 0 0 A) (F0 (gm X) pc ls st)
set_option maxHeartbeats 4000000 in
set_option maxRecDepth 100000 in
theorem w_start_22 (X : gX) (D : va_G) (cI cL cZ : ClassId) (a_Sp a_Sp_leads a_Mo a_Sp_rows a_Sp_kept a_Sp_work a_Sp_basis : Nat) (A : Nat → Prop) (Sp_basisCount_r Sp_keptCount_r Sp_limit_r Sp_prime_r : Int32) (Sp_leads_r : Nat → Int32) (F : Nat) (C0 : gC X c_Sp_startb none 4 "RemnantDictionary$Space" gAll) (hK : va_K D classes (gT cI cL cZ) (gs X)) (hA : ∀ q : Nat, (gs X).heap.size ≤ q → A q) (hN : gN (gs X)) (k22 : Int32 → Int32 → Int32 → Int32 → Int32 → (Nat → Int32) → Option (Int32 × Int32 × Int32 × Int32 × (Nat → Int32))) (hk22 : ∀ (i3 Sp_basisCount Sp_keptCount Sp_limit Sp_prime : Int32) (Sp_leads : Nat → Int32), k22 i3 Sp_basisCount Sp_keptCount Sp_limit Sp_prime Sp_leads = some (Sp_basisCount_r, Sp_keptCount_r, Sp_limit_r, Sp_prime_r, Sp_leads_r) → g_start X D cI cL cZ a_Sp a_Sp_leads a_Mo a_Sp_rows a_Sp_kept a_Sp_work a_Sp_basis A Sp_basisCount_r Sp_keptCount_r Sp_limit_r Sp_prime_r Sp_leads_r 22 [(0, .ref a_Sp), (3, .int i3)] [] Sp_basisCount Sp_keptCount Sp_limit Sp_prime Sp_leads) (i3 Sp_basisCount Sp_keptCount Sp_limit Sp_prime : Int32) (Sp_leads : Nat → Int32) (hrun : s_start_22 F k22 i3 Sp_basisCount Sp_keptCount Sp_limit Sp_prime Sp_leads = some (Sp_basisCount_r, Sp_keptCount_r, Sp_limit_r, Sp_prime_r, Sp_leads_r)) : g_start X D cI cL cZ a_Sp a_Sp_leads a_Mo a_Sp_rows a_Sp_kept a_Sp_work a_Sp_basis A Sp_basisCount_r Sp_keptCount_r Sp_limit_r Sp_prime_r Sp_leads_r 22 [(0, .ref a_Sp), (3, .int i3)] [] Sp_basisCount Sp_keptCount Sp_limit Sp_prime Sp_leads := by
  have C1 := C0
  obtain ⟨hx, hb, hr, hml, hown, hts, hlocks⟩ := C1
  unfold s_start_22 at hrun
  intro H locs ls hP hD hS hl
  refine lv_iload_n hx hb d_Sp_start_22 rfl (lv_at hl 1 rfl) ?_
  refine lv_bipush (v := 126) hx hb d_Sp_start_23 (by decide) ?_
  refine g_icmp_ge (tgt := 41) hx hb d_Sp_start_25 (by decide) hrun (fun _ hrun => ?_) (fun _ hrun => ?_)
  · cases hrun
    exact W.vret hx hb hr (fun t ht hW => ⟨⟨(), rfl, trivial, gB_of ht hW.alike hP hK hD⟩, hS.F ht⟩) hS.2.2 d_Sp_start_41
  · refine lv_aload_n hx hb d_Sp_start_28 rfl (lv_at hl 0 rfl) ?_
    refine va_get (D := D) (ci := 2) (v := .ref a_Sp_leads) (C := "RemnantDictionary$Space") (T := T_Sp) (N := 10) hx hb hts iw_Sp hown hK hP 0 rfl rfl 4 (by decide) (hts _ k_74) (fun _ h9 => h9) rfl d_Sp_start_29 ?_
    refine lv_iload_n hx hb d_Sp_start_32 rfl (lv_at hl 1 rfl) ?_
    refine lv_iconst (v := 0) hx hb d_Sp_start_33 (by decide) ?_
    refine g_zast hx hb hK hP hD hS 1 2 rfl rfl hrun d_Sp_start_34 (fun Sp_leads_1 hrun H locs (hP : va_P D classes (ws_start a_Sp a_Sp_leads a_Mo a_Sp_rows a_Sp_kept a_Sp_work a_Sp_basis cI cL cZ Sp_prime Sp_limit Sp_keptCount Sp_basisCount Sp_leads_1) H) (hD : va_D A (ws_start a_Sp a_Sp_leads a_Mo a_Sp_rows a_Sp_kept a_Sp_work a_Sp_basis cI cL cZ Sp_prime Sp_limit Sp_keptCount Sp_basisCount Sp_leads_1)) hS => ?_)
    refine lv_iinc (v := (i3 + 1)) (lv' := [(3, .int (i3 + 1)), (0, .ref a_Sp)]) hx hb d_Sp_start_35 hl (k := 1) rfl rfl (by decide) rfl (fun ls hl => ?_)
    refine lv_goto (tgt := 22) hx hb d_Sp_start_38 (by decide) ?_
    exact hk22 (i3 + 1) Sp_basisCount Sp_keptCount Sp_limit Sp_prime Sp_leads_1 hrun H locs ls hP hD hS (lv_sub hl [1, 0] rfl)
theorem v_start_22 (X : gX) (D : va_G) (cI cL cZ : ClassId) (a_Sp a_Sp_leads a_Mo a_Sp_rows a_Sp_kept a_Sp_work a_Sp_basis : Nat) (A : Nat → Prop) (Sp_basisCount_r Sp_keptCount_r Sp_limit_r Sp_prime_r : Int32) (Sp_leads_r : Nat → Int32) (F : Nat) (C0 : gC X c_Sp_startb none 4 "RemnantDictionary$Space" gAll) (hK : va_K D classes (gT cI cL cZ) (gs X)) (hA : ∀ q : Nat, (gs X).heap.size ≤ q → A q) (hN : gN (gs X))  : ∀ (n : Nat) (i3 Sp_basisCount Sp_keptCount Sp_limit Sp_prime : Int32) (Sp_leads : Nat → Int32), b_start_22 F n i3 Sp_basisCount Sp_keptCount Sp_limit Sp_prime Sp_leads = some (Sp_basisCount_r, Sp_keptCount_r, Sp_limit_r, Sp_prime_r, Sp_leads_r) → g_start X D cI cL cZ a_Sp a_Sp_leads a_Mo a_Sp_rows a_Sp_kept a_Sp_work a_Sp_basis A Sp_basisCount_r Sp_keptCount_r Sp_limit_r Sp_prime_r Sp_leads_r 22 [(0, .ref a_Sp), (3, .int i3)] [] Sp_basisCount Sp_keptCount Sp_limit Sp_prime Sp_leads := by
  intro n
  induction n with
  | zero => intro i3 Sp_basisCount Sp_keptCount Sp_limit Sp_prime Sp_leads hrun; cases hrun
  | succ n ih =>
    intro i3 Sp_basisCount Sp_keptCount Sp_limit Sp_prime Sp_leads hrun
    exact w_start_22 X D cI cL cZ a_Sp a_Sp_leads a_Mo a_Sp_rows a_Sp_kept a_Sp_work a_Sp_basis A Sp_basisCount_r Sp_keptCount_r Sp_limit_r Sp_prime_r Sp_leads_r F C0 hK hA hN (b_start_22 F n) ih i3 Sp_basisCount Sp_keptCount Sp_limit Sp_prime Sp_leads hrun
set_option maxHeartbeats 4000000 in
set_option maxRecDepth 100000 in
theorem e_start (X : gX) (D : va_G) (cI cL cZ : ClassId) (a_Sp a_Sp_leads a_Mo a_Sp_rows a_Sp_kept a_Sp_work a_Sp_basis : Nat) (A : Nat → Prop) (Sp_basisCount_r Sp_keptCount_r Sp_limit_r Sp_prime_r : Int32) (Sp_leads_r : Nat → Int32) (F : Nat) (C0 : gC X c_Sp_startb none 4 "RemnantDictionary$Space" gAll) (hK : va_K D classes (gT cI cL cZ) (gs X)) (hA : ∀ q : Nat, (gs X).heap.size ≤ q → A q) (hN : gN (gs X)) (i1 i2 Sp_basisCount Sp_keptCount Sp_limit Sp_prime : Int32) (Sp_leads : Nat → Int32) (hrun : m_start F i1 i2 Sp_basisCount Sp_keptCount Sp_limit Sp_prime Sp_leads = some (Sp_basisCount_r, Sp_keptCount_r, Sp_limit_r, Sp_prime_r, Sp_leads_r)) : g_start X D cI cL cZ a_Sp a_Sp_leads a_Mo a_Sp_rows a_Sp_kept a_Sp_work a_Sp_basis A Sp_basisCount_r Sp_keptCount_r Sp_limit_r Sp_prime_r Sp_leads_r 0 [(0, .ref a_Sp), (1, .int i1), (2, .int i2)] [] Sp_basisCount Sp_keptCount Sp_limit Sp_prime Sp_leads := by
  have C1 := C0
  obtain ⟨hx, hb, hr, hml, hown, hts, hlocks⟩ := C1
  unfold m_start at hrun
  intro H locs ls hP hD hS hl
  refine lv_aload_n hx hb d_Sp_start_0 rfl (lv_at hl 0 rfl) ?_
  refine lv_iload_n hx hb d_Sp_start_1 rfl (lv_at hl 1 rfl) ?_
  refine va_put (D := D) (ci := 2) (v := .int i1) (ty := .int) (C := "RemnantDictionary$Space") (T := T_Sp) (N := 10) hx hb hts iw_Sp ty_Sp ty_Sp_ok nm_Sp hown hK hP hD hS 0 rfl rfl 1 (by decide) (hts _ k_77) (fun _ h9 => h9) rfl (by decide +kernel) rfl rfl (Nat.le_of_ble_eq_true rfl) d_Sp_start_2 (fun H locs (hP : va_P D classes (ws_start a_Sp a_Sp_leads a_Mo a_Sp_rows a_Sp_kept a_Sp_work a_Sp_basis cI cL cZ i1 Sp_limit Sp_keptCount Sp_basisCount Sp_leads) H) (hD : va_D A (ws_start a_Sp a_Sp_leads a_Mo a_Sp_rows a_Sp_kept a_Sp_work a_Sp_basis cI cL cZ i1 Sp_limit Sp_keptCount Sp_basisCount Sp_leads)) hS => ?_)
  refine lv_aload_n hx hb d_Sp_start_5 rfl (lv_at hl 0 rfl) ?_
  refine lv_iload_n hx hb d_Sp_start_6 rfl (lv_at hl 2 rfl) ?_
  refine va_put (D := D) (ci := 2) (v := .int i2) (ty := .int) (C := "RemnantDictionary$Space") (T := T_Sp) (N := 10) hx hb hts iw_Sp ty_Sp ty_Sp_ok nm_Sp hown hK hP hD hS 0 rfl rfl 2 (by decide) (hts _ k_78) (fun _ h9 => h9) rfl (by decide +kernel) rfl rfl (Nat.le_of_ble_eq_true rfl) d_Sp_start_7 (fun H locs (hP : va_P D classes (ws_start a_Sp a_Sp_leads a_Mo a_Sp_rows a_Sp_kept a_Sp_work a_Sp_basis cI cL cZ i1 i2 Sp_keptCount Sp_basisCount Sp_leads) H) (hD : va_D A (ws_start a_Sp a_Sp_leads a_Mo a_Sp_rows a_Sp_kept a_Sp_work a_Sp_basis cI cL cZ i1 i2 Sp_keptCount Sp_basisCount Sp_leads)) hS => ?_)
  refine lv_aload_n hx hb d_Sp_start_10 rfl (lv_at hl 0 rfl) ?_
  refine lv_iconst (v := 0) hx hb d_Sp_start_11 (by decide) ?_
  refine va_put (D := D) (ci := 2) (v := .int 0) (ty := .int) (C := "RemnantDictionary$Space") (T := T_Sp) (N := 10) hx hb hts iw_Sp ty_Sp ty_Sp_ok nm_Sp hown hK hP hD hS 0 rfl rfl 6 (by decide) (hts _ k_79) (fun _ h9 => h9) rfl (by decide +kernel) rfl rfl (Nat.le_of_ble_eq_true rfl) d_Sp_start_12 (fun H locs (hP : va_P D classes (ws_start a_Sp a_Sp_leads a_Mo a_Sp_rows a_Sp_kept a_Sp_work a_Sp_basis cI cL cZ i1 i2 0 Sp_basisCount Sp_leads) H) (hD : va_D A (ws_start a_Sp a_Sp_leads a_Mo a_Sp_rows a_Sp_kept a_Sp_work a_Sp_basis cI cL cZ i1 i2 0 Sp_basisCount Sp_leads)) hS => ?_)
  refine lv_aload_n hx hb d_Sp_start_15 rfl (lv_at hl 0 rfl) ?_
  refine lv_iconst (v := 0) hx hb d_Sp_start_16 (by decide) ?_
  refine va_put (D := D) (ci := 2) (v := .int 0) (ty := .int) (C := "RemnantDictionary$Space") (T := T_Sp) (N := 10) hx hb hts iw_Sp ty_Sp ty_Sp_ok nm_Sp hown hK hP hD hS 0 rfl rfl 9 (by decide) (hts _ k_80) (fun _ h9 => h9) rfl (by decide +kernel) rfl rfl (Nat.le_of_ble_eq_true rfl) d_Sp_start_17 (fun H locs (hP : va_P D classes (ws_start a_Sp a_Sp_leads a_Mo a_Sp_rows a_Sp_kept a_Sp_work a_Sp_basis cI cL cZ i1 i2 0 0 Sp_leads) H) (hD : va_D A (ws_start a_Sp a_Sp_leads a_Mo a_Sp_rows a_Sp_kept a_Sp_work a_Sp_basis cI cL cZ i1 i2 0 0 Sp_leads)) hS => ?_)
  refine lv_iconst (v := 0) hx hb d_Sp_start_20 (by decide) ?_
  refine lv_istore_n (lv' := [(3, .int 0), (0, .ref a_Sp), (1, .int i1), (2, .int i2)]) hx hb d_Sp_start_21 rfl hl (by decide) rfl (fun ls hl => ?_)
  exact v_start_22 X D cI cL cZ a_Sp a_Sp_leads a_Mo a_Sp_rows a_Sp_kept a_Sp_work a_Sp_basis A Sp_basisCount_r Sp_keptCount_r Sp_limit_r Sp_prime_r Sp_leads_r F C0 hK hA hN  F 0 0 0 i2 i1 Sp_leads hrun H locs ls hP hD hS (lv_sub hl [1, 0] rfl)
set_option maxHeartbeats 4000000 in
set_option maxRecDepth 100000 in
theorem c_start (l : Launch) (D : va_G) (cI cL cZ : ClassId) (a_Sp a_Sp_leads a_Mo a_Sp_rows a_Sp_kept a_Sp_work a_Sp_basis : Nat) (F : Nat) (Sp_prime Sp_limit Sp_keptCount Sp_basisCount : Int32) (Sp_leads : Nat → Int32) (i1 i2 : Int32) (sz : Nat) (Sp_basisCount_r Sp_keptCount_r Sp_limit_r Sp_prime_r : Int32) (Sp_leads_r : Nat → Int32) (hrun : m_start F i1 i2 Sp_basisCount Sp_keptCount Sp_limit Sp_prime Sp_leads = some (Sp_basisCount_r, Sp_keptCount_r, Sp_limit_r, Sp_prime_r, Sp_leads_r)) : Met l y_Sp_start (.code y_Sp_start c_Sp_startb 4 none :: gAll) rm_start (va_Pc [.ref a_Sp, .int i1, .int i2] (gPW D (gT cI cL cZ) (ws_start a_Sp a_Sp_leads a_Mo a_Sp_rows a_Sp_kept a_Sp_work a_Sp_basis cI cL cZ Sp_prime Sp_limit Sp_keptCount Sp_basisCount Sp_leads) sz)) (va_Qv (fun _ : Unit => True) (gB D (gT cI cL cZ) (va_A (ws_start a_Sp a_Sp_leads a_Mo a_Sp_rows a_Sp_kept a_Sp_work a_Sp_basis cI cL cZ Sp_prime Sp_limit Sp_keptCount Sp_basisCount Sp_leads) sz) (ws_start a_Sp a_Sp_leads a_Mo a_Sp_rows a_Sp_kept a_Sp_work a_Sp_basis cI cL cZ Sp_prime_r Sp_limit_r Sp_keptCount_r Sp_basisCount_r Sp_leads_r)) (va_A (ws_start a_Sp a_Sp_leads a_Mo a_Sp_rows a_Sp_kept a_Sp_work a_Sp_basis cI cL cZ Sp_prime Sp_limit Sp_keptCount Sp_basisCount Sp_leads) sz)) 0 0 (va_A (ws_start a_Sp a_Sp_leads a_Mo a_Sp_rows a_Sp_kept a_Sp_work a_Sp_basis cI cL cZ Sp_prime Sp_limit Sp_keptCount Sp_basisCount Sp_leads) sz) := by
  refine Met.ofW (cc := c_Sp_startb) (maxL := 4) (ret := none) (by decide +kernel) rfl ?_
  intro p e s m args below meth c s₁ B hml hv
  obtain ⟨rfl, hsz, hP, hK, hN, hD0⟩ := hv
  subst hsz
  have hD := hD0.self (sz := s.heap.size)
  have hl := lv_entry ([.ref a_Sp, .int i1, .int i2]) (n := 4) (Nat.le_of_ble_eq_true rfl)
  rw [lg_entry_eq]
  generalize (lg_sl ([.ref a_Sp, .int i1, .int i2]) ++ List.replicate (4 - (lg_sl ([.ref a_Sp, .int i1, .int i2])).length) Slot.unset).toArray = ls at hl ⊢
  exact e_start (p, l, e, s, m, ([.ref a_Sp, .int i1, .int i2] : List Value).toArray, below, meth, c) D cI cL cZ a_Sp a_Sp_leads a_Mo a_Sp_rows a_Sp_kept a_Sp_work a_Sp_basis (va_A (ws_start a_Sp a_Sp_leads a_Mo a_Sp_rows a_Sp_kept a_Sp_work a_Sp_basis cI cL cZ Sp_prime Sp_limit Sp_keptCount Sp_basisCount Sp_leads) s.heap.size) Sp_basisCount_r Sp_keptCount_r Sp_limit_r Sp_prime_r Sp_leads_r F ⟨B.exec, B.bytes, B.returns, hml, findClass_of_methodNamed B.named, fun w h => atoms_spec (ws := (.code y_Sp_start c_Sp_startb 4 none :: gAll)) B.pre w (List.mem_cons_of_mem _ h), B.notSynchronized⟩ hK (fun q h => Or.inr h) hN i1 i2 Sp_basisCount Sp_keptCount Sp_limit Sp_prime Sp_leads hrun s.heap [] ls hP hD va_S.rf hl
theorem d_Sp_keepWork_0 : decode c_Sp_keepWorkb 0 = .ok (.aload_n 0, 1) := by decide +kernel
theorem d_Sp_keepWork_1 : decode c_Sp_keepWorkb 1 = .ok (.getfield 39, 3) := by decide +kernel
theorem d_Sp_keepWork_4 : decode c_Sp_keepWorkb 4 = .ok (.bipush 126, 2) := by decide +kernel
theorem d_Sp_keepWork_6 : decode c_Sp_keepWorkb 6 = .ok (.if_icmp .lt 4, 3) := by decide +kernel
theorem d_Sp_keepWork_9 : decode c_Sp_keepWorkb 9 = .ok (.return_, 1) := by decide +kernel
theorem d_Sp_keepWork_10 : decode c_Sp_keepWorkb 10 = .ok (.iload_n 1, 1) := by decide +kernel
theorem d_Sp_keepWork_11 : decode c_Sp_keepWorkb 11 = .ok (.bipush 126, 2) := by decide +kernel
theorem d_Sp_keepWork_13 : decode c_Sp_keepWorkb 13 = .ok (.imul, 1) := by decide +kernel
theorem d_Sp_keepWork_14 : decode c_Sp_keepWorkb 14 = .ok (.istore_n 2, 1) := by decide +kernel
theorem d_Sp_keepWork_15 : decode c_Sp_keepWorkb 15 = .ok (.aload_n 0, 1) := by decide +kernel
theorem d_Sp_keepWork_16 : decode c_Sp_keepWorkb 16 = .ok (.getfield 9, 3) := by decide +kernel
theorem d_Sp_keepWork_19 : decode c_Sp_keepWorkb 19 = .ok (.iload_n 2, 1) := by decide +kernel
theorem d_Sp_keepWork_20 : decode c_Sp_keepWorkb 20 = .ok (.iload_n 2, 1) := by decide +kernel
theorem d_Sp_keepWork_21 : decode c_Sp_keepWorkb 21 = .ok (.bipush 126, 2) := by decide +kernel
theorem d_Sp_keepWork_23 : decode c_Sp_keepWorkb 23 = .ok (.iadd, 1) := by decide +kernel
theorem d_Sp_keepWork_24 : decode c_Sp_keepWorkb 24 = .ok (.iconst 0, 1) := by decide +kernel
theorem d_Sp_keepWork_25 : decode c_Sp_keepWorkb 25 = .ok (.invokestatic 90, 3) := by decide +kernel
theorem d_Sp_keepWork_28 : decode c_Sp_keepWorkb 28 = .ok (.aload_n 0, 1) := by decide +kernel
theorem d_Sp_keepWork_29 : decode c_Sp_keepWorkb 29 = .ok (.getfield 9, 3) := by decide +kernel
theorem d_Sp_keepWork_32 : decode c_Sp_keepWorkb 32 = .ok (.iload_n 2, 1) := by decide +kernel
theorem d_Sp_keepWork_33 : decode c_Sp_keepWorkb 33 = .ok (.aload_n 0, 1) := by decide +kernel
theorem d_Sp_keepWork_34 : decode c_Sp_keepWorkb 34 = .ok (.getfield 22, 3) := by decide +kernel
theorem d_Sp_keepWork_37 : decode c_Sp_keepWorkb 37 = .ok (.iconst 0, 1) := by decide +kernel
theorem d_Sp_keepWork_38 : decode c_Sp_keepWorkb 38 = .ok (.iload_n 1, 1) := by decide +kernel
theorem d_Sp_keepWork_39 : decode c_Sp_keepWorkb 39 = .ok (.iconst 1, 1) := by decide +kernel
theorem d_Sp_keepWork_40 : decode c_Sp_keepWorkb 40 = .ok (.iadd, 1) := by decide +kernel
theorem d_Sp_keepWork_41 : decode c_Sp_keepWorkb 41 = .ok (.aload_n 0, 1) := by decide +kernel
theorem d_Sp_keepWork_42 : decode c_Sp_keepWorkb 42 = .ok (.getfield 22, 3) := by decide +kernel
theorem d_Sp_keepWork_45 : decode c_Sp_keepWorkb 45 = .ok (.iload_n 1, 1) := by decide +kernel
theorem d_Sp_keepWork_46 : decode c_Sp_keepWorkb 46 = .ok (.iaload, 1) := by decide +kernel
theorem d_Sp_keepWork_47 : decode c_Sp_keepWorkb 47 = .ok (.aload_n 0, 1) := by decide +kernel
theorem d_Sp_keepWork_48 : decode c_Sp_keepWorkb 48 = .ok (.getfield 32, 3) := by decide +kernel
theorem d_Sp_keepWork_51 : decode c_Sp_keepWorkb 51 = .ok (.invokestatic 93, 3) := by decide +kernel
theorem d_Sp_keepWork_54 : decode c_Sp_keepWorkb 54 = .ok (.aload_n 0, 1) := by decide +kernel
theorem d_Sp_keepWork_55 : decode c_Sp_keepWorkb 55 = .ok (.getfield 32, 3) := by decide +kernel
theorem d_Sp_keepWork_58 : decode c_Sp_keepWorkb 58 = .ok (.invokestatic 86, 3) := by decide +kernel
theorem d_Sp_keepWork_61 : decode c_Sp_keepWorkb 61 = .ok (.aload_n 0, 1) := by decide +kernel
theorem d_Sp_keepWork_62 : decode c_Sp_keepWorkb 62 = .ok (.getfield 15, 3) := by decide +kernel
theorem d_Sp_keepWork_65 : decode c_Sp_keepWorkb 65 = .ok (.iload_n 1, 1) := by decide +kernel
theorem d_Sp_keepWork_66 : decode c_Sp_keepWorkb 66 = .ok (.iconst 1, 1) := by decide +kernel
theorem d_Sp_keepWork_67 : decode c_Sp_keepWorkb 67 = .ok (.bastore, 1) := by decide +kernel
theorem d_Sp_keepWork_68 : decode c_Sp_keepWorkb 68 = .ok (.aload_n 0, 1) := by decide +kernel
theorem d_Sp_keepWork_69 : decode c_Sp_keepWorkb 69 = .ok (.getfield 19, 3) := by decide +kernel
theorem d_Sp_keepWork_72 : decode c_Sp_keepWorkb 72 = .ok (.aload_n 0, 1) := by decide +kernel
theorem d_Sp_keepWork_73 : decode c_Sp_keepWorkb 73 = .ok (.getfield 39, 3) := by decide +kernel
theorem d_Sp_keepWork_76 : decode c_Sp_keepWorkb 76 = .ok (.iload_n 1, 1) := by decide +kernel
theorem d_Sp_keepWork_77 : decode c_Sp_keepWorkb 77 = .ok (.iastore, 1) := by decide +kernel
theorem d_Sp_keepWork_78 : decode c_Sp_keepWorkb 78 = .ok (.aload_n 0, 1) := by decide +kernel
theorem d_Sp_keepWork_79 : decode c_Sp_keepWorkb 79 = .ok (.dup, 1) := by decide +kernel
theorem d_Sp_keepWork_80 : decode c_Sp_keepWorkb 80 = .ok (.getfield 39, 3) := by decide +kernel
theorem d_Sp_keepWork_83 : decode c_Sp_keepWorkb 83 = .ok (.iconst 1, 1) := by decide +kernel
theorem d_Sp_keepWork_84 : decode c_Sp_keepWorkb 84 = .ok (.iadd, 1) := by decide +kernel
theorem d_Sp_keepWork_85 : decode c_Sp_keepWorkb 85 = .ok (.putfield 39, 3) := by decide +kernel
theorem d_Sp_keepWork_88 : decode c_Sp_keepWorkb 88 = .ok (.return_, 1) := by decide +kernel
abbrev ws_keepWork (a_Sp a_Sp_rows a_Sp_leads a_Sp_kept a_Sp_work a_Mo a_Sp_basis : Nat) (cI cL cZ : ClassId) (Sp_prime Sp_limit Sp_keptCount Sp_basisCount : Int32) (Sp_rows Sp_leads Sp_kept Sp_work : Nat → Int32) : va_W := [(a_Sp, .inr (2, [.ref a_Mo, .int Sp_prime, .int Sp_limit, .ref a_Sp_rows, .ref a_Sp_leads, .ref a_Sp_kept, .int Sp_keptCount, .ref a_Sp_work, .ref a_Sp_basis, .int Sp_basisCount])), (a_Sp_rows, .inl (cI, 15876, .inl Sp_rows)), (a_Sp_leads, .inl (cZ, 126, .inl Sp_leads)), (a_Sp_kept, .inl (cI, 126, .inl Sp_kept)), (a_Sp_work, .inl (cI, 126, .inl Sp_work))]
abbrev rm_keepWork : Room := { frames := 2, cells := 0, slots := 0, locals := 46 }
abbrev g_keepWork (X : gX) (D : va_G) (cI cL cZ : ClassId) (a_Sp a_Sp_rows a_Sp_leads a_Sp_kept a_Sp_work a_Mo a_Sp_basis : Nat) (A : Nat → Prop) (Sp_prime Sp_limit Sp_basisCount : Int32) (Sp_work : Nat → Int32) (Sp_keptCount_r : Int32) (Sp_rows_r Sp_leads_r Sp_kept_r : Nat → Int32) (pc : Nat) (lv : List (Nat × Value)) (st : List Value) (Sp_keptCount : Int32) (Sp_rows Sp_leads Sp_kept : Nat → Int32) : Prop := ∀ (H : Heap) (locs : List Loc) (ls : Array Slot), va_P D classes (ws_keepWork a_Sp a_Sp_rows a_Sp_leads a_Sp_kept a_Sp_work a_Mo a_Sp_basis cI cL cZ Sp_prime Sp_limit Sp_keptCount Sp_basisCount Sp_rows Sp_leads Sp_kept Sp_work) H → va_D A (ws_keepWork a_Sp a_Sp_rows a_Sp_leads a_Sp_kept a_Sp_work a_Mo a_Sp_basis cI cL cZ Sp_prime Sp_limit Sp_keptCount Sp_basisCount Sp_rows Sp_leads Sp_kept Sp_work) → va_S A (gs X).heap H locs → lv_has ls 3 lv → gWW X rm_keepWork H locs 0 0 (MQ (gbl X) (va_Qv (fun _ : Unit => True) (gB D (gT cI cL cZ) A (ws_keepWork a_Sp a_Sp_rows a_Sp_leads a_Sp_kept a_Sp_work a_Mo a_Sp_basis cI cL cZ Sp_prime Sp_limit Sp_keptCount_r Sp_basisCount Sp_rows_r Sp_leads_r Sp_kept_r Sp_work)) A) (ga X) (gs X) 0 0 A) (F0 (gm X) pc ls st)
set_option maxHeartbeats 4000000 in
set_option maxRecDepth 100000 in
theorem e_keepWork (X : gX) (D : va_G) (cI cL cZ : ClassId) (a_Sp a_Sp_rows a_Sp_leads a_Sp_kept a_Sp_work a_Mo a_Sp_basis : Nat) (A : Nat → Prop) (Sp_prime Sp_limit Sp_basisCount : Int32) (Sp_work : Nat → Int32) (Sp_keptCount_r : Int32) (Sp_rows_r Sp_leads_r Sp_kept_r : Nat → Int32) (F : Nat) (C0 : gC X c_Sp_keepWorkb none 3 "RemnantDictionary$Space" gAll) (hK : va_K D classes (gT cI cL cZ) (gs X)) (hA : ∀ q : Nat, (gs X).heap.size ≤ q → A q) (hN : gN (gs X)) (i1 Sp_keptCount : Int32) (Sp_rows Sp_leads Sp_kept : Nat → Int32) (hrun : m_keepWork F Sp_prime Sp_work i1 Sp_keptCount Sp_rows Sp_leads Sp_kept = some (Sp_keptCount_r, Sp_rows_r, Sp_leads_r, Sp_kept_r)) : g_keepWork X D cI cL cZ a_Sp a_Sp_rows a_Sp_leads a_Sp_kept a_Sp_work a_Mo a_Sp_basis A Sp_prime Sp_limit Sp_basisCount Sp_work Sp_keptCount_r Sp_rows_r Sp_leads_r Sp_kept_r 0 [(0, .ref a_Sp), (1, .int i1)] [] Sp_keptCount Sp_rows Sp_leads Sp_kept := by
  have C1 := C0
  obtain ⟨hx, hb, hr, hml, hown, hts, hlocks⟩ := C1
  unfold m_keepWork at hrun
  intro H locs ls hP hD hS hl
  refine lv_aload_n hx hb d_Sp_keepWork_0 rfl (lv_at hl 0 rfl) ?_
  refine va_get (D := D) (ci := 2) (v := .int Sp_keptCount) (C := "RemnantDictionary$Space") (T := T_Sp) (N := 10) hx hb hts iw_Sp hown hK hP 0 rfl rfl 6 (by decide) (hts _ k_79) (fun _ h9 => h9) rfl d_Sp_keepWork_1 ?_
  refine lv_bipush (v := 126) hx hb d_Sp_keepWork_4 (by decide) ?_
  refine g_icmp_lt (tgt := 10) hx hb d_Sp_keepWork_6 (by decide) hrun (fun _ hrun => ?_) (fun _ hrun => ?_)
  · refine lv_iload_n hx hb d_Sp_keepWork_10 rfl (lv_at hl 1 rfl) ?_
    refine lv_bipush (v := 126) hx hb d_Sp_keepWork_11 (by decide) ?_
    refine lv_imul hx hb d_Sp_keepWork_13 ?_
    refine lv_istore_n (lv' := [(2, .int (i1 * 126)), (0, .ref a_Sp), (1, .int i1)]) hx hb d_Sp_keepWork_14 rfl hl (by decide) rfl (fun ls hl => ?_)
    refine lv_aload_n hx hb d_Sp_keepWork_15 rfl (lv_at hl 1 rfl) ?_
    refine va_get (D := D) (ci := 2) (v := .ref a_Sp_rows) (C := "RemnantDictionary$Space") (T := T_Sp) (N := 10) hx hb hts iw_Sp hown hK hP 0 rfl rfl 3 (by decide) (hts _ k_81) (fun _ h9 => h9) rfl d_Sp_keepWork_16 ?_
    refine lv_iload_n hx hb d_Sp_keepWork_19 rfl (lv_at hl 0 rfl) ?_
    refine lv_iload_n hx hb d_Sp_keepWork_20 rfl (lv_at hl 0 rfl) ?_
    refine lv_bipush (v := 126) hx hb d_Sp_keepWork_21 (by decide) ?_
    refine lv_iadd hx hb d_Sp_keepWork_23 ?_
    refine lv_iconst (v := 0) hx hb d_Sp_keepWork_24 (by decide) ?_
    obtain ⟨Sp_rows_1, hc, hrun⟩ := bd1_s hrun
    have hFc := va_free (wc := (ws_fillR a_Sp_rows cI cL cZ 15876 Sp_rows)) hD hS hA [1] rfl
    refine va_callv (va_runS (As := [.ref a_Sp_rows, .int (i1 * 126), .int ((i1 * 126) + 126), .int 0]) (rest := []) ⟨hx, hb, hml, hown, hts⟩ (c_fillR (gl X) D cI cL cZ a_Sp_rows F 15876 Sp_rows (i1 * 126) ((i1 * 126) + 126) 0 H.size Sp_rows_1 hc) (va_cwS 4 hts (gwS k_83 k_82 k_4 k_2) rfl rfl rfl (by decide +kernel) ⟨Nat.le_of_ble_eq_true rfl, Nat.le_of_ble_eq_true rfl⟩) (gpreSW (hP.sub (ws' := (ws_fillR a_Sp_rows cI cL cZ 15876 Sp_rows)) [1] rfl) hK hN (hD.sub (ws' := (ws_fillR a_Sp_rows cI cL cZ 15876 Sp_rows)) [1] (by decide) rfl)) rfl rfl hl.1 rfl (lv_room (Nat.le_of_ble_eq_true rfl)) d_Sp_keepWork_25 ⟨Nat.le_of_ble_eq_true rfl, Nat.le_of_ble_eq_true rfl⟩) hS (fun q _ h => hFc q h) hFc (fun _ t H_2 locs ht hvm hw hB hz1 hk1 hS => ?_)
    obtain ⟨hP, hD⟩ := va_join (wr := [(a_Sp, .inr (2, [.ref a_Mo, .int Sp_prime, .int Sp_limit, .ref a_Sp_rows, .ref a_Sp_leads, .ref a_Sp_kept, .int Sp_keptCount, .ref a_Sp_work, .ref a_Sp_basis, .int Sp_basisCount])), (a_Sp_leads, .inl (cZ, 126, .inl Sp_leads)), (a_Sp_kept, .inl (cI, 126, .inl Sp_kept)), (a_Sp_work, .inl (cI, 126, .inl Sp_work))]) (w1 := (ws_fillR a_Sp_rows cI cL cZ 15876 Sp_rows_1)) hP hD [1] [0, 2, 3, 4] rfl rfl (by decide) (by decide) hk1 hFc (by have h9 := hB.1; rw [ht] at h9; exact h9) hB.2.2
    have hP : va_P D classes (ws_keepWork a_Sp a_Sp_rows a_Sp_leads a_Sp_kept a_Sp_work a_Mo a_Sp_basis cI cL cZ Sp_prime Sp_limit Sp_keptCount Sp_basisCount Sp_rows_1 Sp_leads Sp_kept Sp_work) H_2 := hP.sub [0, 4, 1, 2, 3] rfl
    have hD : va_D A (ws_keepWork a_Sp a_Sp_rows a_Sp_leads a_Sp_kept a_Sp_work a_Mo a_Sp_basis cI cL cZ Sp_prime Sp_limit Sp_keptCount Sp_basisCount Sp_rows_1 Sp_leads Sp_kept Sp_work) := hD.sub [0, 4, 1, 2, 3] (by decide) rfl
    refine lv_aload_n hx hb d_Sp_keepWork_28 rfl (lv_at hl 1 rfl) ?_
    refine va_get (D := D) (ci := 2) (v := .ref a_Sp_rows) (C := "RemnantDictionary$Space") (T := T_Sp) (N := 10) hx hb hts iw_Sp hown hK hP 0 rfl rfl 3 (by decide) (hts _ k_81) (fun _ h9 => h9) rfl d_Sp_keepWork_29 ?_
    refine lv_iload_n hx hb d_Sp_keepWork_32 rfl (lv_at hl 0 rfl) ?_
    refine lv_aload_n hx hb d_Sp_keepWork_33 rfl (lv_at hl 1 rfl) ?_
    refine va_get (D := D) (ci := 2) (v := .ref a_Sp_work) (C := "RemnantDictionary$Space") (T := T_Sp) (N := 10) hx hb hts iw_Sp hown hK hP 0 rfl rfl 7 (by decide) (hts _ k_84) (fun _ h9 => h9) rfl d_Sp_keepWork_34 ?_
    refine lv_iconst (v := 0) hx hb d_Sp_keepWork_37 (by decide) ?_
    refine lv_iload_n hx hb d_Sp_keepWork_38 rfl (lv_at hl 2 rfl) ?_
    refine lv_iconst (v := 1) hx hb d_Sp_keepWork_39 (by decide) ?_
    refine lv_iadd hx hb d_Sp_keepWork_40 ?_
    refine lv_aload_n hx hb d_Sp_keepWork_41 rfl (lv_at hl 1 rfl) ?_
    refine va_get (D := D) (ci := 2) (v := .ref a_Sp_work) (C := "RemnantDictionary$Space") (T := T_Sp) (N := 10) hx hb hts iw_Sp hown hK hP 0 rfl rfl 7 (by decide) (hts _ k_84) (fun _ h9 => h9) rfl d_Sp_keepWork_42 ?_
    refine lv_iload_n hx hb d_Sp_keepWork_45 rfl (lv_at hl 2 rfl) ?_
    refine g_iald hx hb hK hP 4 0 rfl rfl hrun d_Sp_keepWork_46 (fun x_3 hrun => ?_)
    refine lv_aload_n hx hb d_Sp_keepWork_47 rfl (lv_at hl 1 rfl) ?_
    refine va_get (D := D) (ci := 2) (v := .int Sp_prime) (C := "RemnantDictionary$Space") (T := T_Sp) (N := 10) hx hb hts iw_Sp hown hK hP 0 rfl rfl 1 (by decide) (hts _ k_77) (fun _ h9 => h9) rfl d_Sp_keepWork_48 ?_
    obtain ⟨r_4, hc, hrun⟩ := bd1_s hrun
    refine vp_callSi (g_ofRun (va_runSN (As := [.int x_3, .int Sp_prime]) (rest := [.int (i1 + 1), .int 0, .ref a_Sp_work, .int (i1 * 126), .ref a_Sp_rows]) ⟨hx, hb, hml, hown, hts⟩ (c_inverse (gl X) F x_3 Sp_prime r_4 hc) (⟨va_cnB 2 hts (gwN k_8) rfl rfl rfl (hN.1 _ (List.mem_of_getElem? (i := 3) rfl)) (hts _ k_14) (by decide +kernel) ⟨Nat.le_of_ble_eq_true rfl, Nat.le_of_ble_eq_true rfl⟩, hts _ k_85, trivial⟩) (gpreS0 hN) rfl rfl hl.1 rfl (lv_room (Nat.le_of_ble_eq_true rfl)) d_Sp_keepWork_51 ⟨Nat.le_of_ble_eq_true rfl, Nat.le_of_ble_eq_true rfl⟩)) (nm_e ?_)
    refine lv_aload_n hx hb d_Sp_keepWork_54 rfl (lv_at hl 1 rfl) ?_
    refine va_get (D := D) (ci := 2) (v := .int Sp_prime) (C := "RemnantDictionary$Space") (T := T_Sp) (N := 10) hx hb hts iw_Sp hown hK hP 0 rfl rfl 1 (by decide) (hts _ k_77) (fun _ h9 => h9) rfl d_Sp_keepWork_55 ?_
    obtain ⟨Sp_rows_5, hc, hrun⟩ := bd1_s hrun
    have hFc := va_free (wc := (ws_addMultiple a_Sp_rows a_Sp_work cI cL cZ 15876 126 Sp_rows_1 Sp_work)) hD hS hA [1, 4] rfl
    refine va_callv (va_runSN (As := [.ref a_Sp_rows, .int (i1 * 126), .ref a_Sp_work, .int 0, .int (i1 + 1), .int r_4, .int Sp_prime]) (rest := []) ⟨hx, hb, hml, hown, hts⟩ (c_addMultiple (gl X) D cI cL cZ a_Sp_rows a_Sp_work F 15876 126 Sp_rows_1 Sp_work (i1 * 126) 0 (i1 + 1) r_4 Sp_prime H_2.size Sp_rows_5 hc) (⟨va_cnB 7 hts (gwN k_9) rfl rfl rfl (hN.1 _ (List.mem_of_getElem? (i := 4) rfl)) (hts _ k_14) (by decide +kernel) ⟨Nat.le_of_ble_eq_true rfl, Nat.le_of_ble_eq_true rfl⟩, hts _ k_86, trivial⟩) (gpreSW (hP.sub (ws' := (ws_addMultiple a_Sp_rows a_Sp_work cI cL cZ 15876 126 Sp_rows_1 Sp_work)) [1, 4] rfl) hK hN (hD.sub (ws' := (ws_addMultiple a_Sp_rows a_Sp_work cI cL cZ 15876 126 Sp_rows_1 Sp_work)) [1, 4] (by decide) rfl)) rfl rfl hl.1 rfl (lv_room (Nat.le_of_ble_eq_true rfl)) d_Sp_keepWork_58 ⟨Nat.le_of_ble_eq_true rfl, Nat.le_of_ble_eq_true rfl⟩) hS (fun q _ h => hFc q h) hFc (fun _ t H_6 locs ht hvm hw hB hz1 hk1 hS => ?_)
    obtain ⟨hP, hD⟩ := va_join (wr := [(a_Sp, .inr (2, [.ref a_Mo, .int Sp_prime, .int Sp_limit, .ref a_Sp_rows, .ref a_Sp_leads, .ref a_Sp_kept, .int Sp_keptCount, .ref a_Sp_work, .ref a_Sp_basis, .int Sp_basisCount])), (a_Sp_leads, .inl (cZ, 126, .inl Sp_leads)), (a_Sp_kept, .inl (cI, 126, .inl Sp_kept))]) (w1 := (ws_addMultiple a_Sp_rows a_Sp_work cI cL cZ 15876 126 Sp_rows_5 Sp_work)) hP hD [1, 4] [0, 2, 3] rfl rfl (by decide) (by decide) hk1 hFc (by have h9 := hB.1; rw [ht] at h9; exact h9) hB.2.2
    have hP : va_P D classes (ws_keepWork a_Sp a_Sp_rows a_Sp_leads a_Sp_kept a_Sp_work a_Mo a_Sp_basis cI cL cZ Sp_prime Sp_limit Sp_keptCount Sp_basisCount Sp_rows_5 Sp_leads Sp_kept Sp_work) H_6 := hP.sub [0, 3, 1, 2, 4] rfl
    have hD : va_D A (ws_keepWork a_Sp a_Sp_rows a_Sp_leads a_Sp_kept a_Sp_work a_Mo a_Sp_basis cI cL cZ Sp_prime Sp_limit Sp_keptCount Sp_basisCount Sp_rows_5 Sp_leads Sp_kept Sp_work) := hD.sub [0, 3, 1, 2, 4] (by decide) rfl
    refine lv_aload_n hx hb d_Sp_keepWork_61 rfl (lv_at hl 1 rfl) ?_
    refine va_get (D := D) (ci := 2) (v := .ref a_Sp_leads) (C := "RemnantDictionary$Space") (T := T_Sp) (N := 10) hx hb hts iw_Sp hown hK hP 0 rfl rfl 4 (by decide) (hts _ k_74) (fun _ h9 => h9) rfl d_Sp_keepWork_62 ?_
    refine lv_iload_n hx hb d_Sp_keepWork_65 rfl (lv_at hl 2 rfl) ?_
    refine lv_iconst (v := 1) hx hb d_Sp_keepWork_66 (by decide) ?_
    refine g_zast hx hb hK hP hD hS 2 2 rfl rfl hrun d_Sp_keepWork_67 (fun Sp_leads_7 hrun H locs (hP : va_P D classes (ws_keepWork a_Sp a_Sp_rows a_Sp_leads a_Sp_kept a_Sp_work a_Mo a_Sp_basis cI cL cZ Sp_prime Sp_limit Sp_keptCount Sp_basisCount Sp_rows_5 Sp_leads_7 Sp_kept Sp_work) H) (hD : va_D A (ws_keepWork a_Sp a_Sp_rows a_Sp_leads a_Sp_kept a_Sp_work a_Mo a_Sp_basis cI cL cZ Sp_prime Sp_limit Sp_keptCount Sp_basisCount Sp_rows_5 Sp_leads_7 Sp_kept Sp_work)) hS => ?_)
    refine lv_aload_n hx hb d_Sp_keepWork_68 rfl (lv_at hl 1 rfl) ?_
    refine va_get (D := D) (ci := 2) (v := .ref a_Sp_kept) (C := "RemnantDictionary$Space") (T := T_Sp) (N := 10) hx hb hts iw_Sp hown hK hP 0 rfl rfl 5 (by decide) (hts _ k_87) (fun _ h9 => h9) rfl d_Sp_keepWork_69 ?_
    refine lv_aload_n hx hb d_Sp_keepWork_72 rfl (lv_at hl 1 rfl) ?_
    refine va_get (D := D) (ci := 2) (v := .int Sp_keptCount) (C := "RemnantDictionary$Space") (T := T_Sp) (N := 10) hx hb hts iw_Sp hown hK hP 0 rfl rfl 6 (by decide) (hts _ k_79) (fun _ h9 => h9) rfl d_Sp_keepWork_73 ?_
    refine lv_iload_n hx hb d_Sp_keepWork_76 rfl (lv_at hl 2 rfl) ?_
    refine g_iast hx hb hK hP hD hS 3 0 rfl rfl hrun d_Sp_keepWork_77 (fun Sp_kept_8 hrun H locs (hP : va_P D classes (ws_keepWork a_Sp a_Sp_rows a_Sp_leads a_Sp_kept a_Sp_work a_Mo a_Sp_basis cI cL cZ Sp_prime Sp_limit Sp_keptCount Sp_basisCount Sp_rows_5 Sp_leads_7 Sp_kept_8 Sp_work) H) (hD : va_D A (ws_keepWork a_Sp a_Sp_rows a_Sp_leads a_Sp_kept a_Sp_work a_Mo a_Sp_basis cI cL cZ Sp_prime Sp_limit Sp_keptCount Sp_basisCount Sp_rows_5 Sp_leads_7 Sp_kept_8 Sp_work)) hS => ?_)
    refine lv_aload_n hx hb d_Sp_keepWork_78 rfl (lv_at hl 1 rfl) ?_
    refine lv_dup hx hb d_Sp_keepWork_79 rfl ?_
    refine va_get (D := D) (ci := 2) (v := .int Sp_keptCount) (C := "RemnantDictionary$Space") (T := T_Sp) (N := 10) hx hb hts iw_Sp hown hK hP 0 rfl rfl 6 (by decide) (hts _ k_79) (fun _ h9 => h9) rfl d_Sp_keepWork_80 ?_
    refine lv_iconst (v := 1) hx hb d_Sp_keepWork_83 (by decide) ?_
    refine lv_iadd hx hb d_Sp_keepWork_84 ?_
    refine va_put (D := D) (ci := 2) (v := .int (Sp_keptCount + 1)) (ty := .int) (C := "RemnantDictionary$Space") (T := T_Sp) (N := 10) hx hb hts iw_Sp ty_Sp ty_Sp_ok nm_Sp hown hK hP hD hS 0 rfl rfl 6 (by decide) (hts _ k_79) (fun _ h9 => h9) rfl (by decide +kernel) rfl rfl (Nat.le_of_ble_eq_true rfl) d_Sp_keepWork_85 (fun H locs (hP : va_P D classes (ws_keepWork a_Sp a_Sp_rows a_Sp_leads a_Sp_kept a_Sp_work a_Mo a_Sp_basis cI cL cZ Sp_prime Sp_limit (Sp_keptCount + 1) Sp_basisCount Sp_rows_5 Sp_leads_7 Sp_kept_8 Sp_work) H) (hD : va_D A (ws_keepWork a_Sp a_Sp_rows a_Sp_leads a_Sp_kept a_Sp_work a_Mo a_Sp_basis cI cL cZ Sp_prime Sp_limit (Sp_keptCount + 1) Sp_basisCount Sp_rows_5 Sp_leads_7 Sp_kept_8 Sp_work)) hS => ?_)
    cases hrun
    exact W.vret hx hb hr (fun t ht hW => ⟨⟨(), rfl, trivial, gB_of ht hW.alike hP hK hD⟩, hS.F ht⟩) hS.2.2 d_Sp_keepWork_88
  · cases hrun
    exact W.vret hx hb hr (fun t ht hW => ⟨⟨(), rfl, trivial, gB_of ht hW.alike hP hK hD⟩, hS.F ht⟩) hS.2.2 d_Sp_keepWork_9
set_option maxHeartbeats 4000000 in
set_option maxRecDepth 100000 in
theorem c_keepWork (l : Launch) (D : va_G) (cI cL cZ : ClassId) (a_Sp a_Sp_rows a_Sp_leads a_Sp_kept a_Sp_work a_Mo a_Sp_basis : Nat) (F : Nat) (Sp_prime Sp_limit Sp_keptCount Sp_basisCount : Int32) (Sp_rows Sp_leads Sp_kept Sp_work : Nat → Int32) (i1 : Int32) (sz : Nat) (Sp_keptCount_r : Int32) (Sp_rows_r Sp_leads_r Sp_kept_r : Nat → Int32) (hrun : m_keepWork F Sp_prime Sp_work i1 Sp_keptCount Sp_rows Sp_leads Sp_kept = some (Sp_keptCount_r, Sp_rows_r, Sp_leads_r, Sp_kept_r)) : Met l y_Sp_keepWork (.code y_Sp_keepWork c_Sp_keepWorkb 3 none :: gAll) rm_keepWork (va_Pc [.ref a_Sp, .int i1] (gPW D (gT cI cL cZ) (ws_keepWork a_Sp a_Sp_rows a_Sp_leads a_Sp_kept a_Sp_work a_Mo a_Sp_basis cI cL cZ Sp_prime Sp_limit Sp_keptCount Sp_basisCount Sp_rows Sp_leads Sp_kept Sp_work) sz)) (va_Qv (fun _ : Unit => True) (gB D (gT cI cL cZ) (va_A (ws_keepWork a_Sp a_Sp_rows a_Sp_leads a_Sp_kept a_Sp_work a_Mo a_Sp_basis cI cL cZ Sp_prime Sp_limit Sp_keptCount Sp_basisCount Sp_rows Sp_leads Sp_kept Sp_work) sz) (ws_keepWork a_Sp a_Sp_rows a_Sp_leads a_Sp_kept a_Sp_work a_Mo a_Sp_basis cI cL cZ Sp_prime Sp_limit Sp_keptCount_r Sp_basisCount Sp_rows_r Sp_leads_r Sp_kept_r Sp_work)) (va_A (ws_keepWork a_Sp a_Sp_rows a_Sp_leads a_Sp_kept a_Sp_work a_Mo a_Sp_basis cI cL cZ Sp_prime Sp_limit Sp_keptCount Sp_basisCount Sp_rows Sp_leads Sp_kept Sp_work) sz)) 0 0 (va_A (ws_keepWork a_Sp a_Sp_rows a_Sp_leads a_Sp_kept a_Sp_work a_Mo a_Sp_basis cI cL cZ Sp_prime Sp_limit Sp_keptCount Sp_basisCount Sp_rows Sp_leads Sp_kept Sp_work) sz) := by
  refine Met.ofW (cc := c_Sp_keepWorkb) (maxL := 3) (ret := none) (by decide +kernel) rfl ?_
  intro p e s m args below meth c s₁ B hml hv
  obtain ⟨rfl, hsz, hP, hK, hN, hD0⟩ := hv
  subst hsz
  have hD := hD0.self (sz := s.heap.size)
  have hl := lv_entry ([.ref a_Sp, .int i1]) (n := 3) (Nat.le_of_ble_eq_true rfl)
  rw [lg_entry_eq]
  generalize (lg_sl ([.ref a_Sp, .int i1]) ++ List.replicate (3 - (lg_sl ([.ref a_Sp, .int i1])).length) Slot.unset).toArray = ls at hl ⊢
  exact e_keepWork (p, l, e, s, m, ([.ref a_Sp, .int i1] : List Value).toArray, below, meth, c) D cI cL cZ a_Sp a_Sp_rows a_Sp_leads a_Sp_kept a_Sp_work a_Mo a_Sp_basis (va_A (ws_keepWork a_Sp a_Sp_rows a_Sp_leads a_Sp_kept a_Sp_work a_Mo a_Sp_basis cI cL cZ Sp_prime Sp_limit Sp_keptCount Sp_basisCount Sp_rows Sp_leads Sp_kept Sp_work) s.heap.size) Sp_prime Sp_limit Sp_basisCount Sp_work Sp_keptCount_r Sp_rows_r Sp_leads_r Sp_kept_r F ⟨B.exec, B.bytes, B.returns, hml, findClass_of_methodNamed B.named, fun w h => atoms_spec (ws := (.code y_Sp_keepWork c_Sp_keepWorkb 3 none :: gAll)) B.pre w (List.mem_cons_of_mem _ h), B.notSynchronized⟩ hK (fun q h => Or.inr h) hN i1 Sp_keptCount Sp_rows Sp_leads Sp_kept hrun s.heap [] ls hP hD va_S.rf hl
theorem d_Sp_absorbWork_0 : decode c_Sp_absorbWorkb 0 = .ok (.aload_n 0, 1) := by decide +kernel
theorem d_Sp_absorbWork_1 : decode c_Sp_absorbWorkb 1 = .ok (.getfield 28, 3) := by decide +kernel
theorem d_Sp_absorbWork_4 : decode c_Sp_absorbWorkb 4 = .ok (.getfield 51, 3) := by decide +kernel
theorem d_Sp_absorbWork_7 : decode c_Sp_absorbWorkb 7 = .ok (.iconst 1, 1) := by decide +kernel
theorem d_Sp_absorbWork_8 : decode c_Sp_absorbWorkb 8 = .ok (.isub, 1) := by decide +kernel
theorem d_Sp_absorbWork_9 : decode c_Sp_absorbWorkb 9 = .ok (.istore_n 1, 1) := by decide +kernel
theorem d_Sp_absorbWork_10 : decode c_Sp_absorbWorkb 10 = .ok (.iload_n 1, 1) := by decide +kernel
theorem d_Sp_absorbWork_11 : decode c_Sp_absorbWorkb 11 = .ok (.ifCond .lt 67, 3) := by decide +kernel
theorem d_Sp_absorbWork_14 : decode c_Sp_absorbWorkb 14 = .ok (.aload_n 0, 1) := by decide +kernel
theorem d_Sp_absorbWork_15 : decode c_Sp_absorbWorkb 15 = .ok (.getfield 22, 3) := by decide +kernel
theorem d_Sp_absorbWork_18 : decode c_Sp_absorbWorkb 18 = .ok (.iload_n 1, 1) := by decide +kernel
theorem d_Sp_absorbWork_19 : decode c_Sp_absorbWorkb 19 = .ok (.iaload, 1) := by decide +kernel
theorem d_Sp_absorbWork_20 : decode c_Sp_absorbWorkb 20 = .ok (.ifCond .eq 52, 3) := by decide +kernel
theorem d_Sp_absorbWork_23 : decode c_Sp_absorbWorkb 23 = .ok (.aload_n 0, 1) := by decide +kernel
theorem d_Sp_absorbWork_24 : decode c_Sp_absorbWorkb 24 = .ok (.getfield 15, 3) := by decide +kernel
theorem d_Sp_absorbWork_27 : decode c_Sp_absorbWorkb 27 = .ok (.iload_n 1, 1) := by decide +kernel
theorem d_Sp_absorbWork_28 : decode c_Sp_absorbWorkb 28 = .ok (.baload, 1) := by decide +kernel
theorem d_Sp_absorbWork_29 : decode c_Sp_absorbWorkb 29 = .ok (.ifCond .ne 9, 3) := by decide +kernel
theorem d_Sp_absorbWork_32 : decode c_Sp_absorbWorkb 32 = .ok (.aload_n 0, 1) := by decide +kernel
theorem d_Sp_absorbWork_33 : decode c_Sp_absorbWorkb 33 = .ok (.iload_n 1, 1) := by decide +kernel
theorem d_Sp_absorbWork_34 : decode c_Sp_absorbWorkb 34 = .ok (.invokevirtual 82, 3) := by decide +kernel
theorem d_Sp_absorbWork_37 : decode c_Sp_absorbWorkb 37 = .ok (.return_, 1) := by decide +kernel
theorem d_Sp_absorbWork_38 : decode c_Sp_absorbWorkb 38 = .ok (.aload_n 0, 1) := by decide +kernel
theorem d_Sp_absorbWork_39 : decode c_Sp_absorbWorkb 39 = .ok (.getfield 22, 3) := by decide +kernel
theorem d_Sp_absorbWork_42 : decode c_Sp_absorbWorkb 42 = .ok (.iconst 0, 1) := by decide +kernel
theorem d_Sp_absorbWork_43 : decode c_Sp_absorbWorkb 43 = .ok (.aload_n 0, 1) := by decide +kernel
theorem d_Sp_absorbWork_44 : decode c_Sp_absorbWorkb 44 = .ok (.getfield 9, 3) := by decide +kernel
theorem d_Sp_absorbWork_47 : decode c_Sp_absorbWorkb 47 = .ok (.iload_n 1, 1) := by decide +kernel
theorem d_Sp_absorbWork_48 : decode c_Sp_absorbWorkb 48 = .ok (.bipush 126, 2) := by decide +kernel
theorem d_Sp_absorbWork_50 : decode c_Sp_absorbWorkb 50 = .ok (.imul, 1) := by decide +kernel
theorem d_Sp_absorbWork_51 : decode c_Sp_absorbWorkb 51 = .ok (.iload_n 1, 1) := by decide +kernel
theorem d_Sp_absorbWork_52 : decode c_Sp_absorbWorkb 52 = .ok (.iconst 1, 1) := by decide +kernel
theorem d_Sp_absorbWork_53 : decode c_Sp_absorbWorkb 53 = .ok (.iadd, 1) := by decide +kernel
theorem d_Sp_absorbWork_54 : decode c_Sp_absorbWorkb 54 = .ok (.aload_n 0, 1) := by decide +kernel
theorem d_Sp_absorbWork_55 : decode c_Sp_absorbWorkb 55 = .ok (.getfield 32, 3) := by decide +kernel
theorem d_Sp_absorbWork_58 : decode c_Sp_absorbWorkb 58 = .ok (.aload_n 0, 1) := by decide +kernel
theorem d_Sp_absorbWork_59 : decode c_Sp_absorbWorkb 59 = .ok (.getfield 22, 3) := by decide +kernel
theorem d_Sp_absorbWork_62 : decode c_Sp_absorbWorkb 62 = .ok (.iload_n 1, 1) := by decide +kernel
theorem d_Sp_absorbWork_63 : decode c_Sp_absorbWorkb 63 = .ok (.iaload, 1) := by decide +kernel
theorem d_Sp_absorbWork_64 : decode c_Sp_absorbWorkb 64 = .ok (.isub, 1) := by decide +kernel
theorem d_Sp_absorbWork_65 : decode c_Sp_absorbWorkb 65 = .ok (.aload_n 0, 1) := by decide +kernel
theorem d_Sp_absorbWork_66 : decode c_Sp_absorbWorkb 66 = .ok (.getfield 32, 3) := by decide +kernel
theorem d_Sp_absorbWork_69 : decode c_Sp_absorbWorkb 69 = .ok (.invokestatic 86, 3) := by decide +kernel
theorem d_Sp_absorbWork_72 : decode c_Sp_absorbWorkb 72 = .ok (.iinc 1 (-1), 3) := by decide +kernel
theorem d_Sp_absorbWork_75 : decode c_Sp_absorbWorkb 75 = .ok (.goto (-65), 3) := by decide +kernel
theorem d_Sp_absorbWork_78 : decode c_Sp_absorbWorkb 78 = .ok (.return_, 1) := by decide +kernel
abbrev ws_absorbWork (a_Mo a_Sp a_Sp_rows a_Sp_leads a_Sp_kept a_Sp_work a_Mo_codes a_Mo_degrees a_Mo_keys a_Mo_raised a_Sp_basis : Nat) (cI cL cZ : ClassId) (Mo_variables Mo_order Mo_highest Mo_count Sp_prime Sp_limit Sp_keptCount Sp_basisCount : Int32) (Sp_rows Sp_leads Sp_kept Sp_work : Nat → Int32) : va_W := [(a_Mo, .inr (1, [.int Mo_variables, .int Mo_order, .int Mo_highest, .int Mo_count, .ref a_Mo_codes, .ref a_Mo_degrees, .ref a_Mo_keys, .ref a_Mo_raised])), (a_Sp, .inr (2, [.ref a_Mo, .int Sp_prime, .int Sp_limit, .ref a_Sp_rows, .ref a_Sp_leads, .ref a_Sp_kept, .int Sp_keptCount, .ref a_Sp_work, .ref a_Sp_basis, .int Sp_basisCount])), (a_Sp_rows, .inl (cI, 15876, .inl Sp_rows)), (a_Sp_leads, .inl (cZ, 126, .inl Sp_leads)), (a_Sp_kept, .inl (cI, 126, .inl Sp_kept)), (a_Sp_work, .inl (cI, 126, .inl Sp_work))]
abbrev rm_absorbWork : Room := { frames := 3, cells := 0, slots := 0, locals := 68 }
abbrev g_absorbWork (X : gX) (D : va_G) (cI cL cZ : ClassId) (a_Mo a_Sp a_Sp_rows a_Sp_leads a_Sp_kept a_Sp_work a_Mo_codes a_Mo_degrees a_Mo_keys a_Mo_raised a_Sp_basis : Nat) (A : Nat → Prop) (Mo_variables Mo_order Mo_highest Mo_count Sp_prime Sp_limit Sp_basisCount Sp_keptCount_r : Int32) (Sp_rows_r Sp_leads_r Sp_kept_r Sp_work_r : Nat → Int32) (pc : Nat) (lv : List (Nat × Value)) (st : List Value) (Sp_keptCount : Int32) (Sp_rows Sp_leads Sp_kept Sp_work : Nat → Int32) : Prop := ∀ (H : Heap) (locs : List Loc) (ls : Array Slot), va_P D classes (ws_absorbWork a_Mo a_Sp a_Sp_rows a_Sp_leads a_Sp_kept a_Sp_work a_Mo_codes a_Mo_degrees a_Mo_keys a_Mo_raised a_Sp_basis cI cL cZ Mo_variables Mo_order Mo_highest Mo_count Sp_prime Sp_limit Sp_keptCount Sp_basisCount Sp_rows Sp_leads Sp_kept Sp_work) H → va_D A (ws_absorbWork a_Mo a_Sp a_Sp_rows a_Sp_leads a_Sp_kept a_Sp_work a_Mo_codes a_Mo_degrees a_Mo_keys a_Mo_raised a_Sp_basis cI cL cZ Mo_variables Mo_order Mo_highest Mo_count Sp_prime Sp_limit Sp_keptCount Sp_basisCount Sp_rows Sp_leads Sp_kept Sp_work) → va_S A (gs X).heap H locs → lv_has ls 2 lv → gWW X rm_absorbWork H locs 0 0 (MQ (gbl X) (va_Qv (fun _ : Unit => True) (gB D (gT cI cL cZ) A (ws_absorbWork a_Mo a_Sp a_Sp_rows a_Sp_leads a_Sp_kept a_Sp_work a_Mo_codes a_Mo_degrees a_Mo_keys a_Mo_raised a_Sp_basis cI cL cZ Mo_variables Mo_order Mo_highest Mo_count Sp_prime Sp_limit Sp_keptCount_r Sp_basisCount Sp_rows_r Sp_leads_r Sp_kept_r Sp_work_r)) A) (ga X) (gs X) 0 0 A) (F0 (gm X) pc ls st)
set_option maxHeartbeats 4000000 in
set_option maxRecDepth 100000 in
theorem w_absorbWork_10 (X : gX) (D : va_G) (cI cL cZ : ClassId) (a_Mo a_Sp a_Sp_rows a_Sp_leads a_Sp_kept a_Sp_work a_Mo_codes a_Mo_degrees a_Mo_keys a_Mo_raised a_Sp_basis : Nat) (A : Nat → Prop) (Mo_variables Mo_order Mo_highest Mo_count Sp_prime Sp_limit Sp_basisCount Sp_keptCount_r : Int32) (Sp_rows_r Sp_leads_r Sp_kept_r Sp_work_r : Nat → Int32) (F : Nat) (C0 : gC X c_Sp_absorbWorkb none 2 "RemnantDictionary$Space" gAll) (hK : va_K D classes (gT cI cL cZ) (gs X)) (hA : ∀ q : Nat, (gs X).heap.size ≤ q → A q) (hN : gN (gs X)) (k10 : Int32 → Int32 → (Nat → Int32) → (Nat → Int32) → (Nat → Int32) → (Nat → Int32) → Option (Int32 × (Nat → Int32) × (Nat → Int32) × (Nat → Int32) × (Nat → Int32))) (hk10 : ∀ (i1 Sp_keptCount : Int32) (Sp_rows Sp_leads Sp_kept Sp_work : Nat → Int32), k10 i1 Sp_keptCount Sp_rows Sp_leads Sp_kept Sp_work = some (Sp_keptCount_r, Sp_rows_r, Sp_leads_r, Sp_kept_r, Sp_work_r) → g_absorbWork X D cI cL cZ a_Mo a_Sp a_Sp_rows a_Sp_leads a_Sp_kept a_Sp_work a_Mo_codes a_Mo_degrees a_Mo_keys a_Mo_raised a_Sp_basis A Mo_variables Mo_order Mo_highest Mo_count Sp_prime Sp_limit Sp_basisCount Sp_keptCount_r Sp_rows_r Sp_leads_r Sp_kept_r Sp_work_r 10 [(0, .ref a_Sp), (1, .int i1)] [] Sp_keptCount Sp_rows Sp_leads Sp_kept Sp_work) (i1 Sp_keptCount : Int32) (Sp_rows Sp_leads Sp_kept Sp_work : Nat → Int32) (hrun : s_absorbWork_10 F Mo_count Sp_prime k10 i1 Sp_keptCount Sp_rows Sp_leads Sp_kept Sp_work = some (Sp_keptCount_r, Sp_rows_r, Sp_leads_r, Sp_kept_r, Sp_work_r)) : g_absorbWork X D cI cL cZ a_Mo a_Sp a_Sp_rows a_Sp_leads a_Sp_kept a_Sp_work a_Mo_codes a_Mo_degrees a_Mo_keys a_Mo_raised a_Sp_basis A Mo_variables Mo_order Mo_highest Mo_count Sp_prime Sp_limit Sp_basisCount Sp_keptCount_r Sp_rows_r Sp_leads_r Sp_kept_r Sp_work_r 10 [(0, .ref a_Sp), (1, .int i1)] [] Sp_keptCount Sp_rows Sp_leads Sp_kept Sp_work := by
  have C1 := C0
  obtain ⟨hx, hb, hr, hml, hown, hts, hlocks⟩ := C1
  unfold s_absorbWork_10 at hrun
  intro H locs ls hP hD hS hl
  refine lv_iload_n hx hb d_Sp_absorbWork_10 rfl (lv_at hl 1 rfl) ?_
  refine g_if_lt (tgt := 78) hx hb d_Sp_absorbWork_11 (by decide) hrun (fun _ hrun => ?_) (fun _ hrun => ?_)
  · cases hrun
    exact W.vret hx hb hr (fun t ht hW => ⟨⟨(), rfl, trivial, gB_of ht hW.alike hP hK hD⟩, hS.F ht⟩) hS.2.2 d_Sp_absorbWork_78
  · refine lv_aload_n hx hb d_Sp_absorbWork_14 rfl (lv_at hl 0 rfl) ?_
    refine va_get (D := D) (ci := 2) (v := .ref a_Sp_work) (C := "RemnantDictionary$Space") (T := T_Sp) (N := 10) hx hb hts iw_Sp hown hK hP 1 rfl rfl 7 (by decide) (hts _ k_84) (fun _ h9 => h9) rfl d_Sp_absorbWork_15 ?_
    refine lv_iload_n hx hb d_Sp_absorbWork_18 rfl (lv_at hl 1 rfl) ?_
    refine g_iald hx hb hK hP 5 0 rfl rfl hrun d_Sp_absorbWork_19 (fun x_1 hrun => ?_)
    refine g_if_eq (tgt := 72) hx hb d_Sp_absorbWork_20 (by decide) hrun (fun _ hrun => ?_) (fun _ hrun => ?_)
    · refine lv_iinc (v := (i1 + (-1))) (lv' := [(1, .int (i1 + (-1))), (0, .ref a_Sp)]) hx hb d_Sp_absorbWork_72 hl (k := 1) rfl rfl (by decide) rfl (fun ls hl => ?_)
      refine lv_goto (tgt := 10) hx hb d_Sp_absorbWork_75 (by decide) ?_
      exact hk10 (i1 + (-1)) Sp_keptCount Sp_rows Sp_leads Sp_kept Sp_work hrun H locs ls hP hD hS (lv_sub hl [1, 0] rfl)
    · refine lv_aload_n hx hb d_Sp_absorbWork_23 rfl (lv_at hl 0 rfl) ?_
      refine va_get (D := D) (ci := 2) (v := .ref a_Sp_leads) (C := "RemnantDictionary$Space") (T := T_Sp) (N := 10) hx hb hts iw_Sp hown hK hP 1 rfl rfl 4 (by decide) (hts _ k_74) (fun _ h9 => h9) rfl d_Sp_absorbWork_24 ?_
      refine lv_iload_n hx hb d_Sp_absorbWork_27 rfl (lv_at hl 1 rfl) ?_
      refine g_zald hx hb hK hP 3 2 rfl rfl hrun d_Sp_absorbWork_28 (fun x_2 hrun => ?_)
      refine g_if_ne (tgt := 38) hx hb d_Sp_absorbWork_29 (by decide) hrun (fun _ hrun => ?_) (fun _ hrun => ?_)
      · refine lv_aload_n hx hb d_Sp_absorbWork_38 rfl (lv_at hl 0 rfl) ?_
        refine va_get (D := D) (ci := 2) (v := .ref a_Sp_work) (C := "RemnantDictionary$Space") (T := T_Sp) (N := 10) hx hb hts iw_Sp hown hK hP 1 rfl rfl 7 (by decide) (hts _ k_84) (fun _ h9 => h9) rfl d_Sp_absorbWork_39 ?_
        refine lv_iconst (v := 0) hx hb d_Sp_absorbWork_42 (by decide) ?_
        refine lv_aload_n hx hb d_Sp_absorbWork_43 rfl (lv_at hl 0 rfl) ?_
        refine va_get (D := D) (ci := 2) (v := .ref a_Sp_rows) (C := "RemnantDictionary$Space") (T := T_Sp) (N := 10) hx hb hts iw_Sp hown hK hP 1 rfl rfl 3 (by decide) (hts _ k_81) (fun _ h9 => h9) rfl d_Sp_absorbWork_44 ?_
        refine lv_iload_n hx hb d_Sp_absorbWork_47 rfl (lv_at hl 1 rfl) ?_
        refine lv_bipush (v := 126) hx hb d_Sp_absorbWork_48 (by decide) ?_
        refine lv_imul hx hb d_Sp_absorbWork_50 ?_
        refine lv_iload_n hx hb d_Sp_absorbWork_51 rfl (lv_at hl 1 rfl) ?_
        refine lv_iconst (v := 1) hx hb d_Sp_absorbWork_52 (by decide) ?_
        refine lv_iadd hx hb d_Sp_absorbWork_53 ?_
        refine lv_aload_n hx hb d_Sp_absorbWork_54 rfl (lv_at hl 0 rfl) ?_
        refine va_get (D := D) (ci := 2) (v := .int Sp_prime) (C := "RemnantDictionary$Space") (T := T_Sp) (N := 10) hx hb hts iw_Sp hown hK hP 1 rfl rfl 1 (by decide) (hts _ k_77) (fun _ h9 => h9) rfl d_Sp_absorbWork_55 ?_
        refine lv_aload_n hx hb d_Sp_absorbWork_58 rfl (lv_at hl 0 rfl) ?_
        refine va_get (D := D) (ci := 2) (v := .ref a_Sp_work) (C := "RemnantDictionary$Space") (T := T_Sp) (N := 10) hx hb hts iw_Sp hown hK hP 1 rfl rfl 7 (by decide) (hts _ k_84) (fun _ h9 => h9) rfl d_Sp_absorbWork_59 ?_
        refine lv_iload_n hx hb d_Sp_absorbWork_62 rfl (lv_at hl 1 rfl) ?_
        refine g_iald hx hb hK hP 5 0 rfl rfl hrun d_Sp_absorbWork_63 (fun x_3 hrun => ?_)
        refine lv_isub hx hb d_Sp_absorbWork_64 ?_
        refine lv_aload_n hx hb d_Sp_absorbWork_65 rfl (lv_at hl 0 rfl) ?_
        refine va_get (D := D) (ci := 2) (v := .int Sp_prime) (C := "RemnantDictionary$Space") (T := T_Sp) (N := 10) hx hb hts iw_Sp hown hK hP 1 rfl rfl 1 (by decide) (hts _ k_77) (fun _ h9 => h9) rfl d_Sp_absorbWork_66 ?_
        obtain ⟨Sp_work_4, hc, hrun⟩ := bd1_s hrun
        have hFc := va_free (wc := (ws_addMultiple a_Sp_work a_Sp_rows cI cL cZ 126 15876 Sp_work Sp_rows)) hD hS hA [5, 2] rfl
        refine va_callv (va_runSN (As := [.ref a_Sp_work, .int 0, .ref a_Sp_rows, .int (i1 * 126), .int (i1 + 1), .int (Sp_prime - x_3), .int Sp_prime]) (rest := []) ⟨hx, hb, hml, hown, hts⟩ (c_addMultiple (gl X) D cI cL cZ a_Sp_work a_Sp_rows F 126 15876 Sp_work Sp_rows 0 (i1 * 126) (i1 + 1) (Sp_prime - x_3) Sp_prime H.size Sp_work_4 hc) (⟨va_cnB 7 hts (gwN k_9) rfl rfl rfl (hN.1 _ (List.mem_of_getElem? (i := 4) rfl)) (hts _ k_14) (by decide +kernel) ⟨Nat.le_of_ble_eq_true rfl, Nat.le_of_ble_eq_true rfl⟩, hts _ k_86, trivial⟩) (gpreSW (hP.sub (ws' := (ws_addMultiple a_Sp_work a_Sp_rows cI cL cZ 126 15876 Sp_work Sp_rows)) [5, 2] rfl) hK hN (hD.sub (ws' := (ws_addMultiple a_Sp_work a_Sp_rows cI cL cZ 126 15876 Sp_work Sp_rows)) [5, 2] (by decide) rfl)) rfl rfl hl.1 rfl (lv_room (Nat.le_of_ble_eq_true rfl)) d_Sp_absorbWork_69 ⟨Nat.le_of_ble_eq_true rfl, Nat.le_of_ble_eq_true rfl⟩) hS (fun q _ h => hFc q h) hFc (fun _ t H_5 locs ht hvm hw hB hz1 hk1 hS => ?_)
        obtain ⟨hP, hD⟩ := va_join (wr := [(a_Mo, .inr (1, [.int Mo_variables, .int Mo_order, .int Mo_highest, .int Mo_count, .ref a_Mo_codes, .ref a_Mo_degrees, .ref a_Mo_keys, .ref a_Mo_raised])), (a_Sp, .inr (2, [.ref a_Mo, .int Sp_prime, .int Sp_limit, .ref a_Sp_rows, .ref a_Sp_leads, .ref a_Sp_kept, .int Sp_keptCount, .ref a_Sp_work, .ref a_Sp_basis, .int Sp_basisCount])), (a_Sp_leads, .inl (cZ, 126, .inl Sp_leads)), (a_Sp_kept, .inl (cI, 126, .inl Sp_kept))]) (w1 := (ws_addMultiple a_Sp_work a_Sp_rows cI cL cZ 126 15876 Sp_work_4 Sp_rows)) hP hD [5, 2] [0, 1, 3, 4] rfl rfl (by decide) (by decide) hk1 hFc (by have h9 := hB.1; rw [ht] at h9; exact h9) hB.2.2
        have hP : va_P D classes (ws_absorbWork a_Mo a_Sp a_Sp_rows a_Sp_leads a_Sp_kept a_Sp_work a_Mo_codes a_Mo_degrees a_Mo_keys a_Mo_raised a_Sp_basis cI cL cZ Mo_variables Mo_order Mo_highest Mo_count Sp_prime Sp_limit Sp_keptCount Sp_basisCount Sp_rows Sp_leads Sp_kept Sp_work_4) H_5 := hP.sub [0, 1, 5, 2, 3, 4] rfl
        have hD : va_D A (ws_absorbWork a_Mo a_Sp a_Sp_rows a_Sp_leads a_Sp_kept a_Sp_work a_Mo_codes a_Mo_degrees a_Mo_keys a_Mo_raised a_Sp_basis cI cL cZ Mo_variables Mo_order Mo_highest Mo_count Sp_prime Sp_limit Sp_keptCount Sp_basisCount Sp_rows Sp_leads Sp_kept Sp_work_4) := hD.sub [0, 1, 5, 2, 3, 4] (by decide) rfl
        refine lv_iinc (v := (i1 + (-1))) (lv' := [(1, .int (i1 + (-1))), (0, .ref a_Sp)]) hx hb d_Sp_absorbWork_72 hl (k := 1) rfl rfl (by decide) rfl (fun ls hl => ?_)
        refine lv_goto (tgt := 10) hx hb d_Sp_absorbWork_75 (by decide) ?_
        exact hk10 (i1 + (-1)) Sp_keptCount Sp_rows Sp_leads Sp_kept Sp_work_4 hrun H_5 locs ls hP hD hS (lv_sub hl [1, 0] rfl)
      · refine lv_aload_n hx hb d_Sp_absorbWork_32 rfl (lv_at hl 0 rfl) ?_
        refine lv_iload_n hx hb d_Sp_absorbWork_33 rfl (lv_at hl 1 rfl) ?_
        obtain ⟨Sp_keptCount_6, Sp_rows_7, Sp_leads_8, Sp_kept_9, hc, hrun⟩ := bd4_s hrun
        have hFc := va_free (wc := (ws_keepWork a_Sp a_Sp_rows a_Sp_leads a_Sp_kept a_Sp_work a_Mo a_Sp_basis cI cL cZ Sp_prime Sp_limit Sp_keptCount Sp_basisCount Sp_rows Sp_leads Sp_kept Sp_work)) hD hS hA [1, 2, 3, 4, 5] rfl
        refine va_callv (va_runV (As := [.int i1]) (rest := []) ⟨hx, hb, hml, hown, hts⟩ (c_keepWork (gl X) D cI cL cZ a_Sp a_Sp_rows a_Sp_leads a_Sp_kept a_Sp_work a_Mo a_Sp_basis F Sp_prime Sp_limit Sp_keptCount Sp_basisCount Sp_rows Sp_leads Sp_kept Sp_work i1 H.size Sp_keptCount_6 Sp_rows_7 Sp_leads_8 Sp_kept_9 hc) (cwV 1 hts (gwV k_92 k_89 k_90 k_91 k_88) rfl rfl rfl (by decide +kernel) ⟨Nat.le_of_ble_eq_true rfl, Nat.le_of_ble_eq_true rfl⟩) (gpreVW (hP.sub (ws' := (ws_keepWork a_Sp a_Sp_rows a_Sp_leads a_Sp_kept a_Sp_work a_Mo a_Sp_basis cI cL cZ Sp_prime Sp_limit Sp_keptCount Sp_basisCount Sp_rows Sp_leads Sp_kept Sp_work)) [1, 2, 3, 4, 5] rfl) hK hN (hD.sub (ws' := (ws_keepWork a_Sp a_Sp_rows a_Sp_leads a_Sp_kept a_Sp_work a_Mo a_Sp_basis cI cL cZ Sp_prime Sp_limit Sp_keptCount Sp_basisCount Sp_rows Sp_leads Sp_kept Sp_work)) [1, 2, 3, 4, 5] (by decide) rfl) 2 0 rfl rfl) rfl rfl hl.1 rfl (lv_room (Nat.le_of_ble_eq_true rfl)) d_Sp_absorbWork_34 ⟨Nat.le_of_ble_eq_true rfl, Nat.le_of_ble_eq_true rfl⟩) hS (fun q _ h => hFc q h) hFc (fun _ t H_10 locs ht hvm hw hB hz1 hk1 hS => ?_)
        obtain ⟨hP, hD⟩ := va_join (wr := [(a_Mo, .inr (1, [.int Mo_variables, .int Mo_order, .int Mo_highest, .int Mo_count, .ref a_Mo_codes, .ref a_Mo_degrees, .ref a_Mo_keys, .ref a_Mo_raised]))]) (w1 := (ws_keepWork a_Sp a_Sp_rows a_Sp_leads a_Sp_kept a_Sp_work a_Mo a_Sp_basis cI cL cZ Sp_prime Sp_limit Sp_keptCount_6 Sp_basisCount Sp_rows_7 Sp_leads_8 Sp_kept_9 Sp_work)) hP hD [1, 2, 3, 4, 5] [0] rfl rfl (by decide) (by decide) hk1 hFc (by have h9 := hB.1; rw [ht] at h9; exact h9) hB.2.2
        have hP : va_P D classes (ws_absorbWork a_Mo a_Sp a_Sp_rows a_Sp_leads a_Sp_kept a_Sp_work a_Mo_codes a_Mo_degrees a_Mo_keys a_Mo_raised a_Sp_basis cI cL cZ Mo_variables Mo_order Mo_highest Mo_count Sp_prime Sp_limit Sp_keptCount_6 Sp_basisCount Sp_rows_7 Sp_leads_8 Sp_kept_9 Sp_work) H_10 := hP.sub [0, 1, 2, 3, 4, 5] rfl
        have hD : va_D A (ws_absorbWork a_Mo a_Sp a_Sp_rows a_Sp_leads a_Sp_kept a_Sp_work a_Mo_codes a_Mo_degrees a_Mo_keys a_Mo_raised a_Sp_basis cI cL cZ Mo_variables Mo_order Mo_highest Mo_count Sp_prime Sp_limit Sp_keptCount_6 Sp_basisCount Sp_rows_7 Sp_leads_8 Sp_kept_9 Sp_work) := hD.sub [0, 1, 2, 3, 4, 5] (by decide) rfl
        cases hrun
        exact W.vret hx hb hr (fun t ht hW => ⟨⟨(), rfl, trivial, gB_of ht hW.alike hP hK hD⟩, hS.F ht⟩) hS.2.2 d_Sp_absorbWork_37
theorem v_absorbWork_10 (X : gX) (D : va_G) (cI cL cZ : ClassId) (a_Mo a_Sp a_Sp_rows a_Sp_leads a_Sp_kept a_Sp_work a_Mo_codes a_Mo_degrees a_Mo_keys a_Mo_raised a_Sp_basis : Nat) (A : Nat → Prop) (Mo_variables Mo_order Mo_highest Mo_count Sp_prime Sp_limit Sp_basisCount Sp_keptCount_r : Int32) (Sp_rows_r Sp_leads_r Sp_kept_r Sp_work_r : Nat → Int32) (F : Nat) (C0 : gC X c_Sp_absorbWorkb none 2 "RemnantDictionary$Space" gAll) (hK : va_K D classes (gT cI cL cZ) (gs X)) (hA : ∀ q : Nat, (gs X).heap.size ≤ q → A q) (hN : gN (gs X))  : ∀ (n : Nat) (i1 Sp_keptCount : Int32) (Sp_rows Sp_leads Sp_kept Sp_work : Nat → Int32), b_absorbWork_10 F Mo_count Sp_prime n i1 Sp_keptCount Sp_rows Sp_leads Sp_kept Sp_work = some (Sp_keptCount_r, Sp_rows_r, Sp_leads_r, Sp_kept_r, Sp_work_r) → g_absorbWork X D cI cL cZ a_Mo a_Sp a_Sp_rows a_Sp_leads a_Sp_kept a_Sp_work a_Mo_codes a_Mo_degrees a_Mo_keys a_Mo_raised a_Sp_basis A Mo_variables Mo_order Mo_highest Mo_count Sp_prime Sp_limit Sp_basisCount Sp_keptCount_r Sp_rows_r Sp_leads_r Sp_kept_r Sp_work_r 10 [(0, .ref a_Sp), (1, .int i1)] [] Sp_keptCount Sp_rows Sp_leads Sp_kept Sp_work := by
  intro n
  induction n with
  | zero => intro i1 Sp_keptCount Sp_rows Sp_leads Sp_kept Sp_work hrun; cases hrun
  | succ n ih =>
    intro i1 Sp_keptCount Sp_rows Sp_leads Sp_kept Sp_work hrun
    exact w_absorbWork_10 X D cI cL cZ a_Mo a_Sp a_Sp_rows a_Sp_leads a_Sp_kept a_Sp_work a_Mo_codes a_Mo_degrees a_Mo_keys a_Mo_raised a_Sp_basis A Mo_variables Mo_order Mo_highest Mo_count Sp_prime Sp_limit Sp_basisCount Sp_keptCount_r Sp_rows_r Sp_leads_r Sp_kept_r Sp_work_r F C0 hK hA hN (b_absorbWork_10 F Mo_count Sp_prime n) ih i1 Sp_keptCount Sp_rows Sp_leads Sp_kept Sp_work hrun
set_option maxHeartbeats 4000000 in
set_option maxRecDepth 100000 in
theorem e_absorbWork (X : gX) (D : va_G) (cI cL cZ : ClassId) (a_Mo a_Sp a_Sp_rows a_Sp_leads a_Sp_kept a_Sp_work a_Mo_codes a_Mo_degrees a_Mo_keys a_Mo_raised a_Sp_basis : Nat) (A : Nat → Prop) (Mo_variables Mo_order Mo_highest Mo_count Sp_prime Sp_limit Sp_basisCount Sp_keptCount_r : Int32) (Sp_rows_r Sp_leads_r Sp_kept_r Sp_work_r : Nat → Int32) (F : Nat) (C0 : gC X c_Sp_absorbWorkb none 2 "RemnantDictionary$Space" gAll) (hK : va_K D classes (gT cI cL cZ) (gs X)) (hA : ∀ q : Nat, (gs X).heap.size ≤ q → A q) (hN : gN (gs X)) (Sp_keptCount : Int32) (Sp_rows Sp_leads Sp_kept Sp_work : Nat → Int32) (hrun : m_absorbWork F Mo_count Sp_prime Sp_keptCount Sp_rows Sp_leads Sp_kept Sp_work = some (Sp_keptCount_r, Sp_rows_r, Sp_leads_r, Sp_kept_r, Sp_work_r)) : g_absorbWork X D cI cL cZ a_Mo a_Sp a_Sp_rows a_Sp_leads a_Sp_kept a_Sp_work a_Mo_codes a_Mo_degrees a_Mo_keys a_Mo_raised a_Sp_basis A Mo_variables Mo_order Mo_highest Mo_count Sp_prime Sp_limit Sp_basisCount Sp_keptCount_r Sp_rows_r Sp_leads_r Sp_kept_r Sp_work_r 0 [(0, .ref a_Sp)] [] Sp_keptCount Sp_rows Sp_leads Sp_kept Sp_work := by
  have C1 := C0
  obtain ⟨hx, hb, hr, hml, hown, hts, hlocks⟩ := C1
  unfold m_absorbWork at hrun
  intro H locs ls hP hD hS hl
  refine lv_aload_n hx hb d_Sp_absorbWork_0 rfl (lv_at hl 0 rfl) ?_
  refine va_get (D := D) (ci := 2) (v := .ref a_Mo) (C := "RemnantDictionary$Space") (T := T_Sp) (N := 10) hx hb hts iw_Sp hown hK hP 1 rfl rfl 0 (by decide) (hts _ k_94) (fun _ h9 => h9) rfl d_Sp_absorbWork_1 ?_
  refine va_get (D := D) (ci := 1) (v := .int Mo_count) (C := "RemnantDictionary$Monomials") (T := T_Mo) (N := 8) hx hb hts iw_Mo hown hK hP 0 rfl rfl 3 (by decide) (hts _ k_95) (fun _ h9 => h9) rfl d_Sp_absorbWork_4 ?_
  refine lv_iconst (v := 1) hx hb d_Sp_absorbWork_7 (by decide) ?_
  refine lv_isub hx hb d_Sp_absorbWork_8 ?_
  refine lv_istore_n (lv' := [(1, .int (Mo_count - 1)), (0, .ref a_Sp)]) hx hb d_Sp_absorbWork_9 rfl hl (by decide) rfl (fun ls hl => ?_)
  exact v_absorbWork_10 X D cI cL cZ a_Mo a_Sp a_Sp_rows a_Sp_leads a_Sp_kept a_Sp_work a_Mo_codes a_Mo_degrees a_Mo_keys a_Mo_raised a_Sp_basis A Mo_variables Mo_order Mo_highest Mo_count Sp_prime Sp_limit Sp_basisCount Sp_keptCount_r Sp_rows_r Sp_leads_r Sp_kept_r Sp_work_r F C0 hK hA hN  F (Mo_count - 1) Sp_keptCount Sp_rows Sp_leads Sp_kept Sp_work hrun H locs ls hP hD hS (lv_sub hl [1, 0] rfl)
set_option maxHeartbeats 4000000 in
set_option maxRecDepth 100000 in
theorem c_absorbWork (l : Launch) (D : va_G) (cI cL cZ : ClassId) (a_Mo a_Sp a_Sp_rows a_Sp_leads a_Sp_kept a_Sp_work a_Mo_codes a_Mo_degrees a_Mo_keys a_Mo_raised a_Sp_basis : Nat) (F : Nat) (Mo_variables Mo_order Mo_highest Mo_count Sp_prime Sp_limit Sp_keptCount Sp_basisCount : Int32) (Sp_rows Sp_leads Sp_kept Sp_work : Nat → Int32) (sz : Nat) (Sp_keptCount_r : Int32) (Sp_rows_r Sp_leads_r Sp_kept_r Sp_work_r : Nat → Int32) (hrun : m_absorbWork F Mo_count Sp_prime Sp_keptCount Sp_rows Sp_leads Sp_kept Sp_work = some (Sp_keptCount_r, Sp_rows_r, Sp_leads_r, Sp_kept_r, Sp_work_r)) : Met l y_Sp_absorbWork (.code y_Sp_absorbWork c_Sp_absorbWorkb 2 none :: gAll) rm_absorbWork (va_Pc [.ref a_Sp] (gPW D (gT cI cL cZ) (ws_absorbWork a_Mo a_Sp a_Sp_rows a_Sp_leads a_Sp_kept a_Sp_work a_Mo_codes a_Mo_degrees a_Mo_keys a_Mo_raised a_Sp_basis cI cL cZ Mo_variables Mo_order Mo_highest Mo_count Sp_prime Sp_limit Sp_keptCount Sp_basisCount Sp_rows Sp_leads Sp_kept Sp_work) sz)) (va_Qv (fun _ : Unit => True) (gB D (gT cI cL cZ) (va_A (ws_absorbWork a_Mo a_Sp a_Sp_rows a_Sp_leads a_Sp_kept a_Sp_work a_Mo_codes a_Mo_degrees a_Mo_keys a_Mo_raised a_Sp_basis cI cL cZ Mo_variables Mo_order Mo_highest Mo_count Sp_prime Sp_limit Sp_keptCount Sp_basisCount Sp_rows Sp_leads Sp_kept Sp_work) sz) (ws_absorbWork a_Mo a_Sp a_Sp_rows a_Sp_leads a_Sp_kept a_Sp_work a_Mo_codes a_Mo_degrees a_Mo_keys a_Mo_raised a_Sp_basis cI cL cZ Mo_variables Mo_order Mo_highest Mo_count Sp_prime Sp_limit Sp_keptCount_r Sp_basisCount Sp_rows_r Sp_leads_r Sp_kept_r Sp_work_r)) (va_A (ws_absorbWork a_Mo a_Sp a_Sp_rows a_Sp_leads a_Sp_kept a_Sp_work a_Mo_codes a_Mo_degrees a_Mo_keys a_Mo_raised a_Sp_basis cI cL cZ Mo_variables Mo_order Mo_highest Mo_count Sp_prime Sp_limit Sp_keptCount Sp_basisCount Sp_rows Sp_leads Sp_kept Sp_work) sz)) 0 0 (va_A (ws_absorbWork a_Mo a_Sp a_Sp_rows a_Sp_leads a_Sp_kept a_Sp_work a_Mo_codes a_Mo_degrees a_Mo_keys a_Mo_raised a_Sp_basis cI cL cZ Mo_variables Mo_order Mo_highest Mo_count Sp_prime Sp_limit Sp_keptCount Sp_basisCount Sp_rows Sp_leads Sp_kept Sp_work) sz) := by
  refine Met.ofW (cc := c_Sp_absorbWorkb) (maxL := 2) (ret := none) (by decide +kernel) rfl ?_
  intro p e s m args below meth c s₁ B hml hv
  obtain ⟨rfl, hsz, hP, hK, hN, hD0⟩ := hv
  subst hsz
  have hD := hD0.self (sz := s.heap.size)
  have hl := lv_entry ([.ref a_Sp]) (n := 2) (Nat.le_of_ble_eq_true rfl)
  rw [lg_entry_eq]
  generalize (lg_sl ([.ref a_Sp]) ++ List.replicate (2 - (lg_sl ([.ref a_Sp])).length) Slot.unset).toArray = ls at hl ⊢
  exact e_absorbWork (p, l, e, s, m, ([.ref a_Sp] : List Value).toArray, below, meth, c) D cI cL cZ a_Mo a_Sp a_Sp_rows a_Sp_leads a_Sp_kept a_Sp_work a_Mo_codes a_Mo_degrees a_Mo_keys a_Mo_raised a_Sp_basis (va_A (ws_absorbWork a_Mo a_Sp a_Sp_rows a_Sp_leads a_Sp_kept a_Sp_work a_Mo_codes a_Mo_degrees a_Mo_keys a_Mo_raised a_Sp_basis cI cL cZ Mo_variables Mo_order Mo_highest Mo_count Sp_prime Sp_limit Sp_keptCount Sp_basisCount Sp_rows Sp_leads Sp_kept Sp_work) s.heap.size) Mo_variables Mo_order Mo_highest Mo_count Sp_prime Sp_limit Sp_basisCount Sp_keptCount_r Sp_rows_r Sp_leads_r Sp_kept_r Sp_work_r F ⟨B.exec, B.bytes, B.returns, hml, findClass_of_methodNamed B.named, fun w h => atoms_spec (ws := (.code y_Sp_absorbWork c_Sp_absorbWorkb 2 none :: gAll)) B.pre w (List.mem_cons_of_mem _ h), B.notSynchronized⟩ hK (fun q h => Or.inr h) hN Sp_keptCount Sp_rows Sp_leads Sp_kept Sp_work hrun s.heap [] ls hP hD va_S.rf hl
theorem d_Sp_loadProduct_0 : decode c_Sp_loadProductb 0 = .ok (.aload_n 0, 1) := by decide +kernel
theorem d_Sp_loadProduct_1 : decode c_Sp_loadProductb 1 = .ok (.getfield 22, 3) := by decide +kernel
theorem d_Sp_loadProduct_4 : decode c_Sp_loadProductb 4 = .ok (.iconst 0, 1) := by decide +kernel
theorem d_Sp_loadProduct_5 : decode c_Sp_loadProductb 5 = .ok (.invokestatic 73, 3) := by decide +kernel
theorem d_Sp_loadProduct_8 : decode c_Sp_loadProductb 8 = .ok (.iconst 0, 1) := by decide +kernel
theorem d_Sp_loadProduct_9 : decode c_Sp_loadProductb 9 = .ok (.istore_n 3, 1) := by decide +kernel
theorem d_Sp_loadProduct_10 : decode c_Sp_loadProductb 10 = .ok (.iload_n 3, 1) := by decide +kernel
theorem d_Sp_loadProduct_11 : decode c_Sp_loadProductb 11 = .ok (.iload_n 2, 1) := by decide +kernel
theorem d_Sp_loadProduct_12 : decode c_Sp_loadProductb 12 = .ok (.if_icmp .gt 49, 3) := by decide +kernel
theorem d_Sp_loadProduct_15 : decode c_Sp_loadProductb 15 = .ok (.aload_n 0, 1) := by decide +kernel
theorem d_Sp_loadProduct_16 : decode c_Sp_loadProductb 16 = .ok (.getfield 28, 3) := by decide +kernel
theorem d_Sp_loadProduct_19 : decode c_Sp_loadProductb 19 = .ok (.getfield 79, 3) := by decide +kernel
theorem d_Sp_loadProduct_22 : decode c_Sp_loadProductb 22 = .ok (.iload_n 1, 1) := by decide +kernel
theorem d_Sp_loadProduct_23 : decode c_Sp_loadProductb 23 = .ok (.bipush 126, 2) := by decide +kernel
theorem d_Sp_loadProduct_25 : decode c_Sp_loadProductb 25 = .ok (.imul, 1) := by decide +kernel
theorem d_Sp_loadProduct_26 : decode c_Sp_loadProductb 26 = .ok (.iload_n 3, 1) := by decide +kernel
theorem d_Sp_loadProduct_27 : decode c_Sp_loadProductb 27 = .ok (.iadd, 1) := by decide +kernel
theorem d_Sp_loadProduct_28 : decode c_Sp_loadProductb 28 = .ok (.iaload, 1) := by decide +kernel
theorem d_Sp_loadProduct_29 : decode c_Sp_loadProductb 29 = .ok (.istore 4, 2) := by decide +kernel
theorem d_Sp_loadProduct_31 : decode c_Sp_loadProductb 31 = .ok (.iload 4, 2) := by decide +kernel
theorem d_Sp_loadProduct_33 : decode c_Sp_loadProductb 33 = .ok (.iconst (-1), 1) := by decide +kernel
theorem d_Sp_loadProduct_34 : decode c_Sp_loadProductb 34 = .ok (.if_icmp .eq 21, 3) := by decide +kernel
theorem d_Sp_loadProduct_37 : decode c_Sp_loadProductb 37 = .ok (.aload_n 0, 1) := by decide +kernel
theorem d_Sp_loadProduct_38 : decode c_Sp_loadProductb 38 = .ok (.getfield 22, 3) := by decide +kernel
theorem d_Sp_loadProduct_41 : decode c_Sp_loadProductb 41 = .ok (.iload 4, 2) := by decide +kernel
theorem d_Sp_loadProduct_43 : decode c_Sp_loadProductb 43 = .ok (.aload_n 0, 1) := by decide +kernel
theorem d_Sp_loadProduct_44 : decode c_Sp_loadProductb 44 = .ok (.getfield 9, 3) := by decide +kernel
theorem d_Sp_loadProduct_47 : decode c_Sp_loadProductb 47 = .ok (.iload_n 2, 1) := by decide +kernel
theorem d_Sp_loadProduct_48 : decode c_Sp_loadProductb 48 = .ok (.bipush 126, 2) := by decide +kernel
theorem d_Sp_loadProduct_50 : decode c_Sp_loadProductb 50 = .ok (.imul, 1) := by decide +kernel
theorem d_Sp_loadProduct_51 : decode c_Sp_loadProductb 51 = .ok (.iload_n 3, 1) := by decide +kernel
theorem d_Sp_loadProduct_52 : decode c_Sp_loadProductb 52 = .ok (.iadd, 1) := by decide +kernel
theorem d_Sp_loadProduct_53 : decode c_Sp_loadProductb 53 = .ok (.iaload, 1) := by decide +kernel
theorem d_Sp_loadProduct_54 : decode c_Sp_loadProductb 54 = .ok (.iastore, 1) := by decide +kernel
theorem d_Sp_loadProduct_55 : decode c_Sp_loadProductb 55 = .ok (.iinc 3 1, 3) := by decide +kernel
theorem d_Sp_loadProduct_58 : decode c_Sp_loadProductb 58 = .ok (.goto (-48), 3) := by decide +kernel
theorem d_Sp_loadProduct_61 : decode c_Sp_loadProductb 61 = .ok (.return_, 1) := by decide +kernel
abbrev ws_loadProduct (a_Mo a_Sp a_Mo_raised a_Sp_rows a_Sp_work a_Mo_codes a_Mo_degrees a_Mo_keys a_Sp_leads a_Sp_kept a_Sp_basis : Nat) (cI cL cZ : ClassId) (Mo_variables Mo_order Mo_highest Mo_count Sp_prime Sp_limit Sp_keptCount Sp_basisCount : Int32) (Mo_raised Sp_rows Sp_work : Nat → Int32) : va_W := [(a_Mo, .inr (1, [.int Mo_variables, .int Mo_order, .int Mo_highest, .int Mo_count, .ref a_Mo_codes, .ref a_Mo_degrees, .ref a_Mo_keys, .ref a_Mo_raised])), (a_Sp, .inr (2, [.ref a_Mo, .int Sp_prime, .int Sp_limit, .ref a_Sp_rows, .ref a_Sp_leads, .ref a_Sp_kept, .int Sp_keptCount, .ref a_Sp_work, .ref a_Sp_basis, .int Sp_basisCount])), (a_Mo_raised, .inl (cI, 504, .inl Mo_raised)), (a_Sp_rows, .inl (cI, 15876, .inl Sp_rows)), (a_Sp_work, .inl (cI, 126, .inl Sp_work))]
abbrev rm_loadProduct : Room := { frames := 1, cells := 0, slots := 0, locals := 23 }
abbrev g_loadProduct (X : gX) (D : va_G) (cI cL cZ : ClassId) (a_Mo a_Sp a_Mo_raised a_Sp_rows a_Sp_work a_Mo_codes a_Mo_degrees a_Mo_keys a_Sp_leads a_Sp_kept a_Sp_basis : Nat) (A : Nat → Prop) (Mo_variables Mo_order Mo_highest Mo_count Sp_prime Sp_limit Sp_keptCount Sp_basisCount : Int32) (Mo_raised Sp_rows Sp_work_r : Nat → Int32) (pc : Nat) (lv : List (Nat × Value)) (st : List Value) (Sp_work : Nat → Int32) : Prop := ∀ (H : Heap) (locs : List Loc) (ls : Array Slot), va_P D classes (ws_loadProduct a_Mo a_Sp a_Mo_raised a_Sp_rows a_Sp_work a_Mo_codes a_Mo_degrees a_Mo_keys a_Sp_leads a_Sp_kept a_Sp_basis cI cL cZ Mo_variables Mo_order Mo_highest Mo_count Sp_prime Sp_limit Sp_keptCount Sp_basisCount Mo_raised Sp_rows Sp_work) H → va_D A (ws_loadProduct a_Mo a_Sp a_Mo_raised a_Sp_rows a_Sp_work a_Mo_codes a_Mo_degrees a_Mo_keys a_Sp_leads a_Sp_kept a_Sp_basis cI cL cZ Mo_variables Mo_order Mo_highest Mo_count Sp_prime Sp_limit Sp_keptCount Sp_basisCount Mo_raised Sp_rows Sp_work) → va_S A (gs X).heap H locs → lv_has ls 5 lv → gWW X rm_loadProduct H locs 0 0 (MQ (gbl X) (va_Qv (fun _ : Unit => True) (gB D (gT cI cL cZ) A (ws_loadProduct a_Mo a_Sp a_Mo_raised a_Sp_rows a_Sp_work a_Mo_codes a_Mo_degrees a_Mo_keys a_Sp_leads a_Sp_kept a_Sp_basis cI cL cZ Mo_variables Mo_order Mo_highest Mo_count Sp_prime Sp_limit Sp_keptCount Sp_basisCount Mo_raised Sp_rows Sp_work_r)) A) (ga X) (gs X) 0 0 A) (F0 (gm X) pc ls st)
set_option maxHeartbeats 4000000 in
set_option maxRecDepth 100000 in
theorem w_loadProduct_10 (X : gX) (D : va_G) (cI cL cZ : ClassId) (a_Mo a_Sp a_Mo_raised a_Sp_rows a_Sp_work a_Mo_codes a_Mo_degrees a_Mo_keys a_Sp_leads a_Sp_kept a_Sp_basis : Nat) (A : Nat → Prop) (Mo_variables Mo_order Mo_highest Mo_count Sp_prime Sp_limit Sp_keptCount Sp_basisCount : Int32) (Mo_raised Sp_rows Sp_work_r : Nat → Int32) (F : Nat) (C0 : gC X c_Sp_loadProductb none 5 "RemnantDictionary$Space" gAll) (hK : va_K D classes (gT cI cL cZ) (gs X)) (hA : ∀ q : Nat, (gs X).heap.size ≤ q → A q) (hN : gN (gs X)) (k10 : Int32 → Int32 → Int32 → (Nat → Int32) → Option ((Nat → Int32))) (hk10 : ∀ (i1 i2 i3 : Int32) (Sp_work : Nat → Int32), k10 i1 i2 i3 Sp_work = some Sp_work_r → g_loadProduct X D cI cL cZ a_Mo a_Sp a_Mo_raised a_Sp_rows a_Sp_work a_Mo_codes a_Mo_degrees a_Mo_keys a_Sp_leads a_Sp_kept a_Sp_basis A Mo_variables Mo_order Mo_highest Mo_count Sp_prime Sp_limit Sp_keptCount Sp_basisCount Mo_raised Sp_rows Sp_work_r 10 [(0, .ref a_Sp), (1, .int i1), (2, .int i2), (3, .int i3)] [] Sp_work) (i1 i2 i3 : Int32) (Sp_work : Nat → Int32) (hrun : s_loadProduct_10 F Mo_raised Sp_rows k10 i1 i2 i3 Sp_work = some Sp_work_r) : g_loadProduct X D cI cL cZ a_Mo a_Sp a_Mo_raised a_Sp_rows a_Sp_work a_Mo_codes a_Mo_degrees a_Mo_keys a_Sp_leads a_Sp_kept a_Sp_basis A Mo_variables Mo_order Mo_highest Mo_count Sp_prime Sp_limit Sp_keptCount Sp_basisCount Mo_raised Sp_rows Sp_work_r 10 [(0, .ref a_Sp), (1, .int i1), (2, .int i2), (3, .int i3)] [] Sp_work := by
  have C1 := C0
  obtain ⟨hx, hb, hr, hml, hown, hts, hlocks⟩ := C1
  unfold s_loadProduct_10 at hrun
  intro H locs ls hP hD hS hl
  refine lv_iload_n hx hb d_Sp_loadProduct_10 rfl (lv_at hl 3 rfl) ?_
  refine lv_iload_n hx hb d_Sp_loadProduct_11 rfl (lv_at hl 2 rfl) ?_
  refine g_icmp_gt (tgt := 61) hx hb d_Sp_loadProduct_12 (by decide) hrun (fun _ hrun => ?_) (fun _ hrun => ?_)
  · cases hrun
    exact W.vret hx hb hr (fun t ht hW => ⟨⟨(), rfl, trivial, gB_of ht hW.alike hP hK hD⟩, hS.F ht⟩) hS.2.2 d_Sp_loadProduct_61
  · refine lv_aload_n hx hb d_Sp_loadProduct_15 rfl (lv_at hl 0 rfl) ?_
    refine va_get (D := D) (ci := 2) (v := .ref a_Mo) (C := "RemnantDictionary$Space") (T := T_Sp) (N := 10) hx hb hts iw_Sp hown hK hP 1 rfl rfl 0 (by decide) (hts _ k_94) (fun _ h9 => h9) rfl d_Sp_loadProduct_16 ?_
    refine va_get (D := D) (ci := 1) (v := .ref a_Mo_raised) (C := "RemnantDictionary$Monomials") (T := T_Mo) (N := 8) hx hb hts iw_Mo hown hK hP 0 rfl rfl 7 (by decide) (hts _ k_96) (fun _ h9 => h9) rfl d_Sp_loadProduct_19 ?_
    refine lv_iload_n hx hb d_Sp_loadProduct_22 rfl (lv_at hl 1 rfl) ?_
    refine lv_bipush (v := 126) hx hb d_Sp_loadProduct_23 (by decide) ?_
    refine lv_imul hx hb d_Sp_loadProduct_25 ?_
    refine lv_iload_n hx hb d_Sp_loadProduct_26 rfl (lv_at hl 3 rfl) ?_
    refine lv_iadd hx hb d_Sp_loadProduct_27 ?_
    refine g_iald hx hb hK hP 2 0 rfl rfl hrun d_Sp_loadProduct_28 (fun x_1 hrun => ?_)
    refine lv_istore (lv' := [(4, .int x_1), (0, .ref a_Sp), (1, .int i1), (2, .int i2), (3, .int i3)]) hx hb d_Sp_loadProduct_29 hl (by decide) rfl (fun ls hl => ?_)
    refine lv_iload hx hb d_Sp_loadProduct_31 (lv_at hl 0 rfl) ?_
    refine lv_iconst (v := (-1)) hx hb d_Sp_loadProduct_33 (by decide) ?_
    refine g_icmp_eq (tgt := 55) hx hb d_Sp_loadProduct_34 (by decide) hrun (fun _ hrun => ?_) (fun _ hrun => ?_)
    · refine lv_iinc (v := (i3 + 1)) (lv' := [(3, .int (i3 + 1)), (4, .int x_1), (0, .ref a_Sp), (1, .int i1), (2, .int i2)]) hx hb d_Sp_loadProduct_55 hl (k := 4) rfl rfl (by decide) rfl (fun ls hl => ?_)
      refine lv_goto (tgt := 10) hx hb d_Sp_loadProduct_58 (by decide) ?_
      exact hk10 i1 i2 (i3 + 1) Sp_work hrun H locs ls hP hD hS (lv_sub hl [2, 3, 4, 0] rfl)
    · refine lv_aload_n hx hb d_Sp_loadProduct_37 rfl (lv_at hl 1 rfl) ?_
      refine va_get (D := D) (ci := 2) (v := .ref a_Sp_work) (C := "RemnantDictionary$Space") (T := T_Sp) (N := 10) hx hb hts iw_Sp hown hK hP 1 rfl rfl 7 (by decide) (hts _ k_84) (fun _ h9 => h9) rfl d_Sp_loadProduct_38 ?_
      refine lv_iload hx hb d_Sp_loadProduct_41 (lv_at hl 0 rfl) ?_
      refine lv_aload_n hx hb d_Sp_loadProduct_43 rfl (lv_at hl 1 rfl) ?_
      refine va_get (D := D) (ci := 2) (v := .ref a_Sp_rows) (C := "RemnantDictionary$Space") (T := T_Sp) (N := 10) hx hb hts iw_Sp hown hK hP 1 rfl rfl 3 (by decide) (hts _ k_81) (fun _ h9 => h9) rfl d_Sp_loadProduct_44 ?_
      refine lv_iload_n hx hb d_Sp_loadProduct_47 rfl (lv_at hl 3 rfl) ?_
      refine lv_bipush (v := 126) hx hb d_Sp_loadProduct_48 (by decide) ?_
      refine lv_imul hx hb d_Sp_loadProduct_50 ?_
      refine lv_iload_n hx hb d_Sp_loadProduct_51 rfl (lv_at hl 4 rfl) ?_
      refine lv_iadd hx hb d_Sp_loadProduct_52 ?_
      refine g_iald hx hb hK hP 3 0 rfl rfl hrun d_Sp_loadProduct_53 (fun x_2 hrun => ?_)
      refine g_iast hx hb hK hP hD hS 4 0 rfl rfl hrun d_Sp_loadProduct_54 (fun Sp_work_3 hrun H locs (hP : va_P D classes (ws_loadProduct a_Mo a_Sp a_Mo_raised a_Sp_rows a_Sp_work a_Mo_codes a_Mo_degrees a_Mo_keys a_Sp_leads a_Sp_kept a_Sp_basis cI cL cZ Mo_variables Mo_order Mo_highest Mo_count Sp_prime Sp_limit Sp_keptCount Sp_basisCount Mo_raised Sp_rows Sp_work_3) H) (hD : va_D A (ws_loadProduct a_Mo a_Sp a_Mo_raised a_Sp_rows a_Sp_work a_Mo_codes a_Mo_degrees a_Mo_keys a_Sp_leads a_Sp_kept a_Sp_basis cI cL cZ Mo_variables Mo_order Mo_highest Mo_count Sp_prime Sp_limit Sp_keptCount Sp_basisCount Mo_raised Sp_rows Sp_work_3)) hS => ?_)
      refine lv_iinc (v := (i3 + 1)) (lv' := [(3, .int (i3 + 1)), (4, .int x_1), (0, .ref a_Sp), (1, .int i1), (2, .int i2)]) hx hb d_Sp_loadProduct_55 hl (k := 4) rfl rfl (by decide) rfl (fun ls hl => ?_)
      refine lv_goto (tgt := 10) hx hb d_Sp_loadProduct_58 (by decide) ?_
      exact hk10 i1 i2 (i3 + 1) Sp_work_3 hrun H locs ls hP hD hS (lv_sub hl [2, 3, 4, 0] rfl)
theorem v_loadProduct_10 (X : gX) (D : va_G) (cI cL cZ : ClassId) (a_Mo a_Sp a_Mo_raised a_Sp_rows a_Sp_work a_Mo_codes a_Mo_degrees a_Mo_keys a_Sp_leads a_Sp_kept a_Sp_basis : Nat) (A : Nat → Prop) (Mo_variables Mo_order Mo_highest Mo_count Sp_prime Sp_limit Sp_keptCount Sp_basisCount : Int32) (Mo_raised Sp_rows Sp_work_r : Nat → Int32) (F : Nat) (C0 : gC X c_Sp_loadProductb none 5 "RemnantDictionary$Space" gAll) (hK : va_K D classes (gT cI cL cZ) (gs X)) (hA : ∀ q : Nat, (gs X).heap.size ≤ q → A q) (hN : gN (gs X))  : ∀ (n : Nat) (i1 i2 i3 : Int32) (Sp_work : Nat → Int32), b_loadProduct_10 F Mo_raised Sp_rows n i1 i2 i3 Sp_work = some Sp_work_r → g_loadProduct X D cI cL cZ a_Mo a_Sp a_Mo_raised a_Sp_rows a_Sp_work a_Mo_codes a_Mo_degrees a_Mo_keys a_Sp_leads a_Sp_kept a_Sp_basis A Mo_variables Mo_order Mo_highest Mo_count Sp_prime Sp_limit Sp_keptCount Sp_basisCount Mo_raised Sp_rows Sp_work_r 10 [(0, .ref a_Sp), (1, .int i1), (2, .int i2), (3, .int i3)] [] Sp_work := by
  intro n
  induction n with
  | zero => intro i1 i2 i3 Sp_work hrun; cases hrun
  | succ n ih =>
    intro i1 i2 i3 Sp_work hrun
    exact w_loadProduct_10 X D cI cL cZ a_Mo a_Sp a_Mo_raised a_Sp_rows a_Sp_work a_Mo_codes a_Mo_degrees a_Mo_keys a_Sp_leads a_Sp_kept a_Sp_basis A Mo_variables Mo_order Mo_highest Mo_count Sp_prime Sp_limit Sp_keptCount Sp_basisCount Mo_raised Sp_rows Sp_work_r F C0 hK hA hN (b_loadProduct_10 F Mo_raised Sp_rows n) ih i1 i2 i3 Sp_work hrun
set_option maxHeartbeats 4000000 in
set_option maxRecDepth 100000 in
theorem e_loadProduct (X : gX) (D : va_G) (cI cL cZ : ClassId) (a_Mo a_Sp a_Mo_raised a_Sp_rows a_Sp_work a_Mo_codes a_Mo_degrees a_Mo_keys a_Sp_leads a_Sp_kept a_Sp_basis : Nat) (A : Nat → Prop) (Mo_variables Mo_order Mo_highest Mo_count Sp_prime Sp_limit Sp_keptCount Sp_basisCount : Int32) (Mo_raised Sp_rows Sp_work_r : Nat → Int32) (F : Nat) (C0 : gC X c_Sp_loadProductb none 5 "RemnantDictionary$Space" gAll) (hK : va_K D classes (gT cI cL cZ) (gs X)) (hA : ∀ q : Nat, (gs X).heap.size ≤ q → A q) (hN : gN (gs X)) (i1 i2 : Int32) (Sp_work : Nat → Int32) (hrun : m_loadProduct F Mo_raised Sp_rows i1 i2 Sp_work = some Sp_work_r) : g_loadProduct X D cI cL cZ a_Mo a_Sp a_Mo_raised a_Sp_rows a_Sp_work a_Mo_codes a_Mo_degrees a_Mo_keys a_Sp_leads a_Sp_kept a_Sp_basis A Mo_variables Mo_order Mo_highest Mo_count Sp_prime Sp_limit Sp_keptCount Sp_basisCount Mo_raised Sp_rows Sp_work_r 0 [(0, .ref a_Sp), (1, .int i1), (2, .int i2)] [] Sp_work := by
  have C1 := C0
  obtain ⟨hx, hb, hr, hml, hown, hts, hlocks⟩ := C1
  unfold m_loadProduct at hrun
  intro H locs ls hP hD hS hl
  refine lv_aload_n hx hb d_Sp_loadProduct_0 rfl (lv_at hl 0 rfl) ?_
  refine va_get (D := D) (ci := 2) (v := .ref a_Sp_work) (C := "RemnantDictionary$Space") (T := T_Sp) (N := 10) hx hb hts iw_Sp hown hK hP 1 rfl rfl 7 (by decide) (hts _ k_84) (fun _ h9 => h9) rfl d_Sp_loadProduct_1 ?_
  refine lv_iconst (v := 0) hx hb d_Sp_loadProduct_4 (by decide) ?_
  obtain ⟨Sp_work_1, hc, hrun⟩ := bd1_s hrun
  have hFc := va_free (wc := (ws_fill a_Sp_work cI cL cZ 126 Sp_work)) hD hS hA [4] rfl
  refine va_callv (va_runS (As := [.ref a_Sp_work, .int 0]) (rest := []) ⟨hx, hb, hml, hown, hts⟩ (c_fill (gl X) D cI cL cZ a_Sp_work F 126 Sp_work 0 H.size Sp_work_1 hc) (va_cwS 2 hts (gwS k_99 k_98 k_4 k_1) rfl rfl rfl (by decide +kernel) ⟨Nat.le_of_ble_eq_true rfl, Nat.le_of_ble_eq_true rfl⟩) (gpreSW (hP.sub (ws' := (ws_fill a_Sp_work cI cL cZ 126 Sp_work)) [4] rfl) hK hN (hD.sub (ws' := (ws_fill a_Sp_work cI cL cZ 126 Sp_work)) [4] (by decide) rfl)) rfl rfl hl.1 rfl (lv_room (Nat.le_of_ble_eq_true rfl)) d_Sp_loadProduct_5 ⟨Nat.le_of_ble_eq_true rfl, Nat.le_of_ble_eq_true rfl⟩) hS (fun q _ h => hFc q h) hFc (fun _ t H_2 locs ht hvm hw hB hz1 hk1 hS => ?_)
  obtain ⟨hP, hD⟩ := va_join (wr := [(a_Mo, .inr (1, [.int Mo_variables, .int Mo_order, .int Mo_highest, .int Mo_count, .ref a_Mo_codes, .ref a_Mo_degrees, .ref a_Mo_keys, .ref a_Mo_raised])), (a_Sp, .inr (2, [.ref a_Mo, .int Sp_prime, .int Sp_limit, .ref a_Sp_rows, .ref a_Sp_leads, .ref a_Sp_kept, .int Sp_keptCount, .ref a_Sp_work, .ref a_Sp_basis, .int Sp_basisCount])), (a_Mo_raised, .inl (cI, 504, .inl Mo_raised)), (a_Sp_rows, .inl (cI, 15876, .inl Sp_rows))]) (w1 := (ws_fill a_Sp_work cI cL cZ 126 Sp_work_1)) hP hD [4] [0, 1, 2, 3] rfl rfl (by decide) (by decide) hk1 hFc (by have h9 := hB.1; rw [ht] at h9; exact h9) hB.2.2
  have hP : va_P D classes (ws_loadProduct a_Mo a_Sp a_Mo_raised a_Sp_rows a_Sp_work a_Mo_codes a_Mo_degrees a_Mo_keys a_Sp_leads a_Sp_kept a_Sp_basis cI cL cZ Mo_variables Mo_order Mo_highest Mo_count Sp_prime Sp_limit Sp_keptCount Sp_basisCount Mo_raised Sp_rows Sp_work_1) H_2 := hP.sub [0, 1, 2, 3, 4] rfl
  have hD : va_D A (ws_loadProduct a_Mo a_Sp a_Mo_raised a_Sp_rows a_Sp_work a_Mo_codes a_Mo_degrees a_Mo_keys a_Sp_leads a_Sp_kept a_Sp_basis cI cL cZ Mo_variables Mo_order Mo_highest Mo_count Sp_prime Sp_limit Sp_keptCount Sp_basisCount Mo_raised Sp_rows Sp_work_1) := hD.sub [0, 1, 2, 3, 4] (by decide) rfl
  refine lv_iconst (v := 0) hx hb d_Sp_loadProduct_8 (by decide) ?_
  refine lv_istore_n (lv' := [(3, .int 0), (0, .ref a_Sp), (1, .int i1), (2, .int i2)]) hx hb d_Sp_loadProduct_9 rfl hl (by decide) rfl (fun ls hl => ?_)
  exact v_loadProduct_10 X D cI cL cZ a_Mo a_Sp a_Mo_raised a_Sp_rows a_Sp_work a_Mo_codes a_Mo_degrees a_Mo_keys a_Sp_leads a_Sp_kept a_Sp_basis A Mo_variables Mo_order Mo_highest Mo_count Sp_prime Sp_limit Sp_keptCount Sp_basisCount Mo_raised Sp_rows Sp_work_r F C0 hK hA hN  F i1 i2 0 Sp_work_1 hrun H_2 locs ls hP hD hS (lv_sub hl [1, 2, 3, 0] rfl)
set_option maxHeartbeats 4000000 in
set_option maxRecDepth 100000 in
theorem c_loadProduct (l : Launch) (D : va_G) (cI cL cZ : ClassId) (a_Mo a_Sp a_Mo_raised a_Sp_rows a_Sp_work a_Mo_codes a_Mo_degrees a_Mo_keys a_Sp_leads a_Sp_kept a_Sp_basis : Nat) (F : Nat) (Mo_variables Mo_order Mo_highest Mo_count Sp_prime Sp_limit Sp_keptCount Sp_basisCount : Int32) (Mo_raised Sp_rows Sp_work : Nat → Int32) (i1 i2 : Int32) (sz : Nat) (Sp_work_r : Nat → Int32) (hrun : m_loadProduct F Mo_raised Sp_rows i1 i2 Sp_work = some Sp_work_r) : Met l y_Sp_loadProduct (.code y_Sp_loadProduct c_Sp_loadProductb 5 none :: gAll) rm_loadProduct (va_Pc [.ref a_Sp, .int i1, .int i2] (gPW D (gT cI cL cZ) (ws_loadProduct a_Mo a_Sp a_Mo_raised a_Sp_rows a_Sp_work a_Mo_codes a_Mo_degrees a_Mo_keys a_Sp_leads a_Sp_kept a_Sp_basis cI cL cZ Mo_variables Mo_order Mo_highest Mo_count Sp_prime Sp_limit Sp_keptCount Sp_basisCount Mo_raised Sp_rows Sp_work) sz)) (va_Qv (fun _ : Unit => True) (gB D (gT cI cL cZ) (va_A (ws_loadProduct a_Mo a_Sp a_Mo_raised a_Sp_rows a_Sp_work a_Mo_codes a_Mo_degrees a_Mo_keys a_Sp_leads a_Sp_kept a_Sp_basis cI cL cZ Mo_variables Mo_order Mo_highest Mo_count Sp_prime Sp_limit Sp_keptCount Sp_basisCount Mo_raised Sp_rows Sp_work) sz) (ws_loadProduct a_Mo a_Sp a_Mo_raised a_Sp_rows a_Sp_work a_Mo_codes a_Mo_degrees a_Mo_keys a_Sp_leads a_Sp_kept a_Sp_basis cI cL cZ Mo_variables Mo_order Mo_highest Mo_count Sp_prime Sp_limit Sp_keptCount Sp_basisCount Mo_raised Sp_rows Sp_work_r)) (va_A (ws_loadProduct a_Mo a_Sp a_Mo_raised a_Sp_rows a_Sp_work a_Mo_codes a_Mo_degrees a_Mo_keys a_Sp_leads a_Sp_kept a_Sp_basis cI cL cZ Mo_variables Mo_order Mo_highest Mo_count Sp_prime Sp_limit Sp_keptCount Sp_basisCount Mo_raised Sp_rows Sp_work) sz)) 0 0 (va_A (ws_loadProduct a_Mo a_Sp a_Mo_raised a_Sp_rows a_Sp_work a_Mo_codes a_Mo_degrees a_Mo_keys a_Sp_leads a_Sp_kept a_Sp_basis cI cL cZ Mo_variables Mo_order Mo_highest Mo_count Sp_prime Sp_limit Sp_keptCount Sp_basisCount Mo_raised Sp_rows Sp_work) sz) := by
  refine Met.ofW (cc := c_Sp_loadProductb) (maxL := 5) (ret := none) (by decide +kernel) rfl ?_
  intro p e s m args below meth c s₁ B hml hv
  obtain ⟨rfl, hsz, hP, hK, hN, hD0⟩ := hv
  subst hsz
  have hD := hD0.self (sz := s.heap.size)
  have hl := lv_entry ([.ref a_Sp, .int i1, .int i2]) (n := 5) (Nat.le_of_ble_eq_true rfl)
  rw [lg_entry_eq]
  generalize (lg_sl ([.ref a_Sp, .int i1, .int i2]) ++ List.replicate (5 - (lg_sl ([.ref a_Sp, .int i1, .int i2])).length) Slot.unset).toArray = ls at hl ⊢
  exact e_loadProduct (p, l, e, s, m, ([.ref a_Sp, .int i1, .int i2] : List Value).toArray, below, meth, c) D cI cL cZ a_Mo a_Sp a_Mo_raised a_Sp_rows a_Sp_work a_Mo_codes a_Mo_degrees a_Mo_keys a_Sp_leads a_Sp_kept a_Sp_basis (va_A (ws_loadProduct a_Mo a_Sp a_Mo_raised a_Sp_rows a_Sp_work a_Mo_codes a_Mo_degrees a_Mo_keys a_Sp_leads a_Sp_kept a_Sp_basis cI cL cZ Mo_variables Mo_order Mo_highest Mo_count Sp_prime Sp_limit Sp_keptCount Sp_basisCount Mo_raised Sp_rows Sp_work) s.heap.size) Mo_variables Mo_order Mo_highest Mo_count Sp_prime Sp_limit Sp_keptCount Sp_basisCount Mo_raised Sp_rows Sp_work_r F ⟨B.exec, B.bytes, B.returns, hml, findClass_of_methodNamed B.named, fun w h => atoms_spec (ws := (.code y_Sp_loadProduct c_Sp_loadProductb 5 none :: gAll)) B.pre w (List.mem_cons_of_mem _ h), B.notSynchronized⟩ hK (fun q h => Or.inr h) hN i1 i2 Sp_work hrun s.heap [] ls hP hD va_S.rf hl
theorem d_Sp_takes_0 : decode c_Sp_takesb 0 = .ok (.aload_n 1, 1) := by decide +kernel
theorem d_Sp_takes_1 : decode c_Sp_takesb 1 = .ok (.iload_n 2, 1) := by decide +kernel
theorem d_Sp_takes_2 : decode c_Sp_takesb 2 = .ok (.aload_n 0, 1) := by decide +kernel
theorem d_Sp_takes_3 : decode c_Sp_takesb 3 = .ok (.getfield 22, 3) := by decide +kernel
theorem d_Sp_takes_6 : decode c_Sp_takesb 6 = .ok (.iconst 0, 1) := by decide +kernel
theorem d_Sp_takes_7 : decode c_Sp_takesb 7 = .ok (.bipush 126, 2) := by decide +kernel
theorem d_Sp_takes_9 : decode c_Sp_takesb 9 = .ok (.invokestatic 45, 3) := by decide +kernel
theorem d_Sp_takes_12 : decode c_Sp_takesb 12 = .ok (.aload_n 0, 1) := by decide +kernel
theorem d_Sp_takes_13 : decode c_Sp_takesb 13 = .ok (.getfield 28, 3) := by decide +kernel
theorem d_Sp_takes_16 : decode c_Sp_takesb 16 = .ok (.getfield 51, 3) := by decide +kernel
theorem d_Sp_takes_19 : decode c_Sp_takesb 19 = .ok (.iconst 1, 1) := by decide +kernel
theorem d_Sp_takes_20 : decode c_Sp_takesb 20 = .ok (.isub, 1) := by decide +kernel
theorem d_Sp_takes_21 : decode c_Sp_takesb 21 = .ok (.istore_n 3, 1) := by decide +kernel
theorem d_Sp_takes_22 : decode c_Sp_takesb 22 = .ok (.iload_n 3, 1) := by decide +kernel
theorem d_Sp_takes_23 : decode c_Sp_takesb 23 = .ok (.ifCond .lt 36, 3) := by decide +kernel
theorem d_Sp_takes_26 : decode c_Sp_takesb 26 = .ok (.aload_n 0, 1) := by decide +kernel
theorem d_Sp_takes_27 : decode c_Sp_takesb 27 = .ok (.getfield 28, 3) := by decide +kernel
theorem d_Sp_takes_30 : decode c_Sp_takesb 30 = .ok (.getfield 56, 3) := by decide +kernel
theorem d_Sp_takes_33 : decode c_Sp_takesb 33 = .ok (.iload_n 3, 1) := by decide +kernel
theorem d_Sp_takes_34 : decode c_Sp_takesb 34 = .ok (.iaload, 1) := by decide +kernel
theorem d_Sp_takes_35 : decode c_Sp_takesb 35 = .ok (.aload_n 0, 1) := by decide +kernel
theorem d_Sp_takes_36 : decode c_Sp_takesb 36 = .ok (.getfield 36, 3) := by decide +kernel
theorem d_Sp_takes_39 : decode c_Sp_takesb 39 = .ok (.if_icmp .le 20, 3) := by decide +kernel
theorem d_Sp_takes_42 : decode c_Sp_takesb 42 = .ok (.aload_n 0, 1) := by decide +kernel
theorem d_Sp_takes_43 : decode c_Sp_takesb 43 = .ok (.getfield 22, 3) := by decide +kernel
theorem d_Sp_takes_46 : decode c_Sp_takesb 46 = .ok (.iload_n 3, 1) := by decide +kernel
theorem d_Sp_takes_47 : decode c_Sp_takesb 47 = .ok (.iaload, 1) := by decide +kernel
theorem d_Sp_takes_48 : decode c_Sp_takesb 48 = .ok (.ifCond .eq 5, 3) := by decide +kernel
theorem d_Sp_takes_51 : decode c_Sp_takesb 51 = .ok (.iconst 0, 1) := by decide +kernel
theorem d_Sp_takes_52 : decode c_Sp_takesb 52 = .ok (.ireturn, 1) := by decide +kernel
theorem d_Sp_takes_53 : decode c_Sp_takesb 53 = .ok (.iinc 3 (-1), 3) := by decide +kernel
theorem d_Sp_takes_56 : decode c_Sp_takesb 56 = .ok (.goto (-34), 3) := by decide +kernel
theorem d_Sp_takes_59 : decode c_Sp_takesb 59 = .ok (.aload_n 0, 1) := by decide +kernel
theorem d_Sp_takes_60 : decode c_Sp_takesb 60 = .ok (.invokevirtual 59, 3) := by decide +kernel
theorem d_Sp_takes_63 : decode c_Sp_takesb 63 = .ok (.iconst 1, 1) := by decide +kernel
theorem d_Sp_takes_64 : decode c_Sp_takesb 64 = .ok (.ireturn, 1) := by decide +kernel
abbrev ws_spTakes (a_Mo a_Sp a_RD_generators a_Mo_degrees a_Sp_rows a_Sp_leads a_Sp_kept a_Sp_work a_Mo_codes a_Mo_keys a_Mo_raised a_Sp_basis : Nat) (cI cL cZ : ClassId) (Mo_variables Mo_order Mo_highest Mo_count Sp_prime Sp_limit Sp_keptCount Sp_basisCount : Int32) (RD_generators Mo_degrees Sp_rows Sp_leads Sp_kept Sp_work : Nat → Int32) : va_W := [(a_Mo, .inr (1, [.int Mo_variables, .int Mo_order, .int Mo_highest, .int Mo_count, .ref a_Mo_codes, .ref a_Mo_degrees, .ref a_Mo_keys, .ref a_Mo_raised])), (a_Sp, .inr (2, [.ref a_Mo, .int Sp_prime, .int Sp_limit, .ref a_Sp_rows, .ref a_Sp_leads, .ref a_Sp_kept, .int Sp_keptCount, .ref a_Sp_work, .ref a_Sp_basis, .int Sp_basisCount])), (a_RD_generators, .inl (cI, 1008, .inl RD_generators)), (a_Mo_degrees, .inl (cI, 126, .inl Mo_degrees)), (a_Sp_rows, .inl (cI, 15876, .inl Sp_rows)), (a_Sp_leads, .inl (cZ, 126, .inl Sp_leads)), (a_Sp_kept, .inl (cI, 126, .inl Sp_kept)), (a_Sp_work, .inl (cI, 126, .inl Sp_work))]
abbrev rm_spTakes : Room := { frames := 4, cells := 0, slots := 0, locals := 89 }
abbrev g_spTakes (X : gX) (D : va_G) (cI cL cZ : ClassId) (a_Mo a_Sp a_RD_generators a_Mo_degrees a_Sp_rows a_Sp_leads a_Sp_kept a_Sp_work a_Mo_codes a_Mo_keys a_Mo_raised a_Sp_basis : Nat) (A : Nat → Prop) (Mo_variables Mo_order Mo_highest Mo_count Sp_prime Sp_limit Sp_basisCount : Int32) (RD_generators Mo_degrees : Nat → Int32) (r_ Sp_keptCount_r : Int32) (Sp_rows_r Sp_leads_r Sp_kept_r Sp_work_r : Nat → Int32) (pc : Nat) (lv : List (Nat × Value)) (st : List Value) (Sp_keptCount : Int32) (Sp_rows Sp_leads Sp_kept Sp_work : Nat → Int32) : Prop := ∀ (H : Heap) (locs : List Loc) (ls : Array Slot), va_P D classes (ws_spTakes a_Mo a_Sp a_RD_generators a_Mo_degrees a_Sp_rows a_Sp_leads a_Sp_kept a_Sp_work a_Mo_codes a_Mo_keys a_Mo_raised a_Sp_basis cI cL cZ Mo_variables Mo_order Mo_highest Mo_count Sp_prime Sp_limit Sp_keptCount Sp_basisCount RD_generators Mo_degrees Sp_rows Sp_leads Sp_kept Sp_work) H → va_D A (ws_spTakes a_Mo a_Sp a_RD_generators a_Mo_degrees a_Sp_rows a_Sp_leads a_Sp_kept a_Sp_work a_Mo_codes a_Mo_keys a_Mo_raised a_Sp_basis cI cL cZ Mo_variables Mo_order Mo_highest Mo_count Sp_prime Sp_limit Sp_keptCount Sp_basisCount RD_generators Mo_degrees Sp_rows Sp_leads Sp_kept Sp_work) → va_S A (gs X).heap H locs → lv_has ls 4 lv → gWW X rm_spTakes H locs 0 0 (MQ (gbl X) (va_Qi (fun r (_ : Unit) => r = r_) (gB D (gT cI cL cZ) A (ws_spTakes a_Mo a_Sp a_RD_generators a_Mo_degrees a_Sp_rows a_Sp_leads a_Sp_kept a_Sp_work a_Mo_codes a_Mo_keys a_Mo_raised a_Sp_basis cI cL cZ Mo_variables Mo_order Mo_highest Mo_count Sp_prime Sp_limit Sp_keptCount_r Sp_basisCount RD_generators Mo_degrees Sp_rows_r Sp_leads_r Sp_kept_r Sp_work_r)) A) (ga X) (gs X) 0 0 A) (F0 (gm X) pc ls st)
set_option maxHeartbeats 4000000 in
set_option maxRecDepth 100000 in
theorem w_spTakes_59 (X : gX) (D : va_G) (cI cL cZ : ClassId) (a_Mo a_Sp a_RD_generators a_Mo_degrees a_Sp_rows a_Sp_leads a_Sp_kept a_Sp_work a_Mo_codes a_Mo_keys a_Mo_raised a_Sp_basis : Nat) (A : Nat → Prop) (Mo_variables Mo_order Mo_highest Mo_count Sp_prime Sp_limit Sp_basisCount : Int32) (RD_generators Mo_degrees : Nat → Int32) (r_ Sp_keptCount_r : Int32) (Sp_rows_r Sp_leads_r Sp_kept_r Sp_work_r : Nat → Int32) (F : Nat) (C0 : gC X c_Sp_takesb (some .boolean) 4 "RemnantDictionary$Space" gAll) (hK : va_K D classes (gT cI cL cZ) (gs X)) (hA : ∀ q : Nat, (gs X).heap.size ≤ q → A q) (hN : gN (gs X))  (Sp_keptCount : Int32) (Sp_rows Sp_leads Sp_kept Sp_work : Nat → Int32) (hrun : s_spTakes_59 F Mo_count Sp_limit Sp_prime RD_generators Mo_degrees Sp_keptCount Sp_rows Sp_leads Sp_kept Sp_work = some (r_, Sp_keptCount_r, Sp_rows_r, Sp_leads_r, Sp_kept_r, Sp_work_r)) : g_spTakes X D cI cL cZ a_Mo a_Sp a_RD_generators a_Mo_degrees a_Sp_rows a_Sp_leads a_Sp_kept a_Sp_work a_Mo_codes a_Mo_keys a_Mo_raised a_Sp_basis A Mo_variables Mo_order Mo_highest Mo_count Sp_prime Sp_limit Sp_basisCount RD_generators Mo_degrees r_ Sp_keptCount_r Sp_rows_r Sp_leads_r Sp_kept_r Sp_work_r 59 [(0, .ref a_Sp)] [] Sp_keptCount Sp_rows Sp_leads Sp_kept Sp_work := by
  have C1 := C0
  obtain ⟨hx, hb, hr, hml, hown, hts, hlocks⟩ := C1
  unfold s_spTakes_59 at hrun
  intro H locs ls hP hD hS hl
  refine lv_aload_n hx hb d_Sp_takes_59 rfl (lv_at hl 0 rfl) ?_
  obtain ⟨Sp_keptCount_1, Sp_rows_2, Sp_leads_3, Sp_kept_4, Sp_work_5, hc, hrun⟩ := bd5_s hrun
  have hFc := va_free (wc := (ws_absorbWork a_Mo a_Sp a_Sp_rows a_Sp_leads a_Sp_kept a_Sp_work a_Mo_codes a_Mo_degrees a_Mo_keys a_Mo_raised a_Sp_basis cI cL cZ Mo_variables Mo_order Mo_highest Mo_count Sp_prime Sp_limit Sp_keptCount Sp_basisCount Sp_rows Sp_leads Sp_kept Sp_work)) hD hS hA [0, 1, 4, 5, 6, 7] rfl
  refine va_callv (va_runV (As := []) (rest := []) ⟨hx, hb, hml, hown, hts⟩ (c_absorbWork (gl X) D cI cL cZ a_Mo a_Sp a_Sp_rows a_Sp_leads a_Sp_kept a_Sp_work a_Mo_codes a_Mo_degrees a_Mo_keys a_Mo_raised a_Sp_basis F Mo_variables Mo_order Mo_highest Mo_count Sp_prime Sp_limit Sp_keptCount Sp_basisCount Sp_rows Sp_leads Sp_kept Sp_work H.size Sp_keptCount_1 Sp_rows_2 Sp_leads_3 Sp_kept_4 Sp_work_5 hc) (cwV 0 hts (gwV k_102 k_100 k_101 k_91 k_93) rfl rfl rfl (by decide +kernel) ⟨Nat.le_of_ble_eq_true rfl, Nat.le_of_ble_eq_true rfl⟩) (gpreVW (hP.sub (ws' := (ws_absorbWork a_Mo a_Sp a_Sp_rows a_Sp_leads a_Sp_kept a_Sp_work a_Mo_codes a_Mo_degrees a_Mo_keys a_Mo_raised a_Sp_basis cI cL cZ Mo_variables Mo_order Mo_highest Mo_count Sp_prime Sp_limit Sp_keptCount Sp_basisCount Sp_rows Sp_leads Sp_kept Sp_work)) [0, 1, 4, 5, 6, 7] rfl) hK hN (hD.sub (ws' := (ws_absorbWork a_Mo a_Sp a_Sp_rows a_Sp_leads a_Sp_kept a_Sp_work a_Mo_codes a_Mo_degrees a_Mo_keys a_Mo_raised a_Sp_basis cI cL cZ Mo_variables Mo_order Mo_highest Mo_count Sp_prime Sp_limit Sp_keptCount Sp_basisCount Sp_rows Sp_leads Sp_kept Sp_work)) [0, 1, 4, 5, 6, 7] (by decide) rfl) 2 1 rfl rfl) rfl rfl hl.1 rfl (lv_room (Nat.le_of_ble_eq_true rfl)) d_Sp_takes_60 ⟨Nat.le_of_ble_eq_true rfl, Nat.le_of_ble_eq_true rfl⟩) hS (fun q _ h => hFc q h) hFc (fun _ t H_6 locs ht hvm hw hB hz1 hk1 hS => ?_)
  obtain ⟨hP, hD⟩ := va_join (wr := [(a_RD_generators, .inl (cI, 1008, .inl RD_generators)), (a_Mo_degrees, .inl (cI, 126, .inl Mo_degrees))]) (w1 := (ws_absorbWork a_Mo a_Sp a_Sp_rows a_Sp_leads a_Sp_kept a_Sp_work a_Mo_codes a_Mo_degrees a_Mo_keys a_Mo_raised a_Sp_basis cI cL cZ Mo_variables Mo_order Mo_highest Mo_count Sp_prime Sp_limit Sp_keptCount_1 Sp_basisCount Sp_rows_2 Sp_leads_3 Sp_kept_4 Sp_work_5)) hP hD [0, 1, 4, 5, 6, 7] [2, 3] rfl rfl (by decide) (by decide) hk1 hFc (by have h9 := hB.1; rw [ht] at h9; exact h9) hB.2.2
  have hP : va_P D classes (ws_spTakes a_Mo a_Sp a_RD_generators a_Mo_degrees a_Sp_rows a_Sp_leads a_Sp_kept a_Sp_work a_Mo_codes a_Mo_keys a_Mo_raised a_Sp_basis cI cL cZ Mo_variables Mo_order Mo_highest Mo_count Sp_prime Sp_limit Sp_keptCount_1 Sp_basisCount RD_generators Mo_degrees Sp_rows_2 Sp_leads_3 Sp_kept_4 Sp_work_5) H_6 := hP.sub [2, 3, 0, 1, 4, 5, 6, 7] rfl
  have hD : va_D A (ws_spTakes a_Mo a_Sp a_RD_generators a_Mo_degrees a_Sp_rows a_Sp_leads a_Sp_kept a_Sp_work a_Mo_codes a_Mo_keys a_Mo_raised a_Sp_basis cI cL cZ Mo_variables Mo_order Mo_highest Mo_count Sp_prime Sp_limit Sp_keptCount_1 Sp_basisCount RD_generators Mo_degrees Sp_rows_2 Sp_leads_3 Sp_kept_4 Sp_work_5) := hD.sub [2, 3, 0, 1, 4, 5, 6, 7] (by decide) rfl
  refine lv_iconst (v := 1) hx hb d_Sp_takes_63 (by decide) ?_
  cases hrun
  exact W.zret hx hb hr rfl (fun t ht hW => ⟨⟨_, (), rfl, rfl, gB_of ht hW.alike hP hK hD⟩, hS.F ht⟩) hS.2.2 d_Sp_takes_64
set_option maxHeartbeats 4000000 in
set_option maxRecDepth 100000 in
theorem w_spTakes_22 (X : gX) (D : va_G) (cI cL cZ : ClassId) (a_Mo a_Sp a_RD_generators a_Mo_degrees a_Sp_rows a_Sp_leads a_Sp_kept a_Sp_work a_Mo_codes a_Mo_keys a_Mo_raised a_Sp_basis : Nat) (A : Nat → Prop) (Mo_variables Mo_order Mo_highest Mo_count Sp_prime Sp_limit Sp_basisCount : Int32) (RD_generators Mo_degrees : Nat → Int32) (r_ Sp_keptCount_r : Int32) (Sp_rows_r Sp_leads_r Sp_kept_r Sp_work_r : Nat → Int32) (F : Nat) (C0 : gC X c_Sp_takesb (some .boolean) 4 "RemnantDictionary$Space" gAll) (hK : va_K D classes (gT cI cL cZ) (gs X)) (hA : ∀ q : Nat, (gs X).heap.size ≤ q → A q) (hN : gN (gs X)) (k22 : Int32 → Int32 → (Nat → Int32) → (Nat → Int32) → (Nat → Int32) → (Nat → Int32) → Option (Int32 × Int32 × (Nat → Int32) × (Nat → Int32) × (Nat → Int32) × (Nat → Int32))) (hk22 : ∀ (i3 Sp_keptCount : Int32) (Sp_rows Sp_leads Sp_kept Sp_work : Nat → Int32), k22 i3 Sp_keptCount Sp_rows Sp_leads Sp_kept Sp_work = some (r_, Sp_keptCount_r, Sp_rows_r, Sp_leads_r, Sp_kept_r, Sp_work_r) → g_spTakes X D cI cL cZ a_Mo a_Sp a_RD_generators a_Mo_degrees a_Sp_rows a_Sp_leads a_Sp_kept a_Sp_work a_Mo_codes a_Mo_keys a_Mo_raised a_Sp_basis A Mo_variables Mo_order Mo_highest Mo_count Sp_prime Sp_limit Sp_basisCount RD_generators Mo_degrees r_ Sp_keptCount_r Sp_rows_r Sp_leads_r Sp_kept_r Sp_work_r 22 [(0, .ref a_Sp), (3, .int i3)] [] Sp_keptCount Sp_rows Sp_leads Sp_kept Sp_work) (i3 Sp_keptCount : Int32) (Sp_rows Sp_leads Sp_kept Sp_work : Nat → Int32) (hrun : s_spTakes_22 F Mo_count Sp_limit Sp_prime RD_generators Mo_degrees k22 i3 Sp_keptCount Sp_rows Sp_leads Sp_kept Sp_work = some (r_, Sp_keptCount_r, Sp_rows_r, Sp_leads_r, Sp_kept_r, Sp_work_r)) : g_spTakes X D cI cL cZ a_Mo a_Sp a_RD_generators a_Mo_degrees a_Sp_rows a_Sp_leads a_Sp_kept a_Sp_work a_Mo_codes a_Mo_keys a_Mo_raised a_Sp_basis A Mo_variables Mo_order Mo_highest Mo_count Sp_prime Sp_limit Sp_basisCount RD_generators Mo_degrees r_ Sp_keptCount_r Sp_rows_r Sp_leads_r Sp_kept_r Sp_work_r 22 [(0, .ref a_Sp), (3, .int i3)] [] Sp_keptCount Sp_rows Sp_leads Sp_kept Sp_work := by
  have C1 := C0
  obtain ⟨hx, hb, hr, hml, hown, hts, hlocks⟩ := C1
  unfold s_spTakes_22 at hrun
  intro H locs ls hP hD hS hl
  refine lv_iload_n hx hb d_Sp_takes_22 rfl (lv_at hl 1 rfl) ?_
  refine g_if_lt (tgt := 59) hx hb d_Sp_takes_23 (by decide) hrun (fun _ hrun => ?_) (fun _ hrun => ?_)
  · exact w_spTakes_59 X D cI cL cZ a_Mo a_Sp a_RD_generators a_Mo_degrees a_Sp_rows a_Sp_leads a_Sp_kept a_Sp_work a_Mo_codes a_Mo_keys a_Mo_raised a_Sp_basis A Mo_variables Mo_order Mo_highest Mo_count Sp_prime Sp_limit Sp_basisCount RD_generators Mo_degrees r_ Sp_keptCount_r Sp_rows_r Sp_leads_r Sp_kept_r Sp_work_r F C0 hK hA hN  Sp_keptCount Sp_rows Sp_leads Sp_kept Sp_work hrun H locs ls hP hD hS (lv_sub hl [0] rfl)
  · refine lv_aload_n hx hb d_Sp_takes_26 rfl (lv_at hl 0 rfl) ?_
    refine va_get (D := D) (ci := 2) (v := .ref a_Mo) (C := "RemnantDictionary$Space") (T := T_Sp) (N := 10) hx hb hts iw_Sp hown hK hP 1 rfl rfl 0 (by decide) (hts _ k_94) (fun _ h9 => h9) rfl d_Sp_takes_27 ?_
    refine va_get (D := D) (ci := 1) (v := .ref a_Mo_degrees) (C := "RemnantDictionary$Monomials") (T := T_Mo) (N := 8) hx hb hts iw_Mo hown hK hP 0 rfl rfl 5 (by decide) (hts _ k_104) (fun _ h9 => h9) rfl d_Sp_takes_30 ?_
    refine lv_iload_n hx hb d_Sp_takes_33 rfl (lv_at hl 1 rfl) ?_
    refine g_iald hx hb hK hP 3 0 rfl rfl hrun d_Sp_takes_34 (fun x_1 hrun => ?_)
    refine lv_aload_n hx hb d_Sp_takes_35 rfl (lv_at hl 0 rfl) ?_
    refine va_get (D := D) (ci := 2) (v := .int Sp_limit) (C := "RemnantDictionary$Space") (T := T_Sp) (N := 10) hx hb hts iw_Sp hown hK hP 1 rfl rfl 2 (by decide) (hts _ k_78) (fun _ h9 => h9) rfl d_Sp_takes_36 ?_
    refine g_icmp_le (tgt := 59) hx hb d_Sp_takes_39 (by decide) hrun (fun _ hrun => ?_) (fun _ hrun => ?_)
    · exact w_spTakes_59 X D cI cL cZ a_Mo a_Sp a_RD_generators a_Mo_degrees a_Sp_rows a_Sp_leads a_Sp_kept a_Sp_work a_Mo_codes a_Mo_keys a_Mo_raised a_Sp_basis A Mo_variables Mo_order Mo_highest Mo_count Sp_prime Sp_limit Sp_basisCount RD_generators Mo_degrees r_ Sp_keptCount_r Sp_rows_r Sp_leads_r Sp_kept_r Sp_work_r F C0 hK hA hN  Sp_keptCount Sp_rows Sp_leads Sp_kept Sp_work hrun H locs ls hP hD hS (lv_sub hl [0] rfl)
    · refine lv_aload_n hx hb d_Sp_takes_42 rfl (lv_at hl 0 rfl) ?_
      refine va_get (D := D) (ci := 2) (v := .ref a_Sp_work) (C := "RemnantDictionary$Space") (T := T_Sp) (N := 10) hx hb hts iw_Sp hown hK hP 1 rfl rfl 7 (by decide) (hts _ k_84) (fun _ h9 => h9) rfl d_Sp_takes_43 ?_
      refine lv_iload_n hx hb d_Sp_takes_46 rfl (lv_at hl 1 rfl) ?_
      refine g_iald hx hb hK hP 7 0 rfl rfl hrun d_Sp_takes_47 (fun x_2 hrun => ?_)
      refine g_if_eq (tgt := 53) hx hb d_Sp_takes_48 (by decide) hrun (fun _ hrun => ?_) (fun _ hrun => ?_)
      · refine lv_iinc (v := (i3 + (-1))) (lv' := [(3, .int (i3 + (-1))), (0, .ref a_Sp)]) hx hb d_Sp_takes_53 hl (k := 1) rfl rfl (by decide) rfl (fun ls hl => ?_)
        refine lv_goto (tgt := 22) hx hb d_Sp_takes_56 (by decide) ?_
        exact hk22 (i3 + (-1)) Sp_keptCount Sp_rows Sp_leads Sp_kept Sp_work hrun H locs ls hP hD hS (lv_sub hl [1, 0] rfl)
      · refine lv_iconst (v := 0) hx hb d_Sp_takes_51 (by decide) ?_
        cases hrun
        exact W.zret hx hb hr rfl (fun t ht hW => ⟨⟨_, (), rfl, rfl, gB_of ht hW.alike hP hK hD⟩, hS.F ht⟩) hS.2.2 d_Sp_takes_52
theorem v_spTakes_22 (X : gX) (D : va_G) (cI cL cZ : ClassId) (a_Mo a_Sp a_RD_generators a_Mo_degrees a_Sp_rows a_Sp_leads a_Sp_kept a_Sp_work a_Mo_codes a_Mo_keys a_Mo_raised a_Sp_basis : Nat) (A : Nat → Prop) (Mo_variables Mo_order Mo_highest Mo_count Sp_prime Sp_limit Sp_basisCount : Int32) (RD_generators Mo_degrees : Nat → Int32) (r_ Sp_keptCount_r : Int32) (Sp_rows_r Sp_leads_r Sp_kept_r Sp_work_r : Nat → Int32) (F : Nat) (C0 : gC X c_Sp_takesb (some .boolean) 4 "RemnantDictionary$Space" gAll) (hK : va_K D classes (gT cI cL cZ) (gs X)) (hA : ∀ q : Nat, (gs X).heap.size ≤ q → A q) (hN : gN (gs X))  : ∀ (n : Nat) (i3 Sp_keptCount : Int32) (Sp_rows Sp_leads Sp_kept Sp_work : Nat → Int32), b_spTakes_22 F Mo_count Sp_limit Sp_prime RD_generators Mo_degrees n i3 Sp_keptCount Sp_rows Sp_leads Sp_kept Sp_work = some (r_, Sp_keptCount_r, Sp_rows_r, Sp_leads_r, Sp_kept_r, Sp_work_r) → g_spTakes X D cI cL cZ a_Mo a_Sp a_RD_generators a_Mo_degrees a_Sp_rows a_Sp_leads a_Sp_kept a_Sp_work a_Mo_codes a_Mo_keys a_Mo_raised a_Sp_basis A Mo_variables Mo_order Mo_highest Mo_count Sp_prime Sp_limit Sp_basisCount RD_generators Mo_degrees r_ Sp_keptCount_r Sp_rows_r Sp_leads_r Sp_kept_r Sp_work_r 22 [(0, .ref a_Sp), (3, .int i3)] [] Sp_keptCount Sp_rows Sp_leads Sp_kept Sp_work := by
  intro n
  induction n with
  | zero => intro i3 Sp_keptCount Sp_rows Sp_leads Sp_kept Sp_work hrun; cases hrun
  | succ n ih =>
    intro i3 Sp_keptCount Sp_rows Sp_leads Sp_kept Sp_work hrun
    exact w_spTakes_22 X D cI cL cZ a_Mo a_Sp a_RD_generators a_Mo_degrees a_Sp_rows a_Sp_leads a_Sp_kept a_Sp_work a_Mo_codes a_Mo_keys a_Mo_raised a_Sp_basis A Mo_variables Mo_order Mo_highest Mo_count Sp_prime Sp_limit Sp_basisCount RD_generators Mo_degrees r_ Sp_keptCount_r Sp_rows_r Sp_leads_r Sp_kept_r Sp_work_r F C0 hK hA hN (b_spTakes_22 F Mo_count Sp_limit Sp_prime RD_generators Mo_degrees n) ih i3 Sp_keptCount Sp_rows Sp_leads Sp_kept Sp_work hrun
set_option maxHeartbeats 4000000 in
set_option maxRecDepth 100000 in
theorem e_spTakes (X : gX) (D : va_G) (cI cL cZ : ClassId) (a_Mo a_Sp a_RD_generators a_Mo_degrees a_Sp_rows a_Sp_leads a_Sp_kept a_Sp_work a_Mo_codes a_Mo_keys a_Mo_raised a_Sp_basis : Nat) (A : Nat → Prop) (Mo_variables Mo_order Mo_highest Mo_count Sp_prime Sp_limit Sp_basisCount : Int32) (RD_generators Mo_degrees : Nat → Int32) (r_ Sp_keptCount_r : Int32) (Sp_rows_r Sp_leads_r Sp_kept_r Sp_work_r : Nat → Int32) (F : Nat) (C0 : gC X c_Sp_takesb (some .boolean) 4 "RemnantDictionary$Space" gAll) (hK : va_K D classes (gT cI cL cZ) (gs X)) (hA : ∀ q : Nat, (gs X).heap.size ≤ q → A q) (hN : gN (gs X)) (i2 Sp_keptCount : Int32) (Sp_rows Sp_leads Sp_kept Sp_work : Nat → Int32) (hrun : m_spTakes F Mo_count Sp_limit Sp_prime RD_generators Mo_degrees i2 Sp_keptCount Sp_rows Sp_leads Sp_kept Sp_work = some (r_, Sp_keptCount_r, Sp_rows_r, Sp_leads_r, Sp_kept_r, Sp_work_r)) : g_spTakes X D cI cL cZ a_Mo a_Sp a_RD_generators a_Mo_degrees a_Sp_rows a_Sp_leads a_Sp_kept a_Sp_work a_Mo_codes a_Mo_keys a_Mo_raised a_Sp_basis A Mo_variables Mo_order Mo_highest Mo_count Sp_prime Sp_limit Sp_basisCount RD_generators Mo_degrees r_ Sp_keptCount_r Sp_rows_r Sp_leads_r Sp_kept_r Sp_work_r 0 [(0, .ref a_Sp), (1, .ref a_RD_generators), (2, .int i2)] [] Sp_keptCount Sp_rows Sp_leads Sp_kept Sp_work := by
  have C1 := C0
  obtain ⟨hx, hb, hr, hml, hown, hts, hlocks⟩ := C1
  unfold m_spTakes at hrun
  intro H locs ls hP hD hS hl
  refine lv_aload_n hx hb d_Sp_takes_0 rfl (lv_at hl 1 rfl) ?_
  refine lv_iload_n hx hb d_Sp_takes_1 rfl (lv_at hl 2 rfl) ?_
  refine lv_aload_n hx hb d_Sp_takes_2 rfl (lv_at hl 0 rfl) ?_
  refine va_get (D := D) (ci := 2) (v := .ref a_Sp_work) (C := "RemnantDictionary$Space") (T := T_Sp) (N := 10) hx hb hts iw_Sp hown hK hP 1 rfl rfl 7 (by decide) (hts _ k_84) (fun _ h9 => h9) rfl d_Sp_takes_3 ?_
  refine lv_iconst (v := 0) hx hb d_Sp_takes_6 (by decide) ?_
  refine lv_bipush (v := 126) hx hb d_Sp_takes_7 (by decide) ?_
  refine g_copy hx hb (hml.trans hl.1.symm) hown (hts _ k_105) (hts _ k_106) (hts _ k_107) (hts _ k_108) hK hP hD hS 2 7 0 rfl rfl rfl rfl hrun (Nat.le_of_ble_eq_true rfl) (by decide) d_Sp_takes_9 (fun Sp_work_1 hrun H locs (hP : va_P D classes (ws_spTakes a_Mo a_Sp a_RD_generators a_Mo_degrees a_Sp_rows a_Sp_leads a_Sp_kept a_Sp_work a_Mo_codes a_Mo_keys a_Mo_raised a_Sp_basis cI cL cZ Mo_variables Mo_order Mo_highest Mo_count Sp_prime Sp_limit Sp_keptCount Sp_basisCount RD_generators Mo_degrees Sp_rows Sp_leads Sp_kept Sp_work_1) H) (hD : va_D A (ws_spTakes a_Mo a_Sp a_RD_generators a_Mo_degrees a_Sp_rows a_Sp_leads a_Sp_kept a_Sp_work a_Mo_codes a_Mo_keys a_Mo_raised a_Sp_basis cI cL cZ Mo_variables Mo_order Mo_highest Mo_count Sp_prime Sp_limit Sp_keptCount Sp_basisCount RD_generators Mo_degrees Sp_rows Sp_leads Sp_kept Sp_work_1)) hS => ?_)
  refine lv_aload_n hx hb d_Sp_takes_12 rfl (lv_at hl 0 rfl) ?_
  refine va_get (D := D) (ci := 2) (v := .ref a_Mo) (C := "RemnantDictionary$Space") (T := T_Sp) (N := 10) hx hb hts iw_Sp hown hK hP 1 rfl rfl 0 (by decide) (hts _ k_94) (fun _ h9 => h9) rfl d_Sp_takes_13 ?_
  refine va_get (D := D) (ci := 1) (v := .int Mo_count) (C := "RemnantDictionary$Monomials") (T := T_Mo) (N := 8) hx hb hts iw_Mo hown hK hP 0 rfl rfl 3 (by decide) (hts _ k_95) (fun _ h9 => h9) rfl d_Sp_takes_16 ?_
  refine lv_iconst (v := 1) hx hb d_Sp_takes_19 (by decide) ?_
  refine lv_isub hx hb d_Sp_takes_20 ?_
  refine lv_istore_n (lv' := [(3, .int (Mo_count - 1)), (0, .ref a_Sp), (1, .ref a_RD_generators), (2, .int i2)]) hx hb d_Sp_takes_21 rfl hl (by decide) rfl (fun ls hl => ?_)
  exact v_spTakes_22 X D cI cL cZ a_Mo a_Sp a_RD_generators a_Mo_degrees a_Sp_rows a_Sp_leads a_Sp_kept a_Sp_work a_Mo_codes a_Mo_keys a_Mo_raised a_Sp_basis A Mo_variables Mo_order Mo_highest Mo_count Sp_prime Sp_limit Sp_basisCount RD_generators Mo_degrees r_ Sp_keptCount_r Sp_rows_r Sp_leads_r Sp_kept_r Sp_work_r F C0 hK hA hN  F (Mo_count - 1) Sp_keptCount Sp_rows Sp_leads Sp_kept Sp_work_1 hrun H locs ls hP hD hS (lv_sub hl [1, 0] rfl)
set_option maxHeartbeats 4000000 in
set_option maxRecDepth 100000 in
theorem c_spTakes (l : Launch) (D : va_G) (cI cL cZ : ClassId) (a_Mo a_Sp a_RD_generators a_Mo_degrees a_Sp_rows a_Sp_leads a_Sp_kept a_Sp_work a_Mo_codes a_Mo_keys a_Mo_raised a_Sp_basis : Nat) (F : Nat) (Mo_variables Mo_order Mo_highest Mo_count Sp_prime Sp_limit Sp_keptCount Sp_basisCount : Int32) (RD_generators Mo_degrees Sp_rows Sp_leads Sp_kept Sp_work : Nat → Int32) (i2 : Int32) (sz : Nat) (r_ Sp_keptCount_r : Int32) (Sp_rows_r Sp_leads_r Sp_kept_r Sp_work_r : Nat → Int32) (hrun : m_spTakes F Mo_count Sp_limit Sp_prime RD_generators Mo_degrees i2 Sp_keptCount Sp_rows Sp_leads Sp_kept Sp_work = some (r_, Sp_keptCount_r, Sp_rows_r, Sp_leads_r, Sp_kept_r, Sp_work_r)) : Met l y_Sp_takes (.code y_Sp_takes c_Sp_takesb 4 (some .boolean) :: gAll) rm_spTakes (va_Pc [.ref a_Sp, .ref a_RD_generators, .int i2] (gPW D (gT cI cL cZ) (ws_spTakes a_Mo a_Sp a_RD_generators a_Mo_degrees a_Sp_rows a_Sp_leads a_Sp_kept a_Sp_work a_Mo_codes a_Mo_keys a_Mo_raised a_Sp_basis cI cL cZ Mo_variables Mo_order Mo_highest Mo_count Sp_prime Sp_limit Sp_keptCount Sp_basisCount RD_generators Mo_degrees Sp_rows Sp_leads Sp_kept Sp_work) sz)) (va_Qi (fun r (_ : Unit) => r = r_) (gB D (gT cI cL cZ) (va_A (ws_spTakes a_Mo a_Sp a_RD_generators a_Mo_degrees a_Sp_rows a_Sp_leads a_Sp_kept a_Sp_work a_Mo_codes a_Mo_keys a_Mo_raised a_Sp_basis cI cL cZ Mo_variables Mo_order Mo_highest Mo_count Sp_prime Sp_limit Sp_keptCount Sp_basisCount RD_generators Mo_degrees Sp_rows Sp_leads Sp_kept Sp_work) sz) (ws_spTakes a_Mo a_Sp a_RD_generators a_Mo_degrees a_Sp_rows a_Sp_leads a_Sp_kept a_Sp_work a_Mo_codes a_Mo_keys a_Mo_raised a_Sp_basis cI cL cZ Mo_variables Mo_order Mo_highest Mo_count Sp_prime Sp_limit Sp_keptCount_r Sp_basisCount RD_generators Mo_degrees Sp_rows_r Sp_leads_r Sp_kept_r Sp_work_r)) (va_A (ws_spTakes a_Mo a_Sp a_RD_generators a_Mo_degrees a_Sp_rows a_Sp_leads a_Sp_kept a_Sp_work a_Mo_codes a_Mo_keys a_Mo_raised a_Sp_basis cI cL cZ Mo_variables Mo_order Mo_highest Mo_count Sp_prime Sp_limit Sp_keptCount Sp_basisCount RD_generators Mo_degrees Sp_rows Sp_leads Sp_kept Sp_work) sz)) 0 0 (va_A (ws_spTakes a_Mo a_Sp a_RD_generators a_Mo_degrees a_Sp_rows a_Sp_leads a_Sp_kept a_Sp_work a_Mo_codes a_Mo_keys a_Mo_raised a_Sp_basis cI cL cZ Mo_variables Mo_order Mo_highest Mo_count Sp_prime Sp_limit Sp_keptCount Sp_basisCount RD_generators Mo_degrees Sp_rows Sp_leads Sp_kept Sp_work) sz) := by
  refine Met.ofW (cc := c_Sp_takesb) (maxL := 4) (ret := (some .boolean)) (by decide +kernel) rfl ?_
  intro p e s m args below meth c s₁ B hml hv
  obtain ⟨rfl, hsz, hP, hK, hN, hD0⟩ := hv
  subst hsz
  have hD := hD0.self (sz := s.heap.size)
  have hl := lv_entry ([.ref a_Sp, .ref a_RD_generators, .int i2]) (n := 4) (Nat.le_of_ble_eq_true rfl)
  rw [lg_entry_eq]
  generalize (lg_sl ([.ref a_Sp, .ref a_RD_generators, .int i2]) ++ List.replicate (4 - (lg_sl ([.ref a_Sp, .ref a_RD_generators, .int i2])).length) Slot.unset).toArray = ls at hl ⊢
  exact e_spTakes (p, l, e, s, m, ([.ref a_Sp, .ref a_RD_generators, .int i2] : List Value).toArray, below, meth, c) D cI cL cZ a_Mo a_Sp a_RD_generators a_Mo_degrees a_Sp_rows a_Sp_leads a_Sp_kept a_Sp_work a_Mo_codes a_Mo_keys a_Mo_raised a_Sp_basis (va_A (ws_spTakes a_Mo a_Sp a_RD_generators a_Mo_degrees a_Sp_rows a_Sp_leads a_Sp_kept a_Sp_work a_Mo_codes a_Mo_keys a_Mo_raised a_Sp_basis cI cL cZ Mo_variables Mo_order Mo_highest Mo_count Sp_prime Sp_limit Sp_keptCount Sp_basisCount RD_generators Mo_degrees Sp_rows Sp_leads Sp_kept Sp_work) s.heap.size) Mo_variables Mo_order Mo_highest Mo_count Sp_prime Sp_limit Sp_basisCount RD_generators Mo_degrees r_ Sp_keptCount_r Sp_rows_r Sp_leads_r Sp_kept_r Sp_work_r F ⟨B.exec, B.bytes, B.returns, hml, findClass_of_methodNamed B.named, fun w h => atoms_spec (ws := (.code y_Sp_takes c_Sp_takesb 4 (some .boolean) :: gAll)) B.pre w (List.mem_cons_of_mem _ h), B.notSynchronized⟩ hK (fun q h => Or.inr h) hN i2 Sp_keptCount Sp_rows Sp_leads Sp_kept Sp_work hrun s.heap [] ls hP hD va_S.rf hl
