/-! WHAT HOLDS AT THE LAW's START; GENERATED (wip/gen/run9.py). -/
set_option maxRecDepth 100000 in
set_option maxHeartbeats 4000000 in
theorem gXw_tbl : GoodIn lw_tbl gXw := goodIn_p _ [358, 438, 450, 480] (by decide +kernel) (by decide +kernel)
set_option maxRecDepth 100000 in
set_option maxHeartbeats 4000000 in
theorem gYw_tbl : GoodIn lw_tbl gYw := goodIn_p _ [77, 82, 124, 165, 206, 74, 911] (by decide +kernel) (by decide +kernel)
set_option maxRecDepth 100000 in
set_option maxHeartbeats 4000000 in
theorem gL0_tbl : GoodIn lw_tbl gL0 := goodIn_p _ [] (by decide +kernel) (by decide +kernel)
set_option maxRecDepth 100000 in
set_option maxHeartbeats 4000000 in
theorem gL1_tbl : GoodIn lw_tbl gL1 := goodIn_p _ [] (by decide +kernel) (by decide +kernel)
set_option maxRecDepth 100000 in
set_option maxHeartbeats 4000000 in
theorem gL2_tbl : GoodIn lw_tbl gL2 := goodIn_p _ [] (by decide +kernel) (by decide +kernel)
set_option maxRecDepth 100000 in
set_option maxHeartbeats 4000000 in
theorem gL3_tbl : GoodIn lw_tbl gL3 := goodIn_p _ [] (by decide +kernel) (by decide +kernel)
set_option maxRecDepth 100000 in
set_option maxHeartbeats 4000000 in
theorem gT1_tbl : GoodIn lw_tbl (gTw "RemnantDictionary" 58 62 gIAE) := goodIn_p _ [386, 77, 414, 405, 408, 411] (by decide +kernel) (by decide +kernel)
set_option maxRecDepth 100000 in
set_option maxHeartbeats 4000000 in
theorem gT2_tbl : GoodIn lw_tbl (gTw "RemnantDictionary" 93 97 gISE) := goodIn_p _ [386, 77, 414, 467, 408, 411] (by decide +kernel) (by decide +kernel)
theorem gLw_tbl : ∀ w ∈ gLw, w ∈ lw_tbl := fun w h => (List.mem_append.mp h).elim (fun h => (gL0_tbl w h).1) (fun h => (List.mem_append.mp h).elim (fun h => (gL1_tbl w h).1) (fun h => (List.mem_append.mp h).elim (fun h => (gL2_tbl w h).1) (fun h => (gL3_tbl w h).1)))
theorem gAll4_tbl : ∀ w ∈ gAll4, w ∈ lw_tbl := by
  intro w h
  rcases List.mem_append.mp h with h | h
  · rcases List.mem_append.mp h with h | h
    · rcases List.mem_append.mp h with h | h
      · exact gAll_tbl w h
      · rcases List.mem_append.mp h with h | h
        · exact (gXw_tbl w h).1
        · rcases List.mem_append.mp h with h | h
          · exact (gT1_tbl w h).1
          · exact (gT2_tbl w h).1
    · exact (gYw_tbl w h).1
  · exact gLw_tbl w h
set_option maxRecDepth 100000 in
set_option maxHeartbeats 4000000 in
theorem gTl_tbl : ∀ w ∈ gTl, w ∈ lw_tbl := by decide +kernel
set_option maxRecDepth 100000 in
set_option maxHeartbeats 4000000 in
theorem nestM_tbl : ∀ q ∈ nestM, Cond.methodLinkNest q.1 q.2.1 q.2.2.1 q.2.2.2 ∈ lw_tbl := by decide +kernel
set_option maxRecDepth 100000 in
set_option maxHeartbeats 4000000 in
theorem nestF_tbl : ∀ q ∈ nestF, Cond.fieldLinkNest q.1 q.2.1 q.2.2.1 q.2.2.2.1 q.2.2.2.2.1 q.2.2.2.2.2 ∈ lw_tbl := by decide +kernel
set_option maxRecDepth 100000 in
set_option maxHeartbeats 4000000 in
theorem gSt_tbl : ∀ q ∈ gSt, Cond.stringRef "RemnantDictionary" q.1 q.2 ∈ lw_tbl := by decide +kernel
set_option maxRecDepth 100000 in
set_option maxHeartbeats 4000000 in
theorem gSt_nar : ∀ q ∈ gSt, Cond.exactly (.string "RemnantDictionary" q.1) "java/lang/String" ∈ flatC (Jvm.Cond.and given_1 narrow_1) := by decide +kernel
set_option maxRecDepth 100000 in
set_option maxHeartbeats 4000000 in
theorem nar_HIa : Cond.arrayOf (.static "RemnantDictionary" "HIGHEST" "[I") .int ∈ flatC (Jvm.Cond.and given_1 narrow_1) := by decide +kernel
set_option maxRecDepth 100000 in
set_option maxHeartbeats 4000000 in
theorem nar_HIl : Cond.eq (.length (.static "RemnantDictionary" "HIGHEST" "[I")) (.int 4) ∈ flatC (Jvm.Cond.and given_1 narrow_1) := by decide +kernel
set_option maxRecDepth 100000 in
set_option maxHeartbeats 4000000 in
theorem nar_UNr : Cond.isRef (.static Bundle.tN "UNASSIGNED_STACK" Bundle.steD) ∈ flatC (Jvm.Cond.and given_1 narrow_1) := by decide +kernel
set_option maxRecDepth 100000 in
set_option maxHeartbeats 4000000 in
theorem nar_SUr : Cond.isRef (.static Bundle.tN "SUPPRESSED_SENTINEL" Bundle.listD) ∈ flatC (Jvm.Cond.and given_1 narrow_1) := by decide +kernel
set_option maxRecDepth 100000 in
set_option maxHeartbeats 4000000 in
theorem nar_NCr : Cond.not (.castable gISE gIAE) ∈ flatC (Jvm.Cond.and given_1 narrow_1) := by decide +kernel
set_option maxRecDepth 100000 in
set_option maxHeartbeats 4000000 in
theorem nar_HIe : ∀ j, j < 4 → Cond.eq (.elem (.static "RemnantDictionary" "HIGHEST" "[I") (.int (Int32.ofNat j))) (.int (HIGHEST_tab j)) ∈ flatC (Jvm.Cond.and given_1 narrow_1) := by decide +kernel
set_option maxRecDepth 100000 in
set_option maxHeartbeats 4000000 in
theorem tbl_HIs : (.laysStatic "RemnantDictionary" "HIGHEST" "[I" : Cond) ∈ lw_tbl := by decide +kernel
set_option maxRecDepth 100000 in
set_option maxHeartbeats 4000000 in
theorem tbl_UNs : (.laysStatic Bundle.tN "UNASSIGNED_STACK" Bundle.steD : Cond) ∈ lw_tbl := by decide +kernel
set_option maxRecDepth 100000 in
set_option maxHeartbeats 4000000 in
theorem tbl_SUs : (.laysStatic Bundle.tN "SUPPRESSED_SENTINEL" Bundle.listD : Cond) ∈ lw_tbl := by decide +kernel
set_option maxRecDepth 100000 in
set_option maxHeartbeats 4000000 in
theorem tbl_RDi : (.initialized "RemnantDictionary" : Cond) ∈ lw_tbl := by decide +kernel
section SF
variable {s : State} {args : Array Value} {A : Nat → Prop}
theorem st_HI (hts : ∀ w ∈ lw_tbl, w.before args s = true) (hgv : (Jvm.Cond.and given_1 narrow_1).before args s = true) (hA : ∀ a : Nat, a < s.heap.size → ¬ A a) : ∃ t, gHI A t s := by
  have hs := flat_of_before _ hgv
  obtain ⟨t, ht, hT⟩ := va_Tof (N := 4) (f := fun j => .int (HIGHEST_tab j)) (A := A) (by decide) (hs _ nar_HIa) (va_eqt (hs _ nar_HIl)) (fun j hj => va_eqt (hs _ (nar_HIe j hj))) hA
  exact ⟨t, va_Zof (hts _ tbl_HIs) (hts _ tbl_RDi) ht hA, hT⟩
theorem st_N (hts : ∀ w ∈ lw_tbl, w.before args s = true) : gN s := ⟨fun q hq => va_any rfl (hts _ (nestM_tbl q hq)), fun q hq => va_any rfl (hts _ (nestF_tbl q hq))⟩
theorem st_Tz (hts : ∀ w ∈ lw_tbl, w.before args s = true) (hgv : (Jvm.Cond.and given_1 narrow_1).before args s = true) (hA : ∀ a : Nat, a < s.heap.size → ¬ A a) : gTz A s := by
  have hs := flat_of_before _ hgv
  exact ⟨gZs.of (hts _ tbl_UNs) (hs _ nar_UNr) hA, gZs.of (hts _ tbl_SUs) (hs _ nar_SUr) hA, fun w hw => va_any (gTl_on w hw) (hts w (gTl_tbl w hw))⟩
theorem st_Str (hts : ∀ w ∈ lw_tbl, w.before args s = true) (hgv : (Jvm.Cond.and given_1 narrow_1).before args s = true) : gStr s := by
  have hs := flat_of_before _ hgv
  intro q hq
  obtain ⟨a, c, cA, kA, q1, -⟩ := Cond.exactly_spec (args := args) (first := s) (o := none) (s := s) (idx := []) (hs _ (gSt_nar q hq))
  exact ⟨a, vk_R.of (hts _ (gSt_tbl q hq)) q1⟩
theorem st_Nc (hgv : (Jvm.Cond.and given_1 narrow_1).before args s = true) : va_Nc gISE gIAE s := va_Nc.of (flat_of_before _ hgv _ nar_NCr)
theorem st_arr {ty : FieldType} (h : (Cond.arrayClass ty).before args s = true) (hp : ∀ cA, s.vm.findClass ("[" ++ ty.toString) = some cA → va_RA s cA ty) : ∃ cA, ArrOfT s cA ty ∧ va_RA s cA ty := by
  obtain ⟨c, k, comp, h1, h2, h3⟩ := Cond.arrayClass_spec h
  exact ⟨c, fun n z => ⟨fun k h => (by cases h), k, h2, comp, h3⟩, hp c h1⟩
end SF
set_option maxHeartbeats 4000000 in
theorem st_K {s : State} {args : Array Value} (hts : ∀ w ∈ gAll4, w.before args s = true) : ∃ (D : va_G) (cI cL cZ : ClassId), va_K D classes (gT cI cL cZ) s := by
  obtain ⟨c0, iS0, hKn0⟩ := u_known (C := "RemnantDictionary") (T := T_RD) (N := 8) (n := 8) hts (gki4 iw_RD) (hts _ u_587)
  obtain ⟨c1, iS1, hKn1⟩ := u_known (C := "RemnantDictionary$Monomials") (T := T_Mo) (N := 8) (n := 8) hts (gki4 iw_Mo) (hts _ (gk4 y_558))
  obtain ⟨c2, iS2, hKn2⟩ := u_known (C := "RemnantDictionary$Space") (T := T_Sp) (N := 10) (n := 10) hts (gki4 iw_Sp) (hts _ (gk4 y_561))
  obtain ⟨c3, iS3, hKn3⟩ := u_known (C := "RemnantDictionary$Remnant") (T := T_Re) (N := 9) (n := 9) hts (gki4 iw_Re) (hts _ (gk4 y_565))
  obtain ⟨c4, iS4, hKn4⟩ := u_known (C := "RemnantDictionary$Lexicon") (T := T_Le) (N := 14) (n := 14) hts (gki4 iw_Le) (hts _ (gk4 y_568))
  obtain ⟨c5, iS5, hKn5⟩ := u_known (C := "RemnantDictionaryModel") (T := T_Z) (N := 30) (n := 30) hts (gki4 iw_Z) (hts _ u_591)
  obtain ⟨d0, hA0, hR0⟩ := st_arr (hts _ (gk4 y_546)) (fun _ h => h)
  obtain ⟨d1, hA1, hR1⟩ := st_arr (hts _ (gk4 y_547)) (fun _ h => h)
  obtain ⟨d2, hA2, hR2⟩ := st_arr (hts _ (gk4 y_550)) (fun _ h => h)
  refine ⟨(fun k => match k with | 0 => c0 | 1 => c1 | 2 => c2 | 3 => c3 | 4 => c4 | _ => c5, fun k => match k with | 0 => iS0 | 1 => iS1 | 2 => iS2 | 3 => iS3 | 4 => iS4 | _ => iS5), d0, d1, d2, ?_, ?_⟩
  · intro k q hq
    match k, hq with
    | 0, hq => cases hq; exact hKn0
    | 1, hq => cases hq; exact hKn1
    | 2, hq => cases hq; exact hKn2
    | 3, hq => cases hq; exact hKn3
    | 4, hq => cases hq; exact hKn4
    | 5, hq => cases hq; exact hKn5
    | k + 6, hq => simp [classes] at hq
  · intro k q hq
    match k, hq with
    | 0, hq => cases hq; exact ⟨hA0, hR0⟩
    | 1, hq => cases hq; exact ⟨hA1, hR1⟩
    | 2, hq => cases hq; exact ⟨hA2, hR2⟩
    | k + 3, hq => simp at hq
