/-! find: what a find that succeeds has, for class and reference alike. -/
theorem nF_ex (f : Nat → Int32) : ∃ g : Nat → Nat, f = nF g ∧ (∀ j, g j < 2 ^ 32) ∧ ∀ j, f j = 0 → g j = 0 := by
  refine ⟨fun j => (nI_of32 (f j)).choose, funext fun j => (nI_of32 (f j)).choose_spec.2, fun j => (nI_of32 (f j)).choose_spec.1, fun j h => ?_⟩
  have a := (nI_of32 (f j)).choose_spec
  have e : nI (nI_of32 (f j)).choose = nI 0 := by rw [← a.2, h]; rfl
  exact nI_inj32 a.1 (by decide) e
theorem VL_congr {p n sz : Nat} {T T' : Nat → Nat} (h : ∀ v k i, v < n → k < sz → i < sz → tP T v k i = tP T' v k i) {W : List Nat} (hW : ∀ c ∈ W, Cd n c) : VL p sz T W = VL p sz T' W := by
  have z0 : ∀ u, u < 4 → exN 0 u = 0 := by decide
  funext k i
  unfold VL
  have : ∀ u, n ≤ u → u < 4 → exN (W.getD k 0) u = 0 := by
    intro u a b
    by_cases q : k < W.length
    · rw [getD_lt q]; exact (hW _ (List.getElem_mem q)).2 u a b
    · rw [List.getD_eq_getElem?_getD, List.getElem?_eq_none (by omega)]; exact z0 u b
  rw [nfP_congr h this]
theorem RunN_congr {p n sz : Nat} {T T' : Nat → Nat} (h : ∀ v k i, v < n → k < sz → i < sz → tP T v k i = tP T' v k i) {W' H' : List Nat} {A' : Nat → Nat → Nat} : ∀ (q last : Nat) (W H : List Nat) (A : Nat → Nat → Nat), (∀ c ∈ W, Cd n c) → RunN p n sz T q last W H A W' H' A' → RunN p n sz T' q last W H A W' H' A' := by
  intro q
  induction q with
  | zero => intro last W H A _ hR; exact hR
  | succ q ih =>
    intro last W H A hW hR
    obtain ⟨e, r1, r2, r3, r4, r5, r6, hc⟩ := hR
    have hV := VL_congr (p := p) h hW
    have hn := nfP_congr (p := p) h r1.2
    refine ⟨e, r1, r2, r3, r4, r5, by rw [← hV]; exact r6, ?_⟩
    rcases hc with ⟨a, a1, a2, a3, a4, a5⟩ | ⟨a1, a2, a3⟩
    · exact Or.inl ⟨a, a1, a2, by rw [← hV, ← hn]; exact a3, a4, ih e W _ _ hW a5⟩
    · refine Or.inr ⟨by rw [← hV, ← hn]; exact a1, a2, ih e _ H A (fun c hc => ?_) a3⟩
      rw [List.mem_append, List.mem_singleton] at hc
      rcases hc with y | y
      · exact hW c y
      · rw [y]; exact r1
/-- the basis' leads and rows, and what is left over, at the end of a good space -/
theorem Rm.of {p n ord D sz : Nat} {cg kg R Lf bs g : Nat → Nat} {gen : (Nat → Nat) → Prop} (hp : isP p) (hp2 : p ≤ 32003) (h1 : 1 ≤ n) (h4 : n ≤ 4) (hord : ord < 2) (hT : Tab n ord cg kg) (hV : Vs p n ord D cg kg R Lf bs) (hB : GoodB p n D cg gen R Lf bs) (hpp : ∀ v, v < n → PP cg (bsN cg Lf (ctN n)) v) (hF : Few n ord cg (bsN cg Lf (ctN n)) sz g) : Rm p n ord cg (bsN cg Lf (ctN n)) sz g (rowF R) := by
  have hmem := bsN_mem cg Lf (ctN n)
  refine ⟨hp.1, hp2, h1, h4, hord, hF, fun b hb => (hmem b hb).1, ctN_le h1 h4, fun j hj => hT.inT h1 h4 hj, fun i j hi hj e => hT.inj hi hj e, fun i j hij hj => (hT.lt_iff (by omega) hj).mpr hij, hpp, fun b hb i hi => (hB.1.2 b (hmem b hb).2).2.2.2 i, fun b hb i hi hne => ?_⟩
  have hbl := (hmem b hb).1
  have hL := (hmem b hb).2
  have hin := hT.inT h1 h4 (show i < ctN n by omega)
  refine ⟨hin.1, hin.2.2, hlN_0.mpr fun b' hb' hd => ?_⟩
  -- a lead that divides it: then it leads
  have hbl' := (hmem b' hb').1
  have hL' := (hmem b' hb').2
  have hdv := dvN_iff.mp hd
  have hml : mL (tM (cg b')) (tM (cg i)) := mL_tM.mpr hdv
  have et := mA_mS hml
  rw [mA_comm] at et
  have hdi : degN (cg i) ≤ degN (cg b) := key_deg (Nat.le_of_lt ((hT.lt_iff (show i < ctN n by omega) hbl).mpr hi))
  have hdb : dgC cg b ≤ D := hV.deg _ (RS_row hV.ech hL) b hbl (by rw [(hB.1.2 b hL).2.1]; decide)
  have hdb' : degN (cg b) ≤ D := hdb
  have hdd : mD (mS (tM (cg i)) (tM (cg b'))) + degN (cg b') = degN (cg i) := by
    have := mD_mA (mS (tM (cg i)) (tM (cg b'))) (tM (cg b'))
    rw [et, mD_tM, mD_tM] at this
    omega
  obtain ⟨f1, a1, a2, a3, a4⟩ := hV.mult hL' _ (mS (tM (cg i)) (tM (cg b'))) rfl (by omega) (fun v x y => by rw [mE_mS _ _ y, mE_tM _ y, hin.2.2 v x y, Nat.zero_sub])
  obtain ⟨t1, t2⟩ := hV.mtop hL' a3 (show i < ctN n by omega) et.symm
  have hLi := RS_lead hV.ech a1 (show i < ctN n by omega) (by rw [t1]; decide) (fun j x y => t2 j x y)
  exact hne (hB.2.2.2.2.2 b hb i hi hLi)
