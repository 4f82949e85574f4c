/-! THE BASIS OF A COMPLETE SPACE IS ONE THAT TELLS REMAINDERS (no machine here). -/
def mE (t : M4) (v : Nat) : Nat := if v = 0 then t.1 else if v = 1 then t.2.1 else if v = 2 then t.2.2.1 else t.2.2.2
theorem mE_tM (c : Nat) {v : Nat} (hv : v < 4) : mE (tM c) v = exN c v := by
  rcases (show v = 0 ∨ v = 1 ∨ v = 2 ∨ v = 3 by omega) with q | q | q | q <;> subst q <;> rfl
theorem mE_mS (a b : M4) {v : Nat} (hv : v < 4) : mE (mS a b) v = mE a v - mE b v := by
  rcases (show v = 0 ∨ v = 1 ∨ v = 2 ∨ v = 3 by omega) with q | q | q | q <;> subst q <;> rfl
theorem mE_pos {t : M4} (h : 0 < mD t) : ∃ v, v < 4 ∧ 0 < mE t v := by
  obtain ⟨a, b, c, d⟩ := t
  unfold mD at h
  simp only [] at h
  by_cases h0 : 0 < a
  · exact ⟨0, by decide, h0⟩
  · by_cases h1 : 0 < b
    · exact ⟨1, by decide, h1⟩
    · by_cases h2 : 0 < c
      · exact ⟨2, by decide, h2⟩
      · exact ⟨3, by decide, by show 0 < d; omega⟩
theorem mL_vM {t : M4} {v : Nat} (hv : v < 4) (h : 0 < mE t v) : mL (vM v) t := by
  obtain ⟨a, b, c, d⟩ := t
  rcases (show v = 0 ∨ v = 1 ∨ v = 2 ∨ v = 3 by omega) with q | q | q | q <;> subst q
  · have : 0 < a := h
    unfold mL vM; simp only []; refine ⟨?_, ?_, ?_, ?_⟩ <;> simp <;> omega
  · have : 0 < b := h
    unfold mL vM; simp only []; refine ⟨?_, ?_, ?_, ?_⟩ <;> simp <;> omega
  · have : 0 < c := h
    unfold mL vM; simp only []; refine ⟨?_, ?_, ?_, ?_⟩ <;> simp <;> omega
  · have : 0 < d := h
    unfold mL vM; simp only []; refine ⟨?_, ?_, ?_, ?_⟩ <;> simp <;> omega
theorem mD_0 {t : M4} (h : mD t = 0) : t = (0, 0, 0, 0) := by
  obtain ⟨a, b, c, d⟩ := t
  unfold mD at h
  simp only [] at h
  simp only [Prod.mk.injEq]
  omega
theorem shM_0 (g : M4 → Int) (x : M4) : shM (0, 0, 0, 0) g x = g x := by
  obtain ⟨x0, x1, x2, x3⟩ := x
  unfold shM
  rw [if_pos (by unfold mL; simp only []; omega)]
  rfl
theorem lead_div {cg Lf : Nat → Nat} {i : Nat} : ∀ k, i < k → Lf i = 1 → ∃ b ∈ bsN cg Lf k, ∀ u, u < 4 → exN (cg b) u ≤ exN (cg i) u := by
  intro k
  induction k with
  | zero => intro h; omega
  | succ k ih =>
    intro hi hL
    by_cases e : i = k
    · subst e
      by_cases hc : ∀ b ∈ bsN cg Lf i, dvN 0 (cg b) (cg i) ≠ 1
      · refine ⟨i, ?_, fun u _ => Nat.le_refl _⟩
        show i ∈ (if _ then _ else _)
        rw [if_pos ⟨hL, hc⟩, List.mem_append, List.mem_singleton]
        exact Or.inr rfl
      · obtain ⟨b, hb⟩ := Classical.not_forall.mp hc
        obtain ⟨hb1, hb2⟩ := Classical.not_imp.mp hb
        refine ⟨b, ?_, dvN_iff.mp (Classical.not_not.mp hb2)⟩
        show b ∈ (if _ then _ else _)
        rw [if_neg (fun z => hc z.2)]
        exact hb1
    · obtain ⟨b, hb, hd⟩ := ih (by omega) hL
      refine ⟨b, ?_, hd⟩
      show b ∈ (if _ then _ else _)
      split
      · rw [List.mem_append]; exact Or.inl hb
      · exact hb
section SPAIR
variable {p n ord D : Nat} {cg kg : Nat → Nat}
theorem pG_up (h1 : 1 ≤ n) (h4 : n ≤ 4) (hT : Tab n ord cg kg) {v : Nat} (hv : v < n) {f : Nat → Nat} (hd : ∀ j, j < ctN n → f j ≠ 0 → dgC cg j < hiN n) (x : M4) : pG (ctN n) cg (prV n cg v f) x = shM (vM v) (pG (ctN n) cg f) x := by
  unfold pG
  rw [shM_sum (vM v) (ctN n) (fun j x => (f j : Int) * dM (tM (cg j)) x)]
  have e1 : smI (ctN n) (fun j => (prV n cg v f j : Int) * dM (tM (cg j)) x) = smI (ctN n) (fun j => smI (ctN n) (fun i => if upN n cg v i = j then (f i : Int) * dM (tM (cg j)) x else 0)) := by
    refine smI_congr fun j hj => ?_
    unfold prV mulV
    rw [if_pos hj, ← smI_nat, Int.mul_comm, ← smI_mul]
    refine smI_congr fun i hi => ?_
    by_cases z : upN n cg v i = j
    · rw [if_pos z, if_pos z, Int.mul_comm]
    · rw [if_neg z, if_neg z]; exact Int.mul_zero _
  rw [e1, smI_swap]
  refine smI_congr fun i hi => ?_
  rw [shM_mul]
  show _ = (f i : Int) * shM (vM v) (dM (tM (cg i))) x
  rw [shM_dM]
  by_cases z : f i = 0
  · rw [z, smI_zero (fun j hj => ?_)]
    · exact (Int.zero_mul _).symm
    · split
      · exact Int.zero_mul _
      · rfl
  · have hup := (hT.up_lt h1 h4 hv hi).mpr (hd i hi z)
    have hci := hT.inT h1 h4 hi
    rw [smI_one (f := fun j => if upN n cg v i = j then (f i : Int) * dM (tM (cg j)) x else 0) hup (x := (f i : Int) * dM (tM (cg (upN n cg v i))) x) (fun j hj hne => if_neg (fun q => hne q.symm)) (if_pos rfl), hT.up_in h1 h4 hv hi hup, tM_add hci.1 (by omega) (by have := inT_ex hci (show v < 4 by omega); omega)]
/-- nothing of the space comes over the degree -/
theorem Spc_deg (h1 : 1 ≤ n) (h4 : n ≤ 4) (hT : Tab n ord cg kg) {gen : (Nat → Nat) → Prop} (hg : ∀ g, gen g → ∀ j, j < ctN n → g j ≠ 0 → dgC cg j ≤ D) {f : Nat → Nat} (hf : Spc p (ctN n) n D (dgC cg) (upN n cg) gen f) : ∀ j, j < ctN n → f j ≠ 0 → dgC cg j ≤ D := by
  refine hf (fun f => ∀ j, j < ctN n → f j ≠ 0 → dgC cg j ≤ D) (fun j _ h => absurd rfl h) (fun f g a hf hg j hj hne => ?_) hg (fun f v hv hf hd j hj hne => ?_)
  · by_cases z : f j = 0
    · by_cases y : g j = 0
      · exact absurd (by show (f j + a * g j) % p = 0; rw [z, y, Nat.mul_zero]; exact Nat.zero_mod p) hne
      · exact hg j hj y
    · exact hf j hj z
  · dsimp only at hne
    rw [if_pos hj] at hne
    by_cases q : ∃ i, i < ctN n ∧ upN n cg v i = j ∧ f i ≠ 0
    · obtain ⟨i, hi, e, hz⟩ := q
      have := hT.up_deg h1 h4 hv hi (by rw [e]; exact hj)
      rw [e] at this
      have := hd i hi hz
      omega
    · refine absurd (sm_zero fun i hi => ?_) hne
      by_cases y : upN n cg v i = j
      · rw [if_pos y]
        exact Classical.byContradiction fun w => q ⟨i, hi, y, w⟩
      · rw [if_neg y]
/-- the space, as it stands at the end -/
def Vs (p n ord D : Nat) (cg kg R Lf bs : Nat → Nat) : Prop :=
  (isP p) ∧
  (1 ≤ n) ∧
  (n ≤ 4) ∧
  (D ≤ hiN n) ∧
  (Tab n ord cg kg) ∧
  (Ech p (ctN n) Lf (rowF R)) ∧
  (∀ f v, v < n → RS p (ctN n) Lf (rowF R) f → (∀ j, j < ctN n → f j ≠ 0 → dgC cg j < D) → RS p (ctN n) Lf (rowF R) (prV n cg v f)) ∧
  (∀ f, RS p (ctN n) Lf (rowF R) f → ∀ j, j < ctN n → f j ≠ 0 → dgC cg j ≤ D) ∧
  (Arr (bsN cg Lf (ctN n)) bs) ∧
  (Cpl cg D (bsN cg Lf (ctN n)))
theorem Vs.pP {p n ord D : Nat} {cg kg R Lf bs : Nat → Nat} (h : Vs p n ord D cg kg R Lf bs) : isP p := h.1
theorem Vs.n1 {p n ord D : Nat} {cg kg R Lf bs : Nat → Nat} (h : Vs p n ord D cg kg R Lf bs) : 1 ≤ n := h.2.1
theorem Vs.n4 {p n ord D : Nat} {cg kg R Lf bs : Nat → Nat} (h : Vs p n ord D cg kg R Lf bs) : n ≤ 4 := h.2.2.1
theorem Vs.hD {p n ord D : Nat} {cg kg R Lf bs : Nat → Nat} (h : Vs p n ord D cg kg R Lf bs) : D ≤ hiN n := h.2.2.2.1
theorem Vs.tab {p n ord D : Nat} {cg kg R Lf bs : Nat → Nat} (h : Vs p n ord D cg kg R Lf bs) : Tab n ord cg kg := h.2.2.2.2.1
theorem Vs.ech {p n ord D : Nat} {cg kg R Lf bs : Nat → Nat} (h : Vs p n ord D cg kg R Lf bs) : Ech p (ctN n) Lf (rowF R) := h.2.2.2.2.2.1
theorem Vs.mul {p n ord D : Nat} {cg kg R Lf bs : Nat → Nat} (h : Vs p n ord D cg kg R Lf bs) : ∀ f v, v < n → RS p (ctN n) Lf (rowF R) f → (∀ j, j < ctN n → f j ≠ 0 → dgC cg j < D) → RS p (ctN n) Lf (rowF R) (prV n cg v f) := h.2.2.2.2.2.2.1
theorem Vs.deg {p n ord D : Nat} {cg kg R Lf bs : Nat → Nat} (h : Vs p n ord D cg kg R Lf bs) : ∀ f, RS p (ctN n) Lf (rowF R) f → ∀ j, j < ctN n → f j ≠ 0 → dgC cg j ≤ D := h.2.2.2.2.2.2.2.1
theorem Vs.arr {p n ord D : Nat} {cg kg R Lf bs : Nat → Nat} (h : Vs p n ord D cg kg R Lf bs) : Arr (bsN cg Lf (ctN n)) bs := h.2.2.2.2.2.2.2.2.1
theorem Vs.cpl {p n ord D : Nat} {cg kg R Lf bs : Nat → Nat} (h : Vs p n ord D cg kg R Lf bs) : Cpl cg D (bsN cg Lf (ctN n)) := h.2.2.2.2.2.2.2.2.2
variable {R Lf bs : Nat → Nat}
theorem Vs.of (hp : isP p) (h1 : 1 ≤ n) (h4 : n ≤ 4) (hD : D ≤ hiN n) (hT : Tab n ord cg kg) {gen : (Nat → Nat) → Prop} (hg : ∀ g, gen g → ∀ j, j < ctN n → g j ≠ 0 → dgC cg j ≤ D) (hB : GoodB p n D cg gen R Lf bs) (h0 : Lf 0 = 0) (hC : Cpl cg D (bsN cg Lf (ctN n))) : Vs p n ord D cg kg R Lf bs := by
  have hfull : ∀ f, Spc p (ctN n) n D (dgC cg) (upN n cg) gen f → RS p (ctN n) Lf (rowF R) f := by
    rcases hB.2.2.2.1 with z | z
    · omega
    · exact z
  exact ⟨hp, h1, h4, hD, hT, hB.1, fun f v hv hf hd => hfull _ (Spc_mul hv (hB.2.2.1 f hf) hd), fun f hf => Spc_deg h1 h4 hT hg (hB.2.2.1 f hf), hB.2.2.2.2.1, hC⟩
theorem prV_lt {v : Nat} {f : Nat → Nat} (hp : 0 < p) (h1 : 1 ≤ n) (h4 : n ≤ 4) (hT : Tab n ord cg kg) (hv : v < n) (hf : ∀ j, f j < p) (j : Nat) : prV n cg v f j < p := by
  unfold prV
  by_cases q : j < ctN n
  · rw [if_pos q]
    exact mulV_lt hp (fun a b ha hb e hu => hT.up_inj h1 h4 hv ha hb e hu) hf q
  · rw [if_neg q]; exact hp
/-- a member times a monomial lies in the space, up to its degree -/
theorem Vs.mult (h : Vs p n ord D cg kg R Lf bs) {b : Nat} (hb : Lf b = 1) : ∀ (d : Nat) (t : M4), mD t = d → degN (cg b) + d ≤ D → (∀ v, n ≤ v → v < 4 → mE t v = 0) →
    ∃ f, RS p (ctN n) Lf (rowF R) f ∧ (∀ j, f j < p) ∧ (∀ x, pG (ctN n) cg f x = shM t (pG (ctN n) cg (rowF R b)) x) ∧ ∀ j, j < ctN n → f j ≠ 0 → dgC cg j ≤ degN (cg b) + d := by
  intro d
  induction d with
  | zero =>
    intro t ht hd hz
    obtain ⟨r1, r2, r3, r4⟩ := h.ech.2 b hb
    refine ⟨rowF R b, RS_row h.ech hb, r4, fun x => by rw [mD_0 ht, shM_0], fun j hj hne => ?_⟩
    have hjb : j ≤ b := by
      rcases Nat.lt_or_ge b j with q | q
      · exact absurd (r3 j q) hne
      · exact q
    exact h.tab.deg_mono h.n1 h.n4 hjb r1
  | succ d ih =>
    intro t ht hd hz
    obtain ⟨v, hv, hpos⟩ := mE_pos (show 0 < mD t by omega)
    have hvn : v < n := by
      rcases Nat.lt_or_ge v n with q | q
      · exact q
      · have := hz v q hv; omega
    have hml := mL_vM hv hpos
    have et := mA_mS hml
    have hd2 : mD (mS t (vM v)) = d := by
      have := mD_mA (vM v) (mS t (vM v))
      rw [et, mD_vM hv] at this
      omega
    obtain ⟨f, f1, f2, f3, f4⟩ := ih (mS t (vM v)) hd2 (by omega) (fun w h1 h2 => by rw [mE_mS t _ h2, hz w h1 h2, Nat.zero_sub])
    refine ⟨prV n cg v f, h.mul f v hvn f1 (fun j hj hne => by have := f4 j hj hne; omega), prV_lt (by have := h.pP.1; omega) h.n1 h.n4 h.tab hvn f2, fun x => ?_, fun j hj hne => ?_⟩
    · rw [pG_up h.n1 h.n4 h.tab hvn (fun j hj hne => by have := f4 j hj hne; have := h.hD; omega)]
      have : shM (vM v) (pG (ctN n) cg f) x = shM (vM v) (shM (mS t (vM v)) (pG (ctN n) cg (rowF R b))) x := by
        unfold shM
        by_cases q : mL (vM v) x
        · rw [if_pos q, if_pos q]
          have := f3 (mS x (vM v))
          unfold shM at this
          exact this
        · rw [if_neg q, if_neg q]
      rw [this, shM_shM, et]
    · unfold prV at hne
      rw [if_pos hj] at hne
      by_cases q : ∃ i, i < ctN n ∧ upN n cg v i = j ∧ f i ≠ 0
      · obtain ⟨i, hi, e, hz⟩ := q
        have := h.tab.up_deg h.n1 h.n4 hvn hi (by rw [e]; exact hj)
        rw [e] at this
        have := f4 i hi hz
        omega
      · refine absurd (sm_zero fun i hi => ?_) hne
        by_cases y : upN n cg v i = j
        · rw [if_pos y]
          exact Classical.byContradiction fun w => q ⟨i, hi, y, w⟩
        · rw [if_neg y]
theorem Vs.tlt (h : Vs p n ord D cg kg R Lf bs) : ∀ j, j < ctN n → cg j < 2 ^ 32 := fun j hj => (h.tab.inT h.n1 h.n4 hj).1
theorem Vs.tinj (h : Vs p n ord D cg kg R Lf bs) : ∀ i j, i < ctN n → j < ctN n → cg i = cg j → i = j := fun i j hi hj e => h.tab.inj hi hj e
/-- .. and it leads with the product -/
theorem Vs.mtop (h : Vs p n ord D cg kg R Lf bs) {b : Nat} (hb : Lf b = 1) {t : M4} {f : Nat → Nat} (hf : ∀ x, pG (ctN n) cg f x = shM t (pG (ctN n) cg (rowF R b)) x) {J : Nat} (hJ : J < ctN n) (e : tM (cg J) = mA t (tM (cg b))) : f J = 1 ∧ ∀ j, J < j → j < ctN n → f j = 0 := by
  obtain ⟨r1, r2, r3, r4⟩ := h.ech.2 b hb
  constructor
  · have := hf (tM (cg J))
    rw [pG_at h.tlt h.tinj hJ, e] at this
    unfold shM at this
    rw [if_pos (mL_mA _ _), mS_mA, pG_at h.tlt h.tinj r1, r2] at this
    omega
  · intro j hj hjc
    have := hf (tM (cg j))
    rw [pG_at h.tlt h.tinj hjc] at this
    have hz : shM t (pG (ctN n) cg (rowF R b)) (tM (cg j)) = 0 := by
      unfold shM
      by_cases q : mL t (tM (cg j))
      · rw [if_pos q]
        refine pG_out fun i hi hne hx => ?_
        have hib : i ≤ b := by
          rcases Nat.lt_or_ge b i with z | z
          · exact absurd (r3 i z) hne
          · exact z
        have k1 : mK ord (tM (cg j)) = mK ord t + mK ord (tM (cg i)) := by rw [← mK_add, ← hx, mA_mS q]
        have k2 : mK ord (tM (cg J)) = mK ord t + mK ord (tM (cg b)) := by rw [e, mK_add]
        have k3 : mK ord (tM (cg i)) ≤ mK ord (tM (cg b)) := by
          rw [← keyN_le]
          rcases Nat.lt_or_ge i b with z | z
          · exact Nat.le_of_lt ((h.tab.lt_iff hi r1).mpr z)
          · rw [show i = b by omega]; exact Nat.le_refl _
        have k4 := keyN_lt_iff.mp ((h.tab.lt_iff hJ hjc).mpr hj)
        omega
      · rw [if_neg q]
    rw [hz] at this
    omega
theorem dvd_mod (a p : Nat) : (p : Int) ∣ ((a % p : Nat) : Int) - (a : Int) := by
  have := Nat.div_add_mod a p
  refine ⟨-((a / p : Nat) : Int), ?_⟩
  rw [Int.mul_neg, ← Int.natCast_mul]
  omega
theorem pG_mod {cnt : Nat} {f g : Nat → Nat} {a : Nat} (x : M4) : (p : Int) ∣ pG cnt cg (fun j => (f j + a * g j) % p) x - (pG cnt cg f x + a * pG cnt cg g x) := by
  unfold pG
  rw [← smI_mul, ← smI_add, ← smI_sub]
  refine smI_dvd fun i hi => ?_
  rw [← Int.mul_assoc, ← Int.add_mul, ← Int.sub_mul]
  refine Int.dvd_mul_of_dvd_left ?_
  have := dvd_mod (f i + a * g i) p
  rw [Int.natCast_add, Int.natCast_mul] at this
  exact this
/-- all of the space is a sum of multiples of the basis, with no top over its lead -/
theorem Vs.expand (h : Vs p n ord D cg kg R Lf bs) {N : Nat} (hN : N = (bsN cg Lf (ctN n)).length) {G : Nat → M4 → Int} (hG : ∀ q, q < N → ∀ x, G q x = pG (ctN n) cg (rowF R (bs q)) x) : ∀ (J : Nat), J ≤ ctN n → ∀ f, RS p (ctN n) Lf (rowF R) f → (∀ j, f j < p) → (∀ j, J ≤ j → j < ctN n → f j = 0) →
    ∃ L : List (Int × M4 × Nat), (∀ e ∈ L, e.2.2 < N ∧ ∃ i, i < J ∧ topM (lQ cg bs) e = tM (cg i)) ∧ ∀ x, (p : Int) ∣ pG (ctN n) cg f x - evM G L x := by
  intro J
  induction J with
  | zero =>
    intro hJ f hf hlt h0
    refine ⟨[], fun e he => absurd he List.not_mem_nil, fun x => ?_⟩
    rw [pG_out (fun j hj hne => absurd (h0 j (Nat.zero_le _) hj) hne)]
    exact ⟨0, by show (0 : Int) - 0 = _; rw [Int.mul_zero]; rfl⟩
  | succ J ih =>
    intro hJ f hf hlt h0
    by_cases z : f J = 0
    · obtain ⟨L, L1, L2⟩ := ih (by omega) f hf hlt (fun j h1 h2 => by
        by_cases e : j = J
        · rw [e]; exact z
        · exact h0 j (by omega) h2)
      exact ⟨L, fun e he => ⟨(L1 e he).1, by obtain ⟨i, a, b⟩ := (L1 e he).2; exact ⟨i, by omega, b⟩⟩, L2⟩
    · have hL := RS_lead h.ech hf (show J < ctN n by omega) z (fun j h1 h2 => h0 j (by omega) h2)
      obtain ⟨b, hb, hdv⟩ := lead_div (cg := cg) (ctN n) (show J < ctN n by omega) hL
      obtain ⟨q, hq, eq⟩ := (h.arr.mem b).mp hb
      have hLb := (bsN_mem cg Lf _ b hb).2
      have hml : mL (tM (cg b)) (tM (cg J)) := mL_tM.mpr hdv
      have et := mA_mS hml
      rw [mA_comm] at et
      have hdJ : dgC cg J ≤ D := h.deg f hf J (by omega) z
      have hdd : mD (mS (tM (cg J)) (tM (cg b))) + degN (cg b) = degN (cg J) := by
        have := mD_mA (mS (tM (cg J)) (tM (cg b))) (tM (cg b))
        rw [et, mD_tM, mD_tM] at this
        omega
      have hdJ' : degN (cg J) ≤ D := hdJ
      obtain ⟨f1, a1, a2, a3, a4⟩ := h.mult hLb _ (mS (tM (cg J)) (tM (cg b))) rfl (by omega) (fun v h1 h2 => by
        rw [mE_mS _ _ h2, mE_tM _ h2, (h.tab.inT h.n1 h.n4 (show J < ctN n by omega)).2.2 v h1 h2, Nat.zero_sub])
      obtain ⟨t1, t2⟩ := h.mtop hLb a3 (show J < ctN n by omega) et.symm
      have hp2 := h.pP.1
      obtain ⟨L, L1, L2⟩ := ih (by omega) (fun j => (f j + (p - f J) * f1 j) % p) (RS_addm hf a1 (p - f J)) (fun j => Nat.mod_lt _ (by omega)) (fun j h1 h2 => by
        by_cases e : j = J
        · show (f j + (p - f J) * f1 j) % p = 0
          have := hlt J
          rw [e, t1, Nat.mul_one, show f J + (p - f J) = p by omega, Nat.mod_self]
        · show (f j + (p - f J) * f1 j) % p = 0
          rw [h0 j (by omega) h2, t2 j (by omega) h2, Nat.mul_zero, Nat.add_zero, Nat.zero_mod])
      refine ⟨((f J : Int), mS (tM (cg J)) (tM (cg b)), q) :: L, fun e he => ?_, fun x => ?_⟩
      · rcases List.mem_cons.mp he with q1 | q1
        · rw [q1]
          refine ⟨by show q < N; omega, J, by omega, ?_⟩
          unfold topM lQ
          show mA (mS (tM (cg J)) (tM (cg b))) (tM (cg (bs q))) = _
          rw [eq, et]
        · obtain ⟨c1, i, c2, c3⟩ := L1 e q1
          exact ⟨c1, i, by omega, c3⟩
      · show (p : Int) ∣ _ - ((f J : Int) * shM (mS (tM (cg J)) (tM (cg b))) (G q) x + evM G L x)
        have e1 : shM (mS (tM (cg J)) (tM (cg b))) (G q) x = pG (ctN n) cg f1 x := by
          rw [a3]
          unfold shM
          by_cases w : mL (mS (tM (cg J)) (tM (cg b))) x
          · rw [if_pos w, if_pos w, hG q (by omega), eq]
          · rw [if_neg w, if_neg w]
        rw [e1]
        have d1 := L2 x
        have d2 := pG_mod (p := p) (cg := cg) (cnt := ctN n) (f := f) (g := f1) (a := p - f J) x
        have d3 := Int.dvd_sub d1 d2
        have d4 : (p : Int) ∣ (p : Int) * pG (ctN n) cg f1 x := Int.dvd_mul_right _ _
        have := Int.dvd_sub d3 d4
        have hc : ((p - f J : Nat) : Int) = (p : Int) - (f J : Int) := by have := hlt J; omega
        rw [hc, Int.sub_mul] at this
        have e2 : ∀ A B C E Fv : Int, A - B - (A - (C + (E - Fv))) - E = C - (Fv + B) := by intros; omega
        rw [e2] at this
        exact this
theorem lsum (G : Nat → M4 → Int) (q : Nat) (c : Nat → Int) (m : Nat → M4) : ∀ J, ∃ L : List (Int × M4 × Nat), (∀ e ∈ L, e.2.2 = q ∧ ∃ i, i < J ∧ e.2.1 = m i) ∧ ∀ x, evM G L x = smI J (fun i => c i * shM (m i) (G q) x) := by
  intro J
  induction J with
  | zero => exact ⟨[], fun e he => absurd he List.not_mem_nil, fun x => rfl⟩
  | succ J ih =>
    obtain ⟨L, L1, L2⟩ := ih
    refine ⟨(c J, m J, q) :: L, fun e he => ?_, fun x => ?_⟩
    · rcases List.mem_cons.mp he with r | r
      · rw [r]; exact ⟨rfl, J, by omega, rfl⟩
      · obtain ⟨a, i, b, d⟩ := L1 e r
        exact ⟨a, i, by omega, d⟩
    · show c J * shM (m J) (G q) x + evM G L x = _
      rw [L2 x, smI_s]
      omega
theorem conv_comm (cnt : Nat) (m : Nat → M4) (a c : Nat → Int) (x : M4) : smI cnt (fun j => c j * shM (m j) (fun y => smI cnt (fun i => a i * dM (m i) y)) x) = smI cnt (fun i => a i * shM (m i) (fun y => smI cnt (fun j => c j * dM (m j) y)) x) := by
  have e : ∀ (a c : Nat → Int), smI cnt (fun j => c j * shM (m j) (fun y => smI cnt (fun i => a i * dM (m i) y)) x) = smI cnt (fun j => smI cnt (fun i => c j * (a i * dM (mA (m j) (m i)) x))) := by
    intro a c
    refine smI_congr fun j hj => ?_
    rw [shM_sum (m j) cnt (fun i y => a i * dM (m i) y), ← smI_mul]
    refine smI_congr fun i hi => ?_
    rw [shM_mul]
    show c j * (a i * shM (m j) (dM (m i)) x) = _
    rw [shM_dM]
  rw [e, e, smI_swap]
  refine smI_congr fun i hi => smI_congr fun j hj => ?_
  rw [mA_comm (m j) (m i), ← Int.mul_assoc, ← Int.mul_assoc, Int.mul_comm (c j) (a i)]
end SPAIR
