/-! THE CLASS'S SPACE: what holds while vectors come. -/
section SPC
variable {p cnt n D : Nat} {dg : Nat → Nat} {up : Nat → Nat → Nat} {gen : (Nat → Nat) → Prop}
theorem Spc_zero : Spc p cnt n D dg up gen (fun _ => 0) := fun S h0 _ _ _ => h0
theorem Spc_add {f g : Nat → Nat} (a : Nat) (hf : Spc p cnt n D dg up gen f) (hg : Spc p cnt n D dg up gen g) : Spc p cnt n D dg up gen (fun j => (f j + a * g j) % p) := fun S h0 ha hG hm => ha _ _ _ (hf S h0 ha hG hm) (hg S h0 ha hG hm)
theorem Spc_gen {g : Nat → Nat} (h : gen g) : Spc p cnt n D dg up gen g := fun S _ _ hG _ => hG g h
theorem Spc_mul {f : Nat → Nat} {v : Nat} (hv : v < n) (hf : Spc p cnt n D dg up gen f) (hd : ∀ j, j < cnt → f j ≠ 0 → dg j < D) : Spc p cnt n D dg up gen (fun j => if j < cnt then mulV cnt (up v) f j else 0) := fun S h0 ha hG hm => hm _ _ hv (hf S h0 ha hG hm) hd
end SPC
def SpI (p n D : Nat) (cg : Nat → Nat) (gen : (Nat → Nat) → Prop) (R Lf K : Nat → Nat) (kc : Nat) : Prop :=
  Ech p (ctN n) Lf (rowF R) ∧ (∀ i, Lf i = 1 → Spc p (ctN n) n D (dgC cg) (upN n cg) gen (rowF R i)) ∧ kc = sm (ctN n) Lf ∧ (∀ q, q < kc → K q < ctN n ∧ Lf (K q) = 1) ∧ (∀ i, Lf i = 1 → ∃ q, q < kc ∧ K q = i)
def Grow (p cnt : Nat) (R Lf K : Nat → Nat) (kc : Nat) (R' Lf' K' : Nat → Nat) (kc' : Nat) : Prop :=
  (∀ f, RS p cnt Lf (rowF R) f → RS p cnt Lf' (rowF R') f) ∧ (∀ i, Lf i = 1 → Lf' i = 1 ∧ rowF R' i = rowF R i) ∧ (∀ q, q < kc → K' q = K q) ∧ kc ≤ kc'
theorem Grow.refl {p cnt : Nat} {R Lf K : Nat → Nat} {kc : Nat} : Grow p cnt R Lf K kc R Lf K kc := ⟨fun _ h => h, fun _ h => ⟨h, rfl⟩, fun _ _ => rfl, Nat.le_refl _⟩
theorem Grow.trans {p cnt : Nat} {R Lf K R' Lf' K' R'' Lf'' K'' : Nat → Nat} {kc kc' kc'' : Nat} (h : Grow p cnt R Lf K kc R' Lf' K' kc') (h' : Grow p cnt R' Lf' K' kc' R'' Lf'' K'' kc'') : Grow p cnt R Lf K kc R'' Lf'' K'' kc'' := by
  obtain ⟨a1, a2, a3, a4⟩ := h
  obtain ⟨b1, b2, b3, b4⟩ := h'
  refine ⟨fun f hf => b1 f (a1 f hf), fun i hi => ?_, fun q hq => ?_, Nat.le_trans a4 b4⟩
  · obtain ⟨c1, c2⟩ := a2 i hi
    obtain ⟨d1, d2⟩ := b2 i c1
    exact ⟨d1, by rw [d2, c2]⟩
  · rw [b3 q (by omega), a3 q hq]
section STEP
variable {F p n ord D kc : Nat} {cg kg : Nat → Nat} {gen : (Nat → Nat) → Prop} {R Lf K : Nat → Nat}
theorem SpI.step (hF : 40000 < F) (hp : isP p) (hp2 : p ≤ 32003) (h1 : 1 ≤ n) (h4 : n ≤ 4) (h : SpI p n D cg gen R Lf K kc) {w : Nat → Nat} (hw : ∀ j, w j < p) (hw0 : ∀ j, ctN n ≤ j → w j = 0) (hS : Spc p (ctN n) n D (dgC cg) (upN n cg) gen w) :
    ∃ kc' R' Lf' K' x', m_absorbWork F (nI (ctN n)) (nI p) (nI kc) (nF R) (nF Lf) (nF K) (nF w) = some (nI kc', nF R', nF Lf', nF K', nF x') ∧ (∀ j, x' j < p) ∧ (∀ j, 126 ≤ j → x' j = 0) ∧
      SpI p n D cg gen R' Lf' K' kc' ∧ Grow p (ctN n) R Lf K kc R' Lf' K' kc' ∧ RS p (ctN n) Lf' (rowF R') w := by
  obtain ⟨hE, hrow, hkc, hK, hK'⟩ := h
  have hct := ctN_le h1 h4
  have hkl : ∀ i, i < ctN n → Lf i = 0 → kc < 126 := fun i hi h0 => by
    have := sm_lt hE.1 hi h0
    omega
  obtain ⟨kc', R', Lf', K', x', e, b1, b2, hA⟩ := p_absorb (K := K) hF hp.1 hp2 hct hkl hE hw hw0
  have hC := hA.came hct
  have hE' := hC.ech hp hE
  refine ⟨kc', R', Lf', K', x', e, b1, b2, ⟨hE', ?_, ?_⟩, ⟨fun f hf => hC.old hf, ?_⟩, hC.has hp hE hw⟩
  · exact hC.sub _ Spc_zero (fun f g a hf hg => Spc_add a hf hg) hS hrow hE.1
  · rcases hA with ⟨r1, r2, r3, r4, _⟩ | ⟨i, x, u, a1, a2, _, _, _, _, _, a8, a9, a10, a11⟩
    · rw [r2, r3, r4]; exact ⟨hkc, hK, hK'⟩
    · have hcnt : sm (ctN n) Lf' = sm (ctN n) Lf + 1 := by
        rcases hC.count with ⟨q, _⟩ | ⟨q, _⟩
        · have := congrFun q i
          rw [a9] at this
          have e2 : (if i = i then 1 else Lf i) = Lf i := this
          rw [if_pos rfl, a2] at e2
          omega
        · exact q
      refine ⟨by omega, fun q hq => ?_, fun q hq => ?_⟩
      · rw [a9, a10]
        show (if q = kc then i else K q) < ctN n ∧ (if (if q = kc then i else K q) = i then 1 else Lf (if q = kc then i else K q)) = 1
        by_cases z : q = kc
        · rw [if_pos z, if_pos rfl]; exact ⟨a1, rfl⟩
        · rw [if_neg z]
          have := hK q (by omega)
          refine ⟨this.1, ?_⟩
          split
          · rfl
          · exact this.2
      · rw [a9] at hq
        have hq2 : (if q = i then 1 else Lf q) = 1 := hq
        rw [a10]
        by_cases z : q = i
        · refine ⟨kc, by omega, ?_⟩
          show (if kc = kc then i else K kc) = q
          rw [if_pos rfl, z]
        · rw [if_neg z] at hq2
          obtain ⟨t, ht, e3⟩ := hK' q hq2
          refine ⟨t, by omega, ?_⟩
          show (if t = kc then i else K t) = q
          rw [if_neg (by omega), e3]
  · rcases hA with ⟨r1, r2, r3, r4, _⟩ | ⟨i, x, u, a1, a2, _, _, _, _, _, a8, a9, a10, a11⟩
    · rw [r1, r2, r3, r4]
      exact ⟨fun i hi => ⟨hi, rfl⟩, fun _ _ => rfl, Nat.le_refl _⟩
    · refine ⟨fun q hq => ?_, fun q hq => ?_, by omega⟩
      · have z : q ≠ i := fun z => by rw [z, a2] at hq; omega
        refine ⟨?_, ?_⟩
        · rw [a9]
          show (if q = i then 1 else Lf q) = 1
          rw [if_neg z]; exact hq
        · funext j
          rw [a8]
          exact keepR_other z (by omega)
      · rw [a10]
        show (if q = kc then i else K q) = K q
        rw [if_neg (by omega)]
end STEP
/-- generator g as a vector -/
def genV (G : Nat → Nat) (g j : Nat) : Nat := if j < 126 then G (g * 126 + j) else 0
def hiD (n D : Nat) (cg w : Nat → Nat) : Prop := ∃ i, i < ctN n ∧ D < dgC cg i ∧ w i ≠ 0
section TAKE
variable {F p n ord D kc : Nat} {cg kg : Nat → Nat} {gen : (Nat → Nat) → Prop} {R Lf K : Nat → Nat}
theorem p_spTakes_l (h1 : 1 ≤ n) (h4 : n ≤ 4) (hD : D ≤ 30) (hp2 : p ≤ 32003) (h : Tab n ord cg kg) {GA dgs : Nat → Int32} (hdg : ∀ q, q < ctN n → dgs q = nI (dgC cg q)) {w : Nat → Nat} (hw : ∀ j, w j < p) : ∀ (k m : Nat), k ≤ ctN n → k < m → (∀ j, k ≤ j → j < ctN n → D < dgC cg j → w j = 0) →
    (hiD n D cg w ∧ b_spTakes_22 F (nI (ctN n)) (nI D) (nI p) GA dgs m (nI k - nI 1) (nI kc) (nF R) (nF Lf) (nF K) (nF w) = some (0, nI kc, nF R, nF Lf, nF K, nF w)) ∨
    (¬ hiD n D cg w ∧ b_spTakes_22 F (nI (ctN n)) (nI D) (nI p) GA dgs m (nI k - nI 1) (nI kc) (nF R) (nF Lf) (nF K) (nF w) = s_spTakes_59 F (nI (ctN n)) (nI D) (nI p) GA dgs (nI kc) (nF R) (nF Lf) (nF K) (nF w)) := by
  have hct := ctN_le h1 h4
  intro k
  induction k with
  | zero =>
    intro m hk hm hz
    obtain ⟨m, rfl⟩ : ∃ q, m = q + 1 := ⟨m - 1, by omega⟩
    refine Or.inr ⟨fun ⟨i, a, b, c⟩ => c (hz i (by omega) a b), ?_⟩
    show s_spTakes_22 F (nI (ctN n)) (nI D) (nI p) GA dgs (b_spTakes_22 F (nI (ctN n)) (nI D) (nI p) GA dgs m) (nI 0 - nI 1) (nI kc) (nF R) (nF Lf) (nF K) (nF w) = _
    unfold s_spTakes_22
    rw [if_pos (by decide +kernel)]
  | succ k ih =>
    intro m hk hm hz
    obtain ⟨m, rfl⟩ : ∃ q, m = q + 1 := ⟨m - 1, by omega⟩
    have e0 : nI (k + 1) - nI 1 = nI k := by rw [pk_sub (by omega), Nat.add_sub_cancel]
    have e1 : nI k + (-1) = nI k - nI 1 := by
      rw [show (-1 : Int32) = - nI 1 from by decide +kernel, Int32.sub_eq_add_neg]
    have hdk : dgC cg k ≤ 30 := by
      have := (h.inT h1 h4 (show k < ctN n by omega)).2.1
      have := hiN_le n
      unfold dgC
      omega
    have hwk := hw k
    have step : b_spTakes_22 F (nI (ctN n)) (nI D) (nI p) GA dgs (m + 1) (nI (k + 1) - nI 1) (nI kc) (nF R) (nF Lf) (nF K) (nF w) =
        if dgC cg k ≤ D then s_spTakes_59 F (nI (ctN n)) (nI D) (nI p) GA dgs (nI kc) (nF R) (nF Lf) (nF K) (nF w) else if w k = 0 then b_spTakes_22 F (nI (ctN n)) (nI D) (nI p) GA dgs m (nI k - nI 1) (nI kc) (nF R) (nF Lf) (nF K) (nF w) else some (0, nI kc, nF R, nF Lf, nF K, nF w) := by
      show s_spTakes_22 F (nI (ctN n)) (nI D) (nI p) GA dgs (b_spTakes_22 F (nI (ctN n)) (nI D) (nI p) GA dgs m) (nI (k + 1) - nI 1) (nI kc) (nF R) (nF Lf) (nF K) (nF w) = _
      unfold s_spTakes_22
      rw [e0, if_neg (nI_pos (by omega)), rdI_n (by omega) (by decide), hdg k (by omega), e1]
      by_cases z : dgC cg k ≤ D
      · rw [if_pos (nI_le z (by omega)), if_pos z]
      · rw [if_neg (nI_ge (by omega) (by omega)), if_neg z, rdI_n (by omega) (by decide)]
        by_cases y : w k = 0
        · rw [if_pos y, if_pos (show nF w k = 0 by show nI (w k) = 0; rw [y]; rfl)]
        · rw [if_neg y, if_neg (show ¬ nF w k = 0 from nI_ne0 (by omega) (by omega))]
    rw [step]
    by_cases z : dgC cg k ≤ D
    · rw [if_pos z]
      refine Or.inr ⟨fun ⟨i, a, b, c⟩ => ?_, rfl⟩
      rcases Nat.lt_or_ge i (k + 1) with q | q
      · have := h.deg_mono h1 h4 (show i ≤ k by omega) (by omega)
        omega
      · exact c (hz i q a b)
    · rw [if_neg z]
      by_cases y : w k = 0
      · rw [if_pos y]
        refine ih m (by omega) (by omega) (fun j hj hjc hjd => ?_)
        by_cases q : j = k
        · rw [q]; exact y
        · exact hz j (by omega) hjc hjd
      · rw [if_neg y]
        exact Or.inl ⟨⟨k, by omega, by omega, y⟩, rfl⟩
theorem p_spTakes (hF : 40000 < F) (hp : isP p) (hp2 : p ≤ 32003) (h1 : 1 ≤ n) (h4 : n ≤ 4) (hD : D ≤ 30) (h : Tab n ord cg kg) {G w0 : Nat → Nat} {dgs : Nat → Int32} (hdg : ∀ q, q < ctN n → dgs q = nI (dgC cg q)) {g : Nat} (hg : g < 8) (hG : ∀ j, genV G g j < p) (hG0 : ∀ j, ctN n ≤ j → genV G g j = 0) (hw0 : ∀ j, 126 ≤ j → w0 j = 0) (hI : SpI p n D cg gen R Lf K kc) (hgen : gen (genV G g)) :
    (hiD n D cg (genV G g) ∧ m_spTakes F (nI (ctN n)) (nI D) (nI p) (nF G) dgs (nI (g * 126)) (nI kc) (nF R) (nF Lf) (nF K) (nF w0) = some (0, nI kc, nF R, nF Lf, nF K, nF (genV G g))) ∨
    (¬ hiD n D cg (genV G g) ∧ ∃ kc' R' Lf' K' x', m_spTakes F (nI (ctN n)) (nI D) (nI p) (nF G) dgs (nI (g * 126)) (nI kc) (nF R) (nF Lf) (nF K) (nF w0) = some (1, nI kc', nF R', nF Lf', nF K', nF x') ∧ (∀ j, x' j < p) ∧ (∀ j, 126 ≤ j → x' j = 0) ∧
      SpI p n D cg gen R' Lf' K' kc' ∧ Grow p (ctN n) R Lf K kc R' Lf' K' kc' ∧ RS p (ctN n) Lf' (rowF R') (genV G g)) := by
  have hct := ctN_le h1 h4
  have e : m_spTakes F (nI (ctN n)) (nI D) (nI p) (nF G) dgs (nI (g * 126)) (nI kc) (nF R) (nF Lf) (nF K) (nF w0) = b_spTakes_22 F (nI (ctN n)) (nI D) (nI p) (nF G) dgs F (nI (ctN n) - nI 1) (nI kc) (nF R) (nF Lf) (nF K) (nF (genV G g)) := by
    unfold m_spTakes
    rw [show (0 : Int32) = nI 0 from rfl, show (126 : Int32) = nI 126 from rfl, cpI_n (by omega) (by omega) (by decide) (by decide)]
    have e2 : va_cpy (nF G) (nF w0) (g * 126) 0 126 = nF (genV G g) := by
      funext j
      unfold va_cpy nF genV
      by_cases q : j < 126
      · rw [if_pos (by omega), if_pos q]
        congr 2
      · rw [if_neg (by omega), if_neg q, hw0 j (by omega)]
    rw [e2]
    rfl
  rw [e]
  rcases p_spTakes_l (F := F) (kc := kc) (R := R) (Lf := Lf) (K := K) (GA := nF G) h1 h4 hD hp2 h hdg hG (ctN n) F (Nat.le_refl _) (by omega) (fun j a b => by omega) with ⟨a, b⟩ | ⟨a, b⟩
  · exact Or.inl ⟨a, b⟩
  · refine Or.inr ⟨a, ?_⟩
    obtain ⟨kc', R', Lf', K', x', c1, c2⟩ := hI.step hF hp hp2 h1 h4 hG hG0 (Spc_gen hgen)
    refine ⟨kc', R', Lf', K', x', ?_, c2⟩
    rw [b]
    unfold s_spTakes_59
    rw [c1]
    rfl
end TAKE
