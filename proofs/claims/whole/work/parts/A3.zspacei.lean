/-! THE REFERENCE'S SPACE: what holds while vectors come. -/
section ZSP
variable {F p n ord D : Nat} {cg kg : Nat → Nat} {gen : (Nat → Nat) → Prop}
theorem p_zdegreeOfGenerator_l (h1 : 1 ≤ n) (h4 : n ≤ 4) (hD : D ≤ 30) (hT : Tab n ord cg kg) {G : Nat → Nat} {dgs : Nat → Int32} (hdg : ∀ q, q < ctN n → dgs q = nI (dgC cg q)) {g : Nat} (hg : g < 8) (hp2 : p ≤ 32003) (hG : ∀ j, genV G g j < p) :
    ∀ (d m k : Nat) (cur : Int32), k + d = ctN n → d < m → ((cur = -1 ∧ ∀ j, j < k → genV G g j = 0) ∨ ∃ q, q < k ∧ genV G g q ≠ 0 ∧ cur = nI (dgC cg q) ∧ ∀ j, q < j → j < k → genV G g j = 0) →
      ∃ r, b_zdegreeOfGenerator_4 F (nI (ctN n)) dgs (nF G) m (nI g) cur (nI k) = some r ∧ (nI D < r ↔ hiD n D cg (genV G g)) := by
  have hct := ctN_le h1 h4
  have hd30 : ∀ q, q < ctN n → dgC cg q ≤ 30 := fun q hq => by
    have := (hT.inT h1 h4 hq).2.1
    have := hiN_le n
    unfold dgC
    omega
  intro d
  induction d with
  | zero =>
    intro m k cur hk hm hc
    obtain ⟨m, rfl⟩ : ∃ q, m = q + 1 := ⟨m - 1, by omega⟩
    refine ⟨cur, ?_, ?_⟩
    · show s_zdegreeOfGenerator_4 F (nI (ctN n)) dgs (nF G) (b_zdegreeOfGenerator_4 F (nI (ctN n)) dgs (nF G) m) (nI g) cur (nI k) = _
      unfold s_zdegreeOfGenerator_4
      rw [if_pos (nI_le (by omega) (by omega))]
    · rcases hc with ⟨e, z⟩ | ⟨q, a1, a2, e, z⟩
      · constructor
        · intro h
          rw [e] at h
          have : ∀ D, D ≤ 30 → ¬ nI D < (-1 : Int32) := by
            intro D hD
            have : ∀ D, D < 31 → ¬ nI D < (-1 : Int32) := by decide +kernel
            exact this D (by omega)
          exact absurd h (this D hD)
        · rintro ⟨i, b1, _, b3⟩
          exact absurd (z i (by omega)) b3
      · rw [e]
        constructor
        · intro h
          refine ⟨q, by omega, ?_, a2⟩
          rcases Nat.lt_or_ge D (dgC cg q) with y | y
          · exact y
          · exact absurd h (nI_nlt y (by omega))
        · rintro ⟨i, b1, b2, b3⟩
          have hiq : i ≤ q := by
            rcases Nat.lt_or_ge q i with y | y
            · exact absurd (z i y (by omega)) b3
            · exact y
          have := hT.deg_mono h1 h4 hiq (by omega)
          have := hd30 q (by omega)
          exact nI_lt (by omega) (by omega)
  | succ d ih =>
    intro m k cur hk hm hc
    obtain ⟨m, rfl⟩ : ∃ q, m = q + 1 := ⟨m - 1, by omega⟩
    have eG : genV G g k = G (g * 126 + k) := by unfold genV; rw [if_pos (by omega)]
    have hGk := hG k
    have unf : b_zdegreeOfGenerator_4 F (nI (ctN n)) dgs (nF G) (m + 1) (nI g) cur (nI k) = if genV G g k = 0 then b_zdegreeOfGenerator_4 F (nI (ctN n)) dgs (nF G) m (nI g) cur (nI (k + 1)) else b_zdegreeOfGenerator_4 F (nI (ctN n)) dgs (nF G) m (nI g) (nI (dgC cg k)) (nI (k + 1)) := by
      show s_zdegreeOfGenerator_4 F (nI (ctN n)) dgs (nF G) (b_zdegreeOfGenerator_4 F (nI (ctN n)) dgs (nF G) m) (nI g) cur (nI k) = _
      unfold s_zdegreeOfGenerator_4
      rw [if_neg (nI_ge (by omega) (by omega)), show (126 : Int32) * nI g = nI (126 * g) from pk_mul 126 g, nI_add, rdI_n (by omega) (by decide), show nI k + 1 = nI (k + 1) from nI_add k 1, eG, show 126 * g + k = g * 126 + k by omega]
      by_cases z : G (g * 126 + k) = 0
      · rw [if_pos z, if_pos (show nF G (g * 126 + k) = 0 by show nI (G (g * 126 + k)) = 0; rw [z]; rfl)]
      · rw [if_neg z, if_neg (show ¬ nF G (g * 126 + k) = 0 from nI_ne0 (by omega) (by omega)), rdI_n (by omega) (by decide), hdg k (by omega)]
    rw [unf]
    by_cases z : genV G g k = 0
    · rw [if_pos z]
      refine ih m (k + 1) cur (by omega) (by omega) ?_
      rcases hc with ⟨e, y⟩ | ⟨q, a1, a2, e, y⟩
      · refine Or.inl ⟨e, fun j hj => ?_⟩
        by_cases x : j = k
        · rw [x]; exact z
        · exact y j (by omega)
      · refine Or.inr ⟨q, by omega, a2, e, fun j hq hj => ?_⟩
        by_cases x : j = k
        · rw [x]; exact z
        · exact y j hq (by omega)
    · rw [if_neg z]
      exact ih m (k + 1) _ (by omega) (by omega) (Or.inr ⟨k, by omega, z, rfl, fun j a b => by omega⟩)
theorem p_zdegreeOfGenerator (hF : 200 < F) (h1 : 1 ≤ n) (h4 : n ≤ 4) (hD : D ≤ 30) (hT : Tab n ord cg kg) {G : Nat → Nat} {dgs : Nat → Int32} (hdg : ∀ q, q < ctN n → dgs q = nI (dgC cg q)) {g : Nat} (hg : g < 8) (hp2 : p ≤ 32003) (hG : ∀ j, genV G g j < p) :
    ∃ r, m_zdegreeOfGenerator F (nI (ctN n)) dgs (nF G) (nI g) = some r ∧ (nI D < r ↔ hiD n D cg (genV G g)) := by
  have hct := ctN_le h1 h4
  exact p_zdegreeOfGenerator_l h1 h4 hD hT hdg hg hp2 hG (ctN n) F 0 (-1) (by omega) (by omega) (Or.inl ⟨rfl, fun j h => by omega⟩)
def ZpI (p n D : Nat) (cg : Nat → Nat) (gen : (Nat → Nat) → Prop) (R hs : Nat → Nat) : Prop :=
  Ech p (ctN n) hs (rowC (ctN n) R) ∧ ∀ i, hs i = 1 → Spc p (ctN n) n D (dgC cg) (upN n cg) gen (rowC (ctN n) R i)
def ZGrow (p cnt : Nat) (R hs R' hs' : Nat → Nat) : Prop :=
  (∀ f, RS p cnt hs (rowC cnt R) f → RS p cnt hs' (rowC cnt R') f) ∧ (∀ i, hs i = 1 → hs' i = 1 ∧ rowC cnt R' i = rowC cnt R i) ∧ sm cnt hs ≤ sm cnt hs'
theorem ZGrow.refl {p cnt : Nat} {R hs : Nat → Nat} : ZGrow p cnt R hs R hs := ⟨fun _ h => h, fun _ h => ⟨h, rfl⟩, Nat.le_refl _⟩
theorem ZGrow.trans {p cnt : Nat} {R hs R' hs' R'' hs'' : Nat → Nat} (h : ZGrow p cnt R hs R' hs') (h' : ZGrow p cnt R' hs' R'' hs'') : ZGrow p cnt R hs R'' hs'' := by
  obtain ⟨a1, a2, a3⟩ := h
  obtain ⟨b1, b2, b3⟩ := h'
  refine ⟨fun f hf => b1 f (a1 f hf), fun i hi => ?_, Nat.le_trans a3 b3⟩
  obtain ⟨c1, c2⟩ := a2 i hi
  obtain ⟨d1, d2⟩ := b2 i c1
  exact ⟨d1, by rw [d2, c2]⟩
theorem ZpI.step (hF : 40000 < F) (hp : isP p) (hp2 : p ≤ 32003) (h1 : 1 ≤ n) (h4 : n ≤ 4) {R hs : Nat → Nat} (h : ZpI p n D cg gen R hs) {w : Nat → Nat} (hw : ∀ j, j < ctN n → w j < p) (hS : Spc p (ctN n) n D (dgC cg) (upN n cg) gen (vecC (ctN n) w)) :
    ∃ r hs' R' x', m_zcomes F (nI (ctN n)) (nI p) (nF hs) (nF R) (nF w) = some (nI r, nF hs', nF R', nF x') ∧ ZpI p n D cg gen R' hs' ∧ ZGrow p (ctN n) R hs R' hs' ∧ RS p (ctN n) hs' (rowC (ctN n) R') (vecC (ctN n) w) ∧
      ((r = 0 ∧ hs' = hs ∧ rowC (ctN n) R' = rowC (ctN n) R) ∨ (r = 1 ∧ sm (ctN n) hs' = sm (ctN n) hs + 1)) := by
  obtain ⟨hE, hrow⟩ := h
  have hct := ctN_le h1 h4
  have hp0 := hp.1
  obtain ⟨r, hs', R', x', e, b1, b2, hC, b3, b4⟩ := p_zcomes hF hp.1 hp2 hct hE hw
  have hwv : ∀ j, vecC (ctN n) w j < p := fun j => by
    unfold vecC
    split
    · exact hw j (by assumption)
    · omega
  refine ⟨r, hs', R', x', e, ⟨hC.ech hp hE, hC.sub _ Spc_zero (fun f g a hf hg => Spc_add a hf hg) hS hrow hE.1⟩, ⟨fun f hf => hC.old hf, fun i hi => ?_, ?_⟩, hC.has hp hE hwv, ?_⟩
  · rcases hC with ⟨r1, r2, _⟩ | ⟨q, x, u, a1, a2, _, _, _, _, _, a8, a9, a10⟩
    · rw [r1, r2]; exact ⟨hi, rfl⟩
    · have z : i ≠ q := fun z => by rw [z, a2] at hi; omega
      refine ⟨?_, funext fun j => a10 i j z⟩
      rw [a8]
      show (if i = q then 1 else hs i) = 1
      rw [if_neg z]; exact hi
  · rcases hC.count with ⟨r1, _⟩ | ⟨r1, _⟩
    · rw [r1]; exact Nat.le_refl _
    · omega
  · rcases hC.count with ⟨r1, r2⟩ | ⟨r1, i, _, r3, r4⟩
    · exact Or.inl ⟨b3.mpr r1, r1, r2⟩
    · refine Or.inr ⟨?_, r1⟩
      have : r ≠ 0 := fun z => by
        have := b3.mp z
        rw [this] at r1
        omega
      omega
end ZSP
