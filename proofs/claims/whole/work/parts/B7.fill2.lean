/-! THE CLASS'S PRODUCTS: fillProduct. -/
section FILL2
variable {F p n ord sz : Nat} {cg g bs : Nat → Nat} {l : List Nat} {rb : Nat → Nat → Nat}
theorem nI_nm1 {a : Nat} (h : a < 2 ^ 31) : ¬ nI a = -1 := fun y => by
  have : nI a = nI 4294967295 := y.trans (by decide +kernel)
  have := nI_inj32 (by omega) (by decide) this
  omega
/-- the third case, given the rows below -/
theorem fill3 (h : Rm p n ord cg l sz g rb) {T : Nat → Nat} {v k u k' : Nat} (hv : v < n) (hk : k < sz) (h1 : ∀ j, j < sz → g j ≠ g k + 2 ^ (24 - 8 * v)) (h2 : ∀ b ∈ l, cg b ≠ g k + 2 ^ (24 - 8 * v)) (hF : Fu n sz g v k u) (hk' : k' < sz) (e : g k' + 2 ^ (24 - 8 * u) = g k)
    (hless : ∀ v' k', v' < n → k' < sz → pK ord g v' k' < pK ord g v k → PrB p ord sz g T v' k') :
    PrR p n sz cg g l rb (acT p sz T (1600 * v + 40 * k) (1600 * v + 40 * k') u sz) v k ∧ PrB p ord sz g (acT p sz T (1600 * v + 40 * k) (1600 * v + 40 * k') u sz) v k ∧
    (∀ q, q < sz → T (1600 * v + 40 * k' + q) < p) ∧ (1600 * v + 40 * k + 40 ≤ 1600 * v + 40 * k' ∨ 1600 * v + 40 * k' + 40 ≤ 1600 * v + 40 * k) ∧
    (∀ q, q < sz → T (1600 * v + 40 * k' + q) ≠ 0 → (1600 * v + 40 * k + 40 ≤ 1600 * u + 40 * q ∨ 1600 * u + 40 * q + 40 ≤ 1600 * v + 40 * k) ∧ ∀ i, i < sz → T (1600 * u + 40 * q + i) < p) := by
  have hn4 := h.n4
  have hsz := h.sz40
  have hp2 := h.p2
  obtain ⟨l1, l2⟩ := h.lesser hv hk hF hk' e
  have hB := hless v k' hv hk' l1
  have hkk : k ≠ k' := fun z => by subst z; omega
  have hT : ∀ q, q < sz → T (1600 * v + 40 * k' + q) ≠ 0 → pK ord g u q < pK ord g v k := fun q hq hz => l2 q hq ((hB q hq).2 hz)
  have hdis : ∀ q, q < sz → pK ord g u q < pK ord g v k → (1600 * v + 40 * k + 40 ≤ 1600 * u + 40 * q ∨ 1600 * u + 40 * q + 40 ≤ 1600 * v + 40 * k) := by
    intro q hq hlt
    have hne : ¬ (u = v ∧ q = k) := fun ⟨z1, z2⟩ => by subst z1; subst z2; omega
    rcases Nat.lt_trichotomy u v with y | y | y
    · exact Or.inr (by omega)
    · subst y
      rcases Nat.lt_trichotomy q k with z | z | z
      · exact Or.inr (by omega)
      · exact absurd ⟨rfl, z⟩ hne
      · exact Or.inl (by omega)
    · exact Or.inl (by omega)
  have eT1 : ∀ i, i < sz → tP (acT p sz T (1600 * v + 40 * k) (1600 * v + 40 * k') u sz) v k i = sm sz (fun j => T (1600 * v + 40 * k' + j) * T (1600 * u + 40 * j + i)) % p := by
    intro i hi
    unfold tP acT
    rw [if_pos (by omega), show 1600 * v + 40 * k + i - (1600 * v + 40 * k) = i by omega]
  have eT2 : ∀ j, j < sz → tP (acT p sz T (1600 * v + 40 * k) (1600 * v + 40 * k') u sz) v k' j = T (1600 * v + 40 * k' + j) := by
    intro j hj
    unfold tP acT
    rw [if_neg (by omega)]
  have eT3 : ∀ j, j < sz → T (1600 * v + 40 * k' + j) ≠ 0 → ∀ i, i < sz → tP (acT p sz T (1600 * v + 40 * k) (1600 * v + 40 * k') u sz) u j i = T (1600 * u + 40 * j + i) := by
    intro j hj hz i hi
    have := hdis j hj (hT j hj hz)
    unfold tP acT
    rw [if_neg (by omega)]
  refine ⟨Or.inr (Or.inr ⟨h1, h2, u, k', hF, hk', e, fun i hi => ?_⟩), fun i hi => ?_, fun q hq => (hB q hq).1, by omega, fun q hq hz => ⟨hdis q hq (hT q hq hz), fun i hi => ((hless u q hF.1 hq (hT q hq hz)) i hi).1⟩⟩
  · rw [eT1 i hi]
    refine congrArg (· % p) (sm_congr fun j hj => ?_)
    rw [eT2 j hj]
    by_cases z : T (1600 * v + 40 * k' + j) = 0
    · rw [z, Nat.zero_mul, Nat.zero_mul]
    · rw [eT3 j hj z i hi]
  · rw [eT1 i hi]
    refine ⟨Nat.mod_lt _ (by omega), fun hz => ?_⟩
    have : ∃ j, j < sz ∧ T (1600 * v + 40 * k' + j) ≠ 0 ∧ T (1600 * u + 40 * j + i) ≠ 0 := by
      refine Classical.byContradiction fun q => hz ?_
      rw [sm_zero (fun j hj => ?_), Nat.zero_mod]
      by_cases z : T (1600 * v + 40 * k' + j) = 0
      · rw [z, Nat.zero_mul]
      · by_cases z2 : T (1600 * u + 40 * j + i) = 0
        · rw [z2, Nat.mul_zero]
        · exact absurd ⟨j, hj, z, z2⟩ q
    obtain ⟨j, hj, z1, z2⟩ := this
    have a1 := hT j hj z1
    have a2 := ((hless u j hF.1 hj a1) i hi).2 z2
    unfold pK at a1
    omega
theorem p_fillFromLesser_l (hF : 200 < F) (h : Rm p n ord cg l sz g rb) {T : Nat → Nat} {v k : Nat} (hv : v < n) (hk : k < sz) (h1 : ∀ j, j < sz → g j ≠ g k + 2 ^ (24 - 8 * v)) (h2 : ∀ b ∈ l, cg b ≠ g k + 2 ^ (24 - 8 * v))
    (hless : ∀ v' k', v' < n → k' < sz → pK ord g v' k' < pK ord g v k → PrB p ord sz g T v' k') (h0 : ∀ i, i < sz → T (1600 * v + 40 * k + i) = 0) : ∀ (d m u : Nat), u + d = n → d < m → (∀ w, w < u → ¬ (0 < exN (g k) w ∧ ∀ j, j < sz → g j ≠ g k - 2 ^ (24 - 8 * w) + 2 ^ (24 - 8 * v))) →
    ∃ T', b_fillFromLesser_3 F (nI p) (nI sz) (nI n) (nF g) m (nI v) (nI k) (nI (1600 * v + 40 * k)) (nI u) (nF T) = some (nF T') ∧ (∀ x, ¬ (1600 * v + 40 * k ≤ x ∧ x < 1600 * v + 40 * k + 40) → T' x = T x) ∧ PrR p n sz cg g l rb T' v k ∧ PrB p ord sz g T' v k := by
  have hn4 := h.n4
  have hsz := h.sz40
  have hp2 := h.p2
  have hp3 := h.p3
  intro d
  induction d with
  | zero =>
    intro m u hu hm hno
    exfalso
    obtain ⟨w, w1, w2, w3, w4⟩ := h.some_u hk hv h1 h2
    exact hno w (by omega) ⟨w3, w4⟩
  | succ d ih =>
    intro m u hu hm hno
    obtain ⟨m, rfl⟩ : ∃ q, m = q + 1 := ⟨m - 1, by omega⟩
    have hu4 : u < 4 := by omega
    have hv4 : v < 4 := by omega
    have hgk := h.glt hk
    have hex := h.gex hk hu4
    have hnext : ∀ (hc : ¬ (0 < exN (g k) u ∧ ∀ j, j < sz → g j ≠ g k - 2 ^ (24 - 8 * u) + 2 ^ (24 - 8 * v))), ∀ w, w < u + 1 → ¬ (0 < exN (g k) w ∧ ∀ j, j < sz → g j ≠ g k - 2 ^ (24 - 8 * w) + 2 ^ (24 - 8 * v)) := by
      intro hc w hw
      by_cases y : w = u
      · rw [y]; exact hc
      · exact hno w (by omega)
    show ∃ T', s_fillFromLesser_3 F (nI p) (nI sz) (nI n) (nF g) (b_fillFromLesser_3 F (nI p) (nI sz) (nI n) (nF g) m) (nI v) (nI k) (nI (1600 * v + 40 * k)) (nI u) (nF T) = _ ∧ _
    unfold s_fillFromLesser_3
    rw [if_neg (nI_ge (by omega) (by omega)), rdI_n (by omega) (by decide), p_variable F hu4, bd1_n, rdI_n (by omega) (by decide)]
    show ∃ T', bd1 (m_exponent F (nI (g k)) (nI u)) _ = _ ∧ _
    rw [p_exponent F hgk hu4, bd1_n, show nI u + 1 = nI (u + 1) from nI_add u 1]
    by_cases hex0 : exN (g k) u = 0
    · rw [if_pos (show nI (exN (g k) u) ≤ 0 by rw [hex0]; decide +kernel)]
      exact ih m (u + 1) (by omega) (by omega) (hnext (fun q => by omega))
    · rw [if_neg (show ¬ nI (exN (g k) u) ≤ 0 from nI_nle (by omega) (by omega)), p_variable F hv4, bd1_n]
      obtain ⟨s1, s2⟩ := sub_var hgk hu4 (show 0 < exN (g k) u by omega)
      obtain ⟨k', c1, c2, c3⟩ := h.down hk hu4 (show 0 < exN (g k) u by omega)
      have hlt2 : g k - 2 ^ (24 - 8 * u) + 2 ^ (24 - 8 * v) < 2 ^ 32 := by rw [← c2]; exact h.up_lt c1 hv4
      show ∃ T', bd1 (m_placeOf F (nI sz) (nF g) (nI (g k) - nI (2 ^ (24 - 8 * u)) + nI (2 ^ (24 - 8 * v)))) _ = _ ∧ _
      rw [pk_sub s1, nI_add, p_placeR (by omega) hsz hlt2 (fun j hj => h.glt hj) h.ginj, bd1_n]
      by_cases hpl : ∃ j, j < sz ∧ g j = g k - 2 ^ (24 - 8 * u) + 2 ^ (24 - 8 * v)
      · obtain ⟨j, j1, j2⟩ := hpl
        rw [rkI_first h.ginj j1 j2, if_neg (nI_nm1 (by omega))]
        exact ih m (u + 1) (by omega) (by omega) (hnext (fun q => q.2 j j1 j2))
      · have hpl2 : ∀ j, j < sz → g j ≠ g k - 2 ^ (24 - 8 * u) + 2 ^ (24 - 8 * v) := fun j hj q => hpl ⟨j, hj, q⟩
        have hFu : Fu n sz g v k u := ⟨by omega, by omega, hpl2, hno⟩
        rw [rkI_none (by omega) hpl2, if_pos rfl]
        show ∃ T', bd1 (m_placeOf F (nI sz) (nF g) (nI (g k) - nI (2 ^ (24 - 8 * u)))) _ = _ ∧ _
        rw [pk_sub s1, p_placeR (by omega) hsz (by rw [← c2]; exact h.glt c1) (fun j hj => h.glt hj) h.ginj, bd1_n, rkI_first h.ginj c1 c2, if_neg (nI_nm1 (by omega)), p_productRow, bd1_n, show (v * 40 + k') * 40 = 1600 * v + 40 * k' by omega]
        obtain ⟨f1, f2, f3, f4, f5⟩ := fill3 h hv hk h1 h2 hFu c1 c3 hless
        rw [p_act hF hp2 hp3 hsz hu4 (by omega) (by omega) f4 f3 f5 h0, bd1_n]
        refine ⟨_, rfl, fun x hx => ?_, f1, f2⟩
        unfold acT
        rw [if_neg (by omega)]
theorem p_fillProduct {R : Nat → Nat} (hF : 40000 < F) (h : Rm p n ord cg l sz g (rowF R)) (hA : Arr l bs) (hl : l.length ≤ 126) {T : Nat → Nat} {v k : Nat} (hv : v < n) (hk : k < sz)
    (hless : ∀ v' k', v' < n → k' < sz → pK ord g v' k' < pK ord g v k → PrB p ord sz g T v' k') :
    ∃ T', m_fillProduct F (nI l.length) (nI p) (nI sz) (nI n) (nF cg) (nF R) (nF bs) (nF g) (nI v) (nI k) (nF T) = some (nF T') ∧ (∀ x, ¬ (1600 * v + 40 * k ≤ x ∧ x < 1600 * v + 40 * k + 40) → T' x = T x) ∧ PrR p n sz cg g l (rowF R) T' v k ∧ PrB p ord sz g T' v k := by
  have hn4 := h.n4
  have hsz := h.sz40
  have hp2 := h.p2
  have hp3 := h.p3
  have hv4 : v < 4 := by omega
  have hlt := h.up_lt hk hv4
  have hct := h.ct
  have hb2 : ∀ b ∈ l, b < 126 ∧ cg b < 2 ^ 32 := fun b hb => ⟨by have := h.bl b hb; omega, (h.tin b (h.bl b hb)).1⟩
  have eF : (fun j => if 1600 * v + 40 * k ≤ j ∧ j < 1600 * v + 40 * k + 40 then (0 : Int32) else nF T j) = nF (fun j => if 1600 * v + 40 * k ≤ j ∧ j < 1600 * v + 40 * k + 40 then 0 else T j) := by
    funext j
    show _ = nI (if _ then 0 else T j)
    by_cases q : 1600 * v + 40 * k ≤ j ∧ j < 1600 * v + 40 * k + 40
    · rw [if_pos q, if_pos q]; rfl
    · rw [if_neg q, if_neg q]; rfl
  unfold m_fillProduct
  rw [p_productRow, bd1_n, show (v * 40 + k) * 40 = 1600 * v + 40 * k by omega, show nI (1600 * v + 40 * k) + 40 = nI (1600 * v + 40 * k + 40) from nI_add _ 40, p_fillR (by decide) (by omega) (by omega) (by omega), bd1_n, eF, rdI_n (by omega) (by decide), p_variable F hv4, bd1_n]
  generalize hT0 : (fun j => if 1600 * v + 40 * k ≤ j ∧ j < 1600 * v + 40 * k + 40 then 0 else T j) = T0
  have h00 : ∀ i, i < sz → T0 (1600 * v + 40 * k + i) = 0 := fun i hi => by rw [← hT0]; exact if_pos (by omega)
  have hout : ∀ x, ¬ (1600 * v + 40 * k ≤ x ∧ x < 1600 * v + 40 * k + 40) → T0 x = T x := fun x hx => by rw [← hT0]; exact if_neg hx
  have hless0 : ∀ v' k', v' < n → k' < sz → pK ord g v' k' < pK ord g v k → PrB p ord sz g T0 v' k' := by
    intro v' k' h1 h2 h3 j hj
    have hne : ¬ (v' = v ∧ k' = k) := fun ⟨z1, z2⟩ => by subst z1; subst z2; omega
    have : tP T0 v' k' j = tP T v' k' j := by
      unfold tP
      refine hout _ (fun q => hne ?_)
      omega
    rw [this]
    exact hless v' k' h1 h2 h3 j hj
  show ∃ T', bd1 (m_placeOf F (nI sz) (nF g) (nI (g k) + nI (2 ^ (24 - 8 * v)))) _ = _ ∧ _
  rw [nI_add, p_placeR (by omega) hsz hlt (fun j hj => h.glt hj) h.ginj, bd1_n]
  by_cases hpl : ∃ j, j < sz ∧ g j = g k + 2 ^ (24 - 8 * v)
  · obtain ⟨j, j1, j2⟩ := hpl
    rw [rkI_first h.ginj j1 j2, if_neg (nI_nm1 (by omega)), nI_add, wrI_n (by omega) (by decide), show (1 : Int32) = nI 1 from rfl, upd_nF]
    have eT : ∀ i, i < sz → tP (fun x => if x = 1600 * v + 40 * k + j then 1 else T0 x) v k i = if i = j then 1 else 0 := by
      intro i hi
      show (if 1600 * v + 40 * k + i = 1600 * v + 40 * k + j then 1 else T0 (1600 * v + 40 * k + i)) = _
      by_cases q : i = j
      · rw [if_pos q, if_pos (by rw [q])]
      · rw [if_neg q, if_neg (by omega)]; exact h00 i hi
    refine ⟨_, rfl, fun x hx => ?_, Or.inl ⟨j, j1, j2, eT⟩, fun i hi => ?_⟩
    · show (if x = _ then 1 else T0 x) = _
      rw [if_neg (by omega)]; exact hout x hx
    · rw [eT i hi]
      by_cases q : i = j
      · rw [if_pos q, q, j2]; exact ⟨by omega, fun _ => Nat.le_refl _⟩
      · rw [if_neg q]; exact ⟨by omega, fun z => absurd rfl z⟩
  · have hpl2 : ∀ j, j < sz → g j ≠ g k + 2 ^ (24 - 8 * v) := fun j hj q => hpl ⟨j, hj, q⟩
    rw [rkI_none (by omega) hpl2, if_pos rfl]
    show ∃ T', bd1 (m_rankInBasis F (nI l.length) (nF cg) (nF bs) (nI (g k) + nI (2 ^ (24 - 8 * v)))) _ = _ ∧ _
    rw [nI_add]
    rcases p_rankInBasis_l (F := F) hA hl hb2 hlt l.length F 0 (by omega) (by omega) (fun j hj => by omega) with ⟨b, b1, b2, b3⟩ | ⟨b1, b2⟩
    · rw [show m_rankInBasis F (nI l.length) (nF cg) (nF bs) (nI (g k + 2 ^ (24 - 8 * v))) = some (nI b) from b3, bd1_n, if_neg (nI_nm1 (by have := (hb2 b b1).1; omega))]
      have hbl := h.bl b b1
      have e0 : T0 = baT p n sz cg g (rowF R) T0 (1600 * v + 40 * k) b 0 := by
        funext x
        unfold baT
        by_cases q : 1600 * v + 40 * k ≤ x ∧ x < 1600 * v + 40 * k + sz
        · rw [if_pos q, if_neg (Nat.not_lt_zero _)]
          have := h00 (x - (1600 * v + 40 * k)) (by omega)
          rw [show 1600 * v + 40 * k + (x - (1600 * v + 40 * k)) = x by omega] at this
          exact this
        · rw [if_neg q]
      have hfb := p_fillFromBasis_l (F := F) (R := R) (T := T0) (row := 1600 * v + 40 * k) (by omega) h b1 (by omega) b F 0 (by omega) (by omega)
      rw [← e0] at hfb
      rw [show m_fillFromBasis F (nI p) (nI sz) (nF cg) (nF R) (nF g) (nI b) (nI (1600 * v + 40 * k)) (nF T0) = _ from hfb, bd1_n]
      have eT : ∀ i, i < sz → tP (baT p n sz cg g (rowF R) T0 (1600 * v + 40 * k) b b) v k i = tB p n cg (rowF R) b (g i) := by
        intro i hi
        unfold tP baT tB
        rw [if_pos (by omega), show 1600 * v + 40 * k + i - (1600 * v + 40 * k) = i by omega]
      refine ⟨_, rfl, fun x hx => ?_, Or.inr (Or.inl ⟨hpl2, b, b1, b2, eT⟩), fun i hi => ?_⟩
      · unfold baT
        rw [if_neg (by omega)]; exact hout x hx
      · rw [eT i hi]
        unfold tB
        by_cases q : rkN cg (g i) (ctN n) < b
        · rw [if_pos q]
          refine ⟨Nat.mod_lt _ (by omega), fun _ => ?_⟩
          have hc : cg (rkN cg (g i) (ctN n)) = g i := by
            rcases rkN_cases cg (g i) (ctN n) with ⟨_, y⟩ | ⟨y, _⟩
            · exact y
            · omega
          have := h.tkey _ b q hbl
          rw [hc, b2] at this
          omega
        · rw [if_neg q]; exact ⟨by omega, fun z => absurd rfl z⟩
    · rw [show m_rankInBasis F (nI l.length) (nF cg) (nF bs) (nI (g k + 2 ^ (24 - 8 * v))) = some (-1) from b2, bd1_n, if_pos rfl]
      obtain ⟨T', a1, a2, a3, a4⟩ := p_fillFromLesser_l (F := F) (by omega) h hv hk hpl2 b1 hless0 h00 n F 0 (by omega) (by omega) (fun w hw => by omega)
      rw [show m_fillFromLesser F (nI p) (nI sz) (nI n) (nF g) (nI v) (nI k) (nI (1600 * v + 40 * k)) (nF T0) = some (nF T') from a1, bd1_n]
      exact ⟨T', rfl, fun x hx => by rw [a2 x hx]; exact hout x hx, a3, a4⟩
end FILL2
