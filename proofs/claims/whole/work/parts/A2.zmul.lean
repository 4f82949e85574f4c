/-! THE REFERENCE'S PRODUCT OF A ROW WITH A VARIABLE, AND THE DEGREE OF A GENERATOR. -/
section ZMUL
variable {F p n ord : Nat} {cg kg : Nat → Nat}
theorem sh_var : ∀ v, v < 4 → shlI 1 (24 - 8 * nI v) = nI (2 ^ (24 - 8 * v)) := by decide +kernel
theorem p_zmul25 (hF : 200 < F) (h1 : 1 ≤ n) (h4 : n ≤ 4) (hT : Tab n ord cg kg) {v i : Nat} (hv : v < n) (hi : i < ctN n) (hd : dgC cg i < hiN n) {R w : Nat → Nat} (hp2 : p ≤ 32003) (hR : ∀ j, j ≤ i → R (126 * i + j) < p) :
    ∀ (d m k : Nat), k + d = i + 1 → d < m → b_zmultiplied_25 F (nI (ctN n)) (nF cg) (nF R) m (nI i) (nI v) (nI k) (nF (fun j => if j < ctN n then sm k (fun q => if upN n cg v q = j then rowC (ctN n) R i q else 0) else w j)) = some (nF (fun j => if j < ctN n then sm (i + 1) (fun q => if upN n cg v q = j then rowC (ctN n) R i q else 0) else w j)) := by
  have hct := ctN_le h1 h4
  intro d
  induction d with
  | zero =>
    intro m k hk hm
    obtain ⟨m, rfl⟩ : ∃ q, m = q + 1 := ⟨m - 1, by omega⟩
    have e : k = i + 1 := by omega
    subst e
    show s_zmultiplied_25 F (nI (ctN n)) (nF cg) (nF R) (b_zmultiplied_25 F (nI (ctN n)) (nF cg) (nF R) m) (nI i) (nI v) (nI (i + 1)) _ = _
    unfold s_zmultiplied_25
    rw [if_pos (nI_lt (by omega) (by omega))]
  | succ d ih =>
    intro m k hk hm
    obtain ⟨m, rfl⟩ : ∃ q, m = q + 1 := ⟨m - 1, by omega⟩
    have hkd := hT.deg_mono h1 h4 (show k ≤ i by omega) hi
    have hup : upN n cg v k < ctN n := (hT.up_lt h1 h4 hv (by omega)).mpr (by omega)
    have hkT := hT.inT h1 h4 (show k < ctN n by omega)
    have hRk := hR k (by omega)
    have erow : rowC (ctN n) R i k = R (126 * i + k) := by unfold rowC; rw [if_pos (by omega)]
    show s_zmultiplied_25 F (nI (ctN n)) (nF cg) (nF R) (b_zmultiplied_25 F (nI (ctN n)) (nF cg) (nF R) m) (nI i) (nI v) (nI k) _ = _
    unfold s_zmultiplied_25
    rw [if_neg (nI_nlt (by omega) (by omega)), show (126 : Int32) * nI i = nI (126 * i) from pk_mul 126 i, nI_add, rdI_n (by omega) (by decide), show nI k + 1 = nI (k + 1) from nI_add k 1]
    by_cases z : R (126 * i + k) = 0
    · rw [if_pos (show nF R (126 * i + k) = 0 by show nI (R (126 * i + k)) = 0; rw [z]; rfl), ← ih m (k + 1) (by omega) (by omega)]
      congr 2
      funext j
      by_cases hj : j < ctN n
      · rw [if_pos hj, if_pos hj]
        show _ = sm k _ + (if upN n cg v k = j then rowC (ctN n) R i k else 0)
        rw [erow, z]
        split <;> rfl
      · rw [if_neg hj, if_neg hj]
    · rw [if_neg (show ¬ nF R (126 * i + k) = 0 from nI_ne0 (by omega) (by omega)), rdI_n (by omega) (by decide), sh_var v (by omega)]
      show bd1 (m_zplaceOf F (nI (ctN n)) (nF cg) (nI (cg k) + nI (2 ^ (24 - 8 * v)))) _ = _
      have er : rkI cg (ctN n) (cg k + 2 ^ (24 - 8 * v)) = nI (upN n cg v k) := by
        unfold rkI
        rw [if_pos (show rkN cg (cg k + 2 ^ (24 - 8 * v)) (ctN n) < ctN n from hup)]
        rfl
      rw [nI_add, p_zplaceOf hF h1 h4 hT (inT_lt' hkT v), bd1_n, er, rdI_n (by omega) (by decide), wrI_n (by omega) (by decide)]
      show b_zmultiplied_25 F (nI (ctN n)) (nF cg) (nF R) m (nI i) (nI v) (nI (k + 1)) (upd (nF _) (upN n cg v k) (nI (R (126 * i + k)))) = _
      rw [upd_nF, ← ih m (k + 1) (by omega) (by omega)]
      congr 2
      funext j
      by_cases e : j = upN n cg v k
      · subst e
        rw [if_pos rfl, if_pos hup]
        show _ = sm k _ + (if upN n cg v k = upN n cg v k then rowC (ctN n) R i k else 0)
        rw [sm_zero (fun q hq => if_neg (fun z2 => by
          have := hT.up_inj h1 h4 hv (show q < ctN n by omega) (show k < ctN n by omega) z2 (by rw [z2]; exact hup)
          omega)), if_pos rfl, erow, Nat.zero_add]
      · rw [if_neg e]
        by_cases hj : j < ctN n
        · rw [if_pos hj, if_pos hj]
          show _ = sm k _ + (if upN n cg v k = j then rowC (ctN n) R i k else 0)
          rw [if_neg (fun q => e q.symm), Nat.add_zero]
        · rw [if_neg hj, if_neg hj]
theorem p_zmul2 {R : Nat → Nat} {i v : Nat} (h1 : 1 ≤ n) (h4 : n ≤ 4) : ∀ (d m k : Nat) (w : Nat → Nat), k + d = ctN n → d < m → (∀ j, j < k → w j = 0) → b_zmultiplied_2 F (nI (ctN n)) (nF cg) (nF R) m (nI i) (nI v) (nI k) (nF w) = b_zmultiplied_25 F (nI (ctN n)) (nF cg) (nF R) F (nI i) (nI v) (nI 0) (nF (fun j => if j < ctN n then 0 else w j)) := by
  have hct := ctN_le h1 h4
  intro d
  induction d with
  | zero =>
    intro m k w hk hm hw
    obtain ⟨m, rfl⟩ : ∃ q, m = q + 1 := ⟨m - 1, by omega⟩
    show s_zmultiplied_2 F (nI (ctN n)) (nF cg) (nF R) (b_zmultiplied_2 F (nI (ctN n)) (nF cg) (nF R) m) (nI i) (nI v) (nI k) (nF w) = _
    unfold s_zmultiplied_2
    rw [if_pos (nI_le (by omega) (by omega))]
    have : (fun j => if j < ctN n then 0 else w j) = w := by
      funext j
      split
      · exact (hw j (by omega)).symm
      · rfl
    rw [this]
    rfl
  | succ d ih =>
    intro m k w hk hm hw
    obtain ⟨m, rfl⟩ : ∃ q, m = q + 1 := ⟨m - 1, by omega⟩
    show s_zmultiplied_2 F (nI (ctN n)) (nF cg) (nF R) (b_zmultiplied_2 F (nI (ctN n)) (nF cg) (nF R) m) (nI i) (nI v) (nI k) (nF w) = _
    unfold s_zmultiplied_2
    rw [if_neg (nI_ge (by omega) (by omega)), show (0 : Int32) = nI 0 from rfl, wrI_n (by omega) (by decide), upd_nF, show nI k + 1 = nI (k + 1) from nI_add k 1, ih m (k + 1) _ (by omega) (by omega) (fun j hj => by
      show (if j = k then 0 else w j) = 0
      by_cases e : j = k
      · rw [if_pos e]
      · rw [if_neg e]; exact hw j (by omega))]
    congr 2
    funext j
    by_cases q : j < ctN n
    · rw [if_pos q, if_pos q]
    · rw [if_neg q, if_neg q, if_neg (by omega)]
theorem p_zmultiplied (hF : 200 < F) (h1 : 1 ≤ n) (h4 : n ≤ 4) (hT : Tab n ord cg kg) {v i : Nat} (hv : v < n) (hd : dgC cg i < hiN n) {R w hs : Nat → Nat} (hp2 : p ≤ 32003) (hE : Ech p (ctN n) hs (rowC (ctN n) R)) (hL : hs i = 1) :
    ∃ x, m_zmultiplied F (nI (ctN n)) (nF cg) (nF R) (nI i) (nI v) (nF w) = some (nF x) ∧ (∀ j, j < ctN n → x j = prV n cg v (rowC (ctN n) R i) j) ∧ ∀ j, ctN n ≤ j → x j = w j := by
  have hct := ctN_le h1 h4
  obtain ⟨r1, r2, r3, r4⟩ := hE.2 i hL
  have hR : ∀ j, j ≤ i → R (126 * i + j) < p := fun j hj => by
    have := r4 j
    unfold rowC at this
    rw [if_pos (by omega)] at this
    exact this
  have h25 := p_zmul25 (F := F) (w := w) hF h1 h4 hT hv r1 hd hp2 hR (i + 1) F 0 (by omega) (by omega)
  refine ⟨_, ((p_zmul2 h1 h4 (ctN n) F 0 w (by omega) (by omega) (fun j h => by omega)).trans h25), fun j hj => ?_, fun j hj => ?_⟩
  · show (if j < ctN n then _ else _) = _
    unfold prV mulV
    rw [if_pos hj, if_pos hj]
    have : ∀ m, i + 1 ≤ m → m ≤ ctN n → sm m (fun q => if upN n cg v q = j then rowC (ctN n) R i q else 0) = sm (i + 1) (fun q => if upN n cg v q = j then rowC (ctN n) R i q else 0) := by
      intro m
      induction m with
      | zero => intro a; omega
      | succ m ih =>
        intro a b
        by_cases e : i + 1 = m + 1
        · rw [e]
        · show sm m _ + (if upN n cg v m = j then rowC (ctN n) R i m else 0) = _
          rw [ih (by omega) (by omega), r3 m (by omega)]
          split <;> rfl
    exact (this (ctN n) (by omega) (Nat.le_refl _)).symm
  · show (if j < ctN n then _ else _) = _
    rw [if_neg (by omega)]
end ZMUL
