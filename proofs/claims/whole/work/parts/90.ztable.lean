/-! THE REFERENCE'S TABLE OF MONOMIALS: it is the class's. -/
theorem exp_amtZ : ∀ v, v < 4 → (24 : Int32) - 8 * nI v = nI (24 - 8 * v) := by decide +kernel
/-- e >> k & 255 for any e: a byte of its bits -/
theorem shr_byte {c k : Nat} (hc : c < 2 ^ 32) (hk : k = 0 ∨ k = 8 ∨ k = 16 ∨ k = 24) : shrI (nI c) (nI k) &&& 255 = nI (c / 2 ^ k % 256) := by
  have hk2 : k < 32 := by omega
  have h1 : (shrI (nI c) (nI k)).toInt = (nI c).toInt >>> k := pk_shr (nI c) (nI k &&& 31) k (sh_l k hk2)
  rw [pk_and _ 8 (by decide +kernel)]
  generalize shrI (nI c) (nI k) = x at h1 ⊢
  have h2 : x.toInt = if 2 * x.toBitVec.toNat < 2 ^ 32 then (x.toBitVec.toNat : Int) else (x.toBitVec.toNat : Int) - (2 ^ 32 : Nat) := BitVec.toInt_eq_toNat_cond x.toBitVec
  have h3 : (nI c).toInt = if 2 * (nI c).toBitVec.toNat < 2 ^ 32 then ((nI c).toBitVec.toNat : Int) else ((nI c).toBitVec.toNat : Int) - (2 ^ 32 : Nat) := BitVec.toInt_eq_toNat_cond (nI c).toBitVec
  rw [pk_tn hc] at h3
  have hx := x.toBitVec.isLt
  rw [h2, h3, Int.shiftRight_eq_div_pow] at h1
  congr 1
  generalize x.toBitVec.toNat = y at h1 hx
  rcases hk with rfl | rfl | rfl | rfl
  · split at h1 <;> split at h1 <;> omega
  · split at h1 <;> split at h1 <;> omega
  · split at h1 <;> split at h1 <;> omega
  · split at h1 <;> split at h1 <;> omega
theorem p_zexponent (F : Nat) {c v : Nat} (hc : c < 2 ^ 32) (hv : v < 4) : m_zexponent F (nI c) (nI v) = some (nI (exN c v)) := by
  unfold m_zexponent
  rw [exp_amtZ v hv, shr_byte hc (by omega)]
  rfl
theorem p_zdegreeOf (F : Nat) {c : Nat} (hc : c < 2 ^ 32) : m_zdegreeOf F (nI c) = some (nI (degN c)) := by
  unfold m_zdegreeOf
  have h0 := p_zexponent F hc (show 0 < 4 by decide)
  have h1 := p_zexponent F hc (show 1 < 4 by decide)
  have h2 := p_zexponent F hc (show 2 < 4 by decide)
  have h3 := p_zexponent F hc (show 3 < 4 by decide)
  simp only [nlit]
  rw [h0, bd1_n, h1, bd1_n, h2, bd1_n, h3, bd1_n, nI_add, nI_add, nI_add]
  rfl
/-- 1 if a's key is the greater one -/
def gtN (ord a b : Nat) : Nat := if keyN ord b < keyN ord a then 1 else 0
theorem p_zgreater_s (F m : Nat) {ord a b k : Nat} (hord : ord < 2) (ha : a < 2 ^ 32) (hb : b < 2 ^ 32) (hk : k < 4) : b_zgreater_30 F (nI ord) (m + 1) (nI a) (nI b) (nI k) = if dgN ord a k = dgN ord b k then b_zgreater_30 F (nI ord) m (nI a) (nI b) (nI (k + 1)) else some (nI (if dgN ord b k < dgN ord a k then 1 else 0)) := by
  show s_zgreater_30 F (nI ord) (b_zgreater_30 F (nI ord) m) (nI a) (nI b) (nI k) = _
  unfold s_zgreater_30 s_zgreater_49
  rw [nlit 4, if_neg (nI_ge hk (by decide)), nlit 0, nlit 1, nlit 3, nI_add]
  have l1 := exN_lt a k
  have l2 := exN_lt b k
  have l3 := exN_lt a (3 - k)
  have l4 := exN_lt b (3 - k)
  by_cases h : ord = 0
  · rw [if_pos (by rw [h]), if_pos (by rw [h]), pk_sub (by omega), p_zexponent F ha (by omega), bd1_n, p_zexponent F hb (by omega), bd1_n, bd1_n, bd1_n]
    unfold dgN
    rw [if_pos h, if_pos h]
    by_cases e : exN a (3 - k) = exN b (3 - k)
    · rw [if_pos (by rw [e]), if_pos (by rw [e])]
    · rw [if_neg (by rw [nI_eq (by omega) (by omega)]; exact e), if_neg (show ¬ (255 - exN a (3 - k) = 255 - exN b (3 - k)) by omega)]
      by_cases q : exN b (3 - k) ≤ exN a (3 - k)
      · rw [if_pos (nI_le q (by omega)), if_neg (show ¬ (255 - exN b (3 - k) < 255 - exN a (3 - k)) by omega)]
      · rw [if_neg (nI_ge (by omega) (by omega)), if_pos (show 255 - exN b (3 - k) < 255 - exN a (3 - k) by omega)]
  · rw [if_neg (by rw [nI_eq (by omega) (by omega)]; exact h), if_neg (by rw [nI_eq (by omega) (by omega)]; exact h), p_zexponent F ha hk, bd1_n, p_zexponent F hb hk, bd1_n, bd1_n, bd1_n]
    unfold dgN
    rw [if_neg h, if_neg h]
    by_cases e : exN a k = exN b k
    · rw [if_pos (by rw [e]), if_pos (by rw [e])]
    · rw [if_neg (by rw [nI_eq (by omega) (by omega)]; exact e), if_neg e]
      by_cases q : exN a k ≤ exN b k
      · rw [if_pos (nI_le q (by omega)), if_neg (show ¬ exN b k < exN a k by omega)]
      · rw [if_neg (nI_ge (by omega) (by omega)), if_pos (show exN b k < exN a k by omega)]
theorem p_zgreater {F : Nat} (hF : 4 < F) {ord a b : Nat} (hord : ord < 2) (ha : a < 2 ^ 32) (hb : b < 2 ^ 32) : m_zgreater F (nI ord) (nI a) (nI b) = some (nI (gtN ord a b)) := by
  unfold m_zgreater
  obtain ⟨m, rfl⟩ : ∃ m, F = m + 5 := ⟨F - 5, by omega⟩
  have da := degN_lt a
  have db := degN_lt b
  rw [p_zdegreeOf _ ha, bd1_n, p_zdegreeOf _ hb, bd1_n, bd1_n, bd1_n]
  have a0 := dgN_lt ord a 0
  have a1 := dgN_lt ord a 1
  have a2 := dgN_lt ord a 2
  have a3 := dgN_lt ord a 3
  have b0 := dgN_lt ord b 0
  have b1 := dgN_lt ord b 1
  have b2 := dgN_lt ord b 2
  have b3 := dgN_lt ord b 3
  unfold gtN keyN
  by_cases e : degN a = degN b
  · rw [if_pos (by rw [e]), nlit 0]
    rw [show b_zgreater_30 (m + 5) (nI ord) (m + 5) = b_zgreater_30 (m + 5) (nI ord) (m + 4 + 1) from rfl, p_zgreater_s _ _ hord ha hb (by decide)]
    rw [show b_zgreater_30 (m + 5) (nI ord) (m + 4) = b_zgreater_30 (m + 5) (nI ord) (m + 3 + 1) from rfl, p_zgreater_s _ _ hord ha hb (by decide)]
    rw [show b_zgreater_30 (m + 5) (nI ord) (m + 3) = b_zgreater_30 (m + 5) (nI ord) (m + 2 + 1) from rfl, p_zgreater_s _ _ hord ha hb (by decide)]
    rw [show b_zgreater_30 (m + 5) (nI ord) (m + 2) = b_zgreater_30 (m + 5) (nI ord) (m + 1 + 1) from rfl, p_zgreater_s _ _ hord ha hb (by decide)]
    have last : b_zgreater_30 (m + 5) (nI ord) (m + 1) (nI a) (nI b) (nI (0 + 1 + 1 + 1 + 1)) = some (nI 0) := by
      show s_zgreater_30 (m + 5) (nI ord) (b_zgreater_30 (m + 5) (nI ord) m) (nI a) (nI b) (nI 4) = _
      unfold s_zgreater_30
      rw [if_pos (by decide +kernel)]
      rfl
    simp only [Nat.zero_add, Nat.reduceAdd] at last ⊢
    by_cases e0 : dgN ord a 0 = dgN ord b 0
    · rw [if_pos e0]
      by_cases e1 : dgN ord a 1 = dgN ord b 1
      · rw [if_pos e1]
        by_cases e2 : dgN ord a 2 = dgN ord b 2
        · rw [if_pos e2]
          by_cases e3 : dgN ord a 3 = dgN ord b 3
          · rw [if_pos e3, last, if_neg (by omega)]
          · rw [if_neg e3]
            by_cases q : dgN ord b 3 < dgN ord a 3
            · rw [if_pos q, if_pos (by omega)]
            · rw [if_neg q, if_neg (by omega)]
        · rw [if_neg e2]
          by_cases q : dgN ord b 2 < dgN ord a 2
          · rw [if_pos q, if_pos (by omega)]
          · rw [if_neg q, if_neg (by omega)]
      · rw [if_neg e1]
        by_cases q : dgN ord b 1 < dgN ord a 1
        · rw [if_pos q, if_pos (by omega)]
        · rw [if_neg q, if_neg (by omega)]
    · rw [if_neg e0]
      by_cases q : dgN ord b 0 < dgN ord a 0
      · rw [if_pos q, if_pos (by omega)]
      · rw [if_neg q, if_neg (by omega)]
  · rw [if_neg (by rw [nI_eq (by omega) (by omega)]; exact e)]
    by_cases q : degN a ≤ degN b
    · rw [if_pos (nI_le q (by omega)), if_neg (by omega)]
      rfl
    · rw [if_neg (nI_ge (by omega) (by omega)), if_pos (by omega)]
      rfl
/-- two tables by keys of the same codes are the same -/
theorem Tab_same {ord cnt cnt' : Nat} {l l' : List Nat} {cg kg cg' kg' : Nat → Nat} (h : TabL ord l cnt cg kg) (h' : TabL ord l' cnt' cg' kg') (hm : ∀ c, c ∈ l ↔ c ∈ l') : ∀ j, j < cnt → j < cnt' → cg j = cg' j := by
  intro j
  induction j using Nat.strongRecOn with
  | _ j ih =>
    intro hj hj'
    have lo : ∀ (l l' : List Nat) (cnt cnt' : Nat) (cg kg cg' kg' : Nat → Nat), TabL ord l cnt cg kg → TabL ord l' cnt' cg' kg' → (∀ c, c ∈ l ↔ c ∈ l') → (∀ i, i < j → cg i = cg' i) → j < cnt → j < cnt' → kg' j ≤ kg j := by
      intro l l' cnt cnt' cg kg cg' kg' h h' hm hi hj hj'
      obtain ⟨_, s1, k1, m1, _, _⟩ := h
      obtain ⟨_, s2, k2, m2, _, _⟩ := h'
      obtain ⟨q, hq, e⟩ := (m2 (cg j)).mp ((hm _).mp ((m1 (cg j)).mpr ⟨j, hj, rfl⟩))
      have e2 : kg' q = kg j := by rw [k2 q hq, e, k1 j hj]
      rcases Nat.lt_or_ge q j with z | z
      · have e3 := hi q z
        have e4 : kg q = kg j := by rw [k1 q (by omega), e3, e, k1 j hj]
        have := s1 q j z hj
        omega
      · rcases Nat.eq_or_lt_of_le z with z | z
        · exact Nat.le_of_eq (by rw [← e2, ← z])
        · have := s2 j q z hq
          omega
    have a1 := lo l l' cnt cnt' cg kg cg' kg' h h' hm (fun i hi => ih i hi (by omega) (by omega)) hj hj'
    have a2 := lo l' l cnt' cnt cg' kg' cg kg h' h (fun c => (hm c).symm) (fun i hi => (ih i hi (by omega) (by omega)).symm) hj' hj
    have e : kg j = kg' j := by omega
    rw [h.2.2.1 j hj, h'.2.2.1 j hj'] at e
    exact keyN_inj (h.2.2.2.2.1 _ ((h.2.2.2.1 _).mpr ⟨j, hj, rfl⟩)) (h'.2.2.2.2.1 _ ((h'.2.2.2.1 _).mpr ⟨j, hj', rfl⟩)) e
