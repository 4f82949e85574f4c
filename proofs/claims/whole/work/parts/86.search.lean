/-! SEARCHES: loops that look for the first place. -/
theorem p_placeOf_l (F : Nat) {sz c : Nat} (hsz : sz ≤ 40) (hc : c < 2 ^ 32) (cg : Nat → Nat) (hcg : ∀ j, cg j < 2 ^ 32) : ∀ (d n i : Nat), i + d = sz → d < n →
    (∃ j, i ≤ j ∧ j < sz ∧ cg j = c ∧ (∀ q, i ≤ q → q < j → cg q ≠ c) ∧ b_placeOf_2 F (nI sz) (nF cg) n (nI c) (nI i) = some (nI j)) ∨ ((∀ q, i ≤ q → q < sz → cg q ≠ c) ∧ b_placeOf_2 F (nI sz) (nF cg) n (nI c) (nI i) = some (-1)) := by
  intro d
  induction d with
  | zero =>
    intro n i hi hn
    obtain ⟨m, rfl⟩ : ∃ m, n = m + 1 := ⟨n - 1, by omega⟩
    refine Or.inr ⟨fun q _ _ => by omega, ?_⟩
    show s_placeOf_2 F (nI sz) (nF cg) _ (nI c) (nI i) = _
    unfold s_placeOf_2
    rw [if_pos (nI_le (by omega) (by omega))]
  | succ d ih =>
    intro n i hi hn
    obtain ⟨m, rfl⟩ : ∃ m, n = m + 1 := ⟨n - 1, by omega⟩
    have step : b_placeOf_2 F (nI sz) (nF cg) (m + 1) (nI c) (nI i) = if cg i = c then some (nI i) else b_placeOf_2 F (nI sz) (nF cg) m (nI c) (nI (i + 1)) := by
      show s_placeOf_2 F (nI sz) (nF cg) (b_placeOf_2 F (nI sz) (nF cg) m) (nI c) (nI i) = _
      unfold s_placeOf_2
      rw [if_neg (nI_ge (by omega) (by omega)), rdI_n (by omega) (by decide), show nI i + 1 = nI (i + 1) from nI_add i 1]
      by_cases h : cg i = c
      · rw [if_pos h, if_pos (by show nI (cg i) = nI c; rw [h])]
      · rw [if_neg h, if_neg (show ¬ nF cg i = nI c from fun q => h (nI_inj32 (hcg i) hc q))]
    rw [step]
    by_cases h0 : cg i = c
    · rw [if_pos h0]
      exact Or.inl ⟨i, Nat.le_refl _, by omega, h0, fun q _ _ => by omega, rfl⟩
    · rw [if_neg h0]
      rcases ih m (i + 1) (by omega) (by omega) with ⟨j, h1, h2, h3, h4, h5⟩ | ⟨h1, h2⟩
      · refine Or.inl ⟨j, by omega, h2, h3, fun q hq hqj => ?_, h5⟩
        by_cases hqi : q = i
        · rw [hqi]; exact h0
        · exact h4 q (by omega) hqj
      · refine Or.inr ⟨fun q hq hql => ?_, h2⟩
        by_cases hqi : q = i
        · rw [hqi]; exact h0
        · exact h1 q (by omega) hql
theorem p_placeOf {F sz c : Nat} (hF : 126 < F) (hsz : sz ≤ 40) (hc : c < 2 ^ 32) (cg : Nat → Nat) (hcg : ∀ j, cg j < 2 ^ 32) :
    (∃ j, j < sz ∧ cg j = c ∧ (∀ q, q < j → cg q ≠ c) ∧ m_placeOf F (nI sz) (nF cg) (nI c) = some (nI j)) ∨ ((∀ q, q < sz → cg q ≠ c) ∧ m_placeOf F (nI sz) (nF cg) (nI c) = some (-1)) := by
  rcases p_placeOf_l F hsz hc cg hcg sz F 0 (by omega) (by omega) with ⟨j, _, h2, h3, h4, h5⟩ | ⟨h1, h2⟩
  · exact Or.inl ⟨j, h2, h3, fun q hq => h4 q (by omega) hq, h5⟩
  · exact Or.inr ⟨fun q hq => h1 q (by omega) hq, h2⟩
theorem p_hasLead_l (F : Nat) (hF : 4 < F) {bc c : Nat} (hbc : bc ≤ 126) (hc : c < 2 ^ 32) (cg bs : Nat → Nat) (hcg : ∀ j, j < bc → cg (bs j) < 2 ^ 32) (hbs : ∀ j, j < bc → bs j < 126) : ∀ (d n i : Nat), i + d = bc → d < n →
    ((∃ j, i ≤ j ∧ j < bc ∧ dvN 0 (cg (bs j)) c = 1) ∧ b_hasLead_2 F (nI bc) (nF cg) (nF bs) n (nI c) (nI i) = some (nI 1)) ∨ ((∀ j, i ≤ j → j < bc → dvN 0 (cg (bs j)) c ≠ 1) ∧ b_hasLead_2 F (nI bc) (nF cg) (nF bs) n (nI c) (nI i) = some (nI 0)) := by
  intro d
  induction d with
  | zero =>
    intro n i hi hn
    obtain ⟨m, rfl⟩ : ∃ m, n = m + 1 := ⟨n - 1, by omega⟩
    refine Or.inr ⟨fun q _ _ => by omega, ?_⟩
    show s_hasLead_2 F (nI bc) (nF cg) (nF bs) _ (nI c) (nI i) = _
    unfold s_hasLead_2
    rw [if_pos (nI_le (by omega) (by omega))]
    rfl
  | succ d ih =>
    intro n i hi hn
    obtain ⟨m, rfl⟩ : ∃ m, n = m + 1 := ⟨n - 1, by omega⟩
    have hb := hbs i (by omega)
    have step : b_hasLead_2 F (nI bc) (nF cg) (nF bs) (m + 1) (nI c) (nI i) = if dvN 0 (cg (bs i)) c = 1 then some (nI 1) else b_hasLead_2 F (nI bc) (nF cg) (nF bs) m (nI c) (nI (i + 1)) := by
      show s_hasLead_2 F (nI bc) (nF cg) (nF bs) (b_hasLead_2 F (nI bc) (nF cg) (nF bs) m) (nI c) (nI i) = _
      unfold s_hasLead_2
      rw [if_neg (nI_ge (by omega) (by omega)), rdI_n (by omega) (by decide)]
      show rdI 126 (nF cg) (nI (bs i)) _ = _
      rw [rdI_n hb (by decide)]
      show bd1 (m_divides F (nI (cg (bs i))) (nI c)) _ = _
      rw [p_divides hF (hcg i (by omega)) hc, bd1_n, show nI i + 1 = nI (i + 1) from nI_add i 1]
      by_cases h : ∀ u, 0 ≤ u → u < 4 → exN (cg (bs i)) u ≤ exN c u
      · rw [dvN_1 h, if_neg (by decide), if_pos rfl]
        rfl
      · rw [dvN_0 h, if_pos (by decide), if_neg (by decide)]
    rw [step]
    by_cases h0 : dvN 0 (cg (bs i)) c = 1
    · rw [if_pos h0]
      exact Or.inl ⟨⟨i, Nat.le_refl _, by omega, h0⟩, rfl⟩
    · rw [if_neg h0]
      rcases ih m (i + 1) (by omega) (by omega) with ⟨⟨j, h1, h2, h3⟩, h5⟩ | ⟨h1, h2⟩
      · exact Or.inl ⟨⟨j, by omega, h2, h3⟩, h5⟩
      · refine Or.inr ⟨fun q hq hql => ?_, h2⟩
        by_cases hqi : q = i
        · rw [hqi]; exact h0
        · exact h1 q (by omega) hql
