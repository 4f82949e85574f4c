/-! THE CLASS'S LEFT-OVER MONOMIALS: taking one. -/
theorem p_reTakes_e (F : Nat) {code a sz : Nat} (ha : a < 40) (cg : Nat → Nat) : s_reTakes_68 F (nI code) (nI a) (nI sz) (nF (movF cg a sz)) = some (1, nI (sz + 1), nF (insF cg a sz code)) := by
  unfold s_reTakes_68
  rw [wrI_n ha (by decide), show nI sz + 1 = nI (sz + 1) from nI_add sz 1, upd_nF, movF_end]
theorem p_reTakes_l (F : Nat) (hF : 4 < F) {ord code sz : Nat} (hord : ord < 2) (hcode : code < 2 ^ 32) (hsz : sz < 40) (cg : Nat → Nat) (hcg : ∀ j, j < sz → cg j < 2 ^ 32) : ∀ (a n : Nat), a ≤ sz → a < n →
    ∃ at_, at_ ≤ a ∧ (at_ = 0 ∨ keyN ord (cg (at_ - 1)) ≤ keyN ord code) ∧ (∀ j, at_ ≤ j → j < a → keyN ord code < keyN ord (cg j)) ∧
      b_reTakes_23 F n (nI code) (nI ord) (lN (keyN ord code)) (nI a) (nI sz) (nF (movF cg a sz)) = some (1, nI (sz + 1), nF (insF cg at_ sz code)) := by
  have hkey := keyN_lt ord code
  intro a
  induction a with
  | zero =>
    intro n ha hn
    obtain ⟨m, rfl⟩ : ∃ m, n = m + 1 := ⟨n - 1, by omega⟩
    refine ⟨0, Nat.le_refl _, Or.inl rfl, fun j _ _ => by omega, ?_⟩
    show s_reTakes_23 F (b_reTakes_23 F m) (nI code) (nI ord) (lN (keyN ord code)) (nI 0) (nI sz) _ = _
    unfold s_reTakes_23
    rw [if_pos (by decide +kernel)]
    exact p_reTakes_e F (by decide) cg
  | succ a ih =>
    intro n ha hn
    obtain ⟨m, rfl⟩ : ∃ m, n = m + 1 := ⟨n - 1, by omega⟩
    have e1 : movF cg (a + 1) sz a = cg a := by unfold movF; rw [if_pos (by omega)]
    have hka := keyN_lt ord (cg a)
    have step : b_reTakes_23 F (m + 1) (nI code) (nI ord) (lN (keyN ord code)) (nI (a + 1)) (nI sz) (nF (movF cg (a + 1) sz)) =
        if keyN ord (cg a) ≤ keyN ord code then some (1, nI (sz + 1), nF (insF cg (a + 1) sz code)) else b_reTakes_23 F m (nI code) (nI ord) (lN (keyN ord code)) (nI a) (nI sz) (nF (movF cg a sz)) := by
      show s_reTakes_23 F (b_reTakes_23 F m) (nI code) (nI ord) (lN (keyN ord code)) (nI (a + 1)) (nI sz) _ = _
      unfold s_reTakes_23
      rw [if_neg (nI_nle (by omega) (by omega)), p_reTakes_e F (by omega) cg, show nI (a + 1) - 1 = nI a from pk_sub (show 1 ≤ a + 1 by omega), rdI_n (by omega) (by decide)]
      show bd1 (m_key F (nI (movF cg (a + 1) sz a)) (nI ord)) _ = _
      rw [e1, p_key hF (hcg a (by omega)) hord, bd1_n]
      by_cases h : keyN ord (cg a) ≤ keyN ord code
      · rw [if_pos h, if_pos ((cmp_le (by omega) (by omega)).mpr h)]
      · rw [if_neg h, if_neg (fun z => h ((cmp_le (by omega) (by omega)).mp z)), rdI_n (by omega) (by decide), wrI_n (by omega) (by decide), show nI (a + 1) + -1 = nI a from pk_m1 a]
        show b_reTakes_23 F m (nI code) (nI ord) (lN (keyN ord code)) (nI a) (nI sz) (upd (nF (movF cg (a + 1) sz)) (a + 1) (nI (movF cg (a + 1) sz a))) = _
        rw [upd_nF]
        have s1 := movF_step cg (a := a + 1) (cnt := sz) (by omega) ha
        rw [Nat.add_sub_cancel] at s1
        rw [s1]
    rw [step]
    by_cases h : keyN ord (cg a) ≤ keyN ord code
    · rw [if_pos h]
      exact ⟨a + 1, Nat.le_refl _, Or.inr (by rw [Nat.add_sub_cancel]; exact h), fun j _ _ => by omega, rfl⟩
    · rw [if_neg h]
      obtain ⟨at_, h1, h2, h3, h4⟩ := ih m (by omega) (by omega)
      refine ⟨at_, by omega, h2, fun j hj hja => ?_, h4⟩
      by_cases hjq : j = a
      · rw [hjq]; omega
      · exact h3 j hj (by omega)
theorem TabL.take {F ord sz code : Nat} (hF : 126 < F) (hord : ord < 2) {l : List Nat} {cg kg : Nat → Nat} (h : TabL ord l sz cg kg) (hcode : code < 2 ^ 32) (hnew : code ∉ l) (hl : sz < 40) :
    ∃ cg' kg', TabL ord (l ++ [code]) (sz + 1) cg' kg' ∧ m_reTakes F (nI code) (nI ord) (nI sz) (nF cg) = some (1, nI (sz + 1), nF cg') := by
  obtain ⟨at_, h1, h2, h3, h4⟩ := p_reTakes_l F (by omega) hord hcode hl cg (fun j hj => h.2.2.2.2.1 _ ((h.2.2.2.1 _).mpr ⟨j, hj, rfl⟩)) sz F (Nat.le_refl _) (by omega)
  rw [movF_top] at h4
  refine ⟨_, _, h.add hcode hnew h1 ?_ ?_, ?_⟩
  · rcases h2 with h2 | h2
    · exact Or.inl h2
    · by_cases e : at_ = 0
      · exact Or.inl e
      · rw [h.2.2.1 _ (by omega)]; exact Or.inr h2
  · intro j hj hjc
    rw [h.2.2.1 _ hjc]; exact h3 j hj hjc
  · unfold m_reTakes
    rw [if_pos (show nI sz < 40 from nI_lt (show sz < 40 from hl) (by decide)), p_key (by omega) hcode hord, bd1_n]
    exact h4
theorem p_reTakes_full {F ord sz : Nat} {code : Int32} {cg : Nat → Int32} (h : sz = 40) : m_reTakes F code (nI ord) (nI sz) cg = some (0, nI sz, cg) := by
  unfold m_reTakes
  rw [h, if_neg (by decide +kernel)]
