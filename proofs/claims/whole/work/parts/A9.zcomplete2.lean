/-! THE REFERENCE'S complete: the generators. -/
section ZCPL2
variable {F p n ord D : Nat} {cg kg bs : Nat → Nat} {l : List Nat} {dgs : Nat → Int32}
theorem nlt_le32 {a b : Int32} : ¬ a < b ↔ b ≤ a := Int32.not_lt
theorem p_zc2 (hF : 200 < F) (h1 : 1 ≤ n) (h4 : n ≤ 4) (hD : D ≤ 30) (hT : Tab n ord cg kg) (hdg : ∀ q, q < ctN n → dgs q = nI (dgC cg q)) {G : Nat → Nat} {gc : Nat} (hgc : gc ≤ 8) (hp2 : p ≤ 32003) (hG : ∀ g, g < gc → ∀ j, genV G g j < p) :
    ∀ (d m g : Nat), g + d = gc → d < m → ((∀ q, g ≤ q → q < gc → ¬ hiD n D cg (genV G q)) ∧ b_zcomplete_2 F (nI gc) (nI l.length) (nI (ctN n)) (nI D) (nF cg) dgs (nF G) (nF bs) m (nI g) = b_zcomplete_32 F (nI gc) (nI l.length) (nI (ctN n)) (nI D) (nF cg) dgs (nF G) (nF bs) F (nI 0)) ∨
      ((∃ q, g ≤ q ∧ q < gc ∧ hiD n D cg (genV G q)) ∧ b_zcomplete_2 F (nI gc) (nI l.length) (nI (ctN n)) (nI D) (nF cg) dgs (nF G) (nF bs) m (nI g) = some 0) := by
  intro d
  induction d with
  | zero =>
    intro m g hg hm
    obtain ⟨m, rfl⟩ : ∃ q, m = q + 1 := ⟨m - 1, by omega⟩
    refine Or.inl ⟨fun q _ _ => by omega, ?_⟩
    show s_zcomplete_2 F (nI gc) (nI l.length) (nI (ctN n)) (nI D) (nF cg) dgs (nF G) (nF bs) (b_zcomplete_2 F (nI gc) (nI l.length) (nI (ctN n)) (nI D) (nF cg) dgs (nF G) (nF bs) m) (nI g) = _
    unfold s_zcomplete_2
    rw [if_pos (nI_le (by omega) (by omega))]
    rfl
  | succ d ih =>
    intro m g hg hm
    obtain ⟨m, rfl⟩ : ∃ q, m = q + 1 := ⟨m - 1, by omega⟩
    obtain ⟨r, e1, e2⟩ := p_zdegreeOfGenerator (F := F) (D := D) hF h1 h4 hD hT hdg (show g < 8 by omega) hp2 (hG g (by omega))
    have step : b_zcomplete_2 F (nI gc) (nI l.length) (nI (ctN n)) (nI D) (nF cg) dgs (nF G) (nF bs) (m + 1) (nI g) = if r ≤ nI D then b_zcomplete_2 F (nI gc) (nI l.length) (nI (ctN n)) (nI D) (nF cg) dgs (nF G) (nF bs) m (nI (g + 1)) else some 0 := by
      show s_zcomplete_2 F (nI gc) (nI l.length) (nI (ctN n)) (nI D) (nF cg) dgs (nF G) (nF bs) (b_zcomplete_2 F (nI gc) (nI l.length) (nI (ctN n)) (nI D) (nF cg) dgs (nF G) (nF bs) m) (nI g) = _
      unfold s_zcomplete_2
      rw [if_neg (nI_ge (by omega) (by omega)), e1, bd1_n, show nI g + 1 = nI (g + 1) from nI_add g 1]
    rw [step]
    by_cases hh : hiD n D cg (genV G g)
    · rw [if_neg (fun z => nlt_le32.mpr z (e2.mpr hh))]
      exact Or.inr ⟨⟨g, Nat.le_refl _, by omega, hh⟩, rfl⟩
    · rw [if_pos (nlt_le32.mp (fun z => hh (e2.mp z)))]
      rcases ih m (g + 1) (by omega) (by omega) with ⟨x1, x2⟩ | ⟨⟨q, x1, x2, x3⟩, x4⟩
      · refine Or.inl ⟨fun q hq hqc => ?_, x2⟩
        by_cases z : q = g
        · rw [z]; exact hh
        · exact x1 q (by omega) hqc
      · exact Or.inr ⟨⟨q, by omega, x2, x3⟩, x4⟩
theorem p_zcomplete (hF : 200 < F) (h1 : 1 ≤ n) (h4 : n ≤ 4) (hD : D ≤ 30) (hT : Tab n ord cg kg) (hdg : ∀ q, q < ctN n → dgs q = nI (dgC cg q)) {G : Nat → Nat} {gc : Nat} (hgc : gc ≤ 8) (hp2 : p ≤ 32003) (hG : ∀ g, g < gc → ∀ j, genV G g j < p) (hA : Arr l bs) (hl : l.length ≤ 126) (hb : ∀ b ∈ l, b < 126 ∧ cg b < 2 ^ 32) :
    (((∀ q, q < gc → ¬ hiD n D cg (genV G q)) ∧ Cpl cg D l) ∧ m_zcomplete F (nI gc) (nI l.length) (nI (ctN n)) (nI D) (nF cg) dgs (nF G) (nF bs) = some 1) ∨
    (¬ ((∀ q, q < gc → ¬ hiD n D cg (genV G q)) ∧ Cpl cg D l) ∧ m_zcomplete F (nI gc) (nI l.length) (nI (ctN n)) (nI D) (nF cg) dgs (nF G) (nF bs) = some 0) := by
  have e : m_zcomplete F (nI gc) (nI l.length) (nI (ctN n)) (nI D) (nF cg) dgs (nF G) (nF bs) = b_zcomplete_2 F (nI gc) (nI l.length) (nI (ctN n)) (nI D) (nF cg) dgs (nF G) (nF bs) F (nI 0) := rfl
  rw [e]
  rcases p_zc2 (F := F) (l := l) (bs := bs) hF h1 h4 hD hT hdg hgc hp2 hG gc F 0 (by omega) (by omega) with ⟨x1, x2⟩ | ⟨⟨q, x1, x2, x3⟩, x4⟩
  · rw [x2]
    rcases p_zc32' (F := F) (D := D) (dgs := dgs) (GA := nF G) (gI := nI gc) (mI := nI (ctN n)) hF hD hA hl hb with ⟨y1, y2⟩ | ⟨y1, y2⟩
    · exact Or.inl ⟨⟨fun q hq => x1 q (by omega) hq, y1⟩, y2⟩
    · exact Or.inr ⟨fun z => y1 z.2, y2⟩
  · exact Or.inr ⟨fun z => z.1 q x2 x3, x4⟩
end ZCPL2
