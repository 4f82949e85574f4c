/-! THE CLASS'S BASIS: isComplete, and the whole of hasCompleteBasis. -/
theorem lcN_lt (a c : Nat) : lcN a c < 1024 := by
  unfold lcN cmN
  have := exN_lt a 0
  have := exN_lt a 1
  have := exN_lt a 2
  have := exN_lt a 3
  have := exN_lt c 0
  have := exN_lt c 1
  have := exN_lt c 2
  have := exN_lt c 3
  omega
section CPL
variable {F D : Nat} {cg bs : Nat → Nat} {l : List Nat} {dgs : Nat → Int32}
def okP (cg : Nat → Nat) (D : Nat) (l : List Nat) (a b : Nat) : Prop := ∀ (ha : a < l.length) (hb : b < l.length), lcN (cg l[a]) (cg l[b]) ≤ D ∨ lcN (cg l[a]) (cg l[b]) = degN (cg l[a]) + degN (cg l[b])
theorem p_isComplete_12 (hF : 200 < F) (hD : D ≤ 30) (hA : Arr l bs) (hl : l.length ≤ 126) (hb : ∀ b ∈ l, b < 126 ∧ cg b < 2 ^ 32) (hdg : ∀ b ∈ l, dgs b = nI (degN (cg b))) {k2} {b : Nat} (hbl : b < l.length) :
    ∀ (d m a : Nat), a + d = b → d < m → ((∀ q, a ≤ q → q < b → okP cg D l q b) ∧ b_isComplete_12 F (nI l.length) (nI D) (nF cg) dgs (nF bs) k2 m (nI b) (nI a) = k2 (nI (b + 1))) ∨
      ((∃ q, a ≤ q ∧ q < b ∧ ¬ okP cg D l q b) ∧ b_isComplete_12 F (nI l.length) (nI D) (nF cg) dgs (nF bs) k2 m (nI b) (nI a) = some 0) := by
  intro d
  induction d with
  | zero =>
    intro m a ha hm
    obtain ⟨m, rfl⟩ : ∃ q, m = q + 1 := ⟨m - 1, by omega⟩
    refine Or.inl ⟨fun q _ _ => by omega, ?_⟩
    show s_isComplete_12 F (nI l.length) (nI D) (nF cg) dgs (nF bs) k2 (b_isComplete_12 F (nI l.length) (nI D) (nF cg) dgs (nF bs) k2 m) (nI b) (nI a) = _
    unfold s_isComplete_12
    rw [if_pos (nI_le (by omega) (by omega)), show nI b + 1 = nI (b + 1) from nI_add b 1]
  | succ d ih =>
    intro m a ha hm
    obtain ⟨m, rfl⟩ : ∃ q, m = q + 1 := ⟨m - 1, by omega⟩
    have hal : a < l.length := by omega
    have ea := hA a hal
    have eb := hA b hbl
    obtain ⟨a1, a2⟩ := hb _ (List.getElem_mem hal)
    obtain ⟨b1, b2⟩ := hb _ (List.getElem_mem hbl)
    have da := hdg _ (List.getElem_mem hal)
    have db := hdg _ (List.getElem_mem hbl)
    have hlc := lcN_lt (cg l[a]) (cg l[b])
    have hda := degN_lt (cg l[a])
    have hdb := degN_lt (cg l[b])
    have step : b_isComplete_12 F (nI l.length) (nI D) (nF cg) dgs (nF bs) k2 (m + 1) (nI b) (nI a) = if lcN (cg l[a]) (cg l[b]) ≤ D then b_isComplete_12 F (nI l.length) (nI D) (nF cg) dgs (nF bs) k2 m (nI b) (nI (a + 1)) else if lcN (cg l[a]) (cg l[b]) = degN (cg l[a]) + degN (cg l[b]) then b_isComplete_12 F (nI l.length) (nI D) (nF cg) dgs (nF bs) k2 m (nI b) (nI (a + 1)) else some 0 := by
      show s_isComplete_12 F (nI l.length) (nI D) (nF cg) dgs (nF bs) k2 (b_isComplete_12 F (nI l.length) (nI D) (nF cg) dgs (nF bs) k2 m) (nI b) (nI a) = _
      unfold s_isComplete_12
      rw [if_neg (nI_ge (by omega) (by omega)), rdI_n (by omega) (by decide), show nF bs a = nI l[a] by show nI (bs a) = _; rw [ea], rdI_n a1 (by decide), rdI_n (by omega) (by decide), show nF bs b = nI l[b] by show nI (bs b) = _; rw [eb], rdI_n b1 (by decide)]
      show bd1 (m_common F (nI (cg l[a])) (nI (cg l[b]))) _ = _
      rw [p_common (by omega) a2 b2, bd1_n, rdI_n (by omega) (by decide), show nF bs a = nI l[a] by show nI (bs a) = _; rw [ea], rdI_n a1 (by decide), rdI_n (by omega) (by decide), show nF bs b = nI l[b] by show nI (bs b) = _; rw [eb], rdI_n b1 (by decide), da, db, nI_add, show nI a + 1 = nI (a + 1) from nI_add a 1]
      by_cases z : lcN (cg l[a]) (cg l[b]) ≤ D
      · rw [if_pos z, if_pos (nI_le z (by omega))]
      · rw [if_neg z, if_neg (nI_ge (by omega) (by omega))]
        by_cases y : lcN (cg l[a]) (cg l[b]) = degN (cg l[a]) + degN (cg l[b])
        · rw [if_pos y, if_pos (by rw [y])]
        · rw [if_neg y, if_neg (by rw [nI_eq (by omega) (by omega)]; exact y)]
    rw [step]
    by_cases hok : lcN (cg l[a]) (cg l[b]) ≤ D ∨ lcN (cg l[a]) (cg l[b]) = degN (cg l[a]) + degN (cg l[b])
    · have e : (if lcN (cg l[a]) (cg l[b]) ≤ D then b_isComplete_12 F (nI l.length) (nI D) (nF cg) dgs (nF bs) k2 m (nI b) (nI (a + 1)) else if lcN (cg l[a]) (cg l[b]) = degN (cg l[a]) + degN (cg l[b]) then b_isComplete_12 F (nI l.length) (nI D) (nF cg) dgs (nF bs) k2 m (nI b) (nI (a + 1)) else some 0) = b_isComplete_12 F (nI l.length) (nI D) (nF cg) dgs (nF bs) k2 m (nI b) (nI (a + 1)) := by
        split
        · rfl
        · rw [if_pos (by rcases hok with z | z; exact absurd z (by assumption); exact z)]
      rw [e]
      rcases ih m (a + 1) (by omega) (by omega) with ⟨x1, x2⟩ | ⟨⟨q, x1, x2, x3⟩, x4⟩
      · refine Or.inl ⟨fun q hq hqb => ?_, x2⟩
        by_cases z : q = a
        · rw [z]; exact fun _ _ => hok
        · exact x1 q (by omega) hqb
      · exact Or.inr ⟨⟨q, by omega, x2, x3⟩, x4⟩
    · rw [if_neg (fun z => hok (Or.inl z)), if_neg (fun z => hok (Or.inr z))]
      exact Or.inr ⟨⟨a, Nat.le_refl _, by omega, fun z => hok (z hal hbl)⟩, rfl⟩
theorem p_isComplete_2 (hF : 200 < F) (hD : D ≤ 30) (hA : Arr l bs) (hl : l.length ≤ 126) (hb : ∀ b ∈ l, b < 126 ∧ cg b < 2 ^ 32) (hdg : ∀ b ∈ l, dgs b = nI (degN (cg b))) :
    ∀ (d m b : Nat), l.length ≤ b + d → b ≤ 127 → d < m → ((∀ c q, b ≤ c → c < l.length → q < c → okP cg D l q c) ∧ b_isComplete_2 F (nI l.length) (nI D) (nF cg) dgs (nF bs) m (nI b) = some 1) ∨
      ((∃ c q, b ≤ c ∧ c < l.length ∧ q < c ∧ ¬ okP cg D l q c) ∧ b_isComplete_2 F (nI l.length) (nI D) (nF cg) dgs (nF bs) m (nI b) = some 0) := by
  have hend : ∀ (m b : Nat), l.length ≤ b → b ≤ 127 → b_isComplete_2 F (nI l.length) (nI D) (nF cg) dgs (nF bs) (m + 1) (nI b) = some 1 := by
    intro m b h1 h2
    show s_isComplete_2 F (nI l.length) (nI D) (nF cg) dgs (nF bs) (b_isComplete_2 F (nI l.length) (nI D) (nF cg) dgs (nF bs) m) (nI b) = _
    unfold s_isComplete_2
    rw [if_pos (nI_le h1 (by omega))]
  intro d
  induction d with
  | zero =>
    intro m b hbl hb7 hm
    obtain ⟨m, rfl⟩ : ∃ q, m = q + 1 := ⟨m - 1, by omega⟩
    exact Or.inl ⟨fun c q _ _ _ => by omega, hend m b (by omega) hb7⟩
  | succ d ih =>
    intro m b hbl hb7 hm
    obtain ⟨m, rfl⟩ : ∃ q, m = q + 1 := ⟨m - 1, by omega⟩
    by_cases hb2 : l.length ≤ b
    · exact Or.inl ⟨fun c q _ _ _ => by omega, hend m b hb2 hb7⟩
    · have step : b_isComplete_2 F (nI l.length) (nI D) (nF cg) dgs (nF bs) (m + 1) (nI b) = b_isComplete_12 F (nI l.length) (nI D) (nF cg) dgs (nF bs) (b_isComplete_2 F (nI l.length) (nI D) (nF cg) dgs (nF bs) m) F (nI b) (nI 0) := by
        show s_isComplete_2 F (nI l.length) (nI D) (nF cg) dgs (nF bs) (b_isComplete_2 F (nI l.length) (nI D) (nF cg) dgs (nF bs) m) (nI b) = _
        unfold s_isComplete_2
        rw [if_neg (nI_ge (by omega) (by omega))]
        rfl
      rw [step]
      rcases p_isComplete_12 (k2 := b_isComplete_2 F (nI l.length) (nI D) (nF cg) dgs (nF bs) m) hF hD hA hl hb hdg (show b < l.length by omega) b F 0 (by omega) (by omega) with ⟨x1, x2⟩ | ⟨⟨q, x1, x2, x3⟩, x4⟩
      · rw [x2]
        rcases ih m (b + 1) (by omega) (by omega) (by omega) with ⟨y1, y2⟩ | ⟨⟨c, q, y1, y2, y3, y4⟩, y5⟩
        · refine Or.inl ⟨fun c q hc hcl hq => ?_, y2⟩
          by_cases z : c = b
          · rw [z] at hq ⊢; exact x1 q (by omega) hq
          · exact y1 c q (by omega) hcl hq
        · exact Or.inr ⟨⟨c, q, by omega, y2, y3, y4⟩, y5⟩
      · rw [x4]
        exact Or.inr ⟨⟨b, q, Nat.le_refl _, by omega, x2, x3⟩, rfl⟩
theorem p_isComplete (hF : 200 < F) (hD : D ≤ 30) (hA : Arr l bs) (hl : l.length ≤ 126) (hb : ∀ b ∈ l, b < 126 ∧ cg b < 2 ^ 32) (hdg : ∀ b ∈ l, dgs b = nI (degN (cg b))) :
    (Cpl cg D l ∧ m_isComplete F (nI l.length) (nI D) (nF cg) dgs (nF bs) = some 1) ∨ (¬ Cpl cg D l ∧ m_isComplete F (nI l.length) (nI D) (nF cg) dgs (nF bs) = some 0) := by
  have e : m_isComplete F (nI l.length) (nI D) (nF cg) dgs (nF bs) = b_isComplete_2 F (nI l.length) (nI D) (nF cg) dgs (nF bs) F (nI 1) := rfl
  rw [e]
  rcases p_isComplete_2 hF hD hA hl hb hdg 126 F 1 (by omega) (by omega) (by omega) with ⟨x1, x2⟩ | ⟨⟨c, q, y1, y2, y3, y4⟩, y5⟩
  · exact Or.inl ⟨fun a b ha hb3 hab => x1 b a (by omega) hb3 hab ha hb3, x2⟩
  · exact Or.inr ⟨fun z => y4 (fun ha hb3 => z q c ha hb3 y3), y5⟩
theorem p_pickBasis {p n ord : Nat} {kg : Nat → Nat} (hF : 40000 < F) (hp : 2 ≤ p) (hp2 : p ≤ 32003) (h1 : 1 ≤ n) (h4 : n ≤ 4) (hT : Tab n ord cg kg) {Lf R bs0 : Nat → Nat} (hE : Ech p (ctN n) Lf (rowF R)) :
    ∃ R' bs', m_pickBasis F (nI (ctN n)) (nI p) (nF cg) (nF Lf) (nI 0) (nF R) (nF bs0) = some (nI (bsN cg Lf (ctN n)).length, nF R', nF bs') ∧ Ech p (ctN n) Lf (rowF R') ∧ Arr (bsN cg Lf (ctN n)) bs' ∧
        (∀ b ∈ bsN cg Lf (ctN n), ∀ j, j < b → Lf j = 1 → rowF R' b j = 0) ∧ ∀ f, RS p (ctN n) Lf (rowF R') f ↔ RS p (ctN n) Lf (rowF R) f := by
  have hct := ctN_le h1 h4
  exact p_pickBasis_l hF hp hp2 h1 h4 hT (ctN n) F 0 R bs0 (by omega) (by omega) hE (fun q h => absurd h (Nat.not_lt_zero _)) (fun b hb => absurd hb List.not_mem_nil)
end CPL
