/-! THE REFERENCE'S complete. -/
theorem lcN_comm (a c : Nat) : lcN a c = lcN c a := by
  unfold lcN cmN
  rw [Nat.max_comm (exN a 0), Nat.max_comm (exN a 1), Nat.max_comm (exN a 2), Nat.max_comm (exN a 3)]
section ZCPL
variable {F D : Nat} {cg bs : Nat → Nat} {l : List Nat} {dgs GA : Nat → Int32} {gI mI : Int32}
theorem p_zc55_s (hA : Arr l bs) (hl : l.length ≤ 126) (hb : ∀ b ∈ l, b < 126 ∧ cg b < 2 ^ 32) {k32 k42} {a b : Nat} (ha : a < l.length) (hbl : b < l.length) {m v c q : Nat} (hv : v < 4) :
    b_zcomplete_55 F gI (nI l.length) mI (nI D) (nF cg) dgs GA (nF bs) k32 k42 (m + 1) (nI a) (nI b) (nI c) (nI q) (nI v) = b_zcomplete_55 F gI (nI l.length) mI (nI D) (nF cg) dgs GA (nF bs) k32 k42 m (nI a) (nI b) (nI (c + cmN v (cg l[a]) (cg l[b]))) (nI (q + (exN (cg l[a]) v + exN (cg l[b]) v))) (nI (v + 1)) := by
  have ea := hA a ha
  have eb := hA b hbl
  obtain ⟨a1, a2⟩ := hb _ (List.getElem_mem ha)
  obtain ⟨b1, b2⟩ := hb _ (List.getElem_mem hbl)
  have x1 := exN_lt (cg l[a]) v
  have x2 := exN_lt (cg l[b]) v
  show s_zcomplete_55 F gI (nI l.length) mI (nI D) (nF cg) dgs GA (nF bs) k32 k42 (b_zcomplete_55 F gI (nI l.length) mI (nI D) (nF cg) dgs GA (nF bs) k32 k42 m) (nI a) (nI b) (nI c) (nI q) (nI v) = _
  unfold s_zcomplete_55 s_zcomplete_112
  rw [if_neg (show ¬ (4 : Int32) ≤ nI v from nI_ge hv (by decide)), rdI_n (by omega) (by decide), show nF bs a = nI l[a] by show nI (bs a) = _; rw [ea], rdI_n a1 (by decide)]
  show bd1 (m_zexponent F (nI (cg l[a])) (nI v)) _ = _
  rw [p_zexponent F a2 hv, bd1_n, rdI_n (by omega) (by decide), show nF bs b = nI l[b] by show nI (bs b) = _; rw [eb], rdI_n b1 (by decide)]
  show bd1 (m_zexponent F (nI (cg l[b])) (nI v)) _ = _
  rw [p_zexponent F b2 hv, bd1_n, nI_add, nI_add, show nI v + 1 = nI (v + 1) from nI_add v 1]
  unfold cmN
  by_cases z : exN (cg l[a]) v ≤ exN (cg l[b]) v
  · rw [if_pos (nI_le z (by omega)), nI_add, Nat.max_eq_right z]
  · rw [if_neg (nI_ge (by omega) (by omega)), nI_add, nI_add, Nat.max_eq_left (by omega)]
theorem p_zc55 (hF : 200 < F) (hD : D ≤ 30) (hA : Arr l bs) (hl : l.length ≤ 126) (hb : ∀ b ∈ l, b < 126 ∧ cg b < 2 ^ 32) {k32 k42} {a b : Nat} (ha : a < l.length) (hbl : b < l.length) :
    b_zcomplete_55 F gI (nI l.length) mI (nI D) (nF cg) dgs GA (nF bs) k32 k42 F (nI a) (nI b) (nI 0) (nI 0) (nI 0) = if lcN (cg l[a]) (cg l[b]) ≤ D then k42 (nI a) (nI (b + 1)) else if lcN (cg l[a]) (cg l[b]) = degN (cg l[a]) + degN (cg l[b]) then k42 (nI a) (nI (b + 1)) else some 0 := by
  obtain ⟨m, rfl⟩ : ∃ m, F = m + 5 := ⟨F - 5, by omega⟩
  have e1 : b_zcomplete_55 (m + 5) gI (nI l.length) mI (nI D) (nF cg) dgs GA (nF bs) k32 k42 (m + 5) = b_zcomplete_55 (m + 5) gI (nI l.length) mI (nI D) (nF cg) dgs GA (nF bs) k32 k42 (m + 4 + 1) := rfl
  have e2 : b_zcomplete_55 (m + 5) gI (nI l.length) mI (nI D) (nF cg) dgs GA (nF bs) k32 k42 (m + 4) = b_zcomplete_55 (m + 5) gI (nI l.length) mI (nI D) (nF cg) dgs GA (nF bs) k32 k42 (m + 3 + 1) := rfl
  have e3 : b_zcomplete_55 (m + 5) gI (nI l.length) mI (nI D) (nF cg) dgs GA (nF bs) k32 k42 (m + 3) = b_zcomplete_55 (m + 5) gI (nI l.length) mI (nI D) (nF cg) dgs GA (nF bs) k32 k42 (m + 2 + 1) := rfl
  have e4 : b_zcomplete_55 (m + 5) gI (nI l.length) mI (nI D) (nF cg) dgs GA (nF bs) k32 k42 (m + 2) = b_zcomplete_55 (m + 5) gI (nI l.length) mI (nI D) (nF cg) dgs GA (nF bs) k32 k42 (m + 1 + 1) := rfl
  rw [e1, p_zc55_s hA hl hb ha hbl (by decide), e2, p_zc55_s hA hl hb ha hbl (by decide), e3, p_zc55_s hA hl hb ha hbl (by decide), e4, p_zc55_s hA hl hb ha hbl (by decide)]
  have hlc := lcN_lt (cg l[a]) (cg l[b])
  have hda := degN_lt (cg l[a])
  have hdb := degN_lt (cg l[b])
  have s1 : 0 + cmN 0 (cg l[a]) (cg l[b]) + cmN (0 + 1) (cg l[a]) (cg l[b]) + cmN (0 + 1 + 1) (cg l[a]) (cg l[b]) + cmN (0 + 1 + 1 + 1) (cg l[a]) (cg l[b]) = lcN (cg l[a]) (cg l[b]) := by
    unfold lcN
    rw [Nat.zero_add]
  have s2 : 0 + (exN (cg l[a]) 0 + exN (cg l[b]) 0) + (exN (cg l[a]) (0 + 1) + exN (cg l[b]) (0 + 1)) + (exN (cg l[a]) (0 + 1 + 1) + exN (cg l[b]) (0 + 1 + 1)) + (exN (cg l[a]) (0 + 1 + 1 + 1) + exN (cg l[b]) (0 + 1 + 1 + 1)) = degN (cg l[a]) + degN (cg l[b]) := by
    show 0 + (exN (cg l[a]) 0 + exN (cg l[b]) 0) + (exN (cg l[a]) 1 + exN (cg l[b]) 1) + (exN (cg l[a]) 2 + exN (cg l[b]) 2) + (exN (cg l[a]) 3 + exN (cg l[b]) 3) = _
    unfold degN
    omega
  rw [s1, s2]
  show s_zcomplete_55 (m + 5) gI (nI l.length) mI (nI D) (nF cg) dgs GA (nF bs) k32 k42 (b_zcomplete_55 (m + 5) gI (nI l.length) mI (nI D) (nF cg) dgs GA (nF bs) k32 k42 m) (nI a) (nI b) (nI (lcN (cg l[a]) (cg l[b]))) (nI (degN (cg l[a]) + degN (cg l[b]))) (nI 4) = _
  unfold s_zcomplete_55
  rw [if_pos (by decide +kernel), show nI b + 1 = nI (b + 1) from nI_add b 1]
  by_cases z : lcN (cg l[a]) (cg l[b]) ≤ D
  · rw [if_pos z, if_pos (nI_le z (by omega))]
  · rw [if_neg z, if_neg (nI_ge (by omega) (by omega))]
    by_cases y : lcN (cg l[a]) (cg l[b]) = degN (cg l[a]) + degN (cg l[b])
    · rw [if_pos y, if_pos (by rw [y])]
    · rw [if_neg y, if_neg (by rw [nI_eq (by omega) (by omega)]; exact y)]
theorem p_zc42 (hF : 200 < F) (hD : D ≤ 30) (hA : Arr l bs) (hl : l.length ≤ 126) (hb : ∀ b ∈ l, b < 126 ∧ cg b < 2 ^ 32) {k32} {a : Nat} (ha : a < l.length) :
    ∀ (d m b : Nat), b + d = a → d < m → ((∀ q, b ≤ q → q < a → okP cg D l a q) ∧ b_zcomplete_42 F gI (nI l.length) mI (nI D) (nF cg) dgs GA (nF bs) k32 m (nI a) (nI b) = k32 (nI (a + 1))) ∨
      ((∃ q, b ≤ q ∧ q < a ∧ ¬ okP cg D l a q) ∧ b_zcomplete_42 F gI (nI l.length) mI (nI D) (nF cg) dgs GA (nF bs) k32 m (nI a) (nI b) = some 0) := by
  intro d
  induction d with
  | zero =>
    intro m b hba hm
    obtain ⟨m, rfl⟩ : ∃ q, m = q + 1 := ⟨m - 1, by omega⟩
    refine Or.inl ⟨fun q _ _ => by omega, ?_⟩
    show s_zcomplete_42 F gI (nI l.length) mI (nI D) (nF cg) dgs GA (nF bs) k32 (b_zcomplete_42 F gI (nI l.length) mI (nI D) (nF cg) dgs GA (nF bs) k32 m) (nI a) (nI b) = _
    unfold s_zcomplete_42
    rw [if_pos (nI_le (by omega) (by omega)), show nI a + 1 = nI (a + 1) from nI_add a 1]
  | succ d ih =>
    intro m b hba hm
    obtain ⟨m, rfl⟩ : ∃ q, m = q + 1 := ⟨m - 1, by omega⟩
    have hbl : b < l.length := by omega
    have step : b_zcomplete_42 F gI (nI l.length) mI (nI D) (nF cg) dgs GA (nF bs) k32 (m + 1) (nI a) (nI b) = if lcN (cg l[a]) (cg l[b]) ≤ D then b_zcomplete_42 F gI (nI l.length) mI (nI D) (nF cg) dgs GA (nF bs) k32 m (nI a) (nI (b + 1)) else if lcN (cg l[a]) (cg l[b]) = degN (cg l[a]) + degN (cg l[b]) then b_zcomplete_42 F gI (nI l.length) mI (nI D) (nF cg) dgs GA (nF bs) k32 m (nI a) (nI (b + 1)) else some 0 := by
      rw [← p_zc55 (dgs := dgs) (GA := GA) (gI := gI) (mI := mI) (k32 := k32) (k42 := b_zcomplete_42 F gI (nI l.length) mI (nI D) (nF cg) dgs GA (nF bs) k32 m) hF hD hA hl hb ha hbl]
      show s_zcomplete_42 F gI (nI l.length) mI (nI D) (nF cg) dgs GA (nF bs) k32 (b_zcomplete_42 F gI (nI l.length) mI (nI D) (nF cg) dgs GA (nF bs) k32 m) (nI a) (nI b) = _
      unfold s_zcomplete_42
      rw [if_neg (nI_ge (by omega) (by omega))]
      rfl
    rw [step]
    by_cases hok : lcN (cg l[a]) (cg l[b]) ≤ D ∨ lcN (cg l[a]) (cg l[b]) = degN (cg l[a]) + degN (cg l[b])
    · have e : (if lcN (cg l[a]) (cg l[b]) ≤ D then b_zcomplete_42 F gI (nI l.length) mI (nI D) (nF cg) dgs GA (nF bs) k32 m (nI a) (nI (b + 1)) else if lcN (cg l[a]) (cg l[b]) = degN (cg l[a]) + degN (cg l[b]) then b_zcomplete_42 F gI (nI l.length) mI (nI D) (nF cg) dgs GA (nF bs) k32 m (nI a) (nI (b + 1)) else some 0) = b_zcomplete_42 F gI (nI l.length) mI (nI D) (nF cg) dgs GA (nF bs) k32 m (nI a) (nI (b + 1)) := by
        split
        · rfl
        · rw [if_pos (by rcases hok with z | z; exact absurd z (by assumption); exact z)]
      rw [e]
      rcases ih m (b + 1) (by omega) (by omega) with ⟨x1, x2⟩ | ⟨⟨q, x1, x2, x3⟩, x4⟩
      · refine Or.inl ⟨fun q hq hqb => ?_, x2⟩
        by_cases z : q = b
        · rw [z]; exact fun _ _ => hok
        · exact x1 q (by omega) hqb
      · exact Or.inr ⟨⟨q, by omega, x2, x3⟩, x4⟩
    · rw [if_neg (fun z => hok (Or.inl z)), if_neg (fun z => hok (Or.inr z))]
      exact Or.inr ⟨⟨b, Nat.le_refl _, by omega, fun z => hok (z ha hbl)⟩, rfl⟩
theorem p_zc32 (hF : 200 < F) (hD : D ≤ 30) (hA : Arr l bs) (hl : l.length ≤ 126) (hb : ∀ b ∈ l, b < 126 ∧ cg b < 2 ^ 32) :
    ∀ (d m a : Nat), a + d = l.length → d < m → ((∀ c q, a ≤ c → c < l.length → q < c → okP cg D l c q) ∧ b_zcomplete_32 F gI (nI l.length) mI (nI D) (nF cg) dgs GA (nF bs) m (nI a) = some 1) ∨
      ((∃ c q, a ≤ c ∧ c < l.length ∧ q < c ∧ ¬ okP cg D l c q) ∧ b_zcomplete_32 F gI (nI l.length) mI (nI D) (nF cg) dgs GA (nF bs) m (nI a) = some 0) := by
  intro d
  induction d with
  | zero =>
    intro m a ha hm
    obtain ⟨m, rfl⟩ : ∃ q, m = q + 1 := ⟨m - 1, by omega⟩
    refine Or.inl ⟨fun c q _ _ _ => by omega, ?_⟩
    show s_zcomplete_32 F gI (nI l.length) mI (nI D) (nF cg) dgs GA (nF bs) (b_zcomplete_32 F gI (nI l.length) mI (nI D) (nF cg) dgs GA (nF bs) m) (nI a) = _
    unfold s_zcomplete_32
    rw [if_pos (nI_le (by omega) (by omega))]
  | succ d ih =>
    intro m a ha hm
    obtain ⟨m, rfl⟩ : ∃ q, m = q + 1 := ⟨m - 1, by omega⟩
    have step : b_zcomplete_32 F gI (nI l.length) mI (nI D) (nF cg) dgs GA (nF bs) (m + 1) (nI a) = b_zcomplete_42 F gI (nI l.length) mI (nI D) (nF cg) dgs GA (nF bs) (b_zcomplete_32 F gI (nI l.length) mI (nI D) (nF cg) dgs GA (nF bs) m) F (nI a) (nI 0) := by
      show s_zcomplete_32 F gI (nI l.length) mI (nI D) (nF cg) dgs GA (nF bs) (b_zcomplete_32 F gI (nI l.length) mI (nI D) (nF cg) dgs GA (nF bs) m) (nI a) = _
      unfold s_zcomplete_32
      rw [if_neg (nI_ge (by omega) (by omega))]
      rfl
    rw [step]
    rcases p_zc42 (dgs := dgs) (GA := GA) (gI := gI) (mI := mI) (k32 := b_zcomplete_32 F gI (nI l.length) mI (nI D) (nF cg) dgs GA (nF bs) m) hF hD hA hl hb (show a < l.length by omega) a F 0 (by omega) (by omega) with ⟨x1, x2⟩ | ⟨⟨q, x1, x2, x3⟩, x4⟩
    · rw [x2]
      rcases ih m (a + 1) (by omega) (by omega) with ⟨y1, y2⟩ | ⟨⟨c, q, y1, y2, y3, y4⟩, y5⟩
      · refine Or.inl ⟨fun c q hc hcl hq => ?_, y2⟩
        by_cases z : c = a
        · rw [z] at hq ⊢; exact x1 q (by omega) hq
        · exact y1 c q (by omega) hcl hq
      · exact Or.inr ⟨⟨c, q, by omega, y2, y3, y4⟩, y5⟩
    · rw [x4]
      exact Or.inr ⟨⟨a, q, Nat.le_refl _, by omega, x2, x3⟩, rfl⟩
theorem okP_comm {a b : Nat} : okP cg D l a b ↔ okP cg D l b a := by
  constructor <;> intro h ha hb
  · have := h hb ha
    rw [lcN_comm, Nat.add_comm]; exact this
  · have := h hb ha
    rw [lcN_comm, Nat.add_comm]; exact this
theorem p_zc32' (hF : 200 < F) (hD : D ≤ 30) (hA : Arr l bs) (hl : l.length ≤ 126) (hb : ∀ b ∈ l, b < 126 ∧ cg b < 2 ^ 32) :
    (Cpl cg D l ∧ b_zcomplete_32 F gI (nI l.length) mI (nI D) (nF cg) dgs GA (nF bs) F (nI 0) = some 1) ∨ (¬ Cpl cg D l ∧ b_zcomplete_32 F gI (nI l.length) mI (nI D) (nF cg) dgs GA (nF bs) F (nI 0) = some 0) := by
  rcases p_zc32 (dgs := dgs) (GA := GA) (gI := gI) (mI := mI) hF hD hA hl hb l.length F 0 (by omega) (by omega) with ⟨x1, x2⟩ | ⟨⟨c, q, y1, y2, y3, y4⟩, y5⟩
  · exact Or.inl ⟨fun a b ha hb3 hab => okP_comm.mp (x1 b a (by omega) hb3 hab) ha hb3, x2⟩
  · exact Or.inr ⟨fun z => y4 (okP_comm.mp (fun ha hb3 => z q c ha hb3 y3)), y5⟩
end ZCPL
