/-! THE REFERENCE: divides, leading, restOf; the choice of the basis. -/
theorem p_zdivides_l (F : Nat) {a c : Nat} (ha : a < 2 ^ 32) (hc : c < 2 ^ 32) : ∀ (d n v : Nat), v + d = 4 → d < n →
    b_zdivides_2 F n (nI a) (nI c) (nI v) = some (nI (dvN v a c)) := by
  intro d
  induction d with
  | zero =>
    intro n v hv hn
    obtain ⟨m, rfl⟩ : ∃ m, n = m + 1 := ⟨n - 1, by omega⟩
    show s_zdivides_2 F (b_zdivides_2 F m) (nI a) (nI c) (nI v) = _
    unfold s_zdivides_2
    rw [nlit 4, if_pos (nI_le (by omega) (by omega)), dvN_1 (fun u h1 h2 => by omega)]
    rfl
  | succ d ih =>
    intro n v hv hn
    obtain ⟨m, rfl⟩ : ∃ m, n = m + 1 := ⟨n - 1, by omega⟩
    show s_zdivides_2 F (b_zdivides_2 F m) (nI a) (nI c) (nI v) = _
    unfold s_zdivides_2
    have l1 := exN_lt a v
    have l2 := exN_lt c v
    rw [nlit 4, if_neg (nI_ge (by omega) (by omega)), p_zexponent F ha (by omega), bd1_n, p_zexponent F hc (by omega), bd1_n, nlit 1, nI_add]
    by_cases h : exN a v ≤ exN c v
    · rw [if_pos (nI_le h (by omega)), ih m (v + 1) (by omega) (by omega)]
      by_cases q : ∀ u, v + 1 ≤ u → u < 4 → exN a u ≤ exN c u
      · rw [dvN_1 q, dvN_1 (fun u h1 h2 => by
          by_cases hu : u = v
          · rw [hu]; exact h
          · exact q u (by omega) h2)]
      · rw [dvN_0 q, dvN_0 (fun q' => q (fun u h1 h2 => q' u (by omega) h2))]
    · rw [if_neg (nI_ge (by omega) (by omega)), dvN_0 (fun q => h (q v (Nat.le_refl _) (by omega)))]
      rfl
theorem p_zdivides {F : Nat} (hF : 4 < F) {a c : Nat} (ha : a < 2 ^ 32) (hc : c < 2 ^ 32) : m_zdivides F (nI a) (nI c) = some (nI (dvN 0 a c)) := by
  unfold m_zdivides
  rw [nlit]
  exact p_zdivides_l F ha hc 4 F 0 (by omega) hF
theorem p_zleading_l (F : Nat) (hF : 4 < F) {bc c : Nat} (hbc : bc ≤ 126) (hc : c < 2 ^ 32) (cg bs : Nat → Nat) (hcg : ∀ j, j < bc → cg (bs j) < 2 ^ 32) (hbs : ∀ j, j < bc → bs j < 126) : ∀ (d n i : Nat), i + d = bc → d < n →
    ((∃ j, i ≤ j ∧ j < bc ∧ dvN 0 (cg (bs j)) c = 1) ∧ b_zleading_2 F (nI bc) (nF cg) (nF bs) n (nI c) (nI i) = some (nI 1)) ∨ ((∀ j, i ≤ j → j < bc → dvN 0 (cg (bs j)) c ≠ 1) ∧ b_zleading_2 F (nI bc) (nF cg) (nF bs) n (nI c) (nI i) = some (nI 0)) := by
  intro d
  induction d with
  | zero =>
    intro n i hi hn
    obtain ⟨m, rfl⟩ : ∃ m, n = m + 1 := ⟨n - 1, by omega⟩
    refine Or.inr ⟨fun q _ _ => by omega, ?_⟩
    show s_zleading_2 F (nI bc) (nF cg) (nF bs) _ (nI c) (nI i) = _
    unfold s_zleading_2
    rw [if_pos (nI_le (by omega) (by omega))]
    rfl
  | succ d ih =>
    intro n i hi hn
    obtain ⟨m, rfl⟩ : ∃ m, n = m + 1 := ⟨n - 1, by omega⟩
    have hb := hbs i (by omega)
    have step : b_zleading_2 F (nI bc) (nF cg) (nF bs) (m + 1) (nI c) (nI i) = if dvN 0 (cg (bs i)) c = 1 then some (nI 1) else b_zleading_2 F (nI bc) (nF cg) (nF bs) m (nI c) (nI (i + 1)) := by
      show s_zleading_2 F (nI bc) (nF cg) (nF bs) (b_zleading_2 F (nI bc) (nF cg) (nF bs) m) (nI c) (nI i) = _
      unfold s_zleading_2
      rw [if_neg (nI_ge (by omega) (by omega)), rdI_n (by omega) (by decide)]
      show rdI 126 (nF cg) (nI (bs i)) _ = _
      rw [rdI_n hb (by decide)]
      show bd1 (m_zdivides F (nI (cg (bs i))) (nI c)) _ = _
      rw [p_zdivides hF (hcg i (by omega)) hc, bd1_n, show nI i + 1 = nI (i + 1) from nI_add i 1]
      by_cases h : ∀ u, 0 ≤ u → u < 4 → exN (cg (bs i)) u ≤ exN c u
      · rw [dvN_1 h, if_neg (by decide), if_pos rfl]
        rfl
      · rw [dvN_0 h, if_pos (by decide), if_neg (by decide)]
    rw [step]
    by_cases h0 : dvN 0 (cg (bs i)) c = 1
    · rw [if_pos h0]
      exact Or.inl ⟨⟨i, Nat.le_refl _, by omega, h0⟩, rfl⟩
    · rw [if_neg h0]
      rcases ih m (i + 1) (by omega) (by omega) with ⟨⟨j, h1, h2, h3⟩, h5⟩ | ⟨h1, h2⟩
      · exact Or.inl ⟨⟨j, by omega, h2, h3⟩, h5⟩
      · refine Or.inr ⟨fun q hq hql => ?_, h2⟩
        by_cases hqi : q = i
        · rw [hqi]; exact h0
        · exact h1 q (by omega) hql
theorem p_zrestOf_l (F : Nat) {sz c : Nat} (hsz : sz ≤ 40) (hc : c < 2 ^ 32) (cg : Nat → Nat) (hcg : ∀ j, j < sz → cg j < 2 ^ 32) : ∀ (d n i : Nat), i + d = sz → d < n →
    (∃ j, i ≤ j ∧ j < sz ∧ cg j = c ∧ (∀ q, i ≤ q → q < j → cg q ≠ c) ∧ b_zrestOf_2 F (nI sz) (nF cg) n (nI c) (nI i) = some (nI j)) ∨ ((∀ q, i ≤ q → q < sz → cg q ≠ c) ∧ b_zrestOf_2 F (nI sz) (nF cg) n (nI c) (nI i) = some (-1)) := by
  intro d
  induction d with
  | zero =>
    intro n i hi hn
    obtain ⟨m, rfl⟩ : ∃ m, n = m + 1 := ⟨n - 1, by omega⟩
    refine Or.inr ⟨fun q _ _ => by omega, ?_⟩
    show s_zrestOf_2 F (nI sz) (nF cg) _ (nI c) (nI i) = _
    unfold s_zrestOf_2
    rw [if_pos (nI_le (by omega) (by omega))]
  | succ d ih =>
    intro n i hi hn
    obtain ⟨m, rfl⟩ : ∃ m, n = m + 1 := ⟨n - 1, by omega⟩
    have step : b_zrestOf_2 F (nI sz) (nF cg) (m + 1) (nI c) (nI i) = if cg i = c then some (nI i) else b_zrestOf_2 F (nI sz) (nF cg) m (nI c) (nI (i + 1)) := by
      show s_zrestOf_2 F (nI sz) (nF cg) (b_zrestOf_2 F (nI sz) (nF cg) m) (nI c) (nI i) = _
      unfold s_zrestOf_2
      rw [if_neg (nI_ge (by omega) (by omega)), rdI_n (by omega) (by decide), show nI i + 1 = nI (i + 1) from nI_add i 1]
      by_cases h : cg i = c
      · rw [if_pos h, if_pos (by show nI (cg i) = nI c; rw [h])]
      · rw [if_neg h, if_neg (show ¬ nF cg i = nI c from fun q => h (nI_inj32 (hcg i (by omega)) hc q))]
    rw [step]
    by_cases h0 : cg i = c
    · rw [if_pos h0]
      exact Or.inl ⟨i, Nat.le_refl _, by omega, h0, fun q _ _ => by omega, rfl⟩
    · rw [if_neg h0]
      rcases ih m (i + 1) (by omega) (by omega) with ⟨j, h1, h2, h3, h4, h5⟩ | ⟨h1, h2⟩
      · refine Or.inl ⟨j, by omega, h2, h3, fun q hq hqj => ?_, h5⟩
        by_cases hqi : q = i
        · rw [hqi]; exact h0
        · exact h4 q (by omega) hqj
      · refine Or.inr ⟨fun q hq hql => ?_, h2⟩
        by_cases hqi : q = i
        · rw [hqi]; exact h0
        · exact h1 q (by omega) hql
theorem p_placeOf_k (F : Nat) {sz c : Nat} (hsz : sz ≤ 40) (hc : c < 2 ^ 32) (cg : Nat → Nat) (hcg : ∀ j, j < sz → cg j < 2 ^ 32) : ∀ (d n i : Nat), i + d = sz → d < n →
    (∃ j, i ≤ j ∧ j < sz ∧ cg j = c ∧ (∀ q, i ≤ q → q < j → cg q ≠ c) ∧ b_placeOf_2 F (nI sz) (nF cg) n (nI c) (nI i) = some (nI j)) ∨ ((∀ q, i ≤ q → q < sz → cg q ≠ c) ∧ b_placeOf_2 F (nI sz) (nF cg) n (nI c) (nI i) = some (-1)) := by
  intro d
  induction d with
  | zero =>
    intro n i hi hn
    obtain ⟨m, rfl⟩ : ∃ m, n = m + 1 := ⟨n - 1, by omega⟩
    refine Or.inr ⟨fun q _ _ => by omega, ?_⟩
    show s_placeOf_2 F (nI sz) (nF cg) _ (nI c) (nI i) = _
    unfold s_placeOf_2
    rw [if_pos (nI_le (by omega) (by omega))]
  | succ d ih =>
    intro n i hi hn
    obtain ⟨m, rfl⟩ : ∃ m, n = m + 1 := ⟨n - 1, by omega⟩
    have step : b_placeOf_2 F (nI sz) (nF cg) (m + 1) (nI c) (nI i) = if cg i = c then some (nI i) else b_placeOf_2 F (nI sz) (nF cg) m (nI c) (nI (i + 1)) := by
      show s_placeOf_2 F (nI sz) (nF cg) (b_placeOf_2 F (nI sz) (nF cg) m) (nI c) (nI i) = _
      unfold s_placeOf_2
      rw [if_neg (nI_ge (by omega) (by omega)), rdI_n (by omega) (by decide), show nI i + 1 = nI (i + 1) from nI_add i 1]
      by_cases h : cg i = c
      · rw [if_pos h, if_pos (by show nI (cg i) = nI c; rw [h])]
      · rw [if_neg h, if_neg (show ¬ nF cg i = nI c from fun q => h (nI_inj32 (hcg i (by omega)) hc q))]
    rw [step]
    by_cases h0 : cg i = c
    · rw [if_pos h0]
      exact Or.inl ⟨i, Nat.le_refl _, by omega, h0, fun q _ _ => by omega, rfl⟩
    · rw [if_neg h0]
      rcases ih m (i + 1) (by omega) (by omega) with ⟨j, h1, h2, h3, h4, h5⟩ | ⟨h1, h2⟩
      · refine Or.inl ⟨j, by omega, h2, h3, fun q hq hqj => ?_, h5⟩
        by_cases hqi : q = i
        · rw [hqi]; exact h0
        · exact h4 q (by omega) hqj
      · refine Or.inr ⟨fun q hq hql => ?_, h2⟩
        by_cases hqi : q = i
        · rw [hqi]; exact h0
        · exact h1 q (by omega) hql

theorem rkI_first {g : Nat → Nat} {sz c j : Nat} (hinj : ∀ a b, a < sz → b < sz → g a = g b → a = b) (hj : j < sz) (e : g j = c) : rkI g sz c = nI j := by
  unfold rkI
  rcases rkN_cases g c sz with ⟨h1, h2⟩ | ⟨h1, h2⟩
  · rw [if_pos h1, hinj _ _ h1 hj (by rw [h2, e])]
  · exact absurd e (h2 j hj)
theorem rkI_none {g : Nat → Nat} {sz c : Nat} (hs : sz ≤ 126) (h : ∀ q, q < sz → g q ≠ c) : rkI g sz c = -1 := by
  unfold rkI
  rcases rkN_cases g c sz with ⟨h1, h2⟩ | ⟨h1, h2⟩
  · exact absurd h2 (h _ h1)
  · rw [h1, if_neg (by omega)]
theorem p_placeR {F sz c : Nat} (hF : 126 < F) (hsz : sz ≤ 40) (hc : c < 2 ^ 32) {g : Nat → Nat} (hg : ∀ j, j < sz → g j < 2 ^ 32) (hinj : ∀ a b, a < sz → b < sz → g a = g b → a = b) : m_placeOf F (nI sz) (nF g) (nI c) = some (rkI g sz c) := by
  rcases p_placeOf_k F hsz hc g hg sz F 0 (by omega) (by omega) with ⟨j, _, h2, h3, h4, h5⟩ | ⟨h1, h2⟩
  · rw [rkI_first hinj h2 h3]; exact h5
  · rw [rkI_none (by omega) (fun q hq => h1 q (by omega) hq)]; exact h2
theorem p_zrestR {F sz c : Nat} (hF : 126 < F) (hsz : sz ≤ 40) (hc : c < 2 ^ 32) {g : Nat → Nat} (hg : ∀ j, j < sz → g j < 2 ^ 32) (hinj : ∀ a b, a < sz → b < sz → g a = g b → a = b) : m_zrestOf F (nI sz) (nF g) (nI c) = some (rkI g sz c) := by
  rcases p_zrestOf_l F hsz hc g hg sz F 0 (by omega) (by omega) with ⟨j, _, h2, h3, h4, h5⟩ | ⟨h1, h2⟩
  · rw [rkI_first hinj h2 h3]; exact h5
  · rw [rkI_none (by omega) (fun q hq => h1 q (by omega) hq)]; exact h2
theorem p_zleading {F : Nat} (hF : 200 < F) {l : List Nat} {cg bs : Nat → Nat} {c : Nat} (hc : c < 2 ^ 32) (hA : Arr l bs) (hl : l.length ≤ 126) (hb : ∀ b ∈ l, b < 126 ∧ cg b < 2 ^ 32) : m_zleading F (nI l.length) (nF cg) (nF bs) (nI c) = some (nI (hlN cg l c)) := by
  have hb2 : ∀ j, j < l.length → bs j ∈ l := fun j hj => (hA.mem _).mpr ⟨j, hj, rfl⟩
  unfold hlN
  rcases p_zleading_l F (by omega) hl hc cg bs (fun j hj => (hb _ (hb2 j hj)).2) (fun j hj => (hb _ (hb2 j hj)).1) l.length F 0 (by omega) (by omega) with ⟨⟨j, _, h2, h3⟩, e⟩ | ⟨h1, e⟩
  · rw [if_neg (fun q => q _ (hb2 j h2) h3)]; exact e
  · rw [if_pos (fun b hb3 => by
      obtain ⟨q, hq, e2⟩ := (hA.mem b).mp hb3
      rw [← e2]; exact h1 q (by omega) hq)]
    exact e
section ZBASIS
variable {F n : Nat} {cg hs : Nat → Nat}
theorem p_z68 (hF : 200 < F) {l : List Nat} {bs : Nat → Nat} (hA : Arr l bs) (hl : l.length ≤ 126) (hb : ∀ b ∈ l, b < 126 ∧ cg b < 2 ^ 32) {i : Nat} (hi : i < 126) (hci : cg i < 2 ^ 32)
    {gI mI nn oI pI : Int32} {dgs GA : Nat → Int32} {k50} {lf le tc up va wo : Int32} {has row wk rst prd kn ld tl wd vc sy nw nx : Nat → Int32} :
    ∀ (d m q f : Nat), q + d = l.length → d < m → (f = 0 ∨ f = 1) → ∃ f', (f' = 0 ∨ f' = 1) ∧ (f' = 1 ↔ f = 1 ∧ ∀ j, q ≤ j → j < l.length → dvN 0 (cg (bs j)) (cg i) ≠ 1) ∧
      b_zfind_68 F gI mI nn oI pI (nF cg) dgs GA k50 m (nI i) (nI f) (nI q) lf le (nI l.length) tc up va wo has row wk (nF bs) rst prd kn ld tl wd vc sy nw nx = s_zfind_113 F gI mI nn oI pI (nF cg) dgs GA k50 (nI i) (nI f') lf le (nI l.length) tc up va wo has row wk (nF bs) rst prd kn ld tl wd vc sy nw nx := by
  intro d
  induction d with
  | zero =>
    intro m q f hq hm hf
    obtain ⟨m, rfl⟩ : ∃ t, m = t + 1 := ⟨m - 1, by omega⟩
    refine ⟨f, hf, ⟨fun h => ⟨h, fun j h1 h2 => by omega⟩, fun h => h.1⟩, ?_⟩
    show s_zfind_68 F gI mI nn oI pI (nF cg) dgs GA k50 (b_zfind_68 F gI mI nn oI pI (nF cg) dgs GA k50 m) (nI i) (nI f) (nI q) lf le (nI l.length) tc up va wo has row wk (nF bs) rst prd kn ld tl wd vc sy nw nx = _
    unfold s_zfind_68
    rw [if_pos (nI_le (by omega) (by omega))]
  | succ d ih =>
    intro m q f hq hm hf
    obtain ⟨m, rfl⟩ : ∃ t, m = t + 1 := ⟨m - 1, by omega⟩
    have hmem : bs q ∈ l := (hA.mem _).mpr ⟨q, by omega, rfl⟩
    have hb2 := hb _ hmem
    rcases hf with e | e
    · subst e
      refine ⟨0, Or.inl rfl, ⟨fun h => absurd h (by decide), fun h => absurd h.1 (by decide)⟩, ?_⟩
      show s_zfind_68 F gI mI nn oI pI (nF cg) dgs GA k50 (b_zfind_68 F gI mI nn oI pI (nF cg) dgs GA k50 m) (nI i) (nI 0) (nI q) lf le (nI l.length) tc up va wo has row wk (nF bs) rst prd kn ld tl wd vc sy nw nx = _
      unfold s_zfind_68
      rw [if_neg (nI_ge (by omega) (by omega)), if_pos (show nI 0 = 0 from rfl)]
    · subst e
      have step : b_zfind_68 F gI mI nn oI pI (nF cg) dgs GA k50 (m + 1) (nI i) (nI 1) (nI q) lf le (nI l.length) tc up va wo has row wk (nF bs) rst prd kn ld tl wd vc sy nw nx =
          b_zfind_68 F gI mI nn oI pI (nF cg) dgs GA k50 m (nI i) (nI (if dvN 0 (cg (bs q)) (cg i) = 1 then 0 else 1)) (nI (q + 1)) lf le (nI l.length) tc up va wo has row wk (nF bs) rst prd kn ld tl wd vc sy nw nx := by
        show s_zfind_68 F gI mI nn oI pI (nF cg) dgs GA k50 (b_zfind_68 F gI mI nn oI pI (nF cg) dgs GA k50 m) (nI i) (nI 1) (nI q) lf le (nI l.length) tc up va wo has row wk (nF bs) rst prd kn ld tl wd vc sy nw nx = _
        unfold s_zfind_68
        rw [if_neg (nI_ge (by omega) (by omega)), if_neg (show ¬ nI 1 = 0 by decide +kernel), rdI_n (by omega) (by decide)]
        show rdI 126 (nF cg) (nI (bs q)) _ = _
        rw [rdI_n hb2.1 (by decide), rdI_n hi (by decide)]
        show bd1 (m_zdivides F (nI (cg (bs q))) (nI (cg i))) _ = _
        rw [p_zdivides (by omega) hb2.2 hci, bd1_n, show nI q + 1 = nI (q + 1) from nI_add q 1]
        by_cases h : ∀ u, 0 ≤ u → u < 4 → exN (cg (bs q)) u ≤ exN (cg i) u
        · rw [dvN_1 h, if_neg (by decide +kernel), if_pos rfl]; rfl
        · rw [dvN_0 h, if_pos (by decide +kernel), if_neg (by decide)]
      rw [step]
      obtain ⟨f', a1, a2, a3⟩ := ih m (q + 1) (if dvN 0 (cg (bs q)) (cg i) = 1 then 0 else 1) (by omega) (by omega) (by split <;> simp)
      refine ⟨f', a1, ?_, a3⟩
      rw [a2]
      by_cases z : dvN 0 (cg (bs q)) (cg i) = 1
      · rw [if_pos z]
        exact ⟨fun h => absurd h.1 (by decide), fun h => absurd z (h.2 q (Nat.le_refl _) (by omega))⟩
      · rw [if_neg z]
        refine ⟨fun h => ⟨rfl, fun j h1 h2 => ?_⟩, fun h => ⟨rfl, fun j h1 h2 => h.2 j (by omega) h2⟩⟩
        by_cases y : j = q
        · rw [y]; exact z
        · exact h.2 j (by omega) h2
theorem p_z50 (hF : 200 < F) (h126 : n ≤ 126) (hcg : ∀ j, j < n → cg j < 2 ^ 32) (hhs : ∀ j, hs j = 0 ∨ hs j = 1)
    {gI nn oI pI : Int32} {dgs GA : Nat → Int32} {lf le tc up va wo : Int32} {row wk rst prd kn ld tl wd vc sy nw nx : Nat → Int32} :
    ∀ (d m i : Nat) (bs : Nat → Nat), i + d = n → d < m → Arr (bsN cg hs i) bs → ∃ bs', Arr (bsN cg hs n) bs' ∧
      b_zfind_50 F gI (nI n) nn oI pI (nF cg) dgs GA m (nI i) lf le (nI (bsN cg hs i).length) tc up va wo (nF hs) row wk (nF bs) rst prd kn ld tl wd vc sy nw nx = b_zfind_50 F gI (nI n) nn oI pI (nF cg) dgs GA 1 (nI n) lf le (nI (bsN cg hs n).length) tc up va wo (nF hs) row wk (nF bs') rst prd kn ld tl wd vc sy nw nx := by
  intro d
  induction d with
  | zero =>
    intro m i bs hi hm hA
    obtain ⟨m, rfl⟩ : ∃ t, m = t + 1 := ⟨m - 1, by omega⟩
    have e : i = n := by omega
    subst e
    refine ⟨bs, hA, ?_⟩
    show s_zfind_50 F gI (nI i) nn oI pI (nF cg) dgs GA (b_zfind_50 F gI (nI i) nn oI pI (nF cg) dgs GA m) (nI i) lf le (nI (bsN cg hs i).length) tc up va wo (nF hs) row wk (nF bs) rst prd kn ld tl wd vc sy nw nx =
      s_zfind_50 F gI (nI i) nn oI pI (nF cg) dgs GA (b_zfind_50 F gI (nI i) nn oI pI (nF cg) dgs GA 0) (nI i) lf le (nI (bsN cg hs i).length) tc up va wo (nF hs) row wk (nF bs) rst prd kn ld tl wd vc sy nw nx
    unfold s_zfind_50
    rw [if_pos (nI_le (by omega) (by omega)), if_pos (nI_le (by omega) (by omega))]
  | succ d ih =>
    intro m i bs hi hm hA
    obtain ⟨m, rfl⟩ : ∃ t, m = t + 1 := ⟨m - 1, by omega⟩
    have hlen := bsN_len cg hs i
    have hmem := bsN_mem cg hs i
    obtain ⟨f', a1, a2, a3⟩ := p_z68 (F := F) (cg := cg) hF hA (by omega) (fun b hb => by have := (hmem b hb).1; exact ⟨by omega, hcg b (by omega)⟩) (show i < 126 by omega) (hcg i (by omega))
      (gI := gI) (mI := nI n) (nn := nn) (oI := oI) (pI := pI) (dgs := dgs) (GA := GA) (k50 := b_zfind_50 F gI (nI n) nn oI pI (nF cg) dgs GA m) (lf := lf) (le := le) (tc := tc) (up := up) (va := va) (wo := wo) (has := nF hs) (row := row) (wk := wk) (rst := rst) (prd := prd) (kn := kn) (ld := ld) (tl := tl) (wd := wd) (vc := vc) (sy := sy) (nw := nw) (nx := nx) (bsN cg hs i).length F 0 (hs i) (by omega) (by omega) (hhs i)
    have hcond : f' = 1 ↔ (hs i = 1 ∧ ∀ b ∈ bsN cg hs i, dvN 0 (cg b) (cg i) ≠ 1) := by
      rw [a2]
      refine ⟨fun h => ⟨h.1, fun b hb => ?_⟩, fun h => ⟨h.1, fun j _ hj => h.2 _ ((hA.mem _).mpr ⟨j, hj, rfl⟩)⟩⟩
      obtain ⟨q, hq, e⟩ := (hA.mem b).mp hb
      rw [← e]; exact h.2 q (Nat.zero_le _) hq
    have step : b_zfind_50 F gI (nI n) nn oI pI (nF cg) dgs GA (m + 1) (nI i) lf le (nI (bsN cg hs i).length) tc up va wo (nF hs) row wk (nF bs) rst prd kn ld tl wd vc sy nw nx = s_zfind_113 F gI (nI n) nn oI pI (nF cg) dgs GA (b_zfind_50 F gI (nI n) nn oI pI (nF cg) dgs GA m) (nI i) (nI f') lf le (nI (bsN cg hs i).length) tc up va wo (nF hs) row wk (nF bs) rst prd kn ld tl wd vc sy nw nx := by
      rw [← a3]
      show s_zfind_50 F gI (nI n) nn oI pI (nF cg) dgs GA (b_zfind_50 F gI (nI n) nn oI pI (nF cg) dgs GA m) (nI i) lf le (nI (bsN cg hs i).length) tc up va wo (nF hs) row wk (nF bs) rst prd kn ld tl wd vc sy nw nx = _
      unfold s_zfind_50
      rw [if_neg (nI_ge (by omega) (by omega)), rdI_n (by omega) (by decide)]
      rfl
    rw [step]
    unfold s_zfind_113
    rcases a1 with e | e
    · have eb : bsN cg hs (i + 1) = bsN cg hs i := by
        show (if _ then _ else _) = _
        rw [if_neg (fun z => by have := hcond.mpr z; omega)]
      rw [e, if_pos (show nI 0 = 0 from rfl), show nI i + 1 = nI (i + 1) from nI_add i 1, ← eb]
      exact ih m (i + 1) bs (by omega) (by omega) (by rw [eb]; exact hA)
    · have eb : bsN cg hs (i + 1) = bsN cg hs i ++ [i] := by
        show (if _ then _ else _) = _
        rw [if_pos (hcond.mp e)]
      have elen : (bsN cg hs (i + 1)).length = (bsN cg hs i).length + 1 := by rw [eb, List.length_append]; rfl
      rw [e, if_neg (show ¬ nI 1 = 0 by decide +kernel), wrI_n (by omega) (by decide), upd_nF, show nI i + 1 = nI (i + 1) from nI_add i 1, show nI (bsN cg hs i).length + 1 = nI ((bsN cg hs i).length + 1) from nI_add _ 1, ← elen]
      exact ih m (i + 1) _ (by omega) (by omega) (by rw [eb]; exact hA.push i)
end ZBASIS
