/-! THE CLASS'S PRODUCTS: the pairs by their keys, and multiply. -/
theorem p_insertPair_e (F : Nat) {code key a cnt : Nat} (ha : a < 160) (cg kg : Nat → Nat) : s_insertPair_74 F (nI code) (lN key) (nI a) (nI cnt) (nF (movF cg a cnt)) (lF (movF kg a cnt)) = some (nI (cnt + 1), nF (insF cg a cnt code), lF (insF kg a cnt key)) := by
  unfold s_insertPair_74
  rw [wrL_n ha (by decide), wrI_n ha (by decide), nlit, nI_add, upd_nF, upd_lF, movF_end, movF_end]
theorem p_insertPair_in (F : Nat) {cnt : Nat} (hcnt : cnt < 160) (c : Int32) (k : Int64) (pg : Nat → Int32) (kg : Nat → Int64) : m_insertPair F c k (nI cnt) pg kg = b_insertPair_17 F F c k (nI cnt) (nI cnt) pg kg := by
  unfold m_insertPair
  rw [if_pos (show nI cnt < 160 from nI_lt (show cnt < 160 from hcnt) (by decide))]
theorem p_insertPair_l (F : Nat) {code key cnt : Nat} (hcnt : cnt < 160) (hkey : key < 2 ^ 63) (cg kg : Nat → Nat) (hkg : ∀ j, kg j < 2 ^ 63) : ∀ (a n : Nat), a ≤ cnt → a < n →
    ∃ at_, at_ ≤ a ∧ (at_ = 0 ∨ kg (at_ - 1) ≤ key) ∧ (∀ j, at_ ≤ j → j < a → key < kg j) ∧
      b_insertPair_17 F n (nI code) (lN key) (nI a) (nI cnt) (nF (movF cg a cnt)) (lF (movF kg a cnt)) = some (nI (cnt + 1), nF (insF cg at_ cnt code), lF (insF kg at_ cnt key)) := by
  intro a
  induction a with
  | zero =>
    intro n ha hn
    obtain ⟨m, rfl⟩ : ∃ m, n = m + 1 := ⟨n - 1, by omega⟩
    refine ⟨0, Nat.le_refl _, Or.inl rfl, fun j _ _ => by omega, ?_⟩
    show s_insertPair_17 F (b_insertPair_17 F m) (nI code) (lN key) (nI 0) (nI cnt) _ _ = _
    unfold s_insertPair_17
    rw [if_pos (by decide +kernel)]
    exact p_insertPair_e F (by decide) cg kg
  | succ a ih =>
    intro n ha hn
    obtain ⟨m, rfl⟩ : ∃ m, n = m + 1 := ⟨n - 1, by omega⟩
    have e1 : movF kg (a + 1) cnt a = kg a := by unfold movF; rw [if_pos (by omega)]
    have step : b_insertPair_17 F (m + 1) (nI code) (lN key) (nI (a + 1)) (nI cnt) (nF (movF cg (a + 1) cnt)) (lF (movF kg (a + 1) cnt)) =
        if kg a ≤ key then some (nI (cnt + 1), nF (insF cg (a + 1) cnt code), lF (insF kg (a + 1) cnt key)) else b_insertPair_17 F m (nI code) (lN key) (nI a) (nI cnt) (nF (movF cg a cnt)) (lF (movF kg a cnt)) := by
      show s_insertPair_17 F (b_insertPair_17 F m) (nI code) (lN key) (nI (a + 1)) (nI cnt) _ _ = _
      unfold s_insertPair_17
      rw [if_neg (nI_nle (by omega) (by omega)), p_insertPair_e F (by omega) cg kg, nlit 1, pk_sub (by omega), Nat.add_sub_cancel, rdL_n (by omega) (by decide)]
      by_cases h : kg a ≤ key
      · rw [if_pos h, if_pos (by
          show lg_cmp (lN (movF kg (a + 1) cnt a)) (lN key) ≤ 0
          rw [e1, cmp_le (hkg _) hkey]; exact h)]
      · rw [if_neg h, if_neg (by
          show ¬ lg_cmp (lN (movF kg (a + 1) cnt a)) (lN key) ≤ 0
          rw [e1, cmp_le (hkg _) hkey]; exact h), rdL_n (by omega) (by decide), wrL_n (by omega) (by decide), rdI_n (by omega) (by decide), wrI_n (by omega) (by decide), show nI (a + 1) + -nI 1 = nI a from pk_m1 a]
        show b_insertPair_17 F m (nI code) (lN key) (nI a) (nI cnt) (upd (nF (movF cg (a + 1) cnt)) (a + 1) (nI (movF cg (a + 1) cnt a))) (vp_updL (lF (movF kg (a + 1) cnt)) (a + 1) (lN (movF kg (a + 1) cnt a))) = _
        rw [upd_nF, upd_lF]
        have s1 := movF_step cg (a := a + 1) (cnt := cnt) (by omega) ha
        have s2 := movF_step kg (a := a + 1) (cnt := cnt) (by omega) ha
        rw [Nat.add_sub_cancel] at s1 s2
        rw [s1, s2]
    rw [step]
    by_cases h : kg a ≤ key
    · rw [if_pos h]
      exact ⟨a + 1, Nat.le_refl _, Or.inr (by rw [Nat.add_sub_cancel]; exact h), fun j _ _ => by omega, rfl⟩
    · rw [if_neg h]
      obtain ⟨at_, h1, h2, h3, h4⟩ := ih m (by omega) (by omega)
      refine ⟨at_, by omega, h2, fun j hj hja => ?_, h4⟩
      by_cases hjq : j = a
      · rw [hjq]; omega
      · exact h3 j hj (by omega)

section MULT
variable {F p n ord sz : Nat} {cg g bs : Nat → Nat} {l : List Nat} {rb : Nat → Nat → Nat}
theorem PrR.step (h : Rm p n ord cg l sz g rb) {T T' : Nat → Nat} {Kn : Nat → Nat → Prop} (hKn : ∀ v k, v < n → k < sz → Kn v k → PrR p n sz cg g l rb T v k ∧ PrB p ord sz g T v k)
    (hdown : ∀ v k v' k', v < n → k < sz → Kn v k → v' < n → k' < sz → pK ord g v' k' < pK ord g v k → Kn v' k') {v k : Nat} (hv : v < n) (hk : k < sz) (hle : ∀ v' k', v' < n → k' < sz → Kn v' k' → pK ord g v' k' ≤ pK ord g v k)
    (hout : ∀ x, ¬ (1600 * v + 40 * k ≤ x ∧ x < 1600 * v + 40 * k + 40) → T' x = T x) (hnew : PrR p n sz cg g l rb T' v k ∧ PrB p ord sz g T' v k) :
    ∀ v' k', v' < n → k' < sz → (Kn v' k' ∨ (v' = v ∧ k' = k)) → PrR p n sz cg g l rb T' v' k' ∧ PrB p ord sz g T' v' k' := by
  have hsz := h.sz40
  have hsame : ∀ v' k', v' < n → k' < sz → ¬ (v' = v ∧ k' = k) → ∀ j, j < sz → tP T' v' k' j = tP T v' k' j := by
    intro v' k' h1 h2 h3 j hj
    unfold tP
    refine hout _ (fun q => h3 ?_)
    omega
  intro v' k' h1 h2 h3
  by_cases e : v' = v ∧ k' = k
  · rw [e.1, e.2]; exact hnew
  · have hK := h3.resolve_right e
    obtain ⟨a, b⟩ := hKn v' k' h1 h2 hK
    have hs := hsame v' k' h1 h2 e
    refine ⟨?_, fun j hj => by rw [hs j hj]; exact b j hj⟩
    rcases a with ⟨j, j1, j2, j3⟩ | ⟨j1, c, c1, c2, c3⟩ | ⟨j1, j2, u, k'', c1, c2, c3, c4⟩
    · exact Or.inl ⟨j, j1, j2, fun i hi => by rw [hs i hi]; exact j3 i hi⟩
    · exact Or.inr (Or.inl ⟨j1, c, c1, c2, fun i hi => by rw [hs i hi]; exact c3 i hi⟩)
    · refine Or.inr (Or.inr ⟨j1, j2, u, k'', c1, c2, c3, fun i hi => ?_⟩)
      obtain ⟨l1, l2⟩ := h.lesser h1 h2 c1 c2 c3
      have hle2 := hle v' k' h1 h2 hK
      have hK2 := hdown v' k' v' k'' h1 h2 hK h1 c2 l1
      have hB2 := (hKn v' k'' h1 c2 hK2).2
      rw [hs i hi, c4 i hi]
      refine congrArg (· % p) (sm_congr fun j hj => ?_)
      have e1 := hsame v' k'' h1 c2 (fun ⟨z1, z2⟩ => by subst z1; subst z2; omega) j hj
      rw [e1]
      by_cases z : tP T v' k'' j = 0
      · rw [z, Nat.zero_mul, Nat.zero_mul]
      · have l3 := l2 j hj ((hB2 j hj).2 z)
        rw [hsame u j c1.1 hj (fun ⟨z1, z2⟩ => by subst z1; subst z2; omega) i hi]
/-- the pairs, by their keys -/
def PS (n ord sz : Nat) (g : Nat → Nat) (In : Nat → Nat → Prop) (pc : Nat) (pg kg : Nat → Nat) : Prop :=
  (∀ i j, i < j → j < pc → kg i ≤ kg j) ∧ (∀ i, i < pc → ∃ v k, v < n ∧ k < sz ∧ pg i = v * 40 + k ∧ kg i = pK ord g v k) ∧ (∀ v k, v < n → k < sz → In v k → ∃ i, i < pc ∧ pg i = v * 40 + k) ∧ ∀ j, kg j < 2 ^ 63
theorem insF_lo {f : Nat → Nat} {a c x j : Nat} (h : j < a) : insF f a c x j = f j := if_pos h
theorem insF_at {f : Nat → Nat} {a c x : Nat} : insF f a c x a = x := by unfold insF; rw [if_neg (by omega), if_pos rfl]
theorem insF_hi {f : Nat → Nat} {a c x j : Nat} (h : a ≤ j) (hj : j < c) : insF f a c x (j + 1) = f j := by unfold insF; rw [if_neg (by omega), if_neg (by omega), if_pos (by omega), Nat.add_sub_cancel]
theorem PS.ins {In : Nat → Nat → Prop} {pc v k at_ : Nat} {pg kg : Nat → Nat} (h : PS n ord sz g In pc pg kg) (hv : v < n) (hk : k < sz) (ha : at_ ≤ pc) (h1 : at_ = 0 ∨ kg (at_ - 1) ≤ pK ord g v k) (h2 : ∀ j, at_ ≤ j → j < pc → pK ord g v k < kg j) :
    PS n ord sz g (fun v' k' => In v' k' ∨ (v' = v ∧ k' = k)) (pc + 1) (insF pg at_ pc (v * 40 + k)) (insF kg at_ pc (pK ord g v k)) := by
  obtain ⟨s1, s2, s3, s4⟩ := h
  have hcase : ∀ j, j < pc + 1 → (j < at_ ∧ insF pg at_ pc (v * 40 + k) j = pg j ∧ insF kg at_ pc (pK ord g v k) j = kg j) ∨ (j = at_ ∧ insF pg at_ pc (v * 40 + k) j = v * 40 + k ∧ insF kg at_ pc (pK ord g v k) j = pK ord g v k) ∨ (∃ i, j = i + 1 ∧ at_ ≤ i ∧ i < pc ∧ insF pg at_ pc (v * 40 + k) j = pg i ∧ insF kg at_ pc (pK ord g v k) j = kg i) := by
    intro j hj
    rcases Nat.lt_trichotomy j at_ with q | q | q
    · exact Or.inl ⟨q, insF_lo q, insF_lo q⟩
    · subst q; exact Or.inr (Or.inl ⟨rfl, insF_at, insF_at⟩)
    · obtain ⟨i, rfl⟩ : ∃ i, j = i + 1 := ⟨j - 1, by omega⟩
      exact Or.inr (Or.inr ⟨i, rfl, by omega, by omega, insF_hi (by omega) (by omega), insF_hi (by omega) (by omega)⟩)
  have hlow : ∀ j, j < at_ → kg j ≤ pK ord g v k := by
    intro j hj
    rcases h1 with q | q
    · omega
    · by_cases z : j = at_ - 1
      · rw [z]; exact q
      · have := s1 j (at_ - 1) (by omega) (by omega); omega
  refine ⟨fun i j hij hj => ?_, fun i hi => ?_, fun v' k' a b c => ?_, fun j => ?_⟩
  · rcases hcase i (by omega) with ⟨a1, _, a3⟩ | ⟨a1, _, a3⟩ | ⟨i', a1, a2, a3, _, a5⟩ <;> rcases hcase j hj with ⟨b1, _, b3⟩ | ⟨b1, _, b3⟩ | ⟨j', b1, b2, b3, _, b5⟩
    · rw [a3, b3]; exact s1 i j hij (by omega)
    · rw [a3, b3]; exact hlow i a1
    · rw [a3, b5]; have := hlow i a1; have := h2 j' b2 b3; omega
    · omega
    · omega
    · rw [a3, b5]; have := h2 j' b2 b3; omega
    · omega
    · omega
    · rw [a5, b5]; exact s1 i' j' (by omega) b3
  · rcases hcase i hi with ⟨a1, a2, a3⟩ | ⟨a1, a2, a3⟩ | ⟨i', a1, a2, a3, a4, a5⟩
    · rw [a2, a3]; exact s2 i (by omega)
    · rw [a2, a3]; exact ⟨v, k, hv, hk, rfl, rfl⟩
    · rw [a4, a5]; exact s2 i' a3
  · rcases c with c | c
    · obtain ⟨i, i1, i2⟩ := s3 v' k' a b c
      rcases Nat.lt_or_ge i at_ with q | q
      · exact ⟨i, by omega, by rw [insF_lo q]; exact i2⟩
      · exact ⟨i + 1, by omega, by rw [insF_hi q i1]; exact i2⟩
    · exact ⟨at_, by omega, by rw [insF_at, c.1, c.2]⟩
  · unfold insF
    split
    · exact s4 j
    · split
      · have := keyN_lt ord (g k + 2 ^ (24 - 8 * v)); unfold pK; omega
      · split
        · exact s4 _
        · exact s4 _
theorem p_sp17 (hF : 200 < F) (h : Rm p n ord cg l sz g rb) {k7} {v : Nat} (hv : v < n) : ∀ (d m k : Nat) (pg kg : Nat → Nat), k + d = sz → d < m → PS n ord sz g (fun v' k' => v' < v ∨ (v' = v ∧ k' < k)) (v * sz + k) pg kg →
    ∃ pg' kg', PS n ord sz g (fun v' _ => v' < v + 1) (v * sz + sz) pg' kg' ∧ b_sortPairs_17 F (nI sz) (nI n) (nF g) k7 m (nI ord) (nI v) (nI k) (nI (v * sz + k)) (nF pg) (lF kg) = k7 (nI ord) (nI (v + 1)) (nI (v * sz + sz)) (nF pg') (lF kg') := by
  have hn4 := h.n4
  have hsz := h.sz40
  have hv4 : v < 4 := by omega
  intro d
  induction d with
  | zero =>
    intro m k pg kg hk hm hS
    obtain ⟨m, rfl⟩ : ∃ q, m = q + 1 := ⟨m - 1, by omega⟩
    have e : k = sz := by omega
    subst e
    refine ⟨pg, kg, ⟨hS.1, hS.2.1, fun v' k' a b c => hS.2.2.1 v' k' a b (by omega), hS.2.2.2⟩, ?_⟩
    show s_sortPairs_17 F (nI k) (nI n) (nF g) k7 (b_sortPairs_17 F (nI k) (nI n) (nF g) k7 m) (nI ord) (nI v) (nI k) (nI (v * k + k)) (nF pg) (lF kg) = _
    unfold s_sortPairs_17
    rw [if_pos (nI_le (by omega) (by omega)), show nI v + 1 = nI (v + 1) from nI_add v 1]
  | succ d ih =>
    intro m k pg kg hk hm hS
    obtain ⟨m, rfl⟩ : ∃ q, m = q + 1 := ⟨m - 1, by omega⟩
    have hks : k < sz := by omega
    have hpc : v * sz + k < 160 := by
      have : v * sz ≤ 3 * 40 := Nat.mul_le_mul (by omega) hsz
      omega
    have hkey : pK ord g v k < 2 ^ 63 := by have := keyN_lt ord (g k + 2 ^ (24 - 8 * v)); unfold pK; omega
    obtain ⟨at_, a1, a2, a3, a4⟩ := p_insertPair_l F (code := v * 40 + k) hpc hkey pg kg hS.2.2.2 (v * sz + k) F (Nat.le_refl _) (by omega)
    rw [movF_top, movF_top] at a4
    have hS2 := hS.ins hv hks a1 a2 a3
    have step : b_sortPairs_17 F (nI sz) (nI n) (nF g) k7 (m + 1) (nI ord) (nI v) (nI k) (nI (v * sz + k)) (nF pg) (lF kg) = b_sortPairs_17 F (nI sz) (nI n) (nF g) k7 m (nI ord) (nI v) (nI (k + 1)) (nI (v * sz + (k + 1))) (nF (insF pg at_ (v * sz + k) (v * 40 + k))) (lF (insF kg at_ (v * sz + k) (pK ord g v k))) := by
      show s_sortPairs_17 F (nI sz) (nI n) (nF g) k7 (b_sortPairs_17 F (nI sz) (nI n) (nF g) k7 m) (nI ord) (nI v) (nI k) (nI (v * sz + k)) (nF pg) (lF kg) = _
      unfold s_sortPairs_17
      rw [if_neg (nI_ge (by omega) (by omega)), rdI_n (by omega) (by decide), p_variable F hv4, bd1_n]
      show bd1 (m_key F (nI (g k) + nI (2 ^ (24 - 8 * v))) (nI ord)) _ = _
      rw [nI_add, p_key (by omega) (h.up_lt hks hv4) h.o2, bd1_n, show nI v * 40 = nI (v * 40) from pk_mul v 40, nI_add, show m_insertPair F (nI (v * 40 + k)) (lN (keyN ord (g k + 2 ^ (24 - 8 * v)))) (nI (v * sz + k)) (nF pg) (lF kg) = _ from (p_insertPair_in F hpc _ _ _ _).trans a4, bd3_n, show nI k + 1 = nI (k + 1) from nI_add k 1]
      rfl
    rw [step]
    exact ih m (k + 1) _ _ (by omega) (by omega) ⟨hS2.1, hS2.2.1, fun v' k' a b c => hS2.2.2.1 v' k' a b (by omega), hS2.2.2.2⟩
theorem p_sortPairs (hF : 200 < F) (h : Rm p n ord cg l sz g rb) {pc0 : Int32} {pg kg : Nat → Nat} (hkg : ∀ j, kg j < 2 ^ 63) :
    ∃ pg' kg', PS n ord sz g (fun _ _ => True) (n * sz) pg' kg' ∧ m_sortPairs F (nI sz) (nI n) (nF g) (nI ord) pc0 (nF pg) (lF kg) = some (nI (n * sz), nF pg', lF kg') := by
  have hn4 := h.n4
  have hsz := h.sz40
  have key : ∀ (d m v : Nat) (pg kg : Nat → Nat), v + d = n → d < m → PS n ord sz g (fun v' _ => v' < v) (v * sz) pg kg → ∃ pg' kg', PS n ord sz g (fun _ _ => True) (n * sz) pg' kg' ∧ b_sortPairs_7 F (nI sz) (nI n) (nF g) m (nI ord) (nI v) (nI (v * sz)) (nF pg) (lF kg) = some (nI (n * sz), nF pg', lF kg') := by
    intro d
    induction d with
    | zero =>
      intro m v pg kg hv hm hS
      obtain ⟨m, rfl⟩ : ∃ q, m = q + 1 := ⟨m - 1, by omega⟩
      have e : v = n := by omega
      subst e
      refine ⟨pg, kg, ⟨hS.1, hS.2.1, fun v' k' a b c => hS.2.2.1 v' k' a b a, hS.2.2.2⟩, ?_⟩
      show s_sortPairs_7 F (nI sz) (nI v) (nF g) (b_sortPairs_7 F (nI sz) (nI v) (nF g) m) (nI ord) (nI v) (nI (v * sz)) (nF pg) (lF kg) = _
      unfold s_sortPairs_7
      rw [if_pos (nI_le (by omega) (by omega))]
    | succ d ih =>
      intro m v pg kg hv hm hS
      obtain ⟨m, rfl⟩ : ∃ q, m = q + 1 := ⟨m - 1, by omega⟩
      obtain ⟨pg1, kg1, a1, a2⟩ := p_sp17 (F := F) (k7 := b_sortPairs_7 F (nI sz) (nI n) (nF g) m) hF h (show v < n by omega) sz F 0 pg kg (by omega) (by omega) ⟨hS.1, hS.2.1, fun v' k' a b c => hS.2.2.1 v' k' a b (by omega), hS.2.2.2⟩
      have step : b_sortPairs_7 F (nI sz) (nI n) (nF g) (m + 1) (nI ord) (nI v) (nI (v * sz)) (nF pg) (lF kg) = b_sortPairs_7 F (nI sz) (nI n) (nF g) m (nI ord) (nI (v + 1)) (nI ((v + 1) * sz)) (nF pg1) (lF kg1) := by
        rw [show (v + 1) * sz = v * sz + sz from Nat.succ_mul v sz, ← a2]
        show s_sortPairs_7 F (nI sz) (nI n) (nF g) (b_sortPairs_7 F (nI sz) (nI n) (nF g) m) (nI ord) (nI v) (nI (v * sz)) (nF pg) (lF kg) = _
        unfold s_sortPairs_7
        rw [if_neg (nI_ge (by omega) (by omega))]
        rfl
      rw [step]
      exact ih m (v + 1) pg1 kg1 (by omega) (by omega) (by rw [show (v + 1) * sz = v * sz + sz from Nat.succ_mul v sz]; exact a1)
  have := key n F 0 pg kg (by omega) (by omega) ⟨fun i j _ hj => by omega, fun i hi => by omega, fun v' k' _ _ c => by omega, hkg⟩
  rw [Nat.zero_mul] at this
  exact this
theorem p_multiply {R : Nat → Nat} (hF : 40000 < F) (h : Rm p n ord cg l sz g (rowF R)) (hA : Arr l bs) (hl : l.length ≤ 126) {pc0 : Int32} {T pg kg : Nat → Nat} (hkg : ∀ j, kg j < 2 ^ 63) :
    ∃ pc' T' pg' kg', m_multiply F (nI ord) (nI l.length) (nI p) (nI sz) (nI n) (nF cg) (nF R) (nF bs) (nF g) pc0 (nF T) (nF pg) (lF kg) = some (pc', nF T', nF pg', lF kg') ∧ (∀ j, kg' j < 2 ^ 63) ∧ ∀ v k, v < n → k < sz → PrR p n sz cg g l (rowF R) T' v k ∧ PrB p ord sz g T' v k := by
  have hn4 := h.n4
  have hsz := h.sz40
  have hns : n * sz ≤ 160 := Nat.mul_le_mul hn4 hsz
  obtain ⟨pg', kg', hS, e⟩ := p_sortPairs (F := F) (pc0 := pc0) (pg := pg) (by omega) h hkg
  have key : ∀ (d m i : Nat) (T : Nat → Nat), i + d = n * sz → d < m → (∀ v k, v < n → k < sz → (∃ j, j < i ∧ pg' j = v * 40 + k) → PrR p n sz cg g l (rowF R) T v k ∧ PrB p ord sz g T v k) →
      ∃ T', b_multiply_13 F (nI ord) (nI l.length) (nI p) (nI sz) (nI n) (nF cg) (nF R) (nF bs) (nF g) m (nI i) (nI (n * sz)) (nF T) (nF pg') (lF kg') = some (nI (n * sz), nF T', nF pg', lF kg') ∧ ∀ v k, v < n → k < sz → PrR p n sz cg g l (rowF R) T' v k ∧ PrB p ord sz g T' v k := by
    intro d
    induction d with
    | zero =>
      intro m i T hi hm hI
      obtain ⟨m, rfl⟩ : ∃ q, m = q + 1 := ⟨m - 1, by omega⟩
      refine ⟨T, ?_, fun v k hv hk => hI v k hv hk (by
        obtain ⟨j, j1, j2⟩ := hS.2.2.1 v k hv hk trivial
        exact ⟨j, by omega, j2⟩)⟩
      show s_multiply_13 F (nI ord) (nI l.length) (nI p) (nI sz) (nI n) (nF cg) (nF R) (nF bs) (nF g) (b_multiply_13 F (nI ord) (nI l.length) (nI p) (nI sz) (nI n) (nF cg) (nF R) (nF bs) (nF g) m) (nI i) (nI (n * sz)) (nF T) (nF pg') (lF kg') = _
      unfold s_multiply_13
      rw [if_pos (nI_le (by omega) (by omega))]
    | succ d ih =>
      intro m i T hi hm hI
      obtain ⟨m, rfl⟩ : ∃ q, m = q + 1 := ⟨m - 1, by omega⟩
      obtain ⟨v, k, hv, hk, e1, e2⟩ := hS.2.1 i (by omega)
      have hpos : ∀ v' k', v' < n → k' < sz → pK ord g v' k' < pK ord g v k → ∃ j, j < i ∧ pg' j = v' * 40 + k' := by
        intro v' k' h1 h2 h3
        obtain ⟨j, j1, j2⟩ := hS.2.2.1 v' k' h1 h2 trivial
        refine ⟨j, ?_, j2⟩
        obtain ⟨v2, k2, b1, b2, b3, b4⟩ := hS.2.1 j j1
        have q1 : v2 = v' := by omega
        have q2 : k2 = k' := by omega
        rw [q1, q2] at b4
        rcases Nat.lt_trichotomy j i with y | y | y
        · exact y
        · rw [y] at b4; omega
        · have := hS.1 i j y j1; omega
      obtain ⟨T1, a1, a2, a3, a4⟩ := p_fillProduct (F := F) (T := T) hF h hA hl hv hk (fun v' k' h1 h2 h3 => (hI v' k' h1 h2 (hpos v' k' h1 h2 h3)).2)
      have hI2 := PrR.step h (Kn := fun v k => ∃ j, j < i ∧ pg' j = v * 40 + k) hI (fun v1 k1 v' k' h1 h2 ⟨j, j1, j2⟩ h3 h4 h5 => by
        obtain ⟨j', j1', j2'⟩ := hS.2.2.1 v' k' h3 h4 trivial
        refine ⟨j', ?_, j2'⟩
        obtain ⟨v2, k2, b1, b2, b3, b4⟩ := hS.2.1 j (by omega)
        have q1 : v2 = v1 := by omega
        have q2 : k2 = k1 := by omega
        rw [q1, q2] at b4
        obtain ⟨v3, k3, c1, c2, c3, c4⟩ := hS.2.1 j' j1'
        have q3 : v3 = v' := by omega
        have q4 : k3 = k' := by omega
        rw [q3, q4] at c4
        rcases Nat.lt_or_ge j' i with y | y
        · exact y
        · have := hS.1 j j' (by omega) j1'; omega) hv hk (fun v1 k1 h1 h2 ⟨j, j1, j2⟩ => by
        obtain ⟨v2, k2, b1, b2, b3, b4⟩ := hS.2.1 j (by omega)
        have q1 : v2 = v1 := by omega
        have q2 : k2 = k1 := by omega
        rw [q1, q2] at b4
        have := hS.1 j i j1 (by omega)
        omega) a2 ⟨a3, a4⟩
      have step : b_multiply_13 F (nI ord) (nI l.length) (nI p) (nI sz) (nI n) (nF cg) (nF R) (nF bs) (nF g) (m + 1) (nI i) (nI (n * sz)) (nF T) (nF pg') (lF kg') = b_multiply_13 F (nI ord) (nI l.length) (nI p) (nI sz) (nI n) (nF cg) (nF R) (nF bs) (nF g) m (nI (i + 1)) (nI (n * sz)) (nF T1) (nF pg') (lF kg') := by
        show s_multiply_13 F (nI ord) (nI l.length) (nI p) (nI sz) (nI n) (nF cg) (nF R) (nF bs) (nF g) (b_multiply_13 F (nI ord) (nI l.length) (nI p) (nI sz) (nI n) (nF cg) (nF R) (nF bs) (nF g) m) (nI i) (nI (n * sz)) (nF T) (nF pg') (lF kg') = _
        unfold s_multiply_13
        rw [if_neg (nI_ge (by omega) (by omega)), rdI_n (by omega) (by decide), show (40 : Int32) = nI 40 from rfl, nzI_n (by decide) (by decide), rdI_n (by omega) (by decide), nzI_n (by decide) (by decide)]
        show bd1 (m_fillProduct F (nI l.length) (nI p) (nI sz) (nI n) (nF cg) (nF R) (nF bs) (nF g) (nI (pg' i) / nI 40) (remI (nI (pg' i)) (nI 40)) (nF T)) _ = _
        rw [pk_div (by omega) (by decide) (by decide), remI_n (by omega) (by decide) (by decide), show pg' i / 40 = v by omega, show pg' i % 40 = k by omega, a1, bd1_n, show nI i + 1 = nI (i + 1) from nI_add i 1]
      rw [step]
      refine ih m (i + 1) T1 (by omega) (by omega) (fun v' k' h1 h2 ⟨j, j1, j2⟩ => hI2 v' k' h1 h2 ?_)
      by_cases y : j = i
      · right
        rw [y, e1] at j2
        omega
      · exact Or.inl ⟨j, by omega, j2⟩
  obtain ⟨T', c1, c2⟩ := key (n * sz) F 0 T (by omega) (by omega) (fun v k _ _ ⟨j, j1, _⟩ => by omega)
  refine ⟨nI (n * sz), T', pg', kg', ?_, hS.2.2.2, c2⟩
  unfold m_multiply
  rw [e, bd3_n]
  exact c1
end MULT
