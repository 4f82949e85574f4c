/-! THE REFERENCE'S PRODUCTS: findProducts. -/
theorem sm_up1 {f : Nat → Nat} {i : Nat} : ∀ N, (i < N → f i = 0 → sm N (fun j => if j = i then 1 else f j) = sm N f + 1) ∧ (N ≤ i → sm N (fun j => if j = i then 1 else f j) = sm N f) := by
  intro N
  induction N with
  | zero => exact ⟨fun h => by omega, fun _ => rfl⟩
  | succ N ih =>
    refine ⟨fun h h0 => ?_, fun h => ?_⟩
    · rw [sm_s, sm_s]
      by_cases e : N = i
      · rw [if_pos e, ih.2 (by omega), e, h0]
      · rw [if_neg e, ih.1 (by omega) h0]; omega
    · rw [sm_s, sm_s, if_neg (by omega), ih.2 (by omega)]
theorem sm_le1 {f : Nat → Nat} : ∀ N, (∀ i, i < N → f i ≤ 1) → sm N f ≤ N ∧ (sm N f = N → ∀ i, i < N → f i = 1) := by
  intro N
  induction N with
  | zero => intro _; exact ⟨Nat.le_refl _, fun _ i h => by omega⟩
  | succ N ih =>
    intro h
    obtain ⟨a, b⟩ := ih (fun i hi => h i (by omega))
    have := h N (by omega)
    rw [sm_s]
    refine ⟨by omega, fun e i hi => ?_⟩
    by_cases q : i = N
    · rw [q]; omega
    · exact b (by omega) i (by omega)
/-- the place of pair i among the known ones -/
def ixP (sz i : Nat) : Nat := 40 * (i / sz) + i % sz
theorem ixP_inj {sz i j : Nat} (h0 : 0 < sz) (h : sz ≤ 40) (e : ixP sz i = ixP sz j) : i = j := by
  unfold ixP at e
  have a := Nat.mod_lt i h0
  have b := Nat.mod_lt j h0
  have e1 : i / sz = j / sz := by omega
  have e2 : i % sz = j % sz := by omega
  rw [← Nat.div_add_mod i sz, ← Nat.div_add_mod j sz, e1, e2]
section ZPRODS
variable {F p n ord sz : Nat} {cg g bs : Nat → Nat} {l : List Nat} {rb : Nat → Nat → Nat}
theorem ixP_lt {i : Nat} (h0 : 0 < sz) (hi : i < n * sz) : i / sz < n ∧ i % sz < sz := ⟨(Nat.div_lt_iff_lt_mul h0).mpr hi, Nat.mod_lt _ h0⟩
theorem ixP_at {v k : Nat} (hv : v < n) (hk : k < sz) : v * sz + k < n * sz ∧ (v * sz + k) / sz = v ∧ (v * sz + k) % sz = k := by
  refine ⟨?_, ?_, ?_⟩
  · have : (v + 1) * sz ≤ n * sz := Nat.mul_le_mul_right sz hv
    rw [Nat.succ_mul] at this
    omega
  · rw [Nat.mul_comm, Nat.mul_add_div (by omega), Nat.div_eq_of_lt hk, Nat.add_zero]
  · rw [Nat.mul_comm, Nat.mul_add_mod, Nat.mod_eq_of_lt hk]
/-- the key of pair i -/
def kP (ord sz : Nat) (g : Nat → Nat) (i : Nat) : Nat := pK ord g (i / sz) (i % sz)
theorem p_zps41 (hF : 200 < F) (h : Rm p n ord cg l sz g rb) (h0 : 0 < sz) {mI pI : Int32} {row_ bs_ T : Nat → Int32} {kn : Nat → Nat} (hkn : ∀ j, kn j = 0 ∨ kn j = 1) {k24} {t : Nat} (hun : ∃ i, i < n * sz ∧ kn (ixP sz i) = 0) : ∀ (d m i : Nat) (best : Int32), i + d = n * sz → d < m →
    ((best = -1 ∧ ∀ q, q < i → kn (ixP sz q) = 1) ∨ (∃ b, b < i ∧ best = nI b ∧ kn (ixP sz b) = 0 ∧ ∀ q, q < i → kn (ixP sz q) = 0 → kP ord sz g b ≤ kP ord sz g q)) →
    ∃ b, b < n * sz ∧ kn (ixP sz b) = 0 ∧ (∀ q, q < n * sz → kn (ixP sz q) = 0 → kP ord sz g b ≤ kP ord sz g q) ∧
      b_zfindProducts_41 F (nI sz) mI (nI n) (nI ord) pI (nF cg) row_ bs_ (nF g) k24 m (nI t) best (nI i) T (nF kn) = bd2 (m_zfindProduct F (nI sz) mI pI (nF cg) row_ bs_ (nF g) (nI (b / sz)) (nI (b % sz)) T (nF kn)) (fun a c => k24 (nI (t + 1)) a c) := by
  have hn4 := h.n4
  have hsz := h.sz40
  have hns : n * sz ≤ 160 := Nat.mul_le_mul hn4 hsz
  intro d
  induction d with
  | zero =>
    intro m i best hi hm hI
    obtain ⟨m, rfl⟩ : ∃ q, m = q + 1 := ⟨m - 1, by omega⟩
    obtain ⟨i0, i1, i2⟩ := hun
    rcases hI with ⟨_, a⟩ | ⟨b, b1, b2, b3, b4⟩
    · have := a i0 (by omega); omega
    · refine ⟨b, by omega, b3, fun q hq => b4 q (by omega), ?_⟩
      show s_zfindProducts_41 F (nI sz) mI (nI n) (nI ord) pI (nF cg) row_ bs_ (nF g) k24 (b_zfindProducts_41 F (nI sz) mI (nI n) (nI ord) pI (nF cg) row_ bs_ (nF g) k24 m) (nI t) best (nI i) T (nF kn) = _
      unfold s_zfindProducts_41
      rw [pk_mul, if_pos (nI_le (by omega) (by omega)), nzI_n h0 (by omega), nzI_n h0 (by omega), b2, pk_div (by omega) h0 (by omega), remI_n (by omega) h0 (by omega), show nI t + 1 = nI (t + 1) from nI_add t 1]
  | succ d ih =>
    intro m i best hi hm hI
    obtain ⟨m, rfl⟩ : ∃ q, m = q + 1 := ⟨m - 1, by omega⟩
    obtain ⟨x1, x2⟩ := ixP_lt (n := n) h0 (show i < n * sz by omega)
    have step : b_zfindProducts_41 F (nI sz) mI (nI n) (nI ord) pI (nF cg) row_ bs_ (nF g) k24 (m + 1) (nI t) best (nI i) T (nF kn) =
        if kn (ixP sz i) = 0 then (if best < 0 then b_zfindProducts_41 F (nI sz) mI (nI n) (nI ord) pI (nF cg) row_ bs_ (nF g) k24 m (nI t) (nI i) (nI (i + 1)) T (nF kn) else
          nzI (nI sz) (rdI 41 (nF g) (remI best (nI sz)) fun x_5 => nzI (nI sz) (rdI 41 (nF g) (remI (nI i) (nI sz)) fun x_6 => bd1 (m_zgreater F (nI ord) (x_5 + (shlI 1 (24 - (8 * (best / nI sz))))) (x_6 + (shlI 1 (24 - (8 * (nI i / nI sz)))))) fun r_7 =>
            if r_7 = 0 then b_zfindProducts_41 F (nI sz) mI (nI n) (nI ord) pI (nF cg) row_ bs_ (nF g) k24 m (nI t) best (nI (i + 1)) T (nF kn) else b_zfindProducts_41 F (nI sz) mI (nI n) (nI ord) pI (nF cg) row_ bs_ (nF g) k24 m (nI t) (nI i) (nI (i + 1)) T (nF kn))))
        else b_zfindProducts_41 F (nI sz) mI (nI n) (nI ord) pI (nF cg) row_ bs_ (nF g) k24 m (nI t) best (nI (i + 1)) T (nF kn) := by
      show s_zfindProducts_41 F (nI sz) mI (nI n) (nI ord) pI (nF cg) row_ bs_ (nF g) k24 (b_zfindProducts_41 F (nI sz) mI (nI n) (nI ord) pI (nF cg) row_ bs_ (nF g) k24 m) (nI t) best (nI i) T (nF kn) = _
      unfold s_zfindProducts_41
      rw [pk_mul, if_neg (nI_ge (by omega) (by omega)), nzI_n h0 (by omega), nzI_n h0 (by omega), pk_div (show i < 2 ^ 31 by omega) h0 (by omega), remI_n (show i < 2 ^ 31 by omega) h0 (by omega), show (40 : Int32) * nI (i / sz) = nI (40 * (i / sz)) from pk_mul 40 _, nI_add, rdI_n (by omega) (by decide), show nI i + 1 = nI (i + 1) from nI_add i 1]
      show (if nI (kn (ixP sz i)) = 0 then _ else _) = _
      rcases hkn (ixP sz i) with z | z
      · rw [z, if_pos (show nI 0 = 0 from rfl), if_pos rfl]
      · rw [z, if_neg (show ¬ nI 1 = 0 by decide +kernel), if_neg (by decide)]
    rw [step]
    rcases hkn (ixP sz i) with z | z
    · rw [if_pos z]
      rcases hI with ⟨a1, a2⟩ | ⟨b, b1, b2, b3, b4⟩
      · rw [a1, if_pos (by decide)]
        exact ih m (i + 1) (nI i) (by omega) (by omega) (Or.inr ⟨i, by omega, rfl, z, fun q hq hz => by
          by_cases y : q = i
          · rw [y]; exact Nat.le_refl _
          · have := a2 q (by omega); omega⟩)
      · obtain ⟨y1, y2⟩ := ixP_lt (n := n) h0 (show b < n * sz by omega)
        rw [b2, if_neg (show ¬ nI b < 0 from nI_nlt (show 0 ≤ b by omega) (by omega)), nzI_n h0 (by omega), remI_n (show b < 2 ^ 31 by omega) h0 (by omega), rdI_n (by omega) (by decide), nzI_n h0 (by omega), remI_n (show i < 2 ^ 31 by omega) h0 (by omega), rdI_n (by omega) (by decide), pk_div (show b < 2 ^ 31 by omega) h0 (by omega), pk_div (show i < 2 ^ 31 by omega) h0 (by omega), sh_var _ (show b / sz < 4 by omega), sh_var _ (show i / sz < 4 by omega)]
        show ∃ b_1, _ ∧ _ ∧ _ ∧ bd1 (m_zgreater F (nI ord) (nI (g (b % sz)) + nI (2 ^ (24 - 8 * (b / sz)))) (nI (g (i % sz)) + nI (2 ^ (24 - 8 * (i / sz))))) _ = _
        rw [nI_add, nI_add, p_zgreater (by omega) h.o2 (h.up_lt y2 (by omega)) (h.up_lt x2 (by omega)), bd1_n]
        by_cases y : keyN ord (g (i % sz) + 2 ^ (24 - 8 * (i / sz))) < keyN ord (g (b % sz) + 2 ^ (24 - 8 * (b / sz)))
        · rw [gtN_1 y, if_neg (show ¬ nI 1 = 0 by decide +kernel)]
          exact ih m (i + 1) (nI i) (by omega) (by omega) (Or.inr ⟨i, by omega, rfl, z, fun q hq hz => by
            by_cases w : q = i
            · rw [w]; exact Nat.le_refl _
            · have := b4 q (by omega) hz
              have y' : kP ord sz g i < kP ord sz g b := y
              omega⟩)
        · rw [gtN_0 y, if_pos (show nI 0 = 0 from rfl)]
          exact ih m (i + 1) (nI b) (by omega) (by omega) (Or.inr ⟨b, by omega, rfl, b3, fun q hq hz => by
            by_cases w : q = i
            · rw [w]
              have y' : ¬ kP ord sz g i < kP ord sz g b := y
              omega
            · exact b4 q (by omega) hz⟩)
    · rw [if_neg (by omega)]
      refine ih m (i + 1) best (by omega) (by omega) ?_
      rcases hI with ⟨a1, a2⟩ | ⟨b, b1, b2, b3, b4⟩
      · exact Or.inl ⟨a1, fun q hq => by
          by_cases y : q = i
          · rw [y]; exact z
          · exact a2 q (by omega)⟩
      · exact Or.inr ⟨b, by omega, b2, b3, fun q hq hz => by
          by_cases y : q = i
          · rw [y] at hz; omega
          · exact b4 q (by omega) hz⟩
theorem p_zps24 {R : Nat → Nat} (hF : 40000 < F) (h : Rm p n ord cg l sz g (rowC (ctN n) R)) (h0 : 0 < sz) (hA : Arr l bs) (hl : l.length ≤ 126) : ∀ (d m t : Nat) (T kn : Nat → Nat), t + d = n * sz → d < m → (∀ j, kn j = 0 ∨ kn j = 1) → sm (n * sz) (fun i => kn (ixP sz i)) = t →
    (∀ v k, v < n → k < sz → kn (40 * v + k) = 1 → PrR p n sz cg g l (rowC (ctN n) R) T v k ∧ PrB p ord sz g T v k) → (∀ v k v' k', v < n → k < sz → kn (40 * v + k) = 1 → v' < n → k' < sz → pK ord g v' k' < pK ord g v k → kn (40 * v' + k') = 1) → (∀ j, 160 ≤ j → kn j = 0) →
    ∃ T' kn', (∀ j, 160 ≤ j → kn' j = 0) ∧ b_zfindProducts_24 F (nI sz) (nI l.length) (nI n) (nI ord) (nI p) (nF cg) (nF R) (nF bs) (nF g) m (nI t) (nF T) (nF kn) = some (nF T', nF kn') ∧ ∀ v k, v < n → k < sz → PrR p n sz cg g l (rowC (ctN n) R) T' v k ∧ PrB p ord sz g T' v k := by
  have hn4 := h.n4
  have hsz := h.sz40
  have hns : n * sz ≤ 160 := Nat.mul_le_mul hn4 hsz
  intro d
  induction d with
  | zero =>
    intro m t T kn ht hm hkn hsum hI hdown h160
    obtain ⟨m, rfl⟩ : ∃ q, m = q + 1 := ⟨m - 1, by omega⟩
    have hall := (sm_le1 (n * sz) (f := fun i => kn (ixP sz i)) (fun i _ => by rcases hkn (ixP sz i) with z | z <;> omega)).2 (by omega)
    refine ⟨T, kn, h160, ?_, fun v k hv hk => hI v k hv hk ?_⟩
    · show s_zfindProducts_24 F (nI sz) (nI l.length) (nI n) (nI ord) (nI p) (nF cg) (nF R) (nF bs) (nF g) (b_zfindProducts_24 F (nI sz) (nI l.length) (nI n) (nI ord) (nI p) (nF cg) (nF R) (nF bs) (nF g) m) (nI t) (nF T) (nF kn) = _
      unfold s_zfindProducts_24
      rw [pk_mul, if_pos (nI_le (by omega) (by omega))]
    · obtain ⟨a, b, c⟩ := ixP_at hv hk
      have := hall _ a
      simp only [ixP] at this
      rw [b, c] at this
      exact this
  | succ d ih =>
    intro m t T kn ht hm hkn hsum hI hdown h160
    obtain ⟨m, rfl⟩ : ∃ q, m = q + 1 := ⟨m - 1, by omega⟩
    have hun : ∃ i, i < n * sz ∧ kn (ixP sz i) = 0 := by
      refine Classical.byContradiction fun q => ?_
      have : sm (n * sz) (fun i => kn (ixP sz i)) = sm (n * sz) (fun _ => 1) := sm_congr fun i hi => by
        rcases hkn (ixP sz i) with z | z
        · exact absurd ⟨i, hi, z⟩ q
        · exact z
      have e1 : ∀ N, sm N (fun _ => 1) = N := by
        intro N
        induction N with
        | zero => rfl
        | succ N ih => rw [sm_s, ih]
      rw [e1] at this
      omega
    obtain ⟨b, b1, b2, b3, b4⟩ := p_zps41 (F := F) (mI := nI l.length) (pI := nI p) (row_ := nF R) (bs_ := nF bs) (T := nF T) (k24 := b_zfindProducts_24 F (nI sz) (nI l.length) (nI n) (nI ord) (nI p) (nF cg) (nF R) (nF bs) (nF g) m) (t := t) (by omega) h h0 hkn hun (n * sz) F 0 (-1) (by omega) (by omega) (Or.inl ⟨rfl, fun q hq => by omega⟩)
    obtain ⟨x1, x2⟩ := ixP_lt (n := n) h0 b1
    have hmin : ∀ v k, v < n → k < sz → kn (40 * v + k) = 0 → pK ord g (b / sz) (b % sz) ≤ pK ord g v k := by
      intro v k hv hk hz
      obtain ⟨a1, a2, a3⟩ := ixP_at hv hk
      have := b3 _ a1 (by unfold ixP; rw [a2, a3]; exact hz)
      unfold kP at this
      rw [a2, a3] at this
      exact this
    have hbk : kn (40 * (b / sz) + b % sz) = 0 := b2
    have hless : ∀ v' k', v' < n → k' < sz → pK ord g v' k' < pK ord g (b / sz) (b % sz) → kn (40 * v' + k') = 1 := by
      intro v' k' h1 h2 h3
      rcases hkn (40 * v' + k') with z | z
      · have := hmin v' k' h1 h2 z; omega
      · exact z
    obtain ⟨T1, a1, a2, a3, a4⟩ := p_zfindProduct (F := F) (kn := kn) hF h hA hl x1 x2 (fun v' k' h1 h2 h3 => (hI v' k' h1 h2 (hless v' k' h1 h2 h3)).2)
    have step : b_zfindProducts_24 F (nI sz) (nI l.length) (nI n) (nI ord) (nI p) (nF cg) (nF R) (nF bs) (nF g) (m + 1) (nI t) (nF T) (nF kn) = b_zfindProducts_24 F (nI sz) (nI l.length) (nI n) (nI ord) (nI p) (nF cg) (nF R) (nF bs) (nF g) m (nI (t + 1)) (nF T1) (nF (fun x => if x = 40 * (b / sz) + b % sz then 1 else kn x)) := by
      show s_zfindProducts_24 F (nI sz) (nI l.length) (nI n) (nI ord) (nI p) (nF cg) (nF R) (nF bs) (nF g) (b_zfindProducts_24 F (nI sz) (nI l.length) (nI n) (nI ord) (nI p) (nF cg) (nF R) (nF bs) (nF g) m) (nI t) (nF T) (nF kn) = _
      unfold s_zfindProducts_24
      rw [pk_mul, if_neg (nI_ge (by omega) (by omega)), show (0 : Int32) = nI 0 from rfl, b4, a1, bd2_n]
    have hI2 := PrR.step h (Kn := fun v k => kn (40 * v + k) = 1) hI hdown x1 x2 (fun v' k' h1 h2 h3 => by
      rcases Nat.lt_or_ge (pK ord g (b / sz) (b % sz)) (pK ord g v' k') with z | z
      · have := hdown v' k' (b / sz) (b % sz) h1 h2 h3 x1 x2 z; omega
      · exact z) a2 ⟨a3, a4⟩
    have hcase : ∀ v k, v < n → k < sz → (if 40 * v + k = 40 * (b / sz) + b % sz then 1 else kn (40 * v + k)) = 1 → kn (40 * v + k) = 1 ∨ (v = b / sz ∧ k = b % sz) := by
      intro v k hv hk hz
      by_cases y : 40 * v + k = 40 * (b / sz) + b % sz
      · right; omega
      · rw [if_neg y] at hz; exact Or.inl hz
    rw [step]
    refine ih m (t + 1) T1 _ (by omega) (by omega) (fun j => ?_) ?_ (fun v k hv hk hz => hI2 v k hv hk (hcase v k hv hk hz)) (fun v k v' k' hv hk hz h1 h2 h3 => ?_) (fun j hj => by
      show (if j = 40 * (b / sz) + b % sz then 1 else kn j) = 0
      have hsz40 := h.sz40
      rw [if_neg (by omega)]; exact h160 j hj)
    · show (if j = _ then 1 else kn j) = 0 ∨ (if j = _ then 1 else kn j) = 1
      by_cases y : j = 40 * (b / sz) + b % sz
      · rw [if_pos y]; exact Or.inr rfl
      · rw [if_neg y]; exact hkn j
    · have e : (fun i => (if ixP sz i = 40 * (b / sz) + b % sz then 1 else kn (ixP sz i))) = (fun j => if j = b then 1 else kn (ixP sz j)) := by
        funext i
        by_cases y : i = b
        · rw [if_pos y, y]; exact if_pos rfl
        · rw [if_neg y]; exact if_neg (fun z => y (ixP_inj h0 hsz z))
      show sm (n * sz) (fun i => if ixP sz i = 40 * (b / sz) + b % sz then 1 else kn (ixP sz i)) = t + 1
      rw [e, (sm_up1 (f := fun j => kn (ixP sz j)) (i := b) (n * sz)).1 b1 b2, hsum]
    · show (if 40 * v' + k' = 40 * (b / sz) + b % sz then 1 else kn (40 * v' + k')) = 1
      by_cases y : 40 * v' + k' = 40 * (b / sz) + b % sz
      · rw [if_pos y]
      · rw [if_neg y]
        rcases hcase v k hv hk hz with w | ⟨w1, w2⟩
        · exact hdown v k v' k' hv hk w h1 h2 h3
        · rw [w1, w2] at h3
          exact hless v' k' h1 h2 h3
theorem p_zfindProducts {R : Nat → Nat} (hF : 40000 < F) (h : Rm p n ord cg l sz g (rowC (ctN n) R)) (h0 : 0 < sz) (hA : Arr l bs) (hl : l.length ≤ 126) {T kn : Nat → Nat} (hkn : ∀ j, 160 ≤ j → kn j = 0) :
    ∃ T' kn', (∀ j, 160 ≤ j → kn' j = 0) ∧ m_zfindProducts F (nI sz) (nI l.length) (nI n) (nI ord) (nI p) (nF cg) (nF R) (nF bs) (nF g) (nF T) (nF kn) = some (nF T', nF kn') ∧ ∀ v k, v < n → k < sz → PrR p n sz cg g l (rowC (ctN n) R) T' v k ∧ PrB p ord sz g T' v k := by
  have hns : n * sz ≤ 160 := Nat.mul_le_mul h.n4 h.sz40
  have key : ∀ (d m i : Nat) (kn : Nat → Nat), i + d = 160 → d < m → (∀ j, j < i → kn j = 0) → (∀ j, 160 ≤ j → kn j = 0) → b_zfindProducts_2 F (nI sz) (nI l.length) (nI n) (nI ord) (nI p) (nF cg) (nF R) (nF bs) (nF g) m (nI i) (nF T) (nF kn) = b_zfindProducts_24 F (nI sz) (nI l.length) (nI n) (nI ord) (nI p) (nF cg) (nF R) (nF bs) (nF g) F (nI 0) (nF T) (nF (fun _ => 0)) := by
    intro d
    induction d with
    | zero =>
      intro m i kn hi hm h1 h2
      obtain ⟨m, rfl⟩ : ∃ q, m = q + 1 := ⟨m - 1, by omega⟩
      have e : kn = fun _ => 0 := by
        funext j
        rcases Nat.lt_or_ge j i with q | q
        · exact h1 j q
        · exact h2 j (by omega)
      rw [e]
      show s_zfindProducts_2 F (nI sz) (nI l.length) (nI n) (nI ord) (nI p) (nF cg) (nF R) (nF bs) (nF g) (b_zfindProducts_2 F (nI sz) (nI l.length) (nI n) (nI ord) (nI p) (nF cg) (nF R) (nF bs) (nF g) m) (nI i) (nF T) _ = _
      unfold s_zfindProducts_2
      rw [if_pos (show (160 : Int32) ≤ nI i from nI_le (show 160 ≤ i by omega) (by omega))]
      rfl
    | succ d ih =>
      intro m i kn hi hm h1 h2
      obtain ⟨m, rfl⟩ : ∃ q, m = q + 1 := ⟨m - 1, by omega⟩
      show s_zfindProducts_2 F (nI sz) (nI l.length) (nI n) (nI ord) (nI p) (nF cg) (nF R) (nF bs) (nF g) (b_zfindProducts_2 F (nI sz) (nI l.length) (nI n) (nI ord) (nI p) (nF cg) (nF R) (nF bs) (nF g) m) (nI i) (nF T) (nF kn) = _
      unfold s_zfindProducts_2
      rw [if_neg (show ¬ (160 : Int32) ≤ nI i from nI_ge (show i < 160 by omega) (by decide)), show vp_nar .boolean 0 = nI 0 from by decide +kernel, wrI_n (by omega) (by decide), upd_nF, show nI i + 1 = nI (i + 1) from nI_add i 1]
      refine ih m (i + 1) _ (by omega) (by omega) (fun j hj => ?_) (fun j hj => ?_)
      · show (if j = i then 0 else kn j) = 0
        by_cases e : j = i
        · rw [if_pos e]
        · rw [if_neg e]; exact h1 j (by omega)
      · show (if j = i then 0 else kn j) = 0
        rw [if_neg (by omega)]; exact h2 j hj
  obtain ⟨T', kn', c, a, b⟩ := p_zps24 (F := F) hF h h0 hA hl (n * sz) F 0 T (fun _ => 0) (by omega) (by omega) (fun _ => Or.inl rfl) (sm_zero fun _ _ => rfl) (fun _ _ _ _ z => absurd z (by decide)) (fun _ _ _ _ _ _ z => absurd z (by decide)) (fun _ _ => rfl)
  refine ⟨T', kn', c, ?_, b⟩
  have := key 160 F 0 kn (by omega) (by omega) (fun j hj => by omega) hkn
  rw [← a, ← this]
  rfl
end ZPRODS
