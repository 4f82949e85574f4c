/-! THE REFERENCE: solved. -/
/-- z is in the kernel of the matrix -/
def KS (p sz w : Nat) (f : Nat → Nat → Nat) (z : Nat → Nat) : Prop := ∀ i, i < sz → sm w (fun k => f i k * z k) % p = 0
section KER
variable {p sz w : Nat}
theorem rs_mod (g z : Nat → Nat) : sm w (fun k => g k % p * z k) % p = sm w (fun k => g k * z k) % p := sm_cg fun k _ => by rw [Nat.mod_mul_mod]
theorem swR_swR {a c i : Nat} : swR a c (swR a c i) = i := by
  unfold swR
  by_cases h1 : i = a
  · rw [if_pos h1]
    by_cases h2 : c = a
    · rw [if_pos h2]; omega
    · rw [if_neg h2, if_pos rfl]; omega
  · rw [if_neg h1]
    by_cases h2 : i = c
    · rw [if_pos h2, if_pos rfl]; omega
    · rw [if_neg h2, if_neg h1, if_neg h2]
theorem swR_lt {a c i : Nat} (ha : a < sz) (hc : c < sz) (hi : i < sz) : swR a c i < sz := by
  unfold swR
  split
  · exact hc
  · split
    · exact ha
    · exact hi
/-- one column done -/
def stepM (p a c : Nat) (f : Nat → Nat → Nat) (i k : Nat) : Nat :=
  if i ≠ c then ((if i = c then f (swR a c c) k * (f a c ^ (p - 2) % p) % p else f (swR a c i) k) + (p - (if i = c then f (swR a c c) c * (f a c ^ (p - 2) % p) % p else f (swR a c i) c)) * (f (swR a c c) k * (f a c ^ (p - 2) % p) % p)) % p
  else f (swR a c c) k * (f a c ^ (p - 2) % p) % p
theorem swR_c {a c : Nat} : swR a c c = a := by
  unfold swR
  by_cases h : c = a
  · rw [if_pos h]; exact h
  · rw [if_neg h, if_pos rfl]
theorem stepM_c {a c : Nat} {f : Nat → Nat → Nat} (k : Nat) : stepM p a c f c k = f a k * (f a c ^ (p - 2) % p) % p := by
  unfold stepM
  rw [if_neg (fun h => h rfl), swR_c]
theorem stepM_n {a c i : Nat} {f : Nat → Nat → Nat} (h : i ≠ c) (k : Nat) : stepM p a c f i k = (f (swR a c i) k + (p - f (swR a c i) c) * (f a k * (f a c ^ (p - 2) % p) % p)) % p := by
  unfold stepM
  rw [if_pos h, if_neg h, if_neg h, swR_c]
theorem stepM_ker (hp : isP p) {a c : Nat} {f : Nat → Nat → Nat} (ha : a < sz) (hc : c < sz) (h0 : f a c ≠ 0) (hl : f a c < p) (z : Nat → Nat) : KS p sz w (stepM p a c f) z ↔ KS p sz w f z := by
  have hinv := fm_pow hp (show 0 < f a c by omega) hl
  have hp2 := hp.1
  have rowc : sm w (fun k => stepM p a c f c k * z k) % p = (f a c ^ (p - 2) % p) * sm w (fun k => f a k * z k) % p := by
    rw [sm_congr (g := fun k => f a k * (f a c ^ (p - 2) % p) % p * z k) (fun k _ => by rw [stepM_c]), rs_mod, ← sm_mul]
    exact congrArg (· % p) (sm_congr fun k _ => by rw [Nat.mul_comm (f a k), Nat.mul_assoc])
  have rown : ∀ i, i ≠ c → sm w (fun k => stepM p a c f i k * z k) % p = (sm w (fun k => f (swR a c i) k * z k) + (p - f (swR a c i) c) * ((f a c ^ (p - 2) % p) * sm w (fun k => f a k * z k))) % p := by
    intro i hi
    rw [sm_congr (g := fun k => (f (swR a c i) k + (p - f (swR a c i) c) * (f a k * (f a c ^ (p - 2) % p) % p)) % p * z k) (fun k _ => by rw [stepM_n hi]), rs_mod]
    have e : sm w (fun k => (f (swR a c i) k + (p - f (swR a c i) c) * (f a k * (f a c ^ (p - 2) % p) % p)) * z k) = sm w (fun k => f (swR a c i) k * z k) + (p - f (swR a c i) c) * sm w (fun k => f a k * (f a c ^ (p - 2) % p) % p * z k) := by
      rw [← sm_mul, ← sm_add]
      refine sm_congr fun k _ => ?_
      rw [Nat.add_mul, Nat.mul_assoc]
    rw [e, Nat.add_mod, Nat.mul_mod, rs_mod, ← Nat.mul_mod, ← Nat.add_mod]
    have e2 : sm w (fun k => f a k * (f a c ^ (p - 2) % p) * z k) = (f a c ^ (p - 2) % p) * sm w (fun k => f a k * z k) := by
      rw [← sm_mul]
      exact sm_congr fun k _ => by rw [Nat.mul_comm (f a k), Nat.mul_assoc]
    rw [e2]
  constructor
  · intro h
    have ha0 : sm w (fun k => f a k * z k) % p = 0 := by
      have h1 := h c hc
      rw [rowc] at h1
      have h2 : f a c * (f a c ^ (p - 2) % p * sm w (fun k => f a k * z k)) % p = 0 := by rw [Nat.mul_mod, h1, Nat.mul_zero, Nat.zero_mod]
      rw [← Nat.mul_assoc, Nat.mul_mod, hinv, Nat.one_mul, Nat.mod_mod] at h2
      exact h2
    intro i hi
    have key : ∀ j, j < sz → j ≠ c → sm w (fun k => f (swR a c j) k * z k) % p = 0 := by
      intro j hj hjc
      have h1 := h j hj
      rw [rown j hjc, Nat.add_mod, Nat.mul_mod, Nat.mul_mod (f a c ^ (p - 2) % p), ha0, Nat.mul_zero, Nat.zero_mod, Nat.mul_zero, Nat.zero_mod, Nat.add_zero, Nat.mod_mod] at h1
      exact h1
    by_cases e : swR a c i = c
    · have : i = a := by
        have := swR_swR (a := a) (c := c) (i := i)
        rw [e, swR_c] at this
        exact this.symm
      rw [this]; exact ha0
    · have := key (swR a c i) (swR_lt ha hc hi) e
      rw [swR_swR] at this
      exact this
  · intro h i hi
    by_cases e : i = c
    · rw [e, rowc, Nat.mul_mod, h a ha, Nat.mul_zero, Nat.zero_mod]
    · rw [rown i e, Nat.add_mod, h _ (swR_lt ha hc hi), Nat.mul_mod, Nat.mul_mod (f a c ^ (p - 2) % p), h a ha, Nat.mul_zero, Nat.zero_mod, Nat.mul_zero, Nat.zero_mod]
      exact Nat.zero_mod p
theorem stepM_unit (hp : isP p) {a c : Nat} {f : Nat → Nat → Nat} (ha : a < sz) (hca : c ≤ a) (hl : ∀ i k, i < sz → k < w → f i k < p) (h0 : f a c ≠ 0) (hcw : c < w) (hu : ∀ i k, i < sz → k < c → f i k = if i = k then 1 else 0) : ∀ i k, i < sz → k < c + 1 → stepM p a c f i k = if i = k then 1 else 0 := by
  have hp2 := hp.1
  have hinv := fm_pow hp (show 0 < f a c by omega) (hl a c ha hcw)
  intro i k hi hk
  by_cases e : i = c
  · rw [e, stepM_c]
    by_cases y : k = c
    · rw [if_pos y.symm, y]; exact hinv
    · rw [if_neg (by omega), hu a k ha (by omega), if_neg (by omega), Nat.zero_mul, Nat.zero_mod]
  · have hsl := swR_lt (a := a) (c := c) ha (by omega) hi
    rw [stepM_n e]
    by_cases y : k = c
    · have := hl _ c hsl hcw
      rw [if_neg (by omega), y, hinv, Nat.mul_one, Nat.add_sub_cancel' (by omega), Nat.mod_self]
    · rw [hu a k ha (by omega), if_neg (show ¬ a = k by omega), Nat.zero_mul, Nat.zero_mod, Nat.mul_zero, Nat.add_zero, hu _ k hsl (by omega)]
      have hiff : swR a c i = k ↔ i = k := by
        unfold swR
        by_cases z : i = a
        · rw [if_pos z]; omega
        · rw [if_neg z, if_neg e]
      by_cases z : i = k
      · rw [if_pos (hiff.mpr z), if_pos z, Nat.mod_eq_of_lt (by omega)]
      · rw [if_neg (fun q => z (hiff.mp q)), if_neg z, Nat.zero_mod]
theorem stepM_lt (hp : 0 < p) {a c : Nat} {f : Nat → Nat → Nat} (i k : Nat) : stepM p a c f i k < p := by
  by_cases e : i = c
  · rw [e, stepM_c]; exact Nat.mod_lt _ hp
  · rw [stepM_n e]; exact Nat.mod_lt _ hp
/-- no pivot: the column is a sum of the ones before -/
theorem ker_col {c : Nat} {f : Nat → Nat → Nat} (hcw : c < w) (hl : ∀ i k, i < sz → k < w → f i k < p) (hu : ∀ i k, i < sz → k < c → f i k = if i = k then 1 else 0) (hno : ∀ i, c ≤ i → i < sz → f i c = 0) : KS p sz w f (fun k => if k < c then (p - f k c) % p else if k = c then 1 else 0) := by
  intro i hi
  have e : sm w (fun k => f i k * (if k < c then (p - f k c) % p else if k = c then 1 else 0)) = sm w (fun k => (if k = i then (if i < c then (p - f i c) % p else 0) else 0) + (if k = c then f i c else 0)) := by
    refine sm_congr fun k hk => ?_
    rcases Nat.lt_trichotomy k c with q | q | q
    · rw [if_pos q, hu i k hi q, if_neg (show ¬ k = c by omega), Nat.add_zero]
      by_cases y : k = i
      · rw [if_pos y.symm, if_pos y, if_pos (by omega), Nat.one_mul, y]
      · rw [if_neg (fun z => y z.symm), if_neg y, Nat.zero_mul]
    · rw [if_neg (by omega), if_pos q, if_pos q, Nat.mul_one, q]
      by_cases y : c = i
      · rw [if_pos y, if_neg (by omega), Nat.zero_add]
      · rw [if_neg y, Nat.zero_add]
    · rw [if_neg (show ¬ k < c by omega), if_neg (show ¬ k = c by omega), if_neg (show ¬ k = c by omega), Nat.mul_zero, Nat.add_zero]
      by_cases y : k = i
      · rw [if_pos y, if_neg (by omega)]
      · rw [if_neg y]
  rw [e, sm_add, sm_one (f := fun k => if k = c then f i c else 0) hcw (x := f i c) (fun k _ hne => if_neg hne) (if_pos rfl)]
  by_cases q : i < c
  · rw [sm_one (f := fun k => if k = i then (if i < c then (p - f i c) % p else 0) else 0) (show i < w by omega) (x := (p - f i c) % p) (fun k _ hne => if_neg hne) (by rw [if_pos rfl, if_pos q]), Nat.mod_add_mod]
    have := hl i c hi hcw
    rw [Nat.sub_add_cancel (by omega), Nat.mod_self]
  · have hz0 : sm w (fun k => if k = i then (if i < c then (p - f i c) % p else 0) else 0) = 0 := sm_zero (fun k _ => by
      by_cases y : k = i
      · rw [if_pos y, if_neg q]
      · rw [if_neg y])
    rw [hz0, hno i (by omega) hi]
    exact Nat.zero_mod p
end KER
section SOLVED
variable {F p sz mw : Nat} {X : Nat → Nat → Nat}
theorem p_zs19 (hF : 200 < F) (hsz : sz ≤ 40) (hmw : mw ≤ 40) {k9} {nx : Nat → Int32} {vec now : Nat → Nat} (hv : ∀ k i, k < mw → i < sz → vec (40 * k + i) = X k i) (hn : ∀ i, i < sz → now i = X mw i) {i : Nat} (hi : i < sz) : ∀ (d m k : Nat) (S : Nat → Nat), k + d = mw → d < m → (∀ i' k', i' < i → k' < mw + 1 → S ((mw + 1) * i' + k') = X k' i') → (∀ k', k' < k → S ((mw + 1) * i + k') = X k' i) →
    ∃ S', (∀ i' k', i' < i + 1 → k' < mw + 1 → S' ((mw + 1) * i' + k') = X k' i') ∧ b_zsolved_19 F (nI sz) (nI p) (nI mw) (nF vec) (nF now) k9 m (nI (mw + 1)) (nI i) (nI k) (nF S) nx = k9 (nI (mw + 1)) (nI (i + 1)) (nF S') nx := by
  intro d
  induction d with
  | zero =>
    intro m k S hk hm h1 h2
    obtain ⟨m, rfl⟩ : ∃ q, m = q + 1 := ⟨m - 1, by omega⟩
    refine ⟨fun j => if j = (mw + 1) * i + mw then X mw i else S j, fun i' k' hi' hk' => ?_, ?_⟩
    · show (if (mw + 1) * i' + k' = (mw + 1) * i + mw then X mw i else S ((mw + 1) * i' + k')) = _
      by_cases q : i' = i ∧ k' = mw
      · rw [if_pos (by rw [q.1, q.2]), q.1, q.2]
      · rw [if_neg (fun e => q (ixW hk' (by omega) e))]
        by_cases y : i' = i
        · rw [y]; exact h2 k' (by omega)
        · exact h1 i' k' (by omega) hk'
    · show s_zsolved_19 F (nI sz) (nI p) (nI mw) (nF vec) (nF now) k9 (b_zsolved_19 F (nI sz) (nI p) (nI mw) (nF vec) (nF now) k9 m) (nI (mw + 1)) (nI i) (nI k) (nF S) nx = _
      unfold s_zsolved_19
      rw [if_pos (nI_le (by omega) (by omega)), rdI_n (by omega) (by decide), mulW, wrI_n (ixL (by omega) (by omega) (by omega)) (by decide), show nI i + 1 = nI (i + 1) from nI_add i 1]
      show k9 _ _ (upd (nF S) ((mw + 1) * i + mw) (nI (now i))) nx = _
      rw [hn i hi, upd_nF]
  | succ d ih =>
    intro m k S hk hm h1 h2
    obtain ⟨m, rfl⟩ : ∃ q, m = q + 1 := ⟨m - 1, by omega⟩
    have step : b_zsolved_19 F (nI sz) (nI p) (nI mw) (nF vec) (nF now) k9 (m + 1) (nI (mw + 1)) (nI i) (nI k) (nF S) nx = b_zsolved_19 F (nI sz) (nI p) (nI mw) (nF vec) (nF now) k9 m (nI (mw + 1)) (nI i) (nI (k + 1)) (nF (fun j => if j = (mw + 1) * i + k then X k i else S j)) nx := by
      show s_zsolved_19 F (nI sz) (nI p) (nI mw) (nF vec) (nF now) k9 (b_zsolved_19 F (nI sz) (nI p) (nI mw) (nF vec) (nF now) k9 m) (nI (mw + 1)) (nI i) (nI k) (nF S) nx = _
      unfold s_zsolved_19
      rw [if_neg (nI_ge (by omega) (by omega)), show (40 : Int32) * nI k = nI (40 * k) from pk_mul 40 k, nI_add, rdI_n (by omega) (by decide), mulW, wrI_n (ixL (by omega) (by omega) (by omega)) (by decide), show nI k + 1 = nI (k + 1) from nI_add k 1]
      show b_zsolved_19 F (nI sz) (nI p) (nI mw) (nF vec) (nF now) k9 m (nI (mw + 1)) (nI i) (nI (k + 1)) (upd (nF S) ((mw + 1) * i + k) (nI (vec (40 * k + i)))) nx = _
      rw [hv k i (by omega) hi, upd_nF]
    rw [step]
    refine ih m (k + 1) _ (by omega) (by omega) (fun i' k' hi' hk' => ?_) (fun k' hk' => ?_)
    · show (if (mw + 1) * i' + k' = (mw + 1) * i + k then X k i else S ((mw + 1) * i' + k')) = _
      rw [if_neg (fun e => by have := (ixW hk' (by omega) e).1; omega)]; exact h1 i' k' hi' hk'
    · show (if (mw + 1) * i + k' = (mw + 1) * i + k then X k i else S ((mw + 1) * i + k')) = _
      by_cases y : k' = k
      · rw [if_pos (by rw [y]), y]
      · rw [if_neg (by omega)]; exact h2 k' (by omega)
theorem p_zs9 (hF : 200 < F) (hsz : sz ≤ 40) (hmw : mw ≤ 40) {nx : Nat → Int32} {vec now : Nat → Nat} (hv : ∀ k i, k < mw → i < sz → vec (40 * k + i) = X k i) (hn : ∀ i, i < sz → now i = X mw i) : ∀ (d m i : Nat) (S : Nat → Nat), i + d = sz → d < m → (∀ i' k', i' < i → k' < mw + 1 → S ((mw + 1) * i' + k') = X k' i') →
    ∃ S', (∀ i' k', i' < sz → k' < mw + 1 → S' ((mw + 1) * i' + k') = X k' i') ∧ b_zsolved_9 F (nI sz) (nI p) (nI mw) (nF vec) (nF now) m (nI (mw + 1)) (nI i) (nF S) nx = b_zsolved_83 F (nI sz) (nI p) (nI mw) (nF vec) (nF now) F (nI (mw + 1)) (nI 0) (nI 0) (nF S') nx := by
  intro d
  induction d with
  | zero =>
    intro m i S hi hm h1
    obtain ⟨m, rfl⟩ : ∃ q, m = q + 1 := ⟨m - 1, by omega⟩
    refine ⟨S, fun i' k' hi' hk' => h1 i' k' (by omega) hk', ?_⟩
    show s_zsolved_9 F (nI sz) (nI p) (nI mw) (nF vec) (nF now) (b_zsolved_9 F (nI sz) (nI p) (nI mw) (nF vec) (nF now) m) (nI (mw + 1)) (nI i) (nF S) nx = _
    unfold s_zsolved_9
    rw [if_pos (nI_le (by omega) (by omega))]
    rfl
  | succ d ih =>
    intro m i S hi hm h1
    obtain ⟨m, rfl⟩ : ∃ q, m = q + 1 := ⟨m - 1, by omega⟩
    obtain ⟨S1, a1, a2⟩ := p_zs19 (F := F) (p := p) (k9 := b_zsolved_9 F (nI sz) (nI p) (nI mw) (nF vec) (nF now) m) (nx := nx) hF hsz hmw hv hn (show i < sz by omega) mw F 0 S (by omega) (by omega) h1 (fun k' hk' => by omega)
    have step : b_zsolved_9 F (nI sz) (nI p) (nI mw) (nF vec) (nF now) (m + 1) (nI (mw + 1)) (nI i) (nF S) nx = b_zsolved_9 F (nI sz) (nI p) (nI mw) (nF vec) (nF now) m (nI (mw + 1)) (nI (i + 1)) (nF S1) nx := by
      rw [← a2]
      show s_zsolved_9 F (nI sz) (nI p) (nI mw) (nF vec) (nF now) (b_zsolved_9 F (nI sz) (nI p) (nI mw) (nF vec) (nF now) m) (nI (mw + 1)) (nI i) (nF S) nx = _
      unfold s_zsolved_9
      rw [if_neg (nI_ge (by omega) (by omega))]
      rfl
    rw [step]
    exact ih m (i + 1) S1 (by omega) (by omega) a1
theorem p_zs83 (hF : 40000 < F) (hp : isP p) (hp2 : p ≤ 32003) (hsz : sz ≤ 40) (hmw : mw ≤ sz) {nx : Nat → Int32} {vI nI_ : Nat → Int32} (hI : IndV p sz mw X) : ∀ (d m c : Nat) (S : Nat → Nat), c + d = mw → d < m → (∀ i k, i < sz → k < mw + 1 → S ((mw + 1) * i + k) < p) → (∀ i k, i < sz → k < c → S ((mw + 1) * i + k) = if i = k then 1 else 0) → (∀ z, KS p sz (mw + 1) (fun i k => S ((mw + 1) * i + k)) z ↔ KS p sz (mw + 1) (fun i k => X k i) z) →
    ∃ S', (∀ i k, i < sz → k < mw + 1 → S' ((mw + 1) * i + k) < p) ∧ (∀ i k, i < sz → k < mw → S' ((mw + 1) * i + k) = if i = k then 1 else 0) ∧ (∀ z, KS p sz (mw + 1) (fun i k => S' ((mw + 1) * i + k)) z ↔ KS p sz (mw + 1) (fun i k => X k i) z) ∧
      b_zsolved_83 F (nI sz) (nI p) (nI mw) vI nI_ m (nI (mw + 1)) (nI c) (nI c) (nF S) nx = b_zsolved_390 F (nI sz) (nI p) (nI mw) vI nI_ F (nI (mw + 1)) (nI mw) (nF S') nx := by
  have hpp := hp.1
  intro d
  induction d with
  | zero =>
    intro m c S hc hm h1 h2 h3
    obtain ⟨m, rfl⟩ : ∃ q, m = q + 1 := ⟨m - 1, by omega⟩
    have e : c = mw := by omega
    subst e
    refine ⟨S, h1, h2, h3, ?_⟩
    show s_zsolved_83 F (nI sz) (nI p) (nI c) vI nI_ (b_zsolved_83 F (nI sz) (nI p) (nI c) vI nI_ m) (nI (c + 1)) (nI c) (nI c) (nF S) nx = _
    unfold s_zsolved_83
    rw [if_pos (nI_le (by omega) (by omega))]
  | succ d ih =>
    intro m c S hc hm h1 h2 h3
    obtain ⟨m, rfl⟩ : ∃ q, m = q + 1 := ⟨m - 1, by omega⟩
    have hex : ∃ a, c ≤ a ∧ a < sz ∧ S ((mw + 1) * a + c) ≠ 0 := by
      refine Classical.byContradiction fun q => ?_
      have hk := ker_col (p := p) (sz := sz) (w := mw + 1) (c := c) (f := fun i k => S ((mw + 1) * i + k)) (by omega) h1 h2 (fun i ha hi => Classical.byContradiction fun y => q ⟨i, ha, hi, y⟩)
      have hk2 := (h3 _).mp hk
      have := hI (fun k => if k < c then (p - S ((mw + 1) * k + c)) % p else if k = c then 1 else 0) (fun i hi => by
        have := hk2 i hi
        rw [sm_s] at this
        dsimp only at this
        rw [if_neg (show ¬ mw < c by omega), if_neg (show ¬ mw = c by omega), Nat.mul_zero, Nat.add_zero] at this
        exact Eq.trans (congrArg (· % p) (sm_congr fun k _ => Nat.mul_comm _ _)) this) c (by omega)
      try dsimp only at this
      rw [if_neg (by omega), if_pos rfl, Nat.mod_eq_of_lt (by omega)] at this
      omega
    have hR0 : Rep (mw + 1) S (fun i k => S ((mw + 1) * i + k)) := fun _ _ _ => rfl
    obtain ⟨a, a1, a2, a3, a4⟩ := p_zs94 (F := F) (p := p) (mw := mw) (w := mw + 1) (vI := vI) (nI_ := nI_) (k83 := b_zsolved_83 F (nI sz) (nI p) (nI mw) vI nI_ m) (nx := nx) (by omega) hsz (by omega) (show c < mw + 1 by omega) (f := fun i k => S ((mw + 1) * i + k)) (fun i k hi hk => by have := h1 i k hi hk; omega) hR0 hex (sz - c) F c (by omega) (by omega) (fun b hb1 hb2 => by omega)
    obtain ⟨S1, b1, b2⟩ := p_zs135 (F := F) (p := p) (sz := sz) (mw := mw) (w := mw + 1) (vI := vI) (nI_ := nI_) (k83 := b_zsolved_83 F (nI sz) (nI p) (nI mw) vI nI_ m) (nx := nx) hF hpp hp2 hsz (by omega) (show c < sz by omega) a1 (show c < mw + 1 by omega) (f := fun i k => S ((mw + 1) * i + k)) h1 (mw + 1) F 0 S (by omega) (by omega) (hR0.congr fun i' k' hk' => (if_neg (Nat.not_lt_zero _)).symm)
    have hf1 : ∀ i k, i < sz → k < mw + 1 → (fun i' k' => (fun i k => S ((mw + 1) * i + k)) (swR a c i') k') i k < p := fun i k hi hk => h1 _ k (swR_lt a1 (by omega) hi) hk
    have hivl : (fun i k => S ((mw + 1) * i + k)) a c ^ (p - 2) % p < p := Nat.mod_lt _ (by omega)
    obtain ⟨S2, c1, c2⟩ := p_zs217 (F := F) (p := p) (sz := sz) (mw := mw) (w := mw + 1) (vI := vI) (nI_ := nI_) (k83 := b_zsolved_83 F (nI sz) (nI p) (nI mw) vI nI_ m) (c := c) (nx := nx) (by omega) hpp hp2 hsz (by omega) (show c < sz by omega) hivl hf1 (mw + 1) F 0 S1 (by omega) (by omega) (b1.congr fun i' k' hk' => (if_neg (fun z => Nat.not_lt_zero _ z.2)).symm)
    have hf2 : ∀ i k, i < sz → k < mw + 1 → (fun i' k' => if i' = c then (fun i' k' => (fun i k => S ((mw + 1) * i + k)) (swR a c i') k') c k' * ((fun i k => S ((mw + 1) * i + k)) a c ^ (p - 2) % p) % p else (fun i' k' => (fun i k => S ((mw + 1) * i + k)) (swR a c i') k') i' k') i k < p := by
      intro i k hi hk
      dsimp only
      split
      · exact Nat.mod_lt _ (by omega)
      · exact h1 _ k (swR_lt a1 (by omega) hi) hk
    obtain ⟨S3, d1, d2⟩ := p_zs265 (F := F) (p := p) (sz := sz) (mw := mw) (w := mw + 1) (vI := vI) (nI_ := nI_) (k83 := b_zsolved_83 F (nI sz) (nI p) (nI mw) vI nI_ m) (c := c) (r := c) (nx := nx) (by omega) hpp hp2 hsz (by omega) (show c < sz by omega) (show c < mw + 1 by omega) hf2 sz F 0 S2 (by omega) (by omega) (c1.congr fun i' k' hk' => (if_neg (fun z => Nat.not_lt_zero _ z.1)).symm)
    have hS3 : ∀ i k, i < sz → k < mw + 1 → S3 ((mw + 1) * i + k) = stepM p a c (fun i k => S ((mw + 1) * i + k)) i k := by
      intro i k hi hk
      have hd := d1 i k hi hk
      dsimp only at hd
      rw [hd]
      unfold stepM
      by_cases e : i = c
      · rw [if_neg (show ¬ (i ≠ c) from fun z => z e), if_neg (show ¬ (i ≠ c) from fun z => z e), if_pos e]
      · rw [if_pos (show i ≠ c from e), if_pos (show i ≠ c from e), if_pos (show c = c from rfl)]
    have step : b_zsolved_83 F (nI sz) (nI p) (nI mw) vI nI_ (m + 1) (nI (mw + 1)) (nI c) (nI c) (nF S) nx = b_zsolved_83 F (nI sz) (nI p) (nI mw) vI nI_ m (nI (mw + 1)) (nI (c + 1)) (nI (c + 1)) (nF S3) nx := by
      rw [← d2, ← c2, ← b2, ← a4 (Nat.le_refl _)]
      show s_zsolved_83 F (nI sz) (nI p) (nI mw) vI nI_ (b_zsolved_83 F (nI sz) (nI p) (nI mw) vI nI_ m) (nI (mw + 1)) (nI c) (nI c) (nF S) nx = _
      unfold s_zsolved_83
      rw [if_neg (nI_ge (by omega) (by omega))]
    rw [step]
    refine ih m (c + 1) S3 (by omega) (by omega) (fun i k hi hk => ?_) (fun i k hi hk => ?_) (fun z => ?_)
    · rw [hS3 i k hi hk]; exact stepM_lt (by omega) i k
    · rw [hS3 i k hi (by omega)]
      exact stepM_unit (w := mw + 1) hp a1 a2 h1 a3 (by omega) h2 i k hi hk
    · rw [← h3 z, ← stepM_ker (f := fun i k => S ((mw + 1) * i + k)) (w := mw + 1) hp a1 (show c < sz by omega) a3 (h1 a c a1 (by omega)) z]
      constructor
      · intro q i hi
        rw [← q i hi]
        exact congrArg (· % p) (sm_congr fun k hk => by rw [← hS3 i k hi hk])
      · intro q i hi
        rw [← q i hi]
        exact congrArg (· % p) (sm_congr fun k hk => by
          show S3 ((mw + 1) * i + k) * z k = _
          rw [hS3 i k hi hk])
theorem p_zsolved (hF : 40000 < F) (hp : isP p) (hp2 : p ≤ 32003) (hsz : sz ≤ 40) (hmw : mw ≤ sz) {V : Nat → Nat → Nat} {x : Nat → Nat} (hI : IndV p sz mw V) (hVl : ∀ k i, k < mw → i < sz → V k i < p) (hxl : ∀ i, i < sz → x i < p) {vec now sys next : Nat → Nat} (hv : ∀ k i, k < mw → i < sz → vec (40 * k + i) = V k i) (hn : ∀ i, i < sz → now i = x i) (hnx : ∀ j, 40 ≤ j → next j = 0) :
    ∃ r S' next', m_zsolved F (nI sz) (nI p) (nI mw) (nF vec) (nF now) (nF sys) (nF next) = some (nI r, nF S', nF next') ∧ (∀ j, 40 ≤ j → next' j = 0) ∧
      ((r = 1 ∧ InS p sz mw V x (fun k => (p - next' k) % p) ∧ ∀ k, k < mw → next' k < p) ∨ (r = 0 ∧ ¬ ∃ a, InS p sz mw V x a)) := by
  have hpp := hp.1
  have hXI : IndV p sz mw (fun k i => if k = mw then x i else V k i) := hI.congr fun k i hk => by rw [if_neg (show ¬ k = mw by omega)]
  obtain ⟨S1, a1, a2⟩ := p_zs9 (F := F) (p := p) (mw := mw) (vec := vec) (now := now) (X := fun k i => if k = mw then x i else V k i) (nx := nF next) (by omega) hsz (by omega) (fun k i hk hi => by rw [if_neg (show ¬ k = mw by omega)]; exact hv k i hk hi) (fun i hi => by rw [if_pos rfl]; exact hn i hi) sz F 0 sys (by omega) (by omega) (fun i' k' h => by omega)
  obtain ⟨S2, b1, b2, b3, b4⟩ := p_zs83 (F := F) (nx := nF next) (vI := nF vec) (nI_ := nF now) hF hp hp2 hsz hmw hXI mw F 0 S1 (by omega) (by omega) (fun i k hi hk => by
    rw [a1 i k hi hk]
    by_cases q : k = mw
    · rw [if_pos q]; exact hxl i hi
    · rw [if_neg q]; exact hVl k i (by omega) hi) (fun i k _ hk => by omega) (fun z => by
    constructor
    · intro q i hi
      rw [← q i hi]
      exact congrArg (· % p) (sm_congr fun k hk => by
        show _ = S1 ((mw + 1) * i + k) * z k
        rw [a1 i k hi hk])
    · intro q i hi
      rw [← q i hi]
      exact congrArg (· % p) (sm_congr fun k hk => by
        show S1 ((mw + 1) * i + k) * z k = _
        rw [a1 i k hi hk]))
  have hrow : ∀ (z : Nat → Nat) i, i < sz → sm (mw + 1) (fun k => S2 ((mw + 1) * i + k) * z k) % p = ((if i < mw then z i else 0) + S2 ((mw + 1) * i + mw) * z mw) % p := by
    intro z i hi
    rw [sm_s]
    have : sm mw (fun k => S2 ((mw + 1) * i + k) * z k) = if i < mw then z i else 0 := by
      by_cases q : i < mw
      · rw [if_pos q, sm_one q (x := z i) (fun k hk hne => by rw [b2 i k hi hk, if_neg (fun e => hne e.symm), Nat.zero_mul]) (by rw [b2 i i hi q, if_pos rfl, Nat.one_mul])]
      · rw [if_neg q, sm_zero (fun k hk => by rw [b2 i k hi hk, if_neg (by omega), Nat.zero_mul])]
    rw [this]
  have hker : ∀ z : Nat → Nat, z mw = 1 → (KS p sz (mw + 1) (fun i k => S2 ((mw + 1) * i + k)) z ↔ InS p sz mw V x z) := by
    intro z hz
    rw [b3 z]
    have e : ∀ i, i < sz → sm (mw + 1) (fun k => (if k = mw then x i else V k i) * z k) = x i + sm mw (fun k => z k * V k i) := by
      intro i hi
      rw [sm_s]
      try dsimp only
      rw [if_pos rfl, hz, Nat.mul_one, Nat.add_comm]
      refine congrArg (x i + ·) (sm_congr fun k hk => ?_)
      rw [if_neg (show ¬ k = mw by omega), Nat.mul_comm]
    constructor
    · intro q i hi
      have := q i hi
      rw [e i hi] at this
      exact this
    · intro q i hi
      show sm (mw + 1) (fun k => (if k = mw then x i else V k i) * z k) % p = 0
      rw [e i hi]
      exact q i hi
  have key424 : ∀ (d m k : Nat) (nx : Nat → Nat), k + d = mw → d < m → (∀ y, y < k → nx y = S2 ((mw + 1) * y + mw)) → (∀ j, 40 ≤ j → nx j = 0) → ∃ nx', (∀ y, y < mw → nx' y = S2 ((mw + 1) * y + mw)) ∧ (∀ j, 40 ≤ j → nx' j = 0) ∧ b_zsolved_424 F (nI sz) (nI p) (nI mw) (nF vec) (nF now) m (nI (mw + 1)) (nI k) (nF S2) (nF nx) = some (1, nF S2, nF nx') := by
    intro d
    induction d with
    | zero =>
      intro m k nx hk hm h1 h2
      obtain ⟨m, rfl⟩ : ∃ q, m = q + 1 := ⟨m - 1, by omega⟩
      refine ⟨nx, fun y hy => h1 y (by omega), h2, ?_⟩
      show s_zsolved_424 F (nI sz) (nI p) (nI mw) (nF vec) (nF now) (b_zsolved_424 F (nI sz) (nI p) (nI mw) (nF vec) (nF now) m) (nI (mw + 1)) (nI k) (nF S2) (nF nx) = _
      unfold s_zsolved_424
      rw [if_pos (nI_le (by omega) (by omega))]
    | succ d ih =>
      intro m k nx hk hm h1 h2
      obtain ⟨m, rfl⟩ : ∃ q, m = q + 1 := ⟨m - 1, by omega⟩
      obtain ⟨nx', c1, c2, c3⟩ := ih m (k + 1) (fun j => if j = k then S2 ((mw + 1) * k + mw) else nx j) (by omega) (by omega) (fun y hy => by
        show (if y = k then _ else nx y) = _
        by_cases q : y = k
        · rw [if_pos q, q]
        · rw [if_neg q]; exact h1 y (by omega)) (fun j hj => by
        show (if j = k then _ else nx j) = 0
        rw [if_neg (by omega)]; exact h2 j hj)
      refine ⟨nx', c1, c2, ?_⟩
      rw [← c3]
      show s_zsolved_424 F (nI sz) (nI p) (nI mw) (nF vec) (nF now) (b_zsolved_424 F (nI sz) (nI p) (nI mw) (nF vec) (nF now) m) (nI (mw + 1)) (nI k) (nF S2) (nF nx) = _
      unfold s_zsolved_424
      rw [if_neg (nI_ge (by omega) (by omega)), mulW, rdI_n (ixL (by omega) (by omega) (by omega)) (by decide), wrI_n (by omega) (by decide), show nI k + 1 = nI (k + 1) from nI_add k 1]
      show b_zsolved_424 F (nI sz) (nI p) (nI mw) (nF vec) (nF now) m (nI (mw + 1)) (nI (k + 1)) (nF S2) (upd (nF nx) k (nI (S2 ((mw + 1) * k + mw)))) = _
      rw [upd_nF]
  have key390 : ∀ (d m i : Nat), i + d = sz → d < m → mw ≤ i → (∀ y, mw ≤ y → y < i → S2 ((mw + 1) * y + mw) = 0) →
      (∃ y, mw ≤ y ∧ y < sz ∧ S2 ((mw + 1) * y + mw) ≠ 0 ∧ b_zsolved_390 F (nI sz) (nI p) (nI mw) (nF vec) (nF now) m (nI (mw + 1)) (nI i) (nF S2) (nF next) = some (0, nF S2, nF next)) ∨
      ((∀ y, mw ≤ y → y < sz → S2 ((mw + 1) * y + mw) = 0) ∧ b_zsolved_390 F (nI sz) (nI p) (nI mw) (nF vec) (nF now) m (nI (mw + 1)) (nI i) (nF S2) (nF next) = b_zsolved_424 F (nI sz) (nI p) (nI mw) (nF vec) (nF now) F (nI (mw + 1)) (nI 0) (nF S2) (nF next)) := by
    intro d
    induction d with
    | zero =>
      intro m i hi hm hmi h1
      obtain ⟨m, rfl⟩ : ∃ q, m = q + 1 := ⟨m - 1, by omega⟩
      refine Or.inr ⟨fun y ha hb => h1 y ha (by omega), ?_⟩
      show s_zsolved_390 F (nI sz) (nI p) (nI mw) (nF vec) (nF now) (b_zsolved_390 F (nI sz) (nI p) (nI mw) (nF vec) (nF now) m) (nI (mw + 1)) (nI i) (nF S2) (nF next) = _
      unfold s_zsolved_390
      rw [if_pos (nI_le (by omega) (by omega))]
      rfl
    | succ d ih =>
      intro m i hi hm hmi h1
      obtain ⟨m, rfl⟩ : ∃ q, m = q + 1 := ⟨m - 1, by omega⟩
      have hl := b1 i mw (by omega) (by omega)
      have unf : b_zsolved_390 F (nI sz) (nI p) (nI mw) (nF vec) (nF now) (m + 1) (nI (mw + 1)) (nI i) (nF S2) (nF next) = if S2 ((mw + 1) * i + mw) = 0 then b_zsolved_390 F (nI sz) (nI p) (nI mw) (nF vec) (nF now) m (nI (mw + 1)) (nI (i + 1)) (nF S2) (nF next) else some (0, nF S2, nF next) := by
        show s_zsolved_390 F (nI sz) (nI p) (nI mw) (nF vec) (nF now) (b_zsolved_390 F (nI sz) (nI p) (nI mw) (nF vec) (nF now) m) (nI (mw + 1)) (nI i) (nF S2) (nF next) = _
        unfold s_zsolved_390
        rw [if_neg (nI_ge (by omega) (by omega)), mulW, rdI_n (ixL (by omega) (by omega) (by omega)) (by decide), show nI i + 1 = nI (i + 1) from nI_add i 1]
        show (if nI (S2 ((mw + 1) * i + mw)) = 0 then _ else _) = _
        by_cases z : S2 ((mw + 1) * i + mw) = 0
        · rw [z, if_pos (show nI 0 = 0 from rfl), if_pos rfl]
        · rw [if_neg (nI_ne0 (by omega) (by omega)), if_neg z]
      rw [unf]
      by_cases z : S2 ((mw + 1) * i + mw) = 0
      · rw [if_pos z]
        exact ih m (i + 1) (by omega) (by omega) (by omega) (fun y ha hb => by
          by_cases q : y = i
          · rw [q]; exact z
          · exact h1 y ha (by omega))
      · rw [if_neg z]
        exact Or.inl ⟨i, hmi, by omega, z, rfl⟩
  have hstart : m_zsolved F (nI sz) (nI p) (nI mw) (nF vec) (nF now) (nF sys) (nF next) = b_zsolved_390 F (nI sz) (nI p) (nI mw) (nF vec) (nF now) F (nI (mw + 1)) (nI mw) (nF S2) (nF next) := by
    rw [← b4, ← a2]
    unfold m_zsolved
    rw [show nI mw + 1 = nI (mw + 1) from nI_add mw 1]
    rfl
  rw [hstart]
  rcases key390 (sz - mw) F mw (by omega) (by omega) (Nat.le_refl _) (fun y ha hb => by omega) with ⟨y, y1, y2, y3, y4⟩ | ⟨c1, c2⟩
  · refine ⟨0, S2, next, y4, hnx, Or.inr ⟨rfl, fun ⟨a, ha⟩ => y3 ?_⟩⟩
    have hz : InS p sz mw V x (fun k => if k = mw then 1 else a k) := fun i hi => by
      rw [← ha i hi]
      exact congrArg (fun t => (x i + t) % p) (sm_congr fun k hk => by
        dsimp only
        rw [if_neg (show ¬ k = mw by omega)])
    have := (hker (fun k => if k = mw then 1 else a k) (if_pos rfl)).mpr hz y y2
    dsimp only at this
    rw [hrow _ y y2, if_neg (by omega), if_pos rfl, Nat.mul_one, Nat.zero_add, Nat.mod_eq_of_lt (b1 y mw y2 (by omega))] at this
    exact this
  · obtain ⟨nx', e1, e2, e3⟩ := key424 mw F 0 next (by omega) (by omega) (fun y hy => by omega) hnx
    refine ⟨1, S2, nx', by rw [c2]; exact e3, e2, Or.inl ⟨rfl, ?_, fun k hk => by rw [e1 k hk]; exact b1 k mw (by omega) (by omega)⟩⟩
    have hz := (hker (fun k => if k = mw then 1 else (p - nx' k) % p) (if_pos rfl)).mp (fun i hi => by
      dsimp only
      rw [hrow (fun k => if k = mw then 1 else (p - nx' k) % p) i hi, if_pos rfl, Nat.mul_one]
      by_cases q : i < mw
      · have := b1 i mw hi (by omega)
        rw [if_pos q, if_neg (show ¬ i = mw by omega), e1 i q, Nat.mod_add_mod, Nat.sub_add_cancel (by omega), Nat.mod_self]
      · rw [if_neg q, c1 i (by omega) hi, Nat.zero_add, Nat.zero_mod])
    intro i hi
    rw [← hz i hi]
    exact congrArg (fun t => (x i + t) % p) (sm_congr fun k hk => by
      dsimp only
      rw [if_neg (show ¬ k = mw by omega)])
end SOLVED
