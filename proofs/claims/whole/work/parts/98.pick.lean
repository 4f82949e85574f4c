/-! THE CLASS'S BASIS: clearTail, pickBasis. -/
theorem p_addMultipleS_l (F nA p f ta fa len : Nat) (hA : nA < 2 ^ 31) (hp : 0 < p) (hp2 : p ≤ 32003) (hf : f < p + 1) (hta : ta + len ≤ nA) (hfa : fa + len ≤ nA) (hdis : ta + len ≤ fa ∨ fa + len ≤ ta) :
    ∀ (d n i : Nat) (to : Nat → Nat), (∀ j, fa ≤ j → j < fa + len → to j < p) → (∀ j, ta ≤ j → j < ta + len → to j < p) → i + d = len → d < n →
      b_addMultipleS_3 F nA n (nI ta) (nI fa) (nI len) (nI f) (nI p) (nI i) (nF to) = some (nF (fun j => if ta + i ≤ j ∧ j < ta + len then (to j + f * to (fa + (j - ta))) % p else to j)) := by
  intro d
  induction d with
  | zero =>
    intro n i to hfr ho hi hn
    obtain ⟨m, rfl⟩ : ∃ m, n = m + 1 := ⟨n - 1, by omega⟩
    show s_addMultipleS_3 F nA (b_addMultipleS_3 F nA m) (nI ta) (nI fa) (nI len) (nI f) (nI p) (nI i) (nF to) = _
    unfold s_addMultipleS_3
    rw [if_pos (nI_le (by omega) (by omega))]
    congr 2
    funext j
    rw [if_neg (by omega)]
  | succ d ih =>
    intro n i to hfr ho hi hn
    obtain ⟨m, rfl⟩ : ∃ m, n = m + 1 := ⟨n - 1, by omega⟩
    show s_addMultipleS_3 F nA (b_addMultipleS_3 F nA m) (nI ta) (nI fa) (nI len) (nI f) (nI p) (nI i) (nF to) = _
    unfold s_addMultipleS_3
    rw [if_neg (nI_ge (by omega) (by omega)), nI_add, rdI_n (by omega) hA, show nI i + 1 = nI (i + 1) from nI_add i 1]
    have hfi := hfr (fa + i) (by omega) (by omega)
    by_cases h0 : to (fa + i) = 0
    · rw [if_pos (show nF to (fa + i) = 0 by show nI (to (fa + i)) = 0; rw [h0]; rfl)]
      rw [ih m (i + 1) to hfr ho (by omega) (by omega)]
      congr 2
      funext j
      by_cases h1 : j = ta + i
      · rw [if_neg (by omega), if_pos (by omega), h1, show fa + (ta + i - ta) = fa + i by omega, h0, Nat.mul_zero, Nat.add_zero, Nat.mod_eq_of_lt (ho _ (by omega) (by omega))]
      · by_cases h2 : ta + i ≤ j ∧ j < ta + len
        · rw [if_pos (by omega), if_pos h2]
        · rw [if_neg (by omega), if_neg h2]
    · have hti := ho (ta + i) (by omega) (by omega)
      have hm : f * to (fa + i) ≤ 32003 * 32003 := Nat.mul_le_mul (by omega) (by omega)
      rw [if_neg (show ¬ nF to (fa + i) = 0 from nI_ne0 (by omega) (by omega)), nI_add, rdI_n (by omega) hA, nzI_n hp (by omega), wrI_n (by omega) hA]
      show b_addMultipleS_3 F nA m (nI ta) (nI fa) (nI len) (nI f) (nI p) (nI (i + 1)) (upd (nF to) (ta + i) (remI (nI (to (ta + i)) + nI f * nI (to (fa + i))) (nI p))) = _
      rw [pk_mul, nI_add, remI_n (by omega) hp (by omega), upd_nF, ih m (i + 1) _ (fun j hj1 hj2 => by
        rw [if_neg (by omega)]; exact hfr j hj1 hj2) (fun j hj1 hj2 => by
        by_cases h : j = ta + i
        · rw [if_pos h]; exact Nat.mod_lt _ hp
        · rw [if_neg h]; exact ho j hj1 hj2) (by omega) (by omega)]
      congr 2
      funext j
      by_cases h1 : j = ta + i
      · rw [if_neg (by omega), if_pos h1, if_pos (by omega), h1, show fa + (ta + i - ta) = fa + i by omega]
      · by_cases h2 : ta + i ≤ j ∧ j < ta + len
        · rw [if_pos (by omega), if_pos h2, if_neg h1, if_neg (by omega)]
        · rw [if_neg (by omega), if_neg h2, if_neg h1]
theorem p_addMultipleS {F nA p f ta fa len : Nat} (hA : nA < 2 ^ 31) (hp : 0 < p) (hp2 : p ≤ 32003) (hf : f < p + 1) (hta : ta + len ≤ nA) (hfa : fa + len ≤ nA) (hdis : ta + len ≤ fa ∨ fa + len ≤ ta) (hF : len < F) {to : Nat → Nat} (hfr : ∀ j, fa ≤ j → j < fa + len → to j < p) (ho : ∀ j, ta ≤ j → j < ta + len → to j < p) :
    m_addMultipleS F nA (nI ta) (nI fa) (nI len) (nI f) (nI p) (nF to) = some (nF (amN p f ta fa len to to)) := by
  unfold m_addMultipleS
  rw [show (0 : Int32) = nI 0 from rfl, p_addMultipleS_l F nA p f ta fa len hA hp hp2 hf hta hfa hdis len F 0 to hfr ho (by omega) hF]
  rfl
theorem RS_sub {p cnt : Nat} {L L' : Nat → Nat} {row row' : Nat → Nat → Nat} (hL : ∀ i, L i = 0 ∨ L i = 1) (h : ∀ i, i < cnt → L i = 1 → RS p cnt L' row' (row i)) {f : Nat → Nat} (hf : RS p cnt L row f) : RS p cnt L' row' f := by
  obtain ⟨c, hc⟩ := hf
  have := RS_sum (p := p) (cnt := cnt) (L := L') (row := row') c L row cnt h hL
  have e : f = fun j => sm cnt (fun i => L i * (c i * row i j)) % p := funext hc
  rw [e]; exact this
/-- a row changed by a multiple of another: the same space -/
theorem RS_repl {p cnt : Nat} {L : Nat → Nat} {row row' : Nat → Nat → Nat} (hp : 0 < p) (hE : Ech p cnt L row) (hE' : Ech p cnt L row') {l i a : Nat} (hl : L l = 1) (hi : L i = 1) (hne : i ≠ l) (h1 : ∀ j, row' l j = (row l j + a * row i j) % p) (h2 : ∀ q, q ≠ l → row' q = row q) (f : Nat → Nat) : RS p cnt L row' f ↔ RS p cnt L row f := by
  constructor
  · refine RS_sub hE.1 (fun q hq hqL => ?_)
    by_cases e : q = l
    · have e2 : row' q = fun j => (row l j + a * row i j) % p := by rw [e]; exact funext h1
      rw [e2]
      exact RS_addm (RS_row hE hl) (RS_row hE hi) a
    · rw [h2 q e]; exact RS_row hE hqL
  · refine RS_sub hE.1 (fun q hq hqL => ?_)
    by_cases e : q = l
    · have e2 : row q = fun j => (row' l j + (p - a % p) * row' i j) % p := by
        funext j
        have hlt := (hE.2 l hl).2.2.2 j
        rw [e, h1 j, h2 i hne, Nat.mod_add_mod, Nat.add_assoc, ← Nat.add_mul]
        have hm := Nat.mod_lt a hp
        have hd : (a + (p - a % p)) = p * (a / p + 1) := by
          have := Nat.div_add_mod a p
          rw [Nat.mul_succ]
          omega
        rw [hd, Nat.mul_assoc, Nat.add_mul_mod_self_left, Nat.mod_eq_of_lt hlt]
      rw [e2]
      exact RS_addm (RS_row hE' hl) (RS_row hE' hi) _
    · rw [← h2 q e]; exact RS_row hE' hqL
section PICK
variable {F p cnt : Nat}
theorem p_clearTail_l (hF : 40000 < F) (hp : 2 ≤ p) (hp2 : p ≤ 32003) (hcnt : cnt ≤ 126) {Lf : Nat → Nat} {lead : Nat} (hlc : lead < cnt) (hL : Lf lead = 1) :
    ∀ (k m : Nat) (R : Nat → Nat), k ≤ lead → k < m → Ech p cnt Lf (rowF R) → (∀ i, k ≤ i → i < lead → Lf i = 1 → rowF R lead i = 0) →
      ∃ R', b_clearTail_9 F (nI p) (nF Lf) m (nI (lead * 126)) (nI k - nI 1) (nF R) = some (nF R') ∧ Ech p cnt Lf (rowF R') ∧ (∀ q, q ≠ lead → rowF R' q = rowF R q) ∧ (∀ f, RS p cnt Lf (rowF R') f ↔ RS p cnt Lf (rowF R) f) ∧ (∀ i, i < lead → Lf i = 1 → rowF R' lead i = 0) := by
  intro k
  induction k with
  | zero =>
    intro m R hk hm hE hz
    obtain ⟨m, rfl⟩ : ∃ q, m = q + 1 := ⟨m - 1, by omega⟩
    refine ⟨R, ?_, hE, fun _ _ => rfl, fun _ => Iff.rfl, fun i hi hiL => hz i (by omega) hi hiL⟩
    show s_clearTail_9 F (nI p) (nF Lf) (b_clearTail_9 F (nI p) (nF Lf) m) (nI (lead * 126)) (nI 0 - nI 1) (nF R) = _
    unfold s_clearTail_9
    rw [if_pos (by decide +kernel)]
  | succ k ih =>
    intro m R hk hm hE hz
    obtain ⟨m, rfl⟩ : ∃ q, m = q + 1 := ⟨m - 1, by omega⟩
    have e0 : nI (k + 1) - nI 1 = nI k := by rw [pk_sub (by omega), Nat.add_sub_cancel]
    have e1 : nI k + (-1) = nI k - nI 1 := by
      rw [show (-1 : Int32) = - nI 1 from by decide +kernel, Int32.sub_eq_add_neg]
    obtain ⟨r1, r2, r3, r4⟩ := hE.2 lead hL
    have hrk : rowF R lead k = R (lead * 126 + k) := by unfold rowF; rw [if_pos (by omega)]
    have hlt := r4 k
    rw [hrk] at hlt
    have skip : (Lf k = 0 ∨ R (lead * 126 + k) = 0) → b_clearTail_9 F (nI p) (nF Lf) (m + 1) (nI (lead * 126)) (nI (k + 1) - nI 1) (nF R) = b_clearTail_9 F (nI p) (nF Lf) m (nI (lead * 126)) (nI k - nI 1) (nF R) := by
      intro hs
      show s_clearTail_9 F (nI p) (nF Lf) (b_clearTail_9 F (nI p) (nF Lf) m) (nI (lead * 126)) (nI (k + 1) - nI 1) (nF R) = _
      unfold s_clearTail_9
      rw [e0, if_neg (nI_pos (by omega)), nI_add, rdI_n (by omega) (by decide), e1]
      by_cases z : R (lead * 126 + k) = 0
      · rw [if_pos (show nF R (lead * 126 + k) = 0 by show nI (R (lead * 126 + k)) = 0; rw [z]; rfl)]
      · rw [if_neg (show ¬ nF R (lead * 126 + k) = 0 from nI_ne0 (by omega) (by omega)), rdI_n (by omega) (by decide)]
        rcases hs with hs | hs
        · rw [if_pos (show nF Lf k = 0 by show nI (Lf k) = 0; rw [hs]; rfl)]
        · exact absurd hs z
    by_cases hs : Lf k = 0 ∨ R (lead * 126 + k) = 0
    · rw [skip hs]
      refine ih m R (by omega) (by omega) hE (fun i hi hil hiL => ?_)
      by_cases e : i = k
      · rcases hs with hs | hs
        · rw [e, hs] at hiL; omega
        · rw [e, hrk]; exact hs
      · exact hz i (by omega) hil hiL
    · have hLk : Lf k = 1 := by
        rcases hE.1 k with z | z
        · exact absurd (Or.inl z) hs
        · exact z
      have hne : R (lead * 126 + k) ≠ 0 := fun z => hs (Or.inr z)
      obtain ⟨s1, s2, s3, s4⟩ := hE.2 k hLk
      obtain ⟨R1, hR1⟩ : ∃ R1, R1 = amN p (p - R (lead * 126 + k)) (lead * 126) (k * 126) (k + 1) R R := ⟨_, rfl⟩
      have hrow : ∀ j, rowF R1 lead j = (rowF R lead j + (p - R (lead * 126 + k)) * rowF R k j) % p := by
        intro j
        by_cases q : j < 126
        · by_cases z : j ≤ k
          · unfold rowF
            rw [if_pos q, if_pos q, if_pos q, hR1]
            unfold amN
            rw [if_pos (by omega), show lead * 126 + j - lead * 126 = j by omega]
          · rw [s3 j (by omega), Nat.mul_zero, Nat.add_zero, Nat.mod_eq_of_lt (r4 j)]
            unfold rowF
            rw [if_pos q, if_pos q, hR1]
            unfold amN
            rw [if_neg (by omega)]
        · have : ∀ (X : Nat → Nat) a, rowF X a j = 0 := fun X a => by unfold rowF; rw [if_neg q]
          rw [this, this, this, Nat.mul_zero, Nat.zero_add, Nat.zero_mod]
      have hoth : ∀ q, q ≠ lead → rowF R1 q = rowF R q := by
        intro q hq
        funext j
        unfold rowF
        by_cases z : j < 126
        · rw [if_pos z, if_pos z, hR1]
          unfold amN
          rw [if_neg (by
            rcases Nat.lt_or_ge q lead with y | y
            · omega
            · omega)]
        · rw [if_neg z, if_neg z]
      have hE1 : Ech p cnt Lf (rowF R1) := by
        refine ⟨hE.1, fun i hi => ?_⟩
        by_cases e : i = lead
        · rw [e]
          refine ⟨r1, ?_, fun j hj => ?_, fun j => ?_⟩
          · rw [hrow, r2, s3 lead (by omega), Nat.mul_zero, Nat.add_zero, Nat.mod_eq_of_lt (by omega)]
          · rw [hrow, r3 j hj, s3 j (by omega), Nat.mul_zero, Nat.add_zero, Nat.zero_mod]
          · rw [hrow]; exact Nat.mod_lt _ (by omega)
        · rw [hoth i e]; exact hE.2 i hi
      have hk0 : rowF R1 lead k = 0 := by
        rw [hrow, s2, Nat.mul_one, hrk, show R (lead * 126 + k) + (p - R (lead * 126 + k)) = p by omega, Nat.mod_self]
      obtain ⟨R2, a1, a2, a3, a4, a5⟩ := ih m R1 (by omega) (by omega) hE1 (fun i hi hil hiL => by
        by_cases e : i = k
        · rw [e]; exact hk0
        · rw [hrow, hz i (by omega) hil hiL, s3 i (by omega), Nat.mul_zero, Nat.add_zero, Nat.zero_mod])
      refine ⟨R2, ?_, a2, fun q hq => by rw [a3 q hq, hoth q hq], fun f => (a4 f).trans (RS_repl (by omega) hE hE1 hL hLk (by omega) hrow hoth f), a5⟩
      rw [← a1]
      show s_clearTail_9 F (nI p) (nF Lf) (b_clearTail_9 F (nI p) (nF Lf) m) (nI (lead * 126)) (nI (k + 1) - nI 1) (nF R) = _
      unfold s_clearTail_9
      rw [e0, if_neg (nI_pos (by omega)), nI_add, rdI_n (by omega) (by decide), e1, if_neg (show ¬ nF R (lead * 126 + k) = 0 from nI_ne0 (by omega) (by omega)), rdI_n (by omega) (by decide), if_neg (show ¬ nF Lf k = 0 by show ¬ nI (Lf k) = 0; rw [hLk]; decide +kernel)]
      show bd1 (m_addMultipleS F 15876 (nI (lead * 126)) (nI k * 126) (nI k + 1) (nI p - nI (R (lead * 126 + k))) (nI p) (nF R)) _ = _
      rw [show nI k * 126 = nI (k * 126) from pk_mul k 126, show nI k + 1 = nI (k + 1) from nI_add k 1, pk_sub (by omega), p_addMultipleS (by decide) (by omega) hp2 (by omega) (by omega) (by omega) (by omega) (by omega) (fun j hj1 hj2 => by
        have := s4 (j - k * 126)
        unfold rowF at this
        rw [if_pos (by omega), show k * 126 + (j - k * 126) = j by omega] at this
        exact this) (fun j hj1 hj2 => by
        have := r4 (j - lead * 126)
        unfold rowF at this
        rw [if_pos (by omega), show lead * 126 + (j - lead * 126) = j by omega] at this
        exact this), bd1_n, hR1]
theorem p_clearTail (hF : 40000 < F) (hp : 2 ≤ p) (hp2 : p ≤ 32003) (hcnt : cnt ≤ 126) {Lf R : Nat → Nat} {lead : Nat} (hlc : lead < cnt) (hL : Lf lead = 1) (hE : Ech p cnt Lf (rowF R)) :
    ∃ R', m_clearTail F (nI p) (nF Lf) (nI lead) (nF R) = some (nF R') ∧ Ech p cnt Lf (rowF R') ∧ (∀ q, q ≠ lead → rowF R' q = rowF R q) ∧ (∀ f, RS p cnt Lf (rowF R') f ↔ RS p cnt Lf (rowF R) f) ∧ (∀ i, i < lead → Lf i = 1 → rowF R' lead i = 0) := by
  unfold m_clearTail
  rw [show nI lead * 126 = nI (lead * 126) from pk_mul lead 126]
  exact p_clearTail_l hF hp hp2 hcnt hlc hL lead F R (Nat.le_refl _) (by omega) hE (fun i a b => by omega)
end PICK
