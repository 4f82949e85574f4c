/-! THE CLASS'S SPACE: a vector comes to the rows. -/
def rowF (R : Nat → Nat) (i j : Nat) : Nat := if j < 126 then R (i * 126 + j) else 0
theorem amN_lt {p f ta fa len : Nat} {to frm : Nat → Nat} (hp : 0 < p) (h : ∀ j, to j < p) (j : Nat) : amN p f ta fa len to frm j < p := by
  unfold amN
  split
  · exact Nat.mod_lt _ hp
  · exact h j
/-- what keepWork makes of the rows -/
def keepR (p i inv : Nat) (w R : Nat → Nat) : Nat → Nat := amN p inv (i * 126) 0 (i + 1) (fun j => if i * 126 ≤ j ∧ j < i * 126 + 126 then 0 else R j) w
theorem keepR_lt {p i inv : Nat} {w R : Nat → Nat} (hp : 0 < p) (h : ∀ j, R j < p) (j : Nat) : keepR p i inv w R j < p := amN_lt hp (fun j => by
  split
  · exact hp
  · exact h j) j
theorem keepR_own {p i inv j : Nat} {w R : Nat → Nat} (hj : j ≤ i) (hi : i < 126) : rowF (keepR p i inv w R) i j = inv * w j % p := by
  unfold rowF keepR amN
  dsimp only
  rw [if_pos (by omega), if_pos (by omega), if_pos (by omega), Nat.zero_add, Nat.zero_add, Nat.add_sub_cancel_left]
theorem keepR_above {p i inv j : Nat} {w R : Nat → Nat} (hj : i < j) (hi : i < 126) : rowF (keepR p i inv w R) i j = 0 := by
  unfold rowF keepR amN
  dsimp only
  by_cases h : j < 126
  · rw [if_pos h, if_neg (by omega), if_pos (by omega)]
  · rw [if_neg h]
theorem keepR_other {p i inv a j : Nat} {w R : Nat → Nat} (ha : a ≠ i) (hi : i < 126) : rowF (keepR p i inv w R) a j = rowF R a j := by
  unfold rowF keepR amN
  dsimp only
  by_cases h : j < 126
  · have h1 : ¬ (i * 126 ≤ a * 126 + j ∧ a * 126 + j < i * 126 + 126) := by
      rcases Nat.lt_or_ge a i with q | q
      · omega
      · omega
    rw [if_pos h, if_pos h, if_neg (by omega), if_neg h1]
  · rw [if_neg h, if_neg h]
theorem p_keepWork {F p i kc : Nat} (hF : 40000 < F) (hp : 2 ≤ p) (hp2 : p ≤ 32003) (hi : i < 126) (hkc : kc < 126) {w R Lf K : Nat → Nat} (hw : ∀ j, j ≤ i → w j < p) :
    m_keepWork F (nI p) (nF w) (nI i) (nI kc) (nF R) (nF Lf) (nF K) = some (nI (kc + 1), nF (keepR p i (w i ^ (p - 2) % p) w R), nF (fun j => if j = i then 1 else Lf j), nF (fun j => if j = kc then i else K j)) := by
  unfold m_keepWork
  rw [if_pos (show nI kc < 126 from nI_lt (show kc < 126 from hkc) (by decide)), nlit 126, pk_mul, nI_add, nlit 0, p_fillR (by decide) (by omega) (by omega) (by omega)]
  have e0 : (fun j => if i * 126 ≤ j ∧ j < i * 126 + 126 then nI 0 else nF R j) = nF (fun j => if i * 126 ≤ j ∧ j < i * 126 + 126 then 0 else R j) := by
    funext j
    unfold nF
    dsimp only
    by_cases h : i * 126 ≤ j ∧ j < i * 126 + 126
    · rw [if_pos h, if_pos h]
    · rw [if_neg h, if_neg h]
  rw [e0, bd1_n, rdI_n hi (by decide)]
  show bd1 (m_inverse F (nI (w i)) (nI p)) _ = _
  rw [p_inverse hp hp2 (hw i (Nat.le_refl _)) (by omega), bd1_n, nlit 1, nI_add]
  have hinv : w i ^ (p - 2) % p < p := Nat.mod_lt _ (by omega)
  rw [p_addMultiple (by decide) (by decide) (by omega) hp2 (by omega) (by omega) (by omega) (by omega) (fun j _ hj => hw j (by omega)) (fun j hj1 hj2 => by
    rw [if_pos (by omega)]; omega), bd1_n, show vp_nar .boolean (nI 1) = nI 1 from by decide +kernel, wrI_n hi (by decide), wrI_n hkc (by decide), upd_nF, upd_nF, nI_add]
  rfl
section ABS
variable {F p cnt : Nat}
/-- one more row, made of w: the combinations of the rows and w -/
theorem absorb_new (hp : isP p) {L : Nat → Nat} {row row' : Nat → Nat → Nat} (hE : Ech p cnt L row) {i : Nat} (hi : i < cnt) (hL : L i = 0) {x : Nat → Nat} (hx : ∀ j, x j < p) (hxi : x i ≠ 0) (hx0 : ∀ j, i < j → x j = 0)
    (h1 : ∀ j, row' i j = (x i ^ (p - 2) % p) * x j % p) (h2 : ∀ a j, a ≠ i → row' a j = row a j) : Ech p cnt (fun j => if j = i then 1 else L j) row' := by
  have hp2 := hp.1
  refine ⟨fun j => ?_, fun j hj => ?_⟩
  · show (if j = i then 1 else L j) = 0 ∨ (if j = i then 1 else L j) = 1
    by_cases e : j = i
    · rw [if_pos e]; exact Or.inr rfl
    · rw [if_neg e]; exact hE.1 j
  · by_cases e : j = i
    · subst e
      refine ⟨hi, ?_, fun q hq => ?_, fun q => ?_⟩
      · rw [h1, Nat.mul_comm]
        exact fm_pow hp (by omega) (hx _)
      · rw [h1, hx0 q hq, Nat.mul_zero, Nat.zero_mod]
      · rw [h1]; exact Nat.mod_lt _ (by omega)
    · have hj' : L j = 1 := by
        have : (if j = i then 1 else L j) = 1 := hj
        rw [if_neg e] at this
        exact this
      obtain ⟨a1, a2, a3, a4⟩ := hE.2 j hj'
      exact ⟨a1, by rw [h2 _ _ e]; exact a2, fun q hq => by rw [h2 _ _ e]; exact a3 q hq, fun q => by rw [h2 _ _ e]; exact a4 q⟩
/-- the old combinations are combinations of the new rows too -/
theorem absorb_old {L : Nat → Nat} {row row' : Nat → Nat → Nat} {i : Nat} (hL : L i = 0) (h2 : ∀ a j, a ≠ i → row' a j = row a j) {f : Nat → Nat} (hf : RS p cnt L row f) : RS p cnt (fun j => if j = i then 1 else L j) row' f := by
  obtain ⟨c, hc⟩ := hf
  refine ⟨fun q => if q = i then 0 else c q, fun j => ?_⟩
  rw [hc j]
  congr 1
  unfold LC
  apply sm_congr
  intro q _
  dsimp only
  by_cases e : q = i
  · rw [if_pos e, if_pos e, Nat.zero_mul, Nat.mul_zero, e, hL, Nat.zero_mul]
  · rw [if_neg e, if_neg e, h2 _ _ e]
end ABS
/-- what absorbWork does: nothing new, or one row more -/
def Absorbed (p cnt : Nat) (w R Lf K : Nat → Nat) (kc : Nat) (R' Lf' K' : Nat → Nat) (kc' : Nat) : Prop :=
  (R' = R ∧ Lf' = Lf ∧ K' = K ∧ kc' = kc ∧ RS p cnt Lf (rowF R) w) ∨
  ∃ (i : Nat) (x u : Nat → Nat), i < cnt ∧ Lf i = 0 ∧ x i ≠ 0 ∧ (∀ j, x j < p) ∧ (∀ j, i < j → x j = 0) ∧ RS p cnt Lf (rowF R) u ∧ (∀ j, x j = (w j + u j) % p) ∧
    R' = keepR p i (x i ^ (p - 2) % p) x R ∧ Lf' = (fun j => if j = i then 1 else Lf j) ∧ K' = (fun j => if j = kc then i else K j) ∧ kc' = kc + 1
theorem p_absorb_l {F p cnt kc : Nat} (hF : 40000 < F) (hp : 2 ≤ p) (hp2 : p ≤ 32003) (hcnt : cnt ≤ 126) {w R Lf K : Nat → Nat} (hkc : ∀ i, i < cnt → Lf i = 0 → kc < 126) (hE : Ech p cnt Lf (rowF R)) :
    ∀ (k n : Nat) (x : Nat → Nat), k ≤ cnt → k < n → (∀ j, x j < p) → (∀ j, k ≤ j → x j = 0) → (∃ u, RS p cnt Lf (rowF R) u ∧ ∀ j, x j = (w j + u j) % p) → (∀ j, w j < p) →
      ∃ kc' R' Lf' K' x', b_absorbWork_10 F (nI cnt) (nI p) n (nI k - nI 1) (nI kc) (nF R) (nF Lf) (nF K) (nF x) = some (nI kc', nF R', nF Lf', nF K', nF x') ∧ (∀ j, x' j < p) ∧ (∀ j, 126 ≤ j → x' j = 0) ∧ Absorbed p cnt w R Lf K kc R' Lf' K' kc' := by
  intro k
  induction k with
  | zero =>
    intro n x hk hn hx hx0 hu hw
    obtain ⟨m, rfl⟩ : ∃ m, n = m + 1 := ⟨n - 1, by omega⟩
    refine ⟨kc, R, Lf, K, x, ?_, hx, fun j hj => hx0 j (by omega), Or.inl ⟨rfl, rfl, rfl, rfl, ?_⟩⟩
    · show s_absorbWork_10 F (nI cnt) (nI p) (b_absorbWork_10 F (nI cnt) (nI p) m) (nI 0 - nI 1) (nI kc) (nF R) (nF Lf) (nF K) (nF x) = _
      unfold s_absorbWork_10
      rw [if_pos (by decide +kernel)]
    · obtain ⟨u, hu1, hu2⟩ := hu
      have h := RS_addm (RS_zero p cnt Lf (rowF R)) hu1 (p - 1)
      have e : w = fun j => (0 + (p - 1) * u j) % p := by
        funext j
        have h1 := hu2 j
        rw [hx0 j (by omega)] at h1
        have h2 := hw j
        have hul : u j < p := by
          obtain ⟨c, hc⟩ := hu1
          rw [hc]; exact Nat.mod_lt _ (by omega)
        rw [Nat.zero_add]
        have e1 : (p - 1) * u j + u j = p * u j := by rw [← Nat.succ_mul, show (p - 1).succ = p by omega]
        -- w + u is 0 or p
        rcases Nat.lt_or_ge (w j + u j) p with q | q
        · rw [Nat.mod_eq_of_lt q] at h1
          have a1 : w j = 0 := by omega
          have a2 : u j = 0 := by omega
          rw [a1, a2, Nat.mul_zero, Nat.zero_mod]
        · rw [Nat.mod_eq_sub_mod q, Nat.mod_eq_of_lt (by omega)] at h1
          have e2 : w j = p - u j := by omega
          have e3 : (p - 1) * u j = p * (u j - 1) + (p - u j) := by
            have : p * u j = p * (u j - 1) + p := by
              rw [← Nat.mul_succ]; congr 1; omega
            omega
          rw [e3, Nat.mul_add_mod, Nat.mod_eq_of_lt (by omega), e2]
      rw [e]
      exact h
  | succ k ih =>
    intro n x hk hn hx hx0 hu hw
    obtain ⟨m, rfl⟩ : ∃ m, n = m + 1 := ⟨n - 1, by omega⟩
    have e0 : nI (k + 1) - nI 1 = nI k := by rw [pk_sub (by omega), Nat.add_sub_cancel]
    have e1 : nI k + (-1) = nI k - nI 1 := by
      rw [show (-1 : Int32) = - nI 1 from by decide +kernel, Int32.sub_eq_add_neg]
    by_cases hz : x k = 0
    · have step : b_absorbWork_10 F (nI cnt) (nI p) (m + 1) (nI (k + 1) - nI 1) (nI kc) (nF R) (nF Lf) (nF K) (nF x) = b_absorbWork_10 F (nI cnt) (nI p) m (nI k - nI 1) (nI kc) (nF R) (nF Lf) (nF K) (nF x) := by
        show s_absorbWork_10 F (nI cnt) (nI p) (b_absorbWork_10 F (nI cnt) (nI p) m) (nI (k + 1) - nI 1) (nI kc) (nF R) (nF Lf) (nF K) (nF x) = _
        unfold s_absorbWork_10
        rw [e0, if_neg (nI_pos (by omega)), rdI_n (by omega) (by decide), if_pos (by show nI (x k) = 0; rw [hz]; rfl), e1]
      rw [step]
      refine ih m x (by omega) (by omega) hx (fun j hj => ?_) hu hw
      by_cases e : j = k
      · rw [e]; exact hz
      · exact hx0 j (by omega)
    · have hxk := hx k
      have hne : ¬ nI (x k) = 0 := nI_ne0 (by omega) (by omega)
      rcases hE.1 k with hL | hL
      · -- a new row
        obtain ⟨u, hu1, hu2⟩ := hu
        refine ⟨kc + 1, keepR p k (x k ^ (p - 2) % p) x R, fun j => if j = k then 1 else Lf j, fun j => if j = kc then k else K j, x, ?_, hx, fun j hj => hx0 j (by omega), Or.inr ⟨k, x, u, by omega, hL, hz, hx, fun j hj => hx0 j (by omega), hu1, hu2, rfl, rfl, rfl, rfl⟩⟩
        show s_absorbWork_10 F (nI cnt) (nI p) (b_absorbWork_10 F (nI cnt) (nI p) m) (nI (k + 1) - nI 1) (nI kc) (nF R) (nF Lf) (nF K) (nF x) = _
        unfold s_absorbWork_10
        rw [e0, if_neg (nI_pos (by omega)), rdI_n (by omega) (by decide), if_neg (by show ¬ nI (x k) = 0; exact hne), rdI_n (by omega) (by decide), if_pos (by show nI (Lf k) = 0; rw [hL]; rfl), p_keepWork hF hp hp2 (by omega) (hkc k (by omega) hL) (fun j _ => hx j)]
        rfl
      · -- take the row away
        obtain ⟨r1, r2, r3, r4⟩ := hE.2 k hL
        have hRk : ∀ j, k * 126 ≤ j → j < k * 126 + (k + 1) → R j < p := by
          intro j hj1 hj2
          have := r4 (j - k * 126)
          unfold rowF at this
          rw [if_pos (by omega), show k * 126 + (j - k * 126) = j by omega] at this
          exact this
        have hxx : ∀ j, amN p (p - x k) 0 (k * 126) (k + 1) x R j = (x j + (p - x k) * rowF R k j) % p := by
          intro j
          unfold amN
          by_cases h : 0 ≤ j ∧ j < 0 + (k + 1)
          · rw [if_pos h]
            unfold rowF
            rw [if_pos (by omega), Nat.sub_zero]
          · rw [if_neg h, r3 j (by omega), Nat.mul_zero, Nat.add_zero, Nat.mod_eq_of_lt (hx j)]
        have step : b_absorbWork_10 F (nI cnt) (nI p) (m + 1) (nI (k + 1) - nI 1) (nI kc) (nF R) (nF Lf) (nF K) (nF x) = b_absorbWork_10 F (nI cnt) (nI p) m (nI k - nI 1) (nI kc) (nF R) (nF Lf) (nF K) (nF (amN p (p - x k) 0 (k * 126) (k + 1) x R)) := by
          show s_absorbWork_10 F (nI cnt) (nI p) (b_absorbWork_10 F (nI cnt) (nI p) m) (nI (k + 1) - nI 1) (nI kc) (nF R) (nF Lf) (nF K) (nF x) = _
          unfold s_absorbWork_10
          rw [e0, if_neg (nI_pos (by omega)), rdI_n (by omega) (by decide), if_neg (by show ¬ nI (x k) = 0; exact hne), rdI_n (by omega) (by decide), if_neg (by show ¬ nI (Lf k) = 0; rw [hL]; decide +kernel), rdI_n (by omega) (by decide)]
          show bd1 (m_addMultiple F 126 15876 (nF R) 0 (nI k * 126) (nI k + 1) (nI p - nI (x k)) (nI p) (nF x)) _ = _
          rw [nlit 0, nlit 126, show nI k + 1 = nI (k + 1) from nI_add k 1, pk_mul, pk_sub (by omega), p_addMultiple (by decide) (by decide) (by omega) hp2 (by omega) (by omega) (by omega) (by omega) (fun j hj1 hj2 => hRk j hj1 hj2) (fun j _ _ => hx j), bd1_n, e1]
        rw [step]
        refine ih m _ (by omega) (by omega) (fun j => amN_lt (by omega) hx j) (fun j hj => ?_) ?_ hw
        · rw [hxx]
          by_cases e : j = k
          · subst e
            rw [r2, Nat.mul_one, show x j + (p - x j) = p by omega, Nat.mod_self]
          · rw [hx0 j (by omega), r3 j (by omega), Nat.mul_zero, Nat.add_zero, Nat.zero_mod]
        · obtain ⟨u, hu1, hu2⟩ := hu
          refine ⟨fun j => (u j + (p - x k) * rowF R k j) % p, RS_addm hu1 (RS_row hE hL) (p - x k), fun j => ?_⟩
          rw [hxx, hu2 j, Nat.add_mod, Nat.mod_mod, ← Nat.add_mod, Nat.add_assoc, Nat.add_mod, Nat.add_mod (w j), Nat.mod_mod]
theorem p_absorb {F p cnt kc : Nat} (hF : 40000 < F) (hp : 2 ≤ p) (hp2 : p ≤ 32003) (hcnt : cnt ≤ 126) {w R Lf K : Nat → Nat} (hkc : ∀ i, i < cnt → Lf i = 0 → kc < 126) (hE : Ech p cnt Lf (rowF R)) (hw : ∀ j, w j < p) (hw0 : ∀ j, cnt ≤ j → w j = 0) :
    ∃ kc' R' Lf' K' x', m_absorbWork F (nI cnt) (nI p) (nI kc) (nF R) (nF Lf) (nF K) (nF w) = some (nI kc', nF R', nF Lf', nF K', nF x') ∧ (∀ j, x' j < p) ∧ (∀ j, 126 ≤ j → x' j = 0) ∧ Absorbed p cnt w R Lf K kc R' Lf' K' kc' := by
  unfold m_absorbWork
  rw [nlit]
  exact p_absorb_l hF hp hp2 hcnt hkc hE cnt F w (Nat.le_refl _) (by omega) hw hw0 ⟨fun _ => 0, RS_zero p cnt Lf (rowF R), fun j => by rw [Nat.add_zero, Nat.mod_eq_of_lt (hw j)]⟩ hw
