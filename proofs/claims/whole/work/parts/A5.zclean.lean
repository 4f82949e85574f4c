/-! THE REFERENCE'S SPACE: clean. -/
section ZCLEAN
variable {F p cnt : Nat}
theorem p_zclean49 {monos pp : Int32} {hsI : Nat → Int32} {i : Nat} (hi : i < 126) {x : Nat → Nat} : ∀ (d m k : Nat) (R : Nat → Nat), k + d = i → d < m → b_zclean_49 F monos pp hsI m (nI i) (nI k) (nF R) (nF x) = some (nF (fun q => if 126 * i + k ≤ q ∧ q < 126 * i + i then x (q - 126 * i) else R q), nF x) := by
  intro d
  induction d with
  | zero =>
    intro m k R hk hm
    obtain ⟨m, rfl⟩ : ∃ q, m = q + 1 := ⟨m - 1, by omega⟩
    show s_zclean_49 F monos pp hsI (b_zclean_49 F monos pp hsI m) (nI i) (nI k) (nF R) (nF x) = _
    unfold s_zclean_49
    rw [if_pos (nI_le (by omega) (by omega))]
    congr 3
    funext q
    rw [if_neg (by omega)]
  | succ d ih =>
    intro m k R hk hm
    obtain ⟨m, rfl⟩ : ∃ q, m = q + 1 := ⟨m - 1, by omega⟩
    show s_zclean_49 F monos pp hsI (b_zclean_49 F monos pp hsI m) (nI i) (nI k) (nF R) (nF x) = _
    unfold s_zclean_49
    rw [if_neg (nI_ge (by omega) (by omega)), rdI_n (by omega) (by decide), show (126 : Int32) * nI i = nI (126 * i) from pk_mul 126 i, nI_add, wrI_n (by omega) (by decide), show nI k + 1 = nI (k + 1) from nI_add k 1]
    show b_zclean_49 F monos pp hsI m (nI i) (nI (k + 1)) (upd (nF R) (126 * i + k) (nI (x k))) (nF x) = _
    rw [upd_nF, ih m (k + 1) _ (by omega) (by omega)]
    congr 3
    funext q
    by_cases h1 : q = 126 * i + k
    · rw [if_neg (by omega), if_pos h1, if_pos (by omega), h1, Nat.add_sub_cancel_left]
    · by_cases h2 : 126 * i + k ≤ q ∧ q < 126 * i + i
      · rw [if_pos (by omega), if_pos h2]
      · rw [if_neg (by omega), if_neg h2, if_neg h1]
theorem p_zclean2 (hcnt : cnt ≤ 126) {pp : Int32} {hsI : Nat → Int32} {i : Nat} (hi : i < cnt) {R : Nat → Nat} : ∀ (d m k : Nat) (w : Nat → Nat), k + d = cnt → d < m → (∀ j, j < k → w j = if j < i then R (126 * i + j) else 0) →
    ∃ x, b_zclean_2 F (nI cnt) pp hsI m (nI i) (nI k) (nF R) (nF w) = bd2 (m_zreduce F (nI cnt) pp hsI (nF R) (nF x)) (fun _ w2 => b_zclean_49 F (nI cnt) pp hsI F (nI i) (nI 0) (nF R) w2) ∧ (∀ j, j < cnt → x j = if j < i then R (126 * i + j) else 0) ∧ ∀ j, cnt ≤ j → x j = w j := by
  intro d
  induction d with
  | zero =>
    intro m k w hk hm hw
    obtain ⟨m, rfl⟩ : ∃ q, m = q + 1 := ⟨m - 1, by omega⟩
    refine ⟨w, ?_, fun j hj => hw j (by omega), fun _ _ => rfl⟩
    show s_zclean_2 F (nI cnt) pp hsI (b_zclean_2 F (nI cnt) pp hsI m) (nI i) (nI k) (nF R) (nF w) = _
    unfold s_zclean_2
    rw [if_pos (nI_le (by omega) (by omega))]
    rfl
  | succ d ih =>
    intro m k w hk hm hw
    obtain ⟨m, rfl⟩ : ∃ q, m = q + 1 := ⟨m - 1, by omega⟩
    obtain ⟨x, a1, a2, a3⟩ := ih m (k + 1) (fun j => if j = k then (if k < i then R (126 * i + k) else 0) else w j) (by omega) (by omega) (fun j hj => by
      show (if j = k then _ else w j) = _
      by_cases e : j = k
      · rw [if_pos e, e]
      · rw [if_neg e]; exact hw j (by omega))
    refine ⟨x, ?_, a2, fun j hj => ?_⟩
    · rw [← a1]
      show s_zclean_2 F (nI cnt) pp hsI (b_zclean_2 F (nI cnt) pp hsI m) (nI i) (nI k) (nF R) (nF w) = _
      unfold s_zclean_2 s_zclean_35
      rw [if_neg (nI_ge (by omega) (by omega)), show nI k + 1 = nI (k + 1) from nI_add k 1]
      by_cases z : k < i
      · rw [if_neg (nI_ge z (by omega)), show (126 : Int32) * nI i = nI (126 * i) from pk_mul 126 i, nI_add, rdI_n (by omega) (by decide), wrI_n (by omega) (by decide)]
        show b_zclean_2 F (nI cnt) pp hsI m (nI i) (nI (k + 1)) (nF R) (upd (nF w) k (nI (R (126 * i + k)))) = _
        rw [upd_nF, if_pos z]
      · rw [if_pos (nI_le (by omega) (by omega)), show (0 : Int32) = nI 0 from rfl, wrI_n (by omega) (by decide), upd_nF, if_neg z]
    · rw [a3 j hj]
      show (if j = k then _ else w j) = w j
      rw [if_neg (by omega)]
theorem p_zclean (hF : 40000 < F) (hp : 2 ≤ p) (hp2 : p ≤ 32003) (hcnt : cnt ≤ 126) {R hs w : Nat → Nat} (hE : Ech p cnt hs (rowC cnt R)) {i : Nat} (hL : hs i = 1) :
    ∃ R' w', m_zclean F (nI cnt) (nI p) (nF hs) (nI i) (nF R) (nF w) = some (nF R', nF w') ∧ Ech p cnt hs (rowC cnt R') ∧ (∀ q, q ≠ i → rowC cnt R' q = rowC cnt R q) ∧ (∀ f, RS p cnt hs (rowC cnt R') f → RS p cnt hs (rowC cnt R) f) ∧ (∀ j, j < i → hs j = 1 → rowC cnt R' i j = 0) := by
  obtain ⟨r1, r2, r3, r4⟩ := hE.2 i hL
  obtain ⟨x, a1, a2, a3⟩ := p_zclean2 (F := F) (pp := nI p) (hsI := nF hs) (R := R) hcnt r1 cnt F 0 w (by omega) (by omega) (fun j h => by omega)
  have erow : ∀ j, j < cnt → rowC cnt R i j = R (126 * i + j) := fun j hj => by unfold rowC; rw [if_pos hj]
  have hx : ∀ j, j < cnt → x j < p := fun j hj => by
    rw [a2 j hj]
    split
    · have := r4 j
      rw [erow j hj] at this
      exact this
    · omega
  obtain ⟨li, y, b1, b2, b3, b4, ⟨u, hu1, hu2⟩, _⟩ := p_zreduce (F := F) hF hp hp2 hcnt hE hx
  have hul : ∀ j, u j < p := fun j => by
    obtain ⟨c, hc⟩ := hu1
    rw [hc]; exact Nat.mod_lt _ (by omega)
  have hu0' : ∀ j, cnt ≤ j → u j = 0 := fun j hj => by
    obtain ⟨c, hc⟩ := hu1
    rw [hc]
    unfold LC
    rw [sm_zero (fun q _ => by
      unfold rowC
      rw [if_neg (by omega), Nat.mul_zero, Nat.mul_zero]), Nat.zero_mod]
  -- the combination has nothing from place i on
  have hu0 : ∀ j, i ≤ j → u j = 0 := by
    intro j hj
    rcases Nat.lt_or_ge j cnt with q | q
    · refine Decidable.byContradiction fun hne => ?_
      obtain ⟨t, ht1, ht2, ht3⟩ := top_ex ⟨j, q, hne⟩
      have hjt : j ≤ t := by
        rcases Nat.lt_or_ge t j with z | z
        · exact absurd (ht3 j z q) hne
        · exact z
      have hLt := RS_lead hE hu1 ht1 ht2 ht3
      have h0 := b4 t ht1 hLt
      rw [hu2 t ht1, a2 t ht1, if_neg (by omega), Nat.zero_add, Nat.mod_eq_of_lt (hul t)] at h0
      exact ht2 h0
    · exact hu0' j q
  obtain ⟨R1, hR1⟩ : ∃ R1 : Nat → Nat, R1 = fun q => if 126 * i + 0 ≤ q ∧ q < 126 * i + i then y (q - 126 * i) else R q := ⟨_, rfl⟩
  have hrow : ∀ j, rowC cnt R1 i j = (rowC cnt R i j + 1 * u j) % p := by
    intro j
    rw [Nat.one_mul]
    by_cases q : j < cnt
    · by_cases z : j < i
      · have e : rowC cnt R1 i j = y j := by
          unfold rowC
          rw [if_pos q, hR1]
          show (if 126 * i + 0 ≤ 126 * i + j ∧ 126 * i + j < 126 * i + i then y (126 * i + j - 126 * i) else _) = _
          rw [if_pos (by omega), Nat.add_sub_cancel_left]
        rw [e, hu2 j q, a2 j q, if_pos z, erow j q]
      · rw [hu0 j (by omega), Nat.add_zero, Nat.mod_eq_of_lt (r4 j)]
        unfold rowC
        rw [if_pos q, if_pos q, hR1]
        show (if 126 * i + 0 ≤ 126 * i + j ∧ 126 * i + j < 126 * i + i then _ else R (126 * i + j)) = _
        rw [if_neg (by omega)]
    · have : ∀ (X : Nat → Nat) a, rowC cnt X a j = 0 := fun X a => by unfold rowC; rw [if_neg q]
      rw [this, this, hu0' j (by omega), Nat.add_zero, Nat.zero_mod]
  have hoth : ∀ q, q ≠ i → rowC cnt R1 q = rowC cnt R q := by
    intro q hq
    funext j
    unfold rowC
    by_cases z : j < cnt
    · rw [if_pos z, if_pos z, hR1]
      show (if 126 * i + 0 ≤ 126 * q + j ∧ 126 * q + j < 126 * i + i then _ else R (126 * q + j)) = _
      rw [if_neg (by
        rcases Nat.lt_or_ge q i with y | y
        · omega
        · omega)]
    · rw [if_neg z, if_neg z]
  refine ⟨R1, y, ?_, ⟨hE.1, fun q hq => ?_⟩, hoth, fun f hf => ?_, fun j hj hjL => ?_⟩
  · show b_zclean_2 F (nI cnt) (nI p) (nF hs) F (nI i) (nI 0) (nF R) (nF w) = _
    rw [a1, b1, bd2_n, p_zclean49 (by omega) i F 0 R (by omega) (by omega), hR1]
  · by_cases e : q = i
    · rw [e]
      refine ⟨r1, ?_, fun j hj => ?_, fun j => ?_⟩
      · rw [hrow, r2, hu0 i (Nat.le_refl _), Nat.mul_zero, Nat.add_zero, Nat.mod_eq_of_lt (by omega)]
      · rw [hrow, r3 j hj, hu0 j (by omega), Nat.mul_zero, Nat.add_zero, Nat.zero_mod]
      · rw [hrow]; exact Nat.mod_lt _ (by omega)
    · rw [hoth q e]; exact hE.2 q hq
  · refine RS_sub hE.1 (fun q hq hqL => ?_) hf
    by_cases e : q = i
    · have e2 : rowC cnt R1 q = fun j => (rowC cnt R i j + 1 * u j) % p := by rw [e]; exact funext hrow
      rw [e2]
      exact RS_addm (RS_row hE hL) hu1 1
    · rw [hoth q e]; exact RS_row hE hqL
  · have q : j < cnt := by omega
    have := b4 j q hjL
    rw [hrow, Nat.one_mul, erow j q]
    rw [hu2 j q, a2 j q, if_pos hj] at this
    exact this
end ZCLEAN
