/-! THE REFERENCE'S SPACE. -/
theorem remL_n {a d : Nat} (ha : a < 2 ^ 63) (h0 : 0 < d) (hd : d < 2 ^ 63) : remL (lN a) (lN d) = lN (a % d) := pk_lRem ha h0 hd
theorem lN_ne0 {d : Nat} (h0 : 0 < d) (h : d < 2 ^ 63) : ¬ lN d = 0 := fun q => by
  have : lN d = lN 0 := q
  rw [pk_lEQ h (by decide)] at this
  omega
theorem nzL_n {ρ : Type} {d : Nat} {k : Option ρ} (h0 : 0 < d) (h : d < 2 ^ 63) : nzL (lN d) k = k := if_neg (lN_ne0 h0 h)
theorem p_zinverse_l (F p : Nat) (hp : 1 < p) (hp2 : p ≤ 32003) : ∀ (pw n ans sq : Nat), pw < n → pw < 2 ^ 31 → ans < p → sq < p → b_zinverse_14 F (nI p) n (lN ans) (lN sq) (nI pw) = some (nI (ans * sq ^ pw % p)) := by
  intro pw
  induction pw using Nat.strongRecOn with
  | _ pw ih =>
    intro n ans sq hn hw ha hs
    obtain ⟨m, rfl⟩ : ∃ m, n = m + 1 := ⟨n - 1, by omega⟩
    show s_zinverse_14 F (nI p) (b_zinverse_14 F (nI p) m) (lN ans) (lN sq) (nI pw) = _
    unfold s_zinverse_14
    have hm1 : sq * sq ≤ 32003 * 32003 := Nat.mul_le_mul (by omega) (by omega)
    have hm2 : ans * sq ≤ 32003 * 32003 := Nat.mul_le_mul (by omega) (by omega)
    have hpl : (nI p).toInt64 = lN p := nI_l (by omega)
    by_cases h0 : pw = 0
    · subst h0
      rw [if_pos (by decide +kernel), Nat.pow_zero, Nat.mul_one, Nat.mod_eq_of_lt ha, lN_i]
    · rw [if_neg (nI_nle (by omega) hw)]
      have e1 : nI pw &&& 1 = nI (pw % 2) := pk_andN (by omega) 1 (by decide +kernel)
      have tail : ∀ a, a < p → s_zinverse_38 F (nI p) (b_zinverse_14 F (nI p) m) (lN a) (lN sq) (nI pw) = some (nI (a * (sq * sq % p) ^ (pw / 2) % p)) := by
        intro a ha'
        unfold s_zinverse_38
        rw [hpl, nzL_n (by omega) (by omega), lN_mul, remL_n (by omega) (by omega) (by omega), nlit, shrI_n hw (by decide)]
        exact ih (pw / 2) (by omega) m a (sq * sq % p) (by omega) (by omega) ha' (Nat.mod_lt _ (by omega))
      rw [e1]
      by_cases h1 : pw % 2 = 1
      · rw [if_pos (by rw [h1]; rfl), hpl, nzL_n (by omega) (by omega), lN_mul, remL_n (by omega) (by omega) (by omega), tail _ (Nat.mod_lt _ (by omega)), pw_sq]
        congr 2
        rw [Nat.mul_mod, Nat.mod_mod, ← Nat.mul_mod, Nat.mul_assoc, Nat.mul_comm sq, ← Nat.pow_succ]
        congr 3
        omega
      · rw [if_neg (by
          show ¬ nI (pw % 2) = nI 1
          rw [nI_eq (by omega) (by decide)]; exact h1), tail _ ha, pw_sq, show 2 * (pw / 2) = pw by omega]
theorem p_zinverse {F p a : Nat} (hp : 2 ≤ p) (hp2 : p ≤ 32003) (ha : a < p) (hF : 32003 < F) : m_zinverse F (nI p) (nI a) = some (nI (a ^ (p - 2) % p)) := by
  unfold m_zinverse
  rw [nlit 2, pk_sub hp, nI_l (by omega), llit 1, p_zinverse_l F p (by omega) hp2 (p - 2) F 1 a (by omega) (by omega) (by omega) ha, Nat.one_mul]
/-- the first cnt places of a row, of a vector -/
def rowC (cnt : Nat) (R : Nat → Nat) (i j : Nat) : Nat := if j < cnt then R (126 * i + j) else 0
def vecC (cnt : Nat) (w : Nat → Nat) (j : Nat) : Nat := if j < cnt then w j else 0
theorem p_ztakeRow_l (F p i by_ : Nat) (hp : 0 < p) (hp2 : p ≤ 32003) (hi : i < 126) (hby : by_ ≤ p) (R : Nat → Nat) (hR : ∀ j, j ≤ i → R (126 * i + j) < p) : ∀ (d n k : Nat) (x : Nat → Nat), (∀ j, j ≤ i → x j < p) → k + d = i + 1 → d < n →
    b_ztakeRow_16 F (nI p) (nF R) n (nI i) (lN by_) (nI k) (nF x) = some (nF (fun j => if k ≤ j ∧ j ≤ i then (x j + by_ * R (126 * i + j)) % p else x j)) := by
  intro d
  induction d with
  | zero =>
    intro n k x hx hk hn
    obtain ⟨m, rfl⟩ : ∃ m, n = m + 1 := ⟨n - 1, by omega⟩
    show s_ztakeRow_16 F (nI p) (nF R) _ (nI i) (lN by_) (nI k) (nF x) = _
    unfold s_ztakeRow_16
    rw [if_pos (nI_lt (by omega) (by omega))]
    congr 2
    funext j
    rw [if_neg (by omega)]
  | succ d ih =>
    intro n k x hx hk hn
    obtain ⟨m, rfl⟩ : ∃ m, n = m + 1 := ⟨n - 1, by omega⟩
    show s_ztakeRow_16 F (nI p) (nF R) (b_ztakeRow_16 F (nI p) (nF R) m) (nI i) (lN by_) (nI k) (nF x) = _
    unfold s_ztakeRow_16
    have hxk := hx k (by omega)
    have hRk := hR k (by omega)
    have hm : by_ * R (126 * i + k) ≤ 32003 * 32003 := Nat.mul_le_mul (by omega) (by omega)
    rw [if_neg (nI_nlt (by omega) (by omega)), rdI_n (by omega) (by decide), nlit 126, pk_mul, nI_add, rdI_n (by omega) (by decide), nI_l (by omega), nzL_n hp (by omega)]
    show wrI 126 (nF x) (nI k) ((remL ((nI (x k)).toInt64 + lN by_ * (nI (R (126 * i + k))).toInt64) (lN p)).toInt32) _ = _
    rw [nI_l (by omega), nI_l (by omega), lN_mul, lN_add, remL_n (by omega) hp (by omega), lN_i, wrI_n (by omega) (by decide), upd_nF, nlit 1, nI_add, ih m (k + 1) _ (fun j hj => by
      by_cases h : j = k
      · rw [if_pos h]; exact Nat.mod_lt _ hp
      · rw [if_neg h]; exact hx j hj) (by omega) (by omega)]
    congr 2
    funext j
    by_cases h1 : j = k
    · rw [if_neg (by omega), if_pos h1, if_pos (by omega), h1]
    · by_cases h2 : k ≤ j ∧ j ≤ i
      · rw [if_pos (by omega), if_pos h2, if_neg h1]
      · rw [if_neg (by omega), if_neg h2, if_neg h1]
theorem p_ztakeRow {F p i : Nat} (hF : 200 < F) (hp : 0 < p) (hp2 : p ≤ 32003) (hi : i < 126) {R x : Nat → Nat} (hR : ∀ j, j ≤ i → R (126 * i + j) < p) (hx : ∀ j, j ≤ i → x j < p) : m_ztakeRow F (nI p) (nF R) (nI i) (nF x) = some (nF (fun j => if j ≤ i then (x j + (p - x i) * R (126 * i + j)) % p else x j)) := by
  unfold m_ztakeRow
  have hxi := hx i (Nat.le_refl _)
  rw [rdI_n hi (by decide)]
  show b_ztakeRow_16 F (nI p) (nF R) F (nI i) ((nI p - nI (x i)).toInt64) 0 (nF x) = _
  rw [pk_sub (by omega), nI_l (by omega), nlit, p_ztakeRow_l F p i (p - x i) hp hp2 hi (by omega) R hR (i + 1) F 0 x hx (by omega) (by omega)]
  congr 2
  funext j
  by_cases h : j ≤ i
  · rw [if_pos (by omega), if_pos h]
  · rw [if_neg (by omega), if_neg h]
/-- what is known of the lead while the places from k on are done -/
def Ld (cnt k : Nat) (hs x : Nat → Nat) (li : Int32) : Prop := (li = -1 ∧ ∀ j, k ≤ j → j < cnt → x j = 0) ∨ ∃ l, li = nI l ∧ k ≤ l ∧ l < cnt ∧ hs l = 0 ∧ x l ≠ 0 ∧ ∀ j, l < j → j < cnt → x j = 0
theorem p_zreduce_l {F p cnt : Nat} (hF : 40000 < F) (hp : 2 ≤ p) (hp2 : p ≤ 32003) (hcnt : cnt ≤ 126) {w R hs : Nat → Nat} (hE : Ech p cnt hs (rowC cnt R)) :
    ∀ (k n : Nat) (x : Nat → Nat) (li : Int32), k ≤ cnt → k < n → (∀ j, j < cnt → x j < p) → (∀ j, k ≤ j → j < cnt → hs j = 1 → x j = 0) → (∃ u, RS p cnt hs (rowC cnt R) u ∧ ∀ j, j < cnt → x j = (w j + u j) % p) → Ld cnt k hs x li →
      ∃ li' x', b_zreduce_9 F (nI cnt) (nI p) (nF hs) (nF R) n li (nI k - nI 1) (nF x) = some (li', nF x') ∧ (∀ j, j < cnt → x' j < p) ∧ (∀ j, cnt ≤ j → x' j = x j) ∧ (∀ j, j < cnt → hs j = 1 → x' j = 0) ∧ (∃ u, RS p cnt hs (rowC cnt R) u ∧ ∀ j, j < cnt → x' j = (w j + u j) % p) ∧ Ld cnt 0 hs x' li' := by
  intro k
  induction k with
  | zero =>
    intro n x li hk hn hx hz hu hl
    obtain ⟨m, rfl⟩ : ∃ m, n = m + 1 := ⟨n - 1, by omega⟩
    refine ⟨li, x, ?_, hx, fun _ _ => rfl, fun j hj => hz j (by omega) hj, hu, hl⟩
    show s_zreduce_9 F (nI cnt) (nI p) (nF hs) (nF R) (b_zreduce_9 F (nI cnt) (nI p) (nF hs) (nF R) m) li (nI 0 - nI 1) (nF x) = _
    unfold s_zreduce_9
    rw [if_pos (by decide +kernel)]
  | succ k ih =>
    intro n x li hk hn hx hz hu hl
    obtain ⟨m, rfl⟩ : ∃ m, n = m + 1 := ⟨n - 1, by omega⟩
    have e0 : nI (k + 1) - nI 1 = nI k := by rw [pk_sub (by omega), Nat.add_sub_cancel]
    have e1 : nI k + (-1) = nI k - nI 1 := by
      rw [show (-1 : Int32) = - nI 1 from by decide +kernel, Int32.sub_eq_add_neg]
    have hxk := hx k (by omega)
    by_cases h0 : x k = 0
    · have step : b_zreduce_9 F (nI cnt) (nI p) (nF hs) (nF R) (m + 1) li (nI (k + 1) - nI 1) (nF x) = b_zreduce_9 F (nI cnt) (nI p) (nF hs) (nF R) m li (nI k - nI 1) (nF x) := by
        show s_zreduce_9 F (nI cnt) (nI p) (nF hs) (nF R) (b_zreduce_9 F (nI cnt) (nI p) (nF hs) (nF R) m) li (nI (k + 1) - nI 1) (nF x) = _
        unfold s_zreduce_9
        rw [e0, if_neg (nI_pos (by omega)), rdI_n (by omega) (by decide), if_pos (by show nI (x k) = 0; rw [h0]; rfl), e1]
      rw [step]
      refine ih m x li (by omega) (by omega) hx (fun j hj hjc hjL => ?_) hu ?_
      · by_cases e : j = k
        · rw [e]; exact h0
        · exact hz j (by omega) hjc hjL
      · rcases hl with ⟨a1, a2⟩ | ⟨l, a1, a2, a3, a4, a5, a6⟩
        · refine Or.inl ⟨a1, fun j hj hjc => ?_⟩
          by_cases e : j = k
          · rw [e]; exact h0
          · exact a2 j (by omega) hjc
        · exact Or.inr ⟨l, a1, by omega, a3, a4, a5, a6⟩
    · have hne : ¬ nI (x k) = 0 := nI_ne0 (by omega) (by omega)
      rcases hE.1 k with hL | hL
      · -- not a row's place
        have step : b_zreduce_9 F (nI cnt) (nI p) (nF hs) (nF R) (m + 1) li (nI (k + 1) - nI 1) (nF x) = b_zreduce_9 F (nI cnt) (nI p) (nF hs) (nF R) m (if 0 ≤ li then li else nI k) (nI k - nI 1) (nF x) := by
          show s_zreduce_9 F (nI cnt) (nI p) (nF hs) (nF R) (b_zreduce_9 F (nI cnt) (nI p) (nF hs) (nF R) m) li (nI (k + 1) - nI 1) (nF x) = _
          unfold s_zreduce_9
          rw [e0, if_neg (nI_pos (by omega)), rdI_n (by omega) (by decide), if_neg (by show ¬ nI (x k) = 0; exact hne), rdI_n (by omega) (by decide), if_pos (by show nI (hs k) = 0; rw [hL]; rfl), e1]
          by_cases h : 0 ≤ li
          · rw [if_pos h, if_pos h]
          · rw [if_neg h, if_neg h]
        rw [step]
        refine ih m x _ (by omega) (by omega) hx (fun j hj hjc hjL => ?_) hu ?_
        · by_cases e : j = k
          · rw [e] at hjL; omega
          · exact hz j (by omega) hjc hjL
        · rcases hl with ⟨a1, a2⟩ | ⟨l, a1, a2, a3, a4, a5, a6⟩
          · rw [if_neg (by rw [a1]; decide)]
            exact Or.inr ⟨k, rfl, Nat.le_refl _, by omega, hL, h0, fun j hj hjc => a2 j (by omega) hjc⟩
          · rw [if_pos (by rw [a1]; exact nI_pos' (by omega))]
            exact Or.inr ⟨l, a1, by omega, a3, a4, a5, a6⟩
      · -- take the row away
        obtain ⟨r1, r2, r3, r4⟩ := hE.2 k hL
        have hRk : ∀ j, j ≤ k → R (126 * k + j) < p := by
          intro j hj
          have := r4 j
          unfold rowC at this
          rw [if_pos (by omega)] at this
          exact this
        obtain ⟨x1, hx1⟩ : ∃ x1, x1 = fun j => if j ≤ k then (x j + (p - x k) * R (126 * k + j)) % p else x j := ⟨_, rfl⟩
        have hxx : ∀ j, j < cnt → x1 j = (x j + (p - x k) * rowC cnt R k j) % p := by
          intro j hj
          rw [hx1]
          show (if j ≤ k then _ else _) = _
          by_cases h : j ≤ k
          · rw [if_pos h]
            unfold rowC
            rw [if_pos hj]
          · rw [if_neg h, r3 j (by omega), Nat.mul_zero, Nat.add_zero, Nat.mod_eq_of_lt (hx j hj)]
        have hup : ∀ j, k < j → x1 j = x j := fun j hj => by
          rw [hx1]
          show (if j ≤ k then _ else _) = _
          rw [if_neg (by omega)]
        have hk0 : x1 k = 0 := by
          rw [hxx k (by omega), r2, Nat.mul_one, show x k + (p - x k) = p by omega, Nat.mod_self]
        have step : b_zreduce_9 F (nI cnt) (nI p) (nF hs) (nF R) (m + 1) li (nI (k + 1) - nI 1) (nF x) = b_zreduce_9 F (nI cnt) (nI p) (nF hs) (nF R) m li (nI k - nI 1) (nF x1) := by
          show s_zreduce_9 F (nI cnt) (nI p) (nF hs) (nF R) (b_zreduce_9 F (nI cnt) (nI p) (nF hs) (nF R) m) li (nI (k + 1) - nI 1) (nF x) = _
          unfold s_zreduce_9
          rw [e0, if_neg (nI_pos (by omega)), rdI_n (by omega) (by decide), if_neg (by show ¬ nI (x k) = 0; exact hne), rdI_n (by omega) (by decide), if_neg (by show ¬ nI (hs k) = 0; rw [hL]; decide +kernel), p_ztakeRow (by omega) (by omega) hp2 (by omega) hRk (fun j hj => hx j (by omega)), bd1_n, e1, hx1]
        rw [step]
        obtain ⟨li', x', b1, b2, b3, b4, b5, b6⟩ := ih m x1 li (by omega) (by omega) (fun j hj => by
          rw [hx1]
          show (if j ≤ k then _ else _) < p
          split
          · exact Nat.mod_lt _ (by omega)
          · exact hx j hj) (fun j hj hjc hjL => by
          by_cases e : j = k
          · rw [e]; exact hk0
          · rw [hup j (by omega)]; exact hz j (by omega) hjc hjL) (by
          obtain ⟨u, hu1, hu2⟩ := hu
          refine ⟨fun j => (u j + (p - x k) * rowC cnt R k j) % p, RS_addm hu1 (RS_row hE hL) (p - x k), fun j hj => ?_⟩
          rw [hxx j hj, hu2 j hj, Nat.mod_add_mod, Nat.add_mod_mod, Nat.add_assoc]) (by
          rcases hl with ⟨a1, a2⟩ | ⟨l, a1, a2, a3, a4, a5, a6⟩
          · refine Or.inl ⟨a1, fun j hj hjc => ?_⟩
            by_cases e : j = k
            · rw [e]; exact hk0
            · rw [hup j (by omega)]; exact a2 j (by omega) hjc
          · exact Or.inr ⟨l, a1, by omega, a3, a4, by rw [hup l (by omega)]; exact a5, fun j hj hjc => by rw [hup j (by omega)]; exact a6 j hj hjc⟩)
        exact ⟨li', x', b1, b2, fun j hj => by rw [b3 j hj, hup j (by omega)], b4, b5, b6⟩
theorem p_zreduce {F p cnt : Nat} (hF : 40000 < F) (hp : 2 ≤ p) (hp2 : p ≤ 32003) (hcnt : cnt ≤ 126) {w R hs : Nat → Nat} (hE : Ech p cnt hs (rowC cnt R)) (hw : ∀ j, j < cnt → w j < p) :
    ∃ li' x', m_zreduce F (nI cnt) (nI p) (nF hs) (nF R) (nF w) = some (li', nF x') ∧ (∀ j, j < cnt → x' j < p) ∧ (∀ j, cnt ≤ j → x' j = w j) ∧ (∀ j, j < cnt → hs j = 1 → x' j = 0) ∧ (∃ u, RS p cnt hs (rowC cnt R) u ∧ ∀ j, j < cnt → x' j = (w j + u j) % p) ∧ Ld cnt 0 hs x' li' := by
  unfold m_zreduce
  rw [nlit]
  exact p_zreduce_l hF hp hp2 hcnt hE cnt F w (-1) (Nat.le_refl _) (by omega) hw (fun j h1 h2 => by omega) ⟨fun _ => 0, RS_zero p cnt hs (rowC cnt R), fun j hj => by rw [Nat.add_zero, Nat.mod_eq_of_lt (hw j hj)]⟩ (Or.inl ⟨rfl, fun j h1 h2 => by omega⟩)
