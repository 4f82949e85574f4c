/-! PURE 1: leaves of the class: exponents, degrees, keys, rows. -/
def exN (c v : Nat) : Nat := c / 2 ^ (24 - 8 * v) % 256
def degN (c : Nat) : Nat := exN c 0 + exN c 1 + exN c 2 + exN c 3
theorem exN_lt (c v : Nat) : exN c v < 256 := Nat.mod_lt _ (by decide)
theorem exp_amt : ∀ v, v < 4 → (24 : Int32) - 8 * nI v = nI (24 - 8 * v) := by decide +kernel
theorem p_exponent (F : Nat) {c v : Nat} (hc : c < 2 ^ 32) (hv : v < 4) : m_exponent F (nI c) (nI v) = some (nI (exN c v)) := by
  unfold m_exponent
  rw [exp_amt v hv, ushI_n hc (by omega), pk_andN (Nat.lt_of_le_of_lt (Nat.div_le_self _ _) hc) 8 (by decide +kernel)]
  rfl
theorem p_degree (F : Nat) {c : Nat} (hc : c < 2 ^ 32) : m_degree F (nI c) = some (nI (degN c)) := by
  unfold m_degree
  have h0 := p_exponent F hc (show 0 < 4 by decide)
  have h1 := p_exponent F hc (show 1 < 4 by decide)
  have h2 := p_exponent F hc (show 2 < 4 by decide)
  have h3 := p_exponent F hc (show 3 < 4 by decide)
  simp only [nlit]
  rw [h0, bd1_n, h1, bd1_n, h2, bd1_n, h3, bd1_n, nI_add, nI_add, nI_add]
  rfl
theorem p_variable (F : Nat) {v : Nat} (hv : v < 4) : m_variable F (nI v) = some (nI (2 ^ (24 - 8 * v))) := by
  unfold m_variable
  rw [exp_amt v hv, nlit, shlI_n (by omega) (by
    rw [Nat.one_mul]
    exact Nat.pow_lt_pow_right (by decide) (by omega)), Nat.one_mul]
theorem p_productRow (F : Nat) {v k : Nat} : m_productRow F (nI v) (nI k) = some (nI ((v * 40 + k) * 40)) := by
  unfold m_productRow
  simp only [nlit, pk_mul, nI_add]
theorem p_fill_l (F nA : Nat) (hA : nA < 2 ^ 31) (x : Int32) : ∀ (d n i : Nat) (A : Nat → Int32), i + d = nA → d < n → b_fill_5 F nA n x (nI i) (nI nA) A = some (fun j => if i ≤ j ∧ j < nA then x else A j) := by
  intro d
  induction d with
  | zero =>
    intro n i A hi hn
    obtain ⟨m, rfl⟩ : ∃ m, n = m + 1 := ⟨n - 1, by omega⟩
    show s_fill_5 F nA _ x (nI i) (nI nA) A = _
    unfold s_fill_5
    rw [if_pos (nI_le (by omega) (by omega))]
    congr 1
    funext j
    rw [if_neg (by omega)]
  | succ d ih =>
    intro n i A hi hn
    obtain ⟨m, rfl⟩ : ∃ m, n = m + 1 := ⟨n - 1, by omega⟩
    show s_fill_5 F nA _ x (nI i) (nI nA) A = _
    unfold s_fill_5
    rw [if_neg (nI_ge (by omega) hA), wrI_n (by omega) hA, nlit, nI_add]
    show b_fill_5 F nA m x (nI (i + 1)) (nI nA) _ = _
    rw [ih m (i + 1) _ (by omega) (by omega)]
    congr 1
    funext j
    unfold upd
    by_cases h1 : j = i
    · rw [if_neg (by omega), if_pos h1, if_pos (by omega)]
    · rw [if_neg h1]
      by_cases h2 : i ≤ j ∧ j < nA
      · rw [if_pos (by omega), if_pos h2]
      · rw [if_neg (by omega), if_neg h2]
theorem p_fill {F nA : Nat} (hA : nA < 2 ^ 31) (hF : nA < F) (x : Int32) (A : Nat → Int32) : m_fill F nA x A = some (fun j => if j < nA then x else A j) := by
  unfold m_fill
  rw [nlit, p_fill_l F nA hA x nA F 0 A (by omega) hF]
  congr 1
  funext j
  by_cases h : j < nA
  · rw [if_pos (by omega), if_pos h]
  · rw [if_neg (by omega), if_neg h]
theorem p_fillR_l (F nA : Nat) (hA : nA < 2 ^ 31) (x : Int32) (t : Nat) (ht : t ≤ nA) : ∀ (d n i : Nat) (A : Nat → Int32), i + d = t → d < n → b_fillR_10 F nA n (nI t) x (nI i) A = some (fun j => if i ≤ j ∧ j < t then x else A j) := by
  intro d
  induction d with
  | zero =>
    intro n i A hi hn
    obtain ⟨m, rfl⟩ : ∃ m, n = m + 1 := ⟨n - 1, by omega⟩
    show s_fillR_10 F nA _ (nI t) x (nI i) A = _
    unfold s_fillR_10
    rw [if_pos (nI_le (by omega) (by omega))]
    congr 1
    funext j
    rw [if_neg (by omega)]
  | succ d ih =>
    intro n i A hi hn
    obtain ⟨m, rfl⟩ : ∃ m, n = m + 1 := ⟨n - 1, by omega⟩
    show s_fillR_10 F nA _ (nI t) x (nI i) A = _
    unfold s_fillR_10
    rw [if_neg (nI_ge (by omega) (by omega)), wrI_n (by omega) hA, nlit, nI_add]
    show b_fillR_10 F nA m (nI t) x (nI (i + 1)) _ = _
    rw [ih m (i + 1) _ (by omega) (by omega)]
    congr 1
    funext j
    unfold upd
    by_cases h1 : j = i
    · rw [if_neg (by omega), if_pos h1, if_pos (by omega)]
    · rw [if_neg h1]
      by_cases h2 : i ≤ j ∧ j < t
      · rw [if_pos (by omega), if_pos h2]
      · rw [if_neg (by omega), if_neg h2]
theorem p_fillR {F nA a t : Nat} (hA : nA < 2 ^ 31) (hF : nA < F) (ha : a ≤ t) (ht : t ≤ nA) (x : Int32) (A : Nat → Int32) : m_fillR F nA (nI a) (nI t) x A = some (fun j => if a ≤ j ∧ j < t then x else A j) := by
  unfold m_fillR m_rangeCheck
  rw [if_pos (nI_le ha (by omega)), if_pos (nI_pos' (by omega)), if_pos (nI_le ht hA)]
  exact p_fillR_l F nA hA x t ht (t - a) F a A (by omega) (by omega)
theorem p_first_l (F nA : Nat) (hA : nA < 2 ^ 31) (A : Nat → Int32) (len : Nat) (hl : len ≤ nA) : ∀ (d n i : Nat), i + d = len → d < n →
    (∃ j, i ≤ j ∧ j < len ∧ A j ≠ 0 ∧ (∀ q, i ≤ q → q < j → A q = 0) ∧ b_first_2 F nA A n (nI len) (nI i) = some (nI j)) ∨ ((∀ q, i ≤ q → q < len → A q = 0) ∧ b_first_2 F nA A n (nI len) (nI i) = some (-1)) := by
  intro d
  induction d with
  | zero =>
    intro n i hi hn
    obtain ⟨m, rfl⟩ : ∃ m, n = m + 1 := ⟨n - 1, by omega⟩
    refine Or.inr ⟨fun q _ _ => by omega, ?_⟩
    show s_first_2 F nA A _ (nI len) (nI i) = _
    unfold s_first_2
    rw [if_pos (nI_le (by omega) (by omega))]
  | succ d ih =>
    intro n i hi hn
    obtain ⟨m, rfl⟩ : ∃ m, n = m + 1 := ⟨n - 1, by omega⟩
    have step : b_first_2 F nA A (m + 1) (nI len) (nI i) = if A i = 0 then b_first_2 F nA A m (nI len) (nI (i + 1)) else some (nI i) := by
      show s_first_2 F nA A _ (nI len) (nI i) = _
      unfold s_first_2
      rw [if_neg (nI_ge (by omega) (by omega)), rdI_n (by omega) hA, nlit 1, nI_add]
      rfl
    rw [step]
    by_cases h0 : A i = 0
    · rw [if_pos h0]
      rcases ih m (i + 1) (by omega) (by omega) with ⟨j, h1, h2, h3, h4, h5⟩ | ⟨h1, h2⟩
      · refine Or.inl ⟨j, by omega, h2, h3, fun q hq hqj => ?_, h5⟩
        by_cases hqi : q = i
        · rw [hqi]; exact h0
        · exact h4 q (by omega) hqj
      · refine Or.inr ⟨fun q hq hql => ?_, h2⟩
        by_cases hqi : q = i
        · rw [hqi]; exact h0
        · exact h1 q (by omega) hql
    · rw [if_neg h0]
      exact Or.inl ⟨i, Nat.le_refl _, by omega, h0, fun q _ _ => by omega, rfl⟩
/-- a row and a multiple of another: places toAt .. toAt + len - 1 -/
def amN (p factor toAt fromAt len : Nat) (to frm : Nat → Nat) : Nat → Nat := fun j => if toAt ≤ j ∧ j < toAt + len then (to j + factor * frm (fromAt + (j - toAt))) % p else to j
theorem p_addMultiple_l (F nA nB p f ta fa len : Nat) (hA : nA < 2 ^ 31) (hB : nB < 2 ^ 31) (hp : 0 < p) (hp2 : p ≤ 32003) (hf : f < p + 1) (hta : ta + len ≤ nA) (hfa : fa + len ≤ nB) (frm : Nat → Nat) (hfr : ∀ j, fa ≤ j → j < fa + len → frm j < p) :
    ∀ (d n i : Nat) (to : Nat → Nat), (∀ j, ta ≤ j → j < ta + len → to j < p) → i + d = len → d < n →
      b_addMultiple_3 F nA nB (nF frm) n (nI ta) (nI fa) (nI len) (nI f) (nI p) (nI i) (nF to) = some (nF (fun j => if ta + i ≤ j ∧ j < ta + len then (to j + f * frm (fa + (j - ta))) % p else to j)) := by
  intro d
  induction d with
  | zero =>
    intro n i to ho hi hn
    obtain ⟨m, rfl⟩ : ∃ m, n = m + 1 := ⟨n - 1, by omega⟩
    show s_addMultiple_3 F nA nB (nF frm) _ (nI ta) (nI fa) (nI len) (nI f) (nI p) (nI i) (nF to) = _
    unfold s_addMultiple_3
    rw [if_pos (nI_le (by omega) (by omega))]
    congr 2
    funext j
    rw [if_neg (by omega)]
  | succ d ih =>
    intro n i to ho hi hn
    obtain ⟨m, rfl⟩ : ∃ m, n = m + 1 := ⟨n - 1, by omega⟩
    show s_addMultiple_3 F nA nB (nF frm) _ (nI ta) (nI fa) (nI len) (nI f) (nI p) (nI i) (nF to) = _
    unfold s_addMultiple_3
    rw [if_neg (nI_ge (by omega) (by omega)), nI_add, rdI_n (by omega) hB, nlit 0, nlit 1, nI_add i 1]
    have hfi := hfr (fa + i) (by omega) (by omega)
    by_cases h0 : frm (fa + i) = 0
    · rw [if_pos (by show nI (frm (fa + i)) = nI 0; rw [h0])]
      show b_addMultiple_3 F nA nB (nF frm) m (nI ta) (nI fa) (nI len) (nI f) (nI p) (nI (i + 1)) (nF to) = _
      rw [ih m (i + 1) to ho (by omega) (by omega)]
      congr 2
      funext j
      by_cases h1 : j = ta + i
      · rw [if_neg (by omega), if_pos (by omega), h1, show fa + (ta + i - ta) = fa + i by omega, h0, Nat.mul_zero, Nat.add_zero, Nat.mod_eq_of_lt (ho _ (by omega) (by omega))]
      · by_cases h2 : ta + i ≤ j ∧ j < ta + len
        · rw [if_pos (by omega), if_pos h2]
        · rw [if_neg (by omega), if_neg h2]
    · have hti := ho (ta + i) (by omega) (by omega)
      have hm : f * frm (fa + i) ≤ 32003 * 32003 := Nat.mul_le_mul (by omega) (by omega)
      rw [if_neg (by
        show ¬ nI (frm (fa + i)) = nI 0
        rw [nI_eq (by omega) (by omega)]; exact h0), nI_add, rdI_n (by omega) hA, nzI_n hp (by omega), wrI_n (by omega) hA]
      show b_addMultiple_3 F nA nB (nF frm) m (nI ta) (nI fa) (nI len) (nI f) (nI p) (nI (i + 1)) (upd (nF to) (ta + i) (remI (nI (to (ta + i)) + nI f * nI (frm (fa + i))) (nI p))) = _
      rw [pk_mul, nI_add, remI_n (by omega) hp (by omega), upd_nF, ih m (i + 1) _ (fun j hj1 hj2 => by
        by_cases h : j = ta + i
        · rw [if_pos h]; exact Nat.mod_lt _ hp
        · rw [if_neg h]; exact ho j hj1 hj2) (by omega) (by omega)]
      congr 2
      funext j
      by_cases h1 : j = ta + i
      · rw [if_neg (by omega), if_pos h1, if_pos (by omega), h1, show fa + (ta + i - ta) = fa + i by omega]
      · by_cases h2 : ta + i ≤ j ∧ j < ta + len
        · rw [if_pos (by omega), if_pos h2, if_neg h1]
        · rw [if_neg (by omega), if_neg h2, if_neg h1]
theorem p_addMultiple {F nA nB p f ta fa len : Nat} (hA : nA < 2 ^ 31) (hB : nB < 2 ^ 31) (hp : 0 < p) (hp2 : p ≤ 32003) (hf : f < p + 1) (hta : ta + len ≤ nA) (hfa : fa + len ≤ nB) (hF : len < F) {to frm : Nat → Nat} (hfr : ∀ j, fa ≤ j → j < fa + len → frm j < p) (ho : ∀ j, ta ≤ j → j < ta + len → to j < p) :
    m_addMultiple F nA nB (nF frm) (nI ta) (nI fa) (nI len) (nI f) (nI p) (nF to) = some (nF (amN p f ta fa len to frm)) := by
  unfold m_addMultiple
  rw [nlit, p_addMultiple_l F nA nB p f ta fa len hA hB hp hp2 hf hta hfa frm hfr len F 0 to ho (by omega) hF]
  rfl
theorem pw_sq (p x k : Nat) (a : Nat) : a * (x * x % p) ^ k % p = a * x ^ (2 * k) % p := by
  rw [Nat.mul_mod, ← Nat.pow_mod, ← Nat.mul_mod, Nat.mul_pow, ← Nat.pow_add, Nat.two_mul]
theorem p_inverse_l (F p : Nat) (hp : 1 < p) (hp2 : p ≤ 32003) : ∀ (pw n ans sq : Nat), pw < n → pw < 2 ^ 31 → ans < p → sq < p → b_inverse_9 F n (nI p) (nI ans) (nI sq) (nI pw) = some (nI (ans * sq ^ pw % p)) := by
  intro pw
  induction pw using Nat.strongRecOn with
  | _ pw ih =>
    intro n ans sq hn hw ha hs
    obtain ⟨m, rfl⟩ : ∃ m, n = m + 1 := ⟨n - 1, by omega⟩
    show s_inverse_9 F (b_inverse_9 F m) (nI p) (nI ans) (nI sq) (nI pw) = _
    unfold s_inverse_9
    have hm1 : sq * sq ≤ 32003 * 32003 := Nat.mul_le_mul (by omega) (by omega)
    have hm2 : ans * sq ≤ 32003 * 32003 := Nat.mul_le_mul (by omega) (by omega)
    by_cases h0 : pw = 0
    · subst h0
      rw [if_pos (by decide +kernel), Nat.pow_zero, Nat.mul_one, Nat.mod_eq_of_lt ha]
    · rw [if_neg (nI_nle (by omega) hw)]
      have e1 : nI pw &&& 1 = nI (pw % 2) := pk_andN (by omega) 1 (by decide +kernel)
      have tail : ∀ a, a < p → s_inverse_28 F (b_inverse_9 F m) (nI p) (nI a) (nI sq) (nI pw) = some (nI (a * (sq * sq % p) ^ (pw / 2) % p)) := by
        intro a ha'
        unfold s_inverse_28
        rw [nzI_n (by omega) (by omega), pk_mul, remI_n (by omega) (by omega) (by omega), nlit, shrI_n hw (by decide)]
        exact ih (pw / 2) (by omega) m a (sq * sq % p) (by omega) (by omega) ha' (Nat.mod_lt _ (by omega))
      rw [e1]
      by_cases h1 : pw % 2 = 1
      · rw [if_pos (by rw [h1]; rfl), nzI_n (by omega) (by omega), pk_mul, remI_n (by omega) (by omega) (by omega), tail _ (Nat.mod_lt _ (by omega)), pw_sq]
        congr 2
        rw [Nat.mul_mod, Nat.mod_mod, ← Nat.mul_mod, Nat.mul_assoc, Nat.mul_comm sq, ← Nat.pow_succ]
        congr 3
        omega
      · rw [if_neg (by
          rw [nlit 1, nI_eq (by omega) (by omega)]; exact h1), tail _ ha, pw_sq, show 2 * (pw / 2) = pw by omega]
theorem p_inverse {F p a : Nat} (hp : 2 ≤ p) (hp2 : p ≤ 32003) (ha : a < p) (hF : 32003 < F) : m_inverse F (nI a) (nI p) = some (nI (a ^ (p - 2) % p)) := by
  unfold m_inverse
  rw [nlit 1, nlit 2, pk_sub hp, p_inverse_l F p (by omega) hp2 (p - 2) F 1 a (by omega) (by omega) (by omega) ha, Nat.one_mul]
/-- 1 if no exponent from v on is greater, else 0 -/
noncomputable def dvN (v a c : Nat) : Nat := @ite Nat (∀ u, v ≤ u → u < 4 → exN a u ≤ exN c u) (Classical.propDecidable _) 1 0
theorem dvN_1 {v a c : Nat} (h : ∀ u, v ≤ u → u < 4 → exN a u ≤ exN c u) : dvN v a c = 1 := by
  unfold dvN
  exact if_pos h
theorem dvN_0 {v a c : Nat} (h : ¬ ∀ u, v ≤ u → u < 4 → exN a u ≤ exN c u) : dvN v a c = 0 := by
  unfold dvN
  exact if_neg h
theorem p_divides_l (F : Nat) {a c : Nat} (ha : a < 2 ^ 32) (hc : c < 2 ^ 32) : ∀ (d n v : Nat), v + d = 4 → d < n →
    b_divides_2 F n (nI a) (nI c) (nI v) = some (nI (dvN v a c)) := by
  intro d
  induction d with
  | zero =>
    intro n v hv hn
    obtain ⟨m, rfl⟩ : ∃ m, n = m + 1 := ⟨n - 1, by omega⟩
    show s_divides_2 F (b_divides_2 F m) (nI a) (nI c) (nI v) = _
    unfold s_divides_2
    rw [nlit 4, if_pos (nI_le (by omega) (by omega)), dvN_1 (fun u h1 h2 => by omega)]
    rfl
  | succ d ih =>
    intro n v hv hn
    obtain ⟨m, rfl⟩ : ∃ m, n = m + 1 := ⟨n - 1, by omega⟩
    show s_divides_2 F (b_divides_2 F m) (nI a) (nI c) (nI v) = _
    unfold s_divides_2
    have l1 := exN_lt a v
    have l2 := exN_lt c v
    rw [nlit 4, if_neg (nI_ge (by omega) (by omega)), p_exponent F ha (by omega), bd1_n, p_exponent F hc (by omega), bd1_n, nlit 1, nI_add]
    by_cases h : exN a v ≤ exN c v
    · rw [if_pos (nI_le h (by omega)), ih m (v + 1) (by omega) (by omega)]
      by_cases q : ∀ u, v + 1 ≤ u → u < 4 → exN a u ≤ exN c u
      · rw [dvN_1 q, dvN_1 (fun u h1 h2 => by
          by_cases hu : u = v
          · rw [hu]; exact h
          · exact q u (by omega) h2)]
      · rw [dvN_0 q, dvN_0 (fun q' => q (fun u h1 h2 => q' u (by omega) h2))]
    · rw [if_neg (nI_ge (by omega) (by omega)), dvN_0 (fun q => h (q v (Nat.le_refl _) (by omega)))]
      rfl
theorem p_divides {F : Nat} (hF : 4 < F) {a c : Nat} (ha : a < 2 ^ 32) (hc : c < 2 ^ 32) : m_divides F (nI a) (nI c) = some (nI (dvN 0 a c)) := by
  unfold m_divides
  rw [nlit]
  exact p_divides_l F ha hc 4 F 0 (by omega) hF
def dgN (ord c i : Nat) : Nat := if ord = 0 then 255 - exN c (3 - i) else exN c i
theorem dgN_lt (ord c i : Nat) : dgN ord c i < 256 := by
  unfold dgN
  have := exN_lt c i
  split <;> omega
theorem p_key_s (F m : Nat) {c ord v k : Nat} (hc : c < 2 ^ 32) (hord : ord < 2) (hv : v < 4) : b_key_9 F (m + 1) (nI c) (nI ord) (lN k) (nI v) = b_key_9 F m (nI c) (nI ord) (lN (k * 256 + dgN ord c v)) (nI (v + 1)) := by
  show s_key_9 F (b_key_9 F m) (nI c) (nI ord) (lN k) (nI v) = _
  unfold s_key_9 s_key_40
  rw [nlit 4, if_neg (nI_ge hv (by decide)), nlit 0, nlit 1, nlit 3, nlit 255, llit 256, lN_mul, nI_add]
  have l1 := exN_lt c (3 - v)
  have l2 := exN_lt c v
  by_cases h : ord = 0
  · rw [if_pos (by rw [h]), pk_sub (by omega), p_exponent F hc (by omega), bd1_n, pk_sub (by omega), nI_l (by omega), lN_add]
    unfold dgN
    rw [if_pos h]
  · rw [if_neg (by rw [nI_eq (by omega) (by omega)]; exact h), p_exponent F hc hv, bd1_n, nI_l (by omega), lN_add]
    unfold dgN
    rw [if_neg h]
def keyN (ord c : Nat) : Nat := (((degN c * 256 + dgN ord c 0) * 256 + dgN ord c 1) * 256 + dgN ord c 2) * 256 + dgN ord c 3
theorem degN_lt (c : Nat) : degN c < 1024 := by
  unfold degN
  have := exN_lt c 0
  have := exN_lt c 1
  have := exN_lt c 2
  have := exN_lt c 3
  omega
theorem keyN_lt (ord c : Nat) : keyN ord c < 2 ^ 43 := by
  unfold keyN
  have := degN_lt c
  have := dgN_lt ord c 0
  have := dgN_lt ord c 1
  have := dgN_lt ord c 2
  have := dgN_lt ord c 3
  omega
theorem p_key {F : Nat} (hF : 4 < F) {c ord : Nat} (hc : c < 2 ^ 32) (hord : ord < 2) : m_key F (nI c) (nI ord) = some (lN (keyN ord c)) := by
  unfold m_key
  have := degN_lt c
  obtain ⟨m, rfl⟩ : ∃ m, F = m + 5 := ⟨F - 5, by omega⟩
  rw [p_degree _ hc, bd1_n, nI_l (by omega), nlit 0]
  rw [show b_key_9 (m + 5) (m + 5) = b_key_9 (m + 5) (m + 4 + 1) from rfl, p_key_s _ _ hc hord (by decide)]
  rw [show b_key_9 (m + 5) (m + 4) = b_key_9 (m + 5) (m + 3 + 1) from rfl, p_key_s _ _ hc hord (by decide)]
  rw [show b_key_9 (m + 5) (m + 3) = b_key_9 (m + 5) (m + 2 + 1) from rfl, p_key_s _ _ hc hord (by decide)]
  rw [show b_key_9 (m + 5) (m + 2) = b_key_9 (m + 5) (m + 1 + 1) from rfl, p_key_s _ _ hc hord (by decide)]
  show s_key_9 (m + 5) (b_key_9 (m + 5) m) (nI c) (nI ord) (lN (keyN ord c)) (nI 4) = _
  unfold s_key_9
  rw [if_pos (by decide +kernel)]
def cmN (v a c : Nat) : Nat := max (exN a v) (exN c v)
theorem p_common_s (F m : Nat) {a c v k : Nat} (ha : a < 2 ^ 32) (hc : c < 2 ^ 32) (hv : v < 4) : b_common_4 F (m + 1) (nI a) (nI c) (nI k) (nI v) = b_common_4 F m (nI a) (nI c) (nI (k + cmN v a c)) (nI (v + 1)) := by
  show s_common_4 F (b_common_4 F m) (nI a) (nI c) (nI k) (nI v) = _
  unfold s_common_4
  have l1 := exN_lt a v
  have l2 := exN_lt c v
  rw [nlit 4, if_neg (nI_ge hv (by decide)), nlit 1, nI_add v 1, p_exponent F ha hv, bd1_n, p_exponent F hc hv, bd1_n, maxI_n (by omega) (by omega), nI_add]
  rfl
/-- the degree of the least common multiple -/
def lcN (a c : Nat) : Nat := cmN 0 a c + cmN 1 a c + cmN 2 a c + cmN 3 a c
theorem p_common {F : Nat} (hF : 4 < F) {a c : Nat} (ha : a < 2 ^ 32) (hc : c < 2 ^ 32) : m_common F (nI a) (nI c) = some (nI (lcN a c)) := by
  unfold m_common
  obtain ⟨m, rfl⟩ : ∃ m, F = m + 5 := ⟨F - 5, by omega⟩
  rw [nlit 0]
  rw [show b_common_4 (m + 5) (m + 5) = b_common_4 (m + 5) (m + 4 + 1) from rfl, p_common_s _ _ ha hc (by decide)]
  rw [show b_common_4 (m + 5) (m + 4) = b_common_4 (m + 5) (m + 3 + 1) from rfl, p_common_s _ _ ha hc (by decide)]
  rw [show b_common_4 (m + 5) (m + 3) = b_common_4 (m + 5) (m + 2 + 1) from rfl, p_common_s _ _ ha hc (by decide)]
  rw [show b_common_4 (m + 5) (m + 2) = b_common_4 (m + 5) (m + 1 + 1) from rfl, p_common_s _ _ ha hc (by decide)]
  show s_common_4 (m + 5) (b_common_4 (m + 5) m) (nI a) (nI c) (nI (0 + cmN 0 a c + cmN 1 a c + cmN 2 a c + cmN 3 a c)) (nI 4) = _
  unfold s_common_4
  rw [if_pos (by decide +kernel), Nat.zero_add]
  rfl
noncomputable def ipN (q p : Nat) : Nat := @ite Nat (∀ u, q ≤ u → u * u ≤ p → p % u ≠ 0) (Classical.propDecidable _) 1 0
theorem ipN_1 {q p : Nat} (h : ∀ u, q ≤ u → u * u ≤ p → p % u ≠ 0) : ipN q p = 1 := by
  unfold ipN
  exact if_pos h
theorem ipN_0 {q p : Nat} (h : ¬ ∀ u, q ≤ u → u * u ≤ p → p % u ≠ 0) : ipN q p = 0 := by
  unfold ipN
  exact if_neg h
theorem p_isPrime_l (F : Nat) {p : Nat} (hp : p ≤ 32003) : ∀ (d n q : Nat), q + d = 179 → d < n → 2 ≤ q → b_isPrime_16 F n (nI p) (nI q) = some (nI (ipN q p)) := by
  intro d
  induction d with
  | zero =>
    intro n q hq hn h2
    obtain ⟨m, rfl⟩ : ∃ m, n = m + 1 := ⟨n - 1, by omega⟩
    have e : q = 179 := by omega
    subst e
    show s_isPrime_16 F (b_isPrime_16 F m) (nI p) (nI 179) = _
    unfold s_isPrime_16
    rw [pk_mul, if_pos (nI_lt (by omega) (by omega)), ipN_1 (fun u h1 h3 => by
      have := Nat.mul_le_mul h1 h1
      omega)]
    rfl
  | succ d ih =>
    intro n q hq hn h2
    obtain ⟨m, rfl⟩ : ∃ m, n = m + 1 := ⟨n - 1, by omega⟩
    show s_isPrime_16 F (b_isPrime_16 F m) (nI p) (nI q) = _
    unfold s_isPrime_16
    have hqq : q * q ≤ 179 * 179 := Nat.mul_le_mul (by omega) (by omega)
    rw [pk_mul]
    by_cases h : p < q * q
    · rw [if_pos (nI_lt h (by omega)), ipN_1 (fun u h1 h3 => by
        have := Nat.mul_le_mul h1 h1
        omega)]
      rfl
    · rw [if_neg (nI_nlt (by omega) (by omega)), nzI_n (by omega) (by omega), remI_n (by omega) (by omega) (by omega), nlit 0, nlit 1, nI_add]
      have hm : p % q < q := Nat.mod_lt _ (by omega)
      by_cases h0 : p % q = 0
      · rw [if_pos (by rw [h0]), ipN_0 (fun k => k q (Nat.le_refl _) (by omega) h0)]
      · rw [if_neg (by rw [nI_eq (by omega) (by omega)]; exact h0), ih m (q + 1) (by omega) (by omega) (by omega)]
        by_cases k : ∀ u, q + 1 ≤ u → u * u ≤ p → p % u ≠ 0
        · rw [ipN_1 k, ipN_1 (fun u h1 h3 => by
            by_cases hu : u = q
            · rw [hu]; exact h0
            · exact k u (by omega) h3)]
        · rw [ipN_0 k, ipN_0 (fun k' => k (fun u h1 h3 => k' u (by omega) h3))]
theorem isP_iff {p : Nat} (h2 : 2 ≤ p) : isP p ↔ ∀ u, 2 ≤ u → u * u ≤ p → p % u ≠ 0 := by
  constructor
  · intro h u hu huu h0
    rcases h.2 u (Nat.dvd_of_mod_eq_zero h0) with e | e
    · omega
    · rw [e] at huu
      have := Nat.mul_le_mul (Nat.le_refl p) h2
      omega
  · intro h
    refine ⟨h2, fun d hd => ?_⟩
    obtain ⟨e, he⟩ := hd
    by_cases h1 : d = 1
    · exact Or.inl h1
    · right
      by_cases h3 : e = 1
      · rw [he, h3, Nat.mul_one]
      · exfalso
        have hd0 : d ≠ 0 := fun z => by rw [z, Nat.zero_mul] at he; omega
        have he0 : e ≠ 0 := fun z => by rw [z, Nat.mul_zero] at he; omega
        rcases Nat.le_total d e with hle | hle
        · exact h d (by omega) (by rw [he]; exact Nat.mul_le_mul_left d hle) (by rw [he]; exact Nat.mul_mod_right d e)
        · exact h e (by omega) (by rw [he]; exact Nat.mul_le_mul_right e hle) (by rw [he]; exact Nat.mul_mod_left d e)
theorem p_isPrime {F : Nat} (hF : 200 < F) {p : Nat} (h2 : 2 ≤ p) (hp : p ≤ 32003) : m_isPrime F (nI p) = some (nI (ipN 2 p)) := by
  unfold m_isPrime
  rw [nlit 2, if_neg (nI_nlt h2 (by omega)), nlit 32003, if_pos (nI_le hp (by omega))]
  exact p_isPrime_l F hp 177 F 2 (by omega) (by omega) (by omega)
theorem cmp_le {a b : Nat} (ha : a < 2 ^ 63) (hb : b < 2 ^ 63) : lg_cmp (lN a) (lN b) ≤ 0 ↔ a ≤ b := (lg_cmp_le _ _).trans (pk_lLE ha hb)
theorem cmp_ge {a b : Nat} (ha : a < 2 ^ 63) (hb : b < 2 ^ 63) : 0 ≤ lg_cmp (lN a) (lN b) ↔ b ≤ a := (lg_cmp_ge _ _).trans (pk_lLE hb ha)
theorem cmp_eq {a b : Nat} (ha : a < 2 ^ 63) (hb : b < 2 ^ 63) : lg_cmp (lN a) (lN b) = 0 ↔ a = b := by
  constructor
  · intro h
    have h1 := (cmp_le ha hb).mp (by rw [h]; decide)
    have h2 := (cmp_ge ha hb).mp (by rw [h]; decide)
    omega
  · intro h
    rw [h]
    unfold lg_cmp
    rw [if_neg (fun q => Nat.lt_irrefl b ((pk_lLT hb hb).mp q)), if_pos rfl]
def lF (g : Nat → Nat) : Nat → Int64 := fun j => lN (g j)
theorem upd_lF {g : Nat → Nat} {i x : Nat} : vp_updL (lF g) i (lN x) = lF (fun j => if j = i then x else g j) := by
  funext j
  show (if j = i then lN x else lN (g j)) = lN (if j = i then x else g j)
  by_cases h : j = i
  · rw [if_pos h, if_pos h]
  · rw [if_neg h, if_neg h]
/-- the place 'a' is free, those above it have moved up by one -/
def movF (g : Nat → Nat) (a cnt : Nat) : Nat → Nat := fun j => if j ≤ a then g j else if j ≤ cnt then g (j - 1) else g j
def insF (g : Nat → Nat) (a cnt x : Nat) : Nat → Nat := fun j => if j < a then g j else if j = a then x else if j ≤ cnt then g (j - 1) else g j
theorem movF_top (g : Nat → Nat) (cnt : Nat) : movF g cnt cnt = g := by
  funext j
  unfold movF
  by_cases h : j ≤ cnt
  · rw [if_pos h]
  · rw [if_neg h, if_neg h]
theorem movF_step (g : Nat → Nat) {a cnt : Nat} (ha : 0 < a) (hc : a ≤ cnt) : (fun j => if j = a then movF g a cnt (a - 1) else movF g a cnt j) = movF g (a - 1) cnt := by
  funext j
  unfold movF
  by_cases h : j = a
  · rw [if_pos h, if_pos (by omega), if_neg (by omega), if_pos (by omega), h]
  · rw [if_neg h]
    by_cases h1 : j ≤ a - 1
    · rw [if_pos (by omega), if_pos h1]
    · rw [if_neg (by omega), if_neg h1]
theorem movF_end (g : Nat → Nat) (a cnt x : Nat) : (fun j => if j = a then x else movF g a cnt j) = insF g a cnt x := by
  funext j
  unfold movF insF
  by_cases h : j = a
  · rw [if_pos h, if_neg (by omega), if_pos h]
  · rw [if_neg h]
    by_cases h1 : j < a
    · rw [if_pos (by omega), if_pos h1]
    · rw [if_neg (by omega), if_neg h1, if_neg h]
theorem p_insert_e (F : Nat) {ord code key a cnt : Nat} (ha : a < 126) (cg kg : Nat → Nat) : s_insert_82 F (nI ord) (nI code) (lN key) (nI a) (nI cnt) (nF (movF cg a cnt)) (lF (movF kg a cnt)) = some (nI (cnt + 1), nF (insF cg a cnt code), lF (insF kg a cnt key)) := by
  unfold s_insert_82
  rw [wrL_n ha (by decide), wrI_n ha (by decide), nlit, nI_add, upd_nF, upd_lF, movF_end, movF_end]
theorem p_insert_l (F : Nat) {ord code key cnt : Nat} (hcnt : cnt < 126) (hkey : key < 2 ^ 63) (cg kg : Nat → Nat) (hkg : ∀ j, kg j < 2 ^ 63) : ∀ (a n : Nat), a ≤ cnt → a < n →
    ∃ at_, at_ ≤ a ∧ (at_ = 0 ∨ kg (at_ - 1) ≤ key) ∧ (∀ j, at_ ≤ j → j < a → key < kg j) ∧
      b_insert_25 F (nI ord) n (nI code) (lN key) (nI a) (nI cnt) (nF (movF cg a cnt)) (lF (movF kg a cnt)) = some (nI (cnt + 1), nF (insF cg at_ cnt code), lF (insF kg at_ cnt key)) := by
  intro a
  induction a with
  | zero =>
    intro n ha hn
    obtain ⟨m, rfl⟩ : ∃ m, n = m + 1 := ⟨n - 1, by omega⟩
    refine ⟨0, Nat.le_refl _, Or.inl rfl, fun j _ _ => by omega, ?_⟩
    show s_insert_25 F (nI ord) (b_insert_25 F (nI ord) m) (nI code) (lN key) (nI 0) (nI cnt) _ _ = _
    unfold s_insert_25
    rw [if_pos (by decide +kernel)]
    exact p_insert_e F (by decide) cg kg
  | succ a ih =>
    intro n ha hn
    obtain ⟨m, rfl⟩ : ∃ m, n = m + 1 := ⟨n - 1, by omega⟩
    have e1 : movF kg (a + 1) cnt a = kg a := by unfold movF; rw [if_pos (by omega)]
    have step : b_insert_25 F (nI ord) (m + 1) (nI code) (lN key) (nI (a + 1)) (nI cnt) (nF (movF cg (a + 1) cnt)) (lF (movF kg (a + 1) cnt)) =
        if kg a ≤ key then some (nI (cnt + 1), nF (insF cg (a + 1) cnt code), lF (insF kg (a + 1) cnt key)) else b_insert_25 F (nI ord) m (nI code) (lN key) (nI a) (nI cnt) (nF (movF cg a cnt)) (lF (movF kg a cnt)) := by
      show s_insert_25 F (nI ord) (b_insert_25 F (nI ord) m) (nI code) (lN key) (nI (a + 1)) (nI cnt) _ _ = _
      unfold s_insert_25
      rw [if_neg (nI_nle (by omega) (by omega)), p_insert_e F (by omega) cg kg, nlit 1, pk_sub (by omega), Nat.add_sub_cancel, rdL_n (by omega) (by decide)]
      by_cases h : kg a ≤ key
      · rw [if_pos h, if_pos (by
          show lg_cmp (lN (movF kg (a + 1) cnt a)) (lN key) ≤ 0
          rw [e1, cmp_le (hkg _) hkey]; exact h)]
      · rw [if_neg h, if_neg (by
          show ¬ lg_cmp (lN (movF kg (a + 1) cnt a)) (lN key) ≤ 0
          rw [e1, cmp_le (hkg _) hkey]; exact h), rdL_n (by omega) (by decide), wrL_n (by omega) (by decide), rdI_n (by omega) (by decide), wrI_n (by omega) (by decide), show nI (a + 1) + -nI 1 = nI a from pk_m1 a]
        show b_insert_25 F (nI ord) m (nI code) (lN key) (nI a) (nI cnt) (upd (nF (movF cg (a + 1) cnt)) (a + 1) (nI (movF cg (a + 1) cnt a))) (vp_updL (lF (movF kg (a + 1) cnt)) (a + 1) (lN (movF kg (a + 1) cnt a))) = _
        rw [upd_nF, upd_lF]
        have s1 := movF_step cg (a := a + 1) (cnt := cnt) (by omega) ha
        have s2 := movF_step kg (a := a + 1) (cnt := cnt) (by omega) ha
        rw [Nat.add_sub_cancel] at s1 s2
        rw [s1, s2]
    rw [step]
    by_cases h : kg a ≤ key
    · rw [if_pos h]
      exact ⟨a + 1, Nat.le_refl _, Or.inr (by rw [Nat.add_sub_cancel]; exact h), fun j _ _ => by omega, rfl⟩
    · rw [if_neg h]
      obtain ⟨at_, h1, h2, h3, h4⟩ := ih m (by omega) (by omega)
      refine ⟨at_, by omega, h2, fun j hj hja => ?_, h4⟩
      by_cases hjq : j = a
      · rw [hjq]; omega
      · exact h3 j hj (by omega)
theorem p_insert {F : Nat} (hF : 126 < F) {ord code cnt : Nat} (hord : ord < 2) (hcode : code < 2 ^ 32) (hcnt : cnt < 126) (cg kg : Nat → Nat) (hkg : ∀ j, kg j < 2 ^ 63) :
    ∃ at_, at_ ≤ cnt ∧ (at_ = 0 ∨ kg (at_ - 1) ≤ keyN ord code) ∧ (∀ j, at_ ≤ j → j < cnt → keyN ord code < kg j) ∧
      m_insert F (nI ord) (nI code) (nI cnt) (nF cg) (lF kg) = some (nI (cnt + 1), nF (insF cg at_ cnt code), lF (insF kg at_ cnt (keyN ord code))) := by
  have hk := keyN_lt ord code
  obtain ⟨at_, h1, h2, h3, h4⟩ := p_insert_l F (ord := ord) (code := code) hcnt (show keyN ord code < 2 ^ 63 by omega) cg kg hkg cnt F (Nat.le_refl _) (by omega)
  refine ⟨at_, h1, h2, h3, ?_⟩
  unfold m_insert
  rw [nlit 126, if_pos (nI_lt hcnt (by decide)), p_key (by omega) hcode hord, bd1_n]
  rw [movF_top, movF_top] at h4
  exact h4
theorem p_rank_l (F : Nat) {ord cnt key : Nat} (hcnt : cnt ≤ 126) (hkey : key < 2 ^ 63) (kg : Nat → Nat) (hkg : ∀ j, kg j < 2 ^ 63) (hs : ∀ i j, i < j → j < cnt → kg i < kg j) : ∀ (d n lo h t : Nat), h - lo = d → d < n → lo ≤ h → h ≤ cnt → d * 2 ^ t < 128 → t ≤ 8 → (∀ j, j < cnt → kg j = key → lo ≤ j ∧ j < h) →
    (∃ j, j < cnt ∧ kg j = key ∧ b_rank_23 F (nI cnt) (nI ord) (lF kg) n (lN key) (nI lo) (nI h - nI 1) (nI t) = some (nI j)) ∨ ((∀ j, j < cnt → kg j ≠ key) ∧ b_rank_23 F (nI cnt) (nI ord) (lF kg) n (lN key) (nI lo) (nI h - nI 1) (nI t) = some (-1)) := by
  intro d
  induction d using Nat.strongRecOn with
  | _ d ih =>
    intro n lo h t hd hn hlh hhc hdt ht hin
    obtain ⟨m, rfl⟩ : ∃ m, n = m + 1 := ⟨n - 1, by omega⟩
    by_cases hlt : lo < h
    · have ht7 : t < 8 := by
        rcases Nat.lt_or_ge t 8 with q | q
        · exact q
        · exfalso
          have : 2 ^ 8 ≤ 2 ^ t := Nat.pow_le_pow_right (by decide) q
          have : 1 * 2 ^ t ≤ d * 2 ^ t := Nat.mul_le_mul_right _ (by omega)
          omega
      obtain ⟨mid, hmid⟩ : ∃ mid, mid = (lo + (h - 1)) / 2 := ⟨_, rfl⟩
      have step : b_rank_23 F (nI cnt) (nI ord) (lF kg) (m + 1) (lN key) (nI lo) (nI h - nI 1) (nI t) =
          if kg mid = key then some (nI mid) else if key ≤ kg mid then b_rank_23 F (nI cnt) (nI ord) (lF kg) m (lN key) (nI lo) (nI mid - nI 1) (nI (t + 1)) else b_rank_23 F (nI cnt) (nI ord) (lF kg) m (lN key) (nI (mid + 1)) (nI h - nI 1) (nI (t + 1)) := by
        show s_rank_23 F (nI cnt) (nI ord) (lF kg) (b_rank_23 F (nI cnt) (nI ord) (lF kg) m) (lN key) (nI lo) (nI h - nI 1) (nI t) = _
        unfold s_rank_23
        have e1 : ushI (nI lo + (nI h - nI 1)) 1 = nI mid := by
          rw [pk_sub (by omega), nI_add, nlit, ushI_n (by omega) (by decide), hmid]
        rw [nlit 32, if_neg (nI_ge (by omega) (by decide)), if_neg (by
          rw [pk_sub (by omega)]
          exact nI_nlt (by omega) (by omega)), e1, rdL_n (by omega) (by decide), rdL_n (by omega) (by decide), nlit 1, nI_add, nI_add, show lF kg mid = lN (kg mid) from rfl]
        by_cases q1 : kg mid = key
        · rw [if_pos q1, if_pos ((cmp_eq (hkg mid) hkey).mpr q1)]
        · rw [if_neg q1, if_neg (fun z => q1 ((cmp_eq (hkg mid) hkey).mp z))]
          by_cases q2 : key ≤ kg mid
          · rw [if_pos q2, if_pos ((cmp_ge (hkg mid) hkey).mpr q2)]
          · rw [if_neg q2, if_neg (fun z => q2 ((cmp_ge (hkg mid) hkey).mp z))]
      have hpow : 2 ^ (t + 1) = 2 * 2 ^ t := by rw [Nat.pow_succ, Nat.mul_comm]
      rw [step]
      by_cases q1 : kg mid = key
      · rw [if_pos q1]
        exact Or.inl ⟨mid, by omega, q1, rfl⟩
      · rw [if_neg q1]
        by_cases q2 : key ≤ kg mid
        · rw [if_pos q2]
          refine ih (mid - lo) (by omega) m lo mid (t + 1) rfl (by omega) (by omega) (by omega) ?_ (by omega) (fun j hj hjk => ?_)
          · rw [hpow, ← Nat.mul_assoc]
            exact Nat.lt_of_le_of_lt (Nat.mul_le_mul_right _ (by omega)) hdt
          · obtain ⟨h1, h2⟩ := hin j hj hjk
            refine ⟨h1, ?_⟩
            rcases Nat.lt_or_ge j mid with z | z
            · exact z
            · exfalso
              rcases Nat.eq_or_lt_of_le z with z | z
              · exact q1 (by rw [z]; exact hjk)
              · have := hs mid j z hj
                omega
        · rw [if_neg q2]
          refine ih (h - (mid + 1)) (by omega) m (mid + 1) h (t + 1) rfl (by omega) (by omega) hhc ?_ (by omega) (fun j hj hjk => ?_)
          · rw [hpow, ← Nat.mul_assoc]
            exact Nat.lt_of_le_of_lt (Nat.mul_le_mul_right _ (by omega)) hdt
          · obtain ⟨h1, h2⟩ := hin j hj hjk
            refine ⟨?_, h2⟩
            rcases Nat.lt_or_ge mid j with z | z
            · exact z
            · exfalso
              rcases Nat.eq_or_lt_of_le z with z | z
              · exact q1 (by rw [← z]; exact hjk)
              · have := hs j mid z (by omega)
                omega
    · refine Or.inr ⟨fun j hj hjk => ?_, ?_⟩
      · have := hin j hj hjk
        omega
      · show s_rank_23 F (nI cnt) (nI ord) (lF kg) (b_rank_23 F (nI cnt) (nI ord) (lF kg) m) (lN key) (nI lo) (nI h - nI 1) (nI t) = _
        unfold s_rank_23
        rw [nlit 32, if_neg (nI_ge (by omega) (by decide)), if_pos ?_]
        rcases Nat.eq_zero_or_pos h with z | z
        · have e0 : nI h - nI 1 = -1 := by rw [z]; decide +kernel
          have e2 : lo = 0 := by omega
          rw [e0, e2]
          decide +kernel
        · rw [pk_sub (by omega)]
          exact nI_lt (by omega) (by omega)
theorem p_rank {F : Nat} (hF : 126 < F) {ord cnt code : Nat} (hord : ord < 2) (hcode : code < 2 ^ 32) (hcnt : cnt ≤ 126) (kg : Nat → Nat) (hkg : ∀ j, kg j < 2 ^ 63) (hs : ∀ i j, i < j → j < cnt → kg i < kg j) :
    (∃ j, j < cnt ∧ kg j = keyN ord code ∧ m_rank F (nI cnt) (nI ord) (lF kg) (nI code) = some (nI j)) ∨ ((∀ j, j < cnt → kg j ≠ keyN ord code) ∧ m_rank F (nI cnt) (nI ord) (lF kg) (nI code) = some (-1)) := by
  have hk := keyN_lt ord code
  have e : m_rank F (nI cnt) (nI ord) (lF kg) (nI code) = b_rank_23 F (nI cnt) (nI ord) (lF kg) F (lN (keyN ord code)) (nI 0) (nI cnt - nI 1) (nI 0) := by
    unfold m_rank
    rw [p_key (by omega) hcode hord, bd1_n]
    rfl
  rw [e]
  exact p_rank_l F hcnt (by omega) kg hkg hs cnt F 0 cnt 0 (by omega) (by omega) (by omega) (Nat.le_refl _) (by omega) (by omega) (fun j hj _ => ⟨by omega, hj⟩)
def cdN (x y z w : Nat) : Nat := ((x * 256 + y) * 256 + z) * 256 + w
theorem p_code {x y z w : Nat} (hx : x < 256) (hy : y < 256) (hz : z < 256) (hw : w < 256) : (((shlI (nI x) 24) ||| (shlI (nI y) 16)) ||| (shlI (nI z) 8)) ||| nI w = nI (cdN x y z w) := by
  rw [nlit 24, nlit 16, nlit 8, shlI_n (by decide) (by omega), shlI_n (by decide) (by omega), shlI_n (by decide) (by omega)]
  rw [nI_orS (a := x) (b := y * 2 ^ 16) (k := 24) (by omega), show x * 2 ^ 24 + y * 2 ^ 16 = (x * 256 + y) * 2 ^ 16 by omega]
  rw [nI_orS (b := z * 2 ^ 8) (k := 16) (by omega), show (x * 256 + y) * 2 ^ 16 + z * 2 ^ 8 = ((x * 256 + y) * 256 + z) * 2 ^ 8 by omega]
  rw [nI_orS (b := w) (k := 8) (by omega)]
  rfl
theorem exN_0 (c : Nat) : exN c 0 = c / 16777216 % 256 := rfl
theorem exN_1 (c : Nat) : exN c 1 = c / 65536 % 256 := rfl
theorem exN_2 (c : Nat) : exN c 2 = c / 256 % 256 := rfl
theorem exN_3 (c : Nat) : exN c 3 = c % 256 := by show c / 1 % 256 = c % 256; rw [Nat.div_one]
theorem cdN_ex {x y z w : Nat} (hx : x < 256) (hy : y < 256) (hz : z < 256) (hw : w < 256) : exN (cdN x y z w) 0 = x ∧ exN (cdN x y z w) 1 = y ∧ exN (cdN x y z w) 2 = z ∧ exN (cdN x y z w) 3 = w := by
  rw [exN_0, exN_1, exN_2, exN_3]
  unfold cdN
  omega
theorem ex_cdN {c : Nat} (hc : c < 2 ^ 32) : c = cdN (exN c 0) (exN c 1) (exN c 2) (exN c 3) := by
  rw [exN_0, exN_1, exN_2, exN_3]
  unfold cdN
  omega
theorem keyN_inj {ord a c : Nat} (ha : a < 2 ^ 32) (hc : c < 2 ^ 32) (h : keyN ord a = keyN ord c) : a = c := by
  unfold keyN at h
  have a0 := dgN_lt ord a 0
  have a1 := dgN_lt ord a 1
  have a2 := dgN_lt ord a 2
  have a3 := dgN_lt ord a 3
  have c0 := dgN_lt ord c 0
  have c1 := dgN_lt ord c 1
  have c2 := dgN_lt ord c 2
  have c3 := dgN_lt ord c 3
  have e0 : dgN ord a 0 = dgN ord c 0 := by omega
  have e1 : dgN ord a 1 = dgN ord c 1 := by omega
  have e2 : dgN ord a 2 = dgN ord c 2 := by omega
  have e3 : dgN ord a 3 = dgN ord c 3 := by omega
  have l0 := exN_lt a 0
  have l1 := exN_lt a 1
  have l2 := exN_lt a 2
  have l3 := exN_lt a 3
  have m0 := exN_lt c 0
  have m1 := exN_lt c 1
  have m2 := exN_lt c 2
  have m3 := exN_lt c 3
  have key : exN a 0 = exN c 0 ∧ exN a 1 = exN c 1 ∧ exN a 2 = exN c 2 ∧ exN a 3 = exN c 3 := by
    unfold dgN at e0 e1 e2 e3
    by_cases ho : ord = 0
    · simp only [if_pos ho] at e0 e1 e2 e3
      have f0 : 3 - 0 = 3 := rfl
      have f1 : 3 - 1 = 2 := rfl
      have f2 : 3 - 2 = 1 := rfl
      have f3 : 3 - 3 = 0 := rfl
      rw [f0] at e0
      rw [f1] at e1
      rw [f2] at e2
      rw [f3] at e3
      omega
    · simp only [if_neg ho] at e0 e1 e2 e3
      exact ⟨e0, e1, e2, e3⟩
  rw [ex_cdN ha, ex_cdN hc, key.1, key.2.1, key.2.2.1, key.2.2.2]
