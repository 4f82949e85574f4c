/-! THE CLASS'S PRODUCT OF A ROW WITH A VARIABLE. -/
/-- the table of products: the place of variable v times monomial i, or -1 -/
def RaisedOK (cnt n : Nat) (up : Nat → Nat → Nat) (rs : Nat → Int32) : Prop := ∀ v i, v < n → i < cnt → (up v i < cnt ∧ rs (v * 126 + i) = nI (up v i)) ∨ (cnt ≤ up v i ∧ rs (v * 126 + i) = -1)
theorem p_load_l {F cnt n v lead : Nat} (hcnt : cnt ≤ 126) (hn : n ≤ 4) (hv : v < n) (hlead : lead < cnt) {up : Nat → Nat → Nat} {rs : Nat → Int32} (hrs : RaisedOK cnt n up rs) (hinj : ∀ a b, a < cnt → b < cnt → up v a = up v b → up v a < cnt → a = b) {R : Nat → Nat} :
    ∀ (d m k : Nat), k + d = lead + 1 → d < m → b_loadProduct_10 F rs (nF R) m (nI v) (nI lead) (nI k) (nF (fun j => if j < cnt then sm k (fun i => if up v i = j then rowF R lead i else 0) else 0)) = some (nF (fun j => if j < cnt then sm (lead + 1) (fun i => if up v i = j then rowF R lead i else 0) else 0)) := by
  intro d
  induction d with
  | zero =>
    intro m k hk hm
    obtain ⟨m, rfl⟩ : ∃ q, m = q + 1 := ⟨m - 1, by omega⟩
    have e : k = lead + 1 := by omega
    subst e
    show s_loadProduct_10 F rs (nF R) _ (nI v) (nI lead) (nI (lead + 1)) _ = _
    unfold s_loadProduct_10
    rw [if_pos (nI_lt (by omega) (by omega))]
  | succ d ih =>
    intro m k hk hm
    obtain ⟨m, rfl⟩ : ∃ q, m = q + 1 := ⟨m - 1, by omega⟩
    have hv4 : v < 4 := by omega
    show s_loadProduct_10 F rs (nF R) (b_loadProduct_10 F rs (nF R) m) (nI v) (nI lead) (nI k) _ = _
    unfold s_loadProduct_10
    rw [if_neg (nI_nlt (by omega) (by omega)), nlit 126, pk_mul, nI_add, rdI_n (by omega) (by decide), pk_mul, nI_add, nlit 1, nI_add]
    rcases hrs v k hv (by omega) with ⟨h1, h2⟩ | ⟨h1, h2⟩
    · rw [h2, if_neg (by
        intro q
        have := nI_pos (n := up v k) (by omega)
        rw [q] at this
        exact this (by decide)), rdI_n (by omega) (by decide), wrI_n (by omega) (by decide)]
      show b_loadProduct_10 F rs (nF R) m (nI v) (nI lead) (nI (k + 1)) (upd (nF _) (up v k) (nI (R (lead * 126 + k)))) = _
      rw [upd_nF, ← ih m (k + 1) (by omega) (by omega)]
      congr 2
      funext j
      have erow : rowF R lead k = R (lead * 126 + k) := by unfold rowF; rw [if_pos (by omega)]
      by_cases e : j = up v k
      · subst e
        rw [if_pos rfl, if_pos h1]
        show _ = sm k _ + (if up v k = up v k then rowF R lead k else 0)
        rw [sm_zero (fun i hi => if_neg (fun q => by
          have := hinj i k (by omega) (by omega) q (by rw [q]; exact h1)
          omega)), if_pos rfl, erow, Nat.zero_add]
      · rw [if_neg e]
        by_cases hj : j < cnt
        · rw [if_pos hj, if_pos hj]
          show _ = sm k _ + (if up v k = j then rowF R lead k else 0)
          rw [if_neg (fun q => e q.symm), Nat.add_zero]
        · rw [if_neg hj, if_neg hj]
    · rw [h2, if_pos (show (-1 : Int32) = -nI 1 from rfl), ← ih m (k + 1) (by omega) (by omega)]
      congr 2
      funext j
      by_cases hj : j < cnt
      · rw [if_pos hj, if_pos hj]
        show _ = sm k _ + (if up v k = j then rowF R lead k else 0)
        rw [if_neg (by omega), Nat.add_zero]
      · rw [if_neg hj, if_neg hj]
theorem p_load {F cnt n v lead : Nat} (hF : 200 < F) (hcnt : cnt ≤ 126) (hn : n ≤ 4) (hv : v < n) (hlead : lead < cnt) {up : Nat → Nat → Nat} {rs : Nat → Int32} (hrs : RaisedOK cnt n up rs) (hinj : ∀ a b, a < cnt → b < cnt → up v a = up v b → up v a < cnt → a = b) {R w : Nat → Nat} (hr0 : ∀ j, lead < j → rowF R lead j = 0) (hw0 : ∀ j, 126 ≤ j → w j = 0) :
    m_loadProduct F rs (nF R) (nI v) (nI lead) (nF w) = some (nF (fun j => if j < cnt then mulV cnt (up v) (rowF R lead) j else 0)) := by
  unfold m_loadProduct
  rw [nlit 0, p_fill (by decide) (by omega), bd1_n]
  have e0 : (fun j => if j < 126 then nI 0 else nF w j) = nF (fun j => if j < cnt then sm 0 (fun i => if up v i = j then rowF R lead i else 0) else 0) := by
    funext j
    show (if j < 126 then nI 0 else nI (w j)) = nI (if j < cnt then 0 else 0)
    by_cases h : j < 126
    · rw [if_pos h]; split <;> rfl
    · rw [if_neg h, hw0 j (by omega)]; split <;> rfl
  rw [e0, p_load_l hcnt hn hv hlead hrs hinj (lead + 1) F 0 (by omega) (by omega)]
  congr 2
  funext j
  by_cases hj : j < cnt
  · rw [if_pos hj, if_pos hj]
    unfold mulV
    have : ∀ m, lead + 1 ≤ m → sm m (fun i => if up v i = j then rowF R lead i else 0) = sm (lead + 1) (fun i => if up v i = j then rowF R lead i else 0) := by
      intro m
      induction m with
      | zero => intro h; omega
      | succ m ih =>
        intro h
        by_cases e : m = lead
        · rw [e]
        · show sm m _ + (if up v m = j then rowF R lead m else 0) = _
          rw [ih (by omega), hr0 m (by omega)]
          split <;> rfl
    exact (this cnt (by omega)).symm
  · rw [if_neg hj, if_neg hj]
