/-! A VECTOR COMES TO THE ROWS: nothing new, or one row more (class and reference alike). -/
def Came (p cnt : Nat) (L : Nat → Nat) (row : Nat → Nat → Nat) (w : Nat → Nat) (L' : Nat → Nat) (row' : Nat → Nat → Nat) : Prop :=
  (L' = L ∧ row' = row ∧ RS p cnt L row w) ∨
  ∃ (i : Nat) (x u : Nat → Nat), i < cnt ∧ L i = 0 ∧ x i ≠ 0 ∧ (∀ j, x j < p) ∧ (∀ j, i < j → x j = 0) ∧ RS p cnt L row u ∧ (∀ j, x j = (w j + u j) % p) ∧
    L' = (fun j => if j = i then 1 else L j) ∧ (∀ j, row' i j = (x i ^ (p - 2) % p) * x j % p) ∧ ∀ a j, a ≠ i → row' a j = row a j
section CAME
variable {p cnt : Nat} {L L' : Nat → Nat} {row row' : Nat → Nat → Nat} {w : Nat → Nat}
theorem Came.ech (h : Came p cnt L row w L' row') (hp : isP p) (hE : Ech p cnt L row) : Ech p cnt L' row' := by
  rcases h with ⟨h1, h2, _⟩ | ⟨i, x, u, a1, a2, a3, a4, a5, _, _, a8, a9, a10⟩
  · rw [h1, h2]; exact hE
  · rw [a8]; exact absorb_new hp hE a1 a2 a4 a3 a5 a9 a10
theorem Came.old (h : Came p cnt L row w L' row') {f : Nat → Nat} (hf : RS p cnt L row f) : RS p cnt L' row' f := by
  rcases h with ⟨h1, h2, _⟩ | ⟨i, x, u, _, a2, _, _, _, _, _, a8, _, a10⟩
  · rw [h1, h2]; exact hf
  · rw [a8]; exact absorb_old a2 a10 hf
/-- the vector itself is among the new combinations -/
theorem Came.has (h : Came p cnt L row w L' row') (hp : isP p) (hE : Ech p cnt L row) (hw : ∀ j, w j < p) : RS p cnt L' row' w := by
  have hE' := h.ech hp hE
  have hold := fun f (hf : RS p cnt L row f) => h.old hf
  have hp2 := hp.1
  rcases h with ⟨h1, h2, h3⟩ | ⟨i, x, u, a1, a2, a3, a4, a5, a6, a7, a8, a9, a10⟩
  · rw [h1, h2]; exact h3
  · have hi : L' i = 1 := by rw [a8]; exact if_pos rfl
    have hr := RS_row hE' hi
    have h1 := RS_addm (RS_addm (RS_zero p cnt L' row') hr (x i)) (hold u a6) (p - 1)
    have hul : ∀ j, u j < p := fun j => by
      obtain ⟨c, hc⟩ := a6
      rw [hc]; exact Nat.mod_lt _ (by omega)
    have e : w = fun j => ((0 + x i * row' i j) % p + (p - 1) * u j) % p := by
      funext j
      have hx : x i * row' i j % p = x j := by
        rw [a9 j, Nat.mul_mod, Nat.mod_mod, ← Nat.mul_mod, ← Nat.mul_assoc, Nat.mul_mod, fm_pow hp (by omega) (a4 i), Nat.one_mul, Nat.mod_mod, Nat.mod_eq_of_lt (a4 j)]
      rw [Nat.zero_add, hx, a7 j, Nat.mod_add_mod, Nat.add_assoc]
      have e1 : u j + (p - 1) * u j = p * u j := by
        rw [Nat.add_comm, ← Nat.succ_mul, show (p - 1).succ = p by omega]
      rw [e1, Nat.add_mul_mod_self_left, Nat.mod_eq_of_lt (hw j)]
    rw [e]
    exact h1
/-- a set that is closed under sums, and has the vector and the rows, has the new rows -/
theorem Came.sub (h : Came p cnt L row w L' row') (S : (Nat → Nat) → Prop) (h0 : S (fun _ => 0)) (ha : ∀ f g a, S f → S g → S (fun j => (f j + a * g j) % p)) (hw : S w) (hr : ∀ i, L i = 1 → S (row i)) (hL : ∀ i, L i = 0 ∨ L i = 1) : ∀ i, L' i = 1 → S (row' i) := by
  rcases h with ⟨h1, h2, _⟩ | ⟨i, x, u, a1, a2, a3, a4, a5, a6, a7, a8, a9, a10⟩
  · rw [h1, h2]; exact hr
  · intro q hq
    by_cases e : q = i
    · have hu : S u := by
        obtain ⟨c, hc⟩ := a6
        have hsum : ∀ J, S (fun j => sm J (fun i => L i * (c i * row i j)) % p) := by
          intro J
          induction J with
          | zero =>
            show S (fun j => 0 % p)
            simp only [Nat.zero_mod]
            exact h0
          | succ J ih =>
            rcases hL J with z | z
            · have e : (fun j => sm (J + 1) (fun i => L i * (c i * row i j)) % p) = (fun j => sm J (fun i => L i * (c i * row i j)) % p) := by
                funext j
                show (sm J _ + L J * _) % p = _
                rw [z, Nat.zero_mul, Nat.add_zero]
              rw [e]; exact ih
            · have e : (fun j => sm (J + 1) (fun i => L i * (c i * row i j)) % p) = (fun j => (sm J (fun i => L i * (c i * row i j)) % p + c J * row J j) % p) := by
                funext j
                show (sm J _ + L J * _) % p = _
                rw [z, Nat.one_mul, Nat.mod_add_mod]
              rw [e]
              exact ha _ _ _ ih (hr J z)
        have e : u = fun j => sm cnt (fun i => L i * (c i * row i j)) % p := funext hc
        rw [e]
        exact hsum cnt
      have h1 : S x := by
        have := ha w u 1 hw hu
        have e : x = fun j => (w j + 1 * u j) % p := by
          funext j
          rw [a7 j, Nat.one_mul]
        rw [e]; exact this
      have h2 := ha _ x (x i ^ (p - 2) % p) h0 h1
      have e2 : row' q = fun j => (0 + (x i ^ (p - 2) % p) * x j) % p := by
        funext j
        rw [e, a9 j, Nat.zero_add]
      rw [e2]; exact h2
    · have hq' : L q = 1 := by
        rw [a8] at hq
        have : (if q = i then 1 else L q) = 1 := hq
        rw [if_neg e] at this
        exact this
      have e2 : row' q = row q := funext fun j => a10 q j e
      rw [e2]; exact hr q hq'
/-- how many rows there are -/
theorem Came.count (h : Came p cnt L row w L' row') : (L' = L ∧ row' = row) ∨ (sm cnt L' = sm cnt L + 1 ∧ ∃ i, i < cnt ∧ L i = 0 ∧ L' = fun j => if j = i then 1 else L j) := by
  rcases h with ⟨h1, h2, _⟩ | ⟨i, x, u, a1, a2, _, _, _, _, _, a8, _, _⟩
  · exact Or.inl ⟨h1, h2⟩
  · refine Or.inr ⟨?_, i, a1, a2, a8⟩
    rw [a8]
    have : ∀ n, i < n → sm n (fun j => if j = i then 1 else L j) = sm n L + 1 := by
      intro n
      induction n with
      | zero => intro h; omega
      | succ n ih =>
        intro h
        show sm n _ + (if n = i then 1 else L n) = sm n L + L n + 1
        by_cases e : n = i
        · rw [if_pos e, e, a2, sm_congr (g := L) (fun q hq => if_neg (by omega))]
        · rw [if_neg e, ih (by omega)]; omega
    exact this cnt a1
end CAME
theorem sm_le {n : Nat} {L : Nat → Nat} (h : ∀ i, L i = 0 ∨ L i = 1) : sm n L ≤ n := by
  induction n with
  | zero => exact Nat.le_refl _
  | succ n ih =>
    show sm n L + L n ≤ n + 1
    rcases h n with z | z <;> omega
theorem sm_lt {n i : Nat} {L : Nat → Nat} (h : ∀ i, L i = 0 ∨ L i = 1) (hi : i < n) (h0 : L i = 0) : sm n L < n := by
  induction n with
  | zero => omega
  | succ n ih =>
    show sm n L + L n < n + 1
    by_cases e : i = n
    · rw [← e, h0]
      have := sm_le (n := i) h
      omega
    · have := ih (by omega)
      rcases h n with z | z <;> omega
theorem Absorbed.came {p cnt kc kc' : Nat} {w R Lf K R' Lf' K' : Nat → Nat} (hcnt : cnt ≤ 126) (h : Absorbed p cnt w R Lf K kc R' Lf' K' kc') : Came p cnt Lf (rowF R) w Lf' (rowF R') := by
  rcases h with ⟨h1, h2, _, _, h5⟩ | ⟨i, x, u, a1, a2, a3, a4, a5, a6, a7, a8, a9, _, _⟩
  · exact Or.inl ⟨h2, by rw [h1], h5⟩
  · refine Or.inr ⟨i, x, u, a1, a2, a3, a4, a5, a6, a7, a9, fun j => ?_, fun a j ha => ?_⟩
    · rw [a8]
      by_cases h : j ≤ i
      · exact keepR_own h (by omega)
      · rw [keepR_above (by omega) (by omega), a5 j (by omega), Nat.mul_zero, Nat.zero_mod]
    · rw [a8]; exact keepR_other ha (by omega)
theorem p_zcomes_l (F p cnt l by_ : Nat) (hp : 0 < p) (hp2 : p ≤ 32003) (hcnt : cnt ≤ 126) (hl : l < cnt) (hby : by_ < p) (hs x : Nat → Nat) (hx : ∀ j, j < cnt → x j < p) : ∀ (d n k : Nat) (R : Nat → Nat), k + d = cnt → d < n →
    b_zcomes_26 F (nI cnt) (nI p) n (nI l) (lN by_) (nI k) (nF hs) (nF R) (nF x) = some (1, nF (fun j => if j = l then 1 else hs j), nF (fun q => if 126 * l + k ≤ q ∧ q < 126 * l + cnt then x (q - 126 * l) * by_ % p else R q), nF x) := by
  intro d
  induction d with
  | zero =>
    intro n k R hk hn
    obtain ⟨m, rfl⟩ : ∃ m, n = m + 1 := ⟨n - 1, by omega⟩
    show s_zcomes_26 F (nI cnt) (nI p) _ (nI l) (lN by_) (nI k) (nF hs) (nF R) (nF x) = _
    unfold s_zcomes_26
    rw [if_pos (nI_le (by omega) (by omega)), show vp_nar .boolean 1 = nI 1 from by decide +kernel, wrI_n (by omega) (by decide), upd_nF]
    congr 4
    funext q
    dsimp only [nF]
    rw [if_neg (by omega)]
  | succ d ih =>
    intro n k R hk hn
    obtain ⟨m, rfl⟩ : ∃ m, n = m + 1 := ⟨n - 1, by omega⟩
    show s_zcomes_26 F (nI cnt) (nI p) (b_zcomes_26 F (nI cnt) (nI p) m) (nI l) (lN by_) (nI k) (nF hs) (nF R) (nF x) = _
    unfold s_zcomes_26
    have hxk := hx k (by omega)
    have hm : x k * by_ ≤ 32003 * 32003 := Nat.mul_le_mul (by omega) (by omega)
    rw [if_neg (nI_ge (by omega) (by omega)), rdI_n (by omega) (by decide), nI_l (by omega), nzL_n hp (by omega), nlit 126, pk_mul, nI_add]
    show wrI 15876 (nF R) (nI (126 * l + k)) ((remL ((nI (x k)).toInt64 * lN by_) (lN p)).toInt32) _ = _
    rw [nI_l (by omega), lN_mul, remL_n (by omega) hp (by omega), lN_i, wrI_n (by omega) (by decide), upd_nF, nlit 1, nI_add, ih m (k + 1) _ (by omega) (by omega)]
    congr 4
    funext q
    dsimp only [nF]
    by_cases h1 : q = 126 * l + k
    · rw [if_neg (by omega), if_pos h1, if_pos (by omega), h1, Nat.add_sub_cancel_left]
    · by_cases h2 : 126 * l + k ≤ q ∧ q < 126 * l + cnt
      · rw [if_pos (by omega), if_pos h2]
      · rw [if_neg (by omega), if_neg h2, if_neg h1]
theorem p_zcomes {F p cnt : Nat} (hF : 40000 < F) (hp : 2 ≤ p) (hp2 : p ≤ 32003) (hcnt : cnt ≤ 126) {w R hs : Nat → Nat} (hE : Ech p cnt hs (rowC cnt R)) (hw : ∀ j, j < cnt → w j < p) :
    ∃ r hs' R' x', m_zcomes F (nI cnt) (nI p) (nF hs) (nF R) (nF w) = some (nI r, nF hs', nF R', nF x') ∧ (∀ j, j < cnt → x' j < p) ∧ (∀ j, cnt ≤ j → x' j = w j) ∧ Came p cnt hs (rowC cnt R) (vecC cnt w) hs' (rowC cnt R') ∧ (r = 0 ↔ hs' = hs) ∧ r ≤ 1 := by
  obtain ⟨li, x, h1, h2, h3, h4, ⟨u, hu1, hu2⟩, h6⟩ := p_zreduce hF hp hp2 hcnt hE hw
  have hul : ∀ j, u j < p := fun j => by
    obtain ⟨c, hc⟩ := hu1
    rw [hc]; exact Nat.mod_lt _ (by omega)
  -- beyond the places the combination is 0
  have hu0 : ∀ j, cnt ≤ j → u j = 0 := fun j hj => by
    obtain ⟨c, hc⟩ := hu1
    rw [hc]
    unfold LC
    rw [sm_zero (fun i _ => by
      unfold rowC
      rw [if_neg (by omega), Nat.mul_zero, Nat.mul_zero]), Nat.zero_mod]
  rcases h6 with ⟨a1, a2⟩ | ⟨l, a1, _, a3, a4, a5, a6⟩
  · refine ⟨0, hs, R, x, ?_, h2, h3, Or.inl ⟨rfl, rfl, ?_⟩, by simp, by omega⟩
    · unfold m_zcomes
      rw [h1]
      show (if 0 ≤ li then _ else _) = _
      rw [if_neg (by rw [a1]; decide)]
      rfl
    · have h := RS_addm (RS_zero p cnt hs (rowC cnt R)) hu1 (p - 1)
      have e : vecC cnt w = fun j => (0 + (p - 1) * u j) % p := by
        funext j
        unfold vecC
        by_cases hj : j < cnt
        · rw [if_pos hj, Nat.zero_add]
          have h5 := hu2 j hj
          rw [a2 j (by omega) hj] at h5
          have h7 := hw j hj
          have h8 := hul j
          rcases Nat.lt_or_ge (w j + u j) p with q | q
          · rw [Nat.mod_eq_of_lt q] at h5
            have e1 : w j = 0 := by omega
            have e2 : u j = 0 := by omega
            rw [e1, e2, Nat.mul_zero, Nat.zero_mod]
          · rw [Nat.mod_eq_sub_mod q, Nat.mod_eq_of_lt (by omega)] at h5
            have e2 : w j = p - u j := by omega
            have e3 : (p - 1) * u j = p * (u j - 1) + (p - u j) := by
              have e4 : (p - 1) * u j + u j = p * u j := by rw [← Nat.succ_mul, show (p - 1).succ = p by omega]
              have e5 : p * u j = p * (u j - 1) + p := by
                rw [← Nat.mul_succ]; congr 1; omega
              omega
            rw [e3, Nat.mul_add_mod, Nat.mod_eq_of_lt (by omega), e2]
        · rw [if_neg hj, hu0 j (by omega), Nat.mul_zero, Nat.add_zero, Nat.zero_mod]
      rw [e]; exact h
  · have hinv : x l ^ (p - 2) % p < p := Nat.mod_lt _ (by omega)
    refine ⟨1, fun j => if j = l then 1 else hs j, fun q => if 126 * l + 0 ≤ q ∧ q < 126 * l + cnt then x (q - 126 * l) * (x l ^ (p - 2) % p) % p else R q, x, ?_, h2, h3, Or.inr ⟨l, vecC cnt x, u, a3, a4, ?_, fun j => ?_, fun j hj => ?_, hu1, fun j => ?_, rfl, fun j => ?_, fun a j ha => ?_⟩, ⟨fun q => by omega, fun q => ?_⟩, by omega⟩
    · unfold m_zcomes
      rw [h1]
      show (if 0 ≤ li then _ else _) = _
      rw [if_pos (by rw [a1]; exact nI_pos' (by omega)), a1, rdI_n (by omega) (by decide)]
      show bd1 (m_zinverse F (nI p) (nI (x l))) _ = _
      rw [p_zinverse hp hp2 (h2 l a3) (by omega), bd1_n, nI_l (by omega), nlit 0, p_zcomes_l F p cnt l _ (by omega) hp2 hcnt a3 hinv hs x h2 cnt F 0 R (by omega) (by omega)]
      rfl
    · show (if l < cnt then x l else 0) ≠ 0
      rw [if_pos a3]; exact a5
    · show (if j < cnt then x j else 0) < p
      split
      · exact h2 j (by assumption)
      · omega
    · show (if j < cnt then x j else 0) = 0
      split
      · exact a6 j hj (by assumption)
      · rfl
    · show (if j < cnt then x j else 0) = ((if j < cnt then w j else 0) + u j) % p
      by_cases hj : j < cnt
      · rw [if_pos hj, if_pos hj]; exact hu2 j hj
      · rw [if_neg hj, if_neg hj, hu0 j (by omega), Nat.zero_mod]
    · unfold rowC vecC
      dsimp only
      rw [if_pos a3]
      by_cases hj : j < cnt
      · rw [if_pos hj, if_pos hj, if_pos (by omega), Nat.add_sub_cancel_left, Nat.mul_comm]
      · rw [if_neg hj, if_neg hj, Nat.mul_zero, Nat.zero_mod]
    · unfold rowC
      dsimp only
      by_cases hj : j < cnt
      · rw [if_pos hj, if_pos hj, if_neg (by omega)]
      · rw [if_neg hj, if_neg hj]
    · have := congrFun q l
      rw [if_pos rfl, a4] at this
      omega
