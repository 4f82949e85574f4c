/-! THE CLASS'S DICTIONARY: act on an image, hasHead, leastProduct; the abstract run. -/
section BUILD0
variable {F p n sz : Nat}
theorem p_actL_l (hF : 200 < F) (hp : 2 ≤ p) (hp2 : p ≤ 32003) (hsz : sz ≤ 40) {T im : Nat → Nat} {v s : Nat} (hv : v < 4) (hs : s < 40) (hTl : ∀ q, q < sz → ∀ i, i < sz → T (1600 * v + 40 * q + i) < p) (hil : ∀ q, q < sz → im (40 * s + q) < p) : ∀ (d m j : Nat) (x : Nat → Nat), j + d = sz → d < m → (∀ i, i < sz → x i = sm j (fun q => im (40 * s + q) * T (1600 * v + 40 * q + i)) % p) → (∀ i, sz ≤ i → x i = 0) →
    b_actL_3 F (nI p) (nI sz) (nF T) (nF im) m (nI v) (nI (40 * s)) (nI 0) (nI j) (nF x) = some (nF (mvP p sz T v (fun q => im (40 * s + q)))) := by
  intro d
  induction d with
  | zero =>
    intro m j x hj hm hx hx0
    obtain ⟨m, rfl⟩ : ∃ q, m = q + 1 := ⟨m - 1, by omega⟩
    have e : j = sz := by omega
    subst e
    have ex : x = mvP p j T v (fun q => im (40 * s + q)) := by
      funext i
      unfold mvP
      by_cases q : i < j
      · rw [if_pos q, hx i q]; rfl
      · rw [if_neg q, hx0 i (by omega)]
    show s_actL_3 F (nI p) (nI j) (nF T) (nF im) (b_actL_3 F (nI p) (nI j) (nF T) (nF im) m) (nI v) (nI (40 * s)) (nI 0) (nI j) (nF x) = _
    unfold s_actL_3
    rw [if_pos (nI_le (by omega) (by omega)), ex]
  | succ d ih =>
    intro m j x hj hm hx hx0
    obtain ⟨m, rfl⟩ : ∃ q, m = q + 1 := ⟨m - 1, by omega⟩
    have hl := hil j (by omega)
    have hxl : ∀ i, i < sz → x i < p := fun i hi => by rw [hx i hi]; exact Nat.mod_lt _ (by omega)
    show s_actL_3 F (nI p) (nI sz) (nF T) (nF im) (b_actL_3 F (nI p) (nI sz) (nF T) (nF im) m) (nI v) (nI (40 * s)) (nI 0) (nI j) (nF x) = _
    unfold s_actL_3
    rw [if_neg (nI_ge (by omega) (by omega)), nI_add, rdI_n (by omega) (by decide), show nI j + 1 = nI (j + 1) from nI_add j 1, p_productRow, bd1_n, show (v * 40 + j) * 40 = 1600 * v + 40 * j by omega]
    by_cases z : im (40 * s + j) = 0
    · rw [if_pos (show nF im (40 * s + j) = 0 by show nI (im (40 * s + j)) = 0; rw [z]; rfl)]
      refine ih m (j + 1) x (by omega) (by omega) (fun i hi => ?_) hx0
      rw [hx i hi, sm_s, z, Nat.zero_mul, Nat.add_zero]
    · rw [if_neg (show ¬ nF im (40 * s + j) = 0 from nI_ne0 (by omega) (by omega))]
      show bd1 (m_addMultiple F 40 6400 (nF T) (nI 0) (nI (1600 * v + 40 * j)) (nI sz) (nI (im (40 * s + j))) (nI p) (nF x)) _ = _
      rw [p_addMultiple (by decide) (by decide) (by omega) hp2 (by omega) (by omega) (by omega) (by omega) (fun y h1 h2 => by
        have := hTl j (by omega) (y - (1600 * v + 40 * j)) (by omega)
        rw [show 1600 * v + 40 * j + (y - (1600 * v + 40 * j)) = y by omega] at this
        exact this) (fun y h1 h2 => hxl y (by omega)), bd1_n]
      refine ih m (j + 1) _ (by omega) (by omega) (fun i hi => ?_) (fun i hi => ?_)
      · unfold amN
        rw [if_pos (by omega), hx i hi, sm_s, Nat.mod_add_mod, Nat.sub_zero]
      · unfold amN
        rw [if_neg (by omega)]; exact hx0 i hi
theorem p_actL (hF : 200 < F) (hp : 2 ≤ p) (hp2 : p ≤ 32003) (hsz : sz ≤ 40) {T im : Nat → Nat} {v s : Nat} (hv : v < 4) (hs : s < 40) (hTl : ∀ q, q < sz → ∀ i, i < sz → T (1600 * v + 40 * q + i) < p) (hil : ∀ q, q < sz → im (40 * s + q) < p) :
    m_actL F (nI p) (nI sz) (nF T) (nF im) (nI v) (nI (40 * s)) (nI 0) (nF (fun _ => 0)) = some (nF (mvP p sz T v (fun q => im (40 * s + q)))) :=
  p_actL_l hF hp hp2 hsz hv hs hTl hil sz F 0 _ (by omega) (by omega) (fun i _ => (Nat.zero_mod p).symm) (fun _ _ => rfl)
theorem p_hasHead_l (hF : 4 < F) {H : List Nat} {hd : Nat → Nat} (hA : Arr H hd) (hl : H.length ≤ 160) (hb : ∀ h ∈ H, h < 2 ^ 32) {c : Nat} (hc : c < 2 ^ 32) : ∀ (d m i : Nat), i + d = H.length → d < m → (∀ j, j < i → ¬ ∀ u, u < 4 → exN (hd j) u ≤ exN c u) →
    (NB H c ∧ b_hasHead_2 F (nI H.length) (nF hd) m (nI c) (nI i) = some 0) ∨ (¬ NB H c ∧ b_hasHead_2 F (nI H.length) (nF hd) m (nI c) (nI i) = some 1) := by
  intro d
  induction d with
  | zero =>
    intro m i hi hm hno
    obtain ⟨m, rfl⟩ : ∃ q, m = q + 1 := ⟨m - 1, by omega⟩
    refine Or.inl ⟨fun h hh => ?_, ?_⟩
    · obtain ⟨q, hq, e⟩ := (hA.mem h).mp hh
      rw [← e]; exact hno q (by omega)
    · show s_hasHead_2 F (nI H.length) (nF hd) (b_hasHead_2 F (nI H.length) (nF hd) m) (nI c) (nI i) = _
      unfold s_hasHead_2
      rw [if_pos (nI_le (by omega) (by omega))]
  | succ d ih =>
    intro m i hi hm hno
    obtain ⟨m, rfl⟩ : ∃ q, m = q + 1 := ⟨m - 1, by omega⟩
    have hm2 : hd i ∈ H := (hA.mem _).mpr ⟨i, by omega, rfl⟩
    have step : b_hasHead_2 F (nI H.length) (nF hd) (m + 1) (nI c) (nI i) = if dvN 0 (hd i) c = 1 then some 1 else b_hasHead_2 F (nI H.length) (nF hd) m (nI c) (nI (i + 1)) := by
      show s_hasHead_2 F (nI H.length) (nF hd) (b_hasHead_2 F (nI H.length) (nF hd) m) (nI c) (nI i) = _
      unfold s_hasHead_2
      rw [if_neg (nI_ge (by omega) (by omega)), rdI_n (by omega) (by decide)]
      show bd1 (m_divides F (nI (hd i)) (nI c)) _ = _
      rw [p_divides hF (hb _ hm2) hc, bd1_n, show nI i + 1 = nI (i + 1) from nI_add i 1]
      by_cases h : ∀ u, 0 ≤ u → u < 4 → exN (hd i) u ≤ exN c u
      · rw [dvN_1 h, if_neg (by decide +kernel), if_pos rfl]
      · rw [dvN_0 h, if_pos (by decide +kernel), if_neg (by decide)]
    rw [step]
    by_cases h : dvN 0 (hd i) c = 1
    · rw [if_pos h]
      exact Or.inr ⟨fun q => q _ hm2 (dvN_iff.mp h), rfl⟩
    · rw [if_neg h]
      refine ih m (i + 1) (by omega) (by omega) (fun j hj => ?_)
      by_cases e : j = i
      · rw [e]; exact fun q => h (dvN_iff.mpr q)
      · exact hno j (by omega)
/-- what leastProduct knows after the pairs of Q -/
def LPr (w : Nat → Nat) (last : Nat) (Q : Nat → Nat → Prop) (ans least : Int32) : Prop :=
  (ans = -1 ∧ least = nI 2147483647 ∧ ∀ v s, Q v s → w s + 2 ^ (24 - 8 * v) ≤ last) ∨
  (∃ v s, Q v s ∧ ans = nI (v * 40 + s) ∧ least = nI (w s + 2 ^ (24 - 8 * v)) ∧ last < w s + 2 ^ (24 - 8 * v) ∧ ∀ v' s', Q v' s' → w s' + 2 ^ (24 - 8 * v') ≤ last ∨ w s + 2 ^ (24 - 8 * v) ≤ w s' + 2 ^ (24 - 8 * v'))
theorem p_lp18 {sc last : Nat} {w : Nat → Nat} (hsc : sc ≤ 40) (hlast : last < 2147483647) (hw : ∀ s v, s < sc → v < 4 → w s + 2 ^ (24 - 8 * v) < 2147483647) {nn : Int32} {k9} {v : Nat} (hv : v < 4) : ∀ (d m s : Nat) (ans least : Int32), s + d = sc → d < m → LPr w last (fun v' s' => s' < sc ∧ (v' < v ∨ (v' = v ∧ s' < s))) ans least →
    ∃ ans' least', LPr w last (fun v' s' => s' < sc ∧ v' < v + 1) ans' least' ∧ b_leastProduct_18 F (nI sc) (nF w) k9 m (nI last) nn ans least (nI v) (nI s) = k9 (nI last) nn ans' least' (nI (v + 1)) := by
  intro d
  induction d with
  | zero =>
    intro m s ans least hs hm hL
    obtain ⟨m, rfl⟩ : ∃ q, m = q + 1 := ⟨m - 1, by omega⟩
    have e : s = sc := by omega
    subst e
    have hQ : (fun v' s' => s' < s ∧ (v' < v ∨ (v' = v ∧ s' < s))) = (fun v' s' => s' < s ∧ v' < v + 1) := by
      funext v' s'
      exact propext ⟨fun h => ⟨h.1, by omega⟩, fun h => ⟨h.1, by omega⟩⟩
    rw [hQ] at hL
    refine ⟨ans, least, hL, ?_⟩
    show s_leastProduct_18 F (nI s) (nF w) k9 (b_leastProduct_18 F (nI s) (nF w) k9 m) (nI last) nn ans least (nI v) (nI s) = _
    unfold s_leastProduct_18
    rw [if_pos (nI_le (by omega) (by omega)), show nI v + 1 = nI (v + 1) from nI_add v 1]
  | succ d ih =>
    intro m s ans least hs hm hL
    obtain ⟨m, rfl⟩ : ∃ q, m = q + 1 := ⟨m - 1, by omega⟩
    have hc := hw s v (by omega) hv
    have step : b_leastProduct_18 F (nI sc) (nF w) k9 (m + 1) (nI last) nn ans least (nI v) (nI s) = if w s + 2 ^ (24 - 8 * v) ≤ last then b_leastProduct_18 F (nI sc) (nF w) k9 m (nI last) nn ans least (nI v) (nI (s + 1)) else
        if least ≤ nI (w s + 2 ^ (24 - 8 * v)) then b_leastProduct_18 F (nI sc) (nF w) k9 m (nI last) nn ans least (nI v) (nI (s + 1)) else b_leastProduct_18 F (nI sc) (nF w) k9 m (nI last) nn (nI (v * 40 + s)) (nI (w s + 2 ^ (24 - 8 * v))) (nI v) (nI (s + 1)) := by
      show s_leastProduct_18 F (nI sc) (nF w) k9 (b_leastProduct_18 F (nI sc) (nF w) k9 m) (nI last) nn ans least (nI v) (nI s) = _
      unfold s_leastProduct_18
      rw [if_neg (nI_ge (by omega) (by omega)), rdI_n (by omega) (by decide), p_variable F hv, bd1_n, show nF w s + nI (2 ^ (24 - 8 * v)) = nI (w s + 2 ^ (24 - 8 * v)) from nI_add _ _, show nI s + 1 = nI (s + 1) from nI_add s 1, show nI v * 40 = nI (v * 40) from pk_mul v 40, nI_add]
      by_cases q : w s + 2 ^ (24 - 8 * v) ≤ last
      · rw [if_pos q, if_pos (nI_le q (by omega))]
      · rw [if_neg q, if_neg (nI_ge (by omega) (by omega))]
    rw [step]
    by_cases q : w s + 2 ^ (24 - 8 * v) ≤ last
    · rw [if_pos q]
      refine ih m (s + 1) ans least (by omega) (by omega) ?_
      rcases hL with ⟨l1, l2, l3⟩ | ⟨v0, s0, l1, l2, l3, l4, l5⟩
      · refine Or.inl ⟨l1, l2, fun v' s' hq => ?_⟩
        by_cases y : v' = v ∧ s' = s
        · rw [y.1, y.2]; exact q
        · exact l3 v' s' ⟨hq.1, by omega⟩
      · refine Or.inr ⟨v0, s0, ⟨l1.1, by omega⟩, l2, l3, l4, fun v' s' hq => ?_⟩
        by_cases y : v' = v ∧ s' = s
        · rw [y.1, y.2]; exact Or.inl q
        · exact l5 v' s' ⟨hq.1, by omega⟩
    · rw [if_neg q]
      rcases hL with ⟨l1, l2, l3⟩ | ⟨v0, s0, l1, l2, l3, l4, l5⟩
      · rw [l2, if_neg (nI_ge (by omega) (by omega))]
        refine ih m (s + 1) _ _ (by omega) (by omega) (Or.inr ⟨v, s, ⟨by omega, by omega⟩, rfl, rfl, by omega, fun v' s' hq => ?_⟩)
        by_cases y : v' = v ∧ s' = s
        · rw [y.1, y.2]; exact Or.inr (Nat.le_refl _)
        · exact Or.inl (l3 v' s' ⟨hq.1, by omega⟩)
      · have hc0 := hw s0 v0 l1.1 (by omega)
        by_cases z : w s0 + 2 ^ (24 - 8 * v0) ≤ w s + 2 ^ (24 - 8 * v)
        · rw [if_pos (show least ≤ _ by rw [l3]; exact nI_le z (by omega))]
          refine ih m (s + 1) ans least (by omega) (by omega) (Or.inr ⟨v0, s0, ⟨l1.1, by omega⟩, l2, l3, l4, fun v' s' hq => ?_⟩)
          by_cases y : v' = v ∧ s' = s
          · rw [y.1, y.2]; exact Or.inr z
          · exact l5 v' s' ⟨hq.1, by omega⟩
        · rw [if_neg (show ¬ least ≤ _ by rw [l3]; exact nI_ge (by omega) (by omega))]
          refine ih m (s + 1) _ _ (by omega) (by omega) (Or.inr ⟨v, s, ⟨by omega, by omega⟩, rfl, rfl, by omega, fun v' s' hq => ?_⟩)
          by_cases y : v' = v ∧ s' = s
          · rw [y.1, y.2]; exact Or.inr (Nat.le_refl _)
          · rcases l5 v' s' ⟨hq.1, by omega⟩ with x | x
            · exact Or.inl x
            · exact Or.inr (by omega)
theorem p_leastProduct (hF : 200 < F) (h4 : n ≤ 4) {sc last : Nat} {w : Nat → Nat} (hsc : sc ≤ 40) (hlast : last < 2147483647) (hw : ∀ s v, s < sc → v < 4 → w s + 2 ^ (24 - 8 * v) < 2147483647) :
    (m_leastProduct F (nI sc) (nF w) (nI last) (nI n) = some (-1) ∧ ∀ v s, v < n → s < sc → w s + 2 ^ (24 - 8 * v) ≤ last) ∨
    (∃ v s, v < n ∧ s < sc ∧ m_leastProduct F (nI sc) (nF w) (nI last) (nI n) = some (nI (v * 40 + s)) ∧ last < w s + 2 ^ (24 - 8 * v) ∧ ∀ v' s', v' < n → s' < sc → w s' + 2 ^ (24 - 8 * v') ≤ last ∨ w s + 2 ^ (24 - 8 * v) ≤ w s' + 2 ^ (24 - 8 * v')) := by
  have key : ∀ (d m v : Nat) (ans least : Int32), v + d = n → d < m → LPr w last (fun v' s' => s' < sc ∧ v' < v) ans least → ∃ ans' least', LPr w last (fun v' s' => s' < sc ∧ v' < n) ans' least' ∧ b_leastProduct_9 F (nI sc) (nF w) m (nI last) (nI n) ans least (nI v) = some ans' := by
    intro d
    induction d with
    | zero =>
      intro m v ans least hv hm hL
      obtain ⟨m, rfl⟩ : ∃ q, m = q + 1 := ⟨m - 1, by omega⟩
      have e : v = n := by omega
      subst e
      refine ⟨ans, least, hL, ?_⟩
      show s_leastProduct_9 F (nI sc) (nF w) (b_leastProduct_9 F (nI sc) (nF w) m) (nI last) (nI v) ans least (nI v) = _
      unfold s_leastProduct_9
      rw [if_pos (nI_le (by omega) (by omega))]
    | succ d ih =>
      intro m v ans least hv hm hL
      obtain ⟨m, rfl⟩ : ∃ q, m = q + 1 := ⟨m - 1, by omega⟩
      have hQ : (fun v' s' => s' < sc ∧ v' < v) = (fun v' s' => s' < sc ∧ (v' < v ∨ (v' = v ∧ s' < 0))) := by
        funext v' s'
        exact propext ⟨fun h => ⟨h.1, by omega⟩, fun h => ⟨h.1, by omega⟩⟩
      rw [hQ] at hL
      obtain ⟨a1, l1, b1, b2⟩ := p_lp18 (F := F) (nn := nI n) (k9 := b_leastProduct_9 F (nI sc) (nF w) m) hsc hlast hw (show v < 4 by omega) sc F 0 ans least (by omega) (by omega) hL
      have step : b_leastProduct_9 F (nI sc) (nF w) (m + 1) (nI last) (nI n) ans least (nI v) = b_leastProduct_9 F (nI sc) (nF w) m (nI last) (nI n) a1 l1 (nI (v + 1)) := by
        rw [← b2]
        show s_leastProduct_9 F (nI sc) (nF w) (b_leastProduct_9 F (nI sc) (nF w) m) (nI last) (nI n) ans least (nI v) = _
        unfold s_leastProduct_9
        rw [if_neg (nI_ge (by omega) (by omega))]
        rfl
      rw [step]
      exact ih m (v + 1) a1 l1 (by omega) (by omega) b1
  obtain ⟨a, l, h1, h2⟩ := key n F 0 (-1) (nI 2147483647) (by omega) (by omega) (Or.inl ⟨rfl, rfl, fun v s h => by omega⟩)
  have h2' : m_leastProduct F (nI sc) (nF w) (nI last) (nI n) = some a := h2
  rw [h2']
  rcases h1 with ⟨e1, _, e3⟩ | ⟨v, s, e1, e2, _, e4, e5⟩
  · rw [e1]; exact Or.inl ⟨rfl, fun v s hv hs => e3 v s ⟨hs, hv⟩⟩
  · rw [e2]; exact Or.inr ⟨v, s, e1.2, e1.1, rfl, e4, fun v' s' hv hs => e5 v' s' ⟨hs, hv⟩⟩
end BUILD0
/-- the rows of the words -/
def VL (p sz : Nat) (T : Nat → Nat) (W : List Nat) (k i : Nat) : Nat := nfP p sz T (W.getD k 0) i
def IndV (p sz sc : Nat) (V : Nat → Nat → Nat) : Prop := ∀ c : Nat → Nat, (∀ i, i < sz → sm sc (fun k => c k * V k i) % p = 0) → ∀ k, k < sc → c k % p = 0
/-- the run of the dictionary: which monomials are tried, one after another, and what becomes of each -/
def RunN (p n sz : Nat) (T : Nat → Nat) : Nat → Nat → List Nat → List Nat → (Nat → Nat → Nat) → List Nat → List Nat → (Nat → Nat → Nat) → Prop
  | 0, last, W, H, A, W', H', A' => (∀ c, Cd n c → last < c → ¬ NB H c) ∧ W' = W ∧ H' = H ∧ A' = A
  | q + 1, last, W, H, A, W', H', A' => ∃ e, Cd n e ∧ last < e ∧ NB H e ∧ (∀ c, Cd n c → last < c → c < e → ¬ NB H c) ∧ (∀ u, u < 4 → exN e u ≤ 40) ∧ IndV p sz W.length (VL p sz T W) ∧
      ((∃ a : Nat → Nat, (∀ k, k < 40 → a k < p) ∧ (∀ k, W.length ≤ k → k < 40 → a k = 0) ∧ InS p sz W.length (VL p sz T W) (nfP p sz T e) a ∧ H.length < 160 ∧ RunN p n sz T q e W (H ++ [e]) (fun r i => if r = H.length then a i else A r i) W' H' A') ∨
       ((¬ ∃ a, InS p sz W.length (VL p sz T W) (nfP p sz T e) a) ∧ W.length < sz ∧ RunN p n sz T q e (W ++ [e]) H A W' H' A'))
theorem IndV.add {p sz sc : Nat} {V : Nat → Nat → Nat} (hp : isP p) (h : IndV p sz sc V) {x : Nat → Nat} (hx : ¬ ∃ a, InS p sz sc V x a) : IndV p sz (sc + 1) (fun k i => if k = sc then x i else V k i) := by
  have hp2 := hp.1
  intro c hc
  have hc2 : ∀ i, i < sz → (sm sc (fun k => c k * V k i) + c sc * x i) % p = 0 := by
    intro i hi
    have := hc i hi
    rw [sm_s] at this
    dsimp only at this
    rw [if_pos rfl, sm_congr (g := fun k => c k * V k i) (fun k hk => by rw [if_neg (show ¬ k = sc by omega)])] at this
    exact this
  have hz : c sc % p = 0 := by
    refine Classical.byContradiction fun q => hx ?_
    obtain ⟨b, hb⟩ := fm_inv hp (c sc % p) (by omega) (Nat.mod_lt _ (by omega))
    refine ⟨fun k => b * c k, fun i hi => ?_⟩
    have e1 : sm sc (fun k => b * c k * V k i) = b * sm sc (fun k => c k * V k i) := by
      rw [← sm_mul]
      exact sm_congr fun k _ => Nat.mul_assoc _ _ _
    have e2 : x i % p = b * (c sc * x i) % p := by
      rw [← Nat.mul_assoc, Nat.mul_mod, show b * c sc % p = 1 by rw [Nat.mul_comm, ← hb, Nat.mod_mul_mod], Nat.one_mul, Nat.mod_mod]
    rw [Nat.add_mod, e2, e1, ← Nat.add_mod, ← Nat.mul_add, Nat.add_comm, Nat.mul_mod, hc2 i hi, Nat.mul_zero, Nat.zero_mod]
  intro k hk
  by_cases e : k = sc
  · rw [e]; exact hz
  · refine h c (fun i hi => ?_) k (by omega)
    have := hc2 i hi
    rw [Nat.add_mod, Nat.mul_mod (c sc), hz, Nat.zero_mul, Nat.zero_mod, Nat.add_zero, Nat.mod_mod] at this
    exact this
theorem getD_lt {W : List Nat} {k : Nat} (hk : k < W.length) : W.getD k 0 = W[k] := by
  rw [List.getD_eq_getElem?_getD, List.getElem?_eq_getElem hk]; rfl
theorem VL_app {p sz : Nat} {T : Nat → Nat} {W : List Nat} {e k : Nat} (hk : k < W.length + 1) (i : Nat) : (if k = W.length then nfP p sz T e i else VL p sz T W k i) = VL p sz T (W ++ [e]) k i := by
  unfold VL
  have hlen : (W ++ [e]).length = W.length + 1 := by rw [List.length_append]; rfl
  by_cases q : k = W.length
  · rw [if_pos q, getD_lt (by omega)]
    subst q
    rw [List.getElem_append_right (Nat.le_refl _)]
    simp
  · rw [if_neg q, getD_lt (show k < W.length by omega), getD_lt (show k < (W ++ [e]).length by omega), List.getElem_append_left (by omega)]
theorem LI.congr {p sz sc : Nat} {V V' : Nat → Nat → Nat} {st mx pv : Nat → Nat} (h : LI p sz sc V st mx pv) (e : ∀ k i, k < sc → V k i = V' k i) : LI p sz sc V' st mx pv := by
  obtain ⟨B, hB⟩ := h.spn
  exact ⟨h.pvl, h.st1, h.st0, h.stl, h.mxl, h.mx0, fun t ht i hi => by
    rw [h.mxs t ht i hi]
    exact congrArg (· % p) (sm_congr fun k hk => by rw [e k i hk]), B, fun k hk i hi => by rw [← e k i hk]; exact hB k hk i hi⟩
theorem IndV.congr {p sz sc : Nat} {V V' : Nat → Nat → Nat} (h : IndV p sz sc V) (e : ∀ k i, k < sc → V k i = V' k i) : IndV p sz sc V' := fun c hc => h c (fun i hi => by
  rw [← hc i hi]
  exact congrArg (· % p) (sm_congr fun k hk => by rw [e k i hk]))
