/-! THE REFERENCE: tries, behindLead, findDictionary. -/
section ZDICT0
variable {F p n sz : Nat}
theorem p_zbehindLead_l (hF : 4 < F) {H : List Nat} {hd : Nat → Nat} (hA : Arr H hd) (hl : H.length ≤ 160) (hb : ∀ h ∈ H, h < 2 ^ 32) {c : Nat} (hc : c < 2 ^ 32) : ∀ (d m i : Nat), i + d = H.length → d < m → (∀ j, j < i → ¬ ∀ u, u < 4 → exN (hd j) u ≤ exN c u) →
    (NB H c ∧ b_zbehindLead_2 F (nI H.length) (nF hd) m (nI c) (nI i) = some 0) ∨ (¬ NB H c ∧ b_zbehindLead_2 F (nI H.length) (nF hd) m (nI c) (nI i) = some 1) := by
  intro d
  induction d with
  | zero =>
    intro m i hi hm hno
    obtain ⟨m, rfl⟩ : ∃ q, m = q + 1 := ⟨m - 1, by omega⟩
    refine Or.inl ⟨fun h hh => ?_, ?_⟩
    · obtain ⟨q, hq, e⟩ := (hA.mem h).mp hh
      rw [← e]; exact hno q (by omega)
    · show s_zbehindLead_2 F (nI H.length) (nF hd) (b_zbehindLead_2 F (nI H.length) (nF hd) m) (nI c) (nI i) = _
      unfold s_zbehindLead_2
      rw [if_pos (nI_le (by omega) (by omega))]
  | succ d ih =>
    intro m i hi hm hno
    obtain ⟨m, rfl⟩ : ∃ q, m = q + 1 := ⟨m - 1, by omega⟩
    have hm2 : hd i ∈ H := (hA.mem _).mpr ⟨i, by omega, rfl⟩
    have step : b_zbehindLead_2 F (nI H.length) (nF hd) (m + 1) (nI c) (nI i) = if dvN 0 (hd i) c = 1 then some 1 else b_zbehindLead_2 F (nI H.length) (nF hd) m (nI c) (nI (i + 1)) := by
      show s_zbehindLead_2 F (nI H.length) (nF hd) (b_zbehindLead_2 F (nI H.length) (nF hd) m) (nI c) (nI i) = _
      unfold s_zbehindLead_2
      rw [if_neg (nI_ge (by omega) (by omega)), rdI_n (by omega) (by decide)]
      show bd1 (m_zdivides F (nI (hd i)) (nI c)) _ = _
      rw [p_zdivides hF (hb _ hm2) hc, bd1_n, show nI i + 1 = nI (i + 1) from nI_add i 1]
      by_cases h : ∀ u, 0 ≤ u → u < 4 → exN (hd i) u ≤ exN c u
      · rw [dvN_1 h, if_neg (by decide +kernel), if_pos rfl]
      · rw [dvN_0 h, if_pos (by decide +kernel), if_neg (by decide)]
    rw [step]
    by_cases h : dvN 0 (hd i) c = 1
    · rw [if_pos h]
      exact Or.inr ⟨fun q => q _ hm2 (dvN_iff.mp h), rfl⟩
    · rw [if_neg h]
      refine ih m (i + 1) (by omega) (by omega) (fun j hj => ?_)
      by_cases e : j = i
      · rw [e]; exact fun q => h (dvN_iff.mpr q)
      · exact hno j (by omega)
end ZDICT0
/-- the reference's state while it finds the dictionary -/
def ZB (p sz : Nat) (T : Nat → Nat) (W H : List Nat) (A : Nat → Nat → Nat) (ld tl wd vc : Nat → Nat) : Prop :=
  Arr W wd ∧ Arr H ld ∧ (∀ k, k < H.length → ∀ i, i < 40 → tl (40 * k + i) = A k i) ∧ (∀ k, k < W.length → ∀ i, i < 40 → vc (40 * k + i) = nfP p sz T (wd k) i)
section ZDICT
variable {F p n sz : Nat} {T : Nat → Nat} {W H : List Nat} {A : Nat → Nat → Nat}
theorem p_zt101 {sI nn pI : Int32} {PT : Nat → Int32} {lf ws : Nat} (hws : ws < 40) {ld tl wd sy nx : Nat → Int32} {now : Nat → Nat} : ∀ (d m i : Nat) (vc : Nat → Nat), i + d = 40 → d < m →
    b_ztries_101 F sI nn pI PT m (nI i) (nI lf) (nI ws) ld tl wd (nF (fun y => if 40 * ws ≤ y ∧ y < 40 * ws + i then now (y - 40 * ws) else vc y)) sy (nF now) nx = some (nI lf, nI (ws + 1), ld, tl, wd, nF (rw40 now vc ws), sy, nF now, nx) := by
  intro d
  induction d with
  | zero =>
    intro m i vc hi hm
    obtain ⟨m, rfl⟩ : ∃ q, m = q + 1 := ⟨m - 1, by omega⟩
    have e : i = 40 := by omega
    subst e
    show s_ztries_101 F sI nn pI PT (b_ztries_101 F sI nn pI PT m) (nI 40) (nI lf) (nI ws) ld tl wd _ sy (nF now) nx = _
    unfold s_ztries_101
    rw [if_pos (by decide +kernel), show nI ws + 1 = nI (ws + 1) from nI_add ws 1]
    rfl
  | succ d ih =>
    intro m i vc hi hm
    obtain ⟨m, rfl⟩ : ∃ q, m = q + 1 := ⟨m - 1, by omega⟩
    rw [← ih m (i + 1) vc (by omega) (by omega)]
    show s_ztries_101 F sI nn pI PT (b_ztries_101 F sI nn pI PT m) (nI i) (nI lf) (nI ws) ld tl wd _ sy (nF now) nx = _
    unfold s_ztries_101
    rw [if_neg (show ¬ (40 : Int32) ≤ nI i from nI_ge (show i < 40 by omega) (by decide)), rdI_n (by omega) (by decide), show (40 : Int32) * nI ws = nI (40 * ws) from pk_mul 40 ws, nI_add, wrI_n (by omega) (by decide), show nI i + 1 = nI (i + 1) from nI_add i 1]
    show b_ztries_101 F sI nn pI PT m (nI (i + 1)) (nI lf) (nI ws) ld tl wd (upd (nF (fun y => if 40 * ws ≤ y ∧ y < 40 * ws + i then now (y - 40 * ws) else vc y)) (40 * ws + i) (nI (now i))) sy (nF now) nx = _
    rw [upd_nF]
    have e : (fun j => if j = 40 * ws + i then now i else (if 40 * ws ≤ j ∧ j < 40 * ws + i then now (j - 40 * ws) else vc j)) = (fun y => if 40 * ws ≤ y ∧ y < 40 * ws + (i + 1) then now (y - 40 * ws) else vc y) := by
      funext y
      by_cases q : y = 40 * ws + i
      · rw [if_pos q, if_pos (by omega), q, Nat.add_sub_cancel_left]
      · rw [if_neg q]
        by_cases z : 40 * ws ≤ y ∧ y < 40 * ws + i
        · rw [if_pos z, if_pos (by omega)]
        · rw [if_neg z, if_neg (by omega)]
    rw [e]
theorem p_zt24 (hp : 2 ≤ p) (hp2 : p ≤ 32003) {sI nn : Int32} {PT : Nat → Int32} {lf ws : Nat} (hlf : lf < 160) (hws : ws ≤ 40) {ld wd vc sy nw : Nat → Int32} {next : Nat → Nat} (hnx : ∀ k, k < ws → next k < p) {a : Nat → Nat} (ha : ∀ k, k < ws → (p - next k) % p = a k) (ha0 : ∀ k, ws ≤ k → k < 40 → a k = 0) : ∀ (d m i : Nat) (tl : Nat → Nat), i + d = 40 → d < m →
    b_ztries_24 F sI nn (nI p) PT m (nI i) (nI lf) (nI ws) ld (nF (fun y => if 40 * lf ≤ y ∧ y < 40 * lf + i then a (y - 40 * lf) else tl y)) wd vc sy nw (nF next) = some (nI (lf + 1), nI ws, ld, nF (rw40 a tl lf), wd, vc, sy, nw, nF next) := by
  intro d
  induction d with
  | zero =>
    intro m i tl hi hm
    obtain ⟨m, rfl⟩ : ∃ q, m = q + 1 := ⟨m - 1, by omega⟩
    have e : i = 40 := by omega
    subst e
    show s_ztries_24 F sI nn (nI p) PT (b_ztries_24 F sI nn (nI p) PT m) (nI 40) (nI lf) (nI ws) ld _ wd vc sy nw (nF next) = _
    unfold s_ztries_24
    rw [if_pos (by decide +kernel), show nI lf + 1 = nI (lf + 1) from nI_add lf 1]
    rfl
  | succ d ih =>
    intro m i tl hi hm
    obtain ⟨m, rfl⟩ : ∃ q, m = q + 1 := ⟨m - 1, by omega⟩
    rw [← ih m (i + 1) tl (by omega) (by omega)]
    have e : (fun j => if j = 40 * lf + i then a i else (if 40 * lf ≤ j ∧ j < 40 * lf + i then a (j - 40 * lf) else tl j)) = (fun y => if 40 * lf ≤ y ∧ y < 40 * lf + (i + 1) then a (y - 40 * lf) else tl y) := by
      funext y
      by_cases q : y = 40 * lf + i
      · rw [if_pos q, if_pos (by omega), q, Nat.add_sub_cancel_left]
      · rw [if_neg q]
        by_cases z : 40 * lf ≤ y ∧ y < 40 * lf + i
        · rw [if_pos z, if_pos (by omega)]
        · rw [if_neg z, if_neg (by omega)]
    have e71 : s_ztries_71 F sI nn (nI p) PT (b_ztries_24 F sI nn (nI p) PT m) (nI i) (nI (40 * lf + i)) (nI (a i)) (nI lf) (nI ws) ld (nF (fun y => if 40 * lf ≤ y ∧ y < 40 * lf + i then a (y - 40 * lf) else tl y)) wd vc sy nw (nF next) = b_ztries_24 F sI nn (nI p) PT m (nI (i + 1)) (nI lf) (nI ws) ld (nF (fun y => if 40 * lf ≤ y ∧ y < 40 * lf + (i + 1) then a (y - 40 * lf) else tl y)) wd vc sy nw (nF next) := by
      unfold s_ztries_71
      rw [wrI_n (by omega) (by decide), upd_nF, show nI i + 1 = nI (i + 1) from nI_add i 1, e]
    rw [← e71]
    show s_ztries_24 F sI nn (nI p) PT (b_ztries_24 F sI nn (nI p) PT m) (nI i) (nI lf) (nI ws) ld _ wd vc sy nw (nF next) = _
    unfold s_ztries_24
    rw [if_neg (show ¬ (40 : Int32) ≤ nI i from nI_ge (show i < 40 by omega) (by decide)), show (40 : Int32) * nI lf = nI (40 * lf) from pk_mul 40 lf, nI_add]
    by_cases q : ws ≤ i
    · rw [if_pos (nI_le q (by omega)), ha0 i q (by omega)]
      rfl
    · have := hnx i (by omega)
      rw [if_neg (nI_ge (by omega) (by omega)), rdI_n (by omega) (by decide), nzI_n (by omega) (by omega)]
      show s_ztries_71 F sI nn (nI p) PT _ (nI i) (nI (40 * lf + i)) (remI (nI p - nI (next i)) (nI p)) (nI lf) (nI ws) ld _ wd vc sy nw (nF next) = _
      rw [pk_sub (by omega), remI_n (by omega) (by omega) (by omega), ha i (by omega)]
theorem InS_uniq {sc : Nat} {V : Nat → Nat → Nat} {x a b : Nat → Nat} (hp : 2 ≤ p) (hI : IndV p sz sc V) (ha : InS p sz sc V x a) (hb : InS p sz sc V x b) (hal : ∀ k, k < sc → a k < p) (hbl : ∀ k, k < sc → b k < p) : ∀ k, k < sc → a k = b k := by
  have h := hI (fun k => a k + (p - 1) * b k) (fun i hi => by
    have e : sm sc (fun k => (a k + (p - 1) * b k) * V k i) = sm sc (fun k => a k * V k i) + (p - 1) * sm sc (fun k => b k * V k i) := by
      rw [← sm_mul, ← sm_add]
      exact sm_congr fun k _ => by rw [Nat.add_mul, Nat.mul_assoc]
    rw [e, Nat.add_mod, neg_mod (by omega) (hb i hi), ← Nat.add_mod, Nat.add_comm]
    exact ha i hi)
  intro k hk
  have h1 := h k hk
  try dsimp only at h1
  have e : a k + (p - 1) * b k + b k = a k + p * b k := by
    obtain ⟨q, rfl⟩ : ∃ q, p = q + 1 := ⟨p - 1, by omega⟩
    rw [Nat.add_sub_cancel, Nat.succ_mul]; omega
  have h2 : (a k + (p - 1) * b k + b k) % p = b k := by rw [Nat.add_mod, h1, Nat.zero_add, Nat.mod_mod, Nat.mod_eq_of_lt (hbl k hk)]
  rw [e, Nat.add_mul_mod_self_left, Nat.mod_eq_of_lt (hal k hk)] at h2
  exact h2
/-- tries, when it makes a head -/
theorem p_ztries_h (hF : 40000 < F) (hp : isP p) (hp2 : p ≤ 32003) (hsz : sz ≤ 40) (h0 : 0 < sz) (h1 : 1 ≤ n) (h4 : n ≤ 4) (hTl : ∀ v k i, v < n → k < sz → i < sz → T (1600 * v + 40 * k + i) < p) {e : Nat} (he : Cd n e) (hW : W.length ≤ sz) (hH : H.length < 160) {ld tl wd vc sy now next : Nat → Nat} (hZ : ZB p sz T W H A ld tl wd vc) (hI : IndV p sz W.length (VL p sz T W)) (hnow : ∀ y, 40 ≤ y → now y = 0) (hnext : ∀ y, 40 ≤ y → next y = 0)
    {a : Nat → Nat} (a1 : ∀ k, k < 40 → a k < p) (a2 : ∀ k, W.length ≤ k → k < 40 → a k = 0) (a3 : InS p sz W.length (VL p sz T W) (nfP p sz T e) a) :
    ∃ ld' tl' sy' now' next', ZB p sz T W (H ++ [e]) (fun r i => if r = H.length then a i else A r i) ld' tl' wd vc ∧ (∀ y, 40 ≤ y → now' y = 0) ∧ (∀ y, 40 ≤ y → next' y = 0) ∧
      m_ztries F (nI sz) (nI n) (nI p) (nF T) (nI e) (nI H.length) (nI W.length) (nF ld) (nF tl) (nF wd) (nF vc) (nF sy) (nF now) (nF next) = some (nI (H.length + 1), nI W.length, nF ld', nF tl', nF wd, nF vc, nF sy', nF now', nF next') := by
  have hpp := hp.1
  obtain ⟨z1, z2, z3, z4⟩ := hZ
  obtain ⟨nx1, b1, b2⟩ := p_zcomesTo (F := F) (T := T) (by omega) hpp hp2 hsz h0 hTl h1 h4 he hnow hnext
  have hvc : ∀ k i, k < W.length → i < sz → vc (40 * k + i) = VL p sz T W k i := fun k i hk hi => by
    rw [z4 k hk i (by omega)]
    unfold VL
    rw [getD_lt hk, z1 k hk]
  obtain ⟨r, S', nx2, c1, c2, c3⟩ := p_zsolved (F := F) (vec := vc) (now := nfP p sz T e) (sys := sy) (next := nx1) hF hp hp2 hsz hW hI (fun k i _ _ => (nfP_vc hpp h0 _ i).1) (fun i _ => (nfP_vc (T := T) hpp h0 e i).1) hvc (fun i _ => rfl) b1
  rcases c3 with ⟨r1, c4, c5⟩ | ⟨_, c4⟩
  · subst r1
    have hau := InS_uniq hpp hI c4 a3 (fun k _ => Nat.mod_lt _ (by omega)) (fun k hk => a1 k (by omega))
    have hlW : (H ++ [e]).length = H.length + 1 := by rw [List.length_append]; rfl
    refine ⟨_, rw40 a tl H.length, S', _, nx2, ⟨z1, z2.push e, fun k hk i hi => ?_, z4⟩, fun y hy => (nfP_vc (T := T) hpp h0 e y).2 (by omega), c2, ?_⟩
    · rw [hlW] at hk
      try dsimp only
      by_cases q : k = H.length
      · rw [if_pos q, q, rw40_in hi]
      · rw [if_neg q, rw40_out hi q]; exact z3 k (by omega) i hi
    · unfold m_ztries
      rw [b2, bd2_n, c1, bd3_n, if_neg (show ¬ nI 1 = 0 by decide +kernel), wrI_n hH (by decide), upd_nF]
      have := p_zt24 (F := F) (sI := nI sz) (nn := nI n) (PT := nF T) (ld := nF (fun j => if j = H.length then e else ld j)) (wd := nF wd) (vc := nF vc) (sy := nF S') (nw := nF (nfP p sz T e)) hpp hp2 hH (show W.length ≤ 40 by omega) c5 hau a2 40 F 0 tl (by omega) (by omega)
      have e0 : (fun y => if 40 * H.length ≤ y ∧ y < 40 * H.length + 0 then a (y - 40 * H.length) else tl y) = tl := by funext y; rw [if_neg (by omega)]
      rw [e0] at this
      exact this
  · exact absurd ⟨a, a3⟩ c4
/-- tries, when it makes a word -/
theorem p_ztries_w (hF : 40000 < F) (hp : isP p) (hp2 : p ≤ 32003) (hsz : sz ≤ 40) (h0 : 0 < sz) (h1 : 1 ≤ n) (h4 : n ≤ 4) (hTl : ∀ v k i, v < n → k < sz → i < sz → T (1600 * v + 40 * k + i) < p) {e : Nat} (he : Cd n e) (hW : W.length < sz) {ld tl wd vc sy now next : Nat → Nat} (hZ : ZB p sz T W H A ld tl wd vc) (hI : IndV p sz W.length (VL p sz T W)) (hnow : ∀ y, 40 ≤ y → now y = 0) (hnext : ∀ y, 40 ≤ y → next y = 0)
    (ha : ¬ ∃ a, InS p sz W.length (VL p sz T W) (nfP p sz T e) a) :
    ∃ wd' vc' sy' now' next', ZB p sz T (W ++ [e]) H A ld tl wd' vc' ∧ (∀ y, 40 ≤ y → now' y = 0) ∧ (∀ y, 40 ≤ y → next' y = 0) ∧
      m_ztries F (nI sz) (nI n) (nI p) (nF T) (nI e) (nI H.length) (nI W.length) (nF ld) (nF tl) (nF wd) (nF vc) (nF sy) (nF now) (nF next) = some (nI H.length, nI (W.length + 1), nF ld, nF tl, nF wd', nF vc', nF sy', nF now', nF next') := by
  have hpp := hp.1
  obtain ⟨z1, z2, z3, z4⟩ := hZ
  obtain ⟨nx1, b1, b2⟩ := p_zcomesTo (F := F) (T := T) (by omega) hpp hp2 hsz h0 hTl h1 h4 he hnow hnext
  have hvc : ∀ k i, k < W.length → i < sz → vc (40 * k + i) = VL p sz T W k i := fun k i hk hi => by
    rw [z4 k hk i (by omega)]
    unfold VL
    rw [getD_lt hk, z1 k hk]
  obtain ⟨r, S', nx2, c1, c2, c3⟩ := p_zsolved (F := F) (vec := vc) (now := nfP p sz T e) (sys := sy) (next := nx1) hF hp hp2 hsz (by omega) hI (fun k i _ _ => (nfP_vc hpp h0 _ i).1) (fun i _ => (nfP_vc (T := T) hpp h0 e i).1) hvc (fun i _ => rfl) b1
  rcases c3 with ⟨_, c4, _⟩ | ⟨r1, c4⟩
  · exact absurd ⟨_, c4⟩ ha
  · subst r1
    have hlW : (W ++ [e]).length = W.length + 1 := by rw [List.length_append]; rfl
    refine ⟨_, rw40 (nfP p sz T e) vc W.length, S', _, nx2, ⟨z1.push e, z2, z3, fun k hk i hi => ?_⟩, fun y hy => (nfP_vc (T := T) hpp h0 e y).2 (by omega), c2, ?_⟩
    · rw [hlW] at hk
      try dsimp only
      by_cases q : k = W.length
      · rw [if_pos q, q, rw40_in hi]
      · rw [if_neg q, rw40_out hi q]; exact z4 k (by omega) i hi
    · unfold m_ztries
      rw [b2, bd2_n, c1, bd3_n, if_pos (show nI 0 = 0 from rfl), wrI_n (by omega) (by decide), upd_nF]
      have := p_zt101 (F := F) (sI := nI sz) (nn := nI n) (pI := nI p) (PT := nF T) (lf := H.length) (ld := nF ld) (tl := nF tl) (wd := nF (fun j => if j = W.length then e else wd j)) (sy := nF S') (nx := nF nx2) (now := nfP p sz T e) (show W.length < 40 by omega) 40 F 0 vc (by omega) (by omega)
      have e0 : (fun y => if 40 * W.length ≤ y ∧ y < 40 * W.length + 0 then nfP p sz T e (y - 40 * W.length) else vc y) = vc := by funext y; rw [if_neg (by omega)]
      rw [e0] at this
      exact this
/-- the odometer of findDictionary -/
theorem p_zd42 (hF : 200 < F) (h4 : n ≤ 4) {sI nn pI : Int32} {PT : Nat → Int32} {k14} {ld : Nat → Nat} {wsI : Int32} {tl wd vc sy nw nx : Nat → Int32} (hA : Arr H ld) (hl : H.length ≤ 160) (hb : ∀ h ∈ H, h < 2 ^ 32) {last : Nat} : ∀ (v m e : Nat), v < n → v + 2 < m → e < 2 ^ 32 → last < e → (∀ u, u < 4 → exN e u ≤ 41) → (∀ u, u < v → exN e u ≤ 40) → (∀ u, v < u → u < 4 → exN e u = 0) → (∀ c, Cd n c → last < c → c < e → ¬ NB H c) →
    (∃ e', Cd n e' ∧ last < e' ∧ NB H e' ∧ (∀ c, Cd n c → last < c → c < e' → ¬ NB H c) ∧ b_zfindDictionary_42 F sI nn pI PT k14 m (nI e) (nI v) (nI H.length) wsI (nF ld) tl wd vc sy nw nx = k14 (nI e') 1 (nI H.length) wsI (nF ld) tl wd vc sy nw nx) ∨
    ((∀ c, Cd n c → last < c → ¬ NB H c) ∧ ∃ e', b_zfindDictionary_42 F sI nn pI PT k14 m (nI e) (nI v) (nI H.length) wsI (nF ld) tl wd vc sy nw nx = k14 e' 0 (nI H.length) wsI (nF ld) tl wd vc sy nw nx) := by
  intro v
  induction v with
  | zero =>
    intro m e hv hm he hle h41 h40 hz hno
    obtain ⟨m, rfl⟩ : ∃ q, m = q + 1 := ⟨m - 1, by omega⟩
    obtain ⟨m, rfl⟩ : ∃ q, m = q + 1 := ⟨m - 1, by omega⟩
    have hpos : ¬ nI 0 < (0 : Int32) := by decide +kernel
    rcases p_zbehindLead_l (F := F) (by omega) hA hl hb he H.length F 0 (by omega) (by omega) (fun j hj => by omega) with ⟨q1, q2⟩ | ⟨q1, q2⟩
    · refine Or.inl ⟨e, ⟨he, fun u a b => hz u (by omega) b⟩, hle, q1, hno, ?_⟩
      show s_zfindDictionary_42 F sI nn pI PT k14 (b_zfindDictionary_42 F sI nn pI PT k14 (m + 1)) (nI e) (nI 0) (nI H.length) wsI (nF ld) tl wd vc sy nw nx = _
      unfold s_zfindDictionary_42
      rw [if_neg hpos, show m_zbehindLead F (nI H.length) (nF ld) (nI e) = some 0 from q2, bd1_n, if_pos rfl]
      unfold s_zfindDictionary_92
      rw [if_neg hpos]
    · refine Or.inr ⟨fun c hc hlc hnb => ?_, nI e - shlI (nI (exN e 0)) (24 - 8 * nI 0), ?_⟩
      · rcases Nat.lt_or_ge c e with y | y
        · exact hno c hc hlc y hnb
        · exact q1 (hnb.mono (odo_lead he hc.1 (by decide) hz y (Or.inl rfl)))
      · show s_zfindDictionary_42 F sI nn pI PT k14 (b_zfindDictionary_42 F sI nn pI PT k14 (m + 1)) (nI e) (nI 0) (nI H.length) wsI (nF ld) tl wd vc sy nw nx = _
        unfold s_zfindDictionary_42
        rw [if_neg hpos, show m_zbehindLead F (nI H.length) (nF ld) (nI e) = some 1 from q2, bd1_n, if_neg (by decide), p_zexponent F he (by decide), bd1_n, if_pos (by decide +kernel)]
        show s_zfindDictionary_42 F sI nn pI PT k14 (b_zfindDictionary_42 F sI nn pI PT k14 m) _ (nI 0 + -1) (nI H.length) wsI (nF ld) tl wd vc sy nw nx = _
        unfold s_zfindDictionary_42
        rw [if_pos (by decide +kernel)]
        unfold s_zfindDictionary_92
        rw [if_pos (by decide +kernel)]
  | succ v ih =>
    intro m e hv hm he hle h41 h40 hz hno
    obtain ⟨m, rfl⟩ : ∃ q, m = q + 1 := ⟨m - 1, by omega⟩
    have hv4 : v + 1 < 4 := by omega
    have hpos : ¬ nI (v + 1) < (0 : Int32) := nI_nlt (show 0 ≤ v + 1 by omega) (by omega)
    rcases p_zbehindLead_l (F := F) (by omega) hA hl hb he H.length F 0 (by omega) (by omega) (fun j hj => by omega) with ⟨q1, q2⟩ | ⟨q1, q2⟩
    · refine Or.inl ⟨e, ⟨he, fun u a b => hz u (by omega) b⟩, hle, q1, hno, ?_⟩
      show s_zfindDictionary_42 F sI nn pI PT k14 (b_zfindDictionary_42 F sI nn pI PT k14 m) (nI e) (nI (v + 1)) (nI H.length) wsI (nF ld) tl wd vc sy nw nx = _
      unfold s_zfindDictionary_42
      rw [if_neg hpos, show m_zbehindLead F (nI H.length) (nF ld) (nI e) = some 0 from q2, bd1_n, if_pos rfl]
      unfold s_zfindDictionary_92
      rw [if_neg hpos]
    · obtain ⟨d1, d2⟩ := sub_dig he hv4
      have hfl : e - exN e (v + 1) * 2 ^ (24 - 8 * (v + 1)) < 2 ^ 32 := Nat.lt_of_le_of_lt (Nat.sub_le _ _) he
      have hff : ∀ u, u < 4 → exN (e - exN e (v + 1) * 2 ^ (24 - 8 * (v + 1))) u ≤ 41 := fun u hu => by
        rw [d2 u hu]
        have := h41 u hu
        split <;> omega
      have hlt2 := ex_add_lt hfl (show v < 4 by omega) (fun u hu => by have := hff u hu; omega)
      have hex := fun u (hu : u < 4) => exN_add hfl (show v < 4 by omega) hu (by have := hff v (by omega); omega)
      have hlt3 : e < e - exN e (v + 1) * 2 ^ (24 - 8 * (v + 1)) + 2 ^ (24 - 8 * v) := by
        have hle2 : exN e (v + 1) * 2 ^ (24 - 8 * (v + 1)) < 2 ^ (24 - 8 * v) := by
          have := exN_lt e (v + 1)
          rcases (show v = 0 ∨ v = 1 ∨ v = 2 by omega) with y | y | y <;> subst y
          · show _ * 65536 < 16777216; omega
          · show _ * 256 < 65536; omega
          · show _ * 1 < 256; omega
        omega
      have hbound := fun c (hc : c < 2 ^ 32) (hce : e ≤ c) (hcl : c < e - exN e (v + 1) * 2 ^ (24 - 8 * (v + 1)) + 2 ^ (24 - 8 * v)) => odo_lead he hc hv4 hz hce (Or.inr hcl)
      have hsh : nI e - shlI (nI (exN e (v + 1))) (24 - 8 * nI (v + 1)) + shlI 1 (24 - 8 * nI v) = nI (e - exN e (v + 1) * 2 ^ (24 - 8 * (v + 1)) + 2 ^ (24 - 8 * v)) := by
        rw [exp_amt (v + 1) hv4, shlI_n (by omega) (by omega), pk_sub d1, sh_var v (by omega), nI_add]
      have hexv := d2 v (by omega)
      rw [if_neg (show ¬ v = v + 1 by omega)] at hexv
      generalize hgg : e - exN e (v + 1) * 2 ^ (24 - 8 * (v + 1)) + 2 ^ (24 - 8 * v) = e2 at *
      have step : b_zfindDictionary_42 F sI nn pI PT k14 (m + 1) (nI e) (nI (v + 1)) (nI H.length) wsI (nF ld) tl wd vc sy nw nx = b_zfindDictionary_42 F sI nn pI PT k14 m (nI e2) (nI v) (nI H.length) wsI (nF ld) tl wd vc sy nw nx := by
        show s_zfindDictionary_42 F sI nn pI PT k14 (b_zfindDictionary_42 F sI nn pI PT k14 m) (nI e) (nI (v + 1)) (nI H.length) wsI (nF ld) tl wd vc sy nw nx = _
        unfold s_zfindDictionary_42
        rw [if_neg hpos, show m_zbehindLead F (nI H.length) (nF ld) (nI e) = some 1 from q2, bd1_n, if_neg (by decide), p_zexponent F he hv4, bd1_n, show nI (v + 1) + -1 = nI v from pk_m1 v, if_neg (show ¬ nI v < 0 from nI_nlt (show 0 ≤ v by omega) (by omega)), hsh]
      rw [step]
      refine ih m e2 (by omega) (by omega) hlt2 (by omega) (fun u hu => ?_) (fun u hu => ?_) (fun u h1 h2 => ?_) (fun c hc hlc hce hnb => ?_)
      · rw [hex u hu, d2 u hu]
        by_cases y : u = v
        · rw [if_neg (show ¬ u = v + 1 by omega), if_pos y, y]
          have := h40 v (by omega)
          omega
        · rw [if_neg y]
          have := h41 u hu
          split <;> omega
      · rw [hex u (by omega), d2 u (by omega), if_neg (show ¬ u = v + 1 by omega), if_neg (show ¬ u = v by omega)]
        exact h40 u (by omega)
      · rw [hex u h2, d2 u h2, if_neg (show ¬ u = v by omega)]
        by_cases y : u = v + 1
        · rw [if_pos y]
        · rw [if_neg y]; exact hz u (by omega) h2
      · rcases Nat.lt_or_ge c e with y | y
        · exact hno c hc hlc y hnb
        · exact q1 (hnb.mono (hbound c hc.1 y hce))
theorem p_zd14 (hF : 40000 < F) (hp : isP p) (hp2 : p ≤ 32003) (hsz : sz ≤ 40) (h0 : 0 < sz) (h1 : 1 ≤ n) (h4 : n ≤ 4) (hTl : ∀ v k i, v < n → k < sz → i < sz → T (1600 * v + 40 * k + i) < p) {W' H' : List Nat} {A' : Nat → Nat → Nat} : ∀ (q m last : Nat) (W H : List Nat) (A : Nat → Nat → Nat) (ld tl wd vc sy now next : Nat → Nat), q < m → RunN p n sz T q last W H A W' H' A' → ZB p sz T W H A ld tl wd vc → W.length ≤ sz → H.length ≤ 160 → (∀ h ∈ H, h < 2 ^ 32) → Cd n last → (∀ u, u < 4 → exN last u ≤ 40) → (∀ y, 40 ≤ y → now y = 0) → (∀ y, 40 ≤ y → next y = 0) →
    ∃ ld' tl' wd' vc' sy' now' next', ZB p sz T W' H' A' ld' tl' wd' vc' ∧ (∀ y, 40 ≤ y → now' y = 0) ∧ (∀ y, 40 ≤ y → next' y = 0) ∧
      b_zfindDictionary_42 F (nI sz) (nI n) (nI p) (nF T) (b_zfindDictionary_14 F (nI sz) (nI n) (nI p) (nF T) m) F (nI (last + 2 ^ (24 - 8 * (n - 1)))) (nI (n - 1)) (nI H.length) (nI W.length) (nF ld) (nF tl) (nF wd) (nF vc) (nF sy) (nF now) (nF next) = some (nI H'.length, nI W'.length, nF ld', nF tl', nF wd', nF vc', nF sy', nF now', nF next') := by
  have hpp := hp.1
  intro q
  induction q with
  | zero =>
    intro m last W H A ld tl wd vc sy now next hm hR hZ hW hH hHb hcd h40 hnow hnext
    obtain ⟨m, rfl⟩ : ∃ t, m = t + 1 := ⟨m - 1, by omega⟩
    obtain ⟨r1, r2, r3, r4⟩ := hR
    subst r2; subst r3; subst r4
    have hlt := ex_add_lt hcd.1 (show n - 1 < 4 by omega) (fun u hu => by have := h40 u hu; omega)
    have hex := fun u (hu : u < 4) => exN_add hcd.1 (show n - 1 < 4 by omega) hu (by have := h40 (n - 1) (by omega); omega)
    have hpw := Nat.two_pow_pos (24 - 8 * (n - 1))
    rcases p_zd42 (F := F) (n := n) (sI := nI sz) (nn := nI n) (pI := nI p) (PT := nF T) (k14 := b_zfindDictionary_14 F (nI sz) (nI n) (nI p) (nF T) (m + 1)) (wsI := nI W'.length) (tl := nF tl) (wd := nF wd) (vc := nF vc) (sy := nF sy) (nw := nF now) (nx := nF next) (last := last) (by omega) h4 hZ.2.1 hH hHb (n - 1) F (last + 2 ^ (24 - 8 * (n - 1))) (by omega) (by omega) hlt (by omega) (fun u hu => by rw [hex u hu]; have := h40 u hu; split <;> omega) (fun u hu => by rw [hex u (by omega), if_neg (by omega)]; exact h40 u (by omega)) (fun u a b => by rw [hex u b, hcd.2 u (by omega) b, if_neg (by omega)]) (fun c hc hlc hce hnb => r1 c hc hlc hnb) with ⟨e', e1, e2, e3, _, _⟩ | ⟨_, e', e2⟩
    · exact absurd e3 (r1 e' e1 e2)
    · refine ⟨ld, tl, wd, vc, sy, now, next, hZ, hnow, hnext, ?_⟩
      rw [e2]
      show s_zfindDictionary_14 F (nI sz) (nI n) (nI p) (nF T) (b_zfindDictionary_14 F (nI sz) (nI n) (nI p) (nF T) m) e' 0 (nI H'.length) (nI W'.length) (nF ld) (nF tl) (nF wd) (nF vc) (nF sy) (nF now) (nF next) = _
      unfold s_zfindDictionary_14
      rw [if_pos rfl]
  | succ q ih =>
    intro m last W H A ld tl wd vc sy now next hm hR hZ hW hH hHb hcd h40 hnow hnext
    obtain ⟨m, rfl⟩ : ∃ t, m = t + 1 := ⟨m - 1, by omega⟩
    obtain ⟨e, r1, r2, r3, r4, r5, r6, r7⟩ := hR
    have hlt := ex_add_lt hcd.1 (show n - 1 < 4 by omega) (fun u hu => by have := h40 u hu; omega)
    have hex := fun u (hu : u < 4) => exN_add hcd.1 (show n - 1 < 4 by omega) hu (by have := h40 (n - 1) (by omega); omega)
    have hpw := Nat.two_pow_pos (24 - 8 * (n - 1))
    rcases p_zd42 (F := F) (n := n) (sI := nI sz) (nn := nI n) (pI := nI p) (PT := nF T) (k14 := b_zfindDictionary_14 F (nI sz) (nI n) (nI p) (nF T) (m + 1)) (wsI := nI W.length) (tl := nF tl) (wd := nF wd) (vc := nF vc) (sy := nF sy) (nw := nF now) (nx := nF next) (last := last) (by omega) h4 hZ.2.1 hH hHb (n - 1) F (last + 2 ^ (24 - 8 * (n - 1))) (by omega) (by omega) hlt (by omega) (fun u hu => by rw [hex u hu]; have := h40 u hu; split <;> omega) (fun u hu => by rw [hex u (by omega), if_neg (by omega)]; exact h40 u (by omega)) (fun u a b => by rw [hex u b, hcd.2 u (by omega) b, if_neg (by omega)]) (fun c hc hlc hce hnb => by
        have := (odo_first h1 h4 hcd.1 hc.1 hcd.2 hc.2).mpr hce
        omega) with ⟨e', e1, e2, e3, e4, e5⟩ | ⟨e1, _⟩
    · have eq : e' = e := by
        rcases Nat.lt_trichotomy e' e with y | y | y
        · exact absurd e3 (r4 e' e1 e2 y)
        · exact y
        · exact absurd r3 (e4 e r1 r2 y)
      subst eq
      rw [e5]
      have unf : ∀ lf' ws' ld1 tl1 wd1 vc1 sy1 now1 next1, m_ztries F (nI sz) (nI n) (nI p) (nF T) (nI e') (nI H.length) (nI W.length) (nF ld) (nF tl) (nF wd) (nF vc) (nF sy) (nF now) (nF next) = some (nI lf', nI ws', nF ld1, nF tl1, nF wd1, nF vc1, nF sy1, nF now1, nF next1) →
          b_zfindDictionary_14 F (nI sz) (nI n) (nI p) (nF T) (m + 1) (nI e') 1 (nI H.length) (nI W.length) (nF ld) (nF tl) (nF wd) (nF vc) (nF sy) (nF now) (nF next) = b_zfindDictionary_42 F (nI sz) (nI n) (nI p) (nF T) (b_zfindDictionary_14 F (nI sz) (nI n) (nI p) (nF T) m) F (nI (e' + 2 ^ (24 - 8 * (n - 1)))) (nI (n - 1)) (nI lf') (nI ws') (nF ld1) (nF tl1) (nF wd1) (nF vc1) (nF sy1) (nF now1) (nF next1) := by
        intro lf' ws' ld1 tl1 wd1 vc1 sy1 now1 next1 ht
        show s_zfindDictionary_14 F (nI sz) (nI n) (nI p) (nF T) (b_zfindDictionary_14 F (nI sz) (nI n) (nI p) (nF T) m) (nI e') 1 (nI H.length) (nI W.length) (nF ld) (nF tl) (nF wd) (nF vc) (nF sy) (nF now) (nF next) = _
        unfold s_zfindDictionary_14
        rw [if_neg (by decide), ht, bd9_n, show nI n - 1 = nI (n - 1) from pk_sub h1, sh_var (n - 1) (by omega), nI_add]
      rcases r7 with ⟨a, a1, a2, a3, a4, a5⟩ | ⟨a1, a2, a3⟩
      · obtain ⟨ld1, tl1, sy1, now1, next1, b1, b2, b3, b4⟩ := p_ztries_h (F := F) (sy := sy) hF hp hp2 hsz h0 h1 h4 hTl r1 hW a4 hZ r6 hnow hnext a1 a2 a3
        rw [unf _ _ _ _ _ _ _ _ _ b4]
        have hlH : (H ++ [e']).length = H.length + 1 := by rw [List.length_append]; rfl
        have := ih m e' W (H ++ [e']) _ ld1 tl1 wd vc sy1 now1 next1 (by omega) a5 b1 hW (by omega) (fun h hh => by
          rw [List.mem_append, List.mem_singleton] at hh
          rcases hh with y | y
          · exact hHb h y
          · rw [y]; exact r1.1) r1 r5 b2 b3
        rw [hlH] at this
        exact this
      · obtain ⟨wd1, vc1, sy1, now1, next1, b1, b2, b3, b4⟩ := p_ztries_w (F := F) (sy := sy) hF hp hp2 hsz h0 h1 h4 hTl r1 a2 hZ r6 hnow hnext a1
        rw [unf _ _ _ _ _ _ _ _ _ b4]
        have hlW : (W ++ [e']).length = W.length + 1 := by rw [List.length_append]; rfl
        have := ih m e' (W ++ [e']) H A ld tl wd1 vc1 sy1 now1 next1 (by omega) a3 b1 (by omega) hH hHb r1 r5 b2 b3
        rw [hlW] at this
        exact this
    · exact absurd r3 (e1 e r1 r2)
theorem p_zfindDictionary (hF : 40000 < F) (hp : isP p) (hp2 : p ≤ 32003) (hsz : sz ≤ 40) (h0 : 0 < sz) (h1 : 1 ≤ n) (h4 : n ≤ 4) (hTl : ∀ v k i, v < n → k < sz → i < sz → T (1600 * v + 40 * k + i) < p) {W' H' : List Nat} {A' : Nat → Nat → Nat} {q : Nat} (hq : q + 1 < F) (hR : RunN p n sz T q 0 [0] [] (fun _ _ => 0) W' H' A') {lf ws : Int32} {ld tl wd vc sy now next : Nat → Nat} (hnow : ∀ y, 40 ≤ y → now y = 0) (hnext : ∀ y, 40 ≤ y → next y = 0) :
    ∃ ld' tl' wd' vc' sy' now' next', ZB p sz T W' H' A' ld' tl' wd' vc' ∧ (∀ y, 40 ≤ y → now' y = 0) ∧ (∀ y, 40 ≤ y → next' y = 0) ∧
      m_zfindDictionary F (nI sz) (nI n) (nI p) (nF T) lf ws (nF ld) (nF tl) (nF wd) (nF vc) (nF sy) (nF now) (nF next) = some (nI H'.length, nI W'.length, nF ld', nF tl', nF wd', nF vc', nF sy', nF now', nF next') := by
  have hpp := hp.1
  have z0 : ∀ u, u < 4 → exN 0 u = 0 := by decide
  have hcd0 : Cd n 0 := ⟨by decide, fun u _ hu => z0 u hu⟩
  obtain ⟨wd1, vc1, sy1, now1, next1, b1, b2, b3, b4⟩ := p_ztries_w (F := F) (T := T) (W := []) (H := []) (A := fun _ _ => 0) (e := 0) (ld := ld) (tl := tl) (wd := wd) (vc := vc) (sy := sy) hF hp hp2 hsz h0 h1 h4 hTl hcd0 h0 ⟨fun q hq => absurd hq (Nat.not_lt_zero _), fun q hq => absurd hq (Nat.not_lt_zero _), fun k hk => absurd hk (Nat.not_lt_zero _), fun k hk => absurd hk (Nat.not_lt_zero _)⟩ (fun c _ k hk => absurd hk (Nat.not_lt_zero _)) hnow hnext (fun ⟨a, ha⟩ => by
    have := ha 0 h0
    have e : (nfP p sz T 0 0 + sm 0 (fun k => a k * VL p sz T [] k 0)) % p = 1 % p := rfl
    have this2 : (nfP p sz T 0 0 + sm 0 (fun k => a k * VL p sz T [] k 0)) % p = 0 := this
    rw [e, Nat.mod_eq_of_lt (by omega)] at this2
    omega)
  obtain ⟨F', hF'⟩ : ∃ t, F = t + 1 := ⟨F - 1, by omega⟩
  obtain ⟨ld2, tl2, wd2, vc2, sy2, now2, next2, c1, c2, c3, c4⟩ := p_zd14 (F := F) hF hp hp2 hsz h0 h1 h4 hTl q F' 0 [0] [] (fun _ _ => 0) ld tl wd1 vc1 sy1 now1 next1 (by omega) hR b1 h0 (by decide) (fun h hh => absurd hh List.not_mem_nil) hcd0 (fun u hu => by rw [z0 u hu]; omega) b2 b3
  refine ⟨ld2, tl2, wd2, vc2, sy2, now2, next2, c1, c2, c3, ?_⟩
  rw [← c4]
  unfold m_zfindDictionary
  have hb : b_zfindDictionary_14 F (nI sz) (nI n) (nI p) (nF T) F = s_zfindDictionary_14 F (nI sz) (nI n) (nI p) (nF T) (b_zfindDictionary_14 F (nI sz) (nI n) (nI p) (nF T) F') := by
    have : ∀ G, F = G + 1 → b_zfindDictionary_14 F (nI sz) (nI n) (nI p) (nF T) F = s_zfindDictionary_14 F (nI sz) (nI n) (nI p) (nF T) (b_zfindDictionary_14 F (nI sz) (nI n) (nI p) (nF T) G) := by
      intro G hG
      conv => lhs; arg 6; rw [hG]
      rfl
    exact this F' hF'
  rw [hb]
  unfold s_zfindDictionary_14
  rw [if_neg (by decide), show m_ztries F (nI sz) (nI n) (nI p) (nF T) 0 0 0 (nF ld) (nF tl) (nF wd) (nF vc) (nF sy) (nF now) (nF next) = _ from b4, bd9_n, show nI n - 1 = nI (n - 1) from pk_sub h1, sh_var (n - 1) (by omega), show (0 : Int32) = nI 0 from rfl, nI_add]
  rfl
end ZDICT
