/-! THE CLASS'S DICTIONARY: build. -/
theorem sm_mono {N : Nat} {f g : Nat → Nat} (h : ∀ i, i < N → f i ≤ g i) : sm N f ≤ sm N g := by
  induction N with
  | zero => exact Nat.le_refl _
  | succ N ih =>
    have a := ih (fun i hi => h i (by omega))
    have b := h N (by omega)
    rw [sm_s, sm_s]; omega
theorem sm_strict {N k : Nat} {f g : Nat → Nat} (hk : k < N) (h : ∀ i, i < N → f i ≤ g i) (hs : f k + 1 ≤ g k) : sm N f + 1 ≤ sm N g := by
  induction N with
  | zero => omega
  | succ N ih =>
    rw [sm_s, sm_s]
    have b := h N (by omega)
    by_cases e : k = N
    · have a := sm_mono (N := N) (f := f) (g := g) (fun i hi => h i (by omega))
      rw [e] at hs
      omega
    · have a := ih (by omega) (fun i hi => h i (by omega))
      omega
theorem sm_const (N c : Nat) : sm N (fun _ => c) = N * c := by
  induction N with
  | zero => exact (Nat.zero_mul c).symm
  | succ N ih => rw [sm_s, ih, Nat.succ_mul]
/-- how many products come up to 'last' -/
def cnP (n sc : Nat) (w : Nat → Nat) (last : Nat) : Nat := sm n (fun v => sm sc (fun s => if w s + 2 ^ (24 - 8 * v) ≤ last then 1 else 0))
theorem cnP_up {n sc last last' v s : Nat} {w : Nat → Nat} (hv : v < n) (hs : s < sc) (h : last < last') (h1 : last < w s + 2 ^ (24 - 8 * v)) (h2 : w s + 2 ^ (24 - 8 * v) ≤ last') : cnP n sc w last + 1 ≤ cnP n sc w last' := by
  have hle : ∀ v s, (if w s + 2 ^ (24 - 8 * v) ≤ last then 1 else 0) ≤ (if w s + 2 ^ (24 - 8 * v) ≤ last' then 1 else 0) := by
    intro v s
    by_cases q : w s + 2 ^ (24 - 8 * v) ≤ last
    · rw [if_pos q, if_pos (by omega)]; exact Nat.le_refl _
    · rw [if_neg q]; exact Nat.zero_le _
  unfold cnP
  refine sm_strict hv (fun v' _ => sm_mono fun s' _ => hle v' s') (sm_strict hs (fun s' _ => hle v s') ?_)
  rw [if_neg (by omega), if_pos h2]
  exact Nat.le_refl _
theorem cnP_all {n sc last : Nat} {w : Nat → Nat} (h : n * sc ≤ cnP n sc w last) : ∀ v s, v < n → s < sc → w s + 2 ^ (24 - 8 * v) ≤ last := by
  intro v s hv hs
  refine Classical.byContradiction fun q => ?_
  have hle : ∀ v s, (if w s + 2 ^ (24 - 8 * v) ≤ last then 1 else 0) ≤ 1 := by
    intro v s
    split <;> omega
  have := sm_strict (N := n) (f := fun v => sm sc (fun s => if w s + 2 ^ (24 - 8 * v) ≤ last then 1 else 0)) (g := fun _ => sm sc (fun _ => 1)) hv (fun v' _ => sm_mono fun s' _ => hle v' s') (sm_strict hs (fun s' _ => hle v s') (by rw [if_neg q]; exact Nat.le_refl _))
  rw [sm_const n, sm_const sc, Nat.mul_one] at this
  unfold cnP at h
  omega
theorem cnP_word {n sc last : Nat} {w w' : Nat → Nat} (hw : ∀ s, s < sc → w' s = w s) : cnP n sc w last ≤ cnP n (sc + 1) w' last := by
  unfold cnP
  refine sm_mono fun v _ => ?_
  rw [sm_s, sm_congr (f := fun s => if w' s + 2 ^ (24 - 8 * v) ≤ last then 1 else 0) (g := fun s => if w s + 2 ^ (24 - 8 * v) ≤ last then 1 else 0) (fun s hs => by rw [hw s hs])]
  exact Nat.le_add_right _ _
/-- the state while it builds -/
def BS (p n sz : Nat) (T : Nat → Nat) (W H : List Nat) (A : Nat → Nat → Nat) (last : Nat) (hd tl w im st mx pv : Nat → Nat) : Prop :=
  (Arr W w) ∧
  (Arr H hd) ∧
  (∀ k, k < H.length → ∀ i, i < 40 → tl (40 * k + i) = A k i) ∧
  (∀ k, k < W.length → ∀ i, i < 40 → im (40 * k + i) = nfP p sz T (w k) i) ∧
  (LI p sz W.length (VL p sz T W) st mx pv) ∧
  (IndV p sz W.length (VL p sz T W)) ∧
  (DI n W H last)
theorem BS.aw {p n sz : Nat} {T : Nat → Nat} {W H : List Nat} {A : Nat → Nat → Nat} {last : Nat} {hd tl w im st mx pv : Nat → Nat} (h : BS p n sz T W H A last hd tl w im st mx pv) : Arr W w := h.1
theorem BS.ah {p n sz : Nat} {T : Nat → Nat} {W H : List Nat} {A : Nat → Nat → Nat} {last : Nat} {hd tl w im st mx pv : Nat → Nat} (h : BS p n sz T W H A last hd tl w im st mx pv) : Arr H hd := h.2.1
theorem BS.at_ {p n sz : Nat} {T : Nat → Nat} {W H : List Nat} {A : Nat → Nat → Nat} {last : Nat} {hd tl w im st mx pv : Nat → Nat} (h : BS p n sz T W H A last hd tl w im st mx pv) : ∀ k, k < H.length → ∀ i, i < 40 → tl (40 * k + i) = A k i := h.2.2.1
theorem BS.ai {p n sz : Nat} {T : Nat → Nat} {W H : List Nat} {A : Nat → Nat → Nat} {last : Nat} {hd tl w im st mx pv : Nat → Nat} (h : BS p n sz T W H A last hd tl w im st mx pv) : ∀ k, k < W.length → ∀ i, i < 40 → im (40 * k + i) = nfP p sz T (w k) i := h.2.2.2.1
theorem BS.li {p n sz : Nat} {T : Nat → Nat} {W H : List Nat} {A : Nat → Nat → Nat} {last : Nat} {hd tl w im st mx pv : Nat → Nat} (h : BS p n sz T W H A last hd tl w im st mx pv) : LI p sz W.length (VL p sz T W) st mx pv := h.2.2.2.2.1
theorem BS.ind {p n sz : Nat} {T : Nat → Nat} {W H : List Nat} {A : Nat → Nat → Nat} {last : Nat} {hd tl w im st mx pv : Nat → Nat} (h : BS p n sz T W H A last hd tl w im st mx pv) : IndV p sz W.length (VL p sz T W) := h.2.2.2.2.2.1
theorem BS.di {p n sz : Nat} {T : Nat → Nat} {W H : List Nat} {A : Nat → Nat → Nat} {last : Nat} {hd tl w im st mx pv : Nat → Nat} (h : BS p n sz T W H A last hd tl w im st mx pv) : DI n W H last := h.2.2.2.2.2.2
section BUILD
variable {F p n sz last : Nat} {T : Nat → Nat} {W H : List Nat} {A : Nat → Nat → Nat} {hd tl w im st mx pv : Nat → Nat}
theorem BS.wlt (h : BS p n sz T W H A last hd tl w im st mx pv) (hp : 2 ≤ p) (hsz : sz ≤ 40) {s : Nat} (hs : s < W.length) : ∀ u, u < 4 → exN (w s) u ≤ 39 := by
  intro u hu
  have := h.li.le hp
  rw [h.aw s hs]
  have := h.di.small hu s hs
  omega
theorem small_lt {c : Nat} (hc : c < 2 ^ 32) (h : ∀ u, u < 4 → exN c u ≤ 40) : c < 700000000 := by
  have := ex_lin hc
  have h0 := h 0 (by decide)
  have h1 := h 1 (by decide)
  have h2 := h 2 (by decide)
  have h3 := h 3 (by decide)
  omega
/-- one more: placed -/
theorem BS.place (hF : 40000 < F) (hp : isP p) (hp2 : p ≤ 32003) (hsz : sz ≤ 40) (h0 : 0 < sz) (h : BS p n sz T W H A last hd tl w im st mx pv) (hH : H.length < 160) {e : Nat} (he : Cd n e) (hl : last < e) (hnb : NB H e) (hmin : ∀ c, Cd n c → last < c → c < e → ¬ NB H c) {rest mix : Nat → Nat} :
    ∃ W' H' A' hd' tl' w' im' st' mx' pv' rest' mix', BS p n sz T W' H' A' e hd' tl' w' im' st' mx' pv' ∧ W.length ≤ W'.length ∧ H'.length ≤ H.length + 1 ∧ (W'.length = W.length ∨ W'.length = W.length + 1) ∧ (∀ s, s < W.length → w' s = w s) ∧
      m_place F (nI p) (nI sz) (nF (nfP p sz T e)) (nI e) (nI H.length) (nI W.length) (nF hd) (nF tl) (nF w) (nF im) (nF st) (nF mx) (nF pv) (nF rest) (nF mix) = some (nI H'.length, nI W'.length, nF hd', nF tl', nF w', nF im', nF st', nF mx', nF pv', nF rest', nF mix') ∧
      ((∃ a : Nat → Nat, (∀ k, k < 40 → a k < p) ∧ (∀ k, W.length ≤ k → k < 40 → a k = 0) ∧ InS p sz W.length (VL p sz T W) (nfP p sz T e) a ∧ H' = H ++ [e] ∧ W' = W ∧ A' = (fun r i => if r = H.length then a i else A r i)) ∨ ((¬ ∃ a, InS p sz W.length (VL p sz T W) (nfP p sz T e) a) ∧ W.length < sz ∧ W' = W ++ [e] ∧ H' = H ∧ A' = A)) := by
  have hlW : ∀ (L : List Nat) (x : Nat), (L ++ [x]).length = L.length + 1 := fun L x => by rw [List.length_append]; rfl
  rcases p_place (F := F) hF hp hp2 hsz h.li (nfP_vc (T := T) hp.1 h0 e) (e := e) hH (hd := hd) (tl := tl) (w := w) (im := im) (rest := rest) (mix := mix) with ⟨a, rest', a1, a2, a3, a4⟩ | ⟨st', mx', pv', rest', mix', b1, b2, b3, b4⟩
  · refine ⟨W, H ++ [e], fun r i => if r = H.length then a i else A r i, _, _, _, _, _, _, _, _, _, ⟨h.aw, h.ah.push e, fun k hk i hi => ?_, h.ai, h.li, h.ind, h.di.head he hl hmin⟩, Nat.le_refl _, by rw [hlW]; exact Nat.le_refl _, Or.inl rfl, fun _ _ => rfl, by rw [hlW]; exact a4, Or.inl ⟨a, a2, a3, a1, rfl, rfl, rfl⟩⟩
    rw [hlW] at hk
    try dsimp only
    by_cases q : k = H.length
    · rw [if_pos q, q, rw40_in hi]
    · rw [if_neg q, rw40_out hi q]; exact h.at_ k (by omega) i hi
  · refine ⟨W ++ [e], H, A, _, _, _, _, _, _, _, _, _, ⟨h.aw.push e, h.ah, h.at_, fun k hk i hi => ?_, ?_, ?_, h.di.word he hl hnb hmin⟩, by rw [hlW]; exact Nat.le_succ _, Nat.le_succ _, Or.inr (hlW W e), fun s hs => if_neg (by omega), by rw [hlW]; exact b4, Or.inr ⟨b1, b2, rfl, rfl, rfl⟩⟩
    · rw [hlW] at hk
      try dsimp only
      by_cases q : k = W.length
      · rw [if_pos q, q, rw40_in hi]
      · rw [if_neg q, rw40_out hi q]; exact h.ai k (by omega) i hi
    · rw [hlW]
      exact b3.congr fun k i hk => VL_app hk i
    · rw [hlW]
      exact (h.ind.add hp b1).congr fun k i hk => VL_app hk i
theorem p_build50 (hF : 40000 < F) (hp : isP p) (hp2 : p ≤ 32003) (hsz : sz ≤ 40) (h0 : 0 < sz) (h1 : 1 ≤ n) (h4 : n ≤ 4) (hC : Cm p n sz T) (hTl : ∀ v k i, v < n → k < sz → i < sz → T (1600 * v + 40 * k + i) < p) : ∀ (d m i last : Nat) (W H : List Nat) (A : Nat → Nat → Nat) (hd tl w im st mx pv x rest mix : Nat → Nat), i + d = 160 → d < m → BS p n sz T W H A last hd tl w im st mx pv → last < 700000000 → i ≤ cnP n W.length w last → H.length ≤ i → (∀ j, 40 ≤ j → x j = 0) →
    ∃ q W' H' A' hd' tl' w' im' st' mx' pv' x' rest' mix', q ≤ d ∧ RunN p n sz T q last W H A W' H' A' ∧ Arr W' w' ∧ Arr H' hd' ∧ (∀ k, k < H'.length → ∀ i, i < 40 → tl' (40 * k + i) = A' k i) ∧ W'.length ≤ sz ∧ H'.length ≤ 160 ∧ (∀ j, 40 ≤ j → x' j = 0) ∧
      b_build_50 F (nI p) (nI sz) (nI n) (nF T) m (nI last) (nI i) (nI H.length) (nI p) (nI sz) (nI W.length) (nF hd) (nF tl) (nF w) (nF im) (nF st) (nF mx) (nF pv) (nF x) (nF rest) (nF mix) = some (nI H'.length, nI p, nI sz, nI W'.length, nF hd', nF tl', nF w', nF im', nF st', nF mx', nF pv', nF x', nF rest', nF mix') := by
  have hpp := hp.1
  -- no product is left: no code is left
  have hend : ∀ (W H : List Nat) (A : Nat → Nat → Nat) (last : Nat) (hd tl w im st mx pv : Nat → Nat), BS p n sz T W H A last hd tl w im st mx pv → (∀ v s, v < n → s < W.length → w s + 2 ^ (24 - 8 * v) ≤ last) → ∀ c, Cd n c → last < c → ¬ NB H c := by
    intro W H A last hd tl w im st mx pv hB hno c hc hlc hnb
    obtain ⟨e, ⟨e1, e2, e3⟩, e4⟩ := pk_least (fun c => Cd n c ∧ last < c ∧ NB H c) ⟨c, hc, hlc, hnb⟩
    obtain ⟨v, y, hv, hy, ey⟩ := hB.di.prod h4 e1 e2 e3 (fun c' a1 a2 a3 a4 => e4 c' a3 ⟨a1, a2, a4⟩)
    obtain ⟨s, hs, es⟩ := (hB.aw.mem y).mp hy
    have := hno v s hv hs
    rw [es] at this
    omega
  intro d
  induction d with
  | zero =>
    intro m i last W H A hd tl w im st mx pv x rest mix hi hm hB hlast hcn hHi hx0
    obtain ⟨m, rfl⟩ : ∃ q, m = q + 1 := ⟨m - 1, by omega⟩
    have hle := hB.li.le hpp
    refine ⟨0, W, H, A, hd, tl, w, im, st, mx, pv, x, rest, mix, Nat.zero_le _, ⟨hend _ _ _ _ _ _ _ _ _ _ _ hB (cnP_all ?_), rfl, rfl, rfl⟩, hB.aw, hB.ah, hB.at_, hle, by omega, hx0, ?_⟩
    · have : n * W.length ≤ 4 * 40 := Nat.mul_le_mul h4 (by omega)
      omega
    · show s_build_50 F (nI p) (nI sz) (nI n) (nF T) (b_build_50 F (nI p) (nI sz) (nI n) (nF T) m) (nI last) (nI i) (nI H.length) (nI p) (nI sz) (nI W.length) (nF hd) (nF tl) (nF w) (nF im) (nF st) (nF mx) (nF pv) (nF x) (nF rest) (nF mix) = _
      unfold s_build_50
      rw [if_pos (show (160 : Int32) ≤ nI i from nI_le (show 160 ≤ i by omega) (by omega))]
  | succ d ih =>
    intro m i last W H A hd tl w im st mx pv x rest mix hi hm hB hlast hcn hHi hx0
    obtain ⟨m, rfl⟩ : ∃ q, m = q + 1 := ⟨m - 1, by omega⟩
    have hle := hB.li.le hpp
    have hwcd : ∀ s, s < W.length → Cd n (w s) := fun s hs => hB.di.wcd _ ((hB.aw.mem _).mpr ⟨s, hs, rfl⟩)
    have hwex := fun s (hs : s < W.length) => hB.wlt hpp hsz hs
    have hpx : ∀ s v, s < W.length → v < 4 → w s + 2 ^ (24 - 8 * v) < 2 ^ 32 ∧ ∀ u, u < 4 → exN (w s + 2 ^ (24 - 8 * v)) u ≤ 40 := by
      intro s v hs hv
      refine ⟨ex_add_lt (hwcd s hs).1 hv (fun u hu => by have := hwex s hs u hu; omega), fun u hu => ?_⟩
      rw [exN_add (hwcd s hs).1 hv hu (by have := hwex s hs v hv; omega)]
      have := hwex s hs u hu
      split <;> omega
    have hplt : ∀ s v, s < W.length → v < 4 → w s + 2 ^ (24 - 8 * v) < 700000000 := fun s v hs hv => small_lt (hpx s v hs hv).1 (hpx s v hs hv).2
    rcases p_leastProduct (F := F) (n := n) (w := w) (by omega) h4 (show W.length ≤ 40 by omega) (show last < 2147483647 by omega) (fun s v hs hv => by have := hplt s v hs hv; omega) with ⟨l1, l2⟩ | ⟨v, s, hv, hs, l1, l2, l3⟩
    · refine ⟨0, W, H, A, hd, tl, w, im, st, mx, pv, x, rest, mix, Nat.zero_le _, ⟨hend _ _ _ _ _ _ _ _ _ _ _ hB l2, rfl, rfl, rfl⟩, hB.aw, hB.ah, hB.at_, hle, by omega, hx0, ?_⟩
      show s_build_50 F (nI p) (nI sz) (nI n) (nF T) (b_build_50 F (nI p) (nI sz) (nI n) (nF T) m) (nI last) (nI i) (nI H.length) (nI p) (nI sz) (nI W.length) (nF hd) (nF tl) (nF w) (nF im) (nF st) (nF mx) (nF pv) (nF x) (nF rest) (nF mix) = _
      unfold s_build_50
      rw [if_neg (show ¬ (160 : Int32) ≤ nI i from nI_ge (show i < 160 by omega) (by decide)), l1, bd1_n, if_pos rfl]
    · have hv4 : v < 4 := by omega
      obtain ⟨e1, e2⟩ := hpx s v hs hv4
      have e3 := hplt s v hs hv4
      have hCd : Cd n (w s + 2 ^ (24 - 8 * v)) := ⟨e1, fun u a b => by rw [exN_add (hwcd s hs).1 hv4 b (by have := hwex s hs v hv4; omega), (hwcd s hs).2 u a b, if_neg (by omega)]⟩
      have hnf : nfP p sz T (w s + 2 ^ (24 - 8 * v)) = mvP p sz T v (fun q => im (40 * s + q)) := by
        rw [nfP_add hC (hwcd s hs).1 h4 hv (hwcd s hs).2 (by have := hwex s hs v hv4; omega)]
        funext y
        unfold mvP
        by_cases q : y < sz
        · rw [if_pos q, if_pos q]
          exact congrArg (· % p) (sm_congr fun j hj => by
            show nfP p sz T (w s) j * _ = im (40 * s + j) * _
            rw [hB.ai s hs j (by omega)])
        · rw [if_neg q, if_neg q]
      generalize hee : w s + 2 ^ (24 - 8 * v) = e at *
      have hbelow : ∀ c, Cd n c → last < c → c < e → ¬ NB H c := by
        intro c hc hlc hce hnb
        obtain ⟨c0, ⟨f1, f2, f3⟩, f4⟩ := pk_least (fun c => Cd n c ∧ last < c ∧ NB H c) ⟨c, hc, hlc, hnb⟩
        have hc0 : c0 ≤ c := by
          rcases Nat.lt_or_ge c c0 with q | q
          · exact absurd ⟨hc, hlc, hnb⟩ (f4 c q)
          · exact q
        obtain ⟨v', y, hv', hy, ey⟩ := hB.di.prod h4 f1 f2 f3 (fun c' a1 a2 a3 a4 => f4 c' a3 ⟨a1, a2, a4⟩)
        obtain ⟨s', hs', es'⟩ := (hB.aw.mem y).mp hy
        have := l3 v' s' hv' hs'
        rw [es'] at this
        omega
      have unf : b_build_50 F (nI p) (nI sz) (nI n) (nF T) (m + 1) (nI last) (nI i) (nI H.length) (nI p) (nI sz) (nI W.length) (nF hd) (nF tl) (nF w) (nF im) (nF st) (nF mx) (nF pv) (nF x) (nF rest) (nF mix) =
          bd1 (m_hasHead F (nI H.length) (nF hd) (nI e)) fun r => if r = 0 then bd11 (m_place F (nI p) (nI sz) (nF (nfP p sz T e)) (nI e) (nI H.length) (nI W.length) (nF hd) (nF tl) (nF w) (nF im) (nF st) (nF mx) (nF pv) (nF rest) (nF mix)) (fun a1 a2 a3 a4 a5 a6 a7 a8 a9 a10 a11 => b_build_50 F (nI p) (nI sz) (nI n) (nF T) m (nI e) (nI (i + 1)) a1 (nI p) (nI sz) a2 a3 a4 a5 a6 a7 a8 a9 (nF (nfP p sz T e)) a10 a11)
            else b_build_50 F (nI p) (nI sz) (nI n) (nF T) m (nI e) (nI (i + 1)) (nI H.length) (nI p) (nI sz) (nI W.length) (nF hd) (nF tl) (nF w) (nF im) (nF st) (nF mx) (nF pv) (nF x) (nF rest) (nF mix) := by
        have ex : (fun j => if j < 40 then (0 : Int32) else nF x j) = nF (fun _ => 0) := by
          funext j
          by_cases q : j < 40
          · rw [if_pos q]; rfl
          · rw [if_neg q]; show nI (x j) = nI 0; rw [hx0 j (by omega)]
        have hact := p_actL (F := F) (T := T) (im := im) (by omega) hpp hp2 hsz hv4 (show s < 40 by omega) (fun q hq i hi => hTl v q i hv hq hi) (fun q hq => by rw [hB.ai s hs q (by omega)]; exact (nfP_vc hpp h0 _ q).1)
        show s_build_50 F (nI p) (nI sz) (nI n) (nF T) (b_build_50 F (nI p) (nI sz) (nI n) (nF T) m) (nI last) (nI i) (nI H.length) (nI p) (nI sz) (nI W.length) (nF hd) (nF tl) (nF w) (nF im) (nF st) (nF mx) (nF pv) (nF x) (nF rest) (nF mix) = _
        unfold s_build_50
        rw [if_neg (show ¬ (160 : Int32) ≤ nI i from nI_ge (show i < 160 by omega) (by decide)), l1, bd1_n, if_neg (nI_nm1 (by omega)), show (40 : Int32) = nI 40 from rfl, nzI_n (by decide) (by decide), nzI_n (by decide) (by decide), remI_n (by omega) (by decide) (by decide), pk_div (by omega) (by decide) (by decide), show (v * 40 + s) % 40 = s by omega, show (v * 40 + s) / 40 = v by omega, rdI_n (by omega) (by decide), p_variable F hv4, bd1_n, show nF w s + nI (2 ^ (24 - 8 * v)) = nI e from by rw [← hee]; exact nI_add _ _, show nI i + 1 = nI (i + 1) from nI_add i 1, pk_mul, show s * 40 = 40 * s from Nat.mul_comm _ _, p_fill (by decide) (by omega), bd1_n, ex, show (0 : Int32) = nI 0 from rfl, hact, bd1_n, hnf]
      rw [unf]
      rcases p_hasHead_l (F := F) (by omega) hB.ah (by omega) (fun h hh => (hB.di.hcd h hh).1) hCd.1 H.length F 0 (by omega) (by omega) (fun j hj => by omega) with ⟨q1, q2⟩ | ⟨q1, q2⟩
      · rw [show m_hasHead F (nI H.length) (nF hd) (nI e) = some 0 from q2, bd1_n, if_pos rfl]
        obtain ⟨W', H', A', hd', tl', w', im', st', mx', pv', rest', mix', b1, b2, b3, b4, b5, b6, b7⟩ := hB.place (F := F) hF hp hp2 hsz h0 (by omega) hCd (by omega) q1 hbelow (rest := rest) (mix := mix)
        rw [b6, bd11_n]
        have hcn2 : i + 1 ≤ cnP n W'.length w' e := by
          have c1 := cnP_up (w := w) hv hs (show last < e by omega) (by omega) (show w s + 2 ^ (24 - 8 * v) ≤ e by omega)
          rcases b4 with y | y
          · have : cnP n W'.length w' e = cnP n W.length w e := by
              rw [y]
              unfold cnP
              exact sm_congr fun v' _ => sm_congr fun s' hs' => by rw [b5 s' hs']
            omega
          · have := cnP_word (n := n) (last := e) (sc := W.length) (w := w) (w' := w') b5
            rw [← y] at this
            omega
        obtain ⟨q, W2, H2, A2, hd2, tl2, w2, im2, st2, mx2, pv2, x2, rest2, mix2, g0, g1, g2, g3, g4, g5, g6, g7, g8⟩ := ih m (i + 1) e W' H' A' hd' tl' w' im' st' mx' pv' (nfP p sz T e) rest' mix' (by omega) (by omega) b1 e3 hcn2 (by omega) (fun j hj => (nfP_vc hpp h0 e j).2 (by omega))
        refine ⟨q + 1, W2, H2, A2, hd2, tl2, w2, im2, st2, mx2, pv2, x2, rest2, mix2, by omega, ⟨e, hCd, by omega, q1, hbelow, e2, hB.ind, ?_⟩, g2, g3, g4, g5, g6, g7, g8⟩
        rcases b7 with ⟨a, a1, a2, a3, a4, a5, a6⟩ | ⟨a1, a2, a3, a4, a5⟩
        · rw [a4, a5, a6] at g1
          exact Or.inl ⟨a, a1, a2, a3, by omega, g1⟩
        · rw [a3, a4, a5] at g1
          exact Or.inr ⟨a1, a2, g1⟩
      · rw [show m_hasHead F (nI H.length) (nF hd) (nI e) = some 1 from q2, bd1_n, if_neg (by decide)]
        have hskip : ∀ c, Cd n c → last < c → c ≤ e → ¬ NB H c := fun c hc a b => by
          by_cases y : c = e
          · rw [y]; exact q1
          · exact hbelow c hc a (by omega)
        have c1 := cnP_up (w := w) hv hs (show last < e by omega) (by omega) (show w s + 2 ^ (24 - 8 * v) ≤ e by omega)
        obtain ⟨q, W2, H2, A2, hd2, tl2, w2, im2, st2, mx2, pv2, x2, rest2, mix2, g0, g1, g2⟩ := ih m (i + 1) e W H A hd tl w im st mx pv x rest mix (by omega) (by omega) ⟨hB.aw, hB.ah, hB.at_, hB.ai, hB.li, hB.ind, hB.di.skip (by omega) hskip⟩ e3 (by omega) (by omega) hx0
        refine ⟨q, W2, H2, A2, hd2, tl2, w2, im2, st2, mx2, pv2, x2, rest2, mix2, by omega, ?_, g2⟩
        have hmove : ∀ c, Cd n c → (last < c ∧ NB H c ↔ e < c ∧ NB H c) := fun c hc => ⟨fun a => ⟨by
          rcases Nat.lt_or_ge e c with y | y
          · exact y
          · exact absurd a.2 (hskip c hc a.1 y), a.2⟩, fun a => ⟨by omega, a.2⟩⟩
        cases q with
        | zero =>
          obtain ⟨r1, r2⟩ := g1
          exact ⟨fun c hc hlc hnb => r1 c hc ((hmove c hc).mp ⟨hlc, hnb⟩).1 hnb, r2⟩
        | succ q =>
          obtain ⟨e', r1, r2, r3, r4, r5⟩ := g1
          exact ⟨e', r1, by omega, r3, fun c hc hlc hce hnb => r4 c hc ((hmove c hc).mp ⟨hlc, hnb⟩).1 hce hnb, r5⟩
end BUILD
