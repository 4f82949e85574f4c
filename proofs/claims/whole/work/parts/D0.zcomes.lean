/-! THE CLASS'S build FROM ITS START; THE REFERENCE: comesTo. -/
section BUILDS
variable {F p n sz : Nat} {T : Nat → Nat}
theorem DI_start (n : Nat) : DI n [0] [] 0 := by
  have z : ∀ u, u < 4 → exN 0 u = 0 := by decide
  refine ⟨fun c hc => ?_, fun c hc => absurd hc List.not_mem_nil, fun c hc => ?_, fun c hc => absurd hc List.not_mem_nil, fun i j hi hj hij => ?_, fun c hc hle => ?_⟩
  · rw [List.mem_singleton] at hc; rw [hc]; exact ⟨by decide, fun u _ hu => z u hu⟩
  · rw [List.mem_singleton] at hc; omega
  · have : [0].length = 1 := rfl
    omega
  · rw [List.mem_singleton]
    exact ⟨fun _ => by omega, fun _ a ha => absurd ha List.not_mem_nil⟩
theorem LI_start (p sz : Nat) (V : Nat → Nat → Nat) (st mx pv : Nat → Nat) : LI p sz 0 V st mx pv :=
  ⟨fun _ h => by omega, fun _ h => by omega, fun _ _ _ h => by omega, fun _ h => by omega, fun _ h => by omega, fun _ h => by omega, fun _ h => by omega, fun _ _ => 0, fun _ h => by omega⟩
theorem p_build (hF : 40000 < F) (hp : isP p) (hp2 : p ≤ 32003) (hsz : sz ≤ 40) (h0 : 0 < sz) (h1 : 1 ≤ n) (h4 : n ≤ 4) (hC : Cm p n sz T) (hTl : ∀ v k i, v < n → k < sz → i < sz → T (1600 * v + 40 * k + i) < p) {c0 p0 s0 t0 : Int32} {hd tl w im st mx pv x rest mix : Nat → Nat} (hx : ∀ j, 40 ≤ j → x j = 0) :
    ∃ q W' H' A' hd' tl' w' im' st' mx' pv' x' rest' mix', q ≤ 160 ∧ RunN p n sz T q 0 [0] [] (fun _ _ => 0) W' H' A' ∧ Arr W' w' ∧ Arr H' hd' ∧ (∀ k, k < H'.length → ∀ i, i < 40 → tl' (40 * k + i) = A' k i) ∧ W'.length ≤ sz ∧ H'.length ≤ 160 ∧ (∀ j, 40 ≤ j → x' j = 0) ∧
      m_build F (nI p) (nI sz) (nI n) (nF T) c0 p0 s0 t0 (nF hd) (nF tl) (nF w) (nF im) (nF st) (nF mx) (nF pv) (nF x) (nF rest) (nF mix) = some (nI H'.length, nI p, nI sz, nI W'.length, nF hd', nF tl', nF w', nF im', nF st', nF mx', nF pv', nF x', nF rest', nF mix') := by
  have hpp := hp.1
  have ex : upd (fun j => if j < 40 then (0 : Int32) else nF x j) 0 1 = nF e1P := by
    funext j
    show (if j = 0 then (1 : Int32) else if j < 40 then 0 else nF x j) = nI (e1P j)
    unfold e1P
    by_cases q : j = 0
    · rw [if_pos q, if_pos q]; rfl
    · rw [if_neg q, if_neg q]
      by_cases y : j < 40
      · rw [if_pos y]; rfl
      · rw [if_neg y]; show nI (x j) = nI 0; rw [hx j (by omega)]
  rcases p_place (F := F) hF hp hp2 hsz (LI_start p sz (VL p sz T []) st mx pv) (e1P_vc hpp h0) (e := 0) (hc := 0) (by decide) (hd := hd) (tl := tl) (w := w) (im := im) (rest := rest) (mix := mix) with ⟨a, rest', a1, a2, a3, a4⟩ | ⟨st', mx', pv', rest', mix', b1, b2, b3, b4⟩
  · exfalso
    have := a1 0 h0
    have e : (e1P 0 + sm 0 (fun k => a k * VL p sz T [] k 0)) % p = 1 % p := rfl
    rw [e, Nat.mod_eq_of_lt (by omega)] at this
    omega
  · have hV : ∀ k i, k < 1 → (if k = 0 then e1P i else VL p sz T [] k i) = VL p sz T [0] k i := fun k i hk => VL_app (W := []) (e := 0) hk i
    have hB : BS p n sz T [0] [] (fun _ _ => 0) 0 hd tl (fun j => if j = 0 then 0 else w j) (rw40 e1P im 0) st' mx' pv' := by
      refine ⟨fun q hq => ?_, fun q hq => absurd hq (Nat.not_lt_zero _), fun k hk => absurd hk (Nat.not_lt_zero _), fun k hk i hi => ?_, ?_, ?_, DI_start n⟩
      · have : [0].length = 1 := rfl
        have e : q = 0 := by omega
        subst e
        rfl
      · have : [0].length = 1 := rfl
        have e : k = 0 := by omega
        subst e
        rw [rw40_in hi]
        show e1P i = nfP p sz T (if 0 = 0 then 0 else w 0) i
        rw [if_pos rfl]
        rfl
      · exact b3.congr hV
      · exact ((show IndV p sz 0 (VL p sz T []) from fun c _ k hk => absurd hk (Nat.not_lt_zero _)).add hp b1).congr hV
    obtain ⟨q, W2, H2, A2, hd2, tl2, w2, im2, st2, mx2, pv2, x2, rest2, mix2, g0, g1, g2, g3, g4, g5, g6, g7, g8⟩ := p_build50 (F := F) hF hp hp2 hsz h0 h1 h4 hC hTl 160 F 0 0 [0] [] (fun _ _ => 0) hd tl _ _ st' mx' pv' e1P rest' mix' (by omega) (by omega) hB (by decide) (Nat.zero_le _) (Nat.le_refl _) (fun j hj => (e1P_vc hpp h0 j).2 (by omega))
    refine ⟨q, W2, H2, A2, hd2, tl2, w2, im2, st2, mx2, pv2, x2, rest2, mix2, g0, g1, g2, g3, g4, g5, g6, g7, ?_⟩
    unfold m_build
    rw [p_fill (by decide) (by omega), bd1_n, show (0 : Int32) = nI 0 from rfl, wrI_n (by decide) (by decide), show upd (fun j => if j < 40 then nI 0 else nF x j) 0 1 = nF e1P from ex, b4, bd11_n]
    exact g8
end BUILDS
section ZCOMES
variable {F p n sz : Nat} {T : Nat → Nat}
theorem p_zct68 (hp : 2 ≤ p) (hp2 : p ≤ 32003) (hsz : sz ≤ 40) (hTl : ∀ v k i, v < n → k < sz → i < sz → T (1600 * v + 40 * k + i) < p) (h4 : n ≤ 4) {nn : Int32} {k31 k41 k53} {eI tI : Int32} {v i : Nat} (hv : v < n) (hi : i < sz) {now next : Nat → Nat} (hn : ∀ j, j < sz → now j < p) : ∀ (d m j : Nat), j + d = sz → d < m →
    b_zcomesTo_68 F (nI sz) nn (nI p) (nF T) k31 k41 k53 m eI (nI v) tI (nI i) (lN (sm j (fun q => now q * tP T v q i) % p)) (nI j) (nF now) (nF next) = k53 eI (nI v) tI (nI (i + 1)) (nF now) (nF (fun y => if y = i then sm sz (fun q => now q * tP T v q i) % p else next y)) := by
  intro d
  induction d with
  | zero =>
    intro m j hj hm
    obtain ⟨m, rfl⟩ : ∃ q, m = q + 1 := ⟨m - 1, by omega⟩
    have e : j = sz := by omega
    subst e
    show s_zcomesTo_68 F (nI j) nn (nI p) (nF T) k31 k41 k53 (b_zcomesTo_68 F (nI j) nn (nI p) (nF T) k31 k41 k53 m) eI (nI v) tI (nI i) _ (nI j) (nF now) (nF next) = _
    unfold s_zcomesTo_68
    rw [if_pos (nI_le (by omega) (by omega)), lN_i, wrI_n (by omega) (by decide), upd_nF, show nI i + 1 = nI (i + 1) from nI_add i 1]
  | succ d ih =>
    intro m j hj hm
    obtain ⟨m, rfl⟩ : ∃ q, m = q + 1 := ⟨m - 1, by omega⟩
    have x1 := hn j (by omega)
    have x2 := hTl v j i hv (by omega) hi
    have x3 := Nat.mod_lt (sm j (fun q => now q * tP T v q i)) (show 0 < p by omega)
    have hm2 : now j * T (1600 * v + 40 * j + i) ≤ 32003 * 32003 := Nat.mul_le_mul (by omega) (by omega)
    rw [← ih m (j + 1) (by omega) (by omega)]
    show s_zcomesTo_68 F (nI sz) nn (nI p) (nF T) k31 k41 k53 (b_zcomesTo_68 F (nI sz) nn (nI p) (nF T) k31 k41 k53 m) eI (nI v) tI (nI i) _ (nI j) (nF now) (nF next) = _
    unfold s_zcomesTo_68
    rw [if_neg (nI_ge (by omega) (by omega)), rdI_n (by omega) (by decide), show (1600 : Int32) * nI v = nI (1600 * v) from pk_mul 1600 v, show (40 : Int32) * nI j = nI (40 * j) from pk_mul 40 j, nI_add, nI_add, rdI_n (by omega) (by decide), nI_l (by omega), nzL_n (by omega) (by omega), show nI j + 1 = nI (j + 1) from nI_add j 1]
    show b_zcomesTo_68 F (nI sz) nn (nI p) (nF T) k31 k41 k53 m eI (nI v) tI (nI i) (remL (lN (sm j (fun q => now q * tP T v q i) % p) + (nI (now j)).toInt64 * (nI (T (1600 * v + 40 * j + i))).toInt64) (lN p)) (nI (j + 1)) (nF now) (nF next) = _
    rw [nI_l (by omega), nI_l (by omega), lN_mul, lN_add, remL_n (by omega) (by omega) (by omega), sm_s, Nat.mod_add_mod]
    rfl
theorem p_zct53 (hF : 200 < F) (hp : 2 ≤ p) (hp2 : p ≤ 32003) (hsz : sz ≤ 40) (hTl : ∀ v k i, v < n → k < sz → i < sz → T (1600 * v + 40 * k + i) < p) (h4 : n ≤ 4) {nn : Int32} {k31 k41} {eI : Int32} {v t : Nat} (hv : v < n) {now : Nat → Nat} (hn : Vc p sz now) : ∀ (d m i : Nat) (next : Nat → Nat), i + d = sz → d < m → (∀ y, y < i → next y = mvP p sz T v now y) → (∀ y, 40 ≤ y → next y = 0) →
    ∃ next', (∀ y, 40 ≤ y → next' y = 0) ∧ b_zcomesTo_53 F (nI sz) nn (nI p) (nF T) k31 k41 m eI (nI v) (nI t) (nI i) (nF now) (nF next) = k41 eI (nI v) (nI (t + 1)) (nF (mvP p sz T v now)) (nF next') := by
  have key142 : ∀ (next : Nat → Nat), (∀ y, y < sz → next y = mvP p sz T v now y) → ∀ (d m i : Nat) (nw : Nat → Nat), i + d = sz → d < m → (∀ y, y < i → nw y = mvP p sz T v now y) → (∀ y, sz ≤ y → nw y = 0) →
      b_zcomesTo_142 F (nI sz) nn (nI p) (nF T) k31 k41 m eI (nI v) (nI t) (nI i) (nF nw) (nF next) = k41 eI (nI v) (nI (t + 1)) (nF (mvP p sz T v now)) (nF next) := by
    intro next hnx d
    induction d with
    | zero =>
      intro m i nw hi hm h1 h2
      obtain ⟨m, rfl⟩ : ∃ q, m = q + 1 := ⟨m - 1, by omega⟩
      have e : nw = mvP p sz T v now := by
        funext y
        by_cases q : y < sz
        · exact h1 y (by omega)
        · rw [h2 y (by omega)]; unfold mvP; rw [if_neg q]
      show s_zcomesTo_142 F (nI sz) nn (nI p) (nF T) k31 k41 (b_zcomesTo_142 F (nI sz) nn (nI p) (nF T) k31 k41 m) eI (nI v) (nI t) (nI i) (nF nw) (nF next) = _
      unfold s_zcomesTo_142
      rw [if_pos (nI_le (by omega) (by omega)), show nI t + 1 = nI (t + 1) from nI_add t 1, e]
    | succ d ih =>
      intro m i nw hi hm h1 h2
      obtain ⟨m, rfl⟩ : ∃ q, m = q + 1 := ⟨m - 1, by omega⟩
      show s_zcomesTo_142 F (nI sz) nn (nI p) (nF T) k31 k41 (b_zcomesTo_142 F (nI sz) nn (nI p) (nF T) k31 k41 m) eI (nI v) (nI t) (nI i) (nF nw) (nF next) = _
      unfold s_zcomesTo_142
      rw [if_neg (nI_ge (by omega) (by omega)), rdI_n (by omega) (by decide), wrI_n (by omega) (by decide), show upd (nF nw) i (nF next i) = _ from upd_nF (g := nw) (i := i) (x := next i), show nI i + 1 = nI (i + 1) from nI_add i 1]
      refine ih m (i + 1) _ (by omega) (by omega) (fun y hy => ?_) (fun y hy => ?_)
      · show (if y = i then next i else nw y) = _
        by_cases q : y = i
        · rw [if_pos q, q]; exact hnx i (by omega)
        · rw [if_neg q]; exact h1 y (by omega)
      · show (if y = i then next i else nw y) = 0
        rw [if_neg (by omega)]; exact h2 y hy
  intro d
  induction d with
  | zero =>
    intro m i next hi hm h1 h2
    obtain ⟨m, rfl⟩ : ∃ q, m = q + 1 := ⟨m - 1, by omega⟩
    refine ⟨next, h2, ?_⟩
    rw [← key142 next (fun y hy => h1 y (by omega)) sz F 0 now (by omega) (by omega) (fun y hy => by omega) (fun y hy => (hn y).2 hy)]
    show s_zcomesTo_53 F (nI sz) nn (nI p) (nF T) k31 k41 (b_zcomesTo_53 F (nI sz) nn (nI p) (nF T) k31 k41 m) eI (nI v) (nI t) (nI i) (nF now) (nF next) = _
    unfold s_zcomesTo_53
    rw [if_pos (nI_le (by omega) (by omega))]
    rfl
  | succ d ih =>
    intro m i next hi hm h1 h2
    obtain ⟨m, rfl⟩ : ∃ q, m = q + 1 := ⟨m - 1, by omega⟩
    have h68 := p_zct68 (F := F) (nn := nn) (k31 := k31) (k41 := k41) (k53 := b_zcomesTo_53 F (nI sz) nn (nI p) (nF T) k31 k41 m) (eI := eI) (tI := nI t) (next := next) hp hp2 hsz hTl h4 hv (show i < sz by omega) (fun j _ => (hn j).1) sz F 0 (by omega) (by omega)
    have step : b_zcomesTo_53 F (nI sz) nn (nI p) (nF T) k31 k41 (m + 1) eI (nI v) (nI t) (nI i) (nF now) (nF next) = b_zcomesTo_53 F (nI sz) nn (nI p) (nF T) k31 k41 m eI (nI v) (nI t) (nI (i + 1)) (nF now) (nF (fun y => if y = i then sm sz (fun q => now q * tP T v q i) % p else next y)) := by
      rw [← h68]
      show s_zcomesTo_53 F (nI sz) nn (nI p) (nF T) k31 k41 (b_zcomesTo_53 F (nI sz) nn (nI p) (nF T) k31 k41 m) eI (nI v) (nI t) (nI i) (nF now) (nF next) = _
      unfold s_zcomesTo_53
      rw [if_neg (nI_ge (by omega) (by omega)), show sm 0 (fun q => now q * tP T v q i) % p = 0 from Nat.zero_mod p]
      rfl
    rw [step]
    refine ih m (i + 1) _ (by omega) (by omega) (fun y hy => ?_) (fun y hy => ?_)
    · show (if y = i then _ else next y) = _
      by_cases q : y = i
      · rw [if_pos q, q]; unfold mvP; rw [if_pos (by omega)]
      · rw [if_neg q]; exact h1 y (by omega)
    · show (if y = i then _ else next y) = 0
      rw [if_neg (by omega)]; exact h2 y hy
/-- what the variables before v make -/
def pnf (p sz : Nat) (T : Nat → Nat) (c : Nat) : Nat → (Nat → Nat)
  | 0 => e1P
  | v + 1 => itP p sz T v (exN c v) (pnf p sz T c v)
theorem pnf_vc (hp : 2 ≤ p) (h0 : 0 < sz) (c : Nat) : ∀ v, Vc p sz (pnf p sz T c v)
  | 0 => e1P_vc hp h0
  | v + 1 => itP_vc (by omega) _ (pnf_vc hp h0 c v) _
theorem pnf_n {c : Nat} (hz : ∀ u, n ≤ u → u < 4 → exN c u = 0) (h1 : 1 ≤ n) (h4 : n ≤ 4) : pnf p sz T c n = nfP p sz T c := by
  have e4 : pnf p sz T c 4 = nfP p sz T c := rfl
  rcases (show n = 1 ∨ n = 2 ∨ n = 3 ∨ n = 4 by omega) with q | q | q | q <;> subst q
  · rw [← e4]
    show _ = itP p sz T 3 (exN c 3) (itP p sz T 2 (exN c 2) (itP p sz T 1 (exN c 1) (pnf p sz T c 1)))
    rw [hz 1 (by decide) (by decide), hz 2 (by decide) (by decide), hz 3 (by decide) (by decide)]
    rfl
  · rw [← e4]
    show _ = itP p sz T 3 (exN c 3) (itP p sz T 2 (exN c 2) (pnf p sz T c 2))
    rw [hz 2 (by decide) (by decide), hz 3 (by decide) (by decide)]
    rfl
  · rw [← e4]
    show _ = itP p sz T 3 (exN c 3) (pnf p sz T c 3)
    rw [hz 3 (by decide) (by decide)]
    rfl
  · exact e4
theorem p_zct41 (hF : 200 < F) (hp : 2 ≤ p) (hp2 : p ≤ 32003) (hsz : sz ≤ 40) (hTl : ∀ v k i, v < n → k < sz → i < sz → T (1600 * v + 40 * k + i) < p) (h4 : n ≤ 4) {nn : Int32} {k31} {c v : Nat} (hc : c < 2 ^ 32) (hv : v < n) {a : Nat → Nat} (ha : Vc p sz a) : ∀ (d m t : Nat) (next : Nat → Nat), t + d = exN c v → d < m → (∀ y, 40 ≤ y → next y = 0) →
    ∃ next', (∀ y, 40 ≤ y → next' y = 0) ∧ b_zcomesTo_41 F (nI sz) nn (nI p) (nF T) k31 m (nI c) (nI v) (nI t) (nF (itP p sz T v t a)) (nF next) = k31 (nI c) (nI (v + 1)) (nF (itP p sz T v (exN c v) a)) (nF next') := by
  have hlt := exN_lt c v
  intro d
  induction d with
  | zero =>
    intro m t next ht hm h2
    obtain ⟨m, rfl⟩ : ∃ q, m = q + 1 := ⟨m - 1, by omega⟩
    refine ⟨next, h2, ?_⟩
    show s_zcomesTo_41 F (nI sz) nn (nI p) (nF T) k31 (b_zcomesTo_41 F (nI sz) nn (nI p) (nF T) k31 m) (nI c) (nI v) (nI t) _ (nF next) = _
    unfold s_zcomesTo_41
    rw [p_zexponent F hc (by omega), bd1_n, if_pos (nI_le (by omega) (by omega)), show nI v + 1 = nI (v + 1) from nI_add v 1, show t = exN c v by omega]
  | succ d ih =>
    intro m t next ht hm h2
    obtain ⟨m, rfl⟩ : ∃ q, m = q + 1 := ⟨m - 1, by omega⟩
    obtain ⟨nx1, a1, a2⟩ := p_zct53 (F := F) (nn := nn) (k31 := k31) (k41 := b_zcomesTo_41 F (nI sz) nn (nI p) (nF T) k31 m) (eI := nI c) (t := t) hF hp hp2 hsz hTl h4 hv (itP_vc (T := T) (by omega) v ha t) sz F 0 next (by omega) (by omega) (fun y hy => by omega) h2
    obtain ⟨nx2, b1, b2⟩ := ih m (t + 1) nx1 (by omega) (by omega) a1
    refine ⟨nx2, b1, ?_⟩
    rw [← b2]
    show s_zcomesTo_41 F (nI sz) nn (nI p) (nF T) k31 (b_zcomesTo_41 F (nI sz) nn (nI p) (nF T) k31 m) (nI c) (nI v) (nI t) _ (nF next) = _
    unfold s_zcomesTo_41
    rw [p_zexponent F hc (by omega), bd1_n, if_neg (nI_ge (by omega) (by omega))]
    exact a2
theorem p_zcomesTo (hF : 300 < F) (hp : 2 ≤ p) (hp2 : p ≤ 32003) (hsz : sz ≤ 40) (h0 : 0 < sz) (hTl : ∀ v k i, v < n → k < sz → i < sz → T (1600 * v + 40 * k + i) < p) (h1 : 1 ≤ n) (h4 : n ≤ 4) {c : Nat} (hc : Cd n c) {now next : Nat → Nat} (hnow : ∀ y, 40 ≤ y → now y = 0) (hnext : ∀ y, 40 ≤ y → next y = 0) :
    ∃ next', (∀ y, 40 ≤ y → next' y = 0) ∧ m_zcomesTo F (nI sz) (nI n) (nI p) (nF T) (nI c) (nF now) (nF next) = some (nF (nfP p sz T c), nF next') := by
  have key31 : ∀ (d m v : Nat) (next : Nat → Nat), v + d = n → d < m → (∀ y, 40 ≤ y → next y = 0) → ∃ next', (∀ y, 40 ≤ y → next' y = 0) ∧ b_zcomesTo_31 F (nI sz) (nI n) (nI p) (nF T) m (nI c) (nI v) (nF (pnf p sz T c v)) (nF next) = some (nF (nfP p sz T c), nF next') := by
    intro d
    induction d with
    | zero =>
      intro m v next hv hm h2
      obtain ⟨m, rfl⟩ : ∃ q, m = q + 1 := ⟨m - 1, by omega⟩
      refine ⟨next, h2, ?_⟩
      have e : v = n := by omega
      subst e
      show s_zcomesTo_31 F (nI sz) (nI v) (nI p) (nF T) (b_zcomesTo_31 F (nI sz) (nI v) (nI p) (nF T) m) (nI c) (nI v) _ (nF next) = _
      unfold s_zcomesTo_31
      rw [if_pos (nI_le (by omega) (by omega)), pnf_n hc.2 h1 h4]
    | succ d ih =>
      intro m v next hv hm h2
      obtain ⟨m, rfl⟩ : ∃ q, m = q + 1 := ⟨m - 1, by omega⟩
      obtain ⟨nx1, a1, a2⟩ := p_zct41 (F := F) (nn := nI n) (k31 := b_zcomesTo_31 F (nI sz) (nI n) (nI p) (nF T) m) (by omega) hp hp2 hsz hTl h4 hc.1 (show v < n by omega) (pnf_vc (T := T) hp h0 c v) (exN c v) F 0 next (by omega) (by have := exN_lt c v; omega) h2
      obtain ⟨nx2, b1, b2⟩ := ih m (v + 1) nx1 (by omega) (by omega) a1
      refine ⟨nx2, b1, ?_⟩
      rw [← b2]
      show s_zcomesTo_31 F (nI sz) (nI n) (nI p) (nF T) (b_zcomesTo_31 F (nI sz) (nI n) (nI p) (nF T) m) (nI c) (nI v) _ (nF next) = _
      unfold s_zcomesTo_31
      rw [if_neg (nI_ge (by omega) (by omega))]
      exact a2
  have key2 : ∀ (d m j : Nat) (now : Nat → Nat), j + d = 40 → d < m → (∀ y, y < j → now y = e1P y) → (∀ y, 40 ≤ y → now y = 0) → b_zcomesTo_2 F (nI sz) (nI n) (nI p) (nF T) m (nI c) (nI j) (nF now) (nF next) = b_zcomesTo_31 F (nI sz) (nI n) (nI p) (nF T) F (nI c) (nI 0) (nF e1P) (nF next) := by
    intro d
    induction d with
    | zero =>
      intro m j now hj hm h1 h2
      obtain ⟨m, rfl⟩ : ∃ q, m = q + 1 := ⟨m - 1, by omega⟩
      have e : now = e1P := by
        funext y
        by_cases q : y < 40
        · exact h1 y (by omega)
        · rw [h2 y (by omega)]; unfold e1P; rw [if_neg (by omega)]
      show s_zcomesTo_2 F (nI sz) (nI n) (nI p) (nF T) (b_zcomesTo_2 F (nI sz) (nI n) (nI p) (nF T) m) (nI c) (nI j) (nF now) (nF next) = _
      unfold s_zcomesTo_2
      rw [if_pos (show (40 : Int32) ≤ nI j from nI_le (show 40 ≤ j by omega) (by omega)), e]
      rfl
    | succ d ih =>
      intro m j now hj hm h1 h2
      obtain ⟨m, rfl⟩ : ∃ q, m = q + 1 := ⟨m - 1, by omega⟩
      have step : b_zcomesTo_2 F (nI sz) (nI n) (nI p) (nF T) (m + 1) (nI c) (nI j) (nF now) (nF next) = b_zcomesTo_2 F (nI sz) (nI n) (nI p) (nF T) m (nI c) (nI (j + 1)) (nF (fun y => if y = j then e1P j else now y)) (nF next) := by
        show s_zcomesTo_2 F (nI sz) (nI n) (nI p) (nF T) (b_zcomesTo_2 F (nI sz) (nI n) (nI p) (nF T) m) (nI c) (nI j) (nF now) (nF next) = _
        unfold s_zcomesTo_2
        rw [if_neg (show ¬ (40 : Int32) ≤ nI j from nI_ge (show j < 40 by omega) (by decide))]
        have e22 : ∀ x : Nat, s_zcomesTo_22 F (nI sz) (nI n) (nI p) (nF T) (b_zcomesTo_2 F (nI sz) (nI n) (nI p) (nF T) m) (nI c) (nI j) (nI j) (nI x) (nF now) (nF next) = b_zcomesTo_2 F (nI sz) (nI n) (nI p) (nF T) m (nI c) (nI (j + 1)) (nF (fun y => if y = j then x else now y)) (nF next) := by
          intro x
          unfold s_zcomesTo_22
          rw [wrI_n (by omega) (by decide), upd_nF, show nI j + 1 = nI (j + 1) from nI_add j 1]
        by_cases q : j = 0
        · rw [if_pos (show nI j = 0 by rw [q]; rfl), show (1 : Int32) = nI 1 from rfl, e22, show e1P j = 1 by unfold e1P; rw [if_pos q]]
        · rw [if_neg (show ¬ nI j = 0 from nI_ne0 (by omega) (by omega)), show (0 : Int32) = nI 0 from rfl, e22, show e1P j = 0 by unfold e1P; rw [if_neg q]]
      rw [step]
      refine ih m (j + 1) _ (by omega) (by omega) (fun y hy => ?_) (fun y hy => ?_)
      · show (if y = j then e1P j else now y) = _
        by_cases q : y = j
        · rw [if_pos q, q]
        · rw [if_neg q]; exact h1 y (by omega)
      · show (if y = j then e1P j else now y) = 0
        rw [if_neg (by omega)]; exact h2 y hy
  obtain ⟨nx, a, b⟩ := key31 n F 0 next (by omega) (by omega) hnext
  refine ⟨nx, a, ?_⟩
  rw [← b]
  exact key2 40 F 0 now (by omega) (by omega) (fun y hy => by omega) hnow
end ZCOMES
