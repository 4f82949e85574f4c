/-! THE REFERENCE'S PRODUCTS: findProduct. -/
section ZFILL
variable {F p n ord sz : Nat} {cg g bs : Nat → Nat} {l : List Nat}
theorem p_zp300 (hp : 2 ≤ p) (hp2 : p ≤ 32003) (hsz : sz ≤ 40) {mI : Int32} {mo_ row_ bs_ rst kn : Nat → Int32} {k266} {v to u k' j c : Nat} (hu : u < 4) (hj : j < 40) (hto : to + 40 ≤ 6400) (hc : c < p) (hc0 : 0 < c) {A : Nat → Nat} (hA : ∀ x, to ≤ x → x < to + sz → A x < p) (hd : to + 40 ≤ 1600 * u + 40 * j ∨ 1600 * u + 40 * j + 40 ≤ to) (hTu : ∀ i, i < sz → A (1600 * u + 40 * j + i) < p) : ∀ (d m i : Nat), i + d = sz → d < m →
    b_zfindProduct_300 F (nI sz) mI (nI p) mo_ row_ bs_ rst k266 m (nI v) (nI to) (nI u) (nI k') (nI j) (lN c) (nI i) (nF (fun x => if to ≤ x ∧ x < to + i then (A x + c * A (1600 * u + 40 * j + (x - to))) % p else A x)) kn = k266 (nI v) (nI to) (nI u) (nI k') (nI (j + 1)) (nF (fun x => if to ≤ x ∧ x < to + sz then (A x + c * A (1600 * u + 40 * j + (x - to))) % p else A x)) kn := by
  intro d
  induction d with
  | zero =>
    intro m i hi hm
    obtain ⟨m, rfl⟩ : ∃ q, m = q + 1 := ⟨m - 1, by omega⟩
    have e : i = sz := by omega
    subst e
    show s_zfindProduct_300 F (nI i) mI (nI p) mo_ row_ bs_ rst k266 (b_zfindProduct_300 F (nI i) mI (nI p) mo_ row_ bs_ rst k266 m) (nI v) (nI to) (nI u) (nI k') (nI j) (lN c) (nI i) _ kn = _
    unfold s_zfindProduct_300
    rw [if_pos (nI_le (by omega) (by omega)), show nI j + 1 = nI (j + 1) from nI_add j 1]
  | succ d ih =>
    intro m i hi hm
    obtain ⟨m, rfl⟩ : ∃ q, m = q + 1 := ⟨m - 1, by omega⟩
    have x1 := hA (to + i) (by omega) (by omega)
    have x2 := hTu i (by omega)
    have hm2 : c * A (1600 * u + 40 * j + i) ≤ 32003 * 32003 := Nat.mul_le_mul (by omega) (by omega)
    show s_zfindProduct_300 F (nI sz) mI (nI p) mo_ row_ bs_ rst k266 (b_zfindProduct_300 F (nI sz) mI (nI p) mo_ row_ bs_ rst k266 m) (nI v) (nI to) (nI u) (nI k') (nI j) (lN c) (nI i) _ kn = _
    unfold s_zfindProduct_300
    rw [if_neg (nI_ge (by omega) (by omega)), if_neg (show ¬ lg_cmp (lN c) 0 ≤ 0 from fun z => by have := (cmp_le (a := c) (b := 0) (by omega) (by decide)).mp z; omega), nI_add, rdI_n (by omega) (by decide), show (1600 : Int32) * nI u = nI (1600 * u) from pk_mul 1600 u, show (40 : Int32) * nI j = nI (40 * j) from pk_mul 40 j, nI_add, nI_add, rdI_n (by omega) (by decide), nI_l (by omega), nzL_n (by omega) (by omega)]
    show wrI 6400 _ (nI (to + i)) ((remL ((nI (if to ≤ to + i ∧ to + i < to + i then (A (to + i) + c * A (1600 * u + 40 * j + (to + i - to))) % p else A (to + i))).toInt64 + lN c * (nI (if to ≤ 1600 * u + 40 * j + i ∧ 1600 * u + 40 * j + i < to + i then (A (1600 * u + 40 * j + i) + c * A (1600 * u + 40 * j + (1600 * u + 40 * j + i - to))) % p else A (1600 * u + 40 * j + i))).toInt64) (lN p)).toInt32) _ = _
    rw [if_neg (by omega), if_neg (by omega), nI_l (by omega), nI_l (by omega), lN_mul, lN_add, remL_n (by omega) (by omega) (by omega), lN_i, wrI_n (by omega) (by decide), upd_nF, show nI i + 1 = nI (i + 1) from nI_add i 1]
    have e : (fun x => if x = to + i then (A (to + i) + c * A (1600 * u + 40 * j + i)) % p else (if to ≤ x ∧ x < to + i then (A x + c * A (1600 * u + 40 * j + (x - to))) % p else A x)) = (fun x => if to ≤ x ∧ x < to + (i + 1) then (A x + c * A (1600 * u + 40 * j + (x - to))) % p else A x) := by
      funext x
      by_cases q : x = to + i
      · rw [if_pos q, if_pos (by omega), q, show to + i - to = i by omega]
      · rw [if_neg q]
        by_cases y : to ≤ x ∧ x < to + i
        · rw [if_pos y, if_pos (by omega)]
        · rw [if_neg y, if_neg (by omega)]
    rw [e]
    exact ih m (i + 1) (by omega) (by omega)
theorem p_zp266 (hF : 200 < F) (hp : 2 ≤ p) (hp2 : p ≤ 32003) (hsz : sz ≤ 40) {mI : Int32} {mo_ row_ bs_ rst kn : Nat → Int32} {T : Nat → Nat} {v to u k' : Nat} (hu : u < 4) (hto : to + 40 ≤ 6400) (hfr : 1600 * v + 40 * k' + 40 ≤ 6400) (hd : to + 40 ≤ 1600 * v + 40 * k' ∨ 1600 * v + 40 * k' + 40 ≤ to) (hTf : ∀ q, q < sz → T (1600 * v + 40 * k' + q) < p)
    (hTu : ∀ q, q < sz → T (1600 * v + 40 * k' + q) ≠ 0 → (to + 40 ≤ 1600 * u + 40 * q ∨ 1600 * u + 40 * q + 40 ≤ to) ∧ ∀ i, i < sz → T (1600 * u + 40 * q + i) < p) : ∀ (d m j : Nat), j + d = sz → d < m →
    b_zfindProduct_266 F (nI sz) mI (nI p) mo_ row_ bs_ rst m (nI v) (nI to) (nI u) (nI k') (nI j) (nF (acT p sz T to (1600 * v + 40 * k') u j)) kn = some (nF (acT p sz T to (1600 * v + 40 * k') u sz), kn) := by
  intro d
  induction d with
  | zero =>
    intro m j hj hm
    obtain ⟨m, rfl⟩ : ∃ q, m = q + 1 := ⟨m - 1, by omega⟩
    have e : j = sz := by omega
    subst e
    show s_zfindProduct_266 F (nI j) mI (nI p) mo_ row_ bs_ rst (b_zfindProduct_266 F (nI j) mI (nI p) mo_ row_ bs_ rst m) (nI v) (nI to) (nI u) (nI k') (nI j) _ kn = _
    unfold s_zfindProduct_266
    rw [if_pos (nI_le (by omega) (by omega))]
  | succ d ih =>
    intro m j hj hm
    obtain ⟨m, rfl⟩ : ∃ q, m = q + 1 := ⟨m - 1, by omega⟩
    have e0 : acT p sz T to (1600 * v + 40 * k') u j (1600 * v + 40 * k' + j) = T (1600 * v + 40 * k' + j) := by unfold acT; rw [if_neg (by omega)]
    have hlt := hTf j (by omega)
    show s_zfindProduct_266 F (nI sz) mI (nI p) mo_ row_ bs_ rst (b_zfindProduct_266 F (nI sz) mI (nI p) mo_ row_ bs_ rst m) (nI v) (nI to) (nI u) (nI k') (nI j) _ kn = _
    unfold s_zfindProduct_266
    rw [if_neg (nI_ge (by omega) (by omega)), show (1600 : Int32) * nI v = nI (1600 * v) from pk_mul 1600 v, show (40 : Int32) * nI k' = nI (40 * k') from pk_mul 40 k', nI_add, nI_add, rdI_n (by omega) (by decide)]
    show b_zfindProduct_300 F (nI sz) mI (nI p) mo_ row_ bs_ rst (b_zfindProduct_266 F (nI sz) mI (nI p) mo_ row_ bs_ rst m) F (nI v) (nI to) (nI u) (nI k') (nI j) (nI (acT p sz T to (1600 * v + 40 * k') u j (1600 * v + 40 * k' + j))).toInt64 (nI 0) _ kn = _
    rw [e0, nI_l (by omega)]
    by_cases z : T (1600 * v + 40 * k' + j) = 0
    · have e : acT p sz T to (1600 * v + 40 * k') u j = acT p sz T to (1600 * v + 40 * k') u (j + 1) := by
        unfold acT
        funext x
        rw [sm_s, z, Nat.zero_mul, Nat.add_zero]
      rw [z, e]
      obtain ⟨F', rfl⟩ : ∃ t, F = t + 1 := ⟨F - 1, by omega⟩
      show s_zfindProduct_300 (F' + 1) (nI sz) mI (nI p) mo_ row_ bs_ rst (b_zfindProduct_266 (F' + 1) (nI sz) mI (nI p) mo_ row_ bs_ rst m) (b_zfindProduct_300 (F' + 1) (nI sz) mI (nI p) mo_ row_ bs_ rst (b_zfindProduct_266 (F' + 1) (nI sz) mI (nI p) mo_ row_ bs_ rst m) F') (nI v) (nI to) (nI u) (nI k') (nI j) (lN 0) (nI 0) _ kn = _
      unfold s_zfindProduct_300
      rw [if_neg (nI_ge (by omega) (by omega)), if_pos (show lg_cmp (lN 0) 0 ≤ 0 from (cmp_le (a := 0) (b := 0) (by decide) (by decide)).mpr (Nat.le_refl _)), show nI j + 1 = nI (j + 1) from nI_add j 1]
      exact ih m (j + 1) (by omega) (by omega)
    · obtain ⟨c1, c2⟩ := hTu j (by omega) z
      have e1 : ∀ i, i < sz → acT p sz T to (1600 * v + 40 * k') u j (1600 * u + 40 * j + i) = T (1600 * u + 40 * j + i) := fun i hi => by unfold acT; rw [if_neg (by omega)]
      have h3 := p_zp300 (F := F) (mI := mI) (mo_ := mo_) (row_ := row_) (bs_ := bs_) (rst := rst) (kn := kn) (k266 := b_zfindProduct_266 F (nI sz) mI (nI p) mo_ row_ bs_ rst m) (v := v) (k' := k') hp hp2 hsz hu (show j < 40 by omega) hto hlt (by omega) (A := acT p sz T to (1600 * v + 40 * k') u j) (fun x h1 h2 => by unfold acT; rw [if_pos ⟨h1, h2⟩]; exact Nat.mod_lt _ (by omega)) c1 (fun i hi => by rw [e1 i hi]; exact c2 i hi) sz F 0 (by omega) (by omega)
      have e2 : (fun x => if to ≤ x ∧ x < to + 0 then (acT p sz T to (1600 * v + 40 * k') u j x + T (1600 * v + 40 * k' + j) * acT p sz T to (1600 * v + 40 * k') u j (1600 * u + 40 * j + (x - to))) % p else acT p sz T to (1600 * v + 40 * k') u j x) = acT p sz T to (1600 * v + 40 * k') u j := by
        funext x
        rw [if_neg (by omega)]
      rw [e2] at h3
      rw [h3]
      have e : (fun x => if to ≤ x ∧ x < to + sz then (acT p sz T to (1600 * v + 40 * k') u j x + T (1600 * v + 40 * k' + j) * acT p sz T to (1600 * v + 40 * k') u j (1600 * u + 40 * j + (x - to))) % p else acT p sz T to (1600 * v + 40 * k') u j x) = acT p sz T to (1600 * v + 40 * k') u (j + 1) := by
        funext x
        by_cases hx : to ≤ x ∧ x < to + sz
        · rw [if_pos hx, e1 (x - to) (by omega)]
          unfold acT
          rw [if_pos hx, if_pos hx, sm_s, Nat.mod_add_mod]
        · rw [if_neg hx]
          unfold acT
          rw [if_neg hx, if_neg hx]
      rw [e]
      exact ih m (j + 1) (by omega) (by omega)
theorem p_zp201 {rb : Nat → Nat → Nat} (hF : 200 < F) (h : Rm p n ord cg l sz g rb) (hA : Arr l bs) (hl : l.length ≤ 126) {row_ kn : Nat → Int32} {T : Nat → Nat} {v k : Nat} (hv : v < n) (hk : k < sz) (h1 : ∀ j, j < sz → g j ≠ g k + 2 ^ (24 - 8 * v)) (h2 : ∀ b ∈ l, cg b ≠ g k + 2 ^ (24 - 8 * v))
    (hless : ∀ v' k', v' < n → k' < sz → pK ord g v' k' < pK ord g v k → PrB p ord sz g T v' k') (h0 : ∀ i, i < sz → T (1600 * v + 40 * k + i) = 0) : ∀ (d m u : Nat), u + d = n → d < m → (∀ w, w < u → ¬ (0 < exN (g k) w ∧ ∀ j, j < sz → g j ≠ g k - 2 ^ (24 - 8 * w) + 2 ^ (24 - 8 * v))) →
    ∃ T', b_zfindProduct_201 F (nI sz) (nI l.length) (nI p) (nF cg) row_ (nF bs) (nF g) m (nI v) (nI k) (nI (g k + 2 ^ (24 - 8 * v))) (nI (1600 * v + 40 * k)) (nI u) (nF T) kn = some (nF T', kn) ∧ (∀ x, ¬ (1600 * v + 40 * k ≤ x ∧ x < 1600 * v + 40 * k + 40) → T' x = T x) ∧ PrR p n sz cg g l rb T' v k ∧ PrB p ord sz g T' v k := by
  have hn4 := h.n4
  have hsz := h.sz40
  have hp2 := h.p2
  have hp3 := h.p3
  have hct := h.ct
  have hb2 : ∀ b ∈ l, b < 126 ∧ cg b < 2 ^ 32 := fun b hb => ⟨by have := h.bl b hb; omega, (h.tin b (h.bl b hb)).1⟩
  intro d
  induction d with
  | zero =>
    intro m u hu hm hno
    exfalso
    obtain ⟨w, w1, w2, w3, w4⟩ := h.some_u hk hv h1 h2
    exact hno w (by omega) ⟨w3, w4⟩
  | succ d ih =>
    intro m u hu hm hno
    obtain ⟨m, rfl⟩ : ∃ q, m = q + 1 := ⟨m - 1, by omega⟩
    have hu4 : u < 4 := by omega
    have hv4 : v < 4 := by omega
    have hgk := h.glt hk
    have hex := h.gex hk hu4
    have hnext : ∀ (hc : ¬ (0 < exN (g k) u ∧ ∀ j, j < sz → g j ≠ g k - 2 ^ (24 - 8 * u) + 2 ^ (24 - 8 * v))), ∀ w, w < u + 1 → ¬ (0 < exN (g k) w ∧ ∀ j, j < sz → g j ≠ g k - 2 ^ (24 - 8 * w) + 2 ^ (24 - 8 * v)) := by
      intro hc w hw
      by_cases y : w = u
      · rw [y]; exact hc
      · exact hno w (by omega)
    show ∃ T', s_zfindProduct_201 F (nI sz) (nI l.length) (nI p) (nF cg) row_ (nF bs) (nF g) (b_zfindProduct_201 F (nI sz) (nI l.length) (nI p) (nF cg) row_ (nF bs) (nF g) m) (nI v) (nI k) (nI (g k + 2 ^ (24 - 8 * v))) (nI (1600 * v + 40 * k)) (nI u) (nF T) kn = _ ∧ _
    unfold s_zfindProduct_201
    rw [rdI_n (by omega) (by decide)]
    show ∃ T', bd1 (m_zexponent F (nI (g k)) (nI u)) _ = _ ∧ _
    rw [p_zexponent F hgk hu4, bd1_n, show nI u + 1 = nI (u + 1) from nI_add u 1]
    by_cases hex0 : exN (g k) u = 0
    · rw [if_pos (show nI (exN (g k) u) = 0 by rw [hex0]; rfl)]
      exact ih m (u + 1) (by omega) (by omega) (hnext (fun q => by omega))
    · rw [if_neg (show ¬ nI (exN (g k) u) = 0 from nI_ne0 (by omega) (by omega))]
      obtain ⟨s1, s2⟩ := sub_var hgk hu4 (show 0 < exN (g k) u by omega)
      obtain ⟨k', c1, c2, c3⟩ := h.down hk hu4 (show 0 < exN (g k) u by omega)
      have eM : g k + 2 ^ (24 - 8 * v) - 2 ^ (24 - 8 * u) = g k' + 2 ^ (24 - 8 * v) := by rw [c2]; exact Nat.sub_add_comm s1
      rw [sh_var u hu4, pk_sub (Nat.le_trans s1 (Nat.le_add_right _ _)), eM, p_zleading hF (h.up_lt c1 hv4) hA hl hb2, bd1_n]
      have hiff : hlN cg l (g k' + 2 ^ (24 - 8 * v)) = 0 ↔ ∃ j, j < sz ∧ g j = g k - 2 ^ (24 - 8 * u) + 2 ^ (24 - 8 * v) := by
        rw [← c2]
        constructor
        · intro q; exact h.nl.mp ⟨h.up_lt c1 hv4, h.up_z c1 hv, q⟩
        · intro q; exact (h.nl.mpr q).2.2
      rcases hlN_le cg l (g k' + 2 ^ (24 - 8 * v)) with q | q
      · obtain ⟨j, j1, j2⟩ := hiff.mp q
        rw [q, if_pos (show nI 0 = 0 from rfl)]
        exact ih m (u + 1) (by omega) (by omega) (hnext (fun q => q.2 j j1 j2))
      · have hpl2 : ∀ j, j < sz → g j ≠ g k - 2 ^ (24 - 8 * u) + 2 ^ (24 - 8 * v) := fun j hj y => by have := hiff.mpr ⟨j, hj, y⟩; omega
        have hFu : Fu n sz g v k u := ⟨by omega, by omega, hpl2, hno⟩
        rw [q, if_neg (show ¬ nI 1 = 0 by decide +kernel), rdI_n (by omega) (by decide)]
        show ∃ T', bd1 (m_zrestOf F (nI sz) (nF g) (nI (g k) - nI (2 ^ (24 - 8 * u)))) _ = _ ∧ _
        rw [pk_sub s1, p_zrestR (by omega) hsz (by rw [← c2]; exact h.glt c1) (fun j hj => h.glt hj) h.ginj, bd1_n, rkI_first h.ginj c1 c2]
        obtain ⟨f1, f2, f3, f4, f5⟩ := fill3 h hv hk h1 h2 hFu c1 c3 hless
        have e : T = acT p sz T (1600 * v + 40 * k) (1600 * v + 40 * k') u 0 := by
          funext x
          unfold acT
          by_cases hx : 1600 * v + 40 * k ≤ x ∧ x < 1600 * v + 40 * k + sz
          · rw [if_pos hx]
            have := h0 (x - (1600 * v + 40 * k)) (by omega)
            rw [show 1600 * v + 40 * k + (x - (1600 * v + 40 * k)) = x by omega] at this
            rw [this]
            exact (Nat.zero_mod p).symm
          · rw [if_neg hx]
        have h266 := p_zp266 (F := F) (mI := nI l.length) (mo_ := nF cg) (row_ := row_) (bs_ := nF bs) (rst := nF g) (kn := kn) hF hp2 hp3 hsz hu4 (show 1600 * v + 40 * k + 40 ≤ 6400 by omega) (show 1600 * v + 40 * k' + 40 ≤ 6400 by omega) f4 f3 f5 sz F 0 (by omega) (by omega)
        rw [← e] at h266
        refine ⟨_, h266, fun x hx => ?_, f1, f2⟩
        unfold acT
        rw [if_neg (by omega)]
theorem p_zp122 {R : Nat → Nat} (hF : 200 < F) (h : Rm p n ord cg l sz g (rowC (ctN n) R)) (hA : Arr l bs) (hl : l.length ≤ 126) {mI : Int32} {kn : Nat → Int32} {T : Nat → Nat} {row q : Nat} (hq : q < l.length) (hrow : row + 40 ≤ 6400) : ∀ (d m i : Nat), i + d = bs q → d < m →
    b_zfindProduct_122 F (nI sz) mI (nI p) (nF cg) (nF R) (nF bs) (nF g) m (nI row) (nI q) (nI i) (nF (baT p n sz cg g (rowC (ctN n) R) T row (bs q) i)) kn = some (nF (baT p n sz cg g (rowC (ctN n) R) T row (bs q) (bs q)), kn) := by
  have hb : bs q ∈ l := (hA.mem _).mpr ⟨q, hq, rfl⟩
  have hbl := h.bl _ hb
  have hct := h.ct
  have hp3 := h.p3
  have hsz := h.sz40
  intro d
  induction d with
  | zero =>
    intro m i hi hm
    obtain ⟨m, rfl⟩ : ∃ q, m = q + 1 := ⟨m - 1, by omega⟩
    have e : i = bs q := by omega
    subst e
    show s_zfindProduct_122 F (nI sz) mI (nI p) (nF cg) (nF R) (nF bs) (nF g) (b_zfindProduct_122 F (nI sz) mI (nI p) (nF cg) (nF R) (nF bs) (nF g) m) (nI row) (nI q) (nI (bs q)) _ kn = _
    unfold s_zfindProduct_122
    rw [rdI_n (by omega) (by decide), if_pos (show nF bs q ≤ nI (bs q) from nI_le (Nat.le_refl _) (by omega))]
  | succ d ih =>
    intro m i hi hm
    obtain ⟨m, rfl⟩ : ∃ q, m = q + 1 := ⟨m - 1, by omega⟩
    have hRe : rowC (ctN n) R (bs q) i = R (126 * bs q + i) := by unfold rowC; rw [if_pos (by omega)]
    have hRl := h.rlt _ hb i (by omega)
    rw [hRe] at hRl
    show s_zfindProduct_122 F (nI sz) mI (nI p) (nF cg) (nF R) (nF bs) (nF g) (b_zfindProduct_122 F (nI sz) mI (nI p) (nF cg) (nF R) (nF bs) (nF g) m) (nI row) (nI q) (nI i) _ kn = _
    unfold s_zfindProduct_122
    rw [rdI_n (by omega) (by decide), if_neg (show ¬ nF bs q ≤ nI i from nI_ge (by omega) (by omega)), rdI_n (by omega) (by decide)]
    show rdI 15876 (nF R) (126 * nI (bs q) + nI i) _ = _
    rw [show (126 : Int32) * nI (bs q) = nI (126 * bs q) from pk_mul 126 _, nI_add, rdI_n (by omega) (by decide), rdI_n (by omega) (by decide)]
    by_cases z : R (126 * bs q + i) = 0
    · rw [if_pos (show nF R (126 * bs q + i) = 0 by show nI (R (126 * bs q + i)) = 0; rw [z]; rfl), show nI i + 1 = nI (i + 1) from nI_add i 1, baT_same h (show i < ctN n by omega) (by rw [hRe]; exact z)]
      exact ih m (i + 1) (by omega) (by omega)
    · rw [if_neg (show ¬ nF R (126 * bs q + i) = 0 from nI_ne0 (by omega) (by omega))]
      obtain ⟨t, ht, e⟩ := h.nl.mp (h.rnl _ hb i (by omega) (by rw [hRe]; exact z))
      have hci := (h.tin i (by omega)).1
      show bd1 (m_zrestOf F (nI sz) (nF g) (nI (cg i))) _ = _
      rw [p_zrestR (by omega) hsz hci (fun j hj => h.glt hj) h.ginj, rkI_first h.ginj ht e, bd1_n, nI_add, wrI_n (by omega) (by decide), show nI i + 1 = nI (i + 1) from nI_add i 1]
      show b_zfindProduct_122 F (nI sz) mI (nI p) (nF cg) (nF R) (nF bs) (nF g) m (nI row) (nI q) (nI (i + 1)) (upd (nF (baT p n sz cg g (rowC (ctN n) R) T row (bs q) i)) (row + t) (nI p - nI (R (126 * bs q + i)))) kn = _
      rw [pk_sub (by omega), upd_nF]
      have e2 := baT_step h (T := T) (row := row) (b := bs q) (show i < ctN n by omega) ht e
      rw [hRe, Nat.mod_eq_of_lt (show p - R (126 * bs q + i) < p by omega)] at e2
      rw [e2]
      exact ih m (i + 1) (by omega) (by omega)
theorem p_zp94 (hA : Arr l bs) (hl : l.length ≤ 126) (hb : ∀ b ∈ l, b < 126 ∧ cg b < 2 ^ 32) {sI pI : Int32} {row_ rst kn T : Nat → Int32} {v k at_ c : Nat} (hc : c < 2 ^ 32) : ∀ (d m i : Nat), i + d = l.length → d < m → (∀ j, j < i → cg (bs j) ≠ c) →
    (∃ q, q < l.length ∧ cg (bs q) = c ∧ b_zfindProduct_94 F sI (nI l.length) pI (nF cg) row_ (nF bs) rst m (nI v) (nI k) (nI c) (nI at_) (nI i) T kn = b_zfindProduct_122 F sI (nI l.length) pI (nF cg) row_ (nF bs) rst F (nI at_) (nI q) (nI 0) T kn) ∨
    ((∀ b ∈ l, cg b ≠ c) ∧ b_zfindProduct_94 F sI (nI l.length) pI (nF cg) row_ (nF bs) rst m (nI v) (nI k) (nI c) (nI at_) (nI i) T kn = b_zfindProduct_201 F sI (nI l.length) pI (nF cg) row_ (nF bs) rst F (nI v) (nI k) (nI c) (nI at_) (nI 0) T kn) := by
  intro d
  induction d with
  | zero =>
    intro m i hi hm hno
    obtain ⟨m, rfl⟩ : ∃ q, m = q + 1 := ⟨m - 1, by omega⟩
    refine Or.inr ⟨fun b h1 h2 => ?_, ?_⟩
    · obtain ⟨q, hq, e⟩ := (hA.mem b).mp h1
      rw [← e] at h2
      exact hno q (by omega) h2
    · show s_zfindProduct_94 F sI (nI l.length) pI (nF cg) row_ (nF bs) rst (b_zfindProduct_94 F sI (nI l.length) pI (nF cg) row_ (nF bs) rst m) (nI v) (nI k) (nI c) (nI at_) (nI i) T kn = _
      unfold s_zfindProduct_94
      rw [if_pos (nI_le (by omega) (by omega))]
      rfl
  | succ d ih =>
    intro m i hi hm hno
    obtain ⟨m, rfl⟩ : ∃ q, m = q + 1 := ⟨m - 1, by omega⟩
    have hm2 : bs i ∈ l := (hA.mem _).mpr ⟨i, by omega, rfl⟩
    have hb2 := hb _ hm2
    have step : b_zfindProduct_94 F sI (nI l.length) pI (nF cg) row_ (nF bs) rst (m + 1) (nI v) (nI k) (nI c) (nI at_) (nI i) T kn = if cg (bs i) = c then b_zfindProduct_122 F sI (nI l.length) pI (nF cg) row_ (nF bs) rst F (nI at_) (nI i) (nI 0) T kn else b_zfindProduct_94 F sI (nI l.length) pI (nF cg) row_ (nF bs) rst m (nI v) (nI k) (nI c) (nI at_) (nI (i + 1)) T kn := by
      show s_zfindProduct_94 F sI (nI l.length) pI (nF cg) row_ (nF bs) rst (b_zfindProduct_94 F sI (nI l.length) pI (nF cg) row_ (nF bs) rst m) (nI v) (nI k) (nI c) (nI at_) (nI i) T kn = _
      unfold s_zfindProduct_94
      rw [if_neg (nI_ge (by omega) (by omega)), rdI_n (by omega) (by decide)]
      show rdI 126 (nF cg) (nI (bs i)) _ = _
      rw [rdI_n hb2.1 (by decide), show nI i + 1 = nI (i + 1) from nI_add i 1]
      by_cases e : cg (bs i) = c
      · rw [if_pos e, if_pos (by show nI (cg (bs i)) = nI c; rw [e])]
        rfl
      · rw [if_neg e, if_neg (show ¬ nF cg (bs i) = nI c from fun z => e (nI_inj32 hb2.2 hc z))]
    rw [step]
    by_cases e : cg (bs i) = c
    · rw [if_pos e]; exact Or.inl ⟨i, by omega, e, rfl⟩
    · rw [if_neg e]
      exact ih m (i + 1) (by omega) (by omega) (fun j hj => by
        by_cases q : j = i
        · rw [q]; exact e
        · exact hno j (by omega))
theorem p_zp32 {sI mI pI : Int32} {mo_ row_ bs_ rst kn : Nat → Int32} {v k at_ : Nat} {eI : Int32} (hat : at_ + 40 ≤ 6400) {T : Nat → Nat} : ∀ (d m i : Nat), i + d = 40 → d < m →
    b_zfindProduct_32 F sI mI pI mo_ row_ bs_ rst m (nI v) (nI k) eI (nI at_) (nI i) (nF (fun x => if at_ ≤ x ∧ x < at_ + i then 0 else T x)) kn = b_zfindProduct_32 F sI mI pI mo_ row_ bs_ rst 1 (nI v) (nI k) eI (nI at_) (nI 40) (nF (fun x => if at_ ≤ x ∧ x < at_ + 40 then 0 else T x)) kn := by
  intro d
  induction d with
  | zero =>
    intro m i hi hm
    obtain ⟨m, rfl⟩ : ∃ q, m = q + 1 := ⟨m - 1, by omega⟩
    have e : i = 40 := by omega
    subst e
    show s_zfindProduct_32 F sI mI pI mo_ row_ bs_ rst (b_zfindProduct_32 F sI mI pI mo_ row_ bs_ rst m) (nI v) (nI k) eI (nI at_) (nI 40) _ kn = s_zfindProduct_32 F sI mI pI mo_ row_ bs_ rst (b_zfindProduct_32 F sI mI pI mo_ row_ bs_ rst 0) (nI v) (nI k) eI (nI at_) (nI 40) _ kn
    unfold s_zfindProduct_32
    rw [if_pos (by decide +kernel), if_pos (by decide +kernel)]
  | succ d ih =>
    intro m i hi hm
    obtain ⟨m, rfl⟩ : ∃ q, m = q + 1 := ⟨m - 1, by omega⟩
    rw [← ih m (i + 1) (by omega) (by omega)]
    show s_zfindProduct_32 F sI mI pI mo_ row_ bs_ rst (b_zfindProduct_32 F sI mI pI mo_ row_ bs_ rst m) (nI v) (nI k) eI (nI at_) (nI i) _ kn = _
    unfold s_zfindProduct_32
    rw [if_neg (show ¬ (40 : Int32) ≤ nI i from nI_ge (show i < 40 by omega) (by decide)), nI_add, wrI_n (by omega) (by decide), show (0 : Int32) = nI 0 from rfl, upd_nF, show nI i + 1 = nI (i + 1) from nI_add i 1]
    have e : (fun x => if x = at_ + i then 0 else (if at_ ≤ x ∧ x < at_ + i then 0 else T x)) = (fun x => if at_ ≤ x ∧ x < at_ + (i + 1) then 0 else T x) := by
      funext x
      by_cases q : x = at_ + i
      · rw [if_pos q, if_pos (by omega)]
      · rw [if_neg q]
        by_cases y : at_ ≤ x ∧ x < at_ + i
        · rw [if_pos y, if_pos (by omega)]
        · rw [if_neg y, if_neg (by omega)]
    rw [e]
theorem p_zfindProduct {R : Nat → Nat} (hF : 40000 < F) (h : Rm p n ord cg l sz g (rowC (ctN n) R)) (hA : Arr l bs) (hl : l.length ≤ 126) {T kn : Nat → Nat} {v k : Nat} (hv : v < n) (hk : k < sz)
    (hless : ∀ v' k', v' < n → k' < sz → pK ord g v' k' < pK ord g v k → PrB p ord sz g T v' k') :
    ∃ T', m_zfindProduct F (nI sz) (nI l.length) (nI p) (nF cg) (nF R) (nF bs) (nF g) (nI v) (nI k) (nF T) (nF kn) = some (nF T', nF (fun x => if x = 40 * v + k then 1 else kn x)) ∧ (∀ x, ¬ (1600 * v + 40 * k ≤ x ∧ x < 1600 * v + 40 * k + 40) → T' x = T x) ∧ PrR p n sz cg g l (rowC (ctN n) R) T' v k ∧ PrB p ord sz g T' v k := by
  have hn4 := h.n4
  have hsz := h.sz40
  have hp2 := h.p2
  have hp3 := h.p3
  have hv4 : v < 4 := by omega
  have hlt := h.up_lt hk hv4
  have hct := h.ct
  have hb2 : ∀ b ∈ l, b < 126 ∧ cg b < 2 ^ 32 := fun b hb => ⟨by have := h.bl b hb; omega, (h.tin b (h.bl b hb)).1⟩
  have h32 := p_zp32 (F := F) (sI := nI sz) (mI := nI l.length) (pI := nI p) (mo_ := nF cg) (row_ := nF R) (bs_ := nF bs) (rst := nF g) (kn := nF kn) (v := v) (k := k) (at_ := 1600 * v + 40 * k) (eI := nI (g k + 2 ^ (24 - 8 * v))) (by omega) (T := T) 40 F 0 (by omega) (by omega)
  have e0 : (fun x => if 1600 * v + 40 * k ≤ x ∧ x < 1600 * v + 40 * k + 0 then 0 else T x) = T := by funext x; rw [if_neg (by omega)]
  rw [e0] at h32
  unfold m_zfindProduct
  rw [rdI_n (by omega) (by decide)]
  show ∃ T', b_zfindProduct_32 F (nI sz) (nI l.length) (nI p) (nF cg) (nF R) (nF bs) (nF g) F (nI v) (nI k) (nI (g k) + shlI 1 (24 - 8 * nI v)) (1600 * nI v + 40 * nI k) (nI 0) (nF T) (nF kn) = _ ∧ _
  rw [sh_var v hv4, nI_add, show (1600 : Int32) * nI v = nI (1600 * v) from pk_mul 1600 v, show (40 : Int32) * nI k = nI (40 * k) from pk_mul 40 k, nI_add, h32]
  generalize hT0 : (fun x => if 1600 * v + 40 * k ≤ x ∧ x < 1600 * v + 40 * k + 40 then 0 else T x) = T0
  have h00 : ∀ i, i < sz → T0 (1600 * v + 40 * k + i) = 0 := fun i hi => by rw [← hT0]; exact if_pos (by omega)
  have hout : ∀ x, ¬ (1600 * v + 40 * k ≤ x ∧ x < 1600 * v + 40 * k + 40) → T0 x = T x := fun x hx => by rw [← hT0]; exact if_neg hx
  have hless0 : ∀ v' k', v' < n → k' < sz → pK ord g v' k' < pK ord g v k → PrB p ord sz g T0 v' k' := by
    intro v' k' h1 h2 h3 j hj
    have hne : ¬ (v' = v ∧ k' = k) := fun ⟨z1, z2⟩ => by subst z1; subst z2; omega
    have : tP T0 v' k' j = tP T v' k' j := by
      unfold tP
      refine hout _ (fun q => hne ?_)
      omega
    rw [this]
    exact hless v' k' h1 h2 h3 j hj
  generalize hkn : (fun x => if x = 40 * v + k then 1 else kn x) = kn'
  show ∃ T', s_zfindProduct_32 F (nI sz) (nI l.length) (nI p) (nF cg) (nF R) (nF bs) (nF g) (b_zfindProduct_32 F (nI sz) (nI l.length) (nI p) (nF cg) (nF R) (nF bs) (nF g) 0) (nI v) (nI k) (nI (g k + 2 ^ (24 - 8 * v))) (nI (1600 * v + 40 * k)) (nI 40) (nF T0) (nF kn) = _ ∧ _
  unfold s_zfindProduct_32
  rw [if_pos (by decide +kernel), show (40 : Int32) * nI v = nI (40 * v) from pk_mul 40 v, nI_add, show vp_nar .boolean 1 = nI 1 from by decide +kernel, wrI_n (by omega) (by decide), upd_nF, hkn, p_zrestR (by omega) hsz hlt (fun j hj => h.glt hj) h.ginj, bd1_n]
  by_cases hpl : ∃ j, j < sz ∧ g j = g k + 2 ^ (24 - 8 * v)
  · obtain ⟨j, j1, j2⟩ := hpl
    rw [rkI_first h.ginj j1 j2, if_neg (show ¬ nI j < 0 from nI_nlt (show 0 ≤ j by omega) (by omega)), bd1_n, nI_add, wrI_n (by omega) (by decide), show (1 : Int32) = nI 1 from rfl, upd_nF]
    have eT : ∀ i, i < sz → tP (fun x => if x = 1600 * v + 40 * k + j then 1 else T0 x) v k i = if i = j then 1 else 0 := by
      intro i hi
      show (if 1600 * v + 40 * k + i = 1600 * v + 40 * k + j then 1 else T0 (1600 * v + 40 * k + i)) = _
      by_cases q : i = j
      · rw [if_pos q, if_pos (by rw [q])]
      · rw [if_neg q, if_neg (by omega)]; exact h00 i hi
    refine ⟨_, rfl, fun x hx => ?_, Or.inl ⟨j, j1, j2, eT⟩, fun i hi => ?_⟩
    · show (if x = _ then 1 else T0 x) = _
      rw [if_neg (by omega)]; exact hout x hx
    · rw [eT i hi]
      by_cases q : i = j
      · rw [if_pos q, q, j2]; exact ⟨by omega, fun _ => Nat.le_refl _⟩
      · rw [if_neg q]; exact ⟨by omega, fun z => absurd rfl z⟩
  · have hpl2 : ∀ j, j < sz → g j ≠ g k + 2 ^ (24 - 8 * v) := fun j hj q => hpl ⟨j, hj, q⟩
    rw [rkI_none (by omega) hpl2, if_pos (by decide)]
    rcases p_zp94 (F := F) (sI := nI sz) (pI := nI p) (row_ := nF R) (rst := nF g) (kn := nF kn') (T := nF T0) (v := v) (k := k) (at_ := 1600 * v + 40 * k) hA hl hb2 hlt l.length F 0 (by omega) (by omega) (fun j hj => by omega) with ⟨q, q1, q2, q3⟩ | ⟨b1, b2⟩
    · rw [show b_zfindProduct_94 F (nI sz) (nI l.length) (nI p) (nF cg) (nF R) (nF bs) (nF g) F (nI v) (nI k) (nI (g k + 2 ^ (24 - 8 * v))) (nI (1600 * v + 40 * k)) 0 (nF T0) (nF kn') = _ from q3]
      have hb : bs q ∈ l := (hA.mem _).mpr ⟨q, q1, rfl⟩
      have hbl := h.bl _ hb
      have e0 : T0 = baT p n sz cg g (rowC (ctN n) R) T0 (1600 * v + 40 * k) (bs q) 0 := by
        funext x
        unfold baT
        by_cases q : 1600 * v + 40 * k ≤ x ∧ x < 1600 * v + 40 * k + sz
        · rw [if_pos q, if_neg (Nat.not_lt_zero _)]
          have := h00 (x - (1600 * v + 40 * k)) (by omega)
          rw [show 1600 * v + 40 * k + (x - (1600 * v + 40 * k)) = x by omega] at this
          exact this
        · rw [if_neg q]
      have hfb := p_zp122 (F := F) (R := R) (mI := nI l.length) (kn := nF kn') (T := T0) (row := 1600 * v + 40 * k) (by omega) h hA hl q1 (by omega) (bs q) F 0 (by omega) (by omega)
      rw [← e0] at hfb
      have eT : ∀ i, i < sz → tP (baT p n sz cg g (rowC (ctN n) R) T0 (1600 * v + 40 * k) (bs q) (bs q)) v k i = tB p n cg (rowC (ctN n) R) (bs q) (g i) := by
        intro i hi
        unfold tP baT tB
        rw [if_pos (by omega), show 1600 * v + 40 * k + i - (1600 * v + 40 * k) = i by omega]
      refine ⟨_, hfb, fun x hx => ?_, Or.inr (Or.inl ⟨hpl2, bs q, hb, q2, eT⟩), fun i hi => ?_⟩
      · unfold baT
        rw [if_neg (by omega)]; exact hout x hx
      · rw [eT i hi]
        unfold tB
        by_cases y : rkN cg (g i) (ctN n) < bs q
        · rw [if_pos y]
          refine ⟨Nat.mod_lt _ (by omega), fun _ => ?_⟩
          have hc : cg (rkN cg (g i) (ctN n)) = g i := by
            rcases rkN_cases cg (g i) (ctN n) with ⟨_, y⟩ | ⟨y, _⟩
            · exact y
            · omega
          have := h.tkey _ (bs q) y hbl
          rw [hc, q2] at this
          omega
        · rw [if_neg y]; exact ⟨by omega, fun z => absurd rfl z⟩
    · rw [show b_zfindProduct_94 F (nI sz) (nI l.length) (nI p) (nF cg) (nF R) (nF bs) (nF g) F (nI v) (nI k) (nI (g k + 2 ^ (24 - 8 * v))) (nI (1600 * v + 40 * k)) 0 (nF T0) (nF kn') = _ from b2]
      obtain ⟨T', a1, a2, a3, a4⟩ := p_zp201 (F := F) (row_ := nF R) (kn := nF kn') (by omega) h hA hl hv hk hpl2 b1 hless0 h00 n F 0 (by omega) (by omega) (fun w hw => by omega)
      exact ⟨T', a1, fun x hx => by rw [a2 x hx]; exact hout x hx, a3, a4⟩
end ZFILL
