/-! THE REFERENCE: solved, its row steps. -/
/-- the array holds the matrix f, row after row of w -/
def Rep (w : Nat) (S : Nat → Nat) (f : Nat → Nat → Nat) : Prop := ∀ i k, k < w → S (w * i + k) = f i k
theorem ixW {w i k i' k' : Nat} (hk : k < w) (hk' : k' < w) (e : w * i + k = w * i' + k') : i = i' ∧ k = k' := by
  rw [Nat.mul_comm w i, Nat.mul_comm w i'] at e
  exact dig2 hk hk' e
theorem ixL {w i k : Nat} (hw : w ≤ 41) (hi : i < 40) (hk : k < w) : w * i + k < 1640 := by
  have : w * i ≤ 41 * 39 := Nat.mul_le_mul hw (by omega)
  omega
theorem Rep.upd {w : Nat} {S : Nat → Nat} {f : Nat → Nat → Nat} (h : Rep w S f) {i0 k0 x : Nat} (hk0 : k0 < w) : Rep w (fun j => if j = w * i0 + k0 then x else S j) (fun i k => if i = i0 ∧ k = k0 then x else f i k) := by
  intro i k hk
  show (if w * i + k = w * i0 + k0 then x else S (w * i + k)) = (if i = i0 ∧ k = k0 then x else f i k)
  by_cases q : i = i0 ∧ k = k0
  · rw [if_pos (by rw [q.1, q.2]), if_pos q]
  · rw [if_neg (fun e => q (ixW hk hk0 e)), if_neg q]; exact h i k hk
theorem Rep.congr {w : Nat} {S : Nat → Nat} {f g : Nat → Nat → Nat} (h : Rep w S f) (e : ∀ i k, k < w → f i k = g i k) : Rep w S g := fun i k hk => by rw [h i k hk, e i k hk]
theorem mulW (w i k : Nat) : nI w * nI i + nI k = nI (w * i + k) := by rw [pk_mul, nI_add]
section GAUSS
variable {F p sz mw w : Nat}
theorem p_zs306 (hp : 2 ≤ p) (hp2 : p ≤ 32003) (hsz : sz ≤ 40) (hw : w ≤ 41) {vI nI_ : Nat → Int32} {k83 k265} {c r i fc : Nat} {nx : Nat → Int32} (hr : r < sz) (hi : i < sz) (hir : i ≠ r) {f : Nat → Nat → Nat} (hf : ∀ i k, i < sz → k < w → f i k < p) (hfc : fc ≤ p) (hfc0 : 0 < fc) : ∀ (d m k : Nat) (S : Nat → Nat), k + d = w → d < m → Rep w S (fun i' k' => if i' = i ∧ k' < k then (f i k' + fc * f r k') % p else f i' k') →
    ∃ S', Rep w S' (fun i' k' => if i' = i then (f i k' + fc * f r k') % p else f i' k') ∧ b_zsolved_306 F (nI sz) (nI p) (nI mw) vI nI_ k83 k265 m (nI w) (nI r) (nI c) (nI i) (lN fc) (nI k) (nF S) nx = k265 (nI w) (nI r) (nI c) (nI (i + 1)) (nF S') nx := by
  intro d
  induction d with
  | zero =>
    intro m k S hk hm hR
    obtain ⟨m, rfl⟩ : ∃ q, m = q + 1 := ⟨m - 1, by omega⟩
    refine ⟨S, hR.congr fun i' k' hk' => ?_, ?_⟩
    · try dsimp only
      by_cases q : i' = i
      · rw [if_pos ⟨q, by omega⟩, if_pos q]
      · rw [if_neg (fun z => q z.1), if_neg q]
    · show s_zsolved_306 F (nI sz) (nI p) (nI mw) vI nI_ k83 k265 (b_zsolved_306 F (nI sz) (nI p) (nI mw) vI nI_ k83 k265 m) (nI w) (nI r) (nI c) (nI i) (lN fc) (nI k) (nF S) nx = _
      unfold s_zsolved_306
      rw [if_pos (nI_le (by omega) (by omega)), show nI i + 1 = nI (i + 1) from nI_add i 1]
  | succ d ih =>
    intro m k S hk hm hR
    obtain ⟨m, rfl⟩ : ∃ q, m = q + 1 := ⟨m - 1, by omega⟩
    have hkw : k < w := by omega
    have x1 := hf i k hi hkw
    have x2 := hf r k hr hkw
    have s1 : S (w * i + k) = f i k := (hR i k hkw).trans (if_neg (by omega))
    have s2 : S (w * r + k) = f r k := (hR r k hkw).trans (if_neg (by omega))
    have hm2 : fc * f r k ≤ 32003 * 32003 := Nat.mul_le_mul (by omega) (by omega)
    have step : b_zsolved_306 F (nI sz) (nI p) (nI mw) vI nI_ k83 k265 (m + 1) (nI w) (nI r) (nI c) (nI i) (lN fc) (nI k) (nF S) nx = b_zsolved_306 F (nI sz) (nI p) (nI mw) vI nI_ k83 k265 m (nI w) (nI r) (nI c) (nI i) (lN fc) (nI (k + 1)) (nF (fun j => if j = w * i + k then (f i k + fc * f r k) % p else S j)) nx := by
      show s_zsolved_306 F (nI sz) (nI p) (nI mw) vI nI_ k83 k265 (b_zsolved_306 F (nI sz) (nI p) (nI mw) vI nI_ k83 k265 m) (nI w) (nI r) (nI c) (nI i) (lN fc) (nI k) (nF S) nx = _
      unfold s_zsolved_306
      rw [if_neg (nI_ge (by omega) (by omega)), if_neg (show ¬ lg_cmp (lN fc) 0 ≤ 0 from fun z => by have := (cmp_le (a := fc) (b := 0) (by omega) (by decide)).mp z; omega), mulW, rdI_n (ixL hw (by omega) hkw) (by decide), mulW, rdI_n (ixL hw (by omega) hkw) (by decide), nI_l (show p < 2 ^ 31 by omega), nzL_n (by omega) (by omega)]
      show wrI 1640 (nF S) (nI (w * i + k)) ((remL ((nI (S (w * i + k))).toInt64 + lN fc * (nI (S (w * r + k))).toInt64) (lN p)).toInt32) _ = _
      rw [s1, s2, nI_l (by omega), nI_l (by omega), lN_mul, lN_add, remL_n (by omega) (by omega) (by omega), lN_i, wrI_n (ixL hw (by omega) hkw) (by decide), upd_nF, show nI k + 1 = nI (k + 1) from nI_add k 1]
    rw [step]
    refine ih m (k + 1) _ (by omega) (by omega) ((hR.upd (x := (f i k + fc * f r k) % p) (i0 := i) hkw).congr fun i' k' hk' => ?_)
    try dsimp only
    by_cases q : i' = i ∧ k' = k
    · rw [if_pos q, if_pos (by omega), q.2]
    · rw [if_neg q]
      by_cases y : i' = i ∧ k' < k
      · rw [if_pos y, if_pos (by omega)]
      · rw [if_neg y, if_neg (by omega)]
theorem p_zs265 (hF : 200 < F) (hp : 2 ≤ p) (hp2 : p ≤ 32003) (hsz : sz ≤ 40) (hw : w ≤ 41) {vI nI_ : Nat → Int32} {k83} {c r : Nat} {nx : Nat → Int32} (hr : r < sz) (hc : c < w) {f : Nat → Nat → Nat} (hf : ∀ i k, i < sz → k < w → f i k < p) : ∀ (d m i : Nat) (S : Nat → Nat), i + d = sz → d < m → Rep w S (fun i' k' => if i' < i ∧ i' ≠ r then (f i' k' + (p - f i' c) * f r k') % p else f i' k') →
    ∃ S', (∀ i' k', i' < sz → k' < w → S' (w * i' + k') = if i' ≠ r then (f i' k' + (p - f i' c) * f r k') % p else f i' k') ∧ b_zsolved_265 F (nI sz) (nI p) (nI mw) vI nI_ k83 m (nI w) (nI r) (nI c) (nI i) (nF S) nx = k83 (nI w) (nI (r + 1)) (nI (c + 1)) (nF S') nx := by
  intro d
  induction d with
  | zero =>
    intro m i S hi hm hR
    obtain ⟨m, rfl⟩ : ∃ q, m = q + 1 := ⟨m - 1, by omega⟩
    refine ⟨S, fun i' k' hi' hk' => ?_, ?_⟩
    · rw [hR i' k' hk']
      try dsimp only
      by_cases q : i' = r
      · rw [if_neg (fun z => z.2 q), if_neg (fun z => z q)]
      · rw [if_pos ⟨by omega, q⟩, if_pos q]
    · show s_zsolved_265 F (nI sz) (nI p) (nI mw) vI nI_ k83 (b_zsolved_265 F (nI sz) (nI p) (nI mw) vI nI_ k83 m) (nI w) (nI r) (nI c) (nI i) (nF S) nx = _
      unfold s_zsolved_265
      rw [if_pos (nI_le (by omega) (by omega)), show nI r + 1 = nI (r + 1) from nI_add r 1, show nI c + 1 = nI (c + 1) from nI_add c 1]
  | succ d ih =>
    intro m i S hi hm hR
    obtain ⟨m, rfl⟩ : ∃ q, m = q + 1 := ⟨m - 1, by omega⟩
    by_cases e : i = r
    · have step : b_zsolved_265 F (nI sz) (nI p) (nI mw) vI nI_ k83 (m + 1) (nI w) (nI r) (nI c) (nI i) (nF S) nx = b_zsolved_265 F (nI sz) (nI p) (nI mw) vI nI_ k83 m (nI w) (nI r) (nI c) (nI (i + 1)) (nF S) nx := by
        show s_zsolved_265 F (nI sz) (nI p) (nI mw) vI nI_ k83 (b_zsolved_265 F (nI sz) (nI p) (nI mw) vI nI_ k83 m) (nI w) (nI r) (nI c) (nI i) (nF S) nx = _
        unfold s_zsolved_265
        rw [if_neg (nI_ge (by omega) (by omega)), if_pos (by rw [e])]
        obtain ⟨F', rfl⟩ : ∃ t, F = t + 1 := ⟨F - 1, by omega⟩
        show s_zsolved_306 (F' + 1) (nI sz) (nI p) (nI mw) vI nI_ k83 (b_zsolved_265 (F' + 1) (nI sz) (nI p) (nI mw) vI nI_ k83 m) (b_zsolved_306 (F' + 1) (nI sz) (nI p) (nI mw) vI nI_ k83 (b_zsolved_265 (F' + 1) (nI sz) (nI p) (nI mw) vI nI_ k83 m) F') (nI w) (nI r) (nI c) (nI i) (lN 0) (nI 0) (nF S) nx = _
        unfold s_zsolved_306
        rw [if_neg (nI_ge (by omega) (by omega)), if_pos (show lg_cmp (lN 0) 0 ≤ 0 from (cmp_le (a := 0) (b := 0) (by decide) (by decide)).mpr (Nat.le_refl _)), show nI i + 1 = nI (i + 1) from nI_add i 1]
      rw [step]
      refine ih m (i + 1) S (by omega) (by omega) (hR.congr fun i' k' hk' => ?_)
      try dsimp only
      by_cases q : i' < i ∧ i' ≠ r
      · rw [if_pos q, if_pos (by omega)]
      · rw [if_neg q, if_neg (by omega)]
    · have s1 : S (w * i + c) = f i c := (hR i c hc).trans (if_neg (by omega))
      have x1 := hf i c (by omega) hc
      have hcur : ∀ i' k', i' < sz → k' < w → (fun i' k' => if i' < i ∧ i' ≠ r then (f i' k' + (p - f i' c) * f r k') % p else f i' k') i' k' < p := by
        intro i' k' h1 h2
        try dsimp only
        by_cases q : i' < i ∧ i' ≠ r
        · rw [if_pos q]; exact Nat.mod_lt _ (by omega)
        · rw [if_neg q]; exact hf i' k' h1 h2
      obtain ⟨S1, a1, a2⟩ := p_zs306 (F := F) (mw := mw) (vI := vI) (nI_ := nI_) (k83 := k83) (k265 := b_zsolved_265 F (nI sz) (nI p) (nI mw) vI nI_ k83 m) (c := c) (nx := nx) hp hp2 hsz hw hr (show i < sz by omega) e hcur (show p - f i c ≤ p by omega) (by omega) w F 0 S (by omega) (by omega) (hR.congr fun i' k' hk' => by
        try dsimp only
        rw [if_neg (show ¬ (i' = i ∧ k' < 0) by omega)])
      have step : b_zsolved_265 F (nI sz) (nI p) (nI mw) vI nI_ k83 (m + 1) (nI w) (nI r) (nI c) (nI i) (nF S) nx = b_zsolved_265 F (nI sz) (nI p) (nI mw) vI nI_ k83 m (nI w) (nI r) (nI c) (nI (i + 1)) (nF S1) nx := by
        rw [← a2]
        show s_zsolved_265 F (nI sz) (nI p) (nI mw) vI nI_ k83 (b_zsolved_265 F (nI sz) (nI p) (nI mw) vI nI_ k83 m) (nI w) (nI r) (nI c) (nI i) (nF S) nx = _
        unfold s_zsolved_265
        rw [if_neg (nI_ge (by omega) (by omega)), if_neg (fun z => e ((nI_eq (by omega) (by omega)).mp z)), mulW, rdI_n (ixL hw (by omega) hc) (by decide)]
        show b_zsolved_306 F (nI sz) (nI p) (nI mw) vI nI_ k83 (b_zsolved_265 F (nI sz) (nI p) (nI mw) vI nI_ k83 m) F (nI w) (nI r) (nI c) (nI i) ((nI p - nI (S (w * i + c))).toInt64) (nI 0) (nF S) nx = _
        rw [s1, pk_sub (by omega), nI_l (by omega)]
      rw [step]
      refine ih m (i + 1) S1 (by omega) (by omega) (a1.congr fun i' k' hk' => ?_)
      try dsimp only
      by_cases q : i' = i
      · rw [if_pos q, if_neg (by omega), if_neg (by omega), if_pos (by omega), q]
      · rw [if_neg q]
        by_cases y : i' < i ∧ i' ≠ r
        · rw [if_pos y, if_pos (by omega)]
        · rw [if_neg y, if_neg (by omega)]
theorem p_zs217 (hF : 200 < F) (hp : 2 ≤ p) (hp2 : p ≤ 32003) (hsz : sz ≤ 40) (hw : w ≤ 41) {vI nI_ : Nat → Int32} {k83} {c r iv : Nat} {nx : Nat → Int32} (hr : r < sz) (hiv : iv < p) {f : Nat → Nat → Nat} (hf : ∀ i k, i < sz → k < w → f i k < p) : ∀ (d m k : Nat) (S : Nat → Nat), k + d = w → d < m → Rep w S (fun i' k' => if i' = r ∧ k' < k then f r k' * iv % p else f i' k') →
    ∃ S', Rep w S' (fun i' k' => if i' = r then f r k' * iv % p else f i' k') ∧ b_zsolved_217 F (nI sz) (nI p) (nI mw) vI nI_ k83 m (nI w) (nI r) (nI c) (lN iv) (nI k) (nF S) nx = b_zsolved_265 F (nI sz) (nI p) (nI mw) vI nI_ k83 F (nI w) (nI r) (nI c) (nI 0) (nF S') nx := by
  intro d
  induction d with
  | zero =>
    intro m k S hk hm hR
    obtain ⟨m, rfl⟩ : ∃ q, m = q + 1 := ⟨m - 1, by omega⟩
    refine ⟨S, hR.congr fun i' k' hk' => ?_, ?_⟩
    · try dsimp only
      by_cases q : i' = r
      · rw [if_pos ⟨q, by omega⟩, if_pos q]
      · rw [if_neg (fun z => q z.1), if_neg q]
    · show s_zsolved_217 F (nI sz) (nI p) (nI mw) vI nI_ k83 (b_zsolved_217 F (nI sz) (nI p) (nI mw) vI nI_ k83 m) (nI w) (nI r) (nI c) (lN iv) (nI k) (nF S) nx = _
      unfold s_zsolved_217
      rw [if_pos (nI_le (by omega) (by omega))]
      rfl
  | succ d ih =>
    intro m k S hk hm hR
    obtain ⟨m, rfl⟩ : ∃ q, m = q + 1 := ⟨m - 1, by omega⟩
    have hkw : k < w := by omega
    have x1 := hf r k hr hkw
    have s1 : S (w * r + k) = f r k := (hR r k hkw).trans (if_neg (by omega))
    have hm2 : f r k * iv ≤ 32003 * 32003 := Nat.mul_le_mul (by omega) (by omega)
    have step : b_zsolved_217 F (nI sz) (nI p) (nI mw) vI nI_ k83 (m + 1) (nI w) (nI r) (nI c) (lN iv) (nI k) (nF S) nx = b_zsolved_217 F (nI sz) (nI p) (nI mw) vI nI_ k83 m (nI w) (nI r) (nI c) (lN iv) (nI (k + 1)) (nF (fun j => if j = w * r + k then f r k * iv % p else S j)) nx := by
      show s_zsolved_217 F (nI sz) (nI p) (nI mw) vI nI_ k83 (b_zsolved_217 F (nI sz) (nI p) (nI mw) vI nI_ k83 m) (nI w) (nI r) (nI c) (lN iv) (nI k) (nF S) nx = _
      unfold s_zsolved_217
      rw [if_neg (nI_ge (by omega) (by omega)), mulW, rdI_n (ixL hw (by omega) hkw) (by decide), nI_l (show p < 2 ^ 31 by omega), nzL_n (by omega) (by omega)]
      show wrI 1640 (nF S) (nI (w * r + k)) ((remL ((nI (S (w * r + k))).toInt64 * lN iv) (lN p)).toInt32) _ = _
      rw [s1, nI_l (by omega), lN_mul, remL_n (by omega) (by omega) (by omega), lN_i, wrI_n (ixL hw (by omega) hkw) (by decide), upd_nF, show nI k + 1 = nI (k + 1) from nI_add k 1]
    rw [step]
    refine ih m (k + 1) _ (by omega) (by omega) ((hR.upd (x := f r k * iv % p) (i0 := r) hkw).congr fun i' k' hk' => ?_)
    try dsimp only
    by_cases q : i' = r ∧ k' = k
    · rw [if_pos q, if_pos (by omega), q.2]
    · rw [if_neg q]
      by_cases y : i' = r ∧ k' < k
      · rw [if_pos y, if_pos (by omega)]
      · rw [if_neg y, if_neg (by omega)]
/-- rows a and r change places -/
def swR (a r i : Nat) : Nat := if i = a then r else if i = r then a else i
theorem p_zs135 (hF : 40000 < F) (hp : 2 ≤ p) (hp2 : p ≤ 32003) (hsz : sz ≤ 40) (hw : w ≤ 41) {vI nI_ : Nat → Int32} {k83} {c r a : Nat} {nx : Nat → Int32} (hr : r < sz) (ha : a < sz) (hc : c < w) {f : Nat → Nat → Nat} (hf : ∀ i k, i < sz → k < w → f i k < p) : ∀ (d m k : Nat) (S : Nat → Nat), k + d = w → d < m → Rep w S (fun i' k' => if k' < k then f (swR a r i') k' else f i' k') →
    ∃ S', Rep w S' (fun i' k' => f (swR a r i') k') ∧ b_zsolved_135 F (nI sz) (nI p) (nI mw) vI nI_ k83 m (nI w) (nI r) (nI c) (nI a) (nI k) (nF S) nx = b_zsolved_217 F (nI sz) (nI p) (nI mw) vI nI_ k83 F (nI w) (nI r) (nI c) (lN (f a c ^ (p - 2) % p)) (nI 0) (nF S') nx := by
  intro d
  induction d with
  | zero =>
    intro m k S hk hm hR
    obtain ⟨m, rfl⟩ : ∃ q, m = q + 1 := ⟨m - 1, by omega⟩
    have hR2 : Rep w S (fun i' k' => f (swR a r i') k') := hR.congr fun i' k' hk' => by
      try dsimp only
      rw [if_pos (by omega)]
    refine ⟨S, hR2, ?_⟩
    have s1 : S (w * r + c) = f a c := by
      rw [hR2 r c hc]
      try dsimp only
      unfold swR
      by_cases q : r = a
      · rw [if_pos q, q]
      · rw [if_neg q, if_pos rfl]
    show s_zsolved_135 F (nI sz) (nI p) (nI mw) vI nI_ k83 (b_zsolved_135 F (nI sz) (nI p) (nI mw) vI nI_ k83 m) (nI w) (nI r) (nI c) (nI a) (nI k) (nF S) nx = _
    unfold s_zsolved_135
    rw [if_pos (nI_le (by omega) (by omega)), mulW, rdI_n (ixL hw (by omega) hc) (by decide)]
    show bd1 (m_zinverse F (nI p) (nI (S (w * r + c)))) _ = _
    rw [s1, p_zinverse hp hp2 (hf a c ha hc) (by omega), bd1_n, nI_l (by have := Nat.mod_lt (f a c ^ (p - 2)) (show 0 < p by omega); omega)]
    rfl
  | succ d ih =>
    intro m k S hk hm hR
    obtain ⟨m, rfl⟩ : ∃ q, m = q + 1 := ⟨m - 1, by omega⟩
    have hkw : k < w := by omega
    have s1 : S (w * a + k) = f a k := (hR a k hkw).trans (if_neg (by omega))
    have s2 : S (w * r + k) = f r k := (hR r k hkw).trans (if_neg (by omega))
    have step : b_zsolved_135 F (nI sz) (nI p) (nI mw) vI nI_ k83 (m + 1) (nI w) (nI r) (nI c) (nI a) (nI k) (nF S) nx = b_zsolved_135 F (nI sz) (nI p) (nI mw) vI nI_ k83 m (nI w) (nI r) (nI c) (nI a) (nI (k + 1)) (nF (fun j => if j = w * r + k then f a k else (if j = w * a + k then f r k else S j))) nx := by
      show s_zsolved_135 F (nI sz) (nI p) (nI mw) vI nI_ k83 (b_zsolved_135 F (nI sz) (nI p) (nI mw) vI nI_ k83 m) (nI w) (nI r) (nI c) (nI a) (nI k) (nF S) nx = _
      unfold s_zsolved_135
      rw [if_neg (nI_ge (by omega) (by omega)), mulW, rdI_n (ixL hw (by omega) hkw) (by decide), mulW, rdI_n (ixL hw (by omega) hkw) (by decide), wrI_n (ixL hw (by omega) hkw) (by decide), wrI_n (ixL hw (by omega) hkw) (by decide), show nI k + 1 = nI (k + 1) from nI_add k 1]
      show b_zsolved_135 F (nI sz) (nI p) (nI mw) vI nI_ k83 m (nI w) (nI r) (nI c) (nI a) (nI (k + 1)) (upd (upd (nF S) (w * a + k) (nI (S (w * r + k)))) (w * r + k) (nI (S (w * a + k)))) nx = _
      rw [s1, s2, upd_nF, upd_nF]
    rw [step]
    refine ih m (k + 1) _ (by omega) (by omega) (((hR.upd (x := f r k) (i0 := a) hkw).upd (x := f a k) (i0 := r) hkw).congr fun i' k' hk' => ?_)
    try dsimp only
    by_cases y : k' = k
    · rw [y, if_pos (show k < k + 1 by omega), if_neg (show ¬ k < k by omega)]
      unfold swR
      by_cases q : i' = r
      · rw [if_pos ⟨q, rfl⟩]
        by_cases z : i' = a
        · rw [if_pos z, ← z, q]
        · rw [if_neg z, if_pos q]
      · rw [if_neg (fun z => q z.1)]
        by_cases z : i' = a
        · rw [if_pos ⟨z, rfl⟩, if_pos z]
        · rw [if_neg (fun x => z x.1), if_neg z, if_neg q]
    · rw [if_neg (fun z => y z.2), if_neg (fun z => y z.2)]
      by_cases q : k' < k
      · rw [if_pos q, if_pos (by omega)]
      · rw [if_neg q, if_neg (by omega)]
theorem p_zs94 (hF : 200 < F) (hsz : sz ≤ 40) (hw : w ≤ 41) {vI nI_ : Nat → Int32} {k83} {c r : Nat} {nx : Nat → Int32} (hc : c < w) {f : Nat → Nat → Nat} (hf : ∀ i k, i < sz → k < w → f i k < 32003) {S : Nat → Nat} (hR : Rep w S f) (hex : ∃ a, r ≤ a ∧ a < sz ∧ f a c ≠ 0) : ∀ (d m a : Nat), a + d = sz → d < m → (∀ b, r ≤ b → b < a → f b c = 0) →
    ∃ a', a' < sz ∧ r ≤ a' ∧ f a' c ≠ 0 ∧ (r ≤ a → b_zsolved_94 F (nI sz) (nI p) (nI mw) vI nI_ k83 m (nI w) (nI r) (nI c) (nI a) (nF S) nx = b_zsolved_135 F (nI sz) (nI p) (nI mw) vI nI_ k83 F (nI w) (nI r) (nI c) (nI a') (nI 0) (nF S) nx) := by
  intro d
  induction d with
  | zero =>
    intro m a ha hm hno
    exfalso
    obtain ⟨b, b1, b2, b3⟩ := hex
    exact b3 (hno b b1 (by omega))
  | succ d ih =>
    intro m a ha hm hno
    obtain ⟨m, rfl⟩ : ∃ q, m = q + 1 := ⟨m - 1, by omega⟩
    by_cases hra : r ≤ a
    · have x1 := hf a c (by omega) hc
      have s1 : S (w * a + c) = f a c := hR a c hc
      have unf : b_zsolved_94 F (nI sz) (nI p) (nI mw) vI nI_ k83 (m + 1) (nI w) (nI r) (nI c) (nI a) (nF S) nx = if f a c = 0 then b_zsolved_94 F (nI sz) (nI p) (nI mw) vI nI_ k83 m (nI w) (nI r) (nI c) (nI (a + 1)) (nF S) nx else b_zsolved_135 F (nI sz) (nI p) (nI mw) vI nI_ k83 F (nI w) (nI r) (nI c) (nI a) (nI 0) (nF S) nx := by
        show s_zsolved_94 F (nI sz) (nI p) (nI mw) vI nI_ k83 (b_zsolved_94 F (nI sz) (nI p) (nI mw) vI nI_ k83 m) (nI w) (nI r) (nI c) (nI a) (nF S) nx = _
        unfold s_zsolved_94
        rw [if_neg (nI_ge (by omega) (by omega)), mulW, rdI_n (ixL hw (by omega) hc) (by decide), show nI a + 1 = nI (a + 1) from nI_add a 1]
        show (if nI (S (w * a + c)) = 0 then _ else _) = _
        rw [s1]
        by_cases z : f a c = 0
        · rw [z, if_pos (show nI 0 = 0 from rfl), if_pos rfl]
        · rw [if_neg (nI_ne0 (by omega) (by omega)), if_neg z]
          unfold s_zsolved_123
          rw [if_neg (nI_ge (by omega) (by omega))]
          rfl
      by_cases z : f a c = 0
      · obtain ⟨a', c1, c2, c3, c4⟩ := ih m (a + 1) (by omega) (by omega) (fun b h1 h2 => by
          by_cases y : b = a
          · rw [y]; exact z
          · exact hno b h1 (by omega))
        exact ⟨a', c1, c2, c3, fun _ => by rw [unf, if_pos z]; exact c4 (by omega)⟩
      · exact ⟨a, by omega, hra, z, fun _ => by rw [unf, if_neg z]⟩
    · obtain ⟨b, b1, b2, b3⟩ := hex
      exact ⟨b, b2, b1, b3, fun q => absurd q hra⟩
end GAUSS
