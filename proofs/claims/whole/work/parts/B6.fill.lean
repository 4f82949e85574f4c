/-! THE CLASS'S PRODUCTS: filling one row. -/
theorem sm_s (n : Nat) (f : Nat → Nat) : sm (n + 1) f = sm n f + f n := rfl
section FILL
variable {F p n ord sz : Nat} {cg g bs : Nat → Nat} {l : List Nat}
/-- the row 'to' after J steps of act -/
def acT (p sz : Nat) (T : Nat → Nat) (to frm u J : Nat) : Nat → Nat := fun x => if to ≤ x ∧ x < to + sz then sm J (fun q => T (frm + q) * T (1600 * u + 40 * q + (x - to))) % p else T x
theorem p_act_l (hF : 200 < F) (hp : 2 ≤ p) (hp2 : p ≤ 32003) (hsz : sz ≤ 40) {T : Nat → Nat} {to frm u : Nat} (hu : u < 4) (hto : to + 40 ≤ 6400) (hfr : frm + 40 ≤ 6400) (hd : to + 40 ≤ frm ∨ frm + 40 ≤ to) (hTf : ∀ q, q < sz → T (frm + q) < p)
    (hTu : ∀ q, q < sz → T (frm + q) ≠ 0 → (to + 40 ≤ 1600 * u + 40 * q ∨ 1600 * u + 40 * q + 40 ≤ to) ∧ ∀ i, i < sz → T (1600 * u + 40 * q + i) < p) : ∀ (d m j : Nat), j + d = sz → d < m →
    b_act_3 F (nI p) (nI sz) m (nI u) (nI frm) (nI to) (nI j) (nF (acT p sz T to frm u j)) = some (nF (acT p sz T to frm u sz)) := by
  intro d
  induction d with
  | zero =>
    intro m j hj hm
    obtain ⟨m, rfl⟩ : ∃ q, m = q + 1 := ⟨m - 1, by omega⟩
    have e : j = sz := by omega
    subst e
    show s_act_3 F (nI p) (nI j) (b_act_3 F (nI p) (nI j) m) (nI u) (nI frm) (nI to) (nI j) _ = _
    unfold s_act_3
    rw [if_pos (nI_le (by omega) (by omega))]
  | succ d ih =>
    intro m j hj hm
    obtain ⟨m, rfl⟩ : ∃ q, m = q + 1 := ⟨m - 1, by omega⟩
    have e0 : acT p sz T to frm u j (frm + j) = T (frm + j) := by unfold acT; rw [if_neg (by omega)]
    show s_act_3 F (nI p) (nI sz) (b_act_3 F (nI p) (nI sz) m) (nI u) (nI frm) (nI to) (nI j) _ = _
    unfold s_act_3
    rw [if_neg (nI_ge (by omega) (by omega)), nI_add, rdI_n (by omega) (by decide), show nI j + 1 = nI (j + 1) from nI_add j 1]
    show (if nI (acT p sz T to frm u j (frm + j)) = 0 then _ else bd1 (m_productRow F (nI u) (nI j)) _) = _
    rw [e0, p_productRow, bd1_n]
    have hlt := hTf j (by omega)
    by_cases z : T (frm + j) = 0
    · rw [z, if_pos (show nI 0 = 0 from rfl)]
      have e : acT p sz T to frm u j = acT p sz T to frm u (j + 1) := by
        unfold acT
        funext x
        rw [sm_s, z, Nat.zero_mul, Nat.add_zero]
      rw [e]
      exact ih m (j + 1) (by omega) (by omega)
    · obtain ⟨c1, c2⟩ := hTu j (by omega) z
      rw [if_neg (nI_ne0 (by omega) (by omega)), show (u * 40 + j) * 40 = 1600 * u + 40 * j by omega]
      have e1 : ∀ i, i < sz → acT p sz T to frm u j (1600 * u + 40 * j + i) = T (1600 * u + 40 * j + i) := fun i hi => by unfold acT; rw [if_neg (by omega)]
      show bd1 (m_addMultipleS F 6400 (nI to) (nI (1600 * u + 40 * j)) (nI sz) (nI (acT p sz T to frm u j (frm + j))) (nI p) (nF (acT p sz T to frm u j))) _ = _
      rw [e0, p_addMultipleS (by decide) (by omega) hp2 (by omega) (by omega) (by omega) (by omega) (by omega) (fun x h1 h2 => by
        have := e1 (x - (1600 * u + 40 * j)) (by omega)
        rw [show 1600 * u + 40 * j + (x - (1600 * u + 40 * j)) = x by omega] at this
        rw [this]
        have := c2 (x - (1600 * u + 40 * j)) (by omega)
        rw [show 1600 * u + 40 * j + (x - (1600 * u + 40 * j)) = x by omega] at this
        exact this) (fun x h1 h2 => by unfold acT; rw [if_pos ⟨h1, h2⟩]; exact Nat.mod_lt _ (by omega)), bd1_n]
      have e : amN p (T (frm + j)) to (1600 * u + 40 * j) sz (acT p sz T to frm u j) (acT p sz T to frm u j) = acT p sz T to frm u (j + 1) := by
        funext x
        unfold amN
        by_cases hx : to ≤ x ∧ x < to + sz
        · rw [if_pos hx, e1 (x - to) (by omega)]
          unfold acT
          rw [if_pos hx, if_pos hx, sm_s, Nat.mod_add_mod]
        · rw [if_neg hx]
          unfold acT
          rw [if_neg hx, if_neg hx]
      rw [e]
      exact ih m (j + 1) (by omega) (by omega)
theorem p_act (hF : 200 < F) (hp : 2 ≤ p) (hp2 : p ≤ 32003) (hsz : sz ≤ 40) {T : Nat → Nat} {to frm u : Nat} (hu : u < 4) (hto : to + 40 ≤ 6400) (hfr : frm + 40 ≤ 6400) (hd : to + 40 ≤ frm ∨ frm + 40 ≤ to) (hTf : ∀ q, q < sz → T (frm + q) < p)
    (hTu : ∀ q, q < sz → T (frm + q) ≠ 0 → (to + 40 ≤ 1600 * u + 40 * q ∨ 1600 * u + 40 * q + 40 ≤ to) ∧ ∀ i, i < sz → T (1600 * u + 40 * q + i) < p) (h0 : ∀ i, i < sz → T (to + i) = 0) :
    m_act F (nI p) (nI sz) (nI u) (nI frm) (nI to) (nF T) = some (nF (acT p sz T to frm u sz)) := by
  have e : T = acT p sz T to frm u 0 := by
    funext x
    unfold acT
    by_cases hx : to ≤ x ∧ x < to + sz
    · rw [if_pos hx]
      have := h0 (x - to) (by omega)
      rw [show to + (x - to) = x by omega] at this
      rw [this]
      exact (Nat.zero_mod p).symm
    · rw [if_neg hx]
  have := p_act_l (F := F) hF hp hp2 hsz hu hto hfr hd hTf hTu sz F 0 (by omega) (by omega)
  rw [← e] at this
  exact this
theorem p_rankInBasis_l (hA : Arr l bs) (hl : l.length ≤ 126) (hb : ∀ b ∈ l, b < 126 ∧ cg b < 2 ^ 32) {c : Nat} (hc : c < 2 ^ 32) : ∀ (d m i : Nat), i + d = l.length → d < m → (∀ j, j < i → cg (bs j) ≠ c) →
    (∃ b ∈ l, cg b = c ∧ b_rankInBasis_2 F (nI l.length) (nF cg) (nF bs) m (nI c) (nI i) = some (nI b)) ∨ ((∀ b ∈ l, cg b ≠ c) ∧ b_rankInBasis_2 F (nI l.length) (nF cg) (nF bs) m (nI c) (nI i) = some (-1)) := by
  intro d
  induction d with
  | zero =>
    intro m i hi hm hno
    obtain ⟨m, rfl⟩ : ∃ q, m = q + 1 := ⟨m - 1, by omega⟩
    refine Or.inr ⟨fun b h1 h2 => ?_, ?_⟩
    · obtain ⟨q, hq, e⟩ := (hA.mem b).mp h1
      rw [← e] at h2
      exact hno q (by omega) h2
    · show s_rankInBasis_2 F (nI l.length) (nF cg) (nF bs) (b_rankInBasis_2 F (nI l.length) (nF cg) (nF bs) m) (nI c) (nI i) = _
      unfold s_rankInBasis_2
      rw [if_pos (nI_le (by omega) (by omega))]
  | succ d ih =>
    intro m i hi hm hno
    obtain ⟨m, rfl⟩ : ∃ q, m = q + 1 := ⟨m - 1, by omega⟩
    have hm2 : bs i ∈ l := (hA.mem _).mpr ⟨i, by omega, rfl⟩
    have hb2 := hb _ hm2
    have step : b_rankInBasis_2 F (nI l.length) (nF cg) (nF bs) (m + 1) (nI c) (nI i) = if cg (bs i) = c then some (nI (bs i)) else b_rankInBasis_2 F (nI l.length) (nF cg) (nF bs) m (nI c) (nI (i + 1)) := by
      show s_rankInBasis_2 F (nI l.length) (nF cg) (nF bs) (b_rankInBasis_2 F (nI l.length) (nF cg) (nF bs) m) (nI c) (nI i) = _
      unfold s_rankInBasis_2
      rw [if_neg (nI_ge (by omega) (by omega)), rdI_n (by omega) (by decide)]
      show rdI 126 (nF cg) (nI (bs i)) _ = _
      rw [rdI_n hb2.1 (by decide), rdI_n (by omega) (by decide), show nI i + 1 = nI (i + 1) from nI_add i 1]
      by_cases e : cg (bs i) = c
      · rw [if_pos e, if_pos (by show nI (cg (bs i)) = nI c; rw [e])]
        rfl
      · rw [if_neg e, if_neg (show ¬ nF cg (bs i) = nI c from fun z => e (nI_inj32 hb2.2 hc z))]
    rw [step]
    by_cases e : cg (bs i) = c
    · rw [if_pos e]; exact Or.inl ⟨_, hm2, e, rfl⟩
    · rw [if_neg e]
      exact ih m (i + 1) (by omega) (by omega) (fun j hj => by
        by_cases q : j = i
        · rw [q]; exact e
        · exact hno j (by omega))
/-- the row after i steps of fillFromBasis -/
def baT (p n sz : Nat) (cg g : Nat → Nat) (rb : Nat → Nat → Nat) (T : Nat → Nat) (row b i : Nat) : Nat → Nat := fun x => if row ≤ x ∧ x < row + sz then (if rkN cg (g (x - row)) (ctN n) < i then (p - rb b (rkN cg (g (x - row)) (ctN n))) % p else 0) else T x
theorem rk_iff {rb : Nat → Nat → Nat} (h : Rm p n ord cg l sz g rb) {i c : Nat} (hi : i < ctN n) : rkN cg c (ctN n) = i ↔ cg i = c := by
  rcases rkN_cases cg c (ctN n) with ⟨a, b⟩ | ⟨a, b⟩
  · exact ⟨fun q => by rw [← q]; exact b, fun q => h.tinj _ _ a hi (by rw [b, q])⟩
  · exact ⟨fun q => by have := h.ct; omega, fun q => absurd q (b i hi)⟩
theorem baT_step {rb : Nat → Nat → Nat} (h : Rm p n ord cg l sz g rb) {T : Nat → Nat} {row b i : Nat} (hi : i < ctN n) {q : Nat} (hq : q < sz) (e : g q = cg i) :
    (fun x => if x = row + q then (p - rb b i) % p else baT p n sz cg g rb T row b i x) = baT p n sz cg g rb T row b (i + 1) := by
  funext x
  have hr : rkN cg (g q) (ctN n) = i := (rk_iff h hi).mpr e.symm
  by_cases hx : x = row + q
  · rw [if_pos hx]
    unfold baT
    rw [if_pos (by omega), show x - row = q by omega, hr, if_pos (by omega)]
  · rw [if_neg hx]
    unfold baT
    by_cases hy : row ≤ x ∧ x < row + sz
    · rw [if_pos hy, if_pos hy]
      have hne : rkN cg (g (x - row)) (ctN n) ≠ i := fun z => by
        have z2 := (rk_iff h hi).mp z
        have := h.ginj q (x - row) hq (by omega) (by rw [e, z2])
        omega
      by_cases z : rkN cg (g (x - row)) (ctN n) < i
      · rw [if_pos z, if_pos (by omega)]
      · rw [if_neg z, if_neg (by omega)]
    · rw [if_neg hy, if_neg hy]
theorem baT_same {rb : Nat → Nat → Nat} (h : Rm p n ord cg l sz g rb) {T : Nat → Nat} {row b i : Nat} (hi : i < ctN n) (hz : rb b i = 0) : baT p n sz cg g rb T row b i = baT p n sz cg g rb T row b (i + 1) := by
  funext x
  unfold baT
  by_cases hy : row ≤ x ∧ x < row + sz
  · rw [if_pos hy, if_pos hy]
    by_cases z : rkN cg (g (x - row)) (ctN n) = i
    · rw [z, if_neg (by omega), if_pos (by omega), hz, Nat.sub_zero, Nat.mod_self]
    · by_cases z2 : rkN cg (g (x - row)) (ctN n) < i
      · rw [if_pos z2, if_pos (by omega)]
      · rw [if_neg z2, if_neg (by omega)]
  · rw [if_neg hy, if_neg hy]
theorem p_fillFromBasis_l {R : Nat → Nat} (hF : 200 < F) (h : Rm p n ord cg l sz g (rowF R)) {T : Nat → Nat} {row b : Nat} (hb : b ∈ l) (hrow : row + 40 ≤ 6400) : ∀ (d m i : Nat), i + d = b → d < m →
    b_fillFromBasis_3 F (nI p) (nI sz) (nF cg) (nF R) (nF g) m (nI b) (nI row) (nI i) (nF (baT p n sz cg g (rowF R) T row b i)) = some (nF (baT p n sz cg g (rowF R) T row b b)) := by
  have hbl := h.bl b hb
  have hct := h.ct
  have hp3 := h.p3
  have hsz := h.sz40
  intro d
  induction d with
  | zero =>
    intro m i hi hm
    obtain ⟨m, rfl⟩ : ∃ q, m = q + 1 := ⟨m - 1, by omega⟩
    have e : i = b := by omega
    subst e
    show s_fillFromBasis_3 F (nI p) (nI sz) (nF cg) (nF R) (nF g) (b_fillFromBasis_3 F (nI p) (nI sz) (nF cg) (nF R) (nF g) m) (nI i) (nI row) (nI i) _ = _
    unfold s_fillFromBasis_3
    rw [if_pos (nI_le (by omega) (by omega))]
  | succ d ih =>
    intro m i hi hm
    obtain ⟨m, rfl⟩ : ∃ q, m = q + 1 := ⟨m - 1, by omega⟩
    have hRe : rowF R b i = R (b * 126 + i) := by unfold rowF; rw [if_pos (by omega)]
    have hRl := h.rlt b hb i (by omega)
    rw [hRe] at hRl
    show s_fillFromBasis_3 F (nI p) (nI sz) (nF cg) (nF R) (nF g) (b_fillFromBasis_3 F (nI p) (nI sz) (nF cg) (nF R) (nF g) m) (nI b) (nI row) (nI i) _ = _
    unfold s_fillFromBasis_3
    rw [if_neg (nI_ge (by omega) (by omega)), show nI b * 126 = nI (b * 126) from pk_mul b 126, nI_add, rdI_n (by omega) (by decide), rdI_n (by omega) (by decide)]
    by_cases z : R (b * 126 + i) = 0
    · rw [if_pos (show nF R (b * 126 + i) = 0 by show nI (R (b * 126 + i)) = 0; rw [z]; rfl)]
      unfold s_fillFromBasis_46
      rw [if_pos rfl, show nI i + 1 = nI (i + 1) from nI_add i 1, baT_same h (show i < ctN n by omega) (by rw [hRe]; exact z)]
      exact ih m (i + 1) (by omega) (by omega)
    · rw [if_neg (show ¬ nF R (b * 126 + i) = 0 from nI_ne0 (by omega) (by omega))]
      obtain ⟨q, hq, e⟩ := h.nl.mp (h.rnl b hb i (by omega) (by rw [hRe]; exact z))
      have hci := (h.tin i (by omega)).1
      show bd1 (m_placeOf F (nI sz) (nF g) (nI (cg i))) _ = _
      rw [p_placeR (by omega) hsz hci (fun j hj => h.glt hj) h.ginj, rkI_first h.ginj hq e, bd1_n]
      unfold s_fillFromBasis_46
      rw [if_neg (fun y => by
        have : nI q = nI 4294967295 := y.trans (by decide +kernel)
        have := nI_inj32 (by omega) (by decide) this
        omega), nI_add, wrI_n (by omega) (by decide), show nI i + 1 = nI (i + 1) from nI_add i 1]
      show b_fillFromBasis_3 F (nI p) (nI sz) (nF cg) (nF R) (nF g) m (nI b) (nI row) (nI (i + 1)) (upd (nF (baT p n sz cg g (rowF R) T row b i)) (row + q) (nI p - nI (R (b * 126 + i)))) = _
      rw [pk_sub (by omega), upd_nF]
      have e2 := baT_step h (T := T) (row := row) (b := b) (show i < ctN n by omega) hq e
      rw [hRe, Nat.mod_eq_of_lt (show p - R (b * 126 + i) < p by omega)] at e2
      rw [e2]
      exact ih m (i + 1) (by omega) (by omega)
end FILL
