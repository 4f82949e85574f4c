/-! THE CLASS'S DICTIONARY: place, act, hasHead, leastProduct. -/
theorem bd7_n {ρ a1 a2 a3 a4 a5 a6 a7 : Type} {x1 : a1} {x2 : a2} {x3 : a3} {x4 : a4} {x5 : a5} {x6 : a6} {x7 : a7} {k : a1 → a2 → a3 → a4 → a5 → a6 → a7 → Option ρ} : bd7 (some (x1, x2, x3, x4, x5, x6, x7)) k = k x1 x2 x3 x4 x5 x6 x7 := rfl
theorem bd9_n {ρ a1 a2 a3 a4 a5 a6 a7 a8 a9 : Type} {x1 : a1} {x2 : a2} {x3 : a3} {x4 : a4} {x5 : a5} {x6 : a6} {x7 : a7} {x8 : a8} {x9 : a9} {k : a1 → a2 → a3 → a4 → a5 → a6 → a7 → a8 → a9 → Option ρ} : bd9 (some (x1, x2, x3, x4, x5, x6, x7, x8, x9)) k = k x1 x2 x3 x4 x5 x6 x7 x8 x9 := rfl
theorem bd11_n {ρ a1 a2 a3 a4 a5 a6 a7 a8 a9 a10 a11 : Type} {x1 : a1} {x2 : a2} {x3 : a3} {x4 : a4} {x5 : a5} {x6 : a6} {x7 : a7} {x8 : a8} {x9 : a9} {x10 : a10} {x11 : a11} {k : a1 → a2 → a3 → a4 → a5 → a6 → a7 → a8 → a9 → a10 → a11 → Option ρ} : bd11 (some (x1, x2, x3, x4, x5, x6, x7, x8, x9, x10, x11)) k = k x1 x2 x3 x4 x5 x6 x7 x8 x9 x10 x11 := rfl
/-- a row of 40 laid over an array -/
def rw40 (a g : Nat → Nat) (q : Nat) : Nat → Nat := fun j => if 40 * q ≤ j ∧ j < 40 * q + 40 then a (j - 40 * q) else g j
theorem cpy40 (a g : Nat → Nat) (q : Nat) : va_cpy (nF a) (nF g) 0 (40 * q) 40 = nF (rw40 a g q) := by
  funext j
  unfold va_cpy
  show _ = nI (rw40 a g q j)
  unfold rw40
  by_cases h : 40 * q ≤ j ∧ j < 40 * q + 40
  · rw [if_pos h, if_pos h]
    show nI (a (0 + (j - 40 * q))) = _
    rw [Nat.zero_add]
  · rw [if_neg h, if_neg h]; rfl
theorem rw40_in {a g : Nat → Nat} {q i : Nat} (hi : i < 40) : rw40 a g q (40 * q + i) = a i := by
  unfold rw40
  rw [if_pos (by omega), Nat.add_sub_cancel_left]
theorem rw40_out {a g : Nat → Nat} {q k i : Nat} (hi : i < 40) (h : k ≠ q) : rw40 a g q (40 * k + i) = g (40 * k + i) := by
  unfold rw40
  rw [if_neg (by omega)]
section PLACE2
variable {F p sz sc : Nat} {V : Nat → Nat → Nat} {st mx pv : Nat → Nat}
theorem p_addPolynomial {e hc : Nat} {mix hd tl : Nat → Nat} (h : hc < 160) : m_addPolynomial F (nF mix) (nI e) (nI hc) (nF hd) (nF tl) = some (nI (hc + 1), nF (fun j => if j = hc then e else hd j), nF (rw40 mix tl hc)) := by
  unfold m_addPolynomial
  rw [if_neg (show ¬ (160 : Int32) ≤ nI hc from nI_ge (show hc < 160 from h) (by decide)), wrI_n h (by decide), upd_nF, show nI hc * 40 = nI (40 * hc) by rw [show (40 : Int32) = nI 40 from rfl, pk_mul, Nat.mul_comm], show (0 : Int32) = nI 0 from rfl, show (40 : Int32) = nI 40 from rfl, cpI_n (by decide) (by omega) (by decide) (by decide), cpy40, show nI hc + 1 = nI (hc + 1) from nI_add hc 1]
theorem p_addStandard (hF : 40000 < F) (hp : 2 ≤ p) (hp2 : p ≤ 32003) (hsz : sz ≤ 40) {e pt : Nat} {x rest w im mix : Nat → Nat} (hsc : sc < sz) (hpt : pt < sz) (hr : ∀ i, i < sz → rest i < p) (hm : ∀ k, k < sz → mix k < p) :
    m_addStandard F (nI p) (nI sz) (nF x) (nF rest) (nI e) (nI pt) (nI sc) (nF w) (nF im) (nF st) (nF mx) (nF pv) (nF mix) =
      some (nI (sc + 1), nF (fun j => if j = sc then e else w j), nF (rw40 x im sc), nF (amN p (rest pt ^ (p - 2) % p) (40 * sc) 0 sz (rw40 (fun _ => 0) st sc) rest), nF (amN p (rest pt ^ (p - 2) % p) (40 * sc) 0 sz (rw40 (fun _ => 0) mx sc) (fun j => if j = sc then 1 else mix j)), nF (fun j => if j = sc then pt else pv j), nF (fun j => if j = sc then 1 else mix j)) := by
  have ef : ∀ g : Nat → Nat, (fun j => if 40 * sc ≤ j ∧ j < 40 * sc + 40 then nI 0 else nF g j) = nF (rw40 (fun _ => 0) g sc) := fun g => by
    funext j
    show _ = nI (rw40 (fun _ => 0) g sc j)
    unfold rw40
    by_cases q : 40 * sc ≤ j ∧ j < 40 * sc + 40
    · rw [if_pos q, if_pos q]
    · rw [if_neg q, if_neg q]; rfl
  have h0 : ∀ g : Nat → Nat, ∀ j, 40 * sc ≤ j → j < 40 * sc + sz → rw40 (fun _ => 0) g sc j < p := fun g j h1 h2 => by unfold rw40; rw [if_pos (by omega)]; show 0 < p; omega
  unfold m_addStandard
  rw [if_neg (show ¬ (40 : Int32) ≤ nI sc from nI_ge (show sc < 40 by omega) (by decide)), rdI_n (by omega) (by decide)]
  show bd1 (m_inverse F (nI (rest pt)) (nI p)) _ = _
  rw [p_inverse hp hp2 (hr pt hpt) (by omega), bd1_n, wrI_n (by omega) (by decide), show (1 : Int32) = nI 1 from rfl, upd_nF, show nI sc * 40 = nI (40 * sc) by rw [show (40 : Int32) = nI 40 from rfl, pk_mul, Nat.mul_comm], show nI (40 * sc) + 40 = nI (40 * sc + 40) from nI_add _ 40, show (0 : Int32) = nI 0 from rfl, p_fillR (by decide) (by omega) (by omega) (by omega), bd1_n, ef, p_fillR (by decide) (by omega) (by omega) (by omega), bd1_n, ef]
  have hfl : rest pt ^ (p - 2) % p < p + 1 := by have := Nat.mod_lt (rest pt ^ (p - 2)) (show 0 < p by omega); omega
  rw [p_addMultiple (by decide) (by decide) (by omega) hp2 hfl (by omega) (by omega) (by omega) (fun j h1 h2 => hr j (by omega)) (h0 st), bd1_n, p_addMultiple (by decide) (by decide) (by omega) hp2 hfl (by omega) (by omega) (by omega) (fun j h1 h2 => by
    show (if j = sc then 1 else mix j) < p
    by_cases q : j = sc
    · rw [if_pos q]; omega
    · rw [if_neg q]; exact hm j (by omega)) (h0 mx), bd1_n, show (40 : Int32) = nI 40 from rfl, cpI_n (by decide) (by omega) (by decide) (by decide), cpy40, wrI_n (by omega) (by decide), upd_nF, wrI_n (by omega) (by decide), upd_nF, nI_add]
/-- the step's rows after one more -/
theorem LI.add (h : LI p sz sc V st mx pv) (hp : isP p) (hsz : sz ≤ 40) {x rest mix : Nat → Nat} (hR : RI p sz sc V st pv x sc rest mix) {pt : Nat} (hpt : pt < sz) (hne : rest pt ≠ 0) : sc < sz ∧
    LI p sz (sc + 1) (fun k i => if k = sc then x i else V k i) (amN p (rest pt ^ (p - 2) % p) (40 * sc) 0 sz (rw40 (fun _ => 0) st sc) rest) (amN p (rest pt ^ (p - 2) % p) (40 * sc) 0 sz (rw40 (fun _ => 0) mx sc) (fun j => if j = sc then 1 else mix j)) (fun j => if j = sc then pt else pv j) := by
  have hp2 := hp.1
  obtain ⟨r1, r2, r3, r4, num, r5⟩ := hR
  have hrl : rest pt < p := by rw [r1 pt hpt]; exact Nat.mod_lt _ (by omega)
  have hinv := fm_pow hp (show 0 < rest pt by omega) hrl
  generalize rest pt ^ (p - 2) % p = f at hinv
  have hsc : sc < sz := by
    refine php sz (sc + 1) (fun j => if j = sc then pt else pv j) (fun i hi => ?_) (fun i j hi hj e => ?_)
    · show (if i = sc then pt else pv i) < sz
      by_cases q : i = sc
      · rw [if_pos q]; exact hpt
      · rw [if_neg q]; exact h.pvl i (by omega)
    · by_cases q : i = sc <;> by_cases y : j = sc
      · omega
      · exfalso
        rw [if_pos q, if_neg y] at e
        exact hne (by rw [e]; exact r4 j (by omega))
      · exfalso
        rw [if_neg q, if_pos y] at e
        exact hne (by rw [← e]; exact r4 i (by omega))
      · rw [if_neg q, if_neg y] at e
        rcases Nat.lt_trichotomy i j with z | z | z
        · have a := h.st0 i j z (by omega)
          rw [e, h.st1 j (by omega)] at a; omega
        · exact z
        · have a := h.st0 j i z (by omega)
          rw [← e, h.st1 i (by omega)] at a; omega
  have old : ∀ (g rr : Nat → Nat) t i, t < sc → i < sz → amN p f (40 * sc) 0 sz (rw40 (fun _ => 0) g sc) rr (40 * t + i) = g (40 * t + i) := by
    intro g rr t i ht hi
    unfold amN
    rw [if_neg (by omega), rw40_out (by omega) (by omega)]
  have new : ∀ (g rr : Nat → Nat) i, i < sz → amN p f (40 * sc) 0 sz (rw40 (fun _ => 0) g sc) rr (40 * sc + i) = f * rr i % p := by
    intro g rr i hi
    unfold amN
    rw [if_pos (by omega), rw40_in (by omega), Nat.zero_add, Nat.add_sub_cancel_left, Nat.zero_add]
  refine ⟨hsc, ⟨fun t ht => ?_, fun t ht => ?_, fun t t' htt ht' => ?_, fun t ht i hi => ?_, fun t ht k hk => ?_, fun t ht k h1 h2 => ?_, fun t ht i hi => ?_, ?_⟩⟩
  · show (if t = sc then pt else pv t) < sz
    by_cases q : t = sc
    · rw [if_pos q]; exact hpt
    · rw [if_neg q]; exact h.pvl t (by omega)
  · try dsimp only
    by_cases q : t = sc
    · rw [if_pos q, q, new st rest pt hpt, Nat.mul_comm]; exact hinv
    · rw [if_neg q, old st rest t _ (by omega) (h.pvl t (by omega))]; exact h.st1 t (by omega)
  · try dsimp only
    rw [if_neg (show ¬ t = sc by omega)]
    by_cases q : t' = sc
    · rw [q, new st rest _ (h.pvl t (by omega)), r4 t (by omega), Nat.mul_zero, Nat.zero_mod]
    · rw [old st rest t' _ (by omega) (h.pvl t (by omega))]; exact h.st0 t t' htt (by omega)
  · by_cases q : t = sc
    · rw [q, new st rest i hi]; exact Nat.mod_lt _ (by omega)
    · rw [old st rest t i (by omega) hi]; exact h.stl t (by omega) i hi
  · by_cases q : t = sc
    · rw [q, new mx _ k hk]; exact Nat.mod_lt _ (by omega)
    · rw [old mx _ t k (by omega) hk]; exact h.mxl t (by omega) k hk
  · by_cases q : t = sc
    · rw [q, new mx _ k h2]
      try dsimp only
      rw [if_neg (by omega), r3 k (by omega) (by omega), Nat.mul_zero, Nat.zero_mod]
    · rw [old mx _ t k (by omega) h2]; exact h.mx0 t (by omega) k (by omega) h2
  · by_cases q : t = sc
    · subst q
      rw [new st rest i hi, sm_s]
      try dsimp only
      rw [if_pos rfl, new mx _ t hsc]
      try dsimp only
      rw [if_pos rfl, Nat.mul_one, r1 i hi, Nat.mul_mod_mod]
      have e1 : sm t (fun k => amN p f (40 * t) 0 sz (rw40 (fun _ => 0) mx t) (fun j => if j = t then 1 else mix j) (40 * t + k) * (if k = t then x i else V k i)) % p = f * sm t (fun k => mix k * V k i) % p := by
        rw [← sm_mul]
        refine sm_cg fun k hk => ?_
        rw [new mx _ k (by omega), if_neg (show ¬ k = t by omega)]
        try dsimp only
        rw [if_neg (show ¬ k = t by omega), Nat.mod_mul_mod, Nat.mul_assoc]
      rw [Nat.add_mod, e1, Nat.mod_mul_mod, ← Nat.add_mod, ← Nat.mul_add, Nat.add_comm]
    · rw [old st rest t i (by omega) hi, h.mxs t (by omega) i hi, sm_s, old mx _ t sc (by omega) hsc, h.mx0 t (by omega) sc (Nat.le_refl _) hsc, Nat.zero_mul, Nat.add_zero]
      refine congrArg (· % p) (sm_congr fun k hk => ?_)
      rw [old mx _ t k (by omega) (by omega)]
      try dsimp only
      rw [if_neg (show ¬ k = sc by omega)]
  · obtain ⟨B, hB⟩ := h.spn
    refine ⟨fun k t => if k = sc then (if t = sc then rest pt else num t) else (if t = sc then 0 else B k t), fun k hk i hi => ?_⟩
    rw [sm_s, new st rest i hi]
    try dsimp only
    by_cases q : k = sc
    · rw [if_pos q, if_pos q, if_pos rfl, r5 i hi]
      have e1 : sm sc (fun t => (if k = sc then (if t = sc then rest pt else num t) else (if t = sc then 0 else B k t)) * amN p f (40 * sc) 0 sz (rw40 (fun _ => 0) st sc) rest (40 * t + i)) = sm sc (fun t => num t * st (40 * t + i)) := by
        refine sm_congr fun t ht => ?_
        rw [if_pos q, if_neg (show ¬ t = sc by omega), old st rest t i ht hi]
      have e2 : rest pt * (f * rest i % p) % p = rest i % p := by
        rw [Nat.mul_mod_mod, ← Nat.mul_assoc, Nat.mul_mod, hinv, Nat.one_mul, Nat.mod_mod]
      rw [e1, Nat.add_mod (sm sc _), e2, ← Nat.add_mod, Nat.add_comm]
    · rw [if_neg q, if_neg q, if_pos rfl, Nat.zero_mul, Nat.add_zero, hB k (by omega) i hi]
      refine congrArg (· % p) (sm_congr fun t ht => ?_)
      rw [if_neg q, if_neg (show ¬ t = sc by omega), old st rest t i ht hi]
theorem p_place (hF : 40000 < F) (hp : isP p) (hp2 : p ≤ 32003) (hsz : sz ≤ 40) (h : LI p sz sc V st mx pv) {x : Nat → Nat} (hx : Vc p sz x) {e hc : Nat} (hhc : hc < 160) {hd tl w im rest mix : Nat → Nat} :
    (∃ a rest', InS p sz sc V x a ∧ (∀ k, k < 40 → a k < p) ∧ (∀ k, sc ≤ k → k < 40 → a k = 0) ∧
      m_place F (nI p) (nI sz) (nF x) (nI e) (nI hc) (nI sc) (nF hd) (nF tl) (nF w) (nF im) (nF st) (nF mx) (nF pv) (nF rest) (nF mix) = some (nI (hc + 1), nI sc, nF (fun j => if j = hc then e else hd j), nF (rw40 a tl hc), nF w, nF im, nF st, nF mx, nF pv, nF rest', nF a)) ∨
    (∃ st' mx' pv' rest' mix', (¬ ∃ a, InS p sz sc V x a) ∧ sc < sz ∧ LI p sz (sc + 1) (fun k i => if k = sc then x i else V k i) st' mx' pv' ∧
      m_place F (nI p) (nI sz) (nF x) (nI e) (nI hc) (nI sc) (nF hd) (nF tl) (nF w) (nF im) (nF st) (nF mx) (nF pv) (nF rest) (nF mix) = some (nI hc, nI (sc + 1), nF hd, nF tl, nF (fun j => if j = sc then e else w j), nF (rw40 x im sc), nF st', nF mx', nF pv', nF rest', nF mix')) := by
  have hpp := hp.1
  obtain ⟨rest', mix', hR, e1⟩ := p_reduceImage (F := F) (rest := rest) (mix := mix) (by omega) hpp hp2 hsz h hx
  have hrl : ∀ i, i < sz → rest' i < p := fun i hi => by rw [hR.1 i hi]; exact Nat.mod_lt _ (by omega)
  have hle := h.le hpp
  rcases p_first_l F 40 (by decide) (nF rest') sz hsz sz F 0 (by omega) (by omega) with ⟨j, _, j2, j3, _, j5⟩ | ⟨j1, j2⟩
  · right
    have hne : rest' j ≠ 0 := fun z => j3 (by show nI (rest' j) = 0; rw [z]; rfl)
    obtain ⟨s1, s2⟩ := h.add hp hsz hR j2 hne
    refine ⟨_, _, _, rest', fun q => if q = sc then 1 else mix' q, fun ⟨a, ha⟩ => hne (h.notin hpp ha hR.1 hR.2.2.2.1 j j2), s1, s2, ?_⟩
    unfold m_place
    rw [e1, bd2_n, show m_first F 40 (nF rest') (nI sz) = some (nI j) from j5, bd1_n, if_neg (nI_nm1 (by omega)), p_addStandard hF hpp hp2 hsz s1 j2 hrl hR.2.1, bd7_n]
  · left
    have hz : ∀ i, i < sz → rest' i = 0 := fun i hi => by
      have := j1 i (Nat.zero_le _) hi
      exact nI_inj32 (by have := hrl i hi; omega) (by decide) this
    refine ⟨mix', rest', fun i hi => by rw [← hR.1 i hi]; exact hz i hi, fun k hk => ?_, hR.2.2.1, ?_⟩
    · by_cases q : k < sz
      · exact hR.2.1 k q
      · rw [hR.2.2.1 k (by omega) hk]; omega
    · unfold m_place
      rw [e1, bd2_n, show m_first F 40 (nF rest') (nI sz) = some (-1) from j2, bd1_n, if_pos rfl, p_addPolynomial hhc, bd3_n]
end PLACE2
