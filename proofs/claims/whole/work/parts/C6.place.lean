/-! THE CLASS'S DICTIONARY: placing one monomial. -/
def LI (p sz sc : Nat) (V : Nat → Nat → Nat) (st mx pv : Nat → Nat) : Prop :=
  (∀ t, t < sc → pv t < sz) ∧
  (∀ t, t < sc → st (40 * t + pv t) = 1) ∧
  (∀ t t', t < t' → t' < sc → st (40 * t' + pv t) = 0) ∧
  (∀ t, t < sc → ∀ i, i < sz → st (40 * t + i) < p) ∧
  (∀ t, t < sc → ∀ k, k < sz → mx (40 * t + k) < p) ∧
  (∀ t, t < sc → ∀ k, sc ≤ k → k < sz → mx (40 * t + k) = 0) ∧
  (∀ t, t < sc → ∀ i, i < sz → st (40 * t + i) = sm sc (fun k => mx (40 * t + k) * V k i) % p) ∧
  (∃ B : Nat → Nat → Nat, ∀ k, k < sc → ∀ i, i < sz → V k i % p = sm sc (fun t => B k t * st (40 * t + i)) % p)
theorem LI.pvl {p sz sc : Nat} {V : Nat → Nat → Nat} {st mx pv : Nat → Nat} (h : LI p sz sc V st mx pv) : ∀ t, t < sc → pv t < sz := h.1
theorem LI.st1 {p sz sc : Nat} {V : Nat → Nat → Nat} {st mx pv : Nat → Nat} (h : LI p sz sc V st mx pv) : ∀ t, t < sc → st (40 * t + pv t) = 1 := h.2.1
theorem LI.st0 {p sz sc : Nat} {V : Nat → Nat → Nat} {st mx pv : Nat → Nat} (h : LI p sz sc V st mx pv) : ∀ t t', t < t' → t' < sc → st (40 * t' + pv t) = 0 := h.2.2.1
theorem LI.stl {p sz sc : Nat} {V : Nat → Nat → Nat} {st mx pv : Nat → Nat} (h : LI p sz sc V st mx pv) : ∀ t, t < sc → ∀ i, i < sz → st (40 * t + i) < p := h.2.2.2.1
theorem LI.mxl {p sz sc : Nat} {V : Nat → Nat → Nat} {st mx pv : Nat → Nat} (h : LI p sz sc V st mx pv) : ∀ t, t < sc → ∀ k, k < sz → mx (40 * t + k) < p := h.2.2.2.2.1
theorem LI.mx0 {p sz sc : Nat} {V : Nat → Nat → Nat} {st mx pv : Nat → Nat} (h : LI p sz sc V st mx pv) : ∀ t, t < sc → ∀ k, sc ≤ k → k < sz → mx (40 * t + k) = 0 := h.2.2.2.2.2.1
theorem LI.mxs {p sz sc : Nat} {V : Nat → Nat → Nat} {st mx pv : Nat → Nat} (h : LI p sz sc V st mx pv) : ∀ t, t < sc → ∀ i, i < sz → st (40 * t + i) = sm sc (fun k => mx (40 * t + k) * V k i) % p := h.2.2.2.2.2.2.1
theorem LI.spn {p sz sc : Nat} {V : Nat → Nat → Nat} {st mx pv : Nat → Nat} (h : LI p sz sc V st mx pv) : ∃ B : Nat → Nat → Nat, ∀ k, k < sc → ∀ i, i < sz → V k i % p = sm sc (fun t => B k t * st (40 * t + i)) % p := h.2.2.2.2.2.2.2
/-- a combination of the rows with x is 0 -/
def InS (p sz sc : Nat) (V : Nat → Nat → Nat) (x a : Nat → Nat) : Prop := ∀ i, i < sz → (x i + sm sc (fun k => a k * V k i)) % p = 0
section PLACE
variable {p sz sc : Nat} {V : Nat → Nat → Nat} {st mx pv : Nat → Nat}
theorem LI.le (h : LI p sz sc V st mx pv) (hp : 2 ≤ p) : sc ≤ sz := by
  refine php sz sc pv h.pvl (fun i j hi hj e => ?_)
  rcases Nat.lt_trichotomy i j with q | q | q
  · have a := h.st0 i j q hj
    rw [e, h.st1 j hj] at a; omega
  · exact q
  · have a := h.st0 j i q hi
    rw [← e, h.st1 i hi] at a; omega
theorem LI.ech (h : LI p sz sc V st mx pv) {d : Nat → Nat} (h0 : ∀ t, t < sc → sm sc (fun t' => d t' * st (40 * t' + pv t)) % p = 0) : ∀ t, t < sc → d t % p = 0 := by
  intro t
  induction t using Nat.strongRecOn with
  | ind t ih =>
    intro ht
    have a := h0 t ht
    have e : sm sc (fun t' => d t' * st (40 * t' + pv t)) % p = sm sc (fun t' => if t' = t then d t else 0) % p := by
      refine sm_cg fun t' ht' => ?_
      rcases Nat.lt_trichotomy t' t with q | q | q
      · rw [if_neg (by omega), Nat.mul_mod, ih t' q ht', Nat.zero_mul]
      · rw [if_pos q, q, h.st1 t ht, Nat.mul_one]
      · rw [if_neg (by omega), h.st0 t t' q ht', Nat.mul_zero]
    rw [e, sm_one (f := fun t' => if t' = t then d t else 0) ht (x := d t) (fun i _ hne => if_neg hne) (if_pos rfl)] at a
    exact a
theorem neg_mod {p x A : Nat} (hp : 0 < p) (h : (x + A) % p = 0) : (p - 1) * A % p = x % p := by
  have e : x + A + (p - 1) * A = x + p * A := by
    obtain ⟨q, rfl⟩ : ∃ q, p = q + 1 := ⟨p - 1, by omega⟩
    rw [Nat.add_sub_cancel, Nat.succ_mul]; omega
  have : (x + A + (p - 1) * A) % p = (p - 1) * A % p := by rw [Nat.add_mod, h, Nat.zero_add, Nat.mod_mod]
  rw [← this, e, Nat.add_mul_mod_self_left]
theorem LI.notin (h : LI p sz sc V st mx pv) (hp : 2 ≤ p) {x a r mix : Nat → Nat} (ha : InS p sz sc V x a) (hr : ∀ i, i < sz → r i = (x i + sm sc (fun k => mix k * V k i)) % p) (h0 : ∀ t, t < sc → r (pv t) = 0) : ∀ i, i < sz → r i = 0 := by
  obtain ⟨B, hB⟩ := h.spn
  have key : ∀ i, i < sz → r i % p = sm sc (fun t => sm sc (fun k => (mix k + (p - 1) * a k) * B k t) * st (40 * t + i)) % p := by
    intro i hi
    have e1 : r i % p = sm sc (fun k => (mix k + (p - 1) * a k) * V k i) % p := by
      have e2 : sm sc (fun k => (mix k + (p - 1) * a k) * V k i) = sm sc (fun k => mix k * V k i) + (p - 1) * sm sc (fun k => a k * V k i) := by
        rw [← sm_mul, ← sm_add]
        refine sm_congr fun k _ => ?_
        rw [Nat.add_mul, Nat.mul_assoc]
      rw [hr i hi, Nat.mod_mod, e2, Nat.add_mod, ← neg_mod (by omega) (ha i hi), ← Nat.add_mod, Nat.add_comm]
    have e3 : sm sc (fun k => (mix k + (p - 1) * a k) * V k i) % p = sm sc (fun k => sm sc (fun t => (mix k + (p - 1) * a k) * B k t * st (40 * t + i))) % p := by
      refine sm_cg fun k hk => ?_
      rw [Nat.mul_mod, hB k hk i hi, ← Nat.mul_mod, ← sm_mul]
      refine congrArg (· % p) (sm_congr fun t _ => ?_)
      rw [Nat.mul_assoc]
    rw [e1, e3, sm_swap]
    refine congrArg (· % p) (sm_congr fun t _ => ?_)
    rw [Nat.mul_comm (sm sc fun k => (mix k + (p - 1) * a k) * B k t) (st (40 * t + i)), ← sm_mul]
    exact sm_congr fun k _ => Nat.mul_comm _ _
  have hd := h.ech (d := fun t => sm sc (fun k => (mix k + (p - 1) * a k) * B k t)) (fun t ht => by
    rw [← key (pv t) (h.pvl t ht), h0 t ht]; exact Nat.zero_mod p)
  intro i hi
  have e := key i hi
  rw [sm_dvd (fun t ht => by rw [Nat.mul_mod, hd t ht, Nat.zero_mul]; exact Nat.zero_mod p)] at e
  rw [hr i hi, Nat.mod_mod, ← hr i hi] at e
  exact e
/-- the state of reduceImage -/
def RI (p sz sc : Nat) (V : Nat → Nat → Nat) (st pv x : Nat → Nat) (t : Nat) (rest mix : Nat → Nat) : Prop :=
  (∀ i, i < sz → rest i = (x i + sm sc (fun k => mix k * V k i)) % p) ∧ (∀ k, k < sz → mix k < p) ∧ (∀ k, sc ≤ k → k < 40 → mix k = 0) ∧ (∀ t', t' < t → rest (pv t') = 0) ∧
    ∃ num : Nat → Nat, ∀ i, i < sz → x i % p = (rest i + sm sc (fun t' => num t' * st (40 * t' + i))) % p
theorem p_reduceImage_l {F : Nat} (hF : 200 < F) (hp : 2 ≤ p) (hp2 : p ≤ 32003) (hsz : sz ≤ 40) (h : LI p sz sc V st mx pv) {x : Nat → Nat} {imI : Nat → Int32} : ∀ (d m t : Nat) (rest mix : Nat → Nat), t + d = sc → d < m → RI p sz sc V st pv x t rest mix →
    ∃ rest' mix', RI p sz sc V st pv x sc rest' mix' ∧ b_reduceImage_25 F (nI p) (nI sz) (nI sc) (nF st) (nF mx) (nF pv) imI m (nI t) (nF rest) (nF mix) = some (nF rest', nF mix') := by
  have hle := h.le hp
  intro d
  induction d with
  | zero =>
    intro m t rest mix ht hm hR
    obtain ⟨m, rfl⟩ : ∃ q, m = q + 1 := ⟨m - 1, by omega⟩
    have e : t = sc := by omega
    subst e
    refine ⟨rest, mix, hR, ?_⟩
    show s_reduceImage_25 F (nI p) (nI sz) (nI t) (nF st) (nF mx) (nF pv) imI (b_reduceImage_25 F (nI p) (nI sz) (nI t) (nF st) (nF mx) (nF pv) imI m) (nI t) (nF rest) (nF mix) = _
    unfold s_reduceImage_25
    rw [if_pos (nI_le (by omega) (by omega))]
  | succ d ih =>
    intro m t rest mix ht hm hR
    obtain ⟨m, rfl⟩ : ∃ q, m = q + 1 := ⟨m - 1, by omega⟩
    have htl : t < sc := by omega
    have hpv := h.pvl t htl
    obtain ⟨r1, r2, r3, r4, num, r5⟩ := hR
    have hrl : ∀ i, i < sz → rest i < p := fun i hi => by rw [r1 i hi]; exact Nat.mod_lt _ (by omega)
    have hnl := hrl _ hpv
    have ha1 := p_addMultiple (F := F) (nA := 40) (nB := 1600) (p := p) (f := p - rest (pv t)) (ta := 0) (fa := 40 * t) (len := sz) (to := rest) (frm := st) (by decide) (by decide) (by omega) hp2 (by omega) (by omega) (by omega) (by omega) (fun j h1 h2 => by
      have := h.stl t htl (j - 40 * t) (by omega)
      rw [show 40 * t + (j - 40 * t) = j by omega] at this; exact this) (fun j h1 h2 => hrl j (by omega))
    have ha2 := p_addMultiple (F := F) (nA := 40) (nB := 1600) (p := p) (f := p - rest (pv t)) (ta := 0) (fa := 40 * t) (len := sz) (to := mix) (frm := mx) (by decide) (by decide) (by omega) hp2 (by omega) (by omega) (by omega) (by omega) (fun j h1 h2 => by
      have := h.mxl t htl (j - 40 * t) (by omega)
      rw [show 40 * t + (j - 40 * t) = j by omega] at this; exact this) (fun j h1 h2 => r2 j (by omega))
    have step : b_reduceImage_25 F (nI p) (nI sz) (nI sc) (nF st) (nF mx) (nF pv) imI (m + 1) (nI t) (nF rest) (nF mix) = if rest (pv t) = 0 then b_reduceImage_25 F (nI p) (nI sz) (nI sc) (nF st) (nF mx) (nF pv) imI m (nI (t + 1)) (nF rest) (nF mix) else
        b_reduceImage_25 F (nI p) (nI sz) (nI sc) (nF st) (nF mx) (nF pv) imI m (nI (t + 1)) (nF (amN p (p - rest (pv t)) 0 (40 * t) sz rest st)) (nF (amN p (p - rest (pv t)) 0 (40 * t) sz mix mx)) := by
      show s_reduceImage_25 F (nI p) (nI sz) (nI sc) (nF st) (nF mx) (nF pv) imI (b_reduceImage_25 F (nI p) (nI sz) (nI sc) (nF st) (nF mx) (nF pv) imI m) (nI t) (nF rest) (nF mix) = _
      unfold s_reduceImage_25
      rw [if_neg (nI_ge (by omega) (by omega)), rdI_n (by omega) (by decide)]
      show rdI 40 (nF rest) (nI (pv t)) _ = _
      rw [rdI_n (by omega) (by decide), show nI t + 1 = nI (t + 1) from nI_add t 1]
      by_cases z : rest (pv t) = 0
      · rw [if_pos z, if_pos (show nF rest (pv t) = 0 by show nI (rest (pv t)) = 0; rw [z]; rfl)]
      · rw [if_neg z, if_neg (show ¬ nF rest (pv t) = 0 from nI_ne0 (by omega) (by omega)), show nI t * 40 = nI (40 * t) by rw [show (40 : Int32) = nI 40 from rfl, pk_mul, Nat.mul_comm]]
        show bd1 (m_addMultiple F 40 1600 (nF st) (nI 0) (nI (40 * t)) (nI sz) (nI p - nI (rest (pv t))) (nI p) (nF rest)) _ = _
        rw [pk_sub (by omega), ha1, bd1_n]
        show bd1 (m_addMultiple F 40 1600 (nF mx) (nI 0) (nI (40 * t)) (nI sz) (nI p - nI (rest (pv t))) (nI p) (nF mix)) _ = _
        rw [pk_sub (by omega), ha2, bd1_n]
    rw [step]
    by_cases z : rest (pv t) = 0
    · rw [if_pos z]
      refine ih m (t + 1) rest mix (by omega) (by omega) ⟨r1, r2, r3, fun t' h1 => ?_, num, r5⟩
      by_cases e : t' = t
      · rw [e]; exact z
      · exact r4 t' (by omega)
    · rw [if_neg z]
      have er : ∀ i, i < sz → amN p (p - rest (pv t)) 0 (40 * t) sz rest st i = (rest i + (p - rest (pv t)) * st (40 * t + i)) % p := fun i hi => by unfold amN; rw [if_pos (by omega), Nat.sub_zero]
      have em : ∀ i, i < sz → amN p (p - rest (pv t)) 0 (40 * t) sz mix mx i = (mix i + (p - rest (pv t)) * mx (40 * t + i)) % p := fun i hi => by unfold amN; rw [if_pos (by omega), Nat.sub_zero]
      refine ih m (t + 1) _ _ (by omega) (by omega) ⟨fun i hi => ?_, fun k hk => ?_, fun k h1 h2 => ?_, fun t' h1 => ?_, fun t' => if t' = t then num t' + rest (pv t) else num t', fun i hi => ?_⟩
      · rw [er i hi, r1 i hi, Nat.mod_add_mod]
        have e2 : sm sc (fun k => amN p (p - rest (pv t)) 0 (40 * t) sz mix mx k * V k i) % p = (sm sc (fun k => mix k * V k i) + (p - rest (pv t)) * st (40 * t + i)) % p := by
          rw [h.mxs t htl i hi, ← Nat.add_mod_mod, Nat.mul_mod_mod, Nat.add_mod_mod, ← sm_mul, ← sm_add]
          refine sm_cg fun k hk => ?_
          rw [em k (by omega), Nat.mod_mul_mod, Nat.add_mul, Nat.mul_assoc]
        rw [Nat.add_assoc, ← Nat.add_mod_mod, ← e2, Nat.add_mod_mod]
      · rw [em k hk]; exact Nat.mod_lt _ (by omega)
      · unfold amN
        by_cases y : k < sz
        · rw [if_pos (by omega), r3 k h1 h2, Nat.sub_zero, h.mx0 t htl k h1 y, Nat.mul_zero, Nat.add_zero, Nat.zero_mod]
        · rw [if_neg (by omega)]; exact r3 k h1 h2
      · by_cases e : t' = t
        · rw [e, er _ hpv, h.st1 t htl, Nat.mul_one, show rest (pv t) + (p - rest (pv t)) = p by omega, Nat.mod_self]
        · rw [er _ (h.pvl t' (by omega)), r4 t' (by omega), h.st0 t' t (by omega) htl, Nat.mul_zero, Nat.add_zero, Nat.zero_mod]
      · have e3 : sm sc (fun t' => (if t' = t then num t' + rest (pv t) else num t') * st (40 * t' + i)) = sm sc (fun t' => num t' * st (40 * t' + i)) + rest (pv t) * st (40 * t + i) := by
          have : sm sc (fun t' => if t' = t then rest (pv t) * st (40 * t + i) else 0) = rest (pv t) * st (40 * t + i) := sm_one htl (fun j _ hne => if_neg hne) (if_pos rfl)
          rw [← this, ← sm_add]
          refine sm_congr fun t' _ => ?_
          by_cases e : t' = t
          · rw [if_pos e, if_pos e, Nat.add_mul, e]
          · rw [if_neg e, if_neg e, Nat.add_zero]
        rw [r5 i hi, e3, er i hi, Nat.mod_add_mod]
        have e4 : rest i + (p - rest (pv t)) * st (40 * t + i) + (sm sc (fun t' => num t' * st (40 * t' + i)) + rest (pv t) * st (40 * t + i)) = rest i + sm sc (fun t' => num t' * st (40 * t' + i)) + p * st (40 * t + i) := by
          have : (p - rest (pv t)) * st (40 * t + i) + rest (pv t) * st (40 * t + i) = p * st (40 * t + i) := by rw [← Nat.add_mul, Nat.sub_add_cancel (by omega)]
          omega
        rw [e4, Nat.add_mul_mod_self_left]
theorem p_reduceImage {F : Nat} (hF : 200 < F) (hp : 2 ≤ p) (hp2 : p ≤ 32003) (hsz : sz ≤ 40) (h : LI p sz sc V st mx pv) {x rest mix : Nat → Nat} (hx : Vc p sz x) :
    ∃ rest' mix', RI p sz sc V st pv x sc rest' mix' ∧ m_reduceImage F (nI p) (nI sz) (nI sc) (nF st) (nF mx) (nF pv) (nF x) (nF rest) (nF mix) = some (nF rest', nF mix') := by
  have e1 : va_cpy (nF x) (nF rest) 0 0 40 = nF (fun j => if j < 40 then x j else rest j) := by
    funext j
    unfold va_cpy
    show _ = nI (if j < 40 then x j else rest j)
    by_cases q : j < 40
    · rw [if_pos (by omega), if_pos q]
      show nI (x (0 + (j - 0))) = _
      rw [Nat.zero_add, Nat.sub_zero]
    · rw [if_neg (by omega), if_neg q]; rfl
  have e2 : (fun j => if j < 40 then (0 : Int32) else nF mix j) = nF (fun j => if j < 40 then 0 else mix j) := by
    funext j
    show _ = nI (if j < 40 then 0 else mix j)
    by_cases q : j < 40
    · rw [if_pos q, if_pos q]; rfl
    · rw [if_neg q, if_neg q]; rfl
  obtain ⟨rest', mix', a, b⟩ := p_reduceImage_l (F := F) (imI := nF x) hF hp hp2 hsz h (x := x) sc F 0 (fun j => if j < 40 then x j else rest j) (fun j => if j < 40 then 0 else mix j) (by omega) (by have := h.le hp; omega) ⟨fun i hi => by
      show (if i < 40 then x i else rest i) = _
      rw [if_pos (by omega), sm_zero (fun k hk => by
        show (if k < 40 then 0 else mix k) * V k i = 0
        rw [if_pos (by have := h.le hp; omega), Nat.zero_mul]), Nat.add_zero, Nat.mod_eq_of_lt (hx i).1], fun k hk => by
      show (if k < 40 then 0 else mix k) < p
      rw [if_pos (by omega)]; omega, fun k _ hk => if_pos hk, fun t' h => by omega, fun _ => 0, fun i hi => by
      show _ = ((if i < 40 then x i else rest i) + _) % p
      rw [if_pos (by omega), sm_zero (fun k _ => Nat.zero_mul _), Nat.add_zero]⟩
  refine ⟨rest', mix', a, ?_⟩
  unfold m_reduceImage
  rw [show (0 : Int32) = nI 0 from rfl, show (40 : Int32) = nI 40 from rfl, cpI_n (by decide) (by decide) (by decide) (by decide), p_fill (by decide) (by omega), bd1_n, e1]
  rw [show (fun j => if j < 40 then nI 0 else nF mix j) = nF (fun j => if j < 40 then 0 else mix j) from e2]
  exact b
end PLACE
