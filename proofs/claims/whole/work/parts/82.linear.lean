/-! ROWS AND THEIR COMBINATIONS, modulo p (no machine here). Vectors: functions of the place; L i = 1 where a row leads with place i, else 0. -/
def sm : Nat → (Nat → Nat) → Nat
  | 0, _ => 0
  | n + 1, g => sm n g + g n
theorem sm_congr {n : Nat} {f g : Nat → Nat} (h : ∀ i, i < n → f i = g i) : sm n f = sm n g := by
  induction n with
  | zero => rfl
  | succ n ih =>
    show sm n f + f n = sm n g + g n
    rw [ih (fun i hi => h i (by omega)), h n (by omega)]
theorem sm_add (n : Nat) (f g : Nat → Nat) : sm n (fun i => f i + g i) = sm n f + sm n g := by
  induction n with
  | zero => rfl
  | succ n ih =>
    show sm n _ + (f n + g n) = (sm n f + f n) + (sm n g + g n)
    rw [ih]; omega
theorem sm_mul (n c : Nat) (f : Nat → Nat) : sm n (fun i => c * f i) = c * sm n f := by
  induction n with
  | zero => rfl
  | succ n ih =>
    show sm n _ + c * f n = c * (sm n f + f n)
    rw [ih, Nat.mul_add]
theorem sm_zero {n : Nat} {f : Nat → Nat} (h : ∀ i, i < n → f i = 0) : sm n f = 0 := by
  induction n with
  | zero => rfl
  | succ n ih =>
    show sm n f + f n = 0
    rw [ih (fun i hi => h i (by omega)), h n (by omega)]
theorem sm_mod (p n : Nat) (f : Nat → Nat) : sm n (fun i => f i % p) % p = sm n f % p := by
  induction n with
  | zero => rfl
  | succ n ih =>
    show (sm n _ + f n % p) % p = (sm n f + f n) % p
    rw [Nat.add_mod, ih, Nat.mod_mod, ← Nat.add_mod]
theorem sm_dvd {p n : Nat} {f : Nat → Nat} (h : ∀ i, i < n → f i % p = 0) : sm n f % p = 0 := by
  rw [← sm_mod, sm_zero h, Nat.zero_mod]
theorem sm_one {n k x : Nat} (hk : k < n) {f : Nat → Nat} (h : ∀ i, i < n → i ≠ k → f i = 0) (hx : f k = x) : sm n f = x := by
  induction n with
  | zero => omega
  | succ n ih =>
    show sm n f + f n = x
    by_cases e : k = n
    · subst e
      rw [sm_zero (fun i hi => h i (by omega) (by omega)), hx, Nat.zero_add]
    · rw [ih (by omega) (fun i hi hne => h i (by omega) hne), h n (by omega) (by omega), Nat.add_zero]
theorem sm_swap (n m : Nat) (f : Nat → Nat → Nat) : sm n (fun i => sm m (fun j => f i j)) = sm m (fun j => sm n (fun i => f i j)) := by
  induction n with
  | zero =>
    show 0 = sm m (fun j => 0)
    rw [sm_zero (fun _ _ => rfl)]
  | succ n ih =>
    show sm n _ + sm m (fun j => f n j) = sm m (fun j => sm n (fun i => f i j) + f n j)
    rw [ih, sm_add]
/-- the top of a sum split off: what is above J is 0 modulo p -/
theorem sm_cut {p : Nat} {f : Nat → Nat} {J : Nat} : ∀ n, J ≤ n → (∀ i, J ≤ i → i < n → f i % p = 0) → sm n f % p = sm J f % p := by
  intro n
  induction n with
  | zero => intro hJ _; have : J = 0 := by omega
            subst this; rfl
  | succ n ih =>
    intro hJ h
    by_cases e : J = n + 1
    · subst e; rfl
    · show (sm n f + f n) % p = _
      rw [Nat.add_mod, h n (by omega) (by omega), Nat.add_zero, Nat.mod_mod, ih (by omega) (fun i h1 h2 => h i h1 (by omega))]
/-- a combination of the rows -/
def LC (cnt : Nat) (L : Nat → Nat) (row : Nat → Nat → Nat) (c : Nat → Nat) (j : Nat) : Nat := sm cnt (fun i => L i * (c i * row i j))
def RS (p cnt : Nat) (L : Nat → Nat) (row : Nat → Nat → Nat) (f : Nat → Nat) : Prop := ∃ c : Nat → Nat, ∀ j, f j = LC cnt L row c j % p
/-- a row that leads has 1 there and 0 above -/
def Ech (p cnt : Nat) (L : Nat → Nat) (row : Nat → Nat → Nat) : Prop := (∀ i, L i = 0 ∨ L i = 1) ∧ (∀ i, L i = 1 → i < cnt ∧ row i i = 1 ∧ (∀ j, i < j → row i j = 0) ∧ ∀ j, row i j < p)
theorem LC_add (cnt : Nat) (L : Nat → Nat) (row : Nat → Nat → Nat) (c d : Nat → Nat) (a j : Nat) : LC cnt L row (fun i => c i + a * d i) j = LC cnt L row c j + a * LC cnt L row d j := by
  unfold LC
  rw [← sm_mul, ← sm_add]
  apply sm_congr
  intro i _
  rw [Nat.add_mul, Nat.mul_add]
  congr 1
  rw [Nat.mul_assoc a, Nat.mul_left_comm]
theorem RS_zero (p cnt : Nat) (L : Nat → Nat) (row : Nat → Nat → Nat) : RS p cnt L row (fun _ => 0) := ⟨fun _ => 0, fun j => by
  unfold LC
  rw [sm_zero (fun i _ => by rw [Nat.zero_mul, Nat.mul_zero]), Nat.zero_mod]⟩
theorem RS_addm {p cnt : Nat} {L : Nat → Nat} {row : Nat → Nat → Nat} {f g : Nat → Nat} (hf : RS p cnt L row f) (hg : RS p cnt L row g) (a : Nat) : RS p cnt L row (fun j => (f j + a * g j) % p) := by
  obtain ⟨c, hc⟩ := hf
  obtain ⟨d, hd⟩ := hg
  refine ⟨fun i => c i + a * d i, fun j => ?_⟩
  show (f j + a * g j) % p = LC cnt L row (fun i => c i + a * d i) j % p
  rw [LC_add, hc, hd, Nat.mod_add_mod, Nat.add_mod, Nat.mul_mod a, Nat.mod_mod, ← Nat.mul_mod, ← Nat.add_mod]
theorem RS_row {p cnt : Nat} {L : Nat → Nat} {row : Nat → Nat → Nat} (h : Ech p cnt L row) {i : Nat} (hi : L i = 1) : RS p cnt L row (row i) := by
  obtain ⟨h1, h2, h3, h4⟩ := h.2 i hi
  refine ⟨fun q => if q = i then 1 else 0, fun j => ?_⟩
  unfold LC
  rw [sm_one h1 (x := row i j) (fun q _ hq => by show L q * ((if q = i then 1 else 0) * row q j) = 0; rw [if_neg hq, Nat.zero_mul, Nat.mul_zero]) (by show L i * ((if i = i then 1 else 0) * row i j) = row i j; rw [if_pos rfl, hi, Nat.one_mul, Nat.one_mul]), Nat.mod_eq_of_lt (h4 j)]
/-- above J nothing: then the rows above J don't take part -/
theorem RS_top {p cnt : Nat} {L : Nat → Nat} {row : Nat → Nat → Nat} (h : Ech p cnt L row) {c f : Nat → Nat} (hc : ∀ j, f j = LC cnt L row c j % p) {J : Nat} (hJ : J ≤ cnt) (h0 : ∀ j, J ≤ j → j < cnt → f j = 0) : ∀ k, k ≤ cnt - J → (∀ i, cnt - k ≤ i → i < cnt → L i * c i % p = 0) := by
  intro k
  induction k with
  | zero => intro _ i h1 h2; omega
  | succ k ih =>
    intro hk i h1 h2
    by_cases e : i = cnt - (k + 1)
    · have ih' := ih (by omega)
      rcases h.1 i with z | z
      · rw [z, Nat.zero_mul, Nat.zero_mod]
      · obtain ⟨_, r1, r2, _⟩ := h.2 i z
        have hf := h0 i (by omega) h2
        rw [hc] at hf
        unfold LC at hf
        have cut : sm cnt (fun q => L q * (c q * row q i)) % p = sm (i + 1) (fun q => L q * (c q * row q i)) % p := sm_cut cnt (by omega) (fun q h3 h4 => by
          have := ih' q (by omega) h4
          rw [← Nat.mul_assoc, Nat.mul_mod, this, Nat.zero_mul, Nat.zero_mod])
        rw [cut] at hf
        have low : sm i (fun q => L q * (c q * row q i)) = 0 := sm_zero (fun q hq => by
          rcases h.1 q with y | y
          · rw [y, Nat.zero_mul]
          · rw [(h.2 q y).2.2.1 i hq, Nat.mul_zero, Nat.mul_zero])
        have e2 : sm (i + 1) (fun q => L q * (c q * row q i)) = L i * c i := by
          show sm i _ + L i * (c i * row i i) = _
          rw [low, r1, Nat.mul_one, Nat.zero_add]
        rw [e2] at hf
        exact hf
    · exact ih (by omega) i (by omega) h2
theorem RS_cut {p cnt : Nat} {L : Nat → Nat} {row : Nat → Nat → Nat} (h : Ech p cnt L row) {c f : Nat → Nat} (hc : ∀ j, f j = LC cnt L row c j % p) {J : Nat} (hJ : J ≤ cnt) (h0 : ∀ j, J ≤ j → j < cnt → f j = 0) (j : Nat) : f j = sm J (fun i => L i * (c i * row i j)) % p := by
  rw [hc j]
  unfold LC
  refine sm_cut cnt hJ (fun i h1 h2 => ?_)
  have := RS_top h hc hJ h0 (cnt - J) (Nat.le_refl _) i (by omega) h2
  rw [← Nat.mul_assoc, Nat.mul_mod, this, Nat.zero_mul, Nat.zero_mod]
/-- where a combination's greatest place is, a row leads -/
theorem RS_lead {p cnt : Nat} {L : Nat → Nat} {row : Nat → Nat → Nat} (h : Ech p cnt L row) {f : Nat → Nat} (hf : RS p cnt L row f) {i : Nat} (hi : i < cnt) (hne : f i ≠ 0) (h0 : ∀ j, i < j → j < cnt → f j = 0) : L i = 1 := by
  obtain ⟨c, hc⟩ := hf
  rcases h.1 i with z | z
  · exfalso
    apply hne
    rw [RS_cut h hc (J := i + 1) (by omega) (fun j h1 h2 => h0 j (by omega) h2) i]
    have low : sm i (fun q => L q * (c q * row q i)) = 0 := sm_zero (fun q hq => by
      rcases h.1 q with y | y
      · rw [y, Nat.zero_mul]
      · rw [(h.2 q y).2.2.1 i hq, Nat.mul_zero, Nat.mul_zero])
    show (sm i _ + L i * _) % p = 0
    rw [low, z, Nat.zero_mul, Nat.zero_mod]
  · exact z
/-- the greatest place that isn't 0 -/
theorem top_ex {cnt : Nat} {f : Nat → Nat} (h : ∃ j, j < cnt ∧ f j ≠ 0) : ∃ i, i < cnt ∧ f i ≠ 0 ∧ ∀ j, i < j → j < cnt → f j = 0 := by
  induction cnt with
  | zero => obtain ⟨j, hj, _⟩ := h; omega
  | succ n ih =>
    by_cases e : f n = 0
    · obtain ⟨j, hj, hne⟩ := h
      have : j ≠ n := fun q => hne (by rw [q]; exact e)
      obtain ⟨i, h1, h2, h3⟩ := ih ⟨j, by omega, hne⟩
      refine ⟨i, by omega, h2, fun q h4 h5 => ?_⟩
      by_cases e2 : q = n
      · rw [e2]; exact e
      · exact h3 q h4 (by omega)
    · exact ⟨n, by omega, e, fun j h1 h2 => by omega⟩
/-- 0 where rows lead: 0 -/
theorem RS_uniq0 {p cnt : Nat} {L : Nat → Nat} {row : Nat → Nat → Nat} (h : Ech p cnt L row) {f : Nat → Nat} (hf : RS p cnt L row f) (h0 : ∀ i, L i = 1 → f i = 0) : ∀ j, j < cnt → f j = 0 := by
  intro j hj
  rcases Classical.em (∃ j, j < cnt ∧ f j ≠ 0) with q | q
  · obtain ⟨i, h1, h2, h3⟩ := top_ex q
    exact absurd (h0 i (RS_lead h hf h1 h2 h3)) h2
  · rcases Nat.eq_zero_or_pos (f j) with z | z
    · exact z
    · exact absurd ⟨j, hj, by omega⟩ q
theorem RS_sum {p cnt : Nat} {L : Nat → Nat} {row : Nat → Nat → Nat} (c M : Nat → Nat) (g : Nat → Nat → Nat) : ∀ J, (∀ i, i < J → M i = 1 → RS p cnt L row (g i)) → (∀ i, M i = 0 ∨ M i = 1) → RS p cnt L row (fun j => sm J (fun i => M i * (c i * g i j)) % p) := by
  intro J
  induction J with
  | zero =>
    intro _ _
    have := RS_zero p cnt L row
    show RS p cnt L row (fun j => 0 % p)
    simp only [Nat.zero_mod]
    exact this
  | succ J ih =>
    intro h hM
    have h1 := ih (fun i hi => h i (by omega)) hM
    rcases hM J with z | z
    · have e : (fun j => sm (J + 1) (fun i => M i * (c i * g i j)) % p) = (fun j => sm J (fun i => M i * (c i * g i j)) % p) := by
        funext j
        show (sm J _ + M J * _) % p = _
        rw [z, Nat.zero_mul, Nat.add_zero]
      rw [e]; exact h1
    · have e : (fun j => sm (J + 1) (fun i => M i * (c i * g i j)) % p) = (fun j => (sm J (fun i => M i * (c i * g i j)) % p + c J * g J j) % p) := by
        funext j
        show (sm J _ + M J * _) % p = _
        rw [z, Nat.one_mul, Nat.mod_add_mod]
      rw [e]
      exact RS_addm h1 (h J (by omega) z) (c J)
/-- the product with a variable: place i goes to up i (beyond the places where there is none) -/
def mulV (cnt : Nat) (up f : Nat → Nat) (j : Nat) : Nat := sm cnt (fun i => if up i = j then f i else 0)
theorem mulV_sum (p cnt J : Nat) (up : Nat → Nat) (w : Nat → Nat) (g : Nat → Nat → Nat) (j : Nat) : mulV cnt up (fun q => sm J (fun i => w i * g i q) % p) j % p = sm J (fun i => w i * mulV cnt up (g i) j) % p := by
  unfold mulV
  have e1 : sm cnt (fun q => if up q = j then sm J (fun i => w i * g i q) % p else 0) % p = sm cnt (fun q => sm J (fun i => w i * (if up q = j then g i q else 0))) % p := by
    rw [← sm_mod p cnt (fun q => sm J (fun i => w i * (if up q = j then g i q else 0)))]
    congr 1
    apply sm_congr
    intro q _
    by_cases h : up q = j
    · rw [if_pos h]
      congr 1
      apply sm_congr
      intro i _
      rw [if_pos h]
    · rw [if_neg h, sm_zero (fun i _ => by rw [if_neg h, Nat.mul_zero]), Nat.zero_mod]
  rw [e1, sm_swap]
  congr 1
  apply sm_congr
  intro i _
  rw [← sm_mul]
/-- places are apart: at most one place goes to j -/
theorem mulV_at {cnt : Nat} {up f : Nat → Nat} (hin : ∀ a b, a < cnt → b < cnt → up a = up b → up a < cnt → a = b) {i : Nat} (hi : i < cnt) (hu : up i < cnt) : mulV cnt up f (up i) = f i := by
  unfold mulV
  refine sm_one hi (fun q hq hne => ?_) ?_
  · rw [if_neg (fun e => hne (hin q i hq hi e (by rw [e]; exact hu)))]
  · rw [if_pos rfl]
theorem mulV_no {cnt : Nat} {up f : Nat → Nat} {j : Nat} (h : ∀ i, i < cnt → up i ≠ j) : mulV cnt up f j = 0 := by
  unfold mulV
  exact sm_zero (fun i hi => if_neg (h i hi))
theorem mulV_lt {p cnt : Nat} {up f : Nat → Nat} (hp : 0 < p) (hin : ∀ a b, a < cnt → b < cnt → up a = up b → up a < cnt → a = b) (hf : ∀ j, f j < p) {j : Nat} (hj : j < cnt) : mulV cnt up f j < p := by
  rcases Classical.em (∃ i, i < cnt ∧ up i = j) with ⟨i, hi, e⟩ | q
  · rw [← e, mulV_at hin hi (by rw [e]; exact hj)]; exact hf i
  · rw [mulV_no (fun i hi e => q ⟨i, hi, e⟩)]; exact hp
/-- the space up to a degree, as the document says it -/
def Spc (p cnt n D : Nat) (dg : Nat → Nat) (up : Nat → Nat → Nat) (gen : (Nat → Nat) → Prop) (f : Nat → Nat) : Prop :=
  ∀ S : (Nat → Nat) → Prop, S (fun _ => 0) → (∀ f g a, S f → S g → S (fun j => (f j + a * g j) % p)) → (∀ g, gen g → S g) → (∀ f v, v < n → S f → (∀ j, j < cnt → f j ≠ 0 → dg j < D) → S (fun j => if j < cnt then mulV cnt (up v) f j else 0)) → S f
/-- the combinations of rows that came by the space's own steps, and that are closed under them, are the space -/
theorem RS_Spc {p cnt n D : Nat} {dg : Nat → Nat} {up : Nat → Nat → Nat} {gen : (Nat → Nat) → Prop} {L : Nat → Nat} {row : Nat → Nat → Nat} (hp : 0 < p) (hE : Ech p cnt L row)
    (hrow0 : ∀ i j, L i = 1 → cnt ≤ j → row i j = 0)
    (hrow : ∀ i, L i = 1 → Spc p cnt n D dg up gen (row i)) (hgen : ∀ g, gen g → RS p cnt L row g)
    (hmono : ∀ i j, i ≤ j → j < cnt → dg i ≤ dg j)
    (hinj : ∀ v a b, v < n → a < cnt → b < cnt → up v a = up v b → up v a < cnt → a = b)
    (hmul : ∀ i v, L i = 1 → v < n → dg i < D → RS p cnt L row (fun j => if j < cnt then mulV cnt (up v) (row i) j else 0)) :
    ∀ f, Spc p cnt n D dg up gen f ↔ RS p cnt L row f := by
  have key : ∀ f v, v < n → RS p cnt L row f → (∀ j, j < cnt → f j ≠ 0 → dg j < D) → RS p cnt L row (fun j => if j < cnt then mulV cnt (up v) f j else 0) := by
    intro f v hv hf hd
    obtain ⟨c, hc⟩ := hf
    -- J: the first place of degree D or more
    obtain ⟨J, hJ, h1, h2⟩ : ∃ J, J ≤ cnt ∧ (∀ i, i < J → dg i < D) ∧ (∀ j, J ≤ j → j < cnt → D ≤ dg j) := by
      rcases Classical.em (∃ j, j < cnt ∧ D ≤ dg j) with q | q
      · obtain ⟨J, ⟨q1, q2⟩, q3⟩ := pk_least (fun j => j < cnt ∧ D ≤ dg j) q
        refine ⟨J, by omega, fun i hi => ?_, fun j hj1 hj2 => ?_⟩
        · rcases Nat.lt_or_ge (dg i) D with z | z
          · exact z
          · exact absurd ⟨by omega, z⟩ (q3 i hi)
        · exact Nat.le_trans q2 (hmono J j hj1 hj2)
      · refine ⟨cnt, Nat.le_refl _, fun i hi => ?_, fun j hj1 hj2 => by omega⟩
        rcases Nat.lt_or_ge (dg i) D with z | z
        · exact z
        · exact absurd ⟨i, hi, z⟩ q
    have hcut := RS_cut hE hc hJ (fun j hj1 hj2 => by
      rcases Nat.eq_zero_or_pos (f j) with z | z
      · exact z
      · have := hd j hj2 (by omega)
        have := h2 j hj1 hj2
        omega)
    have hs := RS_sum (p := p) (cnt := cnt) (L := L) (row := row) c L (fun i j => if j < cnt then mulV cnt (up v) (row i) j else 0) J (fun i hi hL => hmul i v hL hv (h1 i hi)) hE.1
    have e : (fun j => if j < cnt then mulV cnt (up v) f j else 0) = (fun j => sm J (fun i => L i * (c i * (if j < cnt then mulV cnt (up v) (row i) j else 0))) % p) := by
      funext j
      by_cases hj : j < cnt
      · rw [if_pos hj]
        have hflt : ∀ q, f q < p := fun q => by rw [hc q]; exact Nat.mod_lt _ hp
        have e1 : mulV cnt (up v) f j = mulV cnt (up v) f j % p := (Nat.mod_eq_of_lt (mulV_lt hp (fun a b ha hb => hinj v a b hv ha hb) hflt hj)).symm
        have e2 : f = fun q => sm J (fun i => (L i * c i) * row i q) % p := by
          funext q
          rw [hcut q]
          congr 1
          apply sm_congr
          intro i _
          rw [Nat.mul_assoc]
        rw [e1]
        conv => lhs; rw [e2]
        rw [mulV_sum]
        congr 1
        apply sm_congr
        intro i _
        rw [if_pos hj, Nat.mul_assoc]
      · rw [if_neg hj, sm_zero (fun i _ => by rw [if_neg hj, Nat.mul_zero, Nat.mul_zero]), Nat.zero_mod]
    rw [e]
    exact hs
  intro f
  constructor
  · intro h
    exact h (RS p cnt L row) (RS_zero p cnt L row) (fun f g a hf hg => RS_addm hf hg a) hgen key
  · rintro ⟨c, hc⟩ S h0 ha hg hm
    have hr : ∀ i, L i = 1 → S (row i) := fun i hi => hrow i hi S h0 ha hg hm
    have hsum : ∀ J, S (fun j => sm J (fun i => L i * (c i * row i j)) % p) := by
      intro J
      induction J with
      | zero =>
        show S (fun j => 0 % p)
        simp only [Nat.zero_mod]
        exact h0
      | succ J ih =>
        rcases hE.1 J with z | z
        · have e : (fun j => sm (J + 1) (fun i => L i * (c i * row i j)) % p) = (fun j => sm J (fun i => L i * (c i * row i j)) % p) := by
            funext j
            show (sm J _ + L J * _) % p = _
            rw [z, Nat.zero_mul, Nat.add_zero]
          rw [e]; exact ih
        · have e : (fun j => sm (J + 1) (fun i => L i * (c i * row i j)) % p) = (fun j => (sm J (fun i => L i * (c i * row i j)) % p + c J * row J j) % p) := by
            funext j
            show (sm J _ + L J * _) % p = _
            rw [z, Nat.one_mul, Nat.mod_add_mod]
          rw [e]
          exact ha _ _ _ ih (hr J z)
    have e : f = fun j => sm cnt (fun i => L i * (c i * row i j)) % p := funext hc
    rw [e]
    exact hsum cnt
/-- two sets of rows with the same combinations lead at the same places -/
theorem RS_same {p cnt : Nat} {L L' : Nat → Nat} {row row' : Nat → Nat → Nat} (hp : 1 < p) (h : Ech p cnt L row) (h' : Ech p cnt L' row') (hs : ∀ f, RS p cnt L row f → RS p cnt L' row' f) : ∀ i, L i = 1 → L' i = 1 := by
  intro i hi
  obtain ⟨r1, r2, r3, r4⟩ := h.2 i hi
  exact RS_lead h' (hs _ (RS_row h hi)) r1 (by rw [r2]; exact Nat.one_ne_zero) (fun j hj _ => r3 j hj)
/-- the one combination with 1 at i, and 0 at all other places where rows lead -/
theorem RS_uniq {p cnt : Nat} {L : Nat → Nat} {row : Nat → Nat → Nat} (hp : 1 < p) (h : Ech p cnt L row) {i : Nat} {f g : Nat → Nat} (hf : RS p cnt L row f) (hg : RS p cnt L row g) (f1 : f i = 1) (g1 : g i = 1) (f0 : ∀ j, L j = 1 → j ≠ i → f j = 0) (g0 : ∀ j, L j = 1 → j ≠ i → g j = 0) : ∀ j, j < cnt → f j = g j := by
  intro j hj
  have hd := RS_addm hf hg (p - 1)
  have h0 := RS_uniq0 h hd (fun q hq => by
    show (f q + (p - 1) * g q) % p = 0
    by_cases e : q = i
    · rw [e, f1, g1, Nat.mul_one, show 1 + (p - 1) = p by omega, Nat.mod_self]
    · rw [f0 q hq e, g0 q hq e, Nat.mul_zero, Nat.add_zero, Nat.zero_mod]) j hj
  have hfl : f j < p := by
    obtain ⟨c, hc⟩ := hf
    rw [hc]; exact Nat.mod_lt _ (by omega)
  have hgl : g j < p := by
    obtain ⟨c, hc⟩ := hg
    rw [hc]; exact Nat.mod_lt _ (by omega)
  have h1 : (f j + (p - 1) * g j) % p = 0 := h0
  have e1 : (p - 1) * g j + g j = p * g j := by
    rw [← Nat.succ_mul, show (p - 1).succ = p by omega]
  have h2 : (f j + (p - 1) * g j + g j) % p = g j % p := by
    rw [Nat.add_mod, h1, Nat.zero_add, Nat.mod_mod]
  rw [Nat.add_assoc, e1, Nat.add_mul_mod_self_left, Nat.mod_eq_of_lt hfl, Nat.mod_eq_of_lt hgl] at h2
  exact h2
