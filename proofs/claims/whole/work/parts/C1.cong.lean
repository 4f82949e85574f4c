/-! SUMS OF MULTIPLES OF THE BASIS: congruence (no machine here). -/
def smI : Nat → (Nat → Int) → Int
  | 0, _ => 0
  | n + 1, f => smI n f + f n
theorem smI_s (n : Nat) (f : Nat → Int) : smI (n + 1) f = smI n f + f n := rfl
theorem smI_congr {n : Nat} {f g : Nat → Int} (h : ∀ i, i < n → f i = g i) : smI n f = smI n g := by
  induction n with
  | zero => rfl
  | succ n ih => rw [smI_s, smI_s, ih (fun i hi => h i (by omega)), h n (by omega)]
theorem smI_add (n : Nat) (f g : Nat → Int) : smI n (fun i => f i + g i) = smI n f + smI n g := by
  induction n with
  | zero => rfl
  | succ n ih => rw [smI_s, smI_s, smI_s, ih]; omega
theorem smI_mul (n : Nat) (c : Int) (f : Nat → Int) : smI n (fun i => c * f i) = c * smI n f := by
  induction n with
  | zero => exact (Int.mul_zero c).symm
  | succ n ih => rw [smI_s, smI_s, ih, Int.mul_add]
theorem smI_sub (n : Nat) (f g : Nat → Int) : smI n (fun i => f i - g i) = smI n f - smI n g := by
  induction n with
  | zero => rfl
  | succ n ih => rw [smI_s, smI_s, smI_s, ih]; omega
theorem smI_zero {n : Nat} {f : Nat → Int} (h : ∀ i, i < n → f i = 0) : smI n f = 0 := by
  induction n with
  | zero => rfl
  | succ n ih => rw [smI_s, ih (fun i hi => h i (by omega)), h n (by omega)]; rfl
theorem smI_one {n k : Nat} {x : Int} (hk : k < n) {f : Nat → Int} (h : ∀ i, i < n → i ≠ k → f i = 0) (hx : f k = x) : smI n f = x := by
  induction n with
  | zero => omega
  | succ n ih =>
    rw [smI_s]
    by_cases e : k = n
    · rw [smI_zero (fun i hi => h i (by omega) (by omega)), ← e, hx]; omega
    · rw [ih (by omega) (fun i hi => h i (by omega)), h n (by omega) (by omega)]; omega
theorem smI_swap (n m : Nat) (f : Nat → Nat → Int) : smI n (fun i => smI m (fun j => f i j)) = smI m (fun j => smI n (fun i => f i j)) := by
  induction n with
  | zero => exact (smI_zero (fun _ _ => rfl)).symm
  | succ n ih =>
    rw [smI_s, ih, ← smI_add]
    rfl
theorem smI_dvd {P : Int} {n : Nat} {f : Nat → Int} (h : ∀ i, i < n → P ∣ f i) : P ∣ smI n f := by
  induction n with
  | zero => exact ⟨0, (Int.mul_zero P).symm⟩
  | succ n ih => exact Int.dvd_add (ih (fun i hi => h i (by omega))) (h n (by omega))
theorem smI_nat (n : Nat) (f : Nat → Nat) : smI n (fun i => (f i : Int)) = (sm n f : Int) := by
  induction n with
  | zero => rfl
  | succ n ih => rw [smI_s, sm_s, ih]; omega
theorem smI_sel {n k : Nat} (hk : k < n) (f : Nat → Int) : smI n (fun i => if i = k then f i else 0) = f k := smI_one hk (fun i _ hne => if_neg hne) (if_pos rfl)
/-- a monomial as a polynomial -/
def dM (m x : M4) : Int := if x = m then 1 else 0
theorem dM_self (m : M4) : dM m m = 1 := if_pos rfl
theorem shM_dM (t m s : M4) : shM t (dM m) s = dM (mA t m) s := by
  unfold shM dM
  by_cases h : mL t s
  · rw [if_pos h]
    by_cases e : mS s t = m
    · rw [if_pos e, if_pos (by rw [← e, mA_mS h])]
    · rw [if_neg e, if_neg (fun q => e (by rw [q, mS_mA]))]
  · rw [if_neg h, if_neg (fun q => h (by rw [q]; exact mL_mA t m))]
theorem mL_mA_iff (t s x : M4) : mL (mA t s) x ↔ mL t x ∧ mL s (mS x t) := by
  obtain ⟨t0, t1, t2, t3⟩ := t
  obtain ⟨s0, s1, s2, s3⟩ := s
  obtain ⟨x0, x1, x2, x3⟩ := x
  unfold mL mA mS
  simp only []
  omega
theorem mS_mA2 (t s x : M4) : mS x (mA t s) = mS (mS x t) s := by
  obtain ⟨t0, t1, t2, t3⟩ := t
  obtain ⟨s0, s1, s2, s3⟩ := s
  obtain ⟨x0, x1, x2, x3⟩ := x
  unfold mA mS
  simp only [Prod.mk.injEq]
  omega
theorem shM_shM (t s : M4) (g : M4 → Int) (x : M4) : shM t (shM s g) x = shM (mA t s) g x := by
  unfold shM
  by_cases h : mL t x
  · rw [if_pos h]
    by_cases h2 : mL s (mS x t)
    · rw [if_pos h2, if_pos ((mL_mA_iff t s x).mpr ⟨h, h2⟩), mS_mA2]
    · rw [if_neg h2, if_neg (fun q => h2 ((mL_mA_iff t s x).mp q).2)]
  · rw [if_neg h, if_neg (fun q => h ((mL_mA_iff t s x).mp q).1)]
theorem shM_add (t : M4) (f g : M4 → Int) (x : M4) : shM t (fun y => f y + g y) x = shM t f x + shM t g x := by
  unfold shM
  by_cases h : mL t x
  · rw [if_pos h, if_pos h, if_pos h]
  · rw [if_neg h, if_neg h, if_neg h]; rfl
theorem shM_sub (t : M4) (f g : M4 → Int) (x : M4) : shM t (fun y => f y - g y) x = shM t f x - shM t g x := by
  unfold shM
  by_cases h : mL t x
  · rw [if_pos h, if_pos h, if_pos h]
  · rw [if_neg h, if_neg h, if_neg h]; rfl
theorem shM_mul (t : M4) (c : Int) (f : M4 → Int) (x : M4) : shM t (fun y => c * f y) x = c * shM t f x := by
  unfold shM
  by_cases h : mL t x
  · rw [if_pos h, if_pos h]
  · rw [if_neg h, if_neg h, Int.mul_zero]
theorem shM_sum (t : M4) (n : Nat) (f : Nat → M4 → Int) (x : M4) : shM t (fun y => smI n (fun i => f i y)) x = smI n (fun i => shM t (f i) x) := by
  unfold shM
  by_cases h : mL t x
  · rw [if_pos h]
    exact smI_congr (fun i _ => (if_pos h).symm)
  · rw [if_neg h]
    exact (smI_zero (fun i _ => if_neg h)).symm
theorem shM_dvd {P : Int} (t : M4) {f : M4 → Int} (h : ∀ y, P ∣ f y) (x : M4) : P ∣ shM t f x := by
  unfold shM
  by_cases q : mL t x
  · rw [if_pos q]; exact h _
  · rw [if_neg q]; exact ⟨0, (Int.mul_zero P).symm⟩
theorem mD_mA (a b : M4) : mD (mA a b) = mD a + mD b := by
  unfold mD mA
  simp only []
  omega
def stM (t : M4) (L : List (Int × M4 × Nat)) : List (Int × M4 × Nat) := L.map (fun e => (e.1, mA t e.2.1, e.2.2))
theorem evM_st (G : Nat → M4 → Int) (t : M4) : ∀ (L : List (Int × M4 × Nat)) (x : M4), evM G (stM t L) x = shM t (evM G L) x
  | [], x => by
    show (0 : Int) = shM t (fun _ => 0) x
    unfold shM
    split <;> rfl
  | e :: L, x => by
    show e.1 * shM (mA t e.2.1) (G e.2.2) x + evM G (stM t L) x = shM t (fun s => e.1 * shM e.2.1 (G e.2.2) s + evM G L s) x
    rw [shM_add t (fun s => e.1 * shM e.2.1 (G e.2.2) s) (fun s => evM G L s), shM_mul, shM_shM, evM_st G t L x]
section CG
variable {P : Int} {N : Nat} {G : Nat → M4 → Int} {lt : Nat → M4}
/-- f is a sum of multiples of the basis, with tops up to the degree d, modulo P -/
def Cg (P : Int) (N : Nat) (G : Nat → M4 → Int) (lt : Nat → M4) (d : Nat) (f : M4 → Int) : Prop := ∃ L : List (Int × M4 × Nat), (∀ e ∈ L, e.2.2 < N ∧ mD (topM lt e) ≤ d) ∧ ∀ x, P ∣ f x - evM G L x
theorem Cg.mono {d d' : Nat} {f : M4 → Int} (h : Cg P N G lt d f) (hd : d ≤ d') : Cg P N G lt d' f := by
  obtain ⟨L, h1, h2⟩ := h
  exact ⟨L, fun e he => ⟨(h1 e he).1, Nat.le_trans (h1 e he).2 hd⟩, h2⟩
theorem Cg.congr {d : Nat} {f f' : M4 → Int} (h : Cg P N G lt d f) (he : ∀ x, P ∣ f' x - f x) : Cg P N G lt d f' := by
  obtain ⟨L, h1, h2⟩ := h
  refine ⟨L, h1, fun x => ?_⟩
  have := Int.dvd_add (he x) (h2 x)
  rw [show f' x - f x + (f x - evM G L x) = f' x - evM G L x by omega] at this
  exact this
theorem Cg.zero {d : Nat} : Cg P N G lt d (fun _ => 0) := ⟨[], fun e he => absurd he List.not_mem_nil, fun x => ⟨0, by show (0 : Int) - 0 = P * 0; rw [Int.mul_zero]; rfl⟩⟩
theorem Cg.add {d : Nat} {f f' : M4 → Int} (h : Cg P N G lt d f) (h' : Cg P N G lt d f') : Cg P N G lt d (fun x => f x + f' x) := by
  obtain ⟨L, h1, h2⟩ := h
  obtain ⟨L', h1', h2'⟩ := h'
  refine ⟨L ++ L', fun e he => ?_, fun x => ?_⟩
  · rcases List.mem_append.mp he with q | q
    · exact h1 e q
    · exact h1' e q
  · rw [evM_app]
    have := Int.dvd_add (h2 x) (h2' x)
    rw [show f x - evM G L x + (f' x - evM G L' x) = f x + f' x - (evM G L x + evM G L' x) by omega] at this
    exact this
theorem Cg.mul {d : Nat} {f : M4 → Int} (c : Int) (h : Cg P N G lt d f) : Cg P N G lt d (fun x => c * f x) := by
  obtain ⟨L, h1, h2⟩ := h
  refine ⟨scM c L, fun e he => ?_, fun x => ?_⟩
  · obtain ⟨y, hy, rfl⟩ := List.mem_map.mp he
    exact h1 y hy
  · rw [evM_sc, ← Int.mul_sub]
    exact Int.dvd_mul_of_dvd_right (h2 x)
theorem Cg.sub {d : Nat} {f f' : M4 → Int} (h : Cg P N G lt d f) (h' : Cg P N G lt d f') : Cg P N G lt d (fun x => f x - f' x) := by
  refine (h.add (h'.mul (-1))).congr fun x => ⟨0, ?_⟩
  rw [Int.mul_zero]
  omega
theorem Cg.sum {d : Nat} {c : Nat → Int} {f : Nat → M4 → Int} : ∀ (J : Nat), (∀ j, j < J → P ∣ c j ∨ Cg P N G lt d (f j)) → Cg P N G lt d (fun x => smI J (fun j => c j * f j x)) := by
  intro J
  induction J with
  | zero => intro _; exact Cg.zero
  | succ J ih =>
    intro h
    have h1 := ih (fun j hj => h j (by omega))
    rcases h J (by omega) with q | q
    · refine h1.congr fun x => ?_
      show P ∣ smI J (fun j => c j * f j x) + c J * f J x - _
      rw [show smI J (fun j => c j * f j x) + c J * f J x - smI J (fun j => c j * f j x) = c J * f J x by omega]
      exact Int.dvd_mul_of_dvd_left q
    · exact h1.add (q.mul (c J))
theorem Cg.shift {d : Nat} {f : M4 → Int} (t : M4) (h : Cg P N G lt d f) : Cg P N G lt (mD t + d) (shM t f) := by
  obtain ⟨L, h1, h2⟩ := h
  refine ⟨stM t L, fun e he => ?_, fun x => ?_⟩
  · obtain ⟨y, hy, rfl⟩ := List.mem_map.mp he
    refine ⟨(h1 y hy).1, ?_⟩
    have := (h1 y hy).2
    unfold topM at this ⊢
    show mD (mA (mA t y.2.1) (lt y.2.2)) ≤ _
    rw [mA_assoc, mD_mA]
    omega
  · rw [evM_st]
    have := shM_dvd t h2 x
    rw [shM_sub t f (fun y => evM G L y)] at this
    exact this
theorem Cg.one {k : Nat} (hk : k < N) : Cg P N G lt (mD (lt k)) (G k) := by
  refine ⟨[(1, (0, 0, 0, 0), k)], fun e he => ?_, fun x => ⟨0, ?_⟩⟩
  · rw [List.mem_singleton] at he
    rw [he]
    refine ⟨hk, ?_⟩
    unfold topM
    rw [mD_mA]
    exact Nat.le_of_eq (by show 0 + mD (lt k) = _; omega)
  · show G k x - (1 * shM (0, 0, 0, 0) (G k) x + 0) = P * 0
    have : shM (0, 0, 0, 0) (G k) x = G k x := by
      obtain ⟨x0, x1, x2, x3⟩ := x
      unfold shM
      rw [if_pos (by unfold mL; simp only []; omega)]
      rfl
    rw [this, Int.mul_zero]
    omega
end CG
