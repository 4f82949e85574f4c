/-! THE OTHER CALLS: hand, coefficient, join, clear, field; both sides do the same. -/
/-- what both sides hold of the ring, the polynomial in hand, the generators -/
def RA (p n ord gc : Nat) (h G cg kg : Nat → Nat) (dgs rs : Nat → Int32) : Prop :=
  (isP p ∧ p ≤ 32003 ∧ 1 ≤ n ∧ n ≤ 4 ∧ ord < 2 ∧ gc ≤ 8) ∧ Laid n ord cg kg dgs rs ∧ (∀ j, h j < p) ∧ (∀ j, ctN n ≤ j → h j = 0) ∧ (∀ g, g < gc → ∀ j, genV G g j < p) ∧ (∀ g, g < gc → ∀ j, ctN n ≤ j → genV G g j = 0)
def RZ (n ord gc : Nat) (h G cg2 kg2 h2 G2 : Nat → Nat) (dgs2 : Nat → Int32) : Prop :=
  Tab n ord cg2 kg2 ∧ (∀ q, q < ctN n → dgs2 q = nI (degN (cg2 q))) ∧ (∀ j, j < ctN n → h2 j = h j) ∧ (∀ g, g < gc → genV G g = genV G2 g)
theorem rkI_congr {cg cg' : Nat → Nat} {N : Nat} (c : Nat) (h : ∀ j, j < N → cg j = cg' j) : rkI cg N c = rkI cg' N c := by
  unfold rkI
  rw [rkN_congr c N h]
theorem rkI_cases (cg : Nat → Nat) (N c : Nat) (hN : N ≤ 126) : (∃ j, j < N ∧ rkI cg N c = nI j) ∨ rkI cg N c = -1 := by
  unfold rkI
  by_cases q : rkN cg c N < N
  · rw [if_pos q]; exact Or.inl ⟨_, q, rfl⟩
  · rw [if_neg q]; exact Or.inr rfl
section OPS
variable {F p n ord gc : Nat} {h G cg kg cg2 kg2 h2 G2 : Nat → Nat} {dgs rs dgs2 : Nat → Int32}
theorem o_hand (hF : 40000 < F) (hA : RA p n ord gc h G cg kg dgs rs) (hZ : RZ n ord gc h G cg2 kg2 h2 G2 dgs2) (x tc : Int32) : ∃ r, m_hand F (nI (ctN n)) (nI ord) (nF h) (lF kg) x = some r ∧ m_zhand F (nI (ctN n)) (nF cg2) (nF h2) x tc = some (r, 0) := by
  obtain ⟨⟨hp, hp2, h1, h4, ho, hg⟩, hL, hh, hh0, _, _⟩ := hA
  have hct := ctN_le h1 h4
  obtain ⟨c, hc, rfl⟩ := nI_of32 x
  have e := rkI_congr c (Tab_uniq hL.1 hZ.1)
  unfold m_hand m_zhand
  rw [p_rankT (by omega) h1 h4 ho hL.1 hc, p_zplaceOf (by omega) h1 h4 hZ.1 hc, bd1_n, bd1_n, ← e]
  rcases rkI_cases cg (ctN n) c hct with ⟨j, j1, j2⟩ | j2
  · rw [j2, if_neg (nI_nm1 (by omega)), if_pos (show (0 : Int32) ≤ nI j from nI_le (Nat.zero_le j) (by omega)), rdI_n (by omega) (by decide), rdI_n (by omega) (by decide)]
    refine ⟨_, rfl, ?_⟩
    show some (nI (h2 j), (0 : Int32)) = some (nI (h j), 0)
    rw [hZ.2.2.1 j j1]
  · rw [j2, if_pos rfl, if_neg (by decide)]
    exact ⟨_, rfl, rfl⟩
theorem pos_form {x : Int32} (h : 0 ≤ x.toInt) : ∃ j : Nat, j < 2 ^ 31 ∧ x = nI j := by
  have h1 := Int32.toInt_lt x
  refine ⟨x.toInt.toNat, by omega, ?_⟩
  have e : x.toInt = ((x.toInt.toNat : Nat) : Int) := by omega
  have e2 := Int32.ofInt_toInt x
  rw [e, Int32.ofInt_eq_ofNat] at e2
  exact e2.symm
theorem neg_form {x : Int32} (h : ¬ 0 ≤ x.toInt) : ∃ m : Nat, 0 < m ∧ m ≤ 2147483648 ∧ x.toInt = -(m : Int) ∧ x = -nI m := by
  have h1 := Int32.le_toInt x
  refine ⟨(-x.toInt).toNat, by omega, by omega, by omega, ?_⟩
  have e : x.toInt = -(((-x.toInt).toNat : Nat) : Int) := by omega
  have e2 := Int32.ofInt_toInt x
  rw [e, Int32.ofInt_neg, Int32.ofInt_eq_ofNat] at e2
  exact e2.symm
theorem div_neg {x : Int32} {m p : Nat} (hm : m ≤ 2147483648) (hx : x.toInt = -(m : Int)) (hp : 2 ≤ p) (hp2 : p ≤ 32003) : x / nI p = -nI (m / p) := by
  have hpt : (nI p).toInt = (p : Int) := nI_toInt (by omega)
  have hq : m / p < 2 ^ 31 := by
    have : m / p ≤ m / 2 := Nat.div_le_div_left hp (by decide)
    omega
  have hqt : (nI (m / p)).toInt = ((m / p : Nat) : Int) := nI_toInt hq
  apply Int32.toInt_inj.mp
  rw [Int32.toInt_div_of_ne_right _ _ (fun e => by
    have := congrArg Int32.toInt e
    rw [hpt] at this
    have e2 : (-1 : Int32).toInt = -1 := by decide
    omega), hx, hpt, Int.neg_tdiv, ← Int.ofNat_tdiv, Int32.toInt_neg, hqt]
  clear hqt
  generalize m / p = q at hq ⊢
  refine (Int.bmod_eq_of_le ?_ ?_).symm
  · show -(4294967296 / 2 : Int) ≤ _; omega
  · show _ < ((4294967296 : Int) + 1) / 2; omega
theorem rem_neg {x : Int32} {m p : Nat} (hm : m ≤ 2147483648) (hx : x.toInt = -(m : Int)) (hx2 : x = -nI m) (hp : 2 ≤ p) (hp2 : p ≤ 32003) : remI x (nI p) = -nI (m % p) := by
  unfold remI
  rw [div_neg hm hx hp hp2, hx2, Int32.neg_mul, pk_mul, Int32.sub_eq_add_neg, Int32.neg_neg, Int32.add_comm, ← Int32.sub_eq_add_neg, ← Int32.neg_sub, pk_sub (Nat.div_mul_le_self m p)]
  exact congrArg (fun t => -nI t) (by have := Nat.div_add_mod' m p; omega)
/-- a number's remainder, never negative -/
def fmN (p : Nat) (x : Int32) : Nat := if 0 ≤ x.toInt then x.toInt.toNat % p else (p - (-x.toInt).toNat % p) % p
theorem xor_sign {x : Int32} {p : Nat} (hp2 : p ≤ 32003) : (0 ≤ (x ^^^ nI p)) ↔ 0 ≤ x.toInt := by
  have hpt : (nI p).toInt = (p : Int) := nI_toInt (by omega)
  rw [Int32.le_iff_toInt_le]
  have e0 : (0 : Int32).toInt = 0 := by decide
  rw [e0]
  have a : ∀ y : Int32, y.toInt = y.toBitVec.toInt := fun y => rfl
  have m1 := BitVec.msb_eq_toInt (x := (x ^^^ nI p).toBitVec)
  have m2 := BitVec.msb_eq_toInt (x := x.toBitVec)
  have m3 := BitVec.msb_eq_toInt (x := (nI p).toBitVec)
  rw [← a] at m1 m2 m3
  rw [Int32.toBitVec_xor, BitVec.msb_xor, m2, m3, hpt] at m1
  have d3 : decide ((p : Int) < 0) = false := decide_eq_false (by omega)
  rw [d3, Bool.xor_false] at m1
  have := decide_eq_decide.mp m1
  omega
theorem p_floorMod {x : Int32} (hp : 2 ≤ p) (hp2 : p ≤ 32003) : m_floorMod F x (nI p) = some (nI (fmN p x)) := by
  unfold m_floorMod fmN
  rw [nzI_n (by omega) (by omega)]
  by_cases hx : 0 ≤ x.toInt
  · rw [if_pos ((xor_sign hp2).mpr hx), if_pos hx]
    obtain ⟨j, hj, rfl⟩ := pos_form hx
    rw [remI_n hj (by omega) (by omega), nI_toInt hj]
    rfl
  · rw [if_neg (fun q => hx ((xor_sign hp2).mp q)), if_neg hx]
    obtain ⟨m, m1, m2, m3, m4⟩ := neg_form hx
    have em : (-x.toInt).toNat = m := by omega
    rw [rem_neg m2 m3 m4 hp hp2, em]
    have hr := Nat.mod_lt m (show 0 < p by omega)
    by_cases z : m % p = 0
    · rw [z, if_pos (by decide +kernel), Nat.sub_zero, Nat.mod_self]
      exact congrArg some (by decide +kernel)
    · rw [if_neg (fun e => z (by
        have e2 : nI (m % p) = 0 := by rw [← Int32.neg_neg (a := nI (m % p)), e]; decide
        exact nI_inj32 (by omega) (by decide) e2)), Int32.add_comm, ← Int32.sub_eq_add_neg, pk_sub (by omega), Nat.mod_eq_of_lt (show p - m % p < p by omega)]
theorem p_zmod {x : Int32} (hp : 2 ≤ p) (hp2 : p ≤ 32003) : remI (remI x (nI p) + nI p) (nI p) = nI (fmN p x) := by
  unfold fmN
  by_cases hx : 0 ≤ x.toInt
  · rw [if_pos hx]
    obtain ⟨j, hj, rfl⟩ := pos_form hx
    have hr := Nat.mod_lt j (show 0 < p by omega)
    rw [remI_n hj (by omega) (by omega), nI_add, remI_n (by omega) (by omega) (by omega), Nat.add_mod_right, Nat.mod_mod, nI_toInt hj]
    rfl
  · rw [if_neg hx]
    obtain ⟨m, m1, m2, m3, m4⟩ := neg_form hx
    have em : (-x.toInt).toNat = m := by omega
    have hr := Nat.mod_lt m (show 0 < p by omega)
    rw [rem_neg m2 m3 m4 hp hp2, em, Int32.add_comm, ← Int32.sub_eq_add_neg, pk_sub (by omega), remI_n (by omega) (by omega) (by omega)]
theorem fmN_lt (hp : 2 ≤ p) (x : Int32) : fmN p x < p := by
  unfold fmN
  split
  · exact Nat.mod_lt _ (by omega)
  · exact Nat.mod_lt _ (by omega)
theorem o_coef (hF : 40000 < F) (hA : RA p n ord gc h G cg kg dgs rs) (hZ : RZ n ord gc h G cg2 kg2 h2 G2 dgs2) (x y tc : Int32) : ∃ k h' h2', m_tCoef F (nI p) (nI (ctN n)) (nI ord) (lF kg) x y (nF h) = some (nI k, nF h') ∧ m_zcoefficient F (nI (ctN n)) (nI p) (nF cg2) x y tc (nF h2) = some (nI k, nF h2') ∧ RA p n ord gc h' G cg kg dgs rs ∧ RZ n ord gc h' G cg2 kg2 h2' G2 dgs2 := by
  have hA0 := hA
  obtain ⟨⟨hp, hp2, h1, h4, ho, hg⟩, hL, hh, hh0, hG, hG0⟩ := hA
  have hpp := hp.1
  have hct := ctN_le h1 h4
  obtain ⟨c, hc, rfl⟩ := nI_of32 x
  have e := rkI_congr c (Tab_uniq hL.1 hZ.1)
  unfold m_tCoef m_zcoefficient
  rw [p_rankT (by omega) h1 h4 ho hL.1 hc, p_zplaceOf (by omega) h1 h4 hZ.1 hc, bd1_n, bd1_n, ← e]
  rcases rkI_cases cg (ctN n) c hct with ⟨j, j1, j2⟩ | j2
  · rw [j2, if_neg (nI_nm1 (by omega)), if_pos (show (0 : Int32) ≤ nI j from nI_le (Nat.zero_le j) (by omega)), p_floorMod hpp hp2, bd1_n, wrI_n (by omega) (by decide), upd_nF]
    unfold s_zcoefficient_16
    rw [if_pos rfl, nzI_n (by omega) (by omega), nzI_n (by omega) (by omega), p_zmod hpp hp2, wrI_n (by omega) (by decide), upd_nF]
    have hlt := fmN_lt hpp y
    refine ⟨0, _, _, rfl, rfl, ⟨⟨hp, hp2, h1, h4, ho, hg⟩, hL, fun q => ?_, fun q hq => ?_, hG, hG0⟩, hZ.1, hZ.2.1, fun q hq => ?_, hZ.2.2.2⟩
    · show (if q = j then fmN p y else h q) < p
      by_cases z : q = j
      · rw [if_pos z]; exact hlt
      · rw [if_neg z]; exact hh q
    · show (if q = j then fmN p y else h q) = 0
      rw [if_neg (by omega)]; exact hh0 q hq
    · show (if q = j then fmN p y else h2 q) = (if q = j then fmN p y else h q)
      by_cases z : q = j
      · rw [if_pos z, if_pos z]
      · rw [if_neg z, if_neg z]; exact hZ.2.2.1 q hq
  · rw [j2, if_pos rfl, if_neg (by decide)]
    unfold s_zcoefficient_16
    rw [if_neg (by decide)]
    exact ⟨1, h, h2, rfl, rfl, hA0, hZ⟩
theorem o_clear (hF : 40000 < F) (hA : RA p n ord gc h G cg kg dgs rs) (hZ : RZ n ord gc h G cg2 kg2 h2 G2 dgs2) (tc : Int32) : ∃ h2', m_clear F (nI gc) (nF h) = some (nI 0, nF (fun _ => 0)) ∧ m_zclear F (nI gc) tc (nF h2) = some (nI 0, 0, nF h2') ∧ RA p n ord 0 (fun _ => 0) G cg kg dgs rs ∧ RZ n ord 0 (fun _ => 0) G cg2 kg2 h2' G2 dgs2 := by
  obtain ⟨⟨hp, hp2, h1, h4, ho, hg⟩, hL, hh, hh0, hG, hG0⟩ := hA
  have hpp := hp.1
  have hct := ctN_le h1 h4
  have key : ∀ (d m i : Nat) (g : Nat → Nat), i + d = 126 → d < m → (∀ j, j < i → g j = 0) → ∃ g', (∀ j, j < 126 → g' j = 0) ∧ b_zclear_12 F m (nI i) 0 0 (nF g) = some (0, 0, nF g') := by
    intro d
    induction d with
    | zero =>
      intro m i g hi hm h0
      obtain ⟨m, rfl⟩ : ∃ q, m = q + 1 := ⟨m - 1, by omega⟩
      refine ⟨g, fun j hj => h0 j (by omega), ?_⟩
      show s_zclear_12 F (b_zclear_12 F m) (nI i) 0 0 (nF g) = _
      unfold s_zclear_12
      rw [if_pos (show (126 : Int32) ≤ nI i from nI_le (show 126 ≤ i by omega) (by omega))]
    | succ d ih =>
      intro m i g hi hm h0
      obtain ⟨m, rfl⟩ : ∃ q, m = q + 1 := ⟨m - 1, by omega⟩
      obtain ⟨g', a, b⟩ := ih m (i + 1) (fun j => if j = i then 0 else g j) (by omega) (by omega) (fun j hj => by
        show (if j = i then 0 else g j) = 0
        by_cases z : j = i
        · rw [if_pos z]
        · rw [if_neg z]; exact h0 j (by omega))
      refine ⟨g', a, ?_⟩
      rw [← b]
      show s_zclear_12 F (b_zclear_12 F m) (nI i) 0 0 (nF g) = _
      unfold s_zclear_12
      rw [if_neg (show ¬ (126 : Int32) ≤ nI i from nI_ge (show i < 126 by omega) (by decide)), wrI_n (by omega) (by decide), show nI i + 1 = nI (i + 1) from nI_add i 1]
      show b_zclear_12 F m (nI (i + 1)) 0 0 (upd (nF g) i (nI 0)) = _
      rw [upd_nF]
  obtain ⟨g', a, b⟩ := key 126 F 0 h2 (by omega) (by omega) (fun j hj => by omega)
  have ex : (fun j => if j < 126 then (0 : Int32) else nF h j) = nF (fun _ => 0) := by
    funext j
    by_cases q : j < 126
    · rw [if_pos q]; rfl
    · rw [if_neg q]; show nI (h j) = nI 0; rw [hh0 j (by omega)]
  refine ⟨g', ?_, b, ⟨⟨hp, hp2, h1, h4, ho, by omega⟩, hL, fun _ => by show 0 < p; omega, fun _ _ => rfl, fun g hg => by omega, fun g hg => by omega⟩, hZ.1, hZ.2.1, fun j hj => a j (by omega), fun g hg => by omega⟩
  unfold m_clear
  rw [p_fill (by decide) (by omega), bd1_n, ex]
  rfl
end OPS
