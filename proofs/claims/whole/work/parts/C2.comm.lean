/-! THE PRODUCTS ARE WHAT THE BASIS SAYS, SO VARIABLES ACT IN ANY ORDER (no machine here). -/
def tM (c : Nat) : M4 := (exN c 0, exN c 1, exN c 2, exN c 3)
def vM (v : Nat) : M4 := (if 0 = v then 1 else 0, if 1 = v then 1 else 0, if 2 = v then 1 else 0, if 3 = v then 1 else 0)
theorem tM_inj {a b : Nat} (ha : a < 2 ^ 32) (hb : b < 2 ^ 32) (h : tM a = tM b) : a = b := by
  unfold tM at h
  simp only [Prod.mk.injEq] at h
  rw [ex_cdN ha, ex_cdN hb, h.1, h.2.1, h.2.2.1, h.2.2.2]
theorem tM_add {c v : Nat} (hc : c < 2 ^ 32) (hv : v < 4) (h : exN c v < 255) : tM (c + 2 ^ (24 - 8 * v)) = mA (vM v) (tM c) := by
  unfold tM mA vM
  rw [exN_add hc hv (by decide) h, exN_add hc hv (by decide) h, exN_add hc hv (by decide) h, exN_add hc hv (by decide) h]
  simp only [Prod.mk.injEq]
  exact ⟨Nat.add_comm _ _, Nat.add_comm _ _, Nat.add_comm _ _, Nat.add_comm _ _⟩
theorem mD_vM {v : Nat} (hv : v < 4) : mD (vM v) = 1 := by
  rcases (show v = 0 ∨ v = 1 ∨ v = 2 ∨ v = 3 by omega) with q | q | q | q <;> subst q <;> rfl
theorem mD_tM (c : Nat) : mD (tM c) = degN c := rfl
theorem mL_tM {a b : Nat} : mL (tM a) (tM b) ↔ ∀ u, u < 4 → exN a u ≤ exN b u := by
  unfold mL tM
  simp only []
  constructor
  · rintro ⟨h0, h1, h2, h3⟩ u hu
    rcases (show u = 0 ∨ u = 1 ∨ u = 2 ∨ u = 3 by omega) with q | q | q | q <;> subst q <;> assumption
  · intro h; exact ⟨h 0 (by decide), h 1 (by decide), h 2 (by decide), h 3 (by decide)⟩
theorem keyN_mK (ord c : Nat) : (keyN ord c : Int) = mK ord (tM c) + (if ord = 0 then 4294967295 else 0) := by
  have a0 := exN_lt c 0
  have a1 := exN_lt c 1
  have a2 := exN_lt c 2
  have a3 := exN_lt c 3
  unfold keyN mK dgN
  rw [mD_tM]
  by_cases h : ord = 0
  · rw [if_pos h, if_pos h, if_pos h, if_pos h, if_pos h, if_pos h]
    unfold tM
    simp only [Nat.sub_zero, Nat.sub_self, show 3 - 1 = 2 from rfl, show 3 - 2 = 1 from rfl]
    omega
  · rw [if_neg h, if_neg h, if_neg h, if_neg h, if_neg h, if_neg h]
    unfold tM
    simp only []
    omega
theorem keyN_le {ord a b : Nat} : keyN ord a ≤ keyN ord b ↔ mK ord (tM a) ≤ mK ord (tM b) := by
  have := keyN_mK ord a
  have := keyN_mK ord b
  omega
theorem keyN_lt_iff {ord a b : Nat} : keyN ord a < keyN ord b ↔ mK ord (tM a) < mK ord (tM b) := by
  have := keyN_mK ord a
  have := keyN_mK ord b
  omega
theorem key_deg {ord a b : Nat} (h : keyN ord a ≤ keyN ord b) : degN a ≤ degN b := by
  unfold keyN at h
  have a0 := dgN_lt ord a 0
  have a1 := dgN_lt ord a 1
  have a2 := dgN_lt ord a 2
  have a3 := dgN_lt ord a 3
  have b0 := dgN_lt ord b 0
  have b1 := dgN_lt ord b 1
  have b2 := dgN_lt ord b 2
  have b3 := dgN_lt ord b 3
  omega
/-- the full row of a member -/
def fR (rb : Nat → Nat → Nat) (b j : Nat) : Nat := if j < b then rb b j else if j = b then 1 else 0
def pG (cnt : Nat) (cg row : Nat → Nat) (x : M4) : Int := smI cnt (fun j => (row j : Int) * dM (tM (cg j)) x)
theorem pG_at {cnt : Nat} {cg row : Nat → Nat} (hlt : ∀ j, j < cnt → cg j < 2 ^ 32) (hinj : ∀ i j, i < cnt → j < cnt → cg i = cg j → i = j) {j : Nat} (hj : j < cnt) : pG cnt cg row (tM (cg j)) = row j := by
  unfold pG
  refine smI_one hj (fun i hi hne => ?_) ?_
  · unfold dM
    rw [if_neg (fun q => hne (hinj i j hi hj (tM_inj (hlt i hi) (hlt j hj) q.symm))), Int.mul_zero]
  · rw [dM_self, Int.mul_one]
theorem pG_out {cnt : Nat} {cg row : Nat → Nat} {x : M4} (h : ∀ j, j < cnt → row j ≠ 0 → x ≠ tM (cg j)) : pG cnt cg row x = 0 := by
  unfold pG
  refine smI_zero fun i hi => ?_
  by_cases z : row i = 0
  · rw [z]; exact Int.zero_mul _
  · unfold dM
    rw [if_neg (h i hi z), Int.mul_zero]
/-- what the theorem on remainders asks of a basis -/
def SPc (P : Int) (ord N : Nat) (G : Nat → M4 → Int) (lt : Nat → M4) : Prop :=
  ∀ g h t s, g < N → h < N → mA t (lt g) = mA s (lt h) → mD (mA t (lt g)) < 256 → ∃ l : List (Int × M4 × Nat), (∀ e ∈ l, e.2.2 < N ∧ mD (topM lt e) < 256 ∧ mK ord (topM lt e) < mK ord (mA t (lt g))) ∧ ∀ x, P ∣ shM t (G g) x - shM s (G h) x - evM G l x
section COMM
variable {p n ord sz : Nat} {cg g bs : Nat → Nat} {l : List Nat} {rb : Nat → Nat → Nat}
/-- the polynomial of member q -/
def GQ (n : Nat) (cg bs : Nat → Nat) (rb : Nat → Nat → Nat) (q : Nat) : M4 → Int := pG (ctN n) cg (fR rb (bs q))
def lQ (cg bs : Nat → Nat) (q : Nat) : M4 := tM (cg (bs q))
theorem Rm.tlt (h : Rm p n ord cg l sz g rb) : ∀ j, j < ctN n → cg j < 2 ^ 32 := fun j hj => (h.tin j hj).1
theorem Rm.sum_at (h : Rm p n ord cg l sz g rb) (a : Nat → Int) {i : Nat} (hi : i < sz) : smI sz (fun j => a j * dM (tM (g j)) (tM (g i))) = a i := by
  refine smI_one hi (fun j hj hne => ?_) (by rw [dM_self, Int.mul_one])
  unfold dM
  rw [if_neg (fun q => hne (h.ginj j i hj hi (tM_inj (h.glt hj) (h.glt hi) q.symm))), Int.mul_zero]
theorem Rm.sum_out (h : Rm p n ord cg l sz g rb) (a : Nat → Int) {x : M4} (hx : ∀ i, i < sz → x ≠ tM (g i)) : smI sz (fun j => a j * dM (tM (g j)) x) = 0 :=
  smI_zero fun j hj => by unfold dM; rw [if_neg (hx j hj), Int.mul_zero]
/-- case 2: the tail of a member -/
theorem Rm.tail_cg (h : Rm p n ord cg l sz g rb) {b : Nat} (hb : b ∈ l) (x : M4) : (p : Int) ∣ dM (tM (cg b)) x - smI sz (fun j => (tB p n cg rb b (g j) : Int) * dM (tM (g j)) x) - pG (ctN n) cg (fR rb b) x := by
  have hbl := h.bl b hb
  have hbn : ∀ i, i < sz → g i ≠ cg b := fun i hi q => by
    have := (h.gnl hi).2.2
    rw [q] at this
    exact hlN_0.mp this b hb (dvN_iff.mpr fun u hu => Nat.le_refl _)
  by_cases hx : ∃ j, j < ctN n ∧ x = tM (cg j)
  · obtain ⟨j, hj, rfl⟩ := hx
    rw [pG_at h.tlt h.tinj hj]
    by_cases hjb : j = b
    · subst hjb
      rw [dM_self, h.sum_out _ (fun i hi q => hbn i hi (tM_inj (h.glt hi) (h.tlt _ hbl) q.symm)), show fR rb j j = 1 by unfold fR; rw [if_neg (by omega), if_pos rfl]]
      exact ⟨0, by omega⟩
    · have hd : dM (tM (cg b)) (tM (cg j)) = 0 := by unfold dM; rw [if_neg (fun q => hjb (h.tinj j b hj hbl (tM_inj (h.tlt _ hj) (h.tlt _ hbl) q)))]
      rw [hd]
      by_cases hg : ∃ i, i < sz ∧ g i = cg j
      · obtain ⟨i, hi, e⟩ := hg
        rw [← e, h.sum_at _ hi]
        have hr : rkN cg (g i) (ctN n) = j := (rk_iff h hj).mpr e.symm
        unfold tB fR
        rw [hr]
        by_cases z : j < b
        · rw [if_pos z, if_pos z]
          have := h.rlt b hb j z
          by_cases y : rb b j = 0
          · rw [y, Nat.sub_zero, Nat.mod_self]; exact ⟨0, by omega⟩
          · rw [Nat.mod_eq_of_lt (show p - rb b j < p by omega)]
            exact ⟨-1, by omega⟩
        · rw [if_neg z, if_neg z, if_neg hjb]
          exact ⟨0, by omega⟩
      · rw [h.sum_out _ (fun i hi q => hg ⟨i, hi, tM_inj (h.glt hi) (h.tlt _ hj) q.symm⟩)]
        have : fR rb b j = 0 := by
          unfold fR
          by_cases z : j < b
          · rw [if_pos z]
            refine Classical.byContradiction fun y => hg ?_
            exact h.nl.mp (h.rnl b hb j z y)
          · rw [if_neg z, if_neg hjb]
        rw [this]
        exact ⟨0, by omega⟩
  · have hsum : smI sz (fun j => (tB p n cg rb b (g j) : Int) * dM (tM (g j)) x) = 0 := by
      by_cases hg : ∃ i, i < sz ∧ x = tM (g i)
      · obtain ⟨i, hi, rfl⟩ := hg
        rw [h.sum_at _ hi]
        unfold tB
        rw [if_neg (fun z => ?_)]
        · rfl
        · rcases rkN_cases cg (g i) (ctN n) with ⟨a, c⟩ | ⟨a, c⟩
          · exact hx ⟨_, a, by rw [c]⟩
          · have := h.ct; omega
      · exact h.sum_out _ (fun i hi q => hg ⟨i, hi, q⟩)
    rw [pG_out (fun j hj _ q => hx ⟨j, hj, q⟩), hsum, show dM (tM (cg b)) x = 0 from if_neg (fun q => hx ⟨b, hbl, q⟩)]
    exact ⟨0, by omega⟩
/-- what a product comes to is congruent to it -/
theorem prod_cg (h : Rm p n ord cg l sz g rb) (hA : Arr l bs) {T : Nat → Nat} (hT : ∀ v k, v < n → k < sz → PrR p n sz cg g l rb T v k ∧ PrB p ord sz g T v k) : ∀ (K v k : Nat), pK ord g v k < K → v < n → k < sz →
    Cg (p : Int) l.length (GQ n cg bs rb) (lQ cg bs) (degN (g k) + 1) (fun x => dM (tM (g k + 2 ^ (24 - 8 * v))) x - smI sz (fun j => (tP T v k j : Int) * dM (tM (g j)) x)) := by
  have hn4 := h.n4
  intro K
  induction K with
  | zero => intro v k hK; omega
  | succ K ih =>
    intro v k hK hv hk
    have hv4 : v < 4 := by omega
    obtain ⟨a, ab⟩ := hT v k hv hk
    rcases a with ⟨j, j1, j2, j3⟩ | ⟨j1, b, b1, b2, b3⟩ | ⟨j1, j2, u, k', c1, c2, c3, c4⟩
    · refine Cg.zero.congr fun x => ⟨0, ?_⟩
      have : smI sz (fun i => (tP T v k i : Int) * dM (tM (g i)) x) = dM (tM (g j)) x := by
        rw [smI_congr (g := fun i => if i = j then dM (tM (g i)) x else 0) (fun i hi => ?_), smI_sel j1]
        rw [j3 i hi]
        by_cases e : i = j
        · rw [if_pos e, if_pos e]; exact Int.one_mul _
        · rw [if_neg e, if_neg e]; exact Int.zero_mul _
      rw [this, j2, Int.mul_zero]
      omega
    · obtain ⟨q, hq, e⟩ := (hA.mem b).mp b1
      have hone := Cg.one (P := (p : Int)) (G := GQ n cg bs rb) (lt := lQ cg bs) hq
      have hdeg : mD (lQ cg bs q) ≤ degN (g k) + 1 := by
        unfold lQ
        rw [mD_tM, e, b2, degN_add (h.glt hk) hv4 (by have := h.gex hk hv4; omega)]
        exact Nat.le_refl _
      refine (hone.mono hdeg).congr fun x => ?_
      have := h.tail_cg b1 x
      rw [smI_congr (g := fun j => (tB p n cg rb b (g j) : Int) * dM (tM (g j)) x) (fun j hj => by rw [b3 j hj]), ← b2]
      unfold GQ
      rw [e]
      exact this
    · have hu4 : u < 4 := by have := c1.1; omega
      obtain ⟨l1, l2⟩ := h.lesser hv hk c1 c2 c3
      have hdk : degN (g k) = degN (g k') + 1 := by rw [← c3, degN_add (h.glt c2) hu4 (by have := h.gex c2 hu4; omega)]
      have hdv : degN (g k' + 2 ^ (24 - 8 * v)) = degN (g k') + 1 := degN_add (h.glt c2) hv4 (by have := h.gex c2 hv4; omega)
      have s1 := (ih v k' (by omega) hv c2).shift (vM u)
      rw [mD_vM hu4] at s1
      have s2 := Cg.sum (P := (p : Int)) (N := l.length) (G := GQ n cg bs rb) (lt := lQ cg bs) (d := degN (g k) + 1) (c := fun j => (tP T v k' j : Int)) (f := fun j x => dM (tM (g j + 2 ^ (24 - 8 * u))) x - smI sz (fun i => (tP T u j i : Int) * dM (tM (g i)) x)) sz (fun j hj => by
        by_cases z : tP T v k' j = 0
        · left; rw [z]; exact ⟨0, (Int.mul_zero _).symm⟩
        · right
          have hkey := ((hT v k' hv c2).2 j hj).2 z
          have hd := key_deg hkey
          exact (ih u j (by have := l2 j hj hkey; omega) c1.1 hj).mono (by omega))
      refine ((s1.mono (show 1 + (degN (g k') + 1) ≤ degN (g k) + 1 by omega)).add s2).congr fun x => ?_
      have e1 : shM (vM u) (fun x => dM (tM (g k' + 2 ^ (24 - 8 * v))) x - smI sz (fun j => (tP T v k' j : Int) * dM (tM (g j)) x)) x = dM (tM (g k + 2 ^ (24 - 8 * v))) x - smI sz (fun j => (tP T v k' j : Int) * dM (tM (g j + 2 ^ (24 - 8 * u))) x) := by
        rw [shM_sub (vM u) (fun x => dM (tM (g k' + 2 ^ (24 - 8 * v))) x) (fun x => smI sz (fun j => (tP T v k' j : Int) * dM (tM (g j)) x)), shM_sum (vM u) sz (fun j x => (tP T v k' j : Int) * dM (tM (g j)) x)]
        have e2 : shM (vM u) (fun x => dM (tM (g k' + 2 ^ (24 - 8 * v))) x) x = dM (tM (g k + 2 ^ (24 - 8 * v))) x := by
          show shM (vM u) (dM (tM (g k' + 2 ^ (24 - 8 * v)))) x = _
          rw [shM_dM, tM_add (h.glt c2) hv4 (by have := h.gex c2 hv4; omega), tM_add (h.glt hk) hv4 (by have := h.gex hk hv4; omega), ← c3, tM_add (h.glt c2) hu4 (by have := h.gex c2 hu4; omega), ← mA_assoc, ← mA_assoc, mA_comm (vM u) (vM v)]
        rw [e2]
        refine congrArg (fun y => dM (tM (g k + 2 ^ (24 - 8 * v))) x - y) (smI_congr fun j hj => ?_)
        rw [shM_mul]
        show (tP T v k' j : Int) * shM (vM u) (dM (tM (g j))) x = _
        rw [shM_dM, tM_add (h.glt hj) hu4 (by have := h.gex hj hu4; omega)]
      rw [e1]
      have e3 : smI sz (fun j => (tP T v k' j : Int) * (dM (tM (g j + 2 ^ (24 - 8 * u))) x - smI sz (fun i => (tP T u j i : Int) * dM (tM (g i)) x))) = smI sz (fun j => (tP T v k' j : Int) * dM (tM (g j + 2 ^ (24 - 8 * u))) x) - smI sz (fun i => (sm sz (fun j => tP T v k' j * tP T u j i) : Int) * dM (tM (g i)) x) := by
        rw [smI_congr (g := fun j => (tP T v k' j : Int) * dM (tM (g j + 2 ^ (24 - 8 * u))) x - smI sz (fun i => (tP T v k' j : Int) * ((tP T u j i : Int) * dM (tM (g i)) x))) (fun j hj => by rw [Int.mul_sub, ← smI_mul]), smI_sub, smI_swap]
        refine congrArg (fun y => _ - y) (smI_congr fun i hi => ?_)
        rw [← smI_nat, Int.mul_comm, ← smI_mul]
        refine smI_congr fun j hj => ?_
        rw [Int.natCast_mul, ← Int.mul_assoc, Int.mul_comm]
      rw [e3]
      have e4 : (p : Int) ∣ smI sz (fun i => (sm sz (fun j => tP T v k' j * tP T u j i) : Int) * dM (tM (g i)) x) - smI sz (fun i => (tP T v k i : Int) * dM (tM (g i)) x) := by
        rw [← smI_sub]
        refine smI_dvd fun i hi => ?_
        rw [← Int.sub_mul, c4 i hi]
        refine Int.dvd_mul_of_dvd_left ?_
        have := Nat.div_add_mod (sm sz (fun j => tP T v k' j * tP T u j i)) p
        exact ⟨(sm sz (fun j => tP T v k' j * tP T u j i) / p : Nat), by rw [← Int.natCast_mul]; omega⟩
      have e5 : ∀ A B C D : Int, A - B - (A - C + (C - D)) = D - B := by intros; omega
      rw [e5]
      exact e4
/-- variables act in any order -/
theorem prod_comm (h : Rm p n ord cg l sz g rb) (hA : Arr l bs) {T : Nat → Nat} (hT : ∀ v k, v < n → k < sz → PrR p n sz cg g l rb T v k ∧ PrB p ord sz g T v k) (hS : SPc (p : Int) ord l.length (GQ n cg bs rb) (lQ cg bs)) {u v k : Nat} (hu : u < n) (hv : v < n) (hk : k < sz) {i : Nat} (hi : i < sz) :
    sm sz (fun j => tP T v k j * tP T u j i) % p = sm sz (fun j => tP T u k j * tP T v j i) % p := by
  have hn4 := h.n4
  have hp2 := h.p2
  have main : ∀ u v, u < n → v < n → Cg (p : Int) l.length (GQ n cg bs rb) (lQ cg bs) 200 (fun x => dM (mA (vM u) (mA (vM v) (tM (g k)))) x - smI sz (fun i => (sm sz (fun j => tP T v k j * tP T u j i) : Int) * dM (tM (g i)) x)) := by
    intro u v hu hv
    have hu4 : u < 4 := by omega
    have hv4 : v < 4 := by omega
    have hdeg : ∀ j, j < sz → degN (g j) ≤ 120 := by
      intro j hj
      have a0 := h.gex hj (show 0 < 4 by decide)
      have a1 := h.gex hj (show 1 < 4 by decide)
      have a2 := h.gex hj (show 2 < 4 by decide)
      have a3 := h.gex hj (show 3 < 4 by decide)
      unfold degN
      omega
    have s1 := (prod_cg h hA hT (pK ord g v k + 1) v k (by omega) hv hk).shift (vM u)
    rw [mD_vM hu4] at s1
    have s2 := Cg.sum (P := (p : Int)) (N := l.length) (G := GQ n cg bs rb) (lt := lQ cg bs) (d := 200) (c := fun j => (tP T v k j : Int)) (f := fun j x => dM (tM (g j + 2 ^ (24 - 8 * u))) x - smI sz (fun i => (tP T u j i : Int) * dM (tM (g i)) x)) sz (fun j hj => Or.inr ((prod_cg h hA hT (pK ord g u j + 1) u j (by omega) hu hj).mono (by have := hdeg j hj; omega)))
    refine ((s1.mono (show 1 + (degN (g k) + 1) ≤ 200 by have := hdeg k hk; omega)).add s2).congr fun x => ⟨0, ?_⟩
    have e1 : shM (vM u) (fun x => dM (tM (g k + 2 ^ (24 - 8 * v))) x - smI sz (fun j => (tP T v k j : Int) * dM (tM (g j)) x)) x = dM (mA (vM u) (mA (vM v) (tM (g k)))) x - smI sz (fun j => (tP T v k j : Int) * dM (tM (g j + 2 ^ (24 - 8 * u))) x) := by
      rw [shM_sub (vM u) (fun x => dM (tM (g k + 2 ^ (24 - 8 * v))) x) (fun x => smI sz (fun j => (tP T v k j : Int) * dM (tM (g j)) x)), shM_sum (vM u) sz (fun j x => (tP T v k j : Int) * dM (tM (g j)) x)]
      have e2 : shM (vM u) (fun x => dM (tM (g k + 2 ^ (24 - 8 * v))) x) x = dM (mA (vM u) (mA (vM v) (tM (g k)))) x := by
        show shM (vM u) (dM (tM (g k + 2 ^ (24 - 8 * v)))) x = _
        rw [shM_dM, tM_add (h.glt hk) hv4 (by have := h.gex hk hv4; omega)]
      rw [e2]
      refine congrArg (fun y => dM (mA (vM u) (mA (vM v) (tM (g k)))) x - y) (smI_congr fun j hj => ?_)
      rw [shM_mul]
      show (tP T v k j : Int) * shM (vM u) (dM (tM (g j))) x = _
      rw [shM_dM, tM_add (h.glt hj) hu4 (by have := h.gex hj hu4; omega)]
    rw [e1]
    have e3 : smI sz (fun j => (tP T v k j : Int) * (dM (tM (g j + 2 ^ (24 - 8 * u))) x - smI sz (fun i => (tP T u j i : Int) * dM (tM (g i)) x))) = smI sz (fun j => (tP T v k j : Int) * dM (tM (g j + 2 ^ (24 - 8 * u))) x) - smI sz (fun i => (sm sz (fun j => tP T v k j * tP T u j i) : Int) * dM (tM (g i)) x) := by
      rw [smI_congr (g := fun j => (tP T v k j : Int) * dM (tM (g j + 2 ^ (24 - 8 * u))) x - smI sz (fun i => (tP T v k j : Int) * ((tP T u j i : Int) * dM (tM (g i)) x))) (fun j hj => by rw [Int.mul_sub, ← smI_mul]), smI_sub, smI_swap]
      refine congrArg (fun y => _ - y) (smI_congr fun i hi => ?_)
      rw [← smI_nat, Int.mul_comm, ← smI_mul]
      refine smI_congr fun j hj => ?_
      rw [Int.natCast_mul, ← Int.mul_assoc, Int.mul_comm]
    rw [e3, Int.mul_zero]
    have e5 : ∀ A B C : Int, A - B - (A - C + (C - B)) = 0 := by intros; omega
    exact e5 _ _ _
  have hdiff := (main u v hu hv).sub (main v u hv hu)
  obtain ⟨L, L1, L2⟩ := hdiff
  have hval : ∀ x, (dM (mA (vM u) (mA (vM v) (tM (g k)))) x - smI sz (fun i => (sm sz (fun j => tP T v k j * tP T u j i) : Int) * dM (tM (g i)) x) - (dM (mA (vM v) (mA (vM u) (tM (g k)))) x - smI sz (fun i => (sm sz (fun j => tP T u k j * tP T v j i) : Int) * dM (tM (g i)) x))) = smI sz (fun i => ((sm sz (fun j => tP T u k j * tP T v j i) : Int) - (sm sz (fun j => tP T v k j * tP T u j i) : Int)) * dM (tM (g i)) x) := by
    intro x
    rw [← mA_assoc, ← mA_assoc, mA_comm (vM u) (vM v), smI_congr (f := fun i => ((sm sz (fun j => tP T u k j * tP T v j i) : Int) - (sm sz (fun j => tP T v k j * tP T u j i) : Int)) * dM (tM (g i)) x) (g := fun i => (sm sz (fun j => tP T u k j * tP T v j i) : Int) * dM (tM (g i)) x - (sm sz (fun j => tP T v k j * tP T u j i) : Int) * dM (tM (g i)) x) (fun i _ => Int.sub_mul _ _ _), smI_sub]
    omega
  have hz := grb (P := (p : Int)) (ord := ord) (N := l.length) (G := GQ n cg bs rb) (lt := lQ cg bs) (fun q hq => by
      have hb := h.bl _ ((hA.mem _).mpr ⟨q, hq, rfl⟩)
      unfold GQ lQ
      rw [pG_at h.tlt h.tinj hb]
      unfold fR
      rw [if_neg (by omega), if_pos rfl]
      rfl) (fun q s hq hs => by
      have hb := h.bl _ ((hA.mem _).mpr ⟨q, hq, rfl⟩)
      refine Classical.byContradiction fun hcon => hs ?_
      unfold GQ
      refine pG_out fun j hj hr e => hcon ?_
      unfold lQ
      rw [e, ← keyN_le]
      unfold fR at hr
      by_cases z : j < bs q
      · exact Nat.le_of_lt (h.tkey j _ z hb)
      · rw [if_neg z] at hr
        by_cases y : j = bs q
        · rw [y]; exact Nat.le_refl _
        · rw [if_neg y] at hr; exact absurd rfl hr) hS (2 ^ 41) L (fun e he => by
      obtain ⟨a, b⟩ := L1 e he
      refine ⟨a, by omega, ?_⟩
      generalize topM (lQ cg bs) e = m at b
      obtain ⟨m0, m1, m2, m3⟩ := m
      unfold mK mD
      unfold mD at b
      simp only [] at b ⊢
      by_cases ho : ord = 0
      · rw [if_pos ho]; omega
      · rw [if_neg ho]; omega) (fun x hx q hq hle => by
      refine hx ?_
      have h2 := L2 x
      dsimp only at h2
      rw [hval x] at h2
      have h3 : smI sz (fun i => ((sm sz (fun j => tP T u k j * tP T v j i) : Int) - (sm sz (fun j => tP T v k j * tP T u j i) : Int)) * dM (tM (g i)) x) = 0 := by
        refine h.sum_out _ (fun i hi e => ?_)
        rw [e] at hle
        unfold lQ at hle
        refine hlN_0.mp (h.gnl hi).2.2 (bs q) ((hA.mem _).mpr ⟨q, hq, rfl⟩) (dvN_iff.mpr (mL_tM.mp hle))
      rw [h3] at h2
      have := Int.dvd_neg.mpr h2
      rw [show -(0 - evM (GQ n cg bs rb) L x) = evM (GQ n cg bs rb) L x by omega] at this
      exact this)
  have hfin := Int.dvd_add (L2 (tM (g i))) (hz (tM (g i)))
  dsimp only at hfin
  rw [hval, h.sum_at _ hi] at hfin
  rw [Int.sub_add_cancel] at hfin
  obtain ⟨c, hc⟩ := hfin
  have e1 : ((sm sz (fun j => tP T u k j * tP T v j i) : Nat) : Int) = ((sm sz (fun j => tP T v k j * tP T u j i) : Nat) : Int) + p * c := by omega
  have e2 : ((sm sz (fun j => tP T u k j * tP T v j i) : Nat) : Int) % p = ((sm sz (fun j => tP T v k j * tP T u j i) : Nat) : Int) % p := by rw [e1, Int.add_mul_emod_self_left]
  have e3 : ((sm sz (fun j => tP T u k j * tP T v j i) % p : Nat) : Int) = ((sm sz (fun j => tP T v k j * tP T u j i) % p : Nat) : Int) := by
    rw [Int.natCast_emod, Int.natCast_emod]; exact e2
  omega
end COMM
