/-! .. THE CONDITION ON PAIRS. -/
def mX (a b : M4) : M4 := (max a.1 b.1, max a.2.1 b.2.1, max a.2.2.1 b.2.2.1, max a.2.2.2 b.2.2.2)
theorem mX_l (a b : M4) : mL a (mX a b) := by
  unfold mL mX; simp only []; omega
theorem mX_r (a b : M4) : mL b (mX a b) := by
  unfold mL mX; simp only []; omega
theorem mX_le {a b m : M4} (ha : mL a m) (hb : mL b m) : mL (mX a b) m := by
  unfold mL at ha hb
  unfold mL mX; simp only []; omega
theorem mX_prod {a b : M4} (h : mD (mX a b) = mD a + mD b) : mS (mX a b) a = b ∧ mS (mX a b) b = a := by
  obtain ⟨a0, a1, a2, a3⟩ := a
  obtain ⟨b0, b1, b2, b3⟩ := b
  unfold mD mX at h
  unfold mX mS
  simp only [Prod.mk.injEq] at h ⊢
  omega
theorem mA_cancel {a t s : M4} (h : mA a t = mA a s) : t = s := by
  have := congrArg (fun x => mS x a) h
  simp only [mS_mA] at this
  exact this
theorem smI_cut {cnt b : Nat} {f : Nat → Int} (hb : b < cnt) (h : ∀ j, b < j → j < cnt → f j = 0) : smI cnt f = smI b f + f b := by
  induction cnt with
  | zero => omega
  | succ cnt ih =>
    by_cases e : b = cnt
    · rw [e]; rfl
    · rw [smI_s, ih (by omega) (fun j h1 h2 => h j h1 (by omega)), h cnt (by omega) (by omega)]; omega
theorem shM_ext {t : M4} {f g : M4 → Int} (h : ∀ x, f x = g x) (x : M4) : shM t f x = shM t g x := by
  unfold shM
  by_cases q : mL t x
  · rw [if_pos q, if_pos q, h]
  · rw [if_neg q, if_neg q]
section SPAIR2
variable {p n ord D : Nat} {cg kg R Lf bs : Nat → Nat}
theorem Vs.GQ_eq (h : Vs p n ord D cg kg R Lf bs) {q : Nat} (hq : q < (bsN cg Lf (ctN n)).length) (x : M4) : GQ n cg bs (rowF R) q x = pG (ctN n) cg (rowF R (bs q)) x := by
  have hb := (bsN_mem cg Lf _ _ ((h.arr.mem _).mpr ⟨q, hq, rfl⟩)).2
  obtain ⟨r1, r2, r3, r4⟩ := h.ech.2 _ hb
  unfold GQ pG
  refine smI_congr fun j hj => ?_
  have : fR (rowF R) (bs q) j = rowF R (bs q) j := by
    unfold fR
    by_cases z : j < bs q
    · rw [if_pos z]
    · rw [if_neg z]
      by_cases y : j = bs q
      · rw [if_pos y, y, r2]
      · rw [if_neg y, r3 j (by omega)]
  rw [this]
theorem Vs.spc (h : Vs p n ord D cg kg R Lf bs) : SPc (p : Int) ord (bsN cg Lf (ctN n)).length (GQ n cg bs (rowF R)) (lQ cg bs) := by
  intro gi hi t s hgi hhi e hdeg
  have hn4 := h.n4
  have hp2 := h.pP.1
  have mg := (h.arr.mem _).mpr ⟨gi, hgi, rfl⟩
  have mh := (h.arr.mem _).mpr ⟨hi, hhi, rfl⟩
  have Lg := (bsN_mem cg Lf _ _ mg).2
  have Lh := (bsN_mem cg Lf _ _ mh).2
  obtain ⟨g1, g2, g3, g4⟩ := h.ech.2 _ Lg
  obtain ⟨h1, h2, h3, h4⟩ := h.ech.2 _ Lh
  have inTg := h.tab.inT h.n1 h.n4 g1
  have inTh := h.tab.inT h.n1 h.n4 h1
  -- the common multiple
  have q1 : mL (mX (lQ cg bs gi) (lQ cg bs hi)) (mA t (lQ cg bs gi)) := by
    refine mX_le ?_ ?_
    · rw [mA_comm]; exact mL_mA _ _
    · rw [e, mA_comm]; exact mL_mA _ _
  have q2 := mA_mS q1
  generalize hw : mS (mA t (lQ cg bs gi)) (mX (lQ cg bs gi) (lQ cg bs hi)) = w at q2
  have q3 := mA_mS (mX_l (lQ cg bs gi) (lQ cg bs hi))
  have q4 := mA_mS (mX_r (lQ cg bs gi) (lQ cg bs hi))
  have et : t = mA w (mS (mX (lQ cg bs gi) (lQ cg bs hi)) (lQ cg bs gi)) := by
    refine mA_cancel (a := lQ cg bs gi) ?_
    rw [mA_comm, ← q2]
    conv => lhs; rw [← q3]
    rw [mA_assoc, mA_comm w]
  have es : s = mA w (mS (mX (lQ cg bs gi) (lQ cg bs hi)) (lQ cg bs hi)) := by
    refine mA_cancel (a := lQ cg bs hi) ?_
    rw [mA_comm, ← e, ← q2]
    conv => lhs; rw [← q4]
    rw [mA_assoc, mA_comm w]
  have hdw : mD (mA t (lQ cg bs gi)) = mD (mX (lQ cg bs gi) (lQ cg bs hi)) + mD w := by rw [← q2, mD_mA]
  have hkw : mK ord (mA t (lQ cg bs gi)) = mK ord (mX (lQ cg bs gi) (lQ cg bs hi)) + mK ord w := by rw [← q2, mK_add]
  rcases Nat.lt_or_ge D (mD (mX (lQ cg bs gi) (lQ cg bs hi))) with hbig | hsmall
  · -- no common variable
    have hne : gi ≠ hi := fun z => by
      subst z
      have : mX (lQ cg bs gi) (lQ cg bs gi) = lQ cg bs gi := by
        unfold mX
        obtain ⟨a0, a1, a2, a3⟩ := lQ cg bs gi
        simp only [Nat.max_self]
      rw [this] at hbig
      have := h.deg _ (RS_row h.ech Lg) _ g1 (by rw [g2]; decide)
      have e2 : mD (lQ cg bs gi) = dgC cg (bs gi) := rfl
      omega
    have hl1 : (bsN cg Lf (ctN n))[gi] = bs gi := (h.arr gi hgi).symm
    have hl2 : (bsN cg Lf (ctN n))[hi] = bs hi := (h.arr hi hhi).symm
    have hlc : lcN (cg (bs gi)) (cg (bs hi)) = degN (cg (bs gi)) + degN (cg (bs hi)) := by
      have hm : mD (mX (lQ cg bs gi) (lQ cg bs hi)) = lcN (cg (bs gi)) (cg (bs hi)) := rfl
      rcases Nat.lt_or_ge gi hi with z | z
      · have := h.cpl gi hi hgi hhi z
        rw [hl1, hl2] at this
        rcases this with y | y
        · omega
        · exact y
      · have := h.cpl hi gi hhi hgi (by omega)
        rw [hl1, hl2, lcN_comm] at this
        rcases this with y | y
        · omega
        · omega
    obtain ⟨x1, x2⟩ := mX_prod (show mD (mX (lQ cg bs gi) (lQ cg bs hi)) = mD (lQ cg bs gi) + mD (lQ cg bs hi) from hlc)
    rw [x1] at et
    rw [x2] at es
    have hmx : mX (lQ cg bs gi) (lQ cg bs hi) = mA (lQ cg bs gi) (lQ cg bs hi) := by rw [← q3, x1]
    obtain ⟨L1, a1, a2⟩ := lsum (GQ n cg bs (rowF R)) hi (fun i => (rowF R (bs gi) i : Int)) (fun i => tM (cg i)) (bs gi)
    obtain ⟨L2, b1, b2⟩ := lsum (GQ n cg bs (rowF R)) gi (fun j => -(rowF R (bs hi) j : Int)) (fun j => tM (cg j)) (bs hi)
    refine ⟨stM w (L1 ++ L2), fun x hx => ?_, fun x => ⟨0, ?_⟩⟩
    · obtain ⟨y, hy, rfl⟩ := List.mem_map.mp hx
      have key : ∀ (i b b' : Nat), i < b → b < ctN n → mX (lQ cg bs gi) (lQ cg bs hi) = mA (tM (cg b)) (tM (cg b')) → mD (mA (mA w (tM (cg i))) (tM (cg b'))) < 256 ∧ mK ord (mA (mA w (tM (cg i))) (tM (cg b'))) < mK ord (mA t (lQ cg bs gi)) := by
        intro i b b' hib hb he
        have k1 := (h.tab.lt_iff (show i < ctN n by omega) hb).mpr hib
        have k2 := key_deg (Nat.le_of_lt k1)
        have k3 := keyN_lt_iff.mp k1
        rw [hkw, he, mD_mA, mD_mA, mK_add, mK_add, mK_add]
        rw [hdw, he, mD_mA] at hdeg
        simp only [mD_tM] at hdeg ⊢
        omega
      rcases List.mem_append.mp hy with z | z
      · obtain ⟨c1, i, c2, c3⟩ := a1 y z
        have := key i (bs gi) (bs hi) c2 g1 hmx
        unfold topM
        show y.2.2 < _ ∧ mD (mA (mA w y.2.1) (lQ cg bs y.2.2)) < 256 ∧ mK ord (mA (mA w y.2.1) (lQ cg bs y.2.2)) < _
        rw [c1, c3]
        exact ⟨hhi, this.1, this.2⟩
      · obtain ⟨c1, i, c2, c3⟩ := b1 y z
        have := key i (bs hi) (bs gi) c2 h1 (by rw [hmx, mA_comm]; rfl)
        unfold topM
        show y.2.2 < _ ∧ mD (mA (mA w y.2.1) (lQ cg bs y.2.2)) < 256 ∧ mK ord (mA (mA w y.2.1) (lQ cg bs y.2.2)) < _
        rw [c1, c3]
        exact ⟨hgi, this.1, this.2⟩
    · rw [evM_st, et, es, ← shM_shM, ← shM_shM, ← shM_sub w (shM (lQ cg bs hi) (GQ n cg bs (rowF R) gi)) (shM (lQ cg bs gi) (GQ n cg bs (rowF R) hi)), ← shM_sub w (fun y => shM (lQ cg bs hi) (GQ n cg bs (rowF R) gi) y - shM (lQ cg bs gi) (GQ n cg bs (rowF R) hi) y) (evM (GQ n cg bs (rowF R)) (L1 ++ L2))]
      have hz : ∀ y, shM (lQ cg bs hi) (GQ n cg bs (rowF R) gi) y - shM (lQ cg bs gi) (GQ n cg bs (rowF R) hi) y - evM (GQ n cg bs (rowF R)) (L1 ++ L2) y = 0 := by
        intro y
        rw [evM_app, a2, b2]
        have hc := conv_comm (ctN n) (fun j => tM (cg j)) (fun i => (rowF R (bs gi) i : Int)) (fun j => (rowF R (bs hi) j : Int)) y
        have eg : ∀ u, GQ n cg bs (rowF R) gi u = smI (ctN n) (fun i => (rowF R (bs gi) i : Int) * dM (tM (cg i)) u) := fun u => h.GQ_eq hgi u
        have eh : ∀ u, GQ n cg bs (rowF R) hi u = smI (ctN n) (fun i => (rowF R (bs hi) i : Int) * dM (tM (cg i)) u) := fun u => h.GQ_eq hhi u
        rw [smI_congr (f := fun j => (rowF R (bs hi) j : Int) * shM (tM (cg j)) (fun y => smI (ctN n) (fun i => (rowF R (bs gi) i : Int) * dM (tM (cg i)) y)) y) (g := fun j => (rowF R (bs hi) j : Int) * shM (tM (cg j)) (GQ n cg bs (rowF R) gi) y) (fun j _ => by rw [shM_ext (fun u => (eg u).symm)]),
          smI_congr (f := fun j => (rowF R (bs gi) j : Int) * shM (tM (cg j)) (fun y => smI (ctN n) (fun i => (rowF R (bs hi) i : Int) * dM (tM (cg i)) y)) y) (g := fun j => (rowF R (bs gi) j : Int) * shM (tM (cg j)) (GQ n cg bs (rowF R) hi) y) (fun j _ => by rw [shM_ext (fun u => (eh u).symm)]),
          smI_cut h1 (fun j hj _ => by rw [h3 j hj]; exact Int.zero_mul _), smI_cut g1 (fun j hj _ => by rw [g3 j hj]; exact Int.zero_mul _), h2, g2] at hc
        have en : smI (bs hi) (fun j => -(rowF R (bs hi) j : Int) * shM (tM (cg j)) (GQ n cg bs (rowF R) gi) y) = - smI (bs hi) (fun j => (rowF R (bs hi) j : Int) * shM (tM (cg j)) (GQ n cg bs (rowF R) gi) y) := by
          have := smI_mul (bs hi) (-1) (fun j => (rowF R (bs hi) j : Int) * shM (tM (cg j)) (GQ n cg bs (rowF R) gi) y)
          rw [Int.neg_one_mul] at this
          rw [← this]
          refine smI_congr fun j _ => ?_
          rw [Int.neg_one_mul, Int.neg_mul]
        rw [en]
        have e1 : ((1 : Nat) : Int) = 1 := rfl
        rw [e1, Int.one_mul, Int.one_mul] at hc
        unfold lQ
        omega
      rw [shM_ext (g := fun _ => 0) hz, Int.mul_zero]
      unfold shM
      split <;> rfl
  · -- within the degree
    have hJ : ∃ J, J < ctN n ∧ cg J = cdN (mX (lQ cg bs gi) (lQ cg bs hi)).1 (mX (lQ cg bs gi) (lQ cg bs hi)).2.1 (mX (lQ cg bs gi) (lQ cg bs hi)).2.2.1 (mX (lQ cg bs gi) (lQ cg bs hi)).2.2.2 ∧ tM (cg J) = mX (lQ cg bs gi) (lQ cg bs hi) := by
      have a0 := exN_lt (cg (bs gi)) 0
      have a1 := exN_lt (cg (bs gi)) 1
      have a2 := exN_lt (cg (bs gi)) 2
      have a3 := exN_lt (cg (bs gi)) 3
      have b0 := exN_lt (cg (bs hi)) 0
      have b1 := exN_lt (cg (bs hi)) 1
      have b2 := exN_lt (cg (bs hi)) 2
      have b3 := exN_lt (cg (bs hi)) 3
      have m0 : (mX (lQ cg bs gi) (lQ cg bs hi)).1 < 256 := by show max (exN (cg (bs gi)) 0) (exN (cg (bs hi)) 0) < 256; omega
      have m1 : (mX (lQ cg bs gi) (lQ cg bs hi)).2.1 < 256 := by show max (exN (cg (bs gi)) 1) (exN (cg (bs hi)) 1) < 256; omega
      have m2 : (mX (lQ cg bs gi) (lQ cg bs hi)).2.2.1 < 256 := by show max (exN (cg (bs gi)) 2) (exN (cg (bs hi)) 2) < 256; omega
      have m3 : (mX (lQ cg bs gi) (lQ cg bs hi)).2.2.2 < 256 := by show max (exN (cg (bs gi)) 3) (exN (cg (bs hi)) 3) < 256; omega
      have hce := cdN_ex m0 m1 m2 m3
      have htm : tM (cdN (mX (lQ cg bs gi) (lQ cg bs hi)).1 (mX (lQ cg bs gi) (lQ cg bs hi)).2.1 (mX (lQ cg bs gi) (lQ cg bs hi)).2.2.1 (mX (lQ cg bs gi) (lQ cg bs hi)).2.2.2) = mX (lQ cg bs gi) (lQ cg bs hi) := by
        unfold tM
        rw [hce.1, hce.2.1, hce.2.2.1, hce.2.2.2]
      have hin : inT n (cdN (mX (lQ cg bs gi) (lQ cg bs hi)).1 (mX (lQ cg bs gi) (lQ cg bs hi)).2.1 (mX (lQ cg bs gi) (lQ cg bs hi)).2.2.1 (mX (lQ cg bs gi) (lQ cg bs hi)).2.2.2) := by
        refine ⟨cdN_lt m0 m1 m2 m3, ?_, fun v hv hv4 => ?_⟩
        · rw [← mD_tM, htm]; have := h.hD; omega
        · rw [← mE_tM _ hv4, htm]
          have z1 := inTg.2.2 v hv hv4
          have z2 := inTh.2.2 v hv hv4
          rcases (show v = 0 ∨ v = 1 ∨ v = 2 ∨ v = 3 by omega) with q | q | q | q <;> subst q
          · show max (exN (cg (bs gi)) 0) (exN (cg (bs hi)) 0) = 0; omega
          · show max (exN (cg (bs gi)) 1) (exN (cg (bs hi)) 1) = 0; omega
          · show max (exN (cg (bs gi)) 2) (exN (cg (bs hi)) 2) = 0; omega
          · show max (exN (cg (bs gi)) 3) (exN (cg (bs hi)) 3) = 0; omega
      obtain ⟨J, j1, j2⟩ := (h.tab.mem h.n1 h.n4).mp hin
      exact ⟨J, j1, j2, by rw [j2]; exact htm⟩
    obtain ⟨J, j1, _, j3⟩ := hJ
    have hinJ := h.tab.inT h.n1 h.n4 j1
    have hdJ : degN (cg J) = mD (mX (lQ cg bs gi) (lQ cg bs hi)) := by rw [← j3]; rfl
    have hd1 : mD (mS (mX (lQ cg bs gi) (lQ cg bs hi)) (lQ cg bs gi)) + degN (cg (bs gi)) = mD (mX (lQ cg bs gi) (lQ cg bs hi)) := by
      have := mD_mA (lQ cg bs gi) (mS (mX (lQ cg bs gi) (lQ cg bs hi)) (lQ cg bs gi))
      rw [q3] at this
      have e2 : mD (lQ cg bs gi) = degN (cg (bs gi)) := rfl
      omega
    have hd2 : mD (mS (mX (lQ cg bs gi) (lQ cg bs hi)) (lQ cg bs hi)) + degN (cg (bs hi)) = mD (mX (lQ cg bs gi) (lQ cg bs hi)) := by
      have := mD_mA (lQ cg bs hi) (mS (mX (lQ cg bs gi) (lQ cg bs hi)) (lQ cg bs hi))
      rw [q4] at this
      have e2 : mD (lQ cg bs hi) = degN (cg (bs hi)) := rfl
      omega
    have hzz : ∀ (y : M4) v, n ≤ v → v < 4 → mE (mS (mX (lQ cg bs gi) (lQ cg bs hi)) y) v = 0 := fun y v hv hv4 => by
      rw [mE_mS _ _ hv4, ← j3, mE_tM _ hv4, hinJ.2.2 v hv hv4, Nat.zero_sub]
    obtain ⟨f1, a1, a2, a3, a4⟩ := h.mult Lg _ (mS (mX (lQ cg bs gi) (lQ cg bs hi)) (lQ cg bs gi)) rfl (by omega) (hzz _)
    obtain ⟨f2, b1, b2, b3, b4⟩ := h.mult Lh _ (mS (mX (lQ cg bs gi) (lQ cg bs hi)) (lQ cg bs hi)) rfl (by omega) (hzz _)
    obtain ⟨t1, t2⟩ := h.mtop Lg a3 j1 (by rw [j3, mA_comm]; exact q3.symm)
    obtain ⟨u1, u2⟩ := h.mtop Lh b3 j1 (by rw [j3, mA_comm]; exact q4.symm)
    obtain ⟨L, L1, L2⟩ := h.expand rfl (G := GQ n cg bs (rowF R)) (fun q hq x => h.GQ_eq hq x) J (by omega) (fun j => (f1 j + (p - 1) * f2 j) % p) (RS_addm a1 b1 (p - 1)) (fun j => Nat.mod_lt _ (by omega)) (fun j h1 h2 => by
      show (f1 j + (p - 1) * f2 j) % p = 0
      by_cases z : j = J
      · rw [z, t1, u1, Nat.mul_one, show 1 + (p - 1) = p by omega, Nat.mod_self]
      · rw [t2 j (by omega) h2, u2 j (by omega) h2, Nat.mul_zero, Nat.add_zero, Nat.zero_mod])
    refine ⟨stM w L, fun x hx => ?_, fun x => ?_⟩
    · obtain ⟨y, hy, rfl⟩ := List.mem_map.mp hx
      obtain ⟨c1, i, c2, c3⟩ := L1 y hy
      have k1 := (h.tab.lt_iff (show i < ctN n by omega) j1).mpr c2
      have k2 := key_deg (Nat.le_of_lt k1)
      have k3 := keyN_lt_iff.mp k1
      rw [j3] at k3
      have etop : topM (lQ cg bs) (y.1, mA w y.2.1, y.2.2) = mA w (tM (cg i)) := by
        rw [← c3]
        unfold topM
        show mA (mA w y.2.1) (lQ cg bs y.2.2) = _
        rw [mA_assoc]
      rw [etop, mD_mA, mK_add, mD_tM, hkw]
      exact ⟨c1, by omega, by omega⟩
    · have e1 : shM t (GQ n cg bs (rowF R) gi) x = shM w (pG (ctN n) cg f1) x := by
        conv => lhs; rw [et]
        rw [← shM_shM]
        refine shM_ext (fun y => ?_) x
        rw [a3]
        exact shM_ext (fun z => h.GQ_eq hgi z) y
      have e2 : shM s (GQ n cg bs (rowF R) hi) x = shM w (pG (ctN n) cg f2) x := by
        conv => lhs; rw [es]
        rw [← shM_shM]
        refine shM_ext (fun y => ?_) x
        rw [b3]
        exact shM_ext (fun z => h.GQ_eq hhi z) y
      rw [e1, e2, evM_st, ← shM_sub w (pG (ctN n) cg f1) (pG (ctN n) cg f2), ← shM_sub w (fun y => pG (ctN n) cg f1 y - pG (ctN n) cg f2 y) (evM (GQ n cg bs (rowF R)) L)]
      refine shM_dvd w (fun y => ?_) x
      have d1 := L2 y
      have d2 := pG_mod (p := p) (cg := cg) (cnt := ctN n) (f := f1) (g := f2) (a := p - 1) y
      have d3 := Int.dvd_sub d1 d2
      have d4 : (p : Int) ∣ (p : Int) * pG (ctN n) cg f2 y := Int.dvd_mul_right _ _
      have := Int.dvd_sub d3 d4
      have hc : ((p - 1 : Nat) : Int) = (p : Int) - 1 := by omega
      rw [hc, Int.sub_mul, Int.one_mul] at this
      have e3 : ∀ A B C E Fv : Int, A - B - (A - (C + (E - Fv))) - E = C - Fv - B := by intros; omega
      rw [e3] at this
      exact this
end SPAIR2
