/-! THE CLASS'S SPACE: close. -/
section CLOSE
variable {F p n ord D : Nat} {cg kg : Nat → Nat} {gen : (Nat → Nat) → Prop}
/-- the product of a row with a variable -/
def prV (n : Nat) (cg : Nat → Nat) (v : Nat) (f : Nat → Nat) (j : Nat) : Nat := if j < ctN n then mulV (ctN n) (upN n cg v) f j else 0
theorem p_close48 (hF : 40000 < F) (hp : isP p) (hp2 : p ≤ 32003) (h1 : 1 ≤ n) (h4 : n ≤ 4) (hT : Tab n ord cg kg) {dgs rs : Nat → Int32} (hrs : RaisedOK (ctN n) n (upN n cg) rs) {k2} {i1 : Int32} {lead : Nat} (hld : dgC cg lead < D) :
    ∀ (d m v : Nat) (R Lf K w : Nat → Nat) (kc : Nat), v + d = n → d < m → Lf lead = 1 → (∀ j, 126 ≤ j → w j = 0) → SpI p n D cg gen R Lf K kc →
      ∃ kc' R' Lf' K' w', b_close_48 F (nI (ctN n)) (nI n) (nI D) (nI p) dgs rs k2 m i1 (nI lead) (nI v) (nI kc) (nF R) (nF Lf) (nF K) (nF w) = k2 (i1 + 1) (nI kc') (nF R') (nF Lf') (nF K') (nF w') ∧ (∀ j, 126 ≤ j → w' j = 0) ∧
        SpI p n D cg gen R' Lf' K' kc' ∧ Grow p (ctN n) R Lf K kc R' Lf' K' kc' ∧ ∀ u, v ≤ u → u < n → RS p (ctN n) Lf' (rowF R') (prV n cg u (rowF R lead)) := by
  have hct := ctN_le h1 h4
  intro d
  induction d with
  | zero =>
    intro m v R Lf K w kc hv hm hL hw hI
    obtain ⟨m, rfl⟩ : ∃ q, m = q + 1 := ⟨m - 1, by omega⟩
    refine ⟨kc, R, Lf, K, w, ?_, hw, hI, Grow.refl, fun u _ _ => by omega⟩
    show s_close_48 F (nI (ctN n)) (nI n) (nI D) (nI p) dgs rs k2 (b_close_48 F (nI (ctN n)) (nI n) (nI D) (nI p) dgs rs k2 m) i1 (nI lead) (nI v) (nI kc) (nF R) (nF Lf) (nF K) (nF w) = _
    unfold s_close_48
    rw [if_pos (nI_le (by omega) (by omega))]
  | succ d ih =>
    intro m v R Lf K w kc hv hm hL hw hI
    obtain ⟨m, rfl⟩ : ∃ q, m = q + 1 := ⟨m - 1, by omega⟩
    obtain ⟨r1, r2, r3, r4⟩ := hI.1.2 lead hL
    have hinj : ∀ a b, a < ctN n → b < ctN n → upN n cg v a = upN n cg v b → upN n cg v a < ctN n → a = b := fun a b ha hb e hu => hT.up_inj h1 h4 (by omega) ha hb e hu
    have hload := p_load (F := F) (R := R) (w := w) (by omega) hct h4 (show v < n by omega) r1 hrs hinj r3 hw
    have hvec : ∀ j, prV n cg v (rowF R lead) j < p := by
      intro j
      unfold prV
      by_cases q : j < ctN n
      · rw [if_pos q]; exact mulV_lt (by have := hp.1; omega) hinj r4 q
      · rw [if_neg q]; have := hp.1; omega
    obtain ⟨kc1, R1, Lf1, K1, x1, a1, a2, a3, a4, a5, a6⟩ := hI.step hF hp hp2 h1 h4 hvec (fun j hj => by unfold prV; rw [if_neg (by omega)]) (Spc_mul (show v < n by omega) (hI.2.1 lead hL) (fun j hj hne => by
      have : j ≤ lead := by
        rcases Nat.lt_or_ge lead j with q | q
        · exact absurd (r3 j q) hne
        · exact q
      have := hT.deg_mono h1 h4 this r1
      omega))
    obtain ⟨b1, b2⟩ := a5.2.1 lead hL
    obtain ⟨kc2, R2, Lf2, K2, w2, c1, c2, c3, c4, c5⟩ := ih m (v + 1) R1 Lf1 K1 x1 kc1 (by omega) (by omega) b1 a3 a4
    refine ⟨kc2, R2, Lf2, K2, w2, ?_, c2, c3, a5.trans c4, fun u hu hun => ?_⟩
    · show s_close_48 F (nI (ctN n)) (nI n) (nI D) (nI p) dgs rs k2 (b_close_48 F (nI (ctN n)) (nI n) (nI D) (nI p) dgs rs k2 m) i1 (nI lead) (nI v) (nI kc) (nF R) (nF Lf) (nF K) (nF w) = _
      unfold s_close_48
      rw [if_neg (nI_ge (by omega) (by omega)), hload, bd1_n]
      show bd5 (m_absorbWork F (nI (ctN n)) (nI p) (nI kc) (nF R) (nF Lf) (nF K) (nF (prV n cg v (rowF R lead)))) _ = _
      rw [a1, show nI v + 1 = nI (v + 1) from nI_add v 1]
      exact c1
    · by_cases q : u = v
      · rw [q]; exact c4.1 _ a6
      · have := c5 u (by omega) hun
        rw [b2] at this
        exact this
/-- all products of the kept rows before next are there -/
def Clo (p n D : Nat) (cg R Lf K : Nat → Nat) (next : Nat) : Prop := ∀ q, q < next → dgC cg (K q) < D → ∀ v, v < n → RS p (ctN n) Lf (rowF R) (prV n cg v (rowF R (K q)))
theorem p_has1 {F : Nat} {Lf : Nat → Nat} (h : Lf 0 = 0 ∨ Lf 0 = 1) : m_has1 F (nF Lf) = some (nI (Lf 0)) := by
  unfold m_has1
  rw [show (0 : Int32) = nI 0 from rfl, rdI_n (by decide) (by decide)]
  show bzI (nI (Lf 0)) (some (nI (Lf 0))) = _
  rcases h with h | h
  · rw [h, bzI_0]
  · rw [h, bzI_1]
theorem p_close_l (hF : 40000 < F) (hp : isP p) (hp2 : p ≤ 32003) (h1 : 1 ≤ n) (h4 : n ≤ 4) (hD : D ≤ 30) (hT : Tab n ord cg kg) {dgs rs : Nat → Int32} (hdg : ∀ q, q < ctN n → dgs q = nI (dgC cg q)) (hrs : RaisedOK (ctN n) n (upN n cg) rs) :
    ∀ (d m next : Nat) (R Lf K w : Nat → Nat) (kc : Nat), next + d = 126 → d < m → (∀ j, 126 ≤ j → w j = 0) → SpI p n D cg gen R Lf K kc → next ≤ kc → Clo p n D cg R Lf K next →
      ∃ kc' R' Lf' K' w', b_close_2 F (nI (ctN n)) (nI n) (nI D) (nI p) dgs rs m (nI next) (nI kc) (nF R) (nF Lf) (nF K) (nF w) = some (nI kc', nF R', nF Lf', nF K', nF w') ∧ (∀ j, 126 ≤ j → w' j = 0) ∧
        SpI p n D cg gen R' Lf' K' kc' ∧ Grow p (ctN n) R Lf K kc R' Lf' K' kc' ∧ (Lf' 0 = 1 ∨ Clo p n D cg R' Lf' K' kc') := by
  have hct := ctN_le h1 h4
  have hkm : ∀ {R Lf K : Nat → Nat} {kc : Nat}, SpI p n D cg gen R Lf K kc → kc ≤ 126 := fun h => by
    have := sm_le (n := ctN n) h.1.1
    have := h.2.2.1
    omega
  intro d
  induction d with
  | zero =>
    intro m next R Lf K w kc hn hm hw hI hk hC
    obtain ⟨m, rfl⟩ : ∃ q, m = q + 1 := ⟨m - 1, by omega⟩
    have := hkm hI
    refine ⟨kc, R, Lf, K, w, ?_, hw, hI, Grow.refl, Or.inr (by rw [show kc = next by omega]; exact hC)⟩
    show s_close_2 F (nI (ctN n)) (nI n) (nI D) (nI p) dgs rs (b_close_2 F (nI (ctN n)) (nI n) (nI D) (nI p) dgs rs m) (nI next) (nI kc) (nF R) (nF Lf) (nF K) (nF w) = _
    unfold s_close_2
    rw [if_pos (show (126 : Int32) ≤ nI next from nI_le (show 126 ≤ next by omega) (by omega))]
  | succ d ih =>
    intro m next R Lf K w kc hn hm hw hI hk hC
    obtain ⟨m, rfl⟩ : ∃ q, m = q + 1 := ⟨m - 1, by omega⟩
    have hkc := hkm hI
    by_cases hend : kc ≤ next
    · refine ⟨kc, R, Lf, K, w, ?_, hw, hI, Grow.refl, Or.inr (by rw [show kc = next by omega]; exact hC)⟩
      show s_close_2 F (nI (ctN n)) (nI n) (nI D) (nI p) dgs rs (b_close_2 F (nI (ctN n)) (nI n) (nI D) (nI p) dgs rs m) (nI next) (nI kc) (nF R) (nF Lf) (nF K) (nF w) = _
      unfold s_close_2
      rw [if_neg (show ¬ (126 : Int32) ≤ nI next from nI_ge (show next < 126 by omega) (by decide)), if_pos (nI_le hend (by omega))]
    · by_cases h0 : Lf 0 = 1
      · refine ⟨kc, R, Lf, K, w, ?_, hw, hI, Grow.refl, Or.inl h0⟩
        show s_close_2 F (nI (ctN n)) (nI n) (nI D) (nI p) dgs rs (b_close_2 F (nI (ctN n)) (nI n) (nI D) (nI p) dgs rs m) (nI next) (nI kc) (nF R) (nF Lf) (nF K) (nF w) = _
        unfold s_close_2
        rw [if_neg (show ¬ (126 : Int32) ≤ nI next from nI_ge (show next < 126 by omega) (by decide)), if_neg (nI_ge (by omega) (by omega)), p_has1 (hI.1.1 0), bd1_n, h0, if_neg (by decide)]
      · have hz : Lf 0 = 0 := by
          rcases hI.1.1 0 with z | z
          · exact z
          · exact absurd z h0
        obtain ⟨hKc, hKL⟩ := hI.2.2.2.1 next (by omega)
        have hdk : dgC cg (K next) ≤ 30 := by
          have := (hT.inT h1 h4 hKc).2.1
          have := hiN_le n
          unfold dgC
          omega
        by_cases hdeg : D ≤ dgC cg (K next)
        · obtain ⟨kc2, R2, Lf2, K2, w2, c1, c2⟩ := ih m (next + 1) R Lf K w kc (by omega) (by omega) hw hI (by omega) (fun q hq hqd v hv => by
            by_cases e : q = next
            · rw [e] at hqd; omega
            · exact hC q (by omega) hqd v hv)
          refine ⟨kc2, R2, Lf2, K2, w2, ?_, c2⟩
          show s_close_2 F (nI (ctN n)) (nI n) (nI D) (nI p) dgs rs (b_close_2 F (nI (ctN n)) (nI n) (nI D) (nI p) dgs rs m) (nI next) (nI kc) (nF R) (nF Lf) (nF K) (nF w) = _
          unfold s_close_2
          rw [if_neg (show ¬ (126 : Int32) ≤ nI next from nI_ge (show next < 126 by omega) (by decide)), if_neg (nI_ge (by omega) (by omega)), p_has1 (hI.1.1 0), bd1_n, hz, if_pos (by decide), rdI_n (by omega) (by decide)]
          show rdI 126 dgs (nI (K next)) _ = _
          rw [rdI_n (by omega) (by decide), hdg _ hKc, if_pos (nI_le hdeg (by omega)), show nI next + 1 = nI (next + 1) from nI_add next 1]
          exact c1
        · obtain ⟨kc1, R1, Lf1, K1, w1, a1, a2, a3, a4, a5⟩ := p_close48 (dgs := dgs) (k2 := b_close_2 F (nI (ctN n)) (nI n) (nI D) (nI p) dgs rs m) (i1 := nI next) hF hp hp2 h1 h4 hT hrs (show dgC cg (K next) < D by omega) n F 0 R Lf K w kc (by omega) (by omega) hKL hw hI
          obtain ⟨kc2, R2, Lf2, K2, w2, c1, c2, c3, c4, c5⟩ := ih m (next + 1) R1 Lf1 K1 w1 kc1 (by omega) (by omega) a2 a3 (by have := a4.2.2.2; omega) (fun q hq hqd v hv => by
            have e1 := a4.2.2.1 q (by omega)
            rw [e1] at hqd ⊢
            have e2 := (a4.2.1 (K q) (hI.2.2.2.1 q (by omega)).2).2
            rw [e2]
            by_cases e : q = next
            · rw [e]; exact a5 v (by omega) hv
            · exact a4.1 _ (hC q (by omega) hqd v hv))
          refine ⟨kc2, R2, Lf2, K2, w2, ?_, c2, c3, a4.trans c4, c5⟩
          show s_close_2 F (nI (ctN n)) (nI n) (nI D) (nI p) dgs rs (b_close_2 F (nI (ctN n)) (nI n) (nI D) (nI p) dgs rs m) (nI next) (nI kc) (nF R) (nF Lf) (nF K) (nF w) = _
          unfold s_close_2
          rw [if_neg (show ¬ (126 : Int32) ≤ nI next from nI_ge (show next < 126 by omega) (by decide)), if_neg (nI_ge (by omega) (by omega)), p_has1 (hI.1.1 0), bd1_n, hz, if_pos (by decide), rdI_n (by omega) (by decide)]
          show rdI 126 dgs (nI (K next)) _ = _
          rw [rdI_n (by omega) (by decide), hdg _ hKc, if_neg (nI_ge (by omega) (by omega))]
          refine (show _ = _ from a1).trans ?_
          rw [show nI next + 1 = nI (next + 1) from nI_add next 1]
          exact c1
theorem p_close (hF : 40000 < F) (hp : isP p) (hp2 : p ≤ 32003) (h1 : 1 ≤ n) (h4 : n ≤ 4) (hD : D ≤ 30) (hT : Tab n ord cg kg) {dgs rs : Nat → Int32} (hdg : ∀ q, q < ctN n → dgs q = nI (dgC cg q)) (hrs : RaisedOK (ctN n) n (upN n cg) rs)
    {R Lf K w : Nat → Nat} {kc : Nat} (hw : ∀ j, 126 ≤ j → w j = 0) (hI : SpI p n D cg gen R Lf K kc) :
      ∃ kc' R' Lf' K' w', m_close F (nI (ctN n)) (nI n) (nI D) (nI p) dgs rs (nI kc) (nF R) (nF Lf) (nF K) (nF w) = some (nI kc', nF R', nF Lf', nF K', nF w') ∧ (∀ j, 126 ≤ j → w' j = 0) ∧
        SpI p n D cg gen R' Lf' K' kc' ∧ Grow p (ctN n) R Lf K kc R' Lf' K' kc' ∧ (Lf' 0 = 1 ∨ Clo p n D cg R' Lf' K' kc') :=
  p_close_l hF hp hp2 h1 h4 hD hT hdg hrs 126 F 0 R Lf K w kc (by omega) (by omega) hw hI (by omega) (fun q hq => by omega)
/-- when it is closed, the combinations of the rows are the space -/
theorem SpI.space (hp : isP p) (h1 : 1 ≤ n) (h4 : n ≤ 4) (hT : Tab n ord cg kg) {R Lf K : Nat → Nat} {kc : Nat} (hI : SpI p n D cg gen R Lf K kc) (hC : Clo p n D cg R Lf K kc) (hgen : ∀ g, gen g → RS p (ctN n) Lf (rowF R) g) (f : Nat → Nat) :
    RS p (ctN n) Lf (rowF R) f ↔ Spc p (ctN n) n D (dgC cg) (upN n cg) gen f := by
  have hp0 := hp.1
  refine (RS_Spc (by omega) hI.1 (fun i j hi hj => ?_) hI.2.1 hgen (fun i j hij hj => hT.deg_mono h1 h4 hij hj) (fun v a b hv ha hb e hu => hT.up_inj h1 h4 hv ha hb e hu) (fun i v hi hv hd => ?_) f).symm
  · obtain ⟨r1, _, r3, _⟩ := hI.1.2 i hi
    exact r3 j (by omega)
  · obtain ⟨q, hq, e⟩ := hI.2.2.2.2 i hi
    have := hC q hq (by rw [e]; exact hd) v hv
    rw [e] at this
    exact this
end CLOSE
