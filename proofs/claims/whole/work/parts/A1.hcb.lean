/-! THE CLASS'S SPACE: hasCompleteBasis. -/
theorem bd2_n {ρ α β : Type} {a : α} {b : β} {k : α → β → Option ρ} : bd2 (some (a, b)) k = k a b := rfl
theorem bd3_n {ρ α β γ : Type} {a : α} {b : β} {c : γ} {k : α → β → γ → Option ρ} : bd3 (some (a, b, c)) k = k a b c := rfl
theorem bd5_n {ρ α β γ δ ε : Type} {a : α} {b : β} {c : γ} {d : δ} {e : ε} {k : α → β → γ → δ → ε → Option ρ} : bd5 (some (a, b, c, d, e)) k = k a b c d e := rfl
theorem bd6_n {ρ α β γ δ ε ζ : Type} {a : α} {b : β} {c : γ} {d : δ} {e : ε} {f : ζ} {k : α → β → γ → δ → ε → ζ → Option ρ} : bd6 (some (a, b, c, d, e, f)) k = k a b c d e f := rfl
section HCB
variable {F p n ord D : Nat} {cg kg : Nat → Nat}
theorem p_start_l {b0 k0 l0 p0 : Int32} : ∀ (d m i : Nat) (Lf : Nat → Nat), i + d = 126 → d < m → (∀ j, j < i → Lf j = 0) → (∀ j, 126 ≤ j → Lf j = 0) → b_start_22 F m (nI i) b0 k0 l0 p0 (nF Lf) = some (b0, k0, l0, p0, nF (fun _ => 0)) := by
  intro d
  induction d with
  | zero =>
    intro m i Lf hi hm h1 h2
    obtain ⟨m, rfl⟩ : ∃ q, m = q + 1 := ⟨m - 1, by omega⟩
    show s_start_22 F (b_start_22 F m) (nI i) b0 k0 l0 p0 (nF Lf) = _
    unfold s_start_22
    rw [if_pos (show (126 : Int32) ≤ nI i from nI_le (show 126 ≤ i by omega) (by omega))]
    have : Lf = fun _ => 0 := by
      funext j
      rcases Nat.lt_or_ge j i with q | q
      · exact h1 j q
      · exact h2 j (by omega)
    rw [this]
  | succ d ih =>
    intro m i Lf hi hm h1 h2
    obtain ⟨m, rfl⟩ : ∃ q, m = q + 1 := ⟨m - 1, by omega⟩
    show s_start_22 F (b_start_22 F m) (nI i) b0 k0 l0 p0 (nF Lf) = _
    unfold s_start_22
    rw [if_neg (show ¬ (126 : Int32) ≤ nI i from nI_ge (show i < 126 by omega) (by decide)), show vp_nar .boolean 0 = nI 0 from by decide +kernel, wrI_n (by omega) (by decide), upd_nF, show nI i + 1 = nI (i + 1) from nI_add i 1]
    refine ih m (i + 1) _ (by omega) (by omega) (fun j hj => ?_) (fun j hj => ?_)
    · show (if j = i then 0 else Lf j) = 0
      by_cases e : j = i
      · rw [if_pos e]
      · rw [if_neg e]; exact h1 j (by omega)
    · show (if j = i then 0 else Lf j) = 0
      rw [if_neg (by omega)]; exact h2 j hj
/-- what a good end of hasCompleteBasis is -/
def GoodB (p n D : Nat) (cg : Nat → Nat) (gen : (Nat → Nat) → Prop) (R Lf bs : Nat → Nat) : Prop :=
  Ech p (ctN n) Lf (rowF R) ∧ (∀ i, 126 ≤ i → Lf i = 0) ∧ (∀ f, RS p (ctN n) Lf (rowF R) f → Spc p (ctN n) n D (dgC cg) (upN n cg) gen f) ∧ (Lf 0 = 1 ∨ ∀ f, Spc p (ctN n) n D (dgC cg) (upN n cg) gen f → RS p (ctN n) Lf (rowF R) f) ∧
    Arr (bsN cg Lf (ctN n)) bs ∧ (∀ b ∈ bsN cg Lf (ctN n), ∀ j, j < b → Lf j = 1 → rowF R b j = 0)
def gens (G : Nat → Nat) (gc : Nat) (f : Nat → Nat) : Prop := ∃ g, g < gc ∧ f = genV G g
theorem SpI.sub {gen : (Nat → Nat) → Prop} {R Lf K : Nat → Nat} {kc : Nat} (h : SpI p n D cg gen R Lf K kc) {f : Nat → Nat} (hf : RS p (ctN n) Lf (rowF R) f) : Spc p (ctN n) n D (dgC cg) (upN n cg) gen f := by
  obtain ⟨c, hc⟩ := hf
  have e : f = fun j => sm (ctN n) (fun i => Lf i * (c i * rowF R i j)) % p := funext hc
  rw [e]
  have : ∀ J, Spc p (ctN n) n D (dgC cg) (upN n cg) gen (fun j => sm J (fun i => Lf i * (c i * rowF R i j)) % p) := by
    intro J
    induction J with
    | zero =>
      have e : (fun j : Nat => sm 0 (fun i => Lf i * (c i * rowF R i j)) % p) = fun _ => 0 := funext fun j => Nat.zero_mod p
      rw [e]; exact Spc_zero
    | succ J ih =>
      rcases h.1.1 J with z | z
      · have e : (fun j => sm (J + 1) (fun i => Lf i * (c i * rowF R i j)) % p) = (fun j => sm J (fun i => Lf i * (c i * rowF R i j)) % p) := by
          funext j
          show (sm J _ + Lf J * _) % p = _
          rw [z, Nat.zero_mul, Nat.add_zero]
        rw [e]; exact ih
      · have e : (fun j => sm (J + 1) (fun i => Lf i * (c i * rowF R i j)) % p) = (fun j => (sm J (fun i => Lf i * (c i * rowF R i j)) % p + c J * rowF R J j) % p) := by
          funext j
          show (sm J _ + Lf J * _) % p = _
          rw [z, Nat.one_mul, Nat.mod_add_mod]
        rw [e]; exact Spc_add _ ih (h.2.1 J z)
  exact this _
theorem p_hcb_l (hF : 40000 < F) (hp : isP p) (hp2 : p ≤ 32003) (h1 : 1 ≤ n) (h4 : n ≤ 4) (hord : ord < 2) (hD : D ≤ 30) {dgs rs : Nat → Int32} (hLd : Laid n ord cg kg dgs rs) {G : Nat → Nat} {gc : Nat} (hgc : gc ≤ 8) (hG : ∀ g, g < gc → ∀ j, genV G g j < p) (hG0 : ∀ g, g < gc → ∀ j, ctN n ≤ j → genV G g j = 0) {pr : Int32} {bs0 : Nat → Nat} :
    ∀ (d m g : Nat) (R Lf K w : Nat → Nat) (kc : Nat), g + d = gc → d < m → (∀ j, 126 ≤ j → w j = 0) → (∀ j, 126 ≤ j → Lf j = 0) → SpI p n D cg (gens G gc) R Lf K kc → (∀ q, q < g → RS p (ctN n) Lf (rowF R) (genV G q)) → (∀ q, q < g → ¬ hiD n D cg (genV G q)) →
      ∃ r bc kc' R' Lf' K' w' bs', b_hasCompleteBasis_14 F (nI gc) pr (nI (ctN n)) (nI n) (nF G) (nF cg) dgs rs m (nI g) (nI 0) (nI kc) (nI D) (nI p) (nF R) (nF Lf) (nF K) (nF w) (nF bs0) = some (nI r, nI bc, nI kc', nI D, nI p, nF R', nF Lf', nF K', nF w', nF bs') ∧ (∀ j, 126 ≤ j → w' j = 0) ∧ (∀ j, 126 ≤ j → Lf' j = 0) ∧
        ((r = 0 ∧ ∃ q, q < gc ∧ hiD n D cg (genV G q)) ∨ ((∀ q, q < gc → ¬ hiD n D cg (genV G q)) ∧ bc = (bsN cg Lf' (ctN n)).length ∧ GoodB p n D cg (gens G gc) R' Lf' bs' ∧ ((r = 1 ∧ Cpl cg D (bsN cg Lf' (ctN n))) ∨ (r = 0 ∧ ¬ Cpl cg D (bsN cg Lf' (ctN n)))))) := by
  have hct := ctN_le h1 h4
  have hT := hLd.1
  have hp0 := hp.1
  intro d
  induction d with
  | zero =>
    intro m g R Lf K w kc hg hm hw hL0 hI hgen hno
    obtain ⟨m, rfl⟩ : ∃ q, m = q + 1 := ⟨m - 1, by omega⟩
    obtain ⟨kc1, R1, Lf1, K1, w1, a1, a2, a3, a4, a5⟩ := p_close (F := F) hF hp hp2 h1 h4 hD hT hLd.2.1 hLd.raised hw hI
    have hL1 : ∀ j, 126 ≤ j → Lf1 j = 0 := fun j hj => by
      rcases a3.1.1 j with z | z
      · exact z
      · have := (a3.1.2 j z).1
        omega
    obtain ⟨R2, bs2, b1, b2, b3, b4, b5⟩ := p_pickBasis (F := F) (bs0 := bs0) hF hp0 hp2 h1 h4 hT a3.1
    have hlen := bsN_len cg Lf1 (ctN n)
    have hmem := bsN_mem cg Lf1 (ctN n)
    have hg2 : ∀ f, gens G gc f → RS p (ctN n) Lf1 (rowF R1) f := by
      rintro f ⟨q, hq, rfl⟩
      exact a4.1 _ (hgen q (by omega))
    have hgood : GoodB p n D cg (gens G gc) R2 Lf1 bs2 := by
      refine ⟨b2, hL1, fun f hf => a3.sub ((b5 f).mp hf), ?_, b3, b4⟩
      rcases a5 with z | z
      · exact Or.inl z
      · exact Or.inr fun f hf => (b5 f).mpr ((a3.space hp h1 h4 hT z hg2 f).mpr hf)
    have fin : ∀ r : Nat, r ≤ 1 → m_isComplete F (nI (bsN cg Lf1 (ctN n)).length) (nI D) (nF cg) dgs (nF bs2) = some (nI r) → b_hasCompleteBasis_14 F (nI gc) pr (nI (ctN n)) (nI n) (nF G) (nF cg) dgs rs (m + 1) (nI g) (nI 0) (nI kc) (nI D) (nI p) (nF R) (nF Lf) (nF K) (nF w) (nF bs0) = some (nI r, nI (bsN cg Lf1 (ctN n)).length, nI kc1, nI D, nI p, nF R2, nF Lf1, nF K1, nF w1, nF bs2) := by
      intro r hr he
      show s_hasCompleteBasis_14 F (nI gc) pr (nI (ctN n)) (nI n) (nF G) (nF cg) dgs rs (b_hasCompleteBasis_14 F (nI gc) pr (nI (ctN n)) (nI n) (nF G) (nF cg) dgs rs m) (nI g) (nI 0) (nI kc) (nI D) (nI p) (nF R) (nF Lf) (nF K) (nF w) (nF bs0) = _
      unfold s_hasCompleteBasis_14
      rw [if_pos (nI_le (by omega) (by omega)), a1, bd5_n, b1, bd3_n, he, bd1_n]
      rcases (show r = 0 ∨ r = 1 by omega) with z | z
      · rw [z, bzI_0]
      · rw [z, bzI_1]
    rcases p_isComplete (F := F) (D := D) (dgs := dgs) (by omega) hD b3 (by omega) (fun b hb => by
      have := (hmem b hb).1
      exact ⟨by omega, (hT.inT h1 h4 this).1⟩) (fun b hb => hLd.2.1 b (hmem b hb).1) with ⟨c1, c2⟩ | ⟨c1, c2⟩
    · exact ⟨1, _, kc1, R2, Lf1, K1, w1, bs2, fin 1 (by omega) c2, a2, hL1, Or.inr ⟨fun q hq => hno q (by omega), rfl, hgood, Or.inl ⟨rfl, c1⟩⟩⟩
    · exact ⟨0, _, kc1, R2, Lf1, K1, w1, bs2, fin 0 (by omega) c2, a2, hL1, Or.inr ⟨fun q hq => hno q (by omega), rfl, hgood, Or.inr ⟨rfl, c1⟩⟩⟩
  | succ d ih =>
    intro m g R Lf K w kc hg hm hw hL0 hI hgen hno
    obtain ⟨m, rfl⟩ : ∃ q, m = q + 1 := ⟨m - 1, by omega⟩
    have unf : ∀ r, m_spTakes F (nI (ctN n)) (nI D) (nI p) (nF G) dgs (nI (g * 126)) (nI kc) (nF R) (nF Lf) (nF K) (nF w) = some r → b_hasCompleteBasis_14 F (nI gc) pr (nI (ctN n)) (nI n) (nF G) (nF cg) dgs rs (m + 1) (nI g) (nI 0) (nI kc) (nI D) (nI p) (nF R) (nF Lf) (nF K) (nF w) (nF bs0) =
        if r.1 = 0 then some (0, nI 0, r.2.1, nI D, nI p, r.2.2.1, r.2.2.2.1, r.2.2.2.2.1, r.2.2.2.2.2, nF bs0) else b_hasCompleteBasis_14 F (nI gc) pr (nI (ctN n)) (nI n) (nF G) (nF cg) dgs rs m (nI (g + 1)) (nI 0) r.2.1 (nI D) (nI p) r.2.2.1 r.2.2.2.1 r.2.2.2.2.1 r.2.2.2.2.2 (nF bs0) := by
      intro r hr
      show s_hasCompleteBasis_14 F (nI gc) pr (nI (ctN n)) (nI n) (nF G) (nF cg) dgs rs (b_hasCompleteBasis_14 F (nI gc) pr (nI (ctN n)) (nI n) (nF G) (nF cg) dgs rs m) (nI g) (nI 0) (nI kc) (nI D) (nI p) (nF R) (nF Lf) (nF K) (nF w) (nF bs0) = _
      unfold s_hasCompleteBasis_14
      rw [if_neg (nI_ge (by omega) (by omega)), show nI g * 126 = nI (g * 126) from pk_mul g 126, hr, show nI g + 1 = nI (g + 1) from nI_add g 1]
      rfl
    rcases p_spTakes (F := F) (D := D) (w0 := w) hF hp hp2 h1 h4 hD hT hLd.2.1 (show g < 8 by omega) (hG g (by omega)) (hG0 g (by omega)) hw hI ⟨g, by omega, rfl⟩ with ⟨a1, a2⟩ | ⟨a1, kc1, R1, Lf1, K1, x1, a2, a3, a4, a5, a6, a7⟩
    · refine ⟨0, 0, kc, R, Lf, K, genV G g, bs0, ?_, fun j hj => by unfold genV; rw [if_neg (by omega)], hL0, Or.inl ⟨rfl, g, by omega, a1⟩⟩
      rw [unf _ a2]
      rfl
    · rw [unf _ a2]
      show ∃ r bc kc' R' Lf' K' w' bs', (if (1 : Int32) = 0 then _ else _) = _ ∧ _
      rw [if_neg (by decide)]
      refine ih m (g + 1) R1 Lf1 K1 x1 kc1 (by omega) (by omega) a4 (fun j hj => ?_) a5 (fun q hq => ?_) (fun q hq => ?_)
      · rcases a5.1.1 j with z | z
        · exact z
        · have := (a5.1.2 j z).1
          omega
      · by_cases e : q = g
        · rw [e]; exact a7
        · exact a6.1 _ (hgen q (by omega))
      · by_cases e : q = g
        · rw [e]; exact a1
        · exact hno q (by omega)
end HCB
section HCB2
variable {F p n ord D : Nat} {cg kg : Nat → Nat}
theorem SpI_start (p n D : Nat) (cg : Nat → Nat) (gen : (Nat → Nat) → Prop) (R K : Nat → Nat) : SpI p n D cg gen R (fun _ => 0) K 0 :=
  ⟨⟨fun _ => Or.inl rfl, fun i h => absurd h Nat.zero_ne_one⟩, fun i h => absurd h Nat.zero_ne_one, (sm_zero (fun _ _ => rfl)).symm, fun q h => absurd h (Nat.not_lt_zero _), fun i h => absurd h Nat.zero_ne_one⟩
theorem p_hasCompleteBasis (hF : 40000 < F) (hp : isP p) (hp2 : p ≤ 32003) (h1 : 1 ≤ n) (h4 : n ≤ 4) (hord : ord < 2) (hD : D ≤ 30) {dgs rs : Nat → Int32} (hLd : Laid n ord cg kg dgs rs) {G : Nat → Nat} {gc : Nat} (hgc : gc ≤ 8) (hG : ∀ g, g < gc → ∀ j, genV G g j < p) (hG0 : ∀ g, g < gc → ∀ j, ctN n ≤ j → genV G g j = 0)
    {b0 k0 l0 p0 : Int32} {R Lf K w bs : Nat → Nat} (hw : ∀ j, 126 ≤ j → w j = 0) (hL : ∀ j, 126 ≤ j → Lf j = 0) :
      ∃ r bc kc' R' Lf' K' w' bs', m_hasCompleteBasis F (nI gc) (nI p) (nI (ctN n)) (nI n) (nF G) (nF cg) dgs rs (nI D) b0 k0 l0 p0 (nF R) (nF Lf) (nF K) (nF w) (nF bs) = some (nI r, nI bc, nI kc', nI D, nI p, nF R', nF Lf', nF K', nF w', nF bs') ∧ (∀ j, 126 ≤ j → w' j = 0) ∧ (∀ j, 126 ≤ j → Lf' j = 0) ∧
        ((r = 0 ∧ ∃ q, q < gc ∧ hiD n D cg (genV G q)) ∨ ((∀ q, q < gc → ¬ hiD n D cg (genV G q)) ∧ bc = (bsN cg Lf' (ctN n)).length ∧ GoodB p n D cg (gens G gc) R' Lf' bs' ∧ ((r = 1 ∧ Cpl cg D (bsN cg Lf' (ctN n))) ∨ (r = 0 ∧ ¬ Cpl cg D (bsN cg Lf' (ctN n)))))) := by
  have e : m_start F (nI p) (nI D) b0 k0 l0 p0 (nF Lf) = some (nI 0, nI 0, nI D, nI p, nF (fun _ => 0)) := p_start_l 126 F 0 Lf (by omega) (by omega) (fun j h => by omega) hL
  obtain ⟨r, bc, kc', R', Lf', K', w', bs', a, b⟩ := p_hcb_l (F := F) (pr := nI p) (bs0 := bs) hF hp hp2 h1 h4 hord hD hLd hgc hG hG0 gc F 0 R (fun _ => 0) K w 0 (by omega) (by omega) hw (fun _ _ => rfl) (SpI_start p n D cg _ R K) (fun q h => by omega) (fun q h => by omega)
  refine ⟨r, bc, kc', R', Lf', K', w', bs', ?_, b⟩
  unfold m_hasCompleteBasis
  rw [e, bd5_n]
  exact a
end HCB2
