/-! CLASS AND REFERENCE HAVE THE SAME LEADS AND THE SAME BASIS. -/
section SAME
variable {F p n ord D : Nat} {cg kg : Nat → Nat} {dgs : Nat → Int32}
theorem p_zfs2 {gI nn pI dI : Int32} {mo_ GA : Nat → Int32} {R w : Nat → Nat} {mc : Int32} : ∀ (d m i : Nat) (hs : Nat → Nat), i + d = 126 → d < m → (∀ j, j < i → hs j = 0) → (∀ j, 126 ≤ j → hs j = 0) →
    b_zfindSpace_2 F gI mc nn pI mo_ dgs GA m dI (nI i) (nF hs) (nF R) (nF w) = b_zfindSpace_23 F gI mc nn pI mo_ dgs GA F dI (nI 0) (nF (fun _ => 0)) (nF R) (nF w) := by
  intro d
  induction d with
  | zero =>
    intro m i hs hi hm h1 h2
    obtain ⟨m, rfl⟩ : ∃ q, m = q + 1 := ⟨m - 1, by omega⟩
    show s_zfindSpace_2 F gI mc nn pI mo_ dgs GA (b_zfindSpace_2 F gI mc nn pI mo_ dgs GA m) dI (nI i) (nF hs) (nF R) (nF w) = _
    unfold s_zfindSpace_2
    rw [if_pos (show (126 : Int32) ≤ nI i from nI_le (show 126 ≤ i by omega) (by omega))]
    have : hs = fun _ => 0 := by
      funext j
      rcases Nat.lt_or_ge j i with q | q
      · exact h1 j q
      · exact h2 j (by omega)
    rw [this]
    rfl
  | succ d ih =>
    intro m i hs hi hm h1 h2
    obtain ⟨m, rfl⟩ : ∃ q, m = q + 1 := ⟨m - 1, by omega⟩
    show s_zfindSpace_2 F gI mc nn pI mo_ dgs GA (b_zfindSpace_2 F gI mc nn pI mo_ dgs GA m) dI (nI i) (nF hs) (nF R) (nF w) = _
    unfold s_zfindSpace_2
    rw [if_neg (show ¬ (126 : Int32) ≤ nI i from nI_ge (show i < 126 by omega) (by decide)), show vp_nar .boolean 0 = nI 0 from by decide +kernel, wrI_n (by omega) (by decide), upd_nF, show nI i + 1 = nI (i + 1) from nI_add i 1]
    refine ih m (i + 1) _ (by omega) (by omega) (fun j hj => ?_) (fun j hj => ?_)
    · show (if j = i then 0 else hs j) = 0
      by_cases e : j = i
      · rw [if_pos e]
      · rw [if_neg e]; exact h1 j (by omega)
    · show (if j = i then 0 else hs j) = 0
      rw [if_neg (by omega)]; exact h2 j hj
theorem p_zfindSpace (hF : 40000 < F) (hp : isP p) (hp2 : p ≤ 32003) (h1 : 1 ≤ n) (h4 : n ≤ 4) (hD : D ≤ hiN n) (hT : Tab n ord cg kg) (hdg : ∀ q, q < ctN n → dgs q = nI (dgC cg q)) {G : Nat → Nat} {gc : Nat} (hgc : gc ≤ 8) (hG : ∀ g, g < gc → ∀ j, genV G g j < p) (hG0 : ∀ g, g < gc → ∀ j, ctN n ≤ j → genV G g j = 0) {R hs w : Nat → Nat} (hh : ∀ j, 126 ≤ j → hs j = 0) :
    ∃ R' hs' w', m_zfindSpace F (nI gc) (nI (ctN n)) (nI n) (nI p) (nF cg) dgs (nF G) (nI D) (nF hs) (nF R) (nF w) = some (nF hs', nF R', nF w') ∧ GoodZ p n D cg (gensD n D cg G gc) R' hs' ∧ ∀ j, 126 ≤ j → hs' j = 0 := by
  have hct := ctN_le h1 h4
  obtain ⟨R', hs', w', a, b⟩ := p_zfs23 (F := F) hF hp hp2 h1 h4 hD hT hdg hgc hG hG0 gc F 0 R (fun _ => 0) w (by omega) (by omega) ⟨⟨fun _ => Or.inl rfl, fun i h => absurd h Nat.zero_ne_one⟩, fun i h => absurd h Nat.zero_ne_one⟩ (fun q h => by omega)
  refine ⟨R', hs', w', ?_, b, fun j hj => ?_⟩
  · exact (p_zfs2 126 F 0 hs (by omega) (by omega) (fun j h => by omega) hh).trans a
  · rcases b.1.1 j with z | z
    · exact z
    · have := (b.1.2 j z).1
      omega
theorem gens_same {G : Nat → Nat} {gc : Nat} (h : ∀ q, q < gc → ¬ hiD n D cg (genV G q)) : gensD n D cg G gc = gens G gc := by
  funext f
  refine propext ⟨fun ⟨g, a, b, _⟩ => ⟨g, a, b⟩, fun ⟨g, a, b⟩ => ⟨g, a, b, h g a⟩⟩
theorem lead_up {gen : (Nat → Nat) → Prop} {R Lf bs R' hs : Nat → Nat} (hB : GoodB p n D cg gen R Lf bs) (hZ : GoodZ p n D cg gen R' hs) {i : Nat} (hi : Lf i = 1) : hs i = 1 := by
  obtain ⟨r1, r2, r3, _⟩ := hB.1.2 i hi
  exact hZ.2.2.1 (rowF R i) i (hB.2.2.1 _ (RS_row hB.1 hi)) r1 (by rw [r2]; omega) (fun j hj _ => r3 j hj)
theorem lead_same {gen : (Nat → Nat) → Prop} {R Lf bs R' hs : Nat → Nat} (hB : GoodB p n D cg gen R Lf bs) (hZ : GoodZ p n D cg gen R' hs) (h0 : Lf 0 = 0) : hs = Lf := by
  have hfull : ∀ f, Spc p (ctN n) n D (dgC cg) (upN n cg) gen f → RS p (ctN n) Lf (rowF R) f := by
    rcases hB.2.2.2.1 with z | z
    · omega
    · exact z
  funext i
  rcases hB.1.1 i with z | z
  · rcases hZ.1.1 i with y | y
    · rw [z, y]
    · obtain ⟨r1, r2, r3, _⟩ := hZ.1.2 i y
      have := RS_lead hB.1 (hfull _ (hZ.2.1 _ (RS_row hZ.1 y))) r1 (by rw [r2]; omega) (fun j hj _ => r3 j hj)
      omega
  · rw [z, lead_up hB hZ z]
theorem basis_same {gen : (Nat → Nat) → Prop} {R Lf bs R' hs : Nat → Nat} (hp : isP p) (hB : GoodB p n D cg gen R Lf bs) (hZ : GoodZ p n D cg gen R' hs) (h0 : Lf 0 = 0) {b : Nat} (hb : b ∈ bsN cg Lf (ctN n)) : ∀ j, j < ctN n → rowF R b j = rowC (ctN n) R' b j := by
  have hp0 := hp.1
  have hfull : ∀ f, Spc p (ctN n) n D (dgC cg) (upN n cg) gen f → RS p (ctN n) Lf (rowF R) f := by
    rcases hB.2.2.2.1 with z | z
    · omega
    · exact z
  have he := lead_same hB hZ h0
  have hL := (bsN_mem cg Lf _ b hb).2
  have hL' : hs b = 1 := by rw [he]; exact hL
  obtain ⟨r1, r2, r3, _⟩ := hB.1.2 b hL
  obtain ⟨s1, s2, s3, _⟩ := hZ.1.2 b hL'
  refine RS_uniq (by omega) hB.1 (RS_row hB.1 hL) (hfull _ (hZ.2.1 _ (RS_row hZ.1 hL'))) r2 s2 (fun j hj hne => ?_) (fun j hj hne => ?_)
  · rcases Nat.lt_or_ge j b with q | q
    · exact hB.2.2.2.2.2 b hb j q hj
    · exact r3 j (by omega)
  · rcases Nat.lt_or_ge j b with q | q
    · exact hZ.2.2.2 b hL' j q (by rw [he]; exact hj)
    · exact s3 j (by omega)
end SAME
