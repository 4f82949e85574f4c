/-! THE REFERENCE'S SPACE: findSpace, whole. -/
section ZFIND
variable {F p n ord D : Nat} {cg kg : Nat → Nat} {dgs : Nat → Int32}
theorem p_zfs166 (hF : 40000 < F) (hp : 2 ≤ p) (hp2 : p ≤ 32003) (h1 : 1 ≤ n) (h4 : n ≤ 4) {gI : Int32} {GA : Nat → Int32} {hs R0 : Nat → Nat} :
    ∀ (d m i : Nat) (R w : Nat → Nat), i + d = ctN n → d < m → Ech p (ctN n) hs (rowC (ctN n) R) → (∀ f, RS p (ctN n) hs (rowC (ctN n) R) f → RS p (ctN n) hs (rowC (ctN n) R0) f) → (∀ q, q < i → hs q = 1 → ∀ j, j < q → hs j = 1 → rowC (ctN n) R q j = 0) →
      ∃ R' w', b_zfindSpace_166 F gI (nI (ctN n)) (nI n) (nI p) (nF cg) dgs GA m (nI i) (nF hs) (nF R) (nF w) = some (nF hs, nF R', nF w') ∧ Ech p (ctN n) hs (rowC (ctN n) R') ∧ (∀ f, RS p (ctN n) hs (rowC (ctN n) R') f → RS p (ctN n) hs (rowC (ctN n) R0) f) ∧ (∀ q, hs q = 1 → ∀ j, j < q → hs j = 1 → rowC (ctN n) R' q j = 0) := by
  have hct := ctN_le h1 h4
  intro d
  induction d with
  | zero =>
    intro m i R w hi hm hE hR hz
    obtain ⟨m, rfl⟩ : ∃ q, m = q + 1 := ⟨m - 1, by omega⟩
    refine ⟨R, w, ?_, hE, hR, fun q hq => hz q (by have := (hE.2 q hq).1; omega) hq⟩
    show s_zfindSpace_166 F gI (nI (ctN n)) (nI n) (nI p) (nF cg) dgs GA (b_zfindSpace_166 F gI (nI (ctN n)) (nI n) (nI p) (nF cg) dgs GA m) (nI i) (nF hs) (nF R) (nF w) = _
    unfold s_zfindSpace_166
    rw [if_pos (nI_le (by omega) (by omega))]
  | succ d ih =>
    intro m i R w hi hm hE hR hz
    obtain ⟨m, rfl⟩ : ∃ q, m = q + 1 := ⟨m - 1, by omega⟩
    rcases hE.1 i with hL | hL
    · obtain ⟨R2, w2, c1, c2⟩ := ih m (i + 1) R w (by omega) (by omega) hE hR (fun q hq hqL => by
        by_cases e : q = i
        · rw [e, hL] at hqL; omega
        · exact hz q (by omega) hqL)
      refine ⟨R2, w2, ?_, c2⟩
      rw [← c1]
      show s_zfindSpace_166 F gI (nI (ctN n)) (nI n) (nI p) (nF cg) dgs GA (b_zfindSpace_166 F gI (nI (ctN n)) (nI n) (nI p) (nF cg) dgs GA m) (nI i) (nF hs) (nF R) (nF w) = _
      unfold s_zfindSpace_166
      rw [if_neg (nI_ge (by omega) (by omega)), rdI_n (by omega) (by decide), if_pos (show nF hs i = 0 by show nI (hs i) = 0; rw [hL]; rfl), show nI i + 1 = nI (i + 1) from nI_add i 1]
    · obtain ⟨R1, w1, a1, a2, a3, a4, a5⟩ := p_zclean (F := F) (w := w) hF hp hp2 hct hE hL
      obtain ⟨R2, w2, c1, c2⟩ := ih m (i + 1) R1 w1 (by omega) (by omega) a2 (fun f hf => hR f (a4 f hf)) (fun q hq hqL j hj hjL => by
        by_cases e : q = i
        · rw [e] at hj ⊢; exact a5 j hj hjL
        · rw [a3 q e]; exact hz q (by omega) hqL j hj hjL)
      refine ⟨R2, w2, ?_, c2⟩
      rw [← c1]
      show s_zfindSpace_166 F gI (nI (ctN n)) (nI n) (nI p) (nF cg) dgs GA (b_zfindSpace_166 F gI (nI (ctN n)) (nI n) (nI p) (nF cg) dgs GA m) (nI i) (nF hs) (nF R) (nF w) = _
      unfold s_zfindSpace_166
      rw [if_neg (nI_ge (by omega) (by omega)), rdI_n (by omega) (by decide), if_neg (show ¬ nF hs i = 0 by show ¬ nI (hs i) = 0; rw [hL]; decide +kernel), a1, bd2_n, show nI i + 1 = nI (i + 1) from nI_add i 1]
theorem p_zfs42 (h1 : 1 ≤ n) (h4 : n ≤ 4) {gI : Int32} {G : Nat → Nat} {g : Nat} (hg : g < 8) {hs R : Nat → Nat} {k23} :
    ∀ (d m k : Nat) (w : Nat → Nat), k + d = ctN n → d < m → (∀ j, j < k → w j = genV G g j) →
      ∃ x, b_zfindSpace_42 F gI (nI (ctN n)) (nI n) (nI p) (nF cg) dgs (nF G) k23 m (nI D) (nI g) (nI k) (nF hs) (nF R) (nF w) = bd4 (m_zcomes F (nI (ctN n)) (nI p) (nF hs) (nF R) (nF x)) (fun _ hs2 R2 w2 => k23 (nI D) (nI (g + 1)) hs2 R2 w2) ∧ ∀ j, j < ctN n → x j = genV G g j := by
  have hct := ctN_le h1 h4
  intro d
  induction d with
  | zero =>
    intro m k w hk hm hw
    obtain ⟨m, rfl⟩ : ∃ q, m = q + 1 := ⟨m - 1, by omega⟩
    refine ⟨w, ?_, fun j hj => hw j (by omega)⟩
    show s_zfindSpace_42 F gI (nI (ctN n)) (nI n) (nI p) (nF cg) dgs (nF G) k23 (b_zfindSpace_42 F gI (nI (ctN n)) (nI n) (nI p) (nF cg) dgs (nF G) k23 m) (nI D) (nI g) (nI k) (nF hs) (nF R) (nF w) = _
    unfold s_zfindSpace_42
    rw [if_pos (nI_le (by omega) (by omega)), show nI g + 1 = nI (g + 1) from nI_add g 1]
  | succ d ih =>
    intro m k w hk hm hw
    obtain ⟨m, rfl⟩ : ∃ q, m = q + 1 := ⟨m - 1, by omega⟩
    have eG : genV G g k = G (g * 126 + k) := by unfold genV; rw [if_pos (by omega)]
    obtain ⟨x, a1, a2⟩ := ih m (k + 1) (fun j => if j = k then G (g * 126 + k) else w j) (by omega) (by omega) (fun j hj => by
      show (if j = k then _ else w j) = _
      by_cases e : j = k
      · rw [if_pos e, e, eG]
      · rw [if_neg e]; exact hw j (by omega))
    refine ⟨x, ?_, a2⟩
    rw [← a1]
    show s_zfindSpace_42 F gI (nI (ctN n)) (nI n) (nI p) (nF cg) dgs (nF G) k23 (b_zfindSpace_42 F gI (nI (ctN n)) (nI n) (nI p) (nF cg) dgs (nF G) k23 m) (nI D) (nI g) (nI k) (nF hs) (nF R) (nF w) = _
    unfold s_zfindSpace_42
    rw [if_neg (nI_ge (by omega) (by omega)), show (126 : Int32) * nI g = nI (126 * g) from pk_mul 126 g, nI_add, rdI_n (by omega) (by decide), wrI_n (by omega) (by decide), show nI k + 1 = nI (k + 1) from nI_add k 1, show 126 * g + k = g * 126 + k by omega]
    show b_zfindSpace_42 F gI (nI (ctN n)) (nI n) (nI p) (nF cg) dgs (nF G) k23 m (nI D) (nI g) (nI (k + 1)) (nF hs) (nF R) (upd (nF w) k (nI (G (g * 126 + k)))) = _
    rw [upd_nF]
/-- the generators of degree up to D -/
def gensD (n D : Nat) (cg G : Nat → Nat) (gc : Nat) (f : Nat → Nat) : Prop := ∃ g, g < gc ∧ f = genV G g ∧ ¬ hiD n D cg (genV G g)
/-- what findSpace makes -/
def GoodZ (p n D : Nat) (cg : Nat → Nat) (gen : (Nat → Nat) → Prop) (R hs : Nat → Nat) : Prop :=
  Ech p (ctN n) hs (rowC (ctN n) R) ∧ (∀ f, RS p (ctN n) hs (rowC (ctN n) R) f → Spc p (ctN n) n D (dgC cg) (upN n cg) gen f) ∧ (∀ f i, Spc p (ctN n) n D (dgC cg) (upN n cg) gen f → i < ctN n → f i ≠ 0 → (∀ j, i < j → j < ctN n → f j = 0) → hs i = 1) ∧ (∀ q, hs q = 1 → ∀ j, j < q → hs j = 1 → rowC (ctN n) R q j = 0)
theorem ZpI.sub {gen : (Nat → Nat) → Prop} {R hs : Nat → Nat} (h : ZpI p n D cg gen R hs) {f : Nat → Nat} (hf : RS p (ctN n) hs (rowC (ctN n) R) f) : Spc p (ctN n) n D (dgC cg) (upN n cg) gen f := by
  obtain ⟨c, hc⟩ := hf
  have e : f = fun j => sm (ctN n) (fun i => hs i * (c i * rowC (ctN n) R i j)) % p := funext hc
  rw [e]
  have : ∀ J, Spc p (ctN n) n D (dgC cg) (upN n cg) gen (fun j => sm J (fun i => hs i * (c i * rowC (ctN n) R i j)) % p) := by
    intro J
    induction J with
    | zero =>
      have e : (fun j : Nat => sm 0 (fun i => hs i * (c i * rowC (ctN n) R i j)) % p) = fun _ => 0 := funext fun j => Nat.zero_mod p
      rw [e]; exact Spc_zero
    | succ J ih =>
      rcases h.1.1 J with z | z
      · have e : (fun j => sm (J + 1) (fun i => hs i * (c i * rowC (ctN n) R i j)) % p) = (fun j => sm J (fun i => hs i * (c i * rowC (ctN n) R i j)) % p) := by
          funext j
          show (sm J _ + hs J * _) % p = _
          rw [z, Nat.zero_mul, Nat.add_zero]
        rw [e]; exact ih
      · have e : (fun j => sm (J + 1) (fun i => hs i * (c i * rowC (ctN n) R i j)) % p) = (fun j => (sm J (fun i => hs i * (c i * rowC (ctN n) R i j)) % p + c J * rowC (ctN n) R J j) % p) := by
          funext j
          show (sm J _ + hs J * _) % p = _
          rw [z, Nat.one_mul, Nat.mod_add_mod]
        rw [e]; exact Spc_add _ ih (h.2 J z)
  exact this _
theorem ZpI.space (hp : isP p) (h1 : 1 ≤ n) (h4 : n ≤ 4) (hT : Tab n ord cg kg) {gen : (Nat → Nat) → Prop} {R hs : Nat → Nat} (hI : ZpI p n D cg gen R hs) (hC : ZClo p n D cg R hs) (hgen : ∀ g, gen g → RS p (ctN n) hs (rowC (ctN n) R) g) (f : Nat → Nat) :
    Spc p (ctN n) n D (dgC cg) (upN n cg) gen f ↔ RS p (ctN n) hs (rowC (ctN n) R) f := by
  have hp0 := hp.1
  refine RS_Spc (by omega) hI.1 (fun i j hi hj => ?_) hI.2 hgen (fun i j hij hj => hT.deg_mono h1 h4 hij hj) (fun v a b hv ha hb e hu => hT.up_inj h1 h4 hv ha hb e hu) (fun i v hi hv hd => ?_) f
  · obtain ⟨r1, _, r3, _⟩ := hI.1.2 i hi
    exact r3 j (by omega)
  · exact hC i (hI.1.2 i hi).1 hi hd v hv
theorem p_zfs23 (hF : 40000 < F) (hp : isP p) (hp2 : p ≤ 32003) (h1 : 1 ≤ n) (h4 : n ≤ 4) (hD : D ≤ hiN n) (hT : Tab n ord cg kg) (hdg : ∀ q, q < ctN n → dgs q = nI (dgC cg q)) {G : Nat → Nat} {gc : Nat} (hgc : gc ≤ 8) (hG : ∀ g, g < gc → ∀ j, genV G g j < p) (hG0 : ∀ g, g < gc → ∀ j, ctN n ≤ j → genV G g j = 0) :
    ∀ (d m g : Nat) (R hs w : Nat → Nat), g + d = gc → d < m → ZpI p n D cg (gensD n D cg G gc) R hs → (∀ q, q < g → ¬ hiD n D cg (genV G q) → RS p (ctN n) hs (rowC (ctN n) R) (genV G q)) →
      ∃ R' hs' w', b_zfindSpace_23 F (nI gc) (nI (ctN n)) (nI n) (nI p) (nF cg) dgs (nF G) m (nI D) (nI g) (nF hs) (nF R) (nF w) = some (nF hs', nF R', nF w') ∧ GoodZ p n D cg (gensD n D cg G gc) R' hs' := by
  have hct := ctN_le h1 h4
  have hhi := hiN_le n
  have hp0 := hp.1
  intro d
  induction d with
  | zero =>
    intro m g R hs w hg hm hI hgen
    obtain ⟨m, rfl⟩ : ∃ q, m = q + 1 := ⟨m - 1, by omega⟩
    obtain ⟨R1, hs1, w1, a1, a2, a3, a4⟩ := p_pass86 (F := F) (gI := nI gc) (GA := nF G) (dgs := dgs) hF hp hp2 h1 h4 hD hT hdg (ctN n) F R hs w (by omega) (by omega) hI
    have hsp := a2.space hp h1 h4 hT a4 (fun f hf => by
      obtain ⟨q, hq, rfl, hn⟩ := hf
      exact a3.1 _ (hgen q (by omega) hn))
    obtain ⟨R2, w2, b1, b2, b3, b4⟩ := p_zfs166 (F := F) (cg := cg) (dgs := dgs) (gI := nI gc) (GA := nF G) (R0 := R1) hF hp0 hp2 h1 h4 (ctN n) F 0 R1 w1 (by omega) (by omega) a2.1 (fun _ h => h) (fun q h => by omega)
    refine ⟨R2, hs1, w2, ?_, b2, fun f hf => (hsp f).mpr (b3 f hf), fun f i hf hi hne h0 => RS_lead a2.1 ((hsp f).mp hf) hi hne h0, b4⟩
    rw [← b1, ← a1]
    show s_zfindSpace_23 F (nI gc) (nI (ctN n)) (nI n) (nI p) (nF cg) dgs (nF G) (b_zfindSpace_23 F (nI gc) (nI (ctN n)) (nI n) (nI p) (nF cg) dgs (nF G) m) (nI D) (nI g) (nF hs) (nF R) (nF w) = _
    unfold s_zfindSpace_23
    rw [if_pos (nI_le (by omega) (by omega))]
    rfl
  | succ d ih =>
    intro m g R hs w hg hm hI hgen
    obtain ⟨m, rfl⟩ : ∃ q, m = q + 1 := ⟨m - 1, by omega⟩
    obtain ⟨r, e1, e2⟩ := p_zdegreeOfGenerator (F := F) (D := D) (by omega) h1 h4 (by omega) hT hdg (show g < 8 by omega) hp2 (hG g (by omega))
    by_cases hh : hiD n D cg (genV G g)
    · obtain ⟨R2, hs2, w2, c1, c2⟩ := ih m (g + 1) R hs w (by omega) (by omega) hI (fun q hq hn => by
        by_cases e : q = g
        · rw [e] at hn; exact absurd hh hn
        · exact hgen q (by omega) hn)
      refine ⟨R2, hs2, w2, ?_, c2⟩
      rw [← c1]
      show s_zfindSpace_23 F (nI gc) (nI (ctN n)) (nI n) (nI p) (nF cg) dgs (nF G) (b_zfindSpace_23 F (nI gc) (nI (ctN n)) (nI n) (nI p) (nF cg) dgs (nF G) m) (nI D) (nI g) (nF hs) (nF R) (nF w) = _
      unfold s_zfindSpace_23
      rw [if_neg (nI_ge (by omega) (by omega)), e1, bd1_n, if_pos (e2.mpr hh), show nI g + 1 = nI (g + 1) from nI_add g 1]
    · obtain ⟨x, a1, a2⟩ := p_zfs42 (F := F) (p := p) (D := D) (cg := cg) (dgs := dgs) (gI := nI gc) (G := G) (hs := hs) (R := R) (k23 := b_zfindSpace_23 F (nI gc) (nI (ctN n)) (nI n) (nI p) (nF cg) dgs (nF G) m) h1 h4 (show g < 8 by omega) (ctN n) F 0 w (by omega) (by omega) (fun j h => by omega)
      have ev : vecC (ctN n) x = genV G g := by
        funext j
        unfold vecC
        by_cases q : j < ctN n
        · rw [if_pos q]; exact a2 j q
        · rw [if_neg q, hG0 g (by omega) j (by omega)]
      obtain ⟨r2, hs1, R1, x1, b1, b2, b3, b4, b5⟩ := hI.step (w := x) hF hp hp2 h1 h4 (fun j hj => by rw [a2 j hj]; exact hG g (by omega) j) (by rw [ev]; exact Spc_gen ⟨g, by omega, rfl, hh⟩)
      rw [ev] at b4
      obtain ⟨R2, hs2, w2, c1, c2⟩ := ih m (g + 1) R1 hs1 x1 (by omega) (by omega) b2 (fun q hq hn => by
        by_cases e : q = g
        · rw [e]; exact b4
        · exact b3.1 _ (hgen q (by omega) hn))
      refine ⟨R2, hs2, w2, ?_, c2⟩
      rw [← c1]
      show s_zfindSpace_23 F (nI gc) (nI (ctN n)) (nI n) (nI p) (nF cg) dgs (nF G) (b_zfindSpace_23 F (nI gc) (nI (ctN n)) (nI n) (nI p) (nF cg) dgs (nF G) m) (nI D) (nI g) (nF hs) (nF R) (nF w) = _
      unfold s_zfindSpace_23
      rw [if_neg (nI_ge (by omega) (by omega)), e1, bd1_n, if_neg (fun z => hh (e2.mp z))]
      refine (show _ = _ from a1).trans ?_
      rw [b1]
      rfl
end ZFIND
