/-! THE REFERENCE'S SPACE: one pass over the rows, and the passes. -/
section ZPASS
variable {F p n ord D : Nat} {cg kg : Nat → Nat} {gen : (Nat → Nat) → Prop} {dgs GA : Nat → Int32} {gI : Int32}
/-- what a piece of a pass tells: the flag, the growth, and the products that were tried -/
def PassR (p n D : Nat) (cg : Nat → Nat) (gen : (Nat → Nat) → Prop) (mr : Nat) (R hs : Nat → Nat) (mr' : Nat) (R' hs' : Nat → Nat) : Prop :=
  mr' ≤ 1 ∧ ZpI p n D cg gen R' hs' ∧ ZGrow p (ctN n) R hs R' hs' ∧ (mr = 1 → mr' = 1) ∧ (mr' = 0 → hs' = hs ∧ rowC (ctN n) R' = rowC (ctN n) R) ∧ (mr = 0 → mr' = 1 → sm (ctN n) hs + 1 ≤ sm (ctN n) hs')
theorem PassR.refl {mr : Nat} (hm : mr ≤ 1) {R hs : Nat → Nat} (h : ZpI p n D cg gen R hs) : PassR p n D cg gen mr R hs mr R hs := ⟨hm, h, ZGrow.refl, fun h => h, fun _ => ⟨rfl, rfl⟩, fun a b => by omega⟩
theorem PassR.trans {mr mr' mr'' : Nat} {R hs R' hs' R'' hs'' : Nat → Nat} (h : PassR p n D cg gen mr R hs mr' R' hs') (h' : PassR p n D cg gen mr' R' hs' mr'' R'' hs'') : PassR p n D cg gen mr R hs mr'' R'' hs'' := by
  obtain ⟨a1, a2, a3, a4, a5, a6⟩ := h
  obtain ⟨b1, b2, b3, b4, b5, b6⟩ := h'
  refine ⟨b1, b2, a3.trans b3, fun h => b4 (a4 h), fun h => ?_, fun h0 h1 => ?_⟩
  · have : mr' = 0 := by
      rcases (show mr' = 0 ∨ mr' = 1 by omega) with z | z
      · exact z
      · have := b4 z
        omega
    obtain ⟨c1, c2⟩ := b5 h
    obtain ⟨d1, d2⟩ := a5 this
    exact ⟨by rw [c1, d1], by rw [c2, d2]⟩
  · have := a3.2.2
    have := b3.2.2
    rcases (show mr' = 0 ∨ mr' = 1 by omega) with z | z
    · have := b6 z h1
      omega
    · have := a6 h0 z
      omega
theorem p_pass105 (hF : 40000 < F) (hp : isP p) (hp2 : p ≤ 32003) (h1 : 1 ≤ n) (h4 : n ≤ 4) (hD : D ≤ hiN n) (hT : Tab n ord cg kg) (hdg : ∀ q, q < ctN n → dgs q = nI (dgC cg q)) {k86 k94} {i : Nat} (hi : i < ctN n) :
    ∀ (d m v mr : Nat) (R hs w : Nat → Nat), v + d = n → d < m → mr ≤ 1 → ZpI p n D cg gen R hs →
      ∃ mr' R' hs' w', b_zfindSpace_105 F gI (nI (ctN n)) (nI n) (nI p) (nF cg) dgs GA k86 k94 m (nI D) (nI mr) (nI i) (nI v) (nF hs) (nF R) (nF w) = k94 (nI D) (nI mr') (nI (i + 1)) (nF hs') (nF R') (nF w') ∧ PassR p n D cg gen mr R hs mr' R' hs' ∧
        (hs i = 1 → dgC cg i < D → ∀ u, v ≤ u → u < n → RS p (ctN n) hs' (rowC (ctN n) R') (prV n cg u (rowC (ctN n) R i))) := by
  have hct := ctN_le h1 h4
  have hhi := hiN_le n
  have hp0 := hp.1
  intro d
  induction d with
  | zero =>
    intro m v mr R hs w hv hm hmr hI
    obtain ⟨m, rfl⟩ : ∃ q, m = q + 1 := ⟨m - 1, by omega⟩
    refine ⟨mr, R, hs, w, ?_, PassR.refl hmr hI, fun _ _ u _ _ => by omega⟩
    show s_zfindSpace_105 F gI (nI (ctN n)) (nI n) (nI p) (nF cg) dgs GA k86 k94 (b_zfindSpace_105 F gI (nI (ctN n)) (nI n) (nI p) (nF cg) dgs GA k86 k94 m) (nI D) (nI mr) (nI i) (nI v) (nF hs) (nF R) (nF w) = _
    unfold s_zfindSpace_105
    rw [if_pos (nI_le (by omega) (by omega)), show nI i + 1 = nI (i + 1) from nI_add i 1]
  | succ d ih =>
    intro m v mr R hs w hv hm hmr hI
    obtain ⟨m, rfl⟩ : ∃ q, m = q + 1 := ⟨m - 1, by omega⟩
    have hdi : dgC cg i ≤ 30 := by
      have := (hT.inT h1 h4 hi).2.1
      unfold dgC
      omega
    by_cases hL : hs i = 1
    · by_cases hd : dgC cg i < D
      · obtain ⟨x, a1, a2, a3⟩ := p_zmultiplied (F := F) (w := w) (by omega) h1 h4 hT (show v < n by omega) (show dgC cg i < hiN n by omega) hp2 hI.1 hL
        obtain ⟨r1, r2, r3, r4⟩ := hI.1.2 i hL
        have hinj : ∀ a b, a < ctN n → b < ctN n → upN n cg v a = upN n cg v b → upN n cg v a < ctN n → a = b := fun a b ha hb e hu => hT.up_inj h1 h4 (by omega) ha hb e hu
        have ev : vecC (ctN n) x = prV n cg v (rowC (ctN n) R i) := by
          funext j
          unfold vecC
          by_cases q : j < ctN n
          · rw [if_pos q]; exact a2 j q
          · rw [if_neg q]
            unfold prV
            rw [if_neg q]
        have hx : ∀ j, j < ctN n → x j < p := fun j hj => by
          rw [a2 j hj]
          unfold prV
          rw [if_pos hj]
          exact mulV_lt (by omega) hinj r4 hj
        obtain ⟨r, hs1, R1, x1, b1, b2, b3, b4, b5⟩ := hI.step hF hp hp2 h1 h4 hx (by
          rw [ev]
          exact Spc_mul (show v < n by omega) (hI.2 i hL) (fun j hj hne => by
            have : j ≤ i := by
              rcases Nat.lt_or_ge i j with q | q
              · exact absurd (r3 j q) hne
              · exact q
            have := hT.deg_mono h1 h4 this r1
            omega))
        rw [ev] at b4
        obtain ⟨c1, c2⟩ := b3.2.1 i hL
        obtain ⟨mr1, hmr1, hflag, hP⟩ : ∃ mr1, mr1 ≤ 1 ∧ (mr1 = if r = 0 then mr else 1) ∧ PassR p n D cg gen mr R hs mr1 R1 hs1 := by
          rcases b5 with ⟨z1, z2, z3⟩ | ⟨z1, z2⟩
          · exact ⟨mr, hmr, by rw [if_pos z1], hmr, b2, b3, fun h => h, fun _ => ⟨z2, z3⟩, fun a b => by omega⟩
          · exact ⟨1, by omega, by rw [if_neg (by omega)], by omega, b2, b3, fun _ => rfl, fun h => by omega, fun _ _ => by omega⟩
        obtain ⟨mr2, R2, hs2, w2, d1, d2, d3⟩ := ih m (v + 1) mr1 R1 hs1 x1 (by omega) (by omega) hmr1 b2
        refine ⟨mr2, R2, hs2, w2, ?_, hP.trans d2, fun _ _ u hu hun => ?_⟩
        · rw [← d1, hflag]
          show s_zfindSpace_105 F gI (nI (ctN n)) (nI n) (nI p) (nF cg) dgs GA k86 k94 (b_zfindSpace_105 F gI (nI (ctN n)) (nI n) (nI p) (nF cg) dgs GA k86 k94 m) (nI D) (nI mr) (nI i) (nI v) (nF hs) (nF R) (nF w) = _
          unfold s_zfindSpace_105
          rw [if_neg (nI_ge (by omega) (by omega)), rdI_n (by omega) (by decide), if_neg (show ¬ nF hs i = 0 by show ¬ nI (hs i) = 0; rw [hL]; decide +kernel), rdI_n (by omega) (by decide), hdg i hi, if_neg (nI_ge (by omega) (by omega)), a1, bd1_n, b1, show nI v + 1 = nI (v + 1) from nI_add v 1]
          show (if nI r = 0 then _ else _) = _
          rcases b5 with ⟨z1, _⟩ | ⟨z1, _⟩
          · rw [z1, if_pos (by decide), if_pos rfl]
          · rw [z1, if_neg (by decide), if_neg (by omega)]
            rfl
        · by_cases e : u = v
          · rw [e]; exact d2.2.2.1.1 _ b4
          · have := d3 c1 hd u (by omega) hun
            rw [c2] at this
            exact this
      · refine ⟨mr, R, hs, w, ?_, PassR.refl hmr hI, fun _ h => absurd h hd⟩
        show s_zfindSpace_105 F gI (nI (ctN n)) (nI n) (nI p) (nF cg) dgs GA k86 k94 (b_zfindSpace_105 F gI (nI (ctN n)) (nI n) (nI p) (nF cg) dgs GA k86 k94 m) (nI D) (nI mr) (nI i) (nI v) (nF hs) (nF R) (nF w) = _
        unfold s_zfindSpace_105
        rw [if_neg (nI_ge (by omega) (by omega)), rdI_n (by omega) (by decide), if_neg (show ¬ nF hs i = 0 by show ¬ nI (hs i) = 0; rw [hL]; decide +kernel), rdI_n (by omega) (by decide), hdg i hi, if_pos (nI_le (by omega) (by omega)), show nI i + 1 = nI (i + 1) from nI_add i 1]
    · have hL0 : hs i = 0 := by
        rcases hI.1.1 i with z | z
        · exact z
        · exact absurd z hL
      refine ⟨mr, R, hs, w, ?_, PassR.refl hmr hI, fun h => absurd h hL⟩
      show s_zfindSpace_105 F gI (nI (ctN n)) (nI n) (nI p) (nF cg) dgs GA k86 k94 (b_zfindSpace_105 F gI (nI (ctN n)) (nI n) (nI p) (nF cg) dgs GA k86 k94 m) (nI D) (nI mr) (nI i) (nI v) (nF hs) (nF R) (nF w) = _
      unfold s_zfindSpace_105
      rw [if_neg (nI_ge (by omega) (by omega)), rdI_n (by omega) (by decide), if_pos (show nF hs i = 0 by show nI (hs i) = 0; rw [hL0]; rfl), show nI i + 1 = nI (i + 1) from nI_add i 1]
theorem p_pass94 (hF : 40000 < F) (hp : isP p) (hp2 : p ≤ 32003) (h1 : 1 ≤ n) (h4 : n ≤ 4) (hD : D ≤ hiN n) (hT : Tab n ord cg kg) (hdg : ∀ q, q < ctN n → dgs q = nI (dgC cg q)) {k86} :
    ∀ (d m i mr : Nat) (R hs w : Nat → Nat), i + d = ctN n → d < m → mr ≤ 1 → ZpI p n D cg gen R hs →
      ∃ mr' R' hs' w', b_zfindSpace_94 F gI (nI (ctN n)) (nI n) (nI p) (nF cg) dgs GA k86 m (nI D) (nI mr) (nI i) (nF hs) (nF R) (nF w) = k86 (nI D) (nI mr') (nF hs') (nF R') (nF w') ∧ PassR p n D cg gen mr R hs mr' R' hs' ∧
        (mr' = 0 → ∀ q, i ≤ q → q < ctN n → hs q = 1 → dgC cg q < D → ∀ u, u < n → RS p (ctN n) hs' (rowC (ctN n) R') (prV n cg u (rowC (ctN n) R q))) := by
  have hct := ctN_le h1 h4
  intro d
  induction d with
  | zero =>
    intro m i mr R hs w hi hm hmr hI
    obtain ⟨m, rfl⟩ : ∃ q, m = q + 1 := ⟨m - 1, by omega⟩
    refine ⟨mr, R, hs, w, ?_, PassR.refl hmr hI, fun _ q _ _ => by omega⟩
    show s_zfindSpace_94 F gI (nI (ctN n)) (nI n) (nI p) (nF cg) dgs GA k86 (b_zfindSpace_94 F gI (nI (ctN n)) (nI n) (nI p) (nF cg) dgs GA k86 m) (nI D) (nI mr) (nI i) (nF hs) (nF R) (nF w) = _
    unfold s_zfindSpace_94
    rw [if_pos (nI_le (by omega) (by omega))]
  | succ d ih =>
    intro m i mr R hs w hi hm hmr hI
    obtain ⟨m, rfl⟩ : ∃ q, m = q + 1 := ⟨m - 1, by omega⟩
    obtain ⟨mr1, R1, hs1, w1, a1, a2, a3⟩ := p_pass105 (GA := GA) (gI := gI) (dgs := dgs) (k86 := k86) (k94 := b_zfindSpace_94 F gI (nI (ctN n)) (nI n) (nI p) (nF cg) dgs GA k86 m) hF hp hp2 h1 h4 hD hT hdg (show i < ctN n by omega) n F 0 mr R hs w (by omega) (by omega) hmr hI
    obtain ⟨mr2, R2, hs2, w2, b1, b2, b3⟩ := ih m (i + 1) mr1 R1 hs1 w1 (by omega) (by omega) a2.1 a2.2.1
    refine ⟨mr2, R2, hs2, w2, ?_, a2.trans b2, fun hz q hq hqc hqL hqd u hu => ?_⟩
    · rw [← b1, ← a1]
      show s_zfindSpace_94 F gI (nI (ctN n)) (nI n) (nI p) (nF cg) dgs GA k86 (b_zfindSpace_94 F gI (nI (ctN n)) (nI n) (nI p) (nF cg) dgs GA k86 m) (nI D) (nI mr) (nI i) (nF hs) (nF R) (nF w) = _
      unfold s_zfindSpace_94
      rw [if_neg (nI_ge (by omega) (by omega))]
      rfl
    · by_cases e : q = i
      · rw [e] at hqL hqd ⊢
        exact b2.2.2.1.1 _ (a3 hqL hqd u (by omega) hu)
      · obtain ⟨c1, c2⟩ := a2.2.2.1.2.1 q hqL
        have := b3 hz q (by omega) hqc c1 hqd u hu
        rw [c2] at this
        exact this
/-- all products of the rows are there -/
def ZClo (p n D : Nat) (cg R hs : Nat → Nat) : Prop := ∀ q, q < ctN n → hs q = 1 → dgC cg q < D → ∀ u, u < n → RS p (ctN n) hs (rowC (ctN n) R) (prV n cg u (rowC (ctN n) R q))
theorem p_pass86 (hF : 40000 < F) (hp : isP p) (hp2 : p ≤ 32003) (h1 : 1 ≤ n) (h4 : n ≤ 4) (hD : D ≤ hiN n) (hT : Tab n ord cg kg) (hdg : ∀ q, q < ctN n → dgs q = nI (dgC cg q)) :
    ∀ (d m : Nat) (R hs w : Nat → Nat), ctN n ≤ sm (ctN n) hs + d → d + 1 < m → ZpI p n D cg gen R hs →
      ∃ R' hs' w', b_zfindSpace_86 F gI (nI (ctN n)) (nI n) (nI p) (nF cg) dgs GA m (nI D) (nI 1) (nF hs) (nF R) (nF w) = b_zfindSpace_166 F gI (nI (ctN n)) (nI n) (nI p) (nF cg) dgs GA F (nI 0) (nF hs') (nF R') (nF w') ∧ ZpI p n D cg gen R' hs' ∧ ZGrow p (ctN n) R hs R' hs' ∧ ZClo p n D cg R' hs' := by
  have hct := ctN_le h1 h4
  have one : ∀ (m : Nat) (R hs w : Nat → Nat), ZpI p n D cg gen R hs →
      (∃ R' hs' w', b_zfindSpace_86 F gI (nI (ctN n)) (nI n) (nI p) (nF cg) dgs GA (m + 2) (nI D) (nI 1) (nF hs) (nF R) (nF w) = b_zfindSpace_166 F gI (nI (ctN n)) (nI n) (nI p) (nF cg) dgs GA F (nI 0) (nF hs') (nF R') (nF w') ∧ ZpI p n D cg gen R' hs' ∧ ZGrow p (ctN n) R hs R' hs' ∧ ZClo p n D cg R' hs') ∨
      (∃ R' hs' w', b_zfindSpace_86 F gI (nI (ctN n)) (nI n) (nI p) (nF cg) dgs GA (m + 2) (nI D) (nI 1) (nF hs) (nF R) (nF w) = b_zfindSpace_86 F gI (nI (ctN n)) (nI n) (nI p) (nF cg) dgs GA (m + 1) (nI D) (nI 1) (nF hs') (nF R') (nF w') ∧ ZpI p n D cg gen R' hs' ∧ ZGrow p (ctN n) R hs R' hs' ∧ sm (ctN n) hs + 1 ≤ sm (ctN n) hs') := by
    intro m R hs w hI
    obtain ⟨mr1, R1, hs1, w1, a1, a2, a3⟩ := p_pass94 (GA := GA) (gI := gI) (dgs := dgs) (k86 := b_zfindSpace_86 F gI (nI (ctN n)) (nI n) (nI p) (nF cg) dgs GA (m + 1)) hF hp hp2 h1 h4 hD hT hdg (ctN n) F 0 0 R hs w (by omega) (by omega) (by omega) hI
    have e : b_zfindSpace_86 F gI (nI (ctN n)) (nI n) (nI p) (nF cg) dgs GA (m + 2) (nI D) (nI 1) (nF hs) (nF R) (nF w) = b_zfindSpace_86 F gI (nI (ctN n)) (nI n) (nI p) (nF cg) dgs GA (m + 1) (nI D) (nI mr1) (nF hs1) (nF R1) (nF w1) := by
      rw [← a1]
      show s_zfindSpace_86 F gI (nI (ctN n)) (nI n) (nI p) (nF cg) dgs GA (b_zfindSpace_86 F gI (nI (ctN n)) (nI n) (nI p) (nF cg) dgs GA (m + 1)) (nI D) (nI 1) (nF hs) (nF R) (nF w) = _
      unfold s_zfindSpace_86
      rw [if_neg (by decide)]
      rfl
    rcases (show mr1 = 0 ∨ mr1 = 1 by have := a2.1; omega) with z | z
    · refine Or.inl ⟨R1, hs1, w1, ?_, a2.2.1, a2.2.2.1, fun q hq hqL hqd u hu => ?_⟩
      · rw [e, z]
        show s_zfindSpace_86 F gI (nI (ctN n)) (nI n) (nI p) (nF cg) dgs GA (b_zfindSpace_86 F gI (nI (ctN n)) (nI n) (nI p) (nF cg) dgs GA m) (nI D) (nI 0) (nF hs1) (nF R1) (nF w1) = _
        unfold s_zfindSpace_86
        rw [if_pos (by decide)]
        rfl
      · obtain ⟨c1, c2⟩ := a2.2.2.2.2.1 z
        rw [c2]
        have := a3 z q (by omega) hq (by rw [← c1]; exact hqL) hqd u hu
        rw [c2] at this
        exact this
    · exact Or.inr ⟨R1, hs1, w1, by rw [e, z], a2.2.1, a2.2.2.1, a2.2.2.2.2.2 rfl z⟩
  intro d
  induction d with
  | zero =>
    intro m R hs w hs0 hm hI
    obtain ⟨m, rfl⟩ : ∃ q, m = q + 2 := ⟨m - 2, by omega⟩
    rcases one m R hs w hI with h | ⟨R1, hs1, w1, _, b2, _, b4⟩
    · exact h
    · have := sm_le (n := ctN n) b2.1.1
      omega
  | succ d ih =>
    intro m R hs w hs0 hm hI
    obtain ⟨m, rfl⟩ : ∃ q, m = q + 2 := ⟨m - 2, by omega⟩
    rcases one m R hs w hI with h | ⟨R1, hs1, w1, b1, b2, b3, b4⟩
    · exact h
    · obtain ⟨R2, hs2, w2, c1, c2, c3, c4⟩ := ih (m + 1) R1 hs1 w1 (by omega) (by omega) b2
      exact ⟨R2, hs2, w2, by rw [b1, c1], c2, b3.trans c3, c4⟩
end ZPASS
