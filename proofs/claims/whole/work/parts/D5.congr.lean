/-! WHAT DEPENDS ON THE TABLE ALONE (no machine here). -/
section CONGR
variable {p n ord D : Nat} {cg cg' : Nat → Nat}
theorem rkN_congr (c : Nat) : ∀ N, (∀ j, j < N → cg j = cg' j) → rkN cg c N = rkN cg' c N := by
  intro N
  induction N with
  | zero => intro _; rfl
  | succ N ih =>
    intro h
    unfold rkN
    rw [h N (by omega), ih (fun j hj => h j (by omega))]
theorem upN_congr (h : ∀ j, j < ctN n → cg j = cg' j) {v i : Nat} (hi : i < ctN n) : upN n cg v i = upN n cg' v i := by
  unfold upN
  rw [h i hi, rkN_congr _ _ h]
theorem Spc_congr {cnt : Nat} {dg dg' : Nat → Nat} {up up' : Nat → Nat → Nat} {gen : (Nat → Nat) → Prop} (hd : ∀ j, j < cnt → dg j = dg' j) (hu : ∀ v j, v < n → j < cnt → up v j = up' v j) {f : Nat → Nat} (h : Spc p cnt n D dg up gen f) : Spc p cnt n D dg' up' gen f := by
  intro S h0 ha hg hm
  refine h S h0 ha hg (fun f v hv hf hdeg => ?_)
  have e : (fun j => if j < cnt then mulV cnt (up v) f j else 0) = (fun j => if j < cnt then mulV cnt (up' v) f j else 0) := by
    funext j
    by_cases q : j < cnt
    · rw [if_pos q, if_pos q]
      unfold mulV
      exact sm_congr fun i hi => by rw [hu v i hv hi]
    · rw [if_neg q, if_neg q]
  rw [e]
  exact hm f v hv hf (fun j hj hne => by rw [← hd j hj]; exact hdeg j hj hne)
theorem hiD_congr (h : ∀ j, j < ctN n → cg j = cg' j) {w : Nat → Nat} : hiD n D cg w ↔ hiD n D cg' w := by
  unfold hiD dgC
  constructor
  · rintro ⟨i, a, b, c⟩; exact ⟨i, a, by rw [← h i a]; exact b, c⟩
  · rintro ⟨i, a, b, c⟩; exact ⟨i, a, by rw [h i a]; exact b, c⟩
theorem gensD_congr (h : ∀ j, j < ctN n → cg j = cg' j) {G G' : Nat → Nat} {gc : Nat} (hG : ∀ g, g < gc → genV G g = genV G' g) : gensD n D cg G gc = gensD n D cg' G' gc := by
  funext f
  refine propext ⟨fun ⟨g, a, b, c⟩ => ⟨g, a, by rw [b, hG g a], fun q => c ((hiD_congr h).mpr (by rw [hG g a]; exact q))⟩, fun ⟨g, a, b, c⟩ => ⟨g, a, by rw [b, hG g a], fun q => c ((hiD_congr h).mp (by rw [← hG g a]; exact q))⟩⟩
theorem GoodZ_congr (h : ∀ j, j < ctN n → cg j = cg' j) {gen : (Nat → Nat) → Prop} {R hs : Nat → Nat} (hZ : GoodZ p n D cg gen R hs) : GoodZ p n D cg' gen R hs := by
  have hd : ∀ j, j < ctN n → dgC cg j = dgC cg' j := fun j hj => by unfold dgC; rw [h j hj]
  refine ⟨hZ.1, fun f hf => Spc_congr hd (fun v j _ hj => upN_congr h hj) (hZ.2.1 f hf), fun f i hf => hZ.2.2.1 f i (Spc_congr (fun j hj => (hd j hj).symm) (fun v j _ hj => (upN_congr h hj).symm) hf), hZ.2.2.2⟩
theorem bsN_congr {hs : Nat → Nat} : ∀ k, (∀ j, j < k → cg j = cg' j) → bsN cg hs k = bsN cg' hs k := by
  intro k
  induction k with
  | zero => intro _; rfl
  | succ k ih =>
    intro h
    have e := ih (fun j hj => h j (by omega))
    have hc : (hs k = 1 ∧ ∀ b ∈ bsN cg hs k, dvN 0 (cg b) (cg k) ≠ 1) ↔ (hs k = 1 ∧ ∀ b ∈ bsN cg' hs k, dvN 0 (cg' b) (cg' k) ≠ 1) := by
      rw [← e]
      refine and_congr Iff.rfl (forall_congr' fun b => imp_congr_right fun hb => ?_)
      have := (bsN_mem cg hs k b hb).1
      rw [h b (by omega), h k (by omega)]
    by_cases q : hs k = 1 ∧ ∀ b ∈ bsN cg hs k, dvN 0 (cg b) (cg k) ≠ 1
    · show (if _ then _ else _) = (if _ then _ else _)
      rw [if_pos q, if_pos (hc.mp q), e]
    · show (if _ then _ else _) = (if _ then _ else _)
      rw [if_neg q, if_neg (fun z => q (hc.mpr z)), e]
variable {l : List Nat}
theorem hlN_congr (h : ∀ b ∈ l, cg b = cg' b) (c : Nat) : hlN cg l c = hlN cg' l c := by
  have : (∀ b ∈ l, dvN 0 (cg b) c ≠ 1) ↔ (∀ b ∈ l, dvN 0 (cg' b) c ≠ 1) := forall_congr' fun b => imp_congr_right fun hb => by rw [h b hb]
  unfold hlN
  by_cases q : ∀ b ∈ l, dvN 0 (cg b) c ≠ 1
  · rw [if_pos q, if_pos (this.mp q)]
  · rw [if_neg q, if_neg (fun z => q (this.mpr z))]
theorem NL_congr (h : ∀ b ∈ l, cg b = cg' b) (c : Nat) : NL n cg l c ↔ NL n cg' l c := by
  unfold NL
  rw [hlN_congr h c]
theorem PP_congr (h : ∀ b ∈ l, cg b = cg' b) {v : Nat} : PP cg l v ↔ PP cg' l v := by
  unfold PP
  constructor
  · rintro ⟨b, a, e⟩; exact ⟨b, a, by rw [← h b a]; exact e⟩
  · rintro ⟨b, a, e⟩; exact ⟨b, a, by rw [h b a]; exact e⟩
theorem Few_congr (h : ∀ b ∈ l, cg b = cg' b) {sz : Nat} {g : Nat → Nat} (hf : Few n ord cg l sz g) : Few n ord cg' l sz g := by
  obtain ⟨L, k, a, b, c⟩ := hf
  exact ⟨L, k, a, b, fun x => (c x).trans (NL_congr h x)⟩
theorem Many_congr (h : ∀ b ∈ l, cg b = cg' b) (hf : Many n ord cg l) : Many n ord cg' l := by
  obtain ⟨L, g, k, a, b⟩ := hf
  exact ⟨L, g, k, a, fun x hx => (NL_congr h x).mp (b x hx)⟩
theorem Cpl_congr (h : ∀ b ∈ l, cg b = cg' b) : Cpl cg D l ↔ Cpl cg' D l := by
  unfold Cpl
  refine forall_congr' fun a => forall_congr' fun b => forall_congr' fun ha => forall_congr' fun hb => imp_congr_right fun _ => ?_
  rw [h _ (List.getElem_mem ha), h _ (List.getElem_mem hb)]
theorem PrR_congr {sz : Nat} {g g' T : Nat → Nat} {rb rb' : Nat → Nat → Nat} (hc : ∀ j, j < ctN n → cg j = cg' j) (hl : ∀ b ∈ l, b < ctN n) (hrb : ∀ b ∈ l, ∀ i, i < b → rb b i = rb' b i) (hg : ∀ j, j < sz → g j = g' j) {v k : Nat} (hk : k < sz) (h : PrR p n sz cg g l rb T v k) : PrR p n sz cg' g' l rb' T v k := by
  have hFu : ∀ u, Fu n sz g v k u → Fu n sz g' v k u := by
    intro u ⟨a, b, c, d⟩
    refine ⟨a, by rw [← hg k hk]; exact b, fun j hj => by rw [← hg k hk, ← hg j hj]; exact c j hj, fun w hw ⟨x, y⟩ => d w hw ⟨by rw [hg k hk]; exact x, fun j hj => by rw [hg k hk, hg j hj]; exact y j hj⟩⟩
  rcases h with ⟨j, j1, j2, j3⟩ | ⟨j1, b, b1, b2, b3⟩ | ⟨j1, j2, u, k', c1, c2, c3, c4⟩
  · exact Or.inl ⟨j, j1, by rw [← hg j j1, ← hg k hk]; exact j2, j3⟩
  · refine Or.inr (Or.inl ⟨fun j hj => by rw [← hg j hj, ← hg k hk]; exact j1 j hj, b, b1, by rw [← hc b (hl b b1), ← hg k hk]; exact b2, fun i hi => ?_⟩)
    rw [b3 i hi]
    unfold tB
    rw [hg i hi, rkN_congr _ _ hc]
    by_cases q : rkN cg' (g' i) (ctN n) < b
    · rw [if_pos q, if_pos q, hrb b b1 _ q]
    · rw [if_neg q, if_neg q]
  · exact Or.inr (Or.inr ⟨fun j hj => by rw [← hg j hj, ← hg k hk]; exact j1 j hj, fun b hb => by rw [← hc b (hl b hb), ← hg k hk]; exact j2 b hb, u, k', hFu u c1, c2, by rw [← hg k' c2, ← hg k hk]; exact c3, c4⟩)
theorem PrB_congr {sz : Nat} {g g' T : Nat → Nat} (hg : ∀ j, j < sz → g j = g' j) {v k : Nat} (hk : k < sz) (h : PrB p ord sz g T v k) : PrB p ord sz g' T v k := fun j hj => ⟨(h j hj).1, fun hne => by rw [← hg j hj, ← hg k hk]; exact (h j hj).2 hne⟩
end CONGR
/-- the tails are 0 behind the words, and numbers modulo p -/
theorem RunN.tail {p n sz : Nat} {T : Nat → Nat} {W' H' : List Nat} {A' : Nat → Nat → Nat} : ∀ (q last : Nat) (W H : List Nat) (A : Nat → Nat → Nat), RunN p n sz T q last W H A W' H' A' → (∀ k, k < H.length → ∀ i, i < 40 → A k i < p ∧ (W.length ≤ i → A k i = 0)) → ∀ k, k < H'.length → ∀ i, i < 40 → A' k i < p ∧ (W'.length ≤ i → A' k i = 0) := by
  intro q
  induction q with
  | zero =>
    intro last W H A hR h
    obtain ⟨_, e1, e2, e3⟩ := hR
    rw [e1, e2, e3]; exact h
  | succ q ih =>
    intro last W H A hR h
    obtain ⟨e, _, _, _, _, _, _, hc⟩ := hR
    have hl : ∀ (L : List Nat) (x : Nat), (L ++ [x]).length = L.length + 1 := fun L x => by rw [List.length_append]; rfl
    rcases hc with ⟨a, a1, a2, _, _, a5⟩ | ⟨_, _, a3⟩
    · refine ih e W (H ++ [e]) _ a5 (fun k hk i hi => ?_)
      rw [hl] at hk
      by_cases z : k = H.length
      · rw [if_pos z]; exact ⟨a1 i hi, fun y => a2 i y hi⟩
      · rw [if_neg z]; exact h k (by omega) i hi
    · refine ih e (W ++ [e]) H A a3 (fun k hk i hi => ⟨(h k hk i hi).1, fun y => (h k hk i hi).2 (by rw [hl] at y; omega)⟩)
