/-! text -/
theorem c_clear {σ : rS} {k : Nat} : hit (fX7_clear k σ) (fun _ s => CS s k emS) := by
  unfold fX7_clear
  rw [st_eq, st_eq]
  refine bd_hit (hit_mono (fill_spec 53 k 8 (-1) _ (by decide)) ?_)
  rintro r1 s1 e1
  refine bd_hit (hit_mono (fill_spec 54 k 3 0 _ (by decide)) ?_)
  rintro r2 s2 e2
  refine bd_hit (hit_mono (fill_spec 55 k 8 0 _ (by decide)) ?_)
  rintro r3 s3 e3
  have h53 : ∀ r, r < 8 → s3 53 k r = -1 := fun r hr => by
    rw [e3, wrR_c (by decide), e2, wrR_c (by decide), e1, wrR_eq]
    unfold fillR
    rw [if_pos hr]
  have h54 : ∀ r, r < 3 → s3 54 k r = 0 := fun r hr => by
    rw [e3, wrR_c (by decide), e2, wrR_eq]
    unfold fillR
    rw [if_pos hr]
  have h55 : ∀ r, r < 8 → s3 55 k r = 0 := fun r hr => by
    rw [e3, wrR_eq]
    unfold fillR
    rw [if_pos hr]
  have h70 : s3 7 k 0 = 0 := by
    rw [e3, wrR_c (by decide), e2, wrR_c (by decide), e1, wrR_c (by decide), wr_i (by decide), wr_same]
  have h71 : s3 7 k 1 = 0 := by
    rw [e3, wrR_c (by decide), e2, wrR_c (by decide), e1, wrR_c (by decide), wr_same]
  clear e1 e2 e3
  rw [st_eq, st_eq, st_eq, st_eq, st_eq, st_eq]
  have o : ∀ c, ¬ c = 4 → wr (wr (wr (wr (wr (wr s3 4 (6 * k + 0) 1 0) 4 (6 * k + 1) 1 0) 4 (6 * k + 2) 1 0) 4 (6 * k + 3) 1 0) 4 (6 * k + 4) 1 0) 4 (6 * k + 5) 1 0 c = s3 c := fun c hc => by
    rw [wr_c hc, wr_c hc, wr_c hc, wr_c hc, wr_c hc, wr_c hc]
  have l0 : wr (wr (wr (wr (wr (wr s3 4 (6 * k + 0) 1 0) 4 (6 * k + 1) 1 0) 4 (6 * k + 2) 1 0) 4 (6 * k + 3) 1 0) 4 (6 * k + 4) 1 0) 4 (6 * k + 5) 1 0 4 (6 * k) 1 = 0 := by
    rw [wr_k (by omega), wr_k (by omega), wr_k (by omega), wr_k (by omega), wr_k (by omega)]
    exact wr_same _ _ _ _ _
  have l1 : wr (wr (wr (wr (wr (wr s3 4 (6 * k + 0) 1 0) 4 (6 * k + 1) 1 0) 4 (6 * k + 2) 1 0) 4 (6 * k + 3) 1 0) 4 (6 * k + 4) 1 0) 4 (6 * k + 5) 1 0 4 (6 * k + 1) 1 = 0 := by
    rw [wr_k (by omega), wr_k (by omega), wr_k (by omega), wr_k (by omega)]
    exact wr_same _ _ _ _ _
  have l2 : wr (wr (wr (wr (wr (wr s3 4 (6 * k + 0) 1 0) 4 (6 * k + 1) 1 0) 4 (6 * k + 2) 1 0) 4 (6 * k + 3) 1 0) 4 (6 * k + 4) 1 0) 4 (6 * k + 5) 1 0 4 (6 * k + 2) 1 = 0 := by
    rw [wr_k (by omega), wr_k (by omega), wr_k (by omega)]
    exact wr_same _ _ _ _ _
  have l3 : wr (wr (wr (wr (wr (wr s3 4 (6 * k + 0) 1 0) 4 (6 * k + 1) 1 0) 4 (6 * k + 2) 1 0) 4 (6 * k + 3) 1 0) 4 (6 * k + 4) 1 0) 4 (6 * k + 5) 1 0 4 (6 * k + 3) 1 = 0 := by
    rw [wr_k (by omega), wr_k (by omega)]
    exact wr_same _ _ _ _ _
  have l4 : wr (wr (wr (wr (wr (wr s3 4 (6 * k + 0) 1 0) 4 (6 * k + 1) 1 0) 4 (6 * k + 2) 1 0) 4 (6 * k + 3) 1 0) 4 (6 * k + 4) 1 0) 4 (6 * k + 5) 1 0 4 (6 * k + 4) 1 = 0 := by
    rw [wr_k (by omega)]
    exact wr_same _ _ _ _ _
  have l5 : wr (wr (wr (wr (wr (wr s3 4 (6 * k + 0) 1 0) 4 (6 * k + 1) 1 0) 4 (6 * k + 2) 1 0) 4 (6 * k + 3) 1 0) 4 (6 * k + 4) 1 0) 4 (6 * k + 5) 1 0 4 (6 * k + 5) 1 = 0 := wr_same _ _ _ _ _
  generalize wr (wr (wr (wr (wr (wr s3 4 (6 * k + 0) 1 0) 4 (6 * k + 1) 1 0) 4 (6 * k + 2) 1 0) 4 (6 * k + 3) 1 0) 4 (6 * k + 4) 1 0) 4 (6 * k + 5) 1 0 = u at o l0 l1 l2 l3 l4 l5
  refine hit_some ⟨⟨by rw [o 7 (by decide)]; exact h70, fun i hi => absurd hi (Nat.not_lt_zero _), fun r hr => by rw [o 53 (by decide)]; exact h53 r hr, fun s hs => by rw [o 54 (by decide)]; exact h54 s hs, fun t ht => by rw [o 55 (by decide)]; exact h55 t ht, by rw [o 7 (by decide)]; exact h71, Ln_0 l0, Ln_0 l1, Ln_0 l2⟩, Ln_0 l3, Ln_0 l4, Ln_0 l5⟩
/-- a heap taken -/
def newH (W : Wd) (R : Nat → Nat) : Wd := (emS, wI W, [], R, true, false, [], wC W, wZ W)
def ansH (R : Nat → Nat) : Int32 := nI (R 0) + 2 * nI (R 1) + nI (R 2)
theorem newH_Inv {b : Nat} {W : Wd} {R : Nat → Nat} (h : InvW b W) (hR : ∀ i, i < 4 → hlw i ≤ R i ∧ R i ≤ hhi i) : InvW b (newH W R) :=
  ⟨⟨em_Inv _ _, Nat.zero_le _⟩, fun h => absurd h Bool.false_ne_true, ⟨Nat.zero_le _, fun S (hS : S ∈ ([] : List Sta)) => (List.not_mem_nil hS).elim⟩, ⟨(hR 0 (by decide)).2, (hR 1 (by decide)).2, (hR 2 (by decide)).2, (hR 3 (by decide)).2, fun _ => (hR 0 (by decide)).1⟩, fun h => absurd h Bool.false_ne_true, ⟨Nat.zero_le _, fun x (hx : x ∈ ([] : List Nat)) => (List.not_mem_nil hx).elim⟩, h.2.2.2.2.2.2⟩
theorem c_takeHeap {σ : rS} {W : Wd} {b : Nat} (hC : CW σ W) (hI : InvW b W) : hit (fX9_takeHeap σ) (fun r s => match hpV (wT W) with
    | .inl _ => r = -1 ∧ CW s W
    | .inr R => r = ansH R ∧ CW s (newH W R)) := by
  have hok := hpV_ok hI.2.2.2.2.2.1.2
  have h240 := hI.2.2.2.2.2.1.1
  unfold fX9_takeHeap
  refine bd_hit (hit_mono (c_readHeap (hC.tp hI)) ?_)
  rintro r1 s1 ⟨h1, f1⟩
  generalize hpV (wT W) = V at hok h1 ⊢
  cases V with
  | inl f =>
    have h1 : r1 = nI f := h1
    have hok : f ≤ (wT W).length := hok
    rw [if_neg (show ¬ r1 = -1 by rw [h1, pn_m1 (by omega)]; exact id)]
    exact hit_some ⟨rfl, hC.rdr (fun c h6 h26 _ => f1 c h6 h26)⟩
  | inr R =>
    obtain ⟨rfl, h26⟩ : r1 = -1 ∧ ∀ i, i < 4 → s1 26 0 i = nI (R i) := h1
    rw [if_pos rfl]
    unfold bcp
    rw [if_neg (by decide), st_eq, st_eq, st_eq, st_eq]
    have eg : ∀ i, i < 4 → va_cpy (s1 26 0) (s1 20 0) (ix 0) (ix 0) (ix 4) i = nI (R i) := fun i hi => by
      rw [show ix 0 = 0 from rfl, show ix 4 = 4 from rfl, cpy_lt hi]
      exact h26 i hi
    generalize va_cpy (s1 26 0) (s1 20 0) (ix 0) (ix 0) (ix 4) = g at eg
    have a20 : ∀ i, i < 4 → wr (wr (wr (wrR s1 20 0 g) 8 0 1 0) 9 0 6 1) 9 0 7 0 20 0 i = nI (R i) := fun i hi => by
      rw [wr_c (by decide), wr_c (by decide), wr_c (by decide), wrR_eq]; exact eg i hi
    have a8 : wr (wr (wr (wrR s1 20 0 g) 8 0 1 0) 9 0 6 1) 9 0 7 0 8 0 1 = 0 := by
      rw [wr_c (by decide), wr_c (by decide), wr_same]
    have a96 : wr (wr (wr (wrR s1 20 0 g) 8 0 1 0) 9 0 6 1) 9 0 7 0 9 0 6 = 1 := by
      rw [wr_i (by decide), wr_same]
    have a97 : wr (wr (wr (wrR s1 20 0 g) 8 0 1 0) 9 0 6 1) 9 0 7 0 9 0 7 = 0 := wr_same _ _ _ _ _
    have a94 : wr (wr (wr (wrR s1 20 0 g) 8 0 1 0) 9 0 6 1) 9 0 7 0 9 0 4 = σ 9 0 4 := by
      rw [wr_i (by decide), wr_i (by decide), wr_c (by decide), wrR_c (by decide), f1 9 (by decide) (by decide)]
    have ao : ∀ c, c = 5 ∨ c = 21 ∨ c = 22 ∨ c = 24 → wr (wr (wr (wrR s1 20 0 g) 8 0 1 0) 9 0 6 1) 9 0 7 0 c = σ c := fun c hc => by
      rw [wr_c (by omega), wr_c (by omega), wr_c (by omega), wrR_c (by omega), f1 c (by omega) (by omega)]
    generalize wr (wr (wr (wrR s1 20 0 g) 8 0 1 0) 9 0 6 1) 9 0 7 0 = u at a20 a8 a96 a97 a94 ao
    refine bd_hit (hit_mono (hit_fr (frX7_clear 0 u) (c_clear (k := 0))) ?_)
    rintro r2 s2 ⟨f2, hS⟩
    rw [st_eq]
    have b20 : ∀ i, i < 4 → wr s2 5 0 2 0 20 0 i = nI (R i) := fun i hi => by rw [wr_c (by decide), f2 20 (by decide)]; exact a20 i hi
    obtain ⟨nx, n1, n2, -, -⟩ := hC.2.2.1
    refine hit_some ⟨?_, hS.wr (by decide), fun z => absurd z Bool.false_ne_true, ⟨nx, n1, ?_, wr_same _ _ _ _ _, fun i hi => absurd hi (Nat.not_lt_zero _)⟩, b20, ?_, ?_, ⟨?_, fun i hi => absurd hi (Nat.not_lt_zero _)⟩, ?_, ?_⟩
    · rw [show ix 0 = 0 from rfl, show ix 1 = 1 from rfl, show ix 2 = 2 from rfl, b20 0 (by decide), b20 1 (by decide), b20 2 (by decide)]
      rfl
    · rw [wr_i (by decide), f2 5 (by decide), ao 5 (by omega)]; exact n2
    · rw [wr_c (by decide), f2 9 (by decide), a96]; rfl
    · rw [wr_c (by decide), f2 9 (by decide), a97]; rfl
    · rw [wr_c (by decide), f2 8 (by decide), a8]; rfl
    · rw [wr_c (by decide), wr_c (by decide), wr_c (by decide), f2 9 (by decide), f2 21 (by decide), f2 24 (by decide), a94, ao 21 (by omega), ao 24 (by omega)]
      exact hC.2.2.2.2.2.2.2.1
    · rw [wr_c (by decide), f2 22 (by decide), ao 22 (by omega)]
      exact hC.2.2.2.2.2.2.2.2
theorem m_textH {σ : rS} {W : Wd} {b : Nat} (hM : MW σ W) (hI : InvW b W) : hit (fX10_text_j28 0 σ) (fun r s => match hpV (wT W) with
    | .inl _ => r = -1 ∧ MW s W
    | .inr R => r = ansH R ∧ MW s (newH W R)) := by
  have hok := hpV_ok hI.2.2.2.2.2.1.2
  have h240 := hI.2.2.2.2.2.1.1
  unfold fX10_text_j28
  refine bd_hit (hit_mono (m_fault (x := 0) (hM.tp hI)) ?_)
  rintro r1 s1 ⟨h0, h1, -, gf⟩
  have h1 := h1 rfl
  unfold fltA at h0
  rw [if_pos rfl] at h0
  have hM1 := hM.rdr hI gf
  generalize hpV (wT W) = V at hok h0 h1 ⊢
  cases V with
  | inl f =>
    have h0 : r1 = nI f := h0
    have hok : f ≤ (wT W).length := hok
    rw [if_neg (show ¬ r1 = -1 by rw [h0, pn_m1 (by omega)]; exact id)]
    exact hit_some ⟨rfl, hM1⟩
  | inr R =>
    have h0 : r1 = -1 := h0
    obtain ⟨-, h61⟩ : s1 10 0 4 = -1 ∧ ∀ i, i < 4 → s1 61 0 i = nI (R i) := h1
    rw [if_pos h0, st_eq, if_neg (show ¬ (0 : Int32) = 1 by decide)]
    have lp1 : hit (lp (fun (x : Int32) σ => fX10_text_L122 x σ) fu 0 (wr s1 10 0 2 0)) (fun _ s => (∀ i, i < 4 → s 62 0 i = nI (R i)) ∧ ∀ c, ¬ c = 62 → s c = wr s1 10 0 2 0 c) := by
      refine lp_go (I := fun m x s => ∃ j, j ≤ 4 ∧ m = 4 - j ∧ x = nI j ∧ (∀ i, i < j → s 62 0 i = nI (R i)) ∧ ∀ c, ¬ c = 62 → s c = wr s1 10 0 2 0 c) ?_ fu 4 _ _ (fu_lt (by omega)) ⟨0, by omega, rfl, rfl, fun i hi => absurd hi (Nat.not_lt_zero _), fun _ _ => rfl⟩
      rintro m x s ⟨j, hj, rfl, rfl, hg, ho⟩
      unfold fX10_text_L122
      by_cases c : j < 4
      · rw [if_pos (show nI j < 4 by rw [pn_lt4 (by omega)]; exact c), pn_bnd c (by omega), pn_bnd c (by omega), st_eq, ix_nI (by omega), pn_add1, ho 61 (by decide), wr_c (show ¬ 61 = 10 by decide), h61 j c]
        refine hit_some ⟨4 - (j + 1), by omega, j + 1, by omega, rfl, rfl, fun i hi => ?_, fun c hc => by rw [wr_c hc]; exact ho c hc⟩
        by_cases z : i = j
        · subst z; exact wr_same _ _ _ _ _
        · rw [wr_i z]; exact hg i (by omega)
      · rw [if_neg (show ¬ nI j < 4 by rw [pn_lt4 (by omega)]; exact c)]
        exact hit_some ⟨fun i hi => hg i (by omega), ho⟩
    refine bd_hit (hit_mono lp1 ?_)
    rintro r2 s2 ⟨g2, o2⟩
    have lp2 : hit (lp (fun (x : Int32) σ => fX10_text_L147 x σ) fu 0 s2) (fun _ s => (∀ i, i < 1554 → s 66 0 i = 0) ∧ ∀ c, ¬ c = 66 → s c = s2 c) := by
      refine lp_go (I := fun m x s => ∃ j, j ≤ 1554 ∧ m = 1554 - j ∧ x = nI j ∧ (∀ i, i < j → s 66 0 i = 0) ∧ ∀ c, ¬ c = 66 → s c = s2 c) ?_ fu 1554 _ _ (fu_lt (by omega)) ⟨0, by omega, rfl, rfl, fun i hi => absurd hi (Nat.not_lt_zero _), fun _ _ => rfl⟩
      rintro m x s ⟨j, hj, rfl, rfl, hg, ho⟩
      unfold fX10_text_L147
      have cl : (nI j < 1554) = (j < 1554) := pn_lt (b := 1554) (by omega) (by omega)
      by_cases c : j < 1554
      · rw [if_pos (show nI j < 1554 by rw [cl]; exact c), pn_bnd c (by omega), st_eq, ix_nI (by omega), pn_add1]
        refine hit_some ⟨1554 - (j + 1), by omega, j + 1, by omega, rfl, rfl, fun i hi => ?_, fun c hc => by rw [wr_c hc]; exact ho c hc⟩
        by_cases z : i = j
        · subst z; exact wr_same _ _ _ _ _
        · rw [wr_i z]; exact hg i (by omega)
      · rw [if_neg (show ¬ nI j < 1554 by rw [cl]; exact c)]
        exact hit_some ⟨fun i hi => hg i (by omega), ho⟩
    refine bd_hit (hit_mono lp2 ?_)
    rintro r3 s3 ⟨g3, o3⟩
    rw [st_eq, st_eq, st_eq]
    have w : ∀ c, ¬ c = 10 → wr (wr (wr s3 10 0 11 1) 10 0 18 0) 10 0 19 0 c = s3 c := fun c hc => by rw [wr_c hc, wr_c hc, wr_c hc]
    have w10 : ∀ i, ¬ i = 2 → ¬ i = 11 → ¬ i = 18 → ¬ i = 19 → wr (wr (wr s3 10 0 11 1) 10 0 18 0) 10 0 19 0 10 0 i = s1 10 0 i := fun i h2 h11 h18 h19 => by
      rw [wr_i h19, wr_i h18, wr_i h11, o3 10 (by decide), o2 10 (by decide), wr_i h2]
    have w2 : wr (wr (wr s3 10 0 11 1) 10 0 18 0) 10 0 19 0 10 0 2 = 0 := by
      rw [wr_i (by decide), wr_i (by decide), wr_i (by decide), o3 10 (by decide), o2 10 (by decide), wr_same]
    have w11 : wr (wr (wr s3 10 0 11 1) 10 0 18 0) 10 0 19 0 10 0 11 = 1 := by
      rw [wr_i (by decide), wr_i (by decide), wr_same]
    have w18 : wr (wr (wr s3 10 0 11 1) 10 0 18 0) 10 0 19 0 10 0 18 = 0 := by
      rw [wr_i (by decide), wr_same]
    have w19 : wr (wr (wr s3 10 0 11 1) 10 0 18 0) 10 0 19 0 10 0 19 = 0 := wr_same _ _ _ _ _
    generalize wr (wr (wr s3 10 0 11 1) 10 0 18 0) 10 0 19 0 = u at w w10 w2 w11 w18 w19
    have u62 : ∀ i, i < 4 → u 62 0 i = nI (R i) := fun i hi => by rw [w 62 (by decide), o3 62 (by decide)]; exact g2 i hi
    have u66 : ∀ i, i < 1554 → u 66 0 i = 0 := fun i hi => by rw [w 66 (by decide)]; exact g3 i hi
    have uo : ∀ c, c = 63 ∨ c = 64 ∨ c = 65 → u c = s1 c := fun c hc => by
      rw [w c (by omega), o3 c (by omega), o2 c (by omega), wr_c (by omega)]
    obtain ⟨fi, f1, f2, -, -⟩ := hM1.2.2.1
    refine hit_some ⟨?_, ⟨⟨u66 _ (by decide), fun i hi => absurd hi (Nat.not_lt_zero _), fun r hr => u66 _ (by omega), ⟨u66 _ (by decide), fun i hi => absurd hi (Nat.not_lt_zero _)⟩, ⟨u66 _ (by decide), fun i hi => absurd hi (Nat.not_lt_zero _)⟩, ⟨u66 _ (by decide), fun i hi => absurd hi (Nat.not_lt_zero _)⟩, fun t ht => u66 _ (by omega), u66 _ (by decide)⟩, u66 _ (by decide), fun i hi => absurd hi (Nat.not_lt_zero _)⟩, fun z => absurd z Bool.false_ne_true, ⟨fi, f1, ?_, w18, fun i hi => absurd hi (Nat.not_lt_zero _)⟩, u62, w11, w19, ⟨w2, fun i hi => absurd hi (Nat.not_lt_zero _)⟩, ?_, ?_⟩
    · rw [show ix 0 = 0 from rfl, show ix 1 = 1 from rfl, show ix 2 = 2 from rfl, u62 0 (by decide), u62 1 (by decide), u62 2 (by decide)]
      rfl
    · rw [w10 17 (by decide) (by decide) (by decide) (by decide)]; exact f2
    · rw [w10 10 (by decide) (by decide) (by decide) (by decide), uo 65 (by omega), uo 64 (by omega)]
      exact hM1.2.2.2.2.2.2.2.1
    · rw [uo 63 (by omega)]
      exact hM1.2.2.2.2.2.2.2.2
/-- a script taken -/
def addC (W : Wd) (q : Nat × (Nat → Int32)) : Wd := (wS W, wI W, wP W, wR W, wh W, wg W, [], wC W ++ [q], wZ W)
theorem addC_Inv {b : Nat} {W : Wd} {q : Nat × (Nat → Int32)} (h : InvW b W) (hl : (wC W).length < 4) (hq : InvC q) : InvW b (addC W q) :=
  ⟨h.1, h.2.1, h.2.2.1, h.2.2.2.1, h.2.2.2.2.1, ⟨Nat.zero_le _, fun x (hx : x ∈ ([] : List Nat)) => (List.not_mem_nil hx).elim⟩, by show (wC W ++ [q]).length ≤ 4; rw [List.length_append]; exact hl, fun z (hz : z ∈ wC W ++ [q]) => by
    rcases List.mem_append.mp hz with hz | hz
    · exact h.2.2.2.2.2.2.2 z hz
    · rw [List.mem_singleton.mp hz]; exact hq⟩
theorem getD_app1 {α : Type} {L : List α} {q d : α} {s : Nat} (h : s < L.length) : (L ++ [q]).getD s d = L.getD s d := by
  rw [List.getD_eq_getElem?_getD, List.getD_eq_getElem?_getD, List.getElem?_append_left h]
theorem getD_app2 {α : Type} {L : List α} {q d : α} : (L ++ [q]).getD L.length d = q := by
  rw [List.getD_eq_getElem?_getD, List.getElem?_append_right (Nat.le_refl _), Nat.sub_self]
  rfl
theorem c_takeScript {σ : rS} {W : Wd} {b : Nat} (hC : CW σ W) (hI : InvW b W) : hit (fX9_takeScript σ) (fun r s => if (wC W).length = 4 then r = -1 ∧ CW s W else match scV (wT W) with
    | .inl _ => r = -1 ∧ CW s W
    | .inr q => r = nI (wC W).length ∧ CW s (addC W q)) := by
  have hok := scV_ok hI.2.2.2.2.2.1.2
  have h240 := hI.2.2.2.2.2.1.1
  have h4 := hI.2.2.2.2.2.2.1
  unfold fX9_takeScript
  rw [hC.cl]
  by_cases c4 : (wC W).length = 4
  · rw [if_neg (show ¬ nI (wC W).length < 4 by rw [pn_lt4 (by omega)]; omega)]
    refine hit_some ?_
    rw [if_pos c4]
    exact ⟨rfl, hC⟩
  · have hlt : (wC W).length < 4 := by omega
    rw [if_pos (show nI (wC W).length < 4 by rw [pn_lt4 (by omega)]; exact hlt)]
    refine bd_hit (hit_mono (c_readScript (hC.tp hI)) ?_)
    rintro r1 s1 ⟨h1, f1⟩
    simp only [if_neg c4]
    have hC1 : CW s1 W := hC.rdr (fun c h6 _ h27 => f1 c h6 h27)
    generalize scV (wT W) = V at hok h1 ⊢
    cases V with
    | inl f =>
      have h1 : r1 = nI f := h1
      have hok : f ≤ (wT W).length := hok
      rw [if_neg (show ¬ r1 = -1 by rw [h1, pn_m1 (by omega)]; exact id)]
      exact hit_some ⟨rfl, hC1⟩
    | inr q =>
      obtain ⟨rfl, h3, h27⟩ : r1 = -1 ∧ s1 6 0 3 = nI q.1 ∧ ∀ i, i < 5 * q.1 → s1 27 0 i = q.2 i := h1
      obtain ⟨q1, q2, -⟩ : InvC q := hok
      rw [if_pos rfl, hC1.cl]
      generalize hl : (wC W).length = l at hlt c4 h4
      rw [pn_bnd hlt (by omega)]
      unfold bcp
      rw [if_neg (by decide), st_eq, ix_nI (by omega), wrR_c (show ¬ 9 = 24 by decide), hC1.cl, hl, pn_bnd hlt (by omega), st_eq, ix_nI (by omega), wrR_c (show ¬ 6 = 24 by decide), h3, st_eq, st_eq]
      have eg : ∀ i, i < 80 → va_cpy (s1 27 0) (s1 24 l) (ix 0) (ix 0) (ix 80) i = s1 27 0 i := fun i hi => by
        rw [show ix 0 = 0 from rfl, show ix 80 = 80 from rfl, cpy_lt hi]
      generalize va_cpy (s1 27 0) (s1 24 l) (ix 0) (ix 0) (ix 80) = g at eg
      have e94 : wr (wr (wrR s1 24 l g) 21 0 l (nI q.1)) 8 0 1 0 9 0 4 = nI l := by
        rw [wr_c (by decide), wr_c (by decide), wrR_c (by decide), hC1.cl, hl]
      rw [e94, pn_add1, wr_same, pn_sub1 (by omega), Nat.add_sub_cancel]
      have o : ∀ c, ¬ c = 9 → ¬ c = 8 → ¬ c = 21 → ¬ c = 24 → wr (wr (wr (wrR s1 24 l g) 21 0 l (nI q.1)) 8 0 1 0) 9 0 4 (nI (l + 1)) c = s1 c := fun c h9 h8 h21 h24 => by
        rw [wr_c h9, wr_c h8, wr_c h21, wrR_c h24]
      have o9 : ∀ i, ¬ i = 4 → wr (wr (wr (wrR s1 24 l g) 21 0 l (nI q.1)) 8 0 1 0) 9 0 4 (nI (l + 1)) 9 0 i = s1 9 0 i := fun i hi => by
        rw [wr_i hi, wr_c (by decide), wr_c (by decide), wrR_c (by decide)]
      have o94 : wr (wr (wr (wrR s1 24 l g) 21 0 l (nI q.1)) 8 0 1 0) 9 0 4 (nI (l + 1)) 9 0 4 = nI (l + 1) := wr_same _ _ _ _ _
      have o8 : wr (wr (wr (wrR s1 24 l g) 21 0 l (nI q.1)) 8 0 1 0) 9 0 4 (nI (l + 1)) 8 0 1 = 0 := by
        rw [wr_c (by decide), wr_same]
      have o21 : ∀ i, ¬ i = l → wr (wr (wr (wrR s1 24 l g) 21 0 l (nI q.1)) 8 0 1 0) 9 0 4 (nI (l + 1)) 21 0 i = s1 21 0 i := fun i hi => by
        rw [wr_c (by decide), wr_c (by decide), wr_i hi, wrR_c (by decide)]
      have o21l : wr (wr (wr (wrR s1 24 l g) 21 0 l (nI q.1)) 8 0 1 0) 9 0 4 (nI (l + 1)) 21 0 l = nI q.1 := by
        rw [wr_c (by decide), wr_c (by decide), wr_same]
      have o24 : ∀ i, ¬ i = l → wr (wr (wr (wrR s1 24 l g) 21 0 l (nI q.1)) 8 0 1 0) 9 0 4 (nI (l + 1)) 24 i = s1 24 i := fun i hi => by
        rw [wr_c (by decide), wr_c (by decide), wr_c (by decide), wrR_k hi]
      have o24l : wr (wr (wr (wrR s1 24 l g) 21 0 l (nI q.1)) 8 0 1 0) 9 0 4 (nI (l + 1)) 24 l = g := by
        rw [wr_c (by decide), wr_c (by decide), wr_c (by decide), wrR_eq]
      generalize wr (wr (wr (wrR s1 24 l g) 21 0 l (nI q.1)) 8 0 1 0) 9 0 4 (nI (l + 1)) = u at o o9 o94 o8 o21 o21l o24 o24l
      have oo : ∀ c, c = 5 ∨ c = 29 ∨ c = 20 ∨ c = 22 ∨ c = 7 ∨ c = 4 ∨ c = 28 ∨ (45 ≤ c ∧ c < 56) → u c = s1 c := fun c hc => o c (by omega) (by omega) (by omega) (by omega)
      have eS : ∀ (k : Nat) (S : Sta), CS s1 k S → CS u k S := fun k S hS => hS.of_eq (by rw [oo 7 (by omega)]) (fun c h1 h2 => by rw [oo c (by omega)]) (fun j _ => by rw [oo 4 (by omega), oo 28 (by omega)]; exact ⟨rfl, rfl⟩)
      refine hit_some ⟨rfl, eS _ _ hC1.1, fun z => eS _ _ (hC1.2.1 z), hC1.2.2.1.keep (oo 5 (by omega)) (oo 29 (by omega)) (fun q S hS => eS _ _ hS), ?_, ?_, ?_, ⟨o8, fun i hi => absurd hi (Nat.not_lt_zero _)⟩, ⟨?_, fun s hs => ?_⟩, ?_⟩
      · rw [oo 20 (by omega)]; exact hC1.2.2.2.1
      · rw [o9 6 (by decide)]; exact hC1.h
      · rw [o9 7 (by decide)]; exact hC1.g
      · rw [o94]
        show nI (l + 1) = nI (wC W ++ [q]).length
        rw [List.length_append, hl]
        rfl
      · have hs : s < (wC W ++ [q]).length := hs
        rw [List.length_append, hl] at hs
        have hs : s < l + 1 := hs
        show u 21 0 s = nI ((wC W ++ [q]).getD s noC).1 ∧ ∀ i, i < 5 * ((wC W ++ [q]).getD s noC).1 → u 24 s i = ((wC W ++ [q]).getD s noC).2 i
        by_cases z : s = l
        · rw [z, o21l, o24l, ← hl, getD_app2]
          exact ⟨rfl, fun i hi => by rw [eg i (by omega)]; exact h27 i hi⟩
        · rw [o21 s z, o24 s z, getD_app1 (by omega)]
          exact hC1.ci (by omega)
      · rw [oo 22 (by omega)]; exact hC1.2.2.2.2.2.2.2.2
theorem m_textS {σ : rS} {W : Wd} {b : Nat} (hM : MW σ W) (hI : InvW b W) (hlt : (wC W).length < 4) : hit (fX10_text_j28 1 σ) (fun r s => match scV (wT W) with
    | .inl _ => r = -1 ∧ MW s W
    | .inr q => r = nI (wC W).length ∧ MW s (addC W q)) := by
  have hok := scV_ok hI.2.2.2.2.2.1.2
  have h240 := hI.2.2.2.2.2.1.1
  unfold fX10_text_j28
  refine bd_hit (hit_mono (m_fault (x := 1) (hM.tp hI)) ?_)
  rintro r1 s1 ⟨h0, -, h1, gf⟩
  have h1 := h1 rfl
  unfold fltA at h0
  rw [if_neg (by decide), if_pos rfl] at h0
  have hM1 := hM.rdr hI gf
  generalize scV (wT W) = V at hok h0 h1 ⊢
  cases V with
  | inl f =>
    have h0 : r1 = nI f := h0
    have hok : f ≤ (wT W).length := hok
    rw [if_neg (show ¬ r1 = -1 by rw [h0, pn_m1 (by omega)]; exact id)]
    exact hit_some ⟨rfl, hM1⟩
  | inr q =>
    have h0 : r1 = -1 := h0
    obtain ⟨-, h65, h64⟩ : s1 10 0 4 = -1 ∧ s1 65 0 4 = nI q.1 ∧ ∀ i, i < 5 * q.1 → s1 64 0 (320 + i) = q.2 i := h1
    obtain ⟨q1, q2, -⟩ : InvC q := hok
    rw [if_pos h0, st_eq, if_pos rfl]
    generalize hl : (wC W).length = l at hlt
    have e10 : s1 10 0 10 = nI l := by rw [hM1.cl, hl]
    have lp1 : hit (lp (fun (x : Int32) σ => fX10_text_L54 80 x σ) fu 0 (wr s1 10 0 2 0)) (fun _ s => (∀ i, i < 80 → s 64 0 (80 * l + i) = s1 64 0 (320 + i)) ∧ (∀ y, y < 80 * l → s 64 0 y = s1 64 0 y) ∧ ∀ c, ¬ c = 64 → s c = wr s1 10 0 2 0 c) := by
      refine lp_go (I := fun m x s => ∃ j, j ≤ 80 ∧ m = 80 - j ∧ x = nI j ∧ (∀ i, i < j → s 64 0 (80 * l + i) = s1 64 0 (320 + i)) ∧ (∀ y, y < 80 * l ∨ 320 ≤ y → s 64 0 y = s1 64 0 y) ∧ ∀ c, ¬ c = 64 → s c = wr s1 10 0 2 0 c) ?_ fu 80 _ _ (fu_lt (by omega)) ⟨0, by omega, rfl, rfl, fun i hi => absurd hi (Nat.not_lt_zero _), fun y _ => by rw [wr_c (by decide)], fun _ _ => rfl⟩
      rintro m x s ⟨j, hj, rfl, rfl, hg, hy, ho⟩
      have es : s 10 0 10 = nI l := by rw [ho 10 (by decide), wr_i (by decide)]; exact e10
      unfold fX10_text_L54
      have cl : (nI j < 80) = (j < 80) := pn_lt80 (by omega)
      have i1 : (80 : Int32) * 4 + nI j = nI (320 + j) := by rw [show (80 : Int32) * 4 = nI 320 by decide, nI_add]
      have i2 : (80 : Int32) * nI l + nI j = nI (80 * l + j) := by rw [show (80 : Int32) * nI l = nI (80 * l) from (Int32.ofNat_mul 80 l).symm, nI_add]
      by_cases c : j < 80
      · rw [if_pos (show nI j < 80 by rw [cl]; exact c), i1, es, i2, pn_bnd (by omega) (by omega), pn_bnd (by omega) (by omega), st_eq, ix_nI (by omega), ix_nI (by omega), pn_add1, hy (320 + j) (by omega)]
        refine hit_some ⟨80 - (j + 1), by omega, j + 1, by omega, rfl, rfl, fun i hi => ?_, fun y h => by rw [wr_i (by omega)]; exact hy y h, fun c hc => by rw [wr_c hc]; exact ho c hc⟩
        by_cases z : i = j
        · subst z; exact wr_same _ _ _ _ _
        · rw [wr_i (by omega)]; exact hg i (by omega)
      · rw [if_neg (show ¬ nI j < 80 by rw [cl]; exact c)]
        exact hit_some ⟨fun i hi => hg i (by omega), fun y h => hy y (Or.inl h), ho⟩
    refine bd_hit (hit_mono lp1 ?_)
    rintro r2 s2 ⟨g2, y2, o2⟩
    have e2 : s2 10 0 10 = nI l := by rw [o2 10 (by decide), wr_i (by decide)]; exact e10
    have e65 : s2 65 0 (ix 4) = nI q.1 := by rw [show ix 4 = 4 from rfl, o2 65 (by decide), wr_c (by decide)]; exact h65
    rw [e2, pn_bnd (by omega) (by omega), st_eq, ix_nI (by omega), e65, wr_c (show ¬ 10 = 65 by decide), e2, pn_add1, st_eq, wr_same, pn_sub1 (by omega), Nat.add_sub_cancel]
    have w : ∀ c, ¬ c = 10 → ¬ c = 65 → wr (wr s2 65 0 l (nI q.1)) 10 0 10 (nI (l + 1)) c = s2 c := fun c hc h5 => by rw [wr_c hc, wr_c h5]
    have w10 : ∀ i, ¬ i = 2 → ¬ i = 10 → wr (wr s2 65 0 l (nI q.1)) 10 0 10 (nI (l + 1)) 10 0 i = s1 10 0 i := fun i h2 h10 => by
      rw [wr_i h10, wr_c (by decide), o2 10 (by decide), wr_i h2]
    have w2 : wr (wr s2 65 0 l (nI q.1)) 10 0 10 (nI (l + 1)) 10 0 2 = 0 := by
      rw [wr_i (by decide), wr_c (by decide), o2 10 (by decide), wr_same]
    have wa : wr (wr s2 65 0 l (nI q.1)) 10 0 10 (nI (l + 1)) 10 0 10 = nI (l + 1) := wr_same _ _ _ _ _
    have w65 : ∀ i, ¬ i = l → wr (wr s2 65 0 l (nI q.1)) 10 0 10 (nI (l + 1)) 65 0 i = s1 65 0 i := fun i hi => by
      rw [wr_c (by decide), wr_i hi, o2 65 (by decide), wr_c (by decide)]
    have w65l : wr (wr s2 65 0 l (nI q.1)) 10 0 10 (nI (l + 1)) 65 0 l = nI q.1 := by
      rw [wr_c (by decide), wr_same]
    generalize wr (wr s2 65 0 l (nI q.1)) 10 0 10 (nI (l + 1)) = u at w w10 w2 wa w65 w65l
    have uo : ∀ c, c = 62 ∨ c = 63 ∨ c = 66 ∨ c = 67 → u c = s1 c := fun c hc => by
      rw [w c (by omega) (by omega), o2 c (by omega), wr_c (by omega)]
    have u64 : u 64 = s2 64 := w 64 (by decide) (by decide)
    refine hit_some ⟨rfl, ?_, fun z => ?_, hM1.2.2.1.keep (w10 17 (by decide) (by decide)) (w10 18 (by decide) (by decide)) (uo 67 (by omega)), ?_, ?_, ?_, ⟨w2, fun i hi => absurd hi (Nat.not_lt_zero _)⟩, ⟨?_, fun s hs => ?_⟩, ?_⟩
    · rw [uo 66 (by omega)]; exact hM1.1
    · rw [uo 66 (by omega)]; exact hM1.2.1 z
    · rw [uo 62 (by omega)]; exact hM1.2.2.2.1
    · rw [w10 11 (by decide) (by decide)]; exact hM1.h
    · rw [w10 19 (by decide) (by decide)]; exact hM1.g
    · rw [wa]
      show nI (l + 1) = nI (wC W ++ [q]).length
      rw [List.length_append, hl]
      rfl
    · have hs : s < (wC W ++ [q]).length := hs
      rw [List.length_append, hl] at hs
      have hs : s < l + 1 := hs
      show u 65 0 s = nI ((wC W ++ [q]).getD s noC).1 ∧ ∀ i, i < 5 * ((wC W ++ [q]).getD s noC).1 → u 64 0 (80 * s + i) = ((wC W ++ [q]).getD s noC).2 i
      by_cases z : s = l
      · rw [z, w65l, u64, ← hl, getD_app2, hl]
        exact ⟨rfl, fun i hi => by rw [g2 i (by omega)]; exact h64 i hi⟩
      · have hsl : s < (wC W).length := by omega
        rw [w65 s z, u64, getD_app1 hsl]
        have hc := hM1.ci hsl
        have h16 := (hI.2.2.2.2.2.2.2 _ (getD_mem' (d := noC) hsl)).2.1
        exact ⟨hc.1, fun i hi => by rw [y2 (80 * s + i) (by omega)]; exact hc.2 i hi⟩
    · rw [uo 63 (by omega)]; exact hM1.2.2.2.2.2.2.2.2
theorem pl_3 {xs : Nat → Int32} {n : Nat} {σ : rS} {W : Wd} (hC : CW σ W) (hM : MW σ W) (hI : InvW (40 * n) W) : PL_3 xs n σ (IW (n + 1)) := by
  unfold PL_3
  generalize xs (6 * n + 1) = x
  have key : ∀ (a : Int32) (W' : Wd), InvW (40 * (n + 1)) W' → hit (fX9_text x σ) (fun r s => r = a ∧ CW s W') → (∀ s, MW s W → hit (fX10_text x s) (fun r t => r = a ∧ MW t W')) → ∃ r σ1 σ2, fX9_text x σ = some (r, σ1) ∧ fX10_text x σ1 = some (r, σ2) ∧ IW (n + 1) σ2 := fun a W' hI' hc hm => pl_mk (W' := W') (a := a) (fc := fun σ => fX9_text x σ) (fm := fun σ => fX10_text x σ) hM hc (frX9_text _ _) (isC_of (by decide)) hm (fun s => frX10_text _ s) (isM_of (by decide)) hI'
  by_cases a : x = 0
  · subst a
    have hok := hpV_ok hI.2.2.2.2.2.1.2
    have hc := c_takeHeap hC hI
    have hm : ∀ s, MW s W → hit (fX10_text_j28 0 (wr s 10 0 0 0)) (fun r s => match hpV (wT W) with
      | .inl _ => r = -1 ∧ MW s W
      | .inr R => r = ansH R ∧ MW s (newH W R)) := fun s hs => m_textH (hs.t0 0) hI
    have ec : fX9_text 0 σ = bd (fX9_takeHeap σ) (fun r3 σ4 => some (r3, σ4)) := by unfold fX9_text; rw [if_pos rfl]
    have em : ∀ s, fX10_text 0 s = fX10_text_j28 0 (wr s 10 0 0 0) := fun s => by
      unfold fX10_text
      rw [st_eq, isIn01, bd_some, if_pos (show (0 : Int32) = 0 ∨ (0 : Int32) = 1 from Or.inl rfl), if_neg (show ¬ (1 : Int32) = 0 by decide), if_neg (show ¬ (0 : Int32) = 1 by decide)]
    generalize hpV (wT W) = V at hok hc hm
    cases V with
    | inl f => exact key (-1) W hI.next (by rw [ec]; exact bd_hit (hit_mono hc (fun r s h => hit_some h))) (fun s hs => by rw [em]; exact hm s hs)
    | inr R => exact key (ansH R) (newH W R) (newH_Inv hI.next hok) (by rw [ec]; exact bd_hit (hit_mono hc (fun r s h => hit_some h))) (fun s hs => by rw [em]; exact hm s hs)
  · by_cases b : x = 1
    · subst b
      have hok := scV_ok hI.2.2.2.2.2.1.2
      have h4 := hI.2.2.2.2.2.2.1
      have hc := c_takeScript hC hI
      have ec : fX9_text 1 σ = bd (fX9_takeScript σ) (fun r3 σ4 => some (r3, σ4)) := by unfold fX9_text; rw [if_neg a, if_pos rfl]
      have em : ∀ s, MW s W → fX10_text 1 s = if (wC W).length = 4 then some (-1, wr s 10 0 0 0) else fX10_text_j28 1 (wr s 10 0 0 0) := fun s hs => by
        unfold fX10_text
        have e4 : (nI (wC W).length = 4) = ((wC W).length = 4) := pn_eq (b := 4) (by omega) (by omega)
        rw [st_eq, isIn01, bd_some, if_pos (show (1 : Int32) = 0 ∨ (1 : Int32) = 1 from Or.inr rfl), if_neg (show ¬ (1 : Int32) = 0 by decide), if_pos rfl, (hs.t0 0).cl]
        simp only [e4]
      by_cases c4 : (wC W).length = 4
      · simp only [if_pos c4] at hc em
        exact key (-1) W hI.next (by rw [ec]; exact bd_hit (hit_mono hc (fun r s h => hit_some h))) (fun s hs => by rw [em s hs]; exact hit_some ⟨rfl, hs.t0 0⟩)
      · simp only [if_neg c4] at hc em
        have hm : ∀ s, MW s W → hit (fX10_text_j28 1 (wr s 10 0 0 0)) (fun r s => match scV (wT W) with
          | .inl _ => r = -1 ∧ MW s W
          | .inr q => r = nI (wC W).length ∧ MW s (addC W q)) := fun s hs => m_textS (hs.t0 0) hI (by omega)
        generalize scV (wT W) = V at hok hc hm
        cases V with
        | inl f => exact key (-1) W hI.next (by rw [ec]; exact bd_hit (hit_mono hc (fun r s h => hit_some h))) (fun s hs => by rw [em s hs]; exact hm s hs)
        | inr q => exact key (nI (wC W).length) (addC W q) (addC_Inv hI.next (by omega) hok) (by rw [ec]; exact bd_hit (hit_mono hc (fun r s h => hit_some h))) (fun s hs => by rw [em s hs]; exact hm s hs)
    · refine key (-1) W hI.next ?_ (fun s hs => ?_)
      · unfold fX9_text
        rw [if_neg a, if_neg b]
        exact hit_some ⟨rfl, hC⟩
      · unfold fX10_text
        rw [st_eq, isIn01, bd_some, if_neg (show ¬ (x = 0 ∨ x = 1) from fun z => z.elim a b), if_pos rfl]
        exact hit_some ⟨rfl, hs.t0 0⟩
