/-! a MAJOR's marks and slides, on State k -/
theorem c_stageByMarks {σ : rS} {k : Nat} {A : Hp} {S : GS} (hC : CR σ k A) (w : OK A) (hG : GC σ (hn A) S) : hit (fX1_stageByMarks k σ) (fun _ s => (∀ j, j < hn A → s 38 0 j = if j ∈ S.1 then 1 else 0) ∧ ∀ c, ¬ c = 38 → s c = σ c) := by
  have hw := w.n
  unfold fX1_stageByMarks
  refine bd_hit (hit_mono (lp_for (I := fun i s => (∀ j, j < i → s 38 0 j = if j ∈ S.1 then 1 else 0) ∧ ∀ c, ¬ c = 38 → s c = σ c) (P := fun _ s => (∀ j, j < hn A → s 38 0 j = if j ∈ S.1 then 1 else 0) ∧ ∀ c, ¬ c = 38 → s c = σ c) (b := hn A) ?_ ?_ fu 0 σ (by omega) (by have := fu_ge; omega) ⟨fun j hj => absurd hj (Nat.not_lt_zero _), fun _ _ => rfl⟩) (fun _ s h => h))
  · rintro i s hi ⟨h1, h2⟩
    have e7 : s 7 k 0 = nI (hn A) := by rw [h2 7 (by decide)]; exact hC.n
    have e30 : s 30 0 i = if i ∈ S.1 then 1 else 0 := by rw [h2 30 (by decide)]; exact hG.2.2.2.2.1 i (by omega)
    unfold fX1_stageByMarks_L2 fX1_stageByMarks_j31L2 fX3_isSeen
    rw [e7]
    simp (disch := omega) only [pn_lt, pn_neg, pn_eq, pn_eq0, pn_eq1, pn_eq2, pn_m1, pn_m1', pn_m1lt, pn_ix, pn_bnd, pn_add1, pn_add3, pn_mul4, nI_add, bd_some, st_eq, rd_eq, if_true, if_false, ite_true, ite_false, reduceIte, pn_lt80, hi, e30, show i < 80 by omega]
    have fin : ∀ x : Int32, x = (if i ∈ S.1 then 1 else 0) → (∀ j, j < i + 1 → wr s 38 0 i x 38 0 j = if j ∈ S.1 then 1 else 0) ∧ ∀ c, ¬ c = 38 → wr s 38 0 i x c = σ c := fun x hx => ⟨fun j hj => by
      by_cases ej : j = i
      · subst ej; rw [wr_same]; exact hx
      · rw [wr_i ej]; exact h1 j (by omega), fun c hc => (wr_c hc).trans (h2 c hc)⟩
    by_cases hm : i ∈ S.1
    · simp only [if_pos hm, if_neg one_ne, bd_some]
      exact hit_some ⟨rfl, fin 1 (if_pos hm).symm⟩
    · simp only [if_neg hm, if_true, bd_some]
      exact hit_some ⟨rfl, fin 0 (if_neg hm).symm⟩
  · rintro s ⟨h1, h2⟩
    have e7 : s 7 k 0 = nI (hn A) := by rw [h2 7 (by decide)]; exact hC.n
    unfold fX1_stageByMarks_L2
    rw [e7]
    simp (disch := omega) only [pn_lt, Nat.lt_irrefl, if_false]
    exact hit_some ⟨h1, h2⟩
def lsI (A : Hp) (i : Nat) : List Nat := (List.range i).filter (fun i => decide (hkd A i = 2))
theorem visEQ_snoc (L Q : List Nat) (i : Nat) : visEQ (L ++ [i]) Q = vis (visEQ L Q) (some i) := by
  unfold visEQ
  rw [List.foldl_append]
  rfl
theorem c_markLasting {σ : rS} {k : Nat} {A : Hp} {S : GS} (hC : CR σ k A) (w : OK A) (hG : GC σ (hn A) S) (hq : S.1 = q1 A) (h38 : ∀ j, j < hn A → σ 38 0 j = if j ∈ S.1 then 1 else 0) : hit (fX1_markLasting k σ) (fun _ s => (∀ j, j < hn A → s 38 0 j = nI (jG A j)) ∧ ∀ c, ¬ c ∈ [3, 30, 31, 32, 33, 34, 38] → s c = σ c) := by
  have hw := w.n
  have hl := nodup_le hG.1 hG.2.1
  obtain ⟨b1, -, ⟨T, hT⟩, -⟩ := q2_facts w
  unfold fX1_markLasting
  rw [hG.2.2.1, rd_eq]
  refine bd_hit (hit_mono (lp_for (I := fun i s => (∃ S', GC s (hn A) S' ∧ S'.1 = visEQ (lsI A i) S.1) ∧ ∀ c, ¬ c ∈ [3, 30, 31, 32, 33, 34] → s c = σ c) (P := fun _ s => (∃ S', GC s (hn A) S' ∧ S'.1 = visEQ (lsI A (hn A)) S.1) ∧ ∀ c, ¬ c ∈ [3, 30, 31, 32, 33, 34] → s c = σ c) (b := hn A) ?_ ?_ fu 0 σ (by omega) (by have := fu_ge; omega) ⟨⟨S, hG, rfl⟩, fun _ _ => rfl⟩) ?_)
  · rintro i s hi ⟨⟨S', g1, g2⟩, g3⟩
    have e7 : s 7 k 0 = nI (hn A) := by rw [g3 7 (by decide)]; exact hC.n
    have e46 : s 46 k i = hkd A i := by rw [g3 46 (by decide)]; exact hC.kd hi
    unfold fX1_markLasting_L10 fX1_markLasting_j38L10
    rw [e7]
    simp (disch := omega) only [pn_lt, pn_neg, pn_eq, pn_eq0, pn_eq1, pn_eq2, pn_m1, pn_m1', pn_m1lt, pn_ix, pn_bnd, pn_add1, pn_add3, pn_mul4, nI_add, bd_some, st_eq, rd_eq, if_true, if_false, ite_true, ite_false, reduceIte, hi, e46]
    have es : lsI A (i + 1) = if hkd A i = 2 then lsI A i ++ [i] else lsI A i := by
      unfold lsI
      rw [List.range_succ, List.filter_append]
      by_cases h : hkd A i = 2
      · rw [if_pos h]; simp [h]
      · rw [if_neg h]; simp [h]
    by_cases hk : hkd A i = 2
    · rw [if_pos hk]
      rw [if_pos hk] at es
      have hv := c_visit (o := some i) (p := none) (fl := -1) hw g1 (fun j hj => by cases hj; exact hi) (fun q hq => by cases hq)
      have hv : hit (fX3_visit (nI i) (-1) (-1) s) _ := hv
      refine bd_hit (hit_mono (hit_fr (frX3_visit _ _ _ _) hv) ?_)
      rintro r t ⟨hf, ht⟩
      refine hit_some ⟨rfl, ⟨_, ht, ?_⟩, fun c hc => (hf c hc).trans (g3 c hc)⟩
      rw [vis3_1, g2, es, visEQ_snoc]
    · rw [if_neg hk]
      rw [if_neg hk] at es
      exact hit_some ⟨rfl, ⟨S', g1, by rw [es]; exact g2⟩, g3⟩
  · rintro s ⟨g1, g3⟩
    have e7 : s 7 k 0 = nI (hn A) := by rw [g3 7 (by decide)]; exact hC.n
    unfold fX1_markLasting_L10
    rw [e7]
    simp (disch := omega) only [pn_lt, Nat.lt_irrefl, if_false]
    exact hit_some ⟨g1, g3⟩
  rintro r1 s1 ⟨⟨S', g1, g2⟩, g3⟩
  have hC1 : CR s1 k A := hC.frame g3 gr_W
  have hsp := c_spread (i := S.1.length) w hC1 g1 (by omega)
  refine bd_hit (hit_mono (hit_fr (frX3_spread k (nI S.1.length) s1) hsp) ?_)
  rintro r2 s2 ⟨f2, hC2, hG2⟩
  have eQ : (bfsF A (80 - S.1.length) S.1.length S').1 = q2 A := by
    rw [bfsF_1, g2, hq]
    rfl
  generalize bfsF A (80 - S.1.length) S.1.length S' = S2 at hG2 eQ
  have hl2 := nodup_le hG2.1 hG2.2.1
  have f12 : ∀ c, ¬ c ∈ [3, 30, 31, 32, 33, 34] → s2 c = σ c := fun c hc => (f2 c hc).trans (g3 c hc)
  have h38' : ∀ j, j < hn A → s2 38 0 j = if j ∈ S.1 then 1 else 0 := fun j hj => by rw [f12 38 (by decide)]; exact h38 j hj
  have hT' : S2.1 = S.1 ++ T := by rw [eQ, hT, hq]
  have hlT : S2.1.length = S.1.length + T.length := by rw [hT', List.length_append]
  refine bd_hit (hit_mono (lp_for (I := fun i s => S.1.length ≤ i ∧ (∀ j, j < hn A → s 38 0 j = if j ∈ (S2.1.take i).drop S.1.length then 2 else if j ∈ S.1 then 1 else 0) ∧ ∀ c, ¬ c = 38 → s c = s2 c) (P := fun _ s => (∀ j, j < hn A → s 38 0 j = if j ∈ S2.1.drop S.1.length then 2 else if j ∈ S.1 then 1 else 0) ∧ ∀ c, ¬ c = 38 → s c = s2 c) (b := S2.1.length) ?_ ?_ fu S.1.length s2 (by omega) (by have := fu_ge; omega) ⟨Nat.le_refl _, fun j hj => ?_, fun _ _ => rfl⟩) ?_)
  · rintro i s hi ⟨hi1, k1, k2⟩
    have e37 : s 3 0 7 = nI S2.1.length := by rw [k2 3 (by decide)]; exact hG2.2.2.1
    have e31 : s 31 0 i = nI (S2.1.getD i 0) := by rw [k2 31 (by decide)]; exact hG2.2.2.2.1 i hi
    have hj0 := hG2.2.1 _ (getD_mem hi)
    unfold fX1_markLasting_L55
    rw [e37]
    simp (disch := omega) only [pn_lt, pn_neg, pn_eq, pn_eq0, pn_eq1, pn_eq2, pn_m1, pn_m1', pn_m1lt, pn_ix, pn_bnd, pn_add1, pn_add3, pn_mul4, nI_add, bd_some, st_eq, rd_eq, if_true, if_false, ite_true, ite_false, reduceIte, hi, e31]
    refine hit_some ⟨rfl, by omega, fun j hj => ?_, fun c hc => (wr_c hc).trans (k2 c hc)⟩
    have et : (S2.1.take (i + 1)).drop S.1.length = (S2.1.take i).drop S.1.length ++ [S2.1.getD i 0] := by
      rw [take_snoc hi, List.drop_append_of_le_length (by rw [List.length_take]; omega)]
    rw [et]
    by_cases ej : j = S2.1.getD i 0
    · rw [ej, wr_same, if_pos (List.mem_append_right _ (List.mem_singleton.mpr rfl))]
    · rw [wr_i ej, k1 j hj]
      have : (j ∈ (S2.1.take i).drop S.1.length ++ [S2.1.getD i 0]) = (j ∈ (S2.1.take i).drop S.1.length) := propext ⟨fun z => (List.mem_append.mp z).elim id (fun y => absurd (List.mem_singleton.mp y) ej), fun z => List.mem_append_left _ z⟩
      simp only [this]
  · rintro s ⟨hi1, k1, k2⟩
    have e37 : s 3 0 7 = nI S2.1.length := by rw [k2 3 (by decide)]; exact hG2.2.2.1
    unfold fX1_markLasting_L55
    rw [e37]
    simp (disch := omega) only [pn_lt, Nat.lt_irrefl, if_false]
    rw [List.take_length] at k1
    exact hit_some ⟨k1, k2⟩
  · rw [List.drop_eq_nil_of_le (by rw [List.length_take]; omega), if_neg List.not_mem_nil]
    exact h38' j hj
  · rintro r3 s3 ⟨k1, k2⟩
    refine hit_some ⟨fun j hj => ?_, fun c hc => ?_⟩
    · rw [k1 j hj, hT', List.drop_left]
      have hd : (S.1 ++ T).Nodup := by rw [← hT']; exact hG2.1
      have hnd := List.nodup_append.mp hd
      unfold jG
      rw [hT, ← hq]
      by_cases h1 : j ∈ S.1
      · rw [if_neg (fun z => hnd.2.2 j h1 j z rfl), if_pos h1, if_pos h1]; rfl
      · rw [if_neg (c := j ∈ S.1) h1, if_neg (c := j ∈ S.1) h1]
        by_cases h2 : j ∈ T
        · rw [if_pos h2, if_pos (List.mem_append_right _ h2)]; rfl
        · rw [if_neg h2, if_neg (fun z => (List.mem_append.mp z).elim h1 h2)]; rfl
    · simp only [List.mem_cons, List.not_mem_nil, or_false] at hc
      rw [k2 c (by omega), f12 c (by simp only [List.mem_cons, List.not_mem_nil, or_false]; omega)]
/-! the old ones slide -/
theorem fst1_snoc {p : Nat → Bool} : ∀ (n i : Nat), fst1 p (n + 1) i = match fst1 p n i with
    | some j => some j
    | none => if p (i + n) then some (i + n) else none := by
  intro n
  induction n with
  | zero => intro i; show (if p i then some i else none) = if p (i + 0) then some (i + 0) else none; rfl
  | succ n ih =>
    intro i
    show (if p i then some i else fst1 p (n + 1) (i + 1)) = match (if p i then some i else fst1 p n (i + 1)) with
      | some j => some j
      | none => if p (i + (n + 1)) then some (i + (n + 1)) else none
    by_cases h : p i = true
    · rw [if_pos h, if_pos h]
    · rw [if_neg h, if_neg h, ih, show i + 1 + n = i + (n + 1) by omega]
theorem CX_pl {σ s : rS} {k : Nat} {M : Hp} {f : Nat → Nat} (h : CX σ k M) (e : ∀ c q, ¬ ((c = 51 ∨ c = 54) ∧ q = k) → ¬ c = 37 → ¬ c = 44 → s c q = σ c q) (h51 : ∀ j, j < hn M → s 51 k j = nI (f j)) : CX s k (sPl M f) := by
  obtain ⟨h1, h2, h3, h4, h5, h6, h7, h8⟩ := h
  refine ⟨by rw [e 7 k (by omega) (by omega) (by omega)]; exact h1, fun i hi => ?_, fun r hr => by rw [e 53 k (by omega) (by omega) (by omega)]; exact h3 r hr, fun t ht => by rw [e 55 k (by omega) (by omega) (by omega)]; exact h4 t ht, by rw [e 7 k (by omega) (by omega) (by omega)]; exact h5, h6.frame (e 4 _ (by omega) (by omega) (by omega)) (e 28 _ (by omega) (by omega) (by omega)), h7.frame (e 4 _ (by omega) (by omega) (by omega)) (e 28 _ (by omega) (by omega) (by omega)), h8.frame (e 4 _ (by omega) (by omega) (by omega)) (e 28 _ (by omega) (by omega) (by omega))⟩
  obtain ⟨⟨o1, o2, o3, o4, o5, o6, o7⟩, o8⟩ := h2 i hi
  unfold CRo
  rw [e 45 k (by omega) (by omega) (by omega), e 46 k (by omega) (by omega) (by omega), e 47 k (by omega) (by omega) (by omega), e 48 k (by omega) (by omega) (by omega), e 49 k (by omega) (by omega) (by omega), e 50 k (by omega) (by omega) (by omega), e 52 k (by omega) (by omega) (by omega)]
  exact ⟨⟨o1, o2, o3, o4, o5, o6, h51 i hi⟩, o8⟩
set_option maxHeartbeats 2000000 in
theorem c_push {σ : rS} {k : Nat} {R : Nat → Nat} {b : Nat} {A M : Hp} {g : Nat → Nat} {c : Nat → Nat} (hX : CX σ k M) (w : ON M) (hI : Inv R b A) (hR : R 2 ≤ 128) (hc : M.1 = A.1 ∧ M.2.1 = A.2.1) (hS : ∀ j, j < hn A → σ 38 0 j = nI (g j)) (hg : ∀ j, g j ≤ 2) (hO : ONC σ c) : hit (fX1_pushTogether k σ) (fun _ s => CX s k (sPl M (slL A g 128).2.1) ∧ ONC s (upx c 0 (c 0 + (slL A g 128).2.2)) ∧ s 54 k = upd (σ 54 k) 2 (nI (slL A g 128).1) ∧ ∀ c q, ¬ ((c = 51 ∨ c = 54) ∧ q = k) → ¬ c = 37 → ¬ c = 44 → s c q = σ c q) := by
  have wA := hI.ok
  have hw := wA.n
  have en : hn M = hn A := hc.1
  have esz : hsz M = hsz A := by unfold hsz; rw [hc.2]
  have esp : hsp M = hsp A := by unfold hsp; rw [hc.2]
  have epl : hpl M = hpl A := by unfold hpl; rw [hc.2]
  have hAp := jApart hI
  have hsz4 : ∀ j, j < hn A → hsz A j ≤ 4 := fun j hj => wA.sz hj
  unfold fX1_pushTogether
  refine bd_hit (hit_mono (fill_spec 44 0 128 (-1) σ (by decide)) ?_)
  rintro r0 s0 rfl
  have f0 : ∀ c, ¬ c = 44 → wrR σ 44 0 (fillR 128 (-1) (σ 44 0)) c = σ c := fun c hc => wrR_c hc
  have z0 : ∀ p, p < 128 → wrR σ 44 0 (fillR 128 (-1) (σ 44 0)) 44 0 p = -1 := fun p hp => by
    rw [wrR_eq]; unfold fillR; rw [if_pos hp]
  generalize wrR σ 44 0 (fillR 128 (-1) (σ 44 0)) = s0 at f0 z0 ⊢
  refine bd_hit (hit_mono (lp_for (I := fun i s => (∀ p, p < 128 → s 44 0 p = enc (fst1 (slp A g p) i 0)) ∧ ∀ c, ¬ c = 44 → s c = σ c) (P := fun _ s => (∀ p, p < 128 → s 44 0 p = enc (slk A g p)) ∧ ∀ c, ¬ c = 44 → s c = σ c) (b := hn A) ?_ ?_ fu 0 s0 (by omega) (by have := fu_ge; omega) ⟨fun p hp => z0 p hp, f0⟩) ?_)
  · rintro i s hi ⟨h1, h2⟩
    have hXr : CXr s k M := hX.r.mv (fun c hc => by rw [h2 c (by omega)])
    have hiM : i < hn M := by rw [en]; exact hi
    have e7 : s 7 k 0 = nI (hn A) := by rw [← en]; exact hXr.1
    have e51 : s 51 k i = nI (hpl A i) := by rw [← epl]; exact (hXr.2 i hiM).1.2.2.2.2.2.2
    have e38 : s 38 0 i = nI (g i) := by rw [h2 38 (by decide)]; exact hS i hi
    have hp128 := wA.pl hi
    have hgi := hg i
    unfold fX1_pushTogether_L10 fX1_pushTogether_j60L10
    rw [e7]
    simp (disch := omega) only [pn_lt, pn_neg, pn_eq, pn_eq0, pn_eq1, pn_eq2, pn_m1, pn_m1', pn_m1lt, pn_ix, pn_bnd, pn_add1, pn_add3, pn_mul4, nI_add, bd_some, st_eq, rd_eq, if_true, if_false, ite_true, ite_false, reduceIte, hi, e51]
    rw [x_isYoung hXr w hiM, bd_some, esp]
    have no : (∀ p, slp A g p i = false) → (∀ p, p < 128 → s 44 0 p = enc (fst1 (slp A g p) (i + 1) 0)) ∧ ∀ c, ¬ c = 44 → s c = σ c := fun hn' => ⟨fun p hp => by
      rw [fst1_snoc, h1 p hp, show 0 + i = i by omega, hn' p]
      cases fst1 (slp A g p) i 0 <;> rfl, h2⟩
    by_cases h22 : hsp A i = 2
    · rw [if_pos h22, if_pos rfl]
      simp (disch := omega) only [pn_lt, pn_neg, pn_eq, pn_eq0, pn_eq1, pn_eq2, pn_m1, pn_m1', pn_m1lt, pn_ix, pn_bnd, pn_add1, pn_add3, pn_mul4, nI_add, bd_some, st_eq, rd_eq, if_true, if_false, ite_true, ite_false, reduceIte, e38]
      by_cases g0 : g i = 0
      · rw [if_pos g0]
        exact hit_some ⟨rfl, no (fun p => by unfold slp; simp [g0])⟩
      · have h128 := jpl128 hI hR hi h22
        have el : (nI (hpl A i) < 128) = (hpl A i < 128) := pn_lt (b := 128) (by omega) (by omega)
        rw [if_neg g0]
        simp only [el, if_pos h128]
        simp (disch := omega) only [pn_lt, pn_neg, pn_eq, pn_eq0, pn_eq1, pn_eq2, pn_m1, pn_m1', pn_m1lt, pn_ix, pn_bnd, pn_add1, pn_add3, pn_mul4, nI_add, bd_some, st_eq, rd_eq, if_true, if_false, ite_true, ite_false, reduceIte]
        refine hit_some ⟨rfl, fun p hp => ?_, fun c hc => (wr_c hc).trans (h2 c hc)⟩
        rw [fst1_snoc, show 0 + i = i by omega]
        by_cases ep : p = hpl A i
        · subst ep
          have hs : slp A g (hpl A i) i = true := by unfold slp; simp [h22, g0]
          have hno : fst1 (slp A g (hpl A i)) i 0 = none := by
            refine fst1_no (fun j _ hj => ?_)
            have hj : j < i := by omega
            by_cases hsl : slp A g (hpl A i) j = true
            · unfold slp at hsl
              simp at hsl
              have := hAp j i (by omega) hi (by omega) hsl.1 h22
              omega
            · simpa using hsl
          rw [wr_same, hno, hs]
          rfl
        · have hs : slp A g p i = false := by
            unfold slp
            have : ¬ hpl A i = p := fun e => ep e.symm
            simp [this]
          rw [wr_i ep, h1 p hp, hs]
          cases fst1 (slp A g p) i 0 <;> rfl
    · rw [if_neg h22, if_neg one_ne]
      exact hit_some ⟨rfl, no (fun p => by unfold slp; simp [h22])⟩
  · rintro s ⟨h1, h2⟩
    have e7 : s 7 k 0 = nI (hn A) := by rw [← en, h2 7 (by decide)]; exact hX.1
    unfold fX1_pushTogether_L10
    rw [e7]
    simp (disch := omega) only [pn_lt, Nat.lt_irrefl, if_false]
    exact hit_some ⟨h1, h2⟩
  rintro r1 s1 ⟨h44, f1⟩
  refine bd_hit (hit_mono (lp_go (I := fun m x s => ∃ p, x = (nI (slL A g p).1, nI p) ∧ p ≤ 128 ∧ m = 128 - p ∧ (∀ j, j < hn A → s 51 k j = nI ((slL A g p).2.1 j)) ∧ ONC s (upx c 0 (c 0 + (slL A g p).2.2)) ∧ ∀ c q, ¬ (c = 51 ∧ q = k) → ¬ c = 37 → s c q = s1 c q) (P := fun r s => r = nI (slL A g 128).1 ∧ (∀ j, j < hn A → s 51 k j = nI ((slL A g 128).2.1 j)) ∧ ONC s (upx c 0 (c 0 + (slL A g 128).2.2)) ∧ ∀ c q, ¬ (c = 51 ∧ q = k) → ¬ c = 37 → s c q = s1 c q) ?_ fu 128 _ s1 (fu_lt (by omega)) ⟨0, rfl, by omega, rfl, fun j hj => ?_, fun i hi => ?_, fun _ _ _ _ => rfl⟩) ?_)
  · rintro m x s ⟨p, rfl, hp, rfl, g1, g2, g3⟩
    obtain ⟨-, -, -, -, -, s6⟩ := SLI_all (g := g) hAp hsz4 p
    have el : (nI p < 128) = (p < 128) := pn_lt (b := 128) (by omega) (by omega)
    unfold fX1_pushTogether_L70 fX1_pushTogether_j127L70 fX1_pushTogether_j108L70 fX1_pushTogether_j127L70
    dsimp only
    simp only [el]
    by_cases hlt : p < 128
    · have e44 : s 44 0 p = enc (slk A g p) := by rw [g3 44 0 (by omega) (by omega)]; exact h44 p hlt
      rw [if_pos hlt]
      simp (disch := omega) only [pn_lt, pn_neg, pn_eq, pn_eq0, pn_eq1, pn_eq2, pn_m1, pn_m1', pn_m1lt, pn_ix, pn_bnd, pn_add1, pn_add3, pn_mul4, nI_add, bd_some, st_eq, rd_eq, if_true, if_false, ite_true, ite_false, reduceIte, e44]
      have eS := slL_succ A g p
      unfold slS at eS
      rcases opt_cases (slk A g p) with hn' | ⟨j0, hj0⟩
      · rw [hn'] at eS
        rw [hn', enc_none, if_pos rfl]
        refine hit_some ⟨128 - (p + 1), by omega, p + 1, by rw [eS], by omega, rfl, ?_, ?_, g3⟩
        · rw [eS]; exact g1
        · rw [eS]; exact g2
      · obtain ⟨k1, -, -, -⟩ := slk_some hj0
        rw [hj0] at eS
        dsimp only at eS
        rw [hj0, enc_some, if_neg (by rw [pn_m1 (by omega)]; exact id)]
        have e37 : s 37 0 (ix 0) = nI (c 0 + (slL A g p).2.2) := by
          have := g2 0 (by omega)
          rw [upx_same] at this
          exact this
        have b5 : ∀ x : Option (((Int32 × Int32) ⊕ Int32) × rS), bnd 0 5 x = x := fun x => pn_bnd (a := 0) (by omega) (by omega)
        have fin : ∀ (z : Nat), z = (if p = (slL A g p).1 then 0 else 1) → hit (bnd 0 5 (st (wr s 37 0 (ix 0) (s 37 0 (ix 0) + nI z)) (fun σ10 => bnd (nI j0) 80 (st (wr σ10 51 k (ix (nI j0)) (nI (slL A g p).1)) (fun σ11 => bd (fX7_cells k (nI j0) σ11) (fun r12 σ13 => rd (nI (slL A g p).1 + r12) (fun y14 => some ((.inl (y14, nI p + 1) : (Int32 × Int32) ⊕ Int32), σ13)))))))) (fun q s => match q with
            | .inl y => ∃ m, m < 128 - p ∧ ∃ p, y = (nI (slL A g p).1, nI p) ∧ p ≤ 128 ∧ m = 128 - p ∧ (∀ j, j < hn A → s 51 k j = nI ((slL A g p).2.1 j)) ∧ ONC s (upx c 0 (c 0 + (slL A g p).2.2)) ∧ ∀ c q, ¬ (c = 51 ∧ q = k) → ¬ c = 37 → s c q = s1 c q
            | .inr r => r = nI (slL A g 128).1 ∧ (∀ j, j < hn A → s 51 k j = nI ((slL A g 128).2.1 j)) ∧ ONC s (upx c 0 (c 0 + (slL A g 128).2.2)) ∧ ∀ c q, ¬ (c = 51 ∧ q = k) → ¬ c = 37 → s c q = s1 c q) := fun z hz => by
          rw [b5, st_eq, pn_bnd (by omega) (by omega), st_eq, ix_nI (by omega), e37, nI_add]
          have hXr : CXr (wr (wr s 37 0 (ix 0) (nI (c 0 + (slL A g p).2.2 + z))) 51 k j0 (nI (slL A g p).1)) k (sPl M (fun j => (slL A g (p + 1)).2.1 j)) := by
            refine (CX_pl hX (s := wr (wr s 37 0 (ix 0) (nI (c 0 + (slL A g p).2.2 + z))) 51 k j0 (nI (slL A g p).1)) (fun c' q h1 h2 h3 => ?_) (fun j hj => ?_)).r
            · rw [show wr (wr s 37 0 (ix 0) (nI (c 0 + (slL A g p).2.2 + z))) 51 k j0 (nI (slL A g p).1) c' q = wr s 37 0 (ix 0) (nI (c 0 + (slL A g p).2.2 + z)) c' q from wrR_ne _ _ _ _ (by omega), wr_c h2, g3 c' q (by omega) h2, f1 c' h3]
            · rw [en] at hj
              rw [eS]
              show _ = nI (upx (slL A g p).2.1 j0 (slL A g p).1 j)
              by_cases ej : j = j0
              · subst ej; rw [wr_same, upx_same]
              · rw [wr_i ej, upx_ne ej, wr_c (by decide)]; exact g1 j hj
          have wP : ON (sPl M (fun j => (slL A g (p + 1)).2.1 j)) := by
            refine ⟨w.1, fun i hi => ?_, w.2.2⟩
            obtain ⟨o1, o2, o3, o4, o5⟩ := w.2.1 i hi
            refine ⟨o1, o2, o3, ?_, o5⟩
            have hi' : i < hn A := by rw [← en]; exact hi
            obtain ⟨-, q2, q3, -⟩ := SLI_all (g := g) hAp hsz4 (p + 1)
            have := wA.pl hi'
            show (slL A g (p + 1)).2.1 i ≤ 128
            by_cases hq : i < hn A ∧ hsp A i = 2 ∧ ¬ g i = 0 ∧ hpl A i < p + 1
            · have := (q2 i hi' hq.2.1 hq.2.2.1 hq.2.2.2).2; omega
            · rw [q3 i hq]; omega
          have hj0M : j0 < hn (sPl M (fun j => (slL A g (p + 1)).2.1 j)) := by show j0 < hn M; rw [en]; exact k1
          have esz' : hsz (sPl M (fun j => (slL A g (p + 1)).2.1 j)) j0 = hsz A j0 := by show hsz M j0 = _; rw [esz]
          rw [x_cells hXr wP hj0M, bd_some, esz', nI_add, rd_eq, pn_add1]
          refine hit_some ⟨128 - (p + 1), by omega, p + 1, by rw [eS], by omega, rfl, fun j hj => ?_, fun i hi => ?_, fun c' q h1 h2 => ?_⟩
          · rw [eS]
            show _ = nI (upx (slL A g p).2.1 j0 (slL A g p).1 j)
            by_cases ej : j = j0
            · subst ej; rw [wr_same, upx_same]
            · rw [wr_i ej, upx_ne ej, wr_c (by decide)]; exact g1 j hj
          · rw [eS]
            show _ = nI (upx c 0 (c 0 + ((slL A g p).2.2 + (if p = (slL A g p).1 then 0 else 1))) i)
            rw [wr_c (by decide), ← hz]
            by_cases i0 : i = 0
            · subst i0
              rw [upx_same, ← Nat.add_assoc]
              exact wr_same _ _ _ _ _
            · rw [wr_i (show ¬ i = ix 0 from i0), upx_ne i0]
              have := g2 i hi
              rw [upx_ne i0] at this
              exact this
          · rw [show wr (wr s 37 0 (ix 0) (nI (c 0 + (slL A g p).2.2 + z))) 51 k j0 (nI (slL A g p).1) c' q = wr s 37 0 (ix 0) (nI (c 0 + (slL A g p).2.2 + z)) c' q from wrR_ne _ _ _ _ h1, wr_c h2]
            exact g3 c' q h1 h2
        by_cases hpn : p = (slL A g p).1
        · rw [if_pos hpn]
          have := fin 0 (if_pos hpn).symm
          rw [pn_add1] at this
          refine hit_mono this (fun q s h => ?_)
          cases q <;> exact h
        · rw [if_neg hpn]
          have := fin 1 (if_neg hpn).symm
          rw [pn_add1] at this
          refine hit_mono this (fun q s h => ?_)
          cases q <;> exact h
    · rw [if_neg hlt]
      have : p = 128 := by omega
      subst this
      exact hit_some ⟨rfl, g1, g2, g3⟩
  · rw [f1 51 (by decide)]
    show _ = nI (hpl A j)
    rw [← epl]
    exact (hX.2.1 j (by rw [en]; exact hj)).1.2.2.2.2.2.2
  · rw [f1 37 (by decide), hO i hi]
    congr 1
    show c i = upx c 0 (c 0 + 0) i
    by_cases i0 : i = 0
    · subst i0; rw [upx_same]; rfl
    · rw [upx_ne i0]
  · rintro r2 s2 ⟨rfl, g1, g2, g3⟩
    rw [st_eq]
    have fr : ∀ c q, ¬ ((c = 51 ∨ c = 54) ∧ q = k) → ¬ c = 37 → ¬ c = 44 → wr s2 54 k (ix 2) (nI (slL A g 128).1) c q = σ c q := fun c q h1 h2 h3 => by
      rw [show wr s2 54 k (ix 2) (nI (slL A g 128).1) c q = s2 c q from wrR_ne _ _ _ _ (by omega), g3 c q (by omega) h2, f1 c h3]
    refine hit_some ⟨CX_pl hX fr (fun j hj => ?_), fun i hi => by rw [wr_c (by decide)]; exact g2 i hi, ?_, fr⟩
    · rw [en] at hj
      rw [wr_c (by decide)]; exact g1 j hj
    · rw [show wr s2 54 k (ix 2) (nI (slL A g 128).1) 54 k = upd (s2 54 k) (ix 2) (nI (slL A g 128).1) from wr_row _ _ _ _ _, g3 54 k (by omega) (by omega), f1 54 (by decide)]
      rfl
