/-! the log -/
def logAdd (L : Lg) (q : Int32 × Int32 × Int32) : Lg := (if L.length = 60 then L.drop 1 else L) ++ [q]
theorem logAdd_map {L : Lg} {q : Int32 × Int32 × Int32} (f : Int32 × Int32 × Int32 → Int32) : addL 60 (L.map f) (f q) = (logAdd L q).map f := by
  unfold addL logAdd
  rw [List.length_map, List.map_append]
  by_cases h : L.length = 60
  · rw [if_pos h, if_pos h, List.map_drop]; rfl
  · rw [if_neg h, if_neg h]; rfl
theorem logAdd_len {L : Lg} {q : Int32 × Int32 × Int32} (h : L.length ≤ 60) : (logAdd L q).length ≤ 60 := by
  unfold logAdd
  rw [List.length_append]
  have l1 : [q].length = 1 := rfl
  by_cases e : L.length = 60
  · rw [if_pos e, List.length_drop]; omega
  · rw [if_neg e]; omega
theorem c_note {σ : rS} {k : Nat} {A : Hp} {L : Lg} (h : CS σ k (A, L)) (a b : Int32) : hit (fX7_note k a b σ) (fun _ s => CS s k (A, logAdd L (a, b, cellsA A))) := by
  obtain ⟨hR, h3, h4, h5⟩ := h
  have e3 : lnLen (6 * k + 3) = 60 := lnLen_mod k 3
  have e4 : lnLen (6 * k + 4) = 60 := lnLen_mod k 4
  have e5 : lnLen (6 * k + 5) = 60 := lnLen_mod k 5
  have nS : ∀ a c q, (c = 7 ∨ (45 ≤ c ∧ c < 56)) → ¬ SL a c q := fun a c q hc hs => hs.1 hc
  have nL : ∀ a c q, (c = 4 ∨ c = 28) → ¬ q = a → ¬ SL a c q := fun a c q hc hne hs => hne (hs.2 hc)
  have mv : ∀ {a : Nat} {s t : rS} {b : Nat} {xs : List Int32}, (∀ c k, ¬ SL a c k → t c k = s c k) → ¬ b = a → Ln s b xs → Ln t b xs := fun hf hne hL => hL.frame (hf 4 _ (nL _ _ _ (Or.inl rfl) hne)) (hf 28 _ (nL _ _ _ (Or.inr rfl) hne))
  have mR : ∀ {j : Nat} {s t : rS}, (∀ c q, ¬ SL (6 * k + j) c q → t c q = s c q) → 3 ≤ j → CR s k A → CR t k A := fun hf hj hC => hC.of_eq (hf 7 _ (nS _ _ _ (Or.inl rfl))) (fun c h1 h2 => hf c _ (nS _ _ _ (Or.inr ⟨h1, h2⟩))) (fun i hi => ⟨hf 4 _ (nL _ _ _ (Or.inl rfl) (by omega)), hf 28 _ (nL _ _ _ (Or.inr rfl) (by omega))⟩)
  unfold fX7_note
  refine bd_hit (hit_mono (hit_fk (fkX4_add _ _ _) (l_add h3 a)) ?_)
  rintro r0 s0 ⟨f0, g0⟩
  refine bd_hit (hit_mono (hit_fk (fkX4_add _ _ _) (l_add (mv f0 (by omega) h4) b)) ?_)
  rintro r1 s1 ⟨f1, g1⟩
  have hR1 := mR f1 (by omega) (mR f0 (by omega) hR)
  rw [c_cellsInUse hR1, bd_some]
  refine bd_hit (hit_mono (hit_fk (fkX4_add _ _ _) (l_add (mv f1 (by omega) (mv f0 (by omega) h5)) (cellsA A))) ?_)
  rintro r2 s2 ⟨f2, g2⟩
  rw [e3] at g0
  rw [e4] at g1
  rw [e5] at g2
  have q0 := logAdd_map (L := L) (q := (a, b, cellsA A)) (fun q => q.1)
  have q1 := logAdd_map (L := L) (q := (a, b, cellsA A)) (fun q => q.2.1)
  have q2 := logAdd_map (L := L) (q := (a, b, cellsA A)) (fun q => q.2.2)
  refine hit_some ⟨mR f2 (by omega) hR1, ?_, ?_, ?_⟩
  · show Ln s2 _ ((logAdd L (a, b, cellsA A)).map (fun q => q.1))
    rw [← q0]; exact mv f2 (by omega) (mv f1 (by omega) g0)
  · show Ln s2 _ ((logAdd L (a, b, cellsA A)).map (fun q => q.2.1))
    rw [← q1]; exact mv f2 (by omega) g1
  · show Ln s2 _ ((logAdd L (a, b, cellsA A)).map (fun q => q.2.2))
    rw [← q2]; exact g2
theorem m_notesJ {τ : rS} {A : Hp} {L : Lg} {R : Nat → Nat} {b : Nat} (h : MS (τ 66 0) (A, L)) (hI : Inv R b A) (hR : R 2 ≤ 128) (hl : L.length < 60) (x y : Int32) (hy : τ 10 0 30 = y) : hit (fX10_notes_j62 x τ) (fun _ s => MS (s 66 0) (A, L ++ [(x, y, cellsA A)])) := by
  have w := hI.ok
  have hrm := hI.rm hR
  have hen := hI.en
  have hMR : MR (τ 66 0) A := h.1
  have e0 : τ 66 0 (ix 1373) = nI L.length := h.2.1
  have e1 : (1374 : Int32) + 3 * nI L.length = nI (1374 + 3 * L.length) := by
    rw [pn_m3]
    exact nI_add 1374 _
  unfold fX10_notes_j62
  rw [e0, e1, rd_eq]
  have e2 : nI (1374 + 3 * L.length) + 2 = nI (1374 + 3 * L.length + 2) := nI_add _ 2
  rw [e2]
  have e30 : wr τ 66 0 (1374 + 3 * L.length) x 10 0 30 = y := by rw [wr_c (by decide)]; exact hy
  simp (disch := omega) only [pn_lt, pn_neg, pn_eq, pn_eq0, pn_eq1, pn_eq2, pn_m1, pn_m1', pn_m1lt, pn_ix, pn_bnd, pn_add1, pn_add3, pn_mul4, nI_add, bd_some, st_eq, rd_eq, if_true, if_false, ite_true, ite_false, reduceIte, e30]
  have hM2 : MR (wr (wr τ 66 0 (1374 + 3 * L.length) x) 66 0 (1374 + 3 * L.length + 1) y 66 0) A := hMR.congr w (by omega) hI.2.2.2.2.2.2.1 (by omega) (fun i hi => by rw [wr_i (by omega), wr_i (by omega)])
  rw [m_cells w hM2, bd_some]
  have e13 : wr (wr (wr τ 66 0 (1374 + 3 * L.length) x) 66 0 (1374 + 3 * L.length + 1) y) 66 0 (1374 + 3 * L.length + 2) (cellsA A) 66 0 (ix 1373) = nI L.length := by
    show wr (wr (wr τ 66 0 (1374 + 3 * L.length) x) 66 0 (1374 + 3 * L.length + 1) y) 66 0 (1374 + 3 * L.length + 2) (cellsA A) 66 0 1373 = _
    rw [wr_i (by omega), wr_i (by omega), wr_i (by omega)]
    exact h.2.1
  have eC : nI (usedA A 0) + nI (usedA A 1) + nI (usedA A 2) = cellsA A := rfl
  rw [eC]
  simp (disch := omega) only [pn_lt, pn_neg, pn_eq, pn_eq0, pn_eq1, pn_eq2, pn_m1, pn_m1', pn_m1lt, pn_ix, pn_bnd, pn_add1, pn_add3, pn_mul4, nI_add, bd_some, st_eq, rd_eq, if_true, if_false, ite_true, ite_false, reduceIte, e13]
  have l1 : (L ++ [(x, y, cellsA A)]).length = L.length + 1 := by rw [List.length_append]; rfl
  refine hit_some ⟨hMR.congr w (by omega) hI.2.2.2.2.2.2.1 (by omega) (fun i hi => ?_), ?_, fun i hi => ?_⟩
  · show wr _ 66 0 1373 _ 66 0 i = _
    rw [wr_i (by omega), wr_i (by omega), wr_i (by omega), wr_i (by omega)]
  · show wr _ 66 0 1373 _ 66 0 1373 = nI (L ++ [(x, y, cellsA A)]).length
    rw [wr_same, l1]
  · have hi : i < (L ++ [(x, y, cellsA A)]).length := hi
    rw [l1] at hi
    show wr _ 66 0 1373 _ 66 0 _ = ((L ++ [(x, y, cellsA A)]).getD i (0, 0, 0)).1 ∧ wr _ 66 0 1373 _ 66 0 _ = ((L ++ [(x, y, cellsA A)]).getD i (0, 0, 0)).2.1 ∧ wr _ 66 0 1373 _ 66 0 _ = ((L ++ [(x, y, cellsA A)]).getD i (0, 0, 0)).2.2
    rw [wr_i (by omega), wr_i (j := 1375 + 3 * i) (by omega), wr_i (j := 1376 + 3 * i) (by omega)]
    by_cases ei : i = L.length
    · subst ei
      rw [getD_app_eq]
      refine ⟨?_, ?_, ?_⟩
      · rw [wr_i (by omega), wr_i (by omega), wr_same]
      · rw [wr_i (by omega), show 1375 + 3 * L.length = 1374 + 3 * L.length + 1 by omega, wr_same]
      · rw [show 1376 + 3 * L.length = 1374 + 3 * L.length + 2 by omega, wr_same]
    · rw [getD_app_lt (by omega), wr_i (by omega), wr_i (by omega), wr_i (by omega), wr_i (by omega), wr_i (by omega), wr_i (by omega), wr_i (by omega), wr_i (by omega), wr_i (by omega)]
      exact h.2.2 i (show i < L.length by omega)
theorem m_notes {τ : rS} {A : Hp} {L : Lg} {R : Nat → Nat} {b : Nat} (h : MS (τ 66 0) (A, L)) (hI : Inv R b A) (hR : R 2 ≤ 128) (hl : L.length ≤ 60) (x y : Int32) (hy : τ 10 0 30 = y) : hit (fX10_notes x τ) (fun _ s => MS (s 66 0) (A, logAdd L (x, y, cellsA A))) := by
  have w := hI.ok
  have hrm := hI.rm hR
  have hen := hI.en
  have hMR : MR (τ 66 0) A := h.1
  have e0 : τ 66 0 (ix 1373) = nI L.length := h.2.1
  unfold fX10_notes logAdd
  rw [e0]
  have e60 : (nI L.length = 60) = (L.length = 60) := pn_eq (b := 60) (by omega) (by omega)
  by_cases hf : L.length = 60
  · rw [if_pos (by rw [e60]; exact hf), if_pos hf]
    refine bd_hit (hit_mono (lp_for (I := fun i s => 1 ≤ i ∧ (∀ p, 1 ≤ p → p < i → s 66 0 (1373 + p) = τ 66 0 (1376 + p)) ∧ (∀ q, (q ≤ 1373 ∨ 1373 + i ≤ q) → s 66 0 q = τ 66 0 q) ∧ s 10 = τ 10) (P := fun _ s => (∀ p, 1 ≤ p → p < 178 → s 66 0 (1373 + p) = τ 66 0 (1376 + p)) ∧ (∀ q, (q ≤ 1373 ∨ 1373 + 178 ≤ q) → s 66 0 q = τ 66 0 q) ∧ s 10 = τ 10) (b := 178) ?_ ?_ fu 1 τ (by omega) (by have := fu_ge; omega) ⟨Nat.le_refl _, fun p h1 h2 => by omega, fun q _ => rfl, rfl⟩) ?_)
    · rintro i s hi ⟨hi1, h1, h2, h3⟩
      unfold fX10_notes_L15
      have e177 : (177 < nI i) = (177 < i) := pn_lt (a := 177) (by omega) (by omega)
      have e1 : (1373 : Int32) + nI i = nI (1373 + i) := nI_add 1373 i
      have e2 : nI (1373 + i) + 3 = nI (1373 + i + 3) := nI_add _ 3
      rw [if_neg (by rw [e177]; omega), e1, e2]
      simp (disch := omega) only [pn_lt, pn_neg, pn_eq, pn_eq0, pn_eq1, pn_eq2, pn_m1, pn_m1', pn_m1lt, pn_ix, pn_bnd, pn_add1, pn_add3, pn_mul4, nI_add, bd_some, st_eq, rd_eq, if_true, if_false, ite_true, ite_false, reduceIte]
      refine hit_some ⟨rfl, by omega, fun p g1 g2 => ?_, fun q hq => ?_, by rw [wr_c (by decide)]; exact h3⟩
      · by_cases ep : p = i
        · subst ep
          rw [wr_same, h2 _ (by omega), show 1373 + p + 3 = 1376 + p by omega]
        · rw [wr_i (by omega)]; exact h1 p g1 (by omega)
      · rw [wr_i (by omega)]; exact h2 q (by omega)
    · rintro s hs
      unfold fX10_notes_L15
      have e177 : (177 < nI 178) = (177 < 178) := pn_lt (a := 177) (by omega) (by omega)
      rw [if_pos (by rw [e177]; omega)]
      exact hit_some hs.2
    · rintro r s ⟨h1, h2, h3⟩
      have e1 : s 66 0 (ix 1373) = nI 60 := by
        show s 66 0 1373 = _
        rw [h2 1373 (by omega), ← hf]
        exact h.2.1
      rw [e1, st_eq]
      have e59 : nI 60 - 1 = nI 59 := by decide
      rw [e59]
      have ld : (L.drop 1).length = 59 := by rw [List.length_drop]; omega
      refine m_notesJ (L := L.drop 1) ⟨hMR.congr w (by omega) hI.2.2.2.2.2.2.1 (by omega) (fun i hi => ?_), ?_, fun i hi => ?_⟩ hI hR (by omega) x y ?_
      · show wr _ 66 0 1373 _ 66 0 i = _
        rw [wr_i (by omega)]; exact h2 i (by omega)
      · show wr _ 66 0 1373 _ 66 0 1373 = nI (L.drop 1).length
        rw [wr_same, ld]
      · have hi : i < (L.drop 1).length := hi
        show wr _ 66 0 1373 _ 66 0 _ = ((L.drop 1).getD i (0, 0, 0)).1 ∧ wr _ 66 0 1373 _ 66 0 _ = ((L.drop 1).getD i (0, 0, 0)).2.1 ∧ wr _ 66 0 1373 _ 66 0 _ = ((L.drop 1).getD i (0, 0, 0)).2.2
        rw [getD_drop, wr_i (by omega), wr_i (j := 1375 + 3 * i) (by omega), wr_i (j := 1376 + 3 * i) (by omega)]
        have g1 := h1 (1 + 3 * i) (by omega) (by omega)
        have g2 := h1 (2 + 3 * i) (by omega) (by omega)
        have g3 := h1 (3 + 3 * i) (by omega) (by omega)
        rw [show 1373 + (1 + 3 * i) = 1374 + 3 * i by omega, show 1376 + (1 + 3 * i) = 1374 + 3 * (1 + i) by omega] at g1
        rw [show 1373 + (2 + 3 * i) = 1375 + 3 * i by omega, show 1376 + (2 + 3 * i) = 1375 + 3 * (1 + i) by omega] at g2
        rw [show 1373 + (3 + 3 * i) = 1376 + 3 * i by omega, show 1376 + (3 + 3 * i) = 1376 + 3 * (1 + i) by omega] at g3
        rw [g1, g2, g3]
        exact h.2.2 (1 + i) (show 1 + i < L.length by omega)
      · rw [wr_c (by decide), h3]; exact hy
  · rw [if_neg (by rw [e60]; exact hf), if_neg hf]
    exact m_notesJ h hI hR (by omega) x y hy
