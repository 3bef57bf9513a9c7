/-! a MINOR's end: settle, the remembered, new names -/
def CXr (σ : rS) (k : Nat) (A : Hp) : Prop := σ 7 k 0 = nI (hn A) ∧ ∀ i, i < hn A → CRo σ k A i
theorem CX.r {σ : rS} {k : Nat} {A : Hp} (h : CX σ k A) : CXr σ k A := ⟨h.1, h.2.1⟩
theorem CXr.mv {σ s : rS} {k : Nat} {A : Hp} (h : CXr σ k A) (e : ∀ c, (c = 7 ∨ (45 ≤ c ∧ c ≤ 52)) → s c k = σ c k) : CXr s k A := by
  refine ⟨by rw [e 7 (by omega)]; exact h.1, fun i hi => ?_⟩
  unfold CRo
  rw [e 45 (by omega), e 46 (by omega), e 47 (by omega), e 48 (by omega), e 49 (by omega), e 50 (by omega), e 51 (by omega), e 52 (by omega)]
  exact h.2 i hi
section CXs
variable {σ : rS} {k : Nat} {A : Hp} {j f : Nat}
theorem x_isSlot (h : CXr σ k A) (w : ON A) (hj : j < hn A) : fX7_isSlot k (nI j) σ = some (1, σ) := by
  have := w.1
  unfold fX7_isSlot
  simp (disch := omega) only [h.1, pn_lt, pn_neg, pn_eq, pn_eq0, pn_eq1, pn_eq2, pn_m1, pn_m1', pn_m1lt, pn_ix, pn_bnd, pn_add1, pn_add3, pn_mul4, nI_add, bd_some, st_eq, rd_eq, if_true, if_false, ite_true, ite_false, reduceIte, hj]
theorem x_isYoung (h : CXr σ k A) (w : ON A) (hj : j < hn A) : fX7_isYoung k (nI j) σ = some (if hsp A j = 2 then 0 else 1, σ) := by
  have := w.1
  have := (w.2.1 j hj).2.2.1
  unfold fX7_isYoung
  simp (disch := omega) only [h.1, pn_lt, pn_neg, pn_eq, pn_eq0, pn_eq1, pn_eq2, pn_m1, pn_m1', pn_m1lt, pn_ix, pn_bnd, pn_add1, pn_add3, pn_mul4, nI_add, bd_some, st_eq, rd_eq, if_true, if_false, ite_true, ite_false, reduceIte, hj, (h.2 j hj).1.2.2.2.2.2.1]
  split <;> rfl
theorem x_fieldsOf (h : CXr σ k A) (w : ON A) (hj : j < hn A) : fX7_fieldsOf k (nI j) σ = some (nI (hsz A j), σ) := by
  have := w.1
  unfold fX7_fieldsOf
  simp (disch := omega) only [h.1, pn_lt, pn_neg, pn_eq, pn_eq0, pn_eq1, pn_eq2, pn_m1, pn_m1', pn_m1lt, pn_ix, pn_bnd, pn_add1, pn_add3, pn_mul4, nI_add, bd_some, st_eq, rd_eq, if_true, if_false, ite_true, ite_false, reduceIte, hj, (h.2 j hj).1.2.2.1]
theorem x_cells (h : CXr σ k A) (w : ON A) (hj : j < hn A) : fX7_cells k (nI j) σ = some (nI (3 + hsz A j), σ) := by
  have := w.1
  unfold fX7_cells
  simp (disch := omega) only [h.1, pn_lt, pn_neg, pn_eq, pn_eq0, pn_eq1, pn_eq2, pn_m1, pn_m1', pn_m1lt, pn_ix, pn_bnd, pn_add1, pn_add3, pn_mul4, nI_add, bd_some, st_eq, rd_eq, if_true, if_false, ite_true, ite_false, reduceIte, hj, (h.2 j hj).1.2.2.1]
theorem x_target (h : CXr σ k A) (w : ON A) (hj : j < hn A) (hf : f < hsz A j) : fX7_target k (nI j) (nI f) σ = some (enc (hlk A j f), σ) := by
  have := w.1
  have := (w.2.1 j hj).2.1
  unfold fX7_target
  simp (disch := omega) only [h.1, pn_lt, pn_neg, pn_eq, pn_eq0, pn_eq1, pn_eq2, pn_m1, pn_m1', pn_m1lt, pn_ix, pn_bnd, pn_add1, pn_add3, pn_mul4, nI_add, bd_some, st_eq, rd_eq, if_true, if_false, ite_true, ite_false, reduceIte, hj, (h.2 j hj).1.2.2.1, hf, (h.2 j hj).2 f hf]
theorem x_hasField (h : CXr σ k A) (w : ON A) (hj : j < hn A) (hf : f < hsz A j) : fX7_hasField k (nI j) (nI f) σ = some (1, σ) := by
  have := w.1
  have := (w.2.1 j hj).2.1
  unfold fX7_hasField
  simp (disch := omega) only [h.1, pn_lt, pn_neg, pn_eq, pn_eq0, pn_eq1, pn_eq2, pn_m1, pn_m1', pn_m1lt, pn_ix, pn_bnd, pn_add1, pn_add3, pn_mul4, nI_add, bd_some, st_eq, rd_eq, if_true, if_false, ite_true, ite_false, reduceIte, hj, (h.2 j hj).1.2.2.1, hf]
theorem x_oty (h : CXr σ k A) (w : ON A) (hj : j < hn A) (hf : f < hsz A j) : fX7_isOldToYoung k (nI j) (nI f) σ = some (bI (oty A j f), σ) := by
  unfold fX7_isOldToYoung oty ylk
  rw [x_isSlot h w hj, bd_some, if_neg one_ne, x_isYoung h w hj, bd_some]
  by_cases h2 : hsp A j = 2
  · rw [if_pos h2, if_pos rfl, x_target h w hj hf, bd_some, decide_eq_true h2]
    rcases opt_cases (hlk A j f) with hl | ⟨t, hl⟩
    · rw [hl, enc_none, e_isYoung_n, bd_some, if_pos rfl]; rfl
    · have ht := (w.2.1 j hj).2.2.2.2 f t hf hl
      rw [hl, enc_some, x_isYoung h w ht, bd_some]
      by_cases h3 : hsp A t = 2
      · rw [if_pos h3, if_pos rfl]; simp [bI, h3]
      · rw [if_neg h3, if_neg one_ne]; simp [bI, h3]
  · rw [if_neg h2, if_neg one_ne]; simp [bI, h2]
end CXs
/-! settle -/
def mvP (B : Hp) (O : List Nat) (P : Pn) : Hp := (B.1, fun c i => if c = 2 then (if i ∈ O then pSp P i else B.2.1 2 i) else if c = 3 then (if i ∈ O then pPl P i else B.2.1 3 i) else B.2.1 c i, fun c i => if c = 2 then (if i ∈ O then B.2.2.1 2 i + 1 else B.2.2.1 2 i) else B.2.2.1 c i, B.2.2.2)
def cM (c : Nat → Nat) (O : List Nat) (P : Pn) : Nat → Nat := upx (upx c 0 (c 0 + O.length)) 1 (c 1 + (O.filter (fun j => decide (pSp P j = 2))).length)
theorem take_snoc {L : List Nat} {i : Nat} (hi : i < L.length) : L.take (i + 1) = L.take i ++ [L.getD i 0] := by
  rw [List.take_add_one, List.getD_eq_getElem?_getD, List.getElem?_eq_getElem hi]
  rfl
theorem not_take {L : List Nat} {i : Nat} (hd : L.Nodup) (hi : i < L.length) : ¬ L.getD i 0 ∈ L.take i := by
  intro hm
  have e : L = L.take i ++ L.drop i := (List.take_append_drop i L).symm
  rw [e, List.nodup_append] at hd
  refine hd.2.2 _ hm (L.getD i 0) ?_ rfl
  rw [drop_cons hi]
  exact List.mem_cons_self
theorem mvP_row {σ s : rS} {k j i : Nat} {B : Hp} {O : List Nat} {P : Pn} (h : CRo σ k (mvP B O P) i) (hj : ¬ j ∈ O) (e : ∀ c, 45 ≤ c → c ≤ 52 → c < 49 ∨ c = 52 → s c k = σ c k) (e49 : s 49 k = upd (σ 49 k) j (σ 49 k j + 1)) (e50 : s 50 k = upd (σ 50 k) j (nI (pSp P j))) (e51 : s 51 k = upd (σ 51 k) j (nI (pPl P j))) (hq : σ 49 k j = hag B j) : CRo s k (mvP B (O ++ [j]) P) i := by
  obtain ⟨⟨o1, o2, o3, o4, o5, o6, o7⟩, o8⟩ := h
  have mem : ¬ i = j → (i ∈ O ++ [j]) = (i ∈ O) := fun hne => propext ⟨fun z => by
    rcases List.mem_append.mp z with z | z
    · exact z
    · exact absurd (List.mem_singleton.mp z) hne, fun z => List.mem_append_left _ z⟩
  have memj : j ∈ O ++ [j] := List.mem_append_right _ (List.mem_singleton.mpr rfl)
  have o5 : σ 49 k i = if i ∈ O then hag B i + 1 else hag B i := o5
  have o6 : σ 50 k i = nI (if i ∈ O then pSp P i else hsp B i) := o6
  have o7 : σ 51 k i = nI (if i ∈ O then pPl P i else hpl B i) := o7
  unfold CRo
  rw [e 45 (by omega) (by omega) (by omega), e 46 (by omega) (by omega) (by omega), e 47 (by omega) (by omega) (by omega), e 48 (by omega) (by omega) (by omega), e 52 (by omega) (by omega) (by omega), e49, e50, e51]
  refine ⟨⟨o1, o2, o3, o4, ?_, ?_, ?_⟩, o8⟩
  · show _ = if i ∈ O ++ [j] then hag B i + 1 else hag B i
    by_cases ei : i = j
    · subst ei; rw [if_pos memj]; simp only [upd, if_true]; rw [hq]
    · simp only [mem ei, upd, if_neg ei]; exact o5
  · show _ = nI (if i ∈ O ++ [j] then pSp P i else hsp B i)
    by_cases ei : i = j
    · subst ei; rw [if_pos memj]; simp only [upd, if_true]
    · simp only [mem ei, upd, if_neg ei]; exact o6
  · show _ = nI (if i ∈ O ++ [j] then pPl P i else hpl B i)
    by_cases ei : i = j
    · subst ei; rw [if_pos memj]; simp only [upd, if_true]
    · simp only [mem ei, upd, if_neg ei]; exact o7
theorem cM_snoc {c : Nat → Nat} {O : List Nat} {P : Pn} {j : Nat} : cM c (O ++ [j]) P = if pSp P j = 2 then upx (upx (cM c O P) 0 (cM c O P 0 + 1)) 1 (cM c O P 1 + 1) else upx (cM c O P) 0 (cM c O P 0 + 1) := by
  have e1 : cM c O P 1 = c 1 + (O.filter (fun j => decide (pSp P j = 2))).length := upx_same
  have e0 : cM c O P 0 = c 0 + O.length := by
    show upx _ 1 _ 0 = _
    rw [upx_ne (by decide), upx_same]
  have l1 : (O ++ [j]).length = O.length + 1 := by rw [List.length_append]; rfl
  by_cases h : pSp P j = 2
  · rw [if_pos h]
    have l2 : ((O ++ [j]).filter (fun j => decide (pSp P j = 2))).length = (O.filter (fun j => decide (pSp P j = 2))).length + 1 := by
      rw [List.filter_append, List.length_append]
      simp [h]
    funext x
    rw [e0, e1]
    unfold cM
    rw [l1, l2]
    by_cases x1 : x = 1
    · subst x1; rw [upx_same, upx_same]; omega
    · rw [upx_ne x1, upx_ne x1]
      by_cases x0 : x = 0
      · subst x0; rw [upx_same, upx_same]; omega
      · rw [upx_ne x0, upx_ne x0, upx_ne x1, upx_ne x0]
  · rw [if_neg h]
    have l2 : ((O ++ [j]).filter (fun j => decide (pSp P j = 2))).length = (O.filter (fun j => decide (pSp P j = 2))).length := by
      rw [List.filter_append, List.length_append]
      simp [h]
    funext x
    rw [e0]
    unfold cM
    rw [l1, l2]
    by_cases x0 : x = 0
    · subst x0; rw [upx_ne (by decide), upx_same, upx_same]; omega
    · rw [upx_ne x0]
      by_cases x1 : x = 1
      · subst x1; rw [upx_same, upx_same]
      · rw [upx_ne x1, upx_ne x1, upx_ne x0, upx_ne x0]
set_option maxHeartbeats 2000000 in
theorem c_settle {σ : rS} {k : Nat} {R : Nat → Nat} {A B : Hp} {P : Pn} {c : Nat → Nat} (hC : CX σ k B) (w : ON B) (hP : PC σ R A P) (hn' : hn B = hn A) (hO : ONC σ c) (hsp' : ∀ j ∈ pO P, pSp P j ≤ 2) : hit (fX1_settle k σ) (fun _ s => CX s k (sFl (mvP B (pO P) P) (1 - hfl B)) ∧ ONC s (cM c (pO P) P) ∧ (s 54 k 0 = 0 ∧ s 54 k 1 = nI (pF1 P) ∧ s 54 k 2 = nI (pF2 P)) ∧ ∀ c q, ¬ (c = 37 ∨ (q = k ∧ (c = 7 ∨ c = 49 ∨ c = 50 ∨ c = 51 ∨ c = 54))) → s c q = σ c q) := by
  have hw := w.1
  obtain ⟨⟨g1, g2⟩, g3, g4, g5, g6, ⟨g7, g8⟩, -⟩ := hP
  have hlen := nodup_le g1 (fun j hj => (g2 j hj).1)
  unfold fX1_settle
  refine bd_hit (hit_mono (lp_for (I := fun i s => (∀ q, q < hn B → CRo s k (mvP B ((pO P).take i) P) q) ∧ ONC s (cM c ((pO P).take i) P) ∧ ∀ c q, ¬ (c = 37 ∨ (q = k ∧ (c = 49 ∨ c = 50 ∨ c = 51))) → s c q = σ c q) (P := fun _ s => (∀ q, q < hn B → CRo s k (mvP B (pO P) P) q) ∧ ONC s (cM c (pO P) P) ∧ ∀ c q, ¬ (c = 37 ∨ (q = k ∧ (c = 49 ∨ c = 50 ∨ c = 51))) → s c q = σ c q) (b := (pO P).length) ?_ ?_ fu 0 σ (by omega) (by have := fu_ge; omega) ⟨?_, ?_, fun _ _ _ => rfl⟩) ?_)
  · rintro i s hi ⟨h1, h2, h3⟩
    have hmem := getD_mem hi
    have hj := (g2 _ hmem).1
    have e10 : s 1 0 10 = nI (pO P).length := by rw [h3 1 0 (by omega)]; exact g3
    have e39 : s 39 0 i = nI ((pO P).getD i 0) := by rw [h3 39 0 (by omega)]; exact g5 i hi
    have hnt := not_take g1 hi
    have ets := take_snoc hi
    have hs2 := hsp' _ hmem
    have e40 : s 40 0 ((pO P).getD i 0) = nI (pSp P ((pO P).getD i 0)) := by rw [h3 40 0 (by omega)]; exact (g6 _ hmem).1
    have e41 : s 41 0 ((pO P).getD i 0) = nI (pPl P ((pO P).getD i 0)) := by rw [h3 41 0 (by omega)]; exact (g6 _ hmem).2
    rw [ets]
    generalize (pO P).getD i 0 = j at *
    have e49 : s 49 k j = hag B j := by
      have := (h1 j (by rw [hn']; exact hj)).1.2.2.2.2.1
      rw [this]
      show (if j ∈ (pO P).take i then hag B j + 1 else hag B j) = _
      rw [if_neg hnt]
    unfold fX1_settle_L2 fX1_settle_j81L2
    rw [e10]
    simp (disch := omega) only [pn_lt, pn_neg, pn_eq, pn_eq0, pn_eq1, pn_eq2, pn_m1, pn_m1', pn_m1lt, pn_ix, pn_bnd, pn_add1, pn_add3, pn_mul4, nI_add, bd_some, st_eq, rd_eq, if_true, if_false, ite_true, ite_false, reduceIte, hi, e39]
    have r40 : wr s 49 k j (s 49 k j + 1) 40 0 j = nI (pSp P j) := by rw [wr_c (by decide)]; exact e40
    rw [r40]
    have r41 : wr (wr s 49 k j (s 49 k j + 1)) 50 k j (nI (pSp P j)) 41 0 j = nI (pPl P j) := by rw [wr_c (by decide), wr_c (by decide)]; exact e41
    rw [r41]
    obtain ⟨t, ht⟩ : ∃ t, t = wr (wr (wr s 49 k j (s 49 k j + 1)) 50 k j (nI (pSp P j))) 51 k j (nI (pPl P j)) := ⟨_, rfl⟩
    rw [← ht]
    have tf : ∀ c q, ¬ (q = k ∧ (c = 49 ∨ c = 50 ∨ c = 51)) → t c q = s c q := fun c q hcq => by
      rw [ht, show wr (wr (wr s 49 k j (s 49 k j + 1)) 50 k j (nI (pSp P j))) 51 k j (nI (pPl P j)) c q = wr (wr s 49 k j (s 49 k j + 1)) 50 k j (nI (pSp P j)) c q from wrR_ne _ _ _ _ (by omega), show wr (wr s 49 k j (s 49 k j + 1)) 50 k j (nI (pSp P j)) c q = wr s 49 k j (s 49 k j + 1) c q from wrR_ne _ _ _ _ (by omega)]
      exact wrR_ne _ _ _ _ (by omega)
    have t37 : t 37 0 (ix 0) = nI (cM c ((pO P).take i) P 0) := by rw [tf 37 0 (by omega)]; exact h2 0 (by omega)
    rw [t37, pn_add1]
    have rows : ∀ (u : rS), (∀ c, ¬ c = 37 → u c = t c) → ∀ q, q < hn B → CRo u k (mvP B ((pO P).take i ++ [j]) P) q := fun u hu q hq => by
      refine mvP_row (h1 q hq) hnt (fun c c1 c2 c3 => by rw [hu c (by omega), tf c k (by omega)]) ?_ ?_ ?_ e49
      · rw [hu 49 (by decide), ht, wr_c (by decide), wr_c (by decide)]; exact wr_row _ _ _ _ _
      · rw [hu 50 (by decide), ht, wr_c (by decide), wr_row, wr_c (by decide)]
      · rw [hu 51 (by decide), ht, wr_row, wr_c (by decide), wr_c (by decide)]
    have u40 : wr t 37 0 (ix 0) (nI (cM c ((pO P).take i) P 0 + 1)) 40 0 j = nI (pSp P j) := by rw [wr_c (by decide), tf 40 0 (by omega)]; exact e40
    have hO1 : ∀ x, x < 5 → wr t 37 0 (ix 0) (nI (cM c ((pO P).take i) P 0 + 1)) 37 0 x = nI (upx (cM c ((pO P).take i) P) 0 (cM c ((pO P).take i) P 0 + 1) x) := fun x hx => by
      by_cases x0 : x = 0
      · subst x0; rw [upx_same]; exact wr_same _ _ _ _ _
      · rw [wr_i (show ¬ x = ix 0 from x0), upx_ne x0, tf 37 0 (by omega)]; exact h2 x hx
    rw [u40]
    simp (disch := omega) only [pn_lt, pn_neg, pn_eq, pn_eq0, pn_eq1, pn_eq2, pn_m1, pn_m1', pn_m1lt, pn_ix, pn_bnd, pn_add1, pn_add3, pn_mul4, nI_add, bd_some, st_eq, rd_eq, if_true, if_false, ite_true, ite_false, reduceIte]
    by_cases h22 : pSp P j = 2
    · rw [if_pos h22]
      have u37 : wr t 37 0 (ix 0) (nI (cM c ((pO P).take i) P 0 + 1)) 37 0 (ix 1) = nI (cM c ((pO P).take i) P 1) := hO1 1 (by omega)
      rw [u37, pn_add1]
      refine hit_some ⟨rfl, rows _ (fun c hc => by rw [wr_c hc, wr_c hc]), fun x hx => ?_, fun c q hcq => ?_⟩
      · rw [cM_snoc, if_pos h22]
        by_cases x1 : x = 1
        · subst x1; rw [upx_same]; exact wr_same _ _ _ _ _
        · rw [wr_i (show ¬ x = ix 1 from x1), upx_ne x1]; exact hO1 x hx
      · rw [wr_c (by omega), wr_c (by omega), tf c q (by omega)]; exact h3 c q hcq
    · rw [if_neg h22]
      refine hit_some ⟨rfl, rows _ (fun c hc => wr_c hc), fun x hx => ?_, fun c q hcq => ?_⟩
      · rw [cM_snoc, if_neg h22]; exact hO1 x hx
      · rw [wr_c (by omega), tf c q (by omega)]; exact h3 c q hcq
  · rintro s ⟨h1, h2, h3⟩
    have e10 : s 1 0 10 = nI (pO P).length := by rw [h3 1 0 (by omega)]; exact g3
    unfold fX1_settle_L2
    rw [e10]
    simp (disch := omega) only [pn_lt, pn_neg, pn_eq, pn_eq0, pn_eq1, pn_eq2, pn_m1, pn_m1', pn_m1lt, pn_ix, pn_bnd, pn_add1, pn_add3, pn_mul4, nI_add, bd_some, st_eq, rd_eq, if_true, if_false, ite_true, ite_false, reduceIte, Nat.lt_irrefl]
    rw [List.take_length] at h1 h2
    exact hit_some ⟨h1, h2, h3⟩
  · intro q hq
    rw [List.take_zero]
    have := hC.2.1 q hq
    unfold CRo at this ⊢
    obtain ⟨⟨o1, o2, o3, o4, o5, o6, o7⟩, o8⟩ := this
    refine ⟨⟨o1, o2, o3, o4, ?_, ?_, ?_⟩, o8⟩
    · show _ = if q ∈ [] then hag B q + 1 else hag B q
      rw [if_neg (List.not_mem_nil)]; exact o5
    · show _ = nI (if q ∈ [] then pSp P q else hsp B q)
      rw [if_neg (List.not_mem_nil)]; exact o6
    · show _ = nI (if q ∈ [] then pPl P q else hpl B q)
      rw [if_neg (List.not_mem_nil)]; exact o7
  · rw [List.take_zero]
    intro x hx
    rw [hO x hx]
    congr 1
    show c x = upx (upx c 0 (c 0 + 0)) 1 (c 1 + 0) x
    by_cases x1 : x = 1
    · subst x1; rw [upx_same]; rfl
    · rw [upx_ne x1]
      by_cases x0 : x = 0
      · subst x0; rw [upx_same]; rfl
      · rw [upx_ne x0]
  · rintro r s ⟨h1, h2, h3⟩
    have e431 : wr s 54 k (ix 0) 0 43 0 (ix 1) = nI (pF1 P) := by rw [wr_c (by decide), h3 43 0 (by omega)]; exact g7
    rw [st_eq, e431, st_eq]
    have e432 : wr (wr s 54 k (ix 0) 0) 54 k (ix 1) (nI (pF1 P)) 43 0 (ix 2) = nI (pF2 P) := by rw [wr_c (by decide), wr_c (by decide), h3 43 0 (by omega)]; exact g8
    rw [e432, st_eq]
    have e71 : wr (wr (wr s 54 k (ix 0) 0) 54 k (ix 1) (nI (pF1 P))) 54 k (ix 2) (nI (pF2 P)) 7 k 1 = hfl B := by rw [wr_c (by decide), wr_c (by decide), wr_c (by decide), h3 7 k (by omega)]; exact hC.2.2.2.2.1
    rw [e71, st_eq]
    obtain ⟨t, ht⟩ : ∃ t, t = wr (wr (wr (wr s 54 k (ix 0) 0) 54 k (ix 1) (nI (pF1 P))) 54 k (ix 2) (nI (pF2 P))) 7 k 1 (1 - hfl B) := ⟨_, rfl⟩
    rw [← ht]
    have tc : ∀ c, ¬ c = 7 → ¬ c = 54 → t c = s c := fun c c1 c2 => by rw [ht, wr_c c1, wr_c c2, wr_c c2, wr_c c2]
    have tall : ∀ c q, ¬ (c = 37 ∨ (q = k ∧ (c = 7 ∨ c = 49 ∨ c = 50 ∨ c = 51 ∨ c = 54))) → t c q = σ c q := fun c q hcq => by
      by_cases c7 : c = 7
      · have : t c q = s c q := by
          subst c7
          rw [ht, show wr (wr (wr (wr s 54 k (ix 0) 0) 54 k (ix 1) (nI (pF1 P))) 54 k (ix 2) (nI (pF2 P))) 7 k 1 (1 - hfl B) 7 q = wr (wr (wr s 54 k (ix 0) 0) 54 k (ix 1) (nI (pF1 P))) 54 k (ix 2) (nI (pF2 P)) 7 q from wrR_ne _ _ _ _ (by omega), wr_c (by decide), wr_c (by decide), wr_c (by decide)]
        rw [this]; exact h3 c q (by omega)
      · by_cases c54 : c = 54
        · subst c54
          rw [ht, wr_c (by decide), wr_k (by omega), wr_k (by omega), wr_k (by omega)]
          exact h3 54 q (by omega)
        · rw [tc c c7 c54]; exact h3 c q (by omega)
    refine hit_some ⟨⟨?_, fun q hq => ?_, fun r hr => ?_, fun x hx => ?_, ?_, ?_, ?_, ?_⟩, fun x hx => by rw [tc 37 (by decide) (by decide)]; exact h2 x hx, ⟨?_, ?_, ?_⟩, tall⟩
    · rw [ht, wr_i (by decide), wr_c (by decide), wr_c (by decide), wr_c (by decide), h3 7 k (by omega)]; exact hC.1
    · have := h1 q hq
      unfold CRo at this ⊢
      rw [tc 45 (by decide) (by decide), tc 46 (by decide) (by decide), tc 47 (by decide) (by decide), tc 48 (by decide) (by decide), tc 49 (by decide) (by decide), tc 50 (by decide) (by decide), tc 51 (by decide) (by decide), tc 52 (by decide) (by decide)]
      exact this
    · rw [tall 53 k (by omega)]; exact hC.2.2.1 r hr
    · rw [tall 55 k (by omega)]; exact hC.2.2.2.1 x hx
    · rw [ht, wr_same]; rfl
    · exact hC.2.2.2.2.2.1.frame (tall 4 _ (by omega)) (tall 28 _ (by omega))
    · exact hC.2.2.2.2.2.2.1.frame (tall 4 _ (by omega)) (tall 28 _ (by omega))
    · exact hC.2.2.2.2.2.2.2.frame (tall 4 _ (by omega)) (tall 28 _ (by omega))
    · rw [ht, wr_c (by decide), wr_i (show ¬ 0 = ix 2 from (by decide : ¬ 0 = 2)), wr_i (show ¬ 0 = ix 1 from (by decide : ¬ 0 = 1))]
      exact wr_same _ _ _ _ _
    · rw [ht, wr_c (by decide), wr_i (show ¬ 1 = ix 2 from (by decide : ¬ 1 = 2))]
      exact wr_same _ _ _ _ _
    · rw [ht, wr_c (by decide)]
      exact wr_same _ _ _ _ _
