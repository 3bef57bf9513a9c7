/-! breadth first, the model's side -/
theorem mr_W : ¬ (66 : Nat) ∈ [10, 68, 69] := by decide
theorem MR.frame {τ s : rS} {v : Nat} {A : Hp} (h : MR (τ 66 v) A) {W : List Nat} (hf : ∀ c, ¬ c ∈ W → s c = τ c) (hW : ¬ (66 : Nat) ∈ W) : MR (s 66 v) A := by
  rw [hf 66 hW]
  exact h
theorem m_begin {τ : rS} (n : Nat) : hit (fX10_begins τ) (fun _ s => GM s n [] ∧ s 10 0 27 = 0) := by
  unfold fX10_begins
  refine bd_hit (hit_mono (lp_for (I := fun i s => ∀ j, j < i → s 68 0 j = 0) (P := fun _ s => ∀ j, j < 80 → s 68 0 j = 0) (b := 80) ?_ ?_ fu 0 τ (by omega) (by have := fu_ge; omega) (fun j hj => absurd hj (Nat.not_lt_zero _))) ?_)
  · intro i s hi hI
    unfold fX10_begins_L2
    simp (disch := omega) only [pn_lt80, pn_lt, pn_neg, pn_eq, pn_eq0, pn_eq1, pn_eq2, pn_m1, pn_m1', pn_m1lt, pn_ix, pn_bnd, pn_add1, pn_add3, pn_mul4, nI_add, bd_some, st_eq, rd_eq, if_true, if_false, ite_true, ite_false, reduceIte, hi]
    refine hit_some ⟨rfl, fun j hj => ?_⟩
    by_cases e : j = i
    · subst e; exact wr_same _ _ _ _ _
    · rw [wr_i e]; exact hI j (by omega)
  · intro s hI
    unfold fX10_begins_L2
    simp (disch := omega) only [pn_lt80, pn_lt, pn_neg, pn_eq, pn_eq0, pn_eq1, pn_eq2, pn_m1, pn_m1', pn_m1lt, pn_ix, pn_bnd, pn_add1, pn_add3, pn_mul4, nI_add, bd_some, st_eq, rd_eq, if_true, if_false, ite_true, ite_false, reduceIte, Nat.lt_irrefl]
    exact hit_some hI
  · intro r s hI
    refine hit_some ⟨⟨List.nodup_nil, fun j (hj : j ∈ ([] : List Nat)) => (List.not_mem_nil hj).elim, ?_, fun i hi => absurd hi (Nat.not_lt_zero _), fun j hj => ?_⟩, wr_same _ _ _ _ _⟩
    · rw [wr_i (by decide), wr_same]; rfl
    · rw [wr_c (by decide), wr_c (by decide), hI j hj]; rfl
theorem m_marksAll_in {τ : rS} {v j : Nat} {A : Hp} {Q : List Nat} (w : OK A) (hM : MR (τ 66 v) A) (hj : j < hn A) (hG : GM τ (hn A) Q) (x3 : Int32) : hit (lp (fun (x : Int32) σ => fX10_marksAll_L21 v x3 (nI j) x σ) fu 0 τ) (fun _ s => MR (s 66 v) A ∧ GM s (hn A) (sprQ A j (hsz A j - fst0 A j) (fst0 A j) Q)) := by
  have hw := w.n
  have hz := w.sz hj
  have hf0 : fst0 A j ≤ 1 := by unfold fst0; split <;> omega
  refine lp_go (I := fun m x s => ∃ f Q', x = nI f ∧ f ≤ 5 ∧ m = hsz A j - f ∧ MR (s 66 v) A ∧ GM s (hn A) Q' ∧ sprQ A j (hsz A j - max f (fst0 A j)) (max f (fst0 A j)) Q' = sprQ A j (hsz A j - fst0 A j) (fst0 A j) Q) ?_ fu (hsz A j) _ τ (fu_lt (by omega)) ⟨0, Q, rfl, by omega, rfl, hM, hG, by rw [Nat.zero_max]⟩
  rintro m x s ⟨f, Q', rfl, hf5, rfl, hM', hG', he⟩
  unfold fX10_marksAll_L21 fX10_marksAll_j63L21
  rw [e_of2 hM' w hj, bd_some]
  simp (disch := omega) only [pn_lt, pn_neg, pn_eq, pn_eq0, pn_eq1, pn_eq2, pn_m1, pn_m1', pn_m1lt, pn_ix, pn_bnd, pn_add1, pn_add3, pn_mul4, nI_add, bd_some, st_eq, rd_eq, if_true, if_false, ite_true, ite_false, reduceIte]
  by_cases hf : f < hsz A j
  · rw [if_pos hf, e_isWeakM hM' w hj (by omega), bd_some]
    by_cases hwk : f < fst0 A j
    · rw [if_pos hwk, if_neg (by decide)]
      refine hit_some ⟨hsz A j - (f + 1), by omega, f + 1, Q', rfl, by omega, rfl, hM', hG', ?_⟩
      rw [← he, show max (f + 1) (fst0 A j) = max f (fst0 A j) by omega]
    · rw [if_neg hwk, if_pos rfl, e_of7 hM' w hj hf, bd_some, e_spotOf_o hM' w (fun i hi => w.lk hj hf hi), bd_some]
      refine bd_hit (hit_mono (hit_fr (frX10_marks _ _) (m_marks hw hG' (fun i hi => w.lk hj hf hi))) ?_)
      rintro r s2 ⟨hfr, hG2⟩
      obtain ⟨m, hm2⟩ : ∃ m, hsz A j - f = m + 1 := ⟨hsz A j - f - 1, by omega⟩
      refine hit_some ⟨hsz A j - (f + 1), by omega, f + 1, _, rfl, by omega, rfl, hM'.frame hfr mr_W, hG2, ?_⟩
      rw [← he, show max (f + 1) (fst0 A j) = f + 1 by omega, show max f (fst0 A j) = f by omega, hm2, show hsz A j - (f + 1) = m by omega]
      rfl
  · rw [if_neg hf]
    refine hit_some ⟨hM', ?_⟩
    rw [← he, show hsz A j - max f (fst0 A j) = 0 by omega]
    exact hG'
theorem m_marksAll {τ : rS} {v : Nat} {A : Hp} {Q : List Nat} (w : OK A) (hM : MR (τ 66 v) A) (hG : GM τ (hn A) Q) {i : Nat} (hi : i ≤ 80) : hit (fX10_marksAll v (nI i) τ) (fun _ s => MR (s 66 v) A ∧ GM s (hn A) (bfsQ A (80 - i) i Q)) := by
  have hw := w.n
  unfold fX10_marksAll
  refine bd_hit (hit_mono (lp_go (I := fun m x s => ∃ i' Q', x = nI i' ∧ i' ≤ 80 ∧ m = 80 - i' ∧ MR (s 66 v) A ∧ GM s (hn A) Q' ∧ bfsQ A (80 - i') i' Q' = bfsQ A (80 - i) i Q) (P := fun _ s => MR (s 66 v) A ∧ GM s (hn A) (bfsQ A (80 - i) i Q)) ?_ fu (80 - i) _ τ (fu_lt (by omega)) ⟨i, Q, rfl, hi, rfl, hM, hG, rfl⟩) (fun _ s h => h))
  rintro m x s ⟨i', Q', rfl, hi', rfl, hM', hG', he⟩
  have hlen := nodup_le hG'.1 hG'.2.1
  unfold fX10_marksAll_L2
  rw [hG'.2.2.1]
  simp (disch := omega) only [pn_lt, pn_neg, pn_eq, pn_eq0, pn_eq1, pn_eq2, pn_m1, pn_m1', pn_m1lt, pn_ix, pn_bnd, pn_add1, pn_add3, pn_mul4, nI_add, bd_some, st_eq, rd_eq, if_true, if_false, ite_true, ite_false, reduceIte]
  by_cases hlt : i' < Q'.length
  · have hmem := getD_mem hlt
    have hj := hG'.2.1 _ hmem
    rw [if_pos hlt]
    simp (disch := omega) only [pn_lt, pn_neg, pn_eq, pn_eq0, pn_eq1, pn_eq2, pn_m1, pn_m1', pn_m1lt, pn_ix, pn_bnd, pn_add1, pn_add3, pn_mul4, nI_add, bd_some, st_eq, rd_eq, if_true, if_false, ite_true, ite_false, reduceIte, hG'.2.2.2.1 i' hlt]
    refine bd_hit (hit_mono (m_marksAll_in w hM' hj hG' (nI i')) ?_)
    rintro r s2 ⟨hM2, hG2⟩
    obtain ⟨m, hm2⟩ : ∃ m, 80 - i' = m + 1 := ⟨80 - i' - 1, by omega⟩
    refine hit_some ⟨80 - (i' + 1), by omega, i' + 1, _, rfl, by omega, rfl, hM2, hG2, ?_⟩
    rw [← he, hm2, show 80 - (i' + 1) = m by omega]
    conv => rhs; unfold bfsQ
    rw [if_pos hlt]
  · rw [if_neg hlt]
    refine hit_some ⟨hM', ?_⟩
    have e2 : bfsQ A (80 - i') i' Q' = Q' := by
      cases h : 80 - i' with
      | zero => rfl
      | succ m => unfold bfsQ; rw [if_neg hlt]
    rw [← he, e2]
    exact hG'
theorem m_reach {τ : rS} {v : Nat} {A : Hp} (w : OK A) (hM : MR (τ 66 v) A) (hel : (hen A).length ≤ 80) (lo : Int32) : hit (fX10_reaches v lo 1 τ) (fun _ s => MR (s 66 v) A ∧ GM s (hn A) (reachQ A lo)) := by
  have hw := w.n
  unfold fX10_reaches
  refine bd_hit (hit_mono (hit_fr (frX10_begins _) (m_begin (hn A))) ?_)
  rintro r0 s0 ⟨hfr0, hG0, -⟩
  have hM0 : MR (s0 66 v) A := hM.frame hfr0 (by decide)
  refine bd_hit (hit_mono (lp_for (I := fun r s => MR (s 66 v) A ∧ ∃ Q, GM s (hn A) Q ∧ visRQ A lo (8 - r) r Q = visRQ A lo 8 0 []) (P := fun _ s => MR (s 66 v) A ∧ GM s (hn A) (visRQ A lo 8 0 [])) (b := 8) ?_ ?_ fu 0 s0 (by omega) (by have := fu_ge; omega) ⟨hM0, [], hG0, rfl⟩) ?_)
  · rintro r s hr ⟨hM', Q, hG, he⟩
    unfold fX10_reaches_L7 fX10_reaches_j36L7
    simp (disch := omega) only [pn_lt8, pn_lt, pn_neg, pn_eq, pn_eq0, pn_eq1, pn_eq2, pn_m1, pn_m1', pn_m1lt, pn_ix, pn_bnd, pn_add1, pn_add3, pn_mul4, nI_add, bd_some, st_eq, rd_eq, if_true, if_false, ite_true, ite_false, reduceIte, hr]
    obtain ⟨m, hm⟩ : ∃ m, 8 - r = m + 1 := ⟨8 - r - 1, by omega⟩
    by_cases hlo : nI r = lo
    · rw [if_pos hlo]
      refine hit_some ⟨rfl, hM', Q, hG, ?_⟩
      rw [← he, hm, show 8 - (r + 1) = m by omega]
      conv => rhs; unfold visRQ
      rw [if_pos hlo]
    · rw [if_neg hlo]
      have e : (881 : Int32) + nI r = nI (881 + r) := nI_add 881 r
      rw [e]
      simp (disch := omega) only [pn_lt, pn_neg, pn_eq, pn_eq0, pn_eq1, pn_eq2, pn_m1, pn_m1', pn_m1lt, pn_ix, pn_bnd, pn_add1, pn_add3, pn_mul4, nI_add, bd_some, st_eq, rd_eq, if_true, if_false, ite_true, ite_false, reduceIte, hM'.rt hr]
      rw [e_spotOf_o hM' w (fun i hi => w.rt hr hi), bd_some]
      refine bd_hit (hit_mono (hit_fr (frX10_marks _ _) (m_marks hw hG (fun i hi => w.rt hr hi))) ?_)
      rintro r2 s2 ⟨hfr, hG2⟩
      refine hit_some ⟨rfl, hM'.frame hfr mr_W, _, hG2, ?_⟩
      rw [← he, hm, show 8 - (r + 1) = m by omega]
      conv => rhs; unfold visRQ
      rw [if_neg hlo]
  · rintro s ⟨hM', Q, hG, he⟩
    unfold fX10_reaches_L7
    simp (disch := omega) only [pn_lt8, pn_lt, pn_neg, pn_eq, pn_eq0, pn_eq1, pn_eq2, pn_m1, pn_m1', pn_m1lt, pn_ix, pn_bnd, pn_add1, pn_add3, pn_mul4, nI_add, bd_some, st_eq, rd_eq, if_true, if_false, ite_true, ite_false, reduceIte, Nat.lt_irrefl]
    refine hit_some ⟨hM', ?_⟩
    rw [← he]
    exact hG
  rintro r1 s1 ⟨hM1, hG1⟩
  refine bd_hit (hit_mono (lp_for (I := fun i s => MR (s 66 v) A ∧ ∃ Q, GM s (hn A) Q ∧ visEQ ((hen A).drop i) Q = visEQ (hen A) (visRQ A lo 8 0 [])) (P := fun _ s => MR (s 66 v) A ∧ GM s (hn A) (visEQ (hen A) (visRQ A lo 8 0 []))) (b := (hen A).length) ?_ ?_ fu 0 s1 (by omega) (by have := fu_ge; omega) ⟨hM1, _, hG1, rfl⟩) ?_)
  · rintro i s hi ⟨hM', Q, hG, he⟩
    unfold fX10_reaches_L45
    have e : (1243 : Int32) + nI i = nI (1243 + i) := nI_add 1243 i
    have h0 : s 66 v (ix 1242) = nI (hen A).length := hM'.en
    rw [if_neg (by decide), e, h0]
    simp (disch := omega) only [pn_lt, pn_neg, pn_eq, pn_eq0, pn_eq1, pn_eq2, pn_m1, pn_m1', pn_m1lt, pn_ix, pn_bnd, pn_add1, pn_add3, pn_mul4, nI_add, bd_some, st_eq, rd_eq, if_true, if_false, ite_true, ite_false, reduceIte, hi, hM'.eni hi]
    have hmem := w.en (getD_mem hi)
    have ho : ∀ j, (some ((hen A).getD i 0)) = some j → j < hn A := fun j hj => by cases hj; exact hmem
    have e2 := e_spotOf_o hM' w ho
    rw [show nI (hnum A ((hen A).getD i 0)) = encN A (some ((hen A).getD i 0)) from rfl, e2, bd_some]
    refine bd_hit (hit_mono (hit_fr (frX10_marks _ _) (m_marks hw hG ho)) ?_)
    rintro r2 s2 ⟨hfr, hG2⟩
    refine hit_some ⟨rfl, hM'.frame hfr mr_W, _, hG2, ?_⟩
    rw [← he, drop_cons hi]
    rfl
  · rintro s ⟨hM', Q, hG, he⟩
    unfold fX10_reaches_L45
    have h0 : s 66 v (ix 1242) = nI (hen A).length := hM'.en
    rw [if_neg (by decide), h0]
    simp (disch := omega) only [pn_lt, pn_neg, pn_eq, pn_eq0, pn_eq1, pn_eq2, pn_m1, pn_m1', pn_m1lt, pn_ix, pn_bnd, pn_add1, pn_add3, pn_mul4, nI_add, bd_some, st_eq, rd_eq, if_true, if_false, ite_true, ite_false, reduceIte, Nat.lt_irrefl]
    refine hit_some ⟨hM', ?_⟩
    rw [← he, List.drop_length]
    exact hG
  rintro r2 s2 ⟨hM2, hG2⟩
  unfold fX10_reaches_j81
  exact bd_hit (hit_mono (m_marksAll w hM2 hG2 (i := 0) (by omega)) (fun _ _ h => h))
