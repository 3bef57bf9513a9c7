/-! thing -/
theorem c_thing {x : Int32} {σ : rS} {W : Wd} {b j f : Nat} (hC : CW σ W) (hI : InvW b W) (hf : findA (wS W).1 x = some j) (h8 : f < 8) : hit (fX9_thing x (nI f) σ) (fun r s => r = aThg (wS W).1 j f ∧ CW s W) := by
  have w := hI.ok
  have hw := w.n
  have hj := (findA_lt hf).1
  unfold fX9_thing aThg
  rw [e_find hC.A w, bd_some, hf, enc_some, if_neg (by rw [pn_m1 (by omega)]; exact id), if_neg (nI_pos (by omega)), if_neg (show ¬ (7 : Int32) < nI f by show ¬ nI 7 < nI f; rw [pn_lt (by omega) (by omega)]; omega)]
  simp only [pn_lit (a := f) (b := 0) (y := 0) (by omega) (by omega) rfl, pn_lit (a := f) (b := 1) (y := 1) (by omega) (by omega) rfl, pn_lit (a := f) (b := 2) (y := 2) (by omega) (by omega) rfl, pn_lit (a := f) (b := 3) (y := 3) (by omega) (by omega) rfl, pn_lit (a := f) (b := 4) (y := 4) (by omega) (by omega) rfl, pn_lit (a := f) (b := 5) (y := 5) (by omega) (by omega) rfl, pn_lit (a := f) (b := 6) (y := 6) (by omega) (by omega) rfl]
  simp (disch := omega) only [pn_bnd, pn_ix, hC.A.sp hj, hC.A.pl hj, hC.A.kd hj, hC.A.sz hj, hC.A.dt hj, hC.A.ag hj]
  by_cases e0 : f = 0
  · simp only [if_pos e0]; exact hit_some ⟨rfl, hC⟩
  · simp only [if_neg e0]
    by_cases e1 : f = 1
    · simp only [if_pos e1]; exact hit_some ⟨rfl, hC⟩
    · simp only [if_neg e1]
      by_cases e2 : f = 2
      · simp only [if_pos e2]; exact hit_some ⟨rfl, hC⟩
      · simp only [if_neg e2]
        by_cases e3 : f = 3
        · simp only [if_pos e3]; exact hit_some ⟨rfl, hC⟩
        · simp only [if_neg e3]
          by_cases e4 : f = 4
          · simp only [if_pos e4]; exact hit_some ⟨rfl, hC⟩
          · simp only [if_neg e4]
            by_cases e5 : f = 5
            · simp only [if_pos e5]; exact hit_some ⟨rfl, hC⟩
            · simp only [if_neg e5]
              by_cases e6 : f = 6
              · simp only [if_pos e6]
                unfold fX9_isReached
                refine bd_hit (bd_hit (hit_mono (c_reachW hC hI (-1)) ?_))
                rintro r s ⟨hC2, hG⟩
                have h30 := hG.2.2.2.2.1 j (by omega)
                rw [reachA_1] at h30
                unfold fX3_isSeen
                simp (disch := omega) only [pn_lt, pn_neg, pn_eq, pn_eq0, pn_eq1, pn_eq2, pn_m1, pn_m1', pn_m1lt, pn_ix, pn_bnd, pn_add1, pn_add3, pn_mul4, nI_add, bd_some, st_eq, rd_eq, if_true, if_false, ite_true, ite_false, reduceIte, pn_lt80, h30, show j < 80 by omega]
                by_cases hm : j ∈ reachQ (wS W).1 (-1)
                · simp only [if_pos hm, if_neg one_ne]
                  exact hit_some (hit_some ⟨rfl, hC2⟩)
                · simp only [if_neg hm]
                  exact hit_some (hit_some ⟨rfl, hC2⟩)
              · simp only [if_neg e6]
                rw [c_holdsEnd hC.A w hj, bd_some]
                by_cases hm : j ∈ hen (wS W).1
                · simp only [if_pos hm, if_neg one_ne]; exact hit_some ⟨rfl, hC⟩
                · simp only [if_neg hm]; exact hit_some ⟨rfl, hC⟩
theorem m_isEnding {τ : rS} {A : Hp} {j : Nat} (hM : MR (τ 66 0) A) (w : OK A) (hel : (hen A).length ≤ 78) (hj : j < hn A) : fX10_isEnding (nI (hnum A j)) τ = some (if j ∈ hen A then 1 else 0, τ) := by
  have hw := w.n
  have h2 := w.num2 hj
  unfold fX10_isEnding
  have key : ∀ (f i : Nat), i ≤ (hen A).length → (hen A).length < i + f → lp (fun (x : Int32) σ => fX10_isEnding_L2 (nI (hnum A j)) x σ) f (nI i) τ = some (if j ∈ (hen A).drop i then .inl () else .inr (), τ) := by
    intro f
    induction f with
    | zero => intro i h h'; omega
    | succ f ih =>
      intro i hi hf
      unfold lp fX10_isEnding_L2
      have h0 : τ 66 0 (ix 1242) = nI (hen A).length := hM.en
      have e4 : (1243 : Int32) + nI i = nI (1243 + i) := nI_add 1243 i
      rw [h0, e4]
      by_cases hlt : i < (hen A).length
      · have hq := w.en (getD_mem hlt)
        have h3 := w.num2 hq
        simp (disch := omega) only [pn_lt, pn_neg, pn_eq, pn_eq0, pn_eq1, pn_eq2, pn_m1, pn_m1', pn_m1lt, pn_ix, pn_bnd, pn_add1, pn_add3, pn_mul4, nI_add, bd_some, st_eq, rd_eq, if_true, if_false, ite_true, ite_false, reduceIte, hlt, hM.eni hlt]
        rw [drop_cons hlt]
        by_cases e : hnum A ((hen A).getD i 0) = hnum A j
        · have : (hen A).getD i 0 = j := w.inj hq hj e
          rw [if_pos e, bd_some, if_pos (by rw [this]; exact List.mem_cons_self)]
        · rw [if_neg e, bd_some]
          have := ih (i + 1) (by omega) (by omega)
          refine this.trans ?_
          have e5 : j ∈ (hen A).getD i 0 :: (hen A).drop (i + 1) ↔ j ∈ (hen A).drop (i + 1) := by
            constructor
            · intro hm
              rcases List.mem_cons.mp hm with hm | hm
              · exact absurd (by rw [← hm]) e
              · exact hm
            · exact List.mem_cons_of_mem _
          simp only [e5]
      · simp (disch := omega) only [pn_lt, pn_neg, pn_eq, pn_eq0, pn_eq1, pn_eq2, pn_m1, pn_m1', pn_m1lt, pn_ix, pn_bnd, pn_add1, pn_add3, pn_mul4, nI_add, bd_some, st_eq, rd_eq, if_true, if_false, ite_true, ite_false, reduceIte, hlt]
        rw [List.drop_of_length_le (by omega), if_neg List.not_mem_nil]
  have e := key fu 0 (by omega) (by have := fu_ge; omega)
  have e : lp (fun (x : Int32) σ => fX10_isEnding_L2 (nI (hnum A j)) x σ) fu 0 τ = _ := e
  rw [e, bd_some, List.drop_zero]
  by_cases hm : j ∈ hen A
  · rw [if_pos hm, if_pos hm]
  · rw [if_neg hm, if_neg hm]
theorem m_thing {x : Int32} {σ : rS} {W : Wd} {b j f : Nat} (hM : MW σ W) (hI : InvW b W) (hf : findA (wS W).1 x = some j) (h8 : f < 8) : hit (fX10_thing x (nI f) σ) (fun r s => r = aThg (wS W).1 j f ∧ MW s W ∧ s 10 0 0 = 0) := by
  have w := hI.ok
  have hw := w.n
  have hs := hM.t0 0
  have hel := hI.A.en
  obtain ⟨hj, hx⟩ := findA_lt hf
  have hz : wr σ 10 0 0 0 10 0 0 = 0 := wr_same _ _ _ _ _
  unfold fX10_thing
  rw [st_eq, m_spot hs.A w x (fun r s => fX10_thing_j21 x (nI f) r s), hf, enc_some]
  unfold fX10_thing_j21 aThg
  rw [if_neg (by rw [pn_m1 (by omega)]; exact id), show (7 : Int64) = (nI 7).toInt64 by decide, m_in (nI f) (by omega), bd_some, inB_nI (by omega), if_pos h8, if_neg one_ne]
  simp only [pn_lit (a := f) (b := 0) (y := 0) (by omega) (by omega) rfl, pn_lit (a := f) (b := 1) (y := 1) (by omega) (by omega) rfl, pn_lit (a := f) (b := 6) (y := 6) (by omega) (by omega) rfl, pn_lit (a := f) (b := 7) (y := 7) (by omega) (by omega) rfl]
  by_cases e0 : f = 0
  · simp only [if_pos e0]; rw [e_of5 hs.A w hj]; exact hit_some ⟨rfl, hs, hz⟩
  · simp only [if_neg e0]
    by_cases e1 : f = 1
    · simp only [if_pos e1]; rw [e_of6 hs.A w hj]; exact hit_some ⟨rfl, hs, hz⟩
    · simp only [if_neg e1]
      by_cases e6 : f = 6
      · simp only [if_pos e6, if_neg (show ¬ f = 2 by omega), if_neg (show ¬ f = 3 by omega), if_neg (show ¬ f = 4 by omega), if_neg (show ¬ f = 5 by omega)]
        obtain ⟨r, s, e, hM2, hG⟩ := hit_iff.mp (m_reachW hs hI (-1))
        have hz2 : s 10 0 0 = 0 := (fqX10_reaches 0 (-1) 1 _ r s e 0 rfl).trans hz
        rw [e, bd_some]
        have h30 := hG.2.2.2.2 j (by omega)
        simp (disch := omega) only [pn_lt, pn_neg, pn_eq, pn_eq0, pn_eq1, pn_eq2, pn_m1, pn_m1', pn_m1lt, pn_ix, pn_bnd, pn_add1, pn_add3, pn_mul4, nI_add, bd_some, st_eq, rd_eq, if_true, if_false, ite_true, ite_false, reduceIte, h30]
        by_cases hm : j ∈ reachQ (wS W).1 (-1)
        · simp only [if_pos hm, if_neg one_ne]; exact hit_some ⟨rfl, hM2, hz2⟩
        · simp only [if_neg hm]; exact hit_some ⟨rfl, hM2, hz2⟩
      · simp only [if_neg e6]
        by_cases e7 : f = 7
        · simp only [if_pos e7, if_neg (show ¬ f = 2 by omega), if_neg (show ¬ f = 3 by omega), if_neg (show ¬ f = 4 by omega), if_neg (show ¬ f = 5 by omega)]
          rw [← hx, m_isEnding hs.A w hel hj, bd_some]
          by_cases hm : j ∈ hen (wS W).1
          · simp only [if_pos hm, if_neg one_ne]; exact hit_some ⟨rfl, hs, hz⟩
          · simp only [if_neg hm]; exact hit_some ⟨rfl, hs, hz⟩
        · simp only [if_neg e7]
          rw [pn_sub1 (by omega)]
          by_cases e2 : f = 2
          · simp only [if_pos e2]; rw [e2]; have e := e_of1 hs.A w hj; have e : fX10_of 0 (nI j) (nI (2 - 1)) _ = _ := e; rw [e]; exact hit_some ⟨rfl, hs, hz⟩
          · simp only [if_neg e2]
            by_cases e3 : f = 3
            · simp only [if_pos e3]; rw [e3]; have e := e_of2 hs.A w hj; have e : fX10_of 0 (nI j) (nI (3 - 1)) _ = _ := e; rw [e]; exact hit_some ⟨rfl, hs, hz⟩
            · simp only [if_neg e3]
              by_cases e4 : f = 4
              · simp only [if_pos e4]; rw [e4]; have e := e_of3 hs.A w hj; have e : fX10_of 0 (nI j) (nI (4 - 1)) _ = _ := e; rw [e]; exact hit_some ⟨rfl, hs, hz⟩
              · have e5 : f = 5 := by omega
                simp only [if_neg e4, if_pos e5]; rw [e5]; have e := e_of4 hs.A w hj; have e : fX10_of 0 (nI j) (nI (5 - 1)) _ = _ := e; rw [e]; exact hit_some ⟨rfl, hs, hz⟩
theorem m_thing_no {x y : Int32} {σ : rS} {W : Wd} {b : Nat} (hM : MW σ W) (hI : InvW b W) (h : findA (wS W).1 x = none ∨ inB y 8 = none) : hit (fX10_thing x y σ) (fun _ s => MW s W ∧ s 10 0 0 = 1 ∧ ∀ c, isC c → s c = σ c) := by
  have w := hI.ok
  have hw := w.n
  have hs := hM.t0 0
  have hfr : ∀ c, isC c → wr (wr σ 10 0 0 0) 10 0 0 1 c = σ c := fun c hc => by rw [wr_c hc.1, wr_c hc.1]
  unfold fX10_thing
  rw [st_eq, m_spot hs.A w x (fun r s => fX10_thing_j21 x y r s)]
  unfold fX10_thing_j21
  cases hf : findA (wS W).1 x with
  | none =>
    rw [enc_none, if_pos rfl, st_eq]
    exact hit_some ⟨hs.t0 1, wr_same _ _ _ _ _, hfr⟩
  | some j =>
    have hj := (findA_lt hf).1
    have h2 : inB y 8 = none := by
      rcases h with h | h
      · rw [hf] at h; cases h
      · exact h
    rw [enc_some, if_neg (by rw [pn_m1 (by omega)]; exact id), show (7 : Int64) = (nI 7).toInt64 by decide, m_in y (by omega), bd_some, h2, if_pos rfl, st_eq]
    exact hit_some ⟨hs.t0 1, wr_same _ _ _ _ _, hfr⟩
theorem MW.out {σ : rS} {W : Wd} (h : MW σ W) (v : Int64) : MW (setOut σ v) W := by
  unfold setOut
  refine h.of_eq (fun c hc h1 h2 h3 h4 => ?_) (by rw [wr_c (by decide), wr_c (by decide)]) (by rw [wr_c (by decide), wr_c (by decide)]) (fun i _ => by rw [wr_c (by decide), wr_c (by decide)])
  rw [wr_c (by omega), wr_c (by omega)]
theorem pl_6 {xs : Nat → Int32} {n : Nat} {σ : rS} {W : Wd} (hC : CW σ W) (hM : MW σ W) (hI : InvW (40 * n) W) : PL_6 xs n σ (IW (n + 1)) := by
  unfold PL_6
  generalize xs (6 * n + 1) = x
  generalize xs (6 * n + 2) = y
  have w := hI.ok
  have hw := w.n
  have hnone : (findA (wS W).1 x = none ∨ inB y 8 = none) → ∃ r σ2, fX10_thing x y σ = some (r, σ2) ∧ σ2 10 0 0 = 1 ∧ IW (n + 1) σ2 := fun h => by
    obtain ⟨r, s, e, hM2, h1, hc⟩ := hit_iff.mp (m_thing_no hM hI h)
    exact ⟨r, s, e, h1, W, hC.of_eq hc, hM2, hI.next⟩
  cases hf : findA (wS W).1 x with
  | none =>
    refine Or.inl ⟨hit_eq (e_find hC.A w x) ⟨rfl, Or.inl ?_⟩, hnone (Or.inl hf)⟩
    rw [hf]; rfl
  | some j =>
    have hj := (findA_lt hf).1
    rcases inB_cases y (b := 8) (by omega) with ⟨f, h8, rfl, e⟩ | ⟨e, hy⟩
    · right
      obtain ⟨v, s, e1, rfl, hC2⟩ := hit_iff.mp (c_thing hC hI hf h8)
      have hM2 : MW s W := hM.of_eq' (fun c hc => frX9_thing x (nI f) σ _ s e1 c (fun hin => by
        have h1 := isC_of (V := [3, 30, 31, 32, 33, 34]) (by decide) c hin
        unfold isC at h1
        unfold isM at hc
        omega))
      obtain ⟨v2, s2, e2, rfl, hM3, hz⟩ := hit_iff.mp (m_thing (hM2.out (aThg (wS W).1 j f).toInt64) hI hf h8)
      refine ⟨_, s, s2, e1, e2, hz, W, hC2.of_eq (fun c hc => ?_), hM3, hI.next⟩
      have hfr := frX10_thing x (nI f) _ _ s2 e2 c (fun hin => by
        have h1 := isM_of (V := [10, 68, 69]) (by decide) c hin
        unfold isM at h1
        unfold isC at hc
        omega)
      rw [hfr]
      unfold setOut
      rw [wr_c (by unfold isC at hc; omega), wr_c (by unfold isC at hc; omega)]
    · refine Or.inl ⟨hit_eq (e_find hC.A w x) ⟨rfl, Or.inr ?_⟩, hnone (Or.inr e)⟩
      rcases hy with hy | ⟨i, h1, h2, rfl⟩
      · exact Or.inl hy
      · right
        show nI 7 < nI i
        rw [pn_lt (by omega) (by omega)]
        omega
