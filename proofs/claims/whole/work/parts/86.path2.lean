/-! path, both sides joined -/
theorem lrA_eq {A : Hp} {r j : Nat} (hr : r < 8) (h : hrt A r = some j) (hno : ∀ r', r' < r → ¬ hrt A r' = some j) : lrA A j = some r := fst1_eq (Nat.zero_le _) (by omega) (decide_eq_true h) (fun k _ hk => decide_eq_false (hno k hk))
theorem m_walks {τ : rS} {A : Hp} (w : OK A) (hM : MR (τ 66 0) A) : hit (fX10_walks τ) (fun _ s => GW s (hn A) (waysA A) ∧ GZ s (fun j => enc (lrA A j)) (waysA A) ∧ MR (s 66 0) A) := by
  have hw := w.n
  unfold fX10_walks
  refine bd_hit (hit_mono (hit_fr (frX10_begins _) (m_begin (hn A))) ?_)
  rintro r0 s0 ⟨hfr0, hG0, -⟩
  have hM0 : MR (s0 66 0) A := hM.frame hfr0 (by decide)
  refine bd_hit (hit_mono (lp_for (I := fun r s => MR (s 66 0) A ∧ ∃ S, GW s (hn A) S ∧ GZ s (fun j => enc (lrA A j)) S ∧ (∀ r', r' < r → ∀ j, hrt A r' = some j → j ∈ S.1) ∧ visR A (-1) (8 - r) r S = visR A (-1) 8 0 gs0) (P := fun _ s => MR (s 66 0) A ∧ GW s (hn A) (visR A (-1) 8 0 gs0) ∧ GZ s (fun j => enc (lrA A j)) (visR A (-1) 8 0 gs0)) (b := 8) ?_ ?_ fu 0 s0 (by omega) (by have := fu_ge; omega) ⟨hM0, gs0, ⟨hG0, fun j (hj : j ∈ ([] : List Nat)) => (List.not_mem_nil hj).elim⟩, fun j (hj : j ∈ ([] : List Nat)) => (List.not_mem_nil hj).elim, fun r' h => absurd h (Nat.not_lt_zero _), rfl⟩) ?_)
  · rintro r s hr ⟨hM', S, hG, hZ, hall, he⟩
    unfold fX10_walks_L6 fX10_walks_j64L6
    obtain ⟨m, hm⟩ : ∃ m, 8 - r = m + 1 := ⟨8 - r - 1, by omega⟩
    have hlo : ¬ nI r = -1 := by rw [pn_m1 (by omega)]; exact id
    have hnext : visR A (-1) (8 - (r + 1)) (r + 1) (vis3 S (hrt A r) none (-1)) = visR A (-1) 8 0 gs0 := by
      rw [← he, hm, show 8 - (r + 1) = m by omega]
      conv => rhs; unfold visR
      rw [if_neg hlo]
    simp (disch := omega) only [pn_lt8, pn_lt, pn_neg, pn_eq, pn_eq0, pn_eq1, pn_eq2, pn_m1, pn_m1', pn_m1lt, pn_ix, pn_bnd, pn_add1, pn_add3, pn_mul4, nI_add, bd_some, st_eq, rd_eq, if_true, if_false, ite_true, ite_false, reduceIte, hr]
    rw [e_rootSpot hM' w hr, bd_some]
    cases hrr : hrt A r with
    | none =>
      rw [enc_none, if_pos rfl]
      rw [hrr] at hnext
      refine hit_some ⟨rfl, hM', S, hG, hZ, fun r' h j hj => ?_, hnext⟩
      by_cases e : r' = r
      · rw [e, hrr] at hj; cases hj
      · exact hall r' (by omega) j hj
    | some j =>
      have hj := w.rt hr hrr
      have h68 := hG.1.2.2.2.2 j (by omega)
      rw [hrr] at hnext
      rw [enc_some, if_neg (by rw [pn_m1 (by omega)]; exact id)]
      by_cases hmj : j ∈ S.1
      · rw [if_pos hmj] at h68
        simp (disch := omega) only [pn_lt, pn_neg, pn_eq, pn_eq0, pn_eq1, pn_eq2, pn_m1, pn_m1', pn_m1lt, pn_ix, pn_bnd, pn_add1, pn_add3, pn_mul4, nI_add, bd_some, st_eq, rd_eq, if_true, if_false, ite_true, ite_false, reduceIte, h68, one_ne]
        rw [vis3_old hmj] at hnext
        refine hit_some ⟨rfl, hM', S, hG, hZ, fun r' h i hi => ?_, hnext⟩
        by_cases e : r' = r
        · rw [e, hrr] at hi; cases hi; exact hmj
        · exact hall r' (by omega) i hi
      · rw [if_neg hmj] at h68
        simp (disch := omega) only [pn_lt, pn_neg, pn_eq, pn_eq0, pn_eq1, pn_eq2, pn_m1, pn_m1', pn_m1lt, pn_ix, pn_bnd, pn_add1, pn_add3, pn_mul4, nI_add, bd_some, st_eq, rd_eq, if_true, if_false, ite_true, ite_false, reduceIte, h68]
        have hmk := m_mark3 (τ := s) (a := -1) (b := nI r) (d := 0) (p := none) (fl := -1) hw hG hmj hj rfl (fun q hq => by cases hq) (fun h => absurd rfl h)
        refine bd_hit (hit_mono hmk ?_)
        rintro r2 s2 ⟨h1, h2, h3, h4⟩
        refine hit_some ⟨rfl, by rw [h2]; exact hM', _, h1, ?_, fun r' h i hi => ?_, hnext⟩
        · rw [vis3_new hmj]
          intro i hi h0
          have h0 : (if i = j then dOf S none else S.2.1 i) = 0 := h0
          by_cases e : i = j
          · rw [e, h3]
            show nI r = enc (lrA A j)
            rw [lrA_eq hr hrr (fun r' h' z => hmj (hall r' h' j z))]
            rfl
          · rw [if_neg e] at h0
            have hi' : i ∈ S.1 := by
              rcases List.mem_append.mp hi with hi | hi
              · exact hi
              · exact absurd (List.mem_singleton.mp hi) e
            rw [h4 i e]
            exact hZ i hi' h0
        · by_cases e : r' = r
          · rw [e, hrr] at hi
            cases hi
            rw [vis3_new hmj]
            exact List.mem_append_right _ (List.mem_singleton.mpr rfl)
          · exact vis3_p (hall r' (by omega) i hi)
  · rintro s ⟨hM', S, hG, hZ, -, he⟩
    unfold fX10_walks_L6
    simp (disch := omega) only [pn_lt8, pn_lt, pn_neg, pn_eq, pn_eq0, pn_eq1, pn_eq2, pn_m1, pn_m1', pn_m1lt, pn_ix, pn_bnd, pn_add1, pn_add3, pn_mul4, nI_add, bd_some, st_eq, rd_eq, if_true, if_false, ite_true, ite_false, reduceIte, Nat.lt_irrefl]
    have he : S = visR A (-1) 8 0 gs0 := he
    refine hit_some ?_
    rw [← he]
    exact ⟨hM', hG, hZ⟩
  rintro r1 s1 ⟨hM1, hG1, hZ1⟩
  exact bd_hit (hit_mono (m_walksOn w hG1 hZ1 hM1) (fun _ _ h => h))
theorem m_path {x y : Int32} {σ : rS} {W : Wd} {b : Nat} (hM : MW σ W) (hI : InvW b W) : hit (fX10_path x y σ) (fun r s => r = aPath W x y ∧ MW s W) := by
  have w := hI.ok
  have hw := w.n
  have hs := hM.t0 0
  unfold fX10_path aPath
  rw [st_eq, m_spot hs.A w x (fun r s => fX10_path_j21 y r s)]
  unfold fX10_path_j21
  cases hf : findA (wS W).1 x with
  | none => rw [enc_none, if_pos rfl]; exact hit_some ⟨rfl, hs⟩
  | some g =>
    have hg := (findA_lt hf).1
    rw [enc_some, if_neg (by rw [pn_m1 (by omega)]; exact id)]
    refine bd_hit (hit_mono (hit_fr2 (frX10_walks _) (fpX10_walks _) (m_walks w hs.A)) ?_)
    rintro r s ⟨hfr, hfp, hG, hZ, hMR⟩
    have hMW : MW s W := hs.walk (fun c hc => hfr c (fun z => hc (subL (by decide) c z))) hfp
    have hGI := waysA_GI (wS W).1
    dsimp only
    generalize waysA (wS W).1 = S at hG hZ hGI
    have hl := nodup_le hG.1.1 hG.1.2.1
    have h68 := hG.1.2.2.2.2 g (by omega)
    unfold aWay
    by_cases hm : g ∈ S.1
    · obtain ⟨hd, h73, -⟩ := hG.2 g hm
      rw [if_pos hm] at h68
      simp (disch := omega) only [pn_lt, pn_neg, pn_eq, pn_eq0, pn_eq1, pn_eq2, pn_m1, pn_m1', pn_m1lt, pn_ix, pn_bnd, pn_add1, pn_add3, pn_mul4, nI_add, bd_some, st_eq, rd_eq, if_true, if_false, ite_true, ite_false, reduceIte, h68, h73, one_ne, if_pos hm]
      by_cases hx : y = -1
      · subst hx
        rw [if_neg (by decide), if_neg (fun z => nI_pos (n := S.2.1 g) (by omega) (Int32.lt_trans z (by decide))), if_pos rfl, if_pos rfl]
        exact hit_some ⟨rfl, hMW⟩
      · simp only [if_neg hx]
        rcases inB_cases y (b := S.2.1 g + 1) (by omega) with ⟨i, hi, rfl, e⟩ | ⟨e, hy | ⟨i, h1, h2, rfl⟩⟩
        · rw [e, if_neg (nm1 (by omega)), if_neg (by rw [pn_lt (by omega) (by omega)]; omega)]
          have key : hit (lp (fun (z : Int32) σ => fX10_path_L74 (nI i) z σ) fu (nI g) s) (fun r t => r = nI (anc S (S.2.1 g - i) g) ∧ t = s) := by
            refine lp_go (I := fun m z t => ∃ q, q ∈ S.1 ∧ i ≤ S.2.1 q ∧ m = S.2.1 q - i ∧ z = nI q ∧ t = s ∧ anc S (S.2.1 q - i) q = anc S (S.2.1 g - i) g) ?_ fu (S.2.1 g - i) _ s (fu_lt (by omega)) ⟨g, hm, by omega, rfl, rfl, rfl, rfl⟩
            rintro m z t ⟨q, hq, hiq, rfl, rfl, rfl, ha⟩
            have hqn := hG.1.2.1 q hq
            obtain ⟨hqd, hq73, hq71⟩ := hG.2 q hq
            unfold fX10_path_L74
            simp (disch := omega) only [pn_lt, pn_neg, pn_eq, pn_eq0, pn_eq1, pn_eq2, pn_m1, pn_m1', pn_m1lt, pn_ix, pn_bnd, pn_add1, pn_add3, pn_mul4, nI_add, bd_some, st_eq, rd_eq, if_true, if_false, ite_true, ite_false, reduceIte, hq73]
            by_cases hlt : i < S.2.1 q
            · rw [if_pos hlt, (hq71 (by omega)).1]
              rcases hGI q hq with h1 | ⟨q', hq', h1, h2⟩
              · omega
              · have hqn' := hG.1.2.1 q' hq'
                rw [h1]
                refine hit_some ⟨S.2.1 q' - i, by omega, q', hq', by omega, rfl, rfl, rfl, ?_⟩
                rw [← ha, h2, show S.2.1 q' + 1 - i = (S.2.1 q' - i) + 1 by omega]
                show _ = anc S (S.2.1 q' - i) (ix (S.2.2.1 q))
                rw [h1, show ix (nI q') = q' from pn_ix (by omega)]
            · rw [if_neg hlt]
              refine hit_some ⟨?_, rfl⟩
              rw [← ha, show S.2.1 q - i = 0 by omega]
              rfl
          rw [eq_of_hit key, bd_some]
          obtain ⟨h5, h6⟩ := anc_in hGI hG.1.2.1 hw (S.2.1 g - i) g hm (by omega)
          dsimp only
          generalize anc S (S.2.1 g - i) g = z at h5 h6
          have hz := hG.1.2.1 z h5
          simp (disch := omega) only [pn_lt, pn_neg, pn_eq, pn_eq0, pn_eq1, pn_eq2, pn_m1, pn_m1', pn_m1lt, pn_ix, pn_bnd, pn_add1, pn_add3, pn_mul4, nI_add, bd_some, st_eq, rd_eq, if_true, if_false, ite_true, ite_false, reduceIte]
          by_cases i0 : i = 0
          · rw [if_pos i0, hZ z h5 (by omega)]
            exact hit_some ⟨rfl, hMW⟩
          · rw [if_neg i0, ((hG.2 z h5).2.2 (by omega)).2]
            exact hit_some ⟨rfl, hMW⟩
        · have hm1 : y < -1 := by
            rw [Int32.lt_iff_toInt_lt] at hy ⊢
            have e0 : (0 : Int32).toInt = 0 := by decide
            have e' : (-1 : Int32).toInt = -1 := by decide
            have : ¬ y.toInt = -1 := fun z => hx (Int32.toInt_inj.mp (z.trans e'.symm))
            omega
          rw [e, if_pos hm1]
          exact hit_some ⟨rfl, hMW⟩
        · rw [e, if_neg (nm1 (by omega)), if_pos (by rw [pn_lt (by omega) (by omega)]; omega)]
          exact hit_some ⟨rfl, hMW⟩
    · rw [if_neg hm] at h68
      simp (disch := omega) only [pn_lt, pn_neg, pn_eq, pn_eq0, pn_eq1, pn_eq2, pn_m1, pn_m1', pn_m1lt, pn_ix, pn_bnd, pn_add1, pn_add3, pn_mul4, nI_add, bd_some, st_eq, rd_eq, if_true, if_false, ite_true, ite_false, reduceIte, h68, if_neg hm]
      exact hit_some ⟨rfl, hMW⟩
theorem pl_24 {xs : Nat → Int32} {n : Nat} {σ : rS} {W : Wd} (hC : CW σ W) (hM : MW σ W) (hI : InvW (40 * n) W) : PL_24 xs n σ (IW (n + 1)) := pl_w hM hI (frX9_path _ _ _) (isC_of (by decide)) (fun s => frX10_path _ _ s) (isM_of (by decide)) (c_path hC hI) (fun _ hs => m_path hs hI)
