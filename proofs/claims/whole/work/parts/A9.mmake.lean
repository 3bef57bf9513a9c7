/-! make an object, on the model's row v -/
theorem MR.add {m m' : Nat → Int32} {B : Hp} {kd d : Int32} {f mm : Nat} (h : MR m B) (w : OK B) (hb : Bd B) (h78 : hn B + 1 ≤ 78) (hf : f ≤ 4) (e0 : m' 0 = nI (hn B + 1)) (eN : m' (1 + 11 * hn B) = nI (mm + 1) ∧ m' (2 + 11 * hn B) = kd ∧ m' (3 + 11 * hn B) = nI f ∧ m' (4 + 11 * hn B) = d ∧ m' (5 + 11 * hn B) = 0 ∧ m' (6 + 11 * hn B) = 0 ∧ m' (7 + 11 * hn B) = nI (usedA B 0)) (eL : ∀ g, g < 4 → m' (8 + 11 * hn B + g) = 0) (eT : m' 1364 = nI (mm + 1)) (e : ∀ i, i < 1373 → ¬ i = 0 → ¬ i = 1364 → (i < 1 + 11 * hn B ∨ 12 + 11 * hn B ≤ i) → m' i = m i) : MR m' (addO B kd f d mm) := by
  obtain ⟨b1, b2, b3⟩ := hb
  obtain ⟨h1, h2, h3, ⟨h4, h5⟩, ⟨h6, h7⟩, ⟨h8, h9⟩, h10, h11⟩ := h
  refine ⟨e0, fun i hi => ?_, fun q hq => ?_, ⟨by rw [e _ (by omega) (by omega) (by omega) (by omega)]; exact h4, fun i hi => ?_⟩, ⟨by rw [e _ (by omega) (by omega) (by omega) (by omega)]; exact h6, fun i hi => ?_⟩, ⟨by rw [e _ (by omega) (by omega) (by omega) (by omega)]; exact h8, fun i hi => ?_⟩, fun t ht => ?_, by rw [e _ (by omega) (by omega) (by omega) (by omega)]; exact h11⟩
  · have hi : i < hn B + 1 := hi
    unfold MRo
    by_cases en : i = hn B
    · subst en
      rw [ad_num0, ad_kd0, ad_sz0, ad_dt0, ad_ag0, ad_sp0, ad_pl0]
      refine ⟨eN, fun g hg => ?_⟩
      rw [ad_lk0]
      exact eL g (by omega)
    · have hi' : i < hn B := by omega
      have hz := w.sz hi'
      rw [ad_num en, ad_kd en, ad_sz en, ad_dt en, ad_ag en, ad_sp en, ad_pl en]
      rw [e (1 + 11 * i) (by omega) (by omega) (by omega) (by omega), e (2 + 11 * i) (by omega) (by omega) (by omega) (by omega), e (3 + 11 * i) (by omega) (by omega) (by omega) (by omega), e (4 + 11 * i) (by omega) (by omega) (by omega) (by omega), e (5 + 11 * i) (by omega) (by omega) (by omega) (by omega), e (6 + 11 * i) (by omega) (by omega) (by omega) (by omega), e (7 + 11 * i) (by omega) (by omega) (by omega) (by omega)]
      refine ⟨(h2 i hi').1, fun g hg => ?_⟩
      rw [ad_lk en, e (8 + 11 * i + g) (by omega) (by omega) (by omega) (by omega), ad_encN (fun j hj => w.lk hi' hg hj)]
      exact (h2 i hi').2 g hg
  · rw [e _ (by omega) (by omega) (by omega) (by omega)]
    exact (h3 q hq).trans (ad_encN (fun j hj => w.rt hq hj)).symm
  · have hi : i < (hrm B).length := hi
    rw [e _ (by omega) (by omega) (by omega) (by omega), e _ (by omega) (by omega) (by omega) (by omega)]
    have hm : (hrm B).getD i (0, 0) ∈ hrm B := by
      rw [List.getD_eq_getElem?_getD, List.getElem?_eq_getElem hi]; exact List.getElem_mem hi
    have := (w.rm hm).1
    show m (890 + 2 * i) = nI (hnum (addO B kd f d mm) ((hrm B).getD i (0, 0)).1) ∧ _
    rw [ad_num (by omega)]
    exact h5 i hi
  · have hi : i < (hen B).length := hi
    rw [e _ (by omega) (by omega) (by omega) (by omega)]
    have hm : (hen B).getD i 0 ∈ hen B := by
      rw [List.getD_eq_getElem?_getD, List.getElem?_eq_getElem hi]; exact List.getElem_mem hi
    have := w.en hm
    show m (1243 + i) = nI (hnum (addO B kd f d mm) ((hen B).getD i 0))
    rw [ad_num (by omega)]
    exact h7 i hi
  · have hi : i < (hlo B).length := hi
    rw [e _ (by omega) (by omega) (by omega) (by omega)]; exact h9 i hi
  · show _ = upx (htl B) 0 (nI (mm + 1)) t
    by_cases t0 : t = 0
    · subst t0; rw [upx_same]; exact eT
    · rw [upx_ne t0, e _ (by omega) (by omega) (by omega) (by omega)]; exact h10 t ht
section mmk
variable {R : Nat → Nat} {b : Nat} {A : Hp}
theorem RM.mv {σ s : rS} (h : RM σ R) (e : s 62 = σ 62) : RM s R := ⟨fun i hi => by rw [e]; exact h.1 i hi, h.2⟩
def MRm (o : Option Hp) (A : Hp) (v : Nat) (r : Int32) (s : rS) : Prop := match o with
  | none => r = 0 ∧ MR (s 66 v) A
  | some B => r = 1 ∧ MR (s 66 v) B
theorem m_hasRoom {τ : rS} {v f : Nat} (hM : MR (τ 66 v) A) (hI : Inv R b A) (hR : RM τ R) (h8 : R8 R) (hv : ¬ v = 2) (hv4 : ¬ v = 4) (hf : f ≤ 4) : hit (fX10_hasRoom v (3 + nI f) τ) (fun r s => LGr τ s v ∧ MRm (rmO R A f) A v r s) := by
  have w := hI.ok
  have hbd := hI.bd h8.2.2.1
  have h80 := h8.1
  have u0 := hI.us (s := 0) (by omega)
  have e62 : τ 62 0 (ix 0) = nI (R 0) := hR.1 0 (by omega)
  have ec : fX10_cellsIn v 0 τ = some (nI (usedA A 0), τ) := m_cellsIn w hM (s := 0) (by omega)
  unfold fX10_hasRoom
  rw [ec, bd_some, e62, pn_add3, nI_add]
  simp (disch := omega) only [pn_lt]
  by_cases c : usedA A 0 + (3 + f) ≤ R 0
  · rw [if_neg (by omega)]
    unfold rmO room
    rw [if_pos (decide_eq_true c)]
    exact hit_some ⟨fun _ _ => rfl, rfl, hM⟩
  · have cd : ¬ decide (usedA A 0 + (3 + f) ≤ R 0) = true := fun h => c (of_decide_eq_true h)
    rw [if_pos (by omega)]
    refine bd_hit (hit_mono (m_copyRow (τ := τ) (c0 := 66) (k0 := v) (n0 := 1554) (a := 0) (c2 := 66) (k2 := 4) (n2 := 1554) (b := 0) (by omega) (by omega) (by omega) (by omega) (fun h => hv4 h.2)) ?_)
    rintro r1 s1 ⟨c1, -, f1⟩
    have ev1 : s1 66 v = τ 66 v := f1 66 v (fun h => hv4 h.2)
    have hM1 : MR (s1 66 v) A := by rw [ev1]; exact hM
    have hR1 : RM s1 R := hR.mv (funext fun k => f1 62 k (fun h => absurd h.1 (by decide)))
    refine bd_hit (hit_mono (hit_fk (fvX10_minors v s1) (hit_fr (frX10_minors v s1) (m_minors hM1 hI hR1 hv))) ?_)
    rintro r2 s2 ⟨k2, f2, l2, h2⟩
    have e42 : s2 66 4 = s1 66 4 := k2 66 4 (fun h => by have := h rfl; omega)
    have L2 : LGr τ s2 v := fun i hi => by rw [l2 i hi, ev1]
    by_cases x1 : pX (plan2 R A) = true
    · rw [if_pos x1] at h2
      rw [h2.1, if_pos rfl]
      have hJ := majA_Inv hI h8
      refine bd_hit (hit_mono (hit_fk (fvX10_majors v s2) (hit_fr (frX10_majors v s2) (m_majors h2.2 hI h8.2.2.1))) ?_)
      rintro r3 s3 ⟨k3, f3, hM3, l3, -, -⟩
      have e43 : s3 66 4 = s1 66 4 := by rw [k3 66 4 (fun h => by have := h rfl; omega), e42]
      have hR3 : RM s3 R := hR1.mv (by rw [f3 62 (by decide), f2 62 (by decide)])
      have L3 : LGr τ s3 v := fun i hi => by rw [l3 i hi, L2 i hi]
      refine bd_hit (hit_mono (hit_fk (fvX10_minors v s3) (m_minors hM3 hJ hR3 hv)) ?_)
      rintro r4 s4 ⟨k4, l4, h4⟩
      have e44 : s4 66 4 = s1 66 4 := by rw [k4 66 4 (fun h => by have := h rfl; omega), e43]
      have L4 : LGr τ s4 v := fun i hi => by rw [l4 i hi, L3 i hi]
      by_cases x2 : pX (plan2 R (majA A)) = true
      · rw [if_pos x2] at h4
        rw [h4.1, if_pos rfl]
        refine bd_hit (hit_mono (m_copyRow (τ := s4) (c0 := 66) (k0 := 4) (n0 := 1554) (a := 0) (c2 := 66) (k2 := v) (n2 := 1554) (b := 0) (by omega) (by omega) (by omega) (by omega) (fun h => hv4 h.2.symm)) ?_)
        rintro r5 s5 ⟨c5, o5, -⟩
        have e5 : ∀ i, i < 1554 → s5 66 v i = τ 66 v i := fun i hi => by
          have t1 := c5 i hi
          have t2 := c1 i hi
          rw [Nat.zero_add] at t1 t2
          rw [t1, e44, t2]
        unfold rmO room
        rw [if_neg cd, if_pos x1, if_pos x2]
        refine hit_some ⟨fun i hi => ?_, rfl, hM.congr w hbd.1 hbd.2.1 hbd.2.2 (fun i hi => e5 i (by omega))⟩
        by_cases i5 : i < 1554
        · exact e5 i i5
        · rw [o5 i (by omega)]; exact L4 i hi
      · rw [if_neg x2] at h4
        rw [h4.1, if_neg one_ne]
        unfold rmO room
        rw [if_neg cd, if_pos x1, if_neg x2]
        exact hit_some ⟨L4, rfl, h4.2.1⟩
    · rw [if_neg x1] at h2
      rw [h2.1, if_neg one_ne]
      unfold rmO room
      rw [if_neg cd, if_neg x1]
      exact hit_some ⟨L2, rfl, h2.2.1⟩
theorem m_clear {τ : rS} {v : Nat} {x2 x3 x4 x5 x6 : Int32} {n : Nat} (hn : n < 78) : hit (lp (fun (x : Int32) σ => fX10_makes_L29 v x2 x3 x4 x5 x6 (nI n) x σ) fu 0 τ) (fun _ s => (∀ i, 1 + 11 * n ≤ i → i < 12 + 11 * n → s 66 v i = 0) ∧ (∀ i, (i < 1 + 11 * n ∨ 12 + 11 * n ≤ i) → s 66 v i = τ 66 v i) ∧ ∀ c k, ¬ (c = 66 ∧ k = v) → s c k = τ c k) := by
  refine lp_for (b := 11) (I := fun m s => (∀ i, 1 + 11 * n ≤ i → i < 1 + 11 * n + m → s 66 v i = 0) ∧ (∀ i, (i < 1 + 11 * n ∨ 1 + 11 * n + m ≤ i) → s 66 v i = τ 66 v i) ∧ ∀ c k, ¬ (c = 66 ∧ k = v) → s c k = τ c k) ?_ ?_ fu 0 τ (by omega) (by have := fu_ge; omega) ⟨fun i h1 h2 => absurd h2 (by omega), fun i _ => rfl, fun c k _ => rfl⟩
  · rintro m s hm ⟨h1, h2, h3⟩
    unfold fX10_makes_L29 fX10_cell
    have e1 : (nI m < 11) = (m < 11) := pn_lt (b := 11) (by omega) (by omega)
    rw [if_pos (show nI m < 11 by rw [e1]; exact hm), bd_some, show (1 : Int32) + 11 * nI n + nI m = nI (1 + 11 * n + m) from pm_cell n m]
    simp (disch := omega) only [pn_bnd, pn_ix, pn_add1, st_eq]
    refine hit_some ⟨rfl, fun i g1 g2 => ?_, fun i hi => ?_, fun c k hck => ?_⟩
    · by_cases e : i = 1 + 11 * n + m
      · subst e; rw [wr_same]
      · rw [wr_i e]; exact h1 i g1 (by omega)
    · rw [wr_i (by omega)]; exact h2 i (by omega)
    · exact (wrR_ne _ _ _ _ hck).trans (h3 c k hck)
  · rintro s ⟨h1, h2, h3⟩
    unfold fX10_makes_L29
    have e1 : (nI 11 < 11) = (11 < 11) := pn_lt (b := 11) (by omega) (by omega)
    rw [if_neg (show ¬ nI 11 < 11 by rw [e1]; omega)]
    exact hit_some ⟨fun i g1 g2 => h1 i g1 (by omega), fun i hi => h2 i (by omega), h3⟩
theorem m_makes {τ : rS} {v f x : Nat} {kd d : Int32} (hM : MR (τ 66 v) A) (hI : Inv R b A) (hR : RM τ R) (h8 : R8 R) (hb : b + 1 < 1000000) (hv : ¬ v = 2) (hv4 : ¬ v = 4) (hf : f ≤ 4) (hx : x < 8) (hkd : kd = 0 ∨ kd = 1 ∨ kd = 2) (hkf : kd = 1 → 1 ≤ f) : hit (fX10_makes v (nI x) kd (nI f) d τ) (fun r s => LGr τ s v ∧ match rmO R A f with
    | none => r = 0 ∧ MR (s 66 v) A
    | some B => r = 1 ∧ s 10 0 28 = nI (mT B + 1) ∧ s 10 0 30 = nI (mT B + 1) ∧ MR (s 66 v) (mkO B x kd f d)) := by
  unfold fX10_makes
  refine bd_hit (hit_mono (m_hasRoom hM hI hR h8 hv hv4 hf) ?_)
  rintro r s ⟨l1, h1⟩
  rcases opt_cases (rmO R A f) with hB | ⟨B, hB⟩
  · rw [hB] at h1 ⊢
    rw [show r = 0 from h1.1, if_pos rfl]
    exact hit_some ⟨l1, rfl, h1.2⟩
  · obtain ⟨iB, uB⟩ := rm_some hI h8 hf hB
    rw [hB] at h1 ⊢
    have had := mT_AdR (kd := kd) iB h8 hf hkd hkf uB hb
    have hM1 : MR (s 66 v) B := h1.2
    have w := iB.ok
    have w' := ad_OK (d := d) iB had
    have h78 : hn B + 1 ≤ 78 := w'.n
    have hbB := iB.bd h8.2.2.1
    have hmT : htl B 0 = nI (mT B) := had.2.2.2.2.2.1
    have hmb : mT B < 1000000 := by have := had.2.2.2.2.2.2.1; omega
    have ec : fX10_cellsIn v 0 s = some (nI (usedA B 0), s) := m_cellsIn w hM1 (s := 0) (by omega)
    have e0 : s 66 v (ix 0) = nI (hn B) := hM1.n
    rw [show r = 1 from h1.1, if_neg one_ne, ec, bd_some, e0, rd_eq]
    refine bd_hit (hit_mono (m_clear (n := hn B) (by omega)) ?_)
    rintro r2 s2 ⟨z1, z2, z3⟩
    have t1364 : s2 66 v 1364 = nI (mT B) := by
      rw [z2 1364 (Or.inr (by omega)), ← hmT]; exact hM1.tl (t := 0) (by omega)
    have t0 : s2 66 v 0 = nI (hn B) := by
      rw [z2 0 (Or.inl (by omega))]; exact hM1.n
    have ca : ∀ j, j < 11 → (1 : Int32) + 11 * nI (hn B) + nI j = nI (1 + 11 * hn B + j) := fun j _ => pm_cell _ j
    have c0 : (1 : Int32) + 11 * nI (hn B) + 0 = nI (1 + 11 * hn B) := ca 0 (by omega)
    have c1 : (1 : Int32) + 11 * nI (hn B) + 1 = nI (2 + 11 * hn B) := (ca 1 (by omega)).trans (by congr 1; omega)
    have c2 : (1 : Int32) + 11 * nI (hn B) + 2 = nI (3 + 11 * hn B) := (ca 2 (by omega)).trans (by congr 1; omega)
    have c3 : (1 : Int32) + 11 * nI (hn B) + 3 = nI (4 + 11 * hn B) := (ca 3 (by omega)).trans (by congr 1; omega)
    have c6 : (1 : Int32) + 11 * nI (hn B) + 6 = nI (7 + 11 * hn B) := (ca 6 (by omega)).trans (by congr 1; omega)
    unfold fX10_cell
    have i0 : ix 0 = 0 := rfl
    have i1 : ix 1364 = 1364 := rfl
    have j0 : ix (nI (1 + 11 * hn B)) = 1 + 11 * hn B := ix_nI (by omega)
    have j1 : ix (nI (2 + 11 * hn B)) = 2 + 11 * hn B := ix_nI (by omega)
    have j2 : ix (nI (3 + 11 * hn B)) = 3 + 11 * hn B := ix_nI (by omega)
    have j3 : ix (nI (4 + 11 * hn B)) = 4 + 11 * hn B := ix_nI (by omega)
    have j6 : ix (nI (7 + 11 * hn B)) = 7 + 11 * hn B := ix_nI (by omega)
    have jr : ix (nI (881 + x)) = 881 + x := ix_nI (by omega)
    simp (disch := first | omega | decide) only [c0, c1, c2, c3, c6, i0, i1, j0, j1, j2, j3, j6, jr, pm_881, t1364, t0, pn_bnd, pn_add1, wr_same, wr_c, wr_i, st_eq, bd_some]
    generalize hT : wr (wr (wr (wr (wr (wr (wr s2 66 v 1364 (nI (mT B + 1))) 66 v (1 + 11 * hn B) (nI (mT B + 1))) 66 v (2 + 11 * hn B) kd) 66 v (3 + 11 * hn B) (nI f)) 66 v (4 + 11 * hn B) d) 66 v (7 + 11 * hn B) (nI (usedA B 0))) 66 v 0 (nI (hn B + 1)) = T
    have hMT : MR (T 66 v) (addO B kd f d (mT B)) := by
      rw [← hT]
      refine hM1.add w hbB h78 hf ?_ ⟨?_, ?_, ?_, ?_, ?_, ?_, ?_⟩ (fun g hg => ?_) ?_ (fun i h1 h2 h3 h4 => ?_)
      · simp (disch := omega) only [wr_same]
      · simp (disch := omega) only [wr_same, wr_i]
      · simp (disch := omega) only [wr_same, wr_i]
      · simp (disch := omega) only [wr_same, wr_i]
      · simp (disch := omega) only [wr_same, wr_i]
      · simp (disch := omega) only [wr_i]; exact z1 _ (by omega) (by omega)
      · simp (disch := omega) only [wr_i]; exact z1 _ (by omega) (by omega)
      · simp (disch := omega) only [wr_same, wr_i]
      · simp (disch := omega) only [wr_i]; exact z1 _ (by omega) (by omega)
      · simp (disch := omega) only [wr_same, wr_i]
      · have hne : ¬ i = 1 + 11 * hn B ∧ ¬ i = 2 + 11 * hn B ∧ ¬ i = 3 + 11 * hn B ∧ ¬ i = 4 + 11 * hn B ∧ ¬ i = 7 + 11 * hn B := by omega
        simp (disch := omega) only [wr_i]
        exact z2 i h4
    have eT : ∀ i, 1373 ≤ i → T 66 v i = s 66 v i := fun i hi => by
      rw [← hT]
      simp (disch := omega) only [wr_i]
      exact z2 i (by omega)
    clear hT
    refine hit_some ⟨fun i hi => ?_, rfl, ?_, ?_, ?_⟩
    · rw [wr_c (by decide), wr_c (by decide), wr_i (by omega), eT i hi]; exact l1 i hi
    · rw [wr_i (by decide), wr_same]
    · rw [wr_same]
    · refine hMT.root w' hbB hx ?_ (fun i hi hne => ?_)
      · rw [wr_c (by decide), wr_c (by decide), wr_same]
        show _ = nI (hnum (addO B kd f d (mT B)) (hn B))
        rw [ad_num0]
      · rw [wr_c (by decide), wr_c (by decide), wr_i hne]
theorem m_make {τ : rS} {v : Nat} (hM : MR (τ 66 v) A) (hI : Inv R b A) (hR : RM τ R) (h8 : R8 R) (hb : b + 1 < 1000000) (hv : ¬ v = 2) (hv4 : ¬ v = 4) (h11 : ¬ τ 10 0 11 = 0) (x y z d : Int32) : hit (fX10_does v 0 x y z d τ) (MA v τ A (doMake R A x y z d)) := by
  unfold fX10_does fX10_stops doMake
  rw [if_neg h11, if_pos rfl, m_isRoot' h11, bd_some]
  have st1 : ∀ {K : Int32 → rS → Prop}, K 1 τ → hit (bd (some ((1 : Int32), τ)) (fun r1 σ2 => if r1 = (-1) then (if (0 : Int32) < 0 then (if (0 : Int32) < 4 then (bnd (881 + x) 1554 (fX10_does_j45 v 0 x y z d (σ2 66 v (ix (881 + x))) σ2)) else (fX10_does_j44 v 0 x y z d σ2)) else (fX10_does_j44 v 0 x y z d σ2)) else (some (r1, σ2)))) K := fun {K} h => by
    rw [bd_some, if_neg (by decide)]
    exact h
  have no1 : MA v τ A (.inl 1) 1 τ := ⟨fun _ _ => rfl, rfl, hM⟩
  rcases inB_cases x (b := 8) (by omega) with ⟨i, h, rfl, e⟩ | ⟨e, -⟩
  · rw [e]
    dsimp only
    rw [if_neg one_ne, show (2 : Int64) = (nI 2).toInt64 by decide, m_in y (by omega), bd_some]
    rcases inB_cases y (b := 3) (by omega) with ⟨q, hq, rfl, e1⟩ | ⟨e1, -⟩
    · rw [e1]
      dsimp only
      rw [if_neg one_ne]
      have kq : nI q = 0 ∨ nI q = 1 ∨ nI q = 2 := by
        rcases (by omega : q = 0 ∨ q = 1 ∨ q = 2) with rfl | rfl | rfl
        · exact Or.inl rfl
        · exact Or.inr (Or.inl rfl)
        · exact Or.inr (Or.inr rfl)
      /- the fields and the data -/
      have key : ∀ lo : Nat, (q = 1 ∧ lo = 1) ∨ (¬ q = 1 ∧ lo = 0) → hit (bd (fX10_stops_j95 d (nI lo).toInt64 z.toInt64 τ) (fun r1 σ2 => if r1 = (-1) then (if (0 : Int32) < 0 then (if (0 : Int32) < 4 then (bnd (881 + nI i) 1554 (fX10_does_j45 v 0 (nI i) (nI q) z d (σ2 66 v (ix (881 + nI i))) σ2)) else (fX10_does_j44 v 0 (nI i) (nI q) z d σ2)) else (fX10_does_j44 v 0 (nI i) (nI q) z d σ2)) else (some (r1, σ2)))) (MA v τ A (match inB z 5 with
          | none => .inl 1
          | some f => match inB d 1000 with
            | none => .inl 1
            | some _ => if q = 1 ∧ f = 0 then .inl 1 else mkR (rmO R A f) i (nI q) f d)) := fun lo hlo => by
        unfold fX10_stops_j95 fX10_stops_j117
        rw [show (4 : Int64) = (nI 4).toInt64 by decide, e_in z lo 4 τ (by omega) (by omega), bd_some]
        rcases inB_cases z (b := 5) (by omega) with ⟨f, hf, rfl, e2⟩ | ⟨e2, hz⟩
        · rw [e2]
          dsimp only
          by_cases hlf : lo ≤ f
          · rw [if_pos (⟨f, by omega, hlf, rfl⟩ : ∃ i, i ≤ 4 ∧ lo ≤ i ∧ nI f = nI i), if_neg one_ne, show (999 : Int64) = (nI 999).toInt64 by decide, m_in d (by omega), bd_some]
            rcases inB_cases d (b := 1000) (by omega) with ⟨g, hg, rfl, e3⟩ | ⟨e3, -⟩
            · rw [e3]
              dsimp only
              rw [if_neg one_ne, bd_some, if_pos rfl, if_neg (by decide), if_neg (by omega)]
              unfold fX10_does_j44 fX10_does_j45
              rw [st_eq, if_pos rfl]
              have hkf : nI q = 1 → 1 ≤ f := fun h => by rw [pn_eq1 (by omega)] at h; omega
              have hM1 : MR (wr τ 10 0 30 0 66 v) A := by rw [wr_c (by decide)]; exact hM
              refine bd_hit (hit_mono (m_makes (d := nI g) hM1 hI (hR.mv (wr_c (by decide))) h8 hb hv hv4 (by omega) h kq hkf) ?_)
              rintro r s ⟨l1, h1⟩
              have l1 : LGr τ s v := fun i hi => by rw [l1 i hi, wr_c (by decide)]
              rcases opt_cases (rmO R A f) with hB | ⟨B, hB⟩
              · rw [hB] at h1 ⊢
                rw [show r = 0 from h1.1, if_pos rfl]
                exact hit_some ⟨l1, rfl, h1.2⟩
              · rw [hB] at h1 ⊢
                rw [show r = 1 from h1.1, if_neg one_ne]
                exact hit_some ⟨l1, rfl, h1.2⟩
            · rw [e3]
              dsimp only
              rw [if_pos rfl]
              exact st1 no1
          · rw [if_neg (show ¬ ∃ i, i ≤ 4 ∧ lo ≤ i ∧ nI f = nI i from fun ⟨j, h1, h2, h3⟩ => by rw [pn_eq (by omega) (by omega)] at h3; omega), if_pos rfl]
            have : (match inB d 1000 with
              | none => (.inl 1 : AR)
              | some _ => if q = 1 ∧ f = 0 then .inl 1 else mkR (rmO R A f) i (nI q) f d) = .inl 1 := by
              cases inB d 1000 with
              | none => rfl
              | some _ => exact if_pos (by omega)
            rw [this]
            exact st1 no1
        · rw [e2]
          dsimp only
          rw [if_neg (show ¬ ∃ i, i ≤ 4 ∧ lo ≤ i ∧ z = nI i from fun ⟨j, h1, h2, h3⟩ => by
            subst h3
            rw [inB_nI (by omega), if_pos (by omega)] at e2
            cases e2), if_pos rfl]
          exact st1 no1
      simp (disch := omega) only [pn_eq1]
      by_cases q1 : q = 1
      · rw [if_pos q1]; exact key 1 (Or.inl ⟨q1, rfl⟩)
      · rw [if_neg q1]; exact key 0 (Or.inr ⟨q1, rfl⟩)
    · rw [e1]
      dsimp only
      unfold fX10_stops_j117
      rw [if_pos rfl]
      exact st1 no1
  · rw [e, if_pos rfl, bd_some, if_neg (by decide)]
    exact hit_some ⟨fun _ _ => rfl, rfl, hM⟩
theorem i_make (hI : Inv R b A) (h8 : R8 R) (hb : b + 1 < 1000000) (x y z d : Int32) : IvA R (b + 1) (doMake R A x y z d) := by
  unfold doMake
  rcases inB_cases x (b := 8) (by omega) with ⟨i, h, rfl, e⟩ | ⟨e, -⟩
  · rw [e]
    dsimp only
    rcases inB_cases y (b := 3) (by omega) with ⟨q, hq, rfl, e1⟩ | ⟨e1, -⟩
    · rw [e1]
      dsimp only
      rcases inB_cases z (b := 5) (by omega) with ⟨f, hf, rfl, e2⟩ | ⟨e2, -⟩
      · rw [e2]
        dsimp only
        rcases inB_cases d (b := 1000) (by omega) with ⟨g, hg, rfl, e3⟩ | ⟨e3, -⟩
        · rw [e3]
          dsimp only
          by_cases c : q = 1 ∧ f = 0
          · rw [if_pos c]; exact (by decide : 1 < 4)
          · rw [if_neg c]
            rcases opt_cases (rmO R A f) with hB | ⟨B, hB⟩
            · rw [hB]; exact (by decide : 3 < 4)
            · rw [hB]
              obtain ⟨iB, uB⟩ := rm_some hI h8 (by omega) hB
              have kq : nI q = 0 ∨ nI q = 1 ∨ nI q = 2 := by
                rcases (by omega : q = 0 ∨ q = 1 ∨ q = 2) with rfl | rfl | rfl
                · exact Or.inl rfl
                · exact Or.inr (Or.inl rfl)
                · exact Or.inr (Or.inr rfl)
              have had := mT_AdR (kd := nI q) iB h8 (by omega) kq (fun h => by rw [pn_eq1 (by omega)] at h; omega) uB hb
              have hmb : mT B < 1000000 := by have := had.2.2.2.2.2.2.1; omega
              exact ⟨nI_pos (by omega), mk_Inv iB had⟩
        · rw [e3]; exact (by decide : 1 < 4)
      · rw [e2]; exact (by decide : 1 < 4)
    · rw [e1]; exact (by decide : 1 < 4)
  · rw [e]; exact (by decide : 0 < 4)
end mmk
