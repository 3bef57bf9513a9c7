/-! weak ones emptied, lasting ones lined up: the model's side -/
theorem MR.tl' {m m' : Nat → Int32} {H : Hp} (h : MR m H) (w : ON H) (hb : Bd H) {t0 : Nat} {x : Int32} (h8 : t0 < 8) (e1 : m' (1364 + t0) = x) (e : ∀ i, i < 1373 → ¬ i = 1364 + t0 → m' i = m i) : MR m' (sTl H (upx (htl H) t0 x)) := by
  have hw := w.1
  obtain ⟨b1, b2, b3⟩ := hb
  obtain ⟨h1, h2, h3, ⟨h4, h5⟩, ⟨h6, h7⟩, ⟨h8', h9⟩, h10, h11⟩ := h
  refine ⟨by rw [e 0 (by omega) (by omega)]; exact h1, fun i hi => ?_, fun q hq => by rw [e _ (by omega) (by omega)]; exact h3 q hq, ⟨by rw [e _ (by omega) (by omega)]; exact h4, fun i hi => ?_⟩, ⟨by rw [e _ (by omega) (by omega)]; exact h6, fun i hi => ?_⟩, ⟨by rw [e _ (by omega) (by omega)]; exact h8', fun i hi => ?_⟩, fun t ht => ?_, by rw [e _ (by omega) (by omega)]; exact h11⟩
  · have hi : i < hn H := hi
    have hz := (w.2.1 i hi).2.1
    unfold MRo
    rw [e _ (by omega) (by omega), e _ (by omega) (by omega), e _ (by omega) (by omega), e _ (by omega) (by omega), e _ (by omega) (by omega), e _ (by omega) (by omega), e _ (by omega) (by omega)]
    exact ⟨(h2 i hi).1, fun f hf => by have hf : f < hsz H i := hf; rw [e _ (by omega) (by omega)]; exact (h2 i hi).2 f hf⟩
  · have hi : i < (hrm H).length := hi
    rw [e _ (by omega) (by omega), e _ (by omega) (by omega)]; exact h5 i hi
  · have hi : i < (hen H).length := hi
    rw [e _ (by omega) (by omega)]; exact h7 i hi
  · have hi : i < (hlo H).length := hi
    rw [e _ (by omega) (by omega)]; exact h9 i hi
  · show _ = upx (htl H) t0 x t
    by_cases et : t = t0
    · subst et; rw [upx_same]; exact e1
    · rw [upx_ne et, e _ (by omega) (by omega)]; exact h10 t ht
theorem m_lostJ {τ : rS} {v x : Nat} {H : Hp} {E : List Nat} (hM : MR (τ 66 v) (sLo H E)) (w : OK H) (hb : Bd H) (hE : E.length < 40) : hit (fX10_isLost_j49 v (nI x) τ) (fun _ s => MR (s 66 v) (sTl (sLo H (E ++ [x])) (upx (htl H) 6 (htl H 6 + 1))) ∧ LGr τ s v ∧ ∀ c k, ¬ (c = 66 ∧ k = v) → s c k = τ c k) := by
  have hb' : Bd (sLo H E) := ⟨hb.1, by show E.length ≤ 40; omega, hb.2.2⟩
  have hb2 : Bd (sLo H (E ++ [x])) := ⟨hb.1, by show (E ++ [x]).length ≤ 40; rw [List.length_append]; show E.length + 1 ≤ 40; omega, hb.2.2⟩
  have e23 : τ 66 v (ix 1323) = nI E.length := hM.lo
  have e24 : (1324 : Int32) + nI E.length = nI (1324 + E.length) := nI_add 1324 _
  unfold fX10_isLost_j49
  rw [e23, e24, pn_bnd (by omega) (by omega), ix_nI (by omega), st_eq]
  have r1 : wr τ 66 v (1324 + E.length) (nI x) 66 v (ix 1323) = nI E.length := by
    rw [wr_i (show ¬ ix 1323 = 1324 + E.length by show ¬ 1323 = _; omega)]; exact e23
  rw [r1, pn_add1, st_eq]
  obtain ⟨t, ht⟩ : ∃ t, t = wr (wr τ 66 v (1324 + E.length) (nI x)) 66 v (ix 1323) (nI (E.length + 1)) := ⟨_, rfl⟩
  rw [← ht]
  have tt : ∀ q, ¬ q = 1323 → ¬ q = 1324 + E.length → t 66 v q = τ 66 v q := fun q h1 h2 => by rw [ht, wr_i (show ¬ q = ix 1323 from h1), wr_i h2]
  have hM1 : MR (t 66 v) (sLo H (E ++ [x])) := by
    have lE : (E ++ [x]).length = E.length + 1 := by rw [List.length_append]; rfl
    refine hM.lo' w hb' ?_ (fun i hi => ?_) (fun i h1 h2 => tt i (by omega) (by omega))
    · rw [ht]; show wr _ 66 v 1323 _ 66 v 1323 = _; rw [wr_same, lE]
    · rw [lE] at hi
      by_cases ei : i = E.length
      · subst ei
        rw [getD_app_eq, ht, wr_i (show ¬ 1324 + E.length = ix 1323 from (by omega : ¬ 1324 + E.length = 1323)), wr_same]
      · rw [getD_app_lt (by omega), tt _ (by omega) (by omega)]; exact hM.loi (show i < E.length by omega)
  have e70 : t 66 v (ix 1370) = htl H 6 := by
    rw [tt (ix 1370) (by decide) (by show ¬ 1370 = _; omega)]
    exact hM.tl (t := 6) (by omega)
  rw [e70, st_eq]
  refine hit_some ⟨hM1.tl' w.on hb2 (by omega) (by show wr t 66 v 1370 _ 66 v 1370 = _; rw [wr_same]) (fun i h1 h2 => by rw [wr_i (show ¬ i = ix 1370 from h2)]), fun i hi => ?_, fun c k hck => ?_⟩
  · rw [wr_i (show ¬ i = ix 1370 from (by omega : ¬ i = 1370)), tt i (by omega) (by omega)]
  · rw [show wr t 66 v (ix 1370) (htl H 6 + 1) c k = t c k from wrR_ne _ _ _ _ hck, ht, show wr (wr τ 66 v (1324 + E.length) (nI x)) 66 v (ix 1323) (nI (E.length + 1)) c k = wr τ 66 v (1324 + E.length) (nI x) c k from wrR_ne _ _ _ _ hck]
    exact wrR_ne _ _ _ _ hck
theorem m_isLost {τ : rS} {v x : Nat} {H : Hp} (hM : MR (τ 66 v) H) (w : OK H) (hb : Bd H) : hit (fX10_isLost v (nI x) τ) (fun _ s => MR (s 66 v) (sTl (sLo H (loAdd (hlo H) x)) (upx (htl H) 6 (htl H 6 + 1))) ∧ LGr τ s v ∧ ∀ c k, ¬ (c = 66 ∧ k = v) → s c k = τ c k) := by
  have e23 : τ 66 v (ix 1323) = nI (hlo H).length := hM.lo
  have hb2 := hb.2.1
  have e40 : (nI (hlo H).length = 40) = ((hlo H).length = 40) := pn_eq (b := 40) (by omega) (by omega)
  unfold fX10_isLost loAdd
  rw [e23]
  by_cases hf : (hlo H).length = 40
  · rw [if_pos (by rw [e40]; exact hf), if_pos hf]
    refine bd_hit (hit_mono (lp_for (I := fun i s => 1 ≤ i ∧ (∀ p, 1 ≤ p → p < i → s 66 v (1323 + p) = τ 66 v (1324 + p)) ∧ (∀ q, (q ≤ 1323 ∨ 1323 + i ≤ q) → s 66 v q = τ 66 v q) ∧ ∀ c k, ¬ (c = 66 ∧ k = v) → s c k = τ c k) (P := fun _ s => (∀ p, 1 ≤ p → p < 40 → s 66 v (1323 + p) = τ 66 v (1324 + p)) ∧ (∀ q, (q ≤ 1323 ∨ 1323 + 40 ≤ q) → s 66 v q = τ 66 v q) ∧ ∀ c k, ¬ (c = 66 ∧ k = v) → s c k = τ c k) (b := 40) ?_ ?_ fu 1 τ (by omega) (by have := fu_ge; omega) ⟨Nat.le_refl _, fun p h1 h2 => by omega, fun q _ => rfl, fun _ _ _ => rfl⟩) ?_)
    · rintro i s hi ⟨hi1, g1, g2, g3⟩
      unfold fX10_isLost_L12
      have el : (nI i < 40) = (i < 40) := pn_lt (b := 40) (by omega) (by omega)
      have e1 : (1323 : Int32) + nI i = nI (1323 + i) := nI_add 1323 i
      rw [if_pos (by rw [el]; exact hi), e1]
      simp (disch := omega) only [pn_lt, pn_neg, pn_eq, pn_eq0, pn_eq1, pn_eq2, pn_m1, pn_m1', pn_m1lt, pn_ix, pn_bnd, pn_add1, pn_add3, pn_mul4, nI_add, bd_some, st_eq, rd_eq, if_true, if_false, ite_true, ite_false, reduceIte]
      refine hit_some ⟨rfl, by omega, fun p p1 p2 => ?_, fun q hq => ?_, fun c k hck => (wrR_ne _ _ _ _ hck).trans (g3 c k hck)⟩
      · by_cases ep : p = i
        · subst ep
          rw [wr_same, g2 _ (by omega), show 1323 + p + 1 = 1324 + p by omega]
        · rw [wr_i (by omega)]; exact g1 p p1 (by omega)
      · rw [wr_i (by omega)]; exact g2 q (by omega)
    · rintro s ⟨hi1, g1, g2, g3⟩
      unfold fX10_isLost_L12
      have el : (nI 40 < 40) = (40 < 40) := pn_lt (b := 40) (by omega) (by omega)
      rw [if_neg (by rw [el]; omega)]
      exact hit_some ⟨g1, g2, g3⟩
    · rintro r s ⟨g1, g2, g3⟩
      have e0 : s 66 v (ix 1323) = nI 40 := by
        rw [g2 (ix 1323) (by show 1323 ≤ 1323 ∨ _; omega), e23, hf]
      have e39 : nI 40 - 1 = nI 39 := by decide
      rw [e0, st_eq, e39]
      have ld : ((hlo H).drop 1).length = 39 := by rw [List.length_drop]; omega
      have hM1 : MR (wr s 66 v (ix 1323) (nI 39) 66 v) (sLo H ((hlo H).drop 1)) := by
        refine hM.lo' w hb ?_ (fun i hi => ?_) (fun i h1 h2 => ?_)
        · show wr s 66 v 1323 _ 66 v 1323 = _; rw [wr_same, ld]
        · rw [ld] at hi
          rw [wr_i (show ¬ 1324 + i = ix 1323 from (by omega : ¬ 1324 + i = 1323)), show 1324 + i = 1323 + (1 + i) by omega, g1 (1 + i) (by omega) (by omega), getD_drop]
          exact hM.loi (by omega)
        · rw [wr_i (show ¬ i = ix 1323 from (by omega : ¬ i = 1323))]; exact g2 i (by omega)
      refine hit_mono (m_lostJ hM1 w hb (by omega)) ?_
      rintro r2 s2 ⟨k1, k2, k3⟩
      refine ⟨k1, fun i hi => ?_, fun c k hck => ?_⟩
      · rw [k2 i hi, wr_i (show ¬ i = ix 1323 from (by omega : ¬ i = 1323)), g2 i (by omega)]
      · rw [k3 c k hck, show wr s 66 v (ix 1323) (nI 39) c k = s c k from wrR_ne _ _ _ _ hck, g3 c k hck]
  · rw [if_neg (by rw [e40]; exact hf), if_neg hf]
    exact m_lostJ (H := H) (E := hlo H) hM w hb (by omega)
/-! one weak one -/
def emH (H : Hp) (i : Nat) : Hp := sTl (sLo (lkA H i 0 none) (loAdd (hlo H) (hnum H i))) (upx (htl H) 6 (htl H 6 + 1))
def emc (H : Hp) (Q : List Nat) (y : Int32) (i : Nat) : Bool := decide (hkd H i = 1) && match hlk H i 0 with
  | none => false
  | some t => !decide (t ∈ Q) && (decide (y = 0) || !decide (hsp H t = 2))
theorem m_empties {τ : rS} {v i : Nat} {H : Hp} {Q : List Nat} {y : Int32} (hM : MR (τ 66 v) H) (w : OK H) (hb : Bd H) (hi : i < hn H) (hwz : hkd H i = 1 → 1 ≤ hsz H i) (hQ : ∀ j, j < 80 → τ 68 0 j = if j ∈ Q then 1 else 0) : hit (fX10_empties v (nI i) y τ) (fun _ s => MR (s 66 v) (if emc H Q y i = true then emH H i else H) ∧ LGr τ s v ∧ ∀ c k, ¬ (c = 66 ∧ k = v) → s c k = τ c k) := by
  have hw := w.n
  have no : emc H Q y i = false → hit (some ((0 : Int32), τ)) (fun _ s => MR (s 66 v) (if emc H Q y i = true then emH H i else H) ∧ LGr τ s v ∧ ∀ c k, ¬ (c = 66 ∧ k = v) → s c k = τ c k) := fun e => by
    rw [e]
    exact hit_some ⟨hM, LGr.refl _ _, fun _ _ _ => rfl⟩
  have eof : fX10_of v (nI i) 7 τ = some (τ 66 v (1 + 11 * i + 7), τ) := e_of (c := 7) (by omega)
  unfold fX10_empties
  rw [eof, bd_some, e_spotOf hM w, bd_some, e_of1 hM w hi, bd_some]
  by_cases hk : hkd H i = 1
  · have hz := hwz hk
    have e7 : τ 66 v (1 + 11 * i + 7) = encN H (hlk H i 0) := by
      have := hM.lk (f := 0) hi (by omega)
      rw [show 1 + 11 * i + 7 = 8 + 11 * i + 0 by omega]; exact this
    have ho : ∀ t, hlk H i 0 = some t → t < hn H := fun t ht => w.lk hi (by omega) ht
    rw [if_pos hk, e7, findA_enc w ho]
    rcases opt_cases (hlk H i 0) with hl | ⟨t, hl⟩
    · rw [hl, enc_none, if_pos rfl]
      exact no (by unfold emc; rw [hl]; simp)
    · have ht := ho t hl
      have e68 := hQ t (by omega)
      rw [hl, enc_some, if_neg (by rw [pn_m1 (by omega)]; exact id), pn_bnd (by omega) (by omega), ix_nI (by omega), e68]
      by_cases hq : t ∈ Q
      · rw [if_pos hq, if_neg one_ne]
        exact no (by unfold emc; rw [hl]; simp [hq])
      · rw [if_neg hq, if_pos rfl]
        have yes : (y = 0 ∨ ¬ hsp H t = 2) → hit (fX10_empties_j53 v (nI i) τ) (fun _ s => MR (s 66 v) (if emc H Q y i = true then emH H i else H) ∧ LGr τ s v ∧ ∀ c k, ¬ (c = 66 ∧ k = v) → s c k = τ c k) := fun hy => by
          have hc : emc H Q y i = true := by
            unfold emc
            rw [hl]
            rcases hy with hy | hy <;> simp [hk, hq, hy]
          rw [hc, if_pos rfl]
          unfold fX10_empties_j53 fX10_cell
          have ec : (1 + 11 * nI i) + 7 = nI (1 + 11 * i + 7) := pm_cell i 7
          rw [bd_some, ec, pn_bnd (by omega) (by omega), ix_nI (by omega), st_eq]
          have hM1 : MR (wr τ 66 v (1 + 11 * i + 7) 0 66 v) (lkA H i 0 none) := by
            refine hM.lk' w hb hi (by omega) ?_ (fun q h1 h2 => ?_)
            · rw [show 8 + 11 * i + 0 = 1 + 11 * i + 7 by omega, wr_same]; rfl
            · rw [wr_i (by omega)]
          have w1 : OK (lkA H i 0 none) := w.lkA (fun j hj => by cases hj)
          have en : hnum (lkA H i 0 none) i = hnum H i := rfl
          rw [e_of0 hM1 w1 hi, bd_some]
          refine bd_hit (hit_mono (m_isLost hM1 w1 hb) ?_)
          rintro r s ⟨k1, k2, k3⟩
          refine hit_some ⟨k1, fun q hq => ?_, fun c k hck => ?_⟩
          · rw [k2 q hq, wr_i (by omega)]
          · rw [k3 c k hck]; exact wrR_ne _ _ _ _ hck
        by_cases y0 : y = 0
        · rw [if_pos y0]
          exact yes (Or.inl y0)
        · rw [if_neg y0, e_isOld hM w ht, bd_some]
          by_cases h2 : hsp H t = 2
          · rw [if_pos h2, if_neg one_ne]
            exact no (by unfold emc; rw [hl]; simp [hq, y0, h2])
          · rw [if_neg h2, if_pos rfl]
            exact yes (Or.inr h2)
  · rw [if_neg hk]
    exact no (by unfold emc; simp [hk])
theorem m_isMetBehind {τ : rS} {n k fr : Nat} {Q : List Nat} (hG : GM τ n Q) (hn : n ≤ 78) (hk : k < 2147483648) (hfr : fr ≤ Q.length) : ∃ r : Bool, fX10_isMetBehind (nI k) (nI fr) τ = some (bI r, τ) ∧ (r = true ↔ k ∈ Q.drop fr) := by
  have hlen := nodup_le hG.1 hG.2.1
  have e22 := hG.2.2.1
  have key : hit (lp (fun (x : Int32) σ => fX10_isMetBehind_L2 (nI k) x σ) fu (nI fr) τ) (fun e s => s = τ ∧ match e with
      | .inl _ => k ∈ Q.drop fr
      | .inr _ => ¬ k ∈ Q.drop fr) := by
    refine lp_go (I := fun m x s => ∃ i, x = nI i ∧ fr ≤ i ∧ i ≤ Q.length ∧ m = Q.length - i ∧ s = τ ∧ (k ∈ Q.drop fr ↔ k ∈ Q.drop i)) ?_ fu (Q.length - fr) _ τ (fu_lt (by omega)) ⟨fr, rfl, Nat.le_refl _, hfr, rfl, rfl, Iff.rfl⟩
    rintro m x s ⟨i, rfl, hi1, hi2, rfl, rfl, he⟩
    unfold fX10_isMetBehind_L2
    rw [e22]
    simp (disch := omega) only [pn_lt]
    by_cases hi : i < Q.length
    · have e69 := hG.2.2.2.1 i hi
      have hj := hG.2.1 _ (getD_mem hi)
      rw [if_pos hi, pn_bnd (by omega) (by omega), ix_nI (by omega), e69]
      simp (disch := omega) only [pn_eq]
      have ed := drop_cons hi
      by_cases hq : Q.getD i 0 = k
      · rw [if_pos hq]
        refine hit_some ⟨rfl, ?_⟩
        show k ∈ Q.drop fr
        rw [he, ed, hq]
        exact List.mem_cons_self
      · rw [if_neg hq]
        refine hit_some ⟨Q.length - (i + 1), by omega, i + 1, by rw [pn_add1], by omega, by omega, rfl, rfl, ?_⟩
        rw [he, ed, List.mem_cons]
        exact ⟨fun z => z.resolve_left (fun e => hq e.symm), Or.inr⟩
    · rw [if_neg hi]
      refine hit_some ⟨rfl, ?_⟩
      show ¬ k ∈ Q.drop fr
      rw [he, List.drop_eq_nil_of_le (by omega)]
      exact List.not_mem_nil
  obtain ⟨e, s, h1, rfl, h3⟩ := hit_iff.mp key
  unfold fX10_isMetBehind
  rw [h1, bd_some]
  cases e with
  | inl u => exact ⟨true, rfl, fun _ => h3, fun _ => rfl⟩
  | inr u => exact ⟨false, rfl, fun z => (by cases z), fun z => absurd z h3⟩
/-! rows as the two sides' heaps with counts show them -/
theorem cM_up3 (c : Nat → Nat) (O : List Nat) (P : Pn) (t x : Nat) (ht : 2 ≤ t) : cM (upx c t x) O P = upx (cM c O P) t x := by
  funext i
  unfold cM
  rw [upx_ne (show ¬ 0 = t by omega), upx_ne (show ¬ 1 = t by omega)]
  by_cases i1 : i = 1
  · subst i1; rw [upx_same, upx_ne (by omega), upx_same]
  · rw [upx_ne i1]
    by_cases i0 : i = 0
    · subst i0; rw [upx_same, upx_ne (by omega), upx_ne (by omega), upx_same]
    · rw [upx_ne i0]
      by_cases it : i = t
      · subst it; rw [upx_same, upx_same]
      · rw [upx_ne it, upx_ne it, upx_ne i1, upx_ne i0]
theorem tlA_up (h : Nat → Int32) (c : Nat → Nat) (t : Nat) : tlA h (upx c t (c t + 1)) 0 = upx (tlA h c 0) (3 + t) (tlA h c 0 (3 + t) + 1) := by
  funext i
  have ad : ∀ (x : Int32) (n : Nat), x + nI n + 1 = x + nI (n + 1) := fun x n => by rw [← pn_add1, Int32.add_assoc]
  by_cases e : i = 3 + t
  · subst e
    rw [upx_same, tlA_ge (by omega), tlA_ge (by omega), show 3 + t - 3 = t by omega, upx_same, ad]
  · rw [upx_ne e]
    by_cases g : 3 ≤ i
    · rw [tlA_ge g, tlA_ge g, upx_ne (by omega)]
    · rw [tlA_lt (by omega), tlA_lt (by omega)]
theorem emH_row (A : Hp) (X : HX) (P : Pn) (i : Nat) : emH (rowH A X.1 X.2 P) i = rowH A (em1 X i).1 (em1 X i).2 P := by
  have e : tlA (htl A) (cM (upx X.2 3 (X.2 3 + 1)) (pO P) P) 0 = upx (tlA (htl A) (cM X.2 (pO P) P) 0) 6 (tlA (htl A) (cM X.2 (pO P) P) 0 6 + 1) := by
    rw [cM_up3 _ _ _ _ _ (by omega)]
    have e3 : X.2 3 = cM X.2 (pO P) P 3 := by
      unfold cM
      rw [upx_ne (by decide), upx_ne (by decide)]
    rw [e3]
    exact tlA_up _ _ 3
  show sTl (sLo (lkA (rowH A X.1 X.2 P) i 0 none) (loAdd (hlo (rowH A X.1 X.2 P)) (hnum (rowH A X.1 X.2 P) i))) (upx (tlA (htl A) (cM X.2 (pO P) P) 0) 6 (tlA (htl A) (cM X.2 (pO P) P) 0 6 + 1)) = sTl (mvP (em1 X i).1 (pO P) P) (tlA (htl A) (cM (upx X.2 3 (X.2 3 + 1)) (pO P) P) 0)
  rw [e]
  rfl
/-- a row without moves (of a MAJOR) -/
def rowZ (A : Hp) (X : HX) : Hp := sTl X.1 (tlA (htl A) X.2 0)
theorem emH_rowZ (A : Hp) (X : HX) (i : Nat) : emH (rowZ A X) i = rowZ A (em1 X i) := by
  have e : tlA (htl A) (upx X.2 3 (X.2 3 + 1)) 0 = upx (tlA (htl A) X.2 0) 6 (tlA (htl A) X.2 0 6 + 1) := tlA_up _ _ 3
  show sTl (sLo (lkA (rowZ A X) i 0 none) (loAdd (hlo (rowZ A X)) (hnum (rowZ A X) i))) (upx (tlA (htl A) X.2 0) 6 (tlA (htl A) X.2 0 6 + 1)) = sTl (em1 X i).1 (tlA (htl A) (upx X.2 3 (X.2 3 + 1)) 0)
  rw [e]
  rfl
/-! lasting ones -/
def enH (H : Hp) (i : Nat) : Hp := sTl (sEn H (hen H ++ [i])) (upx (htl H) 7 (htl H 7 + 1))
def enS (X : HX) (i : Nat) : HX := (sEn X.1 (hen X.1 ++ [i]), upx X.2 4 (X.2 4 + 1))
theorem enH_row (A : Hp) (X : HX) (P : Pn) (i : Nat) : enH (rowH A X.1 X.2 P) i = rowH A (enS X i).1 (enS X i).2 P := by
  have e : tlA (htl A) (cM (upx X.2 4 (X.2 4 + 1)) (pO P) P) 0 = upx (tlA (htl A) (cM X.2 (pO P) P) 0) 7 (tlA (htl A) (cM X.2 (pO P) P) 0 7 + 1) := by
    rw [cM_up3 _ _ _ _ _ (by omega)]
    have e3 : X.2 4 = cM X.2 (pO P) P 4 := by
      unfold cM
      rw [upx_ne (by decide), upx_ne (by decide)]
    rw [e3]
    exact tlA_up _ _ 4
  show sTl (sEn (rowH A X.1 X.2 P) (hen (rowH A X.1 X.2 P) ++ [i])) (upx (tlA (htl A) (cM X.2 (pO P) P) 0) 7 (tlA (htl A) (cM X.2 (pO P) P) 0 7 + 1)) = sTl (mvP (enS X i).1 (pO P) P) (tlA (htl A) (cM (upx X.2 4 (X.2 4 + 1)) (pO P) P) 0)
  rw [e]
  rfl
theorem enH_rowZ (A : Hp) (X : HX) (i : Nat) : enH (rowZ A X) i = rowZ A (enS X i) := by
  have e : tlA (htl A) (upx X.2 4 (X.2 4 + 1)) 0 = upx (tlA (htl A) X.2 0) 7 (tlA (htl A) X.2 0 7 + 1) := tlA_up _ _ 4
  show sTl (sEn (rowZ A X) (hen (rowZ A X) ++ [i])) (upx (tlA (htl A) X.2 0) 7 (tlA (htl A) X.2 0 7 + 1)) = sTl (enS X i).1 (tlA (htl A) (upx X.2 4 (X.2 4 + 1)) 0)
  rw [e]
  rfl
theorem enX_succ {A : Hp} {g : Nat → Nat} {X : HX} {i : Nat} : enX A g X (i + 1) = if hkd A i = 2 ∧ ¬ g i = 1 then enS (enX A g X i) i else enX A g X i := by
  by_cases h : hkd A i = 2 ∧ ¬ g i = 1
  · rw [if_pos h]
    have es : lsE A g (i + 1) = lsE A g i ++ [i] := by rw [lsE_succ, if_pos h]
    unfold enX enS
    rw [es, List.length_append]
    refine Prod.ext ?_ ?_
    · show sEn X.1 (hen X.1 ++ (lsE A g i ++ [i])) = sEn (sEn X.1 (hen X.1 ++ lsE A g i)) (hen X.1 ++ lsE A g i ++ [i])
      rw [List.append_assoc]; rfl
    · show upx X.2 4 (X.2 4 + ((lsE A g i).length + 1)) = upx (upx X.2 4 (X.2 4 + (lsE A g i).length)) 4 (upx X.2 4 (X.2 4 + (lsE A g i).length) 4 + 1)
      funext x
      by_cases x4 : x = 4
      · subst x4; rw [upx_same, upx_same, upx_same]; omega
      · rw [upx_ne x4, upx_ne x4, upx_ne x4]
  · rw [if_neg h]
    unfold enX
    rw [lsE_succ, if_neg h]
/-- ends: any rows Rw that show heaps with counts -/
theorem m_ends {τ : rS} {v : Nat} {A : Hp} {X : HX} {g : Nat → Nat} {y : Int32} {Q : List Nat} {Rw : HX → Hp} (hen_row : ∀ Y i, enH (Rw Y) i = Rw (enS Y i)) (hcol : ∀ i, i ≤ hn A → hn (Rw (enX A g X i)) = hn A ∧ hkd (Rw (enX A g X i)) = hkd A ∧ hen (Rw (enX A g X i)) = hen X.1 ++ lsE A g i) (hOK : ∀ i, i ≤ hn A → OK (Rw (enX A g X i)) ∧ Bd (Rw (enX A g X i)) ∧ (hen X.1 ++ lsE A g i).length ≤ 78) (hM : MR (τ 66 v) (Rw X)) (h0 : enX A g X 0 = X) (hn78 : hn A ≤ 78) (hQ : ∀ j, j < 80 → τ 68 0 j = if j ∈ Q then 1 else 0) (hc : ∀ i, i < hn A → hkd A i = 2 → (¬ g i = 1 ↔ (¬ i ∈ Q ∧ (y = 0 ∨ ¬ hsp (Rw (enX A g X i)) i = 2)))) : hit (fX10_ends v y τ) (fun _ s => MR (s 66 v) (Rw (enX A g X (hn A))) ∧ LGr τ s v ∧ s 10 0 24 = nI (lsE A g (hn A)).length ∧ (∀ p, p < (lsE A g (hn A)).length → s 70 0 p = nI ((lsE A g (hn A)).getD p 0)) ∧ (∀ q, ¬ q = 24 → s 10 0 q = τ 10 0 q) ∧ ∀ c k, ¬ (c = 66 ∧ k = v) → ¬ (c = 70 ∧ k = 0) → ¬ (c = 10 ∧ k = 0) → s c k = τ c k) := by
  unfold fX10_ends
  rw [st_eq]
  refine bd_hit (hit_mono (lp_for (I := fun i s => MR (s 66 v) (Rw (enX A g X i)) ∧ LGr τ s v ∧ s 10 0 24 = nI (lsE A g i).length ∧ (∀ p, p < (lsE A g i).length → s 70 0 p = nI ((lsE A g i).getD p 0)) ∧ (∀ q, ¬ q = 24 → s 10 0 q = τ 10 0 q) ∧ ∀ c k, ¬ (c = 66 ∧ k = v) → ¬ (c = 70 ∧ k = 0) → ¬ (c = 10 ∧ k = 0) → s c k = τ c k) (P := fun _ s => MR (s 66 v) (Rw (enX A g X (hn A))) ∧ LGr τ s v ∧ s 10 0 24 = nI (lsE A g (hn A)).length ∧ (∀ p, p < (lsE A g (hn A)).length → s 70 0 p = nI ((lsE A g (hn A)).getD p 0)) ∧ (∀ q, ¬ q = 24 → s 10 0 q = τ 10 0 q) ∧ ∀ c k, ¬ (c = 66 ∧ k = v) → ¬ (c = 70 ∧ k = 0) → ¬ (c = 10 ∧ k = 0) → s c k = τ c k) (b := hn A) ?_ ?_ fu 0 (wr τ 10 0 24 0) (by omega) (by have := fu_ge; omega) ⟨?_, ?_, ?_, ?_, ?_, ?_⟩) (fun _ s h => h))
  · rintro i s hi ⟨g1, g2, g3, g4, g5, g6⟩
    obtain ⟨k1, k2, k3⟩ := hcol i (by omega)
    obtain ⟨o1, o2, o3⟩ := hOK i (by omega)
    have hll : (lsE A g i).length ≤ 78 := by rw [List.length_append] at o3; omega
    have e0 : s 66 v (ix 0) = nI (hn A) := by rw [← k1]; exact g1.n
    have hir : i < hn (Rw (enX A g X i)) := by rw [k1]; exact hi
    have e68 : s 68 0 i = if i ∈ Q then 1 else 0 := by rw [g6 68 0 (by omega) (by omega) (by omega)]; exact hQ i (by omega)
    unfold fX10_ends_L7 fX10_ends_j103L7
    rw [e0]
    simp (disch := omega) only [pn_lt, hi, if_true]
    rw [e_of1 g1 o1 hir, bd_some, k2]
    have no : ¬ (hkd A i = 2 ∧ ¬ g i = 1) → hit (some ((.inl (nI i + 1) : Int32 ⊕ Unit), s)) (fun q s => match q with
        | .inl y => y = nI (i + 1) ∧ MR (s 66 v) (Rw (enX A g X (i + 1))) ∧ LGr τ s v ∧ s 10 0 24 = nI (lsE A g (i + 1)).length ∧ (∀ p, p < (lsE A g (i + 1)).length → s 70 0 p = nI ((lsE A g (i + 1)).getD p 0)) ∧ (∀ q, ¬ q = 24 → s 10 0 q = τ 10 0 q) ∧ ∀ c k, ¬ (c = 66 ∧ k = v) → ¬ (c = 70 ∧ k = 0) → ¬ (c = 10 ∧ k = 0) → s c k = τ c k
        | .inr _ => MR (s 66 v) (Rw (enX A g X (hn A))) ∧ LGr τ s v ∧ s 10 0 24 = nI (lsE A g (hn A)).length ∧ (∀ p, p < (lsE A g (hn A)).length → s 70 0 p = nI ((lsE A g (hn A)).getD p 0)) ∧ (∀ q, ¬ q = 24 → s 10 0 q = τ 10 0 q) ∧ ∀ c k, ¬ (c = 66 ∧ k = v) → ¬ (c = 70 ∧ k = 0) → ¬ (c = 10 ∧ k = 0) → s c k = τ c k) := fun hno => by
      have eX : enX A g X (i + 1) = enX A g X i := by rw [enX_succ, if_neg hno]
      have eL : lsE A g (i + 1) = lsE A g i := by rw [lsE_succ, if_neg hno]
      refine hit_some ⟨by rw [pn_add1], ?_⟩
      rw [eX, eL]
      exact ⟨g1, g2, g3, g4, g5, g6⟩
    by_cases hk : hkd A i = 2
    · rw [if_pos hk, pn_bnd (by omega) (by omega), ix_nI (by omega), e68]
      have hci := hc i hi hk
      have yes : ¬ g i = 1 → hit (fX10_ends_j48L7 v y (nI i) s) (fun q s => match q with
          | .inl y => y = nI (i + 1) ∧ MR (s 66 v) (Rw (enX A g X (i + 1))) ∧ LGr τ s v ∧ s 10 0 24 = nI (lsE A g (i + 1)).length ∧ (∀ p, p < (lsE A g (i + 1)).length → s 70 0 p = nI ((lsE A g (i + 1)).getD p 0)) ∧ (∀ q, ¬ q = 24 → s 10 0 q = τ 10 0 q) ∧ ∀ c k, ¬ (c = 66 ∧ k = v) → ¬ (c = 70 ∧ k = 0) → ¬ (c = 10 ∧ k = 0) → s c k = τ c k
          | .inr _ => MR (s 66 v) (Rw (enX A g X (hn A))) ∧ LGr τ s v ∧ s 10 0 24 = nI (lsE A g (hn A)).length ∧ (∀ p, p < (lsE A g (hn A)).length → s 70 0 p = nI ((lsE A g (hn A)).getD p 0)) ∧ (∀ q, ¬ q = 24 → s 10 0 q = τ 10 0 q) ∧ ∀ c k, ¬ (c = 66 ∧ k = v) → ¬ (c = 70 ∧ k = 0) → ¬ (c = 10 ∧ k = 0) → s c k = τ c k) := fun hg1 => by
        have eX : enX A g X (i + 1) = enS (enX A g X i) i := by rw [enX_succ, if_pos ⟨hk, hg1⟩]
        have eL : lsE A g (i + 1) = lsE A g i ++ [i] := by rw [lsE_succ, if_pos ⟨hk, hg1⟩]
        have lE : (lsE A g i ++ [i]).length = (lsE A g i).length + 1 := by rw [List.length_append]; rfl
        rw [eX, eL, lE]
        have e42 : s 66 v (ix 1242) = nI (hen X.1 ++ lsE A g i).length := by rw [← k3]; exact g1.en
        have e43 : (1243 : Int32) + nI (hen X.1 ++ lsE A g i).length = nI (1243 + (hen X.1 ++ lsE A g i).length) := nI_add 1243 _
        unfold fX10_ends_j48L7 fX10_ends_j103L7
        rw [e_of0 g1 o1 hir, bd_some, e42, e43, pn_bnd (by omega) (by omega), ix_nI (by omega), st_eq]
        have q1 : wr s 66 v (1243 + (hen X.1 ++ lsE A g i).length) (nI (hnum (Rw (enX A g X i)) i)) 66 v (ix 1242) = nI (hen X.1 ++ lsE A g i).length := by
          rw [wr_i (show ¬ ix 1242 = _ by show ¬ 1242 = _; omega)]; exact e42
        rw [q1, pn_add1, st_eq]
        obtain ⟨t, ht⟩ : ∃ t, t = wr (wr s 66 v (1243 + (hen X.1 ++ lsE A g i).length) (nI (hnum (Rw (enX A g X i)) i))) 66 v (ix 1242) (nI ((hen X.1 ++ lsE A g i).length + 1)) := ⟨_, rfl⟩
        rw [← ht]
        have tq : ∀ q, ¬ q = 1242 → ¬ q = 1243 + (hen X.1 ++ lsE A g i).length → t 66 v q = s 66 v q := fun q h1 h2 => by rw [ht, wr_i (show ¬ q = ix 1242 from h1), wr_i h2]
        have tc : ∀ c k, ¬ (c = 66 ∧ k = v) → t c k = s c k := fun c k hck => by
          rw [ht, show wr (wr s 66 v (1243 + (hen X.1 ++ lsE A g i).length) (nI (hnum (Rw (enX A g X i)) i))) 66 v (ix 1242) (nI ((hen X.1 ++ lsE A g i).length + 1)) c k = wr s 66 v (1243 + (hen X.1 ++ lsE A g i).length) (nI (hnum (Rw (enX A g X i)) i)) c k from wrR_ne _ _ _ _ hck]
          exact wrR_ne _ _ _ _ hck
        have hM1 : MR (t 66 v) (sEn (Rw (enX A g X i)) (hen X.1 ++ lsE A g i ++ [i])) := by
          have lE2 : (hen X.1 ++ lsE A g i ++ [i]).length = (hen X.1 ++ lsE A g i).length + 1 := by rw [List.length_append (bs := [i])]; rfl
          refine g1.en' o1 o2 (by rw [lE2]; omega) ?_ (fun p hp => ?_) (fun q h1 h2 => tq q (by omega) (by omega))
          · rw [ht]; show wr _ 66 v 1242 _ 66 v 1242 = _; rw [wr_same, lE2]
          · rw [lE2] at hp
            by_cases ep : p = (hen X.1 ++ lsE A g i).length
            · subst ep
              rw [getD_app_eq, ht, wr_i (show ¬ 1243 + (hen X.1 ++ lsE A g i).length = ix 1242 from (by omega : ¬ _ = 1242)), wr_same]
            · rw [getD_app_lt (by omega), tq _ (by omega) (by omega)]
              have := g1.eni (i := p) (by rw [k3]; omega)
              rw [k3] at this
              exact this
        have e71 : t 66 v (ix 1371) = htl (Rw (enX A g X i)) 7 := by
          rw [tq (ix 1371) (by decide) (by show ¬ 1371 = _; omega)]
          exact g1.tl (t := 7) (by omega)
        rw [e71, st_eq]
        have u24 : wr t 66 v (ix 1371) (htl (Rw (enX A g X i)) 7 + 1) 10 0 24 = nI (lsE A g i).length := by rw [wr_c (by decide), tc 10 0 (by omega)]; exact g3
        rw [u24, pn_bnd (by omega) (by omega), ix_nI (by omega), st_eq]
        have u24' : wr (wr t 66 v (ix 1371) (htl (Rw (enX A g X i)) 7 + 1)) 70 0 (lsE A g i).length (nI i) 10 0 24 = nI (lsE A g i).length := by rw [wr_c (by decide)]; exact u24
        rw [u24', pn_add1, st_eq]
        have ek : hen (Rw (enX A g X i)) ++ [i] = hen X.1 ++ lsE A g i ++ [i] := by rw [k3]
        refine hit_some ⟨by rw [pn_add1], ?_, fun q hq => ?_, wr_same _ _ _ _ _, fun p hp => ?_, fun q hq => ?_, fun c k h1 h2 h3 => ?_⟩
        · rw [← hen_row]
          unfold enH
          rw [ek, wr_c (by decide), wr_c (by decide)]
          refine hM1.tl' (o1.en' (fun j hj => ?_)).on ⟨by show (hen X.1 ++ lsE A g i ++ [i]).length ≤ 80; rw [List.length_append]; show _ + 1 ≤ 80; omega, o2.2⟩ (by omega) (by show wr t 66 v 1371 _ 66 v 1371 = _; rw [wr_same]) (fun q h1 h2 => by rw [wr_i (show ¬ q = ix 1371 from h2)])
          rcases List.mem_append.mp hj with hj | hj
          · exact o1.en (by rw [k3]; exact hj)
          · rw [List.mem_singleton.mp hj]; exact hir
        · rw [wr_c (by decide), wr_c (by decide), wr_i (show ¬ q = ix 1371 from (by omega : ¬ q = 1371)), tq q (by omega) (by omega)]; exact g2 q hq
        · rw [wr_c (by decide)]
          by_cases ep : p = (lsE A g i).length
          · subst ep; rw [wr_same, getD_app_eq]
          · rw [wr_i ep, getD_app_lt (by omega), wr_c (by decide), tc 70 0 (by omega)]; exact g4 p (by omega)
        · rw [wr_i hq, wr_c (by decide), wr_c (by decide), tc 10 0 (by omega)]; exact g5 q hq
        · rw [show wr (wr (wr t 66 v (ix 1371) (htl (Rw (enX A g X i)) 7 + 1)) 70 0 (lsE A g i).length (nI i)) 10 0 24 (nI ((lsE A g i).length + 1)) c k = wr (wr t 66 v (ix 1371) (htl (Rw (enX A g X i)) 7 + 1)) 70 0 (lsE A g i).length (nI i) c k from wrR_ne _ _ _ _ h3, show wr (wr t 66 v (ix 1371) (htl (Rw (enX A g X i)) 7 + 1)) 70 0 (lsE A g i).length (nI i) c k = wr t 66 v (ix 1371) (htl (Rw (enX A g X i)) 7 + 1) c k from wrR_ne _ _ _ _ h2, show wr t 66 v (ix 1371) (htl (Rw (enX A g X i)) 7 + 1) c k = t c k from wrR_ne _ _ _ _ h1, tc c k h1]
          exact g6 c k h1 h2 h3
      by_cases hq : i ∈ Q
      · rw [if_pos hq, if_neg one_ne]
        exact no (fun z => (hci.mp z.2).1 hq)
      · rw [if_neg hq, if_pos rfl]
        by_cases y0 : y = 0
        · rw [if_pos y0]
          refine hit_mono (yes (hci.mpr ⟨hq, Or.inl y0⟩)) (fun q s h => ?_)
          cases q <;> exact h
        · rw [if_neg y0, e_isOld g1 o1 hir, bd_some]
          by_cases h2 : hsp (Rw (enX A g X i)) i = 2
          · rw [if_pos h2, if_neg one_ne]
            exact no (fun z => by
              rcases (hci.mp z.2).2 with y | y
              · exact y0 y
              · exact y h2)
          · rw [if_neg h2, if_pos rfl]
            refine hit_mono (yes (hci.mpr ⟨hq, Or.inr h2⟩)) (fun q s h => ?_)
            cases q <;> exact h
    · rw [if_neg hk]
      exact no (fun z => hk z.1)
  · rintro s ⟨g1, g2, g3, g4, g5, g6⟩
    have e0 : s 66 v (ix 0) = nI (hn A) := by rw [← (hcol (hn A) (by omega)).1]; exact g1.n
    unfold fX10_ends_L7
    rw [e0]
    simp (disch := omega) only [pn_lt, Nat.lt_irrefl, if_false]
    exact hit_some ⟨g1, g2, g3, g4, g5, g6⟩
  · rw [h0, wr_c (by decide)]; exact hM
  · intro i _; rw [wr_c (by decide)]
  · rw [wr_same]; rfl
  · intro p hp; exact absurd hp (Nat.not_lt_zero _)
  · intro q hq; rw [wr_i hq]
  · intro c k h1 h2 h3; exact wrR_ne _ _ _ _ h3
