/-! a MINOR, the model's side: its weak ones and its end -/
theorem foldl_stuck {R : Nat → Nat} {A : Hp} {P : Pn} (h : pX P = true) : ∀ l : List Nat, l.foldl (plS1 R A) P = P := by
  intro l
  induction l with
  | nil => rfl
  | cons s l ih => show l.foldl (plS1 R A) (plS1 R A P s) = P; rw [plS1_stuck h]; exact ih
theorem enX_0 (A : Hp) (g : Nat → Nat) (X : HX) : enX A g X 0 = X := by
  unfold enX
  refine Prod.ext ?_ ?_
  · show sEn X.1 (hen X.1 ++ []) = X.1
    rw [List.append_nil]; rfl
  · show upx X.2 4 (X.2 4 + 0) = X.2
    funext x
    by_cases h : x = 4
    · subst h; rw [upx_same]; rfl
    · rw [upx_ne h]
/-- what the model's weak passes need -/
def WkF (R : Nat → Nat) (A : Hp) (P1 P2 : Pn) (g : Nat → Nat) : Prop := (∀ i, g i = 1 ↔ hsp A i = 2 ∨ i ∈ pO P1) ∧ (∀ i, g i = 0 ↔ ¬ (hsp A i = 2 ∨ i ∈ pO P2)) ∧ (∀ i, g i ≤ 2) ∧ Fol P1 P2 ∧ P2 = plS R A P1 (List.range (hn A)) ∧ (∀ j ∈ hen A, g j = 1) ∧ pX P1 = false
/-! the steps of the four passes -/
def stpP (H : Hp) (i : Nat) (c : Bool) (s : rS) (v : Nat) (q : Int32 ⊕ Unit) (t : rS) : Prop := q = .inl (nI (i + 1)) ∧ MR (t 66 v) (if c = true then emH H i else H) ∧ LGr s t v ∧ ∀ c k, ¬ (c = 66 ∧ k = v) → t c k = s c k
section stP
variable {s : rS} {v i : Nat} {H : Hp} {Q : List Nat}
theorem stp_no {c : Bool} (hM : MR (s 66 v) H) (hc : c = false) : hit (some ((.inl (nI i + 1) : Int32 ⊕ Unit), s)) (stpP H i c s v) := hit_some ⟨by rw [pn_add1], by rw [hc]; exact hM, LGr.refl _ _, fun _ _ _ => rfl⟩
theorem stp_yes {c : Bool} {y : Int32} (hM : MR (s 66 v) H) (w : OK H) (hb : Bd H) (hi : i < hn H) (hwz : hkd H i = 1 → 1 ≤ hsz H i) (hQ : ∀ j, j < 80 → s 68 0 j = if j ∈ Q then 1 else 0) (hc : c = emc H Q y i) : hit (bd (fX10_empties v (nI i) y s) (fun _ σ2 => some ((.inl (nI i + 1) : Int32 ⊕ Unit), σ2))) (stpP H i c s v) := by
  refine bd_hit (hit_mono (m_empties hM w hb hi hwz hQ) ?_)
  rintro r t ⟨k1, k2, k3⟩
  exact hit_some ⟨by rw [pn_add1], by rw [hc]; exact k1, k2, k3⟩
theorem stp_L2 (hM : MR (s 66 v) H) (w : OK H) (hb : Bd H) (hi : i < hn H) (hwz : hkd H i = 1 → 1 ≤ hsz H i) (hQ : ∀ j, j < 80 → s 68 0 j = if j ∈ Q then 1 else 0) : hit (fX10_weakensAndEnds_L2 v (nI i) s) (stpP H i (decide (hsp H i = 2 ∨ i ∈ Q) && emc H Q 1 i) s v) := by
  have hw := w.n
  have e0 : s 66 v (ix 0) = nI (hn H) := hM.n
  have e68 := hQ i (by omega)
  unfold fX10_weakensAndEnds_L2 fX10_weakensAndEnds_j33L2 fX10_weakensAndEnds_j26L2 fX10_weakensAndEnds_j33L2
  rw [e0]
  simp (disch := omega) only [pn_lt, hi, if_true]
  rw [pn_bnd (by omega) (by omega), ix_nI (by omega), e68]
  by_cases hq : i ∈ Q
  · rw [if_pos hq, if_neg one_ne]
    exact stp_yes hM w hb hi hwz hQ (by simp [hq])
  · rw [if_neg hq, if_pos rfl, e_isOld hM w hi, bd_some]
    by_cases h2 : hsp H i = 2
    · rw [if_pos h2, if_neg one_ne]
      exact stp_yes hM w hb hi hwz hQ (by simp [h2])
    · rw [if_neg h2, if_pos rfl]
      exact stp_no hM (by simp [h2, hq])
theorem stp_L99 {n fr : Nat} (hM : MR (s 66 v) H) (w : OK H) (hb : Bd H) (hi : i < hn H) (hwz : hkd H i = 1 → 1 ≤ hsz H i) (hG : GM s n Q) (hn' : n ≤ 78) (hfr : fr ≤ Q.length) : hit (fX10_weakensAndEnds_L99 v (nI fr) (nI i) s) (stpP H i (decide (i ∈ Q.drop fr) && emc H Q 1 i) s v) := by
  have hw := w.n
  have e0 : s 66 v (ix 0) = nI (hn H) := hM.n
  obtain ⟨r, e1, e2⟩ := m_isMetBehind (k := i) hG hn' (by omega) hfr
  unfold fX10_weakensAndEnds_L99 fX10_weakensAndEnds_j122L99
  rw [e0]
  simp (disch := omega) only [pn_lt, hi, if_true]
  rw [e1, bd_some]
  cases r with
  | true =>
    have hm := e2.mp rfl
    rw [if_neg (by decide)]
    exact stp_yes hM w hb hi hwz hG.2.2.2.2 (by simp [hm])
  | false =>
    have hm : ¬ i ∈ Q.drop fr := fun z => by have := e2.mpr z; cases this
    rw [if_pos (by decide)]
    exact stp_no hM (by simp [hm])
theorem stp_J9 (hM : MR (s 66 v) H) (w : OK H) (hb : Bd H) (hi : i < hn H) (hwz : hkd H i = 1 → 1 ≤ hsz H i) (hQ : ∀ j, j < 80 → s 68 0 j = if j ∈ Q then 1 else 0) : hit (fX10_majors_L9 v (nI i) s) (stpP H i (decide (i ∈ Q) && emc H Q 0 i) s v) := by
  have hw := w.n
  have e0 : s 66 v (ix 0) = nI (hn H) := hM.n
  have e68 := hQ i (by omega)
  unfold fX10_majors_L9 fX10_majors_j32L9
  rw [e0]
  simp (disch := omega) only [pn_lt, hi, if_true]
  rw [pn_bnd (by omega) (by omega), ix_nI (by omega), e68]
  by_cases hq : i ∈ Q
  · rw [if_pos hq, if_neg one_ne]
    exact stp_yes hM w hb hi hwz hQ (by simp [hq])
  · rw [if_neg hq, if_pos rfl]
    exact stp_no hM (by simp [hq])
theorem stp_J83 {n fr : Nat} (hM : MR (s 66 v) H) (w : OK H) (hb : Bd H) (hi : i < hn H) (hwz : hkd H i = 1 → 1 ≤ hsz H i) (hG : GM s n Q) (hn' : n ≤ 78) (hfr : fr ≤ Q.length) : hit (fX10_majors_L83 v (nI fr) (nI i) s) (stpP H i (decide (i ∈ Q.drop fr) && emc H Q 0 i) s v) := by
  have hw := w.n
  have e0 : s 66 v (ix 0) = nI (hn H) := hM.n
  obtain ⟨r, e1, e2⟩ := m_isMetBehind (k := i) hG hn' (by omega) hfr
  unfold fX10_majors_L83 fX10_majors_j106L83
  rw [e0]
  simp (disch := omega) only [pn_lt, hi, if_true]
  rw [e1, bd_some]
  cases r with
  | true =>
    have hm := e2.mp rfl
    rw [if_neg (by decide)]
    exact stp_yes hM w hb hi hwz hG.2.2.2.2 (by simp [hm])
  | false =>
    have hm : ¬ i ∈ Q.drop fr := fun z => by have := e2.mpr z; cases this
    rw [if_pos (by decide)]
    exact stp_no hM (by simp [hm])
end stP
section mW
variable {τ : rS} {v : Nat} {R : Nat → Nat} {b : Nat} {A : Hp} {g : Nat → Nat} {P1 P2 : Pn}
theorem row_kd {X : HX} {P : Pn} (h : X.1.2.2.1 = A.2.2.1) : hkd (rowH A X.1 X.2 P) = hkd A := by
  funext i
  show X.1.2.2.1 0 i = _
  rw [h]; rfl
theorem row_sz {X : HX} {P : Pn} (h : X.1.2.1 = A.2.1) : hsz (rowH A X.1 X.2 P) = hsz A := by
  funext i
  show X.1.2.1 1 i = _
  rw [h]; rfl
theorem row_sp {X : HX} {P : Pn} (h : X.1.2.1 = A.2.1) (i : Nat) : hsp (rowH A X.1 X.2 P) i = if i ∈ pO P then pSp P i else hsp A i := by
  show (if i ∈ pO P then pSp P i else X.1.2.1 2 i) = _
  rw [h]; rfl
theorem PMv.mk' {s : rS} {B B' : Hp} {c c' : Nat → Nat} {P : Pn} (h : PMv τ v A B c P) (hM : MR (s 66 v) (rowH A B' c' P)) (e : ∀ c k, ¬ (c = 66 ∧ k = v) → s c k = τ c k) : PMv s v A B' c' P := by
  obtain ⟨-, hG, h1, h2, h3⟩ := h
  have e10 : s 10 0 = τ 10 0 := e 10 0 (by omega)
  have e68 : s 68 0 = τ 68 0 := e 68 0 (by omega)
  have e69 : s 69 0 = τ 69 0 := e 69 0 (by omega)
  refine ⟨hM, ?_, by rw [e10]; exact h1, by rw [e10]; exact h2, by rw [e10]; exact h3⟩
  unfold GM at hG ⊢
  rw [e10, e68, e69]
  exact hG
theorem m_weak1 (h : PMv τ v A A (fun _ => 0) P1) (hI : Inv R b A) (hW : WkF R A P1 P2 g) (hP : PI R A P1) (hR : R 1 ≤ 32 ∧ R 2 ≤ 128) : hit (lp (fun (x : Int32) σ => fX10_weakensAndEnds_L2 v x σ) fu 0 τ) (fun _ s => PMv s v A (mX1 A g).1 (mX1 A g).2 P1 ∧ LGr τ s v ∧ ∀ c k, ¬ (c = 66 ∧ k = v) → s c k = τ c k) := by
  have w := hI.ok
  have hw := w.n
  obtain ⟨hg1, hg0, hg2, -, -, -, -⟩ := hW
  have hQ := h.2.1.2.2.2.2
  have hbA := hI.bd hR.2
  have t := m_pass (τ := τ) (v := v) (A := A) (c := wkg A g 1) (X := (A, fun _ => 0)) (step := fun x σ => fX10_weakensAndEnds_L2 v x σ) (Rw := fun Y => rowH A Y.1 Y.2 P1) (fun Y i => emH_row A Y P1 i) (fun i => (emL_sh (wkg A g 1) (A, fun _ => 0) i).1) h.1 hw (fun i s hi hM hs => ?_) (fun s e0 => ?_)
  · refine hit_mono t ?_
    rintro r s ⟨k1, k2, k3⟩
    exact ⟨h.mk' k1 k3, k2, k3⟩
  · obtain ⟨a1, a2, a3, -⟩ := emL_sh (wkg A g 1) (A, fun _ => 0) i
    have wH : OK (rowH A (emL (wkg A g 1) (A, fun _ => 0) i).1 (emL (wkg A g 1) (A, fun _ => 0) i).2 P1) := rowH_OK (emL_OK w) (hP.spl hR)
    have hbH : Bd (rowH A (emL (wkg A g 1) (A, fun _ => 0) i).1 (emL (wkg A g 1) (A, fun _ => 0) i).2 P1) := Bd_em hbA (emL_lo40 _ _ _ hbA.2.1)
    have eH : emc (rowH A (emL (wkg A g 1) (A, fun _ => 0) i).1 (emL (wkg A g 1) (A, fun _ => 0) i).2 P1) (pO P1) 1 i = _ := emc_row (Q := pO P1) (P := P1) rfl a3 a2 (show hlk (emL (wkg A g 1) (A, fun _ => 0) i).1 i 0 = hlk A i 0 by rw [emL_lk, if_neg (by omega)])
    have ekd := row_kd (A := A) (X := emL (wkg A g 1) (A, fun _ => 0) i) (P := P1) a3
    have esz := row_sz (A := A) (X := emL (wkg A g 1) (A, fun _ => 0) i) (P := P1) a2
    have esp := row_sp (A := A) (X := emL (wkg A g 1) (A, fun _ => 0) i) (P := P1) a2 i
    have hir : i < hn (rowH A (emL (wkg A g 1) (A, fun _ => 0) i).1 (emL (wkg A g 1) (A, fun _ => 0) i).2 P1) := by
      show i < (emL (wkg A g 1) (A, fun _ => 0) i).1.1
      rw [a1]; exact hi
    have hQs : ∀ j, j < 80 → s 68 0 j = if j ∈ pO P1 then 1 else 0 := fun j hj => by rw [hs 68 0 (by omega)]; exact hQ j hj
    have hst := stp_L2 hM wH hbH hir (by rw [ekd, esz]; exact (hI.2.2.2.1 i hi).2.1) hQs
    have ec : (decide (hsp (rowH A (emL (wkg A g 1) (A, fun _ => 0) i).1 (emL (wkg A g 1) (A, fun _ => 0) i).2 P1) i = 2 ∨ i ∈ pO P1) && emc (rowH A (emL (wkg A g 1) (A, fun _ => 0) i).1 (emL (wkg A g 1) (A, fun _ => 0) i).2 P1) (pO P1) 1 i) = wkg A g 1 i := by
      rw [eH, wkg_1 hg1 hg2 i]
      congr 1
      rw [decide_eq_decide, esp]
      by_cases hm : i ∈ pO P1
      · rw [if_pos hm]; exact ⟨fun _ => Or.inr hm, fun _ => Or.inr hm⟩
      · rw [if_neg hm]
    rw [ec] at hst
    exact hst
  · show fX10_weakensAndEnds_L2 v (nI (hn A)) s = _
    unfold fX10_weakensAndEnds_L2
    have e0 : s 66 v (ix 0) = nI (hn A) := e0
    rw [e0]
    simp (disch := omega) only [pn_lt, Nat.lt_irrefl, if_false]
end mW
