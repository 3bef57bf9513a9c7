/-! the plan: the loops -/
def sg (A : Hp) (how : Nat) (F O : List Nat) (j : Nat) : Nat := if hsp A j = 2 then 1 else if how = 1 then (if j ∈ O then 1 else 0) else (if j ∈ F then 1 else if j ∈ O then 2 else 0)
def PQ (σ : rS) (k : Nat) (R : Nat → Nat) (A : Hp) (how : Nat) (F : List Nat) (P : Pn) : Prop := CR σ k A ∧ RU σ R ∧ PC σ R A P ∧ (∀ j, j < hn A → σ 38 0 j = nI (sg A how F (pO P) j)) ∧ (how = 2 → ∀ j ∈ F, j ∈ pO P)
theorem pmv_sub {R : Nat → Nat} {A : Hp} {P : Pn} {o : Option Nat} {i : Nat} (h : i ∈ pO P) : i ∈ pO (pmv R A P o) := by
  cases o with
  | none => exact h
  | some j =>
    rcases pmv_ways R A P j with ⟨-, e⟩ | ⟨-, ⟨-, e⟩ | ⟨-, -, e⟩ | ⟨-, -, e⟩⟩
    · rw [e]; exact h
    · rw [e]; exact List.mem_append_left _ h
    · rw [e]; exact h
    · rw [e]; exact List.mem_append_left _ h
theorem sg_0 {A : Hp} {how : Nat} {F O : List Nat} {j : Nat} (hF : how = 2 → ∀ j ∈ F, j ∈ O) (hh : how = 1 ∨ how = 2) : sg A how F O j = 0 ↔ ¬ (hsp A j = 2 ∨ j ∈ O) := by
  unfold sg
  by_cases h2 : hsp A j = 2
  · rw [if_pos h2]; constructor
    · intro h; cases h
    · intro h; exact absurd (Or.inl h2) h
  · rw [if_neg h2]
    by_cases hO : j ∈ O
    · constructor
      · intro h
        rcases hh with rfl | rfl
        · rw [if_pos rfl, if_pos hO] at h; cases h
        · rw [if_neg (by decide)] at h
          by_cases hf : j ∈ F
          · rw [if_pos hf] at h; cases h
          · rw [if_neg hf, if_pos hO] at h; cases h
      · intro h; exact absurd (Or.inr hO) h
    · constructor
      · rintro - (z | z)
        · exact h2 z
        · exact hO z
      · intro _
        rcases hh with rfl | rfl
        · rw [if_pos rfl, if_neg hO]
        · rw [if_neg (by decide), if_neg (fun z => hO (hF rfl j z)), if_neg hO]
theorem PQ.cr {σ : rS} {k : Nat} {R : Nat → Nat} {A : Hp} {how : Nat} {F : List Nat} {P : Pn} (h : PQ σ k R A how F P) : CR σ k A := h.1
theorem pq_move {σ : rS} {k : Nat} {R : Nat → Nat} {A : Hp} {how : Nat} {F : List Nat} {P : Pn} (w : OK A) (h : PQ σ k R A how F P) (hh : how = 1 ∨ how = 2) {o : Option Nat} (ho : ∀ j, o = some j → j < hn A) : hit (fX1_planMove k (enc o) (nI how) σ) (fun _ s => PQ s k R A how F (pmv R A P o)) := by
  obtain ⟨hC, hR, hP, hS, hF⟩ := h
  have hST : ST σ A (fun j => decide (sg A how F (pO P) j = 1)) (fun j => decide (sg A how F (pO P) j = 2)) := fun j hj => by
    rw [hS j hj]
    congr 1
    unfold stg sg
    by_cases h2 : hsp A j = 2
    · simp [h2]
    · rcases hh with rfl | rfl
      · by_cases hO : j ∈ pO P <;> simp [h2, hO]
      · by_cases hf : j ∈ F
        · simp [h2, hf]
        · by_cases hO : j ∈ pO P <;> simp [h2, hf, hO]
  refine hit_mono (hit_fr (frX1_planMove k (enc o) (nI how) σ) (c_planMove hC w hP hR hST (fun j hj => ?_) ho)) ?_
  · rw [← sg_0 hF hh]
    have := hST j hj
    rw [hS j hj] at this
    have b1 : sg A how F (pO P) j ≤ 2 := by unfold sg; split <;> (try split) <;> (try split) <;> (try split) <;> omega
    have b2 : stg (fun j => decide (sg A how F (pO P) j = 1)) (fun j => decide (sg A how F (pO P) j = 2)) j ≤ 2 := by unfold stg; split <;> (try split) <;> omega
    rw [pn_eq (by omega) (by omega)] at this
    rw [← this]
  · rintro r s ⟨hf, hP', hs⟩
    have hsub : ∀ i, i ∈ pO P → i ∈ pO (pmv R A P o) := fun i hi => pmv_sub hi
    refine ⟨hC.frame hf (by intro c h; simp only [List.mem_cons, List.not_mem_nil, or_false]; omega), ⟨fun i hi => by rw [hf 20 (by decide)]; exact hR.1 i hi, hR.2⟩, hP', fun i hi => ?_, fun h2 j hj => hsub j (hF h2 j hj)⟩
    rw [hs i hi]
    by_cases hn : i ∈ pO (pmv R A P o) ∧ ¬ i ∈ pO P
    · rw [if_pos hn]
      have hy := (hP'.1.2 i hn.1).2
      congr 1
      unfold sg
      rw [if_neg hy]
      rcases hh with rfl | rfl
      · rw [if_pos rfl, if_pos hn.1]
      · rw [if_neg (by decide), if_neg (fun z => hn.2 (hF rfl i z)), if_pos hn.1]
    · rw [if_neg hn, hS i hi]
      have e : (i ∈ pO (pmv R A P o)) = (i ∈ pO P) := propext ⟨fun z => Classical.byContradiction (fun y => hn ⟨z, y⟩), hsub i⟩
      congr 1
      unfold sg
      simp only [e]
theorem plL_step {R : Nat → Nat} {A : Hp} {P : Pn} {l : List (Option Nat)} {i : Nat} (hi : i < l.length) : plL R A P (l.drop i) = plL R A (pmv R A P (l.getD i none)) (l.drop (i + 1)) := by
  rw [drop_cons' none hi]
  rfl
theorem plL_end {R : Nat → Nat} {A : Hp} {P : Pn} {l : List (Option Nat)} : plL R A P (l.drop l.length) = P := by
  rw [List.drop_length]
  rfl
theorem rtsL_get {A : Hp} {r : Nat} (hr : r < 8) : (rtsL A).getD r none = hrt A r := by
  unfold rtsL
  rw [List.getD_eq_getElem?_getD, List.getElem?_map, List.getElem?_range hr]
  rfl
theorem ensL_get {A : Hp} {i : Nat} (hi : i < (hen A).length) : (ensL A).getD i none = some ((hen A).getD i 0) := by
  unfold ensL
  rw [List.getD_eq_getElem?_getD, List.getElem?_map, List.getD_eq_getElem?_getD, List.getElem?_eq_getElem hi]
  rfl
theorem rmsL_get {A : Hp} {i : Nat} (hi : i < (hrm A).length) : (rmsL A).getD i none = if ((hrm A).getD i (0, 0)).2 < fst0 A ((hrm A).getD i (0, 0)).1 then none else hlk A ((hrm A).getD i (0, 0)).1 ((hrm A).getD i (0, 0)).2 := by
  unfold rmsL
  rw [List.getD_eq_getElem?_getD, List.getElem?_map, List.getD_eq_getElem?_getD, List.getElem?_eq_getElem hi]
  rfl
theorem c_plRoots {σ : rS} {k : Nat} {R : Nat → Nat} {A : Hp} {P : Pn} (w : OK A) (h : PQ σ k R A 1 [] P) : hit (fX1_planFromRoots k σ) (fun _ s => PQ s k R A 1 [] (plL R A (plL R A (plL R A P (rtsL A)) (ensL A)) (rmsL A))) := by
  have hw := w.n
  have l8 : (rtsL A).length = 8 := by unfold rtsL; rw [List.length_map, List.length_range]
  have lE : (ensL A).length = (hen A).length := by unfold ensL; rw [List.length_map]
  have lM : (rmsL A).length = (hrm A).length := by unfold rmsL; rw [List.length_map]
  unfold fX1_planFromRoots
  refine bd_hit (hit_mono (lp_for (I := fun r s => ∃ P', PQ s k R A 1 [] P' ∧ plL R A P' ((rtsL A).drop r) = plL R A P (rtsL A)) (P := fun _ s => PQ s k R A 1 [] (plL R A P (rtsL A))) (b := 8) ?_ ?_ fu 0 σ (by omega) (by have := fu_ge; omega) ⟨P, h, rfl⟩) ?_)
  · rintro r s hr ⟨P', hP', he⟩
    unfold fX1_planFromRoots_L2
    have e53 := hP'.cr.rt hr
    simp (disch := omega) only [pn_lt8, pn_lt, pn_neg, pn_eq, pn_eq0, pn_eq1, pn_eq2, pn_m1, pn_m1', pn_m1lt, pn_ix, pn_bnd, pn_add1, pn_add3, pn_mul4, nI_add, bd_some, st_eq, rd_eq, if_true, if_false, ite_true, ite_false, reduceIte, hr, e53]
    refine bd_hit (hit_mono (pq_move w hP' (Or.inl rfl) (fun j hj => w.rt hr hj)) ?_)
    rintro r2 s2 h2
    refine hit_some ⟨rfl, _, h2, ?_⟩
    rw [← he, plL_step (i := r) (by omega), rtsL_get hr]
  · rintro s ⟨P', hP', he⟩
    unfold fX1_planFromRoots_L2
    simp (disch := omega) only [pn_lt8, pn_lt, pn_neg, pn_eq, pn_eq0, pn_eq1, pn_eq2, pn_m1, pn_m1', pn_m1lt, pn_ix, pn_bnd, pn_add1, pn_add3, pn_mul4, nI_add, bd_some, st_eq, rd_eq, if_true, if_false, ite_true, ite_false, reduceIte, Nat.lt_irrefl]
    refine hit_some ?_
    rw [← he, ← l8, plL_end]
    exact hP'
  rintro r0 s0 h0
  generalize plL R A P (rtsL A) = P0 at h0 ⊢
  refine bd_hit (hit_mono (lp_for (I := fun i s => ∃ P', PQ s k R A 1 [] P' ∧ plL R A P' ((ensL A).drop i) = plL R A P0 (ensL A)) (P := fun _ s => PQ s k R A 1 [] (plL R A P0 (ensL A))) (b := (hen A).length) ?_ ?_ fu 0 s0 (by omega) ?_ ⟨P0, h0, rfl⟩) ?_)
  · rintro i s hi ⟨P', hP', he⟩
    unfold fX1_planFromRoots_L28
    have hL := hP'.cr.en
    have hl80 := lnLen_le (6 * k)
    have hl2 := hL.2.1
    have h41 : s 4 (6 * k + 0) 1 = nI (hen A).length := by rw [← List.length_map (f := nI)]; exact hL.1
    have hg := Ln.get hL (i := i) (by rw [List.length_map]; exact hi)
    rw [getD_map_nI hi] at hg
    have hg : fX4_get (6 * k + 0) (nI i) s = some (nI ((hen A).getD i 0), s) := hg
    rw [List.length_map] at hl2
    rw [h41]
    simp (disch := omega) only [pn_lt, pn_neg, pn_eq, pn_eq0, pn_eq1, pn_eq2, pn_m1, pn_m1', pn_m1lt, pn_ix, pn_bnd, pn_add1, pn_add3, pn_mul4, nI_add, bd_some, st_eq, rd_eq, if_true, if_false, ite_true, ite_false, reduceIte, hi]
    rw [hg, bd_some]
    have hmem := w.en (getD_mem hi)
    have hmv := pq_move w hP' (Or.inl rfl) (o := some ((hen A).getD i 0)) (fun j hj => by cases hj; exact hmem)
    refine bd_hit (hit_mono hmv ?_)
    rintro r2 s2 h2
    refine hit_some ⟨rfl, _, h2, ?_⟩
    rw [← he, plL_step (i := i) (by omega), ensL_get hi]
  · rintro s ⟨P', hP', he⟩
    unfold fX1_planFromRoots_L28
    have hL := hP'.cr.en
    have hl80 := lnLen_le (6 * k)
    have hl2 := hL.2.1
    rw [List.length_map] at hl2
    have h41 : s 4 (6 * k + 0) 1 = nI (hen A).length := by rw [← List.length_map (f := nI)]; exact hL.1
    rw [h41]
    simp (disch := omega) only [pn_lt, pn_neg, pn_eq, pn_eq0, pn_eq1, pn_eq2, pn_m1, pn_m1', pn_m1lt, pn_ix, pn_bnd, pn_add1, pn_add3, pn_mul4, nI_add, bd_some, st_eq, rd_eq, if_true, if_false, ite_true, ite_false, reduceIte, Nat.lt_irrefl]
    refine hit_some ?_
    rw [← he, ← lE, plL_end]
    exact hP'
  · have hL := h0.cr.en
    have hl80 := lnLen_le (6 * k)
    have hl2 := hL.2.1
    rw [List.length_map] at hl2
    have := fu_ge
    omega
  rintro r1 s1 h1
  generalize plL R A P0 (ensL A) = P1 at h1 ⊢
  refine bd_hit (hit_mono (lp_for (I := fun i s => ∃ P', PQ s k R A 1 [] P' ∧ plL R A P' ((rmsL A).drop i) = plL R A P1 (rmsL A)) (P := fun _ s => PQ s k R A 1 [] (plL R A P1 (rmsL A))) (b := (hrm A).length) ?_ ?_ fu 0 s1 (by omega) ?_ ⟨P1, h1, rfl⟩) (fun _ s h => h))
  · rintro i s hi ⟨P', hP', he⟩
    unfold fX1_planFromRoots_L61 fX1_planFromRoots_j116L61
    have hL := hP'.cr.rm
    have hl80 := lnLen_le (6 * k + 2)
    have hl2 := hL.2.1
    have h41 : s 4 (6 * k + 2) 1 = nI (hrm A).length := by rw [← List.length_map (f := fun q : Nat × Nat => nI (q.1 * 4 + q.2))]; exact hL.1
    have hg := Ln.get hL (i := i) (by rw [List.length_map]; exact hi)
    rw [getD_map (d := (0, 0)) hi] at hg
    rw [List.length_map] at hl2
    obtain ⟨r1, r2⟩ := w.rm (getD_mem' (d := (0, 0)) hi)
    have r3 := w.sz r1
    have hst := rmsL_get hi
    generalize (hrm A).getD i (0, 0) = q at hg r1 r2 r3 hst
    rw [h41]
    simp (disch := omega) only [pn_lt, pn_neg, pn_eq, pn_eq0, pn_eq1, pn_eq2, pn_m1, pn_m1', pn_m1lt, pn_ix, pn_bnd, pn_add1, pn_add3, pn_mul4, nI_add, bd_some, st_eq, rd_eq, if_true, if_false, ite_true, ite_false, reduceIte, hi]
    rw [hg, bd_some, pn_mod4 (by omega), pn_div4 (by omega), show (q.1 * 4 + q.2) / 4 = q.1 by omega, show (q.1 * 4 + q.2) % 4 = q.2 by omega, e_firstStrong hP'.cr w r1, bd_some]
    have hf0 : fst0 A q.1 ≤ 1 := by unfold fst0; split <;> omega
    simp (disch := omega) only [pn_lt]
    by_cases hq : q.2 < fst0 A q.1
    · rw [if_pos hq]
      refine hit_some ⟨rfl, _, hP', ?_⟩
      rw [← he, plL_step (i := i) (by omega), hst, if_pos hq]
      rfl
    · rw [if_neg hq, e_target hP'.cr w r1 r2, bd_some]
      refine bd_hit (hit_mono (pq_move w hP' (Or.inl rfl) (fun j hj => w.lk r1 r2 hj)) ?_)
      rintro r4 s2 h2
      refine hit_some ⟨rfl, _, h2, ?_⟩
      rw [← he, plL_step (i := i) (by omega), hst, if_neg hq]
  · rintro s ⟨P', hP', he⟩
    unfold fX1_planFromRoots_L61
    have hL := hP'.cr.rm
    have hl80 := lnLen_le (6 * k + 2)
    have hl2 := hL.2.1
    rw [List.length_map] at hl2
    have h41 : s 4 (6 * k + 2) 1 = nI (hrm A).length := by rw [← List.length_map (f := fun q : Nat × Nat => nI (q.1 * 4 + q.2))]; exact hL.1
    rw [h41]
    simp (disch := omega) only [pn_lt, pn_neg, pn_eq, pn_eq0, pn_eq1, pn_eq2, pn_m1, pn_m1', pn_m1lt, pn_ix, pn_bnd, pn_add1, pn_add3, pn_mul4, nI_add, bd_some, st_eq, rd_eq, if_true, if_false, ite_true, ite_false, reduceIte, Nat.lt_irrefl]
    refine hit_some ?_
    rw [← he, ← lM, plL_end]
    exact hP'
  · have hL := h1.cr.rm
    have hl80 := lnLen_le (6 * k + 2)
    have hl2 := hL.2.1
    rw [List.length_map] at hl2
    have := fu_ge
    omega
/-- the fields of one slot -/
theorem c_plFields {σ : rS} {k j how : Nat} {R : Nat → Nat} {A : Hp} {F : List Nat} {P : Pn} (w : OK A) (h : PQ σ k R A how F P) (hh : how = 1 ∨ how = 2) (hj : j < hn A) (x4 : Int32) : hit (lp (fun (x : Int32) σ => fX1_planFrom_L36 k (nI how) x4 (nI j) x σ) fu (nI (fst0 A j)) σ) (fun _ s => PQ s k R A how F (plL R A P (flds A j))) := by
  have hw := w.n
  have hz := w.sz hj
  have hf0 : fst0 A j ≤ 1 := by unfold fst0; split <;> omega
  have e0 : plL R A P ((flds A j).drop (fst0 A j)) = plL R A P (flds A j) := by
    by_cases e : fst0 A j = 0
    · rw [e]; rfl
    · have e1 : fst0 A j = 1 := by omega
      by_cases hs : hsz A j = 0
      · have : flds A j = [] := List.length_eq_zero_iff.mp (by rw [flds_len]; exact hs)
        rw [this, List.drop_nil]
      · have h0 : (flds A j).getD 0 none = none := by rw [flds_get (by omega), if_pos (by omega)]
        have := plL_step (R := R) (A := A) (P := P) (l := flds A j) (i := 0) (by rw [flds_len]; omega)
        rw [h0] at this
        rw [e1]
        exact this.symm
  refine lp_go (I := fun m x s => ∃ f P', x = nI f ∧ f ≤ 5 ∧ fst0 A j ≤ f ∧ m = hsz A j - f ∧ PQ s k R A how F P' ∧ plL R A P' ((flds A j).drop f) = plL R A P (flds A j)) ?_ fu (hsz A j - fst0 A j) _ σ (fu_lt (by omega)) ⟨fst0 A j, P, rfl, by omega, Nat.le_refl _, rfl, h, e0⟩
  rintro m x s ⟨f, P', rfl, hf5, hff, rfl, hP', he⟩
  unfold fX1_planFrom_L36
  rw [e_fieldsOf hP'.cr w hj, bd_some]
  simp (disch := omega) only [pn_lt, pn_neg, pn_eq, pn_eq0, pn_eq1, pn_eq2, pn_m1, pn_m1', pn_m1lt, pn_ix, pn_bnd, pn_add1, pn_add3, pn_mul4, nI_add, bd_some, st_eq, rd_eq, if_true, if_false, ite_true, ite_false, reduceIte]
  by_cases hf : f < hsz A j
  · rw [if_pos hf, e_target hP'.cr w hj hf, bd_some]
    refine bd_hit (hit_mono (pq_move w hP' hh (fun i hi => w.lk hj hf hi)) ?_)
    rintro r s2 h2
    refine hit_some ⟨hsz A j - (f + 1), by omega, f + 1, _, rfl, by omega, by omega, rfl, h2, ?_⟩
    rw [← he, plL_step (i := f) (by rw [flds_len]; exact hf), flds_get hf, if_neg (by omega)]
  · rw [if_neg hf]
    refine hit_some ?_
    rw [← he, List.drop_eq_nil_of_le (by rw [flds_len]; omega)]
    exact hP'
theorem c_plFrom {σ : rS} {k i how : Nat} {R : Nat → Nat} {A : Hp} {F : List Nat} {P : Pn} (w : OK A) (h : PQ σ k R A how F P) (hh : how = 1 ∨ how = 2) (hi : i ≤ 80) : hit (fX1_planFrom k (nI i) (nI how) σ) (fun _ s => PQ s k R A how F (plQ R A (80 - i) i P)) := by
  have hw := w.n
  unfold fX1_planFrom
  refine bd_hit (hit_mono (lp_go (I := fun m x s => ∃ i' P', x = nI i' ∧ i' ≤ 80 ∧ m = 80 - i' ∧ PQ s k R A how F P' ∧ plQ R A (80 - i') i' P' = plQ R A (80 - i) i P) (P := fun _ s => PQ s k R A how F (plQ R A (80 - i) i P)) ?_ fu (80 - i) _ σ (fu_lt (by omega)) ⟨i, P, rfl, hi, rfl, h, rfl⟩) (fun _ s h => h))
  rintro m x s ⟨i', P', rfl, hi', rfl, hP', he⟩
  have hlen := hP'.2.2.1.len w
  have e10 := hP'.2.2.1.2.1
  unfold fX1_planFrom_L3
  rw [e10]
  simp (disch := omega) only [pn_lt80, pn_lt, pn_neg, pn_eq, pn_eq0, pn_eq1, pn_eq2, pn_m1, pn_m1', pn_m1lt, pn_ix, pn_bnd, pn_add1, pn_add3, pn_mul4, nI_add, bd_some, st_eq, rd_eq, if_true, if_false, ite_true, ite_false, reduceIte]
  by_cases hlt : i' < (pO P').length
  · have e39 := hP'.2.2.1.2.2.2.1 i' hlt
    have hj := (hP'.2.2.1.1.2 _ (getD_mem hlt)).1
    rw [if_pos hlt, if_pos (by omega)]
    simp (disch := omega) only [pn_lt, pn_neg, pn_eq, pn_eq0, pn_eq1, pn_eq2, pn_m1, pn_m1', pn_m1lt, pn_ix, pn_bnd, pn_add1, pn_add3, pn_mul4, nI_add, bd_some, st_eq, rd_eq, if_true, if_false, ite_true, ite_false, reduceIte, e39]
    rw [e_firstStrong hP'.cr w hj, bd_some]
    refine bd_hit (hit_mono (c_plFields w hP' hh hj (nI i')) ?_)
    rintro r s2 h2
    obtain ⟨m, hm2⟩ : ∃ m, 80 - i' = m + 1 := ⟨80 - i' - 1, by omega⟩
    refine hit_some ⟨80 - (i' + 1), by omega, i' + 1, _, rfl, by omega, rfl, h2, ?_⟩
    rw [← he, hm2, show 80 - (i' + 1) = m by omega]
    conv => rhs; unfold plQ
    rw [if_pos hlt]
  · rw [if_neg hlt]
    refine hit_some ?_
    rw [← he, plQ_end (by omega)]
    exact hP'
theorem c_plLasting {σ : rS} {k : Nat} {R : Nat → Nat} {A : Hp} {F : List Nat} {P : Pn} (w : OK A) (h : PQ σ k R A 2 F P) : hit (fX1_planFromLasting k σ) (fun _ s => PQ s k R A 2 F (plS R A P (List.range (hn A)))) := by
  have hw := w.n
  unfold fX1_planFromLasting
  have st1 : ∀ (i : Nat) (P' : Pn), i < hn A → plS R A P' ((List.range (hn A)).drop i) = plS R A (if hkd A i = 2 ∧ ¬ (hsp A i = 2 ∨ i ∈ pO P') then plS1 R A P' i else P') ((List.range (hn A)).drop (i + 1)) := fun i P' hi => by
    rw [drop_cons' 0 (by rw [List.length_range]; exact hi)]
    have : (List.range (hn A)).getD i 0 = i := by rw [List.getD_eq_getElem?_getD, List.getElem?_range hi]; rfl
    rw [this]
    rfl
  refine bd_hit (hit_mono (lp_for (I := fun i s => ∃ P', PQ s k R A 2 F P' ∧ plS R A P' ((List.range (hn A)).drop i) = plS R A P (List.range (hn A))) (P := fun _ s => PQ s k R A 2 F (plS R A P (List.range (hn A)))) (b := hn A) ?_ ?_ fu 0 σ (by omega) (by have := fu_ge; omega) ⟨P, h, rfl⟩) (fun _ s h => h))
  · rintro i s hi ⟨P', hP', he⟩
    have hlen := hP'.2.2.1.len w
    unfold fX1_planFromLasting_L2 fX1_planFromLasting_j48L2
    have e38 := hP'.2.2.2.1 i hi
    have e10 := hP'.2.2.1.2.1
    have hs2 : sg A 2 F (pO P') i ≤ 2 := by unfold sg; split <;> (try split) <;> (try split) <;> (try split) <;> omega
    rw [hP'.cr.n]
    simp (disch := omega) only [pn_lt, pn_neg, pn_eq, pn_eq0, pn_eq1, pn_eq2, pn_m1, pn_m1', pn_m1lt, pn_ix, pn_bnd, pn_add1, pn_add3, pn_mul4, nI_add, bd_some, st_eq, rd_eq, if_true, if_false, ite_true, ite_false, reduceIte, hi, hP'.cr.kd hi, e38]
    by_cases hk : hkd A i = 2
    · rw [if_pos hk]
      by_cases h0 : sg A 2 F (pO P') i = 0
      · rw [if_pos h0, e10]
        have hno := (sg_0 hP'.2.2.2.2 (Or.inr rfl)).mp h0
        have hmv := pq_move w hP' (Or.inr rfl) (o := some i) (fun j hj => by cases hj; exact hi)
        refine bd_hit (hit_mono hmv ?_)
        rintro r2 s2 h2
        refine bd_hit (hit_mono (c_plFrom w h2 (Or.inr rfl) (i := (pO P').length) (by omega)) ?_)
        rintro r3 s3 h3
        refine hit_some ⟨rfl, _, h3, ?_⟩
        rw [← he, st1 i P' hi, if_pos ⟨hk, hno⟩]
        rfl
      · rw [if_neg h0]
        refine hit_some ⟨rfl, _, hP', ?_⟩
        rw [← he, st1 i P' hi, if_neg (fun z => h0 ((sg_0 hP'.2.2.2.2 (Or.inr rfl)).mpr z.2))]
    · rw [if_neg hk]
      refine hit_some ⟨rfl, _, hP', ?_⟩
      rw [← he, st1 i P' hi, if_neg (fun z => hk z.1)]
  · rintro s ⟨P', hP', he⟩
    unfold fX1_planFromLasting_L2
    rw [hP'.cr.n]
    simp (disch := omega) only [pn_lt, pn_neg, pn_eq, pn_eq0, pn_eq1, pn_eq2, pn_m1, pn_m1', pn_m1lt, pn_ix, pn_bnd, pn_add1, pn_add3, pn_mul4, nI_add, bd_some, st_eq, rd_eq, if_true, if_false, ite_true, ite_false, reduceIte, Nat.lt_irrefl]
    refine hit_some ?_
    rw [← he, List.drop_eq_nil_of_le (by rw [List.length_range]; exact Nat.le_refl _)]
    exact hP'
theorem c_beginPlan {σ : rS} {k : Nat} {R : Nat → Nat} {A : Hp} (w : OK A) (hC : CR σ k A) (hR : RU σ R) (hu : usedA A 2 ≤ R 2) : hit (fX1_beginPlan k σ) (fun _ s => PQ s k R A 1 [] (pl0 A)) := by
  have hw := w.n
  unfold fX1_beginPlan
  rw [st_eq, st_eq, st_eq, st_eq]
  obtain ⟨τ, hτ⟩ : ∃ τ, τ = wr (wr (wr (wr σ 1 0 10 0) 1 0 11 0) 43 0 (ix 1) 0) 43 0 (ix 2) (wr (wr (wr σ 1 0 10 0) 1 0 11 0) 43 0 (ix 1) 0 54 k (ix 2)) := ⟨_, rfl⟩
  rw [← hτ]
  have e54 : wr (wr (wr σ 1 0 10 0) 1 0 11 0) 43 0 (ix 1) 0 54 k (ix 2) = nI (usedA A 2) := by
    rw [wr_c (by decide), wr_c (by decide), wr_c (by decide)]
    exact hC.us (s := 2) (by omega)
  rw [e54] at hτ
  have fr : ∀ c, ¬ c = 1 → ¬ c = 43 → τ c = σ c := fun c h1 h2 => by rw [hτ, wr_c h2, wr_c h2, wr_c h1, wr_c h1]
  have hCt : CR τ k A := hC.of_eq (by rw [fr 7 (by omega) (by omega)]) (fun c h1 h2 => by rw [fr c (by omega) (by omega)]) (fun j _ => ⟨by rw [fr 4 (by omega) (by omega)], by rw [fr 28 (by omega) (by omega)]⟩)
  refine bd_hit (hit_mono (lp_for (I := fun i s => (∀ c, ¬ c = 38 → s c = τ c) ∧ ∀ j, j < i → s 38 0 j = nI (sg A 1 [] [] j)) (P := fun _ s => (∀ c, ¬ c = 38 → s c = τ c) ∧ ∀ j, j < hn A → s 38 0 j = nI (sg A 1 [] [] j)) (b := hn A) ?_ ?_ fu 0 τ (by omega) (by have := fu_ge; omega) ⟨fun _ _ => rfl, fun j hj => absurd hj (Nat.not_lt_zero _)⟩) ?_)
  · rintro i s hi ⟨h1, h2⟩
    have hCs : CR s k A := hCt.of_eq (by rw [h1 7 (by decide)]) (fun c g1 g2 => by rw [h1 c (by omega)]) (fun j _ => ⟨by rw [h1 4 (by decide)], by rw [h1 28 (by decide)]⟩)
    unfold fX1_beginPlan_L31 fX1_beginPlan_j57L31
    rw [hCs.n, e_isYoung hCs w hi, bd_some]
    simp (disch := omega) only [pn_lt, pn_neg, pn_eq, pn_eq0, pn_eq1, pn_eq2, pn_m1, pn_m1', pn_m1lt, pn_ix, pn_bnd, pn_add1, pn_add3, pn_mul4, nI_add, bd_some, st_eq, rd_eq, if_true, if_false, ite_true, ite_false, reduceIte, hi]
    have fin : ∀ v : Int32, v = nI (sg A 1 [] [] i) → (∀ c, ¬ c = 38 → wr s 38 0 i v c = τ c) ∧ ∀ j, j < i + 1 → wr s 38 0 i v 38 0 j = nI (sg A 1 [] [] j) := fun v hv => ⟨fun c hc => (wr_c hc).trans (h1 c hc), fun j hj => by
      by_cases ej : j = i
      · subst ej; rw [wr_same]; exact hv
      · rw [wr_i ej]; exact h2 j (by omega)⟩
    by_cases h2' : hsp A i = 2
    · simp only [if_pos h2']
      exact hit_some ⟨rfl, fin 1 (by unfold sg; rw [if_pos h2']; rfl)⟩
    · simp only [if_neg h2']
      exact hit_some ⟨rfl, fin 0 (by unfold sg; rw [if_neg h2', if_pos rfl, if_neg (List.not_mem_nil)]; rfl)⟩
  · rintro s ⟨h1, h2⟩
    have e7 : s 7 k 0 = nI (hn A) := by rw [h1 7 (by decide)]; exact hCt.n
    unfold fX1_beginPlan_L31
    rw [e7]
    simp (disch := omega) only [pn_lt, pn_neg, pn_eq, pn_eq0, pn_eq1, pn_eq2, pn_m1, pn_m1', pn_m1lt, pn_ix, pn_bnd, pn_add1, pn_add3, pn_mul4, nI_add, bd_some, st_eq, rd_eq, if_true, if_false, ite_true, ite_false, reduceIte, Nat.lt_irrefl]
    exact hit_some ⟨h1, h2⟩
  · rintro r s ⟨h1, h2⟩
    have hCs : CR s k A := hCt.of_eq (by rw [h1 7 (by decide)]) (fun c g1 g2 => by rw [h1 c (by omega)]) (fun j _ => ⟨by rw [h1 4 (by decide)], by rw [h1 28 (by decide)]⟩)
    have nil : ∀ j, j ∈ pO (pl0 A) → False := fun j hj => (List.not_mem_nil (show j ∈ ([] : List Nat) from hj)).elim
    refine hit_some ⟨hCs, ⟨fun i hi => by rw [h1 20 (by decide), fr 20 (by decide) (by decide)]; exact hR.1 i hi, hR.2⟩, ⟨⟨List.nodup_nil, fun j hj => (nil j hj).elim⟩, ?_, ?_, fun i hi => absurd hi (Nat.not_lt_zero _), fun j hj => (nil j hj).elim, ⟨?_, ?_⟩, Nat.zero_le _, hu⟩, h2, fun z => by cases z⟩
    · rw [h1 1 (by decide), hτ, wr_c (by decide), wr_c (by decide), wr_i (by decide), wr_same]; rfl
    · rw [h1 1 (by decide), hτ, wr_c (by decide), wr_c (by decide), wr_same]; rfl
    · rw [h1 43 (by decide), hτ, wr_i (show ¬ 1 = ix 2 from (by decide : ¬ 1 = 2))]
      show wr _ 43 0 1 0 43 0 1 = _
      rw [wr_same]; rfl
    · rw [h1 43 (by decide), hτ]
      show wr _ 43 0 2 _ 43 0 2 = _
      rw [wr_same]; rfl
theorem PQ.two {σ : rS} {k : Nat} {R : Nat → Nat} {A : Hp} {P : Pn} (h : PQ σ k R A 1 [] P) : PQ σ k R A 2 (pO P) P := by
  obtain ⟨h1, h2, h3, h4, -⟩ := h
  refine ⟨h1, h2, h3, fun j hj => ?_, fun _ j hj => hj⟩
  rw [h4 j hj]
  congr 1
  unfold sg
  by_cases hs : hsp A j = 2
  · rw [if_pos hs, if_pos hs]
  · rw [if_neg hs, if_neg hs, if_pos rfl, if_neg (show ¬ 2 = 1 by decide)]
    by_cases hO : j ∈ pO P
    · rw [if_pos hO, if_pos hO]
    · rw [if_neg hO, if_neg hO, if_neg hO]
