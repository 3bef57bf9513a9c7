/-! a MAJOR, the model's side: marks, weak ones, slides -/
theorem rowZ_0 (A : Hp) : rowZ A (A, fun _ => 0) = A := by
  have e3 : tlA (htl A) (fun _ => 0) 0 = htl A := by
    funext t
    by_cases g : 3 ≤ t
    · rw [tlA_ge g]
      show htl A t + nI 0 = htl A t
      exact Int32.add_zero _
    · rw [tlA_lt (by omega)]
  unfold rowZ
  show sTl A (tlA (htl A) (fun _ => 0) 0) = A
  rw [e3]
  rfl
theorem sprQ_congr {A B : Hp} {j : Nat} (hl : ∀ f, fst0 A j ≤ f → hlk B j f = hlk A j f) : ∀ (m f : Nat) (Q : List Nat), fst0 A j ≤ f → sprQ B j m f Q = sprQ A j m f Q := by
  intro m
  induction m with
  | zero => intro f Q _; rfl
  | succ m ih =>
    intro f Q hf
    show sprQ B j m (f + 1) (vis Q (hlk B j f)) = sprQ A j m (f + 1) (vis Q (hlk A j f))
    rw [hl f hf]
    exact ih _ _ (by omega)
theorem bfsQ_congr {A B : Hp} (hz : hsz B = hsz A) (hf : fst0 B = fst0 A) (hl : ∀ i f, fst0 A i ≤ f → hlk B i f = hlk A i f) : ∀ (m i : Nat) (Q : List Nat), bfsQ B m i Q = bfsQ A m i Q := by
  intro m
  induction m with
  | zero => intro i Q; rfl
  | succ m ih =>
    intro i Q
    unfold bfsQ
    rw [hz, hf]
    by_cases h : i < Q.length
    · rw [if_pos h, if_pos h, sprQ_congr (fun f hf => hl _ f hf) _ _ _ (Nat.le_refl _)]
      exact ih _ _
    · rw [if_neg h, if_neg h]
theorem visEQ_filt {Q : List Nat} : ∀ (L Q' : List Nat), (∀ j ∈ Q, j ∈ Q') → visEQ (L.filter (fun i => !decide (i ∈ Q))) Q' = visEQ L Q' := by
  intro L
  induction L with
  | nil => intro Q' _; rfl
  | cons a L ih =>
    intro Q' hs
    rw [List.filter_cons]
    by_cases h : a ∈ Q
    · have e : vis Q' (some a) = Q' := if_pos (hs a h)
      rw [if_neg (by simp [h])]
      show _ = visEQ L (vis Q' (some a))
      rw [e]
      exact ih Q' hs
    · rw [if_pos (by simp [h])]
      show visEQ (L.filter _) (vis Q' (some a)) = visEQ L (vis Q' (some a))
      exact ih _ (fun j hj => vis_sub (hs j hj))
theorem lsE_vis {A : Hp} {g : Nat → Nat} {Q1 : List Nat} (hg : ∀ i, g i = 1 ↔ i ∈ Q1) : visEQ (lsE A g (hn A)) Q1 = visEQ (lsL A) Q1 := by
  have e : lsE A g (hn A) = (lsL A).filter (fun i => !decide (i ∈ Q1)) := by
    unfold lsE lsL
    rw [List.filter_filter]
    refine List.filter_congr (fun i _ => ?_)
    have : decide (g i = 1) = decide (i ∈ Q1) := by rw [decide_eq_decide]; exact hg i
    rw [this, Bool.and_comm]
  rw [e]
  exact visEQ_filt _ _ (fun j hj => hj)
theorem emcZ {A : Hp} {X : HX} {Q : List Nat} {i : Nat} (hk : X.1.2.2.1 = A.2.2.1) (hl : hlk X.1 i 0 = hlk A i 0) : emc (rowZ A X) Q 0 i = (decide (hkd A i = 1) && match hlk A i 0 with
    | none => false
    | some t => !decide (t ∈ Q)) := by
  have e1 : hkd (rowZ A X) i = hkd A i := by
    show X.1.2.2.1 0 i = _
    rw [hk]; rfl
  have e2 : hlk (rowZ A X) i 0 = hlk A i 0 := hl
  unfold emc
  rw [e1, e2]
  congr 1
  rcases opt_cases (hlk A i 0) with hn | ⟨t, ht⟩
  · rw [hn]
  · rw [ht]; simp
theorem wkgJ1 {A : Hp} {g : Nat → Nat} {Q1 : List Nat} (hg : ∀ i, g i = 1 ↔ i ∈ Q1) (hg2 : ∀ i, g i ≤ 2) (i : Nat) : wkg A g 1 i = (decide (i ∈ Q1) && (decide (hkd A i = 1) && match hlk A i 0 with
    | none => false
    | some t => !decide (t ∈ Q1))) := by
  unfold wkg
  have e : decide (g i = 1) = decide (i ∈ Q1) := by rw [decide_eq_decide]; exact hg i
  rw [e]
  rcases opt_cases (hlk A i 0) with hn | ⟨t, ht⟩
  · rw [hn]; simp
  · rw [ht]
    have e2 : decide (g t = 0 ∨ 1 < g t) = !decide (t ∈ Q1) := by
      have := hg2 t
      by_cases h : t ∈ Q1
      · have : g t = 1 := (hg t).mpr h
        rw [decide_eq_true h, this]; decide
      · have h1 : ¬ g t = 1 := fun z => h ((hg t).mp z)
        rw [decide_eq_false h]
        exact decide_eq_true (by omega)
    dsimp only
    rw [e2]
    cases decide (hkd A i = 1) <;> cases decide (i ∈ Q1) <;> rfl
theorem wkgJ2 {A : Hp} {g : Nat → Nat} {Q2 : List Nat} (hg0 : ∀ i, g i = 0 ↔ ¬ i ∈ Q2) (hg2 : ∀ i, g i ≤ 2) (i : Nat) : wkg A g 2 i = (decide (g i = 2) && (decide (hkd A i = 1) && match hlk A i 0 with
    | none => false
    | some t => !decide (t ∈ Q2))) := by
  unfold wkg
  rcases opt_cases (hlk A i 0) with hn | ⟨t, ht⟩
  · rw [hn]; simp
  · rw [ht]
    have e2 : decide (g t = 0 ∨ 2 < g t) = !decide (t ∈ Q2) := by
      have := hg2 t
      by_cases h : t ∈ Q2
      · have h1 : ¬ g t = 0 := fun z => (hg0 t).mp z h
        rw [decide_eq_true h]
        exact decide_eq_false (by omega)
      · rw [decide_eq_false h]
        exact decide_eq_true (Or.inl ((hg0 t).mpr h))
    dsimp only
    rw [e2]
    cases decide (hkd A i = 1) <;> cases decide (g i = 2) <;> rfl
theorem metJ2 {A : Hp} {g : Nat → Nat} {Q1 Q2 : List Nat} (hJ : JF A Q1 Q2 g) (i : Nat) : i ∈ Q2.drop Q1.length ↔ g i = 2 := by
  obtain ⟨hg1, hg0, hg2, ⟨-, ⟨hd, -⟩, ⟨T, hT⟩⟩, -⟩ := hJ
  rw [hT] at hd ⊢
  rw [List.drop_left]
  have hnd := List.nodup_append.mp hd
  constructor
  · intro h
    have hm : i ∈ Q2 := by rw [hT]; exact List.mem_append_right _ h
    have h0 : ¬ g i = 0 := fun z => (hg0 i).mp z hm
    have h1 : ¬ g i = 1 := fun z => hnd.2.2 i ((hg1 i).mp z) i h rfl
    have := hg2 i
    omega
  · intro h
    have hm : i ∈ Q2 := Classical.byContradiction (fun z => by have := (hg0 i).mpr z; omega)
    have h1 : ¬ i ∈ Q1 := fun z => by have := (hg1 i).mpr z; omega
    rw [hT] at hm
    exact (List.mem_append.mp hm).resolve_left h1
section mJ
variable {τ : rS} {v : Nat} {R : Nat → Nat} {b : Nat} {A : Hp} {g : Nat → Nat} {Q1 Q2 : List Nat}
theorem GM_mv {s : rS} {n : Nat} {Q : List Nat} (h : GM τ n Q) (e : ∀ c k, ¬ (c = 66 ∧ k = v) → s c k = τ c k) : GM s n Q := by
  unfold GM at h ⊢
  rw [e 10 0 (by omega), e 69 0 (by omega), e 68 0 (by omega)]
  exact h
theorem rowZ_OK {X : HX} (w : OK X.1) : OK (rowZ A X) := w
theorem rowZ_Bd {X : HX} (h : Bd X.1) : Bd (rowZ A X) := h
theorem m_j1 (hM : MR (τ 66 v) A) (hI : Inv R b A) (hJ : JF A Q1 Q2 g) (hR : R 2 ≤ 128) (hG : GM τ (hn A) Q1) : hit (lp (fun (x : Int32) σ => fX10_majors_L9 v x σ) fu 0 τ) (fun _ s => MR (s 66 v) (rowZ A (mX1 A g)) ∧ LGr τ s v ∧ ∀ c k, ¬ (c = 66 ∧ k = v) → s c k = τ c k) := by
  have w := hI.ok
  have hw := w.n
  have hbA := hI.bd hR
  refine m_pass (τ := τ) (v := v) (A := A) (c := wkg A g 1) (X := (A, fun _ => 0)) (step := fun x σ => fX10_majors_L9 v x σ) (Rw := rowZ A) (fun Y i => emH_rowZ A Y i) (fun i => (emL_sh (wkg A g 1) (A, fun _ => 0) i).1) (by rw [rowZ_0]; exact hM) hw (fun i s hi hMs hs => ?_) (fun s e0 => ?_)
  · obtain ⟨a1, a2, a3, -⟩ := emL_sh (wkg A g 1) (A, fun _ => 0) i
    have wH : OK (rowZ A (emL (wkg A g 1) (A, fun _ => 0) i)) := rowZ_OK (emL_OK w)
    have hbH : Bd (rowZ A (emL (wkg A g 1) (A, fun _ => 0) i)) := rowZ_Bd (Bd_em hbA (emL_lo40 _ _ _ hbA.2.1))
    have eH := emcZ (A := A) (X := emL (wkg A g 1) (A, fun _ => 0) i) (Q := Q1) (i := i) a3 (by rw [emL_lk, if_neg (by omega)])
    have hir : i < hn (rowZ A (emL (wkg A g 1) (A, fun _ => 0) i)) := by
      show i < (emL (wkg A g 1) (A, fun _ => 0) i).1.1
      rw [a1]; exact hi
    have ekd : hkd (rowZ A (emL (wkg A g 1) (A, fun _ => 0) i)) i = hkd A i := by
      show (emL (wkg A g 1) (A, fun _ => 0) i).1.2.2.1 0 i = _
      rw [a3]; rfl
    have esz : hsz (rowZ A (emL (wkg A g 1) (A, fun _ => 0) i)) i = hsz A i := by
      show (emL (wkg A g 1) (A, fun _ => 0) i).1.2.1 1 i = _
      rw [a2]; rfl
    have hst := stp_J9 (Q := Q1) hMs wH hbH hir (by rw [ekd, esz]; exact (hI.2.2.2.1 i hi).2.1) (fun j hj => by rw [hs 68 0 (by omega)]; exact hG.2.2.2.2 j hj)
    rw [eH, ← wkgJ1 hJ.1 hJ.2.2.1 i] at hst
    exact hst
  · show fX10_majors_L9 v (nI (hn A)) s = _
    unfold fX10_majors_L9
    have e0 : s 66 v (ix 0) = nI (hn A) := e0
    rw [e0]
    simp (disch := omega) only [pn_lt, Nat.lt_irrefl, if_false]
theorem m_j2 (hM : MR (τ 66 v) (rowZ A (mX1 A g))) (hI : Inv R b A) (hJ : JF A Q1 Q2 g) (hR : R 2 ≤ 128) (hG : GM τ (hn A) Q1) : hit (fX10_ends v 0 τ) (fun _ s => MR (s 66 v) (rowZ A (mX2 A g)) ∧ GM s (hn A) Q1 ∧ LGr τ s v ∧ s 10 0 24 = nI (lsE A g (hn A)).length ∧ (∀ p, p < (lsE A g (hn A)).length → s 70 0 p = nI ((lsE A g (hn A)).getD p 0))) := by
  have w := hI.ok
  have hw := w.n
  have hE := hJ.e1
  have hbA := hI.bd hR
  have w1 : OK (mX1 A g).1 := emL_OK w
  have t := m_ends (τ := τ) (v := v) (A := A) (X := mX1 A g) (g := g) (y := 0) (Q := Q1) (Rw := rowZ A) (fun Y i => enH_rowZ A Y i) (fun i hi => ⟨mX1_sh.1, by
    funext j
    show (mX1 A g).1.2.2.1 0 j = _
    rw [mX1_sh.2.2.1]; rfl, rfl⟩) (fun i hi => ?_) hM (enX_0 A g _) hw hG.2.2.2.2 (fun i hi hk => ?_)
  · refine hit_mono t ?_
    rintro r s ⟨k1, k2, k3, k4, k5, k6⟩
    refine ⟨k1, ?_, k2, k3, k4⟩
    unfold GM at hG ⊢
    rw [k5 22 (by decide), k6 69 0 (by omega) (by omega) (by omega), k6 68 0 (by omega) (by omega) (by omega)]
    exact hG
  · have hl := lsE_len hI hE hi
    have eL : hen (mX1 A g).1 ++ lsE A g i = hen A ++ lsE A g i := by rw [mX1_sh.2.2.2.2.1]
    rw [eL]
    have wi : OK (enX A g (mX1 A g) i).1 := w1.en' (fun j hj => by
      have hj : j ∈ hen (mX1 A g).1 ++ lsE A g i := hj
      show j < (mX1 A g).1.1
      rw [mX1_sh.1]
      rw [eL] at hj
      rcases List.mem_append.mp hj with hj | hj
      · exact w.en hj
      · have := (lsE_mem.mp hj).1
        exact Nat.lt_of_lt_of_le this hi)
    refine ⟨rowZ_OK wi, rowZ_Bd ⟨?_, emL_lo40 _ _ _ hbA.2.1, ?_⟩, hl⟩
    · show (hen (mX1 A g).1 ++ lsE A g i).length ≤ 80
      rw [eL]; omega
    · show (hrm (mX1 A g).1).length ≤ 176
      rw [mX1_sh.2.2.2.2.2.1]; exact hbA.2.2
  · rw [hJ.g1]
    exact ⟨fun z => ⟨z, Or.inl rfl⟩, fun z => z.1⟩
theorem m_j3 (hG : GM τ (hn A) Q1) (hI : Inv R b A) (hJ : JF A Q1 Q2 g) (h24 : τ 10 0 24 = nI (lsE A g (hn A)).length) (h70 : ∀ p, p < (lsE A g (hn A)).length → τ 70 0 p = nI ((lsE A g (hn A)).getD p 0)) (y : Int32) : hit (lp (fun (x : Int32) σ => fX10_majors_L51 v y x σ) fu 0 τ) (fun _ s => GM s (hn A) (visEQ (lsL A) Q1) ∧ ∀ c, ¬ c ∈ [10, 68, 69] → s c = τ c) := by
  have w := hI.ok
  have hw := w.n
  have hl : (lsE A g (hn A)).length ≤ 78 := by have := lsE_len hI hJ.e1 (Nat.le_refl _); rw [List.length_append] at this; omega
  rw [← lsE_vis hJ.1]
  have hDlt : ∀ j ∈ lsE A g (hn A), j < hn A := fun j hj => (lsE_mem.mp hj).1
  generalize lsE A g (hn A) = D at *
  refine hit_mono (lp_for (I := fun i s => (∃ Q, GM s (hn A) Q ∧ visEQ (D.drop i) Q = visEQ D Q1) ∧ s 10 0 24 = nI D.length ∧ ∀ c, ¬ c ∈ [10, 68, 69] → s c = τ c) (P := fun _ s => GM s (hn A) (visEQ D Q1) ∧ ∀ c, ¬ c ∈ [10, 68, 69] → s c = τ c) (b := D.length) ?_ ?_ fu 0 τ (by omega) (by have := fu_ge; omega) ⟨⟨Q1, hG, rfl⟩, h24, fun _ _ => rfl⟩) (fun _ s h => h)
  · rintro i s hi ⟨⟨Q, g1, g2⟩, g3, g4⟩
    have hj := hDlt _ (getD_mem hi)
    have e70 : s 70 0 i = nI (D.getD i 0) := by rw [g4 70 (by decide)]; exact h70 i hi
    unfold fX10_majors_L51
    rw [g3]
    simp (disch := omega) only [pn_lt, pn_neg, pn_eq, pn_eq0, pn_eq1, pn_eq2, pn_m1, pn_m1', pn_m1lt, pn_ix, pn_bnd, pn_add1, pn_add3, pn_mul4, nI_add, bd_some, st_eq, rd_eq, if_true, if_false, ite_true, ite_false, reduceIte, hi, e70]
    have hmk := m_marks (o := some (D.getD i 0)) hw g1 (fun j hj' => by cases hj'; exact hj)
    have hmk : hit (fX10_marks (nI (D.getD i 0)) s) (fun _ t => GM t (hn A) (vis Q (some (D.getD i 0)))) := hmk
    have k24 : hit (fX10_marks (nI (D.getD i 0)) s) (fun _ t => t 10 0 24 = nI D.length) := by
      have hlen := nodup_le g1.1 g1.2.1
      unfold fX10_marks
      have h68 := g1.2.2.2.2 (D.getD i 0) (by omega)
      by_cases hm : D.getD i 0 ∈ Q
      · rw [if_pos hm] at h68
        simp (disch := omega) only [pn_lt, pn_neg, pn_eq, pn_eq0, pn_eq1, pn_eq2, pn_m1, pn_m1', pn_m1lt, pn_ix, pn_bnd, pn_add1, pn_add3, pn_mul4, nI_add, bd_some, st_eq, rd_eq, if_true, if_false, ite_true, ite_false, reduceIte, h68, show ¬ ((1 : Int32) = 0) by decide]
        exact g3
      · rw [if_neg hm] at h68
        have hl2 := lt_of_new g1.1 g1.2.1 hj hm
        have q1 : wr s 68 0 (D.getD i 0) 1 10 0 22 = nI Q.length := by rw [wr_c (by decide)]; exact g1.2.2.1
        have q2 : wr (wr s 68 0 (D.getD i 0) 1) 69 0 Q.length (nI (D.getD i 0)) 10 0 22 = nI Q.length := by rw [wr_c (by decide)]; exact q1
        simp (disch := omega) only [pn_lt, pn_neg, pn_eq, pn_eq0, pn_eq1, pn_eq2, pn_m1, pn_m1', pn_m1lt, pn_ix, pn_bnd, pn_add1, pn_add3, pn_mul4, nI_add, bd_some, st_eq, rd_eq, if_true, if_false, ite_true, ite_false, reduceIte, h68, q1, q2]
        refine hit_some ?_
        rw [wr_i (by decide), wr_c (by decide), wr_c (by decide)]; exact g3
    obtain ⟨r, t, e1, e2⟩ := hit_iff.mp hmk
    rw [e1] at k24
    have hfr := frX10_marks (nI (D.getD i 0)) s r t e1
    rw [e1, bd_some]
    refine hit_some ⟨rfl, ⟨_, e2, ?_⟩, k24, fun c hc => (hfr c (by simp only [List.mem_cons, List.not_mem_nil, or_false] at hc ⊢; omega)).trans (g4 c hc)⟩
    rw [← g2, drop_cons hi]
    rfl
  · rintro s ⟨⟨Q, g1, g2⟩, g3, g4⟩
    unfold fX10_majors_L51
    rw [g3]
    simp (disch := omega) only [pn_lt, Nat.lt_irrefl, if_false]
    rw [List.drop_length] at g2
    have g2 : Q = visEQ D Q1 := g2
    rw [g2] at g1
    exact hit_some ⟨g1, g4⟩
theorem m_j4 (hM : MR (τ 66 v) (rowZ A (mX2 A g))) (hI : Inv R b A) (hJ : JF A Q1 Q2 g) (hR : R 2 ≤ 128) (hG : GM τ (hn A) Q2) : hit (lp (fun (x : Int32) σ => fX10_majors_L83 v (nI Q1.length) x σ) fu 0 τ) (fun _ s => MR (s 66 v) (rowZ A (mX3 A g)) ∧ LGr τ s v ∧ ∀ c k, ¬ (c = 66 ∧ k = v) → s c k = τ c k) := by
  have w := hI.ok
  have hw := w.n
  have hB := mX2_BF hI hR hJ.e1
  have hmet := metJ2 hJ
  have hfr : Q1.length ≤ Q2.length := by obtain ⟨T, hT⟩ := hJ.2.2.2.1.2.2; rw [hT, List.length_append]; omega
  have hsh : (mX2 A g).1.1 = A.1 ∧ (mX2 A g).1.2.1 = A.2.1 ∧ (mX2 A g).1.2.2.1 = A.2.2.1 := ⟨mX1_sh.1, mX1_sh.2.1, mX1_sh.2.2.1⟩
  refine m_pass (τ := τ) (v := v) (A := A) (c := wkg A g 2) (X := mX2 A g) (step := fun x σ => fX10_majors_L83 v (nI Q1.length) x σ) (Rw := rowZ A) (fun Y i => emH_rowZ A Y i) (fun i => ((emL_sh (wkg A g 2) (mX2 A g) i).1).trans hsh.1) hM hw (fun i s hi hMs hs => ?_) (fun s e0 => ?_)
  · obtain ⟨a1, a2, a3, -⟩ := emL_sh (wkg A g 2) (mX2 A g) i
    have wH : OK (rowZ A (emL (wkg A g 2) (mX2 A g) i)) := rowZ_OK (emL_OK hB.1)
    have hbH : Bd (rowZ A (emL (wkg A g 2) (mX2 A g) i)) := rowZ_Bd (Bd_em hB.2.1 (emL_lo40 _ _ _ hB.2.1.2.1))
    have hir : i < hn (rowZ A (emL (wkg A g 2) (mX2 A g) i)) := by
      show i < (emL (wkg A g 2) (mX2 A g) i).1.1
      rw [a1, hsh.1]; exact hi
    have ekd : hkd (rowZ A (emL (wkg A g 2) (mX2 A g) i)) i = hkd A i := by
      show (emL (wkg A g 2) (mX2 A g) i).1.2.2.1 0 i = _
      rw [a3, hsh.2.2]; rfl
    have esz : hsz (rowZ A (emL (wkg A g 2) (mX2 A g) i)) i = hsz A i := by
      show (emL (wkg A g 2) (mX2 A g) i).1.2.1 1 i = _
      rw [a2, hsh.2.1]; rfl
    have hst := stp_J83 (fr := Q1.length) (Q := Q2) hMs wH hbH hir (by rw [ekd, esz]; exact (hI.2.2.2.1 i hi).2.1) (GM_mv hG hs) hw hfr
    have ec : (decide (i ∈ Q2.drop Q1.length) && emc (rowZ A (emL (wkg A g 2) (mX2 A g) i)) Q2 0 i) = wkg A g 2 i := by
      rw [wkgJ2 hJ.2.1 hJ.2.2.1 i]
      by_cases h2 : g i = 2
      · have eH := emcZ (A := A) (X := emL (wkg A g 2) (mX2 A g) i) (Q := Q2) (i := i) (a3.trans hsh.2.2) (by
          rw [emL_lk, if_neg (by omega)]
          have e1 : hlk (mX2 A g).1 i 0 = if 0 = 0 ∧ i < hn A ∧ wkg A g 1 i = true then none else hlk A i 0 := emL_lk (wkg A g 1) (A, fun _ => 0) (hn A) i 0
          rw [e1, if_neg (fun z => by
            have hh := z.2.2
            unfold wkg at hh
            rw [h2] at hh
            simp at hh)])
        rw [eH]
        congr 1
        rw [decide_eq_decide]
        exact hmet i
      · rw [decide_eq_false h2, decide_eq_false (fun z => h2 ((hmet i).mp z))]
        rfl
    rw [ec] at hst
    exact hst
  · show fX10_majors_L83 v (nI Q1.length) (nI (hn A)) s = _
    unfold fX10_majors_L83
    have e0 : s 66 v (ix 0) = nI (hn A) := e0
    rw [e0]
    simp (disch := omega) only [pn_lt, Nat.lt_irrefl, if_false]
end mJ
