/-! a MINOR's plan, the model's loops -/
def PB (τ : rS) (v : Nat) (R : Nat → Nat) (A B : Hp) (c : Nat → Nat) (P : Pn) : Prop := PMo τ v A B c P ∧ PI R A P ∧ RM τ R
/-- what stays while moving -/
def KM (τ s : rS) (v : Nat) : Prop := LGr τ s v ∧ s 10 0 24 = τ 10 0 24 ∧ s 70 = τ 70 ∧ s 62 = τ 62
theorem KM.refl (τ : rS) (v : Nat) : KM τ τ v := ⟨LGr.refl _ _, rfl, rfl, rfl⟩
theorem KM.trans {τ s t : rS} {v : Nat} (h : KM τ s v) (g : KM s t v) : KM τ t v := ⟨h.1.trans g.1, g.2.1.trans h.2.1, g.2.2.1.trans h.2.2.1, g.2.2.2.trans h.2.2.2⟩
/-- B's plain facts -/
def BF (A B : Hp) : Prop := OK B ∧ Bd B ∧ ShB A B ∧ ∀ i, hkd A i = 1 → i < hn A → 1 ≤ hsz A i
section mPl
variable {τ : rS} {v : Nat} {R : Nat → Nat} {A B : Hp} {c : Nat → Nat} {P : Pn}
theorem PB.go (h : PB τ v R A B c P) (hx : pX P = false) : PMv τ v A B c P := by
  have := h.1
  unfold PMo at this
  rw [hx, if_neg (by decide)] at this
  exact this
theorem PB.st (h : PB τ v R A B c P) (hx : pX P = true) : PMs τ v A := by
  have := h.1
  unfold PMo at this
  rw [if_pos hx] at this
  exact this
theorem PB.row (h : PB τ v R A B c P) (hx : pX P = false) (hB : BF A B) : OK (rowH A B c P) := rowH_OK hB.1 (h.2.1.spl ⟨h.2.2.2.2.1, h.2.2.2.2.2.1⟩)
theorem pb_moves (h : PB τ v R A B c P) (hx : pX P = false) (hB : BF A B) {o : Option Nat} (ho : ∀ j, o = some j → j < hn A) : hit (fX10_moves v (enc o) τ) (fun _ s => PB s v R A B c (pmv R A P o) ∧ KM τ s v) := by
  refine hit_mono (hit_fr (frX10_moves v (enc o) τ) (m_moves (h.go hx) hx h.2.1 hB.1 hB.2.1 hB.2.2.1 hB.2.2.2 h.2.2 ho)) ?_
  rintro r s ⟨hf, k1, k2, k3⟩
  exact ⟨⟨k1, PI_pmv h.2.1 ho, ⟨fun i hi => by rw [hf 62 (by decide)]; exact h.2.2.1 i hi, h.2.2.2⟩⟩, k2, k3, hf 70 (by decide), hf 62 (by decide)⟩
theorem m_plFields {j : Nat} (h : PB τ v R A B c P) (hB : BF A B) (hj : j < hn A) (x3 : Int32) : hit (lp (fun (x : Int32) σ => fX10_movesAll_L28 v x3 (nI j) x σ) fu 0 τ) (fun _ s => PB s v R A B c (plL R A P (flds A j)) ∧ KM τ s v) := by
  have hw : hn A ≤ 78 := by rw [← hB.2.2.1.n]; exact hB.1.n
  have hjB : j < hn B := by rw [hB.2.2.1.n]; exact hj
  have hz : hsz A j ≤ 4 := by rw [← hB.2.2.1.sz]; exact hB.1.sz hjB
  have sh := hB.2.2.1
  refine lp_go (I := fun m x s => ∃ f P', x = nI f ∧ f ≤ 5 ∧ m = 5 - f ∧ PB s v R A B c P' ∧ KM τ s v ∧ plL R A P' ((flds A j).drop f) = plL R A P (flds A j)) ?_ fu 5 _ τ (fu_lt (by omega)) ⟨0, P, rfl, by omega, rfl, h, KM.refl _ _, rfl⟩
  rintro m x s ⟨f, P', rfl, hf5, rfl, hP', hK, he⟩
  unfold fX10_movesAll_L28 fX10_movesAll_j78L28
  have eof : fX10_of v (nI j) 2 s = some (s 66 v (1 + 11 * j + 2), s) := e_of (c := 2) (by omega)
  cases hx : pX P' with
  | true =>
    have e27 := (hP'.st hx).1
    rw [eof, bd_some, e27]
    rw [plL_stuck hx] at he
    rw [he] at hP'
    simp only [if_neg one_ne]
    split
    · exact hit_some ⟨hP', hK⟩
    · exact hit_some ⟨hP', hK⟩
  | false =>
    have hg := hP'.go hx
    have wr' := hP'.row hx hB
    have hjr : j < hn (rowH A B c P') := hjB
    have ez : hsz (rowH A B c P') j = hsz A j := by show hsz B j = _; rw [sh.sz]
    have ef : fst0 (rowH A B c P') j = fst0 A j := by show fst0 B j = _; rw [sh.f0]
    rw [e_of2 hg.1 wr' hjr, bd_some, ez, hg.2.2.2.2]
    simp (disch := omega) only [pn_lt, pn_neg, pn_eq, pn_eq0, pn_eq1, pn_eq2, pn_m1, pn_m1', pn_m1lt, pn_ix, pn_bnd, pn_add1, pn_add3, pn_mul4, nI_add, bd_some, st_eq, rd_eq, if_true, if_false, ite_true, ite_false, reduceIte]
    by_cases hf : f < hsz A j
    · rw [if_pos hf, e_isWeakM hg.1 wr' hjr (by omega), bd_some, ef]
      by_cases hwk : f < fst0 A j
      · rw [if_pos hwk, if_neg one_ne]
        refine hit_some ⟨5 - (f + 1), by omega, f + 1, P', rfl, by omega, rfl, hP', hK, ?_⟩
        rw [← he, plL_step (i := f) (by rw [flds_len]; exact hf), flds_get hf, if_pos hwk]
        rfl
      · have el : hlk (rowH A B c P') j f = hlk A j f := sh.2.2.2.1 j f (by omega)
        have ho : ∀ i, hlk A j f = some i → i < hn A := fun i hi => by
          rw [← el] at hi
          have := wr'.lk hjr (by rw [ez]; exact hf) hi
          rw [← sh.n]; exact this
        rw [if_neg hwk, if_pos rfl, e_of7 hg.1 wr' hjr (by rw [ez]; exact hf), bd_some, el, e_spotOf_o hg.1 wr' (fun i hi => by show i < hn B; rw [sh.n]; exact ho i hi), bd_some]
        refine bd_hit (hit_mono (pb_moves hP' hx hB ho) ?_)
        rintro r s2 ⟨h2, hK2⟩
        refine hit_some ⟨5 - (f + 1), by omega, f + 1, _, rfl, by omega, rfl, h2, hK.trans hK2, ?_⟩
        rw [← he, plL_step (i := f) (by rw [flds_len]; exact hf), flds_get hf, if_neg hwk]
    · rw [if_neg hf]
      refine hit_some ⟨?_, hK⟩
      rw [← he, List.drop_eq_nil_of_le (by rw [flds_len]; omega)]
      exact hP'
theorem m_plFrom {i : Nat} (h : PB τ v R A B c P) (hB : BF A B) (hi : i ≤ 80) : hit (fX10_movesAll v (nI i) τ) (fun _ s => PB s v R A B c (plQ R A (80 - i) i P) ∧ KM τ s v) := by
  have hw : hn A ≤ 78 := by rw [← hB.2.2.1.n]; exact hB.1.n
  unfold fX10_movesAll
  refine bd_hit (hit_mono (lp_go (I := fun m x s => ∃ i' P', x = nI i' ∧ i' ≤ 80 ∧ m = 80 - i' ∧ PB s v R A B c P' ∧ KM τ s v ∧ plQ R A (80 - i') i' P' = plQ R A (80 - i) i P) (P := fun _ s => PB s v R A B c (plQ R A (80 - i) i P) ∧ KM τ s v) ?_ fu (80 - i) _ τ (fu_lt (by omega)) ⟨i, P, rfl, hi, rfl, h, KM.refl _ _, rfl⟩) (fun _ s h => h))
  rintro m x s ⟨i', P', rfl, hi', rfl, hP', hK, he⟩
  unfold fX10_movesAll_L2 fX10_movesAll_j84L2
  cases hx : pX P' with
  | true =>
    have e27 := (hP'.st hx).1
    rw [e27]
    rw [plQ_stuck _ _ hx] at he
    rw [he] at hP'
    simp only [if_neg one_ne]
    split
    · exact hit_some ⟨hP', hK⟩
    · exact hit_some ⟨hP', hK⟩
  | false =>
    have hg := hP'.go hx
    have hlen : (pO P').length ≤ 78 := by
      have := nodup_le hg.2.1.1 hg.2.1.2.1
      omega
    have e22 := hg.2.1.2.2.1
    rw [e22, hg.2.2.2.2]
    simp (disch := omega) only [pn_lt]
    by_cases hlt : i' < (pO P').length
    · have e69 := hg.2.1.2.2.2.1 i' hlt
      have hj := hg.2.1.2.1 _ (getD_mem hlt)
      rw [if_pos hlt, if_pos trivial]
      simp (disch := omega) only [pn_lt, pn_neg, pn_eq, pn_eq0, pn_eq1, pn_eq2, pn_m1, pn_m1', pn_m1lt, pn_ix, pn_bnd, pn_add1, pn_add3, pn_mul4, nI_add, bd_some, st_eq, rd_eq, if_true, if_false, ite_true, ite_false, reduceIte, e69]
      refine bd_hit (hit_mono (m_plFields hP' hB hj (nI i')) ?_)
      rintro r s2 ⟨h2, hK2⟩
      obtain ⟨m, hm2⟩ : ∃ m, 80 - i' = m + 1 := ⟨80 - i' - 1, by omega⟩
      refine hit_some ⟨80 - (i' + 1), by omega, i' + 1, _, rfl, by omega, rfl, h2, hK.trans hK2, ?_⟩
      rw [← he, hm2, show 80 - (i' + 1) = m by omega]
      conv => rhs; unfold plQ
      rw [if_pos hlt]
    · rw [if_neg hlt]
      refine hit_some ⟨?_, hK⟩
      rw [← he, plQ_end (by omega)]
      exact hP'
end mPl
set_option maxHeartbeats 2000000 in
theorem m_plRoots {τ : rS} {v : Nat} {R : Nat → Nat} {A : Hp} {P : Pn} (h : PB τ v R A A (fun _ => 0) P) (hB : BF A A) : hit (fX10_movesReached v τ) (fun _ s => PB s v R A A (fun _ => 0) (plQ R A 80 0 (plL R A (plL R A (plL R A P (rtsL A)) (ensL A)) (rmsL A))) ∧ KM τ s v) := by
  have w := hB.1
  have hw := w.n
  have hbd := hB.2.1
  have l8 : (rtsL A).length = 8 := by unfold rtsL; rw [List.length_map, List.length_range]
  have lE : (ensL A).length = (hen A).length := by unfold ensL; rw [List.length_map]
  have lM : (rmsL A).length = (hrm A).length := by unfold rmsL; rw [List.length_map]
  have c0 : ∀ (σ : rS) (x : Int32), fX10_cell x 0 σ = some (1 + 11 * x + 0, σ) := fun σ x => rfl
  unfold fX10_movesReached
  refine bd_hit (hit_mono (lp_go (I := fun m x s => ∃ r P', x = nI r ∧ r ≤ 8 ∧ m = 8 - r ∧ PB s v R A A (fun _ => 0) P' ∧ KM τ s v ∧ plL R A P' ((rtsL A).drop r) = plL R A P (rtsL A)) (P := fun _ s => PB s v R A A (fun _ => 0) (plL R A P (rtsL A)) ∧ KM τ s v) ?_ fu 8 _ τ (fu_lt (by omega)) ⟨0, P, rfl, by omega, rfl, h, KM.refl _ _, rfl⟩) ?_)
  · rintro m x s ⟨r, P', rfl, hr8, rfl, hP', hK, he⟩
    unfold fX10_movesReached_L2
    cases hx : pX P' with
    | true =>
      have e27 := (hP'.st hx).1
      rw [e27]
      rw [plL_stuck hx] at he
      rw [he] at hP'
      simp only [if_neg one_ne]
      split
      · exact hit_some ⟨hP', hK⟩
      · exact hit_some ⟨hP', hK⟩
    | false =>
      have hg := hP'.go hx
      have wr' := hP'.row hx hB
      rw [hg.2.2.2.2]
      simp (disch := omega) only [pn_lt8]
      by_cases hr : r < 8
      · have e66 : s 66 v (881 + r) = encN (rowH A A (fun _ => 0) P') (hrt A r) := hg.1.rt hr
        rw [if_pos hr, if_pos trivial, pm_881, pn_bnd (by omega) (by omega), ix_nI (by omega), e66, e_spotOf_o hg.1 wr' (fun i hi => w.rt hr hi), bd_some]
        refine bd_hit (hit_mono (pb_moves hP' hx hB (fun i hi => w.rt hr hi)) ?_)
        rintro r2 s2 ⟨h2, hK2⟩
        refine hit_some ⟨8 - (r + 1), by omega, r + 1, _, by rw [pn_add1], by omega, rfl, h2, hK.trans hK2, ?_⟩
        rw [← he, plL_step (i := r) (by omega), rtsL_get hr]
      · rw [if_neg hr]
        refine hit_some ⟨?_, hK⟩
        rw [← he, List.drop_eq_nil_of_le (by omega)]
        exact hP'
  rintro r0 s0 ⟨h0, hK0⟩
  generalize plL R A P (rtsL A) = P0 at h0 ⊢
  unfold fX10_movesReached_j37
  refine bd_hit (hit_mono (lp_go (I := fun m x s => ∃ i P', x = nI i ∧ i ≤ (hen A).length ∧ m = (hen A).length - i ∧ PB s v R A A (fun _ => 0) P' ∧ KM τ s v ∧ plL R A P' ((ensL A).drop i) = plL R A P0 (ensL A)) (P := fun _ s => PB s v R A A (fun _ => 0) (plL R A P0 (ensL A)) ∧ KM τ s v) ?_ fu (hen A).length _ s0 (fu_lt (by have := hbd.1; omega)) ⟨0, P0, rfl, by omega, by omega, h0, hK0, rfl⟩) ?_)
  · rintro m x s ⟨i, P', rfl, hil, rfl, hP', hK, he⟩
    have hb1 := hbd.1
    unfold fX10_movesReached_L39
    cases hx : pX P' with
    | true =>
      have e27 := (hP'.st hx).1
      rw [e27]
      rw [plL_stuck hx] at he
      rw [he] at hP'
      simp only [if_neg one_ne]
      split
      · exact hit_some ⟨hP', hK⟩
      · exact hit_some ⟨hP', hK⟩
    | false =>
      have hg := hP'.go hx
      have wr' := hP'.row hx hB
      have e42 : s 66 v (ix 1242) = nI (hen A).length := hg.1.en
      rw [hg.2.2.2.2, e42]
      simp (disch := omega) only [pn_lt]
      by_cases hi : i < (hen A).length
      · have hmem := w.en (getD_mem hi)
        have e66 : s 66 v (1243 + i) = nI (hnum A ((hen A).getD i 0)) := hg.1.eni hi
        have e1 : (1243 : Int32) + nI i = nI (1243 + i) := nI_add 1243 i
        have es := e_spotOf_o hg.1 wr' (o := some ((hen A).getD i 0)) (fun j hj => by cases hj; exact hmem)
        have es : fX10_spotOf_ v (nI (hnum A ((hen A).getD i 0))) s = some (enc (some ((hen A).getD i 0)), s) := es
        rw [if_pos hi, if_pos trivial, e1, pn_bnd (by omega) (by omega), ix_nI (by omega), e66, es, bd_some]
        refine bd_hit (hit_mono (pb_moves hP' hx hB (fun j hj => by cases hj; exact hmem)) ?_)
        rintro r2 s2 ⟨h2, hK2⟩
        refine hit_some ⟨(hen A).length - (i + 1), by omega, i + 1, _, by rw [pn_add1], by omega, rfl, h2, hK.trans hK2, ?_⟩
        rw [← he, plL_step (i := i) (by omega), ensL_get hi]
      · rw [if_neg hi]
        refine hit_some ⟨?_, hK⟩
        rw [← he, List.drop_eq_nil_of_le (by omega)]
        exact hP'
  rintro r1 s1 ⟨h1, hK1⟩
  generalize plL R A P0 (ensL A) = P1 at h1 ⊢
  unfold fX10_movesReached_j77
  refine bd_hit (hit_mono (lp_go (I := fun m x s => ∃ i P', x = nI i ∧ i ≤ (hrm A).length ∧ m = (hrm A).length - i ∧ PB s v R A A (fun _ => 0) P' ∧ KM τ s v ∧ plL R A P' ((rmsL A).drop i) = plL R A P1 (rmsL A)) (P := fun _ s => PB s v R A A (fun _ => 0) (plL R A P1 (rmsL A)) ∧ KM τ s v) ?_ fu (hrm A).length _ s1 (fu_lt (by have := hbd.2.2; omega)) ⟨0, P1, rfl, by omega, by omega, h1, hK1, rfl⟩) ?_)
  · rintro m x s ⟨i, P', rfl, hil, rfl, hP', hK, he⟩
    have hb3 := hbd.2.2
    unfold fX10_movesReached_L79 fX10_movesReached_j149L79
    cases hx : pX P' with
    | true =>
      have e27 := (hP'.st hx).1
      rw [e27]
      rw [plL_stuck hx] at he
      rw [he] at hP'
      simp only [if_neg one_ne]
      split
      · exact hit_some ⟨hP', hK⟩
      · exact hit_some ⟨hP', hK⟩
    | false =>
      have hg := hP'.go hx
      have wr' := hP'.row hx hB
      have e889 : s 66 v (ix 889) = nI (hrm A).length := hg.1.rm
      rw [hg.2.2.2.2, e889]
      simp (disch := omega) only [pn_lt]
      by_cases hi : i < (hrm A).length
      · obtain ⟨r1, r2⟩ := w.rm (getD_mem' (d := (0, 0)) hi)
        have r3 := w.sz r1
        have hst := rmsL_get hi
        have e90 : s 66 v (890 + 2 * i) = nI (hnum A ((hrm A).getD i (0, 0)).1) := (hg.1.2.2.2.1.2 i hi).1
        have e91 : s 66 v (891 + 2 * i) = nI ((hrm A).getD i (0, 0)).2 := (hg.1.2.2.2.1.2 i hi).2
        generalize (hrm A).getD i (0, 0) = q at r1 r2 r3 hst e90 e91
        have e1 : (890 : Int32) + 2 * nI i = nI (890 + 2 * i) := by rw [pn_m2]; exact nI_add 890 _
        have e2 : (891 : Int32) + 2 * nI i = nI (891 + 2 * i) := by rw [pn_m2]; exact nI_add 891 _
        have es := e_spotOf_o hg.1 wr' (o := some q.1) (fun j hj => by cases hj; exact r1)
        have es : fX10_spotOf_ v (nI (hnum A q.1)) s = some (nI q.1, s) := es
        have ef : fst0 (rowH A A (fun _ => 0) P') q.1 = fst0 A q.1 := rfl
        rw [if_pos hi, if_pos trivial, e1, e2, pn_bnd (by omega) (by omega), ix_nI (by omega), e90, es, bd_some, pn_bnd (by omega) (by omega), ix_nI (by omega), e91, rd_eq, e_isWeakM hg.1 wr' r1 (by omega), bd_some, ef]
        by_cases hq : q.2 < fst0 A q.1
        · rw [if_pos hq, if_neg one_ne]
          refine hit_some ⟨(hrm A).length - (i + 1), by omega, i + 1, _, by rw [pn_add1], by omega, rfl, hP', hK, ?_⟩
          rw [← he, plL_step (i := i) (by omega), hst, if_pos hq]
          rfl
        · have el : hlk (rowH A A (fun _ => 0) P') q.1 q.2 = hlk A q.1 q.2 := rfl
          rw [if_neg hq, if_pos rfl, e_of7 hg.1 wr' r1 r2, bd_some, el, e_spotOf_o hg.1 wr' (fun j hj => w.lk r1 r2 hj), bd_some]
          refine bd_hit (hit_mono (pb_moves hP' hx hB (fun j hj => w.lk r1 r2 hj)) ?_)
          rintro r4 s2 ⟨h2, hK2⟩
          refine hit_some ⟨(hrm A).length - (i + 1), by omega, i + 1, _, by rw [pn_add1], by omega, rfl, h2, hK.trans hK2, ?_⟩
          rw [← he, plL_step (i := i) (by omega), hst, if_neg hq]
      · rw [if_neg hi]
        refine hit_some ⟨?_, hK⟩
        rw [← he, List.drop_eq_nil_of_le (by omega)]
        exact hP'
  rintro r2 s2 ⟨h2, hK2⟩
  unfold fX10_movesReached_j155
  have t := m_plFrom (i := 0) h2 hB (by omega)
  refine bd_hit (hit_mono t ?_)
  rintro r3 s3 ⟨h3, hK3⟩
  exact hit_some ⟨h3, hK2.trans hK3⟩
