/-! a MINOR, the model's side, whole -/
theorem WkF_plan {R : Nat → Nat} {b : Nat} {A : Hp} (hI : Inv R b A) (hx : pX (plan1 R A) = false) : WkF R A (plan1 R A) (plan2 R A) (mG R A) := by
  have w := hI.ok
  have hu := hI.us (s := 2) (by omega)
  have hfo := plan_fol R A
  have hg1 : ∀ i, mG R A i = 1 ↔ hsp A i = 2 ∨ i ∈ pO (plan1 R A) := fun i => by
    unfold mG sg
    by_cases h2 : hsp A i = 2
    · rw [if_pos h2]; exact ⟨fun _ => Or.inl h2, fun _ => rfl⟩
    · rw [if_neg h2, if_neg (show ¬ 2 = 1 by decide)]
      by_cases hF : i ∈ pO (plan1 R A)
      · rw [if_pos hF]; exact ⟨fun _ => Or.inr hF, fun _ => rfl⟩
      · rw [if_neg hF]
        constructor
        · intro h; split at h <;> omega
        · rintro (h | h)
          · exact absurd h h2
          · exact absurd h hF
  refine ⟨hg1, fun i => sg_0 (fun _ j hj => hfo.sub hj) (Or.inr rfl), fun i => ?_, hfo, rfl, fun j hj => ?_, hx⟩
  · unfold mG sg; split <;> (try split) <;> (try split) <;> (try split) <;> omega
  · have k2 := (plan1_cov w hu (by rw [hx]; decide)).2.1
    exact (hg1 j).mpr (k2 _ (List.mem_map.mpr ⟨j, hj, rfl⟩) j rfl)
theorem MR.same {τ s : rS} {v : Nat} {A : Hp} (h : MR (τ 66 v) A) (w : OK A) (hb : Bd A) (e : ∀ i, i < 1554 → s 66 v i = τ 66 v i) : MR (s 66 v) A := h.congr w hb.1 hb.2.1 hb.2.2 (fun i hi => e i (by omega))
def MYo (τ : rS) (v : Nat) (A : Hp) (X : Bool) (B : Hp) (n : Nat) (r : Int32) (s : rS) : Prop := LGr τ s v ∧ if X = true then r = 0 ∧ MR (s 66 v) A else r = 1 ∧ MR (s 66 v) B ∧ s 10 0 28 = nI n
theorem m_minorX {τ s : rS} {v : Nat} {A : Hp} (h : MR (τ 66 v) A) (w : OK A) (hb : Bd A) (hv : ¬ v = 2) (h2 : ∀ i, i < 1554 → s 66 2 i = τ 66 v i) (hL : LGr τ s v) (h27 : s 10 0 27 = 1) : hit (fX10_minors_j45 v s) (fun r t => r = 0 ∧ MR (t 66 v) A ∧ LGr τ t v) := by
  unfold fX10_minors_j45
  rw [h27, if_neg one_ne]
  have hcp := m_copyRow (τ := s) (c0 := 66) (k0 := 2) (n0 := 1554) (a := 0) (c2 := 66) (k2 := v) (n2 := 1554) (b := 0) (by omega) (by omega) (by omega) (by omega) (by omega)
  refine bd_hit (hit_mono hcp ?_)
  rintro r t ⟨t1, t2, t3⟩
  have e : ∀ i, i < 1554 → t 66 v i = τ 66 v i := fun i hi => by
    have := t1 i hi
    rw [Nat.zero_add] at this
    rw [this]; exact h2 i hi
  refine hit_some ⟨rfl, h.same w hb e, fun i hi => ?_⟩
  by_cases h5 : i < 1554
  · exact e i h5
  · rw [t2 i (by omega)]; exact hL i hi
theorem m_minors {τ : rS} {v : Nat} {R : Nat → Nat} {b : Nat} {A : Hp} (hM : MR (τ 66 v) A) (hI : Inv R b A) (hR : RM τ R) (hv : ¬ v = 2) : hit (fX10_minors v τ) (MYo τ v A (pX (plan2 R A)) (minA R A) (mGone A (mG R A) (plan2 R A))) := by
  have w := hI.ok
  have hw := w.n
  have hR12 : R 1 ≤ 32 ∧ R 2 ≤ 128 := ⟨hR.2.2.1, hR.2.2.2.1⟩
  have hb := hI.bd hR12.2
  have hu := hI.us (s := 2) (by omega)
  unfold fX10_minors
  have hcp := m_copyRow (τ := τ) (c0 := 66) (k0 := v) (n0 := 1554) (a := 0) (c2 := 66) (k2 := 2) (n2 := 1554) (b := 0) (by omega) (by omega) (by omega) (by omega) (by omega)
  refine bd_hit (hit_mono hcp ?_)
  rintro r1 s1 ⟨c1, c2, c3⟩
  have a1 : ∀ i, i < 1554 → s1 66 2 i = τ 66 v i := fun i hi => by
    have := c1 i hi
    rw [Nat.zero_add] at this
    exact this
  have v1 : s1 66 v = τ 66 v := c3 66 v (by omega)
  refine bd_hit (hit_mono (hit_fr (frX10_begins s1) (m_begin (hn A))) ?_)
  rintro r2 s2 ⟨f2, g2, z2⟩
  have v2 : s2 66 = s1 66 := f2 66 (by decide)
  rw [st_eq]
  have hM3 : MR (wr s2 10 0 25 0 66 v) A := by rw [wr_c (by decide), v2, v1]; exact hM
  have ecl := m_cellsIn (s := 2) w hM3 (by omega)
  have ecl : fX10_cellsIn v 2 (wr s2 10 0 25 0) = some (nI (usedA A 2), wr s2 10 0 25 0) := ecl
  rw [ecl, bd_some, st_eq]
  obtain ⟨s5, hs5⟩ : ∃ s5, s5 = wr (wr s2 10 0 25 0) 10 0 26 (nI (usedA A 2)) := ⟨_, rfl⟩
  rw [← hs5]
  have v5 : s5 66 = s1 66 := by rw [hs5, wr_c (by decide), wr_c (by decide), v2]
  have hPB : PB s5 v R A A (fun _ => 0) (pl0 A) := by
    refine ⟨?_, PI_0 hu, ⟨fun i hi => ?_, hR.2⟩⟩
    · unfold PMo
      rw [if_neg (show ¬ pX (pl0 A) = true by show ¬ false = true; decide)]
      refine ⟨by rw [rowH_0, v5, v1]; exact hM, ?_, ?_, ?_, ?_⟩
      · unfold GM at g2 ⊢
        rw [hs5, wr_i (by decide), wr_i (by decide), wr_c (c' := 69) (by decide), wr_c (c' := 69) (by decide), wr_c (c' := 68) (by decide), wr_c (c' := 68) (by decide)]
        exact g2
      · rw [hs5, wr_i (by decide), wr_same]; rfl
      · rw [hs5, wr_same]; rfl
      · rw [hs5, wr_i (by decide), wr_i (by decide)]; exact z2
    · rw [hs5, wr_c (by decide), wr_c (by decide), f2 62 (by decide), c3 62 0 (by omega)]; exact hR.1 i hi
  have hBF : BF A A := ⟨w, hb, ShB_refl A, fun i hk hi => (hI.2.2.2.1 i hi).2.1 hk⟩
  refine bd_hit (hit_mono (hit_fk (fvX10_movesReached v s5) (m_plRoots hPB hBF)) ?_)
  rintro r6 s6 ⟨fv6, h6, hK6⟩
  have h6 : PB s6 v R A A (fun _ => 0) (plan1 R A) := h6
  have x6 : s6 66 2 = s5 66 2 := fv6 66 2 (fun z => hv (z rfl).symm)
  have a6 : ∀ i, i < 1554 → s6 66 2 i = τ 66 v i := fun i hi => by rw [x6, v5]; exact a1 i hi
  have l6 : LGr τ s6 v := fun i hi => by rw [hK6.1 i hi, v5, v1]
  unfold MYo
  cases hx1 : pX (plan1 R A) with
  | true =>
    have e27 := (h6.st hx1).1
    have hx2 : pX (plan2 R A) = true := (plan_fol R A).2 hx1
    rw [e27, if_neg one_ne, hx2]
    refine hit_mono (m_minorX hM w hb hv a6 l6 e27) ?_
    rintro r t ⟨t1, t2, t3⟩
    refine ⟨t3, ?_⟩
    rw [if_pos rfl]
    exact ⟨t1, t2⟩
  | false =>
    have e27 := (h6.go hx1).2.2.2.2
    rw [e27, if_pos rfl]
    refine bd_hit (hit_mono (hit_fk (fvX10_weakensAndEnds v s6) (m_weakEnds h6 hI (WkF_plan hI hx1) hR12)) ?_)
    rintro r7 s7 ⟨fv7, l7, k7⟩
    have x7 : s7 66 2 = s6 66 2 := fv7 66 2 (fun z => hv (z rfl).symm)
    have l7' : LGr τ s7 v := l6.trans l7
    cases hx2 : pX (plan2 R A) with
    | true =>
      rw [hx2, if_pos rfl] at k7
      refine hit_mono (m_minorX hM w hb hv (fun i hi => by rw [x7]; exact a6 i hi) l7' k7) ?_
      rintro r t ⟨t1, t2, t3⟩
      refine ⟨t3, ?_⟩
      rw [if_pos rfl]
      exact ⟨t1, t2⟩
    | false =>
      rw [hx2, if_neg (by decide)] at k7
      have hMF := MF_plan hI (by rw [hx2]; decide)
      refine hit_mono (m_youngEnd k7 hI hMF hR12) ?_
      rintro r t ⟨t1, t2, t3, t4⟩
      refine ⟨l7'.trans t3, ?_⟩
      rw [if_neg (by decide)]
      exact ⟨t1, t2, t4⟩
