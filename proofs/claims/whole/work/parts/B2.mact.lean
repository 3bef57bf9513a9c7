/-! an act, the model's side -/
def trR (q : AR) (r : Int32) (s : rS) : Prop := match q with
  | .inl why => r = nI why
  | .inr (c, _, _) => r = -1 ∧ s 10 0 28 = c
theorem fkX10_notes_L15 (x1 x2 : Int32) (σ : rS) : FK (SC 66 0) σ (fX10_notes_L15 x1 x2 σ) := by
  unfold fX10_notes_L15
  exact FK_ite FK_some (FK_bnd (FK_bnd (FK_st ⟨rfl, rfl⟩ (fun _ => FK_some))))
theorem fkX10_notes_j62 (x1 : Int32) (σ : rS) : FK (SC 66 0) σ (fX10_notes_j62 x1 σ) := by
  unfold fX10_notes_j62
  exact FK_rd (fun _ => FK_bnd (FK_st ⟨rfl, rfl⟩ (fun _ => FK_bnd (FK_st ⟨rfl, rfl⟩ (fun _ => FK_bd (FK_fr (frX10_cells _ _)) (fun c k h => by cases h) (fun _ _ => FK_bnd (FK_st ⟨rfl, rfl⟩ (fun _ => FK_st ⟨rfl, rfl⟩ (fun _ => FK_some)))))))))
theorem fkX10_notes (x1 : Int32) (σ : rS) : FK (SC 66 0) σ (fX10_notes x1 σ) := by
  unfold fX10_notes
  exact FK_ite (FK_bd (FK_lp (fun x σ => fkX10_notes_L15 _ _ _) _ _ _) (fun _ _ h => h) (fun _ _ => FK_st ⟨rfl, rfl⟩ (fun _ => fkX10_notes_j62 _ _))) (fkX10_notes_j62 _ _)
section mact
variable {W : Wd} {b : Nat}
theorem m_tries {τ : rS} (hM : MW τ W) (hI : InvW b W) (h8 : wh W = true → 8 ≤ wR W 0) (hb : b + 1 < 1000000) {t : Nat} (ht : t ≤ 7) (x y z d : Int32) : hit (fX10_tries (nI t) x y z d τ) (fun r s => trR (actV W t x y z d) r s ∧ MW s (actW false W t (actV W t x y z d))) := by
  obtain ⟨r0, r1', r2, r3⟩ := hI.2.2.2.1
  have r3 : wR W 3 ≤ 5 := by first | exact r3 | exact r3.1
  unfold fX10_tries
  refine bd_hit (hit_mono (m_copyRow (τ := τ) (c0 := 66) (k0 := 0) (n0 := 1554) (a := 0) (c2 := 66) (k2 := 1) (n2 := 1554) (b := 0) (by omega) (by omega) (by omega) (by omega) (by decide)) ?_)
  rintro q1 s1 ⟨c1, -, f1⟩
  have g1 : ∀ c, ¬ c = 66 → s1 c = τ c := fun c hc => funext fun k => f1 c k (fun h => hc h.1)
  have e0 : s1 66 0 = τ 66 0 := f1 66 0 (by decide)
  have e3 : s1 66 3 = τ 66 3 := f1 66 3 (by decide)
  have hM1 : MW s1 W := by
    have : MW s1 (setW W (wS W) (wI W) (wP W) (wg W)) := hM.re (fun c hc => g1 c (by
      simp only [List.mem_cons, List.not_mem_nil, or_false] at hc; omega)) (by rw [g1 10 (by decide)]) (by rw [g1 10 (by decide)]) (by rw [g1 10 (by decide)]) (by rw [g1 10 (by decide)]; exact hM.2.2.2.2.2.1) (by rw [e0]; exact hM.1) (fun g => by rw [e3]; exact hM.2.1 g) (hM.2.2.1.keep (by rw [g1 10 (by decide)]) (by rw [g1 10 (by decide)]) (g1 67 (by decide)))
    exact this
  unfold actV
  by_cases hh : wh W = true
  · rw [if_pos hh]
    have hR8 : R8 (wR W) := ⟨r0, r1', r2, r3, h8 hh⟩
    have hRM : RM s1 (wR W) := ⟨hM1.2.2.2.1, r0, r1', r2, r3⟩
    have hA : Inv (wR W) b (wS W).1 := hI.1.1
    have h11 : ¬ s1 10 0 11 = 0 := by
      rw [show s1 10 0 11 = bI (wh W) from hM1.2.2.2.2.1, hh]; decide
    have row1 : MS (s1 66 1) (wS W) := hM.1.congr hA r2 hI.1.2 (fun i hi => by
      have := c1 i hi
      rw [Nat.zero_add] at this
      exact this)
    have iv := i_does hA hR8 hb t x y z d
    refine bd_hit (hit_mono (hit_fk (fkX10_does 0 (nI t) x y z d s1) (hit_fr2 (frX10_does 0 (nI t) x y z d s1) (fpX10_does 0 (nI t) x y z d s1) (m_does (v := 0) hM1.1.1 hA hRM hR8 hb (by decide) (by decide) h11 ht x y z d))) ?_)
    rintro q2 s2 ⟨k2, f2, p2, l2, h2⟩
    have k1' : s2 66 1 = s1 66 1 := k2 66 1 (fun h => by have := h rfl; omega)
    have k3' : s2 66 3 = s1 66 3 := k2 66 3 (fun h => by have := h rfl; omega)
    have f20 : ∀ c, c ∈ [60, 62, 63, 64, 65] → s2 c = s1 c := fun c hc => by
      simp only [List.mem_cons, List.not_mem_nil, or_false] at hc
      rcases hc with rfl | rfl | rfl | rfl | rfl <;> exact f2 _ (by decide)
    have hP2 : MPast s2 (wP W) := hM1.2.2.1.keep (p2 17 (by unfold KT; omega)) (p2 18 (by unfold KT; omega)) (f2 67 (by decide))
    have toS : ∀ B : Hp, MR (s2 66 0) B → MS (s2 66 0) (B, (wS W).2) := fun B hB => by
      obtain ⟨-, a1, a2⟩ := hM1.1
      refine ⟨hB, by rw [l2 1373 (by omega)]; exact a1, fun i hi => ?_⟩
      rw [l2 _ (by omega), l2 _ (by omega), l2 _ (by omega)]
      exact a2 i hi
    generalize doA (wR W) (wS W).1 t x y z d = q at h2 iv ⊢
    rcases q with why | ⟨c, lg, A'⟩
    · have iv' : why < 4 := iv
      have e : q2 = nI why := h2.1
      have en : ¬ q2 = -1 := by rw [e, pn_m1 (by omega)]; exact id
      rw [if_neg en]
      refine hit_some ⟨e, ?_⟩
      have : MW s2 (setW W (wS W) (wI W) (wP W) (wg W)) := hM1.re f20 (p2 2 (by unfold KT; omega)) (p2 10 (by unfold KT; omega)) (p2 11 (by unfold KT; omega)) (by rw [p2 19 (by unfold KT; omega)]; exact hM1.2.2.2.2.2.1) (toS _ h2.2) (fun g => by rw [k3']; exact hM1.2.1 g) hP2
      exact this
    · obtain ⟨e, h28, h30, hR⟩ := h2
      have iA : Inv (wR W) (b + 1) A' := iv.2
      rw [if_pos e]
      refine bd_hit (hit_mono (m_remember (S := wS W) hP2 hI.2.2.1.1 hI.2.2.1.2 (by rw [k1']; exact row1) ⟨hA, hI.1.2⟩ r2) ?_)
      rintro q3 s3 ⟨hP3, p3, f3⟩
      have e66 : s3 66 = s2 66 := funext fun k => f3 66 k (by omega) (by omega)
      refine bd_hit (hit_mono (hit_fk (fkX10_notes (nI t) s3) (hit_fr (frX10_notes (nI t) s3) (m_notes (A := A') (L := (wS W).2) (by rw [e66]; exact toS _ hR) iA r2 hI.1.2 (nI t) lg (by rw [p3 30 (by decide) (by decide)]; exact h30)))) ?_)
      rintro q4 s4 ⟨k4, f4, hS4⟩
      have g4 : ∀ c, ¬ c = 66 → s4 c = s3 c := fun c hc => f4 c (by simpa using hc)
      refine hit_some ⟨⟨rfl, by rw [g4 10 (by decide), p3 28 (by decide) (by decide)]; exact h28⟩, ?_⟩
      have e10 : ∀ i, KT i → ¬ i = 17 → ¬ i = 18 → s4 10 0 i = s1 10 0 i := fun i hi h17 h18 => by rw [g4 10 (by decide), p3 i h17 h18, p2 i hi]
      refine hM1.re (fun c hc => ?_) (e10 2 (by unfold KT; omega) (by decide) (by decide)) (e10 10 (by unfold KT; omega) (by decide) (by decide)) (e10 11 (by unfold KT; omega) (by decide) (by decide)) (by rw [e10 19 (by unfold KT; omega) (by decide) (by decide)]; exact hM1.2.2.2.2.2.1) hS4 (fun g => ?_) (hP3.keep (by rw [g4 10 (by decide)]) (by rw [g4 10 (by decide)]) (g4 67 (by decide)))
      · rw [← f20 c hc]
        simp only [List.mem_cons, List.not_mem_nil, or_false] at hc
        rw [g4 c (by omega)]
        exact funext fun k => f3 c k (by omega) (by omega)
      · have : s4 66 3 = s3 66 3 := k4 66 3 (fun h => by have := h.2; omega)
        rw [this, e66, k3']; exact hM1.2.1 g
  · rw [if_neg hh]
    have h11 : s1 10 0 11 = 0 := by
      rw [show s1 10 0 11 = bI (wh W) from hM1.2.2.2.2.1, eq_false_of_ne_true hh]; rfl
    unfold fX10_does fX10_stops
    rw [if_pos h11, bd_some, if_neg (by decide), bd_some, if_neg (by decide)]
    exact hit_some ⟨rfl, hM1⟩
theorem m_act {τ : rS} (hM : MW τ W) (hI : InvW b W) (h8 : wh W = true → 8 ≤ wR W 0) (hb : b + 1 < 1000000) {t : Nat} (ht : t ≤ 7) (x y z d : Int32) : hit (fX10_act (nI t) x y z d τ) (fun r s => r = ansV (actV W t x y z d) ∧ MW s (actW true W t (actV W t x y z d))) := by
  unfold fX10_act
  rw [st_eq]
  have iv := actV_Iv hI h8 hb t x y z d
  refine bd_hit (hit_mono (m_tries (hM.t0 0) hI h8 hb ht x y z d) ?_)
  rintro r s ⟨h1, h2⟩
  generalize actV W t x y z d = q at h1 h2 iv ⊢
  rcases q with why | ⟨c, lg, A'⟩
  · have iv' : why < 4 := iv
    have e : r = nI why := h1
    have h2 : MW s W := h2
    rw [if_neg (by rw [e, pn_m1 (by omega)]; exact id), e, pn_bnd iv' (by omega), pn_bnd iv' (by omega), ix_nI (by omega), MW.z h2 iv', st_eq]
    exact hit_some ⟨rfl, h2.zz iv'⟩
  · rw [if_pos h1.1]
    exact hit_some ⟨h1.2, h2⟩
end mact
