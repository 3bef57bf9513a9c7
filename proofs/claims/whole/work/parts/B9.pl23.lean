/-! call 23: what a collection would do -/
theorem tlA_from {T : Nat → Int32} {c : Nat → Nat} {j t : Nat} (h : 3 + j ≤ t) : tlA T c j t = T t + nI (c (t - 3)) := if_pos h
theorem min_tl {R : Nat → Nat} {A : Hp} {t : Nat} (h : 3 ≤ t) : htl (minA R A) t = htl A t + nI (mC A (mG R A) (plan2 R A) (t - 3)) := by
  unfold minA
  rw [minG_eq]
  show tlA _ _ 0 t = _
  rw [tlA_from (by omega), upx_ne (by omega)]
theorem maj_tl {A : Hp} {t : Nat} (h : 5 ≤ t) : htl (majA A) t = htl A t + nI (jC A (jG A) (t - 3)) := by
  unfold majA
  rw [majG_eq]
  show tlA _ _ 2 t = _
  rw [tlA_from (by omega), upx_ne (by omega)]
theorem maj_tl4 {A : Hp} : htl (majA A) 4 = htl A 4 := by
  unfold majA
  rw [majG_eq]
  show tlA (upx (htl A) 2 (htl A 2 + 1)) (jC A (jG A)) 2 4 = _
  unfold tlA
  rw [if_neg (by omega), upx_ne (by omega)]
theorem jC_0 (A : Hp) (g : Nat → Nat) : jC A g 0 = (slL A g 128).2.2 := by
  unfold jC jC3
  rw [upx_ne (by decide), upx_same, mX3_c (A := A) (g := g) 0 (by omega), Nat.zero_add]
theorem jC_1 (A : Hp) (g : Nat → Nat) : jC A g 1 = 0 := by
  unfold jC jC3
  rw [upx_ne (by decide), upx_ne (by decide), mX3_c (A := A) (g := g) 1 (by omega)]
theorem add_sub_l (a b : Int32) : a + b - a = b := by rw [Int32.add_comm, Int32.add_sub_cancel]
noncomputable def wouA (W : Wd) (y : Int32) (i : Nat) : Int32 := if y = 0 then (if pX (plan2 (wR W) (wS W).1) = true then -1 else nI (mC (wS W).1 (mG (wR W) (wS W).1) (plan2 (wR W) (wS W).1) i)) else nI (jC (wS W).1 (jG (wS W).1) i)
section wou
variable {W : Wd} {b : Nat}
theorem c_would {σ : rS} {y : Int32} {i : Nat} (hC : CW σ W) (hI : InvW b W) (hh : ¬ wh W = false) (hi : i < 5) : hit (fX9_would y (nI i) σ) (fun r s => r = wouA W y i ∧ CW s W) := by
  have h8 := hI.r8 hh
  have hA : Inv (wR W) b (wS W).1 := hI.1.1
  unfold fX9_would wouA
  rw [hC.hif, if_neg hh, if_neg (by rw [pn_neg (by omega)]; exact id), if_pos (show nI i < 5 by rw [show (5 : Int32) = nI 5 from rfl, pn_lt (by omega) (by omega)]; exact hi)]
  refine bd_hit (hit_mono (c_trial hC hI) ?_)
  rintro r1 s1 ⟨hS1, t1⟩
  have hC1 := hC.tr t1
  by_cases y0 : y = 0
  · rw [if_pos y0, if_pos y0]
    have hRU : RU s1 (wR W) := ⟨hC1.2.2.2.1, h8.1, h8.2.1, h8.2.2.1, h8.2.2.2.1⟩
    refine bd_hit (hit_mono (hit_fk (fkX1_collectYoung 2 s1) (hit_fr (frX1_collectYoung 2 s1) (c_young (A := (wS W).1) (L := (wS W).2) hS1 hA hRU))) ?_)
    rintro r2 s2 ⟨k2, f2, h2⟩
    have hC2 := hC1.tr (TrC_young k2 f2)
    unfold CYo at h2
    by_cases c : pX (plan2 (wR W) (wS W).1) = true
    · rw [if_pos c] at h2
      rw [h2.1, if_pos rfl, if_pos c]
      exact hit_some ⟨rfl, hC2⟩
    · rw [if_neg c] at h2
      rw [h2.1, if_neg one_ne, if_neg c, pn_bnd (by omega) (by omega), ix_nI (by omega)]
      exact hit_some ⟨h2.2.2 i hi, hC2⟩
  · rw [if_neg y0, if_neg y0]
    refine bd_hit (hit_mono (hit_fk (fkX1_collectAll 2 s1) (hit_fr (frX1_collectAll 2 s1) (c_major (A := (wS W).1) (L := (wS W).2) hS1 hA h8.2.2.1))) ?_)
    rintro r2 s2 ⟨k2, f2, h2, o2⟩
    rw [pn_bnd (by omega) (by omega), ix_nI (by omega)]
    exact hit_some ⟨o2 i hi, hC1.tr (TrC_all k2 f2)⟩
theorem m_would {τ : rS} {y : Int32} {i : Nat} (hM : MW τ W) (hI : InvW b W) (hh : ¬ wh W = false) (hi : i < 5) (hy : y = 0 ∨ y = 1) : hit (fX10_would y (nI i) τ) (fun r s => r = wouA W y i ∧ MW s W) := by
  have h8 := hI.r8 hh
  have hA : Inv (wR W) b (wS W).1 := hI.1.1
  have hs0 := hM.t0 0
  have i67 : ix 1367 = 1364 + 3 := rfl
  have i68 : ix 1368 = 1364 + 4 := rfl
  have i70 : ix 1370 = 1364 + 6 := rfl
  have i71 : ix 1371 = 1364 + 7 := rfl
  have q0 : (nI i = 0) = (i = 0) := pn_eq0 (by omega)
  have q1 : (nI i = 1) = (i = 1) := pn_eq1 (by omega)
  have q2 : (nI i = 2) = (i = 2) := pn_eq2 (by omega)
  have q3 : (nI i = 3) = (i = 3) := pn_eq (b := 3) (by omega) (by omega)
  unfold fX10_would wouA
  rw [st_eq, hs0.hif, if_neg hh, show (4 : Int64) = (nI 4).toInt64 by decide, m_in (nI i) (by omega), bd_some, inB_nI (by omega), if_pos hi]
  dsimp only
  rw [if_neg one_ne]
  refine bd_hit (hit_mono (m_trial hs0 hI) ?_)
  rintro r1 s1 ⟨hR1, t1⟩
  have hM1 := hs0.tr t1
  by_cases y0 : y = 0
  · rw [if_pos y0, if_pos y0]
    have hRM : RM s1 (wR W) := ⟨hM1.2.2.2.1, h8.1, h8.2.1, h8.2.2.1, h8.2.2.2.1⟩
    refine bd_hit (hit_mono (hit_fk (fvX10_minors 1 s1) (hit_fr2 (frX10_minors 1 s1) (fpX10_minors 1 s1) (m_minors hR1 hA hRM (by decide)))) ?_)
    rintro r2 s2 ⟨k2, f2, p2, -, h2⟩
    have t2 : TrM s1 s2 := ⟨f2, k2 66 0 (fun h => by have := h rfl; omega), k2 66 3 (fun h => by have := h rfl; omega), p2⟩
    have hM2 := hM1.tr t2
    by_cases c : pX (plan2 (wR W) (wS W).1) = true
    · rw [if_pos c] at h2
      rw [h2.1, if_pos rfl, if_pos c]
      exact hit_some ⟨rfl, hM2⟩
    · rw [if_neg c] at h2
      obtain ⟨e1, hB, e28⟩ := h2
      rw [e1, if_neg one_ne, if_neg c]
      unfold fX10_would_j67
      simp only [q0, q1, q2, q3]
      have dif : ∀ t, t < 8 → 3 ≤ t → s2 66 1 (1364 + t) - s2 66 0 (1364 + t) = nI (mC (wS W).1 (mG (wR W) (wS W).1) (plan2 (wR W) (wS W).1) (t - 3)) := fun t ht h3 => by
        rw [show s2 66 1 (1364 + t) = htl (minA (wR W) (wS W).1) t from hB.tl ht, show s2 66 0 (1364 + t) = htl (wS W).1 t from hM2.1.1.tl ht, min_tl h3]
        exact add_sub_l _ _
      rcases (by omega : i = 0 ∨ i = 1 ∨ i = 2 ∨ i = 3 ∨ i = 4) with rfl | rfl | rfl | rfl | rfl
      · rw [if_pos rfl, if_pos y0, i67, dif 3 (by omega) (by omega)]
        exact hit_some ⟨rfl, hM2⟩
      · rw [if_neg (by decide), if_pos rfl, i68, dif 4 (by omega) (by omega)]
        exact hit_some ⟨rfl, hM2⟩
      · rw [if_neg (by decide), if_neg (by decide), if_pos rfl, e28, ← mC_2]
        exact hit_some ⟨rfl, hM2⟩
      · rw [if_neg (by decide), if_neg (by decide), if_neg (by decide), if_pos rfl, i70, dif 6 (by omega) (by omega)]
        exact hit_some ⟨rfl, hM2⟩
      · rw [if_neg (by decide), if_neg (by decide), if_neg (by decide), if_neg (by decide), i71, dif 7 (by omega) (by omega)]
        exact hit_some ⟨rfl, hM2⟩
  · rw [if_neg y0, if_neg y0]
    refine bd_hit (hit_mono (hit_fk (fvX10_majors 1 s1) (hit_fr2 (frX10_majors 1 s1) (fpX10_majors 1 s1) (m_majors hR1 hA h8.2.2.1))) ?_)
    rintro r2 s2 ⟨k2, f2, p2, hB, -, e28, e29⟩
    have t2 : TrM s1 s2 := ⟨f2, k2 66 0 (fun h => by have := h rfl; omega), k2 66 3 (fun h => by have := h rfl; omega), p2⟩
    have hM2 := hM1.tr t2
    unfold fX10_would_j67
    simp only [q0, q1, q2, q3]
    have dif : ∀ t, t < 8 → 5 ≤ t → s2 66 1 (1364 + t) - s2 66 0 (1364 + t) = nI (jC (wS W).1 (jG (wS W).1) (t - 3)) := fun t ht h3 => by
      rw [show s2 66 1 (1364 + t) = htl (majA (wS W).1) t from hB.tl ht, show s2 66 0 (1364 + t) = htl (wS W).1 t from hM2.1.1.tl ht, maj_tl h3]
      exact add_sub_l _ _
    rcases (by omega : i = 0 ∨ i = 1 ∨ i = 2 ∨ i = 3 ∨ i = 4) with rfl | rfl | rfl | rfl | rfl
    · rw [if_pos rfl, if_neg y0, e29, jC_0]
      exact hit_some ⟨rfl, hM2⟩
    · rw [if_neg (by decide), if_pos rfl, i68, show s2 66 1 (1364 + 4) = htl (majA (wS W).1) 4 from hB.tl (t := 4) (by omega), show s2 66 0 (1364 + 4) = htl (wS W).1 4 from hM2.1.1.tl (t := 4) (by omega), maj_tl4, jC_1, Int32.sub_self]
      exact hit_some ⟨rfl, hM2⟩
    · rw [if_neg (by decide), if_neg (by decide), if_pos rfl, e28, ← jC_2]
      exact hit_some ⟨rfl, hM2⟩
    · rw [if_neg (by decide), if_neg (by decide), if_neg (by decide), if_pos rfl, i70, dif 6 (by omega) (by omega)]
      exact hit_some ⟨rfl, hM2⟩
    · rw [if_neg (by decide), if_neg (by decide), if_neg (by decide), if_neg (by decide), i71, dif 7 (by omega) (by omega)]
      exact hit_some ⟨rfl, hM2⟩
end wou
theorem pl_23 {xs : Nat → Int32} {n : Nat} {σ : rS} {W : Wd} (hC : CW σ W) (hM : MW σ W) (hI : InvW (40 * n) W) : PL_23 xs n σ (IW (n + 1)) := by
  unfold PL_23
  have hy : (if xs (6 * n + 1) = 0 then (0 : Int32) else 1) = 0 ∨ (if xs (6 * n + 1) = 0 then (0 : Int32) else 1) = 1 := by
    by_cases c : xs (6 * n + 1) = 0
    · rw [if_pos c]; exact Or.inl rfl
    · rw [if_neg c]; exact Or.inr rfl
  generalize (if xs (6 * n + 1) = 0 then (0 : Int32) else 1) = y at hy
  generalize xs (6 * n + 2) = x
  by_cases hh : wh W = false
  · exact pl_q (fc := fun σ => fX9_would y x σ) (fm := fun σ => fX10_would y x σ) hC hM hI (a := -1) (by unfold fX9_would; rw [hC.hif, if_pos hh]) (fun s hs => by unfold fX10_would; rw [st_eq, (hs.t0 0).hif, if_pos hh])
  · rcases inB_cases x (b := 5) (by omega) with ⟨i, hi, rfl, e⟩ | ⟨e, hx⟩
    · exact pl_w (fc := fun σ => fX9_would y (nI i) σ) (fm := fun σ => fX10_would y (nI i) σ) (a := wouA W y i) hM hI (frX9_would _ _ _) (isC_of (by decide)) (fun s => frX10_would _ _ s) (isM_of (by decide)) (c_would hC hI hh hi) (fun s hs => m_would hs hI hh hi hy)
    · refine pl_q (fc := fun σ => fX9_would y x σ) (fm := fun σ => fX10_would y x σ) hC hM hI (a := -1) ?_ (fun s hs => ?_)
      · show fX9_would y x σ = _
        unfold fX9_would
        rw [hC.hif, if_neg hh]
        rcases hx with hx | ⟨g, g1, g2, rfl⟩
        · rw [if_pos hx]
        · rw [if_neg (by rw [pn_neg (by omega)]; exact id), if_neg (show ¬ nI g < (5 : Int32) by rw [show (5 : Int32) = nI 5 from rfl, pn_lt (by omega) (by omega)]; omega)]
      · show fX10_would y x s = _
        unfold fX10_would
        rw [st_eq, (hs.t0 0).hif, if_neg hh, show (4 : Int64) = (nI 4).toInt64 by decide, m_in x (by omega), bd_some, e, if_pos rfl]
