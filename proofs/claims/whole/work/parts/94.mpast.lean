/-! what was, kept for undo: the model's side -/
theorem m_remJ {τ : rS} {P : List Sta} {S : Sta} {R : Nat → Nat} {b fi len : Nat} (hfi : fi < 40) (hl1 : 1 ≤ len) (hl2 : len ≤ 40) (e17 : τ 10 0 17 = nI fi) (e18 : τ 10 0 18 = nI len) (hS : MS (τ 66 1) S) (hIS : Inv R b S.1 ∧ S.2.length ≤ 60) (hR : R 2 ≤ 128) : hit (fX10_remember_j35 τ) (fun _ s => MS (fun x => s 67 0 (1554 * ((fi + (len - 1)) % 40) + x)) S ∧ (∀ r, r < 40 → ¬ r = (fi + (len - 1)) % 40 → ∀ x, x < 1554 → s 67 0 (1554 * r + x) = τ 67 0 (1554 * r + x)) ∧ ∀ c k, ¬ (c = 67 ∧ k = 0) → s c k = τ c k) := by
  unfold fX10_remember_j35
  have hm40 : (fi + (len - 1)) % 40 < 40 := Nat.mod_lt _ (by omega)
  have e1 : nI fi + nI len - 1 = nI (fi + (len - 1)) := by
    rw [nI_add, pn_sub1 (by omega)]
    congr 1
    omega
  have em : nI (fi + (len - 1)) - nI (fi + (len - 1)) / 40 * 40 = nI ((fi + (len - 1)) % 40) := pn_mod (m := 40) (by omega) (by omega)
  have e15 : (1554 : Int32) * nI ((fi + (len - 1)) % 40) = nI (1554 * ((fi + (len - 1)) % 40)) := (Int32.ofNat_mul 1554 _).symm
  rw [e17, e18, e1, em, e15]
  have hcp := m_copyRow (τ := τ) (c0 := 66) (k0 := 1) (n0 := 1554) (a := 0) (c2 := 67) (k2 := 0) (n2 := 62160) (b := 1554 * ((fi + (len - 1)) % 40)) (by omega) (by omega) (by omega) (by omega) (by decide)
  refine bd_hit (hit_mono hcp ?_)
  rintro r s ⟨h1, h2, h3⟩
  refine hit_some ⟨hS.congr hIS.1 hR hIS.2 (fun i hi => ?_), fun q hq hne x hx => h2 _ (by omega), h3⟩
  have := h1 i hi
  rw [Nat.zero_add] at this
  exact this
theorem m_remember {τ : rS} {P : List Sta} {S : Sta} {R : Nat → Nat} {b : Nat} (hP : MPast τ P) (h40 : P.length ≤ 40) (hIP : ∀ T ∈ P, Inv R b T.1 ∧ T.2.length ≤ 60) (hS : MS (τ 66 1) S) (hIS : Inv R b S.1 ∧ S.2.length ≤ 60) (hR : R 2 ≤ 128) : hit (fX10_remember τ) (fun _ s => MPast s (pushP P S) ∧ (∀ i, ¬ i = 17 → ¬ i = 18 → s 10 0 i = τ 10 0 i) ∧ ∀ c k, ¬ (c = 67 ∧ k = 0) → ¬ (c = 10 ∧ k = 0) → s c k = τ c k) := by
  obtain ⟨fi, f1, f2, f3, f4⟩ := hP
  have hl := pushP_len (S := S) h40
  have e40 : (nI P.length = 40) = (P.length = 40) := pn_eq (b := 40) (by omega) (by omega)
  unfold fX10_remember
  rw [f3]
  by_cases e : P.length = 40
  · rw [if_pos e] at hl
    have em : nI fi + 1 - (nI fi + 1) / 40 * 40 = nI ((fi + 1) % 40) := by
      rw [pn_add1]
      exact pn_mod (m := 40) (by omega) (by omega)
    rw [if_pos (by rw [e40]; exact e), f2, em, st_eq]
    have g17 : wr τ 10 0 17 (nI ((fi + 1) % 40)) 10 0 17 = nI ((fi + 1) % 40) := wr_same _ _ _ _ _
    have g18 : wr τ 10 0 17 (nI ((fi + 1) % 40)) 10 0 18 = nI 40 := by rw [wr_i (by decide), f3, e]
    have hlt : (fi + 1) % 40 < 40 := Nat.mod_lt _ (by omega)
    refine hit_mono (m_remJ (P := P) hlt (by omega) (by omega) g17 g18 (by rw [wr_c (by decide)]; exact hS) hIS hR) ?_
    rintro r s ⟨h1, h2, h3⟩
    have s10 : s 10 0 = wr τ 10 0 17 (nI ((fi + 1) % 40)) 10 0 := h3 10 0 (by decide)
    have er : ((fi + 1) % 40 + (40 - 1)) % 40 = fi := by omega
    rw [er] at h1 h2
    refine ⟨⟨(fi + 1) % 40, hlt, by rw [s10]; exact g17, by rw [s10, hl]; exact g18, fun i hi => ?_⟩, fun i h17 h18 => by rw [s10, wr_i h17], fun c k h67 h10 => (h3 c k h67).trans (wrR_ne _ _ _ _ h10)⟩
    rw [hl] at hi
    unfold pushP
    rw [if_pos e]
    have ld : (P.drop 1).length = 39 := by rw [List.length_drop]; omega
    by_cases ei : i = 39
    · have ej : ((fi + 1) % 40 + i) % 40 = fi := by omega
      have eg : (P.drop 1 ++ [S]).getD i emS = S := by rw [ei, ← ld]; exact getD_app_eq
      rw [ej, eg]
      exact h1
    · have ej : ((fi + 1) % 40 + i) % 40 = (fi + (1 + i)) % 40 := by omega
      rw [ej, getD_app_lt (by omega), getD_drop]
      have hp := hIP _ (getD_mem' (L := P) (d := emS) (i := 1 + i) (by omega))
      refine (f4 (1 + i) (by omega)).congr hp.1 hR hp.2 (fun x hx => ?_)
      show s 67 0 _ = τ 67 0 _
      rw [h2 _ (Nat.mod_lt _ (by omega)) (by omega) x hx, wr_c (by decide)]
  · rw [if_neg e] at hl
    rw [if_neg (by rw [e40]; exact e), pn_add1, st_eq]
    have g17 : wr τ 10 0 18 (nI (P.length + 1)) 10 0 17 = nI fi := by rw [wr_i (by decide)]; exact f2
    have g18 : wr τ 10 0 18 (nI (P.length + 1)) 10 0 18 = nI (P.length + 1) := wr_same _ _ _ _ _
    refine hit_mono (m_remJ (P := P) f1 (by omega) (by omega) g17 g18 (by rw [wr_c (by decide)]; exact hS) hIS hR) ?_
    rintro r s ⟨h1, h2, h3⟩
    have s10 : s 10 0 = wr τ 10 0 18 (nI (P.length + 1)) 10 0 := h3 10 0 (by decide)
    rw [show P.length + 1 - 1 = P.length by omega] at h1 h2
    refine ⟨⟨fi, f1, by rw [s10]; exact g17, by rw [s10, hl]; exact g18, fun i hi => ?_⟩, fun i h17 h18 => by rw [s10, wr_i h18], fun c k h67 h10 => (h3 c k h67).trans (wrR_ne _ _ _ _ h10)⟩
    rw [hl] at hi
    unfold pushP
    rw [if_neg e]
    by_cases ei : i = P.length
    · have eg : (P ++ [S]).getD i emS = S := by rw [ei]; exact getD_app_eq
      rw [eg, ei]
      exact h1
    · rw [getD_app_lt (by omega)]
      have hp := hIP _ (getD_mem' (L := P) (d := emS) (i := i) (by omega))
      refine (f4 i (by omega)).congr hp.1 hR hp.2 (fun x hx => ?_)
      show s 67 0 _ = τ 67 0 _
      rw [h2 _ (Nat.mod_lt _ (by omega)) (by omega) x hx, wr_c (by decide)]
