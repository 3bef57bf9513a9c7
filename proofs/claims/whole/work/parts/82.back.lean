/-! back, undo -/
theorem pn_mod {a m : Nat} (ha : a < 2147483648) (hm : m < 2147483648) : nI a - nI a / nI m * nI m = nI (a % m) := by
  have e : nI (a / m) * nI m = nI (a / m * m) := (Int32.ofNat_mul (a / m) m).symm
  have h1 : a / m * m ≤ a := Nat.div_mul_le_self a m
  rw [pn_div ha hm, e, pn_sub h1]
  congr 1
  have := Nat.mod_add_div a m
  rw [Nat.mul_comm] at this
  omega
theorem CS.wr {s : rS} {k c k' i : Nat} {v : Int32} {S : Sta} (h : CS s k S) (hc : ¬ c = 7 ∧ ¬ c = 4 ∧ ¬ c = 28 ∧ ¬ (45 ≤ c ∧ c < 56)) : CS (wr s c k' i v) k S := h.of_eq (by rw [wr_c (by omega)]) (fun c' h1 h2 => by rw [wr_c (by omega)]) (fun j _ => ⟨by rw [wr_c (by omega)], by rw [wr_c (by omega)]⟩)
theorem pl_37 {xs : Nat → Int32} {n : Nat} {σ : rS} {W : Wd} (hC : CW σ W) (hM : MW σ W) (hI : InvW (40 * n) W) : PL_37 xs n σ (IW (n + 1)) := by
  have hR2 : wR W 2 ≤ 128 := hI.2.2.2.1.2.2.1
  unfold PL_37
  by_cases hg : wg W = false
  · exact pl_q (fc := fun σ => fX9_back σ) (fm := fun σ => fX10_back σ) hC hM hI (a := -1) (by
      unfold fX9_back
      rw [hC.hif, hC.gif, if_pos hg]
      split <;> rfl) (fun s hs => by unfold fX10_back; rw [st_eq, (hs.t0 0).gif, if_pos hg])
  · have hgt : wg W = true := by simpa using hg
    have hht := hI.2.2.2.2.1 hgt
    have hh : ¬ wh W = false := by rw [hht]; decide
    obtain ⟨hIi, hIl⟩ := hI.2.1 hgt
    have w := hIi.ok
    refine pl_mk (fc := fun σ => fX9_back σ) (fm := fun σ => fX10_back σ) (W' := setW W (wI W) (wI W) [] true) (a := cellsA (wI W).1) hM ?_ (frX9_back _) (isC_of (by decide)) (fun s hs => ?_) (fun s => frX10_back s) (isM_of (by decide)) (hI.next.re (hI.next.2.1 hgt) (fun _ => hI.next.2.1 hgt) ⟨by decide, fun S hS => (List.not_mem_nil hS).elim⟩ (fun _ => hht))
    · have hS1 := hC.2.1 hgt
      unfold fX9_back
      rw [hC.hif, if_neg hh, hC.gif, if_neg hg]
      refine bd_hit (hit_mono (hit_fk (fkX7_copyFrom 0 1 σ) (hit_fr (frX7_copyFrom 0 1 σ) (c_copy w (by decide) hS1))) ?_)
      rintro r s ⟨hk, hf, hS⟩
      have h1 : CS s 1 (wI W) := hS1.fk hk (by decide)
      have g0 : CS (wr s 5 0 2 0) 0 (wI W) := hS.wr (by decide)
      have g1 : CS (wr s 5 0 2 0) 1 (wI W) := h1.wr (by decide)
      rw [st_eq, c_cellsInUse g0.1, bd_some]
      obtain ⟨nx, n1, n2, -, -⟩ := hC.2.2.1
      refine hit_some ⟨rfl, hC.re (fun c hc => ?_) ?_ ?_ ?_ g0 (fun _ => g1) ⟨nx, n1, ?_, wr_same _ _ _ _ _, fun i hi => absurd hi (Nat.not_lt_zero _)⟩⟩
      · revert c
        simp only [List.mem_cons, List.not_mem_nil, or_false]
        rintro c (rfl | rfl | rfl | rfl | rfl | rfl) <;> (rw [wr_c (by decide)]; exact hf _ (by decide))
      · rw [wr_c (by decide), hf 9 (by decide)]
      · rw [wr_c (by decide), hf 9 (by decide)]
      · rw [wr_c (by decide), hf 9 (by decide), hC.g, hgt]
      · rw [wr_i (by decide), hf 5 (by decide)]; exact n2
    · have ht := hs.t0 0
      have hS1 := ht.2.1 hgt
      unfold fX10_back
      rw [st_eq, ht.gif, if_neg hg]
      have hcp := m_copyRow (τ := wr s 10 0 0 0) (c0 := 66) (k0 := 3) (n0 := 1554) (a := 0) (c2 := 66) (k2 := 0) (n2 := 1554) (b := 0) (by omega) (by omega) (by omega) (by omega) (by decide)
      refine bd_hit (hit_mono hcp ?_)
      rintro r t ⟨h1, -, h3⟩
      have e10 : ∀ c, ¬ c = 10 → wr t 10 0 18 0 c = t c := fun c hc => wr_c hc
      have t10 : t 10 0 = wr s 10 0 0 0 10 0 := h3 10 0 (by decide)
      have g0 : MS (wr t 10 0 18 0 66 0) (wI W) := by
        rw [e10 66 (by decide)]
        exact hS1.congr hIi hR2 hIl (fun i hi => by have := h1 i hi; rw [Nat.zero_add] at this; exact this)
      have g1 : MS (wr t 10 0 18 0 66 3) (wI W) := by rw [e10 66 (by decide), h3 66 3 (by decide)]; exact hS1
      rw [st_eq, m_cells w g0.1, bd_some]
      have eo : ∀ c, ¬ c = 66 → ¬ c = 10 → wr t 10 0 18 0 c = wr s 10 0 0 0 c := fun c h6 h10 => by
        rw [e10 c h10]
        funext k
        exact h3 c k (fun z => h6 z.1)
      obtain ⟨fi, f1, f2, -, -⟩ := ht.2.2.1
      refine hit_some ⟨rfl, ht.re (fun c hc => ?_) ?_ ?_ ?_ ?_ g0 (fun _ => g1) ⟨fi, f1, ?_, wr_same _ _ _ _ _, fun i hi => absurd hi (Nat.not_lt_zero _)⟩⟩
      · revert c
        simp only [List.mem_cons, List.not_mem_nil, or_false]
        rintro c (rfl | rfl | rfl | rfl | rfl) <;> exact eo _ (by decide) (by decide)
      · rw [wr_i (by decide), t10]
      · rw [wr_i (by decide), t10]
      · rw [wr_i (by decide), t10]
      · rw [wr_i (by decide), t10, ht.g, hgt]
      · rw [wr_i (by decide), t10]; exact f2
theorem snoc {α : Type} {L : List α} (h : ¬ L.length = 0) (d : α) : L = L.dropLast ++ [L.getD (L.length - 1) d] := by
  have hne : L ≠ [] := fun e => h (by rw [e]; rfl)
  conv => lhs; rw [← List.dropLast_concat_getLast hne]
  congr 2
  rw [List.getLast_eq_getElem, List.getD_eq_getElem?_getD, List.getElem?_eq_getElem (by omega)]
  rfl
theorem getD_dropLast {α : Type} {L : List α} {d : α} {i : Nat} (hi : i < L.length - 1) : L.dropLast.getD i d = L.getD i d := by
  rw [List.getD_eq_getElem?_getD, List.getD_eq_getElem?_getD, List.getElem?_dropLast, if_pos hi]
theorem pl_19 {xs : Nat → Int32} {n : Nat} {σ : rS} {W : Wd} (hC : CW σ W) (hM : MW σ W) (hI : InvW (40 * n) W) : PL_19 xs n σ (IW (n + 1)) := by
  have hR2 : wR W 2 ≤ 128 := hI.2.2.2.1.2.2.1
  have h40 := hI.2.2.1.1
  unfold PL_19
  obtain ⟨nx, n1, n2, n3, n4⟩ := hC.2.2.1
  have e41 : ((σ 5 0 1) + 41) - 1 = nI (nx + 40) := by
    have h1 : nI nx + 41 = nI (nx + 41) := nI_add nx 41
    rw [n2, h1, pn_sub1 (by omega)]
    rfl
  have ey : (((σ 5 0 1) + 41) - 1) - (((σ 5 0 1) + 41) - 1) / 41 * 41 = nI ((nx + 40) % 41) := by
    rw [e41]
    exact pn_mod (m := 41) (by omega) (by omega)
  by_cases hl : (wP W).length = 0
  · refine pl_q (fc := fun σ => fX9_undo σ) (fm := fun σ => fX10_undo σ) hC hM hI (a := -1) ?_ (fun s hs => ?_)
    · unfold fX9_undo fX5_takeBack
      rw [ey, rd_eq, n3, if_pos (by rw [hl]; rfl), bd_some, if_pos rfl]
    · unfold fX10_undo
      rw [st_eq, (hs.t0 0).pl, if_pos (by rw [hl]; rfl)]
  · have hlast := n4 ((wP W).length - 1) (by omega)
    have ei : (nx + 41 - (wP W).length + ((wP W).length - 1)) % 41 = (nx + 40) % 41 := by congr 1; omega
    rw [ei] at hlast
    have hmem : (wP W).getD ((wP W).length - 1) emS ∈ wP W := getD_mem' (by omega)
    obtain ⟨hIs, hIl⟩ := hI.2.2.1.2 _ hmem
    have w := hIs.ok
    have eld : (wP W).dropLast.length = (wP W).length - 1 := List.length_dropLast
    have hlt : (nx + 40) % 41 < 41 := Nat.mod_lt _ (by omega)
    refine pl_mk (fc := fun σ => fX9_undo σ) (fm := fun σ => fX10_undo σ) (W' := setW W ((wP W).getD ((wP W).length - 1) emS) (wI W) (wP W).dropLast (wg W)) (a := nI ((wP W).length - 1)) hM ?_ (frX9_undo _) (isC_of (by decide)) (fun s hs => ?_) (fun s => frX10_undo s) (isM_of (by decide)) (hI.next.re (hI.next.2.2.1.2 _ hmem) hI.next.2.1 ⟨by omega, fun S hS => hI.next.2.2.1.2 S ((List.dropLast_sublist _).subset hS)⟩ hI.2.2.2.2.1)
    · unfold fX9_undo fX5_takeBack
      rw [ey, rd_eq, n3, if_neg (by rw [pn_eq0 (by omega)]; exact hl)]
      simp (disch := omega) only [pn_lt, pn_neg, pn_eq, pn_eq0, pn_eq1, pn_eq2, pn_m1, pn_m1', pn_m1lt, pn_ix, pn_bnd, pn_add1, pn_add3, pn_mul4, nI_add, bd_some, st_eq, rd_eq, if_true, if_false, ite_true, ite_false, reduceIte, if_neg hlast.1]
      refine bd_hit (bd_hit (hit_mono (hit_fk (fkX7_copyFrom 0 (4 + (nx + 40) % 41) σ) (hit_fr (frX7_copyFrom 0 (4 + (nx + 40) % 41) σ) (c_copy w (by omega) hlast.2))) ?_))
      rintro r s ⟨hk, hf, hS⟩
      have e1 : ∀ c, ¬ c = 5 → wr (wr s 5 0 1 (nI ((nx + 40) % 41))) 5 0 2 (wr s 5 0 1 (nI ((nx + 40) % 41)) 5 0 2 - 1) c = s c := fun c hc => by rw [wr_c hc, wr_c hc]
      have e2 : wr s 5 0 1 (nI ((nx + 40) % 41)) 5 0 2 = nI (wP W).length := by rw [wr_i (by decide), hf 5 (by decide)]; exact n3
      have mv : ∀ k S, CS s k S → CS (wr (wr s 5 0 1 (nI ((nx + 40) % 41))) 5 0 2 (wr s 5 0 1 (nI ((nx + 40) % 41)) 5 0 2 - 1)) k S := fun k S h => (h.wr (by decide)).wr (by decide)
      refine hit_some ?_
      rw [if_neg one_ne]
      refine hit_some ⟨?_, hC.re (fun c hc => ?_) ?_ ?_ ?_ (mv _ _ hS) (fun hg => mv _ _ ((hC.2.1 hg).fk hk (by decide))) ⟨(nx + 40) % 41, hlt, ?_, ?_, fun i hi => ?_⟩⟩
      · rw [wr_same, e2, pn_sub1 (by omega)]
      · revert c
        simp only [List.mem_cons, List.not_mem_nil, or_false]
        rintro c (rfl | rfl | rfl | rfl | rfl | rfl) <;> (rw [e1 _ (by decide)]; exact hf _ (by decide))
      · rw [e1 _ (by decide), hf 9 (by decide)]
      · rw [e1 _ (by decide), hf 9 (by decide)]
      · rw [e1 _ (by decide), hf 9 (by decide), hC.g]
      · rw [wr_i (by decide), wr_same]
      · rw [wr_same, e2, pn_sub1 (by omega), eld]
      · rw [eld] at hi ⊢
        have ej : ((nx + 40) % 41 + 41 - ((wP W).length - 1) + i) % 41 = (nx + 41 - (wP W).length + i) % 41 := by omega
        rw [ej, getD_dropLast hi, e1 _ (by decide), hf 29 (by decide)]
        have := n4 i (by omega)
        exact ⟨this.1, mv _ _ (this.2.fk hk (by omega))⟩
    · have ht := hs.t0 0
      obtain ⟨fi, f1, f2, f3, f4⟩ := ht.2.2.1
      unfold fX10_undo
      rw [st_eq, f3, if_neg (by rw [pn_eq0 (by omega)]; exact hl), st_eq, pn_sub1 (by omega)]
      have e17 : wr (wr s 10 0 0 0) 10 0 18 (nI ((wP W).length - 1)) 10 0 17 = nI fi := by rw [wr_i (by decide)]; exact f2
      rw [e17, wr_same, nI_add]
      have em : nI (fi + ((wP W).length - 1)) - nI (fi + ((wP W).length - 1)) / 40 * 40 = nI ((fi + ((wP W).length - 1)) % 40) := pn_mod (m := 40) (by omega) (by omega)
      have e15 : (1554 : Int32) * nI ((fi + ((wP W).length - 1)) % 40) = nI (1554 * ((fi + ((wP W).length - 1)) % 40)) := (Int32.ofNat_mul 1554 _).symm
      rw [em, e15]
      have hm40 : (fi + ((wP W).length - 1)) % 40 < 40 := Nat.mod_lt _ (by omega)
      have hcp := m_copyRow (τ := wr (wr s 10 0 0 0) 10 0 18 (nI ((wP W).length - 1))) (c0 := 67) (k0 := 0) (n0 := 62160) (a := 1554 * ((fi + ((wP W).length - 1)) % 40)) (c2 := 66) (k2 := 0) (n2 := 1554) (b := 0) (by omega) (by omega) (by omega) (by omega) (by decide)
      refine bd_hit (hit_mono hcp ?_)
      rintro r t ⟨h1, -, h3⟩
      have t10 : t 10 0 = wr (wr s 10 0 0 0) 10 0 18 (nI ((wP W).length - 1)) 10 0 := h3 10 0 (by decide)
      have eo : ∀ c, ¬ c = 66 → ¬ c = 10 → t c = wr s 10 0 0 0 c := fun c h6 h10 => by
        funext k
        rw [h3 c k (fun z => h6 z.1), wr_c h10]
      have g0 : MS (t 66 0) ((wP W).getD ((wP W).length - 1) emS) := (f4 ((wP W).length - 1) (by omega)).congr hIs hR2 hIl (fun i hi => by
        have := h1 i hi
        rw [Nat.zero_add, wr_c (by decide)] at this
        exact this)
      refine hit_some ⟨?_, ht.re (fun c hc => ?_) ?_ ?_ ?_ ?_ g0 (fun hg => ?_) ⟨fi, f1, ?_, ?_, fun i hi => ?_⟩⟩
      · rw [t10, wr_same]
      · revert c
        simp only [List.mem_cons, List.not_mem_nil, or_false]
        rintro c (rfl | rfl | rfl | rfl | rfl) <;> exact eo _ (by decide) (by decide)
      · rw [t10, wr_i (by decide)]
      · rw [t10, wr_i (by decide)]
      · rw [t10, wr_i (by decide)]
      · rw [t10, wr_i (by decide), ht.g]
      · rw [h3 66 3 (by decide), wr_c (by decide)]; exact ht.2.1 hg
      · rw [t10, wr_i (by decide)]; exact f2
      · rw [t10, wr_same, eld]
      · rw [eld] at hi
        rw [getD_dropLast hi, eo 67 (by decide) (by decide)]
        exact f4 i (by omega)
