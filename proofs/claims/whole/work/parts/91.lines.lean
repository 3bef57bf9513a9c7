/-! lines: add, take away, set -/
theorem pn_bcp2 {β : Type} {a b n m k : Nat} {x : Option β} (h1 : a + n ≤ m) (h2 : b + n ≤ k) (hm : m < 2147483648) (hk : k < 2147483648) : bcp (nI a) (nI b) (nI n) m k x = x := by
  unfold bcp
  refine if_neg (fun h => ?_)
  have e1 : ix (nI n) = n := pn_ix (by omega)
  have e2 : ix (nI a) = a := pn_ix (by omega)
  have e3 : ix (nI b) = b := pn_ix (by omega)
  rw [e1, e2, e3] at h
  rcases h with h | h | h | h | h
  · exact nI_pos (by omega) h
  · exact nI_pos (by omega) h
  · exact nI_pos (by omega) h
  · omega
  · omega
def addL (m : Nat) (xs : List Int32) (x : Int32) : List Int32 := (if xs.length = m then xs.drop 1 else xs) ++ [x]
theorem getD_app_lt {α : Type} {L M : List α} {d : α} {i : Nat} (hi : i < L.length) : (L ++ M).getD i d = L.getD i d := by
  rw [List.getD_eq_getElem?_getD, List.getD_eq_getElem?_getD, List.getElem?_append_left hi]
theorem getD_app_eq {α : Type} {L : List α} {d x : α} : (L ++ [x]).getD L.length d = x := by
  rw [List.getD_eq_getElem?_getD, List.getElem?_append_right (Nat.le_refl _), Nat.sub_self]
  rfl
theorem getD_drop {α : Type} {L : List α} {d : α} {k i : Nat} : (L.drop k).getD i d = L.getD (k + i) d := by
  rw [List.getD_eq_getElem?_getD, List.getD_eq_getElem?_getD, List.getElem?_drop]
theorem lnLen_pos (k : Nat) : 40 ≤ lnLen k := by unfold lnLen; split <;> (try split) <;> (try split) <;> omega
theorem l_addJ {σ : rS} {k : Nat} {xs : List Int32} (h : Ln σ k xs) (hl : xs.length < lnLen k) (x : Int32) : hit (fX4_add_j39 k x σ) (fun _ s => Ln s k (xs ++ [x])) := by
  have h80 := lnLen_le k
  unfold fX4_add_j39
  rw [h.1]
  have e : wr σ 28 k xs.length x 4 k 1 = nI xs.length := by rw [wr_c (by decide)]; exact h.1
  simp (disch := omega) only [pn_lt, pn_neg, pn_eq, pn_eq0, pn_eq1, pn_eq2, pn_m1, pn_m1', pn_m1lt, pn_ix, pn_bnd, pn_add1, pn_add3, pn_mul4, nI_add, bd_some, st_eq, rd_eq, if_true, if_false, ite_true, ite_false, reduceIte, e]
  refine hit_some ⟨?_, by rw [List.length_append]; exact hl, fun i hi => ?_⟩
  · rw [wr_same, List.length_append]; rfl
  · rw [List.length_append] at hi
    have l1 : [x].length = 1 := rfl
    rw [wr_c (by decide)]
    by_cases ei : i = xs.length
    · subst ei; rw [wr_same, getD_app_eq]
    · rw [wr_i ei, getD_app_lt (by omega)]; exact h.2.2 i (by omega)
theorem l_add {σ : rS} {k : Nat} {xs : List Int32} (h : Ln σ k xs) (x : Int32) : hit (fX4_add k x σ) (fun _ s => Ln s k (addL (lnLen k) xs x)) := by
  have h80 := lnLen_le k
  have h40 := lnLen_pos k
  have hx := h.2.1
  unfold fX4_add addL
  rw [h.1]
  simp (disch := omega) only [pn_eq]
  by_cases hf : xs.length = lnLen k
  · rw [if_pos hf, if_pos hf, st_eq, wr_same, pn_sub1 (by omega)]
    have eb : ∀ y : Option (Int32 × rS), bcp 1 0 (nI (xs.length - 1)) (lnLen k) (lnLen k) y = y := fun y => pn_bcp2 (a := 1) (b := 0) (by omega) (by omega) (by omega) (by omega)
    rw [eb, st_eq]
    refine l_addJ ⟨?_, by rw [List.length_drop]; omega, fun i hi => ?_⟩ (by rw [List.length_drop]; omega) x
    · rw [wrR_c (by decide), wr_same, List.length_drop]
    · rw [List.length_drop] at hi
      rw [wrR_eq, show ix (nI (xs.length - 1)) = xs.length - 1 from pn_ix (by omega), wr_c (by decide), getD_drop]
      show (if 0 ≤ i ∧ i < 0 + (xs.length - 1) then σ 28 k (1 + (i - 0)) else σ 28 k i) = _
      rw [if_pos (by omega), show 1 + (i - 0) = 1 + i by omega]
      exact h.2.2 (1 + i) (by omega)
  · rw [if_neg hf, if_neg hf]
    exact l_addJ h (by omega) x
theorem l_rem0 {σ : rS} {k : Nat} {x : Int32} {xs : List Int32} (h : Ln σ k (x :: xs)) : hit (fX4_removeAt k 0 σ) (fun _ s => Ln s k xs) := by
  have h80 := lnLen_le k
  have hx := h.2.1
  have lc : (x :: xs).length = xs.length + 1 := rfl
  unfold fX4_removeAt
  rw [h.1, if_neg (by decide), if_pos (show (0 : Int32) < nI (x :: xs).length by show nI 0 < _; rw [pn_lt (by omega) (by omega)]; omega), st_eq, wr_same, pn_sub1 (by omega), lc, show xs.length + 1 - 1 = xs.length by omega]
  have e0 : nI xs.length - 0 = nI xs.length := pn_sub (b := 0) (by omega)
  have eb : ∀ y : Option (Int32 × rS), bcp (0 + 1) 0 (nI xs.length) (lnLen k) (lnLen k) y = y := fun y => pn_bcp2 (a := 1) (b := 0) (by omega) (by omega) (by omega) (by omega)
  rw [e0, eb, st_eq]
  refine hit_some ⟨?_, by omega, fun i hi => ?_⟩
  · rw [wrR_c (by decide), wr_same]
  · rw [wrR_eq, show ix (nI xs.length) = xs.length from pn_ix (by omega), wr_c (by decide)]
    show (if 0 ≤ i ∧ i < 0 + xs.length then σ 28 k (1 + (i - 0)) else σ 28 k i) = _
    rw [if_pos (by omega), show 1 + (i - 0) = i + 1 by omega, h.2.2 (i + 1) (by omega)]
    rfl
