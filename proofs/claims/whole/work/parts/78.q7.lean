/-! most, thing -/
noncomputable def aMost (W : Wd) (x : Int32) : Int32 := if wh W = false then -1000000 else match inB x 16 with
  | none => -1000000
  | some i => if i < 3 then nI (usedA (wS W).1 i) else if i = 3 then nI (hn (wS W).1) else if i = 4 then nI (reachQ (wS W).1 (-1)).length else if i < 13 then htl (wS W).1 (i - 5) else if i = 13 then acc (uAge (wS W).1) (hn (wS W).1) 0 0 else if i = 14 then acc (uLnk (wS W).1) 8 0 0 else hfl (wS W).1
theorem pn_lit {a b : Nat} (ha : a < 2147483648) (hb : b < 2147483648) {y : Int32} (e : y = nI b) : (nI a = y) = (a = b) := by rw [e]; exact pn_eq ha hb
theorem pn_litl {a b : Nat} (ha : a < 2147483648) (hb : b < 2147483648) {y : Int32} (e : y = nI b) : (nI a < y) = (a < b) := by rw [e]; exact pn_lt ha hb
theorem c_most {x : Int32} {σ : rS} {W : Wd} {b : Nat} (hC : CW σ W) (hI : InvW b W) : hit (fX9_most x σ) (fun r s => r = aMost W x ∧ CW s W) := by
  have w := hI.ok
  unfold fX9_most aMost
  rw [hC.hif]
  by_cases hh : wh W = false
  · rw [if_pos hh, if_pos hh]; exact hit_some ⟨rfl, hC⟩
  · rw [if_neg hh, if_neg hh]
    have := c_in' x (b := 15) (by omega) (if x < 3 then (bnd x 3 (some (σ 54 0 (ix x), σ))) else (if x < 5 then (fX9_most_j58 x σ) else (if x < 13 then (bnd (x - 5) 8 (some (σ 55 0 (ix (x - 5)), σ))) else (fX9_most_j58 x σ)))) (some (-1000000, σ))
    have : (if x < 0 then _ else if 15 < x then _ else _) = _ := this
    rw [this]
    rcases inB_cases x (b := 16) (by omega) with ⟨i, h, rfl, e⟩ | ⟨e, -⟩
    · rw [e]
      unfold fX9_most_j58
      simp only [pn_litl (a := i) (b := 3) (y := 3) (by omega) (by omega) rfl, pn_litl (a := i) (b := 5) (y := 5) (by omega) (by omega) rfl, pn_litl (a := i) (b := 13) (y := 13) (by omega) (by omega) rfl, pn_lit (a := i) (b := 3) (y := 3) (by omega) (by omega) rfl, pn_lit (a := i) (b := 4) (y := 4) (by omega) (by omega) rfl, pn_lit (a := i) (b := 13) (y := 13) (by omega) (by omega) rfl, pn_lit (a := i) (b := 14) (y := 14) (by omega) (by omega) rfl]
      by_cases h3 : i < 3
      · simp only [if_pos h3]
        simp (disch := omega) only [pn_lt, pn_neg, pn_eq, pn_eq0, pn_eq1, pn_eq2, pn_m1, pn_m1', pn_m1lt, pn_ix, pn_bnd, pn_add1, pn_add3, pn_mul4, nI_add, bd_some, st_eq, rd_eq, if_true, if_false, ite_true, ite_false, reduceIte, hC.A.us h3]
        exact hit_some ⟨rfl, hC⟩
      · simp only [if_neg h3]
        by_cases h5 : i < 5
        · rw [if_pos h5]
          by_cases e3 : i = 3
          · simp only [if_pos e3]
            rw [hC.A.n]
            exact hit_some ⟨rfl, hC⟩
          · have e4 : i = 4 := by omega
            simp only [if_neg e3, if_pos e4]
            unfold fX9_reachedCount
            refine bd_hit (bd_hit (hit_mono (c_reachW hC hI (-1)) ?_))
            rintro r s ⟨hC2, hG⟩
            have hg := hG.2.2.1
            rw [reachA_1] at hg
            rw [hg]
            exact hit_some (hit_some ⟨rfl, hC2⟩)
        · rw [if_neg h5]
          simp only [if_neg (show ¬ i = 3 by omega), if_neg (show ¬ i = 4 by omega)]
          by_cases h13 : i < 13
          · have e5 : nI i - 5 = nI (i - 5) := pn_sub (b := 5) (by omega)
            simp only [if_pos h13]
            rw [e5]
            simp (disch := omega) only [pn_lt, pn_neg, pn_eq, pn_eq0, pn_eq1, pn_eq2, pn_m1, pn_m1', pn_m1lt, pn_ix, pn_bnd, pn_add1, pn_add3, pn_mul4, nI_add, bd_some, st_eq, rd_eq, if_true, if_false, ite_true, ite_false, reduceIte, hC.A.tl (show i - 5 < 8 by omega)]
            exact hit_some ⟨rfl, hC⟩
          · simp only [if_neg h13]
            by_cases e13 : i = 13
            · simp only [if_pos e13]
              rw [c_age hC.A w, bd_some]
              exact hit_some ⟨rfl, hC⟩
            · simp only [if_neg e13]
              by_cases e14 : i = 14
              · simp only [if_pos e14]
                rw [c_lnk hC.A w, bd_some]
                exact hit_some ⟨rfl, hC⟩
              · simp only [if_neg e14]
                rw [hC.A.fl]
                exact hit_some ⟨rfl, hC⟩
    · rw [e]; exact hit_some ⟨rfl, hC⟩
theorem m_most {x : Int32} {σ : rS} {W : Wd} {b : Nat} (hM : MW σ W) (hI : InvW b W) : hit (fX10_most x σ) (fun r s => r = aMost W x ∧ MW s W) := by
  have w := hI.ok
  have hs := hM.t0 0
  unfold fX10_most aMost
  rw [st_eq, hs.hif]
  by_cases hh : wh W = false
  · rw [if_pos hh, if_pos hh]; exact hit_some ⟨rfl, hs⟩
  · rw [if_neg hh, if_neg hh, show (5 : Int64) = (nI 5).toInt64 by decide, show (12 : Int64) = (nI 12).toInt64 by decide]
    rcases inB_cases x (b := 16) (by omega) with ⟨i, h, rfl, e⟩ | ⟨e, hx⟩
    · rw [e]
      simp only [pn_lit (a := i) (b := 0) (y := 0) (by omega) (by omega) rfl, pn_lit (a := i) (b := 1) (y := 1) (by omega) (by omega) rfl, pn_lit (a := i) (b := 2) (y := 2) (by omega) (by omega) rfl, pn_lit (a := i) (b := 3) (y := 3) (by omega) (by omega) rfl, pn_lit (a := i) (b := 4) (y := 4) (by omega) (by omega) rfl, pn_lit (a := i) (b := 13) (y := 13) (by omega) (by omega) rfl, pn_lit (a := i) (b := 14) (y := 14) (by omega) (by omega) rfl, pn_lit (a := i) (b := 15) (y := 15) (by omega) (by omega) rfl]
      rw [m_cellsIn w hs.A (by omega)]
      simp only [bd_some]
      by_cases h3 : i < 3
      · simp only [if_pos h3]
        by_cases e0 : i = 0
        · rw [if_pos e0]; exact hit_some ⟨rfl, hs⟩
        · rw [if_neg e0]
          by_cases e1 : i = 1
          · rw [if_pos e1]; exact hit_some ⟨rfl, hs⟩
          · rw [if_neg e1, if_pos (show i = 2 by omega)]; exact hit_some ⟨rfl, hs⟩
      · simp only [if_neg h3, if_neg (show ¬ i = 0 by omega), if_neg (show ¬ i = 1 by omega), if_neg (show ¬ i = 2 by omega)]
        by_cases e3 : i = 3
        · simp only [if_pos e3]
          have e0 : wr σ 10 0 0 0 66 0 (ix 0) = nI (hn (wS W).1) := hs.A.n
          rw [e0]
          exact hit_some ⟨rfl, hs⟩
        · simp only [if_neg e3]
          by_cases e4 : i = 4
          · simp only [if_pos e4]
            unfold fX10_reached
            refine bd_hit (bd_hit (hit_mono (m_reachW hs hI (-1)) ?_))
            rintro r s ⟨hM2, hG⟩
            rw [hG.2.2.1]
            exact hit_some (hit_some ⟨rfl, hM2⟩)
          · simp only [if_neg e4]
            by_cases h13 : i < 13
            · simp only [if_pos h13, if_neg (show ¬ i = 13 by omega), if_neg (show ¬ i = 14 by omega), if_neg (show ¬ i = 15 by omega)]
              have e5 : (1364 : Int32) + nI i - 5 = nI (1364 + (i - 5)) := by
                have h1 : (1364 : Int32) + nI i = nI (1364 + i) := nI_add 1364 i
                have h2 : nI (1364 + i) - 5 = nI (1364 + i - 5) := pn_sub (b := 5) (by omega)
                rw [h1, h2]
                congr 1
                omega
              rw [e_isIn, if_neg (by rw [pn_lt (by omega) (by omega)]; omega), if_neg (by rw [pn_lt (by omega) (by omega)]; omega), bd_some, if_neg one_ne, e5]
              simp (disch := omega) only [pn_lt, pn_neg, pn_eq, pn_eq0, pn_eq1, pn_eq2, pn_m1, pn_m1', pn_m1lt, pn_ix, pn_bnd, pn_add1, pn_add3, pn_mul4, nI_add, bd_some, st_eq, rd_eq, if_true, if_false, ite_true, ite_false, reduceIte, hs.A.tl (show i - 5 < 8 by omega)]
              exact hit_some ⟨rfl, hs⟩
            · simp only [if_neg h13]
              by_cases e13 : i = 13
              · simp only [if_pos e13]
                rw [m_age hs.A w, bd_some]
                exact hit_some ⟨rfl, hs⟩
              · simp only [if_neg e13]
                by_cases e14 : i = 14
                · simp only [if_pos e14]
                  rw [m_lnk hs.A w, bd_some]
                  exact hit_some ⟨rfl, hs⟩
                · simp only [if_neg e14, if_pos (show i = 15 by omega)]
                  have e0 : wr σ 10 0 0 0 66 0 (ix 1372) = _ := hs.A.fl
                  rw [e0]
                  exact hit_some ⟨rfl, hs⟩
    · have hne : ∀ j, j < 16 → ¬ x = nI j := fun j hj ej => by
        rcases hx with hx | ⟨i, h1, h2, rfl⟩
        · exact neg_ne hx (by omega) ej
        · rw [pn_eq (by omega) (by omega)] at ej
          omega
      rw [e, if_neg (show ¬ x = 0 from hne 0 (by omega)), if_neg (show ¬ x = 1 from hne 1 (by omega)), if_neg (show ¬ x = 2 from hne 2 (by omega)), if_neg (show ¬ x = 3 from hne 3 (by omega)), if_neg (show ¬ x = 4 from hne 4 (by omega)), if_neg (show ¬ x = 13 from hne 13 (by omega)), if_neg (show ¬ x = 14 from hne 14 (by omega)), if_neg (show ¬ x = 15 from hne 15 (by omega)), e_isIn]
      have e2 : (if x < nI 5 then (0 : Int32) else if nI 12 < x then 0 else 1) = 0 := by
        rcases hx with hx | ⟨i, h1, h2, rfl⟩
        · rw [if_pos (neg_lt hx (nI_pos (by omega)))]
        · rw [if_neg (by rw [pn_lt (by omega) (by omega)]; omega), if_pos (by rw [pn_lt (by omega) (by omega)]; omega)]
      rw [e2, bd_some, if_pos rfl]
      exact hit_some ⟨rfl, hs⟩
theorem pl_35 {xs : Nat → Int32} {n : Nat} {σ : rS} {W : Wd} (hC : CW σ W) (hM : MW σ W) (hI : InvW (40 * n) W) : PL_35 xs n σ (IW (n + 1)) := pl_w hM hI (frX9_most _ _) (isC_of (by decide)) (fun s => frX10_most _ s) (isM_of (by decide)) (c_most hC hI) (fun _ hs => m_most hs hI)
def aThg (A : Hp) (j f : Nat) : Int32 := if f = 0 then nI (hsp A j) else if f = 1 then nI (hpl A j) else if f = 2 then hkd A j else if f = 3 then nI (hsz A j) else if f = 4 then hdt A j else if f = 5 then hag A j else if f = 6 then (if j ∈ reachQ A (-1) then 1 else 0) else if j ∈ hen A then 1 else 0
theorem Ln.find {σ : rS} {k : Nat} {xs : List Int32} (h : Ln σ k xs) (x : Int32) : fX4_find k x σ = some (enc (fst1 (fun i => decide (xs.getD i 0 = x)) xs.length 0), σ) := by
  have hl := h.2.1
  have hll := lnLen_le k
  unfold fX4_find
  have e := lp_find (step := fun x2 σ => fX4_find_L2 k x x2 σ) (p := fun i => decide (xs.getD i 0 = x)) (n := xs.length) (σ := σ) (by omega)
    (fun i hi hp => by
      have hp : xs.getD i 0 = x := of_decide_eq_true hp
      unfold fX4_find_L2
      simp (disch := omega) only [h.1, pn_lt, pn_neg, pn_eq, pn_eq0, pn_eq1, pn_eq2, pn_m1, pn_m1', pn_m1lt, pn_ix, pn_bnd, pn_add1, pn_add3, pn_mul4, nI_add, bd_some, st_eq, rd_eq, if_true, if_false, ite_true, ite_false, reduceIte, hi, h.2.2 i hi, hp])
    (fun i hi hp => by
      have hp : ¬ xs.getD i 0 = x := of_decide_eq_false hp
      unfold fX4_find_L2
      simp (disch := omega) only [h.1, pn_lt, pn_neg, pn_eq, pn_eq0, pn_eq1, pn_eq2, pn_m1, pn_m1', pn_m1lt, pn_ix, pn_bnd, pn_add1, pn_add3, pn_mul4, nI_add, bd_some, st_eq, rd_eq, if_true, if_false, ite_true, ite_false, reduceIte, hi, h.2.2 i hi, hp])
    (by
      unfold fX4_find_L2
      simp (disch := omega) only [h.1, pn_lt, pn_neg, pn_eq, pn_eq0, pn_eq1, pn_eq2, pn_m1, pn_m1', pn_m1lt, pn_ix, pn_bnd, pn_add1, pn_add3, pn_mul4, nI_add, bd_some, st_eq, rd_eq, if_true, if_false, ite_true, ite_false, reduceIte, Nat.lt_irrefl]) fu 0 (Nat.zero_le _) (by have := fu_ge; omega)
  have e : lp (fun x2 σ => fX4_find_L2 k x x2 σ) fu 0 σ = _ := e
  rw [e, bd_some, Nat.sub_zero]
  cases fst1 (fun i => decide (xs.getD i 0 = x)) xs.length 0 <;> rfl
theorem fst1_mem {α : Type} {xs : List α} {d : α} {p : α → Bool} : (fst1 (fun i => p (xs.getD i d)) xs.length 0).isSome = xs.any p := by
  cases h : fst1 (fun i => p (xs.getD i d)) xs.length 0 with
  | none =>
    symm
    rw [Option.isSome_none, List.any_eq_false]
    intro x hx
    obtain ⟨i, hi, rfl⟩ := List.mem_iff_getElem.mp hx
    have := fst1_none h i (by omega) (by omega)
    rw [List.getD_eq_getElem?_getD, List.getElem?_eq_getElem hi] at this
    simpa using this
  | some j =>
    obtain ⟨h1, h2, h3, -⟩ := fst1_some h
    symm
    rw [Option.isSome_some, List.any_eq_true]
    exact ⟨_, getD_mem' (by omega), h3⟩
theorem c_holdsEnd {σ : rS} {k : Nat} {A : Hp} {j : Nat} (h : CR σ k A) (w : OK A) (hj : j < hn A) : fX4_holds (6 * k + 0) (nI j) σ = some (if j ∈ hen A then 1 else 0, σ) := by
  have hw := w.n
  unfold fX4_holds
  have e : fX4_find (6 * k + 0) (nI j) σ = _ := h.en.find (nI j)
  rw [e, bd_some]
  have e2 := fst1_mem (xs := (hen A).map nI) (d := 0) (p := fun y => decide (y = nI j))
  have e3 : ((hen A).map nI).any (fun y => decide (y = nI j)) = decide (j ∈ hen A) := by
    by_cases hm : j ∈ hen A
    · rw [decide_eq_true hm, List.any_eq_true]
      exact ⟨nI j, List.mem_map.mpr ⟨j, hm, rfl⟩, decide_eq_true rfl⟩
    · rw [decide_eq_false hm, List.any_eq_false]
      intro x hx
      obtain ⟨i, hi, rfl⟩ := List.mem_map.mp hx
      have hi2 := w.en hi
      intro hd
      have := of_decide_eq_true hd
      rw [pn_eq (by omega) (by omega)] at this
      exact hm (this ▸ hi)
  rw [e3] at e2
  cases hf : fst1 (fun i => decide (((hen A).map nI).getD i 0 = nI j)) ((hen A).map nI).length 0 with
  | none =>
    rw [hf, Option.isSome_none] at e2
    rw [enc_none, if_pos rfl, if_neg (of_decide_eq_false e2.symm)]
  | some q =>
    rw [hf, Option.isSome_some] at e2
    have hq := (fst1_some hf).2.1
    have hll := lnLen_le (6 * k)
    have hl := h.en.2.1
    rw [enc_some, if_neg (by rw [pn_m1 (by omega)]; exact id), if_pos (of_decide_eq_true e2.symm)]
