/-! questions that change nothing -/
theorem i32_cases (x : Int32) : x < 0 ∨ ∃ i, i < 2147483648 ∧ x = nI i := by
  by_cases h : x < 0
  · exact Or.inl h
  · refine Or.inr ⟨x.toInt.toNat, ?_, ?_⟩
    · have h1 := Int32.toInt_lt x
      have h2 : (0 : Int) ≤ x.toInt := by
        rw [Int32.lt_iff_toInt_lt] at h
        have e : (0 : Int32).toInt = 0 := by decide
        omega
      omega
    · have h2 : (0 : Int) ≤ x.toInt := by
        rw [Int32.lt_iff_toInt_lt] at h
        have e : (0 : Int32).toInt = 0 := by decide
        omega
      apply Int32.toInt_inj.mp
      have h1 := Int32.toInt_lt x
      rw [nI_toInt (by omega)]
      omega
theorem pn_ltl {a : Nat} {b : Nat} (ha : a < 2147483648) (hb : b < 2147483648) : (nI b < nI a) = (b < a) := pn_lt hb ha
theorem pl_q {fc fm : rS → Option (Int32 × rS)} {σ : rS} {W : Wd} {a : Int32} {n : Nat} (hC : CW σ W) (hM : MW σ W) (hI : InvW (40 * n) W) (hc : fc σ = some (a, σ)) (hm : ∀ s, MW s W → fm s = some (a, wr s 10 0 0 0)) : ∃ r σ1 σ2, fc σ = some (r, σ1) ∧ fm σ1 = some (r, σ2) ∧ IW (n + 1) σ2 :=
  ⟨a, σ, wr σ 10 0 0 0, hc, hm _ hM, W, hC.of_eq (fun c h => wr_c h.1), hM.t0 0, hI.next⟩
section Q
variable {σ : rS} {W : Wd} {k i : Nat}
theorem CW.S (h : CW σ W) : CS σ 0 (wS W) := h.1
theorem CW.A (h : CW σ W) : CR σ 0 (wS W).1 := h.1.1
theorem CW.R (h : CW σ W) (hi : i < 4) : σ 20 0 i = nI (wR W i) := h.2.2.2.1 i hi
theorem CW.h (h : CW σ W) : σ 9 0 6 = bI (wh W) := h.2.2.2.2.1
theorem CW.g (h : CW σ W) : σ 9 0 7 = bI (wg W) := h.2.2.2.2.2.1
theorem CW.tl (h : CW σ W) : σ 8 0 1 = nI (wT W).length := h.2.2.2.2.2.2.1.1
theorem CW.ti (h : CW σ W) (hi : i < (wT W).length) : σ 25 0 i = nI ((wT W).getD i 0) := h.2.2.2.2.2.2.1.2 i hi
theorem CW.cl (h : CW σ W) : σ 9 0 4 = nI (wC W).length := h.2.2.2.2.2.2.2.1.1
theorem CW.ci (h : CW σ W) (hi : i < (wC W).length) : σ 21 0 i = nI ((wC W).getD i noC).1 ∧ ∀ j, j < 5 * ((wC W).getD i noC).1 → σ 24 i j = ((wC W).getD i noC).2 j := h.2.2.2.2.2.2.2.1.2 i hi
theorem CW.z (h : CW σ W) (hi : i < 4) : σ 22 0 i = wZ W i := h.2.2.2.2.2.2.2.2 i hi
theorem CW.pl (h : CW σ W) : σ 5 0 2 = nI (wP W).length := by obtain ⟨nx, -, -, h3, -⟩ := h.2.2.1; exact h3
theorem MW.S (h : MW σ W) : MS (σ 66 0) (wS W) := h.1
theorem MW.A (h : MW σ W) : MR (σ 66 0) (wS W).1 := h.1.1
theorem MW.R (h : MW σ W) (hi : i < 4) : σ 62 0 i = nI (wR W i) := h.2.2.2.1 i hi
theorem MW.h (h : MW σ W) : σ 10 0 11 = bI (wh W) := h.2.2.2.2.1
theorem MW.g (h : MW σ W) : σ 10 0 19 = bI (wg W) := h.2.2.2.2.2.1
theorem MW.tl (h : MW σ W) : σ 10 0 2 = nI (wT W).length := h.2.2.2.2.2.2.1.1
theorem MW.cl (h : MW σ W) : σ 10 0 10 = nI (wC W).length := h.2.2.2.2.2.2.2.1.1
theorem MW.ci (h : MW σ W) (hi : i < (wC W).length) : σ 65 0 i = nI ((wC W).getD i noC).1 ∧ ∀ j, j < 5 * ((wC W).getD i noC).1 → σ 64 0 (80 * i + j) = ((wC W).getD i noC).2 j := h.2.2.2.2.2.2.2.1.2 i hi
theorem MW.z (h : MW σ W) (hi : i < 4) : σ 63 0 i = wZ W i := h.2.2.2.2.2.2.2.2 i hi
theorem MW.pl (h : MW σ W) : σ 10 0 18 = nI (wP W).length := by obtain ⟨fi, -, -, h3, -⟩ := h.2.2.1; exact h3
theorem InvW.A {b : Nat} (h : InvW b W) : Inv (wR W) b (wS W).1 := h.1.1
theorem InvW.ok {b : Nat} (h : InvW b W) : OK (wS W).1 := h.1.1.1
end Q
theorem CW.hif {σ : rS} {W : Wd} (h : CW σ W) {β : Type} {y z : β} : (if σ 9 0 6 = 0 then y else z) = if wh W = false then y else z := by
  rw [h.h]
  cases wh W <;> rfl
theorem CW.gif {σ : rS} {W : Wd} (h : CW σ W) {β : Type} {y z : β} : (if σ 9 0 7 = 0 then y else z) = if wg W = false then y else z := by
  rw [h.g]
  cases wg W <;> rfl
theorem MW.hif {σ : rS} {W : Wd} (h : MW σ W) {β : Type} {y z : β} : (if σ 10 0 11 = 0 then y else z) = if wh W = false then y else z := by
  rw [h.h]
  cases wh W <;> rfl
theorem MW.gif {σ : rS} {W : Wd} (h : MW σ W) {β : Type} {y z : β} : (if σ 10 0 19 = 0 then y else z) = if wg W = false then y else z := by
  rw [h.g]
  cases wg W <;> rfl
theorem neg_lt {x y : Int32} (hx : x < 0) (hy : ¬ y < 0) : x < y := by
  rw [Int32.lt_iff_toInt_lt] at hx hy ⊢
  have e : (0 : Int32).toInt = 0 := by decide
  omega
theorem neg_nlt {x y : Int32} (hx : x < 0) (hy : ¬ y < 0) : ¬ y < x := by
  rw [Int32.lt_iff_toInt_lt] at hx hy ⊢
  have e : (0 : Int32).toInt = 0 := by decide
  omega
theorem neg_ne {x : Int32} {i : Nat} (hx : x < 0) (hi : i < 2147483648) : ¬ x = nI i := fun e => nI_pos hi (e ▸ hx)
theorem e_in (x : Int32) (a b : Nat) (σ : rS) (hb : b < 2147483648) (ha : a ≤ b) : fX10_isIn x.toInt64 (nI a).toInt64 (nI b).toInt64 σ = some (if ∃ i, i ≤ b ∧ a ≤ i ∧ x = nI i then 1 else 0, σ) := by
  rw [e_isIn]
  rcases i32_cases x with hx | ⟨i, hi, rfl⟩
  · rw [if_pos (neg_lt hx (nI_pos (by omega))), if_neg (fun ⟨i, h1, _, h2⟩ => neg_ne hx (by omega) h2)]
  · by_cases h : a ≤ i ∧ i ≤ b
    · rw [if_neg (by rw [pn_lt (by omega) (by omega)]; omega), if_neg (by rw [pn_lt (by omega) (by omega)]; omega), if_pos ⟨i, h.2, h.1, rfl⟩]
    · have e : ¬ ∃ j, j ≤ b ∧ a ≤ j ∧ nI i = nI j := fun ⟨j, h1, h2, h3⟩ => by
        rw [pn_eq (by omega) (by omega)] at h3
        omega
      rw [if_neg e]
      by_cases h1 : i < a
      · rw [if_pos (by rw [pn_lt (by omega) (by omega)]; omega)]
      · rw [if_neg (by rw [pn_lt (by omega) (by omega)]; omega), if_pos (by rw [pn_lt (by omega) (by omega)]; omega)]
/-- a number below b, or none -/
def inB (x : Int32) (b : Nat) : Option Nat := if 0 ≤ x.toInt ∧ x.toInt < b then some x.toInt.toNat else none
theorem inB_nI {i b : Nat} (hi : i < 2147483648) : inB (nI i) b = if i < b then some i else none := by
  unfold inB
  rw [nI_toInt hi]
  by_cases h : i < b
  · rw [if_pos h, if_pos (by omega)]; rfl
  · rw [if_neg h, if_neg (by omega)]
theorem inB_neg {x : Int32} {b : Nat} (hx : x < 0) : inB x b = none := by
  unfold inB
  rw [Int32.lt_iff_toInt_lt] at hx
  have e : (0 : Int32).toInt = 0 := by decide
  rw [if_neg (by omega)]
theorem inB_cases (x : Int32) {b : Nat} (hb : b < 2147483648) : (∃ i, i < b ∧ x = nI i ∧ inB x b = some i) ∨ (inB x b = none ∧ (x < 0 ∨ ∃ i, b ≤ i ∧ i < 2147483648 ∧ x = nI i)) := by
  rcases i32_cases x with hx | ⟨i, hi, rfl⟩
  · exact Or.inr ⟨inB_neg hx, Or.inl hx⟩
  · by_cases h : i < b
    · exact Or.inl ⟨i, h, rfl, by rw [inB_nI hi, if_pos h]⟩
    · exact Or.inr ⟨by rw [inB_nI hi, if_neg h], Or.inr ⟨i, by omega, hi, rfl⟩⟩
/-- a test 0 <= x < b of the class -/
theorem c_in {β : Type} (x : Int32) {b : Nat} (hb : b < 2147483648) (y : Option β) (z : Option β) : (if x < 0 then z else if x < nI b then y else z) = match inB x b with
    | some _ => y
    | none => z := by
  rcases inB_cases x hb with ⟨i, h, rfl, e⟩ | ⟨e, hx | ⟨i, h, hi, rfl⟩⟩
  · rw [e, if_neg (nI_pos (by omega)), if_pos (by rw [pn_lt (by omega) hb]; exact h)]
  · rw [e, if_pos hx]
  · rw [e, if_neg (nI_pos hi), if_neg (by rw [pn_lt hi hb]; omega)]
theorem c_in' {β : Type} (x : Int32) {b : Nat} (hb : b + 1 < 2147483648) (y : Option β) (z : Option β) : (if x < 0 then z else if nI b < x then z else y) = match inB x (b + 1) with
    | some _ => y
    | none => z := by
  rcases inB_cases x hb with ⟨i, h, rfl, e⟩ | ⟨e, hx | ⟨i, h, hi, rfl⟩⟩
  · rw [e, if_neg (nI_pos (by omega)), if_neg (by rw [pn_lt (by omega) (by omega)]; omega)]
  · rw [e, if_pos hx]
  · rw [e, if_neg (nI_pos hi), if_pos (by rw [pn_lt (by omega) (by omega)]; omega)]
theorem m_in (x : Int32) {b : Nat} (hb : b + 1 < 2147483648) (σ : rS) : fX10_isIn x.toInt64 0 (nI b).toInt64 σ = some (match inB x (b + 1) with
    | some _ => 1
    | none => 0, σ) := by
  have e0 : (0 : Int64) = (0 : Int32).toInt64 := by decide
  rw [e0, e_isIn]
  rcases inB_cases x hb with ⟨i, h, rfl, e⟩ | ⟨e, hx | ⟨i, h, hi, rfl⟩⟩
  · rw [e, if_neg (nI_pos (by omega)), if_neg (by rw [pn_lt (by omega) (by omega)]; omega)]
  · rw [e, if_pos hx]
  · rw [e, if_neg (nI_pos hi), if_pos (by rw [pn_lt (by omega) (by omega)]; omega)]
/-- the same with a bound that is a length less one -/
theorem m_in1 (x : Int32) {b : Nat} (hb : b < 2147483648) (σ : rS) : fX10_isIn x.toInt64 0 (nI b - 1).toInt64 σ = some (match inB x b with
    | some _ => 1
    | none => 0, σ) := by
  cases b with
  | zero =>
    have e0 : (0 : Int64) = (0 : Int32).toInt64 := by decide
    rw [e0, e_isIn]
    rcases i32_cases x with hx | ⟨i, hi, rfl⟩
    · rw [if_pos hx, inB_neg hx]
    · rw [if_neg (nI_pos hi), if_pos (neg_lt (by decide) (nI_pos hi)), inB_nI hi, if_neg (by omega)]
  | succ b =>
    rw [pn_sub1 (by omega), show b + 1 - 1 = b by omega]
    exact m_in x hb σ
def aRule (W : Wd) (x : Int32) : Int32 := if wh W = false then -1 else match inB x 4 with
  | some i => nI (wR W i)
  | none => -1
theorem c_rule {x : Int32} {σ : rS} {W : Wd} (hC : CW σ W) : fX9_rule x σ = some (aRule W x, σ) := by
  unfold fX9_rule aRule
  rw [hC.hif]
  by_cases hh : wh W = false
  · rw [if_pos hh, if_pos hh]
  · rw [if_neg hh, if_neg hh]
    have := c_in x (b := 4) (by omega) (bnd x 4 (some (σ 20 0 (ix x), σ))) (some (-1, σ))
    have : (if x < 0 then _ else if x < 4 then _ else _) = _ := this
    rw [this]
    rcases inB_cases x (b := 4) (by omega) with ⟨i, h, rfl, e⟩ | ⟨e, -⟩
    · rw [e]; simp (disch := omega) only [pn_lt, pn_neg, pn_eq, pn_eq0, pn_eq1, pn_eq2, pn_m1, pn_m1', pn_m1lt, pn_ix, pn_bnd, pn_add1, pn_add3, pn_mul4, nI_add, bd_some, st_eq, rd_eq, if_true, if_false, ite_true, ite_false, reduceIte, hC.R h]
    · rw [e]
theorem m_rule {x : Int32} {σ : rS} {W : Wd} (hM : MW σ W) : fX10_rule x σ = some (aRule W x, wr σ 10 0 0 0) := by
  unfold fX10_rule aRule
  rw [st_eq, (hM.t0 0).hif]
  by_cases hh : wh W = false
  · rw [if_pos hh, if_pos hh]
  · rw [if_neg hh, if_neg hh, show (3 : Int64) = (nI 3).toInt64 by decide, m_in x (by omega), bd_some]
    rcases inB_cases x (b := 4) (by omega) with ⟨i, h, rfl, e⟩ | ⟨e, -⟩
    · rw [e]; simp (disch := omega) only [pn_lt, pn_neg, pn_eq, pn_eq0, pn_eq1, pn_eq2, pn_m1, pn_m1', pn_m1lt, pn_ix, pn_bnd, pn_add1, pn_add3, pn_mul4, nI_add, bd_some, st_eq, rd_eq, if_true, if_false, ite_true, ite_false, reduceIte, show ¬ ((1 : Int32) = 0) by decide, (hM.t0 0).R h]
    · rw [e, if_pos rfl]
theorem pl_4 {xs : Nat → Int32} {n : Nat} {σ : rS} {W : Wd} (hC : CW σ W) (hM : MW σ W) (hI : InvW (40 * n) W) : PL_4 xs n σ (IW (n + 1)) := pl_q hC hM hI (c_rule hC) (fun _ hs => m_rule hs)
def aStat (W : Wd) (x : Int32) : Int32 := match inB x 4 with
  | some i => wZ W i
  | none => -1
theorem c_status {x : Int32} {σ : rS} {W : Wd} (hC : CW σ W) : fX9_status x σ = some (aStat W x, σ) := by
  unfold fX9_status aStat
  have := c_in x (b := 4) (by omega) (bnd x 4 (some (σ 22 0 (ix x), σ))) (some (-1, σ))
  have : (if x < 0 then _ else if x < 4 then _ else _) = _ := this
  rw [this]
  rcases inB_cases x (b := 4) (by omega) with ⟨i, h, rfl, e⟩ | ⟨e, -⟩
  · rw [e]; simp (disch := omega) only [pn_lt, pn_neg, pn_eq, pn_eq0, pn_eq1, pn_eq2, pn_m1, pn_m1', pn_m1lt, pn_ix, pn_bnd, pn_add1, pn_add3, pn_mul4, nI_add, bd_some, st_eq, rd_eq, if_true, if_false, ite_true, ite_false, reduceIte, hC.z h]
  · rw [e]
theorem m_status {x : Int32} {σ : rS} {W : Wd} (hM : MW σ W) : fX10_status x σ = some (aStat W x, wr σ 10 0 0 0) := by
  unfold fX10_status aStat
  rw [st_eq, show (3 : Int64) = (nI 3).toInt64 by decide, m_in x (by omega), bd_some]
  rcases inB_cases x (b := 4) (by omega) with ⟨i, h, rfl, e⟩ | ⟨e, -⟩
  · rw [e]; simp (disch := omega) only [pn_lt, pn_neg, pn_eq, pn_eq0, pn_eq1, pn_eq2, pn_m1, pn_m1', pn_m1lt, pn_ix, pn_bnd, pn_add1, pn_add3, pn_mul4, nI_add, bd_some, st_eq, rd_eq, if_true, if_false, ite_true, ite_false, reduceIte, show ¬ ((1 : Int32) = 0) by decide, (hM.t0 0).z h]
  · rw [e, if_pos rfl]
theorem pl_18 {xs : Nat → Int32} {n : Nat} {σ : rS} {W : Wd} (hC : CW σ W) (hM : MW σ W) (hI : InvW (40 * n) W) : PL_18 xs n σ (IW (n + 1)) := pl_q hC hM hI (c_status hC) (fun _ hs => m_status hs)
def aRoot (W : Wd) (x : Int32) : Int32 := if wh W = false then -1 else match inB x 8 with
  | some i => encN (wS W).1 (hrt (wS W).1 i)
  | none => -1
theorem c_isRoot (x : Int32) (σ : rS) : fX9_isRoot x σ = some (match inB x 8 with
    | some _ => 1
    | none => 0, σ) := by
  unfold fX9_isRoot
  have := c_in x (b := 8) (by omega) (some ((1 : Int32), σ)) (some (0, σ))
  have : (if x < 0 then _ else if x < 8 then _ else _) = _ := this
  rw [this]
  cases inB x 8 <;> rfl
theorem c_root {x : Int32} {σ : rS} {W : Wd} {b : Nat} (hC : CW σ W) (hI : InvW b W) : fX9_root x σ = some (aRoot W x, σ) := by
  unfold fX9_root aRoot
  rw [hC.hif]
  by_cases hh : wh W = false
  · rw [if_pos hh, if_pos hh]
  · rw [if_neg hh, if_neg hh, c_isRoot, bd_some]
    rcases inB_cases x (b := 8) (by omega) with ⟨i, h, rfl, e⟩ | ⟨e, -⟩
    · rw [e]
      simp (disch := omega) only [pn_lt, pn_neg, pn_eq, pn_eq0, pn_eq1, pn_eq2, pn_m1, pn_m1', pn_m1lt, pn_ix, pn_bnd, pn_add1, pn_add3, pn_mul4, nI_add, bd_some, st_eq, rd_eq, if_true, if_false, ite_true, ite_false, reduceIte, show ¬ ((1 : Int32) = 0) by decide, hC.A.rt h]
      rw [e_numberOf_o hC.A hI.ok (fun j hj => hI.ok.rt h hj), bd_some]
    · rw [e, if_pos rfl]
theorem m_isRoot {x : Int32} {σ : rS} {W : Wd} (hM : MW σ W) : fX10_isRoot x σ = some (if wh W = false then 0 else match inB x 8 with
    | some _ => 1
    | none => 0, σ) := by
  unfold fX10_isRoot
  rw [hM.hif]
  by_cases hh : wh W = false
  · rw [if_pos hh, if_pos hh]
  · rw [if_neg hh, if_neg hh]
    have := c_in x (b := 8) (by omega) (some ((1 : Int32), σ)) (some (0, σ))
    have : (if x < 0 then _ else if x < 8 then _ else _) = _ := this
    rw [this]
    cases inB x 8 <;> rfl
theorem m_root {x : Int32} {σ : rS} {W : Wd} (hM : MW σ W) : fX10_root x σ = some (aRoot W x, wr σ 10 0 0 0) := by
  unfold fX10_root aRoot
  have hs := hM.t0 0
  rw [st_eq, m_isRoot hs, bd_some]
  by_cases hh : wh W = false
  · rw [if_pos hh, if_pos hh, if_pos rfl]
  · rw [if_neg hh, if_neg hh]
    rcases inB_cases x (b := 8) (by omega) with ⟨i, h, rfl, e⟩ | ⟨e, -⟩
    · rw [e]
      have e2 : (881 : Int32) + nI i = nI (881 + i) := nI_add 881 i
      rw [e2]
      simp (disch := omega) only [pn_lt, pn_neg, pn_eq, pn_eq0, pn_eq1, pn_eq2, pn_m1, pn_m1', pn_m1lt, pn_ix, pn_bnd, pn_add1, pn_add3, pn_mul4, nI_add, bd_some, st_eq, rd_eq, if_true, if_false, ite_true, ite_false, reduceIte, show ¬ ((1 : Int32) = 0) by decide, hs.A.rt h]
    · rw [e, if_pos rfl]
theorem pl_5 {xs : Nat → Int32} {n : Nat} {σ : rS} {W : Wd} (hC : CW σ W) (hM : MW σ W) (hI : InvW (40 * n) W) : PL_5 xs n σ (IW (n + 1)) := pl_q hC hM hI (c_root hC hI) (fun _ hs => m_root hs)
def aCount (W : Wd) (x : Int32) : Int32 := if x = 0 then nI (hn (wS W).1) else if x = 1 then nI (wC W).length else if x = 2 then nI (wT W).length else if x = 3 then nI (wS W).2.length else if x = 4 then nI (wP W).length else -1000000
theorem c_count {x : Int32} {σ : rS} {W : Wd} (hC : CW σ W) : fX9_count x σ = some (aCount W x, σ) := by
  unfold fX9_count aCount
  have e3 : σ 4 (6 * 0 + 3) 1 = nI (wS W).2.length := by
    rw [← List.length_map (as := (wS W).2) (f := fun q => q.1)]
    exact hC.S.2.1.1
  rw [hC.A.n, hC.cl, hC.tl, e3, hC.pl]
  split
  · rfl
  · split
    · rfl
    · split
      · rfl
      · split
        · rfl
        · split <;> rfl
theorem m_count {x : Int32} {σ : rS} {W : Wd} (hM : MW σ W) : fX10_count x σ = some (aCount W x, wr σ 10 0 0 0) := by
  unfold fX10_count aCount
  have hs := hM.t0 0
  have e0 : wr σ 10 0 0 0 66 0 (ix 0) = nI (hn (wS W).1) := hs.A.n
  have e3 : wr σ 10 0 0 0 66 0 (ix 1373) = nI (wS W).2.length := hs.S.2.1
  rw [st_eq, e0, hs.cl, hs.tl, e3, hs.pl]
  split
  · rfl
  · split
    · rfl
    · split
      · rfl
      · split
        · rfl
        · split <;> rfl
theorem pl_38 {xs : Nat → Int32} {n : Nat} {σ : rS} {W : Wd} (hC : CW σ W) (hM : MW σ W) (hI : InvW (40 * n) W) : PL_38 xs n σ (IW (n + 1)) := pl_q hC hM hI (c_count hC) (fun _ hs => m_count hs)
