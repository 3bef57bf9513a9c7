/-! more questions that change nothing -/
theorem getD_map {α : Type} {L : List α} {f : α → Int32} {d : α} {i : Nat} (hi : i < L.length) : (L.map f).getD i 0 = f (L.getD i d) := by
  rw [List.getD_eq_getElem?_getD, List.getD_eq_getElem?_getD, List.getElem?_map, List.getElem?_eq_getElem hi]
  rfl
theorem lnLen_le (k : Nat) : lnLen k ≤ 80 := by unfold lnLen; split <;> (try split) <;> (try split) <;> omega
def cp3 (q : Int32 × Int32 × Int32) (j : Nat) : Int32 := if j = 0 then q.1 else if j = 1 then q.2.1 else q.2.2
def aLog (W : Wd) (x y : Int32) : Int32 := match inB x (wS W).2.length with
  | none => -1000000
  | some i => match inB y 3 with
    | none => -1000000
    | some j => cp3 ((wS W).2.getD ((wS W).2.length - 1 - i) (0, 0, 0)) j
theorem c_log {x y : Int32} {σ : rS} {W : Wd} {b : Nat} (hC : CW σ W) (hI : InvW b W) : fX9_log x y σ = some (aLog W x y, σ) := by
  have hL := hI.1.2
  have l3 := hC.S.2.1
  have l4 := hC.S.2.2.1
  have l5 := hC.S.2.2.2
  have e3 : σ 4 (6 * 0 + 3) 1 = nI (wS W).2.length := by
    rw [← List.length_map (as := (wS W).2) (f := fun q => q.1)]
    exact l3.1
  unfold fX9_log aLog
  rw [e3, rd_eq, c_in x (by omega)]
  rcases inB_cases x (b := (wS W).2.length) (by omega) with ⟨i, h, rfl, e⟩ | ⟨e, -⟩
  · rw [e]
    dsimp only
    have := c_in' y (b := 2) (by omega) (rd (nI (wS W).2.length - 1 - nI i) (fun y2 => if y = 0 then (bd (fX4_get (6 * 0 + 3) y2 σ) (fun r7 σ8 => some (r7, σ8))) else (if y = 1 then (bd (fX4_get (6 * 0 + 4) y2 σ) (fun r5 σ6 => some (r5, σ6))) else (bd (fX4_get (6 * 0 + 5) y2 σ) (fun r3 σ4 => some (r3, σ4)))))) (some (-1000000, σ))
    have : (if y < 0 then _ else if 2 < y then _ else _) = _ := this
    rw [this]
    rcases inB_cases y (b := 3) (by omega) with ⟨j, hj, rfl, e2⟩ | ⟨e2, -⟩
    · rw [e2, pn_sub1 (by omega), pn_sub (by omega)]
      dsimp only
      have g3 := Ln.get l3 (i := (wS W).2.length - 1 - i) (by rw [List.length_map]; omega)
      have g4 := Ln.get l4 (i := (wS W).2.length - 1 - i) (by rw [List.length_map]; omega)
      have g5 := Ln.get l5 (i := (wS W).2.length - 1 - i) (by rw [List.length_map]; omega)
      rw [getD_map (d := (0, 0, 0)) (by omega)] at g3 g4 g5
      unfold cp3
      simp (disch := omega) only [pn_lt, pn_neg, pn_eq, pn_eq0, pn_eq1, pn_eq2, pn_m1, pn_m1', pn_m1lt, pn_ix, pn_bnd, pn_add1, pn_add3, pn_mul4, nI_add, bd_some, st_eq, rd_eq, if_true, if_false, ite_true, ite_false, reduceIte]
      by_cases j0 : j = 0
      · rw [if_pos j0, if_pos j0, g3, bd_some]
      · rw [if_neg j0, if_neg j0]
        by_cases j1 : j = 1
        · rw [if_pos j1, if_pos j1, g4, bd_some]
        · rw [if_neg j1, if_neg j1, g5, bd_some]
    · rw [e2]
  · rw [e]
theorem pn_m3 (a : Nat) : (3 : Int32) * nI a = nI (3 * a) := (Int32.ofNat_mul 3 a).symm
theorem pn_m2 (a : Nat) : (2 : Int32) * nI a = nI (2 * a) := (Int32.ofNat_mul 2 a).symm
theorem m_log {x y : Int32} {σ : rS} {W : Wd} {b : Nat} (hM : MW σ W) (hI : InvW b W) : fX10_log x y σ = some (aLog W x y, wr σ 10 0 0 0) := by
  have hL := hI.1.2
  have hs := hM.t0 0
  have e3 : wr σ 10 0 0 0 66 0 (ix 1373) = nI (wS W).2.length := hs.S.2.1
  unfold fX10_log aLog
  rw [st_eq, e3, c_in x (by omega)]
  rcases inB_cases x (b := (wS W).2.length) (by omega) with ⟨i, h, rfl, e⟩ | ⟨e, -⟩
  · rw [e]
    dsimp only
    rw [show (2 : Int64) = (nI 2).toInt64 by decide, m_in y (by omega), bd_some]
    rcases inB_cases y (b := 3) (by omega) with ⟨j, hj, rfl, e2⟩ | ⟨e2, -⟩
    · rw [e2, e3, pn_sub1 (by omega), pn_sub (by omega), pn_m3]
      have e4 : ∀ a, (1374 : Int32) + nI a = nI (1374 + a) := fun a => nI_add 1374 a
      rw [e4]
      have hh := hs.S.2.2 ((wS W).2.length - 1 - i) (by omega)
      simp (disch := omega) only [pn_lt, pn_neg, pn_eq, pn_eq0, pn_eq1, pn_eq2, pn_m1, pn_m1', pn_m1lt, pn_ix, pn_bnd, pn_add1, pn_add3, pn_mul4, nI_add, bd_some, st_eq, rd_eq, if_true, if_false, ite_true, ite_false, reduceIte, show ¬ ((1 : Int32) = 0) by decide]
      unfold cp3
      by_cases j0 : j = 0
      · rw [if_pos j0, j0, ← hh.1]; rfl
      · rw [if_neg j0]
        by_cases j1 : j = 1
        · rw [if_pos j1, j1, ← hh.2.1, show 1374 + 3 * ((wS W).2.length - 1 - i) + 1 = 1375 + 3 * ((wS W).2.length - 1 - i) by omega]
        · rw [if_neg j1, show j = 2 by omega, ← hh.2.2, show 1374 + 3 * ((wS W).2.length - 1 - i) + 2 = 1376 + 3 * ((wS W).2.length - 1 - i) by omega]
    · rw [e2, if_pos rfl]
  · rw [e]
theorem pl_20 {xs : Nat → Int32} {n : Nat} {σ : rS} {W : Wd} (hC : CW σ W) (hM : MW σ W) (hI : InvW (40 * n) W) : PL_20 xs n σ (IW (n + 1)) := pl_q hC hM hI (c_log hC hI) (fun _ hs => m_log hs hI)
/-- the model counts the cells in use -/
theorem m_cellsIn {τ : rS} {v : Nat} {A : Hp} (w : OK A) (hM : MR (τ 66 v) A) {s : Nat} (hs : s < 2147483648) : fX10_cellsIn v (nI s) τ = some (nI (usedA A s), τ) := by
  have hw := w.n
  unfold fX10_cellsIn
  have h : hit (lp (fun (x : (Int32 × Int32)) σ => fX10_cellsIn_L4 v (nI s) x.1 x.2 σ) fu (0, 0) τ) (fun r t => r = nI (usedA A s) ∧ t = τ) := by
    refine lp_go (I := fun m x t => ∃ i, i ≤ hn A ∧ x = (nI (sumN (fun i => if hsp A i = s then 3 + hsz A i else 0) i), nI i) ∧ m = hn A - i ∧ t = τ) ?_ fu (hn A) _ τ (fu_lt (by omega)) ⟨0, by omega, rfl, by omega, rfl⟩
    rintro m x t ⟨i, hi, rfl, rfl, rfl⟩
    unfold fX10_cellsIn_L4 fX10_cellsIn_j31L4
    have e0 : t 66 v (ix 0) = nI (hn A) := hM.n
    rw [e0]
    simp (disch := omega) only [pn_lt, pn_neg, pn_eq, pn_eq0, pn_eq1, pn_eq2, pn_m1, pn_m1', pn_m1lt, pn_ix, pn_bnd, pn_add1, pn_add3, pn_mul4, nI_add, bd_some, st_eq, rd_eq, if_true, if_false, ite_true, ite_false, reduceIte]
    by_cases hlt : i < hn A
    · have hz := w.sz hlt
      have hp := w.sp hlt
      rw [if_pos hlt, e_of5 hM w hlt, bd_some]
      simp (disch := omega) only [pn_lt, pn_neg, pn_eq, pn_eq0, pn_eq1, pn_eq2, pn_m1, pn_m1', pn_m1lt, pn_ix, pn_bnd, pn_add1, pn_add3, pn_mul4, nI_add, bd_some, st_eq, rd_eq, if_true, if_false, ite_true, ite_false, reduceIte]
      by_cases e : hsp A i = s
      · rw [if_pos e, e_sizeOf hM w hlt, bd_some]
        refine hit_some ⟨hn A - (i + 1), by omega, i + 1, by omega, ?_, rfl, rfl⟩
        unfold sumN
        rw [if_pos e, nI_add]
        cases i <;> rfl
      · rw [if_neg e]
        refine hit_some ⟨hn A - (i + 1), by omega, i + 1, by omega, ?_, rfl, rfl⟩
        conv => rhs; unfold sumN
        rw [if_neg e]
        congr 1
        rw [Int32.add_zero, Nat.add_zero]
    · rw [if_neg hlt]
      refine hit_some ⟨?_, rfl⟩
      unfold usedA
      rw [show i = hn A by omega]
  rw [eq_of_hit h, bd_some]
theorem m_cells {τ : rS} {v : Nat} {A : Hp} (w : OK A) (hM : MR (τ 66 v) A) : fX10_cells v τ = some (nI (usedA A 0) + nI (usedA A 1) + nI (usedA A 2), τ) := by
  unfold fX10_cells
  have e0 := m_cellsIn w hM (s := 0) (by omega)
  have e1 := m_cellsIn w hM (s := 1) (by omega)
  have e2 := m_cellsIn w hM (s := 2) (by omega)
  have e0 : fX10_cellsIn v 0 τ = _ := e0
  have e1 : fX10_cellsIn v 1 τ = _ := e1
  have e2 : fX10_cellsIn v 2 τ = _ := e2
  rw [e0, bd_some, e1, bd_some, e2, bd_some]
theorem c_cellsInUse {σ : rS} {k : Nat} {A : Hp} (hC : CR σ k A) : fX7_cellsInUse k σ = some (nI (usedA A 0) + nI (usedA A 1) + nI (usedA A 2), σ) := by
  unfold fX7_cellsInUse
  have e0 : σ 54 k (ix 0) = _ := hC.us (s := 0) (by omega)
  have e1 : σ 54 k (ix 1) = _ := hC.us (s := 1) (by omega)
  have e2 : σ 54 k (ix 2) = _ := hC.us (s := 2) (by omega)
  rw [e0, e1, e2]
def aRoom (W : Wd) (x : Int32) : Int32 := if wh W = false then -1 else match inB x 5 with
  | some i => (nI (wR W 0) - nI (usedA (wS W).1 0)) / nI (3 + i)
  | none => -1
theorem c_room {x : Int32} {σ : rS} {W : Wd} (hC : CW σ W) : fX9_room x σ = some (aRoom W x, σ) := by
  unfold fX9_room aRoom
  rw [hC.hif]
  by_cases hh : wh W = false
  · rw [if_pos hh, if_pos hh]
  · rw [if_neg hh, if_neg hh]
    have := c_in' x (b := 4) (by omega) (bnz (3 + x) (some (((σ 20 0 (ix 0)) - (σ 54 0 (ix 0))) / (3 + x), σ))) (some (-1, σ))
    have : (if x < 0 then _ else if 4 < x then _ else _) = _ := this
    rw [this]
    rcases inB_cases x (b := 5) (by omega) with ⟨i, h, rfl, e⟩ | ⟨e, -⟩
    · rw [e, pn_add3]
      have e1 : σ 54 0 (ix 0) = _ := hC.A.us (s := 0) (by omega)
      have e2 : σ 20 0 (ix 0) = _ := hC.R (i := 0) (by omega)
      dsimp only
      rw [e1, e2]
      exact if_neg (by rw [pn_eq0 (by omega)]; omega)
    · rw [e]
theorem m_room {x : Int32} {σ : rS} {W : Wd} {b : Nat} (hM : MW σ W) (hI : InvW b W) : fX10_room x σ = some (aRoom W x, wr σ 10 0 0 0) := by
  unfold fX10_room aRoom
  have hs := hM.t0 0
  rw [st_eq, hs.hif]
  by_cases hh : wh W = false
  · rw [if_pos hh, if_pos hh]
  · rw [if_neg hh, if_neg hh, show (4 : Int64) = (nI 4).toInt64 by decide, m_in x (by omega), bd_some]
    rcases inB_cases x (b := 5) (by omega) with ⟨i, h, rfl, e⟩ | ⟨e, -⟩
    · have e1 : fX10_cellsIn 0 0 (wr σ 10 0 0 0) = _ := m_cellsIn hI.ok hs.A (s := 0) (by omega)
      have e2 : wr σ 10 0 0 0 62 0 (ix 0) = _ := hs.R (i := 0) (by omega)
      rw [e, if_neg (show ¬ ((1 : Int32) = 0) by decide), e1, bd_some, pn_add3, e2]
      exact if_neg (by rw [pn_eq0 (by omega)]; omega)
    · rw [e, if_pos rfl]
theorem pl_28 {xs : Nat → Int32} {n : Nat} {σ : rS} {W : Wd} (hC : CW σ W) (hM : MW σ W) (hI : InvW (40 * n) W) : PL_28 xs n σ (IW (n + 1)) := pl_q hC hM hI (c_room hC) (fun _ hs => m_room hs hI)
