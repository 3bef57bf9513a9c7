/-! lines, fields, places, steps -/
theorem one_ne : ¬ ((1 : Int32) = 0) := by decide
theorem nm1 {i : Nat} (hi : i < 2147483648) : ¬ nI i < -1 := fun z => nI_pos hi (Int32.lt_trans z (by decide))
theorem m1_cases (x : Int32) {b : Nat} (hb : b < 2147483648) : x = -1 ∨ (¬ x = -1 ∧ ((∃ i, i < b ∧ x = nI i ∧ inB x b = some i) ∨ (inB x b = none ∧ (x < 0 ∨ ∃ i, b ≤ i ∧ i < 2147483648 ∧ x = nI i)))) := by
  by_cases h : x = -1
  · exact Or.inl h
  · exact Or.inr ⟨h, inB_cases x hb⟩
def aLine (W : Wd) (x y : Int32) : Int32 := if wh W = false then -1 else match inB x 2 with
  | none => -1
  | some l => if l = 0 then (if y = -1 then nI (hen (wS W).1).length else match inB y (hen (wS W).1).length with
      | none => -1
      | some i => nI (hnum (wS W).1 ((hen (wS W).1).getD i 0))) else (if y = -1 then nI (hlo (wS W).1).length else match inB y (hlo (wS W).1).length with
      | none => -1
      | some i => nI ((hlo (wS W).1).getD i 0))
theorem c_line {x y : Int32} {σ : rS} {W : Wd} {b : Nat} (hC : CW σ W) (hI : InvW b W) : fX9_line x y σ = some (aLine W x y, σ) := by
  have hEn := hI.A.en
  have hLo := hI.A.2.2.2.2.2.2.1
  unfold fX9_line aLine
  rw [hC.hif]
  by_cases hh : wh W = false
  · rw [if_pos hh, if_pos hh]
  · rw [if_neg hh, if_neg hh]
    have := c_in' x (b := 1) (by omega) (if x = 0 then (fX9_line_j39 x y (6 * 0 + 0) σ) else (fX9_line_j39 x y (6 * 0 + 1) σ)) (some (-1, σ))
    have : (if x < 0 then _ else if 1 < x then _ else _) = _ := this
    rw [this]
    rcases inB_cases x (b := 2) (by omega) with ⟨l, h, rfl, e⟩ | ⟨e, -⟩
    · rw [e]
      dsimp only
      unfold fX9_line_j39
      simp (disch := omega) only [pn_eq0]
      by_cases l0 : l = 0
      · simp only [if_pos l0]
        have hL := hC.A.en
        have e1 : σ 4 (6 * 0 + 0) 1 = nI (hen (wS W).1).length := by rw [← List.length_map (f := nI)]; exact hL.1
        rw [e1]
        by_cases hy : y = -1
        · rw [if_pos hy, if_pos hy]
        · rw [if_neg hy, if_neg hy, c_in y (by omega)]
          rcases inB_cases y (b := (hen (wS W).1).length) (by omega) with ⟨i, hi, rfl, e2⟩ | ⟨e2, -⟩
          · have hg := Ln.get hL (i := i) (by rw [List.length_map]; exact hi)
            rw [getD_map_nI hi] at hg
            have hg : fX4_get (6 * 0 + 0) (nI i) σ = _ := hg
            rw [e2]
            dsimp only
            rw [hg, bd_some, e_numberOf hC.A hI.ok (hI.ok.en (getD_mem hi)), bd_some]
          · rw [e2]
      · simp only [if_neg l0]
        have hL := hC.A.lo
        have e1 : σ 4 (6 * 0 + 1) 1 = nI (hlo (wS W).1).length := by rw [← List.length_map (f := nI)]; exact hL.1
        rw [e1]
        by_cases hy : y = -1
        · rw [if_pos hy, if_pos hy]
        · rw [if_neg hy, if_neg hy, c_in y (by omega)]
          rcases inB_cases y (b := (hlo (wS W).1).length) (by omega) with ⟨i, hi, rfl, e2⟩ | ⟨e2, -⟩
          · have hg := Ln.get hL (i := i) (by rw [List.length_map]; exact hi)
            rw [getD_map_nI hi] at hg
            have hg : fX4_get (6 * 0 + 1) (nI i) σ = _ := hg
            rw [e2]
            dsimp only
            rw [hg, bd_some]
          · rw [e2]
    · rw [e]
theorem m_line {x y : Int32} {σ : rS} {W : Wd} {b : Nat} (hM : MW σ W) (hI : InvW b W) : fX10_line x y σ = some (aLine W x y, wr σ 10 0 0 0) := by
  have hEn := hI.A.en
  have hLo := hI.A.2.2.2.2.2.2.1
  have hs := hM.t0 0
  unfold fX10_line aLine
  rw [st_eq, hs.hif]
  by_cases hh : wh W = false
  · rw [if_pos hh, if_pos hh]
  · rw [if_neg hh, if_neg hh, show (1 : Int64) = (nI 1).toInt64 by decide, m_in x (by omega), bd_some]
    rcases inB_cases x (b := 2) (by omega) with ⟨l, h, rfl, e⟩ | ⟨e, -⟩
    · rw [e, if_neg one_ne]
      dsimp only
      simp (disch := omega) only [pn_eq0]
      unfold fX10_line_j37
      by_cases l0 : l = 0
      · rw [if_pos l0, if_pos l0]
        have e1 : wr σ 10 0 0 0 66 0 (ix 1242) = _ := hs.A.en
        have b1 : ∀ z : Option (Int32 × rS), bnd 1242 1554 z = z := fun z => if_neg (by decide)
        rw [e1, b1, b1]
        by_cases hy : y = -1
        · rw [if_pos hy, if_pos hy]
        · rw [if_neg hy, if_neg hy, m_in1 y (by omega), bd_some]
          rcases inB_cases y (b := (hen (wS W).1).length) (by omega) with ⟨i, hi, rfl, e2⟩ | ⟨e2, -⟩
          · rw [e2, if_neg one_ne]
            have e4 : (1242 : Int32) + 1 + nI i = nI (1243 + i) := nI_add 1243 i
            rw [e4]
            simp (disch := omega) only [pn_lt, pn_neg, pn_eq, pn_eq0, pn_eq1, pn_eq2, pn_m1, pn_m1', pn_m1lt, pn_ix, pn_bnd, pn_add1, pn_add3, pn_mul4, nI_add, bd_some, st_eq, rd_eq, if_true, if_false, ite_true, ite_false, reduceIte, hs.A.eni hi]
          · rw [e2, if_pos rfl]
      · rw [if_neg l0, if_neg l0]
        have e1 : wr σ 10 0 0 0 66 0 (ix 1323) = _ := hs.A.lo
        have b1 : ∀ z : Option (Int32 × rS), bnd 1323 1554 z = z := fun z => if_neg (by decide)
        rw [e1, b1, b1]
        by_cases hy : y = -1
        · rw [if_pos hy, if_pos hy]
        · rw [if_neg hy, if_neg hy, m_in1 y (by omega), bd_some]
          rcases inB_cases y (b := (hlo (wS W).1).length) (by omega) with ⟨i, hi, rfl, e2⟩ | ⟨e2, -⟩
          · rw [e2, if_neg one_ne]
            have e4 : (1323 : Int32) + 1 + nI i = nI (1324 + i) := nI_add 1324 i
            rw [e4]
            simp (disch := omega) only [pn_lt, pn_neg, pn_eq, pn_eq0, pn_eq1, pn_eq2, pn_m1, pn_m1', pn_m1lt, pn_ix, pn_bnd, pn_add1, pn_add3, pn_mul4, nI_add, bd_some, st_eq, rd_eq, if_true, if_false, ite_true, ite_false, reduceIte, hs.A.loi hi]
          · rw [e2, if_pos rfl]
    · rw [e, if_pos rfl]
theorem pl_22 {xs : Nat → Int32} {n : Nat} {σ : rS} {W : Wd} (hC : CW σ W) (hM : MW σ W) (hI : InvW (40 * n) W) : PL_22 xs n σ (IW (n + 1)) := pl_q hC hM hI (c_line hC hI) (fun _ hs => m_line hs hI)
def aRem (W : Wd) (x y : Int32) : Int32 := if wh W = false then -1 else if x = -1 then nI (hrm (wS W).1).length else match inB x (hrm (wS W).1).length with
  | none => -1
  | some i => match inB y 2 with
    | none => -1
    | some l => if l = 0 then nI (hnum (wS W).1 ((hrm (wS W).1).getD i (0, 0)).1) else nI ((hrm (wS W).1).getD i (0, 0)).2
theorem getD_mem' {α : Type} {L : List α} {d : α} {i : Nat} (hi : i < L.length) : L.getD i d ∈ L := by
  rw [List.getD_eq_getElem?_getD, List.getElem?_eq_getElem hi]
  exact List.getElem_mem hi
theorem c_rem {x y : Int32} {σ : rS} {W : Wd} {b : Nat} (hC : CW σ W) (hI : InvW b W) : fX9_remembered x y σ = some (aRem W x y, σ) := by
  have hL := hC.A.rm
  have hl := hL.2.1
  have hll := lnLen_le (6 * 0 + 2)
  rw [List.length_map] at hl
  have e1 : σ 4 (6 * 0 + 2) 1 = nI (hrm (wS W).1).length := by rw [← List.length_map (as := hrm (wS W).1) (f := fun q => nI (q.1 * 4 + q.2))]; exact hL.1
  unfold fX9_remembered aRem
  rw [hC.hif]
  by_cases hh : wh W = false
  · rw [if_pos hh, if_pos hh]
  · rw [if_neg hh, if_neg hh, e1]
    by_cases hx : x = -1
    · rw [if_pos hx, if_pos hx]
    · rw [if_neg hx, if_neg hx, c_in x (by omega)]
      rcases inB_cases x (b := (hrm (wS W).1).length) (by omega) with ⟨i, hi, rfl, e2⟩ | ⟨e2, -⟩
      · have hg := Ln.get hL (i := i) (by rw [List.length_map]; exact hi)
        rw [getD_map (d := (0, 0)) hi] at hg
        have hg : fX4_get (6 * 0 + 2) (nI i) σ = _ := hg
        rw [e2]
        dsimp only
        have := c_in' y (b := 1) (by omega) (bd (fX4_get (6 * 0 + 2) (nI i) σ) (fun r1 σ2 => if y = 0 then (bd (fX7_numberOf 0 (r1 / 4) σ2) (fun r3 σ4 => some (r3, σ4))) else (some (r1 - r1 / 4 * 4, σ2)))) (some (-1, σ))
        have : (if y < 0 then _ else if 1 < y then _ else _) = _ := this
        rw [this]
        rcases inB_cases y (b := 2) (by omega) with ⟨l, h, rfl, e⟩ | ⟨e, -⟩
        · have hm := hI.ok.rm (getD_mem' (d := (0, 0)) hi)
          have hn := hI.ok.n
          have hz := hI.ok.sz hm.1
          rw [e]
          dsimp only
          rw [hg, bd_some]
          generalize (hrm (wS W).1).getD i (0, 0) = q at hm hz
          simp (disch := omega) only [pn_eq0]
          rw [pn_mod4 (by omega), pn_div4 (by omega), show (q.1 * 4 + q.2) / 4 = q.1 by omega, show (q.1 * 4 + q.2) % 4 = q.2 by omega]
          by_cases l0 : l = 0
          · rw [if_pos l0, if_pos l0, e_numberOf hC.A hI.ok hm.1, bd_some]
          · rw [if_neg l0, if_neg l0]
        · rw [e]
      · rw [e2]
theorem m_rem {x y : Int32} {σ : rS} {W : Wd} {b : Nat} (hM : MW σ W) (hI : InvW b W) (hl : (hrm (wS W).1).length ≤ 80) : fX10_remembered x y σ = some (aRem W x y, wr σ 10 0 0 0) := by
  have hs := hM.t0 0
  have e1 : wr σ 10 0 0 0 66 0 (ix 889) = nI (hrm (wS W).1).length := hs.A.rm
  unfold fX10_remembered fX10_remembered_j45 aRem
  rw [st_eq, hs.hif, e1]
  by_cases hh : wh W = false
  · rw [if_pos hh, if_pos hh]
  · rw [if_neg hh, if_neg hh]
    by_cases hx : x = -1
    · subst hx
      rw [if_neg (by decide), if_pos (neg_lt (by decide) (nI_pos (by omega))), if_pos (by decide), if_pos rfl, if_pos rfl]
    · simp only [if_neg hx]
      rcases inB_cases x (b := (hrm (wS W).1).length) (by omega) with ⟨i, hi, rfl, e2⟩ | ⟨e2, hx2 | ⟨i, h1, h2, rfl⟩⟩
      · rw [e2]
        dsimp only
        rw [if_neg (nm1 (by omega)), if_pos (by rw [pn_lt (by omega) (by omega)]; exact hi), if_neg (nI_pos (by omega)), show (1 : Int64) = (nI 1).toInt64 by decide, m_in y (by omega), bd_some]
        rcases inB_cases y (b := 2) (by omega) with ⟨l, h, rfl, e⟩ | ⟨e, -⟩
        · have hq := hs.A.2.2.2.1.2 i hi
          have e4 : (890 : Int32) + 2 * nI i + nI l = nI (890 + 2 * i + l) := by
            rw [pn_m2]
            have := nI_add 890 (2 * i)
            have : (890 : Int32) + nI (2 * i) = _ := this
            rw [this, nI_add]
          rw [e, if_neg one_ne, e4]
          simp (disch := omega) only [pn_lt, pn_neg, pn_eq, pn_eq0, pn_eq1, pn_eq2, pn_m1, pn_m1', pn_m1lt, pn_ix, pn_bnd, pn_add1, pn_add3, pn_mul4, nI_add, bd_some, st_eq, rd_eq, if_true, if_false, ite_true, ite_false, reduceIte]
          by_cases l0 : l = 0
          · rw [if_pos l0, l0, ← hq.1]; rfl
          · rw [if_neg l0, show l = 1 by omega, ← hq.2, show 890 + 2 * i + 1 = 891 + 2 * i by omega]
        · rw [e, if_pos rfl]
      · rw [e2]
        dsimp only
        have hm1 : x < -1 := by
          rw [Int32.lt_iff_toInt_lt] at hx2 ⊢
          have e : (0 : Int32).toInt = 0 := by decide
          have e' : (-1 : Int32).toInt = -1 := by decide
          have : ¬ x.toInt = -1 := fun z => hx (Int32.toInt_inj.mp (z.trans e'.symm))
          omega
        rw [if_pos hm1]
      · rw [e2]
        dsimp only
        rw [if_neg (nm1 (by omega)), if_neg (by rw [pn_lt (by omega) (by omega)]; omega)]
theorem pl_21 {xs : Nat → Int32} {n : Nat} {σ : rS} {W : Wd} (hC : CW σ W) (hM : MW σ W) (hI : InvW (40 * n) W) : PL_21 xs n σ (IW (n + 1)) := pl_q hC hM hI (c_rem hC hI) (fun _ hs => m_rem hs hI (by
  have hl := hC.A.rm.2.1
  have hll := lnLen_le (6 * 0 + 2)
  rw [List.length_map] at hl
  omega))
def aField (W : Wd) (x y : Int32) : Int32 := match findA (wS W).1 x with
  | none => -1
  | some j => match inB y (hsz (wS W).1 j) with
    | none => -1
    | some f => encN (wS W).1 (hlk (wS W).1 j f)
theorem c_field {x y : Int32} {σ : rS} {W : Wd} {b : Nat} (hC : CW σ W) (hI : InvW b W) : fX9_field x y σ = some (aField W x y, σ) := by
  have w := hI.ok
  unfold fX9_field aField
  rw [e_find hC.A w, bd_some]
  cases hf : findA (wS W).1 x with
  | none => rw [enc_none, e_hasField_n, bd_some, if_pos rfl]
  | some j =>
    have hj := (findA_lt hf).1
    have hz := w.sz hj
    rw [enc_some, e_hasField hC.A w hj, bd_some]
    dsimp only
    rcases inB_cases y (b := hsz (wS W).1 j) (by omega) with ⟨i, hi, rfl, e2⟩ | ⟨e2, hx2 | ⟨i, h1, h2, rfl⟩⟩
    · rw [e2, if_neg (show ¬ nI i < 0 from nI_pos (by omega)), if_pos (show nI i < nI (hsz (wS W).1 j) by rw [pn_lt (by omega) (by omega)]; exact hi), if_neg one_ne, e_target hC.A w hj hi, bd_some, e_numberOf_o hC.A w (fun q hq => w.lk hj hi hq), bd_some]
    · rw [e2, if_pos hx2, if_pos rfl]
    · rw [e2, if_neg (show ¬ nI i < 0 from nI_pos (by omega)), if_neg (show ¬ nI i < nI (hsz (wS W).1 j) by rw [pn_lt (by omega) (by omega)]; omega), if_pos rfl]
theorem findA_neg {A : Hp} {x : Int32} (w : OK A) (hx : ¬ 0 < x) : findA A x = none := by
  refine fst1_no (fun i _ hi => decide_eq_false (fun e => ?_))
  have h1 := w.num1 (i := i) (by omega)
  have h2 := w.num2 (i := i) (by omega)
  refine hx (e ▸ ?_)
  show nI 0 < nI _
  rw [pn_lt (by omega) (by omega)]
  omega
theorem m_spot {τ : rS} {v : Nat} {A : Hp} (hM : MR (τ 66 v) A) (w : OK A) (x : Int32) {β : Type} (f : Int32 → rS → Option (β × rS)) : (if 0 < x then bd (fX10_spotOf_ v x τ) f else f (-1) τ) = f (enc (findA A x)) τ := by
  by_cases h : 0 < x
  · rw [if_pos h, e_spotOf hM w, bd_some]
  · rw [if_neg h, findA_neg w h]; rfl
theorem m_field {x y : Int32} {σ : rS} {W : Wd} {b : Nat} (hM : MW σ W) (hI : InvW b W) : fX10_field x y σ = some (aField W x y, wr σ 10 0 0 0) := by
  have w := hI.ok
  have hs := hM.t0 0
  unfold fX10_field aField
  rw [st_eq, m_spot hs.A w x (fun r s => fX10_field_j21 y r s)]
  unfold fX10_field_j21 fX10_field_j48
  cases hf : findA (wS W).1 x with
  | none => rw [enc_none, if_pos rfl]
  | some j =>
    have hj := (findA_lt hf).1
    have hz := w.sz hj
    have hn := w.n
    rw [enc_some, if_neg (by rw [pn_m1 (by omega)]; exact id), e_of2 hs.A w hj, bd_some, m_in1 y (by omega), bd_some]
    dsimp only
    rcases inB_cases y (b := hsz (wS W).1 j) (by omega) with ⟨i, hi, rfl, e2⟩ | ⟨e2, -⟩
    · rw [e2, if_neg one_ne, e_of7 hs.A w hj hi, bd_some]
    · rw [e2, if_pos rfl]
theorem pl_7 {xs : Nat → Int32} {n : Nat} {σ : rS} {W : Wd} (hC : CW σ W) (hM : MW σ W) (hI : InvW (40 * n) W) : PL_7 xs n σ (IW (n + 1)) := pl_q hC hM hI (c_field hC hI) (fun _ hs => m_field hs hI)
