/-! holders, most, thing -/
theorem Inv.fs {R : Nat → Nat} {b : Nat} {A : Hp} (h : Inv R b A) {i : Nat} (hi : i < hn A) : fst0 A i ≤ hsz A i := by
  unfold fst0
  by_cases e : hkd A i = 1
  · rw [if_pos e]; exact (h.2.2.2.1 i hi).2.1 e
  · rw [if_neg e]; omega
def uRt (A : Hp) (j r : Nat) (a : Int32) : Int32 := if hrt A r = some j then a + 1 else a
def uFl (A : Hp) (q j f : Nat) (a : Int32) : Int32 := if f < fst0 A q then a else if hlk A q f = some j then a + 1 else a
def uFc (A : Hp) (q j f : Nat) (a : Int32) : Int32 := if hlk A q f = some j then a + 1 else a
def uHo (A : Hp) (Q : List Nat) (j i : Nat) (a : Int32) : Int32 := acc (uFl A (Q.getD i 0) j) (hsz A (Q.getD i 0)) 0 a
def hold (A : Hp) (j : Nat) : Int32 := acc (uHo A (reachQ A (-1)) j) (reachQ A (-1)).length 0 (acc (uRt A j) 8 0 0)
theorem acc_fs (A : Hp) (q j : Nat) (hf : fst0 A q ≤ hsz A q) (a : Int32) : acc (uFl A q j) (hsz A q) 0 a = acc (uFl A q j) (hsz A q - fst0 A q) (fst0 A q) a := by
  have h1 : fst0 A q = 0 ∨ fst0 A q = 1 := by unfold fst0; split <;> omega
  rcases h1 with h1 | h1
  · rw [h1, Nat.sub_zero]
  · obtain ⟨m, hm⟩ : ∃ m, hsz A q = m + 1 := ⟨hsz A q - 1, by omega⟩
    rw [h1, hm, show m + 1 - 1 = m by omega]
    have : uFl A q j 0 a = a := by
      unfold uFl
      rw [if_pos (by omega)]
    show acc (uFl A q j) m 1 (uFl A q j 0 a) = _
    rw [this]
theorem c_holdersOf {σ : rS} {k j : Nat} {A : Hp} {S : GS} {R : Nat → Nat} {b : Nat} (h : CR σ k A) (hv : Inv R b A) (hG : GC σ (hn A) S) (hj : j < hn A) : fX3_holdersOf k (nI j) σ = some (acc (uHo A S.1 j) S.1.length 0 (acc (uRt A j) 8 0 0), σ) := by
  have w := hv.ok
  have hw := w.n
  have hl := nodup_le hG.1 hG.2.1
  unfold fX3_holdersOf
  have e1 := lp_acc (step := fun (x : (Int32 × Int32)) σ => fX3_holdersOf_L5 k (nI j) x.1 x.2 σ) (u := uRt A j) (n := 8) (σ := σ) (fun i a hi => by
    unfold fX3_holdersOf_L5 fX3_holdersOf_j26L5 uRt
    simp (disch := omega) only [pn_lt, pn_neg, pn_eq, pn_eq0, pn_eq1, pn_eq2, pn_m1, pn_m1', pn_m1lt, pn_ix, pn_bnd, pn_add1, pn_add3, pn_mul4, nI_add, bd_some, st_eq, rd_eq, if_true, if_false, ite_true, ite_false, reduceIte, pn_lt8, hi, h.rt hi, enc_eq (fun q hq => show q < 2147483648 by have := w.rt hi hq; omega) (show j < 2147483648 by omega)]
    split <;> rfl) (fun a => by
    unfold fX3_holdersOf_L5
    simp (disch := omega) only [pn_lt, pn_neg, pn_eq, pn_eq0, pn_eq1, pn_eq2, pn_m1, pn_m1', pn_m1lt, pn_ix, pn_bnd, pn_add1, pn_add3, pn_mul4, nI_add, bd_some, st_eq, rd_eq, if_true, if_false, ite_true, ite_false, reduceIte, pn_lt8, Nat.lt_irrefl]) fu 0 0 (by omega) (fu_0 (by omega))
  have e1 : lp (fun (x : (Int32 × Int32)) σ => fX3_holdersOf_L5 k (nI j) x.1 x.2 σ) fu (0, 0) σ = _ := e1
  rw [e1, bd_some, Nat.sub_zero]
  have e2 := lp_acc (step := fun (x : (Int32 × Int32)) σ => fX3_holdersOf_L35 k (nI j) x.1 x.2 σ) (u := uHo A S.1 j) (n := S.1.length) (σ := σ) (fun i a hi => by
    have hq := hG.2.1 _ (getD_mem hi)
    have hz := w.sz hq
    have hf := hv.fs hq
    unfold fX3_holdersOf_L35 uHo
    simp (disch := omega) only [pn_lt, pn_neg, pn_eq, pn_eq0, pn_eq1, pn_eq2, pn_m1, pn_m1', pn_m1lt, pn_ix, pn_bnd, pn_add1, pn_add3, pn_mul4, nI_add, bd_some, st_eq, rd_eq, if_true, if_false, ite_true, ite_false, reduceIte, hG.2.2.1, hi, hG.2.2.2.1 i hi, e_firstStrong h w hq]
    generalize S.1.getD i 0 = q at hq hz hf
    have e3 := lp_acc (step := fun (x : (Int32 × Int32)) σ => fX3_holdersOf_L61 k (nI j) (nI i) (nI q) x.1 x.2 σ) (u := uFc A q j) (n := hsz A q) (σ := σ) (fun f a hff => by
      unfold fX3_holdersOf_L61 fX3_holdersOf_j87L61 uFc
      simp (disch := omega) only [pn_lt, pn_neg, pn_eq, pn_eq0, pn_eq1, pn_eq2, pn_m1, pn_m1', pn_m1lt, pn_ix, pn_bnd, pn_add1, pn_add3, pn_mul4, nI_add, bd_some, st_eq, rd_eq, if_true, if_false, ite_true, ite_false, reduceIte, e_fieldsOf h w hq, hff, e_target h w hq hff, enc_eq (fun q' hq' => show q' < 2147483648 by have := w.lk hq hff hq'; omega) (show j < 2147483648 by omega)]
      split <;> rfl) (fun a => by
      unfold fX3_holdersOf_L61
      simp (disch := omega) only [pn_lt, pn_neg, pn_eq, pn_eq0, pn_eq1, pn_eq2, pn_m1, pn_m1', pn_m1lt, pn_ix, pn_bnd, pn_add1, pn_add3, pn_mul4, nI_add, bd_some, st_eq, rd_eq, if_true, if_false, ite_true, ite_false, reduceIte, e_fieldsOf h w hq, Nat.lt_irrefl]) fu (fst0 A q) a hf (by have := fu_ge; omega)
    rw [e3, bd_some, acc_fs A q j hf, acc_congr (u := uFl A q j) (u' := uFc A q j) (fun f a h1 h2 => by
      unfold uFl uFc
      rw [if_neg (by omega)])]) (fun a => by
    unfold fX3_holdersOf_L35
    simp (disch := omega) only [pn_lt, pn_neg, pn_eq, pn_eq0, pn_eq1, pn_eq2, pn_m1, pn_m1', pn_m1lt, pn_ix, pn_bnd, pn_add1, pn_add3, pn_mul4, nI_add, bd_some, st_eq, rd_eq, if_true, if_false, ite_true, ite_false, reduceIte, hG.2.2.1, Nat.lt_irrefl]) fu 0 (acc (uRt A j) 8 0 0) (by omega) (fu_0 (by omega))
  have e2 : lp (fun (x : (Int32 × Int32)) σ => fX3_holdersOf_L35 k (nI j) x.1 x.2 σ) fu (_, 0) σ = _ := e2
  rw [e2, bd_some, Nat.sub_zero]
def aHol (W : Wd) (x : Int32) : Int32 := match findA (wS W).1 x with
  | none => -1
  | some j => hold (wS W).1 j
theorem c_holders {x : Int32} {σ : rS} {W : Wd} {b : Nat} (hC : CW σ W) (hI : InvW b W) : hit (fX9_holders x σ) (fun r s => r = aHol W x ∧ CW s W) := by
  have w := hI.ok
  have hw := w.n
  unfold fX9_holders aHol
  rw [e_find hC.A w, bd_some]
  cases hf : findA (wS W).1 x with
  | none => rw [enc_none, if_pos rfl]; exact hit_some ⟨rfl, hC⟩
  | some j =>
    have hj := (findA_lt hf).1
    rw [enc_some, if_neg (by rw [pn_m1 (by omega)]; exact id)]
    refine bd_hit (hit_mono (c_reachW hC hI (-1)) ?_)
    rintro r s ⟨hC2, hG⟩
    rw [c_holdersOf hC2.A hI.A hG hj, bd_some, reachA_1]
    exact hit_some ⟨rfl, hC2⟩
theorem m_holders {x : Int32} {σ : rS} {W : Wd} {b : Nat} (hM : MW σ W) (hI : InvW b W) : hit (fX10_holders x σ) (fun r s => r = aHol W x ∧ MW s W) := by
  have w := hI.ok
  have hw := w.n
  have hs := hM.t0 0
  unfold fX10_holders aHol
  rw [st_eq]
  by_cases hx : x < 1
  · rw [if_pos hx, findA_neg w (fun z => by
      rcases i32_cases x with h | ⟨i, hi, rfl⟩
      · exact absurd (Int32.lt_trans z h) Int32.lt_irrefl
      · have h1 : nI i < nI 1 := hx
        have h2 : nI 0 < nI i := z
        rw [pn_lt (by omega) (by omega)] at h1 h2
        omega)]
    exact hit_some ⟨rfl, hs⟩
  · rw [if_neg hx, e_spotOf hs.A w, bd_some]
    cases hf : findA (wS W).1 x with
    | none => rw [enc_none, if_pos rfl]; exact hit_some ⟨rfl, hs⟩
    | some j =>
      obtain ⟨hj, rfl⟩ := findA_lt hf
      rw [enc_some, if_neg (by rw [pn_m1 (by omega)]; exact id)]
      refine bd_hit (hit_mono (m_reachW hs hI (-1)) ?_)
      rintro r s ⟨hM2, hG⟩
      have hl := nodup_le hG.1 hG.2.1
      have e1 := lp_acc (step := fun (x : (Int32 × Int32)) σ => fX10_holders_L38 (nI (hnum (wS W).1 j)) x.1 x.2 σ) (u := uRt (wS W).1 j) (n := 8) (σ := s) (fun i a hi => by
        unfold fX10_holders_L38 fX10_holders_j64L38 uRt
        have e4 : (881 : Int32) + nI i = nI (881 + i) := nI_add 881 i
        dsimp only
        rw [e4]
        simp (disch := omega) only [pn_lt, pn_neg, pn_eq, pn_eq0, pn_eq1, pn_eq2, pn_m1, pn_m1', pn_m1lt, pn_ix, pn_bnd, pn_add1, pn_add3, pn_mul4, nI_add, bd_some, st_eq, rd_eq, if_true, if_false, ite_true, ite_false, reduceIte, pn_lt8, hi, hM2.A.rt hi, encN_eq w (fun q hq => w.rt hi hq) hj]
        split
        · rfl
        · rw [Int32.add_zero]) (fun a => by
        unfold fX10_holders_L38
        simp (disch := omega) only [pn_lt, pn_neg, pn_eq, pn_eq0, pn_eq1, pn_eq2, pn_m1, pn_m1', pn_m1lt, pn_ix, pn_bnd, pn_add1, pn_add3, pn_mul4, nI_add, bd_some, st_eq, rd_eq, if_true, if_false, ite_true, ite_false, reduceIte, pn_lt8, Nat.lt_irrefl]) fu 0 0 (by omega) (fu_0 (by omega))
      have e1 : lp (fun (x : (Int32 × Int32)) σ => fX10_holders_L38 (nI (hnum (wS W).1 j)) x.1 x.2 σ) fu (0, 0) s = _ := e1
      rw [e1, bd_some, Nat.sub_zero]
      have e2 := lp_acc (step := fun (x : (Int32 × Int32)) σ => fX10_holders_L74 (nI (hnum (wS W).1 j)) x.1 x.2 σ) (u := uHo (wS W).1 (reachQ (wS W).1 (-1)) j) (n := (reachQ (wS W).1 (-1)).length) (σ := s) (fun i a hi => by
        have hq := hG.2.1 _ (getD_mem hi)
        have hz := w.sz hq
        have hgi := hG.2.2.2.1 i hi
        unfold fX10_holders_L74 uHo
        simp (disch := omega) only [pn_lt, pn_neg, pn_eq, pn_eq0, pn_eq1, pn_eq2, pn_m1, pn_m1', pn_m1lt, pn_ix, pn_bnd, pn_add1, pn_add3, pn_mul4, nI_add, bd_some, st_eq, rd_eq, if_true, if_false, ite_true, ite_false, reduceIte, hG.2.2.1, hi]
        generalize (reachQ (wS W).1 (-1)).getD i 0 = q at hq hz hgi
        have e3 := lp_acc (step := fun (x : (Int32 × Int32)) σ => fX10_holders_L85 (nI (hnum (wS W).1 j)) (nI i) x.1 x.2 σ) (u := uFl (wS W).1 q j) (n := hsz (wS W).1 q) (σ := s) (fun f a hff => by
          unfold fX10_holders_L85 fX10_holders_j149L85 fX10_holders_j150L85 uFl
          simp (disch := omega) only [pn_lt, pn_neg, pn_eq, pn_eq0, pn_eq1, pn_eq2, pn_m1, pn_m1', pn_m1lt, pn_ix, pn_bnd, pn_add1, pn_add3, pn_mul4, nI_add, bd_some, st_eq, rd_eq, if_true, if_false, ite_true, ite_false, reduceIte, hgi, e_of2 hM2.A w hq, hff, e_isWeakM hM2.A w hq (show f < 2147483648 by omega), e_of7 hM2.A w hq hff, encN_eq w (fun q' hq' => w.lk hq hff hq') hj]
          by_cases h1 : f < fst0 (wS W).1 q
          · simp [h1]
          · by_cases h2 : hlk (wS W).1 q f = some j
            · simp [h1, h2]
            · simp [h1, h2]) (fun a => by
          unfold fX10_holders_L85
          simp (disch := omega) only [pn_lt, pn_neg, pn_eq, pn_eq0, pn_eq1, pn_eq2, pn_m1, pn_m1', pn_m1lt, pn_ix, pn_bnd, pn_add1, pn_add3, pn_mul4, nI_add, bd_some, st_eq, rd_eq, if_true, if_false, ite_true, ite_false, reduceIte, hgi, e_of2 hM2.A w hq, Nat.lt_irrefl]) fu 0 a (by omega) (fu_0 (by omega))
        have e3 : lp (fun (x : (Int32 × Int32)) σ => fX10_holders_L85 (nI (hnum (wS W).1 j)) (nI i) x.1 x.2 σ) fu (a, 0) s = _ := e3
        rw [e3, bd_some, Nat.sub_zero]) (fun a => by
        unfold fX10_holders_L74
        simp (disch := omega) only [pn_lt, pn_neg, pn_eq, pn_eq0, pn_eq1, pn_eq2, pn_m1, pn_m1', pn_m1lt, pn_ix, pn_bnd, pn_add1, pn_add3, pn_mul4, nI_add, bd_some, st_eq, rd_eq, if_true, if_false, ite_true, ite_false, reduceIte, hG.2.2.1, Nat.lt_irrefl]) fu 0 (acc (uRt (wS W).1 j) 8 0 0) (by omega) (fu_0 (by omega))
      have e2 : lp (fun (x : (Int32 × Int32)) σ => fX10_holders_L74 (nI (hnum (wS W).1 j)) x.1 x.2 σ) fu (_, 0) s = _ := e2
      rw [e2, bd_some, Nat.sub_zero]
      exact hit_some ⟨rfl, hM2⟩
theorem pl_26 {xs : Nat → Int32} {n : Nat} {σ : rS} {W : Wd} (hC : CW σ W) (hM : MW σ W) (hI : InvW (40 * n) W) : PL_26 xs n σ (IW (n + 1)) := pl_w hM hI (frX9_holders _ _) (isC_of (by decide)) (fun s => frX10_holders _ s) (isM_of (by decide)) (c_holders hC hI) (fun _ hs => m_holders hs hI)
