/-! questions that walk -/
theorem subL {V W : List Nat} (h : V.all (fun c => W.contains c) = true) : ∀ c ∈ V, c ∈ W := fun c hc => List.contains_iff_mem.mp (List.all_eq_true.mp h c hc)
theorem CW.walk {σ s : rS} {W : Wd} (h : CW σ W) (e : ∀ c, ¬ c ∈ [3, 30, 31, 32, 33, 34, 35, 36] → s c = σ c) : CW s W := by
  have eS : ∀ (k : Nat) (S : Sta), CS σ k S → CS s k S := fun k S hS => hS.of_eq (by rw [e 7 (by decide)]) (fun c h1 h2 => by rw [e c (by simp only [List.mem_cons, List.not_mem_nil, or_false]; omega)]) (fun j _ => by rw [e 4 (by decide), e 28 (by decide)]; exact ⟨rfl, rfl⟩)
  obtain ⟨h1, h2, ⟨nx, h3⟩, h4⟩ := h
  refine ⟨eS _ _ h1, fun g => eS _ _ (h2 g), ⟨nx, ?_⟩, ?_⟩
  · rw [e 5 (by decide), e 29 (by decide)]
    exact ⟨h3.1, h3.2.1, h3.2.2.1, fun i hi => ⟨(h3.2.2.2 i hi).1, eS _ _ (h3.2.2.2 i hi).2⟩⟩
  · rw [e 20 (by decide), e 9 (by decide), e 8 (by decide), e 25 (by decide), e 21 (by decide), e 24 (by decide), e 22 (by decide)]
    exact h4
theorem sub_W {α : Type} {V W : List Nat} {σ : rS} {o : Option (α × rS)} (h : FR V σ o) (hs : ∀ c ∈ V, c ∈ W) : FR W σ o := fun r s e c hc => h r s e c (fun z => hc (hs c z))
/-- the class's walk from the roots -/
theorem c_reachW {σ : rS} {W : Wd} {b : Nat} (hC : CW σ W) (hI : InvW b W) (lo : Int32) : hit (fX3_reach 0 lo σ) (fun _ s => CW s W ∧ GC s (hn (wS W).1) (reachA (wS W).1 lo)) := by
  refine hit_mono (hit_fr (frX3_reach 0 lo σ) (c_reach hI.ok hC.A lo)) (fun r s h => ⟨hC.walk (fun c hc => h.1 c (fun z => hc (subL (by decide) c z))), h.2.2⟩)
theorem hit_fr2 {α : Type} {V : List Nat} {σ : rS} {o : Option (α × rS)} {K : α → rS → Prop} (hf : FR V σ o) (hp : FP σ o) (h : hit o K) : hit o (fun r s => (∀ c, ¬ c ∈ V → s c = σ c) ∧ (∀ i, KT i → s 10 0 i = σ 10 0 i) ∧ K r s) := by
  obtain ⟨r, s, rfl, hK⟩ := hit_iff.mp h
  exact ⟨hf r s rfl, hp r s rfl, hK⟩
theorem MW.walk {σ s : rS} {W : Wd} (h : MW σ W) (e : ∀ c, ¬ c ∈ [10, 68, 69, 71, 72, 73, 74, 75] → s c = σ c) (e10 : ∀ i, KT i → s 10 0 i = σ 10 0 i) : MW s W :=
  h.of_eq (fun c hc h1 h2 h3 h4 => e c (by simp only [List.mem_cons, List.not_mem_nil, or_false]; omega)) (by rw [e 66 (by decide)]) (by rw [e 66 (by decide)]) e10
theorem m_reachW {σ : rS} {W : Wd} {b : Nat} (hM : MW σ W) (hI : InvW b W) (lo : Int32) : hit (fX10_reaches 0 lo 1 σ) (fun _ s => MW s W ∧ GM s (hn (wS W).1) (reachQ (wS W).1 lo)) := by
  have hen := hI.A.en
  refine hit_mono (hit_fr2 (frX10_reaches 0 lo 1 σ) (fpX10_reaches 0 lo 1 σ) (m_reach hI.ok hM.A (by omega) lo)) (fun r s h => ⟨hM.walk (fun c hc => h.1 c (fun z => hc (subL (by decide) c z))) h.2.1, h.2.2.2⟩)
theorem pl_w {fc fm : rS → Option (Int32 × rS)} {Wc Wm : List Nat} {σ : rS} {W : Wd} {a : Int32} {n : Nat} (hM : MW σ W) (hI : InvW (40 * n) W) (frc : FR Wc σ (fc σ)) (hWc : ∀ c ∈ Wc, isC c) (frm : ∀ s, FR Wm s (fm s)) (hWm : ∀ c ∈ Wm, isM c) (hc : hit (fc σ) (fun r s => r = a ∧ CW s W)) (hm : ∀ s, MW s W → hit (fm s) (fun r t => r = a ∧ MW t W)) : ∃ r σ1 σ2, fc σ = some (r, σ1) ∧ fm σ1 = some (r, σ2) ∧ IW (n + 1) σ2 := pl_mk hM hc frc hWc hm frm hWm hI.next
theorem isC_of {V : List Nat} (h : V.all (fun c => decide (¬ c = 10 ∧ c < 60)) = true) : ∀ c ∈ V, isC c := fun c hc => of_decide_eq_true (p := ¬ c = 10 ∧ c < 60) (List.all_eq_true.mp h c hc)
theorem isM_of {V : List Nat} (h : V.all (fun c => decide (c = 10 ∨ 60 ≤ c)) = true) : ∀ c ∈ V, isM c := fun c hc => of_decide_eq_true (p := c = 10 ∨ 60 ≤ c) (List.all_eq_true.mp h c hc)
def aGar (W : Wd) (x : Int32) : Int32 := if wh W = false then -1 else match inB x 3 with
  | none => -1
  | some s => acc (uGar (wS W).1 (reachQ (wS W).1 (-1)) s) (hn (wS W).1) 0 0
theorem c_garbage {x : Int32} {σ : rS} {W : Wd} {b : Nat} (hC : CW σ W) (hI : InvW b W) : hit (fX9_garbage x σ) (fun r s => r = aGar W x ∧ CW s W) := by
  unfold fX9_garbage aGar
  rw [hC.hif]
  by_cases hh : wh W = false
  · rw [if_pos hh, if_pos hh]; exact hit_some ⟨rfl, hC⟩
  · rw [if_neg hh, if_neg hh]
    have := c_in x (b := 3) (by omega) (bd (fX3_reach 0 (-1) σ) (fun _ σ2 => bd (fX3_unseenCells 0 x σ2) (fun r3 σ4 => some (r3, σ4)))) (some (-1, σ))
    have : (if x < 0 then _ else if x < 3 then _ else _) = _ := this
    rw [this]
    rcases inB_cases x (b := 3) (by omega) with ⟨i, h, rfl, e⟩ | ⟨e, -⟩
    · rw [e]
      refine bd_hit (hit_mono (c_reachW hC hI (-1)) ?_)
      rintro r s ⟨hC2, hG⟩
      rw [c_unseen hC2.A hI.ok hG (by omega), bd_some, reachA_1]
      exact hit_some ⟨rfl, hC2⟩
    · rw [e]; exact hit_some ⟨rfl, hC⟩
theorem m_garbage {x : Int32} {σ : rS} {W : Wd} {b : Nat} (hM : MW σ W) (hI : InvW b W) : hit (fX10_garbage x σ) (fun r s => r = aGar W x ∧ MW s W) := by
  have hs := hM.t0 0
  unfold fX10_garbage aGar
  rw [st_eq, hs.hif]
  by_cases hh : wh W = false
  · rw [if_pos hh, if_pos hh]; exact hit_some ⟨rfl, hs⟩
  · rw [if_neg hh, if_neg hh, show (2 : Int64) = (nI 2).toInt64 by decide, m_in x (by omega), bd_some]
    rcases inB_cases x (b := 3) (by omega) with ⟨i, h, rfl, e⟩ | ⟨e, -⟩
    · rw [e, if_neg one_ne]
      refine bd_hit (hit_mono (m_reachW hs hI (-1)) ?_)
      rintro r s ⟨hM2, hG⟩
      rw [m_unmet hM2.A hI.ok hG (by omega), bd_some]
      exact hit_some ⟨rfl, hM2⟩
    · rw [e, if_pos rfl]; exact hit_some ⟨rfl, hs⟩
theorem pl_31 {xs : Nat → Int32} {n : Nat} {σ : rS} {W : Wd} (hC : CW σ W) (hM : MW σ W) (hI : InvW (40 * n) W) : PL_31 xs n σ (IW (n + 1)) := pl_w hM hI (frX9_garbage _ _) (isC_of (by decide)) (fun s => frX10_garbage _ s) (isM_of (by decide)) (c_garbage hC hI) (fun _ hs => m_garbage hs hI)
def aAlo (W : Wd) (x y : Int32) : Int32 := if wh W = false then -1 else match inB x 8 with
  | none => -1
  | some r => if hrt (wS W).1 r = none then -1 else match inB y 2 with
    | none => -1
    | some l => if l = 0 then nI (reachQ (wS W).1 (-1)).length - nI (reachQ (wS W).1 x).length else cellsQ (wS W).1 (reachQ (wS W).1 (-1)) - cellsQ (wS W).1 (reachQ (wS W).1 x)
theorem c_alone {x y : Int32} {σ : rS} {W : Wd} {b : Nat} (hC : CW σ W) (hI : InvW b W) : hit (fX9_alone x y σ) (fun r s => r = aAlo W x y ∧ CW s W) := by
  have w := hI.ok
  have hw := w.n
  unfold fX9_alone fX9_alone_j75 aAlo
  rw [hC.hif]
  by_cases hh : wh W = false
  · rw [if_pos hh, if_pos hh]; exact hit_some ⟨rfl, hC⟩
  · rw [if_neg hh, if_neg hh, c_isRoot, bd_some]
    rcases inB_cases x (b := 8) (by omega) with ⟨i, h, rfl, e⟩ | ⟨e, -⟩
    · rw [e, if_neg one_ne]
      simp (disch := omega) only [pn_lt, pn_neg, pn_eq, pn_eq0, pn_eq1, pn_eq2, pn_m1, pn_m1', pn_m1lt, pn_ix, pn_bnd, pn_add1, pn_add3, pn_mul4, nI_add, bd_some, st_eq, rd_eq, if_true, if_false, ite_true, ite_false, reduceIte, hC.A.rt h, enc_m1 (fun j hj => show j < 2147483648 by have := w.rt h hj; omega)]
      by_cases hr : hrt (wS W).1 i = none
      · rw [if_pos hr, if_pos hr]; exact hit_some ⟨rfl, hC⟩
      · rw [if_neg hr, if_neg hr]
        rcases inB_cases y (b := 2) (by omega) with ⟨l, hl, rfl, e2⟩ | ⟨e2, hy | ⟨i, h1, h2, rfl⟩⟩
        · rw [e2, if_neg (nI_pos (by omega)), if_neg (show ¬ (1 : Int32) < nI l by show ¬ nI 1 < nI l; rw [pn_lt (by omega) (by omega)]; omega)]
          refine bd_hit (hit_mono (c_reachW hC hI (-1)) ?_)
          rintro r s ⟨hC2, hG⟩
          have hg := hG.2.2.1
          rw [reachA_1] at hg
          simp (disch := omega) only [pn_eq0]
          by_cases l0 : l = 0
          · simp only [if_pos l0]
            refine bd_hit (hit_mono (c_reachW hC2 hI (nI i)) ?_)
            rintro r3 s3 ⟨hC3, hG3⟩
            have hg3 := hG3.2.2.1
            rw [reachA_1] at hg3
            rw [hg, hg3]
            exact hit_some ⟨rfl, hC3⟩
          · simp only [if_neg l0]
            rw [c_seenCells hC2.A w hG, bd_some]
            refine bd_hit (hit_mono (c_reachW hC2 hI (nI i)) ?_)
            rintro r3 s3 ⟨hC3, hG3⟩
            rw [c_seenCells hC3.A w hG3, bd_some, reachA_1, reachA_1]
            exact hit_some ⟨rfl, hC3⟩
        · rw [e2, if_pos hy]; exact hit_some ⟨rfl, hC⟩
        · rw [e2, if_neg (nI_pos h2), if_pos (show (1 : Int32) < nI i by show nI 1 < nI i; rw [pn_lt (by omega) (by omega)]; omega)]; exact hit_some ⟨rfl, hC⟩
    · rw [e, if_pos rfl]; exact hit_some ⟨rfl, hC⟩
theorem m_alone {x y : Int32} {σ : rS} {W : Wd} {b : Nat} (hM : MW σ W) (hI : InvW b W) : hit (fX10_alone x y σ) (fun r s => r = aAlo W x y ∧ MW s W) := by
  have w := hI.ok
  have hw := w.n
  have hs := hM.t0 0
  unfold fX10_alone aAlo
  rw [st_eq, m_isRoot hs, bd_some]
  by_cases hh : wh W = false
  · rw [if_pos hh, if_pos hh, if_pos rfl]; exact hit_some ⟨rfl, hs⟩
  · rw [if_neg hh, if_neg hh]
    rcases inB_cases x (b := 8) (by omega) with ⟨i, h, rfl, e⟩ | ⟨e, -⟩
    · have e4 : (881 : Int32) + nI i = nI (881 + i) := nI_add 881 i
      rw [e, if_neg one_ne, e4]
      simp (disch := omega) only [pn_lt, pn_neg, pn_eq, pn_eq0, pn_eq1, pn_eq2, pn_m1, pn_m1', pn_m1lt, pn_ix, pn_bnd, pn_add1, pn_add3, pn_mul4, nI_add, bd_some, st_eq, rd_eq, if_true, if_false, ite_true, ite_false, reduceIte, hs.A.rt h, encN_0 w (fun j hj => w.rt h hj)]
      by_cases hr : hrt (wS W).1 i = none
      · rw [if_pos hr, if_pos hr]; exact hit_some ⟨rfl, hs⟩
      · rw [if_neg hr, if_neg hr, show (1 : Int64) = (nI 1).toInt64 by decide, m_in y (by omega), bd_some]
        rcases inB_cases y (b := 2) (by omega) with ⟨l, hl, rfl, e2⟩ | ⟨e2, -⟩
        · rw [e2, if_neg one_ne]
          refine bd_hit (hit_mono (m_reachW hs hI (-1)) ?_)
          rintro r s ⟨hM2, hG⟩
          rw [hG.2.2.1, m_metCells hM2.A w hG, bd_some]
          refine bd_hit (hit_mono (m_reachW hM2 hI (nI i)) ?_)
          rintro r3 s3 ⟨hM3, hG3⟩
          simp (disch := omega) only [pn_eq0]
          by_cases l0 : l = 0
          · simp only [if_pos l0]
            rw [hG3.2.2.1]
            exact hit_some ⟨rfl, hM3⟩
          · simp only [if_neg l0]
            rw [m_metCells hM3.A w hG3, bd_some]
            exact hit_some ⟨rfl, hM3⟩
        · rw [e2, if_pos rfl]; exact hit_some ⟨rfl, hs⟩
    · rw [e, if_pos rfl]; exact hit_some ⟨rfl, hs⟩
theorem pl_25 {xs : Nat → Int32} {n : Nat} {σ : rS} {W : Wd} (hC : CW σ W) (hM : MW σ W) (hI : InvW (40 * n) W) : PL_25 xs n σ (IW (n + 1)) := pl_w hM hI (frX9_alone _ _ _) (isC_of (by decide)) (fun s => frX10_alone _ _ s) (isM_of (by decide)) (c_alone hC hI) (fun _ hs => m_alone hs hI)
