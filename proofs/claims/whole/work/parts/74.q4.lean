/-! at, step, end -/
def atP (A : Hp) (x y : Int32) (i : Nat) : Bool := decide (nI (hsp A i) = x) && (decide (¬ y < nI (hpl A i)) && decide (y < nI (hpl A i + (3 + hsz A i))))
def atA (A : Hp) (x y : Int32) : Option Nat := fst1 (atP A x y) (hn A) 0
def aAt (W : Wd) (x y : Int32) : Int32 := match atA (wS W).1 x y with
  | none => -1
  | some j => nI (hnum (wS W).1 j)
theorem e_findAt {σ : rS} {k : Nat} {A : Hp} (h : CR σ k A) (w : OK A) (x y : Int32) : fX7_findAt k x y σ = some (enc (atA A x y), σ) := by
  have hw := w.n
  have key : ∀ i, i < hn A → fX7_findAt_L2 k x y (nI i) σ = some (if atP A x y i = true then .inr (.inl (nI i)) else .inl (nI (i + 1)), σ) := fun i hi => by
    have hq1 := w.pl hi
    have hq2 := w.sz hi
    unfold fX7_findAt_L2 fX7_findAt_j48L2 atP
    simp (disch := omega) only [h.n, pn_lt, pn_neg, pn_eq, pn_eq0, pn_eq1, pn_eq2, pn_m1, pn_m1', pn_m1lt, pn_ix, pn_bnd, pn_add1, pn_add3, pn_mul4, nI_add, bd_some, st_eq, rd_eq, if_true, if_false, ite_true, ite_false, reduceIte, hi, h.sp hi, h.pl hi, e_cells h w hi]
    by_cases h1 : nI (hsp A i) = x
    · by_cases h2 : y < nI (hpl A i)
      · simp [h1, h2]
      · by_cases h3 : y < nI (hpl A i + (3 + hsz A i))
        · simp [h1, h2, h3]
        · simp [h1, h2, h3]
    · simp [h1]
  unfold fX7_findAt
  have e := lp_find (step := fun x3 σ => fX7_findAt_L2 k x y x3 σ) (p := atP A x y) (n := hn A) (σ := σ) (by omega)
    (fun i hi hp => by
      have := key i hi
      rw [hp, if_pos rfl] at this
      exact this)
    (fun i hi hp => by
      have := key i hi
      rw [hp] at this
      exact this)
    (by
      unfold fX7_findAt_L2
      simp (disch := omega) only [h.n, pn_lt, pn_neg, pn_eq, pn_eq0, pn_eq1, pn_eq2, pn_m1, pn_m1', pn_m1lt, pn_ix, pn_bnd, pn_add1, pn_add3, pn_mul4, nI_add, bd_some, st_eq, rd_eq, if_true, if_false, ite_true, ite_false, reduceIte, Nat.lt_irrefl]) fu 0 (Nat.zero_le _) (by have := fu_ge; omega)
  have e : lp (fun x3 σ => fX7_findAt_L2 k x y x3 σ) fu 0 σ = _ := e
  rw [e, bd_some]
  unfold atA
  rw [Nat.sub_zero]
  cases fst1 (atP A x y) (hn A) 0 <;> rfl
theorem atA_lt {A : Hp} {x y : Int32} {j : Nat} (hf : atA A x y = some j) : j < hn A := by
  obtain ⟨-, h2, -, -⟩ := fst1_some hf
  omega
theorem c_at {x y : Int32} {σ : rS} {W : Wd} {b : Nat} (hC : CW σ W) (hI : InvW b W) : fX9_at x y σ = some (aAt W x y, σ) := by
  have hw := hI.ok.n
  unfold fX9_at aAt
  rw [e_findAt hC.A hI.ok, bd_some]
  cases hf : atA (wS W).1 x y with
  | none => rw [enc_none, if_pos rfl]
  | some j =>
    have hj := atA_lt hf
    rw [enc_some, if_neg (by rw [pn_m1 (by omega)]; exact id), e_numberOf hC.A hI.ok hj, bd_some]
theorem lt_pred {y : Int32} {a : Nat} (h1 : 1 ≤ a) (ha : a < 2147483648) : (nI a - 1 < y) = ¬ (y < nI a) := by
  rw [pn_sub1 h1]
  rcases i32_cases y with hy | ⟨i, hi, rfl⟩
  · rw [eq_true (neg_lt hy (nI_pos ha)), eq_false (neg_nlt hy (nI_pos (by omega)))]
    simp
  · rw [pn_lt (by omega) (by omega), pn_lt (by omega) (by omega)]
    apply propext
    omega
theorem m_at {x y : Int32} {σ : rS} {W : Wd} {b : Nat} (hM : MW σ W) (hI : InvW b W) : fX10_at x y σ = some (aAt W x y, wr σ 10 0 0 0) := by
  have w := hI.ok
  have hw := w.n
  have hs := hM.t0 0
  have key : ∀ i, i < hn (wS W).1 → fX10_at_L7 x y (nI i) (wr σ 10 0 0 0) = some (if atP (wS W).1 x y i = true then .inr (.inl (nI i)) else .inl (nI (i + 1)), wr σ 10 0 0 0) := fun i hi => by
    have hq1 := w.pl hi
    have hq2 := w.sz hi
    have e0 : wr σ 10 0 0 0 66 0 (ix 0) = nI (hn (wS W).1) := hs.A.n
    unfold fX10_at_L7 fX10_at_j81L7 atP
    rw [e0]
    simp (disch := omega) only [pn_lt, pn_neg, pn_eq, pn_eq0, pn_eq1, pn_eq2, pn_m1, pn_m1', pn_m1lt, pn_ix, pn_bnd, pn_add1, pn_add3, pn_mul4, nI_add, bd_some, st_eq, rd_eq, if_true, if_false, ite_true, ite_false, reduceIte, hi, e_of5 hs.A w hi, e_of6 hs.A w hi, e_sizeOf hs.A w hi, e_isIn, lt_pred]
    by_cases h1 : nI (hsp (wS W).1 i) = x
    · by_cases h2 : y < nI (hpl (wS W).1 i)
      · simp [h1, h2]
      · by_cases h3 : y < nI (hpl (wS W).1 i + (3 + hsz (wS W).1 i))
        · simp [h1, h2, h3]
        · simp [h1, h2, h3]
    · simp [h1]
  unfold fX10_at aAt
  have e := lp_find (step := fun x3 σ => fX10_at_L7 x y x3 σ) (p := atP (wS W).1 x y) (n := hn (wS W).1) (σ := wr σ 10 0 0 0) (by omega)
    (fun i hi hp => by
      have := key i hi
      rw [hp, if_pos rfl] at this
      exact this)
    (fun i hi hp => by
      have := key i hi
      rw [hp] at this
      exact this)
    (by
      have e0 : wr σ 10 0 0 0 66 0 (ix 0) = nI (hn (wS W).1) := hs.A.n
      unfold fX10_at_L7
      rw [e0]
      simp (disch := omega) only [pn_lt, pn_neg, pn_eq, pn_eq0, pn_eq1, pn_eq2, pn_m1, pn_m1', pn_m1lt, pn_ix, pn_bnd, pn_add1, pn_add3, pn_mul4, nI_add, bd_some, st_eq, rd_eq, if_true, if_false, ite_true, ite_false, reduceIte, Nat.lt_irrefl]) fu 0 (Nat.zero_le _) (by have := fu_ge; omega)
  have e : lp (fun x3 σ => fX10_at_L7 x y x3 σ) fu 0 (wr σ 10 0 0 0) = _ := e
  rw [st_eq, e, bd_some, Nat.sub_zero]
  cases hf : atA (wS W).1 x y with
  | none =>
    unfold atA at hf
    rw [hf]
  | some j =>
    have hj := atA_lt hf
    unfold atA at hf
    rw [hf]
    dsimp only
    rw [e_of0 hs.A w hj, bd_some]
theorem pl_8 {xs : Nat → Int32} {n : Nat} {σ : rS} {W : Wd} (hC : CW σ W) (hM : MW σ W) (hI : InvW (40 * n) W) : PL_8 xs n σ (IW (n + 1)) := pl_q hC hM hI (c_at hC hI) (fun _ hs => m_at hs hI)
def aStep (W : Wd) (x y z : Int32) : Int32 := match inB x (wC W).length with
  | none => -1000000
  | some s => match inB y ((wC W).getD s noC).1 with
    | none => -1000000
    | some i => match inB z 5 with
      | none => -1000000
      | some f => ((wC W).getD s noC).2 (5 * i + f)
theorem c_isScript {x : Int32} {σ : rS} {W : Wd} {b : Nat} (hC : CW σ W) (hI : InvW b W) : fX9_isScript x σ = some (match inB x (wC W).length with
    | some _ => 1
    | none => 0, σ) := by
  have := hI.2.2.2.2.2.2.1
  unfold fX9_isScript
  rw [hC.cl, c_in x (by omega)]
  cases inB x (wC W).length <;> rfl
theorem c_step {x y z : Int32} {σ : rS} {W : Wd} {b : Nat} (hC : CW σ W) (hI : InvW b W) : fX9_step x y z σ = some (aStep W x y z, σ) := by
  have h4 := hI.2.2.2.2.2.2.1
  unfold fX9_step aStep
  rw [c_isScript hC hI, bd_some]
  rcases inB_cases x (b := (wC W).length) (by omega) with ⟨s, hs, rfl, e⟩ | ⟨e, -⟩
  · have hq := hI.2.2.2.2.2.2.2 _ (getD_mem' (d := noC) hs)
    have h16 := hq.2.1
    have hc := hC.ci hs
    rw [e, if_neg one_ne]
    simp (disch := omega) only [pn_lt, pn_neg, pn_eq, pn_eq0, pn_eq1, pn_eq2, pn_m1, pn_m1', pn_m1lt, pn_ix, pn_bnd, pn_add1, pn_add3, pn_mul4, nI_add, bd_some, st_eq, rd_eq, if_true, if_false, ite_true, ite_false, reduceIte, hc.1]
    rw [c_in y (by omega)]
    rcases inB_cases y (b := ((wC W).getD s noC).1) (by omega) with ⟨i, hi, rfl, e2⟩ | ⟨e2, -⟩
    · rw [e2]
      dsimp only
      have := c_in z (b := 5) (by omega) (bnd ((nI i * 5) + z) 80 (some (σ 24 s (ix ((nI i * 5) + z)), σ))) (some (-1000000, σ))
      have : (if z < 0 then _ else if z < 5 then _ else _) = _ := this
      rw [this]
      rcases inB_cases z (b := 5) (by omega) with ⟨f, hf, rfl, e3⟩ | ⟨e3, -⟩
      · have e5 : nI i * 5 + nI f = nI (5 * i + f) := by
          have : nI i * 5 = nI (i * 5) := (Int32.ofNat_mul i 5).symm
          rw [this, nI_add, Nat.mul_comm]
        rw [e3, e5]
        simp (disch := omega) only [pn_lt, pn_neg, pn_eq, pn_eq0, pn_eq1, pn_eq2, pn_m1, pn_m1', pn_m1lt, pn_ix, pn_bnd, pn_add1, pn_add3, pn_mul4, nI_add, bd_some, st_eq, rd_eq, if_true, if_false, ite_true, ite_false, reduceIte]
        rw [hc.2 (5 * i + f) (by omega)]
      · rw [e3]
    · rw [e2]
  · rw [e, if_pos rfl]
theorem m_isScript {x : Int32} {σ : rS} {W : Wd} {b : Nat} (hM : MW σ W) (hI : InvW b W) : fX10_isScript x σ = some (match inB x (wC W).length with
    | some _ => 1
    | none => 0, σ) := by
  have := hI.2.2.2.2.2.2.1
  unfold fX10_isScript
  rw [hM.cl, m_in1 x (by omega), bd_some]
  cases inB x (wC W).length <;> rfl
theorem m_step {x y z : Int32} {σ : rS} {W : Wd} {b : Nat} (hM : MW σ W) (hI : InvW b W) : fX10_step x y z σ = some (aStep W x y z, wr σ 10 0 0 0) := by
  have h4 := hI.2.2.2.2.2.2.1
  have ht := hM.t0 0
  unfold fX10_step aStep
  rw [st_eq, m_isScript ht hI, bd_some]
  rcases inB_cases x (b := (wC W).length) (by omega) with ⟨s, hs, rfl, e⟩ | ⟨e, -⟩
  · have hq := hI.2.2.2.2.2.2.2 _ (getD_mem' (d := noC) hs)
    have h16 := hq.2.1
    have hc := ht.ci hs
    rw [e, if_neg one_ne]
    simp (disch := omega) only [pn_lt, pn_neg, pn_eq, pn_eq0, pn_eq1, pn_eq2, pn_m1, pn_m1', pn_m1lt, pn_ix, pn_bnd, pn_add1, pn_add3, pn_mul4, nI_add, bd_some, st_eq, rd_eq, if_true, if_false, ite_true, ite_false, reduceIte, hc.1]
    rw [m_in1 y (by omega), bd_some]
    rcases inB_cases y (b := ((wC W).getD s noC).1) (by omega) with ⟨i, hi, rfl, e2⟩ | ⟨e2, -⟩
    · rw [e2, if_neg one_ne, show (4 : Int64) = (nI 4).toInt64 by decide, m_in z (by omega), bd_some]
      rcases inB_cases z (b := 5) (by omega) with ⟨f, hf, rfl, e3⟩ | ⟨e3, -⟩
      · have e5 : (5 : Int32) * ((16 : Int32) * nI s + nI i) + nI f = nI (80 * s + (5 * i + f)) := by
          have h1 : (16 : Int32) * nI s = nI (16 * s) := (Int32.ofNat_mul 16 s).symm
          have h2 : (5 : Int32) * nI (16 * s + i) = nI (5 * (16 * s + i)) := (Int32.ofNat_mul 5 _).symm
          rw [h1, nI_add, h2, nI_add]
          congr 1
          omega
        rw [e3, if_neg one_ne, e5]
        simp (disch := omega) only [pn_lt, pn_neg, pn_eq, pn_eq0, pn_eq1, pn_eq2, pn_m1, pn_m1', pn_m1lt, pn_ix, pn_bnd, pn_add1, pn_add3, pn_mul4, nI_add, bd_some, st_eq, rd_eq, if_true, if_false, ite_true, ite_false, reduceIte]
        rw [hc.2 (5 * i + f) (by omega)]
      · rw [e3, if_pos rfl]
    · rw [e2, if_pos rfl]
  · rw [e, if_pos rfl]
theorem pl_32 {xs : Nat → Int32} {n : Nat} {σ : rS} {W : Wd} (hC : CW σ W) (hM : MW σ W) (hI : InvW (40 * n) W) : PL_32 xs n σ (IW (n + 1)) := pl_q hC hM hI (c_step hC hI) (fun _ hs => m_step hs hI)
/-- another tape -/
def setT (W : Wd) (T : List Nat) : Wd := (wS W, wI W, wP W, wR W, wh W, wg W, T, wC W, wZ W)
theorem CW.tape {σ s : rS} {W : Wd} {T : List Nat} (h : CW σ W) (e : ∀ c, isC c → ¬ c = 8 → ¬ c = 25 → s c = σ c) (h1 : s 8 0 1 = nI T.length) (h2 : ∀ i, i < T.length → s 25 0 i = nI (T.getD i 0)) : CW s (setT W T) := by
  have h0 : CW (fun c => if c = 8 then σ 8 else if c = 25 then σ 25 else s c) W := h.of_eq (fun c hc => by
    show (if c = 8 then _ else _) = _
    by_cases e8 : c = 8
    · rw [if_pos e8, e8]
    · rw [if_neg e8]
      by_cases e25 : c = 25
      · rw [if_pos e25, e25]
      · rw [if_neg e25]; exact e c hc e8 e25)
  exact ⟨h0.1, h0.2.1, h0.2.2.1, h0.2.2.2.1, h0.2.2.2.2.1, h0.2.2.2.2.2.1, ⟨h1, h2⟩, h0.2.2.2.2.2.2.2⟩
theorem MW.tape {σ s : rS} {W : Wd} {T : List Nat} (h : MW σ W) (e : ∀ c, isM c → ¬ c = 10 → ¬ c = 60 → s c = σ c) (e10 : ∀ i, KT i → ¬ i = 2 → s 10 0 i = σ 10 0 i) (h1 : s 10 0 2 = nI T.length) (h2 : ∀ i, i < T.length → s 60 0 i &&& 255 = nI (T.getD i 0)) : MW s (setT W T) := by
  unfold MW MPast at h ⊢
  rw [e 66 (Or.inr (by omega)) (by omega) (by omega), e 67 (Or.inr (by omega)) (by omega) (by omega), e 62 (Or.inr (by omega)) (by omega) (by omega), e 65 (Or.inr (by omega)) (by omega) (by omega), e 64 (Or.inr (by omega)) (by omega) (by omega), e 63 (Or.inr (by omega)) (by omega) (by omega), e10 17 (by unfold KT; omega) (by omega), e10 18 (by unfold KT; omega) (by omega), e10 11 (by unfold KT; omega) (by omega), e10 19 (by unfold KT; omega) (by omega), e10 10 (by unfold KT; omega) (by omega)]
  exact ⟨h.1, h.2.1, h.2.2.1, h.2.2.2.1, h.2.2.2.2.1, h.2.2.2.2.2.1, ⟨h1, h2⟩, h.2.2.2.2.2.2.2⟩
theorem getD_take {L : List Nat} {n i : Nat} (hi : i < (L.take n).length) : (L.take n).getD i 0 = L.getD i 0 := by
  rw [List.length_take] at hi
  rw [List.getD_eq_getElem?_getD, List.getD_eq_getElem?_getD, List.getElem?_take, if_pos (by omega)]
theorem InvW.tape {b : Nat} {W : Wd} {T : List Nat} (h : InvW b W) (h1 : T.length ≤ 240) (h2 : ∀ x ∈ T, 1 ≤ x ∧ x ≤ 255) : InvW b (setT W T) := ⟨h.1, h.2.1, h.2.2.1, h.2.2.2.1, h.2.2.2.2.1, ⟨h1, h2⟩, h.2.2.2.2.2.2⟩
theorem pl_1 {xs : Nat → Int32} {n : Nat} {σ : rS} {W : Wd} (hC : CW σ W) (hM : MW σ W) (hI : InvW (40 * n) W) : PL_1 xs n σ (IW (n + 1)) := by
  unfold PL_1
  generalize xs (6 * n + 1) = x
  have h240 := hI.2.2.2.2.2.1.1
  rcases inB_cases x (b := (wT W).length + 1) (by omega) with ⟨i, hi, rfl, -⟩ | ⟨-, hx⟩
  · have el : ((wT W).take i).length = i := by rw [List.length_take]; omega
    refine pl_mk (W' := setT W ((wT W).take i)) (a := 1) (fc := fun σ => fX9_end (nI i) σ) (fm := fun σ => fX10_end (nI i) σ) hM ?_ (frX9_end _ _) ?_ ?_ (fun s => frX10_end _ s) ?_ ?_
    · unfold fX9_end
      rw [if_neg (nI_pos (by omega)), hC.tl, if_neg (by rw [pn_lt (by omega) (by omega)]; omega), st_eq]
      refine hit_some ⟨rfl, hC.tape (fun c _ h8 _ => wr_c h8) (by rw [el]; exact wr_same _ _ _ _ _) (fun j hj => ?_)⟩
      rw [wr_c (by decide), getD_take hj]
      exact hC.ti (by rw [el] at hj; omega)
    · intro c hc
      revert c
      unfold isC
      decide
    · intro s hs
      unfold fX10_end
      have ht := hs.t0 0
      rw [st_eq, if_neg (nI_pos (by omega)), ht.tl, if_neg (by rw [pn_lt (by omega) (by omega)]; omega), st_eq]
      refine hit_some ⟨rfl, ht.tape (fun c _ h10 _ => wr_c h10) (fun j _ hj => wr_i hj) (by rw [el]; exact wr_same _ _ _ _ _) (fun j hj => ?_)⟩
      rw [wr_c (by decide), getD_take hj]
      exact ht.2.2.2.2.2.2.1.2 j (by rw [el] at hj; omega)
    · intro c hc
      revert c
      unfold isM
      decide
    · exact hI.next.tape (by omega) (fun q hq => hI.2.2.2.2.2.1.2 q (List.mem_of_mem_take hq))
  · refine pl_q hC hM hI (a := 0) (fc := fun σ => fX9_end x σ) (fm := fun σ => fX10_end x σ) ?_ (fun s hs => ?_)
    · unfold fX9_end
      rw [hC.tl]
      rcases hx with hx | ⟨i, h1, h2, rfl⟩
      · rw [if_pos hx]
      · rw [if_neg (nI_pos h2), if_pos (by rw [pn_lt (by omega) (by omega)]; omega)]
    · unfold fX10_end
      have ht := hs.t0 0
      rw [st_eq, ht.tl]
      rcases hx with hx | ⟨i, h1, h2, rfl⟩
      · rw [if_pos hx]
      · rw [if_neg (nI_pos h2), if_pos (by rw [pn_lt (by omega) (by omega)]; omega)]
