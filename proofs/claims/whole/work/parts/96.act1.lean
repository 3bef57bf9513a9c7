/-! small acts: empty a root, load, tell, ask -/
abbrev AR : Type := Nat ⊕ (Int32 × Int32 × Hp)
def CA (k : Nat) (what : Int32) (A : Hp) (L : Lg) (q : AR) (r : Int32) (s : rS) : Prop := match q with
  | .inl why => r = -1 - nI why ∧ CS s k (A, L)
  | .inr (came, lg, A') => r = came ∧ CS s k (A', logAdd L (what, lg, cellsA A'))
def MA (v : Nat) (τ : rS) (A : Hp) (q : AR) (r : Int32) (s : rS) : Prop := (∀ i, 1373 ≤ i → s 66 v i = τ 66 v i) ∧ match q with
  | .inl why => r = nI why ∧ MR (s 66 v) A
  | .inr (came, lg, A') => r = -1 ∧ s 10 0 28 = came ∧ s 10 0 30 = lg ∧ MR (s 66 v) A'
theorem opt_cases {α : Type} (o : Option α) : o = none ∨ ∃ j, o = some j := by
  cases o with
  | none => exact Or.inl rfl
  | some j => exact Or.inr ⟨j, rfl⟩
theorem encN_rt (A : Hp) (g : Nat → Option Nat) (o : Option Nat) : encN (sRt A g) o = encN A o := by cases o <;> rfl
theorem OK.root {A : Hp} (w : OK A) {r : Nat} {o : Option Nat} (ho : ∀ j, o = some j → j < hn A) : OK (sRt A (upx (hrt A) r o)) := by
  refine ⟨w.1, w.2.1, fun q j hq hj => ?_, w.2.2.2⟩
  have hj : upx (hrt A) r o q = some j := hj
  by_cases e : q = r
  · rw [e, upx_same] at hj; exact ho j hj
  · rw [upx_ne e] at hj; exact w.rt hq hj
theorem Inv.root {R : Nat → Nat} {b : Nat} {A : Hp} (h : Inv R b A) {r : Nat} {o : Option Nat} (ho : ∀ j, o = some j → j < hn A) : Inv R b (sRt A (upx (hrt A) r o)) := ⟨h.1.root ho, h.2⟩
/-! empty a root -/
def doDrop (A : Hp) (x : Int32) : AR := match inB x 8 with
  | none => .inl 0
  | some r => match hrt A r with
    | none => .inl 2
    | some j => .inr (nI (hnum A j), nI (hnum A j), sRt A (upx (hrt A) r none))
theorem c_drop {σ : rS} {k : Nat} {A : Hp} {L : Lg} (hC : CS σ k (A, L)) (w : OK A) (x : Int32) : hit (fX0_emptyRoot k x σ) (CA k 3 A L (doDrop A x)) := by
  have hR0 : CR σ k A := hC.1
  have hw := w.n
  unfold fX0_emptyRoot doDrop
  rw [c_isRoot, bd_some]
  rcases inB_cases x (b := 8) (by omega) with ⟨i, h, rfl, e⟩ | ⟨e, -⟩
  · have e53 := hR0.rt h
    rw [e]
    simp (disch := omega) only [pn_lt, pn_neg, pn_eq, pn_eq0, pn_eq1, pn_eq2, pn_m1, pn_m1', pn_m1lt, pn_ix, pn_bnd, pn_add1, pn_add3, pn_mul4, nI_add, bd_some, st_eq, rd_eq, if_true, if_false, ite_true, ite_false, reduceIte, one_ne, e53]
    cases hr : hrt A i with
    | none =>
      rw [enc_none, if_pos rfl]
      exact hit_some ⟨by decide, hC⟩
    | some j =>
      have hj := w.rt h hr
      have w1 := w.root (r := i) (o := none) (fun q hq => by cases hq)
      rw [enc_some, if_neg (by rw [pn_m1 (by omega)]; exact id)]
      have hC1 : CS (wr σ 53 k i (-1)) k (sRt A (upx (hrt A) i none), L) := cs_root hC
      have en := e_numberOf hC1.1 w1 hj
      rw [en, bd_some]
      refine bd_hit (hit_mono (c_note hC1 3 (nI (hnum A j))) ?_)
      rintro r s hS
      have en2 := e_numberOf hS.1 w1 hj
      rw [en2, bd_some]
      exact hit_some ⟨rfl, hS⟩
  · rw [e, if_pos rfl]
    exact hit_some ⟨by decide, hC⟩
/-- the model's root test, a heap being there -/
theorem m_isRoot' {σ : rS} (h : ¬ σ 10 0 11 = 0) (x : Int32) : fX10_isRoot x σ = some (match inB x 8 with
    | some _ => 1
    | none => 0, σ) := by
  unfold fX10_isRoot
  rw [if_neg h]
  have := c_in x (b := 8) (by omega) (some ((1 : Int32), σ)) (some (0, σ))
  have : (if x < 0 then _ else if x < 8 then _ else _) = _ := this
  rw [this]
  cases inB x 8 <;> rfl
theorem pm_881 (i : Nat) : (881 : Int32) + nI i = nI (881 + i) := nI_add 881 i
theorem m_drop {τ : rS} {v : Nat} {A : Hp} (hM : MR (τ 66 v) A) (w : OK A) (hb : Bd A) (h11 : ¬ τ 10 0 11 = 0) (x y z d : Int32) : hit (fX10_does v 3 x y z d τ) (MA v τ A (doDrop A x)) := by
  have hw := w.n
  unfold fX10_does fX10_stops doDrop
  rw [if_neg h11, if_neg (by decide), if_neg (by decide), if_neg (by decide), if_pos rfl, m_isRoot' h11, bd_some]
  rcases inB_cases x (b := 8) (by omega) with ⟨i, h, rfl, e⟩ | ⟨e, -⟩
  · have e66 := hM.rt h
    rw [e]
    simp (disch := omega) only [pn_lt, pn_neg, pn_eq, pn_eq0, pn_eq1, pn_eq2, pn_m1, pn_m1', pn_m1lt, pn_ix, pn_bnd, pn_add1, pn_add3, pn_mul4, nI_add, bd_some, st_eq, rd_eq, if_true, if_false, ite_true, ite_false, reduceIte, one_ne, pm_881, e66]
    cases hr : hrt A i with
    | none =>
      rw [show encN A none = 0 from rfl, if_pos rfl, bd_some, if_neg (by decide)]
      exact hit_some ⟨fun _ _ => rfl, rfl, hM⟩
    | some j =>
      have hj := w.rt h hr
      rw [hr] at e66
      have n1 := w.num1 hj
      have n2 := w.num2 hj
      rw [show encN A (some j) = nI (hnum A j) from rfl, if_neg (by rw [pn_eq0 (by omega)]; omega), bd_some, if_pos rfl, if_pos (by decide), if_pos (by decide), e66, show encN A (some j) = nI (hnum A j) from rfl]
      unfold fX10_does_j45
      have e1 : wr τ 10 0 30 (nI (hnum A j)) 66 v (881 + i) = nI (hnum A j) := by rw [wr_c (by decide)]; exact e66
      rw [st_eq, if_neg (by decide), if_neg (by decide), if_neg (by decide), if_pos rfl]
      simp (disch := omega) only [pn_lt, pn_neg, pn_eq, pn_eq0, pn_eq1, pn_eq2, pn_m1, pn_m1', pn_m1lt, pn_ix, pn_bnd, pn_add1, pn_add3, pn_mul4, nI_add, bd_some, st_eq, rd_eq, if_true, if_false, ite_true, ite_false, reduceIte, pm_881, e1]
      refine hit_some ⟨fun q hq => ?_, rfl, ?_, ?_, ?_⟩
      · rw [wr_i (by omega), wr_c (by decide), wr_c (by decide)]
      · rw [wr_c (by decide), wr_same]
      · rw [wr_c (by decide), wr_i (by decide), wr_same]
      · refine hM.root w hb h ?_ (fun q hq hne => ?_)
        · rw [wr_same]; rfl
        · rw [wr_i hne, wr_c (by decide), wr_c (by decide)]
  · rw [e, if_pos rfl, bd_some, if_neg (by decide)]
    exact hit_some ⟨fun _ _ => rfl, rfl, hM⟩
def IvA (R : Nat → Nat) (b : Nat) (q : AR) : Prop := match q with
  | .inl why => why < 4
  | .inr (came, _, A') => ¬ came < 0 ∧ Inv R b A'
theorem i_drop {R : Nat → Nat} {b : Nat} {A : Hp} (h : Inv R b A) (x : Int32) : IvA R b (doDrop A x) := by
  unfold doDrop
  rcases inB_cases x (b := 8) (by omega) with ⟨i, hi, rfl, e⟩ | ⟨e, -⟩
  · rw [e]
    dsimp only
    cases hr : hrt A i with
    | none => exact (by decide : 2 < 4)
    | some j =>
      have := h.ok.num2 (h.ok.rt hi hr)
      exact ⟨nI_pos (by omega), h.root (fun q hq => by cases hq)⟩
  · rw [e]; exact (by decide : 0 < 4)
/-! load a root -/
def doLoad (A : Hp) (x y z : Int32) : AR := match inB x 8 with
  | none => .inl 0
  | some r => match inB y 8 with
    | none => .inl 0
    | some q => match hrt A q with
      | none => .inl 0
      | some j => match inB z (hsz A j) with
        | none => .inl 1
        | some f => .inr (encN A (hlk A j f), encN A (hrt A r), sRt A (upx (hrt A) r (hlk A j f)))
theorem e_numberOf_r {σ : rS} {k : Nat} {A : Hp} {g : Nat → Option Nat} (h : CR σ k (sRt A g)) (w : OK (sRt A g)) {o : Option Nat} (ho : ∀ j, o = some j → j < hn A) : fX7_numberOf k (enc o) σ = some (encN A o, σ) := by
  have := e_numberOf_o h w (o := o) ho
  rw [encN_rt] at this
  exact this
theorem c_isLinked {σ : rS} {k : Nat} {A : Hp} (hC : CR σ k A) (w : OK A) (x : Int32) : fX0_isLinkedRoot k x σ = some (match inB x 8 with
    | some r => (match hrt A r with | none => 0 | some _ => 1)
    | none => 0, σ) := by
  have hw := w.n
  unfold fX0_isLinkedRoot
  rw [c_isRoot, bd_some]
  rcases inB_cases x (b := 8) (by omega) with ⟨i, h, rfl, e⟩ | ⟨e, -⟩
  · have e53 := hC.rt h
    rw [e]
    simp (disch := omega) only [pn_lt, pn_neg, pn_eq, pn_eq0, pn_eq1, pn_eq2, pn_m1, pn_m1', pn_m1lt, pn_ix, pn_bnd, pn_add1, pn_add3, pn_mul4, nI_add, bd_some, st_eq, rd_eq, if_true, if_false, ite_true, ite_false, reduceIte, one_ne, e53]
    cases hr : hrt A i with
    | none => rw [enc_none, if_pos rfl]
    | some j =>
      have hj := w.rt h hr
      rw [enc_some, if_neg (by rw [pn_m1 (by omega)]; exact id)]
  · rw [e, if_pos rfl]
/-- a field's test, the two sides' -/
theorem c_hasF {σ : rS} {k : Nat} {A : Hp} {j : Nat} (hC : CR σ k A) (w : OK A) (hj : j < hn A) (x : Int32) : fX7_hasField k (nI j) x σ = some (match inB x (hsz A j) with
    | some _ => 1
    | none => 0, σ) := by
  have hz := w.sz hj
  rw [e_hasField hC w hj]
  rcases inB_cases x (b := hsz A j) (by omega) with ⟨i, h, rfl, e⟩ | ⟨e, hx2 | ⟨i, h1, h2, rfl⟩⟩
  · rw [e, if_neg (nI_pos (by omega)), if_pos (by rw [pn_lt (by omega) (by omega)]; exact h)]
  · rw [e, if_pos hx2]
  · rw [e, if_neg (nI_pos (by omega)), if_neg (by rw [pn_lt (by omega) (by omega)]; omega)]
theorem c_load {σ : rS} {k : Nat} {A : Hp} {L : Lg} (hC : CS σ k (A, L)) (w : OK A) (x y z : Int32) : hit (fX0_loadRoot k x y z σ) (CA k 2 A L (doLoad A x y z)) := by
  have hR0 : CR σ k A := hC.1
  have hw := w.n
  unfold fX0_loadRoot doLoad
  rw [c_isRoot, bd_some]
  rcases inB_cases x (b := 8) (by omega) with ⟨r, hr, rfl, e⟩ | ⟨e, -⟩
  · rw [e]
    dsimp only
    rw [if_neg one_ne, c_isLinked hR0 w, bd_some]
    rcases inB_cases y (b := 8) (by omega) with ⟨q, hq, rfl, e2⟩ | ⟨e2, -⟩
    · rw [e2]
      dsimp only
      have e53 := hR0.rt hq
      have e53r := hR0.rt hr
      rcases opt_cases (hrt A q) with hqr | ⟨j, hqr⟩
      · simp only [hqr, if_pos]
        exact hit_some ⟨by decide, hC⟩
      · have hj := w.rt hq hqr
        have hz := w.sz hj
        rw [hqr, enc_some] at e53
        simp only [hqr, if_neg one_ne]
        simp (disch := omega) only [pn_lt, pn_neg, pn_eq, pn_eq0, pn_eq1, pn_eq2, pn_m1, pn_m1', pn_m1lt, pn_ix, pn_bnd, pn_add1, pn_add3, pn_mul4, nI_add, bd_some, st_eq, rd_eq, if_true, if_false, ite_true, ite_false, reduceIte, e53]
        rw [c_hasF hR0 w hj, bd_some]
        rcases inB_cases z (b := hsz A j) (by omega) with ⟨f, hf, rfl, e3⟩ | ⟨e3, -⟩
        · rw [e3]
          dsimp only
          rw [if_neg one_ne]
          simp (disch := omega) only [pn_lt, pn_neg, pn_eq, pn_eq0, pn_eq1, pn_eq2, pn_m1, pn_m1', pn_m1lt, pn_ix, pn_bnd, pn_add1, pn_add3, pn_mul4, nI_add, bd_some, st_eq, rd_eq, if_true, if_false, ite_true, ite_false, reduceIte, e53r]
          rw [e_target hR0 w hj hf, bd_some]
          have ho : ∀ i, hlk A j f = some i → i < hn A := fun i hi => w.lk hj hf hi
          have w1 := w.root (r := r) ho
          have hC1 : CS (wr σ 53 k r (enc (hlk A j f))) k (sRt A (upx (hrt A) r (hlk A j f)), L) := cs_root hC
          rw [e_numberOf_r hC1.1 w1 (fun i hi => w.rt hr hi), bd_some]
          refine bd_hit (hit_mono (c_note hC1 2 (encN A (hrt A r))) ?_)
          rintro r' s hS
          rw [e_numberOf_r hS.1 w1 ho, bd_some]
          exact hit_some ⟨rfl, hS⟩
        · rw [e3, if_pos rfl]
          exact hit_some ⟨by decide, hC⟩
    · rw [e2, if_pos rfl]
      exact hit_some ⟨by decide, hC⟩
  · rw [e, if_pos rfl]
    exact hit_some ⟨by decide, hC⟩
theorem m_load {τ : rS} {v : Nat} {A : Hp} (hM : MR (τ 66 v) A) (w : OK A) (hb : Bd A) (h11 : ¬ τ 10 0 11 = 0) (x y z d : Int32) : hit (fX10_does v 2 x y z d τ) (MA v τ A (doLoad A x y z)) := by
  have hw := w.n
  unfold fX10_does fX10_stops fX10_stops_j162 doLoad
  rw [if_neg h11, if_neg (by decide), if_neg (by decide), if_pos rfl, m_isRoot' h11, bd_some]
  rcases inB_cases x (b := 8) (by omega) with ⟨r, hr, rfl, e⟩ | ⟨e, -⟩
  · rw [e]
    dsimp only
    rw [if_neg one_ne, m_isRoot' h11, bd_some]
    rcases inB_cases y (b := 8) (by omega) with ⟨q, hq, rfl, e2⟩ | ⟨e2, -⟩
    · rw [e2]
      dsimp only
      rw [if_neg one_ne]
      have e66 := hM.rt hq
      have e66r := hM.rt hr
      simp (disch := omega) only [pn_lt, pn_neg, pn_eq, pn_eq0, pn_eq1, pn_eq2, pn_m1, pn_m1', pn_m1lt, pn_ix, pn_bnd, pn_add1, pn_add3, pn_mul4, nI_add, bd_some, st_eq, rd_eq, if_true, if_false, ite_true, ite_false, reduceIte, pm_881, e66]
      cases hqr : hrt A q with
      | none =>
        rw [show encN A none = 0 from rfl, if_pos rfl, bd_some, if_neg (by decide)]
        exact hit_some ⟨fun _ _ => rfl, rfl, hM⟩
      | some j =>
        have hj := w.rt hq hqr
        have hz := w.sz hj
        have n1 := w.num1 hj
        have n2 := w.num2 hj
        rw [show encN A (some j) = nI (hnum A j) from rfl, if_neg (by rw [pn_eq0 (by omega)]; omega), e_rootSpot hM w hq, bd_some, hqr, enc_some, e_of2 hM w hj, bd_some, m_in1 z (by omega), bd_some]
        dsimp only
        rcases inB_cases z (b := hsz A j) (by omega) with ⟨f, hf, rfl, e3⟩ | ⟨e3, -⟩
        · rw [e3]
          dsimp only
          rw [if_neg one_ne, bd_some, if_pos rfl, if_pos (by decide), if_pos (by decide)]
          simp (disch := omega) only [pn_lt, pn_neg, pn_eq, pn_eq0, pn_eq1, pn_eq2, pn_m1, pn_m1', pn_m1lt, pn_ix, pn_bnd, pn_add1, pn_add3, pn_mul4, nI_add, bd_some, st_eq, rd_eq, if_true, if_false, ite_true, ite_false, reduceIte, e66r]
          unfold fX10_does_j45
          have hM1 : MR (wr τ 10 0 30 (encN A (hrt A r)) 66 v) A := by rw [wr_c (by decide)]; exact hM
          rw [st_eq, if_neg (by decide), if_neg (by decide), if_pos rfl, e_rootSpot hM1 w hq, bd_some, hqr, enc_some, e_of7 hM1 w hj hf, bd_some, st_eq]
          simp (disch := omega) only [pn_lt, pn_neg, pn_eq, pn_eq0, pn_eq1, pn_eq2, pn_m1, pn_m1', pn_m1lt, pn_ix, pn_bnd, pn_add1, pn_add3, pn_mul4, nI_add, bd_some, st_eq, rd_eq, if_true, if_false, ite_true, ite_false, reduceIte, pm_881]
          refine hit_some ⟨fun p hp => ?_, rfl, ?_, ?_, ?_⟩
          · rw [wr_i (by omega), wr_c (by decide), wr_c (by decide)]
          · rw [wr_c (by decide), wr_same]
          · rw [wr_c (by decide), wr_i (by decide), wr_same]
          · refine hM.root w hb hr ?_ (fun p hp hne => ?_)
            · rw [wr_same, wr_same]
            · rw [wr_i hne, wr_c (by decide), wr_c (by decide)]
        · rw [e3]
          dsimp only
          rw [if_pos rfl, bd_some, if_neg (by decide)]
          exact hit_some ⟨fun _ _ => rfl, rfl, hM⟩
    · rw [e2, if_pos rfl, bd_some, if_neg (by decide)]
      exact hit_some ⟨fun _ _ => rfl, rfl, hM⟩
  · rw [e, if_pos rfl, bd_some, if_neg (by decide)]
    exact hit_some ⟨fun _ _ => rfl, rfl, hM⟩
theorem encN_pos {A : Hp} (w : OK A) {o : Option Nat} (ho : ∀ i, o = some i → i < hn A) : ¬ encN A o < 0 := by
  cases o with
  | none => exact (by decide : ¬ (0 : Int32) < 0)
  | some j =>
    have := w.num2 (ho j rfl)
    exact nI_pos (by omega)
theorem i_load {R : Nat → Nat} {b : Nat} {A : Hp} (h : Inv R b A) (x y z : Int32) : IvA R b (doLoad A x y z) := by
  have w := h.ok
  unfold doLoad
  rcases inB_cases x (b := 8) (by omega) with ⟨r, hr, rfl, e⟩ | ⟨e, -⟩
  · rw [e]
    dsimp only
    rcases inB_cases y (b := 8) (by omega) with ⟨q, hq, rfl, e2⟩ | ⟨e2, -⟩
    · rw [e2]
      dsimp only
      cases hqr : hrt A q with
      | none => exact (by decide : 0 < 4)
      | some j =>
        have hj := w.rt hq hqr
        have hz := w.sz hj
        dsimp only
        rcases inB_cases z (b := hsz A j) (by omega) with ⟨f, hf, rfl, e3⟩ | ⟨e3, -⟩
        · rw [e3]
          have ho : ∀ i, hlk A j f = some i → i < hn A := fun i hi => w.lk hj hf hi
          exact ⟨encN_pos w ho, h.root ho⟩
        · rw [e3]; exact (by decide : 1 < 4)
    · rw [e2]; exact (by decide : 0 < 4)
  · rw [e]; exact (by decide : 0 < 4)
