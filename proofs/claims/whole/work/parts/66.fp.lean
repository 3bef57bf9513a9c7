/-! cell 10: places that few functions change -/
def KT (i : Nat) : Prop := i = 2 ∨ i = 10 ∨ i = 11 ∨ i = 17 ∨ i = 18 ∨ i = 19
def FP {α : Type} (σ : rS) (o : Option (α × rS)) : Prop := ∀ (r : α) (σ' : rS), o = some (r, σ') → ∀ i, KT i → σ' 10 0 i = σ 10 0 i
theorem FP_some {α : Type} {σ : rS} {r : α} : FP σ (some (r, σ)) := fun r' σ' h i _ => by
  have := Option.some.inj h
  cases this
  rfl
theorem FP_none {α : Type} {σ : rS} : FP (α := α) σ none := fun r' σ' h => by cases h
theorem FP_ite {α : Type} {σ : rS} {c : Prop} [Decidable c] {x y : Option (α × rS)} (h1 : FP σ x) (h2 : FP σ y) : FP σ (if c then x else y) := by
  by_cases hc : c
  · rw [if_pos hc]; exact h1
  · rw [if_neg hc]; exact h2
theorem FP_bnd {α : Type} {σ : rS} {i : Int32} {n : Nat} {x : Option (α × rS)} (h : FP σ x) : FP σ (bnd i n x) := FP_ite FP_none h
theorem FP_bz {α : Type} {σ : rS} {i : Int32} {x : Option (α × rS)} (h : FP σ x) : FP σ (bz i x) := FP_ite h FP_none
theorem FP_bnz {α : Type} {σ : rS} {i : Int32} {x : Option (α × rS)} (h : FP σ x) : FP σ (bnz i x) := FP_ite FP_none h
theorem FP_rd {α : Type} {σ : rS} {x : Int32} {f : Int32 → Option (α × rS)} (h : ∀ y, FP σ (f y)) : FP σ (rd x f) := h x
theorem FP_to {α : Type} {σ σ1 : rS} {x : Option (α × rS)} (hc : ∀ i, KT i → σ1 10 0 i = σ 10 0 i) (h : FP σ1 x) : FP σ x := fun r σ' e i hn => (h r σ' e i hn).trans (hc i hn)
theorem FP_st {α : Type} {σ : rS} {c k i : Nat} {v : Int32} {f : rS → Option (α × rS)} (hc : ¬ 10 = c ∨ ¬ KT i) (h : ∀ σ1, FP σ1 (f σ1)) : FP σ (st (wr σ c k i v) f) := FP_to (fun j hj => by
  by_cases e : 10 = c
  · have hi : ¬ KT i := hc.elim (fun z => absurd e z) id
    subst e
    by_cases ek : 0 = k
    · subst ek
      exact wr_i (fun z => hi (z ▸ hj))
    · rw [wr_k ek]
  · rw [wr_c e]) (h _)
theorem FP_fr {α : Type} {W : List Nat} {σ : rS} {o : Option (α × rS)} (h : FR W σ o) (hW : ¬ 10 ∈ W) : FP σ o := fun r σ' e i _ => by rw [h r σ' e 10 hW]
theorem FP_bd {α β : Type} {σ : rS} {o : Option (α × rS)} {f : α → rS → Option (β × rS)} (h1 : FP σ o) (h : ∀ r σ1, FP σ1 (f r σ1)) : FP σ (bd o f) := by
  cases o with
  | none => exact FP_none
  | some q => exact FP_to (fun i hi => h1 q.1 q.2 rfl i hi) (h q.1 q.2)
theorem FP_lp {L R : Type} {step : L → rS → Option ((L ⊕ R) × rS)} (h : ∀ x σ, FP σ (step x σ)) : ∀ (n : Nat) (x : L) (σ : rS), FP σ (lp step n x σ) := by
  intro n
  induction n with
  | zero => intro x σ; exact FP_none
  | succ n ih =>
    intro x σ
    refine FP_bd (h x σ) (fun q σ1 => ?_)
    cases q with
    | inl y => exact ih y σ1
    | inr r => exact FP_some
theorem fpX10_look_L0  (σ : rS) : FP σ (fX10_look_L0  σ) := by
  unfold fX10_look_L0
  refine FP_bd (FP_fr (frX10_here _) (by decide)) (fun _ _ => ?_)
  refine FP_ite ?_ ?_
  · skip
    refine FP_st (Or.inr (by unfold KT; omega)) (fun _ => ?_)
    exact FP_some
  · skip
    exact FP_some
theorem fpX10_look  (σ : rS) : FP σ (fX10_look  σ) := by
  unfold fX10_look
  refine FP_bd (FP_fr (frX10_here _) (by decide)) (fun _ _ => ?_)
  refine FP_ite ?_ ?_
  · skip
    refine FP_st (Or.inr (by unfold KT; omega)) (fun _ => ?_)
    refine FP_bd (FP_lp (fun x σ => fpX10_look_L0 _) _ _ _) (fun _ _ => ?_)
    refine FP_bd (FP_fr (frX10_here _) (by decide)) (fun _ _ => ?_)
    exact FP_some
  · skip
    refine FP_bd (FP_fr (frX10_here _) (by decide)) (fun _ _ => ?_)
    exact FP_some
theorem fpX10_fails  (σ : rS) : FP σ (fX10_fails  σ) := by
  unfold fX10_fails
  refine FP_ite ?_ ?_
  · skip
    refine FP_st (Or.inr (by unfold KT; omega)) (fun _ => ?_)
    exact FP_some
  · skip
    exact FP_some
theorem fpX10_digit_j20  (σ : rS) : FP σ (fX10_digit_j20  σ) := by
  unfold fX10_digit_j20
  refine FP_bd (fpX10_fails _) (fun _ _ => ?_)
  exact FP_some
theorem fpX10_digit  (σ : rS) : FP σ (fX10_digit  σ) := by
  unfold fX10_digit
  refine FP_bd (fpX10_look _) (fun _ _ => ?_)
  refine FP_ite ?_ ?_
  · skip
    refine FP_bd (FP_fr (frX10_isDigit _) (by decide)) (fun _ _ => ?_)
    refine FP_ite ?_ ?_
    · skip
      exact fpX10_digit_j20 _
    · skip
      refine FP_st (Or.inr (by unfold KT; omega)) (fun _ => ?_)
      exact FP_some
  · skip
    exact fpX10_digit_j20 _
theorem fpX10_number_L7 (x1 : Int32) (x2 : Int32) (σ : rS) : FP σ (fX10_number_L7 x1 x2 σ) := by
  unfold fX10_number_L7
  refine FP_ite ?_ ?_
  · skip
    refine FP_ite ?_ ?_
    · skip
      refine FP_bd (FP_fr (frX10_isDigit _) (by decide)) (fun _ _ => ?_)
      refine FP_ite ?_ ?_
      · skip
        exact FP_some
      · skip
        refine FP_bd (fpX10_digit _) (fun _ _ => ?_)
        refine FP_rd (fun _ => ?_)
        exact FP_some
    · skip
      exact FP_some
  · skip
    exact FP_some
theorem fpX10_number_j43 (x1 : Int32) (σ : rS) : FP σ (fX10_number_j43 x1 σ) := by
  unfold fX10_number_j43
  refine FP_ite ?_ ?_
  · skip
    refine FP_bd (FP_fr (frX10_isDigit _) (by decide)) (fun _ _ => ?_)
    refine FP_ite ?_ ?_
    · skip
      exact FP_some
    · skip
      refine FP_bd (fpX10_fails _) (fun _ _ => ?_)
      exact FP_some
  · skip
    exact FP_some
theorem fpX10_number  (σ : rS) : FP σ (fX10_number  σ) := by
  unfold fX10_number
  refine FP_bd (fpX10_digit _) (fun _ _ => ?_)
  refine FP_bd (FP_lp (fun x σ => fpX10_number_L7 _ _ _) _ _ _) (fun _ _ => ?_)
  exact fpX10_number_j43 _ _
theorem fpX10_readHeap_L67 (x1 : Int32) (x2 : Int32) (σ : rS) : FP σ (fX10_readHeap_L67 x1 x2 σ) := by
  unfold fX10_readHeap_L67
  refine FP_ite ?_ ?_
  · skip
    exact FP_some
  · skip
    refine FP_ite ?_ ?_
    · skip
      exact FP_some
    · skip
      refine FP_rd (fun _ => ?_)
      refine FP_st (Or.inr (by unfold KT; omega)) (fun _ => ?_)
      refine FP_bd (fpX10_number _) (fun _ _ => ?_)
      refine FP_bnd ?_
      refine FP_st (Or.inl (by omega)) (fun _ => ?_)
      refine FP_ite ?_ ?_
      · skip
        refine FP_bnd ?_
        refine FP_bd (FP_fr (frX10_leastOf _ _) (by decide)) (fun _ _ => ?_)
        refine FP_bd (FP_fr (frX10_mostOf _ _) (by decide)) (fun _ _ => ?_)
        refine FP_bd (FP_fr (frX10_isIn _ _ _ _) (by decide)) (fun _ _ => ?_)
        refine FP_ite ?_ ?_
        · skip
          exact FP_some
        · skip
          refine FP_bd (fpX10_look _) (fun _ _ => ?_)
          refine FP_bd (FP_fr (frX10_spotOf _ _ _) (by decide)) (fun _ _ => ?_)
          exact FP_some
      · skip
        exact FP_some
theorem fpX10_readHeap  (σ : rS) : FP σ (fX10_readHeap  σ) := by
  unfold fX10_readHeap
  refine FP_st (Or.inl (by omega)) (fun _ => ?_)
  refine FP_st (Or.inl (by omega)) (fun _ => ?_)
  refine FP_st (Or.inl (by omega)) (fun _ => ?_)
  refine FP_st (Or.inl (by omega)) (fun _ => ?_)
  refine FP_bd (fpX10_look _) (fun _ _ => ?_)
  refine FP_ite ?_ ?_
  · skip
    refine FP_st (Or.inr (by unfold KT; omega)) (fun _ => ?_)
    refine FP_bd (fpX10_look _) (fun _ _ => ?_)
    refine FP_bd (FP_fr (frX10_spotOf _ _ _) (by decide)) (fun _ _ => ?_)
    refine FP_bd (FP_lp (fun x σ => fpX10_readHeap_L67 _ _ _) _ _ _) (fun _ _ => ?_)
    split
    · skip
      refine FP_bd (fpX10_fails _) (fun _ _ => ?_)
      exact FP_some
    · skip
      exact FP_some
    · skip
      refine FP_st (Or.inr (by unfold KT; omega)) (fun _ => ?_)
      refine FP_bd (fpX10_fails _) (fun _ _ => ?_)
      exact FP_some
    · skip
      refine FP_bd (fpX10_look _) (fun _ _ => ?_)
      refine FP_ite ?_ ?_
      · skip
        exact FP_some
      · skip
        refine FP_bd (fpX10_fails _) (fun _ _ => ?_)
        exact FP_some
  · skip
    refine FP_bd (fpX10_fails _) (fun _ _ => ?_)
    exact FP_some
theorem fpX10_readStep_j119L47 (x2 : Int32) (x3 : Int32) (x4 : Int32) (σ : rS) : FP σ (fX10_readStep_j119L47 x2 x3 x4 σ) := by
  unfold fX10_readStep_j119L47
  refine FP_bd (fpX10_number _) (fun _ _ => ?_)
  refine FP_bnd ?_
  refine FP_st (Or.inl (by omega)) (fun _ => ?_)
  exact FP_fr (frX10_readStep_j134L47 _ _ _ _) (by decide)
theorem fpX10_readStep_j104L47 (x2 : Int32) (x3 : Int32) (x4 : Int32) (σ : rS) : FP σ (fX10_readStep_j104L47 x2 x3 x4 σ) := by
  unfold fX10_readStep_j104L47
  refine FP_ite ?_ ?_
  · skip
    refine FP_st (Or.inr (by unfold KT; omega)) (fun _ => ?_)
    exact fpX10_readStep_j119L47 _ _ _ _
  · skip
    exact fpX10_readStep_j119L47 _ _ _ _
theorem fpX10_readStep_L47 (x2 : Int32) (x3 : Int32) (x4 : Int32) (σ : rS) : FP σ (fX10_readStep_L47 x2 x3 x4 σ) := by
  unfold fX10_readStep_L47
  refine FP_ite ?_ ?_
  · skip
    refine FP_bnd ?_
    refine FP_st (Or.inl (by omega)) (fun _ => ?_)
    refine FP_bd (FP_fr (frX10_numbersOf _ _) (by decide)) (fun _ _ => ?_)
    refine FP_ite ?_ ?_
    · skip
      refine FP_ite ?_ ?_
      · skip
        refine FP_ite ?_ ?_
        · skip
          refine FP_bd (fpX10_look _) (fun _ _ => ?_)
          refine FP_ite ?_ ?_
          · skip
            exact fpX10_readStep_j104L47 _ _ _ _
          · skip
            exact FP_some
        · skip
          exact fpX10_readStep_j104L47 _ _ _ _
      · skip
        exact FP_fr (frX10_readStep_j134L47 _ _ _ _) (by decide)
    · skip
      exact FP_fr (frX10_readStep_j134L47 _ _ _ _) (by decide)
  · skip
    exact FP_some
theorem fpX10_readStep (x1 : Int32) (σ : rS) : FP σ (fX10_readStep x1 σ) := by
  unfold fX10_readStep
  refine FP_rd (fun _ => ?_)
  refine FP_bd (fpX10_look _) (fun _ _ => ?_)
  refine FP_bd (FP_fr (frX10_spotOf _ _ _) (by decide)) (fun _ _ => ?_)
  refine FP_ite ?_ ?_
  · skip
    refine FP_bd (fpX10_fails _) (fun _ _ => ?_)
    exact FP_some
  · skip
    refine FP_st (Or.inr (by unfold KT; omega)) (fun _ => ?_)
    refine FP_bnd ?_
    refine FP_st (Or.inl (by omega)) (fun _ => ?_)
    refine FP_bd (FP_lp (fun x σ => fpX10_readStep_L47 _ _ _ _) _ _ _) (fun _ _ => ?_)
    split
    · skip
      refine FP_bd (fpX10_fails _) (fun _ _ => ?_)
      exact FP_some
    · skip
      exact FP_some
theorem fpX10_readScript_j55L4 (x1 : Int32) (x2 : Int32) (σ : rS) : FP σ (fX10_readScript_j55L4 x1 x2 σ) := by
  unfold fX10_readScript_j55L4
  refine FP_ite ?_ ?_
  · skip
    exact FP_some
  · skip
    refine FP_st (Or.inr (by unfold KT; omega)) (fun _ => ?_)
    exact FP_some
theorem fpX10_readScript_j39L4 (x1 : Int32) (z0 : Int32) (σ : rS) : FP σ (fX10_readScript_j39L4 x1 z0 σ) := by
  unfold fX10_readScript_j39L4
  refine FP_ite ?_ ?_
  · skip
    exact fpX10_readScript_j55L4 _ _ _
  · skip
    refine FP_ite ?_ ?_
    · skip
      exact FP_some
    · skip
      exact fpX10_readScript_j55L4 _ _ _
theorem fpX10_readScript_L4 (x1 : Int32) (x2 : Int32) (σ : rS) : FP σ (fX10_readScript_L4 x1 x2 σ) := by
  unfold fX10_readScript_L4
  refine FP_ite ?_ ?_
  · skip
    exact FP_some
  · skip
    refine FP_bd (fpX10_readStep _ _) (fun _ _ => ?_)
    refine FP_ite ?_ ?_
    · skip
      refine FP_bd (fpX10_look _) (fun _ _ => ?_)
      refine FP_ite ?_ ?_
      · skip
        exact fpX10_readScript_j39L4 _ _ _
      · skip
        exact fpX10_readScript_j39L4 _ _ _
    · skip
      exact FP_some
theorem fpX10_readScript  (σ : rS) : FP σ (fX10_readScript  σ) := by
  unfold fX10_readScript
  refine FP_bd (FP_lp (fun x σ => fpX10_readScript_L4 _ _ _) _ _ _) (fun _ _ => ?_)
  split
  · skip
    exact FP_some
  · skip
    refine FP_bd (fpX10_fails _) (fun _ _ => ?_)
    exact FP_some
  · skip
    refine FP_st (Or.inl (by omega)) (fun _ => ?_)
    refine FP_bd (fpX10_look _) (fun _ _ => ?_)
    refine FP_ite ?_ ?_
    · skip
      exact FP_some
    · skip
      refine FP_bd (fpX10_fails _) (fun _ _ => ?_)
      exact FP_some
theorem fpX10_fault (x1 : Int32) (σ : rS) : FP σ (fX10_fault x1 σ) := by
  unfold fX10_fault
  refine FP_st (Or.inr (by unfold KT; omega)) (fun _ => ?_)
  refine FP_bd (FP_fr (frX10_isIn _ _ _ _) (by decide)) (fun _ _ => ?_)
  refine FP_ite ?_ ?_
  · skip
    exact FP_some
  · skip
    refine FP_st (Or.inr (by unfold KT; omega)) (fun _ => ?_)
    refine FP_st (Or.inr (by unfold KT; omega)) (fun _ => ?_)
    refine FP_ite ?_ ?_
    · skip
      refine FP_bd (fpX10_readHeap _) (fun _ _ => ?_)
      exact FP_some
    · skip
      refine FP_bd (fpX10_readScript _) (fun _ _ => ?_)
      exact FP_some
theorem fpX10_begins  (σ : rS) : FP σ (fX10_begins  σ) := by
  unfold fX10_begins
  refine FP_bd (FP_lp (fun x σ => FP_fr (frX10_begins_L2 _ _) (by decide)) _ _ _) (fun _ _ => ?_)
  refine FP_st (Or.inr (by unfold KT; omega)) (fun _ => ?_)
  refine FP_st (Or.inr (by unfold KT; omega)) (fun _ => ?_)
  exact FP_some
theorem fpX10_marks (x1 : Int32) (σ : rS) : FP σ (fX10_marks x1 σ) := by
  unfold fX10_marks
  refine FP_ite ?_ ?_
  · skip
    exact FP_some
  · skip
    refine FP_bnd ?_
    refine FP_ite ?_ ?_
    · skip
      refine FP_bnd ?_
      refine FP_st (Or.inl (by omega)) (fun _ => ?_)
      refine FP_bnd ?_
      refine FP_st (Or.inl (by omega)) (fun _ => ?_)
      refine FP_st (Or.inr (by unfold KT; omega)) (fun _ => ?_)
      exact FP_some
    · skip
      exact FP_some
theorem fpX10_marksAll_L21 (k1 : Nat) (x3 : Int32) (x4 : Int32) (x5 : Int32) (σ : rS) : FP σ (fX10_marksAll_L21 k1 x3 x4 x5 σ) := by
  unfold fX10_marksAll_L21
  refine FP_bd (FP_fr (frX10_of _ _ _ _) (by decide)) (fun _ _ => ?_)
  refine FP_ite ?_ ?_
  · skip
    refine FP_bd (FP_fr (frX10_isWeak _ _ _ _) (by decide)) (fun _ _ => ?_)
    refine FP_ite ?_ ?_
    · skip
      refine FP_bd (FP_fr (frX10_of _ _ _ _) (by decide)) (fun _ _ => ?_)
      refine FP_bd (FP_fr (frX10_spotOf_ _ _ _) (by decide)) (fun _ _ => ?_)
      refine FP_bd (fpX10_marks _ _) (fun _ _ => ?_)
      exact FP_fr (frX10_marksAll_j63L21 _ _ _ _ _) (by decide)
    · skip
      exact FP_fr (frX10_marksAll_j63L21 _ _ _ _ _) (by decide)
  · skip
    exact FP_some
theorem fpX10_marksAll_L2 (k1 : Nat) (x3 : Int32) (σ : rS) : FP σ (fX10_marksAll_L2 k1 x3 σ) := by
  unfold fX10_marksAll_L2
  refine FP_ite ?_ ?_
  · skip
    refine FP_bnd ?_
    refine FP_rd (fun _ => ?_)
    refine FP_bd (FP_lp (fun x σ => fpX10_marksAll_L21 _ _ _ _ _) _ _ _) (fun _ _ => ?_)
    exact FP_some
  · skip
    exact FP_some
theorem fpX10_marksAll (k1 : Nat) (x2 : Int32) (σ : rS) : FP σ (fX10_marksAll k1 x2 σ) := by
  unfold fX10_marksAll
  refine FP_bd (FP_lp (fun x σ => fpX10_marksAll_L2 _ _ _) _ _ _) (fun _ _ => ?_)
  exact FP_some
theorem fpX10_reaches_L7 (k1 : Nat) (x2 : Int32) (x3 : Int32) (x4 : Int32) (σ : rS) : FP σ (fX10_reaches_L7 k1 x2 x3 x4 σ) := by
  unfold fX10_reaches_L7
  refine FP_ite ?_ ?_
  · skip
    refine FP_ite ?_ ?_
    · skip
      exact FP_fr (frX10_reaches_j36L7 _ _ _ _ _) (by decide)
    · skip
      refine FP_bnd ?_
      refine FP_bd (FP_fr (frX10_spotOf_ _ _ _) (by decide)) (fun _ _ => ?_)
      refine FP_bd (fpX10_marks _ _) (fun _ _ => ?_)
      exact FP_fr (frX10_reaches_j36L7 _ _ _ _ _) (by decide)
  · skip
    exact FP_some
theorem fpX10_reaches_L45 (k1 : Nat) (x3 : Int32) (x4 : Int32) (σ : rS) : FP σ (fX10_reaches_L45 k1 x3 x4 σ) := by
  unfold fX10_reaches_L45
  refine FP_ite ?_ ?_
  · skip
    exact FP_some
  · skip
    refine FP_ite ?_ ?_
    · skip
      refine FP_bnd ?_
      refine FP_bd (FP_fr (frX10_spotOf_ _ _ _) (by decide)) (fun _ _ => ?_)
      refine FP_bd (fpX10_marks _ _) (fun _ _ => ?_)
      exact FP_some
    · skip
      exact FP_some
theorem fpX10_reaches_j81 (k1 : Nat) (σ : rS) : FP σ (fX10_reaches_j81 k1 σ) := by
  unfold fX10_reaches_j81
  refine FP_bd (fpX10_marksAll _ _ _) (fun _ _ => ?_)
  exact FP_some
theorem fpX10_reaches (k1 : Nat) (x2 : Int32) (x3 : Int32) (σ : rS) : FP σ (fX10_reaches k1 x2 x3 σ) := by
  unfold fX10_reaches
  refine FP_bd (fpX10_begins _) (fun _ _ => ?_)
  refine FP_bd (FP_lp (fun x σ => fpX10_reaches_L7 _ _ _ _ _) _ _ _) (fun _ _ => ?_)
  refine FP_bd (FP_lp (fun x σ => fpX10_reaches_L45 _ _ _ _) _ _ _) (fun _ _ => ?_)
  exact fpX10_reaches_j81 _ _
theorem fpX10_ends_j48L7 (k1 : Nat) (x2 : Int32) (x3 : Int32) (σ : rS) : FP σ (fX10_ends_j48L7 k1 x2 x3 σ) := by
  unfold fX10_ends_j48L7
  refine FP_bd (FP_fr (frX10_of _ _ _ _) (by decide)) (fun _ _ => ?_)
  refine FP_bnd ?_
  refine FP_st (Or.inl (by omega)) (fun _ => ?_)
  refine FP_st (Or.inl (by omega)) (fun _ => ?_)
  refine FP_st (Or.inl (by omega)) (fun _ => ?_)
  refine FP_bnd ?_
  refine FP_st (Or.inl (by omega)) (fun _ => ?_)
  refine FP_st (Or.inr (by unfold KT; omega)) (fun _ => ?_)
  exact FP_fr (frX10_ends_j103L7 _ _ _ _) (by decide)
theorem fpX10_ends_L7 (k1 : Nat) (x2 : Int32) (x3 : Int32) (σ : rS) : FP σ (fX10_ends_L7 k1 x2 x3 σ) := by
  unfold fX10_ends_L7
  refine FP_ite ?_ ?_
  · skip
    refine FP_bd (FP_fr (frX10_of _ _ _ _) (by decide)) (fun _ _ => ?_)
    refine FP_ite ?_ ?_
    · skip
      refine FP_bnd ?_
      refine FP_ite ?_ ?_
      · skip
        refine FP_ite ?_ ?_
        · skip
          exact fpX10_ends_j48L7 _ _ _ _
        · skip
          refine FP_bd (FP_fr (frX10_isOld _ _ _) (by decide)) (fun _ _ => ?_)
          refine FP_ite ?_ ?_
          · skip
            exact fpX10_ends_j48L7 _ _ _ _
          · skip
            exact FP_fr (frX10_ends_j103L7 _ _ _ _) (by decide)
      · skip
        exact FP_fr (frX10_ends_j103L7 _ _ _ _) (by decide)
    · skip
      exact FP_fr (frX10_ends_j103L7 _ _ _ _) (by decide)
  · skip
    exact FP_some
theorem fpX10_ends (k1 : Nat) (x2 : Int32) (σ : rS) : FP σ (fX10_ends k1 x2 σ) := by
  unfold fX10_ends
  refine FP_st (Or.inr (by unfold KT; omega)) (fun _ => ?_)
  refine FP_bd (FP_lp (fun x σ => fpX10_ends_L7 _ _ _ _) _ _ _) (fun _ _ => ?_)
  exact FP_some
theorem fpX10_moves_j194 (x2 : Int32) (σ : rS) : FP σ (fX10_moves_j194 x2 σ) := by
  unfold fX10_moves_j194
  refine FP_bd (fpX10_marks _ _) (fun _ _ => ?_)
  exact FP_some
theorem fpX10_moves_j171 (k1 : Nat) (x2 : Int32) (x4 : Int32) (σ : rS) : FP σ (fX10_moves_j171 k1 x2 x4 σ) := by
  unfold fX10_moves_j171
  refine FP_st (Or.inl (by omega)) (fun _ => ?_)
  refine FP_ite ?_ ?_
  · skip
    refine FP_st (Or.inl (by omega)) (fun _ => ?_)
    exact fpX10_moves_j194 _ _
  · skip
    exact fpX10_moves_j194 _ _
theorem fpX10_moves_j142 (k1 : Nat) (x2 : Int32) (x3 : Int32) (x4 : Int32) (z0 : Int32) (z1 : Int32) (kz2 : Nat) (σ : rS) : FP σ (fX10_moves_j142 k1 x2 x3 x4 z0 z1 kz2 σ) := by
  unfold fX10_moves_j142
  refine FP_bnd ?_
  refine FP_st (Or.inl (by omega)) (fun _ => ?_)
  refine FP_ite ?_ ?_
  · skip
    refine FP_st (Or.inr (by unfold KT; omega)) (fun _ => ?_)
    exact fpX10_moves_j171 _ _ _ _
  · skip
    refine FP_st (Or.inr (by unfold KT; omega)) (fun _ => ?_)
    exact fpX10_moves_j171 _ _ _ _
theorem fpX10_moves_j118 (k1 : Nat) (x2 : Int32) (x3 : Int32) (x4 : Int32) (z0 : Int32) (z1 : Int32) (kz2 : Nat) (σ : rS) : FP σ (fX10_moves_j118 k1 x2 x3 x4 z0 z1 kz2 σ) := by
  unfold fX10_moves_j118
  refine FP_bnd ?_
  refine FP_st (Or.inl (by omega)) (fun _ => ?_)
  refine FP_bd (FP_fr (frX10_cell _ _ _) (by decide)) (fun _ _ => ?_)
  refine FP_ite ?_ ?_
  · skip
    exact fpX10_moves_j142 _ _ _ _ _ _ _ _
  · skip
    exact fpX10_moves_j142 _ _ _ _ _ _ _ _
theorem fpX10_moves_j102 (k1 : Nat) (x2 : Int32) (x3 : Int32) (x4 : Int32) (σ : rS) : FP σ (fX10_moves_j102 k1 x2 x3 x4 σ) := by
  unfold fX10_moves_j102
  refine FP_bd (FP_fr (frX10_cell _ _ _) (by decide)) (fun _ _ => ?_)
  refine FP_ite ?_ ?_
  · skip
    exact fpX10_moves_j118 _ _ _ _ _ _ _ _
  · skip
    exact fpX10_moves_j118 _ _ _ _ _ _ _ _
theorem fpX10_moves_j75 (k1 : Nat) (x2 : Int32) (x3 : Int32) (z0 : Int32) (σ : rS) : FP σ (fX10_moves_j75 k1 x2 x3 z0 σ) := by
  unfold fX10_moves_j75
  refine FP_ite ?_ ?_
  · skip
    refine FP_ite ?_ ?_
    · skip
      refine FP_st (Or.inr (by unfold KT; omega)) (fun _ => ?_)
      exact fpX10_moves_j102 _ _ _ _ _
    · skip
      exact fpX10_moves_j102 _ _ _ _ _
  · skip
    exact fpX10_moves_j102 _ _ _ _ _
theorem fpX10_moves_j74 (k1 : Nat) (x2 : Int32) (x3 : Int32) (σ : rS) : FP σ (fX10_moves_j74 k1 x2 x3 σ) := by
  unfold fX10_moves_j74
  exact fpX10_moves_j75 _ _ _ _ _
theorem fpX10_moves (k1 : Nat) (x2 : Int32) (σ : rS) : FP σ (fX10_moves k1 x2 σ) := by
  unfold fX10_moves
  refine FP_ite ?_ ?_
  · skip
    exact FP_some
  · skip
    refine FP_bnd ?_
    refine FP_ite ?_ ?_
    · skip
      refine FP_bd (FP_fr (frX10_isOld _ _ _) (by decide)) (fun _ _ => ?_)
      refine FP_ite ?_ ?_
      · skip
        refine FP_bd (FP_fr (frX10_sizeOf _ _ _) (by decide)) (fun _ _ => ?_)
        refine FP_bd (FP_fr (frX10_cell _ _ _) (by decide)) (fun _ _ => ?_)
        refine FP_bnd ?_
        refine FP_bnd ?_
        refine FP_st (Or.inl (by omega)) (fun _ => ?_)
        refine FP_bd (FP_fr (frX10_of _ _ _ _) (by decide)) (fun _ _ => ?_)
        refine FP_ite ?_ ?_
        · skip
          refine FP_ite ?_ ?_
          · skip
            exact fpX10_moves_j74 _ _ _ _
          · skip
            exact fpX10_moves_j75 _ _ _ _ _
        · skip
          exact fpX10_moves_j74 _ _ _ _
      · skip
        exact FP_some
    · skip
      exact FP_some
theorem fpX10_movesAll_L28 (k1 : Nat) (x3 : Int32) (x4 : Int32) (x5 : Int32) (σ : rS) : FP σ (fX10_movesAll_L28 k1 x3 x4 x5 σ) := by
  unfold fX10_movesAll_L28
  refine FP_bd (FP_fr (frX10_of _ _ _ _) (by decide)) (fun _ _ => ?_)
  refine FP_ite ?_ ?_
  · skip
    refine FP_ite ?_ ?_
    · skip
      refine FP_bd (FP_fr (frX10_isWeak _ _ _ _) (by decide)) (fun _ _ => ?_)
      refine FP_ite ?_ ?_
      · skip
        refine FP_bd (FP_fr (frX10_of _ _ _ _) (by decide)) (fun _ _ => ?_)
        refine FP_bd (FP_fr (frX10_spotOf_ _ _ _) (by decide)) (fun _ _ => ?_)
        refine FP_bd (fpX10_moves _ _ _) (fun _ _ => ?_)
        exact FP_fr (frX10_movesAll_j78L28 _ _ _ _ _) (by decide)
      · skip
        exact FP_fr (frX10_movesAll_j78L28 _ _ _ _ _) (by decide)
    · skip
      exact FP_some
  · skip
    exact FP_some
theorem fpX10_movesAll_L2 (k1 : Nat) (x3 : Int32) (σ : rS) : FP σ (fX10_movesAll_L2 k1 x3 σ) := by
  unfold fX10_movesAll_L2
  refine FP_ite ?_ ?_
  · skip
    refine FP_ite ?_ ?_
    · skip
      refine FP_bnd ?_
      refine FP_rd (fun _ => ?_)
      refine FP_bd (FP_lp (fun x σ => fpX10_movesAll_L28 _ _ _ _ _) _ _ _) (fun _ _ => ?_)
      exact FP_fr (frX10_movesAll_j84L2 _ _ _) (by decide)
    · skip
      exact FP_some
  · skip
    exact FP_some
theorem fpX10_movesAll (k1 : Nat) (x2 : Int32) (σ : rS) : FP σ (fX10_movesAll k1 x2 σ) := by
  unfold fX10_movesAll
  refine FP_bd (FP_lp (fun x σ => fpX10_movesAll_L2 _ _ _) _ _ _) (fun _ _ => ?_)
  exact FP_some
theorem fpX10_movesReached_L2 (k1 : Nat) (x2 : Int32) (σ : rS) : FP σ (fX10_movesReached_L2 k1 x2 σ) := by
  unfold fX10_movesReached_L2
  refine FP_ite ?_ ?_
  · skip
    refine FP_ite ?_ ?_
    · skip
      refine FP_bnd ?_
      refine FP_bd (FP_fr (frX10_spotOf_ _ _ _) (by decide)) (fun _ _ => ?_)
      refine FP_bd (fpX10_moves _ _ _) (fun _ _ => ?_)
      exact FP_some
    · skip
      exact FP_some
  · skip
    exact FP_some
theorem fpX10_movesReached_L39 (k1 : Nat) (x2 : Int32) (σ : rS) : FP σ (fX10_movesReached_L39 k1 x2 σ) := by
  unfold fX10_movesReached_L39
  refine FP_ite ?_ ?_
  · skip
    refine FP_ite ?_ ?_
    · skip
      refine FP_bnd ?_
      refine FP_bd (FP_fr (frX10_spotOf_ _ _ _) (by decide)) (fun _ _ => ?_)
      refine FP_bd (fpX10_moves _ _ _) (fun _ _ => ?_)
      exact FP_some
    · skip
      exact FP_some
  · skip
    exact FP_some
theorem fpX10_movesReached_L79 (k1 : Nat) (x2 : Int32) (σ : rS) : FP σ (fX10_movesReached_L79 k1 x2 σ) := by
  unfold fX10_movesReached_L79
  refine FP_ite ?_ ?_
  · skip
    refine FP_ite ?_ ?_
    · skip
      refine FP_bnd ?_
      refine FP_bd (FP_fr (frX10_spotOf_ _ _ _) (by decide)) (fun _ _ => ?_)
      refine FP_bnd ?_
      refine FP_rd (fun _ => ?_)
      refine FP_bd (FP_fr (frX10_isWeak _ _ _ _) (by decide)) (fun _ _ => ?_)
      refine FP_ite ?_ ?_
      · skip
        refine FP_bd (FP_fr (frX10_of _ _ _ _) (by decide)) (fun _ _ => ?_)
        refine FP_bd (FP_fr (frX10_spotOf_ _ _ _) (by decide)) (fun _ _ => ?_)
        refine FP_bd (fpX10_moves _ _ _) (fun _ _ => ?_)
        exact FP_fr (frX10_movesReached_j149L79 _ _ _) (by decide)
      · skip
        exact FP_fr (frX10_movesReached_j149L79 _ _ _) (by decide)
    · skip
      exact FP_some
  · skip
    exact FP_some
theorem fpX10_movesReached_j155 (k1 : Nat) (σ : rS) : FP σ (fX10_movesReached_j155 k1 σ) := by
  unfold fX10_movesReached_j155
  refine FP_bd (fpX10_movesAll _ _ _) (fun _ _ => ?_)
  exact FP_some
theorem fpX10_movesReached_j77 (k1 : Nat) (σ : rS) : FP σ (fX10_movesReached_j77 k1 σ) := by
  unfold fX10_movesReached_j77
  refine FP_bd (FP_lp (fun x σ => fpX10_movesReached_L79 _ _ _) _ _ _) (fun _ _ => ?_)
  exact fpX10_movesReached_j155 _ _
theorem fpX10_movesReached_j37 (k1 : Nat) (σ : rS) : FP σ (fX10_movesReached_j37 k1 σ) := by
  unfold fX10_movesReached_j37
  refine FP_bd (FP_lp (fun x σ => fpX10_movesReached_L39 _ _ _) _ _ _) (fun _ _ => ?_)
  exact fpX10_movesReached_j77 _ _
theorem fpX10_movesReached (k1 : Nat) (σ : rS) : FP σ (fX10_movesReached k1 σ) := by
  unfold fX10_movesReached
  refine FP_bd (FP_lp (fun x σ => fpX10_movesReached_L2 _ _ _) _ _ _) (fun _ _ => ?_)
  exact fpX10_movesReached_j37 _ _
theorem fpX10_weakensAndEnds_L52 (k1 : Nat) (x2 : Int32) (x3 : Int32) (σ : rS) : FP σ (fX10_weakensAndEnds_L52 k1 x2 x3 σ) := by
  unfold fX10_weakensAndEnds_L52
  refine FP_ite ?_ ?_
  · skip
    refine FP_ite ?_ ?_
    · skip
      refine FP_rd (fun _ => ?_)
      refine FP_bnd ?_
      refine FP_bd (fpX10_moves _ _ _) (fun _ _ => ?_)
      refine FP_bd (fpX10_movesAll _ _ _) (fun _ _ => ?_)
      exact FP_some
    · skip
      exact FP_some
  · skip
    exact FP_some
theorem fpX10_weakensAndEnds (k1 : Nat) (σ : rS) : FP σ (fX10_weakensAndEnds k1 σ) := by
  unfold fX10_weakensAndEnds
  refine FP_bd (FP_lp (fun x σ => FP_fr (frX10_weakensAndEnds_L2 _ _ _) (by decide)) _ _ _) (fun _ _ => ?_)
  refine FP_bd (fpX10_ends _ _ _) (fun _ _ => ?_)
  refine FP_rd (fun _ => ?_)
  refine FP_bd (FP_lp (fun x σ => fpX10_weakensAndEnds_L52 _ _ _ _) _ _ _) (fun _ _ => ?_)
  exact FP_fr (frX10_weakensAndEnds_j97 _ _ _) (by decide)
theorem fpX10_minors_L129 (k1 : Nat) (x2 : Int32) (σ : rS) : FP σ (fX10_minors_L129 k1 x2 σ) := by
  unfold fX10_minors_L129
  refine FP_ite ?_ ?_
  · skip
    exact FP_some
  · skip
    refine FP_bd (FP_fr (frX10_isOld _ _ _) (by decide)) (fun _ _ => ?_)
    refine FP_ite ?_ ?_
    · skip
      refine FP_bnd ?_
      refine FP_ite ?_ ?_
      · skip
        refine FP_bd (FP_fr (frX10_goes _ _ _) (by decide)) (fun _ _ => ?_)
        refine FP_st (Or.inr (by unfold KT; omega)) (fun _ => ?_)
        exact FP_fr (frX10_minors_j168L129 _ _ _) (by decide)
      · skip
        exact FP_fr (frX10_minors_j168L129 _ _ _) (by decide)
    · skip
      exact FP_fr (frX10_minors_j168L129 _ _ _) (by decide)
theorem fpX10_minors_j45 (k1 : Nat) (σ : rS) : FP σ (fX10_minors_j45 k1 σ) := by
  unfold fX10_minors_j45
  refine FP_ite ?_ ?_
  · skip
    refine FP_bd (FP_fr (frX10_sifts _ _) (by decide)) (fun _ _ => ?_)
    refine FP_bd (FP_lp (fun x σ => FP_fr (frX10_minors_L70 _ _ _) (by decide)) _ _ _) (fun _ _ => ?_)
    refine FP_st (Or.inr (by unfold KT; omega)) (fun _ => ?_)
    refine FP_rd (fun _ => ?_)
    refine FP_bd (FP_lp (fun x σ => fpX10_minors_L129 _ _ _) _ _ _) (fun _ _ => ?_)
    refine FP_st (Or.inl (by omega)) (fun _ => ?_)
    refine FP_st (Or.inl (by omega)) (fun _ => ?_)
    refine FP_st (Or.inl (by omega)) (fun _ => ?_)
    exact FP_some
  · skip
    refine FP_bd (FP_fr (frX10_copyRow _ _ _ _ _ _ _ _ _) (by decide)) (fun _ _ => ?_)
    exact FP_some
theorem fpX10_minors (k1 : Nat) (σ : rS) : FP σ (fX10_minors k1 σ) := by
  unfold fX10_minors
  refine FP_bd (FP_fr (frX10_copyRow _ _ _ _ _ _ _ _ _) (by decide)) (fun _ _ => ?_)
  refine FP_bd (fpX10_begins _) (fun _ _ => ?_)
  refine FP_st (Or.inr (by unfold KT; omega)) (fun _ => ?_)
  refine FP_bd (FP_fr (frX10_cellsIn _ _ _) (by decide)) (fun _ _ => ?_)
  refine FP_st (Or.inr (by unfold KT; omega)) (fun _ => ?_)
  refine FP_bd (fpX10_movesReached _ _) (fun _ _ => ?_)
  refine FP_ite ?_ ?_
  · skip
    refine FP_bd (fpX10_weakensAndEnds _ _) (fun _ _ => ?_)
    exact fpX10_minors_j45 _ _
  · skip
    exact fpX10_minors_j45 _ _
theorem fpX10_slides_j120L9 (k1 : Nat) (x2 : Int32) (x3 : Int32) (x4 : Int32) (z0 : Int32) (z1 : Int32) (σ : rS) : FP σ (fX10_slides_j120L9 k1 x2 x3 x4 z0 z1 σ) := by
  unfold fX10_slides_j120L9
  refine FP_st (Or.inr (by unfold KT; omega)) (fun _ => ?_)
  refine FP_bd (FP_fr (frX10_cell _ _ _) (by decide)) (fun _ _ => ?_)
  refine FP_bnd ?_
  refine FP_st (Or.inl (by omega)) (fun _ => ?_)
  refine FP_bd (FP_fr (frX10_sizeOf _ _ _) (by decide)) (fun _ _ => ?_)
  refine FP_rd (fun _ => ?_)
  exact FP_some
theorem fpX10_slides_L9 (k1 : Nat) (x2 : Int32) (x3 : Int32) (σ : rS) : FP σ (fX10_slides_L9 k1 x2 x3 σ) := by
  unfold fX10_slides_L9
  refine FP_bd (FP_lp (fun x σ => FP_fr (frX10_slides_L15 _ _ _ _ _ _) (by decide)) _ _ _) (fun _ _ => ?_)
  refine FP_ite ?_ ?_
  · skip
    exact FP_some
  · skip
    refine FP_bd (FP_fr (frX10_of _ _ _ _) (by decide)) (fun _ _ => ?_)
    refine FP_ite ?_ ?_
    · skip
      exact fpX10_slides_j120L9 _ _ _ _ _ _ _
    · skip
      exact fpX10_slides_j120L9 _ _ _ _ _ _ _
theorem fpX10_slides (k1 : Nat) (σ : rS) : FP σ (fX10_slides k1 σ) := by
  unfold fX10_slides
  refine FP_st (Or.inr (by unfold KT; omega)) (fun _ => ?_)
  refine FP_bd (FP_lp (fun x σ => fpX10_slides_L9 _ _ _ _) _ _ _) (fun _ _ => ?_)
  exact FP_some
theorem fpX10_majors_L51 (k1 : Nat) (x2 : Int32) (x3 : Int32) (σ : rS) : FP σ (fX10_majors_L51 k1 x2 x3 σ) := by
  unfold fX10_majors_L51
  refine FP_ite ?_ ?_
  · skip
    refine FP_bnd ?_
    refine FP_bd (fpX10_marks _ _) (fun _ _ => ?_)
    exact FP_some
  · skip
    exact FP_some
theorem fpX10_majors_L187 (k1 : Nat) (x3 : Int32) (σ : rS) : FP σ (fX10_majors_L187 k1 x3 σ) := by
  unfold fX10_majors_L187
  refine FP_ite ?_ ?_
  · skip
    exact FP_some
  · skip
    refine FP_bd (FP_fr (frX10_isOld _ _ _) (by decide)) (fun _ _ => ?_)
    refine FP_ite ?_ ?_
    · skip
      exact FP_fr (frX10_majors_j226L187 _ _ _) (by decide)
    · skip
      refine FP_bnd ?_
      refine FP_ite ?_ ?_
      · skip
        refine FP_bd (FP_fr (frX10_goes _ _ _) (by decide)) (fun _ _ => ?_)
        refine FP_st (Or.inr (by unfold KT; omega)) (fun _ => ?_)
        exact FP_fr (frX10_majors_j226L187 _ _ _) (by decide)
      · skip
        exact FP_fr (frX10_majors_j226L187 _ _ _) (by decide)
theorem fpX10_majors (k1 : Nat) (σ : rS) : FP σ (fX10_majors k1 σ) := by
  unfold fX10_majors
  refine FP_bd (fpX10_reaches _ _ _ _) (fun _ _ => ?_)
  refine FP_bd (FP_lp (fun x σ => FP_fr (frX10_majors_L9 _ _ _) (by decide)) _ _ _) (fun _ _ => ?_)
  refine FP_bd (fpX10_ends _ _ _) (fun _ _ => ?_)
  refine FP_rd (fun _ => ?_)
  refine FP_bd (FP_lp (fun x σ => fpX10_majors_L51 _ _ _ _) _ _ _) (fun _ _ => ?_)
  refine FP_bd (fpX10_marksAll _ _ _) (fun _ _ => ?_)
  refine FP_bd (FP_lp (fun x σ => FP_fr (frX10_majors_L83 _ _ _ _) (by decide)) _ _ _) (fun _ _ => ?_)
  refine FP_bd (fpX10_slides _ _) (fun _ _ => ?_)
  refine FP_bd (FP_lp (fun x σ => FP_fr (frX10_majors_L119 _ _ _) (by decide)) _ _ _) (fun _ _ => ?_)
  refine FP_st (Or.inr (by unfold KT; omega)) (fun _ => ?_)
  refine FP_rd (fun _ => ?_)
  refine FP_bd (FP_lp (fun x σ => fpX10_majors_L187 _ _ _) _ _ _) (fun _ _ => ?_)
  refine FP_bd (FP_fr (frX10_sifts _ _) (by decide)) (fun _ _ => ?_)
  refine FP_st (Or.inl (by omega)) (fun _ => ?_)
  refine FP_st (Or.inl (by omega)) (fun _ => ?_)
  exact FP_some
theorem fpX10_hasRoom (k1 : Nat) (x2 : Int32) (σ : rS) : FP σ (fX10_hasRoom k1 x2 σ) := by
  unfold fX10_hasRoom
  refine FP_bd (FP_fr (frX10_cellsIn _ _ _) (by decide)) (fun _ _ => ?_)
  refine FP_ite ?_ ?_
  · skip
    refine FP_bd (FP_fr (frX10_copyRow _ _ _ _ _ _ _ _ _) (by decide)) (fun _ _ => ?_)
    refine FP_bd (fpX10_minors _ _) (fun _ _ => ?_)
    refine FP_ite ?_ ?_
    · skip
      refine FP_bd (fpX10_majors _ _) (fun _ _ => ?_)
      refine FP_bd (fpX10_minors _ _) (fun _ _ => ?_)
      refine FP_ite ?_ ?_
      · skip
        refine FP_bd (FP_fr (frX10_copyRow _ _ _ _ _ _ _ _ _) (by decide)) (fun _ _ => ?_)
        exact FP_some
      · skip
        exact FP_some
    · skip
      exact FP_some
  · skip
    exact FP_some
theorem fpX10_makes (k1 : Nat) (x2 : Int32) (x3 : Int32) (x4 : Int32) (x5 : Int32) (σ : rS) : FP σ (fX10_makes k1 x2 x3 x4 x5 σ) := by
  unfold fX10_makes
  refine FP_bd (fpX10_hasRoom _ _ _) (fun _ _ => ?_)
  refine FP_ite ?_ ?_
  · skip
    exact FP_some
  · skip
    refine FP_bd (FP_fr (frX10_cellsIn _ _ _) (by decide)) (fun _ _ => ?_)
    refine FP_rd (fun _ => ?_)
    refine FP_bd (FP_lp (fun x σ => FP_fr (frX10_makes_L29 _ _ _ _ _ _ _ _ _) (by decide)) _ _ _) (fun _ _ => ?_)
    refine FP_st (Or.inl (by omega)) (fun _ => ?_)
    refine FP_bd (FP_fr (frX10_cell _ _ _) (by decide)) (fun _ _ => ?_)
    refine FP_bnd ?_
    refine FP_st (Or.inl (by omega)) (fun _ => ?_)
    refine FP_bd (FP_fr (frX10_cell _ _ _) (by decide)) (fun _ _ => ?_)
    refine FP_bnd ?_
    refine FP_st (Or.inl (by omega)) (fun _ => ?_)
    refine FP_bd (FP_fr (frX10_cell _ _ _) (by decide)) (fun _ _ => ?_)
    refine FP_bnd ?_
    refine FP_st (Or.inl (by omega)) (fun _ => ?_)
    refine FP_bd (FP_fr (frX10_cell _ _ _) (by decide)) (fun _ _ => ?_)
    refine FP_bnd ?_
    refine FP_st (Or.inl (by omega)) (fun _ => ?_)
    refine FP_bd (FP_fr (frX10_cell _ _ _) (by decide)) (fun _ _ => ?_)
    refine FP_bnd ?_
    refine FP_st (Or.inl (by omega)) (fun _ => ?_)
    refine FP_st (Or.inl (by omega)) (fun _ => ?_)
    refine FP_bnd ?_
    refine FP_st (Or.inl (by omega)) (fun _ => ?_)
    refine FP_st (Or.inr (by unfold KT; omega)) (fun _ => ?_)
    refine FP_st (Or.inr (by unfold KT; omega)) (fun _ => ?_)
    exact FP_some
theorem fpX10_links (k1 : Nat) (x2 : Int32) (x3 : Int32) (x4 : Int32) (σ : rS) : FP σ (fX10_links k1 x2 x3 x4 σ) := by
  unfold fX10_links
  refine FP_bd (FP_fr (frX10_rootSpot _ _ _) (by decide)) (fun _ _ => ?_)
  refine FP_bd (FP_fr (frX10_of _ _ _ _) (by decide)) (fun _ _ => ?_)
  refine FP_st (Or.inr (by unfold KT; omega)) (fun _ => ?_)
  refine FP_bd (FP_fr (frX10_cell _ _ _) (by decide)) (fun _ _ => ?_)
  refine FP_bd (FP_fr (frX10_link _ _ _) (by decide)) (fun _ _ => ?_)
  refine FP_bnd ?_
  refine FP_st (Or.inl (by omega)) (fun _ => ?_)
  refine FP_bd (FP_fr (frX10_sifts _ _) (by decide)) (fun _ _ => ?_)
  refine FP_bd (FP_fr (frX10_keeps _ _ _ _) (by decide)) (fun _ _ => ?_)
  exact FP_some
theorem fpX10_tells (k1 : Nat) (x2 : Int32) (σ : rS) : FP σ (fX10_tells k1 x2 σ) := by
  unfold fX10_tells
  refine FP_st (Or.inr (by unfold KT; omega)) (fun _ => ?_)
  refine FP_bd (FP_lp (fun x σ => FP_fr (frX10_tells_L11 _ _ _ _) (by decide)) _ _ _) (fun _ _ => ?_)
  refine FP_st (Or.inl (by omega)) (fun _ => ?_)
  refine FP_bd (FP_fr (frX10_spotOf_ _ _ _) (by decide)) (fun _ _ => ?_)
  refine FP_bd (FP_fr (frX10_cell _ _ _) (by decide)) (fun _ _ => ?_)
  refine FP_bnd ?_
  refine FP_st (Or.inl (by omega)) (fun _ => ?_)
  refine FP_ite ?_ ?_
  · skip
    refine FP_bnd ?_
    refine FP_st (Or.inl (by omega)) (fun _ => ?_)
    exact FP_some
  · skip
    exact FP_some
theorem fpX10_does_j45 (k1 : Nat) (x2 : Int32) (x3 : Int32) (x4 : Int32) (x5 : Int32) (x6 : Int32) (z0 : Int32) (σ : rS) : FP σ (fX10_does_j45 k1 x2 x3 x4 x5 x6 z0 σ) := by
  unfold fX10_does_j45
  refine FP_st (Or.inr (by unfold KT; omega)) (fun _ => ?_)
  refine FP_ite ?_ ?_
  · skip
    refine FP_bd (fpX10_makes _ _ _ _ _ _) (fun _ _ => ?_)
    refine FP_ite ?_ ?_
    · skip
      exact FP_some
    · skip
      exact FP_some
  · skip
    refine FP_ite ?_ ?_
    · skip
      refine FP_bd (fpX10_links _ _ _ _ _) (fun _ _ => ?_)
      exact FP_some
    · skip
      refine FP_ite ?_ ?_
      · skip
        refine FP_bd (FP_fr (frX10_rootSpot _ _ _) (by decide)) (fun _ _ => ?_)
        refine FP_bd (FP_fr (frX10_of _ _ _ _) (by decide)) (fun _ _ => ?_)
        refine FP_st (Or.inr (by unfold KT; omega)) (fun _ => ?_)
        refine FP_bnd ?_
        refine FP_st (Or.inl (by omega)) (fun _ => ?_)
        exact FP_some
      · skip
        refine FP_ite ?_ ?_
        · skip
          refine FP_bnd ?_
          refine FP_st (Or.inr (by unfold KT; omega)) (fun _ => ?_)
          refine FP_bnd ?_
          refine FP_st (Or.inl (by omega)) (fun _ => ?_)
          exact FP_some
        · skip
          refine FP_ite ?_ ?_
          · skip
            refine FP_bd (fpX10_minors _ _) (fun _ _ => ?_)
            refine FP_ite ?_ ?_
            · skip
              exact FP_some
            · skip
              refine FP_st (Or.inr (by unfold KT; omega)) (fun _ => ?_)
              exact FP_some
          · skip
            refine FP_ite ?_ ?_
            · skip
              refine FP_bd (fpX10_majors _ _) (fun _ _ => ?_)
              refine FP_st (Or.inr (by unfold KT; omega)) (fun _ => ?_)
              exact FP_some
            · skip
              refine FP_ite ?_ ?_
              · skip
                refine FP_bd (fpX10_tells _ _ _) (fun _ _ => ?_)
                refine FP_st (Or.inr (by unfold KT; omega)) (fun _ => ?_)
                exact FP_some
              · skip
                refine FP_st (Or.inr (by unfold KT; omega)) (fun _ => ?_)
                refine FP_bd (FP_lp (fun x σ => FP_fr (frX10_does_L241 _ _ _) (by decide)) _ _ _) (fun _ _ => ?_)
                refine FP_st (Or.inl (by omega)) (fun _ => ?_)
                refine FP_st (Or.inr (by unfold KT; omega)) (fun _ => ?_)
                exact FP_some
theorem fpX10_does_j44 (k1 : Nat) (x2 : Int32) (x3 : Int32) (x4 : Int32) (x5 : Int32) (x6 : Int32) (σ : rS) : FP σ (fX10_does_j44 k1 x2 x3 x4 x5 x6 σ) := by
  unfold fX10_does_j44
  exact fpX10_does_j45 _ _ _ _ _ _ _ _
theorem fpX10_does (k1 : Nat) (x2 : Int32) (x3 : Int32) (x4 : Int32) (x5 : Int32) (x6 : Int32) (σ : rS) : FP σ (fX10_does k1 x2 x3 x4 x5 x6 σ) := by
  unfold fX10_does
  refine FP_bd (FP_fr (frX10_stops _ _ _ _ _ _ _) (by decide)) (fun _ _ => ?_)
  refine FP_ite ?_ ?_
  · skip
    refine FP_ite ?_ ?_
    · skip
      refine FP_ite ?_ ?_
      · skip
        refine FP_bnd ?_
        exact fpX10_does_j45 _ _ _ _ _ _ _ _
      · skip
        exact fpX10_does_j44 _ _ _ _ _ _ _
    · skip
      exact fpX10_does_j44 _ _ _ _ _ _ _
  · skip
    exact FP_some
theorem fpX10_status (x1 : Int32) (σ : rS) : FP σ (fX10_status x1 σ) := by
  unfold fX10_status
  refine FP_st (Or.inr (by unfold KT; omega)) (fun _ => ?_)
  refine FP_bd (FP_fr (frX10_isIn _ _ _ _) (by decide)) (fun _ _ => ?_)
  refine FP_ite ?_ ?_
  · skip
    exact FP_some
  · skip
    refine FP_bnd ?_
    exact FP_some
theorem fpX10_log (x1 : Int32) (x2 : Int32) (σ : rS) : FP σ (fX10_log x1 x2 σ) := by
  unfold fX10_log
  refine FP_st (Or.inr (by unfold KT; omega)) (fun _ => ?_)
  refine FP_ite ?_ ?_
  · skip
    exact FP_some
  · skip
    refine FP_ite ?_ ?_
    · skip
      refine FP_bd (FP_fr (frX10_isIn _ _ _ _) (by decide)) (fun _ _ => ?_)
      refine FP_ite ?_ ?_
      · skip
        exact FP_some
      · skip
        refine FP_bnd ?_
        exact FP_some
    · skip
      exact FP_some
theorem fpX10_rule (x1 : Int32) (σ : rS) : FP σ (fX10_rule x1 σ) := by
  unfold fX10_rule
  refine FP_st (Or.inr (by unfold KT; omega)) (fun _ => ?_)
  refine FP_ite ?_ ?_
  · skip
    exact FP_some
  · skip
    refine FP_bd (FP_fr (frX10_isIn _ _ _ _) (by decide)) (fun _ _ => ?_)
    refine FP_ite ?_ ?_
    · skip
      exact FP_some
    · skip
      refine FP_bnd ?_
      exact FP_some
theorem fpX10_root (x1 : Int32) (σ : rS) : FP σ (fX10_root x1 σ) := by
  unfold fX10_root
  refine FP_st (Or.inr (by unfold KT; omega)) (fun _ => ?_)
  refine FP_bd (FP_fr (frX10_isRoot _ _) (by decide)) (fun _ _ => ?_)
  refine FP_ite ?_ ?_
  · skip
    exact FP_some
  · skip
    refine FP_bnd ?_
    exact FP_some
theorem fpX10_thing_j21 (x1 : Int32) (x2 : Int32) (z0 : Int32) (σ : rS) : FP σ (fX10_thing_j21 x1 x2 z0 σ) := by
  unfold fX10_thing_j21
  refine FP_ite ?_ ?_
  · skip
    refine FP_st (Or.inr (by unfold KT; omega)) (fun _ => ?_)
    exact FP_some
  · skip
    refine FP_bd (FP_fr (frX10_isIn _ _ _ _) (by decide)) (fun _ _ => ?_)
    refine FP_ite ?_ ?_
    · skip
      refine FP_st (Or.inr (by unfold KT; omega)) (fun _ => ?_)
      exact FP_some
    · skip
      refine FP_ite ?_ ?_
      · skip
        refine FP_bd (FP_fr (frX10_of _ _ _ _) (by decide)) (fun _ _ => ?_)
        exact FP_some
      · skip
        refine FP_ite ?_ ?_
        · skip
          refine FP_bd (FP_fr (frX10_of _ _ _ _) (by decide)) (fun _ _ => ?_)
          exact FP_some
        · skip
          refine FP_ite ?_ ?_
          · skip
            refine FP_bd (fpX10_reaches _ _ _ _) (fun _ _ => ?_)
            refine FP_bnd ?_
            refine FP_ite ?_ ?_
            · skip
              exact FP_some
            · skip
              exact FP_some
          · skip
            refine FP_ite ?_ ?_
            · skip
              refine FP_bd (FP_fr (frX10_isEnding _ _) (by decide)) (fun _ _ => ?_)
              refine FP_ite ?_ ?_
              · skip
                exact FP_some
              · skip
                exact FP_some
            · skip
              refine FP_bd (FP_fr (frX10_of _ _ _ _) (by decide)) (fun _ _ => ?_)
              exact FP_some
theorem fpX10_thing (x1 : Int32) (x2 : Int32) (σ : rS) : FP σ (fX10_thing x1 x2 σ) := by
  unfold fX10_thing
  refine FP_st (Or.inr (by unfold KT; omega)) (fun _ => ?_)
  refine FP_ite ?_ ?_
  · skip
    refine FP_bd (FP_fr (frX10_spotOf_ _ _ _) (by decide)) (fun _ _ => ?_)
    exact fpX10_thing_j21 _ _ _ _
  · skip
    exact fpX10_thing_j21 _ _ _ _
theorem fpX10_field (x1 : Int32) (x2 : Int32) (σ : rS) : FP σ (fX10_field x1 x2 σ) := by
  unfold fX10_field
  refine FP_st (Or.inr (by unfold KT; omega)) (fun _ => ?_)
  refine FP_ite ?_ ?_
  · skip
    refine FP_bd (FP_fr (frX10_spotOf_ _ _ _) (by decide)) (fun _ _ => ?_)
    exact FP_fr (frX10_field_j21 _ _ _) (by decide)
  · skip
    exact FP_fr (frX10_field_j21 _ _ _) (by decide)
theorem fpX10_at (x1 : Int32) (x2 : Int32) (σ : rS) : FP σ (fX10_at x1 x2 σ) := by
  unfold fX10_at
  refine FP_st (Or.inr (by unfold KT; omega)) (fun _ => ?_)
  refine FP_bd (FP_lp (fun x σ => FP_fr (frX10_at_L7 _ _ _ _) (by decide)) _ _ _) (fun _ _ => ?_)
  split
  · skip
    refine FP_bd (FP_fr (frX10_of _ _ _ _) (by decide)) (fun _ _ => ?_)
    exact FP_some
  · skip
    exact FP_some
theorem fpX10_remembered (x1 : Int32) (x2 : Int32) (σ : rS) : FP σ (fX10_remembered x1 x2 σ) := by
  unfold fX10_remembered
  refine FP_st (Or.inr (by unfold KT; omega)) (fun _ => ?_)
  refine FP_ite ?_ ?_
  · skip
    exact FP_some
  · skip
    refine FP_ite ?_ ?_
    · skip
      exact FP_some
    · skip
      refine FP_ite ?_ ?_
      · skip
        refine FP_ite ?_ ?_
        · skip
          exact FP_fr (frX10_remembered_j45 _ _ _) (by decide)
        · skip
          refine FP_bd (FP_fr (frX10_isIn _ _ _ _) (by decide)) (fun _ _ => ?_)
          refine FP_ite ?_ ?_
          · skip
            exact FP_some
          · skip
            exact FP_fr (frX10_remembered_j45 _ _ _) (by decide)
      · skip
        exact FP_some
theorem fpX10_line (x1 : Int32) (x2 : Int32) (σ : rS) : FP σ (fX10_line x1 x2 σ) := by
  unfold fX10_line
  refine FP_st (Or.inr (by unfold KT; omega)) (fun _ => ?_)
  refine FP_ite ?_ ?_
  · skip
    exact FP_some
  · skip
    refine FP_bd (FP_fr (frX10_isIn _ _ _ _) (by decide)) (fun _ _ => ?_)
    refine FP_ite ?_ ?_
    · skip
      exact FP_some
    · skip
      refine FP_ite ?_ ?_
      · skip
        exact FP_fr (frX10_line_j37 _ _ _) (by decide)
      · skip
        exact FP_fr (frX10_line_j37 _ _ _) (by decide)
theorem fpX10_would (x1 : Int32) (x2 : Int32) (σ : rS) : FP σ (fX10_would x1 x2 σ) := by
  unfold fX10_would
  refine FP_st (Or.inr (by unfold KT; omega)) (fun _ => ?_)
  refine FP_ite ?_ ?_
  · skip
    exact FP_some
  · skip
    refine FP_bd (FP_fr (frX10_isIn _ _ _ _) (by decide)) (fun _ _ => ?_)
    refine FP_ite ?_ ?_
    · skip
      exact FP_some
    · skip
      refine FP_bd (FP_fr (frX10_copyRow _ _ _ _ _ _ _ _ _) (by decide)) (fun _ _ => ?_)
      refine FP_ite ?_ ?_
      · skip
        refine FP_bd (fpX10_minors _ _) (fun _ _ => ?_)
        refine FP_ite ?_ ?_
        · skip
          exact FP_some
        · skip
          exact FP_fr (frX10_would_j67 _ _ _) (by decide)
      · skip
        refine FP_bd (fpX10_majors _ _) (fun _ _ => ?_)
        exact FP_fr (frX10_would_j67 _ _ _) (by decide)
theorem fpX10_walksOn_j67L19 (x1 : Int32) (x2 : Int32) (x3 : Int32) (z0 : Int32) (σ : rS) : FP σ (fX10_walksOn_j67L19 x1 x2 x3 z0 σ) := by
  unfold fX10_walksOn_j67L19
  refine FP_ite ?_ ?_
  · skip
    exact FP_fr (frX10_walksOn_j125L19 _ _ _ _) (by decide)
  · skip
    refine FP_bnd ?_
    refine FP_ite ?_ ?_
    · skip
      refine FP_bnd ?_
      refine FP_st (Or.inl (by omega)) (fun _ => ?_)
      refine FP_bnd ?_
      refine FP_st (Or.inl (by omega)) (fun _ => ?_)
      refine FP_bnd ?_
      refine FP_bnd ?_
      refine FP_st (Or.inl (by omega)) (fun _ => ?_)
      refine FP_bd (fpX10_marks _ _) (fun _ _ => ?_)
      exact FP_fr (frX10_walksOn_j125L19 _ _ _ _) (by decide)
    · skip
      exact FP_fr (frX10_walksOn_j125L19 _ _ _ _) (by decide)
theorem fpX10_walksOn_L19 (x1 : Int32) (x2 : Int32) (x3 : Int32) (σ : rS) : FP σ (fX10_walksOn_L19 x1 x2 x3 σ) := by
  unfold fX10_walksOn_L19
  refine FP_bd (FP_fr (frX10_of _ _ _ _) (by decide)) (fun _ _ => ?_)
  refine FP_ite ?_ ?_
  · skip
    refine FP_bd (FP_fr (frX10_isWeak _ _ _ _) (by decide)) (fun _ _ => ?_)
    refine FP_ite ?_ ?_
    · skip
      refine FP_bd (FP_fr (frX10_of _ _ _ _) (by decide)) (fun _ _ => ?_)
      refine FP_bd (FP_fr (frX10_spotOf_ _ _ _) (by decide)) (fun _ _ => ?_)
      exact fpX10_walksOn_j67L19 _ _ _ _ _
    · skip
      exact fpX10_walksOn_j67L19 _ _ _ _ _
  · skip
    exact FP_some
theorem fpX10_walksOn_L2 (x1 : Int32) (σ : rS) : FP σ (fX10_walksOn_L2 x1 σ) := by
  unfold fX10_walksOn_L2
  refine FP_ite ?_ ?_
  · skip
    refine FP_bnd ?_
    refine FP_rd (fun _ => ?_)
    refine FP_bd (FP_lp (fun x σ => fpX10_walksOn_L19 _ _ _ _) _ _ _) (fun _ _ => ?_)
    exact FP_some
  · skip
    exact FP_some
theorem fpX10_walksOn  (σ : rS) : FP σ (fX10_walksOn  σ) := by
  unfold fX10_walksOn
  refine FP_bd (FP_lp (fun x σ => fpX10_walksOn_L2 _ _) _ _ _) (fun _ _ => ?_)
  exact FP_some
theorem fpX10_walks_L6 (x1 : Int32) (σ : rS) : FP σ (fX10_walks_L6 x1 σ) := by
  unfold fX10_walks_L6
  refine FP_ite ?_ ?_
  · skip
    refine FP_bd (FP_fr (frX10_rootSpot _ _ _) (by decide)) (fun _ _ => ?_)
    refine FP_ite ?_ ?_
    · skip
      exact FP_fr (frX10_walks_j64L6 _ _) (by decide)
    · skip
      refine FP_bnd ?_
      refine FP_ite ?_ ?_
      · skip
        refine FP_bnd ?_
        refine FP_st (Or.inl (by omega)) (fun _ => ?_)
        refine FP_bnd ?_
        refine FP_st (Or.inl (by omega)) (fun _ => ?_)
        refine FP_bnd ?_
        refine FP_st (Or.inl (by omega)) (fun _ => ?_)
        refine FP_bd (fpX10_marks _ _) (fun _ _ => ?_)
        exact FP_fr (frX10_walks_j64L6 _ _) (by decide)
      · skip
        exact FP_fr (frX10_walks_j64L6 _ _) (by decide)
  · skip
    exact FP_some
theorem fpX10_walks  (σ : rS) : FP σ (fX10_walks  σ) := by
  unfold fX10_walks
  refine FP_bd (fpX10_begins _) (fun _ _ => ?_)
  refine FP_bd (FP_lp (fun x σ => fpX10_walks_L6 _ _) _ _ _) (fun _ _ => ?_)
  refine FP_bd (fpX10_walksOn _) (fun _ _ => ?_)
  exact FP_some
theorem fpX10_path_j21 (x2 : Int32) (z0 : Int32) (σ : rS) : FP σ (fX10_path_j21 x2 z0 σ) := by
  unfold fX10_path_j21
  refine FP_ite ?_ ?_
  · skip
    exact FP_some
  · skip
    refine FP_bd (fpX10_walks _) (fun _ _ => ?_)
    refine FP_bnd ?_
    refine FP_ite ?_ ?_
    · skip
      exact FP_some
    · skip
      refine FP_ite ?_ ?_
      · skip
        exact FP_some
      · skip
        refine FP_bnd ?_
        refine FP_ite ?_ ?_
        · skip
          exact FP_some
        · skip
          refine FP_ite ?_ ?_
          · skip
            refine FP_bnd ?_
            exact FP_some
          · skip
            refine FP_bd (FP_lp (fun x σ => FP_fr (frX10_path_L74 _ _ _) (by decide)) _ _ _) (fun _ _ => ?_)
            refine FP_bnd ?_
            exact FP_some
theorem fpX10_path (x1 : Int32) (x2 : Int32) (σ : rS) : FP σ (fX10_path x1 x2 σ) := by
  unfold fX10_path
  refine FP_st (Or.inr (by unfold KT; omega)) (fun _ => ?_)
  refine FP_ite ?_ ?_
  · skip
    refine FP_bd (FP_fr (frX10_spotOf_ _ _ _) (by decide)) (fun _ _ => ?_)
    exact fpX10_path_j21 _ _ _
  · skip
    exact fpX10_path_j21 _ _ _
theorem fpX10_alone (x1 : Int32) (x2 : Int32) (σ : rS) : FP σ (fX10_alone x1 x2 σ) := by
  unfold fX10_alone
  refine FP_st (Or.inr (by unfold KT; omega)) (fun _ => ?_)
  refine FP_bd (FP_fr (frX10_isRoot _ _) (by decide)) (fun _ _ => ?_)
  refine FP_ite ?_ ?_
  · skip
    exact FP_some
  · skip
    refine FP_bnd ?_
    refine FP_ite ?_ ?_
    · skip
      exact FP_some
    · skip
      refine FP_bd (FP_fr (frX10_isIn _ _ _ _) (by decide)) (fun _ _ => ?_)
      refine FP_ite ?_ ?_
      · skip
        exact FP_some
      · skip
        refine FP_bd (fpX10_reaches _ _ _ _) (fun _ _ => ?_)
        refine FP_rd (fun _ => ?_)
        refine FP_bd (FP_fr (frX10_metCells _) (by decide)) (fun _ _ => ?_)
        refine FP_bd (fpX10_reaches _ _ _ _) (fun _ _ => ?_)
        refine FP_ite ?_ ?_
        · skip
          exact FP_some
        · skip
          refine FP_bd (FP_fr (frX10_metCells _) (by decide)) (fun _ _ => ?_)
          exact FP_some
theorem fpX10_holders (x1 : Int32) (σ : rS) : FP σ (fX10_holders x1 σ) := by
  unfold fX10_holders
  refine FP_st (Or.inr (by unfold KT; omega)) (fun _ => ?_)
  refine FP_ite ?_ ?_
  · skip
    exact FP_some
  · skip
    refine FP_bd (FP_fr (frX10_spotOf_ _ _ _) (by decide)) (fun _ _ => ?_)
    refine FP_ite ?_ ?_
    · skip
      exact FP_some
    · skip
      refine FP_bd (fpX10_reaches _ _ _ _) (fun _ _ => ?_)
      refine FP_bd (FP_lp (fun x σ => FP_fr (frX10_holders_L38 _ _ _ _) (by decide)) _ _ _) (fun _ _ => ?_)
      refine FP_bd (FP_lp (fun x σ => FP_fr (frX10_holders_L74 _ _ _ _) (by decide)) _ _ _) (fun _ _ => ?_)
      exact FP_some
theorem fpX10_round_j21 (x1 : Int32) (z0 : Int32) (σ : rS) : FP σ (fX10_round_j21 x1 z0 σ) := by
  unfold fX10_round_j21
  refine FP_ite ?_ ?_
  · skip
    exact FP_some
  · skip
    refine FP_bd (fpX10_begins _) (fun _ _ => ?_)
    refine FP_bnd ?_
    refine FP_st (Or.inl (by omega)) (fun _ => ?_)
    refine FP_bd (fpX10_marks _ _) (fun _ _ => ?_)
    refine FP_bd (fpX10_walksOn _) (fun _ _ => ?_)
    refine FP_bd (FP_lp (fun x σ => FP_fr (frX10_round_L54 _ _ _ _) (by decide)) _ _ _) (fun _ _ => ?_)
    exact FP_some
theorem fpX10_round (x1 : Int32) (σ : rS) : FP σ (fX10_round x1 σ) := by
  unfold fX10_round
  refine FP_st (Or.inr (by unfold KT; omega)) (fun _ => ?_)
  refine FP_ite ?_ ?_
  · skip
    refine FP_bd (FP_fr (frX10_spotOf_ _ _ _) (by decide)) (fun _ _ => ?_)
    exact fpX10_round_j21 _ _ _
  · skip
    exact fpX10_round_j21 _ _ _
theorem fpX10_room (x1 : Int32) (σ : rS) : FP σ (fX10_room x1 σ) := by
  unfold fX10_room
  refine FP_st (Or.inr (by unfold KT; omega)) (fun _ => ?_)
  refine FP_ite ?_ ?_
  · skip
    exact FP_some
  · skip
    refine FP_bd (FP_fr (frX10_isIn _ _ _ _) (by decide)) (fun _ _ => ?_)
    refine FP_ite ?_ ?_
    · skip
      exact FP_some
    · skip
      refine FP_bd (FP_fr (frX10_cellsIn _ _ _) (by decide)) (fun _ _ => ?_)
      refine FP_bnz ?_
      exact FP_some
theorem fpX10_areSet (x1 : Int32) (x2 : Int32) (σ : rS) : FP σ (fX10_areSet x1 x2 σ) := by
  unfold fX10_areSet
  refine FP_ite ?_ ?_
  · skip
    exact FP_fr (frX10_areSet_j10 _ _ _) (by decide)
  · skip
    refine FP_ite ?_ ?_
    · skip
      exact FP_fr (frX10_areSet_j10 _ _ _) (by decide)
    · skip
      refine FP_bnd ?_
      refine FP_ite ?_ ?_
      · skip
        refine FP_bnd ?_
        refine FP_ite ?_ ?_
        · skip
          refine FP_bd (FP_fr (frX10_of _ _ _ _) (by decide)) (fun _ _ => ?_)
          refine FP_bd (FP_fr (frX10_of _ _ _ _) (by decide)) (fun _ _ => ?_)
          refine FP_ite ?_ ?_
          · skip
            refine FP_bd (FP_fr (frX10_of _ _ _ _) (by decide)) (fun _ _ => ?_)
            refine FP_bd (FP_fr (frX10_of _ _ _ _) (by decide)) (fun _ _ => ?_)
            refine FP_ite ?_ ?_
            · skip
              refine FP_bd (FP_fr (frX10_of _ _ _ _) (by decide)) (fun _ _ => ?_)
              refine FP_bd (FP_fr (frX10_of _ _ _ _) (by decide)) (fun _ _ => ?_)
              refine FP_ite ?_ ?_
              · skip
                refine FP_bnd ?_
                refine FP_st (Or.inl (by omega)) (fun _ => ?_)
                refine FP_bnd ?_
                refine FP_st (Or.inl (by omega)) (fun _ => ?_)
                refine FP_bnd ?_
                refine FP_st (Or.inl (by omega)) (fun _ => ?_)
                refine FP_st (Or.inr (by unfold KT; omega)) (fun _ => ?_)
                exact FP_some
              · skip
                exact FP_some
            · skip
              exact FP_some
          · skip
            exact FP_some
        · skip
          exact FP_fr (frX10_areSet_j41 _ _ _) (by decide)
      · skip
        exact FP_fr (frX10_areSet_j41 _ _ _) (by decide)
theorem fpX10_alike_L120 (x3 : Int32) (x4 : Int32) (σ : rS) : FP σ (fX10_alike_L120 x3 x4 σ) := by
  unfold fX10_alike_L120
  refine FP_bnd ?_
  refine FP_bd (FP_fr (frX10_of _ _ _ _) (by decide)) (fun _ _ => ?_)
  refine FP_ite ?_ ?_
  · skip
    refine FP_bnd ?_
    refine FP_bd (FP_fr (frX10_of _ _ _ _) (by decide)) (fun _ _ => ?_)
    refine FP_bd (FP_fr (frX10_spotOf_ _ _ _) (by decide)) (fun _ _ => ?_)
    refine FP_bnd ?_
    refine FP_bnd ?_
    refine FP_bd (FP_fr (frX10_of _ _ _ _) (by decide)) (fun _ _ => ?_)
    refine FP_bd (FP_fr (frX10_spotOf_ _ _ _) (by decide)) (fun _ _ => ?_)
    refine FP_bd (fpX10_areSet _ _ _) (fun _ _ => ?_)
    refine FP_ite ?_ ?_
    · skip
      exact FP_some
    · skip
      exact FP_some
  · skip
    exact FP_some
theorem fpX10_alike_L109 (x3 : Int32) (σ : rS) : FP σ (fX10_alike_L109 x3 σ) := by
  unfold fX10_alike_L109
  refine FP_ite ?_ ?_
  · skip
    refine FP_bd (FP_lp (fun x σ => fpX10_alike_L120 _ _ _) _ _ _) (fun _ _ => ?_)
    split
    · skip
      exact FP_some
    · skip
      exact FP_some
  · skip
    exact FP_some
theorem fpX10_alike (x1 : Int32) (x2 : Int32) (σ : rS) : FP σ (fX10_alike x1 x2 σ) := by
  unfold fX10_alike
  refine FP_st (Or.inr (by unfold KT; omega)) (fun _ => ?_)
  refine FP_bd (FP_fr (frX10_isRoot _ _) (by decide)) (fun _ _ => ?_)
  refine FP_ite ?_ ?_
  · skip
    exact FP_some
  · skip
    refine FP_bd (FP_fr (frX10_isRoot _ _) (by decide)) (fun _ _ => ?_)
    refine FP_ite ?_ ?_
    · skip
      exact FP_some
    · skip
      refine FP_bnd ?_
      refine FP_ite ?_ ?_
      · skip
        exact FP_some
      · skip
        refine FP_bnd ?_
        refine FP_ite ?_ ?_
        · skip
          exact FP_some
        · skip
          refine FP_bd (FP_lp (fun x σ => FP_fr (frX10_alike_L51 _ _ _ _) (by decide)) _ _ _) (fun _ _ => ?_)
          refine FP_st (Or.inr (by unfold KT; omega)) (fun _ => ?_)
          refine FP_bd (FP_fr (frX10_rootSpot _ _ _) (by decide)) (fun _ _ => ?_)
          refine FP_bd (FP_fr (frX10_rootSpot _ _ _) (by decide)) (fun _ _ => ?_)
          refine FP_bd (fpX10_areSet _ _ _) (fun _ _ => ?_)
          refine FP_ite ?_ ?_
          · skip
            exact FP_some
          · skip
            refine FP_bd (FP_lp (fun x σ => fpX10_alike_L109 _ _) _ _ _) (fun _ _ => ?_)
            split
            · skip
              exact FP_some
            · skip
              exact FP_some
theorem fpX10_until_L39 (x1 : Int32) (x2 : Int32) (σ : rS) : FP σ (fX10_until_L39 x1 x2 σ) := by
  unfold fX10_until_L39
  refine FP_ite ?_ ?_
  · skip
    exact FP_some
  · skip
    refine FP_bd (FP_fr (frX10_spotOf_ _ _ _) (by decide)) (fun _ _ => ?_)
    refine FP_ite ?_ ?_
    · skip
      exact FP_some
    · skip
      refine FP_bd (FP_fr (frX10_isOld _ _ _) (by decide)) (fun _ _ => ?_)
      refine FP_ite ?_ ?_
      · skip
        refine FP_ite ?_ ?_
        · skip
          exact FP_some
        · skip
          refine FP_bd (fpX10_minors _ _) (fun _ _ => ?_)
          refine FP_ite ?_ ?_
          · skip
            exact FP_some
          · skip
            exact FP_some
      · skip
        exact FP_some
theorem fpX10_until (x1 : Int32) (σ : rS) : FP σ (fX10_until x1 σ) := by
  unfold fX10_until
  refine FP_st (Or.inr (by unfold KT; omega)) (fun _ => ?_)
  refine FP_ite ?_ ?_
  · skip
    exact FP_some
  · skip
    refine FP_bd (FP_fr (frX10_spotOf_ _ _ _) (by decide)) (fun _ _ => ?_)
    refine FP_ite ?_ ?_
    · skip
      exact FP_some
    · skip
      refine FP_bd (FP_fr (frX10_copyRow _ _ _ _ _ _ _ _ _) (by decide)) (fun _ _ => ?_)
      refine FP_bd (FP_lp (fun x σ => fpX10_until_L39 _ _ _) _ _ _) (fun _ _ => ?_)
      split
      · skip
        exact FP_some
      · skip
        exact FP_some
      · skip
        exact FP_some
      · skip
        exact FP_some
theorem fpX10_garbage (x1 : Int32) (σ : rS) : FP σ (fX10_garbage x1 σ) := by
  unfold fX10_garbage
  refine FP_st (Or.inr (by unfold KT; omega)) (fun _ => ?_)
  refine FP_ite ?_ ?_
  · skip
    exact FP_some
  · skip
    refine FP_bd (FP_fr (frX10_isIn _ _ _ _) (by decide)) (fun _ _ => ?_)
    refine FP_ite ?_ ?_
    · skip
      exact FP_some
    · skip
      refine FP_bd (fpX10_reaches _ _ _ _) (fun _ _ => ?_)
      refine FP_bd (FP_lp (fun x σ => FP_fr (frX10_garbage_L40 _ _ _ _) (by decide)) _ _ _) (fun _ _ => ?_)
      exact FP_some
theorem fpX10_step (x1 : Int32) (x2 : Int32) (x3 : Int32) (σ : rS) : FP σ (fX10_step x1 x2 x3 σ) := by
  unfold fX10_step
  refine FP_st (Or.inr (by unfold KT; omega)) (fun _ => ?_)
  refine FP_bd (FP_fr (frX10_isScript _ _) (by decide)) (fun _ _ => ?_)
  refine FP_ite ?_ ?_
  · skip
    exact FP_some
  · skip
    refine FP_bnd ?_
    refine FP_bd (FP_fr (frX10_isIn _ _ _ _) (by decide)) (fun _ _ => ?_)
    refine FP_ite ?_ ?_
    · skip
      exact FP_some
    · skip
      refine FP_bd (FP_fr (frX10_isIn _ _ _ _) (by decide)) (fun _ _ => ?_)
      refine FP_ite ?_ ?_
      · skip
        exact FP_some
      · skip
        refine FP_bnd ?_
        exact FP_some
theorem fpX10_run_L52 (x1 : Int32) (x2 : Int32) (x3 : Int32) (x4 : Int32) (σ : rS) : FP σ (fX10_run_L52 x1 x2 x3 x4 σ) := by
  unfold fX10_run_L52
  refine FP_ite ?_ ?_
  · skip
    exact FP_some
  · skip
    refine FP_bnd ?_
    refine FP_ite ?_ ?_
    · skip
      refine FP_rd (fun _ => ?_)
      refine FP_bnd ?_
      refine FP_bnd ?_
      refine FP_bnd ?_
      refine FP_bnd ?_
      refine FP_bnd ?_
      refine FP_bd (fpX10_does _ _ _ _ _ _ _) (fun _ _ => ?_)
      refine FP_ite ?_ ?_
      · skip
        exact FP_fr (frX10_run_j137L52 _ _ _ _ _) (by decide)
      · skip
        exact FP_fr (frX10_run_j137L52 _ _ _ _ _) (by decide)
    · skip
      exact FP_some
theorem fpX10_run (x1 : Int32) (x2 : Int32) (σ : rS) : FP σ (fX10_run x1 x2 σ) := by
  unfold fX10_run
  refine FP_st (Or.inr (by unfold KT; omega)) (fun _ => ?_)
  refine FP_bd (FP_fr (frX10_isScript _ _) (by decide)) (fun _ _ => ?_)
  refine FP_ite ?_ ?_
  · skip
    exact FP_some
  · skip
    refine FP_ite ?_ ?_
    · skip
      exact FP_some
    · skip
      refine FP_bd (FP_fr (frX10_isIn _ _ _ _) (by decide)) (fun _ _ => ?_)
      refine FP_ite ?_ ?_
      · skip
        exact FP_some
      · skip
        refine FP_bd (FP_fr (frX10_copyRow _ _ _ _ _ _ _ _ _) (by decide)) (fun _ _ => ?_)
        refine FP_bd (FP_lp (fun x σ => fpX10_run_L52 _ _ _ _ _) _ _ _) (fun _ _ => ?_)
        exact FP_fr (frX10_run_j150 _ _ _ _) (by decide)
theorem fpX10_reached  (σ : rS) : FP σ (fX10_reached  σ) := by
  unfold fX10_reached
  refine FP_bd (fpX10_reaches _ _ _ _) (fun _ _ => ?_)
  exact FP_some
theorem fpX10_most (x1 : Int32) (σ : rS) : FP σ (fX10_most x1 σ) := by
  unfold fX10_most
  refine FP_st (Or.inr (by unfold KT; omega)) (fun _ => ?_)
  refine FP_ite ?_ ?_
  · skip
    exact FP_some
  · skip
    refine FP_ite ?_ ?_
    · skip
      refine FP_bd (FP_fr (frX10_cellsIn _ _ _) (by decide)) (fun _ _ => ?_)
      exact FP_some
    · skip
      refine FP_ite ?_ ?_
      · skip
        refine FP_bd (FP_fr (frX10_cellsIn _ _ _) (by decide)) (fun _ _ => ?_)
        exact FP_some
      · skip
        refine FP_ite ?_ ?_
        · skip
          refine FP_bd (FP_fr (frX10_cellsIn _ _ _) (by decide)) (fun _ _ => ?_)
          exact FP_some
        · skip
          refine FP_ite ?_ ?_
          · skip
            exact FP_some
          · skip
            refine FP_ite ?_ ?_
            · skip
              refine FP_bd (fpX10_reached _) (fun _ _ => ?_)
              exact FP_some
            · skip
              refine FP_ite ?_ ?_
              · skip
                refine FP_bd (FP_fr (frX10_oldest _) (by decide)) (fun _ _ => ?_)
                exact FP_some
              · skip
                refine FP_ite ?_ ?_
                · skip
                  refine FP_bd (FP_fr (frX10_linked _) (by decide)) (fun _ _ => ?_)
                  exact FP_some
                · skip
                  refine FP_ite ?_ ?_
                  · skip
                    exact FP_some
                  · skip
                    refine FP_bd (FP_fr (frX10_isIn _ _ _ _) (by decide)) (fun _ _ => ?_)
                    refine FP_ite ?_ ?_
                    · skip
                      exact FP_some
                    · skip
                      refine FP_bnd ?_
                      exact FP_some
theorem fpX10_count (x1 : Int32) (σ : rS) : FP σ (fX10_count x1 σ) := by
  unfold fX10_count
  refine FP_st (Or.inr (by unfold KT; omega)) (fun _ => ?_)
  refine FP_ite ?_ ?_
  · skip
    exact FP_some
  · skip
    refine FP_ite ?_ ?_
    · skip
      exact FP_some
    · skip
      refine FP_ite ?_ ?_
      · skip
        exact FP_some
      · skip
        refine FP_ite ?_ ?_
        · skip
          exact FP_some
        · skip
          refine FP_ite ?_ ?_
          · skip
            exact FP_some
          · skip
            exact FP_some
