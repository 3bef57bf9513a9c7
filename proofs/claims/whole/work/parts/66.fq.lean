/-! cell 10, place 0 -/
def KZ (i : Nat) : Prop := i = 0
def FQ {α : Type} (σ : rS) (o : Option (α × rS)) : Prop := ∀ (r : α) (σ' : rS), o = some (r, σ') → ∀ i, KZ i → σ' 10 0 i = σ 10 0 i
theorem FQ_some {α : Type} {σ : rS} {r : α} : FQ σ (some (r, σ)) := fun r' σ' h i _ => by
  have := Option.some.inj h
  cases this
  rfl
theorem FQ_none {α : Type} {σ : rS} : FQ (α := α) σ none := fun r' σ' h => by cases h
theorem FQ_ite {α : Type} {σ : rS} {c : Prop} [Decidable c] {x y : Option (α × rS)} (h1 : FQ σ x) (h2 : FQ σ y) : FQ σ (if c then x else y) := by
  by_cases hc : c
  · rw [if_pos hc]; exact h1
  · rw [if_neg hc]; exact h2
theorem FQ_bnd {α : Type} {σ : rS} {i : Int32} {n : Nat} {x : Option (α × rS)} (h : FQ σ x) : FQ σ (bnd i n x) := FQ_ite FQ_none h
theorem FQ_bz {α : Type} {σ : rS} {i : Int32} {x : Option (α × rS)} (h : FQ σ x) : FQ σ (bz i x) := FQ_ite h FQ_none
theorem FQ_bnz {α : Type} {σ : rS} {i : Int32} {x : Option (α × rS)} (h : FQ σ x) : FQ σ (bnz i x) := FQ_ite FQ_none h
theorem FQ_rd {α : Type} {σ : rS} {x : Int32} {f : Int32 → Option (α × rS)} (h : ∀ y, FQ σ (f y)) : FQ σ (rd x f) := h x
theorem FQ_to {α : Type} {σ σ1 : rS} {x : Option (α × rS)} (hc : ∀ i, KZ i → σ1 10 0 i = σ 10 0 i) (h : FQ σ1 x) : FQ σ x := fun r σ' e i hn => (h r σ' e i hn).trans (hc i hn)
theorem FQ_st {α : Type} {σ : rS} {c k i : Nat} {v : Int32} {f : rS → Option (α × rS)} (hc : ¬ 10 = c ∨ ¬ KZ i) (h : ∀ σ1, FQ σ1 (f σ1)) : FQ σ (st (wr σ c k i v) f) := FQ_to (fun j hj => by
  by_cases e : 10 = c
  · have hi : ¬ KZ i := hc.elim (fun z => absurd e z) id
    subst e
    by_cases ek : 0 = k
    · subst ek
      exact wr_i (fun z => hi (z ▸ hj))
    · rw [wr_k ek]
  · rw [wr_c e]) (h _)
theorem FQ_fr {α : Type} {W : List Nat} {σ : rS} {o : Option (α × rS)} (h : FR W σ o) (hW : ¬ 10 ∈ W) : FQ σ o := fun r σ' e i _ => by rw [h r σ' e 10 hW]
theorem FQ_bd {α β : Type} {σ : rS} {o : Option (α × rS)} {f : α → rS → Option (β × rS)} (h1 : FQ σ o) (h : ∀ r σ1, FQ σ1 (f r σ1)) : FQ σ (bd o f) := by
  cases o with
  | none => exact FQ_none
  | some q => exact FQ_to (fun i hi => h1 q.1 q.2 rfl i hi) (h q.1 q.2)
theorem FQ_lp {L R : Type} {step : L → rS → Option ((L ⊕ R) × rS)} (h : ∀ x σ, FQ σ (step x σ)) : ∀ (n : Nat) (x : L) (σ : rS), FQ σ (lp step n x σ) := by
  intro n
  induction n with
  | zero => intro x σ; exact FQ_none
  | succ n ih =>
    intro x σ
    refine FQ_bd (h x σ) (fun q σ1 => ?_)
    cases q with
    | inl y => exact ih y σ1
    | inr r => exact FQ_some
theorem fqX10_begins  (σ : rS) : FQ σ (fX10_begins  σ) := by
  unfold fX10_begins
  refine FQ_bd (FQ_lp (fun x σ => FQ_fr (frX10_begins_L2 _ _) (by decide)) _ _ _) (fun _ _ => ?_)
  refine FQ_st (Or.inr (by unfold KZ; omega)) (fun _ => ?_)
  refine FQ_st (Or.inr (by unfold KZ; omega)) (fun _ => ?_)
  exact FQ_some
theorem fqX10_marks (x1 : Int32) (σ : rS) : FQ σ (fX10_marks x1 σ) := by
  unfold fX10_marks
  refine FQ_ite ?_ ?_
  · skip
    exact FQ_some
  · skip
    refine FQ_bnd ?_
    refine FQ_ite ?_ ?_
    · skip
      refine FQ_bnd ?_
      refine FQ_st (Or.inl (by omega)) (fun _ => ?_)
      refine FQ_bnd ?_
      refine FQ_st (Or.inl (by omega)) (fun _ => ?_)
      refine FQ_st (Or.inr (by unfold KZ; omega)) (fun _ => ?_)
      exact FQ_some
    · skip
      exact FQ_some
theorem fqX10_marksAll_L21 (k1 : Nat) (x3 : Int32) (x4 : Int32) (x5 : Int32) (σ : rS) : FQ σ (fX10_marksAll_L21 k1 x3 x4 x5 σ) := by
  unfold fX10_marksAll_L21
  refine FQ_bd (FQ_fr (frX10_of _ _ _ _) (by decide)) (fun _ _ => ?_)
  refine FQ_ite ?_ ?_
  · skip
    refine FQ_bd (FQ_fr (frX10_isWeak _ _ _ _) (by decide)) (fun _ _ => ?_)
    refine FQ_ite ?_ ?_
    · skip
      refine FQ_bd (FQ_fr (frX10_of _ _ _ _) (by decide)) (fun _ _ => ?_)
      refine FQ_bd (FQ_fr (frX10_spotOf_ _ _ _) (by decide)) (fun _ _ => ?_)
      refine FQ_bd (fqX10_marks _ _) (fun _ _ => ?_)
      exact FQ_fr (frX10_marksAll_j63L21 _ _ _ _ _) (by decide)
    · skip
      exact FQ_fr (frX10_marksAll_j63L21 _ _ _ _ _) (by decide)
  · skip
    exact FQ_some
theorem fqX10_marksAll_L2 (k1 : Nat) (x3 : Int32) (σ : rS) : FQ σ (fX10_marksAll_L2 k1 x3 σ) := by
  unfold fX10_marksAll_L2
  refine FQ_ite ?_ ?_
  · skip
    refine FQ_bnd ?_
    refine FQ_rd (fun _ => ?_)
    refine FQ_bd (FQ_lp (fun x σ => fqX10_marksAll_L21 _ _ _ _ _) _ _ _) (fun _ _ => ?_)
    exact FQ_some
  · skip
    exact FQ_some
theorem fqX10_marksAll (k1 : Nat) (x2 : Int32) (σ : rS) : FQ σ (fX10_marksAll k1 x2 σ) := by
  unfold fX10_marksAll
  refine FQ_bd (FQ_lp (fun x σ => fqX10_marksAll_L2 _ _ _) _ _ _) (fun _ _ => ?_)
  exact FQ_some
theorem fqX10_reaches_L7 (k1 : Nat) (x2 : Int32) (x3 : Int32) (x4 : Int32) (σ : rS) : FQ σ (fX10_reaches_L7 k1 x2 x3 x4 σ) := by
  unfold fX10_reaches_L7
  refine FQ_ite ?_ ?_
  · skip
    refine FQ_ite ?_ ?_
    · skip
      exact FQ_fr (frX10_reaches_j36L7 _ _ _ _ _) (by decide)
    · skip
      refine FQ_bnd ?_
      refine FQ_bd (FQ_fr (frX10_spotOf_ _ _ _) (by decide)) (fun _ _ => ?_)
      refine FQ_bd (fqX10_marks _ _) (fun _ _ => ?_)
      exact FQ_fr (frX10_reaches_j36L7 _ _ _ _ _) (by decide)
  · skip
    exact FQ_some
theorem fqX10_reaches_L45 (k1 : Nat) (x3 : Int32) (x4 : Int32) (σ : rS) : FQ σ (fX10_reaches_L45 k1 x3 x4 σ) := by
  unfold fX10_reaches_L45
  refine FQ_ite ?_ ?_
  · skip
    exact FQ_some
  · skip
    refine FQ_ite ?_ ?_
    · skip
      refine FQ_bnd ?_
      refine FQ_bd (FQ_fr (frX10_spotOf_ _ _ _) (by decide)) (fun _ _ => ?_)
      refine FQ_bd (fqX10_marks _ _) (fun _ _ => ?_)
      exact FQ_some
    · skip
      exact FQ_some
theorem fqX10_reaches_j81 (k1 : Nat) (σ : rS) : FQ σ (fX10_reaches_j81 k1 σ) := by
  unfold fX10_reaches_j81
  refine FQ_bd (fqX10_marksAll _ _ _) (fun _ _ => ?_)
  exact FQ_some
theorem fqX10_reaches (k1 : Nat) (x2 : Int32) (x3 : Int32) (σ : rS) : FQ σ (fX10_reaches k1 x2 x3 σ) := by
  unfold fX10_reaches
  refine FQ_bd (fqX10_begins _) (fun _ _ => ?_)
  refine FQ_bd (FQ_lp (fun x σ => fqX10_reaches_L7 _ _ _ _ _) _ _ _) (fun _ _ => ?_)
  refine FQ_bd (FQ_lp (fun x σ => fqX10_reaches_L45 _ _ _ _) _ _ _) (fun _ _ => ?_)
  exact fqX10_reaches_j81 _ _
