/-! cell 10: the places of the draws -/
def KD (i : Nat) : Prop := i = 132 ∨ i = 232
def FD {α : Type} (σ : rS) (o : Option (α × rS)) : Prop := ∀ (r : α) (σ' : rS), o = some (r, σ') → ∀ i, KD i → σ' 10 0 i = σ 10 0 i
theorem FD_some {α : Type} {σ : rS} {r : α} : FD σ (some (r, σ)) := fun r' σ' h i _ => by
  have := Option.some.inj h
  cases this
  rfl
theorem FD_none {α : Type} {σ : rS} : FD (α := α) σ none := fun r' σ' h => by cases h
theorem FD_ite {α : Type} {σ : rS} {c : Prop} [Decidable c] {x y : Option (α × rS)} (h1 : FD σ x) (h2 : FD σ y) : FD σ (if c then x else y) := by
  by_cases hc : c
  · rw [if_pos hc]; exact h1
  · rw [if_neg hc]; exact h2
theorem FD_bnd {α : Type} {σ : rS} {i : Int32} {n : Nat} {x : Option (α × rS)} (h : FD σ x) : FD σ (bnd i n x) := FD_ite FD_none h
theorem FD_bz {α : Type} {σ : rS} {i : Int32} {x : Option (α × rS)} (h : FD σ x) : FD σ (bz i x) := FD_ite h FD_none
theorem FD_bnz {α : Type} {σ : rS} {i : Int32} {x : Option (α × rS)} (h : FD σ x) : FD σ (bnz i x) := FD_ite FD_none h
theorem FD_rd {α : Type} {σ : rS} {x : Int32} {f : Int32 → Option (α × rS)} (h : ∀ y, FD σ (f y)) : FD σ (rd x f) := h x
theorem FD_to {α : Type} {σ σ1 : rS} {x : Option (α × rS)} (hc : ∀ i, KD i → σ1 10 0 i = σ 10 0 i) (h : FD σ1 x) : FD σ x := fun r σ' e i hn => (h r σ' e i hn).trans (hc i hn)
theorem FD_st {α : Type} {σ : rS} {c k i : Nat} {v : Int32} {f : rS → Option (α × rS)} (hc : ¬ 10 = c ∨ ¬ KD i) (h : ∀ σ1, FD σ1 (f σ1)) : FD σ (st (wr σ c k i v) f) := FD_to (fun j hj => by
  by_cases e : 10 = c
  · have hi : ¬ KD i := hc.elim (fun z => absurd e z) id
    subst e
    by_cases ek : 0 = k
    · subst ek
      exact wr_i (fun z => hi (z ▸ hj))
    · rw [wr_k ek]
  · rw [wr_c e]) (h _)
theorem FD_fr {α : Type} {W : List Nat} {σ : rS} {o : Option (α × rS)} (h : FR W σ o) (hW : ¬ 10 ∈ W) : FD σ o := fun r σ' e i _ => by rw [h r σ' e 10 hW]
theorem FD_bd {α β : Type} {σ : rS} {o : Option (α × rS)} {f : α → rS → Option (β × rS)} (h1 : FD σ o) (h : ∀ r σ1, FD σ1 (f r σ1)) : FD σ (bd o f) := by
  cases o with
  | none => exact FD_none
  | some q => exact FD_to (fun i hi => h1 q.1 q.2 rfl i hi) (h q.1 q.2)
theorem FD_lp {L R : Type} {step : L → rS → Option ((L ⊕ R) × rS)} (h : ∀ x σ, FD σ (step x σ)) : ∀ (n : Nat) (x : L) (σ : rS), FD σ (lp step n x σ) := by
  intro n
  induction n with
  | zero => intro x σ; exact FD_none
  | succ n ih =>
    intro x σ
    refine FD_bd (h x σ) (fun q σ1 => ?_)
    cases q with
    | inl y => exact ih y σ1
    | inr r => exact FD_some
theorem fdX10_begins  (σ : rS) : FD σ (fX10_begins  σ) := by
  unfold fX10_begins
  refine FD_bd (FD_lp (fun x σ => FD_fr (frX10_begins_L2 _ _) (by decide)) _ _ _) (fun _ _ => ?_)
  refine FD_st (Or.inr (by unfold KD; omega)) (fun _ => ?_)
  refine FD_st (Or.inr (by unfold KD; omega)) (fun _ => ?_)
  exact FD_some
theorem fdX10_marks (x1 : Int32) (σ : rS) : FD σ (fX10_marks x1 σ) := by
  unfold fX10_marks
  refine FD_ite ?_ ?_
  · skip
    exact FD_some
  · skip
    refine FD_bnd ?_
    refine FD_ite ?_ ?_
    · skip
      refine FD_bnd ?_
      refine FD_st (Or.inl (by omega)) (fun _ => ?_)
      refine FD_bnd ?_
      refine FD_st (Or.inl (by omega)) (fun _ => ?_)
      refine FD_st (Or.inr (by unfold KD; omega)) (fun _ => ?_)
      exact FD_some
    · skip
      exact FD_some
theorem fdX10_marksAll_L21 (k1 : Nat) (x3 : Int32) (x4 : Int32) (x5 : Int32) (σ : rS) : FD σ (fX10_marksAll_L21 k1 x3 x4 x5 σ) := by
  unfold fX10_marksAll_L21
  refine FD_bd (FD_fr (frX10_of _ _ _ _) (by decide)) (fun _ _ => ?_)
  refine FD_ite ?_ ?_
  · skip
    refine FD_bd (FD_fr (frX10_isWeak _ _ _ _) (by decide)) (fun _ _ => ?_)
    refine FD_ite ?_ ?_
    · skip
      refine FD_bd (FD_fr (frX10_of _ _ _ _) (by decide)) (fun _ _ => ?_)
      refine FD_bd (FD_fr (frX10_spotOf_ _ _ _) (by decide)) (fun _ _ => ?_)
      refine FD_bd (fdX10_marks _ _) (fun _ _ => ?_)
      exact FD_fr (frX10_marksAll_j63L21 _ _ _ _ _) (by decide)
    · skip
      exact FD_fr (frX10_marksAll_j63L21 _ _ _ _ _) (by decide)
  · skip
    exact FD_some
theorem fdX10_marksAll_L2 (k1 : Nat) (x3 : Int32) (σ : rS) : FD σ (fX10_marksAll_L2 k1 x3 σ) := by
  unfold fX10_marksAll_L2
  refine FD_ite ?_ ?_
  · skip
    refine FD_bnd ?_
    refine FD_rd (fun _ => ?_)
    refine FD_bd (FD_lp (fun x σ => fdX10_marksAll_L21 _ _ _ _ _) _ _ _) (fun _ _ => ?_)
    exact FD_some
  · skip
    exact FD_some
theorem fdX10_marksAll (k1 : Nat) (x2 : Int32) (σ : rS) : FD σ (fX10_marksAll k1 x2 σ) := by
  unfold fX10_marksAll
  refine FD_bd (FD_lp (fun x σ => fdX10_marksAll_L2 _ _ _) _ _ _) (fun _ _ => ?_)
  exact FD_some
theorem fdX10_reaches_L7 (k1 : Nat) (x2 : Int32) (x3 : Int32) (x4 : Int32) (σ : rS) : FD σ (fX10_reaches_L7 k1 x2 x3 x4 σ) := by
  unfold fX10_reaches_L7
  refine FD_ite ?_ ?_
  · skip
    refine FD_ite ?_ ?_
    · skip
      exact FD_fr (frX10_reaches_j36L7 _ _ _ _ _) (by decide)
    · skip
      refine FD_bnd ?_
      refine FD_bd (FD_fr (frX10_spotOf_ _ _ _) (by decide)) (fun _ _ => ?_)
      refine FD_bd (fdX10_marks _ _) (fun _ _ => ?_)
      exact FD_fr (frX10_reaches_j36L7 _ _ _ _ _) (by decide)
  · skip
    exact FD_some
theorem fdX10_reaches_L45 (k1 : Nat) (x3 : Int32) (x4 : Int32) (σ : rS) : FD σ (fX10_reaches_L45 k1 x3 x4 σ) := by
  unfold fX10_reaches_L45
  refine FD_ite ?_ ?_
  · skip
    exact FD_some
  · skip
    refine FD_ite ?_ ?_
    · skip
      refine FD_bnd ?_
      refine FD_bd (FD_fr (frX10_spotOf_ _ _ _) (by decide)) (fun _ _ => ?_)
      refine FD_bd (fdX10_marks _ _) (fun _ _ => ?_)
      exact FD_some
    · skip
      exact FD_some
theorem fdX10_reaches_j81 (k1 : Nat) (σ : rS) : FD σ (fX10_reaches_j81 k1 σ) := by
  unfold fX10_reaches_j81
  refine FD_bd (fdX10_marksAll _ _ _) (fun _ _ => ?_)
  exact FD_some
theorem fdX10_reaches (k1 : Nat) (x2 : Int32) (x3 : Int32) (σ : rS) : FD σ (fX10_reaches k1 x2 x3 σ) := by
  unfold fX10_reaches
  refine FD_bd (fdX10_begins _) (fun _ _ => ?_)
  refine FD_bd (FD_lp (fun x σ => fdX10_reaches_L7 _ _ _ _ _) _ _ _) (fun _ _ => ?_)
  refine FD_bd (FD_lp (fun x σ => fdX10_reaches_L45 _ _ _ _) _ _ _) (fun _ _ => ?_)
  exact fdX10_reaches_j81 _ _
theorem fdX10_ends_j48L7 (k1 : Nat) (x2 : Int32) (x3 : Int32) (σ : rS) : FD σ (fX10_ends_j48L7 k1 x2 x3 σ) := by
  unfold fX10_ends_j48L7
  refine FD_bd (FD_fr (frX10_of _ _ _ _) (by decide)) (fun _ _ => ?_)
  refine FD_bnd ?_
  refine FD_st (Or.inl (by omega)) (fun _ => ?_)
  refine FD_st (Or.inl (by omega)) (fun _ => ?_)
  refine FD_st (Or.inl (by omega)) (fun _ => ?_)
  refine FD_bnd ?_
  refine FD_st (Or.inl (by omega)) (fun _ => ?_)
  refine FD_st (Or.inr (by unfold KD; omega)) (fun _ => ?_)
  exact FD_fr (frX10_ends_j103L7 _ _ _ _) (by decide)
theorem fdX10_ends_L7 (k1 : Nat) (x2 : Int32) (x3 : Int32) (σ : rS) : FD σ (fX10_ends_L7 k1 x2 x3 σ) := by
  unfold fX10_ends_L7
  refine FD_ite ?_ ?_
  · skip
    refine FD_bd (FD_fr (frX10_of _ _ _ _) (by decide)) (fun _ _ => ?_)
    refine FD_ite ?_ ?_
    · skip
      refine FD_bnd ?_
      refine FD_ite ?_ ?_
      · skip
        refine FD_ite ?_ ?_
        · skip
          exact fdX10_ends_j48L7 _ _ _ _
        · skip
          refine FD_bd (FD_fr (frX10_isOld _ _ _) (by decide)) (fun _ _ => ?_)
          refine FD_ite ?_ ?_
          · skip
            exact fdX10_ends_j48L7 _ _ _ _
          · skip
            exact FD_fr (frX10_ends_j103L7 _ _ _ _) (by decide)
      · skip
        exact FD_fr (frX10_ends_j103L7 _ _ _ _) (by decide)
    · skip
      exact FD_fr (frX10_ends_j103L7 _ _ _ _) (by decide)
  · skip
    exact FD_some
theorem fdX10_ends (k1 : Nat) (x2 : Int32) (σ : rS) : FD σ (fX10_ends k1 x2 σ) := by
  unfold fX10_ends
  refine FD_st (Or.inr (by unfold KD; omega)) (fun _ => ?_)
  refine FD_bd (FD_lp (fun x σ => fdX10_ends_L7 _ _ _ _) _ _ _) (fun _ _ => ?_)
  exact FD_some
theorem fdX10_moves_j194 (x2 : Int32) (σ : rS) : FD σ (fX10_moves_j194 x2 σ) := by
  unfold fX10_moves_j194
  refine FD_bd (fdX10_marks _ _) (fun _ _ => ?_)
  exact FD_some
theorem fdX10_moves_j171 (k1 : Nat) (x2 : Int32) (x4 : Int32) (σ : rS) : FD σ (fX10_moves_j171 k1 x2 x4 σ) := by
  unfold fX10_moves_j171
  refine FD_st (Or.inl (by omega)) (fun _ => ?_)
  refine FD_ite ?_ ?_
  · skip
    refine FD_st (Or.inl (by omega)) (fun _ => ?_)
    exact fdX10_moves_j194 _ _
  · skip
    exact fdX10_moves_j194 _ _
theorem fdX10_moves_j142 (k1 : Nat) (x2 : Int32) (x3 : Int32) (x4 : Int32) (z0 : Int32) (z1 : Int32) (kz2 : Nat) (σ : rS) : FD σ (fX10_moves_j142 k1 x2 x3 x4 z0 z1 kz2 σ) := by
  unfold fX10_moves_j142
  refine FD_bnd ?_
  refine FD_st (Or.inl (by omega)) (fun _ => ?_)
  refine FD_ite ?_ ?_
  · skip
    refine FD_st (Or.inr (by unfold KD; omega)) (fun _ => ?_)
    exact fdX10_moves_j171 _ _ _ _
  · skip
    refine FD_st (Or.inr (by unfold KD; omega)) (fun _ => ?_)
    exact fdX10_moves_j171 _ _ _ _
theorem fdX10_moves_j118 (k1 : Nat) (x2 : Int32) (x3 : Int32) (x4 : Int32) (z0 : Int32) (z1 : Int32) (kz2 : Nat) (σ : rS) : FD σ (fX10_moves_j118 k1 x2 x3 x4 z0 z1 kz2 σ) := by
  unfold fX10_moves_j118
  refine FD_bnd ?_
  refine FD_st (Or.inl (by omega)) (fun _ => ?_)
  refine FD_bd (FD_fr (frX10_cell _ _ _) (by decide)) (fun _ _ => ?_)
  refine FD_ite ?_ ?_
  · skip
    exact fdX10_moves_j142 _ _ _ _ _ _ _ _
  · skip
    exact fdX10_moves_j142 _ _ _ _ _ _ _ _
theorem fdX10_moves_j102 (k1 : Nat) (x2 : Int32) (x3 : Int32) (x4 : Int32) (σ : rS) : FD σ (fX10_moves_j102 k1 x2 x3 x4 σ) := by
  unfold fX10_moves_j102
  refine FD_bd (FD_fr (frX10_cell _ _ _) (by decide)) (fun _ _ => ?_)
  refine FD_ite ?_ ?_
  · skip
    exact fdX10_moves_j118 _ _ _ _ _ _ _ _
  · skip
    exact fdX10_moves_j118 _ _ _ _ _ _ _ _
theorem fdX10_moves_j75 (k1 : Nat) (x2 : Int32) (x3 : Int32) (z0 : Int32) (σ : rS) : FD σ (fX10_moves_j75 k1 x2 x3 z0 σ) := by
  unfold fX10_moves_j75
  refine FD_ite ?_ ?_
  · skip
    refine FD_ite ?_ ?_
    · skip
      refine FD_st (Or.inr (by unfold KD; omega)) (fun _ => ?_)
      exact fdX10_moves_j102 _ _ _ _ _
    · skip
      exact fdX10_moves_j102 _ _ _ _ _
  · skip
    exact fdX10_moves_j102 _ _ _ _ _
theorem fdX10_moves_j74 (k1 : Nat) (x2 : Int32) (x3 : Int32) (σ : rS) : FD σ (fX10_moves_j74 k1 x2 x3 σ) := by
  unfold fX10_moves_j74
  exact fdX10_moves_j75 _ _ _ _ _
theorem fdX10_moves (k1 : Nat) (x2 : Int32) (σ : rS) : FD σ (fX10_moves k1 x2 σ) := by
  unfold fX10_moves
  refine FD_ite ?_ ?_
  · skip
    exact FD_some
  · skip
    refine FD_bnd ?_
    refine FD_ite ?_ ?_
    · skip
      refine FD_bd (FD_fr (frX10_isOld _ _ _) (by decide)) (fun _ _ => ?_)
      refine FD_ite ?_ ?_
      · skip
        refine FD_bd (FD_fr (frX10_sizeOf _ _ _) (by decide)) (fun _ _ => ?_)
        refine FD_bd (FD_fr (frX10_cell _ _ _) (by decide)) (fun _ _ => ?_)
        refine FD_bnd ?_
        refine FD_bnd ?_
        refine FD_st (Or.inl (by omega)) (fun _ => ?_)
        refine FD_bd (FD_fr (frX10_of _ _ _ _) (by decide)) (fun _ _ => ?_)
        refine FD_ite ?_ ?_
        · skip
          refine FD_ite ?_ ?_
          · skip
            exact fdX10_moves_j74 _ _ _ _
          · skip
            exact fdX10_moves_j75 _ _ _ _ _
        · skip
          exact fdX10_moves_j74 _ _ _ _
      · skip
        exact FD_some
    · skip
      exact FD_some
theorem fdX10_movesAll_L28 (k1 : Nat) (x3 : Int32) (x4 : Int32) (x5 : Int32) (σ : rS) : FD σ (fX10_movesAll_L28 k1 x3 x4 x5 σ) := by
  unfold fX10_movesAll_L28
  refine FD_bd (FD_fr (frX10_of _ _ _ _) (by decide)) (fun _ _ => ?_)
  refine FD_ite ?_ ?_
  · skip
    refine FD_ite ?_ ?_
    · skip
      refine FD_bd (FD_fr (frX10_isWeak _ _ _ _) (by decide)) (fun _ _ => ?_)
      refine FD_ite ?_ ?_
      · skip
        refine FD_bd (FD_fr (frX10_of _ _ _ _) (by decide)) (fun _ _ => ?_)
        refine FD_bd (FD_fr (frX10_spotOf_ _ _ _) (by decide)) (fun _ _ => ?_)
        refine FD_bd (fdX10_moves _ _ _) (fun _ _ => ?_)
        exact FD_fr (frX10_movesAll_j78L28 _ _ _ _ _) (by decide)
      · skip
        exact FD_fr (frX10_movesAll_j78L28 _ _ _ _ _) (by decide)
    · skip
      exact FD_some
  · skip
    exact FD_some
theorem fdX10_movesAll_L2 (k1 : Nat) (x3 : Int32) (σ : rS) : FD σ (fX10_movesAll_L2 k1 x3 σ) := by
  unfold fX10_movesAll_L2
  refine FD_ite ?_ ?_
  · skip
    refine FD_ite ?_ ?_
    · skip
      refine FD_bnd ?_
      refine FD_rd (fun _ => ?_)
      refine FD_bd (FD_lp (fun x σ => fdX10_movesAll_L28 _ _ _ _ _) _ _ _) (fun _ _ => ?_)
      exact FD_fr (frX10_movesAll_j84L2 _ _ _) (by decide)
    · skip
      exact FD_some
  · skip
    exact FD_some
theorem fdX10_movesAll (k1 : Nat) (x2 : Int32) (σ : rS) : FD σ (fX10_movesAll k1 x2 σ) := by
  unfold fX10_movesAll
  refine FD_bd (FD_lp (fun x σ => fdX10_movesAll_L2 _ _ _) _ _ _) (fun _ _ => ?_)
  exact FD_some
theorem fdX10_movesReached_L2 (k1 : Nat) (x2 : Int32) (σ : rS) : FD σ (fX10_movesReached_L2 k1 x2 σ) := by
  unfold fX10_movesReached_L2
  refine FD_ite ?_ ?_
  · skip
    refine FD_ite ?_ ?_
    · skip
      refine FD_bnd ?_
      refine FD_bd (FD_fr (frX10_spotOf_ _ _ _) (by decide)) (fun _ _ => ?_)
      refine FD_bd (fdX10_moves _ _ _) (fun _ _ => ?_)
      exact FD_some
    · skip
      exact FD_some
  · skip
    exact FD_some
theorem fdX10_movesReached_L39 (k1 : Nat) (x2 : Int32) (σ : rS) : FD σ (fX10_movesReached_L39 k1 x2 σ) := by
  unfold fX10_movesReached_L39
  refine FD_ite ?_ ?_
  · skip
    refine FD_ite ?_ ?_
    · skip
      refine FD_bnd ?_
      refine FD_bd (FD_fr (frX10_spotOf_ _ _ _) (by decide)) (fun _ _ => ?_)
      refine FD_bd (fdX10_moves _ _ _) (fun _ _ => ?_)
      exact FD_some
    · skip
      exact FD_some
  · skip
    exact FD_some
theorem fdX10_movesReached_L79 (k1 : Nat) (x2 : Int32) (σ : rS) : FD σ (fX10_movesReached_L79 k1 x2 σ) := by
  unfold fX10_movesReached_L79
  refine FD_ite ?_ ?_
  · skip
    refine FD_ite ?_ ?_
    · skip
      refine FD_bnd ?_
      refine FD_bd (FD_fr (frX10_spotOf_ _ _ _) (by decide)) (fun _ _ => ?_)
      refine FD_bnd ?_
      refine FD_rd (fun _ => ?_)
      refine FD_bd (FD_fr (frX10_isWeak _ _ _ _) (by decide)) (fun _ _ => ?_)
      refine FD_ite ?_ ?_
      · skip
        refine FD_bd (FD_fr (frX10_of _ _ _ _) (by decide)) (fun _ _ => ?_)
        refine FD_bd (FD_fr (frX10_spotOf_ _ _ _) (by decide)) (fun _ _ => ?_)
        refine FD_bd (fdX10_moves _ _ _) (fun _ _ => ?_)
        exact FD_fr (frX10_movesReached_j149L79 _ _ _) (by decide)
      · skip
        exact FD_fr (frX10_movesReached_j149L79 _ _ _) (by decide)
    · skip
      exact FD_some
  · skip
    exact FD_some
theorem fdX10_movesReached_j155 (k1 : Nat) (σ : rS) : FD σ (fX10_movesReached_j155 k1 σ) := by
  unfold fX10_movesReached_j155
  refine FD_bd (fdX10_movesAll _ _ _) (fun _ _ => ?_)
  exact FD_some
theorem fdX10_movesReached_j77 (k1 : Nat) (σ : rS) : FD σ (fX10_movesReached_j77 k1 σ) := by
  unfold fX10_movesReached_j77
  refine FD_bd (FD_lp (fun x σ => fdX10_movesReached_L79 _ _ _) _ _ _) (fun _ _ => ?_)
  exact fdX10_movesReached_j155 _ _
theorem fdX10_movesReached_j37 (k1 : Nat) (σ : rS) : FD σ (fX10_movesReached_j37 k1 σ) := by
  unfold fX10_movesReached_j37
  refine FD_bd (FD_lp (fun x σ => fdX10_movesReached_L39 _ _ _) _ _ _) (fun _ _ => ?_)
  exact fdX10_movesReached_j77 _ _
theorem fdX10_movesReached (k1 : Nat) (σ : rS) : FD σ (fX10_movesReached k1 σ) := by
  unfold fX10_movesReached
  refine FD_bd (FD_lp (fun x σ => fdX10_movesReached_L2 _ _ _) _ _ _) (fun _ _ => ?_)
  exact fdX10_movesReached_j37 _ _
theorem fdX10_weakensAndEnds_L52 (k1 : Nat) (x2 : Int32) (x3 : Int32) (σ : rS) : FD σ (fX10_weakensAndEnds_L52 k1 x2 x3 σ) := by
  unfold fX10_weakensAndEnds_L52
  refine FD_ite ?_ ?_
  · skip
    refine FD_ite ?_ ?_
    · skip
      refine FD_rd (fun _ => ?_)
      refine FD_bnd ?_
      refine FD_bd (fdX10_moves _ _ _) (fun _ _ => ?_)
      refine FD_bd (fdX10_movesAll _ _ _) (fun _ _ => ?_)
      exact FD_some
    · skip
      exact FD_some
  · skip
    exact FD_some
theorem fdX10_weakensAndEnds (k1 : Nat) (σ : rS) : FD σ (fX10_weakensAndEnds k1 σ) := by
  unfold fX10_weakensAndEnds
  refine FD_bd (FD_lp (fun x σ => FD_fr (frX10_weakensAndEnds_L2 _ _ _) (by decide)) _ _ _) (fun _ _ => ?_)
  refine FD_bd (fdX10_ends _ _ _) (fun _ _ => ?_)
  refine FD_rd (fun _ => ?_)
  refine FD_bd (FD_lp (fun x σ => fdX10_weakensAndEnds_L52 _ _ _ _) _ _ _) (fun _ _ => ?_)
  exact FD_fr (frX10_weakensAndEnds_j97 _ _ _) (by decide)
theorem fdX10_minors_L129 (k1 : Nat) (x2 : Int32) (σ : rS) : FD σ (fX10_minors_L129 k1 x2 σ) := by
  unfold fX10_minors_L129
  refine FD_ite ?_ ?_
  · skip
    exact FD_some
  · skip
    refine FD_bd (FD_fr (frX10_isOld _ _ _) (by decide)) (fun _ _ => ?_)
    refine FD_ite ?_ ?_
    · skip
      refine FD_bnd ?_
      refine FD_ite ?_ ?_
      · skip
        refine FD_bd (FD_fr (frX10_goes _ _ _) (by decide)) (fun _ _ => ?_)
        refine FD_st (Or.inr (by unfold KD; omega)) (fun _ => ?_)
        exact FD_fr (frX10_minors_j168L129 _ _ _) (by decide)
      · skip
        exact FD_fr (frX10_minors_j168L129 _ _ _) (by decide)
    · skip
      exact FD_fr (frX10_minors_j168L129 _ _ _) (by decide)
theorem fdX10_minors_j45 (k1 : Nat) (σ : rS) : FD σ (fX10_minors_j45 k1 σ) := by
  unfold fX10_minors_j45
  refine FD_ite ?_ ?_
  · skip
    refine FD_bd (FD_fr (frX10_sifts _ _) (by decide)) (fun _ _ => ?_)
    refine FD_bd (FD_lp (fun x σ => FD_fr (frX10_minors_L70 _ _ _) (by decide)) _ _ _) (fun _ _ => ?_)
    refine FD_st (Or.inr (by unfold KD; omega)) (fun _ => ?_)
    refine FD_rd (fun _ => ?_)
    refine FD_bd (FD_lp (fun x σ => fdX10_minors_L129 _ _ _) _ _ _) (fun _ _ => ?_)
    refine FD_st (Or.inl (by omega)) (fun _ => ?_)
    refine FD_st (Or.inl (by omega)) (fun _ => ?_)
    refine FD_st (Or.inl (by omega)) (fun _ => ?_)
    exact FD_some
  · skip
    refine FD_bd (FD_fr (frX10_copyRow _ _ _ _ _ _ _ _ _) (by decide)) (fun _ _ => ?_)
    exact FD_some
theorem fdX10_minors (k1 : Nat) (σ : rS) : FD σ (fX10_minors k1 σ) := by
  unfold fX10_minors
  refine FD_bd (FD_fr (frX10_copyRow _ _ _ _ _ _ _ _ _) (by decide)) (fun _ _ => ?_)
  refine FD_bd (fdX10_begins _) (fun _ _ => ?_)
  refine FD_st (Or.inr (by unfold KD; omega)) (fun _ => ?_)
  refine FD_bd (FD_fr (frX10_cellsIn _ _ _) (by decide)) (fun _ _ => ?_)
  refine FD_st (Or.inr (by unfold KD; omega)) (fun _ => ?_)
  refine FD_bd (fdX10_movesReached _ _) (fun _ _ => ?_)
  refine FD_ite ?_ ?_
  · skip
    refine FD_bd (fdX10_weakensAndEnds _ _) (fun _ _ => ?_)
    exact fdX10_minors_j45 _ _
  · skip
    exact fdX10_minors_j45 _ _
theorem fdX10_slides_j120L9 (k1 : Nat) (x2 : Int32) (x3 : Int32) (x4 : Int32) (z0 : Int32) (z1 : Int32) (σ : rS) : FD σ (fX10_slides_j120L9 k1 x2 x3 x4 z0 z1 σ) := by
  unfold fX10_slides_j120L9
  refine FD_st (Or.inr (by unfold KD; omega)) (fun _ => ?_)
  refine FD_bd (FD_fr (frX10_cell _ _ _) (by decide)) (fun _ _ => ?_)
  refine FD_bnd ?_
  refine FD_st (Or.inl (by omega)) (fun _ => ?_)
  refine FD_bd (FD_fr (frX10_sizeOf _ _ _) (by decide)) (fun _ _ => ?_)
  refine FD_rd (fun _ => ?_)
  exact FD_some
theorem fdX10_slides_L9 (k1 : Nat) (x2 : Int32) (x3 : Int32) (σ : rS) : FD σ (fX10_slides_L9 k1 x2 x3 σ) := by
  unfold fX10_slides_L9
  refine FD_bd (FD_lp (fun x σ => FD_fr (frX10_slides_L15 _ _ _ _ _ _) (by decide)) _ _ _) (fun _ _ => ?_)
  refine FD_ite ?_ ?_
  · skip
    exact FD_some
  · skip
    refine FD_bd (FD_fr (frX10_of _ _ _ _) (by decide)) (fun _ _ => ?_)
    refine FD_ite ?_ ?_
    · skip
      exact fdX10_slides_j120L9 _ _ _ _ _ _ _
    · skip
      exact fdX10_slides_j120L9 _ _ _ _ _ _ _
theorem fdX10_slides (k1 : Nat) (σ : rS) : FD σ (fX10_slides k1 σ) := by
  unfold fX10_slides
  refine FD_st (Or.inr (by unfold KD; omega)) (fun _ => ?_)
  refine FD_bd (FD_lp (fun x σ => fdX10_slides_L9 _ _ _ _) _ _ _) (fun _ _ => ?_)
  exact FD_some
theorem fdX10_majors_L51 (k1 : Nat) (x2 : Int32) (x3 : Int32) (σ : rS) : FD σ (fX10_majors_L51 k1 x2 x3 σ) := by
  unfold fX10_majors_L51
  refine FD_ite ?_ ?_
  · skip
    refine FD_bnd ?_
    refine FD_bd (fdX10_marks _ _) (fun _ _ => ?_)
    exact FD_some
  · skip
    exact FD_some
theorem fdX10_majors_L187 (k1 : Nat) (x3 : Int32) (σ : rS) : FD σ (fX10_majors_L187 k1 x3 σ) := by
  unfold fX10_majors_L187
  refine FD_ite ?_ ?_
  · skip
    exact FD_some
  · skip
    refine FD_bd (FD_fr (frX10_isOld _ _ _) (by decide)) (fun _ _ => ?_)
    refine FD_ite ?_ ?_
    · skip
      exact FD_fr (frX10_majors_j226L187 _ _ _) (by decide)
    · skip
      refine FD_bnd ?_
      refine FD_ite ?_ ?_
      · skip
        refine FD_bd (FD_fr (frX10_goes _ _ _) (by decide)) (fun _ _ => ?_)
        refine FD_st (Or.inr (by unfold KD; omega)) (fun _ => ?_)
        exact FD_fr (frX10_majors_j226L187 _ _ _) (by decide)
      · skip
        exact FD_fr (frX10_majors_j226L187 _ _ _) (by decide)
theorem fdX10_majors (k1 : Nat) (σ : rS) : FD σ (fX10_majors k1 σ) := by
  unfold fX10_majors
  refine FD_bd (fdX10_reaches _ _ _ _) (fun _ _ => ?_)
  refine FD_bd (FD_lp (fun x σ => FD_fr (frX10_majors_L9 _ _ _) (by decide)) _ _ _) (fun _ _ => ?_)
  refine FD_bd (fdX10_ends _ _ _) (fun _ _ => ?_)
  refine FD_rd (fun _ => ?_)
  refine FD_bd (FD_lp (fun x σ => fdX10_majors_L51 _ _ _ _) _ _ _) (fun _ _ => ?_)
  refine FD_bd (fdX10_marksAll _ _ _) (fun _ _ => ?_)
  refine FD_bd (FD_lp (fun x σ => FD_fr (frX10_majors_L83 _ _ _ _) (by decide)) _ _ _) (fun _ _ => ?_)
  refine FD_bd (fdX10_slides _ _) (fun _ _ => ?_)
  refine FD_bd (FD_lp (fun x σ => FD_fr (frX10_majors_L119 _ _ _) (by decide)) _ _ _) (fun _ _ => ?_)
  refine FD_st (Or.inr (by unfold KD; omega)) (fun _ => ?_)
  refine FD_rd (fun _ => ?_)
  refine FD_bd (FD_lp (fun x σ => fdX10_majors_L187 _ _ _) _ _ _) (fun _ _ => ?_)
  refine FD_bd (FD_fr (frX10_sifts _ _) (by decide)) (fun _ _ => ?_)
  refine FD_st (Or.inl (by omega)) (fun _ => ?_)
  refine FD_st (Or.inl (by omega)) (fun _ => ?_)
  exact FD_some
theorem fdX10_hasRoom (k1 : Nat) (x2 : Int32) (σ : rS) : FD σ (fX10_hasRoom k1 x2 σ) := by
  unfold fX10_hasRoom
  refine FD_bd (FD_fr (frX10_cellsIn _ _ _) (by decide)) (fun _ _ => ?_)
  refine FD_ite ?_ ?_
  · skip
    refine FD_bd (FD_fr (frX10_copyRow _ _ _ _ _ _ _ _ _) (by decide)) (fun _ _ => ?_)
    refine FD_bd (fdX10_minors _ _) (fun _ _ => ?_)
    refine FD_ite ?_ ?_
    · skip
      refine FD_bd (fdX10_majors _ _) (fun _ _ => ?_)
      refine FD_bd (fdX10_minors _ _) (fun _ _ => ?_)
      refine FD_ite ?_ ?_
      · skip
        refine FD_bd (FD_fr (frX10_copyRow _ _ _ _ _ _ _ _ _) (by decide)) (fun _ _ => ?_)
        exact FD_some
      · skip
        exact FD_some
    · skip
      exact FD_some
  · skip
    exact FD_some
theorem fdX10_makes (k1 : Nat) (x2 : Int32) (x3 : Int32) (x4 : Int32) (x5 : Int32) (σ : rS) : FD σ (fX10_makes k1 x2 x3 x4 x5 σ) := by
  unfold fX10_makes
  refine FD_bd (fdX10_hasRoom _ _ _) (fun _ _ => ?_)
  refine FD_ite ?_ ?_
  · skip
    exact FD_some
  · skip
    refine FD_bd (FD_fr (frX10_cellsIn _ _ _) (by decide)) (fun _ _ => ?_)
    refine FD_rd (fun _ => ?_)
    refine FD_bd (FD_lp (fun x σ => FD_fr (frX10_makes_L29 _ _ _ _ _ _ _ _ _) (by decide)) _ _ _) (fun _ _ => ?_)
    refine FD_st (Or.inl (by omega)) (fun _ => ?_)
    refine FD_bd (FD_fr (frX10_cell _ _ _) (by decide)) (fun _ _ => ?_)
    refine FD_bnd ?_
    refine FD_st (Or.inl (by omega)) (fun _ => ?_)
    refine FD_bd (FD_fr (frX10_cell _ _ _) (by decide)) (fun _ _ => ?_)
    refine FD_bnd ?_
    refine FD_st (Or.inl (by omega)) (fun _ => ?_)
    refine FD_bd (FD_fr (frX10_cell _ _ _) (by decide)) (fun _ _ => ?_)
    refine FD_bnd ?_
    refine FD_st (Or.inl (by omega)) (fun _ => ?_)
    refine FD_bd (FD_fr (frX10_cell _ _ _) (by decide)) (fun _ _ => ?_)
    refine FD_bnd ?_
    refine FD_st (Or.inl (by omega)) (fun _ => ?_)
    refine FD_bd (FD_fr (frX10_cell _ _ _) (by decide)) (fun _ _ => ?_)
    refine FD_bnd ?_
    refine FD_st (Or.inl (by omega)) (fun _ => ?_)
    refine FD_st (Or.inl (by omega)) (fun _ => ?_)
    refine FD_bnd ?_
    refine FD_st (Or.inl (by omega)) (fun _ => ?_)
    refine FD_st (Or.inr (by unfold KD; omega)) (fun _ => ?_)
    refine FD_st (Or.inr (by unfold KD; omega)) (fun _ => ?_)
    exact FD_some
theorem fdX10_links (k1 : Nat) (x2 : Int32) (x3 : Int32) (x4 : Int32) (σ : rS) : FD σ (fX10_links k1 x2 x3 x4 σ) := by
  unfold fX10_links
  refine FD_bd (FD_fr (frX10_rootSpot _ _ _) (by decide)) (fun _ _ => ?_)
  refine FD_bd (FD_fr (frX10_of _ _ _ _) (by decide)) (fun _ _ => ?_)
  refine FD_st (Or.inr (by unfold KD; omega)) (fun _ => ?_)
  refine FD_bd (FD_fr (frX10_cell _ _ _) (by decide)) (fun _ _ => ?_)
  refine FD_bd (FD_fr (frX10_link _ _ _) (by decide)) (fun _ _ => ?_)
  refine FD_bnd ?_
  refine FD_st (Or.inl (by omega)) (fun _ => ?_)
  refine FD_bd (FD_fr (frX10_sifts _ _) (by decide)) (fun _ _ => ?_)
  refine FD_bd (FD_fr (frX10_keeps _ _ _ _) (by decide)) (fun _ _ => ?_)
  exact FD_some
theorem fdX10_tells (k1 : Nat) (x2 : Int32) (σ : rS) : FD σ (fX10_tells k1 x2 σ) := by
  unfold fX10_tells
  refine FD_st (Or.inr (by unfold KD; omega)) (fun _ => ?_)
  refine FD_bd (FD_lp (fun x σ => FD_fr (frX10_tells_L11 _ _ _ _) (by decide)) _ _ _) (fun _ _ => ?_)
  refine FD_st (Or.inl (by omega)) (fun _ => ?_)
  refine FD_bd (FD_fr (frX10_spotOf_ _ _ _) (by decide)) (fun _ _ => ?_)
  refine FD_bd (FD_fr (frX10_cell _ _ _) (by decide)) (fun _ _ => ?_)
  refine FD_bnd ?_
  refine FD_st (Or.inl (by omega)) (fun _ => ?_)
  refine FD_ite ?_ ?_
  · skip
    refine FD_bnd ?_
    refine FD_st (Or.inl (by omega)) (fun _ => ?_)
    exact FD_some
  · skip
    exact FD_some
theorem fdX10_does_j45 (k1 : Nat) (x2 : Int32) (x3 : Int32) (x4 : Int32) (x5 : Int32) (x6 : Int32) (z0 : Int32) (σ : rS) : FD σ (fX10_does_j45 k1 x2 x3 x4 x5 x6 z0 σ) := by
  unfold fX10_does_j45
  refine FD_st (Or.inr (by unfold KD; omega)) (fun _ => ?_)
  refine FD_ite ?_ ?_
  · skip
    refine FD_bd (fdX10_makes _ _ _ _ _ _) (fun _ _ => ?_)
    refine FD_ite ?_ ?_
    · skip
      exact FD_some
    · skip
      exact FD_some
  · skip
    refine FD_ite ?_ ?_
    · skip
      refine FD_bd (fdX10_links _ _ _ _ _) (fun _ _ => ?_)
      exact FD_some
    · skip
      refine FD_ite ?_ ?_
      · skip
        refine FD_bd (FD_fr (frX10_rootSpot _ _ _) (by decide)) (fun _ _ => ?_)
        refine FD_bd (FD_fr (frX10_of _ _ _ _) (by decide)) (fun _ _ => ?_)
        refine FD_st (Or.inr (by unfold KD; omega)) (fun _ => ?_)
        refine FD_bnd ?_
        refine FD_st (Or.inl (by omega)) (fun _ => ?_)
        exact FD_some
      · skip
        refine FD_ite ?_ ?_
        · skip
          refine FD_bnd ?_
          refine FD_st (Or.inr (by unfold KD; omega)) (fun _ => ?_)
          refine FD_bnd ?_
          refine FD_st (Or.inl (by omega)) (fun _ => ?_)
          exact FD_some
        · skip
          refine FD_ite ?_ ?_
          · skip
            refine FD_bd (fdX10_minors _ _) (fun _ _ => ?_)
            refine FD_ite ?_ ?_
            · skip
              exact FD_some
            · skip
              refine FD_st (Or.inr (by unfold KD; omega)) (fun _ => ?_)
              exact FD_some
          · skip
            refine FD_ite ?_ ?_
            · skip
              refine FD_bd (fdX10_majors _ _) (fun _ _ => ?_)
              refine FD_st (Or.inr (by unfold KD; omega)) (fun _ => ?_)
              exact FD_some
            · skip
              refine FD_ite ?_ ?_
              · skip
                refine FD_bd (fdX10_tells _ _ _) (fun _ _ => ?_)
                refine FD_st (Or.inr (by unfold KD; omega)) (fun _ => ?_)
                exact FD_some
              · skip
                refine FD_st (Or.inr (by unfold KD; omega)) (fun _ => ?_)
                refine FD_bd (FD_lp (fun x σ => FD_fr (frX10_does_L241 _ _ _) (by decide)) _ _ _) (fun _ _ => ?_)
                refine FD_st (Or.inl (by omega)) (fun _ => ?_)
                refine FD_st (Or.inr (by unfold KD; omega)) (fun _ => ?_)
                exact FD_some
theorem fdX10_does_j44 (k1 : Nat) (x2 : Int32) (x3 : Int32) (x4 : Int32) (x5 : Int32) (x6 : Int32) (σ : rS) : FD σ (fX10_does_j44 k1 x2 x3 x4 x5 x6 σ) := by
  unfold fX10_does_j44
  exact fdX10_does_j45 _ _ _ _ _ _ _ _
theorem fdX10_does (k1 : Nat) (x2 : Int32) (x3 : Int32) (x4 : Int32) (x5 : Int32) (x6 : Int32) (σ : rS) : FD σ (fX10_does k1 x2 x3 x4 x5 x6 σ) := by
  unfold fX10_does
  refine FD_bd (FD_fr (frX10_stops _ _ _ _ _ _ _) (by decide)) (fun _ _ => ?_)
  refine FD_ite ?_ ?_
  · skip
    refine FD_ite ?_ ?_
    · skip
      refine FD_ite ?_ ?_
      · skip
        refine FD_bnd ?_
        exact fdX10_does_j45 _ _ _ _ _ _ _ _
      · skip
        exact fdX10_does_j44 _ _ _ _ _ _ _
    · skip
      exact fdX10_does_j44 _ _ _ _ _ _ _
  · skip
    exact FD_some
theorem fdX10_remember  (σ : rS) : FD σ (fX10_remember  σ) := by
  unfold fX10_remember
  refine FD_ite ?_ ?_
  · skip
    refine FD_st (Or.inr (by unfold KD; omega)) (fun _ => ?_)
    exact FD_fr (frX10_remember_j35 _) (by decide)
  · skip
    refine FD_st (Or.inr (by unfold KD; omega)) (fun _ => ?_)
    exact FD_fr (frX10_remember_j35 _) (by decide)
theorem fdX10_tries (x1 : Int32) (x2 : Int32) (x3 : Int32) (x4 : Int32) (x5 : Int32) (σ : rS) : FD σ (fX10_tries x1 x2 x3 x4 x5 σ) := by
  unfold fX10_tries
  refine FD_bd (FD_fr (frX10_copyRow _ _ _ _ _ _ _ _ _) (by decide)) (fun _ _ => ?_)
  refine FD_bd (fdX10_does _ _ _ _ _ _ _) (fun _ _ => ?_)
  refine FD_ite ?_ ?_
  · skip
    refine FD_bd (fdX10_remember _) (fun _ _ => ?_)
    refine FD_bd (FD_fr (frX10_notes _ _) (by decide)) (fun _ _ => ?_)
    exact FD_some
  · skip
    exact FD_some
