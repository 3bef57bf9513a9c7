/-! model functions: which rows they write -/
def SV (v c k : Nat) : Prop := c = 66 → k = v
def SVZ (v z c k : Nat) : Prop := c = 66 → k = v ∨ k = z
def SW (v c k : Nat) : Prop := c = 66 → k = v ∨ k = 2
theorem fr_SV {W : List Nat} {j : Nat} (h : ∀ c ∈ W, ¬ c = 66) : ∀ c k, (fun c (_ : Nat) => c ∈ W) c k → SV j c k := fun c k hc z => absurd z (h c hc)
theorem fr_SW {W : List Nat} {j : Nat} (h : ∀ c ∈ W, ¬ c = 66) : ∀ c k, (fun c (_ : Nat) => c ∈ W) c k → SW j c k := fun c k hc z => absurd z (h c hc)
theorem fvX10_goes_L6 (k0 : Nat) (x2 : Int32) (σ : rS) : FK (SV k0) σ (fX10_goes_L6 k0 x2 σ) := by
  unfold fX10_goes_L6
  refine FK_bd (FK_fr (frX10_cell _ _ _)) (fr_SV (by decide)) (fun _ _ => ?_)
  refine FK_ite ?_ ?_
  · skip
    refine FK_bnd ?_
    refine FK_bnd ?_
    refine FK_st (by intro _; omega) (fun _ => ?_)
    exact FK_some
  · skip
    exact FK_some
theorem fvX10_goes (k0 : Nat) (x1 : Int32) (σ : rS) : FK (SV k0) σ (fX10_goes k0 x1 σ) := by
  unfold fX10_goes
  refine FK_bd (FK_fr (frX10_cell _ _ _)) (fr_SV (by decide)) (fun _ _ => ?_)
  refine FK_bd (FK_lp (fun x σ => FK_sub (fvX10_goes_L6 _ _ _) (fun _ _ h => h)) _ _ _) (fun _ _ h => h) (fun _ _ => ?_)
  refine FK_st (by intro _; omega) (fun _ => ?_)
  exact FK_some
theorem fvX10_keeps (k0 : Nat) (x1 : Int32) (x2 : Int32) (σ : rS) : FK (SV k0) σ (fX10_keeps k0 x1 x2 σ) := by
  unfold fX10_keeps
  refine FK_bd (FK_fr (frX10_isOld _ _ _)) (fr_SV (by decide)) (fun _ _ => ?_)
  refine FK_ite ?_ ?_
  · skip
    exact FK_some
  · skip
    refine FK_bd (FK_fr (frX10_isYoungLink _ _ _ _)) (fr_SV (by decide)) (fun _ _ => ?_)
    refine FK_ite ?_ ?_
    · skip
      exact FK_some
    · skip
      refine FK_bd (FK_fr (frX10_of _ _ _ _)) (fr_SV (by decide)) (fun _ _ => ?_)
      refine FK_bd (FK_fr (frX10_spotOfKept _ _ _ _)) (fr_SV (by decide)) (fun _ _ => ?_)
      refine FK_ite ?_ ?_
      · skip
        refine FK_bd (FK_fr (frX10_of _ _ _ _)) (fr_SV (by decide)) (fun _ _ => ?_)
        refine FK_bnd ?_
        refine FK_st (by intro _; omega) (fun _ => ?_)
        refine FK_bnd ?_
        refine FK_st (by intro _; omega) (fun _ => ?_)
        refine FK_st (by intro _; omega) (fun _ => ?_)
        exact FK_some
      · skip
        exact FK_some
theorem fvX10_sifts_L4 (k0 : Nat) (x1 : Int32) (x2 : Int32) (σ : rS) : FK (SV k0) σ (fX10_sifts_L4 k0 x1 x2 σ) := by
  unfold fX10_sifts_L4
  refine FK_ite ?_ ?_
  · skip
    refine FK_bnd ?_
    refine FK_rd (fun _ => ?_)
    refine FK_bnd ?_
    refine FK_rd (fun _ => ?_)
    refine FK_bd (FK_fr (frX10_spotOf_ _ _ _)) (fr_SV (by decide)) (fun _ _ => ?_)
    refine FK_ite ?_ ?_
    · skip
      exact FK_sub (FK_fr (frX10_sifts_j85L4 _ _ _ _)) (fr_SV (by decide))
    · skip
      refine FK_bd (FK_fr (frX10_isYoungLink _ _ _ _)) (fr_SV (by decide)) (fun _ _ => ?_)
      refine FK_ite ?_ ?_
      · skip
        exact FK_sub (FK_fr (frX10_sifts_j85L4 _ _ _ _)) (fr_SV (by decide))
      · skip
        refine FK_bnd ?_
        refine FK_st (by intro _; omega) (fun _ => ?_)
        refine FK_bnd ?_
        refine FK_st (by intro _; omega) (fun _ => ?_)
        exact FK_sub (FK_fr (frX10_sifts_j85L4 _ _ _ _)) (fr_SV (by decide))
  · skip
    exact FK_some
theorem fvX10_sifts (k0 : Nat) (σ : rS) : FK (SV k0) σ (fX10_sifts k0 σ) := by
  unfold fX10_sifts
  refine FK_bd (FK_lp (fun x σ => FK_sub (fvX10_sifts_L4 _ _ _ _) (fun _ _ h => h)) _ _ _) (fun _ _ h => h) (fun _ _ => ?_)
  refine FK_st (by intro _; omega) (fun _ => ?_)
  exact FK_some
theorem fvX10_isLost_j49 (k0 : Nat) (x1 : Int32) (σ : rS) : FK (SV k0) σ (fX10_isLost_j49 k0 x1 σ) := by
  unfold fX10_isLost_j49
  refine FK_bnd ?_
  refine FK_st (by intro _; omega) (fun _ => ?_)
  refine FK_st (by intro _; omega) (fun _ => ?_)
  refine FK_st (by intro _; omega) (fun _ => ?_)
  exact FK_some
theorem fvX10_isLost_L12 (k0 : Nat) (x1 : Int32) (x2 : Int32) (σ : rS) : FK (SV k0) σ (fX10_isLost_L12 k0 x1 x2 σ) := by
  unfold fX10_isLost_L12
  refine FK_ite ?_ ?_
  · skip
    refine FK_bnd ?_
    refine FK_bnd ?_
    refine FK_st (by intro _; omega) (fun _ => ?_)
    exact FK_some
  · skip
    exact FK_some
theorem fvX10_isLost (k0 : Nat) (x1 : Int32) (σ : rS) : FK (SV k0) σ (fX10_isLost k0 x1 σ) := by
  unfold fX10_isLost
  refine FK_ite ?_ ?_
  · skip
    refine FK_bd (FK_lp (fun x σ => FK_sub (fvX10_isLost_L12 _ _ _ _) (fun _ _ h => h)) _ _ _) (fun _ _ h => h) (fun _ _ => ?_)
    refine FK_st (by intro _; omega) (fun _ => ?_)
    exact FK_sub (fvX10_isLost_j49 _ _ _) (fun _ _ h => h)
  · skip
    exact FK_sub (fvX10_isLost_j49 _ _ _) (fun _ _ h => h)
theorem fvX10_empties_j53 (k1 : Nat) (x2 : Int32) (σ : rS) : FK (SV k1) σ (fX10_empties_j53 k1 x2 σ) := by
  unfold fX10_empties_j53
  refine FK_bd (FK_fr (frX10_cell _ _ _)) (fr_SV (by decide)) (fun _ _ => ?_)
  refine FK_bnd ?_
  refine FK_st (by intro _; omega) (fun _ => ?_)
  refine FK_bd (FK_fr (frX10_of _ _ _ _)) (fr_SV (by decide)) (fun _ _ => ?_)
  refine FK_bd (fvX10_isLost _ _ _) (fun _ _ h => h) (fun _ _ => ?_)
  exact FK_some
theorem fvX10_empties (k1 : Nat) (x2 : Int32) (x3 : Int32) (σ : rS) : FK (SV k1) σ (fX10_empties k1 x2 x3 σ) := by
  unfold fX10_empties
  refine FK_bd (FK_fr (frX10_of _ _ _ _)) (fr_SV (by decide)) (fun _ _ => ?_)
  refine FK_bd (FK_fr (frX10_spotOf_ _ _ _)) (fr_SV (by decide)) (fun _ _ => ?_)
  refine FK_bd (FK_fr (frX10_of _ _ _ _)) (fr_SV (by decide)) (fun _ _ => ?_)
  refine FK_ite ?_ ?_
  · skip
    refine FK_ite ?_ ?_
    · skip
      exact FK_some
    · skip
      refine FK_bnd ?_
      refine FK_ite ?_ ?_
      · skip
        refine FK_ite ?_ ?_
        · skip
          exact FK_sub (fvX10_empties_j53 _ _ _) (fun _ _ h => h)
        · skip
          refine FK_bd (FK_fr (frX10_isOld _ _ _)) (fr_SV (by decide)) (fun _ _ => ?_)
          refine FK_ite ?_ ?_
          · skip
            exact FK_sub (fvX10_empties_j53 _ _ _) (fun _ _ h => h)
          · skip
            exact FK_some
      · skip
        exact FK_some
  · skip
    exact FK_some
theorem fvX10_ends_j48L7 (k1 : Nat) (x2 : Int32) (x3 : Int32) (σ : rS) : FK (SV k1) σ (fX10_ends_j48L7 k1 x2 x3 σ) := by
  unfold fX10_ends_j48L7
  refine FK_bd (FK_fr (frX10_of _ _ _ _)) (fr_SV (by decide)) (fun _ _ => ?_)
  refine FK_bnd ?_
  refine FK_st (by intro _; omega) (fun _ => ?_)
  refine FK_st (by intro _; omega) (fun _ => ?_)
  refine FK_st (by intro _; omega) (fun _ => ?_)
  refine FK_bnd ?_
  refine FK_st (by intro _; omega) (fun _ => ?_)
  refine FK_st (by intro _; omega) (fun _ => ?_)
  exact FK_sub (FK_fr (frX10_ends_j103L7 _ _ _ _)) (fr_SV (by decide))
theorem fvX10_ends_L7 (k1 : Nat) (x2 : Int32) (x3 : Int32) (σ : rS) : FK (SV k1) σ (fX10_ends_L7 k1 x2 x3 σ) := by
  unfold fX10_ends_L7
  refine FK_ite ?_ ?_
  · skip
    refine FK_bd (FK_fr (frX10_of _ _ _ _)) (fr_SV (by decide)) (fun _ _ => ?_)
    refine FK_ite ?_ ?_
    · skip
      refine FK_bnd ?_
      refine FK_ite ?_ ?_
      · skip
        refine FK_ite ?_ ?_
        · skip
          exact FK_sub (fvX10_ends_j48L7 _ _ _ _) (fun _ _ h => h)
        · skip
          refine FK_bd (FK_fr (frX10_isOld _ _ _)) (fr_SV (by decide)) (fun _ _ => ?_)
          refine FK_ite ?_ ?_
          · skip
            exact FK_sub (fvX10_ends_j48L7 _ _ _ _) (fun _ _ h => h)
          · skip
            exact FK_sub (FK_fr (frX10_ends_j103L7 _ _ _ _)) (fr_SV (by decide))
      · skip
        exact FK_sub (FK_fr (frX10_ends_j103L7 _ _ _ _)) (fr_SV (by decide))
    · skip
      exact FK_sub (FK_fr (frX10_ends_j103L7 _ _ _ _)) (fr_SV (by decide))
  · skip
    exact FK_some
theorem fvX10_ends (k1 : Nat) (x2 : Int32) (σ : rS) : FK (SV k1) σ (fX10_ends k1 x2 σ) := by
  unfold fX10_ends
  refine FK_st (by intro _; omega) (fun _ => ?_)
  refine FK_bd (FK_lp (fun x σ => FK_sub (fvX10_ends_L7 _ _ _ _) (fun _ _ h => h)) _ _ _) (fun _ _ h => h) (fun _ _ => ?_)
  exact FK_some
theorem fvX10_moves_j171 (k1 : Nat) (x2 : Int32) (x4 : Int32) (σ : rS) : FK (SV k1) σ (fX10_moves_j171 k1 x2 x4 σ) := by
  unfold fX10_moves_j171
  refine FK_st (by intro _; omega) (fun _ => ?_)
  refine FK_ite ?_ ?_
  · skip
    refine FK_st (by intro _; omega) (fun _ => ?_)
    exact FK_sub (FK_fr (frX10_moves_j194 _ _)) (fr_SV (by decide))
  · skip
    exact FK_sub (FK_fr (frX10_moves_j194 _ _)) (fr_SV (by decide))
theorem fvX10_moves_j142 (k1 : Nat) (x2 : Int32) (x3 : Int32) (x4 : Int32) (z0 : Int32) (z1 : Int32) (kz2 : Nat) (σ : rS) : FK (SVZ k1 kz2) σ (fX10_moves_j142 k1 x2 x3 x4 z0 z1 kz2 σ) := by
  unfold fX10_moves_j142
  refine FK_bnd ?_
  refine FK_st (by intro _; omega) (fun _ => ?_)
  refine FK_ite ?_ ?_
  · skip
    refine FK_st (by intro _; omega) (fun _ => ?_)
    exact FK_sub (fvX10_moves_j171 _ _ _ _) (fun c k h z => by have := h z; omega)
  · skip
    refine FK_st (by intro _; omega) (fun _ => ?_)
    exact FK_sub (fvX10_moves_j171 _ _ _ _) (fun c k h z => by have := h z; omega)
theorem fvX10_moves_j118 (k1 : Nat) (x2 : Int32) (x3 : Int32) (x4 : Int32) (z0 : Int32) (z1 : Int32) (kz2 : Nat) (σ : rS) : FK (SVZ k1 kz2) σ (fX10_moves_j118 k1 x2 x3 x4 z0 z1 kz2 σ) := by
  unfold fX10_moves_j118
  refine FK_bnd ?_
  refine FK_st (by intro _; omega) (fun _ => ?_)
  refine FK_bd (FK_fr (frX10_cell _ _ _)) (fun c k hc z => absurd z (((by decide) : ∀ c ∈ _, ¬ c = 66) c hc)) (fun _ _ => ?_)
  refine FK_ite ?_ ?_
  · skip
    exact FK_sub (fvX10_moves_j142 _ _ _ _ _ _ _ _) (fun c k h z => by have := h z; omega)
  · skip
    exact FK_sub (fvX10_moves_j142 _ _ _ _ _ _ _ _) (fun c k h z => by have := h z; omega)
theorem fvX10_moves_j102 (k1 : Nat) (x2 : Int32) (x3 : Int32) (x4 : Int32) (σ : rS) : FK (SV k1) σ (fX10_moves_j102 k1 x2 x3 x4 σ) := by
  unfold fX10_moves_j102
  refine FK_bd (FK_fr (frX10_cell _ _ _)) (fr_SV (by decide)) (fun _ _ => ?_)
  refine FK_ite ?_ ?_
  · skip
    exact FK_sub (fvX10_moves_j118 _ _ _ _ _ _ _ _) (fun c k h z => by have := h z; omega)
  · skip
    exact FK_sub (fvX10_moves_j118 _ _ _ _ _ _ _ _) (fun c k h z => by have := h z; omega)
theorem fvX10_moves_j75 (k1 : Nat) (x2 : Int32) (x3 : Int32) (z0 : Int32) (σ : rS) : FK (SV k1) σ (fX10_moves_j75 k1 x2 x3 z0 σ) := by
  unfold fX10_moves_j75
  refine FK_ite ?_ ?_
  · skip
    refine FK_ite ?_ ?_
    · skip
      refine FK_st (by intro _; omega) (fun _ => ?_)
      exact FK_sub (fvX10_moves_j102 _ _ _ _ _) (fun _ _ h => h)
    · skip
      exact FK_sub (fvX10_moves_j102 _ _ _ _ _) (fun _ _ h => h)
  · skip
    exact FK_sub (fvX10_moves_j102 _ _ _ _ _) (fun _ _ h => h)
theorem fvX10_moves_j74 (k1 : Nat) (x2 : Int32) (x3 : Int32) (σ : rS) : FK (SV k1) σ (fX10_moves_j74 k1 x2 x3 σ) := by
  unfold fX10_moves_j74
  exact FK_sub (fvX10_moves_j75 _ _ _ _ _) (fun _ _ h => h)
theorem fvX10_moves (k1 : Nat) (x2 : Int32) (σ : rS) : FK (SV k1) σ (fX10_moves k1 x2 σ) := by
  unfold fX10_moves
  refine FK_ite ?_ ?_
  · skip
    exact FK_some
  · skip
    refine FK_bnd ?_
    refine FK_ite ?_ ?_
    · skip
      refine FK_bd (FK_fr (frX10_isOld _ _ _)) (fr_SV (by decide)) (fun _ _ => ?_)
      refine FK_ite ?_ ?_
      · skip
        refine FK_bd (FK_fr (frX10_sizeOf _ _ _)) (fr_SV (by decide)) (fun _ _ => ?_)
        refine FK_bd (FK_fr (frX10_cell _ _ _)) (fr_SV (by decide)) (fun _ _ => ?_)
        refine FK_bnd ?_
        refine FK_bnd ?_
        refine FK_st (by intro _; omega) (fun _ => ?_)
        refine FK_bd (FK_fr (frX10_of _ _ _ _)) (fr_SV (by decide)) (fun _ _ => ?_)
        refine FK_ite ?_ ?_
        · skip
          refine FK_ite ?_ ?_
          · skip
            exact FK_sub (fvX10_moves_j74 _ _ _ _) (fun _ _ h => h)
          · skip
            exact FK_sub (fvX10_moves_j75 _ _ _ _ _) (fun _ _ h => h)
        · skip
          exact FK_sub (fvX10_moves_j74 _ _ _ _) (fun _ _ h => h)
      · skip
        exact FK_some
    · skip
      exact FK_some
theorem fvX10_movesAll_L28 (k1 : Nat) (x3 : Int32) (x4 : Int32) (x5 : Int32) (σ : rS) : FK (SV k1) σ (fX10_movesAll_L28 k1 x3 x4 x5 σ) := by
  unfold fX10_movesAll_L28
  refine FK_bd (FK_fr (frX10_of _ _ _ _)) (fr_SV (by decide)) (fun _ _ => ?_)
  refine FK_ite ?_ ?_
  · skip
    refine FK_ite ?_ ?_
    · skip
      refine FK_bd (FK_fr (frX10_isWeak _ _ _ _)) (fr_SV (by decide)) (fun _ _ => ?_)
      refine FK_ite ?_ ?_
      · skip
        refine FK_bd (FK_fr (frX10_of _ _ _ _)) (fr_SV (by decide)) (fun _ _ => ?_)
        refine FK_bd (FK_fr (frX10_spotOf_ _ _ _)) (fr_SV (by decide)) (fun _ _ => ?_)
        refine FK_bd (fvX10_moves _ _ _) (fun _ _ h => h) (fun _ _ => ?_)
        exact FK_sub (FK_fr (frX10_movesAll_j78L28 _ _ _ _ _)) (fr_SV (by decide))
      · skip
        exact FK_sub (FK_fr (frX10_movesAll_j78L28 _ _ _ _ _)) (fr_SV (by decide))
    · skip
      exact FK_some
  · skip
    exact FK_some
theorem fvX10_movesAll_L2 (k1 : Nat) (x3 : Int32) (σ : rS) : FK (SV k1) σ (fX10_movesAll_L2 k1 x3 σ) := by
  unfold fX10_movesAll_L2
  refine FK_ite ?_ ?_
  · skip
    refine FK_ite ?_ ?_
    · skip
      refine FK_bnd ?_
      refine FK_rd (fun _ => ?_)
      refine FK_bd (FK_lp (fun x σ => FK_sub (fvX10_movesAll_L28 _ _ _ _ _) (fun _ _ h => h)) _ _ _) (fun _ _ h => h) (fun _ _ => ?_)
      exact FK_sub (FK_fr (frX10_movesAll_j84L2 _ _ _)) (fr_SV (by decide))
    · skip
      exact FK_some
  · skip
    exact FK_some
theorem fvX10_movesAll (k1 : Nat) (x2 : Int32) (σ : rS) : FK (SV k1) σ (fX10_movesAll k1 x2 σ) := by
  unfold fX10_movesAll
  refine FK_bd (FK_lp (fun x σ => FK_sub (fvX10_movesAll_L2 _ _ _) (fun _ _ h => h)) _ _ _) (fun _ _ h => h) (fun _ _ => ?_)
  exact FK_some
theorem fvX10_movesReached_L2 (k1 : Nat) (x2 : Int32) (σ : rS) : FK (SV k1) σ (fX10_movesReached_L2 k1 x2 σ) := by
  unfold fX10_movesReached_L2
  refine FK_ite ?_ ?_
  · skip
    refine FK_ite ?_ ?_
    · skip
      refine FK_bnd ?_
      refine FK_bd (FK_fr (frX10_spotOf_ _ _ _)) (fr_SV (by decide)) (fun _ _ => ?_)
      refine FK_bd (fvX10_moves _ _ _) (fun _ _ h => h) (fun _ _ => ?_)
      exact FK_some
    · skip
      exact FK_some
  · skip
    exact FK_some
theorem fvX10_movesReached_L39 (k1 : Nat) (x2 : Int32) (σ : rS) : FK (SV k1) σ (fX10_movesReached_L39 k1 x2 σ) := by
  unfold fX10_movesReached_L39
  refine FK_ite ?_ ?_
  · skip
    refine FK_ite ?_ ?_
    · skip
      refine FK_bnd ?_
      refine FK_bd (FK_fr (frX10_spotOf_ _ _ _)) (fr_SV (by decide)) (fun _ _ => ?_)
      refine FK_bd (fvX10_moves _ _ _) (fun _ _ h => h) (fun _ _ => ?_)
      exact FK_some
    · skip
      exact FK_some
  · skip
    exact FK_some
theorem fvX10_movesReached_L79 (k1 : Nat) (x2 : Int32) (σ : rS) : FK (SV k1) σ (fX10_movesReached_L79 k1 x2 σ) := by
  unfold fX10_movesReached_L79
  refine FK_ite ?_ ?_
  · skip
    refine FK_ite ?_ ?_
    · skip
      refine FK_bnd ?_
      refine FK_bd (FK_fr (frX10_spotOf_ _ _ _)) (fr_SV (by decide)) (fun _ _ => ?_)
      refine FK_bnd ?_
      refine FK_rd (fun _ => ?_)
      refine FK_bd (FK_fr (frX10_isWeak _ _ _ _)) (fr_SV (by decide)) (fun _ _ => ?_)
      refine FK_ite ?_ ?_
      · skip
        refine FK_bd (FK_fr (frX10_of _ _ _ _)) (fr_SV (by decide)) (fun _ _ => ?_)
        refine FK_bd (FK_fr (frX10_spotOf_ _ _ _)) (fr_SV (by decide)) (fun _ _ => ?_)
        refine FK_bd (fvX10_moves _ _ _) (fun _ _ h => h) (fun _ _ => ?_)
        exact FK_sub (FK_fr (frX10_movesReached_j149L79 _ _ _)) (fr_SV (by decide))
      · skip
        exact FK_sub (FK_fr (frX10_movesReached_j149L79 _ _ _)) (fr_SV (by decide))
    · skip
      exact FK_some
  · skip
    exact FK_some
theorem fvX10_movesReached_j155 (k1 : Nat) (σ : rS) : FK (SV k1) σ (fX10_movesReached_j155 k1 σ) := by
  unfold fX10_movesReached_j155
  refine FK_bd (fvX10_movesAll _ _ _) (fun _ _ h => h) (fun _ _ => ?_)
  exact FK_some
theorem fvX10_movesReached_j77 (k1 : Nat) (σ : rS) : FK (SV k1) σ (fX10_movesReached_j77 k1 σ) := by
  unfold fX10_movesReached_j77
  refine FK_bd (FK_lp (fun x σ => FK_sub (fvX10_movesReached_L79 _ _ _) (fun _ _ h => h)) _ _ _) (fun _ _ h => h) (fun _ _ => ?_)
  exact FK_sub (fvX10_movesReached_j155 _ _) (fun _ _ h => h)
theorem fvX10_movesReached_j37 (k1 : Nat) (σ : rS) : FK (SV k1) σ (fX10_movesReached_j37 k1 σ) := by
  unfold fX10_movesReached_j37
  refine FK_bd (FK_lp (fun x σ => FK_sub (fvX10_movesReached_L39 _ _ _) (fun _ _ h => h)) _ _ _) (fun _ _ h => h) (fun _ _ => ?_)
  exact FK_sub (fvX10_movesReached_j77 _ _) (fun _ _ h => h)
theorem fvX10_movesReached (k1 : Nat) (σ : rS) : FK (SV k1) σ (fX10_movesReached k1 σ) := by
  unfold fX10_movesReached
  refine FK_bd (FK_lp (fun x σ => FK_sub (fvX10_movesReached_L2 _ _ _) (fun _ _ h => h)) _ _ _) (fun _ _ h => h) (fun _ _ => ?_)
  exact FK_sub (fvX10_movesReached_j37 _ _) (fun _ _ h => h)
theorem fvX10_weakensAndEnds_j26L2 (k1 : Nat) (x2 : Int32) (σ : rS) : FK (SV k1) σ (fX10_weakensAndEnds_j26L2 k1 x2 σ) := by
  unfold fX10_weakensAndEnds_j26L2
  refine FK_bd (fvX10_empties _ _ _ _) (fun _ _ h => h) (fun _ _ => ?_)
  exact FK_sub (FK_fr (frX10_weakensAndEnds_j33L2 _ _ _)) (fr_SV (by decide))
theorem fvX10_weakensAndEnds_L2 (k1 : Nat) (x2 : Int32) (σ : rS) : FK (SV k1) σ (fX10_weakensAndEnds_L2 k1 x2 σ) := by
  unfold fX10_weakensAndEnds_L2
  refine FK_ite ?_ ?_
  · skip
    refine FK_bnd ?_
    refine FK_ite ?_ ?_
    · skip
      refine FK_bd (FK_fr (frX10_isOld _ _ _)) (fr_SV (by decide)) (fun _ _ => ?_)
      refine FK_ite ?_ ?_
      · skip
        exact FK_sub (FK_fr (frX10_weakensAndEnds_j33L2 _ _ _)) (fr_SV (by decide))
      · skip
        exact FK_sub (fvX10_weakensAndEnds_j26L2 _ _ _) (fun _ _ h => h)
    · skip
      exact FK_sub (fvX10_weakensAndEnds_j26L2 _ _ _) (fun _ _ h => h)
  · skip
    exact FK_some
theorem fvX10_weakensAndEnds_L52 (k1 : Nat) (x2 : Int32) (x3 : Int32) (σ : rS) : FK (SV k1) σ (fX10_weakensAndEnds_L52 k1 x2 x3 σ) := by
  unfold fX10_weakensAndEnds_L52
  refine FK_ite ?_ ?_
  · skip
    refine FK_ite ?_ ?_
    · skip
      refine FK_rd (fun _ => ?_)
      refine FK_bnd ?_
      refine FK_bd (fvX10_moves _ _ _) (fun _ _ h => h) (fun _ _ => ?_)
      refine FK_bd (fvX10_movesAll _ _ _) (fun _ _ h => h) (fun _ _ => ?_)
      exact FK_some
    · skip
      exact FK_some
  · skip
    exact FK_some
theorem fvX10_weakensAndEnds_L99 (k1 : Nat) (x2 : Int32) (x3 : Int32) (σ : rS) : FK (SV k1) σ (fX10_weakensAndEnds_L99 k1 x2 x3 σ) := by
  unfold fX10_weakensAndEnds_L99
  refine FK_ite ?_ ?_
  · skip
    refine FK_bd (FK_fr (frX10_isMetBehind _ _ _)) (fr_SV (by decide)) (fun _ _ => ?_)
    refine FK_ite ?_ ?_
    · skip
      exact FK_sub (FK_fr (frX10_weakensAndEnds_j122L99 _ _ _ _)) (fr_SV (by decide))
    · skip
      refine FK_bd (fvX10_empties _ _ _ _) (fun _ _ h => h) (fun _ _ => ?_)
      exact FK_sub (FK_fr (frX10_weakensAndEnds_j122L99 _ _ _ _)) (fr_SV (by decide))
  · skip
    exact FK_some
theorem fvX10_weakensAndEnds_j97 (k1 : Nat) (x2 : Int32) (σ : rS) : FK (SV k1) σ (fX10_weakensAndEnds_j97 k1 x2 σ) := by
  unfold fX10_weakensAndEnds_j97
  refine FK_bd (FK_lp (fun x σ => FK_sub (fvX10_weakensAndEnds_L99 _ _ _ _) (fun _ _ h => h)) _ _ _) (fun _ _ h => h) (fun _ _ => ?_)
  exact FK_some
theorem fvX10_weakensAndEnds (k1 : Nat) (σ : rS) : FK (SV k1) σ (fX10_weakensAndEnds k1 σ) := by
  unfold fX10_weakensAndEnds
  refine FK_bd (FK_lp (fun x σ => FK_sub (fvX10_weakensAndEnds_L2 _ _ _) (fun _ _ h => h)) _ _ _) (fun _ _ h => h) (fun _ _ => ?_)
  refine FK_bd (fvX10_ends _ _ _) (fun _ _ h => h) (fun _ _ => ?_)
  refine FK_rd (fun _ => ?_)
  refine FK_bd (FK_lp (fun x σ => FK_sub (fvX10_weakensAndEnds_L52 _ _ _ _) (fun _ _ h => h)) _ _ _) (fun _ _ h => h) (fun _ _ => ?_)
  exact FK_sub (fvX10_weakensAndEnds_j97 _ _ _) (fun _ _ h => h)
theorem fvX10_minors_L80 (k1 : Nat) (x2 : Int32) (x3 : Int32) (σ : rS) : FK (SV k1) σ (fX10_minors_L80 k1 x2 x3 σ) := by
  unfold fX10_minors_L80
  refine FK_bnd ?_
  refine FK_bd (FK_fr (frX10_of _ _ _ _)) (fr_SV (by decide)) (fun _ _ => ?_)
  refine FK_ite ?_ ?_
  · skip
    refine FK_bnd ?_
    refine FK_bd (fvX10_keeps _ _ _ _) (fun _ _ h => h) (fun _ _ => ?_)
    exact FK_some
  · skip
    exact FK_some
theorem fvX10_minors_L70 (k1 : Nat) (x2 : Int32) (σ : rS) : FK (SV k1) σ (fX10_minors_L70 k1 x2 σ) := by
  unfold fX10_minors_L70
  refine FK_ite ?_ ?_
  · skip
    refine FK_bd (FK_lp (fun x σ => FK_sub (fvX10_minors_L80 _ _ _ _) (fun _ _ h => h)) _ _ _) (fun _ _ h => h) (fun _ _ => ?_)
    exact FK_some
  · skip
    exact FK_some
theorem fvX10_minors_L129 (k1 : Nat) (x2 : Int32) (σ : rS) : FK (SV k1) σ (fX10_minors_L129 k1 x2 σ) := by
  unfold fX10_minors_L129
  refine FK_ite ?_ ?_
  · skip
    exact FK_some
  · skip
    refine FK_bd (FK_fr (frX10_isOld _ _ _)) (fr_SV (by decide)) (fun _ _ => ?_)
    refine FK_ite ?_ ?_
    · skip
      refine FK_bnd ?_
      refine FK_ite ?_ ?_
      · skip
        refine FK_bd (fvX10_goes _ _ _) (fun _ _ h => h) (fun _ _ => ?_)
        refine FK_st (by intro _; omega) (fun _ => ?_)
        exact FK_sub (FK_fr (frX10_minors_j168L129 _ _ _)) (fr_SV (by decide))
      · skip
        exact FK_sub (FK_fr (frX10_minors_j168L129 _ _ _)) (fr_SV (by decide))
    · skip
      exact FK_sub (FK_fr (frX10_minors_j168L129 _ _ _)) (fr_SV (by decide))
theorem fvX10_minors_j45 (k1 : Nat) (σ : rS) : FK (SW k1) σ (fX10_minors_j45 k1 σ) := by
  unfold fX10_minors_j45
  refine FK_ite ?_ ?_
  · skip
    refine FK_bd (fvX10_sifts _ _) (fun c k h z => Or.inl (h z)) (fun _ _ => ?_)
    refine FK_bd (FK_lp (fun x σ => FK_sub (fvX10_minors_L70 _ _ _) (fun c k h z => Or.inl (h z))) _ _ _) (fun _ _ h => h) (fun _ _ => ?_)
    refine FK_st (by intro _; omega) (fun _ => ?_)
    refine FK_rd (fun _ => ?_)
    refine FK_bd (FK_lp (fun x σ => FK_sub (fvX10_minors_L129 _ _ _) (fun c k h z => Or.inl (h z))) _ _ _) (fun _ _ h => h) (fun _ _ => ?_)
    refine FK_st (by intro _; omega) (fun _ => ?_)
    refine FK_st (by intro _; omega) (fun _ => ?_)
    refine FK_st (by intro _; omega) (fun _ => ?_)
    exact FK_some
  · skip
    refine FK_bd (fkX10_copyRow _ _ _ _ _ _ _ _ _) (fun c k h => by obtain ⟨rfl, rfl⟩ := h; intro _; omega) (fun _ _ => ?_)
    exact FK_some
theorem fvX10_minors (k1 : Nat) (σ : rS) : FK (SW k1) σ (fX10_minors k1 σ) := by
  unfold fX10_minors
  refine FK_bd (fkX10_copyRow _ _ _ _ _ _ _ _ _) (fun c k h => by obtain ⟨rfl, rfl⟩ := h; intro _; omega) (fun _ _ => ?_)
  refine FK_bd (FK_fr (frX10_begins _)) (fr_SW (by decide)) (fun _ _ => ?_)
  refine FK_st (by intro _; omega) (fun _ => ?_)
  refine FK_bd (FK_fr (frX10_cellsIn _ _ _)) (fr_SW (by decide)) (fun _ _ => ?_)
  refine FK_st (by intro _; omega) (fun _ => ?_)
  refine FK_bd (fvX10_movesReached _ _) (fun c k h z => Or.inl (h z)) (fun _ _ => ?_)
  refine FK_ite ?_ ?_
  · skip
    refine FK_bd (fvX10_weakensAndEnds _ _) (fun c k h z => Or.inl (h z)) (fun _ _ => ?_)
    exact FK_sub (fvX10_minors_j45 _ _) (fun _ _ h => h)
  · skip
    exact FK_sub (fvX10_minors_j45 _ _) (fun _ _ h => h)
theorem fvX10_slides_j120L9 (k1 : Nat) (x2 : Int32) (x3 : Int32) (x4 : Int32) (z0 : Int32) (z1 : Int32) (σ : rS) : FK (SV k1) σ (fX10_slides_j120L9 k1 x2 x3 x4 z0 z1 σ) := by
  unfold fX10_slides_j120L9
  refine FK_st (by intro _; omega) (fun _ => ?_)
  refine FK_bd (FK_fr (frX10_cell _ _ _)) (fr_SV (by decide)) (fun _ _ => ?_)
  refine FK_bnd ?_
  refine FK_st (by intro _; omega) (fun _ => ?_)
  refine FK_bd (FK_fr (frX10_sizeOf _ _ _)) (fr_SV (by decide)) (fun _ _ => ?_)
  refine FK_rd (fun _ => ?_)
  exact FK_some
theorem fvX10_slides_L9 (k1 : Nat) (x2 : Int32) (x3 : Int32) (σ : rS) : FK (SV k1) σ (fX10_slides_L9 k1 x2 x3 σ) := by
  unfold fX10_slides_L9
  refine FK_bd (FK_lp (fun x σ => FK_sub (FK_fr (frX10_slides_L15 _ _ _ _ _ _)) (fr_SV (by decide))) _ _ _) (fun _ _ h => h) (fun _ _ => ?_)
  refine FK_ite ?_ ?_
  · skip
    exact FK_some
  · skip
    refine FK_bd (FK_fr (frX10_of _ _ _ _)) (fr_SV (by decide)) (fun _ _ => ?_)
    refine FK_ite ?_ ?_
    · skip
      exact FK_sub (fvX10_slides_j120L9 _ _ _ _ _ _ _) (fun _ _ h => h)
    · skip
      exact FK_sub (fvX10_slides_j120L9 _ _ _ _ _ _ _) (fun _ _ h => h)
theorem fvX10_slides (k1 : Nat) (σ : rS) : FK (SV k1) σ (fX10_slides k1 σ) := by
  unfold fX10_slides
  refine FK_st (by intro _; omega) (fun _ => ?_)
  refine FK_bd (FK_lp (fun x σ => FK_sub (fvX10_slides_L9 _ _ _ _) (fun _ _ h => h)) _ _ _) (fun _ _ h => h) (fun _ _ => ?_)
  exact FK_some
theorem fvX10_majors_L9 (k1 : Nat) (x2 : Int32) (σ : rS) : FK (SV k1) σ (fX10_majors_L9 k1 x2 σ) := by
  unfold fX10_majors_L9
  refine FK_ite ?_ ?_
  · skip
    refine FK_bnd ?_
    refine FK_ite ?_ ?_
    · skip
      exact FK_sub (FK_fr (frX10_majors_j32L9 _ _ _)) (fr_SV (by decide))
    · skip
      refine FK_bd (fvX10_empties _ _ _ _) (fun _ _ h => h) (fun _ _ => ?_)
      exact FK_sub (FK_fr (frX10_majors_j32L9 _ _ _)) (fr_SV (by decide))
  · skip
    exact FK_some
theorem fvX10_majors_L83 (k1 : Nat) (x2 : Int32) (x3 : Int32) (σ : rS) : FK (SV k1) σ (fX10_majors_L83 k1 x2 x3 σ) := by
  unfold fX10_majors_L83
  refine FK_ite ?_ ?_
  · skip
    refine FK_bd (FK_fr (frX10_isMetBehind _ _ _)) (fr_SV (by decide)) (fun _ _ => ?_)
    refine FK_ite ?_ ?_
    · skip
      exact FK_sub (FK_fr (frX10_majors_j106L83 _ _ _ _)) (fr_SV (by decide))
    · skip
      refine FK_bd (fvX10_empties _ _ _ _) (fun _ _ h => h) (fun _ _ => ?_)
      exact FK_sub (FK_fr (frX10_majors_j106L83 _ _ _ _)) (fr_SV (by decide))
  · skip
    exact FK_some
theorem fvX10_majors_L129 (k1 : Nat) (x3 : Int32) (x4 : Int32) (σ : rS) : FK (SV k1) σ (fX10_majors_L129 k1 x3 x4 σ) := by
  unfold fX10_majors_L129
  refine FK_ite ?_ ?_
  · skip
    refine FK_bnd ?_
    refine FK_ite ?_ ?_
    · skip
      refine FK_bd (FK_fr (frX10_isOld _ _ _)) (fr_SV (by decide)) (fun _ _ => ?_)
      refine FK_ite ?_ ?_
      · skip
        refine FK_bd (FK_fr (frX10_cell _ _ _)) (fr_SV (by decide)) (fun _ _ => ?_)
        refine FK_bnd ?_
        refine FK_st (by intro _; omega) (fun _ => ?_)
        exact FK_some
      · skip
        exact FK_some
    · skip
      exact FK_some
  · skip
    exact FK_some
theorem fvX10_majors_L119 (k1 : Nat) (x3 : Int32) (σ : rS) : FK (SV k1) σ (fX10_majors_L119 k1 x3 σ) := by
  unfold fX10_majors_L119
  refine FK_ite ?_ ?_
  · skip
    refine FK_bd (FK_lp (fun x σ => FK_sub (fvX10_majors_L129 _ _ _ _) (fun _ _ h => h)) _ _ _) (fun _ _ h => h) (fun _ _ => ?_)
    exact FK_sub (FK_fr (frX10_majors_j170L119 _ _ _)) (fr_SV (by decide))
  · skip
    exact FK_some
theorem fvX10_majors_L187 (k1 : Nat) (x3 : Int32) (σ : rS) : FK (SV k1) σ (fX10_majors_L187 k1 x3 σ) := by
  unfold fX10_majors_L187
  refine FK_ite ?_ ?_
  · skip
    exact FK_some
  · skip
    refine FK_bd (FK_fr (frX10_isOld _ _ _)) (fr_SV (by decide)) (fun _ _ => ?_)
    refine FK_ite ?_ ?_
    · skip
      exact FK_sub (FK_fr (frX10_majors_j226L187 _ _ _)) (fr_SV (by decide))
    · skip
      refine FK_bnd ?_
      refine FK_ite ?_ ?_
      · skip
        refine FK_bd (fvX10_goes _ _ _) (fun _ _ h => h) (fun _ _ => ?_)
        refine FK_st (by intro _; omega) (fun _ => ?_)
        exact FK_sub (FK_fr (frX10_majors_j226L187 _ _ _)) (fr_SV (by decide))
      · skip
        exact FK_sub (FK_fr (frX10_majors_j226L187 _ _ _)) (fr_SV (by decide))
theorem fvX10_majors (k1 : Nat) (σ : rS) : FK (SV k1) σ (fX10_majors k1 σ) := by
  unfold fX10_majors
  refine FK_bd (FK_fr (frX10_reaches _ _ _ _)) (fr_SV (by decide)) (fun _ _ => ?_)
  refine FK_bd (FK_lp (fun x σ => FK_sub (fvX10_majors_L9 _ _ _) (fun _ _ h => h)) _ _ _) (fun _ _ h => h) (fun _ _ => ?_)
  refine FK_bd (fvX10_ends _ _ _) (fun _ _ h => h) (fun _ _ => ?_)
  refine FK_rd (fun _ => ?_)
  refine FK_bd (FK_lp (fun x σ => FK_sub (FK_fr (frX10_majors_L51 _ _ _ _)) (fr_SV (by decide))) _ _ _) (fun _ _ h => h) (fun _ _ => ?_)
  refine FK_bd (FK_fr (frX10_marksAll _ _ _)) (fr_SV (by decide)) (fun _ _ => ?_)
  refine FK_bd (FK_lp (fun x σ => FK_sub (fvX10_majors_L83 _ _ _ _) (fun _ _ h => h)) _ _ _) (fun _ _ h => h) (fun _ _ => ?_)
  refine FK_bd (fvX10_slides _ _) (fun _ _ h => h) (fun _ _ => ?_)
  refine FK_bd (FK_lp (fun x σ => FK_sub (fvX10_majors_L119 _ _ _) (fun _ _ h => h)) _ _ _) (fun _ _ h => h) (fun _ _ => ?_)
  refine FK_st (by intro _; omega) (fun _ => ?_)
  refine FK_rd (fun _ => ?_)
  refine FK_bd (FK_lp (fun x σ => FK_sub (fvX10_majors_L187 _ _ _) (fun _ _ h => h)) _ _ _) (fun _ _ h => h) (fun _ _ => ?_)
  refine FK_bd (fvX10_sifts _ _) (fun _ _ h => h) (fun _ _ => ?_)
  refine FK_st (by intro _; omega) (fun _ => ?_)
  refine FK_st (by intro _; omega) (fun _ => ?_)
  exact FK_some
