/-! which kinds of rows a pure function may change -/
def FR {α : Type} (W : List Nat) (σ : rS) (o : Option (α × rS)) : Prop := ∀ (r : α) (σ' : rS), o = some (r, σ') → ∀ c, ¬ c ∈ W → σ' c = σ c
theorem FR_some {α : Type} {W : List Nat} {σ : rS} {r : α} : FR W σ (some (r, σ)) := fun r' σ' h c _ => by
  have := Option.some.inj h
  cases this
  rfl
theorem FR_none {α : Type} {W : List Nat} {σ : rS} : FR (α := α) W σ none := fun r' σ' h => by cases h
theorem FR_ite {α : Type} {W : List Nat} {σ : rS} {c : Prop} [Decidable c] {x y : Option (α × rS)} (h1 : FR W σ x) (h2 : FR W σ y) : FR W σ (if c then x else y) := by
  by_cases hc : c
  · rw [if_pos hc]; exact h1
  · rw [if_neg hc]; exact h2
theorem FR_bnd {α : Type} {W : List Nat} {σ : rS} {i : Int32} {n : Nat} {x : Option (α × rS)} (h : FR W σ x) : FR W σ (bnd i n x) := FR_ite FR_none h
theorem FR_bz {α : Type} {W : List Nat} {σ : rS} {i : Int32} {x : Option (α × rS)} (h : FR W σ x) : FR W σ (bz i x) := FR_ite h FR_none
theorem FR_bnz {α : Type} {W : List Nat} {σ : rS} {i : Int32} {x : Option (α × rS)} (h : FR W σ x) : FR W σ (bnz i x) := FR_ite FR_none h
theorem FR_blz {α : Type} {W : List Nat} {σ : rS} {i : Int64} {x : Option (α × rS)} (h : FR W σ x) : FR W σ (blz i x) := FR_ite FR_none h
theorem FR_bch {α : Type} {W : List Nat} {σ : rS} {i : Int32} {x : Option (α × rS)} (h : FR W σ x) : FR W σ (bch i x) := FR_ite h FR_none
theorem FR_bcp {α : Type} {W : List Nat} {σ : rS} {a b c : Int32} {n m : Nat} {x : Option (α × rS)} (h : FR W σ x) : FR W σ (bcp a b c n m x) := FR_ite FR_none h
theorem FR_rd {α : Type} {W : List Nat} {σ : rS} {x : Int32} {f : Int32 → Option (α × rS)} (h : ∀ y, FR W σ (f y)) : FR W σ (rd x f) := h x
theorem FR_to {α : Type} {W : List Nat} {σ σ1 : rS} {x : Option (α × rS)} (hc : ∀ c, ¬ c ∈ W → σ1 c = σ c) (h : FR W σ1 x) : FR W σ x := fun r σ' e c hn => (h r σ' e c hn).trans (hc c hn)
theorem wrR_frame {W : List Nat} {σ : rS} {c k : Nat} {g : Nat → Int32} (hc : c ∈ W) : ∀ c', ¬ c' ∈ W → wrR σ c k g c' = σ c' := fun c' hn => by
  unfold wrR
  have h1 : ¬ c' = c := fun e => hn (by rw [e]; exact hc)
  rw [if_neg h1]
theorem FR_stR {α : Type} {W : List Nat} {σ : rS} {c k : Nat} {g : Nat → Int32} {f : rS → Option (α × rS)} (hc : c ∈ W) (h : ∀ σ1, FR W σ1 (f σ1)) : FR W σ (st (wrR σ c k g) f) := FR_to (wrR_frame hc) (h _)
theorem FR_st {α : Type} {W : List Nat} {σ : rS} {c k i : Nat} {v : Int32} {f : rS → Option (α × rS)} (hc : c ∈ W) (h : ∀ σ1, FR W σ1 (f σ1)) : FR W σ (st (wr σ c k i v) f) := FR_stR hc h
theorem FR_stJ {α : Type} {W : List Nat} {σ : rS} {c k i j : Nat} {v u : Int32} {f : rS → Option (α × rS)} (hc : c ∈ W) (h : ∀ σ1, FR W σ1 (f σ1)) : FR W σ (st (wr (wr σ c k i v) c k j u) f) := FR_to (fun c' hn => (wrR_frame (k := k) hc c' hn).trans (wrR_frame (k := k) hc c' hn)) (h _)
theorem FR_bd {α β : Type} {W W1 : List Nat} {σ : rS} {o : Option (α × rS)} {f : α → rS → Option (β × rS)} (h1 : FR W1 σ o) (hw : ∀ c ∈ W1, c ∈ W) (h : ∀ r σ1, FR W σ1 (f r σ1)) : FR W σ (bd o f) := by
  cases o with
  | none => exact FR_none
  | some q => exact FR_to (fun c hn => h1 q.1 q.2 rfl c (fun z => hn (hw c z))) (h q.1 q.2)
theorem FR_sub {α : Type} {W W1 : List Nat} {σ : rS} {o : Option (α × rS)} (h1 : FR W1 σ o) (hw : ∀ c ∈ W1, c ∈ W) : FR W σ o := fun r σ' e c hn => h1 r σ' e c (fun z => hn (hw c z))
theorem FR_lp {L R : Type} {W : List Nat} {step : L → rS → Option ((L ⊕ R) × rS)} (h : ∀ x σ, FR W σ (step x σ)) : ∀ (n : Nat) (x : L) (σ : rS), FR W σ (lp step n x σ) := by
  intro n
  induction n with
  | zero => intro x σ; exact FR_none
  | succ n ih =>
    intro x σ
    refine FR_bd (h x σ) (fun _ z => z) (fun q σ1 => ?_)
    cases q with
    | inl y => exact ih y σ1
    | inr r => exact FR_some
theorem frX9_isRoot (x0 : Int32) (σ : rS) : FR [] σ (fX9_isRoot x0 σ) := by
  unfold fX9_isRoot
  refine FR_ite ?_ ?_
  · skip
    exact FR_some
  · skip
    refine FR_ite ?_ ?_
    · skip
      exact FR_some
    · skip
      exact FR_some
theorem frX7_isYoung (k0 : Nat) (x1 : Int32) (σ : rS) : FR [] σ (fX7_isYoung k0 x1 σ) := by
  unfold fX7_isYoung
  refine FR_ite ?_ ?_
  · skip
    exact FR_some
  · skip
    refine FR_ite ?_ ?_
    · skip
      refine FR_bnd ?_
      refine FR_ite ?_ ?_
      · skip
        exact FR_some
      · skip
        exact FR_some
    · skip
      exact FR_some
theorem frX1_beginPlan_j57L31 (k1 : Nat) (x2 : Int32) (z0 : Int32) (z1 : Int32) (σ : rS) : FR [38] σ (fX1_beginPlan_j57L31 k1 x2 z0 z1 σ) := by
  unfold fX1_beginPlan_j57L31
  refine FR_bnd ?_
  refine FR_st (by simp) (fun _ => ?_)
  exact FR_some
theorem frX1_beginPlan_L31 (k1 : Nat) (x2 : Int32) (σ : rS) : FR [38] σ (fX1_beginPlan_L31 k1 x2 σ) := by
  unfold fX1_beginPlan_L31
  refine FR_ite ?_ ?_
  · skip
    refine FR_bd (frX7_isYoung _ _ _) (by decide) (fun _ _ => ?_)
    refine FR_ite ?_ ?_
    · skip
      exact FR_sub (frX1_beginPlan_j57L31 _ _ _ _ _) (by decide)
    · skip
      exact FR_sub (frX1_beginPlan_j57L31 _ _ _ _ _) (by decide)
  · skip
    exact FR_some
theorem frX1_beginPlan (k1 : Nat) (σ : rS) : FR [1, 38, 43] σ (fX1_beginPlan k1 σ) := by
  unfold fX1_beginPlan
  refine FR_st (by simp) (fun _ => ?_)
  refine FR_st (by simp) (fun _ => ?_)
  refine FR_st (by simp) (fun _ => ?_)
  refine FR_st (by simp) (fun _ => ?_)
  refine FR_bd (FR_lp (fun x σ => frX1_beginPlan_L31 _ _ _) _ _ _) (by decide) (fun _ _ => ?_)
  exact FR_some
theorem frX1_planMove_j91 (x2 : Int32) (x3 : Int32) (x4 : Int32) (z0 : Int32) (σ : rS) : FR [1, 38, 39, 40, 41, 43] σ (fX1_planMove_j91 x2 x3 x4 z0 σ) := by
  unfold fX1_planMove_j91
  refine FR_bnd ?_
  refine FR_bnd ?_
  refine FR_ite ?_ ?_
  · skip
    refine FR_st (by simp) (fun _ => ?_)
    exact FR_some
  · skip
    refine FR_bnd ?_
    refine FR_st (by simp) (fun _ => ?_)
    refine FR_bnd ?_
    refine FR_bnd ?_
    refine FR_st (by simp) (fun _ => ?_)
    refine FR_bnd ?_
    refine FR_bnd ?_
    refine FR_st (by simp) (fun _ => ?_)
    refine FR_bnd ?_
    refine FR_st (by simp) (fun _ => ?_)
    refine FR_bnd ?_
    refine FR_st (by simp) (fun _ => ?_)
    refine FR_st (by simp) (fun _ => ?_)
    exact FR_some
theorem frX1_planMove_j79 (x2 : Int32) (x3 : Int32) (x4 : Int32) (z0 : Int32) (σ : rS) : FR [1, 38, 39, 40, 41, 43] σ (fX1_planMove_j79 x2 x3 x4 z0 σ) := by
  unfold fX1_planMove_j79
  refine FR_ite ?_ ?_
  · skip
    exact FR_sub (frX1_planMove_j91 _ _ _ _ _) (by decide)
  · skip
    exact FR_sub (frX1_planMove_j91 _ _ _ _ _) (by decide)
theorem frX1_planMove_j78 (x2 : Int32) (x3 : Int32) (x4 : Int32) (σ : rS) : FR [1, 38, 39, 40, 41, 43] σ (fX1_planMove_j78 x2 x3 x4 σ) := by
  unfold fX1_planMove_j78
  exact FR_sub (frX1_planMove_j79 _ _ _ _ _) (by decide)
theorem frX1_planMove (k1 : Nat) (x2 : Int32) (x3 : Int32) (σ : rS) : FR [1, 38, 39, 40, 41, 43] σ (fX1_planMove k1 x2 x3 σ) := by
  unfold fX1_planMove
  refine FR_ite ?_ ?_
  · skip
    refine FR_ite ?_ ?_
    · skip
      exact FR_some
    · skip
      refine FR_ite ?_ ?_
      · skip
        refine FR_bnd ?_
        refine FR_ite ?_ ?_
        · skip
          refine FR_bnd ?_
          refine FR_rd (fun _ => ?_)
          refine FR_bnd ?_
          refine FR_ite ?_ ?_
          · skip
            refine FR_ite ?_ ?_
            · skip
              exact FR_sub (frX1_planMove_j78 _ _ _ _) (by decide)
            · skip
              exact FR_sub (frX1_planMove_j79 _ _ _ _ _) (by decide)
          · skip
            exact FR_sub (frX1_planMove_j78 _ _ _ _) (by decide)
        · skip
          exact FR_some
      · skip
        exact FR_some
  · skip
    exact FR_some
theorem frX4_get (k0 : Nat) (x1 : Int32) (σ : rS) : FR [] σ (fX4_get k0 x1 σ) := by
  unfold fX4_get
  refine FR_ite ?_ ?_
  · skip
    exact FR_some
  · skip
    refine FR_ite ?_ ?_
    · skip
      refine FR_bnd ?_
      exact FR_some
    · skip
      exact FR_some
theorem frX7_firstStrong (k0 : Nat) (x1 : Int32) (σ : rS) : FR [] σ (fX7_firstStrong k0 x1 σ) := by
  unfold fX7_firstStrong
  refine FR_ite ?_ ?_
  · skip
    exact FR_some
  · skip
    refine FR_ite ?_ ?_
    · skip
      refine FR_bnd ?_
      refine FR_ite ?_ ?_
      · skip
        exact FR_some
      · skip
        exact FR_some
    · skip
      exact FR_some
theorem frX7_target (k0 : Nat) (x1 : Int32) (x2 : Int32) (σ : rS) : FR [] σ (fX7_target k0 x1 x2 σ) := by
  unfold fX7_target
  refine FR_ite ?_ ?_
  · skip
    exact FR_some
  · skip
    refine FR_ite ?_ ?_
    · skip
      refine FR_ite ?_ ?_
      · skip
        exact FR_some
      · skip
        refine FR_bnd ?_
        refine FR_ite ?_ ?_
        · skip
          refine FR_bnd ?_
          exact FR_some
        · skip
          exact FR_some
    · skip
      exact FR_some
theorem frX1_planFromRoots_L2 (k1 : Nat) (x2 : Int32) (σ : rS) : FR [1, 38, 39, 40, 41, 43] σ (fX1_planFromRoots_L2 k1 x2 σ) := by
  unfold fX1_planFromRoots_L2
  refine FR_ite ?_ ?_
  · skip
    refine FR_bnd ?_
    refine FR_bd (frX1_planMove _ _ _ _) (by decide) (fun _ _ => ?_)
    exact FR_some
  · skip
    exact FR_some
theorem frX1_planFromRoots_L28 (k1 : Nat) (x2 : Int32) (σ : rS) : FR [1, 38, 39, 40, 41, 43] σ (fX1_planFromRoots_L28 k1 x2 σ) := by
  unfold fX1_planFromRoots_L28
  refine FR_ite ?_ ?_
  · skip
    refine FR_bd (frX4_get _ _ _) (by decide) (fun _ _ => ?_)
    refine FR_bd (frX1_planMove _ _ _ _) (by decide) (fun _ _ => ?_)
    exact FR_some
  · skip
    exact FR_some
theorem frX1_planFromRoots_j116L61 (k1 : Nat) (x2 : Int32) (σ : rS) : FR [] σ (fX1_planFromRoots_j116L61 k1 x2 σ) := by
  unfold fX1_planFromRoots_j116L61
  exact FR_some
theorem frX1_planFromRoots_L61 (k1 : Nat) (x2 : Int32) (σ : rS) : FR [1, 38, 39, 40, 41, 43] σ (fX1_planFromRoots_L61 k1 x2 σ) := by
  unfold fX1_planFromRoots_L61
  refine FR_ite ?_ ?_
  · skip
    refine FR_bd (frX4_get _ _ _) (by decide) (fun _ _ => ?_)
    refine FR_rd (fun _ => ?_)
    refine FR_rd (fun _ => ?_)
    refine FR_bd (frX7_firstStrong _ _ _) (by decide) (fun _ _ => ?_)
    refine FR_ite ?_ ?_
    · skip
      exact FR_sub (frX1_planFromRoots_j116L61 _ _ _) (by decide)
    · skip
      refine FR_bd (frX7_target _ _ _ _) (by decide) (fun _ _ => ?_)
      refine FR_bd (frX1_planMove _ _ _ _) (by decide) (fun _ _ => ?_)
      exact FR_sub (frX1_planFromRoots_j116L61 _ _ _) (by decide)
  · skip
    exact FR_some
theorem frX1_planFromRoots (k1 : Nat) (σ : rS) : FR [1, 38, 39, 40, 41, 43] σ (fX1_planFromRoots k1 σ) := by
  unfold fX1_planFromRoots
  refine FR_bd (FR_lp (fun x σ => frX1_planFromRoots_L2 _ _ _) _ _ _) (by decide) (fun _ _ => ?_)
  refine FR_bd (FR_lp (fun x σ => frX1_planFromRoots_L28 _ _ _) _ _ _) (by decide) (fun _ _ => ?_)
  refine FR_bd (FR_lp (fun x σ => frX1_planFromRoots_L61 _ _ _) _ _ _) (by decide) (fun _ _ => ?_)
  exact FR_some
theorem frX7_fieldsOf (k0 : Nat) (x1 : Int32) (σ : rS) : FR [] σ (fX7_fieldsOf k0 x1 σ) := by
  unfold fX7_fieldsOf
  refine FR_ite ?_ ?_
  · skip
    exact FR_some
  · skip
    refine FR_ite ?_ ?_
    · skip
      refine FR_bnd ?_
      exact FR_some
    · skip
      exact FR_some
theorem frX1_planFrom_L36 (k1 : Nat) (x3 : Int32) (x4 : Int32) (x5 : Int32) (x6 : Int32) (σ : rS) : FR [1, 38, 39, 40, 41, 43] σ (fX1_planFrom_L36 k1 x3 x4 x5 x6 σ) := by
  unfold fX1_planFrom_L36
  refine FR_bd (frX7_fieldsOf _ _ _) (by decide) (fun _ _ => ?_)
  refine FR_ite ?_ ?_
  · skip
    refine FR_bd (frX7_target _ _ _ _) (by decide) (fun _ _ => ?_)
    refine FR_bd (frX1_planMove _ _ _ _) (by decide) (fun _ _ => ?_)
    exact FR_some
  · skip
    exact FR_some
theorem frX1_planFrom_L3 (k1 : Nat) (x3 : Int32) (x4 : Int32) (σ : rS) : FR [1, 38, 39, 40, 41, 43] σ (fX1_planFrom_L3 k1 x3 x4 σ) := by
  unfold fX1_planFrom_L3
  refine FR_ite ?_ ?_
  · skip
    refine FR_ite ?_ ?_
    · skip
      refine FR_bnd ?_
      refine FR_rd (fun _ => ?_)
      refine FR_bd (frX7_firstStrong _ _ _) (by decide) (fun _ _ => ?_)
      refine FR_bd (FR_lp (fun x σ => frX1_planFrom_L36 _ _ _ _ _ _) _ _ _) (by decide) (fun _ _ => ?_)
      exact FR_some
    · skip
      exact FR_some
  · skip
    exact FR_some
theorem frX1_planFrom (k1 : Nat) (x2 : Int32) (x3 : Int32) (σ : rS) : FR [1, 38, 39, 40, 41, 43] σ (fX1_planFrom k1 x2 x3 σ) := by
  unfold fX1_planFrom
  refine FR_bd (FR_lp (fun x σ => frX1_planFrom_L3 _ _ _ _) _ _ _) (by decide) (fun _ _ => ?_)
  exact FR_some
theorem frX1_planFromLasting_j48L2 (k1 : Nat) (x2 : Int32) (σ : rS) : FR [] σ (fX1_planFromLasting_j48L2 k1 x2 σ) := by
  unfold fX1_planFromLasting_j48L2
  exact FR_some
theorem frX1_planFromLasting_L2 (k1 : Nat) (x2 : Int32) (σ : rS) : FR [1, 38, 39, 40, 41, 43] σ (fX1_planFromLasting_L2 k1 x2 σ) := by
  unfold fX1_planFromLasting_L2
  refine FR_ite ?_ ?_
  · skip
    refine FR_bnd ?_
    refine FR_ite ?_ ?_
    · skip
      refine FR_bnd ?_
      refine FR_ite ?_ ?_
      · skip
        refine FR_rd (fun _ => ?_)
        refine FR_bd (frX1_planMove _ _ _ _) (by decide) (fun _ _ => ?_)
        refine FR_bd (frX1_planFrom _ _ _ _) (by decide) (fun _ _ => ?_)
        exact FR_sub (frX1_planFromLasting_j48L2 _ _ _) (by decide)
      · skip
        exact FR_sub (frX1_planFromLasting_j48L2 _ _ _) (by decide)
    · skip
      exact FR_sub (frX1_planFromLasting_j48L2 _ _ _) (by decide)
  · skip
    exact FR_some
theorem frX1_planFromLasting (k1 : Nat) (σ : rS) : FR [1, 38, 39, 40, 41, 43] σ (fX1_planFromLasting k1 σ) := by
  unfold fX1_planFromLasting
  refine FR_bd (FR_lp (fun x σ => frX1_planFromLasting_L2 _ _ _) _ _ _) (by decide) (fun _ _ => ?_)
  exact FR_some
theorem frJ7_fill_53178_L5 (c0 k0 n0 : Nat) (x1 : Int32) (x3 : Int32) (x2 : Int32) (σ : rS) : FR [c0] σ (fJ7_fill_53178_L5 c0 k0 n0 x1 x3 x2 σ) := by
  unfold fJ7_fill_53178_L5
  refine FR_ite ?_ ?_
  · skip
    refine FR_bnd ?_
    refine FR_st (by simp) (fun _ => ?_)
    exact FR_some
  · skip
    exact FR_some
theorem frJ7_fill_53178 (c0 k0 n0 : Nat) (x1 : Int32) (σ : rS) : FR [c0] σ (fJ7_fill_53178 c0 k0 n0 x1 σ) := by
  unfold fJ7_fill_53178
  refine FR_rd (fun _ => ?_)
  refine FR_bd (FR_lp (fun x σ => frJ7_fill_53178_L5 _ _ _ _ _ _ _) _ _ _) (by simp) (fun _ _ => ?_)
  exact FR_some
theorem frX7_isWeak (k0 : Nat) (x1 : Int32) (σ : rS) : FR [] σ (fX7_isWeak k0 x1 σ) := by
  unfold fX7_isWeak
  refine FR_ite ?_ ?_
  · skip
    exact FR_some
  · skip
    refine FR_ite ?_ ?_
    · skip
      refine FR_bnd ?_
      refine FR_ite ?_ ?_
      · skip
        exact FR_some
      · skip
        exact FR_some
    · skip
      exact FR_some
theorem frX7_isSlot (k0 : Nat) (x1 : Int32) (σ : rS) : FR [] σ (fX7_isSlot k0 x1 σ) := by
  unfold fX7_isSlot
  refine FR_ite ?_ ?_
  · skip
    exact FR_some
  · skip
    refine FR_ite ?_ ?_
    · skip
      exact FR_some
    · skip
      exact FR_some
theorem frX7_hasField (k0 : Nat) (x1 : Int32) (x2 : Int32) (σ : rS) : FR [] σ (fX7_hasField k0 x1 x2 σ) := by
  unfold fX7_hasField
  refine FR_ite ?_ ?_
  · skip
    exact FR_some
  · skip
    refine FR_ite ?_ ?_
    · skip
      refine FR_ite ?_ ?_
      · skip
        exact FR_some
      · skip
        refine FR_bnd ?_
        refine FR_ite ?_ ?_
        · skip
          exact FR_some
        · skip
          exact FR_some
    · skip
      exact FR_some
theorem frX7_setTarget (k0 : Nat) (x1 : Int32) (x2 : Int32) (x3 : Int32) (σ : rS) : FR [52] σ (fX7_setTarget k0 x1 x2 x3 σ) := by
  unfold fX7_setTarget
  refine FR_bd (frX7_hasField _ _ _ _) (by decide) (fun _ _ => ?_)
  refine FR_ite ?_ ?_
  · skip
    exact FR_some
  · skip
    refine FR_bnd ?_
    refine FR_st (by simp) (fun _ => ?_)
    exact FR_some
theorem frX4_add_j39 (k0 : Nat) (x1 : Int32) (σ : rS) : FR [4, 28] σ (fX4_add_j39 k0 x1 σ) := by
  unfold fX4_add_j39
  refine FR_bnd ?_
  refine FR_st (by simp) (fun _ => ?_)
  refine FR_st (by simp) (fun _ => ?_)
  exact FR_some
theorem frX4_add (k0 : Nat) (x1 : Int32) (σ : rS) : FR [4, 28] σ (fX4_add k0 x1 σ) := by
  unfold fX4_add
  refine FR_ite ?_ ?_
  · skip
    refine FR_st (by simp) (fun _ => ?_)
    refine FR_bcp ?_
    refine FR_stR (by simp) (fun _ => ?_)
    exact FR_sub (frX4_add_j39 _ _ _) (by decide)
  · skip
    exact FR_sub (frX4_add_j39 _ _ _) (by decide)
theorem frX1_emptyWeak_j96L2 (k1 : Nat) (x2 : Int32) (x3 : Int32) (σ : rS) : FR [] σ (fX1_emptyWeak_j96L2 k1 x2 x3 σ) := by
  unfold fX1_emptyWeak_j96L2
  exact FR_some
theorem frX1_emptyWeak_j66L2 (k1 : Nat) (x2 : Int32) (x3 : Int32) (σ : rS) : FR [4, 28, 37, 52] σ (fX1_emptyWeak_j66L2 k1 x2 x3 σ) := by
  unfold fX1_emptyWeak_j66L2
  refine FR_bd (frX7_setTarget _ _ _ _ _) (by decide) (fun _ _ => ?_)
  refine FR_bnd ?_
  refine FR_bd (frX4_add _ _ _) (by decide) (fun _ _ => ?_)
  refine FR_st (by simp) (fun _ => ?_)
  exact FR_sub (frX1_emptyWeak_j96L2 _ _ _ _) (by decide)
theorem frX1_emptyWeak_L2 (k1 : Nat) (x2 : Int32) (x3 : Int32) (σ : rS) : FR [4, 28, 37, 52] σ (fX1_emptyWeak_L2 k1 x2 x3 σ) := by
  unfold fX1_emptyWeak_L2
  refine FR_ite ?_ ?_
  · skip
    refine FR_bd (frX7_target _ _ _ _) (by decide) (fun _ _ => ?_)
    refine FR_bd (frX7_isWeak _ _ _) (by decide) (fun _ _ => ?_)
    refine FR_ite ?_ ?_
    · skip
      exact FR_sub (frX1_emptyWeak_j96L2 _ _ _ _) (by decide)
    · skip
      refine FR_bnd ?_
      refine FR_ite ?_ ?_
      · skip
        refine FR_bd (frX7_isSlot _ _ _) (by decide) (fun _ _ => ?_)
        refine FR_ite ?_ ?_
        · skip
          exact FR_sub (frX1_emptyWeak_j96L2 _ _ _ _) (by decide)
        · skip
          refine FR_bnd ?_
          refine FR_ite ?_ ?_
          · skip
            exact FR_sub (frX1_emptyWeak_j66L2 _ _ _ _) (by decide)
          · skip
            refine FR_bnd ?_
            refine FR_ite ?_ ?_
            · skip
              exact FR_sub (frX1_emptyWeak_j66L2 _ _ _ _) (by decide)
            · skip
              exact FR_sub (frX1_emptyWeak_j96L2 _ _ _ _) (by decide)
      · skip
        exact FR_sub (frX1_emptyWeak_j96L2 _ _ _ _) (by decide)
  · skip
    exact FR_some
theorem frX1_emptyWeak (k1 : Nat) (x2 : Int32) (σ : rS) : FR [4, 28, 37, 52] σ (fX1_emptyWeak k1 x2 σ) := by
  unfold fX1_emptyWeak
  refine FR_bd (FR_lp (fun x σ => frX1_emptyWeak_L2 _ _ _ _) _ _ _) (by decide) (fun _ _ => ?_)
  exact FR_some
theorem frX1_lineUpLasting_j48L2 (k1 : Nat) (x2 : Int32) (σ : rS) : FR [] σ (fX1_lineUpLasting_j48L2 k1 x2 σ) := by
  unfold fX1_lineUpLasting_j48L2
  exact FR_some
theorem frX1_lineUpLasting_L2 (k1 : Nat) (x2 : Int32) (σ : rS) : FR [4, 28, 37] σ (fX1_lineUpLasting_L2 k1 x2 σ) := by
  unfold fX1_lineUpLasting_L2
  refine FR_ite ?_ ?_
  · skip
    refine FR_bnd ?_
    refine FR_ite ?_ ?_
    · skip
      refine FR_bnd ?_
      refine FR_ite ?_ ?_
      · skip
        exact FR_sub (frX1_lineUpLasting_j48L2 _ _ _) (by decide)
      · skip
        refine FR_bd (frX4_add _ _ _) (by decide) (fun _ _ => ?_)
        refine FR_st (by simp) (fun _ => ?_)
        exact FR_sub (frX1_lineUpLasting_j48L2 _ _ _) (by decide)
    · skip
      exact FR_sub (frX1_lineUpLasting_j48L2 _ _ _) (by decide)
  · skip
    exact FR_some
theorem frX1_lineUpLasting (k1 : Nat) (σ : rS) : FR [4, 28, 37] σ (fX1_lineUpLasting k1 σ) := by
  unfold fX1_lineUpLasting
  refine FR_bd (FR_lp (fun x σ => frX1_lineUpLasting_L2 _ _ _) _ _ _) (by decide) (fun _ _ => ?_)
  exact FR_some
theorem frX1_settle_j81L2 (k1 : Nat) (x2 : Int32) (σ : rS) : FR [] σ (fX1_settle_j81L2 k1 x2 σ) := by
  unfold fX1_settle_j81L2
  exact FR_some
theorem frX1_settle_L2 (k1 : Nat) (x2 : Int32) (σ : rS) : FR [37, 49, 50, 51] σ (fX1_settle_L2 k1 x2 σ) := by
  unfold fX1_settle_L2
  refine FR_ite ?_ ?_
  · skip
    refine FR_bnd ?_
    refine FR_rd (fun _ => ?_)
    refine FR_bnd ?_
    refine FR_bnd ?_
    refine FR_st (by simp) (fun _ => ?_)
    refine FR_bnd ?_
    refine FR_bnd ?_
    refine FR_st (by simp) (fun _ => ?_)
    refine FR_bnd ?_
    refine FR_bnd ?_
    refine FR_st (by simp) (fun _ => ?_)
    refine FR_st (by simp) (fun _ => ?_)
    refine FR_bnd ?_
    refine FR_ite ?_ ?_
    · skip
      refine FR_st (by simp) (fun _ => ?_)
      exact FR_sub (frX1_settle_j81L2 _ _ _) (by decide)
    · skip
      exact FR_sub (frX1_settle_j81L2 _ _ _) (by decide)
  · skip
    exact FR_some
theorem frX1_settle (k1 : Nat) (σ : rS) : FR [7, 37, 49, 50, 51, 54] σ (fX1_settle k1 σ) := by
  unfold fX1_settle
  refine FR_bd (FR_lp (fun x σ => frX1_settle_L2 _ _ _) _ _ _) (by decide) (fun _ _ => ?_)
  refine FR_st (by simp) (fun _ => ?_)
  refine FR_st (by simp) (fun _ => ?_)
  refine FR_st (by simp) (fun _ => ?_)
  refine FR_st (by simp) (fun _ => ?_)
  exact FR_some
theorem frX7_isOldToYoung (k0 : Nat) (x1 : Int32) (x2 : Int32) (σ : rS) : FR [] σ (fX7_isOldToYoung k0 x1 x2 σ) := by
  unfold fX7_isOldToYoung
  refine FR_bd (frX7_isSlot _ _ _) (by decide) (fun _ _ => ?_)
  refine FR_ite ?_ ?_
  · skip
    exact FR_some
  · skip
    refine FR_bd (frX7_isYoung _ _ _) (by decide) (fun _ _ => ?_)
    refine FR_ite ?_ ?_
    · skip
      refine FR_bd (frX7_target _ _ _ _) (by decide) (fun _ _ => ?_)
      refine FR_bd (frX7_isYoung _ _ _) (by decide) (fun _ _ => ?_)
      refine FR_ite ?_ ?_
      · skip
        exact FR_some
      · skip
        exact FR_some
    · skip
      exact FR_some
theorem frX4_set (k0 : Nat) (x1 : Int32) (x2 : Int32) (σ : rS) : FR [28] σ (fX4_set k0 x1 x2 σ) := by
  unfold fX4_set
  refine FR_ite ?_ ?_
  · skip
    exact FR_some
  · skip
    refine FR_ite ?_ ?_
    · skip
      refine FR_bnd ?_
      refine FR_st (by simp) (fun _ => ?_)
      exact FR_some
    · skip
      exact FR_some
theorem frX1_dropRemembered_j66L10 (k1 : Nat) (k2 : Nat) (x3 : Int32) (x4 : Int32) (σ : rS) : FR [] σ (fX1_dropRemembered_j66L10 k1 k2 x3 x4 σ) := by
  unfold fX1_dropRemembered_j66L10
  exact FR_some
theorem frX1_dropRemembered_L10 (k1 : Nat) (k2 : Nat) (x3 : Int32) (x4 : Int32) (σ : rS) : FR [28] σ (fX1_dropRemembered_L10 k1 k2 x3 x4 σ) := by
  unfold fX1_dropRemembered_L10
  refine FR_ite ?_ ?_
  · skip
    refine FR_bd (frX4_get _ _ _) (by decide) (fun _ _ => ?_)
    refine FR_rd (fun _ => ?_)
    refine FR_bd (frX7_isOldToYoung _ _ _ _) (by decide) (fun _ _ => ?_)
    refine FR_ite ?_ ?_
    · skip
      exact FR_sub (frX1_dropRemembered_j66L10 _ _ _ _ _) (by decide)
    · skip
      refine FR_bnd ?_
      refine FR_ite ?_ ?_
      · skip
        exact FR_sub (frX1_dropRemembered_j66L10 _ _ _ _ _) (by decide)
      · skip
        refine FR_bd (frX4_set _ _ _ _) (by decide) (fun _ _ => ?_)
        exact FR_sub (frX1_dropRemembered_j66L10 _ _ _ _ _) (by decide)
  · skip
    exact FR_some
theorem frX1_dropRemembered (k1 : Nat) (σ : rS) : FR [4, 28] σ (fX1_dropRemembered k1 σ) := by
  unfold fX1_dropRemembered
  refine FR_bd (FR_lp (fun x σ => frX1_dropRemembered_L10 _ _ _ _ _) _ _ _) (by decide) (fun _ _ => ?_)
  refine FR_st (by simp) (fun _ => ?_)
  exact FR_some
theorem frX1_rememberMoved_j53L20 (k1 : Nat) (x2 : Int32) (x3 : Int32) (x4 : Int32) (σ : rS) : FR [] σ (fX1_rememberMoved_j53L20 k1 x2 x3 x4 σ) := by
  unfold fX1_rememberMoved_j53L20
  exact FR_some
theorem frX1_rememberMoved_L20 (k1 : Nat) (x2 : Int32) (x3 : Int32) (x4 : Int32) (σ : rS) : FR [4, 28] σ (fX1_rememberMoved_L20 k1 x2 x3 x4 σ) := by
  unfold fX1_rememberMoved_L20
  refine FR_bd (frX7_fieldsOf _ _ _) (by decide) (fun _ _ => ?_)
  refine FR_ite ?_ ?_
  · skip
    refine FR_bd (frX7_isOldToYoung _ _ _ _) (by decide) (fun _ _ => ?_)
    refine FR_ite ?_ ?_
    · skip
      exact FR_sub (frX1_rememberMoved_j53L20 _ _ _ _ _) (by decide)
    · skip
      refine FR_bd (frX4_add _ _ _) (by decide) (fun _ _ => ?_)
      exact FR_sub (frX1_rememberMoved_j53L20 _ _ _ _ _) (by decide)
  · skip
    exact FR_some
theorem frX1_rememberMoved_L2 (k1 : Nat) (x2 : Int32) (σ : rS) : FR [4, 28] σ (fX1_rememberMoved_L2 k1 x2 σ) := by
  unfold fX1_rememberMoved_L2
  refine FR_ite ?_ ?_
  · skip
    refine FR_bnd ?_
    refine FR_rd (fun _ => ?_)
    refine FR_bd (FR_lp (fun x σ => frX1_rememberMoved_L20 _ _ _ _ _) _ _ _) (by decide) (fun _ _ => ?_)
    exact FR_some
  · skip
    exact FR_some
theorem frX1_rememberMoved (k1 : Nat) (σ : rS) : FR [4, 28] σ (fX1_rememberMoved k1 σ) := by
  unfold fX1_rememberMoved
  refine FR_bd (FR_lp (fun x σ => frX1_rememberMoved_L2 _ _ _) _ _ _) (by decide) (fun _ _ => ?_)
  exact FR_some
theorem frX1_nameSlotsAnew_j69L5 (k1 : Nat) (x2 : Int32) (x3 : Int32) (x4 : Int32) (σ : rS) : FR [] σ (fX1_nameSlotsAnew_j69L5 k1 x2 x3 x4 σ) := by
  unfold fX1_nameSlotsAnew_j69L5
  exact FR_some
theorem frX1_nameSlotsAnew_j37L5 (k1 : Nat) (x2 : Int32) (x3 : Int32) (x4 : Int32) (σ : rS) : FR [42] σ (fX1_nameSlotsAnew_j37L5 k1 x2 x3 x4 σ) := by
  unfold fX1_nameSlotsAnew_j37L5
  refine FR_bnd ?_
  refine FR_st (by simp) (fun _ => ?_)
  exact FR_sub (frX1_nameSlotsAnew_j69L5 _ _ _ _ _) (by decide)
theorem frX1_nameSlotsAnew_j51L5 (k1 : Nat) (x2 : Int32) (x3 : Int32) (x4 : Int32) (σ : rS) : FR [37, 42] σ (fX1_nameSlotsAnew_j51L5 k1 x2 x3 x4 σ) := by
  unfold fX1_nameSlotsAnew_j51L5
  refine FR_bnd ?_
  refine FR_st (by simp) (fun _ => ?_)
  refine FR_st (by simp) (fun _ => ?_)
  exact FR_sub (frX1_nameSlotsAnew_j69L5 _ _ _ _ _) (by decide)
theorem frX1_nameSlotsAnew_L5 (k1 : Nat) (x2 : Int32) (x3 : Int32) (x4 : Int32) (σ : rS) : FR [37, 42] σ (fX1_nameSlotsAnew_L5 k1 x2 x3 x4 σ) := by
  unfold fX1_nameSlotsAnew_L5
  refine FR_ite ?_ ?_
  · skip
    refine FR_bnd ?_
    refine FR_ite ?_ ?_
    · skip
      refine FR_ite ?_ ?_
      · skip
        exact FR_sub (frX1_nameSlotsAnew_j51L5 _ _ _ _ _) (by decide)
      · skip
        refine FR_bd (frX7_isYoung _ _ _) (by decide) (fun _ _ => ?_)
        refine FR_ite ?_ ?_
        · skip
          exact FR_sub (frX1_nameSlotsAnew_j51L5 _ _ _ _ _) (by decide)
        · skip
          exact FR_sub (frX1_nameSlotsAnew_j37L5 _ _ _ _ _) (by decide)
    · skip
      exact FR_sub (frX1_nameSlotsAnew_j37L5 _ _ _ _ _) (by decide)
  · skip
    exact FR_some
theorem frX1_nameSlotsAnew (k1 : Nat) (x2 : Int32) (σ : rS) : FR [37, 42] σ (fX1_nameSlotsAnew k1 x2 σ) := by
  unfold fX1_nameSlotsAnew
  refine FR_bd (FR_lp (fun x σ => frX1_nameSlotsAnew_L5 _ _ _ _ _) _ _ _) (by decide) (fun _ _ => ?_)
  exact FR_some
theorem frX7_renamed (x0 : Int32) (σ : rS) : FR [] σ (fX7_renamed x0 σ) := by
  unfold fX7_renamed
  refine FR_ite ?_ ?_
  · skip
    exact FR_some
  · skip
    refine FR_ite ?_ ?_
    · skip
      refine FR_bnd ?_
      exact FR_some
    · skip
      exact FR_some
theorem frX7_moveSlot_L87 (k0 : Nat) (x1 : Int32) (x2 : Int32) (x4 : Int32) (σ : rS) : FR [52] σ (fX7_moveSlot_L87 k0 x1 x2 x4 σ) := by
  unfold fX7_moveSlot_L87
  refine FR_ite ?_ ?_
  · skip
    refine FR_bnd ?_
    refine FR_bd (frX7_renamed _ _) (by decide) (fun _ _ => ?_)
    refine FR_bnd ?_
    refine FR_st (by simp) (fun _ => ?_)
    exact FR_some
  · skip
    exact FR_some
theorem frX7_moveSlot (k0 : Nat) (x1 : Int32) (x2 : Int32) (σ : rS) : FR [45, 46, 47, 48, 49, 50, 51, 52] σ (fX7_moveSlot k0 x1 x2 σ) := by
  unfold fX7_moveSlot
  refine FR_bnd ?_
  refine FR_bnd ?_
  refine FR_st (by simp) (fun _ => ?_)
  refine FR_bnd ?_
  refine FR_bnd ?_
  refine FR_st (by simp) (fun _ => ?_)
  refine FR_bnd ?_
  refine FR_bnd ?_
  refine FR_st (by simp) (fun _ => ?_)
  refine FR_bnd ?_
  refine FR_bnd ?_
  refine FR_st (by simp) (fun _ => ?_)
  refine FR_bnd ?_
  refine FR_bnd ?_
  refine FR_st (by simp) (fun _ => ?_)
  refine FR_bnd ?_
  refine FR_bnd ?_
  refine FR_st (by simp) (fun _ => ?_)
  refine FR_bnd ?_
  refine FR_bnd ?_
  refine FR_st (by simp) (fun _ => ?_)
  refine FR_bd (FR_lp (fun x σ => frX7_moveSlot_L87 _ _ _ _ _) _ _ _) (by decide) (fun _ _ => ?_)
  exact FR_some
theorem frX7_closeUp_j35L10 (k0 : Nat) (x2 : Int32) (x3 : Int32) (x4 : Int32) (σ : rS) : FR [] σ (fX7_closeUp_j35L10 k0 x2 x3 x4 σ) := by
  unfold fX7_closeUp_j35L10
  exact FR_some
theorem frX7_closeUp_L10 (k0 : Nat) (x2 : Int32) (x3 : Int32) (x4 : Int32) (σ : rS) : FR [45, 46, 47, 48, 49, 50, 51, 52] σ (fX7_closeUp_L10 k0 x2 x3 x4 σ) := by
  unfold fX7_closeUp_L10
  refine FR_ite ?_ ?_
  · skip
    refine FR_bnd ?_
    refine FR_ite ?_ ?_
    · skip
      exact FR_sub (frX7_closeUp_j35L10 _ _ _ _ _) (by decide)
    · skip
      refine FR_bd (frX7_moveSlot _ _ _ _) (by decide) (fun _ _ => ?_)
      exact FR_sub (frX7_closeUp_j35L10 _ _ _ _ _) (by decide)
  · skip
    exact FR_some
theorem frX7_closeUp_L49 (k0 : Nat) (x4 : Int32) (σ : rS) : FR [53] σ (fX7_closeUp_L49 k0 x4 σ) := by
  unfold fX7_closeUp_L49
  refine FR_ite ?_ ?_
  · skip
    refine FR_bnd ?_
    refine FR_bd (frX7_renamed _ _) (by decide) (fun _ _ => ?_)
    refine FR_bnd ?_
    refine FR_st (by simp) (fun _ => ?_)
    exact FR_some
  · skip
    exact FR_some
theorem frX7_closeUp_L83 (k0 : Nat) (x4 : Int32) (σ : rS) : FR [28] σ (fX7_closeUp_L83 k0 x4 σ) := by
  unfold fX7_closeUp_L83
  refine FR_ite ?_ ?_
  · skip
    refine FR_bd (frX4_get _ _ _) (by decide) (fun _ _ => ?_)
    refine FR_bd (frX7_renamed _ _) (by decide) (fun _ _ => ?_)
    refine FR_bd (frX4_set _ _ _ _) (by decide) (fun _ _ => ?_)
    exact FR_some
  · skip
    exact FR_some
theorem frX7_closeUp_L126 (k0 : Nat) (x4 : Int32) (σ : rS) : FR [28] σ (fX7_closeUp_L126 k0 x4 σ) := by
  unfold fX7_closeUp_L126
  refine FR_ite ?_ ?_
  · skip
    refine FR_bd (frX4_get _ _ _) (by decide) (fun _ _ => ?_)
    refine FR_bd (frX7_renamed _ _) (by decide) (fun _ _ => ?_)
    refine FR_bd (frX4_set _ _ _ _) (by decide) (fun _ _ => ?_)
    exact FR_some
  · skip
    exact FR_some
theorem frX7_closeUp (k0 : Nat) (σ : rS) : FR [7, 28, 45, 46, 47, 48, 49, 50, 51, 52, 53] σ (fX7_closeUp k0 σ) := by
  unfold fX7_closeUp
  refine FR_rd (fun _ => ?_)
  refine FR_bd (FR_lp (fun x σ => frX7_closeUp_L10 _ _ _ _ _) _ _ _) (by decide) (fun _ _ => ?_)
  refine FR_st (by simp) (fun _ => ?_)
  refine FR_bd (FR_lp (fun x σ => frX7_closeUp_L49 _ _ _) _ _ _) (by decide) (fun _ _ => ?_)
  refine FR_bd (FR_lp (fun x σ => frX7_closeUp_L83 _ _ _) _ _ _) (by decide) (fun _ _ => ?_)
  refine FR_bd (FR_lp (fun x σ => frX7_closeUp_L126 _ _ _) _ _ _) (by decide) (fun _ _ => ?_)
  exact FR_some
theorem frX1_addCounts_L2 (k1 : Nat) (x3 : Int32) (σ : rS) : FR [55] σ (fX1_addCounts_L2 k1 x3 σ) := by
  unfold fX1_addCounts_L2
  refine FR_ite ?_ ?_
  · skip
    refine FR_bnd ?_
    refine FR_bnd ?_
    refine FR_bnd ?_
    refine FR_st (by simp) (fun _ => ?_)
    exact FR_some
  · skip
    exact FR_some
theorem frX1_addCounts (k1 : Nat) (x2 : Int32) (σ : rS) : FR [55] σ (fX1_addCounts k1 x2 σ) := by
  unfold fX1_addCounts
  refine FR_bd (FR_lp (fun x σ => frX1_addCounts_L2 _ _ _) _ _ _) (by decide) (fun _ _ => ?_)
  exact FR_some
theorem frX1_collectYoung (k1 : Nat) (σ : rS) : FR [1, 4, 7, 28, 37, 38, 39, 40, 41, 42, 43, 45, 46, 47, 48, 49, 50, 51, 52, 53, 54, 55] σ (fX1_collectYoung k1 σ) := by
  unfold fX1_collectYoung
  refine FR_bd (frX1_beginPlan _ _) (by decide) (fun _ _ => ?_)
  refine FR_bd (frX1_planFromRoots _ _) (by decide) (fun _ _ => ?_)
  refine FR_bd (frX1_planFrom _ _ _ _) (by decide) (fun _ _ => ?_)
  refine FR_bd (frX1_planFromLasting _ _) (by decide) (fun _ _ => ?_)
  refine FR_ite ?_ ?_
  · skip
    refine FR_bd (frJ7_fill_53178 _ _ _ _ _) (by decide) (fun _ _ => ?_)
    refine FR_bd (frX1_emptyWeak _ _ _) (by decide) (fun _ _ => ?_)
    refine FR_bd (frX1_lineUpLasting _ _) (by decide) (fun _ _ => ?_)
    refine FR_bd (frX1_emptyWeak _ _ _) (by decide) (fun _ _ => ?_)
    refine FR_bd (frX1_settle _ _) (by decide) (fun _ _ => ?_)
    refine FR_bd (frX1_dropRemembered _ _) (by decide) (fun _ _ => ?_)
    refine FR_bd (frX1_rememberMoved _ _) (by decide) (fun _ _ => ?_)
    refine FR_bd (frX1_nameSlotsAnew _ _ _) (by decide) (fun _ _ => ?_)
    refine FR_bd (frX7_closeUp _ _) (by decide) (fun _ _ => ?_)
    refine FR_st (by simp) (fun _ => ?_)
    refine FR_bd (frX1_addCounts _ _ _) (by decide) (fun _ _ => ?_)
    exact FR_some
  · skip
    exact FR_some
theorem frX4_copyFrom (k0 : Nat) (k1 : Nat) (σ : rS) : FR [4, 28] σ (fX4_copyFrom k0 k1 σ) := by
  unfold fX4_copyFrom
  refine FR_st (by simp) (fun _ => ?_)
  refine FR_bcp ?_
  refine FR_stR (by simp) (fun _ => ?_)
  exact FR_some
theorem frX7_copyFrom (k0 : Nat) (k1 : Nat) (σ : rS) : FR [4, 7, 28, 45, 46, 47, 48, 49, 50, 51, 52, 53, 54, 55] σ (fX7_copyFrom k0 k1 σ) := by
  unfold fX7_copyFrom
  refine FR_st (by simp) (fun _ => ?_)
  refine FR_st (by simp) (fun _ => ?_)
  refine FR_bcp ?_
  refine FR_stR (by simp) (fun _ => ?_)
  refine FR_bcp ?_
  refine FR_stR (by simp) (fun _ => ?_)
  refine FR_bcp ?_
  refine FR_stR (by simp) (fun _ => ?_)
  refine FR_bcp ?_
  refine FR_stR (by simp) (fun _ => ?_)
  refine FR_bcp ?_
  refine FR_stR (by simp) (fun _ => ?_)
  refine FR_bcp ?_
  refine FR_stR (by simp) (fun _ => ?_)
  refine FR_bcp ?_
  refine FR_stR (by simp) (fun _ => ?_)
  refine FR_bcp ?_
  refine FR_stR (by simp) (fun _ => ?_)
  refine FR_bcp ?_
  refine FR_stR (by simp) (fun _ => ?_)
  refine FR_bcp ?_
  refine FR_stR (by simp) (fun _ => ?_)
  refine FR_bcp ?_
  refine FR_stR (by simp) (fun _ => ?_)
  refine FR_bd (frX4_copyFrom _ _ _) (by decide) (fun _ _ => ?_)
  refine FR_bd (frX4_copyFrom _ _ _) (by decide) (fun _ _ => ?_)
  refine FR_bd (frX4_copyFrom _ _ _) (by decide) (fun _ _ => ?_)
  refine FR_bd (frX4_copyFrom _ _ _) (by decide) (fun _ _ => ?_)
  refine FR_bd (frX4_copyFrom _ _ _) (by decide) (fun _ _ => ?_)
  refine FR_bd (frX4_copyFrom _ _ _) (by decide) (fun _ _ => ?_)
  exact FR_some
theorem frX3_begin  (σ : rS) : FR [3, 30] σ (fX3_begin  σ) := by
  unfold fX3_begin
  refine FR_bd (frJ7_fill_53178 _ _ _ _ _) (by decide) (fun _ _ => ?_)
  refine FR_st (by simp) (fun _ => ?_)
  exact FR_some
theorem frX3_visit_j58 (x1 : Int32) (x2 : Int32) (x3 : Int32) (z0 : Int32) (z1 : Int32) (σ : rS) : FR [3, 31, 32, 33, 34] σ (fX3_visit_j58 x1 x2 x3 z0 z1 σ) := by
  unfold fX3_visit_j58
  refine FR_bnd ?_
  refine FR_st (by simp) (fun _ => ?_)
  refine FR_bnd ?_
  refine FR_st (by simp) (fun _ => ?_)
  refine FR_bnd ?_
  refine FR_st (by simp) (fun _ => ?_)
  refine FR_bnd ?_
  refine FR_st (by simp) (fun _ => ?_)
  refine FR_st (by simp) (fun _ => ?_)
  exact FR_some
theorem frX3_visit (x1 : Int32) (x2 : Int32) (x3 : Int32) (σ : rS) : FR [3, 30, 31, 32, 33, 34] σ (fX3_visit x1 x2 x3 σ) := by
  unfold fX3_visit
  refine FR_ite ?_ ?_
  · skip
    exact FR_some
  · skip
    refine FR_ite ?_ ?_
    · skip
      refine FR_bnd ?_
      refine FR_ite ?_ ?_
      · skip
        refine FR_ite ?_ ?_
        · skip
          refine FR_bnd ?_
          refine FR_st (by simp) (fun _ => ?_)
          refine FR_ite ?_ ?_
          · skip
            exact FR_sub (frX3_visit_j58 _ _ _ _ _ _) (by decide)
          · skip
            refine FR_bnd ?_
            exact FR_sub (frX3_visit_j58 _ _ _ _ _ _) (by decide)
        · skip
          exact FR_some
      · skip
        exact FR_some
    · skip
      exact FR_some
theorem frX3_spread_L32 (k1 : Nat) (x3 : Int32) (x4 : Int32) (x5 : Int32) (σ : rS) : FR [3, 30, 31, 32, 33, 34] σ (fX3_spread_L32 k1 x3 x4 x5 σ) := by
  unfold fX3_spread_L32
  refine FR_bd (frX7_fieldsOf _ _ _) (by decide) (fun _ _ => ?_)
  refine FR_ite ?_ ?_
  · skip
    refine FR_bd (frX7_target _ _ _ _) (by decide) (fun _ _ => ?_)
    refine FR_bd (frX3_visit _ _ _ _) (by decide) (fun _ _ => ?_)
    exact FR_some
  · skip
    exact FR_some
theorem frX3_spread_L2 (k1 : Nat) (x3 : Int32) (σ : rS) : FR [3, 30, 31, 32, 33, 34] σ (fX3_spread_L2 k1 x3 σ) := by
  unfold fX3_spread_L2
  refine FR_ite ?_ ?_
  · skip
    refine FR_ite ?_ ?_
    · skip
      refine FR_bnd ?_
      refine FR_rd (fun _ => ?_)
      refine FR_bd (frX7_firstStrong _ _ _) (by decide) (fun _ _ => ?_)
      refine FR_bd (FR_lp (fun x σ => frX3_spread_L32 _ _ _ _ _) _ _ _) (by decide) (fun _ _ => ?_)
      exact FR_some
    · skip
      exact FR_some
  · skip
    exact FR_some
theorem frX3_spread (k1 : Nat) (x2 : Int32) (σ : rS) : FR [3, 30, 31, 32, 33, 34] σ (fX3_spread k1 x2 σ) := by
  unfold fX3_spread
  refine FR_bd (FR_lp (fun x σ => frX3_spread_L2 _ _ _) _ _ _) (by decide) (fun _ _ => ?_)
  exact FR_some
theorem frX3_reach_j29L6 (k1 : Nat) (x2 : Int32) (x3 : Int32) (σ : rS) : FR [] σ (fX3_reach_j29L6 k1 x2 x3 σ) := by
  unfold fX3_reach_j29L6
  exact FR_some
theorem frX3_reach_L6 (k1 : Nat) (x2 : Int32) (x3 : Int32) (σ : rS) : FR [3, 30, 31, 32, 33, 34] σ (fX3_reach_L6 k1 x2 x3 σ) := by
  unfold fX3_reach_L6
  refine FR_ite ?_ ?_
  · skip
    refine FR_ite ?_ ?_
    · skip
      exact FR_sub (frX3_reach_j29L6 _ _ _ _) (by decide)
    · skip
      refine FR_bnd ?_
      refine FR_bd (frX3_visit _ _ _ _) (by decide) (fun _ _ => ?_)
      exact FR_sub (frX3_reach_j29L6 _ _ _ _) (by decide)
  · skip
    exact FR_some
theorem frX3_reach_L37 (k1 : Nat) (x3 : Int32) (σ : rS) : FR [3, 30, 31, 32, 33, 34] σ (fX3_reach_L37 k1 x3 σ) := by
  unfold fX3_reach_L37
  refine FR_ite ?_ ?_
  · skip
    refine FR_bd (frX4_get _ _ _) (by decide) (fun _ _ => ?_)
    refine FR_bd (frX3_visit _ _ _ _) (by decide) (fun _ _ => ?_)
    exact FR_some
  · skip
    exact FR_some
theorem frX3_reach (k1 : Nat) (x2 : Int32) (σ : rS) : FR [3, 30, 31, 32, 33, 34] σ (fX3_reach k1 x2 σ) := by
  unfold fX3_reach
  refine FR_bd (frX3_begin _) (by decide) (fun _ _ => ?_)
  refine FR_bd (FR_lp (fun x σ => frX3_reach_L6 _ _ _ _) _ _ _) (by decide) (fun _ _ => ?_)
  refine FR_bd (FR_lp (fun x σ => frX3_reach_L37 _ _ _) _ _ _) (by decide) (fun _ _ => ?_)
  refine FR_bd (frX3_spread _ _ _) (by decide) (fun _ _ => ?_)
  exact FR_some
theorem frX3_isSeen (x1 : Int32) (σ : rS) : FR [] σ (fX3_isSeen x1 σ) := by
  unfold fX3_isSeen
  refine FR_ite ?_ ?_
  · skip
    exact FR_some
  · skip
    refine FR_ite ?_ ?_
    · skip
      refine FR_bnd ?_
      refine FR_ite ?_ ?_
      · skip
        exact FR_some
      · skip
        exact FR_some
    · skip
      exact FR_some
theorem frX1_stageByMarks_j31L2 (k1 : Nat) (x2 : Int32) (z0 : Int32) (z1 : Int32) (σ : rS) : FR [38] σ (fX1_stageByMarks_j31L2 k1 x2 z0 z1 σ) := by
  unfold fX1_stageByMarks_j31L2
  refine FR_bnd ?_
  refine FR_st (by simp) (fun _ => ?_)
  exact FR_some
theorem frX1_stageByMarks_L2 (k1 : Nat) (x2 : Int32) (σ : rS) : FR [38] σ (fX1_stageByMarks_L2 k1 x2 σ) := by
  unfold fX1_stageByMarks_L2
  refine FR_ite ?_ ?_
  · skip
    refine FR_bd (frX3_isSeen _ _) (by decide) (fun _ _ => ?_)
    refine FR_ite ?_ ?_
    · skip
      exact FR_sub (frX1_stageByMarks_j31L2 _ _ _ _ _) (by decide)
    · skip
      exact FR_sub (frX1_stageByMarks_j31L2 _ _ _ _ _) (by decide)
  · skip
    exact FR_some
theorem frX1_stageByMarks (k1 : Nat) (σ : rS) : FR [38] σ (fX1_stageByMarks k1 σ) := by
  unfold fX1_stageByMarks
  refine FR_bd (FR_lp (fun x σ => frX1_stageByMarks_L2 _ _ _) _ _ _) (by decide) (fun _ _ => ?_)
  exact FR_some
theorem frX1_markLasting_j38L10 (k1 : Nat) (x2 : Int32) (x3 : Int32) (σ : rS) : FR [] σ (fX1_markLasting_j38L10 k1 x2 x3 σ) := by
  unfold fX1_markLasting_j38L10
  exact FR_some
theorem frX1_markLasting_L10 (k1 : Nat) (x2 : Int32) (x3 : Int32) (σ : rS) : FR [3, 30, 31, 32, 33, 34] σ (fX1_markLasting_L10 k1 x2 x3 σ) := by
  unfold fX1_markLasting_L10
  refine FR_ite ?_ ?_
  · skip
    refine FR_bnd ?_
    refine FR_ite ?_ ?_
    · skip
      refine FR_bd (frX3_visit _ _ _ _) (by decide) (fun _ _ => ?_)
      exact FR_sub (frX1_markLasting_j38L10 _ _ _ _) (by decide)
    · skip
      exact FR_sub (frX1_markLasting_j38L10 _ _ _ _) (by decide)
  · skip
    exact FR_some
theorem frX1_markLasting_L55 (x3 : Int32) (σ : rS) : FR [38] σ (fX1_markLasting_L55 x3 σ) := by
  unfold fX1_markLasting_L55
  refine FR_ite ?_ ?_
  · skip
    refine FR_bnd ?_
    refine FR_bnd ?_
    refine FR_st (by simp) (fun _ => ?_)
    exact FR_some
  · skip
    exact FR_some
theorem frX1_markLasting (k1 : Nat) (σ : rS) : FR [3, 30, 31, 32, 33, 34, 38] σ (fX1_markLasting k1 σ) := by
  unfold fX1_markLasting
  refine FR_rd (fun _ => ?_)
  refine FR_bd (FR_lp (fun x σ => frX1_markLasting_L10 _ _ _ _) _ _ _) (by decide) (fun _ _ => ?_)
  refine FR_bd (frX3_spread _ _ _) (by decide) (fun _ _ => ?_)
  refine FR_bd (FR_lp (fun x σ => frX1_markLasting_L55 _ _) _ _ _) (by decide) (fun _ _ => ?_)
  exact FR_some
theorem frX7_cells (k0 : Nat) (x1 : Int32) (σ : rS) : FR [] σ (fX7_cells k0 x1 σ) := by
  unfold fX7_cells
  refine FR_ite ?_ ?_
  · skip
    exact FR_some
  · skip
    refine FR_ite ?_ ?_
    · skip
      refine FR_bnd ?_
      exact FR_some
    · skip
      exact FR_some
theorem frX1_pushTogether_j60L10 (k1 : Nat) (x2 : Int32) (σ : rS) : FR [] σ (fX1_pushTogether_j60L10 k1 x2 σ) := by
  unfold fX1_pushTogether_j60L10
  exact FR_some
theorem frX1_pushTogether_L10 (k1 : Nat) (x2 : Int32) (σ : rS) : FR [44] σ (fX1_pushTogether_L10 k1 x2 σ) := by
  unfold fX1_pushTogether_L10
  refine FR_ite ?_ ?_
  · skip
    refine FR_bnd ?_
    refine FR_rd (fun _ => ?_)
    refine FR_bd (frX7_isYoung _ _ _) (by decide) (fun _ _ => ?_)
    refine FR_ite ?_ ?_
    · skip
      refine FR_bnd ?_
      refine FR_ite ?_ ?_
      · skip
        exact FR_sub (frX1_pushTogether_j60L10 _ _ _) (by decide)
      · skip
        refine FR_ite ?_ ?_
        · skip
          exact FR_sub (frX1_pushTogether_j60L10 _ _ _) (by decide)
        · skip
          refine FR_ite ?_ ?_
          · skip
            refine FR_bnd ?_
            refine FR_st (by simp) (fun _ => ?_)
            exact FR_sub (frX1_pushTogether_j60L10 _ _ _) (by decide)
          · skip
            exact FR_sub (frX1_pushTogether_j60L10 _ _ _) (by decide)
    · skip
      exact FR_sub (frX1_pushTogether_j60L10 _ _ _) (by decide)
  · skip
    exact FR_some
theorem frX1_pushTogether_j127L70 (k1 : Nat) (x2 : Int32) (x3 : Int32) (σ : rS) : FR [] σ (fX1_pushTogether_j127L70 k1 x2 x3 σ) := by
  unfold fX1_pushTogether_j127L70
  exact FR_some
theorem frX1_pushTogether_j108L70 (k1 : Nat) (x2 : Int32) (x3 : Int32) (x4 : Int32) (z0 : Int32) (z1 : Int32) (z2 : Int32) (σ : rS) : FR [37, 51] σ (fX1_pushTogether_j108L70 k1 x2 x3 x4 z0 z1 z2 σ) := by
  unfold fX1_pushTogether_j108L70
  refine FR_bnd ?_
  refine FR_st (by simp) (fun _ => ?_)
  refine FR_bnd ?_
  refine FR_st (by simp) (fun _ => ?_)
  refine FR_bd (frX7_cells _ _ _) (by decide) (fun _ _ => ?_)
  refine FR_rd (fun _ => ?_)
  exact FR_sub (frX1_pushTogether_j127L70 _ _ _ _) (by decide)
theorem frX1_pushTogether_L70 (k1 : Nat) (x2 : Int32) (x3 : Int32) (σ : rS) : FR [37, 51] σ (fX1_pushTogether_L70 k1 x2 x3 σ) := by
  unfold fX1_pushTogether_L70
  refine FR_ite ?_ ?_
  · skip
    refine FR_bnd ?_
    refine FR_rd (fun _ => ?_)
    refine FR_ite ?_ ?_
    · skip
      exact FR_sub (frX1_pushTogether_j127L70 _ _ _ _) (by decide)
    · skip
      refine FR_ite ?_ ?_
      · skip
        exact FR_sub (frX1_pushTogether_j108L70 _ _ _ _ _ _ _ _) (by decide)
      · skip
        exact FR_sub (frX1_pushTogether_j108L70 _ _ _ _ _ _ _ _) (by decide)
  · skip
    exact FR_some
theorem frX1_pushTogether (k1 : Nat) (σ : rS) : FR [37, 44, 51, 54] σ (fX1_pushTogether k1 σ) := by
  unfold fX1_pushTogether
  refine FR_bd (frJ7_fill_53178 _ _ _ _ _) (by decide) (fun _ _ => ?_)
  refine FR_bd (FR_lp (fun x σ => frX1_pushTogether_L10 _ _ _) _ _ _) (by decide) (fun _ _ => ?_)
  refine FR_bd (FR_lp (fun x σ => frX1_pushTogether_L70 _ _ _ _) _ _ _) (by decide) (fun _ _ => ?_)
  refine FR_st (by simp) (fun _ => ?_)
  exact FR_some
theorem frX1_unlinkUnkeptYoung_j51L2 (k1 : Nat) (x2 : Int32) (σ : rS) : FR [] σ (fX1_unlinkUnkeptYoung_j51L2 k1 x2 σ) := by
  unfold fX1_unlinkUnkeptYoung_j51L2
  exact FR_some
theorem frX1_unlinkUnkeptYoung_L29 (k1 : Nat) (x2 : Int32) (x3 : Int32) (σ : rS) : FR [52] σ (fX1_unlinkUnkeptYoung_L29 k1 x2 x3 σ) := by
  unfold fX1_unlinkUnkeptYoung_L29
  refine FR_bd (frX7_fieldsOf _ _ _) (by decide) (fun _ _ => ?_)
  refine FR_ite ?_ ?_
  · skip
    refine FR_bd (frX7_setTarget _ _ _ _ _) (by decide) (fun _ _ => ?_)
    exact FR_some
  · skip
    exact FR_some
theorem frX1_unlinkUnkeptYoung_L2 (k1 : Nat) (x2 : Int32) (σ : rS) : FR [52] σ (fX1_unlinkUnkeptYoung_L2 k1 x2 σ) := by
  unfold fX1_unlinkUnkeptYoung_L2
  refine FR_ite ?_ ?_
  · skip
    refine FR_bd (frX7_isYoung _ _ _) (by decide) (fun _ _ => ?_)
    refine FR_ite ?_ ?_
    · skip
      exact FR_sub (frX1_unlinkUnkeptYoung_j51L2 _ _ _) (by decide)
    · skip
      refine FR_bnd ?_
      refine FR_ite ?_ ?_
      · skip
        refine FR_bd (FR_lp (fun x σ => frX1_unlinkUnkeptYoung_L29 _ _ _ _) _ _ _) (by decide) (fun _ _ => ?_)
        exact FR_sub (frX1_unlinkUnkeptYoung_j51L2 _ _ _) (by decide)
      · skip
        exact FR_sub (frX1_unlinkUnkeptYoung_j51L2 _ _ _) (by decide)
  · skip
    exact FR_some
theorem frX1_unlinkUnkeptYoung (k1 : Nat) (σ : rS) : FR [52] σ (fX1_unlinkUnkeptYoung k1 σ) := by
  unfold fX1_unlinkUnkeptYoung
  refine FR_bd (FR_lp (fun x σ => frX1_unlinkUnkeptYoung_L2 _ _ _) _ _ _) (by decide) (fun _ _ => ?_)
  exact FR_some
theorem frX1_collectAll (k1 : Nat) (σ : rS) : FR [3, 4, 7, 28, 30, 31, 32, 33, 34, 37, 38, 42, 44, 45, 46, 47, 48, 49, 50, 51, 52, 53, 54, 55] σ (fX1_collectAll k1 σ) := by
  unfold fX1_collectAll
  refine FR_bd (frJ7_fill_53178 _ _ _ _ _) (by decide) (fun _ _ => ?_)
  refine FR_bd (frX3_reach _ _ _) (by decide) (fun _ _ => ?_)
  refine FR_bd (frX1_stageByMarks _ _) (by decide) (fun _ _ => ?_)
  refine FR_bd (frX1_markLasting _ _) (by decide) (fun _ _ => ?_)
  refine FR_bd (frX1_emptyWeak _ _ _) (by decide) (fun _ _ => ?_)
  refine FR_bd (frX1_lineUpLasting _ _) (by decide) (fun _ _ => ?_)
  refine FR_bd (frX1_emptyWeak _ _ _) (by decide) (fun _ _ => ?_)
  refine FR_bd (frX1_pushTogether _ _) (by decide) (fun _ _ => ?_)
  refine FR_bd (frX1_unlinkUnkeptYoung _ _) (by decide) (fun _ _ => ?_)
  refine FR_bd (frX1_dropRemembered _ _) (by decide) (fun _ _ => ?_)
  refine FR_bd (frX1_nameSlotsAnew _ _ _) (by decide) (fun _ _ => ?_)
  refine FR_bd (frX7_closeUp _ _) (by decide) (fun _ _ => ?_)
  refine FR_st (by simp) (fun _ => ?_)
  refine FR_bd (frX1_addCounts _ _ _) (by decide) (fun _ _ => ?_)
  exact FR_some
theorem frJ7_rangeCheck_23922 (x0 : Int32) (x1 : Int32) (x2 : Int32) (σ : rS) : FR [] σ (fJ7_rangeCheck_23922 x0 x1 x2 σ) := by
  unfold fJ7_rangeCheck_23922
  refine FR_ite ?_ ?_
  · skip
    exact FR_none
  · skip
    refine FR_ite ?_ ?_
    · skip
      exact FR_none
    · skip
      refine FR_ite ?_ ?_
      · skip
        exact FR_none
      · skip
        exact FR_some
theorem frJ7_fill_fda19_L10 (c0 k0 n0 : Nat) (x2 : Int32) (x3 : Int32) (x4 : Int32) (σ : rS) : FR [c0] σ (fJ7_fill_fda19_L10 c0 k0 n0 x2 x3 x4 σ) := by
  unfold fJ7_fill_fda19_L10
  refine FR_ite ?_ ?_
  · skip
    refine FR_bnd ?_
    refine FR_st (by simp) (fun _ => ?_)
    exact FR_some
  · skip
    exact FR_some
theorem frJ7_fill_fda19 (c0 k0 n0 : Nat) (x1 : Int32) (x2 : Int32) (x3 : Int32) (σ : rS) : FR [c0] σ (fJ7_fill_fda19 c0 k0 n0 x1 x2 x3 σ) := by
  unfold fJ7_fill_fda19
  refine FR_bd (frJ7_rangeCheck_23922 _ _ _ _) (by simp) (fun _ _ => ?_)
  refine FR_bd (FR_lp (fun x σ => frJ7_fill_fda19_L10 _ _ _ _ _ _ _) _ _ _) (by simp) (fun _ _ => ?_)
  exact FR_some
theorem frX7_addObject (k0 : Nat) (x1 : Int32) (x2 : Int32) (x3 : Int32) (σ : rS) : FR [7, 45, 46, 47, 48, 49, 50, 51, 52, 54, 55] σ (fX7_addObject k0 x1 x2 x3 σ) := by
  unfold fX7_addObject
  refine FR_ite ?_ ?_
  · skip
    refine FR_rd (fun _ => ?_)
    refine FR_st (by simp) (fun _ => ?_)
    refine FR_st (by simp) (fun _ => ?_)
    refine FR_bnd ?_
    refine FR_st (by simp) (fun _ => ?_)
    refine FR_bnd ?_
    refine FR_st (by simp) (fun _ => ?_)
    refine FR_bnd ?_
    refine FR_st (by simp) (fun _ => ?_)
    refine FR_bnd ?_
    refine FR_st (by simp) (fun _ => ?_)
    refine FR_bnd ?_
    refine FR_st (by simp) (fun _ => ?_)
    refine FR_bnd ?_
    refine FR_st (by simp) (fun _ => ?_)
    refine FR_bnd ?_
    refine FR_st (by simp) (fun _ => ?_)
    refine FR_bd (frX7_cells _ _ _) (by decide) (fun _ _ => ?_)
    refine FR_st (by simp) (fun _ => ?_)
    refine FR_bd (frJ7_fill_fda19 _ _ _ _ _ _ _) (by decide) (fun _ _ => ?_)
    exact FR_some
  · skip
    exact FR_some
theorem frX7_numberOf (k0 : Nat) (x1 : Int32) (σ : rS) : FR [] σ (fX7_numberOf k0 x1 σ) := by
  unfold fX7_numberOf
  refine FR_bd (frX7_isSlot _ _ _) (by decide) (fun _ _ => ?_)
  refine FR_ite ?_ ?_
  · skip
    exact FR_some
  · skip
    refine FR_bnd ?_
    exact FR_some
theorem frX7_cellsInUse (k0 : Nat) (σ : rS) : FR [] σ (fX7_cellsInUse k0 σ) := by
  unfold fX7_cellsInUse
  exact FR_some
theorem frX7_note (k0 : Nat) (x1 : Int32) (x2 : Int32) (σ : rS) : FR [4, 28] σ (fX7_note k0 x1 x2 σ) := by
  unfold fX7_note
  refine FR_bd (frX4_add _ _ _) (by decide) (fun _ _ => ?_)
  refine FR_bd (frX4_add _ _ _) (by decide) (fun _ _ => ?_)
  refine FR_bd (frX7_cellsInUse _ _) (by decide) (fun _ _ => ?_)
  refine FR_bd (frX4_add _ _ _) (by decide) (fun _ _ => ?_)
  exact FR_some
theorem frX0_makeObject_j136 (k1 : Nat) (x2 : Int32) (x3 : Int32) (x4 : Int32) (x5 : Int32) (σ : rS) : FR [4, 7, 28, 45, 46, 47, 48, 49, 50, 51, 52, 53, 54, 55] σ (fX0_makeObject_j136 k1 x2 x3 x4 x5 σ) := by
  unfold fX0_makeObject_j136
  refine FR_bd (frX7_addObject _ _ _ _ _) (by decide) (fun _ _ => ?_)
  refine FR_bnd ?_
  refine FR_st (by simp) (fun _ => ?_)
  refine FR_bd (frX7_numberOf _ _ _) (by decide) (fun _ _ => ?_)
  refine FR_bd (frX7_note _ _ _ _) (by decide) (fun _ _ => ?_)
  refine FR_bd (frX7_numberOf _ _ _) (by decide) (fun _ _ => ?_)
  exact FR_some
theorem frX0_makeObject_j80 (k1 : Nat) (x2 : Int32) (x3 : Int32) (x4 : Int32) (x5 : Int32) (z0 : Int32) (σ : rS) : FR [1, 3, 4, 7, 28, 30, 31, 32, 33, 34, 37, 38, 39, 40, 41, 42, 43, 44, 45, 46, 47, 48, 49, 50, 51, 52, 53, 54, 55] σ (fX0_makeObject_j80 k1 x2 x3 x4 x5 z0 σ) := by
  unfold fX0_makeObject_j80
  refine FR_ite ?_ ?_
  · skip
    refine FR_bd (frX1_collectYoung _ _) (by decide) (fun _ _ => ?_)
    refine FR_ite ?_ ?_
    · skip
      refine FR_bd (frX7_copyFrom _ _ _) (by decide) (fun _ _ => ?_)
      refine FR_bd (frX1_collectAll _ _) (by decide) (fun _ _ => ?_)
      refine FR_bd (frX1_collectYoung _ _) (by decide) (fun _ _ => ?_)
      refine FR_ite ?_ ?_
      · skip
        refine FR_bd (frX7_copyFrom _ _ _) (by decide) (fun _ _ => ?_)
        exact FR_some
      · skip
        exact FR_sub (frX0_makeObject_j136 _ _ _ _ _ _) (by decide)
    · skip
      exact FR_sub (frX0_makeObject_j136 _ _ _ _ _ _) (by decide)
  · skip
    exact FR_sub (frX0_makeObject_j136 _ _ _ _ _ _) (by decide)
theorem frX0_makeObject_j55 (k1 : Nat) (x2 : Int32) (x3 : Int32) (x4 : Int32) (x5 : Int32) (σ : rS) : FR [1, 3, 4, 7, 28, 30, 31, 32, 33, 34, 37, 38, 39, 40, 41, 42, 43, 44, 45, 46, 47, 48, 49, 50, 51, 52, 53, 54, 55] σ (fX0_makeObject_j55 k1 x2 x3 x4 x5 σ) := by
  unfold fX0_makeObject_j55
  refine FR_ite ?_ ?_
  · skip
    exact FR_sub (frX0_makeObject_j80 _ _ _ _ _ _ _) (by decide)
  · skip
    exact FR_sub (frX0_makeObject_j80 _ _ _ _ _ _ _) (by decide)
theorem frX0_makeObject (k1 : Nat) (x2 : Int32) (x3 : Int32) (x4 : Int32) (x5 : Int32) (σ : rS) : FR [1, 3, 4, 7, 28, 30, 31, 32, 33, 34, 37, 38, 39, 40, 41, 42, 43, 44, 45, 46, 47, 48, 49, 50, 51, 52, 53, 54, 55] σ (fX0_makeObject k1 x2 x3 x4 x5 σ) := by
  unfold fX0_makeObject
  refine FR_bd (frX9_isRoot _ _) (by decide) (fun _ _ => ?_)
  refine FR_ite ?_ ?_
  · skip
    exact FR_some
  · skip
    refine FR_ite ?_ ?_
    · skip
      exact FR_some
    · skip
      refine FR_ite ?_ ?_
      · skip
        exact FR_some
      · skip
        refine FR_ite ?_ ?_
        · skip
          exact FR_some
        · skip
          refine FR_ite ?_ ?_
          · skip
            exact FR_some
          · skip
            refine FR_ite ?_ ?_
            · skip
              exact FR_some
            · skip
              refine FR_ite ?_ ?_
              · skip
                exact FR_some
              · skip
                refine FR_ite ?_ ?_
                · skip
                  refine FR_ite ?_ ?_
                  · skip
                    exact FR_some
                  · skip
                    exact FR_sub (frX0_makeObject_j55 _ _ _ _ _ _) (by decide)
                · skip
                  exact FR_sub (frX0_makeObject_j55 _ _ _ _ _ _) (by decide)
theorem frX0_isLinkedRoot (k0 : Nat) (x1 : Int32) (σ : rS) : FR [] σ (fX0_isLinkedRoot k0 x1 σ) := by
  unfold fX0_isLinkedRoot
  refine FR_bd (frX9_isRoot _ _) (by decide) (fun _ _ => ?_)
  refine FR_ite ?_ ?_
  · skip
    exact FR_some
  · skip
    refine FR_bnd ?_
    refine FR_ite ?_ ?_
    · skip
      exact FR_some
    · skip
      exact FR_some
theorem frX4_find_L2 (k0 : Nat) (x1 : Int32) (x2 : Int32) (σ : rS) : FR [] σ (fX4_find_L2 k0 x1 x2 σ) := by
  unfold fX4_find_L2
  refine FR_ite ?_ ?_
  · skip
    refine FR_bnd ?_
    refine FR_ite ?_ ?_
    · skip
      exact FR_some
    · skip
      exact FR_some
  · skip
    exact FR_some
theorem frX4_find (k0 : Nat) (x1 : Int32) (σ : rS) : FR [] σ (fX4_find k0 x1 σ) := by
  unfold fX4_find
  refine FR_bd (FR_lp (fun x σ => frX4_find_L2 _ _ _ _) _ _ _) (by decide) (fun _ _ => ?_)
  split
  · skip
    exact FR_some
  · skip
    exact FR_some
theorem frX4_removeAt (k0 : Nat) (x1 : Int32) (σ : rS) : FR [4, 28] σ (fX4_removeAt k0 x1 σ) := by
  unfold fX4_removeAt
  refine FR_ite ?_ ?_
  · skip
    exact FR_some
  · skip
    refine FR_ite ?_ ?_
    · skip
      refine FR_st (by simp) (fun _ => ?_)
      refine FR_bcp ?_
      refine FR_stR (by simp) (fun _ => ?_)
      exact FR_some
    · skip
      exact FR_some
theorem frX7_refreshRemembered_j46 (k0 : Nat) (x4 : Int32) (x5 : Int32) (σ : rS) : FR [4, 28] σ (fX7_refreshRemembered_j46 k0 x4 x5 σ) := by
  unfold fX7_refreshRemembered_j46
  refine FR_ite ?_ ?_
  · skip
    refine FR_ite ?_ ?_
    · skip
      exact FR_some
    · skip
      refine FR_bd (frX4_removeAt _ _ _) (by decide) (fun _ _ => ?_)
      exact FR_some
  · skip
    exact FR_some
theorem frX7_refreshRemembered (k0 : Nat) (x1 : Int32) (x2 : Int32) (σ : rS) : FR [4, 28] σ (fX7_refreshRemembered k0 x1 x2 σ) := by
  unfold fX7_refreshRemembered
  refine FR_rd (fun _ => ?_)
  refine FR_bd (frX4_find _ _ _) (by decide) (fun _ _ => ?_)
  refine FR_bd (frX7_isOldToYoung _ _ _ _) (by decide) (fun _ _ => ?_)
  refine FR_ite ?_ ?_
  · skip
    exact FR_sub (frX7_refreshRemembered_j46 _ _ _ _) (by decide)
  · skip
    refine FR_ite ?_ ?_
    · skip
      refine FR_bd (frX4_add _ _ _) (by decide) (fun _ _ => ?_)
      exact FR_some
    · skip
      exact FR_sub (frX7_refreshRemembered_j46 _ _ _ _) (by decide)
theorem frX0_linkField_j74 (k1 : Nat) (x3 : Int32) (x5 : Int32) (x6 : Int32) (z0 : Int32) (σ : rS) : FR [4, 28, 52] σ (fX0_linkField_j74 k1 x3 x5 x6 z0 σ) := by
  unfold fX0_linkField_j74
  refine FR_ite ?_ ?_
  · skip
    exact FR_some
  · skip
    refine FR_bd (frX7_setTarget _ _ _ _ _) (by decide) (fun _ _ => ?_)
    refine FR_bd (frX7_refreshRemembered _ _ _ _) (by decide) (fun _ _ => ?_)
    refine FR_bnd ?_
    refine FR_bd (frX7_note _ _ _ _) (by decide) (fun _ _ => ?_)
    refine FR_bd (frX7_numberOf _ _ _) (by decide) (fun _ _ => ?_)
    exact FR_some
theorem frX0_linkField_j26 (k1 : Nat) (x2 : Int32) (x3 : Int32) (x4 : Int32) (σ : rS) : FR [4, 28, 52] σ (fX0_linkField_j26 k1 x2 x3 x4 σ) := by
  unfold fX0_linkField_j26
  refine FR_bnd ?_
  refine FR_rd (fun _ => ?_)
  refine FR_bd (frX7_hasField _ _ _ _) (by decide) (fun _ _ => ?_)
  refine FR_ite ?_ ?_
  · skip
    exact FR_some
  · skip
    refine FR_bd (frX7_target _ _ _ _) (by decide) (fun _ _ => ?_)
    refine FR_ite ?_ ?_
    · skip
      exact FR_sub (frX0_linkField_j74 _ _ _ _ _ _) (by decide)
    · skip
      refine FR_bnd ?_
      exact FR_sub (frX0_linkField_j74 _ _ _ _ _ _) (by decide)
theorem frX0_linkField (k1 : Nat) (x2 : Int32) (x3 : Int32) (x4 : Int32) (σ : rS) : FR [4, 28, 52] σ (fX0_linkField k1 x2 x3 x4 σ) := by
  unfold fX0_linkField
  refine FR_bd (frX0_isLinkedRoot _ _ _) (by decide) (fun _ _ => ?_)
  refine FR_ite ?_ ?_
  · skip
    exact FR_some
  · skip
    refine FR_ite ?_ ?_
    · skip
      exact FR_sub (frX0_linkField_j26 _ _ _ _ _) (by decide)
    · skip
      refine FR_bd (frX0_isLinkedRoot _ _ _) (by decide) (fun _ _ => ?_)
      refine FR_ite ?_ ?_
      · skip
        exact FR_some
      · skip
        exact FR_sub (frX0_linkField_j26 _ _ _ _ _) (by decide)
theorem frX0_loadRoot (k1 : Nat) (x2 : Int32) (x3 : Int32) (x4 : Int32) (σ : rS) : FR [4, 28, 53] σ (fX0_loadRoot k1 x2 x3 x4 σ) := by
  unfold fX0_loadRoot
  refine FR_bd (frX9_isRoot _ _) (by decide) (fun _ _ => ?_)
  refine FR_ite ?_ ?_
  · skip
    exact FR_some
  · skip
    refine FR_bd (frX0_isLinkedRoot _ _ _) (by decide) (fun _ _ => ?_)
    refine FR_ite ?_ ?_
    · skip
      exact FR_some
    · skip
      refine FR_bnd ?_
      refine FR_rd (fun _ => ?_)
      refine FR_bd (frX7_hasField _ _ _ _) (by decide) (fun _ _ => ?_)
      refine FR_ite ?_ ?_
      · skip
        exact FR_some
      · skip
        refine FR_bnd ?_
        refine FR_rd (fun _ => ?_)
        refine FR_bd (frX7_target _ _ _ _) (by decide) (fun _ _ => ?_)
        refine FR_bnd ?_
        refine FR_st (by simp) (fun _ => ?_)
        refine FR_bd (frX7_numberOf _ _ _) (by decide) (fun _ _ => ?_)
        refine FR_bd (frX7_note _ _ _ _) (by decide) (fun _ _ => ?_)
        refine FR_bd (frX7_numberOf _ _ _) (by decide) (fun _ _ => ?_)
        exact FR_some
theorem frX0_emptyRoot (k1 : Nat) (x2 : Int32) (σ : rS) : FR [4, 28, 53] σ (fX0_emptyRoot k1 x2 σ) := by
  unfold fX0_emptyRoot
  refine FR_bd (frX9_isRoot _ _) (by decide) (fun _ _ => ?_)
  refine FR_ite ?_ ?_
  · skip
    exact FR_some
  · skip
    refine FR_bnd ?_
    refine FR_rd (fun _ => ?_)
    refine FR_ite ?_ ?_
    · skip
      exact FR_some
    · skip
      refine FR_bnd ?_
      refine FR_st (by simp) (fun _ => ?_)
      refine FR_bd (frX7_numberOf _ _ _) (by decide) (fun _ _ => ?_)
      refine FR_bd (frX7_note _ _ _ _) (by decide) (fun _ _ => ?_)
      refine FR_bd (frX7_numberOf _ _ _) (by decide) (fun _ _ => ?_)
      exact FR_some
theorem frX0_actMinor (k1 : Nat) (σ : rS) : FR [1, 4, 7, 28, 37, 38, 39, 40, 41, 42, 43, 45, 46, 47, 48, 49, 50, 51, 52, 53, 54, 55] σ (fX0_actMinor k1 σ) := by
  unfold fX0_actMinor
  refine FR_bd (frX1_collectYoung _ _) (by decide) (fun _ _ => ?_)
  refine FR_ite ?_ ?_
  · skip
    exact FR_some
  · skip
    refine FR_rd (fun _ => ?_)
    refine FR_bd (frX7_note _ _ _ _) (by decide) (fun _ _ => ?_)
    exact FR_some
theorem frX0_actMajor (k1 : Nat) (σ : rS) : FR [3, 4, 7, 28, 30, 31, 32, 33, 34, 37, 38, 42, 44, 45, 46, 47, 48, 49, 50, 51, 52, 53, 54, 55] σ (fX0_actMajor k1 σ) := by
  unfold fX0_actMajor
  refine FR_bd (frX1_collectAll _ _) (by decide) (fun _ _ => ?_)
  refine FR_rd (fun _ => ?_)
  refine FR_bd (frX7_note _ _ _ _) (by decide) (fun _ _ => ?_)
  exact FR_some
theorem frX0_tellEnd_j63 (k1 : Nat) (x3 : Int32) (σ : rS) : FR [4, 28] σ (fX0_tellEnd_j63 k1 x3 σ) := by
  unfold fX0_tellEnd_j63
  refine FR_bnd ?_
  refine FR_bd (frX7_note _ _ _ _) (by decide) (fun _ _ => ?_)
  refine FR_bnd ?_
  exact FR_some
theorem frX0_tellEnd_j15 (k1 : Nat) (x2 : Int32) (σ : rS) : FR [4, 28, 46, 53] σ (fX0_tellEnd_j15 k1 x2 σ) := by
  unfold fX0_tellEnd_j15
  refine FR_bd (frX4_get _ _ _) (by decide) (fun _ _ => ?_)
  refine FR_bd (frX7_isSlot _ _ _) (by decide) (fun _ _ => ?_)
  refine FR_ite ?_ ?_
  · skip
    exact FR_some
  · skip
    refine FR_bd (frX4_removeAt _ _ _) (by decide) (fun _ _ => ?_)
    refine FR_bnd ?_
    refine FR_st (by simp) (fun _ => ?_)
    refine FR_ite ?_ ?_
    · skip
      exact FR_sub (frX0_tellEnd_j63 _ _ _) (by decide)
    · skip
      refine FR_bnd ?_
      refine FR_st (by simp) (fun _ => ?_)
      exact FR_sub (frX0_tellEnd_j63 _ _ _) (by decide)
theorem frX0_tellEnd (k1 : Nat) (x2 : Int32) (σ : rS) : FR [4, 28, 46, 53] σ (fX0_tellEnd k1 x2 σ) := by
  unfold fX0_tellEnd
  refine FR_ite ?_ ?_
  · skip
    exact FR_sub (frX0_tellEnd_j15 _ _ _) (by decide)
  · skip
    refine FR_bd (frX9_isRoot _ _) (by decide) (fun _ _ => ?_)
    refine FR_ite ?_ ?_
    · skip
      exact FR_some
    · skip
      exact FR_sub (frX0_tellEnd_j15 _ _ _) (by decide)
theorem frX0_askLost (k1 : Nat) (σ : rS) : FR [4, 28] σ (fX0_askLost k1 σ) := by
  unfold fX0_askLost
  refine FR_ite ?_ ?_
  · skip
    exact FR_some
  · skip
    refine FR_bd (frX4_get _ _ _) (by decide) (fun _ _ => ?_)
    refine FR_bd (frX4_removeAt _ _ _) (by decide) (fun _ _ => ?_)
    refine FR_bd (frX7_note _ _ _ _) (by decide) (fun _ _ => ?_)
    exact FR_some
theorem frX0_apply (k1 : Nat) (x2 : Int32) (x3 : Int32) (x4 : Int32) (x5 : Int32) (x6 : Int32) (σ : rS) : FR [1, 3, 4, 7, 28, 30, 31, 32, 33, 34, 37, 38, 39, 40, 41, 42, 43, 44, 45, 46, 47, 48, 49, 50, 51, 52, 53, 54, 55] σ (fX0_apply k1 x2 x3 x4 x5 x6 σ) := by
  unfold fX0_apply
  refine FR_ite ?_ ?_
  · skip
    refine FR_bd (frX0_makeObject _ _ _ _ _ _) (by decide) (fun _ _ => ?_)
    exact FR_some
  · skip
    refine FR_ite ?_ ?_
    · skip
      refine FR_bd (frX0_linkField _ _ _ _ _) (by decide) (fun _ _ => ?_)
      exact FR_some
    · skip
      refine FR_ite ?_ ?_
      · skip
        refine FR_bd (frX0_loadRoot _ _ _ _ _) (by decide) (fun _ _ => ?_)
        exact FR_some
      · skip
        refine FR_ite ?_ ?_
        · skip
          refine FR_bd (frX0_emptyRoot _ _ _) (by decide) (fun _ _ => ?_)
          exact FR_some
        · skip
          refine FR_ite ?_ ?_
          · skip
            refine FR_bd (frX0_actMinor _ _) (by decide) (fun _ _ => ?_)
            exact FR_some
          · skip
            refine FR_ite ?_ ?_
            · skip
              refine FR_bd (frX0_actMajor _ _) (by decide) (fun _ _ => ?_)
              exact FR_some
            · skip
              refine FR_ite ?_ ?_
              · skip
                refine FR_bd (frX0_tellEnd _ _ _) (by decide) (fun _ _ => ?_)
                exact FR_some
              · skip
                refine FR_ite ?_ ?_
                · skip
                  refine FR_bd (frX0_askLost _ _) (by decide) (fun _ _ => ?_)
                  exact FR_some
                · skip
                  exact FR_some
theorem frX2_next (x1 : Int32) (σ : rS) : FR [2] σ (fX2_next x1 σ) := by
  unfold fX2_next
  refine FR_stJ (by simp) (fun _ => ?_)
  refine FR_ite ?_ ?_
  · skip
    refine FR_blz ?_
    exact FR_some
  · skip
    exact FR_some
theorem frX2_tellAct (x1 : Int32) (x2 : Int32) (x3 : Int32) (x4 : Int32) (x5 : Int32) (σ : rS) : FR [2] σ (fX2_tellAct x1 x2 x3 x4 x5 σ) := by
  unfold fX2_tellAct
  refine FR_st (by simp) (fun _ => ?_)
  refine FR_st (by simp) (fun _ => ?_)
  refine FR_st (by simp) (fun _ => ?_)
  refine FR_st (by simp) (fun _ => ?_)
  refine FR_st (by simp) (fun _ => ?_)
  exact FR_some
theorem frX2_drawRareAct  (σ : rS) : FR [2] σ (fX2_drawRareAct  σ) := by
  unfold fX2_drawRareAct
  refine FR_bd (frX2_next _ _) (by decide) (fun _ _ => ?_)
  refine FR_ite ?_ ?_
  · skip
    refine FR_bd (frX2_tellAct _ _ _ _ _ _) (by decide) (fun _ _ => ?_)
    exact FR_some
  · skip
    refine FR_ite ?_ ?_
    · skip
      refine FR_bd (frX2_tellAct _ _ _ _ _ _) (by decide) (fun _ _ => ?_)
      exact FR_some
    · skip
      refine FR_bd (frX2_next _ _) (by decide) (fun _ _ => ?_)
      refine FR_bd (frX2_tellAct _ _ _ _ _ _) (by decide) (fun _ _ => ?_)
      exact FR_some
theorem frX2_drawAct  (σ : rS) : FR [2] σ (fX2_drawAct  σ) := by
  unfold fX2_drawAct
  refine FR_bd (frX2_next _ _) (by decide) (fun _ _ => ?_)
  refine FR_ite ?_ ?_
  · skip
    refine FR_ite ?_ ?_
    · skip
      refine FR_ite ?_ ?_
      · skip
        refine FR_bd (frX2_next _ _) (by decide) (fun _ _ => ?_)
        refine FR_bd (frX2_next _ _) (by decide) (fun _ _ => ?_)
        refine FR_bd (frX2_next _ _) (by decide) (fun _ _ => ?_)
        refine FR_bd (frX2_tellAct _ _ _ _ _ _) (by decide) (fun _ _ => ?_)
        exact FR_some
      · skip
        refine FR_ite ?_ ?_
        · skip
          refine FR_bd (frX2_next _ _) (by decide) (fun _ _ => ?_)
          refine FR_bd (frX2_tellAct _ _ _ _ _ _) (by decide) (fun _ _ => ?_)
          exact FR_some
        · skip
          refine FR_bd (frX2_drawRareAct _) (by decide) (fun _ _ => ?_)
          exact FR_some
    · skip
      refine FR_bd (frX2_next _ _) (by decide) (fun _ _ => ?_)
      refine FR_bd (frX2_next _ _) (by decide) (fun _ _ => ?_)
      refine FR_bd (frX2_next _ _) (by decide) (fun _ _ => ?_)
      refine FR_bd (frX2_tellAct _ _ _ _ _ _) (by decide) (fun _ _ => ?_)
      exact FR_some
  · skip
    refine FR_bd (frX2_next _ _) (by decide) (fun _ _ => ?_)
    refine FR_bd (frX2_next _ _) (by decide) (fun _ _ => ?_)
    refine FR_bd (frX2_next _ _) (by decide) (fun _ _ => ?_)
    refine FR_bd (frX2_next _ _) (by decide) (fun _ _ => ?_)
    refine FR_bd (frX2_tellAct _ _ _ _ _ _) (by decide) (fun _ _ => ?_)
    exact FR_some
theorem frX4_holds (k0 : Nat) (x1 : Int32) (σ : rS) : FR [] σ (fX4_holds k0 x1 σ) := by
  unfold fX4_holds
  refine FR_bd (frX4_find _ _ _) (by decide) (fun _ _ => ?_)
  refine FR_ite ?_ ?_
  · skip
    exact FR_some
  · skip
    exact FR_some
theorem frX5_keepPrepared  (σ : rS) : FR [5] σ (fX5_keepPrepared  σ) := by
  unfold fX5_keepPrepared
  refine FR_st (by simp) (fun _ => ?_)
  refine FR_st (by simp) (fun _ => ?_)
  exact FR_some
theorem frX5_takeBack (k1 : Nat) (σ : rS) : FR [4, 5, 7, 28, 45, 46, 47, 48, 49, 50, 51, 52, 53, 54, 55] σ (fX5_takeBack k1 σ) := by
  unfold fX5_takeBack
  refine FR_rd (fun _ => ?_)
  refine FR_ite ?_ ?_
  · skip
    exact FR_some
  · skip
    refine FR_bnd ?_
    refine FR_ite ?_ ?_
    · skip
      exact FR_some
    · skip
      refine FR_bnd ?_
      refine FR_ite ?_ ?_
      · skip
        exact FR_none
      · skip
        refine FR_bd (frX7_copyFrom _ _ _) (by decide) (fun _ _ => ?_)
        refine FR_st (by simp) (fun _ => ?_)
        refine FR_st (by simp) (fun _ => ?_)
        exact FR_some
theorem frX8_byteAt (x1 : Int32) (σ : rS) : FR [] σ (fX8_byteAt x1 σ) := by
  unfold fX8_byteAt
  refine FR_ite ?_ ?_
  · skip
    exact FR_some
  · skip
    refine FR_ite ?_ ?_
    · skip
      refine FR_bnd ?_
      exact FR_some
    · skip
      exact FR_some
theorem frX6_nextSign_j43  (σ : rS) : FR [] σ (fX6_nextSign_j43  σ) := by
  unfold fX6_nextSign_j43
  refine FR_bd (frX8_byteAt _ _) (by decide) (fun _ _ => ?_)
  exact FR_some
theorem frX6_nextSign_L0  (σ : rS) : FR [6] σ (fX6_nextSign_L0  σ) := by
  unfold fX6_nextSign_L0
  refine FR_ite ?_ ?_
  · skip
    refine FR_bd (frX8_byteAt _ _) (by decide) (fun _ _ => ?_)
    refine FR_ite ?_ ?_
    · skip
      refine FR_st (by simp) (fun _ => ?_)
      exact FR_some
    · skip
      exact FR_some
  · skip
    exact FR_some
theorem frX6_nextSign  (σ : rS) : FR [6] σ (fX6_nextSign  σ) := by
  unfold fX6_nextSign
  refine FR_ite ?_ ?_
  · skip
    refine FR_bd (frX8_byteAt _ _) (by decide) (fun _ _ => ?_)
    refine FR_ite ?_ ?_
    · skip
      refine FR_st (by simp) (fun _ => ?_)
      refine FR_bd (FR_lp (fun x σ => frX6_nextSign_L0 _) _ _ _) (by decide) (fun _ _ => ?_)
      exact FR_sub (frX6_nextSign_j43 _) (by decide)
    · skip
      exact FR_sub (frX6_nextSign_j43 _) (by decide)
  · skip
    exact FR_sub (frX6_nextSign_j43 _) (by decide)
theorem frJ0_isLatin1_aae02 (s0 : Nat) (σ : rS) : FR [] σ (fJ0_isLatin1_aae02 s0 σ) := by
  unfold fJ0_isLatin1_aae02
  refine FR_ite ?_ ?_
  · skip
    exact FR_some
  · skip
    refine FR_ite ?_ ?_
    · skip
      exact FR_some
    · skip
      exact FR_some
theorem frJ0_coder_7d493 (s0 : Nat) (σ : rS) : FR [] σ (fJ0_coder_7d493 s0 σ) := by
  unfold fJ0_coder_7d493
  refine FR_ite ?_ ?_
  · skip
    exact FR_some
  · skip
    exact FR_some
theorem frJ0_length_8abf5 (s0 : Nat) (σ : rS) : FR [] σ (fJ0_length_8abf5 s0 σ) := by
  unfold fJ0_length_8abf5
  refine FR_bd (frJ0_coder_7d493 _ _) (by decide) (fun _ _ => ?_)
  exact FR_some
theorem frJ1_canEncode_9a6ad (x0 : Int32) (σ : rS) : FR [] σ (fJ1_canEncode_9a6ad x0 σ) := by
  unfold fJ1_canEncode_9a6ad
  refine FR_ite ?_ ?_
  · skip
    exact FR_some
  · skip
    refine FR_ite ?_ ?_
    · skip
      exact FR_some
    · skip
      exact FR_some
theorem frJ1_indexOfChar_4cfef_L7 (s0 : Nat) (x3 : Int32) (x4 : Int32) (x5 : Int32) (σ : rS) : FR [] σ (fJ1_indexOfChar_4cfef_L7 s0 x3 x4 x5 σ) := by
  unfold fJ1_indexOfChar_4cfef_L7
  refine FR_ite ?_ ?_
  · skip
    refine FR_bnd ?_
    refine FR_ite ?_ ?_
    · skip
      exact FR_some
    · skip
      exact FR_some
  · skip
    exact FR_some
theorem frJ1_indexOfChar_4cfef (s0 : Nat) (x1 : Int32) (x2 : Int32) (x3 : Int32) (σ : rS) : FR [] σ (fJ1_indexOfChar_4cfef s0 x1 x2 x3 σ) := by
  unfold fJ1_indexOfChar_4cfef
  refine FR_rd (fun _ => ?_)
  refine FR_bd (FR_lp (fun x σ => frJ1_indexOfChar_4cfef_L7 _ _ _ _ _) _ _ _) (by decide) (fun _ _ => ?_)
  split
  · skip
    exact FR_some
  · skip
    exact FR_some
theorem frJ1_indexOf_4cfef (s0 : Nat) (x1 : Int32) (x2 : Int32) (x3 : Int32) (σ : rS) : FR [] σ (fJ1_indexOf_4cfef s0 x1 x2 x3 σ) := by
  unfold fJ1_indexOf_4cfef
  refine FR_bd (frJ1_canEncode_9a6ad _ _) (by decide) (fun _ _ => ?_)
  refine FR_ite ?_ ?_
  · skip
    exact FR_some
  · skip
    refine FR_rd (fun _ => ?_)
    refine FR_rd (fun _ => ?_)
    refine FR_ite ?_ ?_
    · skip
      refine FR_bd (frJ1_indexOfChar_4cfef _ _ _ _ _) (by decide) (fun _ _ => ?_)
      exact FR_some
    · skip
      exact FR_some
theorem frJ0_indexOf_7cf53 (s0 : Nat) (x1 : Int32) (x2 : Int32) (σ : rS) : FR [] σ (fJ0_indexOf_7cf53 s0 x1 x2 σ) := by
  unfold fJ0_indexOf_7cf53
  refine FR_bd (frJ0_isLatin1_aae02 _ _) (by decide) (fun _ _ => ?_)
  refine FR_ite ?_ ?_
  · skip
    refine FR_bd (frJ0_length_8abf5 _ _) (by decide) (fun _ _ => ?_)
    exact FR_none
  · skip
    refine FR_bd (frJ0_length_8abf5 _ _) (by decide) (fun _ _ => ?_)
    refine FR_bd (frJ1_indexOf_4cfef _ _ _ _ _) (by decide) (fun _ _ => ?_)
    exact FR_some
theorem frJ0_indexOf_0f7a4 (s0 : Nat) (x1 : Int32) (σ : rS) : FR [] σ (fJ0_indexOf_0f7a4 s0 x1 σ) := by
  unfold fJ0_indexOf_0f7a4
  refine FR_bd (frJ0_indexOf_7cf53 _ _ _ _) (by decide) (fun _ _ => ?_)
  exact FR_some
theorem frX6_isDigit (x0 : Int32) (σ : rS) : FR [] σ (fX6_isDigit x0 σ) := by
  unfold fX6_isDigit
  refine FR_ite ?_ ?_
  · skip
    exact FR_some
  · skip
    refine FR_ite ?_ ?_
    · skip
      exact FR_some
    · skip
      exact FR_some
theorem frX6_readNumber_L11 (x1 : Int32) (x2 : Int32) (x3 : Int32) (x4 : Int32) (x5 : Int32) (σ : rS) : FR [6] σ (fX6_readNumber_L11 x1 x2 x3 x4 x5 σ) := by
  unfold fX6_readNumber_L11
  refine FR_ite ?_ ?_
  · skip
    refine FR_bd (frX6_isDigit _ _) (by decide) (fun _ _ => ?_)
    refine FR_ite ?_ ?_
    · skip
      exact FR_some
    · skip
      refine FR_rd (fun _ => ?_)
      refine FR_st (by simp) (fun _ => ?_)
      refine FR_bd (frX8_byteAt _ _) (by decide) (fun _ _ => ?_)
      exact FR_some
  · skip
    exact FR_some
theorem frX6_readNumber_j98  (σ : rS) : FR [6] σ (fX6_readNumber_j98  σ) := by
  unfold fX6_readNumber_j98
  refine FR_st (by simp) (fun _ => ?_)
  exact FR_some
theorem frX6_readNumber_j65 (x1 : Int32) (x2 : Int32) (x3 : Int32) (x4 : Int32) (x5 : Int32) (σ : rS) : FR [6] σ (fX6_readNumber_j65 x1 x2 x3 x4 x5 σ) := by
  unfold fX6_readNumber_j65
  refine FR_ite ?_ ?_
  · skip
    refine FR_st (by simp) (fun _ => ?_)
    exact FR_some
  · skip
    refine FR_bd (frX6_isDigit _ _) (by decide) (fun _ _ => ?_)
    refine FR_ite ?_ ?_
    · skip
      refine FR_ite ?_ ?_
      · skip
        exact FR_sub (frX6_readNumber_j98 _) (by decide)
      · skip
        refine FR_ite ?_ ?_
        · skip
          exact FR_sub (frX6_readNumber_j98 _) (by decide)
        · skip
          exact FR_some
    · skip
      refine FR_st (by simp) (fun _ => ?_)
      exact FR_some
theorem frX6_readNumber (x1 : Int32) (x2 : Int32) (σ : rS) : FR [6] σ (fX6_readNumber x1 x2 σ) := by
  unfold fX6_readNumber
  refine FR_bd (frX6_nextSign _) (by decide) (fun _ _ => ?_)
  refine FR_bd (FR_lp (fun x σ => frX6_readNumber_L11 _ _ _ _ _ _) _ _ _) (by decide) (fun _ _ => ?_)
  exact FR_sub (frX6_readNumber_j65 _ _ _ _ _ _) (by decide)
theorem frX6_readHeap_L46 (x1 : Int32) (x2 : Int32) (σ : rS) : FR [6, 26] σ (fX6_readHeap_L46 x1 x2 σ) := by
  unfold fX6_readHeap_L46
  refine FR_ite ?_ ?_
  · skip
    exact FR_some
  · skip
    refine FR_bd (frX6_nextSign _) (by decide) (fun _ _ => ?_)
    refine FR_ite ?_ ?_
    · skip
      exact FR_some
    · skip
      refine FR_bd (frJ0_indexOf_0f7a4 _ _ _) (by decide) (fun _ _ => ?_)
      refine FR_ite ?_ ?_
      · skip
        exact FR_some
      · skip
        refine FR_ite ?_ ?_
        · skip
          refine FR_ite ?_ ?_
          · skip
            refine FR_st (by simp) (fun _ => ?_)
            refine FR_rd (fun _ => ?_)
            refine FR_bnd ?_
            refine FR_bnd ?_
            refine FR_bd (frX6_readNumber _ _ _) (by decide) (fun _ _ => ?_)
            refine FR_bnd ?_
            refine FR_st (by simp) (fun _ => ?_)
            refine FR_bnd ?_
            refine FR_ite ?_ ?_
            · skip
              exact FR_some
            · skip
              exact FR_some
          · skip
            exact FR_some
        · skip
          exact FR_some
theorem frX6_readHeap  (σ : rS) : FR [6, 26] σ (fX6_readHeap  σ) := by
  unfold fX6_readHeap
  refine FR_st (by simp) (fun _ => ?_)
  refine FR_bcp ?_
  refine FR_stR (by simp) (fun _ => ?_)
  refine FR_bd (frX6_nextSign _) (by decide) (fun _ _ => ?_)
  refine FR_ite ?_ ?_
  · skip
    refine FR_st (by simp) (fun _ => ?_)
    refine FR_bd (FR_lp (fun x σ => frX6_readHeap_L46 _ _ _) _ _ _) (by decide) (fun _ _ => ?_)
    split
    · skip
      exact FR_some
    · skip
      exact FR_some
    · skip
      exact FR_some
    · skip
      exact FR_some
  · skip
    exact FR_some
theorem frX6_readComma  (σ : rS) : FR [6] σ (fX6_readComma  σ) := by
  unfold fX6_readComma
  refine FR_bd (frX6_nextSign _) (by decide) (fun _ _ => ?_)
  refine FR_ite ?_ ?_
  · skip
    refine FR_st (by simp) (fun _ => ?_)
    exact FR_some
  · skip
    refine FR_st (by simp) (fun _ => ?_)
    exact FR_some
theorem frX6_readStep_L57 (x2 : Int32) (x3 : Int32) (x4 : Int32) (σ : rS) : FR [27] σ (fX6_readStep_L57 x2 x3 x4 σ) := by
  unfold fX6_readStep_L57
  refine FR_ite ?_ ?_
  · skip
    refine FR_bnd ?_
    refine FR_st (by simp) (fun _ => ?_)
    exact FR_some
  · skip
    exact FR_some
theorem frX6_readStep_j107L82 (x2 : Int32) (x3 : Int32) (x4 : Int32) (σ : rS) : FR [6, 27] σ (fX6_readStep_j107L82 x2 x3 x4 σ) := by
  unfold fX6_readStep_j107L82
  refine FR_bd (frX6_readNumber _ _ _) (by decide) (fun _ _ => ?_)
  refine FR_bnd ?_
  refine FR_st (by simp) (fun _ => ?_)
  refine FR_bnd ?_
  refine FR_ite ?_ ?_
  · skip
    exact FR_some
  · skip
    exact FR_some
theorem frX6_readStep_L82 (x2 : Int32) (x3 : Int32) (x4 : Int32) (σ : rS) : FR [6, 27] σ (fX6_readStep_L82 x2 x3 x4 σ) := by
  unfold fX6_readStep_L82
  refine FR_bnd ?_
  refine FR_ite ?_ ?_
  · skip
    exact FR_some
  · skip
    refine FR_ite ?_ ?_
    · skip
      refine FR_bd (frX6_readComma _) (by decide) (fun _ _ => ?_)
      refine FR_ite ?_ ?_
      · skip
        exact FR_some
      · skip
        exact FR_sub (frX6_readStep_j107L82 _ _ _ _) (by decide)
    · skip
      exact FR_sub (frX6_readStep_j107L82 _ _ _ _) (by decide)
theorem frX6_readStep (x1 : Int32) (σ : rS) : FR [6, 27] σ (fX6_readStep x1 σ) := by
  unfold fX6_readStep
  refine FR_bd (frX6_nextSign _) (by decide) (fun _ _ => ?_)
  refine FR_bd (frJ0_indexOf_0f7a4 _ _ _) (by decide) (fun _ _ => ?_)
  refine FR_ite ?_ ?_
  · skip
    refine FR_st (by simp) (fun _ => ?_)
    exact FR_some
  · skip
    refine FR_ite ?_ ?_
    · skip
      refine FR_st (by simp) (fun _ => ?_)
      refine FR_rd (fun _ => ?_)
      refine FR_bnd ?_
      refine FR_st (by simp) (fun _ => ?_)
      refine FR_bd (FR_lp (fun x σ => frX6_readStep_L57 _ _ _ _) _ _ _) (by decide) (fun _ _ => ?_)
      refine FR_bd (FR_lp (fun x σ => frX6_readStep_L82 _ _ _ _) _ _ _) (by decide) (fun _ _ => ?_)
      split
      · skip
        exact FR_some
      · skip
        exact FR_some
      · skip
        exact FR_some
    · skip
      refine FR_st (by simp) (fun _ => ?_)
      exact FR_some
theorem frX6_readScript_L12 (x1 : Int32) (σ : rS) : FR [6, 27] σ (fX6_readScript_L12 x1 σ) := by
  unfold fX6_readScript_L12
  refine FR_ite ?_ ?_
  · skip
    refine FR_bd (frX6_readStep _ _) (by decide) (fun _ _ => ?_)
    refine FR_ite ?_ ?_
    · skip
      exact FR_some
    · skip
      refine FR_st (by simp) (fun _ => ?_)
      refine FR_bd (frX6_nextSign _) (by decide) (fun _ _ => ?_)
      refine FR_ite ?_ ?_
      · skip
        exact FR_some
      · skip
        refine FR_ite ?_ ?_
        · skip
          refine FR_st (by simp) (fun _ => ?_)
          exact FR_some
        · skip
          exact FR_some
  · skip
    exact FR_some
theorem frX6_readScript  (σ : rS) : FR [6, 27] σ (fX6_readScript  σ) := by
  unfold fX6_readScript
  refine FR_st (by simp) (fun _ => ?_)
  refine FR_st (by simp) (fun _ => ?_)
  refine FR_bd (FR_lp (fun x σ => frX6_readScript_L12 _ _) _ _ _) (by decide) (fun _ _ => ?_)
  split
  · skip
    exact FR_some
  · skip
    exact FR_some
  · skip
    exact FR_some
  · skip
    exact FR_some
theorem frX8_bytesIn_j22L5 (x0 : Int32) (x1 : Int32) (x2 : Int32) (σ : rS) : FR [] σ (fX8_bytesIn_j22L5 x0 x1 x2 σ) := by
  unfold fX8_bytesIn_j22L5
  exact FR_some
theorem frX8_bytesIn_L5 (x0 : Int32) (x1 : Int32) (x2 : Int32) (σ : rS) : FR [] σ (fX8_bytesIn_L5 x0 x1 x2 σ) := by
  unfold fX8_bytesIn_L5
  refine FR_ite ?_ ?_
  · skip
    exact FR_some
  · skip
    refine FR_ite ?_ ?_
    · skip
      exact FR_sub (frX8_bytesIn_j22L5 _ _ _ _) (by decide)
    · skip
      exact FR_sub (frX8_bytesIn_j22L5 _ _ _ _) (by decide)
theorem frX8_bytesIn (x0 : Int32) (σ : rS) : FR [] σ (fX8_bytesIn x0 σ) := by
  unfold fX8_bytesIn
  refine FR_bd (FR_lp (fun x σ => frX8_bytesIn_L5 _ _ _ _) _ _ _) (by decide) (fun _ _ => ?_)
  exact FR_some
theorem frX8_addBytes_j49L3 (x1 : Int32) (x2 : Int32) (σ : rS) : FR [] σ (fX8_addBytes_j49L3 x1 x2 σ) := by
  unfold fX8_addBytes_j49L3
  exact FR_some
theorem frX8_addBytes_L3 (x1 : Int32) (x2 : Int32) (σ : rS) : FR [8, 25] σ (fX8_addBytes_L3 x1 x2 σ) := by
  unfold fX8_addBytes_L3
  refine FR_ite ?_ ?_
  · skip
    exact FR_some
  · skip
    refine FR_rd (fun _ => ?_)
    refine FR_ite ?_ ?_
    · skip
      exact FR_sub (frX8_addBytes_j49L3 _ _ _) (by decide)
    · skip
      refine FR_ite ?_ ?_
      · skip
        refine FR_bnd ?_
        refine FR_st (by simp) (fun _ => ?_)
        refine FR_st (by simp) (fun _ => ?_)
        exact FR_sub (frX8_addBytes_j49L3 _ _ _) (by decide)
      · skip
        exact FR_sub (frX8_addBytes_j49L3 _ _ _) (by decide)
theorem frX8_addBytes (x1 : Int32) (σ : rS) : FR [8, 25] σ (fX8_addBytes x1 σ) := by
  unfold fX8_addBytes
  refine FR_bd (FR_lp (fun x σ => frX8_addBytes_L3 _ _ _) _ _ _) (by decide) (fun _ _ => ?_)
  exact FR_some
theorem frX3_seenCells_L4 (k1 : Nat) (x2 : Int32) (x3 : Int32) (σ : rS) : FR [] σ (fX3_seenCells_L4 k1 x2 x3 σ) := by
  unfold fX3_seenCells_L4
  refine FR_ite ?_ ?_
  · skip
    refine FR_bnd ?_
    refine FR_bd (frX7_cells _ _ _) (by decide) (fun _ _ => ?_)
    refine FR_rd (fun _ => ?_)
    exact FR_some
  · skip
    exact FR_some
theorem frX3_seenCells (k1 : Nat) (σ : rS) : FR [] σ (fX3_seenCells k1 σ) := by
  unfold fX3_seenCells
  refine FR_bd (FR_lp (fun x σ => frX3_seenCells_L4 _ _ _ _) _ _ _) (by decide) (fun _ _ => ?_)
  exact FR_some
theorem frX3_unseenCells_j44L5 (k1 : Nat) (x2 : Int32) (x3 : Int32) (x4 : Int32) (σ : rS) : FR [] σ (fX3_unseenCells_j44L5 k1 x2 x3 x4 σ) := by
  unfold fX3_unseenCells_j44L5
  exact FR_some
theorem frX3_unseenCells_L5 (k1 : Nat) (x2 : Int32) (x3 : Int32) (x4 : Int32) (σ : rS) : FR [] σ (fX3_unseenCells_L5 k1 x2 x3 x4 σ) := by
  unfold fX3_unseenCells_L5
  refine FR_ite ?_ ?_
  · skip
    refine FR_bnd ?_
    refine FR_ite ?_ ?_
    · skip
      refine FR_bnd ?_
      refine FR_ite ?_ ?_
      · skip
        refine FR_bd (frX7_cells _ _ _) (by decide) (fun _ _ => ?_)
        refine FR_rd (fun _ => ?_)
        exact FR_sub (frX3_unseenCells_j44L5 _ _ _ _ _) (by decide)
      · skip
        exact FR_sub (frX3_unseenCells_j44L5 _ _ _ _ _) (by decide)
    · skip
      exact FR_sub (frX3_unseenCells_j44L5 _ _ _ _ _) (by decide)
  · skip
    exact FR_some
theorem frX3_unseenCells (k1 : Nat) (x2 : Int32) (σ : rS) : FR [] σ (fX3_unseenCells k1 x2 σ) := by
  unfold fX3_unseenCells
  refine FR_bd (FR_lp (fun x σ => frX3_unseenCells_L5 _ _ _ _ _) _ _ _) (by decide) (fun _ _ => ?_)
  exact FR_some
theorem frX3_holdersOf_j26L5 (k1 : Nat) (x2 : Int32) (x3 : Int32) (x4 : Int32) (σ : rS) : FR [] σ (fX3_holdersOf_j26L5 k1 x2 x3 x4 σ) := by
  unfold fX3_holdersOf_j26L5
  exact FR_some
theorem frX3_holdersOf_L5 (k1 : Nat) (x2 : Int32) (x3 : Int32) (x4 : Int32) (σ : rS) : FR [] σ (fX3_holdersOf_L5 k1 x2 x3 x4 σ) := by
  unfold fX3_holdersOf_L5
  refine FR_ite ?_ ?_
  · skip
    refine FR_bnd ?_
    refine FR_ite ?_ ?_
    · skip
      exact FR_sub (frX3_holdersOf_j26L5 _ _ _ _ _) (by decide)
    · skip
      exact FR_sub (frX3_holdersOf_j26L5 _ _ _ _ _) (by decide)
  · skip
    exact FR_some
theorem frX3_holdersOf_j87L61 (k1 : Nat) (x2 : Int32) (x3 : Int32) (x4 : Int32) (x5 : Int32) (x6 : Int32) (σ : rS) : FR [] σ (fX3_holdersOf_j87L61 k1 x2 x3 x4 x5 x6 σ) := by
  unfold fX3_holdersOf_j87L61
  exact FR_some
theorem frX3_holdersOf_L61 (k1 : Nat) (x2 : Int32) (x4 : Int32) (x5 : Int32) (x3 : Int32) (x6 : Int32) (σ : rS) : FR [] σ (fX3_holdersOf_L61 k1 x2 x4 x5 x3 x6 σ) := by
  unfold fX3_holdersOf_L61
  refine FR_bd (frX7_fieldsOf _ _ _) (by decide) (fun _ _ => ?_)
  refine FR_ite ?_ ?_
  · skip
    refine FR_bd (frX7_target _ _ _ _) (by decide) (fun _ _ => ?_)
    refine FR_ite ?_ ?_
    · skip
      exact FR_sub (frX3_holdersOf_j87L61 _ _ _ _ _ _ _) (by decide)
    · skip
      exact FR_sub (frX3_holdersOf_j87L61 _ _ _ _ _ _ _) (by decide)
  · skip
    exact FR_some
theorem frX3_holdersOf_L35 (k1 : Nat) (x2 : Int32) (x3 : Int32) (x4 : Int32) (σ : rS) : FR [] σ (fX3_holdersOf_L35 k1 x2 x3 x4 σ) := by
  unfold fX3_holdersOf_L35
  refine FR_ite ?_ ?_
  · skip
    refine FR_bnd ?_
    refine FR_rd (fun _ => ?_)
    refine FR_bd (frX7_firstStrong _ _ _) (by decide) (fun _ _ => ?_)
    refine FR_bd (FR_lp (fun x σ => frX3_holdersOf_L61 _ _ _ _ _ _ _) _ _ _) (by decide) (fun _ _ => ?_)
    exact FR_some
  · skip
    exact FR_some
theorem frX3_holdersOf (k1 : Nat) (x2 : Int32) (σ : rS) : FR [] σ (fX3_holdersOf k1 x2 σ) := by
  unfold fX3_holdersOf
  refine FR_bd (FR_lp (fun x σ => frX3_holdersOf_L5 _ _ _ _ _) _ _ _) (by decide) (fun _ _ => ?_)
  refine FR_bd (FR_lp (fun x σ => frX3_holdersOf_L35 _ _ _ _ _) _ _ _) (by decide) (fun _ _ => ?_)
  exact FR_some
theorem frX3_findWays_L6 (k1 : Nat) (x2 : Int32) (σ : rS) : FR [3, 30, 31, 32, 33, 34] σ (fX3_findWays_L6 k1 x2 σ) := by
  unfold fX3_findWays_L6
  refine FR_ite ?_ ?_
  · skip
    refine FR_bnd ?_
    refine FR_bd (frX3_visit _ _ _ _) (by decide) (fun _ _ => ?_)
    exact FR_some
  · skip
    exact FR_some
theorem frX3_findWays (k1 : Nat) (σ : rS) : FR [3, 30, 31, 32, 33, 34] σ (fX3_findWays k1 σ) := by
  unfold fX3_findWays
  refine FR_bd (frX3_begin _) (by decide) (fun _ _ => ?_)
  refine FR_bd (FR_lp (fun x σ => frX3_findWays_L6 _ _ _) _ _ _) (by decide) (fun _ _ => ?_)
  refine FR_bd (frX3_spread _ _ _) (by decide) (fun _ _ => ?_)
  exact FR_some
theorem frX3_lowestRootOf_L2 (k0 : Nat) (x1 : Int32) (x2 : Int32) (σ : rS) : FR [] σ (fX3_lowestRootOf_L2 k0 x1 x2 σ) := by
  unfold fX3_lowestRootOf_L2
  refine FR_ite ?_ ?_
  · skip
    refine FR_bnd ?_
    refine FR_ite ?_ ?_
    · skip
      exact FR_some
    · skip
      exact FR_some
  · skip
    exact FR_some
theorem frX3_lowestRootOf (k0 : Nat) (x1 : Int32) (σ : rS) : FR [] σ (fX3_lowestRootOf k0 x1 σ) := by
  unfold fX3_lowestRootOf
  refine FR_bd (FR_lp (fun x σ => frX3_lowestRootOf_L2 _ _ _ _) _ _ _) (by decide) (fun _ _ => ?_)
  split
  · skip
    exact FR_some
  · skip
    exact FR_some
theorem frX3_wayTo_L45 (k1 : Nat) (x3 : Int32) (x5 : Int32) (x6 : Int32) (σ : rS) : FR [] σ (fX3_wayTo_L45 k1 x3 x5 x6 σ) := by
  unfold fX3_wayTo_L45
  refine FR_ite ?_ ?_
  · skip
    refine FR_bnd ?_
    refine FR_ite ?_ ?_
    · skip
      exact FR_some
    · skip
      refine FR_bnd ?_
      refine FR_rd (fun _ => ?_)
      exact FR_some
  · skip
    exact FR_some
theorem frX3_wayTo_j77 (k1 : Nat) (x3 : Int32) (x5 : Int32) (σ : rS) : FR [] σ (fX3_wayTo_j77 k1 x3 x5 σ) := by
  unfold fX3_wayTo_j77
  refine FR_ite ?_ ?_
  · skip
    refine FR_bd (frX3_lowestRootOf _ _ _) (by decide) (fun _ _ => ?_)
    exact FR_some
  · skip
    refine FR_bnd ?_
    exact FR_some
theorem frX3_wayTo (k1 : Nat) (x2 : Int32) (x3 : Int32) (σ : rS) : FR [] σ (fX3_wayTo k1 x2 x3 σ) := by
  unfold fX3_wayTo
  refine FR_bd (frX3_isSeen _ _) (by decide) (fun _ _ => ?_)
  refine FR_ite ?_ ?_
  · skip
    exact FR_some
  · skip
    refine FR_bnd ?_
    refine FR_rd (fun _ => ?_)
    refine FR_ite ?_ ?_
    · skip
      exact FR_some
    · skip
      refine FR_ite ?_ ?_
      · skip
        exact FR_some
      · skip
        refine FR_ite ?_ ?_
        · skip
          exact FR_some
        · skip
          refine FR_bd (FR_lp (fun x σ => frX3_wayTo_L45 _ _ _ _ _) _ _ _) (by decide) (fun _ _ => ?_)
          exact FR_sub (frX3_wayTo_j77 _ _ _ _) (by decide)
theorem frX3_wayBack_L43 (k1 : Nat) (x2 : Int32) (x3 : Int32) (x4 : Int32) (x5 : Int32) (σ : rS) : FR [3, 30, 31, 32, 33, 34] σ (fX3_wayBack_L43 k1 x2 x3 x4 x5 σ) := by
  unfold fX3_wayBack_L43
  refine FR_bd (frX7_fieldsOf _ _ _) (by decide) (fun _ _ => ?_)
  refine FR_ite ?_ ?_
  · skip
    refine FR_bd (frX7_target _ _ _ _) (by decide) (fun _ _ => ?_)
    refine FR_ite ?_ ?_
    · skip
      exact FR_some
    · skip
      refine FR_bd (frX3_visit _ _ _ _) (by decide) (fun _ _ => ?_)
      exact FR_some
  · skip
    exact FR_some
theorem frX3_wayBack_L13 (k1 : Nat) (x2 : Int32) (x3 : Int32) (σ : rS) : FR [3, 30, 31, 32, 33, 34] σ (fX3_wayBack_L13 k1 x2 x3 σ) := by
  unfold fX3_wayBack_L13
  refine FR_ite ?_ ?_
  · skip
    refine FR_ite ?_ ?_
    · skip
      refine FR_bnd ?_
      refine FR_rd (fun _ => ?_)
      refine FR_bd (frX7_firstStrong _ _ _) (by decide) (fun _ _ => ?_)
      refine FR_bd (FR_lp (fun x σ => frX3_wayBack_L43 _ _ _ _ _ _) _ _ _) (by decide) (fun _ _ => ?_)
      split
      · skip
        exact FR_some
      · skip
        exact FR_some
    · skip
      exact FR_some
  · skip
    exact FR_some
theorem frX3_wayBack (k1 : Nat) (x2 : Int32) (σ : rS) : FR [3, 30, 31, 32, 33, 34] σ (fX3_wayBack k1 x2 σ) := by
  unfold fX3_wayBack
  refine FR_bd (frX3_begin _) (by decide) (fun _ _ => ?_)
  refine FR_bd (frX3_visit _ _ _ _) (by decide) (fun _ _ => ?_)
  refine FR_bd (FR_lp (fun x σ => frX3_wayBack_L13 _ _ _ _) _ _ _) (by decide) (fun _ _ => ?_)
  split
  · skip
    refine FR_bnd ?_
    exact FR_some
  · skip
    exact FR_some
theorem frX3_setBeside_j20 (x1 : Int32) (x2 : Int32) (σ : rS) : FR [] σ (fX3_setBeside_j20 x1 x2 σ) := by
  unfold fX3_setBeside_j20
  refine FR_ite ?_ ?_
  · skip
    exact FR_some
  · skip
    exact FR_some
theorem frX3_setBeside_j51 (x1 : Int32) (x2 : Int32) (σ : rS) : FR [] σ (fX3_setBeside_j51 x1 x2 σ) := by
  unfold fX3_setBeside_j51
  refine FR_bnd ?_
  refine FR_ite ?_ ?_
  · skip
    refine FR_bnd ?_
    refine FR_ite ?_ ?_
    · skip
      exact FR_some
    · skip
      exact FR_some
  · skip
    exact FR_some
theorem frX3_setBeside (x1 : Int32) (x2 : Int32) (σ : rS) : FR [3, 31, 35, 36] σ (fX3_setBeside x1 x2 σ) := by
  unfold fX3_setBeside
  refine FR_ite ?_ ?_
  · skip
    exact FR_sub (frX3_setBeside_j20 _ _ _) (by decide)
  · skip
    refine FR_ite ?_ ?_
    · skip
      exact FR_sub (frX3_setBeside_j20 _ _ _) (by decide)
    · skip
      refine FR_ite ?_ ?_
      · skip
        refine FR_ite ?_ ?_
        · skip
          refine FR_bnd ?_
          refine FR_ite ?_ ?_
          · skip
            refine FR_bnd ?_
            refine FR_ite ?_ ?_
            · skip
              refine FR_bnd ?_
              refine FR_st (by simp) (fun _ => ?_)
              refine FR_bnd ?_
              refine FR_st (by simp) (fun _ => ?_)
              refine FR_bnd ?_
              refine FR_st (by simp) (fun _ => ?_)
              refine FR_st (by simp) (fun _ => ?_)
              exact FR_some
            · skip
              exact FR_sub (frX3_setBeside_j51 _ _ _) (by decide)
          · skip
            exact FR_sub (frX3_setBeside_j51 _ _ _) (by decide)
        · skip
          exact FR_sub (frX3_setBeside_j20 _ _ _) (by decide)
      · skip
        exact FR_sub (frX3_setBeside_j20 _ _ _) (by decide)
theorem frX3_areAlikeHere_L69 (k1 : Nat) (x2 : Int32) (x3 : Int32) (x4 : Int32) (x5 : Int32) (σ : rS) : FR [3, 31, 35, 36] σ (fX3_areAlikeHere_L69 k1 x2 x3 x4 x5 σ) := by
  unfold fX3_areAlikeHere_L69
  refine FR_ite ?_ ?_
  · skip
    exact FR_some
  · skip
    refine FR_bnd ?_
    refine FR_ite ?_ ?_
    · skip
      refine FR_bd (frX7_target _ _ _ _) (by decide) (fun _ _ => ?_)
      refine FR_bd (frX7_target _ _ _ _) (by decide) (fun _ _ => ?_)
      refine FR_bd (frX3_setBeside _ _ _) (by decide) (fun _ _ => ?_)
      exact FR_some
    · skip
      exact FR_some
theorem frX3_areAlikeHere (k1 : Nat) (x2 : Int32) (x3 : Int32) (σ : rS) : FR [3, 31, 35, 36] σ (fX3_areAlikeHere k1 x2 x3 σ) := by
  unfold fX3_areAlikeHere
  refine FR_bd (frX7_isSlot _ _ _) (by decide) (fun _ _ => ?_)
  refine FR_ite ?_ ?_
  · skip
    exact FR_some
  · skip
    refine FR_bd (frX7_isSlot _ _ _) (by decide) (fun _ _ => ?_)
    refine FR_ite ?_ ?_
    · skip
      exact FR_some
    · skip
      refine FR_bnd ?_
      refine FR_bnd ?_
      refine FR_ite ?_ ?_
      · skip
        refine FR_bnd ?_
        refine FR_bnd ?_
        refine FR_ite ?_ ?_
        · skip
          refine FR_bnd ?_
          refine FR_bnd ?_
          refine FR_ite ?_ ?_
          · skip
            refine FR_bd (FR_lp (fun x σ => frX3_areAlikeHere_L69 _ _ _ _ _ _) _ _ _) (by decide) (fun _ _ => ?_)
            refine FR_bz ?_
            exact FR_some
          · skip
            exact FR_some
        · skip
          exact FR_some
      · skip
        exact FR_some
theorem frX3_areAlike_L32 (k1 : Nat) (x4 : Int32) (x5 : Int32) (σ : rS) : FR [3, 31, 35, 36] σ (fX3_areAlike_L32 k1 x4 x5 σ) := by
  unfold fX3_areAlike_L32
  refine FR_ite ?_ ?_
  · skip
    exact FR_some
  · skip
    refine FR_ite ?_ ?_
    · skip
      refine FR_ite ?_ ?_
      · skip
        refine FR_bnd ?_
        refine FR_bnd ?_
        refine FR_bnd ?_
        refine FR_bd (frX3_areAlikeHere _ _ _ _) (by decide) (fun _ _ => ?_)
        exact FR_some
      · skip
        exact FR_some
    · skip
      exact FR_some
theorem frX3_areAlike (k1 : Nat) (x2 : Int32) (x3 : Int32) (σ : rS) : FR [3, 31, 35, 36] σ (fX3_areAlike k1 x2 x3 σ) := by
  unfold fX3_areAlike
  refine FR_bd (frJ7_fill_53178 _ _ _ _ _) (by decide) (fun _ _ => ?_)
  refine FR_bd (frJ7_fill_53178 _ _ _ _ _) (by decide) (fun _ _ => ?_)
  refine FR_st (by simp) (fun _ => ?_)
  refine FR_bd (frX3_setBeside _ _ _) (by decide) (fun _ _ => ?_)
  refine FR_bd (FR_lp (fun x σ => frX3_areAlike_L32 _ _ _ _) _ _ _) (by decide) (fun _ _ => ?_)
  refine FR_bz ?_
  exact FR_some
theorem frX7_clear (k0 : Nat) (σ : rS) : FR [4, 7, 53, 54, 55] σ (fX7_clear k0 σ) := by
  unfold fX7_clear
  refine FR_st (by simp) (fun _ => ?_)
  refine FR_st (by simp) (fun _ => ?_)
  refine FR_bd (frJ7_fill_53178 _ _ _ _ _) (by decide) (fun _ _ => ?_)
  refine FR_bd (frJ7_fill_53178 _ _ _ _ _) (by decide) (fun _ _ => ?_)
  refine FR_bd (frJ7_fill_53178 _ _ _ _ _) (by decide) (fun _ _ => ?_)
  refine FR_st (by simp) (fun _ => ?_)
  refine FR_st (by simp) (fun _ => ?_)
  refine FR_st (by simp) (fun _ => ?_)
  refine FR_st (by simp) (fun _ => ?_)
  refine FR_st (by simp) (fun _ => ?_)
  refine FR_st (by simp) (fun _ => ?_)
  exact FR_some
theorem frX7_find_L2 (k0 : Nat) (x1 : Int32) (x2 : Int32) (σ : rS) : FR [] σ (fX7_find_L2 k0 x1 x2 σ) := by
  unfold fX7_find_L2
  refine FR_ite ?_ ?_
  · skip
    refine FR_bnd ?_
    refine FR_ite ?_ ?_
    · skip
      exact FR_some
    · skip
      exact FR_some
  · skip
    exact FR_some
theorem frX7_find (k0 : Nat) (x1 : Int32) (σ : rS) : FR [] σ (fX7_find k0 x1 σ) := by
  unfold fX7_find
  refine FR_bd (FR_lp (fun x σ => frX7_find_L2 _ _ _ _) _ _ _) (by decide) (fun _ _ => ?_)
  split
  · skip
    exact FR_some
  · skip
    exact FR_some
theorem frX7_findAt_j48L2 (k0 : Nat) (x1 : Int32) (x2 : Int32) (x3 : Int32) (σ : rS) : FR [] σ (fX7_findAt_j48L2 k0 x1 x2 x3 σ) := by
  unfold fX7_findAt_j48L2
  exact FR_some
theorem frX7_findAt_L2 (k0 : Nat) (x1 : Int32) (x2 : Int32) (x3 : Int32) (σ : rS) : FR [] σ (fX7_findAt_L2 k0 x1 x2 x3 σ) := by
  unfold fX7_findAt_L2
  refine FR_ite ?_ ?_
  · skip
    refine FR_bnd ?_
    refine FR_ite ?_ ?_
    · skip
      refine FR_bnd ?_
      refine FR_ite ?_ ?_
      · skip
        exact FR_sub (frX7_findAt_j48L2 _ _ _ _ _) (by decide)
      · skip
        refine FR_bnd ?_
        refine FR_bd (frX7_cells _ _ _) (by decide) (fun _ _ => ?_)
        refine FR_ite ?_ ?_
        · skip
          exact FR_some
        · skip
          exact FR_sub (frX7_findAt_j48L2 _ _ _ _ _) (by decide)
    · skip
      exact FR_sub (frX7_findAt_j48L2 _ _ _ _ _) (by decide)
  · skip
    exact FR_some
theorem frX7_findAt (k0 : Nat) (x1 : Int32) (x2 : Int32) (σ : rS) : FR [] σ (fX7_findAt k0 x1 x2 σ) := by
  unfold fX7_findAt
  refine FR_bd (FR_lp (fun x σ => frX7_findAt_L2 _ _ _ _ _) _ _ _) (by decide) (fun _ _ => ?_)
  split
  · skip
    exact FR_some
  · skip
    exact FR_some
theorem frX7_greatestAge_L4 (k0 : Nat) (x1 : Int32) (x2 : Int32) (σ : rS) : FR [] σ (fX7_greatestAge_L4 k0 x1 x2 σ) := by
  unfold fX7_greatestAge_L4
  refine FR_ite ?_ ?_
  · skip
    refine FR_bnd ?_
    refine FR_rd (fun _ => ?_)
    exact FR_some
  · skip
    exact FR_some
theorem frX7_greatestAge (k0 : Nat) (σ : rS) : FR [] σ (fX7_greatestAge k0 σ) := by
  unfold fX7_greatestAge
  refine FR_bd (FR_lp (fun x σ => frX7_greatestAge_L4 _ _ _ _) _ _ _) (by decide) (fun _ _ => ?_)
  exact FR_some
theorem frX7_linkedRoots_j26L4 (k0 : Nat) (x1 : Int32) (x2 : Int32) (σ : rS) : FR [] σ (fX7_linkedRoots_j26L4 k0 x1 x2 σ) := by
  unfold fX7_linkedRoots_j26L4
  exact FR_some
theorem frX7_linkedRoots_L4 (k0 : Nat) (x1 : Int32) (x2 : Int32) (σ : rS) : FR [] σ (fX7_linkedRoots_L4 k0 x1 x2 σ) := by
  unfold fX7_linkedRoots_L4
  refine FR_ite ?_ ?_
  · skip
    refine FR_bnd ?_
    refine FR_ite ?_ ?_
    · skip
      exact FR_sub (frX7_linkedRoots_j26L4 _ _ _ _) (by decide)
    · skip
      refine FR_rd (fun _ => ?_)
      exact FR_sub (frX7_linkedRoots_j26L4 _ _ _ _) (by decide)
  · skip
    exact FR_some
theorem frX7_linkedRoots (k0 : Nat) (σ : rS) : FR [] σ (fX7_linkedRoots k0 σ) := by
  unfold fX7_linkedRoots
  refine FR_bd (FR_lp (fun x σ => frX7_linkedRoots_L4 _ _ _ _) _ _ _) (by decide) (fun _ _ => ?_)
  exact FR_some
theorem frX9_feed (x1 : Int32) (x2 : Int32) (x3 : Int32) (x4 : Int32) (x5 : Int32) (σ : rS) : FR [8, 25] σ (fX9_feed x1 x2 x3 x4 x5 σ) := by
  unfold fX9_feed
  refine FR_bd (frX8_bytesIn _ _) (by decide) (fun _ _ => ?_)
  refine FR_bd (frX8_bytesIn _ _) (by decide) (fun _ _ => ?_)
  refine FR_bd (frX8_bytesIn _ _) (by decide) (fun _ _ => ?_)
  refine FR_bd (frX8_bytesIn _ _) (by decide) (fun _ _ => ?_)
  refine FR_bd (frX8_bytesIn _ _) (by decide) (fun _ _ => ?_)
  refine FR_rd (fun _ => ?_)
  refine FR_ite ?_ ?_
  · skip
    exact FR_some
  · skip
    refine FR_bd (frX8_addBytes _ _) (by decide) (fun _ _ => ?_)
    refine FR_bd (frX8_addBytes _ _) (by decide) (fun _ _ => ?_)
    refine FR_bd (frX8_addBytes _ _) (by decide) (fun _ _ => ?_)
    refine FR_bd (frX8_addBytes _ _) (by decide) (fun _ _ => ?_)
    refine FR_bd (frX8_addBytes _ _) (by decide) (fun _ _ => ?_)
    exact FR_some
theorem frX9_end (x1 : Int32) (σ : rS) : FR [8] σ (fX9_end x1 σ) := by
  unfold fX9_end
  refine FR_ite ?_ ?_
  · skip
    exact FR_some
  · skip
    refine FR_ite ?_ ?_
    · skip
      exact FR_some
    · skip
      refine FR_st (by simp) (fun _ => ?_)
      exact FR_some
theorem frX9_fault (x1 : Int32) (σ : rS) : FR [6, 26, 27] σ (fX9_fault x1 σ) := by
  unfold fX9_fault
  refine FR_ite ?_ ?_
  · skip
    refine FR_bd (frX6_readHeap _) (by decide) (fun _ _ => ?_)
    exact FR_some
  · skip
    refine FR_ite ?_ ?_
    · skip
      refine FR_bd (frX6_readScript _) (by decide) (fun _ _ => ?_)
      exact FR_some
    · skip
      exact FR_some
theorem frX9_takeHeap  (σ : rS) : FR [4, 5, 6, 7, 8, 9, 20, 26, 53, 54, 55] σ (fX9_takeHeap  σ) := by
  unfold fX9_takeHeap
  refine FR_bd (frX6_readHeap _) (by decide) (fun _ _ => ?_)
  refine FR_ite ?_ ?_
  · skip
    refine FR_bcp ?_
    refine FR_stR (by simp) (fun _ => ?_)
    refine FR_st (by simp) (fun _ => ?_)
    refine FR_st (by simp) (fun _ => ?_)
    refine FR_st (by simp) (fun _ => ?_)
    refine FR_bd (frX7_clear _ _) (by decide) (fun _ _ => ?_)
    refine FR_st (by simp) (fun _ => ?_)
    exact FR_some
  · skip
    exact FR_some
theorem frX9_takeScript  (σ : rS) : FR [6, 8, 9, 21, 24, 27] σ (fX9_takeScript  σ) := by
  unfold fX9_takeScript
  refine FR_ite ?_ ?_
  · skip
    refine FR_bd (frX6_readScript _) (by decide) (fun _ _ => ?_)
    refine FR_ite ?_ ?_
    · skip
      refine FR_bnd ?_
      refine FR_bcp ?_
      refine FR_stR (by simp) (fun _ => ?_)
      refine FR_bnd ?_
      refine FR_st (by simp) (fun _ => ?_)
      refine FR_st (by simp) (fun _ => ?_)
      refine FR_st (by simp) (fun _ => ?_)
      exact FR_some
    · skip
      exact FR_some
  · skip
    exact FR_some
theorem frX9_text (x1 : Int32) (σ : rS) : FR [4, 5, 6, 7, 8, 9, 20, 21, 24, 26, 27, 53, 54, 55] σ (fX9_text x1 σ) := by
  unfold fX9_text
  refine FR_ite ?_ ?_
  · skip
    refine FR_bd (frX9_takeHeap _) (by decide) (fun _ _ => ?_)
    exact FR_some
  · skip
    refine FR_ite ?_ ?_
    · skip
      refine FR_bd (frX9_takeScript _) (by decide) (fun _ _ => ?_)
      exact FR_some
    · skip
      exact FR_some
theorem frX9_rule (x1 : Int32) (σ : rS) : FR [] σ (fX9_rule x1 σ) := by
  unfold fX9_rule
  refine FR_ite ?_ ?_
  · skip
    exact FR_some
  · skip
    refine FR_ite ?_ ?_
    · skip
      exact FR_some
    · skip
      refine FR_ite ?_ ?_
      · skip
        refine FR_bnd ?_
        exact FR_some
      · skip
        exact FR_some
theorem frX9_root (x1 : Int32) (σ : rS) : FR [] σ (fX9_root x1 σ) := by
  unfold fX9_root
  refine FR_ite ?_ ?_
  · skip
    exact FR_some
  · skip
    refine FR_bd (frX9_isRoot _ _) (by decide) (fun _ _ => ?_)
    refine FR_ite ?_ ?_
    · skip
      exact FR_some
    · skip
      refine FR_bnd ?_
      refine FR_bd (frX7_numberOf _ _ _) (by decide) (fun _ _ => ?_)
      exact FR_some
theorem frX9_isReached (x1 : Int32) (σ : rS) : FR [3, 30, 31, 32, 33, 34] σ (fX9_isReached x1 σ) := by
  unfold fX9_isReached
  refine FR_bd (frX3_reach _ _ _) (by decide) (fun _ _ => ?_)
  refine FR_bd (frX3_isSeen _ _) (by decide) (fun _ _ => ?_)
  refine FR_bz ?_
  exact FR_some
theorem frX9_thing_j24  (σ : rS) : FR [] σ (fX9_thing_j24  σ) := by
  unfold fX9_thing_j24
  exact FR_none
theorem frX9_thing (x1 : Int32) (x2 : Int32) (σ : rS) : FR [3, 30, 31, 32, 33, 34] σ (fX9_thing x1 x2 σ) := by
  unfold fX9_thing
  refine FR_bd (frX7_find _ _ _) (by decide) (fun _ _ => ?_)
  refine FR_ite ?_ ?_
  · skip
    exact FR_sub (frX9_thing_j24 _) (by decide)
  · skip
    refine FR_ite ?_ ?_
    · skip
      exact FR_sub (frX9_thing_j24 _) (by decide)
    · skip
      refine FR_ite ?_ ?_
      · skip
        exact FR_sub (frX9_thing_j24 _) (by decide)
      · skip
        refine FR_ite ?_ ?_
        · skip
          refine FR_bnd ?_
          exact FR_some
        · skip
          refine FR_ite ?_ ?_
          · skip
            refine FR_bnd ?_
            exact FR_some
          · skip
            refine FR_ite ?_ ?_
            · skip
              refine FR_bnd ?_
              exact FR_some
            · skip
              refine FR_ite ?_ ?_
              · skip
                refine FR_bnd ?_
                exact FR_some
              · skip
                refine FR_ite ?_ ?_
                · skip
                  refine FR_bnd ?_
                  exact FR_some
                · skip
                  refine FR_ite ?_ ?_
                  · skip
                    refine FR_bnd ?_
                    exact FR_some
                  · skip
                    refine FR_ite ?_ ?_
                    · skip
                      refine FR_bd (frX9_isReached _ _) (by decide) (fun _ _ => ?_)
                      refine FR_ite ?_ ?_
                      · skip
                        exact FR_some
                      · skip
                        exact FR_some
                    · skip
                      refine FR_bd (frX4_holds _ _ _) (by decide) (fun _ _ => ?_)
                      refine FR_ite ?_ ?_
                      · skip
                        exact FR_some
                      · skip
                        exact FR_some
theorem frX9_field (x1 : Int32) (x2 : Int32) (σ : rS) : FR [] σ (fX9_field x1 x2 σ) := by
  unfold fX9_field
  refine FR_bd (frX7_find _ _ _) (by decide) (fun _ _ => ?_)
  refine FR_bd (frX7_hasField _ _ _ _) (by decide) (fun _ _ => ?_)
  refine FR_ite ?_ ?_
  · skip
    exact FR_some
  · skip
    refine FR_bd (frX7_target _ _ _ _) (by decide) (fun _ _ => ?_)
    refine FR_bd (frX7_numberOf _ _ _) (by decide) (fun _ _ => ?_)
    exact FR_some
theorem frX9_at (x1 : Int32) (x2 : Int32) (σ : rS) : FR [] σ (fX9_at x1 x2 σ) := by
  unfold fX9_at
  refine FR_bd (frX7_findAt _ _ _ _) (by decide) (fun _ _ => ?_)
  refine FR_ite ?_ ?_
  · skip
    exact FR_some
  · skip
    refine FR_bd (frX7_numberOf _ _ _) (by decide) (fun _ _ => ?_)
    exact FR_some
theorem frX9_status (x1 : Int32) (σ : rS) : FR [] σ (fX9_status x1 σ) := by
  unfold fX9_status
  refine FR_ite ?_ ?_
  · skip
    exact FR_some
  · skip
    refine FR_ite ?_ ?_
    · skip
      refine FR_bnd ?_
      exact FR_some
    · skip
      exact FR_some
theorem frX9_undo  (σ : rS) : FR [4, 5, 7, 28, 45, 46, 47, 48, 49, 50, 51, 52, 53, 54, 55] σ (fX9_undo  σ) := by
  unfold fX9_undo
  refine FR_bd (frX5_takeBack _ _) (by decide) (fun _ _ => ?_)
  refine FR_ite ?_ ?_
  · skip
    exact FR_some
  · skip
    exact FR_some
theorem frX9_log (x1 : Int32) (x2 : Int32) (σ : rS) : FR [] σ (fX9_log x1 x2 σ) := by
  unfold fX9_log
  refine FR_rd (fun _ => ?_)
  refine FR_ite ?_ ?_
  · skip
    exact FR_some
  · skip
    refine FR_ite ?_ ?_
    · skip
      refine FR_ite ?_ ?_
      · skip
        exact FR_some
      · skip
        refine FR_ite ?_ ?_
        · skip
          exact FR_some
        · skip
          refine FR_rd (fun _ => ?_)
          refine FR_ite ?_ ?_
          · skip
            refine FR_bd (frX4_get _ _ _) (by decide) (fun _ _ => ?_)
            exact FR_some
          · skip
            refine FR_ite ?_ ?_
            · skip
              refine FR_bd (frX4_get _ _ _) (by decide) (fun _ _ => ?_)
              exact FR_some
            · skip
              refine FR_bd (frX4_get _ _ _) (by decide) (fun _ _ => ?_)
              exact FR_some
    · skip
      exact FR_some
theorem frX9_remembered (x1 : Int32) (x2 : Int32) (σ : rS) : FR [] σ (fX9_remembered x1 x2 σ) := by
  unfold fX9_remembered
  refine FR_ite ?_ ?_
  · skip
    exact FR_some
  · skip
    refine FR_ite ?_ ?_
    · skip
      exact FR_some
    · skip
      refine FR_ite ?_ ?_
      · skip
        exact FR_some
      · skip
        refine FR_ite ?_ ?_
        · skip
          refine FR_ite ?_ ?_
          · skip
            exact FR_some
          · skip
            refine FR_ite ?_ ?_
            · skip
              exact FR_some
            · skip
              refine FR_bd (frX4_get _ _ _) (by decide) (fun _ _ => ?_)
              refine FR_ite ?_ ?_
              · skip
                refine FR_bd (frX7_numberOf _ _ _) (by decide) (fun _ _ => ?_)
                exact FR_some
              · skip
                exact FR_some
        · skip
          exact FR_some
theorem frX9_line_j39 (x1 : Int32) (x2 : Int32) (kz0 : Nat) (σ : rS) : FR [] σ (fX9_line_j39 x1 x2 kz0 σ) := by
  unfold fX9_line_j39
  refine FR_ite ?_ ?_
  · skip
    exact FR_some
  · skip
    refine FR_ite ?_ ?_
    · skip
      exact FR_some
    · skip
      refine FR_ite ?_ ?_
      · skip
        refine FR_ite ?_ ?_
        · skip
          refine FR_bd (frX4_get _ _ _) (by decide) (fun _ _ => ?_)
          refine FR_bd (frX7_numberOf _ _ _) (by decide) (fun _ _ => ?_)
          exact FR_some
        · skip
          refine FR_bd (frX4_get _ _ _) (by decide) (fun _ _ => ?_)
          exact FR_some
      · skip
        exact FR_some
theorem frX9_line (x1 : Int32) (x2 : Int32) (σ : rS) : FR [] σ (fX9_line x1 x2 σ) := by
  unfold fX9_line
  refine FR_ite ?_ ?_
  · skip
    exact FR_some
  · skip
    refine FR_ite ?_ ?_
    · skip
      exact FR_some
    · skip
      refine FR_ite ?_ ?_
      · skip
        exact FR_some
      · skip
        refine FR_ite ?_ ?_
        · skip
          exact FR_sub (frX9_line_j39 _ _ _ _) (by decide)
        · skip
          exact FR_sub (frX9_line_j39 _ _ _ _) (by decide)
theorem frX9_would (x1 : Int32) (x2 : Int32) (σ : rS) : FR [1, 3, 4, 7, 28, 30, 31, 32, 33, 34, 37, 38, 39, 40, 41, 42, 43, 44, 45, 46, 47, 48, 49, 50, 51, 52, 53, 54, 55] σ (fX9_would x1 x2 σ) := by
  unfold fX9_would
  refine FR_ite ?_ ?_
  · skip
    exact FR_some
  · skip
    refine FR_ite ?_ ?_
    · skip
      exact FR_some
    · skip
      refine FR_ite ?_ ?_
      · skip
        refine FR_bd (frX7_copyFrom _ _ _) (by decide) (fun _ _ => ?_)
        refine FR_ite ?_ ?_
        · skip
          refine FR_bd (frX1_collectYoung _ _) (by decide) (fun _ _ => ?_)
          refine FR_ite ?_ ?_
          · skip
            exact FR_some
          · skip
            refine FR_bnd ?_
            exact FR_some
        · skip
          refine FR_bd (frX1_collectAll _ _) (by decide) (fun _ _ => ?_)
          refine FR_bnd ?_
          exact FR_some
      · skip
        exact FR_some
theorem frX9_path (x1 : Int32) (x2 : Int32) (σ : rS) : FR [3, 30, 31, 32, 33, 34] σ (fX9_path x1 x2 σ) := by
  unfold fX9_path
  refine FR_bd (frX7_find _ _ _) (by decide) (fun _ _ => ?_)
  refine FR_ite ?_ ?_
  · skip
    exact FR_some
  · skip
    refine FR_bd (frX3_findWays _ _) (by decide) (fun _ _ => ?_)
    refine FR_bd (frX3_wayTo _ _ _ _) (by decide) (fun _ _ => ?_)
    exact FR_some
theorem frX9_alone_j75 (x1 : Int32) (x2 : Int32) (z0 : Int32) (σ : rS) : FR [3, 30, 31, 32, 33, 34] σ (fX9_alone_j75 x1 x2 z0 σ) := by
  unfold fX9_alone_j75
  refine FR_bd (frX3_reach _ _ _) (by decide) (fun _ _ => ?_)
  refine FR_ite ?_ ?_
  · skip
    refine FR_rd (fun _ => ?_)
    exact FR_some
  · skip
    refine FR_bd (frX3_seenCells _ _) (by decide) (fun _ _ => ?_)
    exact FR_some
theorem frX9_alone (x1 : Int32) (x2 : Int32) (σ : rS) : FR [3, 30, 31, 32, 33, 34] σ (fX9_alone x1 x2 σ) := by
  unfold fX9_alone
  refine FR_ite ?_ ?_
  · skip
    exact FR_some
  · skip
    refine FR_bd (frX9_isRoot _ _) (by decide) (fun _ _ => ?_)
    refine FR_ite ?_ ?_
    · skip
      exact FR_some
    · skip
      refine FR_bnd ?_
      refine FR_ite ?_ ?_
      · skip
        exact FR_some
      · skip
        refine FR_ite ?_ ?_
        · skip
          exact FR_some
        · skip
          refine FR_ite ?_ ?_
          · skip
            exact FR_some
          · skip
            refine FR_bd (frX3_reach _ _ _) (by decide) (fun _ _ => ?_)
            refine FR_ite ?_ ?_
            · skip
              exact FR_sub (frX9_alone_j75 _ _ _ _) (by decide)
            · skip
              refine FR_bd (frX3_seenCells _ _) (by decide) (fun _ _ => ?_)
              exact FR_sub (frX9_alone_j75 _ _ _ _) (by decide)
theorem frX9_holders (x1 : Int32) (σ : rS) : FR [3, 30, 31, 32, 33, 34] σ (fX9_holders x1 σ) := by
  unfold fX9_holders
  refine FR_bd (frX7_find _ _ _) (by decide) (fun _ _ => ?_)
  refine FR_ite ?_ ?_
  · skip
    exact FR_some
  · skip
    refine FR_bd (frX3_reach _ _ _) (by decide) (fun _ _ => ?_)
    refine FR_bd (frX3_holdersOf _ _ _) (by decide) (fun _ _ => ?_)
    exact FR_some
theorem frX9_round (x1 : Int32) (σ : rS) : FR [3, 30, 31, 32, 33, 34] σ (fX9_round x1 σ) := by
  unfold fX9_round
  refine FR_bd (frX7_find _ _ _) (by decide) (fun _ _ => ?_)
  refine FR_ite ?_ ?_
  · skip
    exact FR_some
  · skip
    refine FR_bd (frX3_wayBack _ _ _) (by decide) (fun _ _ => ?_)
    exact FR_some
theorem frX9_room (x1 : Int32) (σ : rS) : FR [] σ (fX9_room x1 σ) := by
  unfold fX9_room
  refine FR_ite ?_ ?_
  · skip
    exact FR_some
  · skip
    refine FR_ite ?_ ?_
    · skip
      exact FR_some
    · skip
      refine FR_ite ?_ ?_
      · skip
        exact FR_some
      · skip
        refine FR_bnz ?_
        exact FR_some
theorem frX9_alike (x1 : Int32) (x2 : Int32) (σ : rS) : FR [3, 31, 35, 36] σ (fX9_alike x1 x2 σ) := by
  unfold fX9_alike
  refine FR_ite ?_ ?_
  · skip
    exact FR_some
  · skip
    refine FR_bd (frX9_isRoot _ _) (by decide) (fun _ _ => ?_)
    refine FR_ite ?_ ?_
    · skip
      exact FR_some
    · skip
      refine FR_bd (frX9_isRoot _ _) (by decide) (fun _ _ => ?_)
      refine FR_ite ?_ ?_
      · skip
        exact FR_some
      · skip
        refine FR_bnd ?_
        refine FR_rd (fun _ => ?_)
        refine FR_bnd ?_
        refine FR_rd (fun _ => ?_)
        refine FR_ite ?_ ?_
        · skip
          exact FR_some
        · skip
          refine FR_ite ?_ ?_
          · skip
            exact FR_some
          · skip
            refine FR_bd (frX3_areAlike _ _ _ _) (by decide) (fun _ _ => ?_)
            refine FR_ite ?_ ?_
            · skip
              exact FR_some
            · skip
              exact FR_some
theorem frX9_until_L27 (x1 : Int32) (x2 : Int32) (σ : rS) : FR [1, 4, 7, 28, 37, 38, 39, 40, 41, 42, 43, 45, 46, 47, 48, 49, 50, 51, 52, 53, 54, 55] σ (fX9_until_L27 x1 x2 σ) := by
  unfold fX9_until_L27
  refine FR_ite ?_ ?_
  · skip
    exact FR_some
  · skip
    refine FR_bd (frX7_find _ _ _) (by decide) (fun _ _ => ?_)
    refine FR_ite ?_ ?_
    · skip
      exact FR_some
    · skip
      refine FR_bd (frX7_isYoung _ _ _) (by decide) (fun _ _ => ?_)
      refine FR_ite ?_ ?_
      · skip
        exact FR_some
      · skip
        refine FR_bd (frX1_collectYoung _ _) (by decide) (fun _ _ => ?_)
        refine FR_ite ?_ ?_
        · skip
          exact FR_some
        · skip
          exact FR_some
theorem frX9_until (x1 : Int32) (σ : rS) : FR [1, 4, 7, 28, 37, 38, 39, 40, 41, 42, 43, 45, 46, 47, 48, 49, 50, 51, 52, 53, 54, 55] σ (fX9_until x1 σ) := by
  unfold fX9_until
  refine FR_bd (frX7_find _ _ _) (by decide) (fun _ _ => ?_)
  refine FR_ite ?_ ?_
  · skip
    exact FR_some
  · skip
    refine FR_bd (frX7_copyFrom _ _ _) (by decide) (fun _ _ => ?_)
    refine FR_bd (FR_lp (fun x σ => frX9_until_L27 _ _ _) _ _ _) (by decide) (fun _ _ => ?_)
    split
    · skip
      exact FR_some
    · skip
      exact FR_some
    · skip
      exact FR_some
    · skip
      exact FR_some
theorem frX9_garbage (x1 : Int32) (σ : rS) : FR [3, 30, 31, 32, 33, 34] σ (fX9_garbage x1 σ) := by
  unfold fX9_garbage
  refine FR_ite ?_ ?_
  · skip
    exact FR_some
  · skip
    refine FR_ite ?_ ?_
    · skip
      exact FR_some
    · skip
      refine FR_ite ?_ ?_
      · skip
        refine FR_bd (frX3_reach _ _ _) (by decide) (fun _ _ => ?_)
        refine FR_bd (frX3_unseenCells _ _ _) (by decide) (fun _ _ => ?_)
        exact FR_some
      · skip
        exact FR_some
theorem frX9_isScript (x1 : Int32) (σ : rS) : FR [] σ (fX9_isScript x1 σ) := by
  unfold fX9_isScript
  refine FR_ite ?_ ?_
  · skip
    exact FR_some
  · skip
    refine FR_ite ?_ ?_
    · skip
      exact FR_some
    · skip
      exact FR_some
theorem frX9_step (x1 : Int32) (x2 : Int32) (x3 : Int32) (σ : rS) : FR [] σ (fX9_step x1 x2 x3 σ) := by
  unfold fX9_step
  refine FR_bd (frX9_isScript _ _) (by decide) (fun _ _ => ?_)
  refine FR_ite ?_ ?_
  · skip
    exact FR_some
  · skip
    refine FR_ite ?_ ?_
    · skip
      exact FR_some
    · skip
      refine FR_bnd ?_
      refine FR_ite ?_ ?_
      · skip
        refine FR_ite ?_ ?_
        · skip
          exact FR_some
        · skip
          refine FR_ite ?_ ?_
          · skip
            refine FR_bnd ?_
            refine FR_bnd ?_
            exact FR_some
          · skip
            exact FR_some
      · skip
        exact FR_some
theorem frX9_runOnTrial_L13 (k1 : Nat) (x2 : Int32) (x3 : Int32) (σ : rS) : FR [1, 3, 4, 7, 28, 30, 31, 32, 33, 34, 37, 38, 39, 40, 41, 42, 43, 44, 45, 46, 47, 48, 49, 50, 51, 52, 53, 54, 55] σ (fX9_runOnTrial_L13 k1 x2 x3 σ) := by
  unfold fX9_runOnTrial_L13
  refine FR_ite ?_ ?_
  · skip
    refine FR_rd (fun _ => ?_)
    refine FR_bnd ?_
    refine FR_bnd ?_
    refine FR_bnd ?_
    refine FR_bnd ?_
    refine FR_bnd ?_
    refine FR_bd (frX0_apply _ _ _ _ _ _ _) (by decide) (fun _ _ => ?_)
    refine FR_ite ?_ ?_
    · skip
      exact FR_some
    · skip
      exact FR_some
  · skip
    exact FR_some
theorem frX9_runOnTrial (k1 : Nat) (x2 : Int32) (σ : rS) : FR [1, 3, 4, 7, 28, 30, 31, 32, 33, 34, 37, 38, 39, 40, 41, 42, 43, 44, 45, 46, 47, 48, 49, 50, 51, 52, 53, 54, 55] σ (fX9_runOnTrial k1 x2 σ) := by
  unfold fX9_runOnTrial
  refine FR_bd (frX7_copyFrom _ _ _) (by decide) (fun _ _ => ?_)
  refine FR_bd (FR_lp (fun x σ => frX9_runOnTrial_L13 _ _ _ _) _ _ _) (by decide) (fun _ _ => ?_)
  split
  · skip
    exact FR_some
  · skip
    exact FR_some
theorem frX9_run (x1 : Int32) (x2 : Int32) (σ : rS) : FR [1, 3, 4, 7, 28, 30, 31, 32, 33, 34, 37, 38, 39, 40, 41, 42, 43, 44, 45, 46, 47, 48, 49, 50, 51, 52, 53, 54, 55] σ (fX9_run x1 x2 σ) := by
  unfold fX9_run
  refine FR_ite ?_ ?_
  · skip
    exact FR_some
  · skip
    refine FR_bd (frX9_isScript _ _) (by decide) (fun _ _ => ?_)
    refine FR_ite ?_ ?_
    · skip
      exact FR_some
    · skip
      refine FR_ite ?_ ?_
      · skip
        exact FR_some
      · skip
        refine FR_ite ?_ ?_
        · skip
          exact FR_some
        · skip
          refine FR_bnd ?_
          refine FR_bnd ?_
          refine FR_bd (frX9_runOnTrial _ _ _) (by decide) (fun _ _ => ?_)
          refine FR_ite ?_ ?_
          · skip
            refine FR_bd (frX7_cellsInUse _ _) (by decide) (fun _ _ => ?_)
            exact FR_some
          · skip
            refine FR_bnd ?_
            refine FR_ite ?_ ?_
            · skip
              exact FR_some
            · skip
              exact FR_some
theorem frX9_reachedCount  (σ : rS) : FR [3, 30, 31, 32, 33, 34] σ (fX9_reachedCount  σ) := by
  unfold fX9_reachedCount
  refine FR_bd (frX3_reach _ _ _) (by decide) (fun _ _ => ?_)
  exact FR_some
theorem frX9_most_j58 (x1 : Int32) (σ : rS) : FR [3, 30, 31, 32, 33, 34] σ (fX9_most_j58 x1 σ) := by
  unfold fX9_most_j58
  refine FR_ite ?_ ?_
  · skip
    exact FR_some
  · skip
    refine FR_ite ?_ ?_
    · skip
      refine FR_bd (frX9_reachedCount _) (by decide) (fun _ _ => ?_)
      exact FR_some
    · skip
      refine FR_ite ?_ ?_
      · skip
        refine FR_bd (frX7_greatestAge _ _) (by decide) (fun _ _ => ?_)
        exact FR_some
      · skip
        refine FR_ite ?_ ?_
        · skip
          refine FR_bd (frX7_linkedRoots _ _) (by decide) (fun _ _ => ?_)
          exact FR_some
        · skip
          exact FR_some
theorem frX9_most (x1 : Int32) (σ : rS) : FR [3, 30, 31, 32, 33, 34] σ (fX9_most x1 σ) := by
  unfold fX9_most
  refine FR_ite ?_ ?_
  · skip
    exact FR_some
  · skip
    refine FR_ite ?_ ?_
    · skip
      exact FR_some
    · skip
      refine FR_ite ?_ ?_
      · skip
        exact FR_some
      · skip
        refine FR_ite ?_ ?_
        · skip
          refine FR_bnd ?_
          exact FR_some
        · skip
          refine FR_ite ?_ ?_
          · skip
            exact FR_sub (frX9_most_j58 _ _) (by decide)
          · skip
            refine FR_ite ?_ ?_
            · skip
              refine FR_bnd ?_
              exact FR_some
            · skip
              exact FR_sub (frX9_most_j58 _ _) (by decide)
theorem frX9_image  (σ : rS) : FR [4, 7, 9, 28, 45, 46, 47, 48, 49, 50, 51, 52, 53, 54, 55] σ (fX9_image  σ) := by
  unfold fX9_image
  refine FR_ite ?_ ?_
  · skip
    exact FR_some
  · skip
    refine FR_bd (frX7_copyFrom _ _ _) (by decide) (fun _ _ => ?_)
    refine FR_st (by simp) (fun _ => ?_)
    refine FR_bd (frX7_cellsInUse _ _) (by decide) (fun _ _ => ?_)
    exact FR_some
theorem frX9_back  (σ : rS) : FR [4, 5, 7, 28, 45, 46, 47, 48, 49, 50, 51, 52, 53, 54, 55] σ (fX9_back  σ) := by
  unfold fX9_back
  refine FR_ite ?_ ?_
  · skip
    exact FR_some
  · skip
    refine FR_ite ?_ ?_
    · skip
      exact FR_some
    · skip
      refine FR_bd (frX7_copyFrom _ _ _) (by decide) (fun _ _ => ?_)
      refine FR_st (by simp) (fun _ => ?_)
      refine FR_bd (frX7_cellsInUse _ _) (by decide) (fun _ _ => ?_)
      exact FR_some
theorem frX9_count (x1 : Int32) (σ : rS) : FR [] σ (fX9_count x1 σ) := by
  unfold fX9_count
  refine FR_ite ?_ ?_
  · skip
    exact FR_some
  · skip
    refine FR_ite ?_ ?_
    · skip
      exact FR_some
    · skip
      refine FR_ite ?_ ?_
      · skip
        exact FR_some
      · skip
        refine FR_ite ?_ ?_
        · skip
          exact FR_some
        · skip
          refine FR_ite ?_ ?_
          · skip
            exact FR_some
          · skip
            exact FR_some
theorem frX10_thrown  (σ : rS) : FR [] σ (fX10_thrown  σ) := by
  unfold fX10_thrown
  exact FR_some
theorem frX10_isIn (x0 : Int64) (x2 : Int64) (x4 : Int64) (σ : rS) : FR [] σ (fX10_isIn x0 x2 x4 σ) := by
  unfold fX10_isIn
  refine FR_ite ?_ ?_
  · skip
    exact FR_some
  · skip
    refine FR_ite ?_ ?_
    · skip
      exact FR_some
    · skip
      exact FR_some
theorem frX10_bytesOf_j28L4 (x0 : Int32) (x2 : Int32) (z0 : Int32) (z1 : Int32) (σ : rS) : FR [] σ (fX10_bytesOf_j28L4 x0 x2 z0 z1 σ) := by
  unfold fX10_bytesOf_j28L4
  refine FR_rd (fun _ => ?_)
  exact FR_some
theorem frX10_bytesOf_L4 (x0 : Int32) (x1 : Int32) (x2 : Int32) (σ : rS) : FR [] σ (fX10_bytesOf_L4 x0 x1 x2 σ) := by
  unfold fX10_bytesOf_L4
  refine FR_ite ?_ ?_
  · skip
    refine FR_ite ?_ ?_
    · skip
      exact FR_sub (frX10_bytesOf_j28L4 _ _ _ _ _) (by decide)
    · skip
      exact FR_sub (frX10_bytesOf_j28L4 _ _ _ _ _) (by decide)
  · skip
    exact FR_some
theorem frX10_bytesOf (x0 : Int32) (σ : rS) : FR [] σ (fX10_bytesOf x0 σ) := by
  unfold fX10_bytesOf
  refine FR_bd (FR_lp (fun x σ => frX10_bytesOf_L4 _ _ _ _) _ _ _) (by decide) (fun _ _ => ?_)
  exact FR_some
theorem frX10_brings_j43L3 (x1 : Int32) (x2 : Int32) (σ : rS) : FR [] σ (fX10_brings_j43L3 x1 x2 σ) := by
  unfold fX10_brings_j43L3
  exact FR_some
theorem frX10_brings_L3 (x1 : Int32) (x2 : Int32) (σ : rS) : FR [10, 60] σ (fX10_brings_L3 x1 x2 σ) := by
  unfold fX10_brings_L3
  refine FR_ite ?_ ?_
  · skip
    exact FR_some
  · skip
    refine FR_rd (fun _ => ?_)
    refine FR_ite ?_ ?_
    · skip
      exact FR_sub (frX10_brings_j43L3 _ _ _) (by decide)
    · skip
      refine FR_bnd ?_
      refine FR_st (by simp) (fun _ => ?_)
      refine FR_st (by simp) (fun _ => ?_)
      exact FR_sub (frX10_brings_j43L3 _ _ _) (by decide)
theorem frX10_brings (x1 : Int32) (σ : rS) : FR [10, 60] σ (fX10_brings x1 σ) := by
  unfold fX10_brings
  refine FR_bd (FR_lp (fun x σ => frX10_brings_L3 _ _ _) _ _ _) (by decide) (fun _ _ => ?_)
  exact FR_some
theorem frX10_feed (x1 : Int32) (x2 : Int32) (x3 : Int32) (x4 : Int32) (x5 : Int32) (σ : rS) : FR [10, 60] σ (fX10_feed x1 x2 x3 x4 x5 σ) := by
  unfold fX10_feed
  refine FR_st (by simp) (fun _ => ?_)
  refine FR_bd (frX10_bytesOf _ _) (by decide) (fun _ _ => ?_)
  refine FR_bd (frX10_bytesOf _ _) (by decide) (fun _ _ => ?_)
  refine FR_bd (frX10_bytesOf _ _) (by decide) (fun _ _ => ?_)
  refine FR_bd (frX10_bytesOf _ _) (by decide) (fun _ _ => ?_)
  refine FR_bd (frX10_bytesOf _ _) (by decide) (fun _ _ => ?_)
  refine FR_ite ?_ ?_
  · skip
    exact FR_some
  · skip
    refine FR_bd (frX10_brings _ _) (by decide) (fun _ _ => ?_)
    refine FR_bd (frX10_brings _ _) (by decide) (fun _ _ => ?_)
    refine FR_bd (frX10_brings _ _) (by decide) (fun _ _ => ?_)
    refine FR_bd (frX10_brings _ _) (by decide) (fun _ _ => ?_)
    refine FR_bd (frX10_brings _ _) (by decide) (fun _ _ => ?_)
    exact FR_some
theorem frX10_end (x1 : Int32) (σ : rS) : FR [10] σ (fX10_end x1 σ) := by
  unfold fX10_end
  refine FR_st (by simp) (fun _ => ?_)
  refine FR_ite ?_ ?_
  · skip
    exact FR_some
  · skip
    refine FR_ite ?_ ?_
    · skip
      exact FR_some
    · skip
      refine FR_st (by simp) (fun _ => ?_)
      exact FR_some
theorem frX10_here  (σ : rS) : FR [] σ (fX10_here  σ) := by
  unfold fX10_here
  refine FR_ite ?_ ?_
  · skip
    refine FR_bnd ?_
    exact FR_some
  · skip
    exact FR_some
theorem frX10_look_L0  (σ : rS) : FR [10] σ (fX10_look_L0  σ) := by
  unfold fX10_look_L0
  refine FR_bd (frX10_here _) (by decide) (fun _ _ => ?_)
  refine FR_ite ?_ ?_
  · skip
    refine FR_st (by simp) (fun _ => ?_)
    exact FR_some
  · skip
    exact FR_some
theorem frX10_look  (σ : rS) : FR [10] σ (fX10_look  σ) := by
  unfold fX10_look
  refine FR_bd (frX10_here _) (by decide) (fun _ _ => ?_)
  refine FR_ite ?_ ?_
  · skip
    refine FR_st (by simp) (fun _ => ?_)
    refine FR_bd (FR_lp (fun x σ => frX10_look_L0 _) _ _ _) (by decide) (fun _ _ => ?_)
    refine FR_bd (frX10_here _) (by decide) (fun _ _ => ?_)
    exact FR_some
  · skip
    refine FR_bd (frX10_here _) (by decide) (fun _ _ => ?_)
    exact FR_some
theorem frX10_fails  (σ : rS) : FR [10] σ (fX10_fails  σ) := by
  unfold fX10_fails
  refine FR_ite ?_ ?_
  · skip
    refine FR_st (by simp) (fun _ => ?_)
    exact FR_some
  · skip
    exact FR_some
theorem frX10_isDigit  (σ : rS) : FR [] σ (fX10_isDigit  σ) := by
  unfold fX10_isDigit
  refine FR_bd (frX10_here _) (by decide) (fun _ _ => ?_)
  refine FR_ite ?_ ?_
  · skip
    exact FR_some
  · skip
    refine FR_bd (frX10_here _) (by decide) (fun _ _ => ?_)
    refine FR_ite ?_ ?_
    · skip
      exact FR_some
    · skip
      exact FR_some
theorem frX10_digit_j20  (σ : rS) : FR [10] σ (fX10_digit_j20  σ) := by
  unfold fX10_digit_j20
  refine FR_bd (frX10_fails _) (by decide) (fun _ _ => ?_)
  exact FR_some
theorem frX10_digit  (σ : rS) : FR [10] σ (fX10_digit  σ) := by
  unfold fX10_digit
  refine FR_bd (frX10_look _) (by decide) (fun _ _ => ?_)
  refine FR_ite ?_ ?_
  · skip
    refine FR_bd (frX10_isDigit _) (by decide) (fun _ _ => ?_)
    refine FR_ite ?_ ?_
    · skip
      exact FR_sub (frX10_digit_j20 _) (by decide)
    · skip
      refine FR_st (by simp) (fun _ => ?_)
      exact FR_some
  · skip
    exact FR_sub (frX10_digit_j20 _) (by decide)
theorem frX10_number_L7 (x1 : Int32) (x2 : Int32) (σ : rS) : FR [10] σ (fX10_number_L7 x1 x2 σ) := by
  unfold fX10_number_L7
  refine FR_ite ?_ ?_
  · skip
    refine FR_ite ?_ ?_
    · skip
      refine FR_bd (frX10_isDigit _) (by decide) (fun _ _ => ?_)
      refine FR_ite ?_ ?_
      · skip
        exact FR_some
      · skip
        refine FR_bd (frX10_digit _) (by decide) (fun _ _ => ?_)
        refine FR_rd (fun _ => ?_)
        exact FR_some
    · skip
      exact FR_some
  · skip
    exact FR_some
theorem frX10_number_j43 (x1 : Int32) (σ : rS) : FR [10] σ (fX10_number_j43 x1 σ) := by
  unfold fX10_number_j43
  refine FR_ite ?_ ?_
  · skip
    refine FR_bd (frX10_isDigit _) (by decide) (fun _ _ => ?_)
    refine FR_ite ?_ ?_
    · skip
      exact FR_some
    · skip
      refine FR_bd (frX10_fails _) (by decide) (fun _ _ => ?_)
      exact FR_some
  · skip
    exact FR_some
theorem frX10_number  (σ : rS) : FR [10] σ (fX10_number  σ) := by
  unfold fX10_number
  refine FR_bd (frX10_digit _) (by decide) (fun _ _ => ?_)
  refine FR_bd (FR_lp (fun x σ => frX10_number_L7 _ _ _) _ _ _) (by decide) (fun _ _ => ?_)
  exact FR_sub (frX10_number_j43 _ _) (by decide)
theorem frJ3_checkIndex_8e157 (x0 : Int32) (x1 : Int32) (σ : rS) : FR [] σ (fJ3_checkIndex_8e157 x0 x1 σ) := by
  unfold fJ3_checkIndex_8e157
  refine FR_ite ?_ ?_
  · skip
    exact FR_none
  · skip
    refine FR_ite ?_ ?_
    · skip
      exact FR_some
    · skip
      exact FR_none
theorem frJ0_checkIndex_df160 (x0 : Int32) (x1 : Int32) (σ : rS) : FR [] σ (fJ0_checkIndex_df160 x0 x1 σ) := by
  unfold fJ0_checkIndex_df160
  refine FR_bd (frJ3_checkIndex_8e157 _ _ _) (by decide) (fun _ _ => ?_)
  exact FR_some
theorem frJ1_charAt_3b067 (s0 : Nat) (x1 : Int32) (σ : rS) : FR [] σ (fJ1_charAt_3b067 s0 x1 σ) := by
  unfold fJ1_charAt_3b067
  refine FR_bd (frJ0_checkIndex_df160 _ _ _) (by decide) (fun _ _ => ?_)
  refine FR_bnd ?_
  exact FR_some
theorem frJ0_charAt_5068e (s0 : Nat) (x1 : Int32) (σ : rS) : FR [] σ (fJ0_charAt_5068e s0 x1 σ) := by
  unfold fJ0_charAt_5068e
  refine FR_bd (frJ0_isLatin1_aae02 _ _) (by decide) (fun _ _ => ?_)
  refine FR_ite ?_ ?_
  · skip
    exact FR_none
  · skip
    refine FR_bd (frJ1_charAt_3b067 _ _ _) (by decide) (fun _ _ => ?_)
    refine FR_bch ?_
    exact FR_some
theorem frX10_spotOf_L2 (s0 : Nat) (x1 : Int32) (x2 : Int32) (σ : rS) : FR [] σ (fX10_spotOf_L2 s0 x1 x2 σ) := by
  unfold fX10_spotOf_L2
  refine FR_bd (frJ0_length_8abf5 _ _) (by decide) (fun _ _ => ?_)
  refine FR_ite ?_ ?_
  · skip
    refine FR_bd (frJ0_charAt_5068e _ _ _) (by decide) (fun _ _ => ?_)
    refine FR_ite ?_ ?_
    · skip
      exact FR_some
    · skip
      exact FR_some
  · skip
    exact FR_some
theorem frX10_spotOf (s0 : Nat) (x1 : Int32) (σ : rS) : FR [] σ (fX10_spotOf s0 x1 σ) := by
  unfold fX10_spotOf
  refine FR_bd (FR_lp (fun x σ => frX10_spotOf_L2 _ _ _ _) _ _ _) (by decide) (fun _ _ => ?_)
  split
  · skip
    exact FR_some
  · skip
    exact FR_some
theorem frX10_leastOf (x0 : Int32) (σ : rS) : FR [] σ (fX10_leastOf x0 σ) := by
  unfold fX10_leastOf
  refine FR_ite ?_ ?_
  · skip
    exact FR_some
  · skip
    refine FR_ite ?_ ?_
    · skip
      exact FR_some
    · skip
      refine FR_ite ?_ ?_
      · skip
        exact FR_some
      · skip
        exact FR_some
theorem frX10_mostOf (x0 : Int32) (σ : rS) : FR [] σ (fX10_mostOf x0 σ) := by
  unfold fX10_mostOf
  refine FR_ite ?_ ?_
  · skip
    exact FR_some
  · skip
    refine FR_ite ?_ ?_
    · skip
      exact FR_some
    · skip
      refine FR_ite ?_ ?_
      · skip
        exact FR_some
      · skip
        exact FR_some
theorem frX10_readHeap_L67 (x1 : Int32) (x2 : Int32) (σ : rS) : FR [10, 61] σ (fX10_readHeap_L67 x1 x2 σ) := by
  unfold fX10_readHeap_L67
  refine FR_ite ?_ ?_
  · skip
    exact FR_some
  · skip
    refine FR_ite ?_ ?_
    · skip
      exact FR_some
    · skip
      refine FR_rd (fun _ => ?_)
      refine FR_st (by simp) (fun _ => ?_)
      refine FR_bd (frX10_number _) (by decide) (fun _ _ => ?_)
      refine FR_bnd ?_
      refine FR_st (by simp) (fun _ => ?_)
      refine FR_ite ?_ ?_
      · skip
        refine FR_bnd ?_
        refine FR_bd (frX10_leastOf _ _) (by decide) (fun _ _ => ?_)
        refine FR_bd (frX10_mostOf _ _) (by decide) (fun _ _ => ?_)
        refine FR_bd (frX10_isIn _ _ _ _) (by decide) (fun _ _ => ?_)
        refine FR_ite ?_ ?_
        · skip
          exact FR_some
        · skip
          refine FR_bd (frX10_look _) (by decide) (fun _ _ => ?_)
          refine FR_bd (frX10_spotOf _ _ _) (by decide) (fun _ _ => ?_)
          exact FR_some
      · skip
        exact FR_some
theorem frX10_readHeap  (σ : rS) : FR [10, 61] σ (fX10_readHeap  σ) := by
  unfold fX10_readHeap
  refine FR_st (by simp) (fun _ => ?_)
  refine FR_st (by simp) (fun _ => ?_)
  refine FR_st (by simp) (fun _ => ?_)
  refine FR_st (by simp) (fun _ => ?_)
  refine FR_bd (frX10_look _) (by decide) (fun _ _ => ?_)
  refine FR_ite ?_ ?_
  · skip
    refine FR_st (by simp) (fun _ => ?_)
    refine FR_bd (frX10_look _) (by decide) (fun _ _ => ?_)
    refine FR_bd (frX10_spotOf _ _ _) (by decide) (fun _ _ => ?_)
    refine FR_bd (FR_lp (fun x σ => frX10_readHeap_L67 _ _ _) _ _ _) (by decide) (fun _ _ => ?_)
    split
    · skip
      refine FR_bd (frX10_fails _) (by decide) (fun _ _ => ?_)
      exact FR_some
    · skip
      exact FR_some
    · skip
      refine FR_st (by simp) (fun _ => ?_)
      refine FR_bd (frX10_fails _) (by decide) (fun _ _ => ?_)
      exact FR_some
    · skip
      refine FR_bd (frX10_look _) (by decide) (fun _ _ => ?_)
      refine FR_ite ?_ ?_
      · skip
        exact FR_some
      · skip
        refine FR_bd (frX10_fails _) (by decide) (fun _ _ => ?_)
        exact FR_some
  · skip
    refine FR_bd (frX10_fails _) (by decide) (fun _ _ => ?_)
    exact FR_some
theorem frX10_numbersOf (x0 : Int32) (σ : rS) : FR [] σ (fX10_numbersOf x0 σ) := by
  unfold fX10_numbersOf
  refine FR_ite ?_ ?_
  · skip
    exact FR_some
  · skip
    refine FR_ite ?_ ?_
    · skip
      exact FR_some
    · skip
      refine FR_ite ?_ ?_
      · skip
        exact FR_some
      · skip
        refine FR_ite ?_ ?_
        · skip
          exact FR_some
        · skip
          refine FR_ite ?_ ?_
          · skip
            exact FR_some
          · skip
            exact FR_some
theorem frX10_readStep_j134L47 (x2 : Int32) (x3 : Int32) (x4 : Int32) (σ : rS) : FR [] σ (fX10_readStep_j134L47 x2 x3 x4 σ) := by
  unfold fX10_readStep_j134L47
  exact FR_some
theorem frX10_readStep_j119L47 (x2 : Int32) (x3 : Int32) (x4 : Int32) (σ : rS) : FR [10, 64] σ (fX10_readStep_j119L47 x2 x3 x4 σ) := by
  unfold fX10_readStep_j119L47
  refine FR_bd (frX10_number _) (by decide) (fun _ _ => ?_)
  refine FR_bnd ?_
  refine FR_st (by simp) (fun _ => ?_)
  exact FR_sub (frX10_readStep_j134L47 _ _ _ _) (by decide)
theorem frX10_readStep_j104L47 (x2 : Int32) (x3 : Int32) (x4 : Int32) (σ : rS) : FR [10, 64] σ (fX10_readStep_j104L47 x2 x3 x4 σ) := by
  unfold fX10_readStep_j104L47
  refine FR_ite ?_ ?_
  · skip
    refine FR_st (by simp) (fun _ => ?_)
    exact FR_sub (frX10_readStep_j119L47 _ _ _ _) (by decide)
  · skip
    exact FR_sub (frX10_readStep_j119L47 _ _ _ _) (by decide)
theorem frX10_readStep_L47 (x2 : Int32) (x3 : Int32) (x4 : Int32) (σ : rS) : FR [10, 64] σ (fX10_readStep_L47 x2 x3 x4 σ) := by
  unfold fX10_readStep_L47
  refine FR_ite ?_ ?_
  · skip
    refine FR_bnd ?_
    refine FR_st (by simp) (fun _ => ?_)
    refine FR_bd (frX10_numbersOf _ _) (by decide) (fun _ _ => ?_)
    refine FR_ite ?_ ?_
    · skip
      refine FR_ite ?_ ?_
      · skip
        refine FR_ite ?_ ?_
        · skip
          refine FR_bd (frX10_look _) (by decide) (fun _ _ => ?_)
          refine FR_ite ?_ ?_
          · skip
            exact FR_sub (frX10_readStep_j104L47 _ _ _ _) (by decide)
          · skip
            exact FR_some
        · skip
          exact FR_sub (frX10_readStep_j104L47 _ _ _ _) (by decide)
      · skip
        exact FR_sub (frX10_readStep_j134L47 _ _ _ _) (by decide)
    · skip
      exact FR_sub (frX10_readStep_j134L47 _ _ _ _) (by decide)
  · skip
    exact FR_some
theorem frX10_readStep (x1 : Int32) (σ : rS) : FR [10, 64] σ (fX10_readStep x1 σ) := by
  unfold fX10_readStep
  refine FR_rd (fun _ => ?_)
  refine FR_bd (frX10_look _) (by decide) (fun _ _ => ?_)
  refine FR_bd (frX10_spotOf _ _ _) (by decide) (fun _ _ => ?_)
  refine FR_ite ?_ ?_
  · skip
    refine FR_bd (frX10_fails _) (by decide) (fun _ _ => ?_)
    exact FR_some
  · skip
    refine FR_st (by simp) (fun _ => ?_)
    refine FR_bnd ?_
    refine FR_st (by simp) (fun _ => ?_)
    refine FR_bd (FR_lp (fun x σ => frX10_readStep_L47 _ _ _ _) _ _ _) (by decide) (fun _ _ => ?_)
    split
    · skip
      refine FR_bd (frX10_fails _) (by decide) (fun _ _ => ?_)
      exact FR_some
    · skip
      exact FR_some
theorem frX10_readScript_j55L4 (x1 : Int32) (x2 : Int32) (σ : rS) : FR [10] σ (fX10_readScript_j55L4 x1 x2 σ) := by
  unfold fX10_readScript_j55L4
  refine FR_ite ?_ ?_
  · skip
    exact FR_some
  · skip
    refine FR_st (by simp) (fun _ => ?_)
    exact FR_some
theorem frX10_readScript_j39L4 (x1 : Int32) (z0 : Int32) (σ : rS) : FR [10] σ (fX10_readScript_j39L4 x1 z0 σ) := by
  unfold fX10_readScript_j39L4
  refine FR_ite ?_ ?_
  · skip
    exact FR_sub (frX10_readScript_j55L4 _ _ _) (by decide)
  · skip
    refine FR_ite ?_ ?_
    · skip
      exact FR_some
    · skip
      exact FR_sub (frX10_readScript_j55L4 _ _ _) (by decide)
theorem frX10_readScript_L4 (x1 : Int32) (x2 : Int32) (σ : rS) : FR [10, 64] σ (fX10_readScript_L4 x1 x2 σ) := by
  unfold fX10_readScript_L4
  refine FR_ite ?_ ?_
  · skip
    exact FR_some
  · skip
    refine FR_bd (frX10_readStep _ _) (by decide) (fun _ _ => ?_)
    refine FR_ite ?_ ?_
    · skip
      refine FR_bd (frX10_look _) (by decide) (fun _ _ => ?_)
      refine FR_ite ?_ ?_
      · skip
        exact FR_sub (frX10_readScript_j39L4 _ _ _) (by decide)
      · skip
        exact FR_sub (frX10_readScript_j39L4 _ _ _) (by decide)
    · skip
      exact FR_some
theorem frX10_readScript  (σ : rS) : FR [10, 64, 65] σ (fX10_readScript  σ) := by
  unfold fX10_readScript
  refine FR_bd (FR_lp (fun x σ => frX10_readScript_L4 _ _ _) _ _ _) (by decide) (fun _ _ => ?_)
  split
  · skip
    exact FR_some
  · skip
    refine FR_bd (frX10_fails _) (by decide) (fun _ _ => ?_)
    exact FR_some
  · skip
    refine FR_st (by simp) (fun _ => ?_)
    refine FR_bd (frX10_look _) (by decide) (fun _ _ => ?_)
    refine FR_ite ?_ ?_
    · skip
      exact FR_some
    · skip
      refine FR_bd (frX10_fails _) (by decide) (fun _ _ => ?_)
      exact FR_some
theorem frX10_fault (x1 : Int32) (σ : rS) : FR [10, 61, 64, 65] σ (fX10_fault x1 σ) := by
  unfold fX10_fault
  refine FR_st (by simp) (fun _ => ?_)
  refine FR_bd (frX10_isIn _ _ _ _) (by decide) (fun _ _ => ?_)
  refine FR_ite ?_ ?_
  · skip
    exact FR_some
  · skip
    refine FR_st (by simp) (fun _ => ?_)
    refine FR_st (by simp) (fun _ => ?_)
    refine FR_ite ?_ ?_
    · skip
      refine FR_bd (frX10_readHeap _) (by decide) (fun _ _ => ?_)
      exact FR_some
    · skip
      refine FR_bd (frX10_readScript _) (by decide) (fun _ _ => ?_)
      exact FR_some
theorem frX10_text_L122 (x2 : Int32) (σ : rS) : FR [62] σ (fX10_text_L122 x2 σ) := by
  unfold fX10_text_L122
  refine FR_ite ?_ ?_
  · skip
    refine FR_bnd ?_
    refine FR_bnd ?_
    refine FR_st (by simp) (fun _ => ?_)
    exact FR_some
  · skip
    exact FR_some
theorem frX10_text_L147 (x2 : Int32) (σ : rS) : FR [66] σ (fX10_text_L147 x2 σ) := by
  unfold fX10_text_L147
  refine FR_ite ?_ ?_
  · skip
    refine FR_bnd ?_
    refine FR_st (by simp) (fun _ => ?_)
    exact FR_some
  · skip
    exact FR_some
theorem frX10_text_L54 (x2 : Int32) (x3 : Int32) (σ : rS) : FR [64] σ (fX10_text_L54 x2 x3 σ) := by
  unfold fX10_text_L54
  refine FR_ite ?_ ?_
  · skip
    refine FR_bnd ?_
    refine FR_bnd ?_
    refine FR_st (by simp) (fun _ => ?_)
    exact FR_some
  · skip
    exact FR_some
theorem frX10_text_j28 (x1 : Int32) (σ : rS) : FR [10, 61, 62, 64, 65, 66] σ (fX10_text_j28 x1 σ) := by
  unfold fX10_text_j28
  refine FR_bd (frX10_fault _ _) (by decide) (fun _ _ => ?_)
  refine FR_ite ?_ ?_
  · skip
    refine FR_st (by simp) (fun _ => ?_)
    refine FR_ite ?_ ?_
    · skip
      refine FR_bd (FR_lp (fun x σ => frX10_text_L54 _ _ _) _ _ _) (by decide) (fun _ _ => ?_)
      refine FR_bnd ?_
      refine FR_st (by simp) (fun _ => ?_)
      refine FR_st (by simp) (fun _ => ?_)
      exact FR_some
    · skip
      refine FR_bd (FR_lp (fun x σ => frX10_text_L122 _ _) _ _ _) (by decide) (fun _ _ => ?_)
      refine FR_bd (FR_lp (fun x σ => frX10_text_L147 _ _) _ _ _) (by decide) (fun _ _ => ?_)
      refine FR_st (by simp) (fun _ => ?_)
      refine FR_st (by simp) (fun _ => ?_)
      refine FR_st (by simp) (fun _ => ?_)
      exact FR_some
  · skip
    exact FR_some
theorem frX10_text (x1 : Int32) (σ : rS) : FR [10, 61, 62, 64, 65, 66] σ (fX10_text x1 σ) := by
  unfold fX10_text
  refine FR_st (by simp) (fun _ => ?_)
  refine FR_bd (frX10_isIn _ _ _ _) (by decide) (fun _ _ => ?_)
  refine FR_ite ?_ ?_
  · skip
    exact FR_some
  · skip
    refine FR_ite ?_ ?_
    · skip
      refine FR_ite ?_ ?_
      · skip
        exact FR_some
      · skip
        exact FR_sub (frX10_text_j28 _ _) (by decide)
    · skip
      exact FR_sub (frX10_text_j28 _ _) (by decide)
theorem frX10_copyRow_L3 (c0 k0 n0 : Nat) (x1 : Int32) (c2 k2 n2 : Nat) (x3 : Int32) (x4 : Int32) (σ : rS) : FR [c2] σ (fX10_copyRow_L3 c0 k0 n0 x1 c2 k2 n2 x3 x4 σ) := by
  unfold fX10_copyRow_L3
  refine FR_ite ?_ ?_
  · skip
    refine FR_bnd ?_
    refine FR_bnd ?_
    refine FR_st (by simp) (fun _ => ?_)
    exact FR_some
  · skip
    exact FR_some
theorem frX10_copyRow (c0 k0 n0 : Nat) (x1 : Int32) (c2 k2 n2 : Nat) (x3 : Int32) (σ : rS) : FR [c2] σ (fX10_copyRow c0 k0 n0 x1 c2 k2 n2 x3 σ) := by
  unfold fX10_copyRow
  refine FR_bd (FR_lp (fun x σ => frX10_copyRow_L3 _ _ _ _ _ _ _ _ _ _) _ _ _) (by simp) (fun _ _ => ?_)
  exact FR_some
theorem frX10_cell (x0 : Int32) (x1 : Int32) (σ : rS) : FR [] σ (fX10_cell x0 x1 σ) := by
  unfold fX10_cell
  exact FR_some
theorem frX10_of (k0 : Nat) (x1 : Int32) (x2 : Int32) (σ : rS) : FR [] σ (fX10_of k0 x1 x2 σ) := by
  unfold fX10_of
  refine FR_bnd ?_
  exact FR_some
theorem frX10_spotOf__L8 (k0 : Nat) (x1 : Int32) (x2 : Int32) (σ : rS) : FR [] σ (fX10_spotOf__L8 k0 x1 x2 σ) := by
  unfold fX10_spotOf__L8
  refine FR_ite ?_ ?_
  · skip
    refine FR_bd (frX10_of _ _ _ _) (by decide) (fun _ _ => ?_)
    refine FR_ite ?_ ?_
    · skip
      exact FR_some
    · skip
      exact FR_some
  · skip
    exact FR_some
theorem frX10_spotOf_ (k0 : Nat) (x1 : Int32) (σ : rS) : FR [] σ (fX10_spotOf_ k0 x1 σ) := by
  unfold fX10_spotOf_
  refine FR_ite ?_ ?_
  · skip
    exact FR_some
  · skip
    refine FR_bd (FR_lp (fun x σ => frX10_spotOf__L8 _ _ _ _) _ _ _) (by decide) (fun _ _ => ?_)
    split
    · skip
      exact FR_some
    · skip
      exact FR_some
theorem frX10_sizeOf (k0 : Nat) (x1 : Int32) (σ : rS) : FR [] σ (fX10_sizeOf k0 x1 σ) := by
  unfold fX10_sizeOf
  refine FR_bd (frX10_of _ _ _ _) (by decide) (fun _ _ => ?_)
  exact FR_some
theorem frX10_cellsIn_j31L4 (k0 : Nat) (x1 : Int32) (x3 : Int32) (z0 : Int32) (z1 : Int32) (σ : rS) : FR [] σ (fX10_cellsIn_j31L4 k0 x1 x3 z0 z1 σ) := by
  unfold fX10_cellsIn_j31L4
  refine FR_rd (fun _ => ?_)
  exact FR_some
theorem frX10_cellsIn_L4 (k0 : Nat) (x1 : Int32) (x2 : Int32) (x3 : Int32) (σ : rS) : FR [] σ (fX10_cellsIn_L4 k0 x1 x2 x3 σ) := by
  unfold fX10_cellsIn_L4
  refine FR_ite ?_ ?_
  · skip
    refine FR_bd (frX10_of _ _ _ _) (by decide) (fun _ _ => ?_)
    refine FR_ite ?_ ?_
    · skip
      refine FR_bd (frX10_sizeOf _ _ _) (by decide) (fun _ _ => ?_)
      exact FR_sub (frX10_cellsIn_j31L4 _ _ _ _ _ _) (by decide)
    · skip
      exact FR_sub (frX10_cellsIn_j31L4 _ _ _ _ _ _) (by decide)
  · skip
    exact FR_some
theorem frX10_cellsIn (k0 : Nat) (x1 : Int32) (σ : rS) : FR [] σ (fX10_cellsIn k0 x1 σ) := by
  unfold fX10_cellsIn
  refine FR_bd (FR_lp (fun x σ => frX10_cellsIn_L4 _ _ _ _ _) _ _ _) (by decide) (fun _ _ => ?_)
  exact FR_some
theorem frX10_cells (k0 : Nat) (σ : rS) : FR [] σ (fX10_cells k0 σ) := by
  unfold fX10_cells
  refine FR_bd (frX10_cellsIn _ _ _) (by decide) (fun _ _ => ?_)
  refine FR_bd (frX10_cellsIn _ _ _) (by decide) (fun _ _ => ?_)
  refine FR_bd (frX10_cellsIn _ _ _) (by decide) (fun _ _ => ?_)
  exact FR_some
theorem frX10_isOld (k0 : Nat) (x1 : Int32) (σ : rS) : FR [] σ (fX10_isOld k0 x1 σ) := by
  unfold fX10_isOld
  refine FR_bd (frX10_of _ _ _ _) (by decide) (fun _ _ => ?_)
  refine FR_ite ?_ ?_
  · skip
    exact FR_some
  · skip
    exact FR_some
theorem frX10_isWeak (k0 : Nat) (x1 : Int32) (x2 : Int32) (σ : rS) : FR [] σ (fX10_isWeak k0 x1 x2 σ) := by
  unfold fX10_isWeak
  refine FR_ite ?_ ?_
  · skip
    refine FR_bd (frX10_of _ _ _ _) (by decide) (fun _ _ => ?_)
    refine FR_ite ?_ ?_
    · skip
      exact FR_some
    · skip
      exact FR_some
  · skip
    exact FR_some
theorem frX10_goes_L6 (k0 : Nat) (x2 : Int32) (σ : rS) : FR [66] σ (fX10_goes_L6 k0 x2 σ) := by
  unfold fX10_goes_L6
  refine FR_bd (frX10_cell _ _ _) (by decide) (fun _ _ => ?_)
  refine FR_ite ?_ ?_
  · skip
    refine FR_bnd ?_
    refine FR_bnd ?_
    refine FR_st (by simp) (fun _ => ?_)
    exact FR_some
  · skip
    exact FR_some
theorem frX10_goes (k0 : Nat) (x1 : Int32) (σ : rS) : FR [66] σ (fX10_goes k0 x1 σ) := by
  unfold fX10_goes
  refine FR_bd (frX10_cell _ _ _) (by decide) (fun _ _ => ?_)
  refine FR_bd (FR_lp (fun x σ => frX10_goes_L6 _ _ _) _ _ _) (by decide) (fun _ _ => ?_)
  refine FR_st (by simp) (fun _ => ?_)
  exact FR_some
theorem frX10_isYoungLink (k0 : Nat) (x1 : Int32) (x2 : Int32) (σ : rS) : FR [] σ (fX10_isYoungLink k0 x1 x2 σ) := by
  unfold fX10_isYoungLink
  refine FR_bd (frX10_of _ _ _ _) (by decide) (fun _ _ => ?_)
  refine FR_bd (frX10_spotOf_ _ _ _) (by decide) (fun _ _ => ?_)
  refine FR_ite ?_ ?_
  · skip
    exact FR_some
  · skip
    refine FR_bd (frX10_isOld _ _ _) (by decide) (fun _ _ => ?_)
    refine FR_ite ?_ ?_
    · skip
      exact FR_some
    · skip
      exact FR_some
theorem frX10_spotOfKept_j39L2 (k0 : Nat) (x1 : Int32) (x2 : Int32) (x3 : Int32) (σ : rS) : FR [] σ (fX10_spotOfKept_j39L2 k0 x1 x2 x3 σ) := by
  unfold fX10_spotOfKept_j39L2
  exact FR_some
theorem frX10_spotOfKept_L2 (k0 : Nat) (x1 : Int32) (x2 : Int32) (x3 : Int32) (σ : rS) : FR [] σ (fX10_spotOfKept_L2 k0 x1 x2 x3 σ) := by
  unfold fX10_spotOfKept_L2
  refine FR_ite ?_ ?_
  · skip
    refine FR_bnd ?_
    refine FR_ite ?_ ?_
    · skip
      refine FR_bnd ?_
      refine FR_ite ?_ ?_
      · skip
        exact FR_some
      · skip
        exact FR_sub (frX10_spotOfKept_j39L2 _ _ _ _ _) (by decide)
    · skip
      exact FR_sub (frX10_spotOfKept_j39L2 _ _ _ _ _) (by decide)
  · skip
    exact FR_some
theorem frX10_spotOfKept (k0 : Nat) (x1 : Int32) (x2 : Int32) (σ : rS) : FR [] σ (fX10_spotOfKept k0 x1 x2 σ) := by
  unfold fX10_spotOfKept
  refine FR_bd (FR_lp (fun x σ => frX10_spotOfKept_L2 _ _ _ _ _) _ _ _) (by decide) (fun _ _ => ?_)
  split
  · skip
    exact FR_some
  · skip
    exact FR_some
theorem frX10_keeps (k0 : Nat) (x1 : Int32) (x2 : Int32) (σ : rS) : FR [66] σ (fX10_keeps k0 x1 x2 σ) := by
  unfold fX10_keeps
  refine FR_bd (frX10_isOld _ _ _) (by decide) (fun _ _ => ?_)
  refine FR_ite ?_ ?_
  · skip
    exact FR_some
  · skip
    refine FR_bd (frX10_isYoungLink _ _ _ _) (by decide) (fun _ _ => ?_)
    refine FR_ite ?_ ?_
    · skip
      exact FR_some
    · skip
      refine FR_bd (frX10_of _ _ _ _) (by decide) (fun _ _ => ?_)
      refine FR_bd (frX10_spotOfKept _ _ _ _) (by decide) (fun _ _ => ?_)
      refine FR_ite ?_ ?_
      · skip
        refine FR_bd (frX10_of _ _ _ _) (by decide) (fun _ _ => ?_)
        refine FR_bnd ?_
        refine FR_st (by simp) (fun _ => ?_)
        refine FR_bnd ?_
        refine FR_st (by simp) (fun _ => ?_)
        refine FR_st (by simp) (fun _ => ?_)
        exact FR_some
      · skip
        exact FR_some
theorem frX10_sifts_j85L4 (k0 : Nat) (x1 : Int32) (x2 : Int32) (σ : rS) : FR [] σ (fX10_sifts_j85L4 k0 x1 x2 σ) := by
  unfold fX10_sifts_j85L4
  exact FR_some
theorem frX10_sifts_L4 (k0 : Nat) (x1 : Int32) (x2 : Int32) (σ : rS) : FR [66] σ (fX10_sifts_L4 k0 x1 x2 σ) := by
  unfold fX10_sifts_L4
  refine FR_ite ?_ ?_
  · skip
    refine FR_bnd ?_
    refine FR_rd (fun _ => ?_)
    refine FR_bnd ?_
    refine FR_rd (fun _ => ?_)
    refine FR_bd (frX10_spotOf_ _ _ _) (by decide) (fun _ _ => ?_)
    refine FR_ite ?_ ?_
    · skip
      exact FR_sub (frX10_sifts_j85L4 _ _ _ _) (by decide)
    · skip
      refine FR_bd (frX10_isYoungLink _ _ _ _) (by decide) (fun _ _ => ?_)
      refine FR_ite ?_ ?_
      · skip
        exact FR_sub (frX10_sifts_j85L4 _ _ _ _) (by decide)
      · skip
        refine FR_bnd ?_
        refine FR_st (by simp) (fun _ => ?_)
        refine FR_bnd ?_
        refine FR_st (by simp) (fun _ => ?_)
        exact FR_sub (frX10_sifts_j85L4 _ _ _ _) (by decide)
  · skip
    exact FR_some
theorem frX10_sifts (k0 : Nat) (σ : rS) : FR [66] σ (fX10_sifts k0 σ) := by
  unfold fX10_sifts
  refine FR_bd (FR_lp (fun x σ => frX10_sifts_L4 _ _ _ _) _ _ _) (by decide) (fun _ _ => ?_)
  refine FR_st (by simp) (fun _ => ?_)
  exact FR_some
theorem frX10_begins_L2 (x1 : Int32) (σ : rS) : FR [68] σ (fX10_begins_L2 x1 σ) := by
  unfold fX10_begins_L2
  refine FR_ite ?_ ?_
  · skip
    refine FR_bnd ?_
    refine FR_st (by simp) (fun _ => ?_)
    exact FR_some
  · skip
    exact FR_some
theorem frX10_begins  (σ : rS) : FR [10, 68] σ (fX10_begins  σ) := by
  unfold fX10_begins
  refine FR_bd (FR_lp (fun x σ => frX10_begins_L2 _ _) _ _ _) (by decide) (fun _ _ => ?_)
  refine FR_st (by simp) (fun _ => ?_)
  refine FR_st (by simp) (fun _ => ?_)
  exact FR_some
theorem frX10_marks (x1 : Int32) (σ : rS) : FR [10, 68, 69] σ (fX10_marks x1 σ) := by
  unfold fX10_marks
  refine FR_ite ?_ ?_
  · skip
    exact FR_some
  · skip
    refine FR_bnd ?_
    refine FR_ite ?_ ?_
    · skip
      refine FR_bnd ?_
      refine FR_st (by simp) (fun _ => ?_)
      refine FR_bnd ?_
      refine FR_st (by simp) (fun _ => ?_)
      refine FR_st (by simp) (fun _ => ?_)
      exact FR_some
    · skip
      exact FR_some
theorem frX10_marksAll_j63L21 (k1 : Nat) (x3 : Int32) (x4 : Int32) (x5 : Int32) (σ : rS) : FR [] σ (fX10_marksAll_j63L21 k1 x3 x4 x5 σ) := by
  unfold fX10_marksAll_j63L21
  exact FR_some
theorem frX10_marksAll_L21 (k1 : Nat) (x3 : Int32) (x4 : Int32) (x5 : Int32) (σ : rS) : FR [10, 68, 69] σ (fX10_marksAll_L21 k1 x3 x4 x5 σ) := by
  unfold fX10_marksAll_L21
  refine FR_bd (frX10_of _ _ _ _) (by decide) (fun _ _ => ?_)
  refine FR_ite ?_ ?_
  · skip
    refine FR_bd (frX10_isWeak _ _ _ _) (by decide) (fun _ _ => ?_)
    refine FR_ite ?_ ?_
    · skip
      refine FR_bd (frX10_of _ _ _ _) (by decide) (fun _ _ => ?_)
      refine FR_bd (frX10_spotOf_ _ _ _) (by decide) (fun _ _ => ?_)
      refine FR_bd (frX10_marks _ _) (by decide) (fun _ _ => ?_)
      exact FR_sub (frX10_marksAll_j63L21 _ _ _ _ _) (by decide)
    · skip
      exact FR_sub (frX10_marksAll_j63L21 _ _ _ _ _) (by decide)
  · skip
    exact FR_some
theorem frX10_marksAll_L2 (k1 : Nat) (x3 : Int32) (σ : rS) : FR [10, 68, 69] σ (fX10_marksAll_L2 k1 x3 σ) := by
  unfold fX10_marksAll_L2
  refine FR_ite ?_ ?_
  · skip
    refine FR_bnd ?_
    refine FR_rd (fun _ => ?_)
    refine FR_bd (FR_lp (fun x σ => frX10_marksAll_L21 _ _ _ _ _) _ _ _) (by decide) (fun _ _ => ?_)
    exact FR_some
  · skip
    exact FR_some
theorem frX10_marksAll (k1 : Nat) (x2 : Int32) (σ : rS) : FR [10, 68, 69] σ (fX10_marksAll k1 x2 σ) := by
  unfold fX10_marksAll
  refine FR_bd (FR_lp (fun x σ => frX10_marksAll_L2 _ _ _) _ _ _) (by decide) (fun _ _ => ?_)
  exact FR_some
theorem frX10_reaches_j36L7 (k1 : Nat) (x2 : Int32) (x3 : Int32) (x4 : Int32) (σ : rS) : FR [] σ (fX10_reaches_j36L7 k1 x2 x3 x4 σ) := by
  unfold fX10_reaches_j36L7
  exact FR_some
theorem frX10_reaches_L7 (k1 : Nat) (x2 : Int32) (x3 : Int32) (x4 : Int32) (σ : rS) : FR [10, 68, 69] σ (fX10_reaches_L7 k1 x2 x3 x4 σ) := by
  unfold fX10_reaches_L7
  refine FR_ite ?_ ?_
  · skip
    refine FR_ite ?_ ?_
    · skip
      exact FR_sub (frX10_reaches_j36L7 _ _ _ _ _) (by decide)
    · skip
      refine FR_bnd ?_
      refine FR_bd (frX10_spotOf_ _ _ _) (by decide) (fun _ _ => ?_)
      refine FR_bd (frX10_marks _ _) (by decide) (fun _ _ => ?_)
      exact FR_sub (frX10_reaches_j36L7 _ _ _ _ _) (by decide)
  · skip
    exact FR_some
theorem frX10_reaches_L45 (k1 : Nat) (x3 : Int32) (x4 : Int32) (σ : rS) : FR [10, 68, 69] σ (fX10_reaches_L45 k1 x3 x4 σ) := by
  unfold fX10_reaches_L45
  refine FR_ite ?_ ?_
  · skip
    exact FR_some
  · skip
    refine FR_ite ?_ ?_
    · skip
      refine FR_bnd ?_
      refine FR_bd (frX10_spotOf_ _ _ _) (by decide) (fun _ _ => ?_)
      refine FR_bd (frX10_marks _ _) (by decide) (fun _ _ => ?_)
      exact FR_some
    · skip
      exact FR_some
theorem frX10_reaches_j81 (k1 : Nat) (σ : rS) : FR [10, 68, 69] σ (fX10_reaches_j81 k1 σ) := by
  unfold fX10_reaches_j81
  refine FR_bd (frX10_marksAll _ _ _) (by decide) (fun _ _ => ?_)
  exact FR_some
theorem frX10_reaches (k1 : Nat) (x2 : Int32) (x3 : Int32) (σ : rS) : FR [10, 68, 69] σ (fX10_reaches k1 x2 x3 σ) := by
  unfold fX10_reaches
  refine FR_bd (frX10_begins _) (by decide) (fun _ _ => ?_)
  refine FR_bd (FR_lp (fun x σ => frX10_reaches_L7 _ _ _ _ _) _ _ _) (by decide) (fun _ _ => ?_)
  refine FR_bd (FR_lp (fun x σ => frX10_reaches_L45 _ _ _ _) _ _ _) (by decide) (fun _ _ => ?_)
  exact FR_sub (frX10_reaches_j81 _ _) (by decide)
theorem frX10_isLost_j49 (k0 : Nat) (x1 : Int32) (σ : rS) : FR [66] σ (fX10_isLost_j49 k0 x1 σ) := by
  unfold fX10_isLost_j49
  refine FR_bnd ?_
  refine FR_st (by simp) (fun _ => ?_)
  refine FR_st (by simp) (fun _ => ?_)
  refine FR_st (by simp) (fun _ => ?_)
  exact FR_some
theorem frX10_isLost_L12 (k0 : Nat) (x1 : Int32) (x2 : Int32) (σ : rS) : FR [66] σ (fX10_isLost_L12 k0 x1 x2 σ) := by
  unfold fX10_isLost_L12
  refine FR_ite ?_ ?_
  · skip
    refine FR_bnd ?_
    refine FR_bnd ?_
    refine FR_st (by simp) (fun _ => ?_)
    exact FR_some
  · skip
    exact FR_some
theorem frX10_isLost (k0 : Nat) (x1 : Int32) (σ : rS) : FR [66] σ (fX10_isLost k0 x1 σ) := by
  unfold fX10_isLost
  refine FR_ite ?_ ?_
  · skip
    refine FR_bd (FR_lp (fun x σ => frX10_isLost_L12 _ _ _ _) _ _ _) (by decide) (fun _ _ => ?_)
    refine FR_st (by simp) (fun _ => ?_)
    exact FR_sub (frX10_isLost_j49 _ _ _) (by decide)
  · skip
    exact FR_sub (frX10_isLost_j49 _ _ _) (by decide)
theorem frX10_empties_j53 (k1 : Nat) (x2 : Int32) (σ : rS) : FR [66] σ (fX10_empties_j53 k1 x2 σ) := by
  unfold fX10_empties_j53
  refine FR_bd (frX10_cell _ _ _) (by decide) (fun _ _ => ?_)
  refine FR_bnd ?_
  refine FR_st (by simp) (fun _ => ?_)
  refine FR_bd (frX10_of _ _ _ _) (by decide) (fun _ _ => ?_)
  refine FR_bd (frX10_isLost _ _ _) (by decide) (fun _ _ => ?_)
  exact FR_some
theorem frX10_empties (k1 : Nat) (x2 : Int32) (x3 : Int32) (σ : rS) : FR [66] σ (fX10_empties k1 x2 x3 σ) := by
  unfold fX10_empties
  refine FR_bd (frX10_of _ _ _ _) (by decide) (fun _ _ => ?_)
  refine FR_bd (frX10_spotOf_ _ _ _) (by decide) (fun _ _ => ?_)
  refine FR_bd (frX10_of _ _ _ _) (by decide) (fun _ _ => ?_)
  refine FR_ite ?_ ?_
  · skip
    refine FR_ite ?_ ?_
    · skip
      exact FR_some
    · skip
      refine FR_bnd ?_
      refine FR_ite ?_ ?_
      · skip
        refine FR_ite ?_ ?_
        · skip
          exact FR_sub (frX10_empties_j53 _ _ _) (by decide)
        · skip
          refine FR_bd (frX10_isOld _ _ _) (by decide) (fun _ _ => ?_)
          refine FR_ite ?_ ?_
          · skip
            exact FR_sub (frX10_empties_j53 _ _ _) (by decide)
          · skip
            exact FR_some
      · skip
        exact FR_some
  · skip
    exact FR_some
theorem frX10_ends_j103L7 (k1 : Nat) (x2 : Int32) (x3 : Int32) (σ : rS) : FR [] σ (fX10_ends_j103L7 k1 x2 x3 σ) := by
  unfold fX10_ends_j103L7
  exact FR_some
theorem frX10_ends_j48L7 (k1 : Nat) (x2 : Int32) (x3 : Int32) (σ : rS) : FR [10, 66, 70] σ (fX10_ends_j48L7 k1 x2 x3 σ) := by
  unfold fX10_ends_j48L7
  refine FR_bd (frX10_of _ _ _ _) (by decide) (fun _ _ => ?_)
  refine FR_bnd ?_
  refine FR_st (by simp) (fun _ => ?_)
  refine FR_st (by simp) (fun _ => ?_)
  refine FR_st (by simp) (fun _ => ?_)
  refine FR_bnd ?_
  refine FR_st (by simp) (fun _ => ?_)
  refine FR_st (by simp) (fun _ => ?_)
  exact FR_sub (frX10_ends_j103L7 _ _ _ _) (by decide)
theorem frX10_ends_L7 (k1 : Nat) (x2 : Int32) (x3 : Int32) (σ : rS) : FR [10, 66, 70] σ (fX10_ends_L7 k1 x2 x3 σ) := by
  unfold fX10_ends_L7
  refine FR_ite ?_ ?_
  · skip
    refine FR_bd (frX10_of _ _ _ _) (by decide) (fun _ _ => ?_)
    refine FR_ite ?_ ?_
    · skip
      refine FR_bnd ?_
      refine FR_ite ?_ ?_
      · skip
        refine FR_ite ?_ ?_
        · skip
          exact FR_sub (frX10_ends_j48L7 _ _ _ _) (by decide)
        · skip
          refine FR_bd (frX10_isOld _ _ _) (by decide) (fun _ _ => ?_)
          refine FR_ite ?_ ?_
          · skip
            exact FR_sub (frX10_ends_j48L7 _ _ _ _) (by decide)
          · skip
            exact FR_sub (frX10_ends_j103L7 _ _ _ _) (by decide)
      · skip
        exact FR_sub (frX10_ends_j103L7 _ _ _ _) (by decide)
    · skip
      exact FR_sub (frX10_ends_j103L7 _ _ _ _) (by decide)
  · skip
    exact FR_some
theorem frX10_ends (k1 : Nat) (x2 : Int32) (σ : rS) : FR [10, 66, 70] σ (fX10_ends k1 x2 σ) := by
  unfold fX10_ends
  refine FR_st (by simp) (fun _ => ?_)
  refine FR_bd (FR_lp (fun x σ => frX10_ends_L7 _ _ _ _) _ _ _) (by decide) (fun _ _ => ?_)
  exact FR_some
theorem frX10_moves_j194 (x2 : Int32) (σ : rS) : FR [10, 68, 69] σ (fX10_moves_j194 x2 σ) := by
  unfold fX10_moves_j194
  refine FR_bd (frX10_marks _ _) (by decide) (fun _ _ => ?_)
  exact FR_some
theorem frX10_moves_j171 (k1 : Nat) (x2 : Int32) (x4 : Int32) (σ : rS) : FR [10, 66, 68, 69] σ (fX10_moves_j171 k1 x2 x4 σ) := by
  unfold fX10_moves_j171
  refine FR_st (by simp) (fun _ => ?_)
  refine FR_ite ?_ ?_
  · skip
    refine FR_st (by simp) (fun _ => ?_)
    exact FR_sub (frX10_moves_j194 _ _) (by decide)
  · skip
    exact FR_sub (frX10_moves_j194 _ _) (by decide)
theorem frX10_moves_j142 (k1 : Nat) (x2 : Int32) (x3 : Int32) (x4 : Int32) (z0 : Int32) (z1 : Int32) (kz2 : Nat) (σ : rS) : FR [10, 66, 68, 69] σ (fX10_moves_j142 k1 x2 x3 x4 z0 z1 kz2 σ) := by
  unfold fX10_moves_j142
  refine FR_bnd ?_
  refine FR_st (by simp) (fun _ => ?_)
  refine FR_ite ?_ ?_
  · skip
    refine FR_st (by simp) (fun _ => ?_)
    exact FR_sub (frX10_moves_j171 _ _ _ _) (by decide)
  · skip
    refine FR_st (by simp) (fun _ => ?_)
    exact FR_sub (frX10_moves_j171 _ _ _ _) (by decide)
theorem frX10_moves_j118 (k1 : Nat) (x2 : Int32) (x3 : Int32) (x4 : Int32) (z0 : Int32) (z1 : Int32) (kz2 : Nat) (σ : rS) : FR [10, 66, 68, 69] σ (fX10_moves_j118 k1 x2 x3 x4 z0 z1 kz2 σ) := by
  unfold fX10_moves_j118
  refine FR_bnd ?_
  refine FR_st (by simp) (fun _ => ?_)
  refine FR_bd (frX10_cell _ _ _) (by decide) (fun _ _ => ?_)
  refine FR_ite ?_ ?_
  · skip
    exact FR_sub (frX10_moves_j142 _ _ _ _ _ _ _ _) (by decide)
  · skip
    exact FR_sub (frX10_moves_j142 _ _ _ _ _ _ _ _) (by decide)
theorem frX10_moves_j102 (k1 : Nat) (x2 : Int32) (x3 : Int32) (x4 : Int32) (σ : rS) : FR [10, 66, 68, 69] σ (fX10_moves_j102 k1 x2 x3 x4 σ) := by
  unfold fX10_moves_j102
  refine FR_bd (frX10_cell _ _ _) (by decide) (fun _ _ => ?_)
  refine FR_ite ?_ ?_
  · skip
    exact FR_sub (frX10_moves_j118 _ _ _ _ _ _ _ _) (by decide)
  · skip
    exact FR_sub (frX10_moves_j118 _ _ _ _ _ _ _ _) (by decide)
theorem frX10_moves_j75 (k1 : Nat) (x2 : Int32) (x3 : Int32) (z0 : Int32) (σ : rS) : FR [10, 66, 68, 69] σ (fX10_moves_j75 k1 x2 x3 z0 σ) := by
  unfold fX10_moves_j75
  refine FR_ite ?_ ?_
  · skip
    refine FR_ite ?_ ?_
    · skip
      refine FR_st (by simp) (fun _ => ?_)
      exact FR_sub (frX10_moves_j102 _ _ _ _ _) (by decide)
    · skip
      exact FR_sub (frX10_moves_j102 _ _ _ _ _) (by decide)
  · skip
    exact FR_sub (frX10_moves_j102 _ _ _ _ _) (by decide)
theorem frX10_moves_j74 (k1 : Nat) (x2 : Int32) (x3 : Int32) (σ : rS) : FR [10, 66, 68, 69] σ (fX10_moves_j74 k1 x2 x3 σ) := by
  unfold fX10_moves_j74
  exact FR_sub (frX10_moves_j75 _ _ _ _ _) (by decide)
theorem frX10_moves (k1 : Nat) (x2 : Int32) (σ : rS) : FR [10, 66, 68, 69] σ (fX10_moves k1 x2 σ) := by
  unfold fX10_moves
  refine FR_ite ?_ ?_
  · skip
    exact FR_some
  · skip
    refine FR_bnd ?_
    refine FR_ite ?_ ?_
    · skip
      refine FR_bd (frX10_isOld _ _ _) (by decide) (fun _ _ => ?_)
      refine FR_ite ?_ ?_
      · skip
        refine FR_bd (frX10_sizeOf _ _ _) (by decide) (fun _ _ => ?_)
        refine FR_bd (frX10_cell _ _ _) (by decide) (fun _ _ => ?_)
        refine FR_bnd ?_
        refine FR_bnd ?_
        refine FR_st (by simp) (fun _ => ?_)
        refine FR_bd (frX10_of _ _ _ _) (by decide) (fun _ _ => ?_)
        refine FR_ite ?_ ?_
        · skip
          refine FR_ite ?_ ?_
          · skip
            exact FR_sub (frX10_moves_j74 _ _ _ _) (by decide)
          · skip
            exact FR_sub (frX10_moves_j75 _ _ _ _ _) (by decide)
        · skip
          exact FR_sub (frX10_moves_j74 _ _ _ _) (by decide)
      · skip
        exact FR_some
    · skip
      exact FR_some
theorem frX10_movesAll_j78L28 (k1 : Nat) (x3 : Int32) (x4 : Int32) (x5 : Int32) (σ : rS) : FR [] σ (fX10_movesAll_j78L28 k1 x3 x4 x5 σ) := by
  unfold fX10_movesAll_j78L28
  exact FR_some
theorem frX10_movesAll_L28 (k1 : Nat) (x3 : Int32) (x4 : Int32) (x5 : Int32) (σ : rS) : FR [10, 66, 68, 69] σ (fX10_movesAll_L28 k1 x3 x4 x5 σ) := by
  unfold fX10_movesAll_L28
  refine FR_bd (frX10_of _ _ _ _) (by decide) (fun _ _ => ?_)
  refine FR_ite ?_ ?_
  · skip
    refine FR_ite ?_ ?_
    · skip
      refine FR_bd (frX10_isWeak _ _ _ _) (by decide) (fun _ _ => ?_)
      refine FR_ite ?_ ?_
      · skip
        refine FR_bd (frX10_of _ _ _ _) (by decide) (fun _ _ => ?_)
        refine FR_bd (frX10_spotOf_ _ _ _) (by decide) (fun _ _ => ?_)
        refine FR_bd (frX10_moves _ _ _) (by decide) (fun _ _ => ?_)
        exact FR_sub (frX10_movesAll_j78L28 _ _ _ _ _) (by decide)
      · skip
        exact FR_sub (frX10_movesAll_j78L28 _ _ _ _ _) (by decide)
    · skip
      exact FR_some
  · skip
    exact FR_some
theorem frX10_movesAll_j84L2 (k1 : Nat) (x3 : Int32) (σ : rS) : FR [] σ (fX10_movesAll_j84L2 k1 x3 σ) := by
  unfold fX10_movesAll_j84L2
  exact FR_some
theorem frX10_movesAll_L2 (k1 : Nat) (x3 : Int32) (σ : rS) : FR [10, 66, 68, 69] σ (fX10_movesAll_L2 k1 x3 σ) := by
  unfold fX10_movesAll_L2
  refine FR_ite ?_ ?_
  · skip
    refine FR_ite ?_ ?_
    · skip
      refine FR_bnd ?_
      refine FR_rd (fun _ => ?_)
      refine FR_bd (FR_lp (fun x σ => frX10_movesAll_L28 _ _ _ _ _) _ _ _) (by decide) (fun _ _ => ?_)
      exact FR_sub (frX10_movesAll_j84L2 _ _ _) (by decide)
    · skip
      exact FR_some
  · skip
    exact FR_some
theorem frX10_movesAll (k1 : Nat) (x2 : Int32) (σ : rS) : FR [10, 66, 68, 69] σ (fX10_movesAll k1 x2 σ) := by
  unfold fX10_movesAll
  refine FR_bd (FR_lp (fun x σ => frX10_movesAll_L2 _ _ _) _ _ _) (by decide) (fun _ _ => ?_)
  exact FR_some
theorem frX10_movesReached_L2 (k1 : Nat) (x2 : Int32) (σ : rS) : FR [10, 66, 68, 69] σ (fX10_movesReached_L2 k1 x2 σ) := by
  unfold fX10_movesReached_L2
  refine FR_ite ?_ ?_
  · skip
    refine FR_ite ?_ ?_
    · skip
      refine FR_bnd ?_
      refine FR_bd (frX10_spotOf_ _ _ _) (by decide) (fun _ _ => ?_)
      refine FR_bd (frX10_moves _ _ _) (by decide) (fun _ _ => ?_)
      exact FR_some
    · skip
      exact FR_some
  · skip
    exact FR_some
theorem frX10_movesReached_L39 (k1 : Nat) (x2 : Int32) (σ : rS) : FR [10, 66, 68, 69] σ (fX10_movesReached_L39 k1 x2 σ) := by
  unfold fX10_movesReached_L39
  refine FR_ite ?_ ?_
  · skip
    refine FR_ite ?_ ?_
    · skip
      refine FR_bnd ?_
      refine FR_bd (frX10_spotOf_ _ _ _) (by decide) (fun _ _ => ?_)
      refine FR_bd (frX10_moves _ _ _) (by decide) (fun _ _ => ?_)
      exact FR_some
    · skip
      exact FR_some
  · skip
    exact FR_some
theorem frX10_movesReached_j149L79 (k1 : Nat) (x2 : Int32) (σ : rS) : FR [] σ (fX10_movesReached_j149L79 k1 x2 σ) := by
  unfold fX10_movesReached_j149L79
  exact FR_some
theorem frX10_movesReached_L79 (k1 : Nat) (x2 : Int32) (σ : rS) : FR [10, 66, 68, 69] σ (fX10_movesReached_L79 k1 x2 σ) := by
  unfold fX10_movesReached_L79
  refine FR_ite ?_ ?_
  · skip
    refine FR_ite ?_ ?_
    · skip
      refine FR_bnd ?_
      refine FR_bd (frX10_spotOf_ _ _ _) (by decide) (fun _ _ => ?_)
      refine FR_bnd ?_
      refine FR_rd (fun _ => ?_)
      refine FR_bd (frX10_isWeak _ _ _ _) (by decide) (fun _ _ => ?_)
      refine FR_ite ?_ ?_
      · skip
        refine FR_bd (frX10_of _ _ _ _) (by decide) (fun _ _ => ?_)
        refine FR_bd (frX10_spotOf_ _ _ _) (by decide) (fun _ _ => ?_)
        refine FR_bd (frX10_moves _ _ _) (by decide) (fun _ _ => ?_)
        exact FR_sub (frX10_movesReached_j149L79 _ _ _) (by decide)
      · skip
        exact FR_sub (frX10_movesReached_j149L79 _ _ _) (by decide)
    · skip
      exact FR_some
  · skip
    exact FR_some
theorem frX10_movesReached_j155 (k1 : Nat) (σ : rS) : FR [10, 66, 68, 69] σ (fX10_movesReached_j155 k1 σ) := by
  unfold fX10_movesReached_j155
  refine FR_bd (frX10_movesAll _ _ _) (by decide) (fun _ _ => ?_)
  exact FR_some
theorem frX10_movesReached_j77 (k1 : Nat) (σ : rS) : FR [10, 66, 68, 69] σ (fX10_movesReached_j77 k1 σ) := by
  unfold fX10_movesReached_j77
  refine FR_bd (FR_lp (fun x σ => frX10_movesReached_L79 _ _ _) _ _ _) (by decide) (fun _ _ => ?_)
  exact FR_sub (frX10_movesReached_j155 _ _) (by decide)
theorem frX10_movesReached_j37 (k1 : Nat) (σ : rS) : FR [10, 66, 68, 69] σ (fX10_movesReached_j37 k1 σ) := by
  unfold fX10_movesReached_j37
  refine FR_bd (FR_lp (fun x σ => frX10_movesReached_L39 _ _ _) _ _ _) (by decide) (fun _ _ => ?_)
  exact FR_sub (frX10_movesReached_j77 _ _) (by decide)
theorem frX10_movesReached (k1 : Nat) (σ : rS) : FR [10, 66, 68, 69] σ (fX10_movesReached k1 σ) := by
  unfold fX10_movesReached
  refine FR_bd (FR_lp (fun x σ => frX10_movesReached_L2 _ _ _) _ _ _) (by decide) (fun _ _ => ?_)
  exact FR_sub (frX10_movesReached_j37 _ _) (by decide)
theorem frX10_isMetBehind_L2 (x1 : Int32) (x3 : Int32) (σ : rS) : FR [] σ (fX10_isMetBehind_L2 x1 x3 σ) := by
  unfold fX10_isMetBehind_L2
  refine FR_ite ?_ ?_
  · skip
    refine FR_bnd ?_
    refine FR_ite ?_ ?_
    · skip
      exact FR_some
    · skip
      exact FR_some
  · skip
    exact FR_some
theorem frX10_isMetBehind (x1 : Int32) (x2 : Int32) (σ : rS) : FR [] σ (fX10_isMetBehind x1 x2 σ) := by
  unfold fX10_isMetBehind
  refine FR_bd (FR_lp (fun x σ => frX10_isMetBehind_L2 _ _ _) _ _ _) (by decide) (fun _ _ => ?_)
  split
  · skip
    exact FR_some
  · skip
    exact FR_some
theorem frX10_weakensAndEnds_j33L2 (k1 : Nat) (x2 : Int32) (σ : rS) : FR [] σ (fX10_weakensAndEnds_j33L2 k1 x2 σ) := by
  unfold fX10_weakensAndEnds_j33L2
  exact FR_some
theorem frX10_weakensAndEnds_j26L2 (k1 : Nat) (x2 : Int32) (σ : rS) : FR [66] σ (fX10_weakensAndEnds_j26L2 k1 x2 σ) := by
  unfold fX10_weakensAndEnds_j26L2
  refine FR_bd (frX10_empties _ _ _ _) (by decide) (fun _ _ => ?_)
  exact FR_sub (frX10_weakensAndEnds_j33L2 _ _ _) (by decide)
theorem frX10_weakensAndEnds_L2 (k1 : Nat) (x2 : Int32) (σ : rS) : FR [66] σ (fX10_weakensAndEnds_L2 k1 x2 σ) := by
  unfold fX10_weakensAndEnds_L2
  refine FR_ite ?_ ?_
  · skip
    refine FR_bnd ?_
    refine FR_ite ?_ ?_
    · skip
      refine FR_bd (frX10_isOld _ _ _) (by decide) (fun _ _ => ?_)
      refine FR_ite ?_ ?_
      · skip
        exact FR_sub (frX10_weakensAndEnds_j33L2 _ _ _) (by decide)
      · skip
        exact FR_sub (frX10_weakensAndEnds_j26L2 _ _ _) (by decide)
    · skip
      exact FR_sub (frX10_weakensAndEnds_j26L2 _ _ _) (by decide)
  · skip
    exact FR_some
theorem frX10_weakensAndEnds_L52 (k1 : Nat) (x2 : Int32) (x3 : Int32) (σ : rS) : FR [10, 66, 68, 69] σ (fX10_weakensAndEnds_L52 k1 x2 x3 σ) := by
  unfold fX10_weakensAndEnds_L52
  refine FR_ite ?_ ?_
  · skip
    refine FR_ite ?_ ?_
    · skip
      refine FR_rd (fun _ => ?_)
      refine FR_bnd ?_
      refine FR_bd (frX10_moves _ _ _) (by decide) (fun _ _ => ?_)
      refine FR_bd (frX10_movesAll _ _ _) (by decide) (fun _ _ => ?_)
      exact FR_some
    · skip
      exact FR_some
  · skip
    exact FR_some
theorem frX10_weakensAndEnds_j122L99 (k1 : Nat) (x2 : Int32) (x3 : Int32) (σ : rS) : FR [] σ (fX10_weakensAndEnds_j122L99 k1 x2 x3 σ) := by
  unfold fX10_weakensAndEnds_j122L99
  exact FR_some
theorem frX10_weakensAndEnds_L99 (k1 : Nat) (x2 : Int32) (x3 : Int32) (σ : rS) : FR [66] σ (fX10_weakensAndEnds_L99 k1 x2 x3 σ) := by
  unfold fX10_weakensAndEnds_L99
  refine FR_ite ?_ ?_
  · skip
    refine FR_bd (frX10_isMetBehind _ _ _) (by decide) (fun _ _ => ?_)
    refine FR_ite ?_ ?_
    · skip
      exact FR_sub (frX10_weakensAndEnds_j122L99 _ _ _ _) (by decide)
    · skip
      refine FR_bd (frX10_empties _ _ _ _) (by decide) (fun _ _ => ?_)
      exact FR_sub (frX10_weakensAndEnds_j122L99 _ _ _ _) (by decide)
  · skip
    exact FR_some
theorem frX10_weakensAndEnds_j97 (k1 : Nat) (x2 : Int32) (σ : rS) : FR [66] σ (fX10_weakensAndEnds_j97 k1 x2 σ) := by
  unfold fX10_weakensAndEnds_j97
  refine FR_bd (FR_lp (fun x σ => frX10_weakensAndEnds_L99 _ _ _ _) _ _ _) (by decide) (fun _ _ => ?_)
  exact FR_some
theorem frX10_weakensAndEnds (k1 : Nat) (σ : rS) : FR [10, 66, 68, 69, 70] σ (fX10_weakensAndEnds k1 σ) := by
  unfold fX10_weakensAndEnds
  refine FR_bd (FR_lp (fun x σ => frX10_weakensAndEnds_L2 _ _ _) _ _ _) (by decide) (fun _ _ => ?_)
  refine FR_bd (frX10_ends _ _ _) (by decide) (fun _ _ => ?_)
  refine FR_rd (fun _ => ?_)
  refine FR_bd (FR_lp (fun x σ => frX10_weakensAndEnds_L52 _ _ _ _) _ _ _) (by decide) (fun _ _ => ?_)
  exact FR_sub (frX10_weakensAndEnds_j97 _ _ _) (by decide)
theorem frX10_minors_L80 (k1 : Nat) (x2 : Int32) (x3 : Int32) (σ : rS) : FR [66] σ (fX10_minors_L80 k1 x2 x3 σ) := by
  unfold fX10_minors_L80
  refine FR_bnd ?_
  refine FR_bd (frX10_of _ _ _ _) (by decide) (fun _ _ => ?_)
  refine FR_ite ?_ ?_
  · skip
    refine FR_bnd ?_
    refine FR_bd (frX10_keeps _ _ _ _) (by decide) (fun _ _ => ?_)
    exact FR_some
  · skip
    exact FR_some
theorem frX10_minors_L70 (k1 : Nat) (x2 : Int32) (σ : rS) : FR [66] σ (fX10_minors_L70 k1 x2 σ) := by
  unfold fX10_minors_L70
  refine FR_ite ?_ ?_
  · skip
    refine FR_bd (FR_lp (fun x σ => frX10_minors_L80 _ _ _ _) _ _ _) (by decide) (fun _ _ => ?_)
    exact FR_some
  · skip
    exact FR_some
theorem frX10_minors_j168L129 (k1 : Nat) (x2 : Int32) (σ : rS) : FR [] σ (fX10_minors_j168L129 k1 x2 σ) := by
  unfold fX10_minors_j168L129
  exact FR_some
theorem frX10_minors_L129 (k1 : Nat) (x2 : Int32) (σ : rS) : FR [10, 66] σ (fX10_minors_L129 k1 x2 σ) := by
  unfold fX10_minors_L129
  refine FR_ite ?_ ?_
  · skip
    exact FR_some
  · skip
    refine FR_bd (frX10_isOld _ _ _) (by decide) (fun _ _ => ?_)
    refine FR_ite ?_ ?_
    · skip
      refine FR_bnd ?_
      refine FR_ite ?_ ?_
      · skip
        refine FR_bd (frX10_goes _ _ _) (by decide) (fun _ _ => ?_)
        refine FR_st (by simp) (fun _ => ?_)
        exact FR_sub (frX10_minors_j168L129 _ _ _) (by decide)
      · skip
        exact FR_sub (frX10_minors_j168L129 _ _ _) (by decide)
    · skip
      exact FR_sub (frX10_minors_j168L129 _ _ _) (by decide)
theorem frX10_minors_j45 (k1 : Nat) (σ : rS) : FR [10, 66] σ (fX10_minors_j45 k1 σ) := by
  unfold fX10_minors_j45
  refine FR_ite ?_ ?_
  · skip
    refine FR_bd (frX10_sifts _ _) (by decide) (fun _ _ => ?_)
    refine FR_bd (FR_lp (fun x σ => frX10_minors_L70 _ _ _) _ _ _) (by decide) (fun _ _ => ?_)
    refine FR_st (by simp) (fun _ => ?_)
    refine FR_rd (fun _ => ?_)
    refine FR_bd (FR_lp (fun x σ => frX10_minors_L129 _ _ _) _ _ _) (by decide) (fun _ _ => ?_)
    refine FR_st (by simp) (fun _ => ?_)
    refine FR_st (by simp) (fun _ => ?_)
    refine FR_st (by simp) (fun _ => ?_)
    exact FR_some
  · skip
    refine FR_bd (frX10_copyRow _ _ _ _ _ _ _ _ _) (by decide) (fun _ _ => ?_)
    exact FR_some
theorem frX10_minors (k1 : Nat) (σ : rS) : FR [10, 66, 68, 69, 70] σ (fX10_minors k1 σ) := by
  unfold fX10_minors
  refine FR_bd (frX10_copyRow _ _ _ _ _ _ _ _ _) (by decide) (fun _ _ => ?_)
  refine FR_bd (frX10_begins _) (by decide) (fun _ _ => ?_)
  refine FR_st (by simp) (fun _ => ?_)
  refine FR_bd (frX10_cellsIn _ _ _) (by decide) (fun _ _ => ?_)
  refine FR_st (by simp) (fun _ => ?_)
  refine FR_bd (frX10_movesReached _ _) (by decide) (fun _ _ => ?_)
  refine FR_ite ?_ ?_
  · skip
    refine FR_bd (frX10_weakensAndEnds _ _) (by decide) (fun _ _ => ?_)
    exact FR_sub (frX10_minors_j45 _ _) (by decide)
  · skip
    exact FR_sub (frX10_minors_j45 _ _) (by decide)
theorem frX10_slides_j83L15 (k1 : Nat) (x2 : Int32) (x3 : Int32) (x4 : Int32) (x5 : Int32) (σ : rS) : FR [] σ (fX10_slides_j83L15 k1 x2 x3 x4 x5 σ) := by
  unfold fX10_slides_j83L15
  exact FR_some
theorem frX10_slides_j79L15 (k1 : Nat) (x2 : Int32) (x3 : Int32) (x5 : Int32) (σ : rS) : FR [] σ (fX10_slides_j79L15 k1 x2 x3 x5 σ) := by
  unfold fX10_slides_j79L15
  exact FR_sub (frX10_slides_j83L15 _ _ _ _ _ _) (by decide)
theorem frX10_slides_L15 (k1 : Nat) (x2 : Int32) (x3 : Int32) (x4 : Int32) (x5 : Int32) (σ : rS) : FR [] σ (fX10_slides_L15 k1 x2 x3 x4 x5 σ) := by
  unfold fX10_slides_L15
  refine FR_ite ?_ ?_
  · skip
    refine FR_bd (frX10_isOld _ _ _) (by decide) (fun _ _ => ?_)
    refine FR_ite ?_ ?_
    · skip
      exact FR_sub (frX10_slides_j83L15 _ _ _ _ _ _) (by decide)
    · skip
      refine FR_bnd ?_
      refine FR_ite ?_ ?_
      · skip
        exact FR_sub (frX10_slides_j83L15 _ _ _ _ _ _) (by decide)
      · skip
        refine FR_bd (frX10_of _ _ _ _) (by decide) (fun _ _ => ?_)
        refine FR_ite ?_ ?_
        · skip
          refine FR_ite ?_ ?_
          · skip
            exact FR_sub (frX10_slides_j79L15 _ _ _ _ _) (by decide)
          · skip
            refine FR_bd (frX10_of _ _ _ _) (by decide) (fun _ _ => ?_)
            refine FR_bd (frX10_of _ _ _ _) (by decide) (fun _ _ => ?_)
            refine FR_ite ?_ ?_
            · skip
              exact FR_sub (frX10_slides_j79L15 _ _ _ _ _) (by decide)
            · skip
              exact FR_sub (frX10_slides_j83L15 _ _ _ _ _ _) (by decide)
        · skip
          exact FR_sub (frX10_slides_j83L15 _ _ _ _ _ _) (by decide)
  · skip
    exact FR_some
theorem frX10_slides_j120L9 (k1 : Nat) (x2 : Int32) (x3 : Int32) (x4 : Int32) (z0 : Int32) (z1 : Int32) (σ : rS) : FR [10, 66] σ (fX10_slides_j120L9 k1 x2 x3 x4 z0 z1 σ) := by
  unfold fX10_slides_j120L9
  refine FR_st (by simp) (fun _ => ?_)
  refine FR_bd (frX10_cell _ _ _) (by decide) (fun _ _ => ?_)
  refine FR_bnd ?_
  refine FR_st (by simp) (fun _ => ?_)
  refine FR_bd (frX10_sizeOf _ _ _) (by decide) (fun _ _ => ?_)
  refine FR_rd (fun _ => ?_)
  exact FR_some
theorem frX10_slides_L9 (k1 : Nat) (x2 : Int32) (x3 : Int32) (σ : rS) : FR [10, 66] σ (fX10_slides_L9 k1 x2 x3 σ) := by
  unfold fX10_slides_L9
  refine FR_bd (FR_lp (fun x σ => frX10_slides_L15 _ _ _ _ _ _) _ _ _) (by decide) (fun _ _ => ?_)
  refine FR_ite ?_ ?_
  · skip
    exact FR_some
  · skip
    refine FR_bd (frX10_of _ _ _ _) (by decide) (fun _ _ => ?_)
    refine FR_ite ?_ ?_
    · skip
      exact FR_sub (frX10_slides_j120L9 _ _ _ _ _ _ _) (by decide)
    · skip
      exact FR_sub (frX10_slides_j120L9 _ _ _ _ _ _ _) (by decide)
theorem frX10_slides (k1 : Nat) (σ : rS) : FR [10, 66] σ (fX10_slides k1 σ) := by
  unfold fX10_slides
  refine FR_st (by simp) (fun _ => ?_)
  refine FR_bd (FR_lp (fun x σ => frX10_slides_L9 _ _ _ _) _ _ _) (by decide) (fun _ _ => ?_)
  exact FR_some
theorem frX10_majors_j32L9 (k1 : Nat) (x2 : Int32) (σ : rS) : FR [] σ (fX10_majors_j32L9 k1 x2 σ) := by
  unfold fX10_majors_j32L9
  exact FR_some
theorem frX10_majors_L9 (k1 : Nat) (x2 : Int32) (σ : rS) : FR [66] σ (fX10_majors_L9 k1 x2 σ) := by
  unfold fX10_majors_L9
  refine FR_ite ?_ ?_
  · skip
    refine FR_bnd ?_
    refine FR_ite ?_ ?_
    · skip
      exact FR_sub (frX10_majors_j32L9 _ _ _) (by decide)
    · skip
      refine FR_bd (frX10_empties _ _ _ _) (by decide) (fun _ _ => ?_)
      exact FR_sub (frX10_majors_j32L9 _ _ _) (by decide)
  · skip
    exact FR_some
theorem frX10_majors_L51 (k1 : Nat) (x2 : Int32) (x3 : Int32) (σ : rS) : FR [10, 68, 69] σ (fX10_majors_L51 k1 x2 x3 σ) := by
  unfold fX10_majors_L51
  refine FR_ite ?_ ?_
  · skip
    refine FR_bnd ?_
    refine FR_bd (frX10_marks _ _) (by decide) (fun _ _ => ?_)
    exact FR_some
  · skip
    exact FR_some
theorem frX10_majors_j106L83 (k1 : Nat) (x2 : Int32) (x3 : Int32) (σ : rS) : FR [] σ (fX10_majors_j106L83 k1 x2 x3 σ) := by
  unfold fX10_majors_j106L83
  exact FR_some
theorem frX10_majors_L83 (k1 : Nat) (x2 : Int32) (x3 : Int32) (σ : rS) : FR [66] σ (fX10_majors_L83 k1 x2 x3 σ) := by
  unfold fX10_majors_L83
  refine FR_ite ?_ ?_
  · skip
    refine FR_bd (frX10_isMetBehind _ _ _) (by decide) (fun _ _ => ?_)
    refine FR_ite ?_ ?_
    · skip
      exact FR_sub (frX10_majors_j106L83 _ _ _ _) (by decide)
    · skip
      refine FR_bd (frX10_empties _ _ _ _) (by decide) (fun _ _ => ?_)
      exact FR_sub (frX10_majors_j106L83 _ _ _ _) (by decide)
  · skip
    exact FR_some
theorem frX10_majors_L129 (k1 : Nat) (x3 : Int32) (x4 : Int32) (σ : rS) : FR [66] σ (fX10_majors_L129 k1 x3 x4 σ) := by
  unfold fX10_majors_L129
  refine FR_ite ?_ ?_
  · skip
    refine FR_bnd ?_
    refine FR_ite ?_ ?_
    · skip
      refine FR_bd (frX10_isOld _ _ _) (by decide) (fun _ _ => ?_)
      refine FR_ite ?_ ?_
      · skip
        refine FR_bd (frX10_cell _ _ _) (by decide) (fun _ _ => ?_)
        refine FR_bnd ?_
        refine FR_st (by simp) (fun _ => ?_)
        exact FR_some
      · skip
        exact FR_some
    · skip
      exact FR_some
  · skip
    exact FR_some
theorem frX10_majors_j170L119 (k1 : Nat) (x3 : Int32) (σ : rS) : FR [] σ (fX10_majors_j170L119 k1 x3 σ) := by
  unfold fX10_majors_j170L119
  exact FR_some
theorem frX10_majors_L119 (k1 : Nat) (x3 : Int32) (σ : rS) : FR [66] σ (fX10_majors_L119 k1 x3 σ) := by
  unfold fX10_majors_L119
  refine FR_ite ?_ ?_
  · skip
    refine FR_bd (FR_lp (fun x σ => frX10_majors_L129 _ _ _ _) _ _ _) (by decide) (fun _ _ => ?_)
    exact FR_sub (frX10_majors_j170L119 _ _ _) (by decide)
  · skip
    exact FR_some
theorem frX10_majors_j226L187 (k1 : Nat) (x3 : Int32) (σ : rS) : FR [] σ (fX10_majors_j226L187 k1 x3 σ) := by
  unfold fX10_majors_j226L187
  exact FR_some
theorem frX10_majors_L187 (k1 : Nat) (x3 : Int32) (σ : rS) : FR [10, 66] σ (fX10_majors_L187 k1 x3 σ) := by
  unfold fX10_majors_L187
  refine FR_ite ?_ ?_
  · skip
    exact FR_some
  · skip
    refine FR_bd (frX10_isOld _ _ _) (by decide) (fun _ _ => ?_)
    refine FR_ite ?_ ?_
    · skip
      exact FR_sub (frX10_majors_j226L187 _ _ _) (by decide)
    · skip
      refine FR_bnd ?_
      refine FR_ite ?_ ?_
      · skip
        refine FR_bd (frX10_goes _ _ _) (by decide) (fun _ _ => ?_)
        refine FR_st (by simp) (fun _ => ?_)
        exact FR_sub (frX10_majors_j226L187 _ _ _) (by decide)
      · skip
        exact FR_sub (frX10_majors_j226L187 _ _ _) (by decide)
theorem frX10_majors (k1 : Nat) (σ : rS) : FR [10, 66, 68, 69, 70] σ (fX10_majors k1 σ) := by
  unfold fX10_majors
  refine FR_bd (frX10_reaches _ _ _ _) (by decide) (fun _ _ => ?_)
  refine FR_bd (FR_lp (fun x σ => frX10_majors_L9 _ _ _) _ _ _) (by decide) (fun _ _ => ?_)
  refine FR_bd (frX10_ends _ _ _) (by decide) (fun _ _ => ?_)
  refine FR_rd (fun _ => ?_)
  refine FR_bd (FR_lp (fun x σ => frX10_majors_L51 _ _ _ _) _ _ _) (by decide) (fun _ _ => ?_)
  refine FR_bd (frX10_marksAll _ _ _) (by decide) (fun _ _ => ?_)
  refine FR_bd (FR_lp (fun x σ => frX10_majors_L83 _ _ _ _) _ _ _) (by decide) (fun _ _ => ?_)
  refine FR_bd (frX10_slides _ _) (by decide) (fun _ _ => ?_)
  refine FR_bd (FR_lp (fun x σ => frX10_majors_L119 _ _ _) _ _ _) (by decide) (fun _ _ => ?_)
  refine FR_st (by simp) (fun _ => ?_)
  refine FR_rd (fun _ => ?_)
  refine FR_bd (FR_lp (fun x σ => frX10_majors_L187 _ _ _) _ _ _) (by decide) (fun _ _ => ?_)
  refine FR_bd (frX10_sifts _ _) (by decide) (fun _ _ => ?_)
  refine FR_st (by simp) (fun _ => ?_)
  refine FR_st (by simp) (fun _ => ?_)
  exact FR_some
theorem frX10_isRoot (x1 : Int32) (σ : rS) : FR [] σ (fX10_isRoot x1 σ) := by
  unfold fX10_isRoot
  refine FR_ite ?_ ?_
  · skip
    exact FR_some
  · skip
    refine FR_ite ?_ ?_
    · skip
      exact FR_some
    · skip
      refine FR_ite ?_ ?_
      · skip
        exact FR_some
      · skip
        exact FR_some
theorem frX10_rootSpot (k0 : Nat) (x1 : Int32) (σ : rS) : FR [] σ (fX10_rootSpot k0 x1 σ) := by
  unfold fX10_rootSpot
  refine FR_bnd ?_
  refine FR_bd (frX10_spotOf_ _ _ _) (by decide) (fun _ _ => ?_)
  exact FR_some
theorem frX10_stopsLinking_j108 (z0 : Int32) (z1 : Int32) (σ : rS) : FR [] σ (fX10_stopsLinking_j108 z0 z1 σ) := by
  unfold fX10_stopsLinking_j108
  refine FR_ite ?_ ?_
  · skip
    exact FR_some
  · skip
    exact FR_some
theorem frX10_stopsLinking_j51 (k1 : Nat) (x2 : Int32) (x3 : Int32) (x4 : Int32) (σ : rS) : FR [] σ (fX10_stopsLinking_j51 k1 x2 x3 x4 σ) := by
  unfold fX10_stopsLinking_j51
  refine FR_bd (frX10_rootSpot _ _ _) (by decide) (fun _ _ => ?_)
  refine FR_bd (frX10_of _ _ _ _) (by decide) (fun _ _ => ?_)
  refine FR_bd (frX10_isIn _ _ _ _) (by decide) (fun _ _ => ?_)
  refine FR_ite ?_ ?_
  · skip
    exact FR_some
  · skip
    refine FR_bd (frX10_of _ _ _ _) (by decide) (fun _ _ => ?_)
    refine FR_ite ?_ ?_
    · skip
      refine FR_bnd ?_
      exact FR_sub (frX10_stopsLinking_j108 _ _ _) (by decide)
    · skip
      exact FR_sub (frX10_stopsLinking_j108 _ _ _) (by decide)
theorem frX10_stopsLinking (k1 : Nat) (x2 : Int32) (x3 : Int32) (x4 : Int32) (σ : rS) : FR [] σ (fX10_stopsLinking k1 x2 x3 x4 σ) := by
  unfold fX10_stopsLinking
  refine FR_bd (frX10_isRoot _ _) (by decide) (fun _ _ => ?_)
  refine FR_ite ?_ ?_
  · skip
    exact FR_some
  · skip
    refine FR_bd (frX10_isIn _ _ _ _) (by decide) (fun _ _ => ?_)
    refine FR_ite ?_ ?_
    · skip
      exact FR_some
    · skip
      refine FR_bnd ?_
      refine FR_ite ?_ ?_
      · skip
        exact FR_some
      · skip
        refine FR_ite ?_ ?_
        · skip
          refine FR_bnd ?_
          refine FR_ite ?_ ?_
          · skip
            exact FR_some
          · skip
            exact FR_sub (frX10_stopsLinking_j51 _ _ _ _ _) (by decide)
        · skip
          exact FR_sub (frX10_stopsLinking_j51 _ _ _ _ _) (by decide)
theorem frX10_stops_j117  (σ : rS) : FR [] σ (fX10_stops_j117  σ) := by
  unfold fX10_stops_j117
  exact FR_some
theorem frX10_stops_j95 (x6 : Int32) (z0 : Int64) (z1 : Int64) (σ : rS) : FR [] σ (fX10_stops_j95 x6 z0 z1 σ) := by
  unfold fX10_stops_j95
  refine FR_bd (frX10_isIn _ _ _ _) (by decide) (fun _ _ => ?_)
  refine FR_ite ?_ ?_
  · skip
    exact FR_sub (frX10_stops_j117 _) (by decide)
  · skip
    refine FR_bd (frX10_isIn _ _ _ _) (by decide) (fun _ _ => ?_)
    refine FR_ite ?_ ?_
    · skip
      exact FR_sub (frX10_stops_j117 _) (by decide)
    · skip
      exact FR_some
theorem frX10_stops_j162  (σ : rS) : FR [] σ (fX10_stops_j162  σ) := by
  unfold fX10_stops_j162
  exact FR_some
theorem frX10_stops (k1 : Nat) (x2 : Int32) (x3 : Int32) (x4 : Int32) (x5 : Int32) (x6 : Int32) (σ : rS) : FR [] σ (fX10_stops k1 x2 x3 x4 x5 x6 σ) := by
  unfold fX10_stops
  refine FR_ite ?_ ?_
  · skip
    exact FR_some
  · skip
    refine FR_ite ?_ ?_
    · skip
      refine FR_bd (frX10_isRoot _ _) (by decide) (fun _ _ => ?_)
      refine FR_ite ?_ ?_
      · skip
        exact FR_some
      · skip
        refine FR_bd (frX10_isIn _ _ _ _) (by decide) (fun _ _ => ?_)
        refine FR_ite ?_ ?_
        · skip
          exact FR_sub (frX10_stops_j117 _) (by decide)
        · skip
          refine FR_ite ?_ ?_
          · skip
            exact FR_sub (frX10_stops_j95 _ _ _ _) (by decide)
          · skip
            exact FR_sub (frX10_stops_j95 _ _ _ _) (by decide)
    · skip
      refine FR_ite ?_ ?_
      · skip
        refine FR_bd (frX10_stopsLinking _ _ _ _ _) (by decide) (fun _ _ => ?_)
        exact FR_some
      · skip
        refine FR_ite ?_ ?_
        · skip
          refine FR_bd (frX10_isRoot _ _) (by decide) (fun _ _ => ?_)
          refine FR_ite ?_ ?_
          · skip
            exact FR_sub (frX10_stops_j162 _) (by decide)
          · skip
            refine FR_bd (frX10_isRoot _ _) (by decide) (fun _ _ => ?_)
            refine FR_ite ?_ ?_
            · skip
              exact FR_sub (frX10_stops_j162 _) (by decide)
            · skip
              refine FR_bnd ?_
              refine FR_ite ?_ ?_
              · skip
                exact FR_sub (frX10_stops_j162 _) (by decide)
              · skip
                refine FR_bd (frX10_rootSpot _ _ _) (by decide) (fun _ _ => ?_)
                refine FR_bd (frX10_of _ _ _ _) (by decide) (fun _ _ => ?_)
                refine FR_bd (frX10_isIn _ _ _ _) (by decide) (fun _ _ => ?_)
                refine FR_ite ?_ ?_
                · skip
                  exact FR_some
                · skip
                  exact FR_some
        · skip
          refine FR_ite ?_ ?_
          · skip
            refine FR_bd (frX10_isRoot _ _) (by decide) (fun _ _ => ?_)
            refine FR_ite ?_ ?_
            · skip
              exact FR_some
            · skip
              refine FR_bnd ?_
              refine FR_ite ?_ ?_
              · skip
                exact FR_some
              · skip
                exact FR_some
          · skip
            refine FR_ite ?_ ?_
            · skip
              refine FR_bd (frX10_isIn _ _ _ _) (by decide) (fun _ _ => ?_)
              refine FR_ite ?_ ?_
              · skip
                exact FR_some
              · skip
                refine FR_ite ?_ ?_
                · skip
                  exact FR_some
                · skip
                  exact FR_some
            · skip
              refine FR_ite ?_ ?_
              · skip
                refine FR_ite ?_ ?_
                · skip
                  exact FR_some
                · skip
                  exact FR_some
              · skip
                exact FR_some
theorem frX10_hasRoom (k1 : Nat) (x2 : Int32) (σ : rS) : FR [10, 66, 68, 69, 70] σ (fX10_hasRoom k1 x2 σ) := by
  unfold fX10_hasRoom
  refine FR_bd (frX10_cellsIn _ _ _) (by decide) (fun _ _ => ?_)
  refine FR_ite ?_ ?_
  · skip
    refine FR_bd (frX10_copyRow _ _ _ _ _ _ _ _ _) (by decide) (fun _ _ => ?_)
    refine FR_bd (frX10_minors _ _) (by decide) (fun _ _ => ?_)
    refine FR_ite ?_ ?_
    · skip
      refine FR_bd (frX10_majors _ _) (by decide) (fun _ _ => ?_)
      refine FR_bd (frX10_minors _ _) (by decide) (fun _ _ => ?_)
      refine FR_ite ?_ ?_
      · skip
        refine FR_bd (frX10_copyRow _ _ _ _ _ _ _ _ _) (by decide) (fun _ _ => ?_)
        exact FR_some
      · skip
        exact FR_some
    · skip
      exact FR_some
  · skip
    exact FR_some
theorem frX10_makes_L29 (k1 : Nat) (x2 : Int32) (x3 : Int32) (x4 : Int32) (x5 : Int32) (x6 : Int32) (x7 : Int32) (x8 : Int32) (σ : rS) : FR [66] σ (fX10_makes_L29 k1 x2 x3 x4 x5 x6 x7 x8 σ) := by
  unfold fX10_makes_L29
  refine FR_ite ?_ ?_
  · skip
    refine FR_bd (frX10_cell _ _ _) (by decide) (fun _ _ => ?_)
    refine FR_bnd ?_
    refine FR_st (by simp) (fun _ => ?_)
    exact FR_some
  · skip
    exact FR_some
theorem frX10_makes (k1 : Nat) (x2 : Int32) (x3 : Int32) (x4 : Int32) (x5 : Int32) (σ : rS) : FR [10, 66, 68, 69, 70] σ (fX10_makes k1 x2 x3 x4 x5 σ) := by
  unfold fX10_makes
  refine FR_bd (frX10_hasRoom _ _ _) (by decide) (fun _ _ => ?_)
  refine FR_ite ?_ ?_
  · skip
    exact FR_some
  · skip
    refine FR_bd (frX10_cellsIn _ _ _) (by decide) (fun _ _ => ?_)
    refine FR_rd (fun _ => ?_)
    refine FR_bd (FR_lp (fun x σ => frX10_makes_L29 _ _ _ _ _ _ _ _ _) _ _ _) (by decide) (fun _ _ => ?_)
    refine FR_st (by simp) (fun _ => ?_)
    refine FR_bd (frX10_cell _ _ _) (by decide) (fun _ _ => ?_)
    refine FR_bnd ?_
    refine FR_st (by simp) (fun _ => ?_)
    refine FR_bd (frX10_cell _ _ _) (by decide) (fun _ _ => ?_)
    refine FR_bnd ?_
    refine FR_st (by simp) (fun _ => ?_)
    refine FR_bd (frX10_cell _ _ _) (by decide) (fun _ _ => ?_)
    refine FR_bnd ?_
    refine FR_st (by simp) (fun _ => ?_)
    refine FR_bd (frX10_cell _ _ _) (by decide) (fun _ _ => ?_)
    refine FR_bnd ?_
    refine FR_st (by simp) (fun _ => ?_)
    refine FR_bd (frX10_cell _ _ _) (by decide) (fun _ _ => ?_)
    refine FR_bnd ?_
    refine FR_st (by simp) (fun _ => ?_)
    refine FR_st (by simp) (fun _ => ?_)
    refine FR_bnd ?_
    refine FR_st (by simp) (fun _ => ?_)
    refine FR_st (by simp) (fun _ => ?_)
    refine FR_st (by simp) (fun _ => ?_)
    exact FR_some
theorem frX10_link (x0 : Int32) (k1 : Nat) (σ : rS) : FR [] σ (fX10_link x0 k1 σ) := by
  unfold fX10_link
  refine FR_ite ?_ ?_
  · skip
    refine FR_bnd ?_
    exact FR_some
  · skip
    exact FR_some
theorem frX10_links (k1 : Nat) (x2 : Int32) (x3 : Int32) (x4 : Int32) (σ : rS) : FR [10, 66] σ (fX10_links k1 x2 x3 x4 σ) := by
  unfold fX10_links
  refine FR_bd (frX10_rootSpot _ _ _) (by decide) (fun _ _ => ?_)
  refine FR_bd (frX10_of _ _ _ _) (by decide) (fun _ _ => ?_)
  refine FR_st (by simp) (fun _ => ?_)
  refine FR_bd (frX10_cell _ _ _) (by decide) (fun _ _ => ?_)
  refine FR_bd (frX10_link _ _ _) (by decide) (fun _ _ => ?_)
  refine FR_bnd ?_
  refine FR_st (by simp) (fun _ => ?_)
  refine FR_bd (frX10_sifts _ _) (by decide) (fun _ _ => ?_)
  refine FR_bd (frX10_keeps _ _ _ _) (by decide) (fun _ _ => ?_)
  exact FR_some
theorem frX10_tells_L11 (k1 : Nat) (x2 : Int32) (x3 : Int32) (σ : rS) : FR [66] σ (fX10_tells_L11 k1 x2 x3 σ) := by
  unfold fX10_tells_L11
  refine FR_ite ?_ ?_
  · skip
    refine FR_bnd ?_
    refine FR_bnd ?_
    refine FR_st (by simp) (fun _ => ?_)
    exact FR_some
  · skip
    exact FR_some
theorem frX10_tells (k1 : Nat) (x2 : Int32) (σ : rS) : FR [10, 66] σ (fX10_tells k1 x2 σ) := by
  unfold fX10_tells
  refine FR_st (by simp) (fun _ => ?_)
  refine FR_bd (FR_lp (fun x σ => frX10_tells_L11 _ _ _ _) _ _ _) (by decide) (fun _ _ => ?_)
  refine FR_st (by simp) (fun _ => ?_)
  refine FR_bd (frX10_spotOf_ _ _ _) (by decide) (fun _ _ => ?_)
  refine FR_bd (frX10_cell _ _ _) (by decide) (fun _ _ => ?_)
  refine FR_bnd ?_
  refine FR_st (by simp) (fun _ => ?_)
  refine FR_ite ?_ ?_
  · skip
    refine FR_bnd ?_
    refine FR_st (by simp) (fun _ => ?_)
    exact FR_some
  · skip
    exact FR_some
theorem frX10_does_L241 (k1 : Nat) (x8 : Int32) (σ : rS) : FR [66] σ (fX10_does_L241 k1 x8 σ) := by
  unfold fX10_does_L241
  refine FR_ite ?_ ?_
  · skip
    refine FR_bnd ?_
    refine FR_bnd ?_
    refine FR_st (by simp) (fun _ => ?_)
    exact FR_some
  · skip
    exact FR_some
theorem frX10_does_j45 (k1 : Nat) (x2 : Int32) (x3 : Int32) (x4 : Int32) (x5 : Int32) (x6 : Int32) (z0 : Int32) (σ : rS) : FR [10, 66, 68, 69, 70] σ (fX10_does_j45 k1 x2 x3 x4 x5 x6 z0 σ) := by
  unfold fX10_does_j45
  refine FR_st (by simp) (fun _ => ?_)
  refine FR_ite ?_ ?_
  · skip
    refine FR_bd (frX10_makes _ _ _ _ _ _) (by decide) (fun _ _ => ?_)
    refine FR_ite ?_ ?_
    · skip
      exact FR_some
    · skip
      exact FR_some
  · skip
    refine FR_ite ?_ ?_
    · skip
      refine FR_bd (frX10_links _ _ _ _ _) (by decide) (fun _ _ => ?_)
      exact FR_some
    · skip
      refine FR_ite ?_ ?_
      · skip
        refine FR_bd (frX10_rootSpot _ _ _) (by decide) (fun _ _ => ?_)
        refine FR_bd (frX10_of _ _ _ _) (by decide) (fun _ _ => ?_)
        refine FR_st (by simp) (fun _ => ?_)
        refine FR_bnd ?_
        refine FR_st (by simp) (fun _ => ?_)
        exact FR_some
      · skip
        refine FR_ite ?_ ?_
        · skip
          refine FR_bnd ?_
          refine FR_st (by simp) (fun _ => ?_)
          refine FR_bnd ?_
          refine FR_st (by simp) (fun _ => ?_)
          exact FR_some
        · skip
          refine FR_ite ?_ ?_
          · skip
            refine FR_bd (frX10_minors _ _) (by decide) (fun _ _ => ?_)
            refine FR_ite ?_ ?_
            · skip
              exact FR_some
            · skip
              refine FR_st (by simp) (fun _ => ?_)
              exact FR_some
          · skip
            refine FR_ite ?_ ?_
            · skip
              refine FR_bd (frX10_majors _ _) (by decide) (fun _ _ => ?_)
              refine FR_st (by simp) (fun _ => ?_)
              exact FR_some
            · skip
              refine FR_ite ?_ ?_
              · skip
                refine FR_bd (frX10_tells _ _ _) (by decide) (fun _ _ => ?_)
                refine FR_st (by simp) (fun _ => ?_)
                exact FR_some
              · skip
                refine FR_st (by simp) (fun _ => ?_)
                refine FR_bd (FR_lp (fun x σ => frX10_does_L241 _ _ _) _ _ _) (by decide) (fun _ _ => ?_)
                refine FR_st (by simp) (fun _ => ?_)
                refine FR_st (by simp) (fun _ => ?_)
                exact FR_some
theorem frX10_does_j44 (k1 : Nat) (x2 : Int32) (x3 : Int32) (x4 : Int32) (x5 : Int32) (x6 : Int32) (σ : rS) : FR [10, 66, 68, 69, 70] σ (fX10_does_j44 k1 x2 x3 x4 x5 x6 σ) := by
  unfold fX10_does_j44
  exact FR_sub (frX10_does_j45 _ _ _ _ _ _ _ _) (by decide)
theorem frX10_does (k1 : Nat) (x2 : Int32) (x3 : Int32) (x4 : Int32) (x5 : Int32) (x6 : Int32) (σ : rS) : FR [10, 66, 68, 69, 70] σ (fX10_does k1 x2 x3 x4 x5 x6 σ) := by
  unfold fX10_does
  refine FR_bd (frX10_stops _ _ _ _ _ _ _) (by decide) (fun _ _ => ?_)
  refine FR_ite ?_ ?_
  · skip
    refine FR_ite ?_ ?_
    · skip
      refine FR_ite ?_ ?_
      · skip
        refine FR_bnd ?_
        exact FR_sub (frX10_does_j45 _ _ _ _ _ _ _ _) (by decide)
      · skip
        exact FR_sub (frX10_does_j44 _ _ _ _ _ _ _) (by decide)
    · skip
      exact FR_sub (frX10_does_j44 _ _ _ _ _ _ _) (by decide)
  · skip
    exact FR_some
theorem frX10_remember_j35  (σ : rS) : FR [67] σ (fX10_remember_j35  σ) := by
  unfold fX10_remember_j35
  refine FR_bd (frX10_copyRow _ _ _ _ _ _ _ _ _) (by decide) (fun _ _ => ?_)
  exact FR_some
theorem frX10_remember  (σ : rS) : FR [10, 67] σ (fX10_remember  σ) := by
  unfold fX10_remember
  refine FR_ite ?_ ?_
  · skip
    refine FR_st (by simp) (fun _ => ?_)
    exact FR_sub (frX10_remember_j35 _) (by decide)
  · skip
    refine FR_st (by simp) (fun _ => ?_)
    exact FR_sub (frX10_remember_j35 _) (by decide)
theorem frX10_notes_j62 (x1 : Int32) (σ : rS) : FR [66] σ (fX10_notes_j62 x1 σ) := by
  unfold fX10_notes_j62
  refine FR_rd (fun _ => ?_)
  refine FR_bnd ?_
  refine FR_st (by simp) (fun _ => ?_)
  refine FR_bnd ?_
  refine FR_st (by simp) (fun _ => ?_)
  refine FR_bd (frX10_cells _ _) (by decide) (fun _ _ => ?_)
  refine FR_bnd ?_
  refine FR_st (by simp) (fun _ => ?_)
  refine FR_st (by simp) (fun _ => ?_)
  exact FR_some
theorem frX10_notes_L15 (x1 : Int32) (x2 : Int32) (σ : rS) : FR [66] σ (fX10_notes_L15 x1 x2 σ) := by
  unfold fX10_notes_L15
  refine FR_ite ?_ ?_
  · skip
    exact FR_some
  · skip
    refine FR_bnd ?_
    refine FR_bnd ?_
    refine FR_st (by simp) (fun _ => ?_)
    exact FR_some
theorem frX10_notes (x1 : Int32) (σ : rS) : FR [66] σ (fX10_notes x1 σ) := by
  unfold fX10_notes
  refine FR_ite ?_ ?_
  · skip
    refine FR_bd (FR_lp (fun x σ => frX10_notes_L15 _ _ _) _ _ _) (by decide) (fun _ _ => ?_)
    refine FR_st (by simp) (fun _ => ?_)
    exact FR_sub (frX10_notes_j62 _ _) (by decide)
  · skip
    exact FR_sub (frX10_notes_j62 _ _) (by decide)
theorem frX10_tries (x1 : Int32) (x2 : Int32) (x3 : Int32) (x4 : Int32) (x5 : Int32) (σ : rS) : FR [10, 66, 67, 68, 69, 70] σ (fX10_tries x1 x2 x3 x4 x5 σ) := by
  unfold fX10_tries
  refine FR_bd (frX10_copyRow _ _ _ _ _ _ _ _ _) (by decide) (fun _ _ => ?_)
  refine FR_bd (frX10_does _ _ _ _ _ _ _) (by decide) (fun _ _ => ?_)
  refine FR_ite ?_ ?_
  · skip
    refine FR_bd (frX10_remember _) (by decide) (fun _ _ => ?_)
    refine FR_bd (frX10_notes _ _) (by decide) (fun _ _ => ?_)
    exact FR_some
  · skip
    exact FR_some
theorem frX10_act (x1 : Int32) (x2 : Int32) (x3 : Int32) (x4 : Int32) (x5 : Int32) (σ : rS) : FR [10, 63, 66, 67, 68, 69, 70] σ (fX10_act x1 x2 x3 x4 x5 σ) := by
  unfold fX10_act
  refine FR_st (by simp) (fun _ => ?_)
  refine FR_bd (frX10_tries _ _ _ _ _ _) (by decide) (fun _ _ => ?_)
  refine FR_ite ?_ ?_
  · skip
    exact FR_some
  · skip
    refine FR_bnd ?_
    refine FR_bnd ?_
    refine FR_st (by simp) (fun _ => ?_)
    exact FR_some
theorem frX10_make (x1 : Int32) (x2 : Int32) (x3 : Int32) (x4 : Int32) (σ : rS) : FR [10, 63, 66, 67, 68, 69, 70] σ (fX10_make x1 x2 x3 x4 σ) := by
  unfold fX10_make
  refine FR_bd (frX10_act _ _ _ _ _ _) (by decide) (fun _ _ => ?_)
  exact FR_some
theorem frX10_link_ (x1 : Int32) (x2 : Int32) (x3 : Int32) (σ : rS) : FR [10, 63, 66, 67, 68, 69, 70] σ (fX10_link_ x1 x2 x3 σ) := by
  unfold fX10_link_
  refine FR_bd (frX10_act _ _ _ _ _ _) (by decide) (fun _ _ => ?_)
  exact FR_some
theorem frX10_load (x1 : Int32) (x2 : Int32) (x3 : Int32) (σ : rS) : FR [10, 63, 66, 67, 68, 69, 70] σ (fX10_load x1 x2 x3 σ) := by
  unfold fX10_load
  refine FR_bd (frX10_act _ _ _ _ _ _) (by decide) (fun _ _ => ?_)
  exact FR_some
theorem frX10_drop (x1 : Int32) (σ : rS) : FR [10, 63, 66, 67, 68, 69, 70] σ (fX10_drop x1 σ) := by
  unfold fX10_drop
  refine FR_bd (frX10_act _ _ _ _ _ _) (by decide) (fun _ _ => ?_)
  exact FR_some
theorem frX10_minor  (σ : rS) : FR [10, 63, 66, 67, 68, 69, 70] σ (fX10_minor  σ) := by
  unfold fX10_minor
  refine FR_bd (frX10_act _ _ _ _ _ _) (by decide) (fun _ _ => ?_)
  exact FR_some
theorem frX10_major  (σ : rS) : FR [10, 63, 66, 67, 68, 69, 70] σ (fX10_major  σ) := by
  unfold fX10_major
  refine FR_bd (frX10_act _ _ _ _ _ _) (by decide) (fun _ _ => ?_)
  exact FR_some
theorem frX10_tell (x1 : Int32) (σ : rS) : FR [10, 63, 66, 67, 68, 69, 70] σ (fX10_tell x1 σ) := by
  unfold fX10_tell
  refine FR_bd (frX10_act _ _ _ _ _ _) (by decide) (fun _ _ => ?_)
  exact FR_some
theorem frX10_ask  (σ : rS) : FR [10, 63, 66, 67, 68, 69, 70] σ (fX10_ask  σ) := by
  unfold fX10_ask
  refine FR_bd (frX10_act _ _ _ _ _ _) (by decide) (fun _ _ => ?_)
  exact FR_some
theorem frX10_draw (x1 : Int32) (σ : rS) : FR [10] σ (fX10_draw x1 σ) := by
  unfold fX10_draw
  refine FR_stJ (by simp) (fun _ => ?_)
  refine FR_blz ?_
  exact FR_some
theorem frX10_happens  (σ : rS) : FR [10, 66, 67, 68, 69, 70] σ (fX10_happens  σ) := by
  unfold fX10_happens
  refine FR_bd (frX10_draw _ _) (by decide) (fun _ _ => ?_)
  refine FR_ite ?_ ?_
  · skip
    refine FR_bd (frX10_draw _ _) (by decide) (fun _ _ => ?_)
    refine FR_ite ?_ ?_
    · skip
      refine FR_bd (frX10_draw _ _) (by decide) (fun _ _ => ?_)
      refine FR_bd (frX10_tries _ _ _ _ _ _) (by decide) (fun _ _ => ?_)
      exact FR_some
    · skip
      refine FR_bd (frX10_tries _ _ _ _ _ _) (by decide) (fun _ _ => ?_)
      exact FR_some
  · skip
    refine FR_bd (frX10_draw _ _) (by decide) (fun _ _ => ?_)
    refine FR_ite ?_ ?_
    · skip
      refine FR_bd (frX10_tries _ _ _ _ _ _) (by decide) (fun _ _ => ?_)
      exact FR_some
    · skip
      refine FR_ite ?_ ?_
      · skip
        refine FR_bd (frX10_draw _ _) (by decide) (fun _ _ => ?_)
        refine FR_bd (frX10_draw _ _) (by decide) (fun _ _ => ?_)
        refine FR_bd (frX10_tries _ _ _ _ _ _) (by decide) (fun _ _ => ?_)
        exact FR_some
      · skip
        refine FR_ite ?_ ?_
        · skip
          refine FR_bd (frX10_draw _ _) (by decide) (fun _ _ => ?_)
          refine FR_bd (frX10_draw _ _) (by decide) (fun _ _ => ?_)
          refine FR_bd (frX10_tries _ _ _ _ _ _) (by decide) (fun _ _ => ?_)
          exact FR_some
        · skip
          refine FR_bd (frX10_draw _ _) (by decide) (fun _ _ => ?_)
          refine FR_bd (frX10_draw _ _) (by decide) (fun _ _ => ?_)
          refine FR_rd (fun _ => ?_)
          refine FR_bd (frX10_draw _ _) (by decide) (fun _ _ => ?_)
          refine FR_bd (frX10_tries _ _ _ _ _ _) (by decide) (fun _ _ => ?_)
          exact FR_some
theorem frX10_years_L34 (x1 : Int32) (x4 : Int32) (σ : rS) : FR [10, 66, 67, 68, 69, 70] σ (fX10_years_L34 x1 x4 σ) := by
  unfold fX10_years_L34
  refine FR_ite ?_ ?_
  · skip
    refine FR_bd (frX10_happens _) (by decide) (fun _ _ => ?_)
    exact FR_some
  · skip
    exact FR_some
theorem frX10_years (x1 : Int32) (x2 : Int64) (σ : rS) : FR [10, 66, 67, 68, 69, 70] σ (fX10_years x1 x2 σ) := by
  unfold fX10_years
  refine FR_st (by simp) (fun _ => ?_)
  refine FR_ite ?_ ?_
  · skip
    exact FR_some
  · skip
    refine FR_bd (frX10_isIn _ _ _ _) (by decide) (fun _ _ => ?_)
    refine FR_ite ?_ ?_
    · skip
      exact FR_some
    · skip
      refine FR_stJ (by simp) (fun _ => ?_)
      refine FR_bd (FR_lp (fun x σ => frX10_years_L34 _ _ _) _ _ _) (by decide) (fun _ _ => ?_)
      refine FR_bd (frX10_cells _ _) (by decide) (fun _ _ => ?_)
      exact FR_some
theorem frX10_status (x1 : Int32) (σ : rS) : FR [10] σ (fX10_status x1 σ) := by
  unfold fX10_status
  refine FR_st (by simp) (fun _ => ?_)
  refine FR_bd (frX10_isIn _ _ _ _) (by decide) (fun _ _ => ?_)
  refine FR_ite ?_ ?_
  · skip
    exact FR_some
  · skip
    refine FR_bnd ?_
    exact FR_some
theorem frX10_undo  (σ : rS) : FR [10, 66] σ (fX10_undo  σ) := by
  unfold fX10_undo
  refine FR_st (by simp) (fun _ => ?_)
  refine FR_ite ?_ ?_
  · skip
    exact FR_some
  · skip
    refine FR_st (by simp) (fun _ => ?_)
    refine FR_bd (frX10_copyRow _ _ _ _ _ _ _ _ _) (by decide) (fun _ _ => ?_)
    exact FR_some
theorem frX10_log (x1 : Int32) (x2 : Int32) (σ : rS) : FR [10] σ (fX10_log x1 x2 σ) := by
  unfold fX10_log
  refine FR_st (by simp) (fun _ => ?_)
  refine FR_ite ?_ ?_
  · skip
    exact FR_some
  · skip
    refine FR_ite ?_ ?_
    · skip
      refine FR_bd (frX10_isIn _ _ _ _) (by decide) (fun _ _ => ?_)
      refine FR_ite ?_ ?_
      · skip
        exact FR_some
      · skip
        refine FR_bnd ?_
        exact FR_some
    · skip
      exact FR_some
theorem frX10_image  (σ : rS) : FR [10, 66] σ (fX10_image  σ) := by
  unfold fX10_image
  refine FR_st (by simp) (fun _ => ?_)
  refine FR_ite ?_ ?_
  · skip
    exact FR_some
  · skip
    refine FR_bd (frX10_copyRow _ _ _ _ _ _ _ _ _) (by decide) (fun _ _ => ?_)
    refine FR_st (by simp) (fun _ => ?_)
    refine FR_bd (frX10_cells _ _) (by decide) (fun _ _ => ?_)
    exact FR_some
theorem frX10_back  (σ : rS) : FR [10, 66] σ (fX10_back  σ) := by
  unfold fX10_back
  refine FR_st (by simp) (fun _ => ?_)
  refine FR_ite ?_ ?_
  · skip
    exact FR_some
  · skip
    refine FR_bd (frX10_copyRow _ _ _ _ _ _ _ _ _) (by decide) (fun _ _ => ?_)
    refine FR_st (by simp) (fun _ => ?_)
    refine FR_bd (frX10_cells _ _) (by decide) (fun _ _ => ?_)
    exact FR_some
theorem frX10_rule (x1 : Int32) (σ : rS) : FR [10] σ (fX10_rule x1 σ) := by
  unfold fX10_rule
  refine FR_st (by simp) (fun _ => ?_)
  refine FR_ite ?_ ?_
  · skip
    exact FR_some
  · skip
    refine FR_bd (frX10_isIn _ _ _ _) (by decide) (fun _ _ => ?_)
    refine FR_ite ?_ ?_
    · skip
      exact FR_some
    · skip
      refine FR_bnd ?_
      exact FR_some
theorem frX10_root (x1 : Int32) (σ : rS) : FR [10] σ (fX10_root x1 σ) := by
  unfold fX10_root
  refine FR_st (by simp) (fun _ => ?_)
  refine FR_bd (frX10_isRoot _ _) (by decide) (fun _ _ => ?_)
  refine FR_ite ?_ ?_
  · skip
    exact FR_some
  · skip
    refine FR_bnd ?_
    exact FR_some
theorem frX10_isEnding_L2 (x1 : Int32) (x2 : Int32) (σ : rS) : FR [] σ (fX10_isEnding_L2 x1 x2 σ) := by
  unfold fX10_isEnding_L2
  refine FR_ite ?_ ?_
  · skip
    refine FR_bnd ?_
    refine FR_ite ?_ ?_
    · skip
      exact FR_some
    · skip
      exact FR_some
  · skip
    exact FR_some
theorem frX10_isEnding (x1 : Int32) (σ : rS) : FR [] σ (fX10_isEnding x1 σ) := by
  unfold fX10_isEnding
  refine FR_bd (FR_lp (fun x σ => frX10_isEnding_L2 _ _ _) _ _ _) (by decide) (fun _ _ => ?_)
  split
  · skip
    exact FR_some
  · skip
    exact FR_some
theorem frX10_thing_j21 (x1 : Int32) (x2 : Int32) (z0 : Int32) (σ : rS) : FR [10, 68, 69] σ (fX10_thing_j21 x1 x2 z0 σ) := by
  unfold fX10_thing_j21
  refine FR_ite ?_ ?_
  · skip
    refine FR_st (by simp) (fun _ => ?_)
    exact FR_some
  · skip
    refine FR_bd (frX10_isIn _ _ _ _) (by decide) (fun _ _ => ?_)
    refine FR_ite ?_ ?_
    · skip
      refine FR_st (by simp) (fun _ => ?_)
      exact FR_some
    · skip
      refine FR_ite ?_ ?_
      · skip
        refine FR_bd (frX10_of _ _ _ _) (by decide) (fun _ _ => ?_)
        exact FR_some
      · skip
        refine FR_ite ?_ ?_
        · skip
          refine FR_bd (frX10_of _ _ _ _) (by decide) (fun _ _ => ?_)
          exact FR_some
        · skip
          refine FR_ite ?_ ?_
          · skip
            refine FR_bd (frX10_reaches _ _ _ _) (by decide) (fun _ _ => ?_)
            refine FR_bnd ?_
            refine FR_ite ?_ ?_
            · skip
              exact FR_some
            · skip
              exact FR_some
          · skip
            refine FR_ite ?_ ?_
            · skip
              refine FR_bd (frX10_isEnding _ _) (by decide) (fun _ _ => ?_)
              refine FR_ite ?_ ?_
              · skip
                exact FR_some
              · skip
                exact FR_some
            · skip
              refine FR_bd (frX10_of _ _ _ _) (by decide) (fun _ _ => ?_)
              exact FR_some
theorem frX10_thing (x1 : Int32) (x2 : Int32) (σ : rS) : FR [10, 68, 69] σ (fX10_thing x1 x2 σ) := by
  unfold fX10_thing
  refine FR_st (by simp) (fun _ => ?_)
  refine FR_ite ?_ ?_
  · skip
    refine FR_bd (frX10_spotOf_ _ _ _) (by decide) (fun _ _ => ?_)
    exact FR_sub (frX10_thing_j21 _ _ _ _) (by decide)
  · skip
    exact FR_sub (frX10_thing_j21 _ _ _ _) (by decide)
theorem frX10_field_j48  (σ : rS) : FR [] σ (fX10_field_j48  σ) := by
  unfold fX10_field_j48
  exact FR_some
theorem frX10_field_j21 (x2 : Int32) (z0 : Int32) (σ : rS) : FR [] σ (fX10_field_j21 x2 z0 σ) := by
  unfold fX10_field_j21
  refine FR_ite ?_ ?_
  · skip
    exact FR_sub (frX10_field_j48 _) (by decide)
  · skip
    refine FR_bd (frX10_of _ _ _ _) (by decide) (fun _ _ => ?_)
    refine FR_bd (frX10_isIn _ _ _ _) (by decide) (fun _ _ => ?_)
    refine FR_ite ?_ ?_
    · skip
      exact FR_sub (frX10_field_j48 _) (by decide)
    · skip
      refine FR_bd (frX10_of _ _ _ _) (by decide) (fun _ _ => ?_)
      exact FR_some
theorem frX10_field (x1 : Int32) (x2 : Int32) (σ : rS) : FR [10] σ (fX10_field x1 x2 σ) := by
  unfold fX10_field
  refine FR_st (by simp) (fun _ => ?_)
  refine FR_ite ?_ ?_
  · skip
    refine FR_bd (frX10_spotOf_ _ _ _) (by decide) (fun _ _ => ?_)
    exact FR_sub (frX10_field_j21 _ _ _) (by decide)
  · skip
    exact FR_sub (frX10_field_j21 _ _ _) (by decide)
theorem frX10_at_j81L7 (x1 : Int32) (x2 : Int32) (x3 : Int32) (σ : rS) : FR [] σ (fX10_at_j81L7 x1 x2 x3 σ) := by
  unfold fX10_at_j81L7
  exact FR_some
theorem frX10_at_L7 (x1 : Int32) (x2 : Int32) (x3 : Int32) (σ : rS) : FR [] σ (fX10_at_L7 x1 x2 x3 σ) := by
  unfold fX10_at_L7
  refine FR_ite ?_ ?_
  · skip
    refine FR_bd (frX10_of _ _ _ _) (by decide) (fun _ _ => ?_)
    refine FR_ite ?_ ?_
    · skip
      refine FR_bd (frX10_of _ _ _ _) (by decide) (fun _ _ => ?_)
      refine FR_bd (frX10_of _ _ _ _) (by decide) (fun _ _ => ?_)
      refine FR_bd (frX10_sizeOf _ _ _) (by decide) (fun _ _ => ?_)
      refine FR_bd (frX10_isIn _ _ _ _) (by decide) (fun _ _ => ?_)
      refine FR_ite ?_ ?_
      · skip
        exact FR_sub (frX10_at_j81L7 _ _ _ _) (by decide)
      · skip
        exact FR_some
    · skip
      exact FR_sub (frX10_at_j81L7 _ _ _ _) (by decide)
  · skip
    exact FR_some
theorem frX10_at (x1 : Int32) (x2 : Int32) (σ : rS) : FR [10] σ (fX10_at x1 x2 σ) := by
  unfold fX10_at
  refine FR_st (by simp) (fun _ => ?_)
  refine FR_bd (FR_lp (fun x σ => frX10_at_L7 _ _ _ _) _ _ _) (by decide) (fun _ _ => ?_)
  split
  · skip
    refine FR_bd (frX10_of _ _ _ _) (by decide) (fun _ _ => ?_)
    exact FR_some
  · skip
    exact FR_some
theorem frX10_remembered_j45 (x1 : Int32) (x2 : Int32) (σ : rS) : FR [] σ (fX10_remembered_j45 x1 x2 σ) := by
  unfold fX10_remembered_j45
  refine FR_ite ?_ ?_
  · skip
    exact FR_some
  · skip
    refine FR_bnd ?_
    exact FR_some
theorem frX10_remembered (x1 : Int32) (x2 : Int32) (σ : rS) : FR [10] σ (fX10_remembered x1 x2 σ) := by
  unfold fX10_remembered
  refine FR_st (by simp) (fun _ => ?_)
  refine FR_ite ?_ ?_
  · skip
    exact FR_some
  · skip
    refine FR_ite ?_ ?_
    · skip
      exact FR_some
    · skip
      refine FR_ite ?_ ?_
      · skip
        refine FR_ite ?_ ?_
        · skip
          exact FR_sub (frX10_remembered_j45 _ _ _) (by decide)
        · skip
          refine FR_bd (frX10_isIn _ _ _ _) (by decide) (fun _ _ => ?_)
          refine FR_ite ?_ ?_
          · skip
            exact FR_some
          · skip
            exact FR_sub (frX10_remembered_j45 _ _ _) (by decide)
      · skip
        exact FR_some
theorem frX10_line_j37 (x2 : Int32) (z0 : Int32) (σ : rS) : FR [] σ (fX10_line_j37 x2 z0 σ) := by
  unfold fX10_line_j37
  refine FR_ite ?_ ?_
  · skip
    refine FR_bnd ?_
    exact FR_some
  · skip
    refine FR_bnd ?_
    refine FR_bd (frX10_isIn _ _ _ _) (by decide) (fun _ _ => ?_)
    refine FR_ite ?_ ?_
    · skip
      exact FR_some
    · skip
      refine FR_bnd ?_
      exact FR_some
theorem frX10_line (x1 : Int32) (x2 : Int32) (σ : rS) : FR [10] σ (fX10_line x1 x2 σ) := by
  unfold fX10_line
  refine FR_st (by simp) (fun _ => ?_)
  refine FR_ite ?_ ?_
  · skip
    exact FR_some
  · skip
    refine FR_bd (frX10_isIn _ _ _ _) (by decide) (fun _ _ => ?_)
    refine FR_ite ?_ ?_
    · skip
      exact FR_some
    · skip
      refine FR_ite ?_ ?_
      · skip
        exact FR_sub (frX10_line_j37 _ _ _) (by decide)
      · skip
        exact FR_sub (frX10_line_j37 _ _ _) (by decide)
theorem frX10_would_j67 (x1 : Int32) (x2 : Int32) (σ : rS) : FR [] σ (fX10_would_j67 x1 x2 σ) := by
  unfold fX10_would_j67
  refine FR_ite ?_ ?_
  · skip
    refine FR_ite ?_ ?_
    · skip
      exact FR_some
    · skip
      exact FR_some
  · skip
    refine FR_ite ?_ ?_
    · skip
      exact FR_some
    · skip
      refine FR_ite ?_ ?_
      · skip
        exact FR_some
      · skip
        refine FR_ite ?_ ?_
        · skip
          exact FR_some
        · skip
          exact FR_some
theorem frX10_would (x1 : Int32) (x2 : Int32) (σ : rS) : FR [10, 66, 68, 69, 70] σ (fX10_would x1 x2 σ) := by
  unfold fX10_would
  refine FR_st (by simp) (fun _ => ?_)
  refine FR_ite ?_ ?_
  · skip
    exact FR_some
  · skip
    refine FR_bd (frX10_isIn _ _ _ _) (by decide) (fun _ _ => ?_)
    refine FR_ite ?_ ?_
    · skip
      exact FR_some
    · skip
      refine FR_bd (frX10_copyRow _ _ _ _ _ _ _ _ _) (by decide) (fun _ _ => ?_)
      refine FR_ite ?_ ?_
      · skip
        refine FR_bd (frX10_minors _ _) (by decide) (fun _ _ => ?_)
        refine FR_ite ?_ ?_
        · skip
          exact FR_some
        · skip
          exact FR_sub (frX10_would_j67 _ _ _) (by decide)
      · skip
        refine FR_bd (frX10_majors _ _) (by decide) (fun _ _ => ?_)
        exact FR_sub (frX10_would_j67 _ _ _) (by decide)
theorem frX10_walksOn_j125L19 (x1 : Int32) (x2 : Int32) (x3 : Int32) (σ : rS) : FR [] σ (fX10_walksOn_j125L19 x1 x2 x3 σ) := by
  unfold fX10_walksOn_j125L19
  exact FR_some
theorem frX10_walksOn_j67L19 (x1 : Int32) (x2 : Int32) (x3 : Int32) (z0 : Int32) (σ : rS) : FR [10, 68, 69, 71, 72, 73] σ (fX10_walksOn_j67L19 x1 x2 x3 z0 σ) := by
  unfold fX10_walksOn_j67L19
  refine FR_ite ?_ ?_
  · skip
    exact FR_sub (frX10_walksOn_j125L19 _ _ _ _) (by decide)
  · skip
    refine FR_bnd ?_
    refine FR_ite ?_ ?_
    · skip
      refine FR_bnd ?_
      refine FR_st (by simp) (fun _ => ?_)
      refine FR_bnd ?_
      refine FR_st (by simp) (fun _ => ?_)
      refine FR_bnd ?_
      refine FR_bnd ?_
      refine FR_st (by simp) (fun _ => ?_)
      refine FR_bd (frX10_marks _ _) (by decide) (fun _ _ => ?_)
      exact FR_sub (frX10_walksOn_j125L19 _ _ _ _) (by decide)
    · skip
      exact FR_sub (frX10_walksOn_j125L19 _ _ _ _) (by decide)
theorem frX10_walksOn_L19 (x1 : Int32) (x2 : Int32) (x3 : Int32) (σ : rS) : FR [10, 68, 69, 71, 72, 73] σ (fX10_walksOn_L19 x1 x2 x3 σ) := by
  unfold fX10_walksOn_L19
  refine FR_bd (frX10_of _ _ _ _) (by decide) (fun _ _ => ?_)
  refine FR_ite ?_ ?_
  · skip
    refine FR_bd (frX10_isWeak _ _ _ _) (by decide) (fun _ _ => ?_)
    refine FR_ite ?_ ?_
    · skip
      refine FR_bd (frX10_of _ _ _ _) (by decide) (fun _ _ => ?_)
      refine FR_bd (frX10_spotOf_ _ _ _) (by decide) (fun _ _ => ?_)
      exact FR_sub (frX10_walksOn_j67L19 _ _ _ _ _) (by decide)
    · skip
      exact FR_sub (frX10_walksOn_j67L19 _ _ _ _ _) (by decide)
  · skip
    exact FR_some
theorem frX10_walksOn_L2 (x1 : Int32) (σ : rS) : FR [10, 68, 69, 71, 72, 73] σ (fX10_walksOn_L2 x1 σ) := by
  unfold fX10_walksOn_L2
  refine FR_ite ?_ ?_
  · skip
    refine FR_bnd ?_
    refine FR_rd (fun _ => ?_)
    refine FR_bd (FR_lp (fun x σ => frX10_walksOn_L19 _ _ _ _) _ _ _) (by decide) (fun _ _ => ?_)
    exact FR_some
  · skip
    exact FR_some
theorem frX10_walksOn  (σ : rS) : FR [10, 68, 69, 71, 72, 73] σ (fX10_walksOn  σ) := by
  unfold fX10_walksOn
  refine FR_bd (FR_lp (fun x σ => frX10_walksOn_L2 _ _) _ _ _) (by decide) (fun _ _ => ?_)
  exact FR_some
theorem frX10_walks_j64L6 (x1 : Int32) (σ : rS) : FR [] σ (fX10_walks_j64L6 x1 σ) := by
  unfold fX10_walks_j64L6
  exact FR_some
theorem frX10_walks_L6 (x1 : Int32) (σ : rS) : FR [10, 68, 69, 71, 72, 73] σ (fX10_walks_L6 x1 σ) := by
  unfold fX10_walks_L6
  refine FR_ite ?_ ?_
  · skip
    refine FR_bd (frX10_rootSpot _ _ _) (by decide) (fun _ _ => ?_)
    refine FR_ite ?_ ?_
    · skip
      exact FR_sub (frX10_walks_j64L6 _ _) (by decide)
    · skip
      refine FR_bnd ?_
      refine FR_ite ?_ ?_
      · skip
        refine FR_bnd ?_
        refine FR_st (by simp) (fun _ => ?_)
        refine FR_bnd ?_
        refine FR_st (by simp) (fun _ => ?_)
        refine FR_bnd ?_
        refine FR_st (by simp) (fun _ => ?_)
        refine FR_bd (frX10_marks _ _) (by decide) (fun _ _ => ?_)
        exact FR_sub (frX10_walks_j64L6 _ _) (by decide)
      · skip
        exact FR_sub (frX10_walks_j64L6 _ _) (by decide)
  · skip
    exact FR_some
theorem frX10_walks  (σ : rS) : FR [10, 68, 69, 71, 72, 73] σ (fX10_walks  σ) := by
  unfold fX10_walks
  refine FR_bd (frX10_begins _) (by decide) (fun _ _ => ?_)
  refine FR_bd (FR_lp (fun x σ => frX10_walks_L6 _ _) _ _ _) (by decide) (fun _ _ => ?_)
  refine FR_bd (frX10_walksOn _) (by decide) (fun _ _ => ?_)
  exact FR_some
theorem frX10_path_L74 (x2 : Int32) (x4 : Int32) (σ : rS) : FR [] σ (fX10_path_L74 x2 x4 σ) := by
  unfold fX10_path_L74
  refine FR_bnd ?_
  refine FR_ite ?_ ?_
  · skip
    refine FR_bnd ?_
    refine FR_rd (fun _ => ?_)
    exact FR_some
  · skip
    exact FR_some
theorem frX10_path_j21 (x2 : Int32) (z0 : Int32) (σ : rS) : FR [10, 68, 69, 71, 72, 73] σ (fX10_path_j21 x2 z0 σ) := by
  unfold fX10_path_j21
  refine FR_ite ?_ ?_
  · skip
    exact FR_some
  · skip
    refine FR_bd (frX10_walks _) (by decide) (fun _ _ => ?_)
    refine FR_bnd ?_
    refine FR_ite ?_ ?_
    · skip
      exact FR_some
    · skip
      refine FR_ite ?_ ?_
      · skip
        exact FR_some
      · skip
        refine FR_bnd ?_
        refine FR_ite ?_ ?_
        · skip
          exact FR_some
        · skip
          refine FR_ite ?_ ?_
          · skip
            refine FR_bnd ?_
            exact FR_some
          · skip
            refine FR_bd (FR_lp (fun x σ => frX10_path_L74 _ _ _) _ _ _) (by decide) (fun _ _ => ?_)
            refine FR_bnd ?_
            exact FR_some
theorem frX10_path (x1 : Int32) (x2 : Int32) (σ : rS) : FR [10, 68, 69, 71, 72, 73] σ (fX10_path x1 x2 σ) := by
  unfold fX10_path
  refine FR_st (by simp) (fun _ => ?_)
  refine FR_ite ?_ ?_
  · skip
    refine FR_bd (frX10_spotOf_ _ _ _) (by decide) (fun _ _ => ?_)
    exact FR_sub (frX10_path_j21 _ _ _) (by decide)
  · skip
    exact FR_sub (frX10_path_j21 _ _ _) (by decide)
theorem frX10_metCells_L4 (x1 : Int32) (x2 : Int32) (σ : rS) : FR [] σ (fX10_metCells_L4 x1 x2 σ) := by
  unfold fX10_metCells_L4
  refine FR_ite ?_ ?_
  · skip
    refine FR_bnd ?_
    refine FR_bd (frX10_sizeOf _ _ _) (by decide) (fun _ _ => ?_)
    refine FR_rd (fun _ => ?_)
    exact FR_some
  · skip
    exact FR_some
theorem frX10_metCells  (σ : rS) : FR [] σ (fX10_metCells  σ) := by
  unfold fX10_metCells
  refine FR_bd (FR_lp (fun x σ => frX10_metCells_L4 _ _ _) _ _ _) (by decide) (fun _ _ => ?_)
  exact FR_some
theorem frX10_alone (x1 : Int32) (x2 : Int32) (σ : rS) : FR [10, 68, 69] σ (fX10_alone x1 x2 σ) := by
  unfold fX10_alone
  refine FR_st (by simp) (fun _ => ?_)
  refine FR_bd (frX10_isRoot _ _) (by decide) (fun _ _ => ?_)
  refine FR_ite ?_ ?_
  · skip
    exact FR_some
  · skip
    refine FR_bnd ?_
    refine FR_ite ?_ ?_
    · skip
      exact FR_some
    · skip
      refine FR_bd (frX10_isIn _ _ _ _) (by decide) (fun _ _ => ?_)
      refine FR_ite ?_ ?_
      · skip
        exact FR_some
      · skip
        refine FR_bd (frX10_reaches _ _ _ _) (by decide) (fun _ _ => ?_)
        refine FR_rd (fun _ => ?_)
        refine FR_bd (frX10_metCells _) (by decide) (fun _ _ => ?_)
        refine FR_bd (frX10_reaches _ _ _ _) (by decide) (fun _ _ => ?_)
        refine FR_ite ?_ ?_
        · skip
          exact FR_some
        · skip
          refine FR_bd (frX10_metCells _) (by decide) (fun _ _ => ?_)
          exact FR_some
theorem frX10_holders_j64L38 (x1 : Int32) (x3 : Int32) (z0 : Int32) (z1 : Int32) (σ : rS) : FR [] σ (fX10_holders_j64L38 x1 x3 z0 z1 σ) := by
  unfold fX10_holders_j64L38
  refine FR_rd (fun _ => ?_)
  exact FR_some
theorem frX10_holders_L38 (x1 : Int32) (x2 : Int32) (x3 : Int32) (σ : rS) : FR [] σ (fX10_holders_L38 x1 x2 x3 σ) := by
  unfold fX10_holders_L38
  refine FR_ite ?_ ?_
  · skip
    refine FR_bnd ?_
    refine FR_ite ?_ ?_
    · skip
      exact FR_sub (frX10_holders_j64L38 _ _ _ _ _) (by decide)
    · skip
      exact FR_sub (frX10_holders_j64L38 _ _ _ _ _) (by decide)
  · skip
    exact FR_some
theorem frX10_holders_j150L85 (x1 : Int32) (x3 : Int32) (x4 : Int32) (z0 : Int32) (z1 : Int32) (σ : rS) : FR [] σ (fX10_holders_j150L85 x1 x3 x4 z0 z1 σ) := by
  unfold fX10_holders_j150L85
  refine FR_rd (fun _ => ?_)
  exact FR_some
theorem frX10_holders_j149L85 (x1 : Int32) (x3 : Int32) (x4 : Int32) (z0 : Int32) (σ : rS) : FR [] σ (fX10_holders_j149L85 x1 x3 x4 z0 σ) := by
  unfold fX10_holders_j149L85
  exact FR_sub (frX10_holders_j150L85 _ _ _ _ _ _) (by decide)
theorem frX10_holders_L85 (x1 : Int32) (x3 : Int32) (x2 : Int32) (x4 : Int32) (σ : rS) : FR [] σ (fX10_holders_L85 x1 x3 x2 x4 σ) := by
  unfold fX10_holders_L85
  refine FR_bnd ?_
  refine FR_bd (frX10_of _ _ _ _) (by decide) (fun _ _ => ?_)
  refine FR_ite ?_ ?_
  · skip
    refine FR_bnd ?_
    refine FR_bd (frX10_isWeak _ _ _ _) (by decide) (fun _ _ => ?_)
    refine FR_ite ?_ ?_
    · skip
      refine FR_bnd ?_
      refine FR_bd (frX10_of _ _ _ _) (by decide) (fun _ _ => ?_)
      refine FR_ite ?_ ?_
      · skip
        exact FR_sub (frX10_holders_j150L85 _ _ _ _ _ _) (by decide)
      · skip
        exact FR_sub (frX10_holders_j149L85 _ _ _ _ _) (by decide)
    · skip
      exact FR_sub (frX10_holders_j149L85 _ _ _ _ _) (by decide)
  · skip
    exact FR_some
theorem frX10_holders_L74 (x1 : Int32) (x2 : Int32) (x3 : Int32) (σ : rS) : FR [] σ (fX10_holders_L74 x1 x2 x3 σ) := by
  unfold fX10_holders_L74
  refine FR_ite ?_ ?_
  · skip
    refine FR_bd (FR_lp (fun x σ => frX10_holders_L85 _ _ _ _ _) _ _ _) (by decide) (fun _ _ => ?_)
    exact FR_some
  · skip
    exact FR_some
theorem frX10_holders (x1 : Int32) (σ : rS) : FR [10, 68, 69] σ (fX10_holders x1 σ) := by
  unfold fX10_holders
  refine FR_st (by simp) (fun _ => ?_)
  refine FR_ite ?_ ?_
  · skip
    exact FR_some
  · skip
    refine FR_bd (frX10_spotOf_ _ _ _) (by decide) (fun _ _ => ?_)
    refine FR_ite ?_ ?_
    · skip
      exact FR_some
    · skip
      refine FR_bd (frX10_reaches _ _ _ _) (by decide) (fun _ _ => ?_)
      refine FR_bd (FR_lp (fun x σ => frX10_holders_L38 _ _ _ _) _ _ _) (by decide) (fun _ _ => ?_)
      refine FR_bd (FR_lp (fun x σ => frX10_holders_L74 _ _ _ _) _ _ _) (by decide) (fun _ _ => ?_)
      exact FR_some
theorem frX10_round_j166L66 (x1 : Int32) (x3 : Int32) (x4 : Int32) (x5 : Int32) (σ : rS) : FR [] σ (fX10_round_j166L66 x1 x3 x4 x5 σ) := by
  unfold fX10_round_j166L66
  exact FR_some
theorem frX10_round_j151L66 (x1 : Int32) (x4 : Int32) (x5 : Int32) (σ : rS) : FR [] σ (fX10_round_j151L66 x1 x4 x5 σ) := by
  unfold fX10_round_j151L66
  refine FR_bnd ?_
  refine FR_bnd ?_
  refine FR_rd (fun _ => ?_)
  exact FR_sub (frX10_round_j166L66 _ _ _ _ _) (by decide)
theorem frX10_round_L66 (x1 : Int32) (x4 : Int32) (x3 : Int32) (x5 : Int32) (σ : rS) : FR [] σ (fX10_round_L66 x1 x4 x3 x5 σ) := by
  unfold fX10_round_L66
  refine FR_bnd ?_
  refine FR_bd (frX10_of _ _ _ _) (by decide) (fun _ _ => ?_)
  refine FR_ite ?_ ?_
  · skip
    refine FR_bnd ?_
    refine FR_bd (frX10_isWeak _ _ _ _) (by decide) (fun _ _ => ?_)
    refine FR_ite ?_ ?_
    · skip
      refine FR_bnd ?_
      refine FR_bd (frX10_of _ _ _ _) (by decide) (fun _ _ => ?_)
      refine FR_ite ?_ ?_
      · skip
        refine FR_ite ?_ ?_
        · skip
          exact FR_sub (frX10_round_j151L66 _ _ _ _) (by decide)
        · skip
          refine FR_bnd ?_
          refine FR_bnd ?_
          refine FR_ite ?_ ?_
          · skip
            exact FR_sub (frX10_round_j151L66 _ _ _ _) (by decide)
          · skip
            exact FR_sub (frX10_round_j166L66 _ _ _ _ _) (by decide)
      · skip
        exact FR_sub (frX10_round_j166L66 _ _ _ _ _) (by decide)
    · skip
      exact FR_sub (frX10_round_j166L66 _ _ _ _ _) (by decide)
  · skip
    exact FR_some
theorem frX10_round_L54 (x1 : Int32) (x3 : Int32) (x4 : Int32) (σ : rS) : FR [] σ (fX10_round_L54 x1 x3 x4 σ) := by
  unfold fX10_round_L54
  refine FR_ite ?_ ?_
  · skip
    refine FR_bd (FR_lp (fun x σ => frX10_round_L66 _ _ _ _ _) _ _ _) (by decide) (fun _ _ => ?_)
    exact FR_some
  · skip
    exact FR_some
theorem frX10_round_j21 (x1 : Int32) (z0 : Int32) (σ : rS) : FR [10, 68, 69, 71, 72, 73] σ (fX10_round_j21 x1 z0 σ) := by
  unfold fX10_round_j21
  refine FR_ite ?_ ?_
  · skip
    exact FR_some
  · skip
    refine FR_bd (frX10_begins _) (by decide) (fun _ _ => ?_)
    refine FR_bnd ?_
    refine FR_st (by simp) (fun _ => ?_)
    refine FR_bd (frX10_marks _ _) (by decide) (fun _ _ => ?_)
    refine FR_bd (frX10_walksOn _) (by decide) (fun _ _ => ?_)
    refine FR_bd (FR_lp (fun x σ => frX10_round_L54 _ _ _ _) _ _ _) (by decide) (fun _ _ => ?_)
    exact FR_some
theorem frX10_round (x1 : Int32) (σ : rS) : FR [10, 68, 69, 71, 72, 73] σ (fX10_round x1 σ) := by
  unfold fX10_round
  refine FR_st (by simp) (fun _ => ?_)
  refine FR_ite ?_ ?_
  · skip
    refine FR_bd (frX10_spotOf_ _ _ _) (by decide) (fun _ _ => ?_)
    exact FR_sub (frX10_round_j21 _ _ _) (by decide)
  · skip
    exact FR_sub (frX10_round_j21 _ _ _) (by decide)
theorem frX10_room (x1 : Int32) (σ : rS) : FR [10] σ (fX10_room x1 σ) := by
  unfold fX10_room
  refine FR_st (by simp) (fun _ => ?_)
  refine FR_ite ?_ ?_
  · skip
    exact FR_some
  · skip
    refine FR_bd (frX10_isIn _ _ _ _) (by decide) (fun _ _ => ?_)
    refine FR_ite ?_ ?_
    · skip
      exact FR_some
    · skip
      refine FR_bd (frX10_cellsIn _ _ _) (by decide) (fun _ _ => ?_)
      refine FR_bnz ?_
      exact FR_some
theorem frX10_areSet_j10 (x1 : Int32) (x2 : Int32) (σ : rS) : FR [] σ (fX10_areSet_j10 x1 x2 σ) := by
  unfold fX10_areSet_j10
  refine FR_ite ?_ ?_
  · skip
    exact FR_some
  · skip
    exact FR_some
theorem frX10_areSet_j41 (x1 : Int32) (x2 : Int32) (σ : rS) : FR [] σ (fX10_areSet_j41 x1 x2 σ) := by
  unfold fX10_areSet_j41
  refine FR_bnd ?_
  refine FR_ite ?_ ?_
  · skip
    refine FR_bnd ?_
    refine FR_ite ?_ ?_
    · skip
      exact FR_some
    · skip
      exact FR_some
  · skip
    exact FR_some
theorem frX10_areSet (x1 : Int32) (x2 : Int32) (σ : rS) : FR [10, 69, 74, 75] σ (fX10_areSet x1 x2 σ) := by
  unfold fX10_areSet
  refine FR_ite ?_ ?_
  · skip
    exact FR_sub (frX10_areSet_j10 _ _ _) (by decide)
  · skip
    refine FR_ite ?_ ?_
    · skip
      exact FR_sub (frX10_areSet_j10 _ _ _) (by decide)
    · skip
      refine FR_bnd ?_
      refine FR_ite ?_ ?_
      · skip
        refine FR_bnd ?_
        refine FR_ite ?_ ?_
        · skip
          refine FR_bd (frX10_of _ _ _ _) (by decide) (fun _ _ => ?_)
          refine FR_bd (frX10_of _ _ _ _) (by decide) (fun _ _ => ?_)
          refine FR_ite ?_ ?_
          · skip
            refine FR_bd (frX10_of _ _ _ _) (by decide) (fun _ _ => ?_)
            refine FR_bd (frX10_of _ _ _ _) (by decide) (fun _ _ => ?_)
            refine FR_ite ?_ ?_
            · skip
              refine FR_bd (frX10_of _ _ _ _) (by decide) (fun _ _ => ?_)
              refine FR_bd (frX10_of _ _ _ _) (by decide) (fun _ _ => ?_)
              refine FR_ite ?_ ?_
              · skip
                refine FR_bnd ?_
                refine FR_st (by simp) (fun _ => ?_)
                refine FR_bnd ?_
                refine FR_st (by simp) (fun _ => ?_)
                refine FR_bnd ?_
                refine FR_st (by simp) (fun _ => ?_)
                refine FR_st (by simp) (fun _ => ?_)
                exact FR_some
              · skip
                exact FR_some
            · skip
              exact FR_some
          · skip
            exact FR_some
        · skip
          exact FR_sub (frX10_areSet_j41 _ _ _) (by decide)
      · skip
        exact FR_sub (frX10_areSet_j41 _ _ _) (by decide)
theorem frX10_alike_L51 (x1 : Int32) (x2 : Int32) (x3 : Int32) (σ : rS) : FR [74, 75] σ (fX10_alike_L51 x1 x2 x3 σ) := by
  unfold fX10_alike_L51
  refine FR_ite ?_ ?_
  · skip
    refine FR_bnd ?_
    refine FR_st (by simp) (fun _ => ?_)
    refine FR_bnd ?_
    refine FR_st (by simp) (fun _ => ?_)
    exact FR_some
  · skip
    exact FR_some
theorem frX10_alike_L120 (x3 : Int32) (x4 : Int32) (σ : rS) : FR [10, 69, 74, 75] σ (fX10_alike_L120 x3 x4 σ) := by
  unfold fX10_alike_L120
  refine FR_bnd ?_
  refine FR_bd (frX10_of _ _ _ _) (by decide) (fun _ _ => ?_)
  refine FR_ite ?_ ?_
  · skip
    refine FR_bnd ?_
    refine FR_bd (frX10_of _ _ _ _) (by decide) (fun _ _ => ?_)
    refine FR_bd (frX10_spotOf_ _ _ _) (by decide) (fun _ _ => ?_)
    refine FR_bnd ?_
    refine FR_bnd ?_
    refine FR_bd (frX10_of _ _ _ _) (by decide) (fun _ _ => ?_)
    refine FR_bd (frX10_spotOf_ _ _ _) (by decide) (fun _ _ => ?_)
    refine FR_bd (frX10_areSet _ _ _) (by decide) (fun _ _ => ?_)
    refine FR_ite ?_ ?_
    · skip
      exact FR_some
    · skip
      exact FR_some
  · skip
    exact FR_some
theorem frX10_alike_L109 (x3 : Int32) (σ : rS) : FR [10, 69, 74, 75] σ (fX10_alike_L109 x3 σ) := by
  unfold fX10_alike_L109
  refine FR_ite ?_ ?_
  · skip
    refine FR_bd (FR_lp (fun x σ => frX10_alike_L120 _ _ _) _ _ _) (by decide) (fun _ _ => ?_)
    split
    · skip
      exact FR_some
    · skip
      exact FR_some
  · skip
    exact FR_some
theorem frX10_alike (x1 : Int32) (x2 : Int32) (σ : rS) : FR [10, 69, 74, 75] σ (fX10_alike x1 x2 σ) := by
  unfold fX10_alike
  refine FR_st (by simp) (fun _ => ?_)
  refine FR_bd (frX10_isRoot _ _) (by decide) (fun _ _ => ?_)
  refine FR_ite ?_ ?_
  · skip
    exact FR_some
  · skip
    refine FR_bd (frX10_isRoot _ _) (by decide) (fun _ _ => ?_)
    refine FR_ite ?_ ?_
    · skip
      exact FR_some
    · skip
      refine FR_bnd ?_
      refine FR_ite ?_ ?_
      · skip
        exact FR_some
      · skip
        refine FR_bnd ?_
        refine FR_ite ?_ ?_
        · skip
          exact FR_some
        · skip
          refine FR_bd (FR_lp (fun x σ => frX10_alike_L51 _ _ _ _) _ _ _) (by decide) (fun _ _ => ?_)
          refine FR_st (by simp) (fun _ => ?_)
          refine FR_bd (frX10_rootSpot _ _ _) (by decide) (fun _ _ => ?_)
          refine FR_bd (frX10_rootSpot _ _ _) (by decide) (fun _ _ => ?_)
          refine FR_bd (frX10_areSet _ _ _) (by decide) (fun _ _ => ?_)
          refine FR_ite ?_ ?_
          · skip
            exact FR_some
          · skip
            refine FR_bd (FR_lp (fun x σ => frX10_alike_L109 _ _) _ _ _) (by decide) (fun _ _ => ?_)
            split
            · skip
              exact FR_some
            · skip
              exact FR_some
theorem frX10_until_L39 (x1 : Int32) (x2 : Int32) (σ : rS) : FR [10, 66, 68, 69, 70] σ (fX10_until_L39 x1 x2 σ) := by
  unfold fX10_until_L39
  refine FR_ite ?_ ?_
  · skip
    exact FR_some
  · skip
    refine FR_bd (frX10_spotOf_ _ _ _) (by decide) (fun _ _ => ?_)
    refine FR_ite ?_ ?_
    · skip
      exact FR_some
    · skip
      refine FR_bd (frX10_isOld _ _ _) (by decide) (fun _ _ => ?_)
      refine FR_ite ?_ ?_
      · skip
        refine FR_ite ?_ ?_
        · skip
          exact FR_some
        · skip
          refine FR_bd (frX10_minors _ _) (by decide) (fun _ _ => ?_)
          refine FR_ite ?_ ?_
          · skip
            exact FR_some
          · skip
            exact FR_some
      · skip
        exact FR_some
theorem frX10_until (x1 : Int32) (σ : rS) : FR [10, 66, 68, 69, 70] σ (fX10_until x1 σ) := by
  unfold fX10_until
  refine FR_st (by simp) (fun _ => ?_)
  refine FR_ite ?_ ?_
  · skip
    exact FR_some
  · skip
    refine FR_bd (frX10_spotOf_ _ _ _) (by decide) (fun _ _ => ?_)
    refine FR_ite ?_ ?_
    · skip
      exact FR_some
    · skip
      refine FR_bd (frX10_copyRow _ _ _ _ _ _ _ _ _) (by decide) (fun _ _ => ?_)
      refine FR_bd (FR_lp (fun x σ => frX10_until_L39 _ _ _) _ _ _) (by decide) (fun _ _ => ?_)
      split
      · skip
        exact FR_some
      · skip
        exact FR_some
      · skip
        exact FR_some
      · skip
        exact FR_some
theorem frX10_garbage_j85L40 (x1 : Int32) (x3 : Int32) (z0 : Int32) (z1 : Int32) (σ : rS) : FR [] σ (fX10_garbage_j85L40 x1 x3 z0 z1 σ) := by
  unfold fX10_garbage_j85L40
  refine FR_rd (fun _ => ?_)
  exact FR_some
theorem frX10_garbage_j84L40 (x1 : Int32) (x3 : Int32) (z0 : Int32) (σ : rS) : FR [] σ (fX10_garbage_j84L40 x1 x3 z0 σ) := by
  unfold fX10_garbage_j84L40
  exact FR_sub (frX10_garbage_j85L40 _ _ _ _ _) (by decide)
theorem frX10_garbage_L40 (x1 : Int32) (x2 : Int32) (x3 : Int32) (σ : rS) : FR [] σ (fX10_garbage_L40 x1 x2 x3 σ) := by
  unfold fX10_garbage_L40
  refine FR_ite ?_ ?_
  · skip
    refine FR_bnd ?_
    refine FR_ite ?_ ?_
    · skip
      refine FR_bd (frX10_of _ _ _ _) (by decide) (fun _ _ => ?_)
      refine FR_ite ?_ ?_
      · skip
        refine FR_bd (frX10_sizeOf _ _ _) (by decide) (fun _ _ => ?_)
        exact FR_sub (frX10_garbage_j85L40 _ _ _ _ _) (by decide)
      · skip
        exact FR_sub (frX10_garbage_j84L40 _ _ _ _) (by decide)
    · skip
      exact FR_sub (frX10_garbage_j84L40 _ _ _ _) (by decide)
  · skip
    exact FR_some
theorem frX10_garbage (x1 : Int32) (σ : rS) : FR [10, 68, 69] σ (fX10_garbage x1 σ) := by
  unfold fX10_garbage
  refine FR_st (by simp) (fun _ => ?_)
  refine FR_ite ?_ ?_
  · skip
    exact FR_some
  · skip
    refine FR_bd (frX10_isIn _ _ _ _) (by decide) (fun _ _ => ?_)
    refine FR_ite ?_ ?_
    · skip
      exact FR_some
    · skip
      refine FR_bd (frX10_reaches _ _ _ _) (by decide) (fun _ _ => ?_)
      refine FR_bd (FR_lp (fun x σ => frX10_garbage_L40 _ _ _ _) _ _ _) (by decide) (fun _ _ => ?_)
      exact FR_some
theorem frX10_isScript (x1 : Int32) (σ : rS) : FR [] σ (fX10_isScript x1 σ) := by
  unfold fX10_isScript
  refine FR_bd (frX10_isIn _ _ _ _) (by decide) (fun _ _ => ?_)
  refine FR_bz ?_
  exact FR_some
theorem frX10_step (x1 : Int32) (x2 : Int32) (x3 : Int32) (σ : rS) : FR [10] σ (fX10_step x1 x2 x3 σ) := by
  unfold fX10_step
  refine FR_st (by simp) (fun _ => ?_)
  refine FR_bd (frX10_isScript _ _) (by decide) (fun _ _ => ?_)
  refine FR_ite ?_ ?_
  · skip
    exact FR_some
  · skip
    refine FR_bnd ?_
    refine FR_bd (frX10_isIn _ _ _ _) (by decide) (fun _ _ => ?_)
    refine FR_ite ?_ ?_
    · skip
      exact FR_some
    · skip
      refine FR_bd (frX10_isIn _ _ _ _) (by decide) (fun _ _ => ?_)
      refine FR_ite ?_ ?_
      · skip
        exact FR_some
      · skip
        refine FR_bnd ?_
        exact FR_some
theorem frX10_run_j147L52 (x1 : Int32) (x2 : Int32) (x3 : Int32) (x4 : Int32) (σ : rS) : FR [] σ (fX10_run_j147L52 x1 x2 x3 x4 σ) := by
  unfold fX10_run_j147L52
  exact FR_some
theorem frX10_run_j137L52 (x1 : Int32) (x2 : Int32) (x3 : Int32) (z0 : Int32) (σ : rS) : FR [] σ (fX10_run_j137L52 x1 x2 x3 z0 σ) := by
  unfold fX10_run_j137L52
  refine FR_ite ?_ ?_
  · skip
    exact FR_sub (frX10_run_j147L52 _ _ _ _ _) (by decide)
  · skip
    exact FR_sub (frX10_run_j147L52 _ _ _ _ _) (by decide)
theorem frX10_run_L52 (x1 : Int32) (x2 : Int32) (x3 : Int32) (x4 : Int32) (σ : rS) : FR [10, 66, 68, 69, 70] σ (fX10_run_L52 x1 x2 x3 x4 σ) := by
  unfold fX10_run_L52
  refine FR_ite ?_ ?_
  · skip
    exact FR_some
  · skip
    refine FR_bnd ?_
    refine FR_ite ?_ ?_
    · skip
      refine FR_rd (fun _ => ?_)
      refine FR_bnd ?_
      refine FR_bnd ?_
      refine FR_bnd ?_
      refine FR_bnd ?_
      refine FR_bnd ?_
      refine FR_bd (frX10_does _ _ _ _ _ _ _) (by decide) (fun _ _ => ?_)
      refine FR_ite ?_ ?_
      · skip
        exact FR_sub (frX10_run_j137L52 _ _ _ _ _) (by decide)
      · skip
        exact FR_sub (frX10_run_j137L52 _ _ _ _ _) (by decide)
    · skip
      exact FR_some
theorem frX10_run_j150 (x1 : Int32) (x2 : Int32) (x3 : Int32) (σ : rS) : FR [] σ (fX10_run_j150 x1 x2 x3 σ) := by
  unfold fX10_run_j150
  refine FR_ite ?_ ?_
  · skip
    refine FR_bd (frX10_cells _ _) (by decide) (fun _ _ => ?_)
    exact FR_some
  · skip
    refine FR_bnd ?_
    refine FR_ite ?_ ?_
    · skip
      exact FR_some
    · skip
      exact FR_some
theorem frX10_run (x1 : Int32) (x2 : Int32) (σ : rS) : FR [10, 66, 68, 69, 70] σ (fX10_run x1 x2 σ) := by
  unfold fX10_run
  refine FR_st (by simp) (fun _ => ?_)
  refine FR_bd (frX10_isScript _ _) (by decide) (fun _ _ => ?_)
  refine FR_ite ?_ ?_
  · skip
    exact FR_some
  · skip
    refine FR_ite ?_ ?_
    · skip
      exact FR_some
    · skip
      refine FR_bd (frX10_isIn _ _ _ _) (by decide) (fun _ _ => ?_)
      refine FR_ite ?_ ?_
      · skip
        exact FR_some
      · skip
        refine FR_bd (frX10_copyRow _ _ _ _ _ _ _ _ _) (by decide) (fun _ _ => ?_)
        refine FR_bd (FR_lp (fun x σ => frX10_run_L52 _ _ _ _ _) _ _ _) (by decide) (fun _ _ => ?_)
        exact FR_sub (frX10_run_j150 _ _ _ _) (by decide)
theorem frX10_perform_j114L26 (x1 : Int32) (x2 : Int32) (x3 : Int32) (σ : rS) : FR [] σ (fX10_perform_j114L26 x1 x2 x3 σ) := by
  unfold fX10_perform_j114L26
  exact FR_some
theorem frX10_perform_j106L26 (x1 : Int32) (x2 : Int32) (z0 : Int32) (σ : rS) : FR [] σ (fX10_perform_j106L26 x1 x2 z0 σ) := by
  unfold fX10_perform_j106L26
  refine FR_ite ?_ ?_
  · skip
    exact FR_sub (frX10_perform_j114L26 _ _ _ _) (by decide)
  · skip
    exact FR_sub (frX10_perform_j114L26 _ _ _ _) (by decide)
theorem frX10_perform_L26 (x1 : Int32) (x2 : Int32) (x3 : Int32) (σ : rS) : FR [10, 66, 67, 68, 69, 70] σ (fX10_perform_L26 x1 x2 x3 σ) := by
  unfold fX10_perform_L26
  refine FR_ite ?_ ?_
  · skip
    exact FR_some
  · skip
    refine FR_bnd ?_
    refine FR_ite ?_ ?_
    · skip
      refine FR_rd (fun _ => ?_)
      refine FR_bnd ?_
      refine FR_bnd ?_
      refine FR_bnd ?_
      refine FR_bnd ?_
      refine FR_bnd ?_
      refine FR_bd (frX10_tries _ _ _ _ _ _) (by decide) (fun _ _ => ?_)
      refine FR_ite ?_ ?_
      · skip
        exact FR_sub (frX10_perform_j106L26 _ _ _ _) (by decide)
      · skip
        exact FR_sub (frX10_perform_j106L26 _ _ _ _) (by decide)
    · skip
      exact FR_some
theorem frX10_perform (x1 : Int32) (σ : rS) : FR [10, 66, 67, 68, 69, 70] σ (fX10_perform x1 σ) := by
  unfold fX10_perform
  refine FR_st (by simp) (fun _ => ?_)
  refine FR_bd (frX10_isScript _ _) (by decide) (fun _ _ => ?_)
  refine FR_ite ?_ ?_
  · skip
    exact FR_some
  · skip
    refine FR_ite ?_ ?_
    · skip
      exact FR_some
    · skip
      refine FR_bd (FR_lp (fun x σ => frX10_perform_L26 _ _ _ _) _ _ _) (by decide) (fun _ _ => ?_)
      exact FR_some
theorem frX10_reached  (σ : rS) : FR [10, 68, 69] σ (fX10_reached  σ) := by
  unfold fX10_reached
  refine FR_bd (frX10_reaches _ _ _ _) (by decide) (fun _ _ => ?_)
  exact FR_some
theorem frX10_oldest_j37L4 (x1 : Int32) (x2 : Int32) (σ : rS) : FR [] σ (fX10_oldest_j37L4 x1 x2 σ) := by
  unfold fX10_oldest_j37L4
  exact FR_some
theorem frX10_oldest_L4 (x1 : Int32) (x2 : Int32) (σ : rS) : FR [] σ (fX10_oldest_L4 x1 x2 σ) := by
  unfold fX10_oldest_L4
  refine FR_ite ?_ ?_
  · skip
    refine FR_bd (frX10_of _ _ _ _) (by decide) (fun _ _ => ?_)
    refine FR_ite ?_ ?_
    · skip
      refine FR_bd (frX10_of _ _ _ _) (by decide) (fun _ _ => ?_)
      exact FR_sub (frX10_oldest_j37L4 _ _ _) (by decide)
    · skip
      exact FR_sub (frX10_oldest_j37L4 _ _ _) (by decide)
  · skip
    exact FR_some
theorem frX10_oldest  (σ : rS) : FR [] σ (fX10_oldest  σ) := by
  unfold fX10_oldest
  refine FR_bd (FR_lp (fun x σ => frX10_oldest_L4 _ _ _) _ _ _) (by decide) (fun _ _ => ?_)
  exact FR_some
theorem frX10_linked_j31L4 (x2 : Int32) (z0 : Int32) (z1 : Int32) (σ : rS) : FR [] σ (fX10_linked_j31L4 x2 z0 z1 σ) := by
  unfold fX10_linked_j31L4
  refine FR_rd (fun _ => ?_)
  exact FR_some
theorem frX10_linked_L4 (x1 : Int32) (x2 : Int32) (σ : rS) : FR [] σ (fX10_linked_L4 x1 x2 σ) := by
  unfold fX10_linked_L4
  refine FR_ite ?_ ?_
  · skip
    refine FR_bnd ?_
    refine FR_ite ?_ ?_
    · skip
      exact FR_sub (frX10_linked_j31L4 _ _ _ _) (by decide)
    · skip
      exact FR_sub (frX10_linked_j31L4 _ _ _ _) (by decide)
  · skip
    exact FR_some
theorem frX10_linked  (σ : rS) : FR [] σ (fX10_linked  σ) := by
  unfold fX10_linked
  refine FR_bd (FR_lp (fun x σ => frX10_linked_L4 _ _ _) _ _ _) (by decide) (fun _ _ => ?_)
  exact FR_some
theorem frX10_most (x1 : Int32) (σ : rS) : FR [10, 68, 69] σ (fX10_most x1 σ) := by
  unfold fX10_most
  refine FR_st (by simp) (fun _ => ?_)
  refine FR_ite ?_ ?_
  · skip
    exact FR_some
  · skip
    refine FR_ite ?_ ?_
    · skip
      refine FR_bd (frX10_cellsIn _ _ _) (by decide) (fun _ _ => ?_)
      exact FR_some
    · skip
      refine FR_ite ?_ ?_
      · skip
        refine FR_bd (frX10_cellsIn _ _ _) (by decide) (fun _ _ => ?_)
        exact FR_some
      · skip
        refine FR_ite ?_ ?_
        · skip
          refine FR_bd (frX10_cellsIn _ _ _) (by decide) (fun _ _ => ?_)
          exact FR_some
        · skip
          refine FR_ite ?_ ?_
          · skip
            exact FR_some
          · skip
            refine FR_ite ?_ ?_
            · skip
              refine FR_bd (frX10_reached _) (by decide) (fun _ _ => ?_)
              exact FR_some
            · skip
              refine FR_ite ?_ ?_
              · skip
                refine FR_bd (frX10_oldest _) (by decide) (fun _ _ => ?_)
                exact FR_some
              · skip
                refine FR_ite ?_ ?_
                · skip
                  refine FR_bd (frX10_linked _) (by decide) (fun _ _ => ?_)
                  exact FR_some
                · skip
                  refine FR_ite ?_ ?_
                  · skip
                    exact FR_some
                  · skip
                    refine FR_bd (frX10_isIn _ _ _ _) (by decide) (fun _ _ => ?_)
                    refine FR_ite ?_ ?_
                    · skip
                      exact FR_some
                    · skip
                      refine FR_bnd ?_
                      exact FR_some
theorem frX10_count (x1 : Int32) (σ : rS) : FR [10] σ (fX10_count x1 σ) := by
  unfold fX10_count
  refine FR_st (by simp) (fun _ => ?_)
  refine FR_ite ?_ ?_
  · skip
    exact FR_some
  · skip
    refine FR_ite ?_ ?_
    · skip
      exact FR_some
    · skip
      refine FR_ite ?_ ?_
      · skip
        exact FR_some
      · skip
        refine FR_ite ?_ ?_
        · skip
          exact FR_some
        · skip
          refine FR_ite ?_ ?_
          · skip
            exact FR_some
          · skip
            exact FR_some
