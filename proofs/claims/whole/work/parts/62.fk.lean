/-! whose cells a pure function may change -/
def FK {α : Type} (S : Nat → Nat → Prop) (σ : rS) (o : Option (α × rS)) : Prop := ∀ (r : α) (σ' : rS), o = some (r, σ') → ∀ c k, ¬ S c k → σ' c k = σ c k
def SK (j c k : Nat) : Prop := (c = 7 ∨ (45 ≤ c ∧ c < 56) → k = j) ∧ (c = 4 ∨ c = 28 → 6 * j ≤ k ∧ k < 6 * j + 6)
def SL (j c k : Nat) : Prop := ¬ (c = 7 ∨ (45 ≤ c ∧ c < 56)) ∧ (c = 4 ∨ c = 28 → k = j)
def S0 (j c k : Nat) : Prop := SK j c k ∨ SK 3 c k
def SC (c0 k0 c k : Nat) : Prop := c = c0 ∧ k = k0
def SM (v c k : Nat) : Prop := c = 66 → k = v ∨ k = 2 ∨ k = 4
def SZ (v z c k : Nat) : Prop := c = 66 → k = v ∨ k = z ∨ k = 2 ∨ k = 4
def SD (j q c k : Nat) : Prop := SK j c k ∨ SL q c k
theorem SL_SK {k j : Nat} (hj : j < 6) : ∀ c q, SL (6 * k + j) c q → SK k c q := fun c q h => ⟨fun z => absurd z h.1, fun z => by have := h.2 z; omega⟩
theorem SK_S0 {k : Nat} : ∀ c q, SK k c q → S0 k c q := fun _ _ h => Or.inl h
theorem SK3_S0 {k : Nat} : ∀ c q, SK 3 c q → S0 k c q := fun _ _ h => Or.inr h
theorem SL_S0 {k j : Nat} (hj : j < 6) : ∀ c q, SL (6 * k + j) c q → S0 k c q := fun c q h => Or.inl (SL_SK hj c q h)
theorem FK_some {α : Type} {S : Nat → Nat → Prop} {σ : rS} {r : α} : FK S σ (some (r, σ)) := fun r' σ' h c k _ => by
  have := Option.some.inj h
  cases this
  rfl
theorem FK_none {α : Type} {S : Nat → Nat → Prop} {σ : rS} : FK (α := α) S σ none := fun r' σ' h => by cases h
theorem FK_ite {α : Type} {S : Nat → Nat → Prop} {σ : rS} {c : Prop} [Decidable c] {x y : Option (α × rS)} (h1 : FK S σ x) (h2 : FK S σ y) : FK S σ (if c then x else y) := by
  by_cases hc : c
  · rw [if_pos hc]; exact h1
  · rw [if_neg hc]; exact h2
theorem FK_bnd {α : Type} {S : Nat → Nat → Prop} {σ : rS} {i : Int32} {n : Nat} {x : Option (α × rS)} (h : FK S σ x) : FK S σ (bnd i n x) := FK_ite FK_none h
theorem FK_bz {α : Type} {S : Nat → Nat → Prop} {σ : rS} {i : Int32} {x : Option (α × rS)} (h : FK S σ x) : FK S σ (bz i x) := FK_ite h FK_none
theorem FK_bnz {α : Type} {S : Nat → Nat → Prop} {σ : rS} {i : Int32} {x : Option (α × rS)} (h : FK S σ x) : FK S σ (bnz i x) := FK_ite FK_none h
theorem FK_bcp {α : Type} {S : Nat → Nat → Prop} {σ : rS} {a b c : Int32} {n m : Nat} {x : Option (α × rS)} (h : FK S σ x) : FK S σ (bcp a b c n m x) := FK_ite FK_none h
theorem FK_rd {α : Type} {S : Nat → Nat → Prop} {σ : rS} {x : Int32} {f : Int32 → Option (α × rS)} (h : ∀ y, FK S σ (f y)) : FK S σ (rd x f) := h x
theorem FK_to {α : Type} {S : Nat → Nat → Prop} {σ σ1 : rS} {x : Option (α × rS)} (hc : ∀ c k, ¬ S c k → σ1 c k = σ c k) (h : FK S σ1 x) : FK S σ x := fun r σ' e c k hn => (h r σ' e c k hn).trans (hc c k hn)
theorem FK_stR {α : Type} {S : Nat → Nat → Prop} {σ : rS} {c k : Nat} {g : Nat → Int32} {f : rS → Option (α × rS)} (hc : S c k) (h : ∀ σ1, FK S σ1 (f σ1)) : FK S σ (st (wrR σ c k g) f) := FK_to (fun c' k' hn => wrR_ne _ _ _ _ (fun e => hn (by rw [e.1, e.2]; exact hc))) (h _)
theorem FK_st {α : Type} {S : Nat → Nat → Prop} {σ : rS} {c k i : Nat} {v : Int32} {f : rS → Option (α × rS)} (hc : S c k) (h : ∀ σ1, FK S σ1 (f σ1)) : FK S σ (st (wr σ c k i v) f) := FK_stR hc h
theorem FK_bd {α β : Type} {S S1 : Nat → Nat → Prop} {σ : rS} {o : Option (α × rS)} {f : α → rS → Option (β × rS)} (h1 : FK S1 σ o) (hw : ∀ c k, S1 c k → S c k) (h : ∀ r σ1, FK S σ1 (f r σ1)) : FK S σ (bd o f) := by
  cases o with
  | none => exact FK_none
  | some q => exact FK_to (fun c k hn => h1 q.1 q.2 rfl c k (fun z => hn (hw c k z))) (h q.1 q.2)
theorem FK_sub {α : Type} {S S1 : Nat → Nat → Prop} {σ : rS} {o : Option (α × rS)} (h1 : FK S1 σ o) (hw : ∀ c k, S1 c k → S c k) : FK S σ o := fun r σ' e c k hn => h1 r σ' e c k (fun z => hn (hw c k z))
theorem FK_fr {α : Type} {W : List Nat} {σ : rS} {o : Option (α × rS)} (h : FR W σ o) : FK (fun c _ => c ∈ W) σ o := fun r σ' e c k hn => by rw [h r σ' e c hn]
theorem FK_lp {L R : Type} {S : Nat → Nat → Prop} {step : L → rS → Option ((L ⊕ R) × rS)} (h : ∀ x σ, FK S σ (step x σ)) : ∀ (n : Nat) (x : L) (σ : rS), FK S σ (lp step n x σ) := by
  intro n
  induction n with
  | zero => intro x σ; exact FK_none
  | succ n ih =>
    intro x σ
    refine FK_bd (h x σ) (fun _ _ z => z) (fun q σ1 => ?_)
    cases q with
    | inl y => exact ih y σ1
    | inr r => exact FK_some
theorem fr_SK {W : List Nat} {j : Nat} (h : ∀ c ∈ W, ¬ (c = 7 ∨ c = 4 ∨ c = 28 ∨ (45 ≤ c ∧ c < 56))) : ∀ c k, (fun c (_ : Nat) => c ∈ W) c k → SK j c k := fun c k hc => ⟨fun z => absurd (by omega) (h c hc), fun z => absurd (by omega) (h c hc)⟩
theorem fr_SL {W : List Nat} {j : Nat} (h : ∀ c ∈ W, ¬ (c = 7 ∨ c = 4 ∨ c = 28 ∨ (45 ≤ c ∧ c < 56))) : ∀ c k, (fun c (_ : Nat) => c ∈ W) c k → SL j c k := fun c k hc => ⟨fun z => absurd (by omega) (h c hc), fun z => absurd (by omega) (h c hc)⟩
theorem fr_S0 {W : List Nat} {j : Nat} (h : ∀ c ∈ W, ¬ (c = 7 ∨ c = 4 ∨ c = 28 ∨ (45 ≤ c ∧ c < 56))) : ∀ c k, (fun c (_ : Nat) => c ∈ W) c k → S0 j c k := fun c k hc => Or.inl (fr_SK h c k hc)
theorem fr_SM {W : List Nat} {j : Nat} (h : ∀ c ∈ W, ¬ c = 66) : ∀ c k, (fun c (_ : Nat) => c ∈ W) c k → SM j c k := fun c k hc z => absurd z (h c hc)
theorem fr_SC {c0 k0 : Nat} : ∀ c k, (fun c (_ : Nat) => c ∈ ([] : List Nat)) c k → SC c0 k0 c k := fun c k hc => nomatch hc
theorem fkJ7_fill_53178_L5 (c0 k0 n0 : Nat) (x1 : Int32) (x3 : Int32) (x2 : Int32) (σ : rS) : FK (SC c0 k0) σ (fJ7_fill_53178_L5 c0 k0 n0 x1 x3 x2 σ) := by
  unfold fJ7_fill_53178_L5
  refine FK_ite ?_ ?_
  · skip
    refine FK_bnd ?_
    refine FK_st (by exact ⟨rfl, rfl⟩) (fun _ => ?_)
    exact FK_some
  · skip
    exact FK_some
theorem fkJ7_fill_53178 (c0 k0 n0 : Nat) (x1 : Int32) (σ : rS) : FK (SC c0 k0) σ (fJ7_fill_53178 c0 k0 n0 x1 σ) := by
  unfold fJ7_fill_53178
  refine FK_rd (fun _ => ?_)
  refine FK_bd (FK_lp (fun x σ => FK_sub (fkJ7_fill_53178_L5 _ _ _ _ _ _ _) (fun c k h => by obtain ⟨rfl, rfl⟩ := h; exact ⟨rfl, rfl⟩)) _ _ _) (fun _ _ h => h) (fun _ _ => ?_)
  exact FK_some
theorem fkX7_setTarget (k0 : Nat) (x1 : Int32) (x2 : Int32) (x3 : Int32) (σ : rS) : FK (SK k0) σ (fX7_setTarget k0 x1 x2 x3 σ) := by
  unfold fX7_setTarget
  refine FK_bd (FK_fr (frX7_hasField _ _ _ _)) (fr_SK (by decide)) (fun _ _ => ?_)
  refine FK_ite ?_ ?_
  · skip
    exact FK_some
  · skip
    refine FK_bnd ?_
    refine FK_st (by exact ⟨fun _ => by omega, fun _ => by omega⟩) (fun _ => ?_)
    exact FK_some
theorem fkX4_add_j39 (k0 : Nat) (x1 : Int32) (σ : rS) : FK (SL k0) σ (fX4_add_j39 k0 x1 σ) := by
  unfold fX4_add_j39
  refine FK_bnd ?_
  refine FK_st (by exact ⟨by omega, fun _ => by omega⟩) (fun _ => ?_)
  refine FK_st (by exact ⟨by omega, fun _ => by omega⟩) (fun _ => ?_)
  exact FK_some
theorem fkX4_add (k0 : Nat) (x1 : Int32) (σ : rS) : FK (SL k0) σ (fX4_add k0 x1 σ) := by
  unfold fX4_add
  refine FK_ite ?_ ?_
  · skip
    refine FK_st (by exact ⟨by omega, fun _ => by omega⟩) (fun _ => ?_)
    refine FK_bcp ?_
    refine FK_stR (by exact ⟨by omega, fun _ => by omega⟩) (fun _ => ?_)
    exact FK_sub (fkX4_add_j39 _ _ _) (fun _ _ h => h)
  · skip
    exact FK_sub (fkX4_add_j39 _ _ _) (fun _ _ h => h)
theorem fkX1_emptyWeak_j66L2 (k1 : Nat) (x2 : Int32) (x3 : Int32) (σ : rS) : FK (SK k1) σ (fX1_emptyWeak_j66L2 k1 x2 x3 σ) := by
  unfold fX1_emptyWeak_j66L2
  refine FK_bd (fkX7_setTarget _ _ _ _ _) (fun _ _ h => h) (fun _ _ => ?_)
  refine FK_bnd ?_
  refine FK_bd (fkX4_add _ _ _) (SL_SK (by decide)) (fun _ _ => ?_)
  refine FK_st (by exact ⟨fun _ => by omega, fun _ => by omega⟩) (fun _ => ?_)
  exact FK_sub (FK_fr (frX1_emptyWeak_j96L2 _ _ _ _)) (fr_SK (by decide))
theorem fkX1_emptyWeak_L2 (k1 : Nat) (x2 : Int32) (x3 : Int32) (σ : rS) : FK (SK k1) σ (fX1_emptyWeak_L2 k1 x2 x3 σ) := by
  unfold fX1_emptyWeak_L2
  refine FK_ite ?_ ?_
  · skip
    refine FK_bd (FK_fr (frX7_target _ _ _ _)) (fr_SK (by decide)) (fun _ _ => ?_)
    refine FK_bd (FK_fr (frX7_isWeak _ _ _)) (fr_SK (by decide)) (fun _ _ => ?_)
    refine FK_ite ?_ ?_
    · skip
      exact FK_sub (FK_fr (frX1_emptyWeak_j96L2 _ _ _ _)) (fr_SK (by decide))
    · skip
      refine FK_bnd ?_
      refine FK_ite ?_ ?_
      · skip
        refine FK_bd (FK_fr (frX7_isSlot _ _ _)) (fr_SK (by decide)) (fun _ _ => ?_)
        refine FK_ite ?_ ?_
        · skip
          exact FK_sub (FK_fr (frX1_emptyWeak_j96L2 _ _ _ _)) (fr_SK (by decide))
        · skip
          refine FK_bnd ?_
          refine FK_ite ?_ ?_
          · skip
            exact FK_sub (fkX1_emptyWeak_j66L2 _ _ _ _) (fun _ _ h => h)
          · skip
            refine FK_bnd ?_
            refine FK_ite ?_ ?_
            · skip
              exact FK_sub (fkX1_emptyWeak_j66L2 _ _ _ _) (fun _ _ h => h)
            · skip
              exact FK_sub (FK_fr (frX1_emptyWeak_j96L2 _ _ _ _)) (fr_SK (by decide))
      · skip
        exact FK_sub (FK_fr (frX1_emptyWeak_j96L2 _ _ _ _)) (fr_SK (by decide))
  · skip
    exact FK_some
theorem fkX1_emptyWeak (k1 : Nat) (x2 : Int32) (σ : rS) : FK (SK k1) σ (fX1_emptyWeak k1 x2 σ) := by
  unfold fX1_emptyWeak
  refine FK_bd (FK_lp (fun x σ => FK_sub (fkX1_emptyWeak_L2 _ _ _ _) (fun _ _ h => h)) _ _ _) (fun _ _ h => h) (fun _ _ => ?_)
  exact FK_some
theorem fkX1_lineUpLasting_L2 (k1 : Nat) (x2 : Int32) (σ : rS) : FK (SK k1) σ (fX1_lineUpLasting_L2 k1 x2 σ) := by
  unfold fX1_lineUpLasting_L2
  refine FK_ite ?_ ?_
  · skip
    refine FK_bnd ?_
    refine FK_ite ?_ ?_
    · skip
      refine FK_bnd ?_
      refine FK_ite ?_ ?_
      · skip
        exact FK_sub (FK_fr (frX1_lineUpLasting_j48L2 _ _ _)) (fr_SK (by decide))
      · skip
        refine FK_bd (fkX4_add _ _ _) (SL_SK (by decide)) (fun _ _ => ?_)
        refine FK_st (by exact ⟨fun _ => by omega, fun _ => by omega⟩) (fun _ => ?_)
        exact FK_sub (FK_fr (frX1_lineUpLasting_j48L2 _ _ _)) (fr_SK (by decide))
    · skip
      exact FK_sub (FK_fr (frX1_lineUpLasting_j48L2 _ _ _)) (fr_SK (by decide))
  · skip
    exact FK_some
theorem fkX1_lineUpLasting (k1 : Nat) (σ : rS) : FK (SK k1) σ (fX1_lineUpLasting k1 σ) := by
  unfold fX1_lineUpLasting
  refine FK_bd (FK_lp (fun x σ => FK_sub (fkX1_lineUpLasting_L2 _ _ _) (fun _ _ h => h)) _ _ _) (fun _ _ h => h) (fun _ _ => ?_)
  exact FK_some
theorem fkX1_settle_L2 (k1 : Nat) (x2 : Int32) (σ : rS) : FK (SK k1) σ (fX1_settle_L2 k1 x2 σ) := by
  unfold fX1_settle_L2
  refine FK_ite ?_ ?_
  · skip
    refine FK_bnd ?_
    refine FK_rd (fun _ => ?_)
    refine FK_bnd ?_
    refine FK_bnd ?_
    refine FK_st (by exact ⟨fun _ => by omega, fun _ => by omega⟩) (fun _ => ?_)
    refine FK_bnd ?_
    refine FK_bnd ?_
    refine FK_st (by exact ⟨fun _ => by omega, fun _ => by omega⟩) (fun _ => ?_)
    refine FK_bnd ?_
    refine FK_bnd ?_
    refine FK_st (by exact ⟨fun _ => by omega, fun _ => by omega⟩) (fun _ => ?_)
    refine FK_st (by exact ⟨fun _ => by omega, fun _ => by omega⟩) (fun _ => ?_)
    refine FK_bnd ?_
    refine FK_ite ?_ ?_
    · skip
      refine FK_st (by exact ⟨fun _ => by omega, fun _ => by omega⟩) (fun _ => ?_)
      exact FK_sub (FK_fr (frX1_settle_j81L2 _ _ _)) (fr_SK (by decide))
    · skip
      exact FK_sub (FK_fr (frX1_settle_j81L2 _ _ _)) (fr_SK (by decide))
  · skip
    exact FK_some
theorem fkX1_settle (k1 : Nat) (σ : rS) : FK (SK k1) σ (fX1_settle k1 σ) := by
  unfold fX1_settle
  refine FK_bd (FK_lp (fun x σ => FK_sub (fkX1_settle_L2 _ _ _) (fun _ _ h => h)) _ _ _) (fun _ _ h => h) (fun _ _ => ?_)
  refine FK_st (by exact ⟨fun _ => by omega, fun _ => by omega⟩) (fun _ => ?_)
  refine FK_st (by exact ⟨fun _ => by omega, fun _ => by omega⟩) (fun _ => ?_)
  refine FK_st (by exact ⟨fun _ => by omega, fun _ => by omega⟩) (fun _ => ?_)
  refine FK_st (by exact ⟨fun _ => by omega, fun _ => by omega⟩) (fun _ => ?_)
  exact FK_some
theorem fkX4_set (k0 : Nat) (x1 : Int32) (x2 : Int32) (σ : rS) : FK (SL k0) σ (fX4_set k0 x1 x2 σ) := by
  unfold fX4_set
  refine FK_ite ?_ ?_
  · skip
    exact FK_some
  · skip
    refine FK_ite ?_ ?_
    · skip
      refine FK_bnd ?_
      refine FK_st (by exact ⟨by omega, fun _ => by omega⟩) (fun _ => ?_)
      exact FK_some
    · skip
      exact FK_some
theorem fkX1_dropRemembered_L10 (k1 : Nat) (k2 : Nat) (x3 : Int32) (x4 : Int32) (σ : rS) : FK (SD k1 k2) σ (fX1_dropRemembered_L10 k1 k2 x3 x4 σ) := by
  unfold fX1_dropRemembered_L10
  refine FK_ite ?_ ?_
  · skip
    refine FK_bd (FK_fr (frX4_get _ _ _)) (fun c k h => Or.inl (fr_SK (by decide) c k h)) (fun _ _ => ?_)
    refine FK_rd (fun _ => ?_)
    refine FK_bd (FK_fr (frX7_isOldToYoung _ _ _ _)) (fun c k h => Or.inl (fr_SK (by decide) c k h)) (fun _ _ => ?_)
    refine FK_ite ?_ ?_
    · skip
      exact FK_sub (FK_fr (frX1_dropRemembered_j66L10 _ _ _ _ _)) (fun c k h => Or.inl (fr_SK (by decide) c k h))
    · skip
      refine FK_bnd ?_
      refine FK_ite ?_ ?_
      · skip
        exact FK_sub (FK_fr (frX1_dropRemembered_j66L10 _ _ _ _ _)) (fun c k h => Or.inl (fr_SK (by decide) c k h))
      · skip
        refine FK_bd (fkX4_set _ _ _ _) (fun _ _ h => Or.inr h) (fun _ _ => ?_)
        exact FK_sub (FK_fr (frX1_dropRemembered_j66L10 _ _ _ _ _)) (fun c k h => Or.inl (fr_SK (by decide) c k h))
  · skip
    exact FK_some
theorem fkX1_dropRemembered (k1 : Nat) (σ : rS) : FK (SK k1) σ (fX1_dropRemembered k1 σ) := by
  unfold fX1_dropRemembered
  refine FK_bd (FK_lp (fun x σ => FK_sub (fkX1_dropRemembered_L10 _ _ _ _ _) (fun c q h => h.elim id (SL_SK (by decide) c q))) _ _ _) (fun _ _ h => h) (fun _ _ => ?_)
  refine FK_st (by exact ⟨fun _ => by omega, fun _ => by omega⟩) (fun _ => ?_)
  exact FK_some
theorem fkX1_rememberMoved_L20 (k1 : Nat) (x2 : Int32) (x3 : Int32) (x4 : Int32) (σ : rS) : FK (SK k1) σ (fX1_rememberMoved_L20 k1 x2 x3 x4 σ) := by
  unfold fX1_rememberMoved_L20
  refine FK_bd (FK_fr (frX7_fieldsOf _ _ _)) (fr_SK (by decide)) (fun _ _ => ?_)
  refine FK_ite ?_ ?_
  · skip
    refine FK_bd (FK_fr (frX7_isOldToYoung _ _ _ _)) (fr_SK (by decide)) (fun _ _ => ?_)
    refine FK_ite ?_ ?_
    · skip
      exact FK_sub (FK_fr (frX1_rememberMoved_j53L20 _ _ _ _ _)) (fr_SK (by decide))
    · skip
      refine FK_bd (fkX4_add _ _ _) (SL_SK (by decide)) (fun _ _ => ?_)
      exact FK_sub (FK_fr (frX1_rememberMoved_j53L20 _ _ _ _ _)) (fr_SK (by decide))
  · skip
    exact FK_some
theorem fkX1_rememberMoved_L2 (k1 : Nat) (x2 : Int32) (σ : rS) : FK (SK k1) σ (fX1_rememberMoved_L2 k1 x2 σ) := by
  unfold fX1_rememberMoved_L2
  refine FK_ite ?_ ?_
  · skip
    refine FK_bnd ?_
    refine FK_rd (fun _ => ?_)
    refine FK_bd (FK_lp (fun x σ => FK_sub (fkX1_rememberMoved_L20 _ _ _ _ _) (fun _ _ h => h)) _ _ _) (fun _ _ h => h) (fun _ _ => ?_)
    exact FK_some
  · skip
    exact FK_some
theorem fkX1_rememberMoved (k1 : Nat) (σ : rS) : FK (SK k1) σ (fX1_rememberMoved k1 σ) := by
  unfold fX1_rememberMoved
  refine FK_bd (FK_lp (fun x σ => FK_sub (fkX1_rememberMoved_L2 _ _ _) (fun _ _ h => h)) _ _ _) (fun _ _ h => h) (fun _ _ => ?_)
  exact FK_some
theorem fkX7_moveSlot_L87 (k0 : Nat) (x1 : Int32) (x2 : Int32) (x4 : Int32) (σ : rS) : FK (SK k0) σ (fX7_moveSlot_L87 k0 x1 x2 x4 σ) := by
  unfold fX7_moveSlot_L87
  refine FK_ite ?_ ?_
  · skip
    refine FK_bnd ?_
    refine FK_bd (FK_fr (frX7_renamed _ _)) (fr_SK (by decide)) (fun _ _ => ?_)
    refine FK_bnd ?_
    refine FK_st (by exact ⟨fun _ => by omega, fun _ => by omega⟩) (fun _ => ?_)
    exact FK_some
  · skip
    exact FK_some
theorem fkX7_moveSlot (k0 : Nat) (x1 : Int32) (x2 : Int32) (σ : rS) : FK (SK k0) σ (fX7_moveSlot k0 x1 x2 σ) := by
  unfold fX7_moveSlot
  refine FK_bnd ?_
  refine FK_bnd ?_
  refine FK_st (by exact ⟨fun _ => by omega, fun _ => by omega⟩) (fun _ => ?_)
  refine FK_bnd ?_
  refine FK_bnd ?_
  refine FK_st (by exact ⟨fun _ => by omega, fun _ => by omega⟩) (fun _ => ?_)
  refine FK_bnd ?_
  refine FK_bnd ?_
  refine FK_st (by exact ⟨fun _ => by omega, fun _ => by omega⟩) (fun _ => ?_)
  refine FK_bnd ?_
  refine FK_bnd ?_
  refine FK_st (by exact ⟨fun _ => by omega, fun _ => by omega⟩) (fun _ => ?_)
  refine FK_bnd ?_
  refine FK_bnd ?_
  refine FK_st (by exact ⟨fun _ => by omega, fun _ => by omega⟩) (fun _ => ?_)
  refine FK_bnd ?_
  refine FK_bnd ?_
  refine FK_st (by exact ⟨fun _ => by omega, fun _ => by omega⟩) (fun _ => ?_)
  refine FK_bnd ?_
  refine FK_bnd ?_
  refine FK_st (by exact ⟨fun _ => by omega, fun _ => by omega⟩) (fun _ => ?_)
  refine FK_bd (FK_lp (fun x σ => FK_sub (fkX7_moveSlot_L87 _ _ _ _ _) (fun _ _ h => h)) _ _ _) (fun _ _ h => h) (fun _ _ => ?_)
  exact FK_some
theorem fkX7_closeUp_L10 (k0 : Nat) (x2 : Int32) (x3 : Int32) (x4 : Int32) (σ : rS) : FK (SK k0) σ (fX7_closeUp_L10 k0 x2 x3 x4 σ) := by
  unfold fX7_closeUp_L10
  refine FK_ite ?_ ?_
  · skip
    refine FK_bnd ?_
    refine FK_ite ?_ ?_
    · skip
      exact FK_sub (FK_fr (frX7_closeUp_j35L10 _ _ _ _ _)) (fr_SK (by decide))
    · skip
      refine FK_bd (fkX7_moveSlot _ _ _ _) (fun _ _ h => h) (fun _ _ => ?_)
      exact FK_sub (FK_fr (frX7_closeUp_j35L10 _ _ _ _ _)) (fr_SK (by decide))
  · skip
    exact FK_some
theorem fkX7_closeUp_L49 (k0 : Nat) (x4 : Int32) (σ : rS) : FK (SK k0) σ (fX7_closeUp_L49 k0 x4 σ) := by
  unfold fX7_closeUp_L49
  refine FK_ite ?_ ?_
  · skip
    refine FK_bnd ?_
    refine FK_bd (FK_fr (frX7_renamed _ _)) (fr_SK (by decide)) (fun _ _ => ?_)
    refine FK_bnd ?_
    refine FK_st (by exact ⟨fun _ => by omega, fun _ => by omega⟩) (fun _ => ?_)
    exact FK_some
  · skip
    exact FK_some
theorem fkX7_closeUp_L83 (k0 : Nat) (x4 : Int32) (σ : rS) : FK (SK k0) σ (fX7_closeUp_L83 k0 x4 σ) := by
  unfold fX7_closeUp_L83
  refine FK_ite ?_ ?_
  · skip
    refine FK_bd (FK_fr (frX4_get _ _ _)) (fr_SK (by decide)) (fun _ _ => ?_)
    refine FK_bd (FK_fr (frX7_renamed _ _)) (fr_SK (by decide)) (fun _ _ => ?_)
    refine FK_bd (fkX4_set _ _ _ _) (SL_SK (by decide)) (fun _ _ => ?_)
    exact FK_some
  · skip
    exact FK_some
theorem fkX7_closeUp_L126 (k0 : Nat) (x4 : Int32) (σ : rS) : FK (SK k0) σ (fX7_closeUp_L126 k0 x4 σ) := by
  unfold fX7_closeUp_L126
  refine FK_ite ?_ ?_
  · skip
    refine FK_bd (FK_fr (frX4_get _ _ _)) (fr_SK (by decide)) (fun _ _ => ?_)
    refine FK_bd (FK_fr (frX7_renamed _ _)) (fr_SK (by decide)) (fun _ _ => ?_)
    refine FK_bd (fkX4_set _ _ _ _) (SL_SK (by decide)) (fun _ _ => ?_)
    exact FK_some
  · skip
    exact FK_some
theorem fkX7_closeUp (k0 : Nat) (σ : rS) : FK (SK k0) σ (fX7_closeUp k0 σ) := by
  unfold fX7_closeUp
  refine FK_rd (fun _ => ?_)
  refine FK_bd (FK_lp (fun x σ => FK_sub (fkX7_closeUp_L10 _ _ _ _ _) (fun _ _ h => h)) _ _ _) (fun _ _ h => h) (fun _ _ => ?_)
  refine FK_st (by exact ⟨fun _ => by omega, fun _ => by omega⟩) (fun _ => ?_)
  refine FK_bd (FK_lp (fun x σ => FK_sub (fkX7_closeUp_L49 _ _ _) (fun _ _ h => h)) _ _ _) (fun _ _ h => h) (fun _ _ => ?_)
  refine FK_bd (FK_lp (fun x σ => FK_sub (fkX7_closeUp_L83 _ _ _) (fun _ _ h => h)) _ _ _) (fun _ _ h => h) (fun _ _ => ?_)
  refine FK_bd (FK_lp (fun x σ => FK_sub (fkX7_closeUp_L126 _ _ _) (fun _ _ h => h)) _ _ _) (fun _ _ h => h) (fun _ _ => ?_)
  exact FK_some
theorem fkX1_addCounts_L2 (k1 : Nat) (x3 : Int32) (σ : rS) : FK (SK k1) σ (fX1_addCounts_L2 k1 x3 σ) := by
  unfold fX1_addCounts_L2
  refine FK_ite ?_ ?_
  · skip
    refine FK_bnd ?_
    refine FK_bnd ?_
    refine FK_bnd ?_
    refine FK_st (by exact ⟨fun _ => by omega, fun _ => by omega⟩) (fun _ => ?_)
    exact FK_some
  · skip
    exact FK_some
theorem fkX1_addCounts (k1 : Nat) (x2 : Int32) (σ : rS) : FK (SK k1) σ (fX1_addCounts k1 x2 σ) := by
  unfold fX1_addCounts
  refine FK_bd (FK_lp (fun x σ => FK_sub (fkX1_addCounts_L2 _ _ _) (fun _ _ h => h)) _ _ _) (fun _ _ h => h) (fun _ _ => ?_)
  exact FK_some
theorem fkX1_collectYoung (k1 : Nat) (σ : rS) : FK (SK k1) σ (fX1_collectYoung k1 σ) := by
  unfold fX1_collectYoung
  refine FK_bd (FK_fr (frX1_beginPlan _ _)) (fr_SK (by decide)) (fun _ _ => ?_)
  refine FK_bd (FK_fr (frX1_planFromRoots _ _)) (fr_SK (by decide)) (fun _ _ => ?_)
  refine FK_bd (FK_fr (frX1_planFrom _ _ _ _)) (fr_SK (by decide)) (fun _ _ => ?_)
  refine FK_bd (FK_fr (frX1_planFromLasting _ _)) (fr_SK (by decide)) (fun _ _ => ?_)
  refine FK_ite ?_ ?_
  · skip
    refine FK_bd (fkJ7_fill_53178 _ _ _ _ _) (fun c k h => by obtain ⟨rfl, rfl⟩ := h; exact ⟨fun _ => by omega, fun _ => by omega⟩) (fun _ _ => ?_)
    refine FK_bd (fkX1_emptyWeak _ _ _) (fun _ _ h => h) (fun _ _ => ?_)
    refine FK_bd (fkX1_lineUpLasting _ _) (fun _ _ h => h) (fun _ _ => ?_)
    refine FK_bd (fkX1_emptyWeak _ _ _) (fun _ _ h => h) (fun _ _ => ?_)
    refine FK_bd (fkX1_settle _ _) (fun _ _ h => h) (fun _ _ => ?_)
    refine FK_bd (fkX1_dropRemembered _ _) (fun _ _ h => h) (fun _ _ => ?_)
    refine FK_bd (fkX1_rememberMoved _ _) (fun _ _ h => h) (fun _ _ => ?_)
    refine FK_bd (FK_fr (frX1_nameSlotsAnew _ _ _)) (fr_SK (by decide)) (fun _ _ => ?_)
    refine FK_bd (fkX7_closeUp _ _) (fun _ _ h => h) (fun _ _ => ?_)
    refine FK_st (by exact ⟨fun _ => by omega, fun _ => by omega⟩) (fun _ => ?_)
    refine FK_bd (fkX1_addCounts _ _ _) (fun _ _ h => h) (fun _ _ => ?_)
    exact FK_some
  · skip
    exact FK_some
theorem fkX4_copyFrom (k0 : Nat) (k1 : Nat) (σ : rS) : FK (SL k0) σ (fX4_copyFrom k0 k1 σ) := by
  unfold fX4_copyFrom
  refine FK_st (by exact ⟨by omega, fun _ => by omega⟩) (fun _ => ?_)
  refine FK_bcp ?_
  refine FK_stR (by exact ⟨by omega, fun _ => by omega⟩) (fun _ => ?_)
  exact FK_some
theorem fkX7_copyFrom (k0 : Nat) (k1 : Nat) (σ : rS) : FK (SK k0) σ (fX7_copyFrom k0 k1 σ) := by
  unfold fX7_copyFrom
  refine FK_st (by exact ⟨fun _ => by omega, fun _ => by omega⟩) (fun _ => ?_)
  refine FK_st (by exact ⟨fun _ => by omega, fun _ => by omega⟩) (fun _ => ?_)
  refine FK_bcp ?_
  refine FK_stR (by exact ⟨fun _ => by omega, fun _ => by omega⟩) (fun _ => ?_)
  refine FK_bcp ?_
  refine FK_stR (by exact ⟨fun _ => by omega, fun _ => by omega⟩) (fun _ => ?_)
  refine FK_bcp ?_
  refine FK_stR (by exact ⟨fun _ => by omega, fun _ => by omega⟩) (fun _ => ?_)
  refine FK_bcp ?_
  refine FK_stR (by exact ⟨fun _ => by omega, fun _ => by omega⟩) (fun _ => ?_)
  refine FK_bcp ?_
  refine FK_stR (by exact ⟨fun _ => by omega, fun _ => by omega⟩) (fun _ => ?_)
  refine FK_bcp ?_
  refine FK_stR (by exact ⟨fun _ => by omega, fun _ => by omega⟩) (fun _ => ?_)
  refine FK_bcp ?_
  refine FK_stR (by exact ⟨fun _ => by omega, fun _ => by omega⟩) (fun _ => ?_)
  refine FK_bcp ?_
  refine FK_stR (by exact ⟨fun _ => by omega, fun _ => by omega⟩) (fun _ => ?_)
  refine FK_bcp ?_
  refine FK_stR (by exact ⟨fun _ => by omega, fun _ => by omega⟩) (fun _ => ?_)
  refine FK_bcp ?_
  refine FK_stR (by exact ⟨fun _ => by omega, fun _ => by omega⟩) (fun _ => ?_)
  refine FK_bcp ?_
  refine FK_stR (by exact ⟨fun _ => by omega, fun _ => by omega⟩) (fun _ => ?_)
  refine FK_bd (fkX4_copyFrom _ _ _) (SL_SK (by decide)) (fun _ _ => ?_)
  refine FK_bd (fkX4_copyFrom _ _ _) (SL_SK (by decide)) (fun _ _ => ?_)
  refine FK_bd (fkX4_copyFrom _ _ _) (SL_SK (by decide)) (fun _ _ => ?_)
  refine FK_bd (fkX4_copyFrom _ _ _) (SL_SK (by decide)) (fun _ _ => ?_)
  refine FK_bd (fkX4_copyFrom _ _ _) (SL_SK (by decide)) (fun _ _ => ?_)
  refine FK_bd (fkX4_copyFrom _ _ _) (SL_SK (by decide)) (fun _ _ => ?_)
  exact FK_some
theorem fkX1_pushTogether_j108L70 (k1 : Nat) (x2 : Int32) (x3 : Int32) (x4 : Int32) (z0 : Int32) (z1 : Int32) (z2 : Int32) (σ : rS) : FK (SK k1) σ (fX1_pushTogether_j108L70 k1 x2 x3 x4 z0 z1 z2 σ) := by
  unfold fX1_pushTogether_j108L70
  refine FK_bnd ?_
  refine FK_st (by exact ⟨fun _ => by omega, fun _ => by omega⟩) (fun _ => ?_)
  refine FK_bnd ?_
  refine FK_st (by exact ⟨fun _ => by omega, fun _ => by omega⟩) (fun _ => ?_)
  refine FK_bd (FK_fr (frX7_cells _ _ _)) (fr_SK (by decide)) (fun _ _ => ?_)
  refine FK_rd (fun _ => ?_)
  exact FK_sub (FK_fr (frX1_pushTogether_j127L70 _ _ _ _)) (fr_SK (by decide))
theorem fkX1_pushTogether_L70 (k1 : Nat) (x2 : Int32) (x3 : Int32) (σ : rS) : FK (SK k1) σ (fX1_pushTogether_L70 k1 x2 x3 σ) := by
  unfold fX1_pushTogether_L70
  refine FK_ite ?_ ?_
  · skip
    refine FK_bnd ?_
    refine FK_rd (fun _ => ?_)
    refine FK_ite ?_ ?_
    · skip
      exact FK_sub (FK_fr (frX1_pushTogether_j127L70 _ _ _ _)) (fr_SK (by decide))
    · skip
      refine FK_ite ?_ ?_
      · skip
        exact FK_sub (fkX1_pushTogether_j108L70 _ _ _ _ _ _ _ _) (fun _ _ h => h)
      · skip
        exact FK_sub (fkX1_pushTogether_j108L70 _ _ _ _ _ _ _ _) (fun _ _ h => h)
  · skip
    exact FK_some
theorem fkX1_pushTogether (k1 : Nat) (σ : rS) : FK (SK k1) σ (fX1_pushTogether k1 σ) := by
  unfold fX1_pushTogether
  refine FK_bd (fkJ7_fill_53178 _ _ _ _ _) (fun c k h => by obtain ⟨rfl, rfl⟩ := h; exact ⟨fun _ => by omega, fun _ => by omega⟩) (fun _ _ => ?_)
  refine FK_bd (FK_lp (fun x σ => FK_sub (FK_fr (frX1_pushTogether_L10 _ _ _)) (fr_SK (by decide))) _ _ _) (fun _ _ h => h) (fun _ _ => ?_)
  refine FK_bd (FK_lp (fun x σ => FK_sub (fkX1_pushTogether_L70 _ _ _ _) (fun _ _ h => h)) _ _ _) (fun _ _ h => h) (fun _ _ => ?_)
  refine FK_st (by exact ⟨fun _ => by omega, fun _ => by omega⟩) (fun _ => ?_)
  exact FK_some
theorem fkX1_unlinkUnkeptYoung_L29 (k1 : Nat) (x2 : Int32) (x3 : Int32) (σ : rS) : FK (SK k1) σ (fX1_unlinkUnkeptYoung_L29 k1 x2 x3 σ) := by
  unfold fX1_unlinkUnkeptYoung_L29
  refine FK_bd (FK_fr (frX7_fieldsOf _ _ _)) (fr_SK (by decide)) (fun _ _ => ?_)
  refine FK_ite ?_ ?_
  · skip
    refine FK_bd (fkX7_setTarget _ _ _ _ _) (fun _ _ h => h) (fun _ _ => ?_)
    exact FK_some
  · skip
    exact FK_some
theorem fkX1_unlinkUnkeptYoung_L2 (k1 : Nat) (x2 : Int32) (σ : rS) : FK (SK k1) σ (fX1_unlinkUnkeptYoung_L2 k1 x2 σ) := by
  unfold fX1_unlinkUnkeptYoung_L2
  refine FK_ite ?_ ?_
  · skip
    refine FK_bd (FK_fr (frX7_isYoung _ _ _)) (fr_SK (by decide)) (fun _ _ => ?_)
    refine FK_ite ?_ ?_
    · skip
      exact FK_sub (FK_fr (frX1_unlinkUnkeptYoung_j51L2 _ _ _)) (fr_SK (by decide))
    · skip
      refine FK_bnd ?_
      refine FK_ite ?_ ?_
      · skip
        refine FK_bd (FK_lp (fun x σ => FK_sub (fkX1_unlinkUnkeptYoung_L29 _ _ _ _) (fun _ _ h => h)) _ _ _) (fun _ _ h => h) (fun _ _ => ?_)
        exact FK_sub (FK_fr (frX1_unlinkUnkeptYoung_j51L2 _ _ _)) (fr_SK (by decide))
      · skip
        exact FK_sub (FK_fr (frX1_unlinkUnkeptYoung_j51L2 _ _ _)) (fr_SK (by decide))
  · skip
    exact FK_some
theorem fkX1_unlinkUnkeptYoung (k1 : Nat) (σ : rS) : FK (SK k1) σ (fX1_unlinkUnkeptYoung k1 σ) := by
  unfold fX1_unlinkUnkeptYoung
  refine FK_bd (FK_lp (fun x σ => FK_sub (fkX1_unlinkUnkeptYoung_L2 _ _ _) (fun _ _ h => h)) _ _ _) (fun _ _ h => h) (fun _ _ => ?_)
  exact FK_some
theorem fkX1_collectAll (k1 : Nat) (σ : rS) : FK (SK k1) σ (fX1_collectAll k1 σ) := by
  unfold fX1_collectAll
  refine FK_bd (fkJ7_fill_53178 _ _ _ _ _) (fun c k h => by obtain ⟨rfl, rfl⟩ := h; exact ⟨fun _ => by omega, fun _ => by omega⟩) (fun _ _ => ?_)
  refine FK_bd (FK_fr (frX3_reach _ _ _)) (fr_SK (by decide)) (fun _ _ => ?_)
  refine FK_bd (FK_fr (frX1_stageByMarks _ _)) (fr_SK (by decide)) (fun _ _ => ?_)
  refine FK_bd (FK_fr (frX1_markLasting _ _)) (fr_SK (by decide)) (fun _ _ => ?_)
  refine FK_bd (fkX1_emptyWeak _ _ _) (fun _ _ h => h) (fun _ _ => ?_)
  refine FK_bd (fkX1_lineUpLasting _ _) (fun _ _ h => h) (fun _ _ => ?_)
  refine FK_bd (fkX1_emptyWeak _ _ _) (fun _ _ h => h) (fun _ _ => ?_)
  refine FK_bd (fkX1_pushTogether _ _) (fun _ _ h => h) (fun _ _ => ?_)
  refine FK_bd (fkX1_unlinkUnkeptYoung _ _) (fun _ _ h => h) (fun _ _ => ?_)
  refine FK_bd (fkX1_dropRemembered _ _) (fun _ _ h => h) (fun _ _ => ?_)
  refine FK_bd (FK_fr (frX1_nameSlotsAnew _ _ _)) (fr_SK (by decide)) (fun _ _ => ?_)
  refine FK_bd (fkX7_closeUp _ _) (fun _ _ h => h) (fun _ _ => ?_)
  refine FK_st (by exact ⟨fun _ => by omega, fun _ => by omega⟩) (fun _ => ?_)
  refine FK_bd (fkX1_addCounts _ _ _) (fun _ _ h => h) (fun _ _ => ?_)
  exact FK_some
theorem fkJ7_fill_fda19_L10 (c0 k0 n0 : Nat) (x2 : Int32) (x3 : Int32) (x4 : Int32) (σ : rS) : FK (SC c0 k0) σ (fJ7_fill_fda19_L10 c0 k0 n0 x2 x3 x4 σ) := by
  unfold fJ7_fill_fda19_L10
  refine FK_ite ?_ ?_
  · skip
    refine FK_bnd ?_
    refine FK_st (by exact ⟨rfl, rfl⟩) (fun _ => ?_)
    exact FK_some
  · skip
    exact FK_some
theorem fkJ7_fill_fda19 (c0 k0 n0 : Nat) (x1 : Int32) (x2 : Int32) (x3 : Int32) (σ : rS) : FK (SC c0 k0) σ (fJ7_fill_fda19 c0 k0 n0 x1 x2 x3 σ) := by
  unfold fJ7_fill_fda19
  refine FK_bd (FK_fr (frJ7_rangeCheck_23922 _ _ _ _)) fr_SC (fun _ _ => ?_)
  refine FK_bd (FK_lp (fun x σ => FK_sub (fkJ7_fill_fda19_L10 _ _ _ _ _ _ _) (fun c k h => by obtain ⟨rfl, rfl⟩ := h; exact ⟨rfl, rfl⟩)) _ _ _) (fun _ _ h => h) (fun _ _ => ?_)
  exact FK_some
theorem fkX7_addObject (k0 : Nat) (x1 : Int32) (x2 : Int32) (x3 : Int32) (σ : rS) : FK (SK k0) σ (fX7_addObject k0 x1 x2 x3 σ) := by
  unfold fX7_addObject
  refine FK_ite ?_ ?_
  · skip
    refine FK_rd (fun _ => ?_)
    refine FK_st (by exact ⟨fun _ => by omega, fun _ => by omega⟩) (fun _ => ?_)
    refine FK_st (by exact ⟨fun _ => by omega, fun _ => by omega⟩) (fun _ => ?_)
    refine FK_bnd ?_
    refine FK_st (by exact ⟨fun _ => by omega, fun _ => by omega⟩) (fun _ => ?_)
    refine FK_bnd ?_
    refine FK_st (by exact ⟨fun _ => by omega, fun _ => by omega⟩) (fun _ => ?_)
    refine FK_bnd ?_
    refine FK_st (by exact ⟨fun _ => by omega, fun _ => by omega⟩) (fun _ => ?_)
    refine FK_bnd ?_
    refine FK_st (by exact ⟨fun _ => by omega, fun _ => by omega⟩) (fun _ => ?_)
    refine FK_bnd ?_
    refine FK_st (by exact ⟨fun _ => by omega, fun _ => by omega⟩) (fun _ => ?_)
    refine FK_bnd ?_
    refine FK_st (by exact ⟨fun _ => by omega, fun _ => by omega⟩) (fun _ => ?_)
    refine FK_bnd ?_
    refine FK_st (by exact ⟨fun _ => by omega, fun _ => by omega⟩) (fun _ => ?_)
    refine FK_bd (FK_fr (frX7_cells _ _ _)) (fr_SK (by decide)) (fun _ _ => ?_)
    refine FK_st (by exact ⟨fun _ => by omega, fun _ => by omega⟩) (fun _ => ?_)
    refine FK_bd (fkJ7_fill_fda19 _ _ _ _ _ _ _) (fun c k h => by obtain ⟨rfl, rfl⟩ := h; exact ⟨fun _ => by omega, fun _ => by omega⟩) (fun _ _ => ?_)
    exact FK_some
  · skip
    exact FK_some
theorem fkX7_note (k0 : Nat) (x1 : Int32) (x2 : Int32) (σ : rS) : FK (SK k0) σ (fX7_note k0 x1 x2 σ) := by
  unfold fX7_note
  refine FK_bd (fkX4_add _ _ _) (SL_SK (by decide)) (fun _ _ => ?_)
  refine FK_bd (fkX4_add _ _ _) (SL_SK (by decide)) (fun _ _ => ?_)
  refine FK_bd (FK_fr (frX7_cellsInUse _ _)) (fr_SK (by decide)) (fun _ _ => ?_)
  refine FK_bd (fkX4_add _ _ _) (SL_SK (by decide)) (fun _ _ => ?_)
  exact FK_some
theorem fkX0_makeObject_j136 (k1 : Nat) (x2 : Int32) (x3 : Int32) (x4 : Int32) (x5 : Int32) (σ : rS) : FK (S0 k1) σ (fX0_makeObject_j136 k1 x2 x3 x4 x5 σ) := by
  unfold fX0_makeObject_j136
  refine FK_bd (fkX7_addObject _ _ _ _ _) SK_S0 (fun _ _ => ?_)
  refine FK_bnd ?_
  refine FK_st (by exact Or.inl ⟨fun _ => by omega, fun _ => by omega⟩) (fun _ => ?_)
  refine FK_bd (FK_fr (frX7_numberOf _ _ _)) (fr_S0 (by decide)) (fun _ _ => ?_)
  refine FK_bd (fkX7_note _ _ _ _) SK_S0 (fun _ _ => ?_)
  refine FK_bd (FK_fr (frX7_numberOf _ _ _)) (fr_S0 (by decide)) (fun _ _ => ?_)
  exact FK_some
theorem fkX0_makeObject_j80 (k1 : Nat) (x2 : Int32) (x3 : Int32) (x4 : Int32) (x5 : Int32) (z0 : Int32) (σ : rS) : FK (S0 k1) σ (fX0_makeObject_j80 k1 x2 x3 x4 x5 z0 σ) := by
  unfold fX0_makeObject_j80
  refine FK_ite ?_ ?_
  · skip
    refine FK_bd (fkX1_collectYoung _ _) SK_S0 (fun _ _ => ?_)
    refine FK_ite ?_ ?_
    · skip
      refine FK_bd (fkX7_copyFrom _ _ _) SK3_S0 (fun _ _ => ?_)
      refine FK_bd (fkX1_collectAll _ _) SK_S0 (fun _ _ => ?_)
      refine FK_bd (fkX1_collectYoung _ _) SK_S0 (fun _ _ => ?_)
      refine FK_ite ?_ ?_
      · skip
        refine FK_bd (fkX7_copyFrom _ _ _) SK_S0 (fun _ _ => ?_)
        exact FK_some
      · skip
        exact FK_sub (fkX0_makeObject_j136 _ _ _ _ _ _) (fun _ _ h => h)
    · skip
      exact FK_sub (fkX0_makeObject_j136 _ _ _ _ _ _) (fun _ _ h => h)
  · skip
    exact FK_sub (fkX0_makeObject_j136 _ _ _ _ _ _) (fun _ _ h => h)
theorem fkX0_makeObject_j55 (k1 : Nat) (x2 : Int32) (x3 : Int32) (x4 : Int32) (x5 : Int32) (σ : rS) : FK (S0 k1) σ (fX0_makeObject_j55 k1 x2 x3 x4 x5 σ) := by
  unfold fX0_makeObject_j55
  refine FK_ite ?_ ?_
  · skip
    exact FK_sub (fkX0_makeObject_j80 _ _ _ _ _ _ _) (fun _ _ h => h)
  · skip
    exact FK_sub (fkX0_makeObject_j80 _ _ _ _ _ _ _) (fun _ _ h => h)
theorem fkX0_makeObject (k1 : Nat) (x2 : Int32) (x3 : Int32) (x4 : Int32) (x5 : Int32) (σ : rS) : FK (S0 k1) σ (fX0_makeObject k1 x2 x3 x4 x5 σ) := by
  unfold fX0_makeObject
  refine FK_bd (FK_fr (frX9_isRoot _ _)) (fr_S0 (by decide)) (fun _ _ => ?_)
  refine FK_ite ?_ ?_
  · skip
    exact FK_some
  · skip
    refine FK_ite ?_ ?_
    · skip
      exact FK_some
    · skip
      refine FK_ite ?_ ?_
      · skip
        exact FK_some
      · skip
        refine FK_ite ?_ ?_
        · skip
          exact FK_some
        · skip
          refine FK_ite ?_ ?_
          · skip
            exact FK_some
          · skip
            refine FK_ite ?_ ?_
            · skip
              exact FK_some
            · skip
              refine FK_ite ?_ ?_
              · skip
                exact FK_some
              · skip
                refine FK_ite ?_ ?_
                · skip
                  refine FK_ite ?_ ?_
                  · skip
                    exact FK_some
                  · skip
                    exact FK_sub (fkX0_makeObject_j55 _ _ _ _ _ _) (fun _ _ h => h)
                · skip
                  exact FK_sub (fkX0_makeObject_j55 _ _ _ _ _ _) (fun _ _ h => h)
theorem fkX4_removeAt (k0 : Nat) (x1 : Int32) (σ : rS) : FK (SL k0) σ (fX4_removeAt k0 x1 σ) := by
  unfold fX4_removeAt
  refine FK_ite ?_ ?_
  · skip
    exact FK_some
  · skip
    refine FK_ite ?_ ?_
    · skip
      refine FK_st (by exact ⟨by omega, fun _ => by omega⟩) (fun _ => ?_)
      refine FK_bcp ?_
      refine FK_stR (by exact ⟨by omega, fun _ => by omega⟩) (fun _ => ?_)
      exact FK_some
    · skip
      exact FK_some
theorem fkX7_refreshRemembered_j46 (k0 : Nat) (x4 : Int32) (x5 : Int32) (σ : rS) : FK (SK k0) σ (fX7_refreshRemembered_j46 k0 x4 x5 σ) := by
  unfold fX7_refreshRemembered_j46
  refine FK_ite ?_ ?_
  · skip
    refine FK_ite ?_ ?_
    · skip
      exact FK_some
    · skip
      refine FK_bd (fkX4_removeAt _ _ _) (SL_SK (by decide)) (fun _ _ => ?_)
      exact FK_some
  · skip
    exact FK_some
theorem fkX7_refreshRemembered (k0 : Nat) (x1 : Int32) (x2 : Int32) (σ : rS) : FK (SK k0) σ (fX7_refreshRemembered k0 x1 x2 σ) := by
  unfold fX7_refreshRemembered
  refine FK_rd (fun _ => ?_)
  refine FK_bd (FK_fr (frX4_find _ _ _)) (fr_SK (by decide)) (fun _ _ => ?_)
  refine FK_bd (FK_fr (frX7_isOldToYoung _ _ _ _)) (fr_SK (by decide)) (fun _ _ => ?_)
  refine FK_ite ?_ ?_
  · skip
    exact FK_sub (fkX7_refreshRemembered_j46 _ _ _ _) (fun _ _ h => h)
  · skip
    refine FK_ite ?_ ?_
    · skip
      refine FK_bd (fkX4_add _ _ _) (SL_SK (by decide)) (fun _ _ => ?_)
      exact FK_some
    · skip
      exact FK_sub (fkX7_refreshRemembered_j46 _ _ _ _) (fun _ _ h => h)
theorem fkX0_linkField_j74 (k1 : Nat) (x3 : Int32) (x5 : Int32) (x6 : Int32) (z0 : Int32) (σ : rS) : FK (S0 k1) σ (fX0_linkField_j74 k1 x3 x5 x6 z0 σ) := by
  unfold fX0_linkField_j74
  refine FK_ite ?_ ?_
  · skip
    exact FK_some
  · skip
    refine FK_bd (fkX7_setTarget _ _ _ _ _) SK_S0 (fun _ _ => ?_)
    refine FK_bd (fkX7_refreshRemembered _ _ _ _) SK_S0 (fun _ _ => ?_)
    refine FK_bnd ?_
    refine FK_bd (fkX7_note _ _ _ _) SK_S0 (fun _ _ => ?_)
    refine FK_bd (FK_fr (frX7_numberOf _ _ _)) (fr_S0 (by decide)) (fun _ _ => ?_)
    exact FK_some
theorem fkX0_linkField_j26 (k1 : Nat) (x2 : Int32) (x3 : Int32) (x4 : Int32) (σ : rS) : FK (S0 k1) σ (fX0_linkField_j26 k1 x2 x3 x4 σ) := by
  unfold fX0_linkField_j26
  refine FK_bnd ?_
  refine FK_rd (fun _ => ?_)
  refine FK_bd (FK_fr (frX7_hasField _ _ _ _)) (fr_S0 (by decide)) (fun _ _ => ?_)
  refine FK_ite ?_ ?_
  · skip
    exact FK_some
  · skip
    refine FK_bd (FK_fr (frX7_target _ _ _ _)) (fr_S0 (by decide)) (fun _ _ => ?_)
    refine FK_ite ?_ ?_
    · skip
      exact FK_sub (fkX0_linkField_j74 _ _ _ _ _ _) (fun _ _ h => h)
    · skip
      refine FK_bnd ?_
      exact FK_sub (fkX0_linkField_j74 _ _ _ _ _ _) (fun _ _ h => h)
theorem fkX0_linkField (k1 : Nat) (x2 : Int32) (x3 : Int32) (x4 : Int32) (σ : rS) : FK (S0 k1) σ (fX0_linkField k1 x2 x3 x4 σ) := by
  unfold fX0_linkField
  refine FK_bd (FK_fr (frX0_isLinkedRoot _ _ _)) (fr_S0 (by decide)) (fun _ _ => ?_)
  refine FK_ite ?_ ?_
  · skip
    exact FK_some
  · skip
    refine FK_ite ?_ ?_
    · skip
      exact FK_sub (fkX0_linkField_j26 _ _ _ _ _) (fun _ _ h => h)
    · skip
      refine FK_bd (FK_fr (frX0_isLinkedRoot _ _ _)) (fr_S0 (by decide)) (fun _ _ => ?_)
      refine FK_ite ?_ ?_
      · skip
        exact FK_some
      · skip
        exact FK_sub (fkX0_linkField_j26 _ _ _ _ _) (fun _ _ h => h)
theorem fkX0_loadRoot (k1 : Nat) (x2 : Int32) (x3 : Int32) (x4 : Int32) (σ : rS) : FK (S0 k1) σ (fX0_loadRoot k1 x2 x3 x4 σ) := by
  unfold fX0_loadRoot
  refine FK_bd (FK_fr (frX9_isRoot _ _)) (fr_S0 (by decide)) (fun _ _ => ?_)
  refine FK_ite ?_ ?_
  · skip
    exact FK_some
  · skip
    refine FK_bd (FK_fr (frX0_isLinkedRoot _ _ _)) (fr_S0 (by decide)) (fun _ _ => ?_)
    refine FK_ite ?_ ?_
    · skip
      exact FK_some
    · skip
      refine FK_bnd ?_
      refine FK_rd (fun _ => ?_)
      refine FK_bd (FK_fr (frX7_hasField _ _ _ _)) (fr_S0 (by decide)) (fun _ _ => ?_)
      refine FK_ite ?_ ?_
      · skip
        exact FK_some
      · skip
        refine FK_bnd ?_
        refine FK_rd (fun _ => ?_)
        refine FK_bd (FK_fr (frX7_target _ _ _ _)) (fr_S0 (by decide)) (fun _ _ => ?_)
        refine FK_bnd ?_
        refine FK_st (by exact Or.inl ⟨fun _ => by omega, fun _ => by omega⟩) (fun _ => ?_)
        refine FK_bd (FK_fr (frX7_numberOf _ _ _)) (fr_S0 (by decide)) (fun _ _ => ?_)
        refine FK_bd (fkX7_note _ _ _ _) SK_S0 (fun _ _ => ?_)
        refine FK_bd (FK_fr (frX7_numberOf _ _ _)) (fr_S0 (by decide)) (fun _ _ => ?_)
        exact FK_some
theorem fkX0_emptyRoot (k1 : Nat) (x2 : Int32) (σ : rS) : FK (S0 k1) σ (fX0_emptyRoot k1 x2 σ) := by
  unfold fX0_emptyRoot
  refine FK_bd (FK_fr (frX9_isRoot _ _)) (fr_S0 (by decide)) (fun _ _ => ?_)
  refine FK_ite ?_ ?_
  · skip
    exact FK_some
  · skip
    refine FK_bnd ?_
    refine FK_rd (fun _ => ?_)
    refine FK_ite ?_ ?_
    · skip
      exact FK_some
    · skip
      refine FK_bnd ?_
      refine FK_st (by exact Or.inl ⟨fun _ => by omega, fun _ => by omega⟩) (fun _ => ?_)
      refine FK_bd (FK_fr (frX7_numberOf _ _ _)) (fr_S0 (by decide)) (fun _ _ => ?_)
      refine FK_bd (fkX7_note _ _ _ _) SK_S0 (fun _ _ => ?_)
      refine FK_bd (FK_fr (frX7_numberOf _ _ _)) (fr_S0 (by decide)) (fun _ _ => ?_)
      exact FK_some
theorem fkX0_actMinor (k1 : Nat) (σ : rS) : FK (S0 k1) σ (fX0_actMinor k1 σ) := by
  unfold fX0_actMinor
  refine FK_bd (fkX1_collectYoung _ _) SK_S0 (fun _ _ => ?_)
  refine FK_ite ?_ ?_
  · skip
    exact FK_some
  · skip
    refine FK_rd (fun _ => ?_)
    refine FK_bd (fkX7_note _ _ _ _) SK_S0 (fun _ _ => ?_)
    exact FK_some
theorem fkX0_actMajor (k1 : Nat) (σ : rS) : FK (S0 k1) σ (fX0_actMajor k1 σ) := by
  unfold fX0_actMajor
  refine FK_bd (fkX1_collectAll _ _) SK_S0 (fun _ _ => ?_)
  refine FK_rd (fun _ => ?_)
  refine FK_bd (fkX7_note _ _ _ _) SK_S0 (fun _ _ => ?_)
  exact FK_some
theorem fkX0_tellEnd_j63 (k1 : Nat) (x3 : Int32) (σ : rS) : FK (S0 k1) σ (fX0_tellEnd_j63 k1 x3 σ) := by
  unfold fX0_tellEnd_j63
  refine FK_bnd ?_
  refine FK_bd (fkX7_note _ _ _ _) SK_S0 (fun _ _ => ?_)
  refine FK_bnd ?_
  exact FK_some
theorem fkX0_tellEnd_j15 (k1 : Nat) (x2 : Int32) (σ : rS) : FK (S0 k1) σ (fX0_tellEnd_j15 k1 x2 σ) := by
  unfold fX0_tellEnd_j15
  refine FK_bd (FK_fr (frX4_get _ _ _)) (fr_S0 (by decide)) (fun _ _ => ?_)
  refine FK_bd (FK_fr (frX7_isSlot _ _ _)) (fr_S0 (by decide)) (fun _ _ => ?_)
  refine FK_ite ?_ ?_
  · skip
    exact FK_some
  · skip
    refine FK_bd (fkX4_removeAt _ _ _) (SL_S0 (by decide)) (fun _ _ => ?_)
    refine FK_bnd ?_
    refine FK_st (by exact Or.inl ⟨fun _ => by omega, fun _ => by omega⟩) (fun _ => ?_)
    refine FK_ite ?_ ?_
    · skip
      exact FK_sub (fkX0_tellEnd_j63 _ _ _) (fun _ _ h => h)
    · skip
      refine FK_bnd ?_
      refine FK_st (by exact Or.inl ⟨fun _ => by omega, fun _ => by omega⟩) (fun _ => ?_)
      exact FK_sub (fkX0_tellEnd_j63 _ _ _) (fun _ _ h => h)
theorem fkX0_tellEnd (k1 : Nat) (x2 : Int32) (σ : rS) : FK (S0 k1) σ (fX0_tellEnd k1 x2 σ) := by
  unfold fX0_tellEnd
  refine FK_ite ?_ ?_
  · skip
    exact FK_sub (fkX0_tellEnd_j15 _ _ _) (fun _ _ h => h)
  · skip
    refine FK_bd (FK_fr (frX9_isRoot _ _)) (fr_S0 (by decide)) (fun _ _ => ?_)
    refine FK_ite ?_ ?_
    · skip
      exact FK_some
    · skip
      exact FK_sub (fkX0_tellEnd_j15 _ _ _) (fun _ _ h => h)
theorem fkX0_askLost (k1 : Nat) (σ : rS) : FK (S0 k1) σ (fX0_askLost k1 σ) := by
  unfold fX0_askLost
  refine FK_ite ?_ ?_
  · skip
    exact FK_some
  · skip
    refine FK_bd (FK_fr (frX4_get _ _ _)) (fr_S0 (by decide)) (fun _ _ => ?_)
    refine FK_bd (fkX4_removeAt _ _ _) (SL_S0 (by decide)) (fun _ _ => ?_)
    refine FK_bd (fkX7_note _ _ _ _) SK_S0 (fun _ _ => ?_)
    exact FK_some
theorem fkX0_apply (k1 : Nat) (x2 : Int32) (x3 : Int32) (x4 : Int32) (x5 : Int32) (x6 : Int32) (σ : rS) : FK (S0 k1) σ (fX0_apply k1 x2 x3 x4 x5 x6 σ) := by
  unfold fX0_apply
  refine FK_ite ?_ ?_
  · skip
    refine FK_bd (fkX0_makeObject _ _ _ _ _ _) (fun _ _ h => h) (fun _ _ => ?_)
    exact FK_some
  · skip
    refine FK_ite ?_ ?_
    · skip
      refine FK_bd (fkX0_linkField _ _ _ _ _) (fun _ _ h => h) (fun _ _ => ?_)
      exact FK_some
    · skip
      refine FK_ite ?_ ?_
      · skip
        refine FK_bd (fkX0_loadRoot _ _ _ _ _) (fun _ _ h => h) (fun _ _ => ?_)
        exact FK_some
      · skip
        refine FK_ite ?_ ?_
        · skip
          refine FK_bd (fkX0_emptyRoot _ _ _) (fun _ _ h => h) (fun _ _ => ?_)
          exact FK_some
        · skip
          refine FK_ite ?_ ?_
          · skip
            refine FK_bd (fkX0_actMinor _ _) (fun _ _ h => h) (fun _ _ => ?_)
            exact FK_some
          · skip
            refine FK_ite ?_ ?_
            · skip
              refine FK_bd (fkX0_actMajor _ _) (fun _ _ h => h) (fun _ _ => ?_)
              exact FK_some
            · skip
              refine FK_ite ?_ ?_
              · skip
                refine FK_bd (fkX0_tellEnd _ _ _) (fun _ _ h => h) (fun _ _ => ?_)
                exact FK_some
              · skip
                refine FK_ite ?_ ?_
                · skip
                  refine FK_bd (fkX0_askLost _ _) (fun _ _ h => h) (fun _ _ => ?_)
                  exact FK_some
                · skip
                  exact FK_some
theorem fkX7_clear (k0 : Nat) (σ : rS) : FK (SK k0) σ (fX7_clear k0 σ) := by
  unfold fX7_clear
  refine FK_st (by exact ⟨fun _ => by omega, fun _ => by omega⟩) (fun _ => ?_)
  refine FK_st (by exact ⟨fun _ => by omega, fun _ => by omega⟩) (fun _ => ?_)
  refine FK_bd (fkJ7_fill_53178 _ _ _ _ _) (fun c k h => by obtain ⟨rfl, rfl⟩ := h; exact ⟨fun _ => by omega, fun _ => by omega⟩) (fun _ _ => ?_)
  refine FK_bd (fkJ7_fill_53178 _ _ _ _ _) (fun c k h => by obtain ⟨rfl, rfl⟩ := h; exact ⟨fun _ => by omega, fun _ => by omega⟩) (fun _ _ => ?_)
  refine FK_bd (fkJ7_fill_53178 _ _ _ _ _) (fun c k h => by obtain ⟨rfl, rfl⟩ := h; exact ⟨fun _ => by omega, fun _ => by omega⟩) (fun _ _ => ?_)
  refine FK_st (by exact ⟨fun _ => by omega, fun _ => by omega⟩) (fun _ => ?_)
  refine FK_st (by exact ⟨fun _ => by omega, fun _ => by omega⟩) (fun _ => ?_)
  refine FK_st (by exact ⟨fun _ => by omega, fun _ => by omega⟩) (fun _ => ?_)
  refine FK_st (by exact ⟨fun _ => by omega, fun _ => by omega⟩) (fun _ => ?_)
  refine FK_st (by exact ⟨fun _ => by omega, fun _ => by omega⟩) (fun _ => ?_)
  refine FK_st (by exact ⟨fun _ => by omega, fun _ => by omega⟩) (fun _ => ?_)
  exact FK_some
theorem fkX10_copyRow_L3 (c0 k0 n0 : Nat) (x1 : Int32) (c2 k2 n2 : Nat) (x3 : Int32) (x4 : Int32) (σ : rS) : FK (SC c2 k2) σ (fX10_copyRow_L3 c0 k0 n0 x1 c2 k2 n2 x3 x4 σ) := by
  unfold fX10_copyRow_L3
  refine FK_ite ?_ ?_
  · skip
    refine FK_bnd ?_
    refine FK_bnd ?_
    refine FK_st (by exact ⟨rfl, rfl⟩) (fun _ => ?_)
    exact FK_some
  · skip
    exact FK_some
theorem fkX10_copyRow (c0 k0 n0 : Nat) (x1 : Int32) (c2 k2 n2 : Nat) (x3 : Int32) (σ : rS) : FK (SC c2 k2) σ (fX10_copyRow c0 k0 n0 x1 c2 k2 n2 x3 σ) := by
  unfold fX10_copyRow
  refine FK_bd (FK_lp (fun x σ => FK_sub (fkX10_copyRow_L3 _ _ _ _ _ _ _ _ _ _) (fun c k h => by obtain ⟨rfl, rfl⟩ := h; exact ⟨rfl, rfl⟩)) _ _ _) (fun _ _ h => h) (fun _ _ => ?_)
  exact FK_some
theorem fkX10_goes_L6 (k0 : Nat) (x2 : Int32) (σ : rS) : FK (SM k0) σ (fX10_goes_L6 k0 x2 σ) := by
  unfold fX10_goes_L6
  refine FK_bd (FK_fr (frX10_cell _ _ _)) (fr_SM (by decide)) (fun _ _ => ?_)
  refine FK_ite ?_ ?_
  · skip
    refine FK_bnd ?_
    refine FK_bnd ?_
    refine FK_st (by intro _; omega) (fun _ => ?_)
    exact FK_some
  · skip
    exact FK_some
theorem fkX10_goes (k0 : Nat) (x1 : Int32) (σ : rS) : FK (SM k0) σ (fX10_goes k0 x1 σ) := by
  unfold fX10_goes
  refine FK_bd (FK_fr (frX10_cell _ _ _)) (fr_SM (by decide)) (fun _ _ => ?_)
  refine FK_bd (FK_lp (fun x σ => FK_sub (fkX10_goes_L6 _ _ _) (fun _ _ h => h)) _ _ _) (fun _ _ h => h) (fun _ _ => ?_)
  refine FK_st (by intro _; omega) (fun _ => ?_)
  exact FK_some
theorem fkX10_keeps (k0 : Nat) (x1 : Int32) (x2 : Int32) (σ : rS) : FK (SM k0) σ (fX10_keeps k0 x1 x2 σ) := by
  unfold fX10_keeps
  refine FK_bd (FK_fr (frX10_isOld _ _ _)) (fr_SM (by decide)) (fun _ _ => ?_)
  refine FK_ite ?_ ?_
  · skip
    exact FK_some
  · skip
    refine FK_bd (FK_fr (frX10_isYoungLink _ _ _ _)) (fr_SM (by decide)) (fun _ _ => ?_)
    refine FK_ite ?_ ?_
    · skip
      exact FK_some
    · skip
      refine FK_bd (FK_fr (frX10_of _ _ _ _)) (fr_SM (by decide)) (fun _ _ => ?_)
      refine FK_bd (FK_fr (frX10_spotOfKept _ _ _ _)) (fr_SM (by decide)) (fun _ _ => ?_)
      refine FK_ite ?_ ?_
      · skip
        refine FK_bd (FK_fr (frX10_of _ _ _ _)) (fr_SM (by decide)) (fun _ _ => ?_)
        refine FK_bnd ?_
        refine FK_st (by intro _; omega) (fun _ => ?_)
        refine FK_bnd ?_
        refine FK_st (by intro _; omega) (fun _ => ?_)
        refine FK_st (by intro _; omega) (fun _ => ?_)
        exact FK_some
      · skip
        exact FK_some
theorem fkX10_sifts_L4 (k0 : Nat) (x1 : Int32) (x2 : Int32) (σ : rS) : FK (SM k0) σ (fX10_sifts_L4 k0 x1 x2 σ) := by
  unfold fX10_sifts_L4
  refine FK_ite ?_ ?_
  · skip
    refine FK_bnd ?_
    refine FK_rd (fun _ => ?_)
    refine FK_bnd ?_
    refine FK_rd (fun _ => ?_)
    refine FK_bd (FK_fr (frX10_spotOf_ _ _ _)) (fr_SM (by decide)) (fun _ _ => ?_)
    refine FK_ite ?_ ?_
    · skip
      exact FK_sub (FK_fr (frX10_sifts_j85L4 _ _ _ _)) (fr_SM (by decide))
    · skip
      refine FK_bd (FK_fr (frX10_isYoungLink _ _ _ _)) (fr_SM (by decide)) (fun _ _ => ?_)
      refine FK_ite ?_ ?_
      · skip
        exact FK_sub (FK_fr (frX10_sifts_j85L4 _ _ _ _)) (fr_SM (by decide))
      · skip
        refine FK_bnd ?_
        refine FK_st (by intro _; omega) (fun _ => ?_)
        refine FK_bnd ?_
        refine FK_st (by intro _; omega) (fun _ => ?_)
        exact FK_sub (FK_fr (frX10_sifts_j85L4 _ _ _ _)) (fr_SM (by decide))
  · skip
    exact FK_some
theorem fkX10_sifts (k0 : Nat) (σ : rS) : FK (SM k0) σ (fX10_sifts k0 σ) := by
  unfold fX10_sifts
  refine FK_bd (FK_lp (fun x σ => FK_sub (fkX10_sifts_L4 _ _ _ _) (fun _ _ h => h)) _ _ _) (fun _ _ h => h) (fun _ _ => ?_)
  refine FK_st (by intro _; omega) (fun _ => ?_)
  exact FK_some
theorem fkX10_isLost_j49 (k0 : Nat) (x1 : Int32) (σ : rS) : FK (SM k0) σ (fX10_isLost_j49 k0 x1 σ) := by
  unfold fX10_isLost_j49
  refine FK_bnd ?_
  refine FK_st (by intro _; omega) (fun _ => ?_)
  refine FK_st (by intro _; omega) (fun _ => ?_)
  refine FK_st (by intro _; omega) (fun _ => ?_)
  exact FK_some
theorem fkX10_isLost_L12 (k0 : Nat) (x1 : Int32) (x2 : Int32) (σ : rS) : FK (SM k0) σ (fX10_isLost_L12 k0 x1 x2 σ) := by
  unfold fX10_isLost_L12
  refine FK_ite ?_ ?_
  · skip
    refine FK_bnd ?_
    refine FK_bnd ?_
    refine FK_st (by intro _; omega) (fun _ => ?_)
    exact FK_some
  · skip
    exact FK_some
theorem fkX10_isLost (k0 : Nat) (x1 : Int32) (σ : rS) : FK (SM k0) σ (fX10_isLost k0 x1 σ) := by
  unfold fX10_isLost
  refine FK_ite ?_ ?_
  · skip
    refine FK_bd (FK_lp (fun x σ => FK_sub (fkX10_isLost_L12 _ _ _ _) (fun _ _ h => h)) _ _ _) (fun _ _ h => h) (fun _ _ => ?_)
    refine FK_st (by intro _; omega) (fun _ => ?_)
    exact FK_sub (fkX10_isLost_j49 _ _ _) (fun _ _ h => h)
  · skip
    exact FK_sub (fkX10_isLost_j49 _ _ _) (fun _ _ h => h)
theorem fkX10_empties_j53 (k1 : Nat) (x2 : Int32) (σ : rS) : FK (SM k1) σ (fX10_empties_j53 k1 x2 σ) := by
  unfold fX10_empties_j53
  refine FK_bd (FK_fr (frX10_cell _ _ _)) (fr_SM (by decide)) (fun _ _ => ?_)
  refine FK_bnd ?_
  refine FK_st (by intro _; omega) (fun _ => ?_)
  refine FK_bd (FK_fr (frX10_of _ _ _ _)) (fr_SM (by decide)) (fun _ _ => ?_)
  refine FK_bd (fkX10_isLost _ _ _) (fun _ _ h => h) (fun _ _ => ?_)
  exact FK_some
theorem fkX10_empties (k1 : Nat) (x2 : Int32) (x3 : Int32) (σ : rS) : FK (SM k1) σ (fX10_empties k1 x2 x3 σ) := by
  unfold fX10_empties
  refine FK_bd (FK_fr (frX10_of _ _ _ _)) (fr_SM (by decide)) (fun _ _ => ?_)
  refine FK_bd (FK_fr (frX10_spotOf_ _ _ _)) (fr_SM (by decide)) (fun _ _ => ?_)
  refine FK_bd (FK_fr (frX10_of _ _ _ _)) (fr_SM (by decide)) (fun _ _ => ?_)
  refine FK_ite ?_ ?_
  · skip
    refine FK_ite ?_ ?_
    · skip
      exact FK_some
    · skip
      refine FK_bnd ?_
      refine FK_ite ?_ ?_
      · skip
        refine FK_ite ?_ ?_
        · skip
          exact FK_sub (fkX10_empties_j53 _ _ _) (fun _ _ h => h)
        · skip
          refine FK_bd (FK_fr (frX10_isOld _ _ _)) (fr_SM (by decide)) (fun _ _ => ?_)
          refine FK_ite ?_ ?_
          · skip
            exact FK_sub (fkX10_empties_j53 _ _ _) (fun _ _ h => h)
          · skip
            exact FK_some
      · skip
        exact FK_some
  · skip
    exact FK_some
theorem fkX10_ends_j48L7 (k1 : Nat) (x2 : Int32) (x3 : Int32) (σ : rS) : FK (SM k1) σ (fX10_ends_j48L7 k1 x2 x3 σ) := by
  unfold fX10_ends_j48L7
  refine FK_bd (FK_fr (frX10_of _ _ _ _)) (fr_SM (by decide)) (fun _ _ => ?_)
  refine FK_bnd ?_
  refine FK_st (by intro _; omega) (fun _ => ?_)
  refine FK_st (by intro _; omega) (fun _ => ?_)
  refine FK_st (by intro _; omega) (fun _ => ?_)
  refine FK_bnd ?_
  refine FK_st (by intro _; omega) (fun _ => ?_)
  refine FK_st (by intro _; omega) (fun _ => ?_)
  exact FK_sub (FK_fr (frX10_ends_j103L7 _ _ _ _)) (fr_SM (by decide))
theorem fkX10_ends_L7 (k1 : Nat) (x2 : Int32) (x3 : Int32) (σ : rS) : FK (SM k1) σ (fX10_ends_L7 k1 x2 x3 σ) := by
  unfold fX10_ends_L7
  refine FK_ite ?_ ?_
  · skip
    refine FK_bd (FK_fr (frX10_of _ _ _ _)) (fr_SM (by decide)) (fun _ _ => ?_)
    refine FK_ite ?_ ?_
    · skip
      refine FK_bnd ?_
      refine FK_ite ?_ ?_
      · skip
        refine FK_ite ?_ ?_
        · skip
          exact FK_sub (fkX10_ends_j48L7 _ _ _ _) (fun _ _ h => h)
        · skip
          refine FK_bd (FK_fr (frX10_isOld _ _ _)) (fr_SM (by decide)) (fun _ _ => ?_)
          refine FK_ite ?_ ?_
          · skip
            exact FK_sub (fkX10_ends_j48L7 _ _ _ _) (fun _ _ h => h)
          · skip
            exact FK_sub (FK_fr (frX10_ends_j103L7 _ _ _ _)) (fr_SM (by decide))
      · skip
        exact FK_sub (FK_fr (frX10_ends_j103L7 _ _ _ _)) (fr_SM (by decide))
    · skip
      exact FK_sub (FK_fr (frX10_ends_j103L7 _ _ _ _)) (fr_SM (by decide))
  · skip
    exact FK_some
theorem fkX10_ends (k1 : Nat) (x2 : Int32) (σ : rS) : FK (SM k1) σ (fX10_ends k1 x2 σ) := by
  unfold fX10_ends
  refine FK_st (by intro _; omega) (fun _ => ?_)
  refine FK_bd (FK_lp (fun x σ => FK_sub (fkX10_ends_L7 _ _ _ _) (fun _ _ h => h)) _ _ _) (fun _ _ h => h) (fun _ _ => ?_)
  exact FK_some
theorem fkX10_moves_j171 (k1 : Nat) (x2 : Int32) (x4 : Int32) (σ : rS) : FK (SM k1) σ (fX10_moves_j171 k1 x2 x4 σ) := by
  unfold fX10_moves_j171
  refine FK_st (by intro _; omega) (fun _ => ?_)
  refine FK_ite ?_ ?_
  · skip
    refine FK_st (by intro _; omega) (fun _ => ?_)
    exact FK_sub (FK_fr (frX10_moves_j194 _ _)) (fr_SM (by decide))
  · skip
    exact FK_sub (FK_fr (frX10_moves_j194 _ _)) (fr_SM (by decide))
theorem fkX10_moves_j142 (k1 : Nat) (x2 : Int32) (x3 : Int32) (x4 : Int32) (z0 : Int32) (z1 : Int32) (kz2 : Nat) (σ : rS) : FK (SZ k1 kz2) σ (fX10_moves_j142 k1 x2 x3 x4 z0 z1 kz2 σ) := by
  unfold fX10_moves_j142
  refine FK_bnd ?_
  refine FK_st (by intro _; omega) (fun _ => ?_)
  refine FK_ite ?_ ?_
  · skip
    refine FK_st (by intro _; omega) (fun _ => ?_)
    exact FK_sub (fkX10_moves_j171 _ _ _ _) (fun c k h z => by have := h z; omega)
  · skip
    refine FK_st (by intro _; omega) (fun _ => ?_)
    exact FK_sub (fkX10_moves_j171 _ _ _ _) (fun c k h z => by have := h z; omega)
theorem fkX10_moves_j118 (k1 : Nat) (x2 : Int32) (x3 : Int32) (x4 : Int32) (z0 : Int32) (z1 : Int32) (kz2 : Nat) (σ : rS) : FK (SZ k1 kz2) σ (fX10_moves_j118 k1 x2 x3 x4 z0 z1 kz2 σ) := by
  unfold fX10_moves_j118
  refine FK_bnd ?_
  refine FK_st (by intro _; omega) (fun _ => ?_)
  refine FK_bd (FK_fr (frX10_cell _ _ _)) (fun c k hc z => absurd z (((by decide) : ∀ c ∈ _, ¬ c = 66) c hc)) (fun _ _ => ?_)
  refine FK_ite ?_ ?_
  · skip
    exact FK_sub (fkX10_moves_j142 _ _ _ _ _ _ _ _) (fun c k h z => by have := h z; omega)
  · skip
    exact FK_sub (fkX10_moves_j142 _ _ _ _ _ _ _ _) (fun c k h z => by have := h z; omega)
theorem fkX10_moves_j102 (k1 : Nat) (x2 : Int32) (x3 : Int32) (x4 : Int32) (σ : rS) : FK (SM k1) σ (fX10_moves_j102 k1 x2 x3 x4 σ) := by
  unfold fX10_moves_j102
  refine FK_bd (FK_fr (frX10_cell _ _ _)) (fr_SM (by decide)) (fun _ _ => ?_)
  refine FK_ite ?_ ?_
  · skip
    exact FK_sub (fkX10_moves_j118 _ _ _ _ _ _ _ _) (fun c k h z => by have := h z; omega)
  · skip
    exact FK_sub (fkX10_moves_j118 _ _ _ _ _ _ _ _) (fun c k h z => by have := h z; omega)
theorem fkX10_moves_j75 (k1 : Nat) (x2 : Int32) (x3 : Int32) (z0 : Int32) (σ : rS) : FK (SM k1) σ (fX10_moves_j75 k1 x2 x3 z0 σ) := by
  unfold fX10_moves_j75
  refine FK_ite ?_ ?_
  · skip
    refine FK_ite ?_ ?_
    · skip
      refine FK_st (by intro _; omega) (fun _ => ?_)
      exact FK_sub (fkX10_moves_j102 _ _ _ _ _) (fun _ _ h => h)
    · skip
      exact FK_sub (fkX10_moves_j102 _ _ _ _ _) (fun _ _ h => h)
  · skip
    exact FK_sub (fkX10_moves_j102 _ _ _ _ _) (fun _ _ h => h)
theorem fkX10_moves_j74 (k1 : Nat) (x2 : Int32) (x3 : Int32) (σ : rS) : FK (SM k1) σ (fX10_moves_j74 k1 x2 x3 σ) := by
  unfold fX10_moves_j74
  exact FK_sub (fkX10_moves_j75 _ _ _ _ _) (fun _ _ h => h)
theorem fkX10_moves (k1 : Nat) (x2 : Int32) (σ : rS) : FK (SM k1) σ (fX10_moves k1 x2 σ) := by
  unfold fX10_moves
  refine FK_ite ?_ ?_
  · skip
    exact FK_some
  · skip
    refine FK_bnd ?_
    refine FK_ite ?_ ?_
    · skip
      refine FK_bd (FK_fr (frX10_isOld _ _ _)) (fr_SM (by decide)) (fun _ _ => ?_)
      refine FK_ite ?_ ?_
      · skip
        refine FK_bd (FK_fr (frX10_sizeOf _ _ _)) (fr_SM (by decide)) (fun _ _ => ?_)
        refine FK_bd (FK_fr (frX10_cell _ _ _)) (fr_SM (by decide)) (fun _ _ => ?_)
        refine FK_bnd ?_
        refine FK_bnd ?_
        refine FK_st (by intro _; omega) (fun _ => ?_)
        refine FK_bd (FK_fr (frX10_of _ _ _ _)) (fr_SM (by decide)) (fun _ _ => ?_)
        refine FK_ite ?_ ?_
        · skip
          refine FK_ite ?_ ?_
          · skip
            exact FK_sub (fkX10_moves_j74 _ _ _ _) (fun _ _ h => h)
          · skip
            exact FK_sub (fkX10_moves_j75 _ _ _ _ _) (fun _ _ h => h)
        · skip
          exact FK_sub (fkX10_moves_j74 _ _ _ _) (fun _ _ h => h)
      · skip
        exact FK_some
    · skip
      exact FK_some
theorem fkX10_movesAll_L28 (k1 : Nat) (x3 : Int32) (x4 : Int32) (x5 : Int32) (σ : rS) : FK (SM k1) σ (fX10_movesAll_L28 k1 x3 x4 x5 σ) := by
  unfold fX10_movesAll_L28
  refine FK_bd (FK_fr (frX10_of _ _ _ _)) (fr_SM (by decide)) (fun _ _ => ?_)
  refine FK_ite ?_ ?_
  · skip
    refine FK_ite ?_ ?_
    · skip
      refine FK_bd (FK_fr (frX10_isWeak _ _ _ _)) (fr_SM (by decide)) (fun _ _ => ?_)
      refine FK_ite ?_ ?_
      · skip
        refine FK_bd (FK_fr (frX10_of _ _ _ _)) (fr_SM (by decide)) (fun _ _ => ?_)
        refine FK_bd (FK_fr (frX10_spotOf_ _ _ _)) (fr_SM (by decide)) (fun _ _ => ?_)
        refine FK_bd (fkX10_moves _ _ _) (fun _ _ h => h) (fun _ _ => ?_)
        exact FK_sub (FK_fr (frX10_movesAll_j78L28 _ _ _ _ _)) (fr_SM (by decide))
      · skip
        exact FK_sub (FK_fr (frX10_movesAll_j78L28 _ _ _ _ _)) (fr_SM (by decide))
    · skip
      exact FK_some
  · skip
    exact FK_some
theorem fkX10_movesAll_L2 (k1 : Nat) (x3 : Int32) (σ : rS) : FK (SM k1) σ (fX10_movesAll_L2 k1 x3 σ) := by
  unfold fX10_movesAll_L2
  refine FK_ite ?_ ?_
  · skip
    refine FK_ite ?_ ?_
    · skip
      refine FK_bnd ?_
      refine FK_rd (fun _ => ?_)
      refine FK_bd (FK_lp (fun x σ => FK_sub (fkX10_movesAll_L28 _ _ _ _ _) (fun _ _ h => h)) _ _ _) (fun _ _ h => h) (fun _ _ => ?_)
      exact FK_sub (FK_fr (frX10_movesAll_j84L2 _ _ _)) (fr_SM (by decide))
    · skip
      exact FK_some
  · skip
    exact FK_some
theorem fkX10_movesAll (k1 : Nat) (x2 : Int32) (σ : rS) : FK (SM k1) σ (fX10_movesAll k1 x2 σ) := by
  unfold fX10_movesAll
  refine FK_bd (FK_lp (fun x σ => FK_sub (fkX10_movesAll_L2 _ _ _) (fun _ _ h => h)) _ _ _) (fun _ _ h => h) (fun _ _ => ?_)
  exact FK_some
theorem fkX10_movesReached_L2 (k1 : Nat) (x2 : Int32) (σ : rS) : FK (SM k1) σ (fX10_movesReached_L2 k1 x2 σ) := by
  unfold fX10_movesReached_L2
  refine FK_ite ?_ ?_
  · skip
    refine FK_ite ?_ ?_
    · skip
      refine FK_bnd ?_
      refine FK_bd (FK_fr (frX10_spotOf_ _ _ _)) (fr_SM (by decide)) (fun _ _ => ?_)
      refine FK_bd (fkX10_moves _ _ _) (fun _ _ h => h) (fun _ _ => ?_)
      exact FK_some
    · skip
      exact FK_some
  · skip
    exact FK_some
theorem fkX10_movesReached_L39 (k1 : Nat) (x2 : Int32) (σ : rS) : FK (SM k1) σ (fX10_movesReached_L39 k1 x2 σ) := by
  unfold fX10_movesReached_L39
  refine FK_ite ?_ ?_
  · skip
    refine FK_ite ?_ ?_
    · skip
      refine FK_bnd ?_
      refine FK_bd (FK_fr (frX10_spotOf_ _ _ _)) (fr_SM (by decide)) (fun _ _ => ?_)
      refine FK_bd (fkX10_moves _ _ _) (fun _ _ h => h) (fun _ _ => ?_)
      exact FK_some
    · skip
      exact FK_some
  · skip
    exact FK_some
theorem fkX10_movesReached_L79 (k1 : Nat) (x2 : Int32) (σ : rS) : FK (SM k1) σ (fX10_movesReached_L79 k1 x2 σ) := by
  unfold fX10_movesReached_L79
  refine FK_ite ?_ ?_
  · skip
    refine FK_ite ?_ ?_
    · skip
      refine FK_bnd ?_
      refine FK_bd (FK_fr (frX10_spotOf_ _ _ _)) (fr_SM (by decide)) (fun _ _ => ?_)
      refine FK_bnd ?_
      refine FK_rd (fun _ => ?_)
      refine FK_bd (FK_fr (frX10_isWeak _ _ _ _)) (fr_SM (by decide)) (fun _ _ => ?_)
      refine FK_ite ?_ ?_
      · skip
        refine FK_bd (FK_fr (frX10_of _ _ _ _)) (fr_SM (by decide)) (fun _ _ => ?_)
        refine FK_bd (FK_fr (frX10_spotOf_ _ _ _)) (fr_SM (by decide)) (fun _ _ => ?_)
        refine FK_bd (fkX10_moves _ _ _) (fun _ _ h => h) (fun _ _ => ?_)
        exact FK_sub (FK_fr (frX10_movesReached_j149L79 _ _ _)) (fr_SM (by decide))
      · skip
        exact FK_sub (FK_fr (frX10_movesReached_j149L79 _ _ _)) (fr_SM (by decide))
    · skip
      exact FK_some
  · skip
    exact FK_some
theorem fkX10_movesReached_j155 (k1 : Nat) (σ : rS) : FK (SM k1) σ (fX10_movesReached_j155 k1 σ) := by
  unfold fX10_movesReached_j155
  refine FK_bd (fkX10_movesAll _ _ _) (fun _ _ h => h) (fun _ _ => ?_)
  exact FK_some
theorem fkX10_movesReached_j77 (k1 : Nat) (σ : rS) : FK (SM k1) σ (fX10_movesReached_j77 k1 σ) := by
  unfold fX10_movesReached_j77
  refine FK_bd (FK_lp (fun x σ => FK_sub (fkX10_movesReached_L79 _ _ _) (fun _ _ h => h)) _ _ _) (fun _ _ h => h) (fun _ _ => ?_)
  exact FK_sub (fkX10_movesReached_j155 _ _) (fun _ _ h => h)
theorem fkX10_movesReached_j37 (k1 : Nat) (σ : rS) : FK (SM k1) σ (fX10_movesReached_j37 k1 σ) := by
  unfold fX10_movesReached_j37
  refine FK_bd (FK_lp (fun x σ => FK_sub (fkX10_movesReached_L39 _ _ _) (fun _ _ h => h)) _ _ _) (fun _ _ h => h) (fun _ _ => ?_)
  exact FK_sub (fkX10_movesReached_j77 _ _) (fun _ _ h => h)
theorem fkX10_movesReached (k1 : Nat) (σ : rS) : FK (SM k1) σ (fX10_movesReached k1 σ) := by
  unfold fX10_movesReached
  refine FK_bd (FK_lp (fun x σ => FK_sub (fkX10_movesReached_L2 _ _ _) (fun _ _ h => h)) _ _ _) (fun _ _ h => h) (fun _ _ => ?_)
  exact FK_sub (fkX10_movesReached_j37 _ _) (fun _ _ h => h)
theorem fkX10_weakensAndEnds_j26L2 (k1 : Nat) (x2 : Int32) (σ : rS) : FK (SM k1) σ (fX10_weakensAndEnds_j26L2 k1 x2 σ) := by
  unfold fX10_weakensAndEnds_j26L2
  refine FK_bd (fkX10_empties _ _ _ _) (fun _ _ h => h) (fun _ _ => ?_)
  exact FK_sub (FK_fr (frX10_weakensAndEnds_j33L2 _ _ _)) (fr_SM (by decide))
theorem fkX10_weakensAndEnds_L2 (k1 : Nat) (x2 : Int32) (σ : rS) : FK (SM k1) σ (fX10_weakensAndEnds_L2 k1 x2 σ) := by
  unfold fX10_weakensAndEnds_L2
  refine FK_ite ?_ ?_
  · skip
    refine FK_bnd ?_
    refine FK_ite ?_ ?_
    · skip
      refine FK_bd (FK_fr (frX10_isOld _ _ _)) (fr_SM (by decide)) (fun _ _ => ?_)
      refine FK_ite ?_ ?_
      · skip
        exact FK_sub (FK_fr (frX10_weakensAndEnds_j33L2 _ _ _)) (fr_SM (by decide))
      · skip
        exact FK_sub (fkX10_weakensAndEnds_j26L2 _ _ _) (fun _ _ h => h)
    · skip
      exact FK_sub (fkX10_weakensAndEnds_j26L2 _ _ _) (fun _ _ h => h)
  · skip
    exact FK_some
theorem fkX10_weakensAndEnds_L52 (k1 : Nat) (x2 : Int32) (x3 : Int32) (σ : rS) : FK (SM k1) σ (fX10_weakensAndEnds_L52 k1 x2 x3 σ) := by
  unfold fX10_weakensAndEnds_L52
  refine FK_ite ?_ ?_
  · skip
    refine FK_ite ?_ ?_
    · skip
      refine FK_rd (fun _ => ?_)
      refine FK_bnd ?_
      refine FK_bd (fkX10_moves _ _ _) (fun _ _ h => h) (fun _ _ => ?_)
      refine FK_bd (fkX10_movesAll _ _ _) (fun _ _ h => h) (fun _ _ => ?_)
      exact FK_some
    · skip
      exact FK_some
  · skip
    exact FK_some
theorem fkX10_weakensAndEnds_L99 (k1 : Nat) (x2 : Int32) (x3 : Int32) (σ : rS) : FK (SM k1) σ (fX10_weakensAndEnds_L99 k1 x2 x3 σ) := by
  unfold fX10_weakensAndEnds_L99
  refine FK_ite ?_ ?_
  · skip
    refine FK_bd (FK_fr (frX10_isMetBehind _ _ _)) (fr_SM (by decide)) (fun _ _ => ?_)
    refine FK_ite ?_ ?_
    · skip
      exact FK_sub (FK_fr (frX10_weakensAndEnds_j122L99 _ _ _ _)) (fr_SM (by decide))
    · skip
      refine FK_bd (fkX10_empties _ _ _ _) (fun _ _ h => h) (fun _ _ => ?_)
      exact FK_sub (FK_fr (frX10_weakensAndEnds_j122L99 _ _ _ _)) (fr_SM (by decide))
  · skip
    exact FK_some
theorem fkX10_weakensAndEnds_j97 (k1 : Nat) (x2 : Int32) (σ : rS) : FK (SM k1) σ (fX10_weakensAndEnds_j97 k1 x2 σ) := by
  unfold fX10_weakensAndEnds_j97
  refine FK_bd (FK_lp (fun x σ => FK_sub (fkX10_weakensAndEnds_L99 _ _ _ _) (fun _ _ h => h)) _ _ _) (fun _ _ h => h) (fun _ _ => ?_)
  exact FK_some
theorem fkX10_weakensAndEnds (k1 : Nat) (σ : rS) : FK (SM k1) σ (fX10_weakensAndEnds k1 σ) := by
  unfold fX10_weakensAndEnds
  refine FK_bd (FK_lp (fun x σ => FK_sub (fkX10_weakensAndEnds_L2 _ _ _) (fun _ _ h => h)) _ _ _) (fun _ _ h => h) (fun _ _ => ?_)
  refine FK_bd (fkX10_ends _ _ _) (fun _ _ h => h) (fun _ _ => ?_)
  refine FK_rd (fun _ => ?_)
  refine FK_bd (FK_lp (fun x σ => FK_sub (fkX10_weakensAndEnds_L52 _ _ _ _) (fun _ _ h => h)) _ _ _) (fun _ _ h => h) (fun _ _ => ?_)
  exact FK_sub (fkX10_weakensAndEnds_j97 _ _ _) (fun _ _ h => h)
theorem fkX10_minors_L80 (k1 : Nat) (x2 : Int32) (x3 : Int32) (σ : rS) : FK (SM k1) σ (fX10_minors_L80 k1 x2 x3 σ) := by
  unfold fX10_minors_L80
  refine FK_bnd ?_
  refine FK_bd (FK_fr (frX10_of _ _ _ _)) (fr_SM (by decide)) (fun _ _ => ?_)
  refine FK_ite ?_ ?_
  · skip
    refine FK_bnd ?_
    refine FK_bd (fkX10_keeps _ _ _ _) (fun _ _ h => h) (fun _ _ => ?_)
    exact FK_some
  · skip
    exact FK_some
theorem fkX10_minors_L70 (k1 : Nat) (x2 : Int32) (σ : rS) : FK (SM k1) σ (fX10_minors_L70 k1 x2 σ) := by
  unfold fX10_minors_L70
  refine FK_ite ?_ ?_
  · skip
    refine FK_bd (FK_lp (fun x σ => FK_sub (fkX10_minors_L80 _ _ _ _) (fun _ _ h => h)) _ _ _) (fun _ _ h => h) (fun _ _ => ?_)
    exact FK_some
  · skip
    exact FK_some
theorem fkX10_minors_L129 (k1 : Nat) (x2 : Int32) (σ : rS) : FK (SM k1) σ (fX10_minors_L129 k1 x2 σ) := by
  unfold fX10_minors_L129
  refine FK_ite ?_ ?_
  · skip
    exact FK_some
  · skip
    refine FK_bd (FK_fr (frX10_isOld _ _ _)) (fr_SM (by decide)) (fun _ _ => ?_)
    refine FK_ite ?_ ?_
    · skip
      refine FK_bnd ?_
      refine FK_ite ?_ ?_
      · skip
        refine FK_bd (fkX10_goes _ _ _) (fun _ _ h => h) (fun _ _ => ?_)
        refine FK_st (by intro _; omega) (fun _ => ?_)
        exact FK_sub (FK_fr (frX10_minors_j168L129 _ _ _)) (fr_SM (by decide))
      · skip
        exact FK_sub (FK_fr (frX10_minors_j168L129 _ _ _)) (fr_SM (by decide))
    · skip
      exact FK_sub (FK_fr (frX10_minors_j168L129 _ _ _)) (fr_SM (by decide))
theorem fkX10_minors_j45 (k1 : Nat) (σ : rS) : FK (SM k1) σ (fX10_minors_j45 k1 σ) := by
  unfold fX10_minors_j45
  refine FK_ite ?_ ?_
  · skip
    refine FK_bd (fkX10_sifts _ _) (fun _ _ h => h) (fun _ _ => ?_)
    refine FK_bd (FK_lp (fun x σ => FK_sub (fkX10_minors_L70 _ _ _) (fun _ _ h => h)) _ _ _) (fun _ _ h => h) (fun _ _ => ?_)
    refine FK_st (by intro _; omega) (fun _ => ?_)
    refine FK_rd (fun _ => ?_)
    refine FK_bd (FK_lp (fun x σ => FK_sub (fkX10_minors_L129 _ _ _) (fun _ _ h => h)) _ _ _) (fun _ _ h => h) (fun _ _ => ?_)
    refine FK_st (by intro _; omega) (fun _ => ?_)
    refine FK_st (by intro _; omega) (fun _ => ?_)
    refine FK_st (by intro _; omega) (fun _ => ?_)
    exact FK_some
  · skip
    refine FK_bd (fkX10_copyRow _ _ _ _ _ _ _ _ _) (fun c k h => by obtain ⟨rfl, rfl⟩ := h; intro _; omega) (fun _ _ => ?_)
    exact FK_some
theorem fkX10_minors (k1 : Nat) (σ : rS) : FK (SM k1) σ (fX10_minors k1 σ) := by
  unfold fX10_minors
  refine FK_bd (fkX10_copyRow _ _ _ _ _ _ _ _ _) (fun c k h => by obtain ⟨rfl, rfl⟩ := h; intro _; omega) (fun _ _ => ?_)
  refine FK_bd (FK_fr (frX10_begins _)) (fr_SM (by decide)) (fun _ _ => ?_)
  refine FK_st (by intro _; omega) (fun _ => ?_)
  refine FK_bd (FK_fr (frX10_cellsIn _ _ _)) (fr_SM (by decide)) (fun _ _ => ?_)
  refine FK_st (by intro _; omega) (fun _ => ?_)
  refine FK_bd (fkX10_movesReached _ _) (fun _ _ h => h) (fun _ _ => ?_)
  refine FK_ite ?_ ?_
  · skip
    refine FK_bd (fkX10_weakensAndEnds _ _) (fun _ _ h => h) (fun _ _ => ?_)
    exact FK_sub (fkX10_minors_j45 _ _) (fun _ _ h => h)
  · skip
    exact FK_sub (fkX10_minors_j45 _ _) (fun _ _ h => h)
theorem fkX10_slides_j120L9 (k1 : Nat) (x2 : Int32) (x3 : Int32) (x4 : Int32) (z0 : Int32) (z1 : Int32) (σ : rS) : FK (SM k1) σ (fX10_slides_j120L9 k1 x2 x3 x4 z0 z1 σ) := by
  unfold fX10_slides_j120L9
  refine FK_st (by intro _; omega) (fun _ => ?_)
  refine FK_bd (FK_fr (frX10_cell _ _ _)) (fr_SM (by decide)) (fun _ _ => ?_)
  refine FK_bnd ?_
  refine FK_st (by intro _; omega) (fun _ => ?_)
  refine FK_bd (FK_fr (frX10_sizeOf _ _ _)) (fr_SM (by decide)) (fun _ _ => ?_)
  refine FK_rd (fun _ => ?_)
  exact FK_some
theorem fkX10_slides_L9 (k1 : Nat) (x2 : Int32) (x3 : Int32) (σ : rS) : FK (SM k1) σ (fX10_slides_L9 k1 x2 x3 σ) := by
  unfold fX10_slides_L9
  refine FK_bd (FK_lp (fun x σ => FK_sub (FK_fr (frX10_slides_L15 _ _ _ _ _ _)) (fr_SM (by decide))) _ _ _) (fun _ _ h => h) (fun _ _ => ?_)
  refine FK_ite ?_ ?_
  · skip
    exact FK_some
  · skip
    refine FK_bd (FK_fr (frX10_of _ _ _ _)) (fr_SM (by decide)) (fun _ _ => ?_)
    refine FK_ite ?_ ?_
    · skip
      exact FK_sub (fkX10_slides_j120L9 _ _ _ _ _ _ _) (fun _ _ h => h)
    · skip
      exact FK_sub (fkX10_slides_j120L9 _ _ _ _ _ _ _) (fun _ _ h => h)
theorem fkX10_slides (k1 : Nat) (σ : rS) : FK (SM k1) σ (fX10_slides k1 σ) := by
  unfold fX10_slides
  refine FK_st (by intro _; omega) (fun _ => ?_)
  refine FK_bd (FK_lp (fun x σ => FK_sub (fkX10_slides_L9 _ _ _ _) (fun _ _ h => h)) _ _ _) (fun _ _ h => h) (fun _ _ => ?_)
  exact FK_some
theorem fkX10_majors_L9 (k1 : Nat) (x2 : Int32) (σ : rS) : FK (SM k1) σ (fX10_majors_L9 k1 x2 σ) := by
  unfold fX10_majors_L9
  refine FK_ite ?_ ?_
  · skip
    refine FK_bnd ?_
    refine FK_ite ?_ ?_
    · skip
      exact FK_sub (FK_fr (frX10_majors_j32L9 _ _ _)) (fr_SM (by decide))
    · skip
      refine FK_bd (fkX10_empties _ _ _ _) (fun _ _ h => h) (fun _ _ => ?_)
      exact FK_sub (FK_fr (frX10_majors_j32L9 _ _ _)) (fr_SM (by decide))
  · skip
    exact FK_some
theorem fkX10_majors_L83 (k1 : Nat) (x2 : Int32) (x3 : Int32) (σ : rS) : FK (SM k1) σ (fX10_majors_L83 k1 x2 x3 σ) := by
  unfold fX10_majors_L83
  refine FK_ite ?_ ?_
  · skip
    refine FK_bd (FK_fr (frX10_isMetBehind _ _ _)) (fr_SM (by decide)) (fun _ _ => ?_)
    refine FK_ite ?_ ?_
    · skip
      exact FK_sub (FK_fr (frX10_majors_j106L83 _ _ _ _)) (fr_SM (by decide))
    · skip
      refine FK_bd (fkX10_empties _ _ _ _) (fun _ _ h => h) (fun _ _ => ?_)
      exact FK_sub (FK_fr (frX10_majors_j106L83 _ _ _ _)) (fr_SM (by decide))
  · skip
    exact FK_some
theorem fkX10_majors_L129 (k1 : Nat) (x3 : Int32) (x4 : Int32) (σ : rS) : FK (SM k1) σ (fX10_majors_L129 k1 x3 x4 σ) := by
  unfold fX10_majors_L129
  refine FK_ite ?_ ?_
  · skip
    refine FK_bnd ?_
    refine FK_ite ?_ ?_
    · skip
      refine FK_bd (FK_fr (frX10_isOld _ _ _)) (fr_SM (by decide)) (fun _ _ => ?_)
      refine FK_ite ?_ ?_
      · skip
        refine FK_bd (FK_fr (frX10_cell _ _ _)) (fr_SM (by decide)) (fun _ _ => ?_)
        refine FK_bnd ?_
        refine FK_st (by intro _; omega) (fun _ => ?_)
        exact FK_some
      · skip
        exact FK_some
    · skip
      exact FK_some
  · skip
    exact FK_some
theorem fkX10_majors_L119 (k1 : Nat) (x3 : Int32) (σ : rS) : FK (SM k1) σ (fX10_majors_L119 k1 x3 σ) := by
  unfold fX10_majors_L119
  refine FK_ite ?_ ?_
  · skip
    refine FK_bd (FK_lp (fun x σ => FK_sub (fkX10_majors_L129 _ _ _ _) (fun _ _ h => h)) _ _ _) (fun _ _ h => h) (fun _ _ => ?_)
    exact FK_sub (FK_fr (frX10_majors_j170L119 _ _ _)) (fr_SM (by decide))
  · skip
    exact FK_some
theorem fkX10_majors_L187 (k1 : Nat) (x3 : Int32) (σ : rS) : FK (SM k1) σ (fX10_majors_L187 k1 x3 σ) := by
  unfold fX10_majors_L187
  refine FK_ite ?_ ?_
  · skip
    exact FK_some
  · skip
    refine FK_bd (FK_fr (frX10_isOld _ _ _)) (fr_SM (by decide)) (fun _ _ => ?_)
    refine FK_ite ?_ ?_
    · skip
      exact FK_sub (FK_fr (frX10_majors_j226L187 _ _ _)) (fr_SM (by decide))
    · skip
      refine FK_bnd ?_
      refine FK_ite ?_ ?_
      · skip
        refine FK_bd (fkX10_goes _ _ _) (fun _ _ h => h) (fun _ _ => ?_)
        refine FK_st (by intro _; omega) (fun _ => ?_)
        exact FK_sub (FK_fr (frX10_majors_j226L187 _ _ _)) (fr_SM (by decide))
      · skip
        exact FK_sub (FK_fr (frX10_majors_j226L187 _ _ _)) (fr_SM (by decide))
theorem fkX10_majors (k1 : Nat) (σ : rS) : FK (SM k1) σ (fX10_majors k1 σ) := by
  unfold fX10_majors
  refine FK_bd (FK_fr (frX10_reaches _ _ _ _)) (fr_SM (by decide)) (fun _ _ => ?_)
  refine FK_bd (FK_lp (fun x σ => FK_sub (fkX10_majors_L9 _ _ _) (fun _ _ h => h)) _ _ _) (fun _ _ h => h) (fun _ _ => ?_)
  refine FK_bd (fkX10_ends _ _ _) (fun _ _ h => h) (fun _ _ => ?_)
  refine FK_rd (fun _ => ?_)
  refine FK_bd (FK_lp (fun x σ => FK_sub (FK_fr (frX10_majors_L51 _ _ _ _)) (fr_SM (by decide))) _ _ _) (fun _ _ h => h) (fun _ _ => ?_)
  refine FK_bd (FK_fr (frX10_marksAll _ _ _)) (fr_SM (by decide)) (fun _ _ => ?_)
  refine FK_bd (FK_lp (fun x σ => FK_sub (fkX10_majors_L83 _ _ _ _) (fun _ _ h => h)) _ _ _) (fun _ _ h => h) (fun _ _ => ?_)
  refine FK_bd (fkX10_slides _ _) (fun _ _ h => h) (fun _ _ => ?_)
  refine FK_bd (FK_lp (fun x σ => FK_sub (fkX10_majors_L119 _ _ _) (fun _ _ h => h)) _ _ _) (fun _ _ h => h) (fun _ _ => ?_)
  refine FK_st (by intro _; omega) (fun _ => ?_)
  refine FK_rd (fun _ => ?_)
  refine FK_bd (FK_lp (fun x σ => FK_sub (fkX10_majors_L187 _ _ _) (fun _ _ h => h)) _ _ _) (fun _ _ h => h) (fun _ _ => ?_)
  refine FK_bd (fkX10_sifts _ _) (fun _ _ h => h) (fun _ _ => ?_)
  refine FK_st (by intro _; omega) (fun _ => ?_)
  refine FK_st (by intro _; omega) (fun _ => ?_)
  exact FK_some
theorem fkX10_hasRoom (k1 : Nat) (x2 : Int32) (σ : rS) : FK (SM k1) σ (fX10_hasRoom k1 x2 σ) := by
  unfold fX10_hasRoom
  refine FK_bd (FK_fr (frX10_cellsIn _ _ _)) (fr_SM (by decide)) (fun _ _ => ?_)
  refine FK_ite ?_ ?_
  · skip
    refine FK_bd (fkX10_copyRow _ _ _ _ _ _ _ _ _) (fun c k h => by obtain ⟨rfl, rfl⟩ := h; intro _; omega) (fun _ _ => ?_)
    refine FK_bd (fkX10_minors _ _) (fun _ _ h => h) (fun _ _ => ?_)
    refine FK_ite ?_ ?_
    · skip
      refine FK_bd (fkX10_majors _ _) (fun _ _ h => h) (fun _ _ => ?_)
      refine FK_bd (fkX10_minors _ _) (fun _ _ h => h) (fun _ _ => ?_)
      refine FK_ite ?_ ?_
      · skip
        refine FK_bd (fkX10_copyRow _ _ _ _ _ _ _ _ _) (fun c k h => by obtain ⟨rfl, rfl⟩ := h; intro _; omega) (fun _ _ => ?_)
        exact FK_some
      · skip
        exact FK_some
    · skip
      exact FK_some
  · skip
    exact FK_some
theorem fkX10_makes_L29 (k1 : Nat) (x2 : Int32) (x3 : Int32) (x4 : Int32) (x5 : Int32) (x6 : Int32) (x7 : Int32) (x8 : Int32) (σ : rS) : FK (SM k1) σ (fX10_makes_L29 k1 x2 x3 x4 x5 x6 x7 x8 σ) := by
  unfold fX10_makes_L29
  refine FK_ite ?_ ?_
  · skip
    refine FK_bd (FK_fr (frX10_cell _ _ _)) (fr_SM (by decide)) (fun _ _ => ?_)
    refine FK_bnd ?_
    refine FK_st (by intro _; omega) (fun _ => ?_)
    exact FK_some
  · skip
    exact FK_some
theorem fkX10_makes (k1 : Nat) (x2 : Int32) (x3 : Int32) (x4 : Int32) (x5 : Int32) (σ : rS) : FK (SM k1) σ (fX10_makes k1 x2 x3 x4 x5 σ) := by
  unfold fX10_makes
  refine FK_bd (fkX10_hasRoom _ _ _) (fun _ _ h => h) (fun _ _ => ?_)
  refine FK_ite ?_ ?_
  · skip
    exact FK_some
  · skip
    refine FK_bd (FK_fr (frX10_cellsIn _ _ _)) (fr_SM (by decide)) (fun _ _ => ?_)
    refine FK_rd (fun _ => ?_)
    refine FK_bd (FK_lp (fun x σ => FK_sub (fkX10_makes_L29 _ _ _ _ _ _ _ _ _) (fun _ _ h => h)) _ _ _) (fun _ _ h => h) (fun _ _ => ?_)
    refine FK_st (by intro _; omega) (fun _ => ?_)
    refine FK_bd (FK_fr (frX10_cell _ _ _)) (fr_SM (by decide)) (fun _ _ => ?_)
    refine FK_bnd ?_
    refine FK_st (by intro _; omega) (fun _ => ?_)
    refine FK_bd (FK_fr (frX10_cell _ _ _)) (fr_SM (by decide)) (fun _ _ => ?_)
    refine FK_bnd ?_
    refine FK_st (by intro _; omega) (fun _ => ?_)
    refine FK_bd (FK_fr (frX10_cell _ _ _)) (fr_SM (by decide)) (fun _ _ => ?_)
    refine FK_bnd ?_
    refine FK_st (by intro _; omega) (fun _ => ?_)
    refine FK_bd (FK_fr (frX10_cell _ _ _)) (fr_SM (by decide)) (fun _ _ => ?_)
    refine FK_bnd ?_
    refine FK_st (by intro _; omega) (fun _ => ?_)
    refine FK_bd (FK_fr (frX10_cell _ _ _)) (fr_SM (by decide)) (fun _ _ => ?_)
    refine FK_bnd ?_
    refine FK_st (by intro _; omega) (fun _ => ?_)
    refine FK_st (by intro _; omega) (fun _ => ?_)
    refine FK_bnd ?_
    refine FK_st (by intro _; omega) (fun _ => ?_)
    refine FK_st (by intro _; omega) (fun _ => ?_)
    refine FK_st (by intro _; omega) (fun _ => ?_)
    exact FK_some
theorem fkX10_links (k1 : Nat) (x2 : Int32) (x3 : Int32) (x4 : Int32) (σ : rS) : FK (SM k1) σ (fX10_links k1 x2 x3 x4 σ) := by
  unfold fX10_links
  refine FK_bd (FK_fr (frX10_rootSpot _ _ _)) (fr_SM (by decide)) (fun _ _ => ?_)
  refine FK_bd (FK_fr (frX10_of _ _ _ _)) (fr_SM (by decide)) (fun _ _ => ?_)
  refine FK_st (by intro _; omega) (fun _ => ?_)
  refine FK_bd (FK_fr (frX10_cell _ _ _)) (fr_SM (by decide)) (fun _ _ => ?_)
  refine FK_bd (FK_fr (frX10_link _ _ _)) (fr_SM (by decide)) (fun _ _ => ?_)
  refine FK_bnd ?_
  refine FK_st (by intro _; omega) (fun _ => ?_)
  refine FK_bd (fkX10_sifts _ _) (fun _ _ h => h) (fun _ _ => ?_)
  refine FK_bd (fkX10_keeps _ _ _ _) (fun _ _ h => h) (fun _ _ => ?_)
  exact FK_some
theorem fkX10_tells_L11 (k1 : Nat) (x2 : Int32) (x3 : Int32) (σ : rS) : FK (SM k1) σ (fX10_tells_L11 k1 x2 x3 σ) := by
  unfold fX10_tells_L11
  refine FK_ite ?_ ?_
  · skip
    refine FK_bnd ?_
    refine FK_bnd ?_
    refine FK_st (by intro _; omega) (fun _ => ?_)
    exact FK_some
  · skip
    exact FK_some
theorem fkX10_tells (k1 : Nat) (x2 : Int32) (σ : rS) : FK (SM k1) σ (fX10_tells k1 x2 σ) := by
  unfold fX10_tells
  refine FK_st (by intro _; omega) (fun _ => ?_)
  refine FK_bd (FK_lp (fun x σ => FK_sub (fkX10_tells_L11 _ _ _ _) (fun _ _ h => h)) _ _ _) (fun _ _ h => h) (fun _ _ => ?_)
  refine FK_st (by intro _; omega) (fun _ => ?_)
  refine FK_bd (FK_fr (frX10_spotOf_ _ _ _)) (fr_SM (by decide)) (fun _ _ => ?_)
  refine FK_bd (FK_fr (frX10_cell _ _ _)) (fr_SM (by decide)) (fun _ _ => ?_)
  refine FK_bnd ?_
  refine FK_st (by intro _; omega) (fun _ => ?_)
  refine FK_ite ?_ ?_
  · skip
    refine FK_bnd ?_
    refine FK_st (by intro _; omega) (fun _ => ?_)
    exact FK_some
  · skip
    exact FK_some
theorem fkX10_does_L241 (k1 : Nat) (x8 : Int32) (σ : rS) : FK (SM k1) σ (fX10_does_L241 k1 x8 σ) := by
  unfold fX10_does_L241
  refine FK_ite ?_ ?_
  · skip
    refine FK_bnd ?_
    refine FK_bnd ?_
    refine FK_st (by intro _; omega) (fun _ => ?_)
    exact FK_some
  · skip
    exact FK_some
theorem fkX10_does_j45 (k1 : Nat) (x2 : Int32) (x3 : Int32) (x4 : Int32) (x5 : Int32) (x6 : Int32) (z0 : Int32) (σ : rS) : FK (SM k1) σ (fX10_does_j45 k1 x2 x3 x4 x5 x6 z0 σ) := by
  unfold fX10_does_j45
  refine FK_st (by intro _; omega) (fun _ => ?_)
  refine FK_ite ?_ ?_
  · skip
    refine FK_bd (fkX10_makes _ _ _ _ _ _) (fun _ _ h => h) (fun _ _ => ?_)
    refine FK_ite ?_ ?_
    · skip
      exact FK_some
    · skip
      exact FK_some
  · skip
    refine FK_ite ?_ ?_
    · skip
      refine FK_bd (fkX10_links _ _ _ _ _) (fun _ _ h => h) (fun _ _ => ?_)
      exact FK_some
    · skip
      refine FK_ite ?_ ?_
      · skip
        refine FK_bd (FK_fr (frX10_rootSpot _ _ _)) (fr_SM (by decide)) (fun _ _ => ?_)
        refine FK_bd (FK_fr (frX10_of _ _ _ _)) (fr_SM (by decide)) (fun _ _ => ?_)
        refine FK_st (by intro _; omega) (fun _ => ?_)
        refine FK_bnd ?_
        refine FK_st (by intro _; omega) (fun _ => ?_)
        exact FK_some
      · skip
        refine FK_ite ?_ ?_
        · skip
          refine FK_bnd ?_
          refine FK_st (by intro _; omega) (fun _ => ?_)
          refine FK_bnd ?_
          refine FK_st (by intro _; omega) (fun _ => ?_)
          exact FK_some
        · skip
          refine FK_ite ?_ ?_
          · skip
            refine FK_bd (fkX10_minors _ _) (fun _ _ h => h) (fun _ _ => ?_)
            refine FK_ite ?_ ?_
            · skip
              exact FK_some
            · skip
              refine FK_st (by intro _; omega) (fun _ => ?_)
              exact FK_some
          · skip
            refine FK_ite ?_ ?_
            · skip
              refine FK_bd (fkX10_majors _ _) (fun _ _ h => h) (fun _ _ => ?_)
              refine FK_st (by intro _; omega) (fun _ => ?_)
              exact FK_some
            · skip
              refine FK_ite ?_ ?_
              · skip
                refine FK_bd (fkX10_tells _ _ _) (fun _ _ h => h) (fun _ _ => ?_)
                refine FK_st (by intro _; omega) (fun _ => ?_)
                exact FK_some
              · skip
                refine FK_st (by intro _; omega) (fun _ => ?_)
                refine FK_bd (FK_lp (fun x σ => FK_sub (fkX10_does_L241 _ _ _) (fun _ _ h => h)) _ _ _) (fun _ _ h => h) (fun _ _ => ?_)
                refine FK_st (by intro _; omega) (fun _ => ?_)
                refine FK_st (by intro _; omega) (fun _ => ?_)
                exact FK_some
theorem fkX10_does_j44 (k1 : Nat) (x2 : Int32) (x3 : Int32) (x4 : Int32) (x5 : Int32) (x6 : Int32) (σ : rS) : FK (SM k1) σ (fX10_does_j44 k1 x2 x3 x4 x5 x6 σ) := by
  unfold fX10_does_j44
  exact FK_sub (fkX10_does_j45 _ _ _ _ _ _ _ _) (fun _ _ h => h)
theorem fkX10_does (k1 : Nat) (x2 : Int32) (x3 : Int32) (x4 : Int32) (x5 : Int32) (x6 : Int32) (σ : rS) : FK (SM k1) σ (fX10_does k1 x2 x3 x4 x5 x6 σ) := by
  unfold fX10_does
  refine FK_bd (FK_fr (frX10_stops _ _ _ _ _ _ _)) (fr_SM (by decide)) (fun _ _ => ?_)
  refine FK_ite ?_ ?_
  · skip
    refine FK_ite ?_ ?_
    · skip
      refine FK_ite ?_ ?_
      · skip
        refine FK_bnd ?_
        exact FK_sub (fkX10_does_j45 _ _ _ _ _ _ _ _) (fun _ _ h => h)
      · skip
        exact FK_sub (fkX10_does_j44 _ _ _ _ _ _ _) (fun _ _ h => h)
    · skip
      exact FK_sub (fkX10_does_j44 _ _ _ _ _ _ _) (fun _ _ h => h)
  · skip
    exact FK_some
