/-! a walk keeps what it has met, and distances rise along it -/
def PS (S T : GS) : Prop := S.1.length ≤ T.1.length ∧ (∀ i, i < S.1.length → T.1.getD i 0 = S.1.getD i 0) ∧ ∀ j ∈ S.1, T.2.1 j = S.2.1 j ∧ j ∈ T.1
theorem PS_refl (S : GS) : PS S S := ⟨Nat.le_refl _, fun _ _ => rfl, fun _ h => ⟨rfl, h⟩⟩
theorem PS_trans {S T U : GS} (h : PS S T) (g : PS T U) : PS S U := ⟨Nat.le_trans h.1 g.1, fun i hi => by rw [g.2.1 i (by have := h.1; omega), h.2.1 i hi], fun j hj => by
  have h1 := h.2.2 j hj
  have h2 := g.2.2 j h1.2
  exact ⟨by rw [h2.1, h1.1], h2.2⟩⟩
theorem PS_vis3 (S : GS) (o p : Option Nat) (fl : Int32) : PS S (vis3 S o p fl) := by
  cases o with
  | none => exact PS_refl S
  | some j =>
    by_cases hm : j ∈ S.1
    · rw [vis3_old hm]; exact PS_refl S
    · rw [vis3_new hm]
      refine ⟨by rw [List.length_append]; omega, fun i hi => getD_append_lt hi, fun q hq => ⟨if_neg (fun (e : q = j) => hm (e ▸ hq)), List.mem_append_left _ hq⟩⟩
theorem PS_spr (A : Hp) (j : Nat) : ∀ (m f : Nat) (S : GS), PS S (sprF A j m f S) := by
  intro m
  induction m with
  | zero => intro f S; exact PS_refl S
  | succ m ih => intro f S; exact PS_trans (PS_vis3 S _ _ _) (ih (f + 1) _)
theorem PS_bfs (A : Hp) : ∀ (m i : Nat) (S : GS), PS S (bfsF A m i S) := by
  intro m
  induction m with
  | zero => intro i S; exact PS_refl S
  | succ m ih =>
    intro i S
    unfold bfsF
    by_cases h : i < S.1.length
    · rw [if_pos h]; exact PS_trans (PS_spr A _ _ _ S) (ih (i + 1) _)
    · rw [if_neg h]; exact PS_refl S
def SO (S : GS) : Prop := ∀ a c, a ≤ c → c < S.1.length → S.2.1 (S.1.getD a 0) ≤ S.2.1 (S.1.getD c 0)
def MI (S : GS) (i : Nat) : Prop := SO S ∧ (i < S.1.length → ∀ c, c < S.1.length → S.2.1 (S.1.getD c 0) ≤ S.2.1 (S.1.getD i 0) + 1)
theorem MI_vis3 {S : GS} {i q : Nat} {o : Option Nat} {fl : Int32} (h : MI S i) (hi : i < S.1.length) (hq : q = S.1.getD i 0) : MI (vis3 S o (some q) fl) i := by
  cases o with
  | none => exact h
  | some j =>
    by_cases hm : j ∈ S.1
    · rw [vis3_old hm]; exact h
    · have old : ∀ a, a < S.1.length → ¬ S.1.getD a 0 = j := fun a ha e => hm (e ▸ getD_mem ha)
      have l1 : (S.1 ++ [j]).length = S.1.length + 1 := by rw [List.length_append]; rfl
      have dl : ∀ a, a < S.1.length → (if (S.1 ++ [j]).getD a 0 = j then dOf S (some q) else S.2.1 ((S.1 ++ [j]).getD a 0)) = S.2.1 (S.1.getD a 0) := fun a ha => by
        rw [getD_append_lt ha, if_neg (old a ha)]
      have de : (if (S.1 ++ [j]).getD S.1.length 0 = j then dOf S (some q) else S.2.1 ((S.1 ++ [j]).getD S.1.length 0)) = S.2.1 (S.1.getD i 0) + 1 := by
        rw [getD_append_eq, if_pos rfl, hq]
        rfl
      rw [vis3_new hm]
      constructor
      · intro a c hac hc
        have hc : c < (S.1 ++ [j]).length := hc
        rw [l1] at hc
        show (if (S.1 ++ [j]).getD a 0 = j then dOf S (some q) else S.2.1 ((S.1 ++ [j]).getD a 0)) ≤ (if (S.1 ++ [j]).getD c 0 = j then dOf S (some q) else S.2.1 ((S.1 ++ [j]).getD c 0))
        by_cases hcl : c < S.1.length
        · rw [dl a (by omega), dl c hcl]; exact h.1 a c hac hcl
        · have e : c = S.1.length := by omega
          subst e
          by_cases hal : a < S.1.length
          · rw [dl a hal, de]; exact h.2 hi a hal
          · have e : a = S.1.length := by omega
            rw [e]; exact Nat.le_refl _
      · intro _ c hc
        have hc : c < (S.1 ++ [j]).length := hc
        rw [l1] at hc
        show (if (S.1 ++ [j]).getD c 0 = j then dOf S (some q) else S.2.1 ((S.1 ++ [j]).getD c 0)) ≤ (if (S.1 ++ [j]).getD i 0 = j then dOf S (some q) else S.2.1 ((S.1 ++ [j]).getD i 0)) + 1
        rw [dl i hi]
        by_cases hcl : c < S.1.length
        · rw [dl c hcl]; exact h.2 hi c hcl
        · have e : c = S.1.length := by omega
          subst e
          rw [de]
          exact Nat.le_refl _
theorem MI_spr {A : Hp} {i q : Nat} : ∀ (m f : Nat) {S : GS}, MI S i → i < S.1.length → q = S.1.getD i 0 → MI (sprF A q m f S) i := by
  intro m
  induction m with
  | zero => intro f S h _ _; exact h
  | succ m ih =>
    intro f S h hi hq
    have hp := PS_vis3 S (hlk A q f) (some q) (nI f)
    exact ih (f + 1) (MI_vis3 h hi hq) (by have := hp.1; omega) (by rw [hp.2.1 i hi]; exact hq)
theorem MI_next {S : GS} {i : Nat} (h : MI S i) : MI S (i + 1) := ⟨h.1, fun hi c hc => by
  have h1 := h.2 (by omega) c hc
  have h2 := h.1 i (i + 1) (by omega) hi
  omega⟩
theorem SO_bfs {A : Hp} : ∀ (m i : Nat) {S : GS}, MI S i → SO (bfsF A m i S) := by
  intro m
  induction m with
  | zero => intro i S h; exact h.1
  | succ m ih =>
    intro i S h
    unfold bfsF
    by_cases hi : i < S.1.length
    · rw [if_pos hi]; exact ih (i + 1) (MI_next (MI_spr _ _ h hi rfl))
    · rw [if_neg hi]; exact h.1
/-- the walk from one -/
def ringA (A : Hp) (g : Nat) : GS := bfsF A 80 0 (vis3 gs0 (some g) none (-1))
theorem ringA_SO (A : Hp) (g : Nat) : SO (ringA A g) := by
  refine SO_bfs _ _ ⟨fun a c hac hc => ?_, fun _ c hc => ?_⟩
  · have hc : c < 1 := hc
    have e1 : a = 0 := by omega
    have e2 : c = 0 := by omega
    rw [e1, e2]; exact Nat.le_refl _
  · have hc : c < 1 := hc
    have e2 : c = 0 := by omega
    rw [e2]; exact Nat.le_succ _
