/-! what was, kept for undo -/
def pushP (P : List Sta) (S : Sta) : List Sta := (if P.length = 40 then P.drop 1 else P) ++ [S]
theorem pushP_len {P : List Sta} {S : Sta} (h : P.length ≤ 40) : (pushP P S).length = if P.length = 40 then 40 else P.length + 1 := by
  unfold pushP
  rw [List.length_append]
  have l1 : [S].length = 1 := rfl
  by_cases e : P.length = 40
  · rw [if_pos e, if_pos e, List.length_drop]; omega
  · rw [if_neg e, if_neg e]; omega
theorem pushP_mem {P : List Sta} {S T : Sta} (h : T ∈ pushP P S) : T ∈ P ∨ T = S := by
  unfold pushP at h
  rcases List.mem_append.mp h with h | h
  · left
    by_cases e : P.length = 40
    · rw [if_pos e] at h; exact List.mem_of_mem_drop h
    · rw [if_neg e] at h; exact h
  · exact Or.inr (List.mem_singleton.mp h)
/-- the class has S prepared behind P -/
def CPrep (σ : rS) (P : List Sta) (S : Sta) : Prop := ∃ nx, nx < 41 ∧ σ 5 0 1 = nI nx ∧ σ 5 0 2 = nI P.length ∧ (¬ σ 29 0 nx = 0 ∧ CS σ (4 + nx) S) ∧ ∀ i, i < P.length → ¬ σ 29 0 ((nx + 41 - P.length + i) % 41) = 0 ∧ CS σ (4 + (nx + 41 - P.length + i) % 41) (P.getD i emS)
theorem c_keep {σ : rS} {P : List Sta} {S : Sta} (h : CPrep σ P S) (h40 : P.length ≤ 40) : hit (fX5_keepPrepared σ) (fun _ s => CPast s (pushP P S)) := by
  obtain ⟨nx, n1, n2, n3, n4, n5⟩ := h
  unfold fX5_keepPrepared
  have e1 : (nI nx + 1) - (nI nx + 1) / 41 * 41 = nI ((nx + 1) % 41) := by
    rw [pn_add1]
    exact pn_mod (m := 41) (by omega) (by omega)
  rw [n2, e1, st_eq]
  have e2 : wr σ 5 0 1 (nI ((nx + 1) % 41)) 5 0 2 = nI P.length := by rw [wr_i (by decide)]; exact n3
  have e40 : (40 < nI (P.length + 1)) = (40 < P.length + 1) := pn_lt (a := 40) (by omega) (by omega)
  have hl := pushP_len (S := S) h40
  have e3 : (if 40 < nI P.length + 1 then 40 else nI P.length + 1) = nI (pushP P S).length := by
    rw [pn_add1, hl]
    by_cases e : P.length = 40
    · rw [if_pos (by rw [e40]; omega), if_pos e]; rfl
    · rw [if_neg (by rw [e40]; omega), if_neg e]
  rw [e2, e3, st_eq]
  have mv : ∀ k S, CS σ k S → CS (wr (wr σ 5 0 1 (nI ((nx + 1) % 41))) 5 0 2 (nI (pushP P S).length)) k S := fun k S h => (h.wr (by decide)).wr (by decide)
  have mv : ∀ (v : Int32) k T, CS σ k T → CS (wr (wr σ 5 0 1 (nI ((nx + 1) % 41))) 5 0 2 v) k T := fun v k S h => (h.wr (by decide)).wr (by decide)
  refine hit_some ⟨(nx + 1) % 41, Nat.mod_lt _ (by omega), ?_, wr_same _ _ _ _ _, fun i hi => ?_⟩
  · rw [wr_i (by decide), wr_same]
  · rw [wr_c (c' := 29) (by decide), wr_c (c' := 29) (by decide)]
    rw [hl] at hi ⊢
    unfold pushP
    by_cases e : P.length = 40
    · rw [if_pos e] at hi ⊢
      rw [if_pos e]
      have ld : (P.drop 1).length = 39 := by rw [List.length_drop]; omega
      by_cases ei : i = 39
      · have ej : ((nx + 1) % 41 + 41 - 40 + i) % 41 = nx := by omega
        have eg : (P.drop 1 ++ [S]).getD i emS = S := by rw [ei, ← ld]; exact getD_app_eq
        rw [ej, eg]
        exact ⟨n4.1, mv _ _ _ n4.2⟩
      · have ej : ((nx + 1) % 41 + 41 - 40 + i) % 41 = (nx + 41 - P.length + (1 + i)) % 41 := by omega
        rw [ej, getD_app_lt (by omega), getD_drop]
        have := n5 (1 + i) (by omega)
        exact ⟨this.1, mv _ _ _ this.2⟩
    · rw [if_neg e] at hi ⊢
      rw [if_neg e]
      by_cases ei : i = P.length
      · have ej : ((nx + 1) % 41 + 41 - (P.length + 1) + i) % 41 = nx := by omega
        have eg : (P ++ [S]).getD i emS = S := by rw [ei]; exact getD_app_eq
        rw [ej, eg]
        exact ⟨n4.1, mv _ _ _ n4.2⟩
      · have ej : ((nx + 1) % 41 + 41 - (P.length + 1) + i) % 41 = (nx + 41 - P.length + i) % 41 := by omega
        rw [ej, getD_app_lt (by omega)]
        have := n5 i (by omega)
        exact ⟨this.1, mv _ _ _ this.2⟩
theorem newS_fk {σ : rS} {k : Nat} : ∀ c q, ¬ SK k c q → newS σ k c q = σ c q := fun c q h => newS_none (by
  unfold sIx
  by_cases e7 : c = 7
  · rw [if_pos e7]
    exact if_neg (fun e => h ⟨fun _ => e, fun z => by omega⟩)
  · rw [if_neg e7]
    by_cases e4 : 45 ≤ c ∧ c < 56
    · rw [if_pos e4]
      exact if_neg (fun e => h ⟨fun _ => e, fun z => by omega⟩)
    · rw [if_neg e4]
      by_cases e5 : c = 4
      · rw [if_pos e5]
        exact if_neg (fun e => h ⟨fun z => by omega, fun _ => e⟩)
      · rw [if_neg e5]
        by_cases e6 : c = 28
        · rw [if_pos e6]
          exact if_neg (fun e => h ⟨fun z => by omega, fun _ => e⟩)
        · rw [if_neg e6])
