set_option maxRecDepth 100000 in
set_option maxHeartbeats 4000000 in
theorem oc7_flat (Ω : rO) (a : Nat → Nat) : oc7 Ω a = [(a 0, .inr (7, [.int 0, .int 0, .ref (a 1), .ref (a 2), .ref (a 3), .ref (a 4), .ref (a 5), .ref (a 6), .ref (a 7), .ref (a 8), .ref (a 9), .ref (a 10), .ref (a 11), .ref (a 12), .ref (a 14), .ref (a 16), .ref (a 18), .ref (a 20), .ref (a 22)])), (a 1, .inl (Ω.2.1 0, 80, .inl (fun _ => 0))), (a 2, .inl (Ω.2.1 0, 80, .inl (fun _ => 0))), (a 3, .inl (Ω.2.1 0, 80, .inl (fun _ => 0))), (a 4, .inl (Ω.2.1 0, 80, .inl (fun _ => 0))), (a 5, .inl (Ω.2.1 0, 80, .inl (fun _ => 0))), (a 6, .inl (Ω.2.1 0, 80, .inl (fun _ => 0))), (a 7, .inl (Ω.2.1 0, 80, .inl (fun _ => 0))), (a 8, .inl (Ω.2.1 0, 320, .inl (fun _ => 0))), (a 9, .inl (Ω.2.1 0, 8, .inl (fillR 8 (-1) (fun _ => 0)))), (a 10, .inl (Ω.2.1 0, 3, .inl (fun _ => 0))), (a 11, .inl (Ω.2.1 0, 8, .inl (fun _ => 0))), (a 12, .inr (4, [.ref (a 13), .int 0])), (a 13, .inl (Ω.2.1 0, 80, .inl (fun _ => 0))), (a 14, .inr (4, [.ref (a 15), .int 0])), (a 15, .inl (Ω.2.1 0, 40, .inl (fun _ => 0))), (a 16, .inr (4, [.ref (a 17), .int 0])), (a 17, .inl (Ω.2.1 0, 80, .inl (fun _ => 0))), (a 18, .inr (4, [.ref (a 19), .int 0])), (a 19, .inl (Ω.2.1 0, 60, .inl (fun _ => 0))), (a 20, .inr (4, [.ref (a 21), .int 0])), (a 21, .inl (Ω.2.1 0, 60, .inl (fun _ => 0))), (a 22, .inr (4, [.ref (a 23), .int 0])), (a 23, .inl (Ω.2.1 0, 60, .inl (fun _ => 0)))] := rfl
def OKc (Ω : rO) : Prop := ∀ c k, oL Ω c k → (c < 11 ∨ 20 ≤ c) ∧ (c = 29 → k = 0)
def RLw (Ω : rO) (σ : rS) : Prop := ∀ i : Nat, ¬ σ 29 0 i = 0 → oL Ω 7 (4 + i)
theorem RLw.v {Ω : rO} {σ : rS} (h : RLw Ω σ) : RLv Ω σ := fun i _ hi => h i hi
theorem lnLen_at (k : Nat) {j : Nat} (hj : j < 6) : lnLen (6 * k + j) = if j = 0 then 80 else if j = 1 then 40 else if j = 2 then 80 else 60 := by
  unfold lnLen
  have : (6 * k + j) % 6 = j := by omega
  rw [this]
set_option maxRecDepth 100000 in
set_option maxHeartbeats 4000000 in
theorem hp_addS {Ω : rO} {σ : rS} {H H' : Heap} {k : Nat} {a : Nat → Nat} (hW : WF Ω) (hOK : OKc Ω) (hR : RLw Ω σ) (hP : HP Ω σ H) (hnl : ∀ c k', oL Ω c k' → sIx k c k' = none) (hkeep : ∀ c k', oL Ω c k' → H'[oA Ω c k']? = H[oA Ω c k']?) (hnew : va_P Ω.1 vwCl (oc7 Ω a) H') : HP (addS Ω k a) (newS σ k) H' := by
  rw [oc7_flat] at hnew
  intro c k' hL
  by_cases hold : oL Ω c k'
  · have hn := hnl c k' hold
    rw [oA_none hn, newS_none hn]
    have e : cE (addS Ω k a) c k' (σ c k') = cE Ω c k' (σ c k') := by
      refine cE_congr (hOK c k' hold).1 rfl (fun q hq => oA_none (hnl _ _ (hW.2.2 c k' hold q hq))) (fun i => oA_none (by simp [sIx])) (fun e => ?_)
      subst e
      have hk0 := (hOK 29 k' hold).2 rfl
      subst hk0
      funext i
      by_cases hi : σ 29 0 i = 0
      · rw [ringF_0 hi, ringF_0 hi]
      · rw [ringF_1 hi, ringF_1 hi, oA_none (hnl _ _ (hR i hi))]
    rw [e]
    exact (hP c k' hold).kept (hkeep c k' hold)
  · have hs : (sIx k c k').isSome = true := by
      rcases hL with h | h
      · exact absurd h hold
      · exact h
    obtain ⟨i, hi⟩ := Option.isSome_iff_exists.mp hs
    have ha : ∀ j, j < 11 → oA (addS Ω k a) (45 + j) k = a (1 + j) := fun j hj => by
      rw [oA_some (sIx_a (by omega) (by omega))]
      congr 1
      omega
    have h4 : ∀ j, j < 6 → oA (addS Ω k a) 4 (6 * k + j) = a (12 + 2 * j) := fun j hj => oA_some (sIx_4 hj)
    have h28 : ∀ j, j < 6 → oA (addS Ω k a) 28 (6 * k + j) = a (13 + 2 * j) := fun j hj => oA_some (sIx_28 hj)
    rw [oA_some hi, newS_some hi]
    rcases sIx_cases hi with ⟨rfl, rfl, rfl⟩ | ⟨j, hj, rfl, rfl, rfl⟩ | ⟨j, hj, rfl, rfl, rfl⟩ | ⟨j, hj, rfl, rfl, rfl⟩
    · rw [if_neg (by decide), cE_7]
      have e0 := ha 0 (by omega)
      have e1 := ha 1 (by omega)
      have e2 := ha 2 (by omega)
      have e3 := ha 3 (by omega)
      have e4 := ha 4 (by omega)
      have e5 := ha 5 (by omega)
      have e6 := ha 6 (by omega)
      have e7 := ha 7 (by omega)
      have e8 := ha 8 (by omega)
      have e9 := ha 9 (by omega)
      have e10 := ha 10 (by omega)
      have f0 := h4 0 (by omega)
      have f1 := h4 1 (by omega)
      have f2 := h4 2 (by omega)
      have f3 := h4 3 (by omega)
      have f4 := h4 4 (by omega)
      have f5 := h4 5 (by omega)
      simp only [Nat.reduceAdd, Nat.reduceMul] at e0 e1 e2 e3 e4 e5 e6 e7 e8 e9 e10 f0 f1 f2 f3 f4 f5
      simp only [rf, e0, e1, e2, e3, e4, e5, e6, e7, e8, e9, e10, f0, f1, f2, f3, f4, f5]
      exact hnew 0 _ rfl
    · rcases (by omega : j = 0 ∨ j = 1 ∨ j = 2 ∨ j = 3 ∨ j = 4 ∨ j = 5 ∨ j = 6 ∨ j = 7 ∨ j = 8 ∨ j = 9 ∨ j = 10) with rfl | rfl | rfl | rfl | rfl | rfl | rfl | rfl | rfl | rfl | rfl
      · show va_at Ω.1 vwCl (a 1, cE (addS Ω k' a) 45 k' (if (45 : Nat) = 53 then fillR 8 (-1) (fun _ => 0) else fun _ => 0)) H'
        rw [if_neg (by decide), cE_45]
        exact hnew 1 _ rfl
      · show va_at Ω.1 vwCl (a 2, cE (addS Ω k' a) 46 k' (if (46 : Nat) = 53 then fillR 8 (-1) (fun _ => 0) else fun _ => 0)) H'
        rw [if_neg (by decide), cE_46]
        exact hnew 2 _ rfl
      · show va_at Ω.1 vwCl (a 3, cE (addS Ω k' a) 47 k' (if (47 : Nat) = 53 then fillR 8 (-1) (fun _ => 0) else fun _ => 0)) H'
        rw [if_neg (by decide), cE_47]
        exact hnew 3 _ rfl
      · show va_at Ω.1 vwCl (a 4, cE (addS Ω k' a) 48 k' (if (48 : Nat) = 53 then fillR 8 (-1) (fun _ => 0) else fun _ => 0)) H'
        rw [if_neg (by decide), cE_48]
        exact hnew 4 _ rfl
      · show va_at Ω.1 vwCl (a 5, cE (addS Ω k' a) 49 k' (if (49 : Nat) = 53 then fillR 8 (-1) (fun _ => 0) else fun _ => 0)) H'
        rw [if_neg (by decide), cE_49]
        exact hnew 5 _ rfl
      · show va_at Ω.1 vwCl (a 6, cE (addS Ω k' a) 50 k' (if (50 : Nat) = 53 then fillR 8 (-1) (fun _ => 0) else fun _ => 0)) H'
        rw [if_neg (by decide), cE_50]
        exact hnew 6 _ rfl
      · show va_at Ω.1 vwCl (a 7, cE (addS Ω k' a) 51 k' (if (51 : Nat) = 53 then fillR 8 (-1) (fun _ => 0) else fun _ => 0)) H'
        rw [if_neg (by decide), cE_51]
        exact hnew 7 _ rfl
      · show va_at Ω.1 vwCl (a 8, cE (addS Ω k' a) 52 k' (if (52 : Nat) = 53 then fillR 8 (-1) (fun _ => 0) else fun _ => 0)) H'
        rw [if_neg (by decide), cE_52]
        exact hnew 8 _ rfl
      · show va_at Ω.1 vwCl (a 9, cE (addS Ω k' a) 53 k' (if (53 : Nat) = 53 then fillR 8 (-1) (fun _ => 0) else fun _ => 0)) H'
        rw [if_pos rfl, cE_53]
        exact hnew 9 _ rfl
      · show va_at Ω.1 vwCl (a 10, cE (addS Ω k' a) 54 k' (if (54 : Nat) = 53 then fillR 8 (-1) (fun _ => 0) else fun _ => 0)) H'
        rw [if_neg (by decide), cE_54]
        exact hnew 10 _ rfl
      · show va_at Ω.1 vwCl (a 11, cE (addS Ω k' a) 55 k' (if (55 : Nat) = 53 then fillR 8 (-1) (fun _ => 0) else fun _ => 0)) H'
        rw [if_neg (by decide), cE_55]
        exact hnew 11 _ rfl
    · rw [if_neg (by decide), cE_4]
      simp only [rf, h28 j hj]
      rcases (by omega : j = 0 ∨ j = 1 ∨ j = 2 ∨ j = 3 ∨ j = 4 ∨ j = 5) with rfl | rfl | rfl | rfl | rfl | rfl
      · show va_at Ω.1 vwCl (a 12, .inr (4, [.ref (a 13), .int 0])) H'
        exact hnew 12 _ rfl
      · show va_at Ω.1 vwCl (a 14, .inr (4, [.ref (a 15), .int 0])) H'
        exact hnew 14 _ rfl
      · show va_at Ω.1 vwCl (a 16, .inr (4, [.ref (a 17), .int 0])) H'
        exact hnew 16 _ rfl
      · show va_at Ω.1 vwCl (a 18, .inr (4, [.ref (a 19), .int 0])) H'
        exact hnew 18 _ rfl
      · show va_at Ω.1 vwCl (a 20, .inr (4, [.ref (a 21), .int 0])) H'
        exact hnew 20 _ rfl
      · show va_at Ω.1 vwCl (a 22, .inr (4, [.ref (a 23), .int 0])) H'
        exact hnew 22 _ rfl
    · rw [if_neg (by decide), cE_28, lnLen_at k hj]
      rcases (by omega : j = 0 ∨ j = 1 ∨ j = 2 ∨ j = 3 ∨ j = 4 ∨ j = 5) with rfl | rfl | rfl | rfl | rfl | rfl
      · show va_at Ω.1 vwCl (a 13, .inl (Ω.2.1 0, 80, .inl (fun _ => 0))) H'
        exact hnew 13 _ rfl
      · show va_at Ω.1 vwCl (a 15, .inl (Ω.2.1 0, 40, .inl (fun _ => 0))) H'
        exact hnew 15 _ rfl
      · show va_at Ω.1 vwCl (a 17, .inl (Ω.2.1 0, 80, .inl (fun _ => 0))) H'
        exact hnew 17 _ rfl
      · show va_at Ω.1 vwCl (a 19, .inl (Ω.2.1 0, 60, .inl (fun _ => 0))) H'
        exact hnew 19 _ rfl
      · show va_at Ω.1 vwCl (a 21, .inl (Ω.2.1 0, 60, .inl (fun _ => 0))) H'
        exact hnew 21 _ rfl
      · show va_at Ω.1 vwCl (a 23, .inl (Ω.2.1 0, 60, .inl (fun _ => 0))) H'
        exact hnew 23 _ rfl
set_option maxRecDepth 100000 in
set_option maxHeartbeats 4000000 in
theorem wf_addS {Ω : rO} {k : Nat} {a : Nat → Nat} (hW : WF Ω) (hinj : ∀ i j, i < 24 → j < 24 → a i = a j → i = j) (hap : ∀ i, i < 24 → ∀ c k', oL Ω c k' → oA Ω c k' ≠ a i) (hba : ∀ i, i < 24 → oB Ω ≤ a i) (hnl : ∀ c k', oL Ω c k' → sIx k c k' = none) : WF (addS Ω k a) := by
  have cs : ∀ c k', oL (addS Ω k a) c k' → (oL Ω c k' ∧ sIx k c k' = none) ∨ ∃ i, i < 24 ∧ sIx k c k' = some i := by
    intro c k' h
    rcases h with h | h
    · exact Or.inl ⟨h, hnl c k' h⟩
    · obtain ⟨i, hi⟩ := Option.isSome_iff_exists.mp h
      exact Or.inr ⟨i, sIx_lt hi, hi⟩
  refine ⟨fun c k1 c' k2 h1 h2 e => ?_, fun c k1 h1 => ?_, fun c k1 h1 q hq => ?_⟩
  · rcases cs c k1 h1 with ⟨g1, n1⟩ | ⟨i, hi, s1⟩ <;> rcases cs c' k2 h2 with ⟨g2, n2⟩ | ⟨j, hj, s2⟩
    · rw [oA_none n1, oA_none n2] at e
      exact hW.1 _ _ _ _ g1 g2 e
    · rw [oA_none n1, oA_some s2] at e
      exact absurd e (hap j hj _ _ g1)
    · rw [oA_some s1, oA_none n2] at e
      exact absurd e.symm (hap i hi _ _ g2)
    · rw [oA_some s1, oA_some s2] at e
      have := hinj i j hi hj e
      subst this
      exact sIx_inj s1 s2
  · rcases cs c k1 h1 with ⟨g1, n1⟩ | ⟨i, hi, s1⟩
    · rw [oA_none n1]
      exact hW.2.1 _ _ g1
    · rw [oA_some s1]
      exact hba i hi
  · rcases cs c k1 h1 with ⟨g1, n1⟩ | ⟨i, hi, s1⟩
    · exact Or.inl (hW.2.2 c k1 g1 q hq)
    · refine Or.inr ?_
      rcases sIx_cases s1 with ⟨rfl, rfl, rfl⟩ | ⟨j, hj, rfl, rfl, rfl⟩ | ⟨j, hj, rfl, rfl, rfl⟩ | ⟨j, hj, rfl, rfl, rfl⟩
      · simp only [kids, List.mem_cons, List.not_mem_nil, or_false] at hq
        rcases hq with rfl | rfl | rfl | rfl | rfl | rfl | rfl | rfl | rfl | rfl | rfl | rfl | rfl | rfl | rfl | rfl | rfl
        all_goals (dsimp only; first | (rw [sIx_a (by decide) (by decide)]; rfl) | (rw [sIx_4 (by decide)]; rfl))
      · rcases (by omega : j = 0 ∨ j = 1 ∨ j = 2 ∨ j = 3 ∨ j = 4 ∨ j = 5 ∨ j = 6 ∨ j = 7 ∨ j = 8 ∨ j = 9 ∨ j = 10) with rfl | rfl | rfl | rfl | rfl | rfl | rfl | rfl | rfl | rfl | rfl <;> cases hq
      · simp only [kids, List.mem_cons, List.not_mem_nil, or_false] at hq
        subst hq
        show (sIx k 28 (6 * k + j)).isSome = true
        rw [sIx_28 hj]
        rfl
      · cases hq
