/-! what was, kept for undo -/
def pushP (P : List Sta) (S : Sta) : List Sta := (if P.length = 40 then P.drop 1 else P) ++ [S]
theorem pushP_len {P : List Sta} {S : Sta} (h : P.length ≤ 40) : (pushP P S).length = if P.length = 40 then 40 else P.length + 1 := by
  unfold pushP
  rw [List.length_append]
  have l1 : [S].length = 1 := rfl
  by_cases e : P.length = 40
  · rw [if_pos e, if_pos e, List.length_drop]; omega
  · rw [if_neg e, if_neg e]; omega
theorem pushP_mem {P : List Sta} {S T : Sta} (h : T ∈ pushP P S) : T ∈ P ∨ T = S := by
  unfold pushP at h
  rcases List.mem_append.mp h with h | h
  · left
    by_cases e : P.length = 40
    · rw [if_pos e] at h; exact List.mem_of_mem_drop h
    · rw [if_neg e] at h; exact h
  · exact Or.inr (List.mem_singleton.mp h)
/-- the class has S prepared behind P -/
def CPrep (σ : rS) (P : List Sta) (S : Sta) : Prop := ∃ nx, nx < 41 ∧ σ 5 0 1 = nI nx ∧ σ 5 0 2 = nI P.length ∧ (¬ σ 29 0 nx = 0 ∧ CS σ (4 + nx) S) ∧ ∀ i, i < P.length → ¬ σ 29 0 ((nx + 41 - P.length + i) % 41) = 0 ∧ CS σ (4 + (nx + 41 - P.length + i) % 41) (P.getD i emS)
theorem c_keep {σ : rS} {P : List Sta} {S : Sta} (h : CPrep σ P S) (h40 : P.length ≤ 40) : hit (fX5_keepPrepared σ) (fun _ s => CPast s (pushP P S)) := by
  obtain ⟨nx, n1, n2, n3, n4, n5⟩ := h
  unfold fX5_keepPrepared
  have e1 : (nI nx + 1) - (nI nx + 1) / 41 * 41 = nI ((nx + 1) % 41) := by
    rw [pn_add1]
    exact pn_mod (m := 41) (by omega) (by omega)
  rw [n2, e1, st_eq]
  have e2 : wr σ 5 0 1 (nI ((nx + 1) % 41)) 5 0 2 = nI P.length := by rw [wr_i (by decide)]; exact n3
  have e40 : (40 < nI (P.length + 1)) = (40 < P.length + 1) := pn_lt (a := 40) (by omega) (by omega)
  have hl := pushP_len (S := S) h40
  have e3 : (if 40 < nI P.length + 1 then 40 else nI P.length + 1) = nI (pushP P S).length := by
    rw [pn_add1, hl]
    by_cases e : P.length = 40
    · rw [if_pos (by rw [e40]; omega), if_pos e]; rfl
    · rw [if_neg (by rw [e40]; omega), if_neg e]
  rw [e2, e3, st_eq]
  have mv : ∀ k S, CS σ k S → CS (wr (wr σ 5 0 1 (nI ((nx + 1) % 41))) 5 0 2 (nI (pushP P S).length)) k S := fun k S h => (h.wr (by decide)).wr (by decide)
  have mv : ∀ (v : Int32) k T, CS σ k T → CS (wr (wr σ 5 0 1 (nI ((nx + 1) % 41))) 5 0 2 v) k T := fun v k S h => (h.wr (by decide)).wr (by decide)
  refine hit_some ⟨(nx + 1) % 41, Nat.mod_lt _ (by omega), ?_, wr_same _ _ _ _ _, fun i hi => ?_⟩
  · rw [wr_i (by decide), wr_same]
  · rw [wr_c (c' := 29) (by decide), wr_c (c' := 29) (by decide)]
    rw [hl] at hi ⊢
    unfold pushP
    by_cases e : P.length = 40
    · rw [if_pos e] at hi ⊢
      rw [if_pos e]
      have ld : (P.drop 1).length = 39 := by rw [List.length_drop]; omega
      by_cases ei : i = 39
      · have ej : ((nx + 1) % 41 + 41 - 40 + i) % 41 = nx := by omega
        have eg : (P.drop 1 ++ [S]).getD i emS = S := by rw [ei, ← ld]; exact getD_app_eq
        rw [ej, eg]
        exact ⟨n4.1, mv _ _ _ n4.2⟩
      · have ej : ((nx + 1) % 41 + 41 - 40 + i) % 41 = (nx + 41 - P.length + (1 + i)) % 41 := by omega
        rw [ej, getD_app_lt (by omega), getD_drop]
        have := n5 (1 + i) (by omega)
        exact ⟨this.1, mv _ _ _ this.2⟩
    · rw [if_neg e] at hi ⊢
      rw [if_neg e]
      by_cases ei : i = P.length
      · have ej : ((nx + 1) % 41 + 41 - (P.length + 1) + i) % 41 = nx := by omega
        have eg : (P ++ [S]).getD i emS = S := by rw [ei]; exact getD_app_eq
        rw [ej, eg]
        exact ⟨n4.1, mv _ _ _ n4.2⟩
      · have ej : ((nx + 1) % 41 + 41 - (P.length + 1) + i) % 41 = (nx + 41 - P.length + i) % 41 := by omega
        rw [ej, getD_app_lt (by omega)]
        have := n5 i (by omega)
        exact ⟨this.1, mv _ _ _ this.2⟩
theorem newS_fk {σ : rS} {k : Nat} : ∀ c q, ¬ SK k c q → newS σ k c q = σ c q := fun c q h => newS_none (by
  unfold sIx
  by_cases e7 : c = 7
  · rw [if_pos e7]
    exact if_neg (fun e => h ⟨fun _ => e, fun z => by omega⟩)
  · rw [if_neg e7]
    by_cases e4 : 45 ≤ c ∧ c < 56
    · rw [if_pos e4]
      exact if_neg (fun e => h ⟨fun _ => e, fun z => by omega⟩)
    · rw [if_neg e4]
      by_cases e5 : c = 4
      · rw [if_pos e5]
        exact if_neg (fun e => h ⟨fun z => by omega, fun _ => e⟩)
      · rw [if_neg e5]
        by_cases e6 : c = 28
        · rw [if_pos e6]
          exact if_neg (fun e => h ⟨fun z => by omega, fun _ => e⟩)
        · rw [if_neg e6])
theorem newS_c {σ : rS} {k c : Nat} (h : ¬ (c = 7 ∨ c = 4 ∨ c = 28 ∨ (45 ≤ c ∧ c < 56))) : newS σ k c = σ c := by
  funext q
  refine newS_none ?_
  unfold sIx
  rw [if_neg (by omega), if_neg (by omega), if_neg (by omega), if_neg (by omega)]
theorem CW.spare {σ s : rS} {W : Wd} {nx : Nat} (h : CW σ W) (h40 : (wP W).length ≤ 40) (hn : nx < 41) (h5 : σ 5 0 1 = nI nx) (hk : ∀ c q, ¬ SK (4 + nx) c q → s c q = σ c q) (hc : ∀ c, isC c → ¬ (c = 7 ∨ c = 4 ∨ c = 28 ∨ (45 ≤ c ∧ c < 56)) → ¬ c = 29 → s c = σ c) (h29 : ∀ i, ¬ i = nx → s 29 0 i = σ 29 0 i) : CW s W := by
  obtain ⟨h1, h2, ⟨n', n1, n2, n3, n4⟩, h4⟩ := h
  have en : n' = nx := by
    rw [n2, pn_eq (by omega) (by omega)] at h5
    exact h5
  subst en
  have e : ∀ c, c ∈ [5, 8, 9, 20, 21, 22, 24, 25] → s c = σ c := fun c hin => by
    simp only [List.mem_cons, List.not_mem_nil, or_false] at hin
    exact hc c (by unfold isC; omega) (by omega) (by omega)
  refine ⟨h1.fk hk (by omega), fun g => (h2 g).fk hk (by omega), ⟨n', n1, ?_, ?_, fun i hi => ?_⟩, ?_⟩
  · rw [e 5 (by decide)]; exact n2
  · rw [e 5 (by decide)]; exact n3
  · have hne : ¬ (n' + 41 - (wP W).length + i) % 41 = n' := by omega
    rw [h29 _ hne]
    exact ⟨(n4 i hi).1, (n4 i hi).2.fk hk (by omega)⟩
  · rw [e 20 (by decide), e 9 (by decide), e 8 (by decide), e 25 (by decide), e 21 (by decide), e 24 (by decide), e 22 (by decide)]
    exact h4
theorem c_prep {σ : rS} {W : Wd} {b : Nat} (hC : CW σ W) (hI : InvW b W) : hit (fX5_prepare 0 σ) (fun _ s => CW s W ∧ CPrep s (wP W) (wS W)) := by
  have h40 := hI.2.2.1.1
  obtain ⟨nx, n1, n2, n3, n4⟩ := hC.2.2.1
  have core : ∀ B : rS, CW B W → B 5 0 1 = nI nx → ¬ B 29 0 nx = 0 → hit (bd (fX7_copyFrom (4 + nx) 0 B) (fun _ σ2 => some ((0 : Int32), σ2))) (fun _ s => CW s W ∧ CPrep s (wP W) (wS W)) := fun B hB hB5 hB29 => by
    refine bd_hit (hit_mono (hit_fk (fkX7_copyFrom (4 + nx) 0 B) (hit_fr (frX7_copyFrom (4 + nx) 0 B) (c_copy hI.ok (by omega) hB.S))) ?_)
    rintro r s ⟨hk, hf, hS⟩
    have hf' : ∀ c, ¬ (c = 7 ∨ c = 4 ∨ c = 28 ∨ (45 ≤ c ∧ c < 56)) → s c = B c := fun c hcc => hf c (by simp only [List.mem_cons, List.not_mem_nil, or_false]; omega)
    have hCW : CW s W := hB.spare h40 n1 hB5 hk (fun c _ hcc _ => hf' c hcc) (fun i _ => by rw [hf' 29 (by omega)])
    refine hit_some ⟨hCW, ?_⟩
    obtain ⟨n', m1, m2, m3, m4⟩ := hCW.2.2.1
    have en : n' = nx := by
      rw [hf' 5 (by omega), hB5, pn_eq (by omega) (by omega)] at m2
      exact m2.symm
    subst en
    exact ⟨n', m1, m2, m3, ⟨by rw [hf' 29 (by omega)]; exact hB29, hS⟩, m4⟩
  unfold fX5_prepare
  rw [n2]
  simp (disch := omega) only [pn_lt, pn_neg, pn_eq, pn_eq0, pn_eq1, pn_eq2, pn_m1, pn_m1', pn_m1lt, pn_ix, pn_bnd, pn_add1, pn_add3, pn_mul4, nI_add, bd_some, st_eq, rd_eq, if_true, if_false, ite_true, ite_false, reduceIte]
  by_cases h0 : σ 29 0 nx = 0
  · rw [if_pos h0]
    refine core _ (hC.spare h40 n1 n2 (fun c q hs => ?_) (fun c _ hcc h29 => ?_) (fun i hi => ?_)) ?_ ?_
    · by_cases e : c = 29
      · exact absurd ⟨fun z => by omega, fun z => by omega⟩ (e ▸ hs)
      · rw [wr_c e]; exact newS_fk c q hs
    · rw [wr_c h29]; exact newS_c hcc
    · rw [wr_i hi, newS_c (by omega)]
    · rw [wr_c (by decide), newS_c (by omega)]; exact n2
    · rw [wr_same]; exact one_ne
  · rw [if_neg h0]
    exact core σ hC n2 h0
