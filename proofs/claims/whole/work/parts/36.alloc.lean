/-! a State more in the world -/
def Ext (Ω Ω' : rO) : Prop := Ω'.1 = Ω.1 ∧ Ω'.2.1 = Ω.2.1 ∧ oB Ω' = oB Ω ∧ Ω'.2.2.2.2.2 = Ω.2.2.2.2.2 ∧ ∀ c k, oL Ω c k → oL Ω' c k ∧ oA Ω' c k = oA Ω c k
theorem Ext.rf (Ω : rO) : Ext Ω Ω := ⟨rfl, rfl, rfl, rfl, fun _ _ h => ⟨h, rfl⟩⟩
theorem Ext.tr {Ω Ω' Ω'' : rO} (h : Ext Ω Ω') (h' : Ext Ω' Ω'') : Ext Ω Ω'' := ⟨h'.1.trans h.1, h'.2.1.trans h.2.1, h'.2.2.1.trans h.2.2.1, h'.2.2.2.1.trans h.2.2.2.1, fun c k hL => ⟨(h'.2.2.2.2 c k (h.2.2.2.2 c k hL).1).1, ((h'.2.2.2.2 c k (h.2.2.2.2 c k hL).1).2).trans (h.2.2.2.2 c k hL).2⟩⟩
/-- which of State k's cells (c, k') is, in the order of oc7 -/
def sIx (k c k' : Nat) : Option Nat := if c = 7 then (if k' = k then some 0 else none) else if 45 ≤ c ∧ c < 56 then (if k' = k then some (c - 44) else none) else if c = 4 then (if 6 * k ≤ k' ∧ k' < 6 * k + 6 then some (12 + 2 * (k' - 6 * k)) else none) else if c = 28 then (if 6 * k ≤ k' ∧ k' < 6 * k + 6 then some (13 + 2 * (k' - 6 * k)) else none) else none
def addS (Ω : rO) (k : Nat) (a : Nat → Nat) : rO := (Ω.1, Ω.2.1, fun c k' => match sIx k c k' with
  | some i => a i
  | none => oA Ω c k', fun c k' => oL Ω c k' ∨ (sIx k c k').isSome = true, oB Ω, Ω.2.2.2.2.2)
def newS (σ : rS) (k : Nat) : rS := fun c k' => match sIx k c k' with
  | some _ => if c = 53 then fillR 8 (-1) (fun _ => 0) else fun _ => 0
  | none => σ c k'
theorem cE_congr {Ω Ω' : rO} {c k : Nat} {r : Nat → Int32} (hcc : c < 11 ∨ 20 ≤ c) (hc : Ω'.2.1 = Ω.2.1) (hk : ∀ q ∈ kids c k, oA Ω' q.1 q.2 = oA Ω q.1 q.2) (h24 : ∀ i, oA Ω' 24 i = oA Ω 24 i) (hr : c = 29 → ringF Ω' r = ringF Ω r) : cE Ω' c k r = cE Ω c k r := by
  by_cases h : c < 20
  · have h11 : c < 11 := by omega
    · rcases (by omega : c = 0 ∨ c = 1 ∨ c = 2 ∨ c = 3 ∨ c = 4 ∨ c = 5 ∨ c = 6 ∨ c = 7 ∨ c = 8 ∨ c = 9 ∨ c = 10) with rfl | rfl | rfl | rfl | rfl | rfl | rfl | rfl | rfl | rfl | rfl
      · rw [cE_0, cE_0]; simp only [kids, List.forall_mem_cons] at hk; simp only [rf, hk]
      · rw [cE_1, cE_1]; simp only [kids, List.forall_mem_cons] at hk; simp only [rf, hk]
      · rw [cE_2, cE_2]
      · rw [cE_3, cE_3]; simp only [kids, List.forall_mem_cons] at hk; simp only [rf, hk]
      · rw [cE_4, cE_4]; simp only [kids, List.forall_mem_cons] at hk; simp only [rf, hk]
      · rw [cE_5, cE_5]; simp only [kids, List.forall_mem_cons] at hk; simp only [rf, hk]
      · rw [cE_6, cE_6]; simp only [kids, List.forall_mem_cons] at hk; simp only [rf, hk]
      · rw [cE_7, cE_7]; simp only [kids, List.forall_mem_cons] at hk; simp only [rf, hk]
      · rw [cE_8, cE_8]; simp only [kids, List.forall_mem_cons] at hk; simp only [rf, hk]
      · rw [cE_9, cE_9]; simp only [kids, List.forall_mem_cons] at hk; simp only [rf, hk]
      · rw [cE_10, cE_10]; simp only [kids, List.forall_mem_cons] at hk; simp only [rf, hk]
  · unfold cE
    rw [if_neg h, if_neg h, hc]
    by_cases h23 : c = 23
    · rw [if_pos h23, if_pos h23]; simp only [h24]
    · rw [if_neg h23, if_neg h23]
      by_cases h29 : c = 29
      · rw [if_pos h29, if_pos h29, hr h29]
      · rw [if_neg h29, if_neg h29]

theorem sIx_7 (k : Nat) : sIx k 7 k = some 0 := by simp [sIx]
theorem sIx_a {k c : Nat} (h1 : 45 ≤ c) (h2 : c < 56) : sIx k c k = some (c - 44) := by
  unfold sIx
  rw [if_neg (by omega), if_pos ⟨h1, h2⟩, if_pos rfl]
theorem sIx_4 {k i : Nat} (hi : i < 6) : sIx k 4 (6 * k + i) = some (12 + 2 * i) := by
  unfold sIx
  rw [if_neg (by omega), if_neg (by omega), if_pos rfl, if_pos (by omega)]
  congr 1
  omega
theorem sIx_28 {k i : Nat} (hi : i < 6) : sIx k 28 (6 * k + i) = some (13 + 2 * i) := by
  unfold sIx
  rw [if_neg (by omega), if_neg (by omega), if_neg (by omega), if_pos rfl, if_pos (by omega)]
  congr 1
  omega
/-- a cell of State k, by its place -/
theorem sIx_cases {k c k' i : Nat} (h : sIx k c k' = some i) : (c = 7 ∧ k' = k ∧ i = 0) ∨ (∃ j, j < 11 ∧ c = 45 + j ∧ k' = k ∧ i = 1 + j) ∨ (∃ j, j < 6 ∧ c = 4 ∧ k' = 6 * k + j ∧ i = 12 + 2 * j) ∨ (∃ j, j < 6 ∧ c = 28 ∧ k' = 6 * k + j ∧ i = 13 + 2 * j) := by
  unfold sIx at h
  by_cases h7 : c = 7
  · rw [if_pos h7] at h
    by_cases hk : k' = k
    · rw [if_pos hk] at h
      exact Or.inl ⟨h7, hk, (Option.some.inj h).symm⟩
    · rw [if_neg hk] at h
      cases h
  · rw [if_neg h7] at h
    by_cases ha : 45 ≤ c ∧ c < 56
    · rw [if_pos ha] at h
      by_cases hk : k' = k
      · rw [if_pos hk] at h
        have := Option.some.inj h
        exact Or.inr (Or.inl ⟨c - 45, by omega, by omega, hk, by omega⟩)
      · rw [if_neg hk] at h
        cases h
    · rw [if_neg ha] at h
      by_cases h4 : c = 4
      · rw [if_pos h4] at h
        by_cases hk : 6 * k ≤ k' ∧ k' < 6 * k + 6
        · rw [if_pos hk] at h
          have := Option.some.inj h
          exact Or.inr (Or.inr (Or.inl ⟨k' - 6 * k, by omega, h4, by omega, by omega⟩))
        · rw [if_neg hk] at h
          cases h
      · rw [if_neg h4] at h
        by_cases h28 : c = 28
        · rw [if_pos h28] at h
          by_cases hk : 6 * k ≤ k' ∧ k' < 6 * k + 6
          · rw [if_pos hk] at h
            have := Option.some.inj h
            exact Or.inr (Or.inr (Or.inr ⟨k' - 6 * k, by omega, h28, by omega, by omega⟩))
          · rw [if_neg hk] at h
            cases h
        · rw [if_neg h28] at h
          cases h
theorem sIx_lt {k c k' i : Nat} (h : sIx k c k' = some i) : i < 24 := by
  rcases sIx_cases h with h | ⟨j, h⟩ | ⟨j, h⟩ | ⟨j, h⟩ <;> omega
theorem sIx_inj {k c k' c2 k2 i : Nat} (h : sIx k c k' = some i) (h' : sIx k c2 k2 = some i) : c = c2 ∧ k' = k2 := by
  rcases sIx_cases h with h | ⟨j, h⟩ | ⟨j, h⟩ | ⟨j, h⟩ <;> rcases sIx_cases h' with h' | ⟨j', h'⟩ | ⟨j', h'⟩ | ⟨j', h'⟩ <;> omega
theorem oA_some {Ω : rO} {k c k' i : Nat} {a : Nat → Nat} (h : sIx k c k' = some i) : oA (addS Ω k a) c k' = a i := by
  show (match sIx k c k' with
    | some i => a i
    | none => oA Ω c k') = a i
  rw [h]
theorem oA_none {Ω : rO} {k c k' : Nat} {a : Nat → Nat} (h : sIx k c k' = none) : oA (addS Ω k a) c k' = oA Ω c k' := by
  show (match sIx k c k' with
    | some i => a i
    | none => oA Ω c k') = _
  rw [h]
theorem newS_some {σ : rS} {k c k' i : Nat} (h : sIx k c k' = some i) : newS σ k c k' = if c = 53 then fillR 8 (-1) (fun _ => 0) else fun _ => 0 := by
  unfold newS
  rw [h]
theorem newS_none {σ : rS} {k c k' : Nat} (h : sIx k c k' = none) : newS σ k c k' = σ c k' := by
  unfold newS
  rw [h]
