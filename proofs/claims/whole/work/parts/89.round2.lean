/-! round, the model's side -/
/-- the least so far, over one more -/
def uBst (S : GS) (A : Hp) (g i : Nat) (a : Int32) : Int32 := if (bk A g (S.1.getD i 0)).isSome = true then (if a = -1 then nI (S.2.1 (S.1.getD i 0)) + 1 else if nI (S.2.1 (S.1.getD i 0)) + 1 < a then nI (S.2.1 (S.1.getD i 0)) + 1 else a) else a
theorem acc_done {S : GS} {A : Hp} {g d : Nat} (hd : d < 100) : ∀ (m i : Nat), (∀ k, i ≤ k → k < i + m → d ≤ S.2.1 (S.1.getD k 0) ∧ S.2.1 (S.1.getD k 0) < 100) → acc (uBst S A g) m i (nI (d + 1)) = nI (d + 1) := by
  intro m
  induction m with
  | zero => intro i _; rfl
  | succ m ih =>
    intro i h
    have h1 := h i (by omega) (by omega)
    have e : uBst S A g i (nI (d + 1)) = nI (d + 1) := by
      unfold uBst
      rw [pn_add1, if_neg (show ¬ nI (d + 1) = -1 by rw [pn_m1 (by omega)]; exact id), if_neg (show ¬ nI (S.2.1 (S.1.getD i 0) + 1) < nI (d + 1) by rw [pn_lt (by omega) (by omega)]; omega)]
      split <;> rfl
    show acc (uBst S A g) m (i + 1) (uBst S A g i (nI (d + 1))) = _
    rw [e]
    exact ih (i + 1) (fun k h1 h2 => h k (by omega) (by omega))
theorem acc_bst {S : GS} {A : Hp} {g n : Nat} (hS : SO S) (hd : ∀ j ∈ S.1, S.2.1 j < 100) (hn : n = S.1.length) : ∀ (m i : Nat), i + m = n → acc (uBst S A g) m i (-1) = match fst1 (fun i => (bk A g (S.1.getD i 0)).isSome) m i with
    | none => -1
    | some i => nI (S.2.1 (S.1.getD i 0)) + 1 := by
  intro m
  induction m with
  | zero => intro i _; rfl
  | succ m ih =>
    intro i hi
    unfold fst1
    show acc (uBst S A g) m (i + 1) (uBst S A g i (-1)) = _
    by_cases hb : (bk A g (S.1.getD i 0)).isSome = true
    · rw [if_pos hb]
      have e : uBst S A g i (-1) = nI (S.2.1 (S.1.getD i 0) + 1) := by
        unfold uBst
        rw [if_pos hb, if_pos rfl, pn_add1]
      have h1 := hd _ (getD_mem (L := S.1) (i := i) (by omega))
      rw [e]
      dsimp only
      rw [pn_add1]
      exact acc_done h1 m (i + 1) (fun k h2 h3 => ⟨hS i k (by omega) (by omega), hd _ (getD_mem (by omega))⟩)
    · have hb' : (bk A g (S.1.getD i 0)).isSome = false := by simpa using hb
      have e : uBst S A g i (-1) = -1 := by
        unfold uBst
        rw [if_neg hb]
      rw [if_neg hb, e]
      exact ih (i + 1) (by omega)
/-- one slot's fields, for the least -/
def uB1 (A : Hp) (g q d f : Nat) (a : Int32) : Int32 := if f < fst0 A q then a else if hlk A q f = some g then (if a = -1 then nI d + 1 else if nI d + 1 < a then nI d + 1 else a) else a
theorem uB1_fix {A : Hp} {g q d : Nat} {a : Int32} (ha : ¬ a = -1) (hl : ¬ nI d + 1 < a) : ∀ (m f : Nat), acc (uB1 A g q d) m f a = a := by
  intro m
  induction m with
  | zero => intro f; rfl
  | succ m ih =>
    intro f
    have e : uB1 A g q d f a = a := by
      unfold uB1
      rw [if_neg ha, if_neg hl]
      split
      · rfl
      · split <;> rfl
    show acc (uB1 A g q d) m (f + 1) (uB1 A g q d f a) = a
    rw [e]
    exact ih (f + 1)
theorem uB1_acc {A : Hp} {g q d : Nat} (hd : d < 100) : ∀ (m f : Nat) (a : Int32), fst0 A q ≤ f → acc (uB1 A g q d) m f a = if (fst1 (fun f => decide (hlk A q f = some g)) m f).isSome = true then (if a = -1 then nI d + 1 else if nI d + 1 < a then nI d + 1 else a) else a := by
  intro m
  induction m with
  | zero => intro f a _; rfl
  | succ m ih =>
    intro f a hf
    show acc (uB1 A g q d) m (f + 1) (uB1 A g q d f a) = _
    unfold fst1
    by_cases hb : hlk A q f = some g
    · have e : uB1 A g q d f a = if a = -1 then nI d + 1 else if nI d + 1 < a then nI d + 1 else a := by
        unfold uB1
        rw [if_neg (by omega), if_pos hb]
      rw [if_pos (decide_eq_true hb), e, if_pos (show (some f).isSome = true from rfl)]
      have k1 : ¬ nI d + 1 = -1 := by rw [pn_add1, pn_m1 (by omega)]; exact id
      have k2 : ¬ nI d + 1 < nI d + 1 := Int32.lt_irrefl
      by_cases h1 : a = -1
      · rw [if_pos h1]; exact uB1_fix k1 k2 m (f + 1)
      · rw [if_neg h1]
        by_cases h2 : nI d + 1 < a
        · rw [if_pos h2]; exact uB1_fix k1 k2 m (f + 1)
        · rw [if_neg h2]; exact uB1_fix h1 h2 m (f + 1)
    · have e : uB1 A g q d f a = a := by
        unfold uB1
        rw [if_neg (by omega), if_neg hb]
      rw [if_neg (by rw [decide_eq_false hb]; decide), e]
      exact ih (f + 1) a (by omega)
theorem uB1_all {A : Hp} {g q d : Nat} (hd : d < 100) (hf : fst0 A q ≤ hsz A q) (a : Int32) : acc (uB1 A g q d) (hsz A q) 0 a = if (bk A g q).isSome = true then (if a = -1 then nI d + 1 else if nI d + 1 < a then nI d + 1 else a) else a := by
  have h1 : fst0 A q = 0 ∨ fst0 A q = 1 := by unfold fst0; split <;> omega
  unfold bk
  rcases h1 with h1 | h1
  · rw [h1, Nat.sub_zero]; exact uB1_acc hd _ _ a (by omega)
  · obtain ⟨m, hm⟩ : ∃ m, hsz A q = m + 1 := ⟨hsz A q - 1, by omega⟩
    have e : uB1 A g q d 0 a = a := by
      unfold uB1
      rw [if_pos (by omega)]
    rw [h1, hm, show m + 1 - 1 = m by omega]
    show acc (uB1 A g q d) m 1 (uB1 A g q d 0 a) = _
    rw [e]
    exact uB1_acc hd m 1 a (by omega)
