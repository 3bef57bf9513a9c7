/-! the texts' numbers -/
def dg (T : List Nat) (q : Nat) : Bool := decide (48 ≤ btC T q ∧ btC T q ≤ 57)
def nmN (T : List Nat) : Nat → Nat → Nat → Nat × Nat
  | 0, q, v => (q, v)
  | n + 1, q, v => if dg T q = true then nmN T n (q + 1) (v * 10 + btC T q - 48) else (q, v)
theorem dg_lt {T : List Nat} {q : Nat} (h : dg T q = true) : q < T.length := by
  have := of_decide_eq_true h
  unfold btC at this
  by_cases c : q < T.length
  · exact c
  · rw [if_neg c] at this; omega
theorem btC_le {T : List Nat} (h : ∀ x ∈ T, 1 ≤ x ∧ x ≤ 255) (q : Nat) : btC T q ≤ 255 := by
  unfold btC
  by_cases c : q < T.length
  · rw [if_pos c]; exact (getD_255 h c).2
  · rw [if_neg c]; omega
theorem c_isDigit {σ : rS} {T : List Nat} {q : Nat} (h : ∀ x ∈ T, 1 ≤ x ∧ x ≤ 255) : fX6_isDigit (nI (btC T q)) σ = some (bI (dg T q), σ) := by
  have := btC_le h q
  have a : (nI (btC T q) < 48) = (btC T q < 48) := pn_lt (b := 48) (by omega) (by omega)
  have b : ((57 : Int32) < nI (btC T q)) = (57 < btC T q) := pn_lt (a := 57) (by omega) (by omega)
  unfold fX6_isDigit dg
  simp only [a, b]
  by_cases c1 : btC T q < 48
  · rw [if_pos c1, decide_eq_false (by omega)]; rfl
  · rw [if_neg c1]
    by_cases c2 : 57 < btC T q
    · rw [if_pos c2, decide_eq_false (by omega)]; rfl
    · rw [if_neg c2, decide_eq_true (by omega)]; rfl
theorem c_numL {σ : rS} {T : List Nat} {q : Nat} {x1 x2 : Int32} (h : TpC σ T) (hq : q ≤ T.length) (e : σ 6 0 4 = nI q) : hit (lp (fun (x : (Int32 × Int32 × Int32)) σ => fX6_readNumber_L11 x1 x2 x.1 x.2.1 x.2.2 σ) fu (0, 0, nI (btC T q)) σ) (fun r s => r = (nI (nmN T 3 q 0).2, nI ((nmN T 3 q 0).1 - q), nI (btC T (nmN T 3 q 0).1)) ∧ s 6 0 4 = nI (nmN T 3 q 0).1 ∧ Of6 σ s ∧ q ≤ (nmN T 3 q 0).1 ∧ (nmN T 3 q 0).1 ≤ q + 3 ∧ (nmN T 3 q 0).1 ≤ T.length ∧ (nmN T 3 q 0).2 < 1000) := by
  have h3 := h.2.2.1
  refine lp_go (I := fun m x s => ∃ k v, k ≤ 3 ∧ m = 3 - k ∧ q + k ≤ T.length ∧ x = (nI v, nI k, nI (btC T (q + k))) ∧ v < 10 ^ k ∧ TpC s T ∧ s 6 0 4 = nI (q + k) ∧ Of6 σ s ∧ nmN T (3 - k) (q + k) v = nmN T 3 q 0) ?_ fu 3 _ σ (fu_lt (by omega)) ⟨0, 0, by omega, by omega, hq, rfl, by decide, h, e, ⟨fun _ _ => rfl, fun _ _ => rfl⟩, rfl⟩
  rintro m x s ⟨k, v, hk, rfl, hqk, rfl, hv, hs, es, ho, hF⟩
  have hv3 : 10 ^ k ≤ 1000 := by
    rcases (by omega : k = 0 ∨ k = 1 ∨ k = 2 ∨ k = 3) with rfl | rfl | rfl | rfl <;> decide
  have fin : nmN T 3 q 0 = (q + k, v) → hit (some ((.inr (nI v, nI k, nI (btC T (q + k))) : (Int32 × Int32 × Int32) ⊕ (Int32 × Int32 × Int32)), s)) (fun y s => match y with
      | .inl y => ∃ m, m < 3 - k ∧ ∃ k v, k ≤ 3 ∧ m = 3 - k ∧ q + k ≤ T.length ∧ y = (nI v, nI k, nI (btC T (q + k))) ∧ v < 10 ^ k ∧ TpC s T ∧ s 6 0 4 = nI (q + k) ∧ Of6 σ s ∧ nmN T (3 - k) (q + k) v = nmN T 3 q 0
      | .inr r => r = (nI (nmN T 3 q 0).2, nI ((nmN T 3 q 0).1 - q), nI (btC T (nmN T 3 q 0).1)) ∧ s 6 0 4 = nI (nmN T 3 q 0).1 ∧ Of6 σ s ∧ q ≤ (nmN T 3 q 0).1 ∧ (nmN T 3 q 0).1 ≤ q + 3 ∧ (nmN T 3 q 0).1 ≤ T.length ∧ (nmN T 3 q 0).2 < 1000) := fun hE => by
    rw [hE]
    refine hit_some ⟨?_, es, ho, ?_, ?_, hqk, ?_⟩
    · show _ = (nI v, nI (q + k - q), nI (btC T (q + k)))
      rw [Nat.add_sub_cancel_left]
    · show q ≤ q + k; omega
    · show q + k ≤ q + 3; omega
    · show v < 1000; omega
  unfold fX6_readNumber_L11
  dsimp only
  have a3 : (nI k < 3) = (k < 3) := pn_lt (b := 3) (by omega) (by omega)
  simp only [a3]
  by_cases hlt : k < 3
  · rw [if_pos hlt, c_isDigit h.2.2.2, bd_some]
    have hF' : nmN T (3 - k) (q + k) v = if dg T (q + k) = true then nmN T (3 - (k + 1)) (q + k + 1) (v * 10 + btC T (q + k) - 48) else (q + k, v) := by
      rw [show 3 - k = 3 - (k + 1) + 1 by omega]; rfl
    rw [hF'] at hF
    by_cases d : dg T (q + k) = true
    · have hd := of_decide_eq_true d
      have dl := dg_lt d
      rw [if_pos d] at hF
      have ev : nI v * 10 + nI (btC T (q + k)) - 48 = nI (v * 10 + btC T (q + k) - 48) := by
        rw [show nI v * 10 = nI (v * 10) from (Int32.ofNat_mul v 10).symm, nI_add, show (48 : Int32) = nI 48 from rfl, pn_sub (by omega)]
      rw [d, if_neg (show ¬ bI true = 0 by decide), ev, rd_eq, st_eq, es, pn_add1, wr_same, c_byte (hs.of6 Of6_wr) (by omega), bd_some, pn_add1]
      refine hit_some ⟨3 - (k + 1), by omega, k + 1, _, by omega, rfl, by omega, rfl, ?_, hs.of6 Of6_wr, wr_same _ _ _ _ _, ho.trans Of6_wr, hF⟩
      have : 10 ^ (k + 1) = 10 ^ k * 10 := Nat.pow_succ 10 k
      omega
    · rw [if_neg d] at hF
      rw [eq_false_of_ne_true d, if_pos (show bI false = 0 from rfl)]
      exact fin hF.symm
  · rw [if_neg hlt]
    have e3 : 3 - k = 0 := by omega
    rw [e3] at hF
    exact fin hF.symm
