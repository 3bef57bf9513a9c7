/-! the texts' numbers: the class's whole reading -/
/-- a number from place p on, within lo .. hi: its value and the place behind, or the fault's place -/
def numV (T : List Nat) (lo hi p : Nat) : Nat ⊕ (Nat × Nat) :=
  if (nmN T 3 (sk T p) 0).1 = sk T p then .inl (sk T p)
  else if dg T (nmN T 3 (sk T p) 0).1 = true then .inl (nmN T 3 (sk T p) 0).1
  else if (nmN T 3 (sk T p) 0).2 < lo ∨ hi < (nmN T 3 (sk T p) 0).2 then .inl ((nmN T 3 (sk T p) 0).1 - 1)
  else .inr ((nmN T 3 (sk T p) 0).2, (nmN T 3 (sk T p) 0).1)
/-- only the class's place and fault differ -/
def O65 (σ s : rS) : Prop := (∀ c, ¬ c = 6 → s c = σ c) ∧ ∀ i, ¬ i = 4 → ¬ i = 5 → s 6 0 i = σ 6 0 i
theorem c_number {σ : rS} {T : List Nat} {p lo hi : Nat} (h : TpC σ T) (hp : p ≤ T.length) (e : σ 6 0 4 = nI p) (hlo : lo ≤ 1000) (hhi : hi ≤ 1000) : hit (fX6_readNumber (nI lo) (nI hi) σ) (fun r s => (match numV T lo hi p with
    | .inl f => r = -1 ∧ s 6 0 5 = nI f
    | .inr (v, q) => r = nI v ∧ s 6 0 4 = nI q) ∧ O65 σ s) := by
  have h3 := h.2.2.1
  have hsk := sk_le hp
  unfold fX6_readNumber
  refine bd_hit (hit_mono (c_sign h hp e) ?_)
  rintro r1 s1 ⟨rfl, e1, o1⟩
  refine bd_hit (hit_mono (c_numL (x1 := nI lo) (x2 := nI hi) (h.of6 o1) hsk.2 e1) ?_)
  rintro r2 s2 ⟨rfl, e2, o2, l1, l2, l3, l4⟩
  have o := o1.trans o2
  have hO : ∀ v, O65 σ (wr s2 6 0 5 v) := fun v => ⟨fun c hc => by rw [wr_c hc]; exact o.1 c hc, fun i h4 h5 => by rw [wr_i h5]; exact o.2 i h4⟩
  unfold numV
  generalize nmN T 3 (sk T p) 0 = N at e2 l1 l2 l3 l4 ⊢
  obtain ⟨q, v⟩ := N
  dsimp only at e2 l1 l2 l3 l4 ⊢
  generalize sk T p = p0 at l1 l2 hsk ⊢
  unfold fX6_readNumber_j65
  have c0 : (nI (q - p0) = 0) = (q = p0) := by
    rw [pn_eq0 (by omega)]; exact propext ⟨fun z => by omega, fun z => by omega⟩
  have c1 : (nI v < nI lo) = (v < lo) := pn_lt (by omega) (by omega)
  have c2 : (nI hi < nI v) = (hi < v) := pn_lt (by omega) (by omega)
  simp only [c0]
  by_cases z : q = p0
  · rw [if_pos z, if_pos z, st_eq, e2]
    exact hit_some ⟨⟨rfl, by rw [wr_same, z]⟩, hO _⟩
  · rw [if_neg z, if_neg z, c_isDigit h.2.2.2, bd_some]
    by_cases d : dg T q = true
    · rw [d, if_neg (show ¬ bI true = 0 by decide), if_pos rfl, st_eq, e2]
      exact hit_some ⟨⟨rfl, wr_same _ _ _ _ _⟩, hO _⟩
    · have d' := eq_false_of_ne_true d
      rw [d', if_pos (show bI false = 0 from rfl), if_neg (show ¬ (false = true) from Bool.false_ne_true)]
      simp only [c1, c2]
      unfold fX6_readNumber_j98
      have ep : nI q - 1 = nI (q - 1) := pn_sub1 (by omega)
      by_cases a : v < lo
      · rw [if_pos a, if_pos (show v < lo ∨ hi < v from Or.inl a), st_eq, e2, ep]
        exact hit_some ⟨⟨rfl, wr_same _ _ _ _ _⟩, hO _⟩
      · rw [if_neg a]
        by_cases b : hi < v
        · rw [if_pos b, if_pos (show v < lo ∨ hi < v from Or.inr b), st_eq, e2, ep]
          exact hit_some ⟨⟨rfl, wr_same _ _ _ _ _⟩, hO _⟩
        · rw [if_neg b, if_neg (show ¬ (v < lo ∨ hi < v) from fun x => x.elim a b)]
          exact hit_some ⟨⟨rfl, e2⟩, o.1, fun i h4 _ => o.2 i h4⟩
