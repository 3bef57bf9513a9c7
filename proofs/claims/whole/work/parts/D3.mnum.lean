/-! the texts' numbers: the model's reading -/
theorem m_isDigit {σ : rS} {T : List Nat} {q : Nat} (h : TpM σ T) (hq : q ≤ 240) (e : σ 10 0 3 = nI q) : fX10_isDigit σ = some (bI (dg T q), σ) := by
  unfold fX10_isDigit
  rw [m_byte h hq e, bd_some]
  by_cases c : q < T.length
  · have := getD_255 h.2.2.2 c
    have eb : btM T q = nI (btC T q) := by unfold btM btC; rw [if_pos c, if_pos c]
    have hb := btC_le h.2.2.2 q
    have a : (nI (btC T q) < 48) = (btC T q < 48) := pn_lt (b := 48) (by omega) (by omega)
    have b : ((57 : Int32) < nI (btC T q)) = (57 < btC T q) := pn_lt (a := 57) (by omega) (by omega)
    rw [eb]
    unfold dg
    simp only [a]
    by_cases c1 : btC T q < 48
    · rw [if_pos c1, decide_eq_false (by omega)]; rfl
    · rw [if_neg c1, m_byte h hq e, bd_some, eb]
      simp only [b]
      by_cases c2 : 57 < btC T q
      · rw [if_pos c2, decide_eq_false (by omega)]; rfl
      · rw [if_neg c2, decide_eq_true (by omega)]; rfl
  · have eb : btM T q = -1 := by unfold btM; rw [if_neg c]
    have d : dg T q = false := eq_false_of_ne_true (fun z => c (dg_lt z))
    rw [eb, if_pos (by decide), d]; rfl
theorem sk_dg {T : List Nat} {q : Nat} (h : dg T q = true) : sk T q = q := sk_stop (fun z => by
  have := of_decide_eq_true h
  unfold btC at this
  rw [if_pos z.1, z.2] at this
  omega)
/-- a digit that is there -/
theorem m_digit {σ : rS} {T : List Nat} {q : Nat} (h : TpM σ T) (hq : q ≤ T.length) (e : σ 10 0 3 = nI q) (h4 : σ 10 0 4 = -1) (d : dg T (sk T q) = true) : hit (fX10_digit σ) (fun r s => r = nI (btC T (sk T q) - 48) ∧ s 10 0 3 = nI (sk T q + 1) ∧ Of3 σ s) := by
  have h3 := h.2.2.1
  have hs := sk_le hq
  have hd := of_decide_eq_true d
  have dl := dg_lt d
  unfold fX10_digit
  refine bd_hit (hit_mono (m_look h hq e) ?_)
  rintro r1 s1 ⟨rfl, e1, o1⟩
  have t1 := h.of3 o1
  have h41 : s1 10 0 4 = -1 := by rw [o1.2 4 (by decide)]; exact h4
  have eb : btM T (sk T q) = nI (btC T (sk T q)) := by unfold btM btC; rw [if_pos dl, if_pos dl]
  rw [if_pos h41, m_isDigit t1 (by omega) e1, bd_some, d, if_neg (show ¬ bI true = 0 by decide), st_eq, e1, pn_add1, eb, show (48 : Int32) = nI 48 from rfl, pn_sub hd.1]
  exact hit_some ⟨rfl, wr_same _ _ _ _ _, o1.trans Of3_wr⟩
/-- none is there: the fault is set down -/
theorem m_digit_no {σ : rS} {T : List Nat} {q : Nat} (h : TpM σ T) (hq : q ≤ T.length) (e : σ 10 0 3 = nI q) (h4 : σ 10 0 4 = -1) (d : ¬ dg T (sk T q) = true) : hit (fX10_digit σ) (fun r s => r = 0 ∧ s 10 0 3 = nI (sk T q) ∧ s 10 0 4 = nI (sk T q) ∧ (∀ c, ¬ c = 10 → s c = σ c) ∧ ∀ i, ¬ i = 3 → ¬ i = 4 → s 10 0 i = σ 10 0 i) := by
  have h3 := h.2.2.1
  have hs := sk_le hq
  unfold fX10_digit
  refine bd_hit (hit_mono (m_look h hq e) ?_)
  rintro r1 s1 ⟨rfl, e1, o1⟩
  have t1 := h.of3 o1
  have h41 : s1 10 0 4 = -1 := by rw [o1.2 4 (by decide)]; exact h4
  rw [if_pos h41, m_isDigit t1 (by omega) e1, bd_some, eq_false_of_ne_true d, if_pos (show bI false = 0 from rfl)]
  unfold fX10_digit_j20 fX10_fails
  rw [if_pos h41, st_eq, bd_some, e1]
  exact hit_some ⟨rfl, by rw [wr_i (by decide)]; exact e1, wr_same _ _ _ _ _, fun c hc => by rw [wr_c hc]; exact o1.1 c hc, fun i h3 h4 => by rw [wr_i h4]; exact o1.2 i h3⟩
/-- only the model's place and fault differ -/
def O34 (σ s : rS) : Prop := (∀ c, ¬ c = 10 → s c = σ c) ∧ ∀ i, ¬ i = 3 → ¬ i = 4 → s 10 0 i = σ 10 0 i
theorem Of3.o {σ s : rS} (h : Of3 σ s) : O34 σ s := ⟨h.1, fun i h3 _ => h.2 i h3⟩
/-- a number from place p on: its value and the place behind, or the fault's place -/
def nuM (T : List Nat) (p : Nat) : Nat ⊕ (Nat × Nat) :=
  if (nmN T 3 (sk T p) 0).1 = sk T p then .inl (sk T p)
  else if dg T (nmN T 3 (sk T p) 0).1 = true then .inl (nmN T 3 (sk T p) 0).1
  else .inr ((nmN T 3 (sk T p) 0).2, (nmN T 3 (sk T p) 0).1)
def nuP (o : Nat ⊕ (Nat × Nat)) (r : Int32) (s : rS) : Prop := match o with
  | .inl f => s 10 0 4 = nI f
  | .inr (v, q) => r = nI v ∧ s 10 0 3 = nI q ∧ s 10 0 4 = -1
theorem m_numL {σ : rS} {T : List Nat} {q0 q v0 : Nat} (h : TpM σ T) (hq : q ≤ T.length) (e : σ 10 0 3 = nI q) (h4 : σ 10 0 4 = -1) (hv : v0 < 10) : hit (lp (fun (x : (Int32 × Int32)) σ => fX10_number_L7 x.1 x.2 σ) fu (nI v0, 1) σ) (fun r s => r = nI (nmN T 2 q v0).2 ∧ s 10 0 3 = nI (nmN T 2 q v0).1 ∧ Of3 σ s ∧ q ≤ (nmN T 2 q v0).1 ∧ (nmN T 2 q v0).1 ≤ T.length) := by
  have h3 := h.2.2.1
  refine lp_go (I := fun m x s => ∃ k v, k ≤ 2 ∧ m = 2 - k ∧ q + k ≤ T.length ∧ x = (nI v, nI (k + 1)) ∧ TpM s T ∧ s 10 0 3 = nI (q + k) ∧ Of3 σ s ∧ nmN T (2 - k) (q + k) v = nmN T 2 q v0) ?_ fu 2 _ σ (fu_lt (by omega)) ⟨0, v0, by omega, by omega, hq, rfl, h, e, ⟨fun _ _ => rfl, fun _ _ => rfl⟩, rfl⟩
  rintro m x s ⟨k, v, hk, rfl, hqk, rfl, hs, es, ho, hF⟩
  have h4s : s 10 0 4 = -1 := by rw [ho.2 4 (by decide)]; exact h4
  unfold fX10_number_L7
  dsimp only
  have a3 : (nI (k + 1) < 3) = (k + 1 < 3) := pn_lt (b := 3) (by omega) (by omega)
  simp only [a3]
  by_cases hlt : k + 1 < 3
  · rw [if_pos hlt, if_pos h4s, m_isDigit hs (by omega) es, bd_some]
    have hF' : nmN T (2 - k) (q + k) v = if dg T (q + k) = true then nmN T (2 - (k + 1)) (q + k + 1) (v * 10 + btC T (q + k) - 48) else (q + k, v) := by
      rw [show 2 - k = 2 - (k + 1) + 1 by omega]; rfl
    rw [hF'] at hF
    by_cases d : dg T (q + k) = true
    · have hd := of_decide_eq_true d
      have dl := dg_lt d
      have es' := sk_dg d
      rw [if_pos d] at hF
      rw [d, if_neg (show ¬ bI true = 0 by decide)]
      refine bd_hit (hit_mono (m_digit hs hqk es h4s (by rw [es']; exact d)) ?_)
      rintro r2 s2 ⟨rfl, e2, o2⟩
      rw [es'] at e2 ⊢
      rw [show (10 : Int32) * nI v = nI (10 * v) from (Int32.ofNat_mul 10 v).symm, nI_add, rd_eq, pn_add1, show 10 * v + (btC T (q + k) - 48) = v * 10 + btC T (q + k) - 48 by omega]
      exact hit_some ⟨2 - (k + 1), by omega, k + 1, _, by omega, rfl, by omega, rfl, hs.of3 o2, e2, ho.trans o2, hF⟩
    · rw [if_neg d] at hF
      rw [eq_false_of_ne_true d, if_pos (show bI false = 0 from rfl), ← hF]
      exact hit_some ⟨rfl, es, ho, (by omega : q ≤ q + k), hqk⟩
  · rw [if_neg hlt]
    rw [show 2 - k = 0 by omega] at hF
    have hF : (q + k, v) = nmN T 2 q v0 := hF
    rw [← hF]
    exact hit_some ⟨rfl, es, ho, (by omega : q ≤ q + k), hqk⟩
theorem m_number {σ : rS} {T : List Nat} {p : Nat} (h : TpM σ T) (hp : p ≤ T.length) (e : σ 10 0 3 = nI p) (h4 : σ 10 0 4 = -1) : hit (fX10_number σ) (fun r s => nuP (nuM T p) r s ∧ O34 σ s) := by
  have h3 := h.2.2.1
  have hs := sk_le hp
  unfold fX10_number
  by_cases d : dg T (sk T p) = true
  · have dl := dg_lt d
    have hd := of_decide_eq_true d
    refine bd_hit (hit_mono (m_digit h hp e h4 d) ?_)
    rintro r1 s1 ⟨rfl, e1, o1⟩
    have h41 : s1 10 0 4 = -1 := by rw [o1.2 4 (by decide)]; exact h4
    refine bd_hit (hit_mono (m_numL (q0 := 0) (h.of3 o1) (by omega) e1 h41 (by omega)) ?_)
    rintro r2 s2 ⟨rfl, e2, o2, l1, l2⟩
    have h42 : s2 10 0 4 = -1 := by rw [o2.2 4 (by decide)]; exact h41
    have t2 := (h.of3 o1).of3 o2
    have eN : nmN T 3 (sk T p) 0 = nmN T 2 (sk T p + 1) (btC T (sk T p) - 48) := by
      show (if dg T (sk T p) = true then nmN T 2 (sk T p + 1) (0 * 10 + btC T (sk T p) - 48) else _) = _
      rw [if_pos d, Nat.zero_mul, Nat.zero_add]
    unfold nuM
    rw [eN]
    generalize nmN T 2 (sk T p + 1) (btC T (sk T p) - 48) = F at e2 l1 l2 ⊢
    unfold fX10_number_j43
    rw [if_pos h42, m_isDigit t2 (by omega) e2, bd_some, if_neg (show ¬ F.1 = sk T p by omega)]
    by_cases c : dg T F.1 = true
    · rw [c, if_neg (show ¬ bI true = 0 by decide), if_pos rfl]
      unfold fX10_fails
      rw [if_pos h42, st_eq, bd_some, e2]
      exact hit_some ⟨wr_same _ _ _ _ _, fun q hq => by rw [wr_c hq]; exact (o1.trans o2).1 q hq, fun i h3 h4 => by rw [wr_i h4]; exact (o1.trans o2).2 i h3⟩
    · rw [eq_false_of_ne_true c, if_pos (show bI false = 0 from rfl), if_neg (show ¬ (false = true) from Bool.false_ne_true)]
      exact hit_some ⟨⟨rfl, e2, h42⟩, (o1.trans o2).o⟩
  · refine bd_hit (hit_mono (m_digit_no h hp e h4 d) ?_)
    rintro r1 s1 ⟨rfl, e1, e4, o1, o2⟩
    have h41 : ¬ s1 10 0 4 = -1 := by rw [e4, pn_m1 (by omega)]; exact id
    have lp1 : hit (lp (fun (x : (Int32 × Int32)) σ => fX10_number_L7 x.1 x.2 σ) fu (0, 1) s1) (fun r s => r = 0 ∧ s = s1) := by
      refine lp_go (I := fun m x s => x = (0, 1) ∧ s = s1) ?_ fu 0 _ s1 (fu_lt (by omega)) ⟨rfl, rfl⟩
      rintro m x s ⟨rfl, rfl⟩
      unfold fX10_number_L7
      rw [if_pos (by decide), if_neg h41]
      exact hit_some ⟨rfl, rfl⟩
    refine bd_hit (hit_mono lp1 ?_)
    rintro r2 s2 ⟨rfl, rfl⟩
    unfold fX10_number_j43 nuM
    have eN : nmN T 3 (sk T p) 0 = (sk T p, 0) := by
      show (if dg T (sk T p) = true then nmN T 2 (sk T p + 1) (0 * 10 + btC T (sk T p) - 48) else _) = _
      rw [if_neg d]
    rw [if_neg h41, eN, if_pos rfl]
    exact hit_some ⟨e4, o1, o2⟩
