/-! the pure layer: numbers, stores, loops -/
theorem pn_lt {a b : Nat} (ha : a < 2147483648) (hb : b < 2147483648) : (nI a < nI b) = (a < b) := propext (nI_ltI ha hb)
theorem pn_neg {a : Nat} (ha : a < 2147483648) : (nI a < 0) = False := eq_false (nI_pos ha)
theorem pn_eq {a b : Nat} (ha : a < 2147483648) (hb : b < 2147483648) : (nI a = nI b) = (a = b) := propext (nI_eq ha hb)
theorem pn_eq0 {a : Nat} (ha : a < 2147483648) : (nI a = 0) = (a = 0) := pn_eq (b := 0) ha (by decide)
theorem pn_eq1 {a : Nat} (ha : a < 2147483648) : (nI a = 1) = (a = 1) := pn_eq (b := 1) ha (by decide)
theorem pn_eq2 {a : Nat} (ha : a < 2147483648) : (nI a = 2) = (a = 2) := pn_eq (b := 2) ha (by decide)
theorem pn_m1 {a : Nat} (ha : a < 2147483648) : (nI a = -1) = False := eq_false (fun h => nI_pos ha (by rw [h]; decide))
theorem pn_m1' {a : Nat} (ha : a < 2147483648) : (-1 = nI a) = False := eq_false (fun h => nI_pos ha (by rw [← h]; decide))
theorem pn_m1lt : ((-1 : Int32) < 0) = True := by decide
theorem pn_m1eq0 : ((-1 : Int32) = 0) = False := by decide
theorem pn_ix {a : Nat} (ha : a < 2147483648) : (nI a).toNatClampNeg = a := nI_clamp ha
theorem pn_bnd {β : Type} {a n : Nat} {x : Option β} (h : a < n) (hn : n < 2147483648) : bnd (nI a) n x = x := by
  unfold bnd
  exact if_neg (vp_in_nI h hn)
theorem pn_add1 (a : Nat) : nI a + 1 = nI (a + 1) := nI_add a 1
theorem pn_add3 (a : Nat) : 3 + nI a = nI (3 + a) := nI_add 3 a
theorem pn_mul4 (a : Nat) : nI a * 4 = nI (a * 4) := (Int32.ofNat_mul a 4).symm
theorem pn_sub {a b : Nat} (h : b ≤ a) : nI a - nI b = nI (a - b) := by
  have e : nI a = nI (a - b) + nI b := by rw [nI_add]; congr 1; omega
  rw [e, Int32.add_sub_cancel]
theorem pn_sub1 {a : Nat} (h : 1 ≤ a) : nI a - 1 = nI (a - 1) := pn_sub (b := 1) h
theorem pn_lt8 {a : Nat} (ha : a < 2147483648) : (nI a < 8) = (a < 8) := pn_lt (b := 8) ha (by decide)
theorem pn_lt80 {a : Nat} (ha : a < 2147483648) : (nI a < 80) = (a < 80) := pn_lt (b := 80) ha (by decide)
theorem pn_lt4 {a : Nat} (ha : a < 2147483648) : (nI a < 4) = (a < 4) := pn_lt (b := 4) ha (by decide)
theorem pn_div {a b : Nat} (ha : a < 2147483648) (hb : b < 2147483648) : nI a / nI b = nI (a / b) := by
  apply Int32.toInt_inj.mp
  have hq : a / b < 2147483648 := Nat.lt_of_le_of_lt (Nat.div_le_self a b) ha
  rw [nI_toInt hq, Int32.toInt_div, nI_toInt ha, nI_toInt hb]
  rw [Int.tdiv_eq_ediv_of_nonneg (by omega)]
  rw [Int.bmod_eq_of_le]
  · simp
  · have : (0 : Int) ≤ (a : Int) / (b : Int) := Int.ediv_nonneg (by omega) (by omega)
    omega
  · have h1 : ((a / b : Nat) : Int) = (a : Int) / (b : Int) := by simp
    omega
theorem pn_div4 {a : Nat} (ha : a < 2147483648) : nI a / 4 = nI (a / 4) := pn_div (b := 4) ha (by decide)
theorem pn_mod4 {a : Nat} (ha : a < 2147483648) : nI a - nI a / 4 * 4 = nI (a % 4) := by
  rw [pn_div4 ha, pn_mul4, pn_sub (by omega)]
  congr 1
  omega
theorem bd_some {α β : Type} (r : α) (σ : rS) (f : α → rS → Option (β × rS)) : bd (some (r, σ)) f = f r σ := rfl
theorem st_eq {β : Type} (σ : rS) (f : rS → Option β) : st σ f = f σ := rfl
theorem rd_eq {β : Type} (x : Int32) (f : Int32 → Option β) : rd x f = f x := rfl
theorem wr_row (σ : rS) (c k i : Nat) (v : Int32) : wr σ c k i v c k = upd (σ c k) i v := wrR_eq _ _ _ _
theorem wr_same (σ : rS) (c k i : Nat) (v : Int32) : wr σ c k i v c k i = v := by rw [wr_row]; simp [upd]
theorem wr_i {σ : rS} {c k i j : Nat} {v : Int32} (h : ¬ j = i) : wr σ c k i v c k j = σ c k j := by rw [wr_row]; simp [upd, h]
theorem wr_k {σ : rS} {c k k' i : Nat} {v : Int32} (h : ¬ k' = k) : wr σ c k i v c k' = σ c k' := wrR_ne _ _ _ _ (fun q => h q.2)
theorem wr_c {σ : rS} {c c' k i : Nat} {v : Int32} (h : ¬ c' = c) : wr σ c k i v c' = σ c' := by
  unfold wr wrR
  rw [if_neg h]
theorem wrR_c {σ : rS} {c c' k : Nat} {g : Nat → Int32} (h : ¬ c' = c) : wrR σ c k g c' = σ c' := by
  unfold wrR
  rw [if_neg h]
theorem wrR_k {σ : rS} {c k k' : Nat} {g : Nat → Int32} (h : ¬ k' = k) : wrR σ c k g c k' = σ c k' := wrR_ne _ _ _ _ (fun q => h q.2)
/-- a loop by a number that falls -/
theorem lp_go {L R : Type} {step : L → rS → Option ((L ⊕ R) × rS)} {I : Nat → L → rS → Prop} {P : R → rS → Prop}
    (hs : ∀ n x σ, I n x σ → hit (step x σ) (fun q s => match q with
      | .inl y => ∃ m, m < n ∧ I m y s
      | .inr r => P r s)) : ∀ (f n : Nat) (x : L) (σ : rS), n < f → I n x σ → hit (lp step f x σ) P := by
  intro f
  induction f with
  | zero => intro n x σ h; omega
  | succ f ih =>
    intro n x σ h hI
    refine lp_hit (hit_mono (hs n x σ hI) (fun q s hq => ?_))
    cases q with
    | inl y => obtain ⟨m, hm, hI2⟩ := hq; exact ih m y s (by omega) hI2
    | inr r => exact hq
theorem fu_lt {n : Nat} (h : n < 70000) : n < fu := Nat.lt_of_lt_of_le h fu_ge
theorem hit_some {α : Type} {r : α} {σ : rS} {K : α → rS → Prop} (h : K r σ) : hit (some (r, σ)) K := h
theorem hit_eq {α : Type} {o : Option (α × rS)} {r : α} {σ : rS} {K : α → rS → Prop} (h : o = some (r, σ)) (hK : K r σ) : hit o K := by
  rw [h]
  exact hK
theorem hit_iff {α : Type} {o : Option (α × rS)} {K : α → rS → Prop} : hit o K ↔ ∃ r s, o = some (r, s) ∧ K r s := by
  constructor
  · intro h
    cases o with
    | none => exact h.elim
    | some q => exact ⟨q.1, q.2, rfl, h⟩
  · rintro ⟨r, s, rfl, h⟩
    exact h
theorem eq_of_hit {α : Type} {o : Option (α × rS)} {r : α} {σ : rS} (h : hit o (fun r' s => r' = r ∧ s = σ)) : o = some (r, σ) := by
  obtain ⟨r', s, rfl, rfl, rfl⟩ := hit_iff.mp h
  rfl
/-- the first place below n where p holds -/
def fst1 (p : Nat → Bool) : Nat → Nat → Option Nat
  | 0, _ => none
  | f + 1, i => if p i then some i else fst1 p f (i + 1)
/-- a loop that only looks: from i to n, ends at the first place where p holds -/
theorem lp_find {step : Int32 → rS → Option ((Int32 ⊕ (Int32 ⊕ Unit)) × rS)} {p : Nat → Bool} {n : Nat} {σ : rS} (hn : n < 2147483648)
    (h1 : ∀ i, i < n → p i = true → step (nI i) σ = some (.inr (.inl (nI i)), σ)) (h2 : ∀ i, i < n → p i = false → step (nI i) σ = some (.inl (nI (i + 1)), σ)) (h3 : step (nI n) σ = some (.inr (.inr ()), σ)) :
    ∀ (f i : Nat), i ≤ n → n < i + f → lp step f (nI i) σ = some (match fst1 p (n - i) i with
      | some j => .inl (nI j)
      | none => .inr (), σ) := by
  intro f
  induction f with
  | zero => intro i h h'; omega
  | succ f ih =>
    intro i hi hf
    unfold lp
    by_cases e : i = n
    · subst e
      rw [h3, bd_some, Nat.sub_self]
      rfl
    · have hlt : i < n := by omega
      obtain ⟨m, hm⟩ : ∃ m, n - i = m + 1 := ⟨n - i - 1, by omega⟩
      rw [hm]
      unfold fst1
      by_cases hp : p i = true
      · rw [h1 i hlt hp, bd_some, if_pos hp]
      · have hp : p i = false := by simpa using hp
        rw [h2 i hlt hp, bd_some, hp]
        have := ih (i + 1) (by omega) (by omega)
        rw [show n - (i + 1) = m by omega] at this
        exact this
theorem fst1_some {p : Nat → Bool} : ∀ {f i j : Nat}, fst1 p f i = some j → i ≤ j ∧ j < i + f ∧ p j = true ∧ ∀ k, i ≤ k → k < j → p k = false := by
  intro f
  induction f with
  | zero => intro i j h; cases h
  | succ f ih =>
    intro i j h
    unfold fst1 at h
    by_cases hp : p i = true
    · rw [if_pos hp] at h
      cases h
      exact ⟨Nat.le_refl _, by omega, hp, fun k h1 h2 => by omega⟩
    · rw [if_neg hp] at h
      obtain ⟨a, b, c, d⟩ := ih h
      refine ⟨by omega, by omega, c, fun k h1 h2 => ?_⟩
      by_cases e : k = i
      · subst e; simpa using hp
      · exact d k (by omega) h2
theorem fst1_none {p : Nat → Bool} : ∀ {f i : Nat}, fst1 p f i = none → ∀ k, i ≤ k → k < i + f → p k = false := by
  intro f
  induction f with
  | zero => intro i _ k h1 h2; omega
  | succ f ih =>
    intro i h k h1 h2
    unfold fst1 at h
    by_cases hp : p i = true
    · rw [if_pos hp] at h; cases h
    · rw [if_neg hp] at h
      by_cases e : k = i
      · subst e; simpa using hp
      · exact ih h k (by omega) (by omega)
theorem fst1_eq {p : Nat → Bool} {f i j : Nat} (h1 : i ≤ j) (h2 : j < i + f) (h3 : p j = true) (h4 : ∀ k, i ≤ k → k < j → p k = false) : fst1 p f i = some j := by
  cases h : fst1 p f i with
  | none => exact absurd h3 (by rw [fst1_none h j h1 h2]; decide)
  | some j' =>
    obtain ⟨a, b, c, d⟩ := fst1_some h
    congr 1
    rcases Nat.lt_trichotomy j j' with g | g | g
    · exact absurd h3 (by rw [d j h1 g]; decide)
    · exact g.symm
    · exact absurd c (by rw [h4 j' a g]; decide)
theorem fst1_no {p : Nat → Bool} {f i : Nat} (h : ∀ k, i ≤ k → k < i + f → p k = false) : fst1 p f i = none := by
  cases e : fst1 p f i with
  | none => rfl
  | some j =>
    obtain ⟨a, b, c, -⟩ := fst1_some e
    exact absurd c (by rw [h j a b]; decide)
theorem fst1_congr {p p' : Nat → Bool} : ∀ {f i : Nat}, (∀ k, i ≤ k → k < i + f → p k = p' k) → fst1 p f i = fst1 p' f i := by
  intro f
  induction f with
  | zero => intro i _; rfl
  | succ f ih =>
    intro i h
    unfold fst1
    rw [h i (Nat.le_refl _) (by omega), ih (fun k h1 h2 => h k (by omega) (by omega))]
/-- a slot, or none -/
def enc (o : Option Nat) : Int32 := match o with
  | none => -1
  | some j => nI j
theorem enc_none : enc none = -1 := rfl
theorem enc_some (j : Nat) : enc (some j) = nI j := rfl
/-- a sum over the places below n -/
def sumN (f : Nat → Nat) : Nat → Nat
  | 0 => 0
  | n + 1 => sumN f n + f n
theorem sumN_congr {f g : Nat → Nat} : ∀ {n : Nat}, (∀ i, i < n → f i = g i) → sumN f n = sumN g n := by
  intro n
  induction n with
  | zero => intro _; rfl
  | succ n ih =>
    intro h
    unfold sumN
    rw [ih (fun i hi => h i (by omega)), h n (by omega)]
theorem sumN_add {f g : Nat → Nat} : ∀ {n : Nat}, sumN (fun i => f i + g i) n = sumN f n + sumN g n := by
  intro n
  induction n with
  | zero => rfl
  | succ n ih => unfold sumN; rw [ih]; omega
theorem sumN_le {f g : Nat → Nat} : ∀ {n : Nat}, (∀ i, i < n → f i ≤ g i) → sumN f n ≤ sumN g n := by
  intro n
  induction n with
  | zero => intro _; exact Nat.le_refl _
  | succ n ih =>
    intro h
    unfold sumN
    have := ih (fun i hi => h i (by omega))
    have := h n (by omega)
    omega
theorem sumN_ge {f : Nat → Nat} : ∀ {n i : Nat}, i < n → f i ≤ sumN f n := by
  intro n
  induction n with
  | zero => intro i h; omega
  | succ n ih =>
    intro i h
    unfold sumN
    by_cases e : i = n
    · subst e; omega
    · have := ih (i := i) (by omega); omega
