/-! loops that only count -/
def acc (u : Nat → Int32 → Int32) : Nat → Nat → Int32 → Int32
  | 0, _, a => a
  | m + 1, i, a => acc u m (i + 1) (u i a)
theorem lp_acc {step : Int32 × Int32 → rS → Option (((Int32 × Int32) ⊕ Int32) × rS)} {u : Nat → Int32 → Int32} {n : Nat} {σ : rS}
    (h1 : ∀ i a, i < n → step (a, nI i) σ = some (.inl (u i a, nI (i + 1)), σ)) (h2 : ∀ a, step (a, nI n) σ = some (.inr a, σ)) :
    ∀ (f i : Nat) (a : Int32), i ≤ n → n < i + f → lp step f (a, nI i) σ = some (acc u (n - i) i a, σ) := by
  intro f
  induction f with
  | zero => intro i a h h'; omega
  | succ f ih =>
    intro i a hi hf
    unfold lp
    by_cases e : i = n
    · subst e
      rw [h2, bd_some, Nat.sub_self]
      rfl
    · obtain ⟨m, hm⟩ : ∃ m, n - i = m + 1 := ⟨n - i - 1, by omega⟩
      rw [h1 i a (by omega), bd_some, hm]
      have := ih (i + 1) (u i a) (by omega) (by omega)
      rw [show n - (i + 1) = m by omega] at this
      exact this
theorem acc_congr {u u' : Nat → Int32 → Int32} : ∀ {m i : Nat} {a : Int32}, (∀ j a, i ≤ j → j < i + m → u j a = u' j a) → acc u m i a = acc u' m i a := by
  intro m
  induction m with
  | zero => intro i a _; rfl
  | succ m ih =>
    intro i a h
    unfold acc
    rw [h i a (by omega) (by omega)]
    exact ih (fun j b h1 h2 => h j b (by omega) (by omega))
theorem fu_0 {n : Nat} (h : n < 70000) : n < 0 + fu := by have := fu_ge; omega
theorem enc_eq {o : Option Nat} {j : Nat} (ho : ∀ i, o = some i → i < 2147483648) (hj : j < 2147483648) : (enc o = nI j) = (o = some j) := by
  cases o with
  | none => rw [enc_none, pn_m1' hj]; simp
  | some i => rw [enc_some, pn_eq (ho i rfl) hj]; simp
theorem enc_m1 {o : Option Nat} (ho : ∀ i, o = some i → i < 2147483648) : (enc o = -1) = (o = none) := by
  cases o with
  | none => simp [enc_none]
  | some i => rw [enc_some, pn_m1 (ho i rfl)]; simp
theorem encN_eq {A : Hp} {o : Option Nat} {j : Nat} (w : OK A) (ho : ∀ i, o = some i → i < hn A) (hj : j < hn A) : (encN A o = nI (hnum A j)) = (o = some j) := by
  have h1 := w.num1 hj
  have h2 := w.num2 hj
  cases o with
  | none =>
    have e : encN A none = nI 0 := rfl
    rw [e, pn_eq (by omega) (by omega), eq_false (show ¬ 0 = hnum A j by omega)]; simp
  | some i =>
    have h3 := w.num2 (ho i rfl)
    have e : encN A (some i) = nI (hnum A i) := rfl
    rw [e, pn_eq (by omega) (by omega)]
    apply propext
    constructor
    · intro h; rw [w.inj (ho i rfl) hj h]
    · intro h; cases h; rfl
theorem encN_0 {A : Hp} {o : Option Nat} (w : OK A) (ho : ∀ i, o = some i → i < hn A) : (encN A o = 0) = (o = none) := by
  cases o with
  | none =>
    have e : encN A none = 0 := rfl
    rw [e]; simp
  | some i =>
    have h3 := w.num2 (ho i rfl)
    have h4 := w.num1 (ho i rfl)
    have e : encN A (some i) = nI (hnum A i) := rfl
    rw [e, pn_eq0 (by omega), eq_false (show ¬ hnum A i = 0 by omega)]; simp
def uAge (A : Hp) (i : Nat) (a : Int32) : Int32 := if a < hag A i then hag A i else a
theorem c_age {σ : rS} {k : Nat} {A : Hp} (h : CR σ k A) (w : OK A) : fX7_greatestAge k σ = some (acc (uAge A) (hn A) 0 0, σ) := by
  have hw := w.n
  unfold fX7_greatestAge
  have e := lp_acc (step := fun (x : (Int32 × Int32)) σ => fX7_greatestAge_L4 k x.1 x.2 σ) (u := uAge A) (n := hn A) (σ := σ) (fun i a hi => by
    unfold fX7_greatestAge_L4 uAge
    simp (disch := omega) only [h.n, pn_lt, pn_neg, pn_eq, pn_eq0, pn_eq1, pn_eq2, pn_m1, pn_m1', pn_m1lt, pn_ix, pn_bnd, pn_add1, pn_add3, pn_mul4, nI_add, bd_some, st_eq, rd_eq, if_true, if_false, ite_true, ite_false, reduceIte, hi, h.ag hi]) (fun a => by
    unfold fX7_greatestAge_L4
    simp (disch := omega) only [h.n, pn_lt, pn_neg, pn_eq, pn_eq0, pn_eq1, pn_eq2, pn_m1, pn_m1', pn_m1lt, pn_ix, pn_bnd, pn_add1, pn_add3, pn_mul4, nI_add, bd_some, st_eq, rd_eq, if_true, if_false, ite_true, ite_false, reduceIte, Nat.lt_irrefl]) fu 0 0 (by omega) (fu_0 (by omega))
  have e : lp (fun (x : (Int32 × Int32)) σ => fX7_greatestAge_L4 k x.1 x.2 σ) fu (0, 0) σ = _ := e
  rw [e, bd_some, Nat.sub_zero]
theorem m_age {τ : rS} {A : Hp} (hM : MR (τ 66 0) A) (w : OK A) : fX10_oldest τ = some (acc (uAge A) (hn A) 0 0, τ) := by
  have hw := w.n
  have e0 : τ 66 0 (ix 0) = nI (hn A) := hM.n
  unfold fX10_oldest
  have e := lp_acc (step := fun (x : (Int32 × Int32)) σ => fX10_oldest_L4 x.1 x.2 σ) (u := uAge A) (n := hn A) (σ := τ) (fun i a hi => by
    unfold fX10_oldest_L4 fX10_oldest_j37L4 uAge
    rw [e0]
    simp (disch := omega) only [pn_lt, pn_neg, pn_eq, pn_eq0, pn_eq1, pn_eq2, pn_m1, pn_m1', pn_m1lt, pn_ix, pn_bnd, pn_add1, pn_add3, pn_mul4, nI_add, bd_some, st_eq, rd_eq, if_true, if_false, ite_true, ite_false, reduceIte, hi, e_of4 hM w hi]
    split <;> rfl) (fun a => by
    unfold fX10_oldest_L4
    rw [e0]
    simp (disch := omega) only [pn_lt, pn_neg, pn_eq, pn_eq0, pn_eq1, pn_eq2, pn_m1, pn_m1', pn_m1lt, pn_ix, pn_bnd, pn_add1, pn_add3, pn_mul4, nI_add, bd_some, st_eq, rd_eq, if_true, if_false, ite_true, ite_false, reduceIte, Nat.lt_irrefl]) fu 0 0 (by omega) (fu_0 (by omega))
  have e : lp (fun (x : (Int32 × Int32)) σ => fX10_oldest_L4 x.1 x.2 σ) fu (0, 0) τ = _ := e
  rw [e, bd_some, Nat.sub_zero]
noncomputable def uLnk (A : Hp) (i : Nat) (a : Int32) : Int32 := if hrt A i = none then a else a ||| (1 <<< (nI i &&& 31))
theorem c_lnk {σ : rS} {k : Nat} {A : Hp} (h : CR σ k A) (w : OK A) : fX7_linkedRoots k σ = some (acc (uLnk A) 8 0 0, σ) := by
  have hw := w.n
  unfold fX7_linkedRoots
  have e := lp_acc (step := fun (x : (Int32 × Int32)) σ => fX7_linkedRoots_L4 k x.1 x.2 σ) (u := uLnk A) (n := 8) (σ := σ) (fun i a hi => by
    unfold fX7_linkedRoots_L4 fX7_linkedRoots_j26L4 uLnk
    simp (disch := omega) only [pn_lt, pn_neg, pn_eq, pn_eq0, pn_eq1, pn_eq2, pn_m1, pn_m1', pn_m1lt, pn_ix, pn_bnd, pn_add1, pn_add3, pn_mul4, nI_add, bd_some, st_eq, rd_eq, if_true, if_false, ite_true, ite_false, reduceIte, pn_lt8, hi, h.rt hi, enc_m1 (fun j hj => show j < 2147483648 by have := w.rt hi hj; omega)]
    split <;> rfl) (fun a => by
    unfold fX7_linkedRoots_L4
    simp (disch := omega) only [pn_lt, pn_neg, pn_eq, pn_eq0, pn_eq1, pn_eq2, pn_m1, pn_m1', pn_m1lt, pn_ix, pn_bnd, pn_add1, pn_add3, pn_mul4, nI_add, bd_some, st_eq, rd_eq, if_true, if_false, ite_true, ite_false, reduceIte, pn_lt8, Nat.lt_irrefl]) fu 0 0 (by omega) (fu_0 (by omega))
  have e : lp (fun (x : (Int32 × Int32)) σ => fX7_linkedRoots_L4 k x.1 x.2 σ) fu (0, 0) σ = _ := e
  rw [e, bd_some, Nat.sub_zero]
theorem m_lnk {τ : rS} {A : Hp} (hM : MR (τ 66 0) A) (w : OK A) : fX10_linked τ = some (acc (uLnk A) 8 0 0, τ) := by
  have hw := w.n
  unfold fX10_linked
  have e := lp_acc (step := fun (x : (Int32 × Int32)) σ => fX10_linked_L4 x.1 x.2 σ) (u := uLnk A) (n := 8) (σ := τ) (fun i a hi => by
    unfold fX10_linked_L4 fX10_linked_j31L4 uLnk
    have e2 : (881 : Int32) + nI i = nI (881 + i) := nI_add 881 i
    dsimp only
    rw [e2]
    simp (disch := omega) only [pn_lt, pn_neg, pn_eq, pn_eq0, pn_eq1, pn_eq2, pn_m1, pn_m1', pn_m1lt, pn_ix, pn_bnd, pn_add1, pn_add3, pn_mul4, nI_add, bd_some, st_eq, rd_eq, if_true, if_false, ite_true, ite_false, reduceIte, pn_lt8, hi, hM.rt hi, encN_0 w (fun j hj => w.rt hi hj)]
    split
    · rw [Int32.or_zero]
    · rfl) (fun a => by
    unfold fX10_linked_L4
    simp (disch := omega) only [pn_lt, pn_neg, pn_eq, pn_eq0, pn_eq1, pn_eq2, pn_m1, pn_m1', pn_m1lt, pn_ix, pn_bnd, pn_add1, pn_add3, pn_mul4, nI_add, bd_some, st_eq, rd_eq, if_true, if_false, ite_true, ite_false, reduceIte, pn_lt8, Nat.lt_irrefl]) fu 0 0 (by omega) (fu_0 (by omega))
  have e : lp (fun (x : (Int32 × Int32)) σ => fX10_linked_L4 x.1 x.2 σ) fu (0, 0) τ = _ := e
  rw [e, bd_some, Nat.sub_zero]
/-- cells of the slots in a row -/
def uSeen (A : Hp) (Q : List Nat) (i : Nat) (a : Int32) : Int32 := a + nI (3 + hsz A (Q.getD i 0))
def cellsQ (A : Hp) (Q : List Nat) : Int32 := acc (uSeen A Q) Q.length 0 0
theorem c_seenCells {σ : rS} {k : Nat} {A : Hp} {S : GS} (h : CR σ k A) (w : OK A) (hG : GC σ (hn A) S) : fX3_seenCells k σ = some (cellsQ A S.1, σ) := by
  have hw := w.n
  have hl := nodup_le hG.1 hG.2.1
  unfold fX3_seenCells
  have e := lp_acc (step := fun (x : (Int32 × Int32)) σ => fX3_seenCells_L4 k x.1 x.2 σ) (u := uSeen A S.1) (n := S.1.length) (σ := σ) (fun i a hi => by
    have hj := hG.2.1 _ (getD_mem hi)
    unfold fX3_seenCells_L4 uSeen
    simp (disch := omega) only [pn_lt, pn_neg, pn_eq, pn_eq0, pn_eq1, pn_eq2, pn_m1, pn_m1', pn_m1lt, pn_ix, pn_bnd, pn_add1, pn_add3, pn_mul4, nI_add, bd_some, st_eq, rd_eq, if_true, if_false, ite_true, ite_false, reduceIte, hG.2.2.1, hi, hG.2.2.2.1 i hi, e_cells h w hj]) (fun a => by
    unfold fX3_seenCells_L4
    simp (disch := omega) only [pn_lt, pn_neg, pn_eq, pn_eq0, pn_eq1, pn_eq2, pn_m1, pn_m1', pn_m1lt, pn_ix, pn_bnd, pn_add1, pn_add3, pn_mul4, nI_add, bd_some, st_eq, rd_eq, if_true, if_false, ite_true, ite_false, reduceIte, hG.2.2.1, Nat.lt_irrefl]) fu 0 0 (by omega) (fu_0 (by omega))
  have e : lp (fun (x : (Int32 × Int32)) σ => fX3_seenCells_L4 k x.1 x.2 σ) fu (0, 0) σ = _ := e
  rw [e, bd_some, Nat.sub_zero]
  rfl
theorem m_metCells {τ : rS} {A : Hp} {Q : List Nat} (hM : MR (τ 66 0) A) (w : OK A) (hG : GM τ (hn A) Q) : fX10_metCells τ = some (cellsQ A Q, τ) := by
  have hw := w.n
  have hl := nodup_le hG.1 hG.2.1
  unfold fX10_metCells
  have e := lp_acc (step := fun (x : (Int32 × Int32)) σ => fX10_metCells_L4 x.1 x.2 σ) (u := uSeen A Q) (n := Q.length) (σ := τ) (fun i a hi => by
    have hj := hG.2.1 _ (getD_mem hi)
    unfold fX10_metCells_L4 uSeen
    simp (disch := omega) only [pn_lt, pn_neg, pn_eq, pn_eq0, pn_eq1, pn_eq2, pn_m1, pn_m1', pn_m1lt, pn_ix, pn_bnd, pn_add1, pn_add3, pn_mul4, nI_add, bd_some, st_eq, rd_eq, if_true, if_false, ite_true, ite_false, reduceIte, hG.2.2.1, hi, hG.2.2.2.1 i hi, e_sizeOf hM w hj]) (fun a => by
    unfold fX10_metCells_L4
    simp (disch := omega) only [pn_lt, pn_neg, pn_eq, pn_eq0, pn_eq1, pn_eq2, pn_m1, pn_m1', pn_m1lt, pn_ix, pn_bnd, pn_add1, pn_add3, pn_mul4, nI_add, bd_some, st_eq, rd_eq, if_true, if_false, ite_true, ite_false, reduceIte, hG.2.2.1, Nat.lt_irrefl]) fu 0 0 (by omega) (fu_0 (by omega))
  have e : lp (fun (x : (Int32 × Int32)) σ => fX10_metCells_L4 x.1 x.2 σ) fu (0, 0) τ = _ := e
  rw [e, bd_some, Nat.sub_zero]
  rfl
def uGar (A : Hp) (Q : List Nat) (s : Nat) (i : Nat) (a : Int32) : Int32 := if hsp A i = s ∧ ¬ i ∈ Q then a + nI (3 + hsz A i) else a
theorem c_unseen {σ : rS} {k : Nat} {A : Hp} {S : GS} (h : CR σ k A) (w : OK A) (hG : GC σ (hn A) S) {s : Nat} (hs : s < 2147483648) : fX3_unseenCells k (nI s) σ = some (acc (uGar A S.1 s) (hn A) 0 0, σ) := by
  have hw := w.n
  unfold fX3_unseenCells
  have e := lp_acc (step := fun (x : (Int32 × Int32)) σ => fX3_unseenCells_L5 k (nI s) x.1 x.2 σ) (u := uGar A S.1 s) (n := hn A) (σ := σ) (fun i a hi => by
    have hp := w.sp hi
    unfold fX3_unseenCells_L5 fX3_unseenCells_j44L5 uGar
    simp (disch := omega) only [pn_lt, pn_neg, pn_eq, pn_eq0, pn_eq1, pn_eq2, pn_m1, pn_m1', pn_m1lt, pn_ix, pn_bnd, pn_add1, pn_add3, pn_mul4, nI_add, bd_some, st_eq, rd_eq, if_true, if_false, ite_true, ite_false, reduceIte, h.n, hi, h.sp hi, hG.2.2.2.2.1 i (by omega), e_cells h w hi]
    by_cases h1 : hsp A i = s
    · by_cases h2 : i ∈ S.1
      · simp [h1, h2]
      · simp [h1, h2]
    · simp [h1]) (fun a => by
    unfold fX3_unseenCells_L5
    simp (disch := omega) only [pn_lt, pn_neg, pn_eq, pn_eq0, pn_eq1, pn_eq2, pn_m1, pn_m1', pn_m1lt, pn_ix, pn_bnd, pn_add1, pn_add3, pn_mul4, nI_add, bd_some, st_eq, rd_eq, if_true, if_false, ite_true, ite_false, reduceIte, h.n, Nat.lt_irrefl]) fu 0 0 (by omega) (fu_0 (by omega))
  have e : lp (fun (x : (Int32 × Int32)) σ => fX3_unseenCells_L5 k (nI s) x.1 x.2 σ) fu (0, 0) σ = _ := e
  rw [e, bd_some, Nat.sub_zero]
theorem m_unmet {τ : rS} {A : Hp} {Q : List Nat} (hM : MR (τ 66 0) A) (w : OK A) (hG : GM τ (hn A) Q) {s : Nat} (hs : s < 2147483648) : lp (fun (x : (Int32 × Int32)) σ => fX10_garbage_L40 (nI s) x.1 x.2 σ) fu (0, 0) τ = some (acc (uGar A Q s) (hn A) 0 0, τ) := by
  have hw := w.n
  have e0 : τ 66 0 (ix 0) = nI (hn A) := hM.n
  have e := lp_acc (step := fun (x : (Int32 × Int32)) σ => fX10_garbage_L40 (nI s) x.1 x.2 σ) (u := uGar A Q s) (n := hn A) (σ := τ) (fun i a hi => by
    have hp := w.sp hi
    unfold fX10_garbage_L40 fX10_garbage_j84L40 fX10_garbage_j85L40 uGar
    dsimp only
    rw [e0]
    simp (disch := omega) only [pn_lt, pn_neg, pn_eq, pn_eq0, pn_eq1, pn_eq2, pn_m1, pn_m1', pn_m1lt, pn_ix, pn_bnd, pn_add1, pn_add3, pn_mul4, nI_add, bd_some, st_eq, rd_eq, if_true, if_false, ite_true, ite_false, reduceIte, hi, hG.2.2.2.2 i (by omega), e_of5 hM w hi, e_sizeOf hM w hi]
    by_cases h1 : hsp A i = s
    · by_cases h2 : i ∈ Q
      · simp [h1, h2]
      · simp [h1, h2]
    · by_cases h2 : i ∈ Q
      · simp [h1, h2]
      · simp [h1, h2]) (fun a => by
    unfold fX10_garbage_L40
    dsimp only
    rw [e0]
    simp (disch := omega) only [pn_lt, pn_neg, pn_eq, pn_eq0, pn_eq1, pn_eq2, pn_m1, pn_m1', pn_m1lt, pn_ix, pn_bnd, pn_add1, pn_add3, pn_mul4, nI_add, bd_some, st_eq, rd_eq, if_true, if_false, ite_true, ite_false, reduceIte, Nat.lt_irrefl]) fu 0 0 (by omega) (fu_0 (by omega))
  rw [Nat.sub_zero] at e
  exact e
