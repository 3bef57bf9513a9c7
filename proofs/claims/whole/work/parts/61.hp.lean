/-! a heap as a value: slots 0 .. n-1 -/
abbrev Hp : Type := Nat × (Nat → Nat → Nat) × (Nat → Nat → Int32) × (Nat → Nat → Option Nat) × (Nat → Option Nat) × List Nat × List Nat × List (Nat × Nat) × (Nat → Int32) × Int32
def hn (A : Hp) : Nat := A.1
def hnum (A : Hp) (i : Nat) : Nat := A.2.1 0 i
def hsz (A : Hp) (i : Nat) : Nat := A.2.1 1 i
def hsp (A : Hp) (i : Nat) : Nat := A.2.1 2 i
def hpl (A : Hp) (i : Nat) : Nat := A.2.1 3 i
def hkd (A : Hp) (i : Nat) : Int32 := A.2.2.1 0 i
def hdt (A : Hp) (i : Nat) : Int32 := A.2.2.1 1 i
def hag (A : Hp) (i : Nat) : Int32 := A.2.2.1 2 i
def hlk (A : Hp) (i f : Nat) : Option Nat := A.2.2.2.1 i f
def hrt (A : Hp) (r : Nat) : Option Nat := A.2.2.2.2.1 r
def hen (A : Hp) : List Nat := A.2.2.2.2.2.1
def hlo (A : Hp) : List Nat := A.2.2.2.2.2.2.1
def hrm (A : Hp) : List (Nat × Nat) := A.2.2.2.2.2.2.2.1
def htl (A : Hp) : Nat → Int32 := A.2.2.2.2.2.2.2.2.1
def hfl (A : Hp) : Int32 := A.2.2.2.2.2.2.2.2.2
/-- cells of a space in use -/
def usedA (A : Hp) (s : Nat) : Nat := sumN (fun i => if hsp A i = s then 3 + hsz A i else 0) (hn A)
/-- a line's row -/
def Ln (σ : rS) (j : Nat) (xs : List Int32) : Prop := σ 4 j 1 = nI xs.length ∧ xs.length ≤ lnLen j ∧ ∀ i, i < xs.length → σ 28 j i = xs.getD i 0
def CRo (σ : rS) (k : Nat) (A : Hp) (i : Nat) : Prop := (σ 45 k i = nI (hnum A i) ∧ σ 46 k i = hkd A i ∧ σ 47 k i = nI (hsz A i) ∧ σ 48 k i = hdt A i ∧ σ 49 k i = hag A i ∧ σ 50 k i = nI (hsp A i) ∧ σ 51 k i = nI (hpl A i)) ∧ ∀ f, f < hsz A i → σ 52 k (i * 4 + f) = enc (hlk A i f)
/-- the class's State k shows A -/
def CR (σ : rS) (k : Nat) (A : Hp) : Prop := σ 7 k 0 = nI (hn A) ∧ (∀ i, i < hn A → CRo σ k A i) ∧ (∀ r, r < 8 → σ 53 k r = enc (hrt A r)) ∧ (∀ s, s < 3 → σ 54 k s = nI (usedA A s)) ∧ (∀ t, t < 8 → σ 55 k t = htl A t) ∧ σ 7 k 1 = hfl A ∧ Ln σ (6 * k) ((hen A).map nI) ∧ Ln σ (6 * k + 1) ((hlo A).map nI) ∧ Ln σ (6 * k + 2) ((hrm A).map (fun q => nI (q.1 * 4 + q.2)))
/-- what a link shows in the model's row -/
def encN (A : Hp) (o : Option Nat) : Int32 := match o with
  | none => 0
  | some j => nI (hnum A j)
def MRo (m : Nat → Int32) (A : Hp) (i : Nat) : Prop := (m (1 + 11 * i) = nI (hnum A i) ∧ m (2 + 11 * i) = hkd A i ∧ m (3 + 11 * i) = nI (hsz A i) ∧ m (4 + 11 * i) = hdt A i ∧ m (5 + 11 * i) = hag A i ∧ m (6 + 11 * i) = nI (hsp A i) ∧ m (7 + 11 * i) = nI (hpl A i)) ∧ ∀ f, f < hsz A i → m (8 + 11 * i + f) = encN A (hlk A i f)
/-- the model's row m shows A -/
def MR (m : Nat → Int32) (A : Hp) : Prop := m 0 = nI (hn A) ∧ (∀ i, i < hn A → MRo m A i) ∧ (∀ r, r < 8 → m (881 + r) = encN A (hrt A r)) ∧ (m 889 = nI (hrm A).length ∧ ∀ i, i < (hrm A).length → m (890 + 2 * i) = nI (hnum A ((hrm A).getD i (0, 0)).1) ∧ m (891 + 2 * i) = nI ((hrm A).getD i (0, 0)).2) ∧ (m 1242 = nI (hen A).length ∧ ∀ i, i < (hen A).length → m (1243 + i) = nI (hnum A ((hen A).getD i 0))) ∧ (m 1323 = nI (hlo A).length ∧ ∀ i, i < (hlo A).length → m (1324 + i) = nI ((hlo A).getD i 0)) ∧ (∀ t, t < 8 → m (1364 + t) = htl A t) ∧ m 1372 = hfl A
/-- the plain bounds -/
def OKo (A : Hp) (i : Nat) : Prop := (1 ≤ hnum A i ∧ hnum A i < 1000000) ∧ hsz A i ≤ 4 ∧ hsp A i ≤ 2 ∧ hpl A i ≤ 128 ∧ ∀ f j, f < hsz A i → hlk A i f = some j → j < hn A
def OK (A : Hp) : Prop := hn A ≤ 78 ∧ (∀ i, i < hn A → OKo A i) ∧ (∀ r j, r < 8 → hrt A r = some j → j < hn A) ∧ (∀ j ∈ hen A, j < hn A) ∧ (∀ q ∈ hrm A, q.1 < hn A ∧ q.2 < hsz A q.1) ∧ (∀ i j, i < j → j < hn A → hnum A i < hnum A j)
theorem OK.n {A : Hp} (w : OK A) : hn A ≤ 78 := w.1
theorem OK.sz {A : Hp} (w : OK A) {i : Nat} (hi : i < hn A) : hsz A i ≤ 4 := (w.2.1 i hi).2.1
theorem OK.sp {A : Hp} (w : OK A) {i : Nat} (hi : i < hn A) : hsp A i ≤ 2 := (w.2.1 i hi).2.2.1
theorem OK.pl {A : Hp} (w : OK A) {i : Nat} (hi : i < hn A) : hpl A i ≤ 128 := (w.2.1 i hi).2.2.2.1
theorem OK.num1 {A : Hp} (w : OK A) {i : Nat} (hi : i < hn A) : 1 ≤ hnum A i := (w.2.1 i hi).1.1
theorem OK.num2 {A : Hp} (w : OK A) {i : Nat} (hi : i < hn A) : hnum A i < 1000000 := (w.2.1 i hi).1.2
theorem OK.lk {A : Hp} (w : OK A) {i f j : Nat} (hi : i < hn A) (hf : f < hsz A i) (h : hlk A i f = some j) : j < hn A := (w.2.1 i hi).2.2.2.2 f j hf h
theorem OK.rt {A : Hp} (w : OK A) {r j : Nat} (hr : r < 8) (h : hrt A r = some j) : j < hn A := w.2.2.1 r j hr h
theorem OK.en {A : Hp} (w : OK A) {j : Nat} (h : j ∈ hen A) : j < hn A := w.2.2.2.1 j h
theorem OK.rm {A : Hp} (w : OK A) {q : Nat × Nat} (h : q ∈ hrm A) : q.1 < hn A ∧ q.2 < hsz A q.1 := w.2.2.2.2.1 q h
theorem OK.inj {A : Hp} (w : OK A) {i j : Nat} (hi : i < hn A) (hj : j < hn A) (h : hnum A i = hnum A j) : i = j := by
  rcases Nat.lt_trichotomy i j with g | g | g
  · have := w.2.2.2.2.2 i j g hj; omega
  · exact g
  · have := w.2.2.2.2.2 j i g hi; omega
section CRs
variable {σ : rS} {k : Nat} {A : Hp} {i j f : Nat}
theorem CR.n (h : CR σ k A) : σ 7 k 0 = nI (hn A) := h.1
theorem CR.num (h : CR σ k A) (hi : i < hn A) : σ 45 k i = nI (hnum A i) := (h.2.1 i hi).1.1
theorem CR.kd (h : CR σ k A) (hi : i < hn A) : σ 46 k i = hkd A i := (h.2.1 i hi).1.2.1
theorem CR.sz (h : CR σ k A) (hi : i < hn A) : σ 47 k i = nI (hsz A i) := (h.2.1 i hi).1.2.2.1
theorem CR.dt (h : CR σ k A) (hi : i < hn A) : σ 48 k i = hdt A i := (h.2.1 i hi).1.2.2.2.1
theorem CR.ag (h : CR σ k A) (hi : i < hn A) : σ 49 k i = hag A i := (h.2.1 i hi).1.2.2.2.2.1
theorem CR.sp (h : CR σ k A) (hi : i < hn A) : σ 50 k i = nI (hsp A i) := (h.2.1 i hi).1.2.2.2.2.2.1
theorem CR.pl (h : CR σ k A) (hi : i < hn A) : σ 51 k i = nI (hpl A i) := (h.2.1 i hi).1.2.2.2.2.2.2
theorem CR.lk (h : CR σ k A) (hi : i < hn A) (hf : f < hsz A i) : σ 52 k (i * 4 + f) = enc (hlk A i f) := (h.2.1 i hi).2 f hf
theorem CR.rt (h : CR σ k A) {r : Nat} (hr : r < 8) : σ 53 k r = enc (hrt A r) := h.2.2.1 r hr
theorem CR.us (h : CR σ k A) {s : Nat} (hs : s < 3) : σ 54 k s = nI (usedA A s) := h.2.2.2.1 s hs
theorem CR.tl (h : CR σ k A) {t : Nat} (ht : t < 8) : σ 55 k t = htl A t := h.2.2.2.2.1 t ht
theorem CR.fl (h : CR σ k A) : σ 7 k 1 = hfl A := h.2.2.2.2.2.1
theorem CR.en (h : CR σ k A) : Ln σ (6 * k) ((hen A).map nI) := h.2.2.2.2.2.2.1
theorem CR.lo (h : CR σ k A) : Ln σ (6 * k + 1) ((hlo A).map nI) := h.2.2.2.2.2.2.2.1
theorem CR.rm (h : CR σ k A) : Ln σ (6 * k + 2) ((hrm A).map (fun q => nI (q.1 * 4 + q.2))) := h.2.2.2.2.2.2.2.2
/-- another store that has State k's rows as they were -/
theorem CR.of_eq {σ' : rS} (h : CR σ k A) (e7 : σ' 7 k = σ 7 k) (ec : ∀ c, 45 ≤ c → c < 56 → σ' c k = σ c k) (e4 : ∀ j, j < 3 → σ' 4 (6 * k + j) = σ 4 (6 * k + j) ∧ σ' 28 (6 * k + j) = σ 28 (6 * k + j)) : CR σ' k A := by
  have f4 : ∀ (j : Nat) (xs : List Int32), j < 3 → Ln σ (6 * k + j) xs → Ln σ' (6 * k + j) xs := fun j xs hj hL => by
    unfold Ln at hL ⊢
    rw [(e4 j hj).1, (e4 j hj).2]
    exact hL
  refine ⟨by rw [e7]; exact h.n, fun i hi => ?_, fun r hr => by rw [ec 53 (by omega) (by omega)]; exact h.rt hr, fun s hs => by rw [ec 54 (by omega) (by omega)]; exact h.us hs, fun t ht => by rw [ec 55 (by omega) (by omega)]; exact h.tl ht, by rw [e7]; exact h.fl, f4 0 _ (by omega) h.en, f4 1 _ (by omega) h.lo, f4 2 _ (by omega) h.rm⟩
  unfold CRo
  rw [ec 45 (by omega) (by omega), ec 46 (by omega) (by omega), ec 47 (by omega) (by omega), ec 48 (by omega) (by omega), ec 49 (by omega) (by omega), ec 50 (by omega) (by omega), ec 51 (by omega) (by omega), ec 52 (by omega) (by omega)]
  exact h.2.1 i hi
theorem CR.frame {σ' : rS} (h : CR σ k A) {W : List Nat} (hf : ∀ c, ¬ c ∈ W → σ' c = σ c) (hW : ∀ c, (c = 7 ∨ c = 4 ∨ c = 28 ∨ (45 ≤ c ∧ c < 56)) → ¬ c ∈ W) : CR σ' k A :=
  h.of_eq (by rw [hf 7 (hW 7 (by omega))]) (fun c h1 h2 => by rw [hf c (hW c (by omega))]) (fun j _ => ⟨by rw [hf 4 (hW 4 (by omega))], by rw [hf 28 (hW 28 (by omega))]⟩)
theorem e_isSlot_n : fX7_isSlot k (-1) σ = some (0, σ) := by
  unfold fX7_isSlot
  rw [if_pos (by decide)]
theorem e_isSlot (h : CR σ k A) (w : OK A) (hj : j < hn A) : fX7_isSlot k (nI j) σ = some (1, σ) := by
  have := w.n
  unfold fX7_isSlot
  simp (disch := omega) only [h.n, pn_lt, pn_neg, pn_eq, pn_eq0, pn_eq1, pn_eq2, pn_m1, pn_m1', pn_m1lt, pn_ix, pn_bnd, pn_add1, pn_add3, pn_mul4, nI_add, bd_some, st_eq, rd_eq, if_true, if_false, ite_true, ite_false, reduceIte, hj]
theorem e_isYoung_n : fX7_isYoung k (-1) σ = some (0, σ) := by
  unfold fX7_isYoung
  rw [if_pos (by decide)]
theorem e_isYoung (h : CR σ k A) (w : OK A) (hj : j < hn A) : fX7_isYoung k (nI j) σ = some (if hsp A j = 2 then 0 else 1, σ) := by
  have := w.n
  have := w.sp hj
  unfold fX7_isYoung
  simp (disch := omega) only [h.n, pn_lt, pn_neg, pn_eq, pn_eq0, pn_eq1, pn_eq2, pn_m1, pn_m1', pn_m1lt, pn_ix, pn_bnd, pn_add1, pn_add3, pn_mul4, nI_add, bd_some, st_eq, rd_eq, if_true, if_false, ite_true, ite_false, reduceIte, hj, h.sp hj]
  split <;> rfl
/-- the first field that isn't weak -/
def fst0 (A : Hp) (j : Nat) : Nat := if hkd A j = 1 then 1 else 0
theorem e_firstStrong (h : CR σ k A) (w : OK A) (hj : j < hn A) : fX7_firstStrong k (nI j) σ = some (nI (fst0 A j), σ) := by
  have := w.n
  unfold fX7_firstStrong fst0
  simp (disch := omega) only [h.n, pn_lt, pn_neg, pn_eq, pn_eq0, pn_eq1, pn_eq2, pn_m1, pn_m1', pn_m1lt, pn_ix, pn_bnd, pn_add1, pn_add3, pn_mul4, nI_add, bd_some, st_eq, rd_eq, if_true, if_false, ite_true, ite_false, reduceIte, hj, h.kd hj]
  split <;> rfl
theorem e_isWeak (h : CR σ k A) (w : OK A) (hj : j < hn A) : fX7_isWeak k (nI j) σ = some (if hkd A j = 1 then 1 else 0, σ) := by
  have := w.n
  unfold fX7_isWeak
  simp (disch := omega) only [h.n, pn_lt, pn_neg, pn_eq, pn_eq0, pn_eq1, pn_eq2, pn_m1, pn_m1', pn_m1lt, pn_ix, pn_bnd, pn_add1, pn_add3, pn_mul4, nI_add, bd_some, st_eq, rd_eq, if_true, if_false, ite_true, ite_false, reduceIte, hj, h.kd hj]
  split <;> rfl
theorem e_fieldsOf (h : CR σ k A) (w : OK A) (hj : j < hn A) : fX7_fieldsOf k (nI j) σ = some (nI (hsz A j), σ) := by
  have := w.n
  unfold fX7_fieldsOf
  simp (disch := omega) only [h.n, pn_lt, pn_neg, pn_eq, pn_eq0, pn_eq1, pn_eq2, pn_m1, pn_m1', pn_m1lt, pn_ix, pn_bnd, pn_add1, pn_add3, pn_mul4, nI_add, bd_some, st_eq, rd_eq, if_true, if_false, ite_true, ite_false, reduceIte, hj, h.sz hj]
theorem e_cells (h : CR σ k A) (w : OK A) (hj : j < hn A) : fX7_cells k (nI j) σ = some (nI (3 + hsz A j), σ) := by
  have := w.n
  unfold fX7_cells
  simp (disch := omega) only [h.n, pn_lt, pn_neg, pn_eq, pn_eq0, pn_eq1, pn_eq2, pn_m1, pn_m1', pn_m1lt, pn_ix, pn_bnd, pn_add1, pn_add3, pn_mul4, nI_add, bd_some, st_eq, rd_eq, if_true, if_false, ite_true, ite_false, reduceIte, hj, h.sz hj]
theorem e_target (h : CR σ k A) (w : OK A) (hj : j < hn A) (hf : f < hsz A j) : fX7_target k (nI j) (nI f) σ = some (enc (hlk A j f), σ) := by
  have := w.n
  have := w.sz hj
  unfold fX7_target
  simp (disch := omega) only [h.n, pn_lt, pn_neg, pn_eq, pn_eq0, pn_eq1, pn_eq2, pn_m1, pn_m1', pn_m1lt, pn_ix, pn_bnd, pn_add1, pn_add3, pn_mul4, nI_add, bd_some, st_eq, rd_eq, if_true, if_false, ite_true, ite_false, reduceIte, hj, h.sz hj, hf, h.lk hj hf]
theorem e_hasField (h : CR σ k A) (w : OK A) (hj : j < hn A) (x : Int32) : fX7_hasField k (nI j) x σ = some (if x < 0 then 0 else if x < nI (hsz A j) then 1 else 0, σ) := by
  have := w.n
  unfold fX7_hasField
  simp (disch := omega) only [h.n, pn_lt, pn_neg, pn_eq, pn_eq0, pn_eq1, pn_eq2, pn_m1, pn_m1', pn_m1lt, pn_ix, pn_bnd, pn_add1, pn_add3, pn_mul4, nI_add, bd_some, st_eq, rd_eq, if_true, if_false, ite_true, ite_false, reduceIte, hj, h.sz hj]
  split
  · rfl
  · split <;> rfl
theorem e_hasField_n (x : Int32) : fX7_hasField k (-1) x σ = some (0, σ) := by
  unfold fX7_hasField
  rw [if_pos (by decide)]
theorem e_numberOf (h : CR σ k A) (w : OK A) (hj : j < hn A) : fX7_numberOf k (nI j) σ = some (nI (hnum A j), σ) := by
  have := w.n
  unfold fX7_numberOf
  rw [e_isSlot h w hj, bd_some, if_neg (by decide)]
  simp (disch := omega) only [pn_lt, pn_neg, pn_eq, pn_eq0, pn_eq1, pn_eq2, pn_m1, pn_m1', pn_m1lt, pn_ix, pn_bnd, pn_add1, pn_add3, pn_mul4, nI_add, bd_some, st_eq, rd_eq, if_true, if_false, ite_true, ite_false, reduceIte, h.num hj]
theorem e_numberOf_n : fX7_numberOf k (-1) σ = some (0, σ) := by
  unfold fX7_numberOf
  rw [e_isSlot_n, bd_some, if_pos rfl]
theorem e_numberOf_o (h : CR σ k A) (w : OK A) {o : Option Nat} (ho : ∀ j, o = some j → j < hn A) : fX7_numberOf k (enc o) σ = some (encN A o, σ) := by
  cases o with
  | none => exact e_numberOf_n
  | some j => exact e_numberOf h w (ho j rfl)
/-- the slot of a number -/
def findA (A : Hp) (x : Int32) : Option Nat := fst1 (fun i => decide (nI (hnum A i) = x)) (hn A) 0
theorem e_find (h : CR σ k A) (w : OK A) (x : Int32) : fX7_find k x σ = some (enc (findA A x), σ) := by
  have hw := w.n
  unfold fX7_find
  have e := lp_find (step := fun x2 σ => fX7_find_L2 k x x2 σ) (p := fun i => decide (nI (hnum A i) = x)) (n := hn A) (σ := σ) (by omega)
    (fun i hi hp => by
      have hp : nI (hnum A i) = x := of_decide_eq_true hp
      unfold fX7_find_L2
      simp (disch := omega) only [h.n, pn_lt, pn_neg, pn_eq, pn_eq0, pn_eq1, pn_eq2, pn_m1, pn_m1', pn_m1lt, pn_ix, pn_bnd, pn_add1, pn_add3, pn_mul4, nI_add, bd_some, st_eq, rd_eq, if_true, if_false, ite_true, ite_false, reduceIte, hi, h.num hi, hp])
    (fun i hi hp => by
      have hp : ¬ nI (hnum A i) = x := of_decide_eq_false hp
      unfold fX7_find_L2
      simp (disch := omega) only [h.n, pn_lt, pn_neg, pn_eq, pn_eq0, pn_eq1, pn_eq2, pn_m1, pn_m1', pn_m1lt, pn_ix, pn_bnd, pn_add1, pn_add3, pn_mul4, nI_add, bd_some, st_eq, rd_eq, if_true, if_false, ite_true, ite_false, reduceIte, hi, h.num hi, hp])
    (by
      unfold fX7_find_L2
      simp (disch := omega) only [h.n, pn_lt, pn_neg, pn_eq, pn_eq0, pn_eq1, pn_eq2, pn_m1, pn_m1', pn_m1lt, pn_ix, pn_bnd, pn_add1, pn_add3, pn_mul4, nI_add, bd_some, st_eq, rd_eq, if_true, if_false, ite_true, ite_false, reduceIte, Nat.lt_irrefl]) fu 0 (Nat.zero_le _) (by have := fu_ge; omega)
  have e : lp (fun x2 σ => fX7_find_L2 k x x2 σ) fu 0 σ = _ := e
  rw [e, bd_some]
  unfold findA
  rw [Nat.sub_zero]
  cases fst1 (fun i => decide (nI (hnum A i) = x)) (hn A) 0 <;> rfl
theorem findA_lt {x : Int32} (hf : findA A x = some j) : j < hn A ∧ nI (hnum A j) = x := by
  obtain ⟨-, h2, h3, -⟩ := fst1_some hf
  exact ⟨by omega, of_decide_eq_true h3⟩
theorem findA_num (w : OK A) (hj : j < hn A) : findA A (nI (hnum A j)) = some j := by
  refine fst1_eq (Nat.zero_le _) (by omega) (decide_eq_true rfl) (fun i _ hi => decide_eq_false (fun e => ?_))
  have h1 := w.num2 (i := i) (by omega)
  have h2 := w.num2 hj
  rw [nI_eq (by omega) (by omega)] at e
  have := w.inj (by omega) hj e
  omega
theorem findA_0 (w : OK A) : findA A 0 = none := by
  refine fst1_no (fun i _ hi => decide_eq_false (fun e => ?_))
  have h1 := w.num1 (i := i) (by omega)
  have h2 := w.num2 (i := i) (by omega)
  rw [pn_eq0 (by omega)] at e
  omega
end CRs
section MRs
variable {τ : rS} {v : Nat} {A : Hp} {i j f c : Nat}
theorem MR.n (h : MR (τ 66 v) A) : τ 66 v 0 = nI (hn A) := h.1
theorem MR.num (h : MR (τ 66 v) A) (hi : i < hn A) : τ 66 v (1 + 11 * i) = nI (hnum A i) := (h.2.1 i hi).1.1
theorem MR.kd (h : MR (τ 66 v) A) (hi : i < hn A) : τ 66 v (2 + 11 * i) = hkd A i := (h.2.1 i hi).1.2.1
theorem MR.sz (h : MR (τ 66 v) A) (hi : i < hn A) : τ 66 v (3 + 11 * i) = nI (hsz A i) := (h.2.1 i hi).1.2.2.1
theorem MR.dt (h : MR (τ 66 v) A) (hi : i < hn A) : τ 66 v (4 + 11 * i) = hdt A i := (h.2.1 i hi).1.2.2.2.1
theorem MR.ag (h : MR (τ 66 v) A) (hi : i < hn A) : τ 66 v (5 + 11 * i) = hag A i := (h.2.1 i hi).1.2.2.2.2.1
theorem MR.sp (h : MR (τ 66 v) A) (hi : i < hn A) : τ 66 v (6 + 11 * i) = nI (hsp A i) := (h.2.1 i hi).1.2.2.2.2.2.1
theorem MR.pl (h : MR (τ 66 v) A) (hi : i < hn A) : τ 66 v (7 + 11 * i) = nI (hpl A i) := (h.2.1 i hi).1.2.2.2.2.2.2
theorem MR.lk (h : MR (τ 66 v) A) (hi : i < hn A) (hf : f < hsz A i) : τ 66 v (8 + 11 * i + f) = encN A (hlk A i f) := (h.2.1 i hi).2 f hf
theorem MR.rt (h : MR (τ 66 v) A) {r : Nat} (hr : r < 8) : τ 66 v (881 + r) = encN A (hrt A r) := h.2.2.1 r hr
theorem MR.rm (h : MR (τ 66 v) A) : τ 66 v 889 = nI (hrm A).length := h.2.2.2.1.1
theorem MR.en (h : MR (τ 66 v) A) : τ 66 v 1242 = nI (hen A).length := h.2.2.2.2.1.1
theorem MR.eni (h : MR (τ 66 v) A) (hi : i < (hen A).length) : τ 66 v (1243 + i) = nI (hnum A ((hen A).getD i 0)) := h.2.2.2.2.1.2 i hi
theorem MR.lo (h : MR (τ 66 v) A) : τ 66 v 1323 = nI (hlo A).length := h.2.2.2.2.2.1.1
theorem MR.loi (h : MR (τ 66 v) A) (hi : i < (hlo A).length) : τ 66 v (1324 + i) = nI ((hlo A).getD i 0) := h.2.2.2.2.2.1.2 i hi
theorem MR.tl (h : MR (τ 66 v) A) {t : Nat} (ht : t < 8) : τ 66 v (1364 + t) = htl A t := h.2.2.2.2.2.2.1 t ht
theorem MR.fl (h : MR (τ 66 v) A) : τ 66 v 1372 = hfl A := h.2.2.2.2.2.2.2
theorem pm_cell (i c : Nat) : (1 + (11 * nI i)) + nI c = nI (1 + 11 * i + c) := by
  have e : (11 : Int32) * nI i = nI (11 * i) := (Int32.ofNat_mul 11 i).symm
  rw [e]
  show nI 1 + nI (11 * i) + nI c = _
  rw [nI_add, nI_add]
theorem e_of (h : 1 + 11 * i + c < 1554) : fX10_of v (nI i) (nI c) τ = some (τ 66 v (1 + 11 * i + c), τ) := by
  unfold fX10_of
  rw [pm_cell, pn_bnd h (by decide)]
  simp (disch := omega) only [pn_ix]
theorem e_of0 (h : MR (τ 66 v) A) (w : OK A) (hi : i < hn A) : fX10_of v (nI i) 0 τ = some (nI (hnum A i), τ) := by
  have := w.n
  have e := e_of (v := v) (τ := τ) (i := i) (c := 0) (by omega)
  rw [show 1 + 11 * i + 0 = 1 + 11 * i by omega, h.num hi] at e
  exact e
theorem e_of1 (h : MR (τ 66 v) A) (w : OK A) (hi : i < hn A) : fX10_of v (nI i) 1 τ = some (hkd A i, τ) := by
  have := w.n
  have e := e_of (v := v) (τ := τ) (i := i) (c := 1) (by omega)
  rw [show 1 + 11 * i + 1 = 2 + 11 * i by omega, h.kd hi] at e
  exact e
theorem e_of2 (h : MR (τ 66 v) A) (w : OK A) (hi : i < hn A) : fX10_of v (nI i) 2 τ = some (nI (hsz A i), τ) := by
  have := w.n
  have e := e_of (v := v) (τ := τ) (i := i) (c := 2) (by omega)
  rw [show 1 + 11 * i + 2 = 3 + 11 * i by omega, h.sz hi] at e
  exact e
theorem e_of3 (h : MR (τ 66 v) A) (w : OK A) (hi : i < hn A) : fX10_of v (nI i) 3 τ = some (hdt A i, τ) := by
  have := w.n
  have e := e_of (v := v) (τ := τ) (i := i) (c := 3) (by omega)
  rw [show 1 + 11 * i + 3 = 4 + 11 * i by omega, h.dt hi] at e
  exact e
theorem e_of4 (h : MR (τ 66 v) A) (w : OK A) (hi : i < hn A) : fX10_of v (nI i) 4 τ = some (hag A i, τ) := by
  have := w.n
  have e := e_of (v := v) (τ := τ) (i := i) (c := 4) (by omega)
  rw [show 1 + 11 * i + 4 = 5 + 11 * i by omega, h.ag hi] at e
  exact e
theorem e_of5 (h : MR (τ 66 v) A) (w : OK A) (hi : i < hn A) : fX10_of v (nI i) 5 τ = some (nI (hsp A i), τ) := by
  have := w.n
  have e := e_of (v := v) (τ := τ) (i := i) (c := 5) (by omega)
  rw [show 1 + 11 * i + 5 = 6 + 11 * i by omega, h.sp hi] at e
  exact e
theorem e_of6 (h : MR (τ 66 v) A) (w : OK A) (hi : i < hn A) : fX10_of v (nI i) 6 τ = some (nI (hpl A i), τ) := by
  have := w.n
  have e := e_of (v := v) (τ := τ) (i := i) (c := 6) (by omega)
  rw [show 1 + 11 * i + 6 = 7 + 11 * i by omega, h.pl hi] at e
  exact e
theorem e_of7 (h : MR (τ 66 v) A) (w : OK A) (hi : i < hn A) (hf : f < hsz A i) : fX10_of v (nI i) (7 + nI f) τ = some (encN A (hlk A i f), τ) := by
  have := w.n
  have := w.sz hi
  have e := e_of (v := v) (τ := τ) (i := i) (c := 7 + f) (by omega)
  rw [show 1 + 11 * i + (7 + f) = 8 + 11 * i + f by omega, h.lk hi hf, ← nI_add] at e
  exact e
theorem e_sizeOf (h : MR (τ 66 v) A) (w : OK A) (hi : i < hn A) : fX10_sizeOf v (nI i) τ = some (nI (3 + hsz A i), τ) := by
  unfold fX10_sizeOf
  rw [e_of2 h w hi, bd_some, pn_add3]
theorem e_isOld (h : MR (τ 66 v) A) (w : OK A) (hi : i < hn A) : fX10_isOld v (nI i) τ = some (if hsp A i = 2 then 1 else 0, τ) := by
  have := w.sp hi
  unfold fX10_isOld
  rw [e_of5 h w hi, bd_some]
  simp (disch := omega) only [pn_lt, pn_neg, pn_eq, pn_eq0, pn_eq1, pn_eq2, pn_m1, pn_m1', pn_m1lt, pn_ix, pn_bnd, pn_add1, pn_add3, pn_mul4, nI_add, bd_some, st_eq, rd_eq, if_true, if_false, ite_true, ite_false, reduceIte]
  split <;> rfl
theorem e_isWeakM (h : MR (τ 66 v) A) (w : OK A) (hi : i < hn A) (hf : f < 2147483648) : fX10_isWeak v (nI i) (nI f) τ = some (if f < fst0 A i then 1 else 0, τ) := by
  unfold fX10_isWeak fst0
  simp (disch := omega) only [pn_lt, pn_neg, pn_eq, pn_eq0, pn_eq1, pn_eq2, pn_m1, pn_m1', pn_m1lt, pn_ix, pn_bnd, pn_add1, pn_add3, pn_mul4, nI_add, bd_some, st_eq, rd_eq, if_true, if_false, ite_true, ite_false, reduceIte]
  by_cases e : f = 0
  · subst e
    rw [if_pos rfl, e_of1 h w hi, bd_some]
    by_cases g : hkd A i = 1
    · rw [if_pos g, if_pos g]; rfl
    · rw [if_neg g, if_neg g]; rfl
  · rw [if_neg e, if_neg (by split <;> omega)]
theorem e_spotOf (h : MR (τ 66 v) A) (w : OK A) (x : Int32) : fX10_spotOf_ v x τ = some (enc (findA A x), τ) := by
  have hw := w.n
  unfold fX10_spotOf_
  by_cases hx : x = 0
  · subst hx
    rw [if_pos rfl, findA_0 w]
    rfl
  · rw [if_neg hx]
    have e := lp_find (step := fun x2 σ => fX10_spotOf__L8 v x x2 σ) (p := fun i => decide (nI (hnum A i) = x)) (n := hn A) (σ := τ) (by omega)
      (fun i hi hp => by
        have hp : nI (hnum A i) = x := of_decide_eq_true hp
        unfold fX10_spotOf__L8
        rw [e_of0 h w hi]
        have h0 : τ 66 v (ix 0) = nI (hn A) := h.n
        simp (disch := omega) only [h0, pn_lt, pn_neg, pn_eq, pn_eq0, pn_eq1, pn_eq2, pn_m1, pn_m1', pn_m1lt, pn_ix, pn_bnd, pn_add1, pn_add3, pn_mul4, nI_add, bd_some, st_eq, rd_eq, if_true, if_false, ite_true, ite_false, reduceIte, hi, hp])
      (fun i hi hp => by
        have hp : ¬ nI (hnum A i) = x := of_decide_eq_false hp
        unfold fX10_spotOf__L8
        rw [e_of0 h w hi]
        have h0 : τ 66 v (ix 0) = nI (hn A) := h.n
        simp (disch := omega) only [h0, pn_lt, pn_neg, pn_eq, pn_eq0, pn_eq1, pn_eq2, pn_m1, pn_m1', pn_m1lt, pn_ix, pn_bnd, pn_add1, pn_add3, pn_mul4, nI_add, bd_some, st_eq, rd_eq, if_true, if_false, ite_true, ite_false, reduceIte, hi, hp])
      (by
        unfold fX10_spotOf__L8
        have h0 : τ 66 v (ix 0) = nI (hn A) := h.n
        simp (disch := omega) only [h0, pn_lt, pn_neg, pn_eq, pn_eq0, pn_eq1, pn_eq2, pn_m1, pn_m1', pn_m1lt, pn_ix, pn_bnd, pn_add1, pn_add3, pn_mul4, nI_add, bd_some, st_eq, rd_eq, if_true, if_false, ite_true, ite_false, reduceIte, Nat.lt_irrefl]) fu 0 (Nat.zero_le _) (by have := fu_ge; omega)
    have e : lp (fun x2 σ => fX10_spotOf__L8 v x x2 σ) fu 0 τ = _ := e
    rw [e, bd_some]
    unfold findA
    rw [Nat.sub_zero]
    cases fst1 (fun i => decide (nI (hnum A i) = x)) (hn A) 0 <;> rfl
theorem findA_enc (w : OK A) {o : Option Nat} (ho : ∀ j, o = some j → j < hn A) : findA A (encN A o) = o := by
  cases o with
  | none => exact findA_0 w
  | some j => exact findA_num w (ho j rfl)
theorem e_spotOf_o (h : MR (τ 66 v) A) (w : OK A) {o : Option Nat} (ho : ∀ j, o = some j → j < hn A) : fX10_spotOf_ v (encN A o) τ = some (enc o, τ) := by
  rw [e_spotOf h w, findA_enc w ho]
theorem e_rootSpot (h : MR (τ 66 v) A) (w : OK A) {r : Nat} (hr : r < 8) : fX10_rootSpot v (nI r) τ = some (enc (hrt A r), τ) := by
  unfold fX10_rootSpot
  have e : (881 : Int32) + nI r = nI (881 + r) := nI_add 881 r
  rw [e]
  simp (disch := omega) only [pn_lt, pn_neg, pn_eq, pn_eq0, pn_eq1, pn_eq2, pn_m1, pn_m1', pn_m1lt, pn_ix, pn_bnd, pn_add1, pn_add3, pn_mul4, nI_add, bd_some, st_eq, rd_eq, if_true, if_false, ite_true, ite_false, reduceIte, h.rt hr]
  rw [e_spotOf_o h w (fun j hj => w.rt hr hj)]
  rfl
end MRs
