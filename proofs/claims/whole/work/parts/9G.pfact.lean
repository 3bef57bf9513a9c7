/-! what a plan comes to -/
theorem sumN_upd {f f' : Nat → Nat} {j d : Nat} : ∀ {n : Nat}, j < n → f' j = f j + d → (∀ i, ¬ i = j → f' i = f i) → sumN f' n = sumN f n + d := by
  intro n
  induction n with
  | zero => intro h; omega
  | succ n ih =>
    intro hj e1 e2
    unfold sumN
    by_cases e : j = n
    · subst e
      rw [e1, sumN_congr (f := f') (g := f) (fun i hi => e2 i (by omega))]
      omega
    · rw [ih (by omega) e1 e2, e2 n (fun z => e z.symm)]
      omega
def PI (R : Nat → Nat) (A : Hp) (P : Pn) : Prop := ((pO P).Nodup ∧ (∀ j ∈ pO P, j < hn A ∧ ¬ hsp A j = 2) ∧ ∀ j ∈ pO P, pSp P j = 1 ∨ pSp P j = 2) ∧ (pF1 P = sumN (fun i => if i ∈ pO P ∧ pSp P i = 1 then 3 + hsz A i else 0) (hn A) ∧ pF2 P = sumN (fun i => if hsp A i = 2 ∨ (i ∈ pO P ∧ pSp P i = 2) then 3 + hsz A i else 0) (hn A)) ∧ (pF1 P ≤ R 1 ∧ pF2 P ≤ R 2 ∧ usedA A 2 ≤ pF2 P) ∧ (∀ j ∈ pO P, pSp P j = 1 → pPl P j + (3 + hsz A j) ≤ pF1 P) ∧ (∀ j ∈ pO P, pSp P j = 2 → usedA A 2 ≤ pPl P j ∧ pPl P j + (3 + hsz A j) ≤ pF2 P) ∧ ∀ i ∈ pO P, ∀ j ∈ pO P, ¬ i = j → pSp P i = 2 → pSp P j = 2 → pPl P i + (3 + hsz A i) ≤ pPl P j ∨ pPl P j + (3 + hsz A j) ≤ pPl P i
theorem mem_snoc {L : List Nat} {i j : Nat} : i ∈ L ++ [j] ↔ i ∈ L ∨ i = j := by
  rw [List.mem_append, List.mem_singleton]
theorem PI_0 {R : Nat → Nat} {A : Hp} (hu : usedA A 2 ≤ R 2) : PI R A (pl0 A) := by
  have nil : ∀ j, j ∈ pO (pl0 A) → False := fun j hj => (List.not_mem_nil (show j ∈ ([] : List Nat) from hj)).elim
  refine ⟨⟨List.nodup_nil, fun j hj => (nil j hj).elim, fun j hj => (nil j hj).elim⟩, ⟨?_, ?_⟩, ⟨Nat.zero_le _, hu, Nat.le_refl _⟩, fun j hj => (nil j hj).elim, fun j hj => (nil j hj).elim, fun j hj => (nil j hj).elim⟩
  · have : ∀ n, sumN (fun i => if i ∈ pO (pl0 A) ∧ pSp (pl0 A) i = 1 then 3 + hsz A i else 0) n = 0 := fun n => by
      induction n with
      | zero => rfl
      | succ n ih => unfold sumN; rw [ih, if_neg (fun z => nil n z.1)]
    rw [this]; rfl
  · show usedA A 2 = _
    unfold usedA
    refine sumN_congr (fun i _ => ?_)
    by_cases h : hsp A i = 2
    · rw [if_pos h, if_pos (Or.inl h)]
    · rw [if_neg h, if_neg (fun z => by rcases z with z | z; exact h z; exact nil i z.1)]
theorem PI_pmv {R : Nat → Nat} {A : Hp} {P : Pn} (h : PI R A P) {o : Option Nat} (ho : ∀ j, o = some j → j < hn A) : PI R A (pmv R A P o) := by
  cases o with
  | none => exact h
  | some j =>
    have hj := ho j rfl
    obtain ⟨⟨a1, a2, a3⟩, ⟨b1, b2⟩, ⟨c1, c2, c3⟩, d1, d2, d3⟩ := h
    have ne : ∀ i, i ∈ pO P → ¬ j ∈ pO P → ¬ i = j := fun i hi hj e => hj (e ▸ hi)
    rcases pmv_ways R A P j with ⟨-, e⟩ | ⟨⟨-, n2, n3⟩, ⟨s1, e⟩ | ⟨-, -, e⟩ | ⟨-, s2, e⟩⟩
    · rw [e]; exact ⟨⟨a1, a2, a3⟩, ⟨b1, b2⟩, ⟨c1, c2, c3⟩, d1, d2, d3⟩
    · rw [e]
      refine ⟨⟨snoc_nodup a1 n3, fun i hi => ?_, fun i hi => ?_⟩, ⟨?_, ?_⟩, ⟨s1.2, c2, c3⟩, fun i hi hs => ?_, fun i hi hs => ?_, fun i hi i' hi' hne hs hs' => ?_⟩
      · rcases mem_snoc.mp hi with hi | hi
        · exact a2 i hi
        · rw [hi]; exact ⟨hj, n2⟩
      · show upx (pSp P) j 1 i = 1 ∨ upx (pSp P) j 1 i = 2
        rcases mem_snoc.mp hi with hi | hi
        · rw [upx_ne (ne i hi n3)]; exact a3 i hi
        · rw [hi, upx_same]; exact Or.inl rfl
      · show pF1 P + (3 + hsz A j) = sumN (fun i => if i ∈ pO P ++ [j] ∧ upx (pSp P) j 1 i = 1 then 3 + hsz A i else 0) (hn A)
        rw [b1]
        symm
        refine sumN_upd hj ?_ (fun i hi => ?_)
        · rw [if_pos ⟨mem_snoc.mpr (Or.inr rfl), upx_same⟩, if_neg (fun z => n3 z.1)]; omega
        · have e2 : (i ∈ pO P ++ [j] ∧ upx (pSp P) j 1 i = 1) = (i ∈ pO P ∧ pSp P i = 1) := by
            rw [upx_ne hi]
            exact propext ⟨fun z => ⟨(mem_snoc.mp z.1).resolve_right hi, z.2⟩, fun z => ⟨mem_snoc.mpr (Or.inl z.1), z.2⟩⟩
          simp only [e2]
      · show pF2 P = sumN (fun i => if hsp A i = 2 ∨ (i ∈ pO P ++ [j] ∧ upx (pSp P) j 1 i = 2) then 3 + hsz A i else 0) (hn A)
        rw [b2]
        refine sumN_congr (fun i _ => ?_)
        have e2 : (hsp A i = 2 ∨ (i ∈ pO P ++ [j] ∧ upx (pSp P) j 1 i = 2)) = (hsp A i = 2 ∨ (i ∈ pO P ∧ pSp P i = 2)) := by
          apply propext
          by_cases ei : i = j
          · rw [ei, upx_same]
            constructor
            · rintro (z | z)
              · exact Or.inl z
              · exact absurd z.2 (by decide)
            · rintro (z | z)
              · exact Or.inl z
              · exact absurd z.1 n3
          · rw [upx_ne ei]
            constructor
            · rintro (z | z)
              · exact Or.inl z
              · exact Or.inr ⟨(mem_snoc.mp z.1).resolve_right ei, z.2⟩
            · rintro (z | z)
              · exact Or.inl z
              · exact Or.inr ⟨mem_snoc.mpr (Or.inl z.1), z.2⟩
        simp only [e2]
      · have hs : upx (pSp P) j 1 i = 1 := hs
        show upx (pPl P) j (pF1 P) i + (3 + hsz A i) ≤ pF1 P + (3 + hsz A j)
        rcases mem_snoc.mp hi with hi | hi
        · rw [upx_ne (ne i hi n3)] at hs ⊢
          have := d1 i hi hs
          omega
        · rw [hi, upx_same]; omega
      · have hs : upx (pSp P) j 1 i = 2 := hs
        show usedA A 2 ≤ upx (pPl P) j (pF1 P) i ∧ upx (pPl P) j (pF1 P) i + (3 + hsz A i) ≤ pF2 P
        rcases mem_snoc.mp hi with hi | hi
        · rw [upx_ne (ne i hi n3)] at hs ⊢
          exact d2 i hi hs
        · rw [hi, upx_same] at hs; cases hs
      · have hs : upx (pSp P) j 1 i = 2 := hs
        have hs' : upx (pSp P) j 1 i' = 2 := hs'
        show upx (pPl P) j (pF1 P) i + (3 + hsz A i) ≤ upx (pPl P) j (pF1 P) i' ∨ upx (pPl P) j (pF1 P) i' + (3 + hsz A i') ≤ upx (pPl P) j (pF1 P) i
        rcases mem_snoc.mp hi with hi | hi
        · rcases mem_snoc.mp hi' with hi' | hi'
          · rw [upx_ne (ne i hi n3)] at hs ⊢
            rw [upx_ne (ne i' hi' n3)] at hs' ⊢
            exact d3 i hi i' hi' hne hs hs'
          · rw [hi', upx_same] at hs'; cases hs'
        · rw [hi, upx_same] at hs; cases hs
    · rw [e]; exact ⟨⟨a1, a2, a3⟩, ⟨b1, b2⟩, ⟨c1, c2, c3⟩, d1, d2, d3⟩
    · rw [e]
      refine ⟨⟨snoc_nodup a1 n3, fun i hi => ?_, fun i hi => ?_⟩, ⟨?_, ?_⟩, ⟨c1, s2, by show usedA A 2 ≤ pF2 P + (3 + hsz A j); omega⟩, fun i hi hs => ?_, fun i hi hs => ?_, fun i hi i' hi' hne hs hs' => ?_⟩
      · rcases mem_snoc.mp hi with hi | hi
        · exact a2 i hi
        · rw [hi]; exact ⟨hj, n2⟩
      · show upx (pSp P) j 2 i = 1 ∨ upx (pSp P) j 2 i = 2
        rcases mem_snoc.mp hi with hi | hi
        · rw [upx_ne (ne i hi n3)]; exact a3 i hi
        · rw [hi, upx_same]; exact Or.inr rfl
      · show pF1 P = sumN (fun i => if i ∈ pO P ++ [j] ∧ upx (pSp P) j 2 i = 1 then 3 + hsz A i else 0) (hn A)
        rw [b1]
        refine sumN_congr (fun i _ => ?_)
        have e2 : (i ∈ pO P ++ [j] ∧ upx (pSp P) j 2 i = 1) = (i ∈ pO P ∧ pSp P i = 1) := by
          apply propext
          by_cases ei : i = j
          · rw [ei, upx_same]
            exact ⟨fun z => absurd z.2 (by decide), fun z => absurd z.1 n3⟩
          · rw [upx_ne ei]
            exact ⟨fun z => ⟨(mem_snoc.mp z.1).resolve_right ei, z.2⟩, fun z => ⟨mem_snoc.mpr (Or.inl z.1), z.2⟩⟩
        simp only [e2]
      · show pF2 P + (3 + hsz A j) = sumN (fun i => if hsp A i = 2 ∨ (i ∈ pO P ++ [j] ∧ upx (pSp P) j 2 i = 2) then 3 + hsz A i else 0) (hn A)
        rw [b2]
        symm
        refine sumN_upd hj ?_ (fun i hi => ?_)
        · rw [if_pos (Or.inr ⟨mem_snoc.mpr (Or.inr rfl), upx_same⟩), if_neg (fun z => by rcases z with z | z; exact n2 z; exact n3 z.1)]; omega
        · have e2 : (hsp A i = 2 ∨ (i ∈ pO P ++ [j] ∧ upx (pSp P) j 2 i = 2)) = (hsp A i = 2 ∨ (i ∈ pO P ∧ pSp P i = 2)) := by
            rw [upx_ne hi]
            apply propext
            constructor
            · rintro (z | z)
              · exact Or.inl z
              · exact Or.inr ⟨(mem_snoc.mp z.1).resolve_right hi, z.2⟩
            · rintro (z | z)
              · exact Or.inl z
              · exact Or.inr ⟨mem_snoc.mpr (Or.inl z.1), z.2⟩
          simp only [e2]
      · have hs : upx (pSp P) j 2 i = 1 := hs
        show upx (pPl P) j (pF2 P) i + (3 + hsz A i) ≤ pF1 P
        rcases mem_snoc.mp hi with hi | hi
        · rw [upx_ne (ne i hi n3)] at hs ⊢
          exact d1 i hi hs
        · rw [hi, upx_same] at hs; cases hs
      · have hs : upx (pSp P) j 2 i = 2 := hs
        show usedA A 2 ≤ upx (pPl P) j (pF2 P) i ∧ upx (pPl P) j (pF2 P) i + (3 + hsz A i) ≤ pF2 P + (3 + hsz A j)
        rcases mem_snoc.mp hi with hi | hi
        · rw [upx_ne (ne i hi n3)] at hs ⊢
          have := d2 i hi hs
          omega
        · rw [hi, upx_same]; omega
      · have hs : upx (pSp P) j 2 i = 2 := hs
        have hs' : upx (pSp P) j 2 i' = 2 := hs'
        show upx (pPl P) j (pF2 P) i + (3 + hsz A i) ≤ upx (pPl P) j (pF2 P) i' ∨ upx (pPl P) j (pF2 P) i' + (3 + hsz A i') ≤ upx (pPl P) j (pF2 P) i
        rcases mem_snoc.mp hi with hi | hi
        · rcases mem_snoc.mp hi' with hi' | hi'
          · rw [upx_ne (ne i hi n3)] at hs ⊢
            rw [upx_ne (ne i' hi' n3)] at hs' ⊢
            exact d3 i hi i' hi' hne hs hs'
          · rw [upx_ne (ne i hi n3)] at hs ⊢
            have := (d2 i hi hs).2
            rw [hi', upx_same]
            exact Or.inl this
        · rcases mem_snoc.mp hi' with hi' | hi'
          · rw [upx_ne (ne i' hi' n3)] at hs' ⊢
            have := (d2 i' hi' hs').2
            rw [hi, upx_same]
            exact Or.inr this
          · exact absurd (hi.trans hi'.symm) hne
theorem PI_plL {R : Nat → Nat} {A : Hp} : ∀ {l : List (Option Nat)} {P : Pn}, PI R A P → (∀ o ∈ l, ∀ j, o = some j → j < hn A) → PI R A (plL R A P l) := by
  intro l
  induction l with
  | nil => intro P h _; exact h
  | cons o l ih =>
    intro P h ho
    exact ih (PI_pmv h (ho o List.mem_cons_self)) (fun o' ho' => ho o' (List.mem_cons_of_mem _ ho'))
theorem flds_lt {A : Hp} (w : OK A) {j : Nat} (hj : j < hn A) : ∀ o ∈ flds A j, ∀ t, o = some t → t < hn A := by
  intro o ho t ht
  unfold flds at ho
  obtain ⟨f, hf, e⟩ := List.mem_map.mp ho
  rw [List.mem_range] at hf
  by_cases h : f < fst0 A j
  · rw [if_pos h] at e; rw [← e] at ht; cases ht
  · rw [if_neg h] at e; exact w.lk hj hf (e.trans ht)
theorem PI.len {R : Nat → Nat} {A : Hp} {P : Pn} (h : PI R A P) (w : OK A) : (pO P).length ≤ 78 := by
  have := nodup_le h.1.1 (fun j hj => (h.1.2.1 j hj).1)
  have := w.n
  omega
theorem PI_plQ {R : Nat → Nat} {A : Hp} (w : OK A) : ∀ (m i : Nat) {P : Pn}, PI R A P → PI R A (plQ R A m i P) := by
  intro m
  induction m with
  | zero => intro i P h; exact h
  | succ m ih =>
    intro i P h
    unfold plQ
    by_cases hi : i < (pO P).length
    · rw [if_pos hi]
      exact ih (i + 1) (PI_plL h (flds_lt w (h.1.2.1 _ (getD_mem hi)).1))
    · rw [if_neg hi]; exact h
theorem PI_plS {R : Nat → Nat} {A : Hp} (w : OK A) : ∀ {l : List Nat} {P : Pn}, PI R A P → (∀ s ∈ l, s < hn A) → PI R A (plS R A P l) := by
  intro l
  induction l with
  | nil => intro P h _; exact h
  | cons s l ih =>
    intro P h hl
    show PI R A (plS R A (if hkd A s = 2 ∧ ¬ (hsp A s = 2 ∨ s ∈ pO P) then plS1 R A P s else P) l)
    refine ih ?_ (fun s' hs' => hl s' (List.mem_cons_of_mem _ hs'))
    by_cases hc : hkd A s = 2 ∧ ¬ (hsp A s = 2 ∨ s ∈ pO P)
    · rw [if_pos hc]
      exact PI_plQ w _ _ (PI_pmv h (fun j hj => by cases hj; exact hl s List.mem_cons_self))
    · rw [if_neg hc]; exact h
/-! who is covered -/
def Cov (A : Hp) (P : Pn) (o : Option Nat) : Prop := ∀ j, o = some j → hsp A j = 2 ∨ j ∈ pO P
/-- P' comes of P -/
def Fol (P P' : Pn) : Prop := (∃ T, pO P' = pO P ++ T) ∧ (pX P = true → pX P' = true)
theorem Fol.refl (P : Pn) : Fol P P := ⟨⟨[], (List.append_nil _).symm⟩, id⟩
theorem Fol.trans {P Q S : Pn} (h : Fol P Q) (g : Fol Q S) : Fol P S := by
  obtain ⟨⟨T, h1⟩, h2⟩ := h
  obtain ⟨⟨U, g1⟩, g2⟩ := g
  exact ⟨⟨T ++ U, by rw [g1, h1, List.append_assoc]⟩, fun z => g2 (h2 z)⟩
theorem Fol.sub {P Q : Pn} (h : Fol P Q) {j : Nat} (hj : j ∈ pO P) : j ∈ pO Q := by
  obtain ⟨⟨T, h1⟩, -⟩ := h
  rw [h1]
  exact List.mem_append_left _ hj
theorem Fol.cov {A : Hp} {P Q : Pn} (h : Fol P Q) {o : Option Nat} (hc : Cov A P o) : Cov A Q o := fun j hj => (hc j hj).imp id (fun z => h.sub z)
theorem Fol.ok {P Q : Pn} (h : Fol P Q) (hx : ¬ pX Q = true) : ¬ pX P = true := fun z => hx (h.2 z)
theorem Fol.get {P Q : Pn} (h : Fol P Q) {i : Nat} (hi : i < (pO P).length) : (pO Q).getD i 0 = (pO P).getD i 0 ∧ i < (pO Q).length := by
  obtain ⟨⟨T, h1⟩, -⟩ := h
  rw [h1]
  exact ⟨getD_app_lt hi, by rw [List.length_append]; omega⟩
theorem pmv_fol (R : Nat → Nat) (A : Hp) (P : Pn) (o : Option Nat) : Fol P (pmv R A P o) := by
  cases o with
  | none => exact Fol.refl P
  | some j =>
    rcases pmv_ways R A P j with ⟨-, e⟩ | ⟨⟨n1, -, -⟩, ⟨-, e⟩ | ⟨-, -, e⟩ | ⟨-, -, e⟩⟩
    · rw [e]; exact Fol.refl P
    · rw [e]; exact ⟨⟨[j], rfl⟩, fun z => absurd z n1⟩
    · rw [e]; exact ⟨⟨[], (List.append_nil _).symm⟩, fun _ => rfl⟩
    · rw [e]; exact ⟨⟨[j], rfl⟩, fun z => absurd z n1⟩
theorem pmv_cov {R : Nat → Nat} {A : Hp} {P : Pn} {o : Option Nat} (hx : ¬ pX (pmv R A P o) = true) : Cov A (pmv R A P o) o := by
  intro j hj
  subst hj
  rcases pmv_ways R A P j with ⟨h, e⟩ | ⟨-, ⟨-, e⟩ | ⟨-, -, e⟩ | ⟨-, -, e⟩⟩
  · rw [e] at hx ⊢
    rcases h with h | h
    · exact absurd h hx
    · exact h
  · rw [e]; exact Or.inr (mem_snoc.mpr (Or.inr rfl))
  · rw [e] at hx; exact absurd rfl hx
  · rw [e]; exact Or.inr (mem_snoc.mpr (Or.inr rfl))
theorem plL_fol (R : Nat → Nat) (A : Hp) : ∀ (l : List (Option Nat)) (P : Pn), Fol P (plL R A P l) := by
  intro l
  induction l with
  | nil => intro P; exact Fol.refl P
  | cons o l ih => intro P; exact (pmv_fol R A P o).trans (ih _)
theorem plL_cov {R : Nat → Nat} {A : Hp} : ∀ {l : List (Option Nat)} {P : Pn}, ¬ pX (plL R A P l) = true → ∀ o ∈ l, Cov A (plL R A P l) o := by
  intro l
  induction l with
  | nil => intro P _ o ho; exact (List.not_mem_nil ho).elim
  | cons a l ih =>
    intro P hx o ho
    have hx : ¬ pX (plL R A (pmv R A P a) l) = true := hx
    show Cov A (plL R A (pmv R A P a) l) o
    rcases List.mem_cons.mp ho with ho | ho
    · rw [ho]
      exact (plL_fol R A l _).cov (pmv_cov ((plL_fol R A l _).ok hx))
    · exact ih hx o ho
theorem plQ_fol (R : Nat → Nat) (A : Hp) : ∀ (m i : Nat) (P : Pn), Fol P (plQ R A m i P) := by
  intro m
  induction m with
  | zero => intro i P; exact Fol.refl P
  | succ m ih =>
    intro i P
    unfold plQ
    by_cases hi : i < (pO P).length
    · rw [if_pos hi]; exact (plL_fol R A _ P).trans (ih _ _)
    · rw [if_neg hi]; exact Fol.refl P
/-- the first i of the order have their fields covered -/
def FC (A : Hp) (P : Pn) (i : Nat) : Prop := ∀ p, p < i → p < (pO P).length → ∀ o ∈ flds A ((pO P).getD p 0), Cov A P o
theorem FC.fol {A : Hp} {P Q : Pn} {i : Nat} (h : FC A P i) (hf : Fol P Q) (hi : i ≤ (pO P).length) : FC A Q i := fun p hp _ o ho => by
  rw [(hf.get (show p < (pO P).length by omega)).1] at ho
  exact hf.cov (h p hp (by omega) o ho)
theorem plQ_fc {R : Nat → Nat} {A : Hp} (w : OK A) : ∀ (m i : Nat) {P : Pn}, 80 ≤ i + m → PI R A P → FC A P i → ¬ pX (plQ R A m i P) = true → ∀ p, p < (pO (plQ R A m i P)).length → ∀ o ∈ flds A ((pO (plQ R A m i P)).getD p 0), Cov A (plQ R A m i P) o := by
  intro m
  induction m with
  | zero =>
    intro i P h80 hI hF _ p hp o ho
    have := hI.len w
    have hp : p < (pO P).length := hp
    exact hF p (by omega) hp o ho
  | succ m ih =>
    intro i P h80 hI hF
    unfold plQ
    by_cases hi : i < (pO P).length
    · rw [if_pos hi]
      intro hx
      have hx1 := (plQ_fol R A m (i + 1) _).ok hx
      have hf := plL_fol R A (flds A ((pO P).getD i 0)) P
      refine ih (i + 1) (by omega) (PI_plL hI (flds_lt w (hI.1.2.1 _ (getD_mem hi)).1)) (fun p hp hp2 o ho => ?_) hx
      by_cases ep : p = i
      · subst ep
        rw [(hf.get hi).1] at ho
        exact plL_cov hx1 o ho
      · exact hF.fol hf (by omega) p (by omega) hp2 o ho
    · rw [if_neg hi]
      intro _ p hp o ho
      exact hF p (by omega) hp o ho
def AllC (A : Hp) (P : Pn) : Prop := ∀ j ∈ pO P, ∀ o ∈ flds A j, Cov A P o
theorem AllC_of {A : Hp} {P : Pn} (h : ∀ p, p < (pO P).length → ∀ o ∈ flds A ((pO P).getD p 0), Cov A P o) : AllC A P := fun j hj o ho => by
  obtain ⟨p, hp, e⟩ := List.getElem_of_mem hj
  refine h p hp o ?_
  rw [List.getD_eq_getElem?_getD, List.getElem?_eq_getElem hp]
  show o ∈ flds A (pO P)[p]
  rw [e]
  exact ho
theorem plS1_all {R : Nat → Nat} {A : Hp} (w : OK A) {P : Pn} {s : Nat} (hs : s < hn A) (hI : PI R A P) (h : AllC A P) (hx : ¬ pX (plS1 R A P s) = true) : AllC A (plS1 R A P s) ∧ Cov A (plS1 R A P s) (some s) := by
  have hl := hI.len w
  have hf := pmv_fol R A P (some s)
  have hq := plQ_fol R A (80 - (pO P).length) (pO P).length (pmv R A P (some s))
  refine ⟨AllC_of (plQ_fc w _ _ (by omega) (PI_pmv hI (fun j hj => by cases hj; exact hs)) (fun p hp hp2 o ho => ?_) hx), hq.cov (pmv_cov (hq.ok hx))⟩
  rw [(hf.get hp).1] at ho
  exact hf.cov (h _ (getD_mem hp) o ho)
theorem plS_fol (R : Nat → Nat) (A : Hp) : ∀ (l : List Nat) (P : Pn), Fol P (plS R A P l) := by
  intro l
  induction l with
  | nil => intro P; exact Fol.refl P
  | cons s l ih =>
    intro P
    show Fol P (plS R A (if hkd A s = 2 ∧ ¬ (hsp A s = 2 ∨ s ∈ pO P) then plS1 R A P s else P) l)
    refine Fol.trans ?_ (ih _)
    by_cases hc : hkd A s = 2 ∧ ¬ (hsp A s = 2 ∨ s ∈ pO P)
    · rw [if_pos hc]; exact (pmv_fol R A P _).trans (plQ_fol R A _ _ _)
    · rw [if_neg hc]; exact Fol.refl P
theorem plS_all {R : Nat → Nat} {A : Hp} (w : OK A) : ∀ {l : List Nat} {P : Pn}, (∀ s ∈ l, s < hn A) → PI R A P → AllC A P → ¬ pX (plS R A P l) = true → AllC A (plS R A P l) ∧ ∀ s ∈ l, hkd A s = 2 → Cov A (plS R A P l) (some s) := by
  intro l
  induction l with
  | nil => intro P _ _ h _; exact ⟨h, fun s hs => (List.not_mem_nil hs).elim⟩
  | cons a l ih =>
    intro P hl hI h hx
    have ha := hl a List.mem_cons_self
    have hx : ¬ pX (plS R A (if hkd A a = 2 ∧ ¬ (hsp A a = 2 ∨ a ∈ pO P) then plS1 R A P a else P) l) = true := hx
    show AllC A (plS R A (if hkd A a = 2 ∧ ¬ (hsp A a = 2 ∨ a ∈ pO P) then plS1 R A P a else P) l) ∧ ∀ s ∈ a :: l, hkd A s = 2 → Cov A (plS R A (if hkd A a = 2 ∧ ¬ (hsp A a = 2 ∨ a ∈ pO P) then plS1 R A P a else P) l) (some s)
    have key : ∀ Q : Pn, PI R A Q → ¬ pX (plS R A Q l) = true → AllC A Q → (hkd A a = 2 → Cov A Q (some a)) → AllC A (plS R A Q l) ∧ ∀ s ∈ a :: l, hkd A s = 2 → Cov A (plS R A Q l) (some s) := fun Q q1 q2 q3 q4 => by
      obtain ⟨k1, k2⟩ := ih (fun s hs => hl s (List.mem_cons_of_mem _ hs)) q1 q3 q2
      refine ⟨k1, fun s hs h2 => ?_⟩
      rcases List.mem_cons.mp hs with hs | hs
      · rw [hs] at h2 ⊢
        exact (plS_fol R A l Q).cov (q4 h2)
      · exact k2 s hs h2
    by_cases hc : hkd A a = 2 ∧ ¬ (hsp A a = 2 ∨ a ∈ pO P)
    · rw [if_pos hc] at hx ⊢
      have hx1 := (plS_fol R A l _).ok hx
      obtain ⟨k1, k2⟩ := plS1_all w ha hI h hx1
      exact key _ (PI_plQ w _ _ (PI_pmv hI (fun j hj => by cases hj; exact ha))) hx k1 (fun _ => k2)
    · rw [if_neg hc] at hx ⊢
      exact key P hI hx h (fun h2 j hj => by
        cases hj
        exact Classical.byContradiction (fun z => hc ⟨h2, z⟩))
/-! the two plans together -/
theorem rtsL_lt {A : Hp} (w : OK A) : ∀ o ∈ rtsL A, ∀ t, o = some t → t < hn A := by
  intro o ho t ht
  obtain ⟨r, hr, e⟩ := List.mem_map.mp ho
  exact w.rt (List.mem_range.mp hr) (e.trans ht)
theorem ensL_lt {A : Hp} (w : OK A) : ∀ o ∈ ensL A, ∀ t, o = some t → t < hn A := by
  intro o ho t ht
  obtain ⟨j, hj, e⟩ := List.mem_map.mp ho
  rw [← e] at ht
  cases ht
  exact w.en hj
theorem rmsL_lt {A : Hp} (w : OK A) : ∀ o ∈ rmsL A, ∀ t, o = some t → t < hn A := by
  intro o ho t ht
  obtain ⟨q, hq, e⟩ := List.mem_map.mp ho
  have := w.rm hq
  by_cases h : q.2 < fst0 A q.1
  · rw [if_pos h] at e; rw [← e] at ht; cases ht
  · rw [if_neg h] at e; exact w.lk this.1 this.2 (e.trans ht)
theorem PI_plan1 {R : Nat → Nat} {A : Hp} (w : OK A) (hu : usedA A 2 ≤ R 2) : PI R A (plan1 R A) := PI_plQ w _ _ (PI_plL (PI_plL (PI_plL (PI_0 hu) (rtsL_lt w)) (ensL_lt w)) (rmsL_lt w))
theorem PI_plan2 {R : Nat → Nat} {A : Hp} (w : OK A) (hu : usedA A 2 ≤ R 2) : PI R A (plan2 R A) := PI_plS w (PI_plan1 w hu) (fun s hs => List.mem_range.mp hs)
theorem plan_fol (R : Nat → Nat) (A : Hp) : Fol (plan1 R A) (plan2 R A) := plS_fol R A _ _
theorem plan1_cov {R : Nat → Nat} {A : Hp} (w : OK A) (hu : usedA A 2 ≤ R 2) (hx : ¬ pX (plan1 R A) = true) : (∀ o ∈ rtsL A, Cov A (plan1 R A) o) ∧ (∀ o ∈ ensL A, Cov A (plan1 R A) o) ∧ (∀ o ∈ rmsL A, Cov A (plan1 R A) o) ∧ AllC A (plan1 R A) := by
  have q3 := plQ_fol R A 80 0 (plL R A (plL R A (plL R A (pl0 A) (rtsL A)) (ensL A)) (rmsL A))
  have q2 := plL_fol R A (rmsL A) (plL R A (plL R A (pl0 A) (rtsL A)) (ensL A))
  have q1 := plL_fol R A (ensL A) (plL R A (pl0 A) (rtsL A))
  have x3 := q3.ok hx
  have x2 := q2.ok x3
  have x1 := q1.ok x2
  refine ⟨fun o ho => q3.cov (q2.cov (q1.cov (plL_cov x1 o ho))), fun o ho => q3.cov (q2.cov (plL_cov x2 o ho)), fun o ho => q3.cov (plL_cov x3 o ho), ?_⟩
  exact AllC_of (plQ_fc w _ _ (by omega) (PI_plL (PI_plL (PI_plL (PI_0 hu) (rtsL_lt w)) (ensL_lt w)) (rmsL_lt w)) (fun p hp => absurd hp (Nat.not_lt_zero _)) hx)
theorem plan2_cov {R : Nat → Nat} {A : Hp} (w : OK A) (hu : usedA A 2 ≤ R 2) (hx : ¬ pX (plan2 R A) = true) : AllC A (plan2 R A) ∧ ∀ s, s < hn A → hkd A s = 2 → Cov A (plan2 R A) (some s) := by
  have x1 := (plan_fol R A).ok hx
  obtain ⟨k1, k2⟩ := plS_all w (fun s hs => List.mem_range.mp hs) (PI_plan1 w hu) (plan1_cov w hu x1).2.2.2 hx
  exact ⟨k1, fun s hs h => k2 s (List.mem_range.mpr hs) h⟩
