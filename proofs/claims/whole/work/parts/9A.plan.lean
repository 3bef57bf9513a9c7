/-! a MINOR's plan: who is moved, in order, and where to -/
abbrev Pn : Type := List Nat × Nat × Nat × (Nat → Nat) × (Nat → Nat) × Bool
def pO (P : Pn) : List Nat := P.1
def pF1 (P : Pn) : Nat := P.2.1
def pF2 (P : Pn) : Nat := P.2.2.1
def pSp (P : Pn) : Nat → Nat := P.2.2.2.1
def pPl (P : Pn) : Nat → Nat := P.2.2.2.2.1
def pX (P : Pn) : Bool := P.2.2.2.2.2
/-- it stays young -/
abbrev stay (R : Nat → Nat) (A : Hp) (P : Pn) (j : Nat) : Prop := hag A j + 1 < nI (R 3) ∧ pF1 P + (3 + hsz A j) ≤ R 1
def pm1 (A : Hp) (P : Pn) (j : Nat) : Pn := (pO P ++ [j], pF1 P + (3 + hsz A j), pF2 P, upx (pSp P) j 1, upx (pPl P) j (pF1 P), false)
def pm2 (A : Hp) (P : Pn) (j : Nat) : Pn := (pO P ++ [j], pF1 P, pF2 P + (3 + hsz A j), upx (pSp P) j 2, upx (pPl P) j (pF2 P), false)
def pmX (P : Pn) : Pn := (pO P, pF1 P, pF2 P, pSp P, pPl P, true)
noncomputable def pmv (R : Nat → Nat) (A : Hp) (P : Pn) (o : Option Nat) : Pn := match o with
  | none => P
  | some j => if pX P = true ∨ hsp A j = 2 ∨ j ∈ pO P then P else if stay R A P j then pm1 A P j else if R 2 < pF2 P + (3 + hsz A j) then pmX P else pm2 A P j
theorem pmv_no {R : Nat → Nat} {A : Hp} {P : Pn} {j : Nat} (h : pX P = true ∨ hsp A j = 2 ∨ j ∈ pO P) : pmv R A P (some j) = P := if_pos h
theorem pmv_1 {R : Nat → Nat} {A : Hp} {P : Pn} {j : Nat} (h : ¬ (pX P = true ∨ hsp A j = 2 ∨ j ∈ pO P)) (h1 : stay R A P j) : pmv R A P (some j) = pm1 A P j := (if_neg h).trans (if_pos h1)
theorem pmv_X {R : Nat → Nat} {A : Hp} {P : Pn} {j : Nat} (h : ¬ (pX P = true ∨ hsp A j = 2 ∨ j ∈ pO P)) (h1 : ¬ stay R A P j) (h2 : R 2 < pF2 P + (3 + hsz A j)) : pmv R A P (some j) = pmX P := ((if_neg h).trans (if_neg h1)).trans (if_pos h2)
theorem pmv_2 {R : Nat → Nat} {A : Hp} {P : Pn} {j : Nat} (h : ¬ (pX P = true ∨ hsp A j = 2 ∨ j ∈ pO P)) (h1 : ¬ stay R A P j) (h2 : ¬ R 2 < pF2 P + (3 + hsz A j)) : pmv R A P (some j) = pm2 A P j := ((if_neg h).trans (if_neg h1)).trans (if_neg h2)
/-- the ways that pmv goes -/
theorem pmv_ways (R : Nat → Nat) (A : Hp) (P : Pn) (j : Nat) : ((pX P = true ∨ hsp A j = 2 ∨ j ∈ pO P) ∧ pmv R A P (some j) = P) ∨ ((¬ pX P = true ∧ ¬ hsp A j = 2 ∧ ¬ j ∈ pO P) ∧ ((stay R A P j ∧ pmv R A P (some j) = pm1 A P j) ∨ (¬ stay R A P j ∧ R 2 < pF2 P + (3 + hsz A j) ∧ pmv R A P (some j) = pmX P) ∨ (¬ stay R A P j ∧ pF2 P + (3 + hsz A j) ≤ R 2 ∧ pmv R A P (some j) = pm2 A P j))) := by
  by_cases h : pX P = true ∨ hsp A j = 2 ∨ j ∈ pO P
  · exact Or.inl ⟨h, pmv_no h⟩
  · refine Or.inr ⟨⟨fun z => h (Or.inl z), fun z => h (Or.inr (Or.inl z)), fun z => h (Or.inr (Or.inr z))⟩, ?_⟩
    by_cases h1 : stay R A P j
    · exact Or.inl ⟨h1, pmv_1 h h1⟩
    · by_cases h2 : R 2 < pF2 P + (3 + hsz A j)
      · exact Or.inr (Or.inl ⟨h1, h2, pmv_X h h1 h2⟩)
      · exact Or.inr (Or.inr ⟨h1, by omega, pmv_2 h h1 h2⟩)
theorem pmv_stuck {R : Nat → Nat} {A : Hp} {P : Pn} (h : pX P = true) (o : Option Nat) : pmv R A P o = P := by
  cases o with
  | none => rfl
  | some j => exact pmv_no (Or.inl h)
/-- a row of them -/
noncomputable def plL (R : Nat → Nat) (A : Hp) (P : Pn) (l : List (Option Nat)) : Pn := l.foldl (pmv R A) P
theorem plL_stuck {R : Nat → Nat} {A : Hp} {P : Pn} (h : pX P = true) : ∀ l : List (Option Nat), plL R A P l = P := by
  intro l
  induction l with
  | nil => rfl
  | cons o l ih =>
    show plL R A (pmv R A P o) l = P
    rw [pmv_stuck h]
    exact ih
/-- the strong fields of a slot -/
def flds (A : Hp) (j : Nat) : List (Option Nat) := (List.range (hsz A j)).map (fun f => if f < fst0 A j then none else hlk A j f)
theorem flds_len (A : Hp) (j : Nat) : (flds A j).length = hsz A j := by unfold flds; rw [List.length_map, List.length_range]
theorem flds_get {A : Hp} {j f : Nat} (hf : f < hsz A j) : (flds A j).getD f none = if f < fst0 A j then none else hlk A j f := by
  unfold flds
  rw [List.getD_eq_getElem?_getD, List.getElem?_map, List.getElem?_range hf]
  rfl
noncomputable def plQ (R : Nat → Nat) (A : Hp) : Nat → Nat → Pn → Pn
  | 0, _, P => P
  | m + 1, i, P => if i < (pO P).length then plQ R A m (i + 1) (plL R A P (flds A ((pO P).getD i 0))) else P
theorem plQ_stuck {R : Nat → Nat} {A : Hp} : ∀ (m i : Nat) {P : Pn}, pX P = true → plQ R A m i P = P := by
  intro m
  induction m with
  | zero => intro i P _; rfl
  | succ m ih =>
    intro i P h
    unfold plQ
    by_cases hi : i < (pO P).length
    · rw [if_pos hi, plL_stuck h]; exact ih _ h
    · rw [if_neg hi]
theorem plQ_end {R : Nat → Nat} {A : Hp} {m i : Nat} {P : Pn} (h : (pO P).length ≤ i) : plQ R A m i P = P := by
  cases m with
  | zero => rfl
  | succ m => unfold plQ; rw [if_neg (by omega)]
/-- those that are kept from the start on -/
def rtsL (A : Hp) : List (Option Nat) := (List.range 8).map (hrt A)
def ensL (A : Hp) : List (Option Nat) := (hen A).map some
def rmsL (A : Hp) : List (Option Nat) := (hrm A).map (fun q => if q.2 < fst0 A q.1 then none else hlk A q.1 q.2)
def pl0 (A : Hp) : Pn := ([], 0, usedA A 2, fun _ => 0, fun _ => 0, false)
noncomputable def plan1 (R : Nat → Nat) (A : Hp) : Pn := plQ R A 80 0 (plL R A (plL R A (plL R A (pl0 A) (rtsL A)) (ensL A)) (rmsL A))
noncomputable def plS1 (R : Nat → Nat) (A : Hp) (P : Pn) (s : Nat) : Pn := plQ R A (80 - (pO P).length) (pO P).length (pmv R A P (some s))
noncomputable def plS (R : Nat → Nat) (A : Hp) (P : Pn) (l : List Nat) : Pn := l.foldl (fun P s => if hkd A s = 2 ∧ ¬ (hsp A s = 2 ∨ s ∈ pO P) then plS1 R A P s else P) P
noncomputable def plan2 (R : Nat → Nat) (A : Hp) : Pn := plS R A (plan1 R A) (List.range (hn A))
/-! stages -/
def stg (a b : Nat → Bool) (j : Nat) : Nat := if a j then 1 else if b j then 2 else 0
def kO (A : Hp) (F : List Nat) (j : Nat) : Bool := decide (hsp A j = 2) || decide (j ∈ F)
def inL (F : List Nat) (j : Nat) : Bool := decide (j ∈ F)
/-- the plan as the cells show it -/
def PC (σ : rS) (R : Nat → Nat) (A : Hp) (P : Pn) : Prop := ((pO P).Nodup ∧ ∀ j ∈ pO P, j < hn A ∧ ¬ hsp A j = 2) ∧ σ 1 0 10 = nI (pO P).length ∧ σ 1 0 11 = bI (pX P) ∧ (∀ i, i < (pO P).length → σ 39 0 i = nI ((pO P).getD i 0)) ∧ (∀ j ∈ pO P, σ 40 0 j = nI (pSp P j) ∧ σ 41 0 j = nI (pPl P j)) ∧ (σ 43 0 1 = nI (pF1 P) ∧ σ 43 0 2 = nI (pF2 P)) ∧ pF1 P ≤ R 1 ∧ pF2 P ≤ R 2
def ST (σ : rS) (A : Hp) (a b : Nat → Bool) : Prop := ∀ j, j < hn A → σ 38 0 j = nI (stg a b j)
def RU (σ : rS) (R : Nat → Nat) : Prop := (∀ i, i < 4 → σ 20 0 i = nI (R i)) ∧ R 0 ≤ 64 ∧ R 1 ≤ 32 ∧ R 2 ≤ 128 ∧ R 3 ≤ 5
theorem PC.len {σ : rS} {R : Nat → Nat} {A : Hp} {P : Pn} (h : PC σ R A P) (w : OK A) : (pO P).length ≤ 78 := by
  have := nodup_le h.1.1 (fun j hj => (h.1.2 j hj).1)
  have := w.n
  omega
theorem snoc_nodup {L : List Nat} {j : Nat} (h : L.Nodup) (hj : ¬ j ∈ L) : (L ++ [j]).Nodup := by
  refine List.nodup_append.mpr ⟨h, by simp, ?_⟩
  intro a ha b hb
  rw [List.mem_singleton.mp hb]
  intro e
  exact hj (e ▸ ha)
theorem lt_of_new {L : List Nat} {j n : Nat} (hd : L.Nodup) (hl : ∀ i ∈ L, i < n) (hj : j < n) (hm : ¬ j ∈ L) : L.length < n := by
  have := nodup_le (snoc_nodup hd hm) (n := n) (fun i hi => by
    rcases List.mem_append.mp hi with hi | hi
    · exact hl i hi
    · rw [List.mem_singleton.mp hi]; exact hj)
  rw [List.length_append] at this
  have : [j].length = 1 := rfl
  omega
/-- one that is moved: the cells -/
theorem c_pmJ {σ : rS} {k j wh' : Nat} {how : Int32} {R : Nat → Nat} {A : Hp} {P P' : Pn} (w : OK A) (hP : PC σ R A P) (hR : RU σ R) (hj : j < hn A) (ho : ¬ hsp A j = 2) (hm : ¬ j ∈ pO P) (hx : pX P = false) (hw : wh' = 1 ∨ wh' = 2) (hf : (if wh' = 1 then pF1 P else pF2 P) + (3 + hsz A j) ≤ R wh') (hP' : P' = if wh' = 1 then pm1 A P j else pm2 A P j) : hit (fX1_planMove_j91 (nI j) how (nI (3 + hsz A j)) (nI wh') σ) (fun _ s => PC s R A P' ∧ ∀ i, s 38 0 i = if i = j then how else σ 38 0 i) := by
  obtain ⟨⟨g1, g2⟩, g3, g4, g5, g6, ⟨g7, g8⟩, g9, g10⟩ := hP
  obtain ⟨r0, r1, r2, r3, r4⟩ := hR
  have hn78 := w.n
  have hz := w.sz hj
  have hlen := lt_of_new g1 (fun i hi => (g2 i hi).1) hj hm
  have hwl : wh' < 3 := by omega
  have hRw : R wh' ≤ 128 := by rcases hw with rfl | rfl <;> omega
  have e43 : σ 43 0 wh' = nI (if wh' = 1 then pF1 P else pF2 P) := by
    rcases hw with rfl | rfl
    · rw [if_pos rfl]; exact g7
    · rw [if_neg (by decide)]; exact g8
  obtain ⟨q, hq⟩ : ∃ q, q = (if wh' = 1 then pF1 P else pF2 P) := ⟨_, rfl⟩
  rw [← hq] at e43 hf
  have e20 := r0 wh' (by omega)
  unfold fX1_planMove_j91
  simp (disch := omega) only [pn_lt, pn_neg, pn_eq, pn_eq0, pn_eq1, pn_eq2, pn_m1, pn_m1', pn_m1lt, pn_ix, pn_bnd, pn_add1, pn_add3, pn_mul4, nI_add, bd_some, st_eq, rd_eq, if_true, if_false, ite_true, ite_false, reduceIte, e20, e43]
  rw [if_neg (by omega)]
  have s1 : wr σ 40 0 j (nI wh') 43 0 wh' = nI q := by rw [wr_c (by decide)]; exact e43
  rw [s1]
  have s2 : wr (wr σ 40 0 j (nI wh')) 41 0 j (nI q) 43 0 wh' = nI q := by rw [wr_c (by decide)]; exact s1
  rw [s2, nI_add]
  have s3 : wr (wr (wr (wr σ 40 0 j (nI wh')) 41 0 j (nI q)) 43 0 wh' (nI (q + (3 + hsz A j)))) 38 0 j how 1 0 10 = nI (pO P).length := by rw [wr_c (by decide), wr_c (by decide), wr_c (by decide), wr_c (by decide)]; exact g3
  simp (disch := omega) only [pn_lt, pn_neg, pn_eq, pn_eq0, pn_eq1, pn_eq2, pn_m1, pn_m1', pn_m1lt, pn_ix, pn_bnd, pn_add1, pn_add3, pn_mul4, nI_add, bd_some, st_eq, rd_eq, if_true, if_false, ite_true, ite_false, reduceIte, s3]
  have s4 : wr (wr (wr (wr (wr σ 40 0 j (nI wh')) 41 0 j (nI q)) 43 0 wh' (nI (q + (3 + hsz A j)))) 38 0 j how) 39 0 (pO P).length (nI j) 1 0 10 = nI (pO P).length := by rw [wr_c (by decide)]; exact s3
  rw [s4, pn_add1]
  have eO : pO P' = pO P ++ [j] := by rw [hP']; split <;> rfl
  have eX : pX P' = false := by rw [hP']; split <;> rfl
  have eS : pSp P' = upx (pSp P) j wh' := by
    rw [hP']
    rcases hw with rfl | rfl
    · rw [if_pos rfl]; rfl
    · rw [if_neg (by decide)]; rfl
  have eL : pPl P' = upx (pPl P) j q := by
    rw [hP', hq]
    rcases hw with rfl | rfl
    · rw [if_pos rfl, if_pos rfl]; rfl
    · rw [if_neg (by decide), if_neg (by decide)]; rfl
  have lO : (pO P ++ [j]).length = (pO P).length + 1 := by rw [List.length_append]; rfl
  refine hit_some ⟨⟨⟨?_, ?_⟩, ?_, ?_, ?_, ?_, ⟨?_, ?_⟩, ?_, ?_⟩, ?_⟩
  · rw [eO]; exact snoc_nodup g1 hm
  · rw [eO]
    intro i hi
    rcases List.mem_append.mp hi with hi | hi
    · exact g2 i hi
    · rw [List.mem_singleton.mp hi]; exact ⟨hj, ho⟩
  · rw [wr_same, eO, lO]
  · rw [wr_i (by decide), wr_c (by decide), wr_c (by decide), wr_c (by decide), wr_c (by decide), wr_c (by decide), eX, g4, hx]
  · rw [eO, lO]
    intro i hi
    rw [wr_c (by decide)]
    by_cases ei : i = (pO P).length
    · subst ei; rw [wr_same, getD_app_eq]
    · rw [wr_i ei, getD_app_lt (by omega), wr_c (by decide), wr_c (by decide), wr_c (by decide), wr_c (by decide)]
      exact g5 i (by omega)
  · rw [eO, eS, eL]
    intro i hi
    rw [wr_c (by decide), wr_c (by decide), wr_c (by decide), wr_c (by decide), wr_c (by decide), wr_c (c' := 41) (by decide), wr_c (c' := 41) (by decide), wr_c (c' := 41) (by decide), wr_c (c' := 41) (by decide)]
    by_cases ei : i = j
    · subst ei; rw [wr_same, wr_same, upx_same, upx_same]; exact ⟨rfl, rfl⟩
    · rw [wr_i ei, wr_i ei, upx_ne ei, upx_ne ei, wr_c (by decide)]
      rcases List.mem_append.mp hi with hi | hi
      · exact g6 i hi
      · exact absurd (List.mem_singleton.mp hi) ei
  · rw [wr_c (by decide), wr_c (by decide), wr_c (by decide), hP']
    rcases hw with rfl | rfl
    · rw [wr_same, if_pos rfl, hq, if_pos rfl]; rfl
    · rw [wr_i (by decide), if_neg (by decide), wr_c (by decide), wr_c (by decide)]; exact g7
  · rw [wr_c (by decide), wr_c (by decide), wr_c (by decide), hP']
    rcases hw with rfl | rfl
    · rw [wr_i (by decide), if_pos rfl, wr_c (by decide), wr_c (by decide)]; exact g8
    · rw [wr_same, if_neg (by decide), hq, if_neg (by decide)]; rfl
  · rw [hP']
    rcases hw with rfl | rfl
    · rw [if_pos rfl]; rw [if_pos rfl] at hq; show pF1 P + (3 + hsz A j) ≤ R 1; omega
    · rw [if_neg (by decide)]; exact g9
  · rw [hP']
    rcases hw with rfl | rfl
    · rw [if_pos rfl]; exact g10
    · rw [if_neg (by decide)]; rw [if_neg (by decide)] at hq; show pF2 P + (3 + hsz A j) ≤ R 2; omega
  · intro i
    rw [wr_c (by decide), wr_c (by decide)]
    by_cases ei : i = j
    · subst ei; rw [wr_same, if_pos rfl]
    · rw [wr_i ei, if_neg ei, wr_c (by decide), wr_c (by decide), wr_c (by decide)]
/-- planMove; the stage of one that is moved becomes 'how' -/
theorem c_planMove {σ : rS} {k : Nat} {how : Int32} {R : Nat → Nat} {A : Hp} {P : Pn} {a b : Nat → Bool} (hC : CR σ k A) (w : OK A) (hP : PC σ R A P) (hR : RU σ R) (hS : ST σ A a b) (hk : ∀ j, j < hn A → (stg a b j = 0 ↔ ¬ (hsp A j = 2 ∨ j ∈ pO P))) {o : Option Nat} (ho : ∀ j, o = some j → j < hn A) : hit (fX1_planMove k (enc o) how σ) (fun _ s => PC s R A (pmv R A P o) ∧ ∀ i, i < hn A → s 38 0 i = if i ∈ pO (pmv R A P o) ∧ ¬ i ∈ pO P then how else σ 38 0 i) := by
  have hn78 := w.n
  have same : ∀ {P' : Pn}, P' = P → hit (some ((0 : Int32), σ)) (fun _ s => PC s R A P' ∧ ∀ i, i < hn A → s 38 0 i = if i ∈ pO P' ∧ ¬ i ∈ pO P then how else σ 38 0 i) := fun {P'} e => by
    subst e
    exact hit_some ⟨hP, fun i _ => (if_neg (fun z => z.2 z.1)).symm⟩
  have g4 := hP.2.2.1
  unfold fX1_planMove
  rw [g4]
  cases hx : pX P with
  | true =>
    rw [if_neg (by decide)]
    exact same (pmv_stuck hx o)
  | false =>
    rw [if_pos (by decide)]
    cases o with
    | none =>
      rw [enc_none, if_pos (by decide)]
      exact same rfl
    | some j =>
      have hj := ho j rfl
      have hz := w.sz hj
      have e38 := hS j hj
      have hkj := hk j hj
      have hs3 : stg a b j ≤ 2 := by unfold stg; split <;> (try split) <;> omega
      rw [enc_some, hC.n]
      simp (disch := omega) only [pn_lt, pn_neg, pn_eq, pn_eq0, pn_eq1, pn_eq2, pn_m1, pn_m1', pn_m1lt, pn_ix, pn_bnd, pn_add1, pn_add3, pn_mul4, nI_add, bd_some, st_eq, rd_eq, if_true, if_false, ite_true, ite_false, reduceIte, e38, hj, hC.sz hj, hC.ag hj]
      by_cases h0 : stg a b j = 0
      · rw [if_pos h0]
        have hno := hkj.mp h0
        have hno1 : ¬ hsp A j = 2 := fun z => hno (Or.inl z)
        have hno2 : ¬ j ∈ pO P := fun z => hno (Or.inr z)
        have hcond : ¬ (pX P = true ∨ hsp A j = 2 ∨ j ∈ pO P) := by rw [hx]; rintro (z | z); cases z; exact hno z
        have hF1 := hP.2.2.2.2.2.2.1
        have hF2 := hP.2.2.2.2.2.2.2
        have hR1 := hR.2.2.1
        have hR2 := hR.2.2.2.1
        have e203 := hR.1 3 (by omega)
        have e201 := hR.1 1 (by omega)
        have e202 := hR.1 2 (by omega)
        have e431 := hP.2.2.2.2.2.1.1
        have e432 := hP.2.2.2.2.2.1.2
        have e203' : σ 20 0 (ix 3) = nI (R 3) := e203
        have e201' : σ 20 0 (ix 1) = nI (R 1) := e201
        have e431' : σ 43 0 (ix 1) = nI (pF1 P) := e431
        rw [e203', e201', e431', nI_add]
        have fin : ∀ (P' : Pn) (t : rS), pmv R A P (some j) = P' → pO P' = pO P ++ [j] → (PC t R A P' ∧ ∀ i, t 38 0 i = if i = j then how else σ 38 0 i) → (PC t R A (pmv R A P (some j)) ∧ ∀ i, i < hn A → t 38 0 i = if i ∈ pO (pmv R A P (some j)) ∧ ¬ i ∈ pO P then how else σ 38 0 i) := fun P' t e1 e2 ⟨k1, k2⟩ => by
          rw [e1]
          refine ⟨k1, fun i _ => ?_⟩
          rw [k2 i, e2]
          by_cases ei : i = j
          · rw [if_pos ei, if_pos ⟨by rw [ei]; exact List.mem_append_right _ (List.mem_singleton.mpr rfl), by rw [ei]; exact hno2⟩]
          · rw [if_neg ei, if_neg (fun z => by
              rcases List.mem_append.mp z.1 with z1 | z1
              · exact z.2 z1
              · exact ei (List.mem_singleton.mp z1))]
        unfold fX1_planMove_j78 fX1_planMove_j79
        have lt1 : (nI (R 1) < nI (pF1 P + (3 + hsz A j))) = (R 1 < pF1 P + (3 + hsz A j)) := pn_lt (by omega) (by omega)
        simp only [lt1]
        have old : ¬ stay R A P j → hit (if (0 : Int32) = 0 then fX1_planMove_j91 (nI j) how (nI (3 + hsz A j)) 2 σ else fX1_planMove_j91 (nI j) how (nI (3 + hsz A j)) 1 σ) (fun _ s => PC s R A (pmv R A P (some j)) ∧ ∀ i, i < hn A → s 38 0 i = if i ∈ pO (pmv R A P (some j)) ∧ ¬ i ∈ pO P then how else σ 38 0 i) := fun hst => by
          rw [if_pos rfl]
          by_cases h2 : R 2 < pF2 P + (3 + hsz A j)
          · have ep := pmv_X hcond hst h2
            unfold fX1_planMove_j91
            have b3 : ∀ x : Option (Int32 × rS), bnd 2 3 x = x := fun x => pn_bnd (a := 2) (by omega) (by omega)
            have b4 : ∀ x : Option (Int32 × rS), bnd 2 4 x = x := fun x => pn_bnd (a := 2) (by omega) (by omega)
            have e202' : σ 20 0 (ix 2) = nI (R 2) := e202
            have e432' : σ 43 0 (ix 2) = nI (pF2 P) := e432
            rw [b3, b4, e202', e432', nI_add, if_pos (by rw [pn_lt (by omega) (by omega)]; exact h2), st_eq, ep]
            obtain ⟨g1, g2, -, g5, g6, g7, g8⟩ := hP
            refine hit_some ⟨⟨g1, ?_, ?_, ?_, ?_, ?_, g8⟩, fun i _ => ?_⟩
            · rw [wr_i (by decide)]; exact g2
            · rw [wr_same]; rfl
            · rw [wr_c (by decide)]; exact g5
            · rw [wr_c (by decide), wr_c (by decide)]; exact g6
            · rw [wr_c (by decide)]; exact g7
            · rw [wr_c (by decide)]; exact (if_neg (fun z => z.2 z.1)).symm
          · have ep := pmv_2 hcond hst h2
            refine hit_mono (c_pmJ (k := k) (wh' := 2) w hP hR hj hno1 hno2 hx (Or.inr rfl) (by rw [if_neg (by decide)]; omega) (if_neg (by decide)).symm) (fun r t ht => fin _ t ep rfl ht)
        by_cases ha : hag A j + 1 < nI (R 3)
        · rw [if_pos ha]
          by_cases h1 : R 1 < pF1 P + (3 + hsz A j)
          · rw [if_pos h1]
            exact old (fun z => by have := z.2; omega)
          · rw [if_neg h1, if_neg one_ne]
            have ep := pmv_1 hcond (show stay R A P j from ⟨ha, by omega⟩)
            refine hit_mono (c_pmJ (k := k) (wh' := 1) w hP hR hj hno1 hno2 hx (Or.inl rfl) (by rw [if_pos rfl]; omega) (if_pos rfl).symm) (fun r t ht => fin _ t ep rfl ht)
        · rw [if_neg ha]
          exact old (fun z => ha z.1)
      · rw [if_neg h0]
        refine same (pmv_no (Or.inr ?_))
        exact Classical.byContradiction (fun z => h0 (hkj.mpr z))
