/-! a MAJOR as a value: who is met, how the old ones slide -/
def PrQ (Q Q' : List Nat) : Prop := ∃ T, Q' = Q ++ T
theorem PrQ.refl (Q : List Nat) : PrQ Q Q := ⟨[], (List.append_nil _).symm⟩
theorem PrQ.trans {Q Q' Q2 : List Nat} (h : PrQ Q Q') (g : PrQ Q' Q2) : PrQ Q Q2 := by
  obtain ⟨T, rfl⟩ := h
  obtain ⟨U, rfl⟩ := g
  exact ⟨T ++ U, by rw [List.append_assoc]⟩
theorem PrQ.sub {Q Q' : List Nat} (h : PrQ Q Q') {j : Nat} (hj : j ∈ Q) : j ∈ Q' := by
  obtain ⟨T, rfl⟩ := h
  exact List.mem_append_left _ hj
theorem PrQ.get {Q Q' : List Nat} (h : PrQ Q Q') {i : Nat} (hi : i < Q.length) : Q'.getD i 0 = Q.getD i 0 ∧ i < Q'.length := by
  obtain ⟨T, rfl⟩ := h
  exact ⟨getD_app_lt hi, by rw [List.length_append]; omega⟩
theorem vis_pr (Q : List Nat) (o : Option Nat) : PrQ Q (vis Q o) := by
  unfold vis
  cases o with
  | none => exact PrQ.refl Q
  | some j =>
    dsimp only
    by_cases h : j ∈ Q
    · rw [if_pos h]; exact PrQ.refl Q
    · rw [if_neg h]; exact ⟨[j], rfl⟩
theorem vis_mem {Q : List Nat} {o : Option Nat} {t : Nat} (h : o = some t) : t ∈ vis Q o := by
  subst h
  unfold vis
  dsimp only
  by_cases h : t ∈ Q
  · rw [if_pos h]; exact h
  · rw [if_neg h]; exact List.mem_append_right _ (List.mem_singleton.mpr rfl)
def NL (n : Nat) (Q : List Nat) : Prop := Q.Nodup ∧ ∀ j ∈ Q, j < n
theorem NL_vis {n : Nat} {Q : List Nat} {o : Option Nat} (h : NL n Q) (ho : ∀ j, o = some j → j < n) : NL n (vis Q o) := ⟨vis_nodup h.1, vis_lt h.2 ho⟩
theorem sprQ_pr (A : Hp) (j : Nat) : ∀ (m f : Nat) (Q : List Nat), PrQ Q (sprQ A j m f Q) := by
  intro m
  induction m with
  | zero => intro f Q; exact PrQ.refl Q
  | succ m ih => intro f Q; exact (vis_pr Q _).trans (ih _ _)
theorem sprQ_mem {A : Hp} {j : Nat} : ∀ {m f : Nat} {Q : List Nat} {x t : Nat}, f ≤ x → x < f + m → hlk A j x = some t → t ∈ sprQ A j m f Q := by
  intro m
  induction m with
  | zero => intro f Q x t h1 h2; omega
  | succ m ih =>
    intro f Q x t h1 h2 h3
    show t ∈ sprQ A j m (f + 1) (vis Q (hlk A j f))
    by_cases e : x = f
    · subst e
      exact (sprQ_pr A j m (x + 1) _).sub (vis_mem h3)
    · exact ih (by omega) (by omega) h3
theorem sprQ_NL {A : Hp} (w : OK A) {j : Nat} (hj : j < hn A) : ∀ {m f : Nat} {Q : List Nat}, f + m ≤ hsz A j → NL (hn A) Q → NL (hn A) (sprQ A j m f Q) := by
  intro m
  induction m with
  | zero => intro f Q _ h; exact h
  | succ m ih =>
    intro f Q hf h
    exact ih (by omega) (NL_vis h (fun i hi => w.lk hj (by omega) hi))
theorem bfsQ_pr (A : Hp) : ∀ (m i : Nat) (Q : List Nat), PrQ Q (bfsQ A m i Q) := by
  intro m
  induction m with
  | zero => intro i Q; exact PrQ.refl Q
  | succ m ih =>
    intro i Q
    unfold bfsQ
    by_cases h : i < Q.length
    · rw [if_pos h]; exact (sprQ_pr A _ _ _ Q).trans (ih _ _)
    · rw [if_neg h]; exact PrQ.refl Q
/-- all strong fields of these are among those -/
def Cq (A : Hp) (Q : List Nat) (j : Nat) : Prop := ∀ f t, fst0 A j ≤ f → f < hsz A j → hlk A j f = some t → t ∈ Q
theorem bfsQ_fc {A : Hp} (w : OK A) : ∀ (m i : Nat) {Q : List Nat}, 80 ≤ i + m → NL (hn A) Q → (∀ p, p < i → p < Q.length → Cq A Q (Q.getD p 0)) → NL (hn A) (bfsQ A m i Q) ∧ ∀ p, p < (bfsQ A m i Q).length → Cq A (bfsQ A m i Q) ((bfsQ A m i Q).getD p 0) := by
  intro m
  induction m with
  | zero =>
    intro i Q h80 hN hF
    have hl := nodup_le hN.1 hN.2
    have hw := w.n
    exact ⟨hN, fun p hp => hF p (by have hp : p < Q.length := hp; omega) hp⟩
  | succ m ih =>
    intro i Q h80 hN hF
    unfold bfsQ
    by_cases hi : i < Q.length
    · rw [if_pos hi]
      have hj := hN.2 _ (getD_mem hi)
      have hpr := sprQ_pr A (Q.getD i 0) (hsz A (Q.getD i 0) - fst0 A (Q.getD i 0)) (fst0 A (Q.getD i 0)) Q
      have hN2 : NL (hn A) (sprQ A (Q.getD i 0) (hsz A (Q.getD i 0) - fst0 A (Q.getD i 0)) (fst0 A (Q.getD i 0)) Q) := by
        by_cases hz : fst0 A (Q.getD i 0) ≤ hsz A (Q.getD i 0)
        · exact sprQ_NL w hj (by omega) hN
        · rw [show hsz A (Q.getD i 0) - fst0 A (Q.getD i 0) = 0 by omega]; exact hN
      refine ih (i + 1) (by omega) hN2 (fun p hp hp2 => ?_)
      by_cases ep : p = i
      · subst ep
        rw [(hpr.get hi).1]
        exact fun f t h1 h2 h3 => sprQ_mem h1 (by omega) h3
      · have hpl' : p < Q.length := by omega
        rw [(hpr.get hpl').1]
        exact fun f t h1 h2 h3 => hpr.sub (hF p (by omega) hpl' f t h1 h2 h3)
    · rw [if_neg hi]
      exact ⟨hN, fun p hp => hF p (by omega) hp⟩
theorem Cq_mem {A : Hp} {Q : List Nat} (h : ∀ p, p < Q.length → Cq A Q (Q.getD p 0)) {j : Nat} (hj : j ∈ Q) : Cq A Q j := by
  obtain ⟨p, hp, e⟩ := List.getElem_of_mem hj
  have := h p hp
  rw [List.getD_eq_getElem?_getD, List.getElem?_eq_getElem hp] at this
  rw [← e]
  exact this
theorem visRQ_pr (A : Hp) (lo : Int32) : ∀ (m r : Nat) (Q : List Nat), PrQ Q (visRQ A lo m r Q) := by
  intro m
  induction m with
  | zero => intro r Q; exact PrQ.refl Q
  | succ m ih =>
    intro r Q
    unfold visRQ
    refine PrQ.trans ?_ (ih _ _)
    by_cases h : nI r = lo
    · rw [if_pos h]; exact PrQ.refl Q
    · rw [if_neg h]; exact vis_pr Q _
theorem visRQ_all {A : Hp} : ∀ {m r : Nat} {Q : List Nat} {x t : Nat}, r + m ≤ 8 → r ≤ x → x < r + m → hrt A x = some t → t ∈ visRQ A (-1) m r Q := by
  intro m
  induction m with
  | zero => intro r Q x t _ h1 h2; omega
  | succ m ih =>
    intro r Q x t h8 h1 h2 h3
    unfold visRQ
    have hr : ¬ nI r = -1 := by rw [pn_m1 (by omega)]; exact id
    rw [if_neg hr]
    by_cases e : x = r
    · subst e; exact (visRQ_pr A (-1) m (x + 1) _).sub (vis_mem h3)
    · exact ih (by omega) (by omega) (by omega) h3
theorem visRQ_NL {A : Hp} (w : OK A) {lo : Int32} : ∀ {m r : Nat} {Q : List Nat}, r + m ≤ 8 → NL (hn A) Q → NL (hn A) (visRQ A lo m r Q) := by
  intro m
  induction m with
  | zero => intro r Q _ h; exact h
  | succ m ih =>
    intro r Q h8 h
    unfold visRQ
    refine ih (by omega) ?_
    by_cases hl : nI r = lo
    · rw [if_pos hl]; exact h
    · rw [if_neg hl]; exact NL_vis h (fun j hj => w.rt (by omega) hj)
theorem visEQ_pr : ∀ (L Q : List Nat), PrQ Q (visEQ L Q) := by
  intro L
  induction L with
  | nil => intro Q; exact PrQ.refl Q
  | cons a L ih => intro Q; exact (vis_pr Q (some a)).trans (ih _)
theorem visEQ_all : ∀ {L Q : List Nat} {j : Nat}, j ∈ L → j ∈ visEQ L Q := by
  intro L
  induction L with
  | nil => intro Q j h; exact (List.not_mem_nil h).elim
  | cons a L ih =>
    intro Q j h
    show j ∈ visEQ L (vis Q (some a))
    rcases List.mem_cons.mp h with e | h
    · rw [e]; exact (visEQ_pr L _).sub (vis_mem rfl)
    · exact ih h
theorem visEQ_NL {n : Nat} : ∀ {L Q : List Nat}, (∀ j ∈ L, j < n) → NL n Q → NL n (visEQ L Q) := by
  intro L
  induction L with
  | nil => intro Q _ h; exact h
  | cons a L ih =>
    intro Q hl h
    exact ih (fun j hj => hl j (List.mem_cons_of_mem _ hj)) (NL_vis h (fun j hj => by cases hj; exact hl a List.mem_cons_self))
/-- who is met by the roots and the ends; who by the lasting ones then -/
def q1 (A : Hp) : List Nat := reachQ A (-1)
def lsL (A : Hp) : List Nat := (List.range (hn A)).filter (fun i => decide (hkd A i = 2))
def q2 (A : Hp) : List Nat := bfsQ A (80 - (q1 A).length) (q1 A).length (visEQ (lsL A) (q1 A))
theorem lsL_mem {A : Hp} {i : Nat} : i ∈ lsL A ↔ i < hn A ∧ hkd A i = 2 := by
  unfold lsL
  rw [List.mem_filter, List.mem_range]
  simp
theorem q1_facts {A : Hp} (w : OK A) : NL (hn A) (q1 A) ∧ (∀ j ∈ q1 A, Cq A (q1 A) j) ∧ (∀ r t, r < 8 → hrt A r = some t → t ∈ q1 A) ∧ ∀ j ∈ hen A, j ∈ q1 A := by
  have h0 : NL (hn A) ([] : List Nat) := ⟨List.nodup_nil, fun j hj => (List.not_mem_nil hj).elim⟩
  have h2 := visEQ_NL (L := hen A) (fun j hj => w.en hj) (visRQ_NL w (lo := -1) (m := 8) (r := 0) (by omega) h0)
  obtain ⟨k1, k2⟩ := bfsQ_fc w 80 0 (by omega) h2 (fun p hp => absurd hp (Nat.not_lt_zero _))
  have hp := bfsQ_pr A 80 0 (visEQ (hen A) (visRQ A (-1) 8 0 []))
  refine ⟨k1, fun j hj => Cq_mem k2 hj, fun r t hr ht => hp.sub ((visEQ_pr _ _).sub (visRQ_all (by omega) (Nat.zero_le _) (by omega) ht)), fun j hj => hp.sub (visEQ_all hj)⟩
theorem q2_facts {A : Hp} (w : OK A) : NL (hn A) (q2 A) ∧ (∀ j ∈ q2 A, Cq A (q2 A) j) ∧ PrQ (q1 A) (q2 A) ∧ ∀ i, i < hn A → hkd A i = 2 → i ∈ q2 A := by
  obtain ⟨a1, a2, -, -⟩ := q1_facts w
  have hl := nodup_le a1.1 a1.2
  have hw := w.n
  have h2 := visEQ_NL (L := lsL A) (fun j hj => (lsL_mem.mp hj).1) a1
  have hp1 := visEQ_pr (lsL A) (q1 A)
  obtain ⟨k1, k2⟩ := bfsQ_fc w (80 - (q1 A).length) (q1 A).length (by omega) h2 (fun p hp hp2 => by
    rw [(hp1.get hp).1]
    exact fun f t g1 g2 g3 => hp1.sub (a2 _ (getD_mem hp) f t g1 g2 g3))
  have hp := bfsQ_pr A (80 - (q1 A).length) (q1 A).length (visEQ (lsL A) (q1 A))
  exact ⟨k1, fun j hj => Cq_mem k2 hj, hp1.trans hp, fun i hi hk => hp.sub (visEQ_all (lsL_mem.mpr ⟨hi, hk⟩))⟩
def jG (A : Hp) (i : Nat) : Nat := if i ∈ q1 A then 1 else if i ∈ q2 A then 2 else 0
/-- what is known of the marks and stages -/
def JF (A : Hp) (Q1 Q2 : List Nat) (g : Nat → Nat) : Prop := (∀ i, g i = 1 ↔ i ∈ Q1) ∧ (∀ i, g i = 0 ↔ ¬ i ∈ Q2) ∧ (∀ i, g i ≤ 2) ∧ (NL (hn A) Q1 ∧ NL (hn A) Q2 ∧ PrQ Q1 Q2) ∧ (∀ r t, r < 8 → hrt A r = some t → t ∈ Q1) ∧ (∀ j ∈ hen A, j ∈ Q1) ∧ (∀ j ∈ Q2, Cq A Q2 j) ∧ ∀ i, i < hn A → hkd A i = 2 → i ∈ Q2
theorem JF_q {A : Hp} (w : OK A) : JF A (q1 A) (q2 A) (jG A) := by
  obtain ⟨a1, -, a3, a4⟩ := q1_facts w
  obtain ⟨b1, b2, b3, b4⟩ := q2_facts w
  refine ⟨fun i => ?_, fun i => ?_, fun i => ?_, ⟨a1, b1, b3⟩, a3, a4, b2, b4⟩
  · unfold jG
    by_cases h : i ∈ q1 A
    · rw [if_pos h]; exact ⟨fun _ => h, fun _ => rfl⟩
    · rw [if_neg h]
      exact ⟨fun z => by split at z <;> omega, fun z => absurd z h⟩
  · unfold jG
    by_cases h : i ∈ q1 A
    · rw [if_pos h]; exact ⟨fun z => by omega, fun z => absurd (b3.sub h) z⟩
    · rw [if_neg h]
      by_cases h2 : i ∈ q2 A
      · rw [if_pos h2]; exact ⟨fun z => by omega, fun z => absurd h2 z⟩
      · rw [if_neg h2]; exact ⟨fun _ => h2, fun _ => rfl⟩
  · unfold jG; split <;> (try split) <;> omega
/-! the old ones that stay slide together -/
def slp (A : Hp) (g : Nat → Nat) (p j : Nat) : Bool := decide (hsp A j = 2) && (!decide (g j = 0) && decide (hpl A j = p))
def slk (A : Hp) (g : Nat → Nat) (p : Nat) : Option Nat := fst1 (slp A g p) (hn A) 0
abbrev SLs : Type := Nat × (Nat → Nat) × Nat
def slS (A : Hp) (g : Nat → Nat) (X : SLs) (p : Nat) : SLs := match slk A g p with
  | none => X
  | some j => (X.1 + (3 + hsz A j), upx X.2.1 j X.1, X.2.2 + (if p = X.1 then 0 else 1))
def slL (A : Hp) (g : Nat → Nat) (n : Nat) : SLs := (List.range n).foldl (slS A g) (0, hpl A, 0)
theorem slL_succ (A : Hp) (g : Nat → Nat) (p : Nat) : slL A g (p + 1) = slS A g (slL A g p) p := by
  unfold slL
  rw [List.range_succ, List.foldl_append]
  rfl
theorem slk_some {A : Hp} {g : Nat → Nat} {p j : Nat} (h : slk A g p = some j) : j < hn A ∧ hsp A j = 2 ∧ ¬ g j = 0 ∧ hpl A j = p := by
  obtain ⟨-, h2, h3, -⟩ := fst1_some h
  unfold slp at h3
  simp at h3
  exact ⟨by omega, h3.1, h3.2.1, h3.2.2⟩
theorem slk_none {A : Hp} {g : Nat → Nat} {p j : Nat} (h : slk A g p = none) (hj : j < hn A) (h2 : hsp A j = 2) (hg : ¬ g j = 0) : ¬ hpl A j = p := fun e => by
  have := fst1_none h j (Nat.zero_le _) (by omega)
  unfold slp at this
  simp [h2, hg, e] at this
/-- old ones lie apart -/
def Apart (A : Hp) : Prop := ∀ i j, i < hn A → j < hn A → ¬ i = j → hsp A i = 2 → hsp A j = 2 → hpl A i + (3 + hsz A i) ≤ hpl A j ∨ hpl A j + (3 + hsz A j) ≤ hpl A i
theorem slk_uni {A : Hp} {g : Nat → Nat} {p i j : Nat} (ha : Apart A) (h : slk A g p = some j) (hi : i < hn A) (h2 : hsp A i = 2) (hp : hpl A i = p) : i = j := by
  obtain ⟨k1, k2, -, k4⟩ := slk_some h
  refine Classical.byContradiction (fun hne => ?_)
  have := ha i j hi k1 hne h2 k2
  omega
theorem slk_is {A : Hp} {g : Nat → Nat} {j : Nat} (ha : Apart A) (hj : j < hn A) (h2 : hsp A j = 2) (hg : ¬ g j = 0) : slk A g (hpl A j) = some j := by
  cases h : slk A g (hpl A j) with
  | none => exact absurd rfl (slk_none h hj h2 hg)
  | some i => rw [slk_uni ha h hj h2 rfl]
theorem sumN_updL {f f' : Nat → Nat} {j d : Nat} : ∀ {n : Nat}, j < n → f' j = f j + d → (∀ i, i < n → ¬ i = j → f' i = f i) → sumN f' n = sumN f n + d := by
  intro n
  induction n with
  | zero => intro h; omega
  | succ n ih =>
    intro hj e1 e2
    unfold sumN
    by_cases e : j = n
    · subst e
      rw [e1, sumN_congr (f := f') (g := f) (fun i hi => e2 i (by omega) (by omega))]
      omega
    · rw [ih (by omega) e1 (fun i hi hne => e2 i (by omega) hne), e2 n (by omega) (fun z => e z.symm)]
      omega
def SLI (A : Hp) (g : Nat → Nat) (p : Nat) (X : SLs) : Prop := X.1 = sumN (fun j => if (hsp A j = 2 ∧ ¬ g j = 0) ∧ hpl A j < p then 3 + hsz A j else 0) (hn A) ∧ (∀ j, j < hn A → hsp A j = 2 → ¬ g j = 0 → hpl A j < p → X.2.1 j + (3 + hsz A j) ≤ X.1 ∧ X.2.1 j ≤ hpl A j) ∧ (∀ j, ¬ (j < hn A ∧ hsp A j = 2 ∧ ¬ g j = 0 ∧ hpl A j < p) → X.2.1 j = hpl A j) ∧ (∀ i j, i < hn A → j < hn A → ¬ i = j → hsp A i = 2 → hsp A j = 2 → ¬ g i = 0 → ¬ g j = 0 → hpl A i < p → hpl A j < p → X.2.1 i + (3 + hsz A i) ≤ X.2.1 j ∨ X.2.1 j + (3 + hsz A j) ≤ X.2.1 i) ∧ (∀ j, j < hn A → hsp A j = 2 → ¬ g j = 0 → p ≤ hpl A j → X.1 ≤ hpl A j) ∧ X.1 ≤ p + 8
theorem SLI_all {A : Hp} {g : Nat → Nat} (ha : Apart A) (hz : ∀ j, j < hn A → hsz A j ≤ 4) : ∀ p : Nat, SLI A g p (slL A g p) := by
  intro p
  induction p with
  | zero =>
    have z : ∀ n, sumN (fun j => if (hsp A j = 2 ∧ ¬ g j = 0) ∧ hpl A j < 0 then 3 + hsz A j else 0) n = 0 := fun n => by
      induction n with
      | zero => rfl
      | succ n ih => unfold sumN; rw [ih, if_neg (by omega)]
    exact ⟨(z _).symm, fun j _ _ _ h => by omega, fun j _ => rfl, fun i j _ _ _ _ _ _ _ h => by omega, fun j _ _ _ _ => Nat.zero_le _, Nat.zero_le _⟩
  | succ p ih =>
    rw [slL_succ]
    generalize slL A g p = X at ih
    obtain ⟨c1, c2, c3, c4, c5, c6⟩ := ih
    unfold slS
    cases h : slk A g p with
    | none =>
      dsimp only
      have ne : ∀ j, j < hn A → hsp A j = 2 → ¬ g j = 0 → ¬ hpl A j = p := fun j hj h2 hg => slk_none h hj h2 hg
      refine ⟨?_, fun j hj h2 hg hp => c2 j hj h2 hg (by have := ne j hj h2 hg; omega), fun j hj => c3 j (fun z => hj ⟨z.1, z.2.1, z.2.2.1, by omega⟩), fun i j hi hj hne h2 h2' hg hg' hp hp' => c4 i j hi hj hne h2 h2' hg hg' (by have := ne i hi h2 hg; omega) (by have := ne j hj h2' hg'; omega), fun j hj h2 hg hp => c5 j hj h2 hg (by omega), by omega⟩
      rw [c1]
      refine sumN_congr (fun j hj => ?_)
      by_cases hc : (hsp A j = 2 ∧ ¬ g j = 0) ∧ hpl A j < p
      · rw [if_pos hc, if_pos ⟨hc.1, by omega⟩]
      · rw [if_neg hc, if_neg (fun z => hc ⟨z.1, by have := ne j hj z.1.1 z.1.2; omega⟩)]
    | some j0 =>
      obtain ⟨k1, k2, k3, k4⟩ := slk_some h
      have uni : ∀ i, i < hn A → hsp A i = 2 → hpl A i = p → i = j0 := fun i hi h2 hp => slk_uni ha h hi h2 hp
      have hx := c5 j0 k1 k2 k3 (by omega)
      have hz0 := hz j0 k1
      dsimp only
      refine ⟨?_, fun j hj h2 hg hp => ?_, fun j hj => ?_, fun i j hi hj hne h2 h2' hg hg' hp hp' => ?_, fun j hj h2 hg hp => ?_, by show X.1 + (3 + hsz A j0) ≤ p + 1 + 8; omega⟩
      · show X.1 + (3 + hsz A j0) = _
        rw [c1]
        symm
        refine sumN_updL k1 ?_ (fun i hin hi => ?_)
        · rw [if_pos ⟨⟨k2, k3⟩, by omega⟩, if_neg (fun z => by omega)]; omega
        · by_cases hc : (hsp A i = 2 ∧ ¬ g i = 0) ∧ hpl A i < p
          · rw [if_pos hc, if_pos ⟨hc.1, by omega⟩]
          · rw [if_neg hc, if_neg (fun z => hc ⟨z.1, by
              have : ¬ hpl A i = p := fun e => hi (uni i hin z.1.1 e)
              omega⟩)]
      · show upx X.2.1 j0 X.1 j + (3 + hsz A j) ≤ X.1 + (3 + hsz A j0) ∧ upx X.2.1 j0 X.1 j ≤ hpl A j
        by_cases ej : j = j0
        · subst ej; rw [upx_same]; omega
        · rw [upx_ne ej]
          have : ¬ hpl A j = p := fun e => ej (uni j hj h2 e)
          have := c2 j hj h2 hg (by omega)
          omega
      · show upx X.2.1 j0 X.1 j = hpl A j
        have ej : ¬ j = j0 := fun e => hj (by subst e; exact ⟨k1, k2, k3, by omega⟩)
        rw [upx_ne ej]
        exact c3 j (fun z => hj ⟨z.1, z.2.1, z.2.2.1, by omega⟩)
      · show upx X.2.1 j0 X.1 i + (3 + hsz A i) ≤ upx X.2.1 j0 X.1 j ∨ upx X.2.1 j0 X.1 j + (3 + hsz A j) ≤ upx X.2.1 j0 X.1 i
        by_cases ei : i = j0
        · subst ei
          have ej : ¬ j = i := fun e => hne e.symm
          rw [upx_same, upx_ne ej]
          have : ¬ hpl A j = p := fun e => ej (uni j hj h2' e)
          exact Or.inr (c2 j hj h2' hg' (by omega)).1
        · have hip : ¬ hpl A i = p := fun e => ei (uni i hi h2 e)
          rw [upx_ne ei]
          by_cases ej : j = j0
          · subst ej; rw [upx_same]; exact Or.inl (c2 i hi h2 hg (by omega)).1
          · rw [upx_ne ej]
            have : ¬ hpl A j = p := fun e => ej (uni j hj h2' e)
            exact c4 i j hi hj hne h2 h2' hg hg' (by omega) (by omega)
      · show X.1 + (3 + hsz A j0) ≤ hpl A j
        have hne : ¬ j = j0 := fun e => by rw [e] at hp; omega
        have := ha j j0 hj k1 hne h2 k2
        omega
