/-! path -/
def GI (S : GS) : Prop := ∀ j ∈ S.1, (S.2.1 j = 0 ∧ S.2.2.1 j = -1) ∨ ∃ q ∈ S.1, S.2.2.1 j = nI q ∧ S.2.1 j = S.2.1 q + 1
theorem vis3_new {S : GS} {j : Nat} {p : Option Nat} {fl : Int32} (h : ¬ j ∈ S.1) : vis3 S (some j) p fl = (S.1 ++ [j], fun x => if x = j then dOf S p else S.2.1 x, fun x => if x = j then enc p else S.2.2.1 x, fun x => if x = j then fl else S.2.2.2 x) := by
  unfold vis3
  exact if_neg h
theorem vis3_old {S : GS} {j : Nat} {p : Option Nat} {fl : Int32} (h : j ∈ S.1) : vis3 S (some j) p fl = S := by
  unfold vis3
  exact if_pos h
theorem GI.vis3 {S : GS} {o p : Option Nat} {fl : Int32} (h : GI S) (hp : ∀ q, p = some q → q ∈ S.1) : GI (vis3 S o p fl) := by
  cases o with
  | none => exact h
  | some j =>
    by_cases hm : j ∈ S.1
    · rw [vis3_old hm]; exact h
    · rw [vis3_new hm]
      intro i hi
      have old : ∀ q, q ∈ S.1 → ¬ q = j := fun q hq e => hm (e ▸ hq)
      show ((if i = j then dOf S p else S.2.1 i) = 0 ∧ (if i = j then enc p else S.2.2.1 i) = -1) ∨ ∃ q ∈ S.1 ++ [j], (if i = j then enc p else S.2.2.1 i) = nI q ∧ (if i = j then dOf S p else S.2.1 i) = (if q = j then dOf S p else S.2.1 q) + 1
      rcases List.mem_append.mp hi with hi | hi
      · rw [if_neg (old i hi), if_neg (old i hi)]
        rcases h i hi with h1 | ⟨q, hq, h1, h2⟩
        · exact Or.inl h1
        · exact Or.inr ⟨q, List.mem_append_left _ hq, h1, by rw [if_neg (old q hq)]; exact h2⟩
      · have e := List.mem_singleton.mp hi
        rw [if_pos e, if_pos e]
        cases p with
        | none => exact Or.inl ⟨rfl, rfl⟩
        | some q => exact Or.inr ⟨q, List.mem_append_left _ (hp q rfl), rfl, by rw [if_neg (old q (hp q rfl))]; rfl⟩
theorem GI.spr {A : Hp} {j : Nat} : ∀ (m f : Nat) {S : GS}, GI S → j ∈ S.1 → GI (sprF A j m f S) ∧ j ∈ (sprF A j m f S).1 := by
  intro m
  induction m with
  | zero => intro f S h hj; exact ⟨h, hj⟩
  | succ m ih => intro f S h hj; exact ih (f + 1) (h.vis3 (fun q hq => by cases hq; exact hj)) (vis3_p hj)
theorem GI.bfs {A : Hp} : ∀ (m i : Nat) {S : GS}, GI S → GI (bfsF A m i S) := by
  intro m
  induction m with
  | zero => intro i S h; exact h
  | succ m ih =>
    intro i S h
    unfold bfsF
    by_cases hi : i < S.1.length
    · rw [if_pos hi]; exact ih (i + 1) (GI.spr _ _ h (getD_mem hi)).1
    · rw [if_neg hi]; exact h
theorem GI.visR {A : Hp} {lo : Int32} : ∀ (m r : Nat) {S : GS}, GI S → GI (visR A lo m r S) := by
  intro m
  induction m with
  | zero => intro r S h; exact h
  | succ m ih =>
    intro r S h
    unfold _root_.Jvm.Pilot.CNurseryHeapLaw_law_r7759_95efe7.visR
    refine ih (r + 1) ?_
    by_cases e : nI r = lo
    · rw [if_pos e]; exact h
    · rw [if_neg e]; exact h.vis3 (fun q hq => by cases hq)
def waysA (A : Hp) : GS := bfsF A 80 0 (visR A (-1) 8 0 gs0)
theorem waysA_GI (A : Hp) : GI (waysA A) := GI.bfs _ _ (GI.visR _ _ (fun j (hj : j ∈ ([] : List Nat)) => (List.not_mem_nil hj).elim))
theorem c_findWays {σ : rS} {W : Wd} {b : Nat} (hC : CW σ W) (hI : InvW b W) : hit (fX3_findWays 0 σ) (fun _ s => CW s W ∧ GC s (hn (wS W).1) (waysA (wS W).1)) := by
  have w := hI.ok
  have hw := w.n
  refine hit_mono (hit_fr (frX3_findWays 0 σ) (K := fun _ s => GC s (hn (wS W).1) (waysA (wS W).1)) ?_) (fun r s h => ⟨hC.walk (fun c hc => h.1 c (fun z => hc (subL (by decide) c z))), h.2⟩)
  unfold fX3_findWays
  refine bd_hit (hit_mono (hit_fr (frX3_begin _) (c_begin (hn (wS W).1))) ?_)
  rintro r0 s0 ⟨hfr0, hG0⟩
  have hC0 : CR s0 0 (wS W).1 := hC.A.frame hfr0 (by intro c h; simp only [List.mem_cons, List.not_mem_nil, or_false]; omega)
  refine bd_hit (hit_mono (lp_for (I := fun r s => CR s 0 (wS W).1 ∧ ∃ S, GC s (hn (wS W).1) S ∧ visR (wS W).1 (-1) (8 - r) r S = visR (wS W).1 (-1) 8 0 gs0) (P := fun _ s => CR s 0 (wS W).1 ∧ GC s (hn (wS W).1) (visR (wS W).1 (-1) 8 0 gs0)) (b := 8) ?_ ?_ fu 0 s0 (by omega) (by have := fu_ge; omega) ⟨hC0, gs0, hG0, rfl⟩) ?_)
  · rintro r s hr ⟨hC', S, hG, he⟩
    unfold fX3_findWays_L6
    obtain ⟨m, hm⟩ : ∃ m, 8 - r = m + 1 := ⟨8 - r - 1, by omega⟩
    have hlo : ¬ nI r = -1 := by rw [pn_m1 (by omega)]; exact id
    simp (disch := omega) only [pn_lt8, pn_lt, pn_neg, pn_eq, pn_eq0, pn_eq1, pn_eq2, pn_m1, pn_m1', pn_m1lt, pn_ix, pn_bnd, pn_add1, pn_add3, pn_mul4, nI_add, bd_some, st_eq, rd_eq, if_true, if_false, ite_true, ite_false, reduceIte, hr, hC'.rt hr]
    refine bd_hit (hit_mono (hit_fr (frX3_visit _ _ _ _) (c_visit hw hG (o := hrt (wS W).1 r) (p := none) (fl := -1) (fun i hi => w.rt hr hi) (fun q hq => by cases hq))) ?_)
    rintro r2 s2 ⟨hfr, hG2⟩
    refine hit_some ⟨rfl, hC'.frame hfr gr_W, _, hG2, ?_⟩
    rw [← he, hm, show 8 - (r + 1) = m by omega]
    conv => rhs; unfold visR
    rw [if_neg hlo]
  · rintro s ⟨hC', S, hG, he⟩
    unfold fX3_findWays_L6
    simp (disch := omega) only [pn_lt8, pn_lt, pn_neg, pn_eq, pn_eq0, pn_eq1, pn_eq2, pn_m1, pn_m1', pn_m1lt, pn_ix, pn_bnd, pn_add1, pn_add3, pn_mul4, nI_add, bd_some, st_eq, rd_eq, if_true, if_false, ite_true, ite_false, reduceIte, Nat.lt_irrefl]
    refine hit_some ⟨hC', ?_⟩
    rw [← he]
    exact hG
  rintro r1 s1 ⟨hC1, hG1⟩
  exact bd_hit (hit_mono (c_spread w hC1 hG1 (i := 0) (by omega)) (fun _ _ h => h.2))
/-- m steps back along the way -/
def anc (S : GS) : Nat → Nat → Nat
  | 0, j => j
  | m + 1, j => anc S m (ix (S.2.2.1 j))
def lrA (A : Hp) (j : Nat) : Option Nat := fst1 (fun r => decide (hrt A r = some j)) 8 0
def aWay (A : Hp) (S : GS) (g : Nat) (x : Int32) : Int32 := if g ∈ S.1 then (if x = -1 then nI (S.2.1 g) else match inB x (S.2.1 g + 1) with
  | none => -1
  | some i => if i = 0 then enc (lrA A (anc S (S.2.1 g - i) g)) else S.2.2.2 (anc S (S.2.1 g - i) g)) else -1
theorem anc_in {S : GS} {n : Nat} (h : GI S) (hn : ∀ j ∈ S.1, j < n) (h78 : n ≤ 78) : ∀ (m j : Nat), j ∈ S.1 → m ≤ S.2.1 j → anc S m j ∈ S.1 ∧ S.2.1 (anc S m j) = S.2.1 j - m := by
  intro m
  induction m with
  | zero => intro j hj _; exact ⟨hj, rfl⟩
  | succ m ih =>
    intro j hj hm
    rcases h j hj with h1 | ⟨q, hq, h1, h2⟩
    · omega
    · have hq' := hn q hq
      have e : ix (S.2.2.1 j) = q := by rw [h1]; exact pn_ix (by omega)
      show anc S m (ix (S.2.2.1 j)) ∈ S.1 ∧ S.2.1 (anc S m (ix (S.2.2.1 j))) = _
      rw [e]
      obtain ⟨h3, h4⟩ := ih q hq (by omega)
      exact ⟨h3, by omega⟩
