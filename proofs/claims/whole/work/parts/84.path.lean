/-! path -/
def GI (S : GS) : Prop := ∀ j ∈ S.1, (S.2.1 j = 0 ∧ S.2.2.1 j = -1) ∨ ∃ q ∈ S.1, S.2.2.1 j = nI q ∧ S.2.1 j = S.2.1 q + 1
theorem vis3_new {S : GS} {j : Nat} {p : Option Nat} {fl : Int32} (h : ¬ j ∈ S.1) : vis3 S (some j) p fl = (S.1 ++ [j], fun x => if x = j then dOf S p else S.2.1 x, fun x => if x = j then enc p else S.2.2.1 x, fun x => if x = j then fl else S.2.2.2 x) := by
  unfold vis3
  exact if_neg h
theorem vis3_old {S : GS} {j : Nat} {p : Option Nat} {fl : Int32} (h : j ∈ S.1) : vis3 S (some j) p fl = S := by
  unfold vis3
  exact if_pos h
theorem GI_vis3 {S : GS} {o p : Option Nat} {fl : Int32} (h : GI S) (hp : ∀ q, p = some q → q ∈ S.1) : GI (vis3 S o p fl) := by
  cases o with
  | none => exact h
  | some j =>
    by_cases hm : j ∈ S.1
    · rw [vis3_old hm]; exact h
    · rw [vis3_new hm]
      intro i hi
      have old : ∀ q, q ∈ S.1 → ¬ q = j := fun q hq e => hm (e ▸ hq)
      show ((if i = j then dOf S p else S.2.1 i) = 0 ∧ (if i = j then enc p else S.2.2.1 i) = -1) ∨ ∃ q ∈ S.1 ++ [j], (if i = j then enc p else S.2.2.1 i) = nI q ∧ (if i = j then dOf S p else S.2.1 i) = (if q = j then dOf S p else S.2.1 q) + 1
      rcases List.mem_append.mp hi with hi | hi
      · rw [if_neg (old i hi), if_neg (old i hi)]
        rcases h i hi with h1 | ⟨q, hq, h1, h2⟩
        · exact Or.inl h1
        · exact Or.inr ⟨q, List.mem_append_left _ hq, h1, by rw [if_neg (old q hq)]; exact h2⟩
      · have e := List.mem_singleton.mp hi
        rw [if_pos e, if_pos e]
        cases p with
        | none => exact Or.inl ⟨rfl, rfl⟩
        | some q => exact Or.inr ⟨q, List.mem_append_left _ (hp q rfl), rfl, by rw [if_neg (old q (hp q rfl))]; rfl⟩
theorem GI_spr {A : Hp} {j : Nat} : ∀ (m f : Nat) {S : GS}, GI S → j ∈ S.1 → GI (sprF A j m f S) ∧ j ∈ (sprF A j m f S).1 := by
  intro m
  induction m with
  | zero => intro f S h hj; exact ⟨h, hj⟩
  | succ m ih => intro f S h hj; exact ih (f + 1) (GI_vis3 h (fun q hq => by cases hq; exact hj)) (vis3_p hj)
theorem GI_bfs {A : Hp} : ∀ (m i : Nat) {S : GS}, GI S → GI (bfsF A m i S) := by
  intro m
  induction m with
  | zero => intro i S h; exact h
  | succ m ih =>
    intro i S h
    unfold bfsF
    by_cases hi : i < S.1.length
    · rw [if_pos hi]; exact ih (i + 1) (GI_spr _ _ h (getD_mem hi)).1
    · rw [if_neg hi]; exact h
theorem GI_visR {A : Hp} {lo : Int32} : ∀ (m r : Nat) {S : GS}, GI S → GI (visR A lo m r S) := by
  intro m
  induction m with
  | zero => intro r S h; exact h
  | succ m ih =>
    intro r S h
    unfold visR
    refine ih (r + 1) ?_
    by_cases e : nI r = lo
    · rw [if_pos e]; exact h
    · rw [if_neg e]; exact GI_vis3 h (fun q hq => by cases hq)
def waysA (A : Hp) : GS := bfsF A 80 0 (visR A (-1) 8 0 gs0)
theorem waysA_GI (A : Hp) : GI (waysA A) := GI_bfs _ _ (GI_visR _ _ (fun j (hj : j ∈ ([] : List Nat)) => (List.not_mem_nil hj).elim))
theorem c_findWays {σ : rS} {W : Wd} {b : Nat} (hC : CW σ W) (hI : InvW b W) : hit (fX3_findWays 0 σ) (fun _ s => CW s W ∧ GC s (hn (wS W).1) (waysA (wS W).1)) := by
  have w := hI.ok
  have hw := w.n
  refine hit_mono (hit_fr (frX3_findWays 0 σ) (K := fun _ s => GC s (hn (wS W).1) (waysA (wS W).1)) ?_) (fun r s h => ⟨hC.walk (fun c hc => h.1 c (fun z => hc (subL (by decide) c z))), h.2⟩)
  unfold fX3_findWays
  refine bd_hit (hit_mono (hit_fr (frX3_begin _) (c_begin (hn (wS W).1))) ?_)
  rintro r0 s0 ⟨hfr0, hG0⟩
  have hC0 : CR s0 0 (wS W).1 := hC.A.frame hfr0 (by intro c h; simp only [List.mem_cons, List.not_mem_nil, or_false]; omega)
  refine bd_hit (hit_mono (lp_for (I := fun r s => CR s 0 (wS W).1 ∧ ∃ S, GC s (hn (wS W).1) S ∧ visR (wS W).1 (-1) (8 - r) r S = visR (wS W).1 (-1) 8 0 gs0) (P := fun _ s => CR s 0 (wS W).1 ∧ GC s (hn (wS W).1) (visR (wS W).1 (-1) 8 0 gs0)) (b := 8) ?_ ?_ fu 0 s0 (by omega) (by have := fu_ge; omega) ⟨hC0, gs0, hG0, rfl⟩) ?_)
  · rintro r s hr ⟨hC', S, hG, he⟩
    unfold fX3_findWays_L6
    obtain ⟨m, hm⟩ : ∃ m, 8 - r = m + 1 := ⟨8 - r - 1, by omega⟩
    have hlo : ¬ nI r = -1 := by rw [pn_m1 (by omega)]; exact id
    simp (disch := omega) only [pn_lt8, pn_lt, pn_neg, pn_eq, pn_eq0, pn_eq1, pn_eq2, pn_m1, pn_m1', pn_m1lt, pn_ix, pn_bnd, pn_add1, pn_add3, pn_mul4, nI_add, bd_some, st_eq, rd_eq, if_true, if_false, ite_true, ite_false, reduceIte, hr, hC'.rt hr]
    refine bd_hit (hit_mono (hit_fr (frX3_visit _ _ _ _) (c_visit hw hG (o := hrt (wS W).1 r) (p := none) (fl := -1) (fun i hi => w.rt hr hi) (fun q hq => by cases hq))) ?_)
    rintro r2 s2 ⟨hfr, hG2⟩
    refine hit_some ⟨rfl, hC'.frame hfr gr_W, _, hG2, ?_⟩
    rw [← he, hm, show 8 - (r + 1) = m by omega]
    conv => rhs; unfold visR
    rw [if_neg hlo]
  · rintro s ⟨hC', S, hG, he⟩
    unfold fX3_findWays_L6
    simp (disch := omega) only [pn_lt8, pn_lt, pn_neg, pn_eq, pn_eq0, pn_eq1, pn_eq2, pn_m1, pn_m1', pn_m1lt, pn_ix, pn_bnd, pn_add1, pn_add3, pn_mul4, nI_add, bd_some, st_eq, rd_eq, if_true, if_false, ite_true, ite_false, reduceIte, Nat.lt_irrefl]
    refine hit_some ⟨hC', ?_⟩
    rw [← he]
    exact hG
  rintro r1 s1 ⟨hC1, hG1⟩
  exact bd_hit (hit_mono (c_spread w hC1 hG1 (i := 0) (by omega)) (fun _ _ h => h.2))
/-- m steps back along the way -/
def anc (S : GS) : Nat → Nat → Nat
  | 0, j => j
  | m + 1, j => anc S m (ix (S.2.2.1 j))
def lrA (A : Hp) (j : Nat) : Option Nat := fst1 (fun r => decide (hrt A r = some j)) 8 0
def aWay (A : Hp) (S : GS) (g : Nat) (x : Int32) : Int32 := if g ∈ S.1 then (if x = -1 then nI (S.2.1 g) else match inB x (S.2.1 g + 1) with
  | none => -1
  | some i => if i = 0 then enc (lrA A (anc S (S.2.1 g - i) g)) else S.2.2.2 (anc S (S.2.1 g - i) g)) else -1
theorem anc_in {S : GS} {n : Nat} (h : GI S) (hn : ∀ j ∈ S.1, j < n) (h78 : n ≤ 78) : ∀ (m j : Nat), j ∈ S.1 → m ≤ S.2.1 j → anc S m j ∈ S.1 ∧ S.2.1 (anc S m j) = S.2.1 j - m := by
  intro m
  induction m with
  | zero => intro j hj _; exact ⟨hj, rfl⟩
  | succ m ih =>
    intro j hj hm
    rcases h j hj with h1 | ⟨q, hq, h1, h2⟩
    · omega
    · have hq' := hn q hq
      have e : ix (S.2.2.1 j) = q := by rw [h1]; exact pn_ix (by omega)
      show anc S m (ix (S.2.2.1 j)) ∈ S.1 ∧ S.2.1 (anc S m (ix (S.2.2.1 j))) = _
      rw [e]
      obtain ⟨h3, h4⟩ := ih q hq (by omega)
      exact ⟨h3, by omega⟩
theorem e_lowest {σ : rS} {k : Nat} {A : Hp} {j : Nat} (h : CR σ k A) (w : OK A) (hj : j < 2147483648) : fX3_lowestRootOf k (nI j) σ = some (enc (lrA A j), σ) := by
  have hw := w.n
  unfold fX3_lowestRootOf
  have e := lp_find (step := fun x2 σ => fX3_lowestRootOf_L2 k (nI j) x2 σ) (p := fun r => decide (hrt A r = some j)) (n := 8) (σ := σ) (by omega)
    (fun i hi hp => by
      have hp : hrt A i = some j := of_decide_eq_true hp
      unfold fX3_lowestRootOf_L2
      simp (disch := omega) only [pn_lt8, pn_lt, pn_neg, pn_eq, pn_eq0, pn_eq1, pn_eq2, pn_m1, pn_m1', pn_m1lt, pn_ix, pn_bnd, pn_add1, pn_add3, pn_mul4, nI_add, bd_some, st_eq, rd_eq, if_true, if_false, ite_true, ite_false, reduceIte, hi, h.rt hi, hp, enc_some])
    (fun i hi hp => by
      have hp : ¬ hrt A i = some j := of_decide_eq_false hp
      unfold fX3_lowestRootOf_L2
      simp (disch := omega) only [pn_lt8, pn_lt, pn_neg, pn_eq, pn_eq0, pn_eq1, pn_eq2, pn_m1, pn_m1', pn_m1lt, pn_ix, pn_bnd, pn_add1, pn_add3, pn_mul4, nI_add, bd_some, st_eq, rd_eq, if_true, if_false, ite_true, ite_false, reduceIte, hi, h.rt hi, enc_eq (fun q hq => show q < 2147483648 by have := w.rt hi hq; omega) hj, hp])
    (by
      unfold fX3_lowestRootOf_L2
      simp (disch := omega) only [pn_lt8, pn_lt, pn_neg, pn_eq, pn_eq0, pn_eq1, pn_eq2, pn_m1, pn_m1', pn_m1lt, pn_ix, pn_bnd, pn_add1, pn_add3, pn_mul4, nI_add, bd_some, st_eq, rd_eq, if_true, if_false, ite_true, ite_false, reduceIte, Nat.lt_irrefl]) fu 0 (Nat.zero_le _) (by have := fu_ge; omega)
  have e : lp (fun x2 σ => fX3_lowestRootOf_L2 k (nI j) x2 σ) fu 0 σ = _ := e
  rw [e, bd_some]
  unfold lrA
  rw [Nat.sub_zero]
  cases fst1 (fun r => decide (hrt A r = some j)) 8 0 <;> rfl
theorem c_wayTo {σ : rS} {k g : Nat} {A : Hp} {S : GS} (h : CR σ k A) (w : OK A) (hG : GC σ (hn A) S) (hS : GI S) (hg : g < hn A) (x : Int32) : fX3_wayTo k (nI g) x σ = some (aWay A S g x, σ) := by
  have hw := w.n
  have hl := nodup_le hG.1 hG.2.1
  have h30 := hG.2.2.2.2.1 g (by omega)
  unfold fX3_wayTo fX3_isSeen aWay
  simp (disch := omega) only [pn_lt80, pn_lt, pn_neg, pn_eq, pn_eq0, pn_eq1, pn_eq2, pn_m1, pn_m1', pn_m1lt, pn_ix, pn_bnd, pn_add1, pn_add3, pn_mul4, nI_add, bd_some, st_eq, rd_eq, if_true, if_false, ite_true, ite_false, reduceIte, h30, show g < 80 by omega]
  by_cases hm : g ∈ S.1
  · obtain ⟨hd, h32, -, -⟩ := hG.2.2.2.2.2 g hm
    simp only [if_pos hm, if_neg one_ne, bd_some]
    rw [h32]
    by_cases hx : x = -1
    · rw [if_pos hx, if_pos hx]
    · rw [if_neg hx, if_neg hx, c_in' x (by omega)]
      rcases inB_cases x (b := S.2.1 g + 1) (by omega) with ⟨i, hi, rfl, e⟩ | ⟨e, -⟩
      · rw [e]
        dsimp only
        have key : hit (lp (fun (y : (Int32 × Int32)) σ => fX3_wayTo_L45 k (nI i) y.1 y.2 σ) fu (nI g, nI (S.2.1 g)) σ) (fun r t => r = nI (anc S (S.2.1 g - i) g) ∧ t = σ) := by
          refine lp_go (I := fun m y t => ∃ q, q ∈ S.1 ∧ i ≤ S.2.1 q ∧ m = S.2.1 q - i ∧ y = (nI q, nI (S.2.1 q)) ∧ t = σ ∧ anc S (S.2.1 q - i) q = anc S (S.2.1 g - i) g) ?_ fu (S.2.1 g - i) _ σ (fu_lt (by omega)) ⟨g, hm, by omega, rfl, rfl, rfl, rfl⟩
          rintro m y t ⟨q, hq, hiq, rfl, rfl, rfl, ha⟩
          have hqn := hG.2.1 q hq
          obtain ⟨hqd, -, h33, -⟩ := hG.2.2.2.2.2 q hq
          unfold fX3_wayTo_L45
          simp (disch := omega) only [pn_lt, pn_neg, pn_eq, pn_eq0, pn_eq1, pn_eq2, pn_m1, pn_m1', pn_m1lt, pn_ix, pn_bnd, pn_add1, pn_add3, pn_mul4, nI_add, bd_some, st_eq, rd_eq, if_true, if_false, ite_true, ite_false, reduceIte, h33]
          by_cases hlt : i < S.2.1 q
          · rw [if_pos hlt]
            rcases hS q hq with h1 | ⟨q', hq', h1, h2⟩
            · omega
            · have hqn' := hG.2.1 q' hq'
              rw [h1, if_neg (by rw [pn_m1 (by omega)]; exact id)]
              have e2 : nI (S.2.1 q) + -1 = nI (S.2.1 q') := by
                have : nI (S.2.1 q) + -1 = nI (S.2.1 q) - 1 := by rw [Int32.sub_eq_add_neg]
                rw [this, pn_sub1 (by omega), h2]
                rfl
              rw [e2]
              refine hit_some ⟨S.2.1 q' - i, by omega, q', hq', by omega, rfl, rfl, rfl, ?_⟩
              rw [← ha, h2, show S.2.1 q' + 1 - i = (S.2.1 q' - i) + 1 by omega]
              show _ = anc S (S.2.1 q' - i) (ix (S.2.2.1 q))
              rw [h1, show ix (nI q') = q' from pn_ix (by omega)]
          · rw [if_neg hlt]
            refine hit_some ⟨?_, rfl⟩
            rw [← ha, show S.2.1 q - i = 0 by omega]
            rfl
        rw [eq_of_hit key, bd_some]
        obtain ⟨h5, h6⟩ := anc_in hS hG.2.1 hw (S.2.1 g - i) g hm (by omega)
        generalize anc S (S.2.1 g - i) g = z at h5 h6
        have hz := hG.2.1 z h5
        have h34 := (hG.2.2.2.2.2 z h5).2.2.2
        unfold fX3_wayTo_j77
        simp (disch := omega) only [pn_lt, pn_neg, pn_eq, pn_eq0, pn_eq1, pn_eq2, pn_m1, pn_m1', pn_m1lt, pn_ix, pn_bnd, pn_add1, pn_add3, pn_mul4, nI_add, bd_some, st_eq, rd_eq, if_true, if_false, ite_true, ite_false, reduceIte, h34]
        by_cases i0 : i = 0
        · rw [if_pos i0, if_pos i0, e_lowest h w (by omega), bd_some]
        · rw [if_neg i0, if_neg i0]
      · rw [e]
  · simp only [if_neg hm, bd_some]
    rfl
def aPath (W : Wd) (x y : Int32) : Int32 := match findA (wS W).1 x with
  | none => -1
  | some j => aWay (wS W).1 (waysA (wS W).1) j y
theorem c_path {x y : Int32} {σ : rS} {W : Wd} {b : Nat} (hC : CW σ W) (hI : InvW b W) : hit (fX9_path x y σ) (fun r s => r = aPath W x y ∧ CW s W) := by
  have w := hI.ok
  have hw := w.n
  unfold fX9_path aPath
  rw [e_find hC.A w, bd_some]
  cases hf : findA (wS W).1 x with
  | none => rw [enc_none, if_pos rfl]; exact hit_some ⟨rfl, hC⟩
  | some j =>
    have hj := (findA_lt hf).1
    rw [enc_some, if_neg (by rw [pn_m1 (by omega)]; exact id)]
    refine bd_hit (hit_mono (c_findWays hC hI) ?_)
    rintro r s ⟨hC2, hG⟩
    rw [c_wayTo hC2.A w hG (waysA_GI _) hj, bd_some]
    exact hit_some ⟨rfl, hC2⟩
