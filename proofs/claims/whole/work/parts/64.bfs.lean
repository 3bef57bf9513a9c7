/-! breadth first -/
theorem vis3_p {S : GS} {o p : Option Nat} {fl : Int32} {q : Nat} (h : q ∈ S.1) : q ∈ (vis3 S o p fl).1 := by
  rw [vis3_1]
  exact vis_sub h
/-- over slot j's fields, from f on, m of them -/
def sprF (A : Hp) (j : Nat) : Nat → Nat → GS → GS
  | 0, _, S => S
  | m + 1, f, S => sprF A j m (f + 1) (vis3 S (hlk A j f) (some j) (nI f))
def sprQ (A : Hp) (j : Nat) : Nat → Nat → List Nat → List Nat
  | 0, _, Q => Q
  | m + 1, f, Q => sprQ A j m (f + 1) (vis Q (hlk A j f))
theorem sprF_1 (A : Hp) (j : Nat) : ∀ (m f : Nat) (S : GS), (sprF A j m f S).1 = sprQ A j m f S.1 := by
  intro m
  induction m with
  | zero => intro f S; rfl
  | succ m ih => intro f S; unfold sprF sprQ; rw [ih, vis3_1]
def bfsF (A : Hp) : Nat → Nat → GS → GS
  | 0, _, S => S
  | m + 1, i, S => if i < S.1.length then bfsF A m (i + 1) (sprF A (S.1.getD i 0) (hsz A (S.1.getD i 0) - fst0 A (S.1.getD i 0)) (fst0 A (S.1.getD i 0)) S) else S
def bfsQ (A : Hp) : Nat → Nat → List Nat → List Nat
  | 0, _, Q => Q
  | m + 1, i, Q => if i < Q.length then bfsQ A m (i + 1) (sprQ A (Q.getD i 0) (hsz A (Q.getD i 0) - fst0 A (Q.getD i 0)) (fst0 A (Q.getD i 0)) Q) else Q
theorem bfsF_1 (A : Hp) : ∀ (m i : Nat) (S : GS), (bfsF A m i S).1 = bfsQ A m i S.1 := by
  intro m
  induction m with
  | zero => intro i S; rfl
  | succ m ih =>
    intro i S
    unfold bfsF bfsQ
    by_cases h : i < S.1.length
    · rw [if_pos h, if_pos h, ih, sprF_1]
    · rw [if_neg h, if_neg h]
theorem gr_W : ∀ c, (c = 7 ∨ c = 4 ∨ c = 28 ∨ (45 ≤ c ∧ c < 56)) → ¬ c ∈ [3, 30, 31, 32, 33, 34] := by
  intro c h
  simp only [List.mem_cons, List.not_mem_nil, or_false]
  omega
theorem c_spread_in {σ : rS} {k j n : Nat} {A : Hp} {S : GS} (w : OK A) (hC : CR σ k A) (hn : n = hn A) (hj : j < n) (hG : GC σ n S) (hm : j ∈ S.1) (x3 : Int32) : hit (lp (fun (x : Int32) σ => fX3_spread_L32 k x3 (nI j) x σ) fu (nI (fst0 A j)) σ) (fun _ s => CR s k A ∧ GC s n (sprF A j (hsz A j - fst0 A j) (fst0 A j) S)) := by
  subst hn
  have hw := w.n
  have hz := w.sz hj
  have hf0 : fst0 A j ≤ 1 := by unfold fst0; split <;> omega
  refine lp_go (I := fun m x s => ∃ f S', x = nI f ∧ f ≤ 5 ∧ m = hsz A j - f ∧ CR s k A ∧ GC s (hn A) S' ∧ j ∈ S'.1 ∧ sprF A j (hsz A j - f) f S' = sprF A j (hsz A j - fst0 A j) (fst0 A j) S) ?_ fu (hsz A j - fst0 A j) _ σ (fu_lt (by omega)) ⟨fst0 A j, S, rfl, by omega, rfl, hC, hG, hm, rfl⟩
  rintro m x s ⟨f, S', rfl, hf5, rfl, hC', hG', hm', he⟩
  unfold fX3_spread_L32
  rw [e_fieldsOf hC' w hj, bd_some]
  simp (disch := omega) only [pn_lt, pn_neg, pn_eq, pn_eq0, pn_eq1, pn_eq2, pn_m1, pn_m1', pn_m1lt, pn_ix, pn_bnd, pn_add1, pn_add3, pn_mul4, nI_add, bd_some, st_eq, rd_eq, if_true, if_false, ite_true, ite_false, reduceIte]
  by_cases hf : f < hsz A j
  · rw [if_pos hf, e_target hC' w hj hf, bd_some]
    refine bd_hit (hit_mono (hit_fr (frX3_visit _ _ _ _) (c_visit hw hG' (fun i hi => w.lk hj hf hi) (p := some j) (fl := nI f) (fun q hq => by cases hq; exact hm'))) ?_)
    rintro r s2 ⟨hfr, hG2⟩
    obtain ⟨m, hm2⟩ : ∃ m, hsz A j - f = m + 1 := ⟨hsz A j - f - 1, by omega⟩
    refine hit_some ⟨hsz A j - (f + 1), by omega, f + 1, vis3 S' (hlk A j f) (some j) (nI f), rfl, by omega, rfl, hC'.frame hfr gr_W, hG2, vis3_p hm', ?_⟩
    rw [← he, hm2, show hsz A j - (f + 1) = m by omega]
    rfl
  · rw [if_neg hf]
    refine hit_some ⟨hC', ?_⟩
    rw [← he, show hsz A j - f = 0 by omega]
    exact hG'
theorem c_spread {σ : rS} {k : Nat} {A : Hp} {S : GS} (w : OK A) (hC : CR σ k A) (hG : GC σ (hn A) S) {i : Nat} (hi : i ≤ 80) : hit (fX3_spread k (nI i) σ) (fun _ s => CR s k A ∧ GC s (hn A) (bfsF A (80 - i) i S)) := by
  have hw := w.n
  unfold fX3_spread
  refine bd_hit (hit_mono (lp_go (I := fun m x s => ∃ i' S', x = nI i' ∧ i' ≤ 80 ∧ m = 80 - i' ∧ CR s k A ∧ GC s (hn A) S' ∧ bfsF A (80 - i') i' S' = bfsF A (80 - i) i S) (P := fun _ s => CR s k A ∧ GC s (hn A) (bfsF A (80 - i) i S)) ?_ fu (80 - i) _ σ (fu_lt (by omega)) ⟨i, S, rfl, hi, rfl, hC, hG, rfl⟩) (fun _ s h => h))
  rintro m x s ⟨i', S', rfl, hi', rfl, hC', hG', he⟩
  have hlen := nodup_le hG'.1 hG'.2.1
  unfold fX3_spread_L2
  rw [hG'.2.2.1]
  simp (disch := omega) only [pn_lt80, pn_lt, pn_neg, pn_eq, pn_eq0, pn_eq1, pn_eq2, pn_m1, pn_m1', pn_m1lt, pn_ix, pn_bnd, pn_add1, pn_add3, pn_mul4, nI_add, bd_some, st_eq, rd_eq, if_true, if_false, ite_true, ite_false, reduceIte]
  by_cases hlt : i' < S'.1.length
  · have hmem := getD_mem hlt
    have hj := hG'.2.1 _ hmem
    rw [if_pos hlt, if_pos (by omega)]
    simp (disch := omega) only [pn_lt, pn_neg, pn_eq, pn_eq0, pn_eq1, pn_eq2, pn_m1, pn_m1', pn_m1lt, pn_ix, pn_bnd, pn_add1, pn_add3, pn_mul4, nI_add, bd_some, st_eq, rd_eq, if_true, if_false, ite_true, ite_false, reduceIte, hG'.2.2.2.1 i' hlt]
    rw [e_firstStrong hC' w hj, bd_some]
    refine bd_hit (hit_mono (c_spread_in w hC' rfl hj hG' hmem (nI i')) ?_)
    rintro r s2 ⟨hC2, hG2⟩
    obtain ⟨m, hm2⟩ : ∃ m, 80 - i' = m + 1 := ⟨80 - i' - 1, by omega⟩
    refine hit_some ⟨80 - (i' + 1), by omega, i' + 1, _, rfl, by omega, rfl, hC2, hG2, ?_⟩
    rw [← he, hm2, show 80 - (i' + 1) = m by omega]
    unfold bfsF
    rw [if_pos hlt]
    cases m <;> rfl
  · rw [if_neg hlt]
    refine hit_some ⟨hC', ?_⟩
    have e2 : bfsF A (80 - i') i' S' = S' := by
      cases h : 80 - i' with
      | zero => rfl
      | succ m => unfold bfsF; rw [if_neg hlt]
    rw [← he, e2]
    exact hG'
/-- over the roots but one -/
def visR (A : Hp) (lo : Int32) : Nat → Nat → GS → GS
  | 0, _, S => S
  | m + 1, r, S => visR A lo m (r + 1) (if nI r = lo then S else vis3 S (hrt A r) none (-1))
def visRQ (A : Hp) (lo : Int32) : Nat → Nat → List Nat → List Nat
  | 0, _, Q => Q
  | m + 1, r, Q => visRQ A lo m (r + 1) (if nI r = lo then Q else vis Q (hrt A r))
theorem visR_1 (A : Hp) (lo : Int32) : ∀ (m r : Nat) (S : GS), (visR A lo m r S).1 = visRQ A lo m r S.1 := by
  intro m
  induction m with
  | zero => intro r S; rfl
  | succ m ih =>
    intro r S
    unfold visR visRQ
    rw [ih]
    congr 1
    by_cases h : nI r = lo
    · rw [if_pos h, if_pos h]
    · rw [if_neg h, if_neg h, vis3_1]
def visE (L : List Nat) (S : GS) : GS := L.foldl (fun S j => vis3 S (some j) none (-1)) S
def visEQ (L : List Nat) (Q : List Nat) : List Nat := L.foldl (fun Q j => vis Q (some j)) Q
theorem visE_1 : ∀ (L : List Nat) (S : GS), (visE L S).1 = visEQ L S.1 := by
  intro L
  induction L with
  | nil => intro S; rfl
  | cons a L ih =>
    intro S
    show (visE L (vis3 S (some a) none (-1))).1 = visEQ L (vis S.1 (some a))
    rw [ih, vis3_1]
def gs0 : GS := ([], fun _ => 0, fun _ => 0, fun _ => 0)
def reachA (A : Hp) (lo : Int32) : GS := bfsF A 80 0 (visE (hen A) (visR A lo 8 0 gs0))
def reachQ (A : Hp) (lo : Int32) : List Nat := bfsQ A 80 0 (visEQ (hen A) (visRQ A lo 8 0 []))
theorem reachA_1 (A : Hp) (lo : Int32) : (reachA A lo).1 = reachQ A lo := by
  unfold reachA reachQ
  rw [bfsF_1, visE_1, visR_1]
  rfl
theorem c_begin {σ : rS} (n : Nat) : hit (fX3_begin σ) (fun _ s => GC s n gs0) := by
  unfold fX3_begin
  refine bd_hit (hit_mono (fill_spec 30 0 80 0 σ (by decide)) ?_)
  rintro r s rfl
  refine hit_some ⟨List.nodup_nil, fun j (hj : j ∈ ([] : List Nat)) => (List.not_mem_nil hj).elim, by rw [wr_same]; rfl, fun i hi => absurd hi (Nat.not_lt_zero _), fun j hj => ?_, fun j (hj : j ∈ ([] : List Nat)) => (List.not_mem_nil hj).elim⟩
  rw [wr_c (by decide), wrR_eq]
  unfold fillR
  rw [if_pos hj]
  rfl
theorem Ln.get {σ : rS} {j : Nat} {xs : List Int32} (h : Ln σ j xs) {i : Nat} (hi : i < xs.length) : fX4_get j (nI i) σ = some (xs.getD i 0, σ) := by
  have hl : lnLen j ≤ 80 := by unfold lnLen; split <;> (try split) <;> (try split) <;> omega
  have h2 := h.2.1
  unfold fX4_get
  rw [h.1]
  simp (disch := omega) only [pn_lt, pn_neg, pn_eq, pn_eq0, pn_eq1, pn_eq2, pn_m1, pn_m1', pn_m1lt, pn_ix, pn_bnd, pn_add1, pn_add3, pn_mul4, nI_add, bd_some, st_eq, rd_eq, if_true, if_false, ite_true, ite_false, reduceIte, hi, h.2.2 i hi]
theorem getD_map_nI {L : List Nat} {i : Nat} (hi : i < L.length) : (L.map nI).getD i 0 = nI (L.getD i 0) := by
  rw [List.getD_eq_getElem?_getD, List.getD_eq_getElem?_getD, List.getElem?_map, List.getElem?_eq_getElem hi]
  rfl
theorem drop_cons {L : List Nat} {i : Nat} (hi : i < L.length) : L.drop i = L.getD i 0 :: L.drop (i + 1) := by
  rw [List.drop_eq_getElem_cons hi]
  congr 1
  rw [List.getD_eq_getElem?_getD, List.getElem?_eq_getElem hi]
  rfl
theorem c_reach {σ : rS} {k : Nat} {A : Hp} (w : OK A) (hC : CR σ k A) (lo : Int32) : hit (fX3_reach k lo σ) (fun _ s => CR s k A ∧ GC s (hn A) (reachA A lo)) := by
  have hw := w.n
  have hel := hC.en.2.1
  have hel2 : (hen A).length ≤ 80 := by
    have h1 : lnLen (6 * k) ≤ 80 := by unfold lnLen; split <;> (try split) <;> (try split) <;> omega
    rw [List.length_map] at hel
    omega
  unfold fX3_reach
  refine bd_hit (hit_mono (hit_fr (frX3_begin _) (c_begin (hn A))) ?_)
  rintro r0 s0 ⟨hfr0, hG0⟩
  have hC0 : CR s0 k A := hC.frame hfr0 (by intro c h; simp only [List.mem_cons, List.not_mem_nil, or_false]; omega)
  refine bd_hit (hit_mono (lp_for (I := fun r s => CR s k A ∧ ∃ S, GC s (hn A) S ∧ visR A lo (8 - r) r S = visR A lo 8 0 gs0) (P := fun _ s => CR s k A ∧ GC s (hn A) (visR A lo 8 0 gs0)) (b := 8) ?_ ?_ fu 0 s0 (by omega) (by have := fu_ge; omega) ⟨hC0, gs0, hG0, rfl⟩) ?_)
  · rintro r s hr ⟨hC', S, hG, he⟩
    unfold fX3_reach_L6 fX3_reach_j29L6
    simp (disch := omega) only [pn_lt8, pn_lt, pn_neg, pn_eq, pn_eq0, pn_eq1, pn_eq2, pn_m1, pn_m1', pn_m1lt, pn_ix, pn_bnd, pn_add1, pn_add3, pn_mul4, nI_add, bd_some, st_eq, rd_eq, if_true, if_false, ite_true, ite_false, reduceIte, hr]
    obtain ⟨m, hm⟩ : ∃ m, 8 - r = m + 1 := ⟨8 - r - 1, by omega⟩
    by_cases hlo : nI r = lo
    · rw [if_pos hlo]
      refine hit_some ⟨rfl, hC', S, hG, ?_⟩
      rw [← he, hm, show 8 - (r + 1) = m by omega]
      unfold visR
      rw [if_pos hlo]
      cases m <;> rfl
    · rw [if_neg hlo]
      have e1 : s 53 k (ix (nI r)) = enc (hrt A r) := by rw [show ix (nI r) = r from pn_ix (by omega)]; exact hC'.rt hr
      have e2 : (-1 : Int32) = enc none := rfl
      simp (disch := omega) only [pn_lt, pn_neg, pn_eq, pn_eq0, pn_eq1, pn_eq2, pn_m1, pn_m1', pn_m1lt, pn_ix, pn_bnd, pn_add1, pn_add3, pn_mul4, nI_add, bd_some, st_eq, rd_eq, if_true, if_false, ite_true, ite_false, reduceIte, hC'.rt hr]
      refine bd_hit (hit_mono (hit_fr (frX3_visit _ _ _ _) (c_visit hw hG (o := hrt A r) (p := none) (fl := -1) (fun i hi => w.rt hr hi) (fun q hq => by cases hq))) ?_)
      rintro r2 s2 ⟨hfr, hG2⟩
      refine hit_some ⟨rfl, hC'.frame hfr gr_W, _, hG2, ?_⟩
      rw [← he, hm, show 8 - (r + 1) = m by omega]
      unfold visR
      rw [if_neg hlo]
      cases m <;> rfl
  · rintro s ⟨hC', S, hG, he⟩
    unfold fX3_reach_L6
    simp (disch := omega) only [pn_lt8, pn_lt, pn_neg, pn_eq, pn_eq0, pn_eq1, pn_eq2, pn_m1, pn_m1', pn_m1lt, pn_ix, pn_bnd, pn_add1, pn_add3, pn_mul4, nI_add, bd_some, st_eq, rd_eq, if_true, if_false, ite_true, ite_false, reduceIte, Nat.lt_irrefl]
    refine hit_some ⟨hC', ?_⟩
    rw [← he]
    exact hG
  rintro r1 s1 ⟨hC1, hG1⟩
  refine bd_hit (hit_mono (lp_for (I := fun i s => CR s k A ∧ ∃ S, GC s (hn A) S ∧ visE ((hen A).drop i) S = visE (hen A) (visR A lo 8 0 gs0)) (P := fun _ s => CR s k A ∧ GC s (hn A) (visE (hen A) (visR A lo 8 0 gs0))) (b := (hen A).length) ?_ ?_ fu 0 s1 (by omega) (by have := fu_ge; omega) ⟨hC1, _, hG1, rfl⟩) ?_)
  · rintro i s hi ⟨hC', S, hG, he⟩
    unfold fX3_reach_L37
    have hL := hC'.en
    have h41 : s 4 (6 * k + 0) 1 = nI (hen A).length := by rw [← List.length_map (f := nI)]; exact hL.1
    have hg := Ln.get hL (i := i) (by rw [List.length_map]; exact hi)
    rw [getD_map_nI hi] at hg
    rw [h41]
    simp (disch := omega) only [pn_lt, pn_neg, pn_eq, pn_eq0, pn_eq1, pn_eq2, pn_m1, pn_m1', pn_m1lt, pn_ix, pn_bnd, pn_add1, pn_add3, pn_mul4, nI_add, bd_some, st_eq, rd_eq, if_true, if_false, ite_true, ite_false, reduceIte, hi]
    have hg : fX4_get (6 * k + 0) (nI i) s = some (nI ((hen A).getD i 0), s) := hg
    rw [hg, bd_some]
    have hmem := w.en (getD_mem hi)
    refine bd_hit (hit_mono (hit_fr (frX3_visit _ _ _ _) (c_visit hw hG (o := some ((hen A).getD i 0)) (p := none) (fl := -1) (fun i' hi' => by cases hi'; exact hmem) (fun q hq => by cases hq))) ?_)
    rintro r2 s2 ⟨hfr, hG2⟩
    refine hit_some ⟨rfl, hC'.frame hfr gr_W, _, hG2, ?_⟩
    rw [← he, drop_cons hi]
    rfl
  · rintro s ⟨hC', S, hG, he⟩
    unfold fX3_reach_L37
    have hL := hC'.en
    have h41 : s 4 (6 * k + 0) 1 = nI (hen A).length := by rw [← List.length_map (f := nI)]; exact hL.1
    rw [h41]
    simp (disch := omega) only [pn_lt, pn_neg, pn_eq, pn_eq0, pn_eq1, pn_eq2, pn_m1, pn_m1', pn_m1lt, pn_ix, pn_bnd, pn_add1, pn_add3, pn_mul4, nI_add, bd_some, st_eq, rd_eq, if_true, if_false, ite_true, ite_false, reduceIte, Nat.lt_irrefl]
    refine hit_some ⟨hC', ?_⟩
    rw [← he, List.drop_length]
    exact hG
  rintro r2 s2 ⟨hC2, hG2⟩
  exact bd_hit (hit_mono (c_spread w hC2 hG2 (i := 0) (by omega)) (fun _ _ h => h))
