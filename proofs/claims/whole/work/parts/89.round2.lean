/-! round, the model's side -/
/-- the least so far, over one more -/
def uBst (S : GS) (A : Hp) (g i : Nat) (a : Int32) : Int32 := if (bk A g (S.1.getD i 0)).isSome = true then (if a = -1 then nI (S.2.1 (S.1.getD i 0)) + 1 else if nI (S.2.1 (S.1.getD i 0)) + 1 < a then nI (S.2.1 (S.1.getD i 0)) + 1 else a) else a
theorem acc_done {S : GS} {A : Hp} {g d : Nat} (hd : d < 100) : ∀ (m i : Nat), (∀ k, i ≤ k → k < i + m → d ≤ S.2.1 (S.1.getD k 0) ∧ S.2.1 (S.1.getD k 0) < 100) → acc (uBst S A g) m i (nI (d + 1)) = nI (d + 1) := by
  intro m
  induction m with
  | zero => intro i _; rfl
  | succ m ih =>
    intro i h
    have h1 := h i (by omega) (by omega)
    have e : uBst S A g i (nI (d + 1)) = nI (d + 1) := by
      unfold uBst
      rw [pn_add1, if_neg (show ¬ nI (d + 1) = -1 by rw [pn_m1 (by omega)]; exact id), if_neg (show ¬ nI (S.2.1 (S.1.getD i 0) + 1) < nI (d + 1) by rw [pn_lt (by omega) (by omega)]; omega)]
      split <;> rfl
    show acc (uBst S A g) m (i + 1) (uBst S A g i (nI (d + 1))) = _
    rw [e]
    exact ih (i + 1) (fun k h1 h2 => h k (by omega) (by omega))
theorem acc_bst {S : GS} {A : Hp} {g n : Nat} (hS : SO S) (hd : ∀ j ∈ S.1, S.2.1 j < 100) (hn : n = S.1.length) : ∀ (m i : Nat), i + m = n → acc (uBst S A g) m i (-1) = match fst1 (fun i => (bk A g (S.1.getD i 0)).isSome) m i with
    | none => -1
    | some i => nI (S.2.1 (S.1.getD i 0)) + 1 := by
  intro m
  induction m with
  | zero => intro i _; rfl
  | succ m ih =>
    intro i hi
    unfold fst1
    show acc (uBst S A g) m (i + 1) (uBst S A g i (-1)) = _
    by_cases hb : (bk A g (S.1.getD i 0)).isSome = true
    · rw [if_pos hb]
      have e : uBst S A g i (-1) = nI (S.2.1 (S.1.getD i 0) + 1) := by
        unfold uBst
        rw [if_pos hb, if_pos rfl, pn_add1]
      have h1 := hd _ (getD_mem (L := S.1) (i := i) (by omega))
      rw [e]
      dsimp only
      rw [pn_add1]
      exact acc_done h1 m (i + 1) (fun k h2 h3 => ⟨hS i k (by omega) (by omega), hd _ (getD_mem (by omega))⟩)
    · have hb' : (bk A g (S.1.getD i 0)).isSome = false := by simpa using hb
      have e : uBst S A g i (-1) = -1 := by
        unfold uBst
        rw [if_neg hb]
      rw [if_neg hb, e]
      exact ih (i + 1) (by omega)
/-- one slot's fields, for the least -/
def uB1 (A : Hp) (g q d f : Nat) (a : Int32) : Int32 := if f < fst0 A q then a else if hlk A q f = some g then (if a = -1 then nI d + 1 else if nI d + 1 < a then nI d + 1 else a) else a
theorem uB1_fix {A : Hp} {g q d : Nat} {a : Int32} (ha : ¬ a = -1) (hl : ¬ nI d + 1 < a) : ∀ (m f : Nat), acc (uB1 A g q d) m f a = a := by
  intro m
  induction m with
  | zero => intro f; rfl
  | succ m ih =>
    intro f
    have e : uB1 A g q d f a = a := by
      unfold uB1
      rw [if_neg ha, if_neg hl]
      split
      · rfl
      · split <;> rfl
    show acc (uB1 A g q d) m (f + 1) (uB1 A g q d f a) = a
    rw [e]
    exact ih (f + 1)
theorem uB1_acc {A : Hp} {g q d : Nat} (hd : d < 100) : ∀ (m f : Nat) (a : Int32), fst0 A q ≤ f → acc (uB1 A g q d) m f a = if (fst1 (fun f => decide (hlk A q f = some g)) m f).isSome = true then (if a = -1 then nI d + 1 else if nI d + 1 < a then nI d + 1 else a) else a := by
  intro m
  induction m with
  | zero => intro f a _; rfl
  | succ m ih =>
    intro f a hf
    show acc (uB1 A g q d) m (f + 1) (uB1 A g q d f a) = _
    unfold fst1
    by_cases hb : hlk A q f = some g
    · have e : uB1 A g q d f a = if a = -1 then nI d + 1 else if nI d + 1 < a then nI d + 1 else a := by
        unfold uB1
        rw [if_neg (by omega), if_pos hb]
      rw [if_pos (decide_eq_true hb), e, if_pos (show (some f).isSome = true from rfl)]
      have k1 : ¬ nI d + 1 = -1 := by rw [pn_add1, pn_m1 (by omega)]; exact id
      have k2 : ¬ nI d + 1 < nI d + 1 := Int32.lt_irrefl
      by_cases h1 : a = -1
      · rw [if_pos h1]; exact uB1_fix k1 k2 m (f + 1)
      · rw [if_neg h1]
        by_cases h2 : nI d + 1 < a
        · rw [if_pos h2]; exact uB1_fix k1 k2 m (f + 1)
        · rw [if_neg h2]; exact uB1_fix h1 h2 m (f + 1)
    · have e : uB1 A g q d f a = a := by
        unfold uB1
        rw [if_neg (by omega), if_neg hb]
      have hb' : ¬ (decide (hlk A q f = some g) = true) := by rw [decide_eq_false hb]; decide
      rw [if_neg hb', e]
      exact ih (f + 1) a (by omega)
theorem uB1_all {A : Hp} {g q d : Nat} (hd : d < 100) (hf : fst0 A q ≤ hsz A q) (a : Int32) : acc (uB1 A g q d) (hsz A q) 0 a = if (bk A g q).isSome = true then (if a = -1 then nI d + 1 else if nI d + 1 < a then nI d + 1 else a) else a := by
  have h1 : fst0 A q = 0 ∨ fst0 A q = 1 := by unfold fst0; split <;> omega
  unfold bk
  rcases h1 with h1 | h1
  · rw [h1, Nat.sub_zero]; exact uB1_acc hd _ _ a (by omega)
  · obtain ⟨m, hm⟩ : ∃ m, hsz A q = m + 1 := ⟨hsz A q - 1, by omega⟩
    have e : uB1 A g q d 0 a = a := by
      unfold uB1
      rw [if_pos (by omega)]
    rw [h1, hm, show m + 1 - 1 = m by omega]
    show acc (uB1 A g q d) m 1 (uB1 A g q d 0 a) = _
    rw [e]
    exact uB1_acc hd m 1 a (by omega)
def aRound (W : Wd) (x : Int32) : Int32 := match findA (wS W).1 x with
  | none => -1
  | some j => aRnd (wS W).1 j
theorem c_round {x : Int32} {σ : rS} {W : Wd} {b : Nat} (hC : CW σ W) (hI : InvW b W) : hit (fX9_round x σ) (fun r s => r = aRound W x ∧ CW s W) := by
  have w := hI.ok
  have hw := w.n
  unfold fX9_round aRound
  rw [e_find hC.A w, bd_some]
  cases hf : findA (wS W).1 x with
  | none => rw [enc_none, if_pos rfl]; exact hit_some ⟨rfl, hC⟩
  | some j =>
    have hj := (findA_lt hf).1
    rw [enc_some, if_neg (by rw [pn_m1 (by omega)]; exact id)]
    refine bd_hit (hit_mono (hit_fr (frX3_wayBack 0 (nI j) σ) (c_wayBack w hC.A hj)) ?_)
    rintro r s ⟨hfr, hr⟩
    exact hit_some ⟨hr, hC.walk (fun c hc => hfr c (fun z => hc (subL (by decide) c z)))⟩
theorem m_round {x : Int32} {σ : rS} {W : Wd} {b : Nat} (hM : MW σ W) (hI : InvW b W) : hit (fX10_round x σ) (fun r s => r = aRound W x ∧ MW s W) := by
  have w := hI.ok
  have hw := w.n
  have hs := hM.t0 0
  unfold fX10_round aRound
  rw [st_eq, m_spot hs.A w x (fun r s => fX10_round_j21 x r s)]
  cases hf : findA (wS W).1 x with
  | none => unfold fX10_round_j21; rw [enc_none, if_pos rfl]; exact hit_some ⟨rfl, hs⟩
  | some g =>
    obtain ⟨hg, hx⟩ := findA_lt hf
    refine hit_mono (hit_fr2 (frX10_round_j21 _ _ _) (fpX10_round_j21 _ _ _) (K := fun r _ => r = aRnd (wS W).1 g) ?_) (fun r s h => ⟨h.2.2, hs.walk (fun c hc => h.1 c (fun z => hc (subL (by decide) c z))) h.2.1⟩)
    unfold fX10_round_j21
    rw [enc_some, if_neg (by rw [pn_m1 (by omega)]; exact id)]
    refine bd_hit (hit_mono (hit_fr (frX10_begins _) (m_begin (hn (wS W).1))) ?_)
    rintro r0 s0 ⟨hfr0, hG0, -⟩
    have hM0 : MR (s0 66 0) (wS W).1 := hs.A.frame hfr0 (by decide)
    simp (disch := omega) only [pn_lt, pn_neg, pn_eq, pn_eq0, pn_eq1, pn_eq2, pn_m1, pn_m1', pn_m1lt, pn_ix, pn_bnd, pn_add1, pn_add3, pn_mul4, nI_add, bd_some, st_eq, rd_eq, if_true, if_false, ite_true, ite_false, reduceIte]
    have hG0' : GM (wr s0 73 0 g 0) (hn (wS W).1) [] := by
      unfold GM at hG0 ⊢
      rw [wr_c (by decide), wr_c (c' := 69) (by decide), wr_c (c' := 68) (by decide)]
      exact hG0
    have hmk := m_marks hw hG0' (o := some g) (fun i hi => by cases hi; exact hg)
    rw [enc_some] at hmk
    refine bd_hit (hit_mono (hit_fr (frX10_marks _ _) hmk) ?_)
    rintro r1 s1 ⟨hfr1, hG1⟩
    have hM1 : MR (s1 66 0) (wS W).1 := by rw [hfr1 66 (by decide), wr_c (by decide)]; exact hM0
    have hGW : GW s1 (hn (wS W).1) (vis3 gs0 (some g) none (-1)) := by
      refine ⟨hG1, fun j hj => ?_⟩
      have e : j = g := List.mem_singleton.mp (show j ∈ [g] from hj)
      subst e
      have hd0 : (vis3 gs0 (some j) none (-1)).2.1 j = 0 := if_pos rfl
      refine ⟨by rw [hd0]; exact Nat.one_pos, ?_, fun h => absurd hd0 h⟩
      rw [hd0, hfr1 73 (by decide), wr_same]
      rfl
    refine bd_hit (hit_mono (m_walksOn (F := fun j => s1 72 0 j) w hGW (fun j _ _ => rfl) hM1) ?_)
    rintro r2 s2 ⟨hG2, -, hM2⟩
    have hG2 : GW s2 (hn (wS W).1) (ringA (wS W).1 g) := hG2
    have hl := nodup_le hG2.1.1 hG2.1.2.1
    have hdb : ∀ j ∈ (ringA (wS W).1 g).1, (ringA (wS W).1 g).2.1 j < 100 := fun j hj => by have := (hG2.2 j hj).1; omega
    have e2 := lp_acc (step := fun (y : (Int32 × Int32)) σ => fX10_round_L54 x y.1 y.2 σ) (u := uBst (ringA (wS W).1 g) (wS W).1 g) (n := (ringA (wS W).1 g).1.length) (σ := s2) (fun i a hi => by
      have hmem := getD_mem hi
      have hq := hG2.1.2.1 _ hmem
      have hz := w.sz hq
      have hff := hI.A.fs hq
      have hgi := hG2.1.2.2.2.1 i hi
      have h73 := (hG2.2 _ hmem).2.1
      have hdq := hdb _ hmem
      unfold fX10_round_L54 uBst
      simp (disch := omega) only [pn_lt, pn_neg, pn_eq, pn_eq0, pn_eq1, pn_eq2, pn_m1, pn_m1', pn_m1lt, pn_ix, pn_bnd, pn_add1, pn_add3, pn_mul4, nI_add, bd_some, st_eq, rd_eq, if_true, if_false, ite_true, ite_false, reduceIte, hG2.1.2.2.1, hi]
      have hu := uB1_all (g := g) hdq hff a
      rw [pn_add1] at hu
      rw [← hu]
      clear hu
      generalize (ringA (wS W).1 g).1.getD i 0 = q at hq hz hff hgi h73 hdq
      have e3 := lp_acc (step := fun (y : (Int32 × Int32)) σ => fX10_round_L66 x (nI i) y.1 y.2 σ) (u := uB1 (wS W).1 g q ((ringA (wS W).1 g).2.1 q)) (n := hsz (wS W).1 q) (σ := s2) (fun f a hfs => by
        unfold fX10_round_L66 fX10_round_j151L66 fX10_round_j166L66 uB1
        rw [← hx]
        simp (disch := omega) only [pn_bnd, pn_ix, bd_some, rd_eq, hgi, h73, e_of2 hM2 w hq, e_isWeakM hM2 w hq (show f < 2147483648 by omega), e_of7 hM2 w hq hfs, encN_eq w (fun q' hq' => w.lk hq hfs hq') hg, pn_lt, hfs]
        by_cases h1 : f < fst0 (wS W).1 q
        · simp [h1, pn_add1]
        · by_cases h2 : hlk (wS W).1 q f = some g
          · by_cases h3 : a = -1
            · simp [h1, h2, h3, pn_add1]
            · by_cases h4 : nI ((ringA (wS W).1 g).2.1 q) + 1 < a
              · simp [h1, h2, h3, h4, pn_add1 f]
              · simp [h1, h2, h3, h4, pn_add1 f]
          · simp [h1, h2, pn_add1]) (fun a => by
        unfold fX10_round_L66
        simp (disch := omega) only [pn_lt, pn_neg, pn_eq, pn_eq0, pn_eq1, pn_eq2, pn_m1, pn_m1', pn_m1lt, pn_ix, pn_bnd, pn_add1, pn_add3, pn_mul4, nI_add, bd_some, st_eq, rd_eq, if_true, if_false, ite_true, ite_false, reduceIte, hgi, e_of2 hM2 w hq, Nat.lt_irrefl]) fu 0 a (by omega) (fu_0 (by omega))
      have e3 : lp (fun (y : (Int32 × Int32)) σ => fX10_round_L66 x (nI i) y.1 y.2 σ) fu (a, 0) s2 = _ := e3
      rw [e3, bd_some, Nat.sub_zero]) (fun a => by
      unfold fX10_round_L54
      simp (disch := omega) only [pn_lt, pn_neg, pn_eq, pn_eq0, pn_eq1, pn_eq2, pn_m1, pn_m1', pn_m1lt, pn_ix, pn_bnd, pn_add1, pn_add3, pn_mul4, nI_add, bd_some, st_eq, rd_eq, if_true, if_false, ite_true, ite_false, reduceIte, hG2.1.2.2.1, Nat.lt_irrefl]) fu 0 (-1) (by omega) (fu_0 (by omega))
    have e2 : lp (fun (y : (Int32 × Int32)) σ => fX10_round_L54 x y.1 y.2 σ) fu (-1, 0) s2 = _ := e2
    rw [e2, bd_some, Nat.sub_zero, acc_bst (ringA_SO _ _) hdb rfl _ 0 (by omega)]
    exact hit_some rfl
theorem pl_27 {xs : Nat → Int32} {n : Nat} {σ : rS} {W : Wd} (hC : CW σ W) (hM : MW σ W) (hI : InvW (40 * n) W) : PL_27 xs n σ (IW (n + 1)) := pl_w hM hI (frX9_round _ _) (isC_of (by decide)) (fun s => frX10_round _ s) (isM_of (by decide)) (c_round hC hI) (fun _ hs => m_round hs hI)
