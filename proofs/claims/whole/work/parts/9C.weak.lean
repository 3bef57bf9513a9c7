/-! weak ones emptied, lasting ones lined up -/
def loAdd (L : List Nat) (x : Nat) : List Nat := (if L.length = 40 then L.drop 1 else L) ++ [x]
theorem loAdd_len {L : List Nat} {x : Nat} (h : L.length ≤ 40) : (loAdd L x).length ≤ 40 := by
  unfold loAdd
  rw [List.length_append]
  have l1 : [x].length = 1 := rfl
  by_cases e : L.length = 40
  · rw [if_pos e, List.length_drop]; omega
  · rw [if_neg e]; omega
theorem loAdd_mem {L : List Nat} {x y : Nat} (h : y ∈ loAdd L x) : y ∈ L ∨ y = x := by
  unfold loAdd at h
  rcases List.mem_append.mp h with h | h
  · left
    by_cases e : L.length = 40
    · rw [if_pos e] at h; exact List.mem_of_mem_drop h
    · rw [if_neg e] at h; exact h
  · exact Or.inr (List.mem_singleton.mp h)
theorem loAdd_map {L : List Nat} {x : Nat} : addL 40 (L.map nI) (nI x) = (loAdd L x).map nI := by
  unfold addL loAdd
  rw [List.length_map, List.map_append]
  by_cases h : L.length = 40
  · rw [if_pos h, if_pos h, List.map_drop]; rfl
  · rw [if_neg h, if_neg h]; rfl
abbrev HX : Type := Hp × (Nat → Nat)
def em1 (X : HX) (i : Nat) : HX := (sLo (lkA X.1 i 0 none) (loAdd (hlo X.1) (hnum X.1 i)), upx X.2 3 (X.2 3 + 1))
def emW (c : Nat → Bool) (X : HX) (i : Nat) : HX := if c i = true then em1 X i else X
def emL (c : Nat → Bool) (X : HX) (n : Nat) : HX := (List.range n).foldl (emW c) X
theorem emL_succ (c : Nat → Bool) (X : HX) (i : Nat) : emL c X (i + 1) = emW c (emL c X i) i := by
  unfold emL
  rw [List.range_succ, List.foldl_append]
  rfl
theorem emW_sh (c : Nat → Bool) (X : HX) (i : Nat) : (emW c X i).1.1 = X.1.1 ∧ (emW c X i).1.2.1 = X.1.2.1 ∧ (emW c X i).1.2.2.1 = X.1.2.2.1 ∧ hrt (emW c X i).1 = hrt X.1 ∧ hen (emW c X i).1 = hen X.1 ∧ hrm (emW c X i).1 = hrm X.1 ∧ htl (emW c X i).1 = htl X.1 ∧ hfl (emW c X i).1 = hfl X.1 := by
  unfold emW
  by_cases h : c i = true
  · rw [if_pos h]; exact ⟨rfl, rfl, rfl, rfl, rfl, rfl, rfl, rfl⟩
  · rw [if_neg h]; exact ⟨rfl, rfl, rfl, rfl, rfl, rfl, rfl, rfl⟩
theorem emL_sh (c : Nat → Bool) (X : HX) : ∀ n : Nat, (emL c X n).1.1 = X.1.1 ∧ (emL c X n).1.2.1 = X.1.2.1 ∧ (emL c X n).1.2.2.1 = X.1.2.2.1 ∧ hrt (emL c X n).1 = hrt X.1 ∧ hen (emL c X n).1 = hen X.1 ∧ hrm (emL c X n).1 = hrm X.1 ∧ htl (emL c X n).1 = htl X.1 ∧ hfl (emL c X n).1 = hfl X.1 := by
  intro n
  induction n with
  | zero => exact ⟨rfl, rfl, rfl, rfl, rfl, rfl, rfl, rfl⟩
  | succ n ih =>
    rw [emL_succ]
    obtain ⟨a1, a2, a3, a4, a5, a6, a7, a8⟩ := emW_sh c (emL c X n) n
    obtain ⟨b1, b2, b3, b4, b5, b6, b7, b8⟩ := ih
    exact ⟨a1.trans b1, a2.trans b2, a3.trans b3, a4.trans b4, a5.trans b5, a6.trans b6, a7.trans b7, a8.trans b8⟩
theorem emL_lk (c : Nat → Bool) (X : HX) : ∀ (n p f : Nat), hlk (emL c X n).1 p f = if f = 0 ∧ p < n ∧ c p = true then none else hlk X.1 p f := by
  intro n
  induction n with
  | zero => intro p f; rw [if_neg (by omega)]; rfl
  | succ n ih =>
    intro p f
    rw [emL_succ]
    unfold emW
    by_cases h : c n = true
    · rw [if_pos h]
      show (if p = n ∧ f = 0 then none else hlk (emL c X n).1 p f) = _
      by_cases e : p = n ∧ f = 0
      · rw [if_pos e, if_pos ⟨e.2, by omega, by rw [e.1]; exact h⟩]
      · rw [if_neg e, ih]
        by_cases g : f = 0 ∧ p < n ∧ c p = true
        · rw [if_pos g, if_pos ⟨g.1, by omega, g.2.2⟩]
        · rw [if_neg g, if_neg (fun z => g ⟨z.1, by omega, z.2.2⟩)]
    · rw [if_neg h, ih]
      by_cases g : f = 0 ∧ p < n ∧ c p = true
      · rw [if_pos g, if_pos ⟨g.1, by omega, g.2.2⟩]
      · rw [if_neg g, if_neg (fun z => g ⟨z.1, by
          have : ¬ p = n := fun e => h (e ▸ z.2.2)
          omega, z.2.2⟩)]
theorem OK.sh {A B : Hp} (w : OK A) (h1 : B.1 = A.1) (h2 : B.2.1 = A.2.1) (hl : ∀ p f t, hlk B p f = some t → hlk A p f = some t) (h4 : hrt B = hrt A) (h5 : hen B = hen A) (h6 : hrm B = hrm A) : OK B := by
  have en : hn B = hn A := h1
  have e0 : hnum B = hnum A := by unfold hnum; rw [h2]
  have e1 : hsz B = hsz A := by unfold hsz; rw [h2]
  have e2 : hsp B = hsp A := by unfold hsp; rw [h2]
  have e3 : hpl B = hpl A := by unfold hpl; rw [h2]
  unfold OK OKo
  rw [en, e0, e1, e2, e3, h4, h5, h6]
  exact ⟨w.1, fun i hi => ⟨(w.2.1 i hi).1, (w.2.1 i hi).2.1, (w.2.1 i hi).2.2.1, (w.2.1 i hi).2.2.2.1, fun f j hf hj => (w.2.1 i hi).2.2.2.2 f j hf (hl i f j hj)⟩, w.2.2⟩
theorem emL_OK {c : Nat → Bool} {X : HX} {n : Nat} (w : OK X.1) : OK (emL c X n).1 := by
  obtain ⟨a1, a2, -, a4, a5, a6, -⟩ := emL_sh c X n
  refine w.sh a1 a2 (fun p f t h => ?_) a4 a5 a6
  rw [emL_lk] at h
  by_cases g : f = 0 ∧ p < n ∧ c p = true
  · rw [if_pos g] at h; cases h
  · rw [if_neg g] at h; exact h
theorem emL_lo (c : Nat → Bool) (X : HX) : ∀ n : Nat, (hlo X.1).length ≤ 40 → (∀ x ∈ hlo X.1, x < 2147483648) → (∀ i, i < n → hnum X.1 i < 2147483648) → (hlo (emL c X n).1).length ≤ 40 ∧ ∀ x ∈ hlo (emL c X n).1, x < 2147483648 := by
  intro n
  induction n with
  | zero => intro h1 h2 _; exact ⟨h1, h2⟩
  | succ n ih =>
    intro h1 h2 h3
    obtain ⟨k1, k2⟩ := ih h1 h2 (fun i hi => h3 i (by omega))
    rw [emL_succ]
    unfold emW
    by_cases h : c n = true
    · rw [if_pos h]
      refine ⟨loAdd_len k1, fun x hx => ?_⟩
      have hx : x ∈ loAdd (hlo (emL c X n).1) (hnum (emL c X n).1 n) := hx
      rcases loAdd_mem hx with hx | hx
      · exact k2 x hx
      · have e : hnum (emL c X n).1 n = hnum X.1 n := by unfold hnum; rw [(emL_sh c X n).2.1]
        rw [hx, e]
        exact h3 n (by omega)
    · rw [if_neg h]; exact ⟨k1, k2⟩
/-! how the stages say which weak ones are emptied -/
def wkg (A : Hp) (g : Nat → Nat) (how i : Nat) : Bool := decide (hkd A i = 1) && (decide (g i = how) && match hlk A i 0 with
  | none => false
  | some t => decide (g t = 0 ∨ how < g t))
def ONC (σ : rS) (c : Nat → Nat) : Prop := ∀ i, i < 5 → σ 37 0 i = nI (c i)
theorem e_target_no {σ : rS} {k j : Nat} {A : Hp} (h : CR σ k A) (w : OK A) (hj : j < hn A) (hz : hsz A j = 0) : fX7_target k (nI j) 0 σ = some (-1, σ) := by
  have := w.n
  unfold fX7_target
  have e : σ 47 k j = nI 0 := by rw [← hz]; exact h.sz hj
  simp (disch := omega) only [h.n, pn_lt, pn_neg, pn_eq, pn_eq0, pn_eq1, pn_eq2, pn_m1, pn_m1', pn_m1lt, pn_ix, pn_bnd, pn_add1, pn_add3, pn_mul4, nI_add, bd_some, st_eq, rd_eq, if_true, if_false, ite_true, ite_false, reduceIte, hj, e]
  rfl
theorem c_em1 {σ : rS} {k i how : Nat} {B : Hp} {L : Lg} {c g : Nat → Nat} (hC : CS σ k (B, L)) (w : OK B) (hi : i < hn B) (hwz : hkd B i = 1 → 1 ≤ hsz B i) (hO : ONC σ c) (hS : ∀ j, j < hn B → σ 38 0 j = nI (g j)) (hg : ∀ j, g j ≤ 2) (hh : how ≤ 2) : hit (fX1_emptyWeak_L2 k (nI how) (nI i) σ) (fun q s => q = .inl (nI (i + 1)) ∧ CS s k ((emW (wkg B g how) (B, c) i).1, L) ∧ ONC s (emW (wkg B g how) (B, c) i).2) := by
  have hR0 : CR σ k B := hC.1
  have hw := w.n
  have hz4 := w.sz hi
  have gi := hg i
  have no : wkg B g how i = false → hit (some ((.inl (nI (i + 1)) : Int32 ⊕ Unit), σ)) (fun q s => q = .inl (nI (i + 1)) ∧ CS s k ((emW (wkg B g how) (B, c) i).1, L) ∧ ONC s (emW (wkg B g how) (B, c) i).2) := fun e => by
    unfold emW
    rw [e]
    exact hit_some ⟨rfl, hC, hO⟩
  unfold fX1_emptyWeak_L2 fX1_emptyWeak_j96L2
  rw [hR0.n]
  simp (disch := omega) only [pn_lt, pn_add1, hi, if_true]
  by_cases hk : hkd B i = 1
  · have hz := hwz hk
    have et : fX7_target k (nI i) 0 σ = some (enc (hlk B i 0), σ) := e_target hR0 w hi (f := 0) (by omega)
    have e38 := hS i hi
    rw [et, bd_some, e_isWeak hR0 w hi, bd_some, if_pos hk, if_neg one_ne]
    simp (disch := omega) only [pn_lt, pn_neg, pn_eq, pn_eq0, pn_eq1, pn_eq2, pn_m1, pn_m1', pn_m1lt, pn_ix, pn_bnd, pn_add1, pn_add3, pn_mul4, nI_add, bd_some, st_eq, rd_eq, if_true, if_false, ite_true, ite_false, reduceIte, e38]
    by_cases hgi : g i = how
    · rw [if_pos hgi]
      rcases opt_cases (hlk B i 0) with hl | ⟨t, hl⟩
      · rw [hl, enc_none, e_isSlot_n, bd_some, if_pos rfl]
        exact no (by unfold wkg; rw [hl]; simp)
      · have ht := w.lk hi (by omega) hl
        have gt := hg t
        have e38t := hS t ht
        rw [hl, enc_some, e_isSlot hR0 w ht, bd_some, if_neg one_ne]
        simp (disch := omega) only [pn_lt, pn_neg, pn_eq, pn_eq0, pn_eq1, pn_eq2, pn_m1, pn_m1', pn_m1lt, pn_ix, pn_bnd, pn_add1, pn_add3, pn_mul4, nI_add, bd_some, st_eq, rd_eq, if_true, if_false, ite_true, ite_false, reduceIte, e38t]
        have yes : (g t = 0 ∨ how < g t) → hit (fX1_emptyWeak_j66L2 k (nI how) (nI i) σ) (fun q s => q = .inl (nI (i + 1)) ∧ CS s k ((emW (wkg B g how) (B, c) i).1, L) ∧ ONC s (emW (wkg B g how) (B, c) i).2) := fun hc => by
          have hwk : wkg B g how i = true := by unfold wkg; rw [hl]; simp [hk, hgi, hc]
          unfold fX1_emptyWeak_j66L2 fX1_emptyWeak_j96L2 fX7_setTarget emW
          rw [hwk, if_pos rfl]
          have hF : fX7_hasField k (nI i) 0 σ = some (1, σ) := by
            have := c_hasF hR0 w hi (nI 0)
            rw [inB_nI (by omega), if_pos (show 0 < hsz B i by omega)] at this
            exact this
          have e4 : nI i * 4 + 0 = nI (i * 4 + 0) := by rw [pn_mul4]; exact nI_add _ 0
          rw [hF, bd_some, if_neg one_ne, e4]
          simp (disch := omega) only [pn_lt, pn_neg, pn_eq, pn_eq0, pn_eq1, pn_eq2, pn_m1, pn_m1', pn_m1lt, pn_ix, pn_bnd, pn_add1, pn_add3, pn_mul4, nI_add, bd_some, st_eq, rd_eq, if_true, if_false, ite_true, ite_false, reduceIte]
          have hC1 : CS (wr σ 52 k (i * 4 + 0) (-1)) k (lkA B i 0 none, L) := cs_lk hC (o := none) (by omega) w
          have e45 : wr σ 52 k (i * 4 + 0) (-1) 45 k i = nI (hnum B i) := by rw [wr_c (by decide)]; exact hR0.num hi
          rw [e45]
          have hL1 := hC1.1.lo
          have e40 : lnLen (6 * k + 1) = 40 := lnLen_mod k 1
          refine bd_hit (hit_mono (hit_fk (fkX4_add _ _ _) (hit_fr (frX4_add _ _ _) (l_add hL1 (nI (hnum B i))))) ?_)
          rintro r s ⟨hfk, hfr, hL2⟩
          rw [e40] at hL2
          have hL2 : Ln s (6 * k + 1) (addL 40 ((hlo B).map nI) (nI (hnum B i))) := hL2
          rw [loAdd_map] at hL2
          have hC2 : CS s k (sLo (lkA B i 0 none) (loAdd (hlo B) (hnum B i)), L) := hC1.lo' hfk hL2
          have e37 : s 37 0 (ix 3) = nI (c 3) := by
            rw [hfr 37 (by decide), wr_c (by decide)]
            exact hO 3 (by omega)
          rw [e37]
          refine hit_some ⟨rfl, hC2.wr (by decide), fun j hj => ?_⟩
          show wr s 37 0 3 _ 37 0 j = nI (upx c 3 (c 3 + 1) j)
          by_cases ej : j = 3
          · subst ej; rw [wr_same, upx_same, pn_add1]
          · rw [wr_i ej, upx_ne ej, hfr 37 (by decide), wr_c (by decide)]; exact hO j hj
        by_cases g0 : g t = 0
        · rw [if_pos g0]; exact yes (Or.inl g0)
        · rw [if_neg g0]
          by_cases g1 : how < g t
          · rw [if_pos g1]; exact yes (Or.inr g1)
          · rw [if_neg g1]
            exact no (by unfold wkg; rw [hl]; simp [g0, g1])
    · rw [if_neg hgi]
      exact no (by unfold wkg; simp [hgi])
  · have et : ∃ x, fX7_target k (nI i) 0 σ = some (x, σ) := by
      by_cases hz : hsz B i = 0
      · exact ⟨_, e_target_no hR0 w hi hz⟩
      · exact ⟨_, e_target hR0 w hi (f := 0) (by omega)⟩
    obtain ⟨x, et⟩ := et
    rw [et, bd_some, e_isWeak hR0 w hi, bd_some, if_neg hk, if_pos rfl]
    exact no (by unfold wkg; simp [hk])
theorem wkg_congr {A B : Hp} {g : Nat → Nat} {how i : Nat} (h3 : hkd B i = hkd A i) (hl : hlk B i 0 = hlk A i 0) : wkg B g how i = wkg A g how i := by
  unfold wkg
  rw [h3, hl]
/-- both passes begin with a heap whose own fields are A's -/
theorem c_emptyWeak {σ : rS} {k how : Nat} {A : Hp} {X : HX} {L : Lg} {g : Nat → Nat} (hC : CS σ k (X.1, L)) (w : OK X.1) (hsh : X.1.1 = A.1 ∧ X.1.2.2.1 = A.2.2.1) (hlk0 : ∀ i, i < hn A → g i = how → hlk X.1 i 0 = hlk A i 0) (hwz : ∀ i, i < hn A → hkd A i = 1 → 1 ≤ hsz X.1 i) (hO : ONC σ X.2) (hS : ∀ j, j < hn A → σ 38 0 j = nI (g j)) (hg : ∀ j, g j ≤ 2) (hh : how ≤ 2) : hit (fX1_emptyWeak k (nI how) σ) (fun _ s => CS s k ((emL (wkg A g how) X (hn A)).1, L) ∧ ONC s (emL (wkg A g how) X (hn A)).2) := by
  have hw := w.n
  have en : hn X.1 = hn A := hsh.1
  have ek : hkd X.1 = hkd A := by unfold hkd; rw [hsh.2]
  unfold fX1_emptyWeak
  refine bd_hit (hit_mono (lp_for (I := fun i s => CS s k ((emL (wkg A g how) X i).1, L) ∧ ONC s (emL (wkg A g how) X i).2 ∧ s 38 = σ 38) (P := fun _ s => CS s k ((emL (wkg A g how) X (hn A)).1, L) ∧ ONC s (emL (wkg A g how) X (hn A)).2) (b := hn A) ?_ ?_ fu 0 σ (by omega) (by have := fu_ge; omega) ⟨hC, hO, rfl⟩) (fun _ s h => h))
  · rintro i s hi ⟨h1, h2, h3⟩
    obtain ⟨a1, a2, a3, -⟩ := emL_sh (wkg A g how) X i
    have wi := emL_OK (c := wkg A g how) (n := i) w
    have eni : hn (emL (wkg A g how) X i).1 = hn A := a1.trans hsh.1
    have eki : hkd (emL (wkg A g how) X i).1 = hkd A := by unfold hkd; rw [a3, hsh.2]
    have ezi : hsz (emL (wkg A g how) X i).1 = hsz X.1 := by unfold hsz; rw [a2]
    have hst := c_em1 (how := how) (g := g) h1 wi (by rw [eni]; exact hi) (by rw [eki, ezi]; exact hwz i hi) h2 (fun j hj => by rw [eni] at hj; rw [h3]; exact hS j hj) hg hh
    refine hit_mono (hit_fr (frX1_emptyWeak_L2 k (nI how) (nI i) s) hst) ?_
    rintro q t ⟨hf, rfl, k1, k2⟩
    have ew : emW (wkg (emL (wkg A g how) X i).1 g how) ((emL (wkg A g how) X i).1, (emL (wkg A g how) X i).2) i = emL (wkg A g how) X (i + 1) := by
      rw [emL_succ]
      have e : wkg (emL (wkg A g how) X i).1 g how i = wkg A g how i := by
        by_cases hgi : g i = how
        · refine wkg_congr (by rw [eki]) ?_
          rw [emL_lk, if_neg (by omega)]
          exact hlk0 i hi hgi
        · unfold wkg; simp [hgi]
      unfold emW
      rw [e]
    rw [ew] at k1 k2
    exact ⟨rfl, k1, k2, by rw [hf 38 (by decide), h3]⟩
  · rintro s ⟨h1, h2, h3⟩
    have a1 := (emL_sh (wkg A g how) X (hn A)).1
    have e7 : s 7 k 0 = nI (hn A) := by
      have := h1.1.n
      rw [this]
      congr 1
      exact a1.trans hsh.1
    unfold fX1_emptyWeak_L2
    rw [e7]
    simp (disch := omega) only [pn_lt, Nat.lt_irrefl, if_false]
    exact hit_some ⟨h1, h2⟩
/-! lasting ones -/
def lsE (A : Hp) (g : Nat → Nat) (n : Nat) : List Nat := (List.range n).filter (fun i => decide (hkd A i = 2) && !decide (g i = 1))
theorem lsE_succ (A : Hp) (g : Nat → Nat) (i : Nat) : lsE A g (i + 1) = if hkd A i = 2 ∧ ¬ g i = 1 then lsE A g i ++ [i] else lsE A g i := by
  unfold lsE
  rw [List.range_succ, List.filter_append]
  by_cases h : hkd A i = 2 ∧ ¬ g i = 1
  · rw [if_pos h]; simp [h.1, h.2]
  · rw [if_neg h]
    have : (decide (hkd A i = 2) && !decide (g i = 1)) = false := by
      by_cases h1 : hkd A i = 2
      · have h2 : g i = 1 := Classical.byContradiction (fun z => h ⟨h1, z⟩)
        simp [h2]
      · simp [h1]
    simp [this]
theorem lsE_mem {A : Hp} {g : Nat → Nat} {n i : Nat} : i ∈ lsE A g n ↔ i < n ∧ hkd A i = 2 ∧ ¬ g i = 1 := by
  unfold lsE
  rw [List.mem_filter, List.mem_range]
  simp
theorem lsE_nodup {A : Hp} {g : Nat → Nat} {n : Nat} : (lsE A g n).Nodup := List.nodup_range.filter _
def enX (A : Hp) (g : Nat → Nat) (X : HX) (n : Nat) : HX := (sEn X.1 (hen X.1 ++ lsE A g n), upx X.2 4 (X.2 4 + (lsE A g n).length))
theorem app_nodup {L M : List Nat} (h1 : L.Nodup) (h2 : M.Nodup) (h3 : ∀ j ∈ L, ¬ j ∈ M) : (L ++ M).Nodup := List.nodup_append.mpr ⟨h1, h2, fun a ha b hb e => h3 a ha (e ▸ hb)⟩
theorem enX_len {A : Hp} {g : Nat → Nat} {E : List Nat} {n : Nat} (hE : E.Nodup) (hE1 : ∀ j ∈ E, j < 78 ∧ g j = 1) (hn : n ≤ 78) : (E ++ lsE A g n).length ≤ 78 := by
  refine nodup_le (app_nodup hE lsE_nodup (fun j hj hm => (lsE_mem.mp hm).2.2 (hE1 j hj).2)) (fun j hj => ?_)
  rcases List.mem_append.mp hj with hj | hj
  · exact (hE1 j hj).1
  · have := (lsE_mem.mp hj).1; omega
theorem c_lineUp {σ : rS} {k : Nat} {A : Hp} {X : HX} {L : Lg} {g : Nat → Nat} (hC : CS σ k (X.1, L)) (w : OK X.1) (hsh : X.1.1 = A.1 ∧ X.1.2.2.1 = A.2.2.1) (hE : (hen X.1).Nodup) (hE1 : ∀ j ∈ hen X.1, g j = 1) (hO : ONC σ X.2) (hS : ∀ j, j < hn A → σ 38 0 j = nI (g j)) (hg : ∀ j, g j ≤ 2) : hit (fX1_lineUpLasting k σ) (fun _ s => CS s k ((enX A g X (hn A)).1, L) ∧ ONC s (enX A g X (hn A)).2) := by
  have hw := w.n
  have en : hn X.1 = hn A := hsh.1
  have ek : hkd X.1 = hkd A := by unfold hkd; rw [hsh.2]
  have hE2 : ∀ j ∈ hen X.1, j < 78 ∧ g j = 1 := fun j hj => ⟨by have := w.en hj; omega, hE1 j hj⟩
  unfold fX1_lineUpLasting
  refine bd_hit (hit_mono (lp_for (I := fun i s => CS s k ((enX A g X i).1, L) ∧ ONC s (enX A g X i).2 ∧ s 38 = σ 38) (P := fun _ s => CS s k ((enX A g X (hn A)).1, L) ∧ ONC s (enX A g X (hn A)).2) (b := hn A) ?_ ?_ fu 0 σ (by omega) (by have := fu_ge; omega) ⟨?_, ?_, rfl⟩) (fun _ s h => h))
  · rintro i s hi ⟨h1, h2, h3⟩
    have hR1 : CR s k (enX A g X i).1 := h1.1
    have e7 : s 7 k 0 = nI (hn A) := by rw [hR1.n]; congr 1
    have e46 : s 46 k i = hkd A i := by rw [hR1.kd (show i < hn (enX A g X i).1 from en ▸ hi), ← ek]; rfl
    have e38 : s 38 0 i = nI (g i) := by rw [h3]; exact hS i hi
    have gi := hg i
    unfold fX1_lineUpLasting_L2 fX1_lineUpLasting_j48L2
    rw [e7]
    simp (disch := omega) only [pn_lt, pn_neg, pn_eq, pn_eq0, pn_eq1, pn_eq2, pn_m1, pn_m1', pn_m1lt, pn_ix, pn_bnd, pn_add1, pn_add3, pn_mul4, nI_add, bd_some, st_eq, rd_eq, if_true, if_false, ite_true, ite_false, reduceIte, hi, e46, e38]
    have no : ¬ (hkd A i = 2 ∧ ¬ g i = 1) → CS s k ((enX A g X (i + 1)).1, L) ∧ ONC s (enX A g X (i + 1)).2 ∧ s 38 = σ 38 := fun hc => by
      have : enX A g X (i + 1) = enX A g X i := by unfold enX; rw [lsE_succ, if_neg hc]
      rw [this]
      exact ⟨h1, h2, h3⟩
    by_cases hk : hkd A i = 2
    · rw [if_pos hk]
      by_cases hg1 : g i = 1
      · rw [if_pos hg1]
        exact hit_some ⟨rfl, no (fun z => z.2 hg1)⟩
      · rw [if_neg hg1]
        have hL := hR1.en
        have e80 : lnLen (6 * k + 0) = 80 := lnLen_mod k 0
        refine bd_hit (hit_mono (hit_fk (fkX4_add _ _ _) (hit_fr (frX4_add _ _ _) (l_add hL (nI i)))) ?_)
        rintro r t ⟨hfk, hfr, hL2⟩
        have hlen := enX_len (A := A) (g := g) (n := i) hE hE2 (by omega)
        have el : hen (enX A g X i).1 = hen X.1 ++ lsE A g i := rfl
        have e80' : lnLen (6 * k) = 80 := e80
        unfold addL at hL2
        rw [List.length_map, el, e80', if_neg (by omega)] at hL2
        have es : lsE A g (i + 1) = lsE A g i ++ [i] := by rw [lsE_succ, if_pos ⟨hk, hg1⟩]
        have hL3 : Ln t (6 * k + 0) ((hen X.1 ++ lsE A g (i + 1)).map nI) := by
          rw [es, ← List.append_assoc, List.map_append]
          exact hL2
        have hC2 : CS t k (sEn (enX A g X i).1 (hen X.1 ++ lsE A g (i + 1)), L) := h1.en' hfk hL3
        have e37 : t 37 0 (ix 4) = nI ((enX A g X i).2 4) := by rw [hfr 37 (by decide)]; exact h2 4 (by omega)
        rw [e37, pn_add1]
        refine hit_some ⟨rfl, hC2.wr (by decide), fun j hj => ?_, ?_⟩
        · show wr t 37 0 4 _ 37 0 j = nI (upx X.2 4 (X.2 4 + (lsE A g (i + 1)).length) j)
          by_cases ej : j = 4
          · subst ej
            rw [wr_same, upx_same, es, List.length_append]
            show nI (upx X.2 4 (X.2 4 + (lsE A g i).length) 4 + 1) = _
            rw [upx_same]
            rfl
          · rw [wr_i ej, upx_ne ej, hfr 37 (by decide)]
            have := h2 j hj
            rw [this]
            show nI (upx X.2 4 (X.2 4 + (lsE A g i).length) j) = _
            rw [upx_ne ej]
        · rw [wr_c (by decide), hfr 38 (by decide), h3]
    · rw [if_neg hk]
      exact hit_some ⟨rfl, no (fun z => hk z.1)⟩
  · rintro s ⟨h1, h2, h3⟩
    have e7 : s 7 k 0 = nI (hn A) := by rw [h1.1.n]; congr 1
    unfold fX1_lineUpLasting_L2
    rw [e7]
    simp (disch := omega) only [pn_lt, Nat.lt_irrefl, if_false]
    exact hit_some ⟨h1, h2⟩
  · have e : (enX A g X 0).1 = X.1 := by
      show sEn X.1 (hen X.1 ++ []) = X.1
      rw [List.append_nil]; rfl
    rw [e]; exact hC
  · intro j hj
    show _ = nI (upx X.2 4 (X.2 4 + 0) j)
    by_cases ej : j = 4
    · subst ej; rw [upx_same]; exact hO 4 hj
    · rw [upx_ne ej]; exact hO j hj
