/-! the remembered after a collection, new names, counts -/
def drF (M : Hp) (g : Nat → Nat) (q : Nat × Nat) : Bool := oty M q.1 q.2 && !decide (g q.1 = 0)
theorem CX.rm' {σ s : rS} {k : Nat} {M : Hp} {E : List (Nat × Nat)} (h : CX σ k M) (e : ∀ c q, ¬ ((c = 4 ∨ c = 28) ∧ q = 6 * k + 2) → s c q = σ c q) (hL : Ln s (6 * k + 2) (E.map (fun q => nI (q.1 * 4 + q.2)))) : CX s k (sRm M E) := by
  obtain ⟨h1, h2, h3, h4, h5, h6, h7, h8⟩ := h
  refine ⟨by rw [e 7 k (by omega)]; exact h1, fun i hi => ?_, fun r hr => by rw [e 53 k (by omega)]; exact h3 r hr, fun t ht => by rw [e 55 k (by omega)]; exact h4 t ht, by rw [e 7 k (by omega)]; exact h5, h6.frame (e 4 _ (by omega)) (e 28 _ (by omega)), h7.frame (e 4 _ (by omega)) (e 28 _ (by omega)), hL⟩
  unfold CRo
  rw [e 45 k (by omega), e 46 k (by omega), e 47 k (by omega), e 48 k (by omega), e 49 k (by omega), e 50 k (by omega), e 51 k (by omega), e 52 k (by omega)]
  exact h2 i hi
set_option maxHeartbeats 2000000 in
theorem c_dropRem {σ : rS} {k : Nat} {M : Hp} {g : Nat → Nat} (hC : CX σ k M) (w : ON M) (hr : ∀ q ∈ hrm M, q.1 < hn M ∧ q.2 < hsz M q.1) (hS : ∀ j, j < hn M → σ 38 0 j = nI (g j)) (hg : ∀ j, g j ≤ 2) : hit (fX1_dropRemembered k σ) (fun _ s => CX s k (sRm M ((hrm M).filter (drF M g))) ∧ ∀ c q, ¬ ((c = 4 ∨ c = 28) ∧ q = 6 * k + 2) → s c q = σ c q) := by
  have hw := w.1
  have hL := hC.2.2.2.2.2.2.2
  have hl1 := hL.1
  have hl2 := hL.2.1
  have hl3 := hL.2.2
  have h80 := lnLen_le (6 * k + 2)
  rw [List.length_map] at hl1 hl2
  obtain ⟨E, hE⟩ : ∃ E, E = hrm M := ⟨_, rfl⟩
  rw [← hE] at hl1 hl2 hl3 hr ⊢
  have hv : ∀ i, i < E.length → σ 28 (6 * k + 2) i = nI ((E.getD i (0, 0)).1 * 4 + (E.getD i (0, 0)).2) := fun i hi => by
    rw [hl3 i (by rw [List.length_map]; exact hi), getD_map (d := (0, 0)) hi]
  unfold fX1_dropRemembered
  refine bd_hit (hit_mono (lp_go (I := fun n x s => ∃ (i : Nat) (T : List (Nat × Nat)), x = (nI T.length, nI i) ∧ i ≤ E.length ∧ n = E.length - i ∧ T.length ≤ i ∧ T ++ (E.drop i).filter (drF M g) = E.filter (drF M g) ∧ (∀ p, p < T.length → s 28 (6 * k + 2) p = nI ((T.getD p (0, 0)).1 * 4 + (T.getD p (0, 0)).2)) ∧ (∀ p, T.length ≤ p → s 28 (6 * k + 2) p = σ 28 (6 * k + 2) p) ∧ ∀ c q, ¬ (c = 28 ∧ q = 6 * k + 2) → s c q = σ c q) (P := fun r s => ∃ T : List (Nat × Nat), r = nI T.length ∧ T.length ≤ E.length ∧ T = E.filter (drF M g) ∧ (∀ p, p < T.length → s 28 (6 * k + 2) p = nI ((T.getD p (0, 0)).1 * 4 + (T.getD p (0, 0)).2)) ∧ ∀ c q, ¬ (c = 28 ∧ q = 6 * k + 2) → s c q = σ c q) ?_ fu E.length _ σ (fu_lt (by omega)) ⟨0, [], rfl, by omega, by omega, Nat.le_refl _, by rw [List.drop_zero]; rfl, fun p hp => absurd hp (Nat.not_lt_zero _), fun p _ => rfl, fun _ _ _ => rfl⟩) ?_)
  · rintro n x s ⟨i, T, rfl, hi, rfl, hT, he, g1, g2, g3⟩
    unfold fX1_dropRemembered_L10 fX1_dropRemembered_j66L10
    dsimp only
    have e4 : s 4 (6 * k + 2) 1 = nI E.length := by rw [g3 4 _ (by omega)]; exact hl1
    rw [e4]
    simp (disch := omega) only [pn_lt]
    by_cases hlt : i < E.length
    · rw [if_pos hlt]
      have ed := drop_cons' (0, 0) hlt
      obtain ⟨r1, r2⟩ := hr _ (getD_mem' (d := (0, 0)) hlt)
      have r3 := (w.2.1 _ r1).2.1
      have e28 : s 28 (6 * k + 2) i = nI ((E.getD i (0, 0)).1 * 4 + (E.getD i (0, 0)).2) := by rw [g2 i hT]; exact hv i hlt
      have hXr : CXr s k M := hC.r.mv (fun c hc => g3 c k (by omega))
      have hgq := hg (E.getD i (0, 0)).1
      have e38 : s 38 0 (E.getD i (0, 0)).1 = nI (g (E.getD i (0, 0)).1) := by rw [g3 38 0 (by omega)]; exact hS _ r1
      generalize hq : E.getD i (0, 0) = q at *
      have hget : fX4_get (6 * k + 2) (nI i) s = some (nI (q.1 * 4 + q.2), s) := by
        unfold fX4_get
        rw [e4]
        simp (disch := omega) only [pn_lt, pn_neg, pn_eq, pn_eq0, pn_eq1, pn_eq2, pn_m1, pn_m1', pn_m1lt, pn_ix, pn_bnd, pn_add1, pn_add3, pn_mul4, nI_add, bd_some, st_eq, rd_eq, if_true, if_false, ite_true, ite_false, reduceIte, hlt, e28]
      rw [hget, bd_some, rd_eq, pn_mod4 (by omega), pn_div4 (by omega), show (q.1 * 4 + q.2) / 4 = q.1 by omega, show (q.1 * 4 + q.2) % 4 = q.2 by omega, x_oty hXr w r1 r2, bd_some]
      have skip : drF M g q = false → hit (some ((.inl (nI T.length, nI i + 1) : (Int32 × Int32) ⊕ Int32), s)) (fun q s => match q with
          | .inl y => ∃ m, m < E.length - i ∧ ∃ (i : Nat) (T : List (Nat × Nat)), y = (nI T.length, nI i) ∧ i ≤ E.length ∧ m = E.length - i ∧ T.length ≤ i ∧ T ++ (E.drop i).filter (drF M g) = E.filter (drF M g) ∧ (∀ p, p < T.length → s 28 (6 * k + 2) p = nI ((T.getD p (0, 0)).1 * 4 + (T.getD p (0, 0)).2)) ∧ (∀ p, T.length ≤ p → s 28 (6 * k + 2) p = σ 28 (6 * k + 2) p) ∧ ∀ c q, ¬ (c = 28 ∧ q = 6 * k + 2) → s c q = σ c q
          | .inr r => ∃ T : List (Nat × Nat), r = nI T.length ∧ T.length ≤ E.length ∧ T = E.filter (drF M g) ∧ (∀ p, p < T.length → s 28 (6 * k + 2) p = nI ((T.getD p (0, 0)).1 * 4 + (T.getD p (0, 0)).2)) ∧ ∀ c q, ¬ (c = 28 ∧ q = 6 * k + 2) → s c q = σ c q) := fun hk =>
        ⟨E.length - (i + 1), by omega, i + 1, T, by rw [pn_add1], by omega, rfl, by omega, by rw [← he, ed, List.filter_cons, hk]; rfl, g1, g2, g3⟩
      by_cases ho : oty M q.1 q.2 = true
      · rw [ho, if_neg (by decide)]
        simp (disch := omega) only [pn_lt, pn_neg, pn_eq, pn_eq0, pn_eq1, pn_eq2, pn_m1, pn_m1', pn_m1lt, pn_ix, pn_bnd, pn_add1, pn_add3, pn_mul4, nI_add, bd_some, st_eq, rd_eq, if_true, if_false, ite_true, ite_false, reduceIte, e38]
        by_cases g0 : g q.1 = 0
        · rw [if_pos g0]
          have := skip (by unfold drF; simp [g0])
          rw [pn_add1] at this
          exact this
        · rw [if_neg g0]
          have hk : drF M g q = true := by unfold drF; simp [ho, g0]
          have hs : fX4_set (6 * k + 2) (nI T.length) (nI (q.1 * 4 + q.2)) s = some (0, wr s 28 (6 * k + 2) T.length (nI (q.1 * 4 + q.2))) := by
            unfold fX4_set
            rw [e4]
            simp (disch := omega) only [pn_lt, pn_neg, pn_eq, pn_eq0, pn_eq1, pn_eq2, pn_m1, pn_m1', pn_m1lt, pn_ix, pn_bnd, pn_add1, pn_add3, pn_mul4, nI_add, bd_some, st_eq, rd_eq, if_true, if_false, ite_true, ite_false, reduceIte, show T.length < E.length by omega]
          rw [hs, bd_some]
          have lT : (T ++ [q]).length = T.length + 1 := by rw [List.length_append]; rfl
          refine hit_some ⟨E.length - (i + 1), by omega, i + 1, T ++ [q], by rw [lT], by omega, rfl, by omega, ?_, fun p hp => ?_, fun p hp => ?_, fun c q' hcq => (wrR_ne _ _ _ _ hcq).trans (g3 c q' hcq)⟩
          · rw [← he, ed, List.filter_cons, hk, List.append_assoc]; rfl
          · rw [lT] at hp
            by_cases ep : p = T.length
            · subst ep; rw [getD_app_eq, wr_same]
            · rw [getD_app_lt (by omega), wr_i ep]; exact g1 p (by omega)
          · rw [lT] at hp
            rw [wr_i (by omega)]; exact g2 p (by omega)
      · have ho : oty M q.1 q.2 = false := by simpa using ho
        rw [ho, if_pos (by decide)]
        exact skip (by unfold drF; simp [ho])
    · rw [if_neg hlt]
      have hi' : i = E.length := by omega
      refine hit_some ⟨T, rfl, by omega, ?_, g1, g3⟩
      rw [← he, hi', List.drop_length]
      exact (List.append_nil _).symm
  · rintro r s ⟨T, rfl, hT, rfl, g1, g3⟩
    rw [st_eq]
    have fr : ∀ c q, ¬ ((c = 4 ∨ c = 28) ∧ q = 6 * k + 2) → wr s 4 (6 * k + 2) 1 (nI (E.filter (drF M g)).length) c q = σ c q := fun c q hcq => by
      rw [show wr s 4 (6 * k + 2) 1 (nI (E.filter (drF M g)).length) c q = s c q from wrR_ne _ _ _ _ (by omega)]
      exact g3 c q (by omega)
    refine hit_some ⟨hC.rm' fr ⟨?_, ?_, fun i hi => ?_⟩, fr⟩
    · rw [wr_same, List.length_map]
    · rw [List.length_map]; omega
    · rw [List.length_map] at hi
      rw [wr_c (by decide), g1 i hi, getD_map (d := (0, 0)) hi]
/-! those moved that are linked from old to young -/
def frow (M : Hp) (j f : Nat) : List (Nat × Nat) := ((List.range f).filter (oty M j)).map (fun f => (j, f))
theorem frow_succ (M : Hp) (j f : Nat) : frow M j (f + 1) = if oty M j f = true then frow M j f ++ [(j, f)] else frow M j f := by
  unfold frow
  rw [List.range_succ, List.filter_append]
  by_cases h : oty M j f = true
  · rw [if_pos h]; simp [h]
  · rw [if_neg h]; simp [h]
def nwR (M : Hp) : List Nat → List (Nat × Nat)
  | [] => []
  | j :: O => frow M j (hsz M j) ++ nwR M O
theorem nwR_app (M : Hp) : ∀ (O : List Nat) (j : Nat), nwR M (O ++ [j]) = nwR M O ++ frow M j (hsz M j) := by
  intro O
  induction O with
  | nil => intro j; show frow M j (hsz M j) ++ [] = _; rw [List.append_nil]; rfl
  | cons a O ih =>
    intro j
    show frow M a (hsz M a) ++ nwR M (O ++ [j]) = frow M a (hsz M a) ++ nwR M O ++ frow M j (hsz M j)
    rw [ih, List.append_assoc]
theorem frow_mem {M : Hp} {j f : Nat} {q : Nat × Nat} : q ∈ frow M j f ↔ q.1 = j ∧ q.2 < f ∧ oty M j q.2 = true := by
  unfold frow
  rw [List.mem_map]
  constructor
  · rintro ⟨x, hx, rfl⟩
    rw [List.mem_filter, List.mem_range] at hx
    exact ⟨rfl, hx.1, hx.2⟩
  · rintro ⟨h1, h2, h3⟩
    exact ⟨q.2, by rw [List.mem_filter, List.mem_range]; exact ⟨h2, h3⟩, Prod.ext h1.symm rfl⟩
theorem nwR_mem {M : Hp} {q : Nat × Nat} : ∀ {O : List Nat}, q ∈ nwR M O ↔ q.1 ∈ O ∧ q.2 < hsz M q.1 ∧ oty M q.1 q.2 = true := by
  intro O
  induction O with
  | nil => exact ⟨fun h => (List.not_mem_nil h).elim, fun h => (List.not_mem_nil h.1).elim⟩
  | cons a O ih =>
    show q ∈ frow M a (hsz M a) ++ nwR M O ↔ _
    rw [List.mem_append, ih, frow_mem, List.mem_cons]
    constructor
    · rintro (⟨h1, h2, h3⟩ | ⟨h1, h2⟩)
      · exact ⟨Or.inl h1, by rw [h1]; exact h2, by rw [h1]; exact h3⟩
      · exact ⟨Or.inr h1, h2⟩
    · rintro ⟨h1 | h1, h2, h3⟩
      · exact Or.inl ⟨h1, by rw [← h1]; exact h2, by rw [← h1]; exact h3⟩
      · exact Or.inr ⟨h1, h2, h3⟩
theorem frow_nodup (M : Hp) (j f : Nat) : (frow M j f).Nodup := nodup_map (List.nodup_range.filter _) (fun a _ b _ e => congrArg Prod.snd e)
theorem nwR_nodup {M : Hp} : ∀ {O : List Nat}, O.Nodup → (nwR M O).Nodup := by
  intro O
  induction O with
  | nil => intro _; exact List.nodup_nil
  | cons a O ih =>
    intro h
    rw [List.nodup_cons] at h
    refine List.nodup_append.mpr ⟨frow_nodup M a _, ih h.2, fun x hx y hy e => ?_⟩
    subst e
    have h1 := (frow_mem.mp hx).1
    have h2 := (nwR_mem.mp hy).1
    rw [h1] at h2
    exact h.1 h2
theorem frow_len_le (M : Hp) (j : Nat) {f : Nat} : ∀ {n : Nat}, f ≤ n → (frow M j f).length ≤ (frow M j n).length := by
  intro n
  induction n with
  | zero => intro h; have : f = 0 := by omega
            subst this; exact Nat.le_refl _
  | succ n ih =>
    intro h
    by_cases e : f = n + 1
    · subst e; exact Nat.le_refl _
    · have := ih (by omega)
      rw [frow_succ]
      split
      · rw [List.length_append]; omega
      · exact this
theorem l_addN {σ : rS} {k : Nat} {xs : List Int32} (h : Ln σ k xs) (hl : xs.length < lnLen k) (x : Int32) : hit (fX4_add k x σ) (fun _ s => Ln s k (xs ++ [x]) ∧ ∀ c q, ¬ ((c = 4 ∨ c = 28) ∧ q = k) → s c q = σ c q) := by
  have h1 := l_add h x
  have e : addL (lnLen k) xs x = xs ++ [x] := by unfold addL; rw [if_neg (by omega)]
  rw [e] at h1
  refine hit_mono (hit_fr (frX4_add k x σ) (hit_fk (fkX4_add k x σ) h1)) ?_
  rintro r s ⟨hf, hk, hL⟩
  refine ⟨hL, fun c q hcq => ?_⟩
  by_cases hc : c = 4 ∨ c = 28
  · exact hk c q (fun z => hcq ⟨hc, z.2 hc⟩)
  · rw [hf c (by simp only [List.mem_cons, List.not_mem_nil, or_false]; omega)]
theorem c_remMoved {σ : rS} {k : Nat} {M : Hp} {O : List Nat} (hC : CX σ k M) (w : ON M) (hO : ∀ j ∈ O, j < hn M) (h10 : σ 1 0 10 = nI O.length) (h39 : ∀ i, i < O.length → σ 39 0 i = nI (O.getD i 0)) (hOl : O.length ≤ 78) (hcap : (hrm M ++ nwR M O).length < 80) : hit (fX1_rememberMoved k σ) (fun _ s => CX s k (sRm M (hrm M ++ nwR M O)) ∧ ∀ c q, ¬ ((c = 4 ∨ c = 28) ∧ q = 6 * k + 2) → s c q = σ c q) := by
  have hw := w.1
  have e80 : lnLen (6 * k + 2) = 80 := lnLen_mod k 2
  unfold fX1_rememberMoved
  have pre : ∀ i, i < O.length → (nwR M (O.take i)).length + (frow M (O.getD i 0) (hsz M (O.getD i 0))).length ≤ (nwR M O).length := fun i hi => by
    have e : nwR M O = nwR M (O.take (i + 1)) ++ nwR M (O.drop (i + 1)) := by
      have gen : ∀ (A B : List Nat), nwR M (A ++ B) = nwR M A ++ nwR M B := fun A B => by
        induction A with
        | nil => rfl
        | cons a A ih => show frow M a (hsz M a) ++ nwR M (A ++ B) = frow M a (hsz M a) ++ nwR M A ++ nwR M B; rw [ih, List.append_assoc]
      rw [← gen, List.take_append_drop]
    rw [e, take_snoc hi, nwR_app, List.length_append, List.length_append]
    omega
  rw [List.length_append] at hcap
  refine bd_hit (hit_mono (lp_for (I := fun i s => Ln s (6 * k + 2) ((hrm M ++ nwR M (O.take i)).map (fun q => nI (q.1 * 4 + q.2))) ∧ ∀ c q, ¬ ((c = 4 ∨ c = 28) ∧ q = 6 * k + 2) → s c q = σ c q) (P := fun _ s => Ln s (6 * k + 2) ((hrm M ++ nwR M O).map (fun q => nI (q.1 * 4 + q.2))) ∧ ∀ c q, ¬ ((c = 4 ∨ c = 28) ∧ q = 6 * k + 2) → s c q = σ c q) (b := O.length) ?_ ?_ fu 0 σ (by omega) (by have := fu_ge; omega) ⟨?_, fun _ _ _ => rfl⟩) ?_)
  · rintro i s hi ⟨h1, h2⟩
    have hmem := getD_mem hi
    have hj := hO _ hmem
    have hz := (w.2.1 _ hj).2.1
    have e10 : s 1 0 10 = nI O.length := by rw [h2 1 0 (by omega)]; exact h10
    have e39 : s 39 0 i = nI (O.getD i 0) := by rw [h2 39 0 (by omega)]; exact h39 i hi
    have hpre := pre i hi
    rw [take_snoc hi, nwR_app, ← List.append_assoc]
    generalize O.getD i 0 = j at *
    unfold fX1_rememberMoved_L2
    rw [e10]
    simp (disch := omega) only [pn_lt, pn_neg, pn_eq, pn_eq0, pn_eq1, pn_eq2, pn_m1, pn_m1', pn_m1lt, pn_ix, pn_bnd, pn_add1, pn_add3, pn_mul4, nI_add, bd_some, st_eq, rd_eq, if_true, if_false, ite_true, ite_false, reduceIte, hi, e39]
    refine bd_hit (hit_mono (lp_for (I := fun f t => f ≤ hsz M j ∧ Ln t (6 * k + 2) ((hrm M ++ nwR M (O.take i) ++ frow M j f).map (fun q => nI (q.1 * 4 + q.2))) ∧ ∀ c q, ¬ ((c = 4 ∨ c = 28) ∧ q = 6 * k + 2) → t c q = σ c q) (P := fun _ t => Ln t (6 * k + 2) ((hrm M ++ nwR M (O.take i) ++ frow M j (hsz M j)).map (fun q => nI (q.1 * 4 + q.2))) ∧ ∀ c q, ¬ ((c = 4 ∨ c = 28) ∧ q = 6 * k + 2) → t c q = σ c q) (b := hsz M j) ?_ ?_ fu 0 s (by omega) (by have := fu_ge; omega) ⟨by omega, ?_, h2⟩) ?_)
    · rintro f t hf ⟨hf5, t1, t2⟩
      have hXr : CXr t k M := hC.r.mv (fun c hc => t2 c k (by omega))
      unfold fX1_rememberMoved_L20 fX1_rememberMoved_j53L20
      rw [x_fieldsOf hXr w hj, bd_some]
      simp (disch := omega) only [pn_lt, hf, if_true]
      rw [x_oty hXr w hj hf, bd_some]
      have efs := frow_succ M j f
      by_cases ho : oty M j f = true
      · rw [if_pos ho] at efs
        rw [ho, if_neg (by decide), pn_mul4, nI_add]
        have hfl := frow_len_le M j (f := f) (n := hsz M j) (by omega)
        refine bd_hit (hit_mono (l_addN t1 (by rw [List.length_map, List.length_append, List.length_append, e80]; omega) (nI (j * 4 + f))) ?_)
        rintro r u ⟨u1, u2⟩
        refine hit_some ⟨by rw [pn_add1], by omega, ?_, fun c q hcq => (u2 c q hcq).trans (t2 c q hcq)⟩
        rw [efs, ← List.append_assoc, List.map_append]
        exact u1
      · have ho' : oty M j f = false := by simpa using ho
        rw [if_neg ho] at efs
        rw [ho', if_pos (by decide)]
        refine hit_some ⟨by rw [pn_add1], by omega, ?_, t2⟩
        rw [efs]
        exact t1
    · rintro t ⟨-, t1, t2⟩
      have hXr : CXr t k M := hC.r.mv (fun c hc => t2 c k (by omega))
      unfold fX1_rememberMoved_L20
      rw [x_fieldsOf hXr w hj, bd_some]
      simp (disch := omega) only [pn_lt, Nat.lt_irrefl, if_false]
      exact hit_some ⟨t1, t2⟩
    · show Ln s (6 * k + 2) ((hrm M ++ nwR M (O.take i) ++ []).map (fun q : Nat × Nat => nI (q.1 * 4 + q.2)))
      rw [List.append_nil]; exact h1
    · rintro r t ⟨t1, t2⟩
      exact hit_some ⟨rfl, t1, t2⟩
  · rintro s ⟨h1, h2⟩
    have e10 : s 1 0 10 = nI O.length := by rw [h2 1 0 (by omega)]; exact h10
    unfold fX1_rememberMoved_L2
    rw [e10]
    simp (disch := omega) only [pn_lt, pn_neg, pn_eq, pn_eq0, pn_eq1, pn_eq2, pn_m1, pn_m1', pn_m1lt, pn_ix, pn_bnd, pn_add1, pn_add3, pn_mul4, nI_add, bd_some, st_eq, rd_eq, if_true, if_false, ite_true, ite_false, reduceIte, Nat.lt_irrefl]
    rw [List.take_length] at h1
    exact hit_some ⟨h1, h2⟩
  · rw [List.take_zero]
    show Ln σ (6 * k + 2) ((hrm M ++ []).map (fun q : Nat × Nat => nI (q.1 * 4 + q.2)))
    rw [List.append_nil]; exact hC.2.2.2.2.2.2.2
  · rintro r s ⟨h1, h2⟩
    exact hit_some ⟨hC.rm' h2 h1, h2⟩
/-! new names -/
def kpF (M : Hp) (g : Nat → Nat) (ys : Bool) (i : Nat) : Bool := !decide (g i = 0) || (ys && !decide (hsp M i = 2))
theorem c_names {σ : rS} {k : Nat} {M : Hp} {g : Nat → Nat} {ys : Bool} {c : Nat → Nat} (hC : CXr σ k M) (w : ON M) (hS : ∀ j, j < hn M → σ 38 0 j = nI (g j)) (hg : ∀ j, g j ≤ 2) (hO : ONC σ c) : hit (fX1_nameSlotsAnew k (bI ys) σ) (fun _ s => (∀ i, i < hn M → s 42 0 i = if kpF M g ys i = true then nI (rk (kpF M g ys) i) else -1) ∧ ONC s (upx c 2 (c 2 + (hn M - rk (kpF M g ys) (hn M)))) ∧ ∀ c q, ¬ (c = 37 ∨ c = 42) → s c q = σ c q) := by
  have hw := w.1
  unfold fX1_nameSlotsAnew
  refine bd_hit (hit_mono (lp_go (I := fun m x s => ∃ i, x = (nI (rk (kpF M g ys) i), nI i) ∧ i ≤ hn M ∧ m = hn M - i ∧ (∀ j, j < i → s 42 0 j = if kpF M g ys j = true then nI (rk (kpF M g ys) j) else -1) ∧ ONC s (upx c 2 (c 2 + (i - rk (kpF M g ys) i))) ∧ ∀ c q, ¬ (c = 37 ∨ c = 42) → s c q = σ c q) (P := fun _ s => (∀ i, i < hn M → s 42 0 i = if kpF M g ys i = true then nI (rk (kpF M g ys) i) else -1) ∧ ONC s (upx c 2 (c 2 + (hn M - rk (kpF M g ys) (hn M)))) ∧ ∀ c q, ¬ (c = 37 ∨ c = 42) → s c q = σ c q) ?_ fu (hn M) _ σ (fu_lt (by omega)) ⟨0, rfl, by omega, by omega, fun j hj => absurd hj (Nat.not_lt_zero _), ?_, fun _ _ _ => rfl⟩) (fun _ s h => h))
  · rintro m x s ⟨i, rfl, hi, rfl, h1, h2, h3⟩
    have hri := rk_le (kpF M g ys) i
    have e7 : s 7 k 0 = nI (hn M) := by rw [h3 7 k (by omega)]; exact hC.1
    unfold fX1_nameSlotsAnew_L5 fX1_nameSlotsAnew_j51L5 fX1_nameSlotsAnew_j37L5 fX1_nameSlotsAnew_j69L5
    dsimp only
    rw [e7]
    simp (disch := omega) only [pn_lt]
    by_cases hlt : i < hn M
    · rw [if_pos hlt]
      have hXr : CXr s k M := hC.mv (fun c hc => h3 c k (by omega))
      have e38 : s 38 0 i = nI (g i) := by rw [h3 38 0 (by omega)]; exact hS i hlt
      have hgi := hg i
      simp (disch := omega) only [pn_lt, pn_neg, pn_eq, pn_eq0, pn_eq1, pn_eq2, pn_m1, pn_m1', pn_m1lt, pn_ix, pn_bnd, pn_add1, pn_add3, pn_mul4, nI_add, bd_some, st_eq, rd_eq, if_true, if_false, ite_true, ite_false, reduceIte, e38]
      rw [x_isYoung hXr w hlt, bd_some]
      have yes : kpF M g ys i = true → hit (some ((.inl (nI (rk (kpF M g ys) i + 1), nI (i + 1)) : (Int32 × Int32) ⊕ Unit), wr s 42 0 i (nI (rk (kpF M g ys) i)))) (fun q s => match q with
          | .inl y => ∃ m, m < hn M - i ∧ ∃ i, y = (nI (rk (kpF M g ys) i), nI i) ∧ i ≤ hn M ∧ m = hn M - i ∧ (∀ j, j < i → s 42 0 j = if kpF M g ys j = true then nI (rk (kpF M g ys) j) else -1) ∧ ONC s (upx c 2 (c 2 + (i - rk (kpF M g ys) i))) ∧ ∀ c q, ¬ (c = 37 ∨ c = 42) → s c q = σ c q
          | .inr _ => (∀ i, i < hn M → s 42 0 i = if kpF M g ys i = true then nI (rk (kpF M g ys) i) else -1) ∧ ONC s (upx c 2 (c 2 + (hn M - rk (kpF M g ys) (hn M)))) ∧ ∀ c q, ¬ (c = 37 ∨ c = 42) → s c q = σ c q) := fun hk => by
        refine hit_some ⟨hn M - (i + 1), by omega, i + 1, by rw [rk_yes hk], by omega, rfl, fun j hj => ?_, ?_, fun c q hcq => by rw [wr_c (by omega)]; exact h3 c q hcq⟩
        · by_cases ej : j = i
          · subst ej; rw [wr_same, if_pos hk]
          · rw [wr_i ej]; exact h1 j (by omega)
        · rw [rk_yes hk, show i + 1 - (rk (kpF M g ys) i + 1) = i - rk (kpF M g ys) i by omega]
          intro x hx
          rw [wr_c (by decide)]; exact h2 x hx
      have no : kpF M g ys i = false → hit (some ((.inl (nI (rk (kpF M g ys) i), nI (i + 1)) : (Int32 × Int32) ⊕ Unit), wr (wr s 42 0 i (-1)) 37 0 (ix 2) (wr s 42 0 i (-1) 37 0 (ix 2) + 1))) (fun q s => match q with
          | .inl y => ∃ m, m < hn M - i ∧ ∃ i, y = (nI (rk (kpF M g ys) i), nI i) ∧ i ≤ hn M ∧ m = hn M - i ∧ (∀ j, j < i → s 42 0 j = if kpF M g ys j = true then nI (rk (kpF M g ys) j) else -1) ∧ ONC s (upx c 2 (c 2 + (i - rk (kpF M g ys) i))) ∧ ∀ c q, ¬ (c = 37 ∨ c = 42) → s c q = σ c q
          | .inr _ => (∀ i, i < hn M → s 42 0 i = if kpF M g ys i = true then nI (rk (kpF M g ys) i) else -1) ∧ ONC s (upx c 2 (c 2 + (hn M - rk (kpF M g ys) (hn M)))) ∧ ∀ c q, ¬ (c = 37 ∨ c = 42) → s c q = σ c q) := fun hk => by
        have hk' : ¬ kpF M g ys i = true := by rw [hk]; decide
        have e37 : wr s 42 0 i (-1) 37 0 (ix 2) = nI (c 2 + (i - rk (kpF M g ys) i)) := by
          rw [wr_c (by decide)]
          have := h2 2 (by omega)
          rw [upx_same] at this
          exact this
        refine hit_some ⟨hn M - (i + 1), by omega, i + 1, by rw [rk_no hk'], by omega, rfl, fun j hj => ?_, ?_, fun c q hcq => by rw [wr_c (by omega), wr_c (by omega)]; exact h3 c q hcq⟩
        · rw [wr_c (by decide)]
          by_cases ej : j = i
          · subst ej; rw [wr_same, if_neg hk']
          · rw [wr_i ej]; exact h1 j (by omega)
        · rw [rk_no hk', e37]
          intro x hx
          by_cases x2 : x = 2
          · subst x2
            rw [upx_same]
            show wr _ 37 0 2 _ 37 0 2 = _
            rw [wr_same, pn_add1]
            congr 1
            omega
          · rw [wr_i (show ¬ x = ix 2 from x2), upx_ne x2, wr_c (by decide)]
            have := h2 x hx
            rw [upx_ne x2] at this
            exact this
      by_cases g0 : g i = 0
      · rw [if_pos g0]
        cases ys with
        | false =>
          rw [if_pos (by decide)]
          exact no (by unfold kpF; simp [g0])
        | true =>
          rw [if_neg (by decide)]
          by_cases h22 : hsp M i = 2
          · rw [if_pos h22, if_pos rfl]
            exact no (by unfold kpF; simp [g0, h22])
          · rw [if_neg h22, if_neg one_ne]
            exact yes (by unfold kpF; simp [h22])
      · rw [if_neg g0]
        exact yes (by unfold kpF; simp [g0])
    · rw [if_neg hlt]
      have : i = hn M := by omega
      subst this
      exact hit_some ⟨h1, h2, h3⟩
  · intro x hx
    rw [hO x hx]
    congr 1
    show c x = upx c 2 (c 2 + (0 - 0)) x
    by_cases x2 : x = 2
    · subst x2; rw [upx_same]; rfl
    · rw [upx_ne x2]
/-! counts -/
def tlA (h : Nat → Int32) (c : Nat → Nat) (fr : Nat) (t : Nat) : Int32 := if 3 + fr ≤ t then h t + nI (c (t - 3)) else h t
theorem c_addCounts {σ : rS} {k fr : Nat} {h : Nat → Int32} {c : Nat → Nat} (ht : ∀ t, t < 8 → σ 55 k t = h t) (hO : ONC σ c) (hf : fr ≤ 5) : hit (fX1_addCounts k (nI fr) σ) (fun _ s => (∀ t, t < 8 → s 55 k t = tlA h c fr t) ∧ ∀ c q, ¬ (c = 55 ∧ q = k) → s c q = σ c q) := by
  unfold fX1_addCounts
  refine bd_hit (hit_mono (lp_for (I := fun i s => fr ≤ i ∧ (∀ t, t < 8 → s 55 k t = if t < 3 + i then tlA h c fr t else h t) ∧ ∀ c q, ¬ (c = 55 ∧ q = k) → s c q = σ c q) (P := fun _ s => (∀ t, t < 8 → s 55 k t = tlA h c fr t) ∧ ∀ c q, ¬ (c = 55 ∧ q = k) → s c q = σ c q) (b := 5) ?_ ?_ fu fr σ hf (by have := fu_ge; omega) ⟨Nat.le_refl _, fun t h8 => ?_, fun _ _ _ => rfl⟩) (fun _ s h => h))
  · rintro i s hi ⟨hfi, h1, h2⟩
    unfold fX1_addCounts_L2
    have e5 : (nI i < 5) = (i < 5) := pn_lt (b := 5) (by omega) (by omega)
    have e55 := h1 (3 + i) (by omega)
    rw [if_neg (by omega)] at e55
    have e37 : s 37 0 i = nI (c i) := by rw [h2 37 0 (by omega)]; exact hO i hi
    rw [if_pos (by rw [e5]; exact hi), pn_add3]
    simp (disch := omega) only [pn_lt, pn_neg, pn_eq, pn_eq0, pn_eq1, pn_eq2, pn_m1, pn_m1', pn_m1lt, pn_ix, pn_bnd, pn_add1, pn_add3, pn_mul4, nI_add, bd_some, st_eq, rd_eq, if_true, if_false, ite_true, ite_false, reduceIte, e55, e37]
    refine hit_some ⟨rfl, by omega, fun t ht8 => ?_, fun c q hcq => (wrR_ne _ _ _ _ hcq).trans (h2 c q hcq)⟩
    by_cases et : t = 3 + i
    · subst et
      rw [wr_same, if_pos (by omega)]
      unfold tlA
      rw [if_pos (by omega), show 3 + i - 3 = i by omega]
    · rw [wr_i et, h1 t ht8]
      by_cases g : t < 3 + i
      · rw [if_pos g, if_pos (by omega)]
      · rw [if_neg g, if_neg (by omega)]
  · rintro s ⟨hfi, h1, h2⟩
    unfold fX1_addCounts_L2
    have e5 : (nI 5 < 5) = (5 < 5) := pn_lt (b := 5) (by omega) (by omega)
    rw [if_neg (by rw [e5]; omega)]
    exact hit_some ⟨fun t h8 => by rw [h1 t h8, if_pos (by omega)], h2⟩
  · rw [ht t h8]
    unfold tlA
    by_cases g : t < 3 + fr
    · rw [if_pos g, if_neg (by omega)]
    · rw [if_neg g]
