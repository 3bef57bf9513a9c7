/-! round -/
def bk (A : Hp) (g j : Nat) : Option Nat := fst1 (fun f => decide (hlk A j f = some g)) (hsz A j - fst0 A j) (fst0 A j)
def rndA (A : Hp) (g : Nat) : Option Nat := fst1 (fun i => (bk A g ((ringA A g).1.getD i 0)).isSome) (ringA A g).1.length 0
def aRnd (A : Hp) (g : Nat) : Int32 := match rndA A g with
  | none => -1
  | some i => nI ((ringA A g).2.1 ((ringA A g).1.getD i 0)) + 1
theorem c_wbIn {σ : rS} {k j g : Nat} {A : Hp} {S : GS} (w : OK A) (hC : CR σ k A) (hj : j < hn A) (hg : g < hn A) (hG : GC σ (hn A) S) (hm : j ∈ S.1) (x3 : Int32) : hit (lp (fun (x : Int32) σ => fX3_wayBack_L43 k (nI g) x3 (nI j) x σ) fu (nI (fst0 A j)) σ) (fun e s => CR s k A ∧ match e with
    | .inl _ => (bk A g j).isSome = true ∧ ∃ S', GC s (hn A) S' ∧ PS S S'
    | .inr _ => (bk A g j).isSome = false ∧ GC s (hn A) (sprF A j (hsz A j - fst0 A j) (fst0 A j) S)) := by
  have hw := w.n
  have hz := w.sz hj
  have hf0 : fst0 A j ≤ 1 := by unfold fst0; split <;> omega
  refine lp_go (I := fun m x s => ∃ f S', x = nI f ∧ f ≤ 5 ∧ fst0 A j ≤ f ∧ m = hsz A j - f ∧ CR s k A ∧ GC s (hn A) S' ∧ PS S S' ∧ (∀ f', fst0 A j ≤ f' → f' < f → f' < hsz A j → ¬ hlk A j f' = some g) ∧ sprF A j (hsz A j - f) f S' = sprF A j (hsz A j - fst0 A j) (fst0 A j) S) ?_ fu (hsz A j - fst0 A j) _ σ (fu_lt (by omega)) ⟨fst0 A j, S, rfl, by omega, by omega, rfl, hC, hG, PS_refl S, fun f' h1 h2 => by omega, rfl⟩
  rintro m x s ⟨f, S', rfl, hf5, hff, rfl, hC', hG', hP, hno, he⟩
  unfold fX3_wayBack_L43
  rw [e_fieldsOf hC' w hj, bd_some]
  simp (disch := omega) only [pn_lt, pn_neg, pn_eq, pn_eq0, pn_eq1, pn_eq2, pn_m1, pn_m1', pn_m1lt, pn_ix, pn_bnd, pn_add1, pn_add3, pn_mul4, nI_add, bd_some, st_eq, rd_eq, if_true, if_false, ite_true, ite_false, reduceIte]
  by_cases hf : f < hsz A j
  · rw [if_pos hf, e_target hC' w hj hf, bd_some]
    simp only [enc_eq (fun q hq => show q < 2147483648 by have := w.lk hj hf hq; omega) (show g < 2147483648 by omega)]
    by_cases hb : hlk A j f = some g
    · rw [if_pos hb]
      refine hit_some ⟨hC', ?_, S', hG', hP⟩
      unfold bk
      rw [fst1_eq hff (by omega) (decide_eq_true hb) (fun k h1 h2 => decide_eq_false (hno k h1 h2 (by omega)))]
      rfl
    · rw [if_neg hb]
      have hmj := (hP.2.2 j hm).2
      refine bd_hit (hit_mono (hit_fr (frX3_visit _ _ _ _) (c_visit hw hG' (fun i hi => w.lk hj hf hi) (p := some j) (fl := nI f) (fun q hq => by cases hq; exact hmj))) ?_)
      rintro r s2 ⟨hfr, hG2⟩
      obtain ⟨m, hm2⟩ : ∃ m, hsz A j - f = m + 1 := ⟨hsz A j - f - 1, by omega⟩
      refine hit_some ⟨hsz A j - (f + 1), by omega, f + 1, vis3 S' (hlk A j f) (some j) (nI f), rfl, by omega, by omega, rfl, hC'.frame hfr gr_W, hG2, PS_trans hP (PS_vis3 _ _ _ _), fun f' h1 h2 h3 => ?_, ?_⟩
      · by_cases e : f' = f
        · rw [e]; exact hb
        · exact hno f' h1 (by omega) h3
      · rw [← he, hm2, show hsz A j - (f + 1) = m by omega]
        rfl
  · rw [if_neg hf]
    refine hit_some ⟨hC', ?_, ?_⟩
    · unfold bk
      rw [fst1_no (fun k h1 h2 => decide_eq_false (hno k h1 (by omega) (by omega)))]
      rfl
    · rw [← he, show hsz A j - f = 0 by omega]
      exact hG'
theorem c_wayBack {σ : rS} {k g : Nat} {A : Hp} (w : OK A) (hC : CR σ k A) (hg : g < hn A) : hit (fX3_wayBack k (nI g) σ) (fun r s => r = aRnd A g) := by
  have hw := w.n
  unfold fX3_wayBack
  refine bd_hit (hit_mono (hit_fr (frX3_begin _) (c_begin (hn A))) ?_)
  rintro r0 s0 ⟨hfr0, hG0⟩
  have hC0 : CR s0 k A := hC.frame hfr0 (by intro c h; simp only [List.mem_cons, List.not_mem_nil, or_false]; omega)
  refine bd_hit (hit_mono (hit_fr (frX3_visit _ _ _ _) (c_visit hw hG0 (o := some g) (p := none) (fl := -1) (fun i hi => by cases hi; exact hg) (fun q hq => by cases hq))) ?_)
  rintro r1 s1 ⟨hfr1, hG1⟩
  have hC1 : CR s1 k A := hC0.frame hfr1 gr_W
  refine bd_hit (hit_mono (lp_go (I := fun m x s => ∃ i' S', x = nI i' ∧ i' ≤ 80 ∧ m = 80 - i' ∧ CR s k A ∧ GC s (hn A) S' ∧ (∀ c, c < i' → c < S'.1.length → (bk A g (S'.1.getD c 0)).isSome = false) ∧ bfsF A (80 - i') i' S' = ringA A g) (P := fun e s => match e with
    | .inl y => ∃ j S', y = nI j ∧ j ∈ S'.1 ∧ GC s (hn A) S' ∧ rndA A g = some ((rndA A g).getD 0) ∧ (rndA A g).isSome = true ∧ (ringA A g).1.getD ((rndA A g).getD 0) 0 = j ∧ (ringA A g).2.1 j = S'.2.1 j
    | .inr _ => rndA A g = none) ?_ fu 80 _ s1 (fu_lt (by omega)) ⟨0, _, rfl, by omega, rfl, hC1, hG1, fun c h => by omega, rfl⟩) ?_)
  · rintro m x s ⟨i', S', rfl, hi', rfl, hC', hG', hno, he⟩
    have hlen := nodup_le hG'.1 hG'.2.1
    have hPS : PS S' (ringA A g) := by rw [← he]; exact PS_bfs A _ _ S'
    unfold fX3_wayBack_L13
    rw [hG'.2.2.1]
    simp (disch := omega) only [pn_lt80, pn_lt, pn_neg, pn_eq, pn_eq0, pn_eq1, pn_eq2, pn_m1, pn_m1', pn_m1lt, pn_ix, pn_bnd, pn_add1, pn_add3, pn_mul4, nI_add, bd_some, st_eq, rd_eq, if_true, if_false, ite_true, ite_false, reduceIte]
    by_cases hlt : i' < S'.1.length
    · have hmem := getD_mem hlt
      have hj := hG'.2.1 _ hmem
      rw [if_pos hlt, if_pos (by omega)]
      simp (disch := omega) only [pn_lt, pn_neg, pn_eq, pn_eq0, pn_eq1, pn_eq2, pn_m1, pn_m1', pn_m1lt, pn_ix, pn_bnd, pn_add1, pn_add3, pn_mul4, nI_add, bd_some, st_eq, rd_eq, if_true, if_false, ite_true, ite_false, reduceIte, hG'.2.2.2.1 i' hlt]
      rw [e_firstStrong hC' w hj, bd_some]
      refine bd_hit (hit_mono (c_wbIn w hC' hj hg hG' hmem (nI i')) ?_)
      rintro e s2 ⟨hC2, h2⟩
      cases e with
      | inl u =>
        obtain ⟨hb, S2, hG2, hP2⟩ := h2
        have hr : rndA A g = some i' := fst1_eq (Nat.zero_le _) (by have := hPS.1; omega) (by rw [hPS.2.1 i' hlt]; exact hb) (fun c _ hc => by rw [hPS.2.1 c (by omega)]; exact hno c hc (by omega))
        refine hit_some ⟨_, S2, rfl, (hP2.2.2 _ hmem).2, hG2, by rw [hr]; rfl, by rw [hr]; rfl, by rw [hr]; exact hPS.2.1 i' hlt, ?_⟩
        rw [(hPS.2.2 _ hmem).1, (hP2.2.2 _ hmem).1]
      | inr u =>
        obtain ⟨hb, hG2⟩ := h2
        obtain ⟨m, hm2⟩ : ∃ m, 80 - i' = m + 1 := ⟨80 - i' - 1, by omega⟩
        have hps := PS_spr A (S'.1.getD i' 0) (hsz A (S'.1.getD i' 0) - fst0 A (S'.1.getD i' 0)) (fst0 A (S'.1.getD i' 0)) S'
        refine hit_some ⟨80 - (i' + 1), by omega, i' + 1, _, rfl, by omega, rfl, hC2, hG2, fun c h1 h2 => ?_, ?_⟩
        · rw [hps.2.1 c (by omega)]
          by_cases e : c = i'
          · rw [e]; exact hb
          · exact hno c (by omega) (by omega)
        · rw [← he, hm2, show 80 - (i' + 1) = m by omega]
          conv => rhs; unfold bfsF
          rw [if_pos hlt]
    · rw [if_neg hlt]
      have e2 : bfsF A (80 - i') i' S' = S' := by
        cases h : 80 - i' with
        | zero => rfl
        | succ m => unfold bfsF; rw [if_neg hlt]
      rw [e2] at he
      refine hit_some ?_
      show rndA A g = none
      unfold rndA
      rw [← he]
      exact fst1_no (fun c _ hc => hno c (by omega) (by omega))
  · rintro e s h
    cases e with
    | inl y =>
      obtain ⟨j, S', rfl, hj, hG, h1, h2, h3, h4⟩ := h
      have hjn := hG.2.1 j hj
      have h32 := (hG.2.2.2.2.2 j hj).2.1
      simp (disch := omega) only [pn_bnd, pn_ix, h32]
      refine hit_some ?_
      unfold aRnd
      rw [h1]
      show _ = nI ((ringA A g).2.1 ((ringA A g).1.getD ((rndA A g).getD 0) 0)) + 1
      rw [h3, h4]
    | inr u =>
      refine hit_some ?_
      unfold aRnd
      rw [h]
