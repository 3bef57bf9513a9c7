/-! a MINOR, the model's side -/
theorem rowH_0 (A : Hp) : rowH A A (fun _ => 0) (pl0 A) = A := by
  have e1 : (mvP A (pO (pl0 A)) (pl0 A)).2.1 = A.2.1 := by
    funext x i
    show (if x = 2 then (if i ∈ ([] : List Nat) then 0 else A.2.1 2 i) else if x = 3 then (if i ∈ ([] : List Nat) then 0 else A.2.1 3 i) else A.2.1 x i) = A.2.1 x i
    by_cases x2 : x = 2
    · rw [if_pos x2, if_neg List.not_mem_nil, x2]
    · rw [if_neg x2]
      by_cases x3 : x = 3
      · rw [if_pos x3, if_neg List.not_mem_nil, x3]
      · rw [if_neg x3]
  have e2 : (mvP A (pO (pl0 A)) (pl0 A)).2.2.1 = A.2.2.1 := by
    funext x i
    show (if x = 2 then (if i ∈ ([] : List Nat) then A.2.2.1 2 i + 1 else A.2.2.1 2 i) else A.2.2.1 x i) = A.2.2.1 x i
    by_cases x2 : x = 2
    · rw [if_pos x2, if_neg List.not_mem_nil, x2]
    · rw [if_neg x2]
  have e3 : tlA (htl A) (cM (fun _ => 0) (pO (pl0 A)) (pl0 A)) 0 = htl A := by
    funext t
    have ec : cM (fun _ => 0) (pO (pl0 A)) (pl0 A) = fun _ => 0 := by
      funext i
      show upx (upx (fun _ => 0) 0 (0 + 0)) 1 (0 + 0) i = 0
      by_cases i1 : i = 1
      · subst i1; rw [upx_same]
      · rw [upx_ne i1]
        by_cases i0 : i = 0
        · subst i0; rw [upx_same]
        · rw [upx_ne i0]
    rw [ec]
    by_cases g : 3 ≤ t
    · rw [tlA_ge g]
      show htl A t + nI 0 = htl A t
      exact Int32.add_zero _
    · rw [tlA_lt (by omega)]
  unfold rowH
  rw [e3]
  exact Prod.ext rfl (Prod.ext e1 (Prod.ext e2 rfl))
/-- the plan over the lasting ones, as the model goes -/
theorem plS1_stuck {R : Nat → Nat} {A : Hp} {P : Pn} (h : pX P = true) (s : Nat) : plS1 R A P s = P := by
  unfold plS1
  rw [pmv_stuck h]
  exact plQ_stuck _ _ h
theorem plS_due {R : Nat → Nat} {A : Hp} {g : Nat → Nat} {P1 : Pn} (hg : ∀ i, g i = 1 ↔ hsp A i = 2 ∨ i ∈ pO P1) : ∀ (l : List Nat) (P : Pn), Fol P1 P → plS R A P l = (l.filter (fun i => decide (hkd A i = 2) && !decide (g i = 1))).foldl (plS1 R A) P := by
  intro l
  induction l with
  | nil => intro P _; rfl
  | cons s l ih =>
    intro P hf
    show plS R A (if hkd A s = 2 ∧ ¬ (hsp A s = 2 ∨ s ∈ pO P) then plS1 R A P s else P) l = _
    rw [List.filter_cons]
    by_cases hc : hkd A s = 2 ∧ ¬ g s = 1
    · have e1 : (decide (hkd A s = 2) && !decide (g s = 1)) = true := by simp [hc.1, hc.2]
      rw [if_pos e1]
      show _ = (l.filter _).foldl (plS1 R A) (plS1 R A P s)
      have hs : plS1 R A P s = (if hkd A s = 2 ∧ ¬ (hsp A s = 2 ∨ s ∈ pO P) then plS1 R A P s else P) := by
        by_cases h2 : hsp A s = 2 ∨ s ∈ pO P
        · rw [if_neg (fun z => z.2 h2)]
          unfold plS1
          have h3 : ¬ hsp A s = 2 := fun z => hc.2 ((hg s).mpr (Or.inl z))
          rw [pmv_no (Or.inr (Or.inr (h2.resolve_left h3)))]
          exact plQ_end (Nat.le_refl _)
        · rw [if_pos ⟨hc.1, h2⟩]
      rw [← hs]
      exact ih _ (hf.trans ((pmv_fol R A P _).trans (plQ_fol R A _ _ _)))
    · have e1 : ¬ (decide (hkd A s = 2) && !decide (g s = 1)) = true := by
        intro z
        have := Bool.and_eq_true_iff.mp z
        exact hc ⟨of_decide_eq_true this.1, by simpa using this.2⟩
      rw [if_neg e1, if_neg (fun z => by
        refine hc ⟨z.1, fun y => ?_⟩
        exact z.2 (((hg s).mp y).imp id (fun q => hf.sub q)))]
      exact ih P hf
/-- the weak ones' test, in stages and in marks -/
theorem emc_row {A : Hp} {X : HX} {P : Pn} {Q : List Nat} {i : Nat} (hQ : Q = pO P) (hk : X.1.2.2.1 = A.2.2.1) (h2 : X.1.2.1 = A.2.1) (hl : hlk X.1 i 0 = hlk A i 0) : emc (rowH A X.1 X.2 P) Q 1 i = (decide (hkd A i = 1) && match hlk A i 0 with
    | none => false
    | some t => !decide (hsp A t = 2 ∨ t ∈ pO P)) := by
  have e1 : hkd (rowH A X.1 X.2 P) i = hkd A i := by
    show X.1.2.2.1 0 i = _
    rw [hk]; rfl
  have e2 : hlk (rowH A X.1 X.2 P) i 0 = hlk A i 0 := hl
  unfold emc
  rw [e1, e2]
  congr 1
  rcases opt_cases (hlk A i 0) with hn | ⟨t, ht⟩
  · rw [hn]
  · rw [ht]
    dsimp only
    have e3 : hsp (rowH A X.1 X.2 P) t = if t ∈ pO P then pSp P t else hsp A t := by
      show (if t ∈ pO P then pSp P t else X.1.2.1 2 t) = _
      rw [h2]; rfl
    rw [e3, hQ]
    by_cases hm : t ∈ pO P
    · simp [hm]
    · rw [if_neg hm]
      simp [hm]
theorem wkg_1 {A : Hp} {g : Nat → Nat} {F : List Nat} (hg : ∀ i, g i = 1 ↔ hsp A i = 2 ∨ i ∈ F) (hg2 : ∀ i, g i ≤ 2) (i : Nat) : wkg A g 1 i = (decide (hsp A i = 2 ∨ i ∈ F) && (decide (hkd A i = 1) && match hlk A i 0 with
    | none => false
    | some t => !decide (hsp A t = 2 ∨ t ∈ F))) := by
  unfold wkg
  have e : decide (g i = 1) = decide (hsp A i = 2 ∨ i ∈ F) := by rw [decide_eq_decide]; exact hg i
  rw [e]
  rcases opt_cases (hlk A i 0) with hn | ⟨t, ht⟩
  · rw [hn]; simp
  · rw [ht]
    have e2 : decide (g t = 0 ∨ 1 < g t) = !decide (hsp A t = 2 ∨ t ∈ F) := by
      have := hg t
      have := hg2 t
      by_cases h : hsp A t = 2 ∨ t ∈ F
      · have : g t = 1 := (hg t).mpr h
        rw [decide_eq_true h, this]; decide
      · have h1 : ¬ g t = 1 := fun z => h ((hg t).mp z)
        rw [decide_eq_false h]
        exact decide_eq_true (by omega)
    dsimp only
    rw [e2]
    cases decide (hkd A i = 1) <;> cases decide (hsp A i = 2 ∨ i ∈ F) <;> rfl
theorem wkg_2 {A : Hp} {g : Nat → Nat} {F O : List Nat} (hg1 : ∀ i, g i = 1 ↔ hsp A i = 2 ∨ i ∈ F) (hg0 : ∀ i, g i = 0 ↔ ¬ (hsp A i = 2 ∨ i ∈ O)) (hg2 : ∀ i, g i ≤ 2) (i : Nat) : wkg A g 2 i = (decide (g i = 2) && (decide (hkd A i = 1) && match hlk A i 0 with
    | none => false
    | some t => !decide (hsp A t = 2 ∨ t ∈ O))) := by
  unfold wkg
  rcases opt_cases (hlk A i 0) with hn | ⟨t, ht⟩
  · rw [hn]; simp
  · rw [ht]
    have e2 : decide (g t = 0 ∨ 2 < g t) = !decide (hsp A t = 2 ∨ t ∈ O) := by
      have := hg2 t
      by_cases h : hsp A t = 2 ∨ t ∈ O
      · have h1 : ¬ g t = 0 := fun z => (hg0 t).mp z h
        rw [decide_eq_true h]
        exact decide_eq_false (by omega)
      · rw [decide_eq_false h]
        exact decide_eq_true (Or.inl ((hg0 t).mpr h))
    dsimp only
    rw [e2]
    cases decide (hkd A i = 1) <;> cases decide (g i = 2) <;> rfl
section mMin
variable {τ : rS} {v : Nat} {R : Nat → Nat} {A : Hp} {g : Nat → Nat} {P : Pn}
theorem ShB_em {c : Nat → Bool} {X : HX} {n : Nat} (hs : ShB A X.1) (hc : ∀ i, c i = true → hkd A i = 1) : ShB A (emL c X n).1 := by
  obtain ⟨a1, a2, a3, a4, a5, a6, a7, a8⟩ := emL_sh c X n
  obtain ⟨s1, s2, s3, s4, s5, s6⟩ := hs
  refine ⟨a1.trans s1, a2.trans s2, a3.trans s3, fun i f hf => ?_, a4.trans s5, a6.trans s6⟩
  rw [emL_lk]
  rw [if_neg (fun z => by
    have := hc i z.2.2
    have h0 : fst0 A i = 1 := by unfold fst0; rw [if_pos this]
    omega)]
  exact s4 i f hf
theorem wkg_kd {how i : Nat} (h : wkg A g how i = true) : hkd A i = 1 := by
  unfold wkg at h
  exact of_decide_eq_true (Bool.and_eq_true_iff.mp h).1
theorem Bd_em {c : Nat → Bool} {X : HX} {n : Nat} (hb : Bd X.1) (h : (hlo (emL c X n).1).length ≤ 40) : Bd (emL c X n).1 := by
  obtain ⟨a1, a2, a3, a4, a5, a6, a7, a8⟩ := emL_sh c X n
  exact ⟨by rw [a5]; exact hb.1, h, by rw [a6]; exact hb.2.2⟩
theorem emL_lo40 (c : Nat → Bool) (X : HX) : ∀ n : Nat, (hlo X.1).length ≤ 40 → (hlo (emL c X n).1).length ≤ 40 := by
  intro n
  induction n with
  | zero => intro h; exact h
  | succ n ih =>
    intro h
    have k := ih h
    rw [emL_succ]
    unfold emW
    by_cases hc : c n = true
    · rw [if_pos hc]; exact loAdd_len k
    · rw [if_neg hc]; exact k
/-- a pass over the weak ones, a loop whose step is given -/
theorem m_pass {c : Nat → Bool} {X : HX} {step : Int32 → rS → Option ((Int32 ⊕ Unit) × rS)} {Rw : HX → Hp} (hrow : ∀ Y i, emH (Rw Y) i = Rw (em1 Y i)) (hn' : ∀ i, hn (Rw (emL c X i)) = hn A) (hM : MR (τ 66 v) (Rw X)) (h78 : hn A ≤ 78) (hstep : ∀ i s, i < hn A → MR (s 66 v) (Rw (emL c X i)) → (∀ c k, ¬ (c = 66 ∧ k = v) → s c k = τ c k) → hit (step (nI i) s) (fun q t => q = .inl (nI (i + 1)) ∧ MR (t 66 v) (if c i = true then emH (Rw (emL c X i)) i else Rw (emL c X i)) ∧ LGr s t v ∧ ∀ c k, ¬ (c = 66 ∧ k = v) → t c k = s c k)) (hend : ∀ s, s 66 v 0 = nI (hn A) → step (nI (hn A)) s = some (.inr (), s)) : hit (lp step fu 0 τ) (fun _ s => MR (s 66 v) (Rw (emL c X (hn A))) ∧ LGr τ s v ∧ ∀ c k, ¬ (c = 66 ∧ k = v) → s c k = τ c k) := by
  refine lp_for (I := fun i s => MR (s 66 v) (Rw (emL c X i)) ∧ LGr τ s v ∧ ∀ c k, ¬ (c = 66 ∧ k = v) → s c k = τ c k) (b := hn A) ?_ ?_ fu 0 τ (by omega) (by have := fu_ge; omega) ⟨hM, LGr.refl _ _, fun _ _ _ => rfl⟩
  · rintro i s hi ⟨g1, g2, g3⟩
    refine hit_mono (hstep i s hi g1 g3) ?_
    rintro q t ⟨rfl, k1, k2, k3⟩
    refine ⟨rfl, ?_, g2.trans k2, fun c k hck => (k3 c k hck).trans (g3 c k hck)⟩
    rw [emL_succ]
    unfold emW
    by_cases hc : c i = true
    · rw [if_pos hc] at k1 ⊢
      rw [← hrow]; exact k1
    · rw [if_neg hc] at k1 ⊢
      exact k1
  · rintro s ⟨g1, g2, g3⟩
    have e := g1.n
    rw [hn'] at e
    rw [hend s e]
    exact hit_some ⟨g1, g2, g3⟩
end mMin
