/-! call 29 -/
def alkV (A : Hp) (a c : Nat) : Bool := loopC A 80 0 (setS ct P0 a c).2
theorem alk_M {A : Hp} (w : OK A) {a c : Nat} (ha : a < hn A) (hc : c < hn A) : alkV A a c = if like A a c = true then loopM A 80 0 (setS (like A) P0 a c).2 else false := by
  unfold alkV
  have hw : wfP A (setS ct P0 a c).2 := setS_wf P0_wf ha hc
  by_cases k : like A a c = true
  · rw [if_pos k]
    have e : setS ct P0 a c = setS (like A) P0 a c := by
      unfold setS
      rw [if_pos (show (P0.1 a = none ∧ P0.2.1 c = none) from ⟨rfl, rfl⟩), if_pos k]
      rfl
    rw [e] at hw ⊢
    exact loop_eq w 80 0 _ rfl hw (setP_al (l := some a) (r := some c) P0_wf (fun p hp => absurd hp (Nat.not_lt_zero _)))
  · rw [if_neg k]
    refine doomC w 80 0 _ hw ⟨0, Nat.le_refl _, by omega, (by decide : 0 < 1), ?_⟩
    have e1 : qA (setS ct P0 a c).2 0 = a := rfl
    have e2 : qB (setS ct P0 a c).2 0 = c := by
      unfold qB
      rw [e1]
      show (upx P0.1 a (some c) a).getD 0 = c
      rw [upx_same]; rfl
    rw [e1, e2]
    exact k
def aAlk (W : Wd) (x y : Int32) : Int32 := if wh W = false then 0 else match inB x 8 with
  | none => 0
  | some p => match inB y 8 with
    | none => 0
    | some q => match hrt (wS W).1 p with
      | none => 0
      | some a => match hrt (wS W).1 q with
        | none => 0
        | some c => bI (alkV (wS W).1 a c)
section a29
variable {W : Wd} {b : Nat}
theorem c_alike {σ : rS} {x y : Int32} (hC : CW σ W) (hI : InvW b W) : hit (fX9_alike x y σ) (fun r s => r = aAlk W x y) := by
  have w := hI.ok
  have hn78 := w.n
  have hR0 : CR σ 0 (wS W).1 := hC.1.1
  unfold fX9_alike aAlk
  rw [hC.hif]
  by_cases hh : wh W = false
  · rw [if_pos hh, if_pos hh]; exact hit_some rfl
  · rw [if_neg hh, if_neg hh, c_isRoot, bd_some]
    rcases inB_cases x (b := 8) (by omega) with ⟨p, hp, rfl, e⟩ | ⟨e, -⟩
    · rw [e]
      dsimp only
      rw [if_neg one_ne, c_isRoot, bd_some]
      rcases inB_cases y (b := 8) (by omega) with ⟨q, hq, rfl, e2⟩ | ⟨e2, -⟩
      · rw [e2]
        dsimp only
        rw [if_neg one_ne, pn_bnd (by omega) (by omega), ix_nI (by omega), hR0.rt hp, rd_eq, pn_bnd (by omega) (by omega), ix_nI (by omega), hR0.rt hq, rd_eq]
        rcases opt_cases (hrt (wS W).1 p) with ep | ⟨a, ep⟩
        · rw [ep, enc_none, if_pos rfl]; exact hit_some rfl
        · have ha := w.rt hp ep
          rw [ep, enc_some, if_neg (by rw [pn_m1 (by omega)]; exact id)]
          rcases opt_cases (hrt (wS W).1 q) with eq | ⟨c, eq⟩
          · rw [eq, enc_none, if_pos rfl]; exact hit_some rfl
          · have hc := w.rt hq eq
            rw [eq, enc_some, if_neg (by rw [pn_m1 (by omega)]; exact id)]
            refine bd_hit (hit_mono (c_areAlike w hR0 ha hc) ?_)
            rintro v s rfl
            show hit _ (fun r s => r = bI (alkV (wS W).1 a c))
            unfold alkV
            cases loopC (wS W).1 80 0 (setS ct P0 a c).2 with
            | true => rw [if_neg (show ¬ bI true = 0 by decide)]; exact hit_some rfl
            | false => rw [if_pos (show bI false = 0 from rfl)]; exact hit_some rfl
      · rw [e2, if_pos rfl]; exact hit_some rfl
    · rw [e, if_pos rfl]; exact hit_some rfl
theorem m_clr {σ : rS} {x1 x2 : Int32} : hit (lp (fun (x : Int32) σ => fX10_alike_L51 x1 x2 x σ) fu 0 σ) (fun _ s => (∀ a, a < 80 → s 74 0 a = -1) ∧ (∀ a, a < 80 → s 75 0 a = -1) ∧ ∀ c, ¬ c = 74 → ¬ c = 75 → s c = σ c) := by
  refine lp_for (b := 80) (I := fun m s => (∀ a, a < m → s 74 0 a = -1) ∧ (∀ a, a < m → s 75 0 a = -1) ∧ ∀ c, ¬ c = 74 → ¬ c = 75 → s c = σ c) ?_ ?_ fu 0 σ (by omega) (by have := fu_ge; omega) ⟨fun a h => absurd h (Nat.not_lt_zero _), fun a h => absurd h (Nat.not_lt_zero _), fun _ _ _ => rfl⟩
  · rintro m s hm ⟨h1, h2, h3⟩
    unfold fX10_alike_L51
    rw [if_pos (show nI m < 80 by rw [pn_lt80 (by omega)]; exact hm)]
    simp (disch := omega) only [pn_bnd, pn_ix, pn_add1, st_eq]
    refine hit_some ⟨rfl, fun a ha => ?_, fun a ha => ?_, fun c c1 c2 => by rw [wr_c c2, wr_c c1]; exact h3 c c1 c2⟩
    · rw [wr_c (by decide)]
      by_cases e : a = m
      · subst e; rw [wr_same]
      · rw [wr_i e]; exact h1 a (by omega)
    · by_cases e : a = m
      · subst e; rw [wr_same]
      · rw [wr_i e, wr_c (by decide)]; exact h2 a (by omega)
  · rintro s h
    unfold fX10_alike_L51
    rw [if_neg (show ¬ nI 80 < 80 by rw [pn_lt80 (by omega)]; omega)]
    exact hit_some h
theorem m_alike {τ : rS} {x y : Int32} (hM : MW τ W) (hI : InvW b W) : hit (fX10_alike x y τ) (fun r s => r = aAlk W x y) := by
  have w := hI.ok
  have hn78 := w.n
  have hs0 := hM.t0 0
  have hM0 : MR (wr τ 10 0 0 0 66 0) (wS W).1 := hs0.1.1
  unfold fX10_alike aAlk
  rw [st_eq]
  by_cases hh : wh W = false
  · rw [if_pos hh]
    have e11 : wr τ 10 0 0 0 10 0 11 = 0 := by
      rw [show wr τ 10 0 0 0 10 0 11 = bI (wh W) from hs0.2.2.2.2.1, hh]; rfl
    unfold fX10_isRoot
    rw [if_pos e11, bd_some, if_pos rfl]
    exact hit_some rfl
  · have h11 : ¬ wr τ 10 0 0 0 10 0 11 = 0 := by
      rw [show wr τ 10 0 0 0 10 0 11 = bI (wh W) from hs0.2.2.2.2.1]
      cases hw : wh W with
      | true => decide
      | false => exact absurd hw hh
    rw [if_neg hh, m_isRoot' h11, bd_some]
    rcases inB_cases x (b := 8) (by omega) with ⟨p, hp, rfl, e⟩ | ⟨e, -⟩
    · rw [e]
      dsimp only
      rw [if_neg one_ne, m_isRoot' h11, bd_some]
      rcases inB_cases y (b := 8) (by omega) with ⟨q, hq, rfl, e2⟩ | ⟨e2, -⟩
      · rw [e2]
        dsimp only
        have r1 := hM0.rt hp
        have r2 := hM0.rt hq
        rw [if_neg one_ne, pm_881, pn_bnd (by omega) (by omega), ix_nI (by omega), r1]
        rcases opt_cases (hrt (wS W).1 p) with ep | ⟨a, ep⟩
        · rw [ep, show encN (wS W).1 none = 0 from rfl, if_pos rfl]; exact hit_some rfl
        · have ha := w.rt hp ep
          have n1 := w.num1 ha
          have n2 := w.num2 ha
          rw [ep, show encN (wS W).1 (some a) = nI (hnum (wS W).1 a) from rfl, if_neg (by rw [pn_eq0 (by omega)]; omega), pm_881, pn_bnd (by omega) (by omega), ix_nI (by omega), r2]
          rcases opt_cases (hrt (wS W).1 q) with eq | ⟨c, eq⟩
          · rw [eq, show encN (wS W).1 none = 0 from rfl, if_pos rfl]; exact hit_some rfl
          · have hc := w.rt hq eq
            have n3 := w.num1 hc
            have n4 := w.num2 hc
            rw [eq, show encN (wS W).1 (some c) = nI (hnum (wS W).1 c) from rfl, if_neg (by rw [pn_eq0 (by omega)]; omega)]
            refine bd_hit (hit_mono m_clr ?_)
            rintro u s1 ⟨z1, z2, z3⟩
            rw [st_eq]
            have hM1 : MR (wr s1 10 0 22 0 66 0) (wS W).1 := by rw [wr_c (by decide), z3 66 (by decide) (by decide)]; exact hM0
            have hP : PMl (wr s1 10 0 22 0) P0 := ⟨fun k hk => by rw [wr_c (by decide)]; exact z1 k hk, fun k hk => by rw [wr_c (by decide)]; exact z2 k hk, by rw [wr_same]; rfl, fun i hi => absurd hi (Nat.not_lt_zero _), fun x y hy => by cases hy⟩
            rw [e_rootSpot hM1 w hp, bd_some, e_rootSpot hM1 w hq, bd_some, ep, eq, enc_some, enc_some]
            refine bd_hit (hit_mono (hit_fr (frX10_areSet _ _ _) (m_setS w hM1 hP P0_wf ha hc)) ?_)
            rintro v s2 ⟨f2, rfl, hV2⟩
            have hM2 : MR (s2 66 0) (wS W).1 := by rw [f2 66 (by decide)]; exact hM1
            show hit _ (fun r s => r = bI (alkV (wS W).1 a c))
            rw [alk_M w ha hc]
            by_cases k : like (wS W).1 a c = true
            · have e1 : (setS (like (wS W).1) P0 a c).1 = true := by
                unfold setS
                rw [if_pos (show (P0.1 a = none ∧ P0.2.1 c = none) from ⟨rfl, rfl⟩), if_pos k]
              rw [if_pos k, e1, if_neg (show ¬ bI true = 0 by decide)]
              refine bd_hit (hit_mono (m_aloop w hM2 hV2 (setS_wf P0_wf ha hc) (setP_al (l := some a) (r := some c) P0_wf (fun p hp => absurd hp (Nat.not_lt_zero _)))) ?_)
              rintro u s3 rfl
              cases loopM (wS W).1 80 0 (setS (like (wS W).1) P0 a c).2 with
              | true => exact hit_some rfl
              | false => exact hit_some rfl
            · have e1 : (setS (like (wS W).1) P0 a c).1 = false := by
                unfold setS
                rw [if_pos (show (P0.1 a = none ∧ P0.2.1 c = none) from ⟨rfl, rfl⟩), if_neg k]
              rw [if_neg k, e1, if_pos (show bI false = 0 from rfl)]
              exact hit_some rfl
      · rw [e2, if_pos rfl]; exact hit_some rfl
    · rw [e, if_pos rfl]; exact hit_some rfl
end a29
theorem pl_29 {xs : Nat → Int32} {n : Nat} {σ : rS} {W : Wd} (hC : CW σ W) (hM : MW σ W) (hI : InvW (40 * n) W) : PL_29 xs n σ (IW (n + 1)) := by
  refine pl_w (fc := fun σ => fX9_alike (xs (6 * n + 1)) (xs (6 * n + 2)) σ) (fm := fun σ => fX10_alike (xs (6 * n + 1)) (xs (6 * n + 2)) σ) (a := aAlk W (xs (6 * n + 1)) (xs (6 * n + 2))) hM hI (frX9_alike _ _ _) (isC_of (by decide)) (fun s => frX10_alike _ _ s) (isM_of (by decide)) ?_ (fun s hs => ?_)
  · refine hit_mono (hit_fr (frX9_alike _ _ σ) (c_alike hC hI)) ?_
    rintro r s ⟨f, h⟩
    exact ⟨h, hC.walk (fun c hc => f c (fun z => hc (by
      simp only [List.mem_cons, List.not_mem_nil, or_false] at z
      rcases z with rfl | rfl | rfl | rfl <;> decide)))⟩
  · refine hit_mono (hit_fr2 (frX10_alike _ _ s) (fpX10_alike _ _ s) (m_alike hs hI)) ?_
    rintro r t ⟨f, p, h⟩
    exact ⟨h, hs.walk (fun c hc => f c (fun z => hc (by
      simp only [List.mem_cons, List.not_mem_nil, or_false] at z
      rcases z with rfl | rfl | rfl | rfl <;> decide))) p⟩
