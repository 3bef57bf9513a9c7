/-! call 17: years -/
theorem hit_fd {α : Type} {σ : rS} {o : Option (α × rS)} {K : α → rS → Prop} (hf : FD σ o) (h : hit o K) : hit o (fun r s => (∀ i, KD i → s 10 0 i = σ 10 0 i) ∧ K r s) := by
  obtain ⟨r, s, rfl, hK⟩ := hit_iff.mp h
  exact ⟨hf r s rfl, hK⟩
theorem CW.c2 {σ s : rS} {W : Wd} (h : CW σ W) (e : ∀ c, ¬ c = 2 → s c = σ c) : CW s W := by
  have mv : ∀ k S, CS σ k S → CS s k S := fun k S h => h.of_eq (by rw [e 7 (by decide)]) (fun c h1 h2 => by rw [e c (by omega)]) (fun j _ => ⟨by rw [e 4 (by decide)], by rw [e 28 (by decide)]⟩)
  obtain ⟨h1, h2, ⟨nx, n1, n2, n3, n4⟩, h4, h5, h6, h7, h8, h9⟩ := h
  refine ⟨mv _ _ h1, fun g => mv _ _ (h2 g), ⟨nx, n1, by rw [e 5 (by decide)]; exact n2, by rw [e 5 (by decide)]; exact n3, fun j hj => ⟨by rw [e 29 (by decide)]; exact (n4 j hj).1, mv _ _ (n4 j hj).2⟩⟩, ?_, ?_, ?_, ?_, ?_, ?_⟩
  · rw [e 20 (by decide)]; exact h4
  · rw [e 9 (by decide)]; exact h5
  · rw [e 9 (by decide)]; exact h6
  · rw [e 8 (by decide), e 25 (by decide)]; exact h7
  · rw [e 9 (by decide), e 21 (by decide), e 24 (by decide)]; exact h8
  · rw [e 22 (by decide)]; exact h9
theorem LM.fd {σ s : rS} {x : Int64} (h : LM σ x) (e : ∀ i, KD i → s 10 0 i = σ 10 0 i) : LM s x := by
  unfold LM at h ⊢
  rw [e 132 (Or.inl rfl), e 232 (Or.inr rfl)]
  exact h
theorem actW_wh {W : Wd} {t : Nat} {q : AR} {c : Bool} : wh (actW c W t q) = wh W := by
  rcases q with why | ⟨a, b, B⟩
  · unfold actW
    dsimp only
    cases c with
    | true => rw [if_pos rfl]; rfl
    | false => rw [if_neg (by decide)]
  · rfl
section ygen
variable {N : Int64 → Int64} {D : Nat → Int64 → Int32}
def NM (N : Int64 → Int64) (D : Nat → Int64 → Int32) : Prop := ∀ (σ : rS) (x : Int64) (j : Nat) (q : Int32), q = nI j → LM σ x → 0 < j → j ≤ 1000 → hit (fX10_draw q σ) (fun r s => r = D j (N x) ∧ LM s (N x) ∧ (∀ c, ¬ c = 10 → s c = σ c) ∧ ∀ i, KT i → s 10 0 i = σ 10 0 i)
noncomputable def yrS1 (N : Int64 → Int64) (D : Nat → Int64 → Int32) (p : Wd × Int64) : Wd × Int64 := (actW false p.1 (yrG N D p.2).2.1 (actV p.1 (yrG N D p.2).2.1 (yrG N D p.2).2.2.1 (yrG N D p.2).2.2.2.1 (yrG N D p.2).2.2.2.2.1 (yrG N D p.2).2.2.2.2.2), (yrG N D p.2).1)
noncomputable def yrS (N : Int64 → Int64) (D : Nat → Int64 → Int32) (p : Wd × Int64) : Nat → Wd × Int64
  | 0 => p
  | n + 1 => yrS1 N D (yrS N D p n)
theorem m_ytail {s : rS} {W : Wd} {b : Nat} {x : Int64} (hM : MW s W) (hL : LM s x) (hI : InvW b W) (hb : b + 1 < 1000000) {t : Nat} (ht : t ≤ 6) {q : Int32} (hq : q = nI t) (a b' c d : Int32) : hit (bd (fX10_tries q a b' c d s) (fun r s => some (r, s))) (fun _ s => MW s (actW false W t (actV W t a b' c d)) ∧ LM s x) := by
  subst hq
  refine bd_hit (hit_mono (hit_fd (fdX10_tries _ _ _ _ _ _) (m_tries hM hI hI.h8 hb (by omega) a b' c d)) ?_)
  rintro r s1 ⟨fd, -, h⟩
  exact hit_some ⟨h, hL.fd fd⟩
theorem m_happens (hN : NM N D) (hD : DB D) {σ : rS} {W : Wd} {b : Nat} {x : Int64} (hM : MW σ W) (hL : LM σ x) (hI : InvW b W) (hb : b + 1 < 1000000) : hit (fX10_happens σ) (fun _ s => MW s (yrS1 N D (W, x)).1 ∧ LM s (yrS1 N D (W, x)).2) := by
  have mw : ∀ {s t : rS}, MW s W → (∀ c, ¬ c = 10 → t c = s c) → (∀ i, KT i → t 10 0 i = s 10 0 i) → MW t W := fun h e k => h.walk (fun c hc => e c (fun z => hc (by rw [z]; decide))) k
  unfold fX10_happens yrS1
  dsimp only
  unfold yrG
  refine bd_hit (hit_mono (hN _ _ 10 _ rfl hL (by omega) (by omega)) ?_)
  rintro r1 s1 ⟨rfl, l1, f1, k1⟩
  have m1 := mw hM f1 k1
  obtain ⟨i, hi, e⟩ := hD 10 (N x) (by omega) (by omega)
  rw [e]
  have q3 : ((3 : Int32) < nI i) = (3 < i) := pn_lt (a := 3) (by omega) (by omega)
  have q7 : (nI i = (7 : Int32)) = (i = 7) := pn_eq (b := 7) (by omega) (by omega)
  have q8 : (nI i = (8 : Int32)) = (i = 8) := pn_eq (b := 8) (by omega) (by omega)
  have q9 : (nI i = (9 : Int32)) = (i = 9) := pn_eq (b := 9) (by omega) (by omega)
  have q3' : (nI 3 < nI i) = (3 < i) := pn_lt (by omega) (by omega)
  have q7' : (nI i = nI 7) = (i = 7) := pn_eq (by omega) (by omega)
  have q8' : (nI i = nI 8) = (i = 8) := pn_eq (by omega) (by omega)
  have q9' : (nI i = nI 9) = (i = 9) := pn_eq (by omega) (by omega)
  simp only [q3, q7, q8, q9, q3', q7', q8', q9']
  by_cases i9 : i = 9
  · simp only [if_pos i9]
    refine bd_hit (hit_mono (hN _ _ 3 _ rfl l1 (by omega) (by omega)) ?_)
    rintro r2 s2 ⟨rfl, l2, f2, k2⟩
    have m2 := mw m1 f2 k2
    obtain ⟨m, hm, e3⟩ := hD 3 (N (N x)) (by omega) (by omega)
    rw [e3]
    have z2 : (nI m = nI 2) = (m = 2) := pn_eq (by omega) (by omega)
    have z0 : (nI m = nI 0) = (m = 0) := pn_eq (by omega) (by omega)
    have z2' : (nI m = (2 : Int32)) = (m = 2) := pn_eq2 (by omega)
    simp only [z2, z0, z2']
    by_cases c2 : m = 2
    · simp only [if_pos c2]
      refine bd_hit (hit_mono (hN _ _ 9 _ rfl l2 (by omega) (by omega)) ?_)
      rintro r3 s3 ⟨rfl, l3, f3, k3⟩
      exact m_ytail (mw m2 f3 k3) l3 hI hb (t := 6) (by omega) rfl _ _ _ _
    · simp only [if_neg c2]
      by_cases c0 : m = 0
      · simp only [if_pos c0]
        exact m_ytail m2 l2 hI hb (t := 4) (by omega) (by rw [c0]; rfl) _ _ _ _
      · simp only [if_neg c0]
        exact m_ytail m2 l2 hI hb (t := 5) (by omega) (by rw [show m = 1 by omega]; rfl) _ _ _ _
  · simp only [if_neg i9]
    refine bd_hit (hit_mono (hN _ _ 8 _ rfl l1 (by omega) (by omega)) ?_)
    rintro r2 s2 ⟨rfl, l2, f2, k2⟩
    have m2 := mw m1 f2 k2
    by_cases i8 : i = 8
    · simp only [if_pos i8]
      exact m_ytail m2 l2 hI hb (t := 3) (by omega) rfl _ _ _ _
    · simp only [if_neg i8]
      by_cases i7 : i = 7
      · simp only [if_pos i7]
        refine bd_hit (hit_mono (hN _ _ 8 _ rfl l2 (by omega) (by omega)) ?_)
        rintro r3 s3 ⟨rfl, l3, f3, k3⟩
        have m3 := mw m2 f3 k3
        refine bd_hit (hit_mono (hN _ _ 4 _ rfl l3 (by omega) (by omega)) ?_)
        rintro r4 s4 ⟨rfl, l4, f4, k4⟩
        exact m_ytail (mw m3 f4 k4) l4 hI hb (t := 2) (by omega) rfl _ _ _ _
      · simp only [if_neg i7]
        by_cases i3 : 3 < i
        · simp only [if_pos i3]
          refine bd_hit (hit_mono (hN _ _ 4 _ rfl l2 (by omega) (by omega)) ?_)
          rintro r3 s3 ⟨rfl, l3, f3, k3⟩
          have m3 := mw m2 f3 k3
          refine bd_hit (hit_mono (hN _ _ 9 _ rfl l3 (by omega) (by omega)) ?_)
          rintro r4 s4 ⟨rfl, l4, f4, k4⟩
          exact m_ytail (mw m3 f4 k4) l4 hI hb (t := 1) (by omega) rfl _ _ _ _
        · simp only [if_neg i3]
          refine bd_hit (hit_mono (hN _ _ 3 _ rfl l2 (by omega) (by omega)) ?_)
          rintro r3 s3 ⟨rfl, l3, f3, k3⟩
          have m3 := mw m2 f3 k3
          refine bd_hit (hit_mono (hN _ _ 4 _ rfl l3 (by omega) (by omega)) ?_)
          rintro r4 s4 ⟨rfl, l4, f4, k4⟩
          have m4 := mw m3 f4 k4
          rw [rd_eq]
          refine bd_hit (hit_mono (hN _ _ 1000 _ rfl l4 (by omega) (by omega)) ?_)
          rintro r5 s5 ⟨rfl, l5, f5, k5⟩
          exact m_ytail (mw m4 f5 k5) l5 hI hb (t := 0) (by omega) rfl _ _ _ _
theorem c_year (hN : NC N D) (hD : DB D) {σ : rS} {W : Wd} {b : Nat} {x : Int64} (hC : CW σ W) (hL : LC σ x) (hI : InvW b W) (hb : b + 1 < 1000000) {γ : Type} {f : rS → Option (γ × rS)} {K : γ → rS → Prop} (hf : ∀ s, CW s (yrS1 N D (W, x)).1 → LC s (yrS1 N D (W, x)).2 → hit (f s) K) : hit (bd (fX2_drawAct σ) (fun _ σ2 => bd (fX9_act (σ2 2 0 1) (σ2 2 0 2) (σ2 2 0 3) (σ2 2 0 4) (σ2 2 0 5) 0 σ2) (fun _ σ4 => f σ4))) K := by
  refine bd_hit (hit_mono (c_drawG hN hD hL) ?_)
  rintro r s ⟨a, b', c, d, ⟨h1, h2, h3, h4, h5, hl, he⟩, hal⟩
  have ht : (yrG N D x).2.1 ≤ 6 := yG_le x
  rw [h1, h2, h3, h4, h5]
  refine bd_hit (hit_mono (hit_fr (frX9_act _ _ _ _ _ _ s) (c_act (hC.c2 he) hI hI.h8 hb (t := (yrG N D x).2.1) (by omega) false a b' c d)) ?_)
  rintro r2 s2 ⟨f2, -, h⟩
  rw [actV_alk hal ht] at h
  refine hf s2 h ?_
  unfold LC at hl ⊢
  rw [f2 2 (by decide)]
  exact hl
theorem yrS_Inv {W : Wd} {b : Nat} {x : Int64} (hI : InvW b W) : ∀ i, b + i < 999999 → InvW (b + i) (yrS N D (W, x) i).1 ∧ wh (yrS N D (W, x) i).1 = wh W
  | 0, _ => ⟨hI, rfl⟩
  | i + 1, h => by
    obtain ⟨h1, h2⟩ := yrS_Inv (x := x) hI i (by omega)
    refine ⟨?_, ?_⟩
    · have := actW_Inv h1 h1.h8 (by omega) false (yrG N D (yrS N D (W, x) i).2).2.1 (yrG N D (yrS N D (W, x) i).2).2.2.1 (yrG N D (yrS N D (W, x) i).2).2.2.2.1 (yrG N D (yrS N D (W, x) i).2).2.2.2.2.1 (yrG N D (yrS N D (W, x) i).2).2.2.2.2.2
      exact this
    · exact actW_wh.trans h2
end ygen
def dN (j : Nat) (x : Int64) : Int32 := dr (nI j) x
theorem NC_d : NC nx dN := fun σ x j q hq h h0 h1 => by subst hq; exact c_next h h0 h1
theorem NM_d : NM nx dN := fun σ x j q hq h h0 h1 => by subst hq; exact m_draw h h0 h1
theorem DB_d : DB dN := fun j x h0 h1 => dr_lt x h0 h1
section y17
variable {N : Int64 → Int64} {D : Nat → Int64 → Int32} {W : Wd} {b : Nat}
theorem c_yearsL (hN : NC N D) (hD : DB D) {σ : rS} {x : Int64} {m : Nat} (hm : m ≤ 40) (hC : CW σ W) (hL : LC σ x) (hI : InvW b W) (hb : b + 40 < 999998) : hit (lp (fun (q : Int32) σ => fX9_years_L33 (nI m) q σ) fu 0 σ) (fun _ s => CW s (yrS N D (W, x) m).1) := by
  refine lp_for (b := m) (I := fun i s => CW s (yrS N D (W, x) i).1 ∧ LC s (yrS N D (W, x) i).2) ?_ ?_ fu 0 σ (by omega) (by have := fu_ge; omega) ⟨hC, hL⟩
  · rintro i s hi ⟨h1, h2⟩
    unfold fX9_years_L33
    rw [if_pos (show nI i < nI m by rw [pn_lt (by omega) (by omega)]; exact hi)]
    obtain ⟨i1, -⟩ := yrS_Inv (N := N) (D := D) (x := x) hI i (by omega)
    refine c_year hN hD h1 h2 i1 (by omega) (fun s2 h3 h4 => ?_)
    rw [pn_add1]
    exact hit_some ⟨rfl, h3, h4⟩
  · rintro s ⟨h1, h2⟩
    unfold fX9_years_L33
    rw [if_neg (show ¬ nI m < nI m by rw [pn_lt (by omega) (by omega)]; omega)]
    exact hit_some h1
theorem m_yearsL (hN : NM N D) (hD : DB D) {σ : rS} {x : Int64} {m : Nat} (hm : m ≤ 40) (hM : MW σ W) (hL : LM σ x) (hI : InvW b W) (hb : b + 40 < 999998) : hit (lp (fun (q : Int32) σ => fX10_years_L34 (nI m) q σ) fu 0 σ) (fun _ s => MW s (yrS N D (W, x) m).1) := by
  refine lp_for (b := m) (I := fun i s => MW s (yrS N D (W, x) i).1 ∧ LM s (yrS N D (W, x) i).2) ?_ ?_ fu 0 σ (by omega) (by have := fu_ge; omega) ⟨hM, hL⟩
  · rintro i s hi ⟨h1, h2⟩
    unfold fX10_years_L34
    rw [if_pos (show nI i < nI m by rw [pn_lt (by omega) (by omega)]; exact hi)]
    obtain ⟨i1, -⟩ := yrS_Inv (N := N) (D := D) (x := x) hI i (by omega)
    refine bd_hit (hit_mono (m_happens hN hD h1 h2 i1 (by omega)) ?_)
    rintro r s2 ⟨h3, h4⟩
    rw [pn_add1]
    exact hit_some ⟨rfl, h3, h4⟩
  · rintro s ⟨h1, h2⟩
    unfold fX10_years_L34
    rw [if_neg (show ¬ nI m < nI m by rw [pn_lt (by omega) (by omega)]; omega)]
    exact hit_some h1
end y17
theorem frX9_years (x1 : Int32) (x2 : Int64) (σ : rS) : FR (2 :: VA) σ (fX9_years x1 x2 σ) := by
  unfold fX9_years
  refine FR_ite FR_some (FR_ite FR_some (FR_ite FR_some ?_))
  refine FR_to (σ1 := wrR σ 2 0 (fun _ => 0)) (wrR_frame (by decide)) (FR_bd (frX2_init _ _) (by decide) (fun _ _ => FR_bd (FR_lp (W := 2 :: VA) (fun x σ => ?_) _ _ _) (fun _ h => h) (fun _ _ => FR_bd (frX7_cellsInUse _ _) (by decide) (fun _ _ => FR_some))))
  unfold fX9_years_L33
  exact FR_ite (FR_bd (frX2_drawAct _) (by decide) (fun _ _ => FR_bd (frX9_act _ _ _ _ _ _ _) (fun _ h => List.mem_cons_of_mem _ h) (fun _ _ => FR_some))) FR_some
theorem pl_17 {xs : Nat → Int32} {n : Nat} {σ : rS} {W : Wd} (hn : n < 512) (hC : CW σ W) (hM : MW σ W) (hI : InvW (40 * n) W) : PL_17 xs n σ (IW (n + 1)) := by
  unfold PL_17
  generalize ((xs (6 * n + 2)).toInt64 <<< ((32 : Int32).toInt64 &&& 63)) ||| ((xs (6 * n + 3)).toInt64 &&& 4294967295) = sd
  generalize xs (6 * n + 1) = y
  by_cases hh : wh W = false
  · exact pl_q (fc := fun σ => fX9_years y sd σ) (fm := fun σ => fX10_years y sd σ) hC hM hI (a := -1) (by unfold fX9_years; rw [hC.hif, if_pos hh]) (fun s hs => by unfold fX10_years; rw [st_eq, (hs.t0 0).hif, if_pos hh])
  · by_cases hy : ∃ i, i ≤ 40 ∧ 1 ≤ i ∧ y = nI i
    · obtain ⟨m, m40, m1, rfl⟩ := hy
      have e1 : ¬ nI m < (1 : Int32) := by rw [show (1 : Int32) = nI 1 from rfl, pn_lt (by omega) (by omega)]; omega
      have e40 : ¬ (40 : Int32) < nI m := by rw [show (40 : Int32) = nI 40 from rfl, pn_lt (by omega) (by omega)]; omega
      obtain ⟨iF, -⟩ := yrS_Inv (N := nx) (D := dN) (x := sd) hI m (by omega)
      refine pl_mk (fc := fun σ => fX9_years (nI m) sd σ) (fm := fun σ => fX10_years (nI m) sd σ) (W' := (yrS nx dN (W, sd) m).1) (a := nI (usedA (wS (yrS nx dN (W, sd) m).1).1 0) + nI (usedA (wS (yrS nx dN (W, sd) m).1).1 1) + nI (usedA (wS (yrS nx dN (W, sd) m).1).1 2)) hM ?_ (frX9_years _ _ _) (isC_of (by decide)) (fun s hs => ?_) (fun s => frX10_years _ _ s) (isM_of (by decide)) (iF.mono (by omega))
      · show hit (fX9_years (nI m) sd σ) _
        unfold fX9_years
        rw [hC.hif, if_neg hh, if_neg e1, if_neg e40]
        unfold fX2_init
        rw [st_eq, bd_some]
        have hC1 : CW (wr (wr (wrR σ 2 0 (fun _ => 0)) 2 0 100 (lHi sd)) 2 0 200 (lLo sd)) W := hC.c2 (fun c hc => by rw [wr_c hc, wr_c hc]; exact wrR_frame (W := [2]) (by decide) c (by simpa using hc))
        have hL1 : LC (wr (wr (wrR σ 2 0 (fun _ => 0)) 2 0 100 (lHi sd)) 2 0 200 (lLo sd)) sd := by
          unfold LC
          rw [wr_i (by decide), wr_same, wr_same]
          exact lJ_split _
        refine bd_hit (hit_mono (c_yearsL NC_d DB_d m40 hC1 hL1 hI (by omega)) ?_)
        rintro r s h
        rw [c_cellsInUse h.1.1, bd_some]
        exact hit_some ⟨rfl, h⟩
      · show hit (fX10_years (nI m) sd s) _
        unfold fX10_years
        rw [st_eq, (hs.t0 0).hif, if_neg hh, show (1 : Int64) = (nI 1).toInt64 by decide, show (40 : Int64) = (nI 40).toInt64 by decide, e_in (nI m) 1 40 _ (by omega) (by omega), if_pos ⟨m, m40, m1, rfl⟩, bd_some, if_neg one_ne, st_eq]
        have hM1 : MW (wr (wr (wr s 10 0 0 0) 10 0 132 (lHi sd)) 10 0 232 (lLo sd)) W := (hs.t0 0).walk (fun c hc => by
          have : ¬ c = 10 := fun z => hc (by rw [z]; decide)
          rw [wr_c this, wr_c this]) (fun i hi => by rw [wr_i (by unfold KT at hi; omega), wr_i (by unfold KT at hi; omega)])
        have hL1 : LM (wr (wr (wr s 10 0 0 0) 10 0 132 (lHi sd)) 10 0 232 (lLo sd)) sd := by
          unfold LM
          rw [wr_i (by decide), wr_same, wr_same]
          exact lJ_split _
        refine bd_hit (hit_mono (m_yearsL NM_d DB_d m40 hM1 hL1 hI (by omega)) ?_)
        rintro r s2 h
        rw [m_cells iF.ok h.1.1, bd_some]
        exact hit_some ⟨rfl, h⟩
    · have eC : fX9_years y sd σ = some (-1, σ) := by
        unfold fX9_years
        rw [hC.hif, if_neg hh]
        by_cases c1 : y < 1
        · rw [if_pos c1]
        · rw [if_neg c1]
          by_cases c2 : 40 < y
          · rw [if_pos c2]
          · exfalso
            apply hy
            rcases inB_cases y (b := 41) (by omega) with ⟨i, h, rfl, -⟩ | ⟨-, h | ⟨i, h1, h2, rfl⟩⟩
            · rw [show (1 : Int32) = nI 1 from rfl, pn_lt (by omega) (by omega)] at c1
              exact ⟨i, by omega, by omega, rfl⟩
            · exact absurd (Int32.lt_trans h (by decide)) c1
            · rw [show (40 : Int32) = nI 40 from rfl, pn_lt (by omega) (by omega)] at c2
              omega
      exact pl_q (fc := fun σ => fX9_years y sd σ) (fm := fun σ => fX10_years y sd σ) hC hM hI (a := -1) eC (fun s hs => by
        unfold fX10_years
        rw [st_eq, (hs.t0 0).hif, if_neg hh, show (1 : Int64) = (nI 1).toInt64 by decide, show (40 : Int64) = (nI 40).toInt64 by decide, e_in y 1 40 _ (by omega) (by omega), if_neg hy, bd_some, if_pos rfl])
