/-! call 30: how many MINORS until it is OLD -/
noncomputable def untl (R : Nat → Nat) (x : Int32) : Nat → Nat → Hp → Option Nat
  | 0, _, _ => none
  | n + 1, i, A => match findA A x with
    | none => none
    | some j => if hsp A j = 2 then some i else if pX (plan2 R A) = true then none else untl R x n (i + 1) (minA R A)
section unt
variable {W : Wd} {b : Nat} {x : Int32}
theorem untl_F {R : Nat → Nat} {A : Hp} {i : Nat} (h : i < 10) : untl R x (10 - i) i A = match findA A x with
    | none => none
    | some j => if hsp A j = 2 then some i else if pX (plan2 R A) = true then none else untl R x (10 - (i + 1)) (i + 1) (minA R A) := by
  rw [show 10 - i = 10 - (i + 1) + 1 by omega]
  rfl
def uE (o : Option Nat) (e : Unit ⊕ (Int32 ⊕ (Unit ⊕ Unit))) : Prop := match o with
  | none => (match e with
    | .inr (.inl _) => False
    | _ => True)
  | some i => e = .inr (.inl (nI i))
theorem c_untilL {σ : rS} {L : Lg} {A : Hp} (hC : CW σ W) (h2 : CS σ 2 (A, L)) (hA : Inv (wR W) b A) (hR : wR W 0 ≤ 64 ∧ wR W 1 ≤ 32 ∧ wR W 2 ≤ 128 ∧ wR W 3 ≤ 5) : hit (lp (fun (q : Int32) σ => fX9_until_L27 x q σ) fu 0 σ) (fun e s => uE (untl (wR W) x 10 0 A) e ∧ TrC σ s) := by
  refine lp_go (I := fun m q s => ∃ i V L', i ≤ 10 ∧ m = 10 - i ∧ q = nI i ∧ CS s 2 (V, L') ∧ Inv (wR W) b V ∧ TrC σ s ∧ untl (wR W) x (10 - i) i V = untl (wR W) x 10 0 A) ?_ fu 10 0 σ (fu_lt (by omega)) ⟨0, A, L, by omega, by omega, rfl, h2, hA, ⟨fun _ _ => rfl, fun _ _ _ => rfl⟩, rfl⟩
  rintro m q s ⟨i, V, L', hi, rfl, rfl, hCV, hIV, hTr, hF⟩
  have w := hIV.ok
  have hR0 : CR s 2 V := hCV.1
  unfold fX9_until_L27
  have q9 : ((9 : Int32) < nI i) = (9 < i) := pn_lt (a := 9) (by omega) (by omega)
  simp only [q9]
  by_cases hlt : i < 10
  · rw [untl_F hlt] at hF
    rw [if_neg (by omega), e_find hR0 w x, bd_some]
    rcases opt_cases (findA V x) with ef | ⟨j, ef⟩
    · rw [ef] at hF ⊢
      rw [enc_none, if_pos rfl, ← hF]
      exact hit_some ⟨trivial, hTr⟩
    · have hj := (findA_lt ef).1
      have hw := w.n
      rw [ef] at hF ⊢
      dsimp only at hF
      rw [enc_some, if_neg (by rw [pn_m1 (by omega)]; exact id), e_isYoung hR0 w hj, bd_some]
      by_cases h2 : hsp V j = 2
      · rw [if_pos h2] at hF ⊢
        rw [if_pos rfl, ← hF]
        exact hit_some ⟨rfl, hTr⟩
      · rw [if_neg h2] at hF ⊢
        rw [if_neg one_ne]
        have hRU : RU s (wR W) := ⟨fun q hq => by rw [hTr.1 20 (by decide)]; exact hC.2.2.2.1 q hq, hR⟩
        refine bd_hit (hit_mono (hit_fk (fkX1_collectYoung 2 s) (hit_fr (frX1_collectYoung 2 s) (c_young hCV hIV hRU))) ?_)
        rintro r2 s2 ⟨k2, f2, h3⟩
        have hTr2 := hTr.trans (TrC_young k2 f2)
        unfold CYo at h3
        by_cases c : pX (plan2 (wR W) V) = true
        · rw [if_pos c] at h3 hF
          rw [h3.1, if_pos rfl, ← hF]
          exact hit_some ⟨trivial, hTr2⟩
        · rw [if_neg c] at h3 hF
          rw [h3.1, if_neg one_ne, pn_add1]
          exact hit_some ⟨10 - (i + 1), by omega, i + 1, _, L', by omega, rfl, rfl, h3.2.1, mInv hIV (MF_plan hIV c) ⟨hR.2.1, hR.2.2.1⟩, hTr2, hF⟩
  · have ei : i = 10 := by omega
    subst ei
    have hF : none = untl (wR W) x 10 0 A := hF
    rw [if_pos (by omega), ← hF]
    exact hit_some ⟨trivial, hTr⟩
theorem m_untilL {σ : rS} {A : Hp} (hM : MW σ W) (h1 : MR (σ 66 1) A) (hA : Inv (wR W) b A) (hR : wR W 0 ≤ 64 ∧ wR W 1 ≤ 32 ∧ wR W 2 ≤ 128 ∧ wR W 3 ≤ 5) : hit (lp (fun (q : Int32) σ => fX10_until_L39 x q σ) fu 0 σ) (fun e s => uE (untl (wR W) x 10 0 A) e ∧ TrM σ s) := by
  refine lp_go (I := fun m q s => ∃ i V, i ≤ 10 ∧ m = 10 - i ∧ q = nI i ∧ MR (s 66 1) V ∧ Inv (wR W) b V ∧ TrM σ s ∧ untl (wR W) x (10 - i) i V = untl (wR W) x 10 0 A) ?_ fu 10 0 σ (fu_lt (by omega)) ⟨0, A, by omega, by omega, rfl, h1, hA, ⟨fun _ _ => rfl, rfl, rfl, fun _ _ => rfl⟩, rfl⟩
  rintro m q s ⟨i, V, hi, rfl, rfl, hMV, hIV, hTr, hF⟩
  have w := hIV.ok
  unfold fX10_until_L39
  have q9 : ((9 : Int32) < nI i) = (9 < i) := pn_lt (a := 9) (by omega) (by omega)
  have e9 : (nI i = (9 : Int32)) = (i = 9) := pn_eq (b := 9) (by omega) (by omega)
  simp only [q9, e9]
  by_cases hlt : i < 10
  · rw [untl_F hlt] at hF
    rw [if_neg (by omega), e_spotOf hMV w x, bd_some]
    rcases opt_cases (findA V x) with ef | ⟨j, ef⟩
    · rw [ef] at hF ⊢
      rw [enc_none, if_pos rfl, ← hF]
      exact hit_some ⟨trivial, hTr⟩
    · have hj := (findA_lt ef).1
      have hw := w.n
      rw [ef] at hF ⊢
      dsimp only at hF
      rw [enc_some, if_neg (by rw [pn_m1 (by omega)]; exact id), e_isOld hMV w hj, bd_some]
      by_cases h2 : hsp V j = 2
      · rw [if_pos h2] at hF ⊢
        rw [if_neg one_ne, ← hF]
        exact hit_some ⟨rfl, hTr⟩
      · rw [if_neg h2] at hF ⊢
        rw [if_pos rfl]
        by_cases i9 : i = 9
        · rw [if_pos i9]
          have : untl (wR W) x 10 0 A = none := by
            rw [← hF, i9]
            by_cases c : pX (plan2 (wR W) V) = true
            · rw [if_pos c]
            · rw [if_neg c]; rfl
          rw [this]
          exact hit_some ⟨trivial, hTr⟩
        · rw [if_neg i9]
          have hRM : RM s (wR W) := ⟨fun q hq => by rw [hTr.1 62 (by decide)]; exact hM.2.2.2.1 q hq, hR⟩
          refine bd_hit (hit_mono (hit_fk (fvX10_minors 1 s) (hit_fr2 (frX10_minors 1 s) (fpX10_minors 1 s) (m_minors hMV hIV hRM (by decide)))) ?_)
          rintro r2 s2 ⟨k2, f2, p2, -, h3⟩
          have hTr2 : TrM σ s2 := hTr.trans ⟨f2, k2 66 0 (fun h => by have := h rfl; omega), k2 66 3 (fun h => by have := h rfl; omega), p2⟩
          by_cases c : pX (plan2 (wR W) V) = true
          · rw [if_pos c] at h3 hF
            rw [h3.1, if_pos rfl, ← hF]
            exact hit_some ⟨trivial, hTr2⟩
          · rw [if_neg c] at h3 hF
            rw [h3.1, if_neg one_ne, pn_add1]
            exact hit_some ⟨10 - (i + 1), by omega, i + 1, _, by omega, rfl, rfl, h3.2.1, mInv hIV (MF_plan hIV c) ⟨hR.2.1, hR.2.2.1⟩, hTr2, hF⟩
  · have ei : i = 10 := by omega
    subst ei
    have hF : none = untl (wR W) x 10 0 A := hF
    rw [if_pos (by omega), ← hF]
    exact hit_some ⟨trivial, hTr⟩
end unt
def untA (o : Option Nat) : Int32 := match o with
  | none => -1
  | some i => nI i
theorem uE_fin {o : Option Nat} {e : Unit ⊕ (Int32 ⊕ (Unit ⊕ Unit))} (h : uE o e) {s : rS} {K : Int32 → rS → Prop} (hK : K (untA o) s) : hit (match e with
    | .inl _ => some ((-1 : Int32), s)
    | .inr (.inl e13) => some (e13, s)
    | .inr (.inr (.inl _)) => some ((-1), s)
    | .inr (.inr (.inr _)) => some ((-1), s)) K := by
  cases o with
  | none =>
    rcases e with u | v | u | u
    · exact hit_some hK
    · exact h.elim
    · exact hit_some hK
    · exact hit_some hK
  | some i =>
    have h : e = .inr (.inl (nI i)) := h
    subst h
    exact hit_some hK
theorem pl_30 {xs : Nat → Int32} {n : Nat} {σ : rS} {W : Wd} (hC : CW σ W) (hM : MW σ W) (hI : InvW (40 * n) W) : PL_30 xs n σ (IW (n + 1)) := by
  unfold PL_30
  generalize xs (6 * n + 1) = x
  have w := hI.ok
  obtain ⟨r0, r1, r2, r3, -⟩ := hI.2.2.2.1
  have hC0 : CR σ 0 (wS W).1 := hC.1.1
  rcases opt_cases (findA (wS W).1 x) with ef | ⟨j, ef⟩
  · refine pl_q (fc := fun σ => fX9_until x σ) (fm := fun σ => fX10_until x σ) hC hM hI (a := -1) (by unfold fX9_until; rw [e_find hC0 w x, bd_some, ef, enc_none, if_pos rfl]) (fun s hs => ?_)
    show fX10_until x s = _
    unfold fX10_until
    rw [st_eq]
    by_cases c : x < 1
    · rw [if_pos c]
    · rw [if_neg c, e_spotOf (hs.t0 0).1.1 w x, bd_some, ef, enc_none, if_pos rfl]
  · have hj := (findA_lt ef).1
    have hw := w.n
    have hx : ¬ x < 1 := by
      rw [← (findA_lt ef).2, show (1 : Int32) = nI 1 from rfl, pn_lt (by have := w.num2 hj; omega) (by omega)]
      have := w.num1 hj
      omega
    refine pl_w (fc := fun σ => fX9_until x σ) (fm := fun σ => fX10_until x σ) (a := untA (untl (wR W) x 10 0 (wS W).1)) hM hI (frX9_until _ _) (isC_of (by decide)) (fun s => frX10_until _ s) (isM_of (by decide)) ?_ (fun s hs => ?_)
    · show hit (fX9_until x σ) _
      unfold fX9_until
      rw [e_find hC0 w x, bd_some, ef, enc_some, if_neg (by rw [pn_m1 (by omega)]; exact id)]
      refine bd_hit (hit_mono (c_trial hC hI) ?_)
      rintro q1 s1 ⟨hS1, t1⟩
      refine bd_hit (hit_mono (c_untilL (A := (wS W).1) (L := (wS W).2) (x := x) (hC.tr t1) hS1 hI.1.1 ⟨r0, r1, r2, r3⟩) ?_)
      rintro e s2 ⟨hu, t2⟩
      exact uE_fin hu (K := fun r s => r = untA (untl (wR W) x 10 0 (wS W).1) ∧ CW s W) ⟨rfl, (hC.tr t1).tr t2⟩
    · show hit (fX10_until x s) _
      unfold fX10_until
      rw [st_eq, if_neg hx, e_spotOf (hs.t0 0).1.1 w x, bd_some, ef, enc_some, if_neg (by rw [pn_m1 (by omega)]; exact id)]
      refine bd_hit (hit_mono (m_trial (hs.t0 0) hI) ?_)
      rintro q1 s1 ⟨hR1, t1⟩
      refine bd_hit (hit_mono (m_untilL (x := x) ((hs.t0 0).tr t1) hR1 hI.1.1 ⟨r0, r1, r2, r3⟩) ?_)
      rintro e s2 ⟨hu, t2⟩
      exact uE_fin hu (K := fun r s => r = untA (untl (wR W) x 10 0 (wS W).1) ∧ MW s W) ⟨rfl, ((hs.t0 0).tr t1).tr t2⟩
