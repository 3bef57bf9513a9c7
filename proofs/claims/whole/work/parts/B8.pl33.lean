/-! call 33: a script on a trial -/
def nxA (q : AR) (A : Hp) : Hp := match q with
  | .inl _ => A
  | .inr (_, _, B) => B
noncomputable def rtV (R : Nat → Nat) (f : Nat → Int32) (i : Nat) (A : Hp) : AR := doA R A (ix (f (5 * i))) (f (5 * i + 1)) (f (5 * i + 2)) (f (5 * i + 3)) (f (5 * i + 4))
noncomputable def rnf (R : Nat → Nat) (f : Nat → Int32) : Nat → Nat → Hp → Hp × Nat
  | 0, i, A => (A, i)
  | n + 1, i, A => if isRf (rtV R f i A) = true then (A, i) else rnf R f n (i + 1) (nxA (rtV R f i A) A)
abbrev VT : List Nat := [5, 8, 9, 20, 21, 22, 24, 25, 29]
/-- s differs from σ by a trial only -/
def TrC (σ s : rS) : Prop := (∀ c, c ∈ VT → s c = σ c) ∧ ∀ c q, ¬ S0 2 c q → s c q = σ c q
theorem TrC.trans {σ s u : rS} (h : TrC σ s) (h' : TrC s u) : TrC σ u := ⟨fun c hc => (h'.1 c hc).trans (h.1 c hc), fun c q hq => (h'.2 c q hq).trans (h.2 c q hq)⟩
theorem CW.tr {σ s : rS} {W : Wd} (h : CW σ W) (t : TrC σ s) : CW s W := by
  obtain ⟨e, k⟩ := t
  have mv : ∀ q T, ¬ q = 2 → ¬ q = 3 → CS σ q T → CS s q T := fun q T q0 q3 hT => hT.of_eq (k 7 q (fun h => by
    rcases h with h | h
    · exact q0 (h.1 (Or.inl rfl))
    · exact q3 (h.1 (Or.inl rfl)))) (fun c c1 c2 => k c q (fun h => by
    rcases h with h | h
    · exact q0 (h.1 (Or.inr ⟨c1, c2⟩))
    · exact q3 (h.1 (Or.inr ⟨c1, c2⟩)))) (fun j hj => ⟨k 4 _ (fun h => by
      rcases h with h | h
      · have := h.2 (Or.inl rfl); omega
      · have := h.2 (Or.inl rfl); omega), k 28 _ (fun h => by
      rcases h with h | h
      · have := h.2 (Or.inr rfl); omega
      · have := h.2 (Or.inr rfl); omega)⟩)
  obtain ⟨h1, h2, ⟨nx, n1, n2, n3, n4⟩, h4, h5, h6, h7, h8, h9⟩ := h
  refine ⟨mv _ _ (by decide) (by decide) h1, fun g => mv _ _ (by decide) (by decide) (h2 g), ⟨nx, n1, by rw [e 5 (by decide)]; exact n2, by rw [e 5 (by decide)]; exact n3, fun j hj => ⟨by rw [e 29 (by decide)]; exact (n4 j hj).1, mv _ _ (by omega) (by omega) (n4 j hj).2⟩⟩, ?_, ?_, ?_, ?_, ?_, ?_⟩
  · rw [e 20 (by decide)]; exact h4
  · rw [e 9 (by decide)]; exact h5
  · rw [e 9 (by decide)]; exact h6
  · rw [e 8 (by decide), e 25 (by decide)]; exact h7
  · rw [e 9 (by decide), e 21 (by decide), e 24 (by decide)]; exact h8
  · rw [e 22 (by decide)]; exact h9
theorem TrC_copy {σ s : rS} (k : ∀ c q, ¬ SK 2 c q → s c q = σ c q) (f : ∀ c, ¬ c ∈ [4, 7, 28, 45, 46, 47, 48, 49, 50, 51, 52, 53, 54, 55] → s c = σ c) : TrC σ s := ⟨fun c hc => f c (by
    simp only [List.mem_cons, List.not_mem_nil, or_false] at hc
    rcases hc with rfl | rfl | rfl | rfl | rfl | rfl | rfl | rfl | rfl <;> decide), fun c q hq => k c q (fun h => hq (Or.inl h))⟩
theorem TrC_young {σ s : rS} (k : ∀ c q, ¬ SK 2 c q → s c q = σ c q) (f : ∀ c, ¬ c ∈ [1, 4, 7, 28, 37, 38, 39, 40, 41, 42, 43, 45, 46, 47, 48, 49, 50, 51, 52, 53, 54, 55] → s c = σ c) : TrC σ s := ⟨fun c hc => f c (by
    simp only [List.mem_cons, List.not_mem_nil, or_false] at hc
    rcases hc with rfl | rfl | rfl | rfl | rfl | rfl | rfl | rfl | rfl <;> decide), fun c q hq => k c q (fun h => hq (Or.inl h))⟩
theorem TrC_all {σ s : rS} (k : ∀ c q, ¬ SK 2 c q → s c q = σ c q) (f : ∀ c, ¬ c ∈ [3, 4, 7, 28, 30, 31, 32, 33, 34, 37, 38, 42, 44, 45, 46, 47, 48, 49, 50, 51, 52, 53, 54, 55] → s c = σ c) : TrC σ s := ⟨fun c hc => f c (by
    simp only [List.mem_cons, List.not_mem_nil, or_false] at hc
    rcases hc with rfl | rfl | rfl | rfl | rfl | rfl | rfl | rfl | rfl <;> decide), fun c q hq => k c q (fun h => hq (Or.inl h))⟩
/-- the model's: rows 0 and 3 stay -/
def TrM (σ s : rS) : Prop := (∀ c, ¬ c ∈ [10, 66, 68, 69, 70] → s c = σ c) ∧ s 66 0 = σ 66 0 ∧ s 66 3 = σ 66 3 ∧ ∀ i, KT i → s 10 0 i = σ 10 0 i
theorem TrM.trans {σ s u : rS} (h : TrM σ s) (h' : TrM s u) : TrM σ u := ⟨fun c hc => (h'.1 c hc).trans (h.1 c hc), h'.2.1.trans h.2.1, h'.2.2.1.trans h.2.2.1, fun i hi => (h'.2.2.2 i hi).trans (h.2.2.2 i hi)⟩
theorem MW.tr {σ s : rS} {W : Wd} (h : MW σ W) (t : TrM σ s) : MW s W := h.of_eq (fun c hc h1 h2 h3 _ => t.1 c (by
    simp only [List.mem_cons, List.not_mem_nil, or_false]
    omega)) t.2.1 t.2.2.1 t.2.2.2
theorem TrM_copy {σ s : rS} (h : ∀ c k, ¬ (c = 66 ∧ k = 1) → s c k = σ c k) : TrM σ s := ⟨fun c hc => funext fun k => h c k (fun z => hc (by rw [z.1]; decide)), h 66 0 (by decide), h 66 3 (by decide), fun i _ => by rw [h 10 0 (by decide)]⟩
section run33
variable {W : Wd} {b : Nat} {f : Nat → Int32} {len k : Nat}
theorem rnf_F {R : Nat → Nat} {A : Hp} {i t : Nat} (h : i < len) (ext : ix (f (5 * i)) = t) : rnf R f (len - i) i A = if isRf (doA R A t (f (5 * i + 1)) (f (5 * i + 2)) (f (5 * i + 3)) (f (5 * i + 4))) = true then (A, i) else rnf R f (len - (i + 1)) (i + 1) (nxA (doA R A t (f (5 * i + 1)) (f (5 * i + 2)) (f (5 * i + 3)) (f (5 * i + 4))) A) := by
  rw [show len - i = len - (i + 1) + 1 by omega, ← ext]
  rfl
theorem c_runL {σ : rS} {L : Lg} {A : Hp} (hS : SCk W k len f) (hC : CW σ W) (h2 : CS σ 2 (A, L)) (hI : InvW b W) (hA : Inv (wR W) b A) (h8 : R8 (wR W)) (hb : b + 16 < 999998) : hit (lp (fun (x : Int32) σ => fX9_runOnTrial_L13 k (nI len) x σ) fu 0 σ) (fun e s => (match e with
    | .inl v => v = nI (rnf (wR W) f len 0 A).2
    | .inr _ => nI len = nI (rnf (wR W) f len 0 A).2) ∧ (∃ L', CS s 2 ((rnf (wR W) f len 0 A).1, L')) ∧ TrC σ s) := by
  obtain ⟨hk, hg, h16, hk4, hT⟩ := hS
  have ci := (hC.ci (i := k) hk).2
  rw [hg] at ci
  have ci : ∀ j, j < 5 * len → σ 24 k j = f j := ci
  refine lp_go (I := fun m x s => ∃ i V L', i ≤ len ∧ m = len - i ∧ x = nI i ∧ CS s 2 (V, L') ∧ Inv (wR W) (b + i) V ∧ TrC σ s ∧ rnf (wR W) f (len - i) i V = rnf (wR W) f len 0 A) ?_ fu len 0 σ (fu_lt (by omega)) ⟨0, A, L, by omega, by omega, rfl, h2, hA, ⟨fun _ _ => rfl, fun _ _ _ => rfl⟩, rfl⟩
  rintro m x s ⟨i, V, L', hi, rfl, rfl, hCV, hIV, hTr, hF⟩
  unfold fX9_runOnTrial_L13
  by_cases hlt : i < len
  · rw [if_pos (show nI i < nI len by rw [pn_lt (by omega) (by omega)]; exact hlt), show nI i * 5 = nI (5 * i) by rw [Nat.mul_comm]; exact (Int32.ofNat_mul i 5).symm, rd_eq]
    have c1 : nI (5 * i) + 1 = nI (5 * i + 1) := nI_add _ 1
    have c2 : nI (5 * i) + 2 = nI (5 * i + 2) := nI_add _ 2
    have c3 : nI (5 * i) + 3 = nI (5 * i + 3) := nI_add _ 3
    have c4 : nI (5 * i) + 4 = nI (5 * i + 4) := nI_add _ 4
    have ci : ∀ j, j < 5 * len → s 24 k j = f j := fun j hj => by rw [hTr.1 24 (by decide)]; exact ci j hj
    rw [c1, c2, c3, c4, pn_bnd (by omega) (by omega), pn_bnd (by omega) (by omega), pn_bnd (by omega) (by omega), pn_bnd (by omega) (by omega), pn_bnd (by omega) (by omega), ix_nI (by omega), ix_nI (by omega), ix_nI (by omega), ix_nI (by omega), ix_nI (by omega), ci _ (by omega), ci _ (by omega), ci _ (by omega), ci _ (by omega), ci _ (by omega)]
    obtain ⟨t, ht, et⟩ := hT i hlt
    have ext : ix (f (5 * i)) = t := by rw [et]; exact ix_nI (by omega)
    have hRU : RU s (wR W) := ⟨fun q hq => by rw [hTr.1 20 (by decide)]; exact hC.2.2.2.1 q hq, h8.1, h8.2.1, h8.2.2.1, h8.2.2.2.1⟩
    have iv := i_does hIV h8 (by omega) t (f (5 * i + 1)) (f (5 * i + 2)) (f (5 * i + 3)) (f (5 * i + 4))
    rw [rnf_F hlt ext] at hF
    rw [et]
    refine bd_hit (hit_mono (hit_fk (fkX0_apply 2 (nI t) (f (5 * i + 1)) (f (5 * i + 2)) (f (5 * i + 3)) (f (5 * i + 4)) s) (hit_fr (frX0_apply 2 (nI t) (f (5 * i + 1)) (f (5 * i + 2)) (f (5 * i + 3)) (f (5 * i + 4)) s) (c_apply hCV hIV hRU h8 (by omega) (by decide) (t := t) (by omega) (f (5 * i + 1)) (f (5 * i + 2)) (f (5 * i + 3)) (f (5 * i + 4))))) ?_)
    rintro r s2 ⟨kk, ff, hr⟩
    have hTr2 : TrC σ s2 := hTr.trans ⟨fun c hc => ff c (by
      simp only [List.mem_cons, List.not_mem_nil, or_false] at hc
      rcases hc with rfl | rfl | rfl | rfl | rfl | rfl | rfl | rfl | rfl <;> decide), kk⟩
    generalize doA (wR W) V t (f (5 * i + 1)) (f (5 * i + 2)) (f (5 * i + 3)) (f (5 * i + 4)) = q at hr iv hF
    rcases q with why | ⟨c, lg, B⟩
    · rw [if_pos (show isRf (.inl why) = true from rfl)] at hF
      have iv' : why < 4 := iv
      have hr1 : r = -1 - nI why := hr.1
      have hlt0 : r < 0 := by rw [hr1]; rcases (by omega : why = 0 ∨ why = 1 ∨ why = 2 ∨ why = 3) with rfl | rfl | rfl | rfl <;> decide
      rw [if_pos hlt0, ← hF]
      exact hit_some ⟨rfl, ⟨L', hr.2⟩, hTr2⟩
    · rw [if_neg (show ¬ isRf (.inr (c, lg, B)) = true from Bool.false_ne_true)] at hF
      have hc0 : ¬ c < 0 := iv.1
      rw [if_neg (show ¬ r < 0 by rw [show r = c from hr.1]; exact hc0), pn_add1]
      exact hit_some ⟨len - (i + 1), by omega, i + 1, B, _, by omega, rfl, rfl, hr.2, iv.2, hTr2, hF⟩
  · rw [if_neg (show ¬ nI i < nI len by rw [pn_lt (by omega) (by omega)]; exact hlt)]
    have ei : i = len := by omega
    subst ei
    rw [Nat.sub_self] at hF
    have hF : (V, i) = rnf (wR W) f i 0 A := hF
    rw [← hF]
    exact hit_some ⟨rfl, ⟨L', hCV⟩, hTr⟩
theorem m_runL {σ : rS} {A : Hp} {y : Int32} (hS : SCk W k len f) (hM : MW σ W) (h11 : ¬ σ 10 0 11 = 0) (h1 : MR (σ 66 1) A) (hI : InvW b W) (hA : Inv (wR W) b A) (h8 : R8 (wR W)) (hb : b + 16 < 999998) : hit (lp (fun (x : (Int32 × Int32)) σ => fX10_run_L52 (nI k) y x.1 x.2 σ) fu (0, 1) σ) (fun e s => e = nI (rnf (wR W) f len 0 A).2 ∧ MR (s 66 1) (rnf (wR W) f len 0 A).1 ∧ TrM σ s) := by
  obtain ⟨hk, hg, h16, hk4, hT⟩ := hS
  have ci := hM.ci (i := k) hk
  rw [hg] at ci
  have c65 : σ 65 0 k = nI len := ci.1
  have ci : ∀ j, j < 5 * len → σ 64 0 (80 * k + j) = f j := ci.2
  refine lp_go (I := fun m x s => ∃ i V, i ≤ len ∧ MR (s 66 1) V ∧ TrM σ s ∧ ((x = (nI i, 0) ∧ m = 0 ∧ (V, i) = rnf (wR W) f len 0 A) ∨ (x = (nI i, 1) ∧ m = len - i + 1 ∧ Inv (wR W) (b + i) V ∧ rnf (wR W) f (len - i) i V = rnf (wR W) f len 0 A))) ?_ fu (len + 1) (0, 1) σ (fu_lt (by omega)) ⟨0, A, by omega, h1, ⟨fun _ _ => rfl, rfl, rfl, fun _ _ => rfl⟩, Or.inr ⟨rfl, by omega, hA, rfl⟩⟩
  rintro m x s ⟨i, V, hi, hMV, hTr, ⟨rfl, rfl, hF⟩ | ⟨rfl, rfl, hIV, hF⟩⟩
  · unfold fX10_run_L52
    rw [if_pos rfl]
    rw [← hF]
    exact hit_some ⟨rfl, hMV, hTr⟩
  · unfold fX10_run_L52
    dsimp only
    have c65 : s 65 0 k = nI len := by rw [hTr.1 65 (by decide)]; exact c65
    have ci : ∀ j, j < 5 * len → s 64 0 (80 * k + j) = f j := fun j hj => by rw [hTr.1 64 (by decide)]; exact ci j hj
    rw [if_neg one_ne, pn_bnd (by omega) (by omega), ix_nI (by omega), c65]
    by_cases hlt : i < len
    · rw [if_pos (show nI i < nI len by rw [pn_lt (by omega) (by omega)]; exact hlt), show (5 : Int32) * (16 * nI k + nI i) = nI (80 * k + 5 * i) by
        rw [show (16 : Int32) * nI k = nI (16 * k) from (Int32.ofNat_mul 16 k).symm, nI_add, show (5 : Int32) * nI (16 * k + i) = nI (5 * (16 * k + i)) from (Int32.ofNat_mul 5 (16 * k + i)).symm]
        congr 1
        omega, rd_eq]
      have c1 : nI (80 * k + 5 * i) + 1 = nI (80 * k + (5 * i + 1)) := nI_add _ 1
      have c2 : nI (80 * k + 5 * i) + 2 = nI (80 * k + (5 * i + 2)) := nI_add _ 2
      have c3 : nI (80 * k + 5 * i) + 3 = nI (80 * k + (5 * i + 3)) := nI_add _ 3
      have c4 : nI (80 * k + 5 * i) + 4 = nI (80 * k + (5 * i + 4)) := nI_add _ 4
      rw [c1, c2, c3, c4, pn_bnd (by omega) (by omega), pn_bnd (by omega) (by omega), pn_bnd (by omega) (by omega), pn_bnd (by omega) (by omega), pn_bnd (by omega) (by omega), ix_nI (by omega), ix_nI (by omega), ix_nI (by omega), ix_nI (by omega), ix_nI (by omega), ci _ (by omega), ci _ (by omega), ci _ (by omega), ci _ (by omega), ci _ (by omega)]
      obtain ⟨t, ht, et⟩ := hT i hlt
      have ext : ix (f (5 * i)) = t := by rw [et]; exact ix_nI (by omega)
      have hRM : RM s (wR W) := ⟨fun q hq => by rw [hTr.1 62 (by decide)]; exact hM.2.2.2.1 q hq, h8.1, h8.2.1, h8.2.2.1, h8.2.2.2.1⟩
      have h11s : ¬ s 10 0 11 = 0 := by rw [hTr.2.2.2 11 (by unfold KT; omega)]; exact h11
      have iv := i_does hIV h8 (by omega) t (f (5 * i + 1)) (f (5 * i + 2)) (f (5 * i + 3)) (f (5 * i + 4))
      rw [rnf_F hlt ext] at hF
      rw [et]
      refine bd_hit (hit_mono (hit_fk (fkX10_does 1 (nI t) (f (5 * i + 1)) (f (5 * i + 2)) (f (5 * i + 3)) (f (5 * i + 4)) s) (hit_fr2 (frX10_does 1 (nI t) (f (5 * i + 1)) (f (5 * i + 2)) (f (5 * i + 3)) (f (5 * i + 4)) s) (fpX10_does 1 (nI t) (f (5 * i + 1)) (f (5 * i + 2)) (f (5 * i + 3)) (f (5 * i + 4)) s) (m_does (v := 1) hMV hIV hRM h8 (by omega) (by decide) (by decide) h11s (t := t) (by omega) (f (5 * i + 1)) (f (5 * i + 2)) (f (5 * i + 3)) (f (5 * i + 4))))) ?_)
      rintro r s2 ⟨kk, ff, pp, -, hr⟩
      have hTr2 : TrM σ s2 := hTr.trans ⟨ff, kk 66 0 (fun h => by have := h rfl; omega), kk 66 3 (fun h => by have := h rfl; omega), pp⟩
      generalize doA (wR W) V t (f (5 * i + 1)) (f (5 * i + 2)) (f (5 * i + 3)) (f (5 * i + 4)) = q at hr iv hF
      unfold fX10_run_j137L52 fX10_run_j147L52
      rcases q with why | ⟨c, lg, B⟩
      · rw [if_pos (show isRf (.inl why) = true from rfl)] at hF
        have iv' : why < 4 := iv
        have hr1 : r = nI why := hr.1
        rw [if_neg (show ¬ r = -1 by rw [hr1, pn_m1 (by omega)]; exact id), if_pos rfl]
        exact hit_some ⟨0, by omega, i, V, hi, hr.2, hTr2, Or.inl ⟨rfl, rfl, hF⟩⟩
      · rw [if_neg (show ¬ isRf (.inr (c, lg, B)) = true from Bool.false_ne_true)] at hF
        rw [if_pos (show r = -1 from hr.1), if_neg one_ne, pn_add1]
        exact hit_some ⟨len - (i + 1) + 1, by omega, i + 1, B, by omega, hr.2.2.2, hTr2, Or.inr ⟨rfl, rfl, iv.2, hF⟩⟩
    · rw [if_neg (show ¬ nI i < nI len by rw [pn_lt (by omega) (by omega)]; exact hlt)]
      have ei : i = len := by omega
      subst ei
      rw [Nat.sub_self] at hF
      have hF : (V, i) = rnf (wR W) f i 0 A := hF
      rw [← hF]
      exact hit_some ⟨rfl, hMV, hTr⟩
end run33
theorem rnf_Inv {R : Nat → Nat} {f : Nat → Int32} (h8 : R8 R) : ∀ (n i : Nat) (A : Hp) (b : Nat), Inv R b A → b + n < 999999 → Inv R (b + n) (rnf R f n i A).1
  | 0, i, A, b, h, _ => h
  | n + 1, i, A, b, h, hb => by
    unfold rnf
    have iv : IvA R (b + 1) (rtV R f i A) := i_does h h8 (by omega) _ _ _ _ _
    generalize rtV R f i A = q at iv ⊢
    rcases q with why | ⟨c, lg, B⟩
    · rw [if_pos (show isRf (.inl why) = true from rfl)]; exact h.mono (by omega)
    · rw [if_neg (show ¬ isRf (.inr (c, lg, B)) = true from Bool.false_ne_true)]
      exact (rnf_Inv h8 n (i + 1) B (b + 1) iv.2 (by omega)).mono (by omega)
theorem InvW.r8 {b : Nat} {W : Wd} (h : InvW b W) (hh : ¬ wh W = false) : R8 (wR W) := by
  obtain ⟨r0, r1, r2, r3, r8⟩ := h.2.2.2.1
  exact ⟨r0, r1, r2, r3, r8 (by cases hw : wh W with
    | true => rfl
    | false => exact absurd hw hh)⟩
/-- the class's copy for a trial -/
theorem c_trial {σ : rS} {W : Wd} {b : Nat} (hC : CW σ W) (hI : InvW b W) : hit (fX7_copyFrom 2 0 σ) (fun _ s => CS s 2 (wS W) ∧ TrC σ s) := by
  refine hit_mono (hit_fk (fkX7_copyFrom 2 0 σ) (hit_fr (frX7_copyFrom 2 0 σ) (c_copy hI.ok (by decide) hC.S))) ?_
  rintro r s ⟨k, f, h⟩
  exact ⟨h, TrC_copy k f⟩
theorem m_trial {τ : rS} {W : Wd} {b : Nat} (hM : MW τ W) (hI : InvW b W) : hit (fX10_copyRow 66 0 1554 0 66 1 1554 0 τ) (fun _ s => MR (s 66 1) (wS W).1 ∧ TrM τ s) := by
  refine hit_mono (m_copyRow (τ := τ) (c0 := 66) (k0 := 0) (n0 := 1554) (a := 0) (c2 := 66) (k2 := 1) (n2 := 1554) (b := 0) (by omega) (by omega) (by omega) (by omega) (by decide)) ?_
  rintro r s ⟨c1, -, f1⟩
  have hbd := hI.1.1.bd hI.2.2.2.1.2.2.1
  exact ⟨hM.1.1.congr hI.ok hbd.1 hbd.2.1 hbd.2.2 (fun i hi => by
    have := c1 i (by omega)
    rw [Nat.zero_add] at this
    exact this), TrM_copy f1⟩
def runA (y : Int32) (len : Nat) (F : Hp × Nat) : Int32 := if y = 1 then nI (usedA F.1 0) + nI (usedA F.1 1) + nI (usedA F.1 2) else if nI F.2 = nI len then -1 else nI F.2
theorem pl_33 {xs : Nat → Int32} {n : Nat} {σ : rS} {W : Wd} (hn : n < 512) (hC : CW σ W) (hM : MW σ W) (hI : InvW (40 * n) W) : PL_33 xs n σ (IW (n + 1)) := by
  unfold PL_33
  generalize xs (6 * n + 1) = x
  generalize xs (6 * n + 2) = y
  have hl4 := hI.2.2.2.2.2.2.1
  have e1 : (1 : Int64) = (nI 1).toInt64 := by decide
  by_cases hh : wh W = false
  · refine pl_q (fc := fun σ => fX9_run x y σ) (fm := fun σ => fX10_run x y σ) hC hM hI (a := -1000000) (by unfold fX9_run; rw [hC.hif, if_pos hh]) (fun s hs => ?_)
    unfold fX10_run
    rw [st_eq, m_isScript (hs.t0 0) hI, bd_some]
    rcases inB_cases x (b := (wC W).length) (by omega) with ⟨i, h, rfl, e⟩ | ⟨e, -⟩
    · rw [e]
      dsimp only
      rw [if_neg one_ne, (hs.t0 0).hif, if_pos hh]
    · rw [e, if_pos rfl]
  · rcases inB_cases x (b := (wC W).length) (by omega) with ⟨k, h, rfl, e⟩ | ⟨e, -⟩
    · rcases inB_cases y (b := 2) (by omega) with ⟨q, hq, rfl, ey⟩ | ⟨ey, hy⟩
      · have hS := SCk_of hI h
        have h16 : ((wC W).getD k noC).1 ≤ 16 := hS.2.2.1
        have h8 := hI.r8 hh
        generalize ((wC W).getD k noC).1 = len at hS h16
        generalize ((wC W).getD k noC).2 = f at hS
        have hg := hS.2.1
        have iF := rnf_Inv (f := f) h8 len 0 (wS W).1 (40 * n) hI.1.1 (by omega)
        refine pl_w (fc := fun σ => fX9_run (nI k) (nI q) σ) (fm := fun σ => fX10_run (nI k) (nI q) σ) (a := runA (nI q) len (rnf (wR W) f len 0 (wS W).1)) hM hI (frX9_run _ _ _) (isC_of (by decide)) (fun s => frX10_run _ _ s) (isM_of (by decide)) ?_ (fun s hs => ?_)
        · show hit (fX9_run (nI k) (nI q) σ) _
          unfold fX9_run fX9_runOnTrial
          rw [hC.hif, if_neg hh, c_isScript hC hI, bd_some, e]
          dsimp only
          have c21 : σ 21 0 k = nI len := by have := (hC.ci h).1; rw [hg] at this; exact this
          rw [if_neg one_ne, if_neg (by rw [pn_neg (by omega)]; exact id), if_neg (show ¬ (1 : Int32) < nI q by rw [show (1 : Int32) = nI 1 from rfl, pn_lt (by omega) (by omega)]; omega), pn_bnd (by omega) (by omega), pn_bnd (by omega) (by omega), ix_nI (by omega), c21]
          refine bd_hit (bd_hit (hit_mono (c_trial hC hI) ?_))
          rintro r1 s1 ⟨hS1, t1⟩
          refine bd_hit (hit_mono (c_runL (A := (wS W).1) (L := (wS W).2) hS (hC.tr t1) hS1 hI hI.1.1 h8 (by omega)) ?_)
          rintro r2 s2 ⟨hr, ⟨L', hS2⟩, t2⟩
          have hCW := (hC.tr t1).tr t2
          have c21' : s2 21 0 k = nI len := by rw [t2.1 21 (by decide), t1.1 21 (by decide)]; exact c21
          have fin : ∀ v : Int32, v = nI (rnf (wR W) f len 0 (wS W).1).2 → hit (if nI q = 1 then (bd (fX7_cellsInUse 2 s2) (fun r6 σ7 => some (r6, σ7))) else (bnd (nI k) 4 (if v = (s2 21 0 k) then (some ((-1 : Int32), s2)) else (some (v, s2))))) (fun r s => r = runA (nI q) len (rnf (wR W) f len 0 (wS W).1) ∧ CW s W) := fun v hv => by
            unfold runA
            by_cases q1 : nI q = 1
            · rw [if_pos q1, if_pos q1, c_cellsInUse hS2.1, bd_some]
              exact hit_some ⟨rfl, hCW⟩
            · rw [if_neg q1, if_neg q1, pn_bnd (by omega) (by omega), c21', hv]
              by_cases ev : nI (rnf (wR W) f len 0 (wS W).1).2 = nI len
              · rw [if_pos ev, if_pos ev]; exact hit_some ⟨rfl, hCW⟩
              · rw [if_neg ev, if_neg ev]; exact hit_some ⟨rfl, hCW⟩
          rcases r2 with v | u
          · exact hit_some (fin v hr)
          · exact hit_some (fin (nI len) hr)
        · show hit (fX10_run (nI k) (nI q) s) _
          have hs0 := hs.t0 0
          have h11 : ¬ wr s 10 0 0 0 10 0 11 = 0 := by
            rw [show wr s 10 0 0 0 10 0 11 = bI (wh W) from hs0.2.2.2.2.1]
            cases hw : wh W with
            | true => decide
            | false => exact absurd hw hh
          unfold fX10_run
          rw [st_eq, m_isScript hs0 hI, bd_some, e]
          dsimp only
          rw [if_neg one_ne, hs0.hif, if_neg hh, e1, m_in (nI q) (by omega), bd_some, ey]
          dsimp only
          rw [if_neg one_ne]
          refine bd_hit (hit_mono (m_trial hs0 hI) ?_)
          rintro r1 s1 ⟨hR1, t1⟩
          have h11s : ¬ s1 10 0 11 = 0 := by rw [t1.2.2.2 11 (by unfold KT; omega)]; exact h11
          refine bd_hit (hit_mono (m_runL (y := nI q) hS (hs0.tr t1) h11s hR1 hI hI.1.1 h8 (by omega)) ?_)
          rintro r2 s2 ⟨rfl, hR2, t2⟩
          have hMW := (hs0.tr t1).tr t2
          have c65 : s2 65 0 k = nI len := by have := (hMW.ci h).1; rw [hg] at this; exact this
          unfold fX10_run_j150 runA
          by_cases q1 : nI q = 1
          · rw [if_pos q1, if_pos q1, m_cells iF.ok hR2, bd_some]
            exact hit_some ⟨rfl, hMW⟩
          · rw [if_neg q1, if_neg q1, pn_bnd (by omega) (by omega), ix_nI (by omega), c65]
            by_cases ev : nI (rnf (wR W) f len 0 (wS W).1).2 = nI len
            · rw [if_pos ev, if_pos ev]; exact hit_some ⟨rfl, hMW⟩
            · rw [if_neg ev, if_neg ev]; exact hit_some ⟨rfl, hMW⟩
      · refine pl_q (fc := fun σ => fX9_run (nI k) y σ) (fm := fun σ => fX10_run (nI k) y σ) hC hM hI (a := -1000000) ?_ (fun s hs => ?_)
        · show fX9_run (nI k) y σ = _
          unfold fX9_run
          rw [hC.hif, if_neg hh, c_isScript hC hI, bd_some, e]
          dsimp only
          rw [if_neg one_ne]
          rcases hy with hy | ⟨g, g1, g2, rfl⟩
          · rw [if_pos hy]
          · rw [if_neg (by rw [pn_neg (by omega)]; exact id), if_pos (show (1 : Int32) < nI g by rw [show (1 : Int32) = nI 1 from rfl, pn_lt (by omega) (by omega)]; omega)]
        · show fX10_run (nI k) y s = _
          unfold fX10_run
          rw [st_eq, m_isScript (hs.t0 0) hI, bd_some, e]
          dsimp only
          rw [if_neg one_ne, (hs.t0 0).hif, if_neg hh, e1, m_in y (by omega), bd_some, ey, if_pos rfl]
    · exact pl_q (fc := fun σ => fX9_run x y σ) (fm := fun σ => fX10_run x y σ) hC hM hI (a := -1000000) (by unfold fX9_run; rw [hC.hif, if_neg hh, c_isScript hC hI, bd_some, e, if_pos rfl]) (fun s hs => by
        unfold fX10_run
        rw [st_eq, m_isScript (hs.t0 0) hI, bd_some, e, if_pos rfl])
