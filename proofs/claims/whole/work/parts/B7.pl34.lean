/-! call 34: a script on the heap as it is -/
noncomputable def stV (f : Nat → Int32) (i : Nat) (W : Wd) : AR := actV W (ix (f (5 * i))) (f (5 * i + 1)) (f (5 * i + 2)) (f (5 * i + 3)) (f (5 * i + 4))
def isRf (q : AR) : Bool := match q with
  | .inl _ => true
  | .inr _ => false
noncomputable def prf (f : Nat → Int32) : Nat → Nat → Wd → Wd × Nat
  | 0, i, W => (W, i)
  | n + 1, i, W => if isRf (stV f i W) = true then (W, i) else prf f n (i + 1) (actW false W (ix (f (5 * i))) (stV f i W))
theorem actW_wC {W : Wd} {t : Nat} {q : AR} {c : Bool} : wC (actW c W t q) = wC W := by
  rcases q with why | ⟨a, b, B⟩
  · unfold actW
    dsimp only
    cases c with
    | true => rw [if_pos rfl]; rfl
    | false => rw [if_neg (by decide)]
  · rfl
section perf
variable {W : Wd} {b : Nat} {f : Nat → Int32} {len k : Nat}
/-- script k of W: its length and its cells -/
def SCk (W : Wd) (k len : Nat) (f : Nat → Int32) : Prop := k < (wC W).length ∧ (wC W).getD k noC = (len, f) ∧ len ≤ 16 ∧ k < 4 ∧ ∀ i, i < len → ∃ t, t ≤ 6 ∧ f (5 * i) = nI t
theorem SCk_of (hI : InvW b W) (hk : k < (wC W).length) : SCk W k ((wC W).getD k noC).1 ((wC W).getD k noC).2 := by
  obtain ⟨h1, h2⟩ := hI.2.2.2.2.2.2
  have hm : (wC W).getD k noC ∈ wC W := by
    rw [List.getD_eq_getElem?_getD, List.getElem?_eq_getElem hk]; exact List.getElem_mem hk
  obtain ⟨a, b', c⟩ := h2 _ hm
  exact ⟨hk, rfl, b', by omega, c⟩
theorem stV_Iv (hI : InvW b W) (hb : b + 1 < 1000000) (i : Nat) : IvA (wR W) (b + 1) (stV f i W) := actV_Iv hI hI.h8 hb _ _ _ _ _
theorem prf_Inv : ∀ (n i : Nat) (W : Wd) (b : Nat), InvW b W → b + n < 999999 → InvW (b + n) (prf f n i W).1
  | 0, i, W, b, h, _ => h
  | n + 1, i, W, b, h, hb => by
    unfold prf
    by_cases c : isRf (stV f i W) = true
    · rw [if_pos c]; exact h.mono (by omega)
    · rw [if_neg c]
      have h1 : InvW (b + 1) (actW false W (ix (f (5 * i))) (stV f i W)) := actW_Inv h h.h8 (by omega) false _ _ _ _ _
      have := prf_Inv n (i + 1) _ (b + 1) h1 (by omega)
      exact this.mono (by omega)
theorem c_perf {σ : rS} (hS : SCk W k len f) (hC : CW σ W) (hI : InvW b W) (hb : b + 16 < 999998) : hit (lp (fun (x : Int32) σ => fX9_perform_L34 k (nI len) x σ) fu 0 σ) (fun e s => (match e with
    | .inl v => v = nI (prf f len 0 W).2
    | .inr _ => nI len = nI (prf f len 0 W).2) ∧ CW s (prf f len 0 W).1) := by
  obtain ⟨hk, hg, h16, hk4, hT⟩ := hS
  refine lp_go (I := fun m x s => ∃ i V, i ≤ len ∧ m = len - i ∧ x = nI i ∧ CW s V ∧ InvW (b + i) V ∧ wC V = wC W ∧ prf f (len - i) i V = prf f len 0 W) ?_ fu len 0 σ (fu_lt (by omega)) ⟨0, W, by omega, by omega, rfl, hC, hI, rfl, rfl⟩
  rintro m x s ⟨i, V, hi, rfl, rfl, hCV, hIV, hwC, hF⟩
  unfold fX9_perform_L34
  by_cases hlt : i < len
  · rw [if_pos (show nI i < nI len by rw [pn_lt (by omega) (by omega)]; exact hlt), show nI i * 5 = nI (5 * i) by rw [Nat.mul_comm]; exact (Int32.ofNat_mul i 5).symm, rd_eq]
    have c1 : nI (5 * i) + 1 = nI (5 * i + 1) := nI_add _ 1
    have c2 : nI (5 * i) + 2 = nI (5 * i + 2) := nI_add _ 2
    have c3 : nI (5 * i) + 3 = nI (5 * i + 3) := nI_add _ 3
    have c4 : nI (5 * i) + 4 = nI (5 * i + 4) := nI_add _ 4
    have ci := (hCV.ci (i := k) (by rw [hwC]; exact hk)).2
    rw [hwC, hg] at ci
    have ci : ∀ j, j < 5 * len → s 24 k j = f j := ci
    rw [c1, c2, c3, c4, pn_bnd (by omega) (by omega), pn_bnd (by omega) (by omega), pn_bnd (by omega) (by omega), pn_bnd (by omega) (by omega), pn_bnd (by omega) (by omega), ix_nI (by omega), ix_nI (by omega), ix_nI (by omega), ix_nI (by omega), ix_nI (by omega), ci _ (by omega), ci _ (by omega), ci _ (by omega), ci _ (by omega), ci _ (by omega)]
    obtain ⟨t, ht, et⟩ := hT i hlt
    have ext : ix (f (5 * i)) = t := by rw [et]; exact ix_nI (by omega)
    have iv := stV_Iv (f := f) hIV (by omega) i
    have iw : InvW (b + (i + 1)) (actW false V t (actV V t (f (5 * i + 1)) (f (5 * i + 2)) (f (5 * i + 3)) (f (5 * i + 4)))) := actW_Inv hIV hIV.h8 (by omega) false t _ _ _ _
    rw [et]
    refine bd_hit (hit_mono (c_act hCV hIV hIV.h8 (by omega) (t := t) (by omega) false (f (5 * i + 1)) (f (5 * i + 2)) (f (5 * i + 3)) (f (5 * i + 4))) ?_)
    rintro r s2 ⟨hr, hs2⟩
    have eq : actV V t (f (5 * i + 1)) (f (5 * i + 2)) (f (5 * i + 3)) (f (5 * i + 4)) = stV f i V := by unfold stV; rw [ext]
    rw [eq] at hr hs2 iw
    have hF' : prf f (len - i) i V = if isRf (stV f i V) = true then (V, i) else prf f (len - (i + 1)) (i + 1) (actW false V t (stV f i V)) := by
      rw [show len - i = len - (i + 1) + 1 by omega, ← ext]
      rfl
    rw [hF'] at hF
    rcases hq : stV f i V with why | ⟨c, lg, B⟩
    · rw [hq] at hr hs2 hF
      rw [if_pos (show isRf (.inl why) = true from rfl)] at hF
      rw [if_pos (show r < 0 by rw [hr]; exact (by decide : (-1 : Int32) < 0)), ← hF]
      exact hit_some ⟨rfl, hs2⟩
    · rw [hq] at hr hs2 hF iv iw
      rw [if_neg (show ¬ isRf (.inr (c, lg, B)) = true from Bool.false_ne_true)] at hF
      have hc0 : ¬ c < 0 := iv.1
      rw [if_neg (show ¬ r < 0 by rw [hr]; exact hc0), pn_add1]
      exact hit_some ⟨len - (i + 1), by omega, i + 1, _, by omega, rfl, rfl, hs2, iw, actW_wC.trans hwC, hF⟩
  · rw [if_neg (show ¬ nI i < nI len by rw [pn_lt (by omega) (by omega)]; exact hlt)]
    have ei : i = len := by omega
    subst ei
    rw [Nat.sub_self] at hF
    have hF : (V, i) = prf f i 0 W := hF
    rw [← hF]
    exact hit_some ⟨rfl, hCV⟩
theorem m_perf {σ : rS} (hS : SCk W k len f) (hM : MW σ W) (hI : InvW b W) (hb : b + 16 < 999998) : hit (lp (fun (x : (Int32 × Int32)) σ => fX10_perform_L26 (nI k) x.1 x.2 σ) fu (0, 1) σ) (fun e s => e = nI (prf f len 0 W).2 ∧ MW s (prf f len 0 W).1) := by
  obtain ⟨hk, hg, h16, hk4, hT⟩ := hS
  refine lp_go (I := fun m x s => ∃ i V, i ≤ len ∧ MW s V ∧ ((x = (nI i, 0) ∧ m = 0 ∧ (V, i) = prf f len 0 W) ∨ (x = (nI i, 1) ∧ m = len - i + 1 ∧ InvW (b + i) V ∧ wC V = wC W ∧ prf f (len - i) i V = prf f len 0 W))) ?_ fu (len + 1) (0, 1) σ (fu_lt (by omega)) ⟨0, W, by omega, hM, Or.inr ⟨rfl, by omega, hI, rfl, rfl⟩⟩
  rintro m x s ⟨i, V, hi, hMV, ⟨rfl, rfl, hF⟩ | ⟨rfl, rfl, hIV, hwC, hF⟩⟩
  · unfold fX10_perform_L26
    rw [if_pos rfl]
    rw [← hF]
    exact hit_some ⟨rfl, hMV⟩
  · unfold fX10_perform_L26
    dsimp only
    have ci := hMV.ci (i := k) (by rw [hwC]; exact hk)
    rw [hwC, hg] at ci
    have c65 : s 65 0 k = nI len := ci.1
    have ci : ∀ j, j < 5 * len → s 64 0 (80 * k + j) = f j := ci.2
    rw [if_neg one_ne, pn_bnd (by omega) (by omega), ix_nI (by omega), c65]
    by_cases hlt : i < len
    · rw [if_pos (show nI i < nI len by rw [pn_lt (by omega) (by omega)]; exact hlt), show (5 : Int32) * (16 * nI k + nI i) = nI (80 * k + 5 * i) by
        rw [show (16 : Int32) * nI k = nI (16 * k) from (Int32.ofNat_mul 16 k).symm, nI_add, show (5 : Int32) * nI (16 * k + i) = nI (5 * (16 * k + i)) from (Int32.ofNat_mul 5 (16 * k + i)).symm]
        congr 1
        omega, rd_eq]
      have c1 : nI (80 * k + 5 * i) + 1 = nI (80 * k + (5 * i + 1)) := nI_add _ 1
      have c2 : nI (80 * k + 5 * i) + 2 = nI (80 * k + (5 * i + 2)) := nI_add _ 2
      have c3 : nI (80 * k + 5 * i) + 3 = nI (80 * k + (5 * i + 3)) := nI_add _ 3
      have c4 : nI (80 * k + 5 * i) + 4 = nI (80 * k + (5 * i + 4)) := nI_add _ 4
      rw [c1, c2, c3, c4, pn_bnd (by omega) (by omega), pn_bnd (by omega) (by omega), pn_bnd (by omega) (by omega), pn_bnd (by omega) (by omega), pn_bnd (by omega) (by omega), ix_nI (by omega), ix_nI (by omega), ix_nI (by omega), ix_nI (by omega), ix_nI (by omega), ci _ (by omega), ci _ (by omega), ci _ (by omega), ci _ (by omega), ci _ (by omega)]
      obtain ⟨t, ht, et⟩ := hT i hlt
      have ext : ix (f (5 * i)) = t := by rw [et]; exact ix_nI (by omega)
      have iv := stV_Iv (f := f) hIV (by omega) i
      have iw : InvW (b + (i + 1)) (actW false V t (actV V t (f (5 * i + 1)) (f (5 * i + 2)) (f (5 * i + 3)) (f (5 * i + 4)))) := actW_Inv hIV hIV.h8 (by omega) false t _ _ _ _
      rw [et]
      refine bd_hit (hit_mono (m_tries hMV hIV hIV.h8 (by omega) (t := t) (by omega) (f (5 * i + 1)) (f (5 * i + 2)) (f (5 * i + 3)) (f (5 * i + 4))) ?_)
      rintro r s2 ⟨hr, hs2⟩
      have eq : actV V t (f (5 * i + 1)) (f (5 * i + 2)) (f (5 * i + 3)) (f (5 * i + 4)) = stV f i V := by unfold stV; rw [ext]
      rw [eq] at hr hs2 iw
      have hF' : prf f (len - i) i V = if isRf (stV f i V) = true then (V, i) else prf f (len - (i + 1)) (i + 1) (actW false V t (stV f i V)) := by
        rw [show len - i = len - (i + 1) + 1 by omega, ← ext]
        rfl
      rw [hF'] at hF
      unfold fX10_perform_j106L26 fX10_perform_j114L26
      rcases hq : stV f i V with why | ⟨c, lg, B⟩
      · rw [hq] at hr hs2 hF iv
        rw [if_pos (show isRf (.inl why) = true from rfl)] at hF
        have iv' : why < 4 := iv
        have hr : r = nI why := hr
        rw [if_neg (show ¬ r = -1 by rw [hr, pn_m1 (by omega)]; exact id), if_pos rfl]
        exact hit_some ⟨0, by omega, i, V, hi, hs2, Or.inl ⟨rfl, rfl, hF⟩⟩
      · rw [hq] at hr hs2 hF iv iw
        rw [if_neg (show ¬ isRf (.inr (c, lg, B)) = true from Bool.false_ne_true)] at hF
        rw [if_pos (show r = -1 from hr.1), if_neg one_ne, pn_add1]
        exact hit_some ⟨len - (i + 1) + 1, by omega, i + 1, _, by omega, hs2, Or.inr ⟨rfl, rfl, iw, actW_wC.trans hwC, hF⟩⟩
    · rw [if_neg (show ¬ nI i < nI len by rw [pn_lt (by omega) (by omega)]; exact hlt)]
      have ei : i = len := by omega
      subst ei
      rw [Nat.sub_self] at hF
      have hF : (V, i) = prf f i 0 W := hF
      rw [← hF]
      exact hit_some ⟨rfl, hMV⟩
end perf
theorem frX9_perform (x1 : Int32) (σ : rS) : FR VA σ (fX9_perform x1 σ) := by
  unfold fX9_perform
  refine FR_ite FR_some (FR_bd (frX9_isScript _ _) (by decide) (fun _ _ => FR_ite FR_some (FR_bnd (FR_bnd (FR_rd (fun _ => FR_bd (FR_lp (W := VA) (fun x σ => ?_) _ _ _) (fun _ h => h) (fun e _ => ?_)))))))
  · unfold fX9_perform_L34
    exact FR_ite (FR_rd (fun _ => FR_bnd (FR_bnd (FR_bnd (FR_bnd (FR_bnd (FR_bd (frX9_act _ _ _ _ _ _ _) (fun _ h => h) (fun _ _ => FR_ite FR_some FR_some)))))))) FR_some
  · cases e <;> exact FR_some
theorem pl_34 {xs : Nat → Int32} {n : Nat} {σ : rS} {W : Wd} (hn : n < 512) (hC : CW σ W) (hM : MW σ W) (hI : InvW (40 * n) W) : PL_34 xs n σ (IW (n + 1)) := by
  unfold PL_34
  generalize xs (6 * n + 1) = y
  have hl4 := hI.2.2.2.2.2.2.1
  by_cases hh : wh W = false
  · refine pl_q (fc := fun σ => fX9_perform y σ) (fm := fun σ => fX10_perform y σ) hC hM hI (a := -1) (by unfold fX9_perform; rw [hC.hif, if_pos hh]) (fun s hs => ?_)
    unfold fX10_perform
    rw [st_eq, m_isScript (hs.t0 0) hI, bd_some]
    rcases inB_cases y (b := (wC W).length) (by omega) with ⟨i, h, rfl, e⟩ | ⟨e, -⟩
    · rw [e]
      dsimp only
      rw [if_neg one_ne, (hs.t0 0).hif, if_pos hh]
    · rw [e, if_pos rfl]
  · rcases inB_cases y (b := (wC W).length) (by omega) with ⟨k, h, rfl, e⟩ | ⟨e, -⟩
    · have hS := SCk_of hI h
      have hS' := hS
      have h16 : ((wC W).getD k noC).1 ≤ 16 := hS.2.2.1
      generalize ((wC W).getD k noC).1 = len at hS h16
      generalize ((wC W).getD k noC).2 = f at hS
      have hg := hS.2.1
      refine pl_mk (fc := fun σ => fX9_perform (nI k) σ) (fm := fun σ => fX10_perform (nI k) σ) (W' := (prf f len 0 W).1) (a := nI (prf f len 0 W).2) hM ?_ (frX9_perform _ _) (isC_of (by decide)) (fun s hs => ?_) (fun s => frX10_perform _ s) (isM_of (by decide)) ((prf_Inv len 0 W _ hI (by omega)).mono (by omega))
      · show hit (fX9_perform (nI k) σ) _
        unfold fX9_perform
        rw [hC.hif, if_neg hh, c_isScript hC hI, bd_some, e]
        dsimp only
        have c21 : σ 21 0 k = nI len := by have := (hC.ci h).1; rw [hg] at this; exact this
        rw [if_neg one_ne, pn_bnd (by omega) (by omega), pn_bnd (by omega) (by omega), ix_nI (by omega), c21, rd_eq]
        refine bd_hit (hit_mono (c_perf hS hC hI (by omega)) ?_)
        rintro r s ⟨h1, h2⟩
        rcases r with v | u
        · exact hit_some ⟨h1, h2⟩
        · exact hit_some ⟨h1, h2⟩
      · show hit (fX10_perform (nI k) s) _
        unfold fX10_perform
        rw [st_eq, m_isScript (hs.t0 0) hI, bd_some, e]
        dsimp only
        rw [if_neg one_ne, (hs.t0 0).hif, if_neg hh]
        refine bd_hit (hit_mono (m_perf hS (hs.t0 0) hI (by omega)) ?_)
        rintro r s2 ⟨h1, h2⟩
        exact hit_some ⟨h1, h2⟩
    · exact pl_q (fc := fun σ => fX9_perform y σ) (fm := fun σ => fX10_perform y σ) hC hM hI (a := -1) (by unfold fX9_perform; rw [hC.hif, if_neg hh, c_isScript hC hI, bd_some, e, if_pos rfl]) (fun s hs => by
        unfold fX10_perform
        rw [st_eq, m_isScript (hs.t0 0) hI, bd_some, e, if_pos rfl])
