/-! calls 9 to 16: the acts -/
abbrev VA : List Nat := [1, 3, 4, 5, 7, 22, 28, 29, 30, 31, 32, 33, 34, 37, 38, 39, 40, 41, 42, 43, 44, 45, 46, 47, 48, 49, 50, 51, 52, 53, 54, 55]
theorem frX5_prepare (k1 : Nat) (σ : rS) : FR VA σ (fX5_prepare k1 σ) := by
  unfold fX5_prepare
  refine FR_bnd (FR_ite ?_ ?_)
  · refine FR_to (σ1 := wr (newS σ (4 + ix (σ 5 0 1))) 29 0 (ix (σ 5 0 1)) 1) (fun c hc => ?_) (FR_bd (frX7_copyFrom _ _ _) (by decide) (fun _ _ => FR_some))
    have h1 : ¬ (c = 29 ∨ c = 7 ∨ c = 4 ∨ c = 28 ∨ (45 ≤ c ∧ c < 56)) := fun h => hc (by
      rcases h with h | h | h | h | ⟨h1, h2⟩
      · subst h; decide
      · subst h; decide
      · subst h; decide
      · subst h; decide
      · have : ∀ q, 45 ≤ q → q < 56 → q ∈ VA := by
          intro q a b
          rcases (by omega : q = 45 ∨ q = 46 ∨ q = 47 ∨ q = 48 ∨ q = 49 ∨ q = 50 ∨ q = 51 ∨ q = 52 ∨ q = 53 ∨ q = 54 ∨ q = 55) with h | h | h | h | h | h | h | h | h | h | h <;> subst h <;> decide
        exact this c h1 h2)
    rw [wr_c (by omega), newS_c (by omega)]
  · exact FR_bd (frX7_copyFrom _ _ _) (by decide) (fun _ _ => FR_some)
theorem frX9_act (x1 x2 x3 x4 x5 x6 : Int32) (σ : rS) : FR VA σ (fX9_act x1 x2 x3 x4 x5 x6 σ) := by
  unfold fX9_act
  exact FR_ite (FR_sub (frX9_act_j41 _ _ _) (by decide)) (FR_bd (frX5_prepare _ _) (fun _ h => h) (fun _ _ => FR_bd (frX0_apply _ _ _ _ _ _ _) (by decide) (fun _ _ => FR_sub (frX9_act_j41 _ _ _) (by decide))))
theorem hit_id' {o : Option (Int32 × rS)} {K : Int32 → rS → Prop} (h : hit o K) : hit (bd o (fun r s => some (r, s))) K := hit_id h
theorem FR_id {W : List Nat} {σ : rS} {o : Option (Int32 × rS)} (h : FR W σ o) : FR W σ (bd o (fun r s => some (r, s))) := FR_bd h (fun _ h => h) (fun _ _ => FR_some)
theorem pl_act {n : Nat} {σ : rS} {W : Wd} (hn : n < 512) (hC : CW σ W) (hM : MW σ W) (hI : InvW (40 * n) W) (h8 : wh W = true → 8 ≤ wR W 0) {t : Nat} (ht : t ≤ 7) (x y z d x' y' z' d' : Int32) (he : actV W t x' y' z' d' = actV W t x y z d) : ∃ r σ1 σ2, bd (fX9_act (nI t) x y z d 1 σ) (fun r1 σ2 => some (r1, σ2)) = some (r, σ1) ∧ bd (fX10_act (nI t) x' y' z' d' σ1) (fun r1 σ2 => some (r1, σ2)) = some (r, σ2) ∧ IW (n + 1) σ2 := by
  refine pl_mk (fc := fun σ => bd (fX9_act (nI t) x y z d 1 σ) (fun r1 σ2 => some (r1, σ2))) (fm := fun σ => bd (fX10_act (nI t) x' y' z' d' σ) (fun r1 σ2 => some (r1, σ2))) (W' := actW true W t (actV W t x y z d)) (a := ansV (actV W t x y z d)) hM ?_ (FR_id (frX9_act _ _ _ _ _ _ _)) (isC_of (by decide)) (fun s hs => ?_) (fun s => FR_id (frX10_act _ _ _ _ _ s)) (isM_of (by decide)) ((actW_Inv hI h8 (by omega) true t x y z d).mono (by omega))
  · exact hit_id (c_act hC hI h8 (by omega) ht true x y z d)
  · have := m_act hs hI h8 (by omega) ht x' y' z' d'
    rw [he] at this
    exact hit_id this
theorem InvW.h8 {b : Nat} {W : Wd} (h : InvW b W) : wh W = true → 8 ≤ wR W 0 := h.2.2.2.1.2.2.2.2
section pls
variable {xs : Nat → Int32} {n : Nat} {σ : rS} {W : Wd}
theorem pl_9 (hn : n < 512) (hC : CW σ W) (hM : MW σ W) (hI : InvW (40 * n) W) : PL_9 xs n σ (IW (n + 1)) := pl_act hn hC hM hI hI.h8 (t := 0) (by omega) _ _ _ _ _ _ _ _ rfl
theorem pl_10 (hn : n < 512) (hC : CW σ W) (hM : MW σ W) (hI : InvW (40 * n) W) : PL_10 xs n σ (IW (n + 1)) := pl_act hn hC hM hI hI.h8 (t := 1) (by omega) _ _ _ _ _ _ _ _ rfl
theorem pl_11 (hn : n < 512) (hC : CW σ W) (hM : MW σ W) (hI : InvW (40 * n) W) : PL_11 xs n σ (IW (n + 1)) := pl_act hn hC hM hI hI.h8 (t := 2) (by omega) _ _ _ _ _ _ _ _ rfl
theorem pl_12 (hn : n < 512) (hC : CW σ W) (hM : MW σ W) (hI : InvW (40 * n) W) : PL_12 xs n σ (IW (n + 1)) := pl_act hn hC hM hI hI.h8 (t := 3) (by omega) _ _ _ _ _ _ _ _ rfl
theorem pl_13 (hn : n < 512) (hC : CW σ W) (hM : MW σ W) (hI : InvW (40 * n) W) : PL_13 xs n σ (IW (n + 1)) := pl_act hn hC hM hI hI.h8 (t := 4) (by omega) _ _ _ _ _ _ _ _ rfl
theorem pl_14 (hn : n < 512) (hC : CW σ W) (hM : MW σ W) (hI : InvW (40 * n) W) : PL_14 xs n σ (IW (n + 1)) := pl_act hn hC hM hI hI.h8 (t := 5) (by omega) _ _ _ _ _ _ _ _ rfl
theorem pl_15 (hn : n < 512) (hC : CW σ W) (hM : MW σ W) (hI : InvW (40 * n) W) : PL_15 xs n σ (IW (n + 1)) := pl_act hn hC hM hI hI.h8 (t := 6) (by omega) _ _ _ _ _ _ _ _ rfl
theorem pl_16 (hn : n < 512) (hC : CW σ W) (hM : MW σ W) (hI : InvW (40 * n) W) : PL_16 xs n σ (IW (n + 1)) := pl_act hn hC hM hI hI.h8 (t := 7) (by omega) _ _ _ _ _ _ _ _ rfl
end pls
