theorem mw_598 : Cond.code yX5_prepare cX5_prepare 2 none ∈ TT := TT_mem (List.mem_append_right _ (List.mem_of_getElem? (i := 598) (by decide +kernel))) rfl
theorem mw_596 : Cond.instanceMethod yX5_prepare ∈ TT := TT_mem (List.mem_append_right _ (List.mem_of_getElem? (i := 596) (by decide +kernel))) rfl
theorem mw_597 : Cond.selects yX5_prepare.cls yX5_prepare yX5_prepare ∈ TT := TT_mem (List.mem_append_right _ (List.mem_of_getElem? (i := 597) (by decide +kernel))) rfl
theorem okX5_prepare : CokV yX5_prepare cX5_prepare 2 none 1 5 := ⟨⟨mw_598, mw_8, by decide +kernel⟩, mw_596, mw_597, ⟨_, rfl, rfl⟩⟩
theorem mw_595 : Cond.methodLink RX9 231 yX5_prepare ∈ TT := TT_mem (List.mem_append_right _ (List.mem_of_getElem? (i := 595) (by decide +kernel))) rfl
theorem mw_594 : Cond.code yX9_act cX9_act 9 (some .int) ∈ TT := TT_mem (List.mem_append_right _ (List.mem_of_getElem? (i := 594) (by decide +kernel))) rfl
theorem mw_593 : Cond.instanceMethod yX9_act ∈ TT := TT_mem (List.mem_append_right _ (List.mem_of_getElem? (i := 593) (by decide +kernel))) rfl
theorem okX9_act : CokV yX9_act cX9_act 9 (some .int) 6 9 := ⟨⟨mw_594, mw_1, by decide +kernel⟩, mw_593, (TT_mem (List.mem_append_left _ (List.mem_of_getElem? (i := 6) (by decide +kernel))) rfl), ⟨_, rfl, rfl⟩⟩
theorem mw_591 : Cond.methodLink RX9 201 yX9_act ∈ TT := TT_mem (List.mem_append_right _ (List.mem_of_getElem? (i := 591) (by decide +kernel))) rfl
noncomputable def fX9_act_j41 (x6 : Int32) (x7 : Int32) (σ : rS) : Option (Int32 × rS) := if x7 < 0 then (rd ((-1) - x7) (fun y1 => if x6 = 0 then (some ((-1), σ)) else (if y1 < 0 then (some ((-1), σ)) else (if y1 < 4 then (bnd y1 4 (bnd y1 4 (st (wr σ 22 0 (ix y1) ((σ 22 0 (ix y1)) + 1)) (fun σ2 => some ((-1), σ2))))) else (some ((-1), σ)))))) else (bd (fX5_keepPrepared  σ) (fun _ σ4 => some (x7, σ4)))
noncomputable def fX9_act (x1 : Int32) (x2 : Int32) (x3 : Int32) (x4 : Int32) (x5 : Int32) (x6 : Int32) (σ : rS) : Option (Int32 × rS) := if (σ 9 0 6) = 0 then (fX9_act_j41 x6 (-1) σ) else (bd (fX5_prepare 0 σ) (fun _ σ6 => bd (fX0_apply 0 x1 x2 x3 x4 x5 σ6) (fun r7 σ8 => fX9_act_j41 x6 r7 σ8)))
theorem frX9_act_j41 (x6 x7 : Int32) (σ : rS) : FR [5, 22] σ (fX9_act_j41 x6 x7 σ) := by
  unfold fX9_act_j41
  refine FR_ite ?_ ?_
  · refine FR_rd (fun y => ?_)
    refine FR_ite FR_some (FR_ite FR_some (FR_ite (FR_bnd (FR_bnd (FR_st (by decide) (fun _ => FR_some)))) FR_some))
  · exact FR_bd (frX5_keepPrepared _) (by decide) (fun _ _ => FR_some)
/-- the count of the ring's States doesn't fall -/
def MN {α : Type} (σ : rS) (o : Option (α × rS)) : Prop := ∀ (r : α) (s : rS), o = some (r, s) → cntF (σ 29 0) ≤ cntF (s 29 0)
theorem MN_fr {α : Type} {W : List Nat} {σ : rS} {o : Option (α × rS)} (h : FR W σ o) (hn : ¬ 29 ∈ W) : MN σ o := fun r s e => by
  rw [h r s e 29 hn]
  exact Nat.le_refl _
theorem MN_some {α : Type} {σ : rS} {r : α} : MN σ (some (r, σ)) := fun r' s h => by
  have := Option.some.inj h
  cases this
  exact Nat.le_refl _
theorem MN_none {α : Type} {σ : rS} : MN (α := α) σ none := fun r' s h => by cases h
theorem MN_ite {α : Type} {σ : rS} {c : Prop} [Decidable c] {x y : Option (α × rS)} (h1 : MN σ x) (h2 : MN σ y) : MN σ (if c then x else y) := by
  by_cases hc : c
  · rw [if_pos hc]; exact h1
  · rw [if_neg hc]; exact h2
theorem MN_bnd {α : Type} {σ : rS} {i : Int32} {n : Nat} {x : Option (α × rS)} (h : MN σ x) : MN σ (bnd i n x) := MN_ite MN_none h
theorem MN_bd {α β : Type} {σ : rS} {o : Option (α × rS)} {f : α → rS → Option (β × rS)} (h1 : MN σ o) (h : ∀ r σ1, MN σ1 (f r σ1)) : MN σ (bd o f) := by
  cases o with
  | none => exact MN_none
  | some q => exact fun r s e => Nat.le_trans (h1 q.1 q.2 rfl) (h q.1 q.2 r s e)
theorem MN_lp {L R : Type} {step : L → rS → Option ((L ⊕ R) × rS)} (h : ∀ x σ, MN σ (step x σ)) : ∀ (n : Nat) (x : L) (σ : rS), MN σ (lp step n x σ) := by
  intro n
  induction n with
  | zero => intro x σ; exact MN_none
  | succ n ih =>
    intro x σ
    refine MN_bd (h x σ) (fun q σ1 => ?_)
    cases q with
    | inl y => exact ih y σ1
    | inr r => exact MN_some
theorem mn_prepare (k1 : Nat) (σ : rS) : MN σ (fX5_prepare k1 σ) := fun r s h => by
  obtain ⟨-, ⟨-, -, h⟩ | ⟨-, h⟩⟩ := fl_prepare h
  · omega
  · rw [h]
    exact Nat.le_refl _
theorem mn_act (x1 x2 x3 x4 x5 x6 : Int32) (σ : rS) : MN σ (fX9_act x1 x2 x3 x4 x5 x6 σ) := by
  unfold fX9_act
  refine MN_ite (MN_fr (frX9_act_j41 _ _ _) (by decide)) (MN_bd (mn_prepare _ _) (fun _ _ => MN_bd (MN_fr (frX0_apply _ _ _ _ _ _ _) (by decide)) (fun _ _ => MN_fr (frX9_act_j41 _ _ _) (by decide))))
theorem hit_MN {α : Type} {σ : rS} {o : Option (α × rS)} {K : α → rS → Prop} {N : Nat} (h : hit o K) (hm : MN σ o) (hK : ∀ r s, K r s → cntF (s 29 0) ≤ N) : cntF (σ 29 0) ≤ N := by
  cases o with
  | none => exact h.elim
  | some q => exact Nat.le_trans (hm q.1 q.2 rfl) (hK _ _ h)
set_option maxRecDepth 100000 in
set_option maxHeartbeats 4000000 in
theorem rnX9_act_j41 {l : Launch} {Ω0 Ω : rO} (hW : WF Ω) (x6 : Int32) (x7 : Int32) (hL0 : oL Ω 9 0) (σ : rS) {r' : Int32} {σ' : rS} {kc ks mc ms : Nat} (hA : AOK Ω0 Ω σ' kc ks mc ms) (h : hit (fX9_act_j41 x6 x7 σ) (KE r' σ')) : RunG l Ω cX9_act RX9 9 (some .int) (rmA 6 183 mc ms) (rQAf Ω0 (some .int) r' σ' mc ms) kc ks 41 [some (rf Ω 9 0), none, none, none, none, none, some (.int x6), some (.int x7), none] [] σ := by
  unfold fX9_act_j41 at h
  refine R_iload (i := 7) dX9_act_41 rfl ?_
  refine R_if_lt (tgt := 56) dX9_act_43 (by decide) (fun hc => ?_) (fun hc => ?_)
  · have h := hit_t h hc
    refine R_iconst (v := (-1)) dX9_act_56 rfl ?_
    refine R_iload (i := 7) dX9_act_57 rfl ?_
    refine R_isub dX9_act_59 ?_
    refine R_topi h (fun y1 h => ?_)
    refine R_istore (lv2 := [some (rf Ω 9 0), none, none, none, none, none, some (.int x6), some (.int x7), some (.int y1)]) dX9_act_60 (by decide) rfl rfl ?_
    refine R_iload (i := 6) dX9_act_62 rfl ?_
    refine R_if_eq (tgt := 89) dX9_act_64 (by decide) (fun hc => ?_) (fun hc => ?_)
    · have h := hit_t h hc
      refine R_iconst (v := (-1)) dX9_act_89 rfl ?_
      exact A_iret hA dX9_act_90 rfl h
    · have h := hit_f h hc
      refine R_iload (i := 8) dX9_act_67 rfl ?_
      refine R_if_lt (tgt := 89) dX9_act_69 (by decide) (fun hc => ?_) (fun hc => ?_)
      · have h := hit_t h hc
        refine R_iconst (v := (-1)) dX9_act_89 rfl ?_
        exact A_iret hA dX9_act_90 rfl h
      · have h := hit_f h hc
        refine R_iload (i := 8) dX9_act_72 rfl ?_
        refine R_iconst (v := 4) dX9_act_74 rfl ?_
        refine R_icmp_ge (tgt := 89) dX9_act_75 (by decide) (fun hc => ?_) (fun hc => ?_)
        · have h := hit_f h hc
          refine R_iconst (v := (-1)) dX9_act_89 rfl ?_
          exact A_iret hA dX9_act_90 rfl h
        · have h := hit_t h hc
          refine R_aload_n (i := 0) dX9_act_78 rfl rfl ?_
          refine R_get foX9_82 hL0 (cE_9 Ω 0 _) rfl dX9_act_79 ?_
          refine R_iload (i := 8) dX9_act_82 rfl ?_
          refine R_dup2 dX9_act_84 rfl rfl ?_
          obtain ⟨hb, h⟩ := hit_bnd h
          refine R_iald (WF.kid hW 12 hL0 rfl) (cE_22 Ω 0 _) hb dX9_act_85 ?_
          refine R_iconst (v := 1) dX9_act_86 rfl ?_
          refine R_iadd dX9_act_87 ?_
          obtain ⟨hb, h⟩ := hit_bnd h
          refine R_iast (WF.kid hW 12 hL0 rfl) (cE_22 Ω 0) hb dX9_act_88 ?_
          refine R_st h (fun σ2 h => ?_)
          refine R_iconst (v := (-1)) dX9_act_89 rfl ?_
          exact A_iret hA dX9_act_90 rfl h
  · have h := hit_f h hc
    refine R_aload_n (i := 0) dX9_act_46 rfl rfl ?_
    refine R_get foX9_53 hL0 (cE_9 Ω 0 _) rfl dX9_act_47 ?_
    refine R_callVv (ctX5_keepPrepared l Ω (WF.kid hW 8 hL0 rfl) _ _ (hit_mono (hit_bd h) (fun r3 σ4 h => ?_))) okX5_keepPrepared mw_846 (WF.kid hW 8 hL0 rfl) (cE_5 Ω 0 _) rfl rfl (Nat.le_of_ble_eq_true rfl) rfl rfl ⟨Nat.le_of_ble_eq_true rfl, Nat.le_of_ble_eq_true rfl⟩ ⟨hA.2.2.1, hA.2.2.2⟩ dX9_act_50
    refine R_iload (i := 7) dX9_act_53 rfl ?_
    exact A_iret hA dX9_act_55 rfl h
set_option maxRecDepth 100000 in
set_option maxHeartbeats 4000000 in
theorem ctA_act (l : Launch) (Ω : rO) (x1 x2 x3 x4 x5 x6 : Int32) (hL0 : oL Ω 9 0) (σ : rS) (r' : Int32) (σ' : rS) (hO : WO Ω (σ 29 0)) (h : fX9_act x1 x2 x3 x4 x5 x6 σ = some (r', σ')) : CtA l Ω yX9_act cX9_act 9 (some .int) (rmA 6 183 (24 * (cntF (σ' 29 0) - cntF (σ 29 0))) (1310 * (cntF (σ' 29 0) - cntF (σ 29 0)))) [rf Ω 9 0, .int x1, .int x2, .int x3, .int x4, .int x5, .int x6] σ r' σ' (24 * (cntF (σ' 29 0) - cntF (σ 29 0))) (1310 * (cntF (σ' 29 0) - cntF (σ 29 0))) := by
  refine CtA.of (own := RX9) (lv := [some (rf Ω 9 0), some (.int x1), some (.int x2), some (.int x3), some (.int x4), some (.int x5), some (.int x6), none, none]) (by decide) rfl (Nat.le_of_ble_eq_true rfl) rfl (fun hW => ?_)
  have h := KE_hit h
  unfold fX9_act at h
  refine R_iconst (v := (-1)) dX9_act_0 rfl ?_
  refine R_istore (lv2 := [some (rf Ω 9 0), some (.int x1), some (.int x2), some (.int x3), some (.int x4), some (.int x5), some (.int x6), some (.int (-1)), none]) dX9_act_1 (by decide) rfl rfl ?_
  refine R_aload_n (i := 0) dX9_act_3 rfl rfl ?_
  refine R_get foX9_117 hL0 (cE_9 Ω 0 _) rfl dX9_act_4 ?_
  refine R_if_eq (tgt := 41) dX9_act_7 (by decide) (fun hc => ?_) (fun hc => ?_)
  · have h := hit_t h hc
    refine R_drop (lv2 := [some (rf Ω 9 0), none, some (.int x2), some (.int x3), some (.int x4), some (.int x5), some (.int x6), some (.int (-1)), none]) 1 rfl ?_
    refine R_drop (lv2 := [some (rf Ω 9 0), none, none, some (.int x3), some (.int x4), some (.int x5), some (.int x6), some (.int (-1)), none]) 2 rfl ?_
    refine R_drop (lv2 := [some (rf Ω 9 0), none, none, none, some (.int x4), some (.int x5), some (.int x6), some (.int (-1)), none]) 3 rfl ?_
    refine R_drop (lv2 := [some (rf Ω 9 0), none, none, none, none, some (.int x5), some (.int x6), some (.int (-1)), none]) 4 rfl ?_
    refine R_drop (lv2 := [some (rf Ω 9 0), none, none, none, none, none, some (.int x6), some (.int (-1)), none]) 5 rfl ?_
    have e29 : σ' 29 = σ 29 := frX9_act_j41 _ _ _ r' σ' (hit_KE h) 29 (by decide)
    exact rnX9_act_j41 hW x6 (-1) hL0 σ ⟨ExtN.rf Ω, by rw [e29]; exact hO, Nat.zero_le _, Nat.zero_le _⟩ h
  · have h := hit_f h hc
    refine R_aload_n (i := 0) dX9_act_10 rfl rfl ?_
    refine R_get foX9_53 hL0 (cE_9 Ω 0 _) rfl dX9_act_11 ?_
    refine R_aload_n (i := 0) dX9_act_14 rfl rfl ?_
    refine R_get foX9_40 hL0 (cE_9 Ω 0 _) rfl dX9_act_15 ?_
    obtain ⟨r5, σ6, e6, h⟩ := hit_bdE h
    have e29 : σ' 29 = σ6 29 := (FR_bd (W := [1, 3, 4, 5, 7, 22, 28, 30, 31, 32, 33, 34, 37, 38, 39, 40, 41, 42, 43, 44, 45, 46, 47, 48, 49, 50, 51, 52, 53, 54, 55]) (frX0_apply _ _ _ _ _ _ _) (by decide) (fun _ _ => FR_sub (frX9_act_j41 _ _ _) (by decide))) r' σ' (hit_KE h) 29 (by decide)
    refine A_callV (ctA_prepare l Ω 0 (WF.kid hW 8 hL0 rfl) (WF.kid hW 5 hL0 rfl) σ r5 σ6 hO e6) okX5_prepare mw_595 (WF.kid hW 8 hL0 rfl) (cE_5 Ω 0 _) rfl rfl (Nat.le_of_ble_eq_true rfl) rfl rfl ⟨Nat.le_of_ble_eq_true rfl, Nat.le_of_ble_eq_true rfl⟩ ⟨by rw [e29]; exact Nat.le_of_eq (Nat.zero_add _), by rw [e29]; exact Nat.le_of_eq (Nat.zero_add _)⟩ dX9_act_18 (fun Ω2 hE hO2 => ?_)
    have hA : AOK Ω Ω2 σ' (0 + 24 * (cntF (σ6 29 0) - cntF (σ 29 0))) (0 + 1310 * (cntF (σ6 29 0) - cntF (σ 29 0))) (24 * (cntF (σ' 29 0) - cntF (σ 29 0))) (1310 * (cntF (σ' 29 0) - cntF (σ 29 0))) := ⟨hE, by rw [e29]; exact hO2, by rw [e29]; exact Nat.le_of_eq (Nat.zero_add _), by rw [e29]; exact Nat.le_of_eq (Nat.zero_add _)⟩
    have hW2 := hO2.1
    have hL2 := hE.l hL0
    refine R_eq (lv2 := [some (rf Ω2 9 0), some (.int x1), some (.int x2), some (.int x3), some (.int x4), some (.int x5), some (.int x6), some (.int (-1)), none]) (st2 := []) (by simp only [rf, hE.a hL0]) rfl ?_
    refine R_aload_n (i := 0) dX9_act_21 rfl rfl ?_
    refine R_get foX9_78 hL2 (cE_9 Ω2 0 _) rfl dX9_act_22 ?_
    refine R_aload_n (i := 0) dX9_act_25 rfl rfl ?_
    refine R_get foX9_40 hL2 (cE_9 Ω2 0 _) rfl dX9_act_26 ?_
    refine R_iload_n (i := 1) dX9_act_29 rfl rfl ?_
    refine R_iload_n (i := 2) dX9_act_30 rfl rfl ?_
    refine R_iload_n (i := 3) dX9_act_31 rfl rfl ?_
    refine R_iload (i := 4) dX9_act_32 rfl ?_
    refine R_iload (i := 5) dX9_act_34 rfl ?_
    refine R_callVi (ctX0_apply l Ω2 0 x1 x2 x3 x4 x5 (WF.kid hW2 11 hL2 rfl) (WF.kid hW2 5 hL2 rfl) _ _ (hit_mono (hit_bd h) (fun r7 σ8 h => ?_))) okX0_apply mw_611 (WF.kid hW2 11 hL2 rfl) (cE_0 Ω2 0 _) rfl rfl (Nat.le_of_ble_eq_true rfl) rfl rfl ⟨Nat.le_of_ble_eq_true rfl, Nat.le_of_ble_eq_true rfl⟩ ⟨hA.2.2.1, hA.2.2.2⟩ dX9_act_36
    refine R_istore (lv2 := [some (rf Ω2 9 0), some (.int x1), some (.int x2), some (.int x3), some (.int x4), some (.int x5), some (.int x6), some (.int r7), none]) dX9_act_39 (by decide) rfl rfl ?_
    refine R_drop (lv2 := [some (rf Ω2 9 0), none, some (.int x2), some (.int x3), some (.int x4), some (.int x5), some (.int x6), some (.int r7), none]) 1 rfl ?_
    refine R_drop (lv2 := [some (rf Ω2 9 0), none, none, some (.int x3), some (.int x4), some (.int x5), some (.int x6), some (.int r7), none]) 2 rfl ?_
    refine R_drop (lv2 := [some (rf Ω2 9 0), none, none, none, some (.int x4), some (.int x5), some (.int x6), some (.int r7), none]) 3 rfl ?_
    refine R_drop (lv2 := [some (rf Ω2 9 0), none, none, none, none, some (.int x5), some (.int x6), some (.int r7), none]) 4 rfl ?_
    refine R_drop (lv2 := [some (rf Ω2 9 0), none, none, none, none, none, some (.int x6), some (.int r7), none]) 5 rfl ?_
    exact rnX9_act_j41 hW2 x6 r7 hL2 σ8 hA h
noncomputable def fX9_make (x1 : Int32) (x2 : Int32) (x3 : Int32) (x4 : Int32) (σ : rS) : Option (Int32 × rS) := bd (fX9_act 0 x1 x2 x3 x4 1 σ) (fun r1 σ2 => some (r1, σ2))
set_option maxRecDepth 100000 in
set_option maxHeartbeats 4000000 in
theorem ctA_make (l : Launch) (Ω : rO) (x1 : Int32) (x2 : Int32) (x3 : Int32) (x4 : Int32) (hL0 : oL Ω 9 0) (σ : rS) (r' : Int32) (σ' : rS) (hO : WO Ω (σ 29 0)) (h : fX9_make x1 x2 x3 x4 σ = some (r', σ')) : CtA l Ω yX9_make cX9_make 5 (some .int) (rmA 7 211 (24 * (cntF (σ' 29 0) - cntF (σ 29 0))) (1310 * (cntF (σ' 29 0) - cntF (σ 29 0)))) [rf Ω 9 0, .int x1, .int x2, .int x3, .int x4] σ r' σ' (24 * (cntF (σ' 29 0) - cntF (σ 29 0))) (1310 * (cntF (σ' 29 0) - cntF (σ 29 0))) := by
  refine CtA.of (own := RX9) (lv := [some (rf Ω 9 0), some (.int x1), some (.int x2), some (.int x3), some (.int x4)]) (by decide) rfl (Nat.le_of_ble_eq_true rfl) rfl (fun hW => ?_)
  have h := KE_hit h
  unfold fX9_make at h
  refine R_aload_n (i := 0) dX9_make_0 rfl rfl ?_
  refine R_iconst (v := 0) dX9_make_1 rfl ?_
  refine R_iload_n (i := 1) dX9_make_2 rfl rfl ?_
  refine R_iload_n (i := 2) dX9_make_3 rfl rfl ?_
  refine R_iload_n (i := 3) dX9_make_4 rfl rfl ?_
  refine R_iload (i := 4) dX9_make_5 rfl ?_
  refine R_iconst (v := 1) dX9_make_7 rfl ?_
  obtain ⟨r5, σ6, e6, h⟩ := hit_bdE h
  obtain ⟨rfl, rfl⟩ := h
  refine A_callV (ctA_act l Ω 0 x1 x2 x3 x4 1 hL0 σ _ _ hO e6) okX9_act mw_591 hL0 (cE_9 Ω 0 _) rfl rfl (Nat.le_of_ble_eq_true rfl) rfl rfl ⟨Nat.le_of_ble_eq_true rfl, Nat.le_of_ble_eq_true rfl⟩ ⟨Nat.le_of_eq (Nat.zero_add _), Nat.le_of_eq (Nat.zero_add _)⟩ dX9_make_8 (fun Ω2 hE hO2 => ?_)
  exact A_iret2 hE hO2 (Nat.le_of_eq (Nat.zero_add _)) (Nat.le_of_eq (Nat.zero_add _)) dX9_make_11 rfl ⟨rfl, rfl⟩
noncomputable def fX9_link (x1 : Int32) (x2 : Int32) (x3 : Int32) (σ : rS) : Option (Int32 × rS) := bd (fX9_act 1 x1 x2 x3 (-1) 1 σ) (fun r1 σ2 => some (r1, σ2))
set_option maxRecDepth 100000 in
set_option maxHeartbeats 4000000 in
theorem ctA_link (l : Launch) (Ω : rO) (x1 : Int32) (x2 : Int32) (x3 : Int32) (hL0 : oL Ω 9 0) (σ : rS) (r' : Int32) (σ' : rS) (hO : WO Ω (σ 29 0)) (h : fX9_link x1 x2 x3 σ = some (r', σ')) : CtA l Ω yX9_link cX9_link 4 (some .int) (rmA 7 211 (24 * (cntF (σ' 29 0) - cntF (σ 29 0))) (1310 * (cntF (σ' 29 0) - cntF (σ 29 0)))) [rf Ω 9 0, .int x1, .int x2, .int x3] σ r' σ' (24 * (cntF (σ' 29 0) - cntF (σ 29 0))) (1310 * (cntF (σ' 29 0) - cntF (σ 29 0))) := by
  refine CtA.of (own := RX9) (lv := [some (rf Ω 9 0), some (.int x1), some (.int x2), some (.int x3)]) (by decide) rfl (Nat.le_of_ble_eq_true rfl) rfl (fun hW => ?_)
  have h := KE_hit h
  unfold fX9_link at h
  refine R_aload_n (i := 0) dX9_link_0 rfl rfl ?_
  refine R_iconst (v := 1) dX9_link_1 rfl ?_
  refine R_iload_n (i := 1) dX9_link_2 rfl rfl ?_
  refine R_iload_n (i := 2) dX9_link_3 rfl rfl ?_
  refine R_iload_n (i := 3) dX9_link_4 rfl rfl ?_
  refine R_iconst (v := (-1)) dX9_link_5 rfl ?_
  refine R_iconst (v := 1) dX9_link_6 rfl ?_
  obtain ⟨r5, σ6, e6, h⟩ := hit_bdE h
  obtain ⟨rfl, rfl⟩ := h
  refine A_callV (ctA_act l Ω 1 x1 x2 x3 (-1) 1 hL0 σ _ _ hO e6) okX9_act mw_591 hL0 (cE_9 Ω 0 _) rfl rfl (Nat.le_of_ble_eq_true rfl) rfl rfl ⟨Nat.le_of_ble_eq_true rfl, Nat.le_of_ble_eq_true rfl⟩ ⟨Nat.le_of_eq (Nat.zero_add _), Nat.le_of_eq (Nat.zero_add _)⟩ dX9_link_7 (fun Ω2 hE hO2 => ?_)
  exact A_iret2 hE hO2 (Nat.le_of_eq (Nat.zero_add _)) (Nat.le_of_eq (Nat.zero_add _)) dX9_link_10 rfl ⟨rfl, rfl⟩
noncomputable def fX9_load (x1 : Int32) (x2 : Int32) (x3 : Int32) (σ : rS) : Option (Int32 × rS) := bd (fX9_act 2 x1 x2 x3 (-1) 1 σ) (fun r1 σ2 => some (r1, σ2))
set_option maxRecDepth 100000 in
set_option maxHeartbeats 4000000 in
theorem ctA_load (l : Launch) (Ω : rO) (x1 : Int32) (x2 : Int32) (x3 : Int32) (hL0 : oL Ω 9 0) (σ : rS) (r' : Int32) (σ' : rS) (hO : WO Ω (σ 29 0)) (h : fX9_load x1 x2 x3 σ = some (r', σ')) : CtA l Ω yX9_load cX9_load 4 (some .int) (rmA 7 211 (24 * (cntF (σ' 29 0) - cntF (σ 29 0))) (1310 * (cntF (σ' 29 0) - cntF (σ 29 0)))) [rf Ω 9 0, .int x1, .int x2, .int x3] σ r' σ' (24 * (cntF (σ' 29 0) - cntF (σ 29 0))) (1310 * (cntF (σ' 29 0) - cntF (σ 29 0))) := by
  refine CtA.of (own := RX9) (lv := [some (rf Ω 9 0), some (.int x1), some (.int x2), some (.int x3)]) (by decide) rfl (Nat.le_of_ble_eq_true rfl) rfl (fun hW => ?_)
  have h := KE_hit h
  unfold fX9_load at h
  refine R_aload_n (i := 0) dX9_load_0 rfl rfl ?_
  refine R_iconst (v := 2) dX9_load_1 rfl ?_
  refine R_iload_n (i := 1) dX9_load_2 rfl rfl ?_
  refine R_iload_n (i := 2) dX9_load_3 rfl rfl ?_
  refine R_iload_n (i := 3) dX9_load_4 rfl rfl ?_
  refine R_iconst (v := (-1)) dX9_load_5 rfl ?_
  refine R_iconst (v := 1) dX9_load_6 rfl ?_
  obtain ⟨r5, σ6, e6, h⟩ := hit_bdE h
  obtain ⟨rfl, rfl⟩ := h
  refine A_callV (ctA_act l Ω 2 x1 x2 x3 (-1) 1 hL0 σ _ _ hO e6) okX9_act mw_591 hL0 (cE_9 Ω 0 _) rfl rfl (Nat.le_of_ble_eq_true rfl) rfl rfl ⟨Nat.le_of_ble_eq_true rfl, Nat.le_of_ble_eq_true rfl⟩ ⟨Nat.le_of_eq (Nat.zero_add _), Nat.le_of_eq (Nat.zero_add _)⟩ dX9_load_7 (fun Ω2 hE hO2 => ?_)
  exact A_iret2 hE hO2 (Nat.le_of_eq (Nat.zero_add _)) (Nat.le_of_eq (Nat.zero_add _)) dX9_load_10 rfl ⟨rfl, rfl⟩
noncomputable def fX9_drop (x1 : Int32) (σ : rS) : Option (Int32 × rS) := bd (fX9_act 3 x1 (-1) (-1) (-1) 1 σ) (fun r1 σ2 => some (r1, σ2))
set_option maxRecDepth 100000 in
set_option maxHeartbeats 4000000 in
theorem ctA_drop (l : Launch) (Ω : rO) (x1 : Int32) (hL0 : oL Ω 9 0) (σ : rS) (r' : Int32) (σ' : rS) (hO : WO Ω (σ 29 0)) (h : fX9_drop x1 σ = some (r', σ')) : CtA l Ω yX9_drop cX9_drop 2 (some .int) (rmA 7 211 (24 * (cntF (σ' 29 0) - cntF (σ 29 0))) (1310 * (cntF (σ' 29 0) - cntF (σ 29 0)))) [rf Ω 9 0, .int x1] σ r' σ' (24 * (cntF (σ' 29 0) - cntF (σ 29 0))) (1310 * (cntF (σ' 29 0) - cntF (σ 29 0))) := by
  refine CtA.of (own := RX9) (lv := [some (rf Ω 9 0), some (.int x1)]) (by decide) rfl (Nat.le_of_ble_eq_true rfl) rfl (fun hW => ?_)
  have h := KE_hit h
  unfold fX9_drop at h
  refine R_aload_n (i := 0) dX9_drop_0 rfl rfl ?_
  refine R_iconst (v := 3) dX9_drop_1 rfl ?_
  refine R_iload_n (i := 1) dX9_drop_2 rfl rfl ?_
  refine R_iconst (v := (-1)) dX9_drop_3 rfl ?_
  refine R_iconst (v := (-1)) dX9_drop_4 rfl ?_
  refine R_iconst (v := (-1)) dX9_drop_5 rfl ?_
  refine R_iconst (v := 1) dX9_drop_6 rfl ?_
  obtain ⟨r5, σ6, e6, h⟩ := hit_bdE h
  obtain ⟨rfl, rfl⟩ := h
  refine A_callV (ctA_act l Ω 3 x1 (-1) (-1) (-1) 1 hL0 σ _ _ hO e6) okX9_act mw_591 hL0 (cE_9 Ω 0 _) rfl rfl (Nat.le_of_ble_eq_true rfl) rfl rfl ⟨Nat.le_of_ble_eq_true rfl, Nat.le_of_ble_eq_true rfl⟩ ⟨Nat.le_of_eq (Nat.zero_add _), Nat.le_of_eq (Nat.zero_add _)⟩ dX9_drop_7 (fun Ω2 hE hO2 => ?_)
  exact A_iret2 hE hO2 (Nat.le_of_eq (Nat.zero_add _)) (Nat.le_of_eq (Nat.zero_add _)) dX9_drop_10 rfl ⟨rfl, rfl⟩
noncomputable def fX9_minor  (σ : rS) : Option (Int32 × rS) := bd (fX9_act 4 (-1) (-1) (-1) (-1) 1 σ) (fun r1 σ2 => some (r1, σ2))
set_option maxRecDepth 100000 in
set_option maxHeartbeats 4000000 in
theorem ctA_minor (l : Launch) (Ω : rO)  (hL0 : oL Ω 9 0) (σ : rS) (r' : Int32) (σ' : rS) (hO : WO Ω (σ 29 0)) (h : fX9_minor  σ = some (r', σ')) : CtA l Ω yX9_minor cX9_minor 1 (some .int) (rmA 7 211 (24 * (cntF (σ' 29 0) - cntF (σ 29 0))) (1310 * (cntF (σ' 29 0) - cntF (σ 29 0)))) [rf Ω 9 0] σ r' σ' (24 * (cntF (σ' 29 0) - cntF (σ 29 0))) (1310 * (cntF (σ' 29 0) - cntF (σ 29 0))) := by
  refine CtA.of (own := RX9) (lv := [some (rf Ω 9 0)]) (by decide) rfl (Nat.le_of_ble_eq_true rfl) rfl (fun hW => ?_)
  have h := KE_hit h
  unfold fX9_minor at h
  refine R_aload_n (i := 0) dX9_minor_0 rfl rfl ?_
  refine R_iconst (v := 4) dX9_minor_1 rfl ?_
  refine R_iconst (v := (-1)) dX9_minor_2 rfl ?_
  refine R_iconst (v := (-1)) dX9_minor_3 rfl ?_
  refine R_iconst (v := (-1)) dX9_minor_4 rfl ?_
  refine R_iconst (v := (-1)) dX9_minor_5 rfl ?_
  refine R_iconst (v := 1) dX9_minor_6 rfl ?_
  obtain ⟨r5, σ6, e6, h⟩ := hit_bdE h
  obtain ⟨rfl, rfl⟩ := h
  refine A_callV (ctA_act l Ω 4 (-1) (-1) (-1) (-1) 1 hL0 σ _ _ hO e6) okX9_act mw_591 hL0 (cE_9 Ω 0 _) rfl rfl (Nat.le_of_ble_eq_true rfl) rfl rfl ⟨Nat.le_of_ble_eq_true rfl, Nat.le_of_ble_eq_true rfl⟩ ⟨Nat.le_of_eq (Nat.zero_add _), Nat.le_of_eq (Nat.zero_add _)⟩ dX9_minor_7 (fun Ω2 hE hO2 => ?_)
  exact A_iret2 hE hO2 (Nat.le_of_eq (Nat.zero_add _)) (Nat.le_of_eq (Nat.zero_add _)) dX9_minor_10 rfl ⟨rfl, rfl⟩
noncomputable def fX9_major  (σ : rS) : Option (Int32 × rS) := bd (fX9_act 5 (-1) (-1) (-1) (-1) 1 σ) (fun r1 σ2 => some (r1, σ2))
set_option maxRecDepth 100000 in
set_option maxHeartbeats 4000000 in
theorem ctA_major (l : Launch) (Ω : rO)  (hL0 : oL Ω 9 0) (σ : rS) (r' : Int32) (σ' : rS) (hO : WO Ω (σ 29 0)) (h : fX9_major  σ = some (r', σ')) : CtA l Ω yX9_major cX9_major 1 (some .int) (rmA 7 211 (24 * (cntF (σ' 29 0) - cntF (σ 29 0))) (1310 * (cntF (σ' 29 0) - cntF (σ 29 0)))) [rf Ω 9 0] σ r' σ' (24 * (cntF (σ' 29 0) - cntF (σ 29 0))) (1310 * (cntF (σ' 29 0) - cntF (σ 29 0))) := by
  refine CtA.of (own := RX9) (lv := [some (rf Ω 9 0)]) (by decide) rfl (Nat.le_of_ble_eq_true rfl) rfl (fun hW => ?_)
  have h := KE_hit h
  unfold fX9_major at h
  refine R_aload_n (i := 0) dX9_major_0 rfl rfl ?_
  refine R_iconst (v := 5) dX9_major_1 rfl ?_
  refine R_iconst (v := (-1)) dX9_major_2 rfl ?_
  refine R_iconst (v := (-1)) dX9_major_3 rfl ?_
  refine R_iconst (v := (-1)) dX9_major_4 rfl ?_
  refine R_iconst (v := (-1)) dX9_major_5 rfl ?_
  refine R_iconst (v := 1) dX9_major_6 rfl ?_
  obtain ⟨r5, σ6, e6, h⟩ := hit_bdE h
  obtain ⟨rfl, rfl⟩ := h
  refine A_callV (ctA_act l Ω 5 (-1) (-1) (-1) (-1) 1 hL0 σ _ _ hO e6) okX9_act mw_591 hL0 (cE_9 Ω 0 _) rfl rfl (Nat.le_of_ble_eq_true rfl) rfl rfl ⟨Nat.le_of_ble_eq_true rfl, Nat.le_of_ble_eq_true rfl⟩ ⟨Nat.le_of_eq (Nat.zero_add _), Nat.le_of_eq (Nat.zero_add _)⟩ dX9_major_7 (fun Ω2 hE hO2 => ?_)
  exact A_iret2 hE hO2 (Nat.le_of_eq (Nat.zero_add _)) (Nat.le_of_eq (Nat.zero_add _)) dX9_major_10 rfl ⟨rfl, rfl⟩
noncomputable def fX9_tell (x1 : Int32) (σ : rS) : Option (Int32 × rS) := bd (fX9_act 6 x1 (-1) (-1) (-1) 1 σ) (fun r1 σ2 => some (r1, σ2))
set_option maxRecDepth 100000 in
set_option maxHeartbeats 4000000 in
theorem ctA_tell (l : Launch) (Ω : rO) (x1 : Int32) (hL0 : oL Ω 9 0) (σ : rS) (r' : Int32) (σ' : rS) (hO : WO Ω (σ 29 0)) (h : fX9_tell x1 σ = some (r', σ')) : CtA l Ω yX9_tell cX9_tell 2 (some .int) (rmA 7 211 (24 * (cntF (σ' 29 0) - cntF (σ 29 0))) (1310 * (cntF (σ' 29 0) - cntF (σ 29 0)))) [rf Ω 9 0, .int x1] σ r' σ' (24 * (cntF (σ' 29 0) - cntF (σ 29 0))) (1310 * (cntF (σ' 29 0) - cntF (σ 29 0))) := by
  refine CtA.of (own := RX9) (lv := [some (rf Ω 9 0), some (.int x1)]) (by decide) rfl (Nat.le_of_ble_eq_true rfl) rfl (fun hW => ?_)
  have h := KE_hit h
  unfold fX9_tell at h
  refine R_aload_n (i := 0) dX9_tell_0 rfl rfl ?_
  refine R_bipush (v := 6) dX9_tell_1 rfl ?_
  refine R_iload_n (i := 1) dX9_tell_3 rfl rfl ?_
  refine R_iconst (v := (-1)) dX9_tell_4 rfl ?_
  refine R_iconst (v := (-1)) dX9_tell_5 rfl ?_
  refine R_iconst (v := (-1)) dX9_tell_6 rfl ?_
  refine R_iconst (v := 1) dX9_tell_7 rfl ?_
  obtain ⟨r5, σ6, e6, h⟩ := hit_bdE h
  obtain ⟨rfl, rfl⟩ := h
  refine A_callV (ctA_act l Ω 6 x1 (-1) (-1) (-1) 1 hL0 σ _ _ hO e6) okX9_act mw_591 hL0 (cE_9 Ω 0 _) rfl rfl (Nat.le_of_ble_eq_true rfl) rfl rfl ⟨Nat.le_of_ble_eq_true rfl, Nat.le_of_ble_eq_true rfl⟩ ⟨Nat.le_of_eq (Nat.zero_add _), Nat.le_of_eq (Nat.zero_add _)⟩ dX9_tell_8 (fun Ω2 hE hO2 => ?_)
  exact A_iret2 hE hO2 (Nat.le_of_eq (Nat.zero_add _)) (Nat.le_of_eq (Nat.zero_add _)) dX9_tell_11 rfl ⟨rfl, rfl⟩
noncomputable def fX9_ask  (σ : rS) : Option (Int32 × rS) := bd (fX9_act 7 (-1) (-1) (-1) (-1) 1 σ) (fun r1 σ2 => some (r1, σ2))
set_option maxRecDepth 100000 in
set_option maxHeartbeats 4000000 in
theorem ctA_ask (l : Launch) (Ω : rO)  (hL0 : oL Ω 9 0) (σ : rS) (r' : Int32) (σ' : rS) (hO : WO Ω (σ 29 0)) (h : fX9_ask  σ = some (r', σ')) : CtA l Ω yX9_ask cX9_ask 1 (some .int) (rmA 7 211 (24 * (cntF (σ' 29 0) - cntF (σ 29 0))) (1310 * (cntF (σ' 29 0) - cntF (σ 29 0)))) [rf Ω 9 0] σ r' σ' (24 * (cntF (σ' 29 0) - cntF (σ 29 0))) (1310 * (cntF (σ' 29 0) - cntF (σ 29 0))) := by
  refine CtA.of (own := RX9) (lv := [some (rf Ω 9 0)]) (by decide) rfl (Nat.le_of_ble_eq_true rfl) rfl (fun hW => ?_)
  have h := KE_hit h
  unfold fX9_ask at h
  refine R_aload_n (i := 0) dX9_ask_0 rfl rfl ?_
  refine R_bipush (v := 7) dX9_ask_1 rfl ?_
  refine R_iconst (v := (-1)) dX9_ask_3 rfl ?_
  refine R_iconst (v := (-1)) dX9_ask_4 rfl ?_
  refine R_iconst (v := (-1)) dX9_ask_5 rfl ?_
  refine R_iconst (v := (-1)) dX9_ask_6 rfl ?_
  refine R_iconst (v := 1) dX9_ask_7 rfl ?_
  obtain ⟨r5, σ6, e6, h⟩ := hit_bdE h
  obtain ⟨rfl, rfl⟩ := h
  refine A_callV (ctA_act l Ω 7 (-1) (-1) (-1) (-1) 1 hL0 σ _ _ hO e6) okX9_act mw_591 hL0 (cE_9 Ω 0 _) rfl rfl (Nat.le_of_ble_eq_true rfl) rfl rfl ⟨Nat.le_of_ble_eq_true rfl, Nat.le_of_ble_eq_true rfl⟩ ⟨Nat.le_of_eq (Nat.zero_add _), Nat.le_of_eq (Nat.zero_add _)⟩ dX9_ask_8 (fun Ω2 hE hO2 => ?_)
  exact A_iret2 hE hO2 (Nat.le_of_eq (Nat.zero_add _)) (Nat.le_of_eq (Nat.zero_add _)) dX9_ask_11 rfl ⟨rfl, rfl⟩
noncomputable def fX9_perform_L34 (k2 : Nat) (x3 : Int32) (x4 : Int32) (σ : rS) : Option ((Int32 ⊕ (Int32 ⊕ Unit)) × rS) := if x4 < x3 then (rd (x4 * 5) (fun y5 => bnd y5 80 (bnd (y5 + 1) 80 (bnd (y5 + 2) 80 (bnd (y5 + 3) 80 (bnd (y5 + 4) 80 (bd (fX9_act (σ 24 k2 (ix y5)) (σ 24 k2 (ix (y5 + 1))) (σ 24 k2 (ix (y5 + 2))) (σ 24 k2 (ix (y5 + 3))) (σ 24 k2 (ix (y5 + 4))) 0 σ) (fun r6 σ7 => if r6 < 0 then (some (.inr (.inl x4), σ7)) else (some (.inl (x4 + 1), σ7)))))))))) else (some (.inr (.inr ()), σ))
noncomputable def fX9_perform (x1 : Int32) (σ : rS) : Option (Int32 × rS) := if (σ 9 0 6) = 0 then (some ((-1), σ)) else (bd (fX9_isScript x1 σ) (fun r1 σ2 => if r1 = 0 then (some ((-1), σ2)) else (bnd x1 4 (bnd x1 4 (rd (σ2 21 0 (ix x1)) (fun y4 => bd (lp (fun (x : Int32) σ => fX9_perform_L34 (ix x1) y4 x σ) fu 0 σ2) (fun e σ8 => match e with | .inl e9 => some (e9, σ8) | .inr e10 => some (y4, σ8))))))))
theorem mnX9_perform_L34 (k2 : Nat) (x3 x4 : Int32) (σ : rS) : MN σ (fX9_perform_L34 k2 x3 x4 σ) := by
  unfold fX9_perform_L34
  refine MN_ite ?_ MN_some
  show MN σ (bnd (x4 * 5) 80 _)
  exact MN_bnd (MN_bnd (MN_bnd (MN_bnd (MN_bnd (MN_bd (mn_act _ _ _ _ _ _ _) (fun _ _ => MN_ite MN_some MN_some))))))
def WPf (Ω0 Ω : rO) (σ : rS) (N kc ks mc ms : Nat) : Prop := ExtN Ω0 Ω ∧ WO Ω (σ 29 0) ∧ kc + 24 * (N - cntF (σ 29 0)) ≤ mc ∧ ks + 1310 * (N - cntF (σ 29 0)) ≤ ms
set_option maxRecDepth 100000 in
set_option maxHeartbeats 4000000 in
theorem rsX9_perform_L34 {l : Launch} {Ω0 Ω : rO} {r' : Int32} {σ' : rS} {kc ks mc ms N : Nat} (k2 : Nat) (x3 : Int32) (x4 : Int32) (hL0 : oL Ω 9 0) (hL2 : oL Ω 24 k2) (σ : rS) (hP : WPf Ω0 Ω σ N kc ks mc ms) {K0 : (Int32 ⊕ (Int32 ⊕ Unit)) → rS → Prop} (hN : ∀ q s, K0 q s → cntF (s 29 0) ≤ N)
    (hC : ∀ (Ω : rO) (kc ks : Nat) (x4 : Int32) (σ : rS), oL Ω 9 0 → oL Ω 24 k2 → WPf Ω0 Ω σ N kc ks mc ms → K0 (.inl x4) σ → RunG l Ω cX9_perform RX9 6 (some .int) (rmA 7 211 mc ms) (rQAf Ω0 (some .int) r' σ' mc ms) kc ks 34 [some (rf Ω 9 0), none, some (rf Ω 24 k2), some (.int x3), some (.int x4), none] [] σ)
    (hE0 : ∀ (Ω : rO) (kc ks : Nat) (e : Int32) (σ : rS), WPf Ω0 Ω σ N kc ks mc ms → K0 (.inr (.inl e)) σ → RunG l Ω cX9_perform RX9 6 (some .int) (rmA 7 211 mc ms) (rQAf Ω0 (some .int) r' σ' mc ms) kc ks 82 [none, none, none, none, some (.int e), none] [] σ)
    (hE1 : ∀ (Ω : rO) (kc ks : Nat) (e : Unit) (σ : rS), WPf Ω0 Ω σ N kc ks mc ms → K0 (.inr (.inr e)) σ → RunG l Ω cX9_perform RX9 6 (some .int) (rmA 7 211 mc ms) (rQAf Ω0 (some .int) r' σ' mc ms) kc ks 91 [none, none, none, some (.int x3), none, none] [] σ)
    (h : hit (fX9_perform_L34 k2 x3 x4 σ) K0) : RunG l Ω cX9_perform RX9 6 (some .int) (rmA 7 211 mc ms) (rQAf Ω0 (some .int) r' σ' mc ms) kc ks 34 [some (rf Ω 9 0), none, some (rf Ω 24 k2), some (.int x3), some (.int x4), none] [] σ := by
  unfold fX9_perform_L34 at h
  refine R_iload (i := 4) dX9_perform_34 rfl ?_
  refine R_iload_n (i := 3) dX9_perform_36 rfl rfl ?_
  refine R_icmp_ge (tgt := 91) dX9_perform_37 (by decide) (fun hc => ?_) (fun hc => ?_)
  · have h := hit_f h hc
    refine R_drop (lv2 := [none, none, some (rf Ω 24 k2), some (.int x3), some (.int x4), none]) 0 rfl ?_
    refine R_drop (lv2 := [none, none, none, some (.int x3), some (.int x4), none]) 2 rfl ?_
    refine R_drop (lv2 := [none, none, none, some (.int x3), none, none]) 4 rfl ?_
    exact hE1 _ _ _ () σ hP h
  · have h := hit_t h hc
    refine R_iload (i := 4) dX9_perform_40 rfl ?_
    refine R_iconst (v := 5) dX9_perform_42 rfl ?_
    refine R_imul dX9_perform_43 ?_
    refine R_topi h (fun y5 h => ?_)
    refine R_istore (lv2 := [some (rf Ω 9 0), none, some (rf Ω 24 k2), some (.int x3), some (.int x4), some (.int y5)]) dX9_perform_44 (by decide) rfl rfl ?_
    refine R_aload_n (i := 0) dX9_perform_46 rfl rfl ?_
    refine R_aload_n (i := 2) dX9_perform_47 rfl rfl ?_
    refine R_iload (i := 5) dX9_perform_48 rfl ?_
    obtain ⟨hb, h⟩ := hit_bnd h
    refine R_iald hL2 (cE_24 Ω k2 _) hb dX9_perform_50 ?_
    refine R_aload_n (i := 2) dX9_perform_51 rfl rfl ?_
    refine R_iload (i := 5) dX9_perform_52 rfl ?_
    refine R_iconst (v := 1) dX9_perform_54 rfl ?_
    refine R_iadd dX9_perform_55 ?_
    obtain ⟨hb, h⟩ := hit_bnd h
    refine R_iald hL2 (cE_24 Ω k2 _) hb dX9_perform_56 ?_
    refine R_aload_n (i := 2) dX9_perform_57 rfl rfl ?_
    refine R_iload (i := 5) dX9_perform_58 rfl ?_
    refine R_iconst (v := 2) dX9_perform_60 rfl ?_
    refine R_iadd dX9_perform_61 ?_
    obtain ⟨hb, h⟩ := hit_bnd h
    refine R_iald hL2 (cE_24 Ω k2 _) hb dX9_perform_62 ?_
    refine R_aload_n (i := 2) dX9_perform_63 rfl rfl ?_
    refine R_iload (i := 5) dX9_perform_64 rfl ?_
    refine R_iconst (v := 3) dX9_perform_66 rfl ?_
    refine R_iadd dX9_perform_67 ?_
    obtain ⟨hb, h⟩ := hit_bnd h
    refine R_iald hL2 (cE_24 Ω k2 _) hb dX9_perform_68 ?_
    refine R_aload_n (i := 2) dX9_perform_69 rfl rfl ?_
    refine R_iload (i := 5) dX9_perform_70 rfl ?_
    refine R_iconst (v := 4) dX9_perform_72 rfl ?_
    refine R_iadd dX9_perform_73 ?_
    obtain ⟨hb, h⟩ := hit_bnd h
    refine R_iald hL2 (cE_24 Ω k2 _) hb dX9_perform_74 ?_
    refine R_iconst (v := 0) dX9_perform_75 rfl ?_
    obtain ⟨r6, σ7, e7, h⟩ := hit_bdE h
    have hm7 := mn_act _ _ _ _ _ _ _ _ _ e7
    have hN7 : cntF (σ7 29 0) ≤ N := hit_MN h (MN_ite MN_some MN_some) hN
    obtain ⟨hE, hO, hc1, hs1⟩ := hP
    refine A_callV (ctA_act l Ω (σ 24 k2 (ix y5)) (σ 24 k2 (ix (y5 + 1))) (σ 24 k2 (ix (y5 + 2))) (σ 24 k2 (ix (y5 + 3))) (σ 24 k2 (ix (y5 + 4))) 0 hL0 σ _ _ hO e7) okX9_act mw_591 hL0 (cE_9 Ω 0 _) rfl rfl (Nat.le_of_ble_eq_true rfl) rfl rfl ⟨Nat.le_of_ble_eq_true rfl, Nat.le_of_ble_eq_true rfl⟩ ⟨by show _ ≤ mc; omega, by show _ ≤ ms; omega⟩ dX9_perform_76 (fun Ω2 hE2 hO2 => ?_)
    have hP2 : WPf Ω0 Ω2 σ7 N (kc + 24 * (cntF (σ7 29 0) - cntF (σ 29 0))) (ks + 1310 * (cntF (σ7 29 0) - cntF (σ 29 0))) mc ms := ⟨hE.tr hE2, hO2, by omega, by omega⟩
    refine R_eq (lv2 := [some (rf Ω2 9 0), none, some (rf Ω2 24 k2), some (.int x3), some (.int x4), some (.int y5)]) (st2 := [.int r6]) (by simp only [rf, hE2.a hL0, hE2.a hL2]) rfl ?_
    refine R_if_ge (tgt := 85) dX9_perform_79 (by decide) (fun hc => ?_) (fun hc => ?_)
    · have h := hit_f h hc
      refine R_iinc (v := x4 + 1) (lv2 := [some (rf Ω2 9 0), none, some (rf Ω2 24 k2), some (.int x3), some (.int (x4 + 1)), some (.int y5)]) dX9_perform_85 rfl rfl (by decide) rfl rfl ?_
      refine R_goto (tgt := 34) dX9_perform_88 (by decide) ?_
      refine R_drop (lv2 := [some (rf Ω2 9 0), none, some (rf Ω2 24 k2), some (.int x3), some (.int (x4 + 1)), none]) 5 rfl ?_
      exact hC _ _ _ (x4 + 1) σ7 (hE2.l hL0) (hE2.l hL2) hP2 h
    · have h := hit_t h hc
      refine R_drop (lv2 := [none, none, some (rf Ω2 24 k2), some (.int x3), some (.int x4), some (.int y5)]) 0 rfl ?_
      refine R_drop (lv2 := [none, none, none, some (.int x3), some (.int x4), some (.int y5)]) 2 rfl ?_
      refine R_drop (lv2 := [none, none, none, none, some (.int x4), some (.int y5)]) 3 rfl ?_
      refine R_drop (lv2 := [none, none, none, none, some (.int x4), none]) 5 rfl ?_
      exact hE0 _ _ _ x4 σ7 hP2 h
set_option maxRecDepth 100000 in
set_option maxHeartbeats 4000000 in
theorem rlX9_perform_L34 {l : Launch} {Ω0 : rO} {r' : Int32} {σ' : rS} {mc ms : Nat} (k2 : Nat) (x3 : Int32) : ∀ (n : Nat) (Ω : rO) (kc ks : Nat) (x4 : Int32) (σ : rS), oL Ω 9 0 → oL Ω 24 k2 → WPf Ω0 Ω σ (cntF (σ' 29 0)) kc ks mc ms → hit (lp (fun (x : Int32) σ => fX9_perform_L34 k2 x3 x σ) n x4 σ) (fun (e : Int32 ⊕ Unit) s => hit (match e with | .inl e9 => some (e9, s) | .inr e10 => some (x3, s)) (KE r' σ')) → RunG l Ω cX9_perform RX9 6 (some .int) (rmA 7 211 mc ms) (rQAf Ω0 (some .int) r' σ' mc ms) kc ks 34 [some (rf Ω 9 0), none, some (rf Ω 24 k2), some (.int x3), some (.int x4), none] [] σ := by
  intro n
  induction n with
  | zero => intro Ω kc ks x4 σ _ _ _ h; exact (h : False).elim
  | succ n ih =>
    intro Ω kc ks x4 σ hL0 hL2 hP h
    have hfin : ∀ (e : Int32 ⊕ Unit) (s : rS), hit (match e with | .inl e9 => some (e9, s) | .inr e10 => some (x3, s)) (KE r' σ') → cntF (s 29 0) ≤ cntF (σ' 29 0) := by
      intro e s h
      cases e with
      | inl a => exact Nat.le_of_eq (congrArg (fun q : rS => cntF (q 29 0)) (show s = σ' from h.2))
      | inr a => exact Nat.le_of_eq (congrArg (fun q : rS => cntF (q 29 0)) (show s = σ' from h.2))
    refine rsX9_perform_L34 k2 x3 x4 hL0 hL2 σ hP (N := cntF (σ' 29 0)) (fun q s hq => ?_) (fun Ω kc ks x4 σ h1 h2 h3 h => ih Ω kc ks x4 σ h1 h2 h3 h) (fun Ω kc ks e σ hP h => ?_) (fun Ω kc ks e σ hP h => ?_) (hit_lp h)
    · cases q with
      | inl y => exact hit_MN hq (MN_lp (fun x σ => mnX9_perform_L34 k2 x3 x σ) n y s) hfin
      | inr e => exact hfin e s hq
    · refine R_iload (i := 4) dX9_perform_82 rfl ?_
      exact A_iret2 hP.1 hP.2.1 (Nat.le_trans (Nat.le_add_right _ _) hP.2.2.1) (Nat.le_trans (Nat.le_add_right _ _) hP.2.2.2) dX9_perform_84 rfl h
    · refine R_iload_n (i := 3) dX9_perform_91 rfl rfl ?_
      exact A_iret2 hP.1 hP.2.1 (Nat.le_trans (Nat.le_add_right _ _) hP.2.2.1) (Nat.le_trans (Nat.le_add_right _ _) hP.2.2.2) dX9_perform_92 rfl h
set_option maxRecDepth 100000 in
set_option maxHeartbeats 4000000 in
theorem ctA_perform (l : Launch) (Ω : rO) (x1 : Int32) (hL0 : oL Ω 9 0) (σ : rS) (r' : Int32) (σ' : rS) (hO : WO Ω (σ 29 0)) (h : fX9_perform x1 σ = some (r', σ')) : CtA l Ω yX9_perform cX9_perform 6 (some .int) (rmA 7 211 (24 * (cntF (σ' 29 0) - cntF (σ 29 0))) (1310 * (cntF (σ' 29 0) - cntF (σ 29 0)))) [rf Ω 9 0, .int x1] σ r' σ' (24 * (cntF (σ' 29 0) - cntF (σ 29 0))) (1310 * (cntF (σ' 29 0) - cntF (σ 29 0))) := by
  refine CtA.of (own := RX9) (lv := [some (rf Ω 9 0), some (.int x1), none, none, none, none]) (by decide) rfl (Nat.le_of_ble_eq_true rfl) rfl (fun hW => ?_)
  have h := KE_hit h
  unfold fX9_perform at h
  refine R_aload_n (i := 0) dX9_perform_0 rfl rfl ?_
  refine R_get foX9_117 hL0 (cE_9 Ω 0 _) rfl dX9_perform_1 ?_
  refine R_if_eq (tgt := 15) dX9_perform_4 (by decide) (fun hc => ?_) (fun hc => ?_)
  · have h := hit_t h hc
    refine R_iconst (v := (-1)) dX9_perform_15 rfl ?_
    exact A_iret2 (ExtN.rf Ω) hO (Nat.zero_le _) (Nat.zero_le _) dX9_perform_16 rfl h
  · have h := hit_f h hc
    refine R_aload_n (i := 0) dX9_perform_7 rfl rfl ?_
    refine R_iload_n (i := 1) dX9_perform_8 rfl rfl ?_
    obtain ⟨r1, σ2, e1, h⟩ := hit_bdE h
    have e29 : σ2 29 = σ 29 := frX9_isScript _ _ _ _ e1 29 (by decide)
    have hO1 : WO Ω (σ2 29 0) := by rw [e29]; exact hO
    refine R_callVi (ctX9_isScript l Ω x1 hL0 _ _ (hit_mono (KE_hit e1) (fun r s hrs => ?_))) okX9_isScript mw_1045 hL0 (cE_9 Ω 0 _) rfl rfl (Nat.le_of_ble_eq_true rfl) rfl rfl ⟨Nat.le_of_ble_eq_true rfl, Nat.le_of_ble_eq_true rfl⟩ ⟨Nat.zero_le _, Nat.zero_le _⟩ dX9_perform_9
    rw [hrs.1, hrs.2]
    refine R_if_ne (tgt := 17) dX9_perform_12 (by decide) (fun hc => ?_) (fun hc => ?_)
    · have h := hit_f h hc
      refine R_aload_n (i := 0) dX9_perform_17 rfl rfl ?_
      refine R_get foX9_27 hL0 (cE_9 Ω 0 _) rfl dX9_perform_18 ?_
      refine R_iload_n (i := 1) dX9_perform_21 rfl rfl ?_
      obtain ⟨hb3, h⟩ := hit_bnd h
      refine R_scripts (WF.kid hW 2 hL0 rfl) hb3 dX9_perform_22 ?_
      refine R_astore_n (lv2 := [some (rf Ω 9 0), some (.int x1), some (rf Ω 24 (ix x1)), none, none, none]) dX9_perform_23 rfl (by decide) rfl rfl ?_
      refine R_aload_n (i := 0) dX9_perform_24 rfl rfl ?_
      refine R_get foX9_30 hL0 (cE_9 Ω 0 _) rfl dX9_perform_25 ?_
      refine R_iload_n (i := 1) dX9_perform_28 rfl rfl ?_
      obtain ⟨hb, h⟩ := hit_bnd h
      refine R_iald (WF.kid hW 3 hL0 rfl) (cE_21 Ω 0 _) hb dX9_perform_29 ?_
      refine R_topi h (fun y4 h => ?_)
      refine R_istore_n (lv2 := [some (rf Ω 9 0), some (.int x1), some (rf Ω 24 (ix x1)), some (.int y4), none, none]) dX9_perform_30 rfl (by decide) rfl rfl ?_
      refine R_iconst (v := 0) dX9_perform_31 rfl ?_
      refine R_istore (lv2 := [some (rf Ω 9 0), some (.int x1), some (rf Ω 24 (ix x1)), some (.int y4), some (.int 0), none]) dX9_perform_32 (by decide) rfl rfl ?_
      refine R_drop (lv2 := [some (rf Ω 9 0), none, some (rf Ω 24 (ix x1)), some (.int y4), some (.int 0), none]) 1 rfl ?_
      exact rlX9_perform_L34 (ix x1) y4 fu Ω 0 0 0 σ2 hL0 (sc_kid hW (WF.kid hW 2 hL0 rfl) hb3) ⟨ExtN.rf Ω, hO1, by rw [e29]; exact Nat.le_of_eq (Nat.zero_add _), by rw [e29]; exact Nat.le_of_eq (Nat.zero_add _)⟩ (hit_bd h)
    · have h := hit_t h hc
      refine R_iconst (v := (-1)) dX9_perform_15 rfl ?_
      exact A_iret2 (ExtN.rf Ω) hO1 (Nat.zero_le _) (Nat.zero_le _) dX9_perform_16 rfl h
