set_option maxRecDepth 100000 in
set_option maxHeartbeats 4000000 in
theorem ctX9_garbage (l : Launch) (Ω : rO) (x1 : Int32) (hL0 : oL Ω 9 0) (σ : rS) (K : Int32 → rS → Prop) (h : hit (fX9_garbage x1 σ) K) : Ct l Ω yX9_garbage cX9_garbage 2 (some .int) rmX9_garbage [rf Ω 9 0, .int x1] σ K := by
  refine Ct.of (own := RX9) (lv := [some (rf Ω 9 0), some (.int x1)]) (by decide) rfl (Nat.le_of_ble_eq_true rfl) rfl (fun hW => ?_)
  unfold fX9_garbage at h
  refine R_aload_n (i := 0) dX9_garbage_0 rfl rfl ?_
  refine R_get foX9_117 hL0 (cE_9 Ω 0 _) rfl dX9_garbage_1 ?_
  refine R_if_eq (tgt := 16) dX9_garbage_4 (by decide) (fun hc => ?_) (fun hc => ?_)
  · have h := hit_t h hc
    refine R_iconst (v := (-1)) dX9_garbage_16 rfl ?_
    exact R_iret dX9_garbage_17 rfl h
  · have h := hit_f h hc
    refine R_iload_n (i := 1) dX9_garbage_7 rfl rfl ?_
    refine R_if_lt (tgt := 16) dX9_garbage_8 (by decide) (fun hc => ?_) (fun hc => ?_)
    · have h := hit_t h hc
      refine R_iconst (v := (-1)) dX9_garbage_16 rfl ?_
      exact R_iret dX9_garbage_17 rfl h
    · have h := hit_f h hc
      refine R_iload_n (i := 1) dX9_garbage_11 rfl rfl ?_
      refine R_iconst (v := 3) dX9_garbage_12 rfl ?_
      refine R_icmp_lt (tgt := 18) dX9_garbage_13 (by decide) (fun hc => ?_) (fun hc => ?_)
      · have h := hit_t h hc
        refine R_aload_n (i := 0) dX9_garbage_18 rfl rfl ?_
        refine R_get foX9_60 hL0 (cE_9 Ω 0 _) rfl dX9_garbage_19 ?_
        refine R_aload_n (i := 0) dX9_garbage_22 rfl rfl ?_
        refine R_get foX9_40 hL0 (cE_9 Ω 0 _) rfl dX9_garbage_23 ?_
        refine R_iconst (v := (-1)) dX9_garbage_26 rfl ?_
        refine R_callVv (ctX3_reach l Ω 0 (-1) (WF.kid hW 9 hL0 rfl) (WF.kid hW 5 hL0 rfl) _ _ (hit_mono (hit_bd h) (fun r1 σ2 h => ?_))) okX3_reach mw_985 (WF.kid hW 9 hL0 rfl) (cE_3 Ω 0 _) rfl rfl (Nat.le_of_ble_eq_true rfl) rfl rfl ⟨by decide, by decide⟩ dX9_garbage_27
        refine R_aload_n (i := 0) dX9_garbage_30 rfl rfl ?_
        refine R_get foX9_60 hL0 (cE_9 Ω 0 _) rfl dX9_garbage_31 ?_
        refine R_aload_n (i := 0) dX9_garbage_34 rfl rfl ?_
        refine R_get foX9_40 hL0 (cE_9 Ω 0 _) rfl dX9_garbage_35 ?_
        refine R_iload_n (i := 1) dX9_garbage_38 rfl rfl ?_
        refine R_callVi (ctX3_unseenCells l Ω 0 x1 (WF.kid hW 9 hL0 rfl) (WF.kid hW 5 hL0 rfl) _ _ (hit_mono (hit_bd h) (fun r3 σ4 h => ?_))) okX3_unseenCells mw_1037 (WF.kid hW 9 hL0 rfl) (cE_3 Ω 0 _) rfl rfl (Nat.le_of_ble_eq_true rfl) rfl rfl ⟨by decide, by decide⟩ dX9_garbage_39
        exact R_iret dX9_garbage_42 rfl h
      · have h := hit_f h hc
        refine R_iconst (v := (-1)) dX9_garbage_16 rfl ?_
        exact R_iret dX9_garbage_17 rfl h
set_option maxRecDepth 100000 in
set_option maxHeartbeats 4000000 in
theorem ctX9_isScript (l : Launch) (Ω : rO) (x1 : Int32) (hL0 : oL Ω 9 0) (σ : rS) (K : Int32 → rS → Prop) (h : hit (fX9_isScript x1 σ) K) : Ct l Ω yX9_isScript cX9_isScript 2 (some .boolean) rmX9_isScript [rf Ω 9 0, .int x1] σ K := by
  refine Ct.of (own := RX9) (lv := [some (rf Ω 9 0), some (.int x1)]) (by decide) rfl (Nat.le_of_ble_eq_true rfl) rfl (fun hW => ?_)
  unfold fX9_isScript at h
  refine R_iload_n (i := 1) dX9_isScript_0 rfl rfl ?_
  refine R_if_lt (tgt := 16) dX9_isScript_1 (by decide) (fun hc => ?_) (fun hc => ?_)
  · have h := hit_t h hc
    refine R_iconst (v := 0) dX9_isScript_16 rfl ?_
    exact R_zret dX9_isScript_17 rfl (Or.inl rfl) h
  · have h := hit_f h hc
    refine R_iload_n (i := 1) dX9_isScript_4 rfl rfl ?_
    refine R_aload_n (i := 0) dX9_isScript_5 rfl rfl ?_
    refine R_get foX9_128 hL0 (cE_9 Ω 0 _) rfl dX9_isScript_6 ?_
    refine R_icmp_ge (tgt := 16) dX9_isScript_9 (by decide) (fun hc => ?_) (fun hc => ?_)
    · have h := hit_f h hc
      refine R_iconst (v := 0) dX9_isScript_16 rfl ?_
      exact R_zret dX9_isScript_17 rfl (Or.inl rfl) h
    · have h := hit_t h hc
      refine R_iconst (v := 1) dX9_isScript_12 rfl ?_
      refine R_goto (tgt := 17) dX9_isScript_13 (by decide) ?_
      exact R_zret dX9_isScript_17 rfl (Or.inr rfl) h
set_option maxRecDepth 100000 in
set_option maxHeartbeats 4000000 in
theorem ctX9_step (l : Launch) (Ω : rO) (x1 : Int32) (x2 : Int32) (x3 : Int32) (hL0 : oL Ω 9 0) (σ : rS) (K : Int32 → rS → Prop) (h : hit (fX9_step x1 x2 x3 σ) K) : Ct l Ω yX9_step cX9_step 4 (some .int) rmX9_step [rf Ω 9 0, .int x1, .int x2, .int x3] σ K := by
  refine Ct.of (own := RX9) (lv := [some (rf Ω 9 0), some (.int x1), some (.int x2), some (.int x3)]) (by decide) rfl (Nat.le_of_ble_eq_true rfl) rfl (fun hW => ?_)
  unfold fX9_step at h
  refine R_aload_n (i := 0) dX9_step_0 rfl rfl ?_
  refine R_iload_n (i := 1) dX9_step_1 rfl rfl ?_
  refine R_callVi (ctX9_isScript l Ω x1 hL0 _ _ (hit_mono (hit_bd h) (fun r1 σ2 h => ?_))) okX9_isScript mw_1045 hL0 (cE_9 Ω 0 _) rfl rfl (Nat.le_of_ble_eq_true rfl) rfl rfl ⟨by decide, by decide⟩ dX9_step_2
  refine R_if_eq (tgt := 31) dX9_step_5 (by decide) (fun hc => ?_) (fun hc => ?_)
  · have h := hit_t h hc
    refine R_ldc (v := (-1000000)) mw_948 dX9_step_31 ?_
    exact R_iret dX9_step_33 rfl h
  · have h := hit_f h hc
    refine R_iload_n (i := 2) dX9_step_8 rfl rfl ?_
    refine R_if_lt (tgt := 31) dX9_step_9 (by decide) (fun hc => ?_) (fun hc => ?_)
    · have h := hit_t h hc
      refine R_ldc (v := (-1000000)) mw_948 dX9_step_31 ?_
      exact R_iret dX9_step_33 rfl h
    · have h := hit_f h hc
      refine R_iload_n (i := 2) dX9_step_12 rfl rfl ?_
      refine R_aload_n (i := 0) dX9_step_13 rfl rfl ?_
      refine R_get foX9_30 hL0 (cE_9 Ω 0 _) rfl dX9_step_14 ?_
      refine R_iload_n (i := 1) dX9_step_17 rfl rfl ?_
      obtain ⟨hb, h⟩ := hit_bnd h
      refine R_iald (WF.kid hW 3 hL0 rfl) (cE_21 Ω 0 _) hb dX9_step_18 ?_
      refine R_icmp_ge (tgt := 31) dX9_step_19 (by decide) (fun hc => ?_) (fun hc => ?_)
      · have h := hit_f h hc
        refine R_ldc (v := (-1000000)) mw_948 dX9_step_31 ?_
        exact R_iret dX9_step_33 rfl h
      · have h := hit_t h hc
        refine R_iload_n (i := 3) dX9_step_22 rfl rfl ?_
        refine R_if_lt (tgt := 31) dX9_step_23 (by decide) (fun hc => ?_) (fun hc => ?_)
        · have h := hit_t h hc
          refine R_ldc (v := (-1000000)) mw_948 dX9_step_31 ?_
          exact R_iret dX9_step_33 rfl h
        · have h := hit_f h hc
          refine R_iload_n (i := 3) dX9_step_26 rfl rfl ?_
          refine R_iconst (v := 5) dX9_step_27 rfl ?_
          refine R_icmp_lt (tgt := 34) dX9_step_28 (by decide) (fun hc => ?_) (fun hc => ?_)
          · have h := hit_t h hc
            refine R_aload_n (i := 0) dX9_step_34 rfl rfl ?_
            refine R_get foX9_27 hL0 (cE_9 Ω 0 _) rfl dX9_step_35 ?_
            refine R_iload_n (i := 1) dX9_step_38 rfl rfl ?_
            obtain ⟨hb3, h⟩ := hit_bnd h
            refine R_scripts (WF.kid hW 2 hL0 rfl) hb3 dX9_step_39 ?_
            refine R_iload_n (i := 2) dX9_step_40 rfl rfl ?_
            refine R_iconst (v := 5) dX9_step_41 rfl ?_
            refine R_imul dX9_step_42 ?_
            refine R_iload_n (i := 3) dX9_step_43 rfl rfl ?_
            refine R_iadd dX9_step_44 ?_
            obtain ⟨hb, h⟩ := hit_bnd h
            refine R_iald (sc_kid hW (WF.kid hW 2 hL0 rfl) hb3) (cE_24 Ω (ix x1) _) hb dX9_step_45 ?_
            exact R_iret dX9_step_46 rfl h
          · have h := hit_f h hc
            refine R_ldc (v := (-1000000)) mw_948 dX9_step_31 ?_
            exact R_iret dX9_step_33 rfl h
set_option maxRecDepth 100000 in
set_option maxHeartbeats 4000000 in
theorem ctX9_reachedCount (l : Launch) (Ω : rO) (hL0 : oL Ω 9 0) (σ : rS) (K : Int32 → rS → Prop) (h : hit (fX9_reachedCount  σ) K) : Ct l Ω yX9_reachedCount cX9_reachedCount 1 (some .int) rmX9_reachedCount [rf Ω 9 0] σ K := by
  refine Ct.of (own := RX9) (lv := [some (rf Ω 9 0)]) (by decide) rfl (Nat.le_of_ble_eq_true rfl) rfl (fun hW => ?_)
  unfold fX9_reachedCount at h
  refine R_aload_n (i := 0) dX9_reachedCount_0 rfl rfl ?_
  refine R_get foX9_60 hL0 (cE_9 Ω 0 _) rfl dX9_reachedCount_1 ?_
  refine R_aload_n (i := 0) dX9_reachedCount_4 rfl rfl ?_
  refine R_get foX9_40 hL0 (cE_9 Ω 0 _) rfl dX9_reachedCount_5 ?_
  refine R_iconst (v := (-1)) dX9_reachedCount_8 rfl ?_
  refine R_callVv (ctX3_reach l Ω 0 (-1) (WF.kid hW 9 hL0 rfl) (WF.kid hW 5 hL0 rfl) _ _ (hit_mono (hit_bd h) (fun r1 σ2 h => ?_))) okX3_reach mw_985 (WF.kid hW 9 hL0 rfl) (cE_3 Ω 0 _) rfl rfl (Nat.le_of_ble_eq_true rfl) rfl rfl ⟨by decide, by decide⟩ dX9_reachedCount_9
  refine R_aload_n (i := 0) dX9_reachedCount_12 rfl rfl ?_
  refine R_get foX9_60 hL0 (cE_9 Ω 0 _) rfl dX9_reachedCount_13 ?_
  refine R_get foX9_285 (WF.kid hW 9 hL0 rfl) (cE_3 Ω 0 _) rfl dX9_reachedCount_16 ?_
  exact R_iret dX9_reachedCount_19 rfl h
set_option maxRecDepth 100000 in
set_option maxHeartbeats 4000000 in
theorem ctX9_image (l : Launch) (Ω : rO) (hL0 : oL Ω 9 0) (σ : rS) (K : Int32 → rS → Prop) (h : hit (fX9_image  σ) K) : Ct l Ω yX9_image cX9_image 1 (some .int) rmX9_image [rf Ω 9 0] σ K := by
  refine Ct.of (own := RX9) (lv := [some (rf Ω 9 0)]) (by decide) rfl (Nat.le_of_ble_eq_true rfl) rfl (fun hW => ?_)
  unfold fX9_image at h
  refine R_aload_n (i := 0) dX9_image_0 rfl rfl ?_
  refine R_get foX9_117 hL0 (cE_9 Ω 0 _) rfl dX9_image_1 ?_
  refine R_if_ne (tgt := 9) dX9_image_4 (by decide) (fun hc => ?_) (fun hc => ?_)
  · have h := hit_f h hc
    refine R_aload_n (i := 0) dX9_image_9 rfl rfl ?_
    refine R_get foX9_44 hL0 (cE_9 Ω 0 _) rfl dX9_image_10 ?_
    refine R_aload_n (i := 0) dX9_image_13 rfl rfl ?_
    refine R_get foX9_40 hL0 (cE_9 Ω 0 _) rfl dX9_image_14 ?_
    refine R_callVv (ctX7_copyFrom l Ω 1 0 (WF.kid hW 6 hL0 rfl) (WF.kid hW 5 hL0 rfl) _ _ (hit_mono (hit_bd h) (fun r1 σ2 h => ?_))) okX7_copyFrom mw_962 (WF.kid hW 6 hL0 rfl) (cE_7 Ω 1 _) rfl rfl (Nat.le_of_ble_eq_true rfl) rfl rfl ⟨by decide, by decide⟩ dX9_image_17
    refine R_aload_n (i := 0) dX9_image_20 rfl rfl ?_
    refine R_iconst (v := 1) dX9_image_21 rfl ?_
    refine R_putz poX9_121 hL0 (cE_9 Ω 0 _) (cP_9_7 Ω 0 _ _) (Nat.le_of_ble_eq_true rfl) (Or.inr rfl) dX9_image_22 ?_
    refine R_st h (fun σ3 h => ?_)
    refine R_aload_n (i := 0) dX9_image_25 rfl rfl ?_
    refine R_get foX9_40 hL0 (cE_9 Ω 0 _) rfl dX9_image_26 ?_
    refine R_callVi (ctX7_cellsInUse l Ω 0 (WF.kid hW 5 hL0 rfl) _ _ (hit_mono (hit_bd h) (fun r4 σ5 h => ?_))) okX7_cellsInUse mw_931 (WF.kid hW 5 hL0 rfl) (cE_7 Ω 0 _) rfl rfl (Nat.le_of_ble_eq_true rfl) rfl rfl ⟨by decide, by decide⟩ dX9_image_29
    exact R_iret dX9_image_32 rfl h
  · have h := hit_t h hc
    refine R_iconst (v := (-1)) dX9_image_7 rfl ?_
    exact R_iret dX9_image_8 rfl h
set_option maxRecDepth 100000 in
set_option maxHeartbeats 4000000 in
theorem ctX9_back (l : Launch) (Ω : rO) (hL0 : oL Ω 9 0) (σ : rS) (K : Int32 → rS → Prop) (h : hit (fX9_back  σ) K) : Ct l Ω yX9_back cX9_back 1 (some .int) rmX9_back [rf Ω 9 0] σ K := by
  refine Ct.of (own := RX9) (lv := [some (rf Ω 9 0)]) (by decide) rfl (Nat.le_of_ble_eq_true rfl) rfl (fun hW => ?_)
  unfold fX9_back at h
  refine R_aload_n (i := 0) dX9_back_0 rfl rfl ?_
  refine R_get foX9_117 hL0 (cE_9 Ω 0 _) rfl dX9_back_1 ?_
  refine R_if_eq (tgt := 14) dX9_back_4 (by decide) (fun hc => ?_) (fun hc => ?_)
  · have h := hit_t h hc
    refine R_iconst (v := (-1)) dX9_back_14 rfl ?_
    exact R_iret dX9_back_15 rfl h
  · have h := hit_f h hc
    refine R_aload_n (i := 0) dX9_back_7 rfl rfl ?_
    refine R_get foX9_121 hL0 (cE_9 Ω 0 _) rfl dX9_back_8 ?_
    refine R_if_ne (tgt := 16) dX9_back_11 (by decide) (fun hc => ?_) (fun hc => ?_)
    · have h := hit_f h hc
      refine R_aload_n (i := 0) dX9_back_16 rfl rfl ?_
      refine R_get foX9_40 hL0 (cE_9 Ω 0 _) rfl dX9_back_17 ?_
      refine R_aload_n (i := 0) dX9_back_20 rfl rfl ?_
      refine R_get foX9_44 hL0 (cE_9 Ω 0 _) rfl dX9_back_21 ?_
      refine R_callVv (ctX7_copyFrom l Ω 0 1 (WF.kid hW 5 hL0 rfl) (WF.kid hW 6 hL0 rfl) _ _ (hit_mono (hit_bd h) (fun r1 σ2 h => ?_))) okX7_copyFrom mw_962 (WF.kid hW 5 hL0 rfl) (cE_7 Ω 0 _) rfl rfl (Nat.le_of_ble_eq_true rfl) rfl rfl ⟨by decide, by decide⟩ dX9_back_24
      refine R_aload_n (i := 0) dX9_back_27 rfl rfl ?_
      refine R_get foX9_53 hL0 (cE_9 Ω 0 _) rfl dX9_back_28 ?_
      refine R_iconst (v := 0) dX9_back_31 rfl ?_
      refine R_put poX9_127 (WF.kid hW 8 hL0 rfl) (cE_5 Ω 0 _) (cP_5_2 Ω 0 _ _) (Nat.le_of_ble_eq_true rfl) dX9_back_32 ?_
      refine R_st h (fun σ3 h => ?_)
      refine R_aload_n (i := 0) dX9_back_35 rfl rfl ?_
      refine R_get foX9_40 hL0 (cE_9 Ω 0 _) rfl dX9_back_36 ?_
      refine R_callVi (ctX7_cellsInUse l Ω 0 (WF.kid hW 5 hL0 rfl) _ _ (hit_mono (hit_bd h) (fun r4 σ5 h => ?_))) okX7_cellsInUse mw_931 (WF.kid hW 5 hL0 rfl) (cE_7 Ω 0 _) rfl rfl (Nat.le_of_ble_eq_true rfl) rfl rfl ⟨by decide, by decide⟩ dX9_back_39
      exact R_iret dX9_back_42 rfl h
    · have h := hit_t h hc
      refine R_iconst (v := (-1)) dX9_back_14 rfl ?_
      exact R_iret dX9_back_15 rfl h
set_option maxRecDepth 100000 in
set_option maxHeartbeats 4000000 in
theorem ctX9_count (l : Launch) (Ω : rO) (x1 : Int32) (hL0 : oL Ω 9 0) (σ : rS) (K : Int32 → rS → Prop) (h : hit (fX9_count x1 σ) K) : Ct l Ω yX9_count cX9_count 2 (some .int) rmX9_count [rf Ω 9 0, .int x1] σ K := by
  refine Ct.of (own := RX9) (lv := [some (rf Ω 9 0), some (.int x1)]) (by decide) rfl (Nat.le_of_ble_eq_true rfl) rfl (fun hW => ?_)
  unfold fX9_count at h
  refine R_iload_n (i := 1) dX9_count_0 rfl rfl ?_
  by_cases hs0 : x1 = 0
  · have h := hit_t h hs0
    refine R_tableIn (tgt := 36) dX9_count_1 (by rw [hs0]; decide) (by rw [hs0]; decide) (by rw [hs0]; rfl) (by decide) ?_
    refine R_aload_n (i := 0) dX9_count_36 rfl rfl ?_
    refine R_get foX9_40 hL0 (cE_9 Ω 0 _) rfl dX9_count_37 ?_
    refine R_get foX9_322 (WF.kid hW 5 hL0 rfl) (cE_7 Ω 0 _) rfl dX9_count_40 ?_
    exact R_iret dX9_count_43 rfl h
  · have h := hit_f h hs0
    by_cases hs1 : x1 = 1
    · have h := hit_t h hs1
      refine R_tableIn (tgt := 44) dX9_count_1 (by rw [hs1]; decide) (by rw [hs1]; decide) (by rw [hs1]; rfl) (by decide) ?_
      refine R_aload_n (i := 0) dX9_count_44 rfl rfl ?_
      refine R_get foX9_128 hL0 (cE_9 Ω 0 _) rfl dX9_count_45 ?_
      exact R_iret dX9_count_48 rfl h
    · have h := hit_f h hs1
      by_cases hs2 : x1 = 2
      · have h := hit_t h hs2
        refine R_tableIn (tgt := 49) dX9_count_1 (by rw [hs2]; decide) (by rw [hs2]; decide) (by rw [hs2]; rfl) (by decide) ?_
        refine R_aload_n (i := 0) dX9_count_49 rfl rfl ?_
        refine R_get foX9_10 hL0 (cE_9 Ω 0 _) rfl dX9_count_50 ?_
        refine R_get foX9_89 (WF.kid hW 0 hL0 rfl) (cE_8 Ω 0 _) rfl dX9_count_53 ?_
        exact R_iret dX9_count_56 rfl h
      · have h := hit_f h hs2
        by_cases hs3 : x1 = 3
        · have h := hit_t h hs3
          refine R_tableIn (tgt := 57) dX9_count_1 (by rw [hs3]; decide) (by rw [hs3]; decide) (by rw [hs3]; rfl) (by decide) ?_
          refine R_aload_n (i := 0) dX9_count_57 rfl rfl ?_
          refine R_get foX9_40 hL0 (cE_9 Ω 0 _) rfl dX9_count_58 ?_
          refine R_get foX9_246 (WF.kid hW 5 hL0 rfl) (cE_7 Ω 0 _) rfl dX9_count_61 ?_
          refine R_get foX9_249 (WF.kid hW 14 (WF.kid hW 5 hL0 rfl) rfl) (cE_4 Ω (6 * 0 + 3) _) rfl dX9_count_64 ?_
          exact R_iret dX9_count_67 rfl h
        · have h := hit_f h hs3
          by_cases hs4 : x1 = 4
          · have h := hit_t h hs4
            refine R_tableIn (tgt := 68) dX9_count_1 (by rw [hs4]; decide) (by rw [hs4]; decide) (by rw [hs4]; rfl) (by decide) ?_
            refine R_aload_n (i := 0) dX9_count_68 rfl rfl ?_
            refine R_get foX9_53 hL0 (cE_9 Ω 0 _) rfl dX9_count_69 ?_
            refine R_get foX9_127 (WF.kid hW 8 hL0 rfl) (cE_5 Ω 0 _) rfl dX9_count_72 ?_
            exact R_iret dX9_count_75 rfl h
          · have h := hit_f h hs4
            refine R_sw (tgt := 76) (lo := 0) (hi := 4) dX9_count_1 (fun z1 z2 => ?_) (by decide) ?_
            · have e : x1.toInt = 0 ∨ x1.toInt = 1 ∨ x1.toInt = 2 ∨ x1.toInt = 3 ∨ x1.toInt = 4 := by omega
              rcases e with e | e | e | e | e
              · exact absurd (Int32.toInt_inj.mp (e.trans (by decide : (0 : Int) = (0 : Int32).toInt))) hs0
              · exact absurd (Int32.toInt_inj.mp (e.trans (by decide : (1 : Int) = (1 : Int32).toInt))) hs1
              · exact absurd (Int32.toInt_inj.mp (e.trans (by decide : (2 : Int) = (2 : Int32).toInt))) hs2
              · exact absurd (Int32.toInt_inj.mp (e.trans (by decide : (3 : Int) = (3 : Int32).toInt))) hs3
              · exact absurd (Int32.toInt_inj.mp (e.trans (by decide : (4 : Int) = (4 : Int32).toInt))) hs4
            refine R_ldc (v := (-1000000)) mw_948 dX9_count_76 ?_
            exact R_iret dX9_count_78 rfl h
set_option maxRecDepth 100000 in
set_option maxHeartbeats 4000000 in
theorem ctX10_thrown (l : Launch) (Ω : rO) (hL0 : oL Ω 10 0) (σ : rS) (K : Int32 → rS → Prop) (h : hit (fX10_thrown  σ) K) : Ct l Ω yX10_thrown cX10_thrown 1 (some .int) rmX10_thrown [rf Ω 10 0] σ K := by
  refine Ct.of (own := RX10) (lv := [some (rf Ω 10 0)]) (by decide) rfl (Nat.le_of_ble_eq_true rfl) rfl (fun hW => ?_)
  unfold fX10_thrown at h
  refine R_aload_n (i := 0) dX10_thrown_0 rfl rfl ?_
  refine R_get foX10_73 hL0 (cE_10 Ω 0 _) rfl dX10_thrown_1 ?_
  exact R_iret dX10_thrown_4 rfl h
set_option maxRecDepth 100000 in
set_option maxHeartbeats 4000000 in
theorem ctX10_isIn (l : Launch) (Ω : rO) (x0 : Int64) (x2 : Int64) (x4 : Int64) (σ : rS) (K : Int32 → rS → Prop) (h : hit (fX10_isIn x0 x2 x4 σ) K) : Ct l Ω yX10_isIn cX10_isIn 6 (some .boolean) rmX10_isIn [.long x0, .long x2, .long x4] σ K := by
  refine Ct.of (own := RX10) (lv := [some (.long x0), none, some (.long x2), none, some (.long x4), none]) (by decide) rfl (Nat.le_of_ble_eq_true rfl) rfl (fun hW => ?_)
  unfold fX10_isIn at h
  refine R_lload_n (i := 0) dX10_isIn_0 rfl rfl ?_
  refine R_lload_n (i := 2) dX10_isIn_1 rfl rfl ?_
  refine R_lcmp dX10_isIn_2 ?_
  refine R_if_lt (tgt := 17) dX10_isIn_3 (by decide) (fun hc => ?_) (fun hc => ?_)
  · have h := hit_t h hc
    refine R_iconst (v := 0) dX10_isIn_17 rfl ?_
    exact R_zret dX10_isIn_18 rfl (Or.inl rfl) h
  · have h := hit_f h hc
    refine R_lload_n (i := 0) dX10_isIn_6 rfl rfl ?_
    refine R_lload (i := 4) dX10_isIn_7 rfl ?_
    refine R_lcmp dX10_isIn_9 ?_
    refine R_if_gt (tgt := 17) dX10_isIn_10 (by decide) (fun hc => ?_) (fun hc => ?_)
    · have h := hit_t h hc
      refine R_iconst (v := 0) dX10_isIn_17 rfl ?_
      exact R_zret dX10_isIn_18 rfl (Or.inl rfl) h
    · have h := hit_f h hc
      refine R_iconst (v := 1) dX10_isIn_13 rfl ?_
      refine R_goto (tgt := 18) dX10_isIn_14 (by decide) ?_
      exact R_zret dX10_isIn_18 rfl (Or.inr rfl) h
set_option maxRecDepth 100000 in
set_option maxHeartbeats 4000000 in
theorem rnX10_bytesOf_j28L4 {l : Launch} {Ω : rO} (hW : WF Ω) (x0 : Int32) (x2 : Int32) (z0 : Int32) (z1 : Int32) (σ : rS) {K : Int32 → rS → Prop} {K0 : ((Int32 × Int32) ⊕ Int32) → rS → Prop} (hC : ∀ (x1 : Int32) (x2 : Int32) (σ : rS), K0 (.inl (x1, x2)) σ → Run l Ω cX10_bytesOf RX10 3 (some .int) rmX10_bytesOf K 4 [some (.int x0), some (.int x1), some (.int x2)] [] σ) (hE0 : ∀ (e : Int32) (σ : rS), K0 (.inr e) σ → Run l Ω cX10_bytesOf RX10 3 (some .int) rmX10_bytesOf K 36 [none, some (.int e), none] [] σ) (h : hit (fX10_bytesOf_j28L4 x0 x2 z0 z1 σ) K0) : Run l Ω cX10_bytesOf RX10 3 (some .int) rmX10_bytesOf K 28 [some (.int x0), none, some (.int x2)] [.int z0, .int z1] σ := by
  unfold fX10_bytesOf_j28L4 at h
  refine R_iadd dX10_bytesOf_28 ?_
  refine R_topi h (fun y1 h => ?_)
  refine R_istore_n (lv2 := [some (.int x0), some (.int y1), some (.int x2)]) dX10_bytesOf_29 rfl (by decide) rfl rfl ?_
  refine R_iinc (v := x2 + 1) (lv2 := [some (.int x0), some (.int y1), some (.int (x2 + 1))]) dX10_bytesOf_30 rfl rfl (by decide) rfl rfl ?_
  refine R_goto (tgt := 4) dX10_bytesOf_33 (by decide) ?_
  exact hC y1 (x2 + 1) σ h
set_option maxRecDepth 100000 in
set_option maxHeartbeats 4000000 in
theorem rsX10_bytesOf_L4 {l : Launch} {Ω : rO} (hW : WF Ω) (x0 : Int32) (x1 : Int32) (x2 : Int32) (σ : rS) {K : Int32 → rS → Prop} {K0 : ((Int32 × Int32) ⊕ Int32) → rS → Prop} (hC : ∀ (x1 : Int32) (x2 : Int32) (σ : rS), K0 (.inl (x1, x2)) σ → Run l Ω cX10_bytesOf RX10 3 (some .int) rmX10_bytesOf K 4 [some (.int x0), some (.int x1), some (.int x2)] [] σ) (hE0 : ∀ (e : Int32) (σ : rS), K0 (.inr e) σ → Run l Ω cX10_bytesOf RX10 3 (some .int) rmX10_bytesOf K 36 [none, some (.int e), none] [] σ) (h : hit (fX10_bytesOf_L4 x0 x1 x2 σ) K0) : Run l Ω cX10_bytesOf RX10 3 (some .int) rmX10_bytesOf K 4 [some (.int x0), some (.int x1), some (.int x2)] [] σ := by
  unfold fX10_bytesOf_L4 at h
  refine R_iload_n (i := 2) dX10_bytesOf_4 rfl rfl ?_
  refine R_iconst (v := 4) dX10_bytesOf_5 rfl ?_
  refine R_icmp_ge (tgt := 36) dX10_bytesOf_6 (by decide) (fun hc => ?_) (fun hc => ?_)
  · have h := hit_f h hc
    refine R_drop (lv2 := [none, some (.int x1), some (.int x2)]) 0 rfl ?_
    refine R_drop (lv2 := [none, some (.int x1), none]) 2 rfl ?_
    exact hE0 x1 σ h
  · have h := hit_t h hc
    refine R_iload_n (i := 1) dX10_bytesOf_9 rfl rfl ?_
    refine R_iload_n (i := 0) dX10_bytesOf_10 rfl rfl ?_
    refine R_bipush (v := 8) dX10_bytesOf_11 rfl ?_
    refine R_iload_n (i := 2) dX10_bytesOf_13 rfl rfl ?_
    refine R_imul dX10_bytesOf_14 ?_
    refine R_ishr dX10_bytesOf_15 ?_
    refine R_sipush (v := 255) dX10_bytesOf_16 rfl ?_
    refine R_iand dX10_bytesOf_19 ?_
    refine R_if_ne (tgt := 27) dX10_bytesOf_20 (by decide) (fun hc => ?_) (fun hc => ?_)
    · have h := hit_f h hc
      refine R_iconst (v := 1) dX10_bytesOf_27 rfl ?_
      refine R_drop (lv2 := [some (.int x0), none, some (.int x2)]) 1 rfl ?_
      exact rnX10_bytesOf_j28L4 hW x0 x2 1 x1 σ hC hE0 h
    · have h := hit_t h hc
      refine R_iconst (v := 0) dX10_bytesOf_23 rfl ?_
      refine R_goto (tgt := 28) dX10_bytesOf_24 (by decide) ?_
      refine R_drop (lv2 := [some (.int x0), none, some (.int x2)]) 1 rfl ?_
      exact rnX10_bytesOf_j28L4 hW x0 x2 0 x1 σ hC hE0 h
set_option maxRecDepth 100000 in
set_option maxHeartbeats 4000000 in
theorem rlX10_bytesOf_L4 {l : Launch} {Ω : rO} (hW : WF Ω) (x0 : Int32) {K : Int32 → rS → Prop} {KE : Int32 → rS → Prop} (hE0 : ∀ (e : Int32) (σ : rS), KE e σ → Run l Ω cX10_bytesOf RX10 3 (some .int) rmX10_bytesOf K 36 [none, some (.int e), none] [] σ) : ∀ (n : Nat) (x1 : Int32) (x2 : Int32) (σ : rS), hit (lp (fun (x : (Int32 × Int32)) σ => fX10_bytesOf_L4 x0 x.1 x.2 σ) n (x1, x2) σ) KE → Run l Ω cX10_bytesOf RX10 3 (some .int) rmX10_bytesOf K 4 [some (.int x0), some (.int x1), some (.int x2)] [] σ := by
  intro n
  induction n with
  | zero => intro x1 x2 σ h; exact (h : False).elim
  | succ n ih =>
    intro x1 x2 σ h
    exact rsX10_bytesOf_L4 hW x0 x1 x2 σ (fun x1 x2 σ h => ih x1 x2 σ h) (fun e σ h => hE0 e σ h) (hit_lp h)
set_option maxRecDepth 100000 in
set_option maxHeartbeats 4000000 in
theorem ctX10_bytesOf (l : Launch) (Ω : rO) (x0 : Int32) (σ : rS) (K : Int32 → rS → Prop) (h : hit (fX10_bytesOf x0 σ) K) : Ct l Ω yX10_bytesOf cX10_bytesOf 3 (some .int) rmX10_bytesOf [.int x0] σ K := by
  refine Ct.of (own := RX10) (lv := [some (.int x0), none, none]) (by decide) rfl (Nat.le_of_ble_eq_true rfl) rfl (fun hW => ?_)
  unfold fX10_bytesOf at h
  refine R_iconst (v := 0) dX10_bytesOf_0 rfl ?_
  refine R_istore_n (lv2 := [some (.int x0), some (.int 0), none]) dX10_bytesOf_1 rfl (by decide) rfl rfl ?_
  refine R_iconst (v := 0) dX10_bytesOf_2 rfl ?_
  refine R_istore_n (lv2 := [some (.int x0), some (.int 0), some (.int 0)]) dX10_bytesOf_3 rfl (by decide) rfl rfl ?_
  refine rlX10_bytesOf_L4 hW x0 ?_ fu 0 0 σ (hit_bd h)
  · intro e3 σ2 h
    try dsimp only at h
    refine R_iload_n (i := 1) dX10_bytesOf_36 rfl rfl ?_
    exact R_iret dX10_bytesOf_37 rfl h
set_option maxRecDepth 100000 in
set_option maxHeartbeats 4000000 in
theorem rnX10_brings_j43L3 {l : Launch} {Ω : rO} (hW : WF Ω) (x1 : Int32) (x2 : Int32) (hL0 : oL Ω 10 0) (σ : rS) {K : Int32 → rS → Prop} {K0 : (Int32 ⊕ Unit) → rS → Prop} (hC : ∀ (x2 : Int32) (σ : rS), K0 (.inl x2) σ → Run l Ω cX10_brings RX10 4 none rmX10_brings K 3 [some (rf Ω 10 0), some (.int x1), some (.int x2), none] [] σ) (hE0 : ∀ (e : Unit) (σ : rS), K0 (.inr e) σ → Run l Ω cX10_brings RX10 4 none rmX10_brings K 49 [none, none, none, none] [] σ) (h : hit (fX10_brings_j43L3 x1 x2 σ) K0) : Run l Ω cX10_brings RX10 4 none rmX10_brings K 43 [some (rf Ω 10 0), some (.int x1), some (.int x2), none] [] σ := by
  unfold fX10_brings_j43L3 at h
  refine R_iinc (v := x2 + (-8)) (lv2 := [some (rf Ω 10 0), some (.int x1), some (.int (x2 + (-8))), none]) dX10_brings_43 rfl rfl (by decide) rfl rfl ?_
  refine R_goto (tgt := 3) dX10_brings_46 (by decide) ?_
  exact hC (x2 + (-8)) σ h
set_option maxRecDepth 100000 in
set_option maxHeartbeats 4000000 in
theorem rsX10_brings_L3 {l : Launch} {Ω : rO} (hW : WF Ω) (x1 : Int32) (x2 : Int32) (hL0 : oL Ω 10 0) (σ : rS) {K : Int32 → rS → Prop} {K0 : (Int32 ⊕ Unit) → rS → Prop} (hC : ∀ (x2 : Int32) (σ : rS), K0 (.inl x2) σ → Run l Ω cX10_brings RX10 4 none rmX10_brings K 3 [some (rf Ω 10 0), some (.int x1), some (.int x2), none] [] σ) (hE0 : ∀ (e : Unit) (σ : rS), K0 (.inr e) σ → Run l Ω cX10_brings RX10 4 none rmX10_brings K 49 [none, none, none, none] [] σ) (h : hit (fX10_brings_L3 x1 x2 σ) K0) : Run l Ω cX10_brings RX10 4 none rmX10_brings K 3 [some (rf Ω 10 0), some (.int x1), some (.int x2), none] [] σ := by
  unfold fX10_brings_L3 at h
  refine R_iload_n (i := 2) dX10_brings_3 rfl rfl ?_
  refine R_if_lt (tgt := 49) dX10_brings_4 (by decide) (fun hc => ?_) (fun hc => ?_)
  · have h := hit_t h hc
    refine R_drop (lv2 := [none, some (.int x1), some (.int x2), none]) 0 rfl ?_
    refine R_drop (lv2 := [none, none, some (.int x2), none]) 1 rfl ?_
    refine R_drop (lv2 := [none, none, none, none]) 2 rfl ?_
    exact hE0 () σ h
  · have h := hit_f h hc
    refine R_iload_n (i := 1) dX10_brings_7 rfl rfl ?_
    refine R_iload_n (i := 2) dX10_brings_8 rfl rfl ?_
    refine R_ishr dX10_brings_9 ?_
    refine R_sipush (v := 255) dX10_brings_10 rfl ?_
    refine R_iand dX10_brings_13 ?_
    refine R_topi h (fun y1 h => ?_)
    refine R_istore_n (lv2 := [some (rf Ω 10 0), some (.int x1), some (.int x2), some (.int y1)]) dX10_brings_14 rfl (by decide) rfl rfl ?_
    refine R_iload_n (i := 3) dX10_brings_15 rfl rfl ?_
    refine R_if_ne (tgt := 22) dX10_brings_16 (by decide) (fun hc => ?_) (fun hc => ?_)
    · have h := hit_f h hc
      refine R_aload_n (i := 0) dX10_brings_22 rfl rfl ?_
      refine R_get foX10_9 hL0 (cE_10 Ω 0 _) rfl dX10_brings_23 ?_
      refine R_aload_n (i := 0) dX10_brings_26 rfl rfl ?_
      refine R_get foX10_77 hL0 (cE_10 Ω 0 _) rfl dX10_brings_27 ?_
      refine R_iload_n (i := 3) dX10_brings_30 rfl rfl ?_
      refine R_i2b dX10_brings_31 ?_
      obtain ⟨hb, h⟩ := hit_bnd h
      refine R_bast (WF.kid hW 0 hL0 rfl) (cE_60 Ω 0) hb (pk_nb _) dX10_brings_32 ?_
      refine R_st h (fun σ2 h => ?_)
      refine R_aload_n (i := 0) dX10_brings_33 rfl rfl ?_
      refine R_dup dX10_brings_34 rfl ?_
      refine R_get foX10_77 hL0 (cE_10 Ω 0 _) rfl dX10_brings_35 ?_
      refine R_iconst (v := 1) dX10_brings_38 rfl ?_
      refine R_iadd dX10_brings_39 ?_
      refine R_put poX10_77 hL0 (cE_10 Ω 0 _) (cP_10_2 Ω 0 _ _) (Nat.le_of_ble_eq_true rfl) dX10_brings_40 ?_
      refine R_st h (fun σ3 h => ?_)
      refine R_drop (lv2 := [some (rf Ω 10 0), some (.int x1), some (.int x2), none]) 3 rfl ?_
      exact rnX10_brings_j43L3 hW x1 x2 hL0 σ3 hC hE0 h
    · have h := hit_t h hc
      refine R_goto (tgt := 43) dX10_brings_19 (by decide) ?_
      refine R_drop (lv2 := [some (rf Ω 10 0), some (.int x1), some (.int x2), none]) 3 rfl ?_
      exact rnX10_brings_j43L3 hW x1 x2 hL0 σ hC hE0 h
set_option maxRecDepth 100000 in
set_option maxHeartbeats 4000000 in
theorem rlX10_brings_L3 {l : Launch} {Ω : rO} (hW : WF Ω) (x1 : Int32) (hL0 : oL Ω 10 0) {K : Int32 → rS → Prop} {KE : Unit → rS → Prop} (hE0 : ∀ (e : Unit) (σ : rS), KE e σ → Run l Ω cX10_brings RX10 4 none rmX10_brings K 49 [none, none, none, none] [] σ) : ∀ (n : Nat) (x2 : Int32) (σ : rS), hit (lp (fun (x : Int32) σ => fX10_brings_L3 x1 x σ) n x2 σ) KE → Run l Ω cX10_brings RX10 4 none rmX10_brings K 3 [some (rf Ω 10 0), some (.int x1), some (.int x2), none] [] σ := by
  intro n
  induction n with
  | zero => intro x2 σ h; exact (h : False).elim
  | succ n ih =>
    intro x2 σ h
    exact rsX10_brings_L3 hW x1 x2 hL0 σ (fun x2 σ h => ih x2 σ h) (fun e σ h => hE0 e σ h) (hit_lp h)
set_option maxRecDepth 100000 in
set_option maxHeartbeats 4000000 in
theorem ctX10_brings (l : Launch) (Ω : rO) (x1 : Int32) (hL0 : oL Ω 10 0) (σ : rS) (K : Int32 → rS → Prop) (h : hit (fX10_brings x1 σ) K) : Ct l Ω yX10_brings cX10_brings 4 none rmX10_brings [rf Ω 10 0, .int x1] σ K := by
  refine Ct.of (own := RX10) (lv := [some (rf Ω 10 0), some (.int x1), none, none]) (by decide) rfl (Nat.le_of_ble_eq_true rfl) rfl (fun hW => ?_)
  unfold fX10_brings at h
  refine R_bipush (v := 24) dX10_brings_0 rfl ?_
  refine R_istore_n (lv2 := [some (rf Ω 10 0), some (.int x1), some (.int 24), none]) dX10_brings_2 rfl (by decide) rfl rfl ?_
  refine rlX10_brings_L3 hW x1 hL0 ?_ fu 24 σ (hit_bd h)
  · intro e5 σ4 h
    try dsimp only at h
    exact R_vret dX10_brings_49 rfl h
set_option maxRecDepth 100000 in
set_option maxHeartbeats 4000000 in
theorem ctX10_feed (l : Launch) (Ω : rO) (x1 : Int32) (x2 : Int32) (x3 : Int32) (x4 : Int32) (x5 : Int32) (hL0 : oL Ω 10 0) (σ : rS) (K : Int32 → rS → Prop) (h : hit (fX10_feed x1 x2 x3 x4 x5 σ) K) : Ct l Ω yX10_feed cX10_feed 6 (some .int) rmX10_feed [rf Ω 10 0, .int x1, .int x2, .int x3, .int x4, .int x5] σ K := by
  refine Ct.of (own := RX10) (lv := [some (rf Ω 10 0), some (.int x1), some (.int x2), some (.int x3), some (.int x4), some (.int x5)]) (by decide) rfl (Nat.le_of_ble_eq_true rfl) rfl (fun hW => ?_)
  unfold fX10_feed at h
  refine R_aload_n (i := 0) dX10_feed_0 rfl rfl ?_
  refine R_iconst (v := 0) dX10_feed_1 rfl ?_
  refine R_put poX10_73 hL0 (cE_10 Ω 0 _) (cP_10_0 Ω 0 _ _) (Nat.le_of_ble_eq_true rfl) dX10_feed_2 ?_
  refine R_st h (fun σ1 h => ?_)
  refine R_aload_n (i := 0) dX10_feed_5 rfl rfl ?_
  refine R_get foX10_77 hL0 (cE_10 Ω 0 _) rfl dX10_feed_6 ?_
  refine R_iload_n (i := 1) dX10_feed_9 rfl rfl ?_
  refine R_callSi (ctX10_bytesOf l Ω x1 _ _ (hit_mono (hit_bd h) (fun r2 σ3 h => ?_))) okX10_bytesOf mw_1300 rfl rfl (Nat.le_of_ble_eq_true rfl) rfl rfl ⟨by decide, by decide⟩ dX10_feed_10
  refine R_iadd dX10_feed_13 ?_
  refine R_iload_n (i := 2) dX10_feed_14 rfl rfl ?_
  refine R_callSi (ctX10_bytesOf l Ω x2 _ _ (hit_mono (hit_bd h) (fun r4 σ5 h => ?_))) okX10_bytesOf mw_1300 rfl rfl (Nat.le_of_ble_eq_true rfl) rfl rfl ⟨by decide, by decide⟩ dX10_feed_15
  refine R_iadd dX10_feed_18 ?_
  refine R_iload_n (i := 3) dX10_feed_19 rfl rfl ?_
  refine R_callSi (ctX10_bytesOf l Ω x3 _ _ (hit_mono (hit_bd h) (fun r6 σ7 h => ?_))) okX10_bytesOf mw_1300 rfl rfl (Nat.le_of_ble_eq_true rfl) rfl rfl ⟨by decide, by decide⟩ dX10_feed_20
  refine R_iadd dX10_feed_23 ?_
  refine R_iload (i := 4) dX10_feed_24 rfl ?_
  refine R_callSi (ctX10_bytesOf l Ω x4 _ _ (hit_mono (hit_bd h) (fun r8 σ9 h => ?_))) okX10_bytesOf mw_1300 rfl rfl (Nat.le_of_ble_eq_true rfl) rfl rfl ⟨by decide, by decide⟩ dX10_feed_26
  refine R_iadd dX10_feed_29 ?_
  refine R_iload (i := 5) dX10_feed_30 rfl ?_
  refine R_callSi (ctX10_bytesOf l Ω x5 _ _ (hit_mono (hit_bd h) (fun r10 σ11 h => ?_))) okX10_bytesOf mw_1300 rfl rfl (Nat.le_of_ble_eq_true rfl) rfl rfl ⟨by decide, by decide⟩ dX10_feed_32
  refine R_iadd dX10_feed_35 ?_
  refine R_sipush (v := 240) dX10_feed_36 rfl ?_
  refine R_icmp_le (tgt := 44) dX10_feed_39 (by decide) (fun hc => ?_) (fun hc => ?_)
  · have h := hit_f h hc
    refine R_aload_n (i := 0) dX10_feed_44 rfl rfl ?_
    refine R_iload_n (i := 1) dX10_feed_45 rfl rfl ?_
    refine R_callVv (ctX10_brings l Ω x1 hL0 _ _ (hit_mono (hit_bd h) (fun r12 σ13 h => ?_))) okX10_brings mw_1303 hL0 (cE_10 Ω 0 _) rfl rfl (Nat.le_of_ble_eq_true rfl) rfl rfl ⟨by decide, by decide⟩ dX10_feed_46
    refine R_aload_n (i := 0) dX10_feed_49 rfl rfl ?_
    refine R_iload_n (i := 2) dX10_feed_50 rfl rfl ?_
    refine R_callVv (ctX10_brings l Ω x2 hL0 _ _ (hit_mono (hit_bd h) (fun r14 σ15 h => ?_))) okX10_brings mw_1303 hL0 (cE_10 Ω 0 _) rfl rfl (Nat.le_of_ble_eq_true rfl) rfl rfl ⟨by decide, by decide⟩ dX10_feed_51
    refine R_aload_n (i := 0) dX10_feed_54 rfl rfl ?_
    refine R_iload_n (i := 3) dX10_feed_55 rfl rfl ?_
    refine R_callVv (ctX10_brings l Ω x3 hL0 _ _ (hit_mono (hit_bd h) (fun r16 σ17 h => ?_))) okX10_brings mw_1303 hL0 (cE_10 Ω 0 _) rfl rfl (Nat.le_of_ble_eq_true rfl) rfl rfl ⟨by decide, by decide⟩ dX10_feed_56
    refine R_aload_n (i := 0) dX10_feed_59 rfl rfl ?_
    refine R_iload (i := 4) dX10_feed_60 rfl ?_
    refine R_callVv (ctX10_brings l Ω x4 hL0 _ _ (hit_mono (hit_bd h) (fun r18 σ19 h => ?_))) okX10_brings mw_1303 hL0 (cE_10 Ω 0 _) rfl rfl (Nat.le_of_ble_eq_true rfl) rfl rfl ⟨by decide, by decide⟩ dX10_feed_62
    refine R_aload_n (i := 0) dX10_feed_65 rfl rfl ?_
    refine R_iload (i := 5) dX10_feed_66 rfl ?_
    refine R_callVv (ctX10_brings l Ω x5 hL0 _ _ (hit_mono (hit_bd h) (fun r20 σ21 h => ?_))) okX10_brings mw_1303 hL0 (cE_10 Ω 0 _) rfl rfl (Nat.le_of_ble_eq_true rfl) rfl rfl ⟨by decide, by decide⟩ dX10_feed_68
    refine R_aload_n (i := 0) dX10_feed_71 rfl rfl ?_
    refine R_get foX10_77 hL0 (cE_10 Ω 0 _) rfl dX10_feed_72 ?_
    exact R_iret dX10_feed_75 rfl h
  · have h := hit_t h hc
    refine R_iconst (v := (-1)) dX10_feed_42 rfl ?_
    exact R_iret dX10_feed_43 rfl h
set_option maxRecDepth 100000 in
set_option maxHeartbeats 4000000 in
theorem ctX10_end (l : Launch) (Ω : rO) (x1 : Int32) (hL0 : oL Ω 10 0) (σ : rS) (K : Int32 → rS → Prop) (h : hit (fX10_end x1 σ) K) : Ct l Ω yX10_end cX10_end 2 (some .boolean) rmX10_end [rf Ω 10 0, .int x1] σ K := by
  refine Ct.of (own := RX10) (lv := [some (rf Ω 10 0), some (.int x1)]) (by decide) rfl (Nat.le_of_ble_eq_true rfl) rfl (fun hW => ?_)
  unfold fX10_end at h
  refine R_aload_n (i := 0) dX10_end_0 rfl rfl ?_
  refine R_iconst (v := 0) dX10_end_1 rfl ?_
  refine R_put poX10_73 hL0 (cE_10 Ω 0 _) (cP_10_0 Ω 0 _ _) (Nat.le_of_ble_eq_true rfl) dX10_end_2 ?_
  refine R_st h (fun σ1 h => ?_)
  refine R_iload_n (i := 1) dX10_end_5 rfl rfl ?_
  refine R_if_lt (tgt := 17) dX10_end_6 (by decide) (fun hc => ?_) (fun hc => ?_)
  · have h := hit_t h hc
    refine R_iconst (v := 0) dX10_end_17 rfl ?_
    exact R_zret dX10_end_18 rfl (Or.inl rfl) h
  · have h := hit_f h hc
    refine R_iload_n (i := 1) dX10_end_9 rfl rfl ?_
    refine R_aload_n (i := 0) dX10_end_10 rfl rfl ?_
    refine R_get foX10_77 hL0 (cE_10 Ω 0 _) rfl dX10_end_11 ?_
    refine R_icmp_le (tgt := 19) dX10_end_14 (by decide) (fun hc => ?_) (fun hc => ?_)
    · have h := hit_f h hc
      refine R_aload_n (i := 0) dX10_end_19 rfl rfl ?_
      refine R_iload_n (i := 1) dX10_end_20 rfl rfl ?_
      refine R_put poX10_77 hL0 (cE_10 Ω 0 _) (cP_10_2 Ω 0 _ _) (Nat.le_of_ble_eq_true rfl) dX10_end_21 ?_
      refine R_st h (fun σ2 h => ?_)
      refine R_iconst (v := 1) dX10_end_24 rfl ?_
      exact R_zret dX10_end_25 rfl (Or.inr rfl) h
    · have h := hit_t h hc
      refine R_iconst (v := 0) dX10_end_17 rfl ?_
      exact R_zret dX10_end_18 rfl (Or.inl rfl) h
set_option maxRecDepth 100000 in
set_option maxHeartbeats 4000000 in
theorem ctX10_here (l : Launch) (Ω : rO) (hL0 : oL Ω 10 0) (σ : rS) (K : Int32 → rS → Prop) (h : hit (fX10_here  σ) K) : Ct l Ω yX10_here cX10_here 1 (some .int) rmX10_here [rf Ω 10 0] σ K := by
  refine Ct.of (own := RX10) (lv := [some (rf Ω 10 0)]) (by decide) rfl (Nat.le_of_ble_eq_true rfl) rfl (fun hW => ?_)
  unfold fX10_here at h
  refine R_aload_n (i := 0) dX10_here_0 rfl rfl ?_
  refine R_get foX10_88 hL0 (cE_10 Ω 0 _) rfl dX10_here_1 ?_
  refine R_aload_n (i := 0) dX10_here_4 rfl rfl ?_
  refine R_get foX10_77 hL0 (cE_10 Ω 0 _) rfl dX10_here_5 ?_
  refine R_icmp_ge (tgt := 27) dX10_here_8 (by decide) (fun hc => ?_) (fun hc => ?_)
  · have h := hit_f h hc
    refine R_iconst (v := (-1)) dX10_here_27 rfl ?_
    exact R_iret dX10_here_28 rfl h
  · have h := hit_t h hc
    refine R_aload_n (i := 0) dX10_here_11 rfl rfl ?_
    refine R_get foX10_9 hL0 (cE_10 Ω 0 _) rfl dX10_here_12 ?_
    refine R_aload_n (i := 0) dX10_here_15 rfl rfl ?_
    refine R_get foX10_88 hL0 (cE_10 Ω 0 _) rfl dX10_here_16 ?_
    obtain ⟨hb, h⟩ := hit_bnd h
    refine R_bald (WF.kid hW 0 hL0 rfl) (cE_60 Ω 0 _) hb dX10_here_19 ?_
    refine R_sipush (v := 255) dX10_here_20 rfl ?_
    refine R_iand dX10_here_23 ?_
    refine R_goto (tgt := 28) dX10_here_24 (by decide) ?_
    exact R_iret dX10_here_28 rfl h
set_option maxRecDepth 100000 in
set_option maxHeartbeats 4000000 in
theorem rsX10_look_L0 {l : Launch} {Ω : rO} (hW : WF Ω) (hL0 : oL Ω 10 0) (σ : rS) {K : Int32 → rS → Prop} {K0 : (Unit ⊕ Unit) → rS → Prop} (hC : ∀ (σ : rS), K0 (.inl ()) σ → Run l Ω cX10_look RX10 1 (some .int) rmX10_look K 0 [some (rf Ω 10 0)] [] σ) (hE0 : ∀ (e : Unit) (σ : rS), K0 (.inr e) σ → Run l Ω cX10_look RX10 1 (some .int) rmX10_look K 22 [some (rf Ω 10 0)] [] σ) (h : hit (fX10_look_L0  σ) K0) : Run l Ω cX10_look RX10 1 (some .int) rmX10_look K 0 [some (rf Ω 10 0)] [] σ := by
  unfold fX10_look_L0 at h
  refine R_aload_n (i := 0) dX10_look_0 rfl rfl ?_
  refine R_callVi (ctX10_here l Ω hL0 _ _ (hit_mono (hit_bd h) (fun r6 σ7 h => ?_))) okX10_here mw_1326 hL0 (cE_10 Ω 0 _) rfl rfl (Nat.le_of_ble_eq_true rfl) rfl rfl ⟨by decide, by decide⟩ dX10_look_1
  refine R_bipush (v := 32) dX10_look_4 rfl ?_
  refine R_icmp_ne (tgt := 22) dX10_look_6 (by decide) (fun hc => ?_) (fun hc => ?_)
  · have h := hit_f h hc
    exact hE0 () σ7 h
  · have h := hit_t h hc
    refine R_aload_n (i := 0) dX10_look_9 rfl rfl ?_
    refine R_dup dX10_look_10 rfl ?_
    refine R_get foX10_88 hL0 (cE_10 Ω 0 _) rfl dX10_look_11 ?_
    refine R_iconst (v := 1) dX10_look_14 rfl ?_
    refine R_iadd dX10_look_15 ?_
    refine R_put poX10_88 hL0 (cE_10 Ω 0 _) (cP_10_3 Ω 0 _ _) (Nat.le_of_ble_eq_true rfl) dX10_look_16 ?_
    refine R_st h (fun σ8 h => ?_)
    refine R_goto (tgt := 0) dX10_look_19 (by decide) ?_
    exact hC  σ8 h
set_option maxRecDepth 100000 in
set_option maxHeartbeats 4000000 in
theorem rlX10_look_L0 {l : Launch} {Ω : rO} (hW : WF Ω) (hL0 : oL Ω 10 0) {K : Int32 → rS → Prop} {KE : Unit → rS → Prop} (hE0 : ∀ (e : Unit) (σ : rS), KE e σ → Run l Ω cX10_look RX10 1 (some .int) rmX10_look K 22 [some (rf Ω 10 0)] [] σ) : ∀ (n : Nat) (σ : rS), hit (lp (fun (x : Unit) σ => fX10_look_L0  σ) n () σ) KE → Run l Ω cX10_look RX10 1 (some .int) rmX10_look K 0 [some (rf Ω 10 0)] [] σ := by
  intro n
  induction n with
  | zero => intro  σ h; exact (h : False).elim
  | succ n ih =>
    intro  σ h
    exact rsX10_look_L0 hW hL0 σ (fun  σ h => ih  σ h) (fun e σ h => hE0 e σ h) (hit_lp h)
set_option maxRecDepth 100000 in
set_option maxHeartbeats 4000000 in
theorem ctX10_look (l : Launch) (Ω : rO) (hL0 : oL Ω 10 0) (σ : rS) (K : Int32 → rS → Prop) (h : hit (fX10_look  σ) K) : Ct l Ω yX10_look cX10_look 1 (some .int) rmX10_look [rf Ω 10 0] σ K := by
  refine Ct.of (own := RX10) (lv := [some (rf Ω 10 0)]) (by decide) rfl (Nat.le_of_ble_eq_true rfl) rfl (fun hW => ?_)
  unfold fX10_look at h
  refine R_aload_n (i := 0) dX10_look_0 rfl rfl ?_
  refine R_callVi (ctX10_here l Ω hL0 _ _ (hit_mono (hit_bd h) (fun r1 σ2 h => ?_))) okX10_here mw_1326 hL0 (cE_10 Ω 0 _) rfl rfl (Nat.le_of_ble_eq_true rfl) rfl rfl ⟨by decide, by decide⟩ dX10_look_1
  refine R_bipush (v := 32) dX10_look_4 rfl ?_
  refine R_icmp_ne (tgt := 22) dX10_look_6 (by decide) (fun hc => ?_) (fun hc => ?_)
  · have h := hit_f h hc
    refine R_aload_n (i := 0) dX10_look_22 rfl rfl ?_
    refine R_callVi (ctX10_here l Ω hL0 _ _ (hit_mono (hit_bd h) (fun r3 σ4 h => ?_))) okX10_here mw_1326 hL0 (cE_10 Ω 0 _) rfl rfl (Nat.le_of_ble_eq_true rfl) rfl rfl ⟨by decide, by decide⟩ dX10_look_23
    exact R_iret dX10_look_26 rfl h
  · have h := hit_t h hc
    refine R_aload_n (i := 0) dX10_look_9 rfl rfl ?_
    refine R_dup dX10_look_10 rfl ?_
    refine R_get foX10_88 hL0 (cE_10 Ω 0 _) rfl dX10_look_11 ?_
    refine R_iconst (v := 1) dX10_look_14 rfl ?_
    refine R_iadd dX10_look_15 ?_
    refine R_put poX10_88 hL0 (cE_10 Ω 0 _) (cP_10_3 Ω 0 _ _) (Nat.le_of_ble_eq_true rfl) dX10_look_16 ?_
    refine R_st h (fun σ5 h => ?_)
    refine R_goto (tgt := 0) dX10_look_19 (by decide) ?_
    refine rlX10_look_L0 hW hL0 ?_ fu  σ5 (hit_bd h)
    · intro e10 σ9 h
      try dsimp only at h
      refine R_aload_n (i := 0) dX10_look_22 rfl rfl ?_
      refine R_callVi (ctX10_here l Ω hL0 _ _ (hit_mono (hit_bd h) (fun r11 σ12 h => ?_))) okX10_here mw_1326 hL0 (cE_10 Ω 0 _) rfl rfl (Nat.le_of_ble_eq_true rfl) rfl rfl ⟨by decide, by decide⟩ dX10_look_23
      exact R_iret dX10_look_26 rfl h
set_option maxRecDepth 100000 in
set_option maxHeartbeats 4000000 in
theorem ctX10_fails (l : Launch) (Ω : rO) (hL0 : oL Ω 10 0) (σ : rS) (K : Int32 → rS → Prop) (h : hit (fX10_fails  σ) K) : Ct l Ω yX10_fails cX10_fails 1 none rmX10_fails [rf Ω 10 0] σ K := by
  refine Ct.of (own := RX10) (lv := [some (rf Ω 10 0)]) (by decide) rfl (Nat.le_of_ble_eq_true rfl) rfl (fun hW => ?_)
  unfold fX10_fails at h
  refine R_aload_n (i := 0) dX10_fails_0 rfl rfl ?_
  refine R_get foX10_95 hL0 (cE_10 Ω 0 _) rfl dX10_fails_1 ?_
  refine R_iconst (v := (-1)) dX10_fails_4 rfl ?_
  refine R_icmp_ne (tgt := 16) dX10_fails_5 (by decide) (fun hc => ?_) (fun hc => ?_)
  · have h := hit_f h hc
    exact R_vret dX10_fails_16 rfl h
  · have h := hit_t h hc
    refine R_aload_n (i := 0) dX10_fails_8 rfl rfl ?_
    refine R_aload_n (i := 0) dX10_fails_9 rfl rfl ?_
    refine R_get foX10_88 hL0 (cE_10 Ω 0 _) rfl dX10_fails_10 ?_
    refine R_put poX10_95 hL0 (cE_10 Ω 0 _) (cP_10_4 Ω 0 _ _) (Nat.le_of_ble_eq_true rfl) dX10_fails_13 ?_
    refine R_st h (fun σ1 h => ?_)
    exact R_vret dX10_fails_16 rfl h
set_option maxRecDepth 100000 in
set_option maxHeartbeats 4000000 in
theorem ctX10_isDigit (l : Launch) (Ω : rO) (hL0 : oL Ω 10 0) (σ : rS) (K : Int32 → rS → Prop) (h : hit (fX10_isDigit  σ) K) : Ct l Ω yX10_isDigit cX10_isDigit 1 (some .boolean) rmX10_isDigit [rf Ω 10 0] σ K := by
  refine Ct.of (own := RX10) (lv := [some (rf Ω 10 0)]) (by decide) rfl (Nat.le_of_ble_eq_true rfl) rfl (fun hW => ?_)
  unfold fX10_isDigit at h
  refine R_aload_n (i := 0) dX10_isDigit_0 rfl rfl ?_
  refine R_callVi (ctX10_here l Ω hL0 _ _ (hit_mono (hit_bd h) (fun r1 σ2 h => ?_))) okX10_here mw_1326 hL0 (cE_10 Ω 0 _) rfl rfl (Nat.le_of_ble_eq_true rfl) rfl rfl ⟨by decide, by decide⟩ dX10_isDigit_1
  refine R_bipush (v := 48) dX10_isDigit_4 rfl ?_
  refine R_icmp_lt (tgt := 22) dX10_isDigit_6 (by decide) (fun hc => ?_) (fun hc => ?_)
  · have h := hit_t h hc
    refine R_iconst (v := 0) dX10_isDigit_22 rfl ?_
    exact R_zret dX10_isDigit_23 rfl (Or.inl rfl) h
  · have h := hit_f h hc
    refine R_aload_n (i := 0) dX10_isDigit_9 rfl rfl ?_
    refine R_callVi (ctX10_here l Ω hL0 _ _ (hit_mono (hit_bd h) (fun r3 σ4 h => ?_))) okX10_here mw_1326 hL0 (cE_10 Ω 0 _) rfl rfl (Nat.le_of_ble_eq_true rfl) rfl rfl ⟨by decide, by decide⟩ dX10_isDigit_10
    refine R_bipush (v := 57) dX10_isDigit_13 rfl ?_
    refine R_icmp_gt (tgt := 22) dX10_isDigit_15 (by decide) (fun hc => ?_) (fun hc => ?_)
    · have h := hit_t h hc
      refine R_iconst (v := 0) dX10_isDigit_22 rfl ?_
      exact R_zret dX10_isDigit_23 rfl (Or.inl rfl) h
    · have h := hit_f h hc
      refine R_iconst (v := 1) dX10_isDigit_18 rfl ?_
      refine R_goto (tgt := 23) dX10_isDigit_19 (by decide) ?_
      exact R_zret dX10_isDigit_23 rfl (Or.inr rfl) h
set_option maxRecDepth 100000 in
set_option maxHeartbeats 4000000 in
theorem rnX10_digit_j20 {l : Launch} {Ω : rO} (hW : WF Ω) (hL0 : oL Ω 10 0) (σ : rS) {K : Int32 → rS → Prop}  (h : hit (fX10_digit_j20  σ) K) : Run l Ω cX10_digit RX10 2 (some .int) rmX10_digit K 20 [some (rf Ω 10 0), none] [] σ := by
  unfold fX10_digit_j20 at h
  refine R_aload_n (i := 0) dX10_digit_20 rfl rfl ?_
  refine R_callVv (ctX10_fails l Ω hL0 _ _ (hit_mono (hit_bd h) (fun r3 σ4 h => ?_))) okX10_fails mw_1330 hL0 (cE_10 Ω 0 _) rfl rfl (Nat.le_of_ble_eq_true rfl) rfl rfl ⟨by decide, by decide⟩ dX10_digit_21
  refine R_iconst (v := 0) dX10_digit_24 rfl ?_
  exact R_iret dX10_digit_25 rfl h
set_option maxRecDepth 100000 in
set_option maxHeartbeats 4000000 in
theorem ctX10_digit (l : Launch) (Ω : rO) (hL0 : oL Ω 10 0) (σ : rS) (K : Int32 → rS → Prop) (h : hit (fX10_digit  σ) K) : Ct l Ω yX10_digit cX10_digit 2 (some .int) rmX10_digit [rf Ω 10 0] σ K := by
  refine Ct.of (own := RX10) (lv := [some (rf Ω 10 0), none]) (by decide) rfl (Nat.le_of_ble_eq_true rfl) rfl (fun hW => ?_)
  unfold fX10_digit at h
  refine R_aload_n (i := 0) dX10_digit_0 rfl rfl ?_
  refine R_callVi (ctX10_look l Ω hL0 _ _ (hit_mono (hit_bd h) (fun r1 σ2 h => ?_))) okX10_look mw_1322 hL0 (cE_10 Ω 0 _) rfl rfl (Nat.le_of_ble_eq_true rfl) rfl rfl ⟨by decide, by decide⟩ dX10_digit_1
  refine R_istore_n (lv2 := [some (rf Ω 10 0), some (.int r1)]) dX10_digit_4 rfl (by decide) rfl rfl ?_
  refine R_aload_n (i := 0) dX10_digit_5 rfl rfl ?_
  refine R_get foX10_95 hL0 (cE_10 Ω 0 _) rfl dX10_digit_6 ?_
  refine R_iconst (v := (-1)) dX10_digit_9 rfl ?_
  refine R_icmp_ne (tgt := 20) dX10_digit_10 (by decide) (fun hc => ?_) (fun hc => ?_)
  · have h := hit_f h hc
    refine R_drop (lv2 := [some (rf Ω 10 0), none]) 1 rfl ?_
    exact rnX10_digit_j20 hW hL0 σ2  h
  · have h := hit_t h hc
    refine R_aload_n (i := 0) dX10_digit_13 rfl rfl ?_
    refine R_callVi (ctX10_isDigit l Ω hL0 _ _ (hit_mono (hit_bd h) (fun r5 σ6 h => ?_))) okX10_isDigit mw_1367 hL0 (cE_10 Ω 0 _) rfl rfl (Nat.le_of_ble_eq_true rfl) rfl rfl ⟨by decide, by decide⟩ dX10_digit_14
    refine R_if_ne (tgt := 26) dX10_digit_17 (by decide) (fun hc => ?_) (fun hc => ?_)
    · have h := hit_f h hc
      refine R_aload_n (i := 0) dX10_digit_26 rfl rfl ?_
      refine R_dup dX10_digit_27 rfl ?_
      refine R_get foX10_88 hL0 (cE_10 Ω 0 _) rfl dX10_digit_28 ?_
      refine R_iconst (v := 1) dX10_digit_31 rfl ?_
      refine R_iadd dX10_digit_32 ?_
      refine R_put poX10_88 hL0 (cE_10 Ω 0 _) (cP_10_3 Ω 0 _ _) (Nat.le_of_ble_eq_true rfl) dX10_digit_33 ?_
      refine R_st h (fun σ7 h => ?_)
      refine R_iload_n (i := 1) dX10_digit_36 rfl rfl ?_
      refine R_bipush (v := 48) dX10_digit_37 rfl ?_
      refine R_isub dX10_digit_39 ?_
      exact R_iret dX10_digit_40 rfl h
    · have h := hit_t h hc
      refine R_drop (lv2 := [some (rf Ω 10 0), none]) 1 rfl ?_
      exact rnX10_digit_j20 hW hL0 σ6  h
set_option maxRecDepth 100000 in
set_option maxHeartbeats 4000000 in
theorem rsX10_number_L7 {l : Launch} {Ω : rO} (hW : WF Ω) (x1 : Int32) (x2 : Int32) (hL0 : oL Ω 10 0) (σ : rS) {K : Int32 → rS → Prop} {K0 : ((Int32 × Int32) ⊕ Int32) → rS → Prop} (hC : ∀ (x1 : Int32) (x2 : Int32) (σ : rS), K0 (.inl (x1, x2)) σ → Run l Ω cX10_number RX10 3 (some .int) rmX10_number K 7 [some (rf Ω 10 0), some (.int x1), some (.int x2)] [] σ) (hE0 : ∀ (e : Int32) (σ : rS), K0 (.inr e) σ → Run l Ω cX10_number RX10 3 (some .int) rmX10_number K 43 [some (rf Ω 10 0), some (.int e), none] [] σ) (h : hit (fX10_number_L7 x1 x2 σ) K0) : Run l Ω cX10_number RX10 3 (some .int) rmX10_number K 7 [some (rf Ω 10 0), some (.int x1), some (.int x2)] [] σ := by
  unfold fX10_number_L7 at h
  refine R_iload_n (i := 2) dX10_number_7 rfl rfl ?_
  refine R_iconst (v := 3) dX10_number_8 rfl ?_
  refine R_icmp_ge (tgt := 43) dX10_number_9 (by decide) (fun hc => ?_) (fun hc => ?_)
  · have h := hit_f h hc
    refine R_drop (lv2 := [some (rf Ω 10 0), some (.int x1), none]) 2 rfl ?_
    exact hE0 x1 σ h
  · have h := hit_t h hc
    refine R_aload_n (i := 0) dX10_number_12 rfl rfl ?_
    refine R_get foX10_95 hL0 (cE_10 Ω 0 _) rfl dX10_number_13 ?_
    refine R_iconst (v := (-1)) dX10_number_16 rfl ?_
    refine R_icmp_ne (tgt := 43) dX10_number_17 (by decide) (fun hc => ?_) (fun hc => ?_)
    · have h := hit_f h hc
      refine R_drop (lv2 := [some (rf Ω 10 0), some (.int x1), none]) 2 rfl ?_
      exact hE0 x1 σ h
    · have h := hit_t h hc
      refine R_aload_n (i := 0) dX10_number_20 rfl rfl ?_
      refine R_callVi (ctX10_isDigit l Ω hL0 _ _ (hit_mono (hit_bd h) (fun r3 σ4 h => ?_))) okX10_isDigit mw_1367 hL0 (cE_10 Ω 0 _) rfl rfl (Nat.le_of_ble_eq_true rfl) rfl rfl ⟨by decide, by decide⟩ dX10_number_21
      refine R_if_eq (tgt := 43) dX10_number_24 (by decide) (fun hc => ?_) (fun hc => ?_)
      · have h := hit_t h hc
        refine R_drop (lv2 := [some (rf Ω 10 0), some (.int x1), none]) 2 rfl ?_
        exact hE0 x1 σ4 h
      · have h := hit_f h hc
        refine R_bipush (v := 10) dX10_number_27 rfl ?_
        refine R_iload_n (i := 1) dX10_number_29 rfl rfl ?_
        refine R_imul dX10_number_30 ?_
        refine R_aload_n (i := 0) dX10_number_31 rfl rfl ?_
        refine R_callVi (ctX10_digit l Ω hL0 _ _ (hit_mono (hit_bd h) (fun r5 σ6 h => ?_))) okX10_digit mw_1363 hL0 (cE_10 Ω 0 _) rfl rfl (Nat.le_of_ble_eq_true rfl) rfl rfl ⟨by decide, by decide⟩ dX10_number_32
        refine R_iadd dX10_number_35 ?_
        refine R_topi h (fun y7 h => ?_)
        refine R_istore_n (lv2 := [some (rf Ω 10 0), some (.int y7), some (.int x2)]) dX10_number_36 rfl (by decide) rfl rfl ?_
        refine R_iinc (v := x2 + 1) (lv2 := [some (rf Ω 10 0), some (.int y7), some (.int (x2 + 1))]) dX10_number_37 rfl rfl (by decide) rfl rfl ?_
        refine R_goto (tgt := 7) dX10_number_40 (by decide) ?_
        exact hC y7 (x2 + 1) σ6 h
set_option maxRecDepth 100000 in
set_option maxHeartbeats 4000000 in
theorem rlX10_number_L7 {l : Launch} {Ω : rO} (hW : WF Ω) (hL0 : oL Ω 10 0) {K : Int32 → rS → Prop} {KE : Int32 → rS → Prop} (hE0 : ∀ (e : Int32) (σ : rS), KE e σ → Run l Ω cX10_number RX10 3 (some .int) rmX10_number K 43 [some (rf Ω 10 0), some (.int e), none] [] σ) : ∀ (n : Nat) (x1 : Int32) (x2 : Int32) (σ : rS), hit (lp (fun (x : (Int32 × Int32)) σ => fX10_number_L7 x.1 x.2 σ) n (x1, x2) σ) KE → Run l Ω cX10_number RX10 3 (some .int) rmX10_number K 7 [some (rf Ω 10 0), some (.int x1), some (.int x2)] [] σ := by
  intro n
  induction n with
  | zero => intro x1 x2 σ h; exact (h : False).elim
  | succ n ih =>
    intro x1 x2 σ h
    exact rsX10_number_L7 hW x1 x2 hL0 σ (fun x1 x2 σ h => ih x1 x2 σ h) (fun e σ h => hE0 e σ h) (hit_lp h)
set_option maxRecDepth 100000 in
set_option maxHeartbeats 4000000 in
theorem rnX10_number_j43 {l : Launch} {Ω : rO} (hW : WF Ω) (x1 : Int32) (hL0 : oL Ω 10 0) (σ : rS) {K : Int32 → rS → Prop}  (h : hit (fX10_number_j43 x1 σ) K) : Run l Ω cX10_number RX10 3 (some .int) rmX10_number K 43 [some (rf Ω 10 0), some (.int x1), none] [] σ := by
  unfold fX10_number_j43 at h
  refine R_aload_n (i := 0) dX10_number_43 rfl rfl ?_
  refine R_get foX10_95 hL0 (cE_10 Ω 0 _) rfl dX10_number_44 ?_
  refine R_iconst (v := (-1)) dX10_number_47 rfl ?_
  refine R_icmp_ne (tgt := 62) dX10_number_48 (by decide) (fun hc => ?_) (fun hc => ?_)
  · have h := hit_f h hc
    refine R_iload_n (i := 1) dX10_number_62 rfl rfl ?_
    exact R_iret dX10_number_63 rfl h
  · have h := hit_t h hc
    refine R_aload_n (i := 0) dX10_number_51 rfl rfl ?_
    refine R_callVi (ctX10_isDigit l Ω hL0 _ _ (hit_mono (hit_bd h) (fun r10 σ11 h => ?_))) okX10_isDigit mw_1367 hL0 (cE_10 Ω 0 _) rfl rfl (Nat.le_of_ble_eq_true rfl) rfl rfl ⟨by decide, by decide⟩ dX10_number_52
    refine R_if_eq (tgt := 62) dX10_number_55 (by decide) (fun hc => ?_) (fun hc => ?_)
    · have h := hit_t h hc
      refine R_iload_n (i := 1) dX10_number_62 rfl rfl ?_
      exact R_iret dX10_number_63 rfl h
    · have h := hit_f h hc
      refine R_aload_n (i := 0) dX10_number_58 rfl rfl ?_
      refine R_callVv (ctX10_fails l Ω hL0 _ _ (hit_mono (hit_bd h) (fun r12 σ13 h => ?_))) okX10_fails mw_1330 hL0 (cE_10 Ω 0 _) rfl rfl (Nat.le_of_ble_eq_true rfl) rfl rfl ⟨by decide, by decide⟩ dX10_number_59
      refine R_iload_n (i := 1) dX10_number_62 rfl rfl ?_
      exact R_iret dX10_number_63 rfl h
set_option maxRecDepth 100000 in
set_option maxHeartbeats 4000000 in
theorem ctX10_number (l : Launch) (Ω : rO) (hL0 : oL Ω 10 0) (σ : rS) (K : Int32 → rS → Prop) (h : hit (fX10_number  σ) K) : Ct l Ω yX10_number cX10_number 3 (some .int) rmX10_number [rf Ω 10 0] σ K := by
  refine Ct.of (own := RX10) (lv := [some (rf Ω 10 0), none, none]) (by decide) rfl (Nat.le_of_ble_eq_true rfl) rfl (fun hW => ?_)
  unfold fX10_number at h
  refine R_aload_n (i := 0) dX10_number_0 rfl rfl ?_
  refine R_callVi (ctX10_digit l Ω hL0 _ _ (hit_mono (hit_bd h) (fun r1 σ2 h => ?_))) okX10_digit mw_1363 hL0 (cE_10 Ω 0 _) rfl rfl (Nat.le_of_ble_eq_true rfl) rfl rfl ⟨by decide, by decide⟩ dX10_number_1
  refine R_istore_n (lv2 := [some (rf Ω 10 0), some (.int r1), none]) dX10_number_4 rfl (by decide) rfl rfl ?_
  refine R_iconst (v := 1) dX10_number_5 rfl ?_
  refine R_istore_n (lv2 := [some (rf Ω 10 0), some (.int r1), some (.int 1)]) dX10_number_6 rfl (by decide) rfl rfl ?_
  refine rlX10_number_L7 hW hL0 ?_ fu r1 1 σ2 (hit_bd h)
  · intro e9 σ8 h
    try dsimp only at h
    exact rnX10_number_j43 hW e9 hL0 σ8  h
set_option maxRecDepth 100000 in
set_option maxHeartbeats 4000000 in
theorem ctX10_leastOf (l : Launch) (Ω : rO) (x0 : Int32) (σ : rS) (K : Int32 → rS → Prop) (h : hit (fX10_leastOf x0 σ) K) : Ct l Ω yX10_leastOf cX10_leastOf 1 (some .int) rmX10_leastOf [.int x0] σ K := by
  refine Ct.of (own := RX10) (lv := [some (.int x0)]) (by decide) rfl (Nat.le_of_ble_eq_true rfl) rfl (fun hW => ?_)
  unfold fX10_leastOf at h
  refine R_iload_n (i := 0) dX10_leastOf_0 rfl rfl ?_
  refine R_if_ne (tgt := 9) dX10_leastOf_1 (by decide) (fun hc => ?_) (fun hc => ?_)
  · have h := hit_f h hc
    refine R_iload_n (i := 0) dX10_leastOf_9 rfl rfl ?_
    refine R_iconst (v := 1) dX10_leastOf_10 rfl ?_
    refine R_icmp_ne (tgt := 18) dX10_leastOf_11 (by decide) (fun hc => ?_) (fun hc => ?_)
    · have h := hit_f h hc
      refine R_iload_n (i := 0) dX10_leastOf_18 rfl rfl ?_
      refine R_iconst (v := 2) dX10_leastOf_19 rfl ?_
      refine R_icmp_ne (tgt := 28) dX10_leastOf_20 (by decide) (fun hc => ?_) (fun hc => ?_)
      · have h := hit_f h hc
        refine R_iconst (v := 1) dX10_leastOf_28 rfl ?_
        exact R_iret dX10_leastOf_29 rfl h
      · have h := hit_t h hc
        refine R_bipush (v := 16) dX10_leastOf_23 rfl ?_
        refine R_goto (tgt := 29) dX10_leastOf_25 (by decide) ?_
        exact R_iret dX10_leastOf_29 rfl h
    · have h := hit_t h hc
      refine R_iconst (v := 4) dX10_leastOf_14 rfl ?_
      refine R_goto (tgt := 29) dX10_leastOf_15 (by decide) ?_
      exact R_iret dX10_leastOf_29 rfl h
  · have h := hit_t h hc
    refine R_bipush (v := 8) dX10_leastOf_4 rfl ?_
    refine R_goto (tgt := 29) dX10_leastOf_6 (by decide) ?_
    exact R_iret dX10_leastOf_29 rfl h
set_option maxRecDepth 100000 in
set_option maxHeartbeats 4000000 in
theorem ctX10_mostOf (l : Launch) (Ω : rO) (x0 : Int32) (σ : rS) (K : Int32 → rS → Prop) (h : hit (fX10_mostOf x0 σ) K) : Ct l Ω yX10_mostOf cX10_mostOf 1 (some .int) rmX10_mostOf [.int x0] σ K := by
  refine Ct.of (own := RX10) (lv := [some (.int x0)]) (by decide) rfl (Nat.le_of_ble_eq_true rfl) rfl (fun hW => ?_)
  unfold fX10_mostOf at h
  refine R_iload_n (i := 0) dX10_mostOf_0 rfl rfl ?_
  refine R_if_ne (tgt := 9) dX10_mostOf_1 (by decide) (fun hc => ?_) (fun hc => ?_)
  · have h := hit_f h hc
    refine R_iload_n (i := 0) dX10_mostOf_9 rfl rfl ?_
    refine R_iconst (v := 1) dX10_mostOf_10 rfl ?_
    refine R_icmp_ne (tgt := 19) dX10_mostOf_11 (by decide) (fun hc => ?_) (fun hc => ?_)
    · have h := hit_f h hc
      refine R_iload_n (i := 0) dX10_mostOf_19 rfl rfl ?_
      refine R_iconst (v := 2) dX10_mostOf_20 rfl ?_
      refine R_icmp_ne (tgt := 30) dX10_mostOf_21 (by decide) (fun hc => ?_) (fun hc => ?_)
      · have h := hit_f h hc
        refine R_iconst (v := 5) dX10_mostOf_30 rfl ?_
        exact R_iret dX10_mostOf_31 rfl h
      · have h := hit_t h hc
        refine R_sipush (v := 128) dX10_mostOf_24 rfl ?_
        refine R_goto (tgt := 31) dX10_mostOf_27 (by decide) ?_
        exact R_iret dX10_mostOf_31 rfl h
    · have h := hit_t h hc
      refine R_bipush (v := 32) dX10_mostOf_14 rfl ?_
      refine R_goto (tgt := 31) dX10_mostOf_16 (by decide) ?_
      exact R_iret dX10_mostOf_31 rfl h
  · have h := hit_t h hc
    refine R_bipush (v := 64) dX10_mostOf_4 rfl ?_
    refine R_goto (tgt := 31) dX10_mostOf_6 (by decide) ?_
    exact R_iret dX10_mostOf_31 rfl h
set_option maxRecDepth 100000 in
set_option maxHeartbeats 4000000 in
theorem ctX10_numbersOf (l : Launch) (Ω : rO) (x0 : Int32) (σ : rS) (K : Int32 → rS → Prop) (h : hit (fX10_numbersOf x0 σ) K) : Ct l Ω yX10_numbersOf cX10_numbersOf 1 (some .int) rmX10_numbersOf [.int x0] σ K := by
  refine Ct.of (own := RX10) (lv := [some (.int x0)]) (by decide) rfl (Nat.le_of_ble_eq_true rfl) rfl (fun hW => ?_)
  unfold fX10_numbersOf at h
  refine R_iload_n (i := 0) dX10_numbersOf_0 rfl rfl ?_
  by_cases hs0 : x0 = 0
  · have h := hit_t h hs0
    refine R_tableIn (tgt := 40) dX10_numbersOf_1 (by rw [hs0]; decide) (by rw [hs0]; decide) (by rw [hs0]; rfl) (by decide) ?_
    refine R_iconst (v := 4) dX10_numbersOf_40 rfl ?_
    exact R_iret dX10_numbersOf_41 rfl h
  · have h := hit_f h hs0
    by_cases hs1 : x0 = 1
    · have h := hit_t h hs1
      refine R_tableIn (tgt := 42) dX10_numbersOf_1 (by rw [hs1]; decide) (by rw [hs1]; decide) (by rw [hs1]; rfl) (by decide) ?_
      refine R_iconst (v := 3) dX10_numbersOf_42 rfl ?_
      exact R_iret dX10_numbersOf_43 rfl h
    · have h := hit_f h hs1
      by_cases hs2 : x0 = 2
      · have h := hit_t h hs2
        refine R_tableIn (tgt := 42) dX10_numbersOf_1 (by rw [hs2]; decide) (by rw [hs2]; decide) (by rw [hs2]; rfl) (by decide) ?_
        refine R_iconst (v := 3) dX10_numbersOf_42 rfl ?_
        exact R_iret dX10_numbersOf_43 rfl h
      · have h := hit_f h hs2
        by_cases hs4 : x0 = 4
        · have h := hit_t h hs4
          refine R_tableIn (tgt := 44) dX10_numbersOf_1 (by rw [hs4]; decide) (by rw [hs4]; decide) (by rw [hs4]; rfl) (by decide) ?_
          refine R_iconst (v := 0) dX10_numbersOf_44 rfl ?_
          exact R_iret dX10_numbersOf_45 rfl h
        · have h := hit_f h hs4
          by_cases hs5 : x0 = 5
          · have h := hit_t h hs5
            refine R_tableIn (tgt := 44) dX10_numbersOf_1 (by rw [hs5]; decide) (by rw [hs5]; decide) (by rw [hs5]; rfl) (by decide) ?_
            refine R_iconst (v := 0) dX10_numbersOf_44 rfl ?_
            exact R_iret dX10_numbersOf_45 rfl h
          · have h := hit_f h hs5
            refine R_sw (tgt := 46) (lo := 0) (hi := 5) dX10_numbersOf_1 (fun z1 z2 => ?_) (by decide) ?_
            · have e : x0.toInt = 0 ∨ x0.toInt = 1 ∨ x0.toInt = 2 ∨ x0.toInt = 3 ∨ x0.toInt = 4 ∨ x0.toInt = 5 := by omega
              rcases e with e | e | e | e | e | e
              · exact absurd (Int32.toInt_inj.mp (e.trans (by decide : (0 : Int) = (0 : Int32).toInt))) hs0
              · exact absurd (Int32.toInt_inj.mp (e.trans (by decide : (1 : Int) = (1 : Int32).toInt))) hs1
              · exact absurd (Int32.toInt_inj.mp (e.trans (by decide : (2 : Int) = (2 : Int32).toInt))) hs2
              · rw [e]; rfl
              · exact absurd (Int32.toInt_inj.mp (e.trans (by decide : (4 : Int) = (4 : Int32).toInt))) hs4
              · exact absurd (Int32.toInt_inj.mp (e.trans (by decide : (5 : Int) = (5 : Int32).toInt))) hs5
            refine R_iconst (v := 1) dX10_numbersOf_46 rfl ?_
            exact R_iret dX10_numbersOf_47 rfl h
set_option maxRecDepth 100000 in
set_option maxHeartbeats 4000000 in
theorem rsX10_copyRow_L3 {l : Launch} {Ω : rO} (hW : WF Ω) (c0 k0 n0 : Nat) (x1 : Int32) (c2 k2 n2 : Nat) (x3 : Int32) (x4 : Int32) (hL0 : oL Ω c0 k0) (hg0 : ∀ r, cE Ω c0 k0 r = .inl (Ω.2.1 0, n0, .inl r)) (hL2 : oL Ω c2 k2) (hg2 : ∀ r, cE Ω c2 k2 r = .inl (Ω.2.1 0, n2, .inl r)) (σ : rS) {K : Int32 → rS → Prop} {K0 : (Int32 ⊕ Unit) → rS → Prop} (hC : ∀ (x4 : Int32) (σ : rS), K0 (.inl x4) σ → Run l Ω cX10_copyRow RX10 5 none rmX10_copyRow K 3 [some (rf Ω c0 k0), some (.int x1), some (rf Ω c2 k2), some (.int x3), some (.int x4)] [] σ) (hE0 : ∀ (e : Unit) (σ : rS), K0 (.inr e) σ → Run l Ω cX10_copyRow RX10 5 none rmX10_copyRow K 29 [none, none, none, none, none] [] σ) (h : hit (fX10_copyRow_L3 c0 k0 n0 x1 c2 k2 n2 x3 x4 σ) K0) : Run l Ω cX10_copyRow RX10 5 none rmX10_copyRow K 3 [some (rf Ω c0 k0), some (.int x1), some (rf Ω c2 k2), some (.int x3), some (.int x4)] [] σ := by
  unfold fX10_copyRow_L3 at h
  refine R_iload (i := 4) dX10_copyRow_3 rfl ?_
  refine R_sipush (v := 1554) dX10_copyRow_5 rfl ?_
  refine R_icmp_ge (tgt := 29) dX10_copyRow_8 (by decide) (fun hc => ?_) (fun hc => ?_)
  · have h := hit_f h hc
    refine R_drop (lv2 := [none, some (.int x1), some (rf Ω c2 k2), some (.int x3), some (.int x4)]) 0 rfl ?_
    refine R_drop (lv2 := [none, none, some (rf Ω c2 k2), some (.int x3), some (.int x4)]) 1 rfl ?_
    refine R_drop (lv2 := [none, none, none, some (.int x3), some (.int x4)]) 2 rfl ?_
    refine R_drop (lv2 := [none, none, none, none, some (.int x4)]) 3 rfl ?_
    refine R_drop (lv2 := [none, none, none, none, none]) 4 rfl ?_
    exact hE0 () σ h
  · have h := hit_t h hc
    refine R_aload_n (i := 2) dX10_copyRow_11 rfl rfl ?_
    refine R_iload_n (i := 3) dX10_copyRow_12 rfl rfl ?_
    refine R_iload (i := 4) dX10_copyRow_13 rfl ?_
    refine R_iadd dX10_copyRow_15 ?_
    refine R_aload_n (i := 0) dX10_copyRow_16 rfl rfl ?_
    refine R_iload_n (i := 1) dX10_copyRow_17 rfl rfl ?_
    refine R_iload (i := 4) dX10_copyRow_18 rfl ?_
    refine R_iadd dX10_copyRow_20 ?_
    obtain ⟨hb, h⟩ := hit_bnd h
    refine R_iald hL0 (hg0 _) hb dX10_copyRow_21 ?_
    obtain ⟨hb, h⟩ := hit_bnd h
    refine R_iast hL2 hg2 hb dX10_copyRow_22 ?_
    refine R_st h (fun σ1 h => ?_)
    refine R_iinc (v := x4 + 1) (lv2 := [some (rf Ω c0 k0), some (.int x1), some (rf Ω c2 k2), some (.int x3), some (.int (x4 + 1))]) dX10_copyRow_23 rfl rfl (by decide) rfl rfl ?_
    refine R_goto (tgt := 3) dX10_copyRow_26 (by decide) ?_
    exact hC (x4 + 1) σ1 h
set_option maxRecDepth 100000 in
set_option maxHeartbeats 4000000 in
theorem rlX10_copyRow_L3 {l : Launch} {Ω : rO} (hW : WF Ω) (c0 k0 n0 : Nat) (x1 : Int32) (c2 k2 n2 : Nat) (x3 : Int32) (hL0 : oL Ω c0 k0) (hg0 : ∀ r, cE Ω c0 k0 r = .inl (Ω.2.1 0, n0, .inl r)) (hL2 : oL Ω c2 k2) (hg2 : ∀ r, cE Ω c2 k2 r = .inl (Ω.2.1 0, n2, .inl r)) {K : Int32 → rS → Prop} {KE : Unit → rS → Prop} (hE0 : ∀ (e : Unit) (σ : rS), KE e σ → Run l Ω cX10_copyRow RX10 5 none rmX10_copyRow K 29 [none, none, none, none, none] [] σ) : ∀ (n : Nat) (x4 : Int32) (σ : rS), hit (lp (fun (x : Int32) σ => fX10_copyRow_L3 c0 k0 n0 x1 c2 k2 n2 x3 x σ) n x4 σ) KE → Run l Ω cX10_copyRow RX10 5 none rmX10_copyRow K 3 [some (rf Ω c0 k0), some (.int x1), some (rf Ω c2 k2), some (.int x3), some (.int x4)] [] σ := by
  intro n
  induction n with
  | zero => intro x4 σ h; exact (h : False).elim
  | succ n ih =>
    intro x4 σ h
    exact rsX10_copyRow_L3 hW c0 k0 n0 x1 c2 k2 n2 x3 x4 hL0 hg0 hL2 hg2 σ (fun x4 σ h => ih x4 σ h) (fun e σ h => hE0 e σ h) (hit_lp h)
set_option maxRecDepth 100000 in
set_option maxHeartbeats 4000000 in
theorem ctX10_copyRow (l : Launch) (Ω : rO) (c0 k0 n0 : Nat) (x1 : Int32) (c2 k2 n2 : Nat) (x3 : Int32) (hL0 : oL Ω c0 k0) (hg0 : ∀ r, cE Ω c0 k0 r = .inl (Ω.2.1 0, n0, .inl r)) (hL2 : oL Ω c2 k2) (hg2 : ∀ r, cE Ω c2 k2 r = .inl (Ω.2.1 0, n2, .inl r)) (σ : rS) (K : Int32 → rS → Prop) (h : hit (fX10_copyRow c0 k0 n0 x1 c2 k2 n2 x3 σ) K) : Ct l Ω yX10_copyRow cX10_copyRow 5 none rmX10_copyRow [rf Ω c0 k0, .int x1, rf Ω c2 k2, .int x3] σ K := by
  refine Ct.of (own := RX10) (lv := [some (rf Ω c0 k0), some (.int x1), some (rf Ω c2 k2), some (.int x3), none]) (by decide) rfl (Nat.le_of_ble_eq_true rfl) rfl (fun hW => ?_)
  unfold fX10_copyRow at h
  refine R_iconst (v := 0) dX10_copyRow_0 rfl ?_
  refine R_istore (lv2 := [some (rf Ω c0 k0), some (.int x1), some (rf Ω c2 k2), some (.int x3), some (.int 0)]) dX10_copyRow_1 (by decide) rfl rfl ?_
  refine rlX10_copyRow_L3 hW c0 k0 n0 x1 c2 k2 n2 x3 hL0 hg0 hL2 hg2 ?_ fu 0 σ (hit_bd h)
  · intro e3 σ2 h
    try dsimp only at h
    exact R_vret dX10_copyRow_29 rfl h
set_option maxRecDepth 100000 in
set_option maxHeartbeats 4000000 in
theorem ctX10_cell (l : Launch) (Ω : rO) (x0 : Int32) (x1 : Int32) (σ : rS) (K : Int32 → rS → Prop) (h : hit (fX10_cell x0 x1 σ) K) : Ct l Ω yX10_cell cX10_cell 2 (some .int) rmX10_cell [.int x0, .int x1] σ K := by
  refine Ct.of (own := RX10) (lv := [some (.int x0), some (.int x1)]) (by decide) rfl (Nat.le_of_ble_eq_true rfl) rfl (fun hW => ?_)
  unfold fX10_cell at h
  refine R_iconst (v := 1) dX10_cell_0 rfl ?_
  refine R_bipush (v := 11) dX10_cell_1 rfl ?_
  refine R_iload_n (i := 0) dX10_cell_3 rfl rfl ?_
  refine R_imul dX10_cell_4 ?_
  refine R_iadd dX10_cell_5 ?_
  refine R_iload_n (i := 1) dX10_cell_6 rfl rfl ?_
  refine R_iadd dX10_cell_7 ?_
  exact R_iret dX10_cell_8 rfl h
set_option maxRecDepth 100000 in
set_option maxHeartbeats 4000000 in
theorem ctX10_of (l : Launch) (Ω : rO) (k0 : Nat) (x1 : Int32) (x2 : Int32) (hL0 : oL Ω 66 k0) (σ : rS) (K : Int32 → rS → Prop) (h : hit (fX10_of k0 x1 x2 σ) K) : Ct l Ω yX10_of cX10_of 3 (some .int) rmX10_of [rf Ω 66 k0, .int x1, .int x2] σ K := by
  refine Ct.of (own := RX10) (lv := [some (rf Ω 66 k0), some (.int x1), some (.int x2)]) (by decide) rfl (Nat.le_of_ble_eq_true rfl) rfl (fun hW => ?_)
  unfold fX10_of at h
  refine R_aload_n (i := 0) dX10_of_0 rfl rfl ?_
  refine R_iconst (v := 1) dX10_of_1 rfl ?_
  refine R_bipush (v := 11) dX10_of_2 rfl ?_
  refine R_iload_n (i := 1) dX10_of_4 rfl rfl ?_
  refine R_imul dX10_of_5 ?_
  refine R_iadd dX10_of_6 ?_
  refine R_iload_n (i := 2) dX10_of_7 rfl rfl ?_
  refine R_iadd dX10_of_8 ?_
  obtain ⟨hb, h⟩ := hit_bnd h
  refine R_iald hL0 (cE_66 Ω k0 _) hb dX10_of_9 ?_
  exact R_iret dX10_of_10 rfl h
set_option maxRecDepth 100000 in
set_option maxHeartbeats 4000000 in
theorem rsX10_spotOf__L8 {l : Launch} {Ω : rO} (hW : WF Ω) (k0 : Nat) (x1 : Int32) (x2 : Int32) (hL0 : oL Ω 66 k0) (σ : rS) {K : Int32 → rS → Prop} {K0 : (Int32 ⊕ (Int32 ⊕ Unit)) → rS → Prop} (hC : ∀ (x2 : Int32) (σ : rS), K0 (.inl x2) σ → Run l Ω cX10_spotOf_ RX10 3 (some .int) rmX10_spotOf_ K 8 [some (rf Ω 66 k0), some (.int x1), some (.int x2)] [] σ) (hE0 : ∀ (e : Int32) (σ : rS), K0 (.inr (.inl e)) σ → Run l Ω cX10_spotOf_ RX10 3 (some .int) rmX10_spotOf_ K 25 [none, none, some (.int e)] [] σ) (hE1 : ∀ (e : Unit) (σ : rS), K0 (.inr (.inr e)) σ → Run l Ω cX10_spotOf_ RX10 3 (some .int) rmX10_spotOf_ K 33 [none, none, none] [] σ) (h : hit (fX10_spotOf__L8 k0 x1 x2 σ) K0) : Run l Ω cX10_spotOf_ RX10 3 (some .int) rmX10_spotOf_ K 8 [some (rf Ω 66 k0), some (.int x1), some (.int x2)] [] σ := by
  unfold fX10_spotOf__L8 at h
  refine R_iload_n (i := 2) dX10_spotOf__8 rfl rfl ?_
  refine R_aload_n (i := 0) dX10_spotOf__9 rfl rfl ?_
  refine R_iconst (v := 0) dX10_spotOf__10 rfl ?_
  refine R_iald hL0 (cE_66 Ω k0 _) (vin 0 1554 rfl) dX10_spotOf__11 ?_
  refine R_icmp_ge (tgt := 33) dX10_spotOf__12 (by decide) (fun hc => ?_) (fun hc => ?_)
  · have h := hit_f h hc
    refine R_drop (lv2 := [none, some (.int x1), some (.int x2)]) 0 rfl ?_
    refine R_drop (lv2 := [none, none, some (.int x2)]) 1 rfl ?_
    refine R_drop (lv2 := [none, none, none]) 2 rfl ?_
    exact hE1 () σ h
  · have h := hit_t h hc
    refine R_aload_n (i := 0) dX10_spotOf__15 rfl rfl ?_
    refine R_iload_n (i := 2) dX10_spotOf__16 rfl rfl ?_
    refine R_iconst (v := 0) dX10_spotOf__17 rfl ?_
    refine R_callSi (ctX10_of l Ω k0 x2 0 hL0 _ _ (hit_mono (hit_bd h) (fun r1 σ2 h => ?_))) okX10_of mw_1435 rfl rfl (Nat.le_of_ble_eq_true rfl) rfl rfl ⟨by decide, by decide⟩ dX10_spotOf__18
    refine R_iload_n (i := 1) dX10_spotOf__21 rfl rfl ?_
    refine R_icmp_ne (tgt := 27) dX10_spotOf__22 (by decide) (fun hc => ?_) (fun hc => ?_)
    · have h := hit_f h hc
      refine R_iinc (v := x2 + 1) (lv2 := [some (rf Ω 66 k0), some (.int x1), some (.int (x2 + 1))]) dX10_spotOf__27 rfl rfl (by decide) rfl rfl ?_
      refine R_goto (tgt := 8) dX10_spotOf__30 (by decide) ?_
      exact hC (x2 + 1) σ2 h
    · have h := hit_t h hc
      refine R_drop (lv2 := [none, some (.int x1), some (.int x2)]) 0 rfl ?_
      refine R_drop (lv2 := [none, none, some (.int x2)]) 1 rfl ?_
      exact hE0 x2 σ2 h
set_option maxRecDepth 100000 in
set_option maxHeartbeats 4000000 in
theorem rlX10_spotOf__L8 {l : Launch} {Ω : rO} (hW : WF Ω) (k0 : Nat) (x1 : Int32) (hL0 : oL Ω 66 k0) {K : Int32 → rS → Prop} {KE : (Int32 ⊕ Unit) → rS → Prop} (hE0 : ∀ (e : Int32) (σ : rS), KE (.inl e) σ → Run l Ω cX10_spotOf_ RX10 3 (some .int) rmX10_spotOf_ K 25 [none, none, some (.int e)] [] σ) (hE1 : ∀ (e : Unit) (σ : rS), KE (.inr e) σ → Run l Ω cX10_spotOf_ RX10 3 (some .int) rmX10_spotOf_ K 33 [none, none, none] [] σ) : ∀ (n : Nat) (x2 : Int32) (σ : rS), hit (lp (fun (x : Int32) σ => fX10_spotOf__L8 k0 x1 x σ) n x2 σ) KE → Run l Ω cX10_spotOf_ RX10 3 (some .int) rmX10_spotOf_ K 8 [some (rf Ω 66 k0), some (.int x1), some (.int x2)] [] σ := by
  intro n
  induction n with
  | zero => intro x2 σ h; exact (h : False).elim
  | succ n ih =>
    intro x2 σ h
    exact rsX10_spotOf__L8 hW k0 x1 x2 hL0 σ (fun x2 σ h => ih x2 σ h) (fun e σ h => hE0 e σ h) (fun e σ h => hE1 e σ h) (hit_lp h)
set_option maxRecDepth 100000 in
set_option maxHeartbeats 4000000 in
theorem ctX10_spotOf_ (l : Launch) (Ω : rO) (k0 : Nat) (x1 : Int32) (hL0 : oL Ω 66 k0) (σ : rS) (K : Int32 → rS → Prop) (h : hit (fX10_spotOf_ k0 x1 σ) K) : Ct l Ω yX10_spotOf_ cX10_spotOf_ 3 (some .int) rmX10_spotOf_ [rf Ω 66 k0, .int x1] σ K := by
  refine Ct.of (own := RX10) (lv := [some (rf Ω 66 k0), some (.int x1), none]) (by decide) rfl (Nat.le_of_ble_eq_true rfl) rfl (fun hW => ?_)
  unfold fX10_spotOf_ at h
  refine R_iload_n (i := 1) dX10_spotOf__0 rfl rfl ?_
  refine R_if_ne (tgt := 6) dX10_spotOf__1 (by decide) (fun hc => ?_) (fun hc => ?_)
  · have h := hit_f h hc
    refine R_iconst (v := 0) dX10_spotOf__6 rfl ?_
    refine R_istore_n (lv2 := [some (rf Ω 66 k0), some (.int x1), some (.int 0)]) dX10_spotOf__7 rfl (by decide) rfl rfl ?_
    refine rlX10_spotOf__L8 hW k0 x1 hL0 ?_ ?_ fu 0 σ (hit_bd h)
    · intro e4 σ3 h
      try dsimp only at h
      refine R_iload_n (i := 2) dX10_spotOf__25 rfl rfl ?_
      exact R_iret dX10_spotOf__26 rfl h
    · intro e5 σ3 h
      try dsimp only at h
      refine R_iconst (v := (-1)) dX10_spotOf__33 rfl ?_
      exact R_iret dX10_spotOf__34 rfl h
  · have h := hit_t h hc
    refine R_iconst (v := (-1)) dX10_spotOf__4 rfl ?_
    exact R_iret dX10_spotOf__5 rfl h
set_option maxRecDepth 100000 in
set_option maxHeartbeats 4000000 in
theorem ctX10_sizeOf (l : Launch) (Ω : rO) (k0 : Nat) (x1 : Int32) (hL0 : oL Ω 66 k0) (σ : rS) (K : Int32 → rS → Prop) (h : hit (fX10_sizeOf k0 x1 σ) K) : Ct l Ω yX10_sizeOf cX10_sizeOf 2 (some .int) rmX10_sizeOf [rf Ω 66 k0, .int x1] σ K := by
  refine Ct.of (own := RX10) (lv := [some (rf Ω 66 k0), some (.int x1)]) (by decide) rfl (Nat.le_of_ble_eq_true rfl) rfl (fun hW => ?_)
  unfold fX10_sizeOf at h
  refine R_iconst (v := 3) dX10_sizeOf_0 rfl ?_
  refine R_aload_n (i := 0) dX10_sizeOf_1 rfl rfl ?_
  refine R_iload_n (i := 1) dX10_sizeOf_2 rfl rfl ?_
  refine R_iconst (v := 2) dX10_sizeOf_3 rfl ?_
  refine R_callSi (ctX10_of l Ω k0 x1 2 hL0 _ _ (hit_mono (hit_bd h) (fun r1 σ2 h => ?_))) okX10_of mw_1435 rfl rfl (Nat.le_of_ble_eq_true rfl) rfl rfl ⟨by decide, by decide⟩ dX10_sizeOf_4
  refine R_iadd dX10_sizeOf_7 ?_
  exact R_iret dX10_sizeOf_8 rfl h
set_option maxRecDepth 100000 in
set_option maxHeartbeats 4000000 in
theorem rnX10_cellsIn_j31L4 {l : Launch} {Ω : rO} (hW : WF Ω) (k0 : Nat) (x1 : Int32) (x3 : Int32) (z0 : Int32) (z1 : Int32) (hL0 : oL Ω 66 k0) (σ : rS) {K : Int32 → rS → Prop} {K0 : ((Int32 × Int32) ⊕ Int32) → rS → Prop} (hC : ∀ (x2 : Int32) (x3 : Int32) (σ : rS), K0 (.inl (x2, x3)) σ → Run l Ω cX10_cellsIn RX10 4 (some .int) rmX10_cellsIn K 4 [some (rf Ω 66 k0), some (.int x1), some (.int x2), some (.int x3)] [] σ) (hE0 : ∀ (e : Int32) (σ : rS), K0 (.inr e) σ → Run l Ω cX10_cellsIn RX10 4 (some .int) rmX10_cellsIn K 39 [none, none, some (.int e), none] [] σ) (h : hit (fX10_cellsIn_j31L4 k0 x1 x3 z0 z1 σ) K0) : Run l Ω cX10_cellsIn RX10 4 (some .int) rmX10_cellsIn K 31 [some (rf Ω 66 k0), some (.int x1), none, some (.int x3)] [.int z0, .int z1] σ := by
  unfold fX10_cellsIn_j31L4 at h
  refine R_iadd dX10_cellsIn_31 ?_
  refine R_topi h (fun y3 h => ?_)
  refine R_istore_n (lv2 := [some (rf Ω 66 k0), some (.int x1), some (.int y3), some (.int x3)]) dX10_cellsIn_32 rfl (by decide) rfl rfl ?_
  refine R_iinc (v := x3 + 1) (lv2 := [some (rf Ω 66 k0), some (.int x1), some (.int y3), some (.int (x3 + 1))]) dX10_cellsIn_33 rfl rfl (by decide) rfl rfl ?_
  refine R_goto (tgt := 4) dX10_cellsIn_36 (by decide) ?_
  exact hC y3 (x3 + 1) σ h
set_option maxRecDepth 100000 in
set_option maxHeartbeats 4000000 in
theorem rsX10_cellsIn_L4 {l : Launch} {Ω : rO} (hW : WF Ω) (k0 : Nat) (x1 : Int32) (x2 : Int32) (x3 : Int32) (hL0 : oL Ω 66 k0) (σ : rS) {K : Int32 → rS → Prop} {K0 : ((Int32 × Int32) ⊕ Int32) → rS → Prop} (hC : ∀ (x2 : Int32) (x3 : Int32) (σ : rS), K0 (.inl (x2, x3)) σ → Run l Ω cX10_cellsIn RX10 4 (some .int) rmX10_cellsIn K 4 [some (rf Ω 66 k0), some (.int x1), some (.int x2), some (.int x3)] [] σ) (hE0 : ∀ (e : Int32) (σ : rS), K0 (.inr e) σ → Run l Ω cX10_cellsIn RX10 4 (some .int) rmX10_cellsIn K 39 [none, none, some (.int e), none] [] σ) (h : hit (fX10_cellsIn_L4 k0 x1 x2 x3 σ) K0) : Run l Ω cX10_cellsIn RX10 4 (some .int) rmX10_cellsIn K 4 [some (rf Ω 66 k0), some (.int x1), some (.int x2), some (.int x3)] [] σ := by
  unfold fX10_cellsIn_L4 at h
  refine R_iload_n (i := 3) dX10_cellsIn_4 rfl rfl ?_
  refine R_aload_n (i := 0) dX10_cellsIn_5 rfl rfl ?_
  refine R_iconst (v := 0) dX10_cellsIn_6 rfl ?_
  refine R_iald hL0 (cE_66 Ω k0 _) (vin 0 1554 rfl) dX10_cellsIn_7 ?_
  refine R_icmp_ge (tgt := 39) dX10_cellsIn_8 (by decide) (fun hc => ?_) (fun hc => ?_)
  · have h := hit_f h hc
    refine R_drop (lv2 := [none, some (.int x1), some (.int x2), some (.int x3)]) 0 rfl ?_
    refine R_drop (lv2 := [none, none, some (.int x2), some (.int x3)]) 1 rfl ?_
    refine R_drop (lv2 := [none, none, some (.int x2), none]) 3 rfl ?_
    exact hE0 x2 σ h
  · have h := hit_t h hc
    refine R_iload_n (i := 2) dX10_cellsIn_11 rfl rfl ?_
    refine R_aload_n (i := 0) dX10_cellsIn_12 rfl rfl ?_
    refine R_iload_n (i := 3) dX10_cellsIn_13 rfl rfl ?_
    refine R_iconst (v := 5) dX10_cellsIn_14 rfl ?_
    refine R_callSi (ctX10_of l Ω k0 x3 5 hL0 _ _ (hit_mono (hit_bd h) (fun r1 σ2 h => ?_))) okX10_of mw_1435 rfl rfl (Nat.le_of_ble_eq_true rfl) rfl rfl ⟨by decide, by decide⟩ dX10_cellsIn_15
    refine R_iload_n (i := 1) dX10_cellsIn_18 rfl rfl ?_
    refine R_icmp_ne (tgt := 30) dX10_cellsIn_19 (by decide) (fun hc => ?_) (fun hc => ?_)
    · have h := hit_f h hc
      refine R_iconst (v := 0) dX10_cellsIn_30 rfl ?_
      refine R_drop (lv2 := [some (rf Ω 66 k0), some (.int x1), none, some (.int x3)]) 2 rfl ?_
      exact rnX10_cellsIn_j31L4 hW k0 x1 x3 0 x2 hL0 σ2 hC hE0 h
    · have h := hit_t h hc
      refine R_aload_n (i := 0) dX10_cellsIn_22 rfl rfl ?_
      refine R_iload_n (i := 3) dX10_cellsIn_23 rfl rfl ?_
      refine R_callSi (ctX10_sizeOf l Ω k0 x3 hL0 _ _ (hit_mono (hit_bd h) (fun r4 σ5 h => ?_))) okX10_sizeOf mw_1449 rfl rfl (Nat.le_of_ble_eq_true rfl) rfl rfl ⟨by decide, by decide⟩ dX10_cellsIn_24
      refine R_goto (tgt := 31) dX10_cellsIn_27 (by decide) ?_
      refine R_drop (lv2 := [some (rf Ω 66 k0), some (.int x1), none, some (.int x3)]) 2 rfl ?_
      exact rnX10_cellsIn_j31L4 hW k0 x1 x3 r4 x2 hL0 σ5 hC hE0 h
set_option maxRecDepth 100000 in
set_option maxHeartbeats 4000000 in
theorem rlX10_cellsIn_L4 {l : Launch} {Ω : rO} (hW : WF Ω) (k0 : Nat) (x1 : Int32) (hL0 : oL Ω 66 k0) {K : Int32 → rS → Prop} {KE : Int32 → rS → Prop} (hE0 : ∀ (e : Int32) (σ : rS), KE e σ → Run l Ω cX10_cellsIn RX10 4 (some .int) rmX10_cellsIn K 39 [none, none, some (.int e), none] [] σ) : ∀ (n : Nat) (x2 : Int32) (x3 : Int32) (σ : rS), hit (lp (fun (x : (Int32 × Int32)) σ => fX10_cellsIn_L4 k0 x1 x.1 x.2 σ) n (x2, x3) σ) KE → Run l Ω cX10_cellsIn RX10 4 (some .int) rmX10_cellsIn K 4 [some (rf Ω 66 k0), some (.int x1), some (.int x2), some (.int x3)] [] σ := by
  intro n
  induction n with
  | zero => intro x2 x3 σ h; exact (h : False).elim
  | succ n ih =>
    intro x2 x3 σ h
    exact rsX10_cellsIn_L4 hW k0 x1 x2 x3 hL0 σ (fun x2 x3 σ h => ih x2 x3 σ h) (fun e σ h => hE0 e σ h) (hit_lp h)
set_option maxRecDepth 100000 in
set_option maxHeartbeats 4000000 in
theorem ctX10_cellsIn (l : Launch) (Ω : rO) (k0 : Nat) (x1 : Int32) (hL0 : oL Ω 66 k0) (σ : rS) (K : Int32 → rS → Prop) (h : hit (fX10_cellsIn k0 x1 σ) K) : Ct l Ω yX10_cellsIn cX10_cellsIn 4 (some .int) rmX10_cellsIn [rf Ω 66 k0, .int x1] σ K := by
  refine Ct.of (own := RX10) (lv := [some (rf Ω 66 k0), some (.int x1), none, none]) (by decide) rfl (Nat.le_of_ble_eq_true rfl) rfl (fun hW => ?_)
  unfold fX10_cellsIn at h
  refine R_iconst (v := 0) dX10_cellsIn_0 rfl ?_
  refine R_istore_n (lv2 := [some (rf Ω 66 k0), some (.int x1), some (.int 0), none]) dX10_cellsIn_1 rfl (by decide) rfl rfl ?_
  refine R_iconst (v := 0) dX10_cellsIn_2 rfl ?_
  refine R_istore_n (lv2 := [some (rf Ω 66 k0), some (.int x1), some (.int 0), some (.int 0)]) dX10_cellsIn_3 rfl (by decide) rfl rfl ?_
  refine rlX10_cellsIn_L4 hW k0 x1 hL0 ?_ fu 0 0 σ (hit_bd h)
  · intro e7 σ6 h
    try dsimp only at h
    refine R_iload_n (i := 2) dX10_cellsIn_39 rfl rfl ?_
    exact R_iret dX10_cellsIn_40 rfl h
set_option maxRecDepth 100000 in
set_option maxHeartbeats 4000000 in
theorem ctX10_cells (l : Launch) (Ω : rO) (k0 : Nat) (hL0 : oL Ω 66 k0) (σ : rS) (K : Int32 → rS → Prop) (h : hit (fX10_cells k0 σ) K) : Ct l Ω yX10_cells cX10_cells 1 (some .int) rmX10_cells [rf Ω 66 k0] σ K := by
  refine Ct.of (own := RX10) (lv := [some (rf Ω 66 k0)]) (by decide) rfl (Nat.le_of_ble_eq_true rfl) rfl (fun hW => ?_)
  unfold fX10_cells at h
  refine R_aload_n (i := 0) dX10_cells_0 rfl rfl ?_
  refine R_iconst (v := 0) dX10_cells_1 rfl ?_
  refine R_callSi (ctX10_cellsIn l Ω k0 0 hL0 _ _ (hit_mono (hit_bd h) (fun r1 σ2 h => ?_))) okX10_cellsIn mw_1446 rfl rfl (Nat.le_of_ble_eq_true rfl) rfl rfl ⟨by decide, by decide⟩ dX10_cells_2
  refine R_aload_n (i := 0) dX10_cells_5 rfl rfl ?_
  refine R_iconst (v := 1) dX10_cells_6 rfl ?_
  refine R_callSi (ctX10_cellsIn l Ω k0 1 hL0 _ _ (hit_mono (hit_bd h) (fun r3 σ4 h => ?_))) okX10_cellsIn mw_1446 rfl rfl (Nat.le_of_ble_eq_true rfl) rfl rfl ⟨by decide, by decide⟩ dX10_cells_7
  refine R_iadd dX10_cells_10 ?_
  refine R_aload_n (i := 0) dX10_cells_11 rfl rfl ?_
  refine R_iconst (v := 2) dX10_cells_12 rfl ?_
  refine R_callSi (ctX10_cellsIn l Ω k0 2 hL0 _ _ (hit_mono (hit_bd h) (fun r5 σ6 h => ?_))) okX10_cellsIn mw_1446 rfl rfl (Nat.le_of_ble_eq_true rfl) rfl rfl ⟨by decide, by decide⟩ dX10_cells_13
  refine R_iadd dX10_cells_16 ?_
  exact R_iret dX10_cells_17 rfl h
set_option maxRecDepth 100000 in
set_option maxHeartbeats 4000000 in
theorem ctX10_isOld (l : Launch) (Ω : rO) (k0 : Nat) (x1 : Int32) (hL0 : oL Ω 66 k0) (σ : rS) (K : Int32 → rS → Prop) (h : hit (fX10_isOld k0 x1 σ) K) : Ct l Ω yX10_isOld cX10_isOld 2 (some .boolean) rmX10_isOld [rf Ω 66 k0, .int x1] σ K := by
  refine Ct.of (own := RX10) (lv := [some (rf Ω 66 k0), some (.int x1)]) (by decide) rfl (Nat.le_of_ble_eq_true rfl) rfl (fun hW => ?_)
  unfold fX10_isOld at h
  refine R_aload_n (i := 0) dX10_isOld_0 rfl rfl ?_
  refine R_iload_n (i := 1) dX10_isOld_1 rfl rfl ?_
  refine R_iconst (v := 5) dX10_isOld_2 rfl ?_
  refine R_callSi (ctX10_of l Ω k0 x1 5 hL0 _ _ (hit_mono (hit_bd h) (fun r1 σ2 h => ?_))) okX10_of mw_1435 rfl rfl (Nat.le_of_ble_eq_true rfl) rfl rfl ⟨by decide, by decide⟩ dX10_isOld_3
  refine R_iconst (v := 2) dX10_isOld_6 rfl ?_
  refine R_icmp_ne (tgt := 14) dX10_isOld_7 (by decide) (fun hc => ?_) (fun hc => ?_)
  · have h := hit_f h hc
    refine R_iconst (v := 0) dX10_isOld_14 rfl ?_
    exact R_zret dX10_isOld_15 rfl (Or.inl rfl) h
  · have h := hit_t h hc
    refine R_iconst (v := 1) dX10_isOld_10 rfl ?_
    refine R_goto (tgt := 15) dX10_isOld_11 (by decide) ?_
    exact R_zret dX10_isOld_15 rfl (Or.inr rfl) h
set_option maxRecDepth 100000 in
set_option maxHeartbeats 4000000 in
theorem ctX10_isWeak (l : Launch) (Ω : rO) (k0 : Nat) (x1 : Int32) (x2 : Int32) (hL0 : oL Ω 66 k0) (σ : rS) (K : Int32 → rS → Prop) (h : hit (fX10_isWeak k0 x1 x2 σ) K) : Ct l Ω yX10_isWeak cX10_isWeak 3 (some .boolean) rmX10_isWeak [rf Ω 66 k0, .int x1, .int x2] σ K := by
  refine Ct.of (own := RX10) (lv := [some (rf Ω 66 k0), some (.int x1), some (.int x2)]) (by decide) rfl (Nat.le_of_ble_eq_true rfl) rfl (fun hW => ?_)
  unfold fX10_isWeak at h
  refine R_iload_n (i := 2) dX10_isWeak_0 rfl rfl ?_
  refine R_if_ne (tgt := 18) dX10_isWeak_1 (by decide) (fun hc => ?_) (fun hc => ?_)
  · have h := hit_f h hc
    refine R_iconst (v := 0) dX10_isWeak_18 rfl ?_
    exact R_zret dX10_isWeak_19 rfl (Or.inl rfl) h
  · have h := hit_t h hc
    refine R_aload_n (i := 0) dX10_isWeak_4 rfl rfl ?_
    refine R_iload_n (i := 1) dX10_isWeak_5 rfl rfl ?_
    refine R_iconst (v := 1) dX10_isWeak_6 rfl ?_
    refine R_callSi (ctX10_of l Ω k0 x1 1 hL0 _ _ (hit_mono (hit_bd h) (fun r1 σ2 h => ?_))) okX10_of mw_1435 rfl rfl (Nat.le_of_ble_eq_true rfl) rfl rfl ⟨by decide, by decide⟩ dX10_isWeak_7
    refine R_iconst (v := 1) dX10_isWeak_10 rfl ?_
    refine R_icmp_ne (tgt := 18) dX10_isWeak_11 (by decide) (fun hc => ?_) (fun hc => ?_)
    · have h := hit_f h hc
      refine R_iconst (v := 0) dX10_isWeak_18 rfl ?_
      exact R_zret dX10_isWeak_19 rfl (Or.inl rfl) h
    · have h := hit_t h hc
      refine R_iconst (v := 1) dX10_isWeak_14 rfl ?_
      refine R_goto (tgt := 19) dX10_isWeak_15 (by decide) ?_
      exact R_zret dX10_isWeak_19 rfl (Or.inr rfl) h
set_option maxRecDepth 100000 in
set_option maxHeartbeats 4000000 in
theorem rsX10_goes_L6 {l : Launch} {Ω : rO} (hW : WF Ω) (k0 : Nat) (x2 : Int32) (hL0 : oL Ω 66 k0) (σ : rS) {K : Int32 → rS → Prop} {K0 : (Int32 ⊕ Unit) → rS → Prop} (hC : ∀ (x2 : Int32) (σ : rS), K0 (.inl x2) σ → Run l Ω cX10_goes RX10 3 none rmX10_goes K 6 [some (rf Ω 66 k0), none, some (.int x2)] [] σ) (hE0 : ∀ (e : Unit) (σ : rS), K0 (.inr e) σ → Run l Ω cX10_goes RX10 3 none rmX10_goes K 34 [some (rf Ω 66 k0), none, none] [] σ) (h : hit (fX10_goes_L6 k0 x2 σ) K0) : Run l Ω cX10_goes RX10 3 none rmX10_goes K 6 [some (rf Ω 66 k0), none, some (.int x2)] [] σ := by
  unfold fX10_goes_L6 at h
  refine R_iload_n (i := 2) dX10_goes_6 rfl rfl ?_
  refine R_aload_n (i := 0) dX10_goes_7 rfl rfl ?_
  refine R_iconst (v := 0) dX10_goes_8 rfl ?_
  refine R_iald hL0 (cE_66 Ω k0 _) (vin 0 1554 rfl) dX10_goes_9 ?_
  refine R_iconst (v := 1) dX10_goes_10 rfl ?_
  refine R_isub dX10_goes_11 ?_
  refine R_iconst (v := 0) dX10_goes_12 rfl ?_
  refine R_callSi (ctX10_cell l Ω ((σ 66 k0 (ix 0)) - 1) 0 _ _ (hit_mono (hit_bd h) (fun r3 σ4 h => ?_))) okX10_cell mw_1471 rfl rfl (Nat.le_of_ble_eq_true rfl) rfl rfl ⟨by decide, by decide⟩ dX10_goes_13
  refine R_icmp_ge (tgt := 34) dX10_goes_16 (by decide) (fun hc => ?_) (fun hc => ?_)
  · have h := hit_f h hc
    refine R_drop (lv2 := [some (rf Ω 66 k0), none, none]) 2 rfl ?_
    exact hE0 () σ4 h
  · have h := hit_t h hc
    refine R_aload_n (i := 0) dX10_goes_19 rfl rfl ?_
    refine R_iload_n (i := 2) dX10_goes_20 rfl rfl ?_
    refine R_aload_n (i := 0) dX10_goes_21 rfl rfl ?_
    refine R_iload_n (i := 2) dX10_goes_22 rfl rfl ?_
    refine R_bipush (v := 11) dX10_goes_23 rfl ?_
    refine R_iadd dX10_goes_25 ?_
    obtain ⟨hb, h⟩ := hit_bnd h
    refine R_iald hL0 (cE_66 Ω k0 _) hb dX10_goes_26 ?_
    obtain ⟨hb, h⟩ := hit_bnd h
    refine R_iast hL0 (cE_66 Ω k0) hb dX10_goes_27 ?_
    refine R_st h (fun σ5 h => ?_)
    refine R_iinc (v := x2 + 1) (lv2 := [some (rf Ω 66 k0), none, some (.int (x2 + 1))]) dX10_goes_28 rfl rfl (by decide) rfl rfl ?_
    refine R_goto (tgt := 6) dX10_goes_31 (by decide) ?_
    exact hC (x2 + 1) σ5 h
set_option maxRecDepth 100000 in
set_option maxHeartbeats 4000000 in
theorem rlX10_goes_L6 {l : Launch} {Ω : rO} (hW : WF Ω) (k0 : Nat) (hL0 : oL Ω 66 k0) {K : Int32 → rS → Prop} {KE : Unit → rS → Prop} (hE0 : ∀ (e : Unit) (σ : rS), KE e σ → Run l Ω cX10_goes RX10 3 none rmX10_goes K 34 [some (rf Ω 66 k0), none, none] [] σ) : ∀ (n : Nat) (x2 : Int32) (σ : rS), hit (lp (fun (x : Int32) σ => fX10_goes_L6 k0 x σ) n x2 σ) KE → Run l Ω cX10_goes RX10 3 none rmX10_goes K 6 [some (rf Ω 66 k0), none, some (.int x2)] [] σ := by
  intro n
  induction n with
  | zero => intro x2 σ h; exact (h : False).elim
  | succ n ih =>
    intro x2 σ h
    exact rsX10_goes_L6 hW k0 x2 hL0 σ (fun x2 σ h => ih x2 σ h) (fun e σ h => hE0 e σ h) (hit_lp h)
set_option maxRecDepth 100000 in
set_option maxHeartbeats 4000000 in
theorem ctX10_goes (l : Launch) (Ω : rO) (k0 : Nat) (x1 : Int32) (hL0 : oL Ω 66 k0) (σ : rS) (K : Int32 → rS → Prop) (h : hit (fX10_goes k0 x1 σ) K) : Ct l Ω yX10_goes cX10_goes 3 none rmX10_goes [rf Ω 66 k0, .int x1] σ K := by
  refine Ct.of (own := RX10) (lv := [some (rf Ω 66 k0), some (.int x1), none]) (by decide) rfl (Nat.le_of_ble_eq_true rfl) rfl (fun hW => ?_)
  unfold fX10_goes at h
  refine R_iload_n (i := 1) dX10_goes_0 rfl rfl ?_
  refine R_iconst (v := 0) dX10_goes_1 rfl ?_
  refine R_callSi (ctX10_cell l Ω x1 0 _ _ (hit_mono (hit_bd h) (fun r1 σ2 h => ?_))) okX10_cell mw_1471 rfl rfl (Nat.le_of_ble_eq_true rfl) rfl rfl ⟨by decide, by decide⟩ dX10_goes_2
  refine R_istore_n (lv2 := [some (rf Ω 66 k0), some (.int x1), some (.int r1)]) dX10_goes_5 rfl (by decide) rfl rfl ?_
  refine R_drop (lv2 := [some (rf Ω 66 k0), none, some (.int r1)]) 1 rfl ?_
  refine rlX10_goes_L6 hW k0 hL0 ?_ fu r1 σ2 (hit_bd h)
  · intro e7 σ6 h
    try dsimp only at h
    refine R_aload_n (i := 0) dX10_goes_34 rfl rfl ?_
    refine R_iconst (v := 0) dX10_goes_35 rfl ?_
    refine R_dup2 dX10_goes_36 rfl rfl ?_
    refine R_iald hL0 (cE_66 Ω k0 _) (vin 0 1554 rfl) dX10_goes_37 ?_
    refine R_iconst (v := 1) dX10_goes_38 rfl ?_
    refine R_isub dX10_goes_39 ?_
    refine R_iast hL0 (cE_66 Ω k0) (vin 0 1554 rfl) dX10_goes_40 ?_
    refine R_st h (fun σ8 h => ?_)
    exact R_vret dX10_goes_41 rfl h
set_option maxRecDepth 100000 in
set_option maxHeartbeats 4000000 in
theorem ctX10_isYoungLink (l : Launch) (Ω : rO) (k0 : Nat) (x1 : Int32) (x2 : Int32) (hL0 : oL Ω 66 k0) (σ : rS) (K : Int32 → rS → Prop) (h : hit (fX10_isYoungLink k0 x1 x2 σ) K) : Ct l Ω yX10_isYoungLink cX10_isYoungLink 4 (some .boolean) rmX10_isYoungLink [rf Ω 66 k0, .int x1, .int x2] σ K := by
  refine Ct.of (own := RX10) (lv := [some (rf Ω 66 k0), some (.int x1), some (.int x2), none]) (by decide) rfl (Nat.le_of_ble_eq_true rfl) rfl (fun hW => ?_)
  unfold fX10_isYoungLink at h
  refine R_aload_n (i := 0) dX10_isYoungLink_0 rfl rfl ?_
  refine R_aload_n (i := 0) dX10_isYoungLink_1 rfl rfl ?_
  refine R_iload_n (i := 1) dX10_isYoungLink_2 rfl rfl ?_
  refine R_bipush (v := 7) dX10_isYoungLink_3 rfl ?_
  refine R_iload_n (i := 2) dX10_isYoungLink_5 rfl rfl ?_
  refine R_iadd dX10_isYoungLink_6 ?_
  refine R_callSi (ctX10_of l Ω k0 x1 (7 + x2) hL0 _ _ (hit_mono (hit_bd h) (fun r1 σ2 h => ?_))) okX10_of mw_1435 rfl rfl (Nat.le_of_ble_eq_true rfl) rfl rfl ⟨by decide, by decide⟩ dX10_isYoungLink_7
  refine R_callSi (ctX10_spotOf_ l Ω k0 r1 hL0 _ _ (hit_mono (hit_bd h) (fun r3 σ4 h => ?_))) okX10_spotOf_ mw_1432 rfl rfl (Nat.le_of_ble_eq_true rfl) rfl rfl ⟨by decide, by decide⟩ dX10_isYoungLink_10
  refine R_istore_n (lv2 := [some (rf Ω 66 k0), some (.int x1), some (.int x2), some (.int r3)]) dX10_isYoungLink_13 rfl (by decide) rfl rfl ?_
  refine R_iload_n (i := 3) dX10_isYoungLink_14 rfl rfl ?_
  refine R_iconst (v := (-1)) dX10_isYoungLink_15 rfl ?_
  refine R_icmp_eq (tgt := 31) dX10_isYoungLink_16 (by decide) (fun hc => ?_) (fun hc => ?_)
  · have h := hit_t h hc
    refine R_iconst (v := 0) dX10_isYoungLink_31 rfl ?_
    exact R_zret dX10_isYoungLink_32 rfl (Or.inl rfl) h
  · have h := hit_f h hc
    refine R_aload_n (i := 0) dX10_isYoungLink_19 rfl rfl ?_
    refine R_iload_n (i := 3) dX10_isYoungLink_20 rfl rfl ?_
    refine R_callSi (ctX10_isOld l Ω k0 r3 hL0 _ _ (hit_mono (hit_bd h) (fun r5 σ6 h => ?_))) okX10_isOld mw_1468 rfl rfl (Nat.le_of_ble_eq_true rfl) rfl rfl ⟨by decide, by decide⟩ dX10_isYoungLink_21
    refine R_if_ne (tgt := 31) dX10_isYoungLink_24 (by decide) (fun hc => ?_) (fun hc => ?_)
    · have h := hit_f h hc
      refine R_iconst (v := 0) dX10_isYoungLink_31 rfl ?_
      exact R_zret dX10_isYoungLink_32 rfl (Or.inl rfl) h
    · have h := hit_t h hc
      refine R_iconst (v := 1) dX10_isYoungLink_27 rfl ?_
      refine R_goto (tgt := 32) dX10_isYoungLink_28 (by decide) ?_
      exact R_zret dX10_isYoungLink_32 rfl (Or.inr rfl) h
set_option maxRecDepth 100000 in
set_option maxHeartbeats 4000000 in
theorem rnX10_spotOfKept_j39L2 {l : Launch} {Ω : rO} (hW : WF Ω) (k0 : Nat) (x1 : Int32) (x2 : Int32) (x3 : Int32) (hL0 : oL Ω 66 k0) (σ : rS) {K : Int32 → rS → Prop} {K0 : (Int32 ⊕ (Int32 ⊕ Unit)) → rS → Prop} (hC : ∀ (x3 : Int32) (σ : rS), K0 (.inl x3) σ → Run l Ω cX10_spotOfKept RX10 4 (some .int) rmX10_spotOfKept K 2 [some (rf Ω 66 k0), some (.int x1), some (.int x2), some (.int x3)] [] σ) (hE0 : ∀ (e : Int32) (σ : rS), K0 (.inr (.inl e)) σ → Run l Ω cX10_spotOfKept RX10 4 (some .int) rmX10_spotOfKept K 37 [none, none, none, some (.int e)] [] σ) (hE1 : ∀ (e : Unit) (σ : rS), K0 (.inr (.inr e)) σ → Run l Ω cX10_spotOfKept RX10 4 (some .int) rmX10_spotOfKept K 45 [none, none, none, none] [] σ) (h : hit (fX10_spotOfKept_j39L2 k0 x1 x2 x3 σ) K0) : Run l Ω cX10_spotOfKept RX10 4 (some .int) rmX10_spotOfKept K 39 [some (rf Ω 66 k0), some (.int x1), some (.int x2), some (.int x3)] [] σ := by
  unfold fX10_spotOfKept_j39L2 at h
  refine R_iinc (v := x3 + 1) (lv2 := [some (rf Ω 66 k0), some (.int x1), some (.int x2), some (.int (x3 + 1))]) dX10_spotOfKept_39 rfl rfl (by decide) rfl rfl ?_
  refine R_goto (tgt := 2) dX10_spotOfKept_42 (by decide) ?_
  exact hC (x3 + 1) σ h
set_option maxRecDepth 100000 in
set_option maxHeartbeats 4000000 in
theorem rsX10_spotOfKept_L2 {l : Launch} {Ω : rO} (hW : WF Ω) (k0 : Nat) (x1 : Int32) (x2 : Int32) (x3 : Int32) (hL0 : oL Ω 66 k0) (σ : rS) {K : Int32 → rS → Prop} {K0 : (Int32 ⊕ (Int32 ⊕ Unit)) → rS → Prop} (hC : ∀ (x3 : Int32) (σ : rS), K0 (.inl x3) σ → Run l Ω cX10_spotOfKept RX10 4 (some .int) rmX10_spotOfKept K 2 [some (rf Ω 66 k0), some (.int x1), some (.int x2), some (.int x3)] [] σ) (hE0 : ∀ (e : Int32) (σ : rS), K0 (.inr (.inl e)) σ → Run l Ω cX10_spotOfKept RX10 4 (some .int) rmX10_spotOfKept K 37 [none, none, none, some (.int e)] [] σ) (hE1 : ∀ (e : Unit) (σ : rS), K0 (.inr (.inr e)) σ → Run l Ω cX10_spotOfKept RX10 4 (some .int) rmX10_spotOfKept K 45 [none, none, none, none] [] σ) (h : hit (fX10_spotOfKept_L2 k0 x1 x2 x3 σ) K0) : Run l Ω cX10_spotOfKept RX10 4 (some .int) rmX10_spotOfKept K 2 [some (rf Ω 66 k0), some (.int x1), some (.int x2), some (.int x3)] [] σ := by
  unfold fX10_spotOfKept_L2 at h
  refine R_iload_n (i := 3) dX10_spotOfKept_2 rfl rfl ?_
  refine R_aload_n (i := 0) dX10_spotOfKept_3 rfl rfl ?_
  refine R_sipush (v := 889) dX10_spotOfKept_4 rfl ?_
  refine R_iald hL0 (cE_66 Ω k0 _) (vin 889 1554 rfl) dX10_spotOfKept_7 ?_
  refine R_icmp_ge (tgt := 45) dX10_spotOfKept_8 (by decide) (fun hc => ?_) (fun hc => ?_)
  · have h := hit_f h hc
    refine R_drop (lv2 := [none, some (.int x1), some (.int x2), some (.int x3)]) 0 rfl ?_
    refine R_drop (lv2 := [none, none, some (.int x2), some (.int x3)]) 1 rfl ?_
    refine R_drop (lv2 := [none, none, none, some (.int x3)]) 2 rfl ?_
    refine R_drop (lv2 := [none, none, none, none]) 3 rfl ?_
    exact hE1 () σ h
  · have h := hit_t h hc
    refine R_aload_n (i := 0) dX10_spotOfKept_11 rfl rfl ?_
    refine R_sipush (v := 890) dX10_spotOfKept_12 rfl ?_
    refine R_iconst (v := 2) dX10_spotOfKept_15 rfl ?_
    refine R_iload_n (i := 3) dX10_spotOfKept_16 rfl rfl ?_
    refine R_imul dX10_spotOfKept_17 ?_
    refine R_iadd dX10_spotOfKept_18 ?_
    obtain ⟨hb, h⟩ := hit_bnd h
    refine R_iald hL0 (cE_66 Ω k0 _) hb dX10_spotOfKept_19 ?_
    refine R_iload_n (i := 1) dX10_spotOfKept_20 rfl rfl ?_
    refine R_icmp_ne (tgt := 39) dX10_spotOfKept_21 (by decide) (fun hc => ?_) (fun hc => ?_)
    · have h := hit_f h hc
      exact rnX10_spotOfKept_j39L2 hW k0 x1 x2 x3 hL0 σ hC hE0 hE1 h
    · have h := hit_t h hc
      refine R_aload_n (i := 0) dX10_spotOfKept_24 rfl rfl ?_
      refine R_sipush (v := 891) dX10_spotOfKept_25 rfl ?_
      refine R_iconst (v := 2) dX10_spotOfKept_28 rfl ?_
      refine R_iload_n (i := 3) dX10_spotOfKept_29 rfl rfl ?_
      refine R_imul dX10_spotOfKept_30 ?_
      refine R_iadd dX10_spotOfKept_31 ?_
      obtain ⟨hb, h⟩ := hit_bnd h
      refine R_iald hL0 (cE_66 Ω k0 _) hb dX10_spotOfKept_32 ?_
      refine R_iload_n (i := 2) dX10_spotOfKept_33 rfl rfl ?_
      refine R_icmp_ne (tgt := 39) dX10_spotOfKept_34 (by decide) (fun hc => ?_) (fun hc => ?_)
      · have h := hit_f h hc
        exact rnX10_spotOfKept_j39L2 hW k0 x1 x2 x3 hL0 σ hC hE0 hE1 h
      · have h := hit_t h hc
        refine R_drop (lv2 := [none, some (.int x1), some (.int x2), some (.int x3)]) 0 rfl ?_
        refine R_drop (lv2 := [none, none, some (.int x2), some (.int x3)]) 1 rfl ?_
        refine R_drop (lv2 := [none, none, none, some (.int x3)]) 2 rfl ?_
        exact hE0 x3 σ h
set_option maxRecDepth 100000 in
set_option maxHeartbeats 4000000 in
theorem rlX10_spotOfKept_L2 {l : Launch} {Ω : rO} (hW : WF Ω) (k0 : Nat) (x1 : Int32) (x2 : Int32) (hL0 : oL Ω 66 k0) {K : Int32 → rS → Prop} {KE : (Int32 ⊕ Unit) → rS → Prop} (hE0 : ∀ (e : Int32) (σ : rS), KE (.inl e) σ → Run l Ω cX10_spotOfKept RX10 4 (some .int) rmX10_spotOfKept K 37 [none, none, none, some (.int e)] [] σ) (hE1 : ∀ (e : Unit) (σ : rS), KE (.inr e) σ → Run l Ω cX10_spotOfKept RX10 4 (some .int) rmX10_spotOfKept K 45 [none, none, none, none] [] σ) : ∀ (n : Nat) (x3 : Int32) (σ : rS), hit (lp (fun (x : Int32) σ => fX10_spotOfKept_L2 k0 x1 x2 x σ) n x3 σ) KE → Run l Ω cX10_spotOfKept RX10 4 (some .int) rmX10_spotOfKept K 2 [some (rf Ω 66 k0), some (.int x1), some (.int x2), some (.int x3)] [] σ := by
  intro n
  induction n with
  | zero => intro x3 σ h; exact (h : False).elim
  | succ n ih =>
    intro x3 σ h
    exact rsX10_spotOfKept_L2 hW k0 x1 x2 x3 hL0 σ (fun x3 σ h => ih x3 σ h) (fun e σ h => hE0 e σ h) (fun e σ h => hE1 e σ h) (hit_lp h)
set_option maxRecDepth 100000 in
set_option maxHeartbeats 4000000 in
theorem ctX10_spotOfKept (l : Launch) (Ω : rO) (k0 : Nat) (x1 : Int32) (x2 : Int32) (hL0 : oL Ω 66 k0) (σ : rS) (K : Int32 → rS → Prop) (h : hit (fX10_spotOfKept k0 x1 x2 σ) K) : Ct l Ω yX10_spotOfKept cX10_spotOfKept 4 (some .int) rmX10_spotOfKept [rf Ω 66 k0, .int x1, .int x2] σ K := by
  refine Ct.of (own := RX10) (lv := [some (rf Ω 66 k0), some (.int x1), some (.int x2), none]) (by decide) rfl (Nat.le_of_ble_eq_true rfl) rfl (fun hW => ?_)
  unfold fX10_spotOfKept at h
  refine R_iconst (v := 0) dX10_spotOfKept_0 rfl ?_
  refine R_istore_n (lv2 := [some (rf Ω 66 k0), some (.int x1), some (.int x2), some (.int 0)]) dX10_spotOfKept_1 rfl (by decide) rfl rfl ?_
  refine rlX10_spotOfKept_L2 hW k0 x1 x2 hL0 ?_ ?_ fu 0 σ (hit_bd h)
  · intro e2 σ1 h
    try dsimp only at h
    refine R_iload_n (i := 3) dX10_spotOfKept_37 rfl rfl ?_
    exact R_iret dX10_spotOfKept_38 rfl h
  · intro e3 σ1 h
    try dsimp only at h
    refine R_iconst (v := (-1)) dX10_spotOfKept_45 rfl ?_
    exact R_iret dX10_spotOfKept_46 rfl h
set_option maxRecDepth 100000 in
set_option maxHeartbeats 4000000 in
theorem ctX10_keeps (l : Launch) (Ω : rO) (k0 : Nat) (x1 : Int32) (x2 : Int32) (hL0 : oL Ω 66 k0) (σ : rS) (K : Int32 → rS → Prop) (h : hit (fX10_keeps k0 x1 x2 σ) K) : Ct l Ω yX10_keeps cX10_keeps 3 none rmX10_keeps [rf Ω 66 k0, .int x1, .int x2] σ K := by
  refine Ct.of (own := RX10) (lv := [some (rf Ω 66 k0), some (.int x1), some (.int x2)]) (by decide) rfl (Nat.le_of_ble_eq_true rfl) rfl (fun hW => ?_)
  unfold fX10_keeps at h
  refine R_aload_n (i := 0) dX10_keeps_0 rfl rfl ?_
  refine R_iload_n (i := 1) dX10_keeps_1 rfl rfl ?_
  refine R_callSi (ctX10_isOld l Ω k0 x1 hL0 _ _ (hit_mono (hit_bd h) (fun r1 σ2 h => ?_))) okX10_isOld mw_1468 rfl rfl (Nat.le_of_ble_eq_true rfl) rfl rfl ⟨by decide, by decide⟩ dX10_keeps_2
  refine R_if_eq (tgt := 32) dX10_keeps_5 (by decide) (fun hc => ?_) (fun hc => ?_)
  · have h := hit_t h hc
    exact R_vret dX10_keeps_32 rfl h
  · have h := hit_f h hc
    refine R_aload_n (i := 0) dX10_keeps_8 rfl rfl ?_
    refine R_iload_n (i := 1) dX10_keeps_9 rfl rfl ?_
    refine R_iload_n (i := 2) dX10_keeps_10 rfl rfl ?_
    refine R_callSi (ctX10_isYoungLink l Ω k0 x1 x2 hL0 _ _ (hit_mono (hit_bd h) (fun r3 σ4 h => ?_))) okX10_isYoungLink mw_1507 rfl rfl (Nat.le_of_ble_eq_true rfl) rfl rfl ⟨by decide, by decide⟩ dX10_keeps_11
    refine R_if_eq (tgt := 32) dX10_keeps_14 (by decide) (fun hc => ?_) (fun hc => ?_)
    · have h := hit_t h hc
      exact R_vret dX10_keeps_32 rfl h
    · have h := hit_f h hc
      refine R_aload_n (i := 0) dX10_keeps_17 rfl rfl ?_
      refine R_aload_n (i := 0) dX10_keeps_18 rfl rfl ?_
      refine R_iload_n (i := 1) dX10_keeps_19 rfl rfl ?_
      refine R_iconst (v := 0) dX10_keeps_20 rfl ?_
      refine R_callSi (ctX10_of l Ω k0 x1 0 hL0 _ _ (hit_mono (hit_bd h) (fun r5 σ6 h => ?_))) okX10_of mw_1435 rfl rfl (Nat.le_of_ble_eq_true rfl) rfl rfl ⟨by decide, by decide⟩ dX10_keeps_21
      refine R_iload_n (i := 2) dX10_keeps_24 rfl rfl ?_
      refine R_callSi (ctX10_spotOfKept l Ω k0 r5 x2 hL0 _ _ (hit_mono (hit_bd h) (fun r7 σ8 h => ?_))) okX10_spotOfKept mw_1513 rfl rfl (Nat.le_of_ble_eq_true rfl) rfl rfl ⟨by decide, by decide⟩ dX10_keeps_25
      refine R_iconst (v := (-1)) dX10_keeps_28 rfl ?_
      refine R_icmp_eq (tgt := 33) dX10_keeps_29 (by decide) (fun hc => ?_) (fun hc => ?_)
      · have h := hit_t h hc
        refine R_aload_n (i := 0) dX10_keeps_33 rfl rfl ?_
        refine R_sipush (v := 890) dX10_keeps_34 rfl ?_
        refine R_iconst (v := 2) dX10_keeps_37 rfl ?_
        refine R_aload_n (i := 0) dX10_keeps_38 rfl rfl ?_
        refine R_sipush (v := 889) dX10_keeps_39 rfl ?_
        refine R_iald hL0 (cE_66 Ω k0 _) (vin 889 1554 rfl) dX10_keeps_42 ?_
        refine R_imul dX10_keeps_43 ?_
        refine R_iadd dX10_keeps_44 ?_
        refine R_aload_n (i := 0) dX10_keeps_45 rfl rfl ?_
        refine R_iload_n (i := 1) dX10_keeps_46 rfl rfl ?_
        refine R_iconst (v := 0) dX10_keeps_47 rfl ?_
        refine R_callSi (ctX10_of l Ω k0 x1 0 hL0 _ _ (hit_mono (hit_bd h) (fun r9 σ10 h => ?_))) okX10_of mw_1435 rfl rfl (Nat.le_of_ble_eq_true rfl) rfl rfl ⟨by decide, by decide⟩ dX10_keeps_48
        obtain ⟨hb, h⟩ := hit_bnd h
        refine R_iast hL0 (cE_66 Ω k0) hb dX10_keeps_51 ?_
        refine R_st h (fun σ11 h => ?_)
        refine R_aload_n (i := 0) dX10_keeps_52 rfl rfl ?_
        refine R_sipush (v := 891) dX10_keeps_53 rfl ?_
        refine R_iconst (v := 2) dX10_keeps_56 rfl ?_
        refine R_aload_n (i := 0) dX10_keeps_57 rfl rfl ?_
        refine R_sipush (v := 889) dX10_keeps_58 rfl ?_
        refine R_iald hL0 (cE_66 Ω k0 _) (vin 889 1554 rfl) dX10_keeps_61 ?_
        refine R_imul dX10_keeps_62 ?_
        refine R_iadd dX10_keeps_63 ?_
        refine R_iload_n (i := 2) dX10_keeps_64 rfl rfl ?_
        obtain ⟨hb, h⟩ := hit_bnd h
        refine R_iast hL0 (cE_66 Ω k0) hb dX10_keeps_65 ?_
        refine R_st h (fun σ12 h => ?_)
        refine R_aload_n (i := 0) dX10_keeps_66 rfl rfl ?_
        refine R_sipush (v := 889) dX10_keeps_67 rfl ?_
        refine R_dup2 dX10_keeps_70 rfl rfl ?_
        refine R_iald hL0 (cE_66 Ω k0 _) (vin 889 1554 rfl) dX10_keeps_71 ?_
        refine R_iconst (v := 1) dX10_keeps_72 rfl ?_
        refine R_iadd dX10_keeps_73 ?_
        refine R_iast hL0 (cE_66 Ω k0) (vin 889 1554 rfl) dX10_keeps_74 ?_
        refine R_st h (fun σ13 h => ?_)
        exact R_vret dX10_keeps_75 rfl h
      · have h := hit_f h hc
        exact R_vret dX10_keeps_32 rfl h
set_option maxRecDepth 100000 in
set_option maxHeartbeats 4000000 in
theorem rnX10_sifts_j85L4 {l : Launch} {Ω : rO} (hW : WF Ω) (k0 : Nat) (x1 : Int32) (x2 : Int32) (hL0 : oL Ω 66 k0) (σ : rS) {K : Int32 → rS → Prop} {K0 : ((Int32 × Int32) ⊕ Int32) → rS → Prop} (hC : ∀ (x1 : Int32) (x2 : Int32) (σ : rS), K0 (.inl (x1, x2)) σ → Run l Ω cX10_sifts RX10 6 none rmX10_sifts K 4 [some (rf Ω 66 k0), some (.int x1), some (.int x2), none, none, none] [] σ) (hE0 : ∀ (e : Int32) (σ : rS), K0 (.inr e) σ → Run l Ω cX10_sifts RX10 6 none rmX10_sifts K 91 [some (rf Ω 66 k0), some (.int e), none, none, none, none] [] σ) (h : hit (fX10_sifts_j85L4 k0 x1 x2 σ) K0) : Run l Ω cX10_sifts RX10 6 none rmX10_sifts K 85 [some (rf Ω 66 k0), some (.int x1), some (.int x2), none, none, none] [] σ := by
  unfold fX10_sifts_j85L4 at h
  refine R_iinc (v := x2 + 1) (lv2 := [some (rf Ω 66 k0), some (.int x1), some (.int (x2 + 1)), none, none, none]) dX10_sifts_85 rfl rfl (by decide) rfl rfl ?_
  refine R_goto (tgt := 4) dX10_sifts_88 (by decide) ?_
  exact hC x1 (x2 + 1) σ h
set_option maxRecDepth 100000 in
set_option maxHeartbeats 4000000 in
theorem rsX10_sifts_L4 {l : Launch} {Ω : rO} (hW : WF Ω) (k0 : Nat) (x1 : Int32) (x2 : Int32) (hL0 : oL Ω 66 k0) (σ : rS) {K : Int32 → rS → Prop} {K0 : ((Int32 × Int32) ⊕ Int32) → rS → Prop} (hC : ∀ (x1 : Int32) (x2 : Int32) (σ : rS), K0 (.inl (x1, x2)) σ → Run l Ω cX10_sifts RX10 6 none rmX10_sifts K 4 [some (rf Ω 66 k0), some (.int x1), some (.int x2), none, none, none] [] σ) (hE0 : ∀ (e : Int32) (σ : rS), K0 (.inr e) σ → Run l Ω cX10_sifts RX10 6 none rmX10_sifts K 91 [some (rf Ω 66 k0), some (.int e), none, none, none, none] [] σ) (h : hit (fX10_sifts_L4 k0 x1 x2 σ) K0) : Run l Ω cX10_sifts RX10 6 none rmX10_sifts K 4 [some (rf Ω 66 k0), some (.int x1), some (.int x2), none, none, none] [] σ := by
  unfold fX10_sifts_L4 at h
  refine R_iload_n (i := 2) dX10_sifts_4 rfl rfl ?_
  refine R_aload_n (i := 0) dX10_sifts_5 rfl rfl ?_
  refine R_sipush (v := 889) dX10_sifts_6 rfl ?_
  refine R_iald hL0 (cE_66 Ω k0 _) (vin 889 1554 rfl) dX10_sifts_9 ?_
  refine R_icmp_ge (tgt := 91) dX10_sifts_10 (by decide) (fun hc => ?_) (fun hc => ?_)
  · have h := hit_f h hc
    refine R_drop (lv2 := [some (rf Ω 66 k0), some (.int x1), none, none, none, none]) 2 rfl ?_
    exact hE0 x1 σ h
  · have h := hit_t h hc
    refine R_aload_n (i := 0) dX10_sifts_13 rfl rfl ?_
    refine R_sipush (v := 890) dX10_sifts_14 rfl ?_
    refine R_iconst (v := 2) dX10_sifts_17 rfl ?_
    refine R_iload_n (i := 2) dX10_sifts_18 rfl rfl ?_
    refine R_imul dX10_sifts_19 ?_
    refine R_iadd dX10_sifts_20 ?_
    obtain ⟨hb, h⟩ := hit_bnd h
    refine R_iald hL0 (cE_66 Ω k0 _) hb dX10_sifts_21 ?_
    refine R_topi h (fun y1 h => ?_)
    refine R_istore_n (lv2 := [some (rf Ω 66 k0), some (.int x1), some (.int x2), some (.int y1), none, none]) dX10_sifts_22 rfl (by decide) rfl rfl ?_
    refine R_aload_n (i := 0) dX10_sifts_23 rfl rfl ?_
    refine R_sipush (v := 891) dX10_sifts_24 rfl ?_
    refine R_iconst (v := 2) dX10_sifts_27 rfl ?_
    refine R_iload_n (i := 2) dX10_sifts_28 rfl rfl ?_
    refine R_imul dX10_sifts_29 ?_
    refine R_iadd dX10_sifts_30 ?_
    obtain ⟨hb, h⟩ := hit_bnd h
    refine R_iald hL0 (cE_66 Ω k0 _) hb dX10_sifts_31 ?_
    refine R_topi h (fun y2 h => ?_)
    refine R_istore (lv2 := [some (rf Ω 66 k0), some (.int x1), some (.int x2), some (.int y1), some (.int y2), none]) dX10_sifts_32 (by decide) rfl rfl ?_
    refine R_aload_n (i := 0) dX10_sifts_34 rfl rfl ?_
    refine R_iload_n (i := 3) dX10_sifts_35 rfl rfl ?_
    refine R_callSi (ctX10_spotOf_ l Ω k0 y1 hL0 _ _ (hit_mono (hit_bd h) (fun r3 σ4 h => ?_))) okX10_spotOf_ mw_1432 rfl rfl (Nat.le_of_ble_eq_true rfl) rfl rfl ⟨by decide, by decide⟩ dX10_sifts_36
    refine R_istore (lv2 := [some (rf Ω 66 k0), some (.int x1), some (.int x2), some (.int y1), some (.int y2), some (.int r3)]) dX10_sifts_39 (by decide) rfl rfl ?_
    refine R_iload (i := 5) dX10_sifts_41 rfl ?_
    refine R_iconst (v := (-1)) dX10_sifts_43 rfl ?_
    refine R_icmp_eq (tgt := 85) dX10_sifts_44 (by decide) (fun hc => ?_) (fun hc => ?_)
    · have h := hit_t h hc
      refine R_drop (lv2 := [some (rf Ω 66 k0), some (.int x1), some (.int x2), none, some (.int y2), some (.int r3)]) 3 rfl ?_
      refine R_drop (lv2 := [some (rf Ω 66 k0), some (.int x1), some (.int x2), none, none, some (.int r3)]) 4 rfl ?_
      refine R_drop (lv2 := [some (rf Ω 66 k0), some (.int x1), some (.int x2), none, none, none]) 5 rfl ?_
      exact rnX10_sifts_j85L4 hW k0 x1 x2 hL0 σ4 hC hE0 h
    · have h := hit_f h hc
      refine R_aload_n (i := 0) dX10_sifts_47 rfl rfl ?_
      refine R_iload (i := 5) dX10_sifts_48 rfl ?_
      refine R_iload (i := 4) dX10_sifts_50 rfl ?_
      refine R_callSi (ctX10_isYoungLink l Ω k0 r3 y2 hL0 _ _ (hit_mono (hit_bd h) (fun r5 σ6 h => ?_))) okX10_isYoungLink mw_1507 rfl rfl (Nat.le_of_ble_eq_true rfl) rfl rfl ⟨by decide, by decide⟩ dX10_sifts_52
      refine R_if_ne (tgt := 61) dX10_sifts_55 (by decide) (fun hc => ?_) (fun hc => ?_)
      · have h := hit_f h hc
        refine R_aload_n (i := 0) dX10_sifts_61 rfl rfl ?_
        refine R_sipush (v := 890) dX10_sifts_62 rfl ?_
        refine R_iconst (v := 2) dX10_sifts_65 rfl ?_
        refine R_iload_n (i := 1) dX10_sifts_66 rfl rfl ?_
        refine R_imul dX10_sifts_67 ?_
        refine R_iadd dX10_sifts_68 ?_
        refine R_iload_n (i := 3) dX10_sifts_69 rfl rfl ?_
        obtain ⟨hb, h⟩ := hit_bnd h
        refine R_iast hL0 (cE_66 Ω k0) hb dX10_sifts_70 ?_
        refine R_st h (fun σ7 h => ?_)
        refine R_aload_n (i := 0) dX10_sifts_71 rfl rfl ?_
        refine R_sipush (v := 891) dX10_sifts_72 rfl ?_
        refine R_iconst (v := 2) dX10_sifts_75 rfl ?_
        refine R_iload_n (i := 1) dX10_sifts_76 rfl rfl ?_
        refine R_imul dX10_sifts_77 ?_
        refine R_iadd dX10_sifts_78 ?_
        refine R_iload (i := 4) dX10_sifts_79 rfl ?_
        obtain ⟨hb, h⟩ := hit_bnd h
        refine R_iast hL0 (cE_66 Ω k0) hb dX10_sifts_81 ?_
        refine R_st h (fun σ8 h => ?_)
        refine R_iinc (v := x1 + 1) (lv2 := [some (rf Ω 66 k0), some (.int (x1 + 1)), some (.int x2), some (.int y1), some (.int y2), some (.int r3)]) dX10_sifts_82 rfl rfl (by decide) rfl rfl ?_
        refine R_drop (lv2 := [some (rf Ω 66 k0), some (.int (x1 + 1)), some (.int x2), none, some (.int y2), some (.int r3)]) 3 rfl ?_
        refine R_drop (lv2 := [some (rf Ω 66 k0), some (.int (x1 + 1)), some (.int x2), none, none, some (.int r3)]) 4 rfl ?_
        refine R_drop (lv2 := [some (rf Ω 66 k0), some (.int (x1 + 1)), some (.int x2), none, none, none]) 5 rfl ?_
        exact rnX10_sifts_j85L4 hW k0 (x1 + 1) x2 hL0 σ8 hC hE0 h
      · have h := hit_t h hc
        refine R_goto (tgt := 85) dX10_sifts_58 (by decide) ?_
        refine R_drop (lv2 := [some (rf Ω 66 k0), some (.int x1), some (.int x2), none, some (.int y2), some (.int r3)]) 3 rfl ?_
        refine R_drop (lv2 := [some (rf Ω 66 k0), some (.int x1), some (.int x2), none, none, some (.int r3)]) 4 rfl ?_
        refine R_drop (lv2 := [some (rf Ω 66 k0), some (.int x1), some (.int x2), none, none, none]) 5 rfl ?_
        exact rnX10_sifts_j85L4 hW k0 x1 x2 hL0 σ6 hC hE0 h
set_option maxRecDepth 100000 in
set_option maxHeartbeats 4000000 in
theorem rlX10_sifts_L4 {l : Launch} {Ω : rO} (hW : WF Ω) (k0 : Nat) (hL0 : oL Ω 66 k0) {K : Int32 → rS → Prop} {KE : Int32 → rS → Prop} (hE0 : ∀ (e : Int32) (σ : rS), KE e σ → Run l Ω cX10_sifts RX10 6 none rmX10_sifts K 91 [some (rf Ω 66 k0), some (.int e), none, none, none, none] [] σ) : ∀ (n : Nat) (x1 : Int32) (x2 : Int32) (σ : rS), hit (lp (fun (x : (Int32 × Int32)) σ => fX10_sifts_L4 k0 x.1 x.2 σ) n (x1, x2) σ) KE → Run l Ω cX10_sifts RX10 6 none rmX10_sifts K 4 [some (rf Ω 66 k0), some (.int x1), some (.int x2), none, none, none] [] σ := by
  intro n
  induction n with
  | zero => intro x1 x2 σ h; exact (h : False).elim
  | succ n ih =>
    intro x1 x2 σ h
    exact rsX10_sifts_L4 hW k0 x1 x2 hL0 σ (fun x1 x2 σ h => ih x1 x2 σ h) (fun e σ h => hE0 e σ h) (hit_lp h)
set_option maxRecDepth 100000 in
set_option maxHeartbeats 4000000 in
theorem ctX10_sifts (l : Launch) (Ω : rO) (k0 : Nat) (hL0 : oL Ω 66 k0) (σ : rS) (K : Int32 → rS → Prop) (h : hit (fX10_sifts k0 σ) K) : Ct l Ω yX10_sifts cX10_sifts 6 none rmX10_sifts [rf Ω 66 k0] σ K := by
  refine Ct.of (own := RX10) (lv := [some (rf Ω 66 k0), none, none, none, none, none]) (by decide) rfl (Nat.le_of_ble_eq_true rfl) rfl (fun hW => ?_)
  unfold fX10_sifts at h
  refine R_iconst (v := 0) dX10_sifts_0 rfl ?_
  refine R_istore_n (lv2 := [some (rf Ω 66 k0), some (.int 0), none, none, none, none]) dX10_sifts_1 rfl (by decide) rfl rfl ?_
  refine R_iconst (v := 0) dX10_sifts_2 rfl ?_
  refine R_istore_n (lv2 := [some (rf Ω 66 k0), some (.int 0), some (.int 0), none, none, none]) dX10_sifts_3 rfl (by decide) rfl rfl ?_
  refine rlX10_sifts_L4 hW k0 hL0 ?_ fu 0 0 σ (hit_bd h)
  · intro e10 σ9 h
    try dsimp only at h
    refine R_aload_n (i := 0) dX10_sifts_91 rfl rfl ?_
    refine R_sipush (v := 889) dX10_sifts_92 rfl ?_
    refine R_iload_n (i := 1) dX10_sifts_95 rfl rfl ?_
    refine R_iast hL0 (cE_66 Ω k0) (vin 889 1554 rfl) dX10_sifts_96 ?_
    refine R_st h (fun σ11 h => ?_)
    exact R_vret dX10_sifts_97 rfl h
set_option maxRecDepth 100000 in
set_option maxHeartbeats 4000000 in
theorem rsX10_begins_L2 {l : Launch} {Ω : rO} (hW : WF Ω) (x1 : Int32) (hL0 : oL Ω 10 0) (σ : rS) {K : Int32 → rS → Prop} {K0 : (Int32 ⊕ Unit) → rS → Prop} (hC : ∀ (x1 : Int32) (σ : rS), K0 (.inl x1) σ → Run l Ω cX10_begins RX10 2 none rmX10_begins K 2 [some (rf Ω 10 0), some (.int x1)] [] σ) (hE0 : ∀ (e : Unit) (σ : rS), K0 (.inr e) σ → Run l Ω cX10_begins RX10 2 none rmX10_begins K 21 [some (rf Ω 10 0), none] [] σ) (h : hit (fX10_begins_L2 x1 σ) K0) : Run l Ω cX10_begins RX10 2 none rmX10_begins K 2 [some (rf Ω 10 0), some (.int x1)] [] σ := by
  unfold fX10_begins_L2 at h
  refine R_iload_n (i := 1) dX10_begins_2 rfl rfl ?_
  refine R_bipush (v := 80) dX10_begins_3 rfl ?_
  refine R_icmp_ge (tgt := 21) dX10_begins_5 (by decide) (fun hc => ?_) (fun hc => ?_)
  · have h := hit_f h hc
    refine R_drop (lv2 := [some (rf Ω 10 0), none]) 1 rfl ?_
    exact hE0 () σ h
  · have h := hit_t h hc
    refine R_aload_n (i := 0) dX10_begins_8 rfl rfl ?_
    refine R_get foX10_45 hL0 (cE_10 Ω 0 _) rfl dX10_begins_9 ?_
    refine R_iload_n (i := 1) dX10_begins_12 rfl rfl ?_
    refine R_iconst (v := 0) dX10_begins_13 rfl ?_
    obtain ⟨hb, h⟩ := hit_bnd h
    refine R_zast (WF.kid hW 11 hL0 rfl) (cE_68 Ω 0) hb (Or.inl rfl) dX10_begins_14 ?_
    refine R_st h (fun σ1 h => ?_)
    refine R_iinc (v := x1 + 1) (lv2 := [some (rf Ω 10 0), some (.int (x1 + 1))]) dX10_begins_15 rfl rfl (by decide) rfl rfl ?_
    refine R_goto (tgt := 2) dX10_begins_18 (by decide) ?_
    exact hC (x1 + 1) σ1 h
set_option maxRecDepth 100000 in
set_option maxHeartbeats 4000000 in
theorem rlX10_begins_L2 {l : Launch} {Ω : rO} (hW : WF Ω) (hL0 : oL Ω 10 0) {K : Int32 → rS → Prop} {KE : Unit → rS → Prop} (hE0 : ∀ (e : Unit) (σ : rS), KE e σ → Run l Ω cX10_begins RX10 2 none rmX10_begins K 21 [some (rf Ω 10 0), none] [] σ) : ∀ (n : Nat) (x1 : Int32) (σ : rS), hit (lp (fun (x : Int32) σ => fX10_begins_L2 x σ) n x1 σ) KE → Run l Ω cX10_begins RX10 2 none rmX10_begins K 2 [some (rf Ω 10 0), some (.int x1)] [] σ := by
  intro n
  induction n with
  | zero => intro x1 σ h; exact (h : False).elim
  | succ n ih =>
    intro x1 σ h
    exact rsX10_begins_L2 hW x1 hL0 σ (fun x1 σ h => ih x1 σ h) (fun e σ h => hE0 e σ h) (hit_lp h)
set_option maxRecDepth 100000 in
set_option maxHeartbeats 4000000 in
theorem ctX10_begins (l : Launch) (Ω : rO) (hL0 : oL Ω 10 0) (σ : rS) (K : Int32 → rS → Prop) (h : hit (fX10_begins  σ) K) : Ct l Ω yX10_begins cX10_begins 2 none rmX10_begins [rf Ω 10 0] σ K := by
  refine Ct.of (own := RX10) (lv := [some (rf Ω 10 0), none]) (by decide) rfl (Nat.le_of_ble_eq_true rfl) rfl (fun hW => ?_)
  unfold fX10_begins at h
  refine R_iconst (v := 0) dX10_begins_0 rfl ?_
  refine R_istore_n (lv2 := [some (rf Ω 10 0), some (.int 0)]) dX10_begins_1 rfl (by decide) rfl rfl ?_
  refine rlX10_begins_L2 hW hL0 ?_ fu 0 σ (hit_bd h)
  · intro e3 σ2 h
    try dsimp only at h
    refine R_aload_n (i := 0) dX10_begins_21 rfl rfl ?_
    refine R_iconst (v := 0) dX10_begins_22 rfl ?_
    refine R_put poX10_195 hL0 (cE_10 Ω 0 _) (cP_10_22 Ω 0 _ _) (Nat.le_of_ble_eq_true rfl) dX10_begins_23 ?_
    refine R_st h (fun σ4 h => ?_)
    refine R_aload_n (i := 0) dX10_begins_26 rfl rfl ?_
    refine R_iconst (v := 0) dX10_begins_27 rfl ?_
    refine R_putz poX10_198 hL0 (cE_10 Ω 0 _) (cP_10_27 Ω 0 _ _) (Nat.le_of_ble_eq_true rfl) (Or.inl rfl) dX10_begins_28 ?_
    refine R_st h (fun σ5 h => ?_)
    exact R_vret dX10_begins_31 rfl h
set_option maxRecDepth 100000 in
set_option maxHeartbeats 4000000 in
theorem ctX10_marks (l : Launch) (Ω : rO) (x1 : Int32) (hL0 : oL Ω 10 0) (σ : rS) (K : Int32 → rS → Prop) (h : hit (fX10_marks x1 σ) K) : Ct l Ω yX10_marks cX10_marks 2 none rmX10_marks [rf Ω 10 0, .int x1] σ K := by
  refine Ct.of (own := RX10) (lv := [some (rf Ω 10 0), some (.int x1)]) (by decide) rfl (Nat.le_of_ble_eq_true rfl) rfl (fun hW => ?_)
  unfold fX10_marks at h
  refine R_iload_n (i := 1) dX10_marks_0 rfl rfl ?_
  refine R_iconst (v := (-1)) dX10_marks_1 rfl ?_
  refine R_icmp_eq (tgt := 14) dX10_marks_2 (by decide) (fun hc => ?_) (fun hc => ?_)
  · have h := hit_t h hc
    exact R_vret dX10_marks_14 rfl h
  · have h := hit_f h hc
    refine R_aload_n (i := 0) dX10_marks_5 rfl rfl ?_
    refine R_get foX10_45 hL0 (cE_10 Ω 0 _) rfl dX10_marks_6 ?_
    refine R_iload_n (i := 1) dX10_marks_9 rfl rfl ?_
    obtain ⟨hb, h⟩ := hit_bnd h
    refine R_zald (WF.kid hW 11 hL0 rfl) (cE_68 Ω 0 _) hb dX10_marks_10 ?_
    refine R_if_eq (tgt := 15) dX10_marks_11 (by decide) (fun hc => ?_) (fun hc => ?_)
    · have h := hit_t h hc
      refine R_aload_n (i := 0) dX10_marks_15 rfl rfl ?_
      refine R_get foX10_45 hL0 (cE_10 Ω 0 _) rfl dX10_marks_16 ?_
      refine R_iload_n (i := 1) dX10_marks_19 rfl rfl ?_
      refine R_iconst (v := 1) dX10_marks_20 rfl ?_
      obtain ⟨hb, h⟩ := hit_bnd h
      refine R_zast (WF.kid hW 11 hL0 rfl) (cE_68 Ω 0) hb (Or.inr rfl) dX10_marks_21 ?_
      refine R_st h (fun σ1 h => ?_)
      refine R_aload_n (i := 0) dX10_marks_22 rfl rfl ?_
      refine R_get foX10_49 hL0 (cE_10 Ω 0 _) rfl dX10_marks_23 ?_
      refine R_aload_n (i := 0) dX10_marks_26 rfl rfl ?_
      refine R_get foX10_195 hL0 (cE_10 Ω 0 _) rfl dX10_marks_27 ?_
      refine R_iload_n (i := 1) dX10_marks_30 rfl rfl ?_
      obtain ⟨hb, h⟩ := hit_bnd h
      refine R_iast (WF.kid hW 12 hL0 rfl) (cE_69 Ω 0) hb dX10_marks_31 ?_
      refine R_st h (fun σ2 h => ?_)
      refine R_aload_n (i := 0) dX10_marks_32 rfl rfl ?_
      refine R_dup dX10_marks_33 rfl ?_
      refine R_get foX10_195 hL0 (cE_10 Ω 0 _) rfl dX10_marks_34 ?_
      refine R_iconst (v := 1) dX10_marks_37 rfl ?_
      refine R_iadd dX10_marks_38 ?_
      refine R_put poX10_195 hL0 (cE_10 Ω 0 _) (cP_10_22 Ω 0 _ _) (Nat.le_of_ble_eq_true rfl) dX10_marks_39 ?_
      refine R_st h (fun σ3 h => ?_)
      exact R_vret dX10_marks_42 rfl h
    · have h := hit_f h hc
      exact R_vret dX10_marks_14 rfl h
set_option maxRecDepth 100000 in
set_option maxHeartbeats 4000000 in
theorem rnX10_marksAll_j63L21 {l : Launch} {Ω : rO} (hW : WF Ω) (k1 : Nat) (x3 : Int32) (x4 : Int32) (x5 : Int32) (hL0 : oL Ω 10 0) (hL1 : oL Ω 66 k1) (σ : rS) {K : Int32 → rS → Prop} {K0 : (Int32 ⊕ Unit) → rS → Prop} (hC : ∀ (x5 : Int32) (σ : rS), K0 (.inl x5) σ → Run l Ω cX10_marksAll RX10 6 none rmX10_marksAll K 21 [some (rf Ω 10 0), some (rf Ω 66 k1), none, some (.int x3), some (.int x4), some (.int x5)] [] σ) (hE0 : ∀ (e : Unit) (σ : rS), K0 (.inr e) σ → Run l Ω cX10_marksAll RX10 6 none rmX10_marksAll K 69 [some (rf Ω 10 0), some (rf Ω 66 k1), none, some (.int x3), none, none] [] σ) (h : hit (fX10_marksAll_j63L21 k1 x3 x4 x5 σ) K0) : Run l Ω cX10_marksAll RX10 6 none rmX10_marksAll K 63 [some (rf Ω 10 0), some (rf Ω 66 k1), none, some (.int x3), some (.int x4), some (.int x5)] [] σ := by
  unfold fX10_marksAll_j63L21 at h
  refine R_iinc (v := x5 + 1) (lv2 := [some (rf Ω 10 0), some (rf Ω 66 k1), none, some (.int x3), some (.int x4), some (.int (x5 + 1))]) dX10_marksAll_63 rfl rfl (by decide) rfl rfl ?_
  refine R_goto (tgt := 21) dX10_marksAll_66 (by decide) ?_
  exact hC (x5 + 1) σ h
set_option maxRecDepth 100000 in
set_option maxHeartbeats 4000000 in
theorem rsX10_marksAll_L21 {l : Launch} {Ω : rO} (hW : WF Ω) (k1 : Nat) (x3 : Int32) (x4 : Int32) (x5 : Int32) (hL0 : oL Ω 10 0) (hL1 : oL Ω 66 k1) (σ : rS) {K : Int32 → rS → Prop} {K0 : (Int32 ⊕ Unit) → rS → Prop} (hC : ∀ (x5 : Int32) (σ : rS), K0 (.inl x5) σ → Run l Ω cX10_marksAll RX10 6 none rmX10_marksAll K 21 [some (rf Ω 10 0), some (rf Ω 66 k1), none, some (.int x3), some (.int x4), some (.int x5)] [] σ) (hE0 : ∀ (e : Unit) (σ : rS), K0 (.inr e) σ → Run l Ω cX10_marksAll RX10 6 none rmX10_marksAll K 69 [some (rf Ω 10 0), some (rf Ω 66 k1), none, some (.int x3), none, none] [] σ) (h : hit (fX10_marksAll_L21 k1 x3 x4 x5 σ) K0) : Run l Ω cX10_marksAll RX10 6 none rmX10_marksAll K 21 [some (rf Ω 10 0), some (rf Ω 66 k1), none, some (.int x3), some (.int x4), some (.int x5)] [] σ := by
  unfold fX10_marksAll_L21 at h
  refine R_iload (i := 5) dX10_marksAll_21 rfl ?_
  refine R_aload_n (i := 1) dX10_marksAll_23 rfl rfl ?_
  refine R_iload (i := 4) dX10_marksAll_24 rfl ?_
  refine R_iconst (v := 2) dX10_marksAll_26 rfl ?_
  refine R_callSi (ctX10_of l Ω k1 x4 2 hL1 _ _ (hit_mono (hit_bd h) (fun r2 σ3 h => ?_))) okX10_of mw_1435 rfl rfl (Nat.le_of_ble_eq_true rfl) rfl rfl ⟨by decide, by decide⟩ dX10_marksAll_27
  refine R_icmp_ge (tgt := 69) dX10_marksAll_30 (by decide) (fun hc => ?_) (fun hc => ?_)
  · have h := hit_f h hc
    refine R_drop (lv2 := [some (rf Ω 10 0), some (rf Ω 66 k1), none, some (.int x3), none, some (.int x5)]) 4 rfl ?_
    refine R_drop (lv2 := [some (rf Ω 10 0), some (rf Ω 66 k1), none, some (.int x3), none, none]) 5 rfl ?_
    exact hE0 () σ3 h
  · have h := hit_t h hc
    refine R_aload_n (i := 1) dX10_marksAll_33 rfl rfl ?_
    refine R_iload (i := 4) dX10_marksAll_34 rfl ?_
    refine R_iload (i := 5) dX10_marksAll_36 rfl ?_
    refine R_callSi (ctX10_isWeak l Ω k1 x4 x5 hL1 _ _ (hit_mono (hit_bd h) (fun r4 σ5 h => ?_))) okX10_isWeak mw_1478 rfl rfl (Nat.le_of_ble_eq_true rfl) rfl rfl ⟨by decide, by decide⟩ dX10_marksAll_38
    refine R_if_ne (tgt := 63) dX10_marksAll_41 (by decide) (fun hc => ?_) (fun hc => ?_)
    · have h := hit_f h hc
      exact rnX10_marksAll_j63L21 hW k1 x3 x4 x5 hL0 hL1 σ5 hC hE0 h
    · have h := hit_t h hc
      refine R_aload_n (i := 0) dX10_marksAll_44 rfl rfl ?_
      refine R_aload_n (i := 1) dX10_marksAll_45 rfl rfl ?_
      refine R_aload_n (i := 1) dX10_marksAll_46 rfl rfl ?_
      refine R_iload (i := 4) dX10_marksAll_47 rfl ?_
      refine R_bipush (v := 7) dX10_marksAll_49 rfl ?_
      refine R_iload (i := 5) dX10_marksAll_51 rfl ?_
      refine R_iadd dX10_marksAll_53 ?_
      refine R_callSi (ctX10_of l Ω k1 x4 (7 + x5) hL1 _ _ (hit_mono (hit_bd h) (fun r6 σ7 h => ?_))) okX10_of mw_1435 rfl rfl (Nat.le_of_ble_eq_true rfl) rfl rfl ⟨by decide, by decide⟩ dX10_marksAll_54
      refine R_callSi (ctX10_spotOf_ l Ω k1 r6 hL1 _ _ (hit_mono (hit_bd h) (fun r8 σ9 h => ?_))) okX10_spotOf_ mw_1432 rfl rfl (Nat.le_of_ble_eq_true rfl) rfl rfl ⟨by decide, by decide⟩ dX10_marksAll_57
      refine R_callVv (ctX10_marks l Ω r8 hL0 _ _ (hit_mono (hit_bd h) (fun r10 σ11 h => ?_))) okX10_marks mw_1474 hL0 (cE_10 Ω 0 _) rfl rfl (Nat.le_of_ble_eq_true rfl) rfl rfl ⟨by decide, by decide⟩ dX10_marksAll_60
      exact rnX10_marksAll_j63L21 hW k1 x3 x4 x5 hL0 hL1 σ11 hC hE0 h
set_option maxRecDepth 100000 in
set_option maxHeartbeats 4000000 in
theorem rlX10_marksAll_L21 {l : Launch} {Ω : rO} (hW : WF Ω) (k1 : Nat) (x3 : Int32) (x4 : Int32) (hL0 : oL Ω 10 0) (hL1 : oL Ω 66 k1) {K : Int32 → rS → Prop} {KE : Unit → rS → Prop} (hE0 : ∀ (e : Unit) (σ : rS), KE e σ → Run l Ω cX10_marksAll RX10 6 none rmX10_marksAll K 69 [some (rf Ω 10 0), some (rf Ω 66 k1), none, some (.int x3), none, none] [] σ) : ∀ (n : Nat) (x5 : Int32) (σ : rS), hit (lp (fun (x : Int32) σ => fX10_marksAll_L21 k1 x3 x4 x σ) n x5 σ) KE → Run l Ω cX10_marksAll RX10 6 none rmX10_marksAll K 21 [some (rf Ω 10 0), some (rf Ω 66 k1), none, some (.int x3), some (.int x4), some (.int x5)] [] σ := by
  intro n
  induction n with
  | zero => intro x5 σ h; exact (h : False).elim
  | succ n ih =>
    intro x5 σ h
    exact rsX10_marksAll_L21 hW k1 x3 x4 x5 hL0 hL1 σ (fun x5 σ h => ih x5 σ h) (fun e σ h => hE0 e σ h) (hit_lp h)
set_option maxRecDepth 100000 in
set_option maxHeartbeats 4000000 in
theorem rsX10_marksAll_L2 {l : Launch} {Ω : rO} (hW : WF Ω) (k1 : Nat) (x3 : Int32) (hL0 : oL Ω 10 0) (hL1 : oL Ω 66 k1) (σ : rS) {K : Int32 → rS → Prop} {K0 : (Int32 ⊕ Unit) → rS → Prop} (hC : ∀ (x3 : Int32) (σ : rS), K0 (.inl x3) σ → Run l Ω cX10_marksAll RX10 6 none rmX10_marksAll K 2 [some (rf Ω 10 0), some (rf Ω 66 k1), none, some (.int x3), none, none] [] σ) (hE0 : ∀ (e : Unit) (σ : rS), K0 (.inr e) σ → Run l Ω cX10_marksAll RX10 6 none rmX10_marksAll K 75 [none, none, none, none, none, none] [] σ) (h : hit (fX10_marksAll_L2 k1 x3 σ) K0) : Run l Ω cX10_marksAll RX10 6 none rmX10_marksAll K 2 [some (rf Ω 10 0), some (rf Ω 66 k1), none, some (.int x3), none, none] [] σ := by
  unfold fX10_marksAll_L2 at h
  refine R_iload_n (i := 3) dX10_marksAll_2 rfl rfl ?_
  refine R_aload_n (i := 0) dX10_marksAll_3 rfl rfl ?_
  refine R_get foX10_195 hL0 (cE_10 Ω 0 _) rfl dX10_marksAll_4 ?_
  refine R_icmp_ge (tgt := 75) dX10_marksAll_7 (by decide) (fun hc => ?_) (fun hc => ?_)
  · have h := hit_f h hc
    refine R_drop (lv2 := [none, some (rf Ω 66 k1), none, some (.int x3), none, none]) 0 rfl ?_
    refine R_drop (lv2 := [none, none, none, some (.int x3), none, none]) 1 rfl ?_
    refine R_drop (lv2 := [none, none, none, none, none, none]) 3 rfl ?_
    exact hE0 () σ h
  · have h := hit_t h hc
    refine R_aload_n (i := 0) dX10_marksAll_10 rfl rfl ?_
    refine R_get foX10_49 hL0 (cE_10 Ω 0 _) rfl dX10_marksAll_11 ?_
    refine R_iload_n (i := 3) dX10_marksAll_14 rfl rfl ?_
    obtain ⟨hb, h⟩ := hit_bnd h
    refine R_iald (WF.kid hW 12 hL0 rfl) (cE_69 Ω 0 _) hb dX10_marksAll_15 ?_
    refine R_topi h (fun y1 h => ?_)
    refine R_istore (lv2 := [some (rf Ω 10 0), some (rf Ω 66 k1), none, some (.int x3), some (.int y1), none]) dX10_marksAll_16 (by decide) rfl rfl ?_
    refine R_iconst (v := 0) dX10_marksAll_18 rfl ?_
    refine R_istore (lv2 := [some (rf Ω 10 0), some (rf Ω 66 k1), none, some (.int x3), some (.int y1), some (.int 0)]) dX10_marksAll_19 (by decide) rfl rfl ?_
    refine rlX10_marksAll_L21 hW k1 x3 y1 hL0 hL1 ?_ fu 0 σ (hit_bd h)
    · intro e13 σ12 h
      try dsimp only at h
      refine R_iinc (v := x3 + 1) (lv2 := [some (rf Ω 10 0), some (rf Ω 66 k1), none, some (.int (x3 + 1)), none, none]) dX10_marksAll_69 rfl rfl (by decide) rfl rfl ?_
      refine R_goto (tgt := 2) dX10_marksAll_72 (by decide) ?_
      exact hC (x3 + 1) σ12 h
set_option maxRecDepth 100000 in
set_option maxHeartbeats 4000000 in
theorem rlX10_marksAll_L2 {l : Launch} {Ω : rO} (hW : WF Ω) (k1 : Nat) (hL0 : oL Ω 10 0) (hL1 : oL Ω 66 k1) {K : Int32 → rS → Prop} {KE : Unit → rS → Prop} (hE0 : ∀ (e : Unit) (σ : rS), KE e σ → Run l Ω cX10_marksAll RX10 6 none rmX10_marksAll K 75 [none, none, none, none, none, none] [] σ) : ∀ (n : Nat) (x3 : Int32) (σ : rS), hit (lp (fun (x : Int32) σ => fX10_marksAll_L2 k1 x σ) n x3 σ) KE → Run l Ω cX10_marksAll RX10 6 none rmX10_marksAll K 2 [some (rf Ω 10 0), some (rf Ω 66 k1), none, some (.int x3), none, none] [] σ := by
  intro n
  induction n with
  | zero => intro x3 σ h; exact (h : False).elim
  | succ n ih =>
    intro x3 σ h
    exact rsX10_marksAll_L2 hW k1 x3 hL0 hL1 σ (fun x3 σ h => ih x3 σ h) (fun e σ h => hE0 e σ h) (hit_lp h)
set_option maxRecDepth 100000 in
set_option maxHeartbeats 4000000 in
theorem ctX10_marksAll (l : Launch) (Ω : rO) (k1 : Nat) (x2 : Int32) (hL0 : oL Ω 10 0) (hL1 : oL Ω 66 k1) (σ : rS) (K : Int32 → rS → Prop) (h : hit (fX10_marksAll k1 x2 σ) K) : Ct l Ω yX10_marksAll cX10_marksAll 6 none rmX10_marksAll [rf Ω 10 0, rf Ω 66 k1, .int x2] σ K := by
  refine Ct.of (own := RX10) (lv := [some (rf Ω 10 0), some (rf Ω 66 k1), some (.int x2), none, none, none]) (by decide) rfl (Nat.le_of_ble_eq_true rfl) rfl (fun hW => ?_)
  unfold fX10_marksAll at h
  refine R_iload_n (i := 2) dX10_marksAll_0 rfl rfl ?_
  refine R_istore_n (lv2 := [some (rf Ω 10 0), some (rf Ω 66 k1), some (.int x2), some (.int x2), none, none]) dX10_marksAll_1 rfl (by decide) rfl rfl ?_
  refine R_drop (lv2 := [some (rf Ω 10 0), some (rf Ω 66 k1), none, some (.int x2), none, none]) 2 rfl ?_
  refine rlX10_marksAll_L2 hW k1 hL0 hL1 ?_ fu x2 σ (hit_bd h)
  · intro e15 σ14 h
    try dsimp only at h
    exact R_vret dX10_marksAll_75 rfl h
set_option maxRecDepth 100000 in
set_option maxHeartbeats 4000000 in
theorem rnX10_reaches_j36L7 {l : Launch} {Ω : rO} (hW : WF Ω) (k1 : Nat) (x2 : Int32) (x3 : Int32) (x4 : Int32) (hL0 : oL Ω 10 0) (hL1 : oL Ω 66 k1) (σ : rS) {K : Int32 → rS → Prop} {K0 : (Int32 ⊕ Unit) → rS → Prop} (hC : ∀ (x4 : Int32) (σ : rS), K0 (.inl x4) σ → Run l Ω cX10_reaches RX10 5 none rmX10_reaches K 7 [some (rf Ω 10 0), some (rf Ω 66 k1), some (.int x2), some (.int x3), some (.int x4)] [] σ) (hE0 : ∀ (e : Unit) (σ : rS), K0 (.inr e) σ → Run l Ω cX10_reaches RX10 5 none rmX10_reaches K 42 [some (rf Ω 10 0), some (rf Ω 66 k1), none, some (.int x3), none] [] σ) (h : hit (fX10_reaches_j36L7 k1 x2 x3 x4 σ) K0) : Run l Ω cX10_reaches RX10 5 none rmX10_reaches K 36 [some (rf Ω 10 0), some (rf Ω 66 k1), some (.int x2), some (.int x3), some (.int x4)] [] σ := by
  unfold fX10_reaches_j36L7 at h
  refine R_iinc (v := x4 + 1) (lv2 := [some (rf Ω 10 0), some (rf Ω 66 k1), some (.int x2), some (.int x3), some (.int (x4 + 1))]) dX10_reaches_36 rfl rfl (by decide) rfl rfl ?_
  refine R_goto (tgt := 7) dX10_reaches_39 (by decide) ?_
  exact hC (x4 + 1) σ h
set_option maxRecDepth 100000 in
set_option maxHeartbeats 4000000 in
theorem rsX10_reaches_L7 {l : Launch} {Ω : rO} (hW : WF Ω) (k1 : Nat) (x2 : Int32) (x3 : Int32) (x4 : Int32) (hL0 : oL Ω 10 0) (hL1 : oL Ω 66 k1) (σ : rS) {K : Int32 → rS → Prop} {K0 : (Int32 ⊕ Unit) → rS → Prop} (hC : ∀ (x4 : Int32) (σ : rS), K0 (.inl x4) σ → Run l Ω cX10_reaches RX10 5 none rmX10_reaches K 7 [some (rf Ω 10 0), some (rf Ω 66 k1), some (.int x2), some (.int x3), some (.int x4)] [] σ) (hE0 : ∀ (e : Unit) (σ : rS), K0 (.inr e) σ → Run l Ω cX10_reaches RX10 5 none rmX10_reaches K 42 [some (rf Ω 10 0), some (rf Ω 66 k1), none, some (.int x3), none] [] σ) (h : hit (fX10_reaches_L7 k1 x2 x3 x4 σ) K0) : Run l Ω cX10_reaches RX10 5 none rmX10_reaches K 7 [some (rf Ω 10 0), some (rf Ω 66 k1), some (.int x2), some (.int x3), some (.int x4)] [] σ := by
  unfold fX10_reaches_L7 at h
  refine R_iload (i := 4) dX10_reaches_7 rfl ?_
  refine R_bipush (v := 8) dX10_reaches_9 rfl ?_
  refine R_icmp_ge (tgt := 42) dX10_reaches_11 (by decide) (fun hc => ?_) (fun hc => ?_)
  · have h := hit_f h hc
    refine R_drop (lv2 := [some (rf Ω 10 0), some (rf Ω 66 k1), none, some (.int x3), some (.int x4)]) 2 rfl ?_
    refine R_drop (lv2 := [some (rf Ω 10 0), some (rf Ω 66 k1), none, some (.int x3), none]) 4 rfl ?_
    exact hE0 () σ h
  · have h := hit_t h hc
    refine R_iload (i := 4) dX10_reaches_14 rfl ?_
    refine R_iload_n (i := 2) dX10_reaches_16 rfl rfl ?_
    refine R_icmp_eq (tgt := 36) dX10_reaches_17 (by decide) (fun hc => ?_) (fun hc => ?_)
    · have h := hit_t h hc
      exact rnX10_reaches_j36L7 hW k1 x2 x3 x4 hL0 hL1 σ hC hE0 h
    · have h := hit_f h hc
      refine R_aload_n (i := 0) dX10_reaches_20 rfl rfl ?_
      refine R_aload_n (i := 1) dX10_reaches_21 rfl rfl ?_
      refine R_aload_n (i := 1) dX10_reaches_22 rfl rfl ?_
      refine R_sipush (v := 881) dX10_reaches_23 rfl ?_
      refine R_iload (i := 4) dX10_reaches_26 rfl ?_
      refine R_iadd dX10_reaches_28 ?_
      obtain ⟨hb, h⟩ := hit_bnd h
      refine R_iald hL1 (cE_66 Ω k1 _) hb dX10_reaches_29 ?_
      refine R_callSi (ctX10_spotOf_ l Ω k1 (σ 66 k1 (ix (881 + x4))) hL1 _ _ (hit_mono (hit_bd h) (fun r3 σ4 h => ?_))) okX10_spotOf_ mw_1432 rfl rfl (Nat.le_of_ble_eq_true rfl) rfl rfl ⟨by decide, by decide⟩ dX10_reaches_30
      refine R_callVv (ctX10_marks l Ω r3 hL0 _ _ (hit_mono (hit_bd h) (fun r5 σ6 h => ?_))) okX10_marks mw_1474 hL0 (cE_10 Ω 0 _) rfl rfl (Nat.le_of_ble_eq_true rfl) rfl rfl ⟨by decide, by decide⟩ dX10_reaches_33
      exact rnX10_reaches_j36L7 hW k1 x2 x3 x4 hL0 hL1 σ6 hC hE0 h
set_option maxRecDepth 100000 in
set_option maxHeartbeats 4000000 in
theorem rlX10_reaches_L7 {l : Launch} {Ω : rO} (hW : WF Ω) (k1 : Nat) (x2 : Int32) (x3 : Int32) (hL0 : oL Ω 10 0) (hL1 : oL Ω 66 k1) {K : Int32 → rS → Prop} {KE : Unit → rS → Prop} (hE0 : ∀ (e : Unit) (σ : rS), KE e σ → Run l Ω cX10_reaches RX10 5 none rmX10_reaches K 42 [some (rf Ω 10 0), some (rf Ω 66 k1), none, some (.int x3), none] [] σ) : ∀ (n : Nat) (x4 : Int32) (σ : rS), hit (lp (fun (x : Int32) σ => fX10_reaches_L7 k1 x2 x3 x σ) n x4 σ) KE → Run l Ω cX10_reaches RX10 5 none rmX10_reaches K 7 [some (rf Ω 10 0), some (rf Ω 66 k1), some (.int x2), some (.int x3), some (.int x4)] [] σ := by
  intro n
  induction n with
  | zero => intro x4 σ h; exact (h : False).elim
  | succ n ih =>
    intro x4 σ h
    exact rsX10_reaches_L7 hW k1 x2 x3 x4 hL0 hL1 σ (fun x4 σ h => ih x4 σ h) (fun e σ h => hE0 e σ h) (hit_lp h)
set_option maxRecDepth 100000 in
set_option maxHeartbeats 4000000 in
theorem rsX10_reaches_L45 {l : Launch} {Ω : rO} (hW : WF Ω) (k1 : Nat) (x3 : Int32) (x4 : Int32) (hL0 : oL Ω 10 0) (hL1 : oL Ω 66 k1) (σ : rS) {K : Int32 → rS → Prop} {K0 : (Int32 ⊕ Unit) → rS → Prop} (hC : ∀ (x4 : Int32) (σ : rS), K0 (.inl x4) σ → Run l Ω cX10_reaches RX10 5 none rmX10_reaches K 45 [some (rf Ω 10 0), some (rf Ω 66 k1), none, some (.int x3), some (.int x4)] [] σ) (hE0 : ∀ (e : Unit) (σ : rS), K0 (.inr e) σ → Run l Ω cX10_reaches RX10 5 none rmX10_reaches K 81 [some (rf Ω 10 0), some (rf Ω 66 k1), none, none, none] [] σ) (h : hit (fX10_reaches_L45 k1 x3 x4 σ) K0) : Run l Ω cX10_reaches RX10 5 none rmX10_reaches K 45 [some (rf Ω 10 0), some (rf Ω 66 k1), none, some (.int x3), some (.int x4)] [] σ := by
  unfold fX10_reaches_L45 at h
  refine R_iload_n (i := 3) dX10_reaches_45 rfl rfl ?_
  refine R_if_eq (tgt := 81) dX10_reaches_46 (by decide) (fun hc => ?_) (fun hc => ?_)
  · have h := hit_t h hc
    refine R_drop (lv2 := [some (rf Ω 10 0), some (rf Ω 66 k1), none, none, some (.int x4)]) 3 rfl ?_
    refine R_drop (lv2 := [some (rf Ω 10 0), some (rf Ω 66 k1), none, none, none]) 4 rfl ?_
    exact hE0 () σ h
  · have h := hit_f h hc
    refine R_iload (i := 4) dX10_reaches_49 rfl ?_
    refine R_aload_n (i := 1) dX10_reaches_51 rfl rfl ?_
    refine R_sipush (v := 1242) dX10_reaches_52 rfl ?_
    refine R_iald hL1 (cE_66 Ω k1 _) (vin 1242 1554 rfl) dX10_reaches_55 ?_
    refine R_icmp_ge (tgt := 81) dX10_reaches_56 (by decide) (fun hc => ?_) (fun hc => ?_)
    · have h := hit_f h hc
      refine R_drop (lv2 := [some (rf Ω 10 0), some (rf Ω 66 k1), none, none, some (.int x4)]) 3 rfl ?_
      refine R_drop (lv2 := [some (rf Ω 10 0), some (rf Ω 66 k1), none, none, none]) 4 rfl ?_
      exact hE0 () σ h
    · have h := hit_t h hc
      refine R_aload_n (i := 0) dX10_reaches_59 rfl rfl ?_
      refine R_aload_n (i := 1) dX10_reaches_60 rfl rfl ?_
      refine R_aload_n (i := 1) dX10_reaches_61 rfl rfl ?_
      refine R_sipush (v := 1243) dX10_reaches_62 rfl ?_
      refine R_iload (i := 4) dX10_reaches_65 rfl ?_
      refine R_iadd dX10_reaches_67 ?_
      obtain ⟨hb, h⟩ := hit_bnd h
      refine R_iald hL1 (cE_66 Ω k1 _) hb dX10_reaches_68 ?_
      refine R_callSi (ctX10_spotOf_ l Ω k1 (σ 66 k1 (ix (1243 + x4))) hL1 _ _ (hit_mono (hit_bd h) (fun r9 σ10 h => ?_))) okX10_spotOf_ mw_1432 rfl rfl (Nat.le_of_ble_eq_true rfl) rfl rfl ⟨by decide, by decide⟩ dX10_reaches_69
      refine R_callVv (ctX10_marks l Ω r9 hL0 _ _ (hit_mono (hit_bd h) (fun r11 σ12 h => ?_))) okX10_marks mw_1474 hL0 (cE_10 Ω 0 _) rfl rfl (Nat.le_of_ble_eq_true rfl) rfl rfl ⟨by decide, by decide⟩ dX10_reaches_72
      refine R_iinc (v := x4 + 1) (lv2 := [some (rf Ω 10 0), some (rf Ω 66 k1), none, some (.int x3), some (.int (x4 + 1))]) dX10_reaches_75 rfl rfl (by decide) rfl rfl ?_
      refine R_goto (tgt := 45) dX10_reaches_78 (by decide) ?_
      exact hC (x4 + 1) σ12 h
set_option maxRecDepth 100000 in
set_option maxHeartbeats 4000000 in
theorem rlX10_reaches_L45 {l : Launch} {Ω : rO} (hW : WF Ω) (k1 : Nat) (x3 : Int32) (hL0 : oL Ω 10 0) (hL1 : oL Ω 66 k1) {K : Int32 → rS → Prop} {KE : Unit → rS → Prop} (hE0 : ∀ (e : Unit) (σ : rS), KE e σ → Run l Ω cX10_reaches RX10 5 none rmX10_reaches K 81 [some (rf Ω 10 0), some (rf Ω 66 k1), none, none, none] [] σ) : ∀ (n : Nat) (x4 : Int32) (σ : rS), hit (lp (fun (x : Int32) σ => fX10_reaches_L45 k1 x3 x σ) n x4 σ) KE → Run l Ω cX10_reaches RX10 5 none rmX10_reaches K 45 [some (rf Ω 10 0), some (rf Ω 66 k1), none, some (.int x3), some (.int x4)] [] σ := by
  intro n
  induction n with
  | zero => intro x4 σ h; exact (h : False).elim
  | succ n ih =>
    intro x4 σ h
    exact rsX10_reaches_L45 hW k1 x3 x4 hL0 hL1 σ (fun x4 σ h => ih x4 σ h) (fun e σ h => hE0 e σ h) (hit_lp h)
set_option maxRecDepth 100000 in
set_option maxHeartbeats 4000000 in
theorem rnX10_reaches_j81 {l : Launch} {Ω : rO} (hW : WF Ω) (k1 : Nat) (hL0 : oL Ω 10 0) (hL1 : oL Ω 66 k1) (σ : rS) {K : Int32 → rS → Prop}  (h : hit (fX10_reaches_j81 k1 σ) K) : Run l Ω cX10_reaches RX10 5 none rmX10_reaches K 81 [some (rf Ω 10 0), some (rf Ω 66 k1), none, none, none] [] σ := by
  unfold fX10_reaches_j81 at h
  refine R_aload_n (i := 0) dX10_reaches_81 rfl rfl ?_
  refine R_aload_n (i := 1) dX10_reaches_82 rfl rfl ?_
  refine R_iconst (v := 0) dX10_reaches_83 rfl ?_
  refine R_callVv (ctX10_marksAll l Ω k1 0 hL0 hL1 _ _ (hit_mono (hit_bd h) (fun r15 σ16 h => ?_))) okX10_marksAll mw_1527 hL0 (cE_10 Ω 0 _) rfl rfl (Nat.le_of_ble_eq_true rfl) rfl rfl ⟨by decide, by decide⟩ dX10_reaches_84
  exact R_vret dX10_reaches_87 rfl h
set_option maxRecDepth 100000 in
set_option maxHeartbeats 4000000 in
theorem ctX10_reaches (l : Launch) (Ω : rO) (k1 : Nat) (x2 : Int32) (x3 : Int32) (hL0 : oL Ω 10 0) (hL1 : oL Ω 66 k1) (σ : rS) (K : Int32 → rS → Prop) (h : hit (fX10_reaches k1 x2 x3 σ) K) : Ct l Ω yX10_reaches cX10_reaches 5 none rmX10_reaches [rf Ω 10 0, rf Ω 66 k1, .int x2, .int x3] σ K := by
  refine Ct.of (own := RX10) (lv := [some (rf Ω 10 0), some (rf Ω 66 k1), some (.int x2), some (.int x3), none]) (by decide) rfl (Nat.le_of_ble_eq_true rfl) rfl (fun hW => ?_)
  unfold fX10_reaches at h
  refine R_aload_n (i := 0) dX10_reaches_0 rfl rfl ?_
  refine R_callVv (ctX10_begins l Ω hL0 _ _ (hit_mono (hit_bd h) (fun r1 σ2 h => ?_))) okX10_begins mw_1456 hL0 (cE_10 Ω 0 _) rfl rfl (Nat.le_of_ble_eq_true rfl) rfl rfl ⟨by decide, by decide⟩ dX10_reaches_1
  refine R_iconst (v := 0) dX10_reaches_4 rfl ?_
  refine R_istore (lv2 := [some (rf Ω 10 0), some (rf Ω 66 k1), some (.int x2), some (.int x3), some (.int 0)]) dX10_reaches_5 (by decide) rfl rfl ?_
  refine rlX10_reaches_L7 hW k1 x2 x3 hL0 hL1 ?_ fu 0 σ2 (hit_bd h)
  · intro e8 σ7 h
    try dsimp only at h
    refine R_iconst (v := 0) dX10_reaches_42 rfl ?_
    refine R_istore (lv2 := [some (rf Ω 10 0), some (rf Ω 66 k1), none, some (.int x3), some (.int 0)]) dX10_reaches_43 (by decide) rfl rfl ?_
    refine rlX10_reaches_L45 hW k1 x3 hL0 hL1 ?_ fu 0 σ7 (hit_bd h)
    · intro e14 σ13 h
      try dsimp only at h
      exact rnX10_reaches_j81 hW k1 hL0 hL1 σ13  h
