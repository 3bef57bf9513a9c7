set_option maxRecDepth 100000 in
set_option maxHeartbeats 4000000 in
theorem ctX10_status (l : Launch) (Ω : rO) (x1 : Int32) (hL0 : oL Ω 10 0) (σ : rS) (K : Int32 → rS → Prop) (h : hit (fX10_status x1 σ) K) : Ct l Ω yX10_status cX10_status 2 (some .int) rmX10_status [rf Ω 10 0, .int x1] σ K := by
  refine Ct.of (own := RX10) (lv := [some (rf Ω 10 0), some (.int x1)]) (by decide) rfl (Nat.le_of_ble_eq_true rfl) rfl (fun hW => ?_)
  unfold fX10_status at h
  refine R_aload_n (i := 0) dX10_status_0 rfl rfl ?_
  refine R_iconst (v := 0) dX10_status_1 rfl ?_
  refine R_put poX10_73 hL0 (cE_10 Ω 0 _) (cP_10_0 Ω 0 _ _) (Nat.le_of_ble_eq_true rfl) dX10_status_2 ?_
  refine R_st h (fun σ1 h => ?_)
  refine R_iload_n (i := 1) dX10_status_5 rfl rfl ?_
  refine R_i2l dX10_status_6 ?_
  refine R_lconst (v := 0) dX10_status_7 rfl ?_
  refine R_ldc2 (v := 3) mw_1604 dX10_status_8 ?_
  refine R_callSi (ctX10_isIn l Ω x1.toInt64 0 3 _ _ (hit_mono (hit_bd h) (fun r2 σ3 h => ?_))) okX10_isIn mw_1315 rfl rfl (Nat.le_of_ble_eq_true rfl) rfl rfl ⟨by decide, by decide⟩ ⟨Nat.zero_le _, Nat.zero_le _⟩ dX10_status_11
  refine R_if_eq (tgt := 26) dX10_status_14 (by decide) (fun hc => ?_) (fun hc => ?_)
  · have h := hit_t h hc
    refine R_iconst (v := (-1)) dX10_status_26 rfl ?_
    exact R_iret dX10_status_27 rfl h
  · have h := hit_f h hc
    refine R_aload_n (i := 0) dX10_status_17 rfl rfl ?_
    refine R_get foX10_20 hL0 (cE_10 Ω 0 _) rfl dX10_status_18 ?_
    refine R_iload_n (i := 1) dX10_status_21 rfl rfl ?_
    obtain ⟨hb, h⟩ := hit_bnd h
    refine R_iald (WF.kid hW 3 hL0 rfl) (cE_63 Ω 0 _) hb dX10_status_22 ?_
    refine R_goto (tgt := 27) dX10_status_23 (by decide) ?_
    exact R_iret dX10_status_27 rfl h
set_option maxRecDepth 100000 in
set_option maxHeartbeats 4000000 in
theorem ctX10_undo (l : Launch) (Ω : rO) (hL0 : oL Ω 10 0) (σ : rS) (K : Int32 → rS → Prop) (h : hit (fX10_undo  σ) K) : Ct l Ω yX10_undo cX10_undo 1 (some .int) rmX10_undo [rf Ω 10 0] σ K := by
  refine Ct.of (own := RX10) (lv := [some (rf Ω 10 0)]) (by decide) rfl (Nat.le_of_ble_eq_true rfl) rfl (fun hW => ?_)
  unfold fX10_undo at h
  refine R_aload_n (i := 0) dX10_undo_0 rfl rfl ?_
  refine R_iconst (v := 0) dX10_undo_1 rfl ?_
  refine R_put poX10_73 hL0 (cE_10 Ω 0 _) (cP_10_0 Ω 0 _ _) (Nat.le_of_ble_eq_true rfl) dX10_undo_2 ?_
  refine R_st h (fun σ1 h => ?_)
  refine R_aload_n (i := 0) dX10_undo_5 rfl rfl ?_
  refine R_get foX10_161 hL0 (cE_10 Ω 0 _) rfl dX10_undo_6 ?_
  refine R_if_ne (tgt := 14) dX10_undo_9 (by decide) (fun hc => ?_) (fun hc => ?_)
  · have h := hit_f h hc
    refine R_aload_n (i := 0) dX10_undo_14 rfl rfl ?_
    refine R_dup dX10_undo_15 rfl ?_
    refine R_get foX10_161 hL0 (cE_10 Ω 0 _) rfl dX10_undo_16 ?_
    refine R_iconst (v := 1) dX10_undo_19 rfl ?_
    refine R_isub dX10_undo_20 ?_
    refine R_put poX10_161 hL0 (cE_10 Ω 0 _) (cP_10_18 Ω 0 _ _) (Nat.le_of_ble_eq_true rfl) dX10_undo_21 ?_
    refine R_st h (fun σ2 h => ?_)
    refine R_aload_n (i := 0) dX10_undo_24 rfl rfl ?_
    refine R_get foX10_42 hL0 (cE_10 Ω 0 _) rfl dX10_undo_25 ?_
    refine R_sipush (v := 1554) dX10_undo_28 rfl ?_
    refine R_aload_n (i := 0) dX10_undo_31 rfl rfl ?_
    refine R_get foX10_328 hL0 (cE_10 Ω 0 _) rfl dX10_undo_32 ?_
    refine R_aload_n (i := 0) dX10_undo_35 rfl rfl ?_
    refine R_get foX10_161 hL0 (cE_10 Ω 0 _) rfl dX10_undo_36 ?_
    refine R_iadd dX10_undo_39 ?_
    refine R_bipush (v := 40) dX10_undo_40 rfl ?_
    refine R_irem dX10_undo_42 (by decide) ?_
    refine R_imul dX10_undo_43 ?_
    refine R_aload_n (i := 0) dX10_undo_44 rfl rfl ?_
    refine R_get foX10_29 hL0 (cE_10 Ω 0 _) rfl dX10_undo_45 ?_
    refine R_iconst (v := 0) dX10_undo_48 rfl ?_
    refine R_callSv (ctX10_copyRow l Ω 67 0 62160 (1554 * (((σ2 10 0 17) + (σ2 10 0 18)) - ((σ2 10 0 17) + (σ2 10 0 18)) / 40 * 40)) 66 0 1554 0 (WF.kid hW 10 hL0 rfl) (cE_67 Ω 0) (WF.kid hW 6 hL0 rfl) (cE_66 Ω 0) _ _ (hit_mono (hit_bd h) (fun r3 σ4 h => ?_))) okX10_copyRow mw_1406 rfl rfl (Nat.le_of_ble_eq_true rfl) rfl rfl ⟨by decide, by decide⟩ ⟨Nat.zero_le _, Nat.zero_le _⟩ dX10_undo_49
    refine R_aload_n (i := 0) dX10_undo_52 rfl rfl ?_
    refine R_get foX10_161 hL0 (cE_10 Ω 0 _) rfl dX10_undo_53 ?_
    exact R_iret dX10_undo_56 rfl h
  · have h := hit_t h hc
    refine R_iconst (v := (-1)) dX10_undo_12 rfl ?_
    exact R_iret dX10_undo_13 rfl h
set_option maxRecDepth 100000 in
set_option maxHeartbeats 4000000 in
theorem ctX10_log (l : Launch) (Ω : rO) (x1 : Int32) (x2 : Int32) (hL0 : oL Ω 10 0) (σ : rS) (K : Int32 → rS → Prop) (h : hit (fX10_log x1 x2 σ) K) : Ct l Ω yX10_log cX10_log 3 (some .int) rmX10_log [rf Ω 10 0, .int x1, .int x2] σ K := by
  refine Ct.of (own := RX10) (lv := [some (rf Ω 10 0), some (.int x1), some (.int x2)]) (by decide) rfl (Nat.le_of_ble_eq_true rfl) rfl (fun hW => ?_)
  unfold fX10_log at h
  refine R_aload_n (i := 0) dX10_log_0 rfl rfl ?_
  refine R_iconst (v := 0) dX10_log_1 rfl ?_
  refine R_put poX10_73 hL0 (cE_10 Ω 0 _) (cP_10_0 Ω 0 _ _) (Nat.le_of_ble_eq_true rfl) dX10_log_2 ?_
  refine R_st h (fun σ1 h => ?_)
  refine R_iload_n (i := 1) dX10_log_5 rfl rfl ?_
  refine R_if_lt (tgt := 33) dX10_log_6 (by decide) (fun hc => ?_) (fun hc => ?_)
  · have h := hit_t h hc
    refine R_ldcw (v := (-1000000)) mw_1613 dX10_log_33 ?_
    exact R_iret dX10_log_36 rfl h
  · have h := hit_f h hc
    refine R_iload_n (i := 1) dX10_log_9 rfl rfl ?_
    refine R_aload_n (i := 0) dX10_log_10 rfl rfl ?_
    refine R_get foX10_29 hL0 (cE_10 Ω 0 _) rfl dX10_log_11 ?_
    refine R_sipush (v := 1373) dX10_log_14 rfl ?_
    refine R_iald (WF.kid hW 6 hL0 rfl) (cE_66 Ω 0 _) (vin 1373 1554 rfl) dX10_log_17 ?_
    refine R_icmp_ge (tgt := 33) dX10_log_18 (by decide) (fun hc => ?_) (fun hc => ?_)
    · have h := hit_f h hc
      refine R_ldcw (v := (-1000000)) mw_1613 dX10_log_33 ?_
      exact R_iret dX10_log_36 rfl h
    · have h := hit_t h hc
      refine R_iload_n (i := 2) dX10_log_21 rfl rfl ?_
      refine R_i2l dX10_log_22 ?_
      refine R_lconst (v := 0) dX10_log_23 rfl ?_
      refine R_ldc2 (v := 2) mw_1421 dX10_log_24 ?_
      refine R_callSi (ctX10_isIn l Ω x2.toInt64 0 2 _ _ (hit_mono (hit_bd h) (fun r2 σ3 h => ?_))) okX10_isIn mw_1315 rfl rfl (Nat.le_of_ble_eq_true rfl) rfl rfl ⟨by decide, by decide⟩ ⟨Nat.zero_le _, Nat.zero_le _⟩ dX10_log_27
      refine R_if_ne (tgt := 37) dX10_log_30 (by decide) (fun hc => ?_) (fun hc => ?_)
      · have h := hit_f h hc
        refine R_aload_n (i := 0) dX10_log_37 rfl rfl ?_
        refine R_get foX10_29 hL0 (cE_10 Ω 0 _) rfl dX10_log_38 ?_
        refine R_sipush (v := 1374) dX10_log_41 rfl ?_
        refine R_iconst (v := 3) dX10_log_44 rfl ?_
        refine R_aload_n (i := 0) dX10_log_45 rfl rfl ?_
        refine R_get foX10_29 hL0 (cE_10 Ω 0 _) rfl dX10_log_46 ?_
        refine R_sipush (v := 1373) dX10_log_49 rfl ?_
        refine R_iald (WF.kid hW 6 hL0 rfl) (cE_66 Ω 0 _) (vin 1373 1554 rfl) dX10_log_52 ?_
        refine R_iconst (v := 1) dX10_log_53 rfl ?_
        refine R_isub dX10_log_54 ?_
        refine R_iload_n (i := 1) dX10_log_55 rfl rfl ?_
        refine R_isub dX10_log_56 ?_
        refine R_imul dX10_log_57 ?_
        refine R_iadd dX10_log_58 ?_
        refine R_iload_n (i := 2) dX10_log_59 rfl rfl ?_
        refine R_iadd dX10_log_60 ?_
        obtain ⟨hb, h⟩ := hit_bnd h
        refine R_iald (WF.kid hW 6 hL0 rfl) (cE_66 Ω 0 _) hb dX10_log_61 ?_
        exact R_iret dX10_log_62 rfl h
      · have h := hit_t h hc
        refine R_ldcw (v := (-1000000)) mw_1613 dX10_log_33 ?_
        exact R_iret dX10_log_36 rfl h
set_option maxRecDepth 100000 in
set_option maxHeartbeats 4000000 in
theorem ctX10_image (l : Launch) (Ω : rO) (hL0 : oL Ω 10 0) (σ : rS) (K : Int32 → rS → Prop) (h : hit (fX10_image  σ) K) : Ct l Ω yX10_image cX10_image 1 (some .int) rmX10_image [rf Ω 10 0] σ K := by
  refine Ct.of (own := RX10) (lv := [some (rf Ω 10 0)]) (by decide) rfl (Nat.le_of_ble_eq_true rfl) rfl (fun hW => ?_)
  unfold fX10_image at h
  refine R_aload_n (i := 0) dX10_image_0 rfl rfl ?_
  refine R_iconst (v := 0) dX10_image_1 rfl ?_
  refine R_put poX10_73 hL0 (cE_10 Ω 0 _) (cP_10_0 Ω 0 _ _) (Nat.le_of_ble_eq_true rfl) dX10_image_2 ?_
  refine R_st h (fun σ1 h => ?_)
  refine R_aload_n (i := 0) dX10_image_5 rfl rfl ?_
  refine R_get foX10_157 hL0 (cE_10 Ω 0 _) rfl dX10_image_6 ?_
  refine R_if_ne (tgt := 14) dX10_image_9 (by decide) (fun hc => ?_) (fun hc => ?_)
  · have h := hit_f h hc
    refine R_aload_n (i := 0) dX10_image_14 rfl rfl ?_
    refine R_get foX10_29 hL0 (cE_10 Ω 0 _) rfl dX10_image_15 ?_
    refine R_iconst (v := 0) dX10_image_18 rfl ?_
    refine R_aload_n (i := 0) dX10_image_19 rfl rfl ?_
    refine R_get foX10_38 hL0 (cE_10 Ω 0 _) rfl dX10_image_20 ?_
    refine R_iconst (v := 0) dX10_image_23 rfl ?_
    refine R_callSv (ctX10_copyRow l Ω 66 0 1554 0 66 3 1554 0 (WF.kid hW 6 hL0 rfl) (cE_66 Ω 0) (WF.kid hW 9 hL0 rfl) (cE_66 Ω 3) _ _ (hit_mono (hit_bd h) (fun r2 σ3 h => ?_))) okX10_copyRow mw_1406 rfl rfl (Nat.le_of_ble_eq_true rfl) rfl rfl ⟨by decide, by decide⟩ ⟨Nat.zero_le _, Nat.zero_le _⟩ dX10_image_24
    refine R_aload_n (i := 0) dX10_image_27 rfl rfl ?_
    refine R_iconst (v := 1) dX10_image_28 rfl ?_
    refine R_putz poX10_164 hL0 (cE_10 Ω 0 _) (cP_10_19 Ω 0 _ _) (Nat.le_of_ble_eq_true rfl) (Or.inr rfl) dX10_image_29 ?_
    refine R_st h (fun σ4 h => ?_)
    refine R_aload_n (i := 0) dX10_image_32 rfl rfl ?_
    refine R_get foX10_29 hL0 (cE_10 Ω 0 _) rfl dX10_image_33 ?_
    refine R_callSi (ctX10_cells l Ω 0 (WF.kid hW 6 hL0 rfl) _ _ (hit_mono (hit_bd h) (fun r5 σ6 h => ?_))) okX10_cells mw_1554 rfl rfl (Nat.le_of_ble_eq_true rfl) rfl rfl ⟨by decide, by decide⟩ ⟨Nat.zero_le _, Nat.zero_le _⟩ dX10_image_36
    exact R_iret dX10_image_39 rfl h
  · have h := hit_t h hc
    refine R_iconst (v := (-1)) dX10_image_12 rfl ?_
    exact R_iret dX10_image_13 rfl h
set_option maxRecDepth 100000 in
set_option maxHeartbeats 4000000 in
theorem ctX10_back (l : Launch) (Ω : rO) (hL0 : oL Ω 10 0) (σ : rS) (K : Int32 → rS → Prop) (h : hit (fX10_back  σ) K) : Ct l Ω yX10_back cX10_back 1 (some .int) rmX10_back [rf Ω 10 0] σ K := by
  refine Ct.of (own := RX10) (lv := [some (rf Ω 10 0)]) (by decide) rfl (Nat.le_of_ble_eq_true rfl) rfl (fun hW => ?_)
  unfold fX10_back at h
  refine R_aload_n (i := 0) dX10_back_0 rfl rfl ?_
  refine R_iconst (v := 0) dX10_back_1 rfl ?_
  refine R_put poX10_73 hL0 (cE_10 Ω 0 _) (cP_10_0 Ω 0 _ _) (Nat.le_of_ble_eq_true rfl) dX10_back_2 ?_
  refine R_st h (fun σ1 h => ?_)
  refine R_aload_n (i := 0) dX10_back_5 rfl rfl ?_
  refine R_get foX10_164 hL0 (cE_10 Ω 0 _) rfl dX10_back_6 ?_
  refine R_if_ne (tgt := 14) dX10_back_9 (by decide) (fun hc => ?_) (fun hc => ?_)
  · have h := hit_f h hc
    refine R_aload_n (i := 0) dX10_back_14 rfl rfl ?_
    refine R_get foX10_38 hL0 (cE_10 Ω 0 _) rfl dX10_back_15 ?_
    refine R_iconst (v := 0) dX10_back_18 rfl ?_
    refine R_aload_n (i := 0) dX10_back_19 rfl rfl ?_
    refine R_get foX10_29 hL0 (cE_10 Ω 0 _) rfl dX10_back_20 ?_
    refine R_iconst (v := 0) dX10_back_23 rfl ?_
    refine R_callSv (ctX10_copyRow l Ω 66 3 1554 0 66 0 1554 0 (WF.kid hW 9 hL0 rfl) (cE_66 Ω 3) (WF.kid hW 6 hL0 rfl) (cE_66 Ω 0) _ _ (hit_mono (hit_bd h) (fun r2 σ3 h => ?_))) okX10_copyRow mw_1406 rfl rfl (Nat.le_of_ble_eq_true rfl) rfl rfl ⟨by decide, by decide⟩ ⟨Nat.zero_le _, Nat.zero_le _⟩ dX10_back_24
    refine R_aload_n (i := 0) dX10_back_27 rfl rfl ?_
    refine R_iconst (v := 0) dX10_back_28 rfl ?_
    refine R_put poX10_161 hL0 (cE_10 Ω 0 _) (cP_10_18 Ω 0 _ _) (Nat.le_of_ble_eq_true rfl) dX10_back_29 ?_
    refine R_st h (fun σ4 h => ?_)
    refine R_aload_n (i := 0) dX10_back_32 rfl rfl ?_
    refine R_get foX10_29 hL0 (cE_10 Ω 0 _) rfl dX10_back_33 ?_
    refine R_callSi (ctX10_cells l Ω 0 (WF.kid hW 6 hL0 rfl) _ _ (hit_mono (hit_bd h) (fun r5 σ6 h => ?_))) okX10_cells mw_1554 rfl rfl (Nat.le_of_ble_eq_true rfl) rfl rfl ⟨by decide, by decide⟩ ⟨Nat.zero_le _, Nat.zero_le _⟩ dX10_back_36
    exact R_iret dX10_back_39 rfl h
  · have h := hit_t h hc
    refine R_iconst (v := (-1)) dX10_back_12 rfl ?_
    exact R_iret dX10_back_13 rfl h
set_option maxRecDepth 100000 in
set_option maxHeartbeats 4000000 in
theorem ctX10_rule (l : Launch) (Ω : rO) (x1 : Int32) (hL0 : oL Ω 10 0) (σ : rS) (K : Int32 → rS → Prop) (h : hit (fX10_rule x1 σ) K) : Ct l Ω yX10_rule cX10_rule 2 (some .int) rmX10_rule [rf Ω 10 0, .int x1] σ K := by
  refine Ct.of (own := RX10) (lv := [some (rf Ω 10 0), some (.int x1)]) (by decide) rfl (Nat.le_of_ble_eq_true rfl) rfl (fun hW => ?_)
  unfold fX10_rule at h
  refine R_aload_n (i := 0) dX10_rule_0 rfl rfl ?_
  refine R_iconst (v := 0) dX10_rule_1 rfl ?_
  refine R_put poX10_73 hL0 (cE_10 Ω 0 _) (cP_10_0 Ω 0 _ _) (Nat.le_of_ble_eq_true rfl) dX10_rule_2 ?_
  refine R_st h (fun σ1 h => ?_)
  refine R_aload_n (i := 0) dX10_rule_5 rfl rfl ?_
  refine R_get foX10_157 hL0 (cE_10 Ω 0 _) rfl dX10_rule_6 ?_
  refine R_if_eq (tgt := 33) dX10_rule_9 (by decide) (fun hc => ?_) (fun hc => ?_)
  · have h := hit_t h hc
    refine R_iconst (v := (-1)) dX10_rule_33 rfl ?_
    exact R_iret dX10_rule_34 rfl h
  · have h := hit_f h hc
    refine R_iload_n (i := 1) dX10_rule_12 rfl rfl ?_
    refine R_i2l dX10_rule_13 ?_
    refine R_lconst (v := 0) dX10_rule_14 rfl ?_
    refine R_ldc2 (v := 3) mw_1604 dX10_rule_15 ?_
    refine R_callSi (ctX10_isIn l Ω x1.toInt64 0 3 _ _ (hit_mono (hit_bd h) (fun r2 σ3 h => ?_))) okX10_isIn mw_1315 rfl rfl (Nat.le_of_ble_eq_true rfl) rfl rfl ⟨by decide, by decide⟩ ⟨Nat.zero_le _, Nat.zero_le _⟩ dX10_rule_18
    refine R_if_eq (tgt := 33) dX10_rule_21 (by decide) (fun hc => ?_) (fun hc => ?_)
    · have h := hit_t h hc
      refine R_iconst (v := (-1)) dX10_rule_33 rfl ?_
      exact R_iret dX10_rule_34 rfl h
    · have h := hit_f h hc
      refine R_aload_n (i := 0) dX10_rule_24 rfl rfl ?_
      refine R_get foX10_17 hL0 (cE_10 Ω 0 _) rfl dX10_rule_25 ?_
      refine R_iload_n (i := 1) dX10_rule_28 rfl rfl ?_
      obtain ⟨hb, h⟩ := hit_bnd h
      refine R_iald (WF.kid hW 2 hL0 rfl) (cE_62 Ω 0 _) hb dX10_rule_29 ?_
      refine R_goto (tgt := 34) dX10_rule_30 (by decide) ?_
      exact R_iret dX10_rule_34 rfl h
set_option maxRecDepth 100000 in
set_option maxHeartbeats 4000000 in
theorem ctX10_root (l : Launch) (Ω : rO) (x1 : Int32) (hL0 : oL Ω 10 0) (σ : rS) (K : Int32 → rS → Prop) (h : hit (fX10_root x1 σ) K) : Ct l Ω yX10_root cX10_root 2 (some .int) rmX10_root [rf Ω 10 0, .int x1] σ K := by
  refine Ct.of (own := RX10) (lv := [some (rf Ω 10 0), some (.int x1)]) (by decide) rfl (Nat.le_of_ble_eq_true rfl) rfl (fun hW => ?_)
  unfold fX10_root at h
  refine R_aload_n (i := 0) dX10_root_0 rfl rfl ?_
  refine R_iconst (v := 0) dX10_root_1 rfl ?_
  refine R_put poX10_73 hL0 (cE_10 Ω 0 _) (cP_10_0 Ω 0 _ _) (Nat.le_of_ble_eq_true rfl) dX10_root_2 ?_
  refine R_st h (fun σ1 h => ?_)
  refine R_aload_n (i := 0) dX10_root_5 rfl rfl ?_
  refine R_iload_n (i := 1) dX10_root_6 rfl rfl ?_
  refine R_callVi (ctX10_isRoot l Ω x1 hL0 _ _ (hit_mono (hit_bd h) (fun r2 σ3 h => ?_))) okX10_isRoot mw_1417 hL0 (cE_10 Ω 0 _) rfl rfl (Nat.le_of_ble_eq_true rfl) rfl rfl ⟨by decide, by decide⟩ ⟨Nat.zero_le _, Nat.zero_le _⟩ dX10_root_7
  refine R_if_eq (tgt := 26) dX10_root_10 (by decide) (fun hc => ?_) (fun hc => ?_)
  · have h := hit_t h hc
    refine R_iconst (v := (-1)) dX10_root_26 rfl ?_
    exact R_iret dX10_root_27 rfl h
  · have h := hit_f h hc
    refine R_aload_n (i := 0) dX10_root_13 rfl rfl ?_
    refine R_get foX10_29 hL0 (cE_10 Ω 0 _) rfl dX10_root_14 ?_
    refine R_sipush (v := 881) dX10_root_17 rfl ?_
    refine R_iload_n (i := 1) dX10_root_20 rfl rfl ?_
    refine R_iadd dX10_root_21 ?_
    obtain ⟨hb, h⟩ := hit_bnd h
    refine R_iald (WF.kid hW 6 hL0 rfl) (cE_66 Ω 0 _) hb dX10_root_22 ?_
    refine R_goto (tgt := 27) dX10_root_23 (by decide) ?_
    exact R_iret dX10_root_27 rfl h
set_option maxRecDepth 100000 in
set_option maxHeartbeats 4000000 in
theorem rsX10_isEnding_L2 {l : Launch} {Ω : rO} (hW : WF Ω) (x1 : Int32) (x2 : Int32) (hL0 : oL Ω 10 0) (σ : rS) {K : Int32 → rS → Prop} {K0 : (Int32 ⊕ (Unit ⊕ Unit)) → rS → Prop} (hC : ∀ (x2 : Int32) (σ : rS), K0 (.inl x2) σ → Run l Ω cX10_isEnding RX10 3 (some .boolean) rmX10_isEnding K 2 [some (rf Ω 10 0), some (.int x1), some (.int x2)] [] σ) (hE0 : ∀ (e : Unit) (σ : rS), K0 (.inr (.inl e)) σ → Run l Ω cX10_isEnding RX10 3 (some .boolean) rmX10_isEnding K 28 [none, none, none] [] σ) (hE1 : ∀ (e : Unit) (σ : rS), K0 (.inr (.inr e)) σ → Run l Ω cX10_isEnding RX10 3 (some .boolean) rmX10_isEnding K 36 [none, none, none] [] σ) (h : hit (fX10_isEnding_L2 x1 x2 σ) K0) : Run l Ω cX10_isEnding RX10 3 (some .boolean) rmX10_isEnding K 2 [some (rf Ω 10 0), some (.int x1), some (.int x2)] [] σ := by
  unfold fX10_isEnding_L2 at h
  refine R_iload_n (i := 2) dX10_isEnding_2 rfl rfl ?_
  refine R_aload_n (i := 0) dX10_isEnding_3 rfl rfl ?_
  refine R_get foX10_29 hL0 (cE_10 Ω 0 _) rfl dX10_isEnding_4 ?_
  refine R_sipush (v := 1242) dX10_isEnding_7 rfl ?_
  refine R_iald (WF.kid hW 6 hL0 rfl) (cE_66 Ω 0 _) (vin 1242 1554 rfl) dX10_isEnding_10 ?_
  refine R_icmp_ge (tgt := 36) dX10_isEnding_11 (by decide) (fun hc => ?_) (fun hc => ?_)
  · have h := hit_f h hc
    refine R_drop (lv2 := [none, some (.int x1), some (.int x2)]) 0 rfl ?_
    refine R_drop (lv2 := [none, none, some (.int x2)]) 1 rfl ?_
    refine R_drop (lv2 := [none, none, none]) 2 rfl ?_
    exact hE1 () σ h
  · have h := hit_t h hc
    refine R_aload_n (i := 0) dX10_isEnding_14 rfl rfl ?_
    refine R_get foX10_29 hL0 (cE_10 Ω 0 _) rfl dX10_isEnding_15 ?_
    refine R_sipush (v := 1243) dX10_isEnding_18 rfl ?_
    refine R_iload_n (i := 2) dX10_isEnding_21 rfl rfl ?_
    refine R_iadd dX10_isEnding_22 ?_
    obtain ⟨hb, h⟩ := hit_bnd h
    refine R_iald (WF.kid hW 6 hL0 rfl) (cE_66 Ω 0 _) hb dX10_isEnding_23 ?_
    refine R_iload_n (i := 1) dX10_isEnding_24 rfl rfl ?_
    refine R_icmp_ne (tgt := 30) dX10_isEnding_25 (by decide) (fun hc => ?_) (fun hc => ?_)
    · have h := hit_f h hc
      refine R_iinc (v := x2 + 1) (lv2 := [some (rf Ω 10 0), some (.int x1), some (.int (x2 + 1))]) dX10_isEnding_30 rfl rfl (by decide) rfl rfl ?_
      refine R_goto (tgt := 2) dX10_isEnding_33 (by decide) ?_
      exact hC (x2 + 1) σ h
    · have h := hit_t h hc
      refine R_drop (lv2 := [none, some (.int x1), some (.int x2)]) 0 rfl ?_
      refine R_drop (lv2 := [none, none, some (.int x2)]) 1 rfl ?_
      refine R_drop (lv2 := [none, none, none]) 2 rfl ?_
      exact hE0 () σ h
set_option maxRecDepth 100000 in
set_option maxHeartbeats 4000000 in
theorem rlX10_isEnding_L2 {l : Launch} {Ω : rO} (hW : WF Ω) (x1 : Int32) (hL0 : oL Ω 10 0) {K : Int32 → rS → Prop} {KE : (Unit ⊕ Unit) → rS → Prop} (hE0 : ∀ (e : Unit) (σ : rS), KE (.inl e) σ → Run l Ω cX10_isEnding RX10 3 (some .boolean) rmX10_isEnding K 28 [none, none, none] [] σ) (hE1 : ∀ (e : Unit) (σ : rS), KE (.inr e) σ → Run l Ω cX10_isEnding RX10 3 (some .boolean) rmX10_isEnding K 36 [none, none, none] [] σ) : ∀ (n : Nat) (x2 : Int32) (σ : rS), hit (lp (fun (x : Int32) σ => fX10_isEnding_L2 x1 x σ) n x2 σ) KE → Run l Ω cX10_isEnding RX10 3 (some .boolean) rmX10_isEnding K 2 [some (rf Ω 10 0), some (.int x1), some (.int x2)] [] σ := by
  intro n
  induction n with
  | zero => intro x2 σ h; exact (h : False).elim
  | succ n ih =>
    intro x2 σ h
    exact rsX10_isEnding_L2 hW x1 x2 hL0 σ (fun x2 σ h => ih x2 σ h) (fun e σ h => hE0 e σ h) (fun e σ h => hE1 e σ h) (hit_lp h)
set_option maxRecDepth 100000 in
set_option maxHeartbeats 4000000 in
theorem ctX10_isEnding (l : Launch) (Ω : rO) (x1 : Int32) (hL0 : oL Ω 10 0) (σ : rS) (K : Int32 → rS → Prop) (h : hit (fX10_isEnding x1 σ) K) : Ct l Ω yX10_isEnding cX10_isEnding 3 (some .boolean) rmX10_isEnding [rf Ω 10 0, .int x1] σ K := by
  refine Ct.of (own := RX10) (lv := [some (rf Ω 10 0), some (.int x1), none]) (by decide) rfl (Nat.le_of_ble_eq_true rfl) rfl (fun hW => ?_)
  unfold fX10_isEnding at h
  refine R_iconst (v := 0) dX10_isEnding_0 rfl ?_
  refine R_istore_n (lv2 := [some (rf Ω 10 0), some (.int x1), some (.int 0)]) dX10_isEnding_1 rfl (by decide) rfl rfl ?_
  refine rlX10_isEnding_L2 hW x1 hL0 ?_ ?_ fu 0 σ (hit_bd h)
  · intro e2 σ1 h
    try dsimp only at h
    refine R_iconst (v := 1) dX10_isEnding_28 rfl ?_
    exact R_zret dX10_isEnding_29 rfl (Or.inr rfl) h
  · intro e3 σ1 h
    try dsimp only at h
    refine R_iconst (v := 0) dX10_isEnding_36 rfl ?_
    exact R_zret dX10_isEnding_37 rfl (Or.inl rfl) h
set_option maxRecDepth 100000 in
set_option maxHeartbeats 4000000 in
theorem rnX10_thing_j21 {l : Launch} {Ω : rO} (hW : WF Ω) (x1 : Int32) (x2 : Int32) (z0 : Int32) (hL0 : oL Ω 10 0) (σ : rS) {K : Int32 → rS → Prop}  (h : hit (fX10_thing_j21 x1 x2 z0 σ) K) : Run l Ω cX10_thing RX10 4 (some .int) rmX10_thing K 21 [some (rf Ω 10 0), some (.int x1), some (.int x2), none] [.int z0] σ := by
  unfold fX10_thing_j21 at h
  refine R_istore_n (lv2 := [some (rf Ω 10 0), some (.int x1), some (.int x2), some (.int z0)]) dX10_thing_21 rfl (by decide) rfl rfl ?_
  refine R_iload_n (i := 3) dX10_thing_22 rfl rfl ?_
  refine R_iconst (v := (-1)) dX10_thing_23 rfl ?_
  refine R_icmp_eq (tgt := 39) dX10_thing_24 (by decide) (fun hc => ?_) (fun hc => ?_)
  · have h := hit_t h hc
    refine R_aload_n (i := 0) dX10_thing_39 rfl rfl ?_
    refine R_iconst (v := 1) dX10_thing_40 rfl ?_
    refine R_put poX10_73 hL0 (cE_10 Ω 0 _) (cP_10_0 Ω 0 _ _) (Nat.le_of_ble_eq_true rfl) dX10_thing_41 ?_
    refine R_st h (fun σ2 h => ?_)
    refine R_iconst (v := 0) dX10_thing_44 rfl ?_
    exact R_iret dX10_thing_45 rfl h
  · have h := hit_f h hc
    refine R_iload_n (i := 2) dX10_thing_27 rfl rfl ?_
    refine R_i2l dX10_thing_28 ?_
    refine R_lconst (v := 0) dX10_thing_29 rfl ?_
    refine R_ldc2 (v := 7) mw_1634 dX10_thing_30 ?_
    refine R_callSi (ctX10_isIn l Ω x2.toInt64 0 7 _ _ (hit_mono (hit_bd h) (fun r3 σ4 h => ?_))) okX10_isIn mw_1315 rfl rfl (Nat.le_of_ble_eq_true rfl) rfl rfl ⟨by decide, by decide⟩ ⟨Nat.zero_le _, Nat.zero_le _⟩ dX10_thing_33
    refine R_if_ne (tgt := 46) dX10_thing_36 (by decide) (fun hc => ?_) (fun hc => ?_)
    · have h := hit_f h hc
      refine R_iload_n (i := 2) dX10_thing_46 rfl rfl ?_
      by_cases hs0 : x2 = 0
      · have h := hit_t h hs0
        refine R_tableIn (tgt := 92) dX10_thing_47 (by rw [hs0]; decide) (by rw [hs0]; decide) (by rw [hs0]; rfl) (by decide) ?_
        refine R_aload_n (i := 0) dX10_thing_92 rfl rfl ?_
        refine R_get foX10_29 hL0 (cE_10 Ω 0 _) rfl dX10_thing_93 ?_
        refine R_iload_n (i := 3) dX10_thing_96 rfl rfl ?_
        refine R_iconst (v := 5) dX10_thing_97 rfl ?_
        refine R_callSi (ctX10_of l Ω 0 z0 5 (WF.kid hW 6 hL0 rfl) _ _ (hit_mono (hit_bd h) (fun r5 σ6 h => ?_))) okX10_of mw_1435 rfl rfl (Nat.le_of_ble_eq_true rfl) rfl rfl ⟨by decide, by decide⟩ ⟨Nat.zero_le _, Nat.zero_le _⟩ dX10_thing_98
        exact R_iret dX10_thing_101 rfl h
      · have h := hit_f h hs0
        by_cases hs1 : x2 = 1
        · have h := hit_t h hs1
          refine R_tableIn (tgt := 102) dX10_thing_47 (by rw [hs1]; decide) (by rw [hs1]; decide) (by rw [hs1]; rfl) (by decide) ?_
          refine R_aload_n (i := 0) dX10_thing_102 rfl rfl ?_
          refine R_get foX10_29 hL0 (cE_10 Ω 0 _) rfl dX10_thing_103 ?_
          refine R_iload_n (i := 3) dX10_thing_106 rfl rfl ?_
          refine R_bipush (v := 6) dX10_thing_107 rfl ?_
          refine R_callSi (ctX10_of l Ω 0 z0 6 (WF.kid hW 6 hL0 rfl) _ _ (hit_mono (hit_bd h) (fun r7 σ8 h => ?_))) okX10_of mw_1435 rfl rfl (Nat.le_of_ble_eq_true rfl) rfl rfl ⟨by decide, by decide⟩ ⟨Nat.zero_le _, Nat.zero_le _⟩ dX10_thing_109
          exact R_iret dX10_thing_112 rfl h
        · have h := hit_f h hs1
          by_cases hs6 : x2 = 6
          · have h := hit_t h hs6
            refine R_tableIn (tgt := 113) dX10_thing_47 (by rw [hs6]; decide) (by rw [hs6]; decide) (by rw [hs6]; rfl) (by decide) ?_
            refine R_aload_n (i := 0) dX10_thing_113 rfl rfl ?_
            refine R_aload_n (i := 0) dX10_thing_114 rfl rfl ?_
            refine R_get foX10_29 hL0 (cE_10 Ω 0 _) rfl dX10_thing_115 ?_
            refine R_iconst (v := (-1)) dX10_thing_118 rfl ?_
            refine R_iconst (v := 1) dX10_thing_119 rfl ?_
            refine R_callVv (ctX10_reaches l Ω 0 (-1) 1 hL0 (WF.kid hW 6 hL0 rfl) _ _ (hit_mono (hit_bd h) (fun r9 σ10 h => ?_))) okX10_reaches mw_1523 hL0 (cE_10 Ω 0 _) rfl rfl (Nat.le_of_ble_eq_true rfl) rfl rfl ⟨by decide, by decide⟩ ⟨Nat.zero_le _, Nat.zero_le _⟩ dX10_thing_120
            refine R_aload_n (i := 0) dX10_thing_123 rfl rfl ?_
            refine R_get foX10_45 hL0 (cE_10 Ω 0 _) rfl dX10_thing_124 ?_
            refine R_iload_n (i := 3) dX10_thing_127 rfl rfl ?_
            obtain ⟨hb, h⟩ := hit_bnd h
            refine R_zald (WF.kid hW 11 hL0 rfl) (cE_68 Ω 0 _) hb dX10_thing_128 ?_
            refine R_if_eq (tgt := 136) dX10_thing_129 (by decide) (fun hc => ?_) (fun hc => ?_)
            · have h := hit_t h hc
              refine R_iconst (v := 0) dX10_thing_136 rfl ?_
              exact R_iret dX10_thing_137 rfl h
            · have h := hit_f h hc
              refine R_iconst (v := 1) dX10_thing_132 rfl ?_
              refine R_goto (tgt := 137) dX10_thing_133 (by decide) ?_
              exact R_iret dX10_thing_137 rfl h
          · have h := hit_f h hs6
            by_cases hs7 : x2 = 7
            · have h := hit_t h hs7
              refine R_tableIn (tgt := 138) dX10_thing_47 (by rw [hs7]; decide) (by rw [hs7]; decide) (by rw [hs7]; rfl) (by decide) ?_
              refine R_aload_n (i := 0) dX10_thing_138 rfl rfl ?_
              refine R_iload_n (i := 1) dX10_thing_139 rfl rfl ?_
              refine R_callVi (ctX10_isEnding l Ω x1 hL0 _ _ (hit_mono (hit_bd h) (fun r11 σ12 h => ?_))) okX10_isEnding mw_1635 hL0 (cE_10 Ω 0 _) rfl rfl (Nat.le_of_ble_eq_true rfl) rfl rfl ⟨by decide, by decide⟩ ⟨Nat.zero_le _, Nat.zero_le _⟩ dX10_thing_140
              refine R_if_eq (tgt := 150) dX10_thing_143 (by decide) (fun hc => ?_) (fun hc => ?_)
              · have h := hit_t h hc
                refine R_iconst (v := 0) dX10_thing_150 rfl ?_
                exact R_iret dX10_thing_151 rfl h
              · have h := hit_f h hc
                refine R_iconst (v := 1) dX10_thing_146 rfl ?_
                refine R_goto (tgt := 151) dX10_thing_147 (by decide) ?_
                exact R_iret dX10_thing_151 rfl h
            · have h := hit_f h hs7
              refine R_sw (tgt := 152) (lo := 0) (hi := 7) dX10_thing_47 (fun z1 z2 => ?_) (by decide) ?_
              · have e : x2.toInt = 0 ∨ x2.toInt = 1 ∨ x2.toInt = 2 ∨ x2.toInt = 3 ∨ x2.toInt = 4 ∨ x2.toInt = 5 ∨ x2.toInt = 6 ∨ x2.toInt = 7 := by omega
                rcases e with e | e | e | e | e | e | e | e
                · exact absurd (Int32.toInt_inj.mp (e.trans (by decide : (0 : Int) = (0 : Int32).toInt))) hs0
                · exact absurd (Int32.toInt_inj.mp (e.trans (by decide : (1 : Int) = (1 : Int32).toInt))) hs1
                · rw [e]; rfl
                · rw [e]; rfl
                · rw [e]; rfl
                · rw [e]; rfl
                · exact absurd (Int32.toInt_inj.mp (e.trans (by decide : (6 : Int) = (6 : Int32).toInt))) hs6
                · exact absurd (Int32.toInt_inj.mp (e.trans (by decide : (7 : Int) = (7 : Int32).toInt))) hs7
              refine R_aload_n (i := 0) dX10_thing_152 rfl rfl ?_
              refine R_get foX10_29 hL0 (cE_10 Ω 0 _) rfl dX10_thing_153 ?_
              refine R_iload_n (i := 3) dX10_thing_156 rfl rfl ?_
              refine R_iload_n (i := 2) dX10_thing_157 rfl rfl ?_
              refine R_iconst (v := 1) dX10_thing_158 rfl ?_
              refine R_isub dX10_thing_159 ?_
              refine R_callSi (ctX10_of l Ω 0 z0 (x2 - 1) (WF.kid hW 6 hL0 rfl) _ _ (hit_mono (hit_bd h) (fun r13 σ14 h => ?_))) okX10_of mw_1435 rfl rfl (Nat.le_of_ble_eq_true rfl) rfl rfl ⟨by decide, by decide⟩ ⟨Nat.zero_le _, Nat.zero_le _⟩ dX10_thing_160
              exact R_iret dX10_thing_163 rfl h
    · have h := hit_t h hc
      refine R_aload_n (i := 0) dX10_thing_39 rfl rfl ?_
      refine R_iconst (v := 1) dX10_thing_40 rfl ?_
      refine R_put poX10_73 hL0 (cE_10 Ω 0 _) (cP_10_0 Ω 0 _ _) (Nat.le_of_ble_eq_true rfl) dX10_thing_41 ?_
      refine R_st h (fun σ15 h => ?_)
      refine R_iconst (v := 0) dX10_thing_44 rfl ?_
      exact R_iret dX10_thing_45 rfl h
set_option maxRecDepth 100000 in
set_option maxHeartbeats 4000000 in
theorem ctX10_thing (l : Launch) (Ω : rO) (x1 : Int32) (x2 : Int32) (hL0 : oL Ω 10 0) (σ : rS) (K : Int32 → rS → Prop) (h : hit (fX10_thing x1 x2 σ) K) : Ct l Ω yX10_thing cX10_thing 4 (some .int) rmX10_thing [rf Ω 10 0, .int x1, .int x2] σ K := by
  refine Ct.of (own := RX10) (lv := [some (rf Ω 10 0), some (.int x1), some (.int x2), none]) (by decide) rfl (Nat.le_of_ble_eq_true rfl) rfl (fun hW => ?_)
  unfold fX10_thing at h
  refine R_aload_n (i := 0) dX10_thing_0 rfl rfl ?_
  refine R_iconst (v := 0) dX10_thing_1 rfl ?_
  refine R_put poX10_73 hL0 (cE_10 Ω 0 _) (cP_10_0 Ω 0 _ _) (Nat.le_of_ble_eq_true rfl) dX10_thing_2 ?_
  refine R_st h (fun σ1 h => ?_)
  refine R_iload_n (i := 1) dX10_thing_5 rfl rfl ?_
  refine R_if_le (tgt := 20) dX10_thing_6 (by decide) (fun hc => ?_) (fun hc => ?_)
  · have h := hit_f h hc
    refine R_iconst (v := (-1)) dX10_thing_20 rfl ?_
    exact rnX10_thing_j21 hW x1 x2 (-1) hL0 σ1  h
  · have h := hit_t h hc
    refine R_aload_n (i := 0) dX10_thing_9 rfl rfl ?_
    refine R_get foX10_29 hL0 (cE_10 Ω 0 _) rfl dX10_thing_10 ?_
    refine R_iload_n (i := 1) dX10_thing_13 rfl rfl ?_
    refine R_callSi (ctX10_spotOf_ l Ω 0 x1 (WF.kid hW 6 hL0 rfl) _ _ (hit_mono (hit_bd h) (fun r16 σ17 h => ?_))) okX10_spotOf_ mw_1432 rfl rfl (Nat.le_of_ble_eq_true rfl) rfl rfl ⟨by decide, by decide⟩ ⟨Nat.zero_le _, Nat.zero_le _⟩ dX10_thing_14
    refine R_goto (tgt := 21) dX10_thing_17 (by decide) ?_
    exact rnX10_thing_j21 hW x1 x2 r16 hL0 σ17  h
set_option maxRecDepth 100000 in
set_option maxHeartbeats 4000000 in
theorem rnX10_field_j48 {l : Launch} {Ω : rO} (hW : WF Ω)  (σ : rS) {K : Int32 → rS → Prop}  (h : hit (fX10_field_j48  σ) K) : Run l Ω cX10_field RX10 4 (some .int) rmX10_field K 48 [none, none, none, none] [] σ := by
  unfold fX10_field_j48 at h
  refine R_iconst (v := (-1)) dX10_field_48 rfl ?_
  refine R_goto (tgt := 64) dX10_field_49 (by decide) ?_
  exact R_iret dX10_field_64 rfl h
set_option maxRecDepth 100000 in
set_option maxHeartbeats 4000000 in
theorem rnX10_field_j21 {l : Launch} {Ω : rO} (hW : WF Ω) (x2 : Int32) (z0 : Int32) (hL0 : oL Ω 10 0) (σ : rS) {K : Int32 → rS → Prop}  (h : hit (fX10_field_j21 x2 z0 σ) K) : Run l Ω cX10_field RX10 4 (some .int) rmX10_field K 21 [some (rf Ω 10 0), none, some (.int x2), none] [.int z0] σ := by
  unfold fX10_field_j21 at h
  refine R_istore_n (lv2 := [some (rf Ω 10 0), none, some (.int x2), some (.int z0)]) dX10_field_21 rfl (by decide) rfl rfl ?_
  refine R_iload_n (i := 3) dX10_field_22 rfl rfl ?_
  refine R_iconst (v := (-1)) dX10_field_23 rfl ?_
  refine R_icmp_eq (tgt := 48) dX10_field_24 (by decide) (fun hc => ?_) (fun hc => ?_)
  · have h := hit_t h hc
    refine R_drop (lv2 := [none, none, some (.int x2), some (.int z0)]) 0 rfl ?_
    refine R_drop (lv2 := [none, none, none, some (.int z0)]) 2 rfl ?_
    refine R_drop (lv2 := [none, none, none, none]) 3 rfl ?_
    exact rnX10_field_j48 hW  σ  h
  · have h := hit_f h hc
    refine R_iload_n (i := 2) dX10_field_27 rfl rfl ?_
    refine R_i2l dX10_field_28 ?_
    refine R_lconst (v := 0) dX10_field_29 rfl ?_
    refine R_aload_n (i := 0) dX10_field_30 rfl rfl ?_
    refine R_get foX10_29 hL0 (cE_10 Ω 0 _) rfl dX10_field_31 ?_
    refine R_iload_n (i := 3) dX10_field_34 rfl rfl ?_
    refine R_iconst (v := 2) dX10_field_35 rfl ?_
    refine R_callSi (ctX10_of l Ω 0 z0 2 (WF.kid hW 6 hL0 rfl) _ _ (hit_mono (hit_bd h) (fun r2 σ3 h => ?_))) okX10_of mw_1435 rfl rfl (Nat.le_of_ble_eq_true rfl) rfl rfl ⟨by decide, by decide⟩ ⟨Nat.zero_le _, Nat.zero_le _⟩ dX10_field_36
    refine R_iconst (v := 1) dX10_field_39 rfl ?_
    refine R_isub dX10_field_40 ?_
    refine R_i2l dX10_field_41 ?_
    refine R_callSi (ctX10_isIn l Ω x2.toInt64 0 ((r2 - 1).toInt64) _ _ (hit_mono (hit_bd h) (fun r4 σ5 h => ?_))) okX10_isIn mw_1315 rfl rfl (Nat.le_of_ble_eq_true rfl) rfl rfl ⟨by decide, by decide⟩ ⟨Nat.zero_le _, Nat.zero_le _⟩ dX10_field_42
    refine R_if_ne (tgt := 52) dX10_field_45 (by decide) (fun hc => ?_) (fun hc => ?_)
    · have h := hit_f h hc
      refine R_aload_n (i := 0) dX10_field_52 rfl rfl ?_
      refine R_get foX10_29 hL0 (cE_10 Ω 0 _) rfl dX10_field_53 ?_
      refine R_iload_n (i := 3) dX10_field_56 rfl rfl ?_
      refine R_bipush (v := 7) dX10_field_57 rfl ?_
      refine R_iload_n (i := 2) dX10_field_59 rfl rfl ?_
      refine R_iadd dX10_field_60 ?_
      refine R_callSi (ctX10_of l Ω 0 z0 (7 + x2) (WF.kid hW 6 hL0 rfl) _ _ (hit_mono (hit_bd h) (fun r6 σ7 h => ?_))) okX10_of mw_1435 rfl rfl (Nat.le_of_ble_eq_true rfl) rfl rfl ⟨by decide, by decide⟩ ⟨Nat.zero_le _, Nat.zero_le _⟩ dX10_field_61
      exact R_iret dX10_field_64 rfl h
    · have h := hit_t h hc
      refine R_drop (lv2 := [none, none, some (.int x2), some (.int z0)]) 0 rfl ?_
      refine R_drop (lv2 := [none, none, none, some (.int z0)]) 2 rfl ?_
      refine R_drop (lv2 := [none, none, none, none]) 3 rfl ?_
      exact rnX10_field_j48 hW  σ5  h
set_option maxRecDepth 100000 in
set_option maxHeartbeats 4000000 in
theorem ctX10_field (l : Launch) (Ω : rO) (x1 : Int32) (x2 : Int32) (hL0 : oL Ω 10 0) (σ : rS) (K : Int32 → rS → Prop) (h : hit (fX10_field x1 x2 σ) K) : Ct l Ω yX10_field cX10_field 4 (some .int) rmX10_field [rf Ω 10 0, .int x1, .int x2] σ K := by
  refine Ct.of (own := RX10) (lv := [some (rf Ω 10 0), some (.int x1), some (.int x2), none]) (by decide) rfl (Nat.le_of_ble_eq_true rfl) rfl (fun hW => ?_)
  unfold fX10_field at h
  refine R_aload_n (i := 0) dX10_field_0 rfl rfl ?_
  refine R_iconst (v := 0) dX10_field_1 rfl ?_
  refine R_put poX10_73 hL0 (cE_10 Ω 0 _) (cP_10_0 Ω 0 _ _) (Nat.le_of_ble_eq_true rfl) dX10_field_2 ?_
  refine R_st h (fun σ1 h => ?_)
  refine R_iload_n (i := 1) dX10_field_5 rfl rfl ?_
  refine R_if_le (tgt := 20) dX10_field_6 (by decide) (fun hc => ?_) (fun hc => ?_)
  · have h := hit_f h hc
    refine R_iconst (v := (-1)) dX10_field_20 rfl ?_
    refine R_drop (lv2 := [some (rf Ω 10 0), none, some (.int x2), none]) 1 rfl ?_
    exact rnX10_field_j21 hW x2 (-1) hL0 σ1  h
  · have h := hit_t h hc
    refine R_aload_n (i := 0) dX10_field_9 rfl rfl ?_
    refine R_get foX10_29 hL0 (cE_10 Ω 0 _) rfl dX10_field_10 ?_
    refine R_iload_n (i := 1) dX10_field_13 rfl rfl ?_
    refine R_callSi (ctX10_spotOf_ l Ω 0 x1 (WF.kid hW 6 hL0 rfl) _ _ (hit_mono (hit_bd h) (fun r8 σ9 h => ?_))) okX10_spotOf_ mw_1432 rfl rfl (Nat.le_of_ble_eq_true rfl) rfl rfl ⟨by decide, by decide⟩ ⟨Nat.zero_le _, Nat.zero_le _⟩ dX10_field_14
    refine R_goto (tgt := 21) dX10_field_17 (by decide) ?_
    refine R_drop (lv2 := [some (rf Ω 10 0), none, some (.int x2), none]) 1 rfl ?_
    exact rnX10_field_j21 hW x2 r8 hL0 σ9  h
set_option maxRecDepth 100000 in
set_option maxHeartbeats 4000000 in
theorem rnX10_at_j81L7 {l : Launch} {Ω : rO} (hW : WF Ω) (x1 : Int32) (x2 : Int32) (x3 : Int32) (hL0 : oL Ω 10 0) (σ : rS) {K : Int32 → rS → Prop} {K0 : (Int32 ⊕ (Int32 ⊕ Unit)) → rS → Prop} (hC : ∀ (x3 : Int32) (σ : rS), K0 (.inl x3) σ → Run l Ω cX10_at RX10 4 (some .int) rmX10_at K 7 [some (rf Ω 10 0), some (.int x1), some (.int x2), some (.int x3)] [] σ) (hE0 : ∀ (e : Int32) (σ : rS), K0 (.inr (.inl e)) σ → Run l Ω cX10_at RX10 4 (some .int) rmX10_at K 71 [some (rf Ω 10 0), none, none, some (.int e)] [] σ) (hE1 : ∀ (e : Unit) (σ : rS), K0 (.inr (.inr e)) σ → Run l Ω cX10_at RX10 4 (some .int) rmX10_at K 87 [none, none, none, none] [] σ) (h : hit (fX10_at_j81L7 x1 x2 x3 σ) K0) : Run l Ω cX10_at RX10 4 (some .int) rmX10_at K 81 [some (rf Ω 10 0), some (.int x1), some (.int x2), some (.int x3)] [] σ := by
  unfold fX10_at_j81L7 at h
  refine R_iinc (v := x3 + 1) (lv2 := [some (rf Ω 10 0), some (.int x1), some (.int x2), some (.int (x3 + 1))]) dX10_at_81 rfl rfl (by decide) rfl rfl ?_
  refine R_goto (tgt := 7) dX10_at_84 (by decide) ?_
  exact hC (x3 + 1) σ h
set_option maxRecDepth 100000 in
set_option maxHeartbeats 4000000 in
theorem rsX10_at_L7 {l : Launch} {Ω : rO} (hW : WF Ω) (x1 : Int32) (x2 : Int32) (x3 : Int32) (hL0 : oL Ω 10 0) (σ : rS) {K : Int32 → rS → Prop} {K0 : (Int32 ⊕ (Int32 ⊕ Unit)) → rS → Prop} (hC : ∀ (x3 : Int32) (σ : rS), K0 (.inl x3) σ → Run l Ω cX10_at RX10 4 (some .int) rmX10_at K 7 [some (rf Ω 10 0), some (.int x1), some (.int x2), some (.int x3)] [] σ) (hE0 : ∀ (e : Int32) (σ : rS), K0 (.inr (.inl e)) σ → Run l Ω cX10_at RX10 4 (some .int) rmX10_at K 71 [some (rf Ω 10 0), none, none, some (.int e)] [] σ) (hE1 : ∀ (e : Unit) (σ : rS), K0 (.inr (.inr e)) σ → Run l Ω cX10_at RX10 4 (some .int) rmX10_at K 87 [none, none, none, none] [] σ) (h : hit (fX10_at_L7 x1 x2 x3 σ) K0) : Run l Ω cX10_at RX10 4 (some .int) rmX10_at K 7 [some (rf Ω 10 0), some (.int x1), some (.int x2), some (.int x3)] [] σ := by
  unfold fX10_at_L7 at h
  refine R_iload_n (i := 3) dX10_at_7 rfl rfl ?_
  refine R_aload_n (i := 0) dX10_at_8 rfl rfl ?_
  refine R_get foX10_29 hL0 (cE_10 Ω 0 _) rfl dX10_at_9 ?_
  refine R_iconst (v := 0) dX10_at_12 rfl ?_
  refine R_iald (WF.kid hW 6 hL0 rfl) (cE_66 Ω 0 _) (vin 0 1554 rfl) dX10_at_13 ?_
  refine R_icmp_ge (tgt := 87) dX10_at_14 (by decide) (fun hc => ?_) (fun hc => ?_)
  · have h := hit_f h hc
    refine R_drop (lv2 := [none, some (.int x1), some (.int x2), some (.int x3)]) 0 rfl ?_
    refine R_drop (lv2 := [none, none, some (.int x2), some (.int x3)]) 1 rfl ?_
    refine R_drop (lv2 := [none, none, none, some (.int x3)]) 2 rfl ?_
    refine R_drop (lv2 := [none, none, none, none]) 3 rfl ?_
    exact hE1 () σ h
  · have h := hit_t h hc
    refine R_aload_n (i := 0) dX10_at_17 rfl rfl ?_
    refine R_get foX10_29 hL0 (cE_10 Ω 0 _) rfl dX10_at_18 ?_
    refine R_iload_n (i := 3) dX10_at_21 rfl rfl ?_
    refine R_iconst (v := 5) dX10_at_22 rfl ?_
    refine R_callSi (ctX10_of l Ω 0 x3 5 (WF.kid hW 6 hL0 rfl) _ _ (hit_mono (hit_bd h) (fun r2 σ3 h => ?_))) okX10_of mw_1435 rfl rfl (Nat.le_of_ble_eq_true rfl) rfl rfl ⟨by decide, by decide⟩ ⟨Nat.zero_le _, Nat.zero_le _⟩ dX10_at_23
    refine R_iload_n (i := 1) dX10_at_26 rfl rfl ?_
    refine R_icmp_ne (tgt := 81) dX10_at_27 (by decide) (fun hc => ?_) (fun hc => ?_)
    · have h := hit_f h hc
      exact rnX10_at_j81L7 hW x1 x2 x3 hL0 σ3 hC hE0 hE1 h
    · have h := hit_t h hc
      refine R_iload_n (i := 2) dX10_at_30 rfl rfl ?_
      refine R_i2l dX10_at_31 ?_
      refine R_aload_n (i := 0) dX10_at_32 rfl rfl ?_
      refine R_get foX10_29 hL0 (cE_10 Ω 0 _) rfl dX10_at_33 ?_
      refine R_iload_n (i := 3) dX10_at_36 rfl rfl ?_
      refine R_bipush (v := 6) dX10_at_37 rfl ?_
      refine R_callSi (ctX10_of l Ω 0 x3 6 (WF.kid hW 6 hL0 rfl) _ _ (hit_mono (hit_bd h) (fun r4 σ5 h => ?_))) okX10_of mw_1435 rfl rfl (Nat.le_of_ble_eq_true rfl) rfl rfl ⟨by decide, by decide⟩ ⟨Nat.zero_le _, Nat.zero_le _⟩ dX10_at_39
      refine R_i2l dX10_at_42 ?_
      refine R_aload_n (i := 0) dX10_at_43 rfl rfl ?_
      refine R_get foX10_29 hL0 (cE_10 Ω 0 _) rfl dX10_at_44 ?_
      refine R_iload_n (i := 3) dX10_at_47 rfl rfl ?_
      refine R_bipush (v := 6) dX10_at_48 rfl ?_
      refine R_callSi (ctX10_of l Ω 0 x3 6 (WF.kid hW 6 hL0 rfl) _ _ (hit_mono (hit_bd h) (fun r6 σ7 h => ?_))) okX10_of mw_1435 rfl rfl (Nat.le_of_ble_eq_true rfl) rfl rfl ⟨by decide, by decide⟩ ⟨Nat.zero_le _, Nat.zero_le _⟩ dX10_at_50
      refine R_aload_n (i := 0) dX10_at_53 rfl rfl ?_
      refine R_get foX10_29 hL0 (cE_10 Ω 0 _) rfl dX10_at_54 ?_
      refine R_iload_n (i := 3) dX10_at_57 rfl rfl ?_
      refine R_callSi (ctX10_sizeOf l Ω 0 x3 (WF.kid hW 6 hL0 rfl) _ _ (hit_mono (hit_bd h) (fun r8 σ9 h => ?_))) okX10_sizeOf mw_1449 rfl rfl (Nat.le_of_ble_eq_true rfl) rfl rfl ⟨by decide, by decide⟩ ⟨Nat.zero_le _, Nat.zero_le _⟩ dX10_at_58
      refine R_iadd dX10_at_61 ?_
      refine R_iconst (v := 1) dX10_at_62 rfl ?_
      refine R_isub dX10_at_63 ?_
      refine R_i2l dX10_at_64 ?_
      refine R_callSi (ctX10_isIn l Ω x2.toInt64 r4.toInt64 (((r6 + r8) - 1).toInt64) _ _ (hit_mono (hit_bd h) (fun r10 σ11 h => ?_))) okX10_isIn mw_1315 rfl rfl (Nat.le_of_ble_eq_true rfl) rfl rfl ⟨by decide, by decide⟩ ⟨Nat.zero_le _, Nat.zero_le _⟩ dX10_at_65
      refine R_if_eq (tgt := 81) dX10_at_68 (by decide) (fun hc => ?_) (fun hc => ?_)
      · have h := hit_t h hc
        exact rnX10_at_j81L7 hW x1 x2 x3 hL0 σ11 hC hE0 hE1 h
      · have h := hit_f h hc
        refine R_drop (lv2 := [some (rf Ω 10 0), none, some (.int x2), some (.int x3)]) 1 rfl ?_
        refine R_drop (lv2 := [some (rf Ω 10 0), none, none, some (.int x3)]) 2 rfl ?_
        exact hE0 x3 σ11 h
set_option maxRecDepth 100000 in
set_option maxHeartbeats 4000000 in
theorem rlX10_at_L7 {l : Launch} {Ω : rO} (hW : WF Ω) (x1 : Int32) (x2 : Int32) (hL0 : oL Ω 10 0) {K : Int32 → rS → Prop} {KE : (Int32 ⊕ Unit) → rS → Prop} (hE0 : ∀ (e : Int32) (σ : rS), KE (.inl e) σ → Run l Ω cX10_at RX10 4 (some .int) rmX10_at K 71 [some (rf Ω 10 0), none, none, some (.int e)] [] σ) (hE1 : ∀ (e : Unit) (σ : rS), KE (.inr e) σ → Run l Ω cX10_at RX10 4 (some .int) rmX10_at K 87 [none, none, none, none] [] σ) : ∀ (n : Nat) (x3 : Int32) (σ : rS), hit (lp (fun (x : Int32) σ => fX10_at_L7 x1 x2 x σ) n x3 σ) KE → Run l Ω cX10_at RX10 4 (some .int) rmX10_at K 7 [some (rf Ω 10 0), some (.int x1), some (.int x2), some (.int x3)] [] σ := by
  intro n
  induction n with
  | zero => intro x3 σ h; exact (h : False).elim
  | succ n ih =>
    intro x3 σ h
    exact rsX10_at_L7 hW x1 x2 x3 hL0 σ (fun x3 σ h => ih x3 σ h) (fun e σ h => hE0 e σ h) (fun e σ h => hE1 e σ h) (hit_lp h)
set_option maxRecDepth 100000 in
set_option maxHeartbeats 4000000 in
theorem ctX10_at (l : Launch) (Ω : rO) (x1 : Int32) (x2 : Int32) (hL0 : oL Ω 10 0) (σ : rS) (K : Int32 → rS → Prop) (h : hit (fX10_at x1 x2 σ) K) : Ct l Ω yX10_at cX10_at 4 (some .int) rmX10_at [rf Ω 10 0, .int x1, .int x2] σ K := by
  refine Ct.of (own := RX10) (lv := [some (rf Ω 10 0), some (.int x1), some (.int x2), none]) (by decide) rfl (Nat.le_of_ble_eq_true rfl) rfl (fun hW => ?_)
  unfold fX10_at at h
  refine R_aload_n (i := 0) dX10_at_0 rfl rfl ?_
  refine R_iconst (v := 0) dX10_at_1 rfl ?_
  refine R_put poX10_73 hL0 (cE_10 Ω 0 _) (cP_10_0 Ω 0 _ _) (Nat.le_of_ble_eq_true rfl) dX10_at_2 ?_
  refine R_st h (fun σ1 h => ?_)
  refine R_iconst (v := 0) dX10_at_5 rfl ?_
  refine R_istore_n (lv2 := [some (rf Ω 10 0), some (.int x1), some (.int x2), some (.int 0)]) dX10_at_6 rfl (by decide) rfl rfl ?_
  refine rlX10_at_L7 hW x1 x2 hL0 ?_ ?_ fu 0 σ1 (hit_bd h)
  · intro e13 σ12 h
    try dsimp only at h
    refine R_aload_n (i := 0) dX10_at_71 rfl rfl ?_
    refine R_get foX10_29 hL0 (cE_10 Ω 0 _) rfl dX10_at_72 ?_
    refine R_iload_n (i := 3) dX10_at_75 rfl rfl ?_
    refine R_iconst (v := 0) dX10_at_76 rfl ?_
    refine R_callSi (ctX10_of l Ω 0 e13 0 (WF.kid hW 6 hL0 rfl) _ _ (hit_mono (hit_bd h) (fun r14 σ15 h => ?_))) okX10_of mw_1435 rfl rfl (Nat.le_of_ble_eq_true rfl) rfl rfl ⟨by decide, by decide⟩ ⟨Nat.zero_le _, Nat.zero_le _⟩ dX10_at_77
    exact R_iret dX10_at_80 rfl h
  · intro e16 σ12 h
    try dsimp only at h
    refine R_iconst (v := (-1)) dX10_at_87 rfl ?_
    exact R_iret dX10_at_88 rfl h
set_option maxRecDepth 100000 in
set_option maxHeartbeats 4000000 in
theorem rnX10_remembered_j45 {l : Launch} {Ω : rO} (hW : WF Ω) (x1 : Int32) (x2 : Int32) (hL0 : oL Ω 10 0) (σ : rS) {K : Int32 → rS → Prop}  (h : hit (fX10_remembered_j45 x1 x2 σ) K) : Run l Ω cX10_remembered RX10 3 (some .int) rmX10_remembered K 45 [some (rf Ω 10 0), some (.int x1), some (.int x2)] [] σ := by
  unfold fX10_remembered_j45 at h
  refine R_iload_n (i := 1) dX10_remembered_45 rfl rfl ?_
  refine R_iconst (v := (-1)) dX10_remembered_46 rfl ?_
  refine R_icmp_ne (tgt := 61) dX10_remembered_47 (by decide) (fun hc => ?_) (fun hc => ?_)
  · have h := hit_f h hc
    refine R_aload_n (i := 0) dX10_remembered_61 rfl rfl ?_
    refine R_get foX10_29 hL0 (cE_10 Ω 0 _) rfl dX10_remembered_62 ?_
    refine R_sipush (v := 890) dX10_remembered_65 rfl ?_
    refine R_iconst (v := 2) dX10_remembered_68 rfl ?_
    refine R_iload_n (i := 1) dX10_remembered_69 rfl rfl ?_
    refine R_imul dX10_remembered_70 ?_
    refine R_iadd dX10_remembered_71 ?_
    refine R_iload_n (i := 2) dX10_remembered_72 rfl rfl ?_
    refine R_iadd dX10_remembered_73 ?_
    obtain ⟨hb, h⟩ := hit_bnd h
    refine R_iald (WF.kid hW 6 hL0 rfl) (cE_66 Ω 0 _) hb dX10_remembered_74 ?_
    exact R_iret dX10_remembered_75 rfl h
  · have h := hit_t h hc
    refine R_aload_n (i := 0) dX10_remembered_50 rfl rfl ?_
    refine R_get foX10_29 hL0 (cE_10 Ω 0 _) rfl dX10_remembered_51 ?_
    refine R_sipush (v := 889) dX10_remembered_54 rfl ?_
    refine R_iald (WF.kid hW 6 hL0 rfl) (cE_66 Ω 0 _) (vin 889 1554 rfl) dX10_remembered_57 ?_
    refine R_goto (tgt := 75) dX10_remembered_58 (by decide) ?_
    exact R_iret dX10_remembered_75 rfl h
set_option maxRecDepth 100000 in
set_option maxHeartbeats 4000000 in
theorem ctX10_remembered (l : Launch) (Ω : rO) (x1 : Int32) (x2 : Int32) (hL0 : oL Ω 10 0) (σ : rS) (K : Int32 → rS → Prop) (h : hit (fX10_remembered x1 x2 σ) K) : Ct l Ω yX10_remembered cX10_remembered 3 (some .int) rmX10_remembered [rf Ω 10 0, .int x1, .int x2] σ K := by
  refine Ct.of (own := RX10) (lv := [some (rf Ω 10 0), some (.int x1), some (.int x2)]) (by decide) rfl (Nat.le_of_ble_eq_true rfl) rfl (fun hW => ?_)
  unfold fX10_remembered at h
  refine R_aload_n (i := 0) dX10_remembered_0 rfl rfl ?_
  refine R_iconst (v := 0) dX10_remembered_1 rfl ?_
  refine R_put poX10_73 hL0 (cE_10 Ω 0 _) (cP_10_0 Ω 0 _ _) (Nat.le_of_ble_eq_true rfl) dX10_remembered_2 ?_
  refine R_st h (fun σ1 h => ?_)
  refine R_aload_n (i := 0) dX10_remembered_5 rfl rfl ?_
  refine R_get foX10_157 hL0 (cE_10 Ω 0 _) rfl dX10_remembered_6 ?_
  refine R_if_eq (tgt := 43) dX10_remembered_9 (by decide) (fun hc => ?_) (fun hc => ?_)
  · have h := hit_t h hc
    refine R_iconst (v := (-1)) dX10_remembered_43 rfl ?_
    exact R_iret dX10_remembered_44 rfl h
  · have h := hit_f h hc
    refine R_iload_n (i := 1) dX10_remembered_12 rfl rfl ?_
    refine R_iconst (v := (-1)) dX10_remembered_13 rfl ?_
    refine R_icmp_lt (tgt := 43) dX10_remembered_14 (by decide) (fun hc => ?_) (fun hc => ?_)
    · have h := hit_t h hc
      refine R_iconst (v := (-1)) dX10_remembered_43 rfl ?_
      exact R_iret dX10_remembered_44 rfl h
    · have h := hit_f h hc
      refine R_iload_n (i := 1) dX10_remembered_17 rfl rfl ?_
      refine R_aload_n (i := 0) dX10_remembered_18 rfl rfl ?_
      refine R_get foX10_29 hL0 (cE_10 Ω 0 _) rfl dX10_remembered_19 ?_
      refine R_sipush (v := 889) dX10_remembered_22 rfl ?_
      refine R_iald (WF.kid hW 6 hL0 rfl) (cE_66 Ω 0 _) (vin 889 1554 rfl) dX10_remembered_25 ?_
      refine R_icmp_ge (tgt := 43) dX10_remembered_26 (by decide) (fun hc => ?_) (fun hc => ?_)
      · have h := hit_f h hc
        refine R_iconst (v := (-1)) dX10_remembered_43 rfl ?_
        exact R_iret dX10_remembered_44 rfl h
      · have h := hit_t h hc
        refine R_iload_n (i := 1) dX10_remembered_29 rfl rfl ?_
        refine R_if_lt (tgt := 45) dX10_remembered_30 (by decide) (fun hc => ?_) (fun hc => ?_)
        · have h := hit_t h hc
          exact rnX10_remembered_j45 hW x1 x2 hL0 σ1  h
        · have h := hit_f h hc
          refine R_iload_n (i := 2) dX10_remembered_33 rfl rfl ?_
          refine R_i2l dX10_remembered_34 ?_
          refine R_lconst (v := 0) dX10_remembered_35 rfl ?_
          refine R_lconst (v := 1) dX10_remembered_36 rfl ?_
          refine R_callSi (ctX10_isIn l Ω x2.toInt64 0 1 _ _ (hit_mono (hit_bd h) (fun r2 σ3 h => ?_))) okX10_isIn mw_1315 rfl rfl (Nat.le_of_ble_eq_true rfl) rfl rfl ⟨by decide, by decide⟩ ⟨Nat.zero_le _, Nat.zero_le _⟩ dX10_remembered_37
          refine R_if_ne (tgt := 45) dX10_remembered_40 (by decide) (fun hc => ?_) (fun hc => ?_)
          · have h := hit_f h hc
            exact rnX10_remembered_j45 hW x1 x2 hL0 σ3  h
          · have h := hit_t h hc
            refine R_iconst (v := (-1)) dX10_remembered_43 rfl ?_
            exact R_iret dX10_remembered_44 rfl h
set_option maxRecDepth 100000 in
set_option maxHeartbeats 4000000 in
theorem rnX10_line_j37 {l : Launch} {Ω : rO} (hW : WF Ω) (x2 : Int32) (z0 : Int32) (hL0 : oL Ω 10 0) (σ : rS) {K : Int32 → rS → Prop}  (h : hit (fX10_line_j37 x2 z0 σ) K) : Run l Ω cX10_line RX10 4 (some .int) rmX10_line K 37 [some (rf Ω 10 0), none, some (.int x2), none] [.int z0] σ := by
  unfold fX10_line_j37 at h
  refine R_istore_n (lv2 := [some (rf Ω 10 0), none, some (.int x2), some (.int z0)]) dX10_line_37 rfl (by decide) rfl rfl ?_
  refine R_iload_n (i := 2) dX10_line_38 rfl rfl ?_
  refine R_iconst (v := (-1)) dX10_line_39 rfl ?_
  refine R_icmp_ne (tgt := 52) dX10_line_40 (by decide) (fun hc => ?_) (fun hc => ?_)
  · have h := hit_f h hc
    refine R_iload_n (i := 2) dX10_line_52 rfl rfl ?_
    refine R_i2l dX10_line_53 ?_
    refine R_lconst (v := 0) dX10_line_54 rfl ?_
    refine R_aload_n (i := 0) dX10_line_55 rfl rfl ?_
    refine R_get foX10_29 hL0 (cE_10 Ω 0 _) rfl dX10_line_56 ?_
    refine R_iload_n (i := 3) dX10_line_59 rfl rfl ?_
    obtain ⟨hb, h⟩ := hit_bnd h
    refine R_iald (WF.kid hW 6 hL0 rfl) (cE_66 Ω 0 _) hb dX10_line_60 ?_
    refine R_iconst (v := 1) dX10_line_61 rfl ?_
    refine R_isub dX10_line_62 ?_
    refine R_i2l dX10_line_63 ?_
    refine R_callSi (ctX10_isIn l Ω x2.toInt64 0 (((σ 66 0 (ix z0)) - 1).toInt64) _ _ (hit_mono (hit_bd h) (fun r4 σ5 h => ?_))) okX10_isIn mw_1315 rfl rfl (Nat.le_of_ble_eq_true rfl) rfl rfl ⟨by decide, by decide⟩ ⟨Nat.zero_le _, Nat.zero_le _⟩ dX10_line_64
    refine R_if_eq (tgt := 83) dX10_line_67 (by decide) (fun hc => ?_) (fun hc => ?_)
    · have h := hit_t h hc
      refine R_iconst (v := (-1)) dX10_line_83 rfl ?_
      exact R_iret dX10_line_84 rfl h
    · have h := hit_f h hc
      refine R_aload_n (i := 0) dX10_line_70 rfl rfl ?_
      refine R_get foX10_29 hL0 (cE_10 Ω 0 _) rfl dX10_line_71 ?_
      refine R_iload_n (i := 3) dX10_line_74 rfl rfl ?_
      refine R_iconst (v := 1) dX10_line_75 rfl ?_
      refine R_iadd dX10_line_76 ?_
      refine R_iload_n (i := 2) dX10_line_77 rfl rfl ?_
      refine R_iadd dX10_line_78 ?_
      obtain ⟨hb, h⟩ := hit_bnd h
      refine R_iald (WF.kid hW 6 hL0 rfl) (cE_66 Ω 0 _) hb dX10_line_79 ?_
      refine R_goto (tgt := 84) dX10_line_80 (by decide) ?_
      exact R_iret dX10_line_84 rfl h
  · have h := hit_t h hc
    refine R_aload_n (i := 0) dX10_line_43 rfl rfl ?_
    refine R_get foX10_29 hL0 (cE_10 Ω 0 _) rfl dX10_line_44 ?_
    refine R_iload_n (i := 3) dX10_line_47 rfl rfl ?_
    obtain ⟨hb, h⟩ := hit_bnd h
    refine R_iald (WF.kid hW 6 hL0 rfl) (cE_66 Ω 0 _) hb dX10_line_48 ?_
    refine R_goto (tgt := 84) dX10_line_49 (by decide) ?_
    exact R_iret dX10_line_84 rfl h
set_option maxRecDepth 100000 in
set_option maxHeartbeats 4000000 in
theorem ctX10_line (l : Launch) (Ω : rO) (x1 : Int32) (x2 : Int32) (hL0 : oL Ω 10 0) (σ : rS) (K : Int32 → rS → Prop) (h : hit (fX10_line x1 x2 σ) K) : Ct l Ω yX10_line cX10_line 4 (some .int) rmX10_line [rf Ω 10 0, .int x1, .int x2] σ K := by
  refine Ct.of (own := RX10) (lv := [some (rf Ω 10 0), some (.int x1), some (.int x2), none]) (by decide) rfl (Nat.le_of_ble_eq_true rfl) rfl (fun hW => ?_)
  unfold fX10_line at h
  refine R_aload_n (i := 0) dX10_line_0 rfl rfl ?_
  refine R_iconst (v := 0) dX10_line_1 rfl ?_
  refine R_put poX10_73 hL0 (cE_10 Ω 0 _) (cP_10_0 Ω 0 _ _) (Nat.le_of_ble_eq_true rfl) dX10_line_2 ?_
  refine R_st h (fun σ1 h => ?_)
  refine R_aload_n (i := 0) dX10_line_5 rfl rfl ?_
  refine R_get foX10_157 hL0 (cE_10 Ω 0 _) rfl dX10_line_6 ?_
  refine R_if_eq (tgt := 22) dX10_line_9 (by decide) (fun hc => ?_) (fun hc => ?_)
  · have h := hit_t h hc
    refine R_iconst (v := (-1)) dX10_line_22 rfl ?_
    exact R_iret dX10_line_23 rfl h
  · have h := hit_f h hc
    refine R_iload_n (i := 1) dX10_line_12 rfl rfl ?_
    refine R_i2l dX10_line_13 ?_
    refine R_lconst (v := 0) dX10_line_14 rfl ?_
    refine R_lconst (v := 1) dX10_line_15 rfl ?_
    refine R_callSi (ctX10_isIn l Ω x1.toInt64 0 1 _ _ (hit_mono (hit_bd h) (fun r2 σ3 h => ?_))) okX10_isIn mw_1315 rfl rfl (Nat.le_of_ble_eq_true rfl) rfl rfl ⟨by decide, by decide⟩ ⟨Nat.zero_le _, Nat.zero_le _⟩ dX10_line_16
    refine R_if_ne (tgt := 24) dX10_line_19 (by decide) (fun hc => ?_) (fun hc => ?_)
    · have h := hit_f h hc
      refine R_iload_n (i := 1) dX10_line_24 rfl rfl ?_
      refine R_if_ne (tgt := 34) dX10_line_25 (by decide) (fun hc => ?_) (fun hc => ?_)
      · have h := hit_f h hc
        refine R_sipush (v := 1323) dX10_line_34 rfl ?_
        refine R_drop (lv2 := [some (rf Ω 10 0), none, some (.int x2), none]) 1 rfl ?_
        exact rnX10_line_j37 hW x2 1323 hL0 σ3  h
      · have h := hit_t h hc
        refine R_sipush (v := 1242) dX10_line_28 rfl ?_
        refine R_goto (tgt := 37) dX10_line_31 (by decide) ?_
        refine R_drop (lv2 := [some (rf Ω 10 0), none, some (.int x2), none]) 1 rfl ?_
        exact rnX10_line_j37 hW x2 1242 hL0 σ3  h
    · have h := hit_t h hc
      refine R_iconst (v := (-1)) dX10_line_22 rfl ?_
      exact R_iret dX10_line_23 rfl h
set_option maxRecDepth 100000 in
set_option maxHeartbeats 4000000 in
theorem rnX10_would_j67 {l : Launch} {Ω : rO} (hW : WF Ω) (x1 : Int32) (x2 : Int32) (hL0 : oL Ω 10 0) (σ : rS) {K : Int32 → rS → Prop}  (h : hit (fX10_would_j67 x1 x2 σ) K) : Run l Ω cX10_would RX10 3 (some .int) rmX10_would K 67 [some (rf Ω 10 0), some (.int x1), some (.int x2)] [] σ := by
  unfold fX10_would_j67 at h
  refine R_iload_n (i := 2) dX10_would_67 rfl rfl ?_
  by_cases hs0 : x2 = 0
  · have h := hit_t h hs0
    refine R_tableIn (tgt := 100) dX10_would_68 (by rw [hs0]; decide) (by rw [hs0]; decide) (by rw [hs0]; rfl) (by decide) ?_
    refine R_iload_n (i := 1) dX10_would_100 rfl rfl ?_
    refine R_if_eq (tgt := 111) dX10_would_101 (by decide) (fun hc => ?_) (fun hc => ?_)
    · have h := hit_t h hc
      refine R_aload_n (i := 0) dX10_would_111 rfl rfl ?_
      refine R_get foX10_32 hL0 (cE_10 Ω 0 _) rfl dX10_would_112 ?_
      refine R_sipush (v := 1367) dX10_would_115 rfl ?_
      refine R_iald (WF.kid hW 7 hL0 rfl) (cE_66 Ω 1 _) (vin 1367 1554 rfl) dX10_would_118 ?_
      refine R_aload_n (i := 0) dX10_would_119 rfl rfl ?_
      refine R_get foX10_29 hL0 (cE_10 Ω 0 _) rfl dX10_would_120 ?_
      refine R_sipush (v := 1367) dX10_would_123 rfl ?_
      refine R_iald (WF.kid hW 6 hL0 rfl) (cE_66 Ω 0 _) (vin 1367 1554 rfl) dX10_would_126 ?_
      refine R_isub dX10_would_127 ?_
      exact R_iret dX10_would_128 rfl h
    · have h := hit_f h hc
      refine R_aload_n (i := 0) dX10_would_104 rfl rfl ?_
      refine R_get foX10_274 hL0 (cE_10 Ω 0 _) rfl dX10_would_105 ?_
      refine R_goto (tgt := 128) dX10_would_108 (by decide) ?_
      exact R_iret dX10_would_128 rfl h
  · have h := hit_f h hs0
    by_cases hs1 : x2 = 1
    · have h := hit_t h hs1
      refine R_tableIn (tgt := 129) dX10_would_68 (by rw [hs1]; decide) (by rw [hs1]; decide) (by rw [hs1]; rfl) (by decide) ?_
      refine R_aload_n (i := 0) dX10_would_129 rfl rfl ?_
      refine R_get foX10_32 hL0 (cE_10 Ω 0 _) rfl dX10_would_130 ?_
      refine R_sipush (v := 1368) dX10_would_133 rfl ?_
      refine R_iald (WF.kid hW 7 hL0 rfl) (cE_66 Ω 1 _) (vin 1368 1554 rfl) dX10_would_136 ?_
      refine R_aload_n (i := 0) dX10_would_137 rfl rfl ?_
      refine R_get foX10_29 hL0 (cE_10 Ω 0 _) rfl dX10_would_138 ?_
      refine R_sipush (v := 1368) dX10_would_141 rfl ?_
      refine R_iald (WF.kid hW 6 hL0 rfl) (cE_66 Ω 0 _) (vin 1368 1554 rfl) dX10_would_144 ?_
      refine R_isub dX10_would_145 ?_
      exact R_iret dX10_would_146 rfl h
    · have h := hit_f h hs1
      by_cases hs2 : x2 = 2
      · have h := hit_t h hs2
        refine R_tableIn (tgt := 147) dX10_would_68 (by rw [hs2]; decide) (by rw [hs2]; decide) (by rw [hs2]; rfl) (by decide) ?_
        refine R_aload_n (i := 0) dX10_would_147 rfl rfl ?_
        refine R_get foX10_250 hL0 (cE_10 Ω 0 _) rfl dX10_would_148 ?_
        exact R_iret dX10_would_151 rfl h
      · have h := hit_f h hs2
        by_cases hs3 : x2 = 3
        · have h := hit_t h hs3
          refine R_tableIn (tgt := 152) dX10_would_68 (by rw [hs3]; decide) (by rw [hs3]; decide) (by rw [hs3]; rfl) (by decide) ?_
          refine R_aload_n (i := 0) dX10_would_152 rfl rfl ?_
          refine R_get foX10_32 hL0 (cE_10 Ω 0 _) rfl dX10_would_153 ?_
          refine R_sipush (v := 1370) dX10_would_156 rfl ?_
          refine R_iald (WF.kid hW 7 hL0 rfl) (cE_66 Ω 1 _) (vin 1370 1554 rfl) dX10_would_159 ?_
          refine R_aload_n (i := 0) dX10_would_160 rfl rfl ?_
          refine R_get foX10_29 hL0 (cE_10 Ω 0 _) rfl dX10_would_161 ?_
          refine R_sipush (v := 1370) dX10_would_164 rfl ?_
          refine R_iald (WF.kid hW 6 hL0 rfl) (cE_66 Ω 0 _) (vin 1370 1554 rfl) dX10_would_167 ?_
          refine R_isub dX10_would_168 ?_
          exact R_iret dX10_would_169 rfl h
        · have h := hit_f h hs3
          refine R_sw (tgt := 170) (lo := 0) (hi := 3) dX10_would_68 (fun z1 z2 => ?_) (by decide) ?_
          · have e : x2.toInt = 0 ∨ x2.toInt = 1 ∨ x2.toInt = 2 ∨ x2.toInt = 3 := by omega
            rcases e with e | e | e | e
            · exact absurd (Int32.toInt_inj.mp (e.trans (by decide : (0 : Int) = (0 : Int32).toInt))) hs0
            · exact absurd (Int32.toInt_inj.mp (e.trans (by decide : (1 : Int) = (1 : Int32).toInt))) hs1
            · exact absurd (Int32.toInt_inj.mp (e.trans (by decide : (2 : Int) = (2 : Int32).toInt))) hs2
            · exact absurd (Int32.toInt_inj.mp (e.trans (by decide : (3 : Int) = (3 : Int32).toInt))) hs3
          refine R_aload_n (i := 0) dX10_would_170 rfl rfl ?_
          refine R_get foX10_32 hL0 (cE_10 Ω 0 _) rfl dX10_would_171 ?_
          refine R_sipush (v := 1371) dX10_would_174 rfl ?_
          refine R_iald (WF.kid hW 7 hL0 rfl) (cE_66 Ω 1 _) (vin 1371 1554 rfl) dX10_would_177 ?_
          refine R_aload_n (i := 0) dX10_would_178 rfl rfl ?_
          refine R_get foX10_29 hL0 (cE_10 Ω 0 _) rfl dX10_would_179 ?_
          refine R_sipush (v := 1371) dX10_would_182 rfl ?_
          refine R_iald (WF.kid hW 6 hL0 rfl) (cE_66 Ω 0 _) (vin 1371 1554 rfl) dX10_would_185 ?_
          refine R_isub dX10_would_186 ?_
          exact R_iret dX10_would_187 rfl h
set_option maxRecDepth 100000 in
set_option maxHeartbeats 4000000 in
theorem ctX10_would (l : Launch) (Ω : rO) (x1 : Int32) (x2 : Int32) (hL0 : oL Ω 10 0) (σ : rS) (K : Int32 → rS → Prop) (h : hit (fX10_would x1 x2 σ) K) : Ct l Ω yX10_would cX10_would 3 (some .int) rmX10_would [rf Ω 10 0, .int x1, .int x2] σ K := by
  refine Ct.of (own := RX10) (lv := [some (rf Ω 10 0), some (.int x1), some (.int x2)]) (by decide) rfl (Nat.le_of_ble_eq_true rfl) rfl (fun hW => ?_)
  unfold fX10_would at h
  refine R_aload_n (i := 0) dX10_would_0 rfl rfl ?_
  refine R_iconst (v := 0) dX10_would_1 rfl ?_
  refine R_put poX10_73 hL0 (cE_10 Ω 0 _) (cP_10_0 Ω 0 _ _) (Nat.le_of_ble_eq_true rfl) dX10_would_2 ?_
  refine R_st h (fun σ1 h => ?_)
  refine R_aload_n (i := 0) dX10_would_5 rfl rfl ?_
  refine R_get foX10_157 hL0 (cE_10 Ω 0 _) rfl dX10_would_6 ?_
  refine R_if_eq (tgt := 24) dX10_would_9 (by decide) (fun hc => ?_) (fun hc => ?_)
  · have h := hit_t h hc
    refine R_iconst (v := (-1)) dX10_would_24 rfl ?_
    exact R_iret dX10_would_25 rfl h
  · have h := hit_f h hc
    refine R_iload_n (i := 2) dX10_would_12 rfl rfl ?_
    refine R_i2l dX10_would_13 ?_
    refine R_lconst (v := 0) dX10_would_14 rfl ?_
    refine R_ldc2 (v := 4) mw_1422 dX10_would_15 ?_
    refine R_callSi (ctX10_isIn l Ω x2.toInt64 0 4 _ _ (hit_mono (hit_bd h) (fun r2 σ3 h => ?_))) okX10_isIn mw_1315 rfl rfl (Nat.le_of_ble_eq_true rfl) rfl rfl ⟨by decide, by decide⟩ ⟨Nat.zero_le _, Nat.zero_le _⟩ dX10_would_18
    refine R_if_ne (tgt := 26) dX10_would_21 (by decide) (fun hc => ?_) (fun hc => ?_)
    · have h := hit_f h hc
      refine R_aload_n (i := 0) dX10_would_26 rfl rfl ?_
      refine R_get foX10_29 hL0 (cE_10 Ω 0 _) rfl dX10_would_27 ?_
      refine R_iconst (v := 0) dX10_would_30 rfl ?_
      refine R_aload_n (i := 0) dX10_would_31 rfl rfl ?_
      refine R_get foX10_32 hL0 (cE_10 Ω 0 _) rfl dX10_would_32 ?_
      refine R_iconst (v := 0) dX10_would_35 rfl ?_
      refine R_callSv (ctX10_copyRow l Ω 66 0 1554 0 66 1 1554 0 (WF.kid hW 6 hL0 rfl) (cE_66 Ω 0) (WF.kid hW 7 hL0 rfl) (cE_66 Ω 1) _ _ (hit_mono (hit_bd h) (fun r4 σ5 h => ?_))) okX10_copyRow mw_1406 rfl rfl (Nat.le_of_ble_eq_true rfl) rfl rfl ⟨by decide, by decide⟩ ⟨Nat.zero_le _, Nat.zero_le _⟩ dX10_would_36
      refine R_iload_n (i := 1) dX10_would_39 rfl rfl ?_
      refine R_if_eq (tgt := 54) dX10_would_40 (by decide) (fun hc => ?_) (fun hc => ?_)
      · have h := hit_t h hc
        refine R_aload_n (i := 0) dX10_would_54 rfl rfl ?_
        refine R_aload_n (i := 0) dX10_would_55 rfl rfl ?_
        refine R_get foX10_32 hL0 (cE_10 Ω 0 _) rfl dX10_would_56 ?_
        refine R_callVi (ctX10_minors l Ω 1 hL0 (WF.kid hW 7 hL0 rfl) _ _ (hit_mono (hit_bd h) (fun r6 σ7 h => ?_))) okX10_minors mw_1452 hL0 (cE_10 Ω 0 _) rfl rfl (Nat.le_of_ble_eq_true rfl) rfl rfl ⟨by decide, by decide⟩ ⟨Nat.zero_le _, Nat.zero_le _⟩ dX10_would_59
        refine R_if_ne (tgt := 67) dX10_would_62 (by decide) (fun hc => ?_) (fun hc => ?_)
        · have h := hit_f h hc
          exact rnX10_would_j67 hW x1 x2 hL0 σ7  h
        · have h := hit_t h hc
          refine R_iconst (v := (-1)) dX10_would_65 rfl ?_
          exact R_iret dX10_would_66 rfl h
      · have h := hit_f h hc
        refine R_aload_n (i := 0) dX10_would_43 rfl rfl ?_
        refine R_aload_n (i := 0) dX10_would_44 rfl rfl ?_
        refine R_get foX10_32 hL0 (cE_10 Ω 0 _) rfl dX10_would_45 ?_
        refine R_callVv (ctX10_majors l Ω 1 hL0 (WF.kid hW 7 hL0 rfl) _ _ (hit_mono (hit_bd h) (fun r8 σ9 h => ?_))) okX10_majors mw_1519 hL0 (cE_10 Ω 0 _) rfl rfl (Nat.le_of_ble_eq_true rfl) rfl rfl ⟨by decide, by decide⟩ ⟨Nat.zero_le _, Nat.zero_le _⟩ dX10_would_48
        refine R_goto (tgt := 67) dX10_would_51 (by decide) ?_
        exact rnX10_would_j67 hW x1 x2 hL0 σ9  h
    · have h := hit_t h hc
      refine R_iconst (v := (-1)) dX10_would_24 rfl ?_
      exact R_iret dX10_would_25 rfl h
set_option maxRecDepth 100000 in
set_option maxHeartbeats 4000000 in
theorem rnX10_walksOn_j125L19 {l : Launch} {Ω : rO} (hW : WF Ω) (x1 : Int32) (x2 : Int32) (x3 : Int32) (hL0 : oL Ω 10 0) (σ : rS) {K : Int32 → rS → Prop} {K0 : (Int32 ⊕ Unit) → rS → Prop} (hC : ∀ (x3 : Int32) (σ : rS), K0 (.inl x3) σ → Run l Ω cX10_walksOn RX10 5 none rmX10_walksOn K 19 [some (rf Ω 10 0), some (.int x1), some (.int x2), some (.int x3), none] [] σ) (hE0 : ∀ (e : Unit) (σ : rS), K0 (.inr e) σ → Run l Ω cX10_walksOn RX10 5 none rmX10_walksOn K 131 [some (rf Ω 10 0), some (.int x1), none, none, none] [] σ) (h : hit (fX10_walksOn_j125L19 x1 x2 x3 σ) K0) : Run l Ω cX10_walksOn RX10 5 none rmX10_walksOn K 125 [some (rf Ω 10 0), some (.int x1), some (.int x2), some (.int x3), none] [] σ := by
  unfold fX10_walksOn_j125L19 at h
  refine R_iinc (v := x3 + 1) (lv2 := [some (rf Ω 10 0), some (.int x1), some (.int x2), some (.int (x3 + 1)), none]) dX10_walksOn_125 rfl rfl (by decide) rfl rfl ?_
  refine R_goto (tgt := 19) dX10_walksOn_128 (by decide) ?_
  exact hC (x3 + 1) σ h
set_option maxRecDepth 100000 in
set_option maxHeartbeats 4000000 in
theorem rnX10_walksOn_j67L19 {l : Launch} {Ω : rO} (hW : WF Ω) (x1 : Int32) (x2 : Int32) (x3 : Int32) (z0 : Int32) (hL0 : oL Ω 10 0) (σ : rS) {K : Int32 → rS → Prop} {K0 : (Int32 ⊕ Unit) → rS → Prop} (hC : ∀ (x3 : Int32) (σ : rS), K0 (.inl x3) σ → Run l Ω cX10_walksOn RX10 5 none rmX10_walksOn K 19 [some (rf Ω 10 0), some (.int x1), some (.int x2), some (.int x3), none] [] σ) (hE0 : ∀ (e : Unit) (σ : rS), K0 (.inr e) σ → Run l Ω cX10_walksOn RX10 5 none rmX10_walksOn K 131 [some (rf Ω 10 0), some (.int x1), none, none, none] [] σ) (h : hit (fX10_walksOn_j67L19 x1 x2 x3 z0 σ) K0) : Run l Ω cX10_walksOn RX10 5 none rmX10_walksOn K 67 [some (rf Ω 10 0), some (.int x1), some (.int x2), some (.int x3), none] [.int z0] σ := by
  unfold fX10_walksOn_j67L19 at h
  refine R_istore (lv2 := [some (rf Ω 10 0), some (.int x1), some (.int x2), some (.int x3), some (.int z0)]) dX10_walksOn_67 (by decide) rfl rfl ?_
  refine R_iload (i := 4) dX10_walksOn_69 rfl ?_
  refine R_iconst (v := (-1)) dX10_walksOn_71 rfl ?_
  refine R_icmp_eq (tgt := 125) dX10_walksOn_72 (by decide) (fun hc => ?_) (fun hc => ?_)
  · have h := hit_t h hc
    refine R_drop (lv2 := [some (rf Ω 10 0), some (.int x1), some (.int x2), some (.int x3), none]) 4 rfl ?_
    exact rnX10_walksOn_j125L19 hW x1 x2 x3 hL0 σ hC hE0 h
  · have h := hit_f h hc
    refine R_aload_n (i := 0) dX10_walksOn_75 rfl rfl ?_
    refine R_get foX10_45 hL0 (cE_10 Ω 0 _) rfl dX10_walksOn_76 ?_
    refine R_iload (i := 4) dX10_walksOn_79 rfl ?_
    obtain ⟨hb, h⟩ := hit_bnd h
    refine R_zald (WF.kid hW 11 hL0 rfl) (cE_68 Ω 0 _) hb dX10_walksOn_81 ?_
    refine R_if_eq (tgt := 88) dX10_walksOn_82 (by decide) (fun hc => ?_) (fun hc => ?_)
    · have h := hit_t h hc
      refine R_aload_n (i := 0) dX10_walksOn_88 rfl rfl ?_
      refine R_get foX10_58 hL0 (cE_10 Ω 0 _) rfl dX10_walksOn_89 ?_
      refine R_iload (i := 4) dX10_walksOn_92 rfl ?_
      refine R_iload_n (i := 2) dX10_walksOn_94 rfl rfl ?_
      obtain ⟨hb, h⟩ := hit_bnd h
      refine R_iast (WF.kid hW 15 hL0 rfl) (cE_71 Ω 0) hb dX10_walksOn_95 ?_
      refine R_st h (fun σ10 h => ?_)
      refine R_aload_n (i := 0) dX10_walksOn_96 rfl rfl ?_
      refine R_get foX10_61 hL0 (cE_10 Ω 0 _) rfl dX10_walksOn_97 ?_
      refine R_iload (i := 4) dX10_walksOn_100 rfl ?_
      refine R_iload_n (i := 3) dX10_walksOn_102 rfl rfl ?_
      obtain ⟨hb, h⟩ := hit_bnd h
      refine R_iast (WF.kid hW 16 hL0 rfl) (cE_72 Ω 0) hb dX10_walksOn_103 ?_
      refine R_st h (fun σ11 h => ?_)
      refine R_aload_n (i := 0) dX10_walksOn_104 rfl rfl ?_
      refine R_get foX10_64 hL0 (cE_10 Ω 0 _) rfl dX10_walksOn_105 ?_
      refine R_iload (i := 4) dX10_walksOn_108 rfl ?_
      refine R_aload_n (i := 0) dX10_walksOn_110 rfl rfl ?_
      refine R_get foX10_64 hL0 (cE_10 Ω 0 _) rfl dX10_walksOn_111 ?_
      refine R_iload_n (i := 2) dX10_walksOn_114 rfl rfl ?_
      obtain ⟨hb, h⟩ := hit_bnd h
      refine R_iald (WF.kid hW 17 hL0 rfl) (cE_73 Ω 0 _) hb dX10_walksOn_115 ?_
      refine R_iconst (v := 1) dX10_walksOn_116 rfl ?_
      refine R_iadd dX10_walksOn_117 ?_
      obtain ⟨hb, h⟩ := hit_bnd h
      refine R_iast (WF.kid hW 17 hL0 rfl) (cE_73 Ω 0) hb dX10_walksOn_118 ?_
      refine R_st h (fun σ12 h => ?_)
      refine R_aload_n (i := 0) dX10_walksOn_119 rfl rfl ?_
      refine R_iload (i := 4) dX10_walksOn_120 rfl ?_
      refine R_callVv (ctX10_marks l Ω z0 hL0 _ _ (hit_mono (hit_bd h) (fun r13 σ14 h => ?_))) okX10_marks mw_1474 hL0 (cE_10 Ω 0 _) rfl rfl (Nat.le_of_ble_eq_true rfl) rfl rfl ⟨by decide, by decide⟩ ⟨Nat.zero_le _, Nat.zero_le _⟩ dX10_walksOn_122
      refine R_drop (lv2 := [some (rf Ω 10 0), some (.int x1), some (.int x2), some (.int x3), none]) 4 rfl ?_
      exact rnX10_walksOn_j125L19 hW x1 x2 x3 hL0 σ14 hC hE0 h
    · have h := hit_f h hc
      refine R_goto (tgt := 125) dX10_walksOn_85 (by decide) ?_
      refine R_drop (lv2 := [some (rf Ω 10 0), some (.int x1), some (.int x2), some (.int x3), none]) 4 rfl ?_
      exact rnX10_walksOn_j125L19 hW x1 x2 x3 hL0 σ hC hE0 h
set_option maxRecDepth 100000 in
set_option maxHeartbeats 4000000 in
theorem rsX10_walksOn_L19 {l : Launch} {Ω : rO} (hW : WF Ω) (x1 : Int32) (x2 : Int32) (x3 : Int32) (hL0 : oL Ω 10 0) (σ : rS) {K : Int32 → rS → Prop} {K0 : (Int32 ⊕ Unit) → rS → Prop} (hC : ∀ (x3 : Int32) (σ : rS), K0 (.inl x3) σ → Run l Ω cX10_walksOn RX10 5 none rmX10_walksOn K 19 [some (rf Ω 10 0), some (.int x1), some (.int x2), some (.int x3), none] [] σ) (hE0 : ∀ (e : Unit) (σ : rS), K0 (.inr e) σ → Run l Ω cX10_walksOn RX10 5 none rmX10_walksOn K 131 [some (rf Ω 10 0), some (.int x1), none, none, none] [] σ) (h : hit (fX10_walksOn_L19 x1 x2 x3 σ) K0) : Run l Ω cX10_walksOn RX10 5 none rmX10_walksOn K 19 [some (rf Ω 10 0), some (.int x1), some (.int x2), some (.int x3), none] [] σ := by
  unfold fX10_walksOn_L19 at h
  refine R_iload_n (i := 3) dX10_walksOn_19 rfl rfl ?_
  refine R_aload_n (i := 0) dX10_walksOn_20 rfl rfl ?_
  refine R_get foX10_29 hL0 (cE_10 Ω 0 _) rfl dX10_walksOn_21 ?_
  refine R_iload_n (i := 2) dX10_walksOn_24 rfl rfl ?_
  refine R_iconst (v := 2) dX10_walksOn_25 rfl ?_
  refine R_callSi (ctX10_of l Ω 0 x2 2 (WF.kid hW 6 hL0 rfl) _ _ (hit_mono (hit_bd h) (fun r2 σ3 h => ?_))) okX10_of mw_1435 rfl rfl (Nat.le_of_ble_eq_true rfl) rfl rfl ⟨by decide, by decide⟩ ⟨Nat.zero_le _, Nat.zero_le _⟩ dX10_walksOn_26
  refine R_icmp_ge (tgt := 131) dX10_walksOn_29 (by decide) (fun hc => ?_) (fun hc => ?_)
  · have h := hit_f h hc
    refine R_drop (lv2 := [some (rf Ω 10 0), some (.int x1), none, some (.int x3), none]) 2 rfl ?_
    refine R_drop (lv2 := [some (rf Ω 10 0), some (.int x1), none, none, none]) 3 rfl ?_
    exact hE0 () σ3 h
  · have h := hit_t h hc
    refine R_aload_n (i := 0) dX10_walksOn_32 rfl rfl ?_
    refine R_get foX10_29 hL0 (cE_10 Ω 0 _) rfl dX10_walksOn_33 ?_
    refine R_iload_n (i := 2) dX10_walksOn_36 rfl rfl ?_
    refine R_iload_n (i := 3) dX10_walksOn_37 rfl rfl ?_
    refine R_callSi (ctX10_isWeak l Ω 0 x2 x3 (WF.kid hW 6 hL0 rfl) _ _ (hit_mono (hit_bd h) (fun r4 σ5 h => ?_))) okX10_isWeak mw_1478 rfl rfl (Nat.le_of_ble_eq_true rfl) rfl rfl ⟨by decide, by decide⟩ ⟨Nat.zero_le _, Nat.zero_le _⟩ dX10_walksOn_38
    refine R_if_eq (tgt := 48) dX10_walksOn_41 (by decide) (fun hc => ?_) (fun hc => ?_)
    · have h := hit_t h hc
      refine R_aload_n (i := 0) dX10_walksOn_48 rfl rfl ?_
      refine R_get foX10_29 hL0 (cE_10 Ω 0 _) rfl dX10_walksOn_49 ?_
      refine R_aload_n (i := 0) dX10_walksOn_52 rfl rfl ?_
      refine R_get foX10_29 hL0 (cE_10 Ω 0 _) rfl dX10_walksOn_53 ?_
      refine R_iload_n (i := 2) dX10_walksOn_56 rfl rfl ?_
      refine R_bipush (v := 7) dX10_walksOn_57 rfl ?_
      refine R_iload_n (i := 3) dX10_walksOn_59 rfl rfl ?_
      refine R_iadd dX10_walksOn_60 ?_
      refine R_callSi (ctX10_of l Ω 0 x2 (7 + x3) (WF.kid hW 6 hL0 rfl) _ _ (hit_mono (hit_bd h) (fun r6 σ7 h => ?_))) okX10_of mw_1435 rfl rfl (Nat.le_of_ble_eq_true rfl) rfl rfl ⟨by decide, by decide⟩ ⟨Nat.zero_le _, Nat.zero_le _⟩ dX10_walksOn_61
      refine R_callSi (ctX10_spotOf_ l Ω 0 r6 (WF.kid hW 6 hL0 rfl) _ _ (hit_mono (hit_bd h) (fun r8 σ9 h => ?_))) okX10_spotOf_ mw_1432 rfl rfl (Nat.le_of_ble_eq_true rfl) rfl rfl ⟨by decide, by decide⟩ ⟨Nat.zero_le _, Nat.zero_le _⟩ dX10_walksOn_64
      exact rnX10_walksOn_j67L19 hW x1 x2 x3 r8 hL0 σ9 hC hE0 h
    · have h := hit_f h hc
      refine R_iconst (v := (-1)) dX10_walksOn_44 rfl ?_
      refine R_goto (tgt := 67) dX10_walksOn_45 (by decide) ?_
      exact rnX10_walksOn_j67L19 hW x1 x2 x3 (-1) hL0 σ5 hC hE0 h
set_option maxRecDepth 100000 in
set_option maxHeartbeats 4000000 in
theorem rlX10_walksOn_L19 {l : Launch} {Ω : rO} (hW : WF Ω) (x1 : Int32) (x2 : Int32) (hL0 : oL Ω 10 0) {K : Int32 → rS → Prop} {KE : Unit → rS → Prop} (hE0 : ∀ (e : Unit) (σ : rS), KE e σ → Run l Ω cX10_walksOn RX10 5 none rmX10_walksOn K 131 [some (rf Ω 10 0), some (.int x1), none, none, none] [] σ) : ∀ (n : Nat) (x3 : Int32) (σ : rS), hit (lp (fun (x : Int32) σ => fX10_walksOn_L19 x1 x2 x σ) n x3 σ) KE → Run l Ω cX10_walksOn RX10 5 none rmX10_walksOn K 19 [some (rf Ω 10 0), some (.int x1), some (.int x2), some (.int x3), none] [] σ := by
  intro n
  induction n with
  | zero => intro x3 σ h; exact (h : False).elim
  | succ n ih =>
    intro x3 σ h
    exact rsX10_walksOn_L19 hW x1 x2 x3 hL0 σ (fun x3 σ h => ih x3 σ h) (fun e σ h => hE0 e σ h) (hit_lp h)
set_option maxRecDepth 100000 in
set_option maxHeartbeats 4000000 in
theorem rsX10_walksOn_L2 {l : Launch} {Ω : rO} (hW : WF Ω) (x1 : Int32) (hL0 : oL Ω 10 0) (σ : rS) {K : Int32 → rS → Prop} {K0 : (Int32 ⊕ Unit) → rS → Prop} (hC : ∀ (x1 : Int32) (σ : rS), K0 (.inl x1) σ → Run l Ω cX10_walksOn RX10 5 none rmX10_walksOn K 2 [some (rf Ω 10 0), some (.int x1), none, none, none] [] σ) (hE0 : ∀ (e : Unit) (σ : rS), K0 (.inr e) σ → Run l Ω cX10_walksOn RX10 5 none rmX10_walksOn K 137 [none, none, none, none, none] [] σ) (h : hit (fX10_walksOn_L2 x1 σ) K0) : Run l Ω cX10_walksOn RX10 5 none rmX10_walksOn K 2 [some (rf Ω 10 0), some (.int x1), none, none, none] [] σ := by
  unfold fX10_walksOn_L2 at h
  refine R_iload_n (i := 1) dX10_walksOn_2 rfl rfl ?_
  refine R_aload_n (i := 0) dX10_walksOn_3 rfl rfl ?_
  refine R_get foX10_195 hL0 (cE_10 Ω 0 _) rfl dX10_walksOn_4 ?_
  refine R_icmp_ge (tgt := 137) dX10_walksOn_7 (by decide) (fun hc => ?_) (fun hc => ?_)
  · have h := hit_f h hc
    refine R_drop (lv2 := [none, some (.int x1), none, none, none]) 0 rfl ?_
    refine R_drop (lv2 := [none, none, none, none, none]) 1 rfl ?_
    exact hE0 () σ h
  · have h := hit_t h hc
    refine R_aload_n (i := 0) dX10_walksOn_10 rfl rfl ?_
    refine R_get foX10_49 hL0 (cE_10 Ω 0 _) rfl dX10_walksOn_11 ?_
    refine R_iload_n (i := 1) dX10_walksOn_14 rfl rfl ?_
    obtain ⟨hb, h⟩ := hit_bnd h
    refine R_iald (WF.kid hW 12 hL0 rfl) (cE_69 Ω 0 _) hb dX10_walksOn_15 ?_
    refine R_topi h (fun y1 h => ?_)
    refine R_istore_n (lv2 := [some (rf Ω 10 0), some (.int x1), some (.int y1), none, none]) dX10_walksOn_16 rfl (by decide) rfl rfl ?_
    refine R_iconst (v := 0) dX10_walksOn_17 rfl ?_
    refine R_istore_n (lv2 := [some (rf Ω 10 0), some (.int x1), some (.int y1), some (.int 0), none]) dX10_walksOn_18 rfl (by decide) rfl rfl ?_
    refine rlX10_walksOn_L19 hW x1 y1 hL0 ?_ fu 0 σ (hit_bd h)
    · intro e16 σ15 h
      try dsimp only at h
      refine R_iinc (v := x1 + 1) (lv2 := [some (rf Ω 10 0), some (.int (x1 + 1)), none, none, none]) dX10_walksOn_131 rfl rfl (by decide) rfl rfl ?_
      refine R_goto (tgt := 2) dX10_walksOn_134 (by decide) ?_
      exact hC (x1 + 1) σ15 h
set_option maxRecDepth 100000 in
set_option maxHeartbeats 4000000 in
theorem rlX10_walksOn_L2 {l : Launch} {Ω : rO} (hW : WF Ω) (hL0 : oL Ω 10 0) {K : Int32 → rS → Prop} {KE : Unit → rS → Prop} (hE0 : ∀ (e : Unit) (σ : rS), KE e σ → Run l Ω cX10_walksOn RX10 5 none rmX10_walksOn K 137 [none, none, none, none, none] [] σ) : ∀ (n : Nat) (x1 : Int32) (σ : rS), hit (lp (fun (x : Int32) σ => fX10_walksOn_L2 x σ) n x1 σ) KE → Run l Ω cX10_walksOn RX10 5 none rmX10_walksOn K 2 [some (rf Ω 10 0), some (.int x1), none, none, none] [] σ := by
  intro n
  induction n with
  | zero => intro x1 σ h; exact (h : False).elim
  | succ n ih =>
    intro x1 σ h
    exact rsX10_walksOn_L2 hW x1 hL0 σ (fun x1 σ h => ih x1 σ h) (fun e σ h => hE0 e σ h) (hit_lp h)
set_option maxRecDepth 100000 in
set_option maxHeartbeats 4000000 in
theorem ctX10_walksOn (l : Launch) (Ω : rO) (hL0 : oL Ω 10 0) (σ : rS) (K : Int32 → rS → Prop) (h : hit (fX10_walksOn  σ) K) : Ct l Ω yX10_walksOn cX10_walksOn 5 none rmX10_walksOn [rf Ω 10 0] σ K := by
  refine Ct.of (own := RX10) (lv := [some (rf Ω 10 0), none, none, none, none]) (by decide) rfl (Nat.le_of_ble_eq_true rfl) rfl (fun hW => ?_)
  unfold fX10_walksOn at h
  refine R_iconst (v := 0) dX10_walksOn_0 rfl ?_
  refine R_istore_n (lv2 := [some (rf Ω 10 0), some (.int 0), none, none, none]) dX10_walksOn_1 rfl (by decide) rfl rfl ?_
  refine rlX10_walksOn_L2 hW hL0 ?_ fu 0 σ (hit_bd h)
  · intro e18 σ17 h
    try dsimp only at h
    exact R_vret dX10_walksOn_137 rfl h
set_option maxRecDepth 100000 in
set_option maxHeartbeats 4000000 in
theorem rnX10_walks_j64L6 {l : Launch} {Ω : rO} (hW : WF Ω) (x1 : Int32) (hL0 : oL Ω 10 0) (σ : rS) {K : Int32 → rS → Prop} {K0 : (Int32 ⊕ Unit) → rS → Prop} (hC : ∀ (x1 : Int32) (σ : rS), K0 (.inl x1) σ → Run l Ω cX10_walks RX10 3 none rmX10_walks K 6 [some (rf Ω 10 0), some (.int x1), none] [] σ) (hE0 : ∀ (e : Unit) (σ : rS), K0 (.inr e) σ → Run l Ω cX10_walks RX10 3 none rmX10_walks K 70 [some (rf Ω 10 0), none, none] [] σ) (h : hit (fX10_walks_j64L6 x1 σ) K0) : Run l Ω cX10_walks RX10 3 none rmX10_walks K 64 [some (rf Ω 10 0), some (.int x1), none] [] σ := by
  unfold fX10_walks_j64L6 at h
  refine R_iinc (v := x1 + 1) (lv2 := [some (rf Ω 10 0), some (.int (x1 + 1)), none]) dX10_walks_64 rfl rfl (by decide) rfl rfl ?_
  refine R_goto (tgt := 6) dX10_walks_67 (by decide) ?_
  exact hC (x1 + 1) σ h
set_option maxRecDepth 100000 in
set_option maxHeartbeats 4000000 in
theorem rsX10_walks_L6 {l : Launch} {Ω : rO} (hW : WF Ω) (x1 : Int32) (hL0 : oL Ω 10 0) (σ : rS) {K : Int32 → rS → Prop} {K0 : (Int32 ⊕ Unit) → rS → Prop} (hC : ∀ (x1 : Int32) (σ : rS), K0 (.inl x1) σ → Run l Ω cX10_walks RX10 3 none rmX10_walks K 6 [some (rf Ω 10 0), some (.int x1), none] [] σ) (hE0 : ∀ (e : Unit) (σ : rS), K0 (.inr e) σ → Run l Ω cX10_walks RX10 3 none rmX10_walks K 70 [some (rf Ω 10 0), none, none] [] σ) (h : hit (fX10_walks_L6 x1 σ) K0) : Run l Ω cX10_walks RX10 3 none rmX10_walks K 6 [some (rf Ω 10 0), some (.int x1), none] [] σ := by
  unfold fX10_walks_L6 at h
  refine R_iload_n (i := 1) dX10_walks_6 rfl rfl ?_
  refine R_bipush (v := 8) dX10_walks_7 rfl ?_
  refine R_icmp_ge (tgt := 70) dX10_walks_9 (by decide) (fun hc => ?_) (fun hc => ?_)
  · have h := hit_f h hc
    refine R_drop (lv2 := [some (rf Ω 10 0), none, none]) 1 rfl ?_
    exact hE0 () σ h
  · have h := hit_t h hc
    refine R_aload_n (i := 0) dX10_walks_12 rfl rfl ?_
    refine R_get foX10_29 hL0 (cE_10 Ω 0 _) rfl dX10_walks_13 ?_
    refine R_iload_n (i := 1) dX10_walks_16 rfl rfl ?_
    refine R_callSi (ctX10_rootSpot l Ω 0 x1 (WF.kid hW 6 hL0 rfl) _ _ (hit_mono (hit_bd h) (fun r3 σ4 h => ?_))) okX10_rootSpot mw_1429 rfl rfl (Nat.le_of_ble_eq_true rfl) rfl rfl ⟨by decide, by decide⟩ ⟨Nat.zero_le _, Nat.zero_le _⟩ dX10_walks_17
    refine R_istore_n (lv2 := [some (rf Ω 10 0), some (.int x1), some (.int r3)]) dX10_walks_20 rfl (by decide) rfl rfl ?_
    refine R_iload_n (i := 2) dX10_walks_21 rfl rfl ?_
    refine R_iconst (v := (-1)) dX10_walks_22 rfl ?_
    refine R_icmp_eq (tgt := 64) dX10_walks_23 (by decide) (fun hc => ?_) (fun hc => ?_)
    · have h := hit_t h hc
      refine R_drop (lv2 := [some (rf Ω 10 0), some (.int x1), none]) 2 rfl ?_
      exact rnX10_walks_j64L6 hW x1 hL0 σ4 hC hE0 h
    · have h := hit_f h hc
      refine R_aload_n (i := 0) dX10_walks_26 rfl rfl ?_
      refine R_get foX10_45 hL0 (cE_10 Ω 0 _) rfl dX10_walks_27 ?_
      refine R_iload_n (i := 2) dX10_walks_30 rfl rfl ?_
      obtain ⟨hb, h⟩ := hit_bnd h
      refine R_zald (WF.kid hW 11 hL0 rfl) (cE_68 Ω 0 _) hb dX10_walks_31 ?_
      refine R_if_eq (tgt := 38) dX10_walks_32 (by decide) (fun hc => ?_) (fun hc => ?_)
      · have h := hit_t h hc
        refine R_aload_n (i := 0) dX10_walks_38 rfl rfl ?_
        refine R_get foX10_58 hL0 (cE_10 Ω 0 _) rfl dX10_walks_39 ?_
        refine R_iload_n (i := 2) dX10_walks_42 rfl rfl ?_
        refine R_iconst (v := (-1)) dX10_walks_43 rfl ?_
        obtain ⟨hb, h⟩ := hit_bnd h
        refine R_iast (WF.kid hW 15 hL0 rfl) (cE_71 Ω 0) hb dX10_walks_44 ?_
        refine R_st h (fun σ5 h => ?_)
        refine R_aload_n (i := 0) dX10_walks_45 rfl rfl ?_
        refine R_get foX10_61 hL0 (cE_10 Ω 0 _) rfl dX10_walks_46 ?_
        refine R_iload_n (i := 2) dX10_walks_49 rfl rfl ?_
        refine R_iload_n (i := 1) dX10_walks_50 rfl rfl ?_
        obtain ⟨hb, h⟩ := hit_bnd h
        refine R_iast (WF.kid hW 16 hL0 rfl) (cE_72 Ω 0) hb dX10_walks_51 ?_
        refine R_st h (fun σ6 h => ?_)
        refine R_aload_n (i := 0) dX10_walks_52 rfl rfl ?_
        refine R_get foX10_64 hL0 (cE_10 Ω 0 _) rfl dX10_walks_53 ?_
        refine R_iload_n (i := 2) dX10_walks_56 rfl rfl ?_
        refine R_iconst (v := 0) dX10_walks_57 rfl ?_
        obtain ⟨hb, h⟩ := hit_bnd h
        refine R_iast (WF.kid hW 17 hL0 rfl) (cE_73 Ω 0) hb dX10_walks_58 ?_
        refine R_st h (fun σ7 h => ?_)
        refine R_aload_n (i := 0) dX10_walks_59 rfl rfl ?_
        refine R_iload_n (i := 2) dX10_walks_60 rfl rfl ?_
        refine R_callVv (ctX10_marks l Ω r3 hL0 _ _ (hit_mono (hit_bd h) (fun r8 σ9 h => ?_))) okX10_marks mw_1474 hL0 (cE_10 Ω 0 _) rfl rfl (Nat.le_of_ble_eq_true rfl) rfl rfl ⟨by decide, by decide⟩ ⟨Nat.zero_le _, Nat.zero_le _⟩ dX10_walks_61
        refine R_drop (lv2 := [some (rf Ω 10 0), some (.int x1), none]) 2 rfl ?_
        exact rnX10_walks_j64L6 hW x1 hL0 σ9 hC hE0 h
      · have h := hit_f h hc
        refine R_goto (tgt := 64) dX10_walks_35 (by decide) ?_
        refine R_drop (lv2 := [some (rf Ω 10 0), some (.int x1), none]) 2 rfl ?_
        exact rnX10_walks_j64L6 hW x1 hL0 σ4 hC hE0 h
set_option maxRecDepth 100000 in
set_option maxHeartbeats 4000000 in
theorem rlX10_walks_L6 {l : Launch} {Ω : rO} (hW : WF Ω) (hL0 : oL Ω 10 0) {K : Int32 → rS → Prop} {KE : Unit → rS → Prop} (hE0 : ∀ (e : Unit) (σ : rS), KE e σ → Run l Ω cX10_walks RX10 3 none rmX10_walks K 70 [some (rf Ω 10 0), none, none] [] σ) : ∀ (n : Nat) (x1 : Int32) (σ : rS), hit (lp (fun (x : Int32) σ => fX10_walks_L6 x σ) n x1 σ) KE → Run l Ω cX10_walks RX10 3 none rmX10_walks K 6 [some (rf Ω 10 0), some (.int x1), none] [] σ := by
  intro n
  induction n with
  | zero => intro x1 σ h; exact (h : False).elim
  | succ n ih =>
    intro x1 σ h
    exact rsX10_walks_L6 hW x1 hL0 σ (fun x1 σ h => ih x1 σ h) (fun e σ h => hE0 e σ h) (hit_lp h)
set_option maxRecDepth 100000 in
set_option maxHeartbeats 4000000 in
theorem ctX10_walks (l : Launch) (Ω : rO) (hL0 : oL Ω 10 0) (σ : rS) (K : Int32 → rS → Prop) (h : hit (fX10_walks  σ) K) : Ct l Ω yX10_walks cX10_walks 3 none rmX10_walks [rf Ω 10 0] σ K := by
  refine Ct.of (own := RX10) (lv := [some (rf Ω 10 0), none, none]) (by decide) rfl (Nat.le_of_ble_eq_true rfl) rfl (fun hW => ?_)
  unfold fX10_walks at h
  refine R_aload_n (i := 0) dX10_walks_0 rfl rfl ?_
  refine R_callVv (ctX10_begins l Ω hL0 _ _ (hit_mono (hit_bd h) (fun r1 σ2 h => ?_))) okX10_begins mw_1456 hL0 (cE_10 Ω 0 _) rfl rfl (Nat.le_of_ble_eq_true rfl) rfl rfl ⟨by decide, by decide⟩ ⟨Nat.zero_le _, Nat.zero_le _⟩ dX10_walks_1
  refine R_iconst (v := 0) dX10_walks_4 rfl ?_
  refine R_istore_n (lv2 := [some (rf Ω 10 0), some (.int 0), none]) dX10_walks_5 rfl (by decide) rfl rfl ?_
  refine rlX10_walks_L6 hW hL0 ?_ fu 0 σ2 (hit_bd h)
  · intro e11 σ10 h
    try dsimp only at h
    refine R_aload_n (i := 0) dX10_walks_70 rfl rfl ?_
    refine R_callVv (ctX10_walksOn l Ω hL0 _ _ (hit_mono (hit_bd h) (fun r12 σ13 h => ?_))) okX10_walksOn mw_1667 hL0 (cE_10 Ω 0 _) rfl rfl (Nat.le_of_ble_eq_true rfl) rfl rfl ⟨by decide, by decide⟩ ⟨Nat.zero_le _, Nat.zero_le _⟩ dX10_walks_71
    exact R_vret dX10_walks_74 rfl h
set_option maxRecDepth 100000 in
set_option maxHeartbeats 4000000 in
theorem rsX10_path_L74 {l : Launch} {Ω : rO} (hW : WF Ω) (x2 : Int32) (x4 : Int32) (hL0 : oL Ω 10 0) (σ : rS) {K : Int32 → rS → Prop} {K0 : (Int32 ⊕ Int32) → rS → Prop} (hC : ∀ (x4 : Int32) (σ : rS), K0 (.inl x4) σ → Run l Ω cX10_path RX10 5 (some .int) rmX10_path K 74 [some (rf Ω 10 0), none, some (.int x2), none, some (.int x4)] [] σ) (hE0 : ∀ (e : Int32) (σ : rS), K0 (.inr e) σ → Run l Ω cX10_path RX10 5 (some .int) rmX10_path K 97 [some (rf Ω 10 0), none, none, none, some (.int e)] [] σ) (h : hit (fX10_path_L74 x2 x4 σ) K0) : Run l Ω cX10_path RX10 5 (some .int) rmX10_path K 74 [some (rf Ω 10 0), none, some (.int x2), none, some (.int x4)] [] σ := by
  unfold fX10_path_L74 at h
  refine R_aload_n (i := 0) dX10_path_74 rfl rfl ?_
  refine R_get foX10_64 hL0 (cE_10 Ω 0 _) rfl dX10_path_75 ?_
  refine R_iload (i := 4) dX10_path_78 rfl ?_
  obtain ⟨hb, h⟩ := hit_bnd h
  refine R_iald (WF.kid hW 17 hL0 rfl) (cE_73 Ω 0 _) hb dX10_path_80 ?_
  refine R_iload_n (i := 2) dX10_path_81 rfl rfl ?_
  refine R_icmp_le (tgt := 97) dX10_path_82 (by decide) (fun hc => ?_) (fun hc => ?_)
  · have h := hit_f h hc
    refine R_drop (lv2 := [some (rf Ω 10 0), none, none, none, some (.int x4)]) 2 rfl ?_
    exact hE0 x4 σ h
  · have h := hit_t h hc
    refine R_aload_n (i := 0) dX10_path_85 rfl rfl ?_
    refine R_get foX10_58 hL0 (cE_10 Ω 0 _) rfl dX10_path_86 ?_
    refine R_iload (i := 4) dX10_path_89 rfl ?_
    obtain ⟨hb, h⟩ := hit_bnd h
    refine R_iald (WF.kid hW 15 hL0 rfl) (cE_71 Ω 0 _) hb dX10_path_91 ?_
    refine R_topi h (fun y4 h => ?_)
    refine R_istore (lv2 := [some (rf Ω 10 0), none, some (.int x2), none, some (.int y4)]) dX10_path_92 (by decide) rfl rfl ?_
    refine R_goto (tgt := 74) dX10_path_94 (by decide) ?_
    exact hC y4 σ h
set_option maxRecDepth 100000 in
set_option maxHeartbeats 4000000 in
theorem rlX10_path_L74 {l : Launch} {Ω : rO} (hW : WF Ω) (x2 : Int32) (hL0 : oL Ω 10 0) {K : Int32 → rS → Prop} {KE : Int32 → rS → Prop} (hE0 : ∀ (e : Int32) (σ : rS), KE e σ → Run l Ω cX10_path RX10 5 (some .int) rmX10_path K 97 [some (rf Ω 10 0), none, none, none, some (.int e)] [] σ) : ∀ (n : Nat) (x4 : Int32) (σ : rS), hit (lp (fun (x : Int32) σ => fX10_path_L74 x2 x σ) n x4 σ) KE → Run l Ω cX10_path RX10 5 (some .int) rmX10_path K 74 [some (rf Ω 10 0), none, some (.int x2), none, some (.int x4)] [] σ := by
  intro n
  induction n with
  | zero => intro x4 σ h; exact (h : False).elim
  | succ n ih =>
    intro x4 σ h
    exact rsX10_path_L74 hW x2 x4 hL0 σ (fun x4 σ h => ih x4 σ h) (fun e σ h => hE0 e σ h) (hit_lp h)
set_option maxRecDepth 100000 in
set_option maxHeartbeats 4000000 in
theorem rnX10_path_j21 {l : Launch} {Ω : rO} (hW : WF Ω) (x2 : Int32) (z0 : Int32) (hL0 : oL Ω 10 0) (σ : rS) {K : Int32 → rS → Prop}  (h : hit (fX10_path_j21 x2 z0 σ) K) : Run l Ω cX10_path RX10 5 (some .int) rmX10_path K 21 [some (rf Ω 10 0), none, some (.int x2), none, none] [.int z0] σ := by
  unfold fX10_path_j21 at h
  refine R_istore_n (lv2 := [some (rf Ω 10 0), none, some (.int x2), some (.int z0), none]) dX10_path_21 rfl (by decide) rfl rfl ?_
  refine R_iload_n (i := 3) dX10_path_22 rfl rfl ?_
  refine R_iconst (v := (-1)) dX10_path_23 rfl ?_
  refine R_icmp_ne (tgt := 29) dX10_path_24 (by decide) (fun hc => ?_) (fun hc => ?_)
  · have h := hit_f h hc
    refine R_aload_n (i := 0) dX10_path_29 rfl rfl ?_
    refine R_callVv (ctX10_walks l Ω hL0 _ _ (hit_mono (hit_bd h) (fun r2 σ3 h => ?_))) okX10_walks mw_1663 hL0 (cE_10 Ω 0 _) rfl rfl (Nat.le_of_ble_eq_true rfl) rfl rfl ⟨by decide, by decide⟩ ⟨Nat.zero_le _, Nat.zero_le _⟩ dX10_path_30
    refine R_aload_n (i := 0) dX10_path_33 rfl rfl ?_
    refine R_get foX10_45 hL0 (cE_10 Ω 0 _) rfl dX10_path_34 ?_
    refine R_iload_n (i := 3) dX10_path_37 rfl rfl ?_
    obtain ⟨hb, h⟩ := hit_bnd h
    refine R_zald (WF.kid hW 11 hL0 rfl) (cE_68 Ω 0 _) hb dX10_path_38 ?_
    refine R_if_eq (tgt := 57) dX10_path_39 (by decide) (fun hc => ?_) (fun hc => ?_)
    · have h := hit_t h hc
      refine R_iconst (v := (-1)) dX10_path_57 rfl ?_
      exact R_iret dX10_path_58 rfl h
    · have h := hit_f h hc
      refine R_iload_n (i := 2) dX10_path_42 rfl rfl ?_
      refine R_iconst (v := (-1)) dX10_path_43 rfl ?_
      refine R_icmp_lt (tgt := 57) dX10_path_44 (by decide) (fun hc => ?_) (fun hc => ?_)
      · have h := hit_t h hc
        refine R_iconst (v := (-1)) dX10_path_57 rfl ?_
        exact R_iret dX10_path_58 rfl h
      · have h := hit_f h hc
        refine R_iload_n (i := 2) dX10_path_47 rfl rfl ?_
        refine R_aload_n (i := 0) dX10_path_48 rfl rfl ?_
        refine R_get foX10_64 hL0 (cE_10 Ω 0 _) rfl dX10_path_49 ?_
        refine R_iload_n (i := 3) dX10_path_52 rfl rfl ?_
        obtain ⟨hb, h⟩ := hit_bnd h
        refine R_iald (WF.kid hW 17 hL0 rfl) (cE_73 Ω 0 _) hb dX10_path_53 ?_
        refine R_icmp_le (tgt := 59) dX10_path_54 (by decide) (fun hc => ?_) (fun hc => ?_)
        · have h := hit_f h hc
          refine R_iload_n (i := 2) dX10_path_59 rfl rfl ?_
          refine R_iconst (v := (-1)) dX10_path_60 rfl ?_
          refine R_icmp_ne (tgt := 71) dX10_path_61 (by decide) (fun hc => ?_) (fun hc => ?_)
          · have h := hit_f h hc
            refine R_iload_n (i := 3) dX10_path_71 rfl rfl ?_
            refine R_istore (lv2 := [some (rf Ω 10 0), none, some (.int x2), some (.int z0), some (.int z0)]) dX10_path_72 (by decide) rfl rfl ?_
            refine R_drop (lv2 := [some (rf Ω 10 0), none, some (.int x2), none, some (.int z0)]) 3 rfl ?_
            refine rlX10_path_L74 hW x2 hL0 ?_ fu z0 σ3 (hit_bd h)
            · intro e6 σ5 h
              try dsimp only at h
              refine R_aload_n (i := 0) dX10_path_97 rfl rfl ?_
              refine R_get foX10_61 hL0 (cE_10 Ω 0 _) rfl dX10_path_98 ?_
              refine R_iload (i := 4) dX10_path_101 rfl ?_
              obtain ⟨hb, h⟩ := hit_bnd h
              refine R_iald (WF.kid hW 16 hL0 rfl) (cE_72 Ω 0 _) hb dX10_path_103 ?_
              exact R_iret dX10_path_104 rfl h
          · have h := hit_t h hc
            refine R_aload_n (i := 0) dX10_path_64 rfl rfl ?_
            refine R_get foX10_64 hL0 (cE_10 Ω 0 _) rfl dX10_path_65 ?_
            refine R_iload_n (i := 3) dX10_path_68 rfl rfl ?_
            obtain ⟨hb, h⟩ := hit_bnd h
            refine R_iald (WF.kid hW 17 hL0 rfl) (cE_73 Ω 0 _) hb dX10_path_69 ?_
            exact R_iret dX10_path_70 rfl h
        · have h := hit_t h hc
          refine R_iconst (v := (-1)) dX10_path_57 rfl ?_
          exact R_iret dX10_path_58 rfl h
  · have h := hit_t h hc
    refine R_iconst (v := (-1)) dX10_path_27 rfl ?_
    exact R_iret dX10_path_28 rfl h
set_option maxRecDepth 100000 in
set_option maxHeartbeats 4000000 in
theorem ctX10_path (l : Launch) (Ω : rO) (x1 : Int32) (x2 : Int32) (hL0 : oL Ω 10 0) (σ : rS) (K : Int32 → rS → Prop) (h : hit (fX10_path x1 x2 σ) K) : Ct l Ω yX10_path cX10_path 5 (some .int) rmX10_path [rf Ω 10 0, .int x1, .int x2] σ K := by
  refine Ct.of (own := RX10) (lv := [some (rf Ω 10 0), some (.int x1), some (.int x2), none, none]) (by decide) rfl (Nat.le_of_ble_eq_true rfl) rfl (fun hW => ?_)
  unfold fX10_path at h
  refine R_aload_n (i := 0) dX10_path_0 rfl rfl ?_
  refine R_iconst (v := 0) dX10_path_1 rfl ?_
  refine R_put poX10_73 hL0 (cE_10 Ω 0 _) (cP_10_0 Ω 0 _ _) (Nat.le_of_ble_eq_true rfl) dX10_path_2 ?_
  refine R_st h (fun σ1 h => ?_)
  refine R_iload_n (i := 1) dX10_path_5 rfl rfl ?_
  refine R_if_le (tgt := 20) dX10_path_6 (by decide) (fun hc => ?_) (fun hc => ?_)
  · have h := hit_f h hc
    refine R_iconst (v := (-1)) dX10_path_20 rfl ?_
    refine R_drop (lv2 := [some (rf Ω 10 0), none, some (.int x2), none, none]) 1 rfl ?_
    exact rnX10_path_j21 hW x2 (-1) hL0 σ1  h
  · have h := hit_t h hc
    refine R_aload_n (i := 0) dX10_path_9 rfl rfl ?_
    refine R_get foX10_29 hL0 (cE_10 Ω 0 _) rfl dX10_path_10 ?_
    refine R_iload_n (i := 1) dX10_path_13 rfl rfl ?_
    refine R_callSi (ctX10_spotOf_ l Ω 0 x1 (WF.kid hW 6 hL0 rfl) _ _ (hit_mono (hit_bd h) (fun r7 σ8 h => ?_))) okX10_spotOf_ mw_1432 rfl rfl (Nat.le_of_ble_eq_true rfl) rfl rfl ⟨by decide, by decide⟩ ⟨Nat.zero_le _, Nat.zero_le _⟩ dX10_path_14
    refine R_goto (tgt := 21) dX10_path_17 (by decide) ?_
    refine R_drop (lv2 := [some (rf Ω 10 0), none, some (.int x2), none, none]) 1 rfl ?_
    exact rnX10_path_j21 hW x2 r7 hL0 σ8  h
set_option maxRecDepth 100000 in
set_option maxHeartbeats 4000000 in
theorem rsX10_metCells_L4 {l : Launch} {Ω : rO} (hW : WF Ω) (x1 : Int32) (x2 : Int32) (hL0 : oL Ω 10 0) (σ : rS) {K : Int32 → rS → Prop} {K0 : ((Int32 × Int32) ⊕ Int32) → rS → Prop} (hC : ∀ (x1 : Int32) (x2 : Int32) (σ : rS), K0 (.inl (x1, x2)) σ → Run l Ω cX10_metCells RX10 3 (some .int) rmX10_metCells K 4 [some (rf Ω 10 0), some (.int x1), some (.int x2)] [] σ) (hE0 : ∀ (e : Int32) (σ : rS), K0 (.inr e) σ → Run l Ω cX10_metCells RX10 3 (some .int) rmX10_metCells K 34 [none, some (.int e), none] [] σ) (h : hit (fX10_metCells_L4 x1 x2 σ) K0) : Run l Ω cX10_metCells RX10 3 (some .int) rmX10_metCells K 4 [some (rf Ω 10 0), some (.int x1), some (.int x2)] [] σ := by
  unfold fX10_metCells_L4 at h
  refine R_iload_n (i := 2) dX10_metCells_4 rfl rfl ?_
  refine R_aload_n (i := 0) dX10_metCells_5 rfl rfl ?_
  refine R_get foX10_195 hL0 (cE_10 Ω 0 _) rfl dX10_metCells_6 ?_
  refine R_icmp_ge (tgt := 34) dX10_metCells_9 (by decide) (fun hc => ?_) (fun hc => ?_)
  · have h := hit_f h hc
    refine R_drop (lv2 := [none, some (.int x1), some (.int x2)]) 0 rfl ?_
    refine R_drop (lv2 := [none, some (.int x1), none]) 2 rfl ?_
    exact hE0 x1 σ h
  · have h := hit_t h hc
    refine R_iload_n (i := 1) dX10_metCells_12 rfl rfl ?_
    refine R_aload_n (i := 0) dX10_metCells_13 rfl rfl ?_
    refine R_get foX10_29 hL0 (cE_10 Ω 0 _) rfl dX10_metCells_14 ?_
    refine R_aload_n (i := 0) dX10_metCells_17 rfl rfl ?_
    refine R_get foX10_49 hL0 (cE_10 Ω 0 _) rfl dX10_metCells_18 ?_
    refine R_iload_n (i := 2) dX10_metCells_21 rfl rfl ?_
    obtain ⟨hb, h⟩ := hit_bnd h
    refine R_iald (WF.kid hW 12 hL0 rfl) (cE_69 Ω 0 _) hb dX10_metCells_22 ?_
    refine R_callSi (ctX10_sizeOf l Ω 0 (σ 69 0 (ix x2)) (WF.kid hW 6 hL0 rfl) _ _ (hit_mono (hit_bd h) (fun r1 σ2 h => ?_))) okX10_sizeOf mw_1449 rfl rfl (Nat.le_of_ble_eq_true rfl) rfl rfl ⟨by decide, by decide⟩ ⟨Nat.zero_le _, Nat.zero_le _⟩ dX10_metCells_23
    refine R_iadd dX10_metCells_26 ?_
    refine R_topi h (fun y3 h => ?_)
    refine R_istore_n (lv2 := [some (rf Ω 10 0), some (.int y3), some (.int x2)]) dX10_metCells_27 rfl (by decide) rfl rfl ?_
    refine R_iinc (v := x2 + 1) (lv2 := [some (rf Ω 10 0), some (.int y3), some (.int (x2 + 1))]) dX10_metCells_28 rfl rfl (by decide) rfl rfl ?_
    refine R_goto (tgt := 4) dX10_metCells_31 (by decide) ?_
    exact hC y3 (x2 + 1) σ2 h
set_option maxRecDepth 100000 in
set_option maxHeartbeats 4000000 in
theorem rlX10_metCells_L4 {l : Launch} {Ω : rO} (hW : WF Ω) (hL0 : oL Ω 10 0) {K : Int32 → rS → Prop} {KE : Int32 → rS → Prop} (hE0 : ∀ (e : Int32) (σ : rS), KE e σ → Run l Ω cX10_metCells RX10 3 (some .int) rmX10_metCells K 34 [none, some (.int e), none] [] σ) : ∀ (n : Nat) (x1 : Int32) (x2 : Int32) (σ : rS), hit (lp (fun (x : (Int32 × Int32)) σ => fX10_metCells_L4 x.1 x.2 σ) n (x1, x2) σ) KE → Run l Ω cX10_metCells RX10 3 (some .int) rmX10_metCells K 4 [some (rf Ω 10 0), some (.int x1), some (.int x2)] [] σ := by
  intro n
  induction n with
  | zero => intro x1 x2 σ h; exact (h : False).elim
  | succ n ih =>
    intro x1 x2 σ h
    exact rsX10_metCells_L4 hW x1 x2 hL0 σ (fun x1 x2 σ h => ih x1 x2 σ h) (fun e σ h => hE0 e σ h) (hit_lp h)
set_option maxRecDepth 100000 in
set_option maxHeartbeats 4000000 in
theorem ctX10_metCells (l : Launch) (Ω : rO) (hL0 : oL Ω 10 0) (σ : rS) (K : Int32 → rS → Prop) (h : hit (fX10_metCells  σ) K) : Ct l Ω yX10_metCells cX10_metCells 3 (some .int) rmX10_metCells [rf Ω 10 0] σ K := by
  refine Ct.of (own := RX10) (lv := [some (rf Ω 10 0), none, none]) (by decide) rfl (Nat.le_of_ble_eq_true rfl) rfl (fun hW => ?_)
  unfold fX10_metCells at h
  refine R_iconst (v := 0) dX10_metCells_0 rfl ?_
  refine R_istore_n (lv2 := [some (rf Ω 10 0), some (.int 0), none]) dX10_metCells_1 rfl (by decide) rfl rfl ?_
  refine R_iconst (v := 0) dX10_metCells_2 rfl ?_
  refine R_istore_n (lv2 := [some (rf Ω 10 0), some (.int 0), some (.int 0)]) dX10_metCells_3 rfl (by decide) rfl rfl ?_
  refine rlX10_metCells_L4 hW hL0 ?_ fu 0 0 σ (hit_bd h)
  · intro e5 σ4 h
    try dsimp only at h
    refine R_iload_n (i := 1) dX10_metCells_34 rfl rfl ?_
    exact R_iret dX10_metCells_35 rfl h
set_option maxRecDepth 100000 in
set_option maxHeartbeats 4000000 in
theorem ctX10_alone (l : Launch) (Ω : rO) (x1 : Int32) (x2 : Int32) (hL0 : oL Ω 10 0) (σ : rS) (K : Int32 → rS → Prop) (h : hit (fX10_alone x1 x2 σ) K) : Ct l Ω yX10_alone cX10_alone 5 (some .int) rmX10_alone [rf Ω 10 0, .int x1, .int x2] σ K := by
  refine Ct.of (own := RX10) (lv := [some (rf Ω 10 0), some (.int x1), some (.int x2), none, none]) (by decide) rfl (Nat.le_of_ble_eq_true rfl) rfl (fun hW => ?_)
  unfold fX10_alone at h
  refine R_aload_n (i := 0) dX10_alone_0 rfl rfl ?_
  refine R_iconst (v := 0) dX10_alone_1 rfl ?_
  refine R_put poX10_73 hL0 (cE_10 Ω 0 _) (cP_10_0 Ω 0 _ _) (Nat.le_of_ble_eq_true rfl) dX10_alone_2 ?_
  refine R_st h (fun σ1 h => ?_)
  refine R_aload_n (i := 0) dX10_alone_5 rfl rfl ?_
  refine R_iload_n (i := 1) dX10_alone_6 rfl rfl ?_
  refine R_callVi (ctX10_isRoot l Ω x1 hL0 _ _ (hit_mono (hit_bd h) (fun r2 σ3 h => ?_))) okX10_isRoot mw_1417 hL0 (cE_10 Ω 0 _) rfl rfl (Nat.le_of_ble_eq_true rfl) rfl rfl ⟨by decide, by decide⟩ ⟨Nat.zero_le _, Nat.zero_le _⟩ dX10_alone_7
  refine R_if_eq (tgt := 36) dX10_alone_10 (by decide) (fun hc => ?_) (fun hc => ?_)
  · have h := hit_t h hc
    refine R_iconst (v := (-1)) dX10_alone_36 rfl ?_
    exact R_iret dX10_alone_37 rfl h
  · have h := hit_f h hc
    refine R_aload_n (i := 0) dX10_alone_13 rfl rfl ?_
    refine R_get foX10_29 hL0 (cE_10 Ω 0 _) rfl dX10_alone_14 ?_
    refine R_sipush (v := 881) dX10_alone_17 rfl ?_
    refine R_iload_n (i := 1) dX10_alone_20 rfl rfl ?_
    refine R_iadd dX10_alone_21 ?_
    obtain ⟨hb, h⟩ := hit_bnd h
    refine R_iald (WF.kid hW 6 hL0 rfl) (cE_66 Ω 0 _) hb dX10_alone_22 ?_
    refine R_if_eq (tgt := 36) dX10_alone_23 (by decide) (fun hc => ?_) (fun hc => ?_)
    · have h := hit_t h hc
      refine R_iconst (v := (-1)) dX10_alone_36 rfl ?_
      exact R_iret dX10_alone_37 rfl h
    · have h := hit_f h hc
      refine R_iload_n (i := 2) dX10_alone_26 rfl rfl ?_
      refine R_i2l dX10_alone_27 ?_
      refine R_lconst (v := 0) dX10_alone_28 rfl ?_
      refine R_lconst (v := 1) dX10_alone_29 rfl ?_
      refine R_callSi (ctX10_isIn l Ω x2.toInt64 0 1 _ _ (hit_mono (hit_bd h) (fun r4 σ5 h => ?_))) okX10_isIn mw_1315 rfl rfl (Nat.le_of_ble_eq_true rfl) rfl rfl ⟨by decide, by decide⟩ ⟨Nat.zero_le _, Nat.zero_le _⟩ dX10_alone_30
      refine R_if_ne (tgt := 38) dX10_alone_33 (by decide) (fun hc => ?_) (fun hc => ?_)
      · have h := hit_f h hc
        refine R_aload_n (i := 0) dX10_alone_38 rfl rfl ?_
        refine R_aload_n (i := 0) dX10_alone_39 rfl rfl ?_
        refine R_get foX10_29 hL0 (cE_10 Ω 0 _) rfl dX10_alone_40 ?_
        refine R_iconst (v := (-1)) dX10_alone_43 rfl ?_
        refine R_iconst (v := 1) dX10_alone_44 rfl ?_
        refine R_callVv (ctX10_reaches l Ω 0 (-1) 1 hL0 (WF.kid hW 6 hL0 rfl) _ _ (hit_mono (hit_bd h) (fun r6 σ7 h => ?_))) okX10_reaches mw_1523 hL0 (cE_10 Ω 0 _) rfl rfl (Nat.le_of_ble_eq_true rfl) rfl rfl ⟨by decide, by decide⟩ ⟨Nat.zero_le _, Nat.zero_le _⟩ dX10_alone_45
        refine R_aload_n (i := 0) dX10_alone_48 rfl rfl ?_
        refine R_get foX10_195 hL0 (cE_10 Ω 0 _) rfl dX10_alone_49 ?_
        refine R_topi h (fun y8 h => ?_)
        refine R_istore_n (lv2 := [some (rf Ω 10 0), some (.int x1), some (.int x2), some (.int y8), none]) dX10_alone_52 rfl (by decide) rfl rfl ?_
        refine R_aload_n (i := 0) dX10_alone_53 rfl rfl ?_
        refine R_callVi (ctX10_metCells l Ω hL0 _ _ (hit_mono (hit_bd h) (fun r9 σ10 h => ?_))) okX10_metCells mw_1675 hL0 (cE_10 Ω 0 _) rfl rfl (Nat.le_of_ble_eq_true rfl) rfl rfl ⟨by decide, by decide⟩ ⟨Nat.zero_le _, Nat.zero_le _⟩ dX10_alone_54
        refine R_istore (lv2 := [some (rf Ω 10 0), some (.int x1), some (.int x2), some (.int y8), some (.int r9)]) dX10_alone_57 (by decide) rfl rfl ?_
        refine R_aload_n (i := 0) dX10_alone_59 rfl rfl ?_
        refine R_aload_n (i := 0) dX10_alone_60 rfl rfl ?_
        refine R_get foX10_29 hL0 (cE_10 Ω 0 _) rfl dX10_alone_61 ?_
        refine R_iload_n (i := 1) dX10_alone_64 rfl rfl ?_
        refine R_iconst (v := 1) dX10_alone_65 rfl ?_
        refine R_callVv (ctX10_reaches l Ω 0 x1 1 hL0 (WF.kid hW 6 hL0 rfl) _ _ (hit_mono (hit_bd h) (fun r11 σ12 h => ?_))) okX10_reaches mw_1523 hL0 (cE_10 Ω 0 _) rfl rfl (Nat.le_of_ble_eq_true rfl) rfl rfl ⟨by decide, by decide⟩ ⟨Nat.zero_le _, Nat.zero_le _⟩ dX10_alone_66
        refine R_iload_n (i := 2) dX10_alone_69 rfl rfl ?_
        refine R_if_ne (tgt := 82) dX10_alone_70 (by decide) (fun hc => ?_) (fun hc => ?_)
        · have h := hit_f h hc
          refine R_iload (i := 4) dX10_alone_82 rfl ?_
          refine R_aload_n (i := 0) dX10_alone_84 rfl rfl ?_
          refine R_callVi (ctX10_metCells l Ω hL0 _ _ (hit_mono (hit_bd h) (fun r13 σ14 h => ?_))) okX10_metCells mw_1675 hL0 (cE_10 Ω 0 _) rfl rfl (Nat.le_of_ble_eq_true rfl) rfl rfl ⟨by decide, by decide⟩ ⟨Nat.zero_le _, Nat.zero_le _⟩ dX10_alone_85
          refine R_isub dX10_alone_88 ?_
          exact R_iret dX10_alone_89 rfl h
        · have h := hit_t h hc
          refine R_iload_n (i := 3) dX10_alone_73 rfl rfl ?_
          refine R_aload_n (i := 0) dX10_alone_74 rfl rfl ?_
          refine R_get foX10_195 hL0 (cE_10 Ω 0 _) rfl dX10_alone_75 ?_
          refine R_isub dX10_alone_78 ?_
          refine R_goto (tgt := 89) dX10_alone_79 (by decide) ?_
          exact R_iret dX10_alone_89 rfl h
      · have h := hit_t h hc
        refine R_iconst (v := (-1)) dX10_alone_36 rfl ?_
        exact R_iret dX10_alone_37 rfl h
set_option maxRecDepth 100000 in
set_option maxHeartbeats 4000000 in
theorem rnX10_holders_j64L38 {l : Launch} {Ω : rO} (hW : WF Ω) (x1 : Int32) (x3 : Int32) (z0 : Int32) (z1 : Int32) (hL0 : oL Ω 10 0) (σ : rS) {K : Int32 → rS → Prop} {K0 : ((Int32 × Int32) ⊕ Int32) → rS → Prop} (hC : ∀ (x2 : Int32) (x3 : Int32) (σ : rS), K0 (.inl (x2, x3)) σ → Run l Ω cX10_holders RX10 5 (some .int) rmX10_holders K 38 [some (rf Ω 10 0), some (.int x1), some (.int x2), some (.int x3), none] [] σ) (hE0 : ∀ (e : Int32) (σ : rS), K0 (.inr e) σ → Run l Ω cX10_holders RX10 5 (some .int) rmX10_holders K 72 [some (rf Ω 10 0), some (.int x1), some (.int e), none, none] [] σ) (h : hit (fX10_holders_j64L38 x1 x3 z0 z1 σ) K0) : Run l Ω cX10_holders RX10 5 (some .int) rmX10_holders K 64 [some (rf Ω 10 0), some (.int x1), none, some (.int x3), none] [.int z0, .int z1] σ := by
  unfold fX10_holders_j64L38 at h
  refine R_iadd dX10_holders_64 ?_
  refine R_topi h (fun y6 h => ?_)
  refine R_istore_n (lv2 := [some (rf Ω 10 0), some (.int x1), some (.int y6), some (.int x3), none]) dX10_holders_65 rfl (by decide) rfl rfl ?_
  refine R_iinc (v := x3 + 1) (lv2 := [some (rf Ω 10 0), some (.int x1), some (.int y6), some (.int (x3 + 1)), none]) dX10_holders_66 rfl rfl (by decide) rfl rfl ?_
  refine R_goto (tgt := 38) dX10_holders_69 (by decide) ?_
  exact hC y6 (x3 + 1) σ h
set_option maxRecDepth 100000 in
set_option maxHeartbeats 4000000 in
theorem rsX10_holders_L38 {l : Launch} {Ω : rO} (hW : WF Ω) (x1 : Int32) (x2 : Int32) (x3 : Int32) (hL0 : oL Ω 10 0) (σ : rS) {K : Int32 → rS → Prop} {K0 : ((Int32 × Int32) ⊕ Int32) → rS → Prop} (hC : ∀ (x2 : Int32) (x3 : Int32) (σ : rS), K0 (.inl (x2, x3)) σ → Run l Ω cX10_holders RX10 5 (some .int) rmX10_holders K 38 [some (rf Ω 10 0), some (.int x1), some (.int x2), some (.int x3), none] [] σ) (hE0 : ∀ (e : Int32) (σ : rS), K0 (.inr e) σ → Run l Ω cX10_holders RX10 5 (some .int) rmX10_holders K 72 [some (rf Ω 10 0), some (.int x1), some (.int e), none, none] [] σ) (h : hit (fX10_holders_L38 x1 x2 x3 σ) K0) : Run l Ω cX10_holders RX10 5 (some .int) rmX10_holders K 38 [some (rf Ω 10 0), some (.int x1), some (.int x2), some (.int x3), none] [] σ := by
  unfold fX10_holders_L38 at h
  refine R_iload_n (i := 3) dX10_holders_38 rfl rfl ?_
  refine R_bipush (v := 8) dX10_holders_39 rfl ?_
  refine R_icmp_ge (tgt := 72) dX10_holders_41 (by decide) (fun hc => ?_) (fun hc => ?_)
  · have h := hit_f h hc
    refine R_drop (lv2 := [some (rf Ω 10 0), some (.int x1), some (.int x2), none, none]) 3 rfl ?_
    exact hE0 x2 σ h
  · have h := hit_t h hc
    refine R_iload_n (i := 2) dX10_holders_44 rfl rfl ?_
    refine R_aload_n (i := 0) dX10_holders_45 rfl rfl ?_
    refine R_get foX10_29 hL0 (cE_10 Ω 0 _) rfl dX10_holders_46 ?_
    refine R_sipush (v := 881) dX10_holders_49 rfl ?_
    refine R_iload_n (i := 3) dX10_holders_52 rfl rfl ?_
    refine R_iadd dX10_holders_53 ?_
    obtain ⟨hb, h⟩ := hit_bnd h
    refine R_iald (WF.kid hW 6 hL0 rfl) (cE_66 Ω 0 _) hb dX10_holders_54 ?_
    refine R_iload_n (i := 1) dX10_holders_55 rfl rfl ?_
    refine R_icmp_ne (tgt := 63) dX10_holders_56 (by decide) (fun hc => ?_) (fun hc => ?_)
    · have h := hit_f h hc
      refine R_iconst (v := 0) dX10_holders_63 rfl ?_
      refine R_drop (lv2 := [some (rf Ω 10 0), some (.int x1), none, some (.int x3), none]) 2 rfl ?_
      exact rnX10_holders_j64L38 hW x1 x3 0 x2 hL0 σ hC hE0 h
    · have h := hit_t h hc
      refine R_iconst (v := 1) dX10_holders_59 rfl ?_
      refine R_goto (tgt := 64) dX10_holders_60 (by decide) ?_
      refine R_drop (lv2 := [some (rf Ω 10 0), some (.int x1), none, some (.int x3), none]) 2 rfl ?_
      exact rnX10_holders_j64L38 hW x1 x3 1 x2 hL0 σ hC hE0 h
set_option maxRecDepth 100000 in
set_option maxHeartbeats 4000000 in
theorem rlX10_holders_L38 {l : Launch} {Ω : rO} (hW : WF Ω) (x1 : Int32) (hL0 : oL Ω 10 0) {K : Int32 → rS → Prop} {KE : Int32 → rS → Prop} (hE0 : ∀ (e : Int32) (σ : rS), KE e σ → Run l Ω cX10_holders RX10 5 (some .int) rmX10_holders K 72 [some (rf Ω 10 0), some (.int x1), some (.int e), none, none] [] σ) : ∀ (n : Nat) (x2 : Int32) (x3 : Int32) (σ : rS), hit (lp (fun (x : (Int32 × Int32)) σ => fX10_holders_L38 x1 x.1 x.2 σ) n (x2, x3) σ) KE → Run l Ω cX10_holders RX10 5 (some .int) rmX10_holders K 38 [some (rf Ω 10 0), some (.int x1), some (.int x2), some (.int x3), none] [] σ := by
  intro n
  induction n with
  | zero => intro x2 x3 σ h; exact (h : False).elim
  | succ n ih =>
    intro x2 x3 σ h
    exact rsX10_holders_L38 hW x1 x2 x3 hL0 σ (fun x2 x3 σ h => ih x2 x3 σ h) (fun e σ h => hE0 e σ h) (hit_lp h)
set_option maxRecDepth 100000 in
set_option maxHeartbeats 4000000 in
theorem rnX10_holders_j150L85 {l : Launch} {Ω : rO} (hW : WF Ω) (x1 : Int32) (x3 : Int32) (x4 : Int32) (z0 : Int32) (z1 : Int32) (hL0 : oL Ω 10 0) (σ : rS) {K : Int32 → rS → Prop} {K0 : ((Int32 × Int32) ⊕ Int32) → rS → Prop} (hC : ∀ (x2 : Int32) (x4 : Int32) (σ : rS), K0 (.inl (x2, x4)) σ → Run l Ω cX10_holders RX10 5 (some .int) rmX10_holders K 85 [some (rf Ω 10 0), some (.int x1), some (.int x2), some (.int x3), some (.int x4)] [] σ) (hE0 : ∀ (e : Int32) (σ : rS), K0 (.inr e) σ → Run l Ω cX10_holders RX10 5 (some .int) rmX10_holders K 158 [some (rf Ω 10 0), some (.int x1), some (.int e), some (.int x3), none] [] σ) (h : hit (fX10_holders_j150L85 x1 x3 x4 z0 z1 σ) K0) : Run l Ω cX10_holders RX10 5 (some .int) rmX10_holders K 150 [some (rf Ω 10 0), some (.int x1), none, some (.int x3), some (.int x4)] [.int z0, .int z1] σ := by
  unfold fX10_holders_j150L85 at h
  refine R_iadd dX10_holders_150 ?_
  refine R_topi h (fun y13 h => ?_)
  refine R_istore_n (lv2 := [some (rf Ω 10 0), some (.int x1), some (.int y13), some (.int x3), some (.int x4)]) dX10_holders_151 rfl (by decide) rfl rfl ?_
  refine R_iinc (v := x4 + 1) (lv2 := [some (rf Ω 10 0), some (.int x1), some (.int y13), some (.int x3), some (.int (x4 + 1))]) dX10_holders_152 rfl rfl (by decide) rfl rfl ?_
  refine R_goto (tgt := 85) dX10_holders_155 (by decide) ?_
  exact hC y13 (x4 + 1) σ h
set_option maxRecDepth 100000 in
set_option maxHeartbeats 4000000 in
theorem rnX10_holders_j149L85 {l : Launch} {Ω : rO} (hW : WF Ω) (x1 : Int32) (x3 : Int32) (x4 : Int32) (z0 : Int32) (hL0 : oL Ω 10 0) (σ : rS) {K : Int32 → rS → Prop} {K0 : ((Int32 × Int32) ⊕ Int32) → rS → Prop} (hC : ∀ (x2 : Int32) (x4 : Int32) (σ : rS), K0 (.inl (x2, x4)) σ → Run l Ω cX10_holders RX10 5 (some .int) rmX10_holders K 85 [some (rf Ω 10 0), some (.int x1), some (.int x2), some (.int x3), some (.int x4)] [] σ) (hE0 : ∀ (e : Int32) (σ : rS), K0 (.inr e) σ → Run l Ω cX10_holders RX10 5 (some .int) rmX10_holders K 158 [some (rf Ω 10 0), some (.int x1), some (.int e), some (.int x3), none] [] σ) (h : hit (fX10_holders_j149L85 x1 x3 x4 z0 σ) K0) : Run l Ω cX10_holders RX10 5 (some .int) rmX10_holders K 149 [some (rf Ω 10 0), some (.int x1), none, some (.int x3), some (.int x4)] [.int z0] σ := by
  unfold fX10_holders_j149L85 at h
  refine R_iconst (v := 0) dX10_holders_149 rfl ?_
  exact rnX10_holders_j150L85 hW x1 x3 x4 0 z0 hL0 σ hC hE0 h
set_option maxRecDepth 100000 in
set_option maxHeartbeats 4000000 in
theorem rsX10_holders_L85 {l : Launch} {Ω : rO} (hW : WF Ω) (x1 : Int32) (x3 : Int32) (x2 : Int32) (x4 : Int32) (hL0 : oL Ω 10 0) (σ : rS) {K : Int32 → rS → Prop} {K0 : ((Int32 × Int32) ⊕ Int32) → rS → Prop} (hC : ∀ (x2 : Int32) (x4 : Int32) (σ : rS), K0 (.inl (x2, x4)) σ → Run l Ω cX10_holders RX10 5 (some .int) rmX10_holders K 85 [some (rf Ω 10 0), some (.int x1), some (.int x2), some (.int x3), some (.int x4)] [] σ) (hE0 : ∀ (e : Int32) (σ : rS), K0 (.inr e) σ → Run l Ω cX10_holders RX10 5 (some .int) rmX10_holders K 158 [some (rf Ω 10 0), some (.int x1), some (.int e), some (.int x3), none] [] σ) (h : hit (fX10_holders_L85 x1 x3 x2 x4 σ) K0) : Run l Ω cX10_holders RX10 5 (some .int) rmX10_holders K 85 [some (rf Ω 10 0), some (.int x1), some (.int x2), some (.int x3), some (.int x4)] [] σ := by
  unfold fX10_holders_L85 at h
  refine R_iload (i := 4) dX10_holders_85 rfl ?_
  refine R_aload_n (i := 0) dX10_holders_87 rfl rfl ?_
  refine R_get foX10_29 hL0 (cE_10 Ω 0 _) rfl dX10_holders_88 ?_
  refine R_aload_n (i := 0) dX10_holders_91 rfl rfl ?_
  refine R_get foX10_49 hL0 (cE_10 Ω 0 _) rfl dX10_holders_92 ?_
  refine R_iload_n (i := 3) dX10_holders_95 rfl rfl ?_
  obtain ⟨hb, h⟩ := hit_bnd h
  refine R_iald (WF.kid hW 12 hL0 rfl) (cE_69 Ω 0 _) hb dX10_holders_96 ?_
  refine R_iconst (v := 2) dX10_holders_97 rfl ?_
  refine R_callSi (ctX10_of l Ω 0 (σ 69 0 (ix x3)) 2 (WF.kid hW 6 hL0 rfl) _ _ (hit_mono (hit_bd h) (fun r9 σ10 h => ?_))) okX10_of mw_1435 rfl rfl (Nat.le_of_ble_eq_true rfl) rfl rfl ⟨by decide, by decide⟩ ⟨Nat.zero_le _, Nat.zero_le _⟩ dX10_holders_98
  refine R_icmp_ge (tgt := 158) dX10_holders_101 (by decide) (fun hc => ?_) (fun hc => ?_)
  · have h := hit_f h hc
    refine R_drop (lv2 := [some (rf Ω 10 0), some (.int x1), some (.int x2), some (.int x3), none]) 4 rfl ?_
    exact hE0 x2 σ10 h
  · have h := hit_t h hc
    refine R_iload_n (i := 2) dX10_holders_104 rfl rfl ?_
    refine R_aload_n (i := 0) dX10_holders_105 rfl rfl ?_
    refine R_get foX10_29 hL0 (cE_10 Ω 0 _) rfl dX10_holders_106 ?_
    refine R_aload_n (i := 0) dX10_holders_109 rfl rfl ?_
    refine R_get foX10_49 hL0 (cE_10 Ω 0 _) rfl dX10_holders_110 ?_
    refine R_iload_n (i := 3) dX10_holders_113 rfl rfl ?_
    obtain ⟨hb, h⟩ := hit_bnd h
    refine R_iald (WF.kid hW 12 hL0 rfl) (cE_69 Ω 0 _) hb dX10_holders_114 ?_
    refine R_iload (i := 4) dX10_holders_115 rfl ?_
    refine R_callSi (ctX10_isWeak l Ω 0 (σ10 69 0 (ix x3)) x4 (WF.kid hW 6 hL0 rfl) _ _ (hit_mono (hit_bd h) (fun r11 σ12 h => ?_))) okX10_isWeak mw_1478 rfl rfl (Nat.le_of_ble_eq_true rfl) rfl rfl ⟨by decide, by decide⟩ ⟨Nat.zero_le _, Nat.zero_le _⟩ dX10_holders_117
    refine R_if_ne (tgt := 149) dX10_holders_120 (by decide) (fun hc => ?_) (fun hc => ?_)
    · have h := hit_f h hc
      refine R_drop (lv2 := [some (rf Ω 10 0), some (.int x1), none, some (.int x3), some (.int x4)]) 2 rfl ?_
      exact rnX10_holders_j149L85 hW x1 x3 x4 x2 hL0 σ12 hC hE0 h
    · have h := hit_t h hc
      refine R_aload_n (i := 0) dX10_holders_123 rfl rfl ?_
      refine R_get foX10_29 hL0 (cE_10 Ω 0 _) rfl dX10_holders_124 ?_
      refine R_aload_n (i := 0) dX10_holders_127 rfl rfl ?_
      refine R_get foX10_49 hL0 (cE_10 Ω 0 _) rfl dX10_holders_128 ?_
      refine R_iload_n (i := 3) dX10_holders_131 rfl rfl ?_
      obtain ⟨hb, h⟩ := hit_bnd h
      refine R_iald (WF.kid hW 12 hL0 rfl) (cE_69 Ω 0 _) hb dX10_holders_132 ?_
      refine R_bipush (v := 7) dX10_holders_133 rfl ?_
      refine R_iload (i := 4) dX10_holders_135 rfl ?_
      refine R_iadd dX10_holders_137 ?_
      refine R_callSi (ctX10_of l Ω 0 (σ12 69 0 (ix x3)) (7 + x4) (WF.kid hW 6 hL0 rfl) _ _ (hit_mono (hit_bd h) (fun r14 σ15 h => ?_))) okX10_of mw_1435 rfl rfl (Nat.le_of_ble_eq_true rfl) rfl rfl ⟨by decide, by decide⟩ ⟨Nat.zero_le _, Nat.zero_le _⟩ dX10_holders_138
      refine R_iload_n (i := 1) dX10_holders_141 rfl rfl ?_
      refine R_icmp_ne (tgt := 149) dX10_holders_142 (by decide) (fun hc => ?_) (fun hc => ?_)
      · have h := hit_f h hc
        refine R_drop (lv2 := [some (rf Ω 10 0), some (.int x1), none, some (.int x3), some (.int x4)]) 2 rfl ?_
        exact rnX10_holders_j149L85 hW x1 x3 x4 x2 hL0 σ15 hC hE0 h
      · have h := hit_t h hc
        refine R_iconst (v := 1) dX10_holders_145 rfl ?_
        refine R_goto (tgt := 150) dX10_holders_146 (by decide) ?_
        refine R_drop (lv2 := [some (rf Ω 10 0), some (.int x1), none, some (.int x3), some (.int x4)]) 2 rfl ?_
        exact rnX10_holders_j150L85 hW x1 x3 x4 1 x2 hL0 σ15 hC hE0 h
set_option maxRecDepth 100000 in
set_option maxHeartbeats 4000000 in
theorem rlX10_holders_L85 {l : Launch} {Ω : rO} (hW : WF Ω) (x1 : Int32) (x3 : Int32) (hL0 : oL Ω 10 0) {K : Int32 → rS → Prop} {KE : Int32 → rS → Prop} (hE0 : ∀ (e : Int32) (σ : rS), KE e σ → Run l Ω cX10_holders RX10 5 (some .int) rmX10_holders K 158 [some (rf Ω 10 0), some (.int x1), some (.int e), some (.int x3), none] [] σ) : ∀ (n : Nat) (x2 : Int32) (x4 : Int32) (σ : rS), hit (lp (fun (x : (Int32 × Int32)) σ => fX10_holders_L85 x1 x3 x.1 x.2 σ) n (x2, x4) σ) KE → Run l Ω cX10_holders RX10 5 (some .int) rmX10_holders K 85 [some (rf Ω 10 0), some (.int x1), some (.int x2), some (.int x3), some (.int x4)] [] σ := by
  intro n
  induction n with
  | zero => intro x2 x4 σ h; exact (h : False).elim
  | succ n ih =>
    intro x2 x4 σ h
    exact rsX10_holders_L85 hW x1 x3 x2 x4 hL0 σ (fun x2 x4 σ h => ih x2 x4 σ h) (fun e σ h => hE0 e σ h) (hit_lp h)
set_option maxRecDepth 100000 in
set_option maxHeartbeats 4000000 in
theorem rsX10_holders_L74 {l : Launch} {Ω : rO} (hW : WF Ω) (x1 : Int32) (x2 : Int32) (x3 : Int32) (hL0 : oL Ω 10 0) (σ : rS) {K : Int32 → rS → Prop} {K0 : ((Int32 × Int32) ⊕ Int32) → rS → Prop} (hC : ∀ (x2 : Int32) (x3 : Int32) (σ : rS), K0 (.inl (x2, x3)) σ → Run l Ω cX10_holders RX10 5 (some .int) rmX10_holders K 74 [some (rf Ω 10 0), some (.int x1), some (.int x2), some (.int x3), none] [] σ) (hE0 : ∀ (e : Int32) (σ : rS), K0 (.inr e) σ → Run l Ω cX10_holders RX10 5 (some .int) rmX10_holders K 164 [none, none, some (.int e), none, none] [] σ) (h : hit (fX10_holders_L74 x1 x2 x3 σ) K0) : Run l Ω cX10_holders RX10 5 (some .int) rmX10_holders K 74 [some (rf Ω 10 0), some (.int x1), some (.int x2), some (.int x3), none] [] σ := by
  unfold fX10_holders_L74 at h
  refine R_iload_n (i := 3) dX10_holders_74 rfl rfl ?_
  refine R_aload_n (i := 0) dX10_holders_75 rfl rfl ?_
  refine R_get foX10_195 hL0 (cE_10 Ω 0 _) rfl dX10_holders_76 ?_
  refine R_icmp_ge (tgt := 164) dX10_holders_79 (by decide) (fun hc => ?_) (fun hc => ?_)
  · have h := hit_f h hc
    refine R_drop (lv2 := [none, some (.int x1), some (.int x2), some (.int x3), none]) 0 rfl ?_
    refine R_drop (lv2 := [none, none, some (.int x2), some (.int x3), none]) 1 rfl ?_
    refine R_drop (lv2 := [none, none, some (.int x2), none, none]) 3 rfl ?_
    exact hE0 x2 σ h
  · have h := hit_t h hc
    refine R_iconst (v := 0) dX10_holders_82 rfl ?_
    refine R_istore (lv2 := [some (rf Ω 10 0), some (.int x1), some (.int x2), some (.int x3), some (.int 0)]) dX10_holders_83 (by decide) rfl rfl ?_
    refine rlX10_holders_L85 hW x1 x3 hL0 ?_ fu x2 0 σ (hit_bd h)
    · intro e17 σ16 h
      try dsimp only at h
      refine R_iinc (v := x3 + 1) (lv2 := [some (rf Ω 10 0), some (.int x1), some (.int e17), some (.int (x3 + 1)), none]) dX10_holders_158 rfl rfl (by decide) rfl rfl ?_
      refine R_goto (tgt := 74) dX10_holders_161 (by decide) ?_
      exact hC e17 (x3 + 1) σ16 h
set_option maxRecDepth 100000 in
set_option maxHeartbeats 4000000 in
theorem rlX10_holders_L74 {l : Launch} {Ω : rO} (hW : WF Ω) (x1 : Int32) (hL0 : oL Ω 10 0) {K : Int32 → rS → Prop} {KE : Int32 → rS → Prop} (hE0 : ∀ (e : Int32) (σ : rS), KE e σ → Run l Ω cX10_holders RX10 5 (some .int) rmX10_holders K 164 [none, none, some (.int e), none, none] [] σ) : ∀ (n : Nat) (x2 : Int32) (x3 : Int32) (σ : rS), hit (lp (fun (x : (Int32 × Int32)) σ => fX10_holders_L74 x1 x.1 x.2 σ) n (x2, x3) σ) KE → Run l Ω cX10_holders RX10 5 (some .int) rmX10_holders K 74 [some (rf Ω 10 0), some (.int x1), some (.int x2), some (.int x3), none] [] σ := by
  intro n
  induction n with
  | zero => intro x2 x3 σ h; exact (h : False).elim
  | succ n ih =>
    intro x2 x3 σ h
    exact rsX10_holders_L74 hW x1 x2 x3 hL0 σ (fun x2 x3 σ h => ih x2 x3 σ h) (fun e σ h => hE0 e σ h) (hit_lp h)
set_option maxRecDepth 100000 in
set_option maxHeartbeats 4000000 in
theorem ctX10_holders (l : Launch) (Ω : rO) (x1 : Int32) (hL0 : oL Ω 10 0) (σ : rS) (K : Int32 → rS → Prop) (h : hit (fX10_holders x1 σ) K) : Ct l Ω yX10_holders cX10_holders 5 (some .int) rmX10_holders [rf Ω 10 0, .int x1] σ K := by
  refine Ct.of (own := RX10) (lv := [some (rf Ω 10 0), some (.int x1), none, none, none]) (by decide) rfl (Nat.le_of_ble_eq_true rfl) rfl (fun hW => ?_)
  unfold fX10_holders at h
  refine R_aload_n (i := 0) dX10_holders_0 rfl rfl ?_
  refine R_iconst (v := 0) dX10_holders_1 rfl ?_
  refine R_put poX10_73 hL0 (cE_10 Ω 0 _) (cP_10_0 Ω 0 _ _) (Nat.le_of_ble_eq_true rfl) dX10_holders_2 ?_
  refine R_st h (fun σ1 h => ?_)
  refine R_iload_n (i := 1) dX10_holders_5 rfl rfl ?_
  refine R_iconst (v := 1) dX10_holders_6 rfl ?_
  refine R_icmp_lt (tgt := 22) dX10_holders_7 (by decide) (fun hc => ?_) (fun hc => ?_)
  · have h := hit_t h hc
    refine R_iconst (v := (-1)) dX10_holders_22 rfl ?_
    exact R_iret dX10_holders_23 rfl h
  · have h := hit_f h hc
    refine R_aload_n (i := 0) dX10_holders_10 rfl rfl ?_
    refine R_get foX10_29 hL0 (cE_10 Ω 0 _) rfl dX10_holders_11 ?_
    refine R_iload_n (i := 1) dX10_holders_14 rfl rfl ?_
    refine R_callSi (ctX10_spotOf_ l Ω 0 x1 (WF.kid hW 6 hL0 rfl) _ _ (hit_mono (hit_bd h) (fun r2 σ3 h => ?_))) okX10_spotOf_ mw_1432 rfl rfl (Nat.le_of_ble_eq_true rfl) rfl rfl ⟨by decide, by decide⟩ ⟨Nat.zero_le _, Nat.zero_le _⟩ dX10_holders_15
    refine R_iconst (v := (-1)) dX10_holders_18 rfl ?_
    refine R_icmp_ne (tgt := 24) dX10_holders_19 (by decide) (fun hc => ?_) (fun hc => ?_)
    · have h := hit_f h hc
      refine R_aload_n (i := 0) dX10_holders_24 rfl rfl ?_
      refine R_aload_n (i := 0) dX10_holders_25 rfl rfl ?_
      refine R_get foX10_29 hL0 (cE_10 Ω 0 _) rfl dX10_holders_26 ?_
      refine R_iconst (v := (-1)) dX10_holders_29 rfl ?_
      refine R_iconst (v := 1) dX10_holders_30 rfl ?_
      refine R_callVv (ctX10_reaches l Ω 0 (-1) 1 hL0 (WF.kid hW 6 hL0 rfl) _ _ (hit_mono (hit_bd h) (fun r4 σ5 h => ?_))) okX10_reaches mw_1523 hL0 (cE_10 Ω 0 _) rfl rfl (Nat.le_of_ble_eq_true rfl) rfl rfl ⟨by decide, by decide⟩ ⟨Nat.zero_le _, Nat.zero_le _⟩ dX10_holders_31
      refine R_iconst (v := 0) dX10_holders_34 rfl ?_
      refine R_istore_n (lv2 := [some (rf Ω 10 0), some (.int x1), some (.int 0), none, none]) dX10_holders_35 rfl (by decide) rfl rfl ?_
      refine R_iconst (v := 0) dX10_holders_36 rfl ?_
      refine R_istore_n (lv2 := [some (rf Ω 10 0), some (.int x1), some (.int 0), some (.int 0), none]) dX10_holders_37 rfl (by decide) rfl rfl ?_
      refine rlX10_holders_L38 hW x1 hL0 ?_ fu 0 0 σ5 (hit_bd h)
      · intro e8 σ7 h
        try dsimp only at h
        refine R_iconst (v := 0) dX10_holders_72 rfl ?_
        refine R_istore_n (lv2 := [some (rf Ω 10 0), some (.int x1), some (.int e8), some (.int 0), none]) dX10_holders_73 rfl (by decide) rfl rfl ?_
        refine rlX10_holders_L74 hW x1 hL0 ?_ fu e8 0 σ7 (hit_bd h)
        · intro e19 σ18 h
          try dsimp only at h
          refine R_iload_n (i := 2) dX10_holders_164 rfl rfl ?_
          exact R_iret dX10_holders_165 rfl h
    · have h := hit_t h hc
      refine R_iconst (v := (-1)) dX10_holders_22 rfl ?_
      exact R_iret dX10_holders_23 rfl h
