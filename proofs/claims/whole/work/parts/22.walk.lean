set_option maxRecDepth 100000 in
set_option maxHeartbeats 4000000 in
theorem ctX4_removeAt (l : Launch) (Ω : rO) (k0 : Nat) (x1 : Int32) (hL0 : oL Ω 4 k0) (σ : rS) (K : Int32 → rS → Prop) (h : hit (fX4_removeAt k0 x1 σ) K) : Ct l Ω yX4_removeAt cX4_removeAt 2 none rmX4_removeAt [rf Ω 4 k0, .int x1] σ K := by
  refine Ct.of (own := RX4) (lv := [some (rf Ω 4 k0), some (.int x1)]) (by decide) rfl (Nat.le_of_ble_eq_true rfl) rfl (fun hW => ?_)
  unfold fX4_removeAt at h
  refine R_iload_n (i := 1) dX4_removeAt_0 rfl rfl ?_
  refine R_if_lt (tgt := 43) dX4_removeAt_1 (by decide) (fun hc => ?_) (fun hc => ?_)
  · have h := hit_t h hc
    exact R_vret dX4_removeAt_43 rfl h
  · have h := hit_f h hc
    refine R_iload_n (i := 1) dX4_removeAt_4 rfl rfl ?_
    refine R_aload_n (i := 0) dX4_removeAt_5 rfl rfl ?_
    refine R_get foX4_21 hL0 (cE_4 Ω k0 _) rfl dX4_removeAt_6 ?_
    refine R_icmp_ge (tgt := 43) dX4_removeAt_9 (by decide) (fun hc => ?_) (fun hc => ?_)
    · have h := hit_f h hc
      exact R_vret dX4_removeAt_43 rfl h
    · have h := hit_t h hc
      refine R_aload_n (i := 0) dX4_removeAt_12 rfl rfl ?_
      refine R_dup dX4_removeAt_13 rfl ?_
      refine R_get foX4_21 hL0 (cE_4 Ω k0 _) rfl dX4_removeAt_14 ?_
      refine R_iconst (v := 1) dX4_removeAt_17 rfl ?_
      refine R_isub dX4_removeAt_18 ?_
      refine R_put poX4_21 hL0 (cE_4 Ω k0 _) (cP_4_1 Ω k0 _ _) (Nat.le_of_ble_eq_true rfl) dX4_removeAt_19 ?_
      refine R_st h (fun σ1 h => ?_)
      refine R_aload_n (i := 0) dX4_removeAt_22 rfl rfl ?_
      refine R_get foX4_15 hL0 (cE_4 Ω k0 _) rfl dX4_removeAt_23 ?_
      refine R_iload_n (i := 1) dX4_removeAt_26 rfl rfl ?_
      refine R_iconst (v := 1) dX4_removeAt_27 rfl ?_
      refine R_iadd dX4_removeAt_28 ?_
      refine R_aload_n (i := 0) dX4_removeAt_29 rfl rfl ?_
      refine R_get foX4_15 hL0 (cE_4 Ω k0 _) rfl dX4_removeAt_30 ?_
      refine R_iload_n (i := 1) dX4_removeAt_33 rfl rfl ?_
      refine R_aload_n (i := 0) dX4_removeAt_34 rfl rfl ?_
      refine R_get foX4_21 hL0 (cE_4 Ω k0 _) rfl dX4_removeAt_35 ?_
      refine R_iload_n (i := 1) dX4_removeAt_38 rfl rfl ?_
      refine R_isub dX4_removeAt_39 ?_
      obtain ⟨hb, h⟩ := hit_bcp h
      refine R_copy (WF.kid hW 0 hL0 rfl) (cE_28 Ω k0) (WF.kid hW 0 hL0 rfl) (cE_28 Ω k0) hb mw_610 mw_402 mw_401 mw_13 (by decide) (Nat.le_of_ble_eq_true rfl) dX4_removeAt_40 ?_
      refine R_st h (fun σ2 h => ?_)
      exact R_vret dX4_removeAt_43 rfl h
set_option maxRecDepth 100000 in
set_option maxHeartbeats 4000000 in
theorem rnX7_refreshRemembered_j46 {l : Launch} {Ω : rO} (hW : WF Ω) (k0 : Nat) (x4 : Int32) (x5 : Int32) (hL0 : oL Ω 7 k0) (σ : rS) {K : Int32 → rS → Prop}  (h : hit (fX7_refreshRemembered_j46 k0 x4 x5 σ) K) : Run l Ω cX7_refreshRemembered RX7 6 none rmX7_refreshRemembered K 46 [some (rf Ω 7 k0), none, none, none, some (.int x4), some (.int x5)] [] σ := by
  unfold fX7_refreshRemembered_j46 at h
  refine R_iload (i := 5) dX7_refreshRemembered_46 rfl ?_
  refine R_if_ne (tgt := 66) dX7_refreshRemembered_48 (by decide) (fun hc => ?_) (fun hc => ?_)
  · have h := hit_f h hc
    exact R_vret dX7_refreshRemembered_66 rfl h
  · have h := hit_t h hc
    refine R_iload (i := 4) dX7_refreshRemembered_51 rfl ?_
    refine R_iconst (v := (-1)) dX7_refreshRemembered_53 rfl ?_
    refine R_icmp_eq (tgt := 66) dX7_refreshRemembered_54 (by decide) (fun hc => ?_) (fun hc => ?_)
    · have h := hit_t h hc
      exact R_vret dX7_refreshRemembered_66 rfl h
    · have h := hit_f h hc
      refine R_aload_n (i := 0) dX7_refreshRemembered_57 rfl rfl ?_
      refine R_get foX7_57 hL0 (cE_7 Ω k0 _) rfl dX7_refreshRemembered_58 ?_
      refine R_iload (i := 4) dX7_refreshRemembered_61 rfl ?_
      refine R_callVv (ctX4_removeAt l Ω (6 * k0 + 2) x4 (WF.kid hW 13 hL0 rfl) _ _ (hit_mono (hit_bd h) (fun r6 σ7 h => ?_))) okX4_removeAt mw_815 (WF.kid hW 13 hL0 rfl) (cE_4 Ω (6 * k0 + 2) _) rfl rfl (Nat.le_of_ble_eq_true rfl) rfl rfl ⟨by decide, by decide⟩ dX7_refreshRemembered_63
      exact R_vret dX7_refreshRemembered_66 rfl h
set_option maxRecDepth 100000 in
set_option maxHeartbeats 4000000 in
theorem ctX7_refreshRemembered (l : Launch) (Ω : rO) (k0 : Nat) (x1 : Int32) (x2 : Int32) (hL0 : oL Ω 7 k0) (σ : rS) (K : Int32 → rS → Prop) (h : hit (fX7_refreshRemembered k0 x1 x2 σ) K) : Ct l Ω yX7_refreshRemembered cX7_refreshRemembered 6 none rmX7_refreshRemembered [rf Ω 7 k0, .int x1, .int x2] σ K := by
  refine Ct.of (own := RX7) (lv := [some (rf Ω 7 k0), some (.int x1), some (.int x2), none, none, none]) (by decide) rfl (Nat.le_of_ble_eq_true rfl) rfl (fun hW => ?_)
  unfold fX7_refreshRemembered at h
  refine R_iload_n (i := 1) dX7_refreshRemembered_0 rfl rfl ?_
  refine R_iconst (v := 4) dX7_refreshRemembered_1 rfl ?_
  refine R_imul dX7_refreshRemembered_2 ?_
  refine R_iload_n (i := 2) dX7_refreshRemembered_3 rfl rfl ?_
  refine R_iadd dX7_refreshRemembered_4 ?_
  refine R_topi h (fun y1 h => ?_)
  refine R_istore_n (lv2 := [some (rf Ω 7 k0), some (.int x1), some (.int x2), some (.int y1), none, none]) dX7_refreshRemembered_5 rfl (by decide) rfl rfl ?_
  refine R_aload_n (i := 0) dX7_refreshRemembered_6 rfl rfl ?_
  refine R_get foX7_57 hL0 (cE_7 Ω k0 _) rfl dX7_refreshRemembered_7 ?_
  refine R_iload_n (i := 3) dX7_refreshRemembered_10 rfl rfl ?_
  refine R_callVi (ctX4_find l Ω (6 * k0 + 2) y1 (WF.kid hW 13 hL0 rfl) _ _ (hit_mono (hit_bd h) (fun r2 σ3 h => ?_))) okX4_find mw_810 (WF.kid hW 13 hL0 rfl) (cE_4 Ω (6 * k0 + 2) _) rfl rfl (Nat.le_of_ble_eq_true rfl) rfl rfl ⟨by decide, by decide⟩ dX7_refreshRemembered_11
  refine R_istore (lv2 := [some (rf Ω 7 k0), some (.int x1), some (.int x2), some (.int y1), some (.int r2), none]) dX7_refreshRemembered_14 (by decide) rfl rfl ?_
  refine R_aload_n (i := 0) dX7_refreshRemembered_16 rfl rfl ?_
  refine R_iload_n (i := 1) dX7_refreshRemembered_17 rfl rfl ?_
  refine R_iload_n (i := 2) dX7_refreshRemembered_18 rfl rfl ?_
  refine R_callVi (ctX7_isOldToYoung l Ω k0 x1 x2 hL0 _ _ (hit_mono (hit_bd h) (fun r4 σ5 h => ?_))) okX7_isOldToYoung mw_814 hL0 (cE_7 Ω k0 _) rfl rfl (Nat.le_of_ble_eq_true rfl) rfl rfl ⟨by decide, by decide⟩ dX7_refreshRemembered_19
  refine R_istore (lv2 := [some (rf Ω 7 k0), some (.int x1), some (.int x2), some (.int y1), some (.int r2), some (.int r4)]) dX7_refreshRemembered_22 (by decide) rfl rfl ?_
  refine R_iload (i := 5) dX7_refreshRemembered_24 rfl ?_
  refine R_if_eq (tgt := 46) dX7_refreshRemembered_26 (by decide) (fun hc => ?_) (fun hc => ?_)
  · have h := hit_t h hc
    refine R_drop (lv2 := [some (rf Ω 7 k0), none, some (.int x2), some (.int y1), some (.int r2), some (.int r4)]) 1 rfl ?_
    refine R_drop (lv2 := [some (rf Ω 7 k0), none, none, some (.int y1), some (.int r2), some (.int r4)]) 2 rfl ?_
    refine R_drop (lv2 := [some (rf Ω 7 k0), none, none, none, some (.int r2), some (.int r4)]) 3 rfl ?_
    exact rnX7_refreshRemembered_j46 hW k0 r2 r4 hL0 σ5  h
  · have h := hit_f h hc
    refine R_iload (i := 4) dX7_refreshRemembered_29 rfl ?_
    refine R_iconst (v := (-1)) dX7_refreshRemembered_31 rfl ?_
    refine R_icmp_ne (tgt := 46) dX7_refreshRemembered_32 (by decide) (fun hc => ?_) (fun hc => ?_)
    · have h := hit_f h hc
      refine R_drop (lv2 := [some (rf Ω 7 k0), none, some (.int x2), some (.int y1), some (.int r2), some (.int r4)]) 1 rfl ?_
      refine R_drop (lv2 := [some (rf Ω 7 k0), none, none, some (.int y1), some (.int r2), some (.int r4)]) 2 rfl ?_
      refine R_drop (lv2 := [some (rf Ω 7 k0), none, none, none, some (.int r2), some (.int r4)]) 3 rfl ?_
      exact rnX7_refreshRemembered_j46 hW k0 r2 r4 hL0 σ5  h
    · have h := hit_t h hc
      refine R_aload_n (i := 0) dX7_refreshRemembered_35 rfl rfl ?_
      refine R_get foX7_57 hL0 (cE_7 Ω k0 _) rfl dX7_refreshRemembered_36 ?_
      refine R_iload_n (i := 3) dX7_refreshRemembered_39 rfl rfl ?_
      refine R_callVv (ctX4_add l Ω (6 * k0 + 2) y1 (WF.kid hW 13 hL0 rfl) _ _ (hit_mono (hit_bd h) (fun r8 σ9 h => ?_))) okX4_add mw_791 (WF.kid hW 13 hL0 rfl) (cE_4 Ω (6 * k0 + 2) _) rfl rfl (Nat.le_of_ble_eq_true rfl) rfl rfl ⟨by decide, by decide⟩ dX7_refreshRemembered_40
      refine R_goto (tgt := 66) dX7_refreshRemembered_43 (by decide) ?_
      exact R_vret dX7_refreshRemembered_66 rfl h
set_option maxRecDepth 100000 in
set_option maxHeartbeats 4000000 in
theorem rnX0_linkField_j74 {l : Launch} {Ω : rO} (hW : WF Ω) (k1 : Nat) (x3 : Int32) (x5 : Int32) (x6 : Int32) (z0 : Int32) (hL1 : oL Ω 7 k1) (σ : rS) {K : Int32 → rS → Prop}  (h : hit (fX0_linkField_j74 k1 x3 x5 x6 z0 σ) K) : Run l Ω cX0_linkField RX0 8 (some .int) rmX0_linkField K 74 [none, some (rf Ω 7 k1), none, some (.int x3), none, some (.int x5), some (.int x6), none] [.int z0] σ := by
  unfold fX0_linkField_j74 at h
  refine R_istore (lv2 := [none, some (rf Ω 7 k1), none, some (.int x3), none, some (.int x5), some (.int x6), some (.int z0)]) dX0_linkField_74 (by decide) rfl rfl ?_
  refine R_iload (i := 6) dX0_linkField_76 rfl ?_
  refine R_iload (i := 7) dX0_linkField_78 rfl ?_
  refine R_icmp_ne (tgt := 86) dX0_linkField_80 (by decide) (fun hc => ?_) (fun hc => ?_)
  · have h := hit_f h hc
    refine R_aload_n (i := 1) dX0_linkField_86 rfl rfl ?_
    refine R_iload (i := 5) dX0_linkField_87 rfl ?_
    refine R_iload_n (i := 3) dX0_linkField_89 rfl rfl ?_
    refine R_iload (i := 7) dX0_linkField_90 rfl ?_
    refine R_callVv (ctX7_setTarget l Ω k1 x5 x3 z0 hL1 _ _ (hit_mono (hit_bd h) (fun r8 σ9 h => ?_))) okX7_setTarget mw_805 hL1 (cE_7 Ω k1 _) rfl rfl (Nat.le_of_ble_eq_true rfl) rfl rfl ⟨by decide, by decide⟩ dX0_linkField_92
    refine R_aload_n (i := 1) dX0_linkField_95 rfl rfl ?_
    refine R_iload (i := 5) dX0_linkField_96 rfl ?_
    refine R_iload_n (i := 3) dX0_linkField_98 rfl rfl ?_
    refine R_callVv (ctX7_refreshRemembered l Ω k1 x5 x3 hL1 _ _ (hit_mono (hit_bd h) (fun r10 σ11 h => ?_))) okX7_refreshRemembered mw_806 hL1 (cE_7 Ω k1 _) rfl rfl (Nat.le_of_ble_eq_true rfl) rfl rfl ⟨by decide, by decide⟩ dX0_linkField_99
    refine R_aload_n (i := 1) dX0_linkField_102 rfl rfl ?_
    refine R_iconst (v := 1) dX0_linkField_103 rfl ?_
    refine R_aload_n (i := 1) dX0_linkField_104 rfl rfl ?_
    refine R_get foX0_108 hL1 (cE_7 Ω k1 _) rfl dX0_linkField_105 ?_
    refine R_iload (i := 5) dX0_linkField_108 rfl ?_
    obtain ⟨hb, h⟩ := hit_bnd h
    refine R_iald (WF.kid hW 0 hL1 rfl) (cE_45 Ω k1 _) hb dX0_linkField_110 ?_
    refine R_callVv (ctX7_note l Ω k1 1 (σ11 45 k1 (ix x5)) hL1 _ _ (hit_mono (hit_bd h) (fun r12 σ13 h => ?_))) okX7_note mw_787 hL1 (cE_7 Ω k1 _) rfl rfl (Nat.le_of_ble_eq_true rfl) rfl rfl ⟨by decide, by decide⟩ dX0_linkField_111
    refine R_aload_n (i := 1) dX0_linkField_114 rfl rfl ?_
    refine R_iload (i := 6) dX0_linkField_115 rfl ?_
    refine R_callVi (ctX7_numberOf l Ω k1 x6 hL1 _ _ (hit_mono (hit_bd h) (fun r14 σ15 h => ?_))) okX7_numberOf mw_786 hL1 (cE_7 Ω k1 _) rfl rfl (Nat.le_of_ble_eq_true rfl) rfl rfl ⟨by decide, by decide⟩ dX0_linkField_117
    exact R_iret dX0_linkField_120 rfl h
  · have h := hit_t h hc
    refine R_bipush (v := (-3)) dX0_linkField_83 rfl ?_
    exact R_iret dX0_linkField_85 rfl h
set_option maxRecDepth 100000 in
set_option maxHeartbeats 4000000 in
theorem rnX0_linkField_j26 {l : Launch} {Ω : rO} (hW : WF Ω) (k1 : Nat) (x2 : Int32) (x3 : Int32) (x4 : Int32) (hL1 : oL Ω 7 k1) (σ : rS) {K : Int32 → rS → Prop}  (h : hit (fX0_linkField_j26 k1 x2 x3 x4 σ) K) : Run l Ω cX0_linkField RX0 8 (some .int) rmX0_linkField K 26 [none, some (rf Ω 7 k1), some (.int x2), some (.int x3), some (.int x4), none, none, none] [] σ := by
  unfold fX0_linkField_j26 at h
  refine R_aload_n (i := 1) dX0_linkField_26 rfl rfl ?_
  refine R_get foX0_78 hL1 (cE_7 Ω k1 _) rfl dX0_linkField_27 ?_
  refine R_iload_n (i := 2) dX0_linkField_30 rfl rfl ?_
  obtain ⟨hb, h⟩ := hit_bnd h
  refine R_iald (WF.kid hW 8 hL1 rfl) (cE_53 Ω k1 _) hb dX0_linkField_31 ?_
  refine R_topi h (fun y3 h => ?_)
  refine R_istore (lv2 := [none, some (rf Ω 7 k1), some (.int x2), some (.int x3), some (.int x4), some (.int y3), none, none]) dX0_linkField_32 (by decide) rfl rfl ?_
  refine R_aload_n (i := 1) dX0_linkField_34 rfl rfl ?_
  refine R_iload (i := 5) dX0_linkField_35 rfl ?_
  refine R_iload_n (i := 3) dX0_linkField_37 rfl rfl ?_
  refine R_callVi (ctX7_hasField l Ω k1 y3 x3 hL1 _ _ (hit_mono (hit_bd h) (fun r4 σ5 h => ?_))) okX7_hasField mw_803 hL1 (cE_7 Ω k1 _) rfl rfl (Nat.le_of_ble_eq_true rfl) rfl rfl ⟨by decide, by decide⟩ dX0_linkField_38
  refine R_if_ne (tgt := 47) dX0_linkField_41 (by decide) (fun hc => ?_) (fun hc => ?_)
  · have h := hit_f h hc
    refine R_aload_n (i := 1) dX0_linkField_47 rfl rfl ?_
    refine R_iload (i := 5) dX0_linkField_48 rfl ?_
    refine R_iload_n (i := 3) dX0_linkField_50 rfl rfl ?_
    refine R_callVi (ctX7_target l Ω k1 y3 x3 hL1 _ _ (hit_mono (hit_bd h) (fun r6 σ7 h => ?_))) okX7_target mw_804 hL1 (cE_7 Ω k1 _) rfl rfl (Nat.le_of_ble_eq_true rfl) rfl rfl ⟨by decide, by decide⟩ dX0_linkField_51
    refine R_istore (lv2 := [none, some (rf Ω 7 k1), some (.int x2), some (.int x3), some (.int x4), some (.int y3), some (.int r6), none]) dX0_linkField_54 (by decide) rfl rfl ?_
    refine R_iload (i := 4) dX0_linkField_56 rfl ?_
    refine R_bipush (v := 8) dX0_linkField_58 rfl ?_
    refine R_icmp_ne (tgt := 67) dX0_linkField_60 (by decide) (fun hc => ?_) (fun hc => ?_)
    · have h := hit_f h hc
      refine R_aload_n (i := 1) dX0_linkField_67 rfl rfl ?_
      refine R_get foX0_78 hL1 (cE_7 Ω k1 _) rfl dX0_linkField_68 ?_
      refine R_iload (i := 4) dX0_linkField_71 rfl ?_
      obtain ⟨hb, h⟩ := hit_bnd h
      refine R_iald (WF.kid hW 8 hL1 rfl) (cE_53 Ω k1 _) hb dX0_linkField_73 ?_
      refine R_drop (lv2 := [none, some (rf Ω 7 k1), none, some (.int x3), some (.int x4), some (.int y3), some (.int r6), none]) 2 rfl ?_
      refine R_drop (lv2 := [none, some (rf Ω 7 k1), none, some (.int x3), none, some (.int y3), some (.int r6), none]) 4 rfl ?_
      exact rnX0_linkField_j74 hW k1 x3 y3 r6 (σ7 53 k1 (ix x4)) hL1 σ7  h
    · have h := hit_t h hc
      refine R_iconst (v := (-1)) dX0_linkField_63 rfl ?_
      refine R_goto (tgt := 74) dX0_linkField_64 (by decide) ?_
      refine R_drop (lv2 := [none, some (rf Ω 7 k1), none, some (.int x3), some (.int x4), some (.int y3), some (.int r6), none]) 2 rfl ?_
      refine R_drop (lv2 := [none, some (rf Ω 7 k1), none, some (.int x3), none, some (.int y3), some (.int r6), none]) 4 rfl ?_
      exact rnX0_linkField_j74 hW k1 x3 y3 r6 (-1) hL1 σ7  h
  · have h := hit_t h hc
    refine R_bipush (v := (-2)) dX0_linkField_44 rfl ?_
    exact R_iret dX0_linkField_46 rfl h
set_option maxRecDepth 100000 in
set_option maxHeartbeats 4000000 in
theorem ctX0_linkField (l : Launch) (Ω : rO) (k1 : Nat) (x2 : Int32) (x3 : Int32) (x4 : Int32) (hL0 : oL Ω 0 0) (hL1 : oL Ω 7 k1) (σ : rS) (K : Int32 → rS → Prop) (h : hit (fX0_linkField k1 x2 x3 x4 σ) K) : Ct l Ω yX0_linkField cX0_linkField 8 (some .int) rmX0_linkField [rf Ω 0 0, rf Ω 7 k1, .int x2, .int x3, .int x4] σ K := by
  refine Ct.of (own := RX0) (lv := [some (rf Ω 0 0), some (rf Ω 7 k1), some (.int x2), some (.int x3), some (.int x4), none, none, none]) (by decide) rfl (Nat.le_of_ble_eq_true rfl) rfl (fun hW => ?_)
  unfold fX0_linkField at h
  refine R_aload_n (i := 1) dX0_linkField_0 rfl rfl ?_
  refine R_iload_n (i := 2) dX0_linkField_1 rfl rfl ?_
  refine R_callSi (ctX0_isLinkedRoot l Ω k1 x2 hL1 _ _ (hit_mono (hit_bd h) (fun r1 σ2 h => ?_))) okX0_isLinkedRoot mw_800 rfl rfl (Nat.le_of_ble_eq_true rfl) rfl rfl ⟨by decide, by decide⟩ dX0_linkField_2
  refine R_if_eq (tgt := 24) dX0_linkField_5 (by decide) (fun hc => ?_) (fun hc => ?_)
  · have h := hit_t h hc
    refine R_iconst (v := (-1)) dX0_linkField_24 rfl ?_
    exact R_iret dX0_linkField_25 rfl h
  · have h := hit_f h hc
    refine R_iload (i := 4) dX0_linkField_8 rfl ?_
    refine R_bipush (v := 8) dX0_linkField_10 rfl ?_
    refine R_icmp_eq (tgt := 26) dX0_linkField_12 (by decide) (fun hc => ?_) (fun hc => ?_)
    · have h := hit_t h hc
      refine R_drop (lv2 := [none, some (rf Ω 7 k1), some (.int x2), some (.int x3), some (.int x4), none, none, none]) 0 rfl ?_
      exact rnX0_linkField_j26 hW k1 x2 x3 x4 hL1 σ2  h
    · have h := hit_f h hc
      refine R_aload_n (i := 1) dX0_linkField_15 rfl rfl ?_
      refine R_iload (i := 4) dX0_linkField_16 rfl ?_
      refine R_callSi (ctX0_isLinkedRoot l Ω k1 x4 hL1 _ _ (hit_mono (hit_bd h) (fun r16 σ17 h => ?_))) okX0_isLinkedRoot mw_800 rfl rfl (Nat.le_of_ble_eq_true rfl) rfl rfl ⟨by decide, by decide⟩ dX0_linkField_18
      refine R_if_ne (tgt := 26) dX0_linkField_21 (by decide) (fun hc => ?_) (fun hc => ?_)
      · have h := hit_f h hc
        refine R_drop (lv2 := [none, some (rf Ω 7 k1), some (.int x2), some (.int x3), some (.int x4), none, none, none]) 0 rfl ?_
        exact rnX0_linkField_j26 hW k1 x2 x3 x4 hL1 σ17  h
      · have h := hit_t h hc
        refine R_iconst (v := (-1)) dX0_linkField_24 rfl ?_
        exact R_iret dX0_linkField_25 rfl h
set_option maxRecDepth 100000 in
set_option maxHeartbeats 4000000 in
theorem ctX0_loadRoot (l : Launch) (Ω : rO) (k1 : Nat) (x2 : Int32) (x3 : Int32) (x4 : Int32) (hL0 : oL Ω 0 0) (hL1 : oL Ω 7 k1) (σ : rS) (K : Int32 → rS → Prop) (h : hit (fX0_loadRoot k1 x2 x3 x4 σ) K) : Ct l Ω yX0_loadRoot cX0_loadRoot 8 (some .int) rmX0_loadRoot [rf Ω 0 0, rf Ω 7 k1, .int x2, .int x3, .int x4] σ K := by
  refine Ct.of (own := RX0) (lv := [some (rf Ω 0 0), some (rf Ω 7 k1), some (.int x2), some (.int x3), some (.int x4), none, none, none]) (by decide) rfl (Nat.le_of_ble_eq_true rfl) rfl (fun hW => ?_)
  unfold fX0_loadRoot at h
  refine R_iload_n (i := 2) dX0_loadRoot_0 rfl rfl ?_
  refine R_callSNi (ctX9_isRoot l Ω x2 _ _ (hit_mono (hit_bd h) (fun r1 σ2 h => ?_))) okX9_isRoot nw_619 rfl rfl (Nat.le_of_ble_eq_true rfl) rfl rfl ⟨by decide, by decide⟩ dX0_loadRoot_1
  refine R_if_eq (tgt := 15) dX0_loadRoot_4 (by decide) (fun hc => ?_) (fun hc => ?_)
  · have h := hit_t h hc
    refine R_iconst (v := (-1)) dX0_loadRoot_15 rfl ?_
    exact R_iret dX0_loadRoot_16 rfl h
  · have h := hit_f h hc
    refine R_aload_n (i := 1) dX0_loadRoot_7 rfl rfl ?_
    refine R_iload_n (i := 3) dX0_loadRoot_8 rfl rfl ?_
    refine R_callSi (ctX0_isLinkedRoot l Ω k1 x3 hL1 _ _ (hit_mono (hit_bd h) (fun r3 σ4 h => ?_))) okX0_isLinkedRoot mw_800 rfl rfl (Nat.le_of_ble_eq_true rfl) rfl rfl ⟨by decide, by decide⟩ dX0_loadRoot_9
    refine R_if_ne (tgt := 17) dX0_loadRoot_12 (by decide) (fun hc => ?_) (fun hc => ?_)
    · have h := hit_f h hc
      refine R_aload_n (i := 1) dX0_loadRoot_17 rfl rfl ?_
      refine R_get foX0_78 hL1 (cE_7 Ω k1 _) rfl dX0_loadRoot_18 ?_
      refine R_iload_n (i := 3) dX0_loadRoot_21 rfl rfl ?_
      obtain ⟨hb, h⟩ := hit_bnd h
      refine R_iald (WF.kid hW 8 hL1 rfl) (cE_53 Ω k1 _) hb dX0_loadRoot_22 ?_
      refine R_topi h (fun y5 h => ?_)
      refine R_istore (lv2 := [some (rf Ω 0 0), some (rf Ω 7 k1), some (.int x2), some (.int x3), some (.int x4), some (.int y5), none, none]) dX0_loadRoot_23 (by decide) rfl rfl ?_
      refine R_aload_n (i := 1) dX0_loadRoot_25 rfl rfl ?_
      refine R_iload (i := 5) dX0_loadRoot_26 rfl ?_
      refine R_iload (i := 4) dX0_loadRoot_28 rfl ?_
      refine R_callVi (ctX7_hasField l Ω k1 y5 x4 hL1 _ _ (hit_mono (hit_bd h) (fun r6 σ7 h => ?_))) okX7_hasField mw_803 hL1 (cE_7 Ω k1 _) rfl rfl (Nat.le_of_ble_eq_true rfl) rfl rfl ⟨by decide, by decide⟩ dX0_loadRoot_30
      refine R_if_ne (tgt := 39) dX0_loadRoot_33 (by decide) (fun hc => ?_) (fun hc => ?_)
      · have h := hit_f h hc
        refine R_aload_n (i := 1) dX0_loadRoot_39 rfl rfl ?_
        refine R_get foX0_78 hL1 (cE_7 Ω k1 _) rfl dX0_loadRoot_40 ?_
        refine R_iload_n (i := 2) dX0_loadRoot_43 rfl rfl ?_
        obtain ⟨hb, h⟩ := hit_bnd h
        refine R_iald (WF.kid hW 8 hL1 rfl) (cE_53 Ω k1 _) hb dX0_loadRoot_44 ?_
        refine R_topi h (fun y8 h => ?_)
        refine R_istore (lv2 := [some (rf Ω 0 0), some (rf Ω 7 k1), some (.int x2), some (.int x3), some (.int x4), some (.int y5), some (.int y8), none]) dX0_loadRoot_45 (by decide) rfl rfl ?_
        refine R_aload_n (i := 1) dX0_loadRoot_47 rfl rfl ?_
        refine R_iload (i := 5) dX0_loadRoot_48 rfl ?_
        refine R_iload (i := 4) dX0_loadRoot_50 rfl ?_
        refine R_callVi (ctX7_target l Ω k1 y5 x4 hL1 _ _ (hit_mono (hit_bd h) (fun r9 σ10 h => ?_))) okX7_target mw_804 hL1 (cE_7 Ω k1 _) rfl rfl (Nat.le_of_ble_eq_true rfl) rfl rfl ⟨by decide, by decide⟩ dX0_loadRoot_52
        refine R_istore (lv2 := [some (rf Ω 0 0), some (rf Ω 7 k1), some (.int x2), some (.int x3), some (.int x4), some (.int y5), some (.int y8), some (.int r9)]) dX0_loadRoot_55 (by decide) rfl rfl ?_
        refine R_aload_n (i := 1) dX0_loadRoot_57 rfl rfl ?_
        refine R_get foX0_78 hL1 (cE_7 Ω k1 _) rfl dX0_loadRoot_58 ?_
        refine R_iload_n (i := 2) dX0_loadRoot_61 rfl rfl ?_
        refine R_iload (i := 7) dX0_loadRoot_62 rfl ?_
        obtain ⟨hb, h⟩ := hit_bnd h
        refine R_iast (WF.kid hW 8 hL1 rfl) (cE_53 Ω k1) hb dX0_loadRoot_64 ?_
        refine R_st h (fun σ11 h => ?_)
        refine R_aload_n (i := 1) dX0_loadRoot_65 rfl rfl ?_
        refine R_iconst (v := 2) dX0_loadRoot_66 rfl ?_
        refine R_aload_n (i := 1) dX0_loadRoot_67 rfl rfl ?_
        refine R_iload (i := 6) dX0_loadRoot_68 rfl ?_
        refine R_callVi (ctX7_numberOf l Ω k1 y8 hL1 _ _ (hit_mono (hit_bd h) (fun r12 σ13 h => ?_))) okX7_numberOf mw_786 hL1 (cE_7 Ω k1 _) rfl rfl (Nat.le_of_ble_eq_true rfl) rfl rfl ⟨by decide, by decide⟩ dX0_loadRoot_70
        refine R_callVv (ctX7_note l Ω k1 2 r12 hL1 _ _ (hit_mono (hit_bd h) (fun r14 σ15 h => ?_))) okX7_note mw_787 hL1 (cE_7 Ω k1 _) rfl rfl (Nat.le_of_ble_eq_true rfl) rfl rfl ⟨by decide, by decide⟩ dX0_loadRoot_73
        refine R_aload_n (i := 1) dX0_loadRoot_76 rfl rfl ?_
        refine R_iload (i := 7) dX0_loadRoot_77 rfl ?_
        refine R_callVi (ctX7_numberOf l Ω k1 r9 hL1 _ _ (hit_mono (hit_bd h) (fun r16 σ17 h => ?_))) okX7_numberOf mw_786 hL1 (cE_7 Ω k1 _) rfl rfl (Nat.le_of_ble_eq_true rfl) rfl rfl ⟨by decide, by decide⟩ dX0_loadRoot_79
        exact R_iret dX0_loadRoot_82 rfl h
      · have h := hit_t h hc
        refine R_bipush (v := (-2)) dX0_loadRoot_36 rfl ?_
        exact R_iret dX0_loadRoot_38 rfl h
    · have h := hit_t h hc
      refine R_iconst (v := (-1)) dX0_loadRoot_15 rfl ?_
      exact R_iret dX0_loadRoot_16 rfl h
set_option maxRecDepth 100000 in
set_option maxHeartbeats 4000000 in
theorem ctX0_emptyRoot (l : Launch) (Ω : rO) (k1 : Nat) (x2 : Int32) (hL0 : oL Ω 0 0) (hL1 : oL Ω 7 k1) (σ : rS) (K : Int32 → rS → Prop) (h : hit (fX0_emptyRoot k1 x2 σ) K) : Ct l Ω yX0_emptyRoot cX0_emptyRoot 4 (some .int) rmX0_emptyRoot [rf Ω 0 0, rf Ω 7 k1, .int x2] σ K := by
  refine Ct.of (own := RX0) (lv := [some (rf Ω 0 0), some (rf Ω 7 k1), some (.int x2), none]) (by decide) rfl (Nat.le_of_ble_eq_true rfl) rfl (fun hW => ?_)
  unfold fX0_emptyRoot at h
  refine R_iload_n (i := 2) dX0_emptyRoot_0 rfl rfl ?_
  refine R_callSNi (ctX9_isRoot l Ω x2 _ _ (hit_mono (hit_bd h) (fun r1 σ2 h => ?_))) okX9_isRoot nw_619 rfl rfl (Nat.le_of_ble_eq_true rfl) rfl rfl ⟨by decide, by decide⟩ dX0_emptyRoot_1
  refine R_if_ne (tgt := 9) dX0_emptyRoot_4 (by decide) (fun hc => ?_) (fun hc => ?_)
  · have h := hit_f h hc
    refine R_aload_n (i := 1) dX0_emptyRoot_9 rfl rfl ?_
    refine R_get foX0_78 hL1 (cE_7 Ω k1 _) rfl dX0_emptyRoot_10 ?_
    refine R_iload_n (i := 2) dX0_emptyRoot_13 rfl rfl ?_
    obtain ⟨hb, h⟩ := hit_bnd h
    refine R_iald (WF.kid hW 8 hL1 rfl) (cE_53 Ω k1 _) hb dX0_emptyRoot_14 ?_
    refine R_topi h (fun y3 h => ?_)
    refine R_istore_n (lv2 := [some (rf Ω 0 0), some (rf Ω 7 k1), some (.int x2), some (.int y3)]) dX0_emptyRoot_15 rfl (by decide) rfl rfl ?_
    refine R_iload_n (i := 3) dX0_emptyRoot_16 rfl rfl ?_
    refine R_iconst (v := (-1)) dX0_emptyRoot_17 rfl ?_
    refine R_icmp_ne (tgt := 24) dX0_emptyRoot_18 (by decide) (fun hc => ?_) (fun hc => ?_)
    · have h := hit_f h hc
      refine R_aload_n (i := 1) dX0_emptyRoot_24 rfl rfl ?_
      refine R_get foX0_78 hL1 (cE_7 Ω k1 _) rfl dX0_emptyRoot_25 ?_
      refine R_iload_n (i := 2) dX0_emptyRoot_28 rfl rfl ?_
      refine R_iconst (v := (-1)) dX0_emptyRoot_29 rfl ?_
      obtain ⟨hb, h⟩ := hit_bnd h
      refine R_iast (WF.kid hW 8 hL1 rfl) (cE_53 Ω k1) hb dX0_emptyRoot_30 ?_
      refine R_st h (fun σ4 h => ?_)
      refine R_aload_n (i := 1) dX0_emptyRoot_31 rfl rfl ?_
      refine R_iconst (v := 3) dX0_emptyRoot_32 rfl ?_
      refine R_aload_n (i := 1) dX0_emptyRoot_33 rfl rfl ?_
      refine R_iload_n (i := 3) dX0_emptyRoot_34 rfl rfl ?_
      refine R_callVi (ctX7_numberOf l Ω k1 y3 hL1 _ _ (hit_mono (hit_bd h) (fun r5 σ6 h => ?_))) okX7_numberOf mw_786 hL1 (cE_7 Ω k1 _) rfl rfl (Nat.le_of_ble_eq_true rfl) rfl rfl ⟨by decide, by decide⟩ dX0_emptyRoot_35
      refine R_callVv (ctX7_note l Ω k1 3 r5 hL1 _ _ (hit_mono (hit_bd h) (fun r7 σ8 h => ?_))) okX7_note mw_787 hL1 (cE_7 Ω k1 _) rfl rfl (Nat.le_of_ble_eq_true rfl) rfl rfl ⟨by decide, by decide⟩ dX0_emptyRoot_38
      refine R_aload_n (i := 1) dX0_emptyRoot_41 rfl rfl ?_
      refine R_iload_n (i := 3) dX0_emptyRoot_42 rfl rfl ?_
      refine R_callVi (ctX7_numberOf l Ω k1 y3 hL1 _ _ (hit_mono (hit_bd h) (fun r9 σ10 h => ?_))) okX7_numberOf mw_786 hL1 (cE_7 Ω k1 _) rfl rfl (Nat.le_of_ble_eq_true rfl) rfl rfl ⟨by decide, by decide⟩ dX0_emptyRoot_43
      exact R_iret dX0_emptyRoot_46 rfl h
    · have h := hit_t h hc
      refine R_bipush (v := (-3)) dX0_emptyRoot_21 rfl ?_
      exact R_iret dX0_emptyRoot_23 rfl h
  · have h := hit_t h hc
    refine R_iconst (v := (-1)) dX0_emptyRoot_7 rfl ?_
    exact R_iret dX0_emptyRoot_8 rfl h
set_option maxRecDepth 100000 in
set_option maxHeartbeats 4000000 in
theorem ctX0_actMinor (l : Launch) (Ω : rO) (k1 : Nat) (hL0 : oL Ω 0 0) (hL1 : oL Ω 7 k1) (σ : rS) (K : Int32 → rS → Prop) (h : hit (fX0_actMinor k1 σ) K) : Ct l Ω yX0_actMinor cX0_actMinor 3 (some .int) rmX0_actMinor [rf Ω 0 0, rf Ω 7 k1] σ K := by
  refine Ct.of (own := RX0) (lv := [some (rf Ω 0 0), some (rf Ω 7 k1), none]) (by decide) rfl (Nat.le_of_ble_eq_true rfl) rfl (fun hW => ?_)
  unfold fX0_actMinor at h
  refine R_aload_n (i := 0) dX0_actMinor_0 rfl rfl ?_
  refine R_get foX0_22 hL0 (cE_0 Ω 0 _) rfl dX0_actMinor_1 ?_
  refine R_aload_n (i := 1) dX0_actMinor_4 rfl rfl ?_
  refine R_callVi (ctX1_collectYoung l Ω k1 (WF.kid hW 1 hL0 rfl) hL1 _ _ (hit_mono (hit_bd h) (fun r1 σ2 h => ?_))) okX1_collectYoung mw_620 (WF.kid hW 1 hL0 rfl) (cE_1 Ω 0 _) rfl rfl (Nat.le_of_ble_eq_true rfl) rfl rfl ⟨by decide, by decide⟩ dX0_actMinor_5
  refine R_if_ne (tgt := 14) dX0_actMinor_8 (by decide) (fun hc => ?_) (fun hc => ?_)
  · have h := hit_f h hc
    refine R_aload_n (i := 0) dX0_actMinor_14 rfl rfl ?_
    refine R_get foX0_22 hL0 (cE_0 Ω 0 _) rfl dX0_actMinor_15 ?_
    refine R_get foX0_111 (WF.kid hW 1 hL0 rfl) (cE_1 Ω 0 _) rfl dX0_actMinor_18 ?_
    refine R_iconst (v := 2) dX0_actMinor_21 rfl ?_
    refine R_iald (WF.kid hW 2 (WF.kid hW 1 hL0 rfl) rfl) (cE_37 Ω 0 _) (vin 2 5 rfl) dX0_actMinor_22 ?_
    refine R_topi h (fun y3 h => ?_)
    refine R_istore_n (lv2 := [some (rf Ω 0 0), some (rf Ω 7 k1), some (.int y3)]) dX0_actMinor_23 rfl (by decide) rfl rfl ?_
    refine R_aload_n (i := 1) dX0_actMinor_24 rfl rfl ?_
    refine R_iconst (v := 4) dX0_actMinor_25 rfl ?_
    refine R_iload_n (i := 2) dX0_actMinor_26 rfl rfl ?_
    refine R_callVv (ctX7_note l Ω k1 4 y3 hL1 _ _ (hit_mono (hit_bd h) (fun r4 σ5 h => ?_))) okX7_note mw_787 hL1 (cE_7 Ω k1 _) rfl rfl (Nat.le_of_ble_eq_true rfl) rfl rfl ⟨by decide, by decide⟩ dX0_actMinor_27
    refine R_iload_n (i := 2) dX0_actMinor_30 rfl rfl ?_
    exact R_iret dX0_actMinor_31 rfl h
  · have h := hit_t h hc
    refine R_bipush (v := (-4)) dX0_actMinor_11 rfl ?_
    exact R_iret dX0_actMinor_13 rfl h
set_option maxRecDepth 100000 in
set_option maxHeartbeats 4000000 in
theorem ctX0_actMajor (l : Launch) (Ω : rO) (k1 : Nat) (hL0 : oL Ω 0 0) (hL1 : oL Ω 7 k1) (σ : rS) (K : Int32 → rS → Prop) (h : hit (fX0_actMajor k1 σ) K) : Ct l Ω yX0_actMajor cX0_actMajor 3 (some .int) rmX0_actMajor [rf Ω 0 0, rf Ω 7 k1] σ K := by
  refine Ct.of (own := RX0) (lv := [some (rf Ω 0 0), some (rf Ω 7 k1), none]) (by decide) rfl (Nat.le_of_ble_eq_true rfl) rfl (fun hW => ?_)
  unfold fX0_actMajor at h
  refine R_aload_n (i := 0) dX0_actMajor_0 rfl rfl ?_
  refine R_get foX0_22 hL0 (cE_0 Ω 0 _) rfl dX0_actMajor_1 ?_
  refine R_aload_n (i := 1) dX0_actMajor_4 rfl rfl ?_
  refine R_callVv (ctX1_collectAll l Ω k1 (WF.kid hW 1 hL0 rfl) hL1 _ _ (hit_mono (hit_bd h) (fun r1 σ2 h => ?_))) okX1_collectAll mw_728 (WF.kid hW 1 hL0 rfl) (cE_1 Ω 0 _) rfl rfl (Nat.le_of_ble_eq_true rfl) rfl rfl ⟨by decide, by decide⟩ dX0_actMajor_5
  refine R_aload_n (i := 0) dX0_actMajor_8 rfl rfl ?_
  refine R_get foX0_22 hL0 (cE_0 Ω 0 _) rfl dX0_actMajor_9 ?_
  refine R_get foX0_111 (WF.kid hW 1 hL0 rfl) (cE_1 Ω 0 _) rfl dX0_actMajor_12 ?_
  refine R_iconst (v := 2) dX0_actMajor_15 rfl ?_
  refine R_iald (WF.kid hW 2 (WF.kid hW 1 hL0 rfl) rfl) (cE_37 Ω 0 _) (vin 2 5 rfl) dX0_actMajor_16 ?_
  refine R_topi h (fun y3 h => ?_)
  refine R_istore_n (lv2 := [some (rf Ω 0 0), some (rf Ω 7 k1), some (.int y3)]) dX0_actMajor_17 rfl (by decide) rfl rfl ?_
  refine R_aload_n (i := 1) dX0_actMajor_18 rfl rfl ?_
  refine R_iconst (v := 5) dX0_actMajor_19 rfl ?_
  refine R_iload_n (i := 2) dX0_actMajor_20 rfl rfl ?_
  refine R_callVv (ctX7_note l Ω k1 5 y3 hL1 _ _ (hit_mono (hit_bd h) (fun r4 σ5 h => ?_))) okX7_note mw_787 hL1 (cE_7 Ω k1 _) rfl rfl (Nat.le_of_ble_eq_true rfl) rfl rfl ⟨by decide, by decide⟩ dX0_actMajor_21
  refine R_iload_n (i := 2) dX0_actMajor_24 rfl rfl ?_
  exact R_iret dX0_actMajor_25 rfl h
set_option maxRecDepth 100000 in
set_option maxHeartbeats 4000000 in
theorem rnX0_tellEnd_j63 {l : Launch} {Ω : rO} (hW : WF Ω) (k1 : Nat) (x3 : Int32) (hL1 : oL Ω 7 k1) (σ : rS) {K : Int32 → rS → Prop}  (h : hit (fX0_tellEnd_j63 k1 x3 σ) K) : Run l Ω cX0_tellEnd RX0 4 (some .int) rmX0_tellEnd K 63 [none, some (rf Ω 7 k1), none, some (.int x3)] [] σ := by
  unfold fX0_tellEnd_j63 at h
  refine R_aload_n (i := 1) dX0_tellEnd_63 rfl rfl ?_
  refine R_bipush (v := 6) dX0_tellEnd_64 rfl ?_
  refine R_aload_n (i := 1) dX0_tellEnd_66 rfl rfl ?_
  refine R_get foX0_108 hL1 (cE_7 Ω k1 _) rfl dX0_tellEnd_67 ?_
  refine R_iload_n (i := 3) dX0_tellEnd_70 rfl rfl ?_
  obtain ⟨hb, h⟩ := hit_bnd h
  refine R_iald (WF.kid hW 0 hL1 rfl) (cE_45 Ω k1 _) hb dX0_tellEnd_71 ?_
  refine R_callVv (ctX7_note l Ω k1 6 (σ 45 k1 (ix x3)) hL1 _ _ (hit_mono (hit_bd h) (fun r8 σ9 h => ?_))) okX7_note mw_787 hL1 (cE_7 Ω k1 _) rfl rfl (Nat.le_of_ble_eq_true rfl) rfl rfl ⟨by decide, by decide⟩ dX0_tellEnd_72
  refine R_aload_n (i := 1) dX0_tellEnd_75 rfl rfl ?_
  refine R_get foX0_108 hL1 (cE_7 Ω k1 _) rfl dX0_tellEnd_76 ?_
  refine R_iload_n (i := 3) dX0_tellEnd_79 rfl rfl ?_
  obtain ⟨hb, h⟩ := hit_bnd h
  refine R_iald (WF.kid hW 0 hL1 rfl) (cE_45 Ω k1 _) hb dX0_tellEnd_80 ?_
  exact R_iret dX0_tellEnd_81 rfl h
set_option maxRecDepth 100000 in
set_option maxHeartbeats 4000000 in
theorem rnX0_tellEnd_j15 {l : Launch} {Ω : rO} (hW : WF Ω) (k1 : Nat) (x2 : Int32) (hL1 : oL Ω 7 k1) (σ : rS) {K : Int32 → rS → Prop}  (h : hit (fX0_tellEnd_j15 k1 x2 σ) K) : Run l Ω cX0_tellEnd RX0 4 (some .int) rmX0_tellEnd K 15 [none, some (rf Ω 7 k1), some (.int x2), none] [] σ := by
  unfold fX0_tellEnd_j15 at h
  refine R_aload_n (i := 1) dX0_tellEnd_15 rfl rfl ?_
  refine R_get foX0_114 hL1 (cE_7 Ω k1 _) rfl dX0_tellEnd_16 ?_
  refine R_iconst (v := 0) dX0_tellEnd_19 rfl ?_
  refine R_callVi (ctX4_get l Ω (6 * k1 + 0) 0 (WF.kid hW 11 hL1 rfl) _ _ (hit_mono (hit_bd h) (fun r1 σ2 h => ?_))) okX4_get mw_839 (WF.kid hW 11 hL1 rfl) (cE_4 Ω (6 * k1 + 0) _) rfl rfl (Nat.le_of_ble_eq_true rfl) rfl rfl ⟨by decide, by decide⟩ dX0_tellEnd_20
  refine R_istore_n (lv2 := [none, some (rf Ω 7 k1), some (.int x2), some (.int r1)]) dX0_tellEnd_23 rfl (by decide) rfl rfl ?_
  refine R_aload_n (i := 1) dX0_tellEnd_24 rfl rfl ?_
  refine R_iload_n (i := 3) dX0_tellEnd_25 rfl rfl ?_
  refine R_callVi (ctX7_isSlot l Ω k1 r1 hL1 _ _ (hit_mono (hit_bd h) (fun r3 σ4 h => ?_))) okX7_isSlot mw_840 hL1 (cE_7 Ω k1 _) rfl rfl (Nat.le_of_ble_eq_true rfl) rfl rfl ⟨by decide, by decide⟩ dX0_tellEnd_26
  refine R_if_ne (tgt := 35) dX0_tellEnd_29 (by decide) (fun hc => ?_) (fun hc => ?_)
  · have h := hit_f h hc
    refine R_aload_n (i := 1) dX0_tellEnd_35 rfl rfl ?_
    refine R_get foX0_114 hL1 (cE_7 Ω k1 _) rfl dX0_tellEnd_36 ?_
    refine R_iconst (v := 0) dX0_tellEnd_39 rfl ?_
    refine R_callVv (ctX4_removeAt l Ω (6 * k1 + 0) 0 (WF.kid hW 11 hL1 rfl) _ _ (hit_mono (hit_bd h) (fun r5 σ6 h => ?_))) okX4_removeAt mw_841 (WF.kid hW 11 hL1 rfl) (cE_4 Ω (6 * k1 + 0) _) rfl rfl (Nat.le_of_ble_eq_true rfl) rfl rfl ⟨by decide, by decide⟩ dX0_tellEnd_40
    refine R_aload_n (i := 1) dX0_tellEnd_43 rfl rfl ?_
    refine R_get foX0_130 hL1 (cE_7 Ω k1 _) rfl dX0_tellEnd_44 ?_
    refine R_iload_n (i := 3) dX0_tellEnd_47 rfl rfl ?_
    refine R_iconst (v := 0) dX0_tellEnd_48 rfl ?_
    obtain ⟨hb, h⟩ := hit_bnd h
    refine R_iast (WF.kid hW 1 hL1 rfl) (cE_46 Ω k1) hb dX0_tellEnd_49 ?_
    refine R_st h (fun σ7 h => ?_)
    refine R_iload_n (i := 2) dX0_tellEnd_50 rfl rfl ?_
    refine R_bipush (v := 8) dX0_tellEnd_51 rfl ?_
    refine R_icmp_eq (tgt := 63) dX0_tellEnd_53 (by decide) (fun hc => ?_) (fun hc => ?_)
    · have h := hit_t h hc
      refine R_drop (lv2 := [none, some (rf Ω 7 k1), none, some (.int r1)]) 2 rfl ?_
      exact rnX0_tellEnd_j63 hW k1 r1 hL1 σ7  h
    · have h := hit_f h hc
      refine R_aload_n (i := 1) dX0_tellEnd_56 rfl rfl ?_
      refine R_get foX0_78 hL1 (cE_7 Ω k1 _) rfl dX0_tellEnd_57 ?_
      refine R_iload_n (i := 2) dX0_tellEnd_60 rfl rfl ?_
      refine R_iload_n (i := 3) dX0_tellEnd_61 rfl rfl ?_
      obtain ⟨hb, h⟩ := hit_bnd h
      refine R_iast (WF.kid hW 8 hL1 rfl) (cE_53 Ω k1) hb dX0_tellEnd_62 ?_
      refine R_st h (fun σ10 h => ?_)
      refine R_drop (lv2 := [none, some (rf Ω 7 k1), none, some (.int r1)]) 2 rfl ?_
      exact rnX0_tellEnd_j63 hW k1 r1 hL1 σ10  h
  · have h := hit_t h hc
    refine R_bipush (v := (-3)) dX0_tellEnd_32 rfl ?_
    exact R_iret dX0_tellEnd_34 rfl h
set_option maxRecDepth 100000 in
set_option maxHeartbeats 4000000 in
theorem ctX0_tellEnd (l : Launch) (Ω : rO) (k1 : Nat) (x2 : Int32) (hL0 : oL Ω 0 0) (hL1 : oL Ω 7 k1) (σ : rS) (K : Int32 → rS → Prop) (h : hit (fX0_tellEnd k1 x2 σ) K) : Ct l Ω yX0_tellEnd cX0_tellEnd 4 (some .int) rmX0_tellEnd [rf Ω 0 0, rf Ω 7 k1, .int x2] σ K := by
  refine Ct.of (own := RX0) (lv := [some (rf Ω 0 0), some (rf Ω 7 k1), some (.int x2), none]) (by decide) rfl (Nat.le_of_ble_eq_true rfl) rfl (fun hW => ?_)
  unfold fX0_tellEnd at h
  refine R_iload_n (i := 2) dX0_tellEnd_0 rfl rfl ?_
  refine R_bipush (v := 8) dX0_tellEnd_1 rfl ?_
  refine R_icmp_eq (tgt := 15) dX0_tellEnd_3 (by decide) (fun hc => ?_) (fun hc => ?_)
  · have h := hit_t h hc
    refine R_drop (lv2 := [none, some (rf Ω 7 k1), some (.int x2), none]) 0 rfl ?_
    exact rnX0_tellEnd_j15 hW k1 x2 hL1 σ  h
  · have h := hit_f h hc
    refine R_iload_n (i := 2) dX0_tellEnd_6 rfl rfl ?_
    refine R_callSNi (ctX9_isRoot l Ω x2 _ _ (hit_mono (hit_bd h) (fun r11 σ12 h => ?_))) okX9_isRoot nw_619 rfl rfl (Nat.le_of_ble_eq_true rfl) rfl rfl ⟨by decide, by decide⟩ dX0_tellEnd_7
    refine R_if_ne (tgt := 15) dX0_tellEnd_10 (by decide) (fun hc => ?_) (fun hc => ?_)
    · have h := hit_f h hc
      refine R_drop (lv2 := [none, some (rf Ω 7 k1), some (.int x2), none]) 0 rfl ?_
      exact rnX0_tellEnd_j15 hW k1 x2 hL1 σ12  h
    · have h := hit_t h hc
      refine R_iconst (v := (-1)) dX0_tellEnd_13 rfl ?_
      exact R_iret dX0_tellEnd_14 rfl h
set_option maxRecDepth 100000 in
set_option maxHeartbeats 4000000 in
theorem ctX0_askLost (l : Launch) (Ω : rO) (k1 : Nat) (hL0 : oL Ω 0 0) (hL1 : oL Ω 7 k1) (σ : rS) (K : Int32 → rS → Prop) (h : hit (fX0_askLost k1 σ) K) : Ct l Ω yX0_askLost cX0_askLost 3 (some .int) rmX0_askLost [rf Ω 0 0, rf Ω 7 k1] σ K := by
  refine Ct.of (own := RX0) (lv := [some (rf Ω 0 0), some (rf Ω 7 k1), none]) (by decide) rfl (Nat.le_of_ble_eq_true rfl) rfl (fun hW => ?_)
  unfold fX0_askLost at h
  refine R_aload_n (i := 1) dX0_askLost_0 rfl rfl ?_
  refine R_get foX0_133 hL1 (cE_7 Ω k1 _) rfl dX0_askLost_1 ?_
  refine R_get foX0_136 (WF.kid hW 12 hL1 rfl) (cE_4 Ω (6 * k1 + 1) _) rfl dX0_askLost_4 ?_
  refine R_if_ne (tgt := 13) dX0_askLost_7 (by decide) (fun hc => ?_) (fun hc => ?_)
  · have h := hit_f h hc
    refine R_aload_n (i := 1) dX0_askLost_13 rfl rfl ?_
    refine R_get foX0_133 hL1 (cE_7 Ω k1 _) rfl dX0_askLost_14 ?_
    refine R_iconst (v := 0) dX0_askLost_17 rfl ?_
    refine R_callVi (ctX4_get l Ω (6 * k1 + 1) 0 (WF.kid hW 12 hL1 rfl) _ _ (hit_mono (hit_bd h) (fun r1 σ2 h => ?_))) okX4_get mw_839 (WF.kid hW 12 hL1 rfl) (cE_4 Ω (6 * k1 + 1) _) rfl rfl (Nat.le_of_ble_eq_true rfl) rfl rfl ⟨by decide, by decide⟩ dX0_askLost_18
    refine R_istore_n (lv2 := [some (rf Ω 0 0), some (rf Ω 7 k1), some (.int r1)]) dX0_askLost_21 rfl (by decide) rfl rfl ?_
    refine R_aload_n (i := 1) dX0_askLost_22 rfl rfl ?_
    refine R_get foX0_133 hL1 (cE_7 Ω k1 _) rfl dX0_askLost_23 ?_
    refine R_iconst (v := 0) dX0_askLost_26 rfl ?_
    refine R_callVv (ctX4_removeAt l Ω (6 * k1 + 1) 0 (WF.kid hW 12 hL1 rfl) _ _ (hit_mono (hit_bd h) (fun r3 σ4 h => ?_))) okX4_removeAt mw_841 (WF.kid hW 12 hL1 rfl) (cE_4 Ω (6 * k1 + 1) _) rfl rfl (Nat.le_of_ble_eq_true rfl) rfl rfl ⟨by decide, by decide⟩ dX0_askLost_27
    refine R_aload_n (i := 1) dX0_askLost_30 rfl rfl ?_
    refine R_bipush (v := 7) dX0_askLost_31 rfl ?_
    refine R_iload_n (i := 2) dX0_askLost_33 rfl rfl ?_
    refine R_callVv (ctX7_note l Ω k1 7 r1 hL1 _ _ (hit_mono (hit_bd h) (fun r5 σ6 h => ?_))) okX7_note mw_787 hL1 (cE_7 Ω k1 _) rfl rfl (Nat.le_of_ble_eq_true rfl) rfl rfl ⟨by decide, by decide⟩ dX0_askLost_34
    refine R_iload_n (i := 2) dX0_askLost_37 rfl rfl ?_
    exact R_iret dX0_askLost_38 rfl h
  · have h := hit_t h hc
    refine R_bipush (v := (-3)) dX0_askLost_10 rfl ?_
    exact R_iret dX0_askLost_12 rfl h
set_option maxRecDepth 100000 in
set_option maxHeartbeats 4000000 in
theorem ctX2_next (l : Launch) (Ω : rO) (x1 : Int32) (hL0 : oL Ω 2 0) (σ : rS) (K : Int32 → rS → Prop) (h : hit (fX2_next x1 σ) K) : Ct l Ω yX2_next cX2_next 2 (some .int) rmX2_next [rf Ω 2 0, .int x1] σ K := by
  refine Ct.of (own := RX2) (lv := [some (rf Ω 2 0), some (.int x1)]) (by decide) rfl (Nat.le_of_ble_eq_true rfl) rfl (fun hW => ?_)
  unfold fX2_next at h
  refine R_aload_n (i := 0) dX2_next_0 rfl rfl ?_
  refine R_aload_n (i := 0) dX2_next_1 rfl rfl ?_
  refine R_get foX2_9 hL0 (cE_2 Ω 0 _) rfl dX2_next_2 ?_
  refine R_ldc2 (v := 6364136223846793005) mw_921 dX2_next_5 ?_
  refine R_lmul dX2_next_8 ?_
  refine R_ldc2 (v := 1442695040888963407) mw_922 dX2_next_9 ?_
  refine R_ladd dX2_next_12 ?_
  refine R_putJ poX2_9 hL0 (cE_2 Ω 0 _) (cL_2 Ω 0 _ _) (Nat.le_of_ble_eq_true rfl) dX2_next_13 ?_
  refine R_st h (fun σ1 h => ?_)
  refine R_iload_n (i := 1) dX2_next_16 rfl rfl ?_
  refine R_if_gt (tgt := 24) dX2_next_17 (by decide) (fun hc => ?_) (fun hc => ?_)
  · have h := hit_t h hc
    refine R_aload_n (i := 0) dX2_next_24 rfl rfl ?_
    refine R_get foX2_9 hL0 (cE_2 Ω 0 _) rfl dX2_next_25 ?_
    refine R_bipush (v := 33) dX2_next_28 rfl ?_
    refine R_lushr dX2_next_30 ?_
    refine R_iload_n (i := 1) dX2_next_31 rfl rfl ?_
    refine R_i2l dX2_next_32 ?_
    obtain ⟨hz, h⟩ := hit_blz h
    refine R_lrem dX2_next_33 hz ?_
    refine R_l2i dX2_next_34 ?_
    exact R_iret dX2_next_35 rfl h
  · have h := hit_f h hc
    refine R_iconst (v := 0) dX2_next_20 rfl ?_
    refine R_goto (tgt := 35) dX2_next_21 (by decide) ?_
    exact R_iret dX2_next_35 rfl h
set_option maxRecDepth 100000 in
set_option maxHeartbeats 4000000 in
theorem ctX2_tellAct (l : Launch) (Ω : rO) (x1 : Int32) (x2 : Int32) (x3 : Int32) (x4 : Int32) (x5 : Int32) (hL0 : oL Ω 2 0) (σ : rS) (K : Int32 → rS → Prop) (h : hit (fX2_tellAct x1 x2 x3 x4 x5 σ) K) : Ct l Ω yX2_tellAct cX2_tellAct 6 none rmX2_tellAct [rf Ω 2 0, .int x1, .int x2, .int x3, .int x4, .int x5] σ K := by
  refine Ct.of (own := RX2) (lv := [some (rf Ω 2 0), some (.int x1), some (.int x2), some (.int x3), some (.int x4), some (.int x5)]) (by decide) rfl (Nat.le_of_ble_eq_true rfl) rfl (fun hW => ?_)
  unfold fX2_tellAct at h
  refine R_aload_n (i := 0) dX2_tellAct_0 rfl rfl ?_
  refine R_iload_n (i := 1) dX2_tellAct_1 rfl rfl ?_
  refine R_put poX2_26 hL0 (cE_2 Ω 0 _) (cP_2_1 Ω 0 _ _) (Nat.le_of_ble_eq_true rfl) dX2_tellAct_2 ?_
  refine R_st h (fun σ1 h => ?_)
  refine R_aload_n (i := 0) dX2_tellAct_5 rfl rfl ?_
  refine R_iload_n (i := 2) dX2_tellAct_6 rfl rfl ?_
  refine R_put poX2_30 hL0 (cE_2 Ω 0 _) (cP_2_2 Ω 0 _ _) (Nat.le_of_ble_eq_true rfl) dX2_tellAct_7 ?_
  refine R_st h (fun σ2 h => ?_)
  refine R_aload_n (i := 0) dX2_tellAct_10 rfl rfl ?_
  refine R_iload_n (i := 3) dX2_tellAct_11 rfl rfl ?_
  refine R_put poX2_33 hL0 (cE_2 Ω 0 _) (cP_2_3 Ω 0 _ _) (Nat.le_of_ble_eq_true rfl) dX2_tellAct_12 ?_
  refine R_st h (fun σ3 h => ?_)
  refine R_aload_n (i := 0) dX2_tellAct_15 rfl rfl ?_
  refine R_iload (i := 4) dX2_tellAct_16 rfl ?_
  refine R_put poX2_36 hL0 (cE_2 Ω 0 _) (cP_2_4 Ω 0 _ _) (Nat.le_of_ble_eq_true rfl) dX2_tellAct_18 ?_
  refine R_st h (fun σ4 h => ?_)
  refine R_aload_n (i := 0) dX2_tellAct_21 rfl rfl ?_
  refine R_iload (i := 5) dX2_tellAct_22 rfl ?_
  refine R_put poX2_39 hL0 (cE_2 Ω 0 _) (cP_2_5 Ω 0 _ _) (Nat.le_of_ble_eq_true rfl) dX2_tellAct_24 ?_
  refine R_st h (fun σ5 h => ?_)
  exact R_vret dX2_tellAct_27 rfl h
set_option maxRecDepth 100000 in
set_option maxHeartbeats 4000000 in
theorem ctX2_drawRareAct (l : Launch) (Ω : rO) (hL0 : oL Ω 2 0) (σ : rS) (K : Int32 → rS → Prop) (h : hit (fX2_drawRareAct  σ) K) : Ct l Ω yX2_drawRareAct cX2_drawRareAct 2 none rmX2_drawRareAct [rf Ω 2 0] σ K := by
  refine Ct.of (own := RX2) (lv := [some (rf Ω 2 0), none]) (by decide) rfl (Nat.le_of_ble_eq_true rfl) rfl (fun hW => ?_)
  unfold fX2_drawRareAct at h
  refine R_aload_n (i := 0) dX2_drawRareAct_0 rfl rfl ?_
  refine R_iconst (v := 3) dX2_drawRareAct_1 rfl ?_
  refine R_callVi (ctX2_next l Ω 3 hL0 _ _ (hit_mono (hit_bd h) (fun r1 σ2 h => ?_))) okX2_next mw_917 hL0 (cE_2 Ω 0 _) rfl rfl (Nat.le_of_ble_eq_true rfl) rfl rfl ⟨by decide, by decide⟩ dX2_drawRareAct_2
  refine R_istore_n (lv2 := [some (rf Ω 2 0), some (.int r1)]) dX2_drawRareAct_5 rfl (by decide) rfl rfl ?_
  refine R_iload_n (i := 1) dX2_drawRareAct_6 rfl rfl ?_
  refine R_if_ne (tgt := 22) dX2_drawRareAct_7 (by decide) (fun hc => ?_) (fun hc => ?_)
  · have h := hit_f h hc
    refine R_iload_n (i := 1) dX2_drawRareAct_22 rfl rfl ?_
    refine R_iconst (v := 1) dX2_drawRareAct_23 rfl ?_
    refine R_icmp_ne (tgt := 39) dX2_drawRareAct_24 (by decide) (fun hc => ?_) (fun hc => ?_)
    · have h := hit_f h hc
      refine R_aload_n (i := 0) dX2_drawRareAct_39 rfl rfl ?_
      refine R_bipush (v := 6) dX2_drawRareAct_40 rfl ?_
      refine R_aload_n (i := 0) dX2_drawRareAct_42 rfl rfl ?_
      refine R_bipush (v := 9) dX2_drawRareAct_43 rfl ?_
      refine R_callVi (ctX2_next l Ω 9 hL0 _ _ (hit_mono (hit_bd h) (fun r3 σ4 h => ?_))) okX2_next mw_917 hL0 (cE_2 Ω 0 _) rfl rfl (Nat.le_of_ble_eq_true rfl) rfl rfl ⟨by decide, by decide⟩ dX2_drawRareAct_45
      refine R_iconst (v := (-1)) dX2_drawRareAct_48 rfl ?_
      refine R_iconst (v := (-1)) dX2_drawRareAct_49 rfl ?_
      refine R_iconst (v := (-1)) dX2_drawRareAct_50 rfl ?_
      refine R_callVv (ctX2_tellAct l Ω 6 r3 (-1) (-1) (-1) hL0 _ _ (hit_mono (hit_bd h) (fun r5 σ6 h => ?_))) okX2_tellAct mw_923 hL0 (cE_2 Ω 0 _) rfl rfl (Nat.le_of_ble_eq_true rfl) rfl rfl ⟨by decide, by decide⟩ dX2_drawRareAct_51
      exact R_vret dX2_drawRareAct_54 rfl h
    · have h := hit_t h hc
      refine R_aload_n (i := 0) dX2_drawRareAct_27 rfl rfl ?_
      refine R_iconst (v := 5) dX2_drawRareAct_28 rfl ?_
      refine R_iconst (v := (-1)) dX2_drawRareAct_29 rfl ?_
      refine R_iconst (v := (-1)) dX2_drawRareAct_30 rfl ?_
      refine R_iconst (v := (-1)) dX2_drawRareAct_31 rfl ?_
      refine R_iconst (v := (-1)) dX2_drawRareAct_32 rfl ?_
      refine R_callVv (ctX2_tellAct l Ω 5 (-1) (-1) (-1) (-1) hL0 _ _ (hit_mono (hit_bd h) (fun r7 σ8 h => ?_))) okX2_tellAct mw_923 hL0 (cE_2 Ω 0 _) rfl rfl (Nat.le_of_ble_eq_true rfl) rfl rfl ⟨by decide, by decide⟩ dX2_drawRareAct_33
      refine R_goto (tgt := 54) dX2_drawRareAct_36 (by decide) ?_
      exact R_vret dX2_drawRareAct_54 rfl h
  · have h := hit_t h hc
    refine R_aload_n (i := 0) dX2_drawRareAct_10 rfl rfl ?_
    refine R_iconst (v := 4) dX2_drawRareAct_11 rfl ?_
    refine R_iconst (v := (-1)) dX2_drawRareAct_12 rfl ?_
    refine R_iconst (v := (-1)) dX2_drawRareAct_13 rfl ?_
    refine R_iconst (v := (-1)) dX2_drawRareAct_14 rfl ?_
    refine R_iconst (v := (-1)) dX2_drawRareAct_15 rfl ?_
    refine R_callVv (ctX2_tellAct l Ω 4 (-1) (-1) (-1) (-1) hL0 _ _ (hit_mono (hit_bd h) (fun r9 σ10 h => ?_))) okX2_tellAct mw_923 hL0 (cE_2 Ω 0 _) rfl rfl (Nat.le_of_ble_eq_true rfl) rfl rfl ⟨by decide, by decide⟩ dX2_drawRareAct_16
    refine R_goto (tgt := 54) dX2_drawRareAct_19 (by decide) ?_
    exact R_vret dX2_drawRareAct_54 rfl h
set_option maxRecDepth 100000 in
set_option maxHeartbeats 4000000 in
theorem ctX2_drawAct (l : Launch) (Ω : rO) (hL0 : oL Ω 2 0) (σ : rS) (K : Int32 → rS → Prop) (h : hit (fX2_drawAct  σ) K) : Ct l Ω yX2_drawAct cX2_drawAct 2 none rmX2_drawAct [rf Ω 2 0] σ K := by
  refine Ct.of (own := RX2) (lv := [some (rf Ω 2 0), none]) (by decide) rfl (Nat.le_of_ble_eq_true rfl) rfl (fun hW => ?_)
  unfold fX2_drawAct at h
  refine R_aload_n (i := 0) dX2_drawAct_0 rfl rfl ?_
  refine R_bipush (v := 10) dX2_drawAct_1 rfl ?_
  refine R_callVi (ctX2_next l Ω 10 hL0 _ _ (hit_mono (hit_bd h) (fun r1 σ2 h => ?_))) okX2_next mw_917 hL0 (cE_2 Ω 0 _) rfl rfl (Nat.le_of_ble_eq_true rfl) rfl rfl ⟨by decide, by decide⟩ dX2_drawAct_3
  refine R_istore_n (lv2 := [some (rf Ω 2 0), some (.int r1)]) dX2_drawAct_6 rfl (by decide) rfl rfl ?_
  refine R_iload_n (i := 1) dX2_drawAct_7 rfl rfl ?_
  refine R_iconst (v := 3) dX2_drawAct_8 rfl ?_
  refine R_icmp_gt (tgt := 45) dX2_drawAct_9 (by decide) (fun hc => ?_) (fun hc => ?_)
  · have h := hit_t h hc
    refine R_iload_n (i := 1) dX2_drawAct_45 rfl rfl ?_
    refine R_bipush (v := 6) dX2_drawAct_46 rfl ?_
    refine R_icmp_gt (tgt := 77) dX2_drawAct_48 (by decide) (fun hc => ?_) (fun hc => ?_)
    · have h := hit_t h hc
      refine R_iload_n (i := 1) dX2_drawAct_77 rfl rfl ?_
      refine R_bipush (v := 7) dX2_drawAct_78 rfl ?_
      refine R_icmp_ne (tgt := 109) dX2_drawAct_80 (by decide) (fun hc => ?_) (fun hc => ?_)
      · have h := hit_f h hc
        refine R_iload_n (i := 1) dX2_drawAct_109 rfl rfl ?_
        refine R_bipush (v := 8) dX2_drawAct_110 rfl ?_
        refine R_icmp_ne (tgt := 132) dX2_drawAct_112 (by decide) (fun hc => ?_) (fun hc => ?_)
        · have h := hit_f h hc
          refine R_aload_n (i := 0) dX2_drawAct_132 rfl rfl ?_
          refine R_callVv (ctX2_drawRareAct l Ω hL0 _ _ (hit_mono (hit_bd h) (fun r3 σ4 h => ?_))) okX2_drawRareAct mw_927 hL0 (cE_2 Ω 0 _) rfl rfl (Nat.le_of_ble_eq_true rfl) rfl rfl ⟨by decide, by decide⟩ dX2_drawAct_133
          exact R_vret dX2_drawAct_136 rfl h
        · have h := hit_t h hc
          refine R_aload_n (i := 0) dX2_drawAct_115 rfl rfl ?_
          refine R_iconst (v := 3) dX2_drawAct_116 rfl ?_
          refine R_aload_n (i := 0) dX2_drawAct_117 rfl rfl ?_
          refine R_bipush (v := 8) dX2_drawAct_118 rfl ?_
          refine R_callVi (ctX2_next l Ω 8 hL0 _ _ (hit_mono (hit_bd h) (fun r5 σ6 h => ?_))) okX2_next mw_917 hL0 (cE_2 Ω 0 _) rfl rfl (Nat.le_of_ble_eq_true rfl) rfl rfl ⟨by decide, by decide⟩ dX2_drawAct_120
          refine R_iconst (v := (-1)) dX2_drawAct_123 rfl ?_
          refine R_iconst (v := (-1)) dX2_drawAct_124 rfl ?_
          refine R_iconst (v := (-1)) dX2_drawAct_125 rfl ?_
          refine R_callVv (ctX2_tellAct l Ω 3 r5 (-1) (-1) (-1) hL0 _ _ (hit_mono (hit_bd h) (fun r7 σ8 h => ?_))) okX2_tellAct mw_923 hL0 (cE_2 Ω 0 _) rfl rfl (Nat.le_of_ble_eq_true rfl) rfl rfl ⟨by decide, by decide⟩ dX2_drawAct_126
          refine R_goto (tgt := 136) dX2_drawAct_129 (by decide) ?_
          exact R_vret dX2_drawAct_136 rfl h
      · have h := hit_t h hc
        refine R_aload_n (i := 0) dX2_drawAct_83 rfl rfl ?_
        refine R_iconst (v := 2) dX2_drawAct_84 rfl ?_
        refine R_aload_n (i := 0) dX2_drawAct_85 rfl rfl ?_
        refine R_bipush (v := 8) dX2_drawAct_86 rfl ?_
        refine R_callVi (ctX2_next l Ω 8 hL0 _ _ (hit_mono (hit_bd h) (fun r9 σ10 h => ?_))) okX2_next mw_917 hL0 (cE_2 Ω 0 _) rfl rfl (Nat.le_of_ble_eq_true rfl) rfl rfl ⟨by decide, by decide⟩ dX2_drawAct_88
        refine R_aload_n (i := 0) dX2_drawAct_91 rfl rfl ?_
        refine R_bipush (v := 8) dX2_drawAct_92 rfl ?_
        refine R_callVi (ctX2_next l Ω 8 hL0 _ _ (hit_mono (hit_bd h) (fun r11 σ12 h => ?_))) okX2_next mw_917 hL0 (cE_2 Ω 0 _) rfl rfl (Nat.le_of_ble_eq_true rfl) rfl rfl ⟨by decide, by decide⟩ dX2_drawAct_94
        refine R_aload_n (i := 0) dX2_drawAct_97 rfl rfl ?_
        refine R_iconst (v := 4) dX2_drawAct_98 rfl ?_
        refine R_callVi (ctX2_next l Ω 4 hL0 _ _ (hit_mono (hit_bd h) (fun r13 σ14 h => ?_))) okX2_next mw_917 hL0 (cE_2 Ω 0 _) rfl rfl (Nat.le_of_ble_eq_true rfl) rfl rfl ⟨by decide, by decide⟩ dX2_drawAct_99
        refine R_iconst (v := (-1)) dX2_drawAct_102 rfl ?_
        refine R_callVv (ctX2_tellAct l Ω 2 r9 r11 r13 (-1) hL0 _ _ (hit_mono (hit_bd h) (fun r15 σ16 h => ?_))) okX2_tellAct mw_923 hL0 (cE_2 Ω 0 _) rfl rfl (Nat.le_of_ble_eq_true rfl) rfl rfl ⟨by decide, by decide⟩ dX2_drawAct_103
        refine R_goto (tgt := 136) dX2_drawAct_106 (by decide) ?_
        exact R_vret dX2_drawAct_136 rfl h
    · have h := hit_f h hc
      refine R_aload_n (i := 0) dX2_drawAct_51 rfl rfl ?_
      refine R_iconst (v := 1) dX2_drawAct_52 rfl ?_
      refine R_aload_n (i := 0) dX2_drawAct_53 rfl rfl ?_
      refine R_bipush (v := 8) dX2_drawAct_54 rfl ?_
      refine R_callVi (ctX2_next l Ω 8 hL0 _ _ (hit_mono (hit_bd h) (fun r17 σ18 h => ?_))) okX2_next mw_917 hL0 (cE_2 Ω 0 _) rfl rfl (Nat.le_of_ble_eq_true rfl) rfl rfl ⟨by decide, by decide⟩ dX2_drawAct_56
      refine R_aload_n (i := 0) dX2_drawAct_59 rfl rfl ?_
      refine R_iconst (v := 4) dX2_drawAct_60 rfl ?_
      refine R_callVi (ctX2_next l Ω 4 hL0 _ _ (hit_mono (hit_bd h) (fun r19 σ20 h => ?_))) okX2_next mw_917 hL0 (cE_2 Ω 0 _) rfl rfl (Nat.le_of_ble_eq_true rfl) rfl rfl ⟨by decide, by decide⟩ dX2_drawAct_61
      refine R_aload_n (i := 0) dX2_drawAct_64 rfl rfl ?_
      refine R_bipush (v := 9) dX2_drawAct_65 rfl ?_
      refine R_callVi (ctX2_next l Ω 9 hL0 _ _ (hit_mono (hit_bd h) (fun r21 σ22 h => ?_))) okX2_next mw_917 hL0 (cE_2 Ω 0 _) rfl rfl (Nat.le_of_ble_eq_true rfl) rfl rfl ⟨by decide, by decide⟩ dX2_drawAct_67
      refine R_iconst (v := (-1)) dX2_drawAct_70 rfl ?_
      refine R_callVv (ctX2_tellAct l Ω 1 r17 r19 r21 (-1) hL0 _ _ (hit_mono (hit_bd h) (fun r23 σ24 h => ?_))) okX2_tellAct mw_923 hL0 (cE_2 Ω 0 _) rfl rfl (Nat.le_of_ble_eq_true rfl) rfl rfl ⟨by decide, by decide⟩ dX2_drawAct_71
      refine R_goto (tgt := 136) dX2_drawAct_74 (by decide) ?_
      exact R_vret dX2_drawAct_136 rfl h
  · have h := hit_f h hc
    refine R_aload_n (i := 0) dX2_drawAct_12 rfl rfl ?_
    refine R_iconst (v := 0) dX2_drawAct_13 rfl ?_
    refine R_aload_n (i := 0) dX2_drawAct_14 rfl rfl ?_
    refine R_bipush (v := 8) dX2_drawAct_15 rfl ?_
    refine R_callVi (ctX2_next l Ω 8 hL0 _ _ (hit_mono (hit_bd h) (fun r25 σ26 h => ?_))) okX2_next mw_917 hL0 (cE_2 Ω 0 _) rfl rfl (Nat.le_of_ble_eq_true rfl) rfl rfl ⟨by decide, by decide⟩ dX2_drawAct_17
    refine R_aload_n (i := 0) dX2_drawAct_20 rfl rfl ?_
    refine R_iconst (v := 3) dX2_drawAct_21 rfl ?_
    refine R_callVi (ctX2_next l Ω 3 hL0 _ _ (hit_mono (hit_bd h) (fun r27 σ28 h => ?_))) okX2_next mw_917 hL0 (cE_2 Ω 0 _) rfl rfl (Nat.le_of_ble_eq_true rfl) rfl rfl ⟨by decide, by decide⟩ dX2_drawAct_22
    refine R_aload_n (i := 0) dX2_drawAct_25 rfl rfl ?_
    refine R_iconst (v := 4) dX2_drawAct_26 rfl ?_
    refine R_callVi (ctX2_next l Ω 4 hL0 _ _ (hit_mono (hit_bd h) (fun r29 σ30 h => ?_))) okX2_next mw_917 hL0 (cE_2 Ω 0 _) rfl rfl (Nat.le_of_ble_eq_true rfl) rfl rfl ⟨by decide, by decide⟩ dX2_drawAct_27
    refine R_iconst (v := 1) dX2_drawAct_30 rfl ?_
    refine R_iadd dX2_drawAct_31 ?_
    refine R_aload_n (i := 0) dX2_drawAct_32 rfl rfl ?_
    refine R_sipush (v := 1000) dX2_drawAct_33 rfl ?_
    refine R_callVi (ctX2_next l Ω 1000 hL0 _ _ (hit_mono (hit_bd h) (fun r31 σ32 h => ?_))) okX2_next mw_917 hL0 (cE_2 Ω 0 _) rfl rfl (Nat.le_of_ble_eq_true rfl) rfl rfl ⟨by decide, by decide⟩ dX2_drawAct_36
    refine R_callVv (ctX2_tellAct l Ω 0 r25 r27 (r29 + 1) r31 hL0 _ _ (hit_mono (hit_bd h) (fun r33 σ34 h => ?_))) okX2_tellAct mw_923 hL0 (cE_2 Ω 0 _) rfl rfl (Nat.le_of_ble_eq_true rfl) rfl rfl ⟨by decide, by decide⟩ dX2_drawAct_39
    refine R_goto (tgt := 136) dX2_drawAct_42 (by decide) ?_
    exact R_vret dX2_drawAct_136 rfl h
set_option maxRecDepth 100000 in
set_option maxHeartbeats 4000000 in
theorem ctX4_holds (l : Launch) (Ω : rO) (k0 : Nat) (x1 : Int32) (hL0 : oL Ω 4 k0) (σ : rS) (K : Int32 → rS → Prop) (h : hit (fX4_holds k0 x1 σ) K) : Ct l Ω yX4_holds cX4_holds 2 (some .boolean) rmX4_holds [rf Ω 4 k0, .int x1] σ K := by
  refine Ct.of (own := RX4) (lv := [some (rf Ω 4 k0), some (.int x1)]) (by decide) rfl (Nat.le_of_ble_eq_true rfl) rfl (fun hW => ?_)
  unfold fX4_holds at h
  refine R_aload_n (i := 0) dX4_holds_0 rfl rfl ?_
  refine R_iload_n (i := 1) dX4_holds_1 rfl rfl ?_
  refine R_callVi (ctX4_find l Ω k0 x1 hL0 _ _ (hit_mono (hit_bd h) (fun r1 σ2 h => ?_))) okX4_find mw_1168 hL0 (cE_4 Ω k0 _) rfl rfl (Nat.le_of_ble_eq_true rfl) rfl rfl ⟨by decide, by decide⟩ dX4_holds_2
  refine R_iconst (v := (-1)) dX4_holds_5 rfl ?_
  refine R_icmp_eq (tgt := 13) dX4_holds_6 (by decide) (fun hc => ?_) (fun hc => ?_)
  · have h := hit_t h hc
    refine R_iconst (v := 0) dX4_holds_13 rfl ?_
    exact R_zret dX4_holds_14 rfl (Or.inl rfl) h
  · have h := hit_f h hc
    refine R_iconst (v := 1) dX4_holds_9 rfl ?_
    refine R_goto (tgt := 14) dX4_holds_10 (by decide) ?_
    exact R_zret dX4_holds_14 rfl (Or.inr rfl) h
set_option maxRecDepth 100000 in
set_option maxHeartbeats 4000000 in
theorem ctX8_byteAt (l : Launch) (Ω : rO) (x1 : Int32) (hL0 : oL Ω 8 0) (σ : rS) (K : Int32 → rS → Prop) (h : hit (fX8_byteAt x1 σ) K) : Ct l Ω yX8_byteAt cX8_byteAt 2 (some .int) rmX8_byteAt [rf Ω 8 0, .int x1] σ K := by
  refine Ct.of (own := RX8) (lv := [some (rf Ω 8 0), some (.int x1)]) (by decide) rfl (Nat.le_of_ble_eq_true rfl) rfl (fun hW => ?_)
  unfold fX8_byteAt at h
  refine R_iload_n (i := 1) dX8_byteAt_0 rfl rfl ?_
  refine R_if_lt (tgt := 21) dX8_byteAt_1 (by decide) (fun hc => ?_) (fun hc => ?_)
  · have h := hit_t h hc
    refine R_iconst (v := 0) dX8_byteAt_21 rfl ?_
    exact R_iret dX8_byteAt_22 rfl h
  · have h := hit_f h hc
    refine R_iload_n (i := 1) dX8_byteAt_4 rfl rfl ?_
    refine R_aload_n (i := 0) dX8_byteAt_5 rfl rfl ?_
    refine R_get foX8_15 hL0 (cE_8 Ω 0 _) rfl dX8_byteAt_6 ?_
    refine R_icmp_ge (tgt := 21) dX8_byteAt_9 (by decide) (fun hc => ?_) (fun hc => ?_)
    · have h := hit_f h hc
      refine R_iconst (v := 0) dX8_byteAt_21 rfl ?_
      exact R_iret dX8_byteAt_22 rfl h
    · have h := hit_t h hc
      refine R_aload_n (i := 0) dX8_byteAt_12 rfl rfl ?_
      refine R_get foX8_9 hL0 (cE_8 Ω 0 _) rfl dX8_byteAt_13 ?_
      refine R_iload_n (i := 1) dX8_byteAt_16 rfl rfl ?_
      obtain ⟨hb, h⟩ := hit_bnd h
      refine R_iald (WF.kid hW 0 hL0 rfl) (cE_25 Ω 0 _) hb dX8_byteAt_17 ?_
      refine R_goto (tgt := 22) dX8_byteAt_18 (by decide) ?_
      exact R_iret dX8_byteAt_22 rfl h
set_option maxRecDepth 100000 in
set_option maxHeartbeats 4000000 in
theorem rnX6_nextSign_j43 {l : Launch} {Ω : rO} (hW : WF Ω) (hL0 : oL Ω 6 0) (σ : rS) {K : Int32 → rS → Prop}  (h : hit (fX6_nextSign_j43  σ) K) : Run l Ω cX6_nextSign RX6 1 (some .int) rmX6_nextSign K 43 [some (rf Ω 6 0)] [] σ := by
  unfold fX6_nextSign_j43 at h
  refine R_aload_n (i := 0) dX6_nextSign_43 rfl rfl ?_
  refine R_get foX6_18 hL0 (cE_6 Ω 0 _) rfl dX6_nextSign_44 ?_
  refine R_aload_n (i := 0) dX6_nextSign_47 rfl rfl ?_
  refine R_get foX6_22 hL0 (cE_6 Ω 0 _) rfl dX6_nextSign_48 ?_
  refine R_callVi (ctX8_byteAt l Ω (σ 6 0 4) (WF.kid hW 0 hL0 rfl) _ _ (hit_mono (hit_bd h) (fun r1 σ2 h => ?_))) okX8_byteAt mw_407 (WF.kid hW 0 hL0 rfl) (cE_8 Ω 0 _) rfl rfl (Nat.le_of_ble_eq_true rfl) rfl rfl ⟨by decide, by decide⟩ dX6_nextSign_51
  exact R_iret dX6_nextSign_54 rfl h
set_option maxRecDepth 100000 in
set_option maxHeartbeats 4000000 in
theorem rsX6_nextSign_L0 {l : Launch} {Ω : rO} (hW : WF Ω) (hL0 : oL Ω 6 0) (σ : rS) {K : Int32 → rS → Prop} {K0 : (Unit ⊕ Unit) → rS → Prop} (hC : ∀ (σ : rS), K0 (.inl ()) σ → Run l Ω cX6_nextSign RX6 1 (some .int) rmX6_nextSign K 0 [some (rf Ω 6 0)] [] σ) (hE0 : ∀ (e : Unit) (σ : rS), K0 (.inr e) σ → Run l Ω cX6_nextSign RX6 1 (some .int) rmX6_nextSign K 43 [some (rf Ω 6 0)] [] σ) (h : hit (fX6_nextSign_L0  σ) K0) : Run l Ω cX6_nextSign RX6 1 (some .int) rmX6_nextSign K 0 [some (rf Ω 6 0)] [] σ := by
  unfold fX6_nextSign_L0 at h
  refine R_aload_n (i := 0) dX6_nextSign_0 rfl rfl ?_
  refine R_get foX6_22 hL0 (cE_6 Ω 0 _) rfl dX6_nextSign_1 ?_
  refine R_aload_n (i := 0) dX6_nextSign_4 rfl rfl ?_
  refine R_get foX6_18 hL0 (cE_6 Ω 0 _) rfl dX6_nextSign_5 ?_
  refine R_get foX6_84 (WF.kid hW 0 hL0 rfl) (cE_8 Ω 0 _) rfl dX6_nextSign_8 ?_
  refine R_icmp_ge (tgt := 43) dX6_nextSign_11 (by decide) (fun hc => ?_) (fun hc => ?_)
  · have h := hit_f h hc
    exact hE0 () σ h
  · have h := hit_t h hc
    refine R_aload_n (i := 0) dX6_nextSign_14 rfl rfl ?_
    refine R_get foX6_18 hL0 (cE_6 Ω 0 _) rfl dX6_nextSign_15 ?_
    refine R_aload_n (i := 0) dX6_nextSign_18 rfl rfl ?_
    refine R_get foX6_22 hL0 (cE_6 Ω 0 _) rfl dX6_nextSign_19 ?_
    refine R_callVi (ctX8_byteAt l Ω (σ 6 0 4) (WF.kid hW 0 hL0 rfl) _ _ (hit_mono (hit_bd h) (fun r6 σ7 h => ?_))) okX8_byteAt mw_407 (WF.kid hW 0 hL0 rfl) (cE_8 Ω 0 _) rfl rfl (Nat.le_of_ble_eq_true rfl) rfl rfl ⟨by decide, by decide⟩ dX6_nextSign_22
    refine R_bipush (v := 32) dX6_nextSign_25 rfl ?_
    refine R_icmp_ne (tgt := 43) dX6_nextSign_27 (by decide) (fun hc => ?_) (fun hc => ?_)
    · have h := hit_f h hc
      exact hE0 () σ7 h
    · have h := hit_t h hc
      refine R_aload_n (i := 0) dX6_nextSign_30 rfl rfl ?_
      refine R_dup dX6_nextSign_31 rfl ?_
      refine R_get foX6_22 hL0 (cE_6 Ω 0 _) rfl dX6_nextSign_32 ?_
      refine R_iconst (v := 1) dX6_nextSign_35 rfl ?_
      refine R_iadd dX6_nextSign_36 ?_
      refine R_put poX6_22 hL0 (cE_6 Ω 0 _) (cP_6_4 Ω 0 _ _) (Nat.le_of_ble_eq_true rfl) dX6_nextSign_37 ?_
      refine R_st h (fun σ8 h => ?_)
      refine R_goto (tgt := 0) dX6_nextSign_40 (by decide) ?_
      exact hC  σ8 h
set_option maxRecDepth 100000 in
set_option maxHeartbeats 4000000 in
theorem rlX6_nextSign_L0 {l : Launch} {Ω : rO} (hW : WF Ω) (hL0 : oL Ω 6 0) {K : Int32 → rS → Prop} {KE : Unit → rS → Prop} (hE0 : ∀ (e : Unit) (σ : rS), KE e σ → Run l Ω cX6_nextSign RX6 1 (some .int) rmX6_nextSign K 43 [some (rf Ω 6 0)] [] σ) : ∀ (n : Nat) (σ : rS), hit (lp (fun (x : Unit) σ => fX6_nextSign_L0  σ) n () σ) KE → Run l Ω cX6_nextSign RX6 1 (some .int) rmX6_nextSign K 0 [some (rf Ω 6 0)] [] σ := by
  intro n
  induction n with
  | zero => intro  σ h; exact (h : False).elim
  | succ n ih =>
    intro  σ h
    exact rsX6_nextSign_L0 hW hL0 σ (fun  σ h => ih  σ h) (fun e σ h => hE0 e σ h) (hit_lp h)
set_option maxRecDepth 100000 in
set_option maxHeartbeats 4000000 in
theorem ctX6_nextSign (l : Launch) (Ω : rO) (hL0 : oL Ω 6 0) (σ : rS) (K : Int32 → rS → Prop) (h : hit (fX6_nextSign  σ) K) : Ct l Ω yX6_nextSign cX6_nextSign 1 (some .int) rmX6_nextSign [rf Ω 6 0] σ K := by
  refine Ct.of (own := RX6) (lv := [some (rf Ω 6 0)]) (by decide) rfl (Nat.le_of_ble_eq_true rfl) rfl (fun hW => ?_)
  unfold fX6_nextSign at h
  refine R_aload_n (i := 0) dX6_nextSign_0 rfl rfl ?_
  refine R_get foX6_22 hL0 (cE_6 Ω 0 _) rfl dX6_nextSign_1 ?_
  refine R_aload_n (i := 0) dX6_nextSign_4 rfl rfl ?_
  refine R_get foX6_18 hL0 (cE_6 Ω 0 _) rfl dX6_nextSign_5 ?_
  refine R_get foX6_84 (WF.kid hW 0 hL0 rfl) (cE_8 Ω 0 _) rfl dX6_nextSign_8 ?_
  refine R_icmp_ge (tgt := 43) dX6_nextSign_11 (by decide) (fun hc => ?_) (fun hc => ?_)
  · have h := hit_f h hc
    exact rnX6_nextSign_j43 hW hL0 σ  h
  · have h := hit_t h hc
    refine R_aload_n (i := 0) dX6_nextSign_14 rfl rfl ?_
    refine R_get foX6_18 hL0 (cE_6 Ω 0 _) rfl dX6_nextSign_15 ?_
    refine R_aload_n (i := 0) dX6_nextSign_18 rfl rfl ?_
    refine R_get foX6_22 hL0 (cE_6 Ω 0 _) rfl dX6_nextSign_19 ?_
    refine R_callVi (ctX8_byteAt l Ω (σ 6 0 4) (WF.kid hW 0 hL0 rfl) _ _ (hit_mono (hit_bd h) (fun r3 σ4 h => ?_))) okX8_byteAt mw_407 (WF.kid hW 0 hL0 rfl) (cE_8 Ω 0 _) rfl rfl (Nat.le_of_ble_eq_true rfl) rfl rfl ⟨by decide, by decide⟩ dX6_nextSign_22
    refine R_bipush (v := 32) dX6_nextSign_25 rfl ?_
    refine R_icmp_ne (tgt := 43) dX6_nextSign_27 (by decide) (fun hc => ?_) (fun hc => ?_)
    · have h := hit_f h hc
      exact rnX6_nextSign_j43 hW hL0 σ4  h
    · have h := hit_t h hc
      refine R_aload_n (i := 0) dX6_nextSign_30 rfl rfl ?_
      refine R_dup dX6_nextSign_31 rfl ?_
      refine R_get foX6_22 hL0 (cE_6 Ω 0 _) rfl dX6_nextSign_32 ?_
      refine R_iconst (v := 1) dX6_nextSign_35 rfl ?_
      refine R_iadd dX6_nextSign_36 ?_
      refine R_put poX6_22 hL0 (cE_6 Ω 0 _) (cP_6_4 Ω 0 _ _) (Nat.le_of_ble_eq_true rfl) dX6_nextSign_37 ?_
      refine R_st h (fun σ5 h => ?_)
      refine R_goto (tgt := 0) dX6_nextSign_40 (by decide) ?_
      refine rlX6_nextSign_L0 hW hL0 ?_ fu  σ5 (hit_bd h)
      · intro e10 σ9 h
        try dsimp only at h
        exact rnX6_nextSign_j43 hW hL0 σ9  h
set_option maxRecDepth 100000 in
set_option maxHeartbeats 4000000 in
theorem ctX6_isDigit (l : Launch) (Ω : rO) (x0 : Int32) (σ : rS) (K : Int32 → rS → Prop) (h : hit (fX6_isDigit x0 σ) K) : Ct l Ω yX6_isDigit cX6_isDigit 1 (some .boolean) rmX6_isDigit [.int x0] σ K := by
  refine Ct.of (own := RX6) (lv := [some (.int x0)]) (by decide) rfl (Nat.le_of_ble_eq_true rfl) rfl (fun hW => ?_)
  unfold fX6_isDigit at h
  refine R_iload_n (i := 0) dX6_isDigit_0 rfl rfl ?_
  refine R_bipush (v := 48) dX6_isDigit_1 rfl ?_
  refine R_icmp_lt (tgt := 16) dX6_isDigit_3 (by decide) (fun hc => ?_) (fun hc => ?_)
  · have h := hit_t h hc
    refine R_iconst (v := 0) dX6_isDigit_16 rfl ?_
    exact R_zret dX6_isDigit_17 rfl (Or.inl rfl) h
  · have h := hit_f h hc
    refine R_iload_n (i := 0) dX6_isDigit_6 rfl rfl ?_
    refine R_bipush (v := 57) dX6_isDigit_7 rfl ?_
    refine R_icmp_gt (tgt := 16) dX6_isDigit_9 (by decide) (fun hc => ?_) (fun hc => ?_)
    · have h := hit_t h hc
      refine R_iconst (v := 0) dX6_isDigit_16 rfl ?_
      exact R_zret dX6_isDigit_17 rfl (Or.inl rfl) h
    · have h := hit_f h hc
      refine R_iconst (v := 1) dX6_isDigit_12 rfl ?_
      refine R_goto (tgt := 17) dX6_isDigit_13 (by decide) ?_
      exact R_zret dX6_isDigit_17 rfl (Or.inr rfl) h
set_option maxRecDepth 100000 in
set_option maxHeartbeats 4000000 in
theorem rsX6_readNumber_L11 {l : Launch} {Ω : rO} (hW : WF Ω) (x1 : Int32) (x2 : Int32) (x3 : Int32) (x4 : Int32) (x5 : Int32) (hL0 : oL Ω 6 0) (σ : rS) {K : Int32 → rS → Prop} {K0 : ((Int32 × Int32 × Int32) ⊕ (Int32 × Int32 × Int32)) → rS → Prop} (hC : ∀ (x3 : Int32) (x4 : Int32) (x5 : Int32) (σ : rS), K0 (.inl (x3, x4, x5)) σ → Run l Ω cX6_readNumber RX6 6 (some .int) rmX6_readNumber K 11 [some (rf Ω 6 0), some (.int x1), some (.int x2), some (.int x3), some (.int x4), some (.int x5)] [] σ) (hE0 : ∀ (e : (Int32 × Int32 × Int32)) (σ : rS), K0 (.inr e) σ → Run l Ω cX6_readNumber RX6 6 (some .int) rmX6_readNumber K 65 [some (rf Ω 6 0), some (.int x1), some (.int x2), some (.int e.1), some (.int e.2.1), some (.int e.2.2)] [] σ) (h : hit (fX6_readNumber_L11 x1 x2 x3 x4 x5 σ) K0) : Run l Ω cX6_readNumber RX6 6 (some .int) rmX6_readNumber K 11 [some (rf Ω 6 0), some (.int x1), some (.int x2), some (.int x3), some (.int x4), some (.int x5)] [] σ := by
  unfold fX6_readNumber_L11 at h
  refine R_iload (i := 4) dX6_readNumber_11 rfl ?_
  refine R_iconst (v := 3) dX6_readNumber_13 rfl ?_
  refine R_icmp_ge (tgt := 65) dX6_readNumber_14 (by decide) (fun hc => ?_) (fun hc => ?_)
  · have h := hit_f h hc
    exact hE0 (x3, x4, x5) σ h
  · have h := hit_t h hc
    refine R_iload (i := 5) dX6_readNumber_17 rfl ?_
    refine R_callSi (ctX6_isDigit l Ω x5 _ _ (hit_mono (hit_bd h) (fun r3 σ4 h => ?_))) okX6_isDigit mw_504 rfl rfl (Nat.le_of_ble_eq_true rfl) rfl rfl ⟨by decide, by decide⟩ dX6_readNumber_19
    refine R_if_eq (tgt := 65) dX6_readNumber_22 (by decide) (fun hc => ?_) (fun hc => ?_)
    · have h := hit_t h hc
      exact hE0 (x3, x4, x5) σ4 h
    · have h := hit_f h hc
      refine R_iload_n (i := 3) dX6_readNumber_25 rfl rfl ?_
      refine R_bipush (v := 10) dX6_readNumber_26 rfl ?_
      refine R_imul dX6_readNumber_28 ?_
      refine R_iload (i := 5) dX6_readNumber_29 rfl ?_
      refine R_iadd dX6_readNumber_31 ?_
      refine R_bipush (v := 48) dX6_readNumber_32 rfl ?_
      refine R_isub dX6_readNumber_34 ?_
      refine R_topi h (fun y5 h => ?_)
      refine R_istore_n (lv2 := [some (rf Ω 6 0), some (.int x1), some (.int x2), some (.int y5), some (.int x4), some (.int x5)]) dX6_readNumber_35 rfl (by decide) rfl rfl ?_
      refine R_iinc (v := x4 + 1) (lv2 := [some (rf Ω 6 0), some (.int x1), some (.int x2), some (.int y5), some (.int (x4 + 1)), some (.int x5)]) dX6_readNumber_36 rfl rfl (by decide) rfl rfl ?_
      refine R_aload_n (i := 0) dX6_readNumber_39 rfl rfl ?_
      refine R_dup dX6_readNumber_40 rfl ?_
      refine R_get foX6_22 hL0 (cE_6 Ω 0 _) rfl dX6_readNumber_41 ?_
      refine R_iconst (v := 1) dX6_readNumber_44 rfl ?_
      refine R_iadd dX6_readNumber_45 ?_
      refine R_put poX6_22 hL0 (cE_6 Ω 0 _) (cP_6_4 Ω 0 _ _) (Nat.le_of_ble_eq_true rfl) dX6_readNumber_46 ?_
      refine R_st h (fun σ6 h => ?_)
      refine R_aload_n (i := 0) dX6_readNumber_49 rfl rfl ?_
      refine R_get foX6_18 hL0 (cE_6 Ω 0 _) rfl dX6_readNumber_50 ?_
      refine R_aload_n (i := 0) dX6_readNumber_53 rfl rfl ?_
      refine R_get foX6_22 hL0 (cE_6 Ω 0 _) rfl dX6_readNumber_54 ?_
      refine R_callVi (ctX8_byteAt l Ω (σ6 6 0 4) (WF.kid hW 0 hL0 rfl) _ _ (hit_mono (hit_bd h) (fun r7 σ8 h => ?_))) okX8_byteAt mw_407 (WF.kid hW 0 hL0 rfl) (cE_8 Ω 0 _) rfl rfl (Nat.le_of_ble_eq_true rfl) rfl rfl ⟨by decide, by decide⟩ dX6_readNumber_57
      refine R_istore (lv2 := [some (rf Ω 6 0), some (.int x1), some (.int x2), some (.int y5), some (.int (x4 + 1)), some (.int r7)]) dX6_readNumber_60 (by decide) rfl rfl ?_
      refine R_goto (tgt := 11) dX6_readNumber_62 (by decide) ?_
      exact hC y5 (x4 + 1) r7 σ8 h
set_option maxRecDepth 100000 in
set_option maxHeartbeats 4000000 in
theorem rlX6_readNumber_L11 {l : Launch} {Ω : rO} (hW : WF Ω) (x1 : Int32) (x2 : Int32) (hL0 : oL Ω 6 0) {K : Int32 → rS → Prop} {KE : (Int32 × Int32 × Int32) → rS → Prop} (hE0 : ∀ (e : (Int32 × Int32 × Int32)) (σ : rS), KE e σ → Run l Ω cX6_readNumber RX6 6 (some .int) rmX6_readNumber K 65 [some (rf Ω 6 0), some (.int x1), some (.int x2), some (.int e.1), some (.int e.2.1), some (.int e.2.2)] [] σ) : ∀ (n : Nat) (x3 : Int32) (x4 : Int32) (x5 : Int32) (σ : rS), hit (lp (fun (x : (Int32 × Int32 × Int32)) σ => fX6_readNumber_L11 x1 x2 x.1 x.2.1 x.2.2 σ) n (x3, x4, x5) σ) KE → Run l Ω cX6_readNumber RX6 6 (some .int) rmX6_readNumber K 11 [some (rf Ω 6 0), some (.int x1), some (.int x2), some (.int x3), some (.int x4), some (.int x5)] [] σ := by
  intro n
  induction n with
  | zero => intro x3 x4 x5 σ h; exact (h : False).elim
  | succ n ih =>
    intro x3 x4 x5 σ h
    exact rsX6_readNumber_L11 hW x1 x2 x3 x4 x5 hL0 σ (fun x3 x4 x5 σ h => ih x3 x4 x5 σ h) (fun e σ h => hE0 e σ h) (hit_lp h)
set_option maxRecDepth 100000 in
set_option maxHeartbeats 4000000 in
theorem rnX6_readNumber_j98 {l : Launch} {Ω : rO} (hW : WF Ω) (hL0 : oL Ω 6 0) (σ : rS) {K : Int32 → rS → Prop}  (h : hit (fX6_readNumber_j98  σ) K) : Run l Ω cX6_readNumber RX6 6 (some .int) rmX6_readNumber K 98 [some (rf Ω 6 0), none, none, none, none, none] [] σ := by
  unfold fX6_readNumber_j98 at h
  refine R_aload_n (i := 0) dX6_readNumber_98 rfl rfl ?_
  refine R_aload_n (i := 0) dX6_readNumber_99 rfl rfl ?_
  refine R_get foX6_22 hL0 (cE_6 Ω 0 _) rfl dX6_readNumber_100 ?_
  refine R_iconst (v := 1) dX6_readNumber_103 rfl ?_
  refine R_isub dX6_readNumber_104 ?_
  refine R_put poX6_57 hL0 (cE_6 Ω 0 _) (cP_6_5 Ω 0 _ _) (Nat.le_of_ble_eq_true rfl) dX6_readNumber_105 ?_
  refine R_st h (fun σ14 h => ?_)
  refine R_iconst (v := (-1)) dX6_readNumber_108 rfl ?_
  exact R_iret dX6_readNumber_109 rfl h
set_option maxRecDepth 100000 in
set_option maxHeartbeats 4000000 in
theorem rnX6_readNumber_j65 {l : Launch} {Ω : rO} (hW : WF Ω) (x1 : Int32) (x2 : Int32) (x3 : Int32) (x4 : Int32) (x5 : Int32) (hL0 : oL Ω 6 0) (σ : rS) {K : Int32 → rS → Prop}  (h : hit (fX6_readNumber_j65 x1 x2 x3 x4 x5 σ) K) : Run l Ω cX6_readNumber RX6 6 (some .int) rmX6_readNumber K 65 [some (rf Ω 6 0), some (.int x1), some (.int x2), some (.int x3), some (.int x4), some (.int x5)] [] σ := by
  unfold fX6_readNumber_j65 at h
  refine R_iload (i := 4) dX6_readNumber_65 rfl ?_
  refine R_if_eq (tgt := 78) dX6_readNumber_67 (by decide) (fun hc => ?_) (fun hc => ?_)
  · have h := hit_t h hc
    refine R_aload_n (i := 0) dX6_readNumber_78 rfl rfl ?_
    refine R_aload_n (i := 0) dX6_readNumber_79 rfl rfl ?_
    refine R_get foX6_22 hL0 (cE_6 Ω 0 _) rfl dX6_readNumber_80 ?_
    refine R_put poX6_57 hL0 (cE_6 Ω 0 _) (cP_6_5 Ω 0 _ _) (Nat.le_of_ble_eq_true rfl) dX6_readNumber_83 ?_
    refine R_st h (fun σ11 h => ?_)
    refine R_iconst (v := (-1)) dX6_readNumber_86 rfl ?_
    exact R_iret dX6_readNumber_87 rfl h
  · have h := hit_f h hc
    refine R_iload (i := 5) dX6_readNumber_70 rfl ?_
    refine R_callSi (ctX6_isDigit l Ω x5 _ _ (hit_mono (hit_bd h) (fun r12 σ13 h => ?_))) okX6_isDigit mw_504 rfl rfl (Nat.le_of_ble_eq_true rfl) rfl rfl ⟨by decide, by decide⟩ dX6_readNumber_72
    refine R_if_eq (tgt := 88) dX6_readNumber_75 (by decide) (fun hc => ?_) (fun hc => ?_)
    · have h := hit_t h hc
      refine R_iload_n (i := 3) dX6_readNumber_88 rfl rfl ?_
      refine R_iload_n (i := 1) dX6_readNumber_89 rfl rfl ?_
      refine R_icmp_lt (tgt := 98) dX6_readNumber_90 (by decide) (fun hc => ?_) (fun hc => ?_)
      · have h := hit_t h hc
        refine R_drop (lv2 := [some (rf Ω 6 0), none, some (.int x2), some (.int x3), some (.int x4), some (.int x5)]) 1 rfl ?_
        refine R_drop (lv2 := [some (rf Ω 6 0), none, none, some (.int x3), some (.int x4), some (.int x5)]) 2 rfl ?_
        refine R_drop (lv2 := [some (rf Ω 6 0), none, none, none, some (.int x4), some (.int x5)]) 3 rfl ?_
        refine R_drop (lv2 := [some (rf Ω 6 0), none, none, none, none, some (.int x5)]) 4 rfl ?_
        refine R_drop (lv2 := [some (rf Ω 6 0), none, none, none, none, none]) 5 rfl ?_
        exact rnX6_readNumber_j98 hW hL0 σ13  h
      · have h := hit_f h hc
        refine R_iload_n (i := 3) dX6_readNumber_93 rfl rfl ?_
        refine R_iload_n (i := 2) dX6_readNumber_94 rfl rfl ?_
        refine R_icmp_le (tgt := 110) dX6_readNumber_95 (by decide) (fun hc => ?_) (fun hc => ?_)
        · have h := hit_f h hc
          refine R_iload_n (i := 3) dX6_readNumber_110 rfl rfl ?_
          exact R_iret dX6_readNumber_111 rfl h
        · have h := hit_t h hc
          refine R_drop (lv2 := [some (rf Ω 6 0), none, some (.int x2), some (.int x3), some (.int x4), some (.int x5)]) 1 rfl ?_
          refine R_drop (lv2 := [some (rf Ω 6 0), none, none, some (.int x3), some (.int x4), some (.int x5)]) 2 rfl ?_
          refine R_drop (lv2 := [some (rf Ω 6 0), none, none, none, some (.int x4), some (.int x5)]) 3 rfl ?_
          refine R_drop (lv2 := [some (rf Ω 6 0), none, none, none, none, some (.int x5)]) 4 rfl ?_
          refine R_drop (lv2 := [some (rf Ω 6 0), none, none, none, none, none]) 5 rfl ?_
          exact rnX6_readNumber_j98 hW hL0 σ13  h
    · have h := hit_f h hc
      refine R_aload_n (i := 0) dX6_readNumber_78 rfl rfl ?_
      refine R_aload_n (i := 0) dX6_readNumber_79 rfl rfl ?_
      refine R_get foX6_22 hL0 (cE_6 Ω 0 _) rfl dX6_readNumber_80 ?_
      refine R_put poX6_57 hL0 (cE_6 Ω 0 _) (cP_6_5 Ω 0 _ _) (Nat.le_of_ble_eq_true rfl) dX6_readNumber_83 ?_
      refine R_st h (fun σ15 h => ?_)
      refine R_iconst (v := (-1)) dX6_readNumber_86 rfl ?_
      exact R_iret dX6_readNumber_87 rfl h
set_option maxRecDepth 100000 in
set_option maxHeartbeats 4000000 in
theorem ctX6_readNumber (l : Launch) (Ω : rO) (x1 : Int32) (x2 : Int32) (hL0 : oL Ω 6 0) (σ : rS) (K : Int32 → rS → Prop) (h : hit (fX6_readNumber x1 x2 σ) K) : Ct l Ω yX6_readNumber cX6_readNumber 6 (some .int) rmX6_readNumber [rf Ω 6 0, .int x1, .int x2] σ K := by
  refine Ct.of (own := RX6) (lv := [some (rf Ω 6 0), some (.int x1), some (.int x2), none, none, none]) (by decide) rfl (Nat.le_of_ble_eq_true rfl) rfl (fun hW => ?_)
  unfold fX6_readNumber at h
  refine R_iconst (v := 0) dX6_readNumber_0 rfl ?_
  refine R_istore_n (lv2 := [some (rf Ω 6 0), some (.int x1), some (.int x2), some (.int 0), none, none]) dX6_readNumber_1 rfl (by decide) rfl rfl ?_
  refine R_iconst (v := 0) dX6_readNumber_2 rfl ?_
  refine R_istore (lv2 := [some (rf Ω 6 0), some (.int x1), some (.int x2), some (.int 0), some (.int 0), none]) dX6_readNumber_3 (by decide) rfl rfl ?_
  refine R_aload_n (i := 0) dX6_readNumber_5 rfl rfl ?_
  refine R_callVi (ctX6_nextSign l Ω hL0 _ _ (hit_mono (hit_bd h) (fun r1 σ2 h => ?_))) okX6_nextSign mw_403 hL0 (cE_6 Ω 0 _) rfl rfl (Nat.le_of_ble_eq_true rfl) rfl rfl ⟨by decide, by decide⟩ dX6_readNumber_6
  refine R_istore (lv2 := [some (rf Ω 6 0), some (.int x1), some (.int x2), some (.int 0), some (.int 0), some (.int r1)]) dX6_readNumber_9 (by decide) rfl rfl ?_
  refine rlX6_readNumber_L11 hW x1 x2 hL0 ?_ fu 0 0 r1 σ2 (hit_bd h)
  · intro e10 σ9 h
    try dsimp only at h
    exact rnX6_readNumber_j65 hW x1 x2 e10.1 e10.2.1 e10.2.2 hL0 σ9  h
set_option maxRecDepth 100000 in
set_option maxHeartbeats 4000000 in
theorem ctX6_readComma (l : Launch) (Ω : rO) (hL0 : oL Ω 6 0) (σ : rS) (K : Int32 → rS → Prop) (h : hit (fX6_readComma  σ) K) : Ct l Ω yX6_readComma cX6_readComma 1 (some .boolean) rmX6_readComma [rf Ω 6 0] σ K := by
  refine Ct.of (own := RX6) (lv := [some (rf Ω 6 0)]) (by decide) rfl (Nat.le_of_ble_eq_true rfl) rfl (fun hW => ?_)
  unfold fX6_readComma at h
  refine R_aload_n (i := 0) dX6_readComma_0 rfl rfl ?_
  refine R_callVi (ctX6_nextSign l Ω hL0 _ _ (hit_mono (hit_bd h) (fun r1 σ2 h => ?_))) okX6_nextSign mw_403 hL0 (cE_6 Ω 0 _) rfl rfl (Nat.le_of_ble_eq_true rfl) rfl rfl ⟨by decide, by decide⟩ dX6_readComma_1
  refine R_bipush (v := 44) dX6_readComma_4 rfl ?_
  refine R_icmp_eq (tgt := 19) dX6_readComma_6 (by decide) (fun hc => ?_) (fun hc => ?_)
  · have h := hit_t h hc
    refine R_aload_n (i := 0) dX6_readComma_19 rfl rfl ?_
    refine R_dup dX6_readComma_20 rfl ?_
    refine R_get foX6_22 hL0 (cE_6 Ω 0 _) rfl dX6_readComma_21 ?_
    refine R_iconst (v := 1) dX6_readComma_24 rfl ?_
    refine R_iadd dX6_readComma_25 ?_
    refine R_put poX6_22 hL0 (cE_6 Ω 0 _) (cP_6_4 Ω 0 _ _) (Nat.le_of_ble_eq_true rfl) dX6_readComma_26 ?_
    refine R_st h (fun σ3 h => ?_)
    refine R_iconst (v := 1) dX6_readComma_29 rfl ?_
    exact R_zret dX6_readComma_30 rfl (Or.inr rfl) h
  · have h := hit_f h hc
    refine R_aload_n (i := 0) dX6_readComma_9 rfl rfl ?_
    refine R_aload_n (i := 0) dX6_readComma_10 rfl rfl ?_
    refine R_get foX6_22 hL0 (cE_6 Ω 0 _) rfl dX6_readComma_11 ?_
    refine R_put poX6_57 hL0 (cE_6 Ω 0 _) (cP_6_5 Ω 0 _ _) (Nat.le_of_ble_eq_true rfl) dX6_readComma_14 ?_
    refine R_st h (fun σ4 h => ?_)
    refine R_iconst (v := 0) dX6_readComma_17 rfl ?_
    exact R_zret dX6_readComma_18 rfl (Or.inl rfl) h
set_option maxRecDepth 100000 in
set_option maxHeartbeats 4000000 in
theorem rnX8_bytesIn_j22L5 {l : Launch} {Ω : rO} (hW : WF Ω) (x0 : Int32) (x1 : Int32) (x2 : Int32) (σ : rS) {K : Int32 → rS → Prop} {K0 : ((Int32 × Int32) ⊕ Int32) → rS → Prop} (hC : ∀ (x1 : Int32) (x2 : Int32) (σ : rS), K0 (.inl (x1, x2)) σ → Run l Ω cX8_bytesIn RX8 3 (some .int) rmX8_bytesIn K 5 [some (.int x0), some (.int x1), some (.int x2)] [] σ) (hE0 : ∀ (e : Int32) (σ : rS), K0 (.inr e) σ → Run l Ω cX8_bytesIn RX8 3 (some .int) rmX8_bytesIn K 28 [none, some (.int e), none] [] σ) (h : hit (fX8_bytesIn_j22L5 x0 x1 x2 σ) K0) : Run l Ω cX8_bytesIn RX8 3 (some .int) rmX8_bytesIn K 22 [some (.int x0), some (.int x1), some (.int x2)] [] σ := by
  unfold fX8_bytesIn_j22L5 at h
  refine R_iinc (v := x2 + (-8)) (lv2 := [some (.int x0), some (.int x1), some (.int (x2 + (-8)))]) dX8_bytesIn_22 rfl rfl (by decide) rfl rfl ?_
  refine R_goto (tgt := 5) dX8_bytesIn_25 (by decide) ?_
  exact hC x1 (x2 + (-8)) σ h
set_option maxRecDepth 100000 in
set_option maxHeartbeats 4000000 in
theorem rsX8_bytesIn_L5 {l : Launch} {Ω : rO} (hW : WF Ω) (x0 : Int32) (x1 : Int32) (x2 : Int32) (σ : rS) {K : Int32 → rS → Prop} {K0 : ((Int32 × Int32) ⊕ Int32) → rS → Prop} (hC : ∀ (x1 : Int32) (x2 : Int32) (σ : rS), K0 (.inl (x1, x2)) σ → Run l Ω cX8_bytesIn RX8 3 (some .int) rmX8_bytesIn K 5 [some (.int x0), some (.int x1), some (.int x2)] [] σ) (hE0 : ∀ (e : Int32) (σ : rS), K0 (.inr e) σ → Run l Ω cX8_bytesIn RX8 3 (some .int) rmX8_bytesIn K 28 [none, some (.int e), none] [] σ) (h : hit (fX8_bytesIn_L5 x0 x1 x2 σ) K0) : Run l Ω cX8_bytesIn RX8 3 (some .int) rmX8_bytesIn K 5 [some (.int x0), some (.int x1), some (.int x2)] [] σ := by
  unfold fX8_bytesIn_L5 at h
  refine R_iload_n (i := 2) dX8_bytesIn_5 rfl rfl ?_
  refine R_if_lt (tgt := 28) dX8_bytesIn_6 (by decide) (fun hc => ?_) (fun hc => ?_)
  · have h := hit_t h hc
    refine R_drop (lv2 := [none, some (.int x1), some (.int x2)]) 0 rfl ?_
    refine R_drop (lv2 := [none, some (.int x1), none]) 2 rfl ?_
    exact hE0 x1 σ h
  · have h := hit_f h hc
    refine R_iload_n (i := 0) dX8_bytesIn_9 rfl rfl ?_
    refine R_iload_n (i := 2) dX8_bytesIn_10 rfl rfl ?_
    refine R_iushr dX8_bytesIn_11 ?_
    refine R_sipush (v := 255) dX8_bytesIn_12 rfl ?_
    refine R_iand dX8_bytesIn_15 ?_
    refine R_if_eq (tgt := 22) dX8_bytesIn_16 (by decide) (fun hc => ?_) (fun hc => ?_)
    · have h := hit_t h hc
      exact rnX8_bytesIn_j22L5 hW x0 x1 x2 σ hC hE0 h
    · have h := hit_f h hc
      refine R_iinc (v := x1 + 1) (lv2 := [some (.int x0), some (.int (x1 + 1)), some (.int x2)]) dX8_bytesIn_19 rfl rfl (by decide) rfl rfl ?_
      exact rnX8_bytesIn_j22L5 hW x0 (x1 + 1) x2 σ hC hE0 h
set_option maxRecDepth 100000 in
set_option maxHeartbeats 4000000 in
theorem rlX8_bytesIn_L5 {l : Launch} {Ω : rO} (hW : WF Ω) (x0 : Int32) {K : Int32 → rS → Prop} {KE : Int32 → rS → Prop} (hE0 : ∀ (e : Int32) (σ : rS), KE e σ → Run l Ω cX8_bytesIn RX8 3 (some .int) rmX8_bytesIn K 28 [none, some (.int e), none] [] σ) : ∀ (n : Nat) (x1 : Int32) (x2 : Int32) (σ : rS), hit (lp (fun (x : (Int32 × Int32)) σ => fX8_bytesIn_L5 x0 x.1 x.2 σ) n (x1, x2) σ) KE → Run l Ω cX8_bytesIn RX8 3 (some .int) rmX8_bytesIn K 5 [some (.int x0), some (.int x1), some (.int x2)] [] σ := by
  intro n
  induction n with
  | zero => intro x1 x2 σ h; exact (h : False).elim
  | succ n ih =>
    intro x1 x2 σ h
    exact rsX8_bytesIn_L5 hW x0 x1 x2 σ (fun x1 x2 σ h => ih x1 x2 σ h) (fun e σ h => hE0 e σ h) (hit_lp h)
set_option maxRecDepth 100000 in
set_option maxHeartbeats 4000000 in
theorem ctX8_bytesIn (l : Launch) (Ω : rO) (x0 : Int32) (σ : rS) (K : Int32 → rS → Prop) (h : hit (fX8_bytesIn x0 σ) K) : Ct l Ω yX8_bytesIn cX8_bytesIn 3 (some .int) rmX8_bytesIn [.int x0] σ K := by
  refine Ct.of (own := RX8) (lv := [some (.int x0), none, none]) (by decide) rfl (Nat.le_of_ble_eq_true rfl) rfl (fun hW => ?_)
  unfold fX8_bytesIn at h
  refine R_iconst (v := 0) dX8_bytesIn_0 rfl ?_
  refine R_istore_n (lv2 := [some (.int x0), some (.int 0), none]) dX8_bytesIn_1 rfl (by decide) rfl rfl ?_
  refine R_bipush (v := 24) dX8_bytesIn_2 rfl ?_
  refine R_istore_n (lv2 := [some (.int x0), some (.int 0), some (.int 24)]) dX8_bytesIn_4 rfl (by decide) rfl rfl ?_
  refine rlX8_bytesIn_L5 hW x0 ?_ fu 0 24 σ (hit_bd h)
  · intro e2 σ1 h
    try dsimp only at h
    refine R_iload_n (i := 1) dX8_bytesIn_28 rfl rfl ?_
    exact R_iret dX8_bytesIn_29 rfl h
set_option maxRecDepth 100000 in
set_option maxHeartbeats 4000000 in
theorem rnX8_addBytes_j49L3 {l : Launch} {Ω : rO} (hW : WF Ω) (x1 : Int32) (x2 : Int32) (hL0 : oL Ω 8 0) (σ : rS) {K : Int32 → rS → Prop} {K0 : (Int32 ⊕ Unit) → rS → Prop} (hC : ∀ (x2 : Int32) (σ : rS), K0 (.inl x2) σ → Run l Ω cX8_addBytes RX8 4 none rmX8_addBytes K 3 [some (rf Ω 8 0), some (.int x1), some (.int x2), none] [] σ) (hE0 : ∀ (e : Unit) (σ : rS), K0 (.inr e) σ → Run l Ω cX8_addBytes RX8 4 none rmX8_addBytes K 55 [none, none, none, none] [] σ) (h : hit (fX8_addBytes_j49L3 x1 x2 σ) K0) : Run l Ω cX8_addBytes RX8 4 none rmX8_addBytes K 49 [some (rf Ω 8 0), some (.int x1), some (.int x2), none] [] σ := by
  unfold fX8_addBytes_j49L3 at h
  refine R_iinc (v := x2 + (-8)) (lv2 := [some (rf Ω 8 0), some (.int x1), some (.int (x2 + (-8))), none]) dX8_addBytes_49 rfl rfl (by decide) rfl rfl ?_
  refine R_goto (tgt := 3) dX8_addBytes_52 (by decide) ?_
  exact hC (x2 + (-8)) σ h
set_option maxRecDepth 100000 in
set_option maxHeartbeats 4000000 in
theorem rsX8_addBytes_L3 {l : Launch} {Ω : rO} (hW : WF Ω) (x1 : Int32) (x2 : Int32) (hL0 : oL Ω 8 0) (σ : rS) {K : Int32 → rS → Prop} {K0 : (Int32 ⊕ Unit) → rS → Prop} (hC : ∀ (x2 : Int32) (σ : rS), K0 (.inl x2) σ → Run l Ω cX8_addBytes RX8 4 none rmX8_addBytes K 3 [some (rf Ω 8 0), some (.int x1), some (.int x2), none] [] σ) (hE0 : ∀ (e : Unit) (σ : rS), K0 (.inr e) σ → Run l Ω cX8_addBytes RX8 4 none rmX8_addBytes K 55 [none, none, none, none] [] σ) (h : hit (fX8_addBytes_L3 x1 x2 σ) K0) : Run l Ω cX8_addBytes RX8 4 none rmX8_addBytes K 3 [some (rf Ω 8 0), some (.int x1), some (.int x2), none] [] σ := by
  unfold fX8_addBytes_L3 at h
  refine R_iload_n (i := 2) dX8_addBytes_3 rfl rfl ?_
  refine R_if_lt (tgt := 55) dX8_addBytes_4 (by decide) (fun hc => ?_) (fun hc => ?_)
  · have h := hit_t h hc
    refine R_drop (lv2 := [none, some (.int x1), some (.int x2), none]) 0 rfl ?_
    refine R_drop (lv2 := [none, none, some (.int x2), none]) 1 rfl ?_
    refine R_drop (lv2 := [none, none, none, none]) 2 rfl ?_
    exact hE0 () σ h
  · have h := hit_f h hc
    refine R_iload_n (i := 1) dX8_addBytes_7 rfl rfl ?_
    refine R_iload_n (i := 2) dX8_addBytes_8 rfl rfl ?_
    refine R_iushr dX8_addBytes_9 ?_
    refine R_sipush (v := 255) dX8_addBytes_10 rfl ?_
    refine R_iand dX8_addBytes_13 ?_
    refine R_topi h (fun y1 h => ?_)
    refine R_istore_n (lv2 := [some (rf Ω 8 0), some (.int x1), some (.int x2), some (.int y1)]) dX8_addBytes_14 rfl (by decide) rfl rfl ?_
    refine R_iload_n (i := 3) dX8_addBytes_15 rfl rfl ?_
    refine R_if_eq (tgt := 49) dX8_addBytes_16 (by decide) (fun hc => ?_) (fun hc => ?_)
    · have h := hit_t h hc
      refine R_drop (lv2 := [some (rf Ω 8 0), some (.int x1), some (.int x2), none]) 3 rfl ?_
      exact rnX8_addBytes_j49L3 hW x1 x2 hL0 σ hC hE0 h
    · have h := hit_f h hc
      refine R_aload_n (i := 0) dX8_addBytes_19 rfl rfl ?_
      refine R_get foX8_15 hL0 (cE_8 Ω 0 _) rfl dX8_addBytes_20 ?_
      refine R_sipush (v := 240) dX8_addBytes_23 rfl ?_
      refine R_icmp_ge (tgt := 49) dX8_addBytes_26 (by decide) (fun hc => ?_) (fun hc => ?_)
      · have h := hit_f h hc
        refine R_drop (lv2 := [some (rf Ω 8 0), some (.int x1), some (.int x2), none]) 3 rfl ?_
        exact rnX8_addBytes_j49L3 hW x1 x2 hL0 σ hC hE0 h
      · have h := hit_t h hc
        refine R_aload_n (i := 0) dX8_addBytes_29 rfl rfl ?_
        refine R_get foX8_9 hL0 (cE_8 Ω 0 _) rfl dX8_addBytes_30 ?_
        refine R_aload_n (i := 0) dX8_addBytes_33 rfl rfl ?_
        refine R_get foX8_15 hL0 (cE_8 Ω 0 _) rfl dX8_addBytes_34 ?_
        refine R_iload_n (i := 3) dX8_addBytes_37 rfl rfl ?_
        obtain ⟨hb, h⟩ := hit_bnd h
        refine R_iast (WF.kid hW 0 hL0 rfl) (cE_25 Ω 0) hb dX8_addBytes_38 ?_
        refine R_st h (fun σ2 h => ?_)
        refine R_aload_n (i := 0) dX8_addBytes_39 rfl rfl ?_
        refine R_dup dX8_addBytes_40 rfl ?_
        refine R_get foX8_15 hL0 (cE_8 Ω 0 _) rfl dX8_addBytes_41 ?_
        refine R_iconst (v := 1) dX8_addBytes_44 rfl ?_
        refine R_iadd dX8_addBytes_45 ?_
        refine R_put poX8_15 hL0 (cE_8 Ω 0 _) (cP_8_1 Ω 0 _ _) (Nat.le_of_ble_eq_true rfl) dX8_addBytes_46 ?_
        refine R_st h (fun σ3 h => ?_)
        refine R_drop (lv2 := [some (rf Ω 8 0), some (.int x1), some (.int x2), none]) 3 rfl ?_
        exact rnX8_addBytes_j49L3 hW x1 x2 hL0 σ3 hC hE0 h
set_option maxRecDepth 100000 in
set_option maxHeartbeats 4000000 in
theorem rlX8_addBytes_L3 {l : Launch} {Ω : rO} (hW : WF Ω) (x1 : Int32) (hL0 : oL Ω 8 0) {K : Int32 → rS → Prop} {KE : Unit → rS → Prop} (hE0 : ∀ (e : Unit) (σ : rS), KE e σ → Run l Ω cX8_addBytes RX8 4 none rmX8_addBytes K 55 [none, none, none, none] [] σ) : ∀ (n : Nat) (x2 : Int32) (σ : rS), hit (lp (fun (x : Int32) σ => fX8_addBytes_L3 x1 x σ) n x2 σ) KE → Run l Ω cX8_addBytes RX8 4 none rmX8_addBytes K 3 [some (rf Ω 8 0), some (.int x1), some (.int x2), none] [] σ := by
  intro n
  induction n with
  | zero => intro x2 σ h; exact (h : False).elim
  | succ n ih =>
    intro x2 σ h
    exact rsX8_addBytes_L3 hW x1 x2 hL0 σ (fun x2 σ h => ih x2 σ h) (fun e σ h => hE0 e σ h) (hit_lp h)
set_option maxRecDepth 100000 in
set_option maxHeartbeats 4000000 in
theorem ctX8_addBytes (l : Launch) (Ω : rO) (x1 : Int32) (hL0 : oL Ω 8 0) (σ : rS) (K : Int32 → rS → Prop) (h : hit (fX8_addBytes x1 σ) K) : Ct l Ω yX8_addBytes cX8_addBytes 4 none rmX8_addBytes [rf Ω 8 0, .int x1] σ K := by
  refine Ct.of (own := RX8) (lv := [some (rf Ω 8 0), some (.int x1), none, none]) (by decide) rfl (Nat.le_of_ble_eq_true rfl) rfl (fun hW => ?_)
  unfold fX8_addBytes at h
  refine R_bipush (v := 24) dX8_addBytes_0 rfl ?_
  refine R_istore_n (lv2 := [some (rf Ω 8 0), some (.int x1), some (.int 24), none]) dX8_addBytes_2 rfl (by decide) rfl rfl ?_
  refine rlX8_addBytes_L3 hW x1 hL0 ?_ fu 24 σ (hit_bd h)
  · intro e5 σ4 h
    try dsimp only at h
    exact R_vret dX8_addBytes_55 rfl h
set_option maxRecDepth 100000 in
set_option maxHeartbeats 4000000 in
theorem rsX3_seenCells_L4 {l : Launch} {Ω : rO} (hW : WF Ω) (k1 : Nat) (x2 : Int32) (x3 : Int32) (hL0 : oL Ω 3 0) (hL1 : oL Ω 7 k1) (σ : rS) {K : Int32 → rS → Prop} {K0 : ((Int32 × Int32) ⊕ Int32) → rS → Prop} (hC : ∀ (x2 : Int32) (x3 : Int32) (σ : rS), K0 (.inl (x2, x3)) σ → Run l Ω cX3_seenCells RX3 4 (some .int) rmX3_seenCells K 4 [some (rf Ω 3 0), some (rf Ω 7 k1), some (.int x2), some (.int x3)] [] σ) (hE0 : ∀ (e : Int32) (σ : rS), K0 (.inr e) σ → Run l Ω cX3_seenCells RX3 4 (some .int) rmX3_seenCells K 31 [none, none, some (.int e), none] [] σ) (h : hit (fX3_seenCells_L4 k1 x2 x3 σ) K0) : Run l Ω cX3_seenCells RX3 4 (some .int) rmX3_seenCells K 4 [some (rf Ω 3 0), some (rf Ω 7 k1), some (.int x2), some (.int x3)] [] σ := by
  unfold fX3_seenCells_L4 at h
  refine R_iload_n (i := 3) dX3_seenCells_4 rfl rfl ?_
  refine R_aload_n (i := 0) dX3_seenCells_5 rfl rfl ?_
  refine R_get foX3_39 hL0 (cE_3 Ω 0 _) rfl dX3_seenCells_6 ?_
  refine R_icmp_ge (tgt := 31) dX3_seenCells_9 (by decide) (fun hc => ?_) (fun hc => ?_)
  · have h := hit_f h hc
    refine R_drop (lv2 := [none, some (rf Ω 7 k1), some (.int x2), some (.int x3)]) 0 rfl ?_
    refine R_drop (lv2 := [none, none, some (.int x2), some (.int x3)]) 1 rfl ?_
    refine R_drop (lv2 := [none, none, some (.int x2), none]) 3 rfl ?_
    exact hE0 x2 σ h
  · have h := hit_t h hc
    refine R_iload_n (i := 2) dX3_seenCells_12 rfl rfl ?_
    refine R_aload_n (i := 1) dX3_seenCells_13 rfl rfl ?_
    refine R_aload_n (i := 0) dX3_seenCells_14 rfl rfl ?_
    refine R_get foX3_15 hL0 (cE_3 Ω 0 _) rfl dX3_seenCells_15 ?_
    refine R_iload_n (i := 3) dX3_seenCells_18 rfl rfl ?_
    obtain ⟨hb, h⟩ := hit_bnd h
    refine R_iald (WF.kid hW 1 hL0 rfl) (cE_31 Ω 0 _) hb dX3_seenCells_19 ?_
    refine R_callVi (ctX7_cells l Ω k1 (σ 31 0 (ix x3)) hL1 _ _ (hit_mono (hit_bd h) (fun r1 σ2 h => ?_))) okX7_cells mw_990 hL1 (cE_7 Ω k1 _) rfl rfl (Nat.le_of_ble_eq_true rfl) rfl rfl ⟨by decide, by decide⟩ dX3_seenCells_20
    refine R_iadd dX3_seenCells_23 ?_
    refine R_topi h (fun y3 h => ?_)
    refine R_istore_n (lv2 := [some (rf Ω 3 0), some (rf Ω 7 k1), some (.int y3), some (.int x3)]) dX3_seenCells_24 rfl (by decide) rfl rfl ?_
    refine R_iinc (v := x3 + 1) (lv2 := [some (rf Ω 3 0), some (rf Ω 7 k1), some (.int y3), some (.int (x3 + 1))]) dX3_seenCells_25 rfl rfl (by decide) rfl rfl ?_
    refine R_goto (tgt := 4) dX3_seenCells_28 (by decide) ?_
    exact hC y3 (x3 + 1) σ2 h
set_option maxRecDepth 100000 in
set_option maxHeartbeats 4000000 in
theorem rlX3_seenCells_L4 {l : Launch} {Ω : rO} (hW : WF Ω) (k1 : Nat) (hL0 : oL Ω 3 0) (hL1 : oL Ω 7 k1) {K : Int32 → rS → Prop} {KE : Int32 → rS → Prop} (hE0 : ∀ (e : Int32) (σ : rS), KE e σ → Run l Ω cX3_seenCells RX3 4 (some .int) rmX3_seenCells K 31 [none, none, some (.int e), none] [] σ) : ∀ (n : Nat) (x2 : Int32) (x3 : Int32) (σ : rS), hit (lp (fun (x : (Int32 × Int32)) σ => fX3_seenCells_L4 k1 x.1 x.2 σ) n (x2, x3) σ) KE → Run l Ω cX3_seenCells RX3 4 (some .int) rmX3_seenCells K 4 [some (rf Ω 3 0), some (rf Ω 7 k1), some (.int x2), some (.int x3)] [] σ := by
  intro n
  induction n with
  | zero => intro x2 x3 σ h; exact (h : False).elim
  | succ n ih =>
    intro x2 x3 σ h
    exact rsX3_seenCells_L4 hW k1 x2 x3 hL0 hL1 σ (fun x2 x3 σ h => ih x2 x3 σ h) (fun e σ h => hE0 e σ h) (hit_lp h)
set_option maxRecDepth 100000 in
set_option maxHeartbeats 4000000 in
theorem ctX3_seenCells (l : Launch) (Ω : rO) (k1 : Nat) (hL0 : oL Ω 3 0) (hL1 : oL Ω 7 k1) (σ : rS) (K : Int32 → rS → Prop) (h : hit (fX3_seenCells k1 σ) K) : Ct l Ω yX3_seenCells cX3_seenCells 4 (some .int) rmX3_seenCells [rf Ω 3 0, rf Ω 7 k1] σ K := by
  refine Ct.of (own := RX3) (lv := [some (rf Ω 3 0), some (rf Ω 7 k1), none, none]) (by decide) rfl (Nat.le_of_ble_eq_true rfl) rfl (fun hW => ?_)
  unfold fX3_seenCells at h
  refine R_iconst (v := 0) dX3_seenCells_0 rfl ?_
  refine R_istore_n (lv2 := [some (rf Ω 3 0), some (rf Ω 7 k1), some (.int 0), none]) dX3_seenCells_1 rfl (by decide) rfl rfl ?_
  refine R_iconst (v := 0) dX3_seenCells_2 rfl ?_
  refine R_istore_n (lv2 := [some (rf Ω 3 0), some (rf Ω 7 k1), some (.int 0), some (.int 0)]) dX3_seenCells_3 rfl (by decide) rfl rfl ?_
  refine rlX3_seenCells_L4 hW k1 hL0 hL1 ?_ fu 0 0 σ (hit_bd h)
  · intro e5 σ4 h
    try dsimp only at h
    refine R_iload_n (i := 2) dX3_seenCells_31 rfl rfl ?_
    exact R_iret dX3_seenCells_32 rfl h
set_option maxRecDepth 100000 in
set_option maxHeartbeats 4000000 in
theorem rnX3_unseenCells_j44L5 {l : Launch} {Ω : rO} (hW : WF Ω) (k1 : Nat) (x2 : Int32) (x3 : Int32) (x4 : Int32) (hL0 : oL Ω 3 0) (hL1 : oL Ω 7 k1) (σ : rS) {K : Int32 → rS → Prop} {K0 : ((Int32 × Int32) ⊕ Int32) → rS → Prop} (hC : ∀ (x3 : Int32) (x4 : Int32) (σ : rS), K0 (.inl (x3, x4)) σ → Run l Ω cX3_unseenCells RX3 5 (some .int) rmX3_unseenCells K 5 [some (rf Ω 3 0), some (rf Ω 7 k1), some (.int x2), some (.int x3), some (.int x4)] [] σ) (hE0 : ∀ (e : Int32) (σ : rS), K0 (.inr e) σ → Run l Ω cX3_unseenCells RX3 5 (some .int) rmX3_unseenCells K 50 [none, none, none, some (.int e), none] [] σ) (h : hit (fX3_unseenCells_j44L5 k1 x2 x3 x4 σ) K0) : Run l Ω cX3_unseenCells RX3 5 (some .int) rmX3_unseenCells K 44 [some (rf Ω 3 0), some (rf Ω 7 k1), some (.int x2), some (.int x3), some (.int x4)] [] σ := by
  unfold fX3_unseenCells_j44L5 at h
  refine R_iinc (v := x4 + 1) (lv2 := [some (rf Ω 3 0), some (rf Ω 7 k1), some (.int x2), some (.int x3), some (.int (x4 + 1))]) dX3_unseenCells_44 rfl rfl (by decide) rfl rfl ?_
  refine R_goto (tgt := 5) dX3_unseenCells_47 (by decide) ?_
  exact hC x3 (x4 + 1) σ h
set_option maxRecDepth 100000 in
set_option maxHeartbeats 4000000 in
theorem rsX3_unseenCells_L5 {l : Launch} {Ω : rO} (hW : WF Ω) (k1 : Nat) (x2 : Int32) (x3 : Int32) (x4 : Int32) (hL0 : oL Ω 3 0) (hL1 : oL Ω 7 k1) (σ : rS) {K : Int32 → rS → Prop} {K0 : ((Int32 × Int32) ⊕ Int32) → rS → Prop} (hC : ∀ (x3 : Int32) (x4 : Int32) (σ : rS), K0 (.inl (x3, x4)) σ → Run l Ω cX3_unseenCells RX3 5 (some .int) rmX3_unseenCells K 5 [some (rf Ω 3 0), some (rf Ω 7 k1), some (.int x2), some (.int x3), some (.int x4)] [] σ) (hE0 : ∀ (e : Int32) (σ : rS), K0 (.inr e) σ → Run l Ω cX3_unseenCells RX3 5 (some .int) rmX3_unseenCells K 50 [none, none, none, some (.int e), none] [] σ) (h : hit (fX3_unseenCells_L5 k1 x2 x3 x4 σ) K0) : Run l Ω cX3_unseenCells RX3 5 (some .int) rmX3_unseenCells K 5 [some (rf Ω 3 0), some (rf Ω 7 k1), some (.int x2), some (.int x3), some (.int x4)] [] σ := by
  unfold fX3_unseenCells_L5 at h
  refine R_iload (i := 4) dX3_unseenCells_5 rfl ?_
  refine R_aload_n (i := 1) dX3_unseenCells_7 rfl rfl ?_
  refine R_get foX3_85 hL1 (cE_7 Ω k1 _) rfl dX3_unseenCells_8 ?_
  refine R_icmp_ge (tgt := 50) dX3_unseenCells_11 (by decide) (fun hc => ?_) (fun hc => ?_)
  · have h := hit_f h hc
    refine R_drop (lv2 := [none, some (rf Ω 7 k1), some (.int x2), some (.int x3), some (.int x4)]) 0 rfl ?_
    refine R_drop (lv2 := [none, none, some (.int x2), some (.int x3), some (.int x4)]) 1 rfl ?_
    refine R_drop (lv2 := [none, none, none, some (.int x3), some (.int x4)]) 2 rfl ?_
    refine R_drop (lv2 := [none, none, none, some (.int x3), none]) 4 rfl ?_
    exact hE0 x3 σ h
  · have h := hit_t h hc
    refine R_aload_n (i := 1) dX3_unseenCells_14 rfl rfl ?_
    refine R_get foX3_88 hL1 (cE_7 Ω k1 _) rfl dX3_unseenCells_15 ?_
    refine R_iload (i := 4) dX3_unseenCells_18 rfl ?_
    obtain ⟨hb, h⟩ := hit_bnd h
    refine R_iald (WF.kid hW 5 hL1 rfl) (cE_50 Ω k1 _) hb dX3_unseenCells_20 ?_
    refine R_iload_n (i := 2) dX3_unseenCells_21 rfl rfl ?_
    refine R_icmp_ne (tgt := 44) dX3_unseenCells_22 (by decide) (fun hc => ?_) (fun hc => ?_)
    · have h := hit_f h hc
      exact rnX3_unseenCells_j44L5 hW k1 x2 x3 x4 hL0 hL1 σ hC hE0 h
    · have h := hit_t h hc
      refine R_aload_n (i := 0) dX3_unseenCells_25 rfl rfl ?_
      refine R_get foX3_9 hL0 (cE_3 Ω 0 _) rfl dX3_unseenCells_26 ?_
      refine R_iload (i := 4) dX3_unseenCells_29 rfl ?_
      obtain ⟨hb, h⟩ := hit_bnd h
      refine R_iald (WF.kid hW 0 hL0 rfl) (cE_30 Ω 0 _) hb dX3_unseenCells_31 ?_
      refine R_if_ne (tgt := 44) dX3_unseenCells_32 (by decide) (fun hc => ?_) (fun hc => ?_)
      · have h := hit_f h hc
        exact rnX3_unseenCells_j44L5 hW k1 x2 x3 x4 hL0 hL1 σ hC hE0 h
      · have h := hit_t h hc
        refine R_iload_n (i := 3) dX3_unseenCells_35 rfl rfl ?_
        refine R_aload_n (i := 1) dX3_unseenCells_36 rfl rfl ?_
        refine R_iload (i := 4) dX3_unseenCells_37 rfl ?_
        refine R_callVi (ctX7_cells l Ω k1 x4 hL1 _ _ (hit_mono (hit_bd h) (fun r1 σ2 h => ?_))) okX7_cells mw_990 hL1 (cE_7 Ω k1 _) rfl rfl (Nat.le_of_ble_eq_true rfl) rfl rfl ⟨by decide, by decide⟩ dX3_unseenCells_39
        refine R_iadd dX3_unseenCells_42 ?_
        refine R_topi h (fun y3 h => ?_)
        refine R_istore_n (lv2 := [some (rf Ω 3 0), some (rf Ω 7 k1), some (.int x2), some (.int y3), some (.int x4)]) dX3_unseenCells_43 rfl (by decide) rfl rfl ?_
        exact rnX3_unseenCells_j44L5 hW k1 x2 y3 x4 hL0 hL1 σ2 hC hE0 h
set_option maxRecDepth 100000 in
set_option maxHeartbeats 4000000 in
theorem rlX3_unseenCells_L5 {l : Launch} {Ω : rO} (hW : WF Ω) (k1 : Nat) (x2 : Int32) (hL0 : oL Ω 3 0) (hL1 : oL Ω 7 k1) {K : Int32 → rS → Prop} {KE : Int32 → rS → Prop} (hE0 : ∀ (e : Int32) (σ : rS), KE e σ → Run l Ω cX3_unseenCells RX3 5 (some .int) rmX3_unseenCells K 50 [none, none, none, some (.int e), none] [] σ) : ∀ (n : Nat) (x3 : Int32) (x4 : Int32) (σ : rS), hit (lp (fun (x : (Int32 × Int32)) σ => fX3_unseenCells_L5 k1 x2 x.1 x.2 σ) n (x3, x4) σ) KE → Run l Ω cX3_unseenCells RX3 5 (some .int) rmX3_unseenCells K 5 [some (rf Ω 3 0), some (rf Ω 7 k1), some (.int x2), some (.int x3), some (.int x4)] [] σ := by
  intro n
  induction n with
  | zero => intro x3 x4 σ h; exact (h : False).elim
  | succ n ih =>
    intro x3 x4 σ h
    exact rsX3_unseenCells_L5 hW k1 x2 x3 x4 hL0 hL1 σ (fun x3 x4 σ h => ih x3 x4 σ h) (fun e σ h => hE0 e σ h) (hit_lp h)
set_option maxRecDepth 100000 in
set_option maxHeartbeats 4000000 in
theorem ctX3_unseenCells (l : Launch) (Ω : rO) (k1 : Nat) (x2 : Int32) (hL0 : oL Ω 3 0) (hL1 : oL Ω 7 k1) (σ : rS) (K : Int32 → rS → Prop) (h : hit (fX3_unseenCells k1 x2 σ) K) : Ct l Ω yX3_unseenCells cX3_unseenCells 5 (some .int) rmX3_unseenCells [rf Ω 3 0, rf Ω 7 k1, .int x2] σ K := by
  refine Ct.of (own := RX3) (lv := [some (rf Ω 3 0), some (rf Ω 7 k1), some (.int x2), none, none]) (by decide) rfl (Nat.le_of_ble_eq_true rfl) rfl (fun hW => ?_)
  unfold fX3_unseenCells at h
  refine R_iconst (v := 0) dX3_unseenCells_0 rfl ?_
  refine R_istore_n (lv2 := [some (rf Ω 3 0), some (rf Ω 7 k1), some (.int x2), some (.int 0), none]) dX3_unseenCells_1 rfl (by decide) rfl rfl ?_
  refine R_iconst (v := 0) dX3_unseenCells_2 rfl ?_
  refine R_istore (lv2 := [some (rf Ω 3 0), some (rf Ω 7 k1), some (.int x2), some (.int 0), some (.int 0)]) dX3_unseenCells_3 (by decide) rfl rfl ?_
  refine rlX3_unseenCells_L5 hW k1 x2 hL0 hL1 ?_ fu 0 0 σ (hit_bd h)
  · intro e5 σ4 h
    try dsimp only at h
    refine R_iload_n (i := 3) dX3_unseenCells_50 rfl rfl ?_
    exact R_iret dX3_unseenCells_51 rfl h
set_option maxRecDepth 100000 in
set_option maxHeartbeats 4000000 in
theorem rnX3_holdersOf_j26L5 {l : Launch} {Ω : rO} (hW : WF Ω) (k1 : Nat) (x2 : Int32) (x3 : Int32) (x4 : Int32) (hL0 : oL Ω 3 0) (hL1 : oL Ω 7 k1) (σ : rS) {K : Int32 → rS → Prop} {K0 : ((Int32 × Int32) ⊕ Int32) → rS → Prop} (hC : ∀ (x3 : Int32) (x4 : Int32) (σ : rS), K0 (.inl (x3, x4)) σ → Run l Ω cX3_holdersOf RX3 7 (some .int) rmX3_holdersOf K 5 [some (rf Ω 3 0), some (rf Ω 7 k1), some (.int x2), some (.int x3), some (.int x4), none, none] [] σ) (hE0 : ∀ (e : Int32) (σ : rS), K0 (.inr e) σ → Run l Ω cX3_holdersOf RX3 7 (some .int) rmX3_holdersOf K 32 [some (rf Ω 3 0), some (rf Ω 7 k1), some (.int x2), some (.int e), none, none, none] [] σ) (h : hit (fX3_holdersOf_j26L5 k1 x2 x3 x4 σ) K0) : Run l Ω cX3_holdersOf RX3 7 (some .int) rmX3_holdersOf K 26 [some (rf Ω 3 0), some (rf Ω 7 k1), some (.int x2), some (.int x3), some (.int x4), none, none] [] σ := by
  unfold fX3_holdersOf_j26L5 at h
  refine R_iinc (v := x4 + 1) (lv2 := [some (rf Ω 3 0), some (rf Ω 7 k1), some (.int x2), some (.int x3), some (.int (x4 + 1)), none, none]) dX3_holdersOf_26 rfl rfl (by decide) rfl rfl ?_
  refine R_goto (tgt := 5) dX3_holdersOf_29 (by decide) ?_
  exact hC x3 (x4 + 1) σ h
set_option maxRecDepth 100000 in
set_option maxHeartbeats 4000000 in
theorem rsX3_holdersOf_L5 {l : Launch} {Ω : rO} (hW : WF Ω) (k1 : Nat) (x2 : Int32) (x3 : Int32) (x4 : Int32) (hL0 : oL Ω 3 0) (hL1 : oL Ω 7 k1) (σ : rS) {K : Int32 → rS → Prop} {K0 : ((Int32 × Int32) ⊕ Int32) → rS → Prop} (hC : ∀ (x3 : Int32) (x4 : Int32) (σ : rS), K0 (.inl (x3, x4)) σ → Run l Ω cX3_holdersOf RX3 7 (some .int) rmX3_holdersOf K 5 [some (rf Ω 3 0), some (rf Ω 7 k1), some (.int x2), some (.int x3), some (.int x4), none, none] [] σ) (hE0 : ∀ (e : Int32) (σ : rS), K0 (.inr e) σ → Run l Ω cX3_holdersOf RX3 7 (some .int) rmX3_holdersOf K 32 [some (rf Ω 3 0), some (rf Ω 7 k1), some (.int x2), some (.int e), none, none, none] [] σ) (h : hit (fX3_holdersOf_L5 k1 x2 x3 x4 σ) K0) : Run l Ω cX3_holdersOf RX3 7 (some .int) rmX3_holdersOf K 5 [some (rf Ω 3 0), some (rf Ω 7 k1), some (.int x2), some (.int x3), some (.int x4), none, none] [] σ := by
  unfold fX3_holdersOf_L5 at h
  refine R_iload (i := 4) dX3_holdersOf_5 rfl ?_
  refine R_bipush (v := 8) dX3_holdersOf_7 rfl ?_
  refine R_icmp_ge (tgt := 32) dX3_holdersOf_9 (by decide) (fun hc => ?_) (fun hc => ?_)
  · have h := hit_f h hc
    refine R_drop (lv2 := [some (rf Ω 3 0), some (rf Ω 7 k1), some (.int x2), some (.int x3), none, none, none]) 4 rfl ?_
    exact hE0 x3 σ h
  · have h := hit_t h hc
    refine R_aload_n (i := 1) dX3_holdersOf_12 rfl rfl ?_
    refine R_get foX3_63 hL1 (cE_7 Ω k1 _) rfl dX3_holdersOf_13 ?_
    refine R_iload (i := 4) dX3_holdersOf_16 rfl ?_
    obtain ⟨hb, h⟩ := hit_bnd h
    refine R_iald (WF.kid hW 8 hL1 rfl) (cE_53 Ω k1 _) hb dX3_holdersOf_18 ?_
    refine R_iload_n (i := 2) dX3_holdersOf_19 rfl rfl ?_
    refine R_icmp_ne (tgt := 26) dX3_holdersOf_20 (by decide) (fun hc => ?_) (fun hc => ?_)
    · have h := hit_f h hc
      exact rnX3_holdersOf_j26L5 hW k1 x2 x3 x4 hL0 hL1 σ hC hE0 h
    · have h := hit_t h hc
      refine R_iinc (v := x3 + 1) (lv2 := [some (rf Ω 3 0), some (rf Ω 7 k1), some (.int x2), some (.int (x3 + 1)), some (.int x4), none, none]) dX3_holdersOf_23 rfl rfl (by decide) rfl rfl ?_
      exact rnX3_holdersOf_j26L5 hW k1 x2 (x3 + 1) x4 hL0 hL1 σ hC hE0 h
set_option maxRecDepth 100000 in
set_option maxHeartbeats 4000000 in
theorem rlX3_holdersOf_L5 {l : Launch} {Ω : rO} (hW : WF Ω) (k1 : Nat) (x2 : Int32) (hL0 : oL Ω 3 0) (hL1 : oL Ω 7 k1) {K : Int32 → rS → Prop} {KE : Int32 → rS → Prop} (hE0 : ∀ (e : Int32) (σ : rS), KE e σ → Run l Ω cX3_holdersOf RX3 7 (some .int) rmX3_holdersOf K 32 [some (rf Ω 3 0), some (rf Ω 7 k1), some (.int x2), some (.int e), none, none, none] [] σ) : ∀ (n : Nat) (x3 : Int32) (x4 : Int32) (σ : rS), hit (lp (fun (x : (Int32 × Int32)) σ => fX3_holdersOf_L5 k1 x2 x.1 x.2 σ) n (x3, x4) σ) KE → Run l Ω cX3_holdersOf RX3 7 (some .int) rmX3_holdersOf K 5 [some (rf Ω 3 0), some (rf Ω 7 k1), some (.int x2), some (.int x3), some (.int x4), none, none] [] σ := by
  intro n
  induction n with
  | zero => intro x3 x4 σ h; exact (h : False).elim
  | succ n ih =>
    intro x3 x4 σ h
    exact rsX3_holdersOf_L5 hW k1 x2 x3 x4 hL0 hL1 σ (fun x3 x4 σ h => ih x3 x4 σ h) (fun e σ h => hE0 e σ h) (hit_lp h)
set_option maxRecDepth 100000 in
set_option maxHeartbeats 4000000 in
theorem rnX3_holdersOf_j87L61 {l : Launch} {Ω : rO} (hW : WF Ω) (k1 : Nat) (x2 : Int32) (x3 : Int32) (x4 : Int32) (x5 : Int32) (x6 : Int32) (hL0 : oL Ω 3 0) (hL1 : oL Ω 7 k1) (σ : rS) {K : Int32 → rS → Prop} {K0 : ((Int32 × Int32) ⊕ Int32) → rS → Prop} (hC : ∀ (x3 : Int32) (x6 : Int32) (σ : rS), K0 (.inl (x3, x6)) σ → Run l Ω cX3_holdersOf RX3 7 (some .int) rmX3_holdersOf K 61 [some (rf Ω 3 0), some (rf Ω 7 k1), some (.int x2), some (.int x3), some (.int x4), some (.int x5), some (.int x6)] [] σ) (hE0 : ∀ (e : Int32) (σ : rS), K0 (.inr e) σ → Run l Ω cX3_holdersOf RX3 7 (some .int) rmX3_holdersOf K 93 [some (rf Ω 3 0), some (rf Ω 7 k1), some (.int x2), some (.int e), some (.int x4), none, none] [] σ) (h : hit (fX3_holdersOf_j87L61 k1 x2 x3 x4 x5 x6 σ) K0) : Run l Ω cX3_holdersOf RX3 7 (some .int) rmX3_holdersOf K 87 [some (rf Ω 3 0), some (rf Ω 7 k1), some (.int x2), some (.int x3), some (.int x4), some (.int x5), some (.int x6)] [] σ := by
  unfold fX3_holdersOf_j87L61 at h
  refine R_iinc (v := x6 + 1) (lv2 := [some (rf Ω 3 0), some (rf Ω 7 k1), some (.int x2), some (.int x3), some (.int x4), some (.int x5), some (.int (x6 + 1))]) dX3_holdersOf_87 rfl rfl (by decide) rfl rfl ?_
  refine R_goto (tgt := 61) dX3_holdersOf_90 (by decide) ?_
  exact hC x3 (x6 + 1) σ h
set_option maxRecDepth 100000 in
set_option maxHeartbeats 4000000 in
theorem rsX3_holdersOf_L61 {l : Launch} {Ω : rO} (hW : WF Ω) (k1 : Nat) (x2 : Int32) (x4 : Int32) (x5 : Int32) (x3 : Int32) (x6 : Int32) (hL0 : oL Ω 3 0) (hL1 : oL Ω 7 k1) (σ : rS) {K : Int32 → rS → Prop} {K0 : ((Int32 × Int32) ⊕ Int32) → rS → Prop} (hC : ∀ (x3 : Int32) (x6 : Int32) (σ : rS), K0 (.inl (x3, x6)) σ → Run l Ω cX3_holdersOf RX3 7 (some .int) rmX3_holdersOf K 61 [some (rf Ω 3 0), some (rf Ω 7 k1), some (.int x2), some (.int x3), some (.int x4), some (.int x5), some (.int x6)] [] σ) (hE0 : ∀ (e : Int32) (σ : rS), K0 (.inr e) σ → Run l Ω cX3_holdersOf RX3 7 (some .int) rmX3_holdersOf K 93 [some (rf Ω 3 0), some (rf Ω 7 k1), some (.int x2), some (.int e), some (.int x4), none, none] [] σ) (h : hit (fX3_holdersOf_L61 k1 x2 x4 x5 x3 x6 σ) K0) : Run l Ω cX3_holdersOf RX3 7 (some .int) rmX3_holdersOf K 61 [some (rf Ω 3 0), some (rf Ω 7 k1), some (.int x2), some (.int x3), some (.int x4), some (.int x5), some (.int x6)] [] σ := by
  unfold fX3_holdersOf_L61 at h
  refine R_iload (i := 6) dX3_holdersOf_61 rfl ?_
  refine R_aload_n (i := 1) dX3_holdersOf_63 rfl rfl ?_
  refine R_iload (i := 5) dX3_holdersOf_64 rfl ?_
  refine R_callVi (ctX7_fieldsOf l Ω k1 x5 hL1 _ _ (hit_mono (hit_bd h) (fun r6 σ7 h => ?_))) okX7_fieldsOf mw_751 hL1 (cE_7 Ω k1 _) rfl rfl (Nat.le_of_ble_eq_true rfl) rfl rfl ⟨by decide, by decide⟩ dX3_holdersOf_66
  refine R_icmp_ge (tgt := 93) dX3_holdersOf_69 (by decide) (fun hc => ?_) (fun hc => ?_)
  · have h := hit_f h hc
    refine R_drop (lv2 := [some (rf Ω 3 0), some (rf Ω 7 k1), some (.int x2), some (.int x3), some (.int x4), none, some (.int x6)]) 5 rfl ?_
    refine R_drop (lv2 := [some (rf Ω 3 0), some (rf Ω 7 k1), some (.int x2), some (.int x3), some (.int x4), none, none]) 6 rfl ?_
    exact hE0 x3 σ7 h
  · have h := hit_t h hc
    refine R_aload_n (i := 1) dX3_holdersOf_72 rfl rfl ?_
    refine R_iload (i := 5) dX3_holdersOf_73 rfl ?_
    refine R_iload (i := 6) dX3_holdersOf_75 rfl ?_
    refine R_callVi (ctX7_target l Ω k1 x5 x6 hL1 _ _ (hit_mono (hit_bd h) (fun r8 σ9 h => ?_))) okX7_target mw_752 hL1 (cE_7 Ω k1 _) rfl rfl (Nat.le_of_ble_eq_true rfl) rfl rfl ⟨by decide, by decide⟩ dX3_holdersOf_77
    refine R_iload_n (i := 2) dX3_holdersOf_80 rfl rfl ?_
    refine R_icmp_ne (tgt := 87) dX3_holdersOf_81 (by decide) (fun hc => ?_) (fun hc => ?_)
    · have h := hit_f h hc
      exact rnX3_holdersOf_j87L61 hW k1 x2 x3 x4 x5 x6 hL0 hL1 σ9 hC hE0 h
    · have h := hit_t h hc
      refine R_iinc (v := x3 + 1) (lv2 := [some (rf Ω 3 0), some (rf Ω 7 k1), some (.int x2), some (.int (x3 + 1)), some (.int x4), some (.int x5), some (.int x6)]) dX3_holdersOf_84 rfl rfl (by decide) rfl rfl ?_
      exact rnX3_holdersOf_j87L61 hW k1 x2 (x3 + 1) x4 x5 x6 hL0 hL1 σ9 hC hE0 h
set_option maxRecDepth 100000 in
set_option maxHeartbeats 4000000 in
theorem rlX3_holdersOf_L61 {l : Launch} {Ω : rO} (hW : WF Ω) (k1 : Nat) (x2 : Int32) (x4 : Int32) (x5 : Int32) (hL0 : oL Ω 3 0) (hL1 : oL Ω 7 k1) {K : Int32 → rS → Prop} {KE : Int32 → rS → Prop} (hE0 : ∀ (e : Int32) (σ : rS), KE e σ → Run l Ω cX3_holdersOf RX3 7 (some .int) rmX3_holdersOf K 93 [some (rf Ω 3 0), some (rf Ω 7 k1), some (.int x2), some (.int e), some (.int x4), none, none] [] σ) : ∀ (n : Nat) (x3 : Int32) (x6 : Int32) (σ : rS), hit (lp (fun (x : (Int32 × Int32)) σ => fX3_holdersOf_L61 k1 x2 x4 x5 x.1 x.2 σ) n (x3, x6) σ) KE → Run l Ω cX3_holdersOf RX3 7 (some .int) rmX3_holdersOf K 61 [some (rf Ω 3 0), some (rf Ω 7 k1), some (.int x2), some (.int x3), some (.int x4), some (.int x5), some (.int x6)] [] σ := by
  intro n
  induction n with
  | zero => intro x3 x6 σ h; exact (h : False).elim
  | succ n ih =>
    intro x3 x6 σ h
    exact rsX3_holdersOf_L61 hW k1 x2 x4 x5 x3 x6 hL0 hL1 σ (fun x3 x6 σ h => ih x3 x6 σ h) (fun e σ h => hE0 e σ h) (hit_lp h)
set_option maxRecDepth 100000 in
set_option maxHeartbeats 4000000 in
theorem rsX3_holdersOf_L35 {l : Launch} {Ω : rO} (hW : WF Ω) (k1 : Nat) (x2 : Int32) (x3 : Int32) (x4 : Int32) (hL0 : oL Ω 3 0) (hL1 : oL Ω 7 k1) (σ : rS) {K : Int32 → rS → Prop} {K0 : ((Int32 × Int32) ⊕ Int32) → rS → Prop} (hC : ∀ (x3 : Int32) (x4 : Int32) (σ : rS), K0 (.inl (x3, x4)) σ → Run l Ω cX3_holdersOf RX3 7 (some .int) rmX3_holdersOf K 35 [some (rf Ω 3 0), some (rf Ω 7 k1), some (.int x2), some (.int x3), some (.int x4), none, none] [] σ) (hE0 : ∀ (e : Int32) (σ : rS), K0 (.inr e) σ → Run l Ω cX3_holdersOf RX3 7 (some .int) rmX3_holdersOf K 99 [none, none, none, some (.int e), none, none, none] [] σ) (h : hit (fX3_holdersOf_L35 k1 x2 x3 x4 σ) K0) : Run l Ω cX3_holdersOf RX3 7 (some .int) rmX3_holdersOf K 35 [some (rf Ω 3 0), some (rf Ω 7 k1), some (.int x2), some (.int x3), some (.int x4), none, none] [] σ := by
  unfold fX3_holdersOf_L35 at h
  refine R_iload (i := 4) dX3_holdersOf_35 rfl ?_
  refine R_aload_n (i := 0) dX3_holdersOf_37 rfl rfl ?_
  refine R_get foX3_39 hL0 (cE_3 Ω 0 _) rfl dX3_holdersOf_38 ?_
  refine R_icmp_ge (tgt := 99) dX3_holdersOf_41 (by decide) (fun hc => ?_) (fun hc => ?_)
  · have h := hit_f h hc
    refine R_drop (lv2 := [none, some (rf Ω 7 k1), some (.int x2), some (.int x3), some (.int x4), none, none]) 0 rfl ?_
    refine R_drop (lv2 := [none, none, some (.int x2), some (.int x3), some (.int x4), none, none]) 1 rfl ?_
    refine R_drop (lv2 := [none, none, none, some (.int x3), some (.int x4), none, none]) 2 rfl ?_
    refine R_drop (lv2 := [none, none, none, some (.int x3), none, none, none]) 4 rfl ?_
    exact hE0 x3 σ h
  · have h := hit_t h hc
    refine R_aload_n (i := 0) dX3_holdersOf_44 rfl rfl ?_
    refine R_get foX3_15 hL0 (cE_3 Ω 0 _) rfl dX3_holdersOf_45 ?_
    refine R_iload (i := 4) dX3_holdersOf_48 rfl ?_
    obtain ⟨hb, h⟩ := hit_bnd h
    refine R_iald (WF.kid hW 1 hL0 rfl) (cE_31 Ω 0 _) hb dX3_holdersOf_50 ?_
    refine R_topi h (fun y3 h => ?_)
    refine R_istore (lv2 := [some (rf Ω 3 0), some (rf Ω 7 k1), some (.int x2), some (.int x3), some (.int x4), some (.int y3), none]) dX3_holdersOf_51 (by decide) rfl rfl ?_
    refine R_aload_n (i := 1) dX3_holdersOf_53 rfl rfl ?_
    refine R_iload (i := 5) dX3_holdersOf_54 rfl ?_
    refine R_callVi (ctX7_firstStrong l Ω k1 y3 hL1 _ _ (hit_mono (hit_bd h) (fun r4 σ5 h => ?_))) okX7_firstStrong mw_750 hL1 (cE_7 Ω k1 _) rfl rfl (Nat.le_of_ble_eq_true rfl) rfl rfl ⟨by decide, by decide⟩ dX3_holdersOf_56
    refine R_istore (lv2 := [some (rf Ω 3 0), some (rf Ω 7 k1), some (.int x2), some (.int x3), some (.int x4), some (.int y3), some (.int r4)]) dX3_holdersOf_59 (by decide) rfl rfl ?_
    refine rlX3_holdersOf_L61 hW k1 x2 x4 y3 hL0 hL1 ?_ fu x3 r4 σ5 (hit_bd h)
    · intro e11 σ10 h
      try dsimp only at h
      refine R_iinc (v := x4 + 1) (lv2 := [some (rf Ω 3 0), some (rf Ω 7 k1), some (.int x2), some (.int e11), some (.int (x4 + 1)), none, none]) dX3_holdersOf_93 rfl rfl (by decide) rfl rfl ?_
      refine R_goto (tgt := 35) dX3_holdersOf_96 (by decide) ?_
      exact hC e11 (x4 + 1) σ10 h
set_option maxRecDepth 100000 in
set_option maxHeartbeats 4000000 in
theorem rlX3_holdersOf_L35 {l : Launch} {Ω : rO} (hW : WF Ω) (k1 : Nat) (x2 : Int32) (hL0 : oL Ω 3 0) (hL1 : oL Ω 7 k1) {K : Int32 → rS → Prop} {KE : Int32 → rS → Prop} (hE0 : ∀ (e : Int32) (σ : rS), KE e σ → Run l Ω cX3_holdersOf RX3 7 (some .int) rmX3_holdersOf K 99 [none, none, none, some (.int e), none, none, none] [] σ) : ∀ (n : Nat) (x3 : Int32) (x4 : Int32) (σ : rS), hit (lp (fun (x : (Int32 × Int32)) σ => fX3_holdersOf_L35 k1 x2 x.1 x.2 σ) n (x3, x4) σ) KE → Run l Ω cX3_holdersOf RX3 7 (some .int) rmX3_holdersOf K 35 [some (rf Ω 3 0), some (rf Ω 7 k1), some (.int x2), some (.int x3), some (.int x4), none, none] [] σ := by
  intro n
  induction n with
  | zero => intro x3 x4 σ h; exact (h : False).elim
  | succ n ih =>
    intro x3 x4 σ h
    exact rsX3_holdersOf_L35 hW k1 x2 x3 x4 hL0 hL1 σ (fun x3 x4 σ h => ih x3 x4 σ h) (fun e σ h => hE0 e σ h) (hit_lp h)
set_option maxRecDepth 100000 in
set_option maxHeartbeats 4000000 in
theorem ctX3_holdersOf (l : Launch) (Ω : rO) (k1 : Nat) (x2 : Int32) (hL0 : oL Ω 3 0) (hL1 : oL Ω 7 k1) (σ : rS) (K : Int32 → rS → Prop) (h : hit (fX3_holdersOf k1 x2 σ) K) : Ct l Ω yX3_holdersOf cX3_holdersOf 7 (some .int) rmX3_holdersOf [rf Ω 3 0, rf Ω 7 k1, .int x2] σ K := by
  refine Ct.of (own := RX3) (lv := [some (rf Ω 3 0), some (rf Ω 7 k1), some (.int x2), none, none, none, none]) (by decide) rfl (Nat.le_of_ble_eq_true rfl) rfl (fun hW => ?_)
  unfold fX3_holdersOf at h
  refine R_iconst (v := 0) dX3_holdersOf_0 rfl ?_
  refine R_istore_n (lv2 := [some (rf Ω 3 0), some (rf Ω 7 k1), some (.int x2), some (.int 0), none, none, none]) dX3_holdersOf_1 rfl (by decide) rfl rfl ?_
  refine R_iconst (v := 0) dX3_holdersOf_2 rfl ?_
  refine R_istore (lv2 := [some (rf Ω 3 0), some (rf Ω 7 k1), some (.int x2), some (.int 0), some (.int 0), none, none]) dX3_holdersOf_3 (by decide) rfl rfl ?_
  refine rlX3_holdersOf_L5 hW k1 x2 hL0 hL1 ?_ fu 0 0 σ (hit_bd h)
  · intro e2 σ1 h
    try dsimp only at h
    refine R_iconst (v := 0) dX3_holdersOf_32 rfl ?_
    refine R_istore (lv2 := [some (rf Ω 3 0), some (rf Ω 7 k1), some (.int x2), some (.int e2), some (.int 0), none, none]) dX3_holdersOf_33 (by decide) rfl rfl ?_
    refine rlX3_holdersOf_L35 hW k1 x2 hL0 hL1 ?_ fu e2 0 σ1 (hit_bd h)
    · intro e13 σ12 h
      try dsimp only at h
      refine R_iload_n (i := 3) dX3_holdersOf_99 rfl rfl ?_
      exact R_iret dX3_holdersOf_100 rfl h
set_option maxRecDepth 100000 in
set_option maxHeartbeats 4000000 in
theorem rsX3_findWays_L6 {l : Launch} {Ω : rO} (hW : WF Ω) (k1 : Nat) (x2 : Int32) (hL0 : oL Ω 3 0) (hL1 : oL Ω 7 k1) (σ : rS) {K : Int32 → rS → Prop} {K0 : (Int32 ⊕ Unit) → rS → Prop} (hC : ∀ (x2 : Int32) (σ : rS), K0 (.inl x2) σ → Run l Ω cX3_findWays RX3 3 none rmX3_findWays K 6 [some (rf Ω 3 0), some (rf Ω 7 k1), some (.int x2)] [] σ) (hE0 : ∀ (e : Unit) (σ : rS), K0 (.inr e) σ → Run l Ω cX3_findWays RX3 3 none rmX3_findWays K 30 [some (rf Ω 3 0), some (rf Ω 7 k1), none] [] σ) (h : hit (fX3_findWays_L6 k1 x2 σ) K0) : Run l Ω cX3_findWays RX3 3 none rmX3_findWays K 6 [some (rf Ω 3 0), some (rf Ω 7 k1), some (.int x2)] [] σ := by
  unfold fX3_findWays_L6 at h
  refine R_iload_n (i := 2) dX3_findWays_6 rfl rfl ?_
  refine R_bipush (v := 8) dX3_findWays_7 rfl ?_
  refine R_icmp_ge (tgt := 30) dX3_findWays_9 (by decide) (fun hc => ?_) (fun hc => ?_)
  · have h := hit_f h hc
    refine R_drop (lv2 := [some (rf Ω 3 0), some (rf Ω 7 k1), none]) 2 rfl ?_
    exact hE0 () σ h
  · have h := hit_t h hc
    refine R_aload_n (i := 0) dX3_findWays_12 rfl rfl ?_
    refine R_aload_n (i := 1) dX3_findWays_13 rfl rfl ?_
    refine R_get foX3_63 hL1 (cE_7 Ω k1 _) rfl dX3_findWays_14 ?_
    refine R_iload_n (i := 2) dX3_findWays_17 rfl rfl ?_
    obtain ⟨hb, h⟩ := hit_bnd h
    refine R_iald (WF.kid hW 8 hL1 rfl) (cE_53 Ω k1 _) hb dX3_findWays_18 ?_
    refine R_iconst (v := (-1)) dX3_findWays_19 rfl ?_
    refine R_iconst (v := (-1)) dX3_findWays_20 rfl ?_
    refine R_callVv (ctX3_visit l Ω (σ 53 k1 (ix x2)) (-1) (-1) hL0 _ _ (hit_mono (hit_bd h) (fun r3 σ4 h => ?_))) okX3_visit mw_741 hL0 (cE_3 Ω 0 _) rfl rfl (Nat.le_of_ble_eq_true rfl) rfl rfl ⟨by decide, by decide⟩ dX3_findWays_21
    refine R_iinc (v := x2 + 1) (lv2 := [some (rf Ω 3 0), some (rf Ω 7 k1), some (.int (x2 + 1))]) dX3_findWays_24 rfl rfl (by decide) rfl rfl ?_
    refine R_goto (tgt := 6) dX3_findWays_27 (by decide) ?_
    exact hC (x2 + 1) σ4 h
set_option maxRecDepth 100000 in
set_option maxHeartbeats 4000000 in
theorem rlX3_findWays_L6 {l : Launch} {Ω : rO} (hW : WF Ω) (k1 : Nat) (hL0 : oL Ω 3 0) (hL1 : oL Ω 7 k1) {K : Int32 → rS → Prop} {KE : Unit → rS → Prop} (hE0 : ∀ (e : Unit) (σ : rS), KE e σ → Run l Ω cX3_findWays RX3 3 none rmX3_findWays K 30 [some (rf Ω 3 0), some (rf Ω 7 k1), none] [] σ) : ∀ (n : Nat) (x2 : Int32) (σ : rS), hit (lp (fun (x : Int32) σ => fX3_findWays_L6 k1 x σ) n x2 σ) KE → Run l Ω cX3_findWays RX3 3 none rmX3_findWays K 6 [some (rf Ω 3 0), some (rf Ω 7 k1), some (.int x2)] [] σ := by
  intro n
  induction n with
  | zero => intro x2 σ h; exact (h : False).elim
  | succ n ih =>
    intro x2 σ h
    exact rsX3_findWays_L6 hW k1 x2 hL0 hL1 σ (fun x2 σ h => ih x2 σ h) (fun e σ h => hE0 e σ h) (hit_lp h)
set_option maxRecDepth 100000 in
set_option maxHeartbeats 4000000 in
theorem ctX3_findWays (l : Launch) (Ω : rO) (k1 : Nat) (hL0 : oL Ω 3 0) (hL1 : oL Ω 7 k1) (σ : rS) (K : Int32 → rS → Prop) (h : hit (fX3_findWays k1 σ) K) : Ct l Ω yX3_findWays cX3_findWays 3 none rmX3_findWays [rf Ω 3 0, rf Ω 7 k1] σ K := by
  refine Ct.of (own := RX3) (lv := [some (rf Ω 3 0), some (rf Ω 7 k1), none]) (by decide) rfl (Nat.le_of_ble_eq_true rfl) rfl (fun hW => ?_)
  unfold fX3_findWays at h
  refine R_aload_n (i := 0) dX3_findWays_0 rfl rfl ?_
  refine R_callVv (ctX3_begin l Ω hL0 _ _ (hit_mono (hit_bd h) (fun r1 σ2 h => ?_))) okX3_begin mw_736 hL0 (cE_3 Ω 0 _) rfl rfl (Nat.le_of_ble_eq_true rfl) rfl rfl ⟨by decide, by decide⟩ dX3_findWays_1
  refine R_iconst (v := 0) dX3_findWays_4 rfl ?_
  refine R_istore_n (lv2 := [some (rf Ω 3 0), some (rf Ω 7 k1), some (.int 0)]) dX3_findWays_5 rfl (by decide) rfl rfl ?_
  refine rlX3_findWays_L6 hW k1 hL0 hL1 ?_ fu 0 σ2 (hit_bd h)
  · intro e6 σ5 h
    try dsimp only at h
    refine R_aload_n (i := 0) dX3_findWays_30 rfl rfl ?_
    refine R_aload_n (i := 1) dX3_findWays_31 rfl rfl ?_
    refine R_iconst (v := 0) dX3_findWays_32 rfl ?_
    refine R_callVv (ctX3_spread l Ω k1 0 hL0 hL1 _ _ (hit_mono (hit_bd h) (fun r7 σ8 h => ?_))) okX3_spread mw_746 hL0 (cE_3 Ω 0 _) rfl rfl (Nat.le_of_ble_eq_true rfl) rfl rfl ⟨by decide, by decide⟩ dX3_findWays_33
    exact R_vret dX3_findWays_36 rfl h
set_option maxRecDepth 100000 in
set_option maxHeartbeats 4000000 in
theorem rsX3_lowestRootOf_L2 {l : Launch} {Ω : rO} (hW : WF Ω) (k0 : Nat) (x1 : Int32) (x2 : Int32) (hL0 : oL Ω 7 k0) (σ : rS) {K : Int32 → rS → Prop} {K0 : (Int32 ⊕ (Int32 ⊕ Unit)) → rS → Prop} (hC : ∀ (x2 : Int32) (σ : rS), K0 (.inl x2) σ → Run l Ω cX3_lowestRootOf RX3 3 (some .int) rmX3_lowestRootOf K 2 [some (rf Ω 7 k0), some (.int x1), some (.int x2)] [] σ) (hE0 : ∀ (e : Int32) (σ : rS), K0 (.inr (.inl e)) σ → Run l Ω cX3_lowestRootOf RX3 3 (some .int) rmX3_lowestRootOf K 18 [none, none, some (.int e)] [] σ) (hE1 : ∀ (e : Unit) (σ : rS), K0 (.inr (.inr e)) σ → Run l Ω cX3_lowestRootOf RX3 3 (some .int) rmX3_lowestRootOf K 26 [none, none, none] [] σ) (h : hit (fX3_lowestRootOf_L2 k0 x1 x2 σ) K0) : Run l Ω cX3_lowestRootOf RX3 3 (some .int) rmX3_lowestRootOf K 2 [some (rf Ω 7 k0), some (.int x1), some (.int x2)] [] σ := by
  unfold fX3_lowestRootOf_L2 at h
  refine R_iload_n (i := 2) dX3_lowestRootOf_2 rfl rfl ?_
  refine R_bipush (v := 8) dX3_lowestRootOf_3 rfl ?_
  refine R_icmp_ge (tgt := 26) dX3_lowestRootOf_5 (by decide) (fun hc => ?_) (fun hc => ?_)
  · have h := hit_f h hc
    refine R_drop (lv2 := [none, some (.int x1), some (.int x2)]) 0 rfl ?_
    refine R_drop (lv2 := [none, none, some (.int x2)]) 1 rfl ?_
    refine R_drop (lv2 := [none, none, none]) 2 rfl ?_
    exact hE1 () σ h
  · have h := hit_t h hc
    refine R_aload_n (i := 0) dX3_lowestRootOf_8 rfl rfl ?_
    refine R_get foX3_63 hL0 (cE_7 Ω k0 _) rfl dX3_lowestRootOf_9 ?_
    refine R_iload_n (i := 2) dX3_lowestRootOf_12 rfl rfl ?_
    obtain ⟨hb, h⟩ := hit_bnd h
    refine R_iald (WF.kid hW 8 hL0 rfl) (cE_53 Ω k0 _) hb dX3_lowestRootOf_13 ?_
    refine R_iload_n (i := 1) dX3_lowestRootOf_14 rfl rfl ?_
    refine R_icmp_ne (tgt := 20) dX3_lowestRootOf_15 (by decide) (fun hc => ?_) (fun hc => ?_)
    · have h := hit_f h hc
      refine R_iinc (v := x2 + 1) (lv2 := [some (rf Ω 7 k0), some (.int x1), some (.int (x2 + 1))]) dX3_lowestRootOf_20 rfl rfl (by decide) rfl rfl ?_
      refine R_goto (tgt := 2) dX3_lowestRootOf_23 (by decide) ?_
      exact hC (x2 + 1) σ h
    · have h := hit_t h hc
      refine R_drop (lv2 := [none, some (.int x1), some (.int x2)]) 0 rfl ?_
      refine R_drop (lv2 := [none, none, some (.int x2)]) 1 rfl ?_
      exact hE0 x2 σ h
set_option maxRecDepth 100000 in
set_option maxHeartbeats 4000000 in
theorem rlX3_lowestRootOf_L2 {l : Launch} {Ω : rO} (hW : WF Ω) (k0 : Nat) (x1 : Int32) (hL0 : oL Ω 7 k0) {K : Int32 → rS → Prop} {KE : (Int32 ⊕ Unit) → rS → Prop} (hE0 : ∀ (e : Int32) (σ : rS), KE (.inl e) σ → Run l Ω cX3_lowestRootOf RX3 3 (some .int) rmX3_lowestRootOf K 18 [none, none, some (.int e)] [] σ) (hE1 : ∀ (e : Unit) (σ : rS), KE (.inr e) σ → Run l Ω cX3_lowestRootOf RX3 3 (some .int) rmX3_lowestRootOf K 26 [none, none, none] [] σ) : ∀ (n : Nat) (x2 : Int32) (σ : rS), hit (lp (fun (x : Int32) σ => fX3_lowestRootOf_L2 k0 x1 x σ) n x2 σ) KE → Run l Ω cX3_lowestRootOf RX3 3 (some .int) rmX3_lowestRootOf K 2 [some (rf Ω 7 k0), some (.int x1), some (.int x2)] [] σ := by
  intro n
  induction n with
  | zero => intro x2 σ h; exact (h : False).elim
  | succ n ih =>
    intro x2 σ h
    exact rsX3_lowestRootOf_L2 hW k0 x1 x2 hL0 σ (fun x2 σ h => ih x2 σ h) (fun e σ h => hE0 e σ h) (fun e σ h => hE1 e σ h) (hit_lp h)
set_option maxRecDepth 100000 in
set_option maxHeartbeats 4000000 in
theorem ctX3_lowestRootOf (l : Launch) (Ω : rO) (k0 : Nat) (x1 : Int32) (hL0 : oL Ω 7 k0) (σ : rS) (K : Int32 → rS → Prop) (h : hit (fX3_lowestRootOf k0 x1 σ) K) : Ct l Ω yX3_lowestRootOf cX3_lowestRootOf 3 (some .int) rmX3_lowestRootOf [rf Ω 7 k0, .int x1] σ K := by
  refine Ct.of (own := RX3) (lv := [some (rf Ω 7 k0), some (.int x1), none]) (by decide) rfl (Nat.le_of_ble_eq_true rfl) rfl (fun hW => ?_)
  unfold fX3_lowestRootOf at h
  refine R_iconst (v := 0) dX3_lowestRootOf_0 rfl ?_
  refine R_istore_n (lv2 := [some (rf Ω 7 k0), some (.int x1), some (.int 0)]) dX3_lowestRootOf_1 rfl (by decide) rfl rfl ?_
  refine rlX3_lowestRootOf_L2 hW k0 x1 hL0 ?_ ?_ fu 0 σ (hit_bd h)
  · intro e2 σ1 h
    try dsimp only at h
    refine R_iload_n (i := 2) dX3_lowestRootOf_18 rfl rfl ?_
    exact R_iret dX3_lowestRootOf_19 rfl h
  · intro e3 σ1 h
    try dsimp only at h
    refine R_iconst (v := (-1)) dX3_lowestRootOf_26 rfl ?_
    exact R_iret dX3_lowestRootOf_27 rfl h
set_option maxRecDepth 100000 in
set_option maxHeartbeats 4000000 in
theorem rsX3_wayTo_L45 {l : Launch} {Ω : rO} (hW : WF Ω) (k1 : Nat) (x3 : Int32) (x5 : Int32) (x6 : Int32) (hL0 : oL Ω 3 0) (hL1 : oL Ω 7 k1) (σ : rS) {K : Int32 → rS → Prop} {K0 : ((Int32 × Int32) ⊕ Int32) → rS → Prop} (hC : ∀ (x5 : Int32) (x6 : Int32) (σ : rS), K0 (.inl (x5, x6)) σ → Run l Ω cX3_wayTo RX3 7 (some .int) rmX3_wayTo K 45 [some (rf Ω 3 0), some (rf Ω 7 k1), none, some (.int x3), none, some (.int x5), some (.int x6)] [] σ) (hE0 : ∀ (e : Int32) (σ : rS), K0 (.inr e) σ → Run l Ω cX3_wayTo RX3 7 (some .int) rmX3_wayTo K 77 [some (rf Ω 3 0), some (rf Ω 7 k1), none, some (.int x3), none, some (.int e), none] [] σ) (h : hit (fX3_wayTo_L45 k1 x3 x5 x6 σ) K0) : Run l Ω cX3_wayTo RX3 7 (some .int) rmX3_wayTo K 45 [some (rf Ω 3 0), some (rf Ω 7 k1), none, some (.int x3), none, some (.int x5), some (.int x6)] [] σ := by
  unfold fX3_wayTo_L45 at h
  refine R_iload (i := 6) dX3_wayTo_45 rfl ?_
  refine R_iload_n (i := 3) dX3_wayTo_47 rfl rfl ?_
  refine R_icmp_le (tgt := 77) dX3_wayTo_48 (by decide) (fun hc => ?_) (fun hc => ?_)
  · have h := hit_f h hc
    refine R_drop (lv2 := [some (rf Ω 3 0), some (rf Ω 7 k1), none, some (.int x3), none, some (.int x5), none]) 6 rfl ?_
    exact hE0 x5 σ h
  · have h := hit_t h hc
    refine R_aload_n (i := 0) dX3_wayTo_51 rfl rfl ?_
    refine R_get foX3_21 hL0 (cE_3 Ω 0 _) rfl dX3_wayTo_52 ?_
    refine R_iload (i := 5) dX3_wayTo_55 rfl ?_
    obtain ⟨hb, h⟩ := hit_bnd h
    refine R_iald (WF.kid hW 3 hL0 rfl) (cE_33 Ω 0 _) hb dX3_wayTo_57 ?_
    refine R_iconst (v := (-1)) dX3_wayTo_58 rfl ?_
    refine R_icmp_eq (tgt := 77) dX3_wayTo_59 (by decide) (fun hc => ?_) (fun hc => ?_)
    · have h := hit_t h hc
      refine R_drop (lv2 := [some (rf Ω 3 0), some (rf Ω 7 k1), none, some (.int x3), none, some (.int x5), none]) 6 rfl ?_
      exact hE0 x5 σ h
    · have h := hit_f h hc
      refine R_aload_n (i := 0) dX3_wayTo_62 rfl rfl ?_
      refine R_get foX3_21 hL0 (cE_3 Ω 0 _) rfl dX3_wayTo_63 ?_
      refine R_iload (i := 5) dX3_wayTo_66 rfl ?_
      obtain ⟨hb, h⟩ := hit_bnd h
      refine R_iald (WF.kid hW 3 hL0 rfl) (cE_33 Ω 0 _) hb dX3_wayTo_68 ?_
      refine R_topi h (fun y4 h => ?_)
      refine R_istore (lv2 := [some (rf Ω 3 0), some (rf Ω 7 k1), none, some (.int x3), none, some (.int y4), some (.int x6)]) dX3_wayTo_69 (by decide) rfl rfl ?_
      refine R_iinc (v := x6 + (-1)) (lv2 := [some (rf Ω 3 0), some (rf Ω 7 k1), none, some (.int x3), none, some (.int y4), some (.int (x6 + (-1)))]) dX3_wayTo_71 rfl rfl (by decide) rfl rfl ?_
      refine R_goto (tgt := 45) dX3_wayTo_74 (by decide) ?_
      exact hC y4 (x6 + (-1)) σ h
set_option maxRecDepth 100000 in
set_option maxHeartbeats 4000000 in
theorem rlX3_wayTo_L45 {l : Launch} {Ω : rO} (hW : WF Ω) (k1 : Nat) (x3 : Int32) (hL0 : oL Ω 3 0) (hL1 : oL Ω 7 k1) {K : Int32 → rS → Prop} {KE : Int32 → rS → Prop} (hE0 : ∀ (e : Int32) (σ : rS), KE e σ → Run l Ω cX3_wayTo RX3 7 (some .int) rmX3_wayTo K 77 [some (rf Ω 3 0), some (rf Ω 7 k1), none, some (.int x3), none, some (.int e), none] [] σ) : ∀ (n : Nat) (x5 : Int32) (x6 : Int32) (σ : rS), hit (lp (fun (x : (Int32 × Int32)) σ => fX3_wayTo_L45 k1 x3 x.1 x.2 σ) n (x5, x6) σ) KE → Run l Ω cX3_wayTo RX3 7 (some .int) rmX3_wayTo K 45 [some (rf Ω 3 0), some (rf Ω 7 k1), none, some (.int x3), none, some (.int x5), some (.int x6)] [] σ := by
  intro n
  induction n with
  | zero => intro x5 x6 σ h; exact (h : False).elim
  | succ n ih =>
    intro x5 x6 σ h
    exact rsX3_wayTo_L45 hW k1 x3 x5 x6 hL0 hL1 σ (fun x5 x6 σ h => ih x5 x6 σ h) (fun e σ h => hE0 e σ h) (hit_lp h)
set_option maxRecDepth 100000 in
set_option maxHeartbeats 4000000 in
theorem rnX3_wayTo_j77 {l : Launch} {Ω : rO} (hW : WF Ω) (k1 : Nat) (x3 : Int32) (x5 : Int32) (hL0 : oL Ω 3 0) (hL1 : oL Ω 7 k1) (σ : rS) {K : Int32 → rS → Prop}  (h : hit (fX3_wayTo_j77 k1 x3 x5 σ) K) : Run l Ω cX3_wayTo RX3 7 (some .int) rmX3_wayTo K 77 [some (rf Ω 3 0), some (rf Ω 7 k1), none, some (.int x3), none, some (.int x5), none] [] σ := by
  unfold fX3_wayTo_j77 at h
  refine R_iload_n (i := 3) dX3_wayTo_77 rfl rfl ?_
  refine R_if_ne (tgt := 90) dX3_wayTo_78 (by decide) (fun hc => ?_) (fun hc => ?_)
  · have h := hit_f h hc
    refine R_aload_n (i := 0) dX3_wayTo_90 rfl rfl ?_
    refine R_get foX3_24 hL0 (cE_3 Ω 0 _) rfl dX3_wayTo_91 ?_
    refine R_iload (i := 5) dX3_wayTo_94 rfl ?_
    obtain ⟨hb, h⟩ := hit_bnd h
    refine R_iald (WF.kid hW 4 hL0 rfl) (cE_34 Ω 0 _) hb dX3_wayTo_96 ?_
    exact R_iret dX3_wayTo_97 rfl h
  · have h := hit_t h hc
    refine R_aload_n (i := 1) dX3_wayTo_81 rfl rfl ?_
    refine R_iload (i := 5) dX3_wayTo_82 rfl ?_
    refine R_callSi (ctX3_lowestRootOf l Ω k1 x5 hL1 _ _ (hit_mono (hit_bd h) (fun r7 σ8 h => ?_))) okX3_lowestRootOf mw_978 rfl rfl (Nat.le_of_ble_eq_true rfl) rfl rfl ⟨by decide, by decide⟩ dX3_wayTo_84
    refine R_goto (tgt := 97) dX3_wayTo_87 (by decide) ?_
    exact R_iret dX3_wayTo_97 rfl h
set_option maxRecDepth 100000 in
set_option maxHeartbeats 4000000 in
theorem ctX3_wayTo (l : Launch) (Ω : rO) (k1 : Nat) (x2 : Int32) (x3 : Int32) (hL0 : oL Ω 3 0) (hL1 : oL Ω 7 k1) (σ : rS) (K : Int32 → rS → Prop) (h : hit (fX3_wayTo k1 x2 x3 σ) K) : Ct l Ω yX3_wayTo cX3_wayTo 7 (some .int) rmX3_wayTo [rf Ω 3 0, rf Ω 7 k1, .int x2, .int x3] σ K := by
  refine Ct.of (own := RX3) (lv := [some (rf Ω 3 0), some (rf Ω 7 k1), some (.int x2), some (.int x3), none, none, none]) (by decide) rfl (Nat.le_of_ble_eq_true rfl) rfl (fun hW => ?_)
  unfold fX3_wayTo at h
  refine R_aload_n (i := 0) dX3_wayTo_0 rfl rfl ?_
  refine R_iload_n (i := 2) dX3_wayTo_1 rfl rfl ?_
  refine R_callVi (ctX3_isSeen l Ω x2 hL0 _ _ (hit_mono (hit_bd h) (fun r1 σ2 h => ?_))) okX3_isSeen mw_977 hL0 (cE_3 Ω 0 _) rfl rfl (Nat.le_of_ble_eq_true rfl) rfl rfl ⟨by decide, by decide⟩ dX3_wayTo_2
  refine R_if_ne (tgt := 10) dX3_wayTo_5 (by decide) (fun hc => ?_) (fun hc => ?_)
  · have h := hit_f h hc
    refine R_aload_n (i := 0) dX3_wayTo_10 rfl rfl ?_
    refine R_get foX3_18 hL0 (cE_3 Ω 0 _) rfl dX3_wayTo_11 ?_
    refine R_iload_n (i := 2) dX3_wayTo_14 rfl rfl ?_
    obtain ⟨hb, h⟩ := hit_bnd h
    refine R_iald (WF.kid hW 2 hL0 rfl) (cE_32 Ω 0 _) hb dX3_wayTo_15 ?_
    refine R_topi h (fun y3 h => ?_)
    refine R_istore (lv2 := [some (rf Ω 3 0), some (rf Ω 7 k1), some (.int x2), some (.int x3), some (.int y3), none, none]) dX3_wayTo_16 (by decide) rfl rfl ?_
    refine R_iload_n (i := 3) dX3_wayTo_18 rfl rfl ?_
    refine R_iconst (v := (-1)) dX3_wayTo_19 rfl ?_
    refine R_icmp_ne (tgt := 26) dX3_wayTo_20 (by decide) (fun hc => ?_) (fun hc => ?_)
    · have h := hit_f h hc
      refine R_iload_n (i := 3) dX3_wayTo_26 rfl rfl ?_
      refine R_if_lt (tgt := 36) dX3_wayTo_27 (by decide) (fun hc => ?_) (fun hc => ?_)
      · have h := hit_t h hc
        refine R_iconst (v := (-1)) dX3_wayTo_36 rfl ?_
        exact R_iret dX3_wayTo_37 rfl h
      · have h := hit_f h hc
        refine R_iload_n (i := 3) dX3_wayTo_30 rfl rfl ?_
        refine R_iload (i := 4) dX3_wayTo_31 rfl ?_
        refine R_icmp_le (tgt := 38) dX3_wayTo_33 (by decide) (fun hc => ?_) (fun hc => ?_)
        · have h := hit_f h hc
          refine R_iload_n (i := 2) dX3_wayTo_38 rfl rfl ?_
          refine R_istore (lv2 := [some (rf Ω 3 0), some (rf Ω 7 k1), some (.int x2), some (.int x3), some (.int y3), some (.int x2), none]) dX3_wayTo_39 (by decide) rfl rfl ?_
          refine R_iload (i := 4) dX3_wayTo_41 rfl ?_
          refine R_istore (lv2 := [some (rf Ω 3 0), some (rf Ω 7 k1), some (.int x2), some (.int x3), some (.int y3), some (.int x2), some (.int y3)]) dX3_wayTo_43 (by decide) rfl rfl ?_
          refine R_drop (lv2 := [some (rf Ω 3 0), some (rf Ω 7 k1), none, some (.int x3), some (.int y3), some (.int x2), some (.int y3)]) 2 rfl ?_
          refine R_drop (lv2 := [some (rf Ω 3 0), some (rf Ω 7 k1), none, some (.int x3), none, some (.int x2), some (.int y3)]) 4 rfl ?_
          refine rlX3_wayTo_L45 hW k1 x3 hL0 hL1 ?_ fu x2 y3 σ2 (hit_bd h)
          · intro e6 σ5 h
            try dsimp only at h
            exact rnX3_wayTo_j77 hW k1 x3 e6 hL0 hL1 σ5  h
        · have h := hit_t h hc
          refine R_iconst (v := (-1)) dX3_wayTo_36 rfl ?_
          exact R_iret dX3_wayTo_37 rfl h
    · have h := hit_t h hc
      refine R_iload (i := 4) dX3_wayTo_23 rfl ?_
      exact R_iret dX3_wayTo_25 rfl h
  · have h := hit_t h hc
    refine R_iconst (v := (-1)) dX3_wayTo_8 rfl ?_
    exact R_iret dX3_wayTo_9 rfl h
set_option maxRecDepth 100000 in
set_option maxHeartbeats 4000000 in
theorem rsX3_wayBack_L43 {l : Launch} {Ω : rO} (hW : WF Ω) (k1 : Nat) (x2 : Int32) (x3 : Int32) (x4 : Int32) (x5 : Int32) (hL0 : oL Ω 3 0) (hL1 : oL Ω 7 k1) (σ : rS) {K : Int32 → rS → Prop} {K0 : (Int32 ⊕ (Unit ⊕ Unit)) → rS → Prop} (hC : ∀ (x5 : Int32) (σ : rS), K0 (.inl x5) σ → Run l Ω cX3_wayBack RX3 7 (some .int) rmX3_wayBack K 43 [some (rf Ω 3 0), some (rf Ω 7 k1), some (.int x2), some (.int x3), some (.int x4), some (.int x5), none] [] σ) (hE0 : ∀ (e : Unit) (σ : rS), K0 (.inr (.inl e)) σ → Run l Ω cX3_wayBack RX3 7 (some .int) rmX3_wayBack K 70 [some (rf Ω 3 0), none, none, none, some (.int x4), none, none] [] σ) (hE1 : ∀ (e : Unit) (σ : rS), K0 (.inr (.inr e)) σ → Run l Ω cX3_wayBack RX3 7 (some .int) rmX3_wayBack K 96 [some (rf Ω 3 0), some (rf Ω 7 k1), some (.int x2), some (.int x3), none, none, none] [] σ) (h : hit (fX3_wayBack_L43 k1 x2 x3 x4 x5 σ) K0) : Run l Ω cX3_wayBack RX3 7 (some .int) rmX3_wayBack K 43 [some (rf Ω 3 0), some (rf Ω 7 k1), some (.int x2), some (.int x3), some (.int x4), some (.int x5), none] [] σ := by
  unfold fX3_wayBack_L43 at h
  refine R_iload (i := 5) dX3_wayBack_43 rfl ?_
  refine R_aload_n (i := 1) dX3_wayBack_45 rfl rfl ?_
  refine R_iload (i := 4) dX3_wayBack_46 rfl ?_
  refine R_callVi (ctX7_fieldsOf l Ω k1 x4 hL1 _ _ (hit_mono (hit_bd h) (fun r8 σ9 h => ?_))) okX7_fieldsOf mw_751 hL1 (cE_7 Ω k1 _) rfl rfl (Nat.le_of_ble_eq_true rfl) rfl rfl ⟨by decide, by decide⟩ dX3_wayBack_48
  refine R_icmp_ge (tgt := 96) dX3_wayBack_51 (by decide) (fun hc => ?_) (fun hc => ?_)
  · have h := hit_f h hc
    refine R_drop (lv2 := [some (rf Ω 3 0), some (rf Ω 7 k1), some (.int x2), some (.int x3), none, some (.int x5), none]) 4 rfl ?_
    refine R_drop (lv2 := [some (rf Ω 3 0), some (rf Ω 7 k1), some (.int x2), some (.int x3), none, none, none]) 5 rfl ?_
    exact hE1 () σ9 h
  · have h := hit_t h hc
    refine R_aload_n (i := 1) dX3_wayBack_54 rfl rfl ?_
    refine R_iload (i := 4) dX3_wayBack_55 rfl ?_
    refine R_iload (i := 5) dX3_wayBack_57 rfl ?_
    refine R_callVi (ctX7_target l Ω k1 x4 x5 hL1 _ _ (hit_mono (hit_bd h) (fun r10 σ11 h => ?_))) okX7_target mw_752 hL1 (cE_7 Ω k1 _) rfl rfl (Nat.le_of_ble_eq_true rfl) rfl rfl ⟨by decide, by decide⟩ dX3_wayBack_59
    refine R_istore (lv2 := [some (rf Ω 3 0), some (rf Ω 7 k1), some (.int x2), some (.int x3), some (.int x4), some (.int x5), some (.int r10)]) dX3_wayBack_62 (by decide) rfl rfl ?_
    refine R_iload (i := 6) dX3_wayBack_64 rfl ?_
    refine R_iload_n (i := 2) dX3_wayBack_66 rfl rfl ?_
    refine R_icmp_ne (tgt := 80) dX3_wayBack_67 (by decide) (fun hc => ?_) (fun hc => ?_)
    · have h := hit_f h hc
      refine R_aload_n (i := 0) dX3_wayBack_80 rfl rfl ?_
      refine R_iload (i := 6) dX3_wayBack_81 rfl ?_
      refine R_iload (i := 4) dX3_wayBack_83 rfl ?_
      refine R_iload (i := 5) dX3_wayBack_85 rfl ?_
      refine R_callVv (ctX3_visit l Ω r10 x4 x5 hL0 _ _ (hit_mono (hit_bd h) (fun r12 σ13 h => ?_))) okX3_visit mw_741 hL0 (cE_3 Ω 0 _) rfl rfl (Nat.le_of_ble_eq_true rfl) rfl rfl ⟨by decide, by decide⟩ dX3_wayBack_87
      refine R_iinc (v := x5 + 1) (lv2 := [some (rf Ω 3 0), some (rf Ω 7 k1), some (.int x2), some (.int x3), some (.int x4), some (.int (x5 + 1)), some (.int r10)]) dX3_wayBack_90 rfl rfl (by decide) rfl rfl ?_
      refine R_goto (tgt := 43) dX3_wayBack_93 (by decide) ?_
      refine R_drop (lv2 := [some (rf Ω 3 0), some (rf Ω 7 k1), some (.int x2), some (.int x3), some (.int x4), some (.int (x5 + 1)), none]) 6 rfl ?_
      exact hC (x5 + 1) σ13 h
    · have h := hit_t h hc
      refine R_drop (lv2 := [some (rf Ω 3 0), none, some (.int x2), some (.int x3), some (.int x4), some (.int x5), some (.int r10)]) 1 rfl ?_
      refine R_drop (lv2 := [some (rf Ω 3 0), none, none, some (.int x3), some (.int x4), some (.int x5), some (.int r10)]) 2 rfl ?_
      refine R_drop (lv2 := [some (rf Ω 3 0), none, none, none, some (.int x4), some (.int x5), some (.int r10)]) 3 rfl ?_
      refine R_drop (lv2 := [some (rf Ω 3 0), none, none, none, some (.int x4), none, some (.int r10)]) 5 rfl ?_
      refine R_drop (lv2 := [some (rf Ω 3 0), none, none, none, some (.int x4), none, none]) 6 rfl ?_
      exact hE0 () σ11 h
set_option maxRecDepth 100000 in
set_option maxHeartbeats 4000000 in
theorem rlX3_wayBack_L43 {l : Launch} {Ω : rO} (hW : WF Ω) (k1 : Nat) (x2 : Int32) (x3 : Int32) (x4 : Int32) (hL0 : oL Ω 3 0) (hL1 : oL Ω 7 k1) {K : Int32 → rS → Prop} {KE : (Unit ⊕ Unit) → rS → Prop} (hE0 : ∀ (e : Unit) (σ : rS), KE (.inl e) σ → Run l Ω cX3_wayBack RX3 7 (some .int) rmX3_wayBack K 70 [some (rf Ω 3 0), none, none, none, some (.int x4), none, none] [] σ) (hE1 : ∀ (e : Unit) (σ : rS), KE (.inr e) σ → Run l Ω cX3_wayBack RX3 7 (some .int) rmX3_wayBack K 96 [some (rf Ω 3 0), some (rf Ω 7 k1), some (.int x2), some (.int x3), none, none, none] [] σ) : ∀ (n : Nat) (x5 : Int32) (σ : rS), hit (lp (fun (x : Int32) σ => fX3_wayBack_L43 k1 x2 x3 x4 x σ) n x5 σ) KE → Run l Ω cX3_wayBack RX3 7 (some .int) rmX3_wayBack K 43 [some (rf Ω 3 0), some (rf Ω 7 k1), some (.int x2), some (.int x3), some (.int x4), some (.int x5), none] [] σ := by
  intro n
  induction n with
  | zero => intro x5 σ h; exact (h : False).elim
  | succ n ih =>
    intro x5 σ h
    exact rsX3_wayBack_L43 hW k1 x2 x3 x4 x5 hL0 hL1 σ (fun x5 σ h => ih x5 σ h) (fun e σ h => hE0 e σ h) (fun e σ h => hE1 e σ h) (hit_lp h)
set_option maxRecDepth 100000 in
set_option maxHeartbeats 4000000 in
theorem rsX3_wayBack_L13 {l : Launch} {Ω : rO} (hW : WF Ω) (k1 : Nat) (x2 : Int32) (x3 : Int32) (hL0 : oL Ω 3 0) (hL1 : oL Ω 7 k1) (σ : rS) {K : Int32 → rS → Prop} {K0 : (Int32 ⊕ (Int32 ⊕ Unit)) → rS → Prop} (hC : ∀ (x3 : Int32) (σ : rS), K0 (.inl x3) σ → Run l Ω cX3_wayBack RX3 7 (some .int) rmX3_wayBack K 13 [some (rf Ω 3 0), some (rf Ω 7 k1), some (.int x2), some (.int x3), none, none, none] [] σ) (hE0 : ∀ (e : Int32) (σ : rS), K0 (.inr (.inl e)) σ → Run l Ω cX3_wayBack RX3 7 (some .int) rmX3_wayBack K 70 [some (rf Ω 3 0), none, none, none, some (.int e), none, none] [] σ) (hE1 : ∀ (e : Unit) (σ : rS), K0 (.inr (.inr e)) σ → Run l Ω cX3_wayBack RX3 7 (some .int) rmX3_wayBack K 102 [none, none, none, none, none, none, none] [] σ) (h : hit (fX3_wayBack_L13 k1 x2 x3 σ) K0) : Run l Ω cX3_wayBack RX3 7 (some .int) rmX3_wayBack K 13 [some (rf Ω 3 0), some (rf Ω 7 k1), some (.int x2), some (.int x3), none, none, none] [] σ := by
  unfold fX3_wayBack_L13 at h
  refine R_iload_n (i := 3) dX3_wayBack_13 rfl rfl ?_
  refine R_aload_n (i := 0) dX3_wayBack_14 rfl rfl ?_
  refine R_get foX3_39 hL0 (cE_3 Ω 0 _) rfl dX3_wayBack_15 ?_
  refine R_icmp_ge (tgt := 102) dX3_wayBack_18 (by decide) (fun hc => ?_) (fun hc => ?_)
  · have h := hit_f h hc
    refine R_drop (lv2 := [none, some (rf Ω 7 k1), some (.int x2), some (.int x3), none, none, none]) 0 rfl ?_
    refine R_drop (lv2 := [none, none, some (.int x2), some (.int x3), none, none, none]) 1 rfl ?_
    refine R_drop (lv2 := [none, none, none, some (.int x3), none, none, none]) 2 rfl ?_
    refine R_drop (lv2 := [none, none, none, none, none, none, none]) 3 rfl ?_
    exact hE1 () σ h
  · have h := hit_t h hc
    refine R_iload_n (i := 3) dX3_wayBack_21 rfl rfl ?_
    refine R_bipush (v := 80) dX3_wayBack_22 rfl ?_
    refine R_icmp_ge (tgt := 102) dX3_wayBack_24 (by decide) (fun hc => ?_) (fun hc => ?_)
    · have h := hit_f h hc
      refine R_drop (lv2 := [none, some (rf Ω 7 k1), some (.int x2), some (.int x3), none, none, none]) 0 rfl ?_
      refine R_drop (lv2 := [none, none, some (.int x2), some (.int x3), none, none, none]) 1 rfl ?_
      refine R_drop (lv2 := [none, none, none, some (.int x3), none, none, none]) 2 rfl ?_
      refine R_drop (lv2 := [none, none, none, none, none, none, none]) 3 rfl ?_
      exact hE1 () σ h
    · have h := hit_t h hc
      refine R_aload_n (i := 0) dX3_wayBack_27 rfl rfl ?_
      refine R_get foX3_15 hL0 (cE_3 Ω 0 _) rfl dX3_wayBack_28 ?_
      refine R_iload_n (i := 3) dX3_wayBack_31 rfl rfl ?_
      obtain ⟨hb, h⟩ := hit_bnd h
      refine R_iald (WF.kid hW 1 hL0 rfl) (cE_31 Ω 0 _) hb dX3_wayBack_32 ?_
      refine R_topi h (fun y5 h => ?_)
      refine R_istore (lv2 := [some (rf Ω 3 0), some (rf Ω 7 k1), some (.int x2), some (.int x3), some (.int y5), none, none]) dX3_wayBack_33 (by decide) rfl rfl ?_
      refine R_aload_n (i := 1) dX3_wayBack_35 rfl rfl ?_
      refine R_iload (i := 4) dX3_wayBack_36 rfl ?_
      refine R_callVi (ctX7_firstStrong l Ω k1 y5 hL1 _ _ (hit_mono (hit_bd h) (fun r6 σ7 h => ?_))) okX7_firstStrong mw_750 hL1 (cE_7 Ω k1 _) rfl rfl (Nat.le_of_ble_eq_true rfl) rfl rfl ⟨by decide, by decide⟩ dX3_wayBack_38
      refine R_istore (lv2 := [some (rf Ω 3 0), some (rf Ω 7 k1), some (.int x2), some (.int x3), some (.int y5), some (.int r6), none]) dX3_wayBack_41 (by decide) rfl rfl ?_
      refine rlX3_wayBack_L43 hW k1 x2 x3 y5 hL0 hL1 ?_ ?_ fu r6 σ7 (hit_bd h)
      · intro e15 σ14 h
        try dsimp only at h
        exact hE0 y5 σ14 h
      · intro e16 σ14 h
        try dsimp only at h
        refine R_iinc (v := x3 + 1) (lv2 := [some (rf Ω 3 0), some (rf Ω 7 k1), some (.int x2), some (.int (x3 + 1)), none, none, none]) dX3_wayBack_96 rfl rfl (by decide) rfl rfl ?_
        refine R_goto (tgt := 13) dX3_wayBack_99 (by decide) ?_
        exact hC (x3 + 1) σ14 h
set_option maxRecDepth 100000 in
set_option maxHeartbeats 4000000 in
theorem rlX3_wayBack_L13 {l : Launch} {Ω : rO} (hW : WF Ω) (k1 : Nat) (x2 : Int32) (hL0 : oL Ω 3 0) (hL1 : oL Ω 7 k1) {K : Int32 → rS → Prop} {KE : (Int32 ⊕ Unit) → rS → Prop} (hE0 : ∀ (e : Int32) (σ : rS), KE (.inl e) σ → Run l Ω cX3_wayBack RX3 7 (some .int) rmX3_wayBack K 70 [some (rf Ω 3 0), none, none, none, some (.int e), none, none] [] σ) (hE1 : ∀ (e : Unit) (σ : rS), KE (.inr e) σ → Run l Ω cX3_wayBack RX3 7 (some .int) rmX3_wayBack K 102 [none, none, none, none, none, none, none] [] σ) : ∀ (n : Nat) (x3 : Int32) (σ : rS), hit (lp (fun (x : Int32) σ => fX3_wayBack_L13 k1 x2 x σ) n x3 σ) KE → Run l Ω cX3_wayBack RX3 7 (some .int) rmX3_wayBack K 13 [some (rf Ω 3 0), some (rf Ω 7 k1), some (.int x2), some (.int x3), none, none, none] [] σ := by
  intro n
  induction n with
  | zero => intro x3 σ h; exact (h : False).elim
  | succ n ih =>
    intro x3 σ h
    exact rsX3_wayBack_L13 hW k1 x2 x3 hL0 hL1 σ (fun x3 σ h => ih x3 σ h) (fun e σ h => hE0 e σ h) (fun e σ h => hE1 e σ h) (hit_lp h)
set_option maxRecDepth 100000 in
set_option maxHeartbeats 4000000 in
theorem ctX3_wayBack (l : Launch) (Ω : rO) (k1 : Nat) (x2 : Int32) (hL0 : oL Ω 3 0) (hL1 : oL Ω 7 k1) (σ : rS) (K : Int32 → rS → Prop) (h : hit (fX3_wayBack k1 x2 σ) K) : Ct l Ω yX3_wayBack cX3_wayBack 7 (some .int) rmX3_wayBack [rf Ω 3 0, rf Ω 7 k1, .int x2] σ K := by
  refine Ct.of (own := RX3) (lv := [some (rf Ω 3 0), some (rf Ω 7 k1), some (.int x2), none, none, none, none]) (by decide) rfl (Nat.le_of_ble_eq_true rfl) rfl (fun hW => ?_)
  unfold fX3_wayBack at h
  refine R_aload_n (i := 0) dX3_wayBack_0 rfl rfl ?_
  refine R_callVv (ctX3_begin l Ω hL0 _ _ (hit_mono (hit_bd h) (fun r1 σ2 h => ?_))) okX3_begin mw_736 hL0 (cE_3 Ω 0 _) rfl rfl (Nat.le_of_ble_eq_true rfl) rfl rfl ⟨by decide, by decide⟩ dX3_wayBack_1
  refine R_aload_n (i := 0) dX3_wayBack_4 rfl rfl ?_
  refine R_iload_n (i := 2) dX3_wayBack_5 rfl rfl ?_
  refine R_iconst (v := (-1)) dX3_wayBack_6 rfl ?_
  refine R_iconst (v := (-1)) dX3_wayBack_7 rfl ?_
  refine R_callVv (ctX3_visit l Ω x2 (-1) (-1) hL0 _ _ (hit_mono (hit_bd h) (fun r3 σ4 h => ?_))) okX3_visit mw_741 hL0 (cE_3 Ω 0 _) rfl rfl (Nat.le_of_ble_eq_true rfl) rfl rfl ⟨by decide, by decide⟩ dX3_wayBack_8
  refine R_iconst (v := 0) dX3_wayBack_11 rfl ?_
  refine R_istore_n (lv2 := [some (rf Ω 3 0), some (rf Ω 7 k1), some (.int x2), some (.int 0), none, none, none]) dX3_wayBack_12 rfl (by decide) rfl rfl ?_
  refine rlX3_wayBack_L13 hW k1 x2 hL0 hL1 ?_ ?_ fu 0 σ4 (hit_bd h)
  · intro e18 σ17 h
    try dsimp only at h
    refine R_aload_n (i := 0) dX3_wayBack_70 rfl rfl ?_
    refine R_get foX3_18 hL0 (cE_3 Ω 0 _) rfl dX3_wayBack_71 ?_
    refine R_iload (i := 4) dX3_wayBack_74 rfl ?_
    obtain ⟨hb, h⟩ := hit_bnd h
    refine R_iald (WF.kid hW 2 hL0 rfl) (cE_32 Ω 0 _) hb dX3_wayBack_76 ?_
    refine R_iconst (v := 1) dX3_wayBack_77 rfl ?_
    refine R_iadd dX3_wayBack_78 ?_
    exact R_iret dX3_wayBack_79 rfl h
  · intro e19 σ17 h
    try dsimp only at h
    refine R_iconst (v := (-1)) dX3_wayBack_102 rfl ?_
    exact R_iret dX3_wayBack_103 rfl h
