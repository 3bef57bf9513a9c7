set_option maxRecDepth 100000 in
set_option maxHeartbeats 4000000 in
theorem ctX7_addObject (l : Launch) (Ω : rO) (k0 : Nat) (x1 : Int32) (x2 : Int32) (x3 : Int32) (hL0 : oL Ω 7 k0) (σ : rS) (K : Int32 → rS → Prop) (h : hit (fX7_addObject k0 x1 x2 x3 σ) K) : Ct l Ω yX7_addObject cX7_addObject 5 (some .int) rmX7_addObject [rf Ω 7 k0, .int x1, .int x2, .int x3] σ K := by
  refine Ct.of (own := RX7) (lv := [some (rf Ω 7 k0), some (.int x1), some (.int x2), some (.int x3), none]) (by decide) rfl (Nat.le_of_ble_eq_true rfl) rfl (fun hW => ?_)
  unfold fX7_addObject at h
  refine R_aload_n (i := 0) dX7_addObject_0 rfl rfl ?_
  refine R_get foX7_75 hL0 (cE_7 Ω k0 _) rfl dX7_addObject_1 ?_
  refine R_bipush (v := 80) dX7_addObject_4 rfl ?_
  refine R_icmp_lt (tgt := 11) dX7_addObject_6 (by decide) (fun hc => ?_) (fun hc => ?_)
  · have h := hit_t h hc
    refine R_aload_n (i := 0) dX7_addObject_11 rfl rfl ?_
    refine R_get foX7_75 hL0 (cE_7 Ω k0 _) rfl dX7_addObject_12 ?_
    refine R_topi h (fun y1 h => ?_)
    refine R_istore (lv2 := [some (rf Ω 7 k0), some (.int x1), some (.int x2), some (.int x3), some (.int y1)]) dX7_addObject_15 (by decide) rfl rfl ?_
    refine R_aload_n (i := 0) dX7_addObject_17 rfl rfl ?_
    refine R_dup dX7_addObject_18 rfl ?_
    refine R_get foX7_75 hL0 (cE_7 Ω k0 _) rfl dX7_addObject_19 ?_
    refine R_iconst (v := 1) dX7_addObject_22 rfl ?_
    refine R_iadd dX7_addObject_23 ?_
    refine R_put poX7_75 hL0 (cE_7 Ω k0 _) (cP_7_0 Ω k0 _ _) (Nat.le_of_ble_eq_true rfl) dX7_addObject_24 ?_
    refine R_st h (fun σ2 h => ?_)
    refine R_aload_n (i := 0) dX7_addObject_27 rfl rfl ?_
    refine R_get foX7_42 hL0 (cE_7 Ω k0 _) rfl dX7_addObject_28 ?_
    refine R_iconst (v := 0) dX7_addObject_31 rfl ?_
    refine R_dup2 dX7_addObject_32 rfl rfl ?_
    refine R_iald (WF.kid hW 10 hL0 rfl) (cE_55 Ω k0 _) (vin 0 8 rfl) dX7_addObject_33 ?_
    refine R_iconst (v := 1) dX7_addObject_34 rfl ?_
    refine R_iadd dX7_addObject_35 ?_
    refine R_iast (WF.kid hW 10 hL0 rfl) (cE_55 Ω k0) (vin 0 8 rfl) dX7_addObject_36 ?_
    refine R_st h (fun σ3 h => ?_)
    refine R_aload_n (i := 0) dX7_addObject_37 rfl rfl ?_
    refine R_get foX7_9 hL0 (cE_7 Ω k0 _) rfl dX7_addObject_38 ?_
    refine R_iload (i := 4) dX7_addObject_41 rfl ?_
    refine R_aload_n (i := 0) dX7_addObject_43 rfl rfl ?_
    refine R_get foX7_42 hL0 (cE_7 Ω k0 _) rfl dX7_addObject_44 ?_
    refine R_iconst (v := 0) dX7_addObject_47 rfl ?_
    refine R_iald (WF.kid hW 10 hL0 rfl) (cE_55 Ω k0 _) (vin 0 8 rfl) dX7_addObject_48 ?_
    obtain ⟨hb, h⟩ := hit_bnd h
    refine R_iast (WF.kid hW 0 hL0 rfl) (cE_45 Ω k0) hb dX7_addObject_49 ?_
    refine R_st h (fun σ4 h => ?_)
    refine R_aload_n (i := 0) dX7_addObject_50 rfl rfl ?_
    refine R_get foX7_15 hL0 (cE_7 Ω k0 _) rfl dX7_addObject_51 ?_
    refine R_iload (i := 4) dX7_addObject_54 rfl ?_
    refine R_iload_n (i := 1) dX7_addObject_56 rfl rfl ?_
    obtain ⟨hb, h⟩ := hit_bnd h
    refine R_iast (WF.kid hW 1 hL0 rfl) (cE_46 Ω k0) hb dX7_addObject_57 ?_
    refine R_st h (fun σ5 h => ?_)
    refine R_aload_n (i := 0) dX7_addObject_58 rfl rfl ?_
    refine R_get foX7_18 hL0 (cE_7 Ω k0 _) rfl dX7_addObject_59 ?_
    refine R_iload (i := 4) dX7_addObject_62 rfl ?_
    refine R_iload_n (i := 2) dX7_addObject_64 rfl rfl ?_
    obtain ⟨hb, h⟩ := hit_bnd h
    refine R_iast (WF.kid hW 2 hL0 rfl) (cE_47 Ω k0) hb dX7_addObject_65 ?_
    refine R_st h (fun σ6 h => ?_)
    refine R_aload_n (i := 0) dX7_addObject_66 rfl rfl ?_
    refine R_get foX7_21 hL0 (cE_7 Ω k0 _) rfl dX7_addObject_67 ?_
    refine R_iload (i := 4) dX7_addObject_70 rfl ?_
    refine R_iload_n (i := 3) dX7_addObject_72 rfl rfl ?_
    obtain ⟨hb, h⟩ := hit_bnd h
    refine R_iast (WF.kid hW 3 hL0 rfl) (cE_48 Ω k0) hb dX7_addObject_73 ?_
    refine R_st h (fun σ7 h => ?_)
    refine R_aload_n (i := 0) dX7_addObject_74 rfl rfl ?_
    refine R_get foX7_24 hL0 (cE_7 Ω k0 _) rfl dX7_addObject_75 ?_
    refine R_iload (i := 4) dX7_addObject_78 rfl ?_
    refine R_iconst (v := 0) dX7_addObject_80 rfl ?_
    obtain ⟨hb, h⟩ := hit_bnd h
    refine R_iast (WF.kid hW 4 hL0 rfl) (cE_49 Ω k0) hb dX7_addObject_81 ?_
    refine R_st h (fun σ8 h => ?_)
    refine R_aload_n (i := 0) dX7_addObject_82 rfl rfl ?_
    refine R_get foX7_27 hL0 (cE_7 Ω k0 _) rfl dX7_addObject_83 ?_
    refine R_iload (i := 4) dX7_addObject_86 rfl ?_
    refine R_iconst (v := 0) dX7_addObject_88 rfl ?_
    obtain ⟨hb, h⟩ := hit_bnd h
    refine R_iast (WF.kid hW 5 hL0 rfl) (cE_50 Ω k0) hb dX7_addObject_89 ?_
    refine R_st h (fun σ9 h => ?_)
    refine R_aload_n (i := 0) dX7_addObject_90 rfl rfl ?_
    refine R_get foX7_30 hL0 (cE_7 Ω k0 _) rfl dX7_addObject_91 ?_
    refine R_iload (i := 4) dX7_addObject_94 rfl ?_
    refine R_aload_n (i := 0) dX7_addObject_96 rfl rfl ?_
    refine R_get foX7_39 hL0 (cE_7 Ω k0 _) rfl dX7_addObject_97 ?_
    refine R_iconst (v := 0) dX7_addObject_100 rfl ?_
    refine R_iald (WF.kid hW 9 hL0 rfl) (cE_54 Ω k0 _) (vin 0 3 rfl) dX7_addObject_101 ?_
    obtain ⟨hb, h⟩ := hit_bnd h
    refine R_iast (WF.kid hW 6 hL0 rfl) (cE_51 Ω k0) hb dX7_addObject_102 ?_
    refine R_st h (fun σ10 h => ?_)
    refine R_aload_n (i := 0) dX7_addObject_103 rfl rfl ?_
    refine R_get foX7_39 hL0 (cE_7 Ω k0 _) rfl dX7_addObject_104 ?_
    refine R_iconst (v := 0) dX7_addObject_107 rfl ?_
    refine R_dup2 dX7_addObject_108 rfl rfl ?_
    refine R_iald (WF.kid hW 9 hL0 rfl) (cE_54 Ω k0 _) (vin 0 3 rfl) dX7_addObject_109 ?_
    refine R_aload_n (i := 0) dX7_addObject_110 rfl rfl ?_
    refine R_iload (i := 4) dX7_addObject_111 rfl ?_
    refine R_callVi (ctX7_cells l Ω k0 y1 hL0 _ _ (hit_mono (hit_bd h) (fun r11 σ12 h => ?_))) okX7_cells mw_583 hL0 (cE_7 Ω k0 _) rfl rfl (Nat.le_of_ble_eq_true rfl) rfl rfl ⟨by decide, by decide⟩ ⟨Nat.zero_le _, Nat.zero_le _⟩ dX7_addObject_113
    refine R_iadd dX7_addObject_116 ?_
    refine R_iast (WF.kid hW 9 hL0 rfl) (cE_54 Ω k0) (vin 0 3 rfl) dX7_addObject_117 ?_
    refine R_st h (fun σ13 h => ?_)
    refine R_aload_n (i := 0) dX7_addObject_118 rfl rfl ?_
    refine R_get foX7_33 hL0 (cE_7 Ω k0 _) rfl dX7_addObject_119 ?_
    refine R_iload (i := 4) dX7_addObject_122 rfl ?_
    refine R_iconst (v := 4) dX7_addObject_124 rfl ?_
    refine R_imul dX7_addObject_125 ?_
    refine R_iload (i := 4) dX7_addObject_126 rfl ?_
    refine R_iconst (v := 1) dX7_addObject_128 rfl ?_
    refine R_iadd dX7_addObject_129 ?_
    refine R_iconst (v := 4) dX7_addObject_130 rfl ?_
    refine R_imul dX7_addObject_131 ?_
    refine R_iconst (v := (-1)) dX7_addObject_132 rfl ?_
    refine R_callSv (ctJ7_fill_fda19 l Ω 52 k0 320 (y1 * 4) ((y1 + 1) * 4) (-1) (WF.kid hW 7 hL0 rfl) (cE_52 Ω k0) _ _ (hit_mono (hit_bd h) (fun r14 σ15 h => ?_))) okJ7_fill_fda19 mw_780 rfl rfl (Nat.le_of_ble_eq_true rfl) rfl rfl ⟨by decide, by decide⟩ ⟨Nat.zero_le _, Nat.zero_le _⟩ dX7_addObject_133
    refine R_iload (i := 4) dX7_addObject_136 rfl ?_
    exact R_iret dX7_addObject_138 rfl h
  · have h := hit_f h hc
    refine R_iconst (v := (-1)) dX7_addObject_9 rfl ?_
    exact R_iret dX7_addObject_10 rfl h
set_option maxRecDepth 100000 in
set_option maxHeartbeats 4000000 in
theorem ctX7_numberOf (l : Launch) (Ω : rO) (k0 : Nat) (x1 : Int32) (hL0 : oL Ω 7 k0) (σ : rS) (K : Int32 → rS → Prop) (h : hit (fX7_numberOf k0 x1 σ) K) : Ct l Ω yX7_numberOf cX7_numberOf 2 (some .int) rmX7_numberOf [rf Ω 7 k0, .int x1] σ K := by
  refine Ct.of (own := RX7) (lv := [some (rf Ω 7 k0), some (.int x1)]) (by decide) rfl (Nat.le_of_ble_eq_true rfl) rfl (fun hW => ?_)
  unfold fX7_numberOf at h
  refine R_aload_n (i := 0) dX7_numberOf_0 rfl rfl ?_
  refine R_iload_n (i := 1) dX7_numberOf_1 rfl rfl ?_
  refine R_callVi (ctX7_isSlot l Ω k0 x1 hL0 _ _ (hit_mono (hit_bd h) (fun r1 σ2 h => ?_))) okX7_isSlot mw_555 hL0 (cE_7 Ω k0 _) rfl rfl (Nat.le_of_ble_eq_true rfl) rfl rfl ⟨by decide, by decide⟩ ⟨Nat.zero_le _, Nat.zero_le _⟩ dX7_numberOf_2
  refine R_if_eq (tgt := 17) dX7_numberOf_5 (by decide) (fun hc => ?_) (fun hc => ?_)
  · have h := hit_t h hc
    refine R_iconst (v := 0) dX7_numberOf_17 rfl ?_
    exact R_iret dX7_numberOf_18 rfl h
  · have h := hit_f h hc
    refine R_aload_n (i := 0) dX7_numberOf_8 rfl rfl ?_
    refine R_get foX7_9 hL0 (cE_7 Ω k0 _) rfl dX7_numberOf_9 ?_
    refine R_iload_n (i := 1) dX7_numberOf_12 rfl rfl ?_
    obtain ⟨hb, h⟩ := hit_bnd h
    refine R_iald (WF.kid hW 0 hL0 rfl) (cE_45 Ω k0 _) hb dX7_numberOf_13 ?_
    refine R_goto (tgt := 18) dX7_numberOf_14 (by decide) ?_
    exact R_iret dX7_numberOf_18 rfl h
set_option maxRecDepth 100000 in
set_option maxHeartbeats 4000000 in
theorem ctX7_cellsInUse (l : Launch) (Ω : rO) (k0 : Nat) (hL0 : oL Ω 7 k0) (σ : rS) (K : Int32 → rS → Prop) (h : hit (fX7_cellsInUse k0 σ) K) : Ct l Ω yX7_cellsInUse cX7_cellsInUse 1 (some .int) rmX7_cellsInUse [rf Ω 7 k0] σ K := by
  refine Ct.of (own := RX7) (lv := [some (rf Ω 7 k0)]) (by decide) rfl (Nat.le_of_ble_eq_true rfl) rfl (fun hW => ?_)
  unfold fX7_cellsInUse at h
  refine R_aload_n (i := 0) dX7_cellsInUse_0 rfl rfl ?_
  refine R_get foX7_39 hL0 (cE_7 Ω k0 _) rfl dX7_cellsInUse_1 ?_
  refine R_iconst (v := 0) dX7_cellsInUse_4 rfl ?_
  refine R_iald (WF.kid hW 9 hL0 rfl) (cE_54 Ω k0 _) (vin 0 3 rfl) dX7_cellsInUse_5 ?_
  refine R_aload_n (i := 0) dX7_cellsInUse_6 rfl rfl ?_
  refine R_get foX7_39 hL0 (cE_7 Ω k0 _) rfl dX7_cellsInUse_7 ?_
  refine R_iconst (v := 1) dX7_cellsInUse_10 rfl ?_
  refine R_iald (WF.kid hW 9 hL0 rfl) (cE_54 Ω k0 _) (vin 1 3 rfl) dX7_cellsInUse_11 ?_
  refine R_iadd dX7_cellsInUse_12 ?_
  refine R_aload_n (i := 0) dX7_cellsInUse_13 rfl rfl ?_
  refine R_get foX7_39 hL0 (cE_7 Ω k0 _) rfl dX7_cellsInUse_14 ?_
  refine R_iconst (v := 2) dX7_cellsInUse_17 rfl ?_
  refine R_iald (WF.kid hW 9 hL0 rfl) (cE_54 Ω k0 _) (vin 2 3 rfl) dX7_cellsInUse_18 ?_
  refine R_iadd dX7_cellsInUse_19 ?_
  exact R_iret dX7_cellsInUse_20 rfl h
set_option maxRecDepth 100000 in
set_option maxHeartbeats 4000000 in
theorem ctX7_note (l : Launch) (Ω : rO) (k0 : Nat) (x1 : Int32) (x2 : Int32) (hL0 : oL Ω 7 k0) (σ : rS) (K : Int32 → rS → Prop) (h : hit (fX7_note k0 x1 x2 σ) K) : Ct l Ω yX7_note cX7_note 3 none rmX7_note [rf Ω 7 k0, .int x1, .int x2] σ K := by
  refine Ct.of (own := RX7) (lv := [some (rf Ω 7 k0), some (.int x1), some (.int x2)]) (by decide) rfl (Nat.le_of_ble_eq_true rfl) rfl (fun hW => ?_)
  unfold fX7_note at h
  refine R_aload_n (i := 0) dX7_note_0 rfl rfl ?_
  refine R_get foX7_60 hL0 (cE_7 Ω k0 _) rfl dX7_note_1 ?_
  refine R_iload_n (i := 1) dX7_note_4 rfl rfl ?_
  refine R_callVv (ctX4_add l Ω (6 * k0 + 3) x1 (WF.kid hW 14 hL0 rfl) _ _ (hit_mono (hit_bd h) (fun r1 σ2 h => ?_))) okX4_add mw_791 (WF.kid hW 14 hL0 rfl) (cE_4 Ω (6 * k0 + 3) _) rfl rfl (Nat.le_of_ble_eq_true rfl) rfl rfl ⟨by decide, by decide⟩ ⟨Nat.zero_le _, Nat.zero_le _⟩ dX7_note_5
  refine R_aload_n (i := 0) dX7_note_8 rfl rfl ?_
  refine R_get foX7_63 hL0 (cE_7 Ω k0 _) rfl dX7_note_9 ?_
  refine R_iload_n (i := 2) dX7_note_12 rfl rfl ?_
  refine R_callVv (ctX4_add l Ω (6 * k0 + 4) x2 (WF.kid hW 15 hL0 rfl) _ _ (hit_mono (hit_bd h) (fun r3 σ4 h => ?_))) okX4_add mw_791 (WF.kid hW 15 hL0 rfl) (cE_4 Ω (6 * k0 + 4) _) rfl rfl (Nat.le_of_ble_eq_true rfl) rfl rfl ⟨by decide, by decide⟩ ⟨Nat.zero_le _, Nat.zero_le _⟩ dX7_note_13
  refine R_aload_n (i := 0) dX7_note_16 rfl rfl ?_
  refine R_get foX7_66 hL0 (cE_7 Ω k0 _) rfl dX7_note_17 ?_
  refine R_aload_n (i := 0) dX7_note_20 rfl rfl ?_
  refine R_callVi (ctX7_cellsInUse l Ω k0 hL0 _ _ (hit_mono (hit_bd h) (fun r5 σ6 h => ?_))) okX7_cellsInUse mw_792 hL0 (cE_7 Ω k0 _) rfl rfl (Nat.le_of_ble_eq_true rfl) rfl rfl ⟨by decide, by decide⟩ ⟨Nat.zero_le _, Nat.zero_le _⟩ dX7_note_21
  refine R_callVv (ctX4_add l Ω (6 * k0 + 5) r5 (WF.kid hW 16 hL0 rfl) _ _ (hit_mono (hit_bd h) (fun r7 σ8 h => ?_))) okX4_add mw_791 (WF.kid hW 16 hL0 rfl) (cE_4 Ω (6 * k0 + 5) _) rfl rfl (Nat.le_of_ble_eq_true rfl) rfl rfl ⟨by decide, by decide⟩ ⟨Nat.zero_le _, Nat.zero_le _⟩ dX7_note_24
  exact R_vret dX7_note_27 rfl h
set_option maxRecDepth 100000 in
set_option maxHeartbeats 4000000 in
theorem rnX0_makeObject_j136 {l : Launch} {Ω : rO} (hW : WF Ω) (k1 : Nat) (x2 : Int32) (x3 : Int32) (x4 : Int32) (x5 : Int32) (hL1 : oL Ω 7 k1) (σ : rS) {K : Int32 → rS → Prop}  (h : hit (fX0_makeObject_j136 k1 x2 x3 x4 x5 σ) K) : Run l Ω cX0_makeObject RX0 8 (some .int) rmX0_makeObject K 136 [none, some (rf Ω 7 k1), some (.int x2), some (.int x3), some (.int x4), some (.int x5), none, none] [] σ := by
  unfold fX0_makeObject_j136 at h
  refine R_aload_n (i := 1) dX0_makeObject_136 rfl rfl ?_
  refine R_iload_n (i := 3) dX0_makeObject_137 rfl rfl ?_
  refine R_iload (i := 4) dX0_makeObject_138 rfl ?_
  refine R_iload (i := 5) dX0_makeObject_140 rfl ?_
  refine R_callVi (ctX7_addObject l Ω k1 x3 x4 x5 hL1 _ _ (hit_mono (hit_bd h) (fun r3 σ4 h => ?_))) okX7_addObject mw_776 hL1 (cE_7 Ω k1 _) rfl rfl (Nat.le_of_ble_eq_true rfl) rfl rfl ⟨by decide, by decide⟩ ⟨Nat.zero_le _, Nat.zero_le _⟩ dX0_makeObject_142
  refine R_istore (lv2 := [none, some (rf Ω 7 k1), some (.int x2), some (.int x3), some (.int x4), some (.int x5), none, some (.int r3)]) dX0_makeObject_145 (by decide) rfl rfl ?_
  refine R_aload_n (i := 1) dX0_makeObject_147 rfl rfl ?_
  refine R_get foX0_78 hL1 (cE_7 Ω k1 _) rfl dX0_makeObject_148 ?_
  refine R_iload_n (i := 2) dX0_makeObject_151 rfl rfl ?_
  refine R_iload (i := 7) dX0_makeObject_152 rfl ?_
  obtain ⟨hb, h⟩ := hit_bnd h
  refine R_iast (WF.kid hW 8 hL1 rfl) (cE_53 Ω k1) hb dX0_makeObject_154 ?_
  refine R_st h (fun σ5 h => ?_)
  refine R_aload_n (i := 1) dX0_makeObject_155 rfl rfl ?_
  refine R_iconst (v := 0) dX0_makeObject_156 rfl ?_
  refine R_aload_n (i := 1) dX0_makeObject_157 rfl rfl ?_
  refine R_iload (i := 7) dX0_makeObject_158 rfl ?_
  refine R_callVi (ctX7_numberOf l Ω k1 r3 hL1 _ _ (hit_mono (hit_bd h) (fun r6 σ7 h => ?_))) okX7_numberOf mw_786 hL1 (cE_7 Ω k1 _) rfl rfl (Nat.le_of_ble_eq_true rfl) rfl rfl ⟨by decide, by decide⟩ ⟨Nat.zero_le _, Nat.zero_le _⟩ dX0_makeObject_160
  refine R_callVv (ctX7_note l Ω k1 0 r6 hL1 _ _ (hit_mono (hit_bd h) (fun r8 σ9 h => ?_))) okX7_note mw_787 hL1 (cE_7 Ω k1 _) rfl rfl (Nat.le_of_ble_eq_true rfl) rfl rfl ⟨by decide, by decide⟩ ⟨Nat.zero_le _, Nat.zero_le _⟩ dX0_makeObject_163
  refine R_aload_n (i := 1) dX0_makeObject_166 rfl rfl ?_
  refine R_iload (i := 7) dX0_makeObject_167 rfl ?_
  refine R_callVi (ctX7_numberOf l Ω k1 r3 hL1 _ _ (hit_mono (hit_bd h) (fun r10 σ11 h => ?_))) okX7_numberOf mw_786 hL1 (cE_7 Ω k1 _) rfl rfl (Nat.le_of_ble_eq_true rfl) rfl rfl ⟨by decide, by decide⟩ ⟨Nat.zero_le _, Nat.zero_le _⟩ dX0_makeObject_169
  exact R_iret dX0_makeObject_172 rfl h
set_option maxRecDepth 100000 in
set_option maxHeartbeats 4000000 in
theorem rnX0_makeObject_j80 {l : Launch} {Ω : rO} (hW : WF Ω) (k1 : Nat) (x2 : Int32) (x3 : Int32) (x4 : Int32) (x5 : Int32) (z0 : Int32) (hL0 : oL Ω 0 0) (hL1 : oL Ω 7 k1) (σ : rS) {K : Int32 → rS → Prop}  (h : hit (fX0_makeObject_j80 k1 x2 x3 x4 x5 z0 σ) K) : Run l Ω cX0_makeObject RX0 8 (some .int) rmX0_makeObject K 80 [some (rf Ω 0 0), some (rf Ω 7 k1), some (.int x2), some (.int x3), some (.int x4), some (.int x5), none, none] [.int z0] σ := by
  unfold fX0_makeObject_j80 at h
  refine R_istore (lv2 := [some (rf Ω 0 0), some (rf Ω 7 k1), some (.int x2), some (.int x3), some (.int x4), some (.int x5), some (.int z0), none]) dX0_makeObject_80 (by decide) rfl rfl ?_
  refine R_iload (i := 6) dX0_makeObject_82 rfl ?_
  refine R_if_ne (tgt := 136) dX0_makeObject_84 (by decide) (fun hc => ?_) (fun hc => ?_)
  · have h := hit_f h hc
    refine R_drop (lv2 := [none, some (rf Ω 7 k1), some (.int x2), some (.int x3), some (.int x4), some (.int x5), some (.int z0), none]) 0 rfl ?_
    refine R_drop (lv2 := [none, some (rf Ω 7 k1), some (.int x2), some (.int x3), some (.int x4), some (.int x5), none, none]) 6 rfl ?_
    exact rnX0_makeObject_j136 hW k1 x2 x3 x4 x5 hL1 σ  h
  · have h := hit_t h hc
    refine R_aload_n (i := 0) dX0_makeObject_87 rfl rfl ?_
    refine R_get foX0_22 hL0 (cE_0 Ω 0 _) rfl dX0_makeObject_88 ?_
    refine R_aload_n (i := 1) dX0_makeObject_91 rfl rfl ?_
    refine R_callVi (ctX1_collectYoung l Ω k1 (WF.kid hW 1 hL0 rfl) hL1 _ _ (hit_mono (hit_bd h) (fun r12 σ13 h => ?_))) okX1_collectYoung mw_620 (WF.kid hW 1 hL0 rfl) (cE_1 Ω 0 _) rfl rfl (Nat.le_of_ble_eq_true rfl) rfl rfl ⟨by decide, by decide⟩ ⟨Nat.zero_le _, Nat.zero_le _⟩ dX0_makeObject_92
    refine R_if_ne (tgt := 136) dX0_makeObject_95 (by decide) (fun hc => ?_) (fun hc => ?_)
    · have h := hit_f h hc
      refine R_drop (lv2 := [none, some (rf Ω 7 k1), some (.int x2), some (.int x3), some (.int x4), some (.int x5), some (.int z0), none]) 0 rfl ?_
      refine R_drop (lv2 := [none, some (rf Ω 7 k1), some (.int x2), some (.int x3), some (.int x4), some (.int x5), none, none]) 6 rfl ?_
      exact rnX0_makeObject_j136 hW k1 x2 x3 x4 x5 hL1 σ13  h
    · have h := hit_t h hc
      refine R_aload_n (i := 0) dX0_makeObject_98 rfl rfl ?_
      refine R_get foX0_12 hL0 (cE_0 Ω 0 _) rfl dX0_makeObject_99 ?_
      refine R_aload_n (i := 1) dX0_makeObject_102 rfl rfl ?_
      refine R_callVv (ctX7_copyFrom l Ω 3 k1 (WF.kid hW 2 hL0 rfl) hL1 _ _ (hit_mono (hit_bd h) (fun r14 σ15 h => ?_))) okX7_copyFrom mw_727 (WF.kid hW 2 hL0 rfl) (cE_7 Ω 3 _) rfl rfl (Nat.le_of_ble_eq_true rfl) rfl rfl ⟨by decide, by decide⟩ ⟨Nat.zero_le _, Nat.zero_le _⟩ dX0_makeObject_103
      refine R_aload_n (i := 0) dX0_makeObject_106 rfl rfl ?_
      refine R_get foX0_22 hL0 (cE_0 Ω 0 _) rfl dX0_makeObject_107 ?_
      refine R_aload_n (i := 1) dX0_makeObject_110 rfl rfl ?_
      refine R_callVv (ctX1_collectAll l Ω k1 (WF.kid hW 1 hL0 rfl) hL1 _ _ (hit_mono (hit_bd h) (fun r16 σ17 h => ?_))) okX1_collectAll mw_728 (WF.kid hW 1 hL0 rfl) (cE_1 Ω 0 _) rfl rfl (Nat.le_of_ble_eq_true rfl) rfl rfl ⟨by decide, by decide⟩ ⟨Nat.zero_le _, Nat.zero_le _⟩ dX0_makeObject_111
      refine R_aload_n (i := 0) dX0_makeObject_114 rfl rfl ?_
      refine R_get foX0_22 hL0 (cE_0 Ω 0 _) rfl dX0_makeObject_115 ?_
      refine R_aload_n (i := 1) dX0_makeObject_118 rfl rfl ?_
      refine R_callVi (ctX1_collectYoung l Ω k1 (WF.kid hW 1 hL0 rfl) hL1 _ _ (hit_mono (hit_bd h) (fun r18 σ19 h => ?_))) okX1_collectYoung mw_620 (WF.kid hW 1 hL0 rfl) (cE_1 Ω 0 _) rfl rfl (Nat.le_of_ble_eq_true rfl) rfl rfl ⟨by decide, by decide⟩ ⟨Nat.zero_le _, Nat.zero_le _⟩ dX0_makeObject_119
      refine R_if_ne (tgt := 136) dX0_makeObject_122 (by decide) (fun hc => ?_) (fun hc => ?_)
      · have h := hit_f h hc
        refine R_drop (lv2 := [none, some (rf Ω 7 k1), some (.int x2), some (.int x3), some (.int x4), some (.int x5), some (.int z0), none]) 0 rfl ?_
        refine R_drop (lv2 := [none, some (rf Ω 7 k1), some (.int x2), some (.int x3), some (.int x4), some (.int x5), none, none]) 6 rfl ?_
        exact rnX0_makeObject_j136 hW k1 x2 x3 x4 x5 hL1 σ19  h
      · have h := hit_t h hc
        refine R_aload_n (i := 1) dX0_makeObject_125 rfl rfl ?_
        refine R_aload_n (i := 0) dX0_makeObject_126 rfl rfl ?_
        refine R_get foX0_12 hL0 (cE_0 Ω 0 _) rfl dX0_makeObject_127 ?_
        refine R_callVv (ctX7_copyFrom l Ω k1 3 hL1 (WF.kid hW 2 hL0 rfl) _ _ (hit_mono (hit_bd h) (fun r20 σ21 h => ?_))) okX7_copyFrom mw_727 hL1 (cE_7 Ω k1 _) rfl rfl (Nat.le_of_ble_eq_true rfl) rfl rfl ⟨by decide, by decide⟩ ⟨Nat.zero_le _, Nat.zero_le _⟩ dX0_makeObject_130
        refine R_bipush (v := (-4)) dX0_makeObject_133 rfl ?_
        exact R_iret dX0_makeObject_135 rfl h
set_option maxRecDepth 100000 in
set_option maxHeartbeats 4000000 in
theorem rnX0_makeObject_j55 {l : Launch} {Ω : rO} (hW : WF Ω) (k1 : Nat) (x2 : Int32) (x3 : Int32) (x4 : Int32) (x5 : Int32) (hL0 : oL Ω 0 0) (hL1 : oL Ω 7 k1) (σ : rS) {K : Int32 → rS → Prop}  (h : hit (fX0_makeObject_j55 k1 x2 x3 x4 x5 σ) K) : Run l Ω cX0_makeObject RX0 8 (some .int) rmX0_makeObject K 55 [some (rf Ω 0 0), some (rf Ω 7 k1), some (.int x2), some (.int x3), some (.int x4), some (.int x5), none, none] [] σ := by
  unfold fX0_makeObject_j55 at h
  refine R_aload_n (i := 1) dX0_makeObject_55 rfl rfl ?_
  refine R_get foX0_58 hL1 (cE_7 Ω k1 _) rfl dX0_makeObject_56 ?_
  refine R_iconst (v := 0) dX0_makeObject_59 rfl ?_
  refine R_iald (WF.kid hW 9 hL1 rfl) (cE_54 Ω k1 _) (vin 0 3 rfl) dX0_makeObject_60 ?_
  refine R_iconst (v := 3) dX0_makeObject_61 rfl ?_
  refine R_iadd dX0_makeObject_62 ?_
  refine R_iload (i := 4) dX0_makeObject_63 rfl ?_
  refine R_iadd dX0_makeObject_65 ?_
  refine R_aload_n (i := 0) dX0_makeObject_66 rfl rfl ?_
  refine R_get foX0_18 hL0 (cE_0 Ω 0 _) rfl dX0_makeObject_67 ?_
  refine R_iconst (v := 0) dX0_makeObject_70 rfl ?_
  refine R_iald (WF.kid hW 0 hL0 rfl) (cE_20 Ω 0 _) (vin 0 4 rfl) dX0_makeObject_71 ?_
  refine R_icmp_gt (tgt := 79) dX0_makeObject_72 (by decide) (fun hc => ?_) (fun hc => ?_)
  · have h := hit_t h hc
    refine R_iconst (v := 0) dX0_makeObject_79 rfl ?_
    exact rnX0_makeObject_j80 hW k1 x2 x3 x4 x5 0 hL0 hL1 σ  h
  · have h := hit_f h hc
    refine R_iconst (v := 1) dX0_makeObject_75 rfl ?_
    refine R_goto (tgt := 80) dX0_makeObject_76 (by decide) ?_
    exact rnX0_makeObject_j80 hW k1 x2 x3 x4 x5 1 hL0 hL1 σ  h
set_option maxRecDepth 100000 in
set_option maxHeartbeats 4000000 in
theorem ctX0_makeObject (l : Launch) (Ω : rO) (k1 : Nat) (x2 : Int32) (x3 : Int32) (x4 : Int32) (x5 : Int32) (hL0 : oL Ω 0 0) (hL1 : oL Ω 7 k1) (σ : rS) (K : Int32 → rS → Prop) (h : hit (fX0_makeObject k1 x2 x3 x4 x5 σ) K) : Ct l Ω yX0_makeObject cX0_makeObject 8 (some .int) rmX0_makeObject [rf Ω 0 0, rf Ω 7 k1, .int x2, .int x3, .int x4, .int x5] σ K := by
  refine Ct.of (own := RX0) (lv := [some (rf Ω 0 0), some (rf Ω 7 k1), some (.int x2), some (.int x3), some (.int x4), some (.int x5), none, none]) (by decide) rfl (Nat.le_of_ble_eq_true rfl) rfl (fun hW => ?_)
  unfold fX0_makeObject at h
  refine R_iload_n (i := 2) dX0_makeObject_0 rfl rfl ?_
  refine R_callSNi (ctX9_isRoot l Ω x2 _ _ (hit_mono (hit_bd h) (fun r1 σ2 h => ?_))) okX9_isRoot nw_619 rfl rfl (Nat.le_of_ble_eq_true rfl) rfl rfl ⟨by decide, by decide⟩ ⟨Nat.zero_le _, Nat.zero_le _⟩ dX0_makeObject_1
  refine R_if_ne (tgt := 9) dX0_makeObject_4 (by decide) (fun hc => ?_) (fun hc => ?_)
  · have h := hit_f h hc
    refine R_iload_n (i := 3) dX0_makeObject_9 rfl rfl ?_
    refine R_if_lt (tgt := 52) dX0_makeObject_10 (by decide) (fun hc => ?_) (fun hc => ?_)
    · have h := hit_t h hc
      refine R_bipush (v := (-2)) dX0_makeObject_52 rfl ?_
      exact R_iret dX0_makeObject_54 rfl h
    · have h := hit_f h hc
      refine R_iload_n (i := 3) dX0_makeObject_13 rfl rfl ?_
      refine R_iconst (v := 2) dX0_makeObject_14 rfl ?_
      refine R_icmp_gt (tgt := 52) dX0_makeObject_15 (by decide) (fun hc => ?_) (fun hc => ?_)
      · have h := hit_t h hc
        refine R_bipush (v := (-2)) dX0_makeObject_52 rfl ?_
        exact R_iret dX0_makeObject_54 rfl h
      · have h := hit_f h hc
        refine R_iload (i := 4) dX0_makeObject_18 rfl ?_
        refine R_if_lt (tgt := 52) dX0_makeObject_20 (by decide) (fun hc => ?_) (fun hc => ?_)
        · have h := hit_t h hc
          refine R_bipush (v := (-2)) dX0_makeObject_52 rfl ?_
          exact R_iret dX0_makeObject_54 rfl h
        · have h := hit_f h hc
          refine R_iload (i := 4) dX0_makeObject_23 rfl ?_
          refine R_iconst (v := 4) dX0_makeObject_25 rfl ?_
          refine R_icmp_gt (tgt := 52) dX0_makeObject_26 (by decide) (fun hc => ?_) (fun hc => ?_)
          · have h := hit_t h hc
            refine R_bipush (v := (-2)) dX0_makeObject_52 rfl ?_
            exact R_iret dX0_makeObject_54 rfl h
          · have h := hit_f h hc
            refine R_iload (i := 5) dX0_makeObject_29 rfl ?_
            refine R_if_lt (tgt := 52) dX0_makeObject_31 (by decide) (fun hc => ?_) (fun hc => ?_)
            · have h := hit_t h hc
              refine R_bipush (v := (-2)) dX0_makeObject_52 rfl ?_
              exact R_iret dX0_makeObject_54 rfl h
            · have h := hit_f h hc
              refine R_iload (i := 5) dX0_makeObject_34 rfl ?_
              refine R_sipush (v := 999) dX0_makeObject_36 rfl ?_
              refine R_icmp_gt (tgt := 52) dX0_makeObject_39 (by decide) (fun hc => ?_) (fun hc => ?_)
              · have h := hit_t h hc
                refine R_bipush (v := (-2)) dX0_makeObject_52 rfl ?_
                exact R_iret dX0_makeObject_54 rfl h
              · have h := hit_f h hc
                refine R_iload_n (i := 3) dX0_makeObject_42 rfl rfl ?_
                refine R_iconst (v := 1) dX0_makeObject_43 rfl ?_
                refine R_icmp_ne (tgt := 55) dX0_makeObject_44 (by decide) (fun hc => ?_) (fun hc => ?_)
                · have h := hit_f h hc
                  exact rnX0_makeObject_j55 hW k1 x2 x3 x4 x5 hL0 hL1 σ2  h
                · have h := hit_t h hc
                  refine R_iload (i := 4) dX0_makeObject_47 rfl ?_
                  refine R_if_ne (tgt := 55) dX0_makeObject_49 (by decide) (fun hc => ?_) (fun hc => ?_)
                  · have h := hit_f h hc
                    exact rnX0_makeObject_j55 hW k1 x2 x3 x4 x5 hL0 hL1 σ2  h
                  · have h := hit_t h hc
                    refine R_bipush (v := (-2)) dX0_makeObject_52 rfl ?_
                    exact R_iret dX0_makeObject_54 rfl h
  · have h := hit_t h hc
    refine R_iconst (v := (-1)) dX0_makeObject_7 rfl ?_
    exact R_iret dX0_makeObject_8 rfl h
set_option maxRecDepth 100000 in
set_option maxHeartbeats 4000000 in
theorem ctX0_isLinkedRoot (l : Launch) (Ω : rO) (k0 : Nat) (x1 : Int32) (hL0 : oL Ω 7 k0) (σ : rS) (K : Int32 → rS → Prop) (h : hit (fX0_isLinkedRoot k0 x1 σ) K) : Ct l Ω yX0_isLinkedRoot cX0_isLinkedRoot 2 (some .boolean) rmX0_isLinkedRoot [rf Ω 7 k0, .int x1] σ K := by
  refine Ct.of (own := RX0) (lv := [some (rf Ω 7 k0), some (.int x1)]) (by decide) rfl (Nat.le_of_ble_eq_true rfl) rfl (fun hW => ?_)
  unfold fX0_isLinkedRoot at h
  refine R_iload_n (i := 1) dX0_isLinkedRoot_0 rfl rfl ?_
  refine R_callSNi (ctX9_isRoot l Ω x1 _ _ (hit_mono (hit_bd h) (fun r1 σ2 h => ?_))) okX9_isRoot nw_619 rfl rfl (Nat.le_of_ble_eq_true rfl) rfl rfl ⟨by decide, by decide⟩ ⟨Nat.zero_le _, Nat.zero_le _⟩ dX0_isLinkedRoot_1
  refine R_if_eq (tgt := 21) dX0_isLinkedRoot_4 (by decide) (fun hc => ?_) (fun hc => ?_)
  · have h := hit_t h hc
    refine R_iconst (v := 0) dX0_isLinkedRoot_21 rfl ?_
    exact R_zret dX0_isLinkedRoot_22 rfl (Or.inl rfl) h
  · have h := hit_f h hc
    refine R_aload_n (i := 0) dX0_isLinkedRoot_7 rfl rfl ?_
    refine R_get foX0_78 hL0 (cE_7 Ω k0 _) rfl dX0_isLinkedRoot_8 ?_
    refine R_iload_n (i := 1) dX0_isLinkedRoot_11 rfl rfl ?_
    obtain ⟨hb, h⟩ := hit_bnd h
    refine R_iald (WF.kid hW 8 hL0 rfl) (cE_53 Ω k0 _) hb dX0_isLinkedRoot_12 ?_
    refine R_iconst (v := (-1)) dX0_isLinkedRoot_13 rfl ?_
    refine R_icmp_eq (tgt := 21) dX0_isLinkedRoot_14 (by decide) (fun hc => ?_) (fun hc => ?_)
    · have h := hit_t h hc
      refine R_iconst (v := 0) dX0_isLinkedRoot_21 rfl ?_
      exact R_zret dX0_isLinkedRoot_22 rfl (Or.inl rfl) h
    · have h := hit_f h hc
      refine R_iconst (v := 1) dX0_isLinkedRoot_17 rfl ?_
      refine R_goto (tgt := 22) dX0_isLinkedRoot_18 (by decide) ?_
      exact R_zret dX0_isLinkedRoot_22 rfl (Or.inr rfl) h
set_option maxRecDepth 100000 in
set_option maxHeartbeats 4000000 in
theorem rsX4_find_L2 {l : Launch} {Ω : rO} (hW : WF Ω) (k0 : Nat) (x1 : Int32) (x2 : Int32) (hL0 : oL Ω 4 k0) (σ : rS) {K : Int32 → rS → Prop} {K0 : (Int32 ⊕ (Int32 ⊕ Unit)) → rS → Prop} (hC : ∀ (x2 : Int32) (σ : rS), K0 (.inl x2) σ → Run l Ω cX4_find RX4 3 (some .int) rmX4_find K 2 [some (rf Ω 4 k0), some (.int x1), some (.int x2)] [] σ) (hE0 : ∀ (e : Int32) (σ : rS), K0 (.inr (.inl e)) σ → Run l Ω cX4_find RX4 3 (some .int) rmX4_find K 20 [none, none, some (.int e)] [] σ) (hE1 : ∀ (e : Unit) (σ : rS), K0 (.inr (.inr e)) σ → Run l Ω cX4_find RX4 3 (some .int) rmX4_find K 28 [none, none, none] [] σ) (h : hit (fX4_find_L2 k0 x1 x2 σ) K0) : Run l Ω cX4_find RX4 3 (some .int) rmX4_find K 2 [some (rf Ω 4 k0), some (.int x1), some (.int x2)] [] σ := by
  unfold fX4_find_L2 at h
  refine R_iload_n (i := 2) dX4_find_2 rfl rfl ?_
  refine R_aload_n (i := 0) dX4_find_3 rfl rfl ?_
  refine R_get foX4_21 hL0 (cE_4 Ω k0 _) rfl dX4_find_4 ?_
  refine R_icmp_ge (tgt := 28) dX4_find_7 (by decide) (fun hc => ?_) (fun hc => ?_)
  · have h := hit_f h hc
    refine R_drop (lv2 := [none, some (.int x1), some (.int x2)]) 0 rfl ?_
    refine R_drop (lv2 := [none, none, some (.int x2)]) 1 rfl ?_
    refine R_drop (lv2 := [none, none, none]) 2 rfl ?_
    exact hE1 () σ h
  · have h := hit_t h hc
    refine R_aload_n (i := 0) dX4_find_10 rfl rfl ?_
    refine R_get foX4_15 hL0 (cE_4 Ω k0 _) rfl dX4_find_11 ?_
    refine R_iload_n (i := 2) dX4_find_14 rfl rfl ?_
    obtain ⟨hb, h⟩ := hit_bnd h
    refine R_iald (WF.kid hW 0 hL0 rfl) (cE_28 Ω k0 _) hb dX4_find_15 ?_
    refine R_iload_n (i := 1) dX4_find_16 rfl rfl ?_
    refine R_icmp_ne (tgt := 22) dX4_find_17 (by decide) (fun hc => ?_) (fun hc => ?_)
    · have h := hit_f h hc
      refine R_iinc (v := x2 + 1) (lv2 := [some (rf Ω 4 k0), some (.int x1), some (.int (x2 + 1))]) dX4_find_22 rfl rfl (by decide) rfl rfl ?_
      refine R_goto (tgt := 2) dX4_find_25 (by decide) ?_
      exact hC (x2 + 1) σ h
    · have h := hit_t h hc
      refine R_drop (lv2 := [none, some (.int x1), some (.int x2)]) 0 rfl ?_
      refine R_drop (lv2 := [none, none, some (.int x2)]) 1 rfl ?_
      exact hE0 x2 σ h
set_option maxRecDepth 100000 in
set_option maxHeartbeats 4000000 in
theorem rlX4_find_L2 {l : Launch} {Ω : rO} (hW : WF Ω) (k0 : Nat) (x1 : Int32) (hL0 : oL Ω 4 k0) {K : Int32 → rS → Prop} {KE : (Int32 ⊕ Unit) → rS → Prop} (hE0 : ∀ (e : Int32) (σ : rS), KE (.inl e) σ → Run l Ω cX4_find RX4 3 (some .int) rmX4_find K 20 [none, none, some (.int e)] [] σ) (hE1 : ∀ (e : Unit) (σ : rS), KE (.inr e) σ → Run l Ω cX4_find RX4 3 (some .int) rmX4_find K 28 [none, none, none] [] σ) : ∀ (n : Nat) (x2 : Int32) (σ : rS), hit (lp (fun (x : Int32) σ => fX4_find_L2 k0 x1 x σ) n x2 σ) KE → Run l Ω cX4_find RX4 3 (some .int) rmX4_find K 2 [some (rf Ω 4 k0), some (.int x1), some (.int x2)] [] σ := by
  intro n
  induction n with
  | zero => intro x2 σ h; exact (h : False).elim
  | succ n ih =>
    intro x2 σ h
    exact rsX4_find_L2 hW k0 x1 x2 hL0 σ (fun x2 σ h => ih x2 σ h) (fun e σ h => hE0 e σ h) (fun e σ h => hE1 e σ h) (hit_lp h)
set_option maxRecDepth 100000 in
set_option maxHeartbeats 4000000 in
theorem ctX4_find (l : Launch) (Ω : rO) (k0 : Nat) (x1 : Int32) (hL0 : oL Ω 4 k0) (σ : rS) (K : Int32 → rS → Prop) (h : hit (fX4_find k0 x1 σ) K) : Ct l Ω yX4_find cX4_find 3 (some .int) rmX4_find [rf Ω 4 k0, .int x1] σ K := by
  refine Ct.of (own := RX4) (lv := [some (rf Ω 4 k0), some (.int x1), none]) (by decide) rfl (Nat.le_of_ble_eq_true rfl) rfl (fun hW => ?_)
  unfold fX4_find at h
  refine R_iconst (v := 0) dX4_find_0 rfl ?_
  refine R_istore_n (lv2 := [some (rf Ω 4 k0), some (.int x1), some (.int 0)]) dX4_find_1 rfl (by decide) rfl rfl ?_
  refine rlX4_find_L2 hW k0 x1 hL0 ?_ ?_ fu 0 σ (hit_bd h)
  · intro e2 σ1 h
    try dsimp only at h
    refine R_iload_n (i := 2) dX4_find_20 rfl rfl ?_
    exact R_iret dX4_find_21 rfl h
  · intro e3 σ1 h
    try dsimp only at h
    refine R_iconst (v := (-1)) dX4_find_28 rfl ?_
    exact R_iret dX4_find_29 rfl h
set_option maxRecDepth 100000 in
set_option maxHeartbeats 4000000 in
theorem ctX4_removeAt (l : Launch) (Ω : rO) (k0 : Nat) (x1 : Int32) (hL0 : oL Ω 4 k0) (σ : rS) (K : Int32 → rS → Prop) (h : hit (fX4_removeAt k0 x1 σ) K) : Ct l Ω yX4_removeAt cX4_removeAt 2 none rmX4_removeAt [rf Ω 4 k0, .int x1] σ K := by
  refine Ct.of (own := RX4) (lv := [some (rf Ω 4 k0), some (.int x1)]) (by decide) rfl (Nat.le_of_ble_eq_true rfl) rfl (fun hW => ?_)
  unfold fX4_removeAt at h
  refine R_iload_n (i := 1) dX4_removeAt_0 rfl rfl ?_
  refine R_if_lt (tgt := 43) dX4_removeAt_1 (by decide) (fun hc => ?_) (fun hc => ?_)
  · have h := hit_t h hc
    exact R_vret dX4_removeAt_43 rfl h
  · have h := hit_f h hc
    refine R_iload_n (i := 1) dX4_removeAt_4 rfl rfl ?_
    refine R_aload_n (i := 0) dX4_removeAt_5 rfl rfl ?_
    refine R_get foX4_21 hL0 (cE_4 Ω k0 _) rfl dX4_removeAt_6 ?_
    refine R_icmp_ge (tgt := 43) dX4_removeAt_9 (by decide) (fun hc => ?_) (fun hc => ?_)
    · have h := hit_f h hc
      exact R_vret dX4_removeAt_43 rfl h
    · have h := hit_t h hc
      refine R_aload_n (i := 0) dX4_removeAt_12 rfl rfl ?_
      refine R_dup dX4_removeAt_13 rfl ?_
      refine R_get foX4_21 hL0 (cE_4 Ω k0 _) rfl dX4_removeAt_14 ?_
      refine R_iconst (v := 1) dX4_removeAt_17 rfl ?_
      refine R_isub dX4_removeAt_18 ?_
      refine R_put poX4_21 hL0 (cE_4 Ω k0 _) (cP_4_1 Ω k0 _ _) (Nat.le_of_ble_eq_true rfl) dX4_removeAt_19 ?_
      refine R_st h (fun σ1 h => ?_)
      refine R_aload_n (i := 0) dX4_removeAt_22 rfl rfl ?_
      refine R_get foX4_15 hL0 (cE_4 Ω k0 _) rfl dX4_removeAt_23 ?_
      refine R_iload_n (i := 1) dX4_removeAt_26 rfl rfl ?_
      refine R_iconst (v := 1) dX4_removeAt_27 rfl ?_
      refine R_iadd dX4_removeAt_28 ?_
      refine R_aload_n (i := 0) dX4_removeAt_29 rfl rfl ?_
      refine R_get foX4_15 hL0 (cE_4 Ω k0 _) rfl dX4_removeAt_30 ?_
      refine R_iload_n (i := 1) dX4_removeAt_33 rfl rfl ?_
      refine R_aload_n (i := 0) dX4_removeAt_34 rfl rfl ?_
      refine R_get foX4_21 hL0 (cE_4 Ω k0 _) rfl dX4_removeAt_35 ?_
      refine R_iload_n (i := 1) dX4_removeAt_38 rfl rfl ?_
      refine R_isub dX4_removeAt_39 ?_
      obtain ⟨hb, h⟩ := hit_bcp h
      refine R_copy (WF.kid hW 0 hL0 rfl) (cE_28 Ω k0) (WF.kid hW 0 hL0 rfl) (cE_28 Ω k0) hb mw_610 mw_402 mw_401 mw_13 (by decide) (Nat.le_of_ble_eq_true rfl) dX4_removeAt_40 ?_
      refine R_st h (fun σ2 h => ?_)
      exact R_vret dX4_removeAt_43 rfl h
set_option maxRecDepth 100000 in
set_option maxHeartbeats 4000000 in
theorem rnX7_refreshRemembered_j46 {l : Launch} {Ω : rO} (hW : WF Ω) (k0 : Nat) (x4 : Int32) (x5 : Int32) (hL0 : oL Ω 7 k0) (σ : rS) {K : Int32 → rS → Prop}  (h : hit (fX7_refreshRemembered_j46 k0 x4 x5 σ) K) : Run l Ω cX7_refreshRemembered RX7 6 none rmX7_refreshRemembered K 46 [some (rf Ω 7 k0), none, none, none, some (.int x4), some (.int x5)] [] σ := by
  unfold fX7_refreshRemembered_j46 at h
  refine R_iload (i := 5) dX7_refreshRemembered_46 rfl ?_
  refine R_if_ne (tgt := 66) dX7_refreshRemembered_48 (by decide) (fun hc => ?_) (fun hc => ?_)
  · have h := hit_f h hc
    exact R_vret dX7_refreshRemembered_66 rfl h
  · have h := hit_t h hc
    refine R_iload (i := 4) dX7_refreshRemembered_51 rfl ?_
    refine R_iconst (v := (-1)) dX7_refreshRemembered_53 rfl ?_
    refine R_icmp_eq (tgt := 66) dX7_refreshRemembered_54 (by decide) (fun hc => ?_) (fun hc => ?_)
    · have h := hit_t h hc
      exact R_vret dX7_refreshRemembered_66 rfl h
    · have h := hit_f h hc
      refine R_aload_n (i := 0) dX7_refreshRemembered_57 rfl rfl ?_
      refine R_get foX7_57 hL0 (cE_7 Ω k0 _) rfl dX7_refreshRemembered_58 ?_
      refine R_iload (i := 4) dX7_refreshRemembered_61 rfl ?_
      refine R_callVv (ctX4_removeAt l Ω (6 * k0 + 2) x4 (WF.kid hW 13 hL0 rfl) _ _ (hit_mono (hit_bd h) (fun r6 σ7 h => ?_))) okX4_removeAt mw_815 (WF.kid hW 13 hL0 rfl) (cE_4 Ω (6 * k0 + 2) _) rfl rfl (Nat.le_of_ble_eq_true rfl) rfl rfl ⟨by decide, by decide⟩ ⟨Nat.zero_le _, Nat.zero_le _⟩ dX7_refreshRemembered_63
      exact R_vret dX7_refreshRemembered_66 rfl h
set_option maxRecDepth 100000 in
set_option maxHeartbeats 4000000 in
theorem ctX7_refreshRemembered (l : Launch) (Ω : rO) (k0 : Nat) (x1 : Int32) (x2 : Int32) (hL0 : oL Ω 7 k0) (σ : rS) (K : Int32 → rS → Prop) (h : hit (fX7_refreshRemembered k0 x1 x2 σ) K) : Ct l Ω yX7_refreshRemembered cX7_refreshRemembered 6 none rmX7_refreshRemembered [rf Ω 7 k0, .int x1, .int x2] σ K := by
  refine Ct.of (own := RX7) (lv := [some (rf Ω 7 k0), some (.int x1), some (.int x2), none, none, none]) (by decide) rfl (Nat.le_of_ble_eq_true rfl) rfl (fun hW => ?_)
  unfold fX7_refreshRemembered at h
  refine R_iload_n (i := 1) dX7_refreshRemembered_0 rfl rfl ?_
  refine R_iconst (v := 4) dX7_refreshRemembered_1 rfl ?_
  refine R_imul dX7_refreshRemembered_2 ?_
  refine R_iload_n (i := 2) dX7_refreshRemembered_3 rfl rfl ?_
  refine R_iadd dX7_refreshRemembered_4 ?_
  refine R_topi h (fun y1 h => ?_)
  refine R_istore_n (lv2 := [some (rf Ω 7 k0), some (.int x1), some (.int x2), some (.int y1), none, none]) dX7_refreshRemembered_5 rfl (by decide) rfl rfl ?_
  refine R_aload_n (i := 0) dX7_refreshRemembered_6 rfl rfl ?_
  refine R_get foX7_57 hL0 (cE_7 Ω k0 _) rfl dX7_refreshRemembered_7 ?_
  refine R_iload_n (i := 3) dX7_refreshRemembered_10 rfl rfl ?_
  refine R_callVi (ctX4_find l Ω (6 * k0 + 2) y1 (WF.kid hW 13 hL0 rfl) _ _ (hit_mono (hit_bd h) (fun r2 σ3 h => ?_))) okX4_find mw_810 (WF.kid hW 13 hL0 rfl) (cE_4 Ω (6 * k0 + 2) _) rfl rfl (Nat.le_of_ble_eq_true rfl) rfl rfl ⟨by decide, by decide⟩ ⟨Nat.zero_le _, Nat.zero_le _⟩ dX7_refreshRemembered_11
  refine R_istore (lv2 := [some (rf Ω 7 k0), some (.int x1), some (.int x2), some (.int y1), some (.int r2), none]) dX7_refreshRemembered_14 (by decide) rfl rfl ?_
  refine R_aload_n (i := 0) dX7_refreshRemembered_16 rfl rfl ?_
  refine R_iload_n (i := 1) dX7_refreshRemembered_17 rfl rfl ?_
  refine R_iload_n (i := 2) dX7_refreshRemembered_18 rfl rfl ?_
  refine R_callVi (ctX7_isOldToYoung l Ω k0 x1 x2 hL0 _ _ (hit_mono (hit_bd h) (fun r4 σ5 h => ?_))) okX7_isOldToYoung mw_814 hL0 (cE_7 Ω k0 _) rfl rfl (Nat.le_of_ble_eq_true rfl) rfl rfl ⟨by decide, by decide⟩ ⟨Nat.zero_le _, Nat.zero_le _⟩ dX7_refreshRemembered_19
  refine R_istore (lv2 := [some (rf Ω 7 k0), some (.int x1), some (.int x2), some (.int y1), some (.int r2), some (.int r4)]) dX7_refreshRemembered_22 (by decide) rfl rfl ?_
  refine R_iload (i := 5) dX7_refreshRemembered_24 rfl ?_
  refine R_if_eq (tgt := 46) dX7_refreshRemembered_26 (by decide) (fun hc => ?_) (fun hc => ?_)
  · have h := hit_t h hc
    refine R_drop (lv2 := [some (rf Ω 7 k0), none, some (.int x2), some (.int y1), some (.int r2), some (.int r4)]) 1 rfl ?_
    refine R_drop (lv2 := [some (rf Ω 7 k0), none, none, some (.int y1), some (.int r2), some (.int r4)]) 2 rfl ?_
    refine R_drop (lv2 := [some (rf Ω 7 k0), none, none, none, some (.int r2), some (.int r4)]) 3 rfl ?_
    exact rnX7_refreshRemembered_j46 hW k0 r2 r4 hL0 σ5  h
  · have h := hit_f h hc
    refine R_iload (i := 4) dX7_refreshRemembered_29 rfl ?_
    refine R_iconst (v := (-1)) dX7_refreshRemembered_31 rfl ?_
    refine R_icmp_ne (tgt := 46) dX7_refreshRemembered_32 (by decide) (fun hc => ?_) (fun hc => ?_)
    · have h := hit_f h hc
      refine R_drop (lv2 := [some (rf Ω 7 k0), none, some (.int x2), some (.int y1), some (.int r2), some (.int r4)]) 1 rfl ?_
      refine R_drop (lv2 := [some (rf Ω 7 k0), none, none, some (.int y1), some (.int r2), some (.int r4)]) 2 rfl ?_
      refine R_drop (lv2 := [some (rf Ω 7 k0), none, none, none, some (.int r2), some (.int r4)]) 3 rfl ?_
      exact rnX7_refreshRemembered_j46 hW k0 r2 r4 hL0 σ5  h
    · have h := hit_t h hc
      refine R_aload_n (i := 0) dX7_refreshRemembered_35 rfl rfl ?_
      refine R_get foX7_57 hL0 (cE_7 Ω k0 _) rfl dX7_refreshRemembered_36 ?_
      refine R_iload_n (i := 3) dX7_refreshRemembered_39 rfl rfl ?_
      refine R_callVv (ctX4_add l Ω (6 * k0 + 2) y1 (WF.kid hW 13 hL0 rfl) _ _ (hit_mono (hit_bd h) (fun r8 σ9 h => ?_))) okX4_add mw_791 (WF.kid hW 13 hL0 rfl) (cE_4 Ω (6 * k0 + 2) _) rfl rfl (Nat.le_of_ble_eq_true rfl) rfl rfl ⟨by decide, by decide⟩ ⟨Nat.zero_le _, Nat.zero_le _⟩ dX7_refreshRemembered_40
      refine R_goto (tgt := 66) dX7_refreshRemembered_43 (by decide) ?_
      exact R_vret dX7_refreshRemembered_66 rfl h
set_option maxRecDepth 100000 in
set_option maxHeartbeats 4000000 in
theorem rnX0_linkField_j74 {l : Launch} {Ω : rO} (hW : WF Ω) (k1 : Nat) (x3 : Int32) (x5 : Int32) (x6 : Int32) (z0 : Int32) (hL1 : oL Ω 7 k1) (σ : rS) {K : Int32 → rS → Prop}  (h : hit (fX0_linkField_j74 k1 x3 x5 x6 z0 σ) K) : Run l Ω cX0_linkField RX0 8 (some .int) rmX0_linkField K 74 [none, some (rf Ω 7 k1), none, some (.int x3), none, some (.int x5), some (.int x6), none] [.int z0] σ := by
  unfold fX0_linkField_j74 at h
  refine R_istore (lv2 := [none, some (rf Ω 7 k1), none, some (.int x3), none, some (.int x5), some (.int x6), some (.int z0)]) dX0_linkField_74 (by decide) rfl rfl ?_
  refine R_iload (i := 6) dX0_linkField_76 rfl ?_
  refine R_iload (i := 7) dX0_linkField_78 rfl ?_
  refine R_icmp_ne (tgt := 86) dX0_linkField_80 (by decide) (fun hc => ?_) (fun hc => ?_)
  · have h := hit_f h hc
    refine R_aload_n (i := 1) dX0_linkField_86 rfl rfl ?_
    refine R_iload (i := 5) dX0_linkField_87 rfl ?_
    refine R_iload_n (i := 3) dX0_linkField_89 rfl rfl ?_
    refine R_iload (i := 7) dX0_linkField_90 rfl ?_
    refine R_callVv (ctX7_setTarget l Ω k1 x5 x3 z0 hL1 _ _ (hit_mono (hit_bd h) (fun r8 σ9 h => ?_))) okX7_setTarget mw_805 hL1 (cE_7 Ω k1 _) rfl rfl (Nat.le_of_ble_eq_true rfl) rfl rfl ⟨by decide, by decide⟩ ⟨Nat.zero_le _, Nat.zero_le _⟩ dX0_linkField_92
    refine R_aload_n (i := 1) dX0_linkField_95 rfl rfl ?_
    refine R_iload (i := 5) dX0_linkField_96 rfl ?_
    refine R_iload_n (i := 3) dX0_linkField_98 rfl rfl ?_
    refine R_callVv (ctX7_refreshRemembered l Ω k1 x5 x3 hL1 _ _ (hit_mono (hit_bd h) (fun r10 σ11 h => ?_))) okX7_refreshRemembered mw_806 hL1 (cE_7 Ω k1 _) rfl rfl (Nat.le_of_ble_eq_true rfl) rfl rfl ⟨by decide, by decide⟩ ⟨Nat.zero_le _, Nat.zero_le _⟩ dX0_linkField_99
    refine R_aload_n (i := 1) dX0_linkField_102 rfl rfl ?_
    refine R_iconst (v := 1) dX0_linkField_103 rfl ?_
    refine R_aload_n (i := 1) dX0_linkField_104 rfl rfl ?_
    refine R_get foX0_108 hL1 (cE_7 Ω k1 _) rfl dX0_linkField_105 ?_
    refine R_iload (i := 5) dX0_linkField_108 rfl ?_
    obtain ⟨hb, h⟩ := hit_bnd h
    refine R_iald (WF.kid hW 0 hL1 rfl) (cE_45 Ω k1 _) hb dX0_linkField_110 ?_
    refine R_callVv (ctX7_note l Ω k1 1 (σ11 45 k1 (ix x5)) hL1 _ _ (hit_mono (hit_bd h) (fun r12 σ13 h => ?_))) okX7_note mw_787 hL1 (cE_7 Ω k1 _) rfl rfl (Nat.le_of_ble_eq_true rfl) rfl rfl ⟨by decide, by decide⟩ ⟨Nat.zero_le _, Nat.zero_le _⟩ dX0_linkField_111
    refine R_aload_n (i := 1) dX0_linkField_114 rfl rfl ?_
    refine R_iload (i := 6) dX0_linkField_115 rfl ?_
    refine R_callVi (ctX7_numberOf l Ω k1 x6 hL1 _ _ (hit_mono (hit_bd h) (fun r14 σ15 h => ?_))) okX7_numberOf mw_786 hL1 (cE_7 Ω k1 _) rfl rfl (Nat.le_of_ble_eq_true rfl) rfl rfl ⟨by decide, by decide⟩ ⟨Nat.zero_le _, Nat.zero_le _⟩ dX0_linkField_117
    exact R_iret dX0_linkField_120 rfl h
  · have h := hit_t h hc
    refine R_bipush (v := (-3)) dX0_linkField_83 rfl ?_
    exact R_iret dX0_linkField_85 rfl h
set_option maxRecDepth 100000 in
set_option maxHeartbeats 4000000 in
theorem rnX0_linkField_j26 {l : Launch} {Ω : rO} (hW : WF Ω) (k1 : Nat) (x2 : Int32) (x3 : Int32) (x4 : Int32) (hL1 : oL Ω 7 k1) (σ : rS) {K : Int32 → rS → Prop}  (h : hit (fX0_linkField_j26 k1 x2 x3 x4 σ) K) : Run l Ω cX0_linkField RX0 8 (some .int) rmX0_linkField K 26 [none, some (rf Ω 7 k1), some (.int x2), some (.int x3), some (.int x4), none, none, none] [] σ := by
  unfold fX0_linkField_j26 at h
  refine R_aload_n (i := 1) dX0_linkField_26 rfl rfl ?_
  refine R_get foX0_78 hL1 (cE_7 Ω k1 _) rfl dX0_linkField_27 ?_
  refine R_iload_n (i := 2) dX0_linkField_30 rfl rfl ?_
  obtain ⟨hb, h⟩ := hit_bnd h
  refine R_iald (WF.kid hW 8 hL1 rfl) (cE_53 Ω k1 _) hb dX0_linkField_31 ?_
  refine R_topi h (fun y3 h => ?_)
  refine R_istore (lv2 := [none, some (rf Ω 7 k1), some (.int x2), some (.int x3), some (.int x4), some (.int y3), none, none]) dX0_linkField_32 (by decide) rfl rfl ?_
  refine R_aload_n (i := 1) dX0_linkField_34 rfl rfl ?_
  refine R_iload (i := 5) dX0_linkField_35 rfl ?_
  refine R_iload_n (i := 3) dX0_linkField_37 rfl rfl ?_
  refine R_callVi (ctX7_hasField l Ω k1 y3 x3 hL1 _ _ (hit_mono (hit_bd h) (fun r4 σ5 h => ?_))) okX7_hasField mw_803 hL1 (cE_7 Ω k1 _) rfl rfl (Nat.le_of_ble_eq_true rfl) rfl rfl ⟨by decide, by decide⟩ ⟨Nat.zero_le _, Nat.zero_le _⟩ dX0_linkField_38
  refine R_if_ne (tgt := 47) dX0_linkField_41 (by decide) (fun hc => ?_) (fun hc => ?_)
  · have h := hit_f h hc
    refine R_aload_n (i := 1) dX0_linkField_47 rfl rfl ?_
    refine R_iload (i := 5) dX0_linkField_48 rfl ?_
    refine R_iload_n (i := 3) dX0_linkField_50 rfl rfl ?_
    refine R_callVi (ctX7_target l Ω k1 y3 x3 hL1 _ _ (hit_mono (hit_bd h) (fun r6 σ7 h => ?_))) okX7_target mw_804 hL1 (cE_7 Ω k1 _) rfl rfl (Nat.le_of_ble_eq_true rfl) rfl rfl ⟨by decide, by decide⟩ ⟨Nat.zero_le _, Nat.zero_le _⟩ dX0_linkField_51
    refine R_istore (lv2 := [none, some (rf Ω 7 k1), some (.int x2), some (.int x3), some (.int x4), some (.int y3), some (.int r6), none]) dX0_linkField_54 (by decide) rfl rfl ?_
    refine R_iload (i := 4) dX0_linkField_56 rfl ?_
    refine R_bipush (v := 8) dX0_linkField_58 rfl ?_
    refine R_icmp_ne (tgt := 67) dX0_linkField_60 (by decide) (fun hc => ?_) (fun hc => ?_)
    · have h := hit_f h hc
      refine R_aload_n (i := 1) dX0_linkField_67 rfl rfl ?_
      refine R_get foX0_78 hL1 (cE_7 Ω k1 _) rfl dX0_linkField_68 ?_
      refine R_iload (i := 4) dX0_linkField_71 rfl ?_
      obtain ⟨hb, h⟩ := hit_bnd h
      refine R_iald (WF.kid hW 8 hL1 rfl) (cE_53 Ω k1 _) hb dX0_linkField_73 ?_
      refine R_drop (lv2 := [none, some (rf Ω 7 k1), none, some (.int x3), some (.int x4), some (.int y3), some (.int r6), none]) 2 rfl ?_
      refine R_drop (lv2 := [none, some (rf Ω 7 k1), none, some (.int x3), none, some (.int y3), some (.int r6), none]) 4 rfl ?_
      exact rnX0_linkField_j74 hW k1 x3 y3 r6 (σ7 53 k1 (ix x4)) hL1 σ7  h
    · have h := hit_t h hc
      refine R_iconst (v := (-1)) dX0_linkField_63 rfl ?_
      refine R_goto (tgt := 74) dX0_linkField_64 (by decide) ?_
      refine R_drop (lv2 := [none, some (rf Ω 7 k1), none, some (.int x3), some (.int x4), some (.int y3), some (.int r6), none]) 2 rfl ?_
      refine R_drop (lv2 := [none, some (rf Ω 7 k1), none, some (.int x3), none, some (.int y3), some (.int r6), none]) 4 rfl ?_
      exact rnX0_linkField_j74 hW k1 x3 y3 r6 (-1) hL1 σ7  h
  · have h := hit_t h hc
    refine R_bipush (v := (-2)) dX0_linkField_44 rfl ?_
    exact R_iret dX0_linkField_46 rfl h
set_option maxRecDepth 100000 in
set_option maxHeartbeats 4000000 in
theorem ctX0_linkField (l : Launch) (Ω : rO) (k1 : Nat) (x2 : Int32) (x3 : Int32) (x4 : Int32) (hL0 : oL Ω 0 0) (hL1 : oL Ω 7 k1) (σ : rS) (K : Int32 → rS → Prop) (h : hit (fX0_linkField k1 x2 x3 x4 σ) K) : Ct l Ω yX0_linkField cX0_linkField 8 (some .int) rmX0_linkField [rf Ω 0 0, rf Ω 7 k1, .int x2, .int x3, .int x4] σ K := by
  refine Ct.of (own := RX0) (lv := [some (rf Ω 0 0), some (rf Ω 7 k1), some (.int x2), some (.int x3), some (.int x4), none, none, none]) (by decide) rfl (Nat.le_of_ble_eq_true rfl) rfl (fun hW => ?_)
  unfold fX0_linkField at h
  refine R_aload_n (i := 1) dX0_linkField_0 rfl rfl ?_
  refine R_iload_n (i := 2) dX0_linkField_1 rfl rfl ?_
  refine R_callSi (ctX0_isLinkedRoot l Ω k1 x2 hL1 _ _ (hit_mono (hit_bd h) (fun r1 σ2 h => ?_))) okX0_isLinkedRoot mw_800 rfl rfl (Nat.le_of_ble_eq_true rfl) rfl rfl ⟨by decide, by decide⟩ ⟨Nat.zero_le _, Nat.zero_le _⟩ dX0_linkField_2
  refine R_if_eq (tgt := 24) dX0_linkField_5 (by decide) (fun hc => ?_) (fun hc => ?_)
  · have h := hit_t h hc
    refine R_iconst (v := (-1)) dX0_linkField_24 rfl ?_
    exact R_iret dX0_linkField_25 rfl h
  · have h := hit_f h hc
    refine R_iload (i := 4) dX0_linkField_8 rfl ?_
    refine R_bipush (v := 8) dX0_linkField_10 rfl ?_
    refine R_icmp_eq (tgt := 26) dX0_linkField_12 (by decide) (fun hc => ?_) (fun hc => ?_)
    · have h := hit_t h hc
      refine R_drop (lv2 := [none, some (rf Ω 7 k1), some (.int x2), some (.int x3), some (.int x4), none, none, none]) 0 rfl ?_
      exact rnX0_linkField_j26 hW k1 x2 x3 x4 hL1 σ2  h
    · have h := hit_f h hc
      refine R_aload_n (i := 1) dX0_linkField_15 rfl rfl ?_
      refine R_iload (i := 4) dX0_linkField_16 rfl ?_
      refine R_callSi (ctX0_isLinkedRoot l Ω k1 x4 hL1 _ _ (hit_mono (hit_bd h) (fun r16 σ17 h => ?_))) okX0_isLinkedRoot mw_800 rfl rfl (Nat.le_of_ble_eq_true rfl) rfl rfl ⟨by decide, by decide⟩ ⟨Nat.zero_le _, Nat.zero_le _⟩ dX0_linkField_18
      refine R_if_ne (tgt := 26) dX0_linkField_21 (by decide) (fun hc => ?_) (fun hc => ?_)
      · have h := hit_f h hc
        refine R_drop (lv2 := [none, some (rf Ω 7 k1), some (.int x2), some (.int x3), some (.int x4), none, none, none]) 0 rfl ?_
        exact rnX0_linkField_j26 hW k1 x2 x3 x4 hL1 σ17  h
      · have h := hit_t h hc
        refine R_iconst (v := (-1)) dX0_linkField_24 rfl ?_
        exact R_iret dX0_linkField_25 rfl h
set_option maxRecDepth 100000 in
set_option maxHeartbeats 4000000 in
theorem ctX0_loadRoot (l : Launch) (Ω : rO) (k1 : Nat) (x2 : Int32) (x3 : Int32) (x4 : Int32) (hL0 : oL Ω 0 0) (hL1 : oL Ω 7 k1) (σ : rS) (K : Int32 → rS → Prop) (h : hit (fX0_loadRoot k1 x2 x3 x4 σ) K) : Ct l Ω yX0_loadRoot cX0_loadRoot 8 (some .int) rmX0_loadRoot [rf Ω 0 0, rf Ω 7 k1, .int x2, .int x3, .int x4] σ K := by
  refine Ct.of (own := RX0) (lv := [some (rf Ω 0 0), some (rf Ω 7 k1), some (.int x2), some (.int x3), some (.int x4), none, none, none]) (by decide) rfl (Nat.le_of_ble_eq_true rfl) rfl (fun hW => ?_)
  unfold fX0_loadRoot at h
  refine R_iload_n (i := 2) dX0_loadRoot_0 rfl rfl ?_
  refine R_callSNi (ctX9_isRoot l Ω x2 _ _ (hit_mono (hit_bd h) (fun r1 σ2 h => ?_))) okX9_isRoot nw_619 rfl rfl (Nat.le_of_ble_eq_true rfl) rfl rfl ⟨by decide, by decide⟩ ⟨Nat.zero_le _, Nat.zero_le _⟩ dX0_loadRoot_1
  refine R_if_eq (tgt := 15) dX0_loadRoot_4 (by decide) (fun hc => ?_) (fun hc => ?_)
  · have h := hit_t h hc
    refine R_iconst (v := (-1)) dX0_loadRoot_15 rfl ?_
    exact R_iret dX0_loadRoot_16 rfl h
  · have h := hit_f h hc
    refine R_aload_n (i := 1) dX0_loadRoot_7 rfl rfl ?_
    refine R_iload_n (i := 3) dX0_loadRoot_8 rfl rfl ?_
    refine R_callSi (ctX0_isLinkedRoot l Ω k1 x3 hL1 _ _ (hit_mono (hit_bd h) (fun r3 σ4 h => ?_))) okX0_isLinkedRoot mw_800 rfl rfl (Nat.le_of_ble_eq_true rfl) rfl rfl ⟨by decide, by decide⟩ ⟨Nat.zero_le _, Nat.zero_le _⟩ dX0_loadRoot_9
    refine R_if_ne (tgt := 17) dX0_loadRoot_12 (by decide) (fun hc => ?_) (fun hc => ?_)
    · have h := hit_f h hc
      refine R_aload_n (i := 1) dX0_loadRoot_17 rfl rfl ?_
      refine R_get foX0_78 hL1 (cE_7 Ω k1 _) rfl dX0_loadRoot_18 ?_
      refine R_iload_n (i := 3) dX0_loadRoot_21 rfl rfl ?_
      obtain ⟨hb, h⟩ := hit_bnd h
      refine R_iald (WF.kid hW 8 hL1 rfl) (cE_53 Ω k1 _) hb dX0_loadRoot_22 ?_
      refine R_topi h (fun y5 h => ?_)
      refine R_istore (lv2 := [some (rf Ω 0 0), some (rf Ω 7 k1), some (.int x2), some (.int x3), some (.int x4), some (.int y5), none, none]) dX0_loadRoot_23 (by decide) rfl rfl ?_
      refine R_aload_n (i := 1) dX0_loadRoot_25 rfl rfl ?_
      refine R_iload (i := 5) dX0_loadRoot_26 rfl ?_
      refine R_iload (i := 4) dX0_loadRoot_28 rfl ?_
      refine R_callVi (ctX7_hasField l Ω k1 y5 x4 hL1 _ _ (hit_mono (hit_bd h) (fun r6 σ7 h => ?_))) okX7_hasField mw_803 hL1 (cE_7 Ω k1 _) rfl rfl (Nat.le_of_ble_eq_true rfl) rfl rfl ⟨by decide, by decide⟩ ⟨Nat.zero_le _, Nat.zero_le _⟩ dX0_loadRoot_30
      refine R_if_ne (tgt := 39) dX0_loadRoot_33 (by decide) (fun hc => ?_) (fun hc => ?_)
      · have h := hit_f h hc
        refine R_aload_n (i := 1) dX0_loadRoot_39 rfl rfl ?_
        refine R_get foX0_78 hL1 (cE_7 Ω k1 _) rfl dX0_loadRoot_40 ?_
        refine R_iload_n (i := 2) dX0_loadRoot_43 rfl rfl ?_
        obtain ⟨hb, h⟩ := hit_bnd h
        refine R_iald (WF.kid hW 8 hL1 rfl) (cE_53 Ω k1 _) hb dX0_loadRoot_44 ?_
        refine R_topi h (fun y8 h => ?_)
        refine R_istore (lv2 := [some (rf Ω 0 0), some (rf Ω 7 k1), some (.int x2), some (.int x3), some (.int x4), some (.int y5), some (.int y8), none]) dX0_loadRoot_45 (by decide) rfl rfl ?_
        refine R_aload_n (i := 1) dX0_loadRoot_47 rfl rfl ?_
        refine R_iload (i := 5) dX0_loadRoot_48 rfl ?_
        refine R_iload (i := 4) dX0_loadRoot_50 rfl ?_
        refine R_callVi (ctX7_target l Ω k1 y5 x4 hL1 _ _ (hit_mono (hit_bd h) (fun r9 σ10 h => ?_))) okX7_target mw_804 hL1 (cE_7 Ω k1 _) rfl rfl (Nat.le_of_ble_eq_true rfl) rfl rfl ⟨by decide, by decide⟩ ⟨Nat.zero_le _, Nat.zero_le _⟩ dX0_loadRoot_52
        refine R_istore (lv2 := [some (rf Ω 0 0), some (rf Ω 7 k1), some (.int x2), some (.int x3), some (.int x4), some (.int y5), some (.int y8), some (.int r9)]) dX0_loadRoot_55 (by decide) rfl rfl ?_
        refine R_aload_n (i := 1) dX0_loadRoot_57 rfl rfl ?_
        refine R_get foX0_78 hL1 (cE_7 Ω k1 _) rfl dX0_loadRoot_58 ?_
        refine R_iload_n (i := 2) dX0_loadRoot_61 rfl rfl ?_
        refine R_iload (i := 7) dX0_loadRoot_62 rfl ?_
        obtain ⟨hb, h⟩ := hit_bnd h
        refine R_iast (WF.kid hW 8 hL1 rfl) (cE_53 Ω k1) hb dX0_loadRoot_64 ?_
        refine R_st h (fun σ11 h => ?_)
        refine R_aload_n (i := 1) dX0_loadRoot_65 rfl rfl ?_
        refine R_iconst (v := 2) dX0_loadRoot_66 rfl ?_
        refine R_aload_n (i := 1) dX0_loadRoot_67 rfl rfl ?_
        refine R_iload (i := 6) dX0_loadRoot_68 rfl ?_
        refine R_callVi (ctX7_numberOf l Ω k1 y8 hL1 _ _ (hit_mono (hit_bd h) (fun r12 σ13 h => ?_))) okX7_numberOf mw_786 hL1 (cE_7 Ω k1 _) rfl rfl (Nat.le_of_ble_eq_true rfl) rfl rfl ⟨by decide, by decide⟩ ⟨Nat.zero_le _, Nat.zero_le _⟩ dX0_loadRoot_70
        refine R_callVv (ctX7_note l Ω k1 2 r12 hL1 _ _ (hit_mono (hit_bd h) (fun r14 σ15 h => ?_))) okX7_note mw_787 hL1 (cE_7 Ω k1 _) rfl rfl (Nat.le_of_ble_eq_true rfl) rfl rfl ⟨by decide, by decide⟩ ⟨Nat.zero_le _, Nat.zero_le _⟩ dX0_loadRoot_73
        refine R_aload_n (i := 1) dX0_loadRoot_76 rfl rfl ?_
        refine R_iload (i := 7) dX0_loadRoot_77 rfl ?_
        refine R_callVi (ctX7_numberOf l Ω k1 r9 hL1 _ _ (hit_mono (hit_bd h) (fun r16 σ17 h => ?_))) okX7_numberOf mw_786 hL1 (cE_7 Ω k1 _) rfl rfl (Nat.le_of_ble_eq_true rfl) rfl rfl ⟨by decide, by decide⟩ ⟨Nat.zero_le _, Nat.zero_le _⟩ dX0_loadRoot_79
        exact R_iret dX0_loadRoot_82 rfl h
      · have h := hit_t h hc
        refine R_bipush (v := (-2)) dX0_loadRoot_36 rfl ?_
        exact R_iret dX0_loadRoot_38 rfl h
    · have h := hit_t h hc
      refine R_iconst (v := (-1)) dX0_loadRoot_15 rfl ?_
      exact R_iret dX0_loadRoot_16 rfl h
set_option maxRecDepth 100000 in
set_option maxHeartbeats 4000000 in
theorem ctX0_emptyRoot (l : Launch) (Ω : rO) (k1 : Nat) (x2 : Int32) (hL0 : oL Ω 0 0) (hL1 : oL Ω 7 k1) (σ : rS) (K : Int32 → rS → Prop) (h : hit (fX0_emptyRoot k1 x2 σ) K) : Ct l Ω yX0_emptyRoot cX0_emptyRoot 4 (some .int) rmX0_emptyRoot [rf Ω 0 0, rf Ω 7 k1, .int x2] σ K := by
  refine Ct.of (own := RX0) (lv := [some (rf Ω 0 0), some (rf Ω 7 k1), some (.int x2), none]) (by decide) rfl (Nat.le_of_ble_eq_true rfl) rfl (fun hW => ?_)
  unfold fX0_emptyRoot at h
  refine R_iload_n (i := 2) dX0_emptyRoot_0 rfl rfl ?_
  refine R_callSNi (ctX9_isRoot l Ω x2 _ _ (hit_mono (hit_bd h) (fun r1 σ2 h => ?_))) okX9_isRoot nw_619 rfl rfl (Nat.le_of_ble_eq_true rfl) rfl rfl ⟨by decide, by decide⟩ ⟨Nat.zero_le _, Nat.zero_le _⟩ dX0_emptyRoot_1
  refine R_if_ne (tgt := 9) dX0_emptyRoot_4 (by decide) (fun hc => ?_) (fun hc => ?_)
  · have h := hit_f h hc
    refine R_aload_n (i := 1) dX0_emptyRoot_9 rfl rfl ?_
    refine R_get foX0_78 hL1 (cE_7 Ω k1 _) rfl dX0_emptyRoot_10 ?_
    refine R_iload_n (i := 2) dX0_emptyRoot_13 rfl rfl ?_
    obtain ⟨hb, h⟩ := hit_bnd h
    refine R_iald (WF.kid hW 8 hL1 rfl) (cE_53 Ω k1 _) hb dX0_emptyRoot_14 ?_
    refine R_topi h (fun y3 h => ?_)
    refine R_istore_n (lv2 := [some (rf Ω 0 0), some (rf Ω 7 k1), some (.int x2), some (.int y3)]) dX0_emptyRoot_15 rfl (by decide) rfl rfl ?_
    refine R_iload_n (i := 3) dX0_emptyRoot_16 rfl rfl ?_
    refine R_iconst (v := (-1)) dX0_emptyRoot_17 rfl ?_
    refine R_icmp_ne (tgt := 24) dX0_emptyRoot_18 (by decide) (fun hc => ?_) (fun hc => ?_)
    · have h := hit_f h hc
      refine R_aload_n (i := 1) dX0_emptyRoot_24 rfl rfl ?_
      refine R_get foX0_78 hL1 (cE_7 Ω k1 _) rfl dX0_emptyRoot_25 ?_
      refine R_iload_n (i := 2) dX0_emptyRoot_28 rfl rfl ?_
      refine R_iconst (v := (-1)) dX0_emptyRoot_29 rfl ?_
      obtain ⟨hb, h⟩ := hit_bnd h
      refine R_iast (WF.kid hW 8 hL1 rfl) (cE_53 Ω k1) hb dX0_emptyRoot_30 ?_
      refine R_st h (fun σ4 h => ?_)
      refine R_aload_n (i := 1) dX0_emptyRoot_31 rfl rfl ?_
      refine R_iconst (v := 3) dX0_emptyRoot_32 rfl ?_
      refine R_aload_n (i := 1) dX0_emptyRoot_33 rfl rfl ?_
      refine R_iload_n (i := 3) dX0_emptyRoot_34 rfl rfl ?_
      refine R_callVi (ctX7_numberOf l Ω k1 y3 hL1 _ _ (hit_mono (hit_bd h) (fun r5 σ6 h => ?_))) okX7_numberOf mw_786 hL1 (cE_7 Ω k1 _) rfl rfl (Nat.le_of_ble_eq_true rfl) rfl rfl ⟨by decide, by decide⟩ ⟨Nat.zero_le _, Nat.zero_le _⟩ dX0_emptyRoot_35
      refine R_callVv (ctX7_note l Ω k1 3 r5 hL1 _ _ (hit_mono (hit_bd h) (fun r7 σ8 h => ?_))) okX7_note mw_787 hL1 (cE_7 Ω k1 _) rfl rfl (Nat.le_of_ble_eq_true rfl) rfl rfl ⟨by decide, by decide⟩ ⟨Nat.zero_le _, Nat.zero_le _⟩ dX0_emptyRoot_38
      refine R_aload_n (i := 1) dX0_emptyRoot_41 rfl rfl ?_
      refine R_iload_n (i := 3) dX0_emptyRoot_42 rfl rfl ?_
      refine R_callVi (ctX7_numberOf l Ω k1 y3 hL1 _ _ (hit_mono (hit_bd h) (fun r9 σ10 h => ?_))) okX7_numberOf mw_786 hL1 (cE_7 Ω k1 _) rfl rfl (Nat.le_of_ble_eq_true rfl) rfl rfl ⟨by decide, by decide⟩ ⟨Nat.zero_le _, Nat.zero_le _⟩ dX0_emptyRoot_43
      exact R_iret dX0_emptyRoot_46 rfl h
    · have h := hit_t h hc
      refine R_bipush (v := (-3)) dX0_emptyRoot_21 rfl ?_
      exact R_iret dX0_emptyRoot_23 rfl h
  · have h := hit_t h hc
    refine R_iconst (v := (-1)) dX0_emptyRoot_7 rfl ?_
    exact R_iret dX0_emptyRoot_8 rfl h
set_option maxRecDepth 100000 in
set_option maxHeartbeats 4000000 in
theorem ctX0_actMinor (l : Launch) (Ω : rO) (k1 : Nat) (hL0 : oL Ω 0 0) (hL1 : oL Ω 7 k1) (σ : rS) (K : Int32 → rS → Prop) (h : hit (fX0_actMinor k1 σ) K) : Ct l Ω yX0_actMinor cX0_actMinor 3 (some .int) rmX0_actMinor [rf Ω 0 0, rf Ω 7 k1] σ K := by
  refine Ct.of (own := RX0) (lv := [some (rf Ω 0 0), some (rf Ω 7 k1), none]) (by decide) rfl (Nat.le_of_ble_eq_true rfl) rfl (fun hW => ?_)
  unfold fX0_actMinor at h
  refine R_aload_n (i := 0) dX0_actMinor_0 rfl rfl ?_
  refine R_get foX0_22 hL0 (cE_0 Ω 0 _) rfl dX0_actMinor_1 ?_
  refine R_aload_n (i := 1) dX0_actMinor_4 rfl rfl ?_
  refine R_callVi (ctX1_collectYoung l Ω k1 (WF.kid hW 1 hL0 rfl) hL1 _ _ (hit_mono (hit_bd h) (fun r1 σ2 h => ?_))) okX1_collectYoung mw_620 (WF.kid hW 1 hL0 rfl) (cE_1 Ω 0 _) rfl rfl (Nat.le_of_ble_eq_true rfl) rfl rfl ⟨by decide, by decide⟩ ⟨Nat.zero_le _, Nat.zero_le _⟩ dX0_actMinor_5
  refine R_if_ne (tgt := 14) dX0_actMinor_8 (by decide) (fun hc => ?_) (fun hc => ?_)
  · have h := hit_f h hc
    refine R_aload_n (i := 0) dX0_actMinor_14 rfl rfl ?_
    refine R_get foX0_22 hL0 (cE_0 Ω 0 _) rfl dX0_actMinor_15 ?_
    refine R_get foX0_111 (WF.kid hW 1 hL0 rfl) (cE_1 Ω 0 _) rfl dX0_actMinor_18 ?_
    refine R_iconst (v := 2) dX0_actMinor_21 rfl ?_
    refine R_iald (WF.kid hW 2 (WF.kid hW 1 hL0 rfl) rfl) (cE_37 Ω 0 _) (vin 2 5 rfl) dX0_actMinor_22 ?_
    refine R_topi h (fun y3 h => ?_)
    refine R_istore_n (lv2 := [some (rf Ω 0 0), some (rf Ω 7 k1), some (.int y3)]) dX0_actMinor_23 rfl (by decide) rfl rfl ?_
    refine R_aload_n (i := 1) dX0_actMinor_24 rfl rfl ?_
    refine R_iconst (v := 4) dX0_actMinor_25 rfl ?_
    refine R_iload_n (i := 2) dX0_actMinor_26 rfl rfl ?_
    refine R_callVv (ctX7_note l Ω k1 4 y3 hL1 _ _ (hit_mono (hit_bd h) (fun r4 σ5 h => ?_))) okX7_note mw_787 hL1 (cE_7 Ω k1 _) rfl rfl (Nat.le_of_ble_eq_true rfl) rfl rfl ⟨by decide, by decide⟩ ⟨Nat.zero_le _, Nat.zero_le _⟩ dX0_actMinor_27
    refine R_iload_n (i := 2) dX0_actMinor_30 rfl rfl ?_
    exact R_iret dX0_actMinor_31 rfl h
  · have h := hit_t h hc
    refine R_bipush (v := (-4)) dX0_actMinor_11 rfl ?_
    exact R_iret dX0_actMinor_13 rfl h
set_option maxRecDepth 100000 in
set_option maxHeartbeats 4000000 in
theorem ctX0_actMajor (l : Launch) (Ω : rO) (k1 : Nat) (hL0 : oL Ω 0 0) (hL1 : oL Ω 7 k1) (σ : rS) (K : Int32 → rS → Prop) (h : hit (fX0_actMajor k1 σ) K) : Ct l Ω yX0_actMajor cX0_actMajor 3 (some .int) rmX0_actMajor [rf Ω 0 0, rf Ω 7 k1] σ K := by
  refine Ct.of (own := RX0) (lv := [some (rf Ω 0 0), some (rf Ω 7 k1), none]) (by decide) rfl (Nat.le_of_ble_eq_true rfl) rfl (fun hW => ?_)
  unfold fX0_actMajor at h
  refine R_aload_n (i := 0) dX0_actMajor_0 rfl rfl ?_
  refine R_get foX0_22 hL0 (cE_0 Ω 0 _) rfl dX0_actMajor_1 ?_
  refine R_aload_n (i := 1) dX0_actMajor_4 rfl rfl ?_
  refine R_callVv (ctX1_collectAll l Ω k1 (WF.kid hW 1 hL0 rfl) hL1 _ _ (hit_mono (hit_bd h) (fun r1 σ2 h => ?_))) okX1_collectAll mw_728 (WF.kid hW 1 hL0 rfl) (cE_1 Ω 0 _) rfl rfl (Nat.le_of_ble_eq_true rfl) rfl rfl ⟨by decide, by decide⟩ ⟨Nat.zero_le _, Nat.zero_le _⟩ dX0_actMajor_5
  refine R_aload_n (i := 0) dX0_actMajor_8 rfl rfl ?_
  refine R_get foX0_22 hL0 (cE_0 Ω 0 _) rfl dX0_actMajor_9 ?_
  refine R_get foX0_111 (WF.kid hW 1 hL0 rfl) (cE_1 Ω 0 _) rfl dX0_actMajor_12 ?_
  refine R_iconst (v := 2) dX0_actMajor_15 rfl ?_
  refine R_iald (WF.kid hW 2 (WF.kid hW 1 hL0 rfl) rfl) (cE_37 Ω 0 _) (vin 2 5 rfl) dX0_actMajor_16 ?_
  refine R_topi h (fun y3 h => ?_)
  refine R_istore_n (lv2 := [some (rf Ω 0 0), some (rf Ω 7 k1), some (.int y3)]) dX0_actMajor_17 rfl (by decide) rfl rfl ?_
  refine R_aload_n (i := 1) dX0_actMajor_18 rfl rfl ?_
  refine R_iconst (v := 5) dX0_actMajor_19 rfl ?_
  refine R_iload_n (i := 2) dX0_actMajor_20 rfl rfl ?_
  refine R_callVv (ctX7_note l Ω k1 5 y3 hL1 _ _ (hit_mono (hit_bd h) (fun r4 σ5 h => ?_))) okX7_note mw_787 hL1 (cE_7 Ω k1 _) rfl rfl (Nat.le_of_ble_eq_true rfl) rfl rfl ⟨by decide, by decide⟩ ⟨Nat.zero_le _, Nat.zero_le _⟩ dX0_actMajor_21
  refine R_iload_n (i := 2) dX0_actMajor_24 rfl rfl ?_
  exact R_iret dX0_actMajor_25 rfl h
set_option maxRecDepth 100000 in
set_option maxHeartbeats 4000000 in
theorem rnX0_tellEnd_j63 {l : Launch} {Ω : rO} (hW : WF Ω) (k1 : Nat) (x3 : Int32) (hL1 : oL Ω 7 k1) (σ : rS) {K : Int32 → rS → Prop}  (h : hit (fX0_tellEnd_j63 k1 x3 σ) K) : Run l Ω cX0_tellEnd RX0 4 (some .int) rmX0_tellEnd K 63 [none, some (rf Ω 7 k1), none, some (.int x3)] [] σ := by
  unfold fX0_tellEnd_j63 at h
  refine R_aload_n (i := 1) dX0_tellEnd_63 rfl rfl ?_
  refine R_bipush (v := 6) dX0_tellEnd_64 rfl ?_
  refine R_aload_n (i := 1) dX0_tellEnd_66 rfl rfl ?_
  refine R_get foX0_108 hL1 (cE_7 Ω k1 _) rfl dX0_tellEnd_67 ?_
  refine R_iload_n (i := 3) dX0_tellEnd_70 rfl rfl ?_
  obtain ⟨hb, h⟩ := hit_bnd h
  refine R_iald (WF.kid hW 0 hL1 rfl) (cE_45 Ω k1 _) hb dX0_tellEnd_71 ?_
  refine R_callVv (ctX7_note l Ω k1 6 (σ 45 k1 (ix x3)) hL1 _ _ (hit_mono (hit_bd h) (fun r8 σ9 h => ?_))) okX7_note mw_787 hL1 (cE_7 Ω k1 _) rfl rfl (Nat.le_of_ble_eq_true rfl) rfl rfl ⟨by decide, by decide⟩ ⟨Nat.zero_le _, Nat.zero_le _⟩ dX0_tellEnd_72
  refine R_aload_n (i := 1) dX0_tellEnd_75 rfl rfl ?_
  refine R_get foX0_108 hL1 (cE_7 Ω k1 _) rfl dX0_tellEnd_76 ?_
  refine R_iload_n (i := 3) dX0_tellEnd_79 rfl rfl ?_
  obtain ⟨hb, h⟩ := hit_bnd h
  refine R_iald (WF.kid hW 0 hL1 rfl) (cE_45 Ω k1 _) hb dX0_tellEnd_80 ?_
  exact R_iret dX0_tellEnd_81 rfl h
set_option maxRecDepth 100000 in
set_option maxHeartbeats 4000000 in
theorem rnX0_tellEnd_j15 {l : Launch} {Ω : rO} (hW : WF Ω) (k1 : Nat) (x2 : Int32) (hL1 : oL Ω 7 k1) (σ : rS) {K : Int32 → rS → Prop}  (h : hit (fX0_tellEnd_j15 k1 x2 σ) K) : Run l Ω cX0_tellEnd RX0 4 (some .int) rmX0_tellEnd K 15 [none, some (rf Ω 7 k1), some (.int x2), none] [] σ := by
  unfold fX0_tellEnd_j15 at h
  refine R_aload_n (i := 1) dX0_tellEnd_15 rfl rfl ?_
  refine R_get foX0_114 hL1 (cE_7 Ω k1 _) rfl dX0_tellEnd_16 ?_
  refine R_iconst (v := 0) dX0_tellEnd_19 rfl ?_
  refine R_callVi (ctX4_get l Ω (6 * k1 + 0) 0 (WF.kid hW 11 hL1 rfl) _ _ (hit_mono (hit_bd h) (fun r1 σ2 h => ?_))) okX4_get mw_839 (WF.kid hW 11 hL1 rfl) (cE_4 Ω (6 * k1 + 0) _) rfl rfl (Nat.le_of_ble_eq_true rfl) rfl rfl ⟨by decide, by decide⟩ ⟨Nat.zero_le _, Nat.zero_le _⟩ dX0_tellEnd_20
  refine R_istore_n (lv2 := [none, some (rf Ω 7 k1), some (.int x2), some (.int r1)]) dX0_tellEnd_23 rfl (by decide) rfl rfl ?_
  refine R_aload_n (i := 1) dX0_tellEnd_24 rfl rfl ?_
  refine R_iload_n (i := 3) dX0_tellEnd_25 rfl rfl ?_
  refine R_callVi (ctX7_isSlot l Ω k1 r1 hL1 _ _ (hit_mono (hit_bd h) (fun r3 σ4 h => ?_))) okX7_isSlot mw_840 hL1 (cE_7 Ω k1 _) rfl rfl (Nat.le_of_ble_eq_true rfl) rfl rfl ⟨by decide, by decide⟩ ⟨Nat.zero_le _, Nat.zero_le _⟩ dX0_tellEnd_26
  refine R_if_ne (tgt := 35) dX0_tellEnd_29 (by decide) (fun hc => ?_) (fun hc => ?_)
  · have h := hit_f h hc
    refine R_aload_n (i := 1) dX0_tellEnd_35 rfl rfl ?_
    refine R_get foX0_114 hL1 (cE_7 Ω k1 _) rfl dX0_tellEnd_36 ?_
    refine R_iconst (v := 0) dX0_tellEnd_39 rfl ?_
    refine R_callVv (ctX4_removeAt l Ω (6 * k1 + 0) 0 (WF.kid hW 11 hL1 rfl) _ _ (hit_mono (hit_bd h) (fun r5 σ6 h => ?_))) okX4_removeAt mw_841 (WF.kid hW 11 hL1 rfl) (cE_4 Ω (6 * k1 + 0) _) rfl rfl (Nat.le_of_ble_eq_true rfl) rfl rfl ⟨by decide, by decide⟩ ⟨Nat.zero_le _, Nat.zero_le _⟩ dX0_tellEnd_40
    refine R_aload_n (i := 1) dX0_tellEnd_43 rfl rfl ?_
    refine R_get foX0_130 hL1 (cE_7 Ω k1 _) rfl dX0_tellEnd_44 ?_
    refine R_iload_n (i := 3) dX0_tellEnd_47 rfl rfl ?_
    refine R_iconst (v := 0) dX0_tellEnd_48 rfl ?_
    obtain ⟨hb, h⟩ := hit_bnd h
    refine R_iast (WF.kid hW 1 hL1 rfl) (cE_46 Ω k1) hb dX0_tellEnd_49 ?_
    refine R_st h (fun σ7 h => ?_)
    refine R_iload_n (i := 2) dX0_tellEnd_50 rfl rfl ?_
    refine R_bipush (v := 8) dX0_tellEnd_51 rfl ?_
    refine R_icmp_eq (tgt := 63) dX0_tellEnd_53 (by decide) (fun hc => ?_) (fun hc => ?_)
    · have h := hit_t h hc
      refine R_drop (lv2 := [none, some (rf Ω 7 k1), none, some (.int r1)]) 2 rfl ?_
      exact rnX0_tellEnd_j63 hW k1 r1 hL1 σ7  h
    · have h := hit_f h hc
      refine R_aload_n (i := 1) dX0_tellEnd_56 rfl rfl ?_
      refine R_get foX0_78 hL1 (cE_7 Ω k1 _) rfl dX0_tellEnd_57 ?_
      refine R_iload_n (i := 2) dX0_tellEnd_60 rfl rfl ?_
      refine R_iload_n (i := 3) dX0_tellEnd_61 rfl rfl ?_
      obtain ⟨hb, h⟩ := hit_bnd h
      refine R_iast (WF.kid hW 8 hL1 rfl) (cE_53 Ω k1) hb dX0_tellEnd_62 ?_
      refine R_st h (fun σ10 h => ?_)
      refine R_drop (lv2 := [none, some (rf Ω 7 k1), none, some (.int r1)]) 2 rfl ?_
      exact rnX0_tellEnd_j63 hW k1 r1 hL1 σ10  h
  · have h := hit_t h hc
    refine R_bipush (v := (-3)) dX0_tellEnd_32 rfl ?_
    exact R_iret dX0_tellEnd_34 rfl h
set_option maxRecDepth 100000 in
set_option maxHeartbeats 4000000 in
theorem ctX0_tellEnd (l : Launch) (Ω : rO) (k1 : Nat) (x2 : Int32) (hL0 : oL Ω 0 0) (hL1 : oL Ω 7 k1) (σ : rS) (K : Int32 → rS → Prop) (h : hit (fX0_tellEnd k1 x2 σ) K) : Ct l Ω yX0_tellEnd cX0_tellEnd 4 (some .int) rmX0_tellEnd [rf Ω 0 0, rf Ω 7 k1, .int x2] σ K := by
  refine Ct.of (own := RX0) (lv := [some (rf Ω 0 0), some (rf Ω 7 k1), some (.int x2), none]) (by decide) rfl (Nat.le_of_ble_eq_true rfl) rfl (fun hW => ?_)
  unfold fX0_tellEnd at h
  refine R_iload_n (i := 2) dX0_tellEnd_0 rfl rfl ?_
  refine R_bipush (v := 8) dX0_tellEnd_1 rfl ?_
  refine R_icmp_eq (tgt := 15) dX0_tellEnd_3 (by decide) (fun hc => ?_) (fun hc => ?_)
  · have h := hit_t h hc
    refine R_drop (lv2 := [none, some (rf Ω 7 k1), some (.int x2), none]) 0 rfl ?_
    exact rnX0_tellEnd_j15 hW k1 x2 hL1 σ  h
  · have h := hit_f h hc
    refine R_iload_n (i := 2) dX0_tellEnd_6 rfl rfl ?_
    refine R_callSNi (ctX9_isRoot l Ω x2 _ _ (hit_mono (hit_bd h) (fun r11 σ12 h => ?_))) okX9_isRoot nw_619 rfl rfl (Nat.le_of_ble_eq_true rfl) rfl rfl ⟨by decide, by decide⟩ ⟨Nat.zero_le _, Nat.zero_le _⟩ dX0_tellEnd_7
    refine R_if_ne (tgt := 15) dX0_tellEnd_10 (by decide) (fun hc => ?_) (fun hc => ?_)
    · have h := hit_f h hc
      refine R_drop (lv2 := [none, some (rf Ω 7 k1), some (.int x2), none]) 0 rfl ?_
      exact rnX0_tellEnd_j15 hW k1 x2 hL1 σ12  h
    · have h := hit_t h hc
      refine R_iconst (v := (-1)) dX0_tellEnd_13 rfl ?_
      exact R_iret dX0_tellEnd_14 rfl h
set_option maxRecDepth 100000 in
set_option maxHeartbeats 4000000 in
theorem ctX0_askLost (l : Launch) (Ω : rO) (k1 : Nat) (hL0 : oL Ω 0 0) (hL1 : oL Ω 7 k1) (σ : rS) (K : Int32 → rS → Prop) (h : hit (fX0_askLost k1 σ) K) : Ct l Ω yX0_askLost cX0_askLost 3 (some .int) rmX0_askLost [rf Ω 0 0, rf Ω 7 k1] σ K := by
  refine Ct.of (own := RX0) (lv := [some (rf Ω 0 0), some (rf Ω 7 k1), none]) (by decide) rfl (Nat.le_of_ble_eq_true rfl) rfl (fun hW => ?_)
  unfold fX0_askLost at h
  refine R_aload_n (i := 1) dX0_askLost_0 rfl rfl ?_
  refine R_get foX0_133 hL1 (cE_7 Ω k1 _) rfl dX0_askLost_1 ?_
  refine R_get foX0_136 (WF.kid hW 12 hL1 rfl) (cE_4 Ω (6 * k1 + 1) _) rfl dX0_askLost_4 ?_
  refine R_if_ne (tgt := 13) dX0_askLost_7 (by decide) (fun hc => ?_) (fun hc => ?_)
  · have h := hit_f h hc
    refine R_aload_n (i := 1) dX0_askLost_13 rfl rfl ?_
    refine R_get foX0_133 hL1 (cE_7 Ω k1 _) rfl dX0_askLost_14 ?_
    refine R_iconst (v := 0) dX0_askLost_17 rfl ?_
    refine R_callVi (ctX4_get l Ω (6 * k1 + 1) 0 (WF.kid hW 12 hL1 rfl) _ _ (hit_mono (hit_bd h) (fun r1 σ2 h => ?_))) okX4_get mw_839 (WF.kid hW 12 hL1 rfl) (cE_4 Ω (6 * k1 + 1) _) rfl rfl (Nat.le_of_ble_eq_true rfl) rfl rfl ⟨by decide, by decide⟩ ⟨Nat.zero_le _, Nat.zero_le _⟩ dX0_askLost_18
    refine R_istore_n (lv2 := [some (rf Ω 0 0), some (rf Ω 7 k1), some (.int r1)]) dX0_askLost_21 rfl (by decide) rfl rfl ?_
    refine R_aload_n (i := 1) dX0_askLost_22 rfl rfl ?_
    refine R_get foX0_133 hL1 (cE_7 Ω k1 _) rfl dX0_askLost_23 ?_
    refine R_iconst (v := 0) dX0_askLost_26 rfl ?_
    refine R_callVv (ctX4_removeAt l Ω (6 * k1 + 1) 0 (WF.kid hW 12 hL1 rfl) _ _ (hit_mono (hit_bd h) (fun r3 σ4 h => ?_))) okX4_removeAt mw_841 (WF.kid hW 12 hL1 rfl) (cE_4 Ω (6 * k1 + 1) _) rfl rfl (Nat.le_of_ble_eq_true rfl) rfl rfl ⟨by decide, by decide⟩ ⟨Nat.zero_le _, Nat.zero_le _⟩ dX0_askLost_27
    refine R_aload_n (i := 1) dX0_askLost_30 rfl rfl ?_
    refine R_bipush (v := 7) dX0_askLost_31 rfl ?_
    refine R_iload_n (i := 2) dX0_askLost_33 rfl rfl ?_
    refine R_callVv (ctX7_note l Ω k1 7 r1 hL1 _ _ (hit_mono (hit_bd h) (fun r5 σ6 h => ?_))) okX7_note mw_787 hL1 (cE_7 Ω k1 _) rfl rfl (Nat.le_of_ble_eq_true rfl) rfl rfl ⟨by decide, by decide⟩ ⟨Nat.zero_le _, Nat.zero_le _⟩ dX0_askLost_34
    refine R_iload_n (i := 2) dX0_askLost_37 rfl rfl ?_
    exact R_iret dX0_askLost_38 rfl h
  · have h := hit_t h hc
    refine R_bipush (v := (-3)) dX0_askLost_10 rfl ?_
    exact R_iret dX0_askLost_12 rfl h
set_option maxRecDepth 100000 in
set_option maxHeartbeats 4000000 in
theorem ctX0_apply (l : Launch) (Ω : rO) (k1 : Nat) (x2 : Int32) (x3 : Int32) (x4 : Int32) (x5 : Int32) (x6 : Int32) (hL0 : oL Ω 0 0) (hL1 : oL Ω 7 k1) (σ : rS) (K : Int32 → rS → Prop) (h : hit (fX0_apply k1 x2 x3 x4 x5 x6 σ) K) : Ct l Ω yX0_apply cX0_apply 7 (some .int) rmX0_apply [rf Ω 0 0, rf Ω 7 k1, .int x2, .int x3, .int x4, .int x5, .int x6] σ K := by
  refine Ct.of (own := RX0) (lv := [some (rf Ω 0 0), some (rf Ω 7 k1), some (.int x2), some (.int x3), some (.int x4), some (.int x5), some (.int x6)]) (by decide) rfl (Nat.le_of_ble_eq_true rfl) rfl (fun hW => ?_)
  unfold fX0_apply at h
  refine R_iload_n (i := 2) dX0_apply_0 rfl rfl ?_
  by_cases hs0 : x2 = 0
  · have h := hit_t h hs0
    refine R_tableIn (tgt := 48) dX0_apply_1 (by rw [hs0]; decide) (by rw [hs0]; decide) (by rw [hs0]; rfl) (by decide) ?_
    refine R_aload_n (i := 0) dX0_apply_48 rfl rfl ?_
    refine R_aload_n (i := 1) dX0_apply_49 rfl rfl ?_
    refine R_iload_n (i := 3) dX0_apply_50 rfl rfl ?_
    refine R_iload (i := 4) dX0_apply_51 rfl ?_
    refine R_iload (i := 5) dX0_apply_53 rfl ?_
    refine R_iload (i := 6) dX0_apply_55 rfl ?_
    refine R_callVi (ctX0_makeObject l Ω k1 x3 x4 x5 x6 hL0 hL1 _ _ (hit_mono (hit_bd h) (fun r1 σ2 h => ?_))) okX0_makeObject mw_615 hL0 (cE_0 Ω 0 _) rfl rfl (Nat.le_of_ble_eq_true rfl) rfl rfl ⟨by decide, by decide⟩ ⟨Nat.zero_le _, Nat.zero_le _⟩ dX0_apply_57
    exact R_iret dX0_apply_60 rfl h
  · have h := hit_f h hs0
    by_cases hs1 : x2 = 1
    · have h := hit_t h hs1
      refine R_tableIn (tgt := 61) dX0_apply_1 (by rw [hs1]; decide) (by rw [hs1]; decide) (by rw [hs1]; rfl) (by decide) ?_
      refine R_aload_n (i := 0) dX0_apply_61 rfl rfl ?_
      refine R_aload_n (i := 1) dX0_apply_62 rfl rfl ?_
      refine R_iload_n (i := 3) dX0_apply_63 rfl rfl ?_
      refine R_iload (i := 4) dX0_apply_64 rfl ?_
      refine R_iload (i := 5) dX0_apply_66 rfl ?_
      refine R_callVi (ctX0_linkField l Ω k1 x3 x4 x5 hL0 hL1 _ _ (hit_mono (hit_bd h) (fun r3 σ4 h => ?_))) okX0_linkField mw_796 hL0 (cE_0 Ω 0 _) rfl rfl (Nat.le_of_ble_eq_true rfl) rfl rfl ⟨by decide, by decide⟩ ⟨Nat.zero_le _, Nat.zero_le _⟩ dX0_apply_68
      exact R_iret dX0_apply_71 rfl h
    · have h := hit_f h hs1
      by_cases hs2 : x2 = 2
      · have h := hit_t h hs2
        refine R_tableIn (tgt := 72) dX0_apply_1 (by rw [hs2]; decide) (by rw [hs2]; decide) (by rw [hs2]; rfl) (by decide) ?_
        refine R_aload_n (i := 0) dX0_apply_72 rfl rfl ?_
        refine R_aload_n (i := 1) dX0_apply_73 rfl rfl ?_
        refine R_iload_n (i := 3) dX0_apply_74 rfl rfl ?_
        refine R_iload (i := 4) dX0_apply_75 rfl ?_
        refine R_iload (i := 5) dX0_apply_77 rfl ?_
        refine R_callVi (ctX0_loadRoot l Ω k1 x3 x4 x5 hL0 hL1 _ _ (hit_mono (hit_bd h) (fun r5 σ6 h => ?_))) okX0_loadRoot mw_819 hL0 (cE_0 Ω 0 _) rfl rfl (Nat.le_of_ble_eq_true rfl) rfl rfl ⟨by decide, by decide⟩ ⟨Nat.zero_le _, Nat.zero_le _⟩ dX0_apply_79
        exact R_iret dX0_apply_82 rfl h
      · have h := hit_f h hs2
        by_cases hs3 : x2 = 3
        · have h := hit_t h hs3
          refine R_tableIn (tgt := 83) dX0_apply_1 (by rw [hs3]; decide) (by rw [hs3]; decide) (by rw [hs3]; rfl) (by decide) ?_
          refine R_aload_n (i := 0) dX0_apply_83 rfl rfl ?_
          refine R_aload_n (i := 1) dX0_apply_84 rfl rfl ?_
          refine R_iload_n (i := 3) dX0_apply_85 rfl rfl ?_
          refine R_callVi (ctX0_emptyRoot l Ω k1 x3 hL0 hL1 _ _ (hit_mono (hit_bd h) (fun r7 σ8 h => ?_))) okX0_emptyRoot mw_823 hL0 (cE_0 Ω 0 _) rfl rfl (Nat.le_of_ble_eq_true rfl) rfl rfl ⟨by decide, by decide⟩ ⟨Nat.zero_le _, Nat.zero_le _⟩ dX0_apply_86
          exact R_iret dX0_apply_89 rfl h
        · have h := hit_f h hs3
          by_cases hs4 : x2 = 4
          · have h := hit_t h hs4
            refine R_tableIn (tgt := 90) dX0_apply_1 (by rw [hs4]; decide) (by rw [hs4]; decide) (by rw [hs4]; rfl) (by decide) ?_
            refine R_aload_n (i := 0) dX0_apply_90 rfl rfl ?_
            refine R_aload_n (i := 1) dX0_apply_91 rfl rfl ?_
            refine R_callVi (ctX0_actMinor l Ω k1 hL0 hL1 _ _ (hit_mono (hit_bd h) (fun r9 σ10 h => ?_))) okX0_actMinor mw_827 hL0 (cE_0 Ω 0 _) rfl rfl (Nat.le_of_ble_eq_true rfl) rfl rfl ⟨by decide, by decide⟩ ⟨Nat.zero_le _, Nat.zero_le _⟩ dX0_apply_92
            exact R_iret dX0_apply_95 rfl h
          · have h := hit_f h hs4
            by_cases hs5 : x2 = 5
            · have h := hit_t h hs5
              refine R_tableIn (tgt := 96) dX0_apply_1 (by rw [hs5]; decide) (by rw [hs5]; decide) (by rw [hs5]; rfl) (by decide) ?_
              refine R_aload_n (i := 0) dX0_apply_96 rfl rfl ?_
              refine R_aload_n (i := 1) dX0_apply_97 rfl rfl ?_
              refine R_callVi (ctX0_actMajor l Ω k1 hL0 hL1 _ _ (hit_mono (hit_bd h) (fun r11 σ12 h => ?_))) okX0_actMajor mw_831 hL0 (cE_0 Ω 0 _) rfl rfl (Nat.le_of_ble_eq_true rfl) rfl rfl ⟨by decide, by decide⟩ ⟨Nat.zero_le _, Nat.zero_le _⟩ dX0_apply_98
              exact R_iret dX0_apply_101 rfl h
            · have h := hit_f h hs5
              by_cases hs6 : x2 = 6
              · have h := hit_t h hs6
                refine R_tableIn (tgt := 102) dX0_apply_1 (by rw [hs6]; decide) (by rw [hs6]; decide) (by rw [hs6]; rfl) (by decide) ?_
                refine R_aload_n (i := 0) dX0_apply_102 rfl rfl ?_
                refine R_aload_n (i := 1) dX0_apply_103 rfl rfl ?_
                refine R_iload_n (i := 3) dX0_apply_104 rfl rfl ?_
                refine R_callVi (ctX0_tellEnd l Ω k1 x3 hL0 hL1 _ _ (hit_mono (hit_bd h) (fun r13 σ14 h => ?_))) okX0_tellEnd mw_835 hL0 (cE_0 Ω 0 _) rfl rfl (Nat.le_of_ble_eq_true rfl) rfl rfl ⟨by decide, by decide⟩ ⟨Nat.zero_le _, Nat.zero_le _⟩ dX0_apply_105
                exact R_iret dX0_apply_108 rfl h
              · have h := hit_f h hs6
                by_cases hs7 : x2 = 7
                · have h := hit_t h hs7
                  refine R_tableIn (tgt := 109) dX0_apply_1 (by rw [hs7]; decide) (by rw [hs7]; decide) (by rw [hs7]; rfl) (by decide) ?_
                  refine R_aload_n (i := 0) dX0_apply_109 rfl rfl ?_
                  refine R_aload_n (i := 1) dX0_apply_110 rfl rfl ?_
                  refine R_callVi (ctX0_askLost l Ω k1 hL0 hL1 _ _ (hit_mono (hit_bd h) (fun r15 σ16 h => ?_))) okX0_askLost mw_842 hL0 (cE_0 Ω 0 _) rfl rfl (Nat.le_of_ble_eq_true rfl) rfl rfl ⟨by decide, by decide⟩ ⟨Nat.zero_le _, Nat.zero_le _⟩ dX0_apply_111
                  exact R_iret dX0_apply_114 rfl h
                · have h := hit_f h hs7
                  refine R_sw (tgt := 115) (lo := 0) (hi := 7) dX0_apply_1 (fun z1 z2 => ?_) (by decide) ?_
                  · have e : x2.toInt = 0 ∨ x2.toInt = 1 ∨ x2.toInt = 2 ∨ x2.toInt = 3 ∨ x2.toInt = 4 ∨ x2.toInt = 5 ∨ x2.toInt = 6 ∨ x2.toInt = 7 := by omega
                    rcases e with e | e | e | e | e | e | e | e
                    · exact absurd (Int32.toInt_inj.mp (e.trans (by decide : (0 : Int) = (0 : Int32).toInt))) hs0
                    · exact absurd (Int32.toInt_inj.mp (e.trans (by decide : (1 : Int) = (1 : Int32).toInt))) hs1
                    · exact absurd (Int32.toInt_inj.mp (e.trans (by decide : (2 : Int) = (2 : Int32).toInt))) hs2
                    · exact absurd (Int32.toInt_inj.mp (e.trans (by decide : (3 : Int) = (3 : Int32).toInt))) hs3
                    · exact absurd (Int32.toInt_inj.mp (e.trans (by decide : (4 : Int) = (4 : Int32).toInt))) hs4
                    · exact absurd (Int32.toInt_inj.mp (e.trans (by decide : (5 : Int) = (5 : Int32).toInt))) hs5
                    · exact absurd (Int32.toInt_inj.mp (e.trans (by decide : (6 : Int) = (6 : Int32).toInt))) hs6
                    · exact absurd (Int32.toInt_inj.mp (e.trans (by decide : (7 : Int) = (7 : Int32).toInt))) hs7
                  refine R_iconst (v := (-1)) dX0_apply_115 rfl ?_
                  exact R_iret dX0_apply_116 rfl h
set_option maxRecDepth 100000 in
set_option maxHeartbeats 4000000 in
theorem ctX2_next (l : Launch) (Ω : rO) (x1 : Int32) (hL0 : oL Ω 2 0) (σ : rS) (K : Int32 → rS → Prop) (h : hit (fX2_next x1 σ) K) : Ct l Ω yX2_next cX2_next 2 (some .int) rmX2_next [rf Ω 2 0, .int x1] σ K := by
  refine Ct.of (own := RX2) (lv := [some (rf Ω 2 0), some (.int x1)]) (by decide) rfl (Nat.le_of_ble_eq_true rfl) rfl (fun hW => ?_)
  unfold fX2_next at h
  refine R_aload_n (i := 0) dX2_next_0 rfl rfl ?_
  refine R_aload_n (i := 0) dX2_next_1 rfl rfl ?_
  refine R_get foX2_9 hL0 (cE_2 Ω 0 _) rfl dX2_next_2 ?_
  refine R_ldc2 (v := 6364136223846793005) mw_921 dX2_next_5 ?_
  refine R_lmul dX2_next_8 ?_
  refine R_ldc2 (v := 1442695040888963407) mw_922 dX2_next_9 ?_
  refine R_ladd dX2_next_12 ?_
  refine R_putJ poX2_9 hL0 (cE_2 Ω 0 _) (cL_2 Ω 0 _ _) (Nat.le_of_ble_eq_true rfl) dX2_next_13 ?_
  refine R_st h (fun σ1 h => ?_)
  refine R_iload_n (i := 1) dX2_next_16 rfl rfl ?_
  refine R_if_gt (tgt := 24) dX2_next_17 (by decide) (fun hc => ?_) (fun hc => ?_)
  · have h := hit_t h hc
    refine R_aload_n (i := 0) dX2_next_24 rfl rfl ?_
    refine R_get foX2_9 hL0 (cE_2 Ω 0 _) rfl dX2_next_25 ?_
    refine R_bipush (v := 33) dX2_next_28 rfl ?_
    refine R_lushr dX2_next_30 ?_
    refine R_iload_n (i := 1) dX2_next_31 rfl rfl ?_
    refine R_i2l dX2_next_32 ?_
    obtain ⟨hz, h⟩ := hit_blz h
    refine R_lrem dX2_next_33 hz ?_
    refine R_l2i dX2_next_34 ?_
    exact R_iret dX2_next_35 rfl h
  · have h := hit_f h hc
    refine R_iconst (v := 0) dX2_next_20 rfl ?_
    refine R_goto (tgt := 35) dX2_next_21 (by decide) ?_
    exact R_iret dX2_next_35 rfl h
set_option maxRecDepth 100000 in
set_option maxHeartbeats 4000000 in
theorem ctX2_tellAct (l : Launch) (Ω : rO) (x1 : Int32) (x2 : Int32) (x3 : Int32) (x4 : Int32) (x5 : Int32) (hL0 : oL Ω 2 0) (σ : rS) (K : Int32 → rS → Prop) (h : hit (fX2_tellAct x1 x2 x3 x4 x5 σ) K) : Ct l Ω yX2_tellAct cX2_tellAct 6 none rmX2_tellAct [rf Ω 2 0, .int x1, .int x2, .int x3, .int x4, .int x5] σ K := by
  refine Ct.of (own := RX2) (lv := [some (rf Ω 2 0), some (.int x1), some (.int x2), some (.int x3), some (.int x4), some (.int x5)]) (by decide) rfl (Nat.le_of_ble_eq_true rfl) rfl (fun hW => ?_)
  unfold fX2_tellAct at h
  refine R_aload_n (i := 0) dX2_tellAct_0 rfl rfl ?_
  refine R_iload_n (i := 1) dX2_tellAct_1 rfl rfl ?_
  refine R_put poX2_26 hL0 (cE_2 Ω 0 _) (cP_2_1 Ω 0 _ _) (Nat.le_of_ble_eq_true rfl) dX2_tellAct_2 ?_
  refine R_st h (fun σ1 h => ?_)
  refine R_aload_n (i := 0) dX2_tellAct_5 rfl rfl ?_
  refine R_iload_n (i := 2) dX2_tellAct_6 rfl rfl ?_
  refine R_put poX2_30 hL0 (cE_2 Ω 0 _) (cP_2_2 Ω 0 _ _) (Nat.le_of_ble_eq_true rfl) dX2_tellAct_7 ?_
  refine R_st h (fun σ2 h => ?_)
  refine R_aload_n (i := 0) dX2_tellAct_10 rfl rfl ?_
  refine R_iload_n (i := 3) dX2_tellAct_11 rfl rfl ?_
  refine R_put poX2_33 hL0 (cE_2 Ω 0 _) (cP_2_3 Ω 0 _ _) (Nat.le_of_ble_eq_true rfl) dX2_tellAct_12 ?_
  refine R_st h (fun σ3 h => ?_)
  refine R_aload_n (i := 0) dX2_tellAct_15 rfl rfl ?_
  refine R_iload (i := 4) dX2_tellAct_16 rfl ?_
  refine R_put poX2_36 hL0 (cE_2 Ω 0 _) (cP_2_4 Ω 0 _ _) (Nat.le_of_ble_eq_true rfl) dX2_tellAct_18 ?_
  refine R_st h (fun σ4 h => ?_)
  refine R_aload_n (i := 0) dX2_tellAct_21 rfl rfl ?_
  refine R_iload (i := 5) dX2_tellAct_22 rfl ?_
  refine R_put poX2_39 hL0 (cE_2 Ω 0 _) (cP_2_5 Ω 0 _ _) (Nat.le_of_ble_eq_true rfl) dX2_tellAct_24 ?_
  refine R_st h (fun σ5 h => ?_)
  exact R_vret dX2_tellAct_27 rfl h
set_option maxRecDepth 100000 in
set_option maxHeartbeats 4000000 in
theorem ctX2_drawRareAct (l : Launch) (Ω : rO) (hL0 : oL Ω 2 0) (σ : rS) (K : Int32 → rS → Prop) (h : hit (fX2_drawRareAct  σ) K) : Ct l Ω yX2_drawRareAct cX2_drawRareAct 2 none rmX2_drawRareAct [rf Ω 2 0] σ K := by
  refine Ct.of (own := RX2) (lv := [some (rf Ω 2 0), none]) (by decide) rfl (Nat.le_of_ble_eq_true rfl) rfl (fun hW => ?_)
  unfold fX2_drawRareAct at h
  refine R_aload_n (i := 0) dX2_drawRareAct_0 rfl rfl ?_
  refine R_iconst (v := 3) dX2_drawRareAct_1 rfl ?_
  refine R_callVi (ctX2_next l Ω 3 hL0 _ _ (hit_mono (hit_bd h) (fun r1 σ2 h => ?_))) okX2_next mw_917 hL0 (cE_2 Ω 0 _) rfl rfl (Nat.le_of_ble_eq_true rfl) rfl rfl ⟨by decide, by decide⟩ ⟨Nat.zero_le _, Nat.zero_le _⟩ dX2_drawRareAct_2
  refine R_istore_n (lv2 := [some (rf Ω 2 0), some (.int r1)]) dX2_drawRareAct_5 rfl (by decide) rfl rfl ?_
  refine R_iload_n (i := 1) dX2_drawRareAct_6 rfl rfl ?_
  refine R_if_ne (tgt := 22) dX2_drawRareAct_7 (by decide) (fun hc => ?_) (fun hc => ?_)
  · have h := hit_f h hc
    refine R_iload_n (i := 1) dX2_drawRareAct_22 rfl rfl ?_
    refine R_iconst (v := 1) dX2_drawRareAct_23 rfl ?_
    refine R_icmp_ne (tgt := 39) dX2_drawRareAct_24 (by decide) (fun hc => ?_) (fun hc => ?_)
    · have h := hit_f h hc
      refine R_aload_n (i := 0) dX2_drawRareAct_39 rfl rfl ?_
      refine R_bipush (v := 6) dX2_drawRareAct_40 rfl ?_
      refine R_aload_n (i := 0) dX2_drawRareAct_42 rfl rfl ?_
      refine R_bipush (v := 9) dX2_drawRareAct_43 rfl ?_
      refine R_callVi (ctX2_next l Ω 9 hL0 _ _ (hit_mono (hit_bd h) (fun r3 σ4 h => ?_))) okX2_next mw_917 hL0 (cE_2 Ω 0 _) rfl rfl (Nat.le_of_ble_eq_true rfl) rfl rfl ⟨by decide, by decide⟩ ⟨Nat.zero_le _, Nat.zero_le _⟩ dX2_drawRareAct_45
      refine R_iconst (v := (-1)) dX2_drawRareAct_48 rfl ?_
      refine R_iconst (v := (-1)) dX2_drawRareAct_49 rfl ?_
      refine R_iconst (v := (-1)) dX2_drawRareAct_50 rfl ?_
      refine R_callVv (ctX2_tellAct l Ω 6 r3 (-1) (-1) (-1) hL0 _ _ (hit_mono (hit_bd h) (fun r5 σ6 h => ?_))) okX2_tellAct mw_923 hL0 (cE_2 Ω 0 _) rfl rfl (Nat.le_of_ble_eq_true rfl) rfl rfl ⟨by decide, by decide⟩ ⟨Nat.zero_le _, Nat.zero_le _⟩ dX2_drawRareAct_51
      exact R_vret dX2_drawRareAct_54 rfl h
    · have h := hit_t h hc
      refine R_aload_n (i := 0) dX2_drawRareAct_27 rfl rfl ?_
      refine R_iconst (v := 5) dX2_drawRareAct_28 rfl ?_
      refine R_iconst (v := (-1)) dX2_drawRareAct_29 rfl ?_
      refine R_iconst (v := (-1)) dX2_drawRareAct_30 rfl ?_
      refine R_iconst (v := (-1)) dX2_drawRareAct_31 rfl ?_
      refine R_iconst (v := (-1)) dX2_drawRareAct_32 rfl ?_
      refine R_callVv (ctX2_tellAct l Ω 5 (-1) (-1) (-1) (-1) hL0 _ _ (hit_mono (hit_bd h) (fun r7 σ8 h => ?_))) okX2_tellAct mw_923 hL0 (cE_2 Ω 0 _) rfl rfl (Nat.le_of_ble_eq_true rfl) rfl rfl ⟨by decide, by decide⟩ ⟨Nat.zero_le _, Nat.zero_le _⟩ dX2_drawRareAct_33
      refine R_goto (tgt := 54) dX2_drawRareAct_36 (by decide) ?_
      exact R_vret dX2_drawRareAct_54 rfl h
  · have h := hit_t h hc
    refine R_aload_n (i := 0) dX2_drawRareAct_10 rfl rfl ?_
    refine R_iconst (v := 4) dX2_drawRareAct_11 rfl ?_
    refine R_iconst (v := (-1)) dX2_drawRareAct_12 rfl ?_
    refine R_iconst (v := (-1)) dX2_drawRareAct_13 rfl ?_
    refine R_iconst (v := (-1)) dX2_drawRareAct_14 rfl ?_
    refine R_iconst (v := (-1)) dX2_drawRareAct_15 rfl ?_
    refine R_callVv (ctX2_tellAct l Ω 4 (-1) (-1) (-1) (-1) hL0 _ _ (hit_mono (hit_bd h) (fun r9 σ10 h => ?_))) okX2_tellAct mw_923 hL0 (cE_2 Ω 0 _) rfl rfl (Nat.le_of_ble_eq_true rfl) rfl rfl ⟨by decide, by decide⟩ ⟨Nat.zero_le _, Nat.zero_le _⟩ dX2_drawRareAct_16
    refine R_goto (tgt := 54) dX2_drawRareAct_19 (by decide) ?_
    exact R_vret dX2_drawRareAct_54 rfl h
set_option maxRecDepth 100000 in
set_option maxHeartbeats 4000000 in
theorem ctX2_drawAct (l : Launch) (Ω : rO) (hL0 : oL Ω 2 0) (σ : rS) (K : Int32 → rS → Prop) (h : hit (fX2_drawAct  σ) K) : Ct l Ω yX2_drawAct cX2_drawAct 2 none rmX2_drawAct [rf Ω 2 0] σ K := by
  refine Ct.of (own := RX2) (lv := [some (rf Ω 2 0), none]) (by decide) rfl (Nat.le_of_ble_eq_true rfl) rfl (fun hW => ?_)
  unfold fX2_drawAct at h
  refine R_aload_n (i := 0) dX2_drawAct_0 rfl rfl ?_
  refine R_bipush (v := 10) dX2_drawAct_1 rfl ?_
  refine R_callVi (ctX2_next l Ω 10 hL0 _ _ (hit_mono (hit_bd h) (fun r1 σ2 h => ?_))) okX2_next mw_917 hL0 (cE_2 Ω 0 _) rfl rfl (Nat.le_of_ble_eq_true rfl) rfl rfl ⟨by decide, by decide⟩ ⟨Nat.zero_le _, Nat.zero_le _⟩ dX2_drawAct_3
  refine R_istore_n (lv2 := [some (rf Ω 2 0), some (.int r1)]) dX2_drawAct_6 rfl (by decide) rfl rfl ?_
  refine R_iload_n (i := 1) dX2_drawAct_7 rfl rfl ?_
  refine R_iconst (v := 3) dX2_drawAct_8 rfl ?_
  refine R_icmp_gt (tgt := 45) dX2_drawAct_9 (by decide) (fun hc => ?_) (fun hc => ?_)
  · have h := hit_t h hc
    refine R_iload_n (i := 1) dX2_drawAct_45 rfl rfl ?_
    refine R_bipush (v := 6) dX2_drawAct_46 rfl ?_
    refine R_icmp_gt (tgt := 77) dX2_drawAct_48 (by decide) (fun hc => ?_) (fun hc => ?_)
    · have h := hit_t h hc
      refine R_iload_n (i := 1) dX2_drawAct_77 rfl rfl ?_
      refine R_bipush (v := 7) dX2_drawAct_78 rfl ?_
      refine R_icmp_ne (tgt := 109) dX2_drawAct_80 (by decide) (fun hc => ?_) (fun hc => ?_)
      · have h := hit_f h hc
        refine R_iload_n (i := 1) dX2_drawAct_109 rfl rfl ?_
        refine R_bipush (v := 8) dX2_drawAct_110 rfl ?_
        refine R_icmp_ne (tgt := 132) dX2_drawAct_112 (by decide) (fun hc => ?_) (fun hc => ?_)
        · have h := hit_f h hc
          refine R_aload_n (i := 0) dX2_drawAct_132 rfl rfl ?_
          refine R_callVv (ctX2_drawRareAct l Ω hL0 _ _ (hit_mono (hit_bd h) (fun r3 σ4 h => ?_))) okX2_drawRareAct mw_927 hL0 (cE_2 Ω 0 _) rfl rfl (Nat.le_of_ble_eq_true rfl) rfl rfl ⟨by decide, by decide⟩ ⟨Nat.zero_le _, Nat.zero_le _⟩ dX2_drawAct_133
          exact R_vret dX2_drawAct_136 rfl h
        · have h := hit_t h hc
          refine R_aload_n (i := 0) dX2_drawAct_115 rfl rfl ?_
          refine R_iconst (v := 3) dX2_drawAct_116 rfl ?_
          refine R_aload_n (i := 0) dX2_drawAct_117 rfl rfl ?_
          refine R_bipush (v := 8) dX2_drawAct_118 rfl ?_
          refine R_callVi (ctX2_next l Ω 8 hL0 _ _ (hit_mono (hit_bd h) (fun r5 σ6 h => ?_))) okX2_next mw_917 hL0 (cE_2 Ω 0 _) rfl rfl (Nat.le_of_ble_eq_true rfl) rfl rfl ⟨by decide, by decide⟩ ⟨Nat.zero_le _, Nat.zero_le _⟩ dX2_drawAct_120
          refine R_iconst (v := (-1)) dX2_drawAct_123 rfl ?_
          refine R_iconst (v := (-1)) dX2_drawAct_124 rfl ?_
          refine R_iconst (v := (-1)) dX2_drawAct_125 rfl ?_
          refine R_callVv (ctX2_tellAct l Ω 3 r5 (-1) (-1) (-1) hL0 _ _ (hit_mono (hit_bd h) (fun r7 σ8 h => ?_))) okX2_tellAct mw_923 hL0 (cE_2 Ω 0 _) rfl rfl (Nat.le_of_ble_eq_true rfl) rfl rfl ⟨by decide, by decide⟩ ⟨Nat.zero_le _, Nat.zero_le _⟩ dX2_drawAct_126
          refine R_goto (tgt := 136) dX2_drawAct_129 (by decide) ?_
          exact R_vret dX2_drawAct_136 rfl h
      · have h := hit_t h hc
        refine R_aload_n (i := 0) dX2_drawAct_83 rfl rfl ?_
        refine R_iconst (v := 2) dX2_drawAct_84 rfl ?_
        refine R_aload_n (i := 0) dX2_drawAct_85 rfl rfl ?_
        refine R_bipush (v := 8) dX2_drawAct_86 rfl ?_
        refine R_callVi (ctX2_next l Ω 8 hL0 _ _ (hit_mono (hit_bd h) (fun r9 σ10 h => ?_))) okX2_next mw_917 hL0 (cE_2 Ω 0 _) rfl rfl (Nat.le_of_ble_eq_true rfl) rfl rfl ⟨by decide, by decide⟩ ⟨Nat.zero_le _, Nat.zero_le _⟩ dX2_drawAct_88
        refine R_aload_n (i := 0) dX2_drawAct_91 rfl rfl ?_
        refine R_bipush (v := 8) dX2_drawAct_92 rfl ?_
        refine R_callVi (ctX2_next l Ω 8 hL0 _ _ (hit_mono (hit_bd h) (fun r11 σ12 h => ?_))) okX2_next mw_917 hL0 (cE_2 Ω 0 _) rfl rfl (Nat.le_of_ble_eq_true rfl) rfl rfl ⟨by decide, by decide⟩ ⟨Nat.zero_le _, Nat.zero_le _⟩ dX2_drawAct_94
        refine R_aload_n (i := 0) dX2_drawAct_97 rfl rfl ?_
        refine R_iconst (v := 4) dX2_drawAct_98 rfl ?_
        refine R_callVi (ctX2_next l Ω 4 hL0 _ _ (hit_mono (hit_bd h) (fun r13 σ14 h => ?_))) okX2_next mw_917 hL0 (cE_2 Ω 0 _) rfl rfl (Nat.le_of_ble_eq_true rfl) rfl rfl ⟨by decide, by decide⟩ ⟨Nat.zero_le _, Nat.zero_le _⟩ dX2_drawAct_99
        refine R_iconst (v := (-1)) dX2_drawAct_102 rfl ?_
        refine R_callVv (ctX2_tellAct l Ω 2 r9 r11 r13 (-1) hL0 _ _ (hit_mono (hit_bd h) (fun r15 σ16 h => ?_))) okX2_tellAct mw_923 hL0 (cE_2 Ω 0 _) rfl rfl (Nat.le_of_ble_eq_true rfl) rfl rfl ⟨by decide, by decide⟩ ⟨Nat.zero_le _, Nat.zero_le _⟩ dX2_drawAct_103
        refine R_goto (tgt := 136) dX2_drawAct_106 (by decide) ?_
        exact R_vret dX2_drawAct_136 rfl h
    · have h := hit_f h hc
      refine R_aload_n (i := 0) dX2_drawAct_51 rfl rfl ?_
      refine R_iconst (v := 1) dX2_drawAct_52 rfl ?_
      refine R_aload_n (i := 0) dX2_drawAct_53 rfl rfl ?_
      refine R_bipush (v := 8) dX2_drawAct_54 rfl ?_
      refine R_callVi (ctX2_next l Ω 8 hL0 _ _ (hit_mono (hit_bd h) (fun r17 σ18 h => ?_))) okX2_next mw_917 hL0 (cE_2 Ω 0 _) rfl rfl (Nat.le_of_ble_eq_true rfl) rfl rfl ⟨by decide, by decide⟩ ⟨Nat.zero_le _, Nat.zero_le _⟩ dX2_drawAct_56
      refine R_aload_n (i := 0) dX2_drawAct_59 rfl rfl ?_
      refine R_iconst (v := 4) dX2_drawAct_60 rfl ?_
      refine R_callVi (ctX2_next l Ω 4 hL0 _ _ (hit_mono (hit_bd h) (fun r19 σ20 h => ?_))) okX2_next mw_917 hL0 (cE_2 Ω 0 _) rfl rfl (Nat.le_of_ble_eq_true rfl) rfl rfl ⟨by decide, by decide⟩ ⟨Nat.zero_le _, Nat.zero_le _⟩ dX2_drawAct_61
      refine R_aload_n (i := 0) dX2_drawAct_64 rfl rfl ?_
      refine R_bipush (v := 9) dX2_drawAct_65 rfl ?_
      refine R_callVi (ctX2_next l Ω 9 hL0 _ _ (hit_mono (hit_bd h) (fun r21 σ22 h => ?_))) okX2_next mw_917 hL0 (cE_2 Ω 0 _) rfl rfl (Nat.le_of_ble_eq_true rfl) rfl rfl ⟨by decide, by decide⟩ ⟨Nat.zero_le _, Nat.zero_le _⟩ dX2_drawAct_67
      refine R_iconst (v := (-1)) dX2_drawAct_70 rfl ?_
      refine R_callVv (ctX2_tellAct l Ω 1 r17 r19 r21 (-1) hL0 _ _ (hit_mono (hit_bd h) (fun r23 σ24 h => ?_))) okX2_tellAct mw_923 hL0 (cE_2 Ω 0 _) rfl rfl (Nat.le_of_ble_eq_true rfl) rfl rfl ⟨by decide, by decide⟩ ⟨Nat.zero_le _, Nat.zero_le _⟩ dX2_drawAct_71
      refine R_goto (tgt := 136) dX2_drawAct_74 (by decide) ?_
      exact R_vret dX2_drawAct_136 rfl h
  · have h := hit_f h hc
    refine R_aload_n (i := 0) dX2_drawAct_12 rfl rfl ?_
    refine R_iconst (v := 0) dX2_drawAct_13 rfl ?_
    refine R_aload_n (i := 0) dX2_drawAct_14 rfl rfl ?_
    refine R_bipush (v := 8) dX2_drawAct_15 rfl ?_
    refine R_callVi (ctX2_next l Ω 8 hL0 _ _ (hit_mono (hit_bd h) (fun r25 σ26 h => ?_))) okX2_next mw_917 hL0 (cE_2 Ω 0 _) rfl rfl (Nat.le_of_ble_eq_true rfl) rfl rfl ⟨by decide, by decide⟩ ⟨Nat.zero_le _, Nat.zero_le _⟩ dX2_drawAct_17
    refine R_aload_n (i := 0) dX2_drawAct_20 rfl rfl ?_
    refine R_iconst (v := 3) dX2_drawAct_21 rfl ?_
    refine R_callVi (ctX2_next l Ω 3 hL0 _ _ (hit_mono (hit_bd h) (fun r27 σ28 h => ?_))) okX2_next mw_917 hL0 (cE_2 Ω 0 _) rfl rfl (Nat.le_of_ble_eq_true rfl) rfl rfl ⟨by decide, by decide⟩ ⟨Nat.zero_le _, Nat.zero_le _⟩ dX2_drawAct_22
    refine R_aload_n (i := 0) dX2_drawAct_25 rfl rfl ?_
    refine R_iconst (v := 4) dX2_drawAct_26 rfl ?_
    refine R_callVi (ctX2_next l Ω 4 hL0 _ _ (hit_mono (hit_bd h) (fun r29 σ30 h => ?_))) okX2_next mw_917 hL0 (cE_2 Ω 0 _) rfl rfl (Nat.le_of_ble_eq_true rfl) rfl rfl ⟨by decide, by decide⟩ ⟨Nat.zero_le _, Nat.zero_le _⟩ dX2_drawAct_27
    refine R_iconst (v := 1) dX2_drawAct_30 rfl ?_
    refine R_iadd dX2_drawAct_31 ?_
    refine R_aload_n (i := 0) dX2_drawAct_32 rfl rfl ?_
    refine R_sipush (v := 1000) dX2_drawAct_33 rfl ?_
    refine R_callVi (ctX2_next l Ω 1000 hL0 _ _ (hit_mono (hit_bd h) (fun r31 σ32 h => ?_))) okX2_next mw_917 hL0 (cE_2 Ω 0 _) rfl rfl (Nat.le_of_ble_eq_true rfl) rfl rfl ⟨by decide, by decide⟩ ⟨Nat.zero_le _, Nat.zero_le _⟩ dX2_drawAct_36
    refine R_callVv (ctX2_tellAct l Ω 0 r25 r27 (r29 + 1) r31 hL0 _ _ (hit_mono (hit_bd h) (fun r33 σ34 h => ?_))) okX2_tellAct mw_923 hL0 (cE_2 Ω 0 _) rfl rfl (Nat.le_of_ble_eq_true rfl) rfl rfl ⟨by decide, by decide⟩ ⟨Nat.zero_le _, Nat.zero_le _⟩ dX2_drawAct_39
    refine R_goto (tgt := 136) dX2_drawAct_42 (by decide) ?_
    exact R_vret dX2_drawAct_136 rfl h
set_option maxRecDepth 100000 in
set_option maxHeartbeats 4000000 in
theorem ctX4_holds (l : Launch) (Ω : rO) (k0 : Nat) (x1 : Int32) (hL0 : oL Ω 4 k0) (σ : rS) (K : Int32 → rS → Prop) (h : hit (fX4_holds k0 x1 σ) K) : Ct l Ω yX4_holds cX4_holds 2 (some .boolean) rmX4_holds [rf Ω 4 k0, .int x1] σ K := by
  refine Ct.of (own := RX4) (lv := [some (rf Ω 4 k0), some (.int x1)]) (by decide) rfl (Nat.le_of_ble_eq_true rfl) rfl (fun hW => ?_)
  unfold fX4_holds at h
  refine R_aload_n (i := 0) dX4_holds_0 rfl rfl ?_
  refine R_iload_n (i := 1) dX4_holds_1 rfl rfl ?_
  refine R_callVi (ctX4_find l Ω k0 x1 hL0 _ _ (hit_mono (hit_bd h) (fun r1 σ2 h => ?_))) okX4_find mw_1168 hL0 (cE_4 Ω k0 _) rfl rfl (Nat.le_of_ble_eq_true rfl) rfl rfl ⟨by decide, by decide⟩ ⟨Nat.zero_le _, Nat.zero_le _⟩ dX4_holds_2
  refine R_iconst (v := (-1)) dX4_holds_5 rfl ?_
  refine R_icmp_eq (tgt := 13) dX4_holds_6 (by decide) (fun hc => ?_) (fun hc => ?_)
  · have h := hit_t h hc
    refine R_iconst (v := 0) dX4_holds_13 rfl ?_
    exact R_zret dX4_holds_14 rfl (Or.inl rfl) h
  · have h := hit_f h hc
    refine R_iconst (v := 1) dX4_holds_9 rfl ?_
    refine R_goto (tgt := 14) dX4_holds_10 (by decide) ?_
    exact R_zret dX4_holds_14 rfl (Or.inr rfl) h
set_option maxRecDepth 100000 in
set_option maxHeartbeats 4000000 in
theorem ctX5_keepPrepared (l : Launch) (Ω : rO) (hL0 : oL Ω 5 0) (σ : rS) (K : Int32 → rS → Prop) (h : hit (fX5_keepPrepared  σ) K) : Ct l Ω yX5_keepPrepared cX5_keepPrepared 1 none rmX5_keepPrepared [rf Ω 5 0] σ K := by
  refine Ct.of (own := RX5) (lv := [some (rf Ω 5 0)]) (by decide) rfl (Nat.le_of_ble_eq_true rfl) rfl (fun hW => ?_)
  unfold fX5_keepPrepared at h
  refine R_aload_n (i := 0) dX5_keepPrepared_0 rfl rfl ?_
  refine R_aload_n (i := 0) dX5_keepPrepared_1 rfl rfl ?_
  refine R_get foX5_17 hL0 (cE_5 Ω 0 _) rfl dX5_keepPrepared_2 ?_
  refine R_iconst (v := 1) dX5_keepPrepared_5 rfl ?_
  refine R_iadd dX5_keepPrepared_6 ?_
  refine R_aload_n (i := 0) dX5_keepPrepared_7 rfl rfl ?_
  refine R_get foX5_11 hL0 (cE_5 Ω 0 _) rfl dX5_keepPrepared_8 ?_
  refine R_alen (v := 41) (WF.kid hW 0 hL0 rfl) (cE_29 Ω 0 _) (t0 := 4) rfl rfl dX5_keepPrepared_11 ?_
  refine R_irem dX5_keepPrepared_12 (by decide) ?_
  refine R_put poX5_17 hL0 (cE_5 Ω 0 _) (cP_5_1 Ω 0 _ _) (Nat.le_of_ble_eq_true rfl) dX5_keepPrepared_13 ?_
  refine R_st h (fun σ1 h => ?_)
  refine R_aload_n (i := 0) dX5_keepPrepared_16 rfl rfl ?_
  refine R_aload_n (i := 0) dX5_keepPrepared_17 rfl rfl ?_
  refine R_get foX5_26 hL0 (cE_5 Ω 0 _) rfl dX5_keepPrepared_18 ?_
  refine R_iconst (v := 1) dX5_keepPrepared_21 rfl ?_
  refine R_iadd dX5_keepPrepared_22 ?_
  refine R_bipush (v := 40) dX5_keepPrepared_23 rfl ?_
  refine R_mmin mw_850 mw_442 mw_6 mw_443 (by decide) (Nat.le_of_ble_eq_true rfl) ⟨Nat.zero_le _, Nat.zero_le _⟩ dX5_keepPrepared_25 ?_
  refine R_put poX5_26 hL0 (cE_5 Ω 0 _) (cP_5_2 Ω 0 _ _) (Nat.le_of_ble_eq_true rfl) dX5_keepPrepared_28 ?_
  refine R_st h (fun σ2 h => ?_)
  exact R_vret dX5_keepPrepared_31 rfl h
set_option maxRecDepth 100000 in
set_option maxHeartbeats 4000000 in
theorem ctX5_takeBack (l : Launch) (Ω : rO) (k1 : Nat) (hL0 : oL Ω 5 0) (hL1 : oL Ω 7 k1) (σ : rS) (hR : RLv Ω σ) (K : Int32 → rS → Prop) (h : hit (fX5_takeBack k1 σ) K) : Ct l Ω yX5_takeBack cX5_takeBack 3 (some .boolean) rmX5_takeBack [rf Ω 5 0, rf Ω 7 k1] σ K := by
  refine Ct.of (own := RX5) (lv := [some (rf Ω 5 0), some (rf Ω 7 k1), none]) (by decide) rfl (Nat.le_of_ble_eq_true rfl) rfl (fun hW => ?_)
  unfold fX5_takeBack at h
  refine R_aload_n (i := 0) dX5_takeBack_0 rfl rfl ?_
  refine R_get foX5_17 hL0 (cE_5 Ω 0 _) rfl dX5_takeBack_1 ?_
  refine R_aload_n (i := 0) dX5_takeBack_4 rfl rfl ?_
  refine R_get foX5_11 hL0 (cE_5 Ω 0 _) rfl dX5_takeBack_5 ?_
  refine R_alen (v := 41) (WF.kid hW 0 hL0 rfl) (cE_29 Ω 0 _) (t0 := 4) rfl rfl dX5_takeBack_8 ?_
  refine R_iadd dX5_takeBack_9 ?_
  refine R_iconst (v := 1) dX5_takeBack_10 rfl ?_
  refine R_isub dX5_takeBack_11 ?_
  refine R_aload_n (i := 0) dX5_takeBack_12 rfl rfl ?_
  refine R_get foX5_11 hL0 (cE_5 Ω 0 _) rfl dX5_takeBack_13 ?_
  refine R_alen (v := 41) (WF.kid hW 0 hL0 rfl) (cE_29 Ω 0 _) (t0 := 4) rfl rfl dX5_takeBack_16 ?_
  refine R_irem dX5_takeBack_17 (by decide) ?_
  refine R_topi h (fun y1 h => ?_)
  refine R_istore_n (lv2 := [some (rf Ω 5 0), some (rf Ω 7 k1), some (.int y1)]) dX5_takeBack_18 rfl (by decide) rfl rfl ?_
  refine R_aload_n (i := 0) dX5_takeBack_19 rfl rfl ?_
  refine R_get foX5_26 hL0 (cE_5 Ω 0 _) rfl dX5_takeBack_20 ?_
  refine R_if_eq (tgt := 35) dX5_takeBack_23 (by decide) (fun hc => ?_) (fun hc => ?_)
  · have h := hit_t h hc
    refine R_iconst (v := 0) dX5_takeBack_35 rfl ?_
    exact R_zret dX5_takeBack_36 rfl (Or.inl rfl) h
  · have h := hit_f h hc
    refine R_aload_n (i := 0) dX5_takeBack_26 rfl rfl ?_
    refine R_get foX5_11 hL0 (cE_5 Ω 0 _) rfl dX5_takeBack_27 ?_
    refine R_iload_n (i := 2) dX5_takeBack_30 rfl rfl ?_
    obtain ⟨hb2, h⟩ := hit_bnd h
    by_cases hr3 : σ 29 0 (ix y1) = 0
    · have h := hit_t h hr3
      refine R_ringN (WF.kid hW 0 hL0 rfl) hb2 hr3 dX5_takeBack_31 ?_
      refine R_ifnonnullN dX5_takeBack_32 ?_
      refine R_iconst (v := 0) dX5_takeBack_35 rfl ?_
      exact R_zret dX5_takeBack_36 rfl (Or.inl rfl) h
    · have h := hit_f h hr3
      refine R_ringS (WF.kid hW 0 hL0 rfl) hb2 hr3 dX5_takeBack_31 ?_
      refine R_ifnonnullS (tgt := 37) dX5_takeBack_32 (by decide) ?_
      refine R_aload_n (i := 1) dX5_takeBack_37 rfl rfl ?_
      refine R_aload_n (i := 0) dX5_takeBack_38 rfl rfl ?_
      refine R_get foX5_11 hL0 (cE_5 Ω 0 _) rfl dX5_takeBack_39 ?_
      refine R_iload_n (i := 2) dX5_takeBack_42 rfl rfl ?_
      obtain ⟨hb4, h⟩ := hit_bnd h
      by_cases hr5 : σ 29 0 (ix y1) = 0
      · have h := hit_t h hr5
        refine R_ringN (WF.kid hW 0 hL0 rfl) hb4 hr5 dX5_takeBack_43 ?_
        exact (h : False).elim
      · have h := hit_f h hr5
        refine R_ringS (WF.kid hW 0 hL0 rfl) hb4 hr5 dX5_takeBack_43 ?_
        refine R_callVv (ctX7_copyFrom l Ω k1 (4 + ix y1) hL1 (hR _ (ixlt hb4) hr5) _ _ (hit_mono (hit_bd h) (fun r6 σ7 h => ?_))) okX7_copyFrom mw_600 hL1 (cE_7 Ω k1 _) rfl rfl (Nat.le_of_ble_eq_true rfl) rfl rfl ⟨by decide, by decide⟩ ⟨Nat.zero_le _, Nat.zero_le _⟩ dX5_takeBack_44
        refine R_aload_n (i := 0) dX5_takeBack_47 rfl rfl ?_
        refine R_iload_n (i := 2) dX5_takeBack_48 rfl rfl ?_
        refine R_put poX5_17 hL0 (cE_5 Ω 0 _) (cP_5_1 Ω 0 _ _) (Nat.le_of_ble_eq_true rfl) dX5_takeBack_49 ?_
        refine R_st h (fun σ8 h => ?_)
        refine R_aload_n (i := 0) dX5_takeBack_52 rfl rfl ?_
        refine R_dup dX5_takeBack_53 rfl ?_
        refine R_get foX5_26 hL0 (cE_5 Ω 0 _) rfl dX5_takeBack_54 ?_
        refine R_iconst (v := 1) dX5_takeBack_57 rfl ?_
        refine R_isub dX5_takeBack_58 ?_
        refine R_put poX5_26 hL0 (cE_5 Ω 0 _) (cP_5_2 Ω 0 _ _) (Nat.le_of_ble_eq_true rfl) dX5_takeBack_59 ?_
        refine R_st h (fun σ9 h => ?_)
        refine R_iconst (v := 1) dX5_takeBack_62 rfl ?_
        exact R_zret dX5_takeBack_63 rfl (Or.inr rfl) h
set_option maxRecDepth 100000 in
set_option maxHeartbeats 4000000 in
theorem ctX8_byteAt (l : Launch) (Ω : rO) (x1 : Int32) (hL0 : oL Ω 8 0) (σ : rS) (K : Int32 → rS → Prop) (h : hit (fX8_byteAt x1 σ) K) : Ct l Ω yX8_byteAt cX8_byteAt 2 (some .int) rmX8_byteAt [rf Ω 8 0, .int x1] σ K := by
  refine Ct.of (own := RX8) (lv := [some (rf Ω 8 0), some (.int x1)]) (by decide) rfl (Nat.le_of_ble_eq_true rfl) rfl (fun hW => ?_)
  unfold fX8_byteAt at h
  refine R_iload_n (i := 1) dX8_byteAt_0 rfl rfl ?_
  refine R_if_lt (tgt := 21) dX8_byteAt_1 (by decide) (fun hc => ?_) (fun hc => ?_)
  · have h := hit_t h hc
    refine R_iconst (v := 0) dX8_byteAt_21 rfl ?_
    exact R_iret dX8_byteAt_22 rfl h
  · have h := hit_f h hc
    refine R_iload_n (i := 1) dX8_byteAt_4 rfl rfl ?_
    refine R_aload_n (i := 0) dX8_byteAt_5 rfl rfl ?_
    refine R_get foX8_15 hL0 (cE_8 Ω 0 _) rfl dX8_byteAt_6 ?_
    refine R_icmp_ge (tgt := 21) dX8_byteAt_9 (by decide) (fun hc => ?_) (fun hc => ?_)
    · have h := hit_f h hc
      refine R_iconst (v := 0) dX8_byteAt_21 rfl ?_
      exact R_iret dX8_byteAt_22 rfl h
    · have h := hit_t h hc
      refine R_aload_n (i := 0) dX8_byteAt_12 rfl rfl ?_
      refine R_get foX8_9 hL0 (cE_8 Ω 0 _) rfl dX8_byteAt_13 ?_
      refine R_iload_n (i := 1) dX8_byteAt_16 rfl rfl ?_
      obtain ⟨hb, h⟩ := hit_bnd h
      refine R_iald (WF.kid hW 0 hL0 rfl) (cE_25 Ω 0 _) hb dX8_byteAt_17 ?_
      refine R_goto (tgt := 22) dX8_byteAt_18 (by decide) ?_
      exact R_iret dX8_byteAt_22 rfl h
set_option maxRecDepth 100000 in
set_option maxHeartbeats 4000000 in
theorem rnX6_nextSign_j43 {l : Launch} {Ω : rO} (hW : WF Ω) (hL0 : oL Ω 6 0) (σ : rS) {K : Int32 → rS → Prop}  (h : hit (fX6_nextSign_j43  σ) K) : Run l Ω cX6_nextSign RX6 1 (some .int) rmX6_nextSign K 43 [some (rf Ω 6 0)] [] σ := by
  unfold fX6_nextSign_j43 at h
  refine R_aload_n (i := 0) dX6_nextSign_43 rfl rfl ?_
  refine R_get foX6_18 hL0 (cE_6 Ω 0 _) rfl dX6_nextSign_44 ?_
  refine R_aload_n (i := 0) dX6_nextSign_47 rfl rfl ?_
  refine R_get foX6_22 hL0 (cE_6 Ω 0 _) rfl dX6_nextSign_48 ?_
  refine R_callVi (ctX8_byteAt l Ω (σ 6 0 4) (WF.kid hW 0 hL0 rfl) _ _ (hit_mono (hit_bd h) (fun r1 σ2 h => ?_))) okX8_byteAt mw_407 (WF.kid hW 0 hL0 rfl) (cE_8 Ω 0 _) rfl rfl (Nat.le_of_ble_eq_true rfl) rfl rfl ⟨by decide, by decide⟩ ⟨Nat.zero_le _, Nat.zero_le _⟩ dX6_nextSign_51
  exact R_iret dX6_nextSign_54 rfl h
set_option maxRecDepth 100000 in
set_option maxHeartbeats 4000000 in
theorem rsX6_nextSign_L0 {l : Launch} {Ω : rO} (hW : WF Ω) (hL0 : oL Ω 6 0) (σ : rS) {K : Int32 → rS → Prop} {K0 : (Unit ⊕ Unit) → rS → Prop} (hC : ∀ (σ : rS), K0 (.inl ()) σ → Run l Ω cX6_nextSign RX6 1 (some .int) rmX6_nextSign K 0 [some (rf Ω 6 0)] [] σ) (hE0 : ∀ (e : Unit) (σ : rS), K0 (.inr e) σ → Run l Ω cX6_nextSign RX6 1 (some .int) rmX6_nextSign K 43 [some (rf Ω 6 0)] [] σ) (h : hit (fX6_nextSign_L0  σ) K0) : Run l Ω cX6_nextSign RX6 1 (some .int) rmX6_nextSign K 0 [some (rf Ω 6 0)] [] σ := by
  unfold fX6_nextSign_L0 at h
  refine R_aload_n (i := 0) dX6_nextSign_0 rfl rfl ?_
  refine R_get foX6_22 hL0 (cE_6 Ω 0 _) rfl dX6_nextSign_1 ?_
  refine R_aload_n (i := 0) dX6_nextSign_4 rfl rfl ?_
  refine R_get foX6_18 hL0 (cE_6 Ω 0 _) rfl dX6_nextSign_5 ?_
  refine R_get foX6_84 (WF.kid hW 0 hL0 rfl) (cE_8 Ω 0 _) rfl dX6_nextSign_8 ?_
  refine R_icmp_ge (tgt := 43) dX6_nextSign_11 (by decide) (fun hc => ?_) (fun hc => ?_)
  · have h := hit_f h hc
    exact hE0 () σ h
  · have h := hit_t h hc
    refine R_aload_n (i := 0) dX6_nextSign_14 rfl rfl ?_
    refine R_get foX6_18 hL0 (cE_6 Ω 0 _) rfl dX6_nextSign_15 ?_
    refine R_aload_n (i := 0) dX6_nextSign_18 rfl rfl ?_
    refine R_get foX6_22 hL0 (cE_6 Ω 0 _) rfl dX6_nextSign_19 ?_
    refine R_callVi (ctX8_byteAt l Ω (σ 6 0 4) (WF.kid hW 0 hL0 rfl) _ _ (hit_mono (hit_bd h) (fun r6 σ7 h => ?_))) okX8_byteAt mw_407 (WF.kid hW 0 hL0 rfl) (cE_8 Ω 0 _) rfl rfl (Nat.le_of_ble_eq_true rfl) rfl rfl ⟨by decide, by decide⟩ ⟨Nat.zero_le _, Nat.zero_le _⟩ dX6_nextSign_22
    refine R_bipush (v := 32) dX6_nextSign_25 rfl ?_
    refine R_icmp_ne (tgt := 43) dX6_nextSign_27 (by decide) (fun hc => ?_) (fun hc => ?_)
    · have h := hit_f h hc
      exact hE0 () σ7 h
    · have h := hit_t h hc
      refine R_aload_n (i := 0) dX6_nextSign_30 rfl rfl ?_
      refine R_dup dX6_nextSign_31 rfl ?_
      refine R_get foX6_22 hL0 (cE_6 Ω 0 _) rfl dX6_nextSign_32 ?_
      refine R_iconst (v := 1) dX6_nextSign_35 rfl ?_
      refine R_iadd dX6_nextSign_36 ?_
      refine R_put poX6_22 hL0 (cE_6 Ω 0 _) (cP_6_4 Ω 0 _ _) (Nat.le_of_ble_eq_true rfl) dX6_nextSign_37 ?_
      refine R_st h (fun σ8 h => ?_)
      refine R_goto (tgt := 0) dX6_nextSign_40 (by decide) ?_
      exact hC  σ8 h
set_option maxRecDepth 100000 in
set_option maxHeartbeats 4000000 in
theorem rlX6_nextSign_L0 {l : Launch} {Ω : rO} (hW : WF Ω) (hL0 : oL Ω 6 0) {K : Int32 → rS → Prop} {KE : Unit → rS → Prop} (hE0 : ∀ (e : Unit) (σ : rS), KE e σ → Run l Ω cX6_nextSign RX6 1 (some .int) rmX6_nextSign K 43 [some (rf Ω 6 0)] [] σ) : ∀ (n : Nat) (σ : rS), hit (lp (fun (x : Unit) σ => fX6_nextSign_L0  σ) n () σ) KE → Run l Ω cX6_nextSign RX6 1 (some .int) rmX6_nextSign K 0 [some (rf Ω 6 0)] [] σ := by
  intro n
  induction n with
  | zero => intro  σ h; exact (h : False).elim
  | succ n ih =>
    intro  σ h
    exact rsX6_nextSign_L0 hW hL0 σ (fun  σ h => ih  σ h) (fun e σ h => hE0 e σ h) (hit_lp h)
set_option maxRecDepth 100000 in
set_option maxHeartbeats 4000000 in
theorem ctX6_nextSign (l : Launch) (Ω : rO) (hL0 : oL Ω 6 0) (σ : rS) (K : Int32 → rS → Prop) (h : hit (fX6_nextSign  σ) K) : Ct l Ω yX6_nextSign cX6_nextSign 1 (some .int) rmX6_nextSign [rf Ω 6 0] σ K := by
  refine Ct.of (own := RX6) (lv := [some (rf Ω 6 0)]) (by decide) rfl (Nat.le_of_ble_eq_true rfl) rfl (fun hW => ?_)
  unfold fX6_nextSign at h
  refine R_aload_n (i := 0) dX6_nextSign_0 rfl rfl ?_
  refine R_get foX6_22 hL0 (cE_6 Ω 0 _) rfl dX6_nextSign_1 ?_
  refine R_aload_n (i := 0) dX6_nextSign_4 rfl rfl ?_
  refine R_get foX6_18 hL0 (cE_6 Ω 0 _) rfl dX6_nextSign_5 ?_
  refine R_get foX6_84 (WF.kid hW 0 hL0 rfl) (cE_8 Ω 0 _) rfl dX6_nextSign_8 ?_
  refine R_icmp_ge (tgt := 43) dX6_nextSign_11 (by decide) (fun hc => ?_) (fun hc => ?_)
  · have h := hit_f h hc
    exact rnX6_nextSign_j43 hW hL0 σ  h
  · have h := hit_t h hc
    refine R_aload_n (i := 0) dX6_nextSign_14 rfl rfl ?_
    refine R_get foX6_18 hL0 (cE_6 Ω 0 _) rfl dX6_nextSign_15 ?_
    refine R_aload_n (i := 0) dX6_nextSign_18 rfl rfl ?_
    refine R_get foX6_22 hL0 (cE_6 Ω 0 _) rfl dX6_nextSign_19 ?_
    refine R_callVi (ctX8_byteAt l Ω (σ 6 0 4) (WF.kid hW 0 hL0 rfl) _ _ (hit_mono (hit_bd h) (fun r3 σ4 h => ?_))) okX8_byteAt mw_407 (WF.kid hW 0 hL0 rfl) (cE_8 Ω 0 _) rfl rfl (Nat.le_of_ble_eq_true rfl) rfl rfl ⟨by decide, by decide⟩ ⟨Nat.zero_le _, Nat.zero_le _⟩ dX6_nextSign_22
    refine R_bipush (v := 32) dX6_nextSign_25 rfl ?_
    refine R_icmp_ne (tgt := 43) dX6_nextSign_27 (by decide) (fun hc => ?_) (fun hc => ?_)
    · have h := hit_f h hc
      exact rnX6_nextSign_j43 hW hL0 σ4  h
    · have h := hit_t h hc
      refine R_aload_n (i := 0) dX6_nextSign_30 rfl rfl ?_
      refine R_dup dX6_nextSign_31 rfl ?_
      refine R_get foX6_22 hL0 (cE_6 Ω 0 _) rfl dX6_nextSign_32 ?_
      refine R_iconst (v := 1) dX6_nextSign_35 rfl ?_
      refine R_iadd dX6_nextSign_36 ?_
      refine R_put poX6_22 hL0 (cE_6 Ω 0 _) (cP_6_4 Ω 0 _ _) (Nat.le_of_ble_eq_true rfl) dX6_nextSign_37 ?_
      refine R_st h (fun σ5 h => ?_)
      refine R_goto (tgt := 0) dX6_nextSign_40 (by decide) ?_
      refine rlX6_nextSign_L0 hW hL0 ?_ fu  σ5 (hit_bd h)
      · intro e10 σ9 h
        try dsimp only at h
        exact rnX6_nextSign_j43 hW hL0 σ9  h
set_option maxRecDepth 100000 in
set_option maxHeartbeats 4000000 in
theorem ctJ0_isLatin1_aae02 (l : Launch) (Ω : rO) (s0 : Nat) (hL0 : s0 < 2) (σ : rS) (K : Int32 → rS → Prop) (h : hit (fJ0_isLatin1_aae02 s0 σ) K) : Ct l Ω yJ0_isLatin1_aae02 cJ0_isLatin1_aae02 1 (some .boolean) rmJ0_isLatin1_aae02 [.ref (oX Ω (10 + s0))] σ K := by
  refine Ct.of (own := RJ0) (lv := [some (.ref (oX Ω (10 + s0)))]) (by decide) rfl (Nat.le_of_ble_eq_true rfl) rfl (fun hW => ?_)
  unfold fJ0_isLatin1_aae02 at h
  refine R_gst (fun _ h => h.2.2.2.2.1) mw_424 dJ0_isLatin1_aae02_0 ?_
  refine R_if_eq (tgt := 17) dJ0_isLatin1_aae02_3 (by decide) (fun hc => ?_) (fun hc => ?_)
  · have h := hit_t h hc
    refine R_iconst (v := 0) dJ0_isLatin1_aae02_17 rfl ?_
    exact R_zret dJ0_isLatin1_aae02_18 rfl (Or.inl rfl) h
  · have h := hit_f h hc
    refine R_aload_n (i := 0) dJ0_isLatin1_aae02_6 rfl rfl ?_
    refine R_strf (SF.scod hL0) mw_1762 dJ0_isLatin1_aae02_7 ?_
    refine R_if_ne (tgt := 17) dJ0_isLatin1_aae02_10 (by decide) (fun hc => ?_) (fun hc => ?_)
    · have h := hit_f h hc
      refine R_iconst (v := 0) dJ0_isLatin1_aae02_17 rfl ?_
      exact R_zret dJ0_isLatin1_aae02_18 rfl (Or.inl rfl) h
    · have h := hit_t h hc
      refine R_iconst (v := 1) dJ0_isLatin1_aae02_13 rfl ?_
      refine R_goto (tgt := 18) dJ0_isLatin1_aae02_14 (by decide) ?_
      exact R_zret dJ0_isLatin1_aae02_18 rfl (Or.inr rfl) h
set_option maxRecDepth 100000 in
set_option maxHeartbeats 4000000 in
theorem ctJ0_coder_7d493 (l : Launch) (Ω : rO) (s0 : Nat) (hL0 : s0 < 2) (σ : rS) (K : Int32 → rS → Prop) (h : hit (fJ0_coder_7d493 s0 σ) K) : Ct l Ω yJ0_coder_7d493 cJ0_coder_7d493 1 (some .byte) rmJ0_coder_7d493 [.ref (oX Ω (10 + s0))] σ K := by
  refine Ct.of (own := RJ0) (lv := [some (.ref (oX Ω (10 + s0)))]) (by decide) rfl (Nat.le_of_ble_eq_true rfl) rfl (fun hW => ?_)
  unfold fJ0_coder_7d493 at h
  refine R_gst (fun _ h => h.2.2.2.2.1) mw_424 dJ0_coder_7d493_0 ?_
  refine R_if_eq (tgt := 13) dJ0_coder_7d493_3 (by decide) (fun hc => ?_) (fun hc => ?_)
  · have h := hit_t h hc
    refine R_iconst (v := 1) dJ0_coder_7d493_13 rfl ?_
    exact R_nret dJ0_coder_7d493_14 rfl (by decide) h
  · have h := hit_f h hc
    refine R_aload_n (i := 0) dJ0_coder_7d493_6 rfl rfl ?_
    refine R_strf (SF.scod hL0) mw_1762 dJ0_coder_7d493_7 ?_
    refine R_goto (tgt := 14) dJ0_coder_7d493_10 (by decide) ?_
    exact R_nret dJ0_coder_7d493_14 rfl (by decide) h
set_option maxRecDepth 100000 in
set_option maxHeartbeats 4000000 in
theorem ctJ0_length_8abf5 (l : Launch) (Ω : rO) (s0 : Nat) (hL0 : s0 < 2) (σ : rS) (K : Int32 → rS → Prop) (h : hit (fJ0_length_8abf5 s0 σ) K) : Ct l Ω yJ0_length_8abf5 cJ0_length_8abf5 1 (some .int) rmJ0_length_8abf5 [.ref (oX Ω (10 + s0))] σ K := by
  refine Ct.of (own := RJ0) (lv := [some (.ref (oX Ω (10 + s0)))]) (by decide) rfl (Nat.le_of_ble_eq_true rfl) rfl (fun hW => ?_)
  unfold fJ0_length_8abf5 at h
  refine R_aload_n (i := 0) dJ0_length_8abf5_0 rfl rfl ?_
  refine R_strf (SF.sval hL0) mw_1763 dJ0_length_8abf5_1 ?_
  refine R_stlen (x := nI (lenS s0)) (SF.sbyt hL0) rfl dJ0_length_8abf5_4 ?_
  refine R_aload_n (i := 0) dJ0_length_8abf5_5 rfl rfl ?_
  refine R_callTi hL0 (ctJ0_coder_7d493 l Ω s0 hL0 _ _ (hit_mono (hit_bd h) (fun r1 σ2 h => ?_))) oktJ0_coder_7d493 mw_430 rfl rfl (Nat.le_of_ble_eq_true rfl) rfl rfl ⟨by decide, by decide⟩ ⟨Nat.zero_le _, Nat.zero_le _⟩ dJ0_length_8abf5_6
  refine R_ishr dJ0_length_8abf5_9 ?_
  exact R_iret dJ0_length_8abf5_10 rfl h
set_option maxRecDepth 100000 in
set_option maxHeartbeats 4000000 in
theorem ctJ1_canEncode_9a6ad (l : Launch) (Ω : rO) (x0 : Int32) (σ : rS) (K : Int32 → rS → Prop) (h : hit (fJ1_canEncode_9a6ad x0 σ) K) : Ct l Ω yJ1_canEncode_9a6ad cJ1_canEncode_9a6ad 1 (some .boolean) rmJ1_canEncode_9a6ad [.int x0] σ K := by
  refine Ct.of (own := RJ1) (lv := [some (.int x0)]) (by decide) rfl (Nat.le_of_ble_eq_true rfl) rfl (fun hW => ?_)
  unfold fJ1_canEncode_9a6ad at h
  refine R_iload_n (i := 0) dJ1_canEncode_9a6ad_0 rfl rfl ?_
  refine R_if_lt (tgt := 15) dJ1_canEncode_9a6ad_1 (by decide) (fun hc => ?_) (fun hc => ?_)
  · have h := hit_t h hc
    refine R_iconst (v := 0) dJ1_canEncode_9a6ad_15 rfl ?_
    exact R_zret dJ1_canEncode_9a6ad_16 rfl (Or.inl rfl) h
  · have h := hit_f h hc
    refine R_iload_n (i := 0) dJ1_canEncode_9a6ad_4 rfl rfl ?_
    refine R_sipush (v := 255) dJ1_canEncode_9a6ad_5 rfl ?_
    refine R_icmp_gt (tgt := 15) dJ1_canEncode_9a6ad_8 (by decide) (fun hc => ?_) (fun hc => ?_)
    · have h := hit_t h hc
      refine R_iconst (v := 0) dJ1_canEncode_9a6ad_15 rfl ?_
      exact R_zret dJ1_canEncode_9a6ad_16 rfl (Or.inl rfl) h
    · have h := hit_f h hc
      refine R_iconst (v := 1) dJ1_canEncode_9a6ad_11 rfl ?_
      refine R_goto (tgt := 16) dJ1_canEncode_9a6ad_12 (by decide) ?_
      exact R_zret dJ1_canEncode_9a6ad_16 rfl (Or.inr rfl) h
