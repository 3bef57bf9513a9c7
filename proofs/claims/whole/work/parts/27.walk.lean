set_option maxRecDepth 100000 in
set_option maxHeartbeats 4000000 in
theorem rnX10_moves_j194 {l : Launch} {Ω : rO} (hW : WF Ω) (x2 : Int32) (hL0 : oL Ω 10 0) (σ : rS) {K : Int32 → rS → Prop}  (h : hit (fX10_moves_j194 x2 σ) K) : Run l Ω cX10_moves RX10 5 none rmX10_moves K 194 [some (rf Ω 10 0), none, some (.int x2), none, none] [] σ := by
  unfold fX10_moves_j194 at h
  refine R_aload_n (i := 0) dX10_moves_194 rfl rfl ?_
  refine R_iload_n (i := 2) dX10_moves_195 rfl rfl ?_
  refine R_callVv (ctX10_marks l Ω x2 hL0 _ _ (hit_mono (hit_bd h) (fun r18 σ19 h => ?_))) okX10_marks mw_1474 hL0 (cE_10 Ω 0 _) rfl rfl (Nat.le_of_ble_eq_true rfl) rfl rfl ⟨by decide, by decide⟩ ⟨Nat.zero_le _, Nat.zero_le _⟩ dX10_moves_196
  exact R_vret dX10_moves_199 rfl h
set_option maxRecDepth 100000 in
set_option maxHeartbeats 4000000 in
theorem rnX10_moves_j171 {l : Launch} {Ω : rO} (hW : WF Ω) (k1 : Nat) (x2 : Int32) (x4 : Int32) (hL0 : oL Ω 10 0) (hL1 : oL Ω 66 k1) (σ : rS) {K : Int32 → rS → Prop}  (h : hit (fX10_moves_j171 k1 x2 x4 σ) K) : Run l Ω cX10_moves RX10 5 none rmX10_moves K 171 [some (rf Ω 10 0), some (rf Ω 66 k1), some (.int x2), none, some (.int x4)] [] σ := by
  unfold fX10_moves_j171 at h
  refine R_aload_n (i := 1) dX10_moves_171 rfl rfl ?_
  refine R_sipush (v := 1367) dX10_moves_172 rfl ?_
  refine R_dup2 dX10_moves_175 rfl rfl ?_
  refine R_iald hL1 (cE_66 Ω k1 _) (vin 1367 1554 rfl) dX10_moves_176 ?_
  refine R_iconst (v := 1) dX10_moves_177 rfl ?_
  refine R_iadd dX10_moves_178 ?_
  refine R_iast hL1 (cE_66 Ω k1) (vin 1367 1554 rfl) dX10_moves_179 ?_
  refine R_st h (fun σ17 h => ?_)
  refine R_iload (i := 4) dX10_moves_180 rfl ?_
  refine R_if_ne (tgt := 194) dX10_moves_182 (by decide) (fun hc => ?_) (fun hc => ?_)
  · have h := hit_f h hc
    refine R_drop (lv2 := [some (rf Ω 10 0), none, some (.int x2), none, some (.int x4)]) 1 rfl ?_
    refine R_drop (lv2 := [some (rf Ω 10 0), none, some (.int x2), none, none]) 4 rfl ?_
    exact rnX10_moves_j194 hW x2 hL0 σ17  h
  · have h := hit_t h hc
    refine R_aload_n (i := 1) dX10_moves_185 rfl rfl ?_
    refine R_sipush (v := 1368) dX10_moves_186 rfl ?_
    refine R_dup2 dX10_moves_189 rfl rfl ?_
    refine R_iald hL1 (cE_66 Ω k1 _) (vin 1368 1554 rfl) dX10_moves_190 ?_
    refine R_iconst (v := 1) dX10_moves_191 rfl ?_
    refine R_iadd dX10_moves_192 ?_
    refine R_iast hL1 (cE_66 Ω k1) (vin 1368 1554 rfl) dX10_moves_193 ?_
    refine R_st h (fun σ20 h => ?_)
    refine R_drop (lv2 := [some (rf Ω 10 0), none, some (.int x2), none, some (.int x4)]) 1 rfl ?_
    refine R_drop (lv2 := [some (rf Ω 10 0), none, some (.int x2), none, none]) 4 rfl ?_
    exact rnX10_moves_j194 hW x2 hL0 σ20  h
set_option maxRecDepth 100000 in
set_option maxHeartbeats 4000000 in
theorem rnX10_moves_j142 {l : Launch} {Ω : rO} (hW : WF Ω) (k1 : Nat) (x2 : Int32) (x3 : Int32) (x4 : Int32) (z0 : Int32) (z1 : Int32) (kz2 : Nat) (hL0 : oL Ω 10 0) (hL1 : oL Ω 66 k1) (hz2 : oL Ω 66 kz2) (σ : rS) {K : Int32 → rS → Prop}  (h : hit (fX10_moves_j142 k1 x2 x3 x4 z0 z1 kz2 σ) K) : Run l Ω cX10_moves RX10 5 none rmX10_moves K 142 [some (rf Ω 10 0), some (rf Ω 66 k1), some (.int x2), some (.int x3), some (.int x4)] [.int z0, .int z1, rf Ω 66 kz2] σ := by
  unfold fX10_moves_j142 at h
  obtain ⟨hb, h⟩ := hit_bnd h
  refine R_iast hz2 (cE_66 Ω kz2) hb dX10_moves_142 ?_
  refine R_st h (fun σ15 h => ?_)
  refine R_iload (i := 4) dX10_moves_143 rfl ?_
  refine R_if_eq (tgt := 161) dX10_moves_145 (by decide) (fun hc => ?_) (fun hc => ?_)
  · have h := hit_t h hc
    refine R_aload_n (i := 0) dX10_moves_161 rfl rfl ?_
    refine R_dup dX10_moves_162 rfl ?_
    refine R_get foX10_223 hL0 (cE_10 Ω 0 _) rfl dX10_moves_163 ?_
    refine R_iload_n (i := 3) dX10_moves_166 rfl rfl ?_
    refine R_iadd dX10_moves_167 ?_
    refine R_put poX10_223 hL0 (cE_10 Ω 0 _) (cP_10_26 Ω 0 _ _) (Nat.le_of_ble_eq_true rfl) dX10_moves_168 ?_
    refine R_st h (fun σ16 h => ?_)
    refine R_drop (lv2 := [some (rf Ω 10 0), some (rf Ω 66 k1), some (.int x2), none, some (.int x4)]) 3 rfl ?_
    exact rnX10_moves_j171 hW k1 x2 x4 hL0 hL1 σ16  h
  · have h := hit_f h hc
    refine R_aload_n (i := 0) dX10_moves_148 rfl rfl ?_
    refine R_dup dX10_moves_149 rfl ?_
    refine R_get foX10_220 hL0 (cE_10 Ω 0 _) rfl dX10_moves_150 ?_
    refine R_iload_n (i := 3) dX10_moves_153 rfl rfl ?_
    refine R_iadd dX10_moves_154 ?_
    refine R_put poX10_220 hL0 (cE_10 Ω 0 _) (cP_10_25 Ω 0 _ _) (Nat.le_of_ble_eq_true rfl) dX10_moves_155 ?_
    refine R_st h (fun σ21 h => ?_)
    refine R_goto (tgt := 171) dX10_moves_158 (by decide) ?_
    refine R_drop (lv2 := [some (rf Ω 10 0), some (rf Ω 66 k1), some (.int x2), none, some (.int x4)]) 3 rfl ?_
    exact rnX10_moves_j171 hW k1 x2 x4 hL0 hL1 σ21  h
set_option maxRecDepth 100000 in
set_option maxHeartbeats 4000000 in
theorem rnX10_moves_j118 {l : Launch} {Ω : rO} (hW : WF Ω) (k1 : Nat) (x2 : Int32) (x3 : Int32) (x4 : Int32) (z0 : Int32) (z1 : Int32) (kz2 : Nat) (hL0 : oL Ω 10 0) (hL1 : oL Ω 66 k1) (hz2 : oL Ω 66 kz2) (σ : rS) {K : Int32 → rS → Prop}  (h : hit (fX10_moves_j118 k1 x2 x3 x4 z0 z1 kz2 σ) K) : Run l Ω cX10_moves RX10 5 none rmX10_moves K 118 [some (rf Ω 10 0), some (rf Ω 66 k1), some (.int x2), some (.int x3), some (.int x4)] [.int z0, .int z1, rf Ω 66 kz2] σ := by
  unfold fX10_moves_j118 at h
  obtain ⟨hb, h⟩ := hit_bnd h
  refine R_iast hz2 (cE_66 Ω kz2) hb dX10_moves_118 ?_
  refine R_st h (fun σ12 h => ?_)
  refine R_aload_n (i := 1) dX10_moves_119 rfl rfl ?_
  refine R_iload_n (i := 2) dX10_moves_120 rfl rfl ?_
  refine R_bipush (v := 6) dX10_moves_121 rfl ?_
  refine R_callSi (ctX10_cell l Ω x2 6 _ _ (hit_mono (hit_bd h) (fun r13 σ14 h => ?_))) okX10_cell mw_1471 rfl rfl (Nat.le_of_ble_eq_true rfl) rfl rfl ⟨by decide, by decide⟩ ⟨Nat.zero_le _, Nat.zero_le _⟩ dX10_moves_123
  refine R_iload (i := 4) dX10_moves_126 rfl ?_
  refine R_if_eq (tgt := 138) dX10_moves_128 (by decide) (fun hc => ?_) (fun hc => ?_)
  · have h := hit_t h hc
    refine R_aload_n (i := 0) dX10_moves_138 rfl rfl ?_
    refine R_get foX10_223 hL0 (cE_10 Ω 0 _) rfl dX10_moves_139 ?_
    exact rnX10_moves_j142 hW k1 x2 x3 x4 (σ14 10 0 26) r13 k1 hL0 hL1 hL1 σ14  h
  · have h := hit_f h hc
    refine R_aload_n (i := 0) dX10_moves_131 rfl rfl ?_
    refine R_get foX10_220 hL0 (cE_10 Ω 0 _) rfl dX10_moves_132 ?_
    refine R_goto (tgt := 142) dX10_moves_135 (by decide) ?_
    exact rnX10_moves_j142 hW k1 x2 x3 x4 (σ14 10 0 25) r13 k1 hL0 hL1 hL1 σ14  h
set_option maxRecDepth 100000 in
set_option maxHeartbeats 4000000 in
theorem rnX10_moves_j102 {l : Launch} {Ω : rO} (hW : WF Ω) (k1 : Nat) (x2 : Int32) (x3 : Int32) (x4 : Int32) (hL0 : oL Ω 10 0) (hL1 : oL Ω 66 k1) (σ : rS) {K : Int32 → rS → Prop}  (h : hit (fX10_moves_j102 k1 x2 x3 x4 σ) K) : Run l Ω cX10_moves RX10 5 none rmX10_moves K 102 [some (rf Ω 10 0), some (rf Ω 66 k1), some (.int x2), some (.int x3), some (.int x4)] [] σ := by
  unfold fX10_moves_j102 at h
  refine R_aload_n (i := 1) dX10_moves_102 rfl rfl ?_
  refine R_iload_n (i := 2) dX10_moves_103 rfl rfl ?_
  refine R_iconst (v := 5) dX10_moves_104 rfl ?_
  refine R_callSi (ctX10_cell l Ω x2 5 _ _ (hit_mono (hit_bd h) (fun r10 σ11 h => ?_))) okX10_cell mw_1471 rfl rfl (Nat.le_of_ble_eq_true rfl) rfl rfl ⟨by decide, by decide⟩ ⟨Nat.zero_le _, Nat.zero_le _⟩ dX10_moves_105
  refine R_iload (i := 4) dX10_moves_108 rfl ?_
  refine R_if_eq (tgt := 117) dX10_moves_110 (by decide) (fun hc => ?_) (fun hc => ?_)
  · have h := hit_t h hc
    refine R_iconst (v := 2) dX10_moves_117 rfl ?_
    exact rnX10_moves_j118 hW k1 x2 x3 x4 2 r10 k1 hL0 hL1 hL1 σ11  h
  · have h := hit_f h hc
    refine R_iconst (v := 1) dX10_moves_113 rfl ?_
    refine R_goto (tgt := 118) dX10_moves_114 (by decide) ?_
    exact rnX10_moves_j118 hW k1 x2 x3 x4 1 r10 k1 hL0 hL1 hL1 σ11  h
set_option maxRecDepth 100000 in
set_option maxHeartbeats 4000000 in
theorem rnX10_moves_j75 {l : Launch} {Ω : rO} (hW : WF Ω) (k1 : Nat) (x2 : Int32) (x3 : Int32) (z0 : Int32) (hL0 : oL Ω 10 0) (hL1 : oL Ω 66 k1) (σ : rS) {K : Int32 → rS → Prop}  (h : hit (fX10_moves_j75 k1 x2 x3 z0 σ) K) : Run l Ω cX10_moves RX10 5 none rmX10_moves K 75 [some (rf Ω 10 0), some (rf Ω 66 k1), some (.int x2), some (.int x3), none] [.int z0] σ := by
  unfold fX10_moves_j75 at h
  refine R_istore (lv2 := [some (rf Ω 10 0), some (rf Ω 66 k1), some (.int x2), some (.int x3), some (.int z0)]) dX10_moves_75 (by decide) rfl rfl ?_
  refine R_iload (i := 4) dX10_moves_77 rfl ?_
  refine R_if_ne (tgt := 102) dX10_moves_79 (by decide) (fun hc => ?_) (fun hc => ?_)
  · have h := hit_f h hc
    exact rnX10_moves_j102 hW k1 x2 x3 z0 hL0 hL1 σ  h
  · have h := hit_t h hc
    refine R_aload_n (i := 0) dX10_moves_82 rfl rfl ?_
    refine R_get foX10_223 hL0 (cE_10 Ω 0 _) rfl dX10_moves_83 ?_
    refine R_iload_n (i := 3) dX10_moves_86 rfl rfl ?_
    refine R_iadd dX10_moves_87 ?_
    refine R_aload_n (i := 0) dX10_moves_88 rfl rfl ?_
    refine R_get foX10_17 hL0 (cE_10 Ω 0 _) rfl dX10_moves_89 ?_
    refine R_iconst (v := 2) dX10_moves_92 rfl ?_
    refine R_iald (WF.kid hW 2 hL0 rfl) (cE_62 Ω 0 _) (vin 2 4 rfl) dX10_moves_93 ?_
    refine R_icmp_le (tgt := 102) dX10_moves_94 (by decide) (fun hc => ?_) (fun hc => ?_)
    · have h := hit_f h hc
      exact rnX10_moves_j102 hW k1 x2 x3 z0 hL0 hL1 σ  h
    · have h := hit_t h hc
      refine R_aload_n (i := 0) dX10_moves_97 rfl rfl ?_
      refine R_iconst (v := 1) dX10_moves_98 rfl ?_
      refine R_putz poX10_198 hL0 (cE_10 Ω 0 _) (cP_10_27 Ω 0 _ _) (Nat.le_of_ble_eq_true rfl) (Or.inr rfl) dX10_moves_99 ?_
      refine R_st h (fun σ22 h => ?_)
      exact rnX10_moves_j102 hW k1 x2 x3 z0 hL0 hL1 σ22  h
set_option maxRecDepth 100000 in
set_option maxHeartbeats 4000000 in
theorem rnX10_moves_j74 {l : Launch} {Ω : rO} (hW : WF Ω) (k1 : Nat) (x2 : Int32) (x3 : Int32) (hL0 : oL Ω 10 0) (hL1 : oL Ω 66 k1) (σ : rS) {K : Int32 → rS → Prop}  (h : hit (fX10_moves_j74 k1 x2 x3 σ) K) : Run l Ω cX10_moves RX10 5 none rmX10_moves K 74 [some (rf Ω 10 0), some (rf Ω 66 k1), some (.int x2), some (.int x3), none] [] σ := by
  unfold fX10_moves_j74 at h
  refine R_iconst (v := 0) dX10_moves_74 rfl ?_
  exact rnX10_moves_j75 hW k1 x2 x3 0 hL0 hL1 σ  h
set_option maxRecDepth 100000 in
set_option maxHeartbeats 4000000 in
theorem ctX10_moves (l : Launch) (Ω : rO) (k1 : Nat) (x2 : Int32) (hL0 : oL Ω 10 0) (hL1 : oL Ω 66 k1) (σ : rS) (K : Int32 → rS → Prop) (h : hit (fX10_moves k1 x2 σ) K) : Ct l Ω yX10_moves cX10_moves 5 none rmX10_moves [rf Ω 10 0, rf Ω 66 k1, .int x2] σ K := by
  refine Ct.of (own := RX10) (lv := [some (rf Ω 10 0), some (rf Ω 66 k1), some (.int x2), none, none]) (by decide) rfl (Nat.le_of_ble_eq_true rfl) rfl (fun hW => ?_)
  unfold fX10_moves at h
  refine R_iload_n (i := 2) dX10_moves_0 rfl rfl ?_
  refine R_iconst (v := (-1)) dX10_moves_1 rfl ?_
  refine R_icmp_eq (tgt := 22) dX10_moves_2 (by decide) (fun hc => ?_) (fun hc => ?_)
  · have h := hit_t h hc
    exact R_vret dX10_moves_22 rfl h
  · have h := hit_f h hc
    refine R_aload_n (i := 0) dX10_moves_5 rfl rfl ?_
    refine R_get foX10_45 hL0 (cE_10 Ω 0 _) rfl dX10_moves_6 ?_
    refine R_iload_n (i := 2) dX10_moves_9 rfl rfl ?_
    obtain ⟨hb, h⟩ := hit_bnd h
    refine R_zald (WF.kid hW 11 hL0 rfl) (cE_68 Ω 0 _) hb dX10_moves_10 ?_
    refine R_if_ne (tgt := 22) dX10_moves_11 (by decide) (fun hc => ?_) (fun hc => ?_)
    · have h := hit_f h hc
      exact R_vret dX10_moves_22 rfl h
    · have h := hit_t h hc
      refine R_aload_n (i := 1) dX10_moves_14 rfl rfl ?_
      refine R_iload_n (i := 2) dX10_moves_15 rfl rfl ?_
      refine R_callSi (ctX10_isOld l Ω k1 x2 hL1 _ _ (hit_mono (hit_bd h) (fun r1 σ2 h => ?_))) okX10_isOld mw_1468 rfl rfl (Nat.le_of_ble_eq_true rfl) rfl rfl ⟨by decide, by decide⟩ ⟨Nat.zero_le _, Nat.zero_le _⟩ dX10_moves_16
      refine R_if_eq (tgt := 23) dX10_moves_19 (by decide) (fun hc => ?_) (fun hc => ?_)
      · have h := hit_t h hc
        refine R_aload_n (i := 1) dX10_moves_23 rfl rfl ?_
        refine R_iload_n (i := 2) dX10_moves_24 rfl rfl ?_
        refine R_callSi (ctX10_sizeOf l Ω k1 x2 hL1 _ _ (hit_mono (hit_bd h) (fun r3 σ4 h => ?_))) okX10_sizeOf mw_1449 rfl rfl (Nat.le_of_ble_eq_true rfl) rfl rfl ⟨by decide, by decide⟩ ⟨Nat.zero_le _, Nat.zero_le _⟩ dX10_moves_25
        refine R_istore_n (lv2 := [some (rf Ω 10 0), some (rf Ω 66 k1), some (.int x2), some (.int r3), none]) dX10_moves_28 rfl (by decide) rfl rfl ?_
        refine R_aload_n (i := 1) dX10_moves_29 rfl rfl ?_
        refine R_iload_n (i := 2) dX10_moves_30 rfl rfl ?_
        refine R_iconst (v := 4) dX10_moves_31 rfl ?_
        refine R_callSi (ctX10_cell l Ω x2 4 _ _ (hit_mono (hit_bd h) (fun r5 σ6 h => ?_))) okX10_cell mw_1471 rfl rfl (Nat.le_of_ble_eq_true rfl) rfl rfl ⟨by decide, by decide⟩ ⟨Nat.zero_le _, Nat.zero_le _⟩ dX10_moves_32
        refine R_dup2 dX10_moves_35 rfl rfl ?_
        obtain ⟨hb, h⟩ := hit_bnd h
        refine R_iald hL1 (cE_66 Ω k1 _) hb dX10_moves_36 ?_
        refine R_iconst (v := 1) dX10_moves_37 rfl ?_
        refine R_iadd dX10_moves_38 ?_
        obtain ⟨hb, h⟩ := hit_bnd h
        refine R_iast hL1 (cE_66 Ω k1) hb dX10_moves_39 ?_
        refine R_st h (fun σ7 h => ?_)
        refine R_aload_n (i := 1) dX10_moves_40 rfl rfl ?_
        refine R_iload_n (i := 2) dX10_moves_41 rfl rfl ?_
        refine R_iconst (v := 4) dX10_moves_42 rfl ?_
        refine R_callSi (ctX10_of l Ω k1 x2 4 hL1 _ _ (hit_mono (hit_bd h) (fun r8 σ9 h => ?_))) okX10_of mw_1435 rfl rfl (Nat.le_of_ble_eq_true rfl) rfl rfl ⟨by decide, by decide⟩ ⟨Nat.zero_le _, Nat.zero_le _⟩ dX10_moves_43
        refine R_aload_n (i := 0) dX10_moves_46 rfl rfl ?_
        refine R_get foX10_17 hL0 (cE_10 Ω 0 _) rfl dX10_moves_47 ?_
        refine R_iconst (v := 3) dX10_moves_50 rfl ?_
        refine R_iald (WF.kid hW 2 hL0 rfl) (cE_62 Ω 0 _) (vin 3 4 rfl) dX10_moves_51 ?_
        refine R_icmp_ge (tgt := 74) dX10_moves_52 (by decide) (fun hc => ?_) (fun hc => ?_)
        · have h := hit_f h hc
          exact rnX10_moves_j74 hW k1 x2 r3 hL0 hL1 σ9  h
        · have h := hit_t h hc
          refine R_aload_n (i := 0) dX10_moves_55 rfl rfl ?_
          refine R_get foX10_220 hL0 (cE_10 Ω 0 _) rfl dX10_moves_56 ?_
          refine R_iload_n (i := 3) dX10_moves_59 rfl rfl ?_
          refine R_iadd dX10_moves_60 ?_
          refine R_aload_n (i := 0) dX10_moves_61 rfl rfl ?_
          refine R_get foX10_17 hL0 (cE_10 Ω 0 _) rfl dX10_moves_62 ?_
          refine R_iconst (v := 1) dX10_moves_65 rfl ?_
          refine R_iald (WF.kid hW 2 hL0 rfl) (cE_62 Ω 0 _) (vin 1 4 rfl) dX10_moves_66 ?_
          refine R_icmp_gt (tgt := 74) dX10_moves_67 (by decide) (fun hc => ?_) (fun hc => ?_)
          · have h := hit_t h hc
            exact rnX10_moves_j74 hW k1 x2 r3 hL0 hL1 σ9  h
          · have h := hit_f h hc
            refine R_iconst (v := 1) dX10_moves_70 rfl ?_
            refine R_goto (tgt := 75) dX10_moves_71 (by decide) ?_
            exact rnX10_moves_j75 hW k1 x2 r3 1 hL0 hL1 σ9  h
      · have h := hit_f h hc
        exact R_vret dX10_moves_22 rfl h
set_option maxRecDepth 100000 in
set_option maxHeartbeats 4000000 in
theorem rnX10_movesAll_j78L28 {l : Launch} {Ω : rO} (hW : WF Ω) (k1 : Nat) (x3 : Int32) (x4 : Int32) (x5 : Int32) (hL0 : oL Ω 10 0) (hL1 : oL Ω 66 k1) (σ : rS) {K : Int32 → rS → Prop} {K0 : (Int32 ⊕ Unit) → rS → Prop} (hC : ∀ (x5 : Int32) (σ : rS), K0 (.inl x5) σ → Run l Ω cX10_movesAll RX10 6 none rmX10_movesAll K 28 [some (rf Ω 10 0), some (rf Ω 66 k1), none, some (.int x3), some (.int x4), some (.int x5)] [] σ) (hE0 : ∀ (e : Unit) (σ : rS), K0 (.inr e) σ → Run l Ω cX10_movesAll RX10 6 none rmX10_movesAll K 84 [some (rf Ω 10 0), some (rf Ω 66 k1), none, some (.int x3), none, none] [] σ) (h : hit (fX10_movesAll_j78L28 k1 x3 x4 x5 σ) K0) : Run l Ω cX10_movesAll RX10 6 none rmX10_movesAll K 78 [some (rf Ω 10 0), some (rf Ω 66 k1), none, some (.int x3), some (.int x4), some (.int x5)] [] σ := by
  unfold fX10_movesAll_j78L28 at h
  refine R_iinc (v := x5 + 1) (lv2 := [some (rf Ω 10 0), some (rf Ω 66 k1), none, some (.int x3), some (.int x4), some (.int (x5 + 1))]) dX10_movesAll_78 rfl rfl (by decide) rfl rfl ?_
  refine R_goto (tgt := 28) dX10_movesAll_81 (by decide) ?_
  exact hC (x5 + 1) σ h
set_option maxRecDepth 100000 in
set_option maxHeartbeats 4000000 in
theorem rsX10_movesAll_L28 {l : Launch} {Ω : rO} (hW : WF Ω) (k1 : Nat) (x3 : Int32) (x4 : Int32) (x5 : Int32) (hL0 : oL Ω 10 0) (hL1 : oL Ω 66 k1) (σ : rS) {K : Int32 → rS → Prop} {K0 : (Int32 ⊕ Unit) → rS → Prop} (hC : ∀ (x5 : Int32) (σ : rS), K0 (.inl x5) σ → Run l Ω cX10_movesAll RX10 6 none rmX10_movesAll K 28 [some (rf Ω 10 0), some (rf Ω 66 k1), none, some (.int x3), some (.int x4), some (.int x5)] [] σ) (hE0 : ∀ (e : Unit) (σ : rS), K0 (.inr e) σ → Run l Ω cX10_movesAll RX10 6 none rmX10_movesAll K 84 [some (rf Ω 10 0), some (rf Ω 66 k1), none, some (.int x3), none, none] [] σ) (h : hit (fX10_movesAll_L28 k1 x3 x4 x5 σ) K0) : Run l Ω cX10_movesAll RX10 6 none rmX10_movesAll K 28 [some (rf Ω 10 0), some (rf Ω 66 k1), none, some (.int x3), some (.int x4), some (.int x5)] [] σ := by
  unfold fX10_movesAll_L28 at h
  refine R_iload (i := 5) dX10_movesAll_28 rfl ?_
  refine R_aload_n (i := 1) dX10_movesAll_30 rfl rfl ?_
  refine R_iload (i := 4) dX10_movesAll_31 rfl ?_
  refine R_iconst (v := 2) dX10_movesAll_33 rfl ?_
  refine R_callSi (ctX10_of l Ω k1 x4 2 hL1 _ _ (hit_mono (hit_bd h) (fun r2 σ3 h => ?_))) okX10_of mw_1435 rfl rfl (Nat.le_of_ble_eq_true rfl) rfl rfl ⟨by decide, by decide⟩ ⟨Nat.zero_le _, Nat.zero_le _⟩ dX10_movesAll_34
  refine R_icmp_ge (tgt := 84) dX10_movesAll_37 (by decide) (fun hc => ?_) (fun hc => ?_)
  · have h := hit_f h hc
    refine R_drop (lv2 := [some (rf Ω 10 0), some (rf Ω 66 k1), none, some (.int x3), none, some (.int x5)]) 4 rfl ?_
    refine R_drop (lv2 := [some (rf Ω 10 0), some (rf Ω 66 k1), none, some (.int x3), none, none]) 5 rfl ?_
    exact hE0 () σ3 h
  · have h := hit_t h hc
    refine R_aload_n (i := 0) dX10_movesAll_40 rfl rfl ?_
    refine R_get foX10_198 hL0 (cE_10 Ω 0 _) rfl dX10_movesAll_41 ?_
    refine R_if_ne (tgt := 84) dX10_movesAll_44 (by decide) (fun hc => ?_) (fun hc => ?_)
    · have h := hit_f h hc
      refine R_drop (lv2 := [some (rf Ω 10 0), some (rf Ω 66 k1), none, some (.int x3), none, some (.int x5)]) 4 rfl ?_
      refine R_drop (lv2 := [some (rf Ω 10 0), some (rf Ω 66 k1), none, some (.int x3), none, none]) 5 rfl ?_
      exact hE0 () σ3 h
    · have h := hit_t h hc
      refine R_aload_n (i := 1) dX10_movesAll_47 rfl rfl ?_
      refine R_iload (i := 4) dX10_movesAll_48 rfl ?_
      refine R_iload (i := 5) dX10_movesAll_50 rfl ?_
      refine R_callSi (ctX10_isWeak l Ω k1 x4 x5 hL1 _ _ (hit_mono (hit_bd h) (fun r4 σ5 h => ?_))) okX10_isWeak mw_1478 rfl rfl (Nat.le_of_ble_eq_true rfl) rfl rfl ⟨by decide, by decide⟩ ⟨Nat.zero_le _, Nat.zero_le _⟩ dX10_movesAll_52
      refine R_if_ne (tgt := 78) dX10_movesAll_55 (by decide) (fun hc => ?_) (fun hc => ?_)
      · have h := hit_f h hc
        exact rnX10_movesAll_j78L28 hW k1 x3 x4 x5 hL0 hL1 σ5 hC hE0 h
      · have h := hit_t h hc
        refine R_aload_n (i := 0) dX10_movesAll_58 rfl rfl ?_
        refine R_aload_n (i := 1) dX10_movesAll_59 rfl rfl ?_
        refine R_aload_n (i := 1) dX10_movesAll_60 rfl rfl ?_
        refine R_aload_n (i := 1) dX10_movesAll_61 rfl rfl ?_
        refine R_iload (i := 4) dX10_movesAll_62 rfl ?_
        refine R_bipush (v := 7) dX10_movesAll_64 rfl ?_
        refine R_iload (i := 5) dX10_movesAll_66 rfl ?_
        refine R_iadd dX10_movesAll_68 ?_
        refine R_callSi (ctX10_of l Ω k1 x4 (7 + x5) hL1 _ _ (hit_mono (hit_bd h) (fun r6 σ7 h => ?_))) okX10_of mw_1435 rfl rfl (Nat.le_of_ble_eq_true rfl) rfl rfl ⟨by decide, by decide⟩ ⟨Nat.zero_le _, Nat.zero_le _⟩ dX10_movesAll_69
        refine R_callSi (ctX10_spotOf_ l Ω k1 r6 hL1 _ _ (hit_mono (hit_bd h) (fun r8 σ9 h => ?_))) okX10_spotOf_ mw_1432 rfl rfl (Nat.le_of_ble_eq_true rfl) rfl rfl ⟨by decide, by decide⟩ ⟨Nat.zero_le _, Nat.zero_le _⟩ dX10_movesAll_72
        refine R_callVv (ctX10_moves l Ω k1 r8 hL0 hL1 _ _ (hit_mono (hit_bd h) (fun r10 σ11 h => ?_))) okX10_moves mw_1464 hL0 (cE_10 Ω 0 _) rfl rfl (Nat.le_of_ble_eq_true rfl) rfl rfl ⟨by decide, by decide⟩ ⟨Nat.zero_le _, Nat.zero_le _⟩ dX10_movesAll_75
        exact rnX10_movesAll_j78L28 hW k1 x3 x4 x5 hL0 hL1 σ11 hC hE0 h
set_option maxRecDepth 100000 in
set_option maxHeartbeats 4000000 in
theorem rlX10_movesAll_L28 {l : Launch} {Ω : rO} (hW : WF Ω) (k1 : Nat) (x3 : Int32) (x4 : Int32) (hL0 : oL Ω 10 0) (hL1 : oL Ω 66 k1) {K : Int32 → rS → Prop} {KE : Unit → rS → Prop} (hE0 : ∀ (e : Unit) (σ : rS), KE e σ → Run l Ω cX10_movesAll RX10 6 none rmX10_movesAll K 84 [some (rf Ω 10 0), some (rf Ω 66 k1), none, some (.int x3), none, none] [] σ) : ∀ (n : Nat) (x5 : Int32) (σ : rS), hit (lp (fun (x : Int32) σ => fX10_movesAll_L28 k1 x3 x4 x σ) n x5 σ) KE → Run l Ω cX10_movesAll RX10 6 none rmX10_movesAll K 28 [some (rf Ω 10 0), some (rf Ω 66 k1), none, some (.int x3), some (.int x4), some (.int x5)] [] σ := by
  intro n
  induction n with
  | zero => intro x5 σ h; exact (h : False).elim
  | succ n ih =>
    intro x5 σ h
    exact rsX10_movesAll_L28 hW k1 x3 x4 x5 hL0 hL1 σ (fun x5 σ h => ih x5 σ h) (fun e σ h => hE0 e σ h) (hit_lp h)
set_option maxRecDepth 100000 in
set_option maxHeartbeats 4000000 in
theorem rnX10_movesAll_j84L2 {l : Launch} {Ω : rO} (hW : WF Ω) (k1 : Nat) (x3 : Int32) (hL0 : oL Ω 10 0) (hL1 : oL Ω 66 k1) (σ : rS) {K : Int32 → rS → Prop} {K0 : (Int32 ⊕ Unit) → rS → Prop} (hC : ∀ (x3 : Int32) (σ : rS), K0 (.inl x3) σ → Run l Ω cX10_movesAll RX10 6 none rmX10_movesAll K 2 [some (rf Ω 10 0), some (rf Ω 66 k1), none, some (.int x3), none, none] [] σ) (hE0 : ∀ (e : Unit) (σ : rS), K0 (.inr e) σ → Run l Ω cX10_movesAll RX10 6 none rmX10_movesAll K 90 [none, none, none, none, none, none] [] σ) (h : hit (fX10_movesAll_j84L2 k1 x3 σ) K0) : Run l Ω cX10_movesAll RX10 6 none rmX10_movesAll K 84 [some (rf Ω 10 0), some (rf Ω 66 k1), none, some (.int x3), none, none] [] σ := by
  unfold fX10_movesAll_j84L2 at h
  refine R_iinc (v := x3 + 1) (lv2 := [some (rf Ω 10 0), some (rf Ω 66 k1), none, some (.int (x3 + 1)), none, none]) dX10_movesAll_84 rfl rfl (by decide) rfl rfl ?_
  refine R_goto (tgt := 2) dX10_movesAll_87 (by decide) ?_
  exact hC (x3 + 1) σ h
set_option maxRecDepth 100000 in
set_option maxHeartbeats 4000000 in
theorem rsX10_movesAll_L2 {l : Launch} {Ω : rO} (hW : WF Ω) (k1 : Nat) (x3 : Int32) (hL0 : oL Ω 10 0) (hL1 : oL Ω 66 k1) (σ : rS) {K : Int32 → rS → Prop} {K0 : (Int32 ⊕ Unit) → rS → Prop} (hC : ∀ (x3 : Int32) (σ : rS), K0 (.inl x3) σ → Run l Ω cX10_movesAll RX10 6 none rmX10_movesAll K 2 [some (rf Ω 10 0), some (rf Ω 66 k1), none, some (.int x3), none, none] [] σ) (hE0 : ∀ (e : Unit) (σ : rS), K0 (.inr e) σ → Run l Ω cX10_movesAll RX10 6 none rmX10_movesAll K 90 [none, none, none, none, none, none] [] σ) (h : hit (fX10_movesAll_L2 k1 x3 σ) K0) : Run l Ω cX10_movesAll RX10 6 none rmX10_movesAll K 2 [some (rf Ω 10 0), some (rf Ω 66 k1), none, some (.int x3), none, none] [] σ := by
  unfold fX10_movesAll_L2 at h
  refine R_iload_n (i := 3) dX10_movesAll_2 rfl rfl ?_
  refine R_aload_n (i := 0) dX10_movesAll_3 rfl rfl ?_
  refine R_get foX10_195 hL0 (cE_10 Ω 0 _) rfl dX10_movesAll_4 ?_
  refine R_icmp_ge (tgt := 90) dX10_movesAll_7 (by decide) (fun hc => ?_) (fun hc => ?_)
  · have h := hit_f h hc
    refine R_drop (lv2 := [none, some (rf Ω 66 k1), none, some (.int x3), none, none]) 0 rfl ?_
    refine R_drop (lv2 := [none, none, none, some (.int x3), none, none]) 1 rfl ?_
    refine R_drop (lv2 := [none, none, none, none, none, none]) 3 rfl ?_
    exact hE0 () σ h
  · have h := hit_t h hc
    refine R_aload_n (i := 0) dX10_movesAll_10 rfl rfl ?_
    refine R_get foX10_198 hL0 (cE_10 Ω 0 _) rfl dX10_movesAll_11 ?_
    refine R_if_ne (tgt := 90) dX10_movesAll_14 (by decide) (fun hc => ?_) (fun hc => ?_)
    · have h := hit_f h hc
      refine R_drop (lv2 := [none, some (rf Ω 66 k1), none, some (.int x3), none, none]) 0 rfl ?_
      refine R_drop (lv2 := [none, none, none, some (.int x3), none, none]) 1 rfl ?_
      refine R_drop (lv2 := [none, none, none, none, none, none]) 3 rfl ?_
      exact hE0 () σ h
    · have h := hit_t h hc
      refine R_aload_n (i := 0) dX10_movesAll_17 rfl rfl ?_
      refine R_get foX10_49 hL0 (cE_10 Ω 0 _) rfl dX10_movesAll_18 ?_
      refine R_iload_n (i := 3) dX10_movesAll_21 rfl rfl ?_
      obtain ⟨hb, h⟩ := hit_bnd h
      refine R_iald (WF.kid hW 12 hL0 rfl) (cE_69 Ω 0 _) hb dX10_movesAll_22 ?_
      refine R_topi h (fun y1 h => ?_)
      refine R_istore (lv2 := [some (rf Ω 10 0), some (rf Ω 66 k1), none, some (.int x3), some (.int y1), none]) dX10_movesAll_23 (by decide) rfl rfl ?_
      refine R_iconst (v := 0) dX10_movesAll_25 rfl ?_
      refine R_istore (lv2 := [some (rf Ω 10 0), some (rf Ω 66 k1), none, some (.int x3), some (.int y1), some (.int 0)]) dX10_movesAll_26 (by decide) rfl rfl ?_
      refine rlX10_movesAll_L28 hW k1 x3 y1 hL0 hL1 ?_ fu 0 σ (hit_bd h)
      · intro e13 σ12 h
        try dsimp only at h
        exact rnX10_movesAll_j84L2 hW k1 x3 hL0 hL1 σ12 hC hE0 h
set_option maxRecDepth 100000 in
set_option maxHeartbeats 4000000 in
theorem rlX10_movesAll_L2 {l : Launch} {Ω : rO} (hW : WF Ω) (k1 : Nat) (hL0 : oL Ω 10 0) (hL1 : oL Ω 66 k1) {K : Int32 → rS → Prop} {KE : Unit → rS → Prop} (hE0 : ∀ (e : Unit) (σ : rS), KE e σ → Run l Ω cX10_movesAll RX10 6 none rmX10_movesAll K 90 [none, none, none, none, none, none] [] σ) : ∀ (n : Nat) (x3 : Int32) (σ : rS), hit (lp (fun (x : Int32) σ => fX10_movesAll_L2 k1 x σ) n x3 σ) KE → Run l Ω cX10_movesAll RX10 6 none rmX10_movesAll K 2 [some (rf Ω 10 0), some (rf Ω 66 k1), none, some (.int x3), none, none] [] σ := by
  intro n
  induction n with
  | zero => intro x3 σ h; exact (h : False).elim
  | succ n ih =>
    intro x3 σ h
    exact rsX10_movesAll_L2 hW k1 x3 hL0 hL1 σ (fun x3 σ h => ih x3 σ h) (fun e σ h => hE0 e σ h) (hit_lp h)
set_option maxRecDepth 100000 in
set_option maxHeartbeats 4000000 in
theorem ctX10_movesAll (l : Launch) (Ω : rO) (k1 : Nat) (x2 : Int32) (hL0 : oL Ω 10 0) (hL1 : oL Ω 66 k1) (σ : rS) (K : Int32 → rS → Prop) (h : hit (fX10_movesAll k1 x2 σ) K) : Ct l Ω yX10_movesAll cX10_movesAll 6 none rmX10_movesAll [rf Ω 10 0, rf Ω 66 k1, .int x2] σ K := by
  refine Ct.of (own := RX10) (lv := [some (rf Ω 10 0), some (rf Ω 66 k1), some (.int x2), none, none, none]) (by decide) rfl (Nat.le_of_ble_eq_true rfl) rfl (fun hW => ?_)
  unfold fX10_movesAll at h
  refine R_iload_n (i := 2) dX10_movesAll_0 rfl rfl ?_
  refine R_istore_n (lv2 := [some (rf Ω 10 0), some (rf Ω 66 k1), some (.int x2), some (.int x2), none, none]) dX10_movesAll_1 rfl (by decide) rfl rfl ?_
  refine R_drop (lv2 := [some (rf Ω 10 0), some (rf Ω 66 k1), none, some (.int x2), none, none]) 2 rfl ?_
  refine rlX10_movesAll_L2 hW k1 hL0 hL1 ?_ fu x2 σ (hit_bd h)
  · intro e15 σ14 h
    try dsimp only at h
    exact R_vret dX10_movesAll_90 rfl h
set_option maxRecDepth 100000 in
set_option maxHeartbeats 4000000 in
theorem rsX10_movesReached_L2 {l : Launch} {Ω : rO} (hW : WF Ω) (k1 : Nat) (x2 : Int32) (hL0 : oL Ω 10 0) (hL1 : oL Ω 66 k1) (σ : rS) {K : Int32 → rS → Prop} {K0 : (Int32 ⊕ Unit) → rS → Prop} (hC : ∀ (x2 : Int32) (σ : rS), K0 (.inl x2) σ → Run l Ω cX10_movesReached RX10 5 none rmX10_movesReached K 2 [some (rf Ω 10 0), some (rf Ω 66 k1), some (.int x2), none, none] [] σ) (hE0 : ∀ (e : Unit) (σ : rS), K0 (.inr e) σ → Run l Ω cX10_movesReached RX10 5 none rmX10_movesReached K 37 [some (rf Ω 10 0), some (rf Ω 66 k1), none, none, none] [] σ) (h : hit (fX10_movesReached_L2 k1 x2 σ) K0) : Run l Ω cX10_movesReached RX10 5 none rmX10_movesReached K 2 [some (rf Ω 10 0), some (rf Ω 66 k1), some (.int x2), none, none] [] σ := by
  unfold fX10_movesReached_L2 at h
  refine R_iload_n (i := 2) dX10_movesReached_2 rfl rfl ?_
  refine R_bipush (v := 8) dX10_movesReached_3 rfl ?_
  refine R_icmp_ge (tgt := 37) dX10_movesReached_5 (by decide) (fun hc => ?_) (fun hc => ?_)
  · have h := hit_f h hc
    refine R_drop (lv2 := [some (rf Ω 10 0), some (rf Ω 66 k1), none, none, none]) 2 rfl ?_
    exact hE0 () σ h
  · have h := hit_t h hc
    refine R_aload_n (i := 0) dX10_movesReached_8 rfl rfl ?_
    refine R_get foX10_198 hL0 (cE_10 Ω 0 _) rfl dX10_movesReached_9 ?_
    refine R_if_ne (tgt := 37) dX10_movesReached_12 (by decide) (fun hc => ?_) (fun hc => ?_)
    · have h := hit_f h hc
      refine R_drop (lv2 := [some (rf Ω 10 0), some (rf Ω 66 k1), none, none, none]) 2 rfl ?_
      exact hE0 () σ h
    · have h := hit_t h hc
      refine R_aload_n (i := 0) dX10_movesReached_15 rfl rfl ?_
      refine R_aload_n (i := 1) dX10_movesReached_16 rfl rfl ?_
      refine R_aload_n (i := 1) dX10_movesReached_17 rfl rfl ?_
      refine R_aload_n (i := 1) dX10_movesReached_18 rfl rfl ?_
      refine R_sipush (v := 881) dX10_movesReached_19 rfl ?_
      refine R_iload_n (i := 2) dX10_movesReached_22 rfl rfl ?_
      refine R_iadd dX10_movesReached_23 ?_
      obtain ⟨hb, h⟩ := hit_bnd h
      refine R_iald hL1 (cE_66 Ω k1 _) hb dX10_movesReached_24 ?_
      refine R_callSi (ctX10_spotOf_ l Ω k1 (σ 66 k1 (ix (881 + x2))) hL1 _ _ (hit_mono (hit_bd h) (fun r1 σ2 h => ?_))) okX10_spotOf_ mw_1432 rfl rfl (Nat.le_of_ble_eq_true rfl) rfl rfl ⟨by decide, by decide⟩ ⟨Nat.zero_le _, Nat.zero_le _⟩ dX10_movesReached_25
      refine R_callVv (ctX10_moves l Ω k1 r1 hL0 hL1 _ _ (hit_mono (hit_bd h) (fun r3 σ4 h => ?_))) okX10_moves mw_1464 hL0 (cE_10 Ω 0 _) rfl rfl (Nat.le_of_ble_eq_true rfl) rfl rfl ⟨by decide, by decide⟩ ⟨Nat.zero_le _, Nat.zero_le _⟩ dX10_movesReached_28
      refine R_iinc (v := x2 + 1) (lv2 := [some (rf Ω 10 0), some (rf Ω 66 k1), some (.int (x2 + 1)), none, none]) dX10_movesReached_31 rfl rfl (by decide) rfl rfl ?_
      refine R_goto (tgt := 2) dX10_movesReached_34 (by decide) ?_
      exact hC (x2 + 1) σ4 h
set_option maxRecDepth 100000 in
set_option maxHeartbeats 4000000 in
theorem rlX10_movesReached_L2 {l : Launch} {Ω : rO} (hW : WF Ω) (k1 : Nat) (hL0 : oL Ω 10 0) (hL1 : oL Ω 66 k1) {K : Int32 → rS → Prop} {KE : Unit → rS → Prop} (hE0 : ∀ (e : Unit) (σ : rS), KE e σ → Run l Ω cX10_movesReached RX10 5 none rmX10_movesReached K 37 [some (rf Ω 10 0), some (rf Ω 66 k1), none, none, none] [] σ) : ∀ (n : Nat) (x2 : Int32) (σ : rS), hit (lp (fun (x : Int32) σ => fX10_movesReached_L2 k1 x σ) n x2 σ) KE → Run l Ω cX10_movesReached RX10 5 none rmX10_movesReached K 2 [some (rf Ω 10 0), some (rf Ω 66 k1), some (.int x2), none, none] [] σ := by
  intro n
  induction n with
  | zero => intro x2 σ h; exact (h : False).elim
  | succ n ih =>
    intro x2 σ h
    exact rsX10_movesReached_L2 hW k1 x2 hL0 hL1 σ (fun x2 σ h => ih x2 σ h) (fun e σ h => hE0 e σ h) (hit_lp h)
set_option maxRecDepth 100000 in
set_option maxHeartbeats 4000000 in
theorem rsX10_movesReached_L39 {l : Launch} {Ω : rO} (hW : WF Ω) (k1 : Nat) (x2 : Int32) (hL0 : oL Ω 10 0) (hL1 : oL Ω 66 k1) (σ : rS) {K : Int32 → rS → Prop} {K0 : (Int32 ⊕ Unit) → rS → Prop} (hC : ∀ (x2 : Int32) (σ : rS), K0 (.inl x2) σ → Run l Ω cX10_movesReached RX10 5 none rmX10_movesReached K 39 [some (rf Ω 10 0), some (rf Ω 66 k1), some (.int x2), none, none] [] σ) (hE0 : ∀ (e : Unit) (σ : rS), K0 (.inr e) σ → Run l Ω cX10_movesReached RX10 5 none rmX10_movesReached K 77 [some (rf Ω 10 0), some (rf Ω 66 k1), none, none, none] [] σ) (h : hit (fX10_movesReached_L39 k1 x2 σ) K0) : Run l Ω cX10_movesReached RX10 5 none rmX10_movesReached K 39 [some (rf Ω 10 0), some (rf Ω 66 k1), some (.int x2), none, none] [] σ := by
  unfold fX10_movesReached_L39 at h
  refine R_iload_n (i := 2) dX10_movesReached_39 rfl rfl ?_
  refine R_aload_n (i := 1) dX10_movesReached_40 rfl rfl ?_
  refine R_sipush (v := 1242) dX10_movesReached_41 rfl ?_
  refine R_iald hL1 (cE_66 Ω k1 _) (vin 1242 1554 rfl) dX10_movesReached_44 ?_
  refine R_icmp_ge (tgt := 77) dX10_movesReached_45 (by decide) (fun hc => ?_) (fun hc => ?_)
  · have h := hit_f h hc
    refine R_drop (lv2 := [some (rf Ω 10 0), some (rf Ω 66 k1), none, none, none]) 2 rfl ?_
    exact hE0 () σ h
  · have h := hit_t h hc
    refine R_aload_n (i := 0) dX10_movesReached_48 rfl rfl ?_
    refine R_get foX10_198 hL0 (cE_10 Ω 0 _) rfl dX10_movesReached_49 ?_
    refine R_if_ne (tgt := 77) dX10_movesReached_52 (by decide) (fun hc => ?_) (fun hc => ?_)
    · have h := hit_f h hc
      refine R_drop (lv2 := [some (rf Ω 10 0), some (rf Ω 66 k1), none, none, none]) 2 rfl ?_
      exact hE0 () σ h
    · have h := hit_t h hc
      refine R_aload_n (i := 0) dX10_movesReached_55 rfl rfl ?_
      refine R_aload_n (i := 1) dX10_movesReached_56 rfl rfl ?_
      refine R_aload_n (i := 1) dX10_movesReached_57 rfl rfl ?_
      refine R_aload_n (i := 1) dX10_movesReached_58 rfl rfl ?_
      refine R_sipush (v := 1243) dX10_movesReached_59 rfl ?_
      refine R_iload_n (i := 2) dX10_movesReached_62 rfl rfl ?_
      refine R_iadd dX10_movesReached_63 ?_
      obtain ⟨hb, h⟩ := hit_bnd h
      refine R_iald hL1 (cE_66 Ω k1 _) hb dX10_movesReached_64 ?_
      refine R_callSi (ctX10_spotOf_ l Ω k1 (σ 66 k1 (ix (1243 + x2))) hL1 _ _ (hit_mono (hit_bd h) (fun r7 σ8 h => ?_))) okX10_spotOf_ mw_1432 rfl rfl (Nat.le_of_ble_eq_true rfl) rfl rfl ⟨by decide, by decide⟩ ⟨Nat.zero_le _, Nat.zero_le _⟩ dX10_movesReached_65
      refine R_callVv (ctX10_moves l Ω k1 r7 hL0 hL1 _ _ (hit_mono (hit_bd h) (fun r9 σ10 h => ?_))) okX10_moves mw_1464 hL0 (cE_10 Ω 0 _) rfl rfl (Nat.le_of_ble_eq_true rfl) rfl rfl ⟨by decide, by decide⟩ ⟨Nat.zero_le _, Nat.zero_le _⟩ dX10_movesReached_68
      refine R_iinc (v := x2 + 1) (lv2 := [some (rf Ω 10 0), some (rf Ω 66 k1), some (.int (x2 + 1)), none, none]) dX10_movesReached_71 rfl rfl (by decide) rfl rfl ?_
      refine R_goto (tgt := 39) dX10_movesReached_74 (by decide) ?_
      exact hC (x2 + 1) σ10 h
set_option maxRecDepth 100000 in
set_option maxHeartbeats 4000000 in
theorem rlX10_movesReached_L39 {l : Launch} {Ω : rO} (hW : WF Ω) (k1 : Nat) (hL0 : oL Ω 10 0) (hL1 : oL Ω 66 k1) {K : Int32 → rS → Prop} {KE : Unit → rS → Prop} (hE0 : ∀ (e : Unit) (σ : rS), KE e σ → Run l Ω cX10_movesReached RX10 5 none rmX10_movesReached K 77 [some (rf Ω 10 0), some (rf Ω 66 k1), none, none, none] [] σ) : ∀ (n : Nat) (x2 : Int32) (σ : rS), hit (lp (fun (x : Int32) σ => fX10_movesReached_L39 k1 x σ) n x2 σ) KE → Run l Ω cX10_movesReached RX10 5 none rmX10_movesReached K 39 [some (rf Ω 10 0), some (rf Ω 66 k1), some (.int x2), none, none] [] σ := by
  intro n
  induction n with
  | zero => intro x2 σ h; exact (h : False).elim
  | succ n ih =>
    intro x2 σ h
    exact rsX10_movesReached_L39 hW k1 x2 hL0 hL1 σ (fun x2 σ h => ih x2 σ h) (fun e σ h => hE0 e σ h) (hit_lp h)
set_option maxRecDepth 100000 in
set_option maxHeartbeats 4000000 in
theorem rnX10_movesReached_j149L79 {l : Launch} {Ω : rO} (hW : WF Ω) (k1 : Nat) (x2 : Int32) (hL0 : oL Ω 10 0) (hL1 : oL Ω 66 k1) (σ : rS) {K : Int32 → rS → Prop} {K0 : (Int32 ⊕ Unit) → rS → Prop} (hC : ∀ (x2 : Int32) (σ : rS), K0 (.inl x2) σ → Run l Ω cX10_movesReached RX10 5 none rmX10_movesReached K 79 [some (rf Ω 10 0), some (rf Ω 66 k1), some (.int x2), none, none] [] σ) (hE0 : ∀ (e : Unit) (σ : rS), K0 (.inr e) σ → Run l Ω cX10_movesReached RX10 5 none rmX10_movesReached K 155 [some (rf Ω 10 0), some (rf Ω 66 k1), none, none, none] [] σ) (h : hit (fX10_movesReached_j149L79 k1 x2 σ) K0) : Run l Ω cX10_movesReached RX10 5 none rmX10_movesReached K 149 [some (rf Ω 10 0), some (rf Ω 66 k1), some (.int x2), none, none] [] σ := by
  unfold fX10_movesReached_j149L79 at h
  refine R_iinc (v := x2 + 1) (lv2 := [some (rf Ω 10 0), some (rf Ω 66 k1), some (.int (x2 + 1)), none, none]) dX10_movesReached_149 rfl rfl (by decide) rfl rfl ?_
  refine R_goto (tgt := 79) dX10_movesReached_152 (by decide) ?_
  exact hC (x2 + 1) σ h
set_option maxRecDepth 100000 in
set_option maxHeartbeats 4000000 in
theorem rsX10_movesReached_L79 {l : Launch} {Ω : rO} (hW : WF Ω) (k1 : Nat) (x2 : Int32) (hL0 : oL Ω 10 0) (hL1 : oL Ω 66 k1) (σ : rS) {K : Int32 → rS → Prop} {K0 : (Int32 ⊕ Unit) → rS → Prop} (hC : ∀ (x2 : Int32) (σ : rS), K0 (.inl x2) σ → Run l Ω cX10_movesReached RX10 5 none rmX10_movesReached K 79 [some (rf Ω 10 0), some (rf Ω 66 k1), some (.int x2), none, none] [] σ) (hE0 : ∀ (e : Unit) (σ : rS), K0 (.inr e) σ → Run l Ω cX10_movesReached RX10 5 none rmX10_movesReached K 155 [some (rf Ω 10 0), some (rf Ω 66 k1), none, none, none] [] σ) (h : hit (fX10_movesReached_L79 k1 x2 σ) K0) : Run l Ω cX10_movesReached RX10 5 none rmX10_movesReached K 79 [some (rf Ω 10 0), some (rf Ω 66 k1), some (.int x2), none, none] [] σ := by
  unfold fX10_movesReached_L79 at h
  refine R_iload_n (i := 2) dX10_movesReached_79 rfl rfl ?_
  refine R_aload_n (i := 1) dX10_movesReached_80 rfl rfl ?_
  refine R_sipush (v := 889) dX10_movesReached_81 rfl ?_
  refine R_iald hL1 (cE_66 Ω k1 _) (vin 889 1554 rfl) dX10_movesReached_84 ?_
  refine R_icmp_ge (tgt := 155) dX10_movesReached_85 (by decide) (fun hc => ?_) (fun hc => ?_)
  · have h := hit_f h hc
    refine R_drop (lv2 := [some (rf Ω 10 0), some (rf Ω 66 k1), none, none, none]) 2 rfl ?_
    exact hE0 () σ h
  · have h := hit_t h hc
    refine R_aload_n (i := 0) dX10_movesReached_88 rfl rfl ?_
    refine R_get foX10_198 hL0 (cE_10 Ω 0 _) rfl dX10_movesReached_89 ?_
    refine R_if_ne (tgt := 155) dX10_movesReached_92 (by decide) (fun hc => ?_) (fun hc => ?_)
    · have h := hit_f h hc
      refine R_drop (lv2 := [some (rf Ω 10 0), some (rf Ω 66 k1), none, none, none]) 2 rfl ?_
      exact hE0 () σ h
    · have h := hit_t h hc
      refine R_aload_n (i := 1) dX10_movesReached_95 rfl rfl ?_
      refine R_aload_n (i := 1) dX10_movesReached_96 rfl rfl ?_
      refine R_sipush (v := 890) dX10_movesReached_97 rfl ?_
      refine R_iconst (v := 2) dX10_movesReached_100 rfl ?_
      refine R_iload_n (i := 2) dX10_movesReached_101 rfl rfl ?_
      refine R_imul dX10_movesReached_102 ?_
      refine R_iadd dX10_movesReached_103 ?_
      obtain ⟨hb, h⟩ := hit_bnd h
      refine R_iald hL1 (cE_66 Ω k1 _) hb dX10_movesReached_104 ?_
      refine R_callSi (ctX10_spotOf_ l Ω k1 (σ 66 k1 (ix (890 + (2 * x2)))) hL1 _ _ (hit_mono (hit_bd h) (fun r13 σ14 h => ?_))) okX10_spotOf_ mw_1432 rfl rfl (Nat.le_of_ble_eq_true rfl) rfl rfl ⟨by decide, by decide⟩ ⟨Nat.zero_le _, Nat.zero_le _⟩ dX10_movesReached_105
      refine R_istore_n (lv2 := [some (rf Ω 10 0), some (rf Ω 66 k1), some (.int x2), some (.int r13), none]) dX10_movesReached_108 rfl (by decide) rfl rfl ?_
      refine R_aload_n (i := 1) dX10_movesReached_109 rfl rfl ?_
      refine R_sipush (v := 891) dX10_movesReached_110 rfl ?_
      refine R_iconst (v := 2) dX10_movesReached_113 rfl ?_
      refine R_iload_n (i := 2) dX10_movesReached_114 rfl rfl ?_
      refine R_imul dX10_movesReached_115 ?_
      refine R_iadd dX10_movesReached_116 ?_
      obtain ⟨hb, h⟩ := hit_bnd h
      refine R_iald hL1 (cE_66 Ω k1 _) hb dX10_movesReached_117 ?_
      refine R_topi h (fun y15 h => ?_)
      refine R_istore (lv2 := [some (rf Ω 10 0), some (rf Ω 66 k1), some (.int x2), some (.int r13), some (.int y15)]) dX10_movesReached_118 (by decide) rfl rfl ?_
      refine R_aload_n (i := 1) dX10_movesReached_120 rfl rfl ?_
      refine R_iload_n (i := 3) dX10_movesReached_121 rfl rfl ?_
      refine R_iload (i := 4) dX10_movesReached_122 rfl ?_
      refine R_callSi (ctX10_isWeak l Ω k1 r13 y15 hL1 _ _ (hit_mono (hit_bd h) (fun r16 σ17 h => ?_))) okX10_isWeak mw_1478 rfl rfl (Nat.le_of_ble_eq_true rfl) rfl rfl ⟨by decide, by decide⟩ ⟨Nat.zero_le _, Nat.zero_le _⟩ dX10_movesReached_124
      refine R_if_ne (tgt := 149) dX10_movesReached_127 (by decide) (fun hc => ?_) (fun hc => ?_)
      · have h := hit_f h hc
        refine R_drop (lv2 := [some (rf Ω 10 0), some (rf Ω 66 k1), some (.int x2), none, some (.int y15)]) 3 rfl ?_
        refine R_drop (lv2 := [some (rf Ω 10 0), some (rf Ω 66 k1), some (.int x2), none, none]) 4 rfl ?_
        exact rnX10_movesReached_j149L79 hW k1 x2 hL0 hL1 σ17 hC hE0 h
      · have h := hit_t h hc
        refine R_aload_n (i := 0) dX10_movesReached_130 rfl rfl ?_
        refine R_aload_n (i := 1) dX10_movesReached_131 rfl rfl ?_
        refine R_aload_n (i := 1) dX10_movesReached_132 rfl rfl ?_
        refine R_aload_n (i := 1) dX10_movesReached_133 rfl rfl ?_
        refine R_iload_n (i := 3) dX10_movesReached_134 rfl rfl ?_
        refine R_bipush (v := 7) dX10_movesReached_135 rfl ?_
        refine R_iload (i := 4) dX10_movesReached_137 rfl ?_
        refine R_iadd dX10_movesReached_139 ?_
        refine R_callSi (ctX10_of l Ω k1 r13 (7 + y15) hL1 _ _ (hit_mono (hit_bd h) (fun r18 σ19 h => ?_))) okX10_of mw_1435 rfl rfl (Nat.le_of_ble_eq_true rfl) rfl rfl ⟨by decide, by decide⟩ ⟨Nat.zero_le _, Nat.zero_le _⟩ dX10_movesReached_140
        refine R_callSi (ctX10_spotOf_ l Ω k1 r18 hL1 _ _ (hit_mono (hit_bd h) (fun r20 σ21 h => ?_))) okX10_spotOf_ mw_1432 rfl rfl (Nat.le_of_ble_eq_true rfl) rfl rfl ⟨by decide, by decide⟩ ⟨Nat.zero_le _, Nat.zero_le _⟩ dX10_movesReached_143
        refine R_callVv (ctX10_moves l Ω k1 r20 hL0 hL1 _ _ (hit_mono (hit_bd h) (fun r22 σ23 h => ?_))) okX10_moves mw_1464 hL0 (cE_10 Ω 0 _) rfl rfl (Nat.le_of_ble_eq_true rfl) rfl rfl ⟨by decide, by decide⟩ ⟨Nat.zero_le _, Nat.zero_le _⟩ dX10_movesReached_146
        refine R_drop (lv2 := [some (rf Ω 10 0), some (rf Ω 66 k1), some (.int x2), none, some (.int y15)]) 3 rfl ?_
        refine R_drop (lv2 := [some (rf Ω 10 0), some (rf Ω 66 k1), some (.int x2), none, none]) 4 rfl ?_
        exact rnX10_movesReached_j149L79 hW k1 x2 hL0 hL1 σ23 hC hE0 h
set_option maxRecDepth 100000 in
set_option maxHeartbeats 4000000 in
theorem rlX10_movesReached_L79 {l : Launch} {Ω : rO} (hW : WF Ω) (k1 : Nat) (hL0 : oL Ω 10 0) (hL1 : oL Ω 66 k1) {K : Int32 → rS → Prop} {KE : Unit → rS → Prop} (hE0 : ∀ (e : Unit) (σ : rS), KE e σ → Run l Ω cX10_movesReached RX10 5 none rmX10_movesReached K 155 [some (rf Ω 10 0), some (rf Ω 66 k1), none, none, none] [] σ) : ∀ (n : Nat) (x2 : Int32) (σ : rS), hit (lp (fun (x : Int32) σ => fX10_movesReached_L79 k1 x σ) n x2 σ) KE → Run l Ω cX10_movesReached RX10 5 none rmX10_movesReached K 79 [some (rf Ω 10 0), some (rf Ω 66 k1), some (.int x2), none, none] [] σ := by
  intro n
  induction n with
  | zero => intro x2 σ h; exact (h : False).elim
  | succ n ih =>
    intro x2 σ h
    exact rsX10_movesReached_L79 hW k1 x2 hL0 hL1 σ (fun x2 σ h => ih x2 σ h) (fun e σ h => hE0 e σ h) (hit_lp h)
set_option maxRecDepth 100000 in
set_option maxHeartbeats 4000000 in
theorem rnX10_movesReached_j155 {l : Launch} {Ω : rO} (hW : WF Ω) (k1 : Nat) (hL0 : oL Ω 10 0) (hL1 : oL Ω 66 k1) (σ : rS) {K : Int32 → rS → Prop}  (h : hit (fX10_movesReached_j155 k1 σ) K) : Run l Ω cX10_movesReached RX10 5 none rmX10_movesReached K 155 [some (rf Ω 10 0), some (rf Ω 66 k1), none, none, none] [] σ := by
  unfold fX10_movesReached_j155 at h
  refine R_aload_n (i := 0) dX10_movesReached_155 rfl rfl ?_
  refine R_aload_n (i := 1) dX10_movesReached_156 rfl rfl ?_
  refine R_iconst (v := 0) dX10_movesReached_157 rfl ?_
  refine R_callVv (ctX10_movesAll l Ω k1 0 hL0 hL1 _ _ (hit_mono (hit_bd h) (fun r26 σ27 h => ?_))) okX10_movesAll mw_1481 hL0 (cE_10 Ω 0 _) rfl rfl (Nat.le_of_ble_eq_true rfl) rfl rfl ⟨by decide, by decide⟩ ⟨Nat.zero_le _, Nat.zero_le _⟩ dX10_movesReached_158
  exact R_vret dX10_movesReached_161 rfl h
set_option maxRecDepth 100000 in
set_option maxHeartbeats 4000000 in
theorem rnX10_movesReached_j77 {l : Launch} {Ω : rO} (hW : WF Ω) (k1 : Nat) (hL0 : oL Ω 10 0) (hL1 : oL Ω 66 k1) (σ : rS) {K : Int32 → rS → Prop}  (h : hit (fX10_movesReached_j77 k1 σ) K) : Run l Ω cX10_movesReached RX10 5 none rmX10_movesReached K 77 [some (rf Ω 10 0), some (rf Ω 66 k1), none, none, none] [] σ := by
  unfold fX10_movesReached_j77 at h
  refine R_iconst (v := 0) dX10_movesReached_77 rfl ?_
  refine R_istore_n (lv2 := [some (rf Ω 10 0), some (rf Ω 66 k1), some (.int 0), none, none]) dX10_movesReached_78 rfl (by decide) rfl rfl ?_
  refine rlX10_movesReached_L79 hW k1 hL0 hL1 ?_ fu 0 σ (hit_bd h)
  · intro e25 σ24 h
    try dsimp only at h
    exact rnX10_movesReached_j155 hW k1 hL0 hL1 σ24  h
set_option maxRecDepth 100000 in
set_option maxHeartbeats 4000000 in
theorem rnX10_movesReached_j37 {l : Launch} {Ω : rO} (hW : WF Ω) (k1 : Nat) (hL0 : oL Ω 10 0) (hL1 : oL Ω 66 k1) (σ : rS) {K : Int32 → rS → Prop}  (h : hit (fX10_movesReached_j37 k1 σ) K) : Run l Ω cX10_movesReached RX10 5 none rmX10_movesReached K 37 [some (rf Ω 10 0), some (rf Ω 66 k1), none, none, none] [] σ := by
  unfold fX10_movesReached_j37 at h
  refine R_iconst (v := 0) dX10_movesReached_37 rfl ?_
  refine R_istore_n (lv2 := [some (rf Ω 10 0), some (rf Ω 66 k1), some (.int 0), none, none]) dX10_movesReached_38 rfl (by decide) rfl rfl ?_
  refine rlX10_movesReached_L39 hW k1 hL0 hL1 ?_ fu 0 σ (hit_bd h)
  · intro e12 σ11 h
    try dsimp only at h
    exact rnX10_movesReached_j77 hW k1 hL0 hL1 σ11  h
set_option maxRecDepth 100000 in
set_option maxHeartbeats 4000000 in
theorem ctX10_movesReached (l : Launch) (Ω : rO) (k1 : Nat) (hL0 : oL Ω 10 0) (hL1 : oL Ω 66 k1) (σ : rS) (K : Int32 → rS → Prop) (h : hit (fX10_movesReached k1 σ) K) : Ct l Ω yX10_movesReached cX10_movesReached 5 none rmX10_movesReached [rf Ω 10 0, rf Ω 66 k1] σ K := by
  refine Ct.of (own := RX10) (lv := [some (rf Ω 10 0), some (rf Ω 66 k1), none, none, none]) (by decide) rfl (Nat.le_of_ble_eq_true rfl) rfl (fun hW => ?_)
  unfold fX10_movesReached at h
  refine R_iconst (v := 0) dX10_movesReached_0 rfl ?_
  refine R_istore_n (lv2 := [some (rf Ω 10 0), some (rf Ω 66 k1), some (.int 0), none, none]) dX10_movesReached_1 rfl (by decide) rfl rfl ?_
  refine rlX10_movesReached_L2 hW k1 hL0 hL1 ?_ fu 0 σ (hit_bd h)
  · intro e6 σ5 h
    try dsimp only at h
    exact rnX10_movesReached_j37 hW k1 hL0 hL1 σ5  h
set_option maxRecDepth 100000 in
set_option maxHeartbeats 4000000 in
theorem rsX10_isMetBehind_L2 {l : Launch} {Ω : rO} (hW : WF Ω) (x1 : Int32) (x3 : Int32) (hL0 : oL Ω 10 0) (σ : rS) {K : Int32 → rS → Prop} {K0 : (Int32 ⊕ (Unit ⊕ Unit)) → rS → Prop} (hC : ∀ (x3 : Int32) (σ : rS), K0 (.inl x3) σ → Run l Ω cX10_isMetBehind RX10 4 (some .boolean) rmX10_isMetBehind K 2 [some (rf Ω 10 0), some (.int x1), none, some (.int x3)] [] σ) (hE0 : ∀ (e : Unit) (σ : rS), K0 (.inr (.inl e)) σ → Run l Ω cX10_isMetBehind RX10 4 (some .boolean) rmX10_isMetBehind K 20 [none, none, none, none] [] σ) (hE1 : ∀ (e : Unit) (σ : rS), K0 (.inr (.inr e)) σ → Run l Ω cX10_isMetBehind RX10 4 (some .boolean) rmX10_isMetBehind K 28 [none, none, none, none] [] σ) (h : hit (fX10_isMetBehind_L2 x1 x3 σ) K0) : Run l Ω cX10_isMetBehind RX10 4 (some .boolean) rmX10_isMetBehind K 2 [some (rf Ω 10 0), some (.int x1), none, some (.int x3)] [] σ := by
  unfold fX10_isMetBehind_L2 at h
  refine R_iload_n (i := 3) dX10_isMetBehind_2 rfl rfl ?_
  refine R_aload_n (i := 0) dX10_isMetBehind_3 rfl rfl ?_
  refine R_get foX10_195 hL0 (cE_10 Ω 0 _) rfl dX10_isMetBehind_4 ?_
  refine R_icmp_ge (tgt := 28) dX10_isMetBehind_7 (by decide) (fun hc => ?_) (fun hc => ?_)
  · have h := hit_f h hc
    refine R_drop (lv2 := [none, some (.int x1), none, some (.int x3)]) 0 rfl ?_
    refine R_drop (lv2 := [none, none, none, some (.int x3)]) 1 rfl ?_
    refine R_drop (lv2 := [none, none, none, none]) 3 rfl ?_
    exact hE1 () σ h
  · have h := hit_t h hc
    refine R_aload_n (i := 0) dX10_isMetBehind_10 rfl rfl ?_
    refine R_get foX10_49 hL0 (cE_10 Ω 0 _) rfl dX10_isMetBehind_11 ?_
    refine R_iload_n (i := 3) dX10_isMetBehind_14 rfl rfl ?_
    obtain ⟨hb, h⟩ := hit_bnd h
    refine R_iald (WF.kid hW 12 hL0 rfl) (cE_69 Ω 0 _) hb dX10_isMetBehind_15 ?_
    refine R_iload_n (i := 1) dX10_isMetBehind_16 rfl rfl ?_
    refine R_icmp_ne (tgt := 22) dX10_isMetBehind_17 (by decide) (fun hc => ?_) (fun hc => ?_)
    · have h := hit_f h hc
      refine R_iinc (v := x3 + 1) (lv2 := [some (rf Ω 10 0), some (.int x1), none, some (.int (x3 + 1))]) dX10_isMetBehind_22 rfl rfl (by decide) rfl rfl ?_
      refine R_goto (tgt := 2) dX10_isMetBehind_25 (by decide) ?_
      exact hC (x3 + 1) σ h
    · have h := hit_t h hc
      refine R_drop (lv2 := [none, some (.int x1), none, some (.int x3)]) 0 rfl ?_
      refine R_drop (lv2 := [none, none, none, some (.int x3)]) 1 rfl ?_
      refine R_drop (lv2 := [none, none, none, none]) 3 rfl ?_
      exact hE0 () σ h
set_option maxRecDepth 100000 in
set_option maxHeartbeats 4000000 in
theorem rlX10_isMetBehind_L2 {l : Launch} {Ω : rO} (hW : WF Ω) (x1 : Int32) (hL0 : oL Ω 10 0) {K : Int32 → rS → Prop} {KE : (Unit ⊕ Unit) → rS → Prop} (hE0 : ∀ (e : Unit) (σ : rS), KE (.inl e) σ → Run l Ω cX10_isMetBehind RX10 4 (some .boolean) rmX10_isMetBehind K 20 [none, none, none, none] [] σ) (hE1 : ∀ (e : Unit) (σ : rS), KE (.inr e) σ → Run l Ω cX10_isMetBehind RX10 4 (some .boolean) rmX10_isMetBehind K 28 [none, none, none, none] [] σ) : ∀ (n : Nat) (x3 : Int32) (σ : rS), hit (lp (fun (x : Int32) σ => fX10_isMetBehind_L2 x1 x σ) n x3 σ) KE → Run l Ω cX10_isMetBehind RX10 4 (some .boolean) rmX10_isMetBehind K 2 [some (rf Ω 10 0), some (.int x1), none, some (.int x3)] [] σ := by
  intro n
  induction n with
  | zero => intro x3 σ h; exact (h : False).elim
  | succ n ih =>
    intro x3 σ h
    exact rsX10_isMetBehind_L2 hW x1 x3 hL0 σ (fun x3 σ h => ih x3 σ h) (fun e σ h => hE0 e σ h) (fun e σ h => hE1 e σ h) (hit_lp h)
set_option maxRecDepth 100000 in
set_option maxHeartbeats 4000000 in
theorem ctX10_isMetBehind (l : Launch) (Ω : rO) (x1 : Int32) (x2 : Int32) (hL0 : oL Ω 10 0) (σ : rS) (K : Int32 → rS → Prop) (h : hit (fX10_isMetBehind x1 x2 σ) K) : Ct l Ω yX10_isMetBehind cX10_isMetBehind 4 (some .boolean) rmX10_isMetBehind [rf Ω 10 0, .int x1, .int x2] σ K := by
  refine Ct.of (own := RX10) (lv := [some (rf Ω 10 0), some (.int x1), some (.int x2), none]) (by decide) rfl (Nat.le_of_ble_eq_true rfl) rfl (fun hW => ?_)
  unfold fX10_isMetBehind at h
  refine R_iload_n (i := 2) dX10_isMetBehind_0 rfl rfl ?_
  refine R_istore_n (lv2 := [some (rf Ω 10 0), some (.int x1), some (.int x2), some (.int x2)]) dX10_isMetBehind_1 rfl (by decide) rfl rfl ?_
  refine R_drop (lv2 := [some (rf Ω 10 0), some (.int x1), none, some (.int x2)]) 2 rfl ?_
  refine rlX10_isMetBehind_L2 hW x1 hL0 ?_ ?_ fu x2 σ (hit_bd h)
  · intro e2 σ1 h
    try dsimp only at h
    refine R_iconst (v := 1) dX10_isMetBehind_20 rfl ?_
    exact R_zret dX10_isMetBehind_21 rfl (Or.inr rfl) h
  · intro e3 σ1 h
    try dsimp only at h
    refine R_iconst (v := 0) dX10_isMetBehind_28 rfl ?_
    exact R_zret dX10_isMetBehind_29 rfl (Or.inl rfl) h
set_option maxRecDepth 100000 in
set_option maxHeartbeats 4000000 in
theorem rnX10_weakensAndEnds_j33L2 {l : Launch} {Ω : rO} (hW : WF Ω) (k1 : Nat) (x2 : Int32) (hL0 : oL Ω 10 0) (hL1 : oL Ω 66 k1) (σ : rS) {K : Int32 → rS → Prop} {K0 : (Int32 ⊕ Unit) → rS → Prop} (hC : ∀ (x2 : Int32) (σ : rS), K0 (.inl x2) σ → Run l Ω cX10_weakensAndEnds RX10 5 none rmX10_weakensAndEnds K 2 [some (rf Ω 10 0), some (rf Ω 66 k1), some (.int x2), none, none] [] σ) (hE0 : ∀ (e : Unit) (σ : rS), K0 (.inr e) σ → Run l Ω cX10_weakensAndEnds RX10 5 none rmX10_weakensAndEnds K 39 [some (rf Ω 10 0), some (rf Ω 66 k1), none, none, none] [] σ) (h : hit (fX10_weakensAndEnds_j33L2 k1 x2 σ) K0) : Run l Ω cX10_weakensAndEnds RX10 5 none rmX10_weakensAndEnds K 33 [some (rf Ω 10 0), some (rf Ω 66 k1), some (.int x2), none, none] [] σ := by
  unfold fX10_weakensAndEnds_j33L2 at h
  refine R_iinc (v := x2 + 1) (lv2 := [some (rf Ω 10 0), some (rf Ω 66 k1), some (.int (x2 + 1)), none, none]) dX10_weakensAndEnds_33 rfl rfl (by decide) rfl rfl ?_
  refine R_goto (tgt := 2) dX10_weakensAndEnds_36 (by decide) ?_
  exact hC (x2 + 1) σ h
set_option maxRecDepth 100000 in
set_option maxHeartbeats 4000000 in
theorem rnX10_weakensAndEnds_j26L2 {l : Launch} {Ω : rO} (hW : WF Ω) (k1 : Nat) (x2 : Int32) (hL0 : oL Ω 10 0) (hL1 : oL Ω 66 k1) (σ : rS) {K : Int32 → rS → Prop} {K0 : (Int32 ⊕ Unit) → rS → Prop} (hC : ∀ (x2 : Int32) (σ : rS), K0 (.inl x2) σ → Run l Ω cX10_weakensAndEnds RX10 5 none rmX10_weakensAndEnds K 2 [some (rf Ω 10 0), some (rf Ω 66 k1), some (.int x2), none, none] [] σ) (hE0 : ∀ (e : Unit) (σ : rS), K0 (.inr e) σ → Run l Ω cX10_weakensAndEnds RX10 5 none rmX10_weakensAndEnds K 39 [some (rf Ω 10 0), some (rf Ω 66 k1), none, none, none] [] σ) (h : hit (fX10_weakensAndEnds_j26L2 k1 x2 σ) K0) : Run l Ω cX10_weakensAndEnds RX10 5 none rmX10_weakensAndEnds K 26 [some (rf Ω 10 0), some (rf Ω 66 k1), some (.int x2), none, none] [] σ := by
  unfold fX10_weakensAndEnds_j26L2 at h
  refine R_aload_n (i := 0) dX10_weakensAndEnds_26 rfl rfl ?_
  refine R_aload_n (i := 1) dX10_weakensAndEnds_27 rfl rfl ?_
  refine R_iload_n (i := 2) dX10_weakensAndEnds_28 rfl rfl ?_
  refine R_iconst (v := 1) dX10_weakensAndEnds_29 rfl ?_
  refine R_callVv (ctX10_empties l Ω k1 x2 1 hL0 hL1 _ _ (hit_mono (hit_bd h) (fun r1 σ2 h => ?_))) okX10_empties mw_1489 hL0 (cE_10 Ω 0 _) rfl rfl (Nat.le_of_ble_eq_true rfl) rfl rfl ⟨by decide, by decide⟩ ⟨Nat.zero_le _, Nat.zero_le _⟩ dX10_weakensAndEnds_30
  exact rnX10_weakensAndEnds_j33L2 hW k1 x2 hL0 hL1 σ2 hC hE0 h
set_option maxRecDepth 100000 in
set_option maxHeartbeats 4000000 in
theorem rsX10_weakensAndEnds_L2 {l : Launch} {Ω : rO} (hW : WF Ω) (k1 : Nat) (x2 : Int32) (hL0 : oL Ω 10 0) (hL1 : oL Ω 66 k1) (σ : rS) {K : Int32 → rS → Prop} {K0 : (Int32 ⊕ Unit) → rS → Prop} (hC : ∀ (x2 : Int32) (σ : rS), K0 (.inl x2) σ → Run l Ω cX10_weakensAndEnds RX10 5 none rmX10_weakensAndEnds K 2 [some (rf Ω 10 0), some (rf Ω 66 k1), some (.int x2), none, none] [] σ) (hE0 : ∀ (e : Unit) (σ : rS), K0 (.inr e) σ → Run l Ω cX10_weakensAndEnds RX10 5 none rmX10_weakensAndEnds K 39 [some (rf Ω 10 0), some (rf Ω 66 k1), none, none, none] [] σ) (h : hit (fX10_weakensAndEnds_L2 k1 x2 σ) K0) : Run l Ω cX10_weakensAndEnds RX10 5 none rmX10_weakensAndEnds K 2 [some (rf Ω 10 0), some (rf Ω 66 k1), some (.int x2), none, none] [] σ := by
  unfold fX10_weakensAndEnds_L2 at h
  refine R_iload_n (i := 2) dX10_weakensAndEnds_2 rfl rfl ?_
  refine R_aload_n (i := 1) dX10_weakensAndEnds_3 rfl rfl ?_
  refine R_iconst (v := 0) dX10_weakensAndEnds_4 rfl ?_
  refine R_iald hL1 (cE_66 Ω k1 _) (vin 0 1554 rfl) dX10_weakensAndEnds_5 ?_
  refine R_icmp_ge (tgt := 39) dX10_weakensAndEnds_6 (by decide) (fun hc => ?_) (fun hc => ?_)
  · have h := hit_f h hc
    refine R_drop (lv2 := [some (rf Ω 10 0), some (rf Ω 66 k1), none, none, none]) 2 rfl ?_
    exact hE0 () σ h
  · have h := hit_t h hc
    refine R_aload_n (i := 0) dX10_weakensAndEnds_9 rfl rfl ?_
    refine R_get foX10_45 hL0 (cE_10 Ω 0 _) rfl dX10_weakensAndEnds_10 ?_
    refine R_iload_n (i := 2) dX10_weakensAndEnds_13 rfl rfl ?_
    obtain ⟨hb, h⟩ := hit_bnd h
    refine R_zald (WF.kid hW 11 hL0 rfl) (cE_68 Ω 0 _) hb dX10_weakensAndEnds_14 ?_
    refine R_if_ne (tgt := 26) dX10_weakensAndEnds_15 (by decide) (fun hc => ?_) (fun hc => ?_)
    · have h := hit_f h hc
      exact rnX10_weakensAndEnds_j26L2 hW k1 x2 hL0 hL1 σ hC hE0 h
    · have h := hit_t h hc
      refine R_aload_n (i := 1) dX10_weakensAndEnds_18 rfl rfl ?_
      refine R_iload_n (i := 2) dX10_weakensAndEnds_19 rfl rfl ?_
      refine R_callSi (ctX10_isOld l Ω k1 x2 hL1 _ _ (hit_mono (hit_bd h) (fun r3 σ4 h => ?_))) okX10_isOld mw_1468 rfl rfl (Nat.le_of_ble_eq_true rfl) rfl rfl ⟨by decide, by decide⟩ ⟨Nat.zero_le _, Nat.zero_le _⟩ dX10_weakensAndEnds_20
      refine R_if_eq (tgt := 33) dX10_weakensAndEnds_23 (by decide) (fun hc => ?_) (fun hc => ?_)
      · have h := hit_t h hc
        exact rnX10_weakensAndEnds_j33L2 hW k1 x2 hL0 hL1 σ4 hC hE0 h
      · have h := hit_f h hc
        exact rnX10_weakensAndEnds_j26L2 hW k1 x2 hL0 hL1 σ4 hC hE0 h
set_option maxRecDepth 100000 in
set_option maxHeartbeats 4000000 in
theorem rlX10_weakensAndEnds_L2 {l : Launch} {Ω : rO} (hW : WF Ω) (k1 : Nat) (hL0 : oL Ω 10 0) (hL1 : oL Ω 66 k1) {K : Int32 → rS → Prop} {KE : Unit → rS → Prop} (hE0 : ∀ (e : Unit) (σ : rS), KE e σ → Run l Ω cX10_weakensAndEnds RX10 5 none rmX10_weakensAndEnds K 39 [some (rf Ω 10 0), some (rf Ω 66 k1), none, none, none] [] σ) : ∀ (n : Nat) (x2 : Int32) (σ : rS), hit (lp (fun (x : Int32) σ => fX10_weakensAndEnds_L2 k1 x σ) n x2 σ) KE → Run l Ω cX10_weakensAndEnds RX10 5 none rmX10_weakensAndEnds K 2 [some (rf Ω 10 0), some (rf Ω 66 k1), some (.int x2), none, none] [] σ := by
  intro n
  induction n with
  | zero => intro x2 σ h; exact (h : False).elim
  | succ n ih =>
    intro x2 σ h
    exact rsX10_weakensAndEnds_L2 hW k1 x2 hL0 hL1 σ (fun x2 σ h => ih x2 σ h) (fun e σ h => hE0 e σ h) (hit_lp h)
set_option maxRecDepth 100000 in
set_option maxHeartbeats 4000000 in
theorem rsX10_weakensAndEnds_L52 {l : Launch} {Ω : rO} (hW : WF Ω) (k1 : Nat) (x2 : Int32) (x3 : Int32) (hL0 : oL Ω 10 0) (hL1 : oL Ω 66 k1) (σ : rS) {K : Int32 → rS → Prop} {K0 : (Int32 ⊕ Unit) → rS → Prop} (hC : ∀ (x3 : Int32) (σ : rS), K0 (.inl x3) σ → Run l Ω cX10_weakensAndEnds RX10 5 none rmX10_weakensAndEnds K 52 [some (rf Ω 10 0), some (rf Ω 66 k1), some (.int x2), some (.int x3), none] [] σ) (hE0 : ∀ (e : Unit) (σ : rS), K0 (.inr e) σ → Run l Ω cX10_weakensAndEnds RX10 5 none rmX10_weakensAndEnds K 97 [some (rf Ω 10 0), some (rf Ω 66 k1), some (.int x2), none, none] [] σ) (h : hit (fX10_weakensAndEnds_L52 k1 x2 x3 σ) K0) : Run l Ω cX10_weakensAndEnds RX10 5 none rmX10_weakensAndEnds K 52 [some (rf Ω 10 0), some (rf Ω 66 k1), some (.int x2), some (.int x3), none] [] σ := by
  unfold fX10_weakensAndEnds_L52 at h
  refine R_iload_n (i := 3) dX10_weakensAndEnds_52 rfl rfl ?_
  refine R_aload_n (i := 0) dX10_weakensAndEnds_53 rfl rfl ?_
  refine R_get foX10_217 hL0 (cE_10 Ω 0 _) rfl dX10_weakensAndEnds_54 ?_
  refine R_icmp_ge (tgt := 97) dX10_weakensAndEnds_57 (by decide) (fun hc => ?_) (fun hc => ?_)
  · have h := hit_f h hc
    refine R_drop (lv2 := [some (rf Ω 10 0), some (rf Ω 66 k1), some (.int x2), none, none]) 3 rfl ?_
    exact hE0 () σ h
  · have h := hit_t h hc
    refine R_aload_n (i := 0) dX10_weakensAndEnds_60 rfl rfl ?_
    refine R_get foX10_198 hL0 (cE_10 Ω 0 _) rfl dX10_weakensAndEnds_61 ?_
    refine R_if_ne (tgt := 97) dX10_weakensAndEnds_64 (by decide) (fun hc => ?_) (fun hc => ?_)
    · have h := hit_f h hc
      refine R_drop (lv2 := [some (rf Ω 10 0), some (rf Ω 66 k1), some (.int x2), none, none]) 3 rfl ?_
      exact hE0 () σ h
    · have h := hit_t h hc
      refine R_aload_n (i := 0) dX10_weakensAndEnds_67 rfl rfl ?_
      refine R_get foX10_195 hL0 (cE_10 Ω 0 _) rfl dX10_weakensAndEnds_68 ?_
      refine R_topi h (fun y10 h => ?_)
      refine R_istore (lv2 := [some (rf Ω 10 0), some (rf Ω 66 k1), some (.int x2), some (.int x3), some (.int y10)]) dX10_weakensAndEnds_71 (by decide) rfl rfl ?_
      refine R_aload_n (i := 0) dX10_weakensAndEnds_73 rfl rfl ?_
      refine R_aload_n (i := 1) dX10_weakensAndEnds_74 rfl rfl ?_
      refine R_aload_n (i := 0) dX10_weakensAndEnds_75 rfl rfl ?_
      refine R_get foX10_52 hL0 (cE_10 Ω 0 _) rfl dX10_weakensAndEnds_76 ?_
      refine R_iload_n (i := 3) dX10_weakensAndEnds_79 rfl rfl ?_
      obtain ⟨hb, h⟩ := hit_bnd h
      refine R_iald (WF.kid hW 13 hL0 rfl) (cE_70 Ω 0 _) hb dX10_weakensAndEnds_80 ?_
      refine R_callVv (ctX10_moves l Ω k1 (σ 70 0 (ix x3)) hL0 hL1 _ _ (hit_mono (hit_bd h) (fun r11 σ12 h => ?_))) okX10_moves mw_1464 hL0 (cE_10 Ω 0 _) rfl rfl (Nat.le_of_ble_eq_true rfl) rfl rfl ⟨by decide, by decide⟩ ⟨Nat.zero_le _, Nat.zero_le _⟩ dX10_weakensAndEnds_81
      refine R_aload_n (i := 0) dX10_weakensAndEnds_84 rfl rfl ?_
      refine R_aload_n (i := 1) dX10_weakensAndEnds_85 rfl rfl ?_
      refine R_iload (i := 4) dX10_weakensAndEnds_86 rfl ?_
      refine R_callVv (ctX10_movesAll l Ω k1 y10 hL0 hL1 _ _ (hit_mono (hit_bd h) (fun r13 σ14 h => ?_))) okX10_movesAll mw_1481 hL0 (cE_10 Ω 0 _) rfl rfl (Nat.le_of_ble_eq_true rfl) rfl rfl ⟨by decide, by decide⟩ ⟨Nat.zero_le _, Nat.zero_le _⟩ dX10_weakensAndEnds_88
      refine R_iinc (v := x3 + 1) (lv2 := [some (rf Ω 10 0), some (rf Ω 66 k1), some (.int x2), some (.int (x3 + 1)), some (.int y10)]) dX10_weakensAndEnds_91 rfl rfl (by decide) rfl rfl ?_
      refine R_goto (tgt := 52) dX10_weakensAndEnds_94 (by decide) ?_
      refine R_drop (lv2 := [some (rf Ω 10 0), some (rf Ω 66 k1), some (.int x2), some (.int (x3 + 1)), none]) 4 rfl ?_
      exact hC (x3 + 1) σ14 h
set_option maxRecDepth 100000 in
set_option maxHeartbeats 4000000 in
theorem rlX10_weakensAndEnds_L52 {l : Launch} {Ω : rO} (hW : WF Ω) (k1 : Nat) (x2 : Int32) (hL0 : oL Ω 10 0) (hL1 : oL Ω 66 k1) {K : Int32 → rS → Prop} {KE : Unit → rS → Prop} (hE0 : ∀ (e : Unit) (σ : rS), KE e σ → Run l Ω cX10_weakensAndEnds RX10 5 none rmX10_weakensAndEnds K 97 [some (rf Ω 10 0), some (rf Ω 66 k1), some (.int x2), none, none] [] σ) : ∀ (n : Nat) (x3 : Int32) (σ : rS), hit (lp (fun (x : Int32) σ => fX10_weakensAndEnds_L52 k1 x2 x σ) n x3 σ) KE → Run l Ω cX10_weakensAndEnds RX10 5 none rmX10_weakensAndEnds K 52 [some (rf Ω 10 0), some (rf Ω 66 k1), some (.int x2), some (.int x3), none] [] σ := by
  intro n
  induction n with
  | zero => intro x3 σ h; exact (h : False).elim
  | succ n ih =>
    intro x3 σ h
    exact rsX10_weakensAndEnds_L52 hW k1 x2 x3 hL0 hL1 σ (fun x3 σ h => ih x3 σ h) (fun e σ h => hE0 e σ h) (hit_lp h)
set_option maxRecDepth 100000 in
set_option maxHeartbeats 4000000 in
theorem rnX10_weakensAndEnds_j122L99 {l : Launch} {Ω : rO} (hW : WF Ω) (k1 : Nat) (x2 : Int32) (x3 : Int32) (hL0 : oL Ω 10 0) (hL1 : oL Ω 66 k1) (σ : rS) {K : Int32 → rS → Prop} {K0 : (Int32 ⊕ Unit) → rS → Prop} (hC : ∀ (x3 : Int32) (σ : rS), K0 (.inl x3) σ → Run l Ω cX10_weakensAndEnds RX10 5 none rmX10_weakensAndEnds K 99 [some (rf Ω 10 0), some (rf Ω 66 k1), some (.int x2), some (.int x3), none] [] σ) (hE0 : ∀ (e : Unit) (σ : rS), K0 (.inr e) σ → Run l Ω cX10_weakensAndEnds RX10 5 none rmX10_weakensAndEnds K 128 [none, none, none, none, none] [] σ) (h : hit (fX10_weakensAndEnds_j122L99 k1 x2 x3 σ) K0) : Run l Ω cX10_weakensAndEnds RX10 5 none rmX10_weakensAndEnds K 122 [some (rf Ω 10 0), some (rf Ω 66 k1), some (.int x2), some (.int x3), none] [] σ := by
  unfold fX10_weakensAndEnds_j122L99 at h
  refine R_iinc (v := x3 + 1) (lv2 := [some (rf Ω 10 0), some (rf Ω 66 k1), some (.int x2), some (.int (x3 + 1)), none]) dX10_weakensAndEnds_122 rfl rfl (by decide) rfl rfl ?_
  refine R_goto (tgt := 99) dX10_weakensAndEnds_125 (by decide) ?_
  exact hC (x3 + 1) σ h
set_option maxRecDepth 100000 in
set_option maxHeartbeats 4000000 in
theorem rsX10_weakensAndEnds_L99 {l : Launch} {Ω : rO} (hW : WF Ω) (k1 : Nat) (x2 : Int32) (x3 : Int32) (hL0 : oL Ω 10 0) (hL1 : oL Ω 66 k1) (σ : rS) {K : Int32 → rS → Prop} {K0 : (Int32 ⊕ Unit) → rS → Prop} (hC : ∀ (x3 : Int32) (σ : rS), K0 (.inl x3) σ → Run l Ω cX10_weakensAndEnds RX10 5 none rmX10_weakensAndEnds K 99 [some (rf Ω 10 0), some (rf Ω 66 k1), some (.int x2), some (.int x3), none] [] σ) (hE0 : ∀ (e : Unit) (σ : rS), K0 (.inr e) σ → Run l Ω cX10_weakensAndEnds RX10 5 none rmX10_weakensAndEnds K 128 [none, none, none, none, none] [] σ) (h : hit (fX10_weakensAndEnds_L99 k1 x2 x3 σ) K0) : Run l Ω cX10_weakensAndEnds RX10 5 none rmX10_weakensAndEnds K 99 [some (rf Ω 10 0), some (rf Ω 66 k1), some (.int x2), some (.int x3), none] [] σ := by
  unfold fX10_weakensAndEnds_L99 at h
  refine R_iload_n (i := 3) dX10_weakensAndEnds_99 rfl rfl ?_
  refine R_aload_n (i := 1) dX10_weakensAndEnds_100 rfl rfl ?_
  refine R_iconst (v := 0) dX10_weakensAndEnds_101 rfl ?_
  refine R_iald hL1 (cE_66 Ω k1 _) (vin 0 1554 rfl) dX10_weakensAndEnds_102 ?_
  refine R_icmp_ge (tgt := 128) dX10_weakensAndEnds_103 (by decide) (fun hc => ?_) (fun hc => ?_)
  · have h := hit_f h hc
    refine R_drop (lv2 := [none, some (rf Ω 66 k1), some (.int x2), some (.int x3), none]) 0 rfl ?_
    refine R_drop (lv2 := [none, none, some (.int x2), some (.int x3), none]) 1 rfl ?_
    refine R_drop (lv2 := [none, none, none, some (.int x3), none]) 2 rfl ?_
    refine R_drop (lv2 := [none, none, none, none, none]) 3 rfl ?_
    exact hE0 () σ h
  · have h := hit_t h hc
    refine R_aload_n (i := 0) dX10_weakensAndEnds_106 rfl rfl ?_
    refine R_iload_n (i := 3) dX10_weakensAndEnds_107 rfl rfl ?_
    refine R_iload_n (i := 2) dX10_weakensAndEnds_108 rfl rfl ?_
    refine R_callVi (ctX10_isMetBehind l Ω x3 x2 hL0 _ _ (hit_mono (hit_bd h) (fun r17 σ18 h => ?_))) okX10_isMetBehind mw_1500 hL0 (cE_10 Ω 0 _) rfl rfl (Nat.le_of_ble_eq_true rfl) rfl rfl ⟨by decide, by decide⟩ ⟨Nat.zero_le _, Nat.zero_le _⟩ dX10_weakensAndEnds_109
    refine R_if_eq (tgt := 122) dX10_weakensAndEnds_112 (by decide) (fun hc => ?_) (fun hc => ?_)
    · have h := hit_t h hc
      exact rnX10_weakensAndEnds_j122L99 hW k1 x2 x3 hL0 hL1 σ18 hC hE0 h
    · have h := hit_f h hc
      refine R_aload_n (i := 0) dX10_weakensAndEnds_115 rfl rfl ?_
      refine R_aload_n (i := 1) dX10_weakensAndEnds_116 rfl rfl ?_
      refine R_iload_n (i := 3) dX10_weakensAndEnds_117 rfl rfl ?_
      refine R_iconst (v := 1) dX10_weakensAndEnds_118 rfl ?_
      refine R_callVv (ctX10_empties l Ω k1 x3 1 hL0 hL1 _ _ (hit_mono (hit_bd h) (fun r19 σ20 h => ?_))) okX10_empties mw_1489 hL0 (cE_10 Ω 0 _) rfl rfl (Nat.le_of_ble_eq_true rfl) rfl rfl ⟨by decide, by decide⟩ ⟨Nat.zero_le _, Nat.zero_le _⟩ dX10_weakensAndEnds_119
      exact rnX10_weakensAndEnds_j122L99 hW k1 x2 x3 hL0 hL1 σ20 hC hE0 h
set_option maxRecDepth 100000 in
set_option maxHeartbeats 4000000 in
theorem rlX10_weakensAndEnds_L99 {l : Launch} {Ω : rO} (hW : WF Ω) (k1 : Nat) (x2 : Int32) (hL0 : oL Ω 10 0) (hL1 : oL Ω 66 k1) {K : Int32 → rS → Prop} {KE : Unit → rS → Prop} (hE0 : ∀ (e : Unit) (σ : rS), KE e σ → Run l Ω cX10_weakensAndEnds RX10 5 none rmX10_weakensAndEnds K 128 [none, none, none, none, none] [] σ) : ∀ (n : Nat) (x3 : Int32) (σ : rS), hit (lp (fun (x : Int32) σ => fX10_weakensAndEnds_L99 k1 x2 x σ) n x3 σ) KE → Run l Ω cX10_weakensAndEnds RX10 5 none rmX10_weakensAndEnds K 99 [some (rf Ω 10 0), some (rf Ω 66 k1), some (.int x2), some (.int x3), none] [] σ := by
  intro n
  induction n with
  | zero => intro x3 σ h; exact (h : False).elim
  | succ n ih =>
    intro x3 σ h
    exact rsX10_weakensAndEnds_L99 hW k1 x2 x3 hL0 hL1 σ (fun x3 σ h => ih x3 σ h) (fun e σ h => hE0 e σ h) (hit_lp h)
set_option maxRecDepth 100000 in
set_option maxHeartbeats 4000000 in
theorem rnX10_weakensAndEnds_j97 {l : Launch} {Ω : rO} (hW : WF Ω) (k1 : Nat) (x2 : Int32) (hL0 : oL Ω 10 0) (hL1 : oL Ω 66 k1) (σ : rS) {K : Int32 → rS → Prop}  (h : hit (fX10_weakensAndEnds_j97 k1 x2 σ) K) : Run l Ω cX10_weakensAndEnds RX10 5 none rmX10_weakensAndEnds K 97 [some (rf Ω 10 0), some (rf Ω 66 k1), some (.int x2), none, none] [] σ := by
  unfold fX10_weakensAndEnds_j97 at h
  refine R_iconst (v := 0) dX10_weakensAndEnds_97 rfl ?_
  refine R_istore_n (lv2 := [some (rf Ω 10 0), some (rf Ω 66 k1), some (.int x2), some (.int 0), none]) dX10_weakensAndEnds_98 rfl (by decide) rfl rfl ?_
  refine rlX10_weakensAndEnds_L99 hW k1 x2 hL0 hL1 ?_ fu 0 σ (hit_bd h)
  · intro e22 σ21 h
    try dsimp only at h
    exact R_vret dX10_weakensAndEnds_128 rfl h
set_option maxRecDepth 100000 in
set_option maxHeartbeats 4000000 in
theorem ctX10_weakensAndEnds (l : Launch) (Ω : rO) (k1 : Nat) (hL0 : oL Ω 10 0) (hL1 : oL Ω 66 k1) (σ : rS) (K : Int32 → rS → Prop) (h : hit (fX10_weakensAndEnds k1 σ) K) : Ct l Ω yX10_weakensAndEnds cX10_weakensAndEnds 5 none rmX10_weakensAndEnds [rf Ω 10 0, rf Ω 66 k1] σ K := by
  refine Ct.of (own := RX10) (lv := [some (rf Ω 10 0), some (rf Ω 66 k1), none, none, none]) (by decide) rfl (Nat.le_of_ble_eq_true rfl) rfl (fun hW => ?_)
  unfold fX10_weakensAndEnds at h
  refine R_iconst (v := 0) dX10_weakensAndEnds_0 rfl ?_
  refine R_istore_n (lv2 := [some (rf Ω 10 0), some (rf Ω 66 k1), some (.int 0), none, none]) dX10_weakensAndEnds_1 rfl (by decide) rfl rfl ?_
  refine rlX10_weakensAndEnds_L2 hW k1 hL0 hL1 ?_ fu 0 σ (hit_bd h)
  · intro e6 σ5 h
    try dsimp only at h
    refine R_aload_n (i := 0) dX10_weakensAndEnds_39 rfl rfl ?_
    refine R_aload_n (i := 1) dX10_weakensAndEnds_40 rfl rfl ?_
    refine R_iconst (v := 1) dX10_weakensAndEnds_41 rfl ?_
    refine R_callVv (ctX10_ends l Ω k1 1 hL0 hL1 _ _ (hit_mono (hit_bd h) (fun r7 σ8 h => ?_))) okX10_ends mw_1496 hL0 (cE_10 Ω 0 _) rfl rfl (Nat.le_of_ble_eq_true rfl) rfl rfl ⟨by decide, by decide⟩ ⟨Nat.zero_le _, Nat.zero_le _⟩ dX10_weakensAndEnds_42
    refine R_aload_n (i := 0) dX10_weakensAndEnds_45 rfl rfl ?_
    refine R_get foX10_195 hL0 (cE_10 Ω 0 _) rfl dX10_weakensAndEnds_46 ?_
    refine R_topi h (fun y9 h => ?_)
    refine R_istore_n (lv2 := [some (rf Ω 10 0), some (rf Ω 66 k1), some (.int y9), none, none]) dX10_weakensAndEnds_49 rfl (by decide) rfl rfl ?_
    refine R_iconst (v := 0) dX10_weakensAndEnds_50 rfl ?_
    refine R_istore_n (lv2 := [some (rf Ω 10 0), some (rf Ω 66 k1), some (.int y9), some (.int 0), none]) dX10_weakensAndEnds_51 rfl (by decide) rfl rfl ?_
    refine rlX10_weakensAndEnds_L52 hW k1 y9 hL0 hL1 ?_ fu 0 σ8 (hit_bd h)
    · intro e16 σ15 h
      try dsimp only at h
      exact rnX10_weakensAndEnds_j97 hW k1 y9 hL0 hL1 σ15  h
set_option maxRecDepth 100000 in
set_option maxHeartbeats 4000000 in
theorem rsX10_minors_L80 {l : Launch} {Ω : rO} (hW : WF Ω) (k1 : Nat) (x2 : Int32) (x3 : Int32) (hL0 : oL Ω 10 0) (hL1 : oL Ω 66 k1) (σ : rS) {K : Int32 → rS → Prop} {K0 : (Int32 ⊕ Unit) → rS → Prop} (hC : ∀ (x3 : Int32) (σ : rS), K0 (.inl x3) σ → Run l Ω cX10_minors RX10 4 (some .boolean) rmX10_minors K 80 [some (rf Ω 10 0), some (rf Ω 66 k1), some (.int x2), some (.int x3)] [] σ) (hE0 : ∀ (e : Unit) (σ : rS), K0 (.inr e) σ → Run l Ω cX10_minors RX10 4 (some .boolean) rmX10_minors K 112 [some (rf Ω 10 0), some (rf Ω 66 k1), some (.int x2), none] [] σ) (h : hit (fX10_minors_L80 k1 x2 x3 σ) K0) : Run l Ω cX10_minors RX10 4 (some .boolean) rmX10_minors K 80 [some (rf Ω 10 0), some (rf Ω 66 k1), some (.int x2), some (.int x3)] [] σ := by
  unfold fX10_minors_L80 at h
  refine R_iload_n (i := 3) dX10_minors_80 rfl rfl ?_
  refine R_aload_n (i := 1) dX10_minors_81 rfl rfl ?_
  refine R_aload_n (i := 0) dX10_minors_82 rfl rfl ?_
  refine R_get foX10_49 hL0 (cE_10 Ω 0 _) rfl dX10_minors_83 ?_
  refine R_iload_n (i := 2) dX10_minors_86 rfl rfl ?_
  obtain ⟨hb, h⟩ := hit_bnd h
  refine R_iald (WF.kid hW 12 hL0 rfl) (cE_69 Ω 0 _) hb dX10_minors_87 ?_
  refine R_iconst (v := 2) dX10_minors_88 rfl ?_
  refine R_callSi (ctX10_of l Ω k1 (σ 69 0 (ix x2)) 2 hL1 _ _ (hit_mono (hit_bd h) (fun r13 σ14 h => ?_))) okX10_of mw_1435 rfl rfl (Nat.le_of_ble_eq_true rfl) rfl rfl ⟨by decide, by decide⟩ ⟨Nat.zero_le _, Nat.zero_le _⟩ dX10_minors_89
  refine R_icmp_ge (tgt := 112) dX10_minors_92 (by decide) (fun hc => ?_) (fun hc => ?_)
  · have h := hit_f h hc
    refine R_drop (lv2 := [some (rf Ω 10 0), some (rf Ω 66 k1), some (.int x2), none]) 3 rfl ?_
    exact hE0 () σ14 h
  · have h := hit_t h hc
    refine R_aload_n (i := 1) dX10_minors_95 rfl rfl ?_
    refine R_aload_n (i := 0) dX10_minors_96 rfl rfl ?_
    refine R_get foX10_49 hL0 (cE_10 Ω 0 _) rfl dX10_minors_97 ?_
    refine R_iload_n (i := 2) dX10_minors_100 rfl rfl ?_
    obtain ⟨hb, h⟩ := hit_bnd h
    refine R_iald (WF.kid hW 12 hL0 rfl) (cE_69 Ω 0 _) hb dX10_minors_101 ?_
    refine R_iload_n (i := 3) dX10_minors_102 rfl rfl ?_
    refine R_callSv (ctX10_keeps l Ω k1 (σ14 69 0 (ix x2)) x3 hL1 _ _ (hit_mono (hit_bd h) (fun r15 σ16 h => ?_))) okX10_keeps mw_1510 rfl rfl (Nat.le_of_ble_eq_true rfl) rfl rfl ⟨by decide, by decide⟩ ⟨Nat.zero_le _, Nat.zero_le _⟩ dX10_minors_103
    refine R_iinc (v := x3 + 1) (lv2 := [some (rf Ω 10 0), some (rf Ω 66 k1), some (.int x2), some (.int (x3 + 1))]) dX10_minors_106 rfl rfl (by decide) rfl rfl ?_
    refine R_goto (tgt := 80) dX10_minors_109 (by decide) ?_
    exact hC (x3 + 1) σ16 h
set_option maxRecDepth 100000 in
set_option maxHeartbeats 4000000 in
theorem rlX10_minors_L80 {l : Launch} {Ω : rO} (hW : WF Ω) (k1 : Nat) (x2 : Int32) (hL0 : oL Ω 10 0) (hL1 : oL Ω 66 k1) {K : Int32 → rS → Prop} {KE : Unit → rS → Prop} (hE0 : ∀ (e : Unit) (σ : rS), KE e σ → Run l Ω cX10_minors RX10 4 (some .boolean) rmX10_minors K 112 [some (rf Ω 10 0), some (rf Ω 66 k1), some (.int x2), none] [] σ) : ∀ (n : Nat) (x3 : Int32) (σ : rS), hit (lp (fun (x : Int32) σ => fX10_minors_L80 k1 x2 x σ) n x3 σ) KE → Run l Ω cX10_minors RX10 4 (some .boolean) rmX10_minors K 80 [some (rf Ω 10 0), some (rf Ω 66 k1), some (.int x2), some (.int x3)] [] σ := by
  intro n
  induction n with
  | zero => intro x3 σ h; exact (h : False).elim
  | succ n ih =>
    intro x3 σ h
    exact rsX10_minors_L80 hW k1 x2 x3 hL0 hL1 σ (fun x3 σ h => ih x3 σ h) (fun e σ h => hE0 e σ h) (hit_lp h)
set_option maxRecDepth 100000 in
set_option maxHeartbeats 4000000 in
theorem rsX10_minors_L70 {l : Launch} {Ω : rO} (hW : WF Ω) (k1 : Nat) (x2 : Int32) (hL0 : oL Ω 10 0) (hL1 : oL Ω 66 k1) (σ : rS) {K : Int32 → rS → Prop} {K0 : (Int32 ⊕ Unit) → rS → Prop} (hC : ∀ (x2 : Int32) (σ : rS), K0 (.inl x2) σ → Run l Ω cX10_minors RX10 4 (some .boolean) rmX10_minors K 70 [some (rf Ω 10 0), some (rf Ω 66 k1), some (.int x2), none] [] σ) (hE0 : ∀ (e : Unit) (σ : rS), K0 (.inr e) σ → Run l Ω cX10_minors RX10 4 (some .boolean) rmX10_minors K 118 [some (rf Ω 10 0), some (rf Ω 66 k1), none, none] [] σ) (h : hit (fX10_minors_L70 k1 x2 σ) K0) : Run l Ω cX10_minors RX10 4 (some .boolean) rmX10_minors K 70 [some (rf Ω 10 0), some (rf Ω 66 k1), some (.int x2), none] [] σ := by
  unfold fX10_minors_L70 at h
  refine R_iload_n (i := 2) dX10_minors_70 rfl rfl ?_
  refine R_aload_n (i := 0) dX10_minors_71 rfl rfl ?_
  refine R_get foX10_195 hL0 (cE_10 Ω 0 _) rfl dX10_minors_72 ?_
  refine R_icmp_ge (tgt := 118) dX10_minors_75 (by decide) (fun hc => ?_) (fun hc => ?_)
  · have h := hit_f h hc
    refine R_drop (lv2 := [some (rf Ω 10 0), some (rf Ω 66 k1), none, none]) 2 rfl ?_
    exact hE0 () σ h
  · have h := hit_t h hc
    refine R_iconst (v := 0) dX10_minors_78 rfl ?_
    refine R_istore_n (lv2 := [some (rf Ω 10 0), some (rf Ω 66 k1), some (.int x2), some (.int 0)]) dX10_minors_79 rfl (by decide) rfl rfl ?_
    refine rlX10_minors_L80 hW k1 x2 hL0 hL1 ?_ fu 0 σ (hit_bd h)
    · intro e18 σ17 h
      try dsimp only at h
      refine R_iinc (v := x2 + 1) (lv2 := [some (rf Ω 10 0), some (rf Ω 66 k1), some (.int (x2 + 1)), none]) dX10_minors_112 rfl rfl (by decide) rfl rfl ?_
      refine R_goto (tgt := 70) dX10_minors_115 (by decide) ?_
      exact hC (x2 + 1) σ17 h
set_option maxRecDepth 100000 in
set_option maxHeartbeats 4000000 in
theorem rlX10_minors_L70 {l : Launch} {Ω : rO} (hW : WF Ω) (k1 : Nat) (hL0 : oL Ω 10 0) (hL1 : oL Ω 66 k1) {K : Int32 → rS → Prop} {KE : Unit → rS → Prop} (hE0 : ∀ (e : Unit) (σ : rS), KE e σ → Run l Ω cX10_minors RX10 4 (some .boolean) rmX10_minors K 118 [some (rf Ω 10 0), some (rf Ω 66 k1), none, none] [] σ) : ∀ (n : Nat) (x2 : Int32) (σ : rS), hit (lp (fun (x : Int32) σ => fX10_minors_L70 k1 x σ) n x2 σ) KE → Run l Ω cX10_minors RX10 4 (some .boolean) rmX10_minors K 70 [some (rf Ω 10 0), some (rf Ω 66 k1), some (.int x2), none] [] σ := by
  intro n
  induction n with
  | zero => intro x2 σ h; exact (h : False).elim
  | succ n ih =>
    intro x2 σ h
    exact rsX10_minors_L70 hW k1 x2 hL0 hL1 σ (fun x2 σ h => ih x2 σ h) (fun e σ h => hE0 e σ h) (hit_lp h)
set_option maxRecDepth 100000 in
set_option maxHeartbeats 4000000 in
theorem rnX10_minors_j168L129 {l : Launch} {Ω : rO} (hW : WF Ω) (k1 : Nat) (x2 : Int32) (hL0 : oL Ω 10 0) (hL1 : oL Ω 66 k1) (σ : rS) {K : Int32 → rS → Prop} {K0 : (Int32 ⊕ Unit) → rS → Prop} (hC : ∀ (x2 : Int32) (σ : rS), K0 (.inl x2) σ → Run l Ω cX10_minors RX10 4 (some .boolean) rmX10_minors K 129 [some (rf Ω 10 0), some (rf Ω 66 k1), some (.int x2), none] [] σ) (hE0 : ∀ (e : Unit) (σ : rS), K0 (.inr e) σ → Run l Ω cX10_minors RX10 4 (some .boolean) rmX10_minors K 174 [some (rf Ω 10 0), some (rf Ω 66 k1), none, none] [] σ) (h : hit (fX10_minors_j168L129 k1 x2 σ) K0) : Run l Ω cX10_minors RX10 4 (some .boolean) rmX10_minors K 168 [some (rf Ω 10 0), some (rf Ω 66 k1), some (.int x2), none] [] σ := by
  unfold fX10_minors_j168L129 at h
  refine R_iinc (v := x2 + (-1)) (lv2 := [some (rf Ω 10 0), some (rf Ω 66 k1), some (.int (x2 + (-1))), none]) dX10_minors_168 rfl rfl (by decide) rfl rfl ?_
  refine R_goto (tgt := 129) dX10_minors_171 (by decide) ?_
  exact hC (x2 + (-1)) σ h
set_option maxRecDepth 100000 in
set_option maxHeartbeats 4000000 in
theorem rsX10_minors_L129 {l : Launch} {Ω : rO} (hW : WF Ω) (k1 : Nat) (x2 : Int32) (hL0 : oL Ω 10 0) (hL1 : oL Ω 66 k1) (σ : rS) {K : Int32 → rS → Prop} {K0 : (Int32 ⊕ Unit) → rS → Prop} (hC : ∀ (x2 : Int32) (σ : rS), K0 (.inl x2) σ → Run l Ω cX10_minors RX10 4 (some .boolean) rmX10_minors K 129 [some (rf Ω 10 0), some (rf Ω 66 k1), some (.int x2), none] [] σ) (hE0 : ∀ (e : Unit) (σ : rS), K0 (.inr e) σ → Run l Ω cX10_minors RX10 4 (some .boolean) rmX10_minors K 174 [some (rf Ω 10 0), some (rf Ω 66 k1), none, none] [] σ) (h : hit (fX10_minors_L129 k1 x2 σ) K0) : Run l Ω cX10_minors RX10 4 (some .boolean) rmX10_minors K 129 [some (rf Ω 10 0), some (rf Ω 66 k1), some (.int x2), none] [] σ := by
  unfold fX10_minors_L129 at h
  refine R_iload_n (i := 2) dX10_minors_129 rfl rfl ?_
  refine R_if_lt (tgt := 174) dX10_minors_130 (by decide) (fun hc => ?_) (fun hc => ?_)
  · have h := hit_t h hc
    refine R_drop (lv2 := [some (rf Ω 10 0), some (rf Ω 66 k1), none, none]) 2 rfl ?_
    exact hE0 () σ h
  · have h := hit_f h hc
    refine R_aload_n (i := 1) dX10_minors_133 rfl rfl ?_
    refine R_iload_n (i := 2) dX10_minors_134 rfl rfl ?_
    refine R_callSi (ctX10_isOld l Ω k1 x2 hL1 _ _ (hit_mono (hit_bd h) (fun r23 σ24 h => ?_))) okX10_isOld mw_1468 rfl rfl (Nat.le_of_ble_eq_true rfl) rfl rfl ⟨by decide, by decide⟩ ⟨Nat.zero_le _, Nat.zero_le _⟩ dX10_minors_135
    refine R_if_ne (tgt := 168) dX10_minors_138 (by decide) (fun hc => ?_) (fun hc => ?_)
    · have h := hit_f h hc
      exact rnX10_minors_j168L129 hW k1 x2 hL0 hL1 σ24 hC hE0 h
    · have h := hit_t h hc
      refine R_aload_n (i := 0) dX10_minors_141 rfl rfl ?_
      refine R_get foX10_45 hL0 (cE_10 Ω 0 _) rfl dX10_minors_142 ?_
      refine R_iload_n (i := 2) dX10_minors_145 rfl rfl ?_
      obtain ⟨hb, h⟩ := hit_bnd h
      refine R_zald (WF.kid hW 11 hL0 rfl) (cE_68 Ω 0 _) hb dX10_minors_146 ?_
      refine R_if_eq (tgt := 153) dX10_minors_147 (by decide) (fun hc => ?_) (fun hc => ?_)
      · have h := hit_t h hc
        refine R_aload_n (i := 1) dX10_minors_153 rfl rfl ?_
        refine R_iload_n (i := 2) dX10_minors_154 rfl rfl ?_
        refine R_callSv (ctX10_goes l Ω k1 x2 hL1 _ _ (hit_mono (hit_bd h) (fun r25 σ26 h => ?_))) okX10_goes mw_1516 rfl rfl (Nat.le_of_ble_eq_true rfl) rfl rfl ⟨by decide, by decide⟩ ⟨Nat.zero_le _, Nat.zero_le _⟩ dX10_minors_155
        refine R_aload_n (i := 0) dX10_minors_158 rfl rfl ?_
        refine R_dup dX10_minors_159 rfl ?_
        refine R_get foX10_250 hL0 (cE_10 Ω 0 _) rfl dX10_minors_160 ?_
        refine R_iconst (v := 1) dX10_minors_163 rfl ?_
        refine R_iadd dX10_minors_164 ?_
        refine R_put poX10_250 hL0 (cE_10 Ω 0 _) (cP_10_28 Ω 0 _ _) (Nat.le_of_ble_eq_true rfl) dX10_minors_165 ?_
        refine R_st h (fun σ27 h => ?_)
        exact rnX10_minors_j168L129 hW k1 x2 hL0 hL1 σ27 hC hE0 h
      · have h := hit_f h hc
        refine R_goto (tgt := 168) dX10_minors_150 (by decide) ?_
        exact rnX10_minors_j168L129 hW k1 x2 hL0 hL1 σ24 hC hE0 h
set_option maxRecDepth 100000 in
set_option maxHeartbeats 4000000 in
theorem rlX10_minors_L129 {l : Launch} {Ω : rO} (hW : WF Ω) (k1 : Nat) (hL0 : oL Ω 10 0) (hL1 : oL Ω 66 k1) {K : Int32 → rS → Prop} {KE : Unit → rS → Prop} (hE0 : ∀ (e : Unit) (σ : rS), KE e σ → Run l Ω cX10_minors RX10 4 (some .boolean) rmX10_minors K 174 [some (rf Ω 10 0), some (rf Ω 66 k1), none, none] [] σ) : ∀ (n : Nat) (x2 : Int32) (σ : rS), hit (lp (fun (x : Int32) σ => fX10_minors_L129 k1 x σ) n x2 σ) KE → Run l Ω cX10_minors RX10 4 (some .boolean) rmX10_minors K 129 [some (rf Ω 10 0), some (rf Ω 66 k1), some (.int x2), none] [] σ := by
  intro n
  induction n with
  | zero => intro x2 σ h; exact (h : False).elim
  | succ n ih =>
    intro x2 σ h
    exact rsX10_minors_L129 hW k1 x2 hL0 hL1 σ (fun x2 σ h => ih x2 σ h) (fun e σ h => hE0 e σ h) (hit_lp h)
set_option maxRecDepth 100000 in
set_option maxHeartbeats 4000000 in
theorem rnX10_minors_j45 {l : Launch} {Ω : rO} (hW : WF Ω) (k1 : Nat) (hL0 : oL Ω 10 0) (hL1 : oL Ω 66 k1) (σ : rS) {K : Int32 → rS → Prop}  (h : hit (fX10_minors_j45 k1 σ) K) : Run l Ω cX10_minors RX10 4 (some .boolean) rmX10_minors K 45 [some (rf Ω 10 0), some (rf Ω 66 k1), none, none] [] σ := by
  unfold fX10_minors_j45 at h
  refine R_aload_n (i := 0) dX10_minors_45 rfl rfl ?_
  refine R_get foX10_198 hL0 (cE_10 Ω 0 _) rfl dX10_minors_46 ?_
  refine R_if_eq (tgt := 64) dX10_minors_49 (by decide) (fun hc => ?_) (fun hc => ?_)
  · have h := hit_t h hc
    refine R_aload_n (i := 1) dX10_minors_64 rfl rfl ?_
    refine R_callSv (ctX10_sifts l Ω k1 hL1 _ _ (hit_mono (hit_bd h) (fun r11 σ12 h => ?_))) okX10_sifts mw_1504 rfl rfl (Nat.le_of_ble_eq_true rfl) rfl rfl ⟨by decide, by decide⟩ ⟨Nat.zero_le _, Nat.zero_le _⟩ dX10_minors_65
    refine R_iconst (v := 0) dX10_minors_68 rfl ?_
    refine R_istore_n (lv2 := [some (rf Ω 10 0), some (rf Ω 66 k1), some (.int 0), none]) dX10_minors_69 rfl (by decide) rfl rfl ?_
    refine rlX10_minors_L70 hW k1 hL0 hL1 ?_ fu 0 σ12 (hit_bd h)
    · intro e20 σ19 h
      try dsimp only at h
      refine R_aload_n (i := 0) dX10_minors_118 rfl rfl ?_
      refine R_iconst (v := 0) dX10_minors_119 rfl ?_
      refine R_put poX10_250 hL0 (cE_10 Ω 0 _) (cP_10_28 Ω 0 _ _) (Nat.le_of_ble_eq_true rfl) dX10_minors_120 ?_
      refine R_st h (fun σ21 h => ?_)
      refine R_aload_n (i := 1) dX10_minors_123 rfl rfl ?_
      refine R_iconst (v := 0) dX10_minors_124 rfl ?_
      refine R_iald hL1 (cE_66 Ω k1 _) (vin 0 1554 rfl) dX10_minors_125 ?_
      refine R_iconst (v := 1) dX10_minors_126 rfl ?_
      refine R_isub dX10_minors_127 ?_
      refine R_topi h (fun y22 h => ?_)
      refine R_istore_n (lv2 := [some (rf Ω 10 0), some (rf Ω 66 k1), some (.int y22), none]) dX10_minors_128 rfl (by decide) rfl rfl ?_
      refine rlX10_minors_L129 hW k1 hL0 hL1 ?_ fu y22 σ21 (hit_bd h)
      · intro e29 σ28 h
        try dsimp only at h
        refine R_aload_n (i := 1) dX10_minors_174 rfl rfl ?_
        refine R_sipush (v := 1369) dX10_minors_175 rfl ?_
        refine R_dup2 dX10_minors_178 rfl rfl ?_
        refine R_iald hL1 (cE_66 Ω k1 _) (vin 1369 1554 rfl) dX10_minors_179 ?_
        refine R_aload_n (i := 0) dX10_minors_180 rfl rfl ?_
        refine R_get foX10_250 hL0 (cE_10 Ω 0 _) rfl dX10_minors_181 ?_
        refine R_iadd dX10_minors_184 ?_
        refine R_iast hL1 (cE_66 Ω k1) (vin 1369 1554 rfl) dX10_minors_185 ?_
        refine R_st h (fun σ30 h => ?_)
        refine R_aload_n (i := 1) dX10_minors_186 rfl rfl ?_
        refine R_sipush (v := 1365) dX10_minors_187 rfl ?_
        refine R_dup2 dX10_minors_190 rfl rfl ?_
        refine R_iald hL1 (cE_66 Ω k1 _) (vin 1365 1554 rfl) dX10_minors_191 ?_
        refine R_iconst (v := 1) dX10_minors_192 rfl ?_
        refine R_iadd dX10_minors_193 ?_
        refine R_iast hL1 (cE_66 Ω k1) (vin 1365 1554 rfl) dX10_minors_194 ?_
        refine R_st h (fun σ31 h => ?_)
        refine R_aload_n (i := 1) dX10_minors_195 rfl rfl ?_
        refine R_sipush (v := 1372) dX10_minors_196 rfl ?_
        refine R_iconst (v := 1) dX10_minors_199 rfl ?_
        refine R_aload_n (i := 1) dX10_minors_200 rfl rfl ?_
        refine R_sipush (v := 1372) dX10_minors_201 rfl ?_
        refine R_iald hL1 (cE_66 Ω k1 _) (vin 1372 1554 rfl) dX10_minors_204 ?_
        refine R_isub dX10_minors_205 ?_
        refine R_iast hL1 (cE_66 Ω k1) (vin 1372 1554 rfl) dX10_minors_206 ?_
        refine R_st h (fun σ32 h => ?_)
        refine R_iconst (v := 1) dX10_minors_207 rfl ?_
        exact R_zret dX10_minors_208 rfl (Or.inr rfl) h
  · have h := hit_f h hc
    refine R_aload_n (i := 0) dX10_minors_52 rfl rfl ?_
    refine R_get foX10_35 hL0 (cE_10 Ω 0 _) rfl dX10_minors_53 ?_
    refine R_iconst (v := 0) dX10_minors_56 rfl ?_
    refine R_aload_n (i := 1) dX10_minors_57 rfl rfl ?_
    refine R_iconst (v := 0) dX10_minors_58 rfl ?_
    refine R_callSv (ctX10_copyRow l Ω 66 2 1554 0 66 k1 1554 0 (WF.kid hW 8 hL0 rfl) (cE_66 Ω 2) hL1 (cE_66 Ω k1) _ _ (hit_mono (hit_bd h) (fun r33 σ34 h => ?_))) okX10_copyRow mw_1406 rfl rfl (Nat.le_of_ble_eq_true rfl) rfl rfl ⟨by decide, by decide⟩ ⟨Nat.zero_le _, Nat.zero_le _⟩ dX10_minors_59
    refine R_iconst (v := 0) dX10_minors_62 rfl ?_
    exact R_zret dX10_minors_63 rfl (Or.inl rfl) h
set_option maxRecDepth 100000 in
set_option maxHeartbeats 4000000 in
theorem ctX10_minors (l : Launch) (Ω : rO) (k1 : Nat) (hL0 : oL Ω 10 0) (hL1 : oL Ω 66 k1) (σ : rS) (K : Int32 → rS → Prop) (h : hit (fX10_minors k1 σ) K) : Ct l Ω yX10_minors cX10_minors 4 (some .boolean) rmX10_minors [rf Ω 10 0, rf Ω 66 k1] σ K := by
  refine Ct.of (own := RX10) (lv := [some (rf Ω 10 0), some (rf Ω 66 k1), none, none]) (by decide) rfl (Nat.le_of_ble_eq_true rfl) rfl (fun hW => ?_)
  unfold fX10_minors at h
  refine R_aload_n (i := 1) dX10_minors_0 rfl rfl ?_
  refine R_iconst (v := 0) dX10_minors_1 rfl ?_
  refine R_aload_n (i := 0) dX10_minors_2 rfl rfl ?_
  refine R_get foX10_35 hL0 (cE_10 Ω 0 _) rfl dX10_minors_3 ?_
  refine R_iconst (v := 0) dX10_minors_6 rfl ?_
  refine R_callSv (ctX10_copyRow l Ω 66 k1 1554 0 66 2 1554 0 hL1 (cE_66 Ω k1) (WF.kid hW 8 hL0 rfl) (cE_66 Ω 2) _ _ (hit_mono (hit_bd h) (fun r1 σ2 h => ?_))) okX10_copyRow mw_1406 rfl rfl (Nat.le_of_ble_eq_true rfl) rfl rfl ⟨by decide, by decide⟩ ⟨Nat.zero_le _, Nat.zero_le _⟩ dX10_minors_7
  refine R_aload_n (i := 0) dX10_minors_10 rfl rfl ?_
  refine R_callVv (ctX10_begins l Ω hL0 _ _ (hit_mono (hit_bd h) (fun r3 σ4 h => ?_))) okX10_begins mw_1456 hL0 (cE_10 Ω 0 _) rfl rfl (Nat.le_of_ble_eq_true rfl) rfl rfl ⟨by decide, by decide⟩ ⟨Nat.zero_le _, Nat.zero_le _⟩ dX10_minors_11
  refine R_aload_n (i := 0) dX10_minors_14 rfl rfl ?_
  refine R_iconst (v := 0) dX10_minors_15 rfl ?_
  refine R_put poX10_220 hL0 (cE_10 Ω 0 _) (cP_10_25 Ω 0 _ _) (Nat.le_of_ble_eq_true rfl) dX10_minors_16 ?_
  refine R_st h (fun σ5 h => ?_)
  refine R_aload_n (i := 0) dX10_minors_19 rfl rfl ?_
  refine R_aload_n (i := 1) dX10_minors_20 rfl rfl ?_
  refine R_iconst (v := 2) dX10_minors_21 rfl ?_
  refine R_callSi (ctX10_cellsIn l Ω k1 2 hL1 _ _ (hit_mono (hit_bd h) (fun r6 σ7 h => ?_))) okX10_cellsIn mw_1446 rfl rfl (Nat.le_of_ble_eq_true rfl) rfl rfl ⟨by decide, by decide⟩ ⟨Nat.zero_le _, Nat.zero_le _⟩ dX10_minors_22
  refine R_put poX10_223 hL0 (cE_10 Ω 0 _) (cP_10_26 Ω 0 _ _) (Nat.le_of_ble_eq_true rfl) dX10_minors_25 ?_
  refine R_st h (fun σ8 h => ?_)
  refine R_aload_n (i := 0) dX10_minors_28 rfl rfl ?_
  refine R_aload_n (i := 1) dX10_minors_29 rfl rfl ?_
  refine R_callVv (ctX10_movesReached l Ω k1 hL0 hL1 _ _ (hit_mono (hit_bd h) (fun r9 σ10 h => ?_))) okX10_movesReached mw_1460 hL0 (cE_10 Ω 0 _) rfl rfl (Nat.le_of_ble_eq_true rfl) rfl rfl ⟨by decide, by decide⟩ ⟨Nat.zero_le _, Nat.zero_le _⟩ dX10_minors_30
  refine R_aload_n (i := 0) dX10_minors_33 rfl rfl ?_
  refine R_get foX10_198 hL0 (cE_10 Ω 0 _) rfl dX10_minors_34 ?_
  refine R_if_ne (tgt := 45) dX10_minors_37 (by decide) (fun hc => ?_) (fun hc => ?_)
  · have h := hit_f h hc
    exact rnX10_minors_j45 hW k1 hL0 hL1 σ10  h
  · have h := hit_t h hc
    refine R_aload_n (i := 0) dX10_minors_40 rfl rfl ?_
    refine R_aload_n (i := 1) dX10_minors_41 rfl rfl ?_
    refine R_callVv (ctX10_weakensAndEnds l Ω k1 hL0 hL1 _ _ (hit_mono (hit_bd h) (fun r35 σ36 h => ?_))) okX10_weakensAndEnds mw_1485 hL0 (cE_10 Ω 0 _) rfl rfl (Nat.le_of_ble_eq_true rfl) rfl rfl ⟨by decide, by decide⟩ ⟨Nat.zero_le _, Nat.zero_le _⟩ dX10_minors_42
    exact rnX10_minors_j45 hW k1 hL0 hL1 σ36  h
set_option maxRecDepth 100000 in
set_option maxHeartbeats 4000000 in
theorem rnX10_slides_j83L15 {l : Launch} {Ω : rO} (hW : WF Ω) (k1 : Nat) (x2 : Int32) (x3 : Int32) (x4 : Int32) (x5 : Int32) (hL0 : oL Ω 10 0) (hL1 : oL Ω 66 k1) (σ : rS) {K : Int32 → rS → Prop} {K0 : ((Int32 × Int32) ⊕ Int32) → rS → Prop} (hC : ∀ (x4 : Int32) (x5 : Int32) (σ : rS), K0 (.inl (x4, x5)) σ → Run l Ω cX10_slides RX10 6 none rmX10_slides K 15 [some (rf Ω 10 0), some (rf Ω 66 k1), some (.int x2), some (.int x3), some (.int x4), some (.int x5)] [] σ) (hE0 : ∀ (e : Int32) (σ : rS), K0 (.inr e) σ → Run l Ω cX10_slides RX10 6 none rmX10_slides K 89 [some (rf Ω 10 0), some (rf Ω 66 k1), some (.int x2), none, some (.int e), none] [] σ) (h : hit (fX10_slides_j83L15 k1 x2 x3 x4 x5 σ) K0) : Run l Ω cX10_slides RX10 6 none rmX10_slides K 83 [some (rf Ω 10 0), some (rf Ω 66 k1), some (.int x2), some (.int x3), some (.int x4), some (.int x5)] [] σ := by
  unfold fX10_slides_j83L15 at h
  refine R_iinc (v := x5 + 1) (lv2 := [some (rf Ω 10 0), some (rf Ω 66 k1), some (.int x2), some (.int x3), some (.int x4), some (.int (x5 + 1))]) dX10_slides_83 rfl rfl (by decide) rfl rfl ?_
  refine R_goto (tgt := 15) dX10_slides_86 (by decide) ?_
  exact hC x4 (x5 + 1) σ h
set_option maxRecDepth 100000 in
set_option maxHeartbeats 4000000 in
theorem rnX10_slides_j79L15 {l : Launch} {Ω : rO} (hW : WF Ω) (k1 : Nat) (x2 : Int32) (x3 : Int32) (x5 : Int32) (hL0 : oL Ω 10 0) (hL1 : oL Ω 66 k1) (σ : rS) {K : Int32 → rS → Prop} {K0 : ((Int32 × Int32) ⊕ Int32) → rS → Prop} (hC : ∀ (x4 : Int32) (x5 : Int32) (σ : rS), K0 (.inl (x4, x5)) σ → Run l Ω cX10_slides RX10 6 none rmX10_slides K 15 [some (rf Ω 10 0), some (rf Ω 66 k1), some (.int x2), some (.int x3), some (.int x4), some (.int x5)] [] σ) (hE0 : ∀ (e : Int32) (σ : rS), K0 (.inr e) σ → Run l Ω cX10_slides RX10 6 none rmX10_slides K 89 [some (rf Ω 10 0), some (rf Ω 66 k1), some (.int x2), none, some (.int e), none] [] σ) (h : hit (fX10_slides_j79L15 k1 x2 x3 x5 σ) K0) : Run l Ω cX10_slides RX10 6 none rmX10_slides K 79 [some (rf Ω 10 0), some (rf Ω 66 k1), some (.int x2), some (.int x3), none, some (.int x5)] [] σ := by
  unfold fX10_slides_j79L15 at h
  refine R_iload (i := 5) dX10_slides_79 rfl ?_
  refine R_istore (lv2 := [some (rf Ω 10 0), some (rf Ω 66 k1), some (.int x2), some (.int x3), some (.int x5), some (.int x5)]) dX10_slides_81 (by decide) rfl rfl ?_
  exact rnX10_slides_j83L15 hW k1 x2 x3 x5 x5 hL0 hL1 σ hC hE0 h
set_option maxRecDepth 100000 in
set_option maxHeartbeats 4000000 in
theorem rsX10_slides_L15 {l : Launch} {Ω : rO} (hW : WF Ω) (k1 : Nat) (x2 : Int32) (x3 : Int32) (x4 : Int32) (x5 : Int32) (hL0 : oL Ω 10 0) (hL1 : oL Ω 66 k1) (σ : rS) {K : Int32 → rS → Prop} {K0 : ((Int32 × Int32) ⊕ Int32) → rS → Prop} (hC : ∀ (x4 : Int32) (x5 : Int32) (σ : rS), K0 (.inl (x4, x5)) σ → Run l Ω cX10_slides RX10 6 none rmX10_slides K 15 [some (rf Ω 10 0), some (rf Ω 66 k1), some (.int x2), some (.int x3), some (.int x4), some (.int x5)] [] σ) (hE0 : ∀ (e : Int32) (σ : rS), K0 (.inr e) σ → Run l Ω cX10_slides RX10 6 none rmX10_slides K 89 [some (rf Ω 10 0), some (rf Ω 66 k1), some (.int x2), none, some (.int e), none] [] σ) (h : hit (fX10_slides_L15 k1 x2 x3 x4 x5 σ) K0) : Run l Ω cX10_slides RX10 6 none rmX10_slides K 15 [some (rf Ω 10 0), some (rf Ω 66 k1), some (.int x2), some (.int x3), some (.int x4), some (.int x5)] [] σ := by
  unfold fX10_slides_L15 at h
  refine R_iload (i := 5) dX10_slides_15 rfl ?_
  refine R_aload_n (i := 1) dX10_slides_17 rfl rfl ?_
  refine R_iconst (v := 0) dX10_slides_18 rfl ?_
  refine R_iald hL1 (cE_66 Ω k1 _) (vin 0 1554 rfl) dX10_slides_19 ?_
  refine R_icmp_ge (tgt := 89) dX10_slides_20 (by decide) (fun hc => ?_) (fun hc => ?_)
  · have h := hit_f h hc
    refine R_drop (lv2 := [some (rf Ω 10 0), some (rf Ω 66 k1), some (.int x2), none, some (.int x4), some (.int x5)]) 3 rfl ?_
    refine R_drop (lv2 := [some (rf Ω 10 0), some (rf Ω 66 k1), some (.int x2), none, some (.int x4), none]) 5 rfl ?_
    exact hE0 x4 σ h
  · have h := hit_t h hc
    refine R_aload_n (i := 1) dX10_slides_23 rfl rfl ?_
    refine R_iload (i := 5) dX10_slides_24 rfl ?_
    refine R_callSi (ctX10_isOld l Ω k1 x5 hL1 _ _ (hit_mono (hit_bd h) (fun r2 σ3 h => ?_))) okX10_isOld mw_1468 rfl rfl (Nat.le_of_ble_eq_true rfl) rfl rfl ⟨by decide, by decide⟩ ⟨Nat.zero_le _, Nat.zero_le _⟩ dX10_slides_26
    refine R_if_eq (tgt := 83) dX10_slides_29 (by decide) (fun hc => ?_) (fun hc => ?_)
    · have h := hit_t h hc
      exact rnX10_slides_j83L15 hW k1 x2 x3 x4 x5 hL0 hL1 σ3 hC hE0 h
    · have h := hit_f h hc
      refine R_aload_n (i := 0) dX10_slides_32 rfl rfl ?_
      refine R_get foX10_45 hL0 (cE_10 Ω 0 _) rfl dX10_slides_33 ?_
      refine R_iload (i := 5) dX10_slides_36 rfl ?_
      obtain ⟨hb, h⟩ := hit_bnd h
      refine R_zald (WF.kid hW 11 hL0 rfl) (cE_68 Ω 0 _) hb dX10_slides_38 ?_
      refine R_if_eq (tgt := 83) dX10_slides_39 (by decide) (fun hc => ?_) (fun hc => ?_)
      · have h := hit_t h hc
        exact rnX10_slides_j83L15 hW k1 x2 x3 x4 x5 hL0 hL1 σ3 hC hE0 h
      · have h := hit_f h hc
        refine R_aload_n (i := 1) dX10_slides_42 rfl rfl ?_
        refine R_iload (i := 5) dX10_slides_43 rfl ?_
        refine R_bipush (v := 6) dX10_slides_45 rfl ?_
        refine R_callSi (ctX10_of l Ω k1 x5 6 hL1 _ _ (hit_mono (hit_bd h) (fun r4 σ5 h => ?_))) okX10_of mw_1435 rfl rfl (Nat.le_of_ble_eq_true rfl) rfl rfl ⟨by decide, by decide⟩ ⟨Nat.zero_le _, Nat.zero_le _⟩ dX10_slides_47
        refine R_iload_n (i := 3) dX10_slides_50 rfl rfl ?_
        refine R_icmp_le (tgt := 83) dX10_slides_51 (by decide) (fun hc => ?_) (fun hc => ?_)
        · have h := hit_f h hc
          exact rnX10_slides_j83L15 hW k1 x2 x3 x4 x5 hL0 hL1 σ5 hC hE0 h
        · have h := hit_t h hc
          refine R_iload (i := 4) dX10_slides_54 rfl ?_
          refine R_iconst (v := (-1)) dX10_slides_56 rfl ?_
          refine R_icmp_eq (tgt := 79) dX10_slides_57 (by decide) (fun hc => ?_) (fun hc => ?_)
          · have h := hit_t h hc
            refine R_drop (lv2 := [some (rf Ω 10 0), some (rf Ω 66 k1), some (.int x2), some (.int x3), none, some (.int x5)]) 4 rfl ?_
            exact rnX10_slides_j79L15 hW k1 x2 x3 x5 hL0 hL1 σ5 hC hE0 h
          · have h := hit_f h hc
            refine R_aload_n (i := 1) dX10_slides_60 rfl rfl ?_
            refine R_iload (i := 5) dX10_slides_61 rfl ?_
            refine R_bipush (v := 6) dX10_slides_63 rfl ?_
            refine R_callSi (ctX10_of l Ω k1 x5 6 hL1 _ _ (hit_mono (hit_bd h) (fun r6 σ7 h => ?_))) okX10_of mw_1435 rfl rfl (Nat.le_of_ble_eq_true rfl) rfl rfl ⟨by decide, by decide⟩ ⟨Nat.zero_le _, Nat.zero_le _⟩ dX10_slides_65
            refine R_aload_n (i := 1) dX10_slides_68 rfl rfl ?_
            refine R_iload (i := 4) dX10_slides_69 rfl ?_
            refine R_bipush (v := 6) dX10_slides_71 rfl ?_
            refine R_callSi (ctX10_of l Ω k1 x4 6 hL1 _ _ (hit_mono (hit_bd h) (fun r8 σ9 h => ?_))) okX10_of mw_1435 rfl rfl (Nat.le_of_ble_eq_true rfl) rfl rfl ⟨by decide, by decide⟩ ⟨Nat.zero_le _, Nat.zero_le _⟩ dX10_slides_73
            refine R_icmp_ge (tgt := 83) dX10_slides_76 (by decide) (fun hc => ?_) (fun hc => ?_)
            · have h := hit_f h hc
              exact rnX10_slides_j83L15 hW k1 x2 x3 x4 x5 hL0 hL1 σ9 hC hE0 h
            · have h := hit_t h hc
              refine R_drop (lv2 := [some (rf Ω 10 0), some (rf Ω 66 k1), some (.int x2), some (.int x3), none, some (.int x5)]) 4 rfl ?_
              exact rnX10_slides_j79L15 hW k1 x2 x3 x5 hL0 hL1 σ9 hC hE0 h
set_option maxRecDepth 100000 in
set_option maxHeartbeats 4000000 in
theorem rlX10_slides_L15 {l : Launch} {Ω : rO} (hW : WF Ω) (k1 : Nat) (x2 : Int32) (x3 : Int32) (hL0 : oL Ω 10 0) (hL1 : oL Ω 66 k1) {K : Int32 → rS → Prop} {KE : Int32 → rS → Prop} (hE0 : ∀ (e : Int32) (σ : rS), KE e σ → Run l Ω cX10_slides RX10 6 none rmX10_slides K 89 [some (rf Ω 10 0), some (rf Ω 66 k1), some (.int x2), none, some (.int e), none] [] σ) : ∀ (n : Nat) (x4 : Int32) (x5 : Int32) (σ : rS), hit (lp (fun (x : (Int32 × Int32)) σ => fX10_slides_L15 k1 x2 x3 x.1 x.2 σ) n (x4, x5) σ) KE → Run l Ω cX10_slides RX10 6 none rmX10_slides K 15 [some (rf Ω 10 0), some (rf Ω 66 k1), some (.int x2), some (.int x3), some (.int x4), some (.int x5)] [] σ := by
  intro n
  induction n with
  | zero => intro x4 x5 σ h; exact (h : False).elim
  | succ n ih =>
    intro x4 x5 σ h
    exact rsX10_slides_L15 hW k1 x2 x3 x4 x5 hL0 hL1 σ (fun x4 x5 σ h => ih x4 x5 σ h) (fun e σ h => hE0 e σ h) (hit_lp h)
set_option maxRecDepth 100000 in
set_option maxHeartbeats 4000000 in
theorem rnX10_slides_j120L9 {l : Launch} {Ω : rO} (hW : WF Ω) (k1 : Nat) (x2 : Int32) (x3 : Int32) (x4 : Int32) (z0 : Int32) (z1 : Int32) (hL0 : oL Ω 10 0) (hL1 : oL Ω 66 k1) (hz2 : oL Ω 10 0) (σ : rS) {K : Int32 → rS → Prop} {K0 : ((Int32 × Int32) ⊕ Unit) → rS → Prop} (hC : ∀ (x2 : Int32) (x3 : Int32) (σ : rS), K0 (.inl (x2, x3)) σ → Run l Ω cX10_slides RX10 6 none rmX10_slides K 9 [some (rf Ω 10 0), some (rf Ω 66 k1), some (.int x2), some (.int x3), none, none] [] σ) (hE0 : ∀ (e : Unit) (σ : rS), K0 (.inr e) σ → Run l Ω cX10_slides RX10 6 none rmX10_slides K 95 [none, none, none, none, none, none] [] σ) (h : hit (fX10_slides_j120L9 k1 x2 x3 x4 z0 z1 σ) K0) : Run l Ω cX10_slides RX10 6 none rmX10_slides K 120 [some (rf Ω 10 0), some (rf Ω 66 k1), some (.int x2), some (.int x3), some (.int x4), none] [.int z0, .int z1, rf Ω 10 0] σ := by
  unfold fX10_slides_j120L9 at h
  refine R_iadd dX10_slides_120 ?_
  refine R_put poX10_274 hz2 (cE_10 Ω 0 _) (cP_10_29 Ω 0 _ _) (Nat.le_of_ble_eq_true rfl) dX10_slides_121 ?_
  refine R_st h (fun σ14 h => ?_)
  refine R_aload_n (i := 1) dX10_slides_124 rfl rfl ?_
  refine R_iload (i := 4) dX10_slides_125 rfl ?_
  refine R_bipush (v := 6) dX10_slides_127 rfl ?_
  refine R_callSi (ctX10_cell l Ω x4 6 _ _ (hit_mono (hit_bd h) (fun r15 σ16 h => ?_))) okX10_cell mw_1471 rfl rfl (Nat.le_of_ble_eq_true rfl) rfl rfl ⟨by decide, by decide⟩ ⟨Nat.zero_le _, Nat.zero_le _⟩ dX10_slides_129
  refine R_iload_n (i := 2) dX10_slides_132 rfl rfl ?_
  obtain ⟨hb, h⟩ := hit_bnd h
  refine R_iast hL1 (cE_66 Ω k1) hb dX10_slides_133 ?_
  refine R_st h (fun σ17 h => ?_)
  refine R_iload_n (i := 2) dX10_slides_134 rfl rfl ?_
  refine R_aload_n (i := 1) dX10_slides_135 rfl rfl ?_
  refine R_iload (i := 4) dX10_slides_136 rfl ?_
  refine R_callSi (ctX10_sizeOf l Ω k1 x4 hL1 _ _ (hit_mono (hit_bd h) (fun r18 σ19 h => ?_))) okX10_sizeOf mw_1449 rfl rfl (Nat.le_of_ble_eq_true rfl) rfl rfl ⟨by decide, by decide⟩ ⟨Nat.zero_le _, Nat.zero_le _⟩ dX10_slides_138
  refine R_iadd dX10_slides_141 ?_
  refine R_topi h (fun y20 h => ?_)
  refine R_istore_n (lv2 := [some (rf Ω 10 0), some (rf Ω 66 k1), some (.int y20), some (.int x3), some (.int x4), none]) dX10_slides_142 rfl (by decide) rfl rfl ?_
  refine R_goto (tgt := 9) dX10_slides_143 (by decide) ?_
  refine R_drop (lv2 := [some (rf Ω 10 0), some (rf Ω 66 k1), some (.int y20), some (.int x3), none, none]) 4 rfl ?_
  exact hC y20 x3 σ19 h
set_option maxRecDepth 100000 in
set_option maxHeartbeats 4000000 in
theorem rsX10_slides_L9 {l : Launch} {Ω : rO} (hW : WF Ω) (k1 : Nat) (x2 : Int32) (x3 : Int32) (hL0 : oL Ω 10 0) (hL1 : oL Ω 66 k1) (σ : rS) {K : Int32 → rS → Prop} {K0 : ((Int32 × Int32) ⊕ Unit) → rS → Prop} (hC : ∀ (x2 : Int32) (x3 : Int32) (σ : rS), K0 (.inl (x2, x3)) σ → Run l Ω cX10_slides RX10 6 none rmX10_slides K 9 [some (rf Ω 10 0), some (rf Ω 66 k1), some (.int x2), some (.int x3), none, none] [] σ) (hE0 : ∀ (e : Unit) (σ : rS), K0 (.inr e) σ → Run l Ω cX10_slides RX10 6 none rmX10_slides K 95 [none, none, none, none, none, none] [] σ) (h : hit (fX10_slides_L9 k1 x2 x3 σ) K0) : Run l Ω cX10_slides RX10 6 none rmX10_slides K 9 [some (rf Ω 10 0), some (rf Ω 66 k1), some (.int x2), some (.int x3), none, none] [] σ := by
  unfold fX10_slides_L9 at h
  refine R_iconst (v := (-1)) dX10_slides_9 rfl ?_
  refine R_istore (lv2 := [some (rf Ω 10 0), some (rf Ω 66 k1), some (.int x2), some (.int x3), some (.int (-1)), none]) dX10_slides_10 (by decide) rfl rfl ?_
  refine R_iconst (v := 0) dX10_slides_12 rfl ?_
  refine R_istore (lv2 := [some (rf Ω 10 0), some (rf Ω 66 k1), some (.int x2), some (.int x3), some (.int (-1)), some (.int 0)]) dX10_slides_13 (by decide) rfl rfl ?_
  refine rlX10_slides_L15 hW k1 x2 x3 hL0 hL1 ?_ fu (-1) 0 σ (hit_bd h)
  · intro e11 σ10 h
    try dsimp only at h
    refine R_iload (i := 4) dX10_slides_89 rfl ?_
    refine R_iconst (v := (-1)) dX10_slides_91 rfl ?_
    refine R_icmp_ne (tgt := 96) dX10_slides_92 (by decide) (fun hc => ?_) (fun hc => ?_)
    · have h := hit_f h hc
      refine R_aload_n (i := 1) dX10_slides_96 rfl rfl ?_
      refine R_iload (i := 4) dX10_slides_97 rfl ?_
      refine R_bipush (v := 6) dX10_slides_99 rfl ?_
      refine R_callSi (ctX10_of l Ω k1 e11 6 hL1 _ _ (hit_mono (hit_bd h) (fun r12 σ13 h => ?_))) okX10_of mw_1435 rfl rfl (Nat.le_of_ble_eq_true rfl) rfl rfl ⟨by decide, by decide⟩ ⟨Nat.zero_le _, Nat.zero_le _⟩ dX10_slides_101
      refine R_istore_n (lv2 := [some (rf Ω 10 0), some (rf Ω 66 k1), some (.int x2), some (.int r12), some (.int e11), none]) dX10_slides_104 rfl (by decide) rfl rfl ?_
      refine R_aload_n (i := 0) dX10_slides_105 rfl rfl ?_
      refine R_dup dX10_slides_106 rfl ?_
      refine R_get foX10_274 hL0 (cE_10 Ω 0 _) rfl dX10_slides_107 ?_
      refine R_iload_n (i := 3) dX10_slides_110 rfl rfl ?_
      refine R_iload_n (i := 2) dX10_slides_111 rfl rfl ?_
      refine R_icmp_ne (tgt := 119) dX10_slides_112 (by decide) (fun hc => ?_) (fun hc => ?_)
      · have h := hit_f h hc
        refine R_iconst (v := 1) dX10_slides_119 rfl ?_
        exact rnX10_slides_j120L9 hW k1 x2 r12 e11 1 (σ13 10 0 29) hL0 hL1 hL0 σ13 hC hE0 h
      · have h := hit_t h hc
        refine R_iconst (v := 0) dX10_slides_115 rfl ?_
        refine R_goto (tgt := 120) dX10_slides_116 (by decide) ?_
        exact rnX10_slides_j120L9 hW k1 x2 r12 e11 0 (σ13 10 0 29) hL0 hL1 hL0 σ13 hC hE0 h
    · have h := hit_t h hc
      refine R_drop (lv2 := [none, some (rf Ω 66 k1), some (.int x2), none, some (.int e11), none]) 0 rfl ?_
      refine R_drop (lv2 := [none, none, some (.int x2), none, some (.int e11), none]) 1 rfl ?_
      refine R_drop (lv2 := [none, none, none, none, some (.int e11), none]) 2 rfl ?_
      refine R_drop (lv2 := [none, none, none, none, none, none]) 4 rfl ?_
      exact hE0 () σ10 h
set_option maxRecDepth 100000 in
set_option maxHeartbeats 4000000 in
theorem rlX10_slides_L9 {l : Launch} {Ω : rO} (hW : WF Ω) (k1 : Nat) (hL0 : oL Ω 10 0) (hL1 : oL Ω 66 k1) {K : Int32 → rS → Prop} {KE : Unit → rS → Prop} (hE0 : ∀ (e : Unit) (σ : rS), KE e σ → Run l Ω cX10_slides RX10 6 none rmX10_slides K 95 [none, none, none, none, none, none] [] σ) : ∀ (n : Nat) (x2 : Int32) (x3 : Int32) (σ : rS), hit (lp (fun (x : (Int32 × Int32)) σ => fX10_slides_L9 k1 x.1 x.2 σ) n (x2, x3) σ) KE → Run l Ω cX10_slides RX10 6 none rmX10_slides K 9 [some (rf Ω 10 0), some (rf Ω 66 k1), some (.int x2), some (.int x3), none, none] [] σ := by
  intro n
  induction n with
  | zero => intro x2 x3 σ h; exact (h : False).elim
  | succ n ih =>
    intro x2 x3 σ h
    exact rsX10_slides_L9 hW k1 x2 x3 hL0 hL1 σ (fun x2 x3 σ h => ih x2 x3 σ h) (fun e σ h => hE0 e σ h) (hit_lp h)
set_option maxRecDepth 100000 in
set_option maxHeartbeats 4000000 in
theorem ctX10_slides (l : Launch) (Ω : rO) (k1 : Nat) (hL0 : oL Ω 10 0) (hL1 : oL Ω 66 k1) (σ : rS) (K : Int32 → rS → Prop) (h : hit (fX10_slides k1 σ) K) : Ct l Ω yX10_slides cX10_slides 6 none rmX10_slides [rf Ω 10 0, rf Ω 66 k1] σ K := by
  refine Ct.of (own := RX10) (lv := [some (rf Ω 10 0), some (rf Ω 66 k1), none, none, none, none]) (by decide) rfl (Nat.le_of_ble_eq_true rfl) rfl (fun hW => ?_)
  unfold fX10_slides at h
  refine R_iconst (v := 0) dX10_slides_0 rfl ?_
  refine R_istore_n (lv2 := [some (rf Ω 10 0), some (rf Ω 66 k1), some (.int 0), none, none, none]) dX10_slides_1 rfl (by decide) rfl rfl ?_
  refine R_iconst (v := (-1)) dX10_slides_2 rfl ?_
  refine R_istore_n (lv2 := [some (rf Ω 10 0), some (rf Ω 66 k1), some (.int 0), some (.int (-1)), none, none]) dX10_slides_3 rfl (by decide) rfl rfl ?_
  refine R_aload_n (i := 0) dX10_slides_4 rfl rfl ?_
  refine R_iconst (v := 0) dX10_slides_5 rfl ?_
  refine R_put poX10_274 hL0 (cE_10 Ω 0 _) (cP_10_29 Ω 0 _ _) (Nat.le_of_ble_eq_true rfl) dX10_slides_6 ?_
  refine R_st h (fun σ1 h => ?_)
  refine rlX10_slides_L9 hW k1 hL0 hL1 ?_ fu 0 (-1) σ1 (hit_bd h)
  · intro e22 σ21 h
    try dsimp only at h
    exact R_vret dX10_slides_95 rfl h
set_option maxRecDepth 100000 in
set_option maxHeartbeats 4000000 in
theorem rnX10_majors_j32L9 {l : Launch} {Ω : rO} (hW : WF Ω) (k1 : Nat) (x2 : Int32) (hL0 : oL Ω 10 0) (hL1 : oL Ω 66 k1) (σ : rS) {K : Int32 → rS → Prop} {K0 : (Int32 ⊕ Unit) → rS → Prop} (hC : ∀ (x2 : Int32) (σ : rS), K0 (.inl x2) σ → Run l Ω cX10_majors RX10 5 none rmX10_majors K 9 [some (rf Ω 10 0), some (rf Ω 66 k1), some (.int x2), none, none] [] σ) (hE0 : ∀ (e : Unit) (σ : rS), K0 (.inr e) σ → Run l Ω cX10_majors RX10 5 none rmX10_majors K 38 [some (rf Ω 10 0), some (rf Ω 66 k1), none, none, none] [] σ) (h : hit (fX10_majors_j32L9 k1 x2 σ) K0) : Run l Ω cX10_majors RX10 5 none rmX10_majors K 32 [some (rf Ω 10 0), some (rf Ω 66 k1), some (.int x2), none, none] [] σ := by
  unfold fX10_majors_j32L9 at h
  refine R_iinc (v := x2 + 1) (lv2 := [some (rf Ω 10 0), some (rf Ω 66 k1), some (.int (x2 + 1)), none, none]) dX10_majors_32 rfl rfl (by decide) rfl rfl ?_
  refine R_goto (tgt := 9) dX10_majors_35 (by decide) ?_
  exact hC (x2 + 1) σ h
set_option maxRecDepth 100000 in
set_option maxHeartbeats 4000000 in
theorem rsX10_majors_L9 {l : Launch} {Ω : rO} (hW : WF Ω) (k1 : Nat) (x2 : Int32) (hL0 : oL Ω 10 0) (hL1 : oL Ω 66 k1) (σ : rS) {K : Int32 → rS → Prop} {K0 : (Int32 ⊕ Unit) → rS → Prop} (hC : ∀ (x2 : Int32) (σ : rS), K0 (.inl x2) σ → Run l Ω cX10_majors RX10 5 none rmX10_majors K 9 [some (rf Ω 10 0), some (rf Ω 66 k1), some (.int x2), none, none] [] σ) (hE0 : ∀ (e : Unit) (σ : rS), K0 (.inr e) σ → Run l Ω cX10_majors RX10 5 none rmX10_majors K 38 [some (rf Ω 10 0), some (rf Ω 66 k1), none, none, none] [] σ) (h : hit (fX10_majors_L9 k1 x2 σ) K0) : Run l Ω cX10_majors RX10 5 none rmX10_majors K 9 [some (rf Ω 10 0), some (rf Ω 66 k1), some (.int x2), none, none] [] σ := by
  unfold fX10_majors_L9 at h
  refine R_iload_n (i := 2) dX10_majors_9 rfl rfl ?_
  refine R_aload_n (i := 1) dX10_majors_10 rfl rfl ?_
  refine R_iconst (v := 0) dX10_majors_11 rfl ?_
  refine R_iald hL1 (cE_66 Ω k1 _) (vin 0 1554 rfl) dX10_majors_12 ?_
  refine R_icmp_ge (tgt := 38) dX10_majors_13 (by decide) (fun hc => ?_) (fun hc => ?_)
  · have h := hit_f h hc
    refine R_drop (lv2 := [some (rf Ω 10 0), some (rf Ω 66 k1), none, none, none]) 2 rfl ?_
    exact hE0 () σ h
  · have h := hit_t h hc
    refine R_aload_n (i := 0) dX10_majors_16 rfl rfl ?_
    refine R_get foX10_45 hL0 (cE_10 Ω 0 _) rfl dX10_majors_17 ?_
    refine R_iload_n (i := 2) dX10_majors_20 rfl rfl ?_
    obtain ⟨hb, h⟩ := hit_bnd h
    refine R_zald (WF.kid hW 11 hL0 rfl) (cE_68 Ω 0 _) hb dX10_majors_21 ?_
    refine R_if_eq (tgt := 32) dX10_majors_22 (by decide) (fun hc => ?_) (fun hc => ?_)
    · have h := hit_t h hc
      exact rnX10_majors_j32L9 hW k1 x2 hL0 hL1 σ hC hE0 h
    · have h := hit_f h hc
      refine R_aload_n (i := 0) dX10_majors_25 rfl rfl ?_
      refine R_aload_n (i := 1) dX10_majors_26 rfl rfl ?_
      refine R_iload_n (i := 2) dX10_majors_27 rfl rfl ?_
      refine R_iconst (v := 0) dX10_majors_28 rfl ?_
      refine R_callVv (ctX10_empties l Ω k1 x2 0 hL0 hL1 _ _ (hit_mono (hit_bd h) (fun r3 σ4 h => ?_))) okX10_empties mw_1489 hL0 (cE_10 Ω 0 _) rfl rfl (Nat.le_of_ble_eq_true rfl) rfl rfl ⟨by decide, by decide⟩ ⟨Nat.zero_le _, Nat.zero_le _⟩ dX10_majors_29
      exact rnX10_majors_j32L9 hW k1 x2 hL0 hL1 σ4 hC hE0 h
set_option maxRecDepth 100000 in
set_option maxHeartbeats 4000000 in
theorem rlX10_majors_L9 {l : Launch} {Ω : rO} (hW : WF Ω) (k1 : Nat) (hL0 : oL Ω 10 0) (hL1 : oL Ω 66 k1) {K : Int32 → rS → Prop} {KE : Unit → rS → Prop} (hE0 : ∀ (e : Unit) (σ : rS), KE e σ → Run l Ω cX10_majors RX10 5 none rmX10_majors K 38 [some (rf Ω 10 0), some (rf Ω 66 k1), none, none, none] [] σ) : ∀ (n : Nat) (x2 : Int32) (σ : rS), hit (lp (fun (x : Int32) σ => fX10_majors_L9 k1 x σ) n x2 σ) KE → Run l Ω cX10_majors RX10 5 none rmX10_majors K 9 [some (rf Ω 10 0), some (rf Ω 66 k1), some (.int x2), none, none] [] σ := by
  intro n
  induction n with
  | zero => intro x2 σ h; exact (h : False).elim
  | succ n ih =>
    intro x2 σ h
    exact rsX10_majors_L9 hW k1 x2 hL0 hL1 σ (fun x2 σ h => ih x2 σ h) (fun e σ h => hE0 e σ h) (hit_lp h)
set_option maxRecDepth 100000 in
set_option maxHeartbeats 4000000 in
theorem rsX10_majors_L51 {l : Launch} {Ω : rO} (hW : WF Ω) (k1 : Nat) (x2 : Int32) (x3 : Int32) (hL0 : oL Ω 10 0) (hL1 : oL Ω 66 k1) (σ : rS) {K : Int32 → rS → Prop} {K0 : (Int32 ⊕ Unit) → rS → Prop} (hC : ∀ (x3 : Int32) (σ : rS), K0 (.inl x3) σ → Run l Ω cX10_majors RX10 5 none rmX10_majors K 51 [some (rf Ω 10 0), some (rf Ω 66 k1), some (.int x2), some (.int x3), none] [] σ) (hE0 : ∀ (e : Unit) (σ : rS), K0 (.inr e) σ → Run l Ω cX10_majors RX10 5 none rmX10_majors K 75 [some (rf Ω 10 0), some (rf Ω 66 k1), some (.int x2), none, none] [] σ) (h : hit (fX10_majors_L51 k1 x2 x3 σ) K0) : Run l Ω cX10_majors RX10 5 none rmX10_majors K 51 [some (rf Ω 10 0), some (rf Ω 66 k1), some (.int x2), some (.int x3), none] [] σ := by
  unfold fX10_majors_L51 at h
  refine R_iload_n (i := 3) dX10_majors_51 rfl rfl ?_
  refine R_aload_n (i := 0) dX10_majors_52 rfl rfl ?_
  refine R_get foX10_217 hL0 (cE_10 Ω 0 _) rfl dX10_majors_53 ?_
  refine R_icmp_ge (tgt := 75) dX10_majors_56 (by decide) (fun hc => ?_) (fun hc => ?_)
  · have h := hit_f h hc
    refine R_drop (lv2 := [some (rf Ω 10 0), some (rf Ω 66 k1), some (.int x2), none, none]) 3 rfl ?_
    exact hE0 () σ h
  · have h := hit_t h hc
    refine R_aload_n (i := 0) dX10_majors_59 rfl rfl ?_
    refine R_aload_n (i := 0) dX10_majors_60 rfl rfl ?_
    refine R_get foX10_52 hL0 (cE_10 Ω 0 _) rfl dX10_majors_61 ?_
    refine R_iload_n (i := 3) dX10_majors_64 rfl rfl ?_
    obtain ⟨hb, h⟩ := hit_bnd h
    refine R_iald (WF.kid hW 13 hL0 rfl) (cE_70 Ω 0 _) hb dX10_majors_65 ?_
    refine R_callVv (ctX10_marks l Ω (σ 70 0 (ix x3)) hL0 _ _ (hit_mono (hit_bd h) (fun r10 σ11 h => ?_))) okX10_marks mw_1474 hL0 (cE_10 Ω 0 _) rfl rfl (Nat.le_of_ble_eq_true rfl) rfl rfl ⟨by decide, by decide⟩ ⟨Nat.zero_le _, Nat.zero_le _⟩ dX10_majors_66
    refine R_iinc (v := x3 + 1) (lv2 := [some (rf Ω 10 0), some (rf Ω 66 k1), some (.int x2), some (.int (x3 + 1)), none]) dX10_majors_69 rfl rfl (by decide) rfl rfl ?_
    refine R_goto (tgt := 51) dX10_majors_72 (by decide) ?_
    exact hC (x3 + 1) σ11 h
set_option maxRecDepth 100000 in
set_option maxHeartbeats 4000000 in
theorem rlX10_majors_L51 {l : Launch} {Ω : rO} (hW : WF Ω) (k1 : Nat) (x2 : Int32) (hL0 : oL Ω 10 0) (hL1 : oL Ω 66 k1) {K : Int32 → rS → Prop} {KE : Unit → rS → Prop} (hE0 : ∀ (e : Unit) (σ : rS), KE e σ → Run l Ω cX10_majors RX10 5 none rmX10_majors K 75 [some (rf Ω 10 0), some (rf Ω 66 k1), some (.int x2), none, none] [] σ) : ∀ (n : Nat) (x3 : Int32) (σ : rS), hit (lp (fun (x : Int32) σ => fX10_majors_L51 k1 x2 x σ) n x3 σ) KE → Run l Ω cX10_majors RX10 5 none rmX10_majors K 51 [some (rf Ω 10 0), some (rf Ω 66 k1), some (.int x2), some (.int x3), none] [] σ := by
  intro n
  induction n with
  | zero => intro x3 σ h; exact (h : False).elim
  | succ n ih =>
    intro x3 σ h
    exact rsX10_majors_L51 hW k1 x2 x3 hL0 hL1 σ (fun x3 σ h => ih x3 σ h) (fun e σ h => hE0 e σ h) (hit_lp h)
set_option maxRecDepth 100000 in
set_option maxHeartbeats 4000000 in
theorem rnX10_majors_j106L83 {l : Launch} {Ω : rO} (hW : WF Ω) (k1 : Nat) (x2 : Int32) (x3 : Int32) (hL0 : oL Ω 10 0) (hL1 : oL Ω 66 k1) (σ : rS) {K : Int32 → rS → Prop} {K0 : (Int32 ⊕ Unit) → rS → Prop} (hC : ∀ (x3 : Int32) (σ : rS), K0 (.inl x3) σ → Run l Ω cX10_majors RX10 5 none rmX10_majors K 83 [some (rf Ω 10 0), some (rf Ω 66 k1), some (.int x2), some (.int x3), none] [] σ) (hE0 : ∀ (e : Unit) (σ : rS), K0 (.inr e) σ → Run l Ω cX10_majors RX10 5 none rmX10_majors K 112 [some (rf Ω 10 0), some (rf Ω 66 k1), none, none, none] [] σ) (h : hit (fX10_majors_j106L83 k1 x2 x3 σ) K0) : Run l Ω cX10_majors RX10 5 none rmX10_majors K 106 [some (rf Ω 10 0), some (rf Ω 66 k1), some (.int x2), some (.int x3), none] [] σ := by
  unfold fX10_majors_j106L83 at h
  refine R_iinc (v := x3 + 1) (lv2 := [some (rf Ω 10 0), some (rf Ω 66 k1), some (.int x2), some (.int (x3 + 1)), none]) dX10_majors_106 rfl rfl (by decide) rfl rfl ?_
  refine R_goto (tgt := 83) dX10_majors_109 (by decide) ?_
  exact hC (x3 + 1) σ h
set_option maxRecDepth 100000 in
set_option maxHeartbeats 4000000 in
theorem rsX10_majors_L83 {l : Launch} {Ω : rO} (hW : WF Ω) (k1 : Nat) (x2 : Int32) (x3 : Int32) (hL0 : oL Ω 10 0) (hL1 : oL Ω 66 k1) (σ : rS) {K : Int32 → rS → Prop} {K0 : (Int32 ⊕ Unit) → rS → Prop} (hC : ∀ (x3 : Int32) (σ : rS), K0 (.inl x3) σ → Run l Ω cX10_majors RX10 5 none rmX10_majors K 83 [some (rf Ω 10 0), some (rf Ω 66 k1), some (.int x2), some (.int x3), none] [] σ) (hE0 : ∀ (e : Unit) (σ : rS), K0 (.inr e) σ → Run l Ω cX10_majors RX10 5 none rmX10_majors K 112 [some (rf Ω 10 0), some (rf Ω 66 k1), none, none, none] [] σ) (h : hit (fX10_majors_L83 k1 x2 x3 σ) K0) : Run l Ω cX10_majors RX10 5 none rmX10_majors K 83 [some (rf Ω 10 0), some (rf Ω 66 k1), some (.int x2), some (.int x3), none] [] σ := by
  unfold fX10_majors_L83 at h
  refine R_iload_n (i := 3) dX10_majors_83 rfl rfl ?_
  refine R_aload_n (i := 1) dX10_majors_84 rfl rfl ?_
  refine R_iconst (v := 0) dX10_majors_85 rfl ?_
  refine R_iald hL1 (cE_66 Ω k1 _) (vin 0 1554 rfl) dX10_majors_86 ?_
  refine R_icmp_ge (tgt := 112) dX10_majors_87 (by decide) (fun hc => ?_) (fun hc => ?_)
  · have h := hit_f h hc
    refine R_drop (lv2 := [some (rf Ω 10 0), some (rf Ω 66 k1), none, some (.int x3), none]) 2 rfl ?_
    refine R_drop (lv2 := [some (rf Ω 10 0), some (rf Ω 66 k1), none, none, none]) 3 rfl ?_
    exact hE0 () σ h
  · have h := hit_t h hc
    refine R_aload_n (i := 0) dX10_majors_90 rfl rfl ?_
    refine R_iload_n (i := 3) dX10_majors_91 rfl rfl ?_
    refine R_iload_n (i := 2) dX10_majors_92 rfl rfl ?_
    refine R_callVi (ctX10_isMetBehind l Ω x3 x2 hL0 _ _ (hit_mono (hit_bd h) (fun r16 σ17 h => ?_))) okX10_isMetBehind mw_1500 hL0 (cE_10 Ω 0 _) rfl rfl (Nat.le_of_ble_eq_true rfl) rfl rfl ⟨by decide, by decide⟩ ⟨Nat.zero_le _, Nat.zero_le _⟩ dX10_majors_93
    refine R_if_eq (tgt := 106) dX10_majors_96 (by decide) (fun hc => ?_) (fun hc => ?_)
    · have h := hit_t h hc
      exact rnX10_majors_j106L83 hW k1 x2 x3 hL0 hL1 σ17 hC hE0 h
    · have h := hit_f h hc
      refine R_aload_n (i := 0) dX10_majors_99 rfl rfl ?_
      refine R_aload_n (i := 1) dX10_majors_100 rfl rfl ?_
      refine R_iload_n (i := 3) dX10_majors_101 rfl rfl ?_
      refine R_iconst (v := 0) dX10_majors_102 rfl ?_
      refine R_callVv (ctX10_empties l Ω k1 x3 0 hL0 hL1 _ _ (hit_mono (hit_bd h) (fun r18 σ19 h => ?_))) okX10_empties mw_1489 hL0 (cE_10 Ω 0 _) rfl rfl (Nat.le_of_ble_eq_true rfl) rfl rfl ⟨by decide, by decide⟩ ⟨Nat.zero_le _, Nat.zero_le _⟩ dX10_majors_103
      exact rnX10_majors_j106L83 hW k1 x2 x3 hL0 hL1 σ19 hC hE0 h
set_option maxRecDepth 100000 in
set_option maxHeartbeats 4000000 in
theorem rlX10_majors_L83 {l : Launch} {Ω : rO} (hW : WF Ω) (k1 : Nat) (x2 : Int32) (hL0 : oL Ω 10 0) (hL1 : oL Ω 66 k1) {K : Int32 → rS → Prop} {KE : Unit → rS → Prop} (hE0 : ∀ (e : Unit) (σ : rS), KE e σ → Run l Ω cX10_majors RX10 5 none rmX10_majors K 112 [some (rf Ω 10 0), some (rf Ω 66 k1), none, none, none] [] σ) : ∀ (n : Nat) (x3 : Int32) (σ : rS), hit (lp (fun (x : Int32) σ => fX10_majors_L83 k1 x2 x σ) n x3 σ) KE → Run l Ω cX10_majors RX10 5 none rmX10_majors K 83 [some (rf Ω 10 0), some (rf Ω 66 k1), some (.int x2), some (.int x3), none] [] σ := by
  intro n
  induction n with
  | zero => intro x3 σ h; exact (h : False).elim
  | succ n ih =>
    intro x3 σ h
    exact rsX10_majors_L83 hW k1 x2 x3 hL0 hL1 σ (fun x3 σ h => ih x3 σ h) (fun e σ h => hE0 e σ h) (hit_lp h)
set_option maxRecDepth 100000 in
set_option maxHeartbeats 4000000 in
theorem rsX10_majors_L129 {l : Launch} {Ω : rO} (hW : WF Ω) (k1 : Nat) (x3 : Int32) (x4 : Int32) (hL0 : oL Ω 10 0) (hL1 : oL Ω 66 k1) (σ : rS) {K : Int32 → rS → Prop} {K0 : (Int32 ⊕ Unit) → rS → Prop} (hC : ∀ (x4 : Int32) (σ : rS), K0 (.inl x4) σ → Run l Ω cX10_majors RX10 5 none rmX10_majors K 129 [some (rf Ω 10 0), some (rf Ω 66 k1), none, some (.int x3), some (.int x4)] [] σ) (hE0 : ∀ (e : Unit) (σ : rS), K0 (.inr e) σ → Run l Ω cX10_majors RX10 5 none rmX10_majors K 170 [some (rf Ω 10 0), some (rf Ω 66 k1), none, some (.int x3), none] [] σ) (h : hit (fX10_majors_L129 k1 x3 x4 σ) K0) : Run l Ω cX10_majors RX10 5 none rmX10_majors K 129 [some (rf Ω 10 0), some (rf Ω 66 k1), none, some (.int x3), some (.int x4)] [] σ := by
  unfold fX10_majors_L129 at h
  refine R_iload (i := 4) dX10_majors_129 rfl ?_
  refine R_iconst (v := 4) dX10_majors_131 rfl ?_
  refine R_icmp_ge (tgt := 170) dX10_majors_132 (by decide) (fun hc => ?_) (fun hc => ?_)
  · have h := hit_f h hc
    refine R_drop (lv2 := [some (rf Ω 10 0), some (rf Ω 66 k1), none, some (.int x3), none]) 4 rfl ?_
    exact hE0 () σ h
  · have h := hit_t h hc
    refine R_aload_n (i := 0) dX10_majors_135 rfl rfl ?_
    refine R_get foX10_45 hL0 (cE_10 Ω 0 _) rfl dX10_majors_136 ?_
    refine R_iload_n (i := 3) dX10_majors_139 rfl rfl ?_
    obtain ⟨hb, h⟩ := hit_bnd h
    refine R_zald (WF.kid hW 11 hL0 rfl) (cE_68 Ω 0 _) hb dX10_majors_140 ?_
    refine R_if_ne (tgt := 170) dX10_majors_141 (by decide) (fun hc => ?_) (fun hc => ?_)
    · have h := hit_f h hc
      refine R_drop (lv2 := [some (rf Ω 10 0), some (rf Ω 66 k1), none, some (.int x3), none]) 4 rfl ?_
      exact hE0 () σ h
    · have h := hit_t h hc
      refine R_aload_n (i := 1) dX10_majors_144 rfl rfl ?_
      refine R_iload_n (i := 3) dX10_majors_145 rfl rfl ?_
      refine R_callSi (ctX10_isOld l Ω k1 x3 hL1 _ _ (hit_mono (hit_bd h) (fun r24 σ25 h => ?_))) okX10_isOld mw_1468 rfl rfl (Nat.le_of_ble_eq_true rfl) rfl rfl ⟨by decide, by decide⟩ ⟨Nat.zero_le _, Nat.zero_le _⟩ dX10_majors_146
      refine R_if_ne (tgt := 170) dX10_majors_149 (by decide) (fun hc => ?_) (fun hc => ?_)
      · have h := hit_f h hc
        refine R_drop (lv2 := [some (rf Ω 10 0), some (rf Ω 66 k1), none, some (.int x3), none]) 4 rfl ?_
        exact hE0 () σ25 h
      · have h := hit_t h hc
        refine R_aload_n (i := 1) dX10_majors_152 rfl rfl ?_
        refine R_iload_n (i := 3) dX10_majors_153 rfl rfl ?_
        refine R_bipush (v := 7) dX10_majors_154 rfl ?_
        refine R_iload (i := 4) dX10_majors_156 rfl ?_
        refine R_iadd dX10_majors_158 ?_
        refine R_callSi (ctX10_cell l Ω x3 (7 + x4) _ _ (hit_mono (hit_bd h) (fun r26 σ27 h => ?_))) okX10_cell mw_1471 rfl rfl (Nat.le_of_ble_eq_true rfl) rfl rfl ⟨by decide, by decide⟩ ⟨Nat.zero_le _, Nat.zero_le _⟩ dX10_majors_159
        refine R_iconst (v := 0) dX10_majors_162 rfl ?_
        obtain ⟨hb, h⟩ := hit_bnd h
        refine R_iast hL1 (cE_66 Ω k1) hb dX10_majors_163 ?_
        refine R_st h (fun σ28 h => ?_)
        refine R_iinc (v := x4 + 1) (lv2 := [some (rf Ω 10 0), some (rf Ω 66 k1), none, some (.int x3), some (.int (x4 + 1))]) dX10_majors_164 rfl rfl (by decide) rfl rfl ?_
        refine R_goto (tgt := 129) dX10_majors_167 (by decide) ?_
        exact hC (x4 + 1) σ28 h
set_option maxRecDepth 100000 in
set_option maxHeartbeats 4000000 in
theorem rlX10_majors_L129 {l : Launch} {Ω : rO} (hW : WF Ω) (k1 : Nat) (x3 : Int32) (hL0 : oL Ω 10 0) (hL1 : oL Ω 66 k1) {K : Int32 → rS → Prop} {KE : Unit → rS → Prop} (hE0 : ∀ (e : Unit) (σ : rS), KE e σ → Run l Ω cX10_majors RX10 5 none rmX10_majors K 170 [some (rf Ω 10 0), some (rf Ω 66 k1), none, some (.int x3), none] [] σ) : ∀ (n : Nat) (x4 : Int32) (σ : rS), hit (lp (fun (x : Int32) σ => fX10_majors_L129 k1 x3 x σ) n x4 σ) KE → Run l Ω cX10_majors RX10 5 none rmX10_majors K 129 [some (rf Ω 10 0), some (rf Ω 66 k1), none, some (.int x3), some (.int x4)] [] σ := by
  intro n
  induction n with
  | zero => intro x4 σ h; exact (h : False).elim
  | succ n ih =>
    intro x4 σ h
    exact rsX10_majors_L129 hW k1 x3 x4 hL0 hL1 σ (fun x4 σ h => ih x4 σ h) (fun e σ h => hE0 e σ h) (hit_lp h)
set_option maxRecDepth 100000 in
set_option maxHeartbeats 4000000 in
theorem rnX10_majors_j170L119 {l : Launch} {Ω : rO} (hW : WF Ω) (k1 : Nat) (x3 : Int32) (hL0 : oL Ω 10 0) (hL1 : oL Ω 66 k1) (σ : rS) {K : Int32 → rS → Prop} {K0 : (Int32 ⊕ Unit) → rS → Prop} (hC : ∀ (x3 : Int32) (σ : rS), K0 (.inl x3) σ → Run l Ω cX10_majors RX10 5 none rmX10_majors K 119 [some (rf Ω 10 0), some (rf Ω 66 k1), none, some (.int x3), none] [] σ) (hE0 : ∀ (e : Unit) (σ : rS), K0 (.inr e) σ → Run l Ω cX10_majors RX10 5 none rmX10_majors K 176 [some (rf Ω 10 0), some (rf Ω 66 k1), none, none, none] [] σ) (h : hit (fX10_majors_j170L119 k1 x3 σ) K0) : Run l Ω cX10_majors RX10 5 none rmX10_majors K 170 [some (rf Ω 10 0), some (rf Ω 66 k1), none, some (.int x3), none] [] σ := by
  unfold fX10_majors_j170L119 at h
  refine R_iinc (v := x3 + 1) (lv2 := [some (rf Ω 10 0), some (rf Ω 66 k1), none, some (.int (x3 + 1)), none]) dX10_majors_170 rfl rfl (by decide) rfl rfl ?_
  refine R_goto (tgt := 119) dX10_majors_173 (by decide) ?_
  exact hC (x3 + 1) σ h
set_option maxRecDepth 100000 in
set_option maxHeartbeats 4000000 in
theorem rsX10_majors_L119 {l : Launch} {Ω : rO} (hW : WF Ω) (k1 : Nat) (x3 : Int32) (hL0 : oL Ω 10 0) (hL1 : oL Ω 66 k1) (σ : rS) {K : Int32 → rS → Prop} {K0 : (Int32 ⊕ Unit) → rS → Prop} (hC : ∀ (x3 : Int32) (σ : rS), K0 (.inl x3) σ → Run l Ω cX10_majors RX10 5 none rmX10_majors K 119 [some (rf Ω 10 0), some (rf Ω 66 k1), none, some (.int x3), none] [] σ) (hE0 : ∀ (e : Unit) (σ : rS), K0 (.inr e) σ → Run l Ω cX10_majors RX10 5 none rmX10_majors K 176 [some (rf Ω 10 0), some (rf Ω 66 k1), none, none, none] [] σ) (h : hit (fX10_majors_L119 k1 x3 σ) K0) : Run l Ω cX10_majors RX10 5 none rmX10_majors K 119 [some (rf Ω 10 0), some (rf Ω 66 k1), none, some (.int x3), none] [] σ := by
  unfold fX10_majors_L119 at h
  refine R_iload_n (i := 3) dX10_majors_119 rfl rfl ?_
  refine R_aload_n (i := 1) dX10_majors_120 rfl rfl ?_
  refine R_iconst (v := 0) dX10_majors_121 rfl ?_
  refine R_iald hL1 (cE_66 Ω k1 _) (vin 0 1554 rfl) dX10_majors_122 ?_
  refine R_icmp_ge (tgt := 176) dX10_majors_123 (by decide) (fun hc => ?_) (fun hc => ?_)
  · have h := hit_f h hc
    refine R_drop (lv2 := [some (rf Ω 10 0), some (rf Ω 66 k1), none, none, none]) 3 rfl ?_
    exact hE0 () σ h
  · have h := hit_t h hc
    refine R_iconst (v := 0) dX10_majors_126 rfl ?_
    refine R_istore (lv2 := [some (rf Ω 10 0), some (rf Ω 66 k1), none, some (.int x3), some (.int 0)]) dX10_majors_127 (by decide) rfl rfl ?_
    refine rlX10_majors_L129 hW k1 x3 hL0 hL1 ?_ fu 0 σ (hit_bd h)
    · intro e30 σ29 h
      try dsimp only at h
      exact rnX10_majors_j170L119 hW k1 x3 hL0 hL1 σ29 hC hE0 h
set_option maxRecDepth 100000 in
set_option maxHeartbeats 4000000 in
theorem rlX10_majors_L119 {l : Launch} {Ω : rO} (hW : WF Ω) (k1 : Nat) (hL0 : oL Ω 10 0) (hL1 : oL Ω 66 k1) {K : Int32 → rS → Prop} {KE : Unit → rS → Prop} (hE0 : ∀ (e : Unit) (σ : rS), KE e σ → Run l Ω cX10_majors RX10 5 none rmX10_majors K 176 [some (rf Ω 10 0), some (rf Ω 66 k1), none, none, none] [] σ) : ∀ (n : Nat) (x3 : Int32) (σ : rS), hit (lp (fun (x : Int32) σ => fX10_majors_L119 k1 x σ) n x3 σ) KE → Run l Ω cX10_majors RX10 5 none rmX10_majors K 119 [some (rf Ω 10 0), some (rf Ω 66 k1), none, some (.int x3), none] [] σ := by
  intro n
  induction n with
  | zero => intro x3 σ h; exact (h : False).elim
  | succ n ih =>
    intro x3 σ h
    exact rsX10_majors_L119 hW k1 x3 hL0 hL1 σ (fun x3 σ h => ih x3 σ h) (fun e σ h => hE0 e σ h) (hit_lp h)
set_option maxRecDepth 100000 in
set_option maxHeartbeats 4000000 in
theorem rnX10_majors_j226L187 {l : Launch} {Ω : rO} (hW : WF Ω) (k1 : Nat) (x3 : Int32) (hL0 : oL Ω 10 0) (hL1 : oL Ω 66 k1) (σ : rS) {K : Int32 → rS → Prop} {K0 : (Int32 ⊕ Unit) → rS → Prop} (hC : ∀ (x3 : Int32) (σ : rS), K0 (.inl x3) σ → Run l Ω cX10_majors RX10 5 none rmX10_majors K 187 [some (rf Ω 10 0), some (rf Ω 66 k1), none, some (.int x3), none] [] σ) (hE0 : ∀ (e : Unit) (σ : rS), K0 (.inr e) σ → Run l Ω cX10_majors RX10 5 none rmX10_majors K 232 [some (rf Ω 10 0), some (rf Ω 66 k1), none, none, none] [] σ) (h : hit (fX10_majors_j226L187 k1 x3 σ) K0) : Run l Ω cX10_majors RX10 5 none rmX10_majors K 226 [some (rf Ω 10 0), some (rf Ω 66 k1), none, some (.int x3), none] [] σ := by
  unfold fX10_majors_j226L187 at h
  refine R_iinc (v := x3 + (-1)) (lv2 := [some (rf Ω 10 0), some (rf Ω 66 k1), none, some (.int (x3 + (-1))), none]) dX10_majors_226 rfl rfl (by decide) rfl rfl ?_
  refine R_goto (tgt := 187) dX10_majors_229 (by decide) ?_
  exact hC (x3 + (-1)) σ h
set_option maxRecDepth 100000 in
set_option maxHeartbeats 4000000 in
theorem rsX10_majors_L187 {l : Launch} {Ω : rO} (hW : WF Ω) (k1 : Nat) (x3 : Int32) (hL0 : oL Ω 10 0) (hL1 : oL Ω 66 k1) (σ : rS) {K : Int32 → rS → Prop} {K0 : (Int32 ⊕ Unit) → rS → Prop} (hC : ∀ (x3 : Int32) (σ : rS), K0 (.inl x3) σ → Run l Ω cX10_majors RX10 5 none rmX10_majors K 187 [some (rf Ω 10 0), some (rf Ω 66 k1), none, some (.int x3), none] [] σ) (hE0 : ∀ (e : Unit) (σ : rS), K0 (.inr e) σ → Run l Ω cX10_majors RX10 5 none rmX10_majors K 232 [some (rf Ω 10 0), some (rf Ω 66 k1), none, none, none] [] σ) (h : hit (fX10_majors_L187 k1 x3 σ) K0) : Run l Ω cX10_majors RX10 5 none rmX10_majors K 187 [some (rf Ω 10 0), some (rf Ω 66 k1), none, some (.int x3), none] [] σ := by
  unfold fX10_majors_L187 at h
  refine R_iload_n (i := 3) dX10_majors_187 rfl rfl ?_
  refine R_if_lt (tgt := 232) dX10_majors_188 (by decide) (fun hc => ?_) (fun hc => ?_)
  · have h := hit_t h hc
    refine R_drop (lv2 := [some (rf Ω 10 0), some (rf Ω 66 k1), none, none, none]) 3 rfl ?_
    exact hE0 () σ h
  · have h := hit_f h hc
    refine R_aload_n (i := 1) dX10_majors_191 rfl rfl ?_
    refine R_iload_n (i := 3) dX10_majors_192 rfl rfl ?_
    refine R_callSi (ctX10_isOld l Ω k1 x3 hL1 _ _ (hit_mono (hit_bd h) (fun r35 σ36 h => ?_))) okX10_isOld mw_1468 rfl rfl (Nat.le_of_ble_eq_true rfl) rfl rfl ⟨by decide, by decide⟩ ⟨Nat.zero_le _, Nat.zero_le _⟩ dX10_majors_193
    refine R_if_eq (tgt := 226) dX10_majors_196 (by decide) (fun hc => ?_) (fun hc => ?_)
    · have h := hit_t h hc
      exact rnX10_majors_j226L187 hW k1 x3 hL0 hL1 σ36 hC hE0 h
    · have h := hit_f h hc
      refine R_aload_n (i := 0) dX10_majors_199 rfl rfl ?_
      refine R_get foX10_45 hL0 (cE_10 Ω 0 _) rfl dX10_majors_200 ?_
      refine R_iload_n (i := 3) dX10_majors_203 rfl rfl ?_
      obtain ⟨hb, h⟩ := hit_bnd h
      refine R_zald (WF.kid hW 11 hL0 rfl) (cE_68 Ω 0 _) hb dX10_majors_204 ?_
      refine R_if_eq (tgt := 211) dX10_majors_205 (by decide) (fun hc => ?_) (fun hc => ?_)
      · have h := hit_t h hc
        refine R_aload_n (i := 1) dX10_majors_211 rfl rfl ?_
        refine R_iload_n (i := 3) dX10_majors_212 rfl rfl ?_
        refine R_callSv (ctX10_goes l Ω k1 x3 hL1 _ _ (hit_mono (hit_bd h) (fun r37 σ38 h => ?_))) okX10_goes mw_1516 rfl rfl (Nat.le_of_ble_eq_true rfl) rfl rfl ⟨by decide, by decide⟩ ⟨Nat.zero_le _, Nat.zero_le _⟩ dX10_majors_213
        refine R_aload_n (i := 0) dX10_majors_216 rfl rfl ?_
        refine R_dup dX10_majors_217 rfl ?_
        refine R_get foX10_250 hL0 (cE_10 Ω 0 _) rfl dX10_majors_218 ?_
        refine R_iconst (v := 1) dX10_majors_221 rfl ?_
        refine R_iadd dX10_majors_222 ?_
        refine R_put poX10_250 hL0 (cE_10 Ω 0 _) (cP_10_28 Ω 0 _ _) (Nat.le_of_ble_eq_true rfl) dX10_majors_223 ?_
        refine R_st h (fun σ39 h => ?_)
        exact rnX10_majors_j226L187 hW k1 x3 hL0 hL1 σ39 hC hE0 h
      · have h := hit_f h hc
        refine R_goto (tgt := 226) dX10_majors_208 (by decide) ?_
        exact rnX10_majors_j226L187 hW k1 x3 hL0 hL1 σ36 hC hE0 h
set_option maxRecDepth 100000 in
set_option maxHeartbeats 4000000 in
theorem rlX10_majors_L187 {l : Launch} {Ω : rO} (hW : WF Ω) (k1 : Nat) (hL0 : oL Ω 10 0) (hL1 : oL Ω 66 k1) {K : Int32 → rS → Prop} {KE : Unit → rS → Prop} (hE0 : ∀ (e : Unit) (σ : rS), KE e σ → Run l Ω cX10_majors RX10 5 none rmX10_majors K 232 [some (rf Ω 10 0), some (rf Ω 66 k1), none, none, none] [] σ) : ∀ (n : Nat) (x3 : Int32) (σ : rS), hit (lp (fun (x : Int32) σ => fX10_majors_L187 k1 x σ) n x3 σ) KE → Run l Ω cX10_majors RX10 5 none rmX10_majors K 187 [some (rf Ω 10 0), some (rf Ω 66 k1), none, some (.int x3), none] [] σ := by
  intro n
  induction n with
  | zero => intro x3 σ h; exact (h : False).elim
  | succ n ih =>
    intro x3 σ h
    exact rsX10_majors_L187 hW k1 x3 hL0 hL1 σ (fun x3 σ h => ih x3 σ h) (fun e σ h => hE0 e σ h) (hit_lp h)
set_option maxRecDepth 100000 in
set_option maxHeartbeats 4000000 in
theorem ctX10_majors (l : Launch) (Ω : rO) (k1 : Nat) (hL0 : oL Ω 10 0) (hL1 : oL Ω 66 k1) (σ : rS) (K : Int32 → rS → Prop) (h : hit (fX10_majors k1 σ) K) : Ct l Ω yX10_majors cX10_majors 5 none rmX10_majors [rf Ω 10 0, rf Ω 66 k1] σ K := by
  refine Ct.of (own := RX10) (lv := [some (rf Ω 10 0), some (rf Ω 66 k1), none, none, none]) (by decide) rfl (Nat.le_of_ble_eq_true rfl) rfl (fun hW => ?_)
  unfold fX10_majors at h
  refine R_aload_n (i := 0) dX10_majors_0 rfl rfl ?_
  refine R_aload_n (i := 1) dX10_majors_1 rfl rfl ?_
  refine R_iconst (v := (-1)) dX10_majors_2 rfl ?_
  refine R_iconst (v := 1) dX10_majors_3 rfl ?_
  refine R_callVv (ctX10_reaches l Ω k1 (-1) 1 hL0 hL1 _ _ (hit_mono (hit_bd h) (fun r1 σ2 h => ?_))) okX10_reaches mw_1523 hL0 (cE_10 Ω 0 _) rfl rfl (Nat.le_of_ble_eq_true rfl) rfl rfl ⟨by decide, by decide⟩ ⟨Nat.zero_le _, Nat.zero_le _⟩ dX10_majors_4
  refine R_iconst (v := 0) dX10_majors_7 rfl ?_
  refine R_istore_n (lv2 := [some (rf Ω 10 0), some (rf Ω 66 k1), some (.int 0), none, none]) dX10_majors_8 rfl (by decide) rfl rfl ?_
  refine rlX10_majors_L9 hW k1 hL0 hL1 ?_ fu 0 σ2 (hit_bd h)
  · intro e6 σ5 h
    try dsimp only at h
    refine R_aload_n (i := 0) dX10_majors_38 rfl rfl ?_
    refine R_aload_n (i := 1) dX10_majors_39 rfl rfl ?_
    refine R_iconst (v := 0) dX10_majors_40 rfl ?_
    refine R_callVv (ctX10_ends l Ω k1 0 hL0 hL1 _ _ (hit_mono (hit_bd h) (fun r7 σ8 h => ?_))) okX10_ends mw_1496 hL0 (cE_10 Ω 0 _) rfl rfl (Nat.le_of_ble_eq_true rfl) rfl rfl ⟨by decide, by decide⟩ ⟨Nat.zero_le _, Nat.zero_le _⟩ dX10_majors_41
    refine R_aload_n (i := 0) dX10_majors_44 rfl rfl ?_
    refine R_get foX10_195 hL0 (cE_10 Ω 0 _) rfl dX10_majors_45 ?_
    refine R_topi h (fun y9 h => ?_)
    refine R_istore_n (lv2 := [some (rf Ω 10 0), some (rf Ω 66 k1), some (.int y9), none, none]) dX10_majors_48 rfl (by decide) rfl rfl ?_
    refine R_iconst (v := 0) dX10_majors_49 rfl ?_
    refine R_istore_n (lv2 := [some (rf Ω 10 0), some (rf Ω 66 k1), some (.int y9), some (.int 0), none]) dX10_majors_50 rfl (by decide) rfl rfl ?_
    refine rlX10_majors_L51 hW k1 y9 hL0 hL1 ?_ fu 0 σ8 (hit_bd h)
    · intro e13 σ12 h
      try dsimp only at h
      refine R_aload_n (i := 0) dX10_majors_75 rfl rfl ?_
      refine R_aload_n (i := 1) dX10_majors_76 rfl rfl ?_
      refine R_iload_n (i := 2) dX10_majors_77 rfl rfl ?_
      refine R_callVv (ctX10_marksAll l Ω k1 y9 hL0 hL1 _ _ (hit_mono (hit_bd h) (fun r14 σ15 h => ?_))) okX10_marksAll mw_1527 hL0 (cE_10 Ω 0 _) rfl rfl (Nat.le_of_ble_eq_true rfl) rfl rfl ⟨by decide, by decide⟩ ⟨Nat.zero_le _, Nat.zero_le _⟩ dX10_majors_78
      refine R_iconst (v := 0) dX10_majors_81 rfl ?_
      refine R_istore_n (lv2 := [some (rf Ω 10 0), some (rf Ω 66 k1), some (.int y9), some (.int 0), none]) dX10_majors_82 rfl (by decide) rfl rfl ?_
      refine rlX10_majors_L83 hW k1 y9 hL0 hL1 ?_ fu 0 σ15 (hit_bd h)
      · intro e21 σ20 h
        try dsimp only at h
        refine R_aload_n (i := 0) dX10_majors_112 rfl rfl ?_
        refine R_aload_n (i := 1) dX10_majors_113 rfl rfl ?_
        refine R_callVv (ctX10_slides l Ω k1 hL0 hL1 _ _ (hit_mono (hit_bd h) (fun r22 σ23 h => ?_))) okX10_slides mw_1531 hL0 (cE_10 Ω 0 _) rfl rfl (Nat.le_of_ble_eq_true rfl) rfl rfl ⟨by decide, by decide⟩ ⟨Nat.zero_le _, Nat.zero_le _⟩ dX10_majors_114
        refine R_iconst (v := 0) dX10_majors_117 rfl ?_
        refine R_istore_n (lv2 := [some (rf Ω 10 0), some (rf Ω 66 k1), none, some (.int 0), none]) dX10_majors_118 rfl (by decide) rfl rfl ?_
        refine rlX10_majors_L119 hW k1 hL0 hL1 ?_ fu 0 σ23 (hit_bd h)
        · intro e32 σ31 h
          try dsimp only at h
          refine R_aload_n (i := 0) dX10_majors_176 rfl rfl ?_
          refine R_iconst (v := 0) dX10_majors_177 rfl ?_
          refine R_put poX10_250 hL0 (cE_10 Ω 0 _) (cP_10_28 Ω 0 _ _) (Nat.le_of_ble_eq_true rfl) dX10_majors_178 ?_
          refine R_st h (fun σ33 h => ?_)
          refine R_aload_n (i := 1) dX10_majors_181 rfl rfl ?_
          refine R_iconst (v := 0) dX10_majors_182 rfl ?_
          refine R_iald hL1 (cE_66 Ω k1 _) (vin 0 1554 rfl) dX10_majors_183 ?_
          refine R_iconst (v := 1) dX10_majors_184 rfl ?_
          refine R_isub dX10_majors_185 ?_
          refine R_topi h (fun y34 h => ?_)
          refine R_istore_n (lv2 := [some (rf Ω 10 0), some (rf Ω 66 k1), none, some (.int y34), none]) dX10_majors_186 rfl (by decide) rfl rfl ?_
          refine rlX10_majors_L187 hW k1 hL0 hL1 ?_ fu y34 σ33 (hit_bd h)
          · intro e41 σ40 h
            try dsimp only at h
            refine R_aload_n (i := 1) dX10_majors_232 rfl rfl ?_
            refine R_callSv (ctX10_sifts l Ω k1 hL1 _ _ (hit_mono (hit_bd h) (fun r42 σ43 h => ?_))) okX10_sifts mw_1504 rfl rfl (Nat.le_of_ble_eq_true rfl) rfl rfl ⟨by decide, by decide⟩ ⟨Nat.zero_le _, Nat.zero_le _⟩ dX10_majors_233
            refine R_aload_n (i := 1) dX10_majors_236 rfl rfl ?_
            refine R_sipush (v := 1369) dX10_majors_237 rfl ?_
            refine R_dup2 dX10_majors_240 rfl rfl ?_
            refine R_iald hL1 (cE_66 Ω k1 _) (vin 1369 1554 rfl) dX10_majors_241 ?_
            refine R_aload_n (i := 0) dX10_majors_242 rfl rfl ?_
            refine R_get foX10_250 hL0 (cE_10 Ω 0 _) rfl dX10_majors_243 ?_
            refine R_iadd dX10_majors_246 ?_
            refine R_iast hL1 (cE_66 Ω k1) (vin 1369 1554 rfl) dX10_majors_247 ?_
            refine R_st h (fun σ44 h => ?_)
            refine R_aload_n (i := 1) dX10_majors_248 rfl rfl ?_
            refine R_sipush (v := 1366) dX10_majors_249 rfl ?_
            refine R_dup2 dX10_majors_252 rfl rfl ?_
            refine R_iald hL1 (cE_66 Ω k1 _) (vin 1366 1554 rfl) dX10_majors_253 ?_
            refine R_iconst (v := 1) dX10_majors_254 rfl ?_
            refine R_iadd dX10_majors_255 ?_
            refine R_iast hL1 (cE_66 Ω k1) (vin 1366 1554 rfl) dX10_majors_256 ?_
            refine R_st h (fun σ45 h => ?_)
            exact R_vret dX10_majors_257 rfl h
set_option maxRecDepth 100000 in
set_option maxHeartbeats 4000000 in
theorem ctX10_isRoot (l : Launch) (Ω : rO) (x1 : Int32) (hL0 : oL Ω 10 0) (σ : rS) (K : Int32 → rS → Prop) (h : hit (fX10_isRoot x1 σ) K) : Ct l Ω yX10_isRoot cX10_isRoot 2 (some .boolean) rmX10_isRoot [rf Ω 10 0, .int x1] σ K := by
  refine Ct.of (own := RX10) (lv := [some (rf Ω 10 0), some (.int x1)]) (by decide) rfl (Nat.le_of_ble_eq_true rfl) rfl (fun hW => ?_)
  unfold fX10_isRoot at h
  refine R_aload_n (i := 0) dX10_isRoot_0 rfl rfl ?_
  refine R_get foX10_157 hL0 (cE_10 Ω 0 _) rfl dX10_isRoot_1 ?_
  refine R_if_eq (tgt := 21) dX10_isRoot_4 (by decide) (fun hc => ?_) (fun hc => ?_)
  · have h := hit_t h hc
    refine R_iconst (v := 0) dX10_isRoot_21 rfl ?_
    exact R_zret dX10_isRoot_22 rfl (Or.inl rfl) h
  · have h := hit_f h hc
    refine R_iload_n (i := 1) dX10_isRoot_7 rfl rfl ?_
    refine R_if_lt (tgt := 21) dX10_isRoot_8 (by decide) (fun hc => ?_) (fun hc => ?_)
    · have h := hit_t h hc
      refine R_iconst (v := 0) dX10_isRoot_21 rfl ?_
      exact R_zret dX10_isRoot_22 rfl (Or.inl rfl) h
    · have h := hit_f h hc
      refine R_iload_n (i := 1) dX10_isRoot_11 rfl rfl ?_
      refine R_bipush (v := 8) dX10_isRoot_12 rfl ?_
      refine R_icmp_ge (tgt := 21) dX10_isRoot_14 (by decide) (fun hc => ?_) (fun hc => ?_)
      · have h := hit_f h hc
        refine R_iconst (v := 0) dX10_isRoot_21 rfl ?_
        exact R_zret dX10_isRoot_22 rfl (Or.inl rfl) h
      · have h := hit_t h hc
        refine R_iconst (v := 1) dX10_isRoot_17 rfl ?_
        refine R_goto (tgt := 22) dX10_isRoot_18 (by decide) ?_
        exact R_zret dX10_isRoot_22 rfl (Or.inr rfl) h
set_option maxRecDepth 100000 in
set_option maxHeartbeats 4000000 in
theorem ctX10_rootSpot (l : Launch) (Ω : rO) (k0 : Nat) (x1 : Int32) (hL0 : oL Ω 66 k0) (σ : rS) (K : Int32 → rS → Prop) (h : hit (fX10_rootSpot k0 x1 σ) K) : Ct l Ω yX10_rootSpot cX10_rootSpot 2 (some .int) rmX10_rootSpot [rf Ω 66 k0, .int x1] σ K := by
  refine Ct.of (own := RX10) (lv := [some (rf Ω 66 k0), some (.int x1)]) (by decide) rfl (Nat.le_of_ble_eq_true rfl) rfl (fun hW => ?_)
  unfold fX10_rootSpot at h
  refine R_aload_n (i := 0) dX10_rootSpot_0 rfl rfl ?_
  refine R_aload_n (i := 0) dX10_rootSpot_1 rfl rfl ?_
  refine R_sipush (v := 881) dX10_rootSpot_2 rfl ?_
  refine R_iload_n (i := 1) dX10_rootSpot_5 rfl rfl ?_
  refine R_iadd dX10_rootSpot_6 ?_
  obtain ⟨hb, h⟩ := hit_bnd h
  refine R_iald hL0 (cE_66 Ω k0 _) hb dX10_rootSpot_7 ?_
  refine R_callSi (ctX10_spotOf_ l Ω k0 (σ 66 k0 (ix (881 + x1))) hL0 _ _ (hit_mono (hit_bd h) (fun r1 σ2 h => ?_))) okX10_spotOf_ mw_1432 rfl rfl (Nat.le_of_ble_eq_true rfl) rfl rfl ⟨by decide, by decide⟩ ⟨Nat.zero_le _, Nat.zero_le _⟩ dX10_rootSpot_8
  exact R_iret dX10_rootSpot_11 rfl h
set_option maxRecDepth 100000 in
set_option maxHeartbeats 4000000 in
theorem rnX10_stopsLinking_j108 {l : Launch} {Ω : rO} (hW : WF Ω) (z0 : Int32) (z1 : Int32) (σ : rS) {K : Int32 → rS → Prop}  (h : hit (fX10_stopsLinking_j108 z0 z1 σ) K) : Run l Ω cX10_stopsLinking RX10 6 (some .int) rmX10_stopsLinking K 108 [none, none, none, none, none, none] [.int z0, .int z1] σ := by
  unfold fX10_stopsLinking_j108 at h
  refine R_icmp_ne (tgt := 115) dX10_stopsLinking_108 (by decide) (fun hc => ?_) (fun hc => ?_)
  · have h := hit_f h hc
    refine R_iconst (v := (-1)) dX10_stopsLinking_115 rfl ?_
    exact R_iret dX10_stopsLinking_116 rfl h
  · have h := hit_t h hc
    refine R_iconst (v := 2) dX10_stopsLinking_111 rfl ?_
    refine R_goto (tgt := 116) dX10_stopsLinking_112 (by decide) ?_
    exact R_iret dX10_stopsLinking_116 rfl h
set_option maxRecDepth 100000 in
set_option maxHeartbeats 4000000 in
theorem rnX10_stopsLinking_j51 {l : Launch} {Ω : rO} (hW : WF Ω) (k1 : Nat) (x2 : Int32) (x3 : Int32) (x4 : Int32) (hL1 : oL Ω 66 k1) (σ : rS) {K : Int32 → rS → Prop}  (h : hit (fX10_stopsLinking_j51 k1 x2 x3 x4 σ) K) : Run l Ω cX10_stopsLinking RX10 6 (some .int) rmX10_stopsLinking K 51 [none, some (rf Ω 66 k1), some (.int x2), some (.int x3), some (.int x4), none] [] σ := by
  unfold fX10_stopsLinking_j51 at h
  refine R_aload_n (i := 1) dX10_stopsLinking_51 rfl rfl ?_
  refine R_iload_n (i := 2) dX10_stopsLinking_52 rfl rfl ?_
  refine R_callSi (ctX10_rootSpot l Ω k1 x2 hL1 _ _ (hit_mono (hit_bd h) (fun r5 σ6 h => ?_))) okX10_rootSpot mw_1429 rfl rfl (Nat.le_of_ble_eq_true rfl) rfl rfl ⟨by decide, by decide⟩ ⟨Nat.zero_le _, Nat.zero_le _⟩ dX10_stopsLinking_53
  refine R_istore (lv2 := [none, some (rf Ω 66 k1), some (.int x2), some (.int x3), some (.int x4), some (.int r5)]) dX10_stopsLinking_56 (by decide) rfl rfl ?_
  refine R_iload_n (i := 3) dX10_stopsLinking_58 rfl rfl ?_
  refine R_i2l dX10_stopsLinking_59 ?_
  refine R_lconst (v := 0) dX10_stopsLinking_60 rfl ?_
  refine R_aload_n (i := 1) dX10_stopsLinking_61 rfl rfl ?_
  refine R_iload (i := 5) dX10_stopsLinking_62 rfl ?_
  refine R_iconst (v := 2) dX10_stopsLinking_64 rfl ?_
  refine R_callSi (ctX10_of l Ω k1 r5 2 hL1 _ _ (hit_mono (hit_bd h) (fun r7 σ8 h => ?_))) okX10_of mw_1435 rfl rfl (Nat.le_of_ble_eq_true rfl) rfl rfl ⟨by decide, by decide⟩ ⟨Nat.zero_le _, Nat.zero_le _⟩ dX10_stopsLinking_65
  refine R_iconst (v := 1) dX10_stopsLinking_68 rfl ?_
  refine R_isub dX10_stopsLinking_69 ?_
  refine R_i2l dX10_stopsLinking_70 ?_
  refine R_callSi (ctX10_isIn l Ω x3.toInt64 0 ((r7 - 1).toInt64) _ _ (hit_mono (hit_bd h) (fun r9 σ10 h => ?_))) okX10_isIn mw_1315 rfl rfl (Nat.le_of_ble_eq_true rfl) rfl rfl ⟨by decide, by decide⟩ ⟨Nat.zero_le _, Nat.zero_le _⟩ dX10_stopsLinking_71
  refine R_if_ne (tgt := 79) dX10_stopsLinking_74 (by decide) (fun hc => ?_) (fun hc => ?_)
  · have h := hit_f h hc
    refine R_aload_n (i := 1) dX10_stopsLinking_79 rfl rfl ?_
    refine R_iload (i := 5) dX10_stopsLinking_80 rfl ?_
    refine R_bipush (v := 7) dX10_stopsLinking_82 rfl ?_
    refine R_iload_n (i := 3) dX10_stopsLinking_84 rfl rfl ?_
    refine R_iadd dX10_stopsLinking_85 ?_
    refine R_callSi (ctX10_of l Ω k1 r5 (7 + x3) hL1 _ _ (hit_mono (hit_bd h) (fun r11 σ12 h => ?_))) okX10_of mw_1435 rfl rfl (Nat.le_of_ble_eq_true rfl) rfl rfl ⟨by decide, by decide⟩ ⟨Nat.zero_le _, Nat.zero_le _⟩ dX10_stopsLinking_86
    refine R_iload (i := 4) dX10_stopsLinking_89 rfl ?_
    refine R_bipush (v := 8) dX10_stopsLinking_91 rfl ?_
    refine R_icmp_ge (tgt := 107) dX10_stopsLinking_93 (by decide) (fun hc => ?_) (fun hc => ?_)
    · have h := hit_f h hc
      refine R_iconst (v := 0) dX10_stopsLinking_107 rfl ?_
      refine R_drop (lv2 := [none, none, some (.int x2), some (.int x3), some (.int x4), some (.int r5)]) 1 rfl ?_
      refine R_drop (lv2 := [none, none, none, some (.int x3), some (.int x4), some (.int r5)]) 2 rfl ?_
      refine R_drop (lv2 := [none, none, none, none, some (.int x4), some (.int r5)]) 3 rfl ?_
      refine R_drop (lv2 := [none, none, none, none, none, some (.int r5)]) 4 rfl ?_
      refine R_drop (lv2 := [none, none, none, none, none, none]) 5 rfl ?_
      exact rnX10_stopsLinking_j108 hW 0 r11 σ12  h
    · have h := hit_t h hc
      refine R_aload_n (i := 1) dX10_stopsLinking_96 rfl rfl ?_
      refine R_sipush (v := 881) dX10_stopsLinking_97 rfl ?_
      refine R_iload (i := 4) dX10_stopsLinking_100 rfl ?_
      refine R_iadd dX10_stopsLinking_102 ?_
      obtain ⟨hb, h⟩ := hit_bnd h
      refine R_iald hL1 (cE_66 Ω k1 _) hb dX10_stopsLinking_103 ?_
      refine R_goto (tgt := 108) dX10_stopsLinking_104 (by decide) ?_
      refine R_drop (lv2 := [none, none, some (.int x2), some (.int x3), some (.int x4), some (.int r5)]) 1 rfl ?_
      refine R_drop (lv2 := [none, none, none, some (.int x3), some (.int x4), some (.int r5)]) 2 rfl ?_
      refine R_drop (lv2 := [none, none, none, none, some (.int x4), some (.int r5)]) 3 rfl ?_
      refine R_drop (lv2 := [none, none, none, none, none, some (.int r5)]) 4 rfl ?_
      refine R_drop (lv2 := [none, none, none, none, none, none]) 5 rfl ?_
      exact rnX10_stopsLinking_j108 hW (σ12 66 k1 (ix (881 + x4))) r11 σ12  h
  · have h := hit_t h hc
    refine R_iconst (v := 1) dX10_stopsLinking_77 rfl ?_
    exact R_iret dX10_stopsLinking_78 rfl h
set_option maxRecDepth 100000 in
set_option maxHeartbeats 4000000 in
theorem ctX10_stopsLinking (l : Launch) (Ω : rO) (k1 : Nat) (x2 : Int32) (x3 : Int32) (x4 : Int32) (hL0 : oL Ω 10 0) (hL1 : oL Ω 66 k1) (σ : rS) (K : Int32 → rS → Prop) (h : hit (fX10_stopsLinking k1 x2 x3 x4 σ) K) : Ct l Ω yX10_stopsLinking cX10_stopsLinking 6 (some .int) rmX10_stopsLinking [rf Ω 10 0, rf Ω 66 k1, .int x2, .int x3, .int x4] σ K := by
  refine Ct.of (own := RX10) (lv := [some (rf Ω 10 0), some (rf Ω 66 k1), some (.int x2), some (.int x3), some (.int x4), none]) (by decide) rfl (Nat.le_of_ble_eq_true rfl) rfl (fun hW => ?_)
  unfold fX10_stopsLinking at h
  refine R_aload_n (i := 0) dX10_stopsLinking_0 rfl rfl ?_
  refine R_iload_n (i := 2) dX10_stopsLinking_1 rfl rfl ?_
  refine R_callVi (ctX10_isRoot l Ω x2 hL0 _ _ (hit_mono (hit_bd h) (fun r1 σ2 h => ?_))) okX10_isRoot mw_1417 hL0 (cE_10 Ω 0 _) rfl rfl (Nat.le_of_ble_eq_true rfl) rfl rfl ⟨by decide, by decide⟩ ⟨Nat.zero_le _, Nat.zero_le _⟩ dX10_stopsLinking_2
  refine R_if_eq (tgt := 49) dX10_stopsLinking_5 (by decide) (fun hc => ?_) (fun hc => ?_)
  · have h := hit_t h hc
    refine R_iconst (v := 0) dX10_stopsLinking_49 rfl ?_
    exact R_iret dX10_stopsLinking_50 rfl h
  · have h := hit_f h hc
    refine R_iload (i := 4) dX10_stopsLinking_8 rfl ?_
    refine R_i2l dX10_stopsLinking_10 ?_
    refine R_lconst (v := 0) dX10_stopsLinking_11 rfl ?_
    refine R_ldc2 (v := 8) mw_1428 dX10_stopsLinking_12 ?_
    refine R_callSi (ctX10_isIn l Ω x4.toInt64 0 8 _ _ (hit_mono (hit_bd h) (fun r3 σ4 h => ?_))) okX10_isIn mw_1315 rfl rfl (Nat.le_of_ble_eq_true rfl) rfl rfl ⟨by decide, by decide⟩ ⟨Nat.zero_le _, Nat.zero_le _⟩ dX10_stopsLinking_15
    refine R_if_eq (tgt := 49) dX10_stopsLinking_18 (by decide) (fun hc => ?_) (fun hc => ?_)
    · have h := hit_t h hc
      refine R_iconst (v := 0) dX10_stopsLinking_49 rfl ?_
      exact R_iret dX10_stopsLinking_50 rfl h
    · have h := hit_f h hc
      refine R_aload_n (i := 1) dX10_stopsLinking_21 rfl rfl ?_
      refine R_sipush (v := 881) dX10_stopsLinking_22 rfl ?_
      refine R_iload_n (i := 2) dX10_stopsLinking_25 rfl rfl ?_
      refine R_iadd dX10_stopsLinking_26 ?_
      obtain ⟨hb, h⟩ := hit_bnd h
      refine R_iald hL1 (cE_66 Ω k1 _) hb dX10_stopsLinking_27 ?_
      refine R_if_eq (tgt := 49) dX10_stopsLinking_28 (by decide) (fun hc => ?_) (fun hc => ?_)
      · have h := hit_t h hc
        refine R_iconst (v := 0) dX10_stopsLinking_49 rfl ?_
        exact R_iret dX10_stopsLinking_50 rfl h
      · have h := hit_f h hc
        refine R_iload (i := 4) dX10_stopsLinking_31 rfl ?_
        refine R_bipush (v := 8) dX10_stopsLinking_33 rfl ?_
        refine R_icmp_ge (tgt := 51) dX10_stopsLinking_35 (by decide) (fun hc => ?_) (fun hc => ?_)
        · have h := hit_f h hc
          refine R_drop (lv2 := [none, some (rf Ω 66 k1), some (.int x2), some (.int x3), some (.int x4), none]) 0 rfl ?_
          exact rnX10_stopsLinking_j51 hW k1 x2 x3 x4 hL1 σ4  h
        · have h := hit_t h hc
          refine R_aload_n (i := 1) dX10_stopsLinking_38 rfl rfl ?_
          refine R_sipush (v := 881) dX10_stopsLinking_39 rfl ?_
          refine R_iload (i := 4) dX10_stopsLinking_42 rfl ?_
          refine R_iadd dX10_stopsLinking_44 ?_
          obtain ⟨hb, h⟩ := hit_bnd h
          refine R_iald hL1 (cE_66 Ω k1 _) hb dX10_stopsLinking_45 ?_
          refine R_if_ne (tgt := 51) dX10_stopsLinking_46 (by decide) (fun hc => ?_) (fun hc => ?_)
          · have h := hit_f h hc
            refine R_drop (lv2 := [none, some (rf Ω 66 k1), some (.int x2), some (.int x3), some (.int x4), none]) 0 rfl ?_
            exact rnX10_stopsLinking_j51 hW k1 x2 x3 x4 hL1 σ4  h
          · have h := hit_t h hc
            refine R_iconst (v := 0) dX10_stopsLinking_49 rfl ?_
            exact R_iret dX10_stopsLinking_50 rfl h
