set_option maxRecDepth 100000 in
set_option maxHeartbeats 4000000 in
theorem rnX10_stops_j117 {l : Launch} {Ω : rO} (hW : WF Ω)  (σ : rS) {K : Int32 → rS → Prop}  (h : hit (fX10_stops_j117  σ) K) : Run l Ω cX10_stops RX10 7 (some .int) rmX10_stops K 117 [none, none, none, none, none, none, none] [] σ := by
  unfold fX10_stops_j117 at h
  refine R_iconst (v := 1) dX10_stops_117 rfl ?_
  refine R_goto (tgt := 122) dX10_stops_118 (by decide) ?_
  exact R_iret dX10_stops_122 rfl h
set_option maxRecDepth 100000 in
set_option maxHeartbeats 4000000 in
theorem rnX10_stops_j95 {l : Launch} {Ω : rO} (hW : WF Ω) (x6 : Int32) (z0 : Int64) (z1 : Int64) (σ : rS) {K : Int32 → rS → Prop}  (h : hit (fX10_stops_j95 x6 z0 z1 σ) K) : Run l Ω cX10_stops RX10 7 (some .int) rmX10_stops K 95 [none, none, none, none, none, none, some (.int x6)] [.long z0, .long z1] σ := by
  unfold fX10_stops_j95 at h
  refine R_ldc2 (v := 4) mw_1422 dX10_stops_95 ?_
  refine R_callSi (ctX10_isIn l Ω z1 z0 4 _ _ (hit_mono (hit_bd h) (fun r5 σ6 h => ?_))) okX10_isIn mw_1315 rfl rfl (Nat.le_of_ble_eq_true rfl) rfl rfl ⟨by decide, by decide⟩ ⟨Nat.zero_le _, Nat.zero_le _⟩ dX10_stops_98
  refine R_if_eq (tgt := 117) dX10_stops_101 (by decide) (fun hc => ?_) (fun hc => ?_)
  · have h := hit_t h hc
    refine R_drop (lv2 := [none, none, none, none, none, none, none]) 6 rfl ?_
    exact rnX10_stops_j117 hW  σ6  h
  · have h := hit_f h hc
    refine R_iload (i := 6) dX10_stops_104 rfl ?_
    refine R_i2l dX10_stops_106 ?_
    refine R_lconst (v := 0) dX10_stops_107 rfl ?_
    refine R_ldc2 (v := 999) mw_1423 dX10_stops_108 ?_
    refine R_callSi (ctX10_isIn l Ω x6.toInt64 0 999 _ _ (hit_mono (hit_bd h) (fun r7 σ8 h => ?_))) okX10_isIn mw_1315 rfl rfl (Nat.le_of_ble_eq_true rfl) rfl rfl ⟨by decide, by decide⟩ ⟨Nat.zero_le _, Nat.zero_le _⟩ dX10_stops_111
    refine R_if_ne (tgt := 121) dX10_stops_114 (by decide) (fun hc => ?_) (fun hc => ?_)
    · have h := hit_f h hc
      refine R_iconst (v := (-1)) dX10_stops_121 rfl ?_
      exact R_iret dX10_stops_122 rfl h
    · have h := hit_t h hc
      refine R_drop (lv2 := [none, none, none, none, none, none, none]) 6 rfl ?_
      exact rnX10_stops_j117 hW  σ8  h
set_option maxRecDepth 100000 in
set_option maxHeartbeats 4000000 in
theorem rnX10_stops_j162 {l : Launch} {Ω : rO} (hW : WF Ω)  (σ : rS) {K : Int32 → rS → Prop}  (h : hit (fX10_stops_j162  σ) K) : Run l Ω cX10_stops RX10 7 (some .int) rmX10_stops K 162 [none, none, none, none, none, none, none] [] σ := by
  unfold fX10_stops_j162 at h
  refine R_iconst (v := 0) dX10_stops_162 rfl ?_
  refine R_goto (tgt := 195) dX10_stops_163 (by decide) ?_
  exact R_iret dX10_stops_195 rfl h
set_option maxRecDepth 100000 in
set_option maxHeartbeats 4000000 in
theorem ctX10_stops (l : Launch) (Ω : rO) (k1 : Nat) (x2 : Int32) (x3 : Int32) (x4 : Int32) (x5 : Int32) (x6 : Int32) (hL0 : oL Ω 10 0) (hL1 : oL Ω 66 k1) (σ : rS) (K : Int32 → rS → Prop) (h : hit (fX10_stops k1 x2 x3 x4 x5 x6 σ) K) : Ct l Ω yX10_stops cX10_stops 7 (some .int) rmX10_stops [rf Ω 10 0, rf Ω 66 k1, .int x2, .int x3, .int x4, .int x5, .int x6] σ K := by
  refine Ct.of (own := RX10) (lv := [some (rf Ω 10 0), some (rf Ω 66 k1), some (.int x2), some (.int x3), some (.int x4), some (.int x5), some (.int x6)]) (by decide) rfl (Nat.le_of_ble_eq_true rfl) rfl (fun hW => ?_)
  unfold fX10_stops at h
  refine R_aload_n (i := 0) dX10_stops_0 rfl rfl ?_
  refine R_get foX10_157 hL0 (cE_10 Ω 0 _) rfl dX10_stops_1 ?_
  refine R_if_ne (tgt := 9) dX10_stops_4 (by decide) (fun hc => ?_) (fun hc => ?_)
  · have h := hit_f h hc
    refine R_iload_n (i := 2) dX10_stops_9 rfl rfl ?_
    by_cases hs0 : x2 = 0
    · have h := hit_t h hs0
      refine R_tableIn (tgt := 56) dX10_stops_10 (by rw [hs0]; decide) (by rw [hs0]; decide) (by rw [hs0]; rfl) (by decide) ?_
      refine R_aload_n (i := 0) dX10_stops_56 rfl rfl ?_
      refine R_iload_n (i := 3) dX10_stops_57 rfl rfl ?_
      refine R_callVi (ctX10_isRoot l Ω x3 hL0 _ _ (hit_mono (hit_bd h) (fun r1 σ2 h => ?_))) okX10_isRoot mw_1417 hL0 (cE_10 Ω 0 _) rfl rfl (Nat.le_of_ble_eq_true rfl) rfl rfl ⟨by decide, by decide⟩ ⟨Nat.zero_le _, Nat.zero_le _⟩ dX10_stops_58
      refine R_if_ne (tgt := 68) dX10_stops_61 (by decide) (fun hc => ?_) (fun hc => ?_)
      · have h := hit_f h hc
        refine R_iload (i := 4) dX10_stops_68 rfl ?_
        refine R_i2l dX10_stops_70 ?_
        refine R_lconst (v := 0) dX10_stops_71 rfl ?_
        refine R_ldc2 (v := 2) mw_1421 dX10_stops_72 ?_
        refine R_callSi (ctX10_isIn l Ω x4.toInt64 0 2 _ _ (hit_mono (hit_bd h) (fun r3 σ4 h => ?_))) okX10_isIn mw_1315 rfl rfl (Nat.le_of_ble_eq_true rfl) rfl rfl ⟨by decide, by decide⟩ ⟨Nat.zero_le _, Nat.zero_le _⟩ dX10_stops_75
        refine R_if_eq (tgt := 117) dX10_stops_78 (by decide) (fun hc => ?_) (fun hc => ?_)
        · have h := hit_t h hc
          refine R_drop (lv2 := [none, some (rf Ω 66 k1), some (.int x2), some (.int x3), some (.int x4), some (.int x5), some (.int x6)]) 0 rfl ?_
          refine R_drop (lv2 := [none, none, some (.int x2), some (.int x3), some (.int x4), some (.int x5), some (.int x6)]) 1 rfl ?_
          refine R_drop (lv2 := [none, none, none, some (.int x3), some (.int x4), some (.int x5), some (.int x6)]) 2 rfl ?_
          refine R_drop (lv2 := [none, none, none, none, some (.int x4), some (.int x5), some (.int x6)]) 3 rfl ?_
          refine R_drop (lv2 := [none, none, none, none, none, some (.int x5), some (.int x6)]) 4 rfl ?_
          refine R_drop (lv2 := [none, none, none, none, none, none, some (.int x6)]) 5 rfl ?_
          refine R_drop (lv2 := [none, none, none, none, none, none, none]) 6 rfl ?_
          exact rnX10_stops_j117 hW  σ4  h
        · have h := hit_f h hc
          refine R_iload (i := 5) dX10_stops_81 rfl ?_
          refine R_i2l dX10_stops_83 ?_
          refine R_iload (i := 4) dX10_stops_84 rfl ?_
          refine R_iconst (v := 1) dX10_stops_86 rfl ?_
          refine R_icmp_ne (tgt := 94) dX10_stops_87 (by decide) (fun hc => ?_) (fun hc => ?_)
          · have h := hit_f h hc
            refine R_lconst (v := 0) dX10_stops_94 rfl ?_
            refine R_drop (lv2 := [none, some (rf Ω 66 k1), some (.int x2), some (.int x3), some (.int x4), some (.int x5), some (.int x6)]) 0 rfl ?_
            refine R_drop (lv2 := [none, none, some (.int x2), some (.int x3), some (.int x4), some (.int x5), some (.int x6)]) 1 rfl ?_
            refine R_drop (lv2 := [none, none, none, some (.int x3), some (.int x4), some (.int x5), some (.int x6)]) 2 rfl ?_
            refine R_drop (lv2 := [none, none, none, none, some (.int x4), some (.int x5), some (.int x6)]) 3 rfl ?_
            refine R_drop (lv2 := [none, none, none, none, none, some (.int x5), some (.int x6)]) 4 rfl ?_
            refine R_drop (lv2 := [none, none, none, none, none, none, some (.int x6)]) 5 rfl ?_
            exact rnX10_stops_j95 hW x6 0 x5.toInt64 σ4  h
          · have h := hit_t h hc
            refine R_lconst (v := 1) dX10_stops_90 rfl ?_
            refine R_goto (tgt := 95) dX10_stops_91 (by decide) ?_
            refine R_drop (lv2 := [none, some (rf Ω 66 k1), some (.int x2), some (.int x3), some (.int x4), some (.int x5), some (.int x6)]) 0 rfl ?_
            refine R_drop (lv2 := [none, none, some (.int x2), some (.int x3), some (.int x4), some (.int x5), some (.int x6)]) 1 rfl ?_
            refine R_drop (lv2 := [none, none, none, some (.int x3), some (.int x4), some (.int x5), some (.int x6)]) 2 rfl ?_
            refine R_drop (lv2 := [none, none, none, none, some (.int x4), some (.int x5), some (.int x6)]) 3 rfl ?_
            refine R_drop (lv2 := [none, none, none, none, none, some (.int x5), some (.int x6)]) 4 rfl ?_
            refine R_drop (lv2 := [none, none, none, none, none, none, some (.int x6)]) 5 rfl ?_
            exact rnX10_stops_j95 hW x6 1 x5.toInt64 σ4  h
      · have h := hit_t h hc
        refine R_iconst (v := 0) dX10_stops_64 rfl ?_
        refine R_goto (tgt := 122) dX10_stops_65 (by decide) ?_
        exact R_iret dX10_stops_122 rfl h
    · have h := hit_f h hs0
      by_cases hs1 : x2 = 1
      · have h := hit_t h hs1
        refine R_tableIn (tgt := 123) dX10_stops_10 (by rw [hs1]; decide) (by rw [hs1]; decide) (by rw [hs1]; rfl) (by decide) ?_
        refine R_aload_n (i := 0) dX10_stops_123 rfl rfl ?_
        refine R_aload_n (i := 1) dX10_stops_124 rfl rfl ?_
        refine R_iload_n (i := 3) dX10_stops_125 rfl rfl ?_
        refine R_iload (i := 4) dX10_stops_126 rfl ?_
        refine R_iload (i := 5) dX10_stops_128 rfl ?_
        refine R_callVi (ctX10_stopsLinking l Ω k1 x3 x4 x5 hL0 hL1 _ _ (hit_mono (hit_bd h) (fun r9 σ10 h => ?_))) okX10_stopsLinking mw_1424 hL0 (cE_10 Ω 0 _) rfl rfl (Nat.le_of_ble_eq_true rfl) rfl rfl ⟨by decide, by decide⟩ ⟨Nat.zero_le _, Nat.zero_le _⟩ dX10_stops_130
        exact R_iret dX10_stops_133 rfl h
      · have h := hit_f h hs1
        by_cases hs2 : x2 = 2
        · have h := hit_t h hs2
          refine R_tableIn (tgt := 134) dX10_stops_10 (by rw [hs2]; decide) (by rw [hs2]; decide) (by rw [hs2]; rfl) (by decide) ?_
          refine R_aload_n (i := 0) dX10_stops_134 rfl rfl ?_
          refine R_iload_n (i := 3) dX10_stops_135 rfl rfl ?_
          refine R_callVi (ctX10_isRoot l Ω x3 hL0 _ _ (hit_mono (hit_bd h) (fun r11 σ12 h => ?_))) okX10_isRoot mw_1417 hL0 (cE_10 Ω 0 _) rfl rfl (Nat.le_of_ble_eq_true rfl) rfl rfl ⟨by decide, by decide⟩ ⟨Nat.zero_le _, Nat.zero_le _⟩ dX10_stops_136
          refine R_if_eq (tgt := 162) dX10_stops_139 (by decide) (fun hc => ?_) (fun hc => ?_)
          · have h := hit_t h hc
            refine R_drop (lv2 := [none, some (rf Ω 66 k1), some (.int x2), some (.int x3), some (.int x4), some (.int x5), some (.int x6)]) 0 rfl ?_
            refine R_drop (lv2 := [none, none, some (.int x2), some (.int x3), some (.int x4), some (.int x5), some (.int x6)]) 1 rfl ?_
            refine R_drop (lv2 := [none, none, none, some (.int x3), some (.int x4), some (.int x5), some (.int x6)]) 2 rfl ?_
            refine R_drop (lv2 := [none, none, none, none, some (.int x4), some (.int x5), some (.int x6)]) 3 rfl ?_
            refine R_drop (lv2 := [none, none, none, none, none, some (.int x5), some (.int x6)]) 4 rfl ?_
            refine R_drop (lv2 := [none, none, none, none, none, none, some (.int x6)]) 5 rfl ?_
            refine R_drop (lv2 := [none, none, none, none, none, none, none]) 6 rfl ?_
            exact rnX10_stops_j162 hW  σ12  h
          · have h := hit_f h hc
            refine R_aload_n (i := 0) dX10_stops_142 rfl rfl ?_
            refine R_iload (i := 4) dX10_stops_143 rfl ?_
            refine R_callVi (ctX10_isRoot l Ω x4 hL0 _ _ (hit_mono (hit_bd h) (fun r13 σ14 h => ?_))) okX10_isRoot mw_1417 hL0 (cE_10 Ω 0 _) rfl rfl (Nat.le_of_ble_eq_true rfl) rfl rfl ⟨by decide, by decide⟩ ⟨Nat.zero_le _, Nat.zero_le _⟩ dX10_stops_145
            refine R_if_eq (tgt := 162) dX10_stops_148 (by decide) (fun hc => ?_) (fun hc => ?_)
            · have h := hit_t h hc
              refine R_drop (lv2 := [none, some (rf Ω 66 k1), some (.int x2), some (.int x3), some (.int x4), some (.int x5), some (.int x6)]) 0 rfl ?_
              refine R_drop (lv2 := [none, none, some (.int x2), some (.int x3), some (.int x4), some (.int x5), some (.int x6)]) 1 rfl ?_
              refine R_drop (lv2 := [none, none, none, some (.int x3), some (.int x4), some (.int x5), some (.int x6)]) 2 rfl ?_
              refine R_drop (lv2 := [none, none, none, none, some (.int x4), some (.int x5), some (.int x6)]) 3 rfl ?_
              refine R_drop (lv2 := [none, none, none, none, none, some (.int x5), some (.int x6)]) 4 rfl ?_
              refine R_drop (lv2 := [none, none, none, none, none, none, some (.int x6)]) 5 rfl ?_
              refine R_drop (lv2 := [none, none, none, none, none, none, none]) 6 rfl ?_
              exact rnX10_stops_j162 hW  σ14  h
            · have h := hit_f h hc
              refine R_aload_n (i := 1) dX10_stops_151 rfl rfl ?_
              refine R_sipush (v := 881) dX10_stops_152 rfl ?_
              refine R_iload (i := 4) dX10_stops_155 rfl ?_
              refine R_iadd dX10_stops_157 ?_
              obtain ⟨hb, h⟩ := hit_bnd h
              refine R_iald hL1 (cE_66 Ω k1 _) hb dX10_stops_158 ?_
              refine R_if_ne (tgt := 166) dX10_stops_159 (by decide) (fun hc => ?_) (fun hc => ?_)
              · have h := hit_f h hc
                refine R_iload (i := 5) dX10_stops_166 rfl ?_
                refine R_i2l dX10_stops_168 ?_
                refine R_lconst (v := 0) dX10_stops_169 rfl ?_
                refine R_aload_n (i := 1) dX10_stops_170 rfl rfl ?_
                refine R_aload_n (i := 1) dX10_stops_171 rfl rfl ?_
                refine R_iload (i := 4) dX10_stops_172 rfl ?_
                refine R_callSi (ctX10_rootSpot l Ω k1 x4 hL1 _ _ (hit_mono (hit_bd h) (fun r15 σ16 h => ?_))) okX10_rootSpot mw_1429 rfl rfl (Nat.le_of_ble_eq_true rfl) rfl rfl ⟨by decide, by decide⟩ ⟨Nat.zero_le _, Nat.zero_le _⟩ dX10_stops_174
                refine R_iconst (v := 2) dX10_stops_177 rfl ?_
                refine R_callSi (ctX10_of l Ω k1 r15 2 hL1 _ _ (hit_mono (hit_bd h) (fun r17 σ18 h => ?_))) okX10_of mw_1435 rfl rfl (Nat.le_of_ble_eq_true rfl) rfl rfl ⟨by decide, by decide⟩ ⟨Nat.zero_le _, Nat.zero_le _⟩ dX10_stops_178
                refine R_iconst (v := 1) dX10_stops_181 rfl ?_
                refine R_isub dX10_stops_182 ?_
                refine R_i2l dX10_stops_183 ?_
                refine R_callSi (ctX10_isIn l Ω x5.toInt64 0 ((r17 - 1).toInt64) _ _ (hit_mono (hit_bd h) (fun r19 σ20 h => ?_))) okX10_isIn mw_1315 rfl rfl (Nat.le_of_ble_eq_true rfl) rfl rfl ⟨by decide, by decide⟩ ⟨Nat.zero_le _, Nat.zero_le _⟩ dX10_stops_184
                refine R_if_ne (tgt := 194) dX10_stops_187 (by decide) (fun hc => ?_) (fun hc => ?_)
                · have h := hit_f h hc
                  refine R_iconst (v := (-1)) dX10_stops_194 rfl ?_
                  exact R_iret dX10_stops_195 rfl h
                · have h := hit_t h hc
                  refine R_iconst (v := 1) dX10_stops_190 rfl ?_
                  refine R_goto (tgt := 195) dX10_stops_191 (by decide) ?_
                  exact R_iret dX10_stops_195 rfl h
              · have h := hit_t h hc
                refine R_drop (lv2 := [none, some (rf Ω 66 k1), some (.int x2), some (.int x3), some (.int x4), some (.int x5), some (.int x6)]) 0 rfl ?_
                refine R_drop (lv2 := [none, none, some (.int x2), some (.int x3), some (.int x4), some (.int x5), some (.int x6)]) 1 rfl ?_
                refine R_drop (lv2 := [none, none, none, some (.int x3), some (.int x4), some (.int x5), some (.int x6)]) 2 rfl ?_
                refine R_drop (lv2 := [none, none, none, none, some (.int x4), some (.int x5), some (.int x6)]) 3 rfl ?_
                refine R_drop (lv2 := [none, none, none, none, none, some (.int x5), some (.int x6)]) 4 rfl ?_
                refine R_drop (lv2 := [none, none, none, none, none, none, some (.int x6)]) 5 rfl ?_
                refine R_drop (lv2 := [none, none, none, none, none, none, none]) 6 rfl ?_
                exact rnX10_stops_j162 hW  σ14  h
        · have h := hit_f h hs2
          by_cases hs3 : x2 = 3
          · have h := hit_t h hs3
            refine R_tableIn (tgt := 196) dX10_stops_10 (by rw [hs3]; decide) (by rw [hs3]; decide) (by rw [hs3]; rfl) (by decide) ?_
            refine R_aload_n (i := 0) dX10_stops_196 rfl rfl ?_
            refine R_iload_n (i := 3) dX10_stops_197 rfl rfl ?_
            refine R_callVi (ctX10_isRoot l Ω x3 hL0 _ _ (hit_mono (hit_bd h) (fun r21 σ22 h => ?_))) okX10_isRoot mw_1417 hL0 (cE_10 Ω 0 _) rfl rfl (Nat.le_of_ble_eq_true rfl) rfl rfl ⟨by decide, by decide⟩ ⟨Nat.zero_le _, Nat.zero_le _⟩ dX10_stops_198
            refine R_if_ne (tgt := 208) dX10_stops_201 (by decide) (fun hc => ?_) (fun hc => ?_)
            · have h := hit_f h hc
              refine R_aload_n (i := 1) dX10_stops_208 rfl rfl ?_
              refine R_sipush (v := 881) dX10_stops_209 rfl ?_
              refine R_iload_n (i := 3) dX10_stops_212 rfl rfl ?_
              refine R_iadd dX10_stops_213 ?_
              obtain ⟨hb, h⟩ := hit_bnd h
              refine R_iald hL1 (cE_66 Ω k1 _) hb dX10_stops_214 ?_
              refine R_if_ne (tgt := 222) dX10_stops_215 (by decide) (fun hc => ?_) (fun hc => ?_)
              · have h := hit_f h hc
                refine R_iconst (v := (-1)) dX10_stops_222 rfl ?_
                exact R_iret dX10_stops_223 rfl h
              · have h := hit_t h hc
                refine R_iconst (v := 2) dX10_stops_218 rfl ?_
                refine R_goto (tgt := 223) dX10_stops_219 (by decide) ?_
                exact R_iret dX10_stops_223 rfl h
            · have h := hit_t h hc
              refine R_iconst (v := 0) dX10_stops_204 rfl ?_
              refine R_goto (tgt := 223) dX10_stops_205 (by decide) ?_
              exact R_iret dX10_stops_223 rfl h
          · have h := hit_f h hs3
            by_cases hs6 : x2 = 6
            · have h := hit_t h hs6
              refine R_tableIn (tgt := 224) dX10_stops_10 (by rw [hs6]; decide) (by rw [hs6]; decide) (by rw [hs6]; rfl) (by decide) ?_
              refine R_iload_n (i := 3) dX10_stops_224 rfl rfl ?_
              refine R_i2l dX10_stops_225 ?_
              refine R_lconst (v := 0) dX10_stops_226 rfl ?_
              refine R_ldc2 (v := 8) mw_1428 dX10_stops_227 ?_
              refine R_callSi (ctX10_isIn l Ω x3.toInt64 0 8 _ _ (hit_mono (hit_bd h) (fun r23 σ24 h => ?_))) okX10_isIn mw_1315 rfl rfl (Nat.le_of_ble_eq_true rfl) rfl rfl ⟨by decide, by decide⟩ ⟨Nat.zero_le _, Nat.zero_le _⟩ dX10_stops_230
              refine R_if_ne (tgt := 240) dX10_stops_233 (by decide) (fun hc => ?_) (fun hc => ?_)
              · have h := hit_f h hc
                refine R_aload_n (i := 1) dX10_stops_240 rfl rfl ?_
                refine R_sipush (v := 1242) dX10_stops_241 rfl ?_
                refine R_iald hL1 (cE_66 Ω k1 _) (vin 1242 1554 rfl) dX10_stops_244 ?_
                refine R_if_ne (tgt := 252) dX10_stops_245 (by decide) (fun hc => ?_) (fun hc => ?_)
                · have h := hit_f h hc
                  refine R_iconst (v := (-1)) dX10_stops_252 rfl ?_
                  exact R_iret dX10_stops_253 rfl h
                · have h := hit_t h hc
                  refine R_iconst (v := 2) dX10_stops_248 rfl ?_
                  refine R_goto (tgt := 253) dX10_stops_249 (by decide) ?_
                  exact R_iret dX10_stops_253 rfl h
              · have h := hit_t h hc
                refine R_iconst (v := 0) dX10_stops_236 rfl ?_
                refine R_goto (tgt := 253) dX10_stops_237 (by decide) ?_
                exact R_iret dX10_stops_253 rfl h
            · have h := hit_f h hs6
              by_cases hs7 : x2 = 7
              · have h := hit_t h hs7
                refine R_tableIn (tgt := 254) dX10_stops_10 (by rw [hs7]; decide) (by rw [hs7]; decide) (by rw [hs7]; rfl) (by decide) ?_
                refine R_aload_n (i := 1) dX10_stops_254 rfl rfl ?_
                refine R_sipush (v := 1323) dX10_stops_255 rfl ?_
                refine R_iald hL1 (cE_66 Ω k1 _) (vin 1323 1554 rfl) dX10_stops_258 ?_
                refine R_if_ne (tgt := 266) dX10_stops_259 (by decide) (fun hc => ?_) (fun hc => ?_)
                · have h := hit_f h hc
                  refine R_iconst (v := (-1)) dX10_stops_266 rfl ?_
                  exact R_iret dX10_stops_267 rfl h
                · have h := hit_t h hc
                  refine R_iconst (v := 2) dX10_stops_262 rfl ?_
                  refine R_goto (tgt := 267) dX10_stops_263 (by decide) ?_
                  exact R_iret dX10_stops_267 rfl h
              · have h := hit_f h hs7
                refine R_sw (tgt := 268) (lo := 0) (hi := 7) dX10_stops_10 (fun z1 z2 => ?_) (by decide) ?_
                · have e : x2.toInt = 0 ∨ x2.toInt = 1 ∨ x2.toInt = 2 ∨ x2.toInt = 3 ∨ x2.toInt = 4 ∨ x2.toInt = 5 ∨ x2.toInt = 6 ∨ x2.toInt = 7 := by omega
                  rcases e with e | e | e | e | e | e | e | e
                  · exact absurd (Int32.toInt_inj.mp (e.trans (by decide : (0 : Int) = (0 : Int32).toInt))) hs0
                  · exact absurd (Int32.toInt_inj.mp (e.trans (by decide : (1 : Int) = (1 : Int32).toInt))) hs1
                  · exact absurd (Int32.toInt_inj.mp (e.trans (by decide : (2 : Int) = (2 : Int32).toInt))) hs2
                  · exact absurd (Int32.toInt_inj.mp (e.trans (by decide : (3 : Int) = (3 : Int32).toInt))) hs3
                  · rw [e]; rfl
                  · rw [e]; rfl
                  · exact absurd (Int32.toInt_inj.mp (e.trans (by decide : (6 : Int) = (6 : Int32).toInt))) hs6
                  · exact absurd (Int32.toInt_inj.mp (e.trans (by decide : (7 : Int) = (7 : Int32).toInt))) hs7
                refine R_iconst (v := (-1)) dX10_stops_268 rfl ?_
                exact R_iret dX10_stops_269 rfl h
  · have h := hit_t h hc
    refine R_iconst (v := 0) dX10_stops_7 rfl ?_
    exact R_iret dX10_stops_8 rfl h
set_option maxRecDepth 100000 in
set_option maxHeartbeats 4000000 in
theorem ctX10_hasRoom (l : Launch) (Ω : rO) (k1 : Nat) (x2 : Int32) (hL0 : oL Ω 10 0) (hL1 : oL Ω 66 k1) (σ : rS) (K : Int32 → rS → Prop) (h : hit (fX10_hasRoom k1 x2 σ) K) : Ct l Ω yX10_hasRoom cX10_hasRoom 3 (some .boolean) rmX10_hasRoom [rf Ω 10 0, rf Ω 66 k1, .int x2] σ K := by
  refine Ct.of (own := RX10) (lv := [some (rf Ω 10 0), some (rf Ω 66 k1), some (.int x2)]) (by decide) rfl (Nat.le_of_ble_eq_true rfl) rfl (fun hW => ?_)
  unfold fX10_hasRoom at h
  refine R_aload_n (i := 1) dX10_hasRoom_0 rfl rfl ?_
  refine R_iconst (v := 0) dX10_hasRoom_1 rfl ?_
  refine R_callSi (ctX10_cellsIn l Ω k1 0 hL1 _ _ (hit_mono (hit_bd h) (fun r1 σ2 h => ?_))) okX10_cellsIn mw_1446 rfl rfl (Nat.le_of_ble_eq_true rfl) rfl rfl ⟨by decide, by decide⟩ ⟨Nat.zero_le _, Nat.zero_le _⟩ dX10_hasRoom_2
  refine R_iload_n (i := 2) dX10_hasRoom_5 rfl rfl ?_
  refine R_iadd dX10_hasRoom_6 ?_
  refine R_aload_n (i := 0) dX10_hasRoom_7 rfl rfl ?_
  refine R_get foX10_17 hL0 (cE_10 Ω 0 _) rfl dX10_hasRoom_8 ?_
  refine R_iconst (v := 0) dX10_hasRoom_11 rfl ?_
  refine R_iald (WF.kid hW 2 hL0 rfl) (cE_62 Ω 0 _) (vin 0 4 rfl) dX10_hasRoom_12 ?_
  refine R_icmp_gt (tgt := 18) dX10_hasRoom_13 (by decide) (fun hc => ?_) (fun hc => ?_)
  · have h := hit_t h hc
    refine R_aload_n (i := 1) dX10_hasRoom_18 rfl rfl ?_
    refine R_iconst (v := 0) dX10_hasRoom_19 rfl ?_
    refine R_aload_n (i := 0) dX10_hasRoom_20 rfl rfl ?_
    refine R_get foX10_55 hL0 (cE_10 Ω 0 _) rfl dX10_hasRoom_21 ?_
    refine R_iconst (v := 0) dX10_hasRoom_24 rfl ?_
    refine R_callSv (ctX10_copyRow l Ω 66 k1 1554 0 66 4 1554 0 hL1 (cE_66 Ω k1) (WF.kid hW 14 hL0 rfl) (cE_66 Ω 4) _ _ (hit_mono (hit_bd h) (fun r3 σ4 h => ?_))) okX10_copyRow mw_1406 rfl rfl (Nat.le_of_ble_eq_true rfl) rfl rfl ⟨by decide, by decide⟩ ⟨Nat.zero_le _, Nat.zero_le _⟩ dX10_hasRoom_25
    refine R_aload_n (i := 0) dX10_hasRoom_28 rfl rfl ?_
    refine R_aload_n (i := 1) dX10_hasRoom_29 rfl rfl ?_
    refine R_callVi (ctX10_minors l Ω k1 hL0 hL1 _ _ (hit_mono (hit_bd h) (fun r5 σ6 h => ?_))) okX10_minors mw_1452 hL0 (cE_10 Ω 0 _) rfl rfl (Nat.le_of_ble_eq_true rfl) rfl rfl ⟨by decide, by decide⟩ ⟨Nat.zero_le _, Nat.zero_le _⟩ dX10_hasRoom_30
    refine R_if_eq (tgt := 38) dX10_hasRoom_33 (by decide) (fun hc => ?_) (fun hc => ?_)
    · have h := hit_t h hc
      refine R_aload_n (i := 0) dX10_hasRoom_38 rfl rfl ?_
      refine R_aload_n (i := 1) dX10_hasRoom_39 rfl rfl ?_
      refine R_callVv (ctX10_majors l Ω k1 hL0 hL1 _ _ (hit_mono (hit_bd h) (fun r7 σ8 h => ?_))) okX10_majors mw_1519 hL0 (cE_10 Ω 0 _) rfl rfl (Nat.le_of_ble_eq_true rfl) rfl rfl ⟨by decide, by decide⟩ ⟨Nat.zero_le _, Nat.zero_le _⟩ dX10_hasRoom_40
      refine R_aload_n (i := 0) dX10_hasRoom_43 rfl rfl ?_
      refine R_aload_n (i := 1) dX10_hasRoom_44 rfl rfl ?_
      refine R_callVi (ctX10_minors l Ω k1 hL0 hL1 _ _ (hit_mono (hit_bd h) (fun r9 σ10 h => ?_))) okX10_minors mw_1452 hL0 (cE_10 Ω 0 _) rfl rfl (Nat.le_of_ble_eq_true rfl) rfl rfl ⟨by decide, by decide⟩ ⟨Nat.zero_le _, Nat.zero_le _⟩ dX10_hasRoom_45
      refine R_if_eq (tgt := 53) dX10_hasRoom_48 (by decide) (fun hc => ?_) (fun hc => ?_)
      · have h := hit_t h hc
        refine R_aload_n (i := 0) dX10_hasRoom_53 rfl rfl ?_
        refine R_get foX10_55 hL0 (cE_10 Ω 0 _) rfl dX10_hasRoom_54 ?_
        refine R_iconst (v := 0) dX10_hasRoom_57 rfl ?_
        refine R_aload_n (i := 1) dX10_hasRoom_58 rfl rfl ?_
        refine R_iconst (v := 0) dX10_hasRoom_59 rfl ?_
        refine R_callSv (ctX10_copyRow l Ω 66 4 1554 0 66 k1 1554 0 (WF.kid hW 14 hL0 rfl) (cE_66 Ω 4) hL1 (cE_66 Ω k1) _ _ (hit_mono (hit_bd h) (fun r11 σ12 h => ?_))) okX10_copyRow mw_1406 rfl rfl (Nat.le_of_ble_eq_true rfl) rfl rfl ⟨by decide, by decide⟩ ⟨Nat.zero_le _, Nat.zero_le _⟩ dX10_hasRoom_60
        refine R_iconst (v := 0) dX10_hasRoom_63 rfl ?_
        exact R_zret dX10_hasRoom_64 rfl (Or.inl rfl) h
      · have h := hit_f h hc
        refine R_iconst (v := 1) dX10_hasRoom_51 rfl ?_
        exact R_zret dX10_hasRoom_52 rfl (Or.inr rfl) h
    · have h := hit_f h hc
      refine R_iconst (v := 1) dX10_hasRoom_36 rfl ?_
      exact R_zret dX10_hasRoom_37 rfl (Or.inr rfl) h
  · have h := hit_f h hc
    refine R_iconst (v := 1) dX10_hasRoom_16 rfl ?_
    exact R_zret dX10_hasRoom_17 rfl (Or.inr rfl) h
set_option maxRecDepth 100000 in
set_option maxHeartbeats 4000000 in
theorem rsX10_makes_L29 {l : Launch} {Ω : rO} (hW : WF Ω) (k1 : Nat) (x2 : Int32) (x3 : Int32) (x4 : Int32) (x5 : Int32) (x6 : Int32) (x7 : Int32) (x8 : Int32) (hL0 : oL Ω 10 0) (hL1 : oL Ω 66 k1) (σ : rS) {K : Int32 → rS → Prop} {K0 : (Int32 ⊕ Unit) → rS → Prop} (hC : ∀ (x8 : Int32) (σ : rS), K0 (.inl x8) σ → Run l Ω cX10_makes RX10 9 (some .boolean) rmX10_makes K 29 [some (rf Ω 10 0), some (rf Ω 66 k1), some (.int x2), some (.int x3), some (.int x4), some (.int x5), some (.int x6), some (.int x7), some (.int x8)] [] σ) (hE0 : ∀ (e : Unit) (σ : rS), K0 (.inr e) σ → Run l Ω cX10_makes RX10 9 (some .boolean) rmX10_makes K 52 [some (rf Ω 10 0), some (rf Ω 66 k1), some (.int x2), some (.int x3), some (.int x4), some (.int x5), some (.int x6), some (.int x7), none] [] σ) (h : hit (fX10_makes_L29 k1 x2 x3 x4 x5 x6 x7 x8 σ) K0) : Run l Ω cX10_makes RX10 9 (some .boolean) rmX10_makes K 29 [some (rf Ω 10 0), some (rf Ω 66 k1), some (.int x2), some (.int x3), some (.int x4), some (.int x5), some (.int x6), some (.int x7), some (.int x8)] [] σ := by
  unfold fX10_makes_L29 at h
  refine R_iload (i := 8) dX10_makes_29 rfl ?_
  refine R_bipush (v := 11) dX10_makes_31 rfl ?_
  refine R_icmp_ge (tgt := 52) dX10_makes_33 (by decide) (fun hc => ?_) (fun hc => ?_)
  · have h := hit_f h hc
    refine R_drop (lv2 := [some (rf Ω 10 0), some (rf Ω 66 k1), some (.int x2), some (.int x3), some (.int x4), some (.int x5), some (.int x6), some (.int x7), none]) 8 rfl ?_
    exact hE0 () σ h
  · have h := hit_t h hc
    refine R_aload_n (i := 1) dX10_makes_36 rfl rfl ?_
    refine R_iload (i := 7) dX10_makes_37 rfl ?_
    refine R_iload (i := 8) dX10_makes_39 rfl ?_
    refine R_callSi (ctX10_cell l Ω x7 x8 _ _ (hit_mono (hit_bd h) (fun r6 σ7 h => ?_))) okX10_cell mw_1471 rfl rfl (Nat.le_of_ble_eq_true rfl) rfl rfl ⟨by decide, by decide⟩ ⟨Nat.zero_le _, Nat.zero_le _⟩ dX10_makes_41
    refine R_iconst (v := 0) dX10_makes_44 rfl ?_
    obtain ⟨hb, h⟩ := hit_bnd h
    refine R_iast hL1 (cE_66 Ω k1) hb dX10_makes_45 ?_
    refine R_st h (fun σ8 h => ?_)
    refine R_iinc (v := x8 + 1) (lv2 := [some (rf Ω 10 0), some (rf Ω 66 k1), some (.int x2), some (.int x3), some (.int x4), some (.int x5), some (.int x6), some (.int x7), some (.int (x8 + 1))]) dX10_makes_46 rfl rfl (by decide) rfl rfl ?_
    refine R_goto (tgt := 29) dX10_makes_49 (by decide) ?_
    exact hC (x8 + 1) σ8 h
set_option maxRecDepth 100000 in
set_option maxHeartbeats 4000000 in
theorem rlX10_makes_L29 {l : Launch} {Ω : rO} (hW : WF Ω) (k1 : Nat) (x2 : Int32) (x3 : Int32) (x4 : Int32) (x5 : Int32) (x6 : Int32) (x7 : Int32) (hL0 : oL Ω 10 0) (hL1 : oL Ω 66 k1) {K : Int32 → rS → Prop} {KE : Unit → rS → Prop} (hE0 : ∀ (e : Unit) (σ : rS), KE e σ → Run l Ω cX10_makes RX10 9 (some .boolean) rmX10_makes K 52 [some (rf Ω 10 0), some (rf Ω 66 k1), some (.int x2), some (.int x3), some (.int x4), some (.int x5), some (.int x6), some (.int x7), none] [] σ) : ∀ (n : Nat) (x8 : Int32) (σ : rS), hit (lp (fun (x : Int32) σ => fX10_makes_L29 k1 x2 x3 x4 x5 x6 x7 x σ) n x8 σ) KE → Run l Ω cX10_makes RX10 9 (some .boolean) rmX10_makes K 29 [some (rf Ω 10 0), some (rf Ω 66 k1), some (.int x2), some (.int x3), some (.int x4), some (.int x5), some (.int x6), some (.int x7), some (.int x8)] [] σ := by
  intro n
  induction n with
  | zero => intro x8 σ h; exact (h : False).elim
  | succ n ih =>
    intro x8 σ h
    exact rsX10_makes_L29 hW k1 x2 x3 x4 x5 x6 x7 x8 hL0 hL1 σ (fun x8 σ h => ih x8 σ h) (fun e σ h => hE0 e σ h) (hit_lp h)
set_option maxRecDepth 100000 in
set_option maxHeartbeats 4000000 in
theorem ctX10_makes (l : Launch) (Ω : rO) (k1 : Nat) (x2 : Int32) (x3 : Int32) (x4 : Int32) (x5 : Int32) (hL0 : oL Ω 10 0) (hL1 : oL Ω 66 k1) (σ : rS) (K : Int32 → rS → Prop) (h : hit (fX10_makes k1 x2 x3 x4 x5 σ) K) : Ct l Ω yX10_makes cX10_makes 9 (some .boolean) rmX10_makes [rf Ω 10 0, rf Ω 66 k1, .int x2, .int x3, .int x4, .int x5] σ K := by
  refine Ct.of (own := RX10) (lv := [some (rf Ω 10 0), some (rf Ω 66 k1), some (.int x2), some (.int x3), some (.int x4), some (.int x5), none, none, none]) (by decide) rfl (Nat.le_of_ble_eq_true rfl) rfl (fun hW => ?_)
  unfold fX10_makes at h
  refine R_aload_n (i := 0) dX10_makes_0 rfl rfl ?_
  refine R_aload_n (i := 1) dX10_makes_1 rfl rfl ?_
  refine R_iconst (v := 3) dX10_makes_2 rfl ?_
  refine R_iload (i := 4) dX10_makes_3 rfl ?_
  refine R_iadd dX10_makes_5 ?_
  refine R_callVi (ctX10_hasRoom l Ω k1 (3 + x4) hL0 hL1 _ _ (hit_mono (hit_bd h) (fun r1 σ2 h => ?_))) okX10_hasRoom mw_1442 hL0 (cE_10 Ω 0 _) rfl rfl (Nat.le_of_ble_eq_true rfl) rfl rfl ⟨by decide, by decide⟩ ⟨Nat.zero_le _, Nat.zero_le _⟩ dX10_makes_6
  refine R_if_ne (tgt := 14) dX10_makes_9 (by decide) (fun hc => ?_) (fun hc => ?_)
  · have h := hit_f h hc
    refine R_aload_n (i := 1) dX10_makes_14 rfl rfl ?_
    refine R_iconst (v := 0) dX10_makes_15 rfl ?_
    refine R_callSi (ctX10_cellsIn l Ω k1 0 hL1 _ _ (hit_mono (hit_bd h) (fun r3 σ4 h => ?_))) okX10_cellsIn mw_1446 rfl rfl (Nat.le_of_ble_eq_true rfl) rfl rfl ⟨by decide, by decide⟩ ⟨Nat.zero_le _, Nat.zero_le _⟩ dX10_makes_16
    refine R_istore (lv2 := [some (rf Ω 10 0), some (rf Ω 66 k1), some (.int x2), some (.int x3), some (.int x4), some (.int x5), some (.int r3), none, none]) dX10_makes_19 (by decide) rfl rfl ?_
    refine R_aload_n (i := 1) dX10_makes_21 rfl rfl ?_
    refine R_iconst (v := 0) dX10_makes_22 rfl ?_
    refine R_iald hL1 (cE_66 Ω k1 _) (vin 0 1554 rfl) dX10_makes_23 ?_
    refine R_topi h (fun y5 h => ?_)
    refine R_istore (lv2 := [some (rf Ω 10 0), some (rf Ω 66 k1), some (.int x2), some (.int x3), some (.int x4), some (.int x5), some (.int r3), some (.int y5), none]) dX10_makes_24 (by decide) rfl rfl ?_
    refine R_iconst (v := 0) dX10_makes_26 rfl ?_
    refine R_istore (lv2 := [some (rf Ω 10 0), some (rf Ω 66 k1), some (.int x2), some (.int x3), some (.int x4), some (.int x5), some (.int r3), some (.int y5), some (.int 0)]) dX10_makes_27 (by decide) rfl rfl ?_
    refine rlX10_makes_L29 hW k1 x2 x3 x4 x5 r3 y5 hL0 hL1 ?_ fu 0 σ4 (hit_bd h)
    · intro e10 σ9 h
      try dsimp only at h
      refine R_aload_n (i := 1) dX10_makes_52 rfl rfl ?_
      refine R_sipush (v := 1364) dX10_makes_53 rfl ?_
      refine R_dup2 dX10_makes_56 rfl rfl ?_
      refine R_iald hL1 (cE_66 Ω k1 _) (vin 1364 1554 rfl) dX10_makes_57 ?_
      refine R_iconst (v := 1) dX10_makes_58 rfl ?_
      refine R_iadd dX10_makes_59 ?_
      refine R_iast hL1 (cE_66 Ω k1) (vin 1364 1554 rfl) dX10_makes_60 ?_
      refine R_st h (fun σ11 h => ?_)
      refine R_aload_n (i := 1) dX10_makes_61 rfl rfl ?_
      refine R_iload (i := 7) dX10_makes_62 rfl ?_
      refine R_iconst (v := 0) dX10_makes_64 rfl ?_
      refine R_callSi (ctX10_cell l Ω y5 0 _ _ (hit_mono (hit_bd h) (fun r12 σ13 h => ?_))) okX10_cell mw_1471 rfl rfl (Nat.le_of_ble_eq_true rfl) rfl rfl ⟨by decide, by decide⟩ ⟨Nat.zero_le _, Nat.zero_le _⟩ dX10_makes_65
      refine R_aload_n (i := 1) dX10_makes_68 rfl rfl ?_
      refine R_sipush (v := 1364) dX10_makes_69 rfl ?_
      refine R_iald hL1 (cE_66 Ω k1 _) (vin 1364 1554 rfl) dX10_makes_72 ?_
      obtain ⟨hb, h⟩ := hit_bnd h
      refine R_iast hL1 (cE_66 Ω k1) hb dX10_makes_73 ?_
      refine R_st h (fun σ14 h => ?_)
      refine R_aload_n (i := 1) dX10_makes_74 rfl rfl ?_
      refine R_iload (i := 7) dX10_makes_75 rfl ?_
      refine R_iconst (v := 1) dX10_makes_77 rfl ?_
      refine R_callSi (ctX10_cell l Ω y5 1 _ _ (hit_mono (hit_bd h) (fun r15 σ16 h => ?_))) okX10_cell mw_1471 rfl rfl (Nat.le_of_ble_eq_true rfl) rfl rfl ⟨by decide, by decide⟩ ⟨Nat.zero_le _, Nat.zero_le _⟩ dX10_makes_78
      refine R_iload_n (i := 3) dX10_makes_81 rfl rfl ?_
      obtain ⟨hb, h⟩ := hit_bnd h
      refine R_iast hL1 (cE_66 Ω k1) hb dX10_makes_82 ?_
      refine R_st h (fun σ17 h => ?_)
      refine R_aload_n (i := 1) dX10_makes_83 rfl rfl ?_
      refine R_iload (i := 7) dX10_makes_84 rfl ?_
      refine R_iconst (v := 2) dX10_makes_86 rfl ?_
      refine R_callSi (ctX10_cell l Ω y5 2 _ _ (hit_mono (hit_bd h) (fun r18 σ19 h => ?_))) okX10_cell mw_1471 rfl rfl (Nat.le_of_ble_eq_true rfl) rfl rfl ⟨by decide, by decide⟩ ⟨Nat.zero_le _, Nat.zero_le _⟩ dX10_makes_87
      refine R_iload (i := 4) dX10_makes_90 rfl ?_
      obtain ⟨hb, h⟩ := hit_bnd h
      refine R_iast hL1 (cE_66 Ω k1) hb dX10_makes_92 ?_
      refine R_st h (fun σ20 h => ?_)
      refine R_aload_n (i := 1) dX10_makes_93 rfl rfl ?_
      refine R_iload (i := 7) dX10_makes_94 rfl ?_
      refine R_iconst (v := 3) dX10_makes_96 rfl ?_
      refine R_callSi (ctX10_cell l Ω y5 3 _ _ (hit_mono (hit_bd h) (fun r21 σ22 h => ?_))) okX10_cell mw_1471 rfl rfl (Nat.le_of_ble_eq_true rfl) rfl rfl ⟨by decide, by decide⟩ ⟨Nat.zero_le _, Nat.zero_le _⟩ dX10_makes_97
      refine R_iload (i := 5) dX10_makes_100 rfl ?_
      obtain ⟨hb, h⟩ := hit_bnd h
      refine R_iast hL1 (cE_66 Ω k1) hb dX10_makes_102 ?_
      refine R_st h (fun σ23 h => ?_)
      refine R_aload_n (i := 1) dX10_makes_103 rfl rfl ?_
      refine R_iload (i := 7) dX10_makes_104 rfl ?_
      refine R_bipush (v := 6) dX10_makes_106 rfl ?_
      refine R_callSi (ctX10_cell l Ω y5 6 _ _ (hit_mono (hit_bd h) (fun r24 σ25 h => ?_))) okX10_cell mw_1471 rfl rfl (Nat.le_of_ble_eq_true rfl) rfl rfl ⟨by decide, by decide⟩ ⟨Nat.zero_le _, Nat.zero_le _⟩ dX10_makes_108
      refine R_iload (i := 6) dX10_makes_111 rfl ?_
      obtain ⟨hb, h⟩ := hit_bnd h
      refine R_iast hL1 (cE_66 Ω k1) hb dX10_makes_113 ?_
      refine R_st h (fun σ26 h => ?_)
      refine R_aload_n (i := 1) dX10_makes_114 rfl rfl ?_
      refine R_iconst (v := 0) dX10_makes_115 rfl ?_
      refine R_dup2 dX10_makes_116 rfl rfl ?_
      refine R_iald hL1 (cE_66 Ω k1 _) (vin 0 1554 rfl) dX10_makes_117 ?_
      refine R_iconst (v := 1) dX10_makes_118 rfl ?_
      refine R_iadd dX10_makes_119 ?_
      refine R_iast hL1 (cE_66 Ω k1) (vin 0 1554 rfl) dX10_makes_120 ?_
      refine R_st h (fun σ27 h => ?_)
      refine R_aload_n (i := 1) dX10_makes_121 rfl rfl ?_
      refine R_sipush (v := 881) dX10_makes_122 rfl ?_
      refine R_iload_n (i := 2) dX10_makes_125 rfl rfl ?_
      refine R_iadd dX10_makes_126 ?_
      refine R_aload_n (i := 1) dX10_makes_127 rfl rfl ?_
      refine R_sipush (v := 1364) dX10_makes_128 rfl ?_
      refine R_iald hL1 (cE_66 Ω k1 _) (vin 1364 1554 rfl) dX10_makes_131 ?_
      obtain ⟨hb, h⟩ := hit_bnd h
      refine R_iast hL1 (cE_66 Ω k1) hb dX10_makes_132 ?_
      refine R_st h (fun σ28 h => ?_)
      refine R_aload_n (i := 0) dX10_makes_133 rfl rfl ?_
      refine R_aload_n (i := 1) dX10_makes_134 rfl rfl ?_
      refine R_sipush (v := 1364) dX10_makes_135 rfl ?_
      refine R_iald hL1 (cE_66 Ω k1 _) (vin 1364 1554 rfl) dX10_makes_138 ?_
      refine R_put poX10_250 hL0 (cE_10 Ω 0 _) (cP_10_28 Ω 0 _ _) (Nat.le_of_ble_eq_true rfl) dX10_makes_139 ?_
      refine R_st h (fun σ29 h => ?_)
      refine R_aload_n (i := 0) dX10_makes_142 rfl rfl ?_
      refine R_aload_n (i := 0) dX10_makes_143 rfl rfl ?_
      refine R_get foX10_250 hL0 (cE_10 Ω 0 _) rfl dX10_makes_144 ?_
      refine R_put poX10_300 hL0 (cE_10 Ω 0 _) (cP_10_30 Ω 0 _ _) (Nat.le_of_ble_eq_true rfl) dX10_makes_147 ?_
      refine R_st h (fun σ30 h => ?_)
      refine R_iconst (v := 1) dX10_makes_150 rfl ?_
      exact R_zret dX10_makes_151 rfl (Or.inr rfl) h
  · have h := hit_t h hc
    refine R_iconst (v := 0) dX10_makes_12 rfl ?_
    exact R_zret dX10_makes_13 rfl (Or.inl rfl) h
set_option maxRecDepth 100000 in
set_option maxHeartbeats 4000000 in
theorem ctX10_link (l : Launch) (Ω : rO) (x0 : Int32) (k1 : Nat) (hL1 : oL Ω 66 k1) (σ : rS) (K : Int32 → rS → Prop) (h : hit (fX10_link x0 k1 σ) K) : Ct l Ω yX10_link cX10_link 2 (some .int) rmX10_link [.int x0, rf Ω 66 k1] σ K := by
  refine Ct.of (own := RX10) (lv := [some (.int x0), some (rf Ω 66 k1)]) (by decide) rfl (Nat.le_of_ble_eq_true rfl) rfl (fun hW => ?_)
  unfold fX10_link at h
  refine R_iload_n (i := 0) dX10_link_0 rfl rfl ?_
  refine R_bipush (v := 8) dX10_link_1 rfl ?_
  refine R_icmp_ge (tgt := 16) dX10_link_3 (by decide) (fun hc => ?_) (fun hc => ?_)
  · have h := hit_f h hc
    refine R_iconst (v := 0) dX10_link_16 rfl ?_
    exact R_iret dX10_link_17 rfl h
  · have h := hit_t h hc
    refine R_aload_n (i := 1) dX10_link_6 rfl rfl ?_
    refine R_sipush (v := 881) dX10_link_7 rfl ?_
    refine R_iload_n (i := 0) dX10_link_10 rfl rfl ?_
    refine R_iadd dX10_link_11 ?_
    obtain ⟨hb, h⟩ := hit_bnd h
    refine R_iald hL1 (cE_66 Ω k1 _) hb dX10_link_12 ?_
    refine R_goto (tgt := 17) dX10_link_13 (by decide) ?_
    exact R_iret dX10_link_17 rfl h
set_option maxRecDepth 100000 in
set_option maxHeartbeats 4000000 in
theorem ctX10_links (l : Launch) (Ω : rO) (k1 : Nat) (x2 : Int32) (x3 : Int32) (x4 : Int32) (hL0 : oL Ω 10 0) (hL1 : oL Ω 66 k1) (σ : rS) (K : Int32 → rS → Prop) (h : hit (fX10_links k1 x2 x3 x4 σ) K) : Ct l Ω yX10_links cX10_links 6 none rmX10_links [rf Ω 10 0, rf Ω 66 k1, .int x2, .int x3, .int x4] σ K := by
  refine Ct.of (own := RX10) (lv := [some (rf Ω 10 0), some (rf Ω 66 k1), some (.int x2), some (.int x3), some (.int x4), none]) (by decide) rfl (Nat.le_of_ble_eq_true rfl) rfl (fun hW => ?_)
  unfold fX10_links at h
  refine R_aload_n (i := 1) dX10_links_0 rfl rfl ?_
  refine R_iload_n (i := 2) dX10_links_1 rfl rfl ?_
  refine R_callSi (ctX10_rootSpot l Ω k1 x2 hL1 _ _ (hit_mono (hit_bd h) (fun r1 σ2 h => ?_))) okX10_rootSpot mw_1429 rfl rfl (Nat.le_of_ble_eq_true rfl) rfl rfl ⟨by decide, by decide⟩ ⟨Nat.zero_le _, Nat.zero_le _⟩ dX10_links_2
  refine R_istore (lv2 := [some (rf Ω 10 0), some (rf Ω 66 k1), some (.int x2), some (.int x3), some (.int x4), some (.int r1)]) dX10_links_5 (by decide) rfl rfl ?_
  refine R_aload_n (i := 0) dX10_links_7 rfl rfl ?_
  refine R_aload_n (i := 1) dX10_links_8 rfl rfl ?_
  refine R_iload (i := 5) dX10_links_9 rfl ?_
  refine R_bipush (v := 7) dX10_links_11 rfl ?_
  refine R_iload_n (i := 3) dX10_links_13 rfl rfl ?_
  refine R_iadd dX10_links_14 ?_
  refine R_callSi (ctX10_of l Ω k1 r1 (7 + x3) hL1 _ _ (hit_mono (hit_bd h) (fun r3 σ4 h => ?_))) okX10_of mw_1435 rfl rfl (Nat.le_of_ble_eq_true rfl) rfl rfl ⟨by decide, by decide⟩ ⟨Nat.zero_le _, Nat.zero_le _⟩ dX10_links_15
  refine R_put poX10_250 hL0 (cE_10 Ω 0 _) (cP_10_28 Ω 0 _ _) (Nat.le_of_ble_eq_true rfl) dX10_links_18 ?_
  refine R_st h (fun σ5 h => ?_)
  refine R_aload_n (i := 1) dX10_links_21 rfl rfl ?_
  refine R_iload (i := 5) dX10_links_22 rfl ?_
  refine R_bipush (v := 7) dX10_links_24 rfl ?_
  refine R_iload_n (i := 3) dX10_links_26 rfl rfl ?_
  refine R_iadd dX10_links_27 ?_
  refine R_callSi (ctX10_cell l Ω r1 (7 + x3) _ _ (hit_mono (hit_bd h) (fun r6 σ7 h => ?_))) okX10_cell mw_1471 rfl rfl (Nat.le_of_ble_eq_true rfl) rfl rfl ⟨by decide, by decide⟩ ⟨Nat.zero_le _, Nat.zero_le _⟩ dX10_links_28
  refine R_iload (i := 4) dX10_links_31 rfl ?_
  refine R_aload_n (i := 1) dX10_links_33 rfl rfl ?_
  refine R_callSi (ctX10_link l Ω x4 k1 hL1 _ _ (hit_mono (hit_bd h) (fun r8 σ9 h => ?_))) okX10_link mw_1539 rfl rfl (Nat.le_of_ble_eq_true rfl) rfl rfl ⟨by decide, by decide⟩ ⟨Nat.zero_le _, Nat.zero_le _⟩ dX10_links_34
  obtain ⟨hb, h⟩ := hit_bnd h
  refine R_iast hL1 (cE_66 Ω k1) hb dX10_links_37 ?_
  refine R_st h (fun σ10 h => ?_)
  refine R_aload_n (i := 1) dX10_links_38 rfl rfl ?_
  refine R_callSv (ctX10_sifts l Ω k1 hL1 _ _ (hit_mono (hit_bd h) (fun r11 σ12 h => ?_))) okX10_sifts mw_1504 rfl rfl (Nat.le_of_ble_eq_true rfl) rfl rfl ⟨by decide, by decide⟩ ⟨Nat.zero_le _, Nat.zero_le _⟩ dX10_links_39
  refine R_aload_n (i := 1) dX10_links_42 rfl rfl ?_
  refine R_iload (i := 5) dX10_links_43 rfl ?_
  refine R_iload_n (i := 3) dX10_links_45 rfl rfl ?_
  refine R_callSv (ctX10_keeps l Ω k1 r1 x3 hL1 _ _ (hit_mono (hit_bd h) (fun r13 σ14 h => ?_))) okX10_keeps mw_1510 rfl rfl (Nat.le_of_ble_eq_true rfl) rfl rfl ⟨by decide, by decide⟩ ⟨Nat.zero_le _, Nat.zero_le _⟩ dX10_links_46
  exact R_vret dX10_links_49 rfl h
set_option maxRecDepth 100000 in
set_option maxHeartbeats 4000000 in
theorem rsX10_tells_L11 {l : Launch} {Ω : rO} (hW : WF Ω) (k1 : Nat) (x2 : Int32) (x3 : Int32) (hL0 : oL Ω 10 0) (hL1 : oL Ω 66 k1) (σ : rS) {K : Int32 → rS → Prop} {K0 : (Int32 ⊕ Unit) → rS → Prop} (hC : ∀ (x3 : Int32) (σ : rS), K0 (.inl x3) σ → Run l Ω cX10_tells RX10 4 none rmX10_tells K 11 [some (rf Ω 10 0), some (rf Ω 66 k1), some (.int x2), some (.int x3)] [] σ) (hE0 : ∀ (e : Unit) (σ : rS), K0 (.inr e) σ → Run l Ω cX10_tells RX10 4 none rmX10_tells K 42 [some (rf Ω 10 0), some (rf Ω 66 k1), some (.int x2), none] [] σ) (h : hit (fX10_tells_L11 k1 x2 x3 σ) K0) : Run l Ω cX10_tells RX10 4 none rmX10_tells K 11 [some (rf Ω 10 0), some (rf Ω 66 k1), some (.int x2), some (.int x3)] [] σ := by
  unfold fX10_tells_L11 at h
  refine R_iload_n (i := 3) dX10_tells_11 rfl rfl ?_
  refine R_aload_n (i := 1) dX10_tells_12 rfl rfl ?_
  refine R_sipush (v := 1242) dX10_tells_13 rfl ?_
  refine R_iald hL1 (cE_66 Ω k1 _) (vin 1242 1554 rfl) dX10_tells_16 ?_
  refine R_icmp_ge (tgt := 42) dX10_tells_17 (by decide) (fun hc => ?_) (fun hc => ?_)
  · have h := hit_f h hc
    refine R_drop (lv2 := [some (rf Ω 10 0), some (rf Ω 66 k1), some (.int x2), none]) 3 rfl ?_
    exact hE0 () σ h
  · have h := hit_t h hc
    refine R_aload_n (i := 1) dX10_tells_20 rfl rfl ?_
    refine R_sipush (v := 1242) dX10_tells_21 rfl ?_
    refine R_iload_n (i := 3) dX10_tells_24 rfl rfl ?_
    refine R_iadd dX10_tells_25 ?_
    refine R_aload_n (i := 1) dX10_tells_26 rfl rfl ?_
    refine R_sipush (v := 1242) dX10_tells_27 rfl ?_
    refine R_iload_n (i := 3) dX10_tells_30 rfl rfl ?_
    refine R_iadd dX10_tells_31 ?_
    refine R_iconst (v := 1) dX10_tells_32 rfl ?_
    refine R_iadd dX10_tells_33 ?_
    obtain ⟨hb, h⟩ := hit_bnd h
    refine R_iald hL1 (cE_66 Ω k1 _) hb dX10_tells_34 ?_
    obtain ⟨hb, h⟩ := hit_bnd h
    refine R_iast hL1 (cE_66 Ω k1) hb dX10_tells_35 ?_
    refine R_st h (fun σ2 h => ?_)
    refine R_iinc (v := x3 + 1) (lv2 := [some (rf Ω 10 0), some (rf Ω 66 k1), some (.int x2), some (.int (x3 + 1))]) dX10_tells_36 rfl rfl (by decide) rfl rfl ?_
    refine R_goto (tgt := 11) dX10_tells_39 (by decide) ?_
    exact hC (x3 + 1) σ2 h
set_option maxRecDepth 100000 in
set_option maxHeartbeats 4000000 in
theorem rlX10_tells_L11 {l : Launch} {Ω : rO} (hW : WF Ω) (k1 : Nat) (x2 : Int32) (hL0 : oL Ω 10 0) (hL1 : oL Ω 66 k1) {K : Int32 → rS → Prop} {KE : Unit → rS → Prop} (hE0 : ∀ (e : Unit) (σ : rS), KE e σ → Run l Ω cX10_tells RX10 4 none rmX10_tells K 42 [some (rf Ω 10 0), some (rf Ω 66 k1), some (.int x2), none] [] σ) : ∀ (n : Nat) (x3 : Int32) (σ : rS), hit (lp (fun (x : Int32) σ => fX10_tells_L11 k1 x2 x σ) n x3 σ) KE → Run l Ω cX10_tells RX10 4 none rmX10_tells K 11 [some (rf Ω 10 0), some (rf Ω 66 k1), some (.int x2), some (.int x3)] [] σ := by
  intro n
  induction n with
  | zero => intro x3 σ h; exact (h : False).elim
  | succ n ih =>
    intro x3 σ h
    exact rsX10_tells_L11 hW k1 x2 x3 hL0 hL1 σ (fun x3 σ h => ih x3 σ h) (fun e σ h => hE0 e σ h) (hit_lp h)
set_option maxRecDepth 100000 in
set_option maxHeartbeats 4000000 in
theorem ctX10_tells (l : Launch) (Ω : rO) (k1 : Nat) (x2 : Int32) (hL0 : oL Ω 10 0) (hL1 : oL Ω 66 k1) (σ : rS) (K : Int32 → rS → Prop) (h : hit (fX10_tells k1 x2 σ) K) : Ct l Ω yX10_tells cX10_tells 4 none rmX10_tells [rf Ω 10 0, rf Ω 66 k1, .int x2] σ K := by
  refine Ct.of (own := RX10) (lv := [some (rf Ω 10 0), some (rf Ω 66 k1), some (.int x2), none]) (by decide) rfl (Nat.le_of_ble_eq_true rfl) rfl (fun hW => ?_)
  unfold fX10_tells at h
  refine R_aload_n (i := 0) dX10_tells_0 rfl rfl ?_
  refine R_aload_n (i := 1) dX10_tells_1 rfl rfl ?_
  refine R_sipush (v := 1243) dX10_tells_2 rfl ?_
  refine R_iald hL1 (cE_66 Ω k1 _) (vin 1243 1554 rfl) dX10_tells_5 ?_
  refine R_put poX10_250 hL0 (cE_10 Ω 0 _) (cP_10_28 Ω 0 _ _) (Nat.le_of_ble_eq_true rfl) dX10_tells_6 ?_
  refine R_st h (fun σ1 h => ?_)
  refine R_iconst (v := 1) dX10_tells_9 rfl ?_
  refine R_istore_n (lv2 := [some (rf Ω 10 0), some (rf Ω 66 k1), some (.int x2), some (.int 1)]) dX10_tells_10 rfl (by decide) rfl rfl ?_
  refine rlX10_tells_L11 hW k1 x2 hL0 hL1 ?_ fu 1 σ1 (hit_bd h)
  · intro e4 σ3 h
    try dsimp only at h
    refine R_aload_n (i := 1) dX10_tells_42 rfl rfl ?_
    refine R_sipush (v := 1242) dX10_tells_43 rfl ?_
    refine R_dup2 dX10_tells_46 rfl rfl ?_
    refine R_iald hL1 (cE_66 Ω k1 _) (vin 1242 1554 rfl) dX10_tells_47 ?_
    refine R_iconst (v := 1) dX10_tells_48 rfl ?_
    refine R_isub dX10_tells_49 ?_
    refine R_iast hL1 (cE_66 Ω k1) (vin 1242 1554 rfl) dX10_tells_50 ?_
    refine R_st h (fun σ5 h => ?_)
    refine R_aload_n (i := 1) dX10_tells_51 rfl rfl ?_
    refine R_aload_n (i := 1) dX10_tells_52 rfl rfl ?_
    refine R_aload_n (i := 0) dX10_tells_53 rfl rfl ?_
    refine R_get foX10_250 hL0 (cE_10 Ω 0 _) rfl dX10_tells_54 ?_
    refine R_callSi (ctX10_spotOf_ l Ω k1 (σ5 10 0 28) hL1 _ _ (hit_mono (hit_bd h) (fun r6 σ7 h => ?_))) okX10_spotOf_ mw_1432 rfl rfl (Nat.le_of_ble_eq_true rfl) rfl rfl ⟨by decide, by decide⟩ ⟨Nat.zero_le _, Nat.zero_le _⟩ dX10_tells_57
    refine R_iconst (v := 1) dX10_tells_60 rfl ?_
    refine R_callSi (ctX10_cell l Ω r6 1 _ _ (hit_mono (hit_bd h) (fun r8 σ9 h => ?_))) okX10_cell mw_1471 rfl rfl (Nat.le_of_ble_eq_true rfl) rfl rfl ⟨by decide, by decide⟩ ⟨Nat.zero_le _, Nat.zero_le _⟩ dX10_tells_61
    refine R_iconst (v := 0) dX10_tells_64 rfl ?_
    obtain ⟨hb, h⟩ := hit_bnd h
    refine R_iast hL1 (cE_66 Ω k1) hb dX10_tells_65 ?_
    refine R_st h (fun σ10 h => ?_)
    refine R_iload_n (i := 2) dX10_tells_66 rfl rfl ?_
    refine R_bipush (v := 8) dX10_tells_67 rfl ?_
    refine R_icmp_ge (tgt := 83) dX10_tells_69 (by decide) (fun hc => ?_) (fun hc => ?_)
    · have h := hit_f h hc
      exact R_vret dX10_tells_83 rfl h
    · have h := hit_t h hc
      refine R_aload_n (i := 1) dX10_tells_72 rfl rfl ?_
      refine R_sipush (v := 881) dX10_tells_73 rfl ?_
      refine R_iload_n (i := 2) dX10_tells_76 rfl rfl ?_
      refine R_iadd dX10_tells_77 ?_
      refine R_aload_n (i := 0) dX10_tells_78 rfl rfl ?_
      refine R_get foX10_250 hL0 (cE_10 Ω 0 _) rfl dX10_tells_79 ?_
      obtain ⟨hb, h⟩ := hit_bnd h
      refine R_iast hL1 (cE_66 Ω k1) hb dX10_tells_82 ?_
      refine R_st h (fun σ11 h => ?_)
      exact R_vret dX10_tells_83 rfl h
set_option maxRecDepth 100000 in
set_option maxHeartbeats 4000000 in
theorem rsX10_does_L241 {l : Launch} {Ω : rO} (hW : WF Ω) (k1 : Nat) (x8 : Int32) (hL0 : oL Ω 10 0) (hL1 : oL Ω 66 k1) (σ : rS) {K : Int32 → rS → Prop} {K0 : (Int32 ⊕ Unit) → rS → Prop} (hC : ∀ (x8 : Int32) (σ : rS), K0 (.inl x8) σ → Run l Ω cX10_does RX10 9 (some .int) rmX10_does K 241 [some (rf Ω 10 0), some (rf Ω 66 k1), none, none, none, none, none, none, some (.int x8)] [] σ) (hE0 : ∀ (e : Unit) (σ : rS), K0 (.inr e) σ → Run l Ω cX10_does RX10 9 (some .int) rmX10_does K 275 [some (rf Ω 10 0), some (rf Ω 66 k1), none, none, none, none, none, none, none] [] σ) (h : hit (fX10_does_L241 k1 x8 σ) K0) : Run l Ω cX10_does RX10 9 (some .int) rmX10_does K 241 [some (rf Ω 10 0), some (rf Ω 66 k1), none, none, none, none, none, none, some (.int x8)] [] σ := by
  unfold fX10_does_L241 at h
  refine R_iload (i := 8) dX10_does_241 rfl ?_
  refine R_aload_n (i := 1) dX10_does_243 rfl rfl ?_
  refine R_sipush (v := 1323) dX10_does_244 rfl ?_
  refine R_iald hL1 (cE_66 Ω k1 _) (vin 1323 1554 rfl) dX10_does_247 ?_
  refine R_icmp_ge (tgt := 275) dX10_does_248 (by decide) (fun hc => ?_) (fun hc => ?_)
  · have h := hit_f h hc
    refine R_drop (lv2 := [some (rf Ω 10 0), some (rf Ω 66 k1), none, none, none, none, none, none, none]) 8 rfl ?_
    exact hE0 () σ h
  · have h := hit_t h hc
    refine R_aload_n (i := 1) dX10_does_251 rfl rfl ?_
    refine R_sipush (v := 1323) dX10_does_252 rfl ?_
    refine R_iload (i := 8) dX10_does_255 rfl ?_
    refine R_iadd dX10_does_257 ?_
    refine R_aload_n (i := 1) dX10_does_258 rfl rfl ?_
    refine R_sipush (v := 1323) dX10_does_259 rfl ?_
    refine R_iload (i := 8) dX10_does_262 rfl ?_
    refine R_iadd dX10_does_264 ?_
    refine R_iconst (v := 1) dX10_does_265 rfl ?_
    refine R_iadd dX10_does_266 ?_
    obtain ⟨hb, h⟩ := hit_bnd h
    refine R_iald hL1 (cE_66 Ω k1 _) hb dX10_does_267 ?_
    obtain ⟨hb, h⟩ := hit_bnd h
    refine R_iast hL1 (cE_66 Ω k1) hb dX10_does_268 ?_
    refine R_st h (fun σ26 h => ?_)
    refine R_iinc (v := x8 + 1) (lv2 := [some (rf Ω 10 0), some (rf Ω 66 k1), none, none, none, none, none, none, some (.int (x8 + 1))]) dX10_does_269 rfl rfl (by decide) rfl rfl ?_
    refine R_goto (tgt := 241) dX10_does_272 (by decide) ?_
    exact hC (x8 + 1) σ26 h
set_option maxRecDepth 100000 in
set_option maxHeartbeats 4000000 in
theorem rlX10_does_L241 {l : Launch} {Ω : rO} (hW : WF Ω) (k1 : Nat) (hL0 : oL Ω 10 0) (hL1 : oL Ω 66 k1) {K : Int32 → rS → Prop} {KE : Unit → rS → Prop} (hE0 : ∀ (e : Unit) (σ : rS), KE e σ → Run l Ω cX10_does RX10 9 (some .int) rmX10_does K 275 [some (rf Ω 10 0), some (rf Ω 66 k1), none, none, none, none, none, none, none] [] σ) : ∀ (n : Nat) (x8 : Int32) (σ : rS), hit (lp (fun (x : Int32) σ => fX10_does_L241 k1 x σ) n x8 σ) KE → Run l Ω cX10_does RX10 9 (some .int) rmX10_does K 241 [some (rf Ω 10 0), some (rf Ω 66 k1), none, none, none, none, none, none, some (.int x8)] [] σ := by
  intro n
  induction n with
  | zero => intro x8 σ h; exact (h : False).elim
  | succ n ih =>
    intro x8 σ h
    exact rsX10_does_L241 hW k1 x8 hL0 hL1 σ (fun x8 σ h => ih x8 σ h) (fun e σ h => hE0 e σ h) (hit_lp h)
set_option maxRecDepth 100000 in
set_option maxHeartbeats 4000000 in
theorem rnX10_does_j45 {l : Launch} {Ω : rO} (hW : WF Ω) (k1 : Nat) (x2 : Int32) (x3 : Int32) (x4 : Int32) (x5 : Int32) (x6 : Int32) (z0 : Int32) (hL0 : oL Ω 10 0) (hL1 : oL Ω 66 k1) (hz1 : oL Ω 10 0) (σ : rS) {K : Int32 → rS → Prop}  (h : hit (fX10_does_j45 k1 x2 x3 x4 x5 x6 z0 σ) K) : Run l Ω cX10_does RX10 9 (some .int) rmX10_does K 45 [some (rf Ω 10 0), some (rf Ω 66 k1), some (.int x2), some (.int x3), some (.int x4), some (.int x5), some (.int x6), none, none] [.int z0, rf Ω 10 0] σ := by
  unfold fX10_does_j45 at h
  refine R_put poX10_300 hz1 (cE_10 Ω 0 _) (cP_10_30 Ω 0 _ _) (Nat.le_of_ble_eq_true rfl) dX10_does_45 ?_
  refine R_st h (fun σ3 h => ?_)
  refine R_iload_n (i := 2) dX10_does_48 rfl rfl ?_
  by_cases hs0 : x2 = 0
  · have h := hit_t h hs0
    refine R_tableIn (tgt := 92) dX10_does_49 (by rw [hs0]; decide) (by rw [hs0]; decide) (by rw [hs0]; rfl) (by decide) ?_
    refine R_aload_n (i := 0) dX10_does_92 rfl rfl ?_
    refine R_aload_n (i := 1) dX10_does_93 rfl rfl ?_
    refine R_iload_n (i := 3) dX10_does_94 rfl rfl ?_
    refine R_iload (i := 4) dX10_does_95 rfl ?_
    refine R_iload (i := 5) dX10_does_97 rfl ?_
    refine R_iload (i := 6) dX10_does_99 rfl ?_
    refine R_callVi (ctX10_makes l Ω k1 x3 x4 x5 x6 hL0 hL1 _ _ (hit_mono (hit_bd h) (fun r4 σ5 h => ?_))) okX10_makes mw_1438 hL0 (cE_10 Ω 0 _) rfl rfl (Nat.le_of_ble_eq_true rfl) rfl rfl ⟨by decide, by decide⟩ ⟨Nat.zero_le _, Nat.zero_le _⟩ dX10_does_101
    refine R_if_eq (tgt := 111) dX10_does_104 (by decide) (fun hc => ?_) (fun hc => ?_)
    · have h := hit_t h hc
      refine R_iconst (v := 3) dX10_does_111 rfl ?_
      exact R_iret dX10_does_112 rfl h
    · have h := hit_f h hc
      refine R_iconst (v := (-1)) dX10_does_107 rfl ?_
      refine R_goto (tgt := 112) dX10_does_108 (by decide) ?_
      exact R_iret dX10_does_112 rfl h
  · have h := hit_f h hs0
    by_cases hs1 : x2 = 1
    · have h := hit_t h hs1
      refine R_tableIn (tgt := 113) dX10_does_49 (by rw [hs1]; decide) (by rw [hs1]; decide) (by rw [hs1]; rfl) (by decide) ?_
      refine R_aload_n (i := 0) dX10_does_113 rfl rfl ?_
      refine R_aload_n (i := 1) dX10_does_114 rfl rfl ?_
      refine R_iload_n (i := 3) dX10_does_115 rfl rfl ?_
      refine R_iload (i := 4) dX10_does_116 rfl ?_
      refine R_iload (i := 5) dX10_does_118 rfl ?_
      refine R_callVv (ctX10_links l Ω k1 x3 x4 x5 hL0 hL1 _ _ (hit_mono (hit_bd h) (fun r6 σ7 h => ?_))) okX10_links mw_1535 hL0 (cE_10 Ω 0 _) rfl rfl (Nat.le_of_ble_eq_true rfl) rfl rfl ⟨by decide, by decide⟩ ⟨Nat.zero_le _, Nat.zero_le _⟩ dX10_does_120
      refine R_iconst (v := (-1)) dX10_does_123 rfl ?_
      exact R_iret dX10_does_124 rfl h
    · have h := hit_f h hs1
      by_cases hs2 : x2 = 2
      · have h := hit_t h hs2
        refine R_tableIn (tgt := 125) dX10_does_49 (by rw [hs2]; decide) (by rw [hs2]; decide) (by rw [hs2]; rfl) (by decide) ?_
        refine R_aload_n (i := 0) dX10_does_125 rfl rfl ?_
        refine R_aload_n (i := 1) dX10_does_126 rfl rfl ?_
        refine R_aload_n (i := 1) dX10_does_127 rfl rfl ?_
        refine R_iload (i := 4) dX10_does_128 rfl ?_
        refine R_callSi (ctX10_rootSpot l Ω k1 x4 hL1 _ _ (hit_mono (hit_bd h) (fun r8 σ9 h => ?_))) okX10_rootSpot mw_1429 rfl rfl (Nat.le_of_ble_eq_true rfl) rfl rfl ⟨by decide, by decide⟩ ⟨Nat.zero_le _, Nat.zero_le _⟩ dX10_does_130
        refine R_bipush (v := 7) dX10_does_133 rfl ?_
        refine R_iload (i := 5) dX10_does_135 rfl ?_
        refine R_iadd dX10_does_137 ?_
        refine R_callSi (ctX10_of l Ω k1 r8 (7 + x5) hL1 _ _ (hit_mono (hit_bd h) (fun r10 σ11 h => ?_))) okX10_of mw_1435 rfl rfl (Nat.le_of_ble_eq_true rfl) rfl rfl ⟨by decide, by decide⟩ ⟨Nat.zero_le _, Nat.zero_le _⟩ dX10_does_138
        refine R_put poX10_250 hL0 (cE_10 Ω 0 _) (cP_10_28 Ω 0 _ _) (Nat.le_of_ble_eq_true rfl) dX10_does_141 ?_
        refine R_st h (fun σ12 h => ?_)
        refine R_aload_n (i := 1) dX10_does_144 rfl rfl ?_
        refine R_sipush (v := 881) dX10_does_145 rfl ?_
        refine R_iload_n (i := 3) dX10_does_148 rfl rfl ?_
        refine R_iadd dX10_does_149 ?_
        refine R_aload_n (i := 0) dX10_does_150 rfl rfl ?_
        refine R_get foX10_250 hL0 (cE_10 Ω 0 _) rfl dX10_does_151 ?_
        obtain ⟨hb, h⟩ := hit_bnd h
        refine R_iast hL1 (cE_66 Ω k1) hb dX10_does_154 ?_
        refine R_st h (fun σ13 h => ?_)
        refine R_iconst (v := (-1)) dX10_does_155 rfl ?_
        exact R_iret dX10_does_156 rfl h
      · have h := hit_f h hs2
        by_cases hs3 : x2 = 3
        · have h := hit_t h hs3
          refine R_tableIn (tgt := 157) dX10_does_49 (by rw [hs3]; decide) (by rw [hs3]; decide) (by rw [hs3]; rfl) (by decide) ?_
          refine R_aload_n (i := 0) dX10_does_157 rfl rfl ?_
          refine R_aload_n (i := 1) dX10_does_158 rfl rfl ?_
          refine R_sipush (v := 881) dX10_does_159 rfl ?_
          refine R_iload_n (i := 3) dX10_does_162 rfl rfl ?_
          refine R_iadd dX10_does_163 ?_
          obtain ⟨hb, h⟩ := hit_bnd h
          refine R_iald hL1 (cE_66 Ω k1 _) hb dX10_does_164 ?_
          refine R_put poX10_250 hL0 (cE_10 Ω 0 _) (cP_10_28 Ω 0 _ _) (Nat.le_of_ble_eq_true rfl) dX10_does_165 ?_
          refine R_st h (fun σ14 h => ?_)
          refine R_aload_n (i := 1) dX10_does_168 rfl rfl ?_
          refine R_sipush (v := 881) dX10_does_169 rfl ?_
          refine R_iload_n (i := 3) dX10_does_172 rfl rfl ?_
          refine R_iadd dX10_does_173 ?_
          refine R_iconst (v := 0) dX10_does_174 rfl ?_
          obtain ⟨hb, h⟩ := hit_bnd h
          refine R_iast hL1 (cE_66 Ω k1) hb dX10_does_175 ?_
          refine R_st h (fun σ15 h => ?_)
          refine R_iconst (v := (-1)) dX10_does_176 rfl ?_
          exact R_iret dX10_does_177 rfl h
        · have h := hit_f h hs3
          by_cases hs4 : x2 = 4
          · have h := hit_t h hs4
            refine R_tableIn (tgt := 178) dX10_does_49 (by rw [hs4]; decide) (by rw [hs4]; decide) (by rw [hs4]; rfl) (by decide) ?_
            refine R_aload_n (i := 0) dX10_does_178 rfl rfl ?_
            refine R_aload_n (i := 1) dX10_does_179 rfl rfl ?_
            refine R_callVi (ctX10_minors l Ω k1 hL0 hL1 _ _ (hit_mono (hit_bd h) (fun r16 σ17 h => ?_))) okX10_minors mw_1452 hL0 (cE_10 Ω 0 _) rfl rfl (Nat.le_of_ble_eq_true rfl) rfl rfl ⟨by decide, by decide⟩ ⟨Nat.zero_le _, Nat.zero_le _⟩ dX10_does_180
            refine R_if_ne (tgt := 188) dX10_does_183 (by decide) (fun hc => ?_) (fun hc => ?_)
            · have h := hit_f h hc
              refine R_aload_n (i := 0) dX10_does_188 rfl rfl ?_
              refine R_aload_n (i := 0) dX10_does_189 rfl rfl ?_
              refine R_get foX10_250 hL0 (cE_10 Ω 0 _) rfl dX10_does_190 ?_
              refine R_put poX10_300 hL0 (cE_10 Ω 0 _) (cP_10_30 Ω 0 _ _) (Nat.le_of_ble_eq_true rfl) dX10_does_193 ?_
              refine R_st h (fun σ18 h => ?_)
              refine R_iconst (v := (-1)) dX10_does_196 rfl ?_
              exact R_iret dX10_does_197 rfl h
            · have h := hit_t h hc
              refine R_iconst (v := 3) dX10_does_186 rfl ?_
              exact R_iret dX10_does_187 rfl h
          · have h := hit_f h hs4
            by_cases hs5 : x2 = 5
            · have h := hit_t h hs5
              refine R_tableIn (tgt := 198) dX10_does_49 (by rw [hs5]; decide) (by rw [hs5]; decide) (by rw [hs5]; rfl) (by decide) ?_
              refine R_aload_n (i := 0) dX10_does_198 rfl rfl ?_
              refine R_aload_n (i := 1) dX10_does_199 rfl rfl ?_
              refine R_callVv (ctX10_majors l Ω k1 hL0 hL1 _ _ (hit_mono (hit_bd h) (fun r19 σ20 h => ?_))) okX10_majors mw_1519 hL0 (cE_10 Ω 0 _) rfl rfl (Nat.le_of_ble_eq_true rfl) rfl rfl ⟨by decide, by decide⟩ ⟨Nat.zero_le _, Nat.zero_le _⟩ dX10_does_200
              refine R_aload_n (i := 0) dX10_does_203 rfl rfl ?_
              refine R_aload_n (i := 0) dX10_does_204 rfl rfl ?_
              refine R_get foX10_250 hL0 (cE_10 Ω 0 _) rfl dX10_does_205 ?_
              refine R_put poX10_300 hL0 (cE_10 Ω 0 _) (cP_10_30 Ω 0 _ _) (Nat.le_of_ble_eq_true rfl) dX10_does_208 ?_
              refine R_st h (fun σ21 h => ?_)
              refine R_iconst (v := (-1)) dX10_does_211 rfl ?_
              exact R_iret dX10_does_212 rfl h
            · have h := hit_f h hs5
              by_cases hs6 : x2 = 6
              · have h := hit_t h hs6
                refine R_tableIn (tgt := 213) dX10_does_49 (by rw [hs6]; decide) (by rw [hs6]; decide) (by rw [hs6]; rfl) (by decide) ?_
                refine R_aload_n (i := 0) dX10_does_213 rfl rfl ?_
                refine R_aload_n (i := 1) dX10_does_214 rfl rfl ?_
                refine R_iload_n (i := 3) dX10_does_215 rfl rfl ?_
                refine R_callVv (ctX10_tells l Ω k1 x3 hL0 hL1 _ _ (hit_mono (hit_bd h) (fun r22 σ23 h => ?_))) okX10_tells mw_1542 hL0 (cE_10 Ω 0 _) rfl rfl (Nat.le_of_ble_eq_true rfl) rfl rfl ⟨by decide, by decide⟩ ⟨Nat.zero_le _, Nat.zero_le _⟩ dX10_does_216
                refine R_aload_n (i := 0) dX10_does_219 rfl rfl ?_
                refine R_aload_n (i := 0) dX10_does_220 rfl rfl ?_
                refine R_get foX10_250 hL0 (cE_10 Ω 0 _) rfl dX10_does_221 ?_
                refine R_put poX10_300 hL0 (cE_10 Ω 0 _) (cP_10_30 Ω 0 _ _) (Nat.le_of_ble_eq_true rfl) dX10_does_224 ?_
                refine R_st h (fun σ24 h => ?_)
                refine R_iconst (v := (-1)) dX10_does_227 rfl ?_
                exact R_iret dX10_does_228 rfl h
              · have h := hit_f h hs6
                refine R_sw (tgt := 229) (lo := 0) (hi := 6) dX10_does_49 (fun z1 z2 => ?_) (by decide) ?_
                · have e : x2.toInt = 0 ∨ x2.toInt = 1 ∨ x2.toInt = 2 ∨ x2.toInt = 3 ∨ x2.toInt = 4 ∨ x2.toInt = 5 ∨ x2.toInt = 6 := by omega
                  rcases e with e | e | e | e | e | e | e
                  · exact absurd (Int32.toInt_inj.mp (e.trans (by decide : (0 : Int) = (0 : Int32).toInt))) hs0
                  · exact absurd (Int32.toInt_inj.mp (e.trans (by decide : (1 : Int) = (1 : Int32).toInt))) hs1
                  · exact absurd (Int32.toInt_inj.mp (e.trans (by decide : (2 : Int) = (2 : Int32).toInt))) hs2
                  · exact absurd (Int32.toInt_inj.mp (e.trans (by decide : (3 : Int) = (3 : Int32).toInt))) hs3
                  · exact absurd (Int32.toInt_inj.mp (e.trans (by decide : (4 : Int) = (4 : Int32).toInt))) hs4
                  · exact absurd (Int32.toInt_inj.mp (e.trans (by decide : (5 : Int) = (5 : Int32).toInt))) hs5
                  · exact absurd (Int32.toInt_inj.mp (e.trans (by decide : (6 : Int) = (6 : Int32).toInt))) hs6
                refine R_aload_n (i := 0) dX10_does_229 rfl rfl ?_
                refine R_aload_n (i := 1) dX10_does_230 rfl rfl ?_
                refine R_sipush (v := 1324) dX10_does_231 rfl ?_
                refine R_iald hL1 (cE_66 Ω k1 _) (vin 1324 1554 rfl) dX10_does_234 ?_
                refine R_put poX10_250 hL0 (cE_10 Ω 0 _) (cP_10_28 Ω 0 _ _) (Nat.le_of_ble_eq_true rfl) dX10_does_235 ?_
                refine R_st h (fun σ25 h => ?_)
                refine R_iconst (v := 1) dX10_does_238 rfl ?_
                refine R_istore (lv2 := [some (rf Ω 10 0), some (rf Ω 66 k1), some (.int x2), some (.int x3), some (.int x4), some (.int x5), some (.int x6), none, some (.int 1)]) dX10_does_239 (by decide) rfl rfl ?_
                refine R_drop (lv2 := [some (rf Ω 10 0), some (rf Ω 66 k1), none, some (.int x3), some (.int x4), some (.int x5), some (.int x6), none, some (.int 1)]) 2 rfl ?_
                refine R_drop (lv2 := [some (rf Ω 10 0), some (rf Ω 66 k1), none, none, some (.int x4), some (.int x5), some (.int x6), none, some (.int 1)]) 3 rfl ?_
                refine R_drop (lv2 := [some (rf Ω 10 0), some (rf Ω 66 k1), none, none, none, some (.int x5), some (.int x6), none, some (.int 1)]) 4 rfl ?_
                refine R_drop (lv2 := [some (rf Ω 10 0), some (rf Ω 66 k1), none, none, none, none, some (.int x6), none, some (.int 1)]) 5 rfl ?_
                refine R_drop (lv2 := [some (rf Ω 10 0), some (rf Ω 66 k1), none, none, none, none, none, none, some (.int 1)]) 6 rfl ?_
                refine rlX10_does_L241 hW k1 hL0 hL1 ?_ fu 1 σ25 (hit_bd h)
                · intro e28 σ27 h
                  try dsimp only at h
                  refine R_aload_n (i := 1) dX10_does_275 rfl rfl ?_
                  refine R_sipush (v := 1323) dX10_does_276 rfl ?_
                  refine R_dup2 dX10_does_279 rfl rfl ?_
                  refine R_iald hL1 (cE_66 Ω k1 _) (vin 1323 1554 rfl) dX10_does_280 ?_
                  refine R_iconst (v := 1) dX10_does_281 rfl ?_
                  refine R_isub dX10_does_282 ?_
                  refine R_iast hL1 (cE_66 Ω k1) (vin 1323 1554 rfl) dX10_does_283 ?_
                  refine R_st h (fun σ29 h => ?_)
                  refine R_aload_n (i := 0) dX10_does_284 rfl rfl ?_
                  refine R_aload_n (i := 0) dX10_does_285 rfl rfl ?_
                  refine R_get foX10_250 hL0 (cE_10 Ω 0 _) rfl dX10_does_286 ?_
                  refine R_put poX10_300 hL0 (cE_10 Ω 0 _) (cP_10_30 Ω 0 _ _) (Nat.le_of_ble_eq_true rfl) dX10_does_289 ?_
                  refine R_st h (fun σ30 h => ?_)
                  refine R_iconst (v := (-1)) dX10_does_292 rfl ?_
                  exact R_iret dX10_does_293 rfl h
set_option maxRecDepth 100000 in
set_option maxHeartbeats 4000000 in
theorem rnX10_does_j44 {l : Launch} {Ω : rO} (hW : WF Ω) (k1 : Nat) (x2 : Int32) (x3 : Int32) (x4 : Int32) (x5 : Int32) (x6 : Int32) (hL0 : oL Ω 10 0) (hL1 : oL Ω 66 k1) (hz0 : oL Ω 10 0) (σ : rS) {K : Int32 → rS → Prop}  (h : hit (fX10_does_j44 k1 x2 x3 x4 x5 x6 σ) K) : Run l Ω cX10_does RX10 9 (some .int) rmX10_does K 44 [some (rf Ω 10 0), some (rf Ω 66 k1), some (.int x2), some (.int x3), some (.int x4), some (.int x5), some (.int x6), none, none] [rf Ω 10 0] σ := by
  unfold fX10_does_j44 at h
  refine R_iconst (v := 0) dX10_does_44 rfl ?_
  exact rnX10_does_j45 hW k1 x2 x3 x4 x5 x6 0 hL0 hL1 hz0 σ  h
set_option maxRecDepth 100000 in
set_option maxHeartbeats 4000000 in
theorem ctX10_does (l : Launch) (Ω : rO) (k1 : Nat) (x2 : Int32) (x3 : Int32) (x4 : Int32) (x5 : Int32) (x6 : Int32) (hL0 : oL Ω 10 0) (hL1 : oL Ω 66 k1) (σ : rS) (K : Int32 → rS → Prop) (h : hit (fX10_does k1 x2 x3 x4 x5 x6 σ) K) : Ct l Ω yX10_does cX10_does 9 (some .int) rmX10_does [rf Ω 10 0, rf Ω 66 k1, .int x2, .int x3, .int x4, .int x5, .int x6] σ K := by
  refine Ct.of (own := RX10) (lv := [some (rf Ω 10 0), some (rf Ω 66 k1), some (.int x2), some (.int x3), some (.int x4), some (.int x5), some (.int x6), none, none]) (by decide) rfl (Nat.le_of_ble_eq_true rfl) rfl (fun hW => ?_)
  unfold fX10_does at h
  refine R_aload_n (i := 0) dX10_does_0 rfl rfl ?_
  refine R_aload_n (i := 1) dX10_does_1 rfl rfl ?_
  refine R_iload_n (i := 2) dX10_does_2 rfl rfl ?_
  refine R_iload_n (i := 3) dX10_does_3 rfl rfl ?_
  refine R_iload (i := 4) dX10_does_4 rfl ?_
  refine R_iload (i := 5) dX10_does_6 rfl ?_
  refine R_iload (i := 6) dX10_does_8 rfl ?_
  refine R_callVi (ctX10_stops l Ω k1 x2 x3 x4 x5 x6 hL0 hL1 _ _ (hit_mono (hit_bd h) (fun r1 σ2 h => ?_))) okX10_stops mw_1413 hL0 (cE_10 Ω 0 _) rfl rfl (Nat.le_of_ble_eq_true rfl) rfl rfl ⟨by decide, by decide⟩ ⟨Nat.zero_le _, Nat.zero_le _⟩ dX10_does_10
  refine R_istore (lv2 := [some (rf Ω 10 0), some (rf Ω 66 k1), some (.int x2), some (.int x3), some (.int x4), some (.int x5), some (.int x6), some (.int r1), none]) dX10_does_13 (by decide) rfl rfl ?_
  refine R_iload (i := 7) dX10_does_15 rfl ?_
  refine R_iconst (v := (-1)) dX10_does_17 rfl ?_
  refine R_icmp_eq (tgt := 24) dX10_does_18 (by decide) (fun hc => ?_) (fun hc => ?_)
  · have h := hit_t h hc
    refine R_aload_n (i := 0) dX10_does_24 rfl rfl ?_
    refine R_iload_n (i := 2) dX10_does_25 rfl rfl ?_
    refine R_if_le (tgt := 44) dX10_does_26 (by decide) (fun hc => ?_) (fun hc => ?_)
    · have h := hit_f h hc
      refine R_drop (lv2 := [some (rf Ω 10 0), some (rf Ω 66 k1), some (.int x2), some (.int x3), some (.int x4), some (.int x5), some (.int x6), none, none]) 7 rfl ?_
      exact rnX10_does_j44 hW k1 x2 x3 x4 x5 x6 hL0 hL1 hL0 σ2  h
    · have h := hit_t h hc
      refine R_iload_n (i := 2) dX10_does_29 rfl rfl ?_
      refine R_iconst (v := 4) dX10_does_30 rfl ?_
      refine R_icmp_ge (tgt := 44) dX10_does_31 (by decide) (fun hc => ?_) (fun hc => ?_)
      · have h := hit_f h hc
        refine R_drop (lv2 := [some (rf Ω 10 0), some (rf Ω 66 k1), some (.int x2), some (.int x3), some (.int x4), some (.int x5), some (.int x6), none, none]) 7 rfl ?_
        exact rnX10_does_j44 hW k1 x2 x3 x4 x5 x6 hL0 hL1 hL0 σ2  h
      · have h := hit_t h hc
        refine R_aload_n (i := 1) dX10_does_34 rfl rfl ?_
        refine R_sipush (v := 881) dX10_does_35 rfl ?_
        refine R_iload_n (i := 3) dX10_does_38 rfl rfl ?_
        refine R_iadd dX10_does_39 ?_
        obtain ⟨hb, h⟩ := hit_bnd h
        refine R_iald hL1 (cE_66 Ω k1 _) hb dX10_does_40 ?_
        refine R_goto (tgt := 45) dX10_does_41 (by decide) ?_
        refine R_drop (lv2 := [some (rf Ω 10 0), some (rf Ω 66 k1), some (.int x2), some (.int x3), some (.int x4), some (.int x5), some (.int x6), none, none]) 7 rfl ?_
        exact rnX10_does_j45 hW k1 x2 x3 x4 x5 x6 (σ2 66 k1 (ix (881 + x3))) hL0 hL1 hL0 σ2  h
  · have h := hit_f h hc
    refine R_iload (i := 7) dX10_does_21 rfl ?_
    exact R_iret dX10_does_23 rfl h
set_option maxRecDepth 100000 in
set_option maxHeartbeats 4000000 in
theorem rnX10_remember_j35 {l : Launch} {Ω : rO} (hW : WF Ω) (hL0 : oL Ω 10 0) (σ : rS) {K : Int32 → rS → Prop}  (h : hit (fX10_remember_j35  σ) K) : Run l Ω cX10_remember RX10 1 none rmX10_remember K 35 [some (rf Ω 10 0)] [] σ := by
  unfold fX10_remember_j35 at h
  refine R_aload_n (i := 0) dX10_remember_35 rfl rfl ?_
  refine R_get foX10_32 hL0 (cE_10 Ω 0 _) rfl dX10_remember_36 ?_
  refine R_iconst (v := 0) dX10_remember_39 rfl ?_
  refine R_aload_n (i := 0) dX10_remember_40 rfl rfl ?_
  refine R_get foX10_42 hL0 (cE_10 Ω 0 _) rfl dX10_remember_41 ?_
  refine R_sipush (v := 1554) dX10_remember_44 rfl ?_
  refine R_aload_n (i := 0) dX10_remember_47 rfl rfl ?_
  refine R_get foX10_328 hL0 (cE_10 Ω 0 _) rfl dX10_remember_48 ?_
  refine R_aload_n (i := 0) dX10_remember_51 rfl rfl ?_
  refine R_get foX10_161 hL0 (cE_10 Ω 0 _) rfl dX10_remember_52 ?_
  refine R_iadd dX10_remember_55 ?_
  refine R_iconst (v := 1) dX10_remember_56 rfl ?_
  refine R_isub dX10_remember_57 ?_
  refine R_bipush (v := 40) dX10_remember_58 rfl ?_
  refine R_irem dX10_remember_60 (by decide) ?_
  refine R_imul dX10_remember_61 ?_
  refine R_callSv (ctX10_copyRow l Ω 66 1 1554 0 67 0 62160 (1554 * ((((σ 10 0 17) + (σ 10 0 18)) - 1) - (((σ 10 0 17) + (σ 10 0 18)) - 1) / 40 * 40)) (WF.kid hW 7 hL0 rfl) (cE_66 Ω 1) (WF.kid hW 10 hL0 rfl) (cE_67 Ω 0) _ _ (hit_mono (hit_bd h) (fun r2 σ3 h => ?_))) okX10_copyRow mw_1406 rfl rfl (Nat.le_of_ble_eq_true rfl) rfl rfl ⟨by decide, by decide⟩ ⟨Nat.zero_le _, Nat.zero_le _⟩ dX10_remember_62
  exact R_vret dX10_remember_65 rfl h
set_option maxRecDepth 100000 in
set_option maxHeartbeats 4000000 in
theorem ctX10_remember (l : Launch) (Ω : rO) (hL0 : oL Ω 10 0) (σ : rS) (K : Int32 → rS → Prop) (h : hit (fX10_remember  σ) K) : Ct l Ω yX10_remember cX10_remember 1 none rmX10_remember [rf Ω 10 0] σ K := by
  refine Ct.of (own := RX10) (lv := [some (rf Ω 10 0)]) (by decide) rfl (Nat.le_of_ble_eq_true rfl) rfl (fun hW => ?_)
  unfold fX10_remember at h
  refine R_aload_n (i := 0) dX10_remember_0 rfl rfl ?_
  refine R_get foX10_161 hL0 (cE_10 Ω 0 _) rfl dX10_remember_1 ?_
  refine R_bipush (v := 40) dX10_remember_4 rfl ?_
  refine R_icmp_ne (tgt := 25) dX10_remember_6 (by decide) (fun hc => ?_) (fun hc => ?_)
  · have h := hit_f h hc
    refine R_aload_n (i := 0) dX10_remember_25 rfl rfl ?_
    refine R_dup dX10_remember_26 rfl ?_
    refine R_get foX10_161 hL0 (cE_10 Ω 0 _) rfl dX10_remember_27 ?_
    refine R_iconst (v := 1) dX10_remember_30 rfl ?_
    refine R_iadd dX10_remember_31 ?_
    refine R_put poX10_161 hL0 (cE_10 Ω 0 _) (cP_10_18 Ω 0 _ _) (Nat.le_of_ble_eq_true rfl) dX10_remember_32 ?_
    refine R_st h (fun σ1 h => ?_)
    exact rnX10_remember_j35 hW hL0 σ1  h
  · have h := hit_t h hc
    refine R_aload_n (i := 0) dX10_remember_9 rfl rfl ?_
    refine R_aload_n (i := 0) dX10_remember_10 rfl rfl ?_
    refine R_get foX10_328 hL0 (cE_10 Ω 0 _) rfl dX10_remember_11 ?_
    refine R_iconst (v := 1) dX10_remember_14 rfl ?_
    refine R_iadd dX10_remember_15 ?_
    refine R_bipush (v := 40) dX10_remember_16 rfl ?_
    refine R_irem dX10_remember_18 (by decide) ?_
    refine R_put poX10_328 hL0 (cE_10 Ω 0 _) (cP_10_17 Ω 0 _ _) (Nat.le_of_ble_eq_true rfl) dX10_remember_19 ?_
    refine R_st h (fun σ4 h => ?_)
    refine R_goto (tgt := 35) dX10_remember_22 (by decide) ?_
    exact rnX10_remember_j35 hW hL0 σ4  h
set_option maxRecDepth 100000 in
set_option maxHeartbeats 4000000 in
theorem rnX10_notes_j62 {l : Launch} {Ω : rO} (hW : WF Ω) (x1 : Int32) (hL0 : oL Ω 10 0) (σ : rS) {K : Int32 → rS → Prop}  (h : hit (fX10_notes_j62 x1 σ) K) : Run l Ω cX10_notes RX10 3 none rmX10_notes K 62 [some (rf Ω 10 0), some (.int x1), none] [] σ := by
  unfold fX10_notes_j62 at h
  refine R_sipush (v := 1374) dX10_notes_62 rfl ?_
  refine R_iconst (v := 3) dX10_notes_65 rfl ?_
  refine R_aload_n (i := 0) dX10_notes_66 rfl rfl ?_
  refine R_get foX10_29 hL0 (cE_10 Ω 0 _) rfl dX10_notes_67 ?_
  refine R_sipush (v := 1373) dX10_notes_70 rfl ?_
  refine R_iald (WF.kid hW 6 hL0 rfl) (cE_66 Ω 0 _) (vin 1373 1554 rfl) dX10_notes_73 ?_
  refine R_imul dX10_notes_74 ?_
  refine R_iadd dX10_notes_75 ?_
  refine R_topi h (fun y1 h => ?_)
  refine R_istore_n (lv2 := [some (rf Ω 10 0), some (.int x1), some (.int y1)]) dX10_notes_76 rfl (by decide) rfl rfl ?_
  refine R_aload_n (i := 0) dX10_notes_77 rfl rfl ?_
  refine R_get foX10_29 hL0 (cE_10 Ω 0 _) rfl dX10_notes_78 ?_
  refine R_iload_n (i := 2) dX10_notes_81 rfl rfl ?_
  refine R_iload_n (i := 1) dX10_notes_82 rfl rfl ?_
  obtain ⟨hb, h⟩ := hit_bnd h
  refine R_iast (WF.kid hW 6 hL0 rfl) (cE_66 Ω 0) hb dX10_notes_83 ?_
  refine R_st h (fun σ2 h => ?_)
  refine R_aload_n (i := 0) dX10_notes_84 rfl rfl ?_
  refine R_get foX10_29 hL0 (cE_10 Ω 0 _) rfl dX10_notes_85 ?_
  refine R_iload_n (i := 2) dX10_notes_88 rfl rfl ?_
  refine R_iconst (v := 1) dX10_notes_89 rfl ?_
  refine R_iadd dX10_notes_90 ?_
  refine R_aload_n (i := 0) dX10_notes_91 rfl rfl ?_
  refine R_get foX10_300 hL0 (cE_10 Ω 0 _) rfl dX10_notes_92 ?_
  obtain ⟨hb, h⟩ := hit_bnd h
  refine R_iast (WF.kid hW 6 hL0 rfl) (cE_66 Ω 0) hb dX10_notes_95 ?_
  refine R_st h (fun σ3 h => ?_)
  refine R_aload_n (i := 0) dX10_notes_96 rfl rfl ?_
  refine R_get foX10_29 hL0 (cE_10 Ω 0 _) rfl dX10_notes_97 ?_
  refine R_iload_n (i := 2) dX10_notes_100 rfl rfl ?_
  refine R_iconst (v := 2) dX10_notes_101 rfl ?_
  refine R_iadd dX10_notes_102 ?_
  refine R_aload_n (i := 0) dX10_notes_103 rfl rfl ?_
  refine R_get foX10_29 hL0 (cE_10 Ω 0 _) rfl dX10_notes_104 ?_
  refine R_callSi (ctX10_cells l Ω 0 (WF.kid hW 6 hL0 rfl) _ _ (hit_mono (hit_bd h) (fun r4 σ5 h => ?_))) okX10_cells mw_1554 rfl rfl (Nat.le_of_ble_eq_true rfl) rfl rfl ⟨by decide, by decide⟩ ⟨Nat.zero_le _, Nat.zero_le _⟩ dX10_notes_107
  obtain ⟨hb, h⟩ := hit_bnd h
  refine R_iast (WF.kid hW 6 hL0 rfl) (cE_66 Ω 0) hb dX10_notes_110 ?_
  refine R_st h (fun σ6 h => ?_)
  refine R_aload_n (i := 0) dX10_notes_111 rfl rfl ?_
  refine R_get foX10_29 hL0 (cE_10 Ω 0 _) rfl dX10_notes_112 ?_
  refine R_sipush (v := 1373) dX10_notes_115 rfl ?_
  refine R_dup2 dX10_notes_118 rfl rfl ?_
  refine R_iald (WF.kid hW 6 hL0 rfl) (cE_66 Ω 0 _) (vin 1373 1554 rfl) dX10_notes_119 ?_
  refine R_iconst (v := 1) dX10_notes_120 rfl ?_
  refine R_iadd dX10_notes_121 ?_
  refine R_iast (WF.kid hW 6 hL0 rfl) (cE_66 Ω 0) (vin 1373 1554 rfl) dX10_notes_122 ?_
  refine R_st h (fun σ7 h => ?_)
  exact R_vret dX10_notes_123 rfl h
set_option maxRecDepth 100000 in
set_option maxHeartbeats 4000000 in
theorem rsX10_notes_L15 {l : Launch} {Ω : rO} (hW : WF Ω) (x1 : Int32) (x2 : Int32) (hL0 : oL Ω 10 0) (σ : rS) {K : Int32 → rS → Prop} {K0 : (Int32 ⊕ Unit) → rS → Prop} (hC : ∀ (x2 : Int32) (σ : rS), K0 (.inl x2) σ → Run l Ω cX10_notes RX10 3 none rmX10_notes K 15 [some (rf Ω 10 0), some (.int x1), some (.int x2)] [] σ) (hE0 : ∀ (e : Unit) (σ : rS), K0 (.inr e) σ → Run l Ω cX10_notes RX10 3 none rmX10_notes K 50 [some (rf Ω 10 0), some (.int x1), none] [] σ) (h : hit (fX10_notes_L15 x1 x2 σ) K0) : Run l Ω cX10_notes RX10 3 none rmX10_notes K 15 [some (rf Ω 10 0), some (.int x1), some (.int x2)] [] σ := by
  unfold fX10_notes_L15 at h
  refine R_iload_n (i := 2) dX10_notes_15 rfl rfl ?_
  refine R_sipush (v := 177) dX10_notes_16 rfl ?_
  refine R_icmp_gt (tgt := 50) dX10_notes_19 (by decide) (fun hc => ?_) (fun hc => ?_)
  · have h := hit_t h hc
    refine R_drop (lv2 := [some (rf Ω 10 0), some (.int x1), none]) 2 rfl ?_
    exact hE0 () σ h
  · have h := hit_f h hc
    refine R_aload_n (i := 0) dX10_notes_22 rfl rfl ?_
    refine R_get foX10_29 hL0 (cE_10 Ω 0 _) rfl dX10_notes_23 ?_
    refine R_sipush (v := 1373) dX10_notes_26 rfl ?_
    refine R_iload_n (i := 2) dX10_notes_29 rfl rfl ?_
    refine R_iadd dX10_notes_30 ?_
    refine R_aload_n (i := 0) dX10_notes_31 rfl rfl ?_
    refine R_get foX10_29 hL0 (cE_10 Ω 0 _) rfl dX10_notes_32 ?_
    refine R_sipush (v := 1373) dX10_notes_35 rfl ?_
    refine R_iload_n (i := 2) dX10_notes_38 rfl rfl ?_
    refine R_iadd dX10_notes_39 ?_
    refine R_iconst (v := 3) dX10_notes_40 rfl ?_
    refine R_iadd dX10_notes_41 ?_
    obtain ⟨hb, h⟩ := hit_bnd h
    refine R_iald (WF.kid hW 6 hL0 rfl) (cE_66 Ω 0 _) hb dX10_notes_42 ?_
    obtain ⟨hb, h⟩ := hit_bnd h
    refine R_iast (WF.kid hW 6 hL0 rfl) (cE_66 Ω 0) hb dX10_notes_43 ?_
    refine R_st h (fun σ8 h => ?_)
    refine R_iinc (v := x2 + 1) (lv2 := [some (rf Ω 10 0), some (.int x1), some (.int (x2 + 1))]) dX10_notes_44 rfl rfl (by decide) rfl rfl ?_
    refine R_goto (tgt := 15) dX10_notes_47 (by decide) ?_
    exact hC (x2 + 1) σ8 h
set_option maxRecDepth 100000 in
set_option maxHeartbeats 4000000 in
theorem rlX10_notes_L15 {l : Launch} {Ω : rO} (hW : WF Ω) (x1 : Int32) (hL0 : oL Ω 10 0) {K : Int32 → rS → Prop} {KE : Unit → rS → Prop} (hE0 : ∀ (e : Unit) (σ : rS), KE e σ → Run l Ω cX10_notes RX10 3 none rmX10_notes K 50 [some (rf Ω 10 0), some (.int x1), none] [] σ) : ∀ (n : Nat) (x2 : Int32) (σ : rS), hit (lp (fun (x : Int32) σ => fX10_notes_L15 x1 x σ) n x2 σ) KE → Run l Ω cX10_notes RX10 3 none rmX10_notes K 15 [some (rf Ω 10 0), some (.int x1), some (.int x2)] [] σ := by
  intro n
  induction n with
  | zero => intro x2 σ h; exact (h : False).elim
  | succ n ih =>
    intro x2 σ h
    exact rsX10_notes_L15 hW x1 x2 hL0 σ (fun x2 σ h => ih x2 σ h) (fun e σ h => hE0 e σ h) (hit_lp h)
set_option maxRecDepth 100000 in
set_option maxHeartbeats 4000000 in
theorem ctX10_notes (l : Launch) (Ω : rO) (x1 : Int32) (hL0 : oL Ω 10 0) (σ : rS) (K : Int32 → rS → Prop) (h : hit (fX10_notes x1 σ) K) : Ct l Ω yX10_notes cX10_notes 3 none rmX10_notes [rf Ω 10 0, .int x1] σ K := by
  refine Ct.of (own := RX10) (lv := [some (rf Ω 10 0), some (.int x1), none]) (by decide) rfl (Nat.le_of_ble_eq_true rfl) rfl (fun hW => ?_)
  unfold fX10_notes at h
  refine R_aload_n (i := 0) dX10_notes_0 rfl rfl ?_
  refine R_get foX10_29 hL0 (cE_10 Ω 0 _) rfl dX10_notes_1 ?_
  refine R_sipush (v := 1373) dX10_notes_4 rfl ?_
  refine R_iald (WF.kid hW 6 hL0 rfl) (cE_66 Ω 0 _) (vin 1373 1554 rfl) dX10_notes_7 ?_
  refine R_bipush (v := 60) dX10_notes_8 rfl ?_
  refine R_icmp_ne (tgt := 62) dX10_notes_10 (by decide) (fun hc => ?_) (fun hc => ?_)
  · have h := hit_f h hc
    exact rnX10_notes_j62 hW x1 hL0 σ  h
  · have h := hit_t h hc
    refine R_iconst (v := 1) dX10_notes_13 rfl ?_
    refine R_istore_n (lv2 := [some (rf Ω 10 0), some (.int x1), some (.int 1)]) dX10_notes_14 rfl (by decide) rfl rfl ?_
    refine rlX10_notes_L15 hW x1 hL0 ?_ fu 1 σ (hit_bd h)
    · intro e10 σ9 h
      try dsimp only at h
      refine R_aload_n (i := 0) dX10_notes_50 rfl rfl ?_
      refine R_get foX10_29 hL0 (cE_10 Ω 0 _) rfl dX10_notes_51 ?_
      refine R_sipush (v := 1373) dX10_notes_54 rfl ?_
      refine R_dup2 dX10_notes_57 rfl rfl ?_
      refine R_iald (WF.kid hW 6 hL0 rfl) (cE_66 Ω 0 _) (vin 1373 1554 rfl) dX10_notes_58 ?_
      refine R_iconst (v := 1) dX10_notes_59 rfl ?_
      refine R_isub dX10_notes_60 ?_
      refine R_iast (WF.kid hW 6 hL0 rfl) (cE_66 Ω 0) (vin 1373 1554 rfl) dX10_notes_61 ?_
      refine R_st h (fun σ11 h => ?_)
      exact rnX10_notes_j62 hW x1 hL0 σ11  h
set_option maxRecDepth 100000 in
set_option maxHeartbeats 4000000 in
theorem ctX10_tries (l : Launch) (Ω : rO) (x1 : Int32) (x2 : Int32) (x3 : Int32) (x4 : Int32) (x5 : Int32) (hL0 : oL Ω 10 0) (σ : rS) (K : Int32 → rS → Prop) (h : hit (fX10_tries x1 x2 x3 x4 x5 σ) K) : Ct l Ω yX10_tries cX10_tries 7 (some .int) rmX10_tries [rf Ω 10 0, .int x1, .int x2, .int x3, .int x4, .int x5] σ K := by
  refine Ct.of (own := RX10) (lv := [some (rf Ω 10 0), some (.int x1), some (.int x2), some (.int x3), some (.int x4), some (.int x5), none]) (by decide) rfl (Nat.le_of_ble_eq_true rfl) rfl (fun hW => ?_)
  unfold fX10_tries at h
  refine R_aload_n (i := 0) dX10_tries_0 rfl rfl ?_
  refine R_get foX10_29 hL0 (cE_10 Ω 0 _) rfl dX10_tries_1 ?_
  refine R_iconst (v := 0) dX10_tries_4 rfl ?_
  refine R_aload_n (i := 0) dX10_tries_5 rfl rfl ?_
  refine R_get foX10_32 hL0 (cE_10 Ω 0 _) rfl dX10_tries_6 ?_
  refine R_iconst (v := 0) dX10_tries_9 rfl ?_
  refine R_callSv (ctX10_copyRow l Ω 66 0 1554 0 66 1 1554 0 (WF.kid hW 6 hL0 rfl) (cE_66 Ω 0) (WF.kid hW 7 hL0 rfl) (cE_66 Ω 1) _ _ (hit_mono (hit_bd h) (fun r1 σ2 h => ?_))) okX10_copyRow mw_1406 rfl rfl (Nat.le_of_ble_eq_true rfl) rfl rfl ⟨by decide, by decide⟩ ⟨Nat.zero_le _, Nat.zero_le _⟩ dX10_tries_10
  refine R_aload_n (i := 0) dX10_tries_13 rfl rfl ?_
  refine R_aload_n (i := 0) dX10_tries_14 rfl rfl ?_
  refine R_get foX10_29 hL0 (cE_10 Ω 0 _) rfl dX10_tries_15 ?_
  refine R_iload_n (i := 1) dX10_tries_18 rfl rfl ?_
  refine R_iload_n (i := 2) dX10_tries_19 rfl rfl ?_
  refine R_iload_n (i := 3) dX10_tries_20 rfl rfl ?_
  refine R_iload (i := 4) dX10_tries_21 rfl ?_
  refine R_iload (i := 5) dX10_tries_23 rfl ?_
  refine R_callVi (ctX10_does l Ω 0 x1 x2 x3 x4 x5 hL0 (WF.kid hW 6 hL0 rfl) _ _ (hit_mono (hit_bd h) (fun r3 σ4 h => ?_))) okX10_does mw_1409 hL0 (cE_10 Ω 0 _) rfl rfl (Nat.le_of_ble_eq_true rfl) rfl rfl ⟨by decide, by decide⟩ ⟨Nat.zero_le _, Nat.zero_le _⟩ dX10_tries_25
  refine R_istore (lv2 := [some (rf Ω 10 0), some (.int x1), some (.int x2), some (.int x3), some (.int x4), some (.int x5), some (.int r3)]) dX10_tries_28 (by decide) rfl rfl ?_
  refine R_iload (i := 6) dX10_tries_30 rfl ?_
  refine R_iconst (v := (-1)) dX10_tries_32 rfl ?_
  refine R_icmp_eq (tgt := 39) dX10_tries_33 (by decide) (fun hc => ?_) (fun hc => ?_)
  · have h := hit_t h hc
    refine R_aload_n (i := 0) dX10_tries_39 rfl rfl ?_
    refine R_callVv (ctX10_remember l Ω hL0 _ _ (hit_mono (hit_bd h) (fun r5 σ6 h => ?_))) okX10_remember mw_1546 hL0 (cE_10 Ω 0 _) rfl rfl (Nat.le_of_ble_eq_true rfl) rfl rfl ⟨by decide, by decide⟩ ⟨Nat.zero_le _, Nat.zero_le _⟩ dX10_tries_40
    refine R_aload_n (i := 0) dX10_tries_43 rfl rfl ?_
    refine R_iload_n (i := 1) dX10_tries_44 rfl rfl ?_
    refine R_callVv (ctX10_notes l Ω x1 hL0 _ _ (hit_mono (hit_bd h) (fun r7 σ8 h => ?_))) okX10_notes mw_1550 hL0 (cE_10 Ω 0 _) rfl rfl (Nat.le_of_ble_eq_true rfl) rfl rfl ⟨by decide, by decide⟩ ⟨Nat.zero_le _, Nat.zero_le _⟩ dX10_tries_45
    refine R_iconst (v := (-1)) dX10_tries_48 rfl ?_
    exact R_iret dX10_tries_49 rfl h
  · have h := hit_f h hc
    refine R_iload (i := 6) dX10_tries_36 rfl ?_
    exact R_iret dX10_tries_38 rfl h
set_option maxRecDepth 100000 in
set_option maxHeartbeats 4000000 in
theorem ctX10_act (l : Launch) (Ω : rO) (x1 : Int32) (x2 : Int32) (x3 : Int32) (x4 : Int32) (x5 : Int32) (hL0 : oL Ω 10 0) (σ : rS) (K : Int32 → rS → Prop) (h : hit (fX10_act x1 x2 x3 x4 x5 σ) K) : Ct l Ω yX10_act cX10_act 7 (some .int) rmX10_act [rf Ω 10 0, .int x1, .int x2, .int x3, .int x4, .int x5] σ K := by
  refine Ct.of (own := RX10) (lv := [some (rf Ω 10 0), some (.int x1), some (.int x2), some (.int x3), some (.int x4), some (.int x5), none]) (by decide) rfl (Nat.le_of_ble_eq_true rfl) rfl (fun hW => ?_)
  unfold fX10_act at h
  refine R_aload_n (i := 0) dX10_act_0 rfl rfl ?_
  refine R_iconst (v := 0) dX10_act_1 rfl ?_
  refine R_put poX10_73 hL0 (cE_10 Ω 0 _) (cP_10_0 Ω 0 _ _) (Nat.le_of_ble_eq_true rfl) dX10_act_2 ?_
  refine R_st h (fun σ1 h => ?_)
  refine R_aload_n (i := 0) dX10_act_5 rfl rfl ?_
  refine R_iload_n (i := 1) dX10_act_6 rfl rfl ?_
  refine R_iload_n (i := 2) dX10_act_7 rfl rfl ?_
  refine R_iload_n (i := 3) dX10_act_8 rfl rfl ?_
  refine R_iload (i := 4) dX10_act_9 rfl ?_
  refine R_iload (i := 5) dX10_act_11 rfl ?_
  refine R_callVi (ctX10_tries l Ω x1 x2 x3 x4 x5 hL0 _ _ (hit_mono (hit_bd h) (fun r2 σ3 h => ?_))) okX10_tries mw_1402 hL0 (cE_10 Ω 0 _) rfl rfl (Nat.le_of_ble_eq_true rfl) rfl rfl ⟨by decide, by decide⟩ ⟨Nat.zero_le _, Nat.zero_le _⟩ dX10_act_13
  refine R_istore (lv2 := [some (rf Ω 10 0), some (.int x1), some (.int x2), some (.int x3), some (.int x4), some (.int x5), some (.int r2)]) dX10_act_16 (by decide) rfl rfl ?_
  refine R_iload (i := 6) dX10_act_18 rfl ?_
  refine R_iconst (v := (-1)) dX10_act_20 rfl ?_
  refine R_icmp_ne (tgt := 29) dX10_act_21 (by decide) (fun hc => ?_) (fun hc => ?_)
  · have h := hit_f h hc
    refine R_aload_n (i := 0) dX10_act_29 rfl rfl ?_
    refine R_get foX10_20 hL0 (cE_10 Ω 0 _) rfl dX10_act_30 ?_
    refine R_iload (i := 6) dX10_act_33 rfl ?_
    refine R_dup2 dX10_act_35 rfl rfl ?_
    obtain ⟨hb, h⟩ := hit_bnd h
    refine R_iald (WF.kid hW 3 hL0 rfl) (cE_63 Ω 0 _) hb dX10_act_36 ?_
    refine R_iconst (v := 1) dX10_act_37 rfl ?_
    refine R_iadd dX10_act_38 ?_
    obtain ⟨hb, h⟩ := hit_bnd h
    refine R_iast (WF.kid hW 3 hL0 rfl) (cE_63 Ω 0) hb dX10_act_39 ?_
    refine R_st h (fun σ4 h => ?_)
    refine R_iconst (v := (-1)) dX10_act_40 rfl ?_
    exact R_iret dX10_act_41 rfl h
  · have h := hit_t h hc
    refine R_aload_n (i := 0) dX10_act_24 rfl rfl ?_
    refine R_get foX10_250 hL0 (cE_10 Ω 0 _) rfl dX10_act_25 ?_
    exact R_iret dX10_act_28 rfl h
set_option maxRecDepth 100000 in
set_option maxHeartbeats 4000000 in
theorem ctX10_make (l : Launch) (Ω : rO) (x1 : Int32) (x2 : Int32) (x3 : Int32) (x4 : Int32) (hL0 : oL Ω 10 0) (σ : rS) (K : Int32 → rS → Prop) (h : hit (fX10_make x1 x2 x3 x4 σ) K) : Ct l Ω yX10_make cX10_make 5 (some .int) rmX10_make [rf Ω 10 0, .int x1, .int x2, .int x3, .int x4] σ K := by
  refine Ct.of (own := RX10) (lv := [some (rf Ω 10 0), some (.int x1), some (.int x2), some (.int x3), some (.int x4)]) (by decide) rfl (Nat.le_of_ble_eq_true rfl) rfl (fun hW => ?_)
  unfold fX10_make at h
  refine R_aload_n (i := 0) dX10_make_0 rfl rfl ?_
  refine R_iconst (v := 0) dX10_make_1 rfl ?_
  refine R_iload_n (i := 1) dX10_make_2 rfl rfl ?_
  refine R_iload_n (i := 2) dX10_make_3 rfl rfl ?_
  refine R_iload_n (i := 3) dX10_make_4 rfl rfl ?_
  refine R_iload (i := 4) dX10_make_5 rfl ?_
  refine R_callVi (ctX10_act l Ω 0 x1 x2 x3 x4 hL0 _ _ (hit_mono (hit_bd h) (fun r1 σ2 h => ?_))) okX10_act mw_1398 hL0 (cE_10 Ω 0 _) rfl rfl (Nat.le_of_ble_eq_true rfl) rfl rfl ⟨by decide, by decide⟩ ⟨Nat.zero_le _, Nat.zero_le _⟩ dX10_make_7
  exact R_iret dX10_make_10 rfl h
set_option maxRecDepth 100000 in
set_option maxHeartbeats 4000000 in
theorem ctX10_link_ (l : Launch) (Ω : rO) (x1 : Int32) (x2 : Int32) (x3 : Int32) (hL0 : oL Ω 10 0) (σ : rS) (K : Int32 → rS → Prop) (h : hit (fX10_link_ x1 x2 x3 σ) K) : Ct l Ω yX10_link_ cX10_link_ 4 (some .int) rmX10_link_ [rf Ω 10 0, .int x1, .int x2, .int x3] σ K := by
  refine Ct.of (own := RX10) (lv := [some (rf Ω 10 0), some (.int x1), some (.int x2), some (.int x3)]) (by decide) rfl (Nat.le_of_ble_eq_true rfl) rfl (fun hW => ?_)
  unfold fX10_link_ at h
  refine R_aload_n (i := 0) dX10_link__0 rfl rfl ?_
  refine R_iconst (v := 1) dX10_link__1 rfl ?_
  refine R_iload_n (i := 1) dX10_link__2 rfl rfl ?_
  refine R_iload_n (i := 2) dX10_link__3 rfl rfl ?_
  refine R_iload_n (i := 3) dX10_link__4 rfl rfl ?_
  refine R_iconst (v := 0) dX10_link__5 rfl ?_
  refine R_callVi (ctX10_act l Ω 1 x1 x2 x3 0 hL0 _ _ (hit_mono (hit_bd h) (fun r1 σ2 h => ?_))) okX10_act mw_1398 hL0 (cE_10 Ω 0 _) rfl rfl (Nat.le_of_ble_eq_true rfl) rfl rfl ⟨by decide, by decide⟩ ⟨Nat.zero_le _, Nat.zero_le _⟩ dX10_link__6
  exact R_iret dX10_link__9 rfl h
set_option maxRecDepth 100000 in
set_option maxHeartbeats 4000000 in
theorem ctX10_load (l : Launch) (Ω : rO) (x1 : Int32) (x2 : Int32) (x3 : Int32) (hL0 : oL Ω 10 0) (σ : rS) (K : Int32 → rS → Prop) (h : hit (fX10_load x1 x2 x3 σ) K) : Ct l Ω yX10_load cX10_load 4 (some .int) rmX10_load [rf Ω 10 0, .int x1, .int x2, .int x3] σ K := by
  refine Ct.of (own := RX10) (lv := [some (rf Ω 10 0), some (.int x1), some (.int x2), some (.int x3)]) (by decide) rfl (Nat.le_of_ble_eq_true rfl) rfl (fun hW => ?_)
  unfold fX10_load at h
  refine R_aload_n (i := 0) dX10_load_0 rfl rfl ?_
  refine R_iconst (v := 2) dX10_load_1 rfl ?_
  refine R_iload_n (i := 1) dX10_load_2 rfl rfl ?_
  refine R_iload_n (i := 2) dX10_load_3 rfl rfl ?_
  refine R_iload_n (i := 3) dX10_load_4 rfl rfl ?_
  refine R_iconst (v := 0) dX10_load_5 rfl ?_
  refine R_callVi (ctX10_act l Ω 2 x1 x2 x3 0 hL0 _ _ (hit_mono (hit_bd h) (fun r1 σ2 h => ?_))) okX10_act mw_1398 hL0 (cE_10 Ω 0 _) rfl rfl (Nat.le_of_ble_eq_true rfl) rfl rfl ⟨by decide, by decide⟩ ⟨Nat.zero_le _, Nat.zero_le _⟩ dX10_load_6
  exact R_iret dX10_load_9 rfl h
set_option maxRecDepth 100000 in
set_option maxHeartbeats 4000000 in
theorem ctX10_drop (l : Launch) (Ω : rO) (x1 : Int32) (hL0 : oL Ω 10 0) (σ : rS) (K : Int32 → rS → Prop) (h : hit (fX10_drop x1 σ) K) : Ct l Ω yX10_drop cX10_drop 2 (some .int) rmX10_drop [rf Ω 10 0, .int x1] σ K := by
  refine Ct.of (own := RX10) (lv := [some (rf Ω 10 0), some (.int x1)]) (by decide) rfl (Nat.le_of_ble_eq_true rfl) rfl (fun hW => ?_)
  unfold fX10_drop at h
  refine R_aload_n (i := 0) dX10_drop_0 rfl rfl ?_
  refine R_iconst (v := 3) dX10_drop_1 rfl ?_
  refine R_iload_n (i := 1) dX10_drop_2 rfl rfl ?_
  refine R_iconst (v := 0) dX10_drop_3 rfl ?_
  refine R_iconst (v := 0) dX10_drop_4 rfl ?_
  refine R_iconst (v := 0) dX10_drop_5 rfl ?_
  refine R_callVi (ctX10_act l Ω 3 x1 0 0 0 hL0 _ _ (hit_mono (hit_bd h) (fun r1 σ2 h => ?_))) okX10_act mw_1398 hL0 (cE_10 Ω 0 _) rfl rfl (Nat.le_of_ble_eq_true rfl) rfl rfl ⟨by decide, by decide⟩ ⟨Nat.zero_le _, Nat.zero_le _⟩ dX10_drop_6
  exact R_iret dX10_drop_9 rfl h
set_option maxRecDepth 100000 in
set_option maxHeartbeats 4000000 in
theorem ctX10_minor (l : Launch) (Ω : rO) (hL0 : oL Ω 10 0) (σ : rS) (K : Int32 → rS → Prop) (h : hit (fX10_minor  σ) K) : Ct l Ω yX10_minor cX10_minor 1 (some .int) rmX10_minor [rf Ω 10 0] σ K := by
  refine Ct.of (own := RX10) (lv := [some (rf Ω 10 0)]) (by decide) rfl (Nat.le_of_ble_eq_true rfl) rfl (fun hW => ?_)
  unfold fX10_minor at h
  refine R_aload_n (i := 0) dX10_minor_0 rfl rfl ?_
  refine R_iconst (v := 4) dX10_minor_1 rfl ?_
  refine R_iconst (v := 0) dX10_minor_2 rfl ?_
  refine R_iconst (v := 0) dX10_minor_3 rfl ?_
  refine R_iconst (v := 0) dX10_minor_4 rfl ?_
  refine R_iconst (v := 0) dX10_minor_5 rfl ?_
  refine R_callVi (ctX10_act l Ω 4 0 0 0 0 hL0 _ _ (hit_mono (hit_bd h) (fun r1 σ2 h => ?_))) okX10_act mw_1398 hL0 (cE_10 Ω 0 _) rfl rfl (Nat.le_of_ble_eq_true rfl) rfl rfl ⟨by decide, by decide⟩ ⟨Nat.zero_le _, Nat.zero_le _⟩ dX10_minor_6
  exact R_iret dX10_minor_9 rfl h
set_option maxRecDepth 100000 in
set_option maxHeartbeats 4000000 in
theorem ctX10_major (l : Launch) (Ω : rO) (hL0 : oL Ω 10 0) (σ : rS) (K : Int32 → rS → Prop) (h : hit (fX10_major  σ) K) : Ct l Ω yX10_major cX10_major 1 (some .int) rmX10_major [rf Ω 10 0] σ K := by
  refine Ct.of (own := RX10) (lv := [some (rf Ω 10 0)]) (by decide) rfl (Nat.le_of_ble_eq_true rfl) rfl (fun hW => ?_)
  unfold fX10_major at h
  refine R_aload_n (i := 0) dX10_major_0 rfl rfl ?_
  refine R_iconst (v := 5) dX10_major_1 rfl ?_
  refine R_iconst (v := 0) dX10_major_2 rfl ?_
  refine R_iconst (v := 0) dX10_major_3 rfl ?_
  refine R_iconst (v := 0) dX10_major_4 rfl ?_
  refine R_iconst (v := 0) dX10_major_5 rfl ?_
  refine R_callVi (ctX10_act l Ω 5 0 0 0 0 hL0 _ _ (hit_mono (hit_bd h) (fun r1 σ2 h => ?_))) okX10_act mw_1398 hL0 (cE_10 Ω 0 _) rfl rfl (Nat.le_of_ble_eq_true rfl) rfl rfl ⟨by decide, by decide⟩ ⟨Nat.zero_le _, Nat.zero_le _⟩ dX10_major_6
  exact R_iret dX10_major_9 rfl h
set_option maxRecDepth 100000 in
set_option maxHeartbeats 4000000 in
theorem ctX10_tell (l : Launch) (Ω : rO) (x1 : Int32) (hL0 : oL Ω 10 0) (σ : rS) (K : Int32 → rS → Prop) (h : hit (fX10_tell x1 σ) K) : Ct l Ω yX10_tell cX10_tell 2 (some .int) rmX10_tell [rf Ω 10 0, .int x1] σ K := by
  refine Ct.of (own := RX10) (lv := [some (rf Ω 10 0), some (.int x1)]) (by decide) rfl (Nat.le_of_ble_eq_true rfl) rfl (fun hW => ?_)
  unfold fX10_tell at h
  refine R_aload_n (i := 0) dX10_tell_0 rfl rfl ?_
  refine R_bipush (v := 6) dX10_tell_1 rfl ?_
  refine R_iload_n (i := 1) dX10_tell_3 rfl rfl ?_
  refine R_iconst (v := 0) dX10_tell_4 rfl ?_
  refine R_iconst (v := 0) dX10_tell_5 rfl ?_
  refine R_iconst (v := 0) dX10_tell_6 rfl ?_
  refine R_callVi (ctX10_act l Ω 6 x1 0 0 0 hL0 _ _ (hit_mono (hit_bd h) (fun r1 σ2 h => ?_))) okX10_act mw_1398 hL0 (cE_10 Ω 0 _) rfl rfl (Nat.le_of_ble_eq_true rfl) rfl rfl ⟨by decide, by decide⟩ ⟨Nat.zero_le _, Nat.zero_le _⟩ dX10_tell_7
  exact R_iret dX10_tell_10 rfl h
set_option maxRecDepth 100000 in
set_option maxHeartbeats 4000000 in
theorem ctX10_ask (l : Launch) (Ω : rO) (hL0 : oL Ω 10 0) (σ : rS) (K : Int32 → rS → Prop) (h : hit (fX10_ask  σ) K) : Ct l Ω yX10_ask cX10_ask 1 (some .int) rmX10_ask [rf Ω 10 0] σ K := by
  refine Ct.of (own := RX10) (lv := [some (rf Ω 10 0)]) (by decide) rfl (Nat.le_of_ble_eq_true rfl) rfl (fun hW => ?_)
  unfold fX10_ask at h
  refine R_aload_n (i := 0) dX10_ask_0 rfl rfl ?_
  refine R_bipush (v := 7) dX10_ask_1 rfl ?_
  refine R_iconst (v := 0) dX10_ask_3 rfl ?_
  refine R_iconst (v := 0) dX10_ask_4 rfl ?_
  refine R_iconst (v := 0) dX10_ask_5 rfl ?_
  refine R_iconst (v := 0) dX10_ask_6 rfl ?_
  refine R_callVi (ctX10_act l Ω 7 0 0 0 0 hL0 _ _ (hit_mono (hit_bd h) (fun r1 σ2 h => ?_))) okX10_act mw_1398 hL0 (cE_10 Ω 0 _) rfl rfl (Nat.le_of_ble_eq_true rfl) rfl rfl ⟨by decide, by decide⟩ ⟨Nat.zero_le _, Nat.zero_le _⟩ dX10_ask_7
  exact R_iret dX10_ask_10 rfl h
set_option maxRecDepth 100000 in
set_option maxHeartbeats 4000000 in
theorem ctX10_draw (l : Launch) (Ω : rO) (x1 : Int32) (hL0 : oL Ω 10 0) (σ : rS) (K : Int32 → rS → Prop) (h : hit (fX10_draw x1 σ) K) : Ct l Ω yX10_draw cX10_draw 2 (some .int) rmX10_draw [rf Ω 10 0, .int x1] σ K := by
  refine Ct.of (own := RX10) (lv := [some (rf Ω 10 0), some (.int x1)]) (by decide) rfl (Nat.le_of_ble_eq_true rfl) rfl (fun hW => ?_)
  unfold fX10_draw at h
  refine R_aload_n (i := 0) dX10_draw_0 rfl rfl ?_
  refine R_aload_n (i := 0) dX10_draw_1 rfl rfl ?_
  refine R_get foX10_351 hL0 (cE_10 Ω 0 _) rfl dX10_draw_2 ?_
  refine R_ldc2 (v := 6364136223846793005) mw_1598 dX10_draw_5 ?_
  refine R_lmul dX10_draw_8 ?_
  refine R_ldc2 (v := 1442695040888963407) mw_1599 dX10_draw_9 ?_
  refine R_ladd dX10_draw_12 ?_
  refine R_putJ poX10_351 hL0 (cE_10 Ω 0 _) (cL_10 Ω 0 _ _) (Nat.le_of_ble_eq_true rfl) dX10_draw_13 ?_
  refine R_st h (fun σ1 h => ?_)
  refine R_aload_n (i := 0) dX10_draw_16 rfl rfl ?_
  refine R_get foX10_351 hL0 (cE_10 Ω 0 _) rfl dX10_draw_17 ?_
  refine R_bipush (v := 33) dX10_draw_20 rfl ?_
  refine R_lushr dX10_draw_22 ?_
  refine R_iload_n (i := 1) dX10_draw_23 rfl rfl ?_
  refine R_i2l dX10_draw_24 ?_
  obtain ⟨hz, h⟩ := hit_blz h
  refine R_lrem dX10_draw_25 hz ?_
  refine R_l2i dX10_draw_26 ?_
  exact R_iret dX10_draw_27 rfl h
set_option maxRecDepth 100000 in
set_option maxHeartbeats 4000000 in
theorem ctX10_happens (l : Launch) (Ω : rO) (hL0 : oL Ω 10 0) (σ : rS) (K : Int32 → rS → Prop) (h : hit (fX10_happens  σ) K) : Ct l Ω yX10_happens cX10_happens 5 (some .int) rmX10_happens [rf Ω 10 0] σ K := by
  refine Ct.of (own := RX10) (lv := [some (rf Ω 10 0), none, none, none, none]) (by decide) rfl (Nat.le_of_ble_eq_true rfl) rfl (fun hW => ?_)
  unfold fX10_happens at h
  refine R_aload_n (i := 0) dX10_happens_0 rfl rfl ?_
  refine R_bipush (v := 10) dX10_happens_1 rfl ?_
  refine R_callVi (ctX10_draw l Ω 10 hL0 _ _ (hit_mono (hit_bd h) (fun r1 σ2 h => ?_))) okX10_draw mw_1594 hL0 (cE_10 Ω 0 _) rfl rfl (Nat.le_of_ble_eq_true rfl) rfl rfl ⟨by decide, by decide⟩ ⟨Nat.zero_le _, Nat.zero_le _⟩ dX10_happens_3
  refine R_istore_n (lv2 := [some (rf Ω 10 0), some (.int r1), none, none, none]) dX10_happens_6 rfl (by decide) rfl rfl ?_
  refine R_iload_n (i := 1) dX10_happens_7 rfl rfl ?_
  refine R_bipush (v := 9) dX10_happens_8 rfl ?_
  refine R_icmp_ne (tgt := 54) dX10_happens_10 (by decide) (fun hc => ?_) (fun hc => ?_)
  · have h := hit_f h hc
    refine R_aload_n (i := 0) dX10_happens_54 rfl rfl ?_
    refine R_bipush (v := 8) dX10_happens_55 rfl ?_
    refine R_callVi (ctX10_draw l Ω 8 hL0 _ _ (hit_mono (hit_bd h) (fun r3 σ4 h => ?_))) okX10_draw mw_1594 hL0 (cE_10 Ω 0 _) rfl rfl (Nat.le_of_ble_eq_true rfl) rfl rfl ⟨by decide, by decide⟩ ⟨Nat.zero_le _, Nat.zero_le _⟩ dX10_happens_57
    refine R_istore_n (lv2 := [some (rf Ω 10 0), some (.int r1), some (.int r3), none, none]) dX10_happens_60 rfl (by decide) rfl rfl ?_
    refine R_iload_n (i := 1) dX10_happens_61 rfl rfl ?_
    refine R_bipush (v := 8) dX10_happens_62 rfl ?_
    refine R_icmp_ne (tgt := 77) dX10_happens_64 (by decide) (fun hc => ?_) (fun hc => ?_)
    · have h := hit_f h hc
      refine R_iload_n (i := 1) dX10_happens_77 rfl rfl ?_
      refine R_bipush (v := 7) dX10_happens_78 rfl ?_
      refine R_icmp_ne (tgt := 104) dX10_happens_80 (by decide) (fun hc => ?_) (fun hc => ?_)
      · have h := hit_f h hc
        refine R_iload_n (i := 1) dX10_happens_104 rfl rfl ?_
        refine R_iconst (v := 3) dX10_happens_105 rfl ?_
        refine R_icmp_le (tgt := 130) dX10_happens_106 (by decide) (fun hc => ?_) (fun hc => ?_)
        · have h := hit_f h hc
          refine R_aload_n (i := 0) dX10_happens_130 rfl rfl ?_
          refine R_iconst (v := 3) dX10_happens_131 rfl ?_
          refine R_callVi (ctX10_draw l Ω 3 hL0 _ _ (hit_mono (hit_bd h) (fun r5 σ6 h => ?_))) okX10_draw mw_1594 hL0 (cE_10 Ω 0 _) rfl rfl (Nat.le_of_ble_eq_true rfl) rfl rfl ⟨by decide, by decide⟩ ⟨Nat.zero_le _, Nat.zero_le _⟩ dX10_happens_132
          refine R_istore_n (lv2 := [some (rf Ω 10 0), some (.int r1), some (.int r3), some (.int r5), none]) dX10_happens_135 rfl (by decide) rfl rfl ?_
          refine R_aload_n (i := 0) dX10_happens_136 rfl rfl ?_
          refine R_iconst (v := 4) dX10_happens_137 rfl ?_
          refine R_callVi (ctX10_draw l Ω 4 hL0 _ _ (hit_mono (hit_bd h) (fun r7 σ8 h => ?_))) okX10_draw mw_1594 hL0 (cE_10 Ω 0 _) rfl rfl (Nat.le_of_ble_eq_true rfl) rfl rfl ⟨by decide, by decide⟩ ⟨Nat.zero_le _, Nat.zero_le _⟩ dX10_happens_138
          refine R_iconst (v := 1) dX10_happens_141 rfl ?_
          refine R_iadd dX10_happens_142 ?_
          refine R_topi h (fun y9 h => ?_)
          refine R_istore (lv2 := [some (rf Ω 10 0), some (.int r1), some (.int r3), some (.int r5), some (.int y9)]) dX10_happens_143 (by decide) rfl rfl ?_
          refine R_aload_n (i := 0) dX10_happens_145 rfl rfl ?_
          refine R_iconst (v := 0) dX10_happens_146 rfl ?_
          refine R_iload_n (i := 2) dX10_happens_147 rfl rfl ?_
          refine R_iload_n (i := 3) dX10_happens_148 rfl rfl ?_
          refine R_iload (i := 4) dX10_happens_149 rfl ?_
          refine R_aload_n (i := 0) dX10_happens_151 rfl rfl ?_
          refine R_sipush (v := 1000) dX10_happens_152 rfl ?_
          refine R_callVi (ctX10_draw l Ω 1000 hL0 _ _ (hit_mono (hit_bd h) (fun r10 σ11 h => ?_))) okX10_draw mw_1594 hL0 (cE_10 Ω 0 _) rfl rfl (Nat.le_of_ble_eq_true rfl) rfl rfl ⟨by decide, by decide⟩ ⟨Nat.zero_le _, Nat.zero_le _⟩ dX10_happens_155
          refine R_callVi (ctX10_tries l Ω 0 r3 r5 y9 r10 hL0 _ _ (hit_mono (hit_bd h) (fun r12 σ13 h => ?_))) okX10_tries mw_1402 hL0 (cE_10 Ω 0 _) rfl rfl (Nat.le_of_ble_eq_true rfl) rfl rfl ⟨by decide, by decide⟩ ⟨Nat.zero_le _, Nat.zero_le _⟩ dX10_happens_158
          exact R_iret dX10_happens_161 rfl h
        · have h := hit_t h hc
          refine R_aload_n (i := 0) dX10_happens_109 rfl rfl ?_
          refine R_iconst (v := 4) dX10_happens_110 rfl ?_
          refine R_callVi (ctX10_draw l Ω 4 hL0 _ _ (hit_mono (hit_bd h) (fun r14 σ15 h => ?_))) okX10_draw mw_1594 hL0 (cE_10 Ω 0 _) rfl rfl (Nat.le_of_ble_eq_true rfl) rfl rfl ⟨by decide, by decide⟩ ⟨Nat.zero_le _, Nat.zero_le _⟩ dX10_happens_111
          refine R_istore_n (lv2 := [some (rf Ω 10 0), some (.int r1), some (.int r3), some (.int r14), none]) dX10_happens_114 rfl (by decide) rfl rfl ?_
          refine R_aload_n (i := 0) dX10_happens_115 rfl rfl ?_
          refine R_iconst (v := 1) dX10_happens_116 rfl ?_
          refine R_iload_n (i := 2) dX10_happens_117 rfl rfl ?_
          refine R_iload_n (i := 3) dX10_happens_118 rfl rfl ?_
          refine R_aload_n (i := 0) dX10_happens_119 rfl rfl ?_
          refine R_bipush (v := 9) dX10_happens_120 rfl ?_
          refine R_callVi (ctX10_draw l Ω 9 hL0 _ _ (hit_mono (hit_bd h) (fun r16 σ17 h => ?_))) okX10_draw mw_1594 hL0 (cE_10 Ω 0 _) rfl rfl (Nat.le_of_ble_eq_true rfl) rfl rfl ⟨by decide, by decide⟩ ⟨Nat.zero_le _, Nat.zero_le _⟩ dX10_happens_122
          refine R_iconst (v := 0) dX10_happens_125 rfl ?_
          refine R_callVi (ctX10_tries l Ω 1 r3 r14 r16 0 hL0 _ _ (hit_mono (hit_bd h) (fun r18 σ19 h => ?_))) okX10_tries mw_1402 hL0 (cE_10 Ω 0 _) rfl rfl (Nat.le_of_ble_eq_true rfl) rfl rfl ⟨by decide, by decide⟩ ⟨Nat.zero_le _, Nat.zero_le _⟩ dX10_happens_126
          exact R_iret dX10_happens_129 rfl h
      · have h := hit_t h hc
        refine R_aload_n (i := 0) dX10_happens_83 rfl rfl ?_
        refine R_bipush (v := 8) dX10_happens_84 rfl ?_
        refine R_callVi (ctX10_draw l Ω 8 hL0 _ _ (hit_mono (hit_bd h) (fun r20 σ21 h => ?_))) okX10_draw mw_1594 hL0 (cE_10 Ω 0 _) rfl rfl (Nat.le_of_ble_eq_true rfl) rfl rfl ⟨by decide, by decide⟩ ⟨Nat.zero_le _, Nat.zero_le _⟩ dX10_happens_86
        refine R_istore_n (lv2 := [some (rf Ω 10 0), some (.int r1), some (.int r3), some (.int r20), none]) dX10_happens_89 rfl (by decide) rfl rfl ?_
        refine R_aload_n (i := 0) dX10_happens_90 rfl rfl ?_
        refine R_iconst (v := 2) dX10_happens_91 rfl ?_
        refine R_iload_n (i := 2) dX10_happens_92 rfl rfl ?_
        refine R_iload_n (i := 3) dX10_happens_93 rfl rfl ?_
        refine R_aload_n (i := 0) dX10_happens_94 rfl rfl ?_
        refine R_iconst (v := 4) dX10_happens_95 rfl ?_
        refine R_callVi (ctX10_draw l Ω 4 hL0 _ _ (hit_mono (hit_bd h) (fun r22 σ23 h => ?_))) okX10_draw mw_1594 hL0 (cE_10 Ω 0 _) rfl rfl (Nat.le_of_ble_eq_true rfl) rfl rfl ⟨by decide, by decide⟩ ⟨Nat.zero_le _, Nat.zero_le _⟩ dX10_happens_96
        refine R_iconst (v := 0) dX10_happens_99 rfl ?_
        refine R_callVi (ctX10_tries l Ω 2 r3 r20 r22 0 hL0 _ _ (hit_mono (hit_bd h) (fun r24 σ25 h => ?_))) okX10_tries mw_1402 hL0 (cE_10 Ω 0 _) rfl rfl (Nat.le_of_ble_eq_true rfl) rfl rfl ⟨by decide, by decide⟩ ⟨Nat.zero_le _, Nat.zero_le _⟩ dX10_happens_100
        exact R_iret dX10_happens_103 rfl h
    · have h := hit_t h hc
      refine R_aload_n (i := 0) dX10_happens_67 rfl rfl ?_
      refine R_iconst (v := 3) dX10_happens_68 rfl ?_
      refine R_iload_n (i := 2) dX10_happens_69 rfl rfl ?_
      refine R_iconst (v := 0) dX10_happens_70 rfl ?_
      refine R_iconst (v := 0) dX10_happens_71 rfl ?_
      refine R_iconst (v := 0) dX10_happens_72 rfl ?_
      refine R_callVi (ctX10_tries l Ω 3 r3 0 0 0 hL0 _ _ (hit_mono (hit_bd h) (fun r26 σ27 h => ?_))) okX10_tries mw_1402 hL0 (cE_10 Ω 0 _) rfl rfl (Nat.le_of_ble_eq_true rfl) rfl rfl ⟨by decide, by decide⟩ ⟨Nat.zero_le _, Nat.zero_le _⟩ dX10_happens_73
      exact R_iret dX10_happens_76 rfl h
  · have h := hit_t h hc
    refine R_aload_n (i := 0) dX10_happens_13 rfl rfl ?_
    refine R_iconst (v := 3) dX10_happens_14 rfl ?_
    refine R_callVi (ctX10_draw l Ω 3 hL0 _ _ (hit_mono (hit_bd h) (fun r28 σ29 h => ?_))) okX10_draw mw_1594 hL0 (cE_10 Ω 0 _) rfl rfl (Nat.le_of_ble_eq_true rfl) rfl rfl ⟨by decide, by decide⟩ ⟨Nat.zero_le _, Nat.zero_le _⟩ dX10_happens_15
    refine R_istore_n (lv2 := [some (rf Ω 10 0), some (.int r1), some (.int r28), none, none]) dX10_happens_18 rfl (by decide) rfl rfl ?_
    refine R_iload_n (i := 2) dX10_happens_19 rfl rfl ?_
    refine R_iconst (v := 2) dX10_happens_20 rfl ?_
    refine R_icmp_ne (tgt := 42) dX10_happens_21 (by decide) (fun hc => ?_) (fun hc => ?_)
    · have h := hit_f h hc
      refine R_aload_n (i := 0) dX10_happens_42 rfl rfl ?_
      refine R_iconst (v := 4) dX10_happens_43 rfl ?_
      refine R_iload_n (i := 2) dX10_happens_44 rfl rfl ?_
      refine R_iadd dX10_happens_45 ?_
      refine R_iconst (v := 0) dX10_happens_46 rfl ?_
      refine R_iconst (v := 0) dX10_happens_47 rfl ?_
      refine R_iconst (v := 0) dX10_happens_48 rfl ?_
      refine R_iconst (v := 0) dX10_happens_49 rfl ?_
      refine R_callVi (ctX10_tries l Ω (4 + r28) 0 0 0 0 hL0 _ _ (hit_mono (hit_bd h) (fun r30 σ31 h => ?_))) okX10_tries mw_1402 hL0 (cE_10 Ω 0 _) rfl rfl (Nat.le_of_ble_eq_true rfl) rfl rfl ⟨by decide, by decide⟩ ⟨Nat.zero_le _, Nat.zero_le _⟩ dX10_happens_50
      exact R_iret dX10_happens_53 rfl h
    · have h := hit_t h hc
      refine R_aload_n (i := 0) dX10_happens_24 rfl rfl ?_
      refine R_bipush (v := 6) dX10_happens_25 rfl ?_
      refine R_aload_n (i := 0) dX10_happens_27 rfl rfl ?_
      refine R_bipush (v := 9) dX10_happens_28 rfl ?_
      refine R_callVi (ctX10_draw l Ω 9 hL0 _ _ (hit_mono (hit_bd h) (fun r32 σ33 h => ?_))) okX10_draw mw_1594 hL0 (cE_10 Ω 0 _) rfl rfl (Nat.le_of_ble_eq_true rfl) rfl rfl ⟨by decide, by decide⟩ ⟨Nat.zero_le _, Nat.zero_le _⟩ dX10_happens_30
      refine R_iconst (v := 0) dX10_happens_33 rfl ?_
      refine R_iconst (v := 0) dX10_happens_34 rfl ?_
      refine R_iconst (v := 0) dX10_happens_35 rfl ?_
      refine R_callVi (ctX10_tries l Ω 6 r32 0 0 0 hL0 _ _ (hit_mono (hit_bd h) (fun r34 σ35 h => ?_))) okX10_tries mw_1402 hL0 (cE_10 Ω 0 _) rfl rfl (Nat.le_of_ble_eq_true rfl) rfl rfl ⟨by decide, by decide⟩ ⟨Nat.zero_le _, Nat.zero_le _⟩ dX10_happens_36
      refine R_goto (tgt := 53) dX10_happens_39 (by decide) ?_
      exact R_iret dX10_happens_53 rfl h
set_option maxRecDepth 100000 in
set_option maxHeartbeats 4000000 in
theorem rsX10_years_L34 {l : Launch} {Ω : rO} (hW : WF Ω) (x1 : Int32) (x4 : Int32) (hL0 : oL Ω 10 0) (σ : rS) {K : Int32 → rS → Prop} {K0 : (Int32 ⊕ Unit) → rS → Prop} (hC : ∀ (x4 : Int32) (σ : rS), K0 (.inl x4) σ → Run l Ω cX10_years RX10 6 (some .int) rmX10_years K 34 [some (rf Ω 10 0), some (.int x1), none, none, some (.int x4), none] [] σ) (hE0 : ∀ (e : Unit) (σ : rS), K0 (.inr e) σ → Run l Ω cX10_years RX10 6 (some .int) rmX10_years K 52 [some (rf Ω 10 0), none, none, none, none, none] [] σ) (h : hit (fX10_years_L34 x1 x4 σ) K0) : Run l Ω cX10_years RX10 6 (some .int) rmX10_years K 34 [some (rf Ω 10 0), some (.int x1), none, none, some (.int x4), none] [] σ := by
  unfold fX10_years_L34 at h
  refine R_iload (i := 4) dX10_years_34 rfl ?_
  refine R_iload_n (i := 1) dX10_years_36 rfl rfl ?_
  refine R_icmp_ge (tgt := 52) dX10_years_37 (by decide) (fun hc => ?_) (fun hc => ?_)
  · have h := hit_f h hc
    refine R_drop (lv2 := [some (rf Ω 10 0), none, none, none, some (.int x4), none]) 1 rfl ?_
    refine R_drop (lv2 := [some (rf Ω 10 0), none, none, none, none, none]) 4 rfl ?_
    exact hE0 () σ h
  · have h := hit_t h hc
    refine R_aload_n (i := 0) dX10_years_40 rfl rfl ?_
    refine R_callVi (ctX10_happens l Ω hL0 _ _ (hit_mono (hit_bd h) (fun r5 σ6 h => ?_))) okX10_happens mw_1590 hL0 (cE_10 Ω 0 _) rfl rfl (Nat.le_of_ble_eq_true rfl) rfl rfl ⟨by decide, by decide⟩ ⟨Nat.zero_le _, Nat.zero_le _⟩ dX10_years_41
    refine R_istore (lv2 := [some (rf Ω 10 0), some (.int x1), none, none, some (.int x4), some (.int r5)]) dX10_years_44 (by decide) rfl rfl ?_
    refine R_iinc (v := x4 + 1) (lv2 := [some (rf Ω 10 0), some (.int x1), none, none, some (.int (x4 + 1)), some (.int r5)]) dX10_years_46 rfl rfl (by decide) rfl rfl ?_
    refine R_goto (tgt := 34) dX10_years_49 (by decide) ?_
    refine R_drop (lv2 := [some (rf Ω 10 0), some (.int x1), none, none, some (.int (x4 + 1)), none]) 5 rfl ?_
    exact hC (x4 + 1) σ6 h
set_option maxRecDepth 100000 in
set_option maxHeartbeats 4000000 in
theorem rlX10_years_L34 {l : Launch} {Ω : rO} (hW : WF Ω) (x1 : Int32) (hL0 : oL Ω 10 0) {K : Int32 → rS → Prop} {KE : Unit → rS → Prop} (hE0 : ∀ (e : Unit) (σ : rS), KE e σ → Run l Ω cX10_years RX10 6 (some .int) rmX10_years K 52 [some (rf Ω 10 0), none, none, none, none, none] [] σ) : ∀ (n : Nat) (x4 : Int32) (σ : rS), hit (lp (fun (x : Int32) σ => fX10_years_L34 x1 x σ) n x4 σ) KE → Run l Ω cX10_years RX10 6 (some .int) rmX10_years K 34 [some (rf Ω 10 0), some (.int x1), none, none, some (.int x4), none] [] σ := by
  intro n
  induction n with
  | zero => intro x4 σ h; exact (h : False).elim
  | succ n ih =>
    intro x4 σ h
    exact rsX10_years_L34 hW x1 x4 hL0 σ (fun x4 σ h => ih x4 σ h) (fun e σ h => hE0 e σ h) (hit_lp h)
set_option maxRecDepth 100000 in
set_option maxHeartbeats 4000000 in
theorem ctX10_years (l : Launch) (Ω : rO) (x1 : Int32) (x2 : Int64) (hL0 : oL Ω 10 0) (σ : rS) (K : Int32 → rS → Prop) (h : hit (fX10_years x1 x2 σ) K) : Ct l Ω yX10_years cX10_years 6 (some .int) rmX10_years [rf Ω 10 0, .int x1, .long x2] σ K := by
  refine Ct.of (own := RX10) (lv := [some (rf Ω 10 0), some (.int x1), some (.long x2), none, none, none]) (by decide) rfl (Nat.le_of_ble_eq_true rfl) rfl (fun hW => ?_)
  unfold fX10_years at h
  refine R_aload_n (i := 0) dX10_years_0 rfl rfl ?_
  refine R_iconst (v := 0) dX10_years_1 rfl ?_
  refine R_put poX10_73 hL0 (cE_10 Ω 0 _) (cP_10_0 Ω 0 _ _) (Nat.le_of_ble_eq_true rfl) dX10_years_2 ?_
  refine R_st h (fun σ1 h => ?_)
  refine R_aload_n (i := 0) dX10_years_5 rfl rfl ?_
  refine R_get foX10_157 hL0 (cE_10 Ω 0 _) rfl dX10_years_6 ?_
  refine R_if_eq (tgt := 24) dX10_years_9 (by decide) (fun hc => ?_) (fun hc => ?_)
  · have h := hit_t h hc
    refine R_iconst (v := (-1)) dX10_years_24 rfl ?_
    exact R_iret dX10_years_25 rfl h
  · have h := hit_f h hc
    refine R_iload_n (i := 1) dX10_years_12 rfl rfl ?_
    refine R_i2l dX10_years_13 ?_
    refine R_lconst (v := 1) dX10_years_14 rfl ?_
    refine R_ldc2 (v := 40) mw_1589 dX10_years_15 ?_
    refine R_callSi (ctX10_isIn l Ω x1.toInt64 1 40 _ _ (hit_mono (hit_bd h) (fun r2 σ3 h => ?_))) okX10_isIn mw_1315 rfl rfl (Nat.le_of_ble_eq_true rfl) rfl rfl ⟨by decide, by decide⟩ ⟨Nat.zero_le _, Nat.zero_le _⟩ dX10_years_18
    refine R_if_ne (tgt := 26) dX10_years_21 (by decide) (fun hc => ?_) (fun hc => ?_)
    · have h := hit_f h hc
      refine R_aload_n (i := 0) dX10_years_26 rfl rfl ?_
      refine R_lload_n (i := 2) dX10_years_27 rfl rfl ?_
      refine R_putJ poX10_351 hL0 (cE_10 Ω 0 _) (cL_10 Ω 0 _ _) (Nat.le_of_ble_eq_true rfl) dX10_years_28 ?_
      refine R_st h (fun σ4 h => ?_)
      refine R_iconst (v := 0) dX10_years_31 rfl ?_
      refine R_istore (lv2 := [some (rf Ω 10 0), some (.int x1), some (.long x2), none, some (.int 0), none]) dX10_years_32 (by decide) rfl rfl ?_
      refine R_drop (lv2 := [some (rf Ω 10 0), some (.int x1), none, none, some (.int 0), none]) 2 rfl ?_
      refine rlX10_years_L34 hW x1 hL0 ?_ fu 0 σ4 (hit_bd h)
      · intro e8 σ7 h
        try dsimp only at h
        refine R_aload_n (i := 0) dX10_years_52 rfl rfl ?_
        refine R_get foX10_29 hL0 (cE_10 Ω 0 _) rfl dX10_years_53 ?_
        refine R_callSi (ctX10_cells l Ω 0 (WF.kid hW 6 hL0 rfl) _ _ (hit_mono (hit_bd h) (fun r9 σ10 h => ?_))) okX10_cells mw_1554 rfl rfl (Nat.le_of_ble_eq_true rfl) rfl rfl ⟨by decide, by decide⟩ ⟨Nat.zero_le _, Nat.zero_le _⟩ dX10_years_56
        exact R_iret dX10_years_59 rfl h
    · have h := hit_t h hc
      refine R_iconst (v := (-1)) dX10_years_24 rfl ?_
      exact R_iret dX10_years_25 rfl h
