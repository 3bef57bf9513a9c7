set_option maxRecDepth 100000 in
set_option maxHeartbeats 4000000 in
theorem ctX10_most (l : Launch) (Ω : rO) (x1 : Int32) (hL0 : oL Ω 10 0) (σ : rS) (K : Int32 → rS → Prop) (h : hit (fX10_most x1 σ) K) : Ct l Ω yX10_most cX10_most 2 (some .int) rmX10_most [rf Ω 10 0, .int x1] σ K := by
  refine Ct.of (own := RX10) (lv := [some (rf Ω 10 0), some (.int x1)]) (by decide) rfl (Nat.le_of_ble_eq_true rfl) rfl (fun hW => ?_)
  unfold fX10_most at h
  refine R_aload_n (i := 0) dX10_most_0 rfl rfl ?_
  refine R_iconst (v := 0) dX10_most_1 rfl ?_
  refine R_put poX10_73 hL0 (cE_10 Ω 0 _) (cP_10_0 Ω 0 _ _) (Nat.le_of_ble_eq_true rfl) dX10_most_2 ?_
  refine R_st h (fun σ1 h => ?_)
  refine R_aload_n (i := 0) dX10_most_5 rfl rfl ?_
  refine R_get foX10_157 hL0 (cE_10 Ω 0 _) rfl dX10_most_6 ?_
  refine R_if_ne (tgt := 16) dX10_most_9 (by decide) (fun hc => ?_) (fun hc => ?_)
  · have h := hit_f h hc
    refine R_iload_n (i := 1) dX10_most_16 rfl rfl ?_
    by_cases hs0 : x1 = 0
    · have h := hit_t h hs0
      refine R_tableIn (tgt := 96) dX10_most_17 (by rw [hs0]; decide) (by rw [hs0]; decide) (by rw [hs0]; rfl) (by decide) ?_
      refine R_aload_n (i := 0) dX10_most_96 rfl rfl ?_
      refine R_get foX10_29 hL0 (cE_10 Ω 0 _) rfl dX10_most_97 ?_
      refine R_iload_n (i := 1) dX10_most_100 rfl rfl ?_
      refine R_callSi (ctX10_cellsIn l Ω 0 x1 (WF.kid hW 6 hL0 rfl) _ _ (hit_mono (hit_bd h) (fun r2 σ3 h => ?_))) okX10_cellsIn mw_1446 rfl rfl (Nat.le_of_ble_eq_true rfl) rfl rfl ⟨by decide, by decide⟩ dX10_most_101
      exact R_iret dX10_most_104 rfl h
    · have h := hit_f h hs0
      by_cases hs1 : x1 = 1
      · have h := hit_t h hs1
        refine R_tableIn (tgt := 96) dX10_most_17 (by rw [hs1]; decide) (by rw [hs1]; decide) (by rw [hs1]; rfl) (by decide) ?_
        refine R_aload_n (i := 0) dX10_most_96 rfl rfl ?_
        refine R_get foX10_29 hL0 (cE_10 Ω 0 _) rfl dX10_most_97 ?_
        refine R_iload_n (i := 1) dX10_most_100 rfl rfl ?_
        refine R_callSi (ctX10_cellsIn l Ω 0 x1 (WF.kid hW 6 hL0 rfl) _ _ (hit_mono (hit_bd h) (fun r4 σ5 h => ?_))) okX10_cellsIn mw_1446 rfl rfl (Nat.le_of_ble_eq_true rfl) rfl rfl ⟨by decide, by decide⟩ dX10_most_101
        exact R_iret dX10_most_104 rfl h
      · have h := hit_f h hs1
        by_cases hs2 : x1 = 2
        · have h := hit_t h hs2
          refine R_tableIn (tgt := 96) dX10_most_17 (by rw [hs2]; decide) (by rw [hs2]; decide) (by rw [hs2]; rfl) (by decide) ?_
          refine R_aload_n (i := 0) dX10_most_96 rfl rfl ?_
          refine R_get foX10_29 hL0 (cE_10 Ω 0 _) rfl dX10_most_97 ?_
          refine R_iload_n (i := 1) dX10_most_100 rfl rfl ?_
          refine R_callSi (ctX10_cellsIn l Ω 0 x1 (WF.kid hW 6 hL0 rfl) _ _ (hit_mono (hit_bd h) (fun r6 σ7 h => ?_))) okX10_cellsIn mw_1446 rfl rfl (Nat.le_of_ble_eq_true rfl) rfl rfl ⟨by decide, by decide⟩ dX10_most_101
          exact R_iret dX10_most_104 rfl h
        · have h := hit_f h hs2
          by_cases hs3 : x1 = 3
          · have h := hit_t h hs3
            refine R_tableIn (tgt := 105) dX10_most_17 (by rw [hs3]; decide) (by rw [hs3]; decide) (by rw [hs3]; rfl) (by decide) ?_
            refine R_aload_n (i := 0) dX10_most_105 rfl rfl ?_
            refine R_get foX10_29 hL0 (cE_10 Ω 0 _) rfl dX10_most_106 ?_
            refine R_iconst (v := 0) dX10_most_109 rfl ?_
            refine R_iald (WF.kid hW 6 hL0 rfl) (cE_66 Ω 0 _) (vin 0 1554 rfl) dX10_most_110 ?_
            exact R_iret dX10_most_111 rfl h
          · have h := hit_f h hs3
            by_cases hs4 : x1 = 4
            · have h := hit_t h hs4
              refine R_tableIn (tgt := 112) dX10_most_17 (by rw [hs4]; decide) (by rw [hs4]; decide) (by rw [hs4]; rfl) (by decide) ?_
              refine R_aload_n (i := 0) dX10_most_112 rfl rfl ?_
              refine R_callVi (ctX10_reached l Ω hL0 _ _ (hit_mono (hit_bd h) (fun r8 σ9 h => ?_))) okX10_reached mw_1727 hL0 (cE_10 Ω 0 _) rfl rfl (Nat.le_of_ble_eq_true rfl) rfl rfl ⟨by decide, by decide⟩ dX10_most_113
              exact R_iret dX10_most_116 rfl h
            · have h := hit_f h hs4
              by_cases hs13 : x1 = 13
              · have h := hit_t h hs13
                refine R_tableIn (tgt := 117) dX10_most_17 (by rw [hs13]; decide) (by rw [hs13]; decide) (by rw [hs13]; rfl) (by decide) ?_
                refine R_aload_n (i := 0) dX10_most_117 rfl rfl ?_
                refine R_callVi (ctX10_oldest l Ω hL0 _ _ (hit_mono (hit_bd h) (fun r10 σ11 h => ?_))) okX10_oldest mw_1731 hL0 (cE_10 Ω 0 _) rfl rfl (Nat.le_of_ble_eq_true rfl) rfl rfl ⟨by decide, by decide⟩ dX10_most_118
                exact R_iret dX10_most_121 rfl h
              · have h := hit_f h hs13
                by_cases hs14 : x1 = 14
                · have h := hit_t h hs14
                  refine R_tableIn (tgt := 122) dX10_most_17 (by rw [hs14]; decide) (by rw [hs14]; decide) (by rw [hs14]; rfl) (by decide) ?_
                  refine R_aload_n (i := 0) dX10_most_122 rfl rfl ?_
                  refine R_callVi (ctX10_linked l Ω hL0 _ _ (hit_mono (hit_bd h) (fun r12 σ13 h => ?_))) okX10_linked mw_1735 hL0 (cE_10 Ω 0 _) rfl rfl (Nat.le_of_ble_eq_true rfl) rfl rfl ⟨by decide, by decide⟩ dX10_most_123
                  exact R_iret dX10_most_126 rfl h
                · have h := hit_f h hs14
                  by_cases hs15 : x1 = 15
                  · have h := hit_t h hs15
                    refine R_tableIn (tgt := 127) dX10_most_17 (by rw [hs15]; decide) (by rw [hs15]; decide) (by rw [hs15]; rfl) (by decide) ?_
                    refine R_aload_n (i := 0) dX10_most_127 rfl rfl ?_
                    refine R_get foX10_29 hL0 (cE_10 Ω 0 _) rfl dX10_most_128 ?_
                    refine R_sipush (v := 1372) dX10_most_131 rfl ?_
                    refine R_iald (WF.kid hW 6 hL0 rfl) (cE_66 Ω 0 _) (vin 1372 1554 rfl) dX10_most_134 ?_
                    exact R_iret dX10_most_135 rfl h
                  · have h := hit_f h hs15
                    refine R_sw (tgt := 136) (lo := 0) (hi := 15) dX10_most_17 (fun z1 z2 => ?_) (by decide) ?_
                    · have e : x1.toInt = 0 ∨ x1.toInt = 1 ∨ x1.toInt = 2 ∨ x1.toInt = 3 ∨ x1.toInt = 4 ∨ x1.toInt = 5 ∨ x1.toInt = 6 ∨ x1.toInt = 7 ∨ x1.toInt = 8 ∨ x1.toInt = 9 ∨ x1.toInt = 10 ∨ x1.toInt = 11 ∨ x1.toInt = 12 ∨ x1.toInt = 13 ∨ x1.toInt = 14 ∨ x1.toInt = 15 := by omega
                      rcases e with e | e | e | e | e | e | e | e | e | e | e | e | e | e | e | e
                      · exact absurd (Int32.toInt_inj.mp (e.trans (by decide : (0 : Int) = (0 : Int32).toInt))) hs0
                      · exact absurd (Int32.toInt_inj.mp (e.trans (by decide : (1 : Int) = (1 : Int32).toInt))) hs1
                      · exact absurd (Int32.toInt_inj.mp (e.trans (by decide : (2 : Int) = (2 : Int32).toInt))) hs2
                      · exact absurd (Int32.toInt_inj.mp (e.trans (by decide : (3 : Int) = (3 : Int32).toInt))) hs3
                      · exact absurd (Int32.toInt_inj.mp (e.trans (by decide : (4 : Int) = (4 : Int32).toInt))) hs4
                      · rw [e]; rfl
                      · rw [e]; rfl
                      · rw [e]; rfl
                      · rw [e]; rfl
                      · rw [e]; rfl
                      · rw [e]; rfl
                      · rw [e]; rfl
                      · rw [e]; rfl
                      · exact absurd (Int32.toInt_inj.mp (e.trans (by decide : (13 : Int) = (13 : Int32).toInt))) hs13
                      · exact absurd (Int32.toInt_inj.mp (e.trans (by decide : (14 : Int) = (14 : Int32).toInt))) hs14
                      · exact absurd (Int32.toInt_inj.mp (e.trans (by decide : (15 : Int) = (15 : Int32).toInt))) hs15
                    refine R_iload_n (i := 1) dX10_most_136 rfl rfl ?_
                    refine R_i2l dX10_most_137 ?_
                    refine R_ldc2 (v := 5) mw_1739 dX10_most_138 ?_
                    refine R_ldc2 (v := 12) mw_1740 dX10_most_141 ?_
                    refine R_callSi (ctX10_isIn l Ω x1.toInt64 5 12 _ _ (hit_mono (hit_bd h) (fun r14 σ15 h => ?_))) okX10_isIn mw_1315 rfl rfl (Nat.le_of_ble_eq_true rfl) rfl rfl ⟨by decide, by decide⟩ dX10_most_144
                    refine R_if_eq (tgt := 165) dX10_most_147 (by decide) (fun hc => ?_) (fun hc => ?_)
                    · have h := hit_t h hc
                      refine R_ldcw (v := (-1000000)) mw_1613 dX10_most_165 ?_
                      exact R_iret dX10_most_168 rfl h
                    · have h := hit_f h hc
                      refine R_aload_n (i := 0) dX10_most_150 rfl rfl ?_
                      refine R_get foX10_29 hL0 (cE_10 Ω 0 _) rfl dX10_most_151 ?_
                      refine R_sipush (v := 1364) dX10_most_154 rfl ?_
                      refine R_iload_n (i := 1) dX10_most_157 rfl rfl ?_
                      refine R_iadd dX10_most_158 ?_
                      refine R_iconst (v := 5) dX10_most_159 rfl ?_
                      refine R_isub dX10_most_160 ?_
                      obtain ⟨hb, h⟩ := hit_bnd h
                      refine R_iald (WF.kid hW 6 hL0 rfl) (cE_66 Ω 0 _) hb dX10_most_161 ?_
                      refine R_goto (tgt := 168) dX10_most_162 (by decide) ?_
                      exact R_iret dX10_most_168 rfl h
  · have h := hit_t h hc
    refine R_ldcw (v := (-1000000)) mw_1613 dX10_most_12 ?_
    exact R_iret dX10_most_15 rfl h
set_option maxRecDepth 100000 in
set_option maxHeartbeats 4000000 in
theorem ctX10_count (l : Launch) (Ω : rO) (x1 : Int32) (hL0 : oL Ω 10 0) (σ : rS) (K : Int32 → rS → Prop) (h : hit (fX10_count x1 σ) K) : Ct l Ω yX10_count cX10_count 2 (some .int) rmX10_count [rf Ω 10 0, .int x1] σ K := by
  refine Ct.of (own := RX10) (lv := [some (rf Ω 10 0), some (.int x1)]) (by decide) rfl (Nat.le_of_ble_eq_true rfl) rfl (fun hW => ?_)
  unfold fX10_count at h
  refine R_aload_n (i := 0) dX10_count_0 rfl rfl ?_
  refine R_iconst (v := 0) dX10_count_1 rfl ?_
  refine R_put poX10_73 hL0 (cE_10 Ω 0 _) (cP_10_0 Ω 0 _ _) (Nat.le_of_ble_eq_true rfl) dX10_count_2 ?_
  refine R_st h (fun σ1 h => ?_)
  refine R_iload_n (i := 1) dX10_count_5 rfl rfl ?_
  by_cases hs0 : x1 = 0
  · have h := hit_t h hs0
    refine R_tableIn (tgt := 40) dX10_count_6 (by rw [hs0]; decide) (by rw [hs0]; decide) (by rw [hs0]; rfl) (by decide) ?_
    refine R_aload_n (i := 0) dX10_count_40 rfl rfl ?_
    refine R_get foX10_29 hL0 (cE_10 Ω 0 _) rfl dX10_count_41 ?_
    refine R_iconst (v := 0) dX10_count_44 rfl ?_
    refine R_iald (WF.kid hW 6 hL0 rfl) (cE_66 Ω 0 _) (vin 0 1554 rfl) dX10_count_45 ?_
    exact R_iret dX10_count_46 rfl h
  · have h := hit_f h hs0
    by_cases hs1 : x1 = 1
    · have h := hit_t h hs1
      refine R_tableIn (tgt := 47) dX10_count_6 (by rw [hs1]; decide) (by rw [hs1]; decide) (by rw [hs1]; rfl) (by decide) ?_
      refine R_aload_n (i := 0) dX10_count_47 rfl rfl ?_
      refine R_get foX10_152 hL0 (cE_10 Ω 0 _) rfl dX10_count_48 ?_
      exact R_iret dX10_count_51 rfl h
    · have h := hit_f h hs1
      by_cases hs2 : x1 = 2
      · have h := hit_t h hs2
        refine R_tableIn (tgt := 52) dX10_count_6 (by rw [hs2]; decide) (by rw [hs2]; decide) (by rw [hs2]; rfl) (by decide) ?_
        refine R_aload_n (i := 0) dX10_count_52 rfl rfl ?_
        refine R_get foX10_77 hL0 (cE_10 Ω 0 _) rfl dX10_count_53 ?_
        exact R_iret dX10_count_56 rfl h
      · have h := hit_f h hs2
        by_cases hs3 : x1 = 3
        · have h := hit_t h hs3
          refine R_tableIn (tgt := 57) dX10_count_6 (by rw [hs3]; decide) (by rw [hs3]; decide) (by rw [hs3]; rfl) (by decide) ?_
          refine R_aload_n (i := 0) dX10_count_57 rfl rfl ?_
          refine R_get foX10_29 hL0 (cE_10 Ω 0 _) rfl dX10_count_58 ?_
          refine R_sipush (v := 1373) dX10_count_61 rfl ?_
          refine R_iald (WF.kid hW 6 hL0 rfl) (cE_66 Ω 0 _) (vin 1373 1554 rfl) dX10_count_64 ?_
          exact R_iret dX10_count_65 rfl h
        · have h := hit_f h hs3
          by_cases hs4 : x1 = 4
          · have h := hit_t h hs4
            refine R_tableIn (tgt := 66) dX10_count_6 (by rw [hs4]; decide) (by rw [hs4]; decide) (by rw [hs4]; rfl) (by decide) ?_
            refine R_aload_n (i := 0) dX10_count_66 rfl rfl ?_
            refine R_get foX10_161 hL0 (cE_10 Ω 0 _) rfl dX10_count_67 ?_
            exact R_iret dX10_count_70 rfl h
          · have h := hit_f h hs4
            refine R_sw (tgt := 71) (lo := 0) (hi := 4) dX10_count_6 (fun z1 z2 => ?_) (by decide) ?_
            · have e : x1.toInt = 0 ∨ x1.toInt = 1 ∨ x1.toInt = 2 ∨ x1.toInt = 3 ∨ x1.toInt = 4 := by omega
              rcases e with e | e | e | e | e
              · exact absurd (Int32.toInt_inj.mp (e.trans (by decide : (0 : Int) = (0 : Int32).toInt))) hs0
              · exact absurd (Int32.toInt_inj.mp (e.trans (by decide : (1 : Int) = (1 : Int32).toInt))) hs1
              · exact absurd (Int32.toInt_inj.mp (e.trans (by decide : (2 : Int) = (2 : Int32).toInt))) hs2
              · exact absurd (Int32.toInt_inj.mp (e.trans (by decide : (3 : Int) = (3 : Int32).toInt))) hs3
              · exact absurd (Int32.toInt_inj.mp (e.trans (by decide : (4 : Int) = (4 : Int32).toInt))) hs4
            refine R_ldcw (v := (-1000000)) mw_1613 dX10_count_71 ?_
            exact R_iret dX10_count_74 rfl h
