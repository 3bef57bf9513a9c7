set_option maxRecDepth 100000 in
set_option maxHeartbeats 4000000 in
theorem ctX9_isRoot (l : Launch) (Ω : rO) (x0 : Int32) (σ : rS) (K : Int32 → rS → Prop) (h : hit (fX9_isRoot x0 σ) K) : Ct l Ω yX9_isRoot cX9_isRoot 1 (some .boolean) rmX9_isRoot [.int x0] σ K := by
  refine Ct.of (own := RX9) (lv := [some (.int x0)]) (by decide) rfl (Nat.le_of_ble_eq_true rfl) rfl (fun hW => ?_)
  unfold fX9_isRoot at h
  refine R_iload_n (i := 0) dX9_isRoot_0 rfl rfl ?_
  refine R_if_lt (tgt := 14) dX9_isRoot_1 (by decide) (fun hc => ?_) (fun hc => ?_)
  · have h := hit_t h hc
    refine R_iconst (v := 0) dX9_isRoot_14 rfl ?_
    exact R_zret dX9_isRoot_15 rfl (Or.inl rfl) h
  · have h := hit_f h hc
    refine R_iload_n (i := 0) dX9_isRoot_4 rfl rfl ?_
    refine R_bipush (v := 8) dX9_isRoot_5 rfl ?_
    refine R_icmp_ge (tgt := 14) dX9_isRoot_7 (by decide) (fun hc => ?_) (fun hc => ?_)
    · have h := hit_f h hc
      refine R_iconst (v := 0) dX9_isRoot_14 rfl ?_
      exact R_zret dX9_isRoot_15 rfl (Or.inl rfl) h
    · have h := hit_t h hc
      refine R_iconst (v := 1) dX9_isRoot_10 rfl ?_
      refine R_goto (tgt := 15) dX9_isRoot_11 (by decide) ?_
      exact R_zret dX9_isRoot_15 rfl (Or.inr rfl) h
set_option maxRecDepth 100000 in
set_option maxHeartbeats 4000000 in
theorem ctX7_isYoung (l : Launch) (Ω : rO) (k0 : Nat) (x1 : Int32) (hL0 : oL Ω 7 k0) (σ : rS) (K : Int32 → rS → Prop) (h : hit (fX7_isYoung k0 x1 σ) K) : Ct l Ω yX7_isYoung cX7_isYoung 2 (some .boolean) rmX7_isYoung [rf Ω 7 k0, .int x1] σ K := by
  refine Ct.of (own := RX7) (lv := [some (rf Ω 7 k0), some (.int x1)]) (by decide) rfl (Nat.le_of_ble_eq_true rfl) rfl (fun hW => ?_)
  unfold fX7_isYoung at h
  refine R_iload_n (i := 1) dX7_isYoung_0 rfl rfl ?_
  refine R_if_lt (tgt := 26) dX7_isYoung_1 (by decide) (fun hc => ?_) (fun hc => ?_)
  · have h := hit_t h hc
    refine R_iconst (v := 0) dX7_isYoung_26 rfl ?_
    exact R_zret dX7_isYoung_27 rfl (Or.inl rfl) h
  · have h := hit_f h hc
    refine R_iload_n (i := 1) dX7_isYoung_4 rfl rfl ?_
    refine R_aload_n (i := 0) dX7_isYoung_5 rfl rfl ?_
    refine R_get foX7_75 hL0 (cE_7 Ω k0 _) rfl dX7_isYoung_6 ?_
    refine R_icmp_ge (tgt := 26) dX7_isYoung_9 (by decide) (fun hc => ?_) (fun hc => ?_)
    · have h := hit_f h hc
      refine R_iconst (v := 0) dX7_isYoung_26 rfl ?_
      exact R_zret dX7_isYoung_27 rfl (Or.inl rfl) h
    · have h := hit_t h hc
      refine R_aload_n (i := 0) dX7_isYoung_12 rfl rfl ?_
      refine R_get foX7_27 hL0 (cE_7 Ω k0 _) rfl dX7_isYoung_13 ?_
      refine R_iload_n (i := 1) dX7_isYoung_16 rfl rfl ?_
      obtain ⟨hb, h⟩ := hit_bnd h
      refine R_iald (WF.kid hW 5 hL0 rfl) (cE_50 Ω k0 _) hb dX7_isYoung_17 ?_
      refine R_iconst (v := 2) dX7_isYoung_18 rfl ?_
      refine R_icmp_eq (tgt := 26) dX7_isYoung_19 (by decide) (fun hc => ?_) (fun hc => ?_)
      · have h := hit_t h hc
        refine R_iconst (v := 0) dX7_isYoung_26 rfl ?_
        exact R_zret dX7_isYoung_27 rfl (Or.inl rfl) h
      · have h := hit_f h hc
        refine R_iconst (v := 1) dX7_isYoung_22 rfl ?_
        refine R_goto (tgt := 27) dX7_isYoung_23 (by decide) ?_
        exact R_zret dX7_isYoung_27 rfl (Or.inr rfl) h
set_option maxRecDepth 100000 in
set_option maxHeartbeats 4000000 in
theorem rnX1_beginPlan_j57L31 {l : Launch} {Ω : rO} (hW : WF Ω) (k1 : Nat) (x2 : Int32) (z0 : Int32) (z1 : Int32) (hL0 : oL Ω 1 0) (hL1 : oL Ω 7 k1) (hz2 : oL Ω 38 0) (σ : rS) {K : Int32 → rS → Prop} {K0 : (Int32 ⊕ Unit) → rS → Prop} (hC : ∀ (x2 : Int32) (σ : rS), K0 (.inl x2) σ → Run l Ω cX1_beginPlan RX1 3 none rmX1_beginPlan K 31 [some (rf Ω 1 0), some (rf Ω 7 k1), some (.int x2)] [] σ) (hE0 : ∀ (e : Unit) (σ : rS), K0 (.inr e) σ → Run l Ω cX1_beginPlan RX1 3 none rmX1_beginPlan K 64 [none, none, none] [] σ) (h : hit (fX1_beginPlan_j57L31 k1 x2 z0 z1 σ) K0) : Run l Ω cX1_beginPlan RX1 3 none rmX1_beginPlan K 57 [some (rf Ω 1 0), some (rf Ω 7 k1), some (.int x2)] [.int z0, .int z1, rf Ω 38 0] σ := by
  unfold fX1_beginPlan_j57L31 at h
  obtain ⟨hb, h⟩ := hit_bnd h
  refine R_iast hz2 (cE_38 Ω 0) hb dX1_beginPlan_57 ?_
  refine R_st h (fun σ7 h => ?_)
  refine R_iinc (v := x2 + 1) (lv2 := [some (rf Ω 1 0), some (rf Ω 7 k1), some (.int (x2 + 1))]) dX1_beginPlan_58 rfl rfl (by decide) rfl rfl ?_
  refine R_goto (tgt := 31) dX1_beginPlan_61 (by decide) ?_
  exact hC (x2 + 1) σ7 h
set_option maxRecDepth 100000 in
set_option maxHeartbeats 4000000 in
theorem rsX1_beginPlan_L31 {l : Launch} {Ω : rO} (hW : WF Ω) (k1 : Nat) (x2 : Int32) (hL0 : oL Ω 1 0) (hL1 : oL Ω 7 k1) (σ : rS) {K : Int32 → rS → Prop} {K0 : (Int32 ⊕ Unit) → rS → Prop} (hC : ∀ (x2 : Int32) (σ : rS), K0 (.inl x2) σ → Run l Ω cX1_beginPlan RX1 3 none rmX1_beginPlan K 31 [some (rf Ω 1 0), some (rf Ω 7 k1), some (.int x2)] [] σ) (hE0 : ∀ (e : Unit) (σ : rS), K0 (.inr e) σ → Run l Ω cX1_beginPlan RX1 3 none rmX1_beginPlan K 64 [none, none, none] [] σ) (h : hit (fX1_beginPlan_L31 k1 x2 σ) K0) : Run l Ω cX1_beginPlan RX1 3 none rmX1_beginPlan K 31 [some (rf Ω 1 0), some (rf Ω 7 k1), some (.int x2)] [] σ := by
  unfold fX1_beginPlan_L31 at h
  refine R_iload_n (i := 2) dX1_beginPlan_31 rfl rfl ?_
  refine R_aload_n (i := 1) dX1_beginPlan_32 rfl rfl ?_
  refine R_get foX1_123 hL1 (cE_7 Ω k1 _) rfl dX1_beginPlan_33 ?_
  refine R_icmp_ge (tgt := 64) dX1_beginPlan_36 (by decide) (fun hc => ?_) (fun hc => ?_)
  · have h := hit_f h hc
    refine R_drop (lv2 := [none, some (rf Ω 7 k1), some (.int x2)]) 0 rfl ?_
    refine R_drop (lv2 := [none, none, some (.int x2)]) 1 rfl ?_
    refine R_drop (lv2 := [none, none, none]) 2 rfl ?_
    exact hE0 () σ h
  · have h := hit_t h hc
    refine R_aload_n (i := 0) dX1_beginPlan_39 rfl rfl ?_
    refine R_get foX1_15 hL0 (cE_1 Ω 0 _) rfl dX1_beginPlan_40 ?_
    refine R_iload_n (i := 2) dX1_beginPlan_43 rfl rfl ?_
    refine R_aload_n (i := 1) dX1_beginPlan_44 rfl rfl ?_
    refine R_iload_n (i := 2) dX1_beginPlan_45 rfl rfl ?_
    refine R_callVi (ctX7_isYoung l Ω k1 x2 hL1 _ _ (hit_mono (hit_bd h) (fun r5 σ6 h => ?_))) okX7_isYoung mw_628 hL1 (cE_7 Ω k1 _) rfl rfl (Nat.le_of_ble_eq_true rfl) rfl rfl ⟨by decide, by decide⟩ ⟨Nat.zero_le _, Nat.zero_le _⟩ dX1_beginPlan_46
    refine R_if_eq (tgt := 56) dX1_beginPlan_49 (by decide) (fun hc => ?_) (fun hc => ?_)
    · have h := hit_t h hc
      refine R_iconst (v := 1) dX1_beginPlan_56 rfl ?_
      exact rnX1_beginPlan_j57L31 hW k1 x2 1 x2 hL0 hL1 (WF.kid hW 3 hL0 rfl) σ6 hC hE0 h
    · have h := hit_f h hc
      refine R_iconst (v := 0) dX1_beginPlan_52 rfl ?_
      refine R_goto (tgt := 57) dX1_beginPlan_53 (by decide) ?_
      exact rnX1_beginPlan_j57L31 hW k1 x2 0 x2 hL0 hL1 (WF.kid hW 3 hL0 rfl) σ6 hC hE0 h
set_option maxRecDepth 100000 in
set_option maxHeartbeats 4000000 in
theorem rlX1_beginPlan_L31 {l : Launch} {Ω : rO} (hW : WF Ω) (k1 : Nat) (hL0 : oL Ω 1 0) (hL1 : oL Ω 7 k1) {K : Int32 → rS → Prop} {KE : Unit → rS → Prop} (hE0 : ∀ (e : Unit) (σ : rS), KE e σ → Run l Ω cX1_beginPlan RX1 3 none rmX1_beginPlan K 64 [none, none, none] [] σ) : ∀ (n : Nat) (x2 : Int32) (σ : rS), hit (lp (fun (x : Int32) σ => fX1_beginPlan_L31 k1 x σ) n x2 σ) KE → Run l Ω cX1_beginPlan RX1 3 none rmX1_beginPlan K 31 [some (rf Ω 1 0), some (rf Ω 7 k1), some (.int x2)] [] σ := by
  intro n
  induction n with
  | zero => intro x2 σ h; exact (h : False).elim
  | succ n ih =>
    intro x2 σ h
    exact rsX1_beginPlan_L31 hW k1 x2 hL0 hL1 σ (fun x2 σ h => ih x2 σ h) (fun e σ h => hE0 e σ h) (hit_lp h)
set_option maxRecDepth 100000 in
set_option maxHeartbeats 4000000 in
theorem ctX1_beginPlan (l : Launch) (Ω : rO) (k1 : Nat) (hL0 : oL Ω 1 0) (hL1 : oL Ω 7 k1) (σ : rS) (K : Int32 → rS → Prop) (h : hit (fX1_beginPlan k1 σ) K) : Ct l Ω yX1_beginPlan cX1_beginPlan 3 none rmX1_beginPlan [rf Ω 1 0, rf Ω 7 k1] σ K := by
  refine Ct.of (own := RX1) (lv := [some (rf Ω 1 0), some (rf Ω 7 k1), none]) (by decide) rfl (Nat.le_of_ble_eq_true rfl) rfl (fun hW => ?_)
  unfold fX1_beginPlan at h
  refine R_aload_n (i := 0) dX1_beginPlan_0 rfl rfl ?_
  refine R_iconst (v := 0) dX1_beginPlan_1 rfl ?_
  refine R_put poX1_116 hL0 (cE_1 Ω 0 _) (cP_1_10 Ω 0 _ _) (Nat.le_of_ble_eq_true rfl) dX1_beginPlan_2 ?_
  refine R_st h (fun σ1 h => ?_)
  refine R_aload_n (i := 0) dX1_beginPlan_5 rfl rfl ?_
  refine R_iconst (v := 0) dX1_beginPlan_6 rfl ?_
  refine R_putz poX1_57 hL0 (cE_1 Ω 0 _) (cP_1_11 Ω 0 _ _) (Nat.le_of_ble_eq_true rfl) (Or.inl rfl) dX1_beginPlan_7 ?_
  refine R_st h (fun σ2 h => ?_)
  refine R_aload_n (i := 0) dX1_beginPlan_10 rfl rfl ?_
  refine R_get foX1_30 hL0 (cE_1 Ω 0 _) rfl dX1_beginPlan_11 ?_
  refine R_iconst (v := 1) dX1_beginPlan_14 rfl ?_
  refine R_iconst (v := 0) dX1_beginPlan_15 rfl ?_
  refine R_iast (WF.kid hW 8 hL0 rfl) (cE_43 Ω 0) (vin 1 3 rfl) dX1_beginPlan_16 ?_
  refine R_st h (fun σ3 h => ?_)
  refine R_aload_n (i := 0) dX1_beginPlan_17 rfl rfl ?_
  refine R_get foX1_30 hL0 (cE_1 Ω 0 _) rfl dX1_beginPlan_18 ?_
  refine R_iconst (v := 2) dX1_beginPlan_21 rfl ?_
  refine R_aload_n (i := 1) dX1_beginPlan_22 rfl rfl ?_
  refine R_get foX1_120 hL1 (cE_7 Ω k1 _) rfl dX1_beginPlan_23 ?_
  refine R_iconst (v := 2) dX1_beginPlan_26 rfl ?_
  refine R_iald (WF.kid hW 9 hL1 rfl) (cE_54 Ω k1 _) (vin 2 3 rfl) dX1_beginPlan_27 ?_
  refine R_iast (WF.kid hW 8 hL0 rfl) (cE_43 Ω 0) (vin 2 3 rfl) dX1_beginPlan_28 ?_
  refine R_st h (fun σ4 h => ?_)
  refine R_iconst (v := 0) dX1_beginPlan_29 rfl ?_
  refine R_istore_n (lv2 := [some (rf Ω 1 0), some (rf Ω 7 k1), some (.int 0)]) dX1_beginPlan_30 rfl (by decide) rfl rfl ?_
  refine rlX1_beginPlan_L31 hW k1 hL0 hL1 ?_ fu 0 σ4 (hit_bd h)
  · intro e9 σ8 h
    try dsimp only at h
    exact R_vret dX1_beginPlan_64 rfl h
set_option maxRecDepth 100000 in
set_option maxHeartbeats 4000000 in
theorem rnX1_planMove_j91 {l : Launch} {Ω : rO} (hW : WF Ω) (x2 : Int32) (x3 : Int32) (x4 : Int32) (z0 : Int32) (hL0 : oL Ω 1 0) (σ : rS) {K : Int32 → rS → Prop}  (h : hit (fX1_planMove_j91 x2 x3 x4 z0 σ) K) : Run l Ω cX1_planMove RX1 7 none rmX1_planMove K 91 [some (rf Ω 1 0), none, some (.int x2), some (.int x3), some (.int x4), none, none] [.int z0] σ := by
  unfold fX1_planMove_j91 at h
  refine R_istore (lv2 := [some (rf Ω 1 0), none, some (.int x2), some (.int x3), some (.int x4), none, some (.int z0)]) dX1_planMove_91 (by decide) rfl rfl ?_
  refine R_aload_n (i := 0) dX1_planMove_93 rfl rfl ?_
  refine R_get foX1_30 hL0 (cE_1 Ω 0 _) rfl dX1_planMove_94 ?_
  refine R_iload (i := 6) dX1_planMove_97 rfl ?_
  obtain ⟨hb, h⟩ := hit_bnd h
  refine R_iald (WF.kid hW 8 hL0 rfl) (cE_43 Ω 0 _) hb dX1_planMove_99 ?_
  refine R_iload (i := 4) dX1_planMove_100 rfl ?_
  refine R_iadd dX1_planMove_102 ?_
  refine R_aload_n (i := 0) dX1_planMove_103 rfl rfl ?_
  refine R_get foX1_36 hL0 (cE_1 Ω 0 _) rfl dX1_planMove_104 ?_
  refine R_iload (i := 6) dX1_planMove_107 rfl ?_
  obtain ⟨hb, h⟩ := hit_bnd h
  refine R_iald (WF.kid hW 0 hL0 rfl) (cE_20 Ω 0 _) hb dX1_planMove_109 ?_
  refine R_icmp_le (tgt := 119) dX1_planMove_110 (by decide) (fun hc => ?_) (fun hc => ?_)
  · have h := hit_f h hc
    refine R_aload_n (i := 0) dX1_planMove_119 rfl rfl ?_
    refine R_get foX1_21 hL0 (cE_1 Ω 0 _) rfl dX1_planMove_120 ?_
    refine R_iload_n (i := 2) dX1_planMove_123 rfl rfl ?_
    refine R_iload (i := 6) dX1_planMove_124 rfl ?_
    obtain ⟨hb, h⟩ := hit_bnd h
    refine R_iast (WF.kid hW 5 hL0 rfl) (cE_40 Ω 0) hb dX1_planMove_126 ?_
    refine R_st h (fun σ2 h => ?_)
    refine R_aload_n (i := 0) dX1_planMove_127 rfl rfl ?_
    refine R_get foX1_24 hL0 (cE_1 Ω 0 _) rfl dX1_planMove_128 ?_
    refine R_iload_n (i := 2) dX1_planMove_131 rfl rfl ?_
    refine R_aload_n (i := 0) dX1_planMove_132 rfl rfl ?_
    refine R_get foX1_30 hL0 (cE_1 Ω 0 _) rfl dX1_planMove_133 ?_
    refine R_iload (i := 6) dX1_planMove_136 rfl ?_
    obtain ⟨hb, h⟩ := hit_bnd h
    refine R_iald (WF.kid hW 8 hL0 rfl) (cE_43 Ω 0 _) hb dX1_planMove_138 ?_
    obtain ⟨hb, h⟩ := hit_bnd h
    refine R_iast (WF.kid hW 6 hL0 rfl) (cE_41 Ω 0) hb dX1_planMove_139 ?_
    refine R_st h (fun σ3 h => ?_)
    refine R_aload_n (i := 0) dX1_planMove_140 rfl rfl ?_
    refine R_get foX1_30 hL0 (cE_1 Ω 0 _) rfl dX1_planMove_141 ?_
    refine R_iload (i := 6) dX1_planMove_144 rfl ?_
    refine R_dup2 dX1_planMove_146 rfl rfl ?_
    obtain ⟨hb, h⟩ := hit_bnd h
    refine R_iald (WF.kid hW 8 hL0 rfl) (cE_43 Ω 0 _) hb dX1_planMove_147 ?_
    refine R_iload (i := 4) dX1_planMove_148 rfl ?_
    refine R_iadd dX1_planMove_150 ?_
    obtain ⟨hb, h⟩ := hit_bnd h
    refine R_iast (WF.kid hW 8 hL0 rfl) (cE_43 Ω 0) hb dX1_planMove_151 ?_
    refine R_st h (fun σ4 h => ?_)
    refine R_aload_n (i := 0) dX1_planMove_152 rfl rfl ?_
    refine R_get foX1_15 hL0 (cE_1 Ω 0 _) rfl dX1_planMove_153 ?_
    refine R_iload_n (i := 2) dX1_planMove_156 rfl rfl ?_
    refine R_iload_n (i := 3) dX1_planMove_157 rfl rfl ?_
    obtain ⟨hb, h⟩ := hit_bnd h
    refine R_iast (WF.kid hW 3 hL0 rfl) (cE_38 Ω 0) hb dX1_planMove_158 ?_
    refine R_st h (fun σ5 h => ?_)
    refine R_aload_n (i := 0) dX1_planMove_159 rfl rfl ?_
    refine R_get foX1_18 hL0 (cE_1 Ω 0 _) rfl dX1_planMove_160 ?_
    refine R_aload_n (i := 0) dX1_planMove_163 rfl rfl ?_
    refine R_get foX1_116 hL0 (cE_1 Ω 0 _) rfl dX1_planMove_164 ?_
    refine R_iload_n (i := 2) dX1_planMove_167 rfl rfl ?_
    obtain ⟨hb, h⟩ := hit_bnd h
    refine R_iast (WF.kid hW 4 hL0 rfl) (cE_39 Ω 0) hb dX1_planMove_168 ?_
    refine R_st h (fun σ6 h => ?_)
    refine R_aload_n (i := 0) dX1_planMove_169 rfl rfl ?_
    refine R_dup dX1_planMove_170 rfl ?_
    refine R_get foX1_116 hL0 (cE_1 Ω 0 _) rfl dX1_planMove_171 ?_
    refine R_iconst (v := 1) dX1_planMove_174 rfl ?_
    refine R_iadd dX1_planMove_175 ?_
    refine R_put poX1_116 hL0 (cE_1 Ω 0 _) (cP_1_10 Ω 0 _ _) (Nat.le_of_ble_eq_true rfl) dX1_planMove_176 ?_
    refine R_st h (fun σ7 h => ?_)
    exact R_vret dX1_planMove_179 rfl h
  · have h := hit_t h hc
    refine R_aload_n (i := 0) dX1_planMove_113 rfl rfl ?_
    refine R_iconst (v := 1) dX1_planMove_114 rfl ?_
    refine R_putz poX1_57 hL0 (cE_1 Ω 0 _) (cP_1_11 Ω 0 _ _) (Nat.le_of_ble_eq_true rfl) (Or.inr rfl) dX1_planMove_115 ?_
    refine R_st h (fun σ8 h => ?_)
    exact R_vret dX1_planMove_118 rfl h
set_option maxRecDepth 100000 in
set_option maxHeartbeats 4000000 in
theorem rnX1_planMove_j79 {l : Launch} {Ω : rO} (hW : WF Ω) (x2 : Int32) (x3 : Int32) (x4 : Int32) (z0 : Int32) (hL0 : oL Ω 1 0) (σ : rS) {K : Int32 → rS → Prop}  (h : hit (fX1_planMove_j79 x2 x3 x4 z0 σ) K) : Run l Ω cX1_planMove RX1 7 none rmX1_planMove K 79 [some (rf Ω 1 0), none, some (.int x2), some (.int x3), some (.int x4), none, none] [.int z0] σ := by
  unfold fX1_planMove_j79 at h
  refine R_istore (lv2 := [some (rf Ω 1 0), none, some (.int x2), some (.int x3), some (.int x4), some (.int z0), none]) dX1_planMove_79 (by decide) rfl rfl ?_
  refine R_iload (i := 5) dX1_planMove_81 rfl ?_
  refine R_if_eq (tgt := 90) dX1_planMove_83 (by decide) (fun hc => ?_) (fun hc => ?_)
  · have h := hit_t h hc
    refine R_iconst (v := 2) dX1_planMove_90 rfl ?_
    refine R_drop (lv2 := [some (rf Ω 1 0), none, some (.int x2), some (.int x3), some (.int x4), none, none]) 5 rfl ?_
    exact rnX1_planMove_j91 hW x2 x3 x4 2 hL0 σ  h
  · have h := hit_f h hc
    refine R_iconst (v := 1) dX1_planMove_86 rfl ?_
    refine R_goto (tgt := 91) dX1_planMove_87 (by decide) ?_
    refine R_drop (lv2 := [some (rf Ω 1 0), none, some (.int x2), some (.int x3), some (.int x4), none, none]) 5 rfl ?_
    exact rnX1_planMove_j91 hW x2 x3 x4 1 hL0 σ  h
set_option maxRecDepth 100000 in
set_option maxHeartbeats 4000000 in
theorem rnX1_planMove_j78 {l : Launch} {Ω : rO} (hW : WF Ω) (x2 : Int32) (x3 : Int32) (x4 : Int32) (hL0 : oL Ω 1 0) (σ : rS) {K : Int32 → rS → Prop}  (h : hit (fX1_planMove_j78 x2 x3 x4 σ) K) : Run l Ω cX1_planMove RX1 7 none rmX1_planMove K 78 [some (rf Ω 1 0), none, some (.int x2), some (.int x3), some (.int x4), none, none] [] σ := by
  unfold fX1_planMove_j78 at h
  refine R_iconst (v := 0) dX1_planMove_78 rfl ?_
  exact rnX1_planMove_j79 hW x2 x3 x4 0 hL0 σ  h
set_option maxRecDepth 100000 in
set_option maxHeartbeats 4000000 in
theorem ctX1_planMove (l : Launch) (Ω : rO) (k1 : Nat) (x2 : Int32) (x3 : Int32) (hL0 : oL Ω 1 0) (hL1 : oL Ω 7 k1) (σ : rS) (K : Int32 → rS → Prop) (h : hit (fX1_planMove k1 x2 x3 σ) K) : Ct l Ω yX1_planMove cX1_planMove 7 none rmX1_planMove [rf Ω 1 0, rf Ω 7 k1, .int x2, .int x3] σ K := by
  refine Ct.of (own := RX1) (lv := [some (rf Ω 1 0), some (rf Ω 7 k1), some (.int x2), some (.int x3), none, none, none]) (by decide) rfl (Nat.le_of_ble_eq_true rfl) rfl (fun hW => ?_)
  unfold fX1_planMove at h
  refine R_aload_n (i := 0) dX1_planMove_0 rfl rfl ?_
  refine R_get foX1_57 hL0 (cE_1 Ω 0 _) rfl dX1_planMove_1 ?_
  refine R_if_ne (tgt := 28) dX1_planMove_4 (by decide) (fun hc => ?_) (fun hc => ?_)
  · have h := hit_f h hc
    exact R_vret dX1_planMove_28 rfl h
  · have h := hit_t h hc
    refine R_iload_n (i := 2) dX1_planMove_7 rfl rfl ?_
    refine R_if_lt (tgt := 28) dX1_planMove_8 (by decide) (fun hc => ?_) (fun hc => ?_)
    · have h := hit_t h hc
      exact R_vret dX1_planMove_28 rfl h
    · have h := hit_f h hc
      refine R_iload_n (i := 2) dX1_planMove_11 rfl rfl ?_
      refine R_aload_n (i := 1) dX1_planMove_12 rfl rfl ?_
      refine R_get foX1_123 hL1 (cE_7 Ω k1 _) rfl dX1_planMove_13 ?_
      refine R_icmp_ge (tgt := 28) dX1_planMove_16 (by decide) (fun hc => ?_) (fun hc => ?_)
      · have h := hit_f h hc
        exact R_vret dX1_planMove_28 rfl h
      · have h := hit_t h hc
        refine R_aload_n (i := 0) dX1_planMove_19 rfl rfl ?_
        refine R_get foX1_15 hL0 (cE_1 Ω 0 _) rfl dX1_planMove_20 ?_
        refine R_iload_n (i := 2) dX1_planMove_23 rfl rfl ?_
        obtain ⟨hb, h⟩ := hit_bnd h
        refine R_iald (WF.kid hW 3 hL0 rfl) (cE_38 Ω 0 _) hb dX1_planMove_24 ?_
        refine R_if_eq (tgt := 29) dX1_planMove_25 (by decide) (fun hc => ?_) (fun hc => ?_)
        · have h := hit_t h hc
          refine R_iconst (v := 3) dX1_planMove_29 rfl ?_
          refine R_aload_n (i := 1) dX1_planMove_30 rfl rfl ?_
          refine R_get foX1_165 hL1 (cE_7 Ω k1 _) rfl dX1_planMove_31 ?_
          refine R_iload_n (i := 2) dX1_planMove_34 rfl rfl ?_
          obtain ⟨hb, h⟩ := hit_bnd h
          refine R_iald (WF.kid hW 2 hL1 rfl) (cE_47 Ω k1 _) hb dX1_planMove_35 ?_
          refine R_iadd dX1_planMove_36 ?_
          refine R_topi h (fun y1 h => ?_)
          refine R_istore (lv2 := [some (rf Ω 1 0), some (rf Ω 7 k1), some (.int x2), some (.int x3), some (.int y1), none, none]) dX1_planMove_37 (by decide) rfl rfl ?_
          refine R_aload_n (i := 1) dX1_planMove_39 rfl rfl ?_
          refine R_get foX1_168 hL1 (cE_7 Ω k1 _) rfl dX1_planMove_40 ?_
          refine R_iload_n (i := 2) dX1_planMove_43 rfl rfl ?_
          obtain ⟨hb, h⟩ := hit_bnd h
          refine R_iald (WF.kid hW 4 hL1 rfl) (cE_49 Ω k1 _) hb dX1_planMove_44 ?_
          refine R_iconst (v := 1) dX1_planMove_45 rfl ?_
          refine R_iadd dX1_planMove_46 ?_
          refine R_aload_n (i := 0) dX1_planMove_47 rfl rfl ?_
          refine R_get foX1_36 hL0 (cE_1 Ω 0 _) rfl dX1_planMove_48 ?_
          refine R_iconst (v := 3) dX1_planMove_51 rfl ?_
          refine R_iald (WF.kid hW 0 hL0 rfl) (cE_20 Ω 0 _) (vin 3 4 rfl) dX1_planMove_52 ?_
          refine R_icmp_ge (tgt := 78) dX1_planMove_53 (by decide) (fun hc => ?_) (fun hc => ?_)
          · have h := hit_f h hc
            refine R_drop (lv2 := [some (rf Ω 1 0), none, some (.int x2), some (.int x3), some (.int y1), none, none]) 1 rfl ?_
            exact rnX1_planMove_j78 hW x2 x3 y1 hL0 σ  h
          · have h := hit_t h hc
            refine R_aload_n (i := 0) dX1_planMove_56 rfl rfl ?_
            refine R_get foX1_30 hL0 (cE_1 Ω 0 _) rfl dX1_planMove_57 ?_
            refine R_iconst (v := 1) dX1_planMove_60 rfl ?_
            refine R_iald (WF.kid hW 8 hL0 rfl) (cE_43 Ω 0 _) (vin 1 3 rfl) dX1_planMove_61 ?_
            refine R_iload (i := 4) dX1_planMove_62 rfl ?_
            refine R_iadd dX1_planMove_64 ?_
            refine R_aload_n (i := 0) dX1_planMove_65 rfl rfl ?_
            refine R_get foX1_36 hL0 (cE_1 Ω 0 _) rfl dX1_planMove_66 ?_
            refine R_iconst (v := 1) dX1_planMove_69 rfl ?_
            refine R_iald (WF.kid hW 0 hL0 rfl) (cE_20 Ω 0 _) (vin 1 4 rfl) dX1_planMove_70 ?_
            refine R_icmp_gt (tgt := 78) dX1_planMove_71 (by decide) (fun hc => ?_) (fun hc => ?_)
            · have h := hit_t h hc
              refine R_drop (lv2 := [some (rf Ω 1 0), none, some (.int x2), some (.int x3), some (.int y1), none, none]) 1 rfl ?_
              exact rnX1_planMove_j78 hW x2 x3 y1 hL0 σ  h
            · have h := hit_f h hc
              refine R_iconst (v := 1) dX1_planMove_74 rfl ?_
              refine R_goto (tgt := 79) dX1_planMove_75 (by decide) ?_
              refine R_drop (lv2 := [some (rf Ω 1 0), none, some (.int x2), some (.int x3), some (.int y1), none, none]) 1 rfl ?_
              exact rnX1_planMove_j79 hW x2 x3 y1 1 hL0 σ  h
        · have h := hit_f h hc
          exact R_vret dX1_planMove_28 rfl h
set_option maxRecDepth 100000 in
set_option maxHeartbeats 4000000 in
theorem ctX4_get (l : Launch) (Ω : rO) (k0 : Nat) (x1 : Int32) (hL0 : oL Ω 4 k0) (σ : rS) (K : Int32 → rS → Prop) (h : hit (fX4_get k0 x1 σ) K) : Ct l Ω yX4_get cX4_get 2 (some .int) rmX4_get [rf Ω 4 k0, .int x1] σ K := by
  refine Ct.of (own := RX4) (lv := [some (rf Ω 4 k0), some (.int x1)]) (by decide) rfl (Nat.le_of_ble_eq_true rfl) rfl (fun hW => ?_)
  unfold fX4_get at h
  refine R_iload_n (i := 1) dX4_get_0 rfl rfl ?_
  refine R_if_lt (tgt := 21) dX4_get_1 (by decide) (fun hc => ?_) (fun hc => ?_)
  · have h := hit_t h hc
    refine R_iconst (v := (-1)) dX4_get_21 rfl ?_
    exact R_iret dX4_get_22 rfl h
  · have h := hit_f h hc
    refine R_iload_n (i := 1) dX4_get_4 rfl rfl ?_
    refine R_aload_n (i := 0) dX4_get_5 rfl rfl ?_
    refine R_get foX4_21 hL0 (cE_4 Ω k0 _) rfl dX4_get_6 ?_
    refine R_icmp_ge (tgt := 21) dX4_get_9 (by decide) (fun hc => ?_) (fun hc => ?_)
    · have h := hit_f h hc
      refine R_iconst (v := (-1)) dX4_get_21 rfl ?_
      exact R_iret dX4_get_22 rfl h
    · have h := hit_t h hc
      refine R_aload_n (i := 0) dX4_get_12 rfl rfl ?_
      refine R_get foX4_15 hL0 (cE_4 Ω k0 _) rfl dX4_get_13 ?_
      refine R_iload_n (i := 1) dX4_get_16 rfl rfl ?_
      obtain ⟨hb, h⟩ := hit_bnd h
      refine R_iald (WF.kid hW 0 hL0 rfl) (cE_28 Ω k0 _) hb dX4_get_17 ?_
      refine R_goto (tgt := 22) dX4_get_18 (by decide) ?_
      exact R_iret dX4_get_22 rfl h
set_option maxRecDepth 100000 in
set_option maxHeartbeats 4000000 in
theorem ctX7_firstStrong (l : Launch) (Ω : rO) (k0 : Nat) (x1 : Int32) (hL0 : oL Ω 7 k0) (σ : rS) (K : Int32 → rS → Prop) (h : hit (fX7_firstStrong k0 x1 σ) K) : Ct l Ω yX7_firstStrong cX7_firstStrong 2 (some .int) rmX7_firstStrong [rf Ω 7 k0, .int x1] σ K := by
  refine Ct.of (own := RX7) (lv := [some (rf Ω 7 k0), some (.int x1)]) (by decide) rfl (Nat.le_of_ble_eq_true rfl) rfl (fun hW => ?_)
  unfold fX7_firstStrong at h
  refine R_iload_n (i := 1) dX7_firstStrong_0 rfl rfl ?_
  refine R_if_lt (tgt := 26) dX7_firstStrong_1 (by decide) (fun hc => ?_) (fun hc => ?_)
  · have h := hit_t h hc
    refine R_iconst (v := 0) dX7_firstStrong_26 rfl ?_
    exact R_iret dX7_firstStrong_27 rfl h
  · have h := hit_f h hc
    refine R_iload_n (i := 1) dX7_firstStrong_4 rfl rfl ?_
    refine R_aload_n (i := 0) dX7_firstStrong_5 rfl rfl ?_
    refine R_get foX7_75 hL0 (cE_7 Ω k0 _) rfl dX7_firstStrong_6 ?_
    refine R_icmp_ge (tgt := 26) dX7_firstStrong_9 (by decide) (fun hc => ?_) (fun hc => ?_)
    · have h := hit_f h hc
      refine R_iconst (v := 0) dX7_firstStrong_26 rfl ?_
      exact R_iret dX7_firstStrong_27 rfl h
    · have h := hit_t h hc
      refine R_aload_n (i := 0) dX7_firstStrong_12 rfl rfl ?_
      refine R_get foX7_15 hL0 (cE_7 Ω k0 _) rfl dX7_firstStrong_13 ?_
      refine R_iload_n (i := 1) dX7_firstStrong_16 rfl rfl ?_
      obtain ⟨hb, h⟩ := hit_bnd h
      refine R_iald (WF.kid hW 1 hL0 rfl) (cE_46 Ω k0 _) hb dX7_firstStrong_17 ?_
      refine R_iconst (v := 1) dX7_firstStrong_18 rfl ?_
      refine R_icmp_ne (tgt := 26) dX7_firstStrong_19 (by decide) (fun hc => ?_) (fun hc => ?_)
      · have h := hit_f h hc
        refine R_iconst (v := 0) dX7_firstStrong_26 rfl ?_
        exact R_iret dX7_firstStrong_27 rfl h
      · have h := hit_t h hc
        refine R_iconst (v := 1) dX7_firstStrong_22 rfl ?_
        refine R_goto (tgt := 27) dX7_firstStrong_23 (by decide) ?_
        exact R_iret dX7_firstStrong_27 rfl h
set_option maxRecDepth 100000 in
set_option maxHeartbeats 4000000 in
theorem ctX7_target (l : Launch) (Ω : rO) (k0 : Nat) (x1 : Int32) (x2 : Int32) (hL0 : oL Ω 7 k0) (σ : rS) (K : Int32 → rS → Prop) (h : hit (fX7_target k0 x1 x2 σ) K) : Ct l Ω yX7_target cX7_target 3 (some .int) rmX7_target [rf Ω 7 k0, .int x1, .int x2] σ K := by
  refine Ct.of (own := RX7) (lv := [some (rf Ω 7 k0), some (.int x1), some (.int x2)]) (by decide) rfl (Nat.le_of_ble_eq_true rfl) rfl (fun hW => ?_)
  unfold fX7_target at h
  refine R_iload_n (i := 1) dX7_target_0 rfl rfl ?_
  refine R_if_lt (tgt := 26) dX7_target_1 (by decide) (fun hc => ?_) (fun hc => ?_)
  · have h := hit_t h hc
    refine R_iconst (v := (-1)) dX7_target_26 rfl ?_
    exact R_iret dX7_target_27 rfl h
  · have h := hit_f h hc
    refine R_iload_n (i := 1) dX7_target_4 rfl rfl ?_
    refine R_aload_n (i := 0) dX7_target_5 rfl rfl ?_
    refine R_get foX7_75 hL0 (cE_7 Ω k0 _) rfl dX7_target_6 ?_
    refine R_icmp_ge (tgt := 26) dX7_target_9 (by decide) (fun hc => ?_) (fun hc => ?_)
    · have h := hit_f h hc
      refine R_iconst (v := (-1)) dX7_target_26 rfl ?_
      exact R_iret dX7_target_27 rfl h
    · have h := hit_t h hc
      refine R_iload_n (i := 2) dX7_target_12 rfl rfl ?_
      refine R_if_lt (tgt := 26) dX7_target_13 (by decide) (fun hc => ?_) (fun hc => ?_)
      · have h := hit_t h hc
        refine R_iconst (v := (-1)) dX7_target_26 rfl ?_
        exact R_iret dX7_target_27 rfl h
      · have h := hit_f h hc
        refine R_iload_n (i := 2) dX7_target_16 rfl rfl ?_
        refine R_aload_n (i := 0) dX7_target_17 rfl rfl ?_
        refine R_get foX7_18 hL0 (cE_7 Ω k0 _) rfl dX7_target_18 ?_
        refine R_iload_n (i := 1) dX7_target_21 rfl rfl ?_
        obtain ⟨hb, h⟩ := hit_bnd h
        refine R_iald (WF.kid hW 2 hL0 rfl) (cE_47 Ω k0 _) hb dX7_target_22 ?_
        refine R_icmp_lt (tgt := 28) dX7_target_23 (by decide) (fun hc => ?_) (fun hc => ?_)
        · have h := hit_t h hc
          refine R_aload_n (i := 0) dX7_target_28 rfl rfl ?_
          refine R_get foX7_33 hL0 (cE_7 Ω k0 _) rfl dX7_target_29 ?_
          refine R_iload_n (i := 1) dX7_target_32 rfl rfl ?_
          refine R_iconst (v := 4) dX7_target_33 rfl ?_
          refine R_imul dX7_target_34 ?_
          refine R_iload_n (i := 2) dX7_target_35 rfl rfl ?_
          refine R_iadd dX7_target_36 ?_
          obtain ⟨hb, h⟩ := hit_bnd h
          refine R_iald (WF.kid hW 7 hL0 rfl) (cE_52 Ω k0 _) hb dX7_target_37 ?_
          exact R_iret dX7_target_38 rfl h
        · have h := hit_f h hc
          refine R_iconst (v := (-1)) dX7_target_26 rfl ?_
          exact R_iret dX7_target_27 rfl h
set_option maxRecDepth 100000 in
set_option maxHeartbeats 4000000 in
theorem rsX1_planFromRoots_L2 {l : Launch} {Ω : rO} (hW : WF Ω) (k1 : Nat) (x2 : Int32) (hL0 : oL Ω 1 0) (hL1 : oL Ω 7 k1) (σ : rS) {K : Int32 → rS → Prop} {K0 : (Int32 ⊕ Unit) → rS → Prop} (hC : ∀ (x2 : Int32) (σ : rS), K0 (.inl x2) σ → Run l Ω cX1_planFromRoots RX1 6 none rmX1_planFromRoots K 2 [some (rf Ω 1 0), some (rf Ω 7 k1), some (.int x2), none, none, none] [] σ) (hE0 : ∀ (e : Unit) (σ : rS), K0 (.inr e) σ → Run l Ω cX1_planFromRoots RX1 6 none rmX1_planFromRoots K 26 [some (rf Ω 1 0), some (rf Ω 7 k1), none, none, none, none] [] σ) (h : hit (fX1_planFromRoots_L2 k1 x2 σ) K0) : Run l Ω cX1_planFromRoots RX1 6 none rmX1_planFromRoots K 2 [some (rf Ω 1 0), some (rf Ω 7 k1), some (.int x2), none, none, none] [] σ := by
  unfold fX1_planFromRoots_L2 at h
  refine R_iload_n (i := 2) dX1_planFromRoots_2 rfl rfl ?_
  refine R_bipush (v := 8) dX1_planFromRoots_3 rfl ?_
  refine R_icmp_ge (tgt := 26) dX1_planFromRoots_5 (by decide) (fun hc => ?_) (fun hc => ?_)
  · have h := hit_f h hc
    refine R_drop (lv2 := [some (rf Ω 1 0), some (rf Ω 7 k1), none, none, none, none]) 2 rfl ?_
    exact hE0 () σ h
  · have h := hit_t h hc
    refine R_aload_n (i := 0) dX1_planFromRoots_8 rfl rfl ?_
    refine R_aload_n (i := 1) dX1_planFromRoots_9 rfl rfl ?_
    refine R_aload_n (i := 1) dX1_planFromRoots_10 rfl rfl ?_
    refine R_get foX1_130 hL1 (cE_7 Ω k1 _) rfl dX1_planFromRoots_11 ?_
    refine R_iload_n (i := 2) dX1_planFromRoots_14 rfl rfl ?_
    obtain ⟨hb, h⟩ := hit_bnd h
    refine R_iald (WF.kid hW 8 hL1 rfl) (cE_53 Ω k1 _) hb dX1_planFromRoots_15 ?_
    refine R_iconst (v := 1) dX1_planFromRoots_16 rfl ?_
    refine R_callVv (ctX1_planMove l Ω k1 (σ 53 k1 (ix x2)) 1 hL0 hL1 _ _ (hit_mono (hit_bd h) (fun r1 σ2 h => ?_))) okX1_planMove mw_636 hL0 (cE_1 Ω 0 _) rfl rfl (Nat.le_of_ble_eq_true rfl) rfl rfl ⟨by decide, by decide⟩ ⟨Nat.zero_le _, Nat.zero_le _⟩ dX1_planFromRoots_17
    refine R_iinc (v := x2 + 1) (lv2 := [some (rf Ω 1 0), some (rf Ω 7 k1), some (.int (x2 + 1)), none, none, none]) dX1_planFromRoots_20 rfl rfl (by decide) rfl rfl ?_
    refine R_goto (tgt := 2) dX1_planFromRoots_23 (by decide) ?_
    exact hC (x2 + 1) σ2 h
set_option maxRecDepth 100000 in
set_option maxHeartbeats 4000000 in
theorem rlX1_planFromRoots_L2 {l : Launch} {Ω : rO} (hW : WF Ω) (k1 : Nat) (hL0 : oL Ω 1 0) (hL1 : oL Ω 7 k1) {K : Int32 → rS → Prop} {KE : Unit → rS → Prop} (hE0 : ∀ (e : Unit) (σ : rS), KE e σ → Run l Ω cX1_planFromRoots RX1 6 none rmX1_planFromRoots K 26 [some (rf Ω 1 0), some (rf Ω 7 k1), none, none, none, none] [] σ) : ∀ (n : Nat) (x2 : Int32) (σ : rS), hit (lp (fun (x : Int32) σ => fX1_planFromRoots_L2 k1 x σ) n x2 σ) KE → Run l Ω cX1_planFromRoots RX1 6 none rmX1_planFromRoots K 2 [some (rf Ω 1 0), some (rf Ω 7 k1), some (.int x2), none, none, none] [] σ := by
  intro n
  induction n with
  | zero => intro x2 σ h; exact (h : False).elim
  | succ n ih =>
    intro x2 σ h
    exact rsX1_planFromRoots_L2 hW k1 x2 hL0 hL1 σ (fun x2 σ h => ih x2 σ h) (fun e σ h => hE0 e σ h) (hit_lp h)
set_option maxRecDepth 100000 in
set_option maxHeartbeats 4000000 in
theorem rsX1_planFromRoots_L28 {l : Launch} {Ω : rO} (hW : WF Ω) (k1 : Nat) (x2 : Int32) (hL0 : oL Ω 1 0) (hL1 : oL Ω 7 k1) (σ : rS) {K : Int32 → rS → Prop} {K0 : (Int32 ⊕ Unit) → rS → Prop} (hC : ∀ (x2 : Int32) (σ : rS), K0 (.inl x2) σ → Run l Ω cX1_planFromRoots RX1 6 none rmX1_planFromRoots K 28 [some (rf Ω 1 0), some (rf Ω 7 k1), some (.int x2), none, none, none] [] σ) (hE0 : ∀ (e : Unit) (σ : rS), K0 (.inr e) σ → Run l Ω cX1_planFromRoots RX1 6 none rmX1_planFromRoots K 59 [some (rf Ω 1 0), some (rf Ω 7 k1), none, none, none, none] [] σ) (h : hit (fX1_planFromRoots_L28 k1 x2 σ) K0) : Run l Ω cX1_planFromRoots RX1 6 none rmX1_planFromRoots K 28 [some (rf Ω 1 0), some (rf Ω 7 k1), some (.int x2), none, none, none] [] σ := by
  unfold fX1_planFromRoots_L28 at h
  refine R_iload_n (i := 2) dX1_planFromRoots_28 rfl rfl ?_
  refine R_aload_n (i := 1) dX1_planFromRoots_29 rfl rfl ?_
  refine R_get foX1_136 hL1 (cE_7 Ω k1 _) rfl dX1_planFromRoots_30 ?_
  refine R_get foX1_140 (WF.kid hW 11 hL1 rfl) (cE_4 Ω (6 * k1 + 0) _) rfl dX1_planFromRoots_33 ?_
  refine R_icmp_ge (tgt := 59) dX1_planFromRoots_36 (by decide) (fun hc => ?_) (fun hc => ?_)
  · have h := hit_f h hc
    refine R_drop (lv2 := [some (rf Ω 1 0), some (rf Ω 7 k1), none, none, none, none]) 2 rfl ?_
    exact hE0 () σ h
  · have h := hit_t h hc
    refine R_aload_n (i := 0) dX1_planFromRoots_39 rfl rfl ?_
    refine R_aload_n (i := 1) dX1_planFromRoots_40 rfl rfl ?_
    refine R_aload_n (i := 1) dX1_planFromRoots_41 rfl rfl ?_
    refine R_get foX1_136 hL1 (cE_7 Ω k1 _) rfl dX1_planFromRoots_42 ?_
    refine R_iload_n (i := 2) dX1_planFromRoots_45 rfl rfl ?_
    refine R_callVi (ctX4_get l Ω (6 * k1 + 0) x2 (WF.kid hW 11 hL1 rfl) _ _ (hit_mono (hit_bd h) (fun r5 σ6 h => ?_))) okX4_get mw_640 (WF.kid hW 11 hL1 rfl) (cE_4 Ω (6 * k1 + 0) _) rfl rfl (Nat.le_of_ble_eq_true rfl) rfl rfl ⟨by decide, by decide⟩ ⟨Nat.zero_le _, Nat.zero_le _⟩ dX1_planFromRoots_46
    refine R_iconst (v := 1) dX1_planFromRoots_49 rfl ?_
    refine R_callVv (ctX1_planMove l Ω k1 r5 1 hL0 hL1 _ _ (hit_mono (hit_bd h) (fun r7 σ8 h => ?_))) okX1_planMove mw_636 hL0 (cE_1 Ω 0 _) rfl rfl (Nat.le_of_ble_eq_true rfl) rfl rfl ⟨by decide, by decide⟩ ⟨Nat.zero_le _, Nat.zero_le _⟩ dX1_planFromRoots_50
    refine R_iinc (v := x2 + 1) (lv2 := [some (rf Ω 1 0), some (rf Ω 7 k1), some (.int (x2 + 1)), none, none, none]) dX1_planFromRoots_53 rfl rfl (by decide) rfl rfl ?_
    refine R_goto (tgt := 28) dX1_planFromRoots_56 (by decide) ?_
    exact hC (x2 + 1) σ8 h
set_option maxRecDepth 100000 in
set_option maxHeartbeats 4000000 in
theorem rlX1_planFromRoots_L28 {l : Launch} {Ω : rO} (hW : WF Ω) (k1 : Nat) (hL0 : oL Ω 1 0) (hL1 : oL Ω 7 k1) {K : Int32 → rS → Prop} {KE : Unit → rS → Prop} (hE0 : ∀ (e : Unit) (σ : rS), KE e σ → Run l Ω cX1_planFromRoots RX1 6 none rmX1_planFromRoots K 59 [some (rf Ω 1 0), some (rf Ω 7 k1), none, none, none, none] [] σ) : ∀ (n : Nat) (x2 : Int32) (σ : rS), hit (lp (fun (x : Int32) σ => fX1_planFromRoots_L28 k1 x σ) n x2 σ) KE → Run l Ω cX1_planFromRoots RX1 6 none rmX1_planFromRoots K 28 [some (rf Ω 1 0), some (rf Ω 7 k1), some (.int x2), none, none, none] [] σ := by
  intro n
  induction n with
  | zero => intro x2 σ h; exact (h : False).elim
  | succ n ih =>
    intro x2 σ h
    exact rsX1_planFromRoots_L28 hW k1 x2 hL0 hL1 σ (fun x2 σ h => ih x2 σ h) (fun e σ h => hE0 e σ h) (hit_lp h)
set_option maxRecDepth 100000 in
set_option maxHeartbeats 4000000 in
theorem rnX1_planFromRoots_j116L61 {l : Launch} {Ω : rO} (hW : WF Ω) (k1 : Nat) (x2 : Int32) (hL0 : oL Ω 1 0) (hL1 : oL Ω 7 k1) (σ : rS) {K : Int32 → rS → Prop} {K0 : (Int32 ⊕ Unit) → rS → Prop} (hC : ∀ (x2 : Int32) (σ : rS), K0 (.inl x2) σ → Run l Ω cX1_planFromRoots RX1 6 none rmX1_planFromRoots K 61 [some (rf Ω 1 0), some (rf Ω 7 k1), some (.int x2), none, none, none] [] σ) (hE0 : ∀ (e : Unit) (σ : rS), K0 (.inr e) σ → Run l Ω cX1_planFromRoots RX1 6 none rmX1_planFromRoots K 122 [none, none, none, none, none, none] [] σ) (h : hit (fX1_planFromRoots_j116L61 k1 x2 σ) K0) : Run l Ω cX1_planFromRoots RX1 6 none rmX1_planFromRoots K 116 [some (rf Ω 1 0), some (rf Ω 7 k1), some (.int x2), none, none, none] [] σ := by
  unfold fX1_planFromRoots_j116L61 at h
  refine R_iinc (v := x2 + 1) (lv2 := [some (rf Ω 1 0), some (rf Ω 7 k1), some (.int (x2 + 1)), none, none, none]) dX1_planFromRoots_116 rfl rfl (by decide) rfl rfl ?_
  refine R_goto (tgt := 61) dX1_planFromRoots_119 (by decide) ?_
  exact hC (x2 + 1) σ h
set_option maxRecDepth 100000 in
set_option maxHeartbeats 4000000 in
theorem rsX1_planFromRoots_L61 {l : Launch} {Ω : rO} (hW : WF Ω) (k1 : Nat) (x2 : Int32) (hL0 : oL Ω 1 0) (hL1 : oL Ω 7 k1) (σ : rS) {K : Int32 → rS → Prop} {K0 : (Int32 ⊕ Unit) → rS → Prop} (hC : ∀ (x2 : Int32) (σ : rS), K0 (.inl x2) σ → Run l Ω cX1_planFromRoots RX1 6 none rmX1_planFromRoots K 61 [some (rf Ω 1 0), some (rf Ω 7 k1), some (.int x2), none, none, none] [] σ) (hE0 : ∀ (e : Unit) (σ : rS), K0 (.inr e) σ → Run l Ω cX1_planFromRoots RX1 6 none rmX1_planFromRoots K 122 [none, none, none, none, none, none] [] σ) (h : hit (fX1_planFromRoots_L61 k1 x2 σ) K0) : Run l Ω cX1_planFromRoots RX1 6 none rmX1_planFromRoots K 61 [some (rf Ω 1 0), some (rf Ω 7 k1), some (.int x2), none, none, none] [] σ := by
  unfold fX1_planFromRoots_L61 at h
  refine R_iload_n (i := 2) dX1_planFromRoots_61 rfl rfl ?_
  refine R_aload_n (i := 1) dX1_planFromRoots_62 rfl rfl ?_
  refine R_get foX1_149 hL1 (cE_7 Ω k1 _) rfl dX1_planFromRoots_63 ?_
  refine R_get foX1_140 (WF.kid hW 13 hL1 rfl) (cE_4 Ω (6 * k1 + 2) _) rfl dX1_planFromRoots_66 ?_
  refine R_icmp_ge (tgt := 122) dX1_planFromRoots_69 (by decide) (fun hc => ?_) (fun hc => ?_)
  · have h := hit_f h hc
    refine R_drop (lv2 := [none, some (rf Ω 7 k1), some (.int x2), none, none, none]) 0 rfl ?_
    refine R_drop (lv2 := [none, none, some (.int x2), none, none, none]) 1 rfl ?_
    refine R_drop (lv2 := [none, none, none, none, none, none]) 2 rfl ?_
    exact hE0 () σ h
  · have h := hit_t h hc
    refine R_aload_n (i := 1) dX1_planFromRoots_72 rfl rfl ?_
    refine R_get foX1_149 hL1 (cE_7 Ω k1 _) rfl dX1_planFromRoots_73 ?_
    refine R_iload_n (i := 2) dX1_planFromRoots_76 rfl rfl ?_
    refine R_callVi (ctX4_get l Ω (6 * k1 + 2) x2 (WF.kid hW 13 hL1 rfl) _ _ (hit_mono (hit_bd h) (fun r11 σ12 h => ?_))) okX4_get mw_640 (WF.kid hW 13 hL1 rfl) (cE_4 Ω (6 * k1 + 2) _) rfl rfl (Nat.le_of_ble_eq_true rfl) rfl rfl ⟨by decide, by decide⟩ ⟨Nat.zero_le _, Nat.zero_le _⟩ dX1_planFromRoots_77
    refine R_istore_n (lv2 := [some (rf Ω 1 0), some (rf Ω 7 k1), some (.int x2), some (.int r11), none, none]) dX1_planFromRoots_80 rfl (by decide) rfl rfl ?_
    refine R_iload_n (i := 3) dX1_planFromRoots_81 rfl rfl ?_
    refine R_iconst (v := 4) dX1_planFromRoots_82 rfl ?_
    refine R_idiv dX1_planFromRoots_83 (by decide) ?_
    refine R_topi h (fun y13 h => ?_)
    refine R_istore (lv2 := [some (rf Ω 1 0), some (rf Ω 7 k1), some (.int x2), some (.int r11), some (.int y13), none]) dX1_planFromRoots_84 (by decide) rfl rfl ?_
    refine R_iload_n (i := 3) dX1_planFromRoots_86 rfl rfl ?_
    refine R_iconst (v := 4) dX1_planFromRoots_87 rfl ?_
    refine R_irem dX1_planFromRoots_88 (by decide) ?_
    refine R_topi h (fun y14 h => ?_)
    refine R_istore (lv2 := [some (rf Ω 1 0), some (rf Ω 7 k1), some (.int x2), some (.int r11), some (.int y13), some (.int y14)]) dX1_planFromRoots_89 (by decide) rfl rfl ?_
    refine R_iload (i := 5) dX1_planFromRoots_91 rfl ?_
    refine R_aload_n (i := 1) dX1_planFromRoots_93 rfl rfl ?_
    refine R_iload (i := 4) dX1_planFromRoots_94 rfl ?_
    refine R_callVi (ctX7_firstStrong l Ω k1 y13 hL1 _ _ (hit_mono (hit_bd h) (fun r15 σ16 h => ?_))) okX7_firstStrong mw_644 hL1 (cE_7 Ω k1 _) rfl rfl (Nat.le_of_ble_eq_true rfl) rfl rfl ⟨by decide, by decide⟩ ⟨Nat.zero_le _, Nat.zero_le _⟩ dX1_planFromRoots_96
    refine R_icmp_lt (tgt := 116) dX1_planFromRoots_99 (by decide) (fun hc => ?_) (fun hc => ?_)
    · have h := hit_t h hc
      refine R_drop (lv2 := [some (rf Ω 1 0), some (rf Ω 7 k1), some (.int x2), none, some (.int y13), some (.int y14)]) 3 rfl ?_
      refine R_drop (lv2 := [some (rf Ω 1 0), some (rf Ω 7 k1), some (.int x2), none, none, some (.int y14)]) 4 rfl ?_
      refine R_drop (lv2 := [some (rf Ω 1 0), some (rf Ω 7 k1), some (.int x2), none, none, none]) 5 rfl ?_
      exact rnX1_planFromRoots_j116L61 hW k1 x2 hL0 hL1 σ16 hC hE0 h
    · have h := hit_f h hc
      refine R_aload_n (i := 0) dX1_planFromRoots_102 rfl rfl ?_
      refine R_aload_n (i := 1) dX1_planFromRoots_103 rfl rfl ?_
      refine R_aload_n (i := 1) dX1_planFromRoots_104 rfl rfl ?_
      refine R_iload (i := 4) dX1_planFromRoots_105 rfl ?_
      refine R_iload (i := 5) dX1_planFromRoots_107 rfl ?_
      refine R_callVi (ctX7_target l Ω k1 y13 y14 hL1 _ _ (hit_mono (hit_bd h) (fun r17 σ18 h => ?_))) okX7_target mw_648 hL1 (cE_7 Ω k1 _) rfl rfl (Nat.le_of_ble_eq_true rfl) rfl rfl ⟨by decide, by decide⟩ ⟨Nat.zero_le _, Nat.zero_le _⟩ dX1_planFromRoots_109
      refine R_iconst (v := 1) dX1_planFromRoots_112 rfl ?_
      refine R_callVv (ctX1_planMove l Ω k1 r17 1 hL0 hL1 _ _ (hit_mono (hit_bd h) (fun r19 σ20 h => ?_))) okX1_planMove mw_636 hL0 (cE_1 Ω 0 _) rfl rfl (Nat.le_of_ble_eq_true rfl) rfl rfl ⟨by decide, by decide⟩ ⟨Nat.zero_le _, Nat.zero_le _⟩ dX1_planFromRoots_113
      refine R_drop (lv2 := [some (rf Ω 1 0), some (rf Ω 7 k1), some (.int x2), none, some (.int y13), some (.int y14)]) 3 rfl ?_
      refine R_drop (lv2 := [some (rf Ω 1 0), some (rf Ω 7 k1), some (.int x2), none, none, some (.int y14)]) 4 rfl ?_
      refine R_drop (lv2 := [some (rf Ω 1 0), some (rf Ω 7 k1), some (.int x2), none, none, none]) 5 rfl ?_
      exact rnX1_planFromRoots_j116L61 hW k1 x2 hL0 hL1 σ20 hC hE0 h
set_option maxRecDepth 100000 in
set_option maxHeartbeats 4000000 in
theorem rlX1_planFromRoots_L61 {l : Launch} {Ω : rO} (hW : WF Ω) (k1 : Nat) (hL0 : oL Ω 1 0) (hL1 : oL Ω 7 k1) {K : Int32 → rS → Prop} {KE : Unit → rS → Prop} (hE0 : ∀ (e : Unit) (σ : rS), KE e σ → Run l Ω cX1_planFromRoots RX1 6 none rmX1_planFromRoots K 122 [none, none, none, none, none, none] [] σ) : ∀ (n : Nat) (x2 : Int32) (σ : rS), hit (lp (fun (x : Int32) σ => fX1_planFromRoots_L61 k1 x σ) n x2 σ) KE → Run l Ω cX1_planFromRoots RX1 6 none rmX1_planFromRoots K 61 [some (rf Ω 1 0), some (rf Ω 7 k1), some (.int x2), none, none, none] [] σ := by
  intro n
  induction n with
  | zero => intro x2 σ h; exact (h : False).elim
  | succ n ih =>
    intro x2 σ h
    exact rsX1_planFromRoots_L61 hW k1 x2 hL0 hL1 σ (fun x2 σ h => ih x2 σ h) (fun e σ h => hE0 e σ h) (hit_lp h)
set_option maxRecDepth 100000 in
set_option maxHeartbeats 4000000 in
theorem ctX1_planFromRoots (l : Launch) (Ω : rO) (k1 : Nat) (hL0 : oL Ω 1 0) (hL1 : oL Ω 7 k1) (σ : rS) (K : Int32 → rS → Prop) (h : hit (fX1_planFromRoots k1 σ) K) : Ct l Ω yX1_planFromRoots cX1_planFromRoots 6 none rmX1_planFromRoots [rf Ω 1 0, rf Ω 7 k1] σ K := by
  refine Ct.of (own := RX1) (lv := [some (rf Ω 1 0), some (rf Ω 7 k1), none, none, none, none]) (by decide) rfl (Nat.le_of_ble_eq_true rfl) rfl (fun hW => ?_)
  unfold fX1_planFromRoots at h
  refine R_iconst (v := 0) dX1_planFromRoots_0 rfl ?_
  refine R_istore_n (lv2 := [some (rf Ω 1 0), some (rf Ω 7 k1), some (.int 0), none, none, none]) dX1_planFromRoots_1 rfl (by decide) rfl rfl ?_
  refine rlX1_planFromRoots_L2 hW k1 hL0 hL1 ?_ fu 0 σ (hit_bd h)
  · intro e4 σ3 h
    try dsimp only at h
    refine R_iconst (v := 0) dX1_planFromRoots_26 rfl ?_
    refine R_istore_n (lv2 := [some (rf Ω 1 0), some (rf Ω 7 k1), some (.int 0), none, none, none]) dX1_planFromRoots_27 rfl (by decide) rfl rfl ?_
    refine rlX1_planFromRoots_L28 hW k1 hL0 hL1 ?_ fu 0 σ3 (hit_bd h)
    · intro e10 σ9 h
      try dsimp only at h
      refine R_iconst (v := 0) dX1_planFromRoots_59 rfl ?_
      refine R_istore_n (lv2 := [some (rf Ω 1 0), some (rf Ω 7 k1), some (.int 0), none, none, none]) dX1_planFromRoots_60 rfl (by decide) rfl rfl ?_
      refine rlX1_planFromRoots_L61 hW k1 hL0 hL1 ?_ fu 0 σ9 (hit_bd h)
      · intro e22 σ21 h
        try dsimp only at h
        exact R_vret dX1_planFromRoots_122 rfl h
set_option maxRecDepth 100000 in
set_option maxHeartbeats 4000000 in
theorem ctX7_fieldsOf (l : Launch) (Ω : rO) (k0 : Nat) (x1 : Int32) (hL0 : oL Ω 7 k0) (σ : rS) (K : Int32 → rS → Prop) (h : hit (fX7_fieldsOf k0 x1 σ) K) : Ct l Ω yX7_fieldsOf cX7_fieldsOf 2 (some .int) rmX7_fieldsOf [rf Ω 7 k0, .int x1] σ K := by
  refine Ct.of (own := RX7) (lv := [some (rf Ω 7 k0), some (.int x1)]) (by decide) rfl (Nat.le_of_ble_eq_true rfl) rfl (fun hW => ?_)
  unfold fX7_fieldsOf at h
  refine R_iload_n (i := 1) dX7_fieldsOf_0 rfl rfl ?_
  refine R_if_lt (tgt := 21) dX7_fieldsOf_1 (by decide) (fun hc => ?_) (fun hc => ?_)
  · have h := hit_t h hc
    refine R_iconst (v := 0) dX7_fieldsOf_21 rfl ?_
    exact R_iret dX7_fieldsOf_22 rfl h
  · have h := hit_f h hc
    refine R_iload_n (i := 1) dX7_fieldsOf_4 rfl rfl ?_
    refine R_aload_n (i := 0) dX7_fieldsOf_5 rfl rfl ?_
    refine R_get foX7_75 hL0 (cE_7 Ω k0 _) rfl dX7_fieldsOf_6 ?_
    refine R_icmp_ge (tgt := 21) dX7_fieldsOf_9 (by decide) (fun hc => ?_) (fun hc => ?_)
    · have h := hit_f h hc
      refine R_iconst (v := 0) dX7_fieldsOf_21 rfl ?_
      exact R_iret dX7_fieldsOf_22 rfl h
    · have h := hit_t h hc
      refine R_aload_n (i := 0) dX7_fieldsOf_12 rfl rfl ?_
      refine R_get foX7_18 hL0 (cE_7 Ω k0 _) rfl dX7_fieldsOf_13 ?_
      refine R_iload_n (i := 1) dX7_fieldsOf_16 rfl rfl ?_
      obtain ⟨hb, h⟩ := hit_bnd h
      refine R_iald (WF.kid hW 2 hL0 rfl) (cE_47 Ω k0 _) hb dX7_fieldsOf_17 ?_
      refine R_goto (tgt := 22) dX7_fieldsOf_18 (by decide) ?_
      exact R_iret dX7_fieldsOf_22 rfl h
set_option maxRecDepth 100000 in
set_option maxHeartbeats 4000000 in
theorem rsX1_planFrom_L36 {l : Launch} {Ω : rO} (hW : WF Ω) (k1 : Nat) (x3 : Int32) (x4 : Int32) (x5 : Int32) (x6 : Int32) (hL0 : oL Ω 1 0) (hL1 : oL Ω 7 k1) (σ : rS) {K : Int32 → rS → Prop} {K0 : (Int32 ⊕ Unit) → rS → Prop} (hC : ∀ (x6 : Int32) (σ : rS), K0 (.inl x6) σ → Run l Ω cX1_planFrom RX1 7 none rmX1_planFrom K 36 [some (rf Ω 1 0), some (rf Ω 7 k1), none, some (.int x3), some (.int x4), some (.int x5), some (.int x6)] [] σ) (hE0 : ∀ (e : Unit) (σ : rS), K0 (.inr e) σ → Run l Ω cX1_planFrom RX1 7 none rmX1_planFrom K 67 [some (rf Ω 1 0), some (rf Ω 7 k1), none, some (.int x3), some (.int x4), none, none] [] σ) (h : hit (fX1_planFrom_L36 k1 x3 x4 x5 x6 σ) K0) : Run l Ω cX1_planFrom RX1 7 none rmX1_planFrom K 36 [some (rf Ω 1 0), some (rf Ω 7 k1), none, some (.int x3), some (.int x4), some (.int x5), some (.int x6)] [] σ := by
  unfold fX1_planFrom_L36 at h
  refine R_iload (i := 6) dX1_planFrom_36 rfl ?_
  refine R_aload_n (i := 1) dX1_planFrom_38 rfl rfl ?_
  refine R_iload (i := 5) dX1_planFrom_39 rfl ?_
  refine R_callVi (ctX7_fieldsOf l Ω k1 x5 hL1 _ _ (hit_mono (hit_bd h) (fun r4 σ5 h => ?_))) okX7_fieldsOf mw_653 hL1 (cE_7 Ω k1 _) rfl rfl (Nat.le_of_ble_eq_true rfl) rfl rfl ⟨by decide, by decide⟩ ⟨Nat.zero_le _, Nat.zero_le _⟩ dX1_planFrom_41
  refine R_icmp_ge (tgt := 67) dX1_planFrom_44 (by decide) (fun hc => ?_) (fun hc => ?_)
  · have h := hit_f h hc
    refine R_drop (lv2 := [some (rf Ω 1 0), some (rf Ω 7 k1), none, some (.int x3), some (.int x4), none, some (.int x6)]) 5 rfl ?_
    refine R_drop (lv2 := [some (rf Ω 1 0), some (rf Ω 7 k1), none, some (.int x3), some (.int x4), none, none]) 6 rfl ?_
    exact hE0 () σ5 h
  · have h := hit_t h hc
    refine R_aload_n (i := 0) dX1_planFrom_47 rfl rfl ?_
    refine R_aload_n (i := 1) dX1_planFrom_48 rfl rfl ?_
    refine R_aload_n (i := 1) dX1_planFrom_49 rfl rfl ?_
    refine R_iload (i := 5) dX1_planFrom_50 rfl ?_
    refine R_iload (i := 6) dX1_planFrom_52 rfl ?_
    refine R_callVi (ctX7_target l Ω k1 x5 x6 hL1 _ _ (hit_mono (hit_bd h) (fun r6 σ7 h => ?_))) okX7_target mw_648 hL1 (cE_7 Ω k1 _) rfl rfl (Nat.le_of_ble_eq_true rfl) rfl rfl ⟨by decide, by decide⟩ ⟨Nat.zero_le _, Nat.zero_le _⟩ dX1_planFrom_54
    refine R_iload_n (i := 3) dX1_planFrom_57 rfl rfl ?_
    refine R_callVv (ctX1_planMove l Ω k1 r6 x3 hL0 hL1 _ _ (hit_mono (hit_bd h) (fun r8 σ9 h => ?_))) okX1_planMove mw_636 hL0 (cE_1 Ω 0 _) rfl rfl (Nat.le_of_ble_eq_true rfl) rfl rfl ⟨by decide, by decide⟩ ⟨Nat.zero_le _, Nat.zero_le _⟩ dX1_planFrom_58
    refine R_iinc (v := x6 + 1) (lv2 := [some (rf Ω 1 0), some (rf Ω 7 k1), none, some (.int x3), some (.int x4), some (.int x5), some (.int (x6 + 1))]) dX1_planFrom_61 rfl rfl (by decide) rfl rfl ?_
    refine R_goto (tgt := 36) dX1_planFrom_64 (by decide) ?_
    exact hC (x6 + 1) σ9 h
set_option maxRecDepth 100000 in
set_option maxHeartbeats 4000000 in
theorem rlX1_planFrom_L36 {l : Launch} {Ω : rO} (hW : WF Ω) (k1 : Nat) (x3 : Int32) (x4 : Int32) (x5 : Int32) (hL0 : oL Ω 1 0) (hL1 : oL Ω 7 k1) {K : Int32 → rS → Prop} {KE : Unit → rS → Prop} (hE0 : ∀ (e : Unit) (σ : rS), KE e σ → Run l Ω cX1_planFrom RX1 7 none rmX1_planFrom K 67 [some (rf Ω 1 0), some (rf Ω 7 k1), none, some (.int x3), some (.int x4), none, none] [] σ) : ∀ (n : Nat) (x6 : Int32) (σ : rS), hit (lp (fun (x : Int32) σ => fX1_planFrom_L36 k1 x3 x4 x5 x σ) n x6 σ) KE → Run l Ω cX1_planFrom RX1 7 none rmX1_planFrom K 36 [some (rf Ω 1 0), some (rf Ω 7 k1), none, some (.int x3), some (.int x4), some (.int x5), some (.int x6)] [] σ := by
  intro n
  induction n with
  | zero => intro x6 σ h; exact (h : False).elim
  | succ n ih =>
    intro x6 σ h
    exact rsX1_planFrom_L36 hW k1 x3 x4 x5 x6 hL0 hL1 σ (fun x6 σ h => ih x6 σ h) (fun e σ h => hE0 e σ h) (hit_lp h)
set_option maxRecDepth 100000 in
set_option maxHeartbeats 4000000 in
theorem rsX1_planFrom_L3 {l : Launch} {Ω : rO} (hW : WF Ω) (k1 : Nat) (x3 : Int32) (x4 : Int32) (hL0 : oL Ω 1 0) (hL1 : oL Ω 7 k1) (σ : rS) {K : Int32 → rS → Prop} {K0 : (Int32 ⊕ Unit) → rS → Prop} (hC : ∀ (x4 : Int32) (σ : rS), K0 (.inl x4) σ → Run l Ω cX1_planFrom RX1 7 none rmX1_planFrom K 3 [some (rf Ω 1 0), some (rf Ω 7 k1), none, some (.int x3), some (.int x4), none, none] [] σ) (hE0 : ∀ (e : Unit) (σ : rS), K0 (.inr e) σ → Run l Ω cX1_planFrom RX1 7 none rmX1_planFrom K 73 [none, none, none, none, none, none, none] [] σ) (h : hit (fX1_planFrom_L3 k1 x3 x4 σ) K0) : Run l Ω cX1_planFrom RX1 7 none rmX1_planFrom K 3 [some (rf Ω 1 0), some (rf Ω 7 k1), none, some (.int x3), some (.int x4), none, none] [] σ := by
  unfold fX1_planFrom_L3 at h
  refine R_iload (i := 4) dX1_planFrom_3 rfl ?_
  refine R_aload_n (i := 0) dX1_planFrom_5 rfl rfl ?_
  refine R_get foX1_116 hL0 (cE_1 Ω 0 _) rfl dX1_planFrom_6 ?_
  refine R_icmp_ge (tgt := 73) dX1_planFrom_9 (by decide) (fun hc => ?_) (fun hc => ?_)
  · have h := hit_f h hc
    refine R_drop (lv2 := [none, some (rf Ω 7 k1), none, some (.int x3), some (.int x4), none, none]) 0 rfl ?_
    refine R_drop (lv2 := [none, none, none, some (.int x3), some (.int x4), none, none]) 1 rfl ?_
    refine R_drop (lv2 := [none, none, none, none, some (.int x4), none, none]) 3 rfl ?_
    refine R_drop (lv2 := [none, none, none, none, none, none, none]) 4 rfl ?_
    exact hE0 () σ h
  · have h := hit_t h hc
    refine R_iload (i := 4) dX1_planFrom_12 rfl ?_
    refine R_bipush (v := 80) dX1_planFrom_14 rfl ?_
    refine R_icmp_ge (tgt := 73) dX1_planFrom_16 (by decide) (fun hc => ?_) (fun hc => ?_)
    · have h := hit_f h hc
      refine R_drop (lv2 := [none, some (rf Ω 7 k1), none, some (.int x3), some (.int x4), none, none]) 0 rfl ?_
      refine R_drop (lv2 := [none, none, none, some (.int x3), some (.int x4), none, none]) 1 rfl ?_
      refine R_drop (lv2 := [none, none, none, none, some (.int x4), none, none]) 3 rfl ?_
      refine R_drop (lv2 := [none, none, none, none, none, none, none]) 4 rfl ?_
      exact hE0 () σ h
    · have h := hit_t h hc
      refine R_aload_n (i := 0) dX1_planFrom_19 rfl rfl ?_
      refine R_get foX1_18 hL0 (cE_1 Ω 0 _) rfl dX1_planFrom_20 ?_
      refine R_iload (i := 4) dX1_planFrom_23 rfl ?_
      obtain ⟨hb, h⟩ := hit_bnd h
      refine R_iald (WF.kid hW 4 hL0 rfl) (cE_39 Ω 0 _) hb dX1_planFrom_25 ?_
      refine R_topi h (fun y1 h => ?_)
      refine R_istore (lv2 := [some (rf Ω 1 0), some (rf Ω 7 k1), none, some (.int x3), some (.int x4), some (.int y1), none]) dX1_planFrom_26 (by decide) rfl rfl ?_
      refine R_aload_n (i := 1) dX1_planFrom_28 rfl rfl ?_
      refine R_iload (i := 5) dX1_planFrom_29 rfl ?_
      refine R_callVi (ctX7_firstStrong l Ω k1 y1 hL1 _ _ (hit_mono (hit_bd h) (fun r2 σ3 h => ?_))) okX7_firstStrong mw_644 hL1 (cE_7 Ω k1 _) rfl rfl (Nat.le_of_ble_eq_true rfl) rfl rfl ⟨by decide, by decide⟩ ⟨Nat.zero_le _, Nat.zero_le _⟩ dX1_planFrom_31
      refine R_istore (lv2 := [some (rf Ω 1 0), some (rf Ω 7 k1), none, some (.int x3), some (.int x4), some (.int y1), some (.int r2)]) dX1_planFrom_34 (by decide) rfl rfl ?_
      refine rlX1_planFrom_L36 hW k1 x3 x4 y1 hL0 hL1 ?_ fu r2 σ3 (hit_bd h)
      · intro e11 σ10 h
        try dsimp only at h
        refine R_iinc (v := x4 + 1) (lv2 := [some (rf Ω 1 0), some (rf Ω 7 k1), none, some (.int x3), some (.int (x4 + 1)), none, none]) dX1_planFrom_67 rfl rfl (by decide) rfl rfl ?_
        refine R_goto (tgt := 3) dX1_planFrom_70 (by decide) ?_
        exact hC (x4 + 1) σ10 h
set_option maxRecDepth 100000 in
set_option maxHeartbeats 4000000 in
theorem rlX1_planFrom_L3 {l : Launch} {Ω : rO} (hW : WF Ω) (k1 : Nat) (x3 : Int32) (hL0 : oL Ω 1 0) (hL1 : oL Ω 7 k1) {K : Int32 → rS → Prop} {KE : Unit → rS → Prop} (hE0 : ∀ (e : Unit) (σ : rS), KE e σ → Run l Ω cX1_planFrom RX1 7 none rmX1_planFrom K 73 [none, none, none, none, none, none, none] [] σ) : ∀ (n : Nat) (x4 : Int32) (σ : rS), hit (lp (fun (x : Int32) σ => fX1_planFrom_L3 k1 x3 x σ) n x4 σ) KE → Run l Ω cX1_planFrom RX1 7 none rmX1_planFrom K 3 [some (rf Ω 1 0), some (rf Ω 7 k1), none, some (.int x3), some (.int x4), none, none] [] σ := by
  intro n
  induction n with
  | zero => intro x4 σ h; exact (h : False).elim
  | succ n ih =>
    intro x4 σ h
    exact rsX1_planFrom_L3 hW k1 x3 x4 hL0 hL1 σ (fun x4 σ h => ih x4 σ h) (fun e σ h => hE0 e σ h) (hit_lp h)
set_option maxRecDepth 100000 in
set_option maxHeartbeats 4000000 in
theorem ctX1_planFrom (l : Launch) (Ω : rO) (k1 : Nat) (x2 : Int32) (x3 : Int32) (hL0 : oL Ω 1 0) (hL1 : oL Ω 7 k1) (σ : rS) (K : Int32 → rS → Prop) (h : hit (fX1_planFrom k1 x2 x3 σ) K) : Ct l Ω yX1_planFrom cX1_planFrom 7 none rmX1_planFrom [rf Ω 1 0, rf Ω 7 k1, .int x2, .int x3] σ K := by
  refine Ct.of (own := RX1) (lv := [some (rf Ω 1 0), some (rf Ω 7 k1), some (.int x2), some (.int x3), none, none, none]) (by decide) rfl (Nat.le_of_ble_eq_true rfl) rfl (fun hW => ?_)
  unfold fX1_planFrom at h
  refine R_iload_n (i := 2) dX1_planFrom_0 rfl rfl ?_
  refine R_istore (lv2 := [some (rf Ω 1 0), some (rf Ω 7 k1), some (.int x2), some (.int x3), some (.int x2), none, none]) dX1_planFrom_1 (by decide) rfl rfl ?_
  refine R_drop (lv2 := [some (rf Ω 1 0), some (rf Ω 7 k1), none, some (.int x3), some (.int x2), none, none]) 2 rfl ?_
  refine rlX1_planFrom_L3 hW k1 x3 hL0 hL1 ?_ fu x2 σ (hit_bd h)
  · intro e13 σ12 h
    try dsimp only at h
    exact R_vret dX1_planFrom_73 rfl h
set_option maxRecDepth 100000 in
set_option maxHeartbeats 4000000 in
theorem rnX1_planFromLasting_j48L2 {l : Launch} {Ω : rO} (hW : WF Ω) (k1 : Nat) (x2 : Int32) (hL0 : oL Ω 1 0) (hL1 : oL Ω 7 k1) (σ : rS) {K : Int32 → rS → Prop} {K0 : (Int32 ⊕ Unit) → rS → Prop} (hC : ∀ (x2 : Int32) (σ : rS), K0 (.inl x2) σ → Run l Ω cX1_planFromLasting RX1 4 none rmX1_planFromLasting K 2 [some (rf Ω 1 0), some (rf Ω 7 k1), some (.int x2), none] [] σ) (hE0 : ∀ (e : Unit) (σ : rS), K0 (.inr e) σ → Run l Ω cX1_planFromLasting RX1 4 none rmX1_planFromLasting K 54 [none, none, none, none] [] σ) (h : hit (fX1_planFromLasting_j48L2 k1 x2 σ) K0) : Run l Ω cX1_planFromLasting RX1 4 none rmX1_planFromLasting K 48 [some (rf Ω 1 0), some (rf Ω 7 k1), some (.int x2), none] [] σ := by
  unfold fX1_planFromLasting_j48L2 at h
  refine R_iinc (v := x2 + 1) (lv2 := [some (rf Ω 1 0), some (rf Ω 7 k1), some (.int (x2 + 1)), none]) dX1_planFromLasting_48 rfl rfl (by decide) rfl rfl ?_
  refine R_goto (tgt := 2) dX1_planFromLasting_51 (by decide) ?_
  exact hC (x2 + 1) σ h
set_option maxRecDepth 100000 in
set_option maxHeartbeats 4000000 in
theorem rsX1_planFromLasting_L2 {l : Launch} {Ω : rO} (hW : WF Ω) (k1 : Nat) (x2 : Int32) (hL0 : oL Ω 1 0) (hL1 : oL Ω 7 k1) (σ : rS) {K : Int32 → rS → Prop} {K0 : (Int32 ⊕ Unit) → rS → Prop} (hC : ∀ (x2 : Int32) (σ : rS), K0 (.inl x2) σ → Run l Ω cX1_planFromLasting RX1 4 none rmX1_planFromLasting K 2 [some (rf Ω 1 0), some (rf Ω 7 k1), some (.int x2), none] [] σ) (hE0 : ∀ (e : Unit) (σ : rS), K0 (.inr e) σ → Run l Ω cX1_planFromLasting RX1 4 none rmX1_planFromLasting K 54 [none, none, none, none] [] σ) (h : hit (fX1_planFromLasting_L2 k1 x2 σ) K0) : Run l Ω cX1_planFromLasting RX1 4 none rmX1_planFromLasting K 2 [some (rf Ω 1 0), some (rf Ω 7 k1), some (.int x2), none] [] σ := by
  unfold fX1_planFromLasting_L2 at h
  refine R_iload_n (i := 2) dX1_planFromLasting_2 rfl rfl ?_
  refine R_aload_n (i := 1) dX1_planFromLasting_3 rfl rfl ?_
  refine R_get foX1_123 hL1 (cE_7 Ω k1 _) rfl dX1_planFromLasting_4 ?_
  refine R_icmp_ge (tgt := 54) dX1_planFromLasting_7 (by decide) (fun hc => ?_) (fun hc => ?_)
  · have h := hit_f h hc
    refine R_drop (lv2 := [none, some (rf Ω 7 k1), some (.int x2), none]) 0 rfl ?_
    refine R_drop (lv2 := [none, none, some (.int x2), none]) 1 rfl ?_
    refine R_drop (lv2 := [none, none, none, none]) 2 rfl ?_
    exact hE0 () σ h
  · have h := hit_t h hc
    refine R_aload_n (i := 1) dX1_planFromLasting_10 rfl rfl ?_
    refine R_get foX1_162 hL1 (cE_7 Ω k1 _) rfl dX1_planFromLasting_11 ?_
    refine R_iload_n (i := 2) dX1_planFromLasting_14 rfl rfl ?_
    obtain ⟨hb, h⟩ := hit_bnd h
    refine R_iald (WF.kid hW 1 hL1 rfl) (cE_46 Ω k1 _) hb dX1_planFromLasting_15 ?_
    refine R_iconst (v := 2) dX1_planFromLasting_16 rfl ?_
    refine R_icmp_ne (tgt := 48) dX1_planFromLasting_17 (by decide) (fun hc => ?_) (fun hc => ?_)
    · have h := hit_f h hc
      exact rnX1_planFromLasting_j48L2 hW k1 x2 hL0 hL1 σ hC hE0 h
    · have h := hit_t h hc
      refine R_aload_n (i := 0) dX1_planFromLasting_20 rfl rfl ?_
      refine R_get foX1_15 hL0 (cE_1 Ω 0 _) rfl dX1_planFromLasting_21 ?_
      refine R_iload_n (i := 2) dX1_planFromLasting_24 rfl rfl ?_
      obtain ⟨hb, h⟩ := hit_bnd h
      refine R_iald (WF.kid hW 3 hL0 rfl) (cE_38 Ω 0 _) hb dX1_planFromLasting_25 ?_
      refine R_if_ne (tgt := 48) dX1_planFromLasting_26 (by decide) (fun hc => ?_) (fun hc => ?_)
      · have h := hit_f h hc
        exact rnX1_planFromLasting_j48L2 hW k1 x2 hL0 hL1 σ hC hE0 h
      · have h := hit_t h hc
        refine R_aload_n (i := 0) dX1_planFromLasting_29 rfl rfl ?_
        refine R_get foX1_116 hL0 (cE_1 Ω 0 _) rfl dX1_planFromLasting_30 ?_
        refine R_topi h (fun y1 h => ?_)
        refine R_istore_n (lv2 := [some (rf Ω 1 0), some (rf Ω 7 k1), some (.int x2), some (.int y1)]) dX1_planFromLasting_33 rfl (by decide) rfl rfl ?_
        refine R_aload_n (i := 0) dX1_planFromLasting_34 rfl rfl ?_
        refine R_aload_n (i := 1) dX1_planFromLasting_35 rfl rfl ?_
        refine R_iload_n (i := 2) dX1_planFromLasting_36 rfl rfl ?_
        refine R_iconst (v := 2) dX1_planFromLasting_37 rfl ?_
        refine R_callVv (ctX1_planMove l Ω k1 x2 2 hL0 hL1 _ _ (hit_mono (hit_bd h) (fun r2 σ3 h => ?_))) okX1_planMove mw_636 hL0 (cE_1 Ω 0 _) rfl rfl (Nat.le_of_ble_eq_true rfl) rfl rfl ⟨by decide, by decide⟩ ⟨Nat.zero_le _, Nat.zero_le _⟩ dX1_planFromLasting_38
        refine R_aload_n (i := 0) dX1_planFromLasting_41 rfl rfl ?_
        refine R_aload_n (i := 1) dX1_planFromLasting_42 rfl rfl ?_
        refine R_iload_n (i := 3) dX1_planFromLasting_43 rfl rfl ?_
        refine R_iconst (v := 2) dX1_planFromLasting_44 rfl ?_
        refine R_callVv (ctX1_planFrom l Ω k1 y1 2 hL0 hL1 _ _ (hit_mono (hit_bd h) (fun r4 σ5 h => ?_))) okX1_planFrom mw_649 hL0 (cE_1 Ω 0 _) rfl rfl (Nat.le_of_ble_eq_true rfl) rfl rfl ⟨by decide, by decide⟩ ⟨Nat.zero_le _, Nat.zero_le _⟩ dX1_planFromLasting_45
        refine R_drop (lv2 := [some (rf Ω 1 0), some (rf Ω 7 k1), some (.int x2), none]) 3 rfl ?_
        exact rnX1_planFromLasting_j48L2 hW k1 x2 hL0 hL1 σ5 hC hE0 h
set_option maxRecDepth 100000 in
set_option maxHeartbeats 4000000 in
theorem rlX1_planFromLasting_L2 {l : Launch} {Ω : rO} (hW : WF Ω) (k1 : Nat) (hL0 : oL Ω 1 0) (hL1 : oL Ω 7 k1) {K : Int32 → rS → Prop} {KE : Unit → rS → Prop} (hE0 : ∀ (e : Unit) (σ : rS), KE e σ → Run l Ω cX1_planFromLasting RX1 4 none rmX1_planFromLasting K 54 [none, none, none, none] [] σ) : ∀ (n : Nat) (x2 : Int32) (σ : rS), hit (lp (fun (x : Int32) σ => fX1_planFromLasting_L2 k1 x σ) n x2 σ) KE → Run l Ω cX1_planFromLasting RX1 4 none rmX1_planFromLasting K 2 [some (rf Ω 1 0), some (rf Ω 7 k1), some (.int x2), none] [] σ := by
  intro n
  induction n with
  | zero => intro x2 σ h; exact (h : False).elim
  | succ n ih =>
    intro x2 σ h
    exact rsX1_planFromLasting_L2 hW k1 x2 hL0 hL1 σ (fun x2 σ h => ih x2 σ h) (fun e σ h => hE0 e σ h) (hit_lp h)
set_option maxRecDepth 100000 in
set_option maxHeartbeats 4000000 in
theorem ctX1_planFromLasting (l : Launch) (Ω : rO) (k1 : Nat) (hL0 : oL Ω 1 0) (hL1 : oL Ω 7 k1) (σ : rS) (K : Int32 → rS → Prop) (h : hit (fX1_planFromLasting k1 σ) K) : Ct l Ω yX1_planFromLasting cX1_planFromLasting 4 none rmX1_planFromLasting [rf Ω 1 0, rf Ω 7 k1] σ K := by
  refine Ct.of (own := RX1) (lv := [some (rf Ω 1 0), some (rf Ω 7 k1), none, none]) (by decide) rfl (Nat.le_of_ble_eq_true rfl) rfl (fun hW => ?_)
  unfold fX1_planFromLasting at h
  refine R_iconst (v := 0) dX1_planFromLasting_0 rfl ?_
  refine R_istore_n (lv2 := [some (rf Ω 1 0), some (rf Ω 7 k1), some (.int 0), none]) dX1_planFromLasting_1 rfl (by decide) rfl rfl ?_
  refine rlX1_planFromLasting_L2 hW k1 hL0 hL1 ?_ fu 0 σ (hit_bd h)
  · intro e7 σ6 h
    try dsimp only at h
    exact R_vret dX1_planFromLasting_54 rfl h
set_option maxRecDepth 100000 in
set_option maxHeartbeats 4000000 in
theorem rsJ7_fill_53178_L5 {l : Launch} {Ω : rO} (hW : WF Ω) (c0 k0 n0 : Nat) (x1 : Int32) (x3 : Int32) (x2 : Int32) (hL0 : oL Ω c0 k0) (hg0 : ∀ r, cE Ω c0 k0 r = .inl (Ω.2.1 0, n0, .inl r)) (σ : rS) {K : Int32 → rS → Prop} {K0 : (Int32 ⊕ Unit) → rS → Prop} (hC : ∀ (x2 : Int32) (σ : rS), K0 (.inl x2) σ → Run l Ω cJ7_fill_53178 RJ7 4 none rmJ7_fill_53178 K 5 [some (rf Ω c0 k0), some (.int x1), some (.int x2), some (.int x3)] [] σ) (hE0 : ∀ (e : Unit) (σ : rS), K0 (.inr e) σ → Run l Ω cJ7_fill_53178 RJ7 4 none rmJ7_fill_53178 K 20 [none, none, none, none] [] σ) (h : hit (fJ7_fill_53178_L5 c0 k0 n0 x1 x3 x2 σ) K0) : Run l Ω cJ7_fill_53178 RJ7 4 none rmJ7_fill_53178 K 5 [some (rf Ω c0 k0), some (.int x1), some (.int x2), some (.int x3)] [] σ := by
  unfold fJ7_fill_53178_L5 at h
  refine R_iload_n (i := 2) dJ7_fill_53178_5 rfl rfl ?_
  refine R_iload_n (i := 3) dJ7_fill_53178_6 rfl rfl ?_
  refine R_icmp_ge (tgt := 20) dJ7_fill_53178_7 (by decide) (fun hc => ?_) (fun hc => ?_)
  · have h := hit_f h hc
    refine R_drop (lv2 := [none, some (.int x1), some (.int x2), some (.int x3)]) 0 rfl ?_
    refine R_drop (lv2 := [none, none, some (.int x2), some (.int x3)]) 1 rfl ?_
    refine R_drop (lv2 := [none, none, none, some (.int x3)]) 2 rfl ?_
    refine R_drop (lv2 := [none, none, none, none]) 3 rfl ?_
    exact hE0 () σ h
  · have h := hit_t h hc
    refine R_aload_n (i := 0) dJ7_fill_53178_10 rfl rfl ?_
    refine R_iload_n (i := 2) dJ7_fill_53178_11 rfl rfl ?_
    refine R_iload_n (i := 1) dJ7_fill_53178_12 rfl rfl ?_
    obtain ⟨hb, h⟩ := hit_bnd h
    refine R_iast hL0 hg0 hb dJ7_fill_53178_13 ?_
    refine R_st h (fun σ2 h => ?_)
    refine R_iinc (v := x2 + 1) (lv2 := [some (rf Ω c0 k0), some (.int x1), some (.int (x2 + 1)), some (.int x3)]) dJ7_fill_53178_14 rfl rfl (by decide) rfl rfl ?_
    refine R_goto (tgt := 5) dJ7_fill_53178_17 (by decide) ?_
    exact hC (x2 + 1) σ2 h
set_option maxRecDepth 100000 in
set_option maxHeartbeats 4000000 in
theorem rlJ7_fill_53178_L5 {l : Launch} {Ω : rO} (hW : WF Ω) (c0 k0 n0 : Nat) (x1 : Int32) (x3 : Int32) (hL0 : oL Ω c0 k0) (hg0 : ∀ r, cE Ω c0 k0 r = .inl (Ω.2.1 0, n0, .inl r)) {K : Int32 → rS → Prop} {KE : Unit → rS → Prop} (hE0 : ∀ (e : Unit) (σ : rS), KE e σ → Run l Ω cJ7_fill_53178 RJ7 4 none rmJ7_fill_53178 K 20 [none, none, none, none] [] σ) : ∀ (n : Nat) (x2 : Int32) (σ : rS), hit (lp (fun (x : Int32) σ => fJ7_fill_53178_L5 c0 k0 n0 x1 x3 x σ) n x2 σ) KE → Run l Ω cJ7_fill_53178 RJ7 4 none rmJ7_fill_53178 K 5 [some (rf Ω c0 k0), some (.int x1), some (.int x2), some (.int x3)] [] σ := by
  intro n
  induction n with
  | zero => intro x2 σ h; exact (h : False).elim
  | succ n ih =>
    intro x2 σ h
    exact rsJ7_fill_53178_L5 hW c0 k0 n0 x1 x3 x2 hL0 hg0 σ (fun x2 σ h => ih x2 σ h) (fun e σ h => hE0 e σ h) (hit_lp h)
set_option maxRecDepth 100000 in
set_option maxHeartbeats 4000000 in
theorem ctJ7_fill_53178 (l : Launch) (Ω : rO) (c0 k0 n0 : Nat) (x1 : Int32) (hL0 : oL Ω c0 k0) (hg0 : ∀ r, cE Ω c0 k0 r = .inl (Ω.2.1 0, n0, .inl r)) (σ : rS) (K : Int32 → rS → Prop) (h : hit (fJ7_fill_53178 c0 k0 n0 x1 σ) K) : Ct l Ω yJ7_fill_53178 cJ7_fill_53178 4 none rmJ7_fill_53178 [rf Ω c0 k0, .int x1] σ K := by
  refine Ct.of (own := RJ7) (lv := [some (rf Ω c0 k0), some (.int x1), none, none]) (by decide) rfl (Nat.le_of_ble_eq_true rfl) rfl (fun hW => ?_)
  unfold fJ7_fill_53178 at h
  refine R_iconst (v := 0) dJ7_fill_53178_0 rfl ?_
  refine R_istore_n (lv2 := [some (rf Ω c0 k0), some (.int x1), some (.int 0), none]) dJ7_fill_53178_1 rfl (by decide) rfl rfl ?_
  refine R_aload_n (i := 0) dJ7_fill_53178_2 rfl rfl ?_
  refine R_alen (v := nI n0) hL0 (hg0 _) (t0 := 0) rfl rfl dJ7_fill_53178_3 ?_
  refine R_topi h (fun y1 h => ?_)
  refine R_istore_n (lv2 := [some (rf Ω c0 k0), some (.int x1), some (.int 0), some (.int y1)]) dJ7_fill_53178_4 rfl (by decide) rfl rfl ?_
  refine rlJ7_fill_53178_L5 hW c0 k0 n0 x1 y1 hL0 hg0 ?_ fu 0 σ (hit_bd h)
  · intro e4 σ3 h
    try dsimp only at h
    exact R_vret dJ7_fill_53178_20 rfl h
set_option maxRecDepth 100000 in
set_option maxHeartbeats 4000000 in
theorem ctX7_isWeak (l : Launch) (Ω : rO) (k0 : Nat) (x1 : Int32) (hL0 : oL Ω 7 k0) (σ : rS) (K : Int32 → rS → Prop) (h : hit (fX7_isWeak k0 x1 σ) K) : Ct l Ω yX7_isWeak cX7_isWeak 2 (some .boolean) rmX7_isWeak [rf Ω 7 k0, .int x1] σ K := by
  refine Ct.of (own := RX7) (lv := [some (rf Ω 7 k0), some (.int x1)]) (by decide) rfl (Nat.le_of_ble_eq_true rfl) rfl (fun hW => ?_)
  unfold fX7_isWeak at h
  refine R_iload_n (i := 1) dX7_isWeak_0 rfl rfl ?_
  refine R_if_lt (tgt := 26) dX7_isWeak_1 (by decide) (fun hc => ?_) (fun hc => ?_)
  · have h := hit_t h hc
    refine R_iconst (v := 0) dX7_isWeak_26 rfl ?_
    exact R_zret dX7_isWeak_27 rfl (Or.inl rfl) h
  · have h := hit_f h hc
    refine R_iload_n (i := 1) dX7_isWeak_4 rfl rfl ?_
    refine R_aload_n (i := 0) dX7_isWeak_5 rfl rfl ?_
    refine R_get foX7_75 hL0 (cE_7 Ω k0 _) rfl dX7_isWeak_6 ?_
    refine R_icmp_ge (tgt := 26) dX7_isWeak_9 (by decide) (fun hc => ?_) (fun hc => ?_)
    · have h := hit_f h hc
      refine R_iconst (v := 0) dX7_isWeak_26 rfl ?_
      exact R_zret dX7_isWeak_27 rfl (Or.inl rfl) h
    · have h := hit_t h hc
      refine R_aload_n (i := 0) dX7_isWeak_12 rfl rfl ?_
      refine R_get foX7_15 hL0 (cE_7 Ω k0 _) rfl dX7_isWeak_13 ?_
      refine R_iload_n (i := 1) dX7_isWeak_16 rfl rfl ?_
      obtain ⟨hb, h⟩ := hit_bnd h
      refine R_iald (WF.kid hW 1 hL0 rfl) (cE_46 Ω k0 _) hb dX7_isWeak_17 ?_
      refine R_iconst (v := 1) dX7_isWeak_18 rfl ?_
      refine R_icmp_ne (tgt := 26) dX7_isWeak_19 (by decide) (fun hc => ?_) (fun hc => ?_)
      · have h := hit_f h hc
        refine R_iconst (v := 0) dX7_isWeak_26 rfl ?_
        exact R_zret dX7_isWeak_27 rfl (Or.inl rfl) h
      · have h := hit_t h hc
        refine R_iconst (v := 1) dX7_isWeak_22 rfl ?_
        refine R_goto (tgt := 27) dX7_isWeak_23 (by decide) ?_
        exact R_zret dX7_isWeak_27 rfl (Or.inr rfl) h
set_option maxRecDepth 100000 in
set_option maxHeartbeats 4000000 in
theorem ctX7_isSlot (l : Launch) (Ω : rO) (k0 : Nat) (x1 : Int32) (hL0 : oL Ω 7 k0) (σ : rS) (K : Int32 → rS → Prop) (h : hit (fX7_isSlot k0 x1 σ) K) : Ct l Ω yX7_isSlot cX7_isSlot 2 (some .boolean) rmX7_isSlot [rf Ω 7 k0, .int x1] σ K := by
  refine Ct.of (own := RX7) (lv := [some (rf Ω 7 k0), some (.int x1)]) (by decide) rfl (Nat.le_of_ble_eq_true rfl) rfl (fun hW => ?_)
  unfold fX7_isSlot at h
  refine R_iload_n (i := 1) dX7_isSlot_0 rfl rfl ?_
  refine R_if_lt (tgt := 16) dX7_isSlot_1 (by decide) (fun hc => ?_) (fun hc => ?_)
  · have h := hit_t h hc
    refine R_iconst (v := 0) dX7_isSlot_16 rfl ?_
    exact R_zret dX7_isSlot_17 rfl (Or.inl rfl) h
  · have h := hit_f h hc
    refine R_iload_n (i := 1) dX7_isSlot_4 rfl rfl ?_
    refine R_aload_n (i := 0) dX7_isSlot_5 rfl rfl ?_
    refine R_get foX7_75 hL0 (cE_7 Ω k0 _) rfl dX7_isSlot_6 ?_
    refine R_icmp_ge (tgt := 16) dX7_isSlot_9 (by decide) (fun hc => ?_) (fun hc => ?_)
    · have h := hit_f h hc
      refine R_iconst (v := 0) dX7_isSlot_16 rfl ?_
      exact R_zret dX7_isSlot_17 rfl (Or.inl rfl) h
    · have h := hit_t h hc
      refine R_iconst (v := 1) dX7_isSlot_12 rfl ?_
      refine R_goto (tgt := 17) dX7_isSlot_13 (by decide) ?_
      exact R_zret dX7_isSlot_17 rfl (Or.inr rfl) h
set_option maxRecDepth 100000 in
set_option maxHeartbeats 4000000 in
theorem ctX7_hasField (l : Launch) (Ω : rO) (k0 : Nat) (x1 : Int32) (x2 : Int32) (hL0 : oL Ω 7 k0) (σ : rS) (K : Int32 → rS → Prop) (h : hit (fX7_hasField k0 x1 x2 σ) K) : Ct l Ω yX7_hasField cX7_hasField 3 (some .boolean) rmX7_hasField [rf Ω 7 k0, .int x1, .int x2] σ K := by
  refine Ct.of (own := RX7) (lv := [some (rf Ω 7 k0), some (.int x1), some (.int x2)]) (by decide) rfl (Nat.le_of_ble_eq_true rfl) rfl (fun hW => ?_)
  unfold fX7_hasField at h
  refine R_iload_n (i := 1) dX7_hasField_0 rfl rfl ?_
  refine R_if_lt (tgt := 30) dX7_hasField_1 (by decide) (fun hc => ?_) (fun hc => ?_)
  · have h := hit_t h hc
    refine R_iconst (v := 0) dX7_hasField_30 rfl ?_
    exact R_zret dX7_hasField_31 rfl (Or.inl rfl) h
  · have h := hit_f h hc
    refine R_iload_n (i := 1) dX7_hasField_4 rfl rfl ?_
    refine R_aload_n (i := 0) dX7_hasField_5 rfl rfl ?_
    refine R_get foX7_75 hL0 (cE_7 Ω k0 _) rfl dX7_hasField_6 ?_
    refine R_icmp_ge (tgt := 30) dX7_hasField_9 (by decide) (fun hc => ?_) (fun hc => ?_)
    · have h := hit_f h hc
      refine R_iconst (v := 0) dX7_hasField_30 rfl ?_
      exact R_zret dX7_hasField_31 rfl (Or.inl rfl) h
    · have h := hit_t h hc
      refine R_iload_n (i := 2) dX7_hasField_12 rfl rfl ?_
      refine R_if_lt (tgt := 30) dX7_hasField_13 (by decide) (fun hc => ?_) (fun hc => ?_)
      · have h := hit_t h hc
        refine R_iconst (v := 0) dX7_hasField_30 rfl ?_
        exact R_zret dX7_hasField_31 rfl (Or.inl rfl) h
      · have h := hit_f h hc
        refine R_iload_n (i := 2) dX7_hasField_16 rfl rfl ?_
        refine R_aload_n (i := 0) dX7_hasField_17 rfl rfl ?_
        refine R_get foX7_18 hL0 (cE_7 Ω k0 _) rfl dX7_hasField_18 ?_
        refine R_iload_n (i := 1) dX7_hasField_21 rfl rfl ?_
        obtain ⟨hb, h⟩ := hit_bnd h
        refine R_iald (WF.kid hW 2 hL0 rfl) (cE_47 Ω k0 _) hb dX7_hasField_22 ?_
        refine R_icmp_ge (tgt := 30) dX7_hasField_23 (by decide) (fun hc => ?_) (fun hc => ?_)
        · have h := hit_f h hc
          refine R_iconst (v := 0) dX7_hasField_30 rfl ?_
          exact R_zret dX7_hasField_31 rfl (Or.inl rfl) h
        · have h := hit_t h hc
          refine R_iconst (v := 1) dX7_hasField_26 rfl ?_
          refine R_goto (tgt := 31) dX7_hasField_27 (by decide) ?_
          exact R_zret dX7_hasField_31 rfl (Or.inr rfl) h
set_option maxRecDepth 100000 in
set_option maxHeartbeats 4000000 in
theorem ctX7_setTarget (l : Launch) (Ω : rO) (k0 : Nat) (x1 : Int32) (x2 : Int32) (x3 : Int32) (hL0 : oL Ω 7 k0) (σ : rS) (K : Int32 → rS → Prop) (h : hit (fX7_setTarget k0 x1 x2 x3 σ) K) : Ct l Ω yX7_setTarget cX7_setTarget 4 none rmX7_setTarget [rf Ω 7 k0, .int x1, .int x2, .int x3] σ K := by
  refine Ct.of (own := RX7) (lv := [some (rf Ω 7 k0), some (.int x1), some (.int x2), some (.int x3)]) (by decide) rfl (Nat.le_of_ble_eq_true rfl) rfl (fun hW => ?_)
  unfold fX7_setTarget at h
  refine R_aload_n (i := 0) dX7_setTarget_0 rfl rfl ?_
  refine R_iload_n (i := 1) dX7_setTarget_1 rfl rfl ?_
  refine R_iload_n (i := 2) dX7_setTarget_2 rfl rfl ?_
  refine R_callVi (ctX7_hasField l Ω k0 x1 x2 hL0 _ _ (hit_mono (hit_bd h) (fun r1 σ2 h => ?_))) okX7_hasField mw_675 hL0 (cE_7 Ω k0 _) rfl rfl (Nat.le_of_ble_eq_true rfl) rfl rfl ⟨by decide, by decide⟩ ⟨Nat.zero_le _, Nat.zero_le _⟩ dX7_setTarget_3
  refine R_if_eq (tgt := 20) dX7_setTarget_6 (by decide) (fun hc => ?_) (fun hc => ?_)
  · have h := hit_t h hc
    exact R_vret dX7_setTarget_20 rfl h
  · have h := hit_f h hc
    refine R_aload_n (i := 0) dX7_setTarget_9 rfl rfl ?_
    refine R_get foX7_33 hL0 (cE_7 Ω k0 _) rfl dX7_setTarget_10 ?_
    refine R_iload_n (i := 1) dX7_setTarget_13 rfl rfl ?_
    refine R_iconst (v := 4) dX7_setTarget_14 rfl ?_
    refine R_imul dX7_setTarget_15 ?_
    refine R_iload_n (i := 2) dX7_setTarget_16 rfl rfl ?_
    refine R_iadd dX7_setTarget_17 ?_
    refine R_iload_n (i := 3) dX7_setTarget_18 rfl rfl ?_
    obtain ⟨hb, h⟩ := hit_bnd h
    refine R_iast (WF.kid hW 7 hL0 rfl) (cE_52 Ω k0) hb dX7_setTarget_19 ?_
    refine R_st h (fun σ3 h => ?_)
    exact R_vret dX7_setTarget_20 rfl h
set_option maxRecDepth 100000 in
set_option maxHeartbeats 4000000 in
theorem rnX4_add_j39 {l : Launch} {Ω : rO} (hW : WF Ω) (k0 : Nat) (x1 : Int32) (hL0 : oL Ω 4 k0) (σ : rS) {K : Int32 → rS → Prop}  (h : hit (fX4_add_j39 k0 x1 σ) K) : Run l Ω cX4_add RX4 2 none rmX4_add K 39 [some (rf Ω 4 k0), some (.int x1)] [] σ := by
  unfold fX4_add_j39 at h
  refine R_aload_n (i := 0) dX4_add_39 rfl rfl ?_
  refine R_get foX4_15 hL0 (cE_4 Ω k0 _) rfl dX4_add_40 ?_
  refine R_aload_n (i := 0) dX4_add_43 rfl rfl ?_
  refine R_get foX4_21 hL0 (cE_4 Ω k0 _) rfl dX4_add_44 ?_
  refine R_iload_n (i := 1) dX4_add_47 rfl rfl ?_
  obtain ⟨hb, h⟩ := hit_bnd h
  refine R_iast (WF.kid hW 0 hL0 rfl) (cE_28 Ω k0) hb dX4_add_48 ?_
  refine R_st h (fun σ1 h => ?_)
  refine R_aload_n (i := 0) dX4_add_49 rfl rfl ?_
  refine R_dup dX4_add_50 rfl ?_
  refine R_get foX4_21 hL0 (cE_4 Ω k0 _) rfl dX4_add_51 ?_
  refine R_iconst (v := 1) dX4_add_54 rfl ?_
  refine R_iadd dX4_add_55 ?_
  refine R_put poX4_21 hL0 (cE_4 Ω k0 _) (cP_4_1 Ω k0 _ _) (Nat.le_of_ble_eq_true rfl) dX4_add_56 ?_
  refine R_st h (fun σ2 h => ?_)
  exact R_vret dX4_add_59 rfl h
set_option maxRecDepth 100000 in
set_option maxHeartbeats 4000000 in
theorem ctX4_add (l : Launch) (Ω : rO) (k0 : Nat) (x1 : Int32) (hL0 : oL Ω 4 k0) (σ : rS) (K : Int32 → rS → Prop) (h : hit (fX4_add k0 x1 σ) K) : Ct l Ω yX4_add cX4_add 2 none rmX4_add [rf Ω 4 k0, .int x1] σ K := by
  refine Ct.of (own := RX4) (lv := [some (rf Ω 4 k0), some (.int x1)]) (by decide) rfl (Nat.le_of_ble_eq_true rfl) rfl (fun hW => ?_)
  unfold fX4_add at h
  refine R_aload_n (i := 0) dX4_add_0 rfl rfl ?_
  refine R_get foX4_21 hL0 (cE_4 Ω k0 _) rfl dX4_add_1 ?_
  refine R_aload_n (i := 0) dX4_add_4 rfl rfl ?_
  refine R_get foX4_15 hL0 (cE_4 Ω k0 _) rfl dX4_add_5 ?_
  refine R_alen (v := nI (lnLen k0)) (WF.kid hW 0 hL0 rfl) (cE_28 Ω k0 _) (t0 := 0) rfl rfl dX4_add_8 ?_
  refine R_icmp_ne (tgt := 39) dX4_add_9 (by decide) (fun hc => ?_) (fun hc => ?_)
  · have h := hit_f h hc
    exact rnX4_add_j39 hW k0 x1 hL0 σ  h
  · have h := hit_t h hc
    refine R_aload_n (i := 0) dX4_add_12 rfl rfl ?_
    refine R_dup dX4_add_13 rfl ?_
    refine R_get foX4_21 hL0 (cE_4 Ω k0 _) rfl dX4_add_14 ?_
    refine R_iconst (v := 1) dX4_add_17 rfl ?_
    refine R_isub dX4_add_18 ?_
    refine R_put poX4_21 hL0 (cE_4 Ω k0 _) (cP_4_1 Ω k0 _ _) (Nat.le_of_ble_eq_true rfl) dX4_add_19 ?_
    refine R_st h (fun σ3 h => ?_)
    refine R_aload_n (i := 0) dX4_add_22 rfl rfl ?_
    refine R_get foX4_15 hL0 (cE_4 Ω k0 _) rfl dX4_add_23 ?_
    refine R_iconst (v := 1) dX4_add_26 rfl ?_
    refine R_aload_n (i := 0) dX4_add_27 rfl rfl ?_
    refine R_get foX4_15 hL0 (cE_4 Ω k0 _) rfl dX4_add_28 ?_
    refine R_iconst (v := 0) dX4_add_31 rfl ?_
    refine R_aload_n (i := 0) dX4_add_32 rfl rfl ?_
    refine R_get foX4_21 hL0 (cE_4 Ω k0 _) rfl dX4_add_33 ?_
    obtain ⟨hb, h⟩ := hit_bcp h
    refine R_copy (WF.kid hW 0 hL0 rfl) (cE_28 Ω k0) (WF.kid hW 0 hL0 rfl) (cE_28 Ω k0) hb mw_610 mw_402 mw_401 mw_13 (by decide) (Nat.le_of_ble_eq_true rfl) dX4_add_36 ?_
    refine R_st h (fun σ4 h => ?_)
    exact rnX4_add_j39 hW k0 x1 hL0 σ4  h
set_option maxRecDepth 100000 in
set_option maxHeartbeats 4000000 in
theorem rnX1_emptyWeak_j96L2 {l : Launch} {Ω : rO} (hW : WF Ω) (k1 : Nat) (x2 : Int32) (x3 : Int32) (hL0 : oL Ω 1 0) (hL1 : oL Ω 7 k1) (σ : rS) {K : Int32 → rS → Prop} {K0 : (Int32 ⊕ Unit) → rS → Prop} (hC : ∀ (x3 : Int32) (σ : rS), K0 (.inl x3) σ → Run l Ω cX1_emptyWeak RX1 5 none rmX1_emptyWeak K 2 [some (rf Ω 1 0), some (rf Ω 7 k1), some (.int x2), some (.int x3), none] [] σ) (hE0 : ∀ (e : Unit) (σ : rS), K0 (.inr e) σ → Run l Ω cX1_emptyWeak RX1 5 none rmX1_emptyWeak K 102 [none, none, none, none, none] [] σ) (h : hit (fX1_emptyWeak_j96L2 k1 x2 x3 σ) K0) : Run l Ω cX1_emptyWeak RX1 5 none rmX1_emptyWeak K 96 [some (rf Ω 1 0), some (rf Ω 7 k1), some (.int x2), some (.int x3), none] [] σ := by
  unfold fX1_emptyWeak_j96L2 at h
  refine R_iinc (v := x3 + 1) (lv2 := [some (rf Ω 1 0), some (rf Ω 7 k1), some (.int x2), some (.int (x3 + 1)), none]) dX1_emptyWeak_96 rfl rfl (by decide) rfl rfl ?_
  refine R_goto (tgt := 2) dX1_emptyWeak_99 (by decide) ?_
  exact hC (x3 + 1) σ h
set_option maxRecDepth 100000 in
set_option maxHeartbeats 4000000 in
theorem rnX1_emptyWeak_j66L2 {l : Launch} {Ω : rO} (hW : WF Ω) (k1 : Nat) (x2 : Int32) (x3 : Int32) (hL0 : oL Ω 1 0) (hL1 : oL Ω 7 k1) (σ : rS) {K : Int32 → rS → Prop} {K0 : (Int32 ⊕ Unit) → rS → Prop} (hC : ∀ (x3 : Int32) (σ : rS), K0 (.inl x3) σ → Run l Ω cX1_emptyWeak RX1 5 none rmX1_emptyWeak K 2 [some (rf Ω 1 0), some (rf Ω 7 k1), some (.int x2), some (.int x3), none] [] σ) (hE0 : ∀ (e : Unit) (σ : rS), K0 (.inr e) σ → Run l Ω cX1_emptyWeak RX1 5 none rmX1_emptyWeak K 102 [none, none, none, none, none] [] σ) (h : hit (fX1_emptyWeak_j66L2 k1 x2 x3 σ) K0) : Run l Ω cX1_emptyWeak RX1 5 none rmX1_emptyWeak K 66 [some (rf Ω 1 0), some (rf Ω 7 k1), some (.int x2), some (.int x3), none] [] σ := by
  unfold fX1_emptyWeak_j66L2 at h
  refine R_aload_n (i := 1) dX1_emptyWeak_66 rfl rfl ?_
  refine R_iload_n (i := 3) dX1_emptyWeak_67 rfl rfl ?_
  refine R_iconst (v := 0) dX1_emptyWeak_68 rfl ?_
  refine R_iconst (v := (-1)) dX1_emptyWeak_69 rfl ?_
  refine R_callVv (ctX7_setTarget l Ω k1 x3 0 (-1) hL1 _ _ (hit_mono (hit_bd h) (fun r7 σ8 h => ?_))) okX7_setTarget mw_671 hL1 (cE_7 Ω k1 _) rfl rfl (Nat.le_of_ble_eq_true rfl) rfl rfl ⟨by decide, by decide⟩ ⟨Nat.zero_le _, Nat.zero_le _⟩ dX1_emptyWeak_70
  refine R_aload_n (i := 1) dX1_emptyWeak_73 rfl rfl ?_
  refine R_get foX1_200 hL1 (cE_7 Ω k1 _) rfl dX1_emptyWeak_74 ?_
  refine R_aload_n (i := 1) dX1_emptyWeak_77 rfl rfl ?_
  refine R_get foX1_203 hL1 (cE_7 Ω k1 _) rfl dX1_emptyWeak_78 ?_
  refine R_iload_n (i := 3) dX1_emptyWeak_81 rfl rfl ?_
  obtain ⟨hb, h⟩ := hit_bnd h
  refine R_iald (WF.kid hW 0 hL1 rfl) (cE_45 Ω k1 _) hb dX1_emptyWeak_82 ?_
  refine R_callVv (ctX4_add l Ω (6 * k1 + 1) (σ8 45 k1 (ix x3)) (WF.kid hW 12 hL1 rfl) _ _ (hit_mono (hit_bd h) (fun r9 σ10 h => ?_))) okX4_add mw_676 (WF.kid hW 12 hL1 rfl) (cE_4 Ω (6 * k1 + 1) _) rfl rfl (Nat.le_of_ble_eq_true rfl) rfl rfl ⟨by decide, by decide⟩ ⟨Nat.zero_le _, Nat.zero_le _⟩ dX1_emptyWeak_83
  refine R_aload_n (i := 0) dX1_emptyWeak_86 rfl rfl ?_
  refine R_get foX1_9 hL0 (cE_1 Ω 0 _) rfl dX1_emptyWeak_87 ?_
  refine R_iconst (v := 3) dX1_emptyWeak_90 rfl ?_
  refine R_dup2 dX1_emptyWeak_91 rfl rfl ?_
  refine R_iald (WF.kid hW 2 hL0 rfl) (cE_37 Ω 0 _) (vin 3 5 rfl) dX1_emptyWeak_92 ?_
  refine R_iconst (v := 1) dX1_emptyWeak_93 rfl ?_
  refine R_iadd dX1_emptyWeak_94 ?_
  refine R_iast (WF.kid hW 2 hL0 rfl) (cE_37 Ω 0) (vin 3 5 rfl) dX1_emptyWeak_95 ?_
  refine R_st h (fun σ11 h => ?_)
  exact rnX1_emptyWeak_j96L2 hW k1 x2 x3 hL0 hL1 σ11 hC hE0 h
set_option maxRecDepth 100000 in
set_option maxHeartbeats 4000000 in
theorem rsX1_emptyWeak_L2 {l : Launch} {Ω : rO} (hW : WF Ω) (k1 : Nat) (x2 : Int32) (x3 : Int32) (hL0 : oL Ω 1 0) (hL1 : oL Ω 7 k1) (σ : rS) {K : Int32 → rS → Prop} {K0 : (Int32 ⊕ Unit) → rS → Prop} (hC : ∀ (x3 : Int32) (σ : rS), K0 (.inl x3) σ → Run l Ω cX1_emptyWeak RX1 5 none rmX1_emptyWeak K 2 [some (rf Ω 1 0), some (rf Ω 7 k1), some (.int x2), some (.int x3), none] [] σ) (hE0 : ∀ (e : Unit) (σ : rS), K0 (.inr e) σ → Run l Ω cX1_emptyWeak RX1 5 none rmX1_emptyWeak K 102 [none, none, none, none, none] [] σ) (h : hit (fX1_emptyWeak_L2 k1 x2 x3 σ) K0) : Run l Ω cX1_emptyWeak RX1 5 none rmX1_emptyWeak K 2 [some (rf Ω 1 0), some (rf Ω 7 k1), some (.int x2), some (.int x3), none] [] σ := by
  unfold fX1_emptyWeak_L2 at h
  refine R_iload_n (i := 3) dX1_emptyWeak_2 rfl rfl ?_
  refine R_aload_n (i := 1) dX1_emptyWeak_3 rfl rfl ?_
  refine R_get foX1_123 hL1 (cE_7 Ω k1 _) rfl dX1_emptyWeak_4 ?_
  refine R_icmp_ge (tgt := 102) dX1_emptyWeak_7 (by decide) (fun hc => ?_) (fun hc => ?_)
  · have h := hit_f h hc
    refine R_drop (lv2 := [none, some (rf Ω 7 k1), some (.int x2), some (.int x3), none]) 0 rfl ?_
    refine R_drop (lv2 := [none, none, some (.int x2), some (.int x3), none]) 1 rfl ?_
    refine R_drop (lv2 := [none, none, none, some (.int x3), none]) 2 rfl ?_
    refine R_drop (lv2 := [none, none, none, none, none]) 3 rfl ?_
    exact hE0 () σ h
  · have h := hit_t h hc
    refine R_aload_n (i := 1) dX1_emptyWeak_10 rfl rfl ?_
    refine R_iload_n (i := 3) dX1_emptyWeak_11 rfl rfl ?_
    refine R_iconst (v := 0) dX1_emptyWeak_12 rfl ?_
    refine R_callVi (ctX7_target l Ω k1 x3 0 hL1 _ _ (hit_mono (hit_bd h) (fun r1 σ2 h => ?_))) okX7_target mw_648 hL1 (cE_7 Ω k1 _) rfl rfl (Nat.le_of_ble_eq_true rfl) rfl rfl ⟨by decide, by decide⟩ ⟨Nat.zero_le _, Nat.zero_le _⟩ dX1_emptyWeak_13
    refine R_istore (lv2 := [some (rf Ω 1 0), some (rf Ω 7 k1), some (.int x2), some (.int x3), some (.int r1)]) dX1_emptyWeak_16 (by decide) rfl rfl ?_
    refine R_aload_n (i := 1) dX1_emptyWeak_18 rfl rfl ?_
    refine R_iload_n (i := 3) dX1_emptyWeak_19 rfl rfl ?_
    refine R_callVi (ctX7_isWeak l Ω k1 x3 hL1 _ _ (hit_mono (hit_bd h) (fun r3 σ4 h => ?_))) okX7_isWeak mw_666 hL1 (cE_7 Ω k1 _) rfl rfl (Nat.le_of_ble_eq_true rfl) rfl rfl ⟨by decide, by decide⟩ ⟨Nat.zero_le _, Nat.zero_le _⟩ dX1_emptyWeak_20
    refine R_if_eq (tgt := 96) dX1_emptyWeak_23 (by decide) (fun hc => ?_) (fun hc => ?_)
    · have h := hit_t h hc
      refine R_drop (lv2 := [some (rf Ω 1 0), some (rf Ω 7 k1), some (.int x2), some (.int x3), none]) 4 rfl ?_
      exact rnX1_emptyWeak_j96L2 hW k1 x2 x3 hL0 hL1 σ4 hC hE0 h
    · have h := hit_f h hc
      refine R_aload_n (i := 0) dX1_emptyWeak_26 rfl rfl ?_
      refine R_get foX1_15 hL0 (cE_1 Ω 0 _) rfl dX1_emptyWeak_27 ?_
      refine R_iload_n (i := 3) dX1_emptyWeak_30 rfl rfl ?_
      obtain ⟨hb, h⟩ := hit_bnd h
      refine R_iald (WF.kid hW 3 hL0 rfl) (cE_38 Ω 0 _) hb dX1_emptyWeak_31 ?_
      refine R_iload_n (i := 2) dX1_emptyWeak_32 rfl rfl ?_
      refine R_icmp_ne (tgt := 96) dX1_emptyWeak_33 (by decide) (fun hc => ?_) (fun hc => ?_)
      · have h := hit_f h hc
        refine R_drop (lv2 := [some (rf Ω 1 0), some (rf Ω 7 k1), some (.int x2), some (.int x3), none]) 4 rfl ?_
        exact rnX1_emptyWeak_j96L2 hW k1 x2 x3 hL0 hL1 σ4 hC hE0 h
      · have h := hit_t h hc
        refine R_aload_n (i := 1) dX1_emptyWeak_36 rfl rfl ?_
        refine R_iload (i := 4) dX1_emptyWeak_37 rfl ?_
        refine R_callVi (ctX7_isSlot l Ω k1 r1 hL1 _ _ (hit_mono (hit_bd h) (fun r5 σ6 h => ?_))) okX7_isSlot mw_670 hL1 (cE_7 Ω k1 _) rfl rfl (Nat.le_of_ble_eq_true rfl) rfl rfl ⟨by decide, by decide⟩ ⟨Nat.zero_le _, Nat.zero_le _⟩ dX1_emptyWeak_39
        refine R_if_eq (tgt := 96) dX1_emptyWeak_42 (by decide) (fun hc => ?_) (fun hc => ?_)
        · have h := hit_t h hc
          refine R_drop (lv2 := [some (rf Ω 1 0), some (rf Ω 7 k1), some (.int x2), some (.int x3), none]) 4 rfl ?_
          exact rnX1_emptyWeak_j96L2 hW k1 x2 x3 hL0 hL1 σ6 hC hE0 h
        · have h := hit_f h hc
          refine R_aload_n (i := 0) dX1_emptyWeak_45 rfl rfl ?_
          refine R_get foX1_15 hL0 (cE_1 Ω 0 _) rfl dX1_emptyWeak_46 ?_
          refine R_iload (i := 4) dX1_emptyWeak_49 rfl ?_
          obtain ⟨hb, h⟩ := hit_bnd h
          refine R_iald (WF.kid hW 3 hL0 rfl) (cE_38 Ω 0 _) hb dX1_emptyWeak_51 ?_
          refine R_if_eq (tgt := 66) dX1_emptyWeak_52 (by decide) (fun hc => ?_) (fun hc => ?_)
          · have h := hit_t h hc
            refine R_drop (lv2 := [some (rf Ω 1 0), some (rf Ω 7 k1), some (.int x2), some (.int x3), none]) 4 rfl ?_
            exact rnX1_emptyWeak_j66L2 hW k1 x2 x3 hL0 hL1 σ6 hC hE0 h
          · have h := hit_f h hc
            refine R_aload_n (i := 0) dX1_emptyWeak_55 rfl rfl ?_
            refine R_get foX1_15 hL0 (cE_1 Ω 0 _) rfl dX1_emptyWeak_56 ?_
            refine R_iload (i := 4) dX1_emptyWeak_59 rfl ?_
            obtain ⟨hb, h⟩ := hit_bnd h
            refine R_iald (WF.kid hW 3 hL0 rfl) (cE_38 Ω 0 _) hb dX1_emptyWeak_61 ?_
            refine R_iload_n (i := 2) dX1_emptyWeak_62 rfl rfl ?_
            refine R_icmp_le (tgt := 96) dX1_emptyWeak_63 (by decide) (fun hc => ?_) (fun hc => ?_)
            · have h := hit_f h hc
              refine R_drop (lv2 := [some (rf Ω 1 0), some (rf Ω 7 k1), some (.int x2), some (.int x3), none]) 4 rfl ?_
              exact rnX1_emptyWeak_j96L2 hW k1 x2 x3 hL0 hL1 σ6 hC hE0 h
            · have h := hit_t h hc
              refine R_drop (lv2 := [some (rf Ω 1 0), some (rf Ω 7 k1), some (.int x2), some (.int x3), none]) 4 rfl ?_
              exact rnX1_emptyWeak_j66L2 hW k1 x2 x3 hL0 hL1 σ6 hC hE0 h
set_option maxRecDepth 100000 in
set_option maxHeartbeats 4000000 in
theorem rlX1_emptyWeak_L2 {l : Launch} {Ω : rO} (hW : WF Ω) (k1 : Nat) (x2 : Int32) (hL0 : oL Ω 1 0) (hL1 : oL Ω 7 k1) {K : Int32 → rS → Prop} {KE : Unit → rS → Prop} (hE0 : ∀ (e : Unit) (σ : rS), KE e σ → Run l Ω cX1_emptyWeak RX1 5 none rmX1_emptyWeak K 102 [none, none, none, none, none] [] σ) : ∀ (n : Nat) (x3 : Int32) (σ : rS), hit (lp (fun (x : Int32) σ => fX1_emptyWeak_L2 k1 x2 x σ) n x3 σ) KE → Run l Ω cX1_emptyWeak RX1 5 none rmX1_emptyWeak K 2 [some (rf Ω 1 0), some (rf Ω 7 k1), some (.int x2), some (.int x3), none] [] σ := by
  intro n
  induction n with
  | zero => intro x3 σ h; exact (h : False).elim
  | succ n ih =>
    intro x3 σ h
    exact rsX1_emptyWeak_L2 hW k1 x2 x3 hL0 hL1 σ (fun x3 σ h => ih x3 σ h) (fun e σ h => hE0 e σ h) (hit_lp h)
set_option maxRecDepth 100000 in
set_option maxHeartbeats 4000000 in
theorem ctX1_emptyWeak (l : Launch) (Ω : rO) (k1 : Nat) (x2 : Int32) (hL0 : oL Ω 1 0) (hL1 : oL Ω 7 k1) (σ : rS) (K : Int32 → rS → Prop) (h : hit (fX1_emptyWeak k1 x2 σ) K) : Ct l Ω yX1_emptyWeak cX1_emptyWeak 5 none rmX1_emptyWeak [rf Ω 1 0, rf Ω 7 k1, .int x2] σ K := by
  refine Ct.of (own := RX1) (lv := [some (rf Ω 1 0), some (rf Ω 7 k1), some (.int x2), none, none]) (by decide) rfl (Nat.le_of_ble_eq_true rfl) rfl (fun hW => ?_)
  unfold fX1_emptyWeak at h
  refine R_iconst (v := 0) dX1_emptyWeak_0 rfl ?_
  refine R_istore_n (lv2 := [some (rf Ω 1 0), some (rf Ω 7 k1), some (.int x2), some (.int 0), none]) dX1_emptyWeak_1 rfl (by decide) rfl rfl ?_
  refine rlX1_emptyWeak_L2 hW k1 x2 hL0 hL1 ?_ fu 0 σ (hit_bd h)
  · intro e13 σ12 h
    try dsimp only at h
    exact R_vret dX1_emptyWeak_102 rfl h
set_option maxRecDepth 100000 in
set_option maxHeartbeats 4000000 in
theorem rnX1_lineUpLasting_j48L2 {l : Launch} {Ω : rO} (hW : WF Ω) (k1 : Nat) (x2 : Int32) (hL0 : oL Ω 1 0) (hL1 : oL Ω 7 k1) (σ : rS) {K : Int32 → rS → Prop} {K0 : (Int32 ⊕ Unit) → rS → Prop} (hC : ∀ (x2 : Int32) (σ : rS), K0 (.inl x2) σ → Run l Ω cX1_lineUpLasting RX1 3 none rmX1_lineUpLasting K 2 [some (rf Ω 1 0), some (rf Ω 7 k1), some (.int x2)] [] σ) (hE0 : ∀ (e : Unit) (σ : rS), K0 (.inr e) σ → Run l Ω cX1_lineUpLasting RX1 3 none rmX1_lineUpLasting K 54 [none, none, none] [] σ) (h : hit (fX1_lineUpLasting_j48L2 k1 x2 σ) K0) : Run l Ω cX1_lineUpLasting RX1 3 none rmX1_lineUpLasting K 48 [some (rf Ω 1 0), some (rf Ω 7 k1), some (.int x2)] [] σ := by
  unfold fX1_lineUpLasting_j48L2 at h
  refine R_iinc (v := x2 + 1) (lv2 := [some (rf Ω 1 0), some (rf Ω 7 k1), some (.int (x2 + 1))]) dX1_lineUpLasting_48 rfl rfl (by decide) rfl rfl ?_
  refine R_goto (tgt := 2) dX1_lineUpLasting_51 (by decide) ?_
  exact hC (x2 + 1) σ h
set_option maxRecDepth 100000 in
set_option maxHeartbeats 4000000 in
theorem rsX1_lineUpLasting_L2 {l : Launch} {Ω : rO} (hW : WF Ω) (k1 : Nat) (x2 : Int32) (hL0 : oL Ω 1 0) (hL1 : oL Ω 7 k1) (σ : rS) {K : Int32 → rS → Prop} {K0 : (Int32 ⊕ Unit) → rS → Prop} (hC : ∀ (x2 : Int32) (σ : rS), K0 (.inl x2) σ → Run l Ω cX1_lineUpLasting RX1 3 none rmX1_lineUpLasting K 2 [some (rf Ω 1 0), some (rf Ω 7 k1), some (.int x2)] [] σ) (hE0 : ∀ (e : Unit) (σ : rS), K0 (.inr e) σ → Run l Ω cX1_lineUpLasting RX1 3 none rmX1_lineUpLasting K 54 [none, none, none] [] σ) (h : hit (fX1_lineUpLasting_L2 k1 x2 σ) K0) : Run l Ω cX1_lineUpLasting RX1 3 none rmX1_lineUpLasting K 2 [some (rf Ω 1 0), some (rf Ω 7 k1), some (.int x2)] [] σ := by
  unfold fX1_lineUpLasting_L2 at h
  refine R_iload_n (i := 2) dX1_lineUpLasting_2 rfl rfl ?_
  refine R_aload_n (i := 1) dX1_lineUpLasting_3 rfl rfl ?_
  refine R_get foX1_123 hL1 (cE_7 Ω k1 _) rfl dX1_lineUpLasting_4 ?_
  refine R_icmp_ge (tgt := 54) dX1_lineUpLasting_7 (by decide) (fun hc => ?_) (fun hc => ?_)
  · have h := hit_f h hc
    refine R_drop (lv2 := [none, some (rf Ω 7 k1), some (.int x2)]) 0 rfl ?_
    refine R_drop (lv2 := [none, none, some (.int x2)]) 1 rfl ?_
    refine R_drop (lv2 := [none, none, none]) 2 rfl ?_
    exact hE0 () σ h
  · have h := hit_t h hc
    refine R_aload_n (i := 1) dX1_lineUpLasting_10 rfl rfl ?_
    refine R_get foX1_162 hL1 (cE_7 Ω k1 _) rfl dX1_lineUpLasting_11 ?_
    refine R_iload_n (i := 2) dX1_lineUpLasting_14 rfl rfl ?_
    obtain ⟨hb, h⟩ := hit_bnd h
    refine R_iald (WF.kid hW 1 hL1 rfl) (cE_46 Ω k1 _) hb dX1_lineUpLasting_15 ?_
    refine R_iconst (v := 2) dX1_lineUpLasting_16 rfl ?_
    refine R_icmp_ne (tgt := 48) dX1_lineUpLasting_17 (by decide) (fun hc => ?_) (fun hc => ?_)
    · have h := hit_f h hc
      exact rnX1_lineUpLasting_j48L2 hW k1 x2 hL0 hL1 σ hC hE0 h
    · have h := hit_t h hc
      refine R_aload_n (i := 0) dX1_lineUpLasting_20 rfl rfl ?_
      refine R_get foX1_15 hL0 (cE_1 Ω 0 _) rfl dX1_lineUpLasting_21 ?_
      refine R_iload_n (i := 2) dX1_lineUpLasting_24 rfl rfl ?_
      obtain ⟨hb, h⟩ := hit_bnd h
      refine R_iald (WF.kid hW 3 hL0 rfl) (cE_38 Ω 0 _) hb dX1_lineUpLasting_25 ?_
      refine R_iconst (v := 1) dX1_lineUpLasting_26 rfl ?_
      refine R_icmp_eq (tgt := 48) dX1_lineUpLasting_27 (by decide) (fun hc => ?_) (fun hc => ?_)
      · have h := hit_t h hc
        exact rnX1_lineUpLasting_j48L2 hW k1 x2 hL0 hL1 σ hC hE0 h
      · have h := hit_f h hc
        refine R_aload_n (i := 1) dX1_lineUpLasting_30 rfl rfl ?_
        refine R_get foX1_136 hL1 (cE_7 Ω k1 _) rfl dX1_lineUpLasting_31 ?_
        refine R_iload_n (i := 2) dX1_lineUpLasting_34 rfl rfl ?_
        refine R_callVv (ctX4_add l Ω (6 * k1 + 0) x2 (WF.kid hW 11 hL1 rfl) _ _ (hit_mono (hit_bd h) (fun r1 σ2 h => ?_))) okX4_add mw_676 (WF.kid hW 11 hL1 rfl) (cE_4 Ω (6 * k1 + 0) _) rfl rfl (Nat.le_of_ble_eq_true rfl) rfl rfl ⟨by decide, by decide⟩ ⟨Nat.zero_le _, Nat.zero_le _⟩ dX1_lineUpLasting_35
        refine R_aload_n (i := 0) dX1_lineUpLasting_38 rfl rfl ?_
        refine R_get foX1_9 hL0 (cE_1 Ω 0 _) rfl dX1_lineUpLasting_39 ?_
        refine R_iconst (v := 4) dX1_lineUpLasting_42 rfl ?_
        refine R_dup2 dX1_lineUpLasting_43 rfl rfl ?_
        refine R_iald (WF.kid hW 2 hL0 rfl) (cE_37 Ω 0 _) (vin 4 5 rfl) dX1_lineUpLasting_44 ?_
        refine R_iconst (v := 1) dX1_lineUpLasting_45 rfl ?_
        refine R_iadd dX1_lineUpLasting_46 ?_
        refine R_iast (WF.kid hW 2 hL0 rfl) (cE_37 Ω 0) (vin 4 5 rfl) dX1_lineUpLasting_47 ?_
        refine R_st h (fun σ3 h => ?_)
        exact rnX1_lineUpLasting_j48L2 hW k1 x2 hL0 hL1 σ3 hC hE0 h
set_option maxRecDepth 100000 in
set_option maxHeartbeats 4000000 in
theorem rlX1_lineUpLasting_L2 {l : Launch} {Ω : rO} (hW : WF Ω) (k1 : Nat) (hL0 : oL Ω 1 0) (hL1 : oL Ω 7 k1) {K : Int32 → rS → Prop} {KE : Unit → rS → Prop} (hE0 : ∀ (e : Unit) (σ : rS), KE e σ → Run l Ω cX1_lineUpLasting RX1 3 none rmX1_lineUpLasting K 54 [none, none, none] [] σ) : ∀ (n : Nat) (x2 : Int32) (σ : rS), hit (lp (fun (x : Int32) σ => fX1_lineUpLasting_L2 k1 x σ) n x2 σ) KE → Run l Ω cX1_lineUpLasting RX1 3 none rmX1_lineUpLasting K 2 [some (rf Ω 1 0), some (rf Ω 7 k1), some (.int x2)] [] σ := by
  intro n
  induction n with
  | zero => intro x2 σ h; exact (h : False).elim
  | succ n ih =>
    intro x2 σ h
    exact rsX1_lineUpLasting_L2 hW k1 x2 hL0 hL1 σ (fun x2 σ h => ih x2 σ h) (fun e σ h => hE0 e σ h) (hit_lp h)
set_option maxRecDepth 100000 in
set_option maxHeartbeats 4000000 in
theorem ctX1_lineUpLasting (l : Launch) (Ω : rO) (k1 : Nat) (hL0 : oL Ω 1 0) (hL1 : oL Ω 7 k1) (σ : rS) (K : Int32 → rS → Prop) (h : hit (fX1_lineUpLasting k1 σ) K) : Ct l Ω yX1_lineUpLasting cX1_lineUpLasting 3 none rmX1_lineUpLasting [rf Ω 1 0, rf Ω 7 k1] σ K := by
  refine Ct.of (own := RX1) (lv := [some (rf Ω 1 0), some (rf Ω 7 k1), none]) (by decide) rfl (Nat.le_of_ble_eq_true rfl) rfl (fun hW => ?_)
  unfold fX1_lineUpLasting at h
  refine R_iconst (v := 0) dX1_lineUpLasting_0 rfl ?_
  refine R_istore_n (lv2 := [some (rf Ω 1 0), some (rf Ω 7 k1), some (.int 0)]) dX1_lineUpLasting_1 rfl (by decide) rfl rfl ?_
  refine rlX1_lineUpLasting_L2 hW k1 hL0 hL1 ?_ fu 0 σ (hit_bd h)
  · intro e5 σ4 h
    try dsimp only at h
    exact R_vret dX1_lineUpLasting_54 rfl h
set_option maxRecDepth 100000 in
set_option maxHeartbeats 4000000 in
theorem rnX1_settle_j81L2 {l : Launch} {Ω : rO} (hW : WF Ω) (k1 : Nat) (x2 : Int32) (hL0 : oL Ω 1 0) (hL1 : oL Ω 7 k1) (σ : rS) {K : Int32 → rS → Prop} {K0 : (Int32 ⊕ Unit) → rS → Prop} (hC : ∀ (x2 : Int32) (σ : rS), K0 (.inl x2) σ → Run l Ω cX1_settle RX1 4 none rmX1_settle K 2 [some (rf Ω 1 0), some (rf Ω 7 k1), some (.int x2), none] [] σ) (hE0 : ∀ (e : Unit) (σ : rS), K0 (.inr e) σ → Run l Ω cX1_settle RX1 4 none rmX1_settle K 87 [some (rf Ω 1 0), some (rf Ω 7 k1), none, none] [] σ) (h : hit (fX1_settle_j81L2 k1 x2 σ) K0) : Run l Ω cX1_settle RX1 4 none rmX1_settle K 81 [some (rf Ω 1 0), some (rf Ω 7 k1), some (.int x2), none] [] σ := by
  unfold fX1_settle_j81L2 at h
  refine R_iinc (v := x2 + 1) (lv2 := [some (rf Ω 1 0), some (rf Ω 7 k1), some (.int (x2 + 1)), none]) dX1_settle_81 rfl rfl (by decide) rfl rfl ?_
  refine R_goto (tgt := 2) dX1_settle_84 (by decide) ?_
  exact hC (x2 + 1) σ h
set_option maxRecDepth 100000 in
set_option maxHeartbeats 4000000 in
theorem rsX1_settle_L2 {l : Launch} {Ω : rO} (hW : WF Ω) (k1 : Nat) (x2 : Int32) (hL0 : oL Ω 1 0) (hL1 : oL Ω 7 k1) (σ : rS) {K : Int32 → rS → Prop} {K0 : (Int32 ⊕ Unit) → rS → Prop} (hC : ∀ (x2 : Int32) (σ : rS), K0 (.inl x2) σ → Run l Ω cX1_settle RX1 4 none rmX1_settle K 2 [some (rf Ω 1 0), some (rf Ω 7 k1), some (.int x2), none] [] σ) (hE0 : ∀ (e : Unit) (σ : rS), K0 (.inr e) σ → Run l Ω cX1_settle RX1 4 none rmX1_settle K 87 [some (rf Ω 1 0), some (rf Ω 7 k1), none, none] [] σ) (h : hit (fX1_settle_L2 k1 x2 σ) K0) : Run l Ω cX1_settle RX1 4 none rmX1_settle K 2 [some (rf Ω 1 0), some (rf Ω 7 k1), some (.int x2), none] [] σ := by
  unfold fX1_settle_L2 at h
  refine R_iload_n (i := 2) dX1_settle_2 rfl rfl ?_
  refine R_aload_n (i := 0) dX1_settle_3 rfl rfl ?_
  refine R_get foX1_116 hL0 (cE_1 Ω 0 _) rfl dX1_settle_4 ?_
  refine R_icmp_ge (tgt := 87) dX1_settle_7 (by decide) (fun hc => ?_) (fun hc => ?_)
  · have h := hit_f h hc
    refine R_drop (lv2 := [some (rf Ω 1 0), some (rf Ω 7 k1), none, none]) 2 rfl ?_
    exact hE0 () σ h
  · have h := hit_t h hc
    refine R_aload_n (i := 0) dX1_settle_10 rfl rfl ?_
    refine R_get foX1_18 hL0 (cE_1 Ω 0 _) rfl dX1_settle_11 ?_
    refine R_iload_n (i := 2) dX1_settle_14 rfl rfl ?_
    obtain ⟨hb, h⟩ := hit_bnd h
    refine R_iald (WF.kid hW 4 hL0 rfl) (cE_39 Ω 0 _) hb dX1_settle_15 ?_
    refine R_topi h (fun y1 h => ?_)
    refine R_istore_n (lv2 := [some (rf Ω 1 0), some (rf Ω 7 k1), some (.int x2), some (.int y1)]) dX1_settle_16 rfl (by decide) rfl rfl ?_
    refine R_aload_n (i := 1) dX1_settle_17 rfl rfl ?_
    refine R_get foX1_168 hL1 (cE_7 Ω k1 _) rfl dX1_settle_18 ?_
    refine R_iload_n (i := 3) dX1_settle_21 rfl rfl ?_
    refine R_dup2 dX1_settle_22 rfl rfl ?_
    obtain ⟨hb, h⟩ := hit_bnd h
    refine R_iald (WF.kid hW 4 hL1 rfl) (cE_49 Ω k1 _) hb dX1_settle_23 ?_
    refine R_iconst (v := 1) dX1_settle_24 rfl ?_
    refine R_iadd dX1_settle_25 ?_
    obtain ⟨hb, h⟩ := hit_bnd h
    refine R_iast (WF.kid hW 4 hL1 rfl) (cE_49 Ω k1) hb dX1_settle_26 ?_
    refine R_st h (fun σ2 h => ?_)
    refine R_aload_n (i := 1) dX1_settle_27 rfl rfl ?_
    refine R_get foX1_206 hL1 (cE_7 Ω k1 _) rfl dX1_settle_28 ?_
    refine R_iload_n (i := 3) dX1_settle_31 rfl rfl ?_
    refine R_aload_n (i := 0) dX1_settle_32 rfl rfl ?_
    refine R_get foX1_21 hL0 (cE_1 Ω 0 _) rfl dX1_settle_33 ?_
    refine R_iload_n (i := 3) dX1_settle_36 rfl rfl ?_
    obtain ⟨hb, h⟩ := hit_bnd h
    refine R_iald (WF.kid hW 5 hL0 rfl) (cE_40 Ω 0 _) hb dX1_settle_37 ?_
    obtain ⟨hb, h⟩ := hit_bnd h
    refine R_iast (WF.kid hW 5 hL1 rfl) (cE_50 Ω k1) hb dX1_settle_38 ?_
    refine R_st h (fun σ3 h => ?_)
    refine R_aload_n (i := 1) dX1_settle_39 rfl rfl ?_
    refine R_get foX1_209 hL1 (cE_7 Ω k1 _) rfl dX1_settle_40 ?_
    refine R_iload_n (i := 3) dX1_settle_43 rfl rfl ?_
    refine R_aload_n (i := 0) dX1_settle_44 rfl rfl ?_
    refine R_get foX1_24 hL0 (cE_1 Ω 0 _) rfl dX1_settle_45 ?_
    refine R_iload_n (i := 3) dX1_settle_48 rfl rfl ?_
    obtain ⟨hb, h⟩ := hit_bnd h
    refine R_iald (WF.kid hW 6 hL0 rfl) (cE_41 Ω 0 _) hb dX1_settle_49 ?_
    obtain ⟨hb, h⟩ := hit_bnd h
    refine R_iast (WF.kid hW 6 hL1 rfl) (cE_51 Ω k1) hb dX1_settle_50 ?_
    refine R_st h (fun σ4 h => ?_)
    refine R_aload_n (i := 0) dX1_settle_51 rfl rfl ?_
    refine R_get foX1_9 hL0 (cE_1 Ω 0 _) rfl dX1_settle_52 ?_
    refine R_iconst (v := 0) dX1_settle_55 rfl ?_
    refine R_dup2 dX1_settle_56 rfl rfl ?_
    refine R_iald (WF.kid hW 2 hL0 rfl) (cE_37 Ω 0 _) (vin 0 5 rfl) dX1_settle_57 ?_
    refine R_iconst (v := 1) dX1_settle_58 rfl ?_
    refine R_iadd dX1_settle_59 ?_
    refine R_iast (WF.kid hW 2 hL0 rfl) (cE_37 Ω 0) (vin 0 5 rfl) dX1_settle_60 ?_
    refine R_st h (fun σ5 h => ?_)
    refine R_aload_n (i := 0) dX1_settle_61 rfl rfl ?_
    refine R_get foX1_21 hL0 (cE_1 Ω 0 _) rfl dX1_settle_62 ?_
    refine R_iload_n (i := 3) dX1_settle_65 rfl rfl ?_
    obtain ⟨hb, h⟩ := hit_bnd h
    refine R_iald (WF.kid hW 5 hL0 rfl) (cE_40 Ω 0 _) hb dX1_settle_66 ?_
    refine R_iconst (v := 2) dX1_settle_67 rfl ?_
    refine R_icmp_ne (tgt := 81) dX1_settle_68 (by decide) (fun hc => ?_) (fun hc => ?_)
    · have h := hit_f h hc
      refine R_drop (lv2 := [some (rf Ω 1 0), some (rf Ω 7 k1), some (.int x2), none]) 3 rfl ?_
      exact rnX1_settle_j81L2 hW k1 x2 hL0 hL1 σ5 hC hE0 h
    · have h := hit_t h hc
      refine R_aload_n (i := 0) dX1_settle_71 rfl rfl ?_
      refine R_get foX1_9 hL0 (cE_1 Ω 0 _) rfl dX1_settle_72 ?_
      refine R_iconst (v := 1) dX1_settle_75 rfl ?_
      refine R_dup2 dX1_settle_76 rfl rfl ?_
      refine R_iald (WF.kid hW 2 hL0 rfl) (cE_37 Ω 0 _) (vin 1 5 rfl) dX1_settle_77 ?_
      refine R_iconst (v := 1) dX1_settle_78 rfl ?_
      refine R_iadd dX1_settle_79 ?_
      refine R_iast (WF.kid hW 2 hL0 rfl) (cE_37 Ω 0) (vin 1 5 rfl) dX1_settle_80 ?_
      refine R_st h (fun σ6 h => ?_)
      refine R_drop (lv2 := [some (rf Ω 1 0), some (rf Ω 7 k1), some (.int x2), none]) 3 rfl ?_
      exact rnX1_settle_j81L2 hW k1 x2 hL0 hL1 σ6 hC hE0 h
set_option maxRecDepth 100000 in
set_option maxHeartbeats 4000000 in
theorem rlX1_settle_L2 {l : Launch} {Ω : rO} (hW : WF Ω) (k1 : Nat) (hL0 : oL Ω 1 0) (hL1 : oL Ω 7 k1) {K : Int32 → rS → Prop} {KE : Unit → rS → Prop} (hE0 : ∀ (e : Unit) (σ : rS), KE e σ → Run l Ω cX1_settle RX1 4 none rmX1_settle K 87 [some (rf Ω 1 0), some (rf Ω 7 k1), none, none] [] σ) : ∀ (n : Nat) (x2 : Int32) (σ : rS), hit (lp (fun (x : Int32) σ => fX1_settle_L2 k1 x σ) n x2 σ) KE → Run l Ω cX1_settle RX1 4 none rmX1_settle K 2 [some (rf Ω 1 0), some (rf Ω 7 k1), some (.int x2), none] [] σ := by
  intro n
  induction n with
  | zero => intro x2 σ h; exact (h : False).elim
  | succ n ih =>
    intro x2 σ h
    exact rsX1_settle_L2 hW k1 x2 hL0 hL1 σ (fun x2 σ h => ih x2 σ h) (fun e σ h => hE0 e σ h) (hit_lp h)
set_option maxRecDepth 100000 in
set_option maxHeartbeats 4000000 in
theorem ctX1_settle (l : Launch) (Ω : rO) (k1 : Nat) (hL0 : oL Ω 1 0) (hL1 : oL Ω 7 k1) (σ : rS) (K : Int32 → rS → Prop) (h : hit (fX1_settle k1 σ) K) : Ct l Ω yX1_settle cX1_settle 4 none rmX1_settle [rf Ω 1 0, rf Ω 7 k1] σ K := by
  refine Ct.of (own := RX1) (lv := [some (rf Ω 1 0), some (rf Ω 7 k1), none, none]) (by decide) rfl (Nat.le_of_ble_eq_true rfl) rfl (fun hW => ?_)
  unfold fX1_settle at h
  refine R_iconst (v := 0) dX1_settle_0 rfl ?_
  refine R_istore_n (lv2 := [some (rf Ω 1 0), some (rf Ω 7 k1), some (.int 0), none]) dX1_settle_1 rfl (by decide) rfl rfl ?_
  refine rlX1_settle_L2 hW k1 hL0 hL1 ?_ fu 0 σ (hit_bd h)
  · intro e8 σ7 h
    try dsimp only at h
    refine R_aload_n (i := 1) dX1_settle_87 rfl rfl ?_
    refine R_get foX1_120 hL1 (cE_7 Ω k1 _) rfl dX1_settle_88 ?_
    refine R_iconst (v := 0) dX1_settle_91 rfl ?_
    refine R_iconst (v := 0) dX1_settle_92 rfl ?_
    refine R_iast (WF.kid hW 9 hL1 rfl) (cE_54 Ω k1) (vin 0 3 rfl) dX1_settle_93 ?_
    refine R_st h (fun σ9 h => ?_)
    refine R_aload_n (i := 1) dX1_settle_94 rfl rfl ?_
    refine R_get foX1_120 hL1 (cE_7 Ω k1 _) rfl dX1_settle_95 ?_
    refine R_iconst (v := 1) dX1_settle_98 rfl ?_
    refine R_aload_n (i := 0) dX1_settle_99 rfl rfl ?_
    refine R_get foX1_30 hL0 (cE_1 Ω 0 _) rfl dX1_settle_100 ?_
    refine R_iconst (v := 1) dX1_settle_103 rfl ?_
    refine R_iald (WF.kid hW 8 hL0 rfl) (cE_43 Ω 0 _) (vin 1 3 rfl) dX1_settle_104 ?_
    refine R_iast (WF.kid hW 9 hL1 rfl) (cE_54 Ω k1) (vin 1 3 rfl) dX1_settle_105 ?_
    refine R_st h (fun σ10 h => ?_)
    refine R_aload_n (i := 1) dX1_settle_106 rfl rfl ?_
    refine R_get foX1_120 hL1 (cE_7 Ω k1 _) rfl dX1_settle_107 ?_
    refine R_iconst (v := 2) dX1_settle_110 rfl ?_
    refine R_aload_n (i := 0) dX1_settle_111 rfl rfl ?_
    refine R_get foX1_30 hL0 (cE_1 Ω 0 _) rfl dX1_settle_112 ?_
    refine R_iconst (v := 2) dX1_settle_115 rfl ?_
    refine R_iald (WF.kid hW 8 hL0 rfl) (cE_43 Ω 0 _) (vin 2 3 rfl) dX1_settle_116 ?_
    refine R_iast (WF.kid hW 9 hL1 rfl) (cE_54 Ω k1) (vin 2 3 rfl) dX1_settle_117 ?_
    refine R_st h (fun σ11 h => ?_)
    refine R_aload_n (i := 1) dX1_settle_118 rfl rfl ?_
    refine R_iconst (v := 1) dX1_settle_119 rfl ?_
    refine R_aload_n (i := 1) dX1_settle_120 rfl rfl ?_
    refine R_get foX1_212 hL1 (cE_7 Ω k1 _) rfl dX1_settle_121 ?_
    refine R_isub dX1_settle_124 ?_
    refine R_put poX1_212 hL1 (cE_7 Ω k1 _) (cP_7_1 Ω k1 _ _) (Nat.le_of_ble_eq_true rfl) dX1_settle_125 ?_
    refine R_st h (fun σ12 h => ?_)
    exact R_vret dX1_settle_128 rfl h
set_option maxRecDepth 100000 in
set_option maxHeartbeats 4000000 in
theorem ctX7_isOldToYoung (l : Launch) (Ω : rO) (k0 : Nat) (x1 : Int32) (x2 : Int32) (hL0 : oL Ω 7 k0) (σ : rS) (K : Int32 → rS → Prop) (h : hit (fX7_isOldToYoung k0 x1 x2 σ) K) : Ct l Ω yX7_isOldToYoung cX7_isOldToYoung 3 (some .boolean) rmX7_isOldToYoung [rf Ω 7 k0, .int x1, .int x2] σ K := by
  refine Ct.of (own := RX7) (lv := [some (rf Ω 7 k0), some (.int x1), some (.int x2)]) (by decide) rfl (Nat.le_of_ble_eq_true rfl) rfl (fun hW => ?_)
  unfold fX7_isOldToYoung at h
  refine R_aload_n (i := 0) dX7_isOldToYoung_0 rfl rfl ?_
  refine R_iload_n (i := 1) dX7_isOldToYoung_1 rfl rfl ?_
  refine R_callVi (ctX7_isSlot l Ω k0 x1 hL0 _ _ (hit_mono (hit_bd h) (fun r1 σ2 h => ?_))) okX7_isSlot mw_555 hL0 (cE_7 Ω k0 _) rfl rfl (Nat.le_of_ble_eq_true rfl) rfl rfl ⟨by decide, by decide⟩ ⟨Nat.zero_le _, Nat.zero_le _⟩ dX7_isOldToYoung_2
  refine R_if_eq (tgt := 33) dX7_isOldToYoung_5 (by decide) (fun hc => ?_) (fun hc => ?_)
  · have h := hit_t h hc
    refine R_iconst (v := 0) dX7_isOldToYoung_33 rfl ?_
    exact R_zret dX7_isOldToYoung_34 rfl (Or.inl rfl) h
  · have h := hit_f h hc
    refine R_aload_n (i := 0) dX7_isOldToYoung_8 rfl rfl ?_
    refine R_iload_n (i := 1) dX7_isOldToYoung_9 rfl rfl ?_
    refine R_callVi (ctX7_isYoung l Ω k0 x1 hL0 _ _ (hit_mono (hit_bd h) (fun r3 σ4 h => ?_))) okX7_isYoung mw_696 hL0 (cE_7 Ω k0 _) rfl rfl (Nat.le_of_ble_eq_true rfl) rfl rfl ⟨by decide, by decide⟩ ⟨Nat.zero_le _, Nat.zero_le _⟩ dX7_isOldToYoung_10
    refine R_if_ne (tgt := 33) dX7_isOldToYoung_13 (by decide) (fun hc => ?_) (fun hc => ?_)
    · have h := hit_f h hc
      refine R_iconst (v := 0) dX7_isOldToYoung_33 rfl ?_
      exact R_zret dX7_isOldToYoung_34 rfl (Or.inl rfl) h
    · have h := hit_t h hc
      refine R_aload_n (i := 0) dX7_isOldToYoung_16 rfl rfl ?_
      refine R_aload_n (i := 0) dX7_isOldToYoung_17 rfl rfl ?_
      refine R_iload_n (i := 1) dX7_isOldToYoung_18 rfl rfl ?_
      refine R_iload_n (i := 2) dX7_isOldToYoung_19 rfl rfl ?_
      refine R_callVi (ctX7_target l Ω k0 x1 x2 hL0 _ _ (hit_mono (hit_bd h) (fun r5 σ6 h => ?_))) okX7_target mw_697 hL0 (cE_7 Ω k0 _) rfl rfl (Nat.le_of_ble_eq_true rfl) rfl rfl ⟨by decide, by decide⟩ ⟨Nat.zero_le _, Nat.zero_le _⟩ dX7_isOldToYoung_20
      refine R_callVi (ctX7_isYoung l Ω k0 r5 hL0 _ _ (hit_mono (hit_bd h) (fun r7 σ8 h => ?_))) okX7_isYoung mw_696 hL0 (cE_7 Ω k0 _) rfl rfl (Nat.le_of_ble_eq_true rfl) rfl rfl ⟨by decide, by decide⟩ ⟨Nat.zero_le _, Nat.zero_le _⟩ dX7_isOldToYoung_23
      refine R_if_eq (tgt := 33) dX7_isOldToYoung_26 (by decide) (fun hc => ?_) (fun hc => ?_)
      · have h := hit_t h hc
        refine R_iconst (v := 0) dX7_isOldToYoung_33 rfl ?_
        exact R_zret dX7_isOldToYoung_34 rfl (Or.inl rfl) h
      · have h := hit_f h hc
        refine R_iconst (v := 1) dX7_isOldToYoung_29 rfl ?_
        refine R_goto (tgt := 34) dX7_isOldToYoung_30 (by decide) ?_
        exact R_zret dX7_isOldToYoung_34 rfl (Or.inr rfl) h
set_option maxRecDepth 100000 in
set_option maxHeartbeats 4000000 in
theorem ctX4_set (l : Launch) (Ω : rO) (k0 : Nat) (x1 : Int32) (x2 : Int32) (hL0 : oL Ω 4 k0) (σ : rS) (K : Int32 → rS → Prop) (h : hit (fX4_set k0 x1 x2 σ) K) : Ct l Ω yX4_set cX4_set 3 none rmX4_set [rf Ω 4 k0, .int x1, .int x2] σ K := by
  refine Ct.of (own := RX4) (lv := [some (rf Ω 4 k0), some (.int x1), some (.int x2)]) (by decide) rfl (Nat.le_of_ble_eq_true rfl) rfl (fun hW => ?_)
  unfold fX4_set at h
  refine R_iload_n (i := 1) dX4_set_0 rfl rfl ?_
  refine R_if_lt (tgt := 19) dX4_set_1 (by decide) (fun hc => ?_) (fun hc => ?_)
  · have h := hit_t h hc
    exact R_vret dX4_set_19 rfl h
  · have h := hit_f h hc
    refine R_iload_n (i := 1) dX4_set_4 rfl rfl ?_
    refine R_aload_n (i := 0) dX4_set_5 rfl rfl ?_
    refine R_get foX4_21 hL0 (cE_4 Ω k0 _) rfl dX4_set_6 ?_
    refine R_icmp_ge (tgt := 19) dX4_set_9 (by decide) (fun hc => ?_) (fun hc => ?_)
    · have h := hit_f h hc
      exact R_vret dX4_set_19 rfl h
    · have h := hit_t h hc
      refine R_aload_n (i := 0) dX4_set_12 rfl rfl ?_
      refine R_get foX4_15 hL0 (cE_4 Ω k0 _) rfl dX4_set_13 ?_
      refine R_iload_n (i := 1) dX4_set_16 rfl rfl ?_
      refine R_iload_n (i := 2) dX4_set_17 rfl rfl ?_
      obtain ⟨hb, h⟩ := hit_bnd h
      refine R_iast (WF.kid hW 0 hL0 rfl) (cE_28 Ω k0) hb dX4_set_18 ?_
      refine R_st h (fun σ1 h => ?_)
      exact R_vret dX4_set_19 rfl h
set_option maxRecDepth 100000 in
set_option maxHeartbeats 4000000 in
theorem rnX1_dropRemembered_j66L10 {l : Launch} {Ω : rO} (hW : WF Ω) (k1 : Nat) (k2 : Nat) (x3 : Int32) (x4 : Int32) (hL0 : oL Ω 1 0) (hL1 : oL Ω 7 k1) (hL2 : oL Ω 4 k2) (σ : rS) {K : Int32 → rS → Prop} {K0 : ((Int32 × Int32) ⊕ Int32) → rS → Prop} (hC : ∀ (x3 : Int32) (x4 : Int32) (σ : rS), K0 (.inl (x3, x4)) σ → Run l Ω cX1_dropRemembered RX1 7 none rmX1_dropRemembered K 10 [some (rf Ω 1 0), some (rf Ω 7 k1), some (rf Ω 4 k2), some (.int x3), some (.int x4), none, none] [] σ) (hE0 : ∀ (e : Int32) (σ : rS), K0 (.inr e) σ → Run l Ω cX1_dropRemembered RX1 7 none rmX1_dropRemembered K 72 [none, none, some (rf Ω 4 k2), some (.int e), none, none, none] [] σ) (h : hit (fX1_dropRemembered_j66L10 k1 k2 x3 x4 σ) K0) : Run l Ω cX1_dropRemembered RX1 7 none rmX1_dropRemembered K 66 [some (rf Ω 1 0), some (rf Ω 7 k1), some (rf Ω 4 k2), some (.int x3), some (.int x4), none, none] [] σ := by
  unfold fX1_dropRemembered_j66L10 at h
  refine R_iinc (v := x4 + 1) (lv2 := [some (rf Ω 1 0), some (rf Ω 7 k1), some (rf Ω 4 k2), some (.int x3), some (.int (x4 + 1)), none, none]) dX1_dropRemembered_66 rfl rfl (by decide) rfl rfl ?_
  refine R_goto (tgt := 10) dX1_dropRemembered_69 (by decide) ?_
  exact hC x3 (x4 + 1) σ h
set_option maxRecDepth 100000 in
set_option maxHeartbeats 4000000 in
theorem rsX1_dropRemembered_L10 {l : Launch} {Ω : rO} (hW : WF Ω) (k1 : Nat) (k2 : Nat) (x3 : Int32) (x4 : Int32) (hL0 : oL Ω 1 0) (hL1 : oL Ω 7 k1) (hL2 : oL Ω 4 k2) (σ : rS) {K : Int32 → rS → Prop} {K0 : ((Int32 × Int32) ⊕ Int32) → rS → Prop} (hC : ∀ (x3 : Int32) (x4 : Int32) (σ : rS), K0 (.inl (x3, x4)) σ → Run l Ω cX1_dropRemembered RX1 7 none rmX1_dropRemembered K 10 [some (rf Ω 1 0), some (rf Ω 7 k1), some (rf Ω 4 k2), some (.int x3), some (.int x4), none, none] [] σ) (hE0 : ∀ (e : Int32) (σ : rS), K0 (.inr e) σ → Run l Ω cX1_dropRemembered RX1 7 none rmX1_dropRemembered K 72 [none, none, some (rf Ω 4 k2), some (.int e), none, none, none] [] σ) (h : hit (fX1_dropRemembered_L10 k1 k2 x3 x4 σ) K0) : Run l Ω cX1_dropRemembered RX1 7 none rmX1_dropRemembered K 10 [some (rf Ω 1 0), some (rf Ω 7 k1), some (rf Ω 4 k2), some (.int x3), some (.int x4), none, none] [] σ := by
  unfold fX1_dropRemembered_L10 at h
  refine R_iload (i := 4) dX1_dropRemembered_10 rfl ?_
  refine R_aload_n (i := 2) dX1_dropRemembered_12 rfl rfl ?_
  refine R_get foX1_140 hL2 (cE_4 Ω k2 _) rfl dX1_dropRemembered_13 ?_
  refine R_icmp_ge (tgt := 72) dX1_dropRemembered_16 (by decide) (fun hc => ?_) (fun hc => ?_)
  · have h := hit_f h hc
    refine R_drop (lv2 := [none, some (rf Ω 7 k1), some (rf Ω 4 k2), some (.int x3), some (.int x4), none, none]) 0 rfl ?_
    refine R_drop (lv2 := [none, none, some (rf Ω 4 k2), some (.int x3), some (.int x4), none, none]) 1 rfl ?_
    refine R_drop (lv2 := [none, none, some (rf Ω 4 k2), some (.int x3), none, none, none]) 4 rfl ?_
    exact hE0 x3 σ h
  · have h := hit_t h hc
    refine R_aload_n (i := 2) dX1_dropRemembered_19 rfl rfl ?_
    refine R_iload (i := 4) dX1_dropRemembered_20 rfl ?_
    refine R_callVi (ctX4_get l Ω k2 x4 hL2 _ _ (hit_mono (hit_bd h) (fun r1 σ2 h => ?_))) okX4_get mw_640 hL2 (cE_4 Ω k2 _) rfl rfl (Nat.le_of_ble_eq_true rfl) rfl rfl ⟨by decide, by decide⟩ ⟨Nat.zero_le _, Nat.zero_le _⟩ dX1_dropRemembered_22
    refine R_istore (lv2 := [some (rf Ω 1 0), some (rf Ω 7 k1), some (rf Ω 4 k2), some (.int x3), some (.int x4), some (.int r1), none]) dX1_dropRemembered_25 (by decide) rfl rfl ?_
    refine R_iload (i := 5) dX1_dropRemembered_27 rfl ?_
    refine R_iconst (v := 4) dX1_dropRemembered_29 rfl ?_
    refine R_idiv dX1_dropRemembered_30 (by decide) ?_
    refine R_topi h (fun y3 h => ?_)
    refine R_istore (lv2 := [some (rf Ω 1 0), some (rf Ω 7 k1), some (rf Ω 4 k2), some (.int x3), some (.int x4), some (.int r1), some (.int y3)]) dX1_dropRemembered_31 (by decide) rfl rfl ?_
    refine R_aload_n (i := 1) dX1_dropRemembered_33 rfl rfl ?_
    refine R_iload (i := 6) dX1_dropRemembered_34 rfl ?_
    refine R_iload (i := 5) dX1_dropRemembered_36 rfl ?_
    refine R_iconst (v := 4) dX1_dropRemembered_38 rfl ?_
    refine R_irem dX1_dropRemembered_39 (by decide) ?_
    refine R_callVi (ctX7_isOldToYoung l Ω k1 y3 (r1 - r1 / 4 * 4) hL1 _ _ (hit_mono (hit_bd h) (fun r4 σ5 h => ?_))) okX7_isOldToYoung mw_692 hL1 (cE_7 Ω k1 _) rfl rfl (Nat.le_of_ble_eq_true rfl) rfl rfl ⟨by decide, by decide⟩ ⟨Nat.zero_le _, Nat.zero_le _⟩ dX1_dropRemembered_40
    refine R_if_eq (tgt := 66) dX1_dropRemembered_43 (by decide) (fun hc => ?_) (fun hc => ?_)
    · have h := hit_t h hc
      refine R_drop (lv2 := [some (rf Ω 1 0), some (rf Ω 7 k1), some (rf Ω 4 k2), some (.int x3), some (.int x4), none, some (.int y3)]) 5 rfl ?_
      refine R_drop (lv2 := [some (rf Ω 1 0), some (rf Ω 7 k1), some (rf Ω 4 k2), some (.int x3), some (.int x4), none, none]) 6 rfl ?_
      exact rnX1_dropRemembered_j66L10 hW k1 k2 x3 x4 hL0 hL1 hL2 σ5 hC hE0 h
    · have h := hit_f h hc
      refine R_aload_n (i := 0) dX1_dropRemembered_46 rfl rfl ?_
      refine R_get foX1_15 hL0 (cE_1 Ω 0 _) rfl dX1_dropRemembered_47 ?_
      refine R_iload (i := 6) dX1_dropRemembered_50 rfl ?_
      obtain ⟨hb, h⟩ := hit_bnd h
      refine R_iald (WF.kid hW 3 hL0 rfl) (cE_38 Ω 0 _) hb dX1_dropRemembered_52 ?_
      refine R_if_eq (tgt := 66) dX1_dropRemembered_53 (by decide) (fun hc => ?_) (fun hc => ?_)
      · have h := hit_t h hc
        refine R_drop (lv2 := [some (rf Ω 1 0), some (rf Ω 7 k1), some (rf Ω 4 k2), some (.int x3), some (.int x4), none, some (.int y3)]) 5 rfl ?_
        refine R_drop (lv2 := [some (rf Ω 1 0), some (rf Ω 7 k1), some (rf Ω 4 k2), some (.int x3), some (.int x4), none, none]) 6 rfl ?_
        exact rnX1_dropRemembered_j66L10 hW k1 k2 x3 x4 hL0 hL1 hL2 σ5 hC hE0 h
      · have h := hit_f h hc
        refine R_aload_n (i := 2) dX1_dropRemembered_56 rfl rfl ?_
        refine R_iload_n (i := 3) dX1_dropRemembered_57 rfl rfl ?_
        refine R_iload (i := 5) dX1_dropRemembered_58 rfl ?_
        refine R_callVv (ctX4_set l Ω k2 x3 r1 hL2 _ _ (hit_mono (hit_bd h) (fun r6 σ7 h => ?_))) okX4_set mw_698 hL2 (cE_4 Ω k2 _) rfl rfl (Nat.le_of_ble_eq_true rfl) rfl rfl ⟨by decide, by decide⟩ ⟨Nat.zero_le _, Nat.zero_le _⟩ dX1_dropRemembered_60
        refine R_iinc (v := x3 + 1) (lv2 := [some (rf Ω 1 0), some (rf Ω 7 k1), some (rf Ω 4 k2), some (.int (x3 + 1)), some (.int x4), some (.int r1), some (.int y3)]) dX1_dropRemembered_63 rfl rfl (by decide) rfl rfl ?_
        refine R_drop (lv2 := [some (rf Ω 1 0), some (rf Ω 7 k1), some (rf Ω 4 k2), some (.int (x3 + 1)), some (.int x4), none, some (.int y3)]) 5 rfl ?_
        refine R_drop (lv2 := [some (rf Ω 1 0), some (rf Ω 7 k1), some (rf Ω 4 k2), some (.int (x3 + 1)), some (.int x4), none, none]) 6 rfl ?_
        exact rnX1_dropRemembered_j66L10 hW k1 k2 (x3 + 1) x4 hL0 hL1 hL2 σ7 hC hE0 h
set_option maxRecDepth 100000 in
set_option maxHeartbeats 4000000 in
theorem rlX1_dropRemembered_L10 {l : Launch} {Ω : rO} (hW : WF Ω) (k1 : Nat) (k2 : Nat) (hL0 : oL Ω 1 0) (hL1 : oL Ω 7 k1) (hL2 : oL Ω 4 k2) {K : Int32 → rS → Prop} {KE : Int32 → rS → Prop} (hE0 : ∀ (e : Int32) (σ : rS), KE e σ → Run l Ω cX1_dropRemembered RX1 7 none rmX1_dropRemembered K 72 [none, none, some (rf Ω 4 k2), some (.int e), none, none, none] [] σ) : ∀ (n : Nat) (x3 : Int32) (x4 : Int32) (σ : rS), hit (lp (fun (x : (Int32 × Int32)) σ => fX1_dropRemembered_L10 k1 k2 x.1 x.2 σ) n (x3, x4) σ) KE → Run l Ω cX1_dropRemembered RX1 7 none rmX1_dropRemembered K 10 [some (rf Ω 1 0), some (rf Ω 7 k1), some (rf Ω 4 k2), some (.int x3), some (.int x4), none, none] [] σ := by
  intro n
  induction n with
  | zero => intro x3 x4 σ h; exact (h : False).elim
  | succ n ih =>
    intro x3 x4 σ h
    exact rsX1_dropRemembered_L10 hW k1 k2 x3 x4 hL0 hL1 hL2 σ (fun x3 x4 σ h => ih x3 x4 σ h) (fun e σ h => hE0 e σ h) (hit_lp h)
set_option maxRecDepth 100000 in
set_option maxHeartbeats 4000000 in
theorem ctX1_dropRemembered (l : Launch) (Ω : rO) (k1 : Nat) (hL0 : oL Ω 1 0) (hL1 : oL Ω 7 k1) (σ : rS) (K : Int32 → rS → Prop) (h : hit (fX1_dropRemembered k1 σ) K) : Ct l Ω yX1_dropRemembered cX1_dropRemembered 7 none rmX1_dropRemembered [rf Ω 1 0, rf Ω 7 k1] σ K := by
  refine Ct.of (own := RX1) (lv := [some (rf Ω 1 0), some (rf Ω 7 k1), none, none, none, none, none]) (by decide) rfl (Nat.le_of_ble_eq_true rfl) rfl (fun hW => ?_)
  unfold fX1_dropRemembered at h
  refine R_aload_n (i := 1) dX1_dropRemembered_0 rfl rfl ?_
  refine R_get foX1_149 hL1 (cE_7 Ω k1 _) rfl dX1_dropRemembered_1 ?_
  refine R_astore_n (lv2 := [some (rf Ω 1 0), some (rf Ω 7 k1), some (rf Ω 4 (6 * k1 + 2)), none, none, none, none]) dX1_dropRemembered_4 rfl (by decide) rfl rfl ?_
  refine R_iconst (v := 0) dX1_dropRemembered_5 rfl ?_
  refine R_istore_n (lv2 := [some (rf Ω 1 0), some (rf Ω 7 k1), some (rf Ω 4 (6 * k1 + 2)), some (.int 0), none, none, none]) dX1_dropRemembered_6 rfl (by decide) rfl rfl ?_
  refine R_iconst (v := 0) dX1_dropRemembered_7 rfl ?_
  refine R_istore (lv2 := [some (rf Ω 1 0), some (rf Ω 7 k1), some (rf Ω 4 (6 * k1 + 2)), some (.int 0), some (.int 0), none, none]) dX1_dropRemembered_8 (by decide) rfl rfl ?_
  refine rlX1_dropRemembered_L10 hW k1 (6 * k1 + 2) hL0 hL1 (WF.kid hW 13 hL1 rfl) ?_ fu 0 0 σ (hit_bd h)
  · intro e9 σ8 h
    try dsimp only at h
    refine R_aload_n (i := 2) dX1_dropRemembered_72 rfl rfl ?_
    refine R_iload_n (i := 3) dX1_dropRemembered_73 rfl rfl ?_
    refine R_put poX1_140 (WF.kid hW 13 hL1 rfl) (cE_4 Ω (6 * k1 + 2) _) (cP_4_1 Ω (6 * k1 + 2) _ _) (Nat.le_of_ble_eq_true rfl) dX1_dropRemembered_74 ?_
    refine R_st h (fun σ10 h => ?_)
    exact R_vret dX1_dropRemembered_77 rfl h
set_option maxRecDepth 100000 in
set_option maxHeartbeats 4000000 in
theorem rnX1_rememberMoved_j53L20 {l : Launch} {Ω : rO} (hW : WF Ω) (k1 : Nat) (x2 : Int32) (x3 : Int32) (x4 : Int32) (hL0 : oL Ω 1 0) (hL1 : oL Ω 7 k1) (σ : rS) {K : Int32 → rS → Prop} {K0 : (Int32 ⊕ Unit) → rS → Prop} (hC : ∀ (x4 : Int32) (σ : rS), K0 (.inl x4) σ → Run l Ω cX1_rememberMoved RX1 5 none rmX1_rememberMoved K 20 [some (rf Ω 1 0), some (rf Ω 7 k1), some (.int x2), some (.int x3), some (.int x4)] [] σ) (hE0 : ∀ (e : Unit) (σ : rS), K0 (.inr e) σ → Run l Ω cX1_rememberMoved RX1 5 none rmX1_rememberMoved K 59 [some (rf Ω 1 0), some (rf Ω 7 k1), some (.int x2), none, none] [] σ) (h : hit (fX1_rememberMoved_j53L20 k1 x2 x3 x4 σ) K0) : Run l Ω cX1_rememberMoved RX1 5 none rmX1_rememberMoved K 53 [some (rf Ω 1 0), some (rf Ω 7 k1), some (.int x2), some (.int x3), some (.int x4)] [] σ := by
  unfold fX1_rememberMoved_j53L20 at h
  refine R_iinc (v := x4 + 1) (lv2 := [some (rf Ω 1 0), some (rf Ω 7 k1), some (.int x2), some (.int x3), some (.int (x4 + 1))]) dX1_rememberMoved_53 rfl rfl (by decide) rfl rfl ?_
  refine R_goto (tgt := 20) dX1_rememberMoved_56 (by decide) ?_
  exact hC (x4 + 1) σ h
set_option maxRecDepth 100000 in
set_option maxHeartbeats 4000000 in
theorem rsX1_rememberMoved_L20 {l : Launch} {Ω : rO} (hW : WF Ω) (k1 : Nat) (x2 : Int32) (x3 : Int32) (x4 : Int32) (hL0 : oL Ω 1 0) (hL1 : oL Ω 7 k1) (σ : rS) {K : Int32 → rS → Prop} {K0 : (Int32 ⊕ Unit) → rS → Prop} (hC : ∀ (x4 : Int32) (σ : rS), K0 (.inl x4) σ → Run l Ω cX1_rememberMoved RX1 5 none rmX1_rememberMoved K 20 [some (rf Ω 1 0), some (rf Ω 7 k1), some (.int x2), some (.int x3), some (.int x4)] [] σ) (hE0 : ∀ (e : Unit) (σ : rS), K0 (.inr e) σ → Run l Ω cX1_rememberMoved RX1 5 none rmX1_rememberMoved K 59 [some (rf Ω 1 0), some (rf Ω 7 k1), some (.int x2), none, none] [] σ) (h : hit (fX1_rememberMoved_L20 k1 x2 x3 x4 σ) K0) : Run l Ω cX1_rememberMoved RX1 5 none rmX1_rememberMoved K 20 [some (rf Ω 1 0), some (rf Ω 7 k1), some (.int x2), some (.int x3), some (.int x4)] [] σ := by
  unfold fX1_rememberMoved_L20 at h
  refine R_iload (i := 4) dX1_rememberMoved_20 rfl ?_
  refine R_aload_n (i := 1) dX1_rememberMoved_22 rfl rfl ?_
  refine R_iload_n (i := 3) dX1_rememberMoved_23 rfl rfl ?_
  refine R_callVi (ctX7_fieldsOf l Ω k1 x3 hL1 _ _ (hit_mono (hit_bd h) (fun r2 σ3 h => ?_))) okX7_fieldsOf mw_653 hL1 (cE_7 Ω k1 _) rfl rfl (Nat.le_of_ble_eq_true rfl) rfl rfl ⟨by decide, by decide⟩ ⟨Nat.zero_le _, Nat.zero_le _⟩ dX1_rememberMoved_24
  refine R_icmp_ge (tgt := 59) dX1_rememberMoved_27 (by decide) (fun hc => ?_) (fun hc => ?_)
  · have h := hit_f h hc
    refine R_drop (lv2 := [some (rf Ω 1 0), some (rf Ω 7 k1), some (.int x2), none, some (.int x4)]) 3 rfl ?_
    refine R_drop (lv2 := [some (rf Ω 1 0), some (rf Ω 7 k1), some (.int x2), none, none]) 4 rfl ?_
    exact hE0 () σ3 h
  · have h := hit_t h hc
    refine R_aload_n (i := 1) dX1_rememberMoved_30 rfl rfl ?_
    refine R_iload_n (i := 3) dX1_rememberMoved_31 rfl rfl ?_
    refine R_iload (i := 4) dX1_rememberMoved_32 rfl ?_
    refine R_callVi (ctX7_isOldToYoung l Ω k1 x3 x4 hL1 _ _ (hit_mono (hit_bd h) (fun r4 σ5 h => ?_))) okX7_isOldToYoung mw_692 hL1 (cE_7 Ω k1 _) rfl rfl (Nat.le_of_ble_eq_true rfl) rfl rfl ⟨by decide, by decide⟩ ⟨Nat.zero_le _, Nat.zero_le _⟩ dX1_rememberMoved_34
    refine R_if_eq (tgt := 53) dX1_rememberMoved_37 (by decide) (fun hc => ?_) (fun hc => ?_)
    · have h := hit_t h hc
      exact rnX1_rememberMoved_j53L20 hW k1 x2 x3 x4 hL0 hL1 σ5 hC hE0 h
    · have h := hit_f h hc
      refine R_aload_n (i := 1) dX1_rememberMoved_40 rfl rfl ?_
      refine R_get foX1_149 hL1 (cE_7 Ω k1 _) rfl dX1_rememberMoved_41 ?_
      refine R_iload_n (i := 3) dX1_rememberMoved_44 rfl rfl ?_
      refine R_iconst (v := 4) dX1_rememberMoved_45 rfl ?_
      refine R_imul dX1_rememberMoved_46 ?_
      refine R_iload (i := 4) dX1_rememberMoved_47 rfl ?_
      refine R_iadd dX1_rememberMoved_49 ?_
      refine R_callVv (ctX4_add l Ω (6 * k1 + 2) ((x3 * 4) + x4) (WF.kid hW 13 hL1 rfl) _ _ (hit_mono (hit_bd h) (fun r6 σ7 h => ?_))) okX4_add mw_676 (WF.kid hW 13 hL1 rfl) (cE_4 Ω (6 * k1 + 2) _) rfl rfl (Nat.le_of_ble_eq_true rfl) rfl rfl ⟨by decide, by decide⟩ ⟨Nat.zero_le _, Nat.zero_le _⟩ dX1_rememberMoved_50
      exact rnX1_rememberMoved_j53L20 hW k1 x2 x3 x4 hL0 hL1 σ7 hC hE0 h
set_option maxRecDepth 100000 in
set_option maxHeartbeats 4000000 in
theorem rlX1_rememberMoved_L20 {l : Launch} {Ω : rO} (hW : WF Ω) (k1 : Nat) (x2 : Int32) (x3 : Int32) (hL0 : oL Ω 1 0) (hL1 : oL Ω 7 k1) {K : Int32 → rS → Prop} {KE : Unit → rS → Prop} (hE0 : ∀ (e : Unit) (σ : rS), KE e σ → Run l Ω cX1_rememberMoved RX1 5 none rmX1_rememberMoved K 59 [some (rf Ω 1 0), some (rf Ω 7 k1), some (.int x2), none, none] [] σ) : ∀ (n : Nat) (x4 : Int32) (σ : rS), hit (lp (fun (x : Int32) σ => fX1_rememberMoved_L20 k1 x2 x3 x σ) n x4 σ) KE → Run l Ω cX1_rememberMoved RX1 5 none rmX1_rememberMoved K 20 [some (rf Ω 1 0), some (rf Ω 7 k1), some (.int x2), some (.int x3), some (.int x4)] [] σ := by
  intro n
  induction n with
  | zero => intro x4 σ h; exact (h : False).elim
  | succ n ih =>
    intro x4 σ h
    exact rsX1_rememberMoved_L20 hW k1 x2 x3 x4 hL0 hL1 σ (fun x4 σ h => ih x4 σ h) (fun e σ h => hE0 e σ h) (hit_lp h)
set_option maxRecDepth 100000 in
set_option maxHeartbeats 4000000 in
theorem rsX1_rememberMoved_L2 {l : Launch} {Ω : rO} (hW : WF Ω) (k1 : Nat) (x2 : Int32) (hL0 : oL Ω 1 0) (hL1 : oL Ω 7 k1) (σ : rS) {K : Int32 → rS → Prop} {K0 : (Int32 ⊕ Unit) → rS → Prop} (hC : ∀ (x2 : Int32) (σ : rS), K0 (.inl x2) σ → Run l Ω cX1_rememberMoved RX1 5 none rmX1_rememberMoved K 2 [some (rf Ω 1 0), some (rf Ω 7 k1), some (.int x2), none, none] [] σ) (hE0 : ∀ (e : Unit) (σ : rS), K0 (.inr e) σ → Run l Ω cX1_rememberMoved RX1 5 none rmX1_rememberMoved K 65 [none, none, none, none, none] [] σ) (h : hit (fX1_rememberMoved_L2 k1 x2 σ) K0) : Run l Ω cX1_rememberMoved RX1 5 none rmX1_rememberMoved K 2 [some (rf Ω 1 0), some (rf Ω 7 k1), some (.int x2), none, none] [] σ := by
  unfold fX1_rememberMoved_L2 at h
  refine R_iload_n (i := 2) dX1_rememberMoved_2 rfl rfl ?_
  refine R_aload_n (i := 0) dX1_rememberMoved_3 rfl rfl ?_
  refine R_get foX1_116 hL0 (cE_1 Ω 0 _) rfl dX1_rememberMoved_4 ?_
  refine R_icmp_ge (tgt := 65) dX1_rememberMoved_7 (by decide) (fun hc => ?_) (fun hc => ?_)
  · have h := hit_f h hc
    refine R_drop (lv2 := [none, some (rf Ω 7 k1), some (.int x2), none, none]) 0 rfl ?_
    refine R_drop (lv2 := [none, none, some (.int x2), none, none]) 1 rfl ?_
    refine R_drop (lv2 := [none, none, none, none, none]) 2 rfl ?_
    exact hE0 () σ h
  · have h := hit_t h hc
    refine R_aload_n (i := 0) dX1_rememberMoved_10 rfl rfl ?_
    refine R_get foX1_18 hL0 (cE_1 Ω 0 _) rfl dX1_rememberMoved_11 ?_
    refine R_iload_n (i := 2) dX1_rememberMoved_14 rfl rfl ?_
    obtain ⟨hb, h⟩ := hit_bnd h
    refine R_iald (WF.kid hW 4 hL0 rfl) (cE_39 Ω 0 _) hb dX1_rememberMoved_15 ?_
    refine R_topi h (fun y1 h => ?_)
    refine R_istore_n (lv2 := [some (rf Ω 1 0), some (rf Ω 7 k1), some (.int x2), some (.int y1), none]) dX1_rememberMoved_16 rfl (by decide) rfl rfl ?_
    refine R_iconst (v := 0) dX1_rememberMoved_17 rfl ?_
    refine R_istore (lv2 := [some (rf Ω 1 0), some (rf Ω 7 k1), some (.int x2), some (.int y1), some (.int 0)]) dX1_rememberMoved_18 (by decide) rfl rfl ?_
    refine rlX1_rememberMoved_L20 hW k1 x2 y1 hL0 hL1 ?_ fu 0 σ (hit_bd h)
    · intro e9 σ8 h
      try dsimp only at h
      refine R_iinc (v := x2 + 1) (lv2 := [some (rf Ω 1 0), some (rf Ω 7 k1), some (.int (x2 + 1)), none, none]) dX1_rememberMoved_59 rfl rfl (by decide) rfl rfl ?_
      refine R_goto (tgt := 2) dX1_rememberMoved_62 (by decide) ?_
      exact hC (x2 + 1) σ8 h
set_option maxRecDepth 100000 in
set_option maxHeartbeats 4000000 in
theorem rlX1_rememberMoved_L2 {l : Launch} {Ω : rO} (hW : WF Ω) (k1 : Nat) (hL0 : oL Ω 1 0) (hL1 : oL Ω 7 k1) {K : Int32 → rS → Prop} {KE : Unit → rS → Prop} (hE0 : ∀ (e : Unit) (σ : rS), KE e σ → Run l Ω cX1_rememberMoved RX1 5 none rmX1_rememberMoved K 65 [none, none, none, none, none] [] σ) : ∀ (n : Nat) (x2 : Int32) (σ : rS), hit (lp (fun (x : Int32) σ => fX1_rememberMoved_L2 k1 x σ) n x2 σ) KE → Run l Ω cX1_rememberMoved RX1 5 none rmX1_rememberMoved K 2 [some (rf Ω 1 0), some (rf Ω 7 k1), some (.int x2), none, none] [] σ := by
  intro n
  induction n with
  | zero => intro x2 σ h; exact (h : False).elim
  | succ n ih =>
    intro x2 σ h
    exact rsX1_rememberMoved_L2 hW k1 x2 hL0 hL1 σ (fun x2 σ h => ih x2 σ h) (fun e σ h => hE0 e σ h) (hit_lp h)
set_option maxRecDepth 100000 in
set_option maxHeartbeats 4000000 in
theorem ctX1_rememberMoved (l : Launch) (Ω : rO) (k1 : Nat) (hL0 : oL Ω 1 0) (hL1 : oL Ω 7 k1) (σ : rS) (K : Int32 → rS → Prop) (h : hit (fX1_rememberMoved k1 σ) K) : Ct l Ω yX1_rememberMoved cX1_rememberMoved 5 none rmX1_rememberMoved [rf Ω 1 0, rf Ω 7 k1] σ K := by
  refine Ct.of (own := RX1) (lv := [some (rf Ω 1 0), some (rf Ω 7 k1), none, none, none]) (by decide) rfl (Nat.le_of_ble_eq_true rfl) rfl (fun hW => ?_)
  unfold fX1_rememberMoved at h
  refine R_iconst (v := 0) dX1_rememberMoved_0 rfl ?_
  refine R_istore_n (lv2 := [some (rf Ω 1 0), some (rf Ω 7 k1), some (.int 0), none, none]) dX1_rememberMoved_1 rfl (by decide) rfl rfl ?_
  refine rlX1_rememberMoved_L2 hW k1 hL0 hL1 ?_ fu 0 σ (hit_bd h)
  · intro e11 σ10 h
    try dsimp only at h
    exact R_vret dX1_rememberMoved_65 rfl h
set_option maxRecDepth 100000 in
set_option maxHeartbeats 4000000 in
theorem rnX1_nameSlotsAnew_j69L5 {l : Launch} {Ω : rO} (hW : WF Ω) (k1 : Nat) (x2 : Int32) (x3 : Int32) (x4 : Int32) (hL0 : oL Ω 1 0) (hL1 : oL Ω 7 k1) (σ : rS) {K : Int32 → rS → Prop} {K0 : ((Int32 × Int32) ⊕ Unit) → rS → Prop} (hC : ∀ (x3 : Int32) (x4 : Int32) (σ : rS), K0 (.inl (x3, x4)) σ → Run l Ω cX1_nameSlotsAnew RX1 5 none rmX1_nameSlotsAnew K 5 [some (rf Ω 1 0), some (rf Ω 7 k1), some (.int x2), some (.int x3), some (.int x4)] [] σ) (hE0 : ∀ (e : Unit) (σ : rS), K0 (.inr e) σ → Run l Ω cX1_nameSlotsAnew RX1 5 none rmX1_nameSlotsAnew K 75 [none, none, none, none, none] [] σ) (h : hit (fX1_nameSlotsAnew_j69L5 k1 x2 x3 x4 σ) K0) : Run l Ω cX1_nameSlotsAnew RX1 5 none rmX1_nameSlotsAnew K 69 [some (rf Ω 1 0), some (rf Ω 7 k1), some (.int x2), some (.int x3), some (.int x4)] [] σ := by
  unfold fX1_nameSlotsAnew_j69L5 at h
  refine R_iinc (v := x4 + 1) (lv2 := [some (rf Ω 1 0), some (rf Ω 7 k1), some (.int x2), some (.int x3), some (.int (x4 + 1))]) dX1_nameSlotsAnew_69 rfl rfl (by decide) rfl rfl ?_
  refine R_goto (tgt := 5) dX1_nameSlotsAnew_72 (by decide) ?_
  exact hC x3 (x4 + 1) σ h
set_option maxRecDepth 100000 in
set_option maxHeartbeats 4000000 in
theorem rnX1_nameSlotsAnew_j37L5 {l : Launch} {Ω : rO} (hW : WF Ω) (k1 : Nat) (x2 : Int32) (x3 : Int32) (x4 : Int32) (hL0 : oL Ω 1 0) (hL1 : oL Ω 7 k1) (σ : rS) {K : Int32 → rS → Prop} {K0 : ((Int32 × Int32) ⊕ Unit) → rS → Prop} (hC : ∀ (x3 : Int32) (x4 : Int32) (σ : rS), K0 (.inl (x3, x4)) σ → Run l Ω cX1_nameSlotsAnew RX1 5 none rmX1_nameSlotsAnew K 5 [some (rf Ω 1 0), some (rf Ω 7 k1), some (.int x2), some (.int x3), some (.int x4)] [] σ) (hE0 : ∀ (e : Unit) (σ : rS), K0 (.inr e) σ → Run l Ω cX1_nameSlotsAnew RX1 5 none rmX1_nameSlotsAnew K 75 [none, none, none, none, none] [] σ) (h : hit (fX1_nameSlotsAnew_j37L5 k1 x2 x3 x4 σ) K0) : Run l Ω cX1_nameSlotsAnew RX1 5 none rmX1_nameSlotsAnew K 37 [some (rf Ω 1 0), some (rf Ω 7 k1), some (.int x2), some (.int x3), some (.int x4)] [] σ := by
  unfold fX1_nameSlotsAnew_j37L5 at h
  refine R_aload_n (i := 0) dX1_nameSlotsAnew_37 rfl rfl ?_
  refine R_get foX1_27 hL0 (cE_1 Ω 0 _) rfl dX1_nameSlotsAnew_38 ?_
  refine R_iload (i := 4) dX1_nameSlotsAnew_41 rfl ?_
  refine R_iload_n (i := 3) dX1_nameSlotsAnew_43 rfl rfl ?_
  obtain ⟨hb, h⟩ := hit_bnd h
  refine R_iast (WF.kid hW 7 hL0 rfl) (cE_42 Ω 0) hb dX1_nameSlotsAnew_44 ?_
  refine R_st h (fun σ1 h => ?_)
  refine R_iinc (v := x3 + 1) (lv2 := [some (rf Ω 1 0), some (rf Ω 7 k1), some (.int x2), some (.int (x3 + 1)), some (.int x4)]) dX1_nameSlotsAnew_45 rfl rfl (by decide) rfl rfl ?_
  refine R_goto (tgt := 69) dX1_nameSlotsAnew_48 (by decide) ?_
  exact rnX1_nameSlotsAnew_j69L5 hW k1 x2 (x3 + 1) x4 hL0 hL1 σ1 hC hE0 h
set_option maxRecDepth 100000 in
set_option maxHeartbeats 4000000 in
theorem rnX1_nameSlotsAnew_j51L5 {l : Launch} {Ω : rO} (hW : WF Ω) (k1 : Nat) (x2 : Int32) (x3 : Int32) (x4 : Int32) (hL0 : oL Ω 1 0) (hL1 : oL Ω 7 k1) (σ : rS) {K : Int32 → rS → Prop} {K0 : ((Int32 × Int32) ⊕ Unit) → rS → Prop} (hC : ∀ (x3 : Int32) (x4 : Int32) (σ : rS), K0 (.inl (x3, x4)) σ → Run l Ω cX1_nameSlotsAnew RX1 5 none rmX1_nameSlotsAnew K 5 [some (rf Ω 1 0), some (rf Ω 7 k1), some (.int x2), some (.int x3), some (.int x4)] [] σ) (hE0 : ∀ (e : Unit) (σ : rS), K0 (.inr e) σ → Run l Ω cX1_nameSlotsAnew RX1 5 none rmX1_nameSlotsAnew K 75 [none, none, none, none, none] [] σ) (h : hit (fX1_nameSlotsAnew_j51L5 k1 x2 x3 x4 σ) K0) : Run l Ω cX1_nameSlotsAnew RX1 5 none rmX1_nameSlotsAnew K 51 [some (rf Ω 1 0), some (rf Ω 7 k1), some (.int x2), some (.int x3), some (.int x4)] [] σ := by
  unfold fX1_nameSlotsAnew_j51L5 at h
  refine R_aload_n (i := 0) dX1_nameSlotsAnew_51 rfl rfl ?_
  refine R_get foX1_27 hL0 (cE_1 Ω 0 _) rfl dX1_nameSlotsAnew_52 ?_
  refine R_iload (i := 4) dX1_nameSlotsAnew_55 rfl ?_
  refine R_iconst (v := (-1)) dX1_nameSlotsAnew_57 rfl ?_
  obtain ⟨hb, h⟩ := hit_bnd h
  refine R_iast (WF.kid hW 7 hL0 rfl) (cE_42 Ω 0) hb dX1_nameSlotsAnew_58 ?_
  refine R_st h (fun σ2 h => ?_)
  refine R_aload_n (i := 0) dX1_nameSlotsAnew_59 rfl rfl ?_
  refine R_get foX1_9 hL0 (cE_1 Ω 0 _) rfl dX1_nameSlotsAnew_60 ?_
  refine R_iconst (v := 2) dX1_nameSlotsAnew_63 rfl ?_
  refine R_dup2 dX1_nameSlotsAnew_64 rfl rfl ?_
  refine R_iald (WF.kid hW 2 hL0 rfl) (cE_37 Ω 0 _) (vin 2 5 rfl) dX1_nameSlotsAnew_65 ?_
  refine R_iconst (v := 1) dX1_nameSlotsAnew_66 rfl ?_
  refine R_iadd dX1_nameSlotsAnew_67 ?_
  refine R_iast (WF.kid hW 2 hL0 rfl) (cE_37 Ω 0) (vin 2 5 rfl) dX1_nameSlotsAnew_68 ?_
  refine R_st h (fun σ3 h => ?_)
  exact rnX1_nameSlotsAnew_j69L5 hW k1 x2 x3 x4 hL0 hL1 σ3 hC hE0 h
set_option maxRecDepth 100000 in
set_option maxHeartbeats 4000000 in
theorem rsX1_nameSlotsAnew_L5 {l : Launch} {Ω : rO} (hW : WF Ω) (k1 : Nat) (x2 : Int32) (x3 : Int32) (x4 : Int32) (hL0 : oL Ω 1 0) (hL1 : oL Ω 7 k1) (σ : rS) {K : Int32 → rS → Prop} {K0 : ((Int32 × Int32) ⊕ Unit) → rS → Prop} (hC : ∀ (x3 : Int32) (x4 : Int32) (σ : rS), K0 (.inl (x3, x4)) σ → Run l Ω cX1_nameSlotsAnew RX1 5 none rmX1_nameSlotsAnew K 5 [some (rf Ω 1 0), some (rf Ω 7 k1), some (.int x2), some (.int x3), some (.int x4)] [] σ) (hE0 : ∀ (e : Unit) (σ : rS), K0 (.inr e) σ → Run l Ω cX1_nameSlotsAnew RX1 5 none rmX1_nameSlotsAnew K 75 [none, none, none, none, none] [] σ) (h : hit (fX1_nameSlotsAnew_L5 k1 x2 x3 x4 σ) K0) : Run l Ω cX1_nameSlotsAnew RX1 5 none rmX1_nameSlotsAnew K 5 [some (rf Ω 1 0), some (rf Ω 7 k1), some (.int x2), some (.int x3), some (.int x4)] [] σ := by
  unfold fX1_nameSlotsAnew_L5 at h
  refine R_iload (i := 4) dX1_nameSlotsAnew_5 rfl ?_
  refine R_aload_n (i := 1) dX1_nameSlotsAnew_7 rfl rfl ?_
  refine R_get foX1_123 hL1 (cE_7 Ω k1 _) rfl dX1_nameSlotsAnew_8 ?_
  refine R_icmp_ge (tgt := 75) dX1_nameSlotsAnew_11 (by decide) (fun hc => ?_) (fun hc => ?_)
  · have h := hit_f h hc
    refine R_drop (lv2 := [none, some (rf Ω 7 k1), some (.int x2), some (.int x3), some (.int x4)]) 0 rfl ?_
    refine R_drop (lv2 := [none, none, some (.int x2), some (.int x3), some (.int x4)]) 1 rfl ?_
    refine R_drop (lv2 := [none, none, none, some (.int x3), some (.int x4)]) 2 rfl ?_
    refine R_drop (lv2 := [none, none, none, none, some (.int x4)]) 3 rfl ?_
    refine R_drop (lv2 := [none, none, none, none, none]) 4 rfl ?_
    exact hE0 () σ h
  · have h := hit_t h hc
    refine R_aload_n (i := 0) dX1_nameSlotsAnew_14 rfl rfl ?_
    refine R_get foX1_15 hL0 (cE_1 Ω 0 _) rfl dX1_nameSlotsAnew_15 ?_
    refine R_iload (i := 4) dX1_nameSlotsAnew_18 rfl ?_
    obtain ⟨hb, h⟩ := hit_bnd h
    refine R_iald (WF.kid hW 3 hL0 rfl) (cE_38 Ω 0 _) hb dX1_nameSlotsAnew_20 ?_
    refine R_if_ne (tgt := 37) dX1_nameSlotsAnew_21 (by decide) (fun hc => ?_) (fun hc => ?_)
    · have h := hit_f h hc
      exact rnX1_nameSlotsAnew_j37L5 hW k1 x2 x3 x4 hL0 hL1 σ hC hE0 h
    · have h := hit_t h hc
      refine R_iload_n (i := 2) dX1_nameSlotsAnew_24 rfl rfl ?_
      refine R_if_eq (tgt := 51) dX1_nameSlotsAnew_25 (by decide) (fun hc => ?_) (fun hc => ?_)
      · have h := hit_t h hc
        exact rnX1_nameSlotsAnew_j51L5 hW k1 x2 x3 x4 hL0 hL1 σ hC hE0 h
      · have h := hit_f h hc
        refine R_aload_n (i := 1) dX1_nameSlotsAnew_28 rfl rfl ?_
        refine R_iload (i := 4) dX1_nameSlotsAnew_29 rfl ?_
        refine R_callVi (ctX7_isYoung l Ω k1 x4 hL1 _ _ (hit_mono (hit_bd h) (fun r4 σ5 h => ?_))) okX7_isYoung mw_628 hL1 (cE_7 Ω k1 _) rfl rfl (Nat.le_of_ble_eq_true rfl) rfl rfl ⟨by decide, by decide⟩ ⟨Nat.zero_le _, Nat.zero_le _⟩ dX1_nameSlotsAnew_31
        refine R_if_eq (tgt := 51) dX1_nameSlotsAnew_34 (by decide) (fun hc => ?_) (fun hc => ?_)
        · have h := hit_t h hc
          exact rnX1_nameSlotsAnew_j51L5 hW k1 x2 x3 x4 hL0 hL1 σ5 hC hE0 h
        · have h := hit_f h hc
          exact rnX1_nameSlotsAnew_j37L5 hW k1 x2 x3 x4 hL0 hL1 σ5 hC hE0 h
set_option maxRecDepth 100000 in
set_option maxHeartbeats 4000000 in
theorem rlX1_nameSlotsAnew_L5 {l : Launch} {Ω : rO} (hW : WF Ω) (k1 : Nat) (x2 : Int32) (hL0 : oL Ω 1 0) (hL1 : oL Ω 7 k1) {K : Int32 → rS → Prop} {KE : Unit → rS → Prop} (hE0 : ∀ (e : Unit) (σ : rS), KE e σ → Run l Ω cX1_nameSlotsAnew RX1 5 none rmX1_nameSlotsAnew K 75 [none, none, none, none, none] [] σ) : ∀ (n : Nat) (x3 : Int32) (x4 : Int32) (σ : rS), hit (lp (fun (x : (Int32 × Int32)) σ => fX1_nameSlotsAnew_L5 k1 x2 x.1 x.2 σ) n (x3, x4) σ) KE → Run l Ω cX1_nameSlotsAnew RX1 5 none rmX1_nameSlotsAnew K 5 [some (rf Ω 1 0), some (rf Ω 7 k1), some (.int x2), some (.int x3), some (.int x4)] [] σ := by
  intro n
  induction n with
  | zero => intro x3 x4 σ h; exact (h : False).elim
  | succ n ih =>
    intro x3 x4 σ h
    exact rsX1_nameSlotsAnew_L5 hW k1 x2 x3 x4 hL0 hL1 σ (fun x3 x4 σ h => ih x3 x4 σ h) (fun e σ h => hE0 e σ h) (hit_lp h)
set_option maxRecDepth 100000 in
set_option maxHeartbeats 4000000 in
theorem ctX1_nameSlotsAnew (l : Launch) (Ω : rO) (k1 : Nat) (x2 : Int32) (hL0 : oL Ω 1 0) (hL1 : oL Ω 7 k1) (σ : rS) (K : Int32 → rS → Prop) (h : hit (fX1_nameSlotsAnew k1 x2 σ) K) : Ct l Ω yX1_nameSlotsAnew cX1_nameSlotsAnew 5 none rmX1_nameSlotsAnew [rf Ω 1 0, rf Ω 7 k1, .int x2] σ K := by
  refine Ct.of (own := RX1) (lv := [some (rf Ω 1 0), some (rf Ω 7 k1), some (.int x2), none, none]) (by decide) rfl (Nat.le_of_ble_eq_true rfl) rfl (fun hW => ?_)
  unfold fX1_nameSlotsAnew at h
  refine R_iconst (v := 0) dX1_nameSlotsAnew_0 rfl ?_
  refine R_istore_n (lv2 := [some (rf Ω 1 0), some (rf Ω 7 k1), some (.int x2), some (.int 0), none]) dX1_nameSlotsAnew_1 rfl (by decide) rfl rfl ?_
  refine R_iconst (v := 0) dX1_nameSlotsAnew_2 rfl ?_
  refine R_istore (lv2 := [some (rf Ω 1 0), some (rf Ω 7 k1), some (.int x2), some (.int 0), some (.int 0)]) dX1_nameSlotsAnew_3 (by decide) rfl rfl ?_
  refine rlX1_nameSlotsAnew_L5 hW k1 x2 hL0 hL1 ?_ fu 0 0 σ (hit_bd h)
  · intro e7 σ6 h
    try dsimp only at h
    exact R_vret dX1_nameSlotsAnew_75 rfl h
set_option maxRecDepth 100000 in
set_option maxHeartbeats 4000000 in
theorem ctX7_renamed (l : Launch) (Ω : rO) (x0 : Int32) (hL1 : oL Ω 42 0) (σ : rS) (K : Int32 → rS → Prop) (h : hit (fX7_renamed x0 σ) K) : Ct l Ω yX7_renamed cX7_renamed 2 (some .int) rmX7_renamed [.int x0, rf Ω 42 0] σ K := by
  refine Ct.of (own := RX7) (lv := [some (.int x0), some (rf Ω 42 0)]) (by decide) rfl (Nat.le_of_ble_eq_true rfl) rfl (fun hW => ?_)
  unfold fX7_renamed at h
  refine R_iload_n (i := 0) dX7_renamed_0 rfl rfl ?_
  refine R_if_lt (tgt := 16) dX7_renamed_1 (by decide) (fun hc => ?_) (fun hc => ?_)
  · have h := hit_t h hc
    refine R_iconst (v := (-1)) dX7_renamed_16 rfl ?_
    exact R_iret dX7_renamed_17 rfl h
  · have h := hit_f h hc
    refine R_iload_n (i := 0) dX7_renamed_4 rfl rfl ?_
    refine R_aload_n (i := 1) dX7_renamed_5 rfl rfl ?_
    refine R_alen (v := 80) hL1 (cE_42 Ω 0 _) (t0 := 0) rfl rfl dX7_renamed_6 ?_
    refine R_icmp_ge (tgt := 16) dX7_renamed_7 (by decide) (fun hc => ?_) (fun hc => ?_)
    · have h := hit_f h hc
      refine R_iconst (v := (-1)) dX7_renamed_16 rfl ?_
      exact R_iret dX7_renamed_17 rfl h
    · have h := hit_t h hc
      refine R_aload_n (i := 1) dX7_renamed_10 rfl rfl ?_
      refine R_iload_n (i := 0) dX7_renamed_11 rfl rfl ?_
      obtain ⟨hb, h⟩ := hit_bnd h
      refine R_iald hL1 (cE_42 Ω 0 _) hb dX7_renamed_12 ?_
      refine R_goto (tgt := 17) dX7_renamed_13 (by decide) ?_
      exact R_iret dX7_renamed_17 rfl h
