set_option maxRecDepth 100000 in
set_option maxHeartbeats 4000000 in
theorem rsX7_moveSlot_L87 {l : Launch} {Ω : rO} (hW : WF Ω) (k0 : Nat) (x1 : Int32) (x2 : Int32) (x4 : Int32) (hL0 : oL Ω 7 k0) (hL3 : oL Ω 42 0) (σ : rS) {K : Int32 → rS → Prop} {K0 : (Int32 ⊕ Unit) → rS → Prop} (hC : ∀ (x4 : Int32) (σ : rS), K0 (.inl x4) σ → Run l Ω cX7_moveSlot RX7 5 none rmX7_moveSlot K 87 [some (rf Ω 7 k0), some (.int x1), some (.int x2), some (rf Ω 42 0), some (.int x4)] [] σ) (hE0 : ∀ (e : Unit) (σ : rS), K0 (.inr e) σ → Run l Ω cX7_moveSlot RX7 5 none rmX7_moveSlot K 125 [none, none, none, none, none] [] σ) (h : hit (fX7_moveSlot_L87 k0 x1 x2 x4 σ) K0) : Run l Ω cX7_moveSlot RX7 5 none rmX7_moveSlot K 87 [some (rf Ω 7 k0), some (.int x1), some (.int x2), some (rf Ω 42 0), some (.int x4)] [] σ := by
  unfold fX7_moveSlot_L87 at h
  refine R_iload (i := 4) dX7_moveSlot_87 rfl ?_
  refine R_iconst (v := 4) dX7_moveSlot_89 rfl ?_
  refine R_icmp_ge (tgt := 125) dX7_moveSlot_90 (by decide) (fun hc => ?_) (fun hc => ?_)
  · have h := hit_f h hc
    refine R_drop (lv2 := [none, some (.int x1), some (.int x2), some (rf Ω 42 0), some (.int x4)]) 0 rfl ?_
    refine R_drop (lv2 := [none, none, some (.int x2), some (rf Ω 42 0), some (.int x4)]) 1 rfl ?_
    refine R_drop (lv2 := [none, none, none, some (rf Ω 42 0), some (.int x4)]) 2 rfl ?_
    refine R_drop (lv2 := [none, none, none, none, some (.int x4)]) 3 rfl ?_
    refine R_drop (lv2 := [none, none, none, none, none]) 4 rfl ?_
    exact hE0 () σ h
  · have h := hit_t h hc
    refine R_aload_n (i := 0) dX7_moveSlot_93 rfl rfl ?_
    refine R_get foX7_33 hL0 (cE_7 Ω k0 _) rfl dX7_moveSlot_94 ?_
    refine R_iload_n (i := 2) dX7_moveSlot_97 rfl rfl ?_
    refine R_iconst (v := 4) dX7_moveSlot_98 rfl ?_
    refine R_imul dX7_moveSlot_99 ?_
    refine R_iload (i := 4) dX7_moveSlot_100 rfl ?_
    refine R_iadd dX7_moveSlot_102 ?_
    refine R_aload_n (i := 0) dX7_moveSlot_103 rfl rfl ?_
    refine R_get foX7_33 hL0 (cE_7 Ω k0 _) rfl dX7_moveSlot_104 ?_
    refine R_iload_n (i := 1) dX7_moveSlot_107 rfl rfl ?_
    refine R_iconst (v := 4) dX7_moveSlot_108 rfl ?_
    refine R_imul dX7_moveSlot_109 ?_
    refine R_iload (i := 4) dX7_moveSlot_110 rfl ?_
    refine R_iadd dX7_moveSlot_112 ?_
    obtain ⟨hb, h⟩ := hit_bnd h
    refine R_iald (WF.kid hW 7 hL0 rfl) (cE_52 Ω k0 _) hb dX7_moveSlot_113 ?_
    refine R_aload_n (i := 3) dX7_moveSlot_114 rfl rfl ?_
    refine R_callSi (ctX7_renamed l Ω (σ 52 k0 (ix ((x1 * 4) + x4))) hL3 _ _ (hit_mono (hit_bd h) (fun r8 σ9 h => ?_))) okX7_renamed mw_718 rfl rfl (Nat.le_of_ble_eq_true rfl) rfl rfl ⟨by decide, by decide⟩ ⟨Nat.zero_le _, Nat.zero_le _⟩ dX7_moveSlot_115
    obtain ⟨hb, h⟩ := hit_bnd h
    refine R_iast (WF.kid hW 7 hL0 rfl) (cE_52 Ω k0) hb dX7_moveSlot_118 ?_
    refine R_st h (fun σ10 h => ?_)
    refine R_iinc (v := x4 + 1) (lv2 := [some (rf Ω 7 k0), some (.int x1), some (.int x2), some (rf Ω 42 0), some (.int (x4 + 1))]) dX7_moveSlot_119 rfl rfl (by decide) rfl rfl ?_
    refine R_goto (tgt := 87) dX7_moveSlot_122 (by decide) ?_
    exact hC (x4 + 1) σ10 h
set_option maxRecDepth 100000 in
set_option maxHeartbeats 4000000 in
theorem rlX7_moveSlot_L87 {l : Launch} {Ω : rO} (hW : WF Ω) (k0 : Nat) (x1 : Int32) (x2 : Int32) (hL0 : oL Ω 7 k0) (hL3 : oL Ω 42 0) {K : Int32 → rS → Prop} {KE : Unit → rS → Prop} (hE0 : ∀ (e : Unit) (σ : rS), KE e σ → Run l Ω cX7_moveSlot RX7 5 none rmX7_moveSlot K 125 [none, none, none, none, none] [] σ) : ∀ (n : Nat) (x4 : Int32) (σ : rS), hit (lp (fun (x : Int32) σ => fX7_moveSlot_L87 k0 x1 x2 x σ) n x4 σ) KE → Run l Ω cX7_moveSlot RX7 5 none rmX7_moveSlot K 87 [some (rf Ω 7 k0), some (.int x1), some (.int x2), some (rf Ω 42 0), some (.int x4)] [] σ := by
  intro n
  induction n with
  | zero => intro x4 σ h; exact (h : False).elim
  | succ n ih =>
    intro x4 σ h
    exact rsX7_moveSlot_L87 hW k0 x1 x2 x4 hL0 hL3 σ (fun x4 σ h => ih x4 σ h) (fun e σ h => hE0 e σ h) (hit_lp h)
set_option maxRecDepth 100000 in
set_option maxHeartbeats 4000000 in
theorem ctX7_moveSlot (l : Launch) (Ω : rO) (k0 : Nat) (x1 : Int32) (x2 : Int32) (hL0 : oL Ω 7 k0) (hL3 : oL Ω 42 0) (σ : rS) (K : Int32 → rS → Prop) (h : hit (fX7_moveSlot k0 x1 x2 σ) K) : Ct l Ω yX7_moveSlot cX7_moveSlot 5 none rmX7_moveSlot [rf Ω 7 k0, .int x1, .int x2, rf Ω 42 0] σ K := by
  refine Ct.of (own := RX7) (lv := [some (rf Ω 7 k0), some (.int x1), some (.int x2), some (rf Ω 42 0), none]) (by decide) rfl (Nat.le_of_ble_eq_true rfl) rfl (fun hW => ?_)
  unfold fX7_moveSlot at h
  refine R_aload_n (i := 0) dX7_moveSlot_0 rfl rfl ?_
  refine R_get foX7_9 hL0 (cE_7 Ω k0 _) rfl dX7_moveSlot_1 ?_
  refine R_iload_n (i := 2) dX7_moveSlot_4 rfl rfl ?_
  refine R_aload_n (i := 0) dX7_moveSlot_5 rfl rfl ?_
  refine R_get foX7_9 hL0 (cE_7 Ω k0 _) rfl dX7_moveSlot_6 ?_
  refine R_iload_n (i := 1) dX7_moveSlot_9 rfl rfl ?_
  obtain ⟨hb, h⟩ := hit_bnd h
  refine R_iald (WF.kid hW 0 hL0 rfl) (cE_45 Ω k0 _) hb dX7_moveSlot_10 ?_
  obtain ⟨hb, h⟩ := hit_bnd h
  refine R_iast (WF.kid hW 0 hL0 rfl) (cE_45 Ω k0) hb dX7_moveSlot_11 ?_
  refine R_st h (fun σ1 h => ?_)
  refine R_aload_n (i := 0) dX7_moveSlot_12 rfl rfl ?_
  refine R_get foX7_15 hL0 (cE_7 Ω k0 _) rfl dX7_moveSlot_13 ?_
  refine R_iload_n (i := 2) dX7_moveSlot_16 rfl rfl ?_
  refine R_aload_n (i := 0) dX7_moveSlot_17 rfl rfl ?_
  refine R_get foX7_15 hL0 (cE_7 Ω k0 _) rfl dX7_moveSlot_18 ?_
  refine R_iload_n (i := 1) dX7_moveSlot_21 rfl rfl ?_
  obtain ⟨hb, h⟩ := hit_bnd h
  refine R_iald (WF.kid hW 1 hL0 rfl) (cE_46 Ω k0 _) hb dX7_moveSlot_22 ?_
  obtain ⟨hb, h⟩ := hit_bnd h
  refine R_iast (WF.kid hW 1 hL0 rfl) (cE_46 Ω k0) hb dX7_moveSlot_23 ?_
  refine R_st h (fun σ2 h => ?_)
  refine R_aload_n (i := 0) dX7_moveSlot_24 rfl rfl ?_
  refine R_get foX7_18 hL0 (cE_7 Ω k0 _) rfl dX7_moveSlot_25 ?_
  refine R_iload_n (i := 2) dX7_moveSlot_28 rfl rfl ?_
  refine R_aload_n (i := 0) dX7_moveSlot_29 rfl rfl ?_
  refine R_get foX7_18 hL0 (cE_7 Ω k0 _) rfl dX7_moveSlot_30 ?_
  refine R_iload_n (i := 1) dX7_moveSlot_33 rfl rfl ?_
  obtain ⟨hb, h⟩ := hit_bnd h
  refine R_iald (WF.kid hW 2 hL0 rfl) (cE_47 Ω k0 _) hb dX7_moveSlot_34 ?_
  obtain ⟨hb, h⟩ := hit_bnd h
  refine R_iast (WF.kid hW 2 hL0 rfl) (cE_47 Ω k0) hb dX7_moveSlot_35 ?_
  refine R_st h (fun σ3 h => ?_)
  refine R_aload_n (i := 0) dX7_moveSlot_36 rfl rfl ?_
  refine R_get foX7_21 hL0 (cE_7 Ω k0 _) rfl dX7_moveSlot_37 ?_
  refine R_iload_n (i := 2) dX7_moveSlot_40 rfl rfl ?_
  refine R_aload_n (i := 0) dX7_moveSlot_41 rfl rfl ?_
  refine R_get foX7_21 hL0 (cE_7 Ω k0 _) rfl dX7_moveSlot_42 ?_
  refine R_iload_n (i := 1) dX7_moveSlot_45 rfl rfl ?_
  obtain ⟨hb, h⟩ := hit_bnd h
  refine R_iald (WF.kid hW 3 hL0 rfl) (cE_48 Ω k0 _) hb dX7_moveSlot_46 ?_
  obtain ⟨hb, h⟩ := hit_bnd h
  refine R_iast (WF.kid hW 3 hL0 rfl) (cE_48 Ω k0) hb dX7_moveSlot_47 ?_
  refine R_st h (fun σ4 h => ?_)
  refine R_aload_n (i := 0) dX7_moveSlot_48 rfl rfl ?_
  refine R_get foX7_24 hL0 (cE_7 Ω k0 _) rfl dX7_moveSlot_49 ?_
  refine R_iload_n (i := 2) dX7_moveSlot_52 rfl rfl ?_
  refine R_aload_n (i := 0) dX7_moveSlot_53 rfl rfl ?_
  refine R_get foX7_24 hL0 (cE_7 Ω k0 _) rfl dX7_moveSlot_54 ?_
  refine R_iload_n (i := 1) dX7_moveSlot_57 rfl rfl ?_
  obtain ⟨hb, h⟩ := hit_bnd h
  refine R_iald (WF.kid hW 4 hL0 rfl) (cE_49 Ω k0 _) hb dX7_moveSlot_58 ?_
  obtain ⟨hb, h⟩ := hit_bnd h
  refine R_iast (WF.kid hW 4 hL0 rfl) (cE_49 Ω k0) hb dX7_moveSlot_59 ?_
  refine R_st h (fun σ5 h => ?_)
  refine R_aload_n (i := 0) dX7_moveSlot_60 rfl rfl ?_
  refine R_get foX7_27 hL0 (cE_7 Ω k0 _) rfl dX7_moveSlot_61 ?_
  refine R_iload_n (i := 2) dX7_moveSlot_64 rfl rfl ?_
  refine R_aload_n (i := 0) dX7_moveSlot_65 rfl rfl ?_
  refine R_get foX7_27 hL0 (cE_7 Ω k0 _) rfl dX7_moveSlot_66 ?_
  refine R_iload_n (i := 1) dX7_moveSlot_69 rfl rfl ?_
  obtain ⟨hb, h⟩ := hit_bnd h
  refine R_iald (WF.kid hW 5 hL0 rfl) (cE_50 Ω k0 _) hb dX7_moveSlot_70 ?_
  obtain ⟨hb, h⟩ := hit_bnd h
  refine R_iast (WF.kid hW 5 hL0 rfl) (cE_50 Ω k0) hb dX7_moveSlot_71 ?_
  refine R_st h (fun σ6 h => ?_)
  refine R_aload_n (i := 0) dX7_moveSlot_72 rfl rfl ?_
  refine R_get foX7_30 hL0 (cE_7 Ω k0 _) rfl dX7_moveSlot_73 ?_
  refine R_iload_n (i := 2) dX7_moveSlot_76 rfl rfl ?_
  refine R_aload_n (i := 0) dX7_moveSlot_77 rfl rfl ?_
  refine R_get foX7_30 hL0 (cE_7 Ω k0 _) rfl dX7_moveSlot_78 ?_
  refine R_iload_n (i := 1) dX7_moveSlot_81 rfl rfl ?_
  obtain ⟨hb, h⟩ := hit_bnd h
  refine R_iald (WF.kid hW 6 hL0 rfl) (cE_51 Ω k0 _) hb dX7_moveSlot_82 ?_
  obtain ⟨hb, h⟩ := hit_bnd h
  refine R_iast (WF.kid hW 6 hL0 rfl) (cE_51 Ω k0) hb dX7_moveSlot_83 ?_
  refine R_st h (fun σ7 h => ?_)
  refine R_iconst (v := 0) dX7_moveSlot_84 rfl ?_
  refine R_istore (lv2 := [some (rf Ω 7 k0), some (.int x1), some (.int x2), some (rf Ω 42 0), some (.int 0)]) dX7_moveSlot_85 (by decide) rfl rfl ?_
  refine rlX7_moveSlot_L87 hW k0 x1 x2 hL0 hL3 ?_ fu 0 σ7 (hit_bd h)
  · intro e12 σ11 h
    try dsimp only at h
    exact R_vret dX7_moveSlot_125 rfl h
set_option maxRecDepth 100000 in
set_option maxHeartbeats 4000000 in
theorem rnX7_closeUp_j35L10 {l : Launch} {Ω : rO} (hW : WF Ω) (k0 : Nat) (x2 : Int32) (x3 : Int32) (x4 : Int32) (hL0 : oL Ω 7 k0) (hL1 : oL Ω 42 0) (σ : rS) {K : Int32 → rS → Prop} {K0 : ((Int32 × Int32) ⊕ Int32) → rS → Prop} (hC : ∀ (x3 : Int32) (x4 : Int32) (σ : rS), K0 (.inl (x3, x4)) σ → Run l Ω cX7_closeUp RX7 6 none rmX7_closeUp K 10 [some (rf Ω 7 k0), some (rf Ω 42 0), some (.int x2), some (.int x3), some (.int x4), none] [] σ) (hE0 : ∀ (e : Int32) (σ : rS), K0 (.inr e) σ → Run l Ω cX7_closeUp RX7 6 none rmX7_closeUp K 41 [some (rf Ω 7 k0), some (rf Ω 42 0), none, some (.int e), none, none] [] σ) (h : hit (fX7_closeUp_j35L10 k0 x2 x3 x4 σ) K0) : Run l Ω cX7_closeUp RX7 6 none rmX7_closeUp K 35 [some (rf Ω 7 k0), some (rf Ω 42 0), some (.int x2), some (.int x3), some (.int x4), none] [] σ := by
  unfold fX7_closeUp_j35L10 at h
  refine R_iinc (v := x4 + 1) (lv2 := [some (rf Ω 7 k0), some (rf Ω 42 0), some (.int x2), some (.int x3), some (.int (x4 + 1)), none]) dX7_closeUp_35 rfl rfl (by decide) rfl rfl ?_
  refine R_goto (tgt := 10) dX7_closeUp_38 (by decide) ?_
  exact hC x3 (x4 + 1) σ h
set_option maxRecDepth 100000 in
set_option maxHeartbeats 4000000 in
theorem rsX7_closeUp_L10 {l : Launch} {Ω : rO} (hW : WF Ω) (k0 : Nat) (x2 : Int32) (x3 : Int32) (x4 : Int32) (hL0 : oL Ω 7 k0) (hL1 : oL Ω 42 0) (σ : rS) {K : Int32 → rS → Prop} {K0 : ((Int32 × Int32) ⊕ Int32) → rS → Prop} (hC : ∀ (x3 : Int32) (x4 : Int32) (σ : rS), K0 (.inl (x3, x4)) σ → Run l Ω cX7_closeUp RX7 6 none rmX7_closeUp K 10 [some (rf Ω 7 k0), some (rf Ω 42 0), some (.int x2), some (.int x3), some (.int x4), none] [] σ) (hE0 : ∀ (e : Int32) (σ : rS), K0 (.inr e) σ → Run l Ω cX7_closeUp RX7 6 none rmX7_closeUp K 41 [some (rf Ω 7 k0), some (rf Ω 42 0), none, some (.int e), none, none] [] σ) (h : hit (fX7_closeUp_L10 k0 x2 x3 x4 σ) K0) : Run l Ω cX7_closeUp RX7 6 none rmX7_closeUp K 10 [some (rf Ω 7 k0), some (rf Ω 42 0), some (.int x2), some (.int x3), some (.int x4), none] [] σ := by
  unfold fX7_closeUp_L10 at h
  refine R_iload (i := 4) dX7_closeUp_10 rfl ?_
  refine R_iload_n (i := 2) dX7_closeUp_12 rfl rfl ?_
  refine R_icmp_ge (tgt := 41) dX7_closeUp_13 (by decide) (fun hc => ?_) (fun hc => ?_)
  · have h := hit_f h hc
    refine R_drop (lv2 := [some (rf Ω 7 k0), some (rf Ω 42 0), none, some (.int x3), some (.int x4), none]) 2 rfl ?_
    refine R_drop (lv2 := [some (rf Ω 7 k0), some (rf Ω 42 0), none, some (.int x3), none, none]) 4 rfl ?_
    exact hE0 x3 σ h
  · have h := hit_t h hc
    refine R_aload_n (i := 1) dX7_closeUp_16 rfl rfl ?_
    refine R_iload (i := 4) dX7_closeUp_17 rfl ?_
    obtain ⟨hb, h⟩ := hit_bnd h
    refine R_iald hL1 (cE_42 Ω 0 _) hb dX7_closeUp_19 ?_
    refine R_iconst (v := (-1)) dX7_closeUp_20 rfl ?_
    refine R_icmp_eq (tgt := 35) dX7_closeUp_21 (by decide) (fun hc => ?_) (fun hc => ?_)
    · have h := hit_t h hc
      exact rnX7_closeUp_j35L10 hW k0 x2 x3 x4 hL0 hL1 σ hC hE0 h
    · have h := hit_f h hc
      refine R_aload_n (i := 0) dX7_closeUp_24 rfl rfl ?_
      refine R_iload (i := 4) dX7_closeUp_25 rfl ?_
      refine R_iload_n (i := 3) dX7_closeUp_27 rfl rfl ?_
      refine R_aload_n (i := 1) dX7_closeUp_28 rfl rfl ?_
      refine R_callVv (ctX7_moveSlot l Ω k0 x4 x3 hL0 hL1 _ _ (hit_mono (hit_bd h) (fun r2 σ3 h => ?_))) okX7_moveSlot mw_714 hL0 (cE_7 Ω k0 _) rfl rfl (Nat.le_of_ble_eq_true rfl) rfl rfl ⟨by decide, by decide⟩ ⟨Nat.zero_le _, Nat.zero_le _⟩ dX7_closeUp_29
      refine R_iinc (v := x3 + 1) (lv2 := [some (rf Ω 7 k0), some (rf Ω 42 0), some (.int x2), some (.int (x3 + 1)), some (.int x4), none]) dX7_closeUp_32 rfl rfl (by decide) rfl rfl ?_
      exact rnX7_closeUp_j35L10 hW k0 x2 (x3 + 1) x4 hL0 hL1 σ3 hC hE0 h
set_option maxRecDepth 100000 in
set_option maxHeartbeats 4000000 in
theorem rlX7_closeUp_L10 {l : Launch} {Ω : rO} (hW : WF Ω) (k0 : Nat) (x2 : Int32) (hL0 : oL Ω 7 k0) (hL1 : oL Ω 42 0) {K : Int32 → rS → Prop} {KE : Int32 → rS → Prop} (hE0 : ∀ (e : Int32) (σ : rS), KE e σ → Run l Ω cX7_closeUp RX7 6 none rmX7_closeUp K 41 [some (rf Ω 7 k0), some (rf Ω 42 0), none, some (.int e), none, none] [] σ) : ∀ (n : Nat) (x3 : Int32) (x4 : Int32) (σ : rS), hit (lp (fun (x : (Int32 × Int32)) σ => fX7_closeUp_L10 k0 x2 x.1 x.2 σ) n (x3, x4) σ) KE → Run l Ω cX7_closeUp RX7 6 none rmX7_closeUp K 10 [some (rf Ω 7 k0), some (rf Ω 42 0), some (.int x2), some (.int x3), some (.int x4), none] [] σ := by
  intro n
  induction n with
  | zero => intro x3 x4 σ h; exact (h : False).elim
  | succ n ih =>
    intro x3 x4 σ h
    exact rsX7_closeUp_L10 hW k0 x2 x3 x4 hL0 hL1 σ (fun x3 x4 σ h => ih x3 x4 σ h) (fun e σ h => hE0 e σ h) (hit_lp h)
set_option maxRecDepth 100000 in
set_option maxHeartbeats 4000000 in
theorem rsX7_closeUp_L49 {l : Launch} {Ω : rO} (hW : WF Ω) (k0 : Nat) (x4 : Int32) (hL0 : oL Ω 7 k0) (hL1 : oL Ω 42 0) (σ : rS) {K : Int32 → rS → Prop} {K0 : (Int32 ⊕ Unit) → rS → Prop} (hC : ∀ (x4 : Int32) (σ : rS), K0 (.inl x4) σ → Run l Ω cX7_closeUp RX7 6 none rmX7_closeUp K 49 [some (rf Ω 7 k0), some (rf Ω 42 0), none, none, some (.int x4), none] [] σ) (hE0 : ∀ (e : Unit) (σ : rS), K0 (.inr e) σ → Run l Ω cX7_closeUp RX7 6 none rmX7_closeUp K 80 [some (rf Ω 7 k0), some (rf Ω 42 0), none, none, none, none] [] σ) (h : hit (fX7_closeUp_L49 k0 x4 σ) K0) : Run l Ω cX7_closeUp RX7 6 none rmX7_closeUp K 49 [some (rf Ω 7 k0), some (rf Ω 42 0), none, none, some (.int x4), none] [] σ := by
  unfold fX7_closeUp_L49 at h
  refine R_iload (i := 4) dX7_closeUp_49 rfl ?_
  refine R_bipush (v := 8) dX7_closeUp_51 rfl ?_
  refine R_icmp_ge (tgt := 80) dX7_closeUp_53 (by decide) (fun hc => ?_) (fun hc => ?_)
  · have h := hit_f h hc
    refine R_drop (lv2 := [some (rf Ω 7 k0), some (rf Ω 42 0), none, none, none, none]) 4 rfl ?_
    exact hE0 () σ h
  · have h := hit_t h hc
    refine R_aload_n (i := 0) dX7_closeUp_56 rfl rfl ?_
    refine R_get foX7_36 hL0 (cE_7 Ω k0 _) rfl dX7_closeUp_57 ?_
    refine R_iload (i := 4) dX7_closeUp_60 rfl ?_
    refine R_aload_n (i := 0) dX7_closeUp_62 rfl rfl ?_
    refine R_get foX7_36 hL0 (cE_7 Ω k0 _) rfl dX7_closeUp_63 ?_
    refine R_iload (i := 4) dX7_closeUp_66 rfl ?_
    obtain ⟨hb, h⟩ := hit_bnd h
    refine R_iald (WF.kid hW 8 hL0 rfl) (cE_53 Ω k0 _) hb dX7_closeUp_68 ?_
    refine R_aload_n (i := 1) dX7_closeUp_69 rfl rfl ?_
    refine R_callSi (ctX7_renamed l Ω (σ 53 k0 (ix x4)) hL1 _ _ (hit_mono (hit_bd h) (fun r7 σ8 h => ?_))) okX7_renamed mw_718 rfl rfl (Nat.le_of_ble_eq_true rfl) rfl rfl ⟨by decide, by decide⟩ ⟨Nat.zero_le _, Nat.zero_le _⟩ dX7_closeUp_70
    obtain ⟨hb, h⟩ := hit_bnd h
    refine R_iast (WF.kid hW 8 hL0 rfl) (cE_53 Ω k0) hb dX7_closeUp_73 ?_
    refine R_st h (fun σ9 h => ?_)
    refine R_iinc (v := x4 + 1) (lv2 := [some (rf Ω 7 k0), some (rf Ω 42 0), none, none, some (.int (x4 + 1)), none]) dX7_closeUp_74 rfl rfl (by decide) rfl rfl ?_
    refine R_goto (tgt := 49) dX7_closeUp_77 (by decide) ?_
    exact hC (x4 + 1) σ9 h
set_option maxRecDepth 100000 in
set_option maxHeartbeats 4000000 in
theorem rlX7_closeUp_L49 {l : Launch} {Ω : rO} (hW : WF Ω) (k0 : Nat) (hL0 : oL Ω 7 k0) (hL1 : oL Ω 42 0) {K : Int32 → rS → Prop} {KE : Unit → rS → Prop} (hE0 : ∀ (e : Unit) (σ : rS), KE e σ → Run l Ω cX7_closeUp RX7 6 none rmX7_closeUp K 80 [some (rf Ω 7 k0), some (rf Ω 42 0), none, none, none, none] [] σ) : ∀ (n : Nat) (x4 : Int32) (σ : rS), hit (lp (fun (x : Int32) σ => fX7_closeUp_L49 k0 x σ) n x4 σ) KE → Run l Ω cX7_closeUp RX7 6 none rmX7_closeUp K 49 [some (rf Ω 7 k0), some (rf Ω 42 0), none, none, some (.int x4), none] [] σ := by
  intro n
  induction n with
  | zero => intro x4 σ h; exact (h : False).elim
  | succ n ih =>
    intro x4 σ h
    exact rsX7_closeUp_L49 hW k0 x4 hL0 hL1 σ (fun x4 σ h => ih x4 σ h) (fun e σ h => hE0 e σ h) (hit_lp h)
set_option maxRecDepth 100000 in
set_option maxHeartbeats 4000000 in
theorem rsX7_closeUp_L83 {l : Launch} {Ω : rO} (hW : WF Ω) (k0 : Nat) (x4 : Int32) (hL0 : oL Ω 7 k0) (hL1 : oL Ω 42 0) (σ : rS) {K : Int32 → rS → Prop} {K0 : (Int32 ⊕ Unit) → rS → Prop} (hC : ∀ (x4 : Int32) (σ : rS), K0 (.inl x4) σ → Run l Ω cX7_closeUp RX7 6 none rmX7_closeUp K 83 [some (rf Ω 7 k0), some (rf Ω 42 0), none, none, some (.int x4), none] [] σ) (hE0 : ∀ (e : Unit) (σ : rS), K0 (.inr e) σ → Run l Ω cX7_closeUp RX7 6 none rmX7_closeUp K 123 [some (rf Ω 7 k0), some (rf Ω 42 0), none, none, none, none] [] σ) (h : hit (fX7_closeUp_L83 k0 x4 σ) K0) : Run l Ω cX7_closeUp RX7 6 none rmX7_closeUp K 83 [some (rf Ω 7 k0), some (rf Ω 42 0), none, none, some (.int x4), none] [] σ := by
  unfold fX7_closeUp_L83 at h
  refine R_iload (i := 4) dX7_closeUp_83 rfl ?_
  refine R_aload_n (i := 0) dX7_closeUp_85 rfl rfl ?_
  refine R_get foX7_50 hL0 (cE_7 Ω k0 _) rfl dX7_closeUp_86 ?_
  refine R_get foX7_82 (WF.kid hW 11 hL0 rfl) (cE_4 Ω (6 * k0 + 0) _) rfl dX7_closeUp_89 ?_
  refine R_icmp_ge (tgt := 123) dX7_closeUp_92 (by decide) (fun hc => ?_) (fun hc => ?_)
  · have h := hit_f h hc
    refine R_drop (lv2 := [some (rf Ω 7 k0), some (rf Ω 42 0), none, none, none, none]) 4 rfl ?_
    exact hE0 () σ h
  · have h := hit_t h hc
    refine R_aload_n (i := 0) dX7_closeUp_95 rfl rfl ?_
    refine R_get foX7_50 hL0 (cE_7 Ω k0 _) rfl dX7_closeUp_96 ?_
    refine R_iload (i := 4) dX7_closeUp_99 rfl ?_
    refine R_aload_n (i := 0) dX7_closeUp_101 rfl rfl ?_
    refine R_get foX7_50 hL0 (cE_7 Ω k0 _) rfl dX7_closeUp_102 ?_
    refine R_iload (i := 4) dX7_closeUp_105 rfl ?_
    refine R_callVi (ctX4_get l Ω (6 * k0 + 0) x4 (WF.kid hW 11 hL0 rfl) _ _ (hit_mono (hit_bd h) (fun r12 σ13 h => ?_))) okX4_get mw_721 (WF.kid hW 11 hL0 rfl) (cE_4 Ω (6 * k0 + 0) _) rfl rfl (Nat.le_of_ble_eq_true rfl) rfl rfl ⟨by decide, by decide⟩ ⟨Nat.zero_le _, Nat.zero_le _⟩ dX7_closeUp_107
    refine R_aload_n (i := 1) dX7_closeUp_110 rfl rfl ?_
    refine R_callSi (ctX7_renamed l Ω r12 hL1 _ _ (hit_mono (hit_bd h) (fun r14 σ15 h => ?_))) okX7_renamed mw_718 rfl rfl (Nat.le_of_ble_eq_true rfl) rfl rfl ⟨by decide, by decide⟩ ⟨Nat.zero_le _, Nat.zero_le _⟩ dX7_closeUp_111
    refine R_callVv (ctX4_set l Ω (6 * k0 + 0) x4 r14 (WF.kid hW 11 hL0 rfl) _ _ (hit_mono (hit_bd h) (fun r16 σ17 h => ?_))) okX4_set mw_722 (WF.kid hW 11 hL0 rfl) (cE_4 Ω (6 * k0 + 0) _) rfl rfl (Nat.le_of_ble_eq_true rfl) rfl rfl ⟨by decide, by decide⟩ ⟨Nat.zero_le _, Nat.zero_le _⟩ dX7_closeUp_114
    refine R_iinc (v := x4 + 1) (lv2 := [some (rf Ω 7 k0), some (rf Ω 42 0), none, none, some (.int (x4 + 1)), none]) dX7_closeUp_117 rfl rfl (by decide) rfl rfl ?_
    refine R_goto (tgt := 83) dX7_closeUp_120 (by decide) ?_
    exact hC (x4 + 1) σ17 h
set_option maxRecDepth 100000 in
set_option maxHeartbeats 4000000 in
theorem rlX7_closeUp_L83 {l : Launch} {Ω : rO} (hW : WF Ω) (k0 : Nat) (hL0 : oL Ω 7 k0) (hL1 : oL Ω 42 0) {K : Int32 → rS → Prop} {KE : Unit → rS → Prop} (hE0 : ∀ (e : Unit) (σ : rS), KE e σ → Run l Ω cX7_closeUp RX7 6 none rmX7_closeUp K 123 [some (rf Ω 7 k0), some (rf Ω 42 0), none, none, none, none] [] σ) : ∀ (n : Nat) (x4 : Int32) (σ : rS), hit (lp (fun (x : Int32) σ => fX7_closeUp_L83 k0 x σ) n x4 σ) KE → Run l Ω cX7_closeUp RX7 6 none rmX7_closeUp K 83 [some (rf Ω 7 k0), some (rf Ω 42 0), none, none, some (.int x4), none] [] σ := by
  intro n
  induction n with
  | zero => intro x4 σ h; exact (h : False).elim
  | succ n ih =>
    intro x4 σ h
    exact rsX7_closeUp_L83 hW k0 x4 hL0 hL1 σ (fun x4 σ h => ih x4 σ h) (fun e σ h => hE0 e σ h) (hit_lp h)
set_option maxRecDepth 100000 in
set_option maxHeartbeats 4000000 in
theorem rsX7_closeUp_L126 {l : Launch} {Ω : rO} (hW : WF Ω) (k0 : Nat) (x4 : Int32) (hL0 : oL Ω 7 k0) (hL1 : oL Ω 42 0) (σ : rS) {K : Int32 → rS → Prop} {K0 : (Int32 ⊕ Unit) → rS → Prop} (hC : ∀ (x4 : Int32) (σ : rS), K0 (.inl x4) σ → Run l Ω cX7_closeUp RX7 6 none rmX7_closeUp K 126 [some (rf Ω 7 k0), some (rf Ω 42 0), none, none, some (.int x4), none] [] σ) (hE0 : ∀ (e : Unit) (σ : rS), K0 (.inr e) σ → Run l Ω cX7_closeUp RX7 6 none rmX7_closeUp K 179 [none, none, none, none, none, none] [] σ) (h : hit (fX7_closeUp_L126 k0 x4 σ) K0) : Run l Ω cX7_closeUp RX7 6 none rmX7_closeUp K 126 [some (rf Ω 7 k0), some (rf Ω 42 0), none, none, some (.int x4), none] [] σ := by
  unfold fX7_closeUp_L126 at h
  refine R_iload (i := 4) dX7_closeUp_126 rfl ?_
  refine R_aload_n (i := 0) dX7_closeUp_128 rfl rfl ?_
  refine R_get foX7_57 hL0 (cE_7 Ω k0 _) rfl dX7_closeUp_129 ?_
  refine R_get foX7_82 (WF.kid hW 13 hL0 rfl) (cE_4 Ω (6 * k0 + 2) _) rfl dX7_closeUp_132 ?_
  refine R_icmp_ge (tgt := 179) dX7_closeUp_135 (by decide) (fun hc => ?_) (fun hc => ?_)
  · have h := hit_f h hc
    refine R_drop (lv2 := [none, some (rf Ω 42 0), none, none, some (.int x4), none]) 0 rfl ?_
    refine R_drop (lv2 := [none, none, none, none, some (.int x4), none]) 1 rfl ?_
    refine R_drop (lv2 := [none, none, none, none, none, none]) 4 rfl ?_
    exact hE0 () σ h
  · have h := hit_t h hc
    refine R_aload_n (i := 0) dX7_closeUp_138 rfl rfl ?_
    refine R_get foX7_57 hL0 (cE_7 Ω k0 _) rfl dX7_closeUp_139 ?_
    refine R_iload (i := 4) dX7_closeUp_142 rfl ?_
    refine R_callVi (ctX4_get l Ω (6 * k0 + 2) x4 (WF.kid hW 13 hL0 rfl) _ _ (hit_mono (hit_bd h) (fun r20 σ21 h => ?_))) okX4_get mw_721 (WF.kid hW 13 hL0 rfl) (cE_4 Ω (6 * k0 + 2) _) rfl rfl (Nat.le_of_ble_eq_true rfl) rfl rfl ⟨by decide, by decide⟩ ⟨Nat.zero_le _, Nat.zero_le _⟩ dX7_closeUp_144
    refine R_istore (lv2 := [some (rf Ω 7 k0), some (rf Ω 42 0), none, none, some (.int x4), some (.int r20)]) dX7_closeUp_147 (by decide) rfl rfl ?_
    refine R_aload_n (i := 0) dX7_closeUp_149 rfl rfl ?_
    refine R_get foX7_57 hL0 (cE_7 Ω k0 _) rfl dX7_closeUp_150 ?_
    refine R_iload (i := 4) dX7_closeUp_153 rfl ?_
    refine R_iload (i := 5) dX7_closeUp_155 rfl ?_
    refine R_iconst (v := 4) dX7_closeUp_157 rfl ?_
    refine R_idiv dX7_closeUp_158 (by decide) ?_
    refine R_aload_n (i := 1) dX7_closeUp_159 rfl rfl ?_
    refine R_callSi (ctX7_renamed l Ω (r20 / 4) hL1 _ _ (hit_mono (hit_bd h) (fun r22 σ23 h => ?_))) okX7_renamed mw_718 rfl rfl (Nat.le_of_ble_eq_true rfl) rfl rfl ⟨by decide, by decide⟩ ⟨Nat.zero_le _, Nat.zero_le _⟩ dX7_closeUp_160
    refine R_iconst (v := 4) dX7_closeUp_163 rfl ?_
    refine R_imul dX7_closeUp_164 ?_
    refine R_iload (i := 5) dX7_closeUp_165 rfl ?_
    refine R_iconst (v := 4) dX7_closeUp_167 rfl ?_
    refine R_irem dX7_closeUp_168 (by decide) ?_
    refine R_iadd dX7_closeUp_169 ?_
    refine R_callVv (ctX4_set l Ω (6 * k0 + 2) x4 ((r22 * 4) + (r20 - r20 / 4 * 4)) (WF.kid hW 13 hL0 rfl) _ _ (hit_mono (hit_bd h) (fun r24 σ25 h => ?_))) okX4_set mw_722 (WF.kid hW 13 hL0 rfl) (cE_4 Ω (6 * k0 + 2) _) rfl rfl (Nat.le_of_ble_eq_true rfl) rfl rfl ⟨by decide, by decide⟩ ⟨Nat.zero_le _, Nat.zero_le _⟩ dX7_closeUp_170
    refine R_iinc (v := x4 + 1) (lv2 := [some (rf Ω 7 k0), some (rf Ω 42 0), none, none, some (.int (x4 + 1)), some (.int r20)]) dX7_closeUp_173 rfl rfl (by decide) rfl rfl ?_
    refine R_goto (tgt := 126) dX7_closeUp_176 (by decide) ?_
    refine R_drop (lv2 := [some (rf Ω 7 k0), some (rf Ω 42 0), none, none, some (.int (x4 + 1)), none]) 5 rfl ?_
    exact hC (x4 + 1) σ25 h
set_option maxRecDepth 100000 in
set_option maxHeartbeats 4000000 in
theorem rlX7_closeUp_L126 {l : Launch} {Ω : rO} (hW : WF Ω) (k0 : Nat) (hL0 : oL Ω 7 k0) (hL1 : oL Ω 42 0) {K : Int32 → rS → Prop} {KE : Unit → rS → Prop} (hE0 : ∀ (e : Unit) (σ : rS), KE e σ → Run l Ω cX7_closeUp RX7 6 none rmX7_closeUp K 179 [none, none, none, none, none, none] [] σ) : ∀ (n : Nat) (x4 : Int32) (σ : rS), hit (lp (fun (x : Int32) σ => fX7_closeUp_L126 k0 x σ) n x4 σ) KE → Run l Ω cX7_closeUp RX7 6 none rmX7_closeUp K 126 [some (rf Ω 7 k0), some (rf Ω 42 0), none, none, some (.int x4), none] [] σ := by
  intro n
  induction n with
  | zero => intro x4 σ h; exact (h : False).elim
  | succ n ih =>
    intro x4 σ h
    exact rsX7_closeUp_L126 hW k0 x4 hL0 hL1 σ (fun x4 σ h => ih x4 σ h) (fun e σ h => hE0 e σ h) (hit_lp h)
set_option maxRecDepth 100000 in
set_option maxHeartbeats 4000000 in
theorem ctX7_closeUp (l : Launch) (Ω : rO) (k0 : Nat) (hL0 : oL Ω 7 k0) (hL1 : oL Ω 42 0) (σ : rS) (K : Int32 → rS → Prop) (h : hit (fX7_closeUp k0 σ) K) : Ct l Ω yX7_closeUp cX7_closeUp 6 none rmX7_closeUp [rf Ω 7 k0, rf Ω 42 0] σ K := by
  refine Ct.of (own := RX7) (lv := [some (rf Ω 7 k0), some (rf Ω 42 0), none, none, none, none]) (by decide) rfl (Nat.le_of_ble_eq_true rfl) rfl (fun hW => ?_)
  unfold fX7_closeUp at h
  refine R_aload_n (i := 0) dX7_closeUp_0 rfl rfl ?_
  refine R_get foX7_75 hL0 (cE_7 Ω k0 _) rfl dX7_closeUp_1 ?_
  refine R_topi h (fun y1 h => ?_)
  refine R_istore_n (lv2 := [some (rf Ω 7 k0), some (rf Ω 42 0), some (.int y1), none, none, none]) dX7_closeUp_4 rfl (by decide) rfl rfl ?_
  refine R_iconst (v := 0) dX7_closeUp_5 rfl ?_
  refine R_istore_n (lv2 := [some (rf Ω 7 k0), some (rf Ω 42 0), some (.int y1), some (.int 0), none, none]) dX7_closeUp_6 rfl (by decide) rfl rfl ?_
  refine R_iconst (v := 0) dX7_closeUp_7 rfl ?_
  refine R_istore (lv2 := [some (rf Ω 7 k0), some (rf Ω 42 0), some (.int y1), some (.int 0), some (.int 0), none]) dX7_closeUp_8 (by decide) rfl rfl ?_
  refine rlX7_closeUp_L10 hW k0 y1 hL0 hL1 ?_ fu 0 0 σ (hit_bd h)
  · intro e5 σ4 h
    try dsimp only at h
    refine R_aload_n (i := 0) dX7_closeUp_41 rfl rfl ?_
    refine R_iload_n (i := 3) dX7_closeUp_42 rfl rfl ?_
    refine R_put poX7_75 hL0 (cE_7 Ω k0 _) (cP_7_0 Ω k0 _ _) (Nat.le_of_ble_eq_true rfl) dX7_closeUp_43 ?_
    refine R_st h (fun σ6 h => ?_)
    refine R_iconst (v := 0) dX7_closeUp_46 rfl ?_
    refine R_istore (lv2 := [some (rf Ω 7 k0), some (rf Ω 42 0), none, some (.int e5), some (.int 0), none]) dX7_closeUp_47 (by decide) rfl rfl ?_
    refine R_drop (lv2 := [some (rf Ω 7 k0), some (rf Ω 42 0), none, none, some (.int 0), none]) 3 rfl ?_
    refine rlX7_closeUp_L49 hW k0 hL0 hL1 ?_ fu 0 σ6 (hit_bd h)
    · intro e11 σ10 h
      try dsimp only at h
      refine R_iconst (v := 0) dX7_closeUp_80 rfl ?_
      refine R_istore (lv2 := [some (rf Ω 7 k0), some (rf Ω 42 0), none, none, some (.int 0), none]) dX7_closeUp_81 (by decide) rfl rfl ?_
      refine rlX7_closeUp_L83 hW k0 hL0 hL1 ?_ fu 0 σ10 (hit_bd h)
      · intro e19 σ18 h
        try dsimp only at h
        refine R_iconst (v := 0) dX7_closeUp_123 rfl ?_
        refine R_istore (lv2 := [some (rf Ω 7 k0), some (rf Ω 42 0), none, none, some (.int 0), none]) dX7_closeUp_124 (by decide) rfl rfl ?_
        refine rlX7_closeUp_L126 hW k0 hL0 hL1 ?_ fu 0 σ18 (hit_bd h)
        · intro e27 σ26 h
          try dsimp only at h
          exact R_vret dX7_closeUp_179 rfl h
set_option maxRecDepth 100000 in
set_option maxHeartbeats 4000000 in
theorem rsX1_addCounts_L2 {l : Launch} {Ω : rO} (hW : WF Ω) (k1 : Nat) (x3 : Int32) (hL0 : oL Ω 1 0) (hL1 : oL Ω 7 k1) (σ : rS) {K : Int32 → rS → Prop} {K0 : (Int32 ⊕ Unit) → rS → Prop} (hC : ∀ (x3 : Int32) (σ : rS), K0 (.inl x3) σ → Run l Ω cX1_addCounts RX1 4 none rmX1_addCounts K 2 [some (rf Ω 1 0), some (rf Ω 7 k1), none, some (.int x3)] [] σ) (hE0 : ∀ (e : Unit) (σ : rS), K0 (.inr e) σ → Run l Ω cX1_addCounts RX1 4 none rmX1_addCounts K 30 [none, none, none, none] [] σ) (h : hit (fX1_addCounts_L2 k1 x3 σ) K0) : Run l Ω cX1_addCounts RX1 4 none rmX1_addCounts K 2 [some (rf Ω 1 0), some (rf Ω 7 k1), none, some (.int x3)] [] σ := by
  unfold fX1_addCounts_L2 at h
  refine R_iload_n (i := 3) dX1_addCounts_2 rfl rfl ?_
  refine R_iconst (v := 5) dX1_addCounts_3 rfl ?_
  refine R_icmp_ge (tgt := 30) dX1_addCounts_4 (by decide) (fun hc => ?_) (fun hc => ?_)
  · have h := hit_f h hc
    refine R_drop (lv2 := [none, some (rf Ω 7 k1), none, some (.int x3)]) 0 rfl ?_
    refine R_drop (lv2 := [none, none, none, some (.int x3)]) 1 rfl ?_
    refine R_drop (lv2 := [none, none, none, none]) 3 rfl ?_
    exact hE0 () σ h
  · have h := hit_t h hc
    refine R_aload_n (i := 1) dX1_addCounts_7 rfl rfl ?_
    refine R_get foX1_93 hL1 (cE_7 Ω k1 _) rfl dX1_addCounts_8 ?_
    refine R_iconst (v := 3) dX1_addCounts_11 rfl ?_
    refine R_iload_n (i := 3) dX1_addCounts_12 rfl rfl ?_
    refine R_iadd dX1_addCounts_13 ?_
    refine R_dup2 dX1_addCounts_14 rfl rfl ?_
    obtain ⟨hb, h⟩ := hit_bnd h
    refine R_iald (WF.kid hW 10 hL1 rfl) (cE_55 Ω k1 _) hb dX1_addCounts_15 ?_
    refine R_aload_n (i := 0) dX1_addCounts_16 rfl rfl ?_
    refine R_get foX1_9 hL0 (cE_1 Ω 0 _) rfl dX1_addCounts_17 ?_
    refine R_iload_n (i := 3) dX1_addCounts_20 rfl rfl ?_
    obtain ⟨hb, h⟩ := hit_bnd h
    refine R_iald (WF.kid hW 2 hL0 rfl) (cE_37 Ω 0 _) hb dX1_addCounts_21 ?_
    refine R_iadd dX1_addCounts_22 ?_
    obtain ⟨hb, h⟩ := hit_bnd h
    refine R_iast (WF.kid hW 10 hL1 rfl) (cE_55 Ω k1) hb dX1_addCounts_23 ?_
    refine R_st h (fun σ1 h => ?_)
    refine R_iinc (v := x3 + 1) (lv2 := [some (rf Ω 1 0), some (rf Ω 7 k1), none, some (.int (x3 + 1))]) dX1_addCounts_24 rfl rfl (by decide) rfl rfl ?_
    refine R_goto (tgt := 2) dX1_addCounts_27 (by decide) ?_
    exact hC (x3 + 1) σ1 h
set_option maxRecDepth 100000 in
set_option maxHeartbeats 4000000 in
theorem rlX1_addCounts_L2 {l : Launch} {Ω : rO} (hW : WF Ω) (k1 : Nat) (hL0 : oL Ω 1 0) (hL1 : oL Ω 7 k1) {K : Int32 → rS → Prop} {KE : Unit → rS → Prop} (hE0 : ∀ (e : Unit) (σ : rS), KE e σ → Run l Ω cX1_addCounts RX1 4 none rmX1_addCounts K 30 [none, none, none, none] [] σ) : ∀ (n : Nat) (x3 : Int32) (σ : rS), hit (lp (fun (x : Int32) σ => fX1_addCounts_L2 k1 x σ) n x3 σ) KE → Run l Ω cX1_addCounts RX1 4 none rmX1_addCounts K 2 [some (rf Ω 1 0), some (rf Ω 7 k1), none, some (.int x3)] [] σ := by
  intro n
  induction n with
  | zero => intro x3 σ h; exact (h : False).elim
  | succ n ih =>
    intro x3 σ h
    exact rsX1_addCounts_L2 hW k1 x3 hL0 hL1 σ (fun x3 σ h => ih x3 σ h) (fun e σ h => hE0 e σ h) (hit_lp h)
set_option maxRecDepth 100000 in
set_option maxHeartbeats 4000000 in
theorem ctX1_addCounts (l : Launch) (Ω : rO) (k1 : Nat) (x2 : Int32) (hL0 : oL Ω 1 0) (hL1 : oL Ω 7 k1) (σ : rS) (K : Int32 → rS → Prop) (h : hit (fX1_addCounts k1 x2 σ) K) : Ct l Ω yX1_addCounts cX1_addCounts 4 none rmX1_addCounts [rf Ω 1 0, rf Ω 7 k1, .int x2] σ K := by
  refine Ct.of (own := RX1) (lv := [some (rf Ω 1 0), some (rf Ω 7 k1), some (.int x2), none]) (by decide) rfl (Nat.le_of_ble_eq_true rfl) rfl (fun hW => ?_)
  unfold fX1_addCounts at h
  refine R_iload_n (i := 2) dX1_addCounts_0 rfl rfl ?_
  refine R_istore_n (lv2 := [some (rf Ω 1 0), some (rf Ω 7 k1), some (.int x2), some (.int x2)]) dX1_addCounts_1 rfl (by decide) rfl rfl ?_
  refine R_drop (lv2 := [some (rf Ω 1 0), some (rf Ω 7 k1), none, some (.int x2)]) 2 rfl ?_
  refine rlX1_addCounts_L2 hW k1 hL0 hL1 ?_ fu x2 σ (hit_bd h)
  · intro e3 σ2 h
    try dsimp only at h
    exact R_vret dX1_addCounts_30 rfl h
set_option maxRecDepth 100000 in
set_option maxHeartbeats 4000000 in
theorem ctX1_collectYoung (l : Launch) (Ω : rO) (k1 : Nat) (hL0 : oL Ω 1 0) (hL1 : oL Ω 7 k1) (σ : rS) (K : Int32 → rS → Prop) (h : hit (fX1_collectYoung k1 σ) K) : Ct l Ω yX1_collectYoung cX1_collectYoung 2 (some .boolean) rmX1_collectYoung [rf Ω 1 0, rf Ω 7 k1] σ K := by
  refine Ct.of (own := RX1) (lv := [some (rf Ω 1 0), some (rf Ω 7 k1)]) (by decide) rfl (Nat.le_of_ble_eq_true rfl) rfl (fun hW => ?_)
  unfold fX1_collectYoung at h
  refine R_aload_n (i := 0) dX1_collectYoung_0 rfl rfl ?_
  refine R_aload_n (i := 1) dX1_collectYoung_1 rfl rfl ?_
  refine R_callVv (ctX1_beginPlan l Ω k1 hL0 hL1 _ _ (hit_mono (hit_bd h) (fun r1 σ2 h => ?_))) okX1_beginPlan mw_624 hL0 (cE_1 Ω 0 _) rfl rfl (Nat.le_of_ble_eq_true rfl) rfl rfl ⟨by decide, by decide⟩ ⟨Nat.zero_le _, Nat.zero_le _⟩ dX1_collectYoung_2
  refine R_aload_n (i := 0) dX1_collectYoung_5 rfl rfl ?_
  refine R_aload_n (i := 1) dX1_collectYoung_6 rfl rfl ?_
  refine R_callVv (ctX1_planFromRoots l Ω k1 hL0 hL1 _ _ (hit_mono (hit_bd h) (fun r3 σ4 h => ?_))) okX1_planFromRoots mw_632 hL0 (cE_1 Ω 0 _) rfl rfl (Nat.le_of_ble_eq_true rfl) rfl rfl ⟨by decide, by decide⟩ ⟨Nat.zero_le _, Nat.zero_le _⟩ dX1_collectYoung_7
  refine R_aload_n (i := 0) dX1_collectYoung_10 rfl rfl ?_
  refine R_aload_n (i := 1) dX1_collectYoung_11 rfl rfl ?_
  refine R_iconst (v := 0) dX1_collectYoung_12 rfl ?_
  refine R_iconst (v := 1) dX1_collectYoung_13 rfl ?_
  refine R_callVv (ctX1_planFrom l Ω k1 0 1 hL0 hL1 _ _ (hit_mono (hit_bd h) (fun r5 σ6 h => ?_))) okX1_planFrom mw_649 hL0 (cE_1 Ω 0 _) rfl rfl (Nat.le_of_ble_eq_true rfl) rfl rfl ⟨by decide, by decide⟩ ⟨Nat.zero_le _, Nat.zero_le _⟩ dX1_collectYoung_14
  refine R_aload_n (i := 0) dX1_collectYoung_17 rfl rfl ?_
  refine R_aload_n (i := 1) dX1_collectYoung_18 rfl rfl ?_
  refine R_callVv (ctX1_planFromLasting l Ω k1 hL0 hL1 _ _ (hit_mono (hit_bd h) (fun r7 σ8 h => ?_))) okX1_planFromLasting mw_657 hL0 (cE_1 Ω 0 _) rfl rfl (Nat.le_of_ble_eq_true rfl) rfl rfl ⟨by decide, by decide⟩ ⟨Nat.zero_le _, Nat.zero_le _⟩ dX1_collectYoung_19
  refine R_aload_n (i := 0) dX1_collectYoung_22 rfl rfl ?_
  refine R_get foX1_57 hL0 (cE_1 Ω 0 _) rfl dX1_collectYoung_23 ?_
  refine R_if_eq (tgt := 31) dX1_collectYoung_26 (by decide) (fun hc => ?_) (fun hc => ?_)
  · have h := hit_t h hc
    refine R_aload_n (i := 0) dX1_collectYoung_31 rfl rfl ?_
    refine R_get foX1_9 hL0 (cE_1 Ω 0 _) rfl dX1_collectYoung_32 ?_
    refine R_iconst (v := 0) dX1_collectYoung_35 rfl ?_
    refine R_callSv (ctJ7_fill_53178 l Ω 37 0 5 0 (WF.kid hW 2 hL0 rfl) (cE_37 Ω 0) _ _ (hit_mono (hit_bd h) (fun r9 σ10 h => ?_))) okJ7_fill_53178 mw_661 rfl rfl (Nat.le_of_ble_eq_true rfl) rfl rfl ⟨by decide, by decide⟩ ⟨Nat.zero_le _, Nat.zero_le _⟩ dX1_collectYoung_36
    refine R_aload_n (i := 0) dX1_collectYoung_39 rfl rfl ?_
    refine R_aload_n (i := 1) dX1_collectYoung_40 rfl rfl ?_
    refine R_iconst (v := 1) dX1_collectYoung_41 rfl ?_
    refine R_callVv (ctX1_emptyWeak l Ω k1 1 hL0 hL1 _ _ (hit_mono (hit_bd h) (fun r11 σ12 h => ?_))) okX1_emptyWeak mw_662 hL0 (cE_1 Ω 0 _) rfl rfl (Nat.le_of_ble_eq_true rfl) rfl rfl ⟨by decide, by decide⟩ ⟨Nat.zero_le _, Nat.zero_le _⟩ dX1_collectYoung_42
    refine R_aload_n (i := 0) dX1_collectYoung_45 rfl rfl ?_
    refine R_aload_n (i := 1) dX1_collectYoung_46 rfl rfl ?_
    refine R_callVv (ctX1_lineUpLasting l Ω k1 hL0 hL1 _ _ (hit_mono (hit_bd h) (fun r13 σ14 h => ?_))) okX1_lineUpLasting mw_680 hL0 (cE_1 Ω 0 _) rfl rfl (Nat.le_of_ble_eq_true rfl) rfl rfl ⟨by decide, by decide⟩ ⟨Nat.zero_le _, Nat.zero_le _⟩ dX1_collectYoung_47
    refine R_aload_n (i := 0) dX1_collectYoung_50 rfl rfl ?_
    refine R_aload_n (i := 1) dX1_collectYoung_51 rfl rfl ?_
    refine R_iconst (v := 2) dX1_collectYoung_52 rfl ?_
    refine R_callVv (ctX1_emptyWeak l Ω k1 2 hL0 hL1 _ _ (hit_mono (hit_bd h) (fun r15 σ16 h => ?_))) okX1_emptyWeak mw_662 hL0 (cE_1 Ω 0 _) rfl rfl (Nat.le_of_ble_eq_true rfl) rfl rfl ⟨by decide, by decide⟩ ⟨Nat.zero_le _, Nat.zero_le _⟩ dX1_collectYoung_53
    refine R_aload_n (i := 0) dX1_collectYoung_56 rfl rfl ?_
    refine R_aload_n (i := 1) dX1_collectYoung_57 rfl rfl ?_
    refine R_callVv (ctX1_settle l Ω k1 hL0 hL1 _ _ (hit_mono (hit_bd h) (fun r17 σ18 h => ?_))) okX1_settle mw_684 hL0 (cE_1 Ω 0 _) rfl rfl (Nat.le_of_ble_eq_true rfl) rfl rfl ⟨by decide, by decide⟩ ⟨Nat.zero_le _, Nat.zero_le _⟩ dX1_collectYoung_58
    refine R_aload_n (i := 0) dX1_collectYoung_61 rfl rfl ?_
    refine R_aload_n (i := 1) dX1_collectYoung_62 rfl rfl ?_
    refine R_callVv (ctX1_dropRemembered l Ω k1 hL0 hL1 _ _ (hit_mono (hit_bd h) (fun r19 σ20 h => ?_))) okX1_dropRemembered mw_688 hL0 (cE_1 Ω 0 _) rfl rfl (Nat.le_of_ble_eq_true rfl) rfl rfl ⟨by decide, by decide⟩ ⟨Nat.zero_le _, Nat.zero_le _⟩ dX1_collectYoung_63
    refine R_aload_n (i := 0) dX1_collectYoung_66 rfl rfl ?_
    refine R_aload_n (i := 1) dX1_collectYoung_67 rfl rfl ?_
    refine R_callVv (ctX1_rememberMoved l Ω k1 hL0 hL1 _ _ (hit_mono (hit_bd h) (fun r21 σ22 h => ?_))) okX1_rememberMoved mw_702 hL0 (cE_1 Ω 0 _) rfl rfl (Nat.le_of_ble_eq_true rfl) rfl rfl ⟨by decide, by decide⟩ ⟨Nat.zero_le _, Nat.zero_le _⟩ dX1_collectYoung_68
    refine R_aload_n (i := 0) dX1_collectYoung_71 rfl rfl ?_
    refine R_aload_n (i := 1) dX1_collectYoung_72 rfl rfl ?_
    refine R_iconst (v := 0) dX1_collectYoung_73 rfl ?_
    refine R_callVv (ctX1_nameSlotsAnew l Ω k1 0 hL0 hL1 _ _ (hit_mono (hit_bd h) (fun r23 σ24 h => ?_))) okX1_nameSlotsAnew mw_706 hL0 (cE_1 Ω 0 _) rfl rfl (Nat.le_of_ble_eq_true rfl) rfl rfl ⟨by decide, by decide⟩ ⟨Nat.zero_le _, Nat.zero_le _⟩ dX1_collectYoung_74
    refine R_aload_n (i := 1) dX1_collectYoung_77 rfl rfl ?_
    refine R_aload_n (i := 0) dX1_collectYoung_78 rfl rfl ?_
    refine R_get foX1_27 hL0 (cE_1 Ω 0 _) rfl dX1_collectYoung_79 ?_
    refine R_callVv (ctX7_closeUp l Ω k1 hL1 (WF.kid hW 7 hL0 rfl) _ _ (hit_mono (hit_bd h) (fun r25 σ26 h => ?_))) okX7_closeUp mw_710 hL1 (cE_7 Ω k1 _) rfl rfl (Nat.le_of_ble_eq_true rfl) rfl rfl ⟨by decide, by decide⟩ ⟨Nat.zero_le _, Nat.zero_le _⟩ dX1_collectYoung_82
    refine R_aload_n (i := 1) dX1_collectYoung_85 rfl rfl ?_
    refine R_get foX1_93 hL1 (cE_7 Ω k1 _) rfl dX1_collectYoung_86 ?_
    refine R_iconst (v := 1) dX1_collectYoung_89 rfl ?_
    refine R_dup2 dX1_collectYoung_90 rfl rfl ?_
    refine R_iald (WF.kid hW 10 hL1 rfl) (cE_55 Ω k1 _) (vin 1 8 rfl) dX1_collectYoung_91 ?_
    refine R_iconst (v := 1) dX1_collectYoung_92 rfl ?_
    refine R_iadd dX1_collectYoung_93 ?_
    refine R_iast (WF.kid hW 10 hL1 rfl) (cE_55 Ω k1) (vin 1 8 rfl) dX1_collectYoung_94 ?_
    refine R_st h (fun σ27 h => ?_)
    refine R_aload_n (i := 0) dX1_collectYoung_95 rfl rfl ?_
    refine R_aload_n (i := 1) dX1_collectYoung_96 rfl rfl ?_
    refine R_iconst (v := 0) dX1_collectYoung_97 rfl ?_
    refine R_callVv (ctX1_addCounts l Ω k1 0 hL0 hL1 _ _ (hit_mono (hit_bd h) (fun r28 σ29 h => ?_))) okX1_addCounts mw_723 hL0 (cE_1 Ω 0 _) rfl rfl (Nat.le_of_ble_eq_true rfl) rfl rfl ⟨by decide, by decide⟩ ⟨Nat.zero_le _, Nat.zero_le _⟩ dX1_collectYoung_98
    refine R_iconst (v := 1) dX1_collectYoung_101 rfl ?_
    exact R_zret dX1_collectYoung_102 rfl (Or.inr rfl) h
  · have h := hit_f h hc
    refine R_iconst (v := 0) dX1_collectYoung_29 rfl ?_
    exact R_zret dX1_collectYoung_30 rfl (Or.inl rfl) h
set_option maxRecDepth 100000 in
set_option maxHeartbeats 4000000 in
theorem ctX4_copyFrom (l : Launch) (Ω : rO) (k0 : Nat) (k1 : Nat) (hL0 : oL Ω 4 k0) (hL1 : oL Ω 4 k1) (σ : rS) (K : Int32 → rS → Prop) (h : hit (fX4_copyFrom k0 k1 σ) K) : Ct l Ω yX4_copyFrom cX4_copyFrom 2 none rmX4_copyFrom [rf Ω 4 k0, rf Ω 4 k1] σ K := by
  refine Ct.of (own := RX4) (lv := [some (rf Ω 4 k0), some (rf Ω 4 k1)]) (by decide) rfl (Nat.le_of_ble_eq_true rfl) rfl (fun hW => ?_)
  unfold fX4_copyFrom at h
  refine R_aload_n (i := 0) dX4_copyFrom_0 rfl rfl ?_
  refine R_aload_n (i := 1) dX4_copyFrom_1 rfl rfl ?_
  refine R_get foX4_21 hL1 (cE_4 Ω k1 _) rfl dX4_copyFrom_2 ?_
  refine R_aload_n (i := 0) dX4_copyFrom_5 rfl rfl ?_
  refine R_get foX4_15 hL0 (cE_4 Ω k0 _) rfl dX4_copyFrom_6 ?_
  refine R_alen (v := nI (lnLen k0)) (WF.kid hW 0 hL0 rfl) (cE_28 Ω k0 _) (t0 := 0) rfl rfl dX4_copyFrom_9 ?_
  refine R_mmin mw_609 mw_442 mw_6 mw_443 (by decide) (Nat.le_of_ble_eq_true rfl) ⟨Nat.zero_le _, Nat.zero_le _⟩ dX4_copyFrom_10 ?_
  refine R_put poX4_21 hL0 (cE_4 Ω k0 _) (cP_4_1 Ω k0 _ _) (Nat.le_of_ble_eq_true rfl) dX4_copyFrom_13 ?_
  refine R_st h (fun σ1 h => ?_)
  refine R_aload_n (i := 1) dX4_copyFrom_16 rfl rfl ?_
  refine R_get foX4_15 hL1 (cE_4 Ω k1 _) rfl dX4_copyFrom_17 ?_
  refine R_iconst (v := 0) dX4_copyFrom_20 rfl ?_
  refine R_aload_n (i := 0) dX4_copyFrom_21 rfl rfl ?_
  refine R_get foX4_15 hL0 (cE_4 Ω k0 _) rfl dX4_copyFrom_22 ?_
  refine R_iconst (v := 0) dX4_copyFrom_25 rfl ?_
  refine R_aload_n (i := 0) dX4_copyFrom_26 rfl rfl ?_
  refine R_get foX4_21 hL0 (cE_4 Ω k0 _) rfl dX4_copyFrom_27 ?_
  obtain ⟨hb, h⟩ := hit_bcp h
  refine R_copy (WF.kid hW 0 hL1 rfl) (cE_28 Ω k1) (WF.kid hW 0 hL0 rfl) (cE_28 Ω k0) hb mw_610 mw_402 mw_401 mw_13 (by decide) (Nat.le_of_ble_eq_true rfl) dX4_copyFrom_30 ?_
  refine R_st h (fun σ2 h => ?_)
  exact R_vret dX4_copyFrom_33 rfl h
set_option maxRecDepth 100000 in
set_option maxHeartbeats 4000000 in
theorem ctX7_copyFrom (l : Launch) (Ω : rO) (k0 : Nat) (k1 : Nat) (hL0 : oL Ω 7 k0) (hL1 : oL Ω 7 k1) (σ : rS) (K : Int32 → rS → Prop) (h : hit (fX7_copyFrom k0 k1 σ) K) : Ct l Ω yX7_copyFrom cX7_copyFrom 2 none rmX7_copyFrom [rf Ω 7 k0, rf Ω 7 k1] σ K := by
  refine Ct.of (own := RX7) (lv := [some (rf Ω 7 k0), some (rf Ω 7 k1)]) (by decide) rfl (Nat.le_of_ble_eq_true rfl) rfl (fun hW => ?_)
  unfold fX7_copyFrom at h
  refine R_aload_n (i := 0) dX7_copyFrom_0 rfl rfl ?_
  refine R_aload_n (i := 1) dX7_copyFrom_1 rfl rfl ?_
  refine R_get foX7_75 hL1 (cE_7 Ω k1 _) rfl dX7_copyFrom_2 ?_
  refine R_put poX7_75 hL0 (cE_7 Ω k0 _) (cP_7_0 Ω k0 _ _) (Nat.le_of_ble_eq_true rfl) dX7_copyFrom_5 ?_
  refine R_st h (fun σ1 h => ?_)
  refine R_aload_n (i := 0) dX7_copyFrom_8 rfl rfl ?_
  refine R_aload_n (i := 1) dX7_copyFrom_9 rfl rfl ?_
  refine R_get foX7_79 hL1 (cE_7 Ω k1 _) rfl dX7_copyFrom_10 ?_
  refine R_put poX7_79 hL0 (cE_7 Ω k0 _) (cP_7_1 Ω k0 _ _) (Nat.le_of_ble_eq_true rfl) dX7_copyFrom_13 ?_
  refine R_st h (fun σ2 h => ?_)
  refine R_aload_n (i := 1) dX7_copyFrom_16 rfl rfl ?_
  refine R_get foX7_9 hL1 (cE_7 Ω k1 _) rfl dX7_copyFrom_17 ?_
  refine R_iconst (v := 0) dX7_copyFrom_20 rfl ?_
  refine R_aload_n (i := 0) dX7_copyFrom_21 rfl rfl ?_
  refine R_get foX7_9 hL0 (cE_7 Ω k0 _) rfl dX7_copyFrom_22 ?_
  refine R_iconst (v := 0) dX7_copyFrom_25 rfl ?_
  refine R_aload_n (i := 0) dX7_copyFrom_26 rfl rfl ?_
  refine R_get foX7_75 hL0 (cE_7 Ω k0 _) rfl dX7_copyFrom_27 ?_
  obtain ⟨hb, h⟩ := hit_bcp h
  refine R_copy (WF.kid hW 0 hL1 rfl) (cE_45 Ω k1) (WF.kid hW 0 hL0 rfl) (cE_45 Ω k0) hb mw_604 mw_402 mw_401 mw_13 (by decide) (Nat.le_of_ble_eq_true rfl) dX7_copyFrom_30 ?_
  refine R_st h (fun σ3 h => ?_)
  refine R_aload_n (i := 1) dX7_copyFrom_33 rfl rfl ?_
  refine R_get foX7_15 hL1 (cE_7 Ω k1 _) rfl dX7_copyFrom_34 ?_
  refine R_iconst (v := 0) dX7_copyFrom_37 rfl ?_
  refine R_aload_n (i := 0) dX7_copyFrom_38 rfl rfl ?_
  refine R_get foX7_15 hL0 (cE_7 Ω k0 _) rfl dX7_copyFrom_39 ?_
  refine R_iconst (v := 0) dX7_copyFrom_42 rfl ?_
  refine R_aload_n (i := 0) dX7_copyFrom_43 rfl rfl ?_
  refine R_get foX7_75 hL0 (cE_7 Ω k0 _) rfl dX7_copyFrom_44 ?_
  obtain ⟨hb, h⟩ := hit_bcp h
  refine R_copy (WF.kid hW 1 hL1 rfl) (cE_46 Ω k1) (WF.kid hW 1 hL0 rfl) (cE_46 Ω k0) hb mw_604 mw_402 mw_401 mw_13 (by decide) (Nat.le_of_ble_eq_true rfl) dX7_copyFrom_47 ?_
  refine R_st h (fun σ4 h => ?_)
  refine R_aload_n (i := 1) dX7_copyFrom_50 rfl rfl ?_
  refine R_get foX7_18 hL1 (cE_7 Ω k1 _) rfl dX7_copyFrom_51 ?_
  refine R_iconst (v := 0) dX7_copyFrom_54 rfl ?_
  refine R_aload_n (i := 0) dX7_copyFrom_55 rfl rfl ?_
  refine R_get foX7_18 hL0 (cE_7 Ω k0 _) rfl dX7_copyFrom_56 ?_
  refine R_iconst (v := 0) dX7_copyFrom_59 rfl ?_
  refine R_aload_n (i := 0) dX7_copyFrom_60 rfl rfl ?_
  refine R_get foX7_75 hL0 (cE_7 Ω k0 _) rfl dX7_copyFrom_61 ?_
  obtain ⟨hb, h⟩ := hit_bcp h
  refine R_copy (WF.kid hW 2 hL1 rfl) (cE_47 Ω k1) (WF.kid hW 2 hL0 rfl) (cE_47 Ω k0) hb mw_604 mw_402 mw_401 mw_13 (by decide) (Nat.le_of_ble_eq_true rfl) dX7_copyFrom_64 ?_
  refine R_st h (fun σ5 h => ?_)
  refine R_aload_n (i := 1) dX7_copyFrom_67 rfl rfl ?_
  refine R_get foX7_21 hL1 (cE_7 Ω k1 _) rfl dX7_copyFrom_68 ?_
  refine R_iconst (v := 0) dX7_copyFrom_71 rfl ?_
  refine R_aload_n (i := 0) dX7_copyFrom_72 rfl rfl ?_
  refine R_get foX7_21 hL0 (cE_7 Ω k0 _) rfl dX7_copyFrom_73 ?_
  refine R_iconst (v := 0) dX7_copyFrom_76 rfl ?_
  refine R_aload_n (i := 0) dX7_copyFrom_77 rfl rfl ?_
  refine R_get foX7_75 hL0 (cE_7 Ω k0 _) rfl dX7_copyFrom_78 ?_
  obtain ⟨hb, h⟩ := hit_bcp h
  refine R_copy (WF.kid hW 3 hL1 rfl) (cE_48 Ω k1) (WF.kid hW 3 hL0 rfl) (cE_48 Ω k0) hb mw_604 mw_402 mw_401 mw_13 (by decide) (Nat.le_of_ble_eq_true rfl) dX7_copyFrom_81 ?_
  refine R_st h (fun σ6 h => ?_)
  refine R_aload_n (i := 1) dX7_copyFrom_84 rfl rfl ?_
  refine R_get foX7_24 hL1 (cE_7 Ω k1 _) rfl dX7_copyFrom_85 ?_
  refine R_iconst (v := 0) dX7_copyFrom_88 rfl ?_
  refine R_aload_n (i := 0) dX7_copyFrom_89 rfl rfl ?_
  refine R_get foX7_24 hL0 (cE_7 Ω k0 _) rfl dX7_copyFrom_90 ?_
  refine R_iconst (v := 0) dX7_copyFrom_93 rfl ?_
  refine R_aload_n (i := 0) dX7_copyFrom_94 rfl rfl ?_
  refine R_get foX7_75 hL0 (cE_7 Ω k0 _) rfl dX7_copyFrom_95 ?_
  obtain ⟨hb, h⟩ := hit_bcp h
  refine R_copy (WF.kid hW 4 hL1 rfl) (cE_49 Ω k1) (WF.kid hW 4 hL0 rfl) (cE_49 Ω k0) hb mw_604 mw_402 mw_401 mw_13 (by decide) (Nat.le_of_ble_eq_true rfl) dX7_copyFrom_98 ?_
  refine R_st h (fun σ7 h => ?_)
  refine R_aload_n (i := 1) dX7_copyFrom_101 rfl rfl ?_
  refine R_get foX7_27 hL1 (cE_7 Ω k1 _) rfl dX7_copyFrom_102 ?_
  refine R_iconst (v := 0) dX7_copyFrom_105 rfl ?_
  refine R_aload_n (i := 0) dX7_copyFrom_106 rfl rfl ?_
  refine R_get foX7_27 hL0 (cE_7 Ω k0 _) rfl dX7_copyFrom_107 ?_
  refine R_iconst (v := 0) dX7_copyFrom_110 rfl ?_
  refine R_aload_n (i := 0) dX7_copyFrom_111 rfl rfl ?_
  refine R_get foX7_75 hL0 (cE_7 Ω k0 _) rfl dX7_copyFrom_112 ?_
  obtain ⟨hb, h⟩ := hit_bcp h
  refine R_copy (WF.kid hW 5 hL1 rfl) (cE_50 Ω k1) (WF.kid hW 5 hL0 rfl) (cE_50 Ω k0) hb mw_604 mw_402 mw_401 mw_13 (by decide) (Nat.le_of_ble_eq_true rfl) dX7_copyFrom_115 ?_
  refine R_st h (fun σ8 h => ?_)
  refine R_aload_n (i := 1) dX7_copyFrom_118 rfl rfl ?_
  refine R_get foX7_30 hL1 (cE_7 Ω k1 _) rfl dX7_copyFrom_119 ?_
  refine R_iconst (v := 0) dX7_copyFrom_122 rfl ?_
  refine R_aload_n (i := 0) dX7_copyFrom_123 rfl rfl ?_
  refine R_get foX7_30 hL0 (cE_7 Ω k0 _) rfl dX7_copyFrom_124 ?_
  refine R_iconst (v := 0) dX7_copyFrom_127 rfl ?_
  refine R_aload_n (i := 0) dX7_copyFrom_128 rfl rfl ?_
  refine R_get foX7_75 hL0 (cE_7 Ω k0 _) rfl dX7_copyFrom_129 ?_
  obtain ⟨hb, h⟩ := hit_bcp h
  refine R_copy (WF.kid hW 6 hL1 rfl) (cE_51 Ω k1) (WF.kid hW 6 hL0 rfl) (cE_51 Ω k0) hb mw_604 mw_402 mw_401 mw_13 (by decide) (Nat.le_of_ble_eq_true rfl) dX7_copyFrom_132 ?_
  refine R_st h (fun σ9 h => ?_)
  refine R_aload_n (i := 1) dX7_copyFrom_135 rfl rfl ?_
  refine R_get foX7_33 hL1 (cE_7 Ω k1 _) rfl dX7_copyFrom_136 ?_
  refine R_iconst (v := 0) dX7_copyFrom_139 rfl ?_
  refine R_aload_n (i := 0) dX7_copyFrom_140 rfl rfl ?_
  refine R_get foX7_33 hL0 (cE_7 Ω k0 _) rfl dX7_copyFrom_141 ?_
  refine R_iconst (v := 0) dX7_copyFrom_144 rfl ?_
  refine R_aload_n (i := 0) dX7_copyFrom_145 rfl rfl ?_
  refine R_get foX7_75 hL0 (cE_7 Ω k0 _) rfl dX7_copyFrom_146 ?_
  refine R_iconst (v := 4) dX7_copyFrom_149 rfl ?_
  refine R_imul dX7_copyFrom_150 ?_
  obtain ⟨hb, h⟩ := hit_bcp h
  refine R_copy (WF.kid hW 7 hL1 rfl) (cE_52 Ω k1) (WF.kid hW 7 hL0 rfl) (cE_52 Ω k0) hb mw_604 mw_402 mw_401 mw_13 (by decide) (Nat.le_of_ble_eq_true rfl) dX7_copyFrom_151 ?_
  refine R_st h (fun σ10 h => ?_)
  refine R_aload_n (i := 1) dX7_copyFrom_154 rfl rfl ?_
  refine R_get foX7_36 hL1 (cE_7 Ω k1 _) rfl dX7_copyFrom_155 ?_
  refine R_iconst (v := 0) dX7_copyFrom_158 rfl ?_
  refine R_aload_n (i := 0) dX7_copyFrom_159 rfl rfl ?_
  refine R_get foX7_36 hL0 (cE_7 Ω k0 _) rfl dX7_copyFrom_160 ?_
  refine R_iconst (v := 0) dX7_copyFrom_163 rfl ?_
  refine R_bipush (v := 8) dX7_copyFrom_164 rfl ?_
  obtain ⟨hb, h⟩ := hit_bcp h
  refine R_copy (WF.kid hW 8 hL1 rfl) (cE_53 Ω k1) (WF.kid hW 8 hL0 rfl) (cE_53 Ω k0) hb mw_604 mw_402 mw_401 mw_13 (by decide) (Nat.le_of_ble_eq_true rfl) dX7_copyFrom_166 ?_
  refine R_st h (fun σ11 h => ?_)
  refine R_aload_n (i := 1) dX7_copyFrom_169 rfl rfl ?_
  refine R_get foX7_39 hL1 (cE_7 Ω k1 _) rfl dX7_copyFrom_170 ?_
  refine R_iconst (v := 0) dX7_copyFrom_173 rfl ?_
  refine R_aload_n (i := 0) dX7_copyFrom_174 rfl rfl ?_
  refine R_get foX7_39 hL0 (cE_7 Ω k0 _) rfl dX7_copyFrom_175 ?_
  refine R_iconst (v := 0) dX7_copyFrom_178 rfl ?_
  refine R_iconst (v := 3) dX7_copyFrom_179 rfl ?_
  obtain ⟨hb, h⟩ := hit_bcp h
  refine R_copy (WF.kid hW 9 hL1 rfl) (cE_54 Ω k1) (WF.kid hW 9 hL0 rfl) (cE_54 Ω k0) hb mw_604 mw_402 mw_401 mw_13 (by decide) (Nat.le_of_ble_eq_true rfl) dX7_copyFrom_180 ?_
  refine R_st h (fun σ12 h => ?_)
  refine R_aload_n (i := 1) dX7_copyFrom_183 rfl rfl ?_
  refine R_get foX7_42 hL1 (cE_7 Ω k1 _) rfl dX7_copyFrom_184 ?_
  refine R_iconst (v := 0) dX7_copyFrom_187 rfl ?_
  refine R_aload_n (i := 0) dX7_copyFrom_188 rfl rfl ?_
  refine R_get foX7_42 hL0 (cE_7 Ω k0 _) rfl dX7_copyFrom_189 ?_
  refine R_iconst (v := 0) dX7_copyFrom_192 rfl ?_
  refine R_bipush (v := 8) dX7_copyFrom_193 rfl ?_
  obtain ⟨hb, h⟩ := hit_bcp h
  refine R_copy (WF.kid hW 10 hL1 rfl) (cE_55 Ω k1) (WF.kid hW 10 hL0 rfl) (cE_55 Ω k0) hb mw_604 mw_402 mw_401 mw_13 (by decide) (Nat.le_of_ble_eq_true rfl) dX7_copyFrom_195 ?_
  refine R_st h (fun σ13 h => ?_)
  refine R_aload_n (i := 0) dX7_copyFrom_198 rfl rfl ?_
  refine R_get foX7_50 hL0 (cE_7 Ω k0 _) rfl dX7_copyFrom_199 ?_
  refine R_aload_n (i := 1) dX7_copyFrom_202 rfl rfl ?_
  refine R_get foX7_50 hL1 (cE_7 Ω k1 _) rfl dX7_copyFrom_203 ?_
  refine R_callVv (ctX4_copyFrom l Ω (6 * k0 + 0) (6 * k1 + 0) (WF.kid hW 11 hL0 rfl) (WF.kid hW 11 hL1 rfl) _ _ (hit_mono (hit_bd h) (fun r14 σ15 h => ?_))) okX4_copyFrom mw_605 (WF.kid hW 11 hL0 rfl) (cE_4 Ω (6 * k0 + 0) _) rfl rfl (Nat.le_of_ble_eq_true rfl) rfl rfl ⟨by decide, by decide⟩ ⟨Nat.zero_le _, Nat.zero_le _⟩ dX7_copyFrom_206
  refine R_aload_n (i := 0) dX7_copyFrom_209 rfl rfl ?_
  refine R_get foX7_54 hL0 (cE_7 Ω k0 _) rfl dX7_copyFrom_210 ?_
  refine R_aload_n (i := 1) dX7_copyFrom_213 rfl rfl ?_
  refine R_get foX7_54 hL1 (cE_7 Ω k1 _) rfl dX7_copyFrom_214 ?_
  refine R_callVv (ctX4_copyFrom l Ω (6 * k0 + 1) (6 * k1 + 1) (WF.kid hW 12 hL0 rfl) (WF.kid hW 12 hL1 rfl) _ _ (hit_mono (hit_bd h) (fun r16 σ17 h => ?_))) okX4_copyFrom mw_605 (WF.kid hW 12 hL0 rfl) (cE_4 Ω (6 * k0 + 1) _) rfl rfl (Nat.le_of_ble_eq_true rfl) rfl rfl ⟨by decide, by decide⟩ ⟨Nat.zero_le _, Nat.zero_le _⟩ dX7_copyFrom_217
  refine R_aload_n (i := 0) dX7_copyFrom_220 rfl rfl ?_
  refine R_get foX7_57 hL0 (cE_7 Ω k0 _) rfl dX7_copyFrom_221 ?_
  refine R_aload_n (i := 1) dX7_copyFrom_224 rfl rfl ?_
  refine R_get foX7_57 hL1 (cE_7 Ω k1 _) rfl dX7_copyFrom_225 ?_
  refine R_callVv (ctX4_copyFrom l Ω (6 * k0 + 2) (6 * k1 + 2) (WF.kid hW 13 hL0 rfl) (WF.kid hW 13 hL1 rfl) _ _ (hit_mono (hit_bd h) (fun r18 σ19 h => ?_))) okX4_copyFrom mw_605 (WF.kid hW 13 hL0 rfl) (cE_4 Ω (6 * k0 + 2) _) rfl rfl (Nat.le_of_ble_eq_true rfl) rfl rfl ⟨by decide, by decide⟩ ⟨Nat.zero_le _, Nat.zero_le _⟩ dX7_copyFrom_228
  refine R_aload_n (i := 0) dX7_copyFrom_231 rfl rfl ?_
  refine R_get foX7_60 hL0 (cE_7 Ω k0 _) rfl dX7_copyFrom_232 ?_
  refine R_aload_n (i := 1) dX7_copyFrom_235 rfl rfl ?_
  refine R_get foX7_60 hL1 (cE_7 Ω k1 _) rfl dX7_copyFrom_236 ?_
  refine R_callVv (ctX4_copyFrom l Ω (6 * k0 + 3) (6 * k1 + 3) (WF.kid hW 14 hL0 rfl) (WF.kid hW 14 hL1 rfl) _ _ (hit_mono (hit_bd h) (fun r20 σ21 h => ?_))) okX4_copyFrom mw_605 (WF.kid hW 14 hL0 rfl) (cE_4 Ω (6 * k0 + 3) _) rfl rfl (Nat.le_of_ble_eq_true rfl) rfl rfl ⟨by decide, by decide⟩ ⟨Nat.zero_le _, Nat.zero_le _⟩ dX7_copyFrom_239
  refine R_aload_n (i := 0) dX7_copyFrom_242 rfl rfl ?_
  refine R_get foX7_63 hL0 (cE_7 Ω k0 _) rfl dX7_copyFrom_243 ?_
  refine R_aload_n (i := 1) dX7_copyFrom_246 rfl rfl ?_
  refine R_get foX7_63 hL1 (cE_7 Ω k1 _) rfl dX7_copyFrom_247 ?_
  refine R_callVv (ctX4_copyFrom l Ω (6 * k0 + 4) (6 * k1 + 4) (WF.kid hW 15 hL0 rfl) (WF.kid hW 15 hL1 rfl) _ _ (hit_mono (hit_bd h) (fun r22 σ23 h => ?_))) okX4_copyFrom mw_605 (WF.kid hW 15 hL0 rfl) (cE_4 Ω (6 * k0 + 4) _) rfl rfl (Nat.le_of_ble_eq_true rfl) rfl rfl ⟨by decide, by decide⟩ ⟨Nat.zero_le _, Nat.zero_le _⟩ dX7_copyFrom_250
  refine R_aload_n (i := 0) dX7_copyFrom_253 rfl rfl ?_
  refine R_get foX7_66 hL0 (cE_7 Ω k0 _) rfl dX7_copyFrom_254 ?_
  refine R_aload_n (i := 1) dX7_copyFrom_257 rfl rfl ?_
  refine R_get foX7_66 hL1 (cE_7 Ω k1 _) rfl dX7_copyFrom_258 ?_
  refine R_callVv (ctX4_copyFrom l Ω (6 * k0 + 5) (6 * k1 + 5) (WF.kid hW 16 hL0 rfl) (WF.kid hW 16 hL1 rfl) _ _ (hit_mono (hit_bd h) (fun r24 σ25 h => ?_))) okX4_copyFrom mw_605 (WF.kid hW 16 hL0 rfl) (cE_4 Ω (6 * k0 + 5) _) rfl rfl (Nat.le_of_ble_eq_true rfl) rfl rfl ⟨by decide, by decide⟩ ⟨Nat.zero_le _, Nat.zero_le _⟩ dX7_copyFrom_261
  exact R_vret dX7_copyFrom_264 rfl h
set_option maxRecDepth 100000 in
set_option maxHeartbeats 4000000 in
theorem ctX3_begin (l : Launch) (Ω : rO) (hL0 : oL Ω 3 0) (σ : rS) (K : Int32 → rS → Prop) (h : hit (fX3_begin  σ) K) : Ct l Ω yX3_begin cX3_begin 1 none rmX3_begin [rf Ω 3 0] σ K := by
  refine Ct.of (own := RX3) (lv := [some (rf Ω 3 0)]) (by decide) rfl (Nat.le_of_ble_eq_true rfl) rfl (fun hW => ?_)
  unfold fX3_begin at h
  refine R_aload_n (i := 0) dX3_begin_0 rfl rfl ?_
  refine R_get foX3_9 hL0 (cE_3 Ω 0 _) rfl dX3_begin_1 ?_
  refine R_iconst (v := 0) dX3_begin_4 rfl ?_
  refine R_callSv (ctJ7_fill_53178 l Ω 30 0 80 0 (WF.kid hW 0 hL0 rfl) (cE_30 Ω 0) _ _ (hit_mono (hit_bd h) (fun r1 σ2 h => ?_))) okJ7_fill_53178 mw_740 rfl rfl (Nat.le_of_ble_eq_true rfl) rfl rfl ⟨by decide, by decide⟩ ⟨Nat.zero_le _, Nat.zero_le _⟩ dX3_begin_5
  refine R_aload_n (i := 0) dX3_begin_8 rfl rfl ?_
  refine R_iconst (v := 0) dX3_begin_9 rfl ?_
  refine R_put poX3_39 hL0 (cE_3 Ω 0 _) (cP_3_7 Ω 0 _ _) (Nat.le_of_ble_eq_true rfl) dX3_begin_10 ?_
  refine R_st h (fun σ3 h => ?_)
  exact R_vret dX3_begin_13 rfl h
set_option maxRecDepth 100000 in
set_option maxHeartbeats 4000000 in
theorem rnX3_visit_j58 {l : Launch} {Ω : rO} (hW : WF Ω) (x1 : Int32) (x2 : Int32) (x3 : Int32) (z0 : Int32) (z1 : Int32) (hL0 : oL Ω 3 0) (hz2 : oL Ω 32 0) (σ : rS) {K : Int32 → rS → Prop}  (h : hit (fX3_visit_j58 x1 x2 x3 z0 z1 σ) K) : Run l Ω cX3_visit RX3 4 none rmX3_visit K 58 [some (rf Ω 3 0), some (.int x1), some (.int x2), some (.int x3)] [.int z0, .int z1, rf Ω 32 0] σ := by
  unfold fX3_visit_j58 at h
  obtain ⟨hb, h⟩ := hit_bnd h
  refine R_iast hz2 (cE_32 Ω 0) hb dX3_visit_58 ?_
  refine R_st h (fun σ2 h => ?_)
  refine R_aload_n (i := 0) dX3_visit_59 rfl rfl ?_
  refine R_get foX3_21 hL0 (cE_3 Ω 0 _) rfl dX3_visit_60 ?_
  refine R_iload_n (i := 1) dX3_visit_63 rfl rfl ?_
  refine R_iload_n (i := 2) dX3_visit_64 rfl rfl ?_
  obtain ⟨hb, h⟩ := hit_bnd h
  refine R_iast (WF.kid hW 3 hL0 rfl) (cE_33 Ω 0) hb dX3_visit_65 ?_
  refine R_st h (fun σ3 h => ?_)
  refine R_aload_n (i := 0) dX3_visit_66 rfl rfl ?_
  refine R_get foX3_24 hL0 (cE_3 Ω 0 _) rfl dX3_visit_67 ?_
  refine R_iload_n (i := 1) dX3_visit_70 rfl rfl ?_
  refine R_iload_n (i := 3) dX3_visit_71 rfl rfl ?_
  obtain ⟨hb, h⟩ := hit_bnd h
  refine R_iast (WF.kid hW 4 hL0 rfl) (cE_34 Ω 0) hb dX3_visit_72 ?_
  refine R_st h (fun σ4 h => ?_)
  refine R_aload_n (i := 0) dX3_visit_73 rfl rfl ?_
  refine R_get foX3_15 hL0 (cE_3 Ω 0 _) rfl dX3_visit_74 ?_
  refine R_aload_n (i := 0) dX3_visit_77 rfl rfl ?_
  refine R_get foX3_39 hL0 (cE_3 Ω 0 _) rfl dX3_visit_78 ?_
  refine R_iload_n (i := 1) dX3_visit_81 rfl rfl ?_
  obtain ⟨hb, h⟩ := hit_bnd h
  refine R_iast (WF.kid hW 1 hL0 rfl) (cE_31 Ω 0) hb dX3_visit_82 ?_
  refine R_st h (fun σ5 h => ?_)
  refine R_aload_n (i := 0) dX3_visit_83 rfl rfl ?_
  refine R_dup dX3_visit_84 rfl ?_
  refine R_get foX3_39 hL0 (cE_3 Ω 0 _) rfl dX3_visit_85 ?_
  refine R_iconst (v := 1) dX3_visit_88 rfl ?_
  refine R_iadd dX3_visit_89 ?_
  refine R_put poX3_39 hL0 (cE_3 Ω 0 _) (cP_3_7 Ω 0 _ _) (Nat.le_of_ble_eq_true rfl) dX3_visit_90 ?_
  refine R_st h (fun σ6 h => ?_)
  exact R_vret dX3_visit_93 rfl h
set_option maxRecDepth 100000 in
set_option maxHeartbeats 4000000 in
theorem ctX3_visit (l : Launch) (Ω : rO) (x1 : Int32) (x2 : Int32) (x3 : Int32) (hL0 : oL Ω 3 0) (σ : rS) (K : Int32 → rS → Prop) (h : hit (fX3_visit x1 x2 x3 σ) K) : Ct l Ω yX3_visit cX3_visit 4 none rmX3_visit [rf Ω 3 0, .int x1, .int x2, .int x3] σ K := by
  refine Ct.of (own := RX3) (lv := [some (rf Ω 3 0), some (.int x1), some (.int x2), some (.int x3)]) (by decide) rfl (Nat.le_of_ble_eq_true rfl) rfl (fun hW => ?_)
  unfold fX3_visit at h
  refine R_iload_n (i := 1) dX3_visit_0 rfl rfl ?_
  refine R_if_lt (tgt := 28) dX3_visit_1 (by decide) (fun hc => ?_) (fun hc => ?_)
  · have h := hit_t h hc
    exact R_vret dX3_visit_28 rfl h
  · have h := hit_f h hc
    refine R_iload_n (i := 1) dX3_visit_4 rfl rfl ?_
    refine R_bipush (v := 80) dX3_visit_5 rfl ?_
    refine R_icmp_ge (tgt := 28) dX3_visit_7 (by decide) (fun hc => ?_) (fun hc => ?_)
    · have h := hit_f h hc
      exact R_vret dX3_visit_28 rfl h
    · have h := hit_t h hc
      refine R_aload_n (i := 0) dX3_visit_10 rfl rfl ?_
      refine R_get foX3_9 hL0 (cE_3 Ω 0 _) rfl dX3_visit_11 ?_
      refine R_iload_n (i := 1) dX3_visit_14 rfl rfl ?_
      obtain ⟨hb, h⟩ := hit_bnd h
      refine R_iald (WF.kid hW 0 hL0 rfl) (cE_30 Ω 0 _) hb dX3_visit_15 ?_
      refine R_if_ne (tgt := 28) dX3_visit_16 (by decide) (fun hc => ?_) (fun hc => ?_)
      · have h := hit_f h hc
        exact R_vret dX3_visit_28 rfl h
      · have h := hit_t h hc
        refine R_aload_n (i := 0) dX3_visit_19 rfl rfl ?_
        refine R_get foX3_39 hL0 (cE_3 Ω 0 _) rfl dX3_visit_20 ?_
        refine R_bipush (v := 80) dX3_visit_23 rfl ?_
        refine R_icmp_lt (tgt := 29) dX3_visit_25 (by decide) (fun hc => ?_) (fun hc => ?_)
        · have h := hit_t h hc
          refine R_aload_n (i := 0) dX3_visit_29 rfl rfl ?_
          refine R_get foX3_9 hL0 (cE_3 Ω 0 _) rfl dX3_visit_30 ?_
          refine R_iload_n (i := 1) dX3_visit_33 rfl rfl ?_
          refine R_iconst (v := 1) dX3_visit_34 rfl ?_
          obtain ⟨hb, h⟩ := hit_bnd h
          refine R_iast (WF.kid hW 0 hL0 rfl) (cE_30 Ω 0) hb dX3_visit_35 ?_
          refine R_st h (fun σ1 h => ?_)
          refine R_aload_n (i := 0) dX3_visit_36 rfl rfl ?_
          refine R_get foX3_18 hL0 (cE_3 Ω 0 _) rfl dX3_visit_37 ?_
          refine R_iload_n (i := 1) dX3_visit_40 rfl rfl ?_
          refine R_iload_n (i := 2) dX3_visit_41 rfl rfl ?_
          refine R_iconst (v := (-1)) dX3_visit_42 rfl ?_
          refine R_icmp_ne (tgt := 50) dX3_visit_43 (by decide) (fun hc => ?_) (fun hc => ?_)
          · have h := hit_f h hc
            refine R_aload_n (i := 0) dX3_visit_50 rfl rfl ?_
            refine R_get foX3_18 hL0 (cE_3 Ω 0 _) rfl dX3_visit_51 ?_
            refine R_iload_n (i := 2) dX3_visit_54 rfl rfl ?_
            obtain ⟨hb, h⟩ := hit_bnd h
            refine R_iald (WF.kid hW 2 hL0 rfl) (cE_32 Ω 0 _) hb dX3_visit_55 ?_
            refine R_iconst (v := 1) dX3_visit_56 rfl ?_
            refine R_iadd dX3_visit_57 ?_
            exact rnX3_visit_j58 hW x1 x2 x3 ((σ1 32 0 (ix x2)) + 1) x1 hL0 (WF.kid hW 2 hL0 rfl) σ1  h
          · have h := hit_t h hc
            refine R_iconst (v := 0) dX3_visit_46 rfl ?_
            refine R_goto (tgt := 58) dX3_visit_47 (by decide) ?_
            exact rnX3_visit_j58 hW x1 x2 x3 0 x1 hL0 (WF.kid hW 2 hL0 rfl) σ1  h
        · have h := hit_f h hc
          exact R_vret dX3_visit_28 rfl h
set_option maxRecDepth 100000 in
set_option maxHeartbeats 4000000 in
theorem rsX3_spread_L32 {l : Launch} {Ω : rO} (hW : WF Ω) (k1 : Nat) (x3 : Int32) (x4 : Int32) (x5 : Int32) (hL0 : oL Ω 3 0) (hL1 : oL Ω 7 k1) (σ : rS) {K : Int32 → rS → Prop} {K0 : (Int32 ⊕ Unit) → rS → Prop} (hC : ∀ (x5 : Int32) (σ : rS), K0 (.inl x5) σ → Run l Ω cX3_spread RX3 6 none rmX3_spread K 32 [some (rf Ω 3 0), some (rf Ω 7 k1), none, some (.int x3), some (.int x4), some (.int x5)] [] σ) (hE0 : ∀ (e : Unit) (σ : rS), K0 (.inr e) σ → Run l Ω cX3_spread RX3 6 none rmX3_spread K 65 [some (rf Ω 3 0), some (rf Ω 7 k1), none, some (.int x3), none, none] [] σ) (h : hit (fX3_spread_L32 k1 x3 x4 x5 σ) K0) : Run l Ω cX3_spread RX3 6 none rmX3_spread K 32 [some (rf Ω 3 0), some (rf Ω 7 k1), none, some (.int x3), some (.int x4), some (.int x5)] [] σ := by
  unfold fX3_spread_L32 at h
  refine R_iload (i := 5) dX3_spread_32 rfl ?_
  refine R_aload_n (i := 1) dX3_spread_34 rfl rfl ?_
  refine R_iload (i := 4) dX3_spread_35 rfl ?_
  refine R_callVi (ctX7_fieldsOf l Ω k1 x4 hL1 _ _ (hit_mono (hit_bd h) (fun r4 σ5 h => ?_))) okX7_fieldsOf mw_751 hL1 (cE_7 Ω k1 _) rfl rfl (Nat.le_of_ble_eq_true rfl) rfl rfl ⟨by decide, by decide⟩ ⟨Nat.zero_le _, Nat.zero_le _⟩ dX3_spread_37
  refine R_icmp_ge (tgt := 65) dX3_spread_40 (by decide) (fun hc => ?_) (fun hc => ?_)
  · have h := hit_f h hc
    refine R_drop (lv2 := [some (rf Ω 3 0), some (rf Ω 7 k1), none, some (.int x3), none, some (.int x5)]) 4 rfl ?_
    refine R_drop (lv2 := [some (rf Ω 3 0), some (rf Ω 7 k1), none, some (.int x3), none, none]) 5 rfl ?_
    exact hE0 () σ5 h
  · have h := hit_t h hc
    refine R_aload_n (i := 0) dX3_spread_43 rfl rfl ?_
    refine R_aload_n (i := 1) dX3_spread_44 rfl rfl ?_
    refine R_iload (i := 4) dX3_spread_45 rfl ?_
    refine R_iload (i := 5) dX3_spread_47 rfl ?_
    refine R_callVi (ctX7_target l Ω k1 x4 x5 hL1 _ _ (hit_mono (hit_bd h) (fun r6 σ7 h => ?_))) okX7_target mw_752 hL1 (cE_7 Ω k1 _) rfl rfl (Nat.le_of_ble_eq_true rfl) rfl rfl ⟨by decide, by decide⟩ ⟨Nat.zero_le _, Nat.zero_le _⟩ dX3_spread_49
    refine R_iload (i := 4) dX3_spread_52 rfl ?_
    refine R_iload (i := 5) dX3_spread_54 rfl ?_
    refine R_callVv (ctX3_visit l Ω r6 x4 x5 hL0 _ _ (hit_mono (hit_bd h) (fun r8 σ9 h => ?_))) okX3_visit mw_741 hL0 (cE_3 Ω 0 _) rfl rfl (Nat.le_of_ble_eq_true rfl) rfl rfl ⟨by decide, by decide⟩ ⟨Nat.zero_le _, Nat.zero_le _⟩ dX3_spread_56
    refine R_iinc (v := x5 + 1) (lv2 := [some (rf Ω 3 0), some (rf Ω 7 k1), none, some (.int x3), some (.int x4), some (.int (x5 + 1))]) dX3_spread_59 rfl rfl (by decide) rfl rfl ?_
    refine R_goto (tgt := 32) dX3_spread_62 (by decide) ?_
    exact hC (x5 + 1) σ9 h
set_option maxRecDepth 100000 in
set_option maxHeartbeats 4000000 in
theorem rlX3_spread_L32 {l : Launch} {Ω : rO} (hW : WF Ω) (k1 : Nat) (x3 : Int32) (x4 : Int32) (hL0 : oL Ω 3 0) (hL1 : oL Ω 7 k1) {K : Int32 → rS → Prop} {KE : Unit → rS → Prop} (hE0 : ∀ (e : Unit) (σ : rS), KE e σ → Run l Ω cX3_spread RX3 6 none rmX3_spread K 65 [some (rf Ω 3 0), some (rf Ω 7 k1), none, some (.int x3), none, none] [] σ) : ∀ (n : Nat) (x5 : Int32) (σ : rS), hit (lp (fun (x : Int32) σ => fX3_spread_L32 k1 x3 x4 x σ) n x5 σ) KE → Run l Ω cX3_spread RX3 6 none rmX3_spread K 32 [some (rf Ω 3 0), some (rf Ω 7 k1), none, some (.int x3), some (.int x4), some (.int x5)] [] σ := by
  intro n
  induction n with
  | zero => intro x5 σ h; exact (h : False).elim
  | succ n ih =>
    intro x5 σ h
    exact rsX3_spread_L32 hW k1 x3 x4 x5 hL0 hL1 σ (fun x5 σ h => ih x5 σ h) (fun e σ h => hE0 e σ h) (hit_lp h)
set_option maxRecDepth 100000 in
set_option maxHeartbeats 4000000 in
theorem rsX3_spread_L2 {l : Launch} {Ω : rO} (hW : WF Ω) (k1 : Nat) (x3 : Int32) (hL0 : oL Ω 3 0) (hL1 : oL Ω 7 k1) (σ : rS) {K : Int32 → rS → Prop} {K0 : (Int32 ⊕ Unit) → rS → Prop} (hC : ∀ (x3 : Int32) (σ : rS), K0 (.inl x3) σ → Run l Ω cX3_spread RX3 6 none rmX3_spread K 2 [some (rf Ω 3 0), some (rf Ω 7 k1), none, some (.int x3), none, none] [] σ) (hE0 : ∀ (e : Unit) (σ : rS), K0 (.inr e) σ → Run l Ω cX3_spread RX3 6 none rmX3_spread K 71 [none, none, none, none, none, none] [] σ) (h : hit (fX3_spread_L2 k1 x3 σ) K0) : Run l Ω cX3_spread RX3 6 none rmX3_spread K 2 [some (rf Ω 3 0), some (rf Ω 7 k1), none, some (.int x3), none, none] [] σ := by
  unfold fX3_spread_L2 at h
  refine R_iload_n (i := 3) dX3_spread_2 rfl rfl ?_
  refine R_aload_n (i := 0) dX3_spread_3 rfl rfl ?_
  refine R_get foX3_39 hL0 (cE_3 Ω 0 _) rfl dX3_spread_4 ?_
  refine R_icmp_ge (tgt := 71) dX3_spread_7 (by decide) (fun hc => ?_) (fun hc => ?_)
  · have h := hit_f h hc
    refine R_drop (lv2 := [none, some (rf Ω 7 k1), none, some (.int x3), none, none]) 0 rfl ?_
    refine R_drop (lv2 := [none, none, none, some (.int x3), none, none]) 1 rfl ?_
    refine R_drop (lv2 := [none, none, none, none, none, none]) 3 rfl ?_
    exact hE0 () σ h
  · have h := hit_t h hc
    refine R_iload_n (i := 3) dX3_spread_10 rfl rfl ?_
    refine R_bipush (v := 80) dX3_spread_11 rfl ?_
    refine R_icmp_ge (tgt := 71) dX3_spread_13 (by decide) (fun hc => ?_) (fun hc => ?_)
    · have h := hit_f h hc
      refine R_drop (lv2 := [none, some (rf Ω 7 k1), none, some (.int x3), none, none]) 0 rfl ?_
      refine R_drop (lv2 := [none, none, none, some (.int x3), none, none]) 1 rfl ?_
      refine R_drop (lv2 := [none, none, none, none, none, none]) 3 rfl ?_
      exact hE0 () σ h
    · have h := hit_t h hc
      refine R_aload_n (i := 0) dX3_spread_16 rfl rfl ?_
      refine R_get foX3_15 hL0 (cE_3 Ω 0 _) rfl dX3_spread_17 ?_
      refine R_iload_n (i := 3) dX3_spread_20 rfl rfl ?_
      obtain ⟨hb, h⟩ := hit_bnd h
      refine R_iald (WF.kid hW 1 hL0 rfl) (cE_31 Ω 0 _) hb dX3_spread_21 ?_
      refine R_topi h (fun y1 h => ?_)
      refine R_istore (lv2 := [some (rf Ω 3 0), some (rf Ω 7 k1), none, some (.int x3), some (.int y1), none]) dX3_spread_22 (by decide) rfl rfl ?_
      refine R_aload_n (i := 1) dX3_spread_24 rfl rfl ?_
      refine R_iload (i := 4) dX3_spread_25 rfl ?_
      refine R_callVi (ctX7_firstStrong l Ω k1 y1 hL1 _ _ (hit_mono (hit_bd h) (fun r2 σ3 h => ?_))) okX7_firstStrong mw_750 hL1 (cE_7 Ω k1 _) rfl rfl (Nat.le_of_ble_eq_true rfl) rfl rfl ⟨by decide, by decide⟩ ⟨Nat.zero_le _, Nat.zero_le _⟩ dX3_spread_27
      refine R_istore (lv2 := [some (rf Ω 3 0), some (rf Ω 7 k1), none, some (.int x3), some (.int y1), some (.int r2)]) dX3_spread_30 (by decide) rfl rfl ?_
      refine rlX3_spread_L32 hW k1 x3 y1 hL0 hL1 ?_ fu r2 σ3 (hit_bd h)
      · intro e11 σ10 h
        try dsimp only at h
        refine R_iinc (v := x3 + 1) (lv2 := [some (rf Ω 3 0), some (rf Ω 7 k1), none, some (.int (x3 + 1)), none, none]) dX3_spread_65 rfl rfl (by decide) rfl rfl ?_
        refine R_goto (tgt := 2) dX3_spread_68 (by decide) ?_
        exact hC (x3 + 1) σ10 h
set_option maxRecDepth 100000 in
set_option maxHeartbeats 4000000 in
theorem rlX3_spread_L2 {l : Launch} {Ω : rO} (hW : WF Ω) (k1 : Nat) (hL0 : oL Ω 3 0) (hL1 : oL Ω 7 k1) {K : Int32 → rS → Prop} {KE : Unit → rS → Prop} (hE0 : ∀ (e : Unit) (σ : rS), KE e σ → Run l Ω cX3_spread RX3 6 none rmX3_spread K 71 [none, none, none, none, none, none] [] σ) : ∀ (n : Nat) (x3 : Int32) (σ : rS), hit (lp (fun (x : Int32) σ => fX3_spread_L2 k1 x σ) n x3 σ) KE → Run l Ω cX3_spread RX3 6 none rmX3_spread K 2 [some (rf Ω 3 0), some (rf Ω 7 k1), none, some (.int x3), none, none] [] σ := by
  intro n
  induction n with
  | zero => intro x3 σ h; exact (h : False).elim
  | succ n ih =>
    intro x3 σ h
    exact rsX3_spread_L2 hW k1 x3 hL0 hL1 σ (fun x3 σ h => ih x3 σ h) (fun e σ h => hE0 e σ h) (hit_lp h)
set_option maxRecDepth 100000 in
set_option maxHeartbeats 4000000 in
theorem ctX3_spread (l : Launch) (Ω : rO) (k1 : Nat) (x2 : Int32) (hL0 : oL Ω 3 0) (hL1 : oL Ω 7 k1) (σ : rS) (K : Int32 → rS → Prop) (h : hit (fX3_spread k1 x2 σ) K) : Ct l Ω yX3_spread cX3_spread 6 none rmX3_spread [rf Ω 3 0, rf Ω 7 k1, .int x2] σ K := by
  refine Ct.of (own := RX3) (lv := [some (rf Ω 3 0), some (rf Ω 7 k1), some (.int x2), none, none, none]) (by decide) rfl (Nat.le_of_ble_eq_true rfl) rfl (fun hW => ?_)
  unfold fX3_spread at h
  refine R_iload_n (i := 2) dX3_spread_0 rfl rfl ?_
  refine R_istore_n (lv2 := [some (rf Ω 3 0), some (rf Ω 7 k1), some (.int x2), some (.int x2), none, none]) dX3_spread_1 rfl (by decide) rfl rfl ?_
  refine R_drop (lv2 := [some (rf Ω 3 0), some (rf Ω 7 k1), none, some (.int x2), none, none]) 2 rfl ?_
  refine rlX3_spread_L2 hW k1 hL0 hL1 ?_ fu x2 σ (hit_bd h)
  · intro e13 σ12 h
    try dsimp only at h
    exact R_vret dX3_spread_71 rfl h
set_option maxRecDepth 100000 in
set_option maxHeartbeats 4000000 in
theorem rnX3_reach_j29L6 {l : Launch} {Ω : rO} (hW : WF Ω) (k1 : Nat) (x2 : Int32) (x3 : Int32) (hL0 : oL Ω 3 0) (hL1 : oL Ω 7 k1) (σ : rS) {K : Int32 → rS → Prop} {K0 : (Int32 ⊕ Unit) → rS → Prop} (hC : ∀ (x3 : Int32) (σ : rS), K0 (.inl x3) σ → Run l Ω cX3_reach RX3 4 none rmX3_reach K 6 [some (rf Ω 3 0), some (rf Ω 7 k1), some (.int x2), some (.int x3)] [] σ) (hE0 : ∀ (e : Unit) (σ : rS), K0 (.inr e) σ → Run l Ω cX3_reach RX3 4 none rmX3_reach K 35 [some (rf Ω 3 0), some (rf Ω 7 k1), none, none] [] σ) (h : hit (fX3_reach_j29L6 k1 x2 x3 σ) K0) : Run l Ω cX3_reach RX3 4 none rmX3_reach K 29 [some (rf Ω 3 0), some (rf Ω 7 k1), some (.int x2), some (.int x3)] [] σ := by
  unfold fX3_reach_j29L6 at h
  refine R_iinc (v := x3 + 1) (lv2 := [some (rf Ω 3 0), some (rf Ω 7 k1), some (.int x2), some (.int (x3 + 1))]) dX3_reach_29 rfl rfl (by decide) rfl rfl ?_
  refine R_goto (tgt := 6) dX3_reach_32 (by decide) ?_
  exact hC (x3 + 1) σ h
set_option maxRecDepth 100000 in
set_option maxHeartbeats 4000000 in
theorem rsX3_reach_L6 {l : Launch} {Ω : rO} (hW : WF Ω) (k1 : Nat) (x2 : Int32) (x3 : Int32) (hL0 : oL Ω 3 0) (hL1 : oL Ω 7 k1) (σ : rS) {K : Int32 → rS → Prop} {K0 : (Int32 ⊕ Unit) → rS → Prop} (hC : ∀ (x3 : Int32) (σ : rS), K0 (.inl x3) σ → Run l Ω cX3_reach RX3 4 none rmX3_reach K 6 [some (rf Ω 3 0), some (rf Ω 7 k1), some (.int x2), some (.int x3)] [] σ) (hE0 : ∀ (e : Unit) (σ : rS), K0 (.inr e) σ → Run l Ω cX3_reach RX3 4 none rmX3_reach K 35 [some (rf Ω 3 0), some (rf Ω 7 k1), none, none] [] σ) (h : hit (fX3_reach_L6 k1 x2 x3 σ) K0) : Run l Ω cX3_reach RX3 4 none rmX3_reach K 6 [some (rf Ω 3 0), some (rf Ω 7 k1), some (.int x2), some (.int x3)] [] σ := by
  unfold fX3_reach_L6 at h
  refine R_iload_n (i := 3) dX3_reach_6 rfl rfl ?_
  refine R_bipush (v := 8) dX3_reach_7 rfl ?_
  refine R_icmp_ge (tgt := 35) dX3_reach_9 (by decide) (fun hc => ?_) (fun hc => ?_)
  · have h := hit_f h hc
    refine R_drop (lv2 := [some (rf Ω 3 0), some (rf Ω 7 k1), none, some (.int x3)]) 2 rfl ?_
    refine R_drop (lv2 := [some (rf Ω 3 0), some (rf Ω 7 k1), none, none]) 3 rfl ?_
    exact hE0 () σ h
  · have h := hit_t h hc
    refine R_iload_n (i := 3) dX3_reach_12 rfl rfl ?_
    refine R_iload_n (i := 2) dX3_reach_13 rfl rfl ?_
    refine R_icmp_eq (tgt := 29) dX3_reach_14 (by decide) (fun hc => ?_) (fun hc => ?_)
    · have h := hit_t h hc
      exact rnX3_reach_j29L6 hW k1 x2 x3 hL0 hL1 σ hC hE0 h
    · have h := hit_f h hc
      refine R_aload_n (i := 0) dX3_reach_17 rfl rfl ?_
      refine R_aload_n (i := 1) dX3_reach_18 rfl rfl ?_
      refine R_get foX3_63 hL1 (cE_7 Ω k1 _) rfl dX3_reach_19 ?_
      refine R_iload_n (i := 3) dX3_reach_22 rfl rfl ?_
      obtain ⟨hb, h⟩ := hit_bnd h
      refine R_iald (WF.kid hW 8 hL1 rfl) (cE_53 Ω k1 _) hb dX3_reach_23 ?_
      refine R_iconst (v := (-1)) dX3_reach_24 rfl ?_
      refine R_iconst (v := (-1)) dX3_reach_25 rfl ?_
      refine R_callVv (ctX3_visit l Ω (σ 53 k1 (ix x3)) (-1) (-1) hL0 _ _ (hit_mono (hit_bd h) (fun r3 σ4 h => ?_))) okX3_visit mw_741 hL0 (cE_3 Ω 0 _) rfl rfl (Nat.le_of_ble_eq_true rfl) rfl rfl ⟨by decide, by decide⟩ ⟨Nat.zero_le _, Nat.zero_le _⟩ dX3_reach_26
      exact rnX3_reach_j29L6 hW k1 x2 x3 hL0 hL1 σ4 hC hE0 h
set_option maxRecDepth 100000 in
set_option maxHeartbeats 4000000 in
theorem rlX3_reach_L6 {l : Launch} {Ω : rO} (hW : WF Ω) (k1 : Nat) (x2 : Int32) (hL0 : oL Ω 3 0) (hL1 : oL Ω 7 k1) {K : Int32 → rS → Prop} {KE : Unit → rS → Prop} (hE0 : ∀ (e : Unit) (σ : rS), KE e σ → Run l Ω cX3_reach RX3 4 none rmX3_reach K 35 [some (rf Ω 3 0), some (rf Ω 7 k1), none, none] [] σ) : ∀ (n : Nat) (x3 : Int32) (σ : rS), hit (lp (fun (x : Int32) σ => fX3_reach_L6 k1 x2 x σ) n x3 σ) KE → Run l Ω cX3_reach RX3 4 none rmX3_reach K 6 [some (rf Ω 3 0), some (rf Ω 7 k1), some (.int x2), some (.int x3)] [] σ := by
  intro n
  induction n with
  | zero => intro x3 σ h; exact (h : False).elim
  | succ n ih =>
    intro x3 σ h
    exact rsX3_reach_L6 hW k1 x2 x3 hL0 hL1 σ (fun x3 σ h => ih x3 σ h) (fun e σ h => hE0 e σ h) (hit_lp h)
set_option maxRecDepth 100000 in
set_option maxHeartbeats 4000000 in
theorem rsX3_reach_L37 {l : Launch} {Ω : rO} (hW : WF Ω) (k1 : Nat) (x3 : Int32) (hL0 : oL Ω 3 0) (hL1 : oL Ω 7 k1) (σ : rS) {K : Int32 → rS → Prop} {K0 : (Int32 ⊕ Unit) → rS → Prop} (hC : ∀ (x3 : Int32) (σ : rS), K0 (.inl x3) σ → Run l Ω cX3_reach RX3 4 none rmX3_reach K 37 [some (rf Ω 3 0), some (rf Ω 7 k1), none, some (.int x3)] [] σ) (hE0 : ∀ (e : Unit) (σ : rS), K0 (.inr e) σ → Run l Ω cX3_reach RX3 4 none rmX3_reach K 68 [some (rf Ω 3 0), some (rf Ω 7 k1), none, none] [] σ) (h : hit (fX3_reach_L37 k1 x3 σ) K0) : Run l Ω cX3_reach RX3 4 none rmX3_reach K 37 [some (rf Ω 3 0), some (rf Ω 7 k1), none, some (.int x3)] [] σ := by
  unfold fX3_reach_L37 at h
  refine R_iload_n (i := 3) dX3_reach_37 rfl rfl ?_
  refine R_aload_n (i := 1) dX3_reach_38 rfl rfl ?_
  refine R_get foX3_66 hL1 (cE_7 Ω k1 _) rfl dX3_reach_39 ?_
  refine R_get foX3_70 (WF.kid hW 11 hL1 rfl) (cE_4 Ω (6 * k1 + 0) _) rfl dX3_reach_42 ?_
  refine R_icmp_ge (tgt := 68) dX3_reach_45 (by decide) (fun hc => ?_) (fun hc => ?_)
  · have h := hit_f h hc
    refine R_drop (lv2 := [some (rf Ω 3 0), some (rf Ω 7 k1), none, none]) 3 rfl ?_
    exact hE0 () σ h
  · have h := hit_t h hc
    refine R_aload_n (i := 0) dX3_reach_48 rfl rfl ?_
    refine R_aload_n (i := 1) dX3_reach_49 rfl rfl ?_
    refine R_get foX3_66 hL1 (cE_7 Ω k1 _) rfl dX3_reach_50 ?_
    refine R_iload_n (i := 3) dX3_reach_53 rfl rfl ?_
    refine R_callVi (ctX4_get l Ω (6 * k1 + 0) x3 (WF.kid hW 11 hL1 rfl) _ _ (hit_mono (hit_bd h) (fun r7 σ8 h => ?_))) okX4_get mw_745 (WF.kid hW 11 hL1 rfl) (cE_4 Ω (6 * k1 + 0) _) rfl rfl (Nat.le_of_ble_eq_true rfl) rfl rfl ⟨by decide, by decide⟩ ⟨Nat.zero_le _, Nat.zero_le _⟩ dX3_reach_54
    refine R_iconst (v := (-1)) dX3_reach_57 rfl ?_
    refine R_iconst (v := (-1)) dX3_reach_58 rfl ?_
    refine R_callVv (ctX3_visit l Ω r7 (-1) (-1) hL0 _ _ (hit_mono (hit_bd h) (fun r9 σ10 h => ?_))) okX3_visit mw_741 hL0 (cE_3 Ω 0 _) rfl rfl (Nat.le_of_ble_eq_true rfl) rfl rfl ⟨by decide, by decide⟩ ⟨Nat.zero_le _, Nat.zero_le _⟩ dX3_reach_59
    refine R_iinc (v := x3 + 1) (lv2 := [some (rf Ω 3 0), some (rf Ω 7 k1), none, some (.int (x3 + 1))]) dX3_reach_62 rfl rfl (by decide) rfl rfl ?_
    refine R_goto (tgt := 37) dX3_reach_65 (by decide) ?_
    exact hC (x3 + 1) σ10 h
set_option maxRecDepth 100000 in
set_option maxHeartbeats 4000000 in
theorem rlX3_reach_L37 {l : Launch} {Ω : rO} (hW : WF Ω) (k1 : Nat) (hL0 : oL Ω 3 0) (hL1 : oL Ω 7 k1) {K : Int32 → rS → Prop} {KE : Unit → rS → Prop} (hE0 : ∀ (e : Unit) (σ : rS), KE e σ → Run l Ω cX3_reach RX3 4 none rmX3_reach K 68 [some (rf Ω 3 0), some (rf Ω 7 k1), none, none] [] σ) : ∀ (n : Nat) (x3 : Int32) (σ : rS), hit (lp (fun (x : Int32) σ => fX3_reach_L37 k1 x σ) n x3 σ) KE → Run l Ω cX3_reach RX3 4 none rmX3_reach K 37 [some (rf Ω 3 0), some (rf Ω 7 k1), none, some (.int x3)] [] σ := by
  intro n
  induction n with
  | zero => intro x3 σ h; exact (h : False).elim
  | succ n ih =>
    intro x3 σ h
    exact rsX3_reach_L37 hW k1 x3 hL0 hL1 σ (fun x3 σ h => ih x3 σ h) (fun e σ h => hE0 e σ h) (hit_lp h)
set_option maxRecDepth 100000 in
set_option maxHeartbeats 4000000 in
theorem ctX3_reach (l : Launch) (Ω : rO) (k1 : Nat) (x2 : Int32) (hL0 : oL Ω 3 0) (hL1 : oL Ω 7 k1) (σ : rS) (K : Int32 → rS → Prop) (h : hit (fX3_reach k1 x2 σ) K) : Ct l Ω yX3_reach cX3_reach 4 none rmX3_reach [rf Ω 3 0, rf Ω 7 k1, .int x2] σ K := by
  refine Ct.of (own := RX3) (lv := [some (rf Ω 3 0), some (rf Ω 7 k1), some (.int x2), none]) (by decide) rfl (Nat.le_of_ble_eq_true rfl) rfl (fun hW => ?_)
  unfold fX3_reach at h
  refine R_aload_n (i := 0) dX3_reach_0 rfl rfl ?_
  refine R_callVv (ctX3_begin l Ω hL0 _ _ (hit_mono (hit_bd h) (fun r1 σ2 h => ?_))) okX3_begin mw_736 hL0 (cE_3 Ω 0 _) rfl rfl (Nat.le_of_ble_eq_true rfl) rfl rfl ⟨by decide, by decide⟩ ⟨Nat.zero_le _, Nat.zero_le _⟩ dX3_reach_1
  refine R_iconst (v := 0) dX3_reach_4 rfl ?_
  refine R_istore_n (lv2 := [some (rf Ω 3 0), some (rf Ω 7 k1), some (.int x2), some (.int 0)]) dX3_reach_5 rfl (by decide) rfl rfl ?_
  refine rlX3_reach_L6 hW k1 x2 hL0 hL1 ?_ fu 0 σ2 (hit_bd h)
  · intro e6 σ5 h
    try dsimp only at h
    refine R_iconst (v := 0) dX3_reach_35 rfl ?_
    refine R_istore_n (lv2 := [some (rf Ω 3 0), some (rf Ω 7 k1), none, some (.int 0)]) dX3_reach_36 rfl (by decide) rfl rfl ?_
    refine rlX3_reach_L37 hW k1 hL0 hL1 ?_ fu 0 σ5 (hit_bd h)
    · intro e12 σ11 h
      try dsimp only at h
      refine R_aload_n (i := 0) dX3_reach_68 rfl rfl ?_
      refine R_aload_n (i := 1) dX3_reach_69 rfl rfl ?_
      refine R_iconst (v := 0) dX3_reach_70 rfl ?_
      refine R_callVv (ctX3_spread l Ω k1 0 hL0 hL1 _ _ (hit_mono (hit_bd h) (fun r13 σ14 h => ?_))) okX3_spread mw_746 hL0 (cE_3 Ω 0 _) rfl rfl (Nat.le_of_ble_eq_true rfl) rfl rfl ⟨by decide, by decide⟩ ⟨Nat.zero_le _, Nat.zero_le _⟩ dX3_reach_71
      exact R_vret dX3_reach_74 rfl h
set_option maxRecDepth 100000 in
set_option maxHeartbeats 4000000 in
theorem ctX3_isSeen (l : Launch) (Ω : rO) (x1 : Int32) (hL0 : oL Ω 3 0) (σ : rS) (K : Int32 → rS → Prop) (h : hit (fX3_isSeen x1 σ) K) : Ct l Ω yX3_isSeen cX3_isSeen 2 (some .boolean) rmX3_isSeen [rf Ω 3 0, .int x1] σ K := by
  refine Ct.of (own := RX3) (lv := [some (rf Ω 3 0), some (.int x1)]) (by decide) rfl (Nat.le_of_ble_eq_true rfl) rfl (fun hW => ?_)
  unfold fX3_isSeen at h
  refine R_iload_n (i := 1) dX3_isSeen_0 rfl rfl ?_
  refine R_if_lt (tgt := 23) dX3_isSeen_1 (by decide) (fun hc => ?_) (fun hc => ?_)
  · have h := hit_t h hc
    refine R_iconst (v := 0) dX3_isSeen_23 rfl ?_
    exact R_zret dX3_isSeen_24 rfl (Or.inl rfl) h
  · have h := hit_f h hc
    refine R_iload_n (i := 1) dX3_isSeen_4 rfl rfl ?_
    refine R_bipush (v := 80) dX3_isSeen_5 rfl ?_
    refine R_icmp_ge (tgt := 23) dX3_isSeen_7 (by decide) (fun hc => ?_) (fun hc => ?_)
    · have h := hit_f h hc
      refine R_iconst (v := 0) dX3_isSeen_23 rfl ?_
      exact R_zret dX3_isSeen_24 rfl (Or.inl rfl) h
    · have h := hit_t h hc
      refine R_aload_n (i := 0) dX3_isSeen_10 rfl rfl ?_
      refine R_get foX3_9 hL0 (cE_3 Ω 0 _) rfl dX3_isSeen_11 ?_
      refine R_iload_n (i := 1) dX3_isSeen_14 rfl rfl ?_
      obtain ⟨hb, h⟩ := hit_bnd h
      refine R_iald (WF.kid hW 0 hL0 rfl) (cE_30 Ω 0 _) hb dX3_isSeen_15 ?_
      refine R_if_eq (tgt := 23) dX3_isSeen_16 (by decide) (fun hc => ?_) (fun hc => ?_)
      · have h := hit_t h hc
        refine R_iconst (v := 0) dX3_isSeen_23 rfl ?_
        exact R_zret dX3_isSeen_24 rfl (Or.inl rfl) h
      · have h := hit_f h hc
        refine R_iconst (v := 1) dX3_isSeen_19 rfl ?_
        refine R_goto (tgt := 24) dX3_isSeen_20 (by decide) ?_
        exact R_zret dX3_isSeen_24 rfl (Or.inr rfl) h
set_option maxRecDepth 100000 in
set_option maxHeartbeats 4000000 in
theorem rnX1_stageByMarks_j31L2 {l : Launch} {Ω : rO} (hW : WF Ω) (k1 : Nat) (x2 : Int32) (z0 : Int32) (z1 : Int32) (hL0 : oL Ω 1 0) (hL1 : oL Ω 7 k1) (hz2 : oL Ω 38 0) (σ : rS) {K : Int32 → rS → Prop} {K0 : (Int32 ⊕ Unit) → rS → Prop} (hC : ∀ (x2 : Int32) (σ : rS), K0 (.inl x2) σ → Run l Ω cX1_stageByMarks RX1 3 none rmX1_stageByMarks K 2 [some (rf Ω 1 0), some (rf Ω 7 k1), some (.int x2)] [] σ) (hE0 : ∀ (e : Unit) (σ : rS), K0 (.inr e) σ → Run l Ω cX1_stageByMarks RX1 3 none rmX1_stageByMarks K 38 [none, none, none] [] σ) (h : hit (fX1_stageByMarks_j31L2 k1 x2 z0 z1 σ) K0) : Run l Ω cX1_stageByMarks RX1 3 none rmX1_stageByMarks K 31 [some (rf Ω 1 0), some (rf Ω 7 k1), some (.int x2)] [.int z0, .int z1, rf Ω 38 0] σ := by
  unfold fX1_stageByMarks_j31L2 at h
  obtain ⟨hb, h⟩ := hit_bnd h
  refine R_iast hz2 (cE_38 Ω 0) hb dX1_stageByMarks_31 ?_
  refine R_st h (fun σ3 h => ?_)
  refine R_iinc (v := x2 + 1) (lv2 := [some (rf Ω 1 0), some (rf Ω 7 k1), some (.int (x2 + 1))]) dX1_stageByMarks_32 rfl rfl (by decide) rfl rfl ?_
  refine R_goto (tgt := 2) dX1_stageByMarks_35 (by decide) ?_
  exact hC (x2 + 1) σ3 h
set_option maxRecDepth 100000 in
set_option maxHeartbeats 4000000 in
theorem rsX1_stageByMarks_L2 {l : Launch} {Ω : rO} (hW : WF Ω) (k1 : Nat) (x2 : Int32) (hL0 : oL Ω 1 0) (hL1 : oL Ω 7 k1) (σ : rS) {K : Int32 → rS → Prop} {K0 : (Int32 ⊕ Unit) → rS → Prop} (hC : ∀ (x2 : Int32) (σ : rS), K0 (.inl x2) σ → Run l Ω cX1_stageByMarks RX1 3 none rmX1_stageByMarks K 2 [some (rf Ω 1 0), some (rf Ω 7 k1), some (.int x2)] [] σ) (hE0 : ∀ (e : Unit) (σ : rS), K0 (.inr e) σ → Run l Ω cX1_stageByMarks RX1 3 none rmX1_stageByMarks K 38 [none, none, none] [] σ) (h : hit (fX1_stageByMarks_L2 k1 x2 σ) K0) : Run l Ω cX1_stageByMarks RX1 3 none rmX1_stageByMarks K 2 [some (rf Ω 1 0), some (rf Ω 7 k1), some (.int x2)] [] σ := by
  unfold fX1_stageByMarks_L2 at h
  refine R_iload_n (i := 2) dX1_stageByMarks_2 rfl rfl ?_
  refine R_aload_n (i := 1) dX1_stageByMarks_3 rfl rfl ?_
  refine R_get foX1_123 hL1 (cE_7 Ω k1 _) rfl dX1_stageByMarks_4 ?_
  refine R_icmp_ge (tgt := 38) dX1_stageByMarks_7 (by decide) (fun hc => ?_) (fun hc => ?_)
  · have h := hit_f h hc
    refine R_drop (lv2 := [none, some (rf Ω 7 k1), some (.int x2)]) 0 rfl ?_
    refine R_drop (lv2 := [none, none, some (.int x2)]) 1 rfl ?_
    refine R_drop (lv2 := [none, none, none]) 2 rfl ?_
    exact hE0 () σ h
  · have h := hit_t h hc
    refine R_aload_n (i := 0) dX1_stageByMarks_10 rfl rfl ?_
    refine R_get foX1_15 hL0 (cE_1 Ω 0 _) rfl dX1_stageByMarks_11 ?_
    refine R_iload_n (i := 2) dX1_stageByMarks_14 rfl rfl ?_
    refine R_aload_n (i := 0) dX1_stageByMarks_15 rfl rfl ?_
    refine R_get foX1_39 hL0 (cE_1 Ω 0 _) rfl dX1_stageByMarks_16 ?_
    refine R_iload_n (i := 2) dX1_stageByMarks_19 rfl rfl ?_
    refine R_callVi (ctX3_isSeen l Ω x2 (WF.kid hW 1 hL0 rfl) _ _ (hit_mono (hit_bd h) (fun r1 σ2 h => ?_))) okX3_isSeen mw_757 (WF.kid hW 1 hL0 rfl) (cE_3 Ω 0 _) rfl rfl (Nat.le_of_ble_eq_true rfl) rfl rfl ⟨by decide, by decide⟩ ⟨Nat.zero_le _, Nat.zero_le _⟩ dX1_stageByMarks_20
    refine R_if_eq (tgt := 30) dX1_stageByMarks_23 (by decide) (fun hc => ?_) (fun hc => ?_)
    · have h := hit_t h hc
      refine R_iconst (v := 0) dX1_stageByMarks_30 rfl ?_
      exact rnX1_stageByMarks_j31L2 hW k1 x2 0 x2 hL0 hL1 (WF.kid hW 3 hL0 rfl) σ2 hC hE0 h
    · have h := hit_f h hc
      refine R_iconst (v := 1) dX1_stageByMarks_26 rfl ?_
      refine R_goto (tgt := 31) dX1_stageByMarks_27 (by decide) ?_
      exact rnX1_stageByMarks_j31L2 hW k1 x2 1 x2 hL0 hL1 (WF.kid hW 3 hL0 rfl) σ2 hC hE0 h
set_option maxRecDepth 100000 in
set_option maxHeartbeats 4000000 in
theorem rlX1_stageByMarks_L2 {l : Launch} {Ω : rO} (hW : WF Ω) (k1 : Nat) (hL0 : oL Ω 1 0) (hL1 : oL Ω 7 k1) {K : Int32 → rS → Prop} {KE : Unit → rS → Prop} (hE0 : ∀ (e : Unit) (σ : rS), KE e σ → Run l Ω cX1_stageByMarks RX1 3 none rmX1_stageByMarks K 38 [none, none, none] [] σ) : ∀ (n : Nat) (x2 : Int32) (σ : rS), hit (lp (fun (x : Int32) σ => fX1_stageByMarks_L2 k1 x σ) n x2 σ) KE → Run l Ω cX1_stageByMarks RX1 3 none rmX1_stageByMarks K 2 [some (rf Ω 1 0), some (rf Ω 7 k1), some (.int x2)] [] σ := by
  intro n
  induction n with
  | zero => intro x2 σ h; exact (h : False).elim
  | succ n ih =>
    intro x2 σ h
    exact rsX1_stageByMarks_L2 hW k1 x2 hL0 hL1 σ (fun x2 σ h => ih x2 σ h) (fun e σ h => hE0 e σ h) (hit_lp h)
set_option maxRecDepth 100000 in
set_option maxHeartbeats 4000000 in
theorem ctX1_stageByMarks (l : Launch) (Ω : rO) (k1 : Nat) (hL0 : oL Ω 1 0) (hL1 : oL Ω 7 k1) (σ : rS) (K : Int32 → rS → Prop) (h : hit (fX1_stageByMarks k1 σ) K) : Ct l Ω yX1_stageByMarks cX1_stageByMarks 3 none rmX1_stageByMarks [rf Ω 1 0, rf Ω 7 k1] σ K := by
  refine Ct.of (own := RX1) (lv := [some (rf Ω 1 0), some (rf Ω 7 k1), none]) (by decide) rfl (Nat.le_of_ble_eq_true rfl) rfl (fun hW => ?_)
  unfold fX1_stageByMarks at h
  refine R_iconst (v := 0) dX1_stageByMarks_0 rfl ?_
  refine R_istore_n (lv2 := [some (rf Ω 1 0), some (rf Ω 7 k1), some (.int 0)]) dX1_stageByMarks_1 rfl (by decide) rfl rfl ?_
  refine rlX1_stageByMarks_L2 hW k1 hL0 hL1 ?_ fu 0 σ (hit_bd h)
  · intro e5 σ4 h
    try dsimp only at h
    exact R_vret dX1_stageByMarks_38 rfl h
set_option maxRecDepth 100000 in
set_option maxHeartbeats 4000000 in
theorem rnX1_markLasting_j38L10 {l : Launch} {Ω : rO} (hW : WF Ω) (k1 : Nat) (x2 : Int32) (x3 : Int32) (hL0 : oL Ω 1 0) (hL1 : oL Ω 7 k1) (σ : rS) {K : Int32 → rS → Prop} {K0 : (Int32 ⊕ Unit) → rS → Prop} (hC : ∀ (x3 : Int32) (σ : rS), K0 (.inl x3) σ → Run l Ω cX1_markLasting RX1 4 none rmX1_markLasting K 10 [some (rf Ω 1 0), some (rf Ω 7 k1), some (.int x2), some (.int x3)] [] σ) (hE0 : ∀ (e : Unit) (σ : rS), K0 (.inr e) σ → Run l Ω cX1_markLasting RX1 4 none rmX1_markLasting K 44 [some (rf Ω 1 0), some (rf Ω 7 k1), some (.int x2), none] [] σ) (h : hit (fX1_markLasting_j38L10 k1 x2 x3 σ) K0) : Run l Ω cX1_markLasting RX1 4 none rmX1_markLasting K 38 [some (rf Ω 1 0), some (rf Ω 7 k1), some (.int x2), some (.int x3)] [] σ := by
  unfold fX1_markLasting_j38L10 at h
  refine R_iinc (v := x3 + 1) (lv2 := [some (rf Ω 1 0), some (rf Ω 7 k1), some (.int x2), some (.int (x3 + 1))]) dX1_markLasting_38 rfl rfl (by decide) rfl rfl ?_
  refine R_goto (tgt := 10) dX1_markLasting_41 (by decide) ?_
  exact hC (x3 + 1) σ h
set_option maxRecDepth 100000 in
set_option maxHeartbeats 4000000 in
theorem rsX1_markLasting_L10 {l : Launch} {Ω : rO} (hW : WF Ω) (k1 : Nat) (x2 : Int32) (x3 : Int32) (hL0 : oL Ω 1 0) (hL1 : oL Ω 7 k1) (σ : rS) {K : Int32 → rS → Prop} {K0 : (Int32 ⊕ Unit) → rS → Prop} (hC : ∀ (x3 : Int32) (σ : rS), K0 (.inl x3) σ → Run l Ω cX1_markLasting RX1 4 none rmX1_markLasting K 10 [some (rf Ω 1 0), some (rf Ω 7 k1), some (.int x2), some (.int x3)] [] σ) (hE0 : ∀ (e : Unit) (σ : rS), K0 (.inr e) σ → Run l Ω cX1_markLasting RX1 4 none rmX1_markLasting K 44 [some (rf Ω 1 0), some (rf Ω 7 k1), some (.int x2), none] [] σ) (h : hit (fX1_markLasting_L10 k1 x2 x3 σ) K0) : Run l Ω cX1_markLasting RX1 4 none rmX1_markLasting K 10 [some (rf Ω 1 0), some (rf Ω 7 k1), some (.int x2), some (.int x3)] [] σ := by
  unfold fX1_markLasting_L10 at h
  refine R_iload_n (i := 3) dX1_markLasting_10 rfl rfl ?_
  refine R_aload_n (i := 1) dX1_markLasting_11 rfl rfl ?_
  refine R_get foX1_123 hL1 (cE_7 Ω k1 _) rfl dX1_markLasting_12 ?_
  refine R_icmp_ge (tgt := 44) dX1_markLasting_15 (by decide) (fun hc => ?_) (fun hc => ?_)
  · have h := hit_f h hc
    refine R_drop (lv2 := [some (rf Ω 1 0), some (rf Ω 7 k1), some (.int x2), none]) 3 rfl ?_
    exact hE0 () σ h
  · have h := hit_t h hc
    refine R_aload_n (i := 1) dX1_markLasting_18 rfl rfl ?_
    refine R_get foX1_162 hL1 (cE_7 Ω k1 _) rfl dX1_markLasting_19 ?_
    refine R_iload_n (i := 3) dX1_markLasting_22 rfl rfl ?_
    obtain ⟨hb, h⟩ := hit_bnd h
    refine R_iald (WF.kid hW 1 hL1 rfl) (cE_46 Ω k1 _) hb dX1_markLasting_23 ?_
    refine R_iconst (v := 2) dX1_markLasting_24 rfl ?_
    refine R_icmp_ne (tgt := 38) dX1_markLasting_25 (by decide) (fun hc => ?_) (fun hc => ?_)
    · have h := hit_f h hc
      exact rnX1_markLasting_j38L10 hW k1 x2 x3 hL0 hL1 σ hC hE0 h
    · have h := hit_t h hc
      refine R_aload_n (i := 0) dX1_markLasting_28 rfl rfl ?_
      refine R_get foX1_39 hL0 (cE_1 Ω 0 _) rfl dX1_markLasting_29 ?_
      refine R_iload_n (i := 3) dX1_markLasting_32 rfl rfl ?_
      refine R_iconst (v := (-1)) dX1_markLasting_33 rfl ?_
      refine R_iconst (v := (-1)) dX1_markLasting_34 rfl ?_
      refine R_callVv (ctX3_visit l Ω x3 (-1) (-1) (WF.kid hW 1 hL0 rfl) _ _ (hit_mono (hit_bd h) (fun r2 σ3 h => ?_))) okX3_visit mw_765 (WF.kid hW 1 hL0 rfl) (cE_3 Ω 0 _) rfl rfl (Nat.le_of_ble_eq_true rfl) rfl rfl ⟨by decide, by decide⟩ ⟨Nat.zero_le _, Nat.zero_le _⟩ dX1_markLasting_35
      exact rnX1_markLasting_j38L10 hW k1 x2 x3 hL0 hL1 σ3 hC hE0 h
set_option maxRecDepth 100000 in
set_option maxHeartbeats 4000000 in
theorem rlX1_markLasting_L10 {l : Launch} {Ω : rO} (hW : WF Ω) (k1 : Nat) (x2 : Int32) (hL0 : oL Ω 1 0) (hL1 : oL Ω 7 k1) {K : Int32 → rS → Prop} {KE : Unit → rS → Prop} (hE0 : ∀ (e : Unit) (σ : rS), KE e σ → Run l Ω cX1_markLasting RX1 4 none rmX1_markLasting K 44 [some (rf Ω 1 0), some (rf Ω 7 k1), some (.int x2), none] [] σ) : ∀ (n : Nat) (x3 : Int32) (σ : rS), hit (lp (fun (x : Int32) σ => fX1_markLasting_L10 k1 x2 x σ) n x3 σ) KE → Run l Ω cX1_markLasting RX1 4 none rmX1_markLasting K 10 [some (rf Ω 1 0), some (rf Ω 7 k1), some (.int x2), some (.int x3)] [] σ := by
  intro n
  induction n with
  | zero => intro x3 σ h; exact (h : False).elim
  | succ n ih =>
    intro x3 σ h
    exact rsX1_markLasting_L10 hW k1 x2 x3 hL0 hL1 σ (fun x3 σ h => ih x3 σ h) (fun e σ h => hE0 e σ h) (hit_lp h)
set_option maxRecDepth 100000 in
set_option maxHeartbeats 4000000 in
theorem rsX1_markLasting_L55 {l : Launch} {Ω : rO} (hW : WF Ω) (x3 : Int32) (hL0 : oL Ω 1 0) (σ : rS) {K : Int32 → rS → Prop} {K0 : (Int32 ⊕ Unit) → rS → Prop} (hC : ∀ (x3 : Int32) (σ : rS), K0 (.inl x3) σ → Run l Ω cX1_markLasting RX1 4 none rmX1_markLasting K 55 [some (rf Ω 1 0), none, none, some (.int x3)] [] σ) (hE0 : ∀ (e : Unit) (σ : rS), K0 (.inr e) σ → Run l Ω cX1_markLasting RX1 4 none rmX1_markLasting K 87 [none, none, none, none] [] σ) (h : hit (fX1_markLasting_L55 x3 σ) K0) : Run l Ω cX1_markLasting RX1 4 none rmX1_markLasting K 55 [some (rf Ω 1 0), none, none, some (.int x3)] [] σ := by
  unfold fX1_markLasting_L55 at h
  refine R_iload_n (i := 3) dX1_markLasting_55 rfl rfl ?_
  refine R_aload_n (i := 0) dX1_markLasting_56 rfl rfl ?_
  refine R_get foX1_39 hL0 (cE_1 Ω 0 _) rfl dX1_markLasting_57 ?_
  refine R_get foX1_174 (WF.kid hW 1 hL0 rfl) (cE_3 Ω 0 _) rfl dX1_markLasting_60 ?_
  refine R_icmp_ge (tgt := 87) dX1_markLasting_63 (by decide) (fun hc => ?_) (fun hc => ?_)
  · have h := hit_f h hc
    refine R_drop (lv2 := [none, none, none, some (.int x3)]) 0 rfl ?_
    refine R_drop (lv2 := [none, none, none, none]) 3 rfl ?_
    exact hE0 () σ h
  · have h := hit_t h hc
    refine R_aload_n (i := 0) dX1_markLasting_66 rfl rfl ?_
    refine R_get foX1_15 hL0 (cE_1 Ω 0 _) rfl dX1_markLasting_67 ?_
    refine R_aload_n (i := 0) dX1_markLasting_70 rfl rfl ?_
    refine R_get foX1_39 hL0 (cE_1 Ω 0 _) rfl dX1_markLasting_71 ?_
    refine R_get foX1_184 (WF.kid hW 1 hL0 rfl) (cE_3 Ω 0 _) rfl dX1_markLasting_74 ?_
    refine R_iload_n (i := 3) dX1_markLasting_77 rfl rfl ?_
    obtain ⟨hb, h⟩ := hit_bnd h
    refine R_iald (WF.kid hW 1 (WF.kid hW 1 hL0 rfl) rfl) (cE_31 Ω 0 _) hb dX1_markLasting_78 ?_
    refine R_iconst (v := 2) dX1_markLasting_79 rfl ?_
    obtain ⟨hb, h⟩ := hit_bnd h
    refine R_iast (WF.kid hW 3 hL0 rfl) (cE_38 Ω 0) hb dX1_markLasting_80 ?_
    refine R_st h (fun σ8 h => ?_)
    refine R_iinc (v := x3 + 1) (lv2 := [some (rf Ω 1 0), none, none, some (.int (x3 + 1))]) dX1_markLasting_81 rfl rfl (by decide) rfl rfl ?_
    refine R_goto (tgt := 55) dX1_markLasting_84 (by decide) ?_
    exact hC (x3 + 1) σ8 h
set_option maxRecDepth 100000 in
set_option maxHeartbeats 4000000 in
theorem rlX1_markLasting_L55 {l : Launch} {Ω : rO} (hW : WF Ω) (hL0 : oL Ω 1 0) {K : Int32 → rS → Prop} {KE : Unit → rS → Prop} (hE0 : ∀ (e : Unit) (σ : rS), KE e σ → Run l Ω cX1_markLasting RX1 4 none rmX1_markLasting K 87 [none, none, none, none] [] σ) : ∀ (n : Nat) (x3 : Int32) (σ : rS), hit (lp (fun (x : Int32) σ => fX1_markLasting_L55 x σ) n x3 σ) KE → Run l Ω cX1_markLasting RX1 4 none rmX1_markLasting K 55 [some (rf Ω 1 0), none, none, some (.int x3)] [] σ := by
  intro n
  induction n with
  | zero => intro x3 σ h; exact (h : False).elim
  | succ n ih =>
    intro x3 σ h
    exact rsX1_markLasting_L55 hW x3 hL0 σ (fun x3 σ h => ih x3 σ h) (fun e σ h => hE0 e σ h) (hit_lp h)
set_option maxRecDepth 100000 in
set_option maxHeartbeats 4000000 in
theorem ctX1_markLasting (l : Launch) (Ω : rO) (k1 : Nat) (hL0 : oL Ω 1 0) (hL1 : oL Ω 7 k1) (σ : rS) (K : Int32 → rS → Prop) (h : hit (fX1_markLasting k1 σ) K) : Ct l Ω yX1_markLasting cX1_markLasting 4 none rmX1_markLasting [rf Ω 1 0, rf Ω 7 k1] σ K := by
  refine Ct.of (own := RX1) (lv := [some (rf Ω 1 0), some (rf Ω 7 k1), none, none]) (by decide) rfl (Nat.le_of_ble_eq_true rfl) rfl (fun hW => ?_)
  unfold fX1_markLasting at h
  refine R_aload_n (i := 0) dX1_markLasting_0 rfl rfl ?_
  refine R_get foX1_39 hL0 (cE_1 Ω 0 _) rfl dX1_markLasting_1 ?_
  refine R_get foX1_174 (WF.kid hW 1 hL0 rfl) (cE_3 Ω 0 _) rfl dX1_markLasting_4 ?_
  refine R_topi h (fun y1 h => ?_)
  refine R_istore_n (lv2 := [some (rf Ω 1 0), some (rf Ω 7 k1), some (.int y1), none]) dX1_markLasting_7 rfl (by decide) rfl rfl ?_
  refine R_iconst (v := 0) dX1_markLasting_8 rfl ?_
  refine R_istore_n (lv2 := [some (rf Ω 1 0), some (rf Ω 7 k1), some (.int y1), some (.int 0)]) dX1_markLasting_9 rfl (by decide) rfl rfl ?_
  refine rlX1_markLasting_L10 hW k1 y1 hL0 hL1 ?_ fu 0 σ (hit_bd h)
  · intro e5 σ4 h
    try dsimp only at h
    refine R_aload_n (i := 0) dX1_markLasting_44 rfl rfl ?_
    refine R_get foX1_39 hL0 (cE_1 Ω 0 _) rfl dX1_markLasting_45 ?_
    refine R_aload_n (i := 1) dX1_markLasting_48 rfl rfl ?_
    refine R_iload_n (i := 2) dX1_markLasting_49 rfl rfl ?_
    refine R_callVv (ctX3_spread l Ω k1 y1 (WF.kid hW 1 hL0 rfl) hL1 _ _ (hit_mono (hit_bd h) (fun r6 σ7 h => ?_))) okX3_spread mw_766 (WF.kid hW 1 hL0 rfl) (cE_3 Ω 0 _) rfl rfl (Nat.le_of_ble_eq_true rfl) rfl rfl ⟨by decide, by decide⟩ ⟨Nat.zero_le _, Nat.zero_le _⟩ dX1_markLasting_50
    refine R_iload_n (i := 2) dX1_markLasting_53 rfl rfl ?_
    refine R_istore_n (lv2 := [some (rf Ω 1 0), some (rf Ω 7 k1), some (.int y1), some (.int y1)]) dX1_markLasting_54 rfl (by decide) rfl rfl ?_
    refine R_drop (lv2 := [some (rf Ω 1 0), none, some (.int y1), some (.int y1)]) 1 rfl ?_
    refine R_drop (lv2 := [some (rf Ω 1 0), none, none, some (.int y1)]) 2 rfl ?_
    refine rlX1_markLasting_L55 hW hL0 ?_ fu y1 σ7 (hit_bd h)
    · intro e10 σ9 h
      try dsimp only at h
      exact R_vret dX1_markLasting_87 rfl h
set_option maxRecDepth 100000 in
set_option maxHeartbeats 4000000 in
theorem ctX7_cells (l : Launch) (Ω : rO) (k0 : Nat) (x1 : Int32) (hL0 : oL Ω 7 k0) (σ : rS) (K : Int32 → rS → Prop) (h : hit (fX7_cells k0 x1 σ) K) : Ct l Ω yX7_cells cX7_cells 2 (some .int) rmX7_cells [rf Ω 7 k0, .int x1] σ K := by
  refine Ct.of (own := RX7) (lv := [some (rf Ω 7 k0), some (.int x1)]) (by decide) rfl (Nat.le_of_ble_eq_true rfl) rfl (fun hW => ?_)
  unfold fX7_cells at h
  refine R_iload_n (i := 1) dX7_cells_0 rfl rfl ?_
  refine R_if_lt (tgt := 23) dX7_cells_1 (by decide) (fun hc => ?_) (fun hc => ?_)
  · have h := hit_t h hc
    refine R_iconst (v := 0) dX7_cells_23 rfl ?_
    exact R_iret dX7_cells_24 rfl h
  · have h := hit_f h hc
    refine R_iload_n (i := 1) dX7_cells_4 rfl rfl ?_
    refine R_aload_n (i := 0) dX7_cells_5 rfl rfl ?_
    refine R_get foX7_75 hL0 (cE_7 Ω k0 _) rfl dX7_cells_6 ?_
    refine R_icmp_ge (tgt := 23) dX7_cells_9 (by decide) (fun hc => ?_) (fun hc => ?_)
    · have h := hit_f h hc
      refine R_iconst (v := 0) dX7_cells_23 rfl ?_
      exact R_iret dX7_cells_24 rfl h
    · have h := hit_t h hc
      refine R_iconst (v := 3) dX7_cells_12 rfl ?_
      refine R_aload_n (i := 0) dX7_cells_13 rfl rfl ?_
      refine R_get foX7_18 hL0 (cE_7 Ω k0 _) rfl dX7_cells_14 ?_
      refine R_iload_n (i := 1) dX7_cells_17 rfl rfl ?_
      obtain ⟨hb, h⟩ := hit_bnd h
      refine R_iald (WF.kid hW 2 hL0 rfl) (cE_47 Ω k0 _) hb dX7_cells_18 ?_
      refine R_iadd dX7_cells_19 ?_
      refine R_goto (tgt := 24) dX7_cells_20 (by decide) ?_
      exact R_iret dX7_cells_24 rfl h
set_option maxRecDepth 100000 in
set_option maxHeartbeats 4000000 in
theorem rnX1_pushTogether_j60L10 {l : Launch} {Ω : rO} (hW : WF Ω) (k1 : Nat) (x2 : Int32) (hL0 : oL Ω 1 0) (hL1 : oL Ω 7 k1) (σ : rS) {K : Int32 → rS → Prop} {K0 : (Int32 ⊕ Unit) → rS → Prop} (hC : ∀ (x2 : Int32) (σ : rS), K0 (.inl x2) σ → Run l Ω cX1_pushTogether RX1 5 none rmX1_pushTogether K 10 [some (rf Ω 1 0), some (rf Ω 7 k1), some (.int x2), none, none] [] σ) (hE0 : ∀ (e : Unit) (σ : rS), K0 (.inr e) σ → Run l Ω cX1_pushTogether RX1 5 none rmX1_pushTogether K 66 [some (rf Ω 1 0), some (rf Ω 7 k1), none, none, none] [] σ) (h : hit (fX1_pushTogether_j60L10 k1 x2 σ) K0) : Run l Ω cX1_pushTogether RX1 5 none rmX1_pushTogether K 60 [some (rf Ω 1 0), some (rf Ω 7 k1), some (.int x2), none, none] [] σ := by
  unfold fX1_pushTogether_j60L10 at h
  refine R_iinc (v := x2 + 1) (lv2 := [some (rf Ω 1 0), some (rf Ω 7 k1), some (.int (x2 + 1)), none, none]) dX1_pushTogether_60 rfl rfl (by decide) rfl rfl ?_
  refine R_goto (tgt := 10) dX1_pushTogether_63 (by decide) ?_
  exact hC (x2 + 1) σ h
set_option maxRecDepth 100000 in
set_option maxHeartbeats 4000000 in
theorem rsX1_pushTogether_L10 {l : Launch} {Ω : rO} (hW : WF Ω) (k1 : Nat) (x2 : Int32) (hL0 : oL Ω 1 0) (hL1 : oL Ω 7 k1) (σ : rS) {K : Int32 → rS → Prop} {K0 : (Int32 ⊕ Unit) → rS → Prop} (hC : ∀ (x2 : Int32) (σ : rS), K0 (.inl x2) σ → Run l Ω cX1_pushTogether RX1 5 none rmX1_pushTogether K 10 [some (rf Ω 1 0), some (rf Ω 7 k1), some (.int x2), none, none] [] σ) (hE0 : ∀ (e : Unit) (σ : rS), K0 (.inr e) σ → Run l Ω cX1_pushTogether RX1 5 none rmX1_pushTogether K 66 [some (rf Ω 1 0), some (rf Ω 7 k1), none, none, none] [] σ) (h : hit (fX1_pushTogether_L10 k1 x2 σ) K0) : Run l Ω cX1_pushTogether RX1 5 none rmX1_pushTogether K 10 [some (rf Ω 1 0), some (rf Ω 7 k1), some (.int x2), none, none] [] σ := by
  unfold fX1_pushTogether_L10 at h
  refine R_iload_n (i := 2) dX1_pushTogether_10 rfl rfl ?_
  refine R_aload_n (i := 1) dX1_pushTogether_11 rfl rfl ?_
  refine R_get foX1_123 hL1 (cE_7 Ω k1 _) rfl dX1_pushTogether_12 ?_
  refine R_icmp_ge (tgt := 66) dX1_pushTogether_15 (by decide) (fun hc => ?_) (fun hc => ?_)
  · have h := hit_f h hc
    refine R_drop (lv2 := [some (rf Ω 1 0), some (rf Ω 7 k1), none, none, none]) 2 rfl ?_
    exact hE0 () σ h
  · have h := hit_t h hc
    refine R_aload_n (i := 1) dX1_pushTogether_18 rfl rfl ?_
    refine R_get foX1_209 hL1 (cE_7 Ω k1 _) rfl dX1_pushTogether_19 ?_
    refine R_iload_n (i := 2) dX1_pushTogether_22 rfl rfl ?_
    obtain ⟨hb, h⟩ := hit_bnd h
    refine R_iald (WF.kid hW 6 hL1 rfl) (cE_51 Ω k1 _) hb dX1_pushTogether_23 ?_
    refine R_topi h (fun y3 h => ?_)
    refine R_istore_n (lv2 := [some (rf Ω 1 0), some (rf Ω 7 k1), some (.int x2), some (.int y3), none]) dX1_pushTogether_24 rfl (by decide) rfl rfl ?_
    refine R_aload_n (i := 1) dX1_pushTogether_25 rfl rfl ?_
    refine R_iload_n (i := 2) dX1_pushTogether_26 rfl rfl ?_
    refine R_callVi (ctX7_isYoung l Ω k1 x2 hL1 _ _ (hit_mono (hit_bd h) (fun r4 σ5 h => ?_))) okX7_isYoung mw_628 hL1 (cE_7 Ω k1 _) rfl rfl (Nat.le_of_ble_eq_true rfl) rfl rfl ⟨by decide, by decide⟩ ⟨Nat.zero_le _, Nat.zero_le _⟩ dX1_pushTogether_27
    refine R_if_ne (tgt := 60) dX1_pushTogether_30 (by decide) (fun hc => ?_) (fun hc => ?_)
    · have h := hit_f h hc
      refine R_drop (lv2 := [some (rf Ω 1 0), some (rf Ω 7 k1), some (.int x2), none, none]) 3 rfl ?_
      exact rnX1_pushTogether_j60L10 hW k1 x2 hL0 hL1 σ5 hC hE0 h
    · have h := hit_t h hc
      refine R_aload_n (i := 0) dX1_pushTogether_33 rfl rfl ?_
      refine R_get foX1_15 hL0 (cE_1 Ω 0 _) rfl dX1_pushTogether_34 ?_
      refine R_iload_n (i := 2) dX1_pushTogether_37 rfl rfl ?_
      obtain ⟨hb, h⟩ := hit_bnd h
      refine R_iald (WF.kid hW 3 hL0 rfl) (cE_38 Ω 0 _) hb dX1_pushTogether_38 ?_
      refine R_if_eq (tgt := 60) dX1_pushTogether_39 (by decide) (fun hc => ?_) (fun hc => ?_)
      · have h := hit_t h hc
        refine R_drop (lv2 := [some (rf Ω 1 0), some (rf Ω 7 k1), some (.int x2), none, none]) 3 rfl ?_
        exact rnX1_pushTogether_j60L10 hW k1 x2 hL0 hL1 σ5 hC hE0 h
      · have h := hit_f h hc
        refine R_iload_n (i := 3) dX1_pushTogether_42 rfl rfl ?_
        refine R_if_lt (tgt := 60) dX1_pushTogether_43 (by decide) (fun hc => ?_) (fun hc => ?_)
        · have h := hit_t h hc
          refine R_drop (lv2 := [some (rf Ω 1 0), some (rf Ω 7 k1), some (.int x2), none, none]) 3 rfl ?_
          exact rnX1_pushTogether_j60L10 hW k1 x2 hL0 hL1 σ5 hC hE0 h
        · have h := hit_f h hc
          refine R_iload_n (i := 3) dX1_pushTogether_46 rfl rfl ?_
          refine R_sipush (v := 128) dX1_pushTogether_47 rfl ?_
          refine R_icmp_ge (tgt := 60) dX1_pushTogether_50 (by decide) (fun hc => ?_) (fun hc => ?_)
          · have h := hit_f h hc
            refine R_drop (lv2 := [some (rf Ω 1 0), some (rf Ω 7 k1), some (.int x2), none, none]) 3 rfl ?_
            exact rnX1_pushTogether_j60L10 hW k1 x2 hL0 hL1 σ5 hC hE0 h
          · have h := hit_t h hc
            refine R_aload_n (i := 0) dX1_pushTogether_53 rfl rfl ?_
            refine R_get foX1_33 hL0 (cE_1 Ω 0 _) rfl dX1_pushTogether_54 ?_
            refine R_iload_n (i := 3) dX1_pushTogether_57 rfl rfl ?_
            refine R_iload_n (i := 2) dX1_pushTogether_58 rfl rfl ?_
            obtain ⟨hb, h⟩ := hit_bnd h
            refine R_iast (WF.kid hW 9 hL0 rfl) (cE_44 Ω 0) hb dX1_pushTogether_59 ?_
            refine R_st h (fun σ6 h => ?_)
            refine R_drop (lv2 := [some (rf Ω 1 0), some (rf Ω 7 k1), some (.int x2), none, none]) 3 rfl ?_
            exact rnX1_pushTogether_j60L10 hW k1 x2 hL0 hL1 σ6 hC hE0 h
set_option maxRecDepth 100000 in
set_option maxHeartbeats 4000000 in
theorem rlX1_pushTogether_L10 {l : Launch} {Ω : rO} (hW : WF Ω) (k1 : Nat) (hL0 : oL Ω 1 0) (hL1 : oL Ω 7 k1) {K : Int32 → rS → Prop} {KE : Unit → rS → Prop} (hE0 : ∀ (e : Unit) (σ : rS), KE e σ → Run l Ω cX1_pushTogether RX1 5 none rmX1_pushTogether K 66 [some (rf Ω 1 0), some (rf Ω 7 k1), none, none, none] [] σ) : ∀ (n : Nat) (x2 : Int32) (σ : rS), hit (lp (fun (x : Int32) σ => fX1_pushTogether_L10 k1 x σ) n x2 σ) KE → Run l Ω cX1_pushTogether RX1 5 none rmX1_pushTogether K 10 [some (rf Ω 1 0), some (rf Ω 7 k1), some (.int x2), none, none] [] σ := by
  intro n
  induction n with
  | zero => intro x2 σ h; exact (h : False).elim
  | succ n ih =>
    intro x2 σ h
    exact rsX1_pushTogether_L10 hW k1 x2 hL0 hL1 σ (fun x2 σ h => ih x2 σ h) (fun e σ h => hE0 e σ h) (hit_lp h)
set_option maxRecDepth 100000 in
set_option maxHeartbeats 4000000 in
theorem rnX1_pushTogether_j127L70 {l : Launch} {Ω : rO} (hW : WF Ω) (k1 : Nat) (x2 : Int32) (x3 : Int32) (hL0 : oL Ω 1 0) (hL1 : oL Ω 7 k1) (σ : rS) {K : Int32 → rS → Prop} {K0 : ((Int32 × Int32) ⊕ Int32) → rS → Prop} (hC : ∀ (x2 : Int32) (x3 : Int32) (σ : rS), K0 (.inl (x2, x3)) σ → Run l Ω cX1_pushTogether RX1 5 none rmX1_pushTogether K 70 [some (rf Ω 1 0), some (rf Ω 7 k1), some (.int x2), some (.int x3), none] [] σ) (hE0 : ∀ (e : Int32) (σ : rS), K0 (.inr e) σ → Run l Ω cX1_pushTogether RX1 5 none rmX1_pushTogether K 133 [none, some (rf Ω 7 k1), some (.int e), none, none] [] σ) (h : hit (fX1_pushTogether_j127L70 k1 x2 x3 σ) K0) : Run l Ω cX1_pushTogether RX1 5 none rmX1_pushTogether K 127 [some (rf Ω 1 0), some (rf Ω 7 k1), some (.int x2), some (.int x3), none] [] σ := by
  unfold fX1_pushTogether_j127L70 at h
  refine R_iinc (v := x3 + 1) (lv2 := [some (rf Ω 1 0), some (rf Ω 7 k1), some (.int x2), some (.int (x3 + 1)), none]) dX1_pushTogether_127 rfl rfl (by decide) rfl rfl ?_
  refine R_goto (tgt := 70) dX1_pushTogether_130 (by decide) ?_
  exact hC x2 (x3 + 1) σ h
set_option maxRecDepth 100000 in
set_option maxHeartbeats 4000000 in
theorem rnX1_pushTogether_j108L70 {l : Launch} {Ω : rO} (hW : WF Ω) (k1 : Nat) (x2 : Int32) (x3 : Int32) (x4 : Int32) (z0 : Int32) (z1 : Int32) (z2 : Int32) (hL0 : oL Ω 1 0) (hL1 : oL Ω 7 k1) (hz3 : oL Ω 37 0) (σ : rS) {K : Int32 → rS → Prop} {K0 : ((Int32 × Int32) ⊕ Int32) → rS → Prop} (hC : ∀ (x2 : Int32) (x3 : Int32) (σ : rS), K0 (.inl (x2, x3)) σ → Run l Ω cX1_pushTogether RX1 5 none rmX1_pushTogether K 70 [some (rf Ω 1 0), some (rf Ω 7 k1), some (.int x2), some (.int x3), none] [] σ) (hE0 : ∀ (e : Int32) (σ : rS), K0 (.inr e) σ → Run l Ω cX1_pushTogether RX1 5 none rmX1_pushTogether K 133 [none, some (rf Ω 7 k1), some (.int e), none, none] [] σ) (h : hit (fX1_pushTogether_j108L70 k1 x2 x3 x4 z0 z1 z2 σ) K0) : Run l Ω cX1_pushTogether RX1 5 none rmX1_pushTogether K 108 [some (rf Ω 1 0), some (rf Ω 7 k1), some (.int x2), some (.int x3), some (.int x4)] [.int z0, .int z1, .int z2, rf Ω 37 0] σ := by
  unfold fX1_pushTogether_j108L70 at h
  refine R_iadd dX1_pushTogether_108 ?_
  obtain ⟨hb, h⟩ := hit_bnd h
  refine R_iast hz3 (cE_37 Ω 0) hb dX1_pushTogether_109 ?_
  refine R_st h (fun σ10 h => ?_)
  refine R_aload_n (i := 1) dX1_pushTogether_110 rfl rfl ?_
  refine R_get foX1_209 hL1 (cE_7 Ω k1 _) rfl dX1_pushTogether_111 ?_
  refine R_iload (i := 4) dX1_pushTogether_114 rfl ?_
  refine R_iload_n (i := 2) dX1_pushTogether_116 rfl rfl ?_
  obtain ⟨hb, h⟩ := hit_bnd h
  refine R_iast (WF.kid hW 6 hL1 rfl) (cE_51 Ω k1) hb dX1_pushTogether_117 ?_
  refine R_st h (fun σ11 h => ?_)
  refine R_iload_n (i := 2) dX1_pushTogether_118 rfl rfl ?_
  refine R_aload_n (i := 1) dX1_pushTogether_119 rfl rfl ?_
  refine R_iload (i := 4) dX1_pushTogether_120 rfl ?_
  refine R_callVi (ctX7_cells l Ω k1 x4 hL1 _ _ (hit_mono (hit_bd h) (fun r12 σ13 h => ?_))) okX7_cells mw_771 hL1 (cE_7 Ω k1 _) rfl rfl (Nat.le_of_ble_eq_true rfl) rfl rfl ⟨by decide, by decide⟩ ⟨Nat.zero_le _, Nat.zero_le _⟩ dX1_pushTogether_122
  refine R_iadd dX1_pushTogether_125 ?_
  refine R_topi h (fun y14 h => ?_)
  refine R_istore_n (lv2 := [some (rf Ω 1 0), some (rf Ω 7 k1), some (.int y14), some (.int x3), some (.int x4)]) dX1_pushTogether_126 rfl (by decide) rfl rfl ?_
  refine R_drop (lv2 := [some (rf Ω 1 0), some (rf Ω 7 k1), some (.int y14), some (.int x3), none]) 4 rfl ?_
  exact rnX1_pushTogether_j127L70 hW k1 y14 x3 hL0 hL1 σ13 hC hE0 h
set_option maxRecDepth 100000 in
set_option maxHeartbeats 4000000 in
theorem rsX1_pushTogether_L70 {l : Launch} {Ω : rO} (hW : WF Ω) (k1 : Nat) (x2 : Int32) (x3 : Int32) (hL0 : oL Ω 1 0) (hL1 : oL Ω 7 k1) (σ : rS) {K : Int32 → rS → Prop} {K0 : ((Int32 × Int32) ⊕ Int32) → rS → Prop} (hC : ∀ (x2 : Int32) (x3 : Int32) (σ : rS), K0 (.inl (x2, x3)) σ → Run l Ω cX1_pushTogether RX1 5 none rmX1_pushTogether K 70 [some (rf Ω 1 0), some (rf Ω 7 k1), some (.int x2), some (.int x3), none] [] σ) (hE0 : ∀ (e : Int32) (σ : rS), K0 (.inr e) σ → Run l Ω cX1_pushTogether RX1 5 none rmX1_pushTogether K 133 [none, some (rf Ω 7 k1), some (.int e), none, none] [] σ) (h : hit (fX1_pushTogether_L70 k1 x2 x3 σ) K0) : Run l Ω cX1_pushTogether RX1 5 none rmX1_pushTogether K 70 [some (rf Ω 1 0), some (rf Ω 7 k1), some (.int x2), some (.int x3), none] [] σ := by
  unfold fX1_pushTogether_L70 at h
  refine R_iload_n (i := 3) dX1_pushTogether_70 rfl rfl ?_
  refine R_sipush (v := 128) dX1_pushTogether_71 rfl ?_
  refine R_icmp_ge (tgt := 133) dX1_pushTogether_74 (by decide) (fun hc => ?_) (fun hc => ?_)
  · have h := hit_f h hc
    refine R_drop (lv2 := [none, some (rf Ω 7 k1), some (.int x2), some (.int x3), none]) 0 rfl ?_
    refine R_drop (lv2 := [none, some (rf Ω 7 k1), some (.int x2), none, none]) 3 rfl ?_
    exact hE0 x2 σ h
  · have h := hit_t h hc
    refine R_aload_n (i := 0) dX1_pushTogether_77 rfl rfl ?_
    refine R_get foX1_33 hL0 (cE_1 Ω 0 _) rfl dX1_pushTogether_78 ?_
    refine R_iload_n (i := 3) dX1_pushTogether_81 rfl rfl ?_
    obtain ⟨hb, h⟩ := hit_bnd h
    refine R_iald (WF.kid hW 9 hL0 rfl) (cE_44 Ω 0 _) hb dX1_pushTogether_82 ?_
    refine R_topi h (fun y9 h => ?_)
    refine R_istore (lv2 := [some (rf Ω 1 0), some (rf Ω 7 k1), some (.int x2), some (.int x3), some (.int y9)]) dX1_pushTogether_83 (by decide) rfl rfl ?_
    refine R_iload (i := 4) dX1_pushTogether_85 rfl ?_
    refine R_iconst (v := (-1)) dX1_pushTogether_87 rfl ?_
    refine R_icmp_eq (tgt := 127) dX1_pushTogether_88 (by decide) (fun hc => ?_) (fun hc => ?_)
    · have h := hit_t h hc
      refine R_drop (lv2 := [some (rf Ω 1 0), some (rf Ω 7 k1), some (.int x2), some (.int x3), none]) 4 rfl ?_
      exact rnX1_pushTogether_j127L70 hW k1 x2 x3 hL0 hL1 σ hC hE0 h
    · have h := hit_f h hc
      refine R_aload_n (i := 0) dX1_pushTogether_91 rfl rfl ?_
      refine R_get foX1_9 hL0 (cE_1 Ω 0 _) rfl dX1_pushTogether_92 ?_
      refine R_iconst (v := 0) dX1_pushTogether_95 rfl ?_
      refine R_dup2 dX1_pushTogether_96 rfl rfl ?_
      refine R_iald (WF.kid hW 2 hL0 rfl) (cE_37 Ω 0 _) (vin 0 5 rfl) dX1_pushTogether_97 ?_
      refine R_iload_n (i := 3) dX1_pushTogether_98 rfl rfl ?_
      refine R_iload_n (i := 2) dX1_pushTogether_99 rfl rfl ?_
      refine R_icmp_ne (tgt := 107) dX1_pushTogether_100 (by decide) (fun hc => ?_) (fun hc => ?_)
      · have h := hit_f h hc
        refine R_iconst (v := 1) dX1_pushTogether_107 rfl ?_
        exact rnX1_pushTogether_j108L70 hW k1 x2 x3 y9 1 (σ 37 0 (ix 0)) 0 hL0 hL1 (WF.kid hW 2 hL0 rfl) σ hC hE0 h
      · have h := hit_t h hc
        refine R_iconst (v := 0) dX1_pushTogether_103 rfl ?_
        refine R_goto (tgt := 108) dX1_pushTogether_104 (by decide) ?_
        exact rnX1_pushTogether_j108L70 hW k1 x2 x3 y9 0 (σ 37 0 (ix 0)) 0 hL0 hL1 (WF.kid hW 2 hL0 rfl) σ hC hE0 h
set_option maxRecDepth 100000 in
set_option maxHeartbeats 4000000 in
theorem rlX1_pushTogether_L70 {l : Launch} {Ω : rO} (hW : WF Ω) (k1 : Nat) (hL0 : oL Ω 1 0) (hL1 : oL Ω 7 k1) {K : Int32 → rS → Prop} {KE : Int32 → rS → Prop} (hE0 : ∀ (e : Int32) (σ : rS), KE e σ → Run l Ω cX1_pushTogether RX1 5 none rmX1_pushTogether K 133 [none, some (rf Ω 7 k1), some (.int e), none, none] [] σ) : ∀ (n : Nat) (x2 : Int32) (x3 : Int32) (σ : rS), hit (lp (fun (x : (Int32 × Int32)) σ => fX1_pushTogether_L70 k1 x.1 x.2 σ) n (x2, x3) σ) KE → Run l Ω cX1_pushTogether RX1 5 none rmX1_pushTogether K 70 [some (rf Ω 1 0), some (rf Ω 7 k1), some (.int x2), some (.int x3), none] [] σ := by
  intro n
  induction n with
  | zero => intro x2 x3 σ h; exact (h : False).elim
  | succ n ih =>
    intro x2 x3 σ h
    exact rsX1_pushTogether_L70 hW k1 x2 x3 hL0 hL1 σ (fun x2 x3 σ h => ih x2 x3 σ h) (fun e σ h => hE0 e σ h) (hit_lp h)
set_option maxRecDepth 100000 in
set_option maxHeartbeats 4000000 in
theorem ctX1_pushTogether (l : Launch) (Ω : rO) (k1 : Nat) (hL0 : oL Ω 1 0) (hL1 : oL Ω 7 k1) (σ : rS) (K : Int32 → rS → Prop) (h : hit (fX1_pushTogether k1 σ) K) : Ct l Ω yX1_pushTogether cX1_pushTogether 5 none rmX1_pushTogether [rf Ω 1 0, rf Ω 7 k1] σ K := by
  refine Ct.of (own := RX1) (lv := [some (rf Ω 1 0), some (rf Ω 7 k1), none, none, none]) (by decide) rfl (Nat.le_of_ble_eq_true rfl) rfl (fun hW => ?_)
  unfold fX1_pushTogether at h
  refine R_aload_n (i := 0) dX1_pushTogether_0 rfl rfl ?_
  refine R_get foX1_33 hL0 (cE_1 Ω 0 _) rfl dX1_pushTogether_1 ?_
  refine R_iconst (v := (-1)) dX1_pushTogether_4 rfl ?_
  refine R_callSv (ctJ7_fill_53178 l Ω 44 0 128 (-1) (WF.kid hW 9 hL0 rfl) (cE_44 Ω 0) _ _ (hit_mono (hit_bd h) (fun r1 σ2 h => ?_))) okJ7_fill_53178 mw_661 rfl rfl (Nat.le_of_ble_eq_true rfl) rfl rfl ⟨by decide, by decide⟩ ⟨Nat.zero_le _, Nat.zero_le _⟩ dX1_pushTogether_5
  refine R_iconst (v := 0) dX1_pushTogether_8 rfl ?_
  refine R_istore_n (lv2 := [some (rf Ω 1 0), some (rf Ω 7 k1), some (.int 0), none, none]) dX1_pushTogether_9 rfl (by decide) rfl rfl ?_
  refine rlX1_pushTogether_L10 hW k1 hL0 hL1 ?_ fu 0 σ2 (hit_bd h)
  · intro e8 σ7 h
    try dsimp only at h
    refine R_iconst (v := 0) dX1_pushTogether_66 rfl ?_
    refine R_istore_n (lv2 := [some (rf Ω 1 0), some (rf Ω 7 k1), some (.int 0), none, none]) dX1_pushTogether_67 rfl (by decide) rfl rfl ?_
    refine R_iconst (v := 0) dX1_pushTogether_68 rfl ?_
    refine R_istore_n (lv2 := [some (rf Ω 1 0), some (rf Ω 7 k1), some (.int 0), some (.int 0), none]) dX1_pushTogether_69 rfl (by decide) rfl rfl ?_
    refine rlX1_pushTogether_L70 hW k1 hL0 hL1 ?_ fu 0 0 σ7 (hit_bd h)
    · intro e16 σ15 h
      try dsimp only at h
      refine R_aload_n (i := 1) dX1_pushTogether_133 rfl rfl ?_
      refine R_get foX1_120 hL1 (cE_7 Ω k1 _) rfl dX1_pushTogether_134 ?_
      refine R_iconst (v := 2) dX1_pushTogether_137 rfl ?_
      refine R_iload_n (i := 2) dX1_pushTogether_138 rfl rfl ?_
      refine R_iast (WF.kid hW 9 hL1 rfl) (cE_54 Ω k1) (vin 2 3 rfl) dX1_pushTogether_139 ?_
      refine R_st h (fun σ17 h => ?_)
      exact R_vret dX1_pushTogether_140 rfl h
set_option maxRecDepth 100000 in
set_option maxHeartbeats 4000000 in
theorem rnX1_unlinkUnkeptYoung_j51L2 {l : Launch} {Ω : rO} (hW : WF Ω) (k1 : Nat) (x2 : Int32) (hL0 : oL Ω 1 0) (hL1 : oL Ω 7 k1) (σ : rS) {K : Int32 → rS → Prop} {K0 : (Int32 ⊕ Unit) → rS → Prop} (hC : ∀ (x2 : Int32) (σ : rS), K0 (.inl x2) σ → Run l Ω cX1_unlinkUnkeptYoung RX1 4 none rmX1_unlinkUnkeptYoung K 2 [some (rf Ω 1 0), some (rf Ω 7 k1), some (.int x2), none] [] σ) (hE0 : ∀ (e : Unit) (σ : rS), K0 (.inr e) σ → Run l Ω cX1_unlinkUnkeptYoung RX1 4 none rmX1_unlinkUnkeptYoung K 57 [none, none, none, none] [] σ) (h : hit (fX1_unlinkUnkeptYoung_j51L2 k1 x2 σ) K0) : Run l Ω cX1_unlinkUnkeptYoung RX1 4 none rmX1_unlinkUnkeptYoung K 51 [some (rf Ω 1 0), some (rf Ω 7 k1), some (.int x2), none] [] σ := by
  unfold fX1_unlinkUnkeptYoung_j51L2 at h
  refine R_iinc (v := x2 + 1) (lv2 := [some (rf Ω 1 0), some (rf Ω 7 k1), some (.int (x2 + 1)), none]) dX1_unlinkUnkeptYoung_51 rfl rfl (by decide) rfl rfl ?_
  refine R_goto (tgt := 2) dX1_unlinkUnkeptYoung_54 (by decide) ?_
  exact hC (x2 + 1) σ h
set_option maxRecDepth 100000 in
set_option maxHeartbeats 4000000 in
theorem rsX1_unlinkUnkeptYoung_L29 {l : Launch} {Ω : rO} (hW : WF Ω) (k1 : Nat) (x2 : Int32) (x3 : Int32) (hL0 : oL Ω 1 0) (hL1 : oL Ω 7 k1) (σ : rS) {K : Int32 → rS → Prop} {K0 : (Int32 ⊕ Unit) → rS → Prop} (hC : ∀ (x3 : Int32) (σ : rS), K0 (.inl x3) σ → Run l Ω cX1_unlinkUnkeptYoung RX1 4 none rmX1_unlinkUnkeptYoung K 29 [some (rf Ω 1 0), some (rf Ω 7 k1), some (.int x2), some (.int x3)] [] σ) (hE0 : ∀ (e : Unit) (σ : rS), K0 (.inr e) σ → Run l Ω cX1_unlinkUnkeptYoung RX1 4 none rmX1_unlinkUnkeptYoung K 51 [some (rf Ω 1 0), some (rf Ω 7 k1), some (.int x2), none] [] σ) (h : hit (fX1_unlinkUnkeptYoung_L29 k1 x2 x3 σ) K0) : Run l Ω cX1_unlinkUnkeptYoung RX1 4 none rmX1_unlinkUnkeptYoung K 29 [some (rf Ω 1 0), some (rf Ω 7 k1), some (.int x2), some (.int x3)] [] σ := by
  unfold fX1_unlinkUnkeptYoung_L29 at h
  refine R_iload_n (i := 3) dX1_unlinkUnkeptYoung_29 rfl rfl ?_
  refine R_aload_n (i := 1) dX1_unlinkUnkeptYoung_30 rfl rfl ?_
  refine R_iload_n (i := 2) dX1_unlinkUnkeptYoung_31 rfl rfl ?_
  refine R_callVi (ctX7_fieldsOf l Ω k1 x2 hL1 _ _ (hit_mono (hit_bd h) (fun r3 σ4 h => ?_))) okX7_fieldsOf mw_653 hL1 (cE_7 Ω k1 _) rfl rfl (Nat.le_of_ble_eq_true rfl) rfl rfl ⟨by decide, by decide⟩ ⟨Nat.zero_le _, Nat.zero_le _⟩ dX1_unlinkUnkeptYoung_32
  refine R_icmp_ge (tgt := 51) dX1_unlinkUnkeptYoung_35 (by decide) (fun hc => ?_) (fun hc => ?_)
  · have h := hit_f h hc
    refine R_drop (lv2 := [some (rf Ω 1 0), some (rf Ω 7 k1), some (.int x2), none]) 3 rfl ?_
    exact hE0 () σ4 h
  · have h := hit_t h hc
    refine R_aload_n (i := 1) dX1_unlinkUnkeptYoung_38 rfl rfl ?_
    refine R_iload_n (i := 2) dX1_unlinkUnkeptYoung_39 rfl rfl ?_
    refine R_iload_n (i := 3) dX1_unlinkUnkeptYoung_40 rfl rfl ?_
    refine R_iconst (v := (-1)) dX1_unlinkUnkeptYoung_41 rfl ?_
    refine R_callVv (ctX7_setTarget l Ω k1 x2 x3 (-1) hL1 _ _ (hit_mono (hit_bd h) (fun r5 σ6 h => ?_))) okX7_setTarget mw_671 hL1 (cE_7 Ω k1 _) rfl rfl (Nat.le_of_ble_eq_true rfl) rfl rfl ⟨by decide, by decide⟩ ⟨Nat.zero_le _, Nat.zero_le _⟩ dX1_unlinkUnkeptYoung_42
    refine R_iinc (v := x3 + 1) (lv2 := [some (rf Ω 1 0), some (rf Ω 7 k1), some (.int x2), some (.int (x3 + 1))]) dX1_unlinkUnkeptYoung_45 rfl rfl (by decide) rfl rfl ?_
    refine R_goto (tgt := 29) dX1_unlinkUnkeptYoung_48 (by decide) ?_
    exact hC (x3 + 1) σ6 h
set_option maxRecDepth 100000 in
set_option maxHeartbeats 4000000 in
theorem rlX1_unlinkUnkeptYoung_L29 {l : Launch} {Ω : rO} (hW : WF Ω) (k1 : Nat) (x2 : Int32) (hL0 : oL Ω 1 0) (hL1 : oL Ω 7 k1) {K : Int32 → rS → Prop} {KE : Unit → rS → Prop} (hE0 : ∀ (e : Unit) (σ : rS), KE e σ → Run l Ω cX1_unlinkUnkeptYoung RX1 4 none rmX1_unlinkUnkeptYoung K 51 [some (rf Ω 1 0), some (rf Ω 7 k1), some (.int x2), none] [] σ) : ∀ (n : Nat) (x3 : Int32) (σ : rS), hit (lp (fun (x : Int32) σ => fX1_unlinkUnkeptYoung_L29 k1 x2 x σ) n x3 σ) KE → Run l Ω cX1_unlinkUnkeptYoung RX1 4 none rmX1_unlinkUnkeptYoung K 29 [some (rf Ω 1 0), some (rf Ω 7 k1), some (.int x2), some (.int x3)] [] σ := by
  intro n
  induction n with
  | zero => intro x3 σ h; exact (h : False).elim
  | succ n ih =>
    intro x3 σ h
    exact rsX1_unlinkUnkeptYoung_L29 hW k1 x2 x3 hL0 hL1 σ (fun x3 σ h => ih x3 σ h) (fun e σ h => hE0 e σ h) (hit_lp h)
set_option maxRecDepth 100000 in
set_option maxHeartbeats 4000000 in
theorem rsX1_unlinkUnkeptYoung_L2 {l : Launch} {Ω : rO} (hW : WF Ω) (k1 : Nat) (x2 : Int32) (hL0 : oL Ω 1 0) (hL1 : oL Ω 7 k1) (σ : rS) {K : Int32 → rS → Prop} {K0 : (Int32 ⊕ Unit) → rS → Prop} (hC : ∀ (x2 : Int32) (σ : rS), K0 (.inl x2) σ → Run l Ω cX1_unlinkUnkeptYoung RX1 4 none rmX1_unlinkUnkeptYoung K 2 [some (rf Ω 1 0), some (rf Ω 7 k1), some (.int x2), none] [] σ) (hE0 : ∀ (e : Unit) (σ : rS), K0 (.inr e) σ → Run l Ω cX1_unlinkUnkeptYoung RX1 4 none rmX1_unlinkUnkeptYoung K 57 [none, none, none, none] [] σ) (h : hit (fX1_unlinkUnkeptYoung_L2 k1 x2 σ) K0) : Run l Ω cX1_unlinkUnkeptYoung RX1 4 none rmX1_unlinkUnkeptYoung K 2 [some (rf Ω 1 0), some (rf Ω 7 k1), some (.int x2), none] [] σ := by
  unfold fX1_unlinkUnkeptYoung_L2 at h
  refine R_iload_n (i := 2) dX1_unlinkUnkeptYoung_2 rfl rfl ?_
  refine R_aload_n (i := 1) dX1_unlinkUnkeptYoung_3 rfl rfl ?_
  refine R_get foX1_123 hL1 (cE_7 Ω k1 _) rfl dX1_unlinkUnkeptYoung_4 ?_
  refine R_icmp_ge (tgt := 57) dX1_unlinkUnkeptYoung_7 (by decide) (fun hc => ?_) (fun hc => ?_)
  · have h := hit_f h hc
    refine R_drop (lv2 := [none, some (rf Ω 7 k1), some (.int x2), none]) 0 rfl ?_
    refine R_drop (lv2 := [none, none, some (.int x2), none]) 1 rfl ?_
    refine R_drop (lv2 := [none, none, none, none]) 2 rfl ?_
    exact hE0 () σ h
  · have h := hit_t h hc
    refine R_aload_n (i := 1) dX1_unlinkUnkeptYoung_10 rfl rfl ?_
    refine R_iload_n (i := 2) dX1_unlinkUnkeptYoung_11 rfl rfl ?_
    refine R_callVi (ctX7_isYoung l Ω k1 x2 hL1 _ _ (hit_mono (hit_bd h) (fun r1 σ2 h => ?_))) okX7_isYoung mw_628 hL1 (cE_7 Ω k1 _) rfl rfl (Nat.le_of_ble_eq_true rfl) rfl rfl ⟨by decide, by decide⟩ ⟨Nat.zero_le _, Nat.zero_le _⟩ dX1_unlinkUnkeptYoung_12
    refine R_if_eq (tgt := 51) dX1_unlinkUnkeptYoung_15 (by decide) (fun hc => ?_) (fun hc => ?_)
    · have h := hit_t h hc
      exact rnX1_unlinkUnkeptYoung_j51L2 hW k1 x2 hL0 hL1 σ2 hC hE0 h
    · have h := hit_f h hc
      refine R_aload_n (i := 0) dX1_unlinkUnkeptYoung_18 rfl rfl ?_
      refine R_get foX1_15 hL0 (cE_1 Ω 0 _) rfl dX1_unlinkUnkeptYoung_19 ?_
      refine R_iload_n (i := 2) dX1_unlinkUnkeptYoung_22 rfl rfl ?_
      obtain ⟨hb, h⟩ := hit_bnd h
      refine R_iald (WF.kid hW 3 hL0 rfl) (cE_38 Ω 0 _) hb dX1_unlinkUnkeptYoung_23 ?_
      refine R_if_ne (tgt := 51) dX1_unlinkUnkeptYoung_24 (by decide) (fun hc => ?_) (fun hc => ?_)
      · have h := hit_f h hc
        exact rnX1_unlinkUnkeptYoung_j51L2 hW k1 x2 hL0 hL1 σ2 hC hE0 h
      · have h := hit_t h hc
        refine R_iconst (v := 0) dX1_unlinkUnkeptYoung_27 rfl ?_
        refine R_istore_n (lv2 := [some (rf Ω 1 0), some (rf Ω 7 k1), some (.int x2), some (.int 0)]) dX1_unlinkUnkeptYoung_28 rfl (by decide) rfl rfl ?_
        refine rlX1_unlinkUnkeptYoung_L29 hW k1 x2 hL0 hL1 ?_ fu 0 σ2 (hit_bd h)
        · intro e8 σ7 h
          try dsimp only at h
          exact rnX1_unlinkUnkeptYoung_j51L2 hW k1 x2 hL0 hL1 σ7 hC hE0 h
set_option maxRecDepth 100000 in
set_option maxHeartbeats 4000000 in
theorem rlX1_unlinkUnkeptYoung_L2 {l : Launch} {Ω : rO} (hW : WF Ω) (k1 : Nat) (hL0 : oL Ω 1 0) (hL1 : oL Ω 7 k1) {K : Int32 → rS → Prop} {KE : Unit → rS → Prop} (hE0 : ∀ (e : Unit) (σ : rS), KE e σ → Run l Ω cX1_unlinkUnkeptYoung RX1 4 none rmX1_unlinkUnkeptYoung K 57 [none, none, none, none] [] σ) : ∀ (n : Nat) (x2 : Int32) (σ : rS), hit (lp (fun (x : Int32) σ => fX1_unlinkUnkeptYoung_L2 k1 x σ) n x2 σ) KE → Run l Ω cX1_unlinkUnkeptYoung RX1 4 none rmX1_unlinkUnkeptYoung K 2 [some (rf Ω 1 0), some (rf Ω 7 k1), some (.int x2), none] [] σ := by
  intro n
  induction n with
  | zero => intro x2 σ h; exact (h : False).elim
  | succ n ih =>
    intro x2 σ h
    exact rsX1_unlinkUnkeptYoung_L2 hW k1 x2 hL0 hL1 σ (fun x2 σ h => ih x2 σ h) (fun e σ h => hE0 e σ h) (hit_lp h)
set_option maxRecDepth 100000 in
set_option maxHeartbeats 4000000 in
theorem ctX1_unlinkUnkeptYoung (l : Launch) (Ω : rO) (k1 : Nat) (hL0 : oL Ω 1 0) (hL1 : oL Ω 7 k1) (σ : rS) (K : Int32 → rS → Prop) (h : hit (fX1_unlinkUnkeptYoung k1 σ) K) : Ct l Ω yX1_unlinkUnkeptYoung cX1_unlinkUnkeptYoung 4 none rmX1_unlinkUnkeptYoung [rf Ω 1 0, rf Ω 7 k1] σ K := by
  refine Ct.of (own := RX1) (lv := [some (rf Ω 1 0), some (rf Ω 7 k1), none, none]) (by decide) rfl (Nat.le_of_ble_eq_true rfl) rfl (fun hW => ?_)
  unfold fX1_unlinkUnkeptYoung at h
  refine R_iconst (v := 0) dX1_unlinkUnkeptYoung_0 rfl ?_
  refine R_istore_n (lv2 := [some (rf Ω 1 0), some (rf Ω 7 k1), some (.int 0), none]) dX1_unlinkUnkeptYoung_1 rfl (by decide) rfl rfl ?_
  refine rlX1_unlinkUnkeptYoung_L2 hW k1 hL0 hL1 ?_ fu 0 σ (hit_bd h)
  · intro e10 σ9 h
    try dsimp only at h
    exact R_vret dX1_unlinkUnkeptYoung_57 rfl h
set_option maxRecDepth 100000 in
set_option maxHeartbeats 4000000 in
theorem ctX1_collectAll (l : Launch) (Ω : rO) (k1 : Nat) (hL0 : oL Ω 1 0) (hL1 : oL Ω 7 k1) (σ : rS) (K : Int32 → rS → Prop) (h : hit (fX1_collectAll k1 σ) K) : Ct l Ω yX1_collectAll cX1_collectAll 2 none rmX1_collectAll [rf Ω 1 0, rf Ω 7 k1] σ K := by
  refine Ct.of (own := RX1) (lv := [some (rf Ω 1 0), some (rf Ω 7 k1)]) (by decide) rfl (Nat.le_of_ble_eq_true rfl) rfl (fun hW => ?_)
  unfold fX1_collectAll at h
  refine R_aload_n (i := 0) dX1_collectAll_0 rfl rfl ?_
  refine R_get foX1_9 hL0 (cE_1 Ω 0 _) rfl dX1_collectAll_1 ?_
  refine R_iconst (v := 0) dX1_collectAll_4 rfl ?_
  refine R_callSv (ctJ7_fill_53178 l Ω 37 0 5 0 (WF.kid hW 2 hL0 rfl) (cE_37 Ω 0) _ _ (hit_mono (hit_bd h) (fun r1 σ2 h => ?_))) okJ7_fill_53178 mw_661 rfl rfl (Nat.le_of_ble_eq_true rfl) rfl rfl ⟨by decide, by decide⟩ ⟨Nat.zero_le _, Nat.zero_le _⟩ dX1_collectAll_5
  refine R_aload_n (i := 0) dX1_collectAll_8 rfl rfl ?_
  refine R_get foX1_39 hL0 (cE_1 Ω 0 _) rfl dX1_collectAll_9 ?_
  refine R_aload_n (i := 1) dX1_collectAll_12 rfl rfl ?_
  refine R_iconst (v := (-1)) dX1_collectAll_13 rfl ?_
  refine R_callVv (ctX3_reach l Ω k1 (-1) (WF.kid hW 1 hL0 rfl) hL1 _ _ (hit_mono (hit_bd h) (fun r3 σ4 h => ?_))) okX3_reach mw_732 (WF.kid hW 1 hL0 rfl) (cE_3 Ω 0 _) rfl rfl (Nat.le_of_ble_eq_true rfl) rfl rfl ⟨by decide, by decide⟩ ⟨Nat.zero_le _, Nat.zero_le _⟩ dX1_collectAll_14
  refine R_aload_n (i := 0) dX1_collectAll_17 rfl rfl ?_
  refine R_aload_n (i := 1) dX1_collectAll_18 rfl rfl ?_
  refine R_callVv (ctX1_stageByMarks l Ω k1 hL0 hL1 _ _ (hit_mono (hit_bd h) (fun r5 σ6 h => ?_))) okX1_stageByMarks mw_753 hL0 (cE_1 Ω 0 _) rfl rfl (Nat.le_of_ble_eq_true rfl) rfl rfl ⟨by decide, by decide⟩ ⟨Nat.zero_le _, Nat.zero_le _⟩ dX1_collectAll_19
  refine R_aload_n (i := 0) dX1_collectAll_22 rfl rfl ?_
  refine R_aload_n (i := 1) dX1_collectAll_23 rfl rfl ?_
  refine R_callVv (ctX1_markLasting l Ω k1 hL0 hL1 _ _ (hit_mono (hit_bd h) (fun r7 σ8 h => ?_))) okX1_markLasting mw_761 hL0 (cE_1 Ω 0 _) rfl rfl (Nat.le_of_ble_eq_true rfl) rfl rfl ⟨by decide, by decide⟩ ⟨Nat.zero_le _, Nat.zero_le _⟩ dX1_collectAll_24
  refine R_aload_n (i := 0) dX1_collectAll_27 rfl rfl ?_
  refine R_aload_n (i := 1) dX1_collectAll_28 rfl rfl ?_
  refine R_iconst (v := 1) dX1_collectAll_29 rfl ?_
  refine R_callVv (ctX1_emptyWeak l Ω k1 1 hL0 hL1 _ _ (hit_mono (hit_bd h) (fun r9 σ10 h => ?_))) okX1_emptyWeak mw_662 hL0 (cE_1 Ω 0 _) rfl rfl (Nat.le_of_ble_eq_true rfl) rfl rfl ⟨by decide, by decide⟩ ⟨Nat.zero_le _, Nat.zero_le _⟩ dX1_collectAll_30
  refine R_aload_n (i := 0) dX1_collectAll_33 rfl rfl ?_
  refine R_aload_n (i := 1) dX1_collectAll_34 rfl rfl ?_
  refine R_callVv (ctX1_lineUpLasting l Ω k1 hL0 hL1 _ _ (hit_mono (hit_bd h) (fun r11 σ12 h => ?_))) okX1_lineUpLasting mw_680 hL0 (cE_1 Ω 0 _) rfl rfl (Nat.le_of_ble_eq_true rfl) rfl rfl ⟨by decide, by decide⟩ ⟨Nat.zero_le _, Nat.zero_le _⟩ dX1_collectAll_35
  refine R_aload_n (i := 0) dX1_collectAll_38 rfl rfl ?_
  refine R_aload_n (i := 1) dX1_collectAll_39 rfl rfl ?_
  refine R_iconst (v := 2) dX1_collectAll_40 rfl ?_
  refine R_callVv (ctX1_emptyWeak l Ω k1 2 hL0 hL1 _ _ (hit_mono (hit_bd h) (fun r13 σ14 h => ?_))) okX1_emptyWeak mw_662 hL0 (cE_1 Ω 0 _) rfl rfl (Nat.le_of_ble_eq_true rfl) rfl rfl ⟨by decide, by decide⟩ ⟨Nat.zero_le _, Nat.zero_le _⟩ dX1_collectAll_41
  refine R_aload_n (i := 0) dX1_collectAll_44 rfl rfl ?_
  refine R_aload_n (i := 1) dX1_collectAll_45 rfl rfl ?_
  refine R_callVv (ctX1_pushTogether l Ω k1 hL0 hL1 _ _ (hit_mono (hit_bd h) (fun r15 σ16 h => ?_))) okX1_pushTogether mw_767 hL0 (cE_1 Ω 0 _) rfl rfl (Nat.le_of_ble_eq_true rfl) rfl rfl ⟨by decide, by decide⟩ ⟨Nat.zero_le _, Nat.zero_le _⟩ dX1_collectAll_46
  refine R_aload_n (i := 0) dX1_collectAll_49 rfl rfl ?_
  refine R_aload_n (i := 1) dX1_collectAll_50 rfl rfl ?_
  refine R_callVv (ctX1_unlinkUnkeptYoung l Ω k1 hL0 hL1 _ _ (hit_mono (hit_bd h) (fun r17 σ18 h => ?_))) okX1_unlinkUnkeptYoung mw_772 hL0 (cE_1 Ω 0 _) rfl rfl (Nat.le_of_ble_eq_true rfl) rfl rfl ⟨by decide, by decide⟩ ⟨Nat.zero_le _, Nat.zero_le _⟩ dX1_collectAll_51
  refine R_aload_n (i := 0) dX1_collectAll_54 rfl rfl ?_
  refine R_aload_n (i := 1) dX1_collectAll_55 rfl rfl ?_
  refine R_callVv (ctX1_dropRemembered l Ω k1 hL0 hL1 _ _ (hit_mono (hit_bd h) (fun r19 σ20 h => ?_))) okX1_dropRemembered mw_688 hL0 (cE_1 Ω 0 _) rfl rfl (Nat.le_of_ble_eq_true rfl) rfl rfl ⟨by decide, by decide⟩ ⟨Nat.zero_le _, Nat.zero_le _⟩ dX1_collectAll_56
  refine R_aload_n (i := 0) dX1_collectAll_59 rfl rfl ?_
  refine R_aload_n (i := 1) dX1_collectAll_60 rfl rfl ?_
  refine R_iconst (v := 1) dX1_collectAll_61 rfl ?_
  refine R_callVv (ctX1_nameSlotsAnew l Ω k1 1 hL0 hL1 _ _ (hit_mono (hit_bd h) (fun r21 σ22 h => ?_))) okX1_nameSlotsAnew mw_706 hL0 (cE_1 Ω 0 _) rfl rfl (Nat.le_of_ble_eq_true rfl) rfl rfl ⟨by decide, by decide⟩ ⟨Nat.zero_le _, Nat.zero_le _⟩ dX1_collectAll_62
  refine R_aload_n (i := 1) dX1_collectAll_65 rfl rfl ?_
  refine R_aload_n (i := 0) dX1_collectAll_66 rfl rfl ?_
  refine R_get foX1_27 hL0 (cE_1 Ω 0 _) rfl dX1_collectAll_67 ?_
  refine R_callVv (ctX7_closeUp l Ω k1 hL1 (WF.kid hW 7 hL0 rfl) _ _ (hit_mono (hit_bd h) (fun r23 σ24 h => ?_))) okX7_closeUp mw_710 hL1 (cE_7 Ω k1 _) rfl rfl (Nat.le_of_ble_eq_true rfl) rfl rfl ⟨by decide, by decide⟩ ⟨Nat.zero_le _, Nat.zero_le _⟩ dX1_collectAll_70
  refine R_aload_n (i := 1) dX1_collectAll_73 rfl rfl ?_
  refine R_get foX1_93 hL1 (cE_7 Ω k1 _) rfl dX1_collectAll_74 ?_
  refine R_iconst (v := 2) dX1_collectAll_77 rfl ?_
  refine R_dup2 dX1_collectAll_78 rfl rfl ?_
  refine R_iald (WF.kid hW 10 hL1 rfl) (cE_55 Ω k1 _) (vin 2 8 rfl) dX1_collectAll_79 ?_
  refine R_iconst (v := 1) dX1_collectAll_80 rfl ?_
  refine R_iadd dX1_collectAll_81 ?_
  refine R_iast (WF.kid hW 10 hL1 rfl) (cE_55 Ω k1) (vin 2 8 rfl) dX1_collectAll_82 ?_
  refine R_st h (fun σ25 h => ?_)
  refine R_aload_n (i := 0) dX1_collectAll_83 rfl rfl ?_
  refine R_aload_n (i := 1) dX1_collectAll_84 rfl rfl ?_
  refine R_iconst (v := 2) dX1_collectAll_85 rfl ?_
  refine R_callVv (ctX1_addCounts l Ω k1 2 hL0 hL1 _ _ (hit_mono (hit_bd h) (fun r26 σ27 h => ?_))) okX1_addCounts mw_723 hL0 (cE_1 Ω 0 _) rfl rfl (Nat.le_of_ble_eq_true rfl) rfl rfl ⟨by decide, by decide⟩ ⟨Nat.zero_le _, Nat.zero_le _⟩ dX1_collectAll_86
  exact R_vret dX1_collectAll_89 rfl h
set_option maxRecDepth 100000 in
set_option maxHeartbeats 4000000 in
theorem ctJ7_rangeCheck_23922 (l : Launch) (Ω : rO) (x0 : Int32) (x1 : Int32) (x2 : Int32) (σ : rS) (K : Int32 → rS → Prop) (h : hit (fJ7_rangeCheck_23922 x0 x1 x2 σ) K) : Ct l Ω yJ7_rangeCheck_23922 cJ7_rangeCheck_23922 3 none rmJ7_rangeCheck_23922 [.int x0, .int x1, .int x2] σ K := by
  refine Ct.of (own := RJ7) (lv := [some (.int x0), some (.int x1), some (.int x2)]) (by decide) rfl (Nat.le_of_ble_eq_true rfl) rfl (fun hW => ?_)
  unfold fJ7_rangeCheck_23922 at h
  refine R_iload_n (i := 1) dJ7_rangeCheck_23922_0 rfl rfl ?_
  refine R_iload_n (i := 2) dJ7_rangeCheck_23922_1 rfl rfl ?_
  refine R_icmp_le (tgt := 46) dJ7_rangeCheck_23922_2 (by decide) (fun hc => ?_) (fun hc => ?_)
  · have h := hit_f h hc
    refine R_iload_n (i := 1) dJ7_rangeCheck_23922_46 rfl rfl ?_
    refine R_if_ge (tgt := 59) dJ7_rangeCheck_23922_47 (by decide) (fun hc => ?_) (fun hc => ?_)
    · have h := hit_f h hc
      refine R_iload_n (i := 2) dJ7_rangeCheck_23922_59 rfl rfl ?_
      refine R_iload_n (i := 0) dJ7_rangeCheck_23922_60 rfl rfl ?_
      refine R_icmp_le (tgt := 73) dJ7_rangeCheck_23922_61 (by decide) (fun hc => ?_) (fun hc => ?_)
      · have h := hit_f h hc
        exact R_vret dJ7_rangeCheck_23922_73 rfl h
      · have h := hit_t h hc
        exact (h : False).elim
    · have h := hit_t h hc
      exact (h : False).elim
  · have h := hit_t h hc
    exact (h : False).elim
set_option maxRecDepth 100000 in
set_option maxHeartbeats 4000000 in
theorem rsJ7_fill_fda19_L10 {l : Launch} {Ω : rO} (hW : WF Ω) (c0 k0 n0 : Nat) (x2 : Int32) (x3 : Int32) (x4 : Int32) (hL0 : oL Ω c0 k0) (hg0 : ∀ r, cE Ω c0 k0 r = .inl (Ω.2.1 0, n0, .inl r)) (σ : rS) {K : Int32 → rS → Prop} {K0 : (Int32 ⊕ Unit) → rS → Prop} (hC : ∀ (x4 : Int32) (σ : rS), K0 (.inl x4) σ → Run l Ω cJ7_fill_fda19 RJ7 5 none rmJ7_fill_fda19 K 10 [some (rf Ω c0 k0), none, some (.int x2), some (.int x3), some (.int x4)] [] σ) (hE0 : ∀ (e : Unit) (σ : rS), K0 (.inr e) σ → Run l Ω cJ7_fill_fda19 RJ7 5 none rmJ7_fill_fda19 K 27 [none, none, none, none, none] [] σ) (h : hit (fJ7_fill_fda19_L10 c0 k0 n0 x2 x3 x4 σ) K0) : Run l Ω cJ7_fill_fda19 RJ7 5 none rmJ7_fill_fda19 K 10 [some (rf Ω c0 k0), none, some (.int x2), some (.int x3), some (.int x4)] [] σ := by
  unfold fJ7_fill_fda19_L10 at h
  refine R_iload (i := 4) dJ7_fill_fda19_10 rfl ?_
  refine R_iload_n (i := 2) dJ7_fill_fda19_12 rfl rfl ?_
  refine R_icmp_ge (tgt := 27) dJ7_fill_fda19_13 (by decide) (fun hc => ?_) (fun hc => ?_)
  · have h := hit_f h hc
    refine R_drop (lv2 := [none, none, some (.int x2), some (.int x3), some (.int x4)]) 0 rfl ?_
    refine R_drop (lv2 := [none, none, none, some (.int x3), some (.int x4)]) 2 rfl ?_
    refine R_drop (lv2 := [none, none, none, none, some (.int x4)]) 3 rfl ?_
    refine R_drop (lv2 := [none, none, none, none, none]) 4 rfl ?_
    exact hE0 () σ h
  · have h := hit_t h hc
    refine R_aload_n (i := 0) dJ7_fill_fda19_16 rfl rfl ?_
    refine R_iload (i := 4) dJ7_fill_fda19_17 rfl ?_
    refine R_iload_n (i := 3) dJ7_fill_fda19_19 rfl rfl ?_
    obtain ⟨hb, h⟩ := hit_bnd h
    refine R_iast hL0 hg0 hb dJ7_fill_fda19_20 ?_
    refine R_st h (fun σ3 h => ?_)
    refine R_iinc (v := x4 + 1) (lv2 := [some (rf Ω c0 k0), none, some (.int x2), some (.int x3), some (.int (x4 + 1))]) dJ7_fill_fda19_21 rfl rfl (by decide) rfl rfl ?_
    refine R_goto (tgt := 10) dJ7_fill_fda19_24 (by decide) ?_
    exact hC (x4 + 1) σ3 h
set_option maxRecDepth 100000 in
set_option maxHeartbeats 4000000 in
theorem rlJ7_fill_fda19_L10 {l : Launch} {Ω : rO} (hW : WF Ω) (c0 k0 n0 : Nat) (x2 : Int32) (x3 : Int32) (hL0 : oL Ω c0 k0) (hg0 : ∀ r, cE Ω c0 k0 r = .inl (Ω.2.1 0, n0, .inl r)) {K : Int32 → rS → Prop} {KE : Unit → rS → Prop} (hE0 : ∀ (e : Unit) (σ : rS), KE e σ → Run l Ω cJ7_fill_fda19 RJ7 5 none rmJ7_fill_fda19 K 27 [none, none, none, none, none] [] σ) : ∀ (n : Nat) (x4 : Int32) (σ : rS), hit (lp (fun (x : Int32) σ => fJ7_fill_fda19_L10 c0 k0 n0 x2 x3 x σ) n x4 σ) KE → Run l Ω cJ7_fill_fda19 RJ7 5 none rmJ7_fill_fda19 K 10 [some (rf Ω c0 k0), none, some (.int x2), some (.int x3), some (.int x4)] [] σ := by
  intro n
  induction n with
  | zero => intro x4 σ h; exact (h : False).elim
  | succ n ih =>
    intro x4 σ h
    exact rsJ7_fill_fda19_L10 hW c0 k0 n0 x2 x3 x4 hL0 hg0 σ (fun x4 σ h => ih x4 σ h) (fun e σ h => hE0 e σ h) (hit_lp h)
set_option maxRecDepth 100000 in
set_option maxHeartbeats 4000000 in
theorem ctJ7_fill_fda19 (l : Launch) (Ω : rO) (c0 k0 n0 : Nat) (x1 : Int32) (x2 : Int32) (x3 : Int32) (hL0 : oL Ω c0 k0) (hg0 : ∀ r, cE Ω c0 k0 r = .inl (Ω.2.1 0, n0, .inl r)) (σ : rS) (K : Int32 → rS → Prop) (h : hit (fJ7_fill_fda19 c0 k0 n0 x1 x2 x3 σ) K) : Ct l Ω yJ7_fill_fda19 cJ7_fill_fda19 5 none rmJ7_fill_fda19 [rf Ω c0 k0, .int x1, .int x2, .int x3] σ K := by
  refine Ct.of (own := RJ7) (lv := [some (rf Ω c0 k0), some (.int x1), some (.int x2), some (.int x3), none]) (by decide) rfl (Nat.le_of_ble_eq_true rfl) rfl (fun hW => ?_)
  unfold fJ7_fill_fda19 at h
  refine R_aload_n (i := 0) dJ7_fill_fda19_0 rfl rfl ?_
  refine R_alen (v := nI n0) hL0 (hg0 _) (t0 := 0) rfl rfl dJ7_fill_fda19_1 ?_
  refine R_iload_n (i := 1) dJ7_fill_fda19_2 rfl rfl ?_
  refine R_iload_n (i := 2) dJ7_fill_fda19_3 rfl rfl ?_
  refine R_callSv (ctJ7_rangeCheck_23922 l Ω (nI n0) x1 x2 _ _ (hit_mono (hit_bd h) (fun r1 σ2 h => ?_))) okJ7_rangeCheck_23922 mw_783 rfl rfl (Nat.le_of_ble_eq_true rfl) rfl rfl ⟨by decide, by decide⟩ ⟨Nat.zero_le _, Nat.zero_le _⟩ dJ7_fill_fda19_4
  refine R_iload_n (i := 1) dJ7_fill_fda19_7 rfl rfl ?_
  refine R_istore (lv2 := [some (rf Ω c0 k0), some (.int x1), some (.int x2), some (.int x3), some (.int x1)]) dJ7_fill_fda19_8 (by decide) rfl rfl ?_
  refine R_drop (lv2 := [some (rf Ω c0 k0), none, some (.int x2), some (.int x3), some (.int x1)]) 1 rfl ?_
  refine rlJ7_fill_fda19_L10 hW c0 k0 n0 x2 x3 hL0 hg0 ?_ fu x1 σ2 (hit_bd h)
  · intro e5 σ4 h
    try dsimp only at h
    exact R_vret dJ7_fill_fda19_27 rfl h
