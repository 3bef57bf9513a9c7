set_option maxRecDepth 100000 in
set_option maxHeartbeats 4000000 in
theorem rnX10_readScript_j55L4 {l : Launch} {Ω : rO} (hW : WF Ω) (x1 : Int32) (x2 : Int32) (hL0 : oL Ω 10 0) (σ : rS) {K : Int32 → rS → Prop} {K0 : ((Int32 × Int32) ⊕ (Unit ⊕ (Unit ⊕ Int32))) → rS → Prop} (hC : ∀ (x1 : Int32) (x2 : Int32) (σ : rS), K0 (.inl (x1, x2)) σ → Run l Ω cX10_readScript RX10 3 none rmX10_readScript K 4 [some (rf Ω 10 0), some (.int x1), some (.int x2)] [] σ) (hE0 : ∀ (e : Unit) (σ : rS), K0 (.inr (.inl e)) σ → Run l Ω cX10_readScript RX10 3 none rmX10_readScript K 21 [none, none, none] [] σ) (hE1 : ∀ (e : Unit) (σ : rS), K0 (.inr (.inr (.inl e))) σ → Run l Ω cX10_readScript RX10 3 none rmX10_readScript K 50 [some (rf Ω 10 0), none, none] [] σ) (hE2 : ∀ (e : Int32) (σ : rS), K0 (.inr (.inr (.inr e))) σ → Run l Ω cX10_readScript RX10 3 none rmX10_readScript K 72 [some (rf Ω 10 0), some (.int e), none] [] σ) (h : hit (fX10_readScript_j55L4 x1 x2 σ) K0) : Run l Ω cX10_readScript RX10 3 none rmX10_readScript K 55 [some (rf Ω 10 0), some (.int x1), some (.int x2)] [] σ := by
  unfold fX10_readScript_j55L4 at h
  refine R_iload_n (i := 2) dX10_readScript_55 rfl rfl ?_
  refine R_if_eq (tgt := 4) dX10_readScript_56 (by decide) (fun hc => ?_) (fun hc => ?_)
  · have h := hit_t h hc
    exact hC x1 x2 σ h
  · have h := hit_f h hc
    refine R_aload_n (i := 0) dX10_readScript_59 rfl rfl ?_
    refine R_dup dX10_readScript_60 rfl ?_
    refine R_get foX10_88 hL0 (cE_10 Ω 0 _) rfl dX10_readScript_61 ?_
    refine R_iconst (v := 1) dX10_readScript_64 rfl ?_
    refine R_iadd dX10_readScript_65 ?_
    refine R_put poX10_88 hL0 (cE_10 Ω 0 _) (cP_10_3 Ω 0 _ _) (Nat.le_of_ble_eq_true rfl) dX10_readScript_66 ?_
    refine R_st h (fun σ5 h => ?_)
    refine R_goto (tgt := 4) dX10_readScript_69 (by decide) ?_
    exact hC x1 x2 σ5 h
set_option maxRecDepth 100000 in
set_option maxHeartbeats 4000000 in
theorem rnX10_readScript_j39L4 {l : Launch} {Ω : rO} (hW : WF Ω) (x1 : Int32) (z0 : Int32) (hL0 : oL Ω 10 0) (σ : rS) {K : Int32 → rS → Prop} {K0 : ((Int32 × Int32) ⊕ (Unit ⊕ (Unit ⊕ Int32))) → rS → Prop} (hC : ∀ (x1 : Int32) (x2 : Int32) (σ : rS), K0 (.inl (x1, x2)) σ → Run l Ω cX10_readScript RX10 3 none rmX10_readScript K 4 [some (rf Ω 10 0), some (.int x1), some (.int x2)] [] σ) (hE0 : ∀ (e : Unit) (σ : rS), K0 (.inr (.inl e)) σ → Run l Ω cX10_readScript RX10 3 none rmX10_readScript K 21 [none, none, none] [] σ) (hE1 : ∀ (e : Unit) (σ : rS), K0 (.inr (.inr (.inl e))) σ → Run l Ω cX10_readScript RX10 3 none rmX10_readScript K 50 [some (rf Ω 10 0), none, none] [] σ) (hE2 : ∀ (e : Int32) (σ : rS), K0 (.inr (.inr (.inr e))) σ → Run l Ω cX10_readScript RX10 3 none rmX10_readScript K 72 [some (rf Ω 10 0), some (.int e), none] [] σ) (h : hit (fX10_readScript_j39L4 x1 z0 σ) K0) : Run l Ω cX10_readScript RX10 3 none rmX10_readScript K 39 [some (rf Ω 10 0), some (.int x1), none] [.int z0] σ := by
  unfold fX10_readScript_j39L4 at h
  refine R_istore_n (lv2 := [some (rf Ω 10 0), some (.int x1), some (.int z0)]) dX10_readScript_39 rfl (by decide) rfl rfl ?_
  refine R_iload_n (i := 2) dX10_readScript_40 rfl rfl ?_
  refine R_if_eq (tgt := 55) dX10_readScript_41 (by decide) (fun hc => ?_) (fun hc => ?_)
  · have h := hit_t h hc
    exact rnX10_readScript_j55L4 hW x1 z0 hL0 σ hC hE0 hE1 hE2 h
  · have h := hit_f h hc
    refine R_iload_n (i := 1) dX10_readScript_44 rfl rfl ?_
    refine R_bipush (v := 16) dX10_readScript_45 rfl ?_
    refine R_icmp_ne (tgt := 55) dX10_readScript_47 (by decide) (fun hc => ?_) (fun hc => ?_)
    · have h := hit_f h hc
      exact rnX10_readScript_j55L4 hW x1 z0 hL0 σ hC hE0 hE1 hE2 h
    · have h := hit_t h hc
      refine R_drop (lv2 := [some (rf Ω 10 0), none, some (.int z0)]) 1 rfl ?_
      refine R_drop (lv2 := [some (rf Ω 10 0), none, none]) 2 rfl ?_
      exact hE1 () σ h
set_option maxRecDepth 100000 in
set_option maxHeartbeats 4000000 in
theorem rsX10_readScript_L4 {l : Launch} {Ω : rO} (hW : WF Ω) (x1 : Int32) (x2 : Int32) (hL0 : oL Ω 10 0) (σ : rS) {K : Int32 → rS → Prop} {K0 : ((Int32 × Int32) ⊕ (Unit ⊕ (Unit ⊕ Int32))) → rS → Prop} (hC : ∀ (x1 : Int32) (x2 : Int32) (σ : rS), K0 (.inl (x1, x2)) σ → Run l Ω cX10_readScript RX10 3 none rmX10_readScript K 4 [some (rf Ω 10 0), some (.int x1), some (.int x2)] [] σ) (hE0 : ∀ (e : Unit) (σ : rS), K0 (.inr (.inl e)) σ → Run l Ω cX10_readScript RX10 3 none rmX10_readScript K 21 [none, none, none] [] σ) (hE1 : ∀ (e : Unit) (σ : rS), K0 (.inr (.inr (.inl e))) σ → Run l Ω cX10_readScript RX10 3 none rmX10_readScript K 50 [some (rf Ω 10 0), none, none] [] σ) (hE2 : ∀ (e : Int32) (σ : rS), K0 (.inr (.inr (.inr e))) σ → Run l Ω cX10_readScript RX10 3 none rmX10_readScript K 72 [some (rf Ω 10 0), some (.int e), none] [] σ) (h : hit (fX10_readScript_L4 x1 x2 σ) K0) : Run l Ω cX10_readScript RX10 3 none rmX10_readScript K 4 [some (rf Ω 10 0), some (.int x1), some (.int x2)] [] σ := by
  unfold fX10_readScript_L4 at h
  refine R_iload_n (i := 2) dX10_readScript_4 rfl rfl ?_
  refine R_if_eq (tgt := 72) dX10_readScript_5 (by decide) (fun hc => ?_) (fun hc => ?_)
  · have h := hit_t h hc
    refine R_drop (lv2 := [some (rf Ω 10 0), some (.int x1), none]) 2 rfl ?_
    exact hE2 x1 σ h
  · have h := hit_f h hc
    refine R_aload_n (i := 0) dX10_readScript_8 rfl rfl ?_
    refine R_iload_n (i := 1) dX10_readScript_9 rfl rfl ?_
    refine R_callVv (ctX10_readStep l Ω x1 hL0 _ _ (hit_mono (hit_bd h) (fun r1 σ2 h => ?_))) okX10_readStep mw_1381 hL0 (cE_10 Ω 0 _) rfl rfl (Nat.le_of_ble_eq_true rfl) rfl rfl ⟨by decide, by decide⟩ ⟨Nat.zero_le _, Nat.zero_le _⟩ dX10_readScript_10
    refine R_aload_n (i := 0) dX10_readScript_13 rfl rfl ?_
    refine R_get foX10_95 hL0 (cE_10 Ω 0 _) rfl dX10_readScript_14 ?_
    refine R_iconst (v := (-1)) dX10_readScript_17 rfl ?_
    refine R_icmp_eq (tgt := 22) dX10_readScript_18 (by decide) (fun hc => ?_) (fun hc => ?_)
    · have h := hit_t h hc
      refine R_iinc (v := x1 + 1) (lv2 := [some (rf Ω 10 0), some (.int (x1 + 1)), some (.int x2)]) dX10_readScript_22 rfl rfl (by decide) rfl rfl ?_
      refine R_aload_n (i := 0) dX10_readScript_25 rfl rfl ?_
      refine R_callVi (ctX10_look l Ω hL0 _ _ (hit_mono (hit_bd h) (fun r3 σ4 h => ?_))) okX10_look mw_1322 hL0 (cE_10 Ω 0 _) rfl rfl (Nat.le_of_ble_eq_true rfl) rfl rfl ⟨by decide, by decide⟩ ⟨Nat.zero_le _, Nat.zero_le _⟩ dX10_readScript_26
      refine R_bipush (v := 59) dX10_readScript_29 rfl ?_
      refine R_icmp_ne (tgt := 38) dX10_readScript_31 (by decide) (fun hc => ?_) (fun hc => ?_)
      · have h := hit_f h hc
        refine R_iconst (v := 0) dX10_readScript_38 rfl ?_
        refine R_drop (lv2 := [some (rf Ω 10 0), some (.int (x1 + 1)), none]) 2 rfl ?_
        exact rnX10_readScript_j39L4 hW (x1 + 1) 0 hL0 σ4 hC hE0 hE1 hE2 h
      · have h := hit_t h hc
        refine R_iconst (v := 1) dX10_readScript_34 rfl ?_
        refine R_goto (tgt := 39) dX10_readScript_35 (by decide) ?_
        refine R_drop (lv2 := [some (rf Ω 10 0), some (.int (x1 + 1)), none]) 2 rfl ?_
        exact rnX10_readScript_j39L4 hW (x1 + 1) 1 hL0 σ4 hC hE0 hE1 hE2 h
    · have h := hit_f h hc
      refine R_drop (lv2 := [none, some (.int x1), some (.int x2)]) 0 rfl ?_
      refine R_drop (lv2 := [none, none, some (.int x2)]) 1 rfl ?_
      refine R_drop (lv2 := [none, none, none]) 2 rfl ?_
      exact hE0 () σ2 h
set_option maxRecDepth 100000 in
set_option maxHeartbeats 4000000 in
theorem rlX10_readScript_L4 {l : Launch} {Ω : rO} (hW : WF Ω) (hL0 : oL Ω 10 0) {K : Int32 → rS → Prop} {KE : (Unit ⊕ (Unit ⊕ Int32)) → rS → Prop} (hE0 : ∀ (e : Unit) (σ : rS), KE (.inl e) σ → Run l Ω cX10_readScript RX10 3 none rmX10_readScript K 21 [none, none, none] [] σ) (hE1 : ∀ (e : Unit) (σ : rS), KE (.inr (.inl e)) σ → Run l Ω cX10_readScript RX10 3 none rmX10_readScript K 50 [some (rf Ω 10 0), none, none] [] σ) (hE2 : ∀ (e : Int32) (σ : rS), KE (.inr (.inr e)) σ → Run l Ω cX10_readScript RX10 3 none rmX10_readScript K 72 [some (rf Ω 10 0), some (.int e), none] [] σ) : ∀ (n : Nat) (x1 : Int32) (x2 : Int32) (σ : rS), hit (lp (fun (x : (Int32 × Int32)) σ => fX10_readScript_L4 x.1 x.2 σ) n (x1, x2) σ) KE → Run l Ω cX10_readScript RX10 3 none rmX10_readScript K 4 [some (rf Ω 10 0), some (.int x1), some (.int x2)] [] σ := by
  intro n
  induction n with
  | zero => intro x1 x2 σ h; exact (h : False).elim
  | succ n ih =>
    intro x1 x2 σ h
    exact rsX10_readScript_L4 hW x1 x2 hL0 σ (fun x1 x2 σ h => ih x1 x2 σ h) (fun e σ h => hE0 e σ h) (fun e σ h => hE1 e σ h) (fun e σ h => hE2 e σ h) (hit_lp h)
set_option maxRecDepth 100000 in
set_option maxHeartbeats 4000000 in
theorem ctX10_readScript (l : Launch) (Ω : rO) (hL0 : oL Ω 10 0) (σ : rS) (K : Int32 → rS → Prop) (h : hit (fX10_readScript  σ) K) : Ct l Ω yX10_readScript cX10_readScript 3 none rmX10_readScript [rf Ω 10 0] σ K := by
  refine Ct.of (own := RX10) (lv := [some (rf Ω 10 0), none, none]) (by decide) rfl (Nat.le_of_ble_eq_true rfl) rfl (fun hW => ?_)
  unfold fX10_readScript at h
  refine R_iconst (v := 0) dX10_readScript_0 rfl ?_
  refine R_istore_n (lv2 := [some (rf Ω 10 0), some (.int 0), none]) dX10_readScript_1 rfl (by decide) rfl rfl ?_
  refine R_iconst (v := 1) dX10_readScript_2 rfl ?_
  refine R_istore_n (lv2 := [some (rf Ω 10 0), some (.int 0), some (.int 1)]) dX10_readScript_3 rfl (by decide) rfl rfl ?_
  refine rlX10_readScript_L4 hW hL0 ?_ ?_ ?_ fu 0 1 σ (hit_bd h)
  · intro e7 σ6 h
    try dsimp only at h
    exact R_vret dX10_readScript_21 rfl h
  · intro e8 σ6 h
    try dsimp only at h
    refine R_aload_n (i := 0) dX10_readScript_50 rfl rfl ?_
    refine R_callVv (ctX10_fails l Ω hL0 _ _ (hit_mono (hit_bd h) (fun r9 σ10 h => ?_))) okX10_fails mw_1330 hL0 (cE_10 Ω 0 _) rfl rfl (Nat.le_of_ble_eq_true rfl) rfl rfl ⟨by decide, by decide⟩ ⟨Nat.zero_le _, Nat.zero_le _⟩ dX10_readScript_51
    exact R_vret dX10_readScript_54 rfl h
  · intro e11 σ6 h
    try dsimp only at h
    refine R_aload_n (i := 0) dX10_readScript_72 rfl rfl ?_
    refine R_get foX10_26 hL0 (cE_10 Ω 0 _) rfl dX10_readScript_73 ?_
    refine R_iconst (v := 4) dX10_readScript_76 rfl ?_
    refine R_iload_n (i := 1) dX10_readScript_77 rfl rfl ?_
    refine R_iast (WF.kid hW 5 hL0 rfl) (cE_65 Ω 0) (vin 4 5 rfl) dX10_readScript_78 ?_
    refine R_st h (fun σ12 h => ?_)
    refine R_aload_n (i := 0) dX10_readScript_79 rfl rfl ?_
    refine R_callVi (ctX10_look l Ω hL0 _ _ (hit_mono (hit_bd h) (fun r13 σ14 h => ?_))) okX10_look mw_1322 hL0 (cE_10 Ω 0 _) rfl rfl (Nat.le_of_ble_eq_true rfl) rfl rfl ⟨by decide, by decide⟩ ⟨Nat.zero_le _, Nat.zero_le _⟩ dX10_readScript_80
    refine R_iconst (v := (-1)) dX10_readScript_83 rfl ?_
    refine R_icmp_eq (tgt := 91) dX10_readScript_84 (by decide) (fun hc => ?_) (fun hc => ?_)
    · have h := hit_t h hc
      exact R_vret dX10_readScript_91 rfl h
    · have h := hit_f h hc
      refine R_aload_n (i := 0) dX10_readScript_87 rfl rfl ?_
      refine R_callVv (ctX10_fails l Ω hL0 _ _ (hit_mono (hit_bd h) (fun r15 σ16 h => ?_))) okX10_fails mw_1330 hL0 (cE_10 Ω 0 _) rfl rfl (Nat.le_of_ble_eq_true rfl) rfl rfl ⟨by decide, by decide⟩ ⟨Nat.zero_le _, Nat.zero_le _⟩ dX10_readScript_88
      exact R_vret dX10_readScript_91 rfl h
set_option maxRecDepth 100000 in
set_option maxHeartbeats 4000000 in
theorem ctX10_fault (l : Launch) (Ω : rO) (x1 : Int32) (hL0 : oL Ω 10 0) (σ : rS) (K : Int32 → rS → Prop) (h : hit (fX10_fault x1 σ) K) : Ct l Ω yX10_fault cX10_fault 2 (some .int) rmX10_fault [rf Ω 10 0, .int x1] σ K := by
  refine Ct.of (own := RX10) (lv := [some (rf Ω 10 0), some (.int x1)]) (by decide) rfl (Nat.le_of_ble_eq_true rfl) rfl (fun hW => ?_)
  unfold fX10_fault at h
  refine R_aload_n (i := 0) dX10_fault_0 rfl rfl ?_
  refine R_iconst (v := 0) dX10_fault_1 rfl ?_
  refine R_put poX10_73 hL0 (cE_10 Ω 0 _) (cP_10_0 Ω 0 _ _) (Nat.le_of_ble_eq_true rfl) dX10_fault_2 ?_
  refine R_st h (fun σ1 h => ?_)
  refine R_iload_n (i := 1) dX10_fault_5 rfl rfl ?_
  refine R_i2l dX10_fault_6 ?_
  refine R_lconst (v := 0) dX10_fault_7 rfl ?_
  refine R_lconst (v := 1) dX10_fault_8 rfl ?_
  refine R_callSi (ctX10_isIn l Ω x1.toInt64 0 1 _ _ (hit_mono (hit_bd h) (fun r2 σ3 h => ?_))) okX10_isIn mw_1315 rfl rfl (Nat.le_of_ble_eq_true rfl) rfl rfl ⟨by decide, by decide⟩ ⟨Nat.zero_le _, Nat.zero_le _⟩ dX10_fault_9
  refine R_if_ne (tgt := 18) dX10_fault_12 (by decide) (fun hc => ?_) (fun hc => ?_)
  · have h := hit_f h hc
    refine R_aload_n (i := 0) dX10_fault_18 rfl rfl ?_
    refine R_iconst (v := 0) dX10_fault_19 rfl ?_
    refine R_put poX10_88 hL0 (cE_10 Ω 0 _) (cP_10_3 Ω 0 _ _) (Nat.le_of_ble_eq_true rfl) dX10_fault_20 ?_
    refine R_st h (fun σ4 h => ?_)
    refine R_aload_n (i := 0) dX10_fault_23 rfl rfl ?_
    refine R_iconst (v := (-1)) dX10_fault_24 rfl ?_
    refine R_put poX10_95 hL0 (cE_10 Ω 0 _) (cP_10_4 Ω 0 _ _) (Nat.le_of_ble_eq_true rfl) dX10_fault_25 ?_
    refine R_st h (fun σ5 h => ?_)
    refine R_iload_n (i := 1) dX10_fault_28 rfl rfl ?_
    refine R_if_ne (tgt := 39) dX10_fault_29 (by decide) (fun hc => ?_) (fun hc => ?_)
    · have h := hit_f h hc
      refine R_aload_n (i := 0) dX10_fault_39 rfl rfl ?_
      refine R_callVv (ctX10_readScript l Ω hL0 _ _ (hit_mono (hit_bd h) (fun r6 σ7 h => ?_))) okX10_readScript mw_1377 hL0 (cE_10 Ω 0 _) rfl rfl (Nat.le_of_ble_eq_true rfl) rfl rfl ⟨by decide, by decide⟩ ⟨Nat.zero_le _, Nat.zero_le _⟩ dX10_fault_40
      refine R_aload_n (i := 0) dX10_fault_43 rfl rfl ?_
      refine R_get foX10_95 hL0 (cE_10 Ω 0 _) rfl dX10_fault_44 ?_
      exact R_iret dX10_fault_47 rfl h
    · have h := hit_t h hc
      refine R_aload_n (i := 0) dX10_fault_32 rfl rfl ?_
      refine R_callVv (ctX10_readHeap l Ω hL0 _ _ (hit_mono (hit_bd h) (fun r8 σ9 h => ?_))) okX10_readHeap mw_1318 hL0 (cE_10 Ω 0 _) rfl rfl (Nat.le_of_ble_eq_true rfl) rfl rfl ⟨by decide, by decide⟩ ⟨Nat.zero_le _, Nat.zero_le _⟩ dX10_fault_33
      refine R_goto (tgt := 43) dX10_fault_36 (by decide) ?_
      refine R_aload_n (i := 0) dX10_fault_43 rfl rfl ?_
      refine R_get foX10_95 hL0 (cE_10 Ω 0 _) rfl dX10_fault_44 ?_
      exact R_iret dX10_fault_47 rfl h
  · have h := hit_t h hc
    refine R_bipush (v := (-2)) dX10_fault_15 rfl ?_
    exact R_iret dX10_fault_17 rfl h
set_option maxRecDepth 100000 in
set_option maxHeartbeats 4000000 in
theorem rsX10_text_L122 {l : Launch} {Ω : rO} (hW : WF Ω) (x2 : Int32) (hL0 : oL Ω 10 0) (σ : rS) {K : Int32 → rS → Prop} {K0 : (Int32 ⊕ Unit) → rS → Prop} (hC : ∀ (x2 : Int32) (σ : rS), K0 (.inl x2) σ → Run l Ω cX10_text RX10 4 (some .int) rmX10_text K 122 [some (rf Ω 10 0), none, some (.int x2), none] [] σ) (hE0 : ∀ (e : Unit) (σ : rS), K0 (.inr e) σ → Run l Ω cX10_text RX10 4 (some .int) rmX10_text K 145 [some (rf Ω 10 0), none, none, none] [] σ) (h : hit (fX10_text_L122 x2 σ) K0) : Run l Ω cX10_text RX10 4 (some .int) rmX10_text K 122 [some (rf Ω 10 0), none, some (.int x2), none] [] σ := by
  unfold fX10_text_L122 at h
  refine R_iload_n (i := 2) dX10_text_122 rfl rfl ?_
  refine R_iconst (v := 4) dX10_text_123 rfl ?_
  refine R_icmp_ge (tgt := 145) dX10_text_124 (by decide) (fun hc => ?_) (fun hc => ?_)
  · have h := hit_f h hc
    refine R_drop (lv2 := [some (rf Ω 10 0), none, none, none]) 2 rfl ?_
    exact hE0 () σ h
  · have h := hit_t h hc
    refine R_aload_n (i := 0) dX10_text_127 rfl rfl ?_
    refine R_get foX10_17 hL0 (cE_10 Ω 0 _) rfl dX10_text_128 ?_
    refine R_iload_n (i := 2) dX10_text_131 rfl rfl ?_
    refine R_aload_n (i := 0) dX10_text_132 rfl rfl ?_
    refine R_get foX10_13 hL0 (cE_10 Ω 0 _) rfl dX10_text_133 ?_
    refine R_iload_n (i := 2) dX10_text_136 rfl rfl ?_
    obtain ⟨hb, h⟩ := hit_bnd h
    refine R_iald (WF.kid hW 1 hL0 rfl) (cE_61 Ω 0 _) hb dX10_text_137 ?_
    obtain ⟨hb, h⟩ := hit_bnd h
    refine R_iast (WF.kid hW 2 hL0 rfl) (cE_62 Ω 0) hb dX10_text_138 ?_
    refine R_st h (fun σ7 h => ?_)
    refine R_iinc (v := x2 + 1) (lv2 := [some (rf Ω 10 0), none, some (.int (x2 + 1)), none]) dX10_text_139 rfl rfl (by decide) rfl rfl ?_
    refine R_goto (tgt := 122) dX10_text_142 (by decide) ?_
    exact hC (x2 + 1) σ7 h
set_option maxRecDepth 100000 in
set_option maxHeartbeats 4000000 in
theorem rlX10_text_L122 {l : Launch} {Ω : rO} (hW : WF Ω) (hL0 : oL Ω 10 0) {K : Int32 → rS → Prop} {KE : Unit → rS → Prop} (hE0 : ∀ (e : Unit) (σ : rS), KE e σ → Run l Ω cX10_text RX10 4 (some .int) rmX10_text K 145 [some (rf Ω 10 0), none, none, none] [] σ) : ∀ (n : Nat) (x2 : Int32) (σ : rS), hit (lp (fun (x : Int32) σ => fX10_text_L122 x σ) n x2 σ) KE → Run l Ω cX10_text RX10 4 (some .int) rmX10_text K 122 [some (rf Ω 10 0), none, some (.int x2), none] [] σ := by
  intro n
  induction n with
  | zero => intro x2 σ h; exact (h : False).elim
  | succ n ih =>
    intro x2 σ h
    exact rsX10_text_L122 hW x2 hL0 σ (fun x2 σ h => ih x2 σ h) (fun e σ h => hE0 e σ h) (hit_lp h)
set_option maxRecDepth 100000 in
set_option maxHeartbeats 4000000 in
theorem rsX10_text_L147 {l : Launch} {Ω : rO} (hW : WF Ω) (x2 : Int32) (hL0 : oL Ω 10 0) (σ : rS) {K : Int32 → rS → Prop} {K0 : (Int32 ⊕ Unit) → rS → Prop} (hC : ∀ (x2 : Int32) (σ : rS), K0 (.inl x2) σ → Run l Ω cX10_text RX10 4 (some .int) rmX10_text K 147 [some (rf Ω 10 0), none, some (.int x2), none] [] σ) (hE0 : ∀ (e : Unit) (σ : rS), K0 (.inr e) σ → Run l Ω cX10_text RX10 4 (some .int) rmX10_text K 167 [some (rf Ω 10 0), none, none, none] [] σ) (h : hit (fX10_text_L147 x2 σ) K0) : Run l Ω cX10_text RX10 4 (some .int) rmX10_text K 147 [some (rf Ω 10 0), none, some (.int x2), none] [] σ := by
  unfold fX10_text_L147 at h
  refine R_iload_n (i := 2) dX10_text_147 rfl rfl ?_
  refine R_sipush (v := 1554) dX10_text_148 rfl ?_
  refine R_icmp_ge (tgt := 167) dX10_text_151 (by decide) (fun hc => ?_) (fun hc => ?_)
  · have h := hit_f h hc
    refine R_drop (lv2 := [some (rf Ω 10 0), none, none, none]) 2 rfl ?_
    exact hE0 () σ h
  · have h := hit_t h hc
    refine R_aload_n (i := 0) dX10_text_154 rfl rfl ?_
    refine R_get foX10_29 hL0 (cE_10 Ω 0 _) rfl dX10_text_155 ?_
    refine R_iload_n (i := 2) dX10_text_158 rfl rfl ?_
    refine R_iconst (v := 0) dX10_text_159 rfl ?_
    obtain ⟨hb, h⟩ := hit_bnd h
    refine R_iast (WF.kid hW 6 hL0 rfl) (cE_66 Ω 0) hb dX10_text_160 ?_
    refine R_st h (fun σ10 h => ?_)
    refine R_iinc (v := x2 + 1) (lv2 := [some (rf Ω 10 0), none, some (.int (x2 + 1)), none]) dX10_text_161 rfl rfl (by decide) rfl rfl ?_
    refine R_goto (tgt := 147) dX10_text_164 (by decide) ?_
    exact hC (x2 + 1) σ10 h
set_option maxRecDepth 100000 in
set_option maxHeartbeats 4000000 in
theorem rlX10_text_L147 {l : Launch} {Ω : rO} (hW : WF Ω) (hL0 : oL Ω 10 0) {K : Int32 → rS → Prop} {KE : Unit → rS → Prop} (hE0 : ∀ (e : Unit) (σ : rS), KE e σ → Run l Ω cX10_text RX10 4 (some .int) rmX10_text K 167 [some (rf Ω 10 0), none, none, none] [] σ) : ∀ (n : Nat) (x2 : Int32) (σ : rS), hit (lp (fun (x : Int32) σ => fX10_text_L147 x σ) n x2 σ) KE → Run l Ω cX10_text RX10 4 (some .int) rmX10_text K 147 [some (rf Ω 10 0), none, some (.int x2), none] [] σ := by
  intro n
  induction n with
  | zero => intro x2 σ h; exact (h : False).elim
  | succ n ih =>
    intro x2 σ h
    exact rsX10_text_L147 hW x2 hL0 σ (fun x2 σ h => ih x2 σ h) (fun e σ h => hE0 e σ h) (hit_lp h)
set_option maxRecDepth 100000 in
set_option maxHeartbeats 4000000 in
theorem rsX10_text_L54 {l : Launch} {Ω : rO} (hW : WF Ω) (x2 : Int32) (x3 : Int32) (hL0 : oL Ω 10 0) (σ : rS) {K : Int32 → rS → Prop} {K0 : (Int32 ⊕ Unit) → rS → Prop} (hC : ∀ (x3 : Int32) (σ : rS), K0 (.inl x3) σ → Run l Ω cX10_text RX10 4 (some .int) rmX10_text K 54 [some (rf Ω 10 0), none, some (.int x2), some (.int x3)] [] σ) (hE0 : ∀ (e : Unit) (σ : rS), K0 (.inr e) σ → Run l Ω cX10_text RX10 4 (some .int) rmX10_text K 88 [some (rf Ω 10 0), none, none, none] [] σ) (h : hit (fX10_text_L54 x2 x3 σ) K0) : Run l Ω cX10_text RX10 4 (some .int) rmX10_text K 54 [some (rf Ω 10 0), none, some (.int x2), some (.int x3)] [] σ := by
  unfold fX10_text_L54 at h
  refine R_iload_n (i := 3) dX10_text_54 rfl rfl ?_
  refine R_iload_n (i := 2) dX10_text_55 rfl rfl ?_
  refine R_icmp_ge (tgt := 88) dX10_text_56 (by decide) (fun hc => ?_) (fun hc => ?_)
  · have h := hit_f h hc
    refine R_drop (lv2 := [some (rf Ω 10 0), none, none, some (.int x3)]) 2 rfl ?_
    refine R_drop (lv2 := [some (rf Ω 10 0), none, none, none]) 3 rfl ?_
    exact hE0 () σ h
  · have h := hit_t h hc
    refine R_aload_n (i := 0) dX10_text_59 rfl rfl ?_
    refine R_get foX10_23 hL0 (cE_10 Ω 0 _) rfl dX10_text_60 ?_
    refine R_iload_n (i := 2) dX10_text_63 rfl rfl ?_
    refine R_aload_n (i := 0) dX10_text_64 rfl rfl ?_
    refine R_get foX10_152 hL0 (cE_10 Ω 0 _) rfl dX10_text_65 ?_
    refine R_imul dX10_text_68 ?_
    refine R_iload_n (i := 3) dX10_text_69 rfl rfl ?_
    refine R_iadd dX10_text_70 ?_
    refine R_aload_n (i := 0) dX10_text_71 rfl rfl ?_
    refine R_get foX10_23 hL0 (cE_10 Ω 0 _) rfl dX10_text_72 ?_
    refine R_iload_n (i := 2) dX10_text_75 rfl rfl ?_
    refine R_iconst (v := 4) dX10_text_76 rfl ?_
    refine R_imul dX10_text_77 ?_
    refine R_iload_n (i := 3) dX10_text_78 rfl rfl ?_
    refine R_iadd dX10_text_79 ?_
    obtain ⟨hb, h⟩ := hit_bnd h
    refine R_iald (WF.kid hW 4 hL0 rfl) (cE_64 Ω 0 _) hb dX10_text_80 ?_
    obtain ⟨hb, h⟩ := hit_bnd h
    refine R_iast (WF.kid hW 4 hL0 rfl) (cE_64 Ω 0) hb dX10_text_81 ?_
    refine R_st h (fun σ16 h => ?_)
    refine R_iinc (v := x3 + 1) (lv2 := [some (rf Ω 10 0), none, some (.int x2), some (.int (x3 + 1))]) dX10_text_82 rfl rfl (by decide) rfl rfl ?_
    refine R_goto (tgt := 54) dX10_text_85 (by decide) ?_
    exact hC (x3 + 1) σ16 h
set_option maxRecDepth 100000 in
set_option maxHeartbeats 4000000 in
theorem rlX10_text_L54 {l : Launch} {Ω : rO} (hW : WF Ω) (x2 : Int32) (hL0 : oL Ω 10 0) {K : Int32 → rS → Prop} {KE : Unit → rS → Prop} (hE0 : ∀ (e : Unit) (σ : rS), KE e σ → Run l Ω cX10_text RX10 4 (some .int) rmX10_text K 88 [some (rf Ω 10 0), none, none, none] [] σ) : ∀ (n : Nat) (x3 : Int32) (σ : rS), hit (lp (fun (x : Int32) σ => fX10_text_L54 x2 x σ) n x3 σ) KE → Run l Ω cX10_text RX10 4 (some .int) rmX10_text K 54 [some (rf Ω 10 0), none, some (.int x2), some (.int x3)] [] σ := by
  intro n
  induction n with
  | zero => intro x3 σ h; exact (h : False).elim
  | succ n ih =>
    intro x3 σ h
    exact rsX10_text_L54 hW x2 x3 hL0 σ (fun x3 σ h => ih x3 σ h) (fun e σ h => hE0 e σ h) (hit_lp h)
set_option maxRecDepth 100000 in
set_option maxHeartbeats 4000000 in
theorem rnX10_text_j28 {l : Launch} {Ω : rO} (hW : WF Ω) (x1 : Int32) (hL0 : oL Ω 10 0) (σ : rS) {K : Int32 → rS → Prop}  (h : hit (fX10_text_j28 x1 σ) K) : Run l Ω cX10_text RX10 4 (some .int) rmX10_text K 28 [some (rf Ω 10 0), some (.int x1), none, none] [] σ := by
  unfold fX10_text_j28 at h
  refine R_aload_n (i := 0) dX10_text_28 rfl rfl ?_
  refine R_iload_n (i := 1) dX10_text_29 rfl rfl ?_
  refine R_callVi (ctX10_fault l Ω x1 hL0 _ _ (hit_mono (hit_bd h) (fun r4 σ5 h => ?_))) okX10_fault mw_1393 hL0 (cE_10 Ω 0 _) rfl rfl (Nat.le_of_ble_eq_true rfl) rfl rfl ⟨by decide, by decide⟩ ⟨Nat.zero_le _, Nat.zero_le _⟩ dX10_text_30
  refine R_iconst (v := (-1)) dX10_text_33 rfl ?_
  refine R_icmp_eq (tgt := 39) dX10_text_34 (by decide) (fun hc => ?_) (fun hc => ?_)
  · have h := hit_t h hc
    refine R_aload_n (i := 0) dX10_text_39 rfl rfl ?_
    refine R_iconst (v := 0) dX10_text_40 rfl ?_
    refine R_put poX10_77 hL0 (cE_10 Ω 0 _) (cP_10_2 Ω 0 _ _) (Nat.le_of_ble_eq_true rfl) dX10_text_41 ?_
    refine R_st h (fun σ6 h => ?_)
    refine R_iload_n (i := 1) dX10_text_44 rfl rfl ?_
    refine R_iconst (v := 1) dX10_text_45 rfl ?_
    refine R_icmp_ne (tgt := 120) dX10_text_46 (by decide) (fun hc => ?_) (fun hc => ?_)
    · have h := hit_f h hc
      refine R_iconst (v := 0) dX10_text_120 rfl ?_
      refine R_istore_n (lv2 := [some (rf Ω 10 0), some (.int x1), some (.int 0), none]) dX10_text_121 rfl (by decide) rfl rfl ?_
      refine R_drop (lv2 := [some (rf Ω 10 0), none, some (.int 0), none]) 1 rfl ?_
      refine rlX10_text_L122 hW hL0 ?_ fu 0 σ6 (hit_bd h)
      · intro e9 σ8 h
        try dsimp only at h
        refine R_iconst (v := 0) dX10_text_145 rfl ?_
        refine R_istore_n (lv2 := [some (rf Ω 10 0), none, some (.int 0), none]) dX10_text_146 rfl (by decide) rfl rfl ?_
        refine rlX10_text_L147 hW hL0 ?_ fu 0 σ8 (hit_bd h)
        · intro e12 σ11 h
          try dsimp only at h
          refine R_aload_n (i := 0) dX10_text_167 rfl rfl ?_
          refine R_iconst (v := 1) dX10_text_168 rfl ?_
          refine R_putz poX10_157 hL0 (cE_10 Ω 0 _) (cP_10_11 Ω 0 _ _) (Nat.le_of_ble_eq_true rfl) (Or.inr rfl) dX10_text_169 ?_
          refine R_st h (fun σ13 h => ?_)
          refine R_aload_n (i := 0) dX10_text_172 rfl rfl ?_
          refine R_iconst (v := 0) dX10_text_173 rfl ?_
          refine R_put poX10_161 hL0 (cE_10 Ω 0 _) (cP_10_18 Ω 0 _ _) (Nat.le_of_ble_eq_true rfl) dX10_text_174 ?_
          refine R_st h (fun σ14 h => ?_)
          refine R_aload_n (i := 0) dX10_text_177 rfl rfl ?_
          refine R_iconst (v := 0) dX10_text_178 rfl ?_
          refine R_putz poX10_164 hL0 (cE_10 Ω 0 _) (cP_10_19 Ω 0 _ _) (Nat.le_of_ble_eq_true rfl) (Or.inl rfl) dX10_text_179 ?_
          refine R_st h (fun σ15 h => ?_)
          refine R_aload_n (i := 0) dX10_text_182 rfl rfl ?_
          refine R_get foX10_17 hL0 (cE_10 Ω 0 _) rfl dX10_text_183 ?_
          refine R_iconst (v := 0) dX10_text_186 rfl ?_
          refine R_iald (WF.kid hW 2 hL0 rfl) (cE_62 Ω 0 _) (vin 0 4 rfl) dX10_text_187 ?_
          refine R_iconst (v := 2) dX10_text_188 rfl ?_
          refine R_aload_n (i := 0) dX10_text_189 rfl rfl ?_
          refine R_get foX10_17 hL0 (cE_10 Ω 0 _) rfl dX10_text_190 ?_
          refine R_iconst (v := 1) dX10_text_193 rfl ?_
          refine R_iald (WF.kid hW 2 hL0 rfl) (cE_62 Ω 0 _) (vin 1 4 rfl) dX10_text_194 ?_
          refine R_imul dX10_text_195 ?_
          refine R_iadd dX10_text_196 ?_
          refine R_aload_n (i := 0) dX10_text_197 rfl rfl ?_
          refine R_get foX10_17 hL0 (cE_10 Ω 0 _) rfl dX10_text_198 ?_
          refine R_iconst (v := 2) dX10_text_201 rfl ?_
          refine R_iald (WF.kid hW 2 hL0 rfl) (cE_62 Ω 0 _) (vin 2 4 rfl) dX10_text_202 ?_
          refine R_iadd dX10_text_203 ?_
          exact R_iret dX10_text_204 rfl h
    · have h := hit_t h hc
      refine R_bipush (v := 80) dX10_text_49 rfl ?_
      refine R_istore_n (lv2 := [some (rf Ω 10 0), some (.int x1), some (.int 80), none]) dX10_text_51 rfl (by decide) rfl rfl ?_
      refine R_iconst (v := 0) dX10_text_52 rfl ?_
      refine R_istore_n (lv2 := [some (rf Ω 10 0), some (.int x1), some (.int 80), some (.int 0)]) dX10_text_53 rfl (by decide) rfl rfl ?_
      refine R_drop (lv2 := [some (rf Ω 10 0), none, some (.int 80), some (.int 0)]) 1 rfl ?_
      refine rlX10_text_L54 hW 80 hL0 ?_ fu 0 σ6 (hit_bd h)
      · intro e18 σ17 h
        try dsimp only at h
        refine R_aload_n (i := 0) dX10_text_88 rfl rfl ?_
        refine R_get foX10_26 hL0 (cE_10 Ω 0 _) rfl dX10_text_89 ?_
        refine R_aload_n (i := 0) dX10_text_92 rfl rfl ?_
        refine R_get foX10_152 hL0 (cE_10 Ω 0 _) rfl dX10_text_93 ?_
        refine R_aload_n (i := 0) dX10_text_96 rfl rfl ?_
        refine R_get foX10_26 hL0 (cE_10 Ω 0 _) rfl dX10_text_97 ?_
        refine R_iconst (v := 4) dX10_text_100 rfl ?_
        refine R_iald (WF.kid hW 5 hL0 rfl) (cE_65 Ω 0 _) (vin 4 5 rfl) dX10_text_101 ?_
        obtain ⟨hb, h⟩ := hit_bnd h
        refine R_iast (WF.kid hW 5 hL0 rfl) (cE_65 Ω 0) hb dX10_text_102 ?_
        refine R_st h (fun σ19 h => ?_)
        refine R_aload_n (i := 0) dX10_text_103 rfl rfl ?_
        refine R_dup dX10_text_104 rfl ?_
        refine R_get foX10_152 hL0 (cE_10 Ω 0 _) rfl dX10_text_105 ?_
        refine R_iconst (v := 1) dX10_text_108 rfl ?_
        refine R_iadd dX10_text_109 ?_
        refine R_put poX10_152 hL0 (cE_10 Ω 0 _) (cP_10_10 Ω 0 _ _) (Nat.le_of_ble_eq_true rfl) dX10_text_110 ?_
        refine R_st h (fun σ20 h => ?_)
        refine R_aload_n (i := 0) dX10_text_113 rfl rfl ?_
        refine R_get foX10_152 hL0 (cE_10 Ω 0 _) rfl dX10_text_114 ?_
        refine R_iconst (v := 1) dX10_text_117 rfl ?_
        refine R_isub dX10_text_118 ?_
        exact R_iret dX10_text_119 rfl h
  · have h := hit_f h hc
    refine R_iconst (v := (-1)) dX10_text_37 rfl ?_
    exact R_iret dX10_text_38 rfl h
set_option maxRecDepth 100000 in
set_option maxHeartbeats 4000000 in
theorem ctX10_text (l : Launch) (Ω : rO) (x1 : Int32) (hL0 : oL Ω 10 0) (σ : rS) (K : Int32 → rS → Prop) (h : hit (fX10_text x1 σ) K) : Ct l Ω yX10_text cX10_text 4 (some .int) rmX10_text [rf Ω 10 0, .int x1] σ K := by
  refine Ct.of (own := RX10) (lv := [some (rf Ω 10 0), some (.int x1), none, none]) (by decide) rfl (Nat.le_of_ble_eq_true rfl) rfl (fun hW => ?_)
  unfold fX10_text at h
  refine R_aload_n (i := 0) dX10_text_0 rfl rfl ?_
  refine R_iconst (v := 0) dX10_text_1 rfl ?_
  refine R_put poX10_73 hL0 (cE_10 Ω 0 _) (cP_10_0 Ω 0 _ _) (Nat.le_of_ble_eq_true rfl) dX10_text_2 ?_
  refine R_st h (fun σ1 h => ?_)
  refine R_iload_n (i := 1) dX10_text_5 rfl rfl ?_
  refine R_i2l dX10_text_6 ?_
  refine R_lconst (v := 0) dX10_text_7 rfl ?_
  refine R_lconst (v := 1) dX10_text_8 rfl ?_
  refine R_callSi (ctX10_isIn l Ω x1.toInt64 0 1 _ _ (hit_mono (hit_bd h) (fun r2 σ3 h => ?_))) okX10_isIn mw_1315 rfl rfl (Nat.le_of_ble_eq_true rfl) rfl rfl ⟨by decide, by decide⟩ ⟨Nat.zero_le _, Nat.zero_le _⟩ dX10_text_9
  refine R_if_eq (tgt := 37) dX10_text_12 (by decide) (fun hc => ?_) (fun hc => ?_)
  · have h := hit_t h hc
    refine R_iconst (v := (-1)) dX10_text_37 rfl ?_
    exact R_iret dX10_text_38 rfl h
  · have h := hit_f h hc
    refine R_iload_n (i := 1) dX10_text_15 rfl rfl ?_
    refine R_iconst (v := 1) dX10_text_16 rfl ?_
    refine R_icmp_ne (tgt := 28) dX10_text_17 (by decide) (fun hc => ?_) (fun hc => ?_)
    · have h := hit_f h hc
      exact rnX10_text_j28 hW x1 hL0 σ3  h
    · have h := hit_t h hc
      refine R_aload_n (i := 0) dX10_text_20 rfl rfl ?_
      refine R_get foX10_152 hL0 (cE_10 Ω 0 _) rfl dX10_text_21 ?_
      refine R_iconst (v := 4) dX10_text_24 rfl ?_
      refine R_icmp_eq (tgt := 37) dX10_text_25 (by decide) (fun hc => ?_) (fun hc => ?_)
      · have h := hit_t h hc
        refine R_iconst (v := (-1)) dX10_text_37 rfl ?_
        exact R_iret dX10_text_38 rfl h
      · have h := hit_f h hc
        exact rnX10_text_j28 hW x1 hL0 σ3  h
set_option maxRecDepth 100000 in
set_option maxHeartbeats 4000000 in
theorem rsX10_copyRow_L3 {l : Launch} {Ω : rO} (hW : WF Ω) (c0 k0 n0 : Nat) (x1 : Int32) (c2 k2 n2 : Nat) (x3 : Int32) (x4 : Int32) (hL0 : oL Ω c0 k0) (hg0 : ∀ r, cE Ω c0 k0 r = .inl (Ω.2.1 0, n0, .inl r)) (hL2 : oL Ω c2 k2) (hg2 : ∀ r, cE Ω c2 k2 r = .inl (Ω.2.1 0, n2, .inl r)) (σ : rS) {K : Int32 → rS → Prop} {K0 : (Int32 ⊕ Unit) → rS → Prop} (hC : ∀ (x4 : Int32) (σ : rS), K0 (.inl x4) σ → Run l Ω cX10_copyRow RX10 5 none rmX10_copyRow K 3 [some (rf Ω c0 k0), some (.int x1), some (rf Ω c2 k2), some (.int x3), some (.int x4)] [] σ) (hE0 : ∀ (e : Unit) (σ : rS), K0 (.inr e) σ → Run l Ω cX10_copyRow RX10 5 none rmX10_copyRow K 29 [none, none, none, none, none] [] σ) (h : hit (fX10_copyRow_L3 c0 k0 n0 x1 c2 k2 n2 x3 x4 σ) K0) : Run l Ω cX10_copyRow RX10 5 none rmX10_copyRow K 3 [some (rf Ω c0 k0), some (.int x1), some (rf Ω c2 k2), some (.int x3), some (.int x4)] [] σ := by
  unfold fX10_copyRow_L3 at h
  refine R_iload (i := 4) dX10_copyRow_3 rfl ?_
  refine R_sipush (v := 1554) dX10_copyRow_5 rfl ?_
  refine R_icmp_ge (tgt := 29) dX10_copyRow_8 (by decide) (fun hc => ?_) (fun hc => ?_)
  · have h := hit_f h hc
    refine R_drop (lv2 := [none, some (.int x1), some (rf Ω c2 k2), some (.int x3), some (.int x4)]) 0 rfl ?_
    refine R_drop (lv2 := [none, none, some (rf Ω c2 k2), some (.int x3), some (.int x4)]) 1 rfl ?_
    refine R_drop (lv2 := [none, none, none, some (.int x3), some (.int x4)]) 2 rfl ?_
    refine R_drop (lv2 := [none, none, none, none, some (.int x4)]) 3 rfl ?_
    refine R_drop (lv2 := [none, none, none, none, none]) 4 rfl ?_
    exact hE0 () σ h
  · have h := hit_t h hc
    refine R_aload_n (i := 2) dX10_copyRow_11 rfl rfl ?_
    refine R_iload_n (i := 3) dX10_copyRow_12 rfl rfl ?_
    refine R_iload (i := 4) dX10_copyRow_13 rfl ?_
    refine R_iadd dX10_copyRow_15 ?_
    refine R_aload_n (i := 0) dX10_copyRow_16 rfl rfl ?_
    refine R_iload_n (i := 1) dX10_copyRow_17 rfl rfl ?_
    refine R_iload (i := 4) dX10_copyRow_18 rfl ?_
    refine R_iadd dX10_copyRow_20 ?_
    obtain ⟨hb, h⟩ := hit_bnd h
    refine R_iald hL0 (hg0 _) hb dX10_copyRow_21 ?_
    obtain ⟨hb, h⟩ := hit_bnd h
    refine R_iast hL2 hg2 hb dX10_copyRow_22 ?_
    refine R_st h (fun σ1 h => ?_)
    refine R_iinc (v := x4 + 1) (lv2 := [some (rf Ω c0 k0), some (.int x1), some (rf Ω c2 k2), some (.int x3), some (.int (x4 + 1))]) dX10_copyRow_23 rfl rfl (by decide) rfl rfl ?_
    refine R_goto (tgt := 3) dX10_copyRow_26 (by decide) ?_
    exact hC (x4 + 1) σ1 h
set_option maxRecDepth 100000 in
set_option maxHeartbeats 4000000 in
theorem rlX10_copyRow_L3 {l : Launch} {Ω : rO} (hW : WF Ω) (c0 k0 n0 : Nat) (x1 : Int32) (c2 k2 n2 : Nat) (x3 : Int32) (hL0 : oL Ω c0 k0) (hg0 : ∀ r, cE Ω c0 k0 r = .inl (Ω.2.1 0, n0, .inl r)) (hL2 : oL Ω c2 k2) (hg2 : ∀ r, cE Ω c2 k2 r = .inl (Ω.2.1 0, n2, .inl r)) {K : Int32 → rS → Prop} {KE : Unit → rS → Prop} (hE0 : ∀ (e : Unit) (σ : rS), KE e σ → Run l Ω cX10_copyRow RX10 5 none rmX10_copyRow K 29 [none, none, none, none, none] [] σ) : ∀ (n : Nat) (x4 : Int32) (σ : rS), hit (lp (fun (x : Int32) σ => fX10_copyRow_L3 c0 k0 n0 x1 c2 k2 n2 x3 x σ) n x4 σ) KE → Run l Ω cX10_copyRow RX10 5 none rmX10_copyRow K 3 [some (rf Ω c0 k0), some (.int x1), some (rf Ω c2 k2), some (.int x3), some (.int x4)] [] σ := by
  intro n
  induction n with
  | zero => intro x4 σ h; exact (h : False).elim
  | succ n ih =>
    intro x4 σ h
    exact rsX10_copyRow_L3 hW c0 k0 n0 x1 c2 k2 n2 x3 x4 hL0 hg0 hL2 hg2 σ (fun x4 σ h => ih x4 σ h) (fun e σ h => hE0 e σ h) (hit_lp h)
set_option maxRecDepth 100000 in
set_option maxHeartbeats 4000000 in
theorem ctX10_copyRow (l : Launch) (Ω : rO) (c0 k0 n0 : Nat) (x1 : Int32) (c2 k2 n2 : Nat) (x3 : Int32) (hL0 : oL Ω c0 k0) (hg0 : ∀ r, cE Ω c0 k0 r = .inl (Ω.2.1 0, n0, .inl r)) (hL2 : oL Ω c2 k2) (hg2 : ∀ r, cE Ω c2 k2 r = .inl (Ω.2.1 0, n2, .inl r)) (σ : rS) (K : Int32 → rS → Prop) (h : hit (fX10_copyRow c0 k0 n0 x1 c2 k2 n2 x3 σ) K) : Ct l Ω yX10_copyRow cX10_copyRow 5 none rmX10_copyRow [rf Ω c0 k0, .int x1, rf Ω c2 k2, .int x3] σ K := by
  refine Ct.of (own := RX10) (lv := [some (rf Ω c0 k0), some (.int x1), some (rf Ω c2 k2), some (.int x3), none]) (by decide) rfl (Nat.le_of_ble_eq_true rfl) rfl (fun hW => ?_)
  unfold fX10_copyRow at h
  refine R_iconst (v := 0) dX10_copyRow_0 rfl ?_
  refine R_istore (lv2 := [some (rf Ω c0 k0), some (.int x1), some (rf Ω c2 k2), some (.int x3), some (.int 0)]) dX10_copyRow_1 (by decide) rfl rfl ?_
  refine rlX10_copyRow_L3 hW c0 k0 n0 x1 c2 k2 n2 x3 hL0 hg0 hL2 hg2 ?_ fu 0 σ (hit_bd h)
  · intro e3 σ2 h
    try dsimp only at h
    exact R_vret dX10_copyRow_29 rfl h
set_option maxRecDepth 100000 in
set_option maxHeartbeats 4000000 in
theorem ctX10_cell (l : Launch) (Ω : rO) (x0 : Int32) (x1 : Int32) (σ : rS) (K : Int32 → rS → Prop) (h : hit (fX10_cell x0 x1 σ) K) : Ct l Ω yX10_cell cX10_cell 2 (some .int) rmX10_cell [.int x0, .int x1] σ K := by
  refine Ct.of (own := RX10) (lv := [some (.int x0), some (.int x1)]) (by decide) rfl (Nat.le_of_ble_eq_true rfl) rfl (fun hW => ?_)
  unfold fX10_cell at h
  refine R_iconst (v := 1) dX10_cell_0 rfl ?_
  refine R_bipush (v := 11) dX10_cell_1 rfl ?_
  refine R_iload_n (i := 0) dX10_cell_3 rfl rfl ?_
  refine R_imul dX10_cell_4 ?_
  refine R_iadd dX10_cell_5 ?_
  refine R_iload_n (i := 1) dX10_cell_6 rfl rfl ?_
  refine R_iadd dX10_cell_7 ?_
  exact R_iret dX10_cell_8 rfl h
set_option maxRecDepth 100000 in
set_option maxHeartbeats 4000000 in
theorem ctX10_of (l : Launch) (Ω : rO) (k0 : Nat) (x1 : Int32) (x2 : Int32) (hL0 : oL Ω 66 k0) (σ : rS) (K : Int32 → rS → Prop) (h : hit (fX10_of k0 x1 x2 σ) K) : Ct l Ω yX10_of cX10_of 3 (some .int) rmX10_of [rf Ω 66 k0, .int x1, .int x2] σ K := by
  refine Ct.of (own := RX10) (lv := [some (rf Ω 66 k0), some (.int x1), some (.int x2)]) (by decide) rfl (Nat.le_of_ble_eq_true rfl) rfl (fun hW => ?_)
  unfold fX10_of at h
  refine R_aload_n (i := 0) dX10_of_0 rfl rfl ?_
  refine R_iconst (v := 1) dX10_of_1 rfl ?_
  refine R_bipush (v := 11) dX10_of_2 rfl ?_
  refine R_iload_n (i := 1) dX10_of_4 rfl rfl ?_
  refine R_imul dX10_of_5 ?_
  refine R_iadd dX10_of_6 ?_
  refine R_iload_n (i := 2) dX10_of_7 rfl rfl ?_
  refine R_iadd dX10_of_8 ?_
  obtain ⟨hb, h⟩ := hit_bnd h
  refine R_iald hL0 (cE_66 Ω k0 _) hb dX10_of_9 ?_
  exact R_iret dX10_of_10 rfl h
set_option maxRecDepth 100000 in
set_option maxHeartbeats 4000000 in
theorem rsX10_spotOf__L8 {l : Launch} {Ω : rO} (hW : WF Ω) (k0 : Nat) (x1 : Int32) (x2 : Int32) (hL0 : oL Ω 66 k0) (σ : rS) {K : Int32 → rS → Prop} {K0 : (Int32 ⊕ (Int32 ⊕ Unit)) → rS → Prop} (hC : ∀ (x2 : Int32) (σ : rS), K0 (.inl x2) σ → Run l Ω cX10_spotOf_ RX10 3 (some .int) rmX10_spotOf_ K 8 [some (rf Ω 66 k0), some (.int x1), some (.int x2)] [] σ) (hE0 : ∀ (e : Int32) (σ : rS), K0 (.inr (.inl e)) σ → Run l Ω cX10_spotOf_ RX10 3 (some .int) rmX10_spotOf_ K 25 [none, none, some (.int e)] [] σ) (hE1 : ∀ (e : Unit) (σ : rS), K0 (.inr (.inr e)) σ → Run l Ω cX10_spotOf_ RX10 3 (some .int) rmX10_spotOf_ K 33 [none, none, none] [] σ) (h : hit (fX10_spotOf__L8 k0 x1 x2 σ) K0) : Run l Ω cX10_spotOf_ RX10 3 (some .int) rmX10_spotOf_ K 8 [some (rf Ω 66 k0), some (.int x1), some (.int x2)] [] σ := by
  unfold fX10_spotOf__L8 at h
  refine R_iload_n (i := 2) dX10_spotOf__8 rfl rfl ?_
  refine R_aload_n (i := 0) dX10_spotOf__9 rfl rfl ?_
  refine R_iconst (v := 0) dX10_spotOf__10 rfl ?_
  refine R_iald hL0 (cE_66 Ω k0 _) (vin 0 1554 rfl) dX10_spotOf__11 ?_
  refine R_icmp_ge (tgt := 33) dX10_spotOf__12 (by decide) (fun hc => ?_) (fun hc => ?_)
  · have h := hit_f h hc
    refine R_drop (lv2 := [none, some (.int x1), some (.int x2)]) 0 rfl ?_
    refine R_drop (lv2 := [none, none, some (.int x2)]) 1 rfl ?_
    refine R_drop (lv2 := [none, none, none]) 2 rfl ?_
    exact hE1 () σ h
  · have h := hit_t h hc
    refine R_aload_n (i := 0) dX10_spotOf__15 rfl rfl ?_
    refine R_iload_n (i := 2) dX10_spotOf__16 rfl rfl ?_
    refine R_iconst (v := 0) dX10_spotOf__17 rfl ?_
    refine R_callSi (ctX10_of l Ω k0 x2 0 hL0 _ _ (hit_mono (hit_bd h) (fun r1 σ2 h => ?_))) okX10_of mw_1435 rfl rfl (Nat.le_of_ble_eq_true rfl) rfl rfl ⟨by decide, by decide⟩ ⟨Nat.zero_le _, Nat.zero_le _⟩ dX10_spotOf__18
    refine R_iload_n (i := 1) dX10_spotOf__21 rfl rfl ?_
    refine R_icmp_ne (tgt := 27) dX10_spotOf__22 (by decide) (fun hc => ?_) (fun hc => ?_)
    · have h := hit_f h hc
      refine R_iinc (v := x2 + 1) (lv2 := [some (rf Ω 66 k0), some (.int x1), some (.int (x2 + 1))]) dX10_spotOf__27 rfl rfl (by decide) rfl rfl ?_
      refine R_goto (tgt := 8) dX10_spotOf__30 (by decide) ?_
      exact hC (x2 + 1) σ2 h
    · have h := hit_t h hc
      refine R_drop (lv2 := [none, some (.int x1), some (.int x2)]) 0 rfl ?_
      refine R_drop (lv2 := [none, none, some (.int x2)]) 1 rfl ?_
      exact hE0 x2 σ2 h
set_option maxRecDepth 100000 in
set_option maxHeartbeats 4000000 in
theorem rlX10_spotOf__L8 {l : Launch} {Ω : rO} (hW : WF Ω) (k0 : Nat) (x1 : Int32) (hL0 : oL Ω 66 k0) {K : Int32 → rS → Prop} {KE : (Int32 ⊕ Unit) → rS → Prop} (hE0 : ∀ (e : Int32) (σ : rS), KE (.inl e) σ → Run l Ω cX10_spotOf_ RX10 3 (some .int) rmX10_spotOf_ K 25 [none, none, some (.int e)] [] σ) (hE1 : ∀ (e : Unit) (σ : rS), KE (.inr e) σ → Run l Ω cX10_spotOf_ RX10 3 (some .int) rmX10_spotOf_ K 33 [none, none, none] [] σ) : ∀ (n : Nat) (x2 : Int32) (σ : rS), hit (lp (fun (x : Int32) σ => fX10_spotOf__L8 k0 x1 x σ) n x2 σ) KE → Run l Ω cX10_spotOf_ RX10 3 (some .int) rmX10_spotOf_ K 8 [some (rf Ω 66 k0), some (.int x1), some (.int x2)] [] σ := by
  intro n
  induction n with
  | zero => intro x2 σ h; exact (h : False).elim
  | succ n ih =>
    intro x2 σ h
    exact rsX10_spotOf__L8 hW k0 x1 x2 hL0 σ (fun x2 σ h => ih x2 σ h) (fun e σ h => hE0 e σ h) (fun e σ h => hE1 e σ h) (hit_lp h)
set_option maxRecDepth 100000 in
set_option maxHeartbeats 4000000 in
theorem ctX10_spotOf_ (l : Launch) (Ω : rO) (k0 : Nat) (x1 : Int32) (hL0 : oL Ω 66 k0) (σ : rS) (K : Int32 → rS → Prop) (h : hit (fX10_spotOf_ k0 x1 σ) K) : Ct l Ω yX10_spotOf_ cX10_spotOf_ 3 (some .int) rmX10_spotOf_ [rf Ω 66 k0, .int x1] σ K := by
  refine Ct.of (own := RX10) (lv := [some (rf Ω 66 k0), some (.int x1), none]) (by decide) rfl (Nat.le_of_ble_eq_true rfl) rfl (fun hW => ?_)
  unfold fX10_spotOf_ at h
  refine R_iload_n (i := 1) dX10_spotOf__0 rfl rfl ?_
  refine R_if_ne (tgt := 6) dX10_spotOf__1 (by decide) (fun hc => ?_) (fun hc => ?_)
  · have h := hit_f h hc
    refine R_iconst (v := 0) dX10_spotOf__6 rfl ?_
    refine R_istore_n (lv2 := [some (rf Ω 66 k0), some (.int x1), some (.int 0)]) dX10_spotOf__7 rfl (by decide) rfl rfl ?_
    refine rlX10_spotOf__L8 hW k0 x1 hL0 ?_ ?_ fu 0 σ (hit_bd h)
    · intro e4 σ3 h
      try dsimp only at h
      refine R_iload_n (i := 2) dX10_spotOf__25 rfl rfl ?_
      exact R_iret dX10_spotOf__26 rfl h
    · intro e5 σ3 h
      try dsimp only at h
      refine R_iconst (v := (-1)) dX10_spotOf__33 rfl ?_
      exact R_iret dX10_spotOf__34 rfl h
  · have h := hit_t h hc
    refine R_iconst (v := (-1)) dX10_spotOf__4 rfl ?_
    exact R_iret dX10_spotOf__5 rfl h
set_option maxRecDepth 100000 in
set_option maxHeartbeats 4000000 in
theorem ctX10_sizeOf (l : Launch) (Ω : rO) (k0 : Nat) (x1 : Int32) (hL0 : oL Ω 66 k0) (σ : rS) (K : Int32 → rS → Prop) (h : hit (fX10_sizeOf k0 x1 σ) K) : Ct l Ω yX10_sizeOf cX10_sizeOf 2 (some .int) rmX10_sizeOf [rf Ω 66 k0, .int x1] σ K := by
  refine Ct.of (own := RX10) (lv := [some (rf Ω 66 k0), some (.int x1)]) (by decide) rfl (Nat.le_of_ble_eq_true rfl) rfl (fun hW => ?_)
  unfold fX10_sizeOf at h
  refine R_iconst (v := 3) dX10_sizeOf_0 rfl ?_
  refine R_aload_n (i := 0) dX10_sizeOf_1 rfl rfl ?_
  refine R_iload_n (i := 1) dX10_sizeOf_2 rfl rfl ?_
  refine R_iconst (v := 2) dX10_sizeOf_3 rfl ?_
  refine R_callSi (ctX10_of l Ω k0 x1 2 hL0 _ _ (hit_mono (hit_bd h) (fun r1 σ2 h => ?_))) okX10_of mw_1435 rfl rfl (Nat.le_of_ble_eq_true rfl) rfl rfl ⟨by decide, by decide⟩ ⟨Nat.zero_le _, Nat.zero_le _⟩ dX10_sizeOf_4
  refine R_iadd dX10_sizeOf_7 ?_
  exact R_iret dX10_sizeOf_8 rfl h
set_option maxRecDepth 100000 in
set_option maxHeartbeats 4000000 in
theorem rnX10_cellsIn_j31L4 {l : Launch} {Ω : rO} (hW : WF Ω) (k0 : Nat) (x1 : Int32) (x3 : Int32) (z0 : Int32) (z1 : Int32) (hL0 : oL Ω 66 k0) (σ : rS) {K : Int32 → rS → Prop} {K0 : ((Int32 × Int32) ⊕ Int32) → rS → Prop} (hC : ∀ (x2 : Int32) (x3 : Int32) (σ : rS), K0 (.inl (x2, x3)) σ → Run l Ω cX10_cellsIn RX10 4 (some .int) rmX10_cellsIn K 4 [some (rf Ω 66 k0), some (.int x1), some (.int x2), some (.int x3)] [] σ) (hE0 : ∀ (e : Int32) (σ : rS), K0 (.inr e) σ → Run l Ω cX10_cellsIn RX10 4 (some .int) rmX10_cellsIn K 39 [none, none, some (.int e), none] [] σ) (h : hit (fX10_cellsIn_j31L4 k0 x1 x3 z0 z1 σ) K0) : Run l Ω cX10_cellsIn RX10 4 (some .int) rmX10_cellsIn K 31 [some (rf Ω 66 k0), some (.int x1), none, some (.int x3)] [.int z0, .int z1] σ := by
  unfold fX10_cellsIn_j31L4 at h
  refine R_iadd dX10_cellsIn_31 ?_
  refine R_topi h (fun y3 h => ?_)
  refine R_istore_n (lv2 := [some (rf Ω 66 k0), some (.int x1), some (.int y3), some (.int x3)]) dX10_cellsIn_32 rfl (by decide) rfl rfl ?_
  refine R_iinc (v := x3 + 1) (lv2 := [some (rf Ω 66 k0), some (.int x1), some (.int y3), some (.int (x3 + 1))]) dX10_cellsIn_33 rfl rfl (by decide) rfl rfl ?_
  refine R_goto (tgt := 4) dX10_cellsIn_36 (by decide) ?_
  exact hC y3 (x3 + 1) σ h
set_option maxRecDepth 100000 in
set_option maxHeartbeats 4000000 in
theorem rsX10_cellsIn_L4 {l : Launch} {Ω : rO} (hW : WF Ω) (k0 : Nat) (x1 : Int32) (x2 : Int32) (x3 : Int32) (hL0 : oL Ω 66 k0) (σ : rS) {K : Int32 → rS → Prop} {K0 : ((Int32 × Int32) ⊕ Int32) → rS → Prop} (hC : ∀ (x2 : Int32) (x3 : Int32) (σ : rS), K0 (.inl (x2, x3)) σ → Run l Ω cX10_cellsIn RX10 4 (some .int) rmX10_cellsIn K 4 [some (rf Ω 66 k0), some (.int x1), some (.int x2), some (.int x3)] [] σ) (hE0 : ∀ (e : Int32) (σ : rS), K0 (.inr e) σ → Run l Ω cX10_cellsIn RX10 4 (some .int) rmX10_cellsIn K 39 [none, none, some (.int e), none] [] σ) (h : hit (fX10_cellsIn_L4 k0 x1 x2 x3 σ) K0) : Run l Ω cX10_cellsIn RX10 4 (some .int) rmX10_cellsIn K 4 [some (rf Ω 66 k0), some (.int x1), some (.int x2), some (.int x3)] [] σ := by
  unfold fX10_cellsIn_L4 at h
  refine R_iload_n (i := 3) dX10_cellsIn_4 rfl rfl ?_
  refine R_aload_n (i := 0) dX10_cellsIn_5 rfl rfl ?_
  refine R_iconst (v := 0) dX10_cellsIn_6 rfl ?_
  refine R_iald hL0 (cE_66 Ω k0 _) (vin 0 1554 rfl) dX10_cellsIn_7 ?_
  refine R_icmp_ge (tgt := 39) dX10_cellsIn_8 (by decide) (fun hc => ?_) (fun hc => ?_)
  · have h := hit_f h hc
    refine R_drop (lv2 := [none, some (.int x1), some (.int x2), some (.int x3)]) 0 rfl ?_
    refine R_drop (lv2 := [none, none, some (.int x2), some (.int x3)]) 1 rfl ?_
    refine R_drop (lv2 := [none, none, some (.int x2), none]) 3 rfl ?_
    exact hE0 x2 σ h
  · have h := hit_t h hc
    refine R_iload_n (i := 2) dX10_cellsIn_11 rfl rfl ?_
    refine R_aload_n (i := 0) dX10_cellsIn_12 rfl rfl ?_
    refine R_iload_n (i := 3) dX10_cellsIn_13 rfl rfl ?_
    refine R_iconst (v := 5) dX10_cellsIn_14 rfl ?_
    refine R_callSi (ctX10_of l Ω k0 x3 5 hL0 _ _ (hit_mono (hit_bd h) (fun r1 σ2 h => ?_))) okX10_of mw_1435 rfl rfl (Nat.le_of_ble_eq_true rfl) rfl rfl ⟨by decide, by decide⟩ ⟨Nat.zero_le _, Nat.zero_le _⟩ dX10_cellsIn_15
    refine R_iload_n (i := 1) dX10_cellsIn_18 rfl rfl ?_
    refine R_icmp_ne (tgt := 30) dX10_cellsIn_19 (by decide) (fun hc => ?_) (fun hc => ?_)
    · have h := hit_f h hc
      refine R_iconst (v := 0) dX10_cellsIn_30 rfl ?_
      refine R_drop (lv2 := [some (rf Ω 66 k0), some (.int x1), none, some (.int x3)]) 2 rfl ?_
      exact rnX10_cellsIn_j31L4 hW k0 x1 x3 0 x2 hL0 σ2 hC hE0 h
    · have h := hit_t h hc
      refine R_aload_n (i := 0) dX10_cellsIn_22 rfl rfl ?_
      refine R_iload_n (i := 3) dX10_cellsIn_23 rfl rfl ?_
      refine R_callSi (ctX10_sizeOf l Ω k0 x3 hL0 _ _ (hit_mono (hit_bd h) (fun r4 σ5 h => ?_))) okX10_sizeOf mw_1449 rfl rfl (Nat.le_of_ble_eq_true rfl) rfl rfl ⟨by decide, by decide⟩ ⟨Nat.zero_le _, Nat.zero_le _⟩ dX10_cellsIn_24
      refine R_goto (tgt := 31) dX10_cellsIn_27 (by decide) ?_
      refine R_drop (lv2 := [some (rf Ω 66 k0), some (.int x1), none, some (.int x3)]) 2 rfl ?_
      exact rnX10_cellsIn_j31L4 hW k0 x1 x3 r4 x2 hL0 σ5 hC hE0 h
set_option maxRecDepth 100000 in
set_option maxHeartbeats 4000000 in
theorem rlX10_cellsIn_L4 {l : Launch} {Ω : rO} (hW : WF Ω) (k0 : Nat) (x1 : Int32) (hL0 : oL Ω 66 k0) {K : Int32 → rS → Prop} {KE : Int32 → rS → Prop} (hE0 : ∀ (e : Int32) (σ : rS), KE e σ → Run l Ω cX10_cellsIn RX10 4 (some .int) rmX10_cellsIn K 39 [none, none, some (.int e), none] [] σ) : ∀ (n : Nat) (x2 : Int32) (x3 : Int32) (σ : rS), hit (lp (fun (x : (Int32 × Int32)) σ => fX10_cellsIn_L4 k0 x1 x.1 x.2 σ) n (x2, x3) σ) KE → Run l Ω cX10_cellsIn RX10 4 (some .int) rmX10_cellsIn K 4 [some (rf Ω 66 k0), some (.int x1), some (.int x2), some (.int x3)] [] σ := by
  intro n
  induction n with
  | zero => intro x2 x3 σ h; exact (h : False).elim
  | succ n ih =>
    intro x2 x3 σ h
    exact rsX10_cellsIn_L4 hW k0 x1 x2 x3 hL0 σ (fun x2 x3 σ h => ih x2 x3 σ h) (fun e σ h => hE0 e σ h) (hit_lp h)
set_option maxRecDepth 100000 in
set_option maxHeartbeats 4000000 in
theorem ctX10_cellsIn (l : Launch) (Ω : rO) (k0 : Nat) (x1 : Int32) (hL0 : oL Ω 66 k0) (σ : rS) (K : Int32 → rS → Prop) (h : hit (fX10_cellsIn k0 x1 σ) K) : Ct l Ω yX10_cellsIn cX10_cellsIn 4 (some .int) rmX10_cellsIn [rf Ω 66 k0, .int x1] σ K := by
  refine Ct.of (own := RX10) (lv := [some (rf Ω 66 k0), some (.int x1), none, none]) (by decide) rfl (Nat.le_of_ble_eq_true rfl) rfl (fun hW => ?_)
  unfold fX10_cellsIn at h
  refine R_iconst (v := 0) dX10_cellsIn_0 rfl ?_
  refine R_istore_n (lv2 := [some (rf Ω 66 k0), some (.int x1), some (.int 0), none]) dX10_cellsIn_1 rfl (by decide) rfl rfl ?_
  refine R_iconst (v := 0) dX10_cellsIn_2 rfl ?_
  refine R_istore_n (lv2 := [some (rf Ω 66 k0), some (.int x1), some (.int 0), some (.int 0)]) dX10_cellsIn_3 rfl (by decide) rfl rfl ?_
  refine rlX10_cellsIn_L4 hW k0 x1 hL0 ?_ fu 0 0 σ (hit_bd h)
  · intro e7 σ6 h
    try dsimp only at h
    refine R_iload_n (i := 2) dX10_cellsIn_39 rfl rfl ?_
    exact R_iret dX10_cellsIn_40 rfl h
set_option maxRecDepth 100000 in
set_option maxHeartbeats 4000000 in
theorem ctX10_cells (l : Launch) (Ω : rO) (k0 : Nat) (hL0 : oL Ω 66 k0) (σ : rS) (K : Int32 → rS → Prop) (h : hit (fX10_cells k0 σ) K) : Ct l Ω yX10_cells cX10_cells 1 (some .int) rmX10_cells [rf Ω 66 k0] σ K := by
  refine Ct.of (own := RX10) (lv := [some (rf Ω 66 k0)]) (by decide) rfl (Nat.le_of_ble_eq_true rfl) rfl (fun hW => ?_)
  unfold fX10_cells at h
  refine R_aload_n (i := 0) dX10_cells_0 rfl rfl ?_
  refine R_iconst (v := 0) dX10_cells_1 rfl ?_
  refine R_callSi (ctX10_cellsIn l Ω k0 0 hL0 _ _ (hit_mono (hit_bd h) (fun r1 σ2 h => ?_))) okX10_cellsIn mw_1446 rfl rfl (Nat.le_of_ble_eq_true rfl) rfl rfl ⟨by decide, by decide⟩ ⟨Nat.zero_le _, Nat.zero_le _⟩ dX10_cells_2
  refine R_aload_n (i := 0) dX10_cells_5 rfl rfl ?_
  refine R_iconst (v := 1) dX10_cells_6 rfl ?_
  refine R_callSi (ctX10_cellsIn l Ω k0 1 hL0 _ _ (hit_mono (hit_bd h) (fun r3 σ4 h => ?_))) okX10_cellsIn mw_1446 rfl rfl (Nat.le_of_ble_eq_true rfl) rfl rfl ⟨by decide, by decide⟩ ⟨Nat.zero_le _, Nat.zero_le _⟩ dX10_cells_7
  refine R_iadd dX10_cells_10 ?_
  refine R_aload_n (i := 0) dX10_cells_11 rfl rfl ?_
  refine R_iconst (v := 2) dX10_cells_12 rfl ?_
  refine R_callSi (ctX10_cellsIn l Ω k0 2 hL0 _ _ (hit_mono (hit_bd h) (fun r5 σ6 h => ?_))) okX10_cellsIn mw_1446 rfl rfl (Nat.le_of_ble_eq_true rfl) rfl rfl ⟨by decide, by decide⟩ ⟨Nat.zero_le _, Nat.zero_le _⟩ dX10_cells_13
  refine R_iadd dX10_cells_16 ?_
  exact R_iret dX10_cells_17 rfl h
set_option maxRecDepth 100000 in
set_option maxHeartbeats 4000000 in
theorem ctX10_isOld (l : Launch) (Ω : rO) (k0 : Nat) (x1 : Int32) (hL0 : oL Ω 66 k0) (σ : rS) (K : Int32 → rS → Prop) (h : hit (fX10_isOld k0 x1 σ) K) : Ct l Ω yX10_isOld cX10_isOld 2 (some .boolean) rmX10_isOld [rf Ω 66 k0, .int x1] σ K := by
  refine Ct.of (own := RX10) (lv := [some (rf Ω 66 k0), some (.int x1)]) (by decide) rfl (Nat.le_of_ble_eq_true rfl) rfl (fun hW => ?_)
  unfold fX10_isOld at h
  refine R_aload_n (i := 0) dX10_isOld_0 rfl rfl ?_
  refine R_iload_n (i := 1) dX10_isOld_1 rfl rfl ?_
  refine R_iconst (v := 5) dX10_isOld_2 rfl ?_
  refine R_callSi (ctX10_of l Ω k0 x1 5 hL0 _ _ (hit_mono (hit_bd h) (fun r1 σ2 h => ?_))) okX10_of mw_1435 rfl rfl (Nat.le_of_ble_eq_true rfl) rfl rfl ⟨by decide, by decide⟩ ⟨Nat.zero_le _, Nat.zero_le _⟩ dX10_isOld_3
  refine R_iconst (v := 2) dX10_isOld_6 rfl ?_
  refine R_icmp_ne (tgt := 14) dX10_isOld_7 (by decide) (fun hc => ?_) (fun hc => ?_)
  · have h := hit_f h hc
    refine R_iconst (v := 0) dX10_isOld_14 rfl ?_
    exact R_zret dX10_isOld_15 rfl (Or.inl rfl) h
  · have h := hit_t h hc
    refine R_iconst (v := 1) dX10_isOld_10 rfl ?_
    refine R_goto (tgt := 15) dX10_isOld_11 (by decide) ?_
    exact R_zret dX10_isOld_15 rfl (Or.inr rfl) h
set_option maxRecDepth 100000 in
set_option maxHeartbeats 4000000 in
theorem ctX10_isWeak (l : Launch) (Ω : rO) (k0 : Nat) (x1 : Int32) (x2 : Int32) (hL0 : oL Ω 66 k0) (σ : rS) (K : Int32 → rS → Prop) (h : hit (fX10_isWeak k0 x1 x2 σ) K) : Ct l Ω yX10_isWeak cX10_isWeak 3 (some .boolean) rmX10_isWeak [rf Ω 66 k0, .int x1, .int x2] σ K := by
  refine Ct.of (own := RX10) (lv := [some (rf Ω 66 k0), some (.int x1), some (.int x2)]) (by decide) rfl (Nat.le_of_ble_eq_true rfl) rfl (fun hW => ?_)
  unfold fX10_isWeak at h
  refine R_iload_n (i := 2) dX10_isWeak_0 rfl rfl ?_
  refine R_if_ne (tgt := 18) dX10_isWeak_1 (by decide) (fun hc => ?_) (fun hc => ?_)
  · have h := hit_f h hc
    refine R_iconst (v := 0) dX10_isWeak_18 rfl ?_
    exact R_zret dX10_isWeak_19 rfl (Or.inl rfl) h
  · have h := hit_t h hc
    refine R_aload_n (i := 0) dX10_isWeak_4 rfl rfl ?_
    refine R_iload_n (i := 1) dX10_isWeak_5 rfl rfl ?_
    refine R_iconst (v := 1) dX10_isWeak_6 rfl ?_
    refine R_callSi (ctX10_of l Ω k0 x1 1 hL0 _ _ (hit_mono (hit_bd h) (fun r1 σ2 h => ?_))) okX10_of mw_1435 rfl rfl (Nat.le_of_ble_eq_true rfl) rfl rfl ⟨by decide, by decide⟩ ⟨Nat.zero_le _, Nat.zero_le _⟩ dX10_isWeak_7
    refine R_iconst (v := 1) dX10_isWeak_10 rfl ?_
    refine R_icmp_ne (tgt := 18) dX10_isWeak_11 (by decide) (fun hc => ?_) (fun hc => ?_)
    · have h := hit_f h hc
      refine R_iconst (v := 0) dX10_isWeak_18 rfl ?_
      exact R_zret dX10_isWeak_19 rfl (Or.inl rfl) h
    · have h := hit_t h hc
      refine R_iconst (v := 1) dX10_isWeak_14 rfl ?_
      refine R_goto (tgt := 19) dX10_isWeak_15 (by decide) ?_
      exact R_zret dX10_isWeak_19 rfl (Or.inr rfl) h
set_option maxRecDepth 100000 in
set_option maxHeartbeats 4000000 in
theorem rsX10_goes_L6 {l : Launch} {Ω : rO} (hW : WF Ω) (k0 : Nat) (x2 : Int32) (hL0 : oL Ω 66 k0) (σ : rS) {K : Int32 → rS → Prop} {K0 : (Int32 ⊕ Unit) → rS → Prop} (hC : ∀ (x2 : Int32) (σ : rS), K0 (.inl x2) σ → Run l Ω cX10_goes RX10 3 none rmX10_goes K 6 [some (rf Ω 66 k0), none, some (.int x2)] [] σ) (hE0 : ∀ (e : Unit) (σ : rS), K0 (.inr e) σ → Run l Ω cX10_goes RX10 3 none rmX10_goes K 34 [some (rf Ω 66 k0), none, none] [] σ) (h : hit (fX10_goes_L6 k0 x2 σ) K0) : Run l Ω cX10_goes RX10 3 none rmX10_goes K 6 [some (rf Ω 66 k0), none, some (.int x2)] [] σ := by
  unfold fX10_goes_L6 at h
  refine R_iload_n (i := 2) dX10_goes_6 rfl rfl ?_
  refine R_aload_n (i := 0) dX10_goes_7 rfl rfl ?_
  refine R_iconst (v := 0) dX10_goes_8 rfl ?_
  refine R_iald hL0 (cE_66 Ω k0 _) (vin 0 1554 rfl) dX10_goes_9 ?_
  refine R_iconst (v := 1) dX10_goes_10 rfl ?_
  refine R_isub dX10_goes_11 ?_
  refine R_iconst (v := 0) dX10_goes_12 rfl ?_
  refine R_callSi (ctX10_cell l Ω ((σ 66 k0 (ix 0)) - 1) 0 _ _ (hit_mono (hit_bd h) (fun r3 σ4 h => ?_))) okX10_cell mw_1471 rfl rfl (Nat.le_of_ble_eq_true rfl) rfl rfl ⟨by decide, by decide⟩ ⟨Nat.zero_le _, Nat.zero_le _⟩ dX10_goes_13
  refine R_icmp_ge (tgt := 34) dX10_goes_16 (by decide) (fun hc => ?_) (fun hc => ?_)
  · have h := hit_f h hc
    refine R_drop (lv2 := [some (rf Ω 66 k0), none, none]) 2 rfl ?_
    exact hE0 () σ4 h
  · have h := hit_t h hc
    refine R_aload_n (i := 0) dX10_goes_19 rfl rfl ?_
    refine R_iload_n (i := 2) dX10_goes_20 rfl rfl ?_
    refine R_aload_n (i := 0) dX10_goes_21 rfl rfl ?_
    refine R_iload_n (i := 2) dX10_goes_22 rfl rfl ?_
    refine R_bipush (v := 11) dX10_goes_23 rfl ?_
    refine R_iadd dX10_goes_25 ?_
    obtain ⟨hb, h⟩ := hit_bnd h
    refine R_iald hL0 (cE_66 Ω k0 _) hb dX10_goes_26 ?_
    obtain ⟨hb, h⟩ := hit_bnd h
    refine R_iast hL0 (cE_66 Ω k0) hb dX10_goes_27 ?_
    refine R_st h (fun σ5 h => ?_)
    refine R_iinc (v := x2 + 1) (lv2 := [some (rf Ω 66 k0), none, some (.int (x2 + 1))]) dX10_goes_28 rfl rfl (by decide) rfl rfl ?_
    refine R_goto (tgt := 6) dX10_goes_31 (by decide) ?_
    exact hC (x2 + 1) σ5 h
set_option maxRecDepth 100000 in
set_option maxHeartbeats 4000000 in
theorem rlX10_goes_L6 {l : Launch} {Ω : rO} (hW : WF Ω) (k0 : Nat) (hL0 : oL Ω 66 k0) {K : Int32 → rS → Prop} {KE : Unit → rS → Prop} (hE0 : ∀ (e : Unit) (σ : rS), KE e σ → Run l Ω cX10_goes RX10 3 none rmX10_goes K 34 [some (rf Ω 66 k0), none, none] [] σ) : ∀ (n : Nat) (x2 : Int32) (σ : rS), hit (lp (fun (x : Int32) σ => fX10_goes_L6 k0 x σ) n x2 σ) KE → Run l Ω cX10_goes RX10 3 none rmX10_goes K 6 [some (rf Ω 66 k0), none, some (.int x2)] [] σ := by
  intro n
  induction n with
  | zero => intro x2 σ h; exact (h : False).elim
  | succ n ih =>
    intro x2 σ h
    exact rsX10_goes_L6 hW k0 x2 hL0 σ (fun x2 σ h => ih x2 σ h) (fun e σ h => hE0 e σ h) (hit_lp h)
set_option maxRecDepth 100000 in
set_option maxHeartbeats 4000000 in
theorem ctX10_goes (l : Launch) (Ω : rO) (k0 : Nat) (x1 : Int32) (hL0 : oL Ω 66 k0) (σ : rS) (K : Int32 → rS → Prop) (h : hit (fX10_goes k0 x1 σ) K) : Ct l Ω yX10_goes cX10_goes 3 none rmX10_goes [rf Ω 66 k0, .int x1] σ K := by
  refine Ct.of (own := RX10) (lv := [some (rf Ω 66 k0), some (.int x1), none]) (by decide) rfl (Nat.le_of_ble_eq_true rfl) rfl (fun hW => ?_)
  unfold fX10_goes at h
  refine R_iload_n (i := 1) dX10_goes_0 rfl rfl ?_
  refine R_iconst (v := 0) dX10_goes_1 rfl ?_
  refine R_callSi (ctX10_cell l Ω x1 0 _ _ (hit_mono (hit_bd h) (fun r1 σ2 h => ?_))) okX10_cell mw_1471 rfl rfl (Nat.le_of_ble_eq_true rfl) rfl rfl ⟨by decide, by decide⟩ ⟨Nat.zero_le _, Nat.zero_le _⟩ dX10_goes_2
  refine R_istore_n (lv2 := [some (rf Ω 66 k0), some (.int x1), some (.int r1)]) dX10_goes_5 rfl (by decide) rfl rfl ?_
  refine R_drop (lv2 := [some (rf Ω 66 k0), none, some (.int r1)]) 1 rfl ?_
  refine rlX10_goes_L6 hW k0 hL0 ?_ fu r1 σ2 (hit_bd h)
  · intro e7 σ6 h
    try dsimp only at h
    refine R_aload_n (i := 0) dX10_goes_34 rfl rfl ?_
    refine R_iconst (v := 0) dX10_goes_35 rfl ?_
    refine R_dup2 dX10_goes_36 rfl rfl ?_
    refine R_iald hL0 (cE_66 Ω k0 _) (vin 0 1554 rfl) dX10_goes_37 ?_
    refine R_iconst (v := 1) dX10_goes_38 rfl ?_
    refine R_isub dX10_goes_39 ?_
    refine R_iast hL0 (cE_66 Ω k0) (vin 0 1554 rfl) dX10_goes_40 ?_
    refine R_st h (fun σ8 h => ?_)
    exact R_vret dX10_goes_41 rfl h
set_option maxRecDepth 100000 in
set_option maxHeartbeats 4000000 in
theorem ctX10_isYoungLink (l : Launch) (Ω : rO) (k0 : Nat) (x1 : Int32) (x2 : Int32) (hL0 : oL Ω 66 k0) (σ : rS) (K : Int32 → rS → Prop) (h : hit (fX10_isYoungLink k0 x1 x2 σ) K) : Ct l Ω yX10_isYoungLink cX10_isYoungLink 4 (some .boolean) rmX10_isYoungLink [rf Ω 66 k0, .int x1, .int x2] σ K := by
  refine Ct.of (own := RX10) (lv := [some (rf Ω 66 k0), some (.int x1), some (.int x2), none]) (by decide) rfl (Nat.le_of_ble_eq_true rfl) rfl (fun hW => ?_)
  unfold fX10_isYoungLink at h
  refine R_aload_n (i := 0) dX10_isYoungLink_0 rfl rfl ?_
  refine R_aload_n (i := 0) dX10_isYoungLink_1 rfl rfl ?_
  refine R_iload_n (i := 1) dX10_isYoungLink_2 rfl rfl ?_
  refine R_bipush (v := 7) dX10_isYoungLink_3 rfl ?_
  refine R_iload_n (i := 2) dX10_isYoungLink_5 rfl rfl ?_
  refine R_iadd dX10_isYoungLink_6 ?_
  refine R_callSi (ctX10_of l Ω k0 x1 (7 + x2) hL0 _ _ (hit_mono (hit_bd h) (fun r1 σ2 h => ?_))) okX10_of mw_1435 rfl rfl (Nat.le_of_ble_eq_true rfl) rfl rfl ⟨by decide, by decide⟩ ⟨Nat.zero_le _, Nat.zero_le _⟩ dX10_isYoungLink_7
  refine R_callSi (ctX10_spotOf_ l Ω k0 r1 hL0 _ _ (hit_mono (hit_bd h) (fun r3 σ4 h => ?_))) okX10_spotOf_ mw_1432 rfl rfl (Nat.le_of_ble_eq_true rfl) rfl rfl ⟨by decide, by decide⟩ ⟨Nat.zero_le _, Nat.zero_le _⟩ dX10_isYoungLink_10
  refine R_istore_n (lv2 := [some (rf Ω 66 k0), some (.int x1), some (.int x2), some (.int r3)]) dX10_isYoungLink_13 rfl (by decide) rfl rfl ?_
  refine R_iload_n (i := 3) dX10_isYoungLink_14 rfl rfl ?_
  refine R_iconst (v := (-1)) dX10_isYoungLink_15 rfl ?_
  refine R_icmp_eq (tgt := 31) dX10_isYoungLink_16 (by decide) (fun hc => ?_) (fun hc => ?_)
  · have h := hit_t h hc
    refine R_iconst (v := 0) dX10_isYoungLink_31 rfl ?_
    exact R_zret dX10_isYoungLink_32 rfl (Or.inl rfl) h
  · have h := hit_f h hc
    refine R_aload_n (i := 0) dX10_isYoungLink_19 rfl rfl ?_
    refine R_iload_n (i := 3) dX10_isYoungLink_20 rfl rfl ?_
    refine R_callSi (ctX10_isOld l Ω k0 r3 hL0 _ _ (hit_mono (hit_bd h) (fun r5 σ6 h => ?_))) okX10_isOld mw_1468 rfl rfl (Nat.le_of_ble_eq_true rfl) rfl rfl ⟨by decide, by decide⟩ ⟨Nat.zero_le _, Nat.zero_le _⟩ dX10_isYoungLink_21
    refine R_if_ne (tgt := 31) dX10_isYoungLink_24 (by decide) (fun hc => ?_) (fun hc => ?_)
    · have h := hit_f h hc
      refine R_iconst (v := 0) dX10_isYoungLink_31 rfl ?_
      exact R_zret dX10_isYoungLink_32 rfl (Or.inl rfl) h
    · have h := hit_t h hc
      refine R_iconst (v := 1) dX10_isYoungLink_27 rfl ?_
      refine R_goto (tgt := 32) dX10_isYoungLink_28 (by decide) ?_
      exact R_zret dX10_isYoungLink_32 rfl (Or.inr rfl) h
set_option maxRecDepth 100000 in
set_option maxHeartbeats 4000000 in
theorem rnX10_spotOfKept_j39L2 {l : Launch} {Ω : rO} (hW : WF Ω) (k0 : Nat) (x1 : Int32) (x2 : Int32) (x3 : Int32) (hL0 : oL Ω 66 k0) (σ : rS) {K : Int32 → rS → Prop} {K0 : (Int32 ⊕ (Int32 ⊕ Unit)) → rS → Prop} (hC : ∀ (x3 : Int32) (σ : rS), K0 (.inl x3) σ → Run l Ω cX10_spotOfKept RX10 4 (some .int) rmX10_spotOfKept K 2 [some (rf Ω 66 k0), some (.int x1), some (.int x2), some (.int x3)] [] σ) (hE0 : ∀ (e : Int32) (σ : rS), K0 (.inr (.inl e)) σ → Run l Ω cX10_spotOfKept RX10 4 (some .int) rmX10_spotOfKept K 37 [none, none, none, some (.int e)] [] σ) (hE1 : ∀ (e : Unit) (σ : rS), K0 (.inr (.inr e)) σ → Run l Ω cX10_spotOfKept RX10 4 (some .int) rmX10_spotOfKept K 45 [none, none, none, none] [] σ) (h : hit (fX10_spotOfKept_j39L2 k0 x1 x2 x3 σ) K0) : Run l Ω cX10_spotOfKept RX10 4 (some .int) rmX10_spotOfKept K 39 [some (rf Ω 66 k0), some (.int x1), some (.int x2), some (.int x3)] [] σ := by
  unfold fX10_spotOfKept_j39L2 at h
  refine R_iinc (v := x3 + 1) (lv2 := [some (rf Ω 66 k0), some (.int x1), some (.int x2), some (.int (x3 + 1))]) dX10_spotOfKept_39 rfl rfl (by decide) rfl rfl ?_
  refine R_goto (tgt := 2) dX10_spotOfKept_42 (by decide) ?_
  exact hC (x3 + 1) σ h
set_option maxRecDepth 100000 in
set_option maxHeartbeats 4000000 in
theorem rsX10_spotOfKept_L2 {l : Launch} {Ω : rO} (hW : WF Ω) (k0 : Nat) (x1 : Int32) (x2 : Int32) (x3 : Int32) (hL0 : oL Ω 66 k0) (σ : rS) {K : Int32 → rS → Prop} {K0 : (Int32 ⊕ (Int32 ⊕ Unit)) → rS → Prop} (hC : ∀ (x3 : Int32) (σ : rS), K0 (.inl x3) σ → Run l Ω cX10_spotOfKept RX10 4 (some .int) rmX10_spotOfKept K 2 [some (rf Ω 66 k0), some (.int x1), some (.int x2), some (.int x3)] [] σ) (hE0 : ∀ (e : Int32) (σ : rS), K0 (.inr (.inl e)) σ → Run l Ω cX10_spotOfKept RX10 4 (some .int) rmX10_spotOfKept K 37 [none, none, none, some (.int e)] [] σ) (hE1 : ∀ (e : Unit) (σ : rS), K0 (.inr (.inr e)) σ → Run l Ω cX10_spotOfKept RX10 4 (some .int) rmX10_spotOfKept K 45 [none, none, none, none] [] σ) (h : hit (fX10_spotOfKept_L2 k0 x1 x2 x3 σ) K0) : Run l Ω cX10_spotOfKept RX10 4 (some .int) rmX10_spotOfKept K 2 [some (rf Ω 66 k0), some (.int x1), some (.int x2), some (.int x3)] [] σ := by
  unfold fX10_spotOfKept_L2 at h
  refine R_iload_n (i := 3) dX10_spotOfKept_2 rfl rfl ?_
  refine R_aload_n (i := 0) dX10_spotOfKept_3 rfl rfl ?_
  refine R_sipush (v := 889) dX10_spotOfKept_4 rfl ?_
  refine R_iald hL0 (cE_66 Ω k0 _) (vin 889 1554 rfl) dX10_spotOfKept_7 ?_
  refine R_icmp_ge (tgt := 45) dX10_spotOfKept_8 (by decide) (fun hc => ?_) (fun hc => ?_)
  · have h := hit_f h hc
    refine R_drop (lv2 := [none, some (.int x1), some (.int x2), some (.int x3)]) 0 rfl ?_
    refine R_drop (lv2 := [none, none, some (.int x2), some (.int x3)]) 1 rfl ?_
    refine R_drop (lv2 := [none, none, none, some (.int x3)]) 2 rfl ?_
    refine R_drop (lv2 := [none, none, none, none]) 3 rfl ?_
    exact hE1 () σ h
  · have h := hit_t h hc
    refine R_aload_n (i := 0) dX10_spotOfKept_11 rfl rfl ?_
    refine R_sipush (v := 890) dX10_spotOfKept_12 rfl ?_
    refine R_iconst (v := 2) dX10_spotOfKept_15 rfl ?_
    refine R_iload_n (i := 3) dX10_spotOfKept_16 rfl rfl ?_
    refine R_imul dX10_spotOfKept_17 ?_
    refine R_iadd dX10_spotOfKept_18 ?_
    obtain ⟨hb, h⟩ := hit_bnd h
    refine R_iald hL0 (cE_66 Ω k0 _) hb dX10_spotOfKept_19 ?_
    refine R_iload_n (i := 1) dX10_spotOfKept_20 rfl rfl ?_
    refine R_icmp_ne (tgt := 39) dX10_spotOfKept_21 (by decide) (fun hc => ?_) (fun hc => ?_)
    · have h := hit_f h hc
      exact rnX10_spotOfKept_j39L2 hW k0 x1 x2 x3 hL0 σ hC hE0 hE1 h
    · have h := hit_t h hc
      refine R_aload_n (i := 0) dX10_spotOfKept_24 rfl rfl ?_
      refine R_sipush (v := 891) dX10_spotOfKept_25 rfl ?_
      refine R_iconst (v := 2) dX10_spotOfKept_28 rfl ?_
      refine R_iload_n (i := 3) dX10_spotOfKept_29 rfl rfl ?_
      refine R_imul dX10_spotOfKept_30 ?_
      refine R_iadd dX10_spotOfKept_31 ?_
      obtain ⟨hb, h⟩ := hit_bnd h
      refine R_iald hL0 (cE_66 Ω k0 _) hb dX10_spotOfKept_32 ?_
      refine R_iload_n (i := 2) dX10_spotOfKept_33 rfl rfl ?_
      refine R_icmp_ne (tgt := 39) dX10_spotOfKept_34 (by decide) (fun hc => ?_) (fun hc => ?_)
      · have h := hit_f h hc
        exact rnX10_spotOfKept_j39L2 hW k0 x1 x2 x3 hL0 σ hC hE0 hE1 h
      · have h := hit_t h hc
        refine R_drop (lv2 := [none, some (.int x1), some (.int x2), some (.int x3)]) 0 rfl ?_
        refine R_drop (lv2 := [none, none, some (.int x2), some (.int x3)]) 1 rfl ?_
        refine R_drop (lv2 := [none, none, none, some (.int x3)]) 2 rfl ?_
        exact hE0 x3 σ h
set_option maxRecDepth 100000 in
set_option maxHeartbeats 4000000 in
theorem rlX10_spotOfKept_L2 {l : Launch} {Ω : rO} (hW : WF Ω) (k0 : Nat) (x1 : Int32) (x2 : Int32) (hL0 : oL Ω 66 k0) {K : Int32 → rS → Prop} {KE : (Int32 ⊕ Unit) → rS → Prop} (hE0 : ∀ (e : Int32) (σ : rS), KE (.inl e) σ → Run l Ω cX10_spotOfKept RX10 4 (some .int) rmX10_spotOfKept K 37 [none, none, none, some (.int e)] [] σ) (hE1 : ∀ (e : Unit) (σ : rS), KE (.inr e) σ → Run l Ω cX10_spotOfKept RX10 4 (some .int) rmX10_spotOfKept K 45 [none, none, none, none] [] σ) : ∀ (n : Nat) (x3 : Int32) (σ : rS), hit (lp (fun (x : Int32) σ => fX10_spotOfKept_L2 k0 x1 x2 x σ) n x3 σ) KE → Run l Ω cX10_spotOfKept RX10 4 (some .int) rmX10_spotOfKept K 2 [some (rf Ω 66 k0), some (.int x1), some (.int x2), some (.int x3)] [] σ := by
  intro n
  induction n with
  | zero => intro x3 σ h; exact (h : False).elim
  | succ n ih =>
    intro x3 σ h
    exact rsX10_spotOfKept_L2 hW k0 x1 x2 x3 hL0 σ (fun x3 σ h => ih x3 σ h) (fun e σ h => hE0 e σ h) (fun e σ h => hE1 e σ h) (hit_lp h)
set_option maxRecDepth 100000 in
set_option maxHeartbeats 4000000 in
theorem ctX10_spotOfKept (l : Launch) (Ω : rO) (k0 : Nat) (x1 : Int32) (x2 : Int32) (hL0 : oL Ω 66 k0) (σ : rS) (K : Int32 → rS → Prop) (h : hit (fX10_spotOfKept k0 x1 x2 σ) K) : Ct l Ω yX10_spotOfKept cX10_spotOfKept 4 (some .int) rmX10_spotOfKept [rf Ω 66 k0, .int x1, .int x2] σ K := by
  refine Ct.of (own := RX10) (lv := [some (rf Ω 66 k0), some (.int x1), some (.int x2), none]) (by decide) rfl (Nat.le_of_ble_eq_true rfl) rfl (fun hW => ?_)
  unfold fX10_spotOfKept at h
  refine R_iconst (v := 0) dX10_spotOfKept_0 rfl ?_
  refine R_istore_n (lv2 := [some (rf Ω 66 k0), some (.int x1), some (.int x2), some (.int 0)]) dX10_spotOfKept_1 rfl (by decide) rfl rfl ?_
  refine rlX10_spotOfKept_L2 hW k0 x1 x2 hL0 ?_ ?_ fu 0 σ (hit_bd h)
  · intro e2 σ1 h
    try dsimp only at h
    refine R_iload_n (i := 3) dX10_spotOfKept_37 rfl rfl ?_
    exact R_iret dX10_spotOfKept_38 rfl h
  · intro e3 σ1 h
    try dsimp only at h
    refine R_iconst (v := (-1)) dX10_spotOfKept_45 rfl ?_
    exact R_iret dX10_spotOfKept_46 rfl h
set_option maxRecDepth 100000 in
set_option maxHeartbeats 4000000 in
theorem ctX10_keeps (l : Launch) (Ω : rO) (k0 : Nat) (x1 : Int32) (x2 : Int32) (hL0 : oL Ω 66 k0) (σ : rS) (K : Int32 → rS → Prop) (h : hit (fX10_keeps k0 x1 x2 σ) K) : Ct l Ω yX10_keeps cX10_keeps 3 none rmX10_keeps [rf Ω 66 k0, .int x1, .int x2] σ K := by
  refine Ct.of (own := RX10) (lv := [some (rf Ω 66 k0), some (.int x1), some (.int x2)]) (by decide) rfl (Nat.le_of_ble_eq_true rfl) rfl (fun hW => ?_)
  unfold fX10_keeps at h
  refine R_aload_n (i := 0) dX10_keeps_0 rfl rfl ?_
  refine R_iload_n (i := 1) dX10_keeps_1 rfl rfl ?_
  refine R_callSi (ctX10_isOld l Ω k0 x1 hL0 _ _ (hit_mono (hit_bd h) (fun r1 σ2 h => ?_))) okX10_isOld mw_1468 rfl rfl (Nat.le_of_ble_eq_true rfl) rfl rfl ⟨by decide, by decide⟩ ⟨Nat.zero_le _, Nat.zero_le _⟩ dX10_keeps_2
  refine R_if_eq (tgt := 32) dX10_keeps_5 (by decide) (fun hc => ?_) (fun hc => ?_)
  · have h := hit_t h hc
    exact R_vret dX10_keeps_32 rfl h
  · have h := hit_f h hc
    refine R_aload_n (i := 0) dX10_keeps_8 rfl rfl ?_
    refine R_iload_n (i := 1) dX10_keeps_9 rfl rfl ?_
    refine R_iload_n (i := 2) dX10_keeps_10 rfl rfl ?_
    refine R_callSi (ctX10_isYoungLink l Ω k0 x1 x2 hL0 _ _ (hit_mono (hit_bd h) (fun r3 σ4 h => ?_))) okX10_isYoungLink mw_1507 rfl rfl (Nat.le_of_ble_eq_true rfl) rfl rfl ⟨by decide, by decide⟩ ⟨Nat.zero_le _, Nat.zero_le _⟩ dX10_keeps_11
    refine R_if_eq (tgt := 32) dX10_keeps_14 (by decide) (fun hc => ?_) (fun hc => ?_)
    · have h := hit_t h hc
      exact R_vret dX10_keeps_32 rfl h
    · have h := hit_f h hc
      refine R_aload_n (i := 0) dX10_keeps_17 rfl rfl ?_
      refine R_aload_n (i := 0) dX10_keeps_18 rfl rfl ?_
      refine R_iload_n (i := 1) dX10_keeps_19 rfl rfl ?_
      refine R_iconst (v := 0) dX10_keeps_20 rfl ?_
      refine R_callSi (ctX10_of l Ω k0 x1 0 hL0 _ _ (hit_mono (hit_bd h) (fun r5 σ6 h => ?_))) okX10_of mw_1435 rfl rfl (Nat.le_of_ble_eq_true rfl) rfl rfl ⟨by decide, by decide⟩ ⟨Nat.zero_le _, Nat.zero_le _⟩ dX10_keeps_21
      refine R_iload_n (i := 2) dX10_keeps_24 rfl rfl ?_
      refine R_callSi (ctX10_spotOfKept l Ω k0 r5 x2 hL0 _ _ (hit_mono (hit_bd h) (fun r7 σ8 h => ?_))) okX10_spotOfKept mw_1513 rfl rfl (Nat.le_of_ble_eq_true rfl) rfl rfl ⟨by decide, by decide⟩ ⟨Nat.zero_le _, Nat.zero_le _⟩ dX10_keeps_25
      refine R_iconst (v := (-1)) dX10_keeps_28 rfl ?_
      refine R_icmp_eq (tgt := 33) dX10_keeps_29 (by decide) (fun hc => ?_) (fun hc => ?_)
      · have h := hit_t h hc
        refine R_aload_n (i := 0) dX10_keeps_33 rfl rfl ?_
        refine R_sipush (v := 890) dX10_keeps_34 rfl ?_
        refine R_iconst (v := 2) dX10_keeps_37 rfl ?_
        refine R_aload_n (i := 0) dX10_keeps_38 rfl rfl ?_
        refine R_sipush (v := 889) dX10_keeps_39 rfl ?_
        refine R_iald hL0 (cE_66 Ω k0 _) (vin 889 1554 rfl) dX10_keeps_42 ?_
        refine R_imul dX10_keeps_43 ?_
        refine R_iadd dX10_keeps_44 ?_
        refine R_aload_n (i := 0) dX10_keeps_45 rfl rfl ?_
        refine R_iload_n (i := 1) dX10_keeps_46 rfl rfl ?_
        refine R_iconst (v := 0) dX10_keeps_47 rfl ?_
        refine R_callSi (ctX10_of l Ω k0 x1 0 hL0 _ _ (hit_mono (hit_bd h) (fun r9 σ10 h => ?_))) okX10_of mw_1435 rfl rfl (Nat.le_of_ble_eq_true rfl) rfl rfl ⟨by decide, by decide⟩ ⟨Nat.zero_le _, Nat.zero_le _⟩ dX10_keeps_48
        obtain ⟨hb, h⟩ := hit_bnd h
        refine R_iast hL0 (cE_66 Ω k0) hb dX10_keeps_51 ?_
        refine R_st h (fun σ11 h => ?_)
        refine R_aload_n (i := 0) dX10_keeps_52 rfl rfl ?_
        refine R_sipush (v := 891) dX10_keeps_53 rfl ?_
        refine R_iconst (v := 2) dX10_keeps_56 rfl ?_
        refine R_aload_n (i := 0) dX10_keeps_57 rfl rfl ?_
        refine R_sipush (v := 889) dX10_keeps_58 rfl ?_
        refine R_iald hL0 (cE_66 Ω k0 _) (vin 889 1554 rfl) dX10_keeps_61 ?_
        refine R_imul dX10_keeps_62 ?_
        refine R_iadd dX10_keeps_63 ?_
        refine R_iload_n (i := 2) dX10_keeps_64 rfl rfl ?_
        obtain ⟨hb, h⟩ := hit_bnd h
        refine R_iast hL0 (cE_66 Ω k0) hb dX10_keeps_65 ?_
        refine R_st h (fun σ12 h => ?_)
        refine R_aload_n (i := 0) dX10_keeps_66 rfl rfl ?_
        refine R_sipush (v := 889) dX10_keeps_67 rfl ?_
        refine R_dup2 dX10_keeps_70 rfl rfl ?_
        refine R_iald hL0 (cE_66 Ω k0 _) (vin 889 1554 rfl) dX10_keeps_71 ?_
        refine R_iconst (v := 1) dX10_keeps_72 rfl ?_
        refine R_iadd dX10_keeps_73 ?_
        refine R_iast hL0 (cE_66 Ω k0) (vin 889 1554 rfl) dX10_keeps_74 ?_
        refine R_st h (fun σ13 h => ?_)
        exact R_vret dX10_keeps_75 rfl h
      · have h := hit_f h hc
        exact R_vret dX10_keeps_32 rfl h
set_option maxRecDepth 100000 in
set_option maxHeartbeats 4000000 in
theorem rnX10_sifts_j85L4 {l : Launch} {Ω : rO} (hW : WF Ω) (k0 : Nat) (x1 : Int32) (x2 : Int32) (hL0 : oL Ω 66 k0) (σ : rS) {K : Int32 → rS → Prop} {K0 : ((Int32 × Int32) ⊕ Int32) → rS → Prop} (hC : ∀ (x1 : Int32) (x2 : Int32) (σ : rS), K0 (.inl (x1, x2)) σ → Run l Ω cX10_sifts RX10 6 none rmX10_sifts K 4 [some (rf Ω 66 k0), some (.int x1), some (.int x2), none, none, none] [] σ) (hE0 : ∀ (e : Int32) (σ : rS), K0 (.inr e) σ → Run l Ω cX10_sifts RX10 6 none rmX10_sifts K 91 [some (rf Ω 66 k0), some (.int e), none, none, none, none] [] σ) (h : hit (fX10_sifts_j85L4 k0 x1 x2 σ) K0) : Run l Ω cX10_sifts RX10 6 none rmX10_sifts K 85 [some (rf Ω 66 k0), some (.int x1), some (.int x2), none, none, none] [] σ := by
  unfold fX10_sifts_j85L4 at h
  refine R_iinc (v := x2 + 1) (lv2 := [some (rf Ω 66 k0), some (.int x1), some (.int (x2 + 1)), none, none, none]) dX10_sifts_85 rfl rfl (by decide) rfl rfl ?_
  refine R_goto (tgt := 4) dX10_sifts_88 (by decide) ?_
  exact hC x1 (x2 + 1) σ h
set_option maxRecDepth 100000 in
set_option maxHeartbeats 4000000 in
theorem rsX10_sifts_L4 {l : Launch} {Ω : rO} (hW : WF Ω) (k0 : Nat) (x1 : Int32) (x2 : Int32) (hL0 : oL Ω 66 k0) (σ : rS) {K : Int32 → rS → Prop} {K0 : ((Int32 × Int32) ⊕ Int32) → rS → Prop} (hC : ∀ (x1 : Int32) (x2 : Int32) (σ : rS), K0 (.inl (x1, x2)) σ → Run l Ω cX10_sifts RX10 6 none rmX10_sifts K 4 [some (rf Ω 66 k0), some (.int x1), some (.int x2), none, none, none] [] σ) (hE0 : ∀ (e : Int32) (σ : rS), K0 (.inr e) σ → Run l Ω cX10_sifts RX10 6 none rmX10_sifts K 91 [some (rf Ω 66 k0), some (.int e), none, none, none, none] [] σ) (h : hit (fX10_sifts_L4 k0 x1 x2 σ) K0) : Run l Ω cX10_sifts RX10 6 none rmX10_sifts K 4 [some (rf Ω 66 k0), some (.int x1), some (.int x2), none, none, none] [] σ := by
  unfold fX10_sifts_L4 at h
  refine R_iload_n (i := 2) dX10_sifts_4 rfl rfl ?_
  refine R_aload_n (i := 0) dX10_sifts_5 rfl rfl ?_
  refine R_sipush (v := 889) dX10_sifts_6 rfl ?_
  refine R_iald hL0 (cE_66 Ω k0 _) (vin 889 1554 rfl) dX10_sifts_9 ?_
  refine R_icmp_ge (tgt := 91) dX10_sifts_10 (by decide) (fun hc => ?_) (fun hc => ?_)
  · have h := hit_f h hc
    refine R_drop (lv2 := [some (rf Ω 66 k0), some (.int x1), none, none, none, none]) 2 rfl ?_
    exact hE0 x1 σ h
  · have h := hit_t h hc
    refine R_aload_n (i := 0) dX10_sifts_13 rfl rfl ?_
    refine R_sipush (v := 890) dX10_sifts_14 rfl ?_
    refine R_iconst (v := 2) dX10_sifts_17 rfl ?_
    refine R_iload_n (i := 2) dX10_sifts_18 rfl rfl ?_
    refine R_imul dX10_sifts_19 ?_
    refine R_iadd dX10_sifts_20 ?_
    obtain ⟨hb, h⟩ := hit_bnd h
    refine R_iald hL0 (cE_66 Ω k0 _) hb dX10_sifts_21 ?_
    refine R_topi h (fun y1 h => ?_)
    refine R_istore_n (lv2 := [some (rf Ω 66 k0), some (.int x1), some (.int x2), some (.int y1), none, none]) dX10_sifts_22 rfl (by decide) rfl rfl ?_
    refine R_aload_n (i := 0) dX10_sifts_23 rfl rfl ?_
    refine R_sipush (v := 891) dX10_sifts_24 rfl ?_
    refine R_iconst (v := 2) dX10_sifts_27 rfl ?_
    refine R_iload_n (i := 2) dX10_sifts_28 rfl rfl ?_
    refine R_imul dX10_sifts_29 ?_
    refine R_iadd dX10_sifts_30 ?_
    obtain ⟨hb, h⟩ := hit_bnd h
    refine R_iald hL0 (cE_66 Ω k0 _) hb dX10_sifts_31 ?_
    refine R_topi h (fun y2 h => ?_)
    refine R_istore (lv2 := [some (rf Ω 66 k0), some (.int x1), some (.int x2), some (.int y1), some (.int y2), none]) dX10_sifts_32 (by decide) rfl rfl ?_
    refine R_aload_n (i := 0) dX10_sifts_34 rfl rfl ?_
    refine R_iload_n (i := 3) dX10_sifts_35 rfl rfl ?_
    refine R_callSi (ctX10_spotOf_ l Ω k0 y1 hL0 _ _ (hit_mono (hit_bd h) (fun r3 σ4 h => ?_))) okX10_spotOf_ mw_1432 rfl rfl (Nat.le_of_ble_eq_true rfl) rfl rfl ⟨by decide, by decide⟩ ⟨Nat.zero_le _, Nat.zero_le _⟩ dX10_sifts_36
    refine R_istore (lv2 := [some (rf Ω 66 k0), some (.int x1), some (.int x2), some (.int y1), some (.int y2), some (.int r3)]) dX10_sifts_39 (by decide) rfl rfl ?_
    refine R_iload (i := 5) dX10_sifts_41 rfl ?_
    refine R_iconst (v := (-1)) dX10_sifts_43 rfl ?_
    refine R_icmp_eq (tgt := 85) dX10_sifts_44 (by decide) (fun hc => ?_) (fun hc => ?_)
    · have h := hit_t h hc
      refine R_drop (lv2 := [some (rf Ω 66 k0), some (.int x1), some (.int x2), none, some (.int y2), some (.int r3)]) 3 rfl ?_
      refine R_drop (lv2 := [some (rf Ω 66 k0), some (.int x1), some (.int x2), none, none, some (.int r3)]) 4 rfl ?_
      refine R_drop (lv2 := [some (rf Ω 66 k0), some (.int x1), some (.int x2), none, none, none]) 5 rfl ?_
      exact rnX10_sifts_j85L4 hW k0 x1 x2 hL0 σ4 hC hE0 h
    · have h := hit_f h hc
      refine R_aload_n (i := 0) dX10_sifts_47 rfl rfl ?_
      refine R_iload (i := 5) dX10_sifts_48 rfl ?_
      refine R_iload (i := 4) dX10_sifts_50 rfl ?_
      refine R_callSi (ctX10_isYoungLink l Ω k0 r3 y2 hL0 _ _ (hit_mono (hit_bd h) (fun r5 σ6 h => ?_))) okX10_isYoungLink mw_1507 rfl rfl (Nat.le_of_ble_eq_true rfl) rfl rfl ⟨by decide, by decide⟩ ⟨Nat.zero_le _, Nat.zero_le _⟩ dX10_sifts_52
      refine R_if_ne (tgt := 61) dX10_sifts_55 (by decide) (fun hc => ?_) (fun hc => ?_)
      · have h := hit_f h hc
        refine R_aload_n (i := 0) dX10_sifts_61 rfl rfl ?_
        refine R_sipush (v := 890) dX10_sifts_62 rfl ?_
        refine R_iconst (v := 2) dX10_sifts_65 rfl ?_
        refine R_iload_n (i := 1) dX10_sifts_66 rfl rfl ?_
        refine R_imul dX10_sifts_67 ?_
        refine R_iadd dX10_sifts_68 ?_
        refine R_iload_n (i := 3) dX10_sifts_69 rfl rfl ?_
        obtain ⟨hb, h⟩ := hit_bnd h
        refine R_iast hL0 (cE_66 Ω k0) hb dX10_sifts_70 ?_
        refine R_st h (fun σ7 h => ?_)
        refine R_aload_n (i := 0) dX10_sifts_71 rfl rfl ?_
        refine R_sipush (v := 891) dX10_sifts_72 rfl ?_
        refine R_iconst (v := 2) dX10_sifts_75 rfl ?_
        refine R_iload_n (i := 1) dX10_sifts_76 rfl rfl ?_
        refine R_imul dX10_sifts_77 ?_
        refine R_iadd dX10_sifts_78 ?_
        refine R_iload (i := 4) dX10_sifts_79 rfl ?_
        obtain ⟨hb, h⟩ := hit_bnd h
        refine R_iast hL0 (cE_66 Ω k0) hb dX10_sifts_81 ?_
        refine R_st h (fun σ8 h => ?_)
        refine R_iinc (v := x1 + 1) (lv2 := [some (rf Ω 66 k0), some (.int (x1 + 1)), some (.int x2), some (.int y1), some (.int y2), some (.int r3)]) dX10_sifts_82 rfl rfl (by decide) rfl rfl ?_
        refine R_drop (lv2 := [some (rf Ω 66 k0), some (.int (x1 + 1)), some (.int x2), none, some (.int y2), some (.int r3)]) 3 rfl ?_
        refine R_drop (lv2 := [some (rf Ω 66 k0), some (.int (x1 + 1)), some (.int x2), none, none, some (.int r3)]) 4 rfl ?_
        refine R_drop (lv2 := [some (rf Ω 66 k0), some (.int (x1 + 1)), some (.int x2), none, none, none]) 5 rfl ?_
        exact rnX10_sifts_j85L4 hW k0 (x1 + 1) x2 hL0 σ8 hC hE0 h
      · have h := hit_t h hc
        refine R_goto (tgt := 85) dX10_sifts_58 (by decide) ?_
        refine R_drop (lv2 := [some (rf Ω 66 k0), some (.int x1), some (.int x2), none, some (.int y2), some (.int r3)]) 3 rfl ?_
        refine R_drop (lv2 := [some (rf Ω 66 k0), some (.int x1), some (.int x2), none, none, some (.int r3)]) 4 rfl ?_
        refine R_drop (lv2 := [some (rf Ω 66 k0), some (.int x1), some (.int x2), none, none, none]) 5 rfl ?_
        exact rnX10_sifts_j85L4 hW k0 x1 x2 hL0 σ6 hC hE0 h
set_option maxRecDepth 100000 in
set_option maxHeartbeats 4000000 in
theorem rlX10_sifts_L4 {l : Launch} {Ω : rO} (hW : WF Ω) (k0 : Nat) (hL0 : oL Ω 66 k0) {K : Int32 → rS → Prop} {KE : Int32 → rS → Prop} (hE0 : ∀ (e : Int32) (σ : rS), KE e σ → Run l Ω cX10_sifts RX10 6 none rmX10_sifts K 91 [some (rf Ω 66 k0), some (.int e), none, none, none, none] [] σ) : ∀ (n : Nat) (x1 : Int32) (x2 : Int32) (σ : rS), hit (lp (fun (x : (Int32 × Int32)) σ => fX10_sifts_L4 k0 x.1 x.2 σ) n (x1, x2) σ) KE → Run l Ω cX10_sifts RX10 6 none rmX10_sifts K 4 [some (rf Ω 66 k0), some (.int x1), some (.int x2), none, none, none] [] σ := by
  intro n
  induction n with
  | zero => intro x1 x2 σ h; exact (h : False).elim
  | succ n ih =>
    intro x1 x2 σ h
    exact rsX10_sifts_L4 hW k0 x1 x2 hL0 σ (fun x1 x2 σ h => ih x1 x2 σ h) (fun e σ h => hE0 e σ h) (hit_lp h)
set_option maxRecDepth 100000 in
set_option maxHeartbeats 4000000 in
theorem ctX10_sifts (l : Launch) (Ω : rO) (k0 : Nat) (hL0 : oL Ω 66 k0) (σ : rS) (K : Int32 → rS → Prop) (h : hit (fX10_sifts k0 σ) K) : Ct l Ω yX10_sifts cX10_sifts 6 none rmX10_sifts [rf Ω 66 k0] σ K := by
  refine Ct.of (own := RX10) (lv := [some (rf Ω 66 k0), none, none, none, none, none]) (by decide) rfl (Nat.le_of_ble_eq_true rfl) rfl (fun hW => ?_)
  unfold fX10_sifts at h
  refine R_iconst (v := 0) dX10_sifts_0 rfl ?_
  refine R_istore_n (lv2 := [some (rf Ω 66 k0), some (.int 0), none, none, none, none]) dX10_sifts_1 rfl (by decide) rfl rfl ?_
  refine R_iconst (v := 0) dX10_sifts_2 rfl ?_
  refine R_istore_n (lv2 := [some (rf Ω 66 k0), some (.int 0), some (.int 0), none, none, none]) dX10_sifts_3 rfl (by decide) rfl rfl ?_
  refine rlX10_sifts_L4 hW k0 hL0 ?_ fu 0 0 σ (hit_bd h)
  · intro e10 σ9 h
    try dsimp only at h
    refine R_aload_n (i := 0) dX10_sifts_91 rfl rfl ?_
    refine R_sipush (v := 889) dX10_sifts_92 rfl ?_
    refine R_iload_n (i := 1) dX10_sifts_95 rfl rfl ?_
    refine R_iast hL0 (cE_66 Ω k0) (vin 889 1554 rfl) dX10_sifts_96 ?_
    refine R_st h (fun σ11 h => ?_)
    exact R_vret dX10_sifts_97 rfl h
set_option maxRecDepth 100000 in
set_option maxHeartbeats 4000000 in
theorem rsX10_begins_L2 {l : Launch} {Ω : rO} (hW : WF Ω) (x1 : Int32) (hL0 : oL Ω 10 0) (σ : rS) {K : Int32 → rS → Prop} {K0 : (Int32 ⊕ Unit) → rS → Prop} (hC : ∀ (x1 : Int32) (σ : rS), K0 (.inl x1) σ → Run l Ω cX10_begins RX10 2 none rmX10_begins K 2 [some (rf Ω 10 0), some (.int x1)] [] σ) (hE0 : ∀ (e : Unit) (σ : rS), K0 (.inr e) σ → Run l Ω cX10_begins RX10 2 none rmX10_begins K 21 [some (rf Ω 10 0), none] [] σ) (h : hit (fX10_begins_L2 x1 σ) K0) : Run l Ω cX10_begins RX10 2 none rmX10_begins K 2 [some (rf Ω 10 0), some (.int x1)] [] σ := by
  unfold fX10_begins_L2 at h
  refine R_iload_n (i := 1) dX10_begins_2 rfl rfl ?_
  refine R_bipush (v := 80) dX10_begins_3 rfl ?_
  refine R_icmp_ge (tgt := 21) dX10_begins_5 (by decide) (fun hc => ?_) (fun hc => ?_)
  · have h := hit_f h hc
    refine R_drop (lv2 := [some (rf Ω 10 0), none]) 1 rfl ?_
    exact hE0 () σ h
  · have h := hit_t h hc
    refine R_aload_n (i := 0) dX10_begins_8 rfl rfl ?_
    refine R_get foX10_45 hL0 (cE_10 Ω 0 _) rfl dX10_begins_9 ?_
    refine R_iload_n (i := 1) dX10_begins_12 rfl rfl ?_
    refine R_iconst (v := 0) dX10_begins_13 rfl ?_
    obtain ⟨hb, h⟩ := hit_bnd h
    refine R_zast (WF.kid hW 11 hL0 rfl) (cE_68 Ω 0) hb (Or.inl rfl) dX10_begins_14 ?_
    refine R_st h (fun σ1 h => ?_)
    refine R_iinc (v := x1 + 1) (lv2 := [some (rf Ω 10 0), some (.int (x1 + 1))]) dX10_begins_15 rfl rfl (by decide) rfl rfl ?_
    refine R_goto (tgt := 2) dX10_begins_18 (by decide) ?_
    exact hC (x1 + 1) σ1 h
set_option maxRecDepth 100000 in
set_option maxHeartbeats 4000000 in
theorem rlX10_begins_L2 {l : Launch} {Ω : rO} (hW : WF Ω) (hL0 : oL Ω 10 0) {K : Int32 → rS → Prop} {KE : Unit → rS → Prop} (hE0 : ∀ (e : Unit) (σ : rS), KE e σ → Run l Ω cX10_begins RX10 2 none rmX10_begins K 21 [some (rf Ω 10 0), none] [] σ) : ∀ (n : Nat) (x1 : Int32) (σ : rS), hit (lp (fun (x : Int32) σ => fX10_begins_L2 x σ) n x1 σ) KE → Run l Ω cX10_begins RX10 2 none rmX10_begins K 2 [some (rf Ω 10 0), some (.int x1)] [] σ := by
  intro n
  induction n with
  | zero => intro x1 σ h; exact (h : False).elim
  | succ n ih =>
    intro x1 σ h
    exact rsX10_begins_L2 hW x1 hL0 σ (fun x1 σ h => ih x1 σ h) (fun e σ h => hE0 e σ h) (hit_lp h)
set_option maxRecDepth 100000 in
set_option maxHeartbeats 4000000 in
theorem ctX10_begins (l : Launch) (Ω : rO) (hL0 : oL Ω 10 0) (σ : rS) (K : Int32 → rS → Prop) (h : hit (fX10_begins  σ) K) : Ct l Ω yX10_begins cX10_begins 2 none rmX10_begins [rf Ω 10 0] σ K := by
  refine Ct.of (own := RX10) (lv := [some (rf Ω 10 0), none]) (by decide) rfl (Nat.le_of_ble_eq_true rfl) rfl (fun hW => ?_)
  unfold fX10_begins at h
  refine R_iconst (v := 0) dX10_begins_0 rfl ?_
  refine R_istore_n (lv2 := [some (rf Ω 10 0), some (.int 0)]) dX10_begins_1 rfl (by decide) rfl rfl ?_
  refine rlX10_begins_L2 hW hL0 ?_ fu 0 σ (hit_bd h)
  · intro e3 σ2 h
    try dsimp only at h
    refine R_aload_n (i := 0) dX10_begins_21 rfl rfl ?_
    refine R_iconst (v := 0) dX10_begins_22 rfl ?_
    refine R_put poX10_195 hL0 (cE_10 Ω 0 _) (cP_10_22 Ω 0 _ _) (Nat.le_of_ble_eq_true rfl) dX10_begins_23 ?_
    refine R_st h (fun σ4 h => ?_)
    refine R_aload_n (i := 0) dX10_begins_26 rfl rfl ?_
    refine R_iconst (v := 0) dX10_begins_27 rfl ?_
    refine R_putz poX10_198 hL0 (cE_10 Ω 0 _) (cP_10_27 Ω 0 _ _) (Nat.le_of_ble_eq_true rfl) (Or.inl rfl) dX10_begins_28 ?_
    refine R_st h (fun σ5 h => ?_)
    exact R_vret dX10_begins_31 rfl h
set_option maxRecDepth 100000 in
set_option maxHeartbeats 4000000 in
theorem ctX10_marks (l : Launch) (Ω : rO) (x1 : Int32) (hL0 : oL Ω 10 0) (σ : rS) (K : Int32 → rS → Prop) (h : hit (fX10_marks x1 σ) K) : Ct l Ω yX10_marks cX10_marks 2 none rmX10_marks [rf Ω 10 0, .int x1] σ K := by
  refine Ct.of (own := RX10) (lv := [some (rf Ω 10 0), some (.int x1)]) (by decide) rfl (Nat.le_of_ble_eq_true rfl) rfl (fun hW => ?_)
  unfold fX10_marks at h
  refine R_iload_n (i := 1) dX10_marks_0 rfl rfl ?_
  refine R_iconst (v := (-1)) dX10_marks_1 rfl ?_
  refine R_icmp_eq (tgt := 14) dX10_marks_2 (by decide) (fun hc => ?_) (fun hc => ?_)
  · have h := hit_t h hc
    exact R_vret dX10_marks_14 rfl h
  · have h := hit_f h hc
    refine R_aload_n (i := 0) dX10_marks_5 rfl rfl ?_
    refine R_get foX10_45 hL0 (cE_10 Ω 0 _) rfl dX10_marks_6 ?_
    refine R_iload_n (i := 1) dX10_marks_9 rfl rfl ?_
    obtain ⟨hb, h⟩ := hit_bnd h
    refine R_zald (WF.kid hW 11 hL0 rfl) (cE_68 Ω 0 _) hb dX10_marks_10 ?_
    refine R_if_eq (tgt := 15) dX10_marks_11 (by decide) (fun hc => ?_) (fun hc => ?_)
    · have h := hit_t h hc
      refine R_aload_n (i := 0) dX10_marks_15 rfl rfl ?_
      refine R_get foX10_45 hL0 (cE_10 Ω 0 _) rfl dX10_marks_16 ?_
      refine R_iload_n (i := 1) dX10_marks_19 rfl rfl ?_
      refine R_iconst (v := 1) dX10_marks_20 rfl ?_
      obtain ⟨hb, h⟩ := hit_bnd h
      refine R_zast (WF.kid hW 11 hL0 rfl) (cE_68 Ω 0) hb (Or.inr rfl) dX10_marks_21 ?_
      refine R_st h (fun σ1 h => ?_)
      refine R_aload_n (i := 0) dX10_marks_22 rfl rfl ?_
      refine R_get foX10_49 hL0 (cE_10 Ω 0 _) rfl dX10_marks_23 ?_
      refine R_aload_n (i := 0) dX10_marks_26 rfl rfl ?_
      refine R_get foX10_195 hL0 (cE_10 Ω 0 _) rfl dX10_marks_27 ?_
      refine R_iload_n (i := 1) dX10_marks_30 rfl rfl ?_
      obtain ⟨hb, h⟩ := hit_bnd h
      refine R_iast (WF.kid hW 12 hL0 rfl) (cE_69 Ω 0) hb dX10_marks_31 ?_
      refine R_st h (fun σ2 h => ?_)
      refine R_aload_n (i := 0) dX10_marks_32 rfl rfl ?_
      refine R_dup dX10_marks_33 rfl ?_
      refine R_get foX10_195 hL0 (cE_10 Ω 0 _) rfl dX10_marks_34 ?_
      refine R_iconst (v := 1) dX10_marks_37 rfl ?_
      refine R_iadd dX10_marks_38 ?_
      refine R_put poX10_195 hL0 (cE_10 Ω 0 _) (cP_10_22 Ω 0 _ _) (Nat.le_of_ble_eq_true rfl) dX10_marks_39 ?_
      refine R_st h (fun σ3 h => ?_)
      exact R_vret dX10_marks_42 rfl h
    · have h := hit_f h hc
      exact R_vret dX10_marks_14 rfl h
set_option maxRecDepth 100000 in
set_option maxHeartbeats 4000000 in
theorem rnX10_marksAll_j63L21 {l : Launch} {Ω : rO} (hW : WF Ω) (k1 : Nat) (x3 : Int32) (x4 : Int32) (x5 : Int32) (hL0 : oL Ω 10 0) (hL1 : oL Ω 66 k1) (σ : rS) {K : Int32 → rS → Prop} {K0 : (Int32 ⊕ Unit) → rS → Prop} (hC : ∀ (x5 : Int32) (σ : rS), K0 (.inl x5) σ → Run l Ω cX10_marksAll RX10 6 none rmX10_marksAll K 21 [some (rf Ω 10 0), some (rf Ω 66 k1), none, some (.int x3), some (.int x4), some (.int x5)] [] σ) (hE0 : ∀ (e : Unit) (σ : rS), K0 (.inr e) σ → Run l Ω cX10_marksAll RX10 6 none rmX10_marksAll K 69 [some (rf Ω 10 0), some (rf Ω 66 k1), none, some (.int x3), none, none] [] σ) (h : hit (fX10_marksAll_j63L21 k1 x3 x4 x5 σ) K0) : Run l Ω cX10_marksAll RX10 6 none rmX10_marksAll K 63 [some (rf Ω 10 0), some (rf Ω 66 k1), none, some (.int x3), some (.int x4), some (.int x5)] [] σ := by
  unfold fX10_marksAll_j63L21 at h
  refine R_iinc (v := x5 + 1) (lv2 := [some (rf Ω 10 0), some (rf Ω 66 k1), none, some (.int x3), some (.int x4), some (.int (x5 + 1))]) dX10_marksAll_63 rfl rfl (by decide) rfl rfl ?_
  refine R_goto (tgt := 21) dX10_marksAll_66 (by decide) ?_
  exact hC (x5 + 1) σ h
set_option maxRecDepth 100000 in
set_option maxHeartbeats 4000000 in
theorem rsX10_marksAll_L21 {l : Launch} {Ω : rO} (hW : WF Ω) (k1 : Nat) (x3 : Int32) (x4 : Int32) (x5 : Int32) (hL0 : oL Ω 10 0) (hL1 : oL Ω 66 k1) (σ : rS) {K : Int32 → rS → Prop} {K0 : (Int32 ⊕ Unit) → rS → Prop} (hC : ∀ (x5 : Int32) (σ : rS), K0 (.inl x5) σ → Run l Ω cX10_marksAll RX10 6 none rmX10_marksAll K 21 [some (rf Ω 10 0), some (rf Ω 66 k1), none, some (.int x3), some (.int x4), some (.int x5)] [] σ) (hE0 : ∀ (e : Unit) (σ : rS), K0 (.inr e) σ → Run l Ω cX10_marksAll RX10 6 none rmX10_marksAll K 69 [some (rf Ω 10 0), some (rf Ω 66 k1), none, some (.int x3), none, none] [] σ) (h : hit (fX10_marksAll_L21 k1 x3 x4 x5 σ) K0) : Run l Ω cX10_marksAll RX10 6 none rmX10_marksAll K 21 [some (rf Ω 10 0), some (rf Ω 66 k1), none, some (.int x3), some (.int x4), some (.int x5)] [] σ := by
  unfold fX10_marksAll_L21 at h
  refine R_iload (i := 5) dX10_marksAll_21 rfl ?_
  refine R_aload_n (i := 1) dX10_marksAll_23 rfl rfl ?_
  refine R_iload (i := 4) dX10_marksAll_24 rfl ?_
  refine R_iconst (v := 2) dX10_marksAll_26 rfl ?_
  refine R_callSi (ctX10_of l Ω k1 x4 2 hL1 _ _ (hit_mono (hit_bd h) (fun r2 σ3 h => ?_))) okX10_of mw_1435 rfl rfl (Nat.le_of_ble_eq_true rfl) rfl rfl ⟨by decide, by decide⟩ ⟨Nat.zero_le _, Nat.zero_le _⟩ dX10_marksAll_27
  refine R_icmp_ge (tgt := 69) dX10_marksAll_30 (by decide) (fun hc => ?_) (fun hc => ?_)
  · have h := hit_f h hc
    refine R_drop (lv2 := [some (rf Ω 10 0), some (rf Ω 66 k1), none, some (.int x3), none, some (.int x5)]) 4 rfl ?_
    refine R_drop (lv2 := [some (rf Ω 10 0), some (rf Ω 66 k1), none, some (.int x3), none, none]) 5 rfl ?_
    exact hE0 () σ3 h
  · have h := hit_t h hc
    refine R_aload_n (i := 1) dX10_marksAll_33 rfl rfl ?_
    refine R_iload (i := 4) dX10_marksAll_34 rfl ?_
    refine R_iload (i := 5) dX10_marksAll_36 rfl ?_
    refine R_callSi (ctX10_isWeak l Ω k1 x4 x5 hL1 _ _ (hit_mono (hit_bd h) (fun r4 σ5 h => ?_))) okX10_isWeak mw_1478 rfl rfl (Nat.le_of_ble_eq_true rfl) rfl rfl ⟨by decide, by decide⟩ ⟨Nat.zero_le _, Nat.zero_le _⟩ dX10_marksAll_38
    refine R_if_ne (tgt := 63) dX10_marksAll_41 (by decide) (fun hc => ?_) (fun hc => ?_)
    · have h := hit_f h hc
      exact rnX10_marksAll_j63L21 hW k1 x3 x4 x5 hL0 hL1 σ5 hC hE0 h
    · have h := hit_t h hc
      refine R_aload_n (i := 0) dX10_marksAll_44 rfl rfl ?_
      refine R_aload_n (i := 1) dX10_marksAll_45 rfl rfl ?_
      refine R_aload_n (i := 1) dX10_marksAll_46 rfl rfl ?_
      refine R_iload (i := 4) dX10_marksAll_47 rfl ?_
      refine R_bipush (v := 7) dX10_marksAll_49 rfl ?_
      refine R_iload (i := 5) dX10_marksAll_51 rfl ?_
      refine R_iadd dX10_marksAll_53 ?_
      refine R_callSi (ctX10_of l Ω k1 x4 (7 + x5) hL1 _ _ (hit_mono (hit_bd h) (fun r6 σ7 h => ?_))) okX10_of mw_1435 rfl rfl (Nat.le_of_ble_eq_true rfl) rfl rfl ⟨by decide, by decide⟩ ⟨Nat.zero_le _, Nat.zero_le _⟩ dX10_marksAll_54
      refine R_callSi (ctX10_spotOf_ l Ω k1 r6 hL1 _ _ (hit_mono (hit_bd h) (fun r8 σ9 h => ?_))) okX10_spotOf_ mw_1432 rfl rfl (Nat.le_of_ble_eq_true rfl) rfl rfl ⟨by decide, by decide⟩ ⟨Nat.zero_le _, Nat.zero_le _⟩ dX10_marksAll_57
      refine R_callVv (ctX10_marks l Ω r8 hL0 _ _ (hit_mono (hit_bd h) (fun r10 σ11 h => ?_))) okX10_marks mw_1474 hL0 (cE_10 Ω 0 _) rfl rfl (Nat.le_of_ble_eq_true rfl) rfl rfl ⟨by decide, by decide⟩ ⟨Nat.zero_le _, Nat.zero_le _⟩ dX10_marksAll_60
      exact rnX10_marksAll_j63L21 hW k1 x3 x4 x5 hL0 hL1 σ11 hC hE0 h
set_option maxRecDepth 100000 in
set_option maxHeartbeats 4000000 in
theorem rlX10_marksAll_L21 {l : Launch} {Ω : rO} (hW : WF Ω) (k1 : Nat) (x3 : Int32) (x4 : Int32) (hL0 : oL Ω 10 0) (hL1 : oL Ω 66 k1) {K : Int32 → rS → Prop} {KE : Unit → rS → Prop} (hE0 : ∀ (e : Unit) (σ : rS), KE e σ → Run l Ω cX10_marksAll RX10 6 none rmX10_marksAll K 69 [some (rf Ω 10 0), some (rf Ω 66 k1), none, some (.int x3), none, none] [] σ) : ∀ (n : Nat) (x5 : Int32) (σ : rS), hit (lp (fun (x : Int32) σ => fX10_marksAll_L21 k1 x3 x4 x σ) n x5 σ) KE → Run l Ω cX10_marksAll RX10 6 none rmX10_marksAll K 21 [some (rf Ω 10 0), some (rf Ω 66 k1), none, some (.int x3), some (.int x4), some (.int x5)] [] σ := by
  intro n
  induction n with
  | zero => intro x5 σ h; exact (h : False).elim
  | succ n ih =>
    intro x5 σ h
    exact rsX10_marksAll_L21 hW k1 x3 x4 x5 hL0 hL1 σ (fun x5 σ h => ih x5 σ h) (fun e σ h => hE0 e σ h) (hit_lp h)
set_option maxRecDepth 100000 in
set_option maxHeartbeats 4000000 in
theorem rsX10_marksAll_L2 {l : Launch} {Ω : rO} (hW : WF Ω) (k1 : Nat) (x3 : Int32) (hL0 : oL Ω 10 0) (hL1 : oL Ω 66 k1) (σ : rS) {K : Int32 → rS → Prop} {K0 : (Int32 ⊕ Unit) → rS → Prop} (hC : ∀ (x3 : Int32) (σ : rS), K0 (.inl x3) σ → Run l Ω cX10_marksAll RX10 6 none rmX10_marksAll K 2 [some (rf Ω 10 0), some (rf Ω 66 k1), none, some (.int x3), none, none] [] σ) (hE0 : ∀ (e : Unit) (σ : rS), K0 (.inr e) σ → Run l Ω cX10_marksAll RX10 6 none rmX10_marksAll K 75 [none, none, none, none, none, none] [] σ) (h : hit (fX10_marksAll_L2 k1 x3 σ) K0) : Run l Ω cX10_marksAll RX10 6 none rmX10_marksAll K 2 [some (rf Ω 10 0), some (rf Ω 66 k1), none, some (.int x3), none, none] [] σ := by
  unfold fX10_marksAll_L2 at h
  refine R_iload_n (i := 3) dX10_marksAll_2 rfl rfl ?_
  refine R_aload_n (i := 0) dX10_marksAll_3 rfl rfl ?_
  refine R_get foX10_195 hL0 (cE_10 Ω 0 _) rfl dX10_marksAll_4 ?_
  refine R_icmp_ge (tgt := 75) dX10_marksAll_7 (by decide) (fun hc => ?_) (fun hc => ?_)
  · have h := hit_f h hc
    refine R_drop (lv2 := [none, some (rf Ω 66 k1), none, some (.int x3), none, none]) 0 rfl ?_
    refine R_drop (lv2 := [none, none, none, some (.int x3), none, none]) 1 rfl ?_
    refine R_drop (lv2 := [none, none, none, none, none, none]) 3 rfl ?_
    exact hE0 () σ h
  · have h := hit_t h hc
    refine R_aload_n (i := 0) dX10_marksAll_10 rfl rfl ?_
    refine R_get foX10_49 hL0 (cE_10 Ω 0 _) rfl dX10_marksAll_11 ?_
    refine R_iload_n (i := 3) dX10_marksAll_14 rfl rfl ?_
    obtain ⟨hb, h⟩ := hit_bnd h
    refine R_iald (WF.kid hW 12 hL0 rfl) (cE_69 Ω 0 _) hb dX10_marksAll_15 ?_
    refine R_topi h (fun y1 h => ?_)
    refine R_istore (lv2 := [some (rf Ω 10 0), some (rf Ω 66 k1), none, some (.int x3), some (.int y1), none]) dX10_marksAll_16 (by decide) rfl rfl ?_
    refine R_iconst (v := 0) dX10_marksAll_18 rfl ?_
    refine R_istore (lv2 := [some (rf Ω 10 0), some (rf Ω 66 k1), none, some (.int x3), some (.int y1), some (.int 0)]) dX10_marksAll_19 (by decide) rfl rfl ?_
    refine rlX10_marksAll_L21 hW k1 x3 y1 hL0 hL1 ?_ fu 0 σ (hit_bd h)
    · intro e13 σ12 h
      try dsimp only at h
      refine R_iinc (v := x3 + 1) (lv2 := [some (rf Ω 10 0), some (rf Ω 66 k1), none, some (.int (x3 + 1)), none, none]) dX10_marksAll_69 rfl rfl (by decide) rfl rfl ?_
      refine R_goto (tgt := 2) dX10_marksAll_72 (by decide) ?_
      exact hC (x3 + 1) σ12 h
set_option maxRecDepth 100000 in
set_option maxHeartbeats 4000000 in
theorem rlX10_marksAll_L2 {l : Launch} {Ω : rO} (hW : WF Ω) (k1 : Nat) (hL0 : oL Ω 10 0) (hL1 : oL Ω 66 k1) {K : Int32 → rS → Prop} {KE : Unit → rS → Prop} (hE0 : ∀ (e : Unit) (σ : rS), KE e σ → Run l Ω cX10_marksAll RX10 6 none rmX10_marksAll K 75 [none, none, none, none, none, none] [] σ) : ∀ (n : Nat) (x3 : Int32) (σ : rS), hit (lp (fun (x : Int32) σ => fX10_marksAll_L2 k1 x σ) n x3 σ) KE → Run l Ω cX10_marksAll RX10 6 none rmX10_marksAll K 2 [some (rf Ω 10 0), some (rf Ω 66 k1), none, some (.int x3), none, none] [] σ := by
  intro n
  induction n with
  | zero => intro x3 σ h; exact (h : False).elim
  | succ n ih =>
    intro x3 σ h
    exact rsX10_marksAll_L2 hW k1 x3 hL0 hL1 σ (fun x3 σ h => ih x3 σ h) (fun e σ h => hE0 e σ h) (hit_lp h)
set_option maxRecDepth 100000 in
set_option maxHeartbeats 4000000 in
theorem ctX10_marksAll (l : Launch) (Ω : rO) (k1 : Nat) (x2 : Int32) (hL0 : oL Ω 10 0) (hL1 : oL Ω 66 k1) (σ : rS) (K : Int32 → rS → Prop) (h : hit (fX10_marksAll k1 x2 σ) K) : Ct l Ω yX10_marksAll cX10_marksAll 6 none rmX10_marksAll [rf Ω 10 0, rf Ω 66 k1, .int x2] σ K := by
  refine Ct.of (own := RX10) (lv := [some (rf Ω 10 0), some (rf Ω 66 k1), some (.int x2), none, none, none]) (by decide) rfl (Nat.le_of_ble_eq_true rfl) rfl (fun hW => ?_)
  unfold fX10_marksAll at h
  refine R_iload_n (i := 2) dX10_marksAll_0 rfl rfl ?_
  refine R_istore_n (lv2 := [some (rf Ω 10 0), some (rf Ω 66 k1), some (.int x2), some (.int x2), none, none]) dX10_marksAll_1 rfl (by decide) rfl rfl ?_
  refine R_drop (lv2 := [some (rf Ω 10 0), some (rf Ω 66 k1), none, some (.int x2), none, none]) 2 rfl ?_
  refine rlX10_marksAll_L2 hW k1 hL0 hL1 ?_ fu x2 σ (hit_bd h)
  · intro e15 σ14 h
    try dsimp only at h
    exact R_vret dX10_marksAll_75 rfl h
set_option maxRecDepth 100000 in
set_option maxHeartbeats 4000000 in
theorem rnX10_reaches_j36L7 {l : Launch} {Ω : rO} (hW : WF Ω) (k1 : Nat) (x2 : Int32) (x3 : Int32) (x4 : Int32) (hL0 : oL Ω 10 0) (hL1 : oL Ω 66 k1) (σ : rS) {K : Int32 → rS → Prop} {K0 : (Int32 ⊕ Unit) → rS → Prop} (hC : ∀ (x4 : Int32) (σ : rS), K0 (.inl x4) σ → Run l Ω cX10_reaches RX10 5 none rmX10_reaches K 7 [some (rf Ω 10 0), some (rf Ω 66 k1), some (.int x2), some (.int x3), some (.int x4)] [] σ) (hE0 : ∀ (e : Unit) (σ : rS), K0 (.inr e) σ → Run l Ω cX10_reaches RX10 5 none rmX10_reaches K 42 [some (rf Ω 10 0), some (rf Ω 66 k1), none, some (.int x3), none] [] σ) (h : hit (fX10_reaches_j36L7 k1 x2 x3 x4 σ) K0) : Run l Ω cX10_reaches RX10 5 none rmX10_reaches K 36 [some (rf Ω 10 0), some (rf Ω 66 k1), some (.int x2), some (.int x3), some (.int x4)] [] σ := by
  unfold fX10_reaches_j36L7 at h
  refine R_iinc (v := x4 + 1) (lv2 := [some (rf Ω 10 0), some (rf Ω 66 k1), some (.int x2), some (.int x3), some (.int (x4 + 1))]) dX10_reaches_36 rfl rfl (by decide) rfl rfl ?_
  refine R_goto (tgt := 7) dX10_reaches_39 (by decide) ?_
  exact hC (x4 + 1) σ h
set_option maxRecDepth 100000 in
set_option maxHeartbeats 4000000 in
theorem rsX10_reaches_L7 {l : Launch} {Ω : rO} (hW : WF Ω) (k1 : Nat) (x2 : Int32) (x3 : Int32) (x4 : Int32) (hL0 : oL Ω 10 0) (hL1 : oL Ω 66 k1) (σ : rS) {K : Int32 → rS → Prop} {K0 : (Int32 ⊕ Unit) → rS → Prop} (hC : ∀ (x4 : Int32) (σ : rS), K0 (.inl x4) σ → Run l Ω cX10_reaches RX10 5 none rmX10_reaches K 7 [some (rf Ω 10 0), some (rf Ω 66 k1), some (.int x2), some (.int x3), some (.int x4)] [] σ) (hE0 : ∀ (e : Unit) (σ : rS), K0 (.inr e) σ → Run l Ω cX10_reaches RX10 5 none rmX10_reaches K 42 [some (rf Ω 10 0), some (rf Ω 66 k1), none, some (.int x3), none] [] σ) (h : hit (fX10_reaches_L7 k1 x2 x3 x4 σ) K0) : Run l Ω cX10_reaches RX10 5 none rmX10_reaches K 7 [some (rf Ω 10 0), some (rf Ω 66 k1), some (.int x2), some (.int x3), some (.int x4)] [] σ := by
  unfold fX10_reaches_L7 at h
  refine R_iload (i := 4) dX10_reaches_7 rfl ?_
  refine R_bipush (v := 8) dX10_reaches_9 rfl ?_
  refine R_icmp_ge (tgt := 42) dX10_reaches_11 (by decide) (fun hc => ?_) (fun hc => ?_)
  · have h := hit_f h hc
    refine R_drop (lv2 := [some (rf Ω 10 0), some (rf Ω 66 k1), none, some (.int x3), some (.int x4)]) 2 rfl ?_
    refine R_drop (lv2 := [some (rf Ω 10 0), some (rf Ω 66 k1), none, some (.int x3), none]) 4 rfl ?_
    exact hE0 () σ h
  · have h := hit_t h hc
    refine R_iload (i := 4) dX10_reaches_14 rfl ?_
    refine R_iload_n (i := 2) dX10_reaches_16 rfl rfl ?_
    refine R_icmp_eq (tgt := 36) dX10_reaches_17 (by decide) (fun hc => ?_) (fun hc => ?_)
    · have h := hit_t h hc
      exact rnX10_reaches_j36L7 hW k1 x2 x3 x4 hL0 hL1 σ hC hE0 h
    · have h := hit_f h hc
      refine R_aload_n (i := 0) dX10_reaches_20 rfl rfl ?_
      refine R_aload_n (i := 1) dX10_reaches_21 rfl rfl ?_
      refine R_aload_n (i := 1) dX10_reaches_22 rfl rfl ?_
      refine R_sipush (v := 881) dX10_reaches_23 rfl ?_
      refine R_iload (i := 4) dX10_reaches_26 rfl ?_
      refine R_iadd dX10_reaches_28 ?_
      obtain ⟨hb, h⟩ := hit_bnd h
      refine R_iald hL1 (cE_66 Ω k1 _) hb dX10_reaches_29 ?_
      refine R_callSi (ctX10_spotOf_ l Ω k1 (σ 66 k1 (ix (881 + x4))) hL1 _ _ (hit_mono (hit_bd h) (fun r3 σ4 h => ?_))) okX10_spotOf_ mw_1432 rfl rfl (Nat.le_of_ble_eq_true rfl) rfl rfl ⟨by decide, by decide⟩ ⟨Nat.zero_le _, Nat.zero_le _⟩ dX10_reaches_30
      refine R_callVv (ctX10_marks l Ω r3 hL0 _ _ (hit_mono (hit_bd h) (fun r5 σ6 h => ?_))) okX10_marks mw_1474 hL0 (cE_10 Ω 0 _) rfl rfl (Nat.le_of_ble_eq_true rfl) rfl rfl ⟨by decide, by decide⟩ ⟨Nat.zero_le _, Nat.zero_le _⟩ dX10_reaches_33
      exact rnX10_reaches_j36L7 hW k1 x2 x3 x4 hL0 hL1 σ6 hC hE0 h
set_option maxRecDepth 100000 in
set_option maxHeartbeats 4000000 in
theorem rlX10_reaches_L7 {l : Launch} {Ω : rO} (hW : WF Ω) (k1 : Nat) (x2 : Int32) (x3 : Int32) (hL0 : oL Ω 10 0) (hL1 : oL Ω 66 k1) {K : Int32 → rS → Prop} {KE : Unit → rS → Prop} (hE0 : ∀ (e : Unit) (σ : rS), KE e σ → Run l Ω cX10_reaches RX10 5 none rmX10_reaches K 42 [some (rf Ω 10 0), some (rf Ω 66 k1), none, some (.int x3), none] [] σ) : ∀ (n : Nat) (x4 : Int32) (σ : rS), hit (lp (fun (x : Int32) σ => fX10_reaches_L7 k1 x2 x3 x σ) n x4 σ) KE → Run l Ω cX10_reaches RX10 5 none rmX10_reaches K 7 [some (rf Ω 10 0), some (rf Ω 66 k1), some (.int x2), some (.int x3), some (.int x4)] [] σ := by
  intro n
  induction n with
  | zero => intro x4 σ h; exact (h : False).elim
  | succ n ih =>
    intro x4 σ h
    exact rsX10_reaches_L7 hW k1 x2 x3 x4 hL0 hL1 σ (fun x4 σ h => ih x4 σ h) (fun e σ h => hE0 e σ h) (hit_lp h)
set_option maxRecDepth 100000 in
set_option maxHeartbeats 4000000 in
theorem rsX10_reaches_L45 {l : Launch} {Ω : rO} (hW : WF Ω) (k1 : Nat) (x3 : Int32) (x4 : Int32) (hL0 : oL Ω 10 0) (hL1 : oL Ω 66 k1) (σ : rS) {K : Int32 → rS → Prop} {K0 : (Int32 ⊕ Unit) → rS → Prop} (hC : ∀ (x4 : Int32) (σ : rS), K0 (.inl x4) σ → Run l Ω cX10_reaches RX10 5 none rmX10_reaches K 45 [some (rf Ω 10 0), some (rf Ω 66 k1), none, some (.int x3), some (.int x4)] [] σ) (hE0 : ∀ (e : Unit) (σ : rS), K0 (.inr e) σ → Run l Ω cX10_reaches RX10 5 none rmX10_reaches K 81 [some (rf Ω 10 0), some (rf Ω 66 k1), none, none, none] [] σ) (h : hit (fX10_reaches_L45 k1 x3 x4 σ) K0) : Run l Ω cX10_reaches RX10 5 none rmX10_reaches K 45 [some (rf Ω 10 0), some (rf Ω 66 k1), none, some (.int x3), some (.int x4)] [] σ := by
  unfold fX10_reaches_L45 at h
  refine R_iload_n (i := 3) dX10_reaches_45 rfl rfl ?_
  refine R_if_eq (tgt := 81) dX10_reaches_46 (by decide) (fun hc => ?_) (fun hc => ?_)
  · have h := hit_t h hc
    refine R_drop (lv2 := [some (rf Ω 10 0), some (rf Ω 66 k1), none, none, some (.int x4)]) 3 rfl ?_
    refine R_drop (lv2 := [some (rf Ω 10 0), some (rf Ω 66 k1), none, none, none]) 4 rfl ?_
    exact hE0 () σ h
  · have h := hit_f h hc
    refine R_iload (i := 4) dX10_reaches_49 rfl ?_
    refine R_aload_n (i := 1) dX10_reaches_51 rfl rfl ?_
    refine R_sipush (v := 1242) dX10_reaches_52 rfl ?_
    refine R_iald hL1 (cE_66 Ω k1 _) (vin 1242 1554 rfl) dX10_reaches_55 ?_
    refine R_icmp_ge (tgt := 81) dX10_reaches_56 (by decide) (fun hc => ?_) (fun hc => ?_)
    · have h := hit_f h hc
      refine R_drop (lv2 := [some (rf Ω 10 0), some (rf Ω 66 k1), none, none, some (.int x4)]) 3 rfl ?_
      refine R_drop (lv2 := [some (rf Ω 10 0), some (rf Ω 66 k1), none, none, none]) 4 rfl ?_
      exact hE0 () σ h
    · have h := hit_t h hc
      refine R_aload_n (i := 0) dX10_reaches_59 rfl rfl ?_
      refine R_aload_n (i := 1) dX10_reaches_60 rfl rfl ?_
      refine R_aload_n (i := 1) dX10_reaches_61 rfl rfl ?_
      refine R_sipush (v := 1243) dX10_reaches_62 rfl ?_
      refine R_iload (i := 4) dX10_reaches_65 rfl ?_
      refine R_iadd dX10_reaches_67 ?_
      obtain ⟨hb, h⟩ := hit_bnd h
      refine R_iald hL1 (cE_66 Ω k1 _) hb dX10_reaches_68 ?_
      refine R_callSi (ctX10_spotOf_ l Ω k1 (σ 66 k1 (ix (1243 + x4))) hL1 _ _ (hit_mono (hit_bd h) (fun r9 σ10 h => ?_))) okX10_spotOf_ mw_1432 rfl rfl (Nat.le_of_ble_eq_true rfl) rfl rfl ⟨by decide, by decide⟩ ⟨Nat.zero_le _, Nat.zero_le _⟩ dX10_reaches_69
      refine R_callVv (ctX10_marks l Ω r9 hL0 _ _ (hit_mono (hit_bd h) (fun r11 σ12 h => ?_))) okX10_marks mw_1474 hL0 (cE_10 Ω 0 _) rfl rfl (Nat.le_of_ble_eq_true rfl) rfl rfl ⟨by decide, by decide⟩ ⟨Nat.zero_le _, Nat.zero_le _⟩ dX10_reaches_72
      refine R_iinc (v := x4 + 1) (lv2 := [some (rf Ω 10 0), some (rf Ω 66 k1), none, some (.int x3), some (.int (x4 + 1))]) dX10_reaches_75 rfl rfl (by decide) rfl rfl ?_
      refine R_goto (tgt := 45) dX10_reaches_78 (by decide) ?_
      exact hC (x4 + 1) σ12 h
set_option maxRecDepth 100000 in
set_option maxHeartbeats 4000000 in
theorem rlX10_reaches_L45 {l : Launch} {Ω : rO} (hW : WF Ω) (k1 : Nat) (x3 : Int32) (hL0 : oL Ω 10 0) (hL1 : oL Ω 66 k1) {K : Int32 → rS → Prop} {KE : Unit → rS → Prop} (hE0 : ∀ (e : Unit) (σ : rS), KE e σ → Run l Ω cX10_reaches RX10 5 none rmX10_reaches K 81 [some (rf Ω 10 0), some (rf Ω 66 k1), none, none, none] [] σ) : ∀ (n : Nat) (x4 : Int32) (σ : rS), hit (lp (fun (x : Int32) σ => fX10_reaches_L45 k1 x3 x σ) n x4 σ) KE → Run l Ω cX10_reaches RX10 5 none rmX10_reaches K 45 [some (rf Ω 10 0), some (rf Ω 66 k1), none, some (.int x3), some (.int x4)] [] σ := by
  intro n
  induction n with
  | zero => intro x4 σ h; exact (h : False).elim
  | succ n ih =>
    intro x4 σ h
    exact rsX10_reaches_L45 hW k1 x3 x4 hL0 hL1 σ (fun x4 σ h => ih x4 σ h) (fun e σ h => hE0 e σ h) (hit_lp h)
set_option maxRecDepth 100000 in
set_option maxHeartbeats 4000000 in
theorem rnX10_reaches_j81 {l : Launch} {Ω : rO} (hW : WF Ω) (k1 : Nat) (hL0 : oL Ω 10 0) (hL1 : oL Ω 66 k1) (σ : rS) {K : Int32 → rS → Prop}  (h : hit (fX10_reaches_j81 k1 σ) K) : Run l Ω cX10_reaches RX10 5 none rmX10_reaches K 81 [some (rf Ω 10 0), some (rf Ω 66 k1), none, none, none] [] σ := by
  unfold fX10_reaches_j81 at h
  refine R_aload_n (i := 0) dX10_reaches_81 rfl rfl ?_
  refine R_aload_n (i := 1) dX10_reaches_82 rfl rfl ?_
  refine R_iconst (v := 0) dX10_reaches_83 rfl ?_
  refine R_callVv (ctX10_marksAll l Ω k1 0 hL0 hL1 _ _ (hit_mono (hit_bd h) (fun r15 σ16 h => ?_))) okX10_marksAll mw_1527 hL0 (cE_10 Ω 0 _) rfl rfl (Nat.le_of_ble_eq_true rfl) rfl rfl ⟨by decide, by decide⟩ ⟨Nat.zero_le _, Nat.zero_le _⟩ dX10_reaches_84
  exact R_vret dX10_reaches_87 rfl h
set_option maxRecDepth 100000 in
set_option maxHeartbeats 4000000 in
theorem ctX10_reaches (l : Launch) (Ω : rO) (k1 : Nat) (x2 : Int32) (x3 : Int32) (hL0 : oL Ω 10 0) (hL1 : oL Ω 66 k1) (σ : rS) (K : Int32 → rS → Prop) (h : hit (fX10_reaches k1 x2 x3 σ) K) : Ct l Ω yX10_reaches cX10_reaches 5 none rmX10_reaches [rf Ω 10 0, rf Ω 66 k1, .int x2, .int x3] σ K := by
  refine Ct.of (own := RX10) (lv := [some (rf Ω 10 0), some (rf Ω 66 k1), some (.int x2), some (.int x3), none]) (by decide) rfl (Nat.le_of_ble_eq_true rfl) rfl (fun hW => ?_)
  unfold fX10_reaches at h
  refine R_aload_n (i := 0) dX10_reaches_0 rfl rfl ?_
  refine R_callVv (ctX10_begins l Ω hL0 _ _ (hit_mono (hit_bd h) (fun r1 σ2 h => ?_))) okX10_begins mw_1456 hL0 (cE_10 Ω 0 _) rfl rfl (Nat.le_of_ble_eq_true rfl) rfl rfl ⟨by decide, by decide⟩ ⟨Nat.zero_le _, Nat.zero_le _⟩ dX10_reaches_1
  refine R_iconst (v := 0) dX10_reaches_4 rfl ?_
  refine R_istore (lv2 := [some (rf Ω 10 0), some (rf Ω 66 k1), some (.int x2), some (.int x3), some (.int 0)]) dX10_reaches_5 (by decide) rfl rfl ?_
  refine rlX10_reaches_L7 hW k1 x2 x3 hL0 hL1 ?_ fu 0 σ2 (hit_bd h)
  · intro e8 σ7 h
    try dsimp only at h
    refine R_iconst (v := 0) dX10_reaches_42 rfl ?_
    refine R_istore (lv2 := [some (rf Ω 10 0), some (rf Ω 66 k1), none, some (.int x3), some (.int 0)]) dX10_reaches_43 (by decide) rfl rfl ?_
    refine rlX10_reaches_L45 hW k1 x3 hL0 hL1 ?_ fu 0 σ7 (hit_bd h)
    · intro e14 σ13 h
      try dsimp only at h
      exact rnX10_reaches_j81 hW k1 hL0 hL1 σ13  h
set_option maxRecDepth 100000 in
set_option maxHeartbeats 4000000 in
theorem rnX10_isLost_j49 {l : Launch} {Ω : rO} (hW : WF Ω) (k0 : Nat) (x1 : Int32) (hL0 : oL Ω 66 k0) (σ : rS) {K : Int32 → rS → Prop}  (h : hit (fX10_isLost_j49 k0 x1 σ) K) : Run l Ω cX10_isLost RX10 3 none rmX10_isLost K 49 [some (rf Ω 66 k0), some (.int x1), none] [] σ := by
  unfold fX10_isLost_j49 at h
  refine R_aload_n (i := 0) dX10_isLost_49 rfl rfl ?_
  refine R_sipush (v := 1324) dX10_isLost_50 rfl ?_
  refine R_aload_n (i := 0) dX10_isLost_53 rfl rfl ?_
  refine R_sipush (v := 1323) dX10_isLost_54 rfl ?_
  refine R_iald hL0 (cE_66 Ω k0 _) (vin 1323 1554 rfl) dX10_isLost_57 ?_
  refine R_iadd dX10_isLost_58 ?_
  refine R_iload_n (i := 1) dX10_isLost_59 rfl rfl ?_
  obtain ⟨hb, h⟩ := hit_bnd h
  refine R_iast hL0 (cE_66 Ω k0) hb dX10_isLost_60 ?_
  refine R_st h (fun σ1 h => ?_)
  refine R_aload_n (i := 0) dX10_isLost_61 rfl rfl ?_
  refine R_sipush (v := 1323) dX10_isLost_62 rfl ?_
  refine R_dup2 dX10_isLost_65 rfl rfl ?_
  refine R_iald hL0 (cE_66 Ω k0 _) (vin 1323 1554 rfl) dX10_isLost_66 ?_
  refine R_iconst (v := 1) dX10_isLost_67 rfl ?_
  refine R_iadd dX10_isLost_68 ?_
  refine R_iast hL0 (cE_66 Ω k0) (vin 1323 1554 rfl) dX10_isLost_69 ?_
  refine R_st h (fun σ2 h => ?_)
  refine R_aload_n (i := 0) dX10_isLost_70 rfl rfl ?_
  refine R_sipush (v := 1370) dX10_isLost_71 rfl ?_
  refine R_dup2 dX10_isLost_74 rfl rfl ?_
  refine R_iald hL0 (cE_66 Ω k0 _) (vin 1370 1554 rfl) dX10_isLost_75 ?_
  refine R_iconst (v := 1) dX10_isLost_76 rfl ?_
  refine R_iadd dX10_isLost_77 ?_
  refine R_iast hL0 (cE_66 Ω k0) (vin 1370 1554 rfl) dX10_isLost_78 ?_
  refine R_st h (fun σ3 h => ?_)
  exact R_vret dX10_isLost_79 rfl h
set_option maxRecDepth 100000 in
set_option maxHeartbeats 4000000 in
theorem rsX10_isLost_L12 {l : Launch} {Ω : rO} (hW : WF Ω) (k0 : Nat) (x1 : Int32) (x2 : Int32) (hL0 : oL Ω 66 k0) (σ : rS) {K : Int32 → rS → Prop} {K0 : (Int32 ⊕ Unit) → rS → Prop} (hC : ∀ (x2 : Int32) (σ : rS), K0 (.inl x2) σ → Run l Ω cX10_isLost RX10 3 none rmX10_isLost K 12 [some (rf Ω 66 k0), some (.int x1), some (.int x2)] [] σ) (hE0 : ∀ (e : Unit) (σ : rS), K0 (.inr e) σ → Run l Ω cX10_isLost RX10 3 none rmX10_isLost K 40 [some (rf Ω 66 k0), some (.int x1), none] [] σ) (h : hit (fX10_isLost_L12 k0 x1 x2 σ) K0) : Run l Ω cX10_isLost RX10 3 none rmX10_isLost K 12 [some (rf Ω 66 k0), some (.int x1), some (.int x2)] [] σ := by
  unfold fX10_isLost_L12 at h
  refine R_iload_n (i := 2) dX10_isLost_12 rfl rfl ?_
  refine R_bipush (v := 40) dX10_isLost_13 rfl ?_
  refine R_icmp_ge (tgt := 40) dX10_isLost_15 (by decide) (fun hc => ?_) (fun hc => ?_)
  · have h := hit_f h hc
    refine R_drop (lv2 := [some (rf Ω 66 k0), some (.int x1), none]) 2 rfl ?_
    exact hE0 () σ h
  · have h := hit_t h hc
    refine R_aload_n (i := 0) dX10_isLost_18 rfl rfl ?_
    refine R_sipush (v := 1323) dX10_isLost_19 rfl ?_
    refine R_iload_n (i := 2) dX10_isLost_22 rfl rfl ?_
    refine R_iadd dX10_isLost_23 ?_
    refine R_aload_n (i := 0) dX10_isLost_24 rfl rfl ?_
    refine R_sipush (v := 1323) dX10_isLost_25 rfl ?_
    refine R_iload_n (i := 2) dX10_isLost_28 rfl rfl ?_
    refine R_iadd dX10_isLost_29 ?_
    refine R_iconst (v := 1) dX10_isLost_30 rfl ?_
    refine R_iadd dX10_isLost_31 ?_
    obtain ⟨hb, h⟩ := hit_bnd h
    refine R_iald hL0 (cE_66 Ω k0 _) hb dX10_isLost_32 ?_
    obtain ⟨hb, h⟩ := hit_bnd h
    refine R_iast hL0 (cE_66 Ω k0) hb dX10_isLost_33 ?_
    refine R_st h (fun σ4 h => ?_)
    refine R_iinc (v := x2 + 1) (lv2 := [some (rf Ω 66 k0), some (.int x1), some (.int (x2 + 1))]) dX10_isLost_34 rfl rfl (by decide) rfl rfl ?_
    refine R_goto (tgt := 12) dX10_isLost_37 (by decide) ?_
    exact hC (x2 + 1) σ4 h
set_option maxRecDepth 100000 in
set_option maxHeartbeats 4000000 in
theorem rlX10_isLost_L12 {l : Launch} {Ω : rO} (hW : WF Ω) (k0 : Nat) (x1 : Int32) (hL0 : oL Ω 66 k0) {K : Int32 → rS → Prop} {KE : Unit → rS → Prop} (hE0 : ∀ (e : Unit) (σ : rS), KE e σ → Run l Ω cX10_isLost RX10 3 none rmX10_isLost K 40 [some (rf Ω 66 k0), some (.int x1), none] [] σ) : ∀ (n : Nat) (x2 : Int32) (σ : rS), hit (lp (fun (x : Int32) σ => fX10_isLost_L12 k0 x1 x σ) n x2 σ) KE → Run l Ω cX10_isLost RX10 3 none rmX10_isLost K 12 [some (rf Ω 66 k0), some (.int x1), some (.int x2)] [] σ := by
  intro n
  induction n with
  | zero => intro x2 σ h; exact (h : False).elim
  | succ n ih =>
    intro x2 σ h
    exact rsX10_isLost_L12 hW k0 x1 x2 hL0 σ (fun x2 σ h => ih x2 σ h) (fun e σ h => hE0 e σ h) (hit_lp h)
set_option maxRecDepth 100000 in
set_option maxHeartbeats 4000000 in
theorem ctX10_isLost (l : Launch) (Ω : rO) (k0 : Nat) (x1 : Int32) (hL0 : oL Ω 66 k0) (σ : rS) (K : Int32 → rS → Prop) (h : hit (fX10_isLost k0 x1 σ) K) : Ct l Ω yX10_isLost cX10_isLost 3 none rmX10_isLost [rf Ω 66 k0, .int x1] σ K := by
  refine Ct.of (own := RX10) (lv := [some (rf Ω 66 k0), some (.int x1), none]) (by decide) rfl (Nat.le_of_ble_eq_true rfl) rfl (fun hW => ?_)
  unfold fX10_isLost at h
  refine R_aload_n (i := 0) dX10_isLost_0 rfl rfl ?_
  refine R_sipush (v := 1323) dX10_isLost_1 rfl ?_
  refine R_iald hL0 (cE_66 Ω k0 _) (vin 1323 1554 rfl) dX10_isLost_4 ?_
  refine R_bipush (v := 40) dX10_isLost_5 rfl ?_
  refine R_icmp_ne (tgt := 49) dX10_isLost_7 (by decide) (fun hc => ?_) (fun hc => ?_)
  · have h := hit_f h hc
    exact rnX10_isLost_j49 hW k0 x1 hL0 σ  h
  · have h := hit_t h hc
    refine R_iconst (v := 1) dX10_isLost_10 rfl ?_
    refine R_istore_n (lv2 := [some (rf Ω 66 k0), some (.int x1), some (.int 1)]) dX10_isLost_11 rfl (by decide) rfl rfl ?_
    refine rlX10_isLost_L12 hW k0 x1 hL0 ?_ fu 1 σ (hit_bd h)
    · intro e6 σ5 h
      try dsimp only at h
      refine R_aload_n (i := 0) dX10_isLost_40 rfl rfl ?_
      refine R_sipush (v := 1323) dX10_isLost_41 rfl ?_
      refine R_dup2 dX10_isLost_44 rfl rfl ?_
      refine R_iald hL0 (cE_66 Ω k0 _) (vin 1323 1554 rfl) dX10_isLost_45 ?_
      refine R_iconst (v := 1) dX10_isLost_46 rfl ?_
      refine R_isub dX10_isLost_47 ?_
      refine R_iast hL0 (cE_66 Ω k0) (vin 1323 1554 rfl) dX10_isLost_48 ?_
      refine R_st h (fun σ7 h => ?_)
      exact rnX10_isLost_j49 hW k0 x1 hL0 σ7  h
set_option maxRecDepth 100000 in
set_option maxHeartbeats 4000000 in
theorem rnX10_empties_j53 {l : Launch} {Ω : rO} (hW : WF Ω) (k1 : Nat) (x2 : Int32) (hL1 : oL Ω 66 k1) (σ : rS) {K : Int32 → rS → Prop}  (h : hit (fX10_empties_j53 k1 x2 σ) K) : Run l Ω cX10_empties RX10 5 none rmX10_empties K 53 [none, some (rf Ω 66 k1), some (.int x2), none, none] [] σ := by
  unfold fX10_empties_j53 at h
  refine R_aload_n (i := 1) dX10_empties_53 rfl rfl ?_
  refine R_iload_n (i := 2) dX10_empties_54 rfl rfl ?_
  refine R_bipush (v := 7) dX10_empties_55 rfl ?_
  refine R_callSi (ctX10_cell l Ω x2 7 _ _ (hit_mono (hit_bd h) (fun r7 σ8 h => ?_))) okX10_cell mw_1471 rfl rfl (Nat.le_of_ble_eq_true rfl) rfl rfl ⟨by decide, by decide⟩ ⟨Nat.zero_le _, Nat.zero_le _⟩ dX10_empties_57
  refine R_iconst (v := 0) dX10_empties_60 rfl ?_
  obtain ⟨hb, h⟩ := hit_bnd h
  refine R_iast hL1 (cE_66 Ω k1) hb dX10_empties_61 ?_
  refine R_st h (fun σ9 h => ?_)
  refine R_aload_n (i := 1) dX10_empties_62 rfl rfl ?_
  refine R_aload_n (i := 1) dX10_empties_63 rfl rfl ?_
  refine R_iload_n (i := 2) dX10_empties_64 rfl rfl ?_
  refine R_iconst (v := 0) dX10_empties_65 rfl ?_
  refine R_callSi (ctX10_of l Ω k1 x2 0 hL1 _ _ (hit_mono (hit_bd h) (fun r10 σ11 h => ?_))) okX10_of mw_1435 rfl rfl (Nat.le_of_ble_eq_true rfl) rfl rfl ⟨by decide, by decide⟩ ⟨Nat.zero_le _, Nat.zero_le _⟩ dX10_empties_66
  refine R_callSv (ctX10_isLost l Ω k1 r10 hL1 _ _ (hit_mono (hit_bd h) (fun r12 σ13 h => ?_))) okX10_isLost mw_1493 rfl rfl (Nat.le_of_ble_eq_true rfl) rfl rfl ⟨by decide, by decide⟩ ⟨Nat.zero_le _, Nat.zero_le _⟩ dX10_empties_69
  exact R_vret dX10_empties_72 rfl h
set_option maxRecDepth 100000 in
set_option maxHeartbeats 4000000 in
theorem ctX10_empties (l : Launch) (Ω : rO) (k1 : Nat) (x2 : Int32) (x3 : Int32) (hL0 : oL Ω 10 0) (hL1 : oL Ω 66 k1) (σ : rS) (K : Int32 → rS → Prop) (h : hit (fX10_empties k1 x2 x3 σ) K) : Ct l Ω yX10_empties cX10_empties 5 none rmX10_empties [rf Ω 10 0, rf Ω 66 k1, .int x2, .int x3] σ K := by
  refine Ct.of (own := RX10) (lv := [some (rf Ω 10 0), some (rf Ω 66 k1), some (.int x2), some (.int x3), none]) (by decide) rfl (Nat.le_of_ble_eq_true rfl) rfl (fun hW => ?_)
  unfold fX10_empties at h
  refine R_aload_n (i := 1) dX10_empties_0 rfl rfl ?_
  refine R_aload_n (i := 1) dX10_empties_1 rfl rfl ?_
  refine R_iload_n (i := 2) dX10_empties_2 rfl rfl ?_
  refine R_bipush (v := 7) dX10_empties_3 rfl ?_
  refine R_callSi (ctX10_of l Ω k1 x2 7 hL1 _ _ (hit_mono (hit_bd h) (fun r1 σ2 h => ?_))) okX10_of mw_1435 rfl rfl (Nat.le_of_ble_eq_true rfl) rfl rfl ⟨by decide, by decide⟩ ⟨Nat.zero_le _, Nat.zero_le _⟩ dX10_empties_5
  refine R_callSi (ctX10_spotOf_ l Ω k1 r1 hL1 _ _ (hit_mono (hit_bd h) (fun r3 σ4 h => ?_))) okX10_spotOf_ mw_1432 rfl rfl (Nat.le_of_ble_eq_true rfl) rfl rfl ⟨by decide, by decide⟩ ⟨Nat.zero_le _, Nat.zero_le _⟩ dX10_empties_8
  refine R_istore (lv2 := [some (rf Ω 10 0), some (rf Ω 66 k1), some (.int x2), some (.int x3), some (.int r3)]) dX10_empties_11 (by decide) rfl rfl ?_
  refine R_aload_n (i := 1) dX10_empties_13 rfl rfl ?_
  refine R_iload_n (i := 2) dX10_empties_14 rfl rfl ?_
  refine R_iconst (v := 1) dX10_empties_15 rfl ?_
  refine R_callSi (ctX10_of l Ω k1 x2 1 hL1 _ _ (hit_mono (hit_bd h) (fun r5 σ6 h => ?_))) okX10_of mw_1435 rfl rfl (Nat.le_of_ble_eq_true rfl) rfl rfl ⟨by decide, by decide⟩ ⟨Nat.zero_le _, Nat.zero_le _⟩ dX10_empties_16
  refine R_iconst (v := 1) dX10_empties_19 rfl ?_
  refine R_icmp_ne (tgt := 52) dX10_empties_20 (by decide) (fun hc => ?_) (fun hc => ?_)
  · have h := hit_f h hc
    exact R_vret dX10_empties_52 rfl h
  · have h := hit_t h hc
    refine R_iload (i := 4) dX10_empties_23 rfl ?_
    refine R_iconst (v := (-1)) dX10_empties_25 rfl ?_
    refine R_icmp_eq (tgt := 52) dX10_empties_26 (by decide) (fun hc => ?_) (fun hc => ?_)
    · have h := hit_t h hc
      exact R_vret dX10_empties_52 rfl h
    · have h := hit_f h hc
      refine R_aload_n (i := 0) dX10_empties_29 rfl rfl ?_
      refine R_get foX10_45 hL0 (cE_10 Ω 0 _) rfl dX10_empties_30 ?_
      refine R_iload (i := 4) dX10_empties_33 rfl ?_
      obtain ⟨hb, h⟩ := hit_bnd h
      refine R_zald (WF.kid hW 11 hL0 rfl) (cE_68 Ω 0 _) hb dX10_empties_35 ?_
      refine R_if_ne (tgt := 52) dX10_empties_36 (by decide) (fun hc => ?_) (fun hc => ?_)
      · have h := hit_f h hc
        exact R_vret dX10_empties_52 rfl h
      · have h := hit_t h hc
        refine R_iload_n (i := 3) dX10_empties_39 rfl rfl ?_
        refine R_if_eq (tgt := 53) dX10_empties_40 (by decide) (fun hc => ?_) (fun hc => ?_)
        · have h := hit_t h hc
          refine R_drop (lv2 := [none, some (rf Ω 66 k1), some (.int x2), some (.int x3), some (.int r3)]) 0 rfl ?_
          refine R_drop (lv2 := [none, some (rf Ω 66 k1), some (.int x2), none, some (.int r3)]) 3 rfl ?_
          refine R_drop (lv2 := [none, some (rf Ω 66 k1), some (.int x2), none, none]) 4 rfl ?_
          exact rnX10_empties_j53 hW k1 x2 hL1 σ6  h
        · have h := hit_f h hc
          refine R_aload_n (i := 1) dX10_empties_43 rfl rfl ?_
          refine R_iload (i := 4) dX10_empties_44 rfl ?_
          refine R_callSi (ctX10_isOld l Ω k1 r3 hL1 _ _ (hit_mono (hit_bd h) (fun r14 σ15 h => ?_))) okX10_isOld mw_1468 rfl rfl (Nat.le_of_ble_eq_true rfl) rfl rfl ⟨by decide, by decide⟩ ⟨Nat.zero_le _, Nat.zero_le _⟩ dX10_empties_46
          refine R_if_eq (tgt := 53) dX10_empties_49 (by decide) (fun hc => ?_) (fun hc => ?_)
          · have h := hit_t h hc
            refine R_drop (lv2 := [none, some (rf Ω 66 k1), some (.int x2), some (.int x3), some (.int r3)]) 0 rfl ?_
            refine R_drop (lv2 := [none, some (rf Ω 66 k1), some (.int x2), none, some (.int r3)]) 3 rfl ?_
            refine R_drop (lv2 := [none, some (rf Ω 66 k1), some (.int x2), none, none]) 4 rfl ?_
            exact rnX10_empties_j53 hW k1 x2 hL1 σ15  h
          · have h := hit_f h hc
            exact R_vret dX10_empties_52 rfl h
set_option maxRecDepth 100000 in
set_option maxHeartbeats 4000000 in
theorem rnX10_ends_j103L7 {l : Launch} {Ω : rO} (hW : WF Ω) (k1 : Nat) (x2 : Int32) (x3 : Int32) (hL0 : oL Ω 10 0) (hL1 : oL Ω 66 k1) (σ : rS) {K : Int32 → rS → Prop} {K0 : (Int32 ⊕ Unit) → rS → Prop} (hC : ∀ (x3 : Int32) (σ : rS), K0 (.inl x3) σ → Run l Ω cX10_ends RX10 4 none rmX10_ends K 7 [some (rf Ω 10 0), some (rf Ω 66 k1), some (.int x2), some (.int x3)] [] σ) (hE0 : ∀ (e : Unit) (σ : rS), K0 (.inr e) σ → Run l Ω cX10_ends RX10 4 none rmX10_ends K 109 [none, none, none, none] [] σ) (h : hit (fX10_ends_j103L7 k1 x2 x3 σ) K0) : Run l Ω cX10_ends RX10 4 none rmX10_ends K 103 [some (rf Ω 10 0), some (rf Ω 66 k1), some (.int x2), some (.int x3)] [] σ := by
  unfold fX10_ends_j103L7 at h
  refine R_iinc (v := x3 + 1) (lv2 := [some (rf Ω 10 0), some (rf Ω 66 k1), some (.int x2), some (.int (x3 + 1))]) dX10_ends_103 rfl rfl (by decide) rfl rfl ?_
  refine R_goto (tgt := 7) dX10_ends_106 (by decide) ?_
  exact hC (x3 + 1) σ h
set_option maxRecDepth 100000 in
set_option maxHeartbeats 4000000 in
theorem rnX10_ends_j48L7 {l : Launch} {Ω : rO} (hW : WF Ω) (k1 : Nat) (x2 : Int32) (x3 : Int32) (hL0 : oL Ω 10 0) (hL1 : oL Ω 66 k1) (σ : rS) {K : Int32 → rS → Prop} {K0 : (Int32 ⊕ Unit) → rS → Prop} (hC : ∀ (x3 : Int32) (σ : rS), K0 (.inl x3) σ → Run l Ω cX10_ends RX10 4 none rmX10_ends K 7 [some (rf Ω 10 0), some (rf Ω 66 k1), some (.int x2), some (.int x3)] [] σ) (hE0 : ∀ (e : Unit) (σ : rS), K0 (.inr e) σ → Run l Ω cX10_ends RX10 4 none rmX10_ends K 109 [none, none, none, none] [] σ) (h : hit (fX10_ends_j48L7 k1 x2 x3 σ) K0) : Run l Ω cX10_ends RX10 4 none rmX10_ends K 48 [some (rf Ω 10 0), some (rf Ω 66 k1), some (.int x2), some (.int x3)] [] σ := by
  unfold fX10_ends_j48L7 at h
  refine R_aload_n (i := 1) dX10_ends_48 rfl rfl ?_
  refine R_sipush (v := 1243) dX10_ends_49 rfl ?_
  refine R_aload_n (i := 1) dX10_ends_52 rfl rfl ?_
  refine R_sipush (v := 1242) dX10_ends_53 rfl ?_
  refine R_iald hL1 (cE_66 Ω k1 _) (vin 1242 1554 rfl) dX10_ends_56 ?_
  refine R_iadd dX10_ends_57 ?_
  refine R_aload_n (i := 1) dX10_ends_58 rfl rfl ?_
  refine R_iload_n (i := 3) dX10_ends_59 rfl rfl ?_
  refine R_iconst (v := 0) dX10_ends_60 rfl ?_
  refine R_callSi (ctX10_of l Ω k1 x3 0 hL1 _ _ (hit_mono (hit_bd h) (fun r4 σ5 h => ?_))) okX10_of mw_1435 rfl rfl (Nat.le_of_ble_eq_true rfl) rfl rfl ⟨by decide, by decide⟩ ⟨Nat.zero_le _, Nat.zero_le _⟩ dX10_ends_61
  obtain ⟨hb, h⟩ := hit_bnd h
  refine R_iast hL1 (cE_66 Ω k1) hb dX10_ends_64 ?_
  refine R_st h (fun σ6 h => ?_)
  refine R_aload_n (i := 1) dX10_ends_65 rfl rfl ?_
  refine R_sipush (v := 1242) dX10_ends_66 rfl ?_
  refine R_dup2 dX10_ends_69 rfl rfl ?_
  refine R_iald hL1 (cE_66 Ω k1 _) (vin 1242 1554 rfl) dX10_ends_70 ?_
  refine R_iconst (v := 1) dX10_ends_71 rfl ?_
  refine R_iadd dX10_ends_72 ?_
  refine R_iast hL1 (cE_66 Ω k1) (vin 1242 1554 rfl) dX10_ends_73 ?_
  refine R_st h (fun σ7 h => ?_)
  refine R_aload_n (i := 1) dX10_ends_74 rfl rfl ?_
  refine R_sipush (v := 1371) dX10_ends_75 rfl ?_
  refine R_dup2 dX10_ends_78 rfl rfl ?_
  refine R_iald hL1 (cE_66 Ω k1 _) (vin 1371 1554 rfl) dX10_ends_79 ?_
  refine R_iconst (v := 1) dX10_ends_80 rfl ?_
  refine R_iadd dX10_ends_81 ?_
  refine R_iast hL1 (cE_66 Ω k1) (vin 1371 1554 rfl) dX10_ends_82 ?_
  refine R_st h (fun σ8 h => ?_)
  refine R_aload_n (i := 0) dX10_ends_83 rfl rfl ?_
  refine R_get foX10_52 hL0 (cE_10 Ω 0 _) rfl dX10_ends_84 ?_
  refine R_aload_n (i := 0) dX10_ends_87 rfl rfl ?_
  refine R_get foX10_217 hL0 (cE_10 Ω 0 _) rfl dX10_ends_88 ?_
  refine R_iload_n (i := 3) dX10_ends_91 rfl rfl ?_
  obtain ⟨hb, h⟩ := hit_bnd h
  refine R_iast (WF.kid hW 13 hL0 rfl) (cE_70 Ω 0) hb dX10_ends_92 ?_
  refine R_st h (fun σ9 h => ?_)
  refine R_aload_n (i := 0) dX10_ends_93 rfl rfl ?_
  refine R_dup dX10_ends_94 rfl ?_
  refine R_get foX10_217 hL0 (cE_10 Ω 0 _) rfl dX10_ends_95 ?_
  refine R_iconst (v := 1) dX10_ends_98 rfl ?_
  refine R_iadd dX10_ends_99 ?_
  refine R_put poX10_217 hL0 (cE_10 Ω 0 _) (cP_10_24 Ω 0 _ _) (Nat.le_of_ble_eq_true rfl) dX10_ends_100 ?_
  refine R_st h (fun σ10 h => ?_)
  exact rnX10_ends_j103L7 hW k1 x2 x3 hL0 hL1 σ10 hC hE0 h
set_option maxRecDepth 100000 in
set_option maxHeartbeats 4000000 in
theorem rsX10_ends_L7 {l : Launch} {Ω : rO} (hW : WF Ω) (k1 : Nat) (x2 : Int32) (x3 : Int32) (hL0 : oL Ω 10 0) (hL1 : oL Ω 66 k1) (σ : rS) {K : Int32 → rS → Prop} {K0 : (Int32 ⊕ Unit) → rS → Prop} (hC : ∀ (x3 : Int32) (σ : rS), K0 (.inl x3) σ → Run l Ω cX10_ends RX10 4 none rmX10_ends K 7 [some (rf Ω 10 0), some (rf Ω 66 k1), some (.int x2), some (.int x3)] [] σ) (hE0 : ∀ (e : Unit) (σ : rS), K0 (.inr e) σ → Run l Ω cX10_ends RX10 4 none rmX10_ends K 109 [none, none, none, none] [] σ) (h : hit (fX10_ends_L7 k1 x2 x3 σ) K0) : Run l Ω cX10_ends RX10 4 none rmX10_ends K 7 [some (rf Ω 10 0), some (rf Ω 66 k1), some (.int x2), some (.int x3)] [] σ := by
  unfold fX10_ends_L7 at h
  refine R_iload_n (i := 3) dX10_ends_7 rfl rfl ?_
  refine R_aload_n (i := 1) dX10_ends_8 rfl rfl ?_
  refine R_iconst (v := 0) dX10_ends_9 rfl ?_
  refine R_iald hL1 (cE_66 Ω k1 _) (vin 0 1554 rfl) dX10_ends_10 ?_
  refine R_icmp_ge (tgt := 109) dX10_ends_11 (by decide) (fun hc => ?_) (fun hc => ?_)
  · have h := hit_f h hc
    refine R_drop (lv2 := [none, some (rf Ω 66 k1), some (.int x2), some (.int x3)]) 0 rfl ?_
    refine R_drop (lv2 := [none, none, some (.int x2), some (.int x3)]) 1 rfl ?_
    refine R_drop (lv2 := [none, none, none, some (.int x3)]) 2 rfl ?_
    refine R_drop (lv2 := [none, none, none, none]) 3 rfl ?_
    exact hE0 () σ h
  · have h := hit_t h hc
    refine R_aload_n (i := 1) dX10_ends_14 rfl rfl ?_
    refine R_iload_n (i := 3) dX10_ends_15 rfl rfl ?_
    refine R_iconst (v := 1) dX10_ends_16 rfl ?_
    refine R_callSi (ctX10_of l Ω k1 x3 1 hL1 _ _ (hit_mono (hit_bd h) (fun r2 σ3 h => ?_))) okX10_of mw_1435 rfl rfl (Nat.le_of_ble_eq_true rfl) rfl rfl ⟨by decide, by decide⟩ ⟨Nat.zero_le _, Nat.zero_le _⟩ dX10_ends_17
    refine R_iconst (v := 2) dX10_ends_20 rfl ?_
    refine R_icmp_ne (tgt := 103) dX10_ends_21 (by decide) (fun hc => ?_) (fun hc => ?_)
    · have h := hit_f h hc
      exact rnX10_ends_j103L7 hW k1 x2 x3 hL0 hL1 σ3 hC hE0 h
    · have h := hit_t h hc
      refine R_aload_n (i := 0) dX10_ends_24 rfl rfl ?_
      refine R_get foX10_45 hL0 (cE_10 Ω 0 _) rfl dX10_ends_25 ?_
      refine R_iload_n (i := 3) dX10_ends_28 rfl rfl ?_
      obtain ⟨hb, h⟩ := hit_bnd h
      refine R_zald (WF.kid hW 11 hL0 rfl) (cE_68 Ω 0 _) hb dX10_ends_29 ?_
      refine R_if_ne (tgt := 103) dX10_ends_30 (by decide) (fun hc => ?_) (fun hc => ?_)
      · have h := hit_f h hc
        exact rnX10_ends_j103L7 hW k1 x2 x3 hL0 hL1 σ3 hC hE0 h
      · have h := hit_t h hc
        refine R_iload_n (i := 2) dX10_ends_33 rfl rfl ?_
        refine R_if_eq (tgt := 48) dX10_ends_34 (by decide) (fun hc => ?_) (fun hc => ?_)
        · have h := hit_t h hc
          exact rnX10_ends_j48L7 hW k1 x2 x3 hL0 hL1 σ3 hC hE0 h
        · have h := hit_f h hc
          refine R_aload_n (i := 1) dX10_ends_37 rfl rfl ?_
          refine R_iload_n (i := 3) dX10_ends_38 rfl rfl ?_
          refine R_callSi (ctX10_isOld l Ω k1 x3 hL1 _ _ (hit_mono (hit_bd h) (fun r11 σ12 h => ?_))) okX10_isOld mw_1468 rfl rfl (Nat.le_of_ble_eq_true rfl) rfl rfl ⟨by decide, by decide⟩ ⟨Nat.zero_le _, Nat.zero_le _⟩ dX10_ends_39
          refine R_if_eq (tgt := 48) dX10_ends_42 (by decide) (fun hc => ?_) (fun hc => ?_)
          · have h := hit_t h hc
            exact rnX10_ends_j48L7 hW k1 x2 x3 hL0 hL1 σ12 hC hE0 h
          · have h := hit_f h hc
            refine R_goto (tgt := 103) dX10_ends_45 (by decide) ?_
            exact rnX10_ends_j103L7 hW k1 x2 x3 hL0 hL1 σ12 hC hE0 h
set_option maxRecDepth 100000 in
set_option maxHeartbeats 4000000 in
theorem rlX10_ends_L7 {l : Launch} {Ω : rO} (hW : WF Ω) (k1 : Nat) (x2 : Int32) (hL0 : oL Ω 10 0) (hL1 : oL Ω 66 k1) {K : Int32 → rS → Prop} {KE : Unit → rS → Prop} (hE0 : ∀ (e : Unit) (σ : rS), KE e σ → Run l Ω cX10_ends RX10 4 none rmX10_ends K 109 [none, none, none, none] [] σ) : ∀ (n : Nat) (x3 : Int32) (σ : rS), hit (lp (fun (x : Int32) σ => fX10_ends_L7 k1 x2 x σ) n x3 σ) KE → Run l Ω cX10_ends RX10 4 none rmX10_ends K 7 [some (rf Ω 10 0), some (rf Ω 66 k1), some (.int x2), some (.int x3)] [] σ := by
  intro n
  induction n with
  | zero => intro x3 σ h; exact (h : False).elim
  | succ n ih =>
    intro x3 σ h
    exact rsX10_ends_L7 hW k1 x2 x3 hL0 hL1 σ (fun x3 σ h => ih x3 σ h) (fun e σ h => hE0 e σ h) (hit_lp h)
set_option maxRecDepth 100000 in
set_option maxHeartbeats 4000000 in
theorem ctX10_ends (l : Launch) (Ω : rO) (k1 : Nat) (x2 : Int32) (hL0 : oL Ω 10 0) (hL1 : oL Ω 66 k1) (σ : rS) (K : Int32 → rS → Prop) (h : hit (fX10_ends k1 x2 σ) K) : Ct l Ω yX10_ends cX10_ends 4 none rmX10_ends [rf Ω 10 0, rf Ω 66 k1, .int x2] σ K := by
  refine Ct.of (own := RX10) (lv := [some (rf Ω 10 0), some (rf Ω 66 k1), some (.int x2), none]) (by decide) rfl (Nat.le_of_ble_eq_true rfl) rfl (fun hW => ?_)
  unfold fX10_ends at h
  refine R_aload_n (i := 0) dX10_ends_0 rfl rfl ?_
  refine R_iconst (v := 0) dX10_ends_1 rfl ?_
  refine R_put poX10_217 hL0 (cE_10 Ω 0 _) (cP_10_24 Ω 0 _ _) (Nat.le_of_ble_eq_true rfl) dX10_ends_2 ?_
  refine R_st h (fun σ1 h => ?_)
  refine R_iconst (v := 0) dX10_ends_5 rfl ?_
  refine R_istore_n (lv2 := [some (rf Ω 10 0), some (rf Ω 66 k1), some (.int x2), some (.int 0)]) dX10_ends_6 rfl (by decide) rfl rfl ?_
  refine rlX10_ends_L7 hW k1 x2 hL0 hL1 ?_ fu 0 σ1 (hit_bd h)
  · intro e14 σ13 h
    try dsimp only at h
    exact R_vret dX10_ends_109 rfl h
