set_option maxRecDepth 100000 in
set_option maxHeartbeats 4000000 in
theorem rsX9_until_L27 {l : Launch} {Ω : rO} (hW : WF Ω) (x1 : Int32) (x2 : Int32) (hL0 : oL Ω 9 0) (σ : rS) {K : Int32 → rS → Prop} {K0 : (Int32 ⊕ (Unit ⊕ (Int32 ⊕ (Unit ⊕ Unit)))) → rS → Prop} (hC : ∀ (x2 : Int32) (σ : rS), K0 (.inl x2) σ → Run l Ω cX9_until RX9 4 (some .int) rmX9_until K 27 [some (rf Ω 9 0), some (.int x1), some (.int x2), none] [] σ) (hE0 : ∀ (e : Unit) (σ : rS), K0 (.inr (.inl e)) σ → Run l Ω cX9_until RX9 4 (some .int) rmX9_until K 47 [none, none, none, none] [] σ) (hE1 : ∀ (e : Int32) (σ : rS), K0 (.inr (.inr (.inl e))) σ → Run l Ω cX9_until RX9 4 (some .int) rmX9_until K 60 [none, none, some (.int e), none] [] σ) (hE2 : ∀ (e : Unit) (σ : rS), K0 (.inr (.inr (.inr (.inl e)))) σ → Run l Ω cX9_until RX9 4 (some .int) rmX9_until K 76 [none, none, none, none] [] σ) (hE3 : ∀ (e : Unit) (σ : rS), K0 (.inr (.inr (.inr (.inr e)))) σ → Run l Ω cX9_until RX9 4 (some .int) rmX9_until K 84 [none, none, none, none] [] σ) (h : hit (fX9_until_L27 x1 x2 σ) K0) : Run l Ω cX9_until RX9 4 (some .int) rmX9_until K 27 [some (rf Ω 9 0), some (.int x1), some (.int x2), none] [] σ := by
  unfold fX9_until_L27 at h
  refine R_iload_n (i := 2) dX9_until_27 rfl rfl ?_
  refine R_bipush (v := 9) dX9_until_28 rfl ?_
  refine R_icmp_gt (tgt := 84) dX9_until_30 (by decide) (fun hc => ?_) (fun hc => ?_)
  · have h := hit_t h hc
    refine R_drop (lv2 := [none, some (.int x1), some (.int x2), none]) 0 rfl ?_
    refine R_drop (lv2 := [none, none, some (.int x2), none]) 1 rfl ?_
    refine R_drop (lv2 := [none, none, none, none]) 2 rfl ?_
    exact hE3 () σ h
  · have h := hit_f h hc
    refine R_aload_n (i := 0) dX9_until_33 rfl rfl ?_
    refine R_get foX9_47 hL0 (cE_9 Ω 0 _) rfl dX9_until_34 ?_
    refine R_iload_n (i := 1) dX9_until_37 rfl rfl ?_
    refine R_callVi (ctX7_find l Ω 2 x1 (WF.kid hW 7 hL0 rfl) _ _ (hit_mono (hit_bd h) (fun r5 σ6 h => ?_))) okX7_find mw_563 (WF.kid hW 7 hL0 rfl) (cE_7 Ω 2 _) rfl rfl (Nat.le_of_ble_eq_true rfl) rfl rfl ⟨by decide, by decide⟩ ⟨Nat.zero_le _, Nat.zero_le _⟩ dX9_until_38
    refine R_istore_n (lv2 := [some (rf Ω 9 0), some (.int x1), some (.int x2), some (.int r5)]) dX9_until_41 rfl (by decide) rfl rfl ?_
    refine R_iload_n (i := 3) dX9_until_42 rfl rfl ?_
    refine R_iconst (v := (-1)) dX9_until_43 rfl ?_
    refine R_icmp_ne (tgt := 49) dX9_until_44 (by decide) (fun hc => ?_) (fun hc => ?_)
    · have h := hit_f h hc
      refine R_aload_n (i := 0) dX9_until_49 rfl rfl ?_
      refine R_get foX9_47 hL0 (cE_9 Ω 0 _) rfl dX9_until_50 ?_
      refine R_iload_n (i := 3) dX9_until_53 rfl rfl ?_
      refine R_callVi (ctX7_isYoung l Ω 2 r5 (WF.kid hW 7 hL0 rfl) _ _ (hit_mono (hit_bd h) (fun r7 σ8 h => ?_))) okX7_isYoung mw_1032 (WF.kid hW 7 hL0 rfl) (cE_7 Ω 2 _) rfl rfl (Nat.le_of_ble_eq_true rfl) rfl rfl ⟨by decide, by decide⟩ ⟨Nat.zero_le _, Nat.zero_le _⟩ dX9_until_54
      refine R_if_ne (tgt := 62) dX9_until_57 (by decide) (fun hc => ?_) (fun hc => ?_)
      · have h := hit_f h hc
        refine R_aload_n (i := 0) dX9_until_62 rfl rfl ?_
        refine R_get foX9_69 hL0 (cE_9 Ω 0 _) rfl dX9_until_63 ?_
        refine R_aload_n (i := 0) dX9_until_66 rfl rfl ?_
        refine R_get foX9_47 hL0 (cE_9 Ω 0 _) rfl dX9_until_67 ?_
        refine R_callVi (ctX1_collectYoung l Ω 2 (WF.kid hW 10 hL0 rfl) (WF.kid hW 7 hL0 rfl) _ _ (hit_mono (hit_bd h) (fun r9 σ10 h => ?_))) okX1_collectYoung mw_964 (WF.kid hW 10 hL0 rfl) (cE_1 Ω 0 _) rfl rfl (Nat.le_of_ble_eq_true rfl) rfl rfl ⟨by decide, by decide⟩ ⟨Nat.zero_le _, Nat.zero_le _⟩ dX9_until_70
        refine R_if_ne (tgt := 78) dX9_until_73 (by decide) (fun hc => ?_) (fun hc => ?_)
        · have h := hit_f h hc
          refine R_iinc (v := x2 + 1) (lv2 := [some (rf Ω 9 0), some (.int x1), some (.int (x2 + 1)), some (.int r5)]) dX9_until_78 rfl rfl (by decide) rfl rfl ?_
          refine R_goto (tgt := 27) dX9_until_81 (by decide) ?_
          refine R_drop (lv2 := [some (rf Ω 9 0), some (.int x1), some (.int (x2 + 1)), none]) 3 rfl ?_
          exact hC (x2 + 1) σ10 h
        · have h := hit_t h hc
          refine R_drop (lv2 := [none, some (.int x1), some (.int x2), some (.int r5)]) 0 rfl ?_
          refine R_drop (lv2 := [none, none, some (.int x2), some (.int r5)]) 1 rfl ?_
          refine R_drop (lv2 := [none, none, none, some (.int r5)]) 2 rfl ?_
          refine R_drop (lv2 := [none, none, none, none]) 3 rfl ?_
          exact hE2 () σ10 h
      · have h := hit_t h hc
        refine R_drop (lv2 := [none, some (.int x1), some (.int x2), some (.int r5)]) 0 rfl ?_
        refine R_drop (lv2 := [none, none, some (.int x2), some (.int r5)]) 1 rfl ?_
        refine R_drop (lv2 := [none, none, some (.int x2), none]) 3 rfl ?_
        exact hE1 x2 σ8 h
    · have h := hit_t h hc
      refine R_drop (lv2 := [none, some (.int x1), some (.int x2), some (.int r5)]) 0 rfl ?_
      refine R_drop (lv2 := [none, none, some (.int x2), some (.int r5)]) 1 rfl ?_
      refine R_drop (lv2 := [none, none, none, some (.int r5)]) 2 rfl ?_
      refine R_drop (lv2 := [none, none, none, none]) 3 rfl ?_
      exact hE0 () σ6 h
set_option maxRecDepth 100000 in
set_option maxHeartbeats 4000000 in
theorem rlX9_until_L27 {l : Launch} {Ω : rO} (hW : WF Ω) (x1 : Int32) (hL0 : oL Ω 9 0) {K : Int32 → rS → Prop} {KE : (Unit ⊕ (Int32 ⊕ (Unit ⊕ Unit))) → rS → Prop} (hE0 : ∀ (e : Unit) (σ : rS), KE (.inl e) σ → Run l Ω cX9_until RX9 4 (some .int) rmX9_until K 47 [none, none, none, none] [] σ) (hE1 : ∀ (e : Int32) (σ : rS), KE (.inr (.inl e)) σ → Run l Ω cX9_until RX9 4 (some .int) rmX9_until K 60 [none, none, some (.int e), none] [] σ) (hE2 : ∀ (e : Unit) (σ : rS), KE (.inr (.inr (.inl e))) σ → Run l Ω cX9_until RX9 4 (some .int) rmX9_until K 76 [none, none, none, none] [] σ) (hE3 : ∀ (e : Unit) (σ : rS), KE (.inr (.inr (.inr e))) σ → Run l Ω cX9_until RX9 4 (some .int) rmX9_until K 84 [none, none, none, none] [] σ) : ∀ (n : Nat) (x2 : Int32) (σ : rS), hit (lp (fun (x : Int32) σ => fX9_until_L27 x1 x σ) n x2 σ) KE → Run l Ω cX9_until RX9 4 (some .int) rmX9_until K 27 [some (rf Ω 9 0), some (.int x1), some (.int x2), none] [] σ := by
  intro n
  induction n with
  | zero => intro x2 σ h; exact (h : False).elim
  | succ n ih =>
    intro x2 σ h
    exact rsX9_until_L27 hW x1 x2 hL0 σ (fun x2 σ h => ih x2 σ h) (fun e σ h => hE0 e σ h) (fun e σ h => hE1 e σ h) (fun e σ h => hE2 e σ h) (fun e σ h => hE3 e σ h) (hit_lp h)
set_option maxRecDepth 100000 in
set_option maxHeartbeats 4000000 in
theorem ctX9_until (l : Launch) (Ω : rO) (x1 : Int32) (hL0 : oL Ω 9 0) (σ : rS) (K : Int32 → rS → Prop) (h : hit (fX9_until x1 σ) K) : Ct l Ω yX9_until cX9_until 4 (some .int) rmX9_until [rf Ω 9 0, .int x1] σ K := by
  refine Ct.of (own := RX9) (lv := [some (rf Ω 9 0), some (.int x1), none, none]) (by decide) rfl (Nat.le_of_ble_eq_true rfl) rfl (fun hW => ?_)
  unfold fX9_until at h
  refine R_aload_n (i := 0) dX9_until_0 rfl rfl ?_
  refine R_get foX9_40 hL0 (cE_9 Ω 0 _) rfl dX9_until_1 ?_
  refine R_iload_n (i := 1) dX9_until_4 rfl rfl ?_
  refine R_callVi (ctX7_find l Ω 0 x1 (WF.kid hW 5 hL0 rfl) _ _ (hit_mono (hit_bd h) (fun r1 σ2 h => ?_))) okX7_find mw_563 (WF.kid hW 5 hL0 rfl) (cE_7 Ω 0 _) rfl rfl (Nat.le_of_ble_eq_true rfl) rfl rfl ⟨by decide, by decide⟩ ⟨Nat.zero_le _, Nat.zero_le _⟩ dX9_until_5
  refine R_iconst (v := (-1)) dX9_until_8 rfl ?_
  refine R_icmp_ne (tgt := 14) dX9_until_9 (by decide) (fun hc => ?_) (fun hc => ?_)
  · have h := hit_f h hc
    refine R_aload_n (i := 0) dX9_until_14 rfl rfl ?_
    refine R_get foX9_47 hL0 (cE_9 Ω 0 _) rfl dX9_until_15 ?_
    refine R_aload_n (i := 0) dX9_until_18 rfl rfl ?_
    refine R_get foX9_40 hL0 (cE_9 Ω 0 _) rfl dX9_until_19 ?_
    refine R_callVv (ctX7_copyFrom l Ω 2 0 (WF.kid hW 7 hL0 rfl) (WF.kid hW 5 hL0 rfl) _ _ (hit_mono (hit_bd h) (fun r3 σ4 h => ?_))) okX7_copyFrom mw_962 (WF.kid hW 7 hL0 rfl) (cE_7 Ω 2 _) rfl rfl (Nat.le_of_ble_eq_true rfl) rfl rfl ⟨by decide, by decide⟩ ⟨Nat.zero_le _, Nat.zero_le _⟩ dX9_until_22
    refine R_iconst (v := 0) dX9_until_25 rfl ?_
    refine R_istore_n (lv2 := [some (rf Ω 9 0), some (.int x1), some (.int 0), none]) dX9_until_26 rfl (by decide) rfl rfl ?_
    refine rlX9_until_L27 hW x1 hL0 ?_ ?_ ?_ ?_ fu 0 σ4 (hit_bd h)
    · intro e12 σ11 h
      try dsimp only at h
      refine R_iconst (v := (-1)) dX9_until_47 rfl ?_
      exact R_iret dX9_until_48 rfl h
    · intro e13 σ11 h
      try dsimp only at h
      refine R_iload_n (i := 2) dX9_until_60 rfl rfl ?_
      exact R_iret dX9_until_61 rfl h
    · intro e14 σ11 h
      try dsimp only at h
      refine R_iconst (v := (-1)) dX9_until_76 rfl ?_
      exact R_iret dX9_until_77 rfl h
    · intro e15 σ11 h
      try dsimp only at h
      refine R_iconst (v := (-1)) dX9_until_84 rfl ?_
      exact R_iret dX9_until_85 rfl h
  · have h := hit_t h hc
    refine R_iconst (v := (-1)) dX9_until_12 rfl ?_
    exact R_iret dX9_until_13 rfl h
set_option maxRecDepth 100000 in
set_option maxHeartbeats 4000000 in
theorem ctX9_garbage (l : Launch) (Ω : rO) (x1 : Int32) (hL0 : oL Ω 9 0) (σ : rS) (K : Int32 → rS → Prop) (h : hit (fX9_garbage x1 σ) K) : Ct l Ω yX9_garbage cX9_garbage 2 (some .int) rmX9_garbage [rf Ω 9 0, .int x1] σ K := by
  refine Ct.of (own := RX9) (lv := [some (rf Ω 9 0), some (.int x1)]) (by decide) rfl (Nat.le_of_ble_eq_true rfl) rfl (fun hW => ?_)
  unfold fX9_garbage at h
  refine R_aload_n (i := 0) dX9_garbage_0 rfl rfl ?_
  refine R_get foX9_117 hL0 (cE_9 Ω 0 _) rfl dX9_garbage_1 ?_
  refine R_if_eq (tgt := 16) dX9_garbage_4 (by decide) (fun hc => ?_) (fun hc => ?_)
  · have h := hit_t h hc
    refine R_iconst (v := (-1)) dX9_garbage_16 rfl ?_
    exact R_iret dX9_garbage_17 rfl h
  · have h := hit_f h hc
    refine R_iload_n (i := 1) dX9_garbage_7 rfl rfl ?_
    refine R_if_lt (tgt := 16) dX9_garbage_8 (by decide) (fun hc => ?_) (fun hc => ?_)
    · have h := hit_t h hc
      refine R_iconst (v := (-1)) dX9_garbage_16 rfl ?_
      exact R_iret dX9_garbage_17 rfl h
    · have h := hit_f h hc
      refine R_iload_n (i := 1) dX9_garbage_11 rfl rfl ?_
      refine R_iconst (v := 3) dX9_garbage_12 rfl ?_
      refine R_icmp_lt (tgt := 18) dX9_garbage_13 (by decide) (fun hc => ?_) (fun hc => ?_)
      · have h := hit_t h hc
        refine R_aload_n (i := 0) dX9_garbage_18 rfl rfl ?_
        refine R_get foX9_60 hL0 (cE_9 Ω 0 _) rfl dX9_garbage_19 ?_
        refine R_aload_n (i := 0) dX9_garbage_22 rfl rfl ?_
        refine R_get foX9_40 hL0 (cE_9 Ω 0 _) rfl dX9_garbage_23 ?_
        refine R_iconst (v := (-1)) dX9_garbage_26 rfl ?_
        refine R_callVv (ctX3_reach l Ω 0 (-1) (WF.kid hW 9 hL0 rfl) (WF.kid hW 5 hL0 rfl) _ _ (hit_mono (hit_bd h) (fun r1 σ2 h => ?_))) okX3_reach mw_985 (WF.kid hW 9 hL0 rfl) (cE_3 Ω 0 _) rfl rfl (Nat.le_of_ble_eq_true rfl) rfl rfl ⟨by decide, by decide⟩ ⟨Nat.zero_le _, Nat.zero_le _⟩ dX9_garbage_27
        refine R_aload_n (i := 0) dX9_garbage_30 rfl rfl ?_
        refine R_get foX9_60 hL0 (cE_9 Ω 0 _) rfl dX9_garbage_31 ?_
        refine R_aload_n (i := 0) dX9_garbage_34 rfl rfl ?_
        refine R_get foX9_40 hL0 (cE_9 Ω 0 _) rfl dX9_garbage_35 ?_
        refine R_iload_n (i := 1) dX9_garbage_38 rfl rfl ?_
        refine R_callVi (ctX3_unseenCells l Ω 0 x1 (WF.kid hW 9 hL0 rfl) (WF.kid hW 5 hL0 rfl) _ _ (hit_mono (hit_bd h) (fun r3 σ4 h => ?_))) okX3_unseenCells mw_1037 (WF.kid hW 9 hL0 rfl) (cE_3 Ω 0 _) rfl rfl (Nat.le_of_ble_eq_true rfl) rfl rfl ⟨by decide, by decide⟩ ⟨Nat.zero_le _, Nat.zero_le _⟩ dX9_garbage_39
        exact R_iret dX9_garbage_42 rfl h
      · have h := hit_f h hc
        refine R_iconst (v := (-1)) dX9_garbage_16 rfl ?_
        exact R_iret dX9_garbage_17 rfl h
set_option maxRecDepth 100000 in
set_option maxHeartbeats 4000000 in
theorem ctX9_isScript (l : Launch) (Ω : rO) (x1 : Int32) (hL0 : oL Ω 9 0) (σ : rS) (K : Int32 → rS → Prop) (h : hit (fX9_isScript x1 σ) K) : Ct l Ω yX9_isScript cX9_isScript 2 (some .boolean) rmX9_isScript [rf Ω 9 0, .int x1] σ K := by
  refine Ct.of (own := RX9) (lv := [some (rf Ω 9 0), some (.int x1)]) (by decide) rfl (Nat.le_of_ble_eq_true rfl) rfl (fun hW => ?_)
  unfold fX9_isScript at h
  refine R_iload_n (i := 1) dX9_isScript_0 rfl rfl ?_
  refine R_if_lt (tgt := 16) dX9_isScript_1 (by decide) (fun hc => ?_) (fun hc => ?_)
  · have h := hit_t h hc
    refine R_iconst (v := 0) dX9_isScript_16 rfl ?_
    exact R_zret dX9_isScript_17 rfl (Or.inl rfl) h
  · have h := hit_f h hc
    refine R_iload_n (i := 1) dX9_isScript_4 rfl rfl ?_
    refine R_aload_n (i := 0) dX9_isScript_5 rfl rfl ?_
    refine R_get foX9_128 hL0 (cE_9 Ω 0 _) rfl dX9_isScript_6 ?_
    refine R_icmp_ge (tgt := 16) dX9_isScript_9 (by decide) (fun hc => ?_) (fun hc => ?_)
    · have h := hit_f h hc
      refine R_iconst (v := 0) dX9_isScript_16 rfl ?_
      exact R_zret dX9_isScript_17 rfl (Or.inl rfl) h
    · have h := hit_t h hc
      refine R_iconst (v := 1) dX9_isScript_12 rfl ?_
      refine R_goto (tgt := 17) dX9_isScript_13 (by decide) ?_
      exact R_zret dX9_isScript_17 rfl (Or.inr rfl) h
set_option maxRecDepth 100000 in
set_option maxHeartbeats 4000000 in
theorem ctX9_step (l : Launch) (Ω : rO) (x1 : Int32) (x2 : Int32) (x3 : Int32) (hL0 : oL Ω 9 0) (σ : rS) (K : Int32 → rS → Prop) (h : hit (fX9_step x1 x2 x3 σ) K) : Ct l Ω yX9_step cX9_step 4 (some .int) rmX9_step [rf Ω 9 0, .int x1, .int x2, .int x3] σ K := by
  refine Ct.of (own := RX9) (lv := [some (rf Ω 9 0), some (.int x1), some (.int x2), some (.int x3)]) (by decide) rfl (Nat.le_of_ble_eq_true rfl) rfl (fun hW => ?_)
  unfold fX9_step at h
  refine R_aload_n (i := 0) dX9_step_0 rfl rfl ?_
  refine R_iload_n (i := 1) dX9_step_1 rfl rfl ?_
  refine R_callVi (ctX9_isScript l Ω x1 hL0 _ _ (hit_mono (hit_bd h) (fun r1 σ2 h => ?_))) okX9_isScript mw_1045 hL0 (cE_9 Ω 0 _) rfl rfl (Nat.le_of_ble_eq_true rfl) rfl rfl ⟨by decide, by decide⟩ ⟨Nat.zero_le _, Nat.zero_le _⟩ dX9_step_2
  refine R_if_eq (tgt := 31) dX9_step_5 (by decide) (fun hc => ?_) (fun hc => ?_)
  · have h := hit_t h hc
    refine R_ldc (v := (-1000000)) mw_948 dX9_step_31 ?_
    exact R_iret dX9_step_33 rfl h
  · have h := hit_f h hc
    refine R_iload_n (i := 2) dX9_step_8 rfl rfl ?_
    refine R_if_lt (tgt := 31) dX9_step_9 (by decide) (fun hc => ?_) (fun hc => ?_)
    · have h := hit_t h hc
      refine R_ldc (v := (-1000000)) mw_948 dX9_step_31 ?_
      exact R_iret dX9_step_33 rfl h
    · have h := hit_f h hc
      refine R_iload_n (i := 2) dX9_step_12 rfl rfl ?_
      refine R_aload_n (i := 0) dX9_step_13 rfl rfl ?_
      refine R_get foX9_30 hL0 (cE_9 Ω 0 _) rfl dX9_step_14 ?_
      refine R_iload_n (i := 1) dX9_step_17 rfl rfl ?_
      obtain ⟨hb, h⟩ := hit_bnd h
      refine R_iald (WF.kid hW 3 hL0 rfl) (cE_21 Ω 0 _) hb dX9_step_18 ?_
      refine R_icmp_ge (tgt := 31) dX9_step_19 (by decide) (fun hc => ?_) (fun hc => ?_)
      · have h := hit_f h hc
        refine R_ldc (v := (-1000000)) mw_948 dX9_step_31 ?_
        exact R_iret dX9_step_33 rfl h
      · have h := hit_t h hc
        refine R_iload_n (i := 3) dX9_step_22 rfl rfl ?_
        refine R_if_lt (tgt := 31) dX9_step_23 (by decide) (fun hc => ?_) (fun hc => ?_)
        · have h := hit_t h hc
          refine R_ldc (v := (-1000000)) mw_948 dX9_step_31 ?_
          exact R_iret dX9_step_33 rfl h
        · have h := hit_f h hc
          refine R_iload_n (i := 3) dX9_step_26 rfl rfl ?_
          refine R_iconst (v := 5) dX9_step_27 rfl ?_
          refine R_icmp_lt (tgt := 34) dX9_step_28 (by decide) (fun hc => ?_) (fun hc => ?_)
          · have h := hit_t h hc
            refine R_aload_n (i := 0) dX9_step_34 rfl rfl ?_
            refine R_get foX9_27 hL0 (cE_9 Ω 0 _) rfl dX9_step_35 ?_
            refine R_iload_n (i := 1) dX9_step_38 rfl rfl ?_
            obtain ⟨hb3, h⟩ := hit_bnd h
            refine R_scripts (WF.kid hW 2 hL0 rfl) hb3 dX9_step_39 ?_
            refine R_iload_n (i := 2) dX9_step_40 rfl rfl ?_
            refine R_iconst (v := 5) dX9_step_41 rfl ?_
            refine R_imul dX9_step_42 ?_
            refine R_iload_n (i := 3) dX9_step_43 rfl rfl ?_
            refine R_iadd dX9_step_44 ?_
            obtain ⟨hb, h⟩ := hit_bnd h
            refine R_iald (sc_kid hW (WF.kid hW 2 hL0 rfl) hb3) (cE_24 Ω (ix x1) _) hb dX9_step_45 ?_
            exact R_iret dX9_step_46 rfl h
          · have h := hit_f h hc
            refine R_ldc (v := (-1000000)) mw_948 dX9_step_31 ?_
            exact R_iret dX9_step_33 rfl h
set_option maxRecDepth 100000 in
set_option maxHeartbeats 4000000 in
theorem rsX9_runOnTrial_L13 {l : Launch} {Ω : rO} (hW : WF Ω) (k1 : Nat) (x2 : Int32) (x3 : Int32) (hL0 : oL Ω 9 0) (hL1 : oL Ω 24 k1) (σ : rS) {K : Int32 → rS → Prop} {K0 : (Int32 ⊕ (Int32 ⊕ Unit)) → rS → Prop} (hC : ∀ (x3 : Int32) (σ : rS), K0 (.inl x3) σ → Run l Ω cX9_runOnTrial RX9 5 (some .int) rmX9_runOnTrial K 13 [some (rf Ω 9 0), some (rf Ω 24 k1), some (.int x2), some (.int x3), none] [] σ) (hE0 : ∀ (e : Int32) (σ : rS), K0 (.inr (.inl e)) σ → Run l Ω cX9_runOnTrial RX9 5 (some .int) rmX9_runOnTrial K 65 [none, none, none, some (.int e), none] [] σ) (hE1 : ∀ (e : Unit) (σ : rS), K0 (.inr (.inr e)) σ → Run l Ω cX9_runOnTrial RX9 5 (some .int) rmX9_runOnTrial K 73 [none, none, some (.int x2), none, none] [] σ) (h : hit (fX9_runOnTrial_L13 k1 x2 x3 σ) K0) : Run l Ω cX9_runOnTrial RX9 5 (some .int) rmX9_runOnTrial K 13 [some (rf Ω 9 0), some (rf Ω 24 k1), some (.int x2), some (.int x3), none] [] σ := by
  unfold fX9_runOnTrial_L13 at h
  refine R_iload_n (i := 3) dX9_runOnTrial_13 rfl rfl ?_
  refine R_iload_n (i := 2) dX9_runOnTrial_14 rfl rfl ?_
  refine R_icmp_ge (tgt := 73) dX9_runOnTrial_15 (by decide) (fun hc => ?_) (fun hc => ?_)
  · have h := hit_f h hc
    refine R_drop (lv2 := [none, some (rf Ω 24 k1), some (.int x2), some (.int x3), none]) 0 rfl ?_
    refine R_drop (lv2 := [none, none, some (.int x2), some (.int x3), none]) 1 rfl ?_
    refine R_drop (lv2 := [none, none, some (.int x2), none, none]) 3 rfl ?_
    exact hE1 () σ h
  · have h := hit_t h hc
    refine R_iload_n (i := 3) dX9_runOnTrial_18 rfl rfl ?_
    refine R_iconst (v := 5) dX9_runOnTrial_19 rfl ?_
    refine R_imul dX9_runOnTrial_20 ?_
    refine R_topi h (fun y3 h => ?_)
    refine R_istore (lv2 := [some (rf Ω 9 0), some (rf Ω 24 k1), some (.int x2), some (.int x3), some (.int y3)]) dX9_runOnTrial_21 (by decide) rfl rfl ?_
    refine R_aload_n (i := 0) dX9_runOnTrial_23 rfl rfl ?_
    refine R_get foX9_78 hL0 (cE_9 Ω 0 _) rfl dX9_runOnTrial_24 ?_
    refine R_aload_n (i := 0) dX9_runOnTrial_27 rfl rfl ?_
    refine R_get foX9_47 hL0 (cE_9 Ω 0 _) rfl dX9_runOnTrial_28 ?_
    refine R_aload_n (i := 1) dX9_runOnTrial_31 rfl rfl ?_
    refine R_iload (i := 4) dX9_runOnTrial_32 rfl ?_
    obtain ⟨hb, h⟩ := hit_bnd h
    refine R_iald hL1 (cE_24 Ω k1 _) hb dX9_runOnTrial_34 ?_
    refine R_aload_n (i := 1) dX9_runOnTrial_35 rfl rfl ?_
    refine R_iload (i := 4) dX9_runOnTrial_36 rfl ?_
    refine R_iconst (v := 1) dX9_runOnTrial_38 rfl ?_
    refine R_iadd dX9_runOnTrial_39 ?_
    obtain ⟨hb, h⟩ := hit_bnd h
    refine R_iald hL1 (cE_24 Ω k1 _) hb dX9_runOnTrial_40 ?_
    refine R_aload_n (i := 1) dX9_runOnTrial_41 rfl rfl ?_
    refine R_iload (i := 4) dX9_runOnTrial_42 rfl ?_
    refine R_iconst (v := 2) dX9_runOnTrial_44 rfl ?_
    refine R_iadd dX9_runOnTrial_45 ?_
    obtain ⟨hb, h⟩ := hit_bnd h
    refine R_iald hL1 (cE_24 Ω k1 _) hb dX9_runOnTrial_46 ?_
    refine R_aload_n (i := 1) dX9_runOnTrial_47 rfl rfl ?_
    refine R_iload (i := 4) dX9_runOnTrial_48 rfl ?_
    refine R_iconst (v := 3) dX9_runOnTrial_50 rfl ?_
    refine R_iadd dX9_runOnTrial_51 ?_
    obtain ⟨hb, h⟩ := hit_bnd h
    refine R_iald hL1 (cE_24 Ω k1 _) hb dX9_runOnTrial_52 ?_
    refine R_aload_n (i := 1) dX9_runOnTrial_53 rfl rfl ?_
    refine R_iload (i := 4) dX9_runOnTrial_54 rfl ?_
    refine R_iconst (v := 4) dX9_runOnTrial_56 rfl ?_
    refine R_iadd dX9_runOnTrial_57 ?_
    obtain ⟨hb, h⟩ := hit_bnd h
    refine R_iald hL1 (cE_24 Ω k1 _) hb dX9_runOnTrial_58 ?_
    refine R_callVi (ctX0_apply l Ω 2 (σ 24 k1 (ix y3)) (σ 24 k1 (ix (y3 + 1))) (σ 24 k1 (ix (y3 + 2))) (σ 24 k1 (ix (y3 + 3))) (σ 24 k1 (ix (y3 + 4))) (WF.kid hW 11 hL0 rfl) (WF.kid hW 7 hL0 rfl) _ _ (hit_mono (hit_bd h) (fun r4 σ5 h => ?_))) okX0_apply mw_611 (WF.kid hW 11 hL0 rfl) (cE_0 Ω 0 _) rfl rfl (Nat.le_of_ble_eq_true rfl) rfl rfl ⟨by decide, by decide⟩ ⟨Nat.zero_le _, Nat.zero_le _⟩ dX9_runOnTrial_59
    refine R_if_ge (tgt := 67) dX9_runOnTrial_62 (by decide) (fun hc => ?_) (fun hc => ?_)
    · have h := hit_f h hc
      refine R_iinc (v := x3 + 1) (lv2 := [some (rf Ω 9 0), some (rf Ω 24 k1), some (.int x2), some (.int (x3 + 1)), some (.int y3)]) dX9_runOnTrial_67 rfl rfl (by decide) rfl rfl ?_
      refine R_goto (tgt := 13) dX9_runOnTrial_70 (by decide) ?_
      refine R_drop (lv2 := [some (rf Ω 9 0), some (rf Ω 24 k1), some (.int x2), some (.int (x3 + 1)), none]) 4 rfl ?_
      exact hC (x3 + 1) σ5 h
    · have h := hit_t h hc
      refine R_drop (lv2 := [none, some (rf Ω 24 k1), some (.int x2), some (.int x3), some (.int y3)]) 0 rfl ?_
      refine R_drop (lv2 := [none, none, some (.int x2), some (.int x3), some (.int y3)]) 1 rfl ?_
      refine R_drop (lv2 := [none, none, none, some (.int x3), some (.int y3)]) 2 rfl ?_
      refine R_drop (lv2 := [none, none, none, some (.int x3), none]) 4 rfl ?_
      exact hE0 x3 σ5 h
set_option maxRecDepth 100000 in
set_option maxHeartbeats 4000000 in
theorem rlX9_runOnTrial_L13 {l : Launch} {Ω : rO} (hW : WF Ω) (k1 : Nat) (x2 : Int32) (hL0 : oL Ω 9 0) (hL1 : oL Ω 24 k1) {K : Int32 → rS → Prop} {KE : (Int32 ⊕ Unit) → rS → Prop} (hE0 : ∀ (e : Int32) (σ : rS), KE (.inl e) σ → Run l Ω cX9_runOnTrial RX9 5 (some .int) rmX9_runOnTrial K 65 [none, none, none, some (.int e), none] [] σ) (hE1 : ∀ (e : Unit) (σ : rS), KE (.inr e) σ → Run l Ω cX9_runOnTrial RX9 5 (some .int) rmX9_runOnTrial K 73 [none, none, some (.int x2), none, none] [] σ) : ∀ (n : Nat) (x3 : Int32) (σ : rS), hit (lp (fun (x : Int32) σ => fX9_runOnTrial_L13 k1 x2 x σ) n x3 σ) KE → Run l Ω cX9_runOnTrial RX9 5 (some .int) rmX9_runOnTrial K 13 [some (rf Ω 9 0), some (rf Ω 24 k1), some (.int x2), some (.int x3), none] [] σ := by
  intro n
  induction n with
  | zero => intro x3 σ h; exact (h : False).elim
  | succ n ih =>
    intro x3 σ h
    exact rsX9_runOnTrial_L13 hW k1 x2 x3 hL0 hL1 σ (fun x3 σ h => ih x3 σ h) (fun e σ h => hE0 e σ h) (fun e σ h => hE1 e σ h) (hit_lp h)
set_option maxRecDepth 100000 in
set_option maxHeartbeats 4000000 in
theorem ctX9_runOnTrial (l : Launch) (Ω : rO) (k1 : Nat) (x2 : Int32) (hL0 : oL Ω 9 0) (hL1 : oL Ω 24 k1) (σ : rS) (K : Int32 → rS → Prop) (h : hit (fX9_runOnTrial k1 x2 σ) K) : Ct l Ω yX9_runOnTrial cX9_runOnTrial 5 (some .int) rmX9_runOnTrial [rf Ω 9 0, rf Ω 24 k1, .int x2] σ K := by
  refine Ct.of (own := RX9) (lv := [some (rf Ω 9 0), some (rf Ω 24 k1), some (.int x2), none, none]) (by decide) rfl (Nat.le_of_ble_eq_true rfl) rfl (fun hW => ?_)
  unfold fX9_runOnTrial at h
  refine R_aload_n (i := 0) dX9_runOnTrial_0 rfl rfl ?_
  refine R_get foX9_47 hL0 (cE_9 Ω 0 _) rfl dX9_runOnTrial_1 ?_
  refine R_aload_n (i := 0) dX9_runOnTrial_4 rfl rfl ?_
  refine R_get foX9_40 hL0 (cE_9 Ω 0 _) rfl dX9_runOnTrial_5 ?_
  refine R_callVv (ctX7_copyFrom l Ω 2 0 (WF.kid hW 7 hL0 rfl) (WF.kid hW 5 hL0 rfl) _ _ (hit_mono (hit_bd h) (fun r1 σ2 h => ?_))) okX7_copyFrom mw_962 (WF.kid hW 7 hL0 rfl) (cE_7 Ω 2 _) rfl rfl (Nat.le_of_ble_eq_true rfl) rfl rfl ⟨by decide, by decide⟩ ⟨Nat.zero_le _, Nat.zero_le _⟩ dX9_runOnTrial_8
  refine R_iconst (v := 0) dX9_runOnTrial_11 rfl ?_
  refine R_istore_n (lv2 := [some (rf Ω 9 0), some (rf Ω 24 k1), some (.int x2), some (.int 0), none]) dX9_runOnTrial_12 rfl (by decide) rfl rfl ?_
  refine rlX9_runOnTrial_L13 hW k1 x2 hL0 hL1 ?_ ?_ fu 0 σ2 (hit_bd h)
  · intro e7 σ6 h
    try dsimp only at h
    refine R_iload_n (i := 3) dX9_runOnTrial_65 rfl rfl ?_
    exact R_iret dX9_runOnTrial_66 rfl h
  · intro e8 σ6 h
    try dsimp only at h
    refine R_iload_n (i := 2) dX9_runOnTrial_73 rfl rfl ?_
    exact R_iret dX9_runOnTrial_74 rfl h
set_option maxRecDepth 100000 in
set_option maxHeartbeats 4000000 in
theorem ctX9_run (l : Launch) (Ω : rO) (x1 : Int32) (x2 : Int32) (hL0 : oL Ω 9 0) (σ : rS) (K : Int32 → rS → Prop) (h : hit (fX9_run x1 x2 σ) K) : Ct l Ω yX9_run cX9_run 4 (some .int) rmX9_run [rf Ω 9 0, .int x1, .int x2] σ K := by
  refine Ct.of (own := RX9) (lv := [some (rf Ω 9 0), some (.int x1), some (.int x2), none]) (by decide) rfl (Nat.le_of_ble_eq_true rfl) rfl (fun hW => ?_)
  unfold fX9_run at h
  refine R_aload_n (i := 0) dX9_run_0 rfl rfl ?_
  refine R_get foX9_117 hL0 (cE_9 Ω 0 _) rfl dX9_run_1 ?_
  refine R_if_eq (tgt := 24) dX9_run_4 (by decide) (fun hc => ?_) (fun hc => ?_)
  · have h := hit_t h hc
    refine R_ldc (v := (-1000000)) mw_948 dX9_run_24 ?_
    exact R_iret dX9_run_26 rfl h
  · have h := hit_f h hc
    refine R_aload_n (i := 0) dX9_run_7 rfl rfl ?_
    refine R_iload_n (i := 1) dX9_run_8 rfl rfl ?_
    refine R_callVi (ctX9_isScript l Ω x1 hL0 _ _ (hit_mono (hit_bd h) (fun r1 σ2 h => ?_))) okX9_isScript mw_1045 hL0 (cE_9 Ω 0 _) rfl rfl (Nat.le_of_ble_eq_true rfl) rfl rfl ⟨by decide, by decide⟩ ⟨Nat.zero_le _, Nat.zero_le _⟩ dX9_run_9
    refine R_if_eq (tgt := 24) dX9_run_12 (by decide) (fun hc => ?_) (fun hc => ?_)
    · have h := hit_t h hc
      refine R_ldc (v := (-1000000)) mw_948 dX9_run_24 ?_
      exact R_iret dX9_run_26 rfl h
    · have h := hit_f h hc
      refine R_iload_n (i := 2) dX9_run_15 rfl rfl ?_
      refine R_if_lt (tgt := 24) dX9_run_16 (by decide) (fun hc => ?_) (fun hc => ?_)
      · have h := hit_t h hc
        refine R_ldc (v := (-1000000)) mw_948 dX9_run_24 ?_
        exact R_iret dX9_run_26 rfl h
      · have h := hit_f h hc
        refine R_iload_n (i := 2) dX9_run_19 rfl rfl ?_
        refine R_iconst (v := 1) dX9_run_20 rfl ?_
        refine R_icmp_le (tgt := 27) dX9_run_21 (by decide) (fun hc => ?_) (fun hc => ?_)
        · have h := hit_f h hc
          refine R_aload_n (i := 0) dX9_run_27 rfl rfl ?_
          refine R_aload_n (i := 0) dX9_run_28 rfl rfl ?_
          refine R_get foX9_27 hL0 (cE_9 Ω 0 _) rfl dX9_run_29 ?_
          refine R_iload_n (i := 1) dX9_run_32 rfl rfl ?_
          obtain ⟨hb3, h⟩ := hit_bnd h
          refine R_scripts (WF.kid hW 2 hL0 rfl) hb3 dX9_run_33 ?_
          refine R_aload_n (i := 0) dX9_run_34 rfl rfl ?_
          refine R_get foX9_30 hL0 (cE_9 Ω 0 _) rfl dX9_run_35 ?_
          refine R_iload_n (i := 1) dX9_run_38 rfl rfl ?_
          obtain ⟨hb, h⟩ := hit_bnd h
          refine R_iald (WF.kid hW 3 hL0 rfl) (cE_21 Ω 0 _) hb dX9_run_39 ?_
          refine R_callVi (ctX9_runOnTrial l Ω (ix x1) (σ2 21 0 (ix x1)) hL0 (sc_kid hW (WF.kid hW 2 hL0 rfl) hb3) _ _ (hit_mono (hit_bd h) (fun r4 σ5 h => ?_))) okX9_runOnTrial mw_1053 hL0 (cE_9 Ω 0 _) rfl rfl (Nat.le_of_ble_eq_true rfl) rfl rfl ⟨by decide, by decide⟩ ⟨Nat.zero_le _, Nat.zero_le _⟩ dX9_run_40
          refine R_istore_n (lv2 := [some (rf Ω 9 0), some (.int x1), some (.int x2), some (.int r4)]) dX9_run_43 rfl (by decide) rfl rfl ?_
          refine R_iload_n (i := 2) dX9_run_44 rfl rfl ?_
          refine R_iconst (v := 1) dX9_run_45 rfl ?_
          refine R_icmp_ne (tgt := 57) dX9_run_46 (by decide) (fun hc => ?_) (fun hc => ?_)
          · have h := hit_f h hc
            refine R_iload_n (i := 3) dX9_run_57 rfl rfl ?_
            refine R_aload_n (i := 0) dX9_run_58 rfl rfl ?_
            refine R_get foX9_30 hL0 (cE_9 Ω 0 _) rfl dX9_run_59 ?_
            refine R_iload_n (i := 1) dX9_run_62 rfl rfl ?_
            obtain ⟨hb, h⟩ := hit_bnd h
            refine R_iald (WF.kid hW 3 hL0 rfl) (cE_21 Ω 0 _) hb dX9_run_63 ?_
            refine R_icmp_ne (tgt := 71) dX9_run_64 (by decide) (fun hc => ?_) (fun hc => ?_)
            · have h := hit_f h hc
              refine R_iload_n (i := 3) dX9_run_71 rfl rfl ?_
              exact R_iret dX9_run_72 rfl h
            · have h := hit_t h hc
              refine R_iconst (v := (-1)) dX9_run_67 rfl ?_
              refine R_goto (tgt := 72) dX9_run_68 (by decide) ?_
              exact R_iret dX9_run_72 rfl h
          · have h := hit_t h hc
            refine R_aload_n (i := 0) dX9_run_49 rfl rfl ?_
            refine R_get foX9_47 hL0 (cE_9 Ω 0 _) rfl dX9_run_50 ?_
            refine R_callVi (ctX7_cellsInUse l Ω 2 (WF.kid hW 7 hL0 rfl) _ _ (hit_mono (hit_bd h) (fun r6 σ7 h => ?_))) okX7_cellsInUse mw_931 (WF.kid hW 7 hL0 rfl) (cE_7 Ω 2 _) rfl rfl (Nat.le_of_ble_eq_true rfl) rfl rfl ⟨by decide, by decide⟩ ⟨Nat.zero_le _, Nat.zero_le _⟩ dX9_run_53
            exact R_iret dX9_run_56 rfl h
        · have h := hit_t h hc
          refine R_ldc (v := (-1000000)) mw_948 dX9_run_24 ?_
          exact R_iret dX9_run_26 rfl h
set_option maxRecDepth 100000 in
set_option maxHeartbeats 4000000 in
theorem ctX9_reachedCount (l : Launch) (Ω : rO) (hL0 : oL Ω 9 0) (σ : rS) (K : Int32 → rS → Prop) (h : hit (fX9_reachedCount  σ) K) : Ct l Ω yX9_reachedCount cX9_reachedCount 1 (some .int) rmX9_reachedCount [rf Ω 9 0] σ K := by
  refine Ct.of (own := RX9) (lv := [some (rf Ω 9 0)]) (by decide) rfl (Nat.le_of_ble_eq_true rfl) rfl (fun hW => ?_)
  unfold fX9_reachedCount at h
  refine R_aload_n (i := 0) dX9_reachedCount_0 rfl rfl ?_
  refine R_get foX9_60 hL0 (cE_9 Ω 0 _) rfl dX9_reachedCount_1 ?_
  refine R_aload_n (i := 0) dX9_reachedCount_4 rfl rfl ?_
  refine R_get foX9_40 hL0 (cE_9 Ω 0 _) rfl dX9_reachedCount_5 ?_
  refine R_iconst (v := (-1)) dX9_reachedCount_8 rfl ?_
  refine R_callVv (ctX3_reach l Ω 0 (-1) (WF.kid hW 9 hL0 rfl) (WF.kid hW 5 hL0 rfl) _ _ (hit_mono (hit_bd h) (fun r1 σ2 h => ?_))) okX3_reach mw_985 (WF.kid hW 9 hL0 rfl) (cE_3 Ω 0 _) rfl rfl (Nat.le_of_ble_eq_true rfl) rfl rfl ⟨by decide, by decide⟩ ⟨Nat.zero_le _, Nat.zero_le _⟩ dX9_reachedCount_9
  refine R_aload_n (i := 0) dX9_reachedCount_12 rfl rfl ?_
  refine R_get foX9_60 hL0 (cE_9 Ω 0 _) rfl dX9_reachedCount_13 ?_
  refine R_get foX9_285 (WF.kid hW 9 hL0 rfl) (cE_3 Ω 0 _) rfl dX9_reachedCount_16 ?_
  exact R_iret dX9_reachedCount_19 rfl h
set_option maxRecDepth 100000 in
set_option maxHeartbeats 4000000 in
theorem rnX9_most_j58 {l : Launch} {Ω : rO} (hW : WF Ω) (x1 : Int32) (hL0 : oL Ω 9 0) (σ : rS) {K : Int32 → rS → Prop}  (h : hit (fX9_most_j58 x1 σ) K) : Run l Ω cX9_most RX9 2 (some .int) rmX9_most K 58 [some (rf Ω 9 0), some (.int x1)] [] σ := by
  unfold fX9_most_j58 at h
  refine R_iload_n (i := 1) dX9_most_58 rfl rfl ?_
  by_cases hs3 : x1 = 3
  · have h := hit_t h hs3
    refine R_lookup (off := 41) (tgt := 100) dX9_most_59 (by decide) (by rw [hs3]; rfl) (by decide) ?_
    refine R_aload_n (i := 0) dX9_most_100 rfl rfl ?_
    refine R_get foX9_40 hL0 (cE_9 Ω 0 _) rfl dX9_most_101 ?_
    refine R_get foX9_322 (WF.kid hW 5 hL0 rfl) (cE_7 Ω 0 _) rfl dX9_most_104 ?_
    exact R_iret dX9_most_107 rfl h
  · have h := hit_f h hs3
    by_cases hs4 : x1 = 4
    · have h := hit_t h hs4
      refine R_lookup (off := 49) (tgt := 108) dX9_most_59 (by decide) (by rw [hs4]; rfl) (by decide) ?_
      refine R_aload_n (i := 0) dX9_most_108 rfl rfl ?_
      refine R_callVi (ctX9_reachedCount l Ω hL0 _ _ (hit_mono (hit_bd h) (fun r1 σ2 h => ?_))) okX9_reachedCount mw_1065 hL0 (cE_9 Ω 0 _) rfl rfl (Nat.le_of_ble_eq_true rfl) rfl rfl ⟨by decide, by decide⟩ ⟨Nat.zero_le _, Nat.zero_le _⟩ dX9_most_109
      exact R_iret dX9_most_112 rfl h
    · have h := hit_f h hs4
      by_cases hs13 : x1 = 13
      · have h := hit_t h hs13
        refine R_lookup (off := 54) (tgt := 113) dX9_most_59 (by decide) (by rw [hs13]; rfl) (by decide) ?_
        refine R_aload_n (i := 0) dX9_most_113 rfl rfl ?_
        refine R_get foX9_40 hL0 (cE_9 Ω 0 _) rfl dX9_most_114 ?_
        refine R_callVi (ctX7_greatestAge l Ω 0 (WF.kid hW 5 hL0 rfl) _ _ (hit_mono (hit_bd h) (fun r3 σ4 h => ?_))) okX7_greatestAge mw_1069 (WF.kid hW 5 hL0 rfl) (cE_7 Ω 0 _) rfl rfl (Nat.le_of_ble_eq_true rfl) rfl rfl ⟨by decide, by decide⟩ ⟨Nat.zero_le _, Nat.zero_le _⟩ dX9_most_117
        exact R_iret dX9_most_120 rfl h
      · have h := hit_f h hs13
        by_cases hs14 : x1 = 14
        · have h := hit_t h hs14
          refine R_lookup (off := 62) (tgt := 121) dX9_most_59 (by decide) (by rw [hs14]; rfl) (by decide) ?_
          refine R_aload_n (i := 0) dX9_most_121 rfl rfl ?_
          refine R_get foX9_40 hL0 (cE_9 Ω 0 _) rfl dX9_most_122 ?_
          refine R_callVi (ctX7_linkedRoots l Ω 0 (WF.kid hW 5 hL0 rfl) _ _ (hit_mono (hit_bd h) (fun r5 σ6 h => ?_))) okX7_linkedRoots mw_1074 (WF.kid hW 5 hL0 rfl) (cE_7 Ω 0 _) rfl rfl (Nat.le_of_ble_eq_true rfl) rfl rfl ⟨by decide, by decide⟩ ⟨Nat.zero_le _, Nat.zero_le _⟩ dX9_most_125
          exact R_iret dX9_most_128 rfl h
        · have h := hit_f h hs14
          refine R_lookup (off := 70) (tgt := 129) dX9_most_59 (by decide) ?_ (by decide) ?_
          · show Op.lookupswitch.offset [(3, 41), (4, 49), (13, 54), (14, 62)] 70 _ = _
            rw [lv_osw (a := 3) hs3 (by decide), lv_osw (a := 4) hs4 (by decide), lv_osw (a := 13) hs13 (by decide), lv_osw (a := 14) hs14 (by decide)]; rfl
          refine R_aload_n (i := 0) dX9_most_129 rfl rfl ?_
          refine R_get foX9_40 hL0 (cE_9 Ω 0 _) rfl dX9_most_130 ?_
          refine R_get foX9_334 (WF.kid hW 5 hL0 rfl) (cE_7 Ω 0 _) rfl dX9_most_133 ?_
          exact R_iret dX9_most_136 rfl h
set_option maxRecDepth 100000 in
set_option maxHeartbeats 4000000 in
theorem ctX9_most (l : Launch) (Ω : rO) (x1 : Int32) (hL0 : oL Ω 9 0) (σ : rS) (K : Int32 → rS → Prop) (h : hit (fX9_most x1 σ) K) : Ct l Ω yX9_most cX9_most 2 (some .int) rmX9_most [rf Ω 9 0, .int x1] σ K := by
  refine Ct.of (own := RX9) (lv := [some (rf Ω 9 0), some (.int x1)]) (by decide) rfl (Nat.le_of_ble_eq_true rfl) rfl (fun hW => ?_)
  unfold fX9_most at h
  refine R_aload_n (i := 0) dX9_most_0 rfl rfl ?_
  refine R_get foX9_117 hL0 (cE_9 Ω 0 _) rfl dX9_most_1 ?_
  refine R_if_eq (tgt := 17) dX9_most_4 (by decide) (fun hc => ?_) (fun hc => ?_)
  · have h := hit_t h hc
    refine R_ldc (v := (-1000000)) mw_948 dX9_most_17 ?_
    exact R_iret dX9_most_19 rfl h
  · have h := hit_f h hc
    refine R_iload_n (i := 1) dX9_most_7 rfl rfl ?_
    refine R_if_lt (tgt := 17) dX9_most_8 (by decide) (fun hc => ?_) (fun hc => ?_)
    · have h := hit_t h hc
      refine R_ldc (v := (-1000000)) mw_948 dX9_most_17 ?_
      exact R_iret dX9_most_19 rfl h
    · have h := hit_f h hc
      refine R_iload_n (i := 1) dX9_most_11 rfl rfl ?_
      refine R_bipush (v := 15) dX9_most_12 rfl ?_
      refine R_icmp_le (tgt := 20) dX9_most_14 (by decide) (fun hc => ?_) (fun hc => ?_)
      · have h := hit_f h hc
        refine R_iload_n (i := 1) dX9_most_20 rfl rfl ?_
        refine R_iconst (v := 3) dX9_most_21 rfl ?_
        refine R_icmp_ge (tgt := 35) dX9_most_22 (by decide) (fun hc => ?_) (fun hc => ?_)
        · have h := hit_f h hc
          refine R_iload_n (i := 1) dX9_most_35 rfl rfl ?_
          refine R_iconst (v := 5) dX9_most_36 rfl ?_
          refine R_icmp_lt (tgt := 58) dX9_most_37 (by decide) (fun hc => ?_) (fun hc => ?_)
          · have h := hit_t h hc
            exact rnX9_most_j58 hW x1 hL0 σ  h
          · have h := hit_f h hc
            refine R_iload_n (i := 1) dX9_most_40 rfl rfl ?_
            refine R_bipush (v := 13) dX9_most_41 rfl ?_
            refine R_icmp_ge (tgt := 58) dX9_most_43 (by decide) (fun hc => ?_) (fun hc => ?_)
            · have h := hit_f h hc
              exact rnX9_most_j58 hW x1 hL0 σ  h
            · have h := hit_t h hc
              refine R_aload_n (i := 0) dX9_most_46 rfl rfl ?_
              refine R_get foX9_40 hL0 (cE_9 Ω 0 _) rfl dX9_most_47 ?_
              refine R_get foX9_319 (WF.kid hW 5 hL0 rfl) (cE_7 Ω 0 _) rfl dX9_most_50 ?_
              refine R_iload_n (i := 1) dX9_most_53 rfl rfl ?_
              refine R_iconst (v := 5) dX9_most_54 rfl ?_
              refine R_isub dX9_most_55 ?_
              obtain ⟨hb, h⟩ := hit_bnd h
              refine R_iald (WF.kid hW 10 (WF.kid hW 5 hL0 rfl) rfl) (cE_55 Ω 0 _) hb dX9_most_56 ?_
              exact R_iret dX9_most_57 rfl h
        · have h := hit_t h hc
          refine R_aload_n (i := 0) dX9_most_25 rfl rfl ?_
          refine R_get foX9_40 hL0 (cE_9 Ω 0 _) rfl dX9_most_26 ?_
          refine R_get foX9_299 (WF.kid hW 5 hL0 rfl) (cE_7 Ω 0 _) rfl dX9_most_29 ?_
          refine R_iload_n (i := 1) dX9_most_32 rfl rfl ?_
          obtain ⟨hb, h⟩ := hit_bnd h
          refine R_iald (WF.kid hW 9 (WF.kid hW 5 hL0 rfl) rfl) (cE_54 Ω 0 _) hb dX9_most_33 ?_
          exact R_iret dX9_most_34 rfl h
      · have h := hit_t h hc
        refine R_ldc (v := (-1000000)) mw_948 dX9_most_17 ?_
        exact R_iret dX9_most_19 rfl h
set_option maxRecDepth 100000 in
set_option maxHeartbeats 4000000 in
theorem ctX9_image (l : Launch) (Ω : rO) (hL0 : oL Ω 9 0) (σ : rS) (K : Int32 → rS → Prop) (h : hit (fX9_image  σ) K) : Ct l Ω yX9_image cX9_image 1 (some .int) rmX9_image [rf Ω 9 0] σ K := by
  refine Ct.of (own := RX9) (lv := [some (rf Ω 9 0)]) (by decide) rfl (Nat.le_of_ble_eq_true rfl) rfl (fun hW => ?_)
  unfold fX9_image at h
  refine R_aload_n (i := 0) dX9_image_0 rfl rfl ?_
  refine R_get foX9_117 hL0 (cE_9 Ω 0 _) rfl dX9_image_1 ?_
  refine R_if_ne (tgt := 9) dX9_image_4 (by decide) (fun hc => ?_) (fun hc => ?_)
  · have h := hit_f h hc
    refine R_aload_n (i := 0) dX9_image_9 rfl rfl ?_
    refine R_get foX9_44 hL0 (cE_9 Ω 0 _) rfl dX9_image_10 ?_
    refine R_aload_n (i := 0) dX9_image_13 rfl rfl ?_
    refine R_get foX9_40 hL0 (cE_9 Ω 0 _) rfl dX9_image_14 ?_
    refine R_callVv (ctX7_copyFrom l Ω 1 0 (WF.kid hW 6 hL0 rfl) (WF.kid hW 5 hL0 rfl) _ _ (hit_mono (hit_bd h) (fun r1 σ2 h => ?_))) okX7_copyFrom mw_962 (WF.kid hW 6 hL0 rfl) (cE_7 Ω 1 _) rfl rfl (Nat.le_of_ble_eq_true rfl) rfl rfl ⟨by decide, by decide⟩ ⟨Nat.zero_le _, Nat.zero_le _⟩ dX9_image_17
    refine R_aload_n (i := 0) dX9_image_20 rfl rfl ?_
    refine R_iconst (v := 1) dX9_image_21 rfl ?_
    refine R_putz poX9_121 hL0 (cE_9 Ω 0 _) (cP_9_7 Ω 0 _ _) (Nat.le_of_ble_eq_true rfl) (Or.inr rfl) dX9_image_22 ?_
    refine R_st h (fun σ3 h => ?_)
    refine R_aload_n (i := 0) dX9_image_25 rfl rfl ?_
    refine R_get foX9_40 hL0 (cE_9 Ω 0 _) rfl dX9_image_26 ?_
    refine R_callVi (ctX7_cellsInUse l Ω 0 (WF.kid hW 5 hL0 rfl) _ _ (hit_mono (hit_bd h) (fun r4 σ5 h => ?_))) okX7_cellsInUse mw_931 (WF.kid hW 5 hL0 rfl) (cE_7 Ω 0 _) rfl rfl (Nat.le_of_ble_eq_true rfl) rfl rfl ⟨by decide, by decide⟩ ⟨Nat.zero_le _, Nat.zero_le _⟩ dX9_image_29
    exact R_iret dX9_image_32 rfl h
  · have h := hit_t h hc
    refine R_iconst (v := (-1)) dX9_image_7 rfl ?_
    exact R_iret dX9_image_8 rfl h
set_option maxRecDepth 100000 in
set_option maxHeartbeats 4000000 in
theorem ctX9_back (l : Launch) (Ω : rO) (hL0 : oL Ω 9 0) (σ : rS) (K : Int32 → rS → Prop) (h : hit (fX9_back  σ) K) : Ct l Ω yX9_back cX9_back 1 (some .int) rmX9_back [rf Ω 9 0] σ K := by
  refine Ct.of (own := RX9) (lv := [some (rf Ω 9 0)]) (by decide) rfl (Nat.le_of_ble_eq_true rfl) rfl (fun hW => ?_)
  unfold fX9_back at h
  refine R_aload_n (i := 0) dX9_back_0 rfl rfl ?_
  refine R_get foX9_117 hL0 (cE_9 Ω 0 _) rfl dX9_back_1 ?_
  refine R_if_eq (tgt := 14) dX9_back_4 (by decide) (fun hc => ?_) (fun hc => ?_)
  · have h := hit_t h hc
    refine R_iconst (v := (-1)) dX9_back_14 rfl ?_
    exact R_iret dX9_back_15 rfl h
  · have h := hit_f h hc
    refine R_aload_n (i := 0) dX9_back_7 rfl rfl ?_
    refine R_get foX9_121 hL0 (cE_9 Ω 0 _) rfl dX9_back_8 ?_
    refine R_if_ne (tgt := 16) dX9_back_11 (by decide) (fun hc => ?_) (fun hc => ?_)
    · have h := hit_f h hc
      refine R_aload_n (i := 0) dX9_back_16 rfl rfl ?_
      refine R_get foX9_40 hL0 (cE_9 Ω 0 _) rfl dX9_back_17 ?_
      refine R_aload_n (i := 0) dX9_back_20 rfl rfl ?_
      refine R_get foX9_44 hL0 (cE_9 Ω 0 _) rfl dX9_back_21 ?_
      refine R_callVv (ctX7_copyFrom l Ω 0 1 (WF.kid hW 5 hL0 rfl) (WF.kid hW 6 hL0 rfl) _ _ (hit_mono (hit_bd h) (fun r1 σ2 h => ?_))) okX7_copyFrom mw_962 (WF.kid hW 5 hL0 rfl) (cE_7 Ω 0 _) rfl rfl (Nat.le_of_ble_eq_true rfl) rfl rfl ⟨by decide, by decide⟩ ⟨Nat.zero_le _, Nat.zero_le _⟩ dX9_back_24
      refine R_aload_n (i := 0) dX9_back_27 rfl rfl ?_
      refine R_get foX9_53 hL0 (cE_9 Ω 0 _) rfl dX9_back_28 ?_
      refine R_iconst (v := 0) dX9_back_31 rfl ?_
      refine R_put poX9_127 (WF.kid hW 8 hL0 rfl) (cE_5 Ω 0 _) (cP_5_2 Ω 0 _ _) (Nat.le_of_ble_eq_true rfl) dX9_back_32 ?_
      refine R_st h (fun σ3 h => ?_)
      refine R_aload_n (i := 0) dX9_back_35 rfl rfl ?_
      refine R_get foX9_40 hL0 (cE_9 Ω 0 _) rfl dX9_back_36 ?_
      refine R_callVi (ctX7_cellsInUse l Ω 0 (WF.kid hW 5 hL0 rfl) _ _ (hit_mono (hit_bd h) (fun r4 σ5 h => ?_))) okX7_cellsInUse mw_931 (WF.kid hW 5 hL0 rfl) (cE_7 Ω 0 _) rfl rfl (Nat.le_of_ble_eq_true rfl) rfl rfl ⟨by decide, by decide⟩ ⟨Nat.zero_le _, Nat.zero_le _⟩ dX9_back_39
      exact R_iret dX9_back_42 rfl h
    · have h := hit_t h hc
      refine R_iconst (v := (-1)) dX9_back_14 rfl ?_
      exact R_iret dX9_back_15 rfl h
set_option maxRecDepth 100000 in
set_option maxHeartbeats 4000000 in
theorem ctX9_count (l : Launch) (Ω : rO) (x1 : Int32) (hL0 : oL Ω 9 0) (σ : rS) (K : Int32 → rS → Prop) (h : hit (fX9_count x1 σ) K) : Ct l Ω yX9_count cX9_count 2 (some .int) rmX9_count [rf Ω 9 0, .int x1] σ K := by
  refine Ct.of (own := RX9) (lv := [some (rf Ω 9 0), some (.int x1)]) (by decide) rfl (Nat.le_of_ble_eq_true rfl) rfl (fun hW => ?_)
  unfold fX9_count at h
  refine R_iload_n (i := 1) dX9_count_0 rfl rfl ?_
  by_cases hs0 : x1 = 0
  · have h := hit_t h hs0
    refine R_tableIn (tgt := 36) dX9_count_1 (by rw [hs0]; decide) (by rw [hs0]; decide) (by rw [hs0]; rfl) (by decide) ?_
    refine R_aload_n (i := 0) dX9_count_36 rfl rfl ?_
    refine R_get foX9_40 hL0 (cE_9 Ω 0 _) rfl dX9_count_37 ?_
    refine R_get foX9_322 (WF.kid hW 5 hL0 rfl) (cE_7 Ω 0 _) rfl dX9_count_40 ?_
    exact R_iret dX9_count_43 rfl h
  · have h := hit_f h hs0
    by_cases hs1 : x1 = 1
    · have h := hit_t h hs1
      refine R_tableIn (tgt := 44) dX9_count_1 (by rw [hs1]; decide) (by rw [hs1]; decide) (by rw [hs1]; rfl) (by decide) ?_
      refine R_aload_n (i := 0) dX9_count_44 rfl rfl ?_
      refine R_get foX9_128 hL0 (cE_9 Ω 0 _) rfl dX9_count_45 ?_
      exact R_iret dX9_count_48 rfl h
    · have h := hit_f h hs1
      by_cases hs2 : x1 = 2
      · have h := hit_t h hs2
        refine R_tableIn (tgt := 49) dX9_count_1 (by rw [hs2]; decide) (by rw [hs2]; decide) (by rw [hs2]; rfl) (by decide) ?_
        refine R_aload_n (i := 0) dX9_count_49 rfl rfl ?_
        refine R_get foX9_10 hL0 (cE_9 Ω 0 _) rfl dX9_count_50 ?_
        refine R_get foX9_89 (WF.kid hW 0 hL0 rfl) (cE_8 Ω 0 _) rfl dX9_count_53 ?_
        exact R_iret dX9_count_56 rfl h
      · have h := hit_f h hs2
        by_cases hs3 : x1 = 3
        · have h := hit_t h hs3
          refine R_tableIn (tgt := 57) dX9_count_1 (by rw [hs3]; decide) (by rw [hs3]; decide) (by rw [hs3]; rfl) (by decide) ?_
          refine R_aload_n (i := 0) dX9_count_57 rfl rfl ?_
          refine R_get foX9_40 hL0 (cE_9 Ω 0 _) rfl dX9_count_58 ?_
          refine R_get foX9_246 (WF.kid hW 5 hL0 rfl) (cE_7 Ω 0 _) rfl dX9_count_61 ?_
          refine R_get foX9_249 (WF.kid hW 14 (WF.kid hW 5 hL0 rfl) rfl) (cE_4 Ω (6 * 0 + 3) _) rfl dX9_count_64 ?_
          exact R_iret dX9_count_67 rfl h
        · have h := hit_f h hs3
          by_cases hs4 : x1 = 4
          · have h := hit_t h hs4
            refine R_tableIn (tgt := 68) dX9_count_1 (by rw [hs4]; decide) (by rw [hs4]; decide) (by rw [hs4]; rfl) (by decide) ?_
            refine R_aload_n (i := 0) dX9_count_68 rfl rfl ?_
            refine R_get foX9_53 hL0 (cE_9 Ω 0 _) rfl dX9_count_69 ?_
            refine R_get foX9_127 (WF.kid hW 8 hL0 rfl) (cE_5 Ω 0 _) rfl dX9_count_72 ?_
            exact R_iret dX9_count_75 rfl h
          · have h := hit_f h hs4
            refine R_sw (tgt := 76) (lo := 0) (hi := 4) dX9_count_1 (fun z1 z2 => ?_) (by decide) ?_
            · have e : x1.toInt = 0 ∨ x1.toInt = 1 ∨ x1.toInt = 2 ∨ x1.toInt = 3 ∨ x1.toInt = 4 := by omega
              rcases e with e | e | e | e | e
              · exact absurd (Int32.toInt_inj.mp (e.trans (by decide : (0 : Int) = (0 : Int32).toInt))) hs0
              · exact absurd (Int32.toInt_inj.mp (e.trans (by decide : (1 : Int) = (1 : Int32).toInt))) hs1
              · exact absurd (Int32.toInt_inj.mp (e.trans (by decide : (2 : Int) = (2 : Int32).toInt))) hs2
              · exact absurd (Int32.toInt_inj.mp (e.trans (by decide : (3 : Int) = (3 : Int32).toInt))) hs3
              · exact absurd (Int32.toInt_inj.mp (e.trans (by decide : (4 : Int) = (4 : Int32).toInt))) hs4
            refine R_ldc (v := (-1000000)) mw_948 dX9_count_76 ?_
            exact R_iret dX9_count_78 rfl h
set_option maxRecDepth 100000 in
set_option maxHeartbeats 4000000 in
theorem ctX10_thrown (l : Launch) (Ω : rO) (hL0 : oL Ω 10 0) (σ : rS) (K : Int32 → rS → Prop) (h : hit (fX10_thrown  σ) K) : Ct l Ω yX10_thrown cX10_thrown 1 (some .int) rmX10_thrown [rf Ω 10 0] σ K := by
  refine Ct.of (own := RX10) (lv := [some (rf Ω 10 0)]) (by decide) rfl (Nat.le_of_ble_eq_true rfl) rfl (fun hW => ?_)
  unfold fX10_thrown at h
  refine R_aload_n (i := 0) dX10_thrown_0 rfl rfl ?_
  refine R_get foX10_73 hL0 (cE_10 Ω 0 _) rfl dX10_thrown_1 ?_
  exact R_iret dX10_thrown_4 rfl h
set_option maxRecDepth 100000 in
set_option maxHeartbeats 4000000 in
theorem ctX10_isIn (l : Launch) (Ω : rO) (x0 : Int64) (x2 : Int64) (x4 : Int64) (σ : rS) (K : Int32 → rS → Prop) (h : hit (fX10_isIn x0 x2 x4 σ) K) : Ct l Ω yX10_isIn cX10_isIn 6 (some .boolean) rmX10_isIn [.long x0, .long x2, .long x4] σ K := by
  refine Ct.of (own := RX10) (lv := [some (.long x0), none, some (.long x2), none, some (.long x4), none]) (by decide) rfl (Nat.le_of_ble_eq_true rfl) rfl (fun hW => ?_)
  unfold fX10_isIn at h
  refine R_lload_n (i := 0) dX10_isIn_0 rfl rfl ?_
  refine R_lload_n (i := 2) dX10_isIn_1 rfl rfl ?_
  refine R_lcmp dX10_isIn_2 ?_
  refine R_if_lt (tgt := 17) dX10_isIn_3 (by decide) (fun hc => ?_) (fun hc => ?_)
  · have h := hit_t h hc
    refine R_iconst (v := 0) dX10_isIn_17 rfl ?_
    exact R_zret dX10_isIn_18 rfl (Or.inl rfl) h
  · have h := hit_f h hc
    refine R_lload_n (i := 0) dX10_isIn_6 rfl rfl ?_
    refine R_lload (i := 4) dX10_isIn_7 rfl ?_
    refine R_lcmp dX10_isIn_9 ?_
    refine R_if_gt (tgt := 17) dX10_isIn_10 (by decide) (fun hc => ?_) (fun hc => ?_)
    · have h := hit_t h hc
      refine R_iconst (v := 0) dX10_isIn_17 rfl ?_
      exact R_zret dX10_isIn_18 rfl (Or.inl rfl) h
    · have h := hit_f h hc
      refine R_iconst (v := 1) dX10_isIn_13 rfl ?_
      refine R_goto (tgt := 18) dX10_isIn_14 (by decide) ?_
      exact R_zret dX10_isIn_18 rfl (Or.inr rfl) h
set_option maxRecDepth 100000 in
set_option maxHeartbeats 4000000 in
theorem rnX10_bytesOf_j28L4 {l : Launch} {Ω : rO} (hW : WF Ω) (x0 : Int32) (x2 : Int32) (z0 : Int32) (z1 : Int32) (σ : rS) {K : Int32 → rS → Prop} {K0 : ((Int32 × Int32) ⊕ Int32) → rS → Prop} (hC : ∀ (x1 : Int32) (x2 : Int32) (σ : rS), K0 (.inl (x1, x2)) σ → Run l Ω cX10_bytesOf RX10 3 (some .int) rmX10_bytesOf K 4 [some (.int x0), some (.int x1), some (.int x2)] [] σ) (hE0 : ∀ (e : Int32) (σ : rS), K0 (.inr e) σ → Run l Ω cX10_bytesOf RX10 3 (some .int) rmX10_bytesOf K 36 [none, some (.int e), none] [] σ) (h : hit (fX10_bytesOf_j28L4 x0 x2 z0 z1 σ) K0) : Run l Ω cX10_bytesOf RX10 3 (some .int) rmX10_bytesOf K 28 [some (.int x0), none, some (.int x2)] [.int z0, .int z1] σ := by
  unfold fX10_bytesOf_j28L4 at h
  refine R_iadd dX10_bytesOf_28 ?_
  refine R_topi h (fun y1 h => ?_)
  refine R_istore_n (lv2 := [some (.int x0), some (.int y1), some (.int x2)]) dX10_bytesOf_29 rfl (by decide) rfl rfl ?_
  refine R_iinc (v := x2 + 1) (lv2 := [some (.int x0), some (.int y1), some (.int (x2 + 1))]) dX10_bytesOf_30 rfl rfl (by decide) rfl rfl ?_
  refine R_goto (tgt := 4) dX10_bytesOf_33 (by decide) ?_
  exact hC y1 (x2 + 1) σ h
set_option maxRecDepth 100000 in
set_option maxHeartbeats 4000000 in
theorem rsX10_bytesOf_L4 {l : Launch} {Ω : rO} (hW : WF Ω) (x0 : Int32) (x1 : Int32) (x2 : Int32) (σ : rS) {K : Int32 → rS → Prop} {K0 : ((Int32 × Int32) ⊕ Int32) → rS → Prop} (hC : ∀ (x1 : Int32) (x2 : Int32) (σ : rS), K0 (.inl (x1, x2)) σ → Run l Ω cX10_bytesOf RX10 3 (some .int) rmX10_bytesOf K 4 [some (.int x0), some (.int x1), some (.int x2)] [] σ) (hE0 : ∀ (e : Int32) (σ : rS), K0 (.inr e) σ → Run l Ω cX10_bytesOf RX10 3 (some .int) rmX10_bytesOf K 36 [none, some (.int e), none] [] σ) (h : hit (fX10_bytesOf_L4 x0 x1 x2 σ) K0) : Run l Ω cX10_bytesOf RX10 3 (some .int) rmX10_bytesOf K 4 [some (.int x0), some (.int x1), some (.int x2)] [] σ := by
  unfold fX10_bytesOf_L4 at h
  refine R_iload_n (i := 2) dX10_bytesOf_4 rfl rfl ?_
  refine R_iconst (v := 4) dX10_bytesOf_5 rfl ?_
  refine R_icmp_ge (tgt := 36) dX10_bytesOf_6 (by decide) (fun hc => ?_) (fun hc => ?_)
  · have h := hit_f h hc
    refine R_drop (lv2 := [none, some (.int x1), some (.int x2)]) 0 rfl ?_
    refine R_drop (lv2 := [none, some (.int x1), none]) 2 rfl ?_
    exact hE0 x1 σ h
  · have h := hit_t h hc
    refine R_iload_n (i := 1) dX10_bytesOf_9 rfl rfl ?_
    refine R_iload_n (i := 0) dX10_bytesOf_10 rfl rfl ?_
    refine R_bipush (v := 8) dX10_bytesOf_11 rfl ?_
    refine R_iload_n (i := 2) dX10_bytesOf_13 rfl rfl ?_
    refine R_imul dX10_bytesOf_14 ?_
    refine R_ishr dX10_bytesOf_15 ?_
    refine R_sipush (v := 255) dX10_bytesOf_16 rfl ?_
    refine R_iand dX10_bytesOf_19 ?_
    refine R_if_ne (tgt := 27) dX10_bytesOf_20 (by decide) (fun hc => ?_) (fun hc => ?_)
    · have h := hit_f h hc
      refine R_iconst (v := 1) dX10_bytesOf_27 rfl ?_
      refine R_drop (lv2 := [some (.int x0), none, some (.int x2)]) 1 rfl ?_
      exact rnX10_bytesOf_j28L4 hW x0 x2 1 x1 σ hC hE0 h
    · have h := hit_t h hc
      refine R_iconst (v := 0) dX10_bytesOf_23 rfl ?_
      refine R_goto (tgt := 28) dX10_bytesOf_24 (by decide) ?_
      refine R_drop (lv2 := [some (.int x0), none, some (.int x2)]) 1 rfl ?_
      exact rnX10_bytesOf_j28L4 hW x0 x2 0 x1 σ hC hE0 h
set_option maxRecDepth 100000 in
set_option maxHeartbeats 4000000 in
theorem rlX10_bytesOf_L4 {l : Launch} {Ω : rO} (hW : WF Ω) (x0 : Int32) {K : Int32 → rS → Prop} {KE : Int32 → rS → Prop} (hE0 : ∀ (e : Int32) (σ : rS), KE e σ → Run l Ω cX10_bytesOf RX10 3 (some .int) rmX10_bytesOf K 36 [none, some (.int e), none] [] σ) : ∀ (n : Nat) (x1 : Int32) (x2 : Int32) (σ : rS), hit (lp (fun (x : (Int32 × Int32)) σ => fX10_bytesOf_L4 x0 x.1 x.2 σ) n (x1, x2) σ) KE → Run l Ω cX10_bytesOf RX10 3 (some .int) rmX10_bytesOf K 4 [some (.int x0), some (.int x1), some (.int x2)] [] σ := by
  intro n
  induction n with
  | zero => intro x1 x2 σ h; exact (h : False).elim
  | succ n ih =>
    intro x1 x2 σ h
    exact rsX10_bytesOf_L4 hW x0 x1 x2 σ (fun x1 x2 σ h => ih x1 x2 σ h) (fun e σ h => hE0 e σ h) (hit_lp h)
set_option maxRecDepth 100000 in
set_option maxHeartbeats 4000000 in
theorem ctX10_bytesOf (l : Launch) (Ω : rO) (x0 : Int32) (σ : rS) (K : Int32 → rS → Prop) (h : hit (fX10_bytesOf x0 σ) K) : Ct l Ω yX10_bytesOf cX10_bytesOf 3 (some .int) rmX10_bytesOf [.int x0] σ K := by
  refine Ct.of (own := RX10) (lv := [some (.int x0), none, none]) (by decide) rfl (Nat.le_of_ble_eq_true rfl) rfl (fun hW => ?_)
  unfold fX10_bytesOf at h
  refine R_iconst (v := 0) dX10_bytesOf_0 rfl ?_
  refine R_istore_n (lv2 := [some (.int x0), some (.int 0), none]) dX10_bytesOf_1 rfl (by decide) rfl rfl ?_
  refine R_iconst (v := 0) dX10_bytesOf_2 rfl ?_
  refine R_istore_n (lv2 := [some (.int x0), some (.int 0), some (.int 0)]) dX10_bytesOf_3 rfl (by decide) rfl rfl ?_
  refine rlX10_bytesOf_L4 hW x0 ?_ fu 0 0 σ (hit_bd h)
  · intro e3 σ2 h
    try dsimp only at h
    refine R_iload_n (i := 1) dX10_bytesOf_36 rfl rfl ?_
    exact R_iret dX10_bytesOf_37 rfl h
set_option maxRecDepth 100000 in
set_option maxHeartbeats 4000000 in
theorem rnX10_brings_j43L3 {l : Launch} {Ω : rO} (hW : WF Ω) (x1 : Int32) (x2 : Int32) (hL0 : oL Ω 10 0) (σ : rS) {K : Int32 → rS → Prop} {K0 : (Int32 ⊕ Unit) → rS → Prop} (hC : ∀ (x2 : Int32) (σ : rS), K0 (.inl x2) σ → Run l Ω cX10_brings RX10 4 none rmX10_brings K 3 [some (rf Ω 10 0), some (.int x1), some (.int x2), none] [] σ) (hE0 : ∀ (e : Unit) (σ : rS), K0 (.inr e) σ → Run l Ω cX10_brings RX10 4 none rmX10_brings K 49 [none, none, none, none] [] σ) (h : hit (fX10_brings_j43L3 x1 x2 σ) K0) : Run l Ω cX10_brings RX10 4 none rmX10_brings K 43 [some (rf Ω 10 0), some (.int x1), some (.int x2), none] [] σ := by
  unfold fX10_brings_j43L3 at h
  refine R_iinc (v := x2 + (-8)) (lv2 := [some (rf Ω 10 0), some (.int x1), some (.int (x2 + (-8))), none]) dX10_brings_43 rfl rfl (by decide) rfl rfl ?_
  refine R_goto (tgt := 3) dX10_brings_46 (by decide) ?_
  exact hC (x2 + (-8)) σ h
set_option maxRecDepth 100000 in
set_option maxHeartbeats 4000000 in
theorem rsX10_brings_L3 {l : Launch} {Ω : rO} (hW : WF Ω) (x1 : Int32) (x2 : Int32) (hL0 : oL Ω 10 0) (σ : rS) {K : Int32 → rS → Prop} {K0 : (Int32 ⊕ Unit) → rS → Prop} (hC : ∀ (x2 : Int32) (σ : rS), K0 (.inl x2) σ → Run l Ω cX10_brings RX10 4 none rmX10_brings K 3 [some (rf Ω 10 0), some (.int x1), some (.int x2), none] [] σ) (hE0 : ∀ (e : Unit) (σ : rS), K0 (.inr e) σ → Run l Ω cX10_brings RX10 4 none rmX10_brings K 49 [none, none, none, none] [] σ) (h : hit (fX10_brings_L3 x1 x2 σ) K0) : Run l Ω cX10_brings RX10 4 none rmX10_brings K 3 [some (rf Ω 10 0), some (.int x1), some (.int x2), none] [] σ := by
  unfold fX10_brings_L3 at h
  refine R_iload_n (i := 2) dX10_brings_3 rfl rfl ?_
  refine R_if_lt (tgt := 49) dX10_brings_4 (by decide) (fun hc => ?_) (fun hc => ?_)
  · have h := hit_t h hc
    refine R_drop (lv2 := [none, some (.int x1), some (.int x2), none]) 0 rfl ?_
    refine R_drop (lv2 := [none, none, some (.int x2), none]) 1 rfl ?_
    refine R_drop (lv2 := [none, none, none, none]) 2 rfl ?_
    exact hE0 () σ h
  · have h := hit_f h hc
    refine R_iload_n (i := 1) dX10_brings_7 rfl rfl ?_
    refine R_iload_n (i := 2) dX10_brings_8 rfl rfl ?_
    refine R_ishr dX10_brings_9 ?_
    refine R_sipush (v := 255) dX10_brings_10 rfl ?_
    refine R_iand dX10_brings_13 ?_
    refine R_topi h (fun y1 h => ?_)
    refine R_istore_n (lv2 := [some (rf Ω 10 0), some (.int x1), some (.int x2), some (.int y1)]) dX10_brings_14 rfl (by decide) rfl rfl ?_
    refine R_iload_n (i := 3) dX10_brings_15 rfl rfl ?_
    refine R_if_ne (tgt := 22) dX10_brings_16 (by decide) (fun hc => ?_) (fun hc => ?_)
    · have h := hit_f h hc
      refine R_aload_n (i := 0) dX10_brings_22 rfl rfl ?_
      refine R_get foX10_9 hL0 (cE_10 Ω 0 _) rfl dX10_brings_23 ?_
      refine R_aload_n (i := 0) dX10_brings_26 rfl rfl ?_
      refine R_get foX10_77 hL0 (cE_10 Ω 0 _) rfl dX10_brings_27 ?_
      refine R_iload_n (i := 3) dX10_brings_30 rfl rfl ?_
      refine R_i2b dX10_brings_31 ?_
      obtain ⟨hb, h⟩ := hit_bnd h
      refine R_bast (WF.kid hW 0 hL0 rfl) (cE_60 Ω 0) hb (pk_nb _) dX10_brings_32 ?_
      refine R_st h (fun σ2 h => ?_)
      refine R_aload_n (i := 0) dX10_brings_33 rfl rfl ?_
      refine R_dup dX10_brings_34 rfl ?_
      refine R_get foX10_77 hL0 (cE_10 Ω 0 _) rfl dX10_brings_35 ?_
      refine R_iconst (v := 1) dX10_brings_38 rfl ?_
      refine R_iadd dX10_brings_39 ?_
      refine R_put poX10_77 hL0 (cE_10 Ω 0 _) (cP_10_2 Ω 0 _ _) (Nat.le_of_ble_eq_true rfl) dX10_brings_40 ?_
      refine R_st h (fun σ3 h => ?_)
      refine R_drop (lv2 := [some (rf Ω 10 0), some (.int x1), some (.int x2), none]) 3 rfl ?_
      exact rnX10_brings_j43L3 hW x1 x2 hL0 σ3 hC hE0 h
    · have h := hit_t h hc
      refine R_goto (tgt := 43) dX10_brings_19 (by decide) ?_
      refine R_drop (lv2 := [some (rf Ω 10 0), some (.int x1), some (.int x2), none]) 3 rfl ?_
      exact rnX10_brings_j43L3 hW x1 x2 hL0 σ hC hE0 h
set_option maxRecDepth 100000 in
set_option maxHeartbeats 4000000 in
theorem rlX10_brings_L3 {l : Launch} {Ω : rO} (hW : WF Ω) (x1 : Int32) (hL0 : oL Ω 10 0) {K : Int32 → rS → Prop} {KE : Unit → rS → Prop} (hE0 : ∀ (e : Unit) (σ : rS), KE e σ → Run l Ω cX10_brings RX10 4 none rmX10_brings K 49 [none, none, none, none] [] σ) : ∀ (n : Nat) (x2 : Int32) (σ : rS), hit (lp (fun (x : Int32) σ => fX10_brings_L3 x1 x σ) n x2 σ) KE → Run l Ω cX10_brings RX10 4 none rmX10_brings K 3 [some (rf Ω 10 0), some (.int x1), some (.int x2), none] [] σ := by
  intro n
  induction n with
  | zero => intro x2 σ h; exact (h : False).elim
  | succ n ih =>
    intro x2 σ h
    exact rsX10_brings_L3 hW x1 x2 hL0 σ (fun x2 σ h => ih x2 σ h) (fun e σ h => hE0 e σ h) (hit_lp h)
set_option maxRecDepth 100000 in
set_option maxHeartbeats 4000000 in
theorem ctX10_brings (l : Launch) (Ω : rO) (x1 : Int32) (hL0 : oL Ω 10 0) (σ : rS) (K : Int32 → rS → Prop) (h : hit (fX10_brings x1 σ) K) : Ct l Ω yX10_brings cX10_brings 4 none rmX10_brings [rf Ω 10 0, .int x1] σ K := by
  refine Ct.of (own := RX10) (lv := [some (rf Ω 10 0), some (.int x1), none, none]) (by decide) rfl (Nat.le_of_ble_eq_true rfl) rfl (fun hW => ?_)
  unfold fX10_brings at h
  refine R_bipush (v := 24) dX10_brings_0 rfl ?_
  refine R_istore_n (lv2 := [some (rf Ω 10 0), some (.int x1), some (.int 24), none]) dX10_brings_2 rfl (by decide) rfl rfl ?_
  refine rlX10_brings_L3 hW x1 hL0 ?_ fu 24 σ (hit_bd h)
  · intro e5 σ4 h
    try dsimp only at h
    exact R_vret dX10_brings_49 rfl h
set_option maxRecDepth 100000 in
set_option maxHeartbeats 4000000 in
theorem ctX10_feed (l : Launch) (Ω : rO) (x1 : Int32) (x2 : Int32) (x3 : Int32) (x4 : Int32) (x5 : Int32) (hL0 : oL Ω 10 0) (σ : rS) (K : Int32 → rS → Prop) (h : hit (fX10_feed x1 x2 x3 x4 x5 σ) K) : Ct l Ω yX10_feed cX10_feed 6 (some .int) rmX10_feed [rf Ω 10 0, .int x1, .int x2, .int x3, .int x4, .int x5] σ K := by
  refine Ct.of (own := RX10) (lv := [some (rf Ω 10 0), some (.int x1), some (.int x2), some (.int x3), some (.int x4), some (.int x5)]) (by decide) rfl (Nat.le_of_ble_eq_true rfl) rfl (fun hW => ?_)
  unfold fX10_feed at h
  refine R_aload_n (i := 0) dX10_feed_0 rfl rfl ?_
  refine R_iconst (v := 0) dX10_feed_1 rfl ?_
  refine R_put poX10_73 hL0 (cE_10 Ω 0 _) (cP_10_0 Ω 0 _ _) (Nat.le_of_ble_eq_true rfl) dX10_feed_2 ?_
  refine R_st h (fun σ1 h => ?_)
  refine R_aload_n (i := 0) dX10_feed_5 rfl rfl ?_
  refine R_get foX10_77 hL0 (cE_10 Ω 0 _) rfl dX10_feed_6 ?_
  refine R_iload_n (i := 1) dX10_feed_9 rfl rfl ?_
  refine R_callSi (ctX10_bytesOf l Ω x1 _ _ (hit_mono (hit_bd h) (fun r2 σ3 h => ?_))) okX10_bytesOf mw_1300 rfl rfl (Nat.le_of_ble_eq_true rfl) rfl rfl ⟨by decide, by decide⟩ ⟨Nat.zero_le _, Nat.zero_le _⟩ dX10_feed_10
  refine R_iadd dX10_feed_13 ?_
  refine R_iload_n (i := 2) dX10_feed_14 rfl rfl ?_
  refine R_callSi (ctX10_bytesOf l Ω x2 _ _ (hit_mono (hit_bd h) (fun r4 σ5 h => ?_))) okX10_bytesOf mw_1300 rfl rfl (Nat.le_of_ble_eq_true rfl) rfl rfl ⟨by decide, by decide⟩ ⟨Nat.zero_le _, Nat.zero_le _⟩ dX10_feed_15
  refine R_iadd dX10_feed_18 ?_
  refine R_iload_n (i := 3) dX10_feed_19 rfl rfl ?_
  refine R_callSi (ctX10_bytesOf l Ω x3 _ _ (hit_mono (hit_bd h) (fun r6 σ7 h => ?_))) okX10_bytesOf mw_1300 rfl rfl (Nat.le_of_ble_eq_true rfl) rfl rfl ⟨by decide, by decide⟩ ⟨Nat.zero_le _, Nat.zero_le _⟩ dX10_feed_20
  refine R_iadd dX10_feed_23 ?_
  refine R_iload (i := 4) dX10_feed_24 rfl ?_
  refine R_callSi (ctX10_bytesOf l Ω x4 _ _ (hit_mono (hit_bd h) (fun r8 σ9 h => ?_))) okX10_bytesOf mw_1300 rfl rfl (Nat.le_of_ble_eq_true rfl) rfl rfl ⟨by decide, by decide⟩ ⟨Nat.zero_le _, Nat.zero_le _⟩ dX10_feed_26
  refine R_iadd dX10_feed_29 ?_
  refine R_iload (i := 5) dX10_feed_30 rfl ?_
  refine R_callSi (ctX10_bytesOf l Ω x5 _ _ (hit_mono (hit_bd h) (fun r10 σ11 h => ?_))) okX10_bytesOf mw_1300 rfl rfl (Nat.le_of_ble_eq_true rfl) rfl rfl ⟨by decide, by decide⟩ ⟨Nat.zero_le _, Nat.zero_le _⟩ dX10_feed_32
  refine R_iadd dX10_feed_35 ?_
  refine R_sipush (v := 240) dX10_feed_36 rfl ?_
  refine R_icmp_le (tgt := 44) dX10_feed_39 (by decide) (fun hc => ?_) (fun hc => ?_)
  · have h := hit_f h hc
    refine R_aload_n (i := 0) dX10_feed_44 rfl rfl ?_
    refine R_iload_n (i := 1) dX10_feed_45 rfl rfl ?_
    refine R_callVv (ctX10_brings l Ω x1 hL0 _ _ (hit_mono (hit_bd h) (fun r12 σ13 h => ?_))) okX10_brings mw_1303 hL0 (cE_10 Ω 0 _) rfl rfl (Nat.le_of_ble_eq_true rfl) rfl rfl ⟨by decide, by decide⟩ ⟨Nat.zero_le _, Nat.zero_le _⟩ dX10_feed_46
    refine R_aload_n (i := 0) dX10_feed_49 rfl rfl ?_
    refine R_iload_n (i := 2) dX10_feed_50 rfl rfl ?_
    refine R_callVv (ctX10_brings l Ω x2 hL0 _ _ (hit_mono (hit_bd h) (fun r14 σ15 h => ?_))) okX10_brings mw_1303 hL0 (cE_10 Ω 0 _) rfl rfl (Nat.le_of_ble_eq_true rfl) rfl rfl ⟨by decide, by decide⟩ ⟨Nat.zero_le _, Nat.zero_le _⟩ dX10_feed_51
    refine R_aload_n (i := 0) dX10_feed_54 rfl rfl ?_
    refine R_iload_n (i := 3) dX10_feed_55 rfl rfl ?_
    refine R_callVv (ctX10_brings l Ω x3 hL0 _ _ (hit_mono (hit_bd h) (fun r16 σ17 h => ?_))) okX10_brings mw_1303 hL0 (cE_10 Ω 0 _) rfl rfl (Nat.le_of_ble_eq_true rfl) rfl rfl ⟨by decide, by decide⟩ ⟨Nat.zero_le _, Nat.zero_le _⟩ dX10_feed_56
    refine R_aload_n (i := 0) dX10_feed_59 rfl rfl ?_
    refine R_iload (i := 4) dX10_feed_60 rfl ?_
    refine R_callVv (ctX10_brings l Ω x4 hL0 _ _ (hit_mono (hit_bd h) (fun r18 σ19 h => ?_))) okX10_brings mw_1303 hL0 (cE_10 Ω 0 _) rfl rfl (Nat.le_of_ble_eq_true rfl) rfl rfl ⟨by decide, by decide⟩ ⟨Nat.zero_le _, Nat.zero_le _⟩ dX10_feed_62
    refine R_aload_n (i := 0) dX10_feed_65 rfl rfl ?_
    refine R_iload (i := 5) dX10_feed_66 rfl ?_
    refine R_callVv (ctX10_brings l Ω x5 hL0 _ _ (hit_mono (hit_bd h) (fun r20 σ21 h => ?_))) okX10_brings mw_1303 hL0 (cE_10 Ω 0 _) rfl rfl (Nat.le_of_ble_eq_true rfl) rfl rfl ⟨by decide, by decide⟩ ⟨Nat.zero_le _, Nat.zero_le _⟩ dX10_feed_68
    refine R_aload_n (i := 0) dX10_feed_71 rfl rfl ?_
    refine R_get foX10_77 hL0 (cE_10 Ω 0 _) rfl dX10_feed_72 ?_
    exact R_iret dX10_feed_75 rfl h
  · have h := hit_t h hc
    refine R_iconst (v := (-1)) dX10_feed_42 rfl ?_
    exact R_iret dX10_feed_43 rfl h
set_option maxRecDepth 100000 in
set_option maxHeartbeats 4000000 in
theorem ctX10_end (l : Launch) (Ω : rO) (x1 : Int32) (hL0 : oL Ω 10 0) (σ : rS) (K : Int32 → rS → Prop) (h : hit (fX10_end x1 σ) K) : Ct l Ω yX10_end cX10_end 2 (some .boolean) rmX10_end [rf Ω 10 0, .int x1] σ K := by
  refine Ct.of (own := RX10) (lv := [some (rf Ω 10 0), some (.int x1)]) (by decide) rfl (Nat.le_of_ble_eq_true rfl) rfl (fun hW => ?_)
  unfold fX10_end at h
  refine R_aload_n (i := 0) dX10_end_0 rfl rfl ?_
  refine R_iconst (v := 0) dX10_end_1 rfl ?_
  refine R_put poX10_73 hL0 (cE_10 Ω 0 _) (cP_10_0 Ω 0 _ _) (Nat.le_of_ble_eq_true rfl) dX10_end_2 ?_
  refine R_st h (fun σ1 h => ?_)
  refine R_iload_n (i := 1) dX10_end_5 rfl rfl ?_
  refine R_if_lt (tgt := 17) dX10_end_6 (by decide) (fun hc => ?_) (fun hc => ?_)
  · have h := hit_t h hc
    refine R_iconst (v := 0) dX10_end_17 rfl ?_
    exact R_zret dX10_end_18 rfl (Or.inl rfl) h
  · have h := hit_f h hc
    refine R_iload_n (i := 1) dX10_end_9 rfl rfl ?_
    refine R_aload_n (i := 0) dX10_end_10 rfl rfl ?_
    refine R_get foX10_77 hL0 (cE_10 Ω 0 _) rfl dX10_end_11 ?_
    refine R_icmp_le (tgt := 19) dX10_end_14 (by decide) (fun hc => ?_) (fun hc => ?_)
    · have h := hit_f h hc
      refine R_aload_n (i := 0) dX10_end_19 rfl rfl ?_
      refine R_iload_n (i := 1) dX10_end_20 rfl rfl ?_
      refine R_put poX10_77 hL0 (cE_10 Ω 0 _) (cP_10_2 Ω 0 _ _) (Nat.le_of_ble_eq_true rfl) dX10_end_21 ?_
      refine R_st h (fun σ2 h => ?_)
      refine R_iconst (v := 1) dX10_end_24 rfl ?_
      exact R_zret dX10_end_25 rfl (Or.inr rfl) h
    · have h := hit_t h hc
      refine R_iconst (v := 0) dX10_end_17 rfl ?_
      exact R_zret dX10_end_18 rfl (Or.inl rfl) h
set_option maxRecDepth 100000 in
set_option maxHeartbeats 4000000 in
theorem ctX10_here (l : Launch) (Ω : rO) (hL0 : oL Ω 10 0) (σ : rS) (K : Int32 → rS → Prop) (h : hit (fX10_here  σ) K) : Ct l Ω yX10_here cX10_here 1 (some .int) rmX10_here [rf Ω 10 0] σ K := by
  refine Ct.of (own := RX10) (lv := [some (rf Ω 10 0)]) (by decide) rfl (Nat.le_of_ble_eq_true rfl) rfl (fun hW => ?_)
  unfold fX10_here at h
  refine R_aload_n (i := 0) dX10_here_0 rfl rfl ?_
  refine R_get foX10_88 hL0 (cE_10 Ω 0 _) rfl dX10_here_1 ?_
  refine R_aload_n (i := 0) dX10_here_4 rfl rfl ?_
  refine R_get foX10_77 hL0 (cE_10 Ω 0 _) rfl dX10_here_5 ?_
  refine R_icmp_ge (tgt := 27) dX10_here_8 (by decide) (fun hc => ?_) (fun hc => ?_)
  · have h := hit_f h hc
    refine R_iconst (v := (-1)) dX10_here_27 rfl ?_
    exact R_iret dX10_here_28 rfl h
  · have h := hit_t h hc
    refine R_aload_n (i := 0) dX10_here_11 rfl rfl ?_
    refine R_get foX10_9 hL0 (cE_10 Ω 0 _) rfl dX10_here_12 ?_
    refine R_aload_n (i := 0) dX10_here_15 rfl rfl ?_
    refine R_get foX10_88 hL0 (cE_10 Ω 0 _) rfl dX10_here_16 ?_
    obtain ⟨hb, h⟩ := hit_bnd h
    refine R_bald (WF.kid hW 0 hL0 rfl) (cE_60 Ω 0 _) hb dX10_here_19 ?_
    refine R_sipush (v := 255) dX10_here_20 rfl ?_
    refine R_iand dX10_here_23 ?_
    refine R_goto (tgt := 28) dX10_here_24 (by decide) ?_
    exact R_iret dX10_here_28 rfl h
set_option maxRecDepth 100000 in
set_option maxHeartbeats 4000000 in
theorem rsX10_look_L0 {l : Launch} {Ω : rO} (hW : WF Ω) (hL0 : oL Ω 10 0) (σ : rS) {K : Int32 → rS → Prop} {K0 : (Unit ⊕ Unit) → rS → Prop} (hC : ∀ (σ : rS), K0 (.inl ()) σ → Run l Ω cX10_look RX10 1 (some .int) rmX10_look K 0 [some (rf Ω 10 0)] [] σ) (hE0 : ∀ (e : Unit) (σ : rS), K0 (.inr e) σ → Run l Ω cX10_look RX10 1 (some .int) rmX10_look K 22 [some (rf Ω 10 0)] [] σ) (h : hit (fX10_look_L0  σ) K0) : Run l Ω cX10_look RX10 1 (some .int) rmX10_look K 0 [some (rf Ω 10 0)] [] σ := by
  unfold fX10_look_L0 at h
  refine R_aload_n (i := 0) dX10_look_0 rfl rfl ?_
  refine R_callVi (ctX10_here l Ω hL0 _ _ (hit_mono (hit_bd h) (fun r6 σ7 h => ?_))) okX10_here mw_1326 hL0 (cE_10 Ω 0 _) rfl rfl (Nat.le_of_ble_eq_true rfl) rfl rfl ⟨by decide, by decide⟩ ⟨Nat.zero_le _, Nat.zero_le _⟩ dX10_look_1
  refine R_bipush (v := 32) dX10_look_4 rfl ?_
  refine R_icmp_ne (tgt := 22) dX10_look_6 (by decide) (fun hc => ?_) (fun hc => ?_)
  · have h := hit_f h hc
    exact hE0 () σ7 h
  · have h := hit_t h hc
    refine R_aload_n (i := 0) dX10_look_9 rfl rfl ?_
    refine R_dup dX10_look_10 rfl ?_
    refine R_get foX10_88 hL0 (cE_10 Ω 0 _) rfl dX10_look_11 ?_
    refine R_iconst (v := 1) dX10_look_14 rfl ?_
    refine R_iadd dX10_look_15 ?_
    refine R_put poX10_88 hL0 (cE_10 Ω 0 _) (cP_10_3 Ω 0 _ _) (Nat.le_of_ble_eq_true rfl) dX10_look_16 ?_
    refine R_st h (fun σ8 h => ?_)
    refine R_goto (tgt := 0) dX10_look_19 (by decide) ?_
    exact hC  σ8 h
set_option maxRecDepth 100000 in
set_option maxHeartbeats 4000000 in
theorem rlX10_look_L0 {l : Launch} {Ω : rO} (hW : WF Ω) (hL0 : oL Ω 10 0) {K : Int32 → rS → Prop} {KE : Unit → rS → Prop} (hE0 : ∀ (e : Unit) (σ : rS), KE e σ → Run l Ω cX10_look RX10 1 (some .int) rmX10_look K 22 [some (rf Ω 10 0)] [] σ) : ∀ (n : Nat) (σ : rS), hit (lp (fun (x : Unit) σ => fX10_look_L0  σ) n () σ) KE → Run l Ω cX10_look RX10 1 (some .int) rmX10_look K 0 [some (rf Ω 10 0)] [] σ := by
  intro n
  induction n with
  | zero => intro  σ h; exact (h : False).elim
  | succ n ih =>
    intro  σ h
    exact rsX10_look_L0 hW hL0 σ (fun  σ h => ih  σ h) (fun e σ h => hE0 e σ h) (hit_lp h)
set_option maxRecDepth 100000 in
set_option maxHeartbeats 4000000 in
theorem ctX10_look (l : Launch) (Ω : rO) (hL0 : oL Ω 10 0) (σ : rS) (K : Int32 → rS → Prop) (h : hit (fX10_look  σ) K) : Ct l Ω yX10_look cX10_look 1 (some .int) rmX10_look [rf Ω 10 0] σ K := by
  refine Ct.of (own := RX10) (lv := [some (rf Ω 10 0)]) (by decide) rfl (Nat.le_of_ble_eq_true rfl) rfl (fun hW => ?_)
  unfold fX10_look at h
  refine R_aload_n (i := 0) dX10_look_0 rfl rfl ?_
  refine R_callVi (ctX10_here l Ω hL0 _ _ (hit_mono (hit_bd h) (fun r1 σ2 h => ?_))) okX10_here mw_1326 hL0 (cE_10 Ω 0 _) rfl rfl (Nat.le_of_ble_eq_true rfl) rfl rfl ⟨by decide, by decide⟩ ⟨Nat.zero_le _, Nat.zero_le _⟩ dX10_look_1
  refine R_bipush (v := 32) dX10_look_4 rfl ?_
  refine R_icmp_ne (tgt := 22) dX10_look_6 (by decide) (fun hc => ?_) (fun hc => ?_)
  · have h := hit_f h hc
    refine R_aload_n (i := 0) dX10_look_22 rfl rfl ?_
    refine R_callVi (ctX10_here l Ω hL0 _ _ (hit_mono (hit_bd h) (fun r3 σ4 h => ?_))) okX10_here mw_1326 hL0 (cE_10 Ω 0 _) rfl rfl (Nat.le_of_ble_eq_true rfl) rfl rfl ⟨by decide, by decide⟩ ⟨Nat.zero_le _, Nat.zero_le _⟩ dX10_look_23
    exact R_iret dX10_look_26 rfl h
  · have h := hit_t h hc
    refine R_aload_n (i := 0) dX10_look_9 rfl rfl ?_
    refine R_dup dX10_look_10 rfl ?_
    refine R_get foX10_88 hL0 (cE_10 Ω 0 _) rfl dX10_look_11 ?_
    refine R_iconst (v := 1) dX10_look_14 rfl ?_
    refine R_iadd dX10_look_15 ?_
    refine R_put poX10_88 hL0 (cE_10 Ω 0 _) (cP_10_3 Ω 0 _ _) (Nat.le_of_ble_eq_true rfl) dX10_look_16 ?_
    refine R_st h (fun σ5 h => ?_)
    refine R_goto (tgt := 0) dX10_look_19 (by decide) ?_
    refine rlX10_look_L0 hW hL0 ?_ fu  σ5 (hit_bd h)
    · intro e10 σ9 h
      try dsimp only at h
      refine R_aload_n (i := 0) dX10_look_22 rfl rfl ?_
      refine R_callVi (ctX10_here l Ω hL0 _ _ (hit_mono (hit_bd h) (fun r11 σ12 h => ?_))) okX10_here mw_1326 hL0 (cE_10 Ω 0 _) rfl rfl (Nat.le_of_ble_eq_true rfl) rfl rfl ⟨by decide, by decide⟩ ⟨Nat.zero_le _, Nat.zero_le _⟩ dX10_look_23
      exact R_iret dX10_look_26 rfl h
set_option maxRecDepth 100000 in
set_option maxHeartbeats 4000000 in
theorem ctX10_fails (l : Launch) (Ω : rO) (hL0 : oL Ω 10 0) (σ : rS) (K : Int32 → rS → Prop) (h : hit (fX10_fails  σ) K) : Ct l Ω yX10_fails cX10_fails 1 none rmX10_fails [rf Ω 10 0] σ K := by
  refine Ct.of (own := RX10) (lv := [some (rf Ω 10 0)]) (by decide) rfl (Nat.le_of_ble_eq_true rfl) rfl (fun hW => ?_)
  unfold fX10_fails at h
  refine R_aload_n (i := 0) dX10_fails_0 rfl rfl ?_
  refine R_get foX10_95 hL0 (cE_10 Ω 0 _) rfl dX10_fails_1 ?_
  refine R_iconst (v := (-1)) dX10_fails_4 rfl ?_
  refine R_icmp_ne (tgt := 16) dX10_fails_5 (by decide) (fun hc => ?_) (fun hc => ?_)
  · have h := hit_f h hc
    exact R_vret dX10_fails_16 rfl h
  · have h := hit_t h hc
    refine R_aload_n (i := 0) dX10_fails_8 rfl rfl ?_
    refine R_aload_n (i := 0) dX10_fails_9 rfl rfl ?_
    refine R_get foX10_88 hL0 (cE_10 Ω 0 _) rfl dX10_fails_10 ?_
    refine R_put poX10_95 hL0 (cE_10 Ω 0 _) (cP_10_4 Ω 0 _ _) (Nat.le_of_ble_eq_true rfl) dX10_fails_13 ?_
    refine R_st h (fun σ1 h => ?_)
    exact R_vret dX10_fails_16 rfl h
set_option maxRecDepth 100000 in
set_option maxHeartbeats 4000000 in
theorem ctX10_isDigit (l : Launch) (Ω : rO) (hL0 : oL Ω 10 0) (σ : rS) (K : Int32 → rS → Prop) (h : hit (fX10_isDigit  σ) K) : Ct l Ω yX10_isDigit cX10_isDigit 1 (some .boolean) rmX10_isDigit [rf Ω 10 0] σ K := by
  refine Ct.of (own := RX10) (lv := [some (rf Ω 10 0)]) (by decide) rfl (Nat.le_of_ble_eq_true rfl) rfl (fun hW => ?_)
  unfold fX10_isDigit at h
  refine R_aload_n (i := 0) dX10_isDigit_0 rfl rfl ?_
  refine R_callVi (ctX10_here l Ω hL0 _ _ (hit_mono (hit_bd h) (fun r1 σ2 h => ?_))) okX10_here mw_1326 hL0 (cE_10 Ω 0 _) rfl rfl (Nat.le_of_ble_eq_true rfl) rfl rfl ⟨by decide, by decide⟩ ⟨Nat.zero_le _, Nat.zero_le _⟩ dX10_isDigit_1
  refine R_bipush (v := 48) dX10_isDigit_4 rfl ?_
  refine R_icmp_lt (tgt := 22) dX10_isDigit_6 (by decide) (fun hc => ?_) (fun hc => ?_)
  · have h := hit_t h hc
    refine R_iconst (v := 0) dX10_isDigit_22 rfl ?_
    exact R_zret dX10_isDigit_23 rfl (Or.inl rfl) h
  · have h := hit_f h hc
    refine R_aload_n (i := 0) dX10_isDigit_9 rfl rfl ?_
    refine R_callVi (ctX10_here l Ω hL0 _ _ (hit_mono (hit_bd h) (fun r3 σ4 h => ?_))) okX10_here mw_1326 hL0 (cE_10 Ω 0 _) rfl rfl (Nat.le_of_ble_eq_true rfl) rfl rfl ⟨by decide, by decide⟩ ⟨Nat.zero_le _, Nat.zero_le _⟩ dX10_isDigit_10
    refine R_bipush (v := 57) dX10_isDigit_13 rfl ?_
    refine R_icmp_gt (tgt := 22) dX10_isDigit_15 (by decide) (fun hc => ?_) (fun hc => ?_)
    · have h := hit_t h hc
      refine R_iconst (v := 0) dX10_isDigit_22 rfl ?_
      exact R_zret dX10_isDigit_23 rfl (Or.inl rfl) h
    · have h := hit_f h hc
      refine R_iconst (v := 1) dX10_isDigit_18 rfl ?_
      refine R_goto (tgt := 23) dX10_isDigit_19 (by decide) ?_
      exact R_zret dX10_isDigit_23 rfl (Or.inr rfl) h
set_option maxRecDepth 100000 in
set_option maxHeartbeats 4000000 in
theorem rnX10_digit_j20 {l : Launch} {Ω : rO} (hW : WF Ω) (hL0 : oL Ω 10 0) (σ : rS) {K : Int32 → rS → Prop}  (h : hit (fX10_digit_j20  σ) K) : Run l Ω cX10_digit RX10 2 (some .int) rmX10_digit K 20 [some (rf Ω 10 0), none] [] σ := by
  unfold fX10_digit_j20 at h
  refine R_aload_n (i := 0) dX10_digit_20 rfl rfl ?_
  refine R_callVv (ctX10_fails l Ω hL0 _ _ (hit_mono (hit_bd h) (fun r3 σ4 h => ?_))) okX10_fails mw_1330 hL0 (cE_10 Ω 0 _) rfl rfl (Nat.le_of_ble_eq_true rfl) rfl rfl ⟨by decide, by decide⟩ ⟨Nat.zero_le _, Nat.zero_le _⟩ dX10_digit_21
  refine R_iconst (v := 0) dX10_digit_24 rfl ?_
  exact R_iret dX10_digit_25 rfl h
set_option maxRecDepth 100000 in
set_option maxHeartbeats 4000000 in
theorem ctX10_digit (l : Launch) (Ω : rO) (hL0 : oL Ω 10 0) (σ : rS) (K : Int32 → rS → Prop) (h : hit (fX10_digit  σ) K) : Ct l Ω yX10_digit cX10_digit 2 (some .int) rmX10_digit [rf Ω 10 0] σ K := by
  refine Ct.of (own := RX10) (lv := [some (rf Ω 10 0), none]) (by decide) rfl (Nat.le_of_ble_eq_true rfl) rfl (fun hW => ?_)
  unfold fX10_digit at h
  refine R_aload_n (i := 0) dX10_digit_0 rfl rfl ?_
  refine R_callVi (ctX10_look l Ω hL0 _ _ (hit_mono (hit_bd h) (fun r1 σ2 h => ?_))) okX10_look mw_1322 hL0 (cE_10 Ω 0 _) rfl rfl (Nat.le_of_ble_eq_true rfl) rfl rfl ⟨by decide, by decide⟩ ⟨Nat.zero_le _, Nat.zero_le _⟩ dX10_digit_1
  refine R_istore_n (lv2 := [some (rf Ω 10 0), some (.int r1)]) dX10_digit_4 rfl (by decide) rfl rfl ?_
  refine R_aload_n (i := 0) dX10_digit_5 rfl rfl ?_
  refine R_get foX10_95 hL0 (cE_10 Ω 0 _) rfl dX10_digit_6 ?_
  refine R_iconst (v := (-1)) dX10_digit_9 rfl ?_
  refine R_icmp_ne (tgt := 20) dX10_digit_10 (by decide) (fun hc => ?_) (fun hc => ?_)
  · have h := hit_f h hc
    refine R_drop (lv2 := [some (rf Ω 10 0), none]) 1 rfl ?_
    exact rnX10_digit_j20 hW hL0 σ2  h
  · have h := hit_t h hc
    refine R_aload_n (i := 0) dX10_digit_13 rfl rfl ?_
    refine R_callVi (ctX10_isDigit l Ω hL0 _ _ (hit_mono (hit_bd h) (fun r5 σ6 h => ?_))) okX10_isDigit mw_1367 hL0 (cE_10 Ω 0 _) rfl rfl (Nat.le_of_ble_eq_true rfl) rfl rfl ⟨by decide, by decide⟩ ⟨Nat.zero_le _, Nat.zero_le _⟩ dX10_digit_14
    refine R_if_ne (tgt := 26) dX10_digit_17 (by decide) (fun hc => ?_) (fun hc => ?_)
    · have h := hit_f h hc
      refine R_aload_n (i := 0) dX10_digit_26 rfl rfl ?_
      refine R_dup dX10_digit_27 rfl ?_
      refine R_get foX10_88 hL0 (cE_10 Ω 0 _) rfl dX10_digit_28 ?_
      refine R_iconst (v := 1) dX10_digit_31 rfl ?_
      refine R_iadd dX10_digit_32 ?_
      refine R_put poX10_88 hL0 (cE_10 Ω 0 _) (cP_10_3 Ω 0 _ _) (Nat.le_of_ble_eq_true rfl) dX10_digit_33 ?_
      refine R_st h (fun σ7 h => ?_)
      refine R_iload_n (i := 1) dX10_digit_36 rfl rfl ?_
      refine R_bipush (v := 48) dX10_digit_37 rfl ?_
      refine R_isub dX10_digit_39 ?_
      exact R_iret dX10_digit_40 rfl h
    · have h := hit_t h hc
      refine R_drop (lv2 := [some (rf Ω 10 0), none]) 1 rfl ?_
      exact rnX10_digit_j20 hW hL0 σ6  h
set_option maxRecDepth 100000 in
set_option maxHeartbeats 4000000 in
theorem rsX10_number_L7 {l : Launch} {Ω : rO} (hW : WF Ω) (x1 : Int32) (x2 : Int32) (hL0 : oL Ω 10 0) (σ : rS) {K : Int32 → rS → Prop} {K0 : ((Int32 × Int32) ⊕ Int32) → rS → Prop} (hC : ∀ (x1 : Int32) (x2 : Int32) (σ : rS), K0 (.inl (x1, x2)) σ → Run l Ω cX10_number RX10 3 (some .int) rmX10_number K 7 [some (rf Ω 10 0), some (.int x1), some (.int x2)] [] σ) (hE0 : ∀ (e : Int32) (σ : rS), K0 (.inr e) σ → Run l Ω cX10_number RX10 3 (some .int) rmX10_number K 43 [some (rf Ω 10 0), some (.int e), none] [] σ) (h : hit (fX10_number_L7 x1 x2 σ) K0) : Run l Ω cX10_number RX10 3 (some .int) rmX10_number K 7 [some (rf Ω 10 0), some (.int x1), some (.int x2)] [] σ := by
  unfold fX10_number_L7 at h
  refine R_iload_n (i := 2) dX10_number_7 rfl rfl ?_
  refine R_iconst (v := 3) dX10_number_8 rfl ?_
  refine R_icmp_ge (tgt := 43) dX10_number_9 (by decide) (fun hc => ?_) (fun hc => ?_)
  · have h := hit_f h hc
    refine R_drop (lv2 := [some (rf Ω 10 0), some (.int x1), none]) 2 rfl ?_
    exact hE0 x1 σ h
  · have h := hit_t h hc
    refine R_aload_n (i := 0) dX10_number_12 rfl rfl ?_
    refine R_get foX10_95 hL0 (cE_10 Ω 0 _) rfl dX10_number_13 ?_
    refine R_iconst (v := (-1)) dX10_number_16 rfl ?_
    refine R_icmp_ne (tgt := 43) dX10_number_17 (by decide) (fun hc => ?_) (fun hc => ?_)
    · have h := hit_f h hc
      refine R_drop (lv2 := [some (rf Ω 10 0), some (.int x1), none]) 2 rfl ?_
      exact hE0 x1 σ h
    · have h := hit_t h hc
      refine R_aload_n (i := 0) dX10_number_20 rfl rfl ?_
      refine R_callVi (ctX10_isDigit l Ω hL0 _ _ (hit_mono (hit_bd h) (fun r3 σ4 h => ?_))) okX10_isDigit mw_1367 hL0 (cE_10 Ω 0 _) rfl rfl (Nat.le_of_ble_eq_true rfl) rfl rfl ⟨by decide, by decide⟩ ⟨Nat.zero_le _, Nat.zero_le _⟩ dX10_number_21
      refine R_if_eq (tgt := 43) dX10_number_24 (by decide) (fun hc => ?_) (fun hc => ?_)
      · have h := hit_t h hc
        refine R_drop (lv2 := [some (rf Ω 10 0), some (.int x1), none]) 2 rfl ?_
        exact hE0 x1 σ4 h
      · have h := hit_f h hc
        refine R_bipush (v := 10) dX10_number_27 rfl ?_
        refine R_iload_n (i := 1) dX10_number_29 rfl rfl ?_
        refine R_imul dX10_number_30 ?_
        refine R_aload_n (i := 0) dX10_number_31 rfl rfl ?_
        refine R_callVi (ctX10_digit l Ω hL0 _ _ (hit_mono (hit_bd h) (fun r5 σ6 h => ?_))) okX10_digit mw_1363 hL0 (cE_10 Ω 0 _) rfl rfl (Nat.le_of_ble_eq_true rfl) rfl rfl ⟨by decide, by decide⟩ ⟨Nat.zero_le _, Nat.zero_le _⟩ dX10_number_32
        refine R_iadd dX10_number_35 ?_
        refine R_topi h (fun y7 h => ?_)
        refine R_istore_n (lv2 := [some (rf Ω 10 0), some (.int y7), some (.int x2)]) dX10_number_36 rfl (by decide) rfl rfl ?_
        refine R_iinc (v := x2 + 1) (lv2 := [some (rf Ω 10 0), some (.int y7), some (.int (x2 + 1))]) dX10_number_37 rfl rfl (by decide) rfl rfl ?_
        refine R_goto (tgt := 7) dX10_number_40 (by decide) ?_
        exact hC y7 (x2 + 1) σ6 h
set_option maxRecDepth 100000 in
set_option maxHeartbeats 4000000 in
theorem rlX10_number_L7 {l : Launch} {Ω : rO} (hW : WF Ω) (hL0 : oL Ω 10 0) {K : Int32 → rS → Prop} {KE : Int32 → rS → Prop} (hE0 : ∀ (e : Int32) (σ : rS), KE e σ → Run l Ω cX10_number RX10 3 (some .int) rmX10_number K 43 [some (rf Ω 10 0), some (.int e), none] [] σ) : ∀ (n : Nat) (x1 : Int32) (x2 : Int32) (σ : rS), hit (lp (fun (x : (Int32 × Int32)) σ => fX10_number_L7 x.1 x.2 σ) n (x1, x2) σ) KE → Run l Ω cX10_number RX10 3 (some .int) rmX10_number K 7 [some (rf Ω 10 0), some (.int x1), some (.int x2)] [] σ := by
  intro n
  induction n with
  | zero => intro x1 x2 σ h; exact (h : False).elim
  | succ n ih =>
    intro x1 x2 σ h
    exact rsX10_number_L7 hW x1 x2 hL0 σ (fun x1 x2 σ h => ih x1 x2 σ h) (fun e σ h => hE0 e σ h) (hit_lp h)
set_option maxRecDepth 100000 in
set_option maxHeartbeats 4000000 in
theorem rnX10_number_j43 {l : Launch} {Ω : rO} (hW : WF Ω) (x1 : Int32) (hL0 : oL Ω 10 0) (σ : rS) {K : Int32 → rS → Prop}  (h : hit (fX10_number_j43 x1 σ) K) : Run l Ω cX10_number RX10 3 (some .int) rmX10_number K 43 [some (rf Ω 10 0), some (.int x1), none] [] σ := by
  unfold fX10_number_j43 at h
  refine R_aload_n (i := 0) dX10_number_43 rfl rfl ?_
  refine R_get foX10_95 hL0 (cE_10 Ω 0 _) rfl dX10_number_44 ?_
  refine R_iconst (v := (-1)) dX10_number_47 rfl ?_
  refine R_icmp_ne (tgt := 62) dX10_number_48 (by decide) (fun hc => ?_) (fun hc => ?_)
  · have h := hit_f h hc
    refine R_iload_n (i := 1) dX10_number_62 rfl rfl ?_
    exact R_iret dX10_number_63 rfl h
  · have h := hit_t h hc
    refine R_aload_n (i := 0) dX10_number_51 rfl rfl ?_
    refine R_callVi (ctX10_isDigit l Ω hL0 _ _ (hit_mono (hit_bd h) (fun r10 σ11 h => ?_))) okX10_isDigit mw_1367 hL0 (cE_10 Ω 0 _) rfl rfl (Nat.le_of_ble_eq_true rfl) rfl rfl ⟨by decide, by decide⟩ ⟨Nat.zero_le _, Nat.zero_le _⟩ dX10_number_52
    refine R_if_eq (tgt := 62) dX10_number_55 (by decide) (fun hc => ?_) (fun hc => ?_)
    · have h := hit_t h hc
      refine R_iload_n (i := 1) dX10_number_62 rfl rfl ?_
      exact R_iret dX10_number_63 rfl h
    · have h := hit_f h hc
      refine R_aload_n (i := 0) dX10_number_58 rfl rfl ?_
      refine R_callVv (ctX10_fails l Ω hL0 _ _ (hit_mono (hit_bd h) (fun r12 σ13 h => ?_))) okX10_fails mw_1330 hL0 (cE_10 Ω 0 _) rfl rfl (Nat.le_of_ble_eq_true rfl) rfl rfl ⟨by decide, by decide⟩ ⟨Nat.zero_le _, Nat.zero_le _⟩ dX10_number_59
      refine R_iload_n (i := 1) dX10_number_62 rfl rfl ?_
      exact R_iret dX10_number_63 rfl h
set_option maxRecDepth 100000 in
set_option maxHeartbeats 4000000 in
theorem ctX10_number (l : Launch) (Ω : rO) (hL0 : oL Ω 10 0) (σ : rS) (K : Int32 → rS → Prop) (h : hit (fX10_number  σ) K) : Ct l Ω yX10_number cX10_number 3 (some .int) rmX10_number [rf Ω 10 0] σ K := by
  refine Ct.of (own := RX10) (lv := [some (rf Ω 10 0), none, none]) (by decide) rfl (Nat.le_of_ble_eq_true rfl) rfl (fun hW => ?_)
  unfold fX10_number at h
  refine R_aload_n (i := 0) dX10_number_0 rfl rfl ?_
  refine R_callVi (ctX10_digit l Ω hL0 _ _ (hit_mono (hit_bd h) (fun r1 σ2 h => ?_))) okX10_digit mw_1363 hL0 (cE_10 Ω 0 _) rfl rfl (Nat.le_of_ble_eq_true rfl) rfl rfl ⟨by decide, by decide⟩ ⟨Nat.zero_le _, Nat.zero_le _⟩ dX10_number_1
  refine R_istore_n (lv2 := [some (rf Ω 10 0), some (.int r1), none]) dX10_number_4 rfl (by decide) rfl rfl ?_
  refine R_iconst (v := 1) dX10_number_5 rfl ?_
  refine R_istore_n (lv2 := [some (rf Ω 10 0), some (.int r1), some (.int 1)]) dX10_number_6 rfl (by decide) rfl rfl ?_
  refine rlX10_number_L7 hW hL0 ?_ fu r1 1 σ2 (hit_bd h)
  · intro e9 σ8 h
    try dsimp only at h
    exact rnX10_number_j43 hW e9 hL0 σ8  h
set_option maxRecDepth 100000 in
set_option maxHeartbeats 4000000 in
theorem ctJ3_checkIndex_8e157 (l : Launch) (Ω : rO) (x0 : Int32) (x1 : Int32) (u2 : Option Nat) (σ : rS) (K : Int32 → rS → Prop) (h : hit (fJ3_checkIndex_8e157 x0 x1 σ) K) : Ct l Ω yJ3_checkIndex_8e157 cJ3_checkIndex_8e157 3 (some .int) rmJ3_checkIndex_8e157 [.int x0, .int x1, va_rf u2] σ K := by
  refine Ct.of (own := RJ3) (lv := [some (.int x0), some (.int x1), some (va_rf u2)]) (by decide) rfl (by cases u2 <;> exact Nat.le_of_ble_eq_true rfl) rfl (fun hW => ?_)
  unfold fJ3_checkIndex_8e157 at h
  refine R_iload_n (i := 0) dJ3_checkIndex_8e157_0 rfl rfl ?_
  refine R_if_lt (tgt := 9) dJ3_checkIndex_8e157_1 (by decide) (fun hc => ?_) (fun hc => ?_)
  · have h := hit_t h hc
    exact (h : False).elim
  · have h := hit_f h hc
    refine R_iload_n (i := 0) dJ3_checkIndex_8e157_4 rfl rfl ?_
    refine R_iload_n (i := 1) dJ3_checkIndex_8e157_5 rfl rfl ?_
    refine R_icmp_lt (tgt := 16) dJ3_checkIndex_8e157_6 (by decide) (fun hc => ?_) (fun hc => ?_)
    · have h := hit_t h hc
      refine R_iload_n (i := 0) dJ3_checkIndex_8e157_16 rfl rfl ?_
      exact R_iret dJ3_checkIndex_8e157_17 rfl h
    · have h := hit_f h hc
      exact (h : False).elim
set_option maxRecDepth 100000 in
set_option maxHeartbeats 4000000 in
theorem ctJ0_checkIndex_df160 (l : Launch) (Ω : rO) (x0 : Int32) (x1 : Int32) (σ : rS) (K : Int32 → rS → Prop) (h : hit (fJ0_checkIndex_df160 x0 x1 σ) K) : Ct l Ω yJ0_checkIndex_df160 cJ0_checkIndex_df160 2 none rmJ0_checkIndex_df160 [.int x0, .int x1] σ K := by
  refine Ct.of (own := RJ0) (lv := [some (.int x0), some (.int x1)]) (by decide) rfl (Nat.le_of_ble_eq_true rfl) rfl (fun hW => ?_)
  unfold fJ0_checkIndex_df160 at h
  refine R_iload_n (i := 0) dJ0_checkIndex_df160_0 rfl rfl ?_
  refine R_iload_n (i := 1) dJ0_checkIndex_df160_1 rfl rfl ?_
  refine R_gstq (fun _ h => h.2.2.2.2.2.2.1) mw_465 dJ0_checkIndex_df160_2 (fun u1 => ?_)
  refine R_callSi (ctJ3_checkIndex_8e157 l Ω x0 x1 u1 _ _ (hit_mono (hit_bd h) (fun r2 σ3 h => ?_))) okJ3_checkIndex_8e157 mw_1349 rfl rfl (Nat.le_of_ble_eq_true rfl) rfl rfl ⟨by decide, by decide⟩ ⟨Nat.zero_le _, Nat.zero_le _⟩ dJ0_checkIndex_df160_5
  refine R_pop dJ0_checkIndex_df160_8 rfl ?_
  exact R_vret dJ0_checkIndex_df160_9 rfl h
set_option maxRecDepth 100000 in
set_option maxHeartbeats 4000000 in
theorem ctJ1_charAt_3b067 (l : Launch) (Ω : rO) (s0 : Nat) (x1 : Int32) (hL0 : s0 < 2) (σ : rS) (K : Int32 → rS → Prop) (h : hit (fJ1_charAt_3b067 s0 x1 σ) K) : Ct l Ω yJ1_charAt_3b067 cJ1_charAt_3b067 2 (some .char) rmJ1_charAt_3b067 [.ref (oX Ω (20 + s0)), .int x1] σ K := by
  refine Ct.of (own := RJ1) (lv := [some (.ref (oX Ω (20 + s0))), some (.int x1)]) (by decide) rfl (Nat.le_of_ble_eq_true rfl) rfl (fun hW => ?_)
  unfold fJ1_charAt_3b067 at h
  refine R_iload_n (i := 1) dJ1_charAt_3b067_0 rfl rfl ?_
  refine R_aload_n (i := 0) dJ1_charAt_3b067_1 rfl rfl ?_
  refine R_stlen (x := nI (lenS s0)) (SF.sbyt hL0) rfl dJ1_charAt_3b067_2 ?_
  refine R_callSv (ctJ0_checkIndex_df160 l Ω x1 (nI (lenS s0)) _ _ (hit_mono (hit_bd h) (fun r1 σ2 h => ?_))) okJ0_checkIndex_df160 mw_1346 rfl rfl (Nat.le_of_ble_eq_true rfl) rfl rfl ⟨by decide, by decide⟩ ⟨Nat.zero_le _, Nat.zero_le _⟩ dJ1_charAt_3b067_3
  refine R_aload_n (i := 0) dJ1_charAt_3b067_6 rfl rfl ?_
  refine R_iload_n (i := 1) dJ1_charAt_3b067_7 rfl rfl ?_
  obtain ⟨hb, h⟩ := hit_bnd h
  refine R_stb (SF.sbyt hL0) hb rfl dJ1_charAt_3b067_8 ?_
  refine R_sipush (v := 255) dJ1_charAt_3b067_9 rfl ?_
  refine R_iand dJ1_charAt_3b067_12 ?_
  refine R_i2c dJ1_charAt_3b067_13 ?_
  exact R_nret dJ1_charAt_3b067_14 rfl (pk_nc _) h
set_option maxRecDepth 100000 in
set_option maxHeartbeats 4000000 in
theorem ctJ0_charAt_5068e (l : Launch) (Ω : rO) (s0 : Nat) (x1 : Int32) (hL0 : s0 < 2) (σ : rS) (K : Int32 → rS → Prop) (h : hit (fJ0_charAt_5068e s0 x1 σ) K) : Ct l Ω yJ0_charAt_5068e cJ0_charAt_5068e 2 (some .char) rmJ0_charAt_5068e [.ref (oX Ω (10 + s0)), .int x1] σ K := by
  refine Ct.of (own := RJ0) (lv := [some (.ref (oX Ω (10 + s0))), some (.int x1)]) (by decide) rfl (Nat.le_of_ble_eq_true rfl) rfl (fun hW => ?_)
  unfold fJ0_charAt_5068e at h
  refine R_aload_n (i := 0) dJ0_charAt_5068e_0 rfl rfl ?_
  refine R_callTi hL0 (ctJ0_isLatin1_aae02 l Ω s0 hL0 _ _ (hit_mono (hit_bd h) (fun r1 σ2 h => ?_))) oktJ0_isLatin1_aae02 mw_420 rfl rfl (Nat.le_of_ble_eq_true rfl) rfl rfl ⟨by decide, by decide⟩ ⟨Nat.zero_le _, Nat.zero_le _⟩ dJ0_charAt_5068e_1
  refine R_if_eq (tgt := 16) dJ0_charAt_5068e_4 (by decide) (fun hc => ?_) (fun hc => ?_)
  · have h := hit_t h hc
    refine R_aload_n (i := 0) dJ0_charAt_5068e_16 rfl rfl ?_
    refine R_strf (SF.sval hL0) mw_1763 dJ0_charAt_5068e_17 ?_
    refine R_iload_n (i := 1) dJ0_charAt_5068e_20 rfl rfl ?_
    exact (h : False).elim
  · have h := hit_f h hc
    refine R_aload_n (i := 0) dJ0_charAt_5068e_7 rfl rfl ?_
    refine R_strf (SF.sval hL0) mw_1763 dJ0_charAt_5068e_8 ?_
    refine R_iload_n (i := 1) dJ0_charAt_5068e_11 rfl rfl ?_
    refine R_callSi (ctJ1_charAt_3b067 l Ω s0 x1 hL0 _ _ (hit_mono (hit_bd h) (fun r3 σ4 h => ?_))) okJ1_charAt_3b067 mw_1343 rfl rfl (Nat.le_of_ble_eq_true rfl) rfl rfl ⟨by decide, by decide⟩ ⟨Nat.zero_le _, Nat.zero_le _⟩ dJ0_charAt_5068e_12
    obtain ⟨hz, h⟩ := hit_bch h
    exact R_nret dJ0_charAt_5068e_15 rfl (bch_nar hz) h
set_option maxRecDepth 100000 in
set_option maxHeartbeats 4000000 in
theorem rsX10_spotOf_L2 {l : Launch} {Ω : rO} (hW : WF Ω) (s0 : Nat) (x1 : Int32) (x2 : Int32) (hL0 : s0 < 2) (σ : rS) {K : Int32 → rS → Prop} {K0 : (Int32 ⊕ (Int32 ⊕ Unit)) → rS → Prop} (hC : ∀ (x2 : Int32) (σ : rS), K0 (.inl x2) σ → Run l Ω cX10_spotOf RX10 3 (some .int) rmX10_spotOf K 2 [some (.ref (oX Ω (10 + s0))), some (.int x1), some (.int x2)] [] σ) (hE0 : ∀ (e : Int32) (σ : rS), K0 (.inr (.inl e)) σ → Run l Ω cX10_spotOf RX10 3 (some .int) rmX10_spotOf K 19 [none, none, some (.int e)] [] σ) (hE1 : ∀ (e : Unit) (σ : rS), K0 (.inr (.inr e)) σ → Run l Ω cX10_spotOf RX10 3 (some .int) rmX10_spotOf K 27 [none, none, none] [] σ) (h : hit (fX10_spotOf_L2 s0 x1 x2 σ) K0) : Run l Ω cX10_spotOf RX10 3 (some .int) rmX10_spotOf K 2 [some (.ref (oX Ω (10 + s0))), some (.int x1), some (.int x2)] [] σ := by
  unfold fX10_spotOf_L2 at h
  refine R_iload_n (i := 2) dX10_spotOf_2 rfl rfl ?_
  refine R_aload_n (i := 0) dX10_spotOf_3 rfl rfl ?_
  refine R_callTi hL0 (ctJ0_length_8abf5 l Ω s0 hL0 _ _ (hit_mono (hit_bd h) (fun r1 σ2 h => ?_))) oktJ0_length_8abf5 mw_1338 rfl rfl (Nat.le_of_ble_eq_true rfl) rfl rfl ⟨by decide, by decide⟩ ⟨Nat.zero_le _, Nat.zero_le _⟩ dX10_spotOf_4
  refine R_icmp_ge (tgt := 27) dX10_spotOf_7 (by decide) (fun hc => ?_) (fun hc => ?_)
  · have h := hit_f h hc
    refine R_drop (lv2 := [none, some (.int x1), some (.int x2)]) 0 rfl ?_
    refine R_drop (lv2 := [none, none, some (.int x2)]) 1 rfl ?_
    refine R_drop (lv2 := [none, none, none]) 2 rfl ?_
    exact hE1 () σ2 h
  · have h := hit_t h hc
    refine R_aload_n (i := 0) dX10_spotOf_10 rfl rfl ?_
    refine R_iload_n (i := 2) dX10_spotOf_11 rfl rfl ?_
    refine R_callTi hL0 (ctJ0_charAt_5068e l Ω s0 x2 hL0 _ _ (hit_mono (hit_bd h) (fun r3 σ4 h => ?_))) oktJ0_charAt_5068e mw_1339 rfl rfl (Nat.le_of_ble_eq_true rfl) rfl rfl ⟨by decide, by decide⟩ ⟨Nat.zero_le _, Nat.zero_le _⟩ dX10_spotOf_12
    refine R_iload_n (i := 1) dX10_spotOf_15 rfl rfl ?_
    refine R_icmp_ne (tgt := 21) dX10_spotOf_16 (by decide) (fun hc => ?_) (fun hc => ?_)
    · have h := hit_f h hc
      refine R_iinc (v := x2 + 1) (lv2 := [some (.ref (oX Ω (10 + s0))), some (.int x1), some (.int (x2 + 1))]) dX10_spotOf_21 rfl rfl (by decide) rfl rfl ?_
      refine R_goto (tgt := 2) dX10_spotOf_24 (by decide) ?_
      exact hC (x2 + 1) σ4 h
    · have h := hit_t h hc
      refine R_drop (lv2 := [none, some (.int x1), some (.int x2)]) 0 rfl ?_
      refine R_drop (lv2 := [none, none, some (.int x2)]) 1 rfl ?_
      exact hE0 x2 σ4 h
set_option maxRecDepth 100000 in
set_option maxHeartbeats 4000000 in
theorem rlX10_spotOf_L2 {l : Launch} {Ω : rO} (hW : WF Ω) (s0 : Nat) (x1 : Int32) (hL0 : s0 < 2) {K : Int32 → rS → Prop} {KE : (Int32 ⊕ Unit) → rS → Prop} (hE0 : ∀ (e : Int32) (σ : rS), KE (.inl e) σ → Run l Ω cX10_spotOf RX10 3 (some .int) rmX10_spotOf K 19 [none, none, some (.int e)] [] σ) (hE1 : ∀ (e : Unit) (σ : rS), KE (.inr e) σ → Run l Ω cX10_spotOf RX10 3 (some .int) rmX10_spotOf K 27 [none, none, none] [] σ) : ∀ (n : Nat) (x2 : Int32) (σ : rS), hit (lp (fun (x : Int32) σ => fX10_spotOf_L2 s0 x1 x σ) n x2 σ) KE → Run l Ω cX10_spotOf RX10 3 (some .int) rmX10_spotOf K 2 [some (.ref (oX Ω (10 + s0))), some (.int x1), some (.int x2)] [] σ := by
  intro n
  induction n with
  | zero => intro x2 σ h; exact (h : False).elim
  | succ n ih =>
    intro x2 σ h
    exact rsX10_spotOf_L2 hW s0 x1 x2 hL0 σ (fun x2 σ h => ih x2 σ h) (fun e σ h => hE0 e σ h) (fun e σ h => hE1 e σ h) (hit_lp h)
set_option maxRecDepth 100000 in
set_option maxHeartbeats 4000000 in
theorem ctX10_spotOf (l : Launch) (Ω : rO) (s0 : Nat) (x1 : Int32) (hL0 : s0 < 2) (σ : rS) (K : Int32 → rS → Prop) (h : hit (fX10_spotOf s0 x1 σ) K) : Ct l Ω yX10_spotOf cX10_spotOf 3 (some .int) rmX10_spotOf [.ref (oX Ω (10 + s0)), .int x1] σ K := by
  refine Ct.of (own := RX10) (lv := [some (.ref (oX Ω (10 + s0))), some (.int x1), none]) (by decide) rfl (Nat.le_of_ble_eq_true rfl) rfl (fun hW => ?_)
  unfold fX10_spotOf at h
  refine R_iconst (v := 0) dX10_spotOf_0 rfl ?_
  refine R_istore_n (lv2 := [some (.ref (oX Ω (10 + s0))), some (.int x1), some (.int 0)]) dX10_spotOf_1 rfl (by decide) rfl rfl ?_
  refine rlX10_spotOf_L2 hW s0 x1 hL0 ?_ ?_ fu 0 σ (hit_bd h)
  · intro e6 σ5 h
    try dsimp only at h
    refine R_iload_n (i := 2) dX10_spotOf_19 rfl rfl ?_
    exact R_iret dX10_spotOf_20 rfl h
  · intro e7 σ5 h
    try dsimp only at h
    refine R_iconst (v := (-1)) dX10_spotOf_27 rfl ?_
    exact R_iret dX10_spotOf_28 rfl h
set_option maxRecDepth 100000 in
set_option maxHeartbeats 4000000 in
theorem ctX10_leastOf (l : Launch) (Ω : rO) (x0 : Int32) (σ : rS) (K : Int32 → rS → Prop) (h : hit (fX10_leastOf x0 σ) K) : Ct l Ω yX10_leastOf cX10_leastOf 1 (some .int) rmX10_leastOf [.int x0] σ K := by
  refine Ct.of (own := RX10) (lv := [some (.int x0)]) (by decide) rfl (Nat.le_of_ble_eq_true rfl) rfl (fun hW => ?_)
  unfold fX10_leastOf at h
  refine R_iload_n (i := 0) dX10_leastOf_0 rfl rfl ?_
  refine R_if_ne (tgt := 9) dX10_leastOf_1 (by decide) (fun hc => ?_) (fun hc => ?_)
  · have h := hit_f h hc
    refine R_iload_n (i := 0) dX10_leastOf_9 rfl rfl ?_
    refine R_iconst (v := 1) dX10_leastOf_10 rfl ?_
    refine R_icmp_ne (tgt := 18) dX10_leastOf_11 (by decide) (fun hc => ?_) (fun hc => ?_)
    · have h := hit_f h hc
      refine R_iload_n (i := 0) dX10_leastOf_18 rfl rfl ?_
      refine R_iconst (v := 2) dX10_leastOf_19 rfl ?_
      refine R_icmp_ne (tgt := 28) dX10_leastOf_20 (by decide) (fun hc => ?_) (fun hc => ?_)
      · have h := hit_f h hc
        refine R_iconst (v := 1) dX10_leastOf_28 rfl ?_
        exact R_iret dX10_leastOf_29 rfl h
      · have h := hit_t h hc
        refine R_bipush (v := 16) dX10_leastOf_23 rfl ?_
        refine R_goto (tgt := 29) dX10_leastOf_25 (by decide) ?_
        exact R_iret dX10_leastOf_29 rfl h
    · have h := hit_t h hc
      refine R_iconst (v := 4) dX10_leastOf_14 rfl ?_
      refine R_goto (tgt := 29) dX10_leastOf_15 (by decide) ?_
      exact R_iret dX10_leastOf_29 rfl h
  · have h := hit_t h hc
    refine R_bipush (v := 8) dX10_leastOf_4 rfl ?_
    refine R_goto (tgt := 29) dX10_leastOf_6 (by decide) ?_
    exact R_iret dX10_leastOf_29 rfl h
set_option maxRecDepth 100000 in
set_option maxHeartbeats 4000000 in
theorem ctX10_mostOf (l : Launch) (Ω : rO) (x0 : Int32) (σ : rS) (K : Int32 → rS → Prop) (h : hit (fX10_mostOf x0 σ) K) : Ct l Ω yX10_mostOf cX10_mostOf 1 (some .int) rmX10_mostOf [.int x0] σ K := by
  refine Ct.of (own := RX10) (lv := [some (.int x0)]) (by decide) rfl (Nat.le_of_ble_eq_true rfl) rfl (fun hW => ?_)
  unfold fX10_mostOf at h
  refine R_iload_n (i := 0) dX10_mostOf_0 rfl rfl ?_
  refine R_if_ne (tgt := 9) dX10_mostOf_1 (by decide) (fun hc => ?_) (fun hc => ?_)
  · have h := hit_f h hc
    refine R_iload_n (i := 0) dX10_mostOf_9 rfl rfl ?_
    refine R_iconst (v := 1) dX10_mostOf_10 rfl ?_
    refine R_icmp_ne (tgt := 19) dX10_mostOf_11 (by decide) (fun hc => ?_) (fun hc => ?_)
    · have h := hit_f h hc
      refine R_iload_n (i := 0) dX10_mostOf_19 rfl rfl ?_
      refine R_iconst (v := 2) dX10_mostOf_20 rfl ?_
      refine R_icmp_ne (tgt := 30) dX10_mostOf_21 (by decide) (fun hc => ?_) (fun hc => ?_)
      · have h := hit_f h hc
        refine R_iconst (v := 5) dX10_mostOf_30 rfl ?_
        exact R_iret dX10_mostOf_31 rfl h
      · have h := hit_t h hc
        refine R_sipush (v := 128) dX10_mostOf_24 rfl ?_
        refine R_goto (tgt := 31) dX10_mostOf_27 (by decide) ?_
        exact R_iret dX10_mostOf_31 rfl h
    · have h := hit_t h hc
      refine R_bipush (v := 32) dX10_mostOf_14 rfl ?_
      refine R_goto (tgt := 31) dX10_mostOf_16 (by decide) ?_
      exact R_iret dX10_mostOf_31 rfl h
  · have h := hit_t h hc
    refine R_bipush (v := 64) dX10_mostOf_4 rfl ?_
    refine R_goto (tgt := 31) dX10_mostOf_6 (by decide) ?_
    exact R_iret dX10_mostOf_31 rfl h
set_option maxRecDepth 100000 in
set_option maxHeartbeats 4000000 in
theorem rsX10_readHeap_L67 {l : Launch} {Ω : rO} (hW : WF Ω) (x1 : Int32) (x2 : Int32) (hL0 : oL Ω 10 0) (σ : rS) {K : Int32 → rS → Prop} {K0 : ((Int32 × Int32) ⊕ (Unit ⊕ (Unit ⊕ (Unit ⊕ Unit)))) → rS → Prop} (hC : ∀ (x1 : Int32) (x2 : Int32) (σ : rS), K0 (.inl (x1, x2)) σ → Run l Ω cX10_readHeap RX10 3 none rmX10_readHeap K 67 [some (rf Ω 10 0), some (.int x1), some (.int x2)] [] σ) (hE0 : ∀ (e : Unit) (σ : rS), K0 (.inr (.inl e)) σ → Run l Ω cX10_readHeap RX10 3 none rmX10_readHeap K 81 [some (rf Ω 10 0), none, none] [] σ) (hE1 : ∀ (e : Unit) (σ : rS), K0 (.inr (.inr (.inl e))) σ → Run l Ω cX10_readHeap RX10 3 none rmX10_readHeap K 120 [none, none, none] [] σ) (hE2 : ∀ (e : Unit) (σ : rS), K0 (.inr (.inr (.inr (.inl e)))) σ → Run l Ω cX10_readHeap RX10 3 none rmX10_readHeap K 144 [some (rf Ω 10 0), none, none] [] σ) (hE3 : ∀ (e : Unit) (σ : rS), K0 (.inr (.inr (.inr (.inr e)))) σ → Run l Ω cX10_readHeap RX10 3 none rmX10_readHeap K 172 [some (rf Ω 10 0), none, none] [] σ) (h : hit (fX10_readHeap_L67 x1 x2 σ) K0) : Run l Ω cX10_readHeap RX10 3 none rmX10_readHeap K 67 [some (rf Ω 10 0), some (.int x1), some (.int x2)] [] σ := by
  unfold fX10_readHeap_L67 at h
  refine R_iload_n (i := 2) dX10_readHeap_67 rfl rfl ?_
  refine R_iconst (v := (-1)) dX10_readHeap_68 rfl ?_
  refine R_icmp_eq (tgt := 172) dX10_readHeap_69 (by decide) (fun hc => ?_) (fun hc => ?_)
  · have h := hit_t h hc
    refine R_drop (lv2 := [some (rf Ω 10 0), none, some (.int x2)]) 1 rfl ?_
    refine R_drop (lv2 := [some (rf Ω 10 0), none, none]) 2 rfl ?_
    exact hE3 () σ h
  · have h := hit_f h hc
    refine R_iload_n (i := 1) dX10_readHeap_72 rfl rfl ?_
    refine R_iload_n (i := 2) dX10_readHeap_73 rfl rfl ?_
    refine R_ishr dX10_readHeap_74 ?_
    refine R_iconst (v := 1) dX10_readHeap_75 rfl ?_
    refine R_iand dX10_readHeap_76 ?_
    refine R_iconst (v := 1) dX10_readHeap_77 rfl ?_
    refine R_icmp_ne (tgt := 86) dX10_readHeap_78 (by decide) (fun hc => ?_) (fun hc => ?_)
    · have h := hit_f h hc
      refine R_iload_n (i := 1) dX10_readHeap_86 rfl rfl ?_
      refine R_iconst (v := 1) dX10_readHeap_87 rfl ?_
      refine R_iload_n (i := 2) dX10_readHeap_88 rfl rfl ?_
      refine R_ishl dX10_readHeap_89 ?_
      refine R_ior dX10_readHeap_90 ?_
      refine R_topi h (fun y12 h => ?_)
      refine R_istore_n (lv2 := [some (rf Ω 10 0), some (.int y12), some (.int x2)]) dX10_readHeap_91 rfl (by decide) rfl rfl ?_
      refine R_aload_n (i := 0) dX10_readHeap_92 rfl rfl ?_
      refine R_dup dX10_readHeap_93 rfl ?_
      refine R_get foX10_88 hL0 (cE_10 Ω 0 _) rfl dX10_readHeap_94 ?_
      refine R_iconst (v := 1) dX10_readHeap_97 rfl ?_
      refine R_iadd dX10_readHeap_98 ?_
      refine R_put poX10_88 hL0 (cE_10 Ω 0 _) (cP_10_3 Ω 0 _ _) (Nat.le_of_ble_eq_true rfl) dX10_readHeap_99 ?_
      refine R_st h (fun σ13 h => ?_)
      refine R_aload_n (i := 0) dX10_readHeap_102 rfl rfl ?_
      refine R_get foX10_13 hL0 (cE_10 Ω 0 _) rfl dX10_readHeap_103 ?_
      refine R_iload_n (i := 2) dX10_readHeap_106 rfl rfl ?_
      refine R_aload_n (i := 0) dX10_readHeap_107 rfl rfl ?_
      refine R_callVi (ctX10_number l Ω hL0 _ _ (hit_mono (hit_bd h) (fun r14 σ15 h => ?_))) okX10_number mw_1359 hL0 (cE_10 Ω 0 _) rfl rfl (Nat.le_of_ble_eq_true rfl) rfl rfl ⟨by decide, by decide⟩ ⟨Nat.zero_le _, Nat.zero_le _⟩ dX10_readHeap_108
      obtain ⟨hb, h⟩ := hit_bnd h
      refine R_iast (WF.kid hW 1 hL0 rfl) (cE_61 Ω 0) hb dX10_readHeap_111 ?_
      refine R_st h (fun σ16 h => ?_)
      refine R_aload_n (i := 0) dX10_readHeap_112 rfl rfl ?_
      refine R_get foX10_95 hL0 (cE_10 Ω 0 _) rfl dX10_readHeap_113 ?_
      refine R_iconst (v := (-1)) dX10_readHeap_116 rfl ?_
      refine R_icmp_eq (tgt := 121) dX10_readHeap_117 (by decide) (fun hc => ?_) (fun hc => ?_)
      · have h := hit_t h hc
        refine R_aload_n (i := 0) dX10_readHeap_121 rfl rfl ?_
        refine R_get foX10_13 hL0 (cE_10 Ω 0 _) rfl dX10_readHeap_122 ?_
        refine R_iload_n (i := 2) dX10_readHeap_125 rfl rfl ?_
        obtain ⟨hb, h⟩ := hit_bnd h
        refine R_iald (WF.kid hW 1 hL0 rfl) (cE_61 Ω 0 _) hb dX10_readHeap_126 ?_
        refine R_i2l dX10_readHeap_127 ?_
        refine R_iload_n (i := 2) dX10_readHeap_128 rfl rfl ?_
        refine R_callSi (ctX10_leastOf l Ω x2 _ _ (hit_mono (hit_bd h) (fun r17 σ18 h => ?_))) okX10_leastOf mw_1371 rfl rfl (Nat.le_of_ble_eq_true rfl) rfl rfl ⟨by decide, by decide⟩ ⟨Nat.zero_le _, Nat.zero_le _⟩ dX10_readHeap_129
        refine R_i2l dX10_readHeap_132 ?_
        refine R_iload_n (i := 2) dX10_readHeap_133 rfl rfl ?_
        refine R_callSi (ctX10_mostOf l Ω x2 _ _ (hit_mono (hit_bd h) (fun r19 σ20 h => ?_))) okX10_mostOf mw_1374 rfl rfl (Nat.le_of_ble_eq_true rfl) rfl rfl ⟨by decide, by decide⟩ ⟨Nat.zero_le _, Nat.zero_le _⟩ dX10_readHeap_134
        refine R_i2l dX10_readHeap_137 ?_
        refine R_callSi (ctX10_isIn l Ω ((σ16 61 0 (ix x2)).toInt64) r17.toInt64 r19.toInt64 _ _ (hit_mono (hit_bd h) (fun r21 σ22 h => ?_))) okX10_isIn mw_1315 rfl rfl (Nat.le_of_ble_eq_true rfl) rfl rfl ⟨by decide, by decide⟩ ⟨Nat.zero_le _, Nat.zero_le _⟩ dX10_readHeap_138
        refine R_if_ne (tgt := 159) dX10_readHeap_141 (by decide) (fun hc => ?_) (fun hc => ?_)
        · have h := hit_f h hc
          refine R_ldcS (tx := "esoa") (q := oX Ω (10 + 0)) (fun _ h => h.2.2.1) dX10_readHeap_159 ?_
          refine R_aload_n (i := 0) dX10_readHeap_161 rfl rfl ?_
          refine R_callVi (ctX10_look l Ω hL0 _ _ (hit_mono (hit_bd h) (fun r23 σ24 h => ?_))) okX10_look mw_1322 hL0 (cE_10 Ω 0 _) rfl rfl (Nat.le_of_ble_eq_true rfl) rfl rfl ⟨by decide, by decide⟩ ⟨Nat.zero_le _, Nat.zero_le _⟩ dX10_readHeap_162
          refine R_callSi (ctX10_spotOf l Ω 0 r23 (by decide : 0 < 2) _ _ (hit_mono (hit_bd h) (fun r25 σ26 h => ?_))) okX10_spotOf mw_1335 rfl rfl (Nat.le_of_ble_eq_true rfl) rfl rfl ⟨by decide, by decide⟩ ⟨Nat.zero_le _, Nat.zero_le _⟩ dX10_readHeap_165
          refine R_istore_n (lv2 := [some (rf Ω 10 0), some (.int y12), some (.int r25)]) dX10_readHeap_168 rfl (by decide) rfl rfl ?_
          refine R_goto (tgt := 67) dX10_readHeap_169 (by decide) ?_
          exact hC y12 r25 σ26 h
        · have h := hit_t h hc
          refine R_drop (lv2 := [some (rf Ω 10 0), none, some (.int x2)]) 1 rfl ?_
          refine R_drop (lv2 := [some (rf Ω 10 0), none, none]) 2 rfl ?_
          exact hE2 () σ22 h
      · have h := hit_f h hc
        refine R_drop (lv2 := [none, some (.int y12), some (.int x2)]) 0 rfl ?_
        refine R_drop (lv2 := [none, none, some (.int x2)]) 1 rfl ?_
        refine R_drop (lv2 := [none, none, none]) 2 rfl ?_
        exact hE1 () σ16 h
    · have h := hit_t h hc
      refine R_drop (lv2 := [some (rf Ω 10 0), none, some (.int x2)]) 1 rfl ?_
      refine R_drop (lv2 := [some (rf Ω 10 0), none, none]) 2 rfl ?_
      exact hE0 () σ h
set_option maxRecDepth 100000 in
set_option maxHeartbeats 4000000 in
theorem rlX10_readHeap_L67 {l : Launch} {Ω : rO} (hW : WF Ω) (hL0 : oL Ω 10 0) {K : Int32 → rS → Prop} {KE : (Unit ⊕ (Unit ⊕ (Unit ⊕ Unit))) → rS → Prop} (hE0 : ∀ (e : Unit) (σ : rS), KE (.inl e) σ → Run l Ω cX10_readHeap RX10 3 none rmX10_readHeap K 81 [some (rf Ω 10 0), none, none] [] σ) (hE1 : ∀ (e : Unit) (σ : rS), KE (.inr (.inl e)) σ → Run l Ω cX10_readHeap RX10 3 none rmX10_readHeap K 120 [none, none, none] [] σ) (hE2 : ∀ (e : Unit) (σ : rS), KE (.inr (.inr (.inl e))) σ → Run l Ω cX10_readHeap RX10 3 none rmX10_readHeap K 144 [some (rf Ω 10 0), none, none] [] σ) (hE3 : ∀ (e : Unit) (σ : rS), KE (.inr (.inr (.inr e))) σ → Run l Ω cX10_readHeap RX10 3 none rmX10_readHeap K 172 [some (rf Ω 10 0), none, none] [] σ) : ∀ (n : Nat) (x1 : Int32) (x2 : Int32) (σ : rS), hit (lp (fun (x : (Int32 × Int32)) σ => fX10_readHeap_L67 x.1 x.2 σ) n (x1, x2) σ) KE → Run l Ω cX10_readHeap RX10 3 none rmX10_readHeap K 67 [some (rf Ω 10 0), some (.int x1), some (.int x2)] [] σ := by
  intro n
  induction n with
  | zero => intro x1 x2 σ h; exact (h : False).elim
  | succ n ih =>
    intro x1 x2 σ h
    exact rsX10_readHeap_L67 hW x1 x2 hL0 σ (fun x1 x2 σ h => ih x1 x2 σ h) (fun e σ h => hE0 e σ h) (fun e σ h => hE1 e σ h) (fun e σ h => hE2 e σ h) (fun e σ h => hE3 e σ h) (hit_lp h)
set_option maxRecDepth 100000 in
set_option maxHeartbeats 4000000 in
theorem ctX10_readHeap (l : Launch) (Ω : rO) (hL0 : oL Ω 10 0) (σ : rS) (K : Int32 → rS → Prop) (h : hit (fX10_readHeap  σ) K) : Ct l Ω yX10_readHeap cX10_readHeap 3 none rmX10_readHeap [rf Ω 10 0] σ K := by
  refine Ct.of (own := RX10) (lv := [some (rf Ω 10 0), none, none]) (by decide) rfl (Nat.le_of_ble_eq_true rfl) rfl (fun hW => ?_)
  unfold fX10_readHeap at h
  refine R_aload_n (i := 0) dX10_readHeap_0 rfl rfl ?_
  refine R_get foX10_13 hL0 (cE_10 Ω 0 _) rfl dX10_readHeap_1 ?_
  refine R_iconst (v := 0) dX10_readHeap_4 rfl ?_
  refine R_bipush (v := 24) dX10_readHeap_5 rfl ?_
  refine R_iast (WF.kid hW 1 hL0 rfl) (cE_61 Ω 0) (vin 0 4 rfl) dX10_readHeap_7 ?_
  refine R_st h (fun σ1 h => ?_)
  refine R_aload_n (i := 0) dX10_readHeap_8 rfl rfl ?_
  refine R_get foX10_13 hL0 (cE_10 Ω 0 _) rfl dX10_readHeap_9 ?_
  refine R_iconst (v := 1) dX10_readHeap_12 rfl ?_
  refine R_bipush (v := 8) dX10_readHeap_13 rfl ?_
  refine R_iast (WF.kid hW 1 hL0 rfl) (cE_61 Ω 0) (vin 1 4 rfl) dX10_readHeap_15 ?_
  refine R_st h (fun σ2 h => ?_)
  refine R_aload_n (i := 0) dX10_readHeap_16 rfl rfl ?_
  refine R_get foX10_13 hL0 (cE_10 Ω 0 _) rfl dX10_readHeap_17 ?_
  refine R_iconst (v := 2) dX10_readHeap_20 rfl ?_
  refine R_bipush (v := 48) dX10_readHeap_21 rfl ?_
  refine R_iast (WF.kid hW 1 hL0 rfl) (cE_61 Ω 0) (vin 2 4 rfl) dX10_readHeap_23 ?_
  refine R_st h (fun σ3 h => ?_)
  refine R_aload_n (i := 0) dX10_readHeap_24 rfl rfl ?_
  refine R_get foX10_13 hL0 (cE_10 Ω 0 _) rfl dX10_readHeap_25 ?_
  refine R_iconst (v := 3) dX10_readHeap_28 rfl ?_
  refine R_iconst (v := 2) dX10_readHeap_29 rfl ?_
  refine R_iast (WF.kid hW 1 hL0 rfl) (cE_61 Ω 0) (vin 3 4 rfl) dX10_readHeap_30 ?_
  refine R_st h (fun σ4 h => ?_)
  refine R_aload_n (i := 0) dX10_readHeap_31 rfl rfl ?_
  refine R_callVi (ctX10_look l Ω hL0 _ _ (hit_mono (hit_bd h) (fun r5 σ6 h => ?_))) okX10_look mw_1322 hL0 (cE_10 Ω 0 _) rfl rfl (Nat.le_of_ble_eq_true rfl) rfl rfl ⟨by decide, by decide⟩ ⟨Nat.zero_le _, Nat.zero_le _⟩ dX10_readHeap_32
  refine R_bipush (v := 104) dX10_readHeap_35 rfl ?_
  refine R_icmp_eq (tgt := 45) dX10_readHeap_37 (by decide) (fun hc => ?_) (fun hc => ?_)
  · have h := hit_t h hc
    refine R_aload_n (i := 0) dX10_readHeap_45 rfl rfl ?_
    refine R_dup dX10_readHeap_46 rfl ?_
    refine R_get foX10_88 hL0 (cE_10 Ω 0 _) rfl dX10_readHeap_47 ?_
    refine R_iconst (v := 1) dX10_readHeap_50 rfl ?_
    refine R_iadd dX10_readHeap_51 ?_
    refine R_put poX10_88 hL0 (cE_10 Ω 0 _) (cP_10_3 Ω 0 _ _) (Nat.le_of_ble_eq_true rfl) dX10_readHeap_52 ?_
    refine R_st h (fun σ7 h => ?_)
    refine R_iconst (v := 0) dX10_readHeap_55 rfl ?_
    refine R_istore_n (lv2 := [some (rf Ω 10 0), some (.int 0), none]) dX10_readHeap_56 rfl (by decide) rfl rfl ?_
    refine R_ldcS (tx := "esoa") (q := oX Ω (10 + 0)) (fun _ h => h.2.2.1) dX10_readHeap_57 ?_
    refine R_aload_n (i := 0) dX10_readHeap_59 rfl rfl ?_
    refine R_callVi (ctX10_look l Ω hL0 _ _ (hit_mono (hit_bd h) (fun r8 σ9 h => ?_))) okX10_look mw_1322 hL0 (cE_10 Ω 0 _) rfl rfl (Nat.le_of_ble_eq_true rfl) rfl rfl ⟨by decide, by decide⟩ ⟨Nat.zero_le _, Nat.zero_le _⟩ dX10_readHeap_60
    refine R_callSi (ctX10_spotOf l Ω 0 r8 (by decide : 0 < 2) _ _ (hit_mono (hit_bd h) (fun r10 σ11 h => ?_))) okX10_spotOf mw_1335 rfl rfl (Nat.le_of_ble_eq_true rfl) rfl rfl ⟨by decide, by decide⟩ ⟨Nat.zero_le _, Nat.zero_le _⟩ dX10_readHeap_63
    refine R_istore_n (lv2 := [some (rf Ω 10 0), some (.int 0), some (.int r10)]) dX10_readHeap_66 rfl (by decide) rfl rfl ?_
    refine rlX10_readHeap_L67 hW hL0 ?_ ?_ ?_ ?_ fu 0 r10 σ11 (hit_bd h)
    · intro e28 σ27 h
      try dsimp only at h
      refine R_aload_n (i := 0) dX10_readHeap_81 rfl rfl ?_
      refine R_callVv (ctX10_fails l Ω hL0 _ _ (hit_mono (hit_bd h) (fun r29 σ30 h => ?_))) okX10_fails mw_1330 hL0 (cE_10 Ω 0 _) rfl rfl (Nat.le_of_ble_eq_true rfl) rfl rfl ⟨by decide, by decide⟩ ⟨Nat.zero_le _, Nat.zero_le _⟩ dX10_readHeap_82
      exact R_vret dX10_readHeap_85 rfl h
    · intro e31 σ27 h
      try dsimp only at h
      exact R_vret dX10_readHeap_120 rfl h
    · intro e32 σ27 h
      try dsimp only at h
      refine R_aload_n (i := 0) dX10_readHeap_144 rfl rfl ?_
      refine R_dup dX10_readHeap_145 rfl ?_
      refine R_get foX10_88 hL0 (cE_10 Ω 0 _) rfl dX10_readHeap_146 ?_
      refine R_iconst (v := 1) dX10_readHeap_149 rfl ?_
      refine R_isub dX10_readHeap_150 ?_
      refine R_put poX10_88 hL0 (cE_10 Ω 0 _) (cP_10_3 Ω 0 _ _) (Nat.le_of_ble_eq_true rfl) dX10_readHeap_151 ?_
      refine R_st h (fun σ33 h => ?_)
      refine R_aload_n (i := 0) dX10_readHeap_154 rfl rfl ?_
      refine R_callVv (ctX10_fails l Ω hL0 _ _ (hit_mono (hit_bd h) (fun r34 σ35 h => ?_))) okX10_fails mw_1330 hL0 (cE_10 Ω 0 _) rfl rfl (Nat.le_of_ble_eq_true rfl) rfl rfl ⟨by decide, by decide⟩ ⟨Nat.zero_le _, Nat.zero_le _⟩ dX10_readHeap_155
      exact R_vret dX10_readHeap_158 rfl h
    · intro e36 σ27 h
      try dsimp only at h
      refine R_aload_n (i := 0) dX10_readHeap_172 rfl rfl ?_
      refine R_callVi (ctX10_look l Ω hL0 _ _ (hit_mono (hit_bd h) (fun r37 σ38 h => ?_))) okX10_look mw_1322 hL0 (cE_10 Ω 0 _) rfl rfl (Nat.le_of_ble_eq_true rfl) rfl rfl ⟨by decide, by decide⟩ ⟨Nat.zero_le _, Nat.zero_le _⟩ dX10_readHeap_173
      refine R_iconst (v := (-1)) dX10_readHeap_176 rfl ?_
      refine R_icmp_eq (tgt := 184) dX10_readHeap_177 (by decide) (fun hc => ?_) (fun hc => ?_)
      · have h := hit_t h hc
        exact R_vret dX10_readHeap_184 rfl h
      · have h := hit_f h hc
        refine R_aload_n (i := 0) dX10_readHeap_180 rfl rfl ?_
        refine R_callVv (ctX10_fails l Ω hL0 _ _ (hit_mono (hit_bd h) (fun r39 σ40 h => ?_))) okX10_fails mw_1330 hL0 (cE_10 Ω 0 _) rfl rfl (Nat.le_of_ble_eq_true rfl) rfl rfl ⟨by decide, by decide⟩ ⟨Nat.zero_le _, Nat.zero_le _⟩ dX10_readHeap_181
        exact R_vret dX10_readHeap_184 rfl h
  · have h := hit_f h hc
    refine R_aload_n (i := 0) dX10_readHeap_40 rfl rfl ?_
    refine R_callVv (ctX10_fails l Ω hL0 _ _ (hit_mono (hit_bd h) (fun r41 σ42 h => ?_))) okX10_fails mw_1330 hL0 (cE_10 Ω 0 _) rfl rfl (Nat.le_of_ble_eq_true rfl) rfl rfl ⟨by decide, by decide⟩ ⟨Nat.zero_le _, Nat.zero_le _⟩ dX10_readHeap_41
    exact R_vret dX10_readHeap_44 rfl h
set_option maxRecDepth 100000 in
set_option maxHeartbeats 4000000 in
theorem ctX10_numbersOf (l : Launch) (Ω : rO) (x0 : Int32) (σ : rS) (K : Int32 → rS → Prop) (h : hit (fX10_numbersOf x0 σ) K) : Ct l Ω yX10_numbersOf cX10_numbersOf 1 (some .int) rmX10_numbersOf [.int x0] σ K := by
  refine Ct.of (own := RX10) (lv := [some (.int x0)]) (by decide) rfl (Nat.le_of_ble_eq_true rfl) rfl (fun hW => ?_)
  unfold fX10_numbersOf at h
  refine R_iload_n (i := 0) dX10_numbersOf_0 rfl rfl ?_
  by_cases hs0 : x0 = 0
  · have h := hit_t h hs0
    refine R_tableIn (tgt := 40) dX10_numbersOf_1 (by rw [hs0]; decide) (by rw [hs0]; decide) (by rw [hs0]; rfl) (by decide) ?_
    refine R_iconst (v := 4) dX10_numbersOf_40 rfl ?_
    exact R_iret dX10_numbersOf_41 rfl h
  · have h := hit_f h hs0
    by_cases hs1 : x0 = 1
    · have h := hit_t h hs1
      refine R_tableIn (tgt := 42) dX10_numbersOf_1 (by rw [hs1]; decide) (by rw [hs1]; decide) (by rw [hs1]; rfl) (by decide) ?_
      refine R_iconst (v := 3) dX10_numbersOf_42 rfl ?_
      exact R_iret dX10_numbersOf_43 rfl h
    · have h := hit_f h hs1
      by_cases hs2 : x0 = 2
      · have h := hit_t h hs2
        refine R_tableIn (tgt := 42) dX10_numbersOf_1 (by rw [hs2]; decide) (by rw [hs2]; decide) (by rw [hs2]; rfl) (by decide) ?_
        refine R_iconst (v := 3) dX10_numbersOf_42 rfl ?_
        exact R_iret dX10_numbersOf_43 rfl h
      · have h := hit_f h hs2
        by_cases hs4 : x0 = 4
        · have h := hit_t h hs4
          refine R_tableIn (tgt := 44) dX10_numbersOf_1 (by rw [hs4]; decide) (by rw [hs4]; decide) (by rw [hs4]; rfl) (by decide) ?_
          refine R_iconst (v := 0) dX10_numbersOf_44 rfl ?_
          exact R_iret dX10_numbersOf_45 rfl h
        · have h := hit_f h hs4
          by_cases hs5 : x0 = 5
          · have h := hit_t h hs5
            refine R_tableIn (tgt := 44) dX10_numbersOf_1 (by rw [hs5]; decide) (by rw [hs5]; decide) (by rw [hs5]; rfl) (by decide) ?_
            refine R_iconst (v := 0) dX10_numbersOf_44 rfl ?_
            exact R_iret dX10_numbersOf_45 rfl h
          · have h := hit_f h hs5
            refine R_sw (tgt := 46) (lo := 0) (hi := 5) dX10_numbersOf_1 (fun z1 z2 => ?_) (by decide) ?_
            · have e : x0.toInt = 0 ∨ x0.toInt = 1 ∨ x0.toInt = 2 ∨ x0.toInt = 3 ∨ x0.toInt = 4 ∨ x0.toInt = 5 := by omega
              rcases e with e | e | e | e | e | e
              · exact absurd (Int32.toInt_inj.mp (e.trans (by decide : (0 : Int) = (0 : Int32).toInt))) hs0
              · exact absurd (Int32.toInt_inj.mp (e.trans (by decide : (1 : Int) = (1 : Int32).toInt))) hs1
              · exact absurd (Int32.toInt_inj.mp (e.trans (by decide : (2 : Int) = (2 : Int32).toInt))) hs2
              · rw [e]; rfl
              · exact absurd (Int32.toInt_inj.mp (e.trans (by decide : (4 : Int) = (4 : Int32).toInt))) hs4
              · exact absurd (Int32.toInt_inj.mp (e.trans (by decide : (5 : Int) = (5 : Int32).toInt))) hs5
            refine R_iconst (v := 1) dX10_numbersOf_46 rfl ?_
            exact R_iret dX10_numbersOf_47 rfl h
set_option maxRecDepth 100000 in
set_option maxHeartbeats 4000000 in
theorem rnX10_readStep_j134L47 {l : Launch} {Ω : rO} (hW : WF Ω) (x2 : Int32) (x3 : Int32) (x4 : Int32) (hL0 : oL Ω 10 0) (σ : rS) {K : Int32 → rS → Prop} {K0 : (Int32 ⊕ (Unit ⊕ Unit)) → rS → Prop} (hC : ∀ (x4 : Int32) (σ : rS), K0 (.inl x4) σ → Run l Ω cX10_readStep RX10 5 none rmX10_readStep K 47 [some (rf Ω 10 0), none, some (.int x2), some (.int x3), some (.int x4)] [] σ) (hE0 : ∀ (e : Unit) (σ : rS), K0 (.inr (.inl e)) σ → Run l Ω cX10_readStep RX10 5 none rmX10_readStep K 99 [some (rf Ω 10 0), none, none, none, none] [] σ) (hE1 : ∀ (e : Unit) (σ : rS), K0 (.inr (.inr e)) σ → Run l Ω cX10_readStep RX10 5 none rmX10_readStep K 140 [none, none, none, none, none] [] σ) (h : hit (fX10_readStep_j134L47 x2 x3 x4 σ) K0) : Run l Ω cX10_readStep RX10 5 none rmX10_readStep K 134 [some (rf Ω 10 0), none, some (.int x2), some (.int x3), some (.int x4)] [] σ := by
  unfold fX10_readStep_j134L47 at h
  refine R_iinc (v := x4 + 1) (lv2 := [some (rf Ω 10 0), none, some (.int x2), some (.int x3), some (.int (x4 + 1))]) dX10_readStep_134 rfl rfl (by decide) rfl rfl ?_
  refine R_goto (tgt := 47) dX10_readStep_137 (by decide) ?_
  exact hC (x4 + 1) σ h
set_option maxRecDepth 100000 in
set_option maxHeartbeats 4000000 in
theorem rnX10_readStep_j119L47 {l : Launch} {Ω : rO} (hW : WF Ω) (x2 : Int32) (x3 : Int32) (x4 : Int32) (hL0 : oL Ω 10 0) (σ : rS) {K : Int32 → rS → Prop} {K0 : (Int32 ⊕ (Unit ⊕ Unit)) → rS → Prop} (hC : ∀ (x4 : Int32) (σ : rS), K0 (.inl x4) σ → Run l Ω cX10_readStep RX10 5 none rmX10_readStep K 47 [some (rf Ω 10 0), none, some (.int x2), some (.int x3), some (.int x4)] [] σ) (hE0 : ∀ (e : Unit) (σ : rS), K0 (.inr (.inl e)) σ → Run l Ω cX10_readStep RX10 5 none rmX10_readStep K 99 [some (rf Ω 10 0), none, none, none, none] [] σ) (hE1 : ∀ (e : Unit) (σ : rS), K0 (.inr (.inr e)) σ → Run l Ω cX10_readStep RX10 5 none rmX10_readStep K 140 [none, none, none, none, none] [] σ) (h : hit (fX10_readStep_j119L47 x2 x3 x4 σ) K0) : Run l Ω cX10_readStep RX10 5 none rmX10_readStep K 119 [some (rf Ω 10 0), none, some (.int x2), some (.int x3), some (.int x4)] [] σ := by
  unfold fX10_readStep_j119L47 at h
  refine R_aload_n (i := 0) dX10_readStep_119 rfl rfl ?_
  refine R_get foX10_23 hL0 (cE_10 Ω 0 _) rfl dX10_readStep_120 ?_
  refine R_iload_n (i := 2) dX10_readStep_123 rfl rfl ?_
  refine R_iconst (v := 1) dX10_readStep_124 rfl ?_
  refine R_iadd dX10_readStep_125 ?_
  refine R_iload (i := 4) dX10_readStep_126 rfl ?_
  refine R_iadd dX10_readStep_128 ?_
  refine R_aload_n (i := 0) dX10_readStep_129 rfl rfl ?_
  refine R_callVi (ctX10_number l Ω hL0 _ _ (hit_mono (hit_bd h) (fun r11 σ12 h => ?_))) okX10_number mw_1359 hL0 (cE_10 Ω 0 _) rfl rfl (Nat.le_of_ble_eq_true rfl) rfl rfl ⟨by decide, by decide⟩ ⟨Nat.zero_le _, Nat.zero_le _⟩ dX10_readStep_130
  obtain ⟨hb, h⟩ := hit_bnd h
  refine R_iast (WF.kid hW 4 hL0 rfl) (cE_64 Ω 0) hb dX10_readStep_133 ?_
  refine R_st h (fun σ13 h => ?_)
  exact rnX10_readStep_j134L47 hW x2 x3 x4 hL0 σ13 hC hE0 hE1 h
set_option maxRecDepth 100000 in
set_option maxHeartbeats 4000000 in
theorem rnX10_readStep_j104L47 {l : Launch} {Ω : rO} (hW : WF Ω) (x2 : Int32) (x3 : Int32) (x4 : Int32) (hL0 : oL Ω 10 0) (σ : rS) {K : Int32 → rS → Prop} {K0 : (Int32 ⊕ (Unit ⊕ Unit)) → rS → Prop} (hC : ∀ (x4 : Int32) (σ : rS), K0 (.inl x4) σ → Run l Ω cX10_readStep RX10 5 none rmX10_readStep K 47 [some (rf Ω 10 0), none, some (.int x2), some (.int x3), some (.int x4)] [] σ) (hE0 : ∀ (e : Unit) (σ : rS), K0 (.inr (.inl e)) σ → Run l Ω cX10_readStep RX10 5 none rmX10_readStep K 99 [some (rf Ω 10 0), none, none, none, none] [] σ) (hE1 : ∀ (e : Unit) (σ : rS), K0 (.inr (.inr e)) σ → Run l Ω cX10_readStep RX10 5 none rmX10_readStep K 140 [none, none, none, none, none] [] σ) (h : hit (fX10_readStep_j104L47 x2 x3 x4 σ) K0) : Run l Ω cX10_readStep RX10 5 none rmX10_readStep K 104 [some (rf Ω 10 0), none, some (.int x2), some (.int x3), some (.int x4)] [] σ := by
  unfold fX10_readStep_j104L47 at h
  refine R_iload (i := 4) dX10_readStep_104 rfl ?_
  refine R_if_le (tgt := 119) dX10_readStep_106 (by decide) (fun hc => ?_) (fun hc => ?_)
  · have h := hit_f h hc
    exact rnX10_readStep_j119L47 hW x2 x3 x4 hL0 σ hC hE0 hE1 h
  · have h := hit_t h hc
    refine R_aload_n (i := 0) dX10_readStep_109 rfl rfl ?_
    refine R_dup dX10_readStep_110 rfl ?_
    refine R_get foX10_88 hL0 (cE_10 Ω 0 _) rfl dX10_readStep_111 ?_
    refine R_iconst (v := 1) dX10_readStep_114 rfl ?_
    refine R_iadd dX10_readStep_115 ?_
    refine R_put poX10_88 hL0 (cE_10 Ω 0 _) (cP_10_3 Ω 0 _ _) (Nat.le_of_ble_eq_true rfl) dX10_readStep_116 ?_
    refine R_st h (fun σ14 h => ?_)
    exact rnX10_readStep_j119L47 hW x2 x3 x4 hL0 σ14 hC hE0 hE1 h
set_option maxRecDepth 100000 in
set_option maxHeartbeats 4000000 in
theorem rsX10_readStep_L47 {l : Launch} {Ω : rO} (hW : WF Ω) (x2 : Int32) (x3 : Int32) (x4 : Int32) (hL0 : oL Ω 10 0) (σ : rS) {K : Int32 → rS → Prop} {K0 : (Int32 ⊕ (Unit ⊕ Unit)) → rS → Prop} (hC : ∀ (x4 : Int32) (σ : rS), K0 (.inl x4) σ → Run l Ω cX10_readStep RX10 5 none rmX10_readStep K 47 [some (rf Ω 10 0), none, some (.int x2), some (.int x3), some (.int x4)] [] σ) (hE0 : ∀ (e : Unit) (σ : rS), K0 (.inr (.inl e)) σ → Run l Ω cX10_readStep RX10 5 none rmX10_readStep K 99 [some (rf Ω 10 0), none, none, none, none] [] σ) (hE1 : ∀ (e : Unit) (σ : rS), K0 (.inr (.inr e)) σ → Run l Ω cX10_readStep RX10 5 none rmX10_readStep K 140 [none, none, none, none, none] [] σ) (h : hit (fX10_readStep_L47 x2 x3 x4 σ) K0) : Run l Ω cX10_readStep RX10 5 none rmX10_readStep K 47 [some (rf Ω 10 0), none, some (.int x2), some (.int x3), some (.int x4)] [] σ := by
  unfold fX10_readStep_L47 at h
  refine R_iload (i := 4) dX10_readStep_47 rfl ?_
  refine R_iconst (v := 4) dX10_readStep_49 rfl ?_
  refine R_icmp_ge (tgt := 140) dX10_readStep_50 (by decide) (fun hc => ?_) (fun hc => ?_)
  · have h := hit_f h hc
    refine R_drop (lv2 := [none, none, some (.int x2), some (.int x3), some (.int x4)]) 0 rfl ?_
    refine R_drop (lv2 := [none, none, none, some (.int x3), some (.int x4)]) 2 rfl ?_
    refine R_drop (lv2 := [none, none, none, none, some (.int x4)]) 3 rfl ?_
    refine R_drop (lv2 := [none, none, none, none, none]) 4 rfl ?_
    exact hE1 () σ h
  · have h := hit_t h hc
    refine R_aload_n (i := 0) dX10_readStep_53 rfl rfl ?_
    refine R_get foX10_23 hL0 (cE_10 Ω 0 _) rfl dX10_readStep_54 ?_
    refine R_iload_n (i := 2) dX10_readStep_57 rfl rfl ?_
    refine R_iconst (v := 1) dX10_readStep_58 rfl ?_
    refine R_iadd dX10_readStep_59 ?_
    refine R_iload (i := 4) dX10_readStep_60 rfl ?_
    refine R_iadd dX10_readStep_62 ?_
    refine R_iconst (v := (-1)) dX10_readStep_63 rfl ?_
    obtain ⟨hb, h⟩ := hit_bnd h
    refine R_iast (WF.kid hW 4 hL0 rfl) (cE_64 Ω 0) hb dX10_readStep_64 ?_
    refine R_st h (fun σ8 h => ?_)
    refine R_iload (i := 4) dX10_readStep_65 rfl ?_
    refine R_iload_n (i := 3) dX10_readStep_67 rfl rfl ?_
    refine R_callSi (ctX10_numbersOf l Ω x3 _ _ (hit_mono (hit_bd h) (fun r9 σ10 h => ?_))) okX10_numbersOf mw_1386 rfl rfl (Nat.le_of_ble_eq_true rfl) rfl rfl ⟨by decide, by decide⟩ ⟨Nat.zero_le _, Nat.zero_le _⟩ dX10_readStep_68
    refine R_icmp_ge (tgt := 134) dX10_readStep_71 (by decide) (fun hc => ?_) (fun hc => ?_)
    · have h := hit_f h hc
      exact rnX10_readStep_j134L47 hW x2 x3 x4 hL0 σ10 hC hE0 hE1 h
    · have h := hit_t h hc
      refine R_aload_n (i := 0) dX10_readStep_74 rfl rfl ?_
      refine R_get foX10_95 hL0 (cE_10 Ω 0 _) rfl dX10_readStep_75 ?_
      refine R_iconst (v := (-1)) dX10_readStep_78 rfl ?_
      refine R_icmp_eq (tgt := 85) dX10_readStep_79 (by decide) (fun hc => ?_) (fun hc => ?_)
      · have h := hit_t h hc
        refine R_iload (i := 4) dX10_readStep_85 rfl ?_
        refine R_if_le (tgt := 104) dX10_readStep_87 (by decide) (fun hc => ?_) (fun hc => ?_)
        · have h := hit_f h hc
          exact rnX10_readStep_j104L47 hW x2 x3 x4 hL0 σ10 hC hE0 hE1 h
        · have h := hit_t h hc
          refine R_aload_n (i := 0) dX10_readStep_90 rfl rfl ?_
          refine R_callVi (ctX10_look l Ω hL0 _ _ (hit_mono (hit_bd h) (fun r15 σ16 h => ?_))) okX10_look mw_1322 hL0 (cE_10 Ω 0 _) rfl rfl (Nat.le_of_ble_eq_true rfl) rfl rfl ⟨by decide, by decide⟩ ⟨Nat.zero_le _, Nat.zero_le _⟩ dX10_readStep_91
          refine R_bipush (v := 44) dX10_readStep_94 rfl ?_
          refine R_icmp_eq (tgt := 104) dX10_readStep_96 (by decide) (fun hc => ?_) (fun hc => ?_)
          · have h := hit_t h hc
            exact rnX10_readStep_j104L47 hW x2 x3 x4 hL0 σ16 hC hE0 hE1 h
          · have h := hit_f h hc
            refine R_drop (lv2 := [some (rf Ω 10 0), none, none, some (.int x3), some (.int x4)]) 2 rfl ?_
            refine R_drop (lv2 := [some (rf Ω 10 0), none, none, none, some (.int x4)]) 3 rfl ?_
            refine R_drop (lv2 := [some (rf Ω 10 0), none, none, none, none]) 4 rfl ?_
            exact hE0 () σ16 h
      · have h := hit_f h hc
        refine R_goto (tgt := 134) dX10_readStep_82 (by decide) ?_
        exact rnX10_readStep_j134L47 hW x2 x3 x4 hL0 σ10 hC hE0 hE1 h
set_option maxRecDepth 100000 in
set_option maxHeartbeats 4000000 in
theorem rlX10_readStep_L47 {l : Launch} {Ω : rO} (hW : WF Ω) (x2 : Int32) (x3 : Int32) (hL0 : oL Ω 10 0) {K : Int32 → rS → Prop} {KE : (Unit ⊕ Unit) → rS → Prop} (hE0 : ∀ (e : Unit) (σ : rS), KE (.inl e) σ → Run l Ω cX10_readStep RX10 5 none rmX10_readStep K 99 [some (rf Ω 10 0), none, none, none, none] [] σ) (hE1 : ∀ (e : Unit) (σ : rS), KE (.inr e) σ → Run l Ω cX10_readStep RX10 5 none rmX10_readStep K 140 [none, none, none, none, none] [] σ) : ∀ (n : Nat) (x4 : Int32) (σ : rS), hit (lp (fun (x : Int32) σ => fX10_readStep_L47 x2 x3 x σ) n x4 σ) KE → Run l Ω cX10_readStep RX10 5 none rmX10_readStep K 47 [some (rf Ω 10 0), none, some (.int x2), some (.int x3), some (.int x4)] [] σ := by
  intro n
  induction n with
  | zero => intro x4 σ h; exact (h : False).elim
  | succ n ih =>
    intro x4 σ h
    exact rsX10_readStep_L47 hW x2 x3 x4 hL0 σ (fun x4 σ h => ih x4 σ h) (fun e σ h => hE0 e σ h) (fun e σ h => hE1 e σ h) (hit_lp h)
set_option maxRecDepth 100000 in
set_option maxHeartbeats 4000000 in
theorem ctX10_readStep (l : Launch) (Ω : rO) (x1 : Int32) (hL0 : oL Ω 10 0) (σ : rS) (K : Int32 → rS → Prop) (h : hit (fX10_readStep x1 σ) K) : Ct l Ω yX10_readStep cX10_readStep 5 none rmX10_readStep [rf Ω 10 0, .int x1] σ K := by
  refine Ct.of (own := RX10) (lv := [some (rf Ω 10 0), some (.int x1), none, none, none]) (by decide) rfl (Nat.le_of_ble_eq_true rfl) rfl (fun hW => ?_)
  unfold fX10_readStep at h
  refine R_iconst (v := 5) dX10_readStep_0 rfl ?_
  refine R_bipush (v := 64) dX10_readStep_1 rfl ?_
  refine R_iload_n (i := 1) dX10_readStep_3 rfl rfl ?_
  refine R_iadd dX10_readStep_4 ?_
  refine R_imul dX10_readStep_5 ?_
  refine R_topi h (fun y1 h => ?_)
  refine R_istore_n (lv2 := [some (rf Ω 10 0), some (.int x1), some (.int y1), none, none]) dX10_readStep_6 rfl (by decide) rfl rfl ?_
  refine R_ldcS (tx := "nwlxmje") (q := oX Ω (10 + 1)) (fun _ h => h.2.2.2) dX10_readStep_7 ?_
  refine R_aload_n (i := 0) dX10_readStep_9 rfl rfl ?_
  refine R_callVi (ctX10_look l Ω hL0 _ _ (hit_mono (hit_bd h) (fun r2 σ3 h => ?_))) okX10_look mw_1322 hL0 (cE_10 Ω 0 _) rfl rfl (Nat.le_of_ble_eq_true rfl) rfl rfl ⟨by decide, by decide⟩ ⟨Nat.zero_le _, Nat.zero_le _⟩ dX10_readStep_10
  refine R_callSi (ctX10_spotOf l Ω 1 r2 (by decide : 1 < 2) _ _ (hit_mono (hit_bd h) (fun r4 σ5 h => ?_))) okX10_spotOf mw_1335 rfl rfl (Nat.le_of_ble_eq_true rfl) rfl rfl ⟨by decide, by decide⟩ ⟨Nat.zero_le _, Nat.zero_le _⟩ dX10_readStep_13
  refine R_istore_n (lv2 := [some (rf Ω 10 0), some (.int x1), some (.int y1), some (.int r4), none]) dX10_readStep_16 rfl (by decide) rfl rfl ?_
  refine R_iload_n (i := 3) dX10_readStep_17 rfl rfl ?_
  refine R_iconst (v := (-1)) dX10_readStep_18 rfl ?_
  refine R_icmp_ne (tgt := 27) dX10_readStep_19 (by decide) (fun hc => ?_) (fun hc => ?_)
  · have h := hit_f h hc
    refine R_aload_n (i := 0) dX10_readStep_27 rfl rfl ?_
    refine R_dup dX10_readStep_28 rfl ?_
    refine R_get foX10_88 hL0 (cE_10 Ω 0 _) rfl dX10_readStep_29 ?_
    refine R_iconst (v := 1) dX10_readStep_32 rfl ?_
    refine R_iadd dX10_readStep_33 ?_
    refine R_put poX10_88 hL0 (cE_10 Ω 0 _) (cP_10_3 Ω 0 _ _) (Nat.le_of_ble_eq_true rfl) dX10_readStep_34 ?_
    refine R_st h (fun σ6 h => ?_)
    refine R_aload_n (i := 0) dX10_readStep_37 rfl rfl ?_
    refine R_get foX10_23 hL0 (cE_10 Ω 0 _) rfl dX10_readStep_38 ?_
    refine R_iload_n (i := 2) dX10_readStep_41 rfl rfl ?_
    refine R_iload_n (i := 3) dX10_readStep_42 rfl rfl ?_
    obtain ⟨hb, h⟩ := hit_bnd h
    refine R_iast (WF.kid hW 4 hL0 rfl) (cE_64 Ω 0) hb dX10_readStep_43 ?_
    refine R_st h (fun σ7 h => ?_)
    refine R_iconst (v := 0) dX10_readStep_44 rfl ?_
    refine R_istore (lv2 := [some (rf Ω 10 0), some (.int x1), some (.int y1), some (.int r4), some (.int 0)]) dX10_readStep_45 (by decide) rfl rfl ?_
    refine R_drop (lv2 := [some (rf Ω 10 0), none, some (.int y1), some (.int r4), some (.int 0)]) 1 rfl ?_
    refine rlX10_readStep_L47 hW y1 r4 hL0 ?_ ?_ fu 0 σ7 (hit_bd h)
    · intro e18 σ17 h
      try dsimp only at h
      refine R_aload_n (i := 0) dX10_readStep_99 rfl rfl ?_
      refine R_callVv (ctX10_fails l Ω hL0 _ _ (hit_mono (hit_bd h) (fun r19 σ20 h => ?_))) okX10_fails mw_1330 hL0 (cE_10 Ω 0 _) rfl rfl (Nat.le_of_ble_eq_true rfl) rfl rfl ⟨by decide, by decide⟩ ⟨Nat.zero_le _, Nat.zero_le _⟩ dX10_readStep_100
      exact R_vret dX10_readStep_103 rfl h
    · intro e21 σ17 h
      try dsimp only at h
      exact R_vret dX10_readStep_140 rfl h
  · have h := hit_t h hc
    refine R_aload_n (i := 0) dX10_readStep_22 rfl rfl ?_
    refine R_callVv (ctX10_fails l Ω hL0 _ _ (hit_mono (hit_bd h) (fun r22 σ23 h => ?_))) okX10_fails mw_1330 hL0 (cE_10 Ω 0 _) rfl rfl (Nat.le_of_ble_eq_true rfl) rfl rfl ⟨by decide, by decide⟩ ⟨Nat.zero_le _, Nat.zero_le _⟩ dX10_readStep_23
    exact R_vret dX10_readStep_26 rfl h
