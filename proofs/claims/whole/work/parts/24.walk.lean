set_option maxRecDepth 100000 in
set_option maxHeartbeats 4000000 in
theorem ctX7_clear (l : Launch) (Ω : rO) (k0 : Nat) (hL0 : oL Ω 7 k0) (σ : rS) (K : Int32 → rS → Prop) (h : hit (fX7_clear k0 σ) K) : Ct l Ω yX7_clear cX7_clear 1 none rmX7_clear [rf Ω 7 k0] σ K := by
  refine Ct.of (own := RX7) (lv := [some (rf Ω 7 k0)]) (by decide) rfl (Nat.le_of_ble_eq_true rfl) rfl (fun hW => ?_)
  unfold fX7_clear at h
  refine R_aload_n (i := 0) dX7_clear_0 rfl rfl ?_
  refine R_iconst (v := 0) dX7_clear_1 rfl ?_
  refine R_put poX7_75 hL0 (cE_7 Ω k0 _) (cP_7_0 Ω k0 _ _) (Nat.le_of_ble_eq_true rfl) dX7_clear_2 ?_
  refine R_st h (fun σ1 h => ?_)
  refine R_aload_n (i := 0) dX7_clear_5 rfl rfl ?_
  refine R_iconst (v := 0) dX7_clear_6 rfl ?_
  refine R_put poX7_79 hL0 (cE_7 Ω k0 _) (cP_7_1 Ω k0 _ _) (Nat.le_of_ble_eq_true rfl) dX7_clear_7 ?_
  refine R_st h (fun σ2 h => ?_)
  refine R_aload_n (i := 0) dX7_clear_10 rfl rfl ?_
  refine R_get foX7_36 hL0 (cE_7 Ω k0 _) rfl dX7_clear_11 ?_
  refine R_iconst (v := (-1)) dX7_clear_14 rfl ?_
  refine R_callSv (ctJ7_fill_53178 l Ω 53 k0 8 (-1) (WF.kid hW 8 hL0 rfl) (cE_53 Ω k0) _ _ (hit_mono (hit_bd h) (fun r3 σ4 h => ?_))) okJ7_fill_53178 mw_105 rfl rfl (Nat.le_of_ble_eq_true rfl) rfl rfl ⟨by decide, by decide⟩ ⟨Nat.zero_le _, Nat.zero_le _⟩ dX7_clear_15
  refine R_aload_n (i := 0) dX7_clear_18 rfl rfl ?_
  refine R_get foX7_39 hL0 (cE_7 Ω k0 _) rfl dX7_clear_19 ?_
  refine R_iconst (v := 0) dX7_clear_22 rfl ?_
  refine R_callSv (ctJ7_fill_53178 l Ω 54 k0 3 0 (WF.kid hW 9 hL0 rfl) (cE_54 Ω k0) _ _ (hit_mono (hit_bd h) (fun r5 σ6 h => ?_))) okJ7_fill_53178 mw_105 rfl rfl (Nat.le_of_ble_eq_true rfl) rfl rfl ⟨by decide, by decide⟩ ⟨Nat.zero_le _, Nat.zero_le _⟩ dX7_clear_23
  refine R_aload_n (i := 0) dX7_clear_26 rfl rfl ?_
  refine R_get foX7_42 hL0 (cE_7 Ω k0 _) rfl dX7_clear_27 ?_
  refine R_iconst (v := 0) dX7_clear_30 rfl ?_
  refine R_callSv (ctJ7_fill_53178 l Ω 55 k0 8 0 (WF.kid hW 10 hL0 rfl) (cE_55 Ω k0) _ _ (hit_mono (hit_bd h) (fun r7 σ8 h => ?_))) okJ7_fill_53178 mw_105 rfl rfl (Nat.le_of_ble_eq_true rfl) rfl rfl ⟨by decide, by decide⟩ ⟨Nat.zero_le _, Nat.zero_le _⟩ dX7_clear_31
  refine R_aload_n (i := 0) dX7_clear_34 rfl rfl ?_
  refine R_get foX7_50 hL0 (cE_7 Ω k0 _) rfl dX7_clear_35 ?_
  refine R_iconst (v := 0) dX7_clear_38 rfl ?_
  refine R_put poX7_82 (WF.kid hW 11 hL0 rfl) (cE_4 Ω (6 * k0 + 0) _) (cP_4_1 Ω (6 * k0 + 0) _ _) (Nat.le_of_ble_eq_true rfl) dX7_clear_39 ?_
  refine R_st h (fun σ9 h => ?_)
  refine R_aload_n (i := 0) dX7_clear_42 rfl rfl ?_
  refine R_get foX7_54 hL0 (cE_7 Ω k0 _) rfl dX7_clear_43 ?_
  refine R_iconst (v := 0) dX7_clear_46 rfl ?_
  refine R_put poX7_82 (WF.kid hW 12 hL0 rfl) (cE_4 Ω (6 * k0 + 1) _) (cP_4_1 Ω (6 * k0 + 1) _ _) (Nat.le_of_ble_eq_true rfl) dX7_clear_47 ?_
  refine R_st h (fun σ10 h => ?_)
  refine R_aload_n (i := 0) dX7_clear_50 rfl rfl ?_
  refine R_get foX7_57 hL0 (cE_7 Ω k0 _) rfl dX7_clear_51 ?_
  refine R_iconst (v := 0) dX7_clear_54 rfl ?_
  refine R_put poX7_82 (WF.kid hW 13 hL0 rfl) (cE_4 Ω (6 * k0 + 2) _) (cP_4_1 Ω (6 * k0 + 2) _ _) (Nat.le_of_ble_eq_true rfl) dX7_clear_55 ?_
  refine R_st h (fun σ11 h => ?_)
  refine R_aload_n (i := 0) dX7_clear_58 rfl rfl ?_
  refine R_get foX7_60 hL0 (cE_7 Ω k0 _) rfl dX7_clear_59 ?_
  refine R_iconst (v := 0) dX7_clear_62 rfl ?_
  refine R_put poX7_82 (WF.kid hW 14 hL0 rfl) (cE_4 Ω (6 * k0 + 3) _) (cP_4_1 Ω (6 * k0 + 3) _ _) (Nat.le_of_ble_eq_true rfl) dX7_clear_63 ?_
  refine R_st h (fun σ12 h => ?_)
  refine R_aload_n (i := 0) dX7_clear_66 rfl rfl ?_
  refine R_get foX7_63 hL0 (cE_7 Ω k0 _) rfl dX7_clear_67 ?_
  refine R_iconst (v := 0) dX7_clear_70 rfl ?_
  refine R_put poX7_82 (WF.kid hW 15 hL0 rfl) (cE_4 Ω (6 * k0 + 4) _) (cP_4_1 Ω (6 * k0 + 4) _ _) (Nat.le_of_ble_eq_true rfl) dX7_clear_71 ?_
  refine R_st h (fun σ13 h => ?_)
  refine R_aload_n (i := 0) dX7_clear_74 rfl rfl ?_
  refine R_get foX7_66 hL0 (cE_7 Ω k0 _) rfl dX7_clear_75 ?_
  refine R_iconst (v := 0) dX7_clear_78 rfl ?_
  refine R_put poX7_82 (WF.kid hW 16 hL0 rfl) (cE_4 Ω (6 * k0 + 5) _) (cP_4_1 Ω (6 * k0 + 5) _ _) (Nat.le_of_ble_eq_true rfl) dX7_clear_79 ?_
  refine R_st h (fun σ14 h => ?_)
  exact R_vret dX7_clear_82 rfl h
set_option maxRecDepth 100000 in
set_option maxHeartbeats 4000000 in
theorem rsX7_find_L2 {l : Launch} {Ω : rO} (hW : WF Ω) (k0 : Nat) (x1 : Int32) (x2 : Int32) (hL0 : oL Ω 7 k0) (σ : rS) {K : Int32 → rS → Prop} {K0 : (Int32 ⊕ (Int32 ⊕ Unit)) → rS → Prop} (hC : ∀ (x2 : Int32) (σ : rS), K0 (.inl x2) σ → Run l Ω cX7_find RX7 3 (some .int) rmX7_find K 2 [some (rf Ω 7 k0), some (.int x1), some (.int x2)] [] σ) (hE0 : ∀ (e : Int32) (σ : rS), K0 (.inr (.inl e)) σ → Run l Ω cX7_find RX7 3 (some .int) rmX7_find K 20 [none, none, some (.int e)] [] σ) (hE1 : ∀ (e : Unit) (σ : rS), K0 (.inr (.inr e)) σ → Run l Ω cX7_find RX7 3 (some .int) rmX7_find K 28 [none, none, none] [] σ) (h : hit (fX7_find_L2 k0 x1 x2 σ) K0) : Run l Ω cX7_find RX7 3 (some .int) rmX7_find K 2 [some (rf Ω 7 k0), some (.int x1), some (.int x2)] [] σ := by
  unfold fX7_find_L2 at h
  refine R_iload_n (i := 2) dX7_find_2 rfl rfl ?_
  refine R_aload_n (i := 0) dX7_find_3 rfl rfl ?_
  refine R_get foX7_75 hL0 (cE_7 Ω k0 _) rfl dX7_find_4 ?_
  refine R_icmp_ge (tgt := 28) dX7_find_7 (by decide) (fun hc => ?_) (fun hc => ?_)
  · have h := hit_f h hc
    refine R_drop (lv2 := [none, some (.int x1), some (.int x2)]) 0 rfl ?_
    refine R_drop (lv2 := [none, none, some (.int x2)]) 1 rfl ?_
    refine R_drop (lv2 := [none, none, none]) 2 rfl ?_
    exact hE1 () σ h
  · have h := hit_t h hc
    refine R_aload_n (i := 0) dX7_find_10 rfl rfl ?_
    refine R_get foX7_9 hL0 (cE_7 Ω k0 _) rfl dX7_find_11 ?_
    refine R_iload_n (i := 2) dX7_find_14 rfl rfl ?_
    obtain ⟨hb, h⟩ := hit_bnd h
    refine R_iald (WF.kid hW 0 hL0 rfl) (cE_45 Ω k0 _) hb dX7_find_15 ?_
    refine R_iload_n (i := 1) dX7_find_16 rfl rfl ?_
    refine R_icmp_ne (tgt := 22) dX7_find_17 (by decide) (fun hc => ?_) (fun hc => ?_)
    · have h := hit_f h hc
      refine R_iinc (v := x2 + 1) (lv2 := [some (rf Ω 7 k0), some (.int x1), some (.int (x2 + 1))]) dX7_find_22 rfl rfl (by decide) rfl rfl ?_
      refine R_goto (tgt := 2) dX7_find_25 (by decide) ?_
      exact hC (x2 + 1) σ h
    · have h := hit_t h hc
      refine R_drop (lv2 := [none, some (.int x1), some (.int x2)]) 0 rfl ?_
      refine R_drop (lv2 := [none, none, some (.int x2)]) 1 rfl ?_
      exact hE0 x2 σ h
set_option maxRecDepth 100000 in
set_option maxHeartbeats 4000000 in
theorem rlX7_find_L2 {l : Launch} {Ω : rO} (hW : WF Ω) (k0 : Nat) (x1 : Int32) (hL0 : oL Ω 7 k0) {K : Int32 → rS → Prop} {KE : (Int32 ⊕ Unit) → rS → Prop} (hE0 : ∀ (e : Int32) (σ : rS), KE (.inl e) σ → Run l Ω cX7_find RX7 3 (some .int) rmX7_find K 20 [none, none, some (.int e)] [] σ) (hE1 : ∀ (e : Unit) (σ : rS), KE (.inr e) σ → Run l Ω cX7_find RX7 3 (some .int) rmX7_find K 28 [none, none, none] [] σ) : ∀ (n : Nat) (x2 : Int32) (σ : rS), hit (lp (fun (x : Int32) σ => fX7_find_L2 k0 x1 x σ) n x2 σ) KE → Run l Ω cX7_find RX7 3 (some .int) rmX7_find K 2 [some (rf Ω 7 k0), some (.int x1), some (.int x2)] [] σ := by
  intro n
  induction n with
  | zero => intro x2 σ h; exact (h : False).elim
  | succ n ih =>
    intro x2 σ h
    exact rsX7_find_L2 hW k0 x1 x2 hL0 σ (fun x2 σ h => ih x2 σ h) (fun e σ h => hE0 e σ h) (fun e σ h => hE1 e σ h) (hit_lp h)
set_option maxRecDepth 100000 in
set_option maxHeartbeats 4000000 in
theorem ctX7_find (l : Launch) (Ω : rO) (k0 : Nat) (x1 : Int32) (hL0 : oL Ω 7 k0) (σ : rS) (K : Int32 → rS → Prop) (h : hit (fX7_find k0 x1 σ) K) : Ct l Ω yX7_find cX7_find 3 (some .int) rmX7_find [rf Ω 7 k0, .int x1] σ K := by
  refine Ct.of (own := RX7) (lv := [some (rf Ω 7 k0), some (.int x1), none]) (by decide) rfl (Nat.le_of_ble_eq_true rfl) rfl (fun hW => ?_)
  unfold fX7_find at h
  refine R_iconst (v := 0) dX7_find_0 rfl ?_
  refine R_istore_n (lv2 := [some (rf Ω 7 k0), some (.int x1), some (.int 0)]) dX7_find_1 rfl (by decide) rfl rfl ?_
  refine rlX7_find_L2 hW k0 x1 hL0 ?_ ?_ fu 0 σ (hit_bd h)
  · intro e2 σ1 h
    try dsimp only at h
    refine R_iload_n (i := 2) dX7_find_20 rfl rfl ?_
    exact R_iret dX7_find_21 rfl h
  · intro e3 σ1 h
    try dsimp only at h
    refine R_iconst (v := (-1)) dX7_find_28 rfl ?_
    exact R_iret dX7_find_29 rfl h
set_option maxRecDepth 100000 in
set_option maxHeartbeats 4000000 in
theorem rnX7_findAt_j48L2 {l : Launch} {Ω : rO} (hW : WF Ω) (k0 : Nat) (x1 : Int32) (x2 : Int32) (x3 : Int32) (hL0 : oL Ω 7 k0) (σ : rS) {K : Int32 → rS → Prop} {K0 : (Int32 ⊕ (Int32 ⊕ Unit)) → rS → Prop} (hC : ∀ (x3 : Int32) (σ : rS), K0 (.inl x3) σ → Run l Ω cX7_findAt RX7 4 (some .int) rmX7_findAt K 2 [some (rf Ω 7 k0), some (.int x1), some (.int x2), some (.int x3)] [] σ) (hE0 : ∀ (e : Int32) (σ : rS), K0 (.inr (.inl e)) σ → Run l Ω cX7_findAt RX7 4 (some .int) rmX7_findAt K 46 [none, none, none, some (.int e)] [] σ) (hE1 : ∀ (e : Unit) (σ : rS), K0 (.inr (.inr e)) σ → Run l Ω cX7_findAt RX7 4 (some .int) rmX7_findAt K 54 [none, none, none, none] [] σ) (h : hit (fX7_findAt_j48L2 k0 x1 x2 x3 σ) K0) : Run l Ω cX7_findAt RX7 4 (some .int) rmX7_findAt K 48 [some (rf Ω 7 k0), some (.int x1), some (.int x2), some (.int x3)] [] σ := by
  unfold fX7_findAt_j48L2 at h
  refine R_iinc (v := x3 + 1) (lv2 := [some (rf Ω 7 k0), some (.int x1), some (.int x2), some (.int (x3 + 1))]) dX7_findAt_48 rfl rfl (by decide) rfl rfl ?_
  refine R_goto (tgt := 2) dX7_findAt_51 (by decide) ?_
  exact hC (x3 + 1) σ h
set_option maxRecDepth 100000 in
set_option maxHeartbeats 4000000 in
theorem rsX7_findAt_L2 {l : Launch} {Ω : rO} (hW : WF Ω) (k0 : Nat) (x1 : Int32) (x2 : Int32) (x3 : Int32) (hL0 : oL Ω 7 k0) (σ : rS) {K : Int32 → rS → Prop} {K0 : (Int32 ⊕ (Int32 ⊕ Unit)) → rS → Prop} (hC : ∀ (x3 : Int32) (σ : rS), K0 (.inl x3) σ → Run l Ω cX7_findAt RX7 4 (some .int) rmX7_findAt K 2 [some (rf Ω 7 k0), some (.int x1), some (.int x2), some (.int x3)] [] σ) (hE0 : ∀ (e : Int32) (σ : rS), K0 (.inr (.inl e)) σ → Run l Ω cX7_findAt RX7 4 (some .int) rmX7_findAt K 46 [none, none, none, some (.int e)] [] σ) (hE1 : ∀ (e : Unit) (σ : rS), K0 (.inr (.inr e)) σ → Run l Ω cX7_findAt RX7 4 (some .int) rmX7_findAt K 54 [none, none, none, none] [] σ) (h : hit (fX7_findAt_L2 k0 x1 x2 x3 σ) K0) : Run l Ω cX7_findAt RX7 4 (some .int) rmX7_findAt K 2 [some (rf Ω 7 k0), some (.int x1), some (.int x2), some (.int x3)] [] σ := by
  unfold fX7_findAt_L2 at h
  refine R_iload_n (i := 3) dX7_findAt_2 rfl rfl ?_
  refine R_aload_n (i := 0) dX7_findAt_3 rfl rfl ?_
  refine R_get foX7_75 hL0 (cE_7 Ω k0 _) rfl dX7_findAt_4 ?_
  refine R_icmp_ge (tgt := 54) dX7_findAt_7 (by decide) (fun hc => ?_) (fun hc => ?_)
  · have h := hit_f h hc
    refine R_drop (lv2 := [none, some (.int x1), some (.int x2), some (.int x3)]) 0 rfl ?_
    refine R_drop (lv2 := [none, none, some (.int x2), some (.int x3)]) 1 rfl ?_
    refine R_drop (lv2 := [none, none, none, some (.int x3)]) 2 rfl ?_
    refine R_drop (lv2 := [none, none, none, none]) 3 rfl ?_
    exact hE1 () σ h
  · have h := hit_t h hc
    refine R_aload_n (i := 0) dX7_findAt_10 rfl rfl ?_
    refine R_get foX7_27 hL0 (cE_7 Ω k0 _) rfl dX7_findAt_11 ?_
    refine R_iload_n (i := 3) dX7_findAt_14 rfl rfl ?_
    obtain ⟨hb, h⟩ := hit_bnd h
    refine R_iald (WF.kid hW 5 hL0 rfl) (cE_50 Ω k0 _) hb dX7_findAt_15 ?_
    refine R_iload_n (i := 1) dX7_findAt_16 rfl rfl ?_
    refine R_icmp_ne (tgt := 48) dX7_findAt_17 (by decide) (fun hc => ?_) (fun hc => ?_)
    · have h := hit_f h hc
      exact rnX7_findAt_j48L2 hW k0 x1 x2 x3 hL0 σ hC hE0 hE1 h
    · have h := hit_t h hc
      refine R_aload_n (i := 0) dX7_findAt_20 rfl rfl ?_
      refine R_get foX7_30 hL0 (cE_7 Ω k0 _) rfl dX7_findAt_21 ?_
      refine R_iload_n (i := 3) dX7_findAt_24 rfl rfl ?_
      obtain ⟨hb, h⟩ := hit_bnd h
      refine R_iald (WF.kid hW 6 hL0 rfl) (cE_51 Ω k0 _) hb dX7_findAt_25 ?_
      refine R_iload_n (i := 2) dX7_findAt_26 rfl rfl ?_
      refine R_icmp_gt (tgt := 48) dX7_findAt_27 (by decide) (fun hc => ?_) (fun hc => ?_)
      · have h := hit_t h hc
        exact rnX7_findAt_j48L2 hW k0 x1 x2 x3 hL0 σ hC hE0 hE1 h
      · have h := hit_f h hc
        refine R_iload_n (i := 2) dX7_findAt_30 rfl rfl ?_
        refine R_aload_n (i := 0) dX7_findAt_31 rfl rfl ?_
        refine R_get foX7_30 hL0 (cE_7 Ω k0 _) rfl dX7_findAt_32 ?_
        refine R_iload_n (i := 3) dX7_findAt_35 rfl rfl ?_
        obtain ⟨hb, h⟩ := hit_bnd h
        refine R_iald (WF.kid hW 6 hL0 rfl) (cE_51 Ω k0 _) hb dX7_findAt_36 ?_
        refine R_aload_n (i := 0) dX7_findAt_37 rfl rfl ?_
        refine R_iload_n (i := 3) dX7_findAt_38 rfl rfl ?_
        refine R_callVi (ctX7_cells l Ω k0 x3 hL0 _ _ (hit_mono (hit_bd h) (fun r1 σ2 h => ?_))) okX7_cells mw_583 hL0 (cE_7 Ω k0 _) rfl rfl (Nat.le_of_ble_eq_true rfl) rfl rfl ⟨by decide, by decide⟩ ⟨Nat.zero_le _, Nat.zero_le _⟩ dX7_findAt_39
        refine R_iadd dX7_findAt_42 ?_
        refine R_icmp_ge (tgt := 48) dX7_findAt_43 (by decide) (fun hc => ?_) (fun hc => ?_)
        · have h := hit_f h hc
          exact rnX7_findAt_j48L2 hW k0 x1 x2 x3 hL0 σ2 hC hE0 hE1 h
        · have h := hit_t h hc
          refine R_drop (lv2 := [none, some (.int x1), some (.int x2), some (.int x3)]) 0 rfl ?_
          refine R_drop (lv2 := [none, none, some (.int x2), some (.int x3)]) 1 rfl ?_
          refine R_drop (lv2 := [none, none, none, some (.int x3)]) 2 rfl ?_
          exact hE0 x3 σ2 h
set_option maxRecDepth 100000 in
set_option maxHeartbeats 4000000 in
theorem rlX7_findAt_L2 {l : Launch} {Ω : rO} (hW : WF Ω) (k0 : Nat) (x1 : Int32) (x2 : Int32) (hL0 : oL Ω 7 k0) {K : Int32 → rS → Prop} {KE : (Int32 ⊕ Unit) → rS → Prop} (hE0 : ∀ (e : Int32) (σ : rS), KE (.inl e) σ → Run l Ω cX7_findAt RX7 4 (some .int) rmX7_findAt K 46 [none, none, none, some (.int e)] [] σ) (hE1 : ∀ (e : Unit) (σ : rS), KE (.inr e) σ → Run l Ω cX7_findAt RX7 4 (some .int) rmX7_findAt K 54 [none, none, none, none] [] σ) : ∀ (n : Nat) (x3 : Int32) (σ : rS), hit (lp (fun (x : Int32) σ => fX7_findAt_L2 k0 x1 x2 x σ) n x3 σ) KE → Run l Ω cX7_findAt RX7 4 (some .int) rmX7_findAt K 2 [some (rf Ω 7 k0), some (.int x1), some (.int x2), some (.int x3)] [] σ := by
  intro n
  induction n with
  | zero => intro x3 σ h; exact (h : False).elim
  | succ n ih =>
    intro x3 σ h
    exact rsX7_findAt_L2 hW k0 x1 x2 x3 hL0 σ (fun x3 σ h => ih x3 σ h) (fun e σ h => hE0 e σ h) (fun e σ h => hE1 e σ h) (hit_lp h)
set_option maxRecDepth 100000 in
set_option maxHeartbeats 4000000 in
theorem ctX7_findAt (l : Launch) (Ω : rO) (k0 : Nat) (x1 : Int32) (x2 : Int32) (hL0 : oL Ω 7 k0) (σ : rS) (K : Int32 → rS → Prop) (h : hit (fX7_findAt k0 x1 x2 σ) K) : Ct l Ω yX7_findAt cX7_findAt 4 (some .int) rmX7_findAt [rf Ω 7 k0, .int x1, .int x2] σ K := by
  refine Ct.of (own := RX7) (lv := [some (rf Ω 7 k0), some (.int x1), some (.int x2), none]) (by decide) rfl (Nat.le_of_ble_eq_true rfl) rfl (fun hW => ?_)
  unfold fX7_findAt at h
  refine R_iconst (v := 0) dX7_findAt_0 rfl ?_
  refine R_istore_n (lv2 := [some (rf Ω 7 k0), some (.int x1), some (.int x2), some (.int 0)]) dX7_findAt_1 rfl (by decide) rfl rfl ?_
  refine rlX7_findAt_L2 hW k0 x1 x2 hL0 ?_ ?_ fu 0 σ (hit_bd h)
  · intro e4 σ3 h
    try dsimp only at h
    refine R_iload_n (i := 3) dX7_findAt_46 rfl rfl ?_
    exact R_iret dX7_findAt_47 rfl h
  · intro e5 σ3 h
    try dsimp only at h
    refine R_iconst (v := (-1)) dX7_findAt_54 rfl ?_
    exact R_iret dX7_findAt_55 rfl h
set_option maxRecDepth 100000 in
set_option maxHeartbeats 4000000 in
theorem rsX7_greatestAge_L4 {l : Launch} {Ω : rO} (hW : WF Ω) (k0 : Nat) (x1 : Int32) (x2 : Int32) (hL0 : oL Ω 7 k0) (σ : rS) {K : Int32 → rS → Prop} {K0 : ((Int32 × Int32) ⊕ Int32) → rS → Prop} (hC : ∀ (x1 : Int32) (x2 : Int32) (σ : rS), K0 (.inl (x1, x2)) σ → Run l Ω cX7_greatestAge RX7 3 (some .int) rmX7_greatestAge K 4 [some (rf Ω 7 k0), some (.int x1), some (.int x2)] [] σ) (hE0 : ∀ (e : Int32) (σ : rS), K0 (.inr e) σ → Run l Ω cX7_greatestAge RX7 3 (some .int) rmX7_greatestAge K 29 [none, some (.int e), none] [] σ) (h : hit (fX7_greatestAge_L4 k0 x1 x2 σ) K0) : Run l Ω cX7_greatestAge RX7 3 (some .int) rmX7_greatestAge K 4 [some (rf Ω 7 k0), some (.int x1), some (.int x2)] [] σ := by
  unfold fX7_greatestAge_L4 at h
  refine R_iload_n (i := 2) dX7_greatestAge_4 rfl rfl ?_
  refine R_aload_n (i := 0) dX7_greatestAge_5 rfl rfl ?_
  refine R_get foX7_75 hL0 (cE_7 Ω k0 _) rfl dX7_greatestAge_6 ?_
  refine R_icmp_ge (tgt := 29) dX7_greatestAge_9 (by decide) (fun hc => ?_) (fun hc => ?_)
  · have h := hit_f h hc
    refine R_drop (lv2 := [none, some (.int x1), some (.int x2)]) 0 rfl ?_
    refine R_drop (lv2 := [none, some (.int x1), none]) 2 rfl ?_
    exact hE0 x1 σ h
  · have h := hit_t h hc
    refine R_iload_n (i := 1) dX7_greatestAge_12 rfl rfl ?_
    refine R_aload_n (i := 0) dX7_greatestAge_13 rfl rfl ?_
    refine R_get foX7_24 hL0 (cE_7 Ω k0 _) rfl dX7_greatestAge_14 ?_
    refine R_iload_n (i := 2) dX7_greatestAge_17 rfl rfl ?_
    obtain ⟨hb, h⟩ := hit_bnd h
    refine R_iald (WF.kid hW 4 hL0 rfl) (cE_49 Ω k0 _) hb dX7_greatestAge_18 ?_
    refine R_mmax mw_1073 mw_91 mw_6 mw_92 (by decide) (Nat.le_of_ble_eq_true rfl) ⟨Nat.zero_le _, Nat.zero_le _⟩ dX7_greatestAge_19 ?_
    refine R_topi h (fun y1 h => ?_)
    refine R_istore_n (lv2 := [some (rf Ω 7 k0), some (.int y1), some (.int x2)]) dX7_greatestAge_22 rfl (by decide) rfl rfl ?_
    refine R_iinc (v := x2 + 1) (lv2 := [some (rf Ω 7 k0), some (.int y1), some (.int (x2 + 1))]) dX7_greatestAge_23 rfl rfl (by decide) rfl rfl ?_
    refine R_goto (tgt := 4) dX7_greatestAge_26 (by decide) ?_
    exact hC y1 (x2 + 1) σ h
set_option maxRecDepth 100000 in
set_option maxHeartbeats 4000000 in
theorem rlX7_greatestAge_L4 {l : Launch} {Ω : rO} (hW : WF Ω) (k0 : Nat) (hL0 : oL Ω 7 k0) {K : Int32 → rS → Prop} {KE : Int32 → rS → Prop} (hE0 : ∀ (e : Int32) (σ : rS), KE e σ → Run l Ω cX7_greatestAge RX7 3 (some .int) rmX7_greatestAge K 29 [none, some (.int e), none] [] σ) : ∀ (n : Nat) (x1 : Int32) (x2 : Int32) (σ : rS), hit (lp (fun (x : (Int32 × Int32)) σ => fX7_greatestAge_L4 k0 x.1 x.2 σ) n (x1, x2) σ) KE → Run l Ω cX7_greatestAge RX7 3 (some .int) rmX7_greatestAge K 4 [some (rf Ω 7 k0), some (.int x1), some (.int x2)] [] σ := by
  intro n
  induction n with
  | zero => intro x1 x2 σ h; exact (h : False).elim
  | succ n ih =>
    intro x1 x2 σ h
    exact rsX7_greatestAge_L4 hW k0 x1 x2 hL0 σ (fun x1 x2 σ h => ih x1 x2 σ h) (fun e σ h => hE0 e σ h) (hit_lp h)
set_option maxRecDepth 100000 in
set_option maxHeartbeats 4000000 in
theorem ctX7_greatestAge (l : Launch) (Ω : rO) (k0 : Nat) (hL0 : oL Ω 7 k0) (σ : rS) (K : Int32 → rS → Prop) (h : hit (fX7_greatestAge k0 σ) K) : Ct l Ω yX7_greatestAge cX7_greatestAge 3 (some .int) rmX7_greatestAge [rf Ω 7 k0] σ K := by
  refine Ct.of (own := RX7) (lv := [some (rf Ω 7 k0), none, none]) (by decide) rfl (Nat.le_of_ble_eq_true rfl) rfl (fun hW => ?_)
  unfold fX7_greatestAge at h
  refine R_iconst (v := 0) dX7_greatestAge_0 rfl ?_
  refine R_istore_n (lv2 := [some (rf Ω 7 k0), some (.int 0), none]) dX7_greatestAge_1 rfl (by decide) rfl rfl ?_
  refine R_iconst (v := 0) dX7_greatestAge_2 rfl ?_
  refine R_istore_n (lv2 := [some (rf Ω 7 k0), some (.int 0), some (.int 0)]) dX7_greatestAge_3 rfl (by decide) rfl rfl ?_
  refine rlX7_greatestAge_L4 hW k0 hL0 ?_ fu 0 0 σ (hit_bd h)
  · intro e3 σ2 h
    try dsimp only at h
    refine R_iload_n (i := 1) dX7_greatestAge_29 rfl rfl ?_
    exact R_iret dX7_greatestAge_30 rfl h
set_option maxRecDepth 100000 in
set_option maxHeartbeats 4000000 in
theorem rnX7_linkedRoots_j26L4 {l : Launch} {Ω : rO} (hW : WF Ω) (k0 : Nat) (x1 : Int32) (x2 : Int32) (hL0 : oL Ω 7 k0) (σ : rS) {K : Int32 → rS → Prop} {K0 : ((Int32 × Int32) ⊕ Int32) → rS → Prop} (hC : ∀ (x1 : Int32) (x2 : Int32) (σ : rS), K0 (.inl (x1, x2)) σ → Run l Ω cX7_linkedRoots RX7 3 (some .int) rmX7_linkedRoots K 4 [some (rf Ω 7 k0), some (.int x1), some (.int x2)] [] σ) (hE0 : ∀ (e : Int32) (σ : rS), K0 (.inr e) σ → Run l Ω cX7_linkedRoots RX7 3 (some .int) rmX7_linkedRoots K 32 [none, some (.int e), none] [] σ) (h : hit (fX7_linkedRoots_j26L4 k0 x1 x2 σ) K0) : Run l Ω cX7_linkedRoots RX7 3 (some .int) rmX7_linkedRoots K 26 [some (rf Ω 7 k0), some (.int x1), some (.int x2)] [] σ := by
  unfold fX7_linkedRoots_j26L4 at h
  refine R_iinc (v := x2 + 1) (lv2 := [some (rf Ω 7 k0), some (.int x1), some (.int (x2 + 1))]) dX7_linkedRoots_26 rfl rfl (by decide) rfl rfl ?_
  refine R_goto (tgt := 4) dX7_linkedRoots_29 (by decide) ?_
  exact hC x1 (x2 + 1) σ h
set_option maxRecDepth 100000 in
set_option maxHeartbeats 4000000 in
theorem rsX7_linkedRoots_L4 {l : Launch} {Ω : rO} (hW : WF Ω) (k0 : Nat) (x1 : Int32) (x2 : Int32) (hL0 : oL Ω 7 k0) (σ : rS) {K : Int32 → rS → Prop} {K0 : ((Int32 × Int32) ⊕ Int32) → rS → Prop} (hC : ∀ (x1 : Int32) (x2 : Int32) (σ : rS), K0 (.inl (x1, x2)) σ → Run l Ω cX7_linkedRoots RX7 3 (some .int) rmX7_linkedRoots K 4 [some (rf Ω 7 k0), some (.int x1), some (.int x2)] [] σ) (hE0 : ∀ (e : Int32) (σ : rS), K0 (.inr e) σ → Run l Ω cX7_linkedRoots RX7 3 (some .int) rmX7_linkedRoots K 32 [none, some (.int e), none] [] σ) (h : hit (fX7_linkedRoots_L4 k0 x1 x2 σ) K0) : Run l Ω cX7_linkedRoots RX7 3 (some .int) rmX7_linkedRoots K 4 [some (rf Ω 7 k0), some (.int x1), some (.int x2)] [] σ := by
  unfold fX7_linkedRoots_L4 at h
  refine R_iload_n (i := 2) dX7_linkedRoots_4 rfl rfl ?_
  refine R_bipush (v := 8) dX7_linkedRoots_5 rfl ?_
  refine R_icmp_ge (tgt := 32) dX7_linkedRoots_7 (by decide) (fun hc => ?_) (fun hc => ?_)
  · have h := hit_f h hc
    refine R_drop (lv2 := [none, some (.int x1), some (.int x2)]) 0 rfl ?_
    refine R_drop (lv2 := [none, some (.int x1), none]) 2 rfl ?_
    exact hE0 x1 σ h
  · have h := hit_t h hc
    refine R_aload_n (i := 0) dX7_linkedRoots_10 rfl rfl ?_
    refine R_get foX7_36 hL0 (cE_7 Ω k0 _) rfl dX7_linkedRoots_11 ?_
    refine R_iload_n (i := 2) dX7_linkedRoots_14 rfl rfl ?_
    obtain ⟨hb, h⟩ := hit_bnd h
    refine R_iald (WF.kid hW 8 hL0 rfl) (cE_53 Ω k0 _) hb dX7_linkedRoots_15 ?_
    refine R_iconst (v := (-1)) dX7_linkedRoots_16 rfl ?_
    refine R_icmp_eq (tgt := 26) dX7_linkedRoots_17 (by decide) (fun hc => ?_) (fun hc => ?_)
    · have h := hit_t h hc
      exact rnX7_linkedRoots_j26L4 hW k0 x1 x2 hL0 σ hC hE0 h
    · have h := hit_f h hc
      refine R_iload_n (i := 1) dX7_linkedRoots_20 rfl rfl ?_
      refine R_iconst (v := 1) dX7_linkedRoots_21 rfl ?_
      refine R_iload_n (i := 2) dX7_linkedRoots_22 rfl rfl ?_
      refine R_ishl dX7_linkedRoots_23 ?_
      refine R_ior dX7_linkedRoots_24 ?_
      refine R_topi h (fun y1 h => ?_)
      refine R_istore_n (lv2 := [some (rf Ω 7 k0), some (.int y1), some (.int x2)]) dX7_linkedRoots_25 rfl (by decide) rfl rfl ?_
      exact rnX7_linkedRoots_j26L4 hW k0 y1 x2 hL0 σ hC hE0 h
set_option maxRecDepth 100000 in
set_option maxHeartbeats 4000000 in
theorem rlX7_linkedRoots_L4 {l : Launch} {Ω : rO} (hW : WF Ω) (k0 : Nat) (hL0 : oL Ω 7 k0) {K : Int32 → rS → Prop} {KE : Int32 → rS → Prop} (hE0 : ∀ (e : Int32) (σ : rS), KE e σ → Run l Ω cX7_linkedRoots RX7 3 (some .int) rmX7_linkedRoots K 32 [none, some (.int e), none] [] σ) : ∀ (n : Nat) (x1 : Int32) (x2 : Int32) (σ : rS), hit (lp (fun (x : (Int32 × Int32)) σ => fX7_linkedRoots_L4 k0 x.1 x.2 σ) n (x1, x2) σ) KE → Run l Ω cX7_linkedRoots RX7 3 (some .int) rmX7_linkedRoots K 4 [some (rf Ω 7 k0), some (.int x1), some (.int x2)] [] σ := by
  intro n
  induction n with
  | zero => intro x1 x2 σ h; exact (h : False).elim
  | succ n ih =>
    intro x1 x2 σ h
    exact rsX7_linkedRoots_L4 hW k0 x1 x2 hL0 σ (fun x1 x2 σ h => ih x1 x2 σ h) (fun e σ h => hE0 e σ h) (hit_lp h)
set_option maxRecDepth 100000 in
set_option maxHeartbeats 4000000 in
theorem ctX7_linkedRoots (l : Launch) (Ω : rO) (k0 : Nat) (hL0 : oL Ω 7 k0) (σ : rS) (K : Int32 → rS → Prop) (h : hit (fX7_linkedRoots k0 σ) K) : Ct l Ω yX7_linkedRoots cX7_linkedRoots 3 (some .int) rmX7_linkedRoots [rf Ω 7 k0] σ K := by
  refine Ct.of (own := RX7) (lv := [some (rf Ω 7 k0), none, none]) (by decide) rfl (Nat.le_of_ble_eq_true rfl) rfl (fun hW => ?_)
  unfold fX7_linkedRoots at h
  refine R_iconst (v := 0) dX7_linkedRoots_0 rfl ?_
  refine R_istore_n (lv2 := [some (rf Ω 7 k0), some (.int 0), none]) dX7_linkedRoots_1 rfl (by decide) rfl rfl ?_
  refine R_iconst (v := 0) dX7_linkedRoots_2 rfl ?_
  refine R_istore_n (lv2 := [some (rf Ω 7 k0), some (.int 0), some (.int 0)]) dX7_linkedRoots_3 rfl (by decide) rfl rfl ?_
  refine rlX7_linkedRoots_L4 hW k0 hL0 ?_ fu 0 0 σ (hit_bd h)
  · intro e3 σ2 h
    try dsimp only at h
    refine R_iload_n (i := 1) dX7_linkedRoots_32 rfl rfl ?_
    exact R_iret dX7_linkedRoots_33 rfl h
set_option maxRecDepth 100000 in
set_option maxHeartbeats 4000000 in
theorem ctX9_feed (l : Launch) (Ω : rO) (x1 : Int32) (x2 : Int32) (x3 : Int32) (x4 : Int32) (x5 : Int32) (hL0 : oL Ω 9 0) (σ : rS) (K : Int32 → rS → Prop) (h : hit (fX9_feed x1 x2 x3 x4 x5 σ) K) : Ct l Ω yX9_feed cX9_feed 7 (some .int) rmX9_feed [rf Ω 9 0, .int x1, .int x2, .int x3, .int x4, .int x5] σ K := by
  refine Ct.of (own := RX9) (lv := [some (rf Ω 9 0), some (.int x1), some (.int x2), some (.int x3), some (.int x4), some (.int x5), none]) (by decide) rfl (Nat.le_of_ble_eq_true rfl) rfl (fun hW => ?_)
  unfold fX9_feed at h
  refine R_iload_n (i := 1) dX9_feed_0 rfl rfl ?_
  refine R_callSi (ctX8_bytesIn l Ω x1 _ _ (hit_mono (hit_bd h) (fun r1 σ2 h => ?_))) okX8_bytesIn mw_379 rfl rfl (Nat.le_of_ble_eq_true rfl) rfl rfl ⟨by decide, by decide⟩ ⟨Nat.zero_le _, Nat.zero_le _⟩ dX9_feed_1
  refine R_iload_n (i := 2) dX9_feed_4 rfl rfl ?_
  refine R_callSi (ctX8_bytesIn l Ω x2 _ _ (hit_mono (hit_bd h) (fun r3 σ4 h => ?_))) okX8_bytesIn mw_379 rfl rfl (Nat.le_of_ble_eq_true rfl) rfl rfl ⟨by decide, by decide⟩ ⟨Nat.zero_le _, Nat.zero_le _⟩ dX9_feed_5
  refine R_iadd dX9_feed_8 ?_
  refine R_iload_n (i := 3) dX9_feed_9 rfl rfl ?_
  refine R_callSi (ctX8_bytesIn l Ω x3 _ _ (hit_mono (hit_bd h) (fun r5 σ6 h => ?_))) okX8_bytesIn mw_379 rfl rfl (Nat.le_of_ble_eq_true rfl) rfl rfl ⟨by decide, by decide⟩ ⟨Nat.zero_le _, Nat.zero_le _⟩ dX9_feed_10
  refine R_iadd dX9_feed_13 ?_
  refine R_iload (i := 4) dX9_feed_14 rfl ?_
  refine R_callSi (ctX8_bytesIn l Ω x4 _ _ (hit_mono (hit_bd h) (fun r7 σ8 h => ?_))) okX8_bytesIn mw_379 rfl rfl (Nat.le_of_ble_eq_true rfl) rfl rfl ⟨by decide, by decide⟩ ⟨Nat.zero_le _, Nat.zero_le _⟩ dX9_feed_16
  refine R_iadd dX9_feed_19 ?_
  refine R_iload (i := 5) dX9_feed_20 rfl ?_
  refine R_callSi (ctX8_bytesIn l Ω x5 _ _ (hit_mono (hit_bd h) (fun r9 σ10 h => ?_))) okX8_bytesIn mw_379 rfl rfl (Nat.le_of_ble_eq_true rfl) rfl rfl ⟨by decide, by decide⟩ ⟨Nat.zero_le _, Nat.zero_le _⟩ dX9_feed_22
  refine R_iadd dX9_feed_25 ?_
  refine R_topi h (fun y11 h => ?_)
  refine R_istore (lv2 := [some (rf Ω 9 0), some (.int x1), some (.int x2), some (.int x3), some (.int x4), some (.int x5), some (.int y11)]) dX9_feed_26 (by decide) rfl rfl ?_
  refine R_aload_n (i := 0) dX9_feed_28 rfl rfl ?_
  refine R_get foX9_10 hL0 (cE_9 Ω 0 _) rfl dX9_feed_29 ?_
  refine R_get foX9_89 (WF.kid hW 0 hL0 rfl) (cE_8 Ω 0 _) rfl dX9_feed_32 ?_
  refine R_iload (i := 6) dX9_feed_35 rfl ?_
  refine R_iadd dX9_feed_37 ?_
  refine R_sipush (v := 240) dX9_feed_38 rfl ?_
  refine R_icmp_le (tgt := 46) dX9_feed_41 (by decide) (fun hc => ?_) (fun hc => ?_)
  · have h := hit_f h hc
    refine R_aload_n (i := 0) dX9_feed_46 rfl rfl ?_
    refine R_get foX9_10 hL0 (cE_9 Ω 0 _) rfl dX9_feed_47 ?_
    refine R_iload_n (i := 1) dX9_feed_50 rfl rfl ?_
    refine R_callVv (ctX8_addBytes l Ω x1 (WF.kid hW 0 hL0 rfl) _ _ (hit_mono (hit_bd h) (fun r12 σ13 h => ?_))) okX8_addBytes mw_382 (WF.kid hW 0 hL0 rfl) (cE_8 Ω 0 _) rfl rfl (Nat.le_of_ble_eq_true rfl) rfl rfl ⟨by decide, by decide⟩ ⟨Nat.zero_le _, Nat.zero_le _⟩ dX9_feed_51
    refine R_aload_n (i := 0) dX9_feed_54 rfl rfl ?_
    refine R_get foX9_10 hL0 (cE_9 Ω 0 _) rfl dX9_feed_55 ?_
    refine R_iload_n (i := 2) dX9_feed_58 rfl rfl ?_
    refine R_callVv (ctX8_addBytes l Ω x2 (WF.kid hW 0 hL0 rfl) _ _ (hit_mono (hit_bd h) (fun r14 σ15 h => ?_))) okX8_addBytes mw_382 (WF.kid hW 0 hL0 rfl) (cE_8 Ω 0 _) rfl rfl (Nat.le_of_ble_eq_true rfl) rfl rfl ⟨by decide, by decide⟩ ⟨Nat.zero_le _, Nat.zero_le _⟩ dX9_feed_59
    refine R_aload_n (i := 0) dX9_feed_62 rfl rfl ?_
    refine R_get foX9_10 hL0 (cE_9 Ω 0 _) rfl dX9_feed_63 ?_
    refine R_iload_n (i := 3) dX9_feed_66 rfl rfl ?_
    refine R_callVv (ctX8_addBytes l Ω x3 (WF.kid hW 0 hL0 rfl) _ _ (hit_mono (hit_bd h) (fun r16 σ17 h => ?_))) okX8_addBytes mw_382 (WF.kid hW 0 hL0 rfl) (cE_8 Ω 0 _) rfl rfl (Nat.le_of_ble_eq_true rfl) rfl rfl ⟨by decide, by decide⟩ ⟨Nat.zero_le _, Nat.zero_le _⟩ dX9_feed_67
    refine R_aload_n (i := 0) dX9_feed_70 rfl rfl ?_
    refine R_get foX9_10 hL0 (cE_9 Ω 0 _) rfl dX9_feed_71 ?_
    refine R_iload (i := 4) dX9_feed_74 rfl ?_
    refine R_callVv (ctX8_addBytes l Ω x4 (WF.kid hW 0 hL0 rfl) _ _ (hit_mono (hit_bd h) (fun r18 σ19 h => ?_))) okX8_addBytes mw_382 (WF.kid hW 0 hL0 rfl) (cE_8 Ω 0 _) rfl rfl (Nat.le_of_ble_eq_true rfl) rfl rfl ⟨by decide, by decide⟩ ⟨Nat.zero_le _, Nat.zero_le _⟩ dX9_feed_76
    refine R_aload_n (i := 0) dX9_feed_79 rfl rfl ?_
    refine R_get foX9_10 hL0 (cE_9 Ω 0 _) rfl dX9_feed_80 ?_
    refine R_iload (i := 5) dX9_feed_83 rfl ?_
    refine R_callVv (ctX8_addBytes l Ω x5 (WF.kid hW 0 hL0 rfl) _ _ (hit_mono (hit_bd h) (fun r20 σ21 h => ?_))) okX8_addBytes mw_382 (WF.kid hW 0 hL0 rfl) (cE_8 Ω 0 _) rfl rfl (Nat.le_of_ble_eq_true rfl) rfl rfl ⟨by decide, by decide⟩ ⟨Nat.zero_le _, Nat.zero_le _⟩ dX9_feed_85
    refine R_aload_n (i := 0) dX9_feed_88 rfl rfl ?_
    refine R_get foX9_10 hL0 (cE_9 Ω 0 _) rfl dX9_feed_89 ?_
    refine R_get foX9_89 (WF.kid hW 0 hL0 rfl) (cE_8 Ω 0 _) rfl dX9_feed_92 ?_
    exact R_iret dX9_feed_95 rfl h
  · have h := hit_t h hc
    refine R_iconst (v := (-1)) dX9_feed_44 rfl ?_
    exact R_iret dX9_feed_45 rfl h
set_option maxRecDepth 100000 in
set_option maxHeartbeats 4000000 in
theorem ctX9_end (l : Launch) (Ω : rO) (x1 : Int32) (hL0 : oL Ω 9 0) (σ : rS) (K : Int32 → rS → Prop) (h : hit (fX9_end x1 σ) K) : Ct l Ω yX9_end cX9_end 2 (some .boolean) rmX9_end [rf Ω 9 0, .int x1] σ K := by
  refine Ct.of (own := RX9) (lv := [some (rf Ω 9 0), some (.int x1)]) (by decide) rfl (Nat.le_of_ble_eq_true rfl) rfl (fun hW => ?_)
  unfold fX9_end at h
  refine R_iload_n (i := 1) dX9_end_0 rfl rfl ?_
  refine R_if_lt (tgt := 15) dX9_end_1 (by decide) (fun hc => ?_) (fun hc => ?_)
  · have h := hit_t h hc
    refine R_iconst (v := 0) dX9_end_15 rfl ?_
    exact R_zret dX9_end_16 rfl (Or.inl rfl) h
  · have h := hit_f h hc
    refine R_iload_n (i := 1) dX9_end_4 rfl rfl ?_
    refine R_aload_n (i := 0) dX9_end_5 rfl rfl ?_
    refine R_get foX9_10 hL0 (cE_9 Ω 0 _) rfl dX9_end_6 ?_
    refine R_get foX9_89 (WF.kid hW 0 hL0 rfl) (cE_8 Ω 0 _) rfl dX9_end_9 ?_
    refine R_icmp_le (tgt := 17) dX9_end_12 (by decide) (fun hc => ?_) (fun hc => ?_)
    · have h := hit_f h hc
      refine R_aload_n (i := 0) dX9_end_17 rfl rfl ?_
      refine R_get foX9_10 hL0 (cE_9 Ω 0 _) rfl dX9_end_18 ?_
      refine R_iload_n (i := 1) dX9_end_21 rfl rfl ?_
      refine R_put poX9_89 (WF.kid hW 0 hL0 rfl) (cE_8 Ω 0 _) (cP_8_1 Ω 0 _ _) (Nat.le_of_ble_eq_true rfl) dX9_end_22 ?_
      refine R_st h (fun σ1 h => ?_)
      refine R_iconst (v := 1) dX9_end_25 rfl ?_
      exact R_zret dX9_end_26 rfl (Or.inr rfl) h
    · have h := hit_t h hc
      refine R_iconst (v := 0) dX9_end_15 rfl ?_
      exact R_zret dX9_end_16 rfl (Or.inl rfl) h
set_option maxRecDepth 100000 in
set_option maxHeartbeats 4000000 in
theorem ctX9_fault (l : Launch) (Ω : rO) (x1 : Int32) (hL0 : oL Ω 9 0) (σ : rS) (K : Int32 → rS → Prop) (h : hit (fX9_fault x1 σ) K) : Ct l Ω yX9_fault cX9_fault 2 (some .int) rmX9_fault [rf Ω 9 0, .int x1] σ K := by
  refine Ct.of (own := RX9) (lv := [some (rf Ω 9 0), some (.int x1)]) (by decide) rfl (Nat.le_of_ble_eq_true rfl) rfl (fun hW => ?_)
  unfold fX9_fault at h
  refine R_iload_n (i := 1) dX9_fault_0 rfl rfl ?_
  refine R_if_ne (tgt := 12) dX9_fault_1 (by decide) (fun hc => ?_) (fun hc => ?_)
  · have h := hit_f h hc
    refine R_iload_n (i := 1) dX9_fault_12 rfl rfl ?_
    refine R_iconst (v := 1) dX9_fault_13 rfl ?_
    refine R_icmp_ne (tgt := 27) dX9_fault_14 (by decide) (fun hc => ?_) (fun hc => ?_)
    · have h := hit_f h hc
      refine R_bipush (v := (-2)) dX9_fault_27 rfl ?_
      exact R_iret dX9_fault_29 rfl h
    · have h := hit_t h hc
      refine R_aload_n (i := 0) dX9_fault_17 rfl rfl ?_
      refine R_get foX9_21 hL0 (cE_9 Ω 0 _) rfl dX9_fault_18 ?_
      refine R_callVi (ctX6_readScript l Ω (WF.kid hW 1 hL0 rfl) _ _ (hit_mono (hit_bd h) (fun r1 σ2 h => ?_))) okX6_readScript mw_507 (WF.kid hW 1 hL0 rfl) (cE_6 Ω 0 _) rfl rfl (Nat.le_of_ble_eq_true rfl) rfl rfl ⟨by decide, by decide⟩ ⟨Nat.zero_le _, Nat.zero_le _⟩ dX9_fault_21
      refine R_goto (tgt := 29) dX9_fault_24 (by decide) ?_
      exact R_iret dX9_fault_29 rfl h
  · have h := hit_t h hc
    refine R_aload_n (i := 0) dX9_fault_4 rfl rfl ?_
    refine R_get foX9_21 hL0 (cE_9 Ω 0 _) rfl dX9_fault_5 ?_
    refine R_callVi (ctX6_readHeap l Ω (WF.kid hW 1 hL0 rfl) _ _ (hit_mono (hit_bd h) (fun r3 σ4 h => ?_))) okX6_readHeap mw_394 (WF.kid hW 1 hL0 rfl) (cE_6 Ω 0 _) rfl rfl (Nat.le_of_ble_eq_true rfl) rfl rfl ⟨by decide, by decide⟩ ⟨Nat.zero_le _, Nat.zero_le _⟩ dX9_fault_8
    exact R_iret dX9_fault_11 rfl h
set_option maxRecDepth 100000 in
set_option maxHeartbeats 4000000 in
theorem ctX9_takeHeap (l : Launch) (Ω : rO) (hL0 : oL Ω 9 0) (σ : rS) (K : Int32 → rS → Prop) (h : hit (fX9_takeHeap  σ) K) : Ct l Ω yX9_takeHeap cX9_takeHeap 1 (some .int) rmX9_takeHeap [rf Ω 9 0] σ K := by
  refine Ct.of (own := RX9) (lv := [some (rf Ω 9 0)]) (by decide) rfl (Nat.le_of_ble_eq_true rfl) rfl (fun hW => ?_)
  unfold fX9_takeHeap at h
  refine R_aload_n (i := 0) dX9_takeHeap_0 rfl rfl ?_
  refine R_get foX9_21 hL0 (cE_9 Ω 0 _) rfl dX9_takeHeap_1 ?_
  refine R_callVi (ctX6_readHeap l Ω (WF.kid hW 1 hL0 rfl) _ _ (hit_mono (hit_bd h) (fun r1 σ2 h => ?_))) okX6_readHeap mw_394 (WF.kid hW 1 hL0 rfl) (cE_6 Ω 0 _) rfl rfl (Nat.le_of_ble_eq_true rfl) rfl rfl ⟨by decide, by decide⟩ ⟨Nat.zero_le _, Nat.zero_le _⟩ dX9_takeHeap_4
  refine R_iconst (v := (-1)) dX9_takeHeap_7 rfl ?_
  refine R_icmp_eq (tgt := 13) dX9_takeHeap_8 (by decide) (fun hc => ?_) (fun hc => ?_)
  · have h := hit_t h hc
    refine R_aload_n (i := 0) dX9_takeHeap_13 rfl rfl ?_
    refine R_get foX9_21 hL0 (cE_9 Ω 0 _) rfl dX9_takeHeap_14 ?_
    refine R_get foX9_110 (WF.kid hW 1 hL0 rfl) (cE_6 Ω 0 _) rfl dX9_takeHeap_17 ?_
    refine R_iconst (v := 0) dX9_takeHeap_20 rfl ?_
    refine R_aload_n (i := 0) dX9_takeHeap_21 rfl rfl ?_
    refine R_get foX9_34 hL0 (cE_9 Ω 0 _) rfl dX9_takeHeap_22 ?_
    refine R_iconst (v := 0) dX9_takeHeap_25 rfl ?_
    refine R_iconst (v := 4) dX9_takeHeap_26 rfl ?_
    obtain ⟨hb, h⟩ := hit_bcp h
    refine R_copy (WF.kid hW 1 (WF.kid hW 1 hL0 rfl) rfl) (cE_26 Ω 0) (WF.kid hW 4 hL0 rfl) (cE_20 Ω 0) hb mw_531 mw_402 mw_401 mw_13 (by decide) (Nat.le_of_ble_eq_true rfl) dX9_takeHeap_27 ?_
    refine R_st h (fun σ3 h => ?_)
    refine R_aload_n (i := 0) dX9_takeHeap_30 rfl rfl ?_
    refine R_get foX9_10 hL0 (cE_9 Ω 0 _) rfl dX9_takeHeap_31 ?_
    refine R_iconst (v := 0) dX9_takeHeap_34 rfl ?_
    refine R_put poX9_89 (WF.kid hW 0 hL0 rfl) (cE_8 Ω 0 _) (cP_8_1 Ω 0 _ _) (Nat.le_of_ble_eq_true rfl) dX9_takeHeap_35 ?_
    refine R_st h (fun σ4 h => ?_)
    refine R_aload_n (i := 0) dX9_takeHeap_38 rfl rfl ?_
    refine R_iconst (v := 1) dX9_takeHeap_39 rfl ?_
    refine R_putz poX9_117 hL0 (cE_9 Ω 0 _) (cP_9_6 Ω 0 _ _) (Nat.le_of_ble_eq_true rfl) (Or.inr rfl) dX9_takeHeap_40 ?_
    refine R_st h (fun σ5 h => ?_)
    refine R_aload_n (i := 0) dX9_takeHeap_43 rfl rfl ?_
    refine R_iconst (v := 0) dX9_takeHeap_44 rfl ?_
    refine R_putz poX9_121 hL0 (cE_9 Ω 0 _) (cP_9_7 Ω 0 _ _) (Nat.le_of_ble_eq_true rfl) (Or.inl rfl) dX9_takeHeap_45 ?_
    refine R_st h (fun σ6 h => ?_)
    refine R_aload_n (i := 0) dX9_takeHeap_48 rfl rfl ?_
    refine R_get foX9_40 hL0 (cE_9 Ω 0 _) rfl dX9_takeHeap_49 ?_
    refine R_callVv (ctX7_clear l Ω 0 (WF.kid hW 5 hL0 rfl) _ _ (hit_mono (hit_bd h) (fun r7 σ8 h => ?_))) okX7_clear mw_532 (WF.kid hW 5 hL0 rfl) (cE_7 Ω 0 _) rfl rfl (Nat.le_of_ble_eq_true rfl) rfl rfl ⟨by decide, by decide⟩ ⟨Nat.zero_le _, Nat.zero_le _⟩ dX9_takeHeap_52
    refine R_aload_n (i := 0) dX9_takeHeap_55 rfl rfl ?_
    refine R_get foX9_53 hL0 (cE_9 Ω 0 _) rfl dX9_takeHeap_56 ?_
    refine R_iconst (v := 0) dX9_takeHeap_59 rfl ?_
    refine R_put poX9_127 (WF.kid hW 8 hL0 rfl) (cE_5 Ω 0 _) (cP_5_2 Ω 0 _ _) (Nat.le_of_ble_eq_true rfl) dX9_takeHeap_60 ?_
    refine R_st h (fun σ9 h => ?_)
    refine R_aload_n (i := 0) dX9_takeHeap_63 rfl rfl ?_
    refine R_get foX9_34 hL0 (cE_9 Ω 0 _) rfl dX9_takeHeap_64 ?_
    refine R_iconst (v := 0) dX9_takeHeap_67 rfl ?_
    refine R_iald (WF.kid hW 4 hL0 rfl) (cE_20 Ω 0 _) (vin 0 4 rfl) dX9_takeHeap_68 ?_
    refine R_iconst (v := 2) dX9_takeHeap_69 rfl ?_
    refine R_aload_n (i := 0) dX9_takeHeap_70 rfl rfl ?_
    refine R_get foX9_34 hL0 (cE_9 Ω 0 _) rfl dX9_takeHeap_71 ?_
    refine R_iconst (v := 1) dX9_takeHeap_74 rfl ?_
    refine R_iald (WF.kid hW 4 hL0 rfl) (cE_20 Ω 0 _) (vin 1 4 rfl) dX9_takeHeap_75 ?_
    refine R_imul dX9_takeHeap_76 ?_
    refine R_iadd dX9_takeHeap_77 ?_
    refine R_aload_n (i := 0) dX9_takeHeap_78 rfl rfl ?_
    refine R_get foX9_34 hL0 (cE_9 Ω 0 _) rfl dX9_takeHeap_79 ?_
    refine R_iconst (v := 2) dX9_takeHeap_82 rfl ?_
    refine R_iald (WF.kid hW 4 hL0 rfl) (cE_20 Ω 0 _) (vin 2 4 rfl) dX9_takeHeap_83 ?_
    refine R_iadd dX9_takeHeap_84 ?_
    exact R_iret dX9_takeHeap_85 rfl h
  · have h := hit_f h hc
    refine R_iconst (v := (-1)) dX9_takeHeap_11 rfl ?_
    exact R_iret dX9_takeHeap_12 rfl h
set_option maxRecDepth 100000 in
set_option maxHeartbeats 4000000 in
theorem ctX9_takeScript (l : Launch) (Ω : rO) (hL0 : oL Ω 9 0) (σ : rS) (K : Int32 → rS → Prop) (h : hit (fX9_takeScript  σ) K) : Ct l Ω yX9_takeScript cX9_takeScript 1 (some .int) rmX9_takeScript [rf Ω 9 0] σ K := by
  refine Ct.of (own := RX9) (lv := [some (rf Ω 9 0)]) (by decide) rfl (Nat.le_of_ble_eq_true rfl) rfl (fun hW => ?_)
  unfold fX9_takeScript at h
  refine R_aload_n (i := 0) dX9_takeScript_0 rfl rfl ?_
  refine R_get foX9_128 hL0 (cE_9 Ω 0 _) rfl dX9_takeScript_1 ?_
  refine R_iconst (v := 4) dX9_takeScript_4 rfl ?_
  refine R_icmp_ge (tgt := 19) dX9_takeScript_5 (by decide) (fun hc => ?_) (fun hc => ?_)
  · have h := hit_f h hc
    refine R_iconst (v := (-1)) dX9_takeScript_19 rfl ?_
    exact R_iret dX9_takeScript_20 rfl h
  · have h := hit_t h hc
    refine R_aload_n (i := 0) dX9_takeScript_8 rfl rfl ?_
    refine R_get foX9_21 hL0 (cE_9 Ω 0 _) rfl dX9_takeScript_9 ?_
    refine R_callVi (ctX6_readScript l Ω (WF.kid hW 1 hL0 rfl) _ _ (hit_mono (hit_bd h) (fun r1 σ2 h => ?_))) okX6_readScript mw_507 (WF.kid hW 1 hL0 rfl) (cE_6 Ω 0 _) rfl rfl (Nat.le_of_ble_eq_true rfl) rfl rfl ⟨by decide, by decide⟩ ⟨Nat.zero_le _, Nat.zero_le _⟩ dX9_takeScript_12
    refine R_iconst (v := (-1)) dX9_takeScript_15 rfl ?_
    refine R_icmp_eq (tgt := 21) dX9_takeScript_16 (by decide) (fun hc => ?_) (fun hc => ?_)
    · have h := hit_t h hc
      refine R_aload_n (i := 0) dX9_takeScript_21 rfl rfl ?_
      refine R_get foX9_21 hL0 (cE_9 Ω 0 _) rfl dX9_takeScript_22 ?_
      refine R_get foX9_131 (WF.kid hW 1 hL0 rfl) (cE_6 Ω 0 _) rfl dX9_takeScript_25 ?_
      refine R_iconst (v := 0) dX9_takeScript_28 rfl ?_
      refine R_aload_n (i := 0) dX9_takeScript_29 rfl rfl ?_
      refine R_get foX9_27 hL0 (cE_9 Ω 0 _) rfl dX9_takeScript_30 ?_
      refine R_aload_n (i := 0) dX9_takeScript_33 rfl rfl ?_
      refine R_get foX9_128 hL0 (cE_9 Ω 0 _) rfl dX9_takeScript_34 ?_
      obtain ⟨hb3, h⟩ := hit_bnd h
      refine R_scripts (WF.kid hW 2 hL0 rfl) hb3 dX9_takeScript_37 ?_
      refine R_iconst (v := 0) dX9_takeScript_38 rfl ?_
      refine R_bipush (v := 80) dX9_takeScript_39 rfl ?_
      obtain ⟨hb, h⟩ := hit_bcp h
      refine R_copy (WF.kid hW 2 (WF.kid hW 1 hL0 rfl) rfl) (cE_27 Ω 0) (sc_kid hW (WF.kid hW 2 hL0 rfl) hb3) (cE_24 Ω (ix (σ2 9 0 4))) hb mw_531 mw_402 mw_401 mw_13 (by decide) (Nat.le_of_ble_eq_true rfl) dX9_takeScript_41 ?_
      refine R_st h (fun σ4 h => ?_)
      refine R_aload_n (i := 0) dX9_takeScript_44 rfl rfl ?_
      refine R_get foX9_30 hL0 (cE_9 Ω 0 _) rfl dX9_takeScript_45 ?_
      refine R_aload_n (i := 0) dX9_takeScript_48 rfl rfl ?_
      refine R_get foX9_128 hL0 (cE_9 Ω 0 _) rfl dX9_takeScript_49 ?_
      refine R_aload_n (i := 0) dX9_takeScript_52 rfl rfl ?_
      refine R_get foX9_21 hL0 (cE_9 Ω 0 _) rfl dX9_takeScript_53 ?_
      refine R_get foX9_134 (WF.kid hW 1 hL0 rfl) (cE_6 Ω 0 _) rfl dX9_takeScript_56 ?_
      obtain ⟨hb, h⟩ := hit_bnd h
      refine R_iast (WF.kid hW 3 hL0 rfl) (cE_21 Ω 0) hb dX9_takeScript_59 ?_
      refine R_st h (fun σ5 h => ?_)
      refine R_aload_n (i := 0) dX9_takeScript_60 rfl rfl ?_
      refine R_get foX9_10 hL0 (cE_9 Ω 0 _) rfl dX9_takeScript_61 ?_
      refine R_iconst (v := 0) dX9_takeScript_64 rfl ?_
      refine R_put poX9_89 (WF.kid hW 0 hL0 rfl) (cE_8 Ω 0 _) (cP_8_1 Ω 0 _ _) (Nat.le_of_ble_eq_true rfl) dX9_takeScript_65 ?_
      refine R_st h (fun σ6 h => ?_)
      refine R_aload_n (i := 0) dX9_takeScript_68 rfl rfl ?_
      refine R_dup dX9_takeScript_69 rfl ?_
      refine R_get foX9_128 hL0 (cE_9 Ω 0 _) rfl dX9_takeScript_70 ?_
      refine R_iconst (v := 1) dX9_takeScript_73 rfl ?_
      refine R_iadd dX9_takeScript_74 ?_
      refine R_put poX9_128 hL0 (cE_9 Ω 0 _) (cP_9_4 Ω 0 _ _) (Nat.le_of_ble_eq_true rfl) dX9_takeScript_75 ?_
      refine R_st h (fun σ7 h => ?_)
      refine R_aload_n (i := 0) dX9_takeScript_78 rfl rfl ?_
      refine R_get foX9_128 hL0 (cE_9 Ω 0 _) rfl dX9_takeScript_79 ?_
      refine R_iconst (v := 1) dX9_takeScript_82 rfl ?_
      refine R_isub dX9_takeScript_83 ?_
      exact R_iret dX9_takeScript_84 rfl h
    · have h := hit_f h hc
      refine R_iconst (v := (-1)) dX9_takeScript_19 rfl ?_
      exact R_iret dX9_takeScript_20 rfl h
set_option maxRecDepth 100000 in
set_option maxHeartbeats 4000000 in
theorem ctX9_text (l : Launch) (Ω : rO) (x1 : Int32) (hL0 : oL Ω 9 0) (σ : rS) (K : Int32 → rS → Prop) (h : hit (fX9_text x1 σ) K) : Ct l Ω yX9_text cX9_text 2 (some .int) rmX9_text [rf Ω 9 0, .int x1] σ K := by
  refine Ct.of (own := RX9) (lv := [some (rf Ω 9 0), some (.int x1)]) (by decide) rfl (Nat.le_of_ble_eq_true rfl) rfl (fun hW => ?_)
  unfold fX9_text at h
  refine R_iload_n (i := 1) dX9_text_0 rfl rfl ?_
  refine R_if_ne (tgt := 9) dX9_text_1 (by decide) (fun hc => ?_) (fun hc => ?_)
  · have h := hit_f h hc
    refine R_iload_n (i := 1) dX9_text_9 rfl rfl ?_
    refine R_iconst (v := 1) dX9_text_10 rfl ?_
    refine R_icmp_ne (tgt := 21) dX9_text_11 (by decide) (fun hc => ?_) (fun hc => ?_)
    · have h := hit_f h hc
      refine R_iconst (v := (-1)) dX9_text_21 rfl ?_
      exact R_iret dX9_text_22 rfl h
    · have h := hit_t h hc
      refine R_aload_n (i := 0) dX9_text_14 rfl rfl ?_
      refine R_callVi (ctX9_takeScript l Ω hL0 _ _ (hit_mono (hit_bd h) (fun r1 σ2 h => ?_))) okX9_takeScript mw_536 hL0 (cE_9 Ω 0 _) rfl rfl (Nat.le_of_ble_eq_true rfl) rfl rfl ⟨by decide, by decide⟩ ⟨Nat.zero_le _, Nat.zero_le _⟩ dX9_text_15
      refine R_goto (tgt := 22) dX9_text_18 (by decide) ?_
      exact R_iret dX9_text_22 rfl h
  · have h := hit_t h hc
    refine R_aload_n (i := 0) dX9_text_4 rfl rfl ?_
    refine R_callVi (ctX9_takeHeap l Ω hL0 _ _ (hit_mono (hit_bd h) (fun r3 σ4 h => ?_))) okX9_takeHeap mw_527 hL0 (cE_9 Ω 0 _) rfl rfl (Nat.le_of_ble_eq_true rfl) rfl rfl ⟨by decide, by decide⟩ ⟨Nat.zero_le _, Nat.zero_le _⟩ dX9_text_5
    exact R_iret dX9_text_8 rfl h
set_option maxRecDepth 100000 in
set_option maxHeartbeats 4000000 in
theorem ctX9_rule (l : Launch) (Ω : rO) (x1 : Int32) (hL0 : oL Ω 9 0) (σ : rS) (K : Int32 → rS → Prop) (h : hit (fX9_rule x1 σ) K) : Ct l Ω yX9_rule cX9_rule 2 (some .int) rmX9_rule [rf Ω 9 0, .int x1] σ K := by
  refine Ct.of (own := RX9) (lv := [some (rf Ω 9 0), some (.int x1)]) (by decide) rfl (Nat.le_of_ble_eq_true rfl) rfl (fun hW => ?_)
  unfold fX9_rule at h
  refine R_aload_n (i := 0) dX9_rule_0 rfl rfl ?_
  refine R_get foX9_117 hL0 (cE_9 Ω 0 _) rfl dX9_rule_1 ?_
  refine R_if_eq (tgt := 25) dX9_rule_4 (by decide) (fun hc => ?_) (fun hc => ?_)
  · have h := hit_t h hc
    refine R_iconst (v := (-1)) dX9_rule_25 rfl ?_
    exact R_iret dX9_rule_26 rfl h
  · have h := hit_f h hc
    refine R_iload_n (i := 1) dX9_rule_7 rfl rfl ?_
    refine R_if_lt (tgt := 25) dX9_rule_8 (by decide) (fun hc => ?_) (fun hc => ?_)
    · have h := hit_t h hc
      refine R_iconst (v := (-1)) dX9_rule_25 rfl ?_
      exact R_iret dX9_rule_26 rfl h
    · have h := hit_f h hc
      refine R_iload_n (i := 1) dX9_rule_11 rfl rfl ?_
      refine R_iconst (v := 4) dX9_rule_12 rfl ?_
      refine R_icmp_ge (tgt := 25) dX9_rule_13 (by decide) (fun hc => ?_) (fun hc => ?_)
      · have h := hit_f h hc
        refine R_iconst (v := (-1)) dX9_rule_25 rfl ?_
        exact R_iret dX9_rule_26 rfl h
      · have h := hit_t h hc
        refine R_aload_n (i := 0) dX9_rule_16 rfl rfl ?_
        refine R_get foX9_34 hL0 (cE_9 Ω 0 _) rfl dX9_rule_17 ?_
        refine R_iload_n (i := 1) dX9_rule_20 rfl rfl ?_
        obtain ⟨hb, h⟩ := hit_bnd h
        refine R_iald (WF.kid hW 4 hL0 rfl) (cE_20 Ω 0 _) hb dX9_rule_21 ?_
        refine R_goto (tgt := 26) dX9_rule_22 (by decide) ?_
        exact R_iret dX9_rule_26 rfl h
set_option maxRecDepth 100000 in
set_option maxHeartbeats 4000000 in
theorem ctX9_root (l : Launch) (Ω : rO) (x1 : Int32) (hL0 : oL Ω 9 0) (σ : rS) (K : Int32 → rS → Prop) (h : hit (fX9_root x1 σ) K) : Ct l Ω yX9_root cX9_root 2 (some .int) rmX9_root [rf Ω 9 0, .int x1] σ K := by
  refine Ct.of (own := RX9) (lv := [some (rf Ω 9 0), some (.int x1)]) (by decide) rfl (Nat.le_of_ble_eq_true rfl) rfl (fun hW => ?_)
  unfold fX9_root at h
  refine R_aload_n (i := 0) dX9_root_0 rfl rfl ?_
  refine R_get foX9_117 hL0 (cE_9 Ω 0 _) rfl dX9_root_1 ?_
  refine R_if_eq (tgt := 33) dX9_root_4 (by decide) (fun hc => ?_) (fun hc => ?_)
  · have h := hit_t h hc
    refine R_iconst (v := (-1)) dX9_root_33 rfl ?_
    exact R_iret dX9_root_34 rfl h
  · have h := hit_f h hc
    refine R_iload_n (i := 1) dX9_root_7 rfl rfl ?_
    refine R_callSi (ctX9_isRoot l Ω x1 _ _ (hit_mono (hit_bd h) (fun r1 σ2 h => ?_))) okX9_isRoot mw_548 rfl rfl (Nat.le_of_ble_eq_true rfl) rfl rfl ⟨by decide, by decide⟩ ⟨Nat.zero_le _, Nat.zero_le _⟩ dX9_root_8
    refine R_if_eq (tgt := 33) dX9_root_11 (by decide) (fun hc => ?_) (fun hc => ?_)
    · have h := hit_t h hc
      refine R_iconst (v := (-1)) dX9_root_33 rfl ?_
      exact R_iret dX9_root_34 rfl h
    · have h := hit_f h hc
      refine R_aload_n (i := 0) dX9_root_14 rfl rfl ?_
      refine R_get foX9_40 hL0 (cE_9 Ω 0 _) rfl dX9_root_15 ?_
      refine R_aload_n (i := 0) dX9_root_18 rfl rfl ?_
      refine R_get foX9_40 hL0 (cE_9 Ω 0 _) rfl dX9_root_19 ?_
      refine R_get foX9_141 (WF.kid hW 5 hL0 rfl) (cE_7 Ω 0 _) rfl dX9_root_22 ?_
      refine R_iload_n (i := 1) dX9_root_25 rfl rfl ?_
      obtain ⟨hb, h⟩ := hit_bnd h
      refine R_iald (WF.kid hW 8 (WF.kid hW 5 hL0 rfl) rfl) (cE_53 Ω 0 _) hb dX9_root_26 ?_
      refine R_callVi (ctX7_numberOf l Ω 0 (σ2 53 0 (ix x1)) (WF.kid hW 5 hL0 rfl) _ _ (hit_mono (hit_bd h) (fun r3 σ4 h => ?_))) okX7_numberOf mw_551 (WF.kid hW 5 hL0 rfl) (cE_7 Ω 0 _) rfl rfl (Nat.le_of_ble_eq_true rfl) rfl rfl ⟨by decide, by decide⟩ ⟨Nat.zero_le _, Nat.zero_le _⟩ dX9_root_27
      refine R_goto (tgt := 34) dX9_root_30 (by decide) ?_
      exact R_iret dX9_root_34 rfl h
set_option maxRecDepth 100000 in
set_option maxHeartbeats 4000000 in
theorem ctX9_isReached (l : Launch) (Ω : rO) (x1 : Int32) (hL0 : oL Ω 9 0) (σ : rS) (K : Int32 → rS → Prop) (h : hit (fX9_isReached x1 σ) K) : Ct l Ω yX9_isReached cX9_isReached 2 (some .boolean) rmX9_isReached [rf Ω 9 0, .int x1] σ K := by
  refine Ct.of (own := RX9) (lv := [some (rf Ω 9 0), some (.int x1)]) (by decide) rfl (Nat.le_of_ble_eq_true rfl) rfl (fun hW => ?_)
  unfold fX9_isReached at h
  refine R_aload_n (i := 0) dX9_isReached_0 rfl rfl ?_
  refine R_get foX9_60 hL0 (cE_9 Ω 0 _) rfl dX9_isReached_1 ?_
  refine R_aload_n (i := 0) dX9_isReached_4 rfl rfl ?_
  refine R_get foX9_40 hL0 (cE_9 Ω 0 _) rfl dX9_isReached_5 ?_
  refine R_iconst (v := (-1)) dX9_isReached_8 rfl ?_
  refine R_callVv (ctX3_reach l Ω 0 (-1) (WF.kid hW 9 hL0 rfl) (WF.kid hW 5 hL0 rfl) _ _ (hit_mono (hit_bd h) (fun r1 σ2 h => ?_))) okX3_reach mw_985 (WF.kid hW 9 hL0 rfl) (cE_3 Ω 0 _) rfl rfl (Nat.le_of_ble_eq_true rfl) rfl rfl ⟨by decide, by decide⟩ ⟨Nat.zero_le _, Nat.zero_le _⟩ dX9_isReached_9
  refine R_aload_n (i := 0) dX9_isReached_12 rfl rfl ?_
  refine R_get foX9_60 hL0 (cE_9 Ω 0 _) rfl dX9_isReached_13 ?_
  refine R_iload_n (i := 1) dX9_isReached_16 rfl rfl ?_
  refine R_callVi (ctX3_isSeen l Ω x1 (WF.kid hW 9 hL0 rfl) _ _ (hit_mono (hit_bd h) (fun r3 σ4 h => ?_))) okX3_isSeen mw_1163 (WF.kid hW 9 hL0 rfl) (cE_3 Ω 0 _) rfl rfl (Nat.le_of_ble_eq_true rfl) rfl rfl ⟨by decide, by decide⟩ ⟨Nat.zero_le _, Nat.zero_le _⟩ dX9_isReached_17
  obtain ⟨hz, h⟩ := hit_bz h
  exact R_zret dX9_isReached_20 rfl hz h
set_option maxRecDepth 100000 in
set_option maxHeartbeats 4000000 in
theorem rnX9_thing_j24 {l : Launch} {Ω : rO} (hW : WF Ω)  (σ : rS) {K : Int32 → rS → Prop}  (h : hit (fX9_thing_j24  σ) K) : Run l Ω cX9_thing RX9 4 (some .int) rmX9_thing K 24 [none, none, none, none] [] σ := by
  unfold fX9_thing_j24 at h
  exact (h : False).elim
set_option maxRecDepth 100000 in
set_option maxHeartbeats 4000000 in
theorem ctX9_thing (l : Launch) (Ω : rO) (x1 : Int32) (x2 : Int32) (hL0 : oL Ω 9 0) (σ : rS) (K : Int32 → rS → Prop) (h : hit (fX9_thing x1 x2 σ) K) : Ct l Ω yX9_thing cX9_thing 4 (some .int) rmX9_thing [rf Ω 9 0, .int x1, .int x2] σ K := by
  refine Ct.of (own := RX9) (lv := [some (rf Ω 9 0), some (.int x1), some (.int x2), none]) (by decide) rfl (Nat.le_of_ble_eq_true rfl) rfl (fun hW => ?_)
  unfold fX9_thing at h
  refine R_aload_n (i := 0) dX9_thing_0 rfl rfl ?_
  refine R_get foX9_40 hL0 (cE_9 Ω 0 _) rfl dX9_thing_1 ?_
  refine R_iload_n (i := 1) dX9_thing_4 rfl rfl ?_
  refine R_callVi (ctX7_find l Ω 0 x1 (WF.kid hW 5 hL0 rfl) _ _ (hit_mono (hit_bd h) (fun r1 σ2 h => ?_))) okX7_find mw_563 (WF.kid hW 5 hL0 rfl) (cE_7 Ω 0 _) rfl rfl (Nat.le_of_ble_eq_true rfl) rfl rfl ⟨by decide, by decide⟩ ⟨Nat.zero_le _, Nat.zero_le _⟩ dX9_thing_5
  refine R_istore_n (lv2 := [some (rf Ω 9 0), some (.int x1), some (.int x2), some (.int r1)]) dX9_thing_8 rfl (by decide) rfl rfl ?_
  refine R_iload_n (i := 3) dX9_thing_9 rfl rfl ?_
  refine R_iconst (v := (-1)) dX9_thing_10 rfl ?_
  refine R_icmp_eq (tgt := 24) dX9_thing_11 (by decide) (fun hc => ?_) (fun hc => ?_)
  · have h := hit_t h hc
    refine R_drop (lv2 := [none, some (.int x1), some (.int x2), some (.int r1)]) 0 rfl ?_
    refine R_drop (lv2 := [none, none, some (.int x2), some (.int r1)]) 1 rfl ?_
    refine R_drop (lv2 := [none, none, none, some (.int r1)]) 2 rfl ?_
    refine R_drop (lv2 := [none, none, none, none]) 3 rfl ?_
    exact rnX9_thing_j24 hW  σ2  h
  · have h := hit_f h hc
    refine R_iload_n (i := 2) dX9_thing_14 rfl rfl ?_
    refine R_if_lt (tgt := 24) dX9_thing_15 (by decide) (fun hc => ?_) (fun hc => ?_)
    · have h := hit_t h hc
      refine R_drop (lv2 := [none, some (.int x1), some (.int x2), some (.int r1)]) 0 rfl ?_
      refine R_drop (lv2 := [none, none, some (.int x2), some (.int r1)]) 1 rfl ?_
      refine R_drop (lv2 := [none, none, none, some (.int r1)]) 2 rfl ?_
      refine R_drop (lv2 := [none, none, none, none]) 3 rfl ?_
      exact rnX9_thing_j24 hW  σ2  h
    · have h := hit_f h hc
      refine R_iload_n (i := 2) dX9_thing_18 rfl rfl ?_
      refine R_bipush (v := 7) dX9_thing_19 rfl ?_
      refine R_icmp_le (tgt := 32) dX9_thing_21 (by decide) (fun hc => ?_) (fun hc => ?_)
      · have h := hit_f h hc
        refine R_iload_n (i := 2) dX9_thing_32 rfl rfl ?_
        by_cases hs0 : x2 = 0
        · have h := hit_t h hs0
          refine R_tableIn (tgt := 76) dX9_thing_33 (by rw [hs0]; decide) (by rw [hs0]; decide) (by rw [hs0]; rfl) (by decide) ?_
          refine R_aload_n (i := 0) dX9_thing_76 rfl rfl ?_
          refine R_get foX9_40 hL0 (cE_9 Ω 0 _) rfl dX9_thing_77 ?_
          refine R_get foX9_153 (WF.kid hW 5 hL0 rfl) (cE_7 Ω 0 _) rfl dX9_thing_80 ?_
          refine R_iload_n (i := 3) dX9_thing_83 rfl rfl ?_
          obtain ⟨hb, h⟩ := hit_bnd h
          refine R_iald (WF.kid hW 5 (WF.kid hW 5 hL0 rfl) rfl) (cE_50 Ω 0 _) hb dX9_thing_84 ?_
          exact R_iret dX9_thing_85 rfl h
        · have h := hit_f h hs0
          by_cases hs1 : x2 = 1
          · have h := hit_t h hs1
            refine R_tableIn (tgt := 86) dX9_thing_33 (by rw [hs1]; decide) (by rw [hs1]; decide) (by rw [hs1]; rfl) (by decide) ?_
            refine R_aload_n (i := 0) dX9_thing_86 rfl rfl ?_
            refine R_get foX9_40 hL0 (cE_9 Ω 0 _) rfl dX9_thing_87 ?_
            refine R_get foX9_156 (WF.kid hW 5 hL0 rfl) (cE_7 Ω 0 _) rfl dX9_thing_90 ?_
            refine R_iload_n (i := 3) dX9_thing_93 rfl rfl ?_
            obtain ⟨hb, h⟩ := hit_bnd h
            refine R_iald (WF.kid hW 6 (WF.kid hW 5 hL0 rfl) rfl) (cE_51 Ω 0 _) hb dX9_thing_94 ?_
            exact R_iret dX9_thing_95 rfl h
          · have h := hit_f h hs1
            by_cases hs2 : x2 = 2
            · have h := hit_t h hs2
              refine R_tableIn (tgt := 96) dX9_thing_33 (by rw [hs2]; decide) (by rw [hs2]; decide) (by rw [hs2]; rfl) (by decide) ?_
              refine R_aload_n (i := 0) dX9_thing_96 rfl rfl ?_
              refine R_get foX9_40 hL0 (cE_9 Ω 0 _) rfl dX9_thing_97 ?_
              refine R_get foX9_159 (WF.kid hW 5 hL0 rfl) (cE_7 Ω 0 _) rfl dX9_thing_100 ?_
              refine R_iload_n (i := 3) dX9_thing_103 rfl rfl ?_
              obtain ⟨hb, h⟩ := hit_bnd h
              refine R_iald (WF.kid hW 1 (WF.kid hW 5 hL0 rfl) rfl) (cE_46 Ω 0 _) hb dX9_thing_104 ?_
              exact R_iret dX9_thing_105 rfl h
            · have h := hit_f h hs2
              by_cases hs3 : x2 = 3
              · have h := hit_t h hs3
                refine R_tableIn (tgt := 106) dX9_thing_33 (by rw [hs3]; decide) (by rw [hs3]; decide) (by rw [hs3]; rfl) (by decide) ?_
                refine R_aload_n (i := 0) dX9_thing_106 rfl rfl ?_
                refine R_get foX9_40 hL0 (cE_9 Ω 0 _) rfl dX9_thing_107 ?_
                refine R_get foX9_162 (WF.kid hW 5 hL0 rfl) (cE_7 Ω 0 _) rfl dX9_thing_110 ?_
                refine R_iload_n (i := 3) dX9_thing_113 rfl rfl ?_
                obtain ⟨hb, h⟩ := hit_bnd h
                refine R_iald (WF.kid hW 2 (WF.kid hW 5 hL0 rfl) rfl) (cE_47 Ω 0 _) hb dX9_thing_114 ?_
                exact R_iret dX9_thing_115 rfl h
              · have h := hit_f h hs3
                by_cases hs4 : x2 = 4
                · have h := hit_t h hs4
                  refine R_tableIn (tgt := 116) dX9_thing_33 (by rw [hs4]; decide) (by rw [hs4]; decide) (by rw [hs4]; rfl) (by decide) ?_
                  refine R_aload_n (i := 0) dX9_thing_116 rfl rfl ?_
                  refine R_get foX9_40 hL0 (cE_9 Ω 0 _) rfl dX9_thing_117 ?_
                  refine R_get foX9_165 (WF.kid hW 5 hL0 rfl) (cE_7 Ω 0 _) rfl dX9_thing_120 ?_
                  refine R_iload_n (i := 3) dX9_thing_123 rfl rfl ?_
                  obtain ⟨hb, h⟩ := hit_bnd h
                  refine R_iald (WF.kid hW 3 (WF.kid hW 5 hL0 rfl) rfl) (cE_48 Ω 0 _) hb dX9_thing_124 ?_
                  exact R_iret dX9_thing_125 rfl h
                · have h := hit_f h hs4
                  by_cases hs5 : x2 = 5
                  · have h := hit_t h hs5
                    refine R_tableIn (tgt := 126) dX9_thing_33 (by rw [hs5]; decide) (by rw [hs5]; decide) (by rw [hs5]; rfl) (by decide) ?_
                    refine R_aload_n (i := 0) dX9_thing_126 rfl rfl ?_
                    refine R_get foX9_40 hL0 (cE_9 Ω 0 _) rfl dX9_thing_127 ?_
                    refine R_get foX9_168 (WF.kid hW 5 hL0 rfl) (cE_7 Ω 0 _) rfl dX9_thing_130 ?_
                    refine R_iload_n (i := 3) dX9_thing_133 rfl rfl ?_
                    obtain ⟨hb, h⟩ := hit_bnd h
                    refine R_iald (WF.kid hW 4 (WF.kid hW 5 hL0 rfl) rfl) (cE_49 Ω 0 _) hb dX9_thing_134 ?_
                    exact R_iret dX9_thing_135 rfl h
                  · have h := hit_f h hs5
                    by_cases hs6 : x2 = 6
                    · have h := hit_t h hs6
                      refine R_tableIn (tgt := 136) dX9_thing_33 (by rw [hs6]; decide) (by rw [hs6]; decide) (by rw [hs6]; rfl) (by decide) ?_
                      refine R_aload_n (i := 0) dX9_thing_136 rfl rfl ?_
                      refine R_iload_n (i := 3) dX9_thing_137 rfl rfl ?_
                      refine R_callVi (ctX9_isReached l Ω r1 hL0 _ _ (hit_mono (hit_bd h) (fun r3 σ4 h => ?_))) okX9_isReached mw_1159 hL0 (cE_9 Ω 0 _) rfl rfl (Nat.le_of_ble_eq_true rfl) rfl rfl ⟨by decide, by decide⟩ ⟨Nat.zero_le _, Nat.zero_le _⟩ dX9_thing_138
                      refine R_if_eq (tgt := 148) dX9_thing_141 (by decide) (fun hc => ?_) (fun hc => ?_)
                      · have h := hit_t h hc
                        refine R_iconst (v := 0) dX9_thing_148 rfl ?_
                        exact R_iret dX9_thing_149 rfl h
                      · have h := hit_f h hc
                        refine R_iconst (v := 1) dX9_thing_144 rfl ?_
                        refine R_goto (tgt := 149) dX9_thing_145 (by decide) ?_
                        exact R_iret dX9_thing_149 rfl h
                    · have h := hit_f h hs6
                      refine R_sw (tgt := 150) (lo := 0) (hi := 6) dX9_thing_33 (fun z1 z2 => ?_) (by decide) ?_
                      · have e : x2.toInt = 0 ∨ x2.toInt = 1 ∨ x2.toInt = 2 ∨ x2.toInt = 3 ∨ x2.toInt = 4 ∨ x2.toInt = 5 ∨ x2.toInt = 6 := by omega
                        rcases e with e | e | e | e | e | e | e
                        · exact absurd (Int32.toInt_inj.mp (e.trans (by decide : (0 : Int) = (0 : Int32).toInt))) hs0
                        · exact absurd (Int32.toInt_inj.mp (e.trans (by decide : (1 : Int) = (1 : Int32).toInt))) hs1
                        · exact absurd (Int32.toInt_inj.mp (e.trans (by decide : (2 : Int) = (2 : Int32).toInt))) hs2
                        · exact absurd (Int32.toInt_inj.mp (e.trans (by decide : (3 : Int) = (3 : Int32).toInt))) hs3
                        · exact absurd (Int32.toInt_inj.mp (e.trans (by decide : (4 : Int) = (4 : Int32).toInt))) hs4
                        · exact absurd (Int32.toInt_inj.mp (e.trans (by decide : (5 : Int) = (5 : Int32).toInt))) hs5
                        · exact absurd (Int32.toInt_inj.mp (e.trans (by decide : (6 : Int) = (6 : Int32).toInt))) hs6
                      refine R_aload_n (i := 0) dX9_thing_150 rfl rfl ?_
                      refine R_get foX9_40 hL0 (cE_9 Ω 0 _) rfl dX9_thing_151 ?_
                      refine R_get foX9_174 (WF.kid hW 5 hL0 rfl) (cE_7 Ω 0 _) rfl dX9_thing_154 ?_
                      refine R_iload_n (i := 3) dX9_thing_157 rfl rfl ?_
                      refine R_callVi (ctX4_holds l Ω (6 * 0 + 0) r1 (WF.kid hW 11 (WF.kid hW 5 hL0 rfl) rfl) _ _ (hit_mono (hit_bd h) (fun r5 σ6 h => ?_))) okX4_holds mw_1164 (WF.kid hW 11 (WF.kid hW 5 hL0 rfl) rfl) (cE_4 Ω (6 * 0 + 0) _) rfl rfl (Nat.le_of_ble_eq_true rfl) rfl rfl ⟨by decide, by decide⟩ ⟨Nat.zero_le _, Nat.zero_le _⟩ dX9_thing_158
                      refine R_if_eq (tgt := 168) dX9_thing_161 (by decide) (fun hc => ?_) (fun hc => ?_)
                      · have h := hit_t h hc
                        refine R_iconst (v := 0) dX9_thing_168 rfl ?_
                        exact R_iret dX9_thing_169 rfl h
                      · have h := hit_f h hc
                        refine R_iconst (v := 1) dX9_thing_164 rfl ?_
                        refine R_goto (tgt := 169) dX9_thing_165 (by decide) ?_
                        exact R_iret dX9_thing_169 rfl h
      · have h := hit_t h hc
        refine R_drop (lv2 := [none, some (.int x1), some (.int x2), some (.int r1)]) 0 rfl ?_
        refine R_drop (lv2 := [none, none, some (.int x2), some (.int r1)]) 1 rfl ?_
        refine R_drop (lv2 := [none, none, none, some (.int r1)]) 2 rfl ?_
        refine R_drop (lv2 := [none, none, none, none]) 3 rfl ?_
        exact rnX9_thing_j24 hW  σ2  h
set_option maxRecDepth 100000 in
set_option maxHeartbeats 4000000 in
theorem ctX9_field (l : Launch) (Ω : rO) (x1 : Int32) (x2 : Int32) (hL0 : oL Ω 9 0) (σ : rS) (K : Int32 → rS → Prop) (h : hit (fX9_field x1 x2 σ) K) : Ct l Ω yX9_field cX9_field 4 (some .int) rmX9_field [rf Ω 9 0, .int x1, .int x2] σ K := by
  refine Ct.of (own := RX9) (lv := [some (rf Ω 9 0), some (.int x1), some (.int x2), none]) (by decide) rfl (Nat.le_of_ble_eq_true rfl) rfl (fun hW => ?_)
  unfold fX9_field at h
  refine R_aload_n (i := 0) dX9_field_0 rfl rfl ?_
  refine R_get foX9_40 hL0 (cE_9 Ω 0 _) rfl dX9_field_1 ?_
  refine R_iload_n (i := 1) dX9_field_4 rfl rfl ?_
  refine R_callVi (ctX7_find l Ω 0 x1 (WF.kid hW 5 hL0 rfl) _ _ (hit_mono (hit_bd h) (fun r1 σ2 h => ?_))) okX7_find mw_563 (WF.kid hW 5 hL0 rfl) (cE_7 Ω 0 _) rfl rfl (Nat.le_of_ble_eq_true rfl) rfl rfl ⟨by decide, by decide⟩ ⟨Nat.zero_le _, Nat.zero_le _⟩ dX9_field_5
  refine R_istore_n (lv2 := [some (rf Ω 9 0), some (.int x1), some (.int x2), some (.int r1)]) dX9_field_8 rfl (by decide) rfl rfl ?_
  refine R_aload_n (i := 0) dX9_field_9 rfl rfl ?_
  refine R_get foX9_40 hL0 (cE_9 Ω 0 _) rfl dX9_field_10 ?_
  refine R_iload_n (i := 3) dX9_field_13 rfl rfl ?_
  refine R_iload_n (i := 2) dX9_field_14 rfl rfl ?_
  refine R_callVi (ctX7_hasField l Ω 0 r1 x2 (WF.kid hW 5 hL0 rfl) _ _ (hit_mono (hit_bd h) (fun r3 σ4 h => ?_))) okX7_hasField mw_567 (WF.kid hW 5 hL0 rfl) (cE_7 Ω 0 _) rfl rfl (Nat.le_of_ble_eq_true rfl) rfl rfl ⟨by decide, by decide⟩ ⟨Nat.zero_le _, Nat.zero_le _⟩ dX9_field_15
  refine R_if_eq (tgt := 40) dX9_field_18 (by decide) (fun hc => ?_) (fun hc => ?_)
  · have h := hit_t h hc
    refine R_iconst (v := (-1)) dX9_field_40 rfl ?_
    exact R_iret dX9_field_41 rfl h
  · have h := hit_f h hc
    refine R_aload_n (i := 0) dX9_field_21 rfl rfl ?_
    refine R_get foX9_40 hL0 (cE_9 Ω 0 _) rfl dX9_field_22 ?_
    refine R_aload_n (i := 0) dX9_field_25 rfl rfl ?_
    refine R_get foX9_40 hL0 (cE_9 Ω 0 _) rfl dX9_field_26 ?_
    refine R_iload_n (i := 3) dX9_field_29 rfl rfl ?_
    refine R_iload_n (i := 2) dX9_field_30 rfl rfl ?_
    refine R_callVi (ctX7_target l Ω 0 r1 x2 (WF.kid hW 5 hL0 rfl) _ _ (hit_mono (hit_bd h) (fun r5 σ6 h => ?_))) okX7_target mw_571 (WF.kid hW 5 hL0 rfl) (cE_7 Ω 0 _) rfl rfl (Nat.le_of_ble_eq_true rfl) rfl rfl ⟨by decide, by decide⟩ ⟨Nat.zero_le _, Nat.zero_le _⟩ dX9_field_31
    refine R_callVi (ctX7_numberOf l Ω 0 r5 (WF.kid hW 5 hL0 rfl) _ _ (hit_mono (hit_bd h) (fun r7 σ8 h => ?_))) okX7_numberOf mw_551 (WF.kid hW 5 hL0 rfl) (cE_7 Ω 0 _) rfl rfl (Nat.le_of_ble_eq_true rfl) rfl rfl ⟨by decide, by decide⟩ ⟨Nat.zero_le _, Nat.zero_le _⟩ dX9_field_34
    refine R_goto (tgt := 41) dX9_field_37 (by decide) ?_
    exact R_iret dX9_field_41 rfl h
set_option maxRecDepth 100000 in
set_option maxHeartbeats 4000000 in
theorem ctX9_at (l : Launch) (Ω : rO) (x1 : Int32) (x2 : Int32) (hL0 : oL Ω 9 0) (σ : rS) (K : Int32 → rS → Prop) (h : hit (fX9_at x1 x2 σ) K) : Ct l Ω yX9_at cX9_at 4 (some .int) rmX9_at [rf Ω 9 0, .int x1, .int x2] σ K := by
  refine Ct.of (own := RX9) (lv := [some (rf Ω 9 0), some (.int x1), some (.int x2), none]) (by decide) rfl (Nat.le_of_ble_eq_true rfl) rfl (fun hW => ?_)
  unfold fX9_at at h
  refine R_aload_n (i := 0) dX9_at_0 rfl rfl ?_
  refine R_get foX9_40 hL0 (cE_9 Ω 0 _) rfl dX9_at_1 ?_
  refine R_iload_n (i := 1) dX9_at_4 rfl rfl ?_
  refine R_iload_n (i := 2) dX9_at_5 rfl rfl ?_
  refine R_callVi (ctX7_findAt l Ω 0 x1 x2 (WF.kid hW 5 hL0 rfl) _ _ (hit_mono (hit_bd h) (fun r1 σ2 h => ?_))) okX7_findAt mw_579 (WF.kid hW 5 hL0 rfl) (cE_7 Ω 0 _) rfl rfl (Nat.le_of_ble_eq_true rfl) rfl rfl ⟨by decide, by decide⟩ ⟨Nat.zero_le _, Nat.zero_le _⟩ dX9_at_6
  refine R_istore_n (lv2 := [some (rf Ω 9 0), some (.int x1), some (.int x2), some (.int r1)]) dX9_at_9 rfl (by decide) rfl rfl ?_
  refine R_iload_n (i := 3) dX9_at_10 rfl rfl ?_
  refine R_iconst (v := (-1)) dX9_at_11 rfl ?_
  refine R_icmp_ne (tgt := 19) dX9_at_12 (by decide) (fun hc => ?_) (fun hc => ?_)
  · have h := hit_f h hc
    refine R_aload_n (i := 0) dX9_at_19 rfl rfl ?_
    refine R_get foX9_40 hL0 (cE_9 Ω 0 _) rfl dX9_at_20 ?_
    refine R_iload_n (i := 3) dX9_at_23 rfl rfl ?_
    refine R_callVi (ctX7_numberOf l Ω 0 r1 (WF.kid hW 5 hL0 rfl) _ _ (hit_mono (hit_bd h) (fun r3 σ4 h => ?_))) okX7_numberOf mw_551 (WF.kid hW 5 hL0 rfl) (cE_7 Ω 0 _) rfl rfl (Nat.le_of_ble_eq_true rfl) rfl rfl ⟨by decide, by decide⟩ ⟨Nat.zero_le _, Nat.zero_le _⟩ dX9_at_24
    exact R_iret dX9_at_27 rfl h
  · have h := hit_t h hc
    refine R_iconst (v := (-1)) dX9_at_15 rfl ?_
    refine R_goto (tgt := 27) dX9_at_16 (by decide) ?_
    exact R_iret dX9_at_27 rfl h
set_option maxRecDepth 100000 in
set_option maxHeartbeats 4000000 in
theorem ctX9_status (l : Launch) (Ω : rO) (x1 : Int32) (hL0 : oL Ω 9 0) (σ : rS) (K : Int32 → rS → Prop) (h : hit (fX9_status x1 σ) K) : Ct l Ω yX9_status cX9_status 2 (some .int) rmX9_status [rf Ω 9 0, .int x1] σ K := by
  refine Ct.of (own := RX9) (lv := [some (rf Ω 9 0), some (.int x1)]) (by decide) rfl (Nat.le_of_ble_eq_true rfl) rfl (fun hW => ?_)
  unfold fX9_status at h
  refine R_iload_n (i := 1) dX9_status_0 rfl rfl ?_
  refine R_if_lt (tgt := 18) dX9_status_1 (by decide) (fun hc => ?_) (fun hc => ?_)
  · have h := hit_t h hc
    refine R_iconst (v := (-1)) dX9_status_18 rfl ?_
    exact R_iret dX9_status_19 rfl h
  · have h := hit_f h hc
    refine R_iload_n (i := 1) dX9_status_4 rfl rfl ?_
    refine R_iconst (v := 4) dX9_status_5 rfl ?_
    refine R_icmp_ge (tgt := 18) dX9_status_6 (by decide) (fun hc => ?_) (fun hc => ?_)
    · have h := hit_f h hc
      refine R_iconst (v := (-1)) dX9_status_18 rfl ?_
      exact R_iret dX9_status_19 rfl h
    · have h := hit_t h hc
      refine R_aload_n (i := 0) dX9_status_9 rfl rfl ?_
      refine R_get foX9_82 hL0 (cE_9 Ω 0 _) rfl dX9_status_10 ?_
      refine R_iload_n (i := 1) dX9_status_13 rfl rfl ?_
      obtain ⟨hb, h⟩ := hit_bnd h
      refine R_iald (WF.kid hW 12 hL0 rfl) (cE_22 Ω 0 _) hb dX9_status_14 ?_
      refine R_goto (tgt := 19) dX9_status_15 (by decide) ?_
      exact R_iret dX9_status_19 rfl h
set_option maxRecDepth 100000 in
set_option maxHeartbeats 4000000 in
theorem ctX9_undo (l : Launch) (Ω : rO) (hL0 : oL Ω 9 0) (σ : rS) (hR : RLv Ω σ) (K : Int32 → rS → Prop) (h : hit (fX9_undo  σ) K) : Ct l Ω yX9_undo cX9_undo 1 (some .int) rmX9_undo [rf Ω 9 0] σ K := by
  refine Ct.of (own := RX9) (lv := [some (rf Ω 9 0)]) (by decide) rfl (Nat.le_of_ble_eq_true rfl) rfl (fun hW => ?_)
  unfold fX9_undo at h
  refine R_aload_n (i := 0) dX9_undo_0 rfl rfl ?_
  refine R_get foX9_53 hL0 (cE_9 Ω 0 _) rfl dX9_undo_1 ?_
  refine R_aload_n (i := 0) dX9_undo_4 rfl rfl ?_
  refine R_get foX9_40 hL0 (cE_9 Ω 0 _) rfl dX9_undo_5 ?_
  refine R_callVi (ctX5_takeBack l Ω 0 (WF.kid hW 8 hL0 rfl) (WF.kid hW 5 hL0 rfl) _ hR _ (hit_mono (hit_bd h) (fun r1 σ2 h => ?_))) okX5_takeBack mw_940 (WF.kid hW 8 hL0 rfl) (cE_5 Ω 0 _) rfl rfl (Nat.le_of_ble_eq_true rfl) rfl rfl ⟨by decide, by decide⟩ ⟨Nat.zero_le _, Nat.zero_le _⟩ dX9_undo_8
  refine R_if_eq (tgt := 24) dX9_undo_11 (by decide) (fun hc => ?_) (fun hc => ?_)
  · have h := hit_t h hc
    refine R_iconst (v := (-1)) dX9_undo_24 rfl ?_
    exact R_iret dX9_undo_25 rfl h
  · have h := hit_f h hc
    refine R_aload_n (i := 0) dX9_undo_14 rfl rfl ?_
    refine R_get foX9_53 hL0 (cE_9 Ω 0 _) rfl dX9_undo_15 ?_
    refine R_get foX9_127 (WF.kid hW 8 hL0 rfl) (cE_5 Ω 0 _) rfl dX9_undo_18 ?_
    refine R_goto (tgt := 25) dX9_undo_21 (by decide) ?_
    exact R_iret dX9_undo_25 rfl h
set_option maxRecDepth 100000 in
set_option maxHeartbeats 4000000 in
theorem ctX9_log (l : Launch) (Ω : rO) (x1 : Int32) (x2 : Int32) (hL0 : oL Ω 9 0) (σ : rS) (K : Int32 → rS → Prop) (h : hit (fX9_log x1 x2 σ) K) : Ct l Ω yX9_log cX9_log 5 (some .int) rmX9_log [rf Ω 9 0, .int x1, .int x2] σ K := by
  refine Ct.of (own := RX9) (lv := [some (rf Ω 9 0), some (.int x1), some (.int x2), none, none]) (by decide) rfl (Nat.le_of_ble_eq_true rfl) rfl (fun hW => ?_)
  unfold fX9_log at h
  refine R_aload_n (i := 0) dX9_log_0 rfl rfl ?_
  refine R_get foX9_40 hL0 (cE_9 Ω 0 _) rfl dX9_log_1 ?_
  refine R_get foX9_246 (WF.kid hW 5 hL0 rfl) (cE_7 Ω 0 _) rfl dX9_log_4 ?_
  refine R_get foX9_249 (WF.kid hW 14 (WF.kid hW 5 hL0 rfl) rfl) (cE_4 Ω (6 * 0 + 3) _) rfl dX9_log_7 ?_
  refine R_topi h (fun y1 h => ?_)
  refine R_istore_n (lv2 := [some (rf Ω 9 0), some (.int x1), some (.int x2), some (.int y1), none]) dX9_log_10 rfl (by decide) rfl rfl ?_
  refine R_iload_n (i := 1) dX9_log_11 rfl rfl ?_
  refine R_if_lt (tgt := 29) dX9_log_12 (by decide) (fun hc => ?_) (fun hc => ?_)
  · have h := hit_t h hc
    refine R_ldc (v := (-1000000)) mw_948 dX9_log_29 ?_
    exact R_iret dX9_log_31 rfl h
  · have h := hit_f h hc
    refine R_iload_n (i := 1) dX9_log_15 rfl rfl ?_
    refine R_iload_n (i := 3) dX9_log_16 rfl rfl ?_
    refine R_icmp_ge (tgt := 29) dX9_log_17 (by decide) (fun hc => ?_) (fun hc => ?_)
    · have h := hit_f h hc
      refine R_ldc (v := (-1000000)) mw_948 dX9_log_29 ?_
      exact R_iret dX9_log_31 rfl h
    · have h := hit_t h hc
      refine R_iload_n (i := 2) dX9_log_20 rfl rfl ?_
      refine R_if_lt (tgt := 29) dX9_log_21 (by decide) (fun hc => ?_) (fun hc => ?_)
      · have h := hit_t h hc
        refine R_ldc (v := (-1000000)) mw_948 dX9_log_29 ?_
        exact R_iret dX9_log_31 rfl h
      · have h := hit_f h hc
        refine R_iload_n (i := 2) dX9_log_24 rfl rfl ?_
        refine R_iconst (v := 2) dX9_log_25 rfl ?_
        refine R_icmp_le (tgt := 32) dX9_log_26 (by decide) (fun hc => ?_) (fun hc => ?_)
        · have h := hit_f h hc
          refine R_iload_n (i := 3) dX9_log_32 rfl rfl ?_
          refine R_iconst (v := 1) dX9_log_33 rfl ?_
          refine R_isub dX9_log_34 ?_
          refine R_iload_n (i := 1) dX9_log_35 rfl rfl ?_
          refine R_isub dX9_log_36 ?_
          refine R_topi h (fun y2 h => ?_)
          refine R_istore (lv2 := [some (rf Ω 9 0), some (.int x1), some (.int x2), some (.int y1), some (.int y2)]) dX9_log_37 (by decide) rfl rfl ?_
          refine R_iload_n (i := 2) dX9_log_39 rfl rfl ?_
          refine R_if_ne (tgt := 56) dX9_log_40 (by decide) (fun hc => ?_) (fun hc => ?_)
          · have h := hit_f h hc
            refine R_iload_n (i := 2) dX9_log_56 rfl rfl ?_
            refine R_iconst (v := 1) dX9_log_57 rfl ?_
            refine R_icmp_ne (tgt := 76) dX9_log_58 (by decide) (fun hc => ?_) (fun hc => ?_)
            · have h := hit_f h hc
              refine R_aload_n (i := 0) dX9_log_76 rfl rfl ?_
              refine R_get foX9_40 hL0 (cE_9 Ω 0 _) rfl dX9_log_77 ?_
              refine R_get foX9_257 (WF.kid hW 5 hL0 rfl) (cE_7 Ω 0 _) rfl dX9_log_80 ?_
              refine R_iload (i := 4) dX9_log_83 rfl ?_
              refine R_callVi (ctX4_get l Ω (6 * 0 + 5) y2 (WF.kid hW 16 (WF.kid hW 5 hL0 rfl) rfl) _ _ (hit_mono (hit_bd h) (fun r3 σ4 h => ?_))) okX4_get mw_949 (WF.kid hW 16 (WF.kid hW 5 hL0 rfl) rfl) (cE_4 Ω (6 * 0 + 5) _) rfl rfl (Nat.le_of_ble_eq_true rfl) rfl rfl ⟨by decide, by decide⟩ ⟨Nat.zero_le _, Nat.zero_le _⟩ dX9_log_85
              exact R_iret dX9_log_88 rfl h
            · have h := hit_t h hc
              refine R_aload_n (i := 0) dX9_log_61 rfl rfl ?_
              refine R_get foX9_40 hL0 (cE_9 Ω 0 _) rfl dX9_log_62 ?_
              refine R_get foX9_254 (WF.kid hW 5 hL0 rfl) (cE_7 Ω 0 _) rfl dX9_log_65 ?_
              refine R_iload (i := 4) dX9_log_68 rfl ?_
              refine R_callVi (ctX4_get l Ω (6 * 0 + 4) y2 (WF.kid hW 15 (WF.kid hW 5 hL0 rfl) rfl) _ _ (hit_mono (hit_bd h) (fun r5 σ6 h => ?_))) okX4_get mw_949 (WF.kid hW 15 (WF.kid hW 5 hL0 rfl) rfl) (cE_4 Ω (6 * 0 + 4) _) rfl rfl (Nat.le_of_ble_eq_true rfl) rfl rfl ⟨by decide, by decide⟩ ⟨Nat.zero_le _, Nat.zero_le _⟩ dX9_log_70
              refine R_goto (tgt := 88) dX9_log_73 (by decide) ?_
              exact R_iret dX9_log_88 rfl h
          · have h := hit_t h hc
            refine R_aload_n (i := 0) dX9_log_43 rfl rfl ?_
            refine R_get foX9_40 hL0 (cE_9 Ω 0 _) rfl dX9_log_44 ?_
            refine R_get foX9_246 (WF.kid hW 5 hL0 rfl) (cE_7 Ω 0 _) rfl dX9_log_47 ?_
            refine R_iload (i := 4) dX9_log_50 rfl ?_
            refine R_callVi (ctX4_get l Ω (6 * 0 + 3) y2 (WF.kid hW 14 (WF.kid hW 5 hL0 rfl) rfl) _ _ (hit_mono (hit_bd h) (fun r7 σ8 h => ?_))) okX4_get mw_949 (WF.kid hW 14 (WF.kid hW 5 hL0 rfl) rfl) (cE_4 Ω (6 * 0 + 3) _) rfl rfl (Nat.le_of_ble_eq_true rfl) rfl rfl ⟨by decide, by decide⟩ ⟨Nat.zero_le _, Nat.zero_le _⟩ dX9_log_52
            exact R_iret dX9_log_55 rfl h
        · have h := hit_t h hc
          refine R_ldc (v := (-1000000)) mw_948 dX9_log_29 ?_
          exact R_iret dX9_log_31 rfl h
set_option maxRecDepth 100000 in
set_option maxHeartbeats 4000000 in
theorem ctX9_remembered (l : Launch) (Ω : rO) (x1 : Int32) (x2 : Int32) (hL0 : oL Ω 9 0) (σ : rS) (K : Int32 → rS → Prop) (h : hit (fX9_remembered x1 x2 σ) K) : Ct l Ω yX9_remembered cX9_remembered 4 (some .int) rmX9_remembered [rf Ω 9 0, .int x1, .int x2] σ K := by
  refine Ct.of (own := RX9) (lv := [some (rf Ω 9 0), some (.int x1), some (.int x2), none]) (by decide) rfl (Nat.le_of_ble_eq_true rfl) rfl (fun hW => ?_)
  unfold fX9_remembered at h
  refine R_aload_n (i := 0) dX9_remembered_0 rfl rfl ?_
  refine R_get foX9_117 hL0 (cE_9 Ω 0 _) rfl dX9_remembered_1 ?_
  refine R_if_ne (tgt := 9) dX9_remembered_4 (by decide) (fun hc => ?_) (fun hc => ?_)
  · have h := hit_f h hc
    refine R_iload_n (i := 1) dX9_remembered_9 rfl rfl ?_
    refine R_iconst (v := (-1)) dX9_remembered_10 rfl ?_
    refine R_icmp_ne (tgt := 25) dX9_remembered_11 (by decide) (fun hc => ?_) (fun hc => ?_)
    · have h := hit_f h hc
      refine R_iload_n (i := 1) dX9_remembered_25 rfl rfl ?_
      refine R_if_lt (tgt := 52) dX9_remembered_26 (by decide) (fun hc => ?_) (fun hc => ?_)
      · have h := hit_t h hc
        refine R_iconst (v := (-1)) dX9_remembered_52 rfl ?_
        exact R_iret dX9_remembered_53 rfl h
      · have h := hit_f h hc
        refine R_iload_n (i := 1) dX9_remembered_29 rfl rfl ?_
        refine R_aload_n (i := 0) dX9_remembered_30 rfl rfl ?_
        refine R_get foX9_40 hL0 (cE_9 Ω 0 _) rfl dX9_remembered_31 ?_
        refine R_get foX9_260 (WF.kid hW 5 hL0 rfl) (cE_7 Ω 0 _) rfl dX9_remembered_34 ?_
        refine R_get foX9_249 (WF.kid hW 13 (WF.kid hW 5 hL0 rfl) rfl) (cE_4 Ω (6 * 0 + 2) _) rfl dX9_remembered_37 ?_
        refine R_icmp_ge (tgt := 52) dX9_remembered_40 (by decide) (fun hc => ?_) (fun hc => ?_)
        · have h := hit_f h hc
          refine R_iconst (v := (-1)) dX9_remembered_52 rfl ?_
          exact R_iret dX9_remembered_53 rfl h
        · have h := hit_t h hc
          refine R_iload_n (i := 2) dX9_remembered_43 rfl rfl ?_
          refine R_if_lt (tgt := 52) dX9_remembered_44 (by decide) (fun hc => ?_) (fun hc => ?_)
          · have h := hit_t h hc
            refine R_iconst (v := (-1)) dX9_remembered_52 rfl ?_
            exact R_iret dX9_remembered_53 rfl h
          · have h := hit_f h hc
            refine R_iload_n (i := 2) dX9_remembered_47 rfl rfl ?_
            refine R_iconst (v := 1) dX9_remembered_48 rfl ?_
            refine R_icmp_le (tgt := 54) dX9_remembered_49 (by decide) (fun hc => ?_) (fun hc => ?_)
            · have h := hit_f h hc
              refine R_aload_n (i := 0) dX9_remembered_54 rfl rfl ?_
              refine R_get foX9_40 hL0 (cE_9 Ω 0 _) rfl dX9_remembered_55 ?_
              refine R_get foX9_260 (WF.kid hW 5 hL0 rfl) (cE_7 Ω 0 _) rfl dX9_remembered_58 ?_
              refine R_iload_n (i := 1) dX9_remembered_61 rfl rfl ?_
              refine R_callVi (ctX4_get l Ω (6 * 0 + 2) x1 (WF.kid hW 13 (WF.kid hW 5 hL0 rfl) rfl) _ _ (hit_mono (hit_bd h) (fun r1 σ2 h => ?_))) okX4_get mw_949 (WF.kid hW 13 (WF.kid hW 5 hL0 rfl) rfl) (cE_4 Ω (6 * 0 + 2) _) rfl rfl (Nat.le_of_ble_eq_true rfl) rfl rfl ⟨by decide, by decide⟩ ⟨Nat.zero_le _, Nat.zero_le _⟩ dX9_remembered_62
              refine R_istore_n (lv2 := [some (rf Ω 9 0), some (.int x1), some (.int x2), some (.int r1)]) dX9_remembered_65 rfl (by decide) rfl rfl ?_
              refine R_iload_n (i := 2) dX9_remembered_66 rfl rfl ?_
              refine R_if_ne (tgt := 83) dX9_remembered_67 (by decide) (fun hc => ?_) (fun hc => ?_)
              · have h := hit_f h hc
                refine R_iload_n (i := 3) dX9_remembered_83 rfl rfl ?_
                refine R_iconst (v := 4) dX9_remembered_84 rfl ?_
                refine R_irem dX9_remembered_85 (by decide) ?_
                exact R_iret dX9_remembered_86 rfl h
              · have h := hit_t h hc
                refine R_aload_n (i := 0) dX9_remembered_70 rfl rfl ?_
                refine R_get foX9_40 hL0 (cE_9 Ω 0 _) rfl dX9_remembered_71 ?_
                refine R_iload_n (i := 3) dX9_remembered_74 rfl rfl ?_
                refine R_iconst (v := 4) dX9_remembered_75 rfl ?_
                refine R_idiv dX9_remembered_76 (by decide) ?_
                refine R_callVi (ctX7_numberOf l Ω 0 (r1 / 4) (WF.kid hW 5 hL0 rfl) _ _ (hit_mono (hit_bd h) (fun r3 σ4 h => ?_))) okX7_numberOf mw_551 (WF.kid hW 5 hL0 rfl) (cE_7 Ω 0 _) rfl rfl (Nat.le_of_ble_eq_true rfl) rfl rfl ⟨by decide, by decide⟩ ⟨Nat.zero_le _, Nat.zero_le _⟩ dX9_remembered_77
                refine R_goto (tgt := 86) dX9_remembered_80 (by decide) ?_
                exact R_iret dX9_remembered_86 rfl h
            · have h := hit_t h hc
              refine R_iconst (v := (-1)) dX9_remembered_52 rfl ?_
              exact R_iret dX9_remembered_53 rfl h
    · have h := hit_t h hc
      refine R_aload_n (i := 0) dX9_remembered_14 rfl rfl ?_
      refine R_get foX9_40 hL0 (cE_9 Ω 0 _) rfl dX9_remembered_15 ?_
      refine R_get foX9_260 (WF.kid hW 5 hL0 rfl) (cE_7 Ω 0 _) rfl dX9_remembered_18 ?_
      refine R_get foX9_249 (WF.kid hW 13 (WF.kid hW 5 hL0 rfl) rfl) (cE_4 Ω (6 * 0 + 2) _) rfl dX9_remembered_21 ?_
      exact R_iret dX9_remembered_24 rfl h
  · have h := hit_t h hc
    refine R_iconst (v := (-1)) dX9_remembered_7 rfl ?_
    exact R_iret dX9_remembered_8 rfl h
set_option maxRecDepth 100000 in
set_option maxHeartbeats 4000000 in
theorem rnX9_line_j39 {l : Launch} {Ω : rO} (hW : WF Ω) (x1 : Int32) (x2 : Int32) (kz0 : Nat) (hL0 : oL Ω 9 0) (hz0 : oL Ω 4 kz0) (σ : rS) {K : Int32 → rS → Prop}  (h : hit (fX9_line_j39 x1 x2 kz0 σ) K) : Run l Ω cX9_line RX9 4 (some .int) rmX9_line K 39 [some (rf Ω 9 0), some (.int x1), some (.int x2), none] [rf Ω 4 kz0] σ := by
  unfold fX9_line_j39 at h
  refine R_astore_n (lv2 := [some (rf Ω 9 0), some (.int x1), some (.int x2), some (rf Ω 4 kz0)]) dX9_line_39 rfl (by decide) rfl rfl ?_
  refine R_iload_n (i := 2) dX9_line_40 rfl rfl ?_
  refine R_iconst (v := (-1)) dX9_line_41 rfl ?_
  refine R_icmp_ne (tgt := 50) dX9_line_42 (by decide) (fun hc => ?_) (fun hc => ?_)
  · have h := hit_f h hc
    refine R_iload_n (i := 2) dX9_line_50 rfl rfl ?_
    refine R_if_lt (tgt := 62) dX9_line_51 (by decide) (fun hc => ?_) (fun hc => ?_)
    · have h := hit_t h hc
      refine R_iconst (v := (-1)) dX9_line_62 rfl ?_
      exact R_iret dX9_line_63 rfl h
    · have h := hit_f h hc
      refine R_iload_n (i := 2) dX9_line_54 rfl rfl ?_
      refine R_aload_n (i := 3) dX9_line_55 rfl rfl ?_
      refine R_get foX9_249 hz0 (cE_4 Ω kz0 _) rfl dX9_line_56 ?_
      refine R_icmp_lt (tgt := 64) dX9_line_59 (by decide) (fun hc => ?_) (fun hc => ?_)
      · have h := hit_t h hc
        refine R_iload_n (i := 1) dX9_line_64 rfl rfl ?_
        refine R_if_ne (tgt := 83) dX9_line_65 (by decide) (fun hc => ?_) (fun hc => ?_)
        · have h := hit_f h hc
          refine R_aload_n (i := 3) dX9_line_83 rfl rfl ?_
          refine R_iload_n (i := 2) dX9_line_84 rfl rfl ?_
          refine R_callVi (ctX4_get l Ω kz0 x2 hz0 _ _ (hit_mono (hit_bd h) (fun r1 σ2 h => ?_))) okX4_get mw_949 hz0 (cE_4 Ω kz0 _) rfl rfl (Nat.le_of_ble_eq_true rfl) rfl rfl ⟨by decide, by decide⟩ ⟨Nat.zero_le _, Nat.zero_le _⟩ dX9_line_85
          exact R_iret dX9_line_88 rfl h
        · have h := hit_t h hc
          refine R_aload_n (i := 0) dX9_line_68 rfl rfl ?_
          refine R_get foX9_40 hL0 (cE_9 Ω 0 _) rfl dX9_line_69 ?_
          refine R_aload_n (i := 3) dX9_line_72 rfl rfl ?_
          refine R_iload_n (i := 2) dX9_line_73 rfl rfl ?_
          refine R_callVi (ctX4_get l Ω kz0 x2 hz0 _ _ (hit_mono (hit_bd h) (fun r3 σ4 h => ?_))) okX4_get mw_949 hz0 (cE_4 Ω kz0 _) rfl rfl (Nat.le_of_ble_eq_true rfl) rfl rfl ⟨by decide, by decide⟩ ⟨Nat.zero_le _, Nat.zero_le _⟩ dX9_line_74
          refine R_callVi (ctX7_numberOf l Ω 0 r3 (WF.kid hW 5 hL0 rfl) _ _ (hit_mono (hit_bd h) (fun r5 σ6 h => ?_))) okX7_numberOf mw_551 (WF.kid hW 5 hL0 rfl) (cE_7 Ω 0 _) rfl rfl (Nat.le_of_ble_eq_true rfl) rfl rfl ⟨by decide, by decide⟩ ⟨Nat.zero_le _, Nat.zero_le _⟩ dX9_line_77
          refine R_goto (tgt := 88) dX9_line_80 (by decide) ?_
          exact R_iret dX9_line_88 rfl h
      · have h := hit_f h hc
        refine R_iconst (v := (-1)) dX9_line_62 rfl ?_
        exact R_iret dX9_line_63 rfl h
  · have h := hit_t h hc
    refine R_aload_n (i := 3) dX9_line_45 rfl rfl ?_
    refine R_get foX9_249 hz0 (cE_4 Ω kz0 _) rfl dX9_line_46 ?_
    exact R_iret dX9_line_49 rfl h
set_option maxRecDepth 100000 in
set_option maxHeartbeats 4000000 in
theorem ctX9_line (l : Launch) (Ω : rO) (x1 : Int32) (x2 : Int32) (hL0 : oL Ω 9 0) (σ : rS) (K : Int32 → rS → Prop) (h : hit (fX9_line x1 x2 σ) K) : Ct l Ω yX9_line cX9_line 4 (some .int) rmX9_line [rf Ω 9 0, .int x1, .int x2] σ K := by
  refine Ct.of (own := RX9) (lv := [some (rf Ω 9 0), some (.int x1), some (.int x2), none]) (by decide) rfl (Nat.le_of_ble_eq_true rfl) rfl (fun hW => ?_)
  unfold fX9_line at h
  refine R_aload_n (i := 0) dX9_line_0 rfl rfl ?_
  refine R_get foX9_117 hL0 (cE_9 Ω 0 _) rfl dX9_line_1 ?_
  refine R_if_eq (tgt := 16) dX9_line_4 (by decide) (fun hc => ?_) (fun hc => ?_)
  · have h := hit_t h hc
    refine R_iconst (v := (-1)) dX9_line_16 rfl ?_
    exact R_iret dX9_line_17 rfl h
  · have h := hit_f h hc
    refine R_iload_n (i := 1) dX9_line_7 rfl rfl ?_
    refine R_if_lt (tgt := 16) dX9_line_8 (by decide) (fun hc => ?_) (fun hc => ?_)
    · have h := hit_t h hc
      refine R_iconst (v := (-1)) dX9_line_16 rfl ?_
      exact R_iret dX9_line_17 rfl h
    · have h := hit_f h hc
      refine R_iload_n (i := 1) dX9_line_11 rfl rfl ?_
      refine R_iconst (v := 1) dX9_line_12 rfl ?_
      refine R_icmp_le (tgt := 18) dX9_line_13 (by decide) (fun hc => ?_) (fun hc => ?_)
      · have h := hit_f h hc
        refine R_iload_n (i := 1) dX9_line_18 rfl rfl ?_
        refine R_if_ne (tgt := 32) dX9_line_19 (by decide) (fun hc => ?_) (fun hc => ?_)
        · have h := hit_f h hc
          refine R_aload_n (i := 0) dX9_line_32 rfl rfl ?_
          refine R_get foX9_40 hL0 (cE_9 Ω 0 _) rfl dX9_line_33 ?_
          refine R_get foX9_263 (WF.kid hW 5 hL0 rfl) (cE_7 Ω 0 _) rfl dX9_line_36 ?_
          exact rnX9_line_j39 hW x1 x2 (6 * 0 + 1) hL0 (WF.kid hW 12 (WF.kid hW 5 hL0 rfl) rfl) σ  h
        · have h := hit_t h hc
          refine R_aload_n (i := 0) dX9_line_22 rfl rfl ?_
          refine R_get foX9_40 hL0 (cE_9 Ω 0 _) rfl dX9_line_23 ?_
          refine R_get foX9_174 (WF.kid hW 5 hL0 rfl) (cE_7 Ω 0 _) rfl dX9_line_26 ?_
          refine R_goto (tgt := 39) dX9_line_29 (by decide) ?_
          exact rnX9_line_j39 hW x1 x2 (6 * 0 + 0) hL0 (WF.kid hW 11 (WF.kid hW 5 hL0 rfl) rfl) σ  h
      · have h := hit_t h hc
        refine R_iconst (v := (-1)) dX9_line_16 rfl ?_
        exact R_iret dX9_line_17 rfl h
set_option maxRecDepth 100000 in
set_option maxHeartbeats 4000000 in
theorem ctX9_would (l : Launch) (Ω : rO) (x1 : Int32) (x2 : Int32) (hL0 : oL Ω 9 0) (σ : rS) (K : Int32 → rS → Prop) (h : hit (fX9_would x1 x2 σ) K) : Ct l Ω yX9_would cX9_would 3 (some .int) rmX9_would [rf Ω 9 0, .int x1, .int x2] σ K := by
  refine Ct.of (own := RX9) (lv := [some (rf Ω 9 0), some (.int x1), some (.int x2)]) (by decide) rfl (Nat.le_of_ble_eq_true rfl) rfl (fun hW => ?_)
  unfold fX9_would at h
  refine R_aload_n (i := 0) dX9_would_0 rfl rfl ?_
  refine R_get foX9_117 hL0 (cE_9 Ω 0 _) rfl dX9_would_1 ?_
  refine R_if_eq (tgt := 16) dX9_would_4 (by decide) (fun hc => ?_) (fun hc => ?_)
  · have h := hit_t h hc
    refine R_iconst (v := (-1)) dX9_would_16 rfl ?_
    exact R_iret dX9_would_17 rfl h
  · have h := hit_f h hc
    refine R_iload_n (i := 2) dX9_would_7 rfl rfl ?_
    refine R_if_lt (tgt := 16) dX9_would_8 (by decide) (fun hc => ?_) (fun hc => ?_)
    · have h := hit_t h hc
      refine R_iconst (v := (-1)) dX9_would_16 rfl ?_
      exact R_iret dX9_would_17 rfl h
    · have h := hit_f h hc
      refine R_iload_n (i := 2) dX9_would_11 rfl rfl ?_
      refine R_iconst (v := 5) dX9_would_12 rfl ?_
      refine R_icmp_lt (tgt := 18) dX9_would_13 (by decide) (fun hc => ?_) (fun hc => ?_)
      · have h := hit_t h hc
        refine R_aload_n (i := 0) dX9_would_18 rfl rfl ?_
        refine R_get foX9_47 hL0 (cE_9 Ω 0 _) rfl dX9_would_19 ?_
        refine R_aload_n (i := 0) dX9_would_22 rfl rfl ?_
        refine R_get foX9_40 hL0 (cE_9 Ω 0 _) rfl dX9_would_23 ?_
        refine R_callVv (ctX7_copyFrom l Ω 2 0 (WF.kid hW 7 hL0 rfl) (WF.kid hW 5 hL0 rfl) _ _ (hit_mono (hit_bd h) (fun r1 σ2 h => ?_))) okX7_copyFrom mw_962 (WF.kid hW 7 hL0 rfl) (cE_7 Ω 2 _) rfl rfl (Nat.le_of_ble_eq_true rfl) rfl rfl ⟨by decide, by decide⟩ ⟨Nat.zero_le _, Nat.zero_le _⟩ dX9_would_26
        refine R_iload_n (i := 1) dX9_would_29 rfl rfl ?_
        refine R_if_eq (tgt := 47) dX9_would_30 (by decide) (fun hc => ?_) (fun hc => ?_)
        · have h := hit_t h hc
          refine R_aload_n (i := 0) dX9_would_47 rfl rfl ?_
          refine R_get foX9_69 hL0 (cE_9 Ω 0 _) rfl dX9_would_48 ?_
          refine R_aload_n (i := 0) dX9_would_51 rfl rfl ?_
          refine R_get foX9_47 hL0 (cE_9 Ω 0 _) rfl dX9_would_52 ?_
          refine R_callVi (ctX1_collectYoung l Ω 2 (WF.kid hW 10 hL0 rfl) (WF.kid hW 7 hL0 rfl) _ _ (hit_mono (hit_bd h) (fun r3 σ4 h => ?_))) okX1_collectYoung mw_964 (WF.kid hW 10 hL0 rfl) (cE_1 Ω 0 _) rfl rfl (Nat.le_of_ble_eq_true rfl) rfl rfl ⟨by decide, by decide⟩ ⟨Nat.zero_le _, Nat.zero_le _⟩ dX9_would_55
          refine R_if_ne (tgt := 63) dX9_would_58 (by decide) (fun hc => ?_) (fun hc => ?_)
          · have h := hit_f h hc
            refine R_aload_n (i := 0) dX9_would_63 rfl rfl ?_
            refine R_get foX9_69 hL0 (cE_9 Ω 0 _) rfl dX9_would_64 ?_
            refine R_get foX9_275 (WF.kid hW 10 hL0 rfl) (cE_1 Ω 0 _) rfl dX9_would_67 ?_
            refine R_iload_n (i := 2) dX9_would_70 rfl rfl ?_
            obtain ⟨hb, h⟩ := hit_bnd h
            refine R_iald (WF.kid hW 2 (WF.kid hW 10 hL0 rfl) rfl) (cE_37 Ω 0 _) hb dX9_would_71 ?_
            exact R_iret dX9_would_72 rfl h
          · have h := hit_t h hc
            refine R_iconst (v := (-1)) dX9_would_61 rfl ?_
            exact R_iret dX9_would_62 rfl h
        · have h := hit_f h hc
          refine R_aload_n (i := 0) dX9_would_33 rfl rfl ?_
          refine R_get foX9_69 hL0 (cE_9 Ω 0 _) rfl dX9_would_34 ?_
          refine R_aload_n (i := 0) dX9_would_37 rfl rfl ?_
          refine R_get foX9_47 hL0 (cE_9 Ω 0 _) rfl dX9_would_38 ?_
          refine R_callVv (ctX1_collectAll l Ω 2 (WF.kid hW 10 hL0 rfl) (WF.kid hW 7 hL0 rfl) _ _ (hit_mono (hit_bd h) (fun r5 σ6 h => ?_))) okX1_collectAll mw_963 (WF.kid hW 10 hL0 rfl) (cE_1 Ω 0 _) rfl rfl (Nat.le_of_ble_eq_true rfl) rfl rfl ⟨by decide, by decide⟩ ⟨Nat.zero_le _, Nat.zero_le _⟩ dX9_would_41
          refine R_goto (tgt := 63) dX9_would_44 (by decide) ?_
          refine R_aload_n (i := 0) dX9_would_63 rfl rfl ?_
          refine R_get foX9_69 hL0 (cE_9 Ω 0 _) rfl dX9_would_64 ?_
          refine R_get foX9_275 (WF.kid hW 10 hL0 rfl) (cE_1 Ω 0 _) rfl dX9_would_67 ?_
          refine R_iload_n (i := 2) dX9_would_70 rfl rfl ?_
          obtain ⟨hb, h⟩ := hit_bnd h
          refine R_iald (WF.kid hW 2 (WF.kid hW 10 hL0 rfl) rfl) (cE_37 Ω 0 _) hb dX9_would_71 ?_
          exact R_iret dX9_would_72 rfl h
      · have h := hit_f h hc
        refine R_iconst (v := (-1)) dX9_would_16 rfl ?_
        exact R_iret dX9_would_17 rfl h
set_option maxRecDepth 100000 in
set_option maxHeartbeats 4000000 in
theorem ctX9_path (l : Launch) (Ω : rO) (x1 : Int32) (x2 : Int32) (hL0 : oL Ω 9 0) (σ : rS) (K : Int32 → rS → Prop) (h : hit (fX9_path x1 x2 σ) K) : Ct l Ω yX9_path cX9_path 4 (some .int) rmX9_path [rf Ω 9 0, .int x1, .int x2] σ K := by
  refine Ct.of (own := RX9) (lv := [some (rf Ω 9 0), some (.int x1), some (.int x2), none]) (by decide) rfl (Nat.le_of_ble_eq_true rfl) rfl (fun hW => ?_)
  unfold fX9_path at h
  refine R_aload_n (i := 0) dX9_path_0 rfl rfl ?_
  refine R_get foX9_40 hL0 (cE_9 Ω 0 _) rfl dX9_path_1 ?_
  refine R_iload_n (i := 1) dX9_path_4 rfl rfl ?_
  refine R_callVi (ctX7_find l Ω 0 x1 (WF.kid hW 5 hL0 rfl) _ _ (hit_mono (hit_bd h) (fun r1 σ2 h => ?_))) okX7_find mw_563 (WF.kid hW 5 hL0 rfl) (cE_7 Ω 0 _) rfl rfl (Nat.le_of_ble_eq_true rfl) rfl rfl ⟨by decide, by decide⟩ ⟨Nat.zero_le _, Nat.zero_le _⟩ dX9_path_5
  refine R_istore_n (lv2 := [some (rf Ω 9 0), some (.int x1), some (.int x2), some (.int r1)]) dX9_path_8 rfl (by decide) rfl rfl ?_
  refine R_iload_n (i := 3) dX9_path_9 rfl rfl ?_
  refine R_iconst (v := (-1)) dX9_path_10 rfl ?_
  refine R_icmp_ne (tgt := 16) dX9_path_11 (by decide) (fun hc => ?_) (fun hc => ?_)
  · have h := hit_f h hc
    refine R_aload_n (i := 0) dX9_path_16 rfl rfl ?_
    refine R_get foX9_60 hL0 (cE_9 Ω 0 _) rfl dX9_path_17 ?_
    refine R_aload_n (i := 0) dX9_path_20 rfl rfl ?_
    refine R_get foX9_40 hL0 (cE_9 Ω 0 _) rfl dX9_path_21 ?_
    refine R_callVv (ctX3_findWays l Ω 0 (WF.kid hW 9 hL0 rfl) (WF.kid hW 5 hL0 rfl) _ _ (hit_mono (hit_bd h) (fun r3 σ4 h => ?_))) okX3_findWays mw_969 (WF.kid hW 9 hL0 rfl) (cE_3 Ω 0 _) rfl rfl (Nat.le_of_ble_eq_true rfl) rfl rfl ⟨by decide, by decide⟩ ⟨Nat.zero_le _, Nat.zero_le _⟩ dX9_path_24
    refine R_aload_n (i := 0) dX9_path_27 rfl rfl ?_
    refine R_get foX9_60 hL0 (cE_9 Ω 0 _) rfl dX9_path_28 ?_
    refine R_aload_n (i := 0) dX9_path_31 rfl rfl ?_
    refine R_get foX9_40 hL0 (cE_9 Ω 0 _) rfl dX9_path_32 ?_
    refine R_iload_n (i := 3) dX9_path_35 rfl rfl ?_
    refine R_iload_n (i := 2) dX9_path_36 rfl rfl ?_
    refine R_callVi (ctX3_wayTo l Ω 0 r1 x2 (WF.kid hW 9 hL0 rfl) (WF.kid hW 5 hL0 rfl) _ _ (hit_mono (hit_bd h) (fun r5 σ6 h => ?_))) okX3_wayTo mw_973 (WF.kid hW 9 hL0 rfl) (cE_3 Ω 0 _) rfl rfl (Nat.le_of_ble_eq_true rfl) rfl rfl ⟨by decide, by decide⟩ ⟨Nat.zero_le _, Nat.zero_le _⟩ dX9_path_37
    exact R_iret dX9_path_40 rfl h
  · have h := hit_t h hc
    refine R_iconst (v := (-1)) dX9_path_14 rfl ?_
    exact R_iret dX9_path_15 rfl h
set_option maxRecDepth 100000 in
set_option maxHeartbeats 4000000 in
theorem rnX9_alone_j75 {l : Launch} {Ω : rO} (hW : WF Ω) (x1 : Int32) (x2 : Int32) (z0 : Int32) (hL0 : oL Ω 9 0) (σ : rS) {K : Int32 → rS → Prop}  (h : hit (fX9_alone_j75 x1 x2 z0 σ) K) : Run l Ω cX9_alone RX9 5 (some .int) rmX9_alone K 75 [some (rf Ω 9 0), some (.int x1), some (.int x2), none, none] [.int z0] σ := by
  unfold fX9_alone_j75 at h
  refine R_istore_n (lv2 := [some (rf Ω 9 0), some (.int x1), some (.int x2), some (.int z0), none]) dX9_alone_75 rfl (by decide) rfl rfl ?_
  refine R_aload_n (i := 0) dX9_alone_76 rfl rfl ?_
  refine R_get foX9_60 hL0 (cE_9 Ω 0 _) rfl dX9_alone_77 ?_
  refine R_aload_n (i := 0) dX9_alone_80 rfl rfl ?_
  refine R_get foX9_40 hL0 (cE_9 Ω 0 _) rfl dX9_alone_81 ?_
  refine R_iload_n (i := 1) dX9_alone_84 rfl rfl ?_
  refine R_callVv (ctX3_reach l Ω 0 x1 (WF.kid hW 9 hL0 rfl) (WF.kid hW 5 hL0 rfl) _ _ (hit_mono (hit_bd h) (fun r7 σ8 h => ?_))) okX3_reach mw_985 (WF.kid hW 9 hL0 rfl) (cE_3 Ω 0 _) rfl rfl (Nat.le_of_ble_eq_true rfl) rfl rfl ⟨by decide, by decide⟩ ⟨Nat.zero_le _, Nat.zero_le _⟩ dX9_alone_85
  refine R_iload_n (i := 2) dX9_alone_88 rfl rfl ?_
  refine R_if_ne (tgt := 102) dX9_alone_89 (by decide) (fun hc => ?_) (fun hc => ?_)
  · have h := hit_f h hc
    refine R_aload_n (i := 0) dX9_alone_102 rfl rfl ?_
    refine R_get foX9_60 hL0 (cE_9 Ω 0 _) rfl dX9_alone_103 ?_
    refine R_aload_n (i := 0) dX9_alone_106 rfl rfl ?_
    refine R_get foX9_40 hL0 (cE_9 Ω 0 _) rfl dX9_alone_107 ?_
    refine R_callVi (ctX3_seenCells l Ω 0 (WF.kid hW 9 hL0 rfl) (WF.kid hW 5 hL0 rfl) _ _ (hit_mono (hit_bd h) (fun r9 σ10 h => ?_))) okX3_seenCells mw_986 (WF.kid hW 9 hL0 rfl) (cE_3 Ω 0 _) rfl rfl (Nat.le_of_ble_eq_true rfl) rfl rfl ⟨by decide, by decide⟩ ⟨Nat.zero_le _, Nat.zero_le _⟩ dX9_alone_110
    refine R_istore (lv2 := [some (rf Ω 9 0), some (.int x1), some (.int x2), some (.int z0), some (.int r9)]) dX9_alone_113 (by decide) rfl rfl ?_
    refine R_iload_n (i := 3) dX9_alone_115 rfl rfl ?_
    refine R_iload (i := 4) dX9_alone_116 rfl ?_
    refine R_isub dX9_alone_118 ?_
    exact R_iret dX9_alone_119 rfl h
  · have h := hit_t h hc
    refine R_aload_n (i := 0) dX9_alone_92 rfl rfl ?_
    refine R_get foX9_60 hL0 (cE_9 Ω 0 _) rfl dX9_alone_93 ?_
    refine R_get foX9_285 (WF.kid hW 9 hL0 rfl) (cE_3 Ω 0 _) rfl dX9_alone_96 ?_
    refine R_goto (tgt := 113) dX9_alone_99 (by decide) ?_
    refine R_topi h (fun y11 h => ?_)
    refine R_istore (lv2 := [some (rf Ω 9 0), some (.int x1), some (.int x2), some (.int z0), some (.int y11)]) dX9_alone_113 (by decide) rfl rfl ?_
    refine R_iload_n (i := 3) dX9_alone_115 rfl rfl ?_
    refine R_iload (i := 4) dX9_alone_116 rfl ?_
    refine R_isub dX9_alone_118 ?_
    exact R_iret dX9_alone_119 rfl h
set_option maxRecDepth 100000 in
set_option maxHeartbeats 4000000 in
theorem ctX9_alone (l : Launch) (Ω : rO) (x1 : Int32) (x2 : Int32) (hL0 : oL Ω 9 0) (σ : rS) (K : Int32 → rS → Prop) (h : hit (fX9_alone x1 x2 σ) K) : Ct l Ω yX9_alone cX9_alone 5 (some .int) rmX9_alone [rf Ω 9 0, .int x1, .int x2] σ K := by
  refine Ct.of (own := RX9) (lv := [some (rf Ω 9 0), some (.int x1), some (.int x2), none, none]) (by decide) rfl (Nat.le_of_ble_eq_true rfl) rfl (fun hW => ?_)
  unfold fX9_alone at h
  refine R_aload_n (i := 0) dX9_alone_0 rfl rfl ?_
  refine R_get foX9_117 hL0 (cE_9 Ω 0 _) rfl dX9_alone_1 ?_
  refine R_if_eq (tgt := 36) dX9_alone_4 (by decide) (fun hc => ?_) (fun hc => ?_)
  · have h := hit_t h hc
    refine R_iconst (v := (-1)) dX9_alone_36 rfl ?_
    exact R_iret dX9_alone_37 rfl h
  · have h := hit_f h hc
    refine R_iload_n (i := 1) dX9_alone_7 rfl rfl ?_
    refine R_callSi (ctX9_isRoot l Ω x1 _ _ (hit_mono (hit_bd h) (fun r1 σ2 h => ?_))) okX9_isRoot mw_548 rfl rfl (Nat.le_of_ble_eq_true rfl) rfl rfl ⟨by decide, by decide⟩ ⟨Nat.zero_le _, Nat.zero_le _⟩ dX9_alone_8
    refine R_if_eq (tgt := 36) dX9_alone_11 (by decide) (fun hc => ?_) (fun hc => ?_)
    · have h := hit_t h hc
      refine R_iconst (v := (-1)) dX9_alone_36 rfl ?_
      exact R_iret dX9_alone_37 rfl h
    · have h := hit_f h hc
      refine R_aload_n (i := 0) dX9_alone_14 rfl rfl ?_
      refine R_get foX9_40 hL0 (cE_9 Ω 0 _) rfl dX9_alone_15 ?_
      refine R_get foX9_141 (WF.kid hW 5 hL0 rfl) (cE_7 Ω 0 _) rfl dX9_alone_18 ?_
      refine R_iload_n (i := 1) dX9_alone_21 rfl rfl ?_
      obtain ⟨hb, h⟩ := hit_bnd h
      refine R_iald (WF.kid hW 8 (WF.kid hW 5 hL0 rfl) rfl) (cE_53 Ω 0 _) hb dX9_alone_22 ?_
      refine R_iconst (v := (-1)) dX9_alone_23 rfl ?_
      refine R_icmp_eq (tgt := 36) dX9_alone_24 (by decide) (fun hc => ?_) (fun hc => ?_)
      · have h := hit_t h hc
        refine R_iconst (v := (-1)) dX9_alone_36 rfl ?_
        exact R_iret dX9_alone_37 rfl h
      · have h := hit_f h hc
        refine R_iload_n (i := 2) dX9_alone_27 rfl rfl ?_
        refine R_if_lt (tgt := 36) dX9_alone_28 (by decide) (fun hc => ?_) (fun hc => ?_)
        · have h := hit_t h hc
          refine R_iconst (v := (-1)) dX9_alone_36 rfl ?_
          exact R_iret dX9_alone_37 rfl h
        · have h := hit_f h hc
          refine R_iload_n (i := 2) dX9_alone_31 rfl rfl ?_
          refine R_iconst (v := 1) dX9_alone_32 rfl ?_
          refine R_icmp_le (tgt := 38) dX9_alone_33 (by decide) (fun hc => ?_) (fun hc => ?_)
          · have h := hit_f h hc
            refine R_aload_n (i := 0) dX9_alone_38 rfl rfl ?_
            refine R_get foX9_60 hL0 (cE_9 Ω 0 _) rfl dX9_alone_39 ?_
            refine R_aload_n (i := 0) dX9_alone_42 rfl rfl ?_
            refine R_get foX9_40 hL0 (cE_9 Ω 0 _) rfl dX9_alone_43 ?_
            refine R_iconst (v := (-1)) dX9_alone_46 rfl ?_
            refine R_callVv (ctX3_reach l Ω 0 (-1) (WF.kid hW 9 hL0 rfl) (WF.kid hW 5 hL0 rfl) _ _ (hit_mono (hit_bd h) (fun r3 σ4 h => ?_))) okX3_reach mw_985 (WF.kid hW 9 hL0 rfl) (cE_3 Ω 0 _) rfl rfl (Nat.le_of_ble_eq_true rfl) rfl rfl ⟨by decide, by decide⟩ ⟨Nat.zero_le _, Nat.zero_le _⟩ dX9_alone_47
            refine R_iload_n (i := 2) dX9_alone_50 rfl rfl ?_
            refine R_if_ne (tgt := 64) dX9_alone_51 (by decide) (fun hc => ?_) (fun hc => ?_)
            · have h := hit_f h hc
              refine R_aload_n (i := 0) dX9_alone_64 rfl rfl ?_
              refine R_get foX9_60 hL0 (cE_9 Ω 0 _) rfl dX9_alone_65 ?_
              refine R_aload_n (i := 0) dX9_alone_68 rfl rfl ?_
              refine R_get foX9_40 hL0 (cE_9 Ω 0 _) rfl dX9_alone_69 ?_
              refine R_callVi (ctX3_seenCells l Ω 0 (WF.kid hW 9 hL0 rfl) (WF.kid hW 5 hL0 rfl) _ _ (hit_mono (hit_bd h) (fun r5 σ6 h => ?_))) okX3_seenCells mw_986 (WF.kid hW 9 hL0 rfl) (cE_3 Ω 0 _) rfl rfl (Nat.le_of_ble_eq_true rfl) rfl rfl ⟨by decide, by decide⟩ ⟨Nat.zero_le _, Nat.zero_le _⟩ dX9_alone_72
              exact rnX9_alone_j75 hW x1 x2 r5 hL0 σ6  h
            · have h := hit_t h hc
              refine R_aload_n (i := 0) dX9_alone_54 rfl rfl ?_
              refine R_get foX9_60 hL0 (cE_9 Ω 0 _) rfl dX9_alone_55 ?_
              refine R_get foX9_285 (WF.kid hW 9 hL0 rfl) (cE_3 Ω 0 _) rfl dX9_alone_58 ?_
              refine R_goto (tgt := 75) dX9_alone_61 (by decide) ?_
              exact rnX9_alone_j75 hW x1 x2 (σ4 3 0 7) hL0 σ4  h
          · have h := hit_t h hc
            refine R_iconst (v := (-1)) dX9_alone_36 rfl ?_
            exact R_iret dX9_alone_37 rfl h
set_option maxRecDepth 100000 in
set_option maxHeartbeats 4000000 in
theorem ctX9_holders (l : Launch) (Ω : rO) (x1 : Int32) (hL0 : oL Ω 9 0) (σ : rS) (K : Int32 → rS → Prop) (h : hit (fX9_holders x1 σ) K) : Ct l Ω yX9_holders cX9_holders 3 (some .int) rmX9_holders [rf Ω 9 0, .int x1] σ K := by
  refine Ct.of (own := RX9) (lv := [some (rf Ω 9 0), some (.int x1), none]) (by decide) rfl (Nat.le_of_ble_eq_true rfl) rfl (fun hW => ?_)
  unfold fX9_holders at h
  refine R_aload_n (i := 0) dX9_holders_0 rfl rfl ?_
  refine R_get foX9_40 hL0 (cE_9 Ω 0 _) rfl dX9_holders_1 ?_
  refine R_iload_n (i := 1) dX9_holders_4 rfl rfl ?_
  refine R_callVi (ctX7_find l Ω 0 x1 (WF.kid hW 5 hL0 rfl) _ _ (hit_mono (hit_bd h) (fun r1 σ2 h => ?_))) okX7_find mw_563 (WF.kid hW 5 hL0 rfl) (cE_7 Ω 0 _) rfl rfl (Nat.le_of_ble_eq_true rfl) rfl rfl ⟨by decide, by decide⟩ ⟨Nat.zero_le _, Nat.zero_le _⟩ dX9_holders_5
  refine R_istore_n (lv2 := [some (rf Ω 9 0), some (.int x1), some (.int r1)]) dX9_holders_8 rfl (by decide) rfl rfl ?_
  refine R_iload_n (i := 2) dX9_holders_9 rfl rfl ?_
  refine R_iconst (v := (-1)) dX9_holders_10 rfl ?_
  refine R_icmp_ne (tgt := 16) dX9_holders_11 (by decide) (fun hc => ?_) (fun hc => ?_)
  · have h := hit_f h hc
    refine R_aload_n (i := 0) dX9_holders_16 rfl rfl ?_
    refine R_get foX9_60 hL0 (cE_9 Ω 0 _) rfl dX9_holders_17 ?_
    refine R_aload_n (i := 0) dX9_holders_20 rfl rfl ?_
    refine R_get foX9_40 hL0 (cE_9 Ω 0 _) rfl dX9_holders_21 ?_
    refine R_iconst (v := (-1)) dX9_holders_24 rfl ?_
    refine R_callVv (ctX3_reach l Ω 0 (-1) (WF.kid hW 9 hL0 rfl) (WF.kid hW 5 hL0 rfl) _ _ (hit_mono (hit_bd h) (fun r3 σ4 h => ?_))) okX3_reach mw_985 (WF.kid hW 9 hL0 rfl) (cE_3 Ω 0 _) rfl rfl (Nat.le_of_ble_eq_true rfl) rfl rfl ⟨by decide, by decide⟩ ⟨Nat.zero_le _, Nat.zero_le _⟩ dX9_holders_25
    refine R_aload_n (i := 0) dX9_holders_28 rfl rfl ?_
    refine R_get foX9_60 hL0 (cE_9 Ω 0 _) rfl dX9_holders_29 ?_
    refine R_aload_n (i := 0) dX9_holders_32 rfl rfl ?_
    refine R_get foX9_40 hL0 (cE_9 Ω 0 _) rfl dX9_holders_33 ?_
    refine R_iload_n (i := 2) dX9_holders_36 rfl rfl ?_
    refine R_callVi (ctX3_holdersOf l Ω 0 r1 (WF.kid hW 9 hL0 rfl) (WF.kid hW 5 hL0 rfl) _ _ (hit_mono (hit_bd h) (fun r5 σ6 h => ?_))) okX3_holdersOf mw_995 (WF.kid hW 9 hL0 rfl) (cE_3 Ω 0 _) rfl rfl (Nat.le_of_ble_eq_true rfl) rfl rfl ⟨by decide, by decide⟩ ⟨Nat.zero_le _, Nat.zero_le _⟩ dX9_holders_37
    exact R_iret dX9_holders_40 rfl h
  · have h := hit_t h hc
    refine R_iconst (v := (-1)) dX9_holders_14 rfl ?_
    exact R_iret dX9_holders_15 rfl h
set_option maxRecDepth 100000 in
set_option maxHeartbeats 4000000 in
theorem ctX9_round (l : Launch) (Ω : rO) (x1 : Int32) (hL0 : oL Ω 9 0) (σ : rS) (K : Int32 → rS → Prop) (h : hit (fX9_round x1 σ) K) : Ct l Ω yX9_round cX9_round 3 (some .int) rmX9_round [rf Ω 9 0, .int x1] σ K := by
  refine Ct.of (own := RX9) (lv := [some (rf Ω 9 0), some (.int x1), none]) (by decide) rfl (Nat.le_of_ble_eq_true rfl) rfl (fun hW => ?_)
  unfold fX9_round at h
  refine R_aload_n (i := 0) dX9_round_0 rfl rfl ?_
  refine R_get foX9_40 hL0 (cE_9 Ω 0 _) rfl dX9_round_1 ?_
  refine R_iload_n (i := 1) dX9_round_4 rfl rfl ?_
  refine R_callVi (ctX7_find l Ω 0 x1 (WF.kid hW 5 hL0 rfl) _ _ (hit_mono (hit_bd h) (fun r1 σ2 h => ?_))) okX7_find mw_563 (WF.kid hW 5 hL0 rfl) (cE_7 Ω 0 _) rfl rfl (Nat.le_of_ble_eq_true rfl) rfl rfl ⟨by decide, by decide⟩ ⟨Nat.zero_le _, Nat.zero_le _⟩ dX9_round_5
  refine R_istore_n (lv2 := [some (rf Ω 9 0), some (.int x1), some (.int r1)]) dX9_round_8 rfl (by decide) rfl rfl ?_
  refine R_iload_n (i := 2) dX9_round_9 rfl rfl ?_
  refine R_iconst (v := (-1)) dX9_round_10 rfl ?_
  refine R_icmp_ne (tgt := 18) dX9_round_11 (by decide) (fun hc => ?_) (fun hc => ?_)
  · have h := hit_f h hc
    refine R_aload_n (i := 0) dX9_round_18 rfl rfl ?_
    refine R_get foX9_60 hL0 (cE_9 Ω 0 _) rfl dX9_round_19 ?_
    refine R_aload_n (i := 0) dX9_round_22 rfl rfl ?_
    refine R_get foX9_40 hL0 (cE_9 Ω 0 _) rfl dX9_round_23 ?_
    refine R_iload_n (i := 2) dX9_round_26 rfl rfl ?_
    refine R_callVi (ctX3_wayBack l Ω 0 r1 (WF.kid hW 9 hL0 rfl) (WF.kid hW 5 hL0 rfl) _ _ (hit_mono (hit_bd h) (fun r3 σ4 h => ?_))) okX3_wayBack mw_1003 (WF.kid hW 9 hL0 rfl) (cE_3 Ω 0 _) rfl rfl (Nat.le_of_ble_eq_true rfl) rfl rfl ⟨by decide, by decide⟩ ⟨Nat.zero_le _, Nat.zero_le _⟩ dX9_round_27
    exact R_iret dX9_round_30 rfl h
  · have h := hit_t h hc
    refine R_iconst (v := (-1)) dX9_round_14 rfl ?_
    refine R_goto (tgt := 30) dX9_round_15 (by decide) ?_
    exact R_iret dX9_round_30 rfl h
set_option maxRecDepth 100000 in
set_option maxHeartbeats 4000000 in
theorem ctX9_room (l : Launch) (Ω : rO) (x1 : Int32) (hL0 : oL Ω 9 0) (σ : rS) (K : Int32 → rS → Prop) (h : hit (fX9_room x1 σ) K) : Ct l Ω yX9_room cX9_room 2 (some .int) rmX9_room [rf Ω 9 0, .int x1] σ K := by
  refine Ct.of (own := RX9) (lv := [some (rf Ω 9 0), some (.int x1)]) (by decide) rfl (Nat.le_of_ble_eq_true rfl) rfl (fun hW => ?_)
  unfold fX9_room at h
  refine R_aload_n (i := 0) dX9_room_0 rfl rfl ?_
  refine R_get foX9_117 hL0 (cE_9 Ω 0 _) rfl dX9_room_1 ?_
  refine R_if_eq (tgt := 16) dX9_room_4 (by decide) (fun hc => ?_) (fun hc => ?_)
  · have h := hit_t h hc
    refine R_iconst (v := (-1)) dX9_room_16 rfl ?_
    exact R_iret dX9_room_17 rfl h
  · have h := hit_f h hc
    refine R_iload_n (i := 1) dX9_room_7 rfl rfl ?_
    refine R_if_lt (tgt := 16) dX9_room_8 (by decide) (fun hc => ?_) (fun hc => ?_)
    · have h := hit_t h hc
      refine R_iconst (v := (-1)) dX9_room_16 rfl ?_
      exact R_iret dX9_room_17 rfl h
    · have h := hit_f h hc
      refine R_iload_n (i := 1) dX9_room_11 rfl rfl ?_
      refine R_iconst (v := 4) dX9_room_12 rfl ?_
      refine R_icmp_le (tgt := 18) dX9_room_13 (by decide) (fun hc => ?_) (fun hc => ?_)
      · have h := hit_f h hc
        refine R_aload_n (i := 0) dX9_room_18 rfl rfl ?_
        refine R_get foX9_34 hL0 (cE_9 Ω 0 _) rfl dX9_room_19 ?_
        refine R_iconst (v := 0) dX9_room_22 rfl ?_
        refine R_iald (WF.kid hW 4 hL0 rfl) (cE_20 Ω 0 _) (vin 0 4 rfl) dX9_room_23 ?_
        refine R_aload_n (i := 0) dX9_room_24 rfl rfl ?_
        refine R_get foX9_40 hL0 (cE_9 Ω 0 _) rfl dX9_room_25 ?_
        refine R_get foX9_299 (WF.kid hW 5 hL0 rfl) (cE_7 Ω 0 _) rfl dX9_room_28 ?_
        refine R_iconst (v := 0) dX9_room_31 rfl ?_
        refine R_iald (WF.kid hW 9 (WF.kid hW 5 hL0 rfl) rfl) (cE_54 Ω 0 _) (vin 0 3 rfl) dX9_room_32 ?_
        refine R_isub dX9_room_33 ?_
        refine R_iconst (v := 3) dX9_room_34 rfl ?_
        refine R_iload_n (i := 1) dX9_room_35 rfl rfl ?_
        refine R_iadd dX9_room_36 ?_
        obtain ⟨hz, h⟩ := hit_bnz h
        refine R_idiv dX9_room_37 hz ?_
        exact R_iret dX9_room_38 rfl h
      · have h := hit_t h hc
        refine R_iconst (v := (-1)) dX9_room_16 rfl ?_
        exact R_iret dX9_room_17 rfl h
set_option maxRecDepth 100000 in
set_option maxHeartbeats 4000000 in
theorem ctX9_alike (l : Launch) (Ω : rO) (x1 : Int32) (x2 : Int32) (hL0 : oL Ω 9 0) (σ : rS) (K : Int32 → rS → Prop) (h : hit (fX9_alike x1 x2 σ) K) : Ct l Ω yX9_alike cX9_alike 5 (some .boolean) rmX9_alike [rf Ω 9 0, .int x1, .int x2] σ K := by
  refine Ct.of (own := RX9) (lv := [some (rf Ω 9 0), some (.int x1), some (.int x2), none, none]) (by decide) rfl (Nat.le_of_ble_eq_true rfl) rfl (fun hW => ?_)
  unfold fX9_alike at h
  refine R_aload_n (i := 0) dX9_alike_0 rfl rfl ?_
  refine R_get foX9_117 hL0 (cE_9 Ω 0 _) rfl dX9_alike_1 ?_
  refine R_if_eq (tgt := 21) dX9_alike_4 (by decide) (fun hc => ?_) (fun hc => ?_)
  · have h := hit_t h hc
    refine R_iconst (v := 0) dX9_alike_21 rfl ?_
    exact R_zret dX9_alike_22 rfl (Or.inl rfl) h
  · have h := hit_f h hc
    refine R_iload_n (i := 1) dX9_alike_7 rfl rfl ?_
    refine R_callSi (ctX9_isRoot l Ω x1 _ _ (hit_mono (hit_bd h) (fun r1 σ2 h => ?_))) okX9_isRoot mw_548 rfl rfl (Nat.le_of_ble_eq_true rfl) rfl rfl ⟨by decide, by decide⟩ ⟨Nat.zero_le _, Nat.zero_le _⟩ dX9_alike_8
    refine R_if_eq (tgt := 21) dX9_alike_11 (by decide) (fun hc => ?_) (fun hc => ?_)
    · have h := hit_t h hc
      refine R_iconst (v := 0) dX9_alike_21 rfl ?_
      exact R_zret dX9_alike_22 rfl (Or.inl rfl) h
    · have h := hit_f h hc
      refine R_iload_n (i := 2) dX9_alike_14 rfl rfl ?_
      refine R_callSi (ctX9_isRoot l Ω x2 _ _ (hit_mono (hit_bd h) (fun r3 σ4 h => ?_))) okX9_isRoot mw_548 rfl rfl (Nat.le_of_ble_eq_true rfl) rfl rfl ⟨by decide, by decide⟩ ⟨Nat.zero_le _, Nat.zero_le _⟩ dX9_alike_15
      refine R_if_ne (tgt := 23) dX9_alike_18 (by decide) (fun hc => ?_) (fun hc => ?_)
      · have h := hit_f h hc
        refine R_aload_n (i := 0) dX9_alike_23 rfl rfl ?_
        refine R_get foX9_40 hL0 (cE_9 Ω 0 _) rfl dX9_alike_24 ?_
        refine R_get foX9_141 (WF.kid hW 5 hL0 rfl) (cE_7 Ω 0 _) rfl dX9_alike_27 ?_
        refine R_iload_n (i := 1) dX9_alike_30 rfl rfl ?_
        obtain ⟨hb, h⟩ := hit_bnd h
        refine R_iald (WF.kid hW 8 (WF.kid hW 5 hL0 rfl) rfl) (cE_53 Ω 0 _) hb dX9_alike_31 ?_
        refine R_topi h (fun y5 h => ?_)
        refine R_istore_n (lv2 := [some (rf Ω 9 0), some (.int x1), some (.int x2), some (.int y5), none]) dX9_alike_32 rfl (by decide) rfl rfl ?_
        refine R_aload_n (i := 0) dX9_alike_33 rfl rfl ?_
        refine R_get foX9_40 hL0 (cE_9 Ω 0 _) rfl dX9_alike_34 ?_
        refine R_get foX9_141 (WF.kid hW 5 hL0 rfl) (cE_7 Ω 0 _) rfl dX9_alike_37 ?_
        refine R_iload_n (i := 2) dX9_alike_40 rfl rfl ?_
        obtain ⟨hb, h⟩ := hit_bnd h
        refine R_iald (WF.kid hW 8 (WF.kid hW 5 hL0 rfl) rfl) (cE_53 Ω 0 _) hb dX9_alike_41 ?_
        refine R_topi h (fun y6 h => ?_)
        refine R_istore (lv2 := [some (rf Ω 9 0), some (.int x1), some (.int x2), some (.int y5), some (.int y6)]) dX9_alike_42 (by decide) rfl rfl ?_
        refine R_iload_n (i := 3) dX9_alike_44 rfl rfl ?_
        refine R_iconst (v := (-1)) dX9_alike_45 rfl ?_
        refine R_icmp_eq (tgt := 76) dX9_alike_46 (by decide) (fun hc => ?_) (fun hc => ?_)
        · have h := hit_t h hc
          refine R_iconst (v := 0) dX9_alike_76 rfl ?_
          exact R_zret dX9_alike_77 rfl (Or.inl rfl) h
        · have h := hit_f h hc
          refine R_iload (i := 4) dX9_alike_49 rfl ?_
          refine R_iconst (v := (-1)) dX9_alike_51 rfl ?_
          refine R_icmp_eq (tgt := 76) dX9_alike_52 (by decide) (fun hc => ?_) (fun hc => ?_)
          · have h := hit_t h hc
            refine R_iconst (v := 0) dX9_alike_76 rfl ?_
            exact R_zret dX9_alike_77 rfl (Or.inl rfl) h
          · have h := hit_f h hc
            refine R_aload_n (i := 0) dX9_alike_55 rfl rfl ?_
            refine R_get foX9_60 hL0 (cE_9 Ω 0 _) rfl dX9_alike_56 ?_
            refine R_aload_n (i := 0) dX9_alike_59 rfl rfl ?_
            refine R_get foX9_40 hL0 (cE_9 Ω 0 _) rfl dX9_alike_60 ?_
            refine R_iload_n (i := 3) dX9_alike_63 rfl rfl ?_
            refine R_iload (i := 4) dX9_alike_64 rfl ?_
            refine R_callVi (ctX3_areAlike l Ω 0 y5 y6 (WF.kid hW 9 hL0 rfl) (WF.kid hW 5 hL0 rfl) _ _ (hit_mono (hit_bd h) (fun r7 σ8 h => ?_))) okX3_areAlike mw_1015 (WF.kid hW 9 hL0 rfl) (cE_3 Ω 0 _) rfl rfl (Nat.le_of_ble_eq_true rfl) rfl rfl ⟨by decide, by decide⟩ ⟨Nat.zero_le _, Nat.zero_le _⟩ dX9_alike_66
            refine R_if_eq (tgt := 76) dX9_alike_69 (by decide) (fun hc => ?_) (fun hc => ?_)
            · have h := hit_t h hc
              refine R_iconst (v := 0) dX9_alike_76 rfl ?_
              exact R_zret dX9_alike_77 rfl (Or.inl rfl) h
            · have h := hit_f h hc
              refine R_iconst (v := 1) dX9_alike_72 rfl ?_
              refine R_goto (tgt := 77) dX9_alike_73 (by decide) ?_
              exact R_zret dX9_alike_77 rfl (Or.inr rfl) h
      · have h := hit_t h hc
        refine R_iconst (v := 0) dX9_alike_21 rfl ?_
        exact R_zret dX9_alike_22 rfl (Or.inl rfl) h
