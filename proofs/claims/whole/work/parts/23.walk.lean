set_option maxRecDepth 100000 in
set_option maxHeartbeats 4000000 in
theorem rsJ1_indexOfChar_4cfef_L7 {l : Launch} {Ω : rO} (hW : WF Ω) (s0 : Nat) (x3 : Int32) (x4 : Int32) (x5 : Int32) (hL0 : s0 < 2) (σ : rS) {K : Int32 → rS → Prop} {K0 : (Int32 ⊕ (Int32 ⊕ Unit)) → rS → Prop} (hC : ∀ (x5 : Int32) (σ : rS), K0 (.inl x5) σ → Run l Ω cJ1_indexOfChar_4cfef RJ1 6 (some .int) rmJ1_indexOfChar_4cfef K 7 [some (.ref (oX Ω (20 + s0))), none, none, some (.int x3), some (.int x4), some (.int x5)] [] σ) (hE0 : ∀ (e : Int32) (σ : rS), K0 (.inr (.inl e)) σ → Run l Ω cJ1_indexOfChar_4cfef RJ1 6 (some .int) rmJ1_indexOfChar_4cfef K 22 [none, none, none, none, none, some (.int e)] [] σ) (hE1 : ∀ (e : Unit) (σ : rS), K0 (.inr (.inr e)) σ → Run l Ω cJ1_indexOfChar_4cfef RJ1 6 (some .int) rmJ1_indexOfChar_4cfef K 31 [none, none, none, none, none, none] [] σ) (h : hit (fJ1_indexOfChar_4cfef_L7 s0 x3 x4 x5 σ) K0) : Run l Ω cJ1_indexOfChar_4cfef RJ1 6 (some .int) rmJ1_indexOfChar_4cfef K 7 [some (.ref (oX Ω (20 + s0))), none, none, some (.int x3), some (.int x4), some (.int x5)] [] σ := by
  unfold fJ1_indexOfChar_4cfef_L7 at h
  refine R_iload (i := 5) dJ1_indexOfChar_4cfef_7 rfl ?_
  refine R_iload_n (i := 3) dJ1_indexOfChar_4cfef_9 rfl rfl ?_
  refine R_icmp_ge (tgt := 31) dJ1_indexOfChar_4cfef_10 (by decide) (fun hc => ?_) (fun hc => ?_)
  · have h := hit_f h hc
    refine R_drop (lv2 := [none, none, none, some (.int x3), some (.int x4), some (.int x5)]) 0 rfl ?_
    refine R_drop (lv2 := [none, none, none, none, some (.int x4), some (.int x5)]) 3 rfl ?_
    refine R_drop (lv2 := [none, none, none, none, none, some (.int x5)]) 4 rfl ?_
    refine R_drop (lv2 := [none, none, none, none, none, none]) 5 rfl ?_
    exact hE1 () σ h
  · have h := hit_t h hc
    refine R_aload_n (i := 0) dJ1_indexOfChar_4cfef_13 rfl rfl ?_
    refine R_iload (i := 5) dJ1_indexOfChar_4cfef_14 rfl ?_
    obtain ⟨hb, h⟩ := hit_bnd h
    refine R_stb (SF.sbyt hL0) hb rfl dJ1_indexOfChar_4cfef_16 ?_
    refine R_iload (i := 4) dJ1_indexOfChar_4cfef_17 rfl ?_
    refine R_icmp_ne (tgt := 25) dJ1_indexOfChar_4cfef_19 (by decide) (fun hc => ?_) (fun hc => ?_)
    · have h := hit_f h hc
      refine R_iinc (v := x5 + 1) (lv2 := [some (.ref (oX Ω (20 + s0))), none, none, some (.int x3), some (.int x4), some (.int (x5 + 1))]) dJ1_indexOfChar_4cfef_25 rfl rfl (by decide) rfl rfl ?_
      refine R_goto (tgt := 7) dJ1_indexOfChar_4cfef_28 (by decide) ?_
      exact hC (x5 + 1) σ h
    · have h := hit_t h hc
      refine R_drop (lv2 := [none, none, none, some (.int x3), some (.int x4), some (.int x5)]) 0 rfl ?_
      refine R_drop (lv2 := [none, none, none, none, some (.int x4), some (.int x5)]) 3 rfl ?_
      refine R_drop (lv2 := [none, none, none, none, none, some (.int x5)]) 4 rfl ?_
      exact hE0 x5 σ h
set_option maxRecDepth 100000 in
set_option maxHeartbeats 4000000 in
theorem rlJ1_indexOfChar_4cfef_L7 {l : Launch} {Ω : rO} (hW : WF Ω) (s0 : Nat) (x3 : Int32) (x4 : Int32) (hL0 : s0 < 2) {K : Int32 → rS → Prop} {KE : (Int32 ⊕ Unit) → rS → Prop} (hE0 : ∀ (e : Int32) (σ : rS), KE (.inl e) σ → Run l Ω cJ1_indexOfChar_4cfef RJ1 6 (some .int) rmJ1_indexOfChar_4cfef K 22 [none, none, none, none, none, some (.int e)] [] σ) (hE1 : ∀ (e : Unit) (σ : rS), KE (.inr e) σ → Run l Ω cJ1_indexOfChar_4cfef RJ1 6 (some .int) rmJ1_indexOfChar_4cfef K 31 [none, none, none, none, none, none] [] σ) : ∀ (n : Nat) (x5 : Int32) (σ : rS), hit (lp (fun (x : Int32) σ => fJ1_indexOfChar_4cfef_L7 s0 x3 x4 x σ) n x5 σ) KE → Run l Ω cJ1_indexOfChar_4cfef RJ1 6 (some .int) rmJ1_indexOfChar_4cfef K 7 [some (.ref (oX Ω (20 + s0))), none, none, some (.int x3), some (.int x4), some (.int x5)] [] σ := by
  intro n
  induction n with
  | zero => intro x5 σ h; exact (h : False).elim
  | succ n ih =>
    intro x5 σ h
    exact rsJ1_indexOfChar_4cfef_L7 hW s0 x3 x4 x5 hL0 σ (fun x5 σ h => ih x5 σ h) (fun e σ h => hE0 e σ h) (fun e σ h => hE1 e σ h) (hit_lp h)
set_option maxRecDepth 100000 in
set_option maxHeartbeats 4000000 in
theorem ctJ1_indexOfChar_4cfef (l : Launch) (Ω : rO) (s0 : Nat) (x1 : Int32) (x2 : Int32) (x3 : Int32) (hL0 : s0 < 2) (σ : rS) (K : Int32 → rS → Prop) (h : hit (fJ1_indexOfChar_4cfef s0 x1 x2 x3 σ) K) : Ct l Ω yJ1_indexOfChar_4cfef cJ1_indexOfChar_4cfef 6 (some .int) rmJ1_indexOfChar_4cfef [.ref (oX Ω (20 + s0)), .int x1, .int x2, .int x3] σ K := by
  refine Ct.of (own := RJ1) (lv := [some (.ref (oX Ω (20 + s0))), some (.int x1), some (.int x2), some (.int x3), none, none]) (by decide) rfl (Nat.le_of_ble_eq_true rfl) rfl (fun hW => ?_)
  unfold fJ1_indexOfChar_4cfef at h
  refine R_iload_n (i := 1) dJ1_indexOfChar_4cfef_0 rfl rfl ?_
  refine R_i2b dJ1_indexOfChar_4cfef_1 ?_
  refine R_topi h (fun y1 h => ?_)
  refine R_istore (lv2 := [some (.ref (oX Ω (20 + s0))), some (.int x1), some (.int x2), some (.int x3), some (.int y1), none]) dJ1_indexOfChar_4cfef_2 (by decide) rfl rfl ?_
  refine R_iload_n (i := 2) dJ1_indexOfChar_4cfef_4 rfl rfl ?_
  refine R_istore (lv2 := [some (.ref (oX Ω (20 + s0))), some (.int x1), some (.int x2), some (.int x3), some (.int y1), some (.int x2)]) dJ1_indexOfChar_4cfef_5 (by decide) rfl rfl ?_
  refine R_drop (lv2 := [some (.ref (oX Ω (20 + s0))), none, some (.int x2), some (.int x3), some (.int y1), some (.int x2)]) 1 rfl ?_
  refine R_drop (lv2 := [some (.ref (oX Ω (20 + s0))), none, none, some (.int x3), some (.int y1), some (.int x2)]) 2 rfl ?_
  refine rlJ1_indexOfChar_4cfef_L7 hW s0 x3 y1 hL0 ?_ ?_ fu x2 σ (hit_bd h)
  · intro e3 σ2 h
    try dsimp only at h
    refine R_iload (i := 5) dJ1_indexOfChar_4cfef_22 rfl ?_
    exact R_iret dJ1_indexOfChar_4cfef_24 rfl h
  · intro e4 σ2 h
    try dsimp only at h
    refine R_iconst (v := (-1)) dJ1_indexOfChar_4cfef_31 rfl ?_
    exact R_iret dJ1_indexOfChar_4cfef_32 rfl h
set_option maxRecDepth 100000 in
set_option maxHeartbeats 4000000 in
theorem ctJ1_indexOf_4cfef (l : Launch) (Ω : rO) (s0 : Nat) (x1 : Int32) (x2 : Int32) (x3 : Int32) (hL0 : s0 < 2) (σ : rS) (K : Int32 → rS → Prop) (h : hit (fJ1_indexOf_4cfef s0 x1 x2 x3 σ) K) : Ct l Ω yJ1_indexOf_4cfef cJ1_indexOf_4cfef 4 (some .int) rmJ1_indexOf_4cfef [.ref (oX Ω (20 + s0)), .int x1, .int x2, .int x3] σ K := by
  refine Ct.of (own := RJ1) (lv := [some (.ref (oX Ω (20 + s0))), some (.int x1), some (.int x2), some (.int x3)]) (by decide) rfl (Nat.le_of_ble_eq_true rfl) rfl (fun hW => ?_)
  unfold fJ1_indexOf_4cfef at h
  refine R_iload_n (i := 1) dJ1_indexOf_4cfef_0 rfl rfl ?_
  refine R_callSi (ctJ1_canEncode_9a6ad l Ω x1 _ _ (hit_mono (hit_bd h) (fun r1 σ2 h => ?_))) okJ1_canEncode_9a6ad mw_437 rfl rfl (Nat.le_of_ble_eq_true rfl) rfl rfl ⟨by decide, by decide⟩ ⟨Nat.zero_le _, Nat.zero_le _⟩ dJ1_indexOf_4cfef_1
  refine R_if_ne (tgt := 9) dJ1_indexOf_4cfef_4 (by decide) (fun hc => ?_) (fun hc => ?_)
  · have h := hit_f h hc
    refine R_iload_n (i := 2) dJ1_indexOf_4cfef_9 rfl rfl ?_
    refine R_iconst (v := 0) dJ1_indexOf_4cfef_10 rfl ?_
    refine R_mmax mw_440 mw_91 mw_6 mw_92 (by decide) (Nat.le_of_ble_eq_true rfl) ⟨Nat.zero_le _, Nat.zero_le _⟩ dJ1_indexOf_4cfef_11 ?_
    refine R_topi h (fun y3 h => ?_)
    refine R_istore_n (lv2 := [some (.ref (oX Ω (20 + s0))), some (.int x1), some (.int y3), some (.int x3)]) dJ1_indexOf_4cfef_14 rfl (by decide) rfl rfl ?_
    refine R_iload_n (i := 3) dJ1_indexOf_4cfef_15 rfl rfl ?_
    refine R_aload_n (i := 0) dJ1_indexOf_4cfef_16 rfl rfl ?_
    refine R_stlen (x := nI (lenS s0)) (SF.sbyt hL0) rfl dJ1_indexOf_4cfef_17 ?_
    refine R_mmin mw_441 mw_442 mw_6 mw_443 (by decide) (Nat.le_of_ble_eq_true rfl) ⟨Nat.zero_le _, Nat.zero_le _⟩ dJ1_indexOf_4cfef_18 ?_
    refine R_topi h (fun y4 h => ?_)
    refine R_istore_n (lv2 := [some (.ref (oX Ω (20 + s0))), some (.int x1), some (.int y3), some (.int y4)]) dJ1_indexOf_4cfef_21 rfl (by decide) rfl rfl ?_
    refine R_iload_n (i := 2) dJ1_indexOf_4cfef_22 rfl rfl ?_
    refine R_iload_n (i := 3) dJ1_indexOf_4cfef_23 rfl rfl ?_
    refine R_icmp_lt (tgt := 29) dJ1_indexOf_4cfef_24 (by decide) (fun hc => ?_) (fun hc => ?_)
    · have h := hit_t h hc
      refine R_aload_n (i := 0) dJ1_indexOf_4cfef_29 rfl rfl ?_
      refine R_iload_n (i := 1) dJ1_indexOf_4cfef_30 rfl rfl ?_
      refine R_iload_n (i := 2) dJ1_indexOf_4cfef_31 rfl rfl ?_
      refine R_iload_n (i := 3) dJ1_indexOf_4cfef_32 rfl rfl ?_
      refine R_callSi (ctJ1_indexOfChar_4cfef l Ω s0 x1 y3 y4 hL0 _ _ (hit_mono (hit_bd h) (fun r5 σ6 h => ?_))) okJ1_indexOfChar_4cfef mw_444 rfl rfl (Nat.le_of_ble_eq_true rfl) rfl rfl ⟨by decide, by decide⟩ ⟨Nat.zero_le _, Nat.zero_le _⟩ dJ1_indexOf_4cfef_33
      exact R_iret dJ1_indexOf_4cfef_36 rfl h
    · have h := hit_f h hc
      refine R_iconst (v := (-1)) dJ1_indexOf_4cfef_27 rfl ?_
      exact R_iret dJ1_indexOf_4cfef_28 rfl h
  · have h := hit_t h hc
    refine R_iconst (v := (-1)) dJ1_indexOf_4cfef_7 rfl ?_
    exact R_iret dJ1_indexOf_4cfef_8 rfl h
set_option maxRecDepth 100000 in
set_option maxHeartbeats 4000000 in
theorem ctJ0_indexOf_7cf53 (l : Launch) (Ω : rO) (s0 : Nat) (x1 : Int32) (x2 : Int32) (hL0 : s0 < 2) (σ : rS) (K : Int32 → rS → Prop) (h : hit (fJ0_indexOf_7cf53 s0 x1 x2 σ) K) : Ct l Ω yJ0_indexOf_7cf53 cJ0_indexOf_7cf53 3 (some .int) rmJ0_indexOf_7cf53 [.ref (oX Ω (10 + s0)), .int x1, .int x2] σ K := by
  refine Ct.of (own := RJ0) (lv := [some (.ref (oX Ω (10 + s0))), some (.int x1), some (.int x2)]) (by decide) rfl (Nat.le_of_ble_eq_true rfl) rfl (fun hW => ?_)
  unfold fJ0_indexOf_7cf53 at h
  refine R_aload_n (i := 0) dJ0_indexOf_7cf53_0 rfl rfl ?_
  refine R_callTi hL0 (ctJ0_isLatin1_aae02 l Ω s0 hL0 _ _ (hit_mono (hit_bd h) (fun r1 σ2 h => ?_))) oktJ0_isLatin1_aae02 mw_420 rfl rfl (Nat.le_of_ble_eq_true rfl) rfl rfl ⟨by decide, by decide⟩ ⟨Nat.zero_le _, Nat.zero_le _⟩ dJ0_indexOf_7cf53_1
  refine R_if_eq (tgt := 23) dJ0_indexOf_7cf53_4 (by decide) (fun hc => ?_) (fun hc => ?_)
  · have h := hit_t h hc
    refine R_aload_n (i := 0) dJ0_indexOf_7cf53_23 rfl rfl ?_
    refine R_strf (SF.sval hL0) mw_1763 dJ0_indexOf_7cf53_24 ?_
    refine R_iload_n (i := 1) dJ0_indexOf_7cf53_27 rfl rfl ?_
    refine R_iload_n (i := 2) dJ0_indexOf_7cf53_28 rfl rfl ?_
    refine R_aload_n (i := 0) dJ0_indexOf_7cf53_29 rfl rfl ?_
    refine R_callTi hL0 (ctJ0_length_8abf5 l Ω s0 hL0 _ _ (hit_mono (hit_bd h) (fun r3 σ4 h => ?_))) oktJ0_length_8abf5 mw_426 rfl rfl (Nat.le_of_ble_eq_true rfl) rfl rfl ⟨by decide, by decide⟩ ⟨Nat.zero_le _, Nat.zero_le _⟩ dJ0_indexOf_7cf53_30
    exact (h : False).elim
  · have h := hit_f h hc
    refine R_aload_n (i := 0) dJ0_indexOf_7cf53_7 rfl rfl ?_
    refine R_strf (SF.sval hL0) mw_1763 dJ0_indexOf_7cf53_8 ?_
    refine R_iload_n (i := 1) dJ0_indexOf_7cf53_11 rfl rfl ?_
    refine R_iload_n (i := 2) dJ0_indexOf_7cf53_12 rfl rfl ?_
    refine R_aload_n (i := 0) dJ0_indexOf_7cf53_13 rfl rfl ?_
    refine R_callTi hL0 (ctJ0_length_8abf5 l Ω s0 hL0 _ _ (hit_mono (hit_bd h) (fun r5 σ6 h => ?_))) oktJ0_length_8abf5 mw_426 rfl rfl (Nat.le_of_ble_eq_true rfl) rfl rfl ⟨by decide, by decide⟩ ⟨Nat.zero_le _, Nat.zero_le _⟩ dJ0_indexOf_7cf53_14
    refine R_callSi (ctJ1_indexOf_4cfef l Ω s0 x1 x2 r5 hL0 _ _ (hit_mono (hit_bd h) (fun r7 σ8 h => ?_))) okJ1_indexOf_4cfef mw_434 rfl rfl (Nat.le_of_ble_eq_true rfl) rfl rfl ⟨by decide, by decide⟩ ⟨Nat.zero_le _, Nat.zero_le _⟩ dJ0_indexOf_7cf53_17
    refine R_goto (tgt := 36) dJ0_indexOf_7cf53_20 (by decide) ?_
    exact R_iret dJ0_indexOf_7cf53_36 rfl h
set_option maxRecDepth 100000 in
set_option maxHeartbeats 4000000 in
theorem ctJ0_indexOf_0f7a4 (l : Launch) (Ω : rO) (s0 : Nat) (x1 : Int32) (hL0 : s0 < 2) (σ : rS) (K : Int32 → rS → Prop) (h : hit (fJ0_indexOf_0f7a4 s0 x1 σ) K) : Ct l Ω yJ0_indexOf_0f7a4 cJ0_indexOf_0f7a4 2 (some .int) rmJ0_indexOf_0f7a4 [.ref (oX Ω (10 + s0)), .int x1] σ K := by
  refine Ct.of (own := RJ0) (lv := [some (.ref (oX Ω (10 + s0))), some (.int x1)]) (by decide) rfl (Nat.le_of_ble_eq_true rfl) rfl (fun hW => ?_)
  unfold fJ0_indexOf_0f7a4 at h
  refine R_aload_n (i := 0) dJ0_indexOf_0f7a4_0 rfl rfl ?_
  refine R_iload_n (i := 1) dJ0_indexOf_0f7a4_1 rfl rfl ?_
  refine R_iconst (v := 0) dJ0_indexOf_0f7a4_2 rfl ?_
  refine R_callTi hL0 (ctJ0_indexOf_7cf53 l Ω s0 x1 0 hL0 _ _ (hit_mono (hit_bd h) (fun r1 σ2 h => ?_))) oktJ0_indexOf_7cf53 mw_416 rfl rfl (Nat.le_of_ble_eq_true rfl) rfl rfl ⟨by decide, by decide⟩ ⟨Nat.zero_le _, Nat.zero_le _⟩ dJ0_indexOf_0f7a4_3
  exact R_iret dJ0_indexOf_0f7a4_6 rfl h
set_option maxRecDepth 100000 in
set_option maxHeartbeats 4000000 in
theorem ctX6_isDigit (l : Launch) (Ω : rO) (x0 : Int32) (σ : rS) (K : Int32 → rS → Prop) (h : hit (fX6_isDigit x0 σ) K) : Ct l Ω yX6_isDigit cX6_isDigit 1 (some .boolean) rmX6_isDigit [.int x0] σ K := by
  refine Ct.of (own := RX6) (lv := [some (.int x0)]) (by decide) rfl (Nat.le_of_ble_eq_true rfl) rfl (fun hW => ?_)
  unfold fX6_isDigit at h
  refine R_iload_n (i := 0) dX6_isDigit_0 rfl rfl ?_
  refine R_bipush (v := 48) dX6_isDigit_1 rfl ?_
  refine R_icmp_lt (tgt := 16) dX6_isDigit_3 (by decide) (fun hc => ?_) (fun hc => ?_)
  · have h := hit_t h hc
    refine R_iconst (v := 0) dX6_isDigit_16 rfl ?_
    exact R_zret dX6_isDigit_17 rfl (Or.inl rfl) h
  · have h := hit_f h hc
    refine R_iload_n (i := 0) dX6_isDigit_6 rfl rfl ?_
    refine R_bipush (v := 57) dX6_isDigit_7 rfl ?_
    refine R_icmp_gt (tgt := 16) dX6_isDigit_9 (by decide) (fun hc => ?_) (fun hc => ?_)
    · have h := hit_t h hc
      refine R_iconst (v := 0) dX6_isDigit_16 rfl ?_
      exact R_zret dX6_isDigit_17 rfl (Or.inl rfl) h
    · have h := hit_f h hc
      refine R_iconst (v := 1) dX6_isDigit_12 rfl ?_
      refine R_goto (tgt := 17) dX6_isDigit_13 (by decide) ?_
      exact R_zret dX6_isDigit_17 rfl (Or.inr rfl) h
set_option maxRecDepth 100000 in
set_option maxHeartbeats 4000000 in
theorem rsX6_readNumber_L11 {l : Launch} {Ω : rO} (hW : WF Ω) (x1 : Int32) (x2 : Int32) (x3 : Int32) (x4 : Int32) (x5 : Int32) (hL0 : oL Ω 6 0) (σ : rS) {K : Int32 → rS → Prop} {K0 : ((Int32 × Int32 × Int32) ⊕ (Int32 × Int32 × Int32)) → rS → Prop} (hC : ∀ (x3 : Int32) (x4 : Int32) (x5 : Int32) (σ : rS), K0 (.inl (x3, x4, x5)) σ → Run l Ω cX6_readNumber RX6 6 (some .int) rmX6_readNumber K 11 [some (rf Ω 6 0), some (.int x1), some (.int x2), some (.int x3), some (.int x4), some (.int x5)] [] σ) (hE0 : ∀ (e : (Int32 × Int32 × Int32)) (σ : rS), K0 (.inr e) σ → Run l Ω cX6_readNumber RX6 6 (some .int) rmX6_readNumber K 65 [some (rf Ω 6 0), some (.int x1), some (.int x2), some (.int e.1), some (.int e.2.1), some (.int e.2.2)] [] σ) (h : hit (fX6_readNumber_L11 x1 x2 x3 x4 x5 σ) K0) : Run l Ω cX6_readNumber RX6 6 (some .int) rmX6_readNumber K 11 [some (rf Ω 6 0), some (.int x1), some (.int x2), some (.int x3), some (.int x4), some (.int x5)] [] σ := by
  unfold fX6_readNumber_L11 at h
  refine R_iload (i := 4) dX6_readNumber_11 rfl ?_
  refine R_iconst (v := 3) dX6_readNumber_13 rfl ?_
  refine R_icmp_ge (tgt := 65) dX6_readNumber_14 (by decide) (fun hc => ?_) (fun hc => ?_)
  · have h := hit_f h hc
    exact hE0 (x3, x4, x5) σ h
  · have h := hit_t h hc
    refine R_iload (i := 5) dX6_readNumber_17 rfl ?_
    refine R_callSi (ctX6_isDigit l Ω x5 _ _ (hit_mono (hit_bd h) (fun r3 σ4 h => ?_))) okX6_isDigit mw_504 rfl rfl (Nat.le_of_ble_eq_true rfl) rfl rfl ⟨by decide, by decide⟩ ⟨Nat.zero_le _, Nat.zero_le _⟩ dX6_readNumber_19
    refine R_if_eq (tgt := 65) dX6_readNumber_22 (by decide) (fun hc => ?_) (fun hc => ?_)
    · have h := hit_t h hc
      exact hE0 (x3, x4, x5) σ4 h
    · have h := hit_f h hc
      refine R_iload_n (i := 3) dX6_readNumber_25 rfl rfl ?_
      refine R_bipush (v := 10) dX6_readNumber_26 rfl ?_
      refine R_imul dX6_readNumber_28 ?_
      refine R_iload (i := 5) dX6_readNumber_29 rfl ?_
      refine R_iadd dX6_readNumber_31 ?_
      refine R_bipush (v := 48) dX6_readNumber_32 rfl ?_
      refine R_isub dX6_readNumber_34 ?_
      refine R_topi h (fun y5 h => ?_)
      refine R_istore_n (lv2 := [some (rf Ω 6 0), some (.int x1), some (.int x2), some (.int y5), some (.int x4), some (.int x5)]) dX6_readNumber_35 rfl (by decide) rfl rfl ?_
      refine R_iinc (v := x4 + 1) (lv2 := [some (rf Ω 6 0), some (.int x1), some (.int x2), some (.int y5), some (.int (x4 + 1)), some (.int x5)]) dX6_readNumber_36 rfl rfl (by decide) rfl rfl ?_
      refine R_aload_n (i := 0) dX6_readNumber_39 rfl rfl ?_
      refine R_dup dX6_readNumber_40 rfl ?_
      refine R_get foX6_22 hL0 (cE_6 Ω 0 _) rfl dX6_readNumber_41 ?_
      refine R_iconst (v := 1) dX6_readNumber_44 rfl ?_
      refine R_iadd dX6_readNumber_45 ?_
      refine R_put poX6_22 hL0 (cE_6 Ω 0 _) (cP_6_4 Ω 0 _ _) (Nat.le_of_ble_eq_true rfl) dX6_readNumber_46 ?_
      refine R_st h (fun σ6 h => ?_)
      refine R_aload_n (i := 0) dX6_readNumber_49 rfl rfl ?_
      refine R_get foX6_18 hL0 (cE_6 Ω 0 _) rfl dX6_readNumber_50 ?_
      refine R_aload_n (i := 0) dX6_readNumber_53 rfl rfl ?_
      refine R_get foX6_22 hL0 (cE_6 Ω 0 _) rfl dX6_readNumber_54 ?_
      refine R_callVi (ctX8_byteAt l Ω (σ6 6 0 4) (WF.kid hW 0 hL0 rfl) _ _ (hit_mono (hit_bd h) (fun r7 σ8 h => ?_))) okX8_byteAt mw_407 (WF.kid hW 0 hL0 rfl) (cE_8 Ω 0 _) rfl rfl (Nat.le_of_ble_eq_true rfl) rfl rfl ⟨by decide, by decide⟩ ⟨Nat.zero_le _, Nat.zero_le _⟩ dX6_readNumber_57
      refine R_istore (lv2 := [some (rf Ω 6 0), some (.int x1), some (.int x2), some (.int y5), some (.int (x4 + 1)), some (.int r7)]) dX6_readNumber_60 (by decide) rfl rfl ?_
      refine R_goto (tgt := 11) dX6_readNumber_62 (by decide) ?_
      exact hC y5 (x4 + 1) r7 σ8 h
set_option maxRecDepth 100000 in
set_option maxHeartbeats 4000000 in
theorem rlX6_readNumber_L11 {l : Launch} {Ω : rO} (hW : WF Ω) (x1 : Int32) (x2 : Int32) (hL0 : oL Ω 6 0) {K : Int32 → rS → Prop} {KE : (Int32 × Int32 × Int32) → rS → Prop} (hE0 : ∀ (e : (Int32 × Int32 × Int32)) (σ : rS), KE e σ → Run l Ω cX6_readNumber RX6 6 (some .int) rmX6_readNumber K 65 [some (rf Ω 6 0), some (.int x1), some (.int x2), some (.int e.1), some (.int e.2.1), some (.int e.2.2)] [] σ) : ∀ (n : Nat) (x3 : Int32) (x4 : Int32) (x5 : Int32) (σ : rS), hit (lp (fun (x : (Int32 × Int32 × Int32)) σ => fX6_readNumber_L11 x1 x2 x.1 x.2.1 x.2.2 σ) n (x3, x4, x5) σ) KE → Run l Ω cX6_readNumber RX6 6 (some .int) rmX6_readNumber K 11 [some (rf Ω 6 0), some (.int x1), some (.int x2), some (.int x3), some (.int x4), some (.int x5)] [] σ := by
  intro n
  induction n with
  | zero => intro x3 x4 x5 σ h; exact (h : False).elim
  | succ n ih =>
    intro x3 x4 x5 σ h
    exact rsX6_readNumber_L11 hW x1 x2 x3 x4 x5 hL0 σ (fun x3 x4 x5 σ h => ih x3 x4 x5 σ h) (fun e σ h => hE0 e σ h) (hit_lp h)
set_option maxRecDepth 100000 in
set_option maxHeartbeats 4000000 in
theorem rnX6_readNumber_j98 {l : Launch} {Ω : rO} (hW : WF Ω) (hL0 : oL Ω 6 0) (σ : rS) {K : Int32 → rS → Prop}  (h : hit (fX6_readNumber_j98  σ) K) : Run l Ω cX6_readNumber RX6 6 (some .int) rmX6_readNumber K 98 [some (rf Ω 6 0), none, none, none, none, none] [] σ := by
  unfold fX6_readNumber_j98 at h
  refine R_aload_n (i := 0) dX6_readNumber_98 rfl rfl ?_
  refine R_aload_n (i := 0) dX6_readNumber_99 rfl rfl ?_
  refine R_get foX6_22 hL0 (cE_6 Ω 0 _) rfl dX6_readNumber_100 ?_
  refine R_iconst (v := 1) dX6_readNumber_103 rfl ?_
  refine R_isub dX6_readNumber_104 ?_
  refine R_put poX6_57 hL0 (cE_6 Ω 0 _) (cP_6_5 Ω 0 _ _) (Nat.le_of_ble_eq_true rfl) dX6_readNumber_105 ?_
  refine R_st h (fun σ14 h => ?_)
  refine R_iconst (v := (-1)) dX6_readNumber_108 rfl ?_
  exact R_iret dX6_readNumber_109 rfl h
set_option maxRecDepth 100000 in
set_option maxHeartbeats 4000000 in
theorem rnX6_readNumber_j65 {l : Launch} {Ω : rO} (hW : WF Ω) (x1 : Int32) (x2 : Int32) (x3 : Int32) (x4 : Int32) (x5 : Int32) (hL0 : oL Ω 6 0) (σ : rS) {K : Int32 → rS → Prop}  (h : hit (fX6_readNumber_j65 x1 x2 x3 x4 x5 σ) K) : Run l Ω cX6_readNumber RX6 6 (some .int) rmX6_readNumber K 65 [some (rf Ω 6 0), some (.int x1), some (.int x2), some (.int x3), some (.int x4), some (.int x5)] [] σ := by
  unfold fX6_readNumber_j65 at h
  refine R_iload (i := 4) dX6_readNumber_65 rfl ?_
  refine R_if_eq (tgt := 78) dX6_readNumber_67 (by decide) (fun hc => ?_) (fun hc => ?_)
  · have h := hit_t h hc
    refine R_aload_n (i := 0) dX6_readNumber_78 rfl rfl ?_
    refine R_aload_n (i := 0) dX6_readNumber_79 rfl rfl ?_
    refine R_get foX6_22 hL0 (cE_6 Ω 0 _) rfl dX6_readNumber_80 ?_
    refine R_put poX6_57 hL0 (cE_6 Ω 0 _) (cP_6_5 Ω 0 _ _) (Nat.le_of_ble_eq_true rfl) dX6_readNumber_83 ?_
    refine R_st h (fun σ11 h => ?_)
    refine R_iconst (v := (-1)) dX6_readNumber_86 rfl ?_
    exact R_iret dX6_readNumber_87 rfl h
  · have h := hit_f h hc
    refine R_iload (i := 5) dX6_readNumber_70 rfl ?_
    refine R_callSi (ctX6_isDigit l Ω x5 _ _ (hit_mono (hit_bd h) (fun r12 σ13 h => ?_))) okX6_isDigit mw_504 rfl rfl (Nat.le_of_ble_eq_true rfl) rfl rfl ⟨by decide, by decide⟩ ⟨Nat.zero_le _, Nat.zero_le _⟩ dX6_readNumber_72
    refine R_if_eq (tgt := 88) dX6_readNumber_75 (by decide) (fun hc => ?_) (fun hc => ?_)
    · have h := hit_t h hc
      refine R_iload_n (i := 3) dX6_readNumber_88 rfl rfl ?_
      refine R_iload_n (i := 1) dX6_readNumber_89 rfl rfl ?_
      refine R_icmp_lt (tgt := 98) dX6_readNumber_90 (by decide) (fun hc => ?_) (fun hc => ?_)
      · have h := hit_t h hc
        refine R_drop (lv2 := [some (rf Ω 6 0), none, some (.int x2), some (.int x3), some (.int x4), some (.int x5)]) 1 rfl ?_
        refine R_drop (lv2 := [some (rf Ω 6 0), none, none, some (.int x3), some (.int x4), some (.int x5)]) 2 rfl ?_
        refine R_drop (lv2 := [some (rf Ω 6 0), none, none, none, some (.int x4), some (.int x5)]) 3 rfl ?_
        refine R_drop (lv2 := [some (rf Ω 6 0), none, none, none, none, some (.int x5)]) 4 rfl ?_
        refine R_drop (lv2 := [some (rf Ω 6 0), none, none, none, none, none]) 5 rfl ?_
        exact rnX6_readNumber_j98 hW hL0 σ13  h
      · have h := hit_f h hc
        refine R_iload_n (i := 3) dX6_readNumber_93 rfl rfl ?_
        refine R_iload_n (i := 2) dX6_readNumber_94 rfl rfl ?_
        refine R_icmp_le (tgt := 110) dX6_readNumber_95 (by decide) (fun hc => ?_) (fun hc => ?_)
        · have h := hit_f h hc
          refine R_iload_n (i := 3) dX6_readNumber_110 rfl rfl ?_
          exact R_iret dX6_readNumber_111 rfl h
        · have h := hit_t h hc
          refine R_drop (lv2 := [some (rf Ω 6 0), none, some (.int x2), some (.int x3), some (.int x4), some (.int x5)]) 1 rfl ?_
          refine R_drop (lv2 := [some (rf Ω 6 0), none, none, some (.int x3), some (.int x4), some (.int x5)]) 2 rfl ?_
          refine R_drop (lv2 := [some (rf Ω 6 0), none, none, none, some (.int x4), some (.int x5)]) 3 rfl ?_
          refine R_drop (lv2 := [some (rf Ω 6 0), none, none, none, none, some (.int x5)]) 4 rfl ?_
          refine R_drop (lv2 := [some (rf Ω 6 0), none, none, none, none, none]) 5 rfl ?_
          exact rnX6_readNumber_j98 hW hL0 σ13  h
    · have h := hit_f h hc
      refine R_aload_n (i := 0) dX6_readNumber_78 rfl rfl ?_
      refine R_aload_n (i := 0) dX6_readNumber_79 rfl rfl ?_
      refine R_get foX6_22 hL0 (cE_6 Ω 0 _) rfl dX6_readNumber_80 ?_
      refine R_put poX6_57 hL0 (cE_6 Ω 0 _) (cP_6_5 Ω 0 _ _) (Nat.le_of_ble_eq_true rfl) dX6_readNumber_83 ?_
      refine R_st h (fun σ15 h => ?_)
      refine R_iconst (v := (-1)) dX6_readNumber_86 rfl ?_
      exact R_iret dX6_readNumber_87 rfl h
set_option maxRecDepth 100000 in
set_option maxHeartbeats 4000000 in
theorem ctX6_readNumber (l : Launch) (Ω : rO) (x1 : Int32) (x2 : Int32) (hL0 : oL Ω 6 0) (σ : rS) (K : Int32 → rS → Prop) (h : hit (fX6_readNumber x1 x2 σ) K) : Ct l Ω yX6_readNumber cX6_readNumber 6 (some .int) rmX6_readNumber [rf Ω 6 0, .int x1, .int x2] σ K := by
  refine Ct.of (own := RX6) (lv := [some (rf Ω 6 0), some (.int x1), some (.int x2), none, none, none]) (by decide) rfl (Nat.le_of_ble_eq_true rfl) rfl (fun hW => ?_)
  unfold fX6_readNumber at h
  refine R_iconst (v := 0) dX6_readNumber_0 rfl ?_
  refine R_istore_n (lv2 := [some (rf Ω 6 0), some (.int x1), some (.int x2), some (.int 0), none, none]) dX6_readNumber_1 rfl (by decide) rfl rfl ?_
  refine R_iconst (v := 0) dX6_readNumber_2 rfl ?_
  refine R_istore (lv2 := [some (rf Ω 6 0), some (.int x1), some (.int x2), some (.int 0), some (.int 0), none]) dX6_readNumber_3 (by decide) rfl rfl ?_
  refine R_aload_n (i := 0) dX6_readNumber_5 rfl rfl ?_
  refine R_callVi (ctX6_nextSign l Ω hL0 _ _ (hit_mono (hit_bd h) (fun r1 σ2 h => ?_))) okX6_nextSign mw_403 hL0 (cE_6 Ω 0 _) rfl rfl (Nat.le_of_ble_eq_true rfl) rfl rfl ⟨by decide, by decide⟩ ⟨Nat.zero_le _, Nat.zero_le _⟩ dX6_readNumber_6
  refine R_istore (lv2 := [some (rf Ω 6 0), some (.int x1), some (.int x2), some (.int 0), some (.int 0), some (.int r1)]) dX6_readNumber_9 (by decide) rfl rfl ?_
  refine rlX6_readNumber_L11 hW x1 x2 hL0 ?_ fu 0 0 r1 σ2 (hit_bd h)
  · intro e10 σ9 h
    try dsimp only at h
    exact rnX6_readNumber_j65 hW x1 x2 e10.1 e10.2.1 e10.2.2 hL0 σ9  h
set_option maxRecDepth 100000 in
set_option maxHeartbeats 4000000 in
theorem rsX6_readHeap_L46 {l : Launch} {Ω : rO} (hW : WF Ω) (x1 : Int32) (x2 : Int32) (hL0 : oL Ω 6 0) (σ : rS) {K : Int32 → rS → Prop} {K0 : ((Int32 × Int32) ⊕ (Unit ⊕ (Unit ⊕ (Unit ⊕ Unit)))) → rS → Prop} (hC : ∀ (x1 : Int32) (x2 : Int32) (σ : rS), K0 (.inl (x1, x2)) σ → Run l Ω cX6_readHeap RX6 5 (some .int) rmX6_readHeap K 46 [some (rf Ω 6 0), some (.int x1), some (.int x2), none, none] [] σ) (hE0 : ∀ (e : Unit) (σ : rS), K0 (.inr (.inl e)) σ → Run l Ω cX6_readHeap RX6 5 (some .int) rmX6_readHeap K 60 [none, none, none, none, none] [] σ) (hE1 : ∀ (e : Unit) (σ : rS), K0 (.inr (.inr (.inl e))) σ → Run l Ω cX6_readHeap RX6 5 (some .int) rmX6_readHeap K 91 [some (rf Ω 6 0), none, none, none, none] [] σ) (hE2 : ∀ (e : Unit) (σ : rS), K0 (.inr (.inr (.inr (.inl e)))) σ → Run l Ω cX6_readHeap RX6 5 (some .int) rmX6_readHeap K 147 [some (rf Ω 6 0), none, none, none, none] [] σ) (hE3 : ∀ (e : Unit) (σ : rS), K0 (.inr (.inr (.inr (.inr e)))) σ → Run l Ω cX6_readHeap RX6 5 (some .int) rmX6_readHeap K 158 [some (rf Ω 6 0), none, none, none, none] [] σ) (h : hit (fX6_readHeap_L46 x1 x2 σ) K0) : Run l Ω cX6_readHeap RX6 5 (some .int) rmX6_readHeap K 46 [some (rf Ω 6 0), some (.int x1), some (.int x2), none, none] [] σ := by
  unfold fX6_readHeap_L46 at h
  refine R_iload_n (i := 2) dX6_readHeap_46 rfl rfl ?_
  refine R_iconst (v := 4) dX6_readHeap_47 rfl ?_
  refine R_icmp_gt (tgt := 158) dX6_readHeap_48 (by decide) (fun hc => ?_) (fun hc => ?_)
  · have h := hit_t h hc
    refine R_drop (lv2 := [some (rf Ω 6 0), none, some (.int x2), none, none]) 1 rfl ?_
    refine R_drop (lv2 := [some (rf Ω 6 0), none, none, none, none]) 2 rfl ?_
    exact hE3 () σ h
  · have h := hit_f h hc
    refine R_aload_n (i := 0) dX6_readHeap_51 rfl rfl ?_
    refine R_callVi (ctX6_nextSign l Ω hL0 _ _ (hit_mono (hit_bd h) (fun r6 σ7 h => ?_))) okX6_nextSign mw_403 hL0 (cE_6 Ω 0 _) rfl rfl (Nat.le_of_ble_eq_true rfl) rfl rfl ⟨by decide, by decide⟩ ⟨Nat.zero_le _, Nat.zero_le _⟩ dX6_readHeap_52
    refine R_istore_n (lv2 := [some (rf Ω 6 0), some (.int x1), some (.int x2), some (.int r6), none]) dX6_readHeap_55 rfl (by decide) rfl rfl ?_
    refine R_iload_n (i := 3) dX6_readHeap_56 rfl rfl ?_
    refine R_if_ne (tgt := 62) dX6_readHeap_57 (by decide) (fun hc => ?_) (fun hc => ?_)
    · have h := hit_f h hc
      refine R_ldcS (tx := "esoa") (q := oX Ω (10 + 0)) (fun _ h => h.1) dX6_readHeap_62 ?_
      refine R_iload_n (i := 3) dX6_readHeap_64 rfl rfl ?_
      refine R_i2c dX6_readHeap_65 ?_
      refine R_callTi (by decide : 0 < 2) (ctJ0_indexOf_0f7a4 l Ω 0 ((r6.toUInt32 % 65536).toInt32) (by decide : 0 < 2) _ _ (hit_mono (hit_bd h) (fun r8 σ9 h => ?_))) oktJ0_indexOf_0f7a4 mw_412 rfl rfl (Nat.le_of_ble_eq_true rfl) rfl rfl ⟨by decide, by decide⟩ ⟨Nat.zero_le _, Nat.zero_le _⟩ dX6_readHeap_66
      refine R_istore (lv2 := [some (rf Ω 6 0), some (.int x1), some (.int x2), some (.int r6), some (.int r8)]) dX6_readHeap_69 (by decide) rfl rfl ?_
      refine R_iload (i := 4) dX6_readHeap_71 rfl ?_
      refine R_if_lt (tgt := 91) dX6_readHeap_73 (by decide) (fun hc => ?_) (fun hc => ?_)
      · have h := hit_t h hc
        refine R_drop (lv2 := [some (rf Ω 6 0), none, some (.int x2), some (.int r6), some (.int r8)]) 1 rfl ?_
        refine R_drop (lv2 := [some (rf Ω 6 0), none, none, some (.int r6), some (.int r8)]) 2 rfl ?_
        refine R_drop (lv2 := [some (rf Ω 6 0), none, none, none, some (.int r8)]) 3 rfl ?_
        refine R_drop (lv2 := [some (rf Ω 6 0), none, none, none, none]) 4 rfl ?_
        exact hE1 () σ9 h
      · have h := hit_f h hc
        refine R_iload (i := 4) dX6_readHeap_76 rfl ?_
        refine R_iconst (v := 4) dX6_readHeap_78 rfl ?_
        refine R_icmp_ge (tgt := 91) dX6_readHeap_79 (by decide) (fun hc => ?_) (fun hc => ?_)
        · have h := hit_f h hc
          refine R_drop (lv2 := [some (rf Ω 6 0), none, some (.int x2), some (.int r6), some (.int r8)]) 1 rfl ?_
          refine R_drop (lv2 := [some (rf Ω 6 0), none, none, some (.int r6), some (.int r8)]) 2 rfl ?_
          refine R_drop (lv2 := [some (rf Ω 6 0), none, none, none, some (.int r8)]) 3 rfl ?_
          refine R_drop (lv2 := [some (rf Ω 6 0), none, none, none, none]) 4 rfl ?_
          exact hE1 () σ9 h
        · have h := hit_t h hc
          refine R_iload_n (i := 1) dX6_readHeap_82 rfl rfl ?_
          refine R_iload (i := 4) dX6_readHeap_83 rfl ?_
          refine R_ishr dX6_readHeap_85 ?_
          refine R_iconst (v := 1) dX6_readHeap_86 rfl ?_
          refine R_iand dX6_readHeap_87 ?_
          refine R_if_eq (tgt := 96) dX6_readHeap_88 (by decide) (fun hc => ?_) (fun hc => ?_)
          · have h := hit_t h hc
            refine R_aload_n (i := 0) dX6_readHeap_96 rfl rfl ?_
            refine R_dup dX6_readHeap_97 rfl ?_
            refine R_get foX6_22 hL0 (cE_6 Ω 0 _) rfl dX6_readHeap_98 ?_
            refine R_iconst (v := 1) dX6_readHeap_101 rfl ?_
            refine R_iadd dX6_readHeap_102 ?_
            refine R_put poX6_22 hL0 (cE_6 Ω 0 _) (cP_6_4 Ω 0 _ _) (Nat.le_of_ble_eq_true rfl) dX6_readHeap_103 ?_
            refine R_st h (fun σ10 h => ?_)
            refine R_iload_n (i := 1) dX6_readHeap_106 rfl rfl ?_
            refine R_iconst (v := 1) dX6_readHeap_107 rfl ?_
            refine R_iload (i := 4) dX6_readHeap_108 rfl ?_
            refine R_ishl dX6_readHeap_110 ?_
            refine R_ior dX6_readHeap_111 ?_
            refine R_topi h (fun y11 h => ?_)
            refine R_istore_n (lv2 := [some (rf Ω 6 0), some (.int y11), some (.int x2), some (.int r6), some (.int r8)]) dX6_readHeap_112 rfl (by decide) rfl rfl ?_
            refine R_aload_n (i := 0) dX6_readHeap_113 rfl rfl ?_
            refine R_get foX6_9 hL0 (cE_6 Ω 0 _) rfl dX6_readHeap_114 ?_
            refine R_iload (i := 4) dX6_readHeap_117 rfl ?_
            refine R_aload_n (i := 0) dX6_readHeap_119 rfl rfl ?_
            refine R_gst (fun _ h => h.1.1) mw_496 dX6_readHeap_120 ?_
            refine R_iload (i := 4) dX6_readHeap_123 rfl ?_
            obtain ⟨hb, h⟩ := hit_bnd h
            refine R_sti SF.it0 hb rfl dX6_readHeap_125 ?_
            refine R_gst (fun _ h => h.2.1.1) mw_498 dX6_readHeap_126 ?_
            refine R_iload (i := 4) dX6_readHeap_129 rfl ?_
            obtain ⟨hb, h⟩ := hit_bnd h
            refine R_sti SF.it1 hb rfl dX6_readHeap_131 ?_
            refine R_callVi (ctX6_readNumber l Ω (sItem 0 (ix r8)) (sItem 1 (ix r8)) hL0 _ _ (hit_mono (hit_bd h) (fun r12 σ13 h => ?_))) okX6_readNumber mw_500 hL0 (cE_6 Ω 0 _) rfl rfl (Nat.le_of_ble_eq_true rfl) rfl rfl ⟨by decide, by decide⟩ ⟨Nat.zero_le _, Nat.zero_le _⟩ dX6_readHeap_132
            obtain ⟨hb, h⟩ := hit_bnd h
            refine R_iast (WF.kid hW 1 hL0 rfl) (cE_26 Ω 0) hb dX6_readHeap_135 ?_
            refine R_st h (fun σ14 h => ?_)
            refine R_aload_n (i := 0) dX6_readHeap_136 rfl rfl ?_
            refine R_get foX6_9 hL0 (cE_6 Ω 0 _) rfl dX6_readHeap_137 ?_
            refine R_iload (i := 4) dX6_readHeap_140 rfl ?_
            obtain ⟨hb, h⟩ := hit_bnd h
            refine R_iald (WF.kid hW 1 hL0 rfl) (cE_26 Ω 0 _) hb dX6_readHeap_142 ?_
            refine R_iconst (v := (-1)) dX6_readHeap_143 rfl ?_
            refine R_icmp_ne (tgt := 152) dX6_readHeap_144 (by decide) (fun hc => ?_) (fun hc => ?_)
            · have h := hit_f h hc
              refine R_iinc (v := x2 + 1) (lv2 := [some (rf Ω 6 0), some (.int y11), some (.int (x2 + 1)), some (.int r6), some (.int r8)]) dX6_readHeap_152 rfl rfl (by decide) rfl rfl ?_
              refine R_goto (tgt := 46) dX6_readHeap_155 (by decide) ?_
              refine R_drop (lv2 := [some (rf Ω 6 0), some (.int y11), some (.int (x2 + 1)), none, some (.int r8)]) 3 rfl ?_
              refine R_drop (lv2 := [some (rf Ω 6 0), some (.int y11), some (.int (x2 + 1)), none, none]) 4 rfl ?_
              exact hC y11 (x2 + 1) σ14 h
            · have h := hit_t h hc
              refine R_drop (lv2 := [some (rf Ω 6 0), none, some (.int x2), some (.int r6), some (.int r8)]) 1 rfl ?_
              refine R_drop (lv2 := [some (rf Ω 6 0), none, none, some (.int r6), some (.int r8)]) 2 rfl ?_
              refine R_drop (lv2 := [some (rf Ω 6 0), none, none, none, some (.int r8)]) 3 rfl ?_
              refine R_drop (lv2 := [some (rf Ω 6 0), none, none, none, none]) 4 rfl ?_
              exact hE2 () σ14 h
          · have h := hit_f h hc
            refine R_drop (lv2 := [some (rf Ω 6 0), none, some (.int x2), some (.int r6), some (.int r8)]) 1 rfl ?_
            refine R_drop (lv2 := [some (rf Ω 6 0), none, none, some (.int r6), some (.int r8)]) 2 rfl ?_
            refine R_drop (lv2 := [some (rf Ω 6 0), none, none, none, some (.int r8)]) 3 rfl ?_
            refine R_drop (lv2 := [some (rf Ω 6 0), none, none, none, none]) 4 rfl ?_
            exact hE1 () σ9 h
    · have h := hit_t h hc
      refine R_drop (lv2 := [none, some (.int x1), some (.int x2), some (.int r6), none]) 0 rfl ?_
      refine R_drop (lv2 := [none, none, some (.int x2), some (.int r6), none]) 1 rfl ?_
      refine R_drop (lv2 := [none, none, none, some (.int r6), none]) 2 rfl ?_
      refine R_drop (lv2 := [none, none, none, none, none]) 3 rfl ?_
      exact hE0 () σ7 h
set_option maxRecDepth 100000 in
set_option maxHeartbeats 4000000 in
theorem rlX6_readHeap_L46 {l : Launch} {Ω : rO} (hW : WF Ω) (hL0 : oL Ω 6 0) {K : Int32 → rS → Prop} {KE : (Unit ⊕ (Unit ⊕ (Unit ⊕ Unit))) → rS → Prop} (hE0 : ∀ (e : Unit) (σ : rS), KE (.inl e) σ → Run l Ω cX6_readHeap RX6 5 (some .int) rmX6_readHeap K 60 [none, none, none, none, none] [] σ) (hE1 : ∀ (e : Unit) (σ : rS), KE (.inr (.inl e)) σ → Run l Ω cX6_readHeap RX6 5 (some .int) rmX6_readHeap K 91 [some (rf Ω 6 0), none, none, none, none] [] σ) (hE2 : ∀ (e : Unit) (σ : rS), KE (.inr (.inr (.inl e))) σ → Run l Ω cX6_readHeap RX6 5 (some .int) rmX6_readHeap K 147 [some (rf Ω 6 0), none, none, none, none] [] σ) (hE3 : ∀ (e : Unit) (σ : rS), KE (.inr (.inr (.inr e))) σ → Run l Ω cX6_readHeap RX6 5 (some .int) rmX6_readHeap K 158 [some (rf Ω 6 0), none, none, none, none] [] σ) : ∀ (n : Nat) (x1 : Int32) (x2 : Int32) (σ : rS), hit (lp (fun (x : (Int32 × Int32)) σ => fX6_readHeap_L46 x.1 x.2 σ) n (x1, x2) σ) KE → Run l Ω cX6_readHeap RX6 5 (some .int) rmX6_readHeap K 46 [some (rf Ω 6 0), some (.int x1), some (.int x2), none, none] [] σ := by
  intro n
  induction n with
  | zero => intro x1 x2 σ h; exact (h : False).elim
  | succ n ih =>
    intro x1 x2 σ h
    exact rsX6_readHeap_L46 hW x1 x2 hL0 σ (fun x1 x2 σ h => ih x1 x2 σ h) (fun e σ h => hE0 e σ h) (fun e σ h => hE1 e σ h) (fun e σ h => hE2 e σ h) (fun e σ h => hE3 e σ h) (hit_lp h)
set_option maxRecDepth 100000 in
set_option maxHeartbeats 4000000 in
theorem ctX6_readHeap (l : Launch) (Ω : rO) (hL0 : oL Ω 6 0) (σ : rS) (K : Int32 → rS → Prop) (h : hit (fX6_readHeap  σ) K) : Ct l Ω yX6_readHeap cX6_readHeap 5 (some .int) rmX6_readHeap [rf Ω 6 0] σ K := by
  refine Ct.of (own := RX6) (lv := [some (rf Ω 6 0), none, none, none, none]) (by decide) rfl (Nat.le_of_ble_eq_true rfl) rfl (fun hW => ?_)
  unfold fX6_readHeap at h
  refine R_aload_n (i := 0) dX6_readHeap_0 rfl rfl ?_
  refine R_iconst (v := 0) dX6_readHeap_1 rfl ?_
  refine R_put poX6_22 hL0 (cE_6 Ω 0 _) (cP_6_4 Ω 0 _ _) (Nat.le_of_ble_eq_true rfl) dX6_readHeap_2 ?_
  refine R_st h (fun σ1 h => ?_)
  refine R_gst (fun _ h => h.2.2.1.1) mw_398 dX6_readHeap_5 ?_
  refine R_iconst (v := 0) dX6_readHeap_8 rfl ?_
  refine R_aload_n (i := 0) dX6_readHeap_9 rfl rfl ?_
  refine R_get foX6_9 hL0 (cE_6 Ω 0 _) rfl dX6_readHeap_10 ?_
  refine R_iconst (v := 0) dX6_readHeap_13 rfl ?_
  refine R_iconst (v := 4) dX6_readHeap_14 rfl ?_
  obtain ⟨hb, h⟩ := hit_bcp h
  refine R_copyS SF.it2 (WF.kid hW 1 hL0 rfl) (cE_26 Ω 0) hb mw_400 mw_402 mw_401 mw_13 (by decide) (Nat.le_of_ble_eq_true rfl) dX6_readHeap_15 ?_
  refine R_st h (fun σ2 h => ?_)
  refine R_aload_n (i := 0) dX6_readHeap_18 rfl rfl ?_
  refine R_callVi (ctX6_nextSign l Ω hL0 _ _ (hit_mono (hit_bd h) (fun r3 σ4 h => ?_))) okX6_nextSign mw_403 hL0 (cE_6 Ω 0 _) rfl rfl (Nat.le_of_ble_eq_true rfl) rfl rfl ⟨by decide, by decide⟩ ⟨Nat.zero_le _, Nat.zero_le _⟩ dX6_readHeap_19
  refine R_bipush (v := 104) dX6_readHeap_22 rfl ?_
  refine R_icmp_eq (tgt := 32) dX6_readHeap_24 (by decide) (fun hc => ?_) (fun hc => ?_)
  · have h := hit_t h hc
    refine R_aload_n (i := 0) dX6_readHeap_32 rfl rfl ?_
    refine R_dup dX6_readHeap_33 rfl ?_
    refine R_get foX6_22 hL0 (cE_6 Ω 0 _) rfl dX6_readHeap_34 ?_
    refine R_iconst (v := 1) dX6_readHeap_37 rfl ?_
    refine R_iadd dX6_readHeap_38 ?_
    refine R_put poX6_22 hL0 (cE_6 Ω 0 _) (cP_6_4 Ω 0 _ _) (Nat.le_of_ble_eq_true rfl) dX6_readHeap_39 ?_
    refine R_st h (fun σ5 h => ?_)
    refine R_iconst (v := 0) dX6_readHeap_42 rfl ?_
    refine R_istore_n (lv2 := [some (rf Ω 6 0), some (.int 0), none, none, none]) dX6_readHeap_43 rfl (by decide) rfl rfl ?_
    refine R_iconst (v := 0) dX6_readHeap_44 rfl ?_
    refine R_istore_n (lv2 := [some (rf Ω 6 0), some (.int 0), some (.int 0), none, none]) dX6_readHeap_45 rfl (by decide) rfl rfl ?_
    refine rlX6_readHeap_L46 hW hL0 ?_ ?_ ?_ ?_ fu 0 0 σ5 (hit_bd h)
    · intro e16 σ15 h
      try dsimp only at h
      refine R_iconst (v := (-1)) dX6_readHeap_60 rfl ?_
      exact R_iret dX6_readHeap_61 rfl h
    · intro e17 σ15 h
      try dsimp only at h
      refine R_aload_n (i := 0) dX6_readHeap_91 rfl rfl ?_
      refine R_get foX6_22 hL0 (cE_6 Ω 0 _) rfl dX6_readHeap_92 ?_
      exact R_iret dX6_readHeap_95 rfl h
    · intro e18 σ15 h
      try dsimp only at h
      refine R_aload_n (i := 0) dX6_readHeap_147 rfl rfl ?_
      refine R_get foX6_57 hL0 (cE_6 Ω 0 _) rfl dX6_readHeap_148 ?_
      exact R_iret dX6_readHeap_151 rfl h
    · intro e19 σ15 h
      try dsimp only at h
      refine R_aload_n (i := 0) dX6_readHeap_158 rfl rfl ?_
      refine R_get foX6_22 hL0 (cE_6 Ω 0 _) rfl dX6_readHeap_159 ?_
      exact R_iret dX6_readHeap_162 rfl h
  · have h := hit_f h hc
    refine R_aload_n (i := 0) dX6_readHeap_27 rfl rfl ?_
    refine R_get foX6_22 hL0 (cE_6 Ω 0 _) rfl dX6_readHeap_28 ?_
    exact R_iret dX6_readHeap_31 rfl h
set_option maxRecDepth 100000 in
set_option maxHeartbeats 4000000 in
theorem ctX6_readComma (l : Launch) (Ω : rO) (hL0 : oL Ω 6 0) (σ : rS) (K : Int32 → rS → Prop) (h : hit (fX6_readComma  σ) K) : Ct l Ω yX6_readComma cX6_readComma 1 (some .boolean) rmX6_readComma [rf Ω 6 0] σ K := by
  refine Ct.of (own := RX6) (lv := [some (rf Ω 6 0)]) (by decide) rfl (Nat.le_of_ble_eq_true rfl) rfl (fun hW => ?_)
  unfold fX6_readComma at h
  refine R_aload_n (i := 0) dX6_readComma_0 rfl rfl ?_
  refine R_callVi (ctX6_nextSign l Ω hL0 _ _ (hit_mono (hit_bd h) (fun r1 σ2 h => ?_))) okX6_nextSign mw_403 hL0 (cE_6 Ω 0 _) rfl rfl (Nat.le_of_ble_eq_true rfl) rfl rfl ⟨by decide, by decide⟩ ⟨Nat.zero_le _, Nat.zero_le _⟩ dX6_readComma_1
  refine R_bipush (v := 44) dX6_readComma_4 rfl ?_
  refine R_icmp_eq (tgt := 19) dX6_readComma_6 (by decide) (fun hc => ?_) (fun hc => ?_)
  · have h := hit_t h hc
    refine R_aload_n (i := 0) dX6_readComma_19 rfl rfl ?_
    refine R_dup dX6_readComma_20 rfl ?_
    refine R_get foX6_22 hL0 (cE_6 Ω 0 _) rfl dX6_readComma_21 ?_
    refine R_iconst (v := 1) dX6_readComma_24 rfl ?_
    refine R_iadd dX6_readComma_25 ?_
    refine R_put poX6_22 hL0 (cE_6 Ω 0 _) (cP_6_4 Ω 0 _ _) (Nat.le_of_ble_eq_true rfl) dX6_readComma_26 ?_
    refine R_st h (fun σ3 h => ?_)
    refine R_iconst (v := 1) dX6_readComma_29 rfl ?_
    exact R_zret dX6_readComma_30 rfl (Or.inr rfl) h
  · have h := hit_f h hc
    refine R_aload_n (i := 0) dX6_readComma_9 rfl rfl ?_
    refine R_aload_n (i := 0) dX6_readComma_10 rfl rfl ?_
    refine R_get foX6_22 hL0 (cE_6 Ω 0 _) rfl dX6_readComma_11 ?_
    refine R_put poX6_57 hL0 (cE_6 Ω 0 _) (cP_6_5 Ω 0 _ _) (Nat.le_of_ble_eq_true rfl) dX6_readComma_14 ?_
    refine R_st h (fun σ4 h => ?_)
    refine R_iconst (v := 0) dX6_readComma_17 rfl ?_
    exact R_zret dX6_readComma_18 rfl (Or.inl rfl) h
set_option maxRecDepth 100000 in
set_option maxHeartbeats 4000000 in
theorem rsX6_readStep_L57 {l : Launch} {Ω : rO} (hW : WF Ω) (x2 : Int32) (x3 : Int32) (x4 : Int32) (hL0 : oL Ω 6 0) (σ : rS) {K : Int32 → rS → Prop} {K0 : (Int32 ⊕ Unit) → rS → Prop} (hC : ∀ (x4 : Int32) (σ : rS), K0 (.inl x4) σ → Run l Ω cX6_readStep RX6 5 (some .boolean) rmX6_readStep K 57 [some (rf Ω 6 0), none, some (.int x2), some (.int x3), some (.int x4)] [] σ) (hE0 : ∀ (e : Unit) (σ : rS), K0 (.inr e) σ → Run l Ω cX6_readStep RX6 5 (some .boolean) rmX6_readStep K 79 [some (rf Ω 6 0), none, some (.int x2), some (.int x3), none] [] σ) (h : hit (fX6_readStep_L57 x2 x3 x4 σ) K0) : Run l Ω cX6_readStep RX6 5 (some .boolean) rmX6_readStep K 57 [some (rf Ω 6 0), none, some (.int x2), some (.int x3), some (.int x4)] [] σ := by
  unfold fX6_readStep_L57 at h
  refine R_iload (i := 4) dX6_readStep_57 rfl ?_
  refine R_iconst (v := 5) dX6_readStep_59 rfl ?_
  refine R_icmp_ge (tgt := 79) dX6_readStep_60 (by decide) (fun hc => ?_) (fun hc => ?_)
  · have h := hit_f h hc
    refine R_drop (lv2 := [some (rf Ω 6 0), none, some (.int x2), some (.int x3), none]) 4 rfl ?_
    exact hE0 () σ h
  · have h := hit_t h hc
    refine R_aload_n (i := 0) dX6_readStep_63 rfl rfl ?_
    refine R_get foX6_15 hL0 (cE_6 Ω 0 _) rfl dX6_readStep_64 ?_
    refine R_iload_n (i := 3) dX6_readStep_67 rfl rfl ?_
    refine R_iload (i := 4) dX6_readStep_68 rfl ?_
    refine R_iadd dX6_readStep_70 ?_
    refine R_iconst (v := (-1)) dX6_readStep_71 rfl ?_
    obtain ⟨hb, h⟩ := hit_bnd h
    refine R_iast (WF.kid hW 2 hL0 rfl) (cE_27 Ω 0) hb dX6_readStep_72 ?_
    refine R_st h (fun σ9 h => ?_)
    refine R_iinc (v := x4 + 1) (lv2 := [some (rf Ω 6 0), none, some (.int x2), some (.int x3), some (.int (x4 + 1))]) dX6_readStep_73 rfl rfl (by decide) rfl rfl ?_
    refine R_goto (tgt := 57) dX6_readStep_76 (by decide) ?_
    exact hC (x4 + 1) σ9 h
set_option maxRecDepth 100000 in
set_option maxHeartbeats 4000000 in
theorem rlX6_readStep_L57 {l : Launch} {Ω : rO} (hW : WF Ω) (x2 : Int32) (x3 : Int32) (hL0 : oL Ω 6 0) {K : Int32 → rS → Prop} {KE : Unit → rS → Prop} (hE0 : ∀ (e : Unit) (σ : rS), KE e σ → Run l Ω cX6_readStep RX6 5 (some .boolean) rmX6_readStep K 79 [some (rf Ω 6 0), none, some (.int x2), some (.int x3), none] [] σ) : ∀ (n : Nat) (x4 : Int32) (σ : rS), hit (lp (fun (x : Int32) σ => fX6_readStep_L57 x2 x3 x σ) n x4 σ) KE → Run l Ω cX6_readStep RX6 5 (some .boolean) rmX6_readStep K 57 [some (rf Ω 6 0), none, some (.int x2), some (.int x3), some (.int x4)] [] σ := by
  intro n
  induction n with
  | zero => intro x4 σ h; exact (h : False).elim
  | succ n ih =>
    intro x4 σ h
    exact rsX6_readStep_L57 hW x2 x3 x4 hL0 σ (fun x4 σ h => ih x4 σ h) (fun e σ h => hE0 e σ h) (hit_lp h)
set_option maxRecDepth 100000 in
set_option maxHeartbeats 4000000 in
theorem rnX6_readStep_j107L82 {l : Launch} {Ω : rO} (hW : WF Ω) (x2 : Int32) (x3 : Int32) (x4 : Int32) (hL0 : oL Ω 6 0) (σ : rS) {K : Int32 → rS → Prop} {K0 : (Int32 ⊕ (Unit ⊕ (Unit ⊕ Unit))) → rS → Prop} (hC : ∀ (x4 : Int32) (σ : rS), K0 (.inl x4) σ → Run l Ω cX6_readStep RX6 5 (some .boolean) rmX6_readStep K 82 [some (rf Ω 6 0), none, some (.int x2), some (.int x3), some (.int x4)] [] σ) (hE0 : ∀ (e : Unit) (σ : rS), K0 (.inr (.inl e)) σ → Run l Ω cX6_readStep RX6 5 (some .boolean) rmX6_readStep K 105 [none, none, none, none, none] [] σ) (hE1 : ∀ (e : Unit) (σ : rS), K0 (.inr (.inr (.inl e))) σ → Run l Ω cX6_readStep RX6 5 (some .boolean) rmX6_readStep K 137 [none, none, none, none, none] [] σ) (hE2 : ∀ (e : Unit) (σ : rS), K0 (.inr (.inr (.inr e))) σ → Run l Ω cX6_readStep RX6 5 (some .boolean) rmX6_readStep K 145 [none, none, none, none, none] [] σ) (h : hit (fX6_readStep_j107L82 x2 x3 x4 σ) K0) : Run l Ω cX6_readStep RX6 5 (some .boolean) rmX6_readStep K 107 [some (rf Ω 6 0), none, some (.int x2), some (.int x3), some (.int x4)] [] σ := by
  unfold fX6_readStep_j107L82 at h
  refine R_aload_n (i := 0) dX6_readStep_107 rfl rfl ?_
  refine R_get foX6_15 hL0 (cE_6 Ω 0 _) rfl dX6_readStep_108 ?_
  refine R_iload_n (i := 3) dX6_readStep_111 rfl rfl ?_
  refine R_iload (i := 4) dX6_readStep_112 rfl ?_
  refine R_iadd dX6_readStep_114 ?_
  refine R_aload_n (i := 0) dX6_readStep_115 rfl rfl ?_
  refine R_iconst (v := 0) dX6_readStep_116 rfl ?_
  refine R_sipush (v := 999) dX6_readStep_117 rfl ?_
  refine R_callVi (ctX6_readNumber l Ω 0 999 hL0 _ _ (hit_mono (hit_bd h) (fun r12 σ13 h => ?_))) okX6_readNumber mw_500 hL0 (cE_6 Ω 0 _) rfl rfl (Nat.le_of_ble_eq_true rfl) rfl rfl ⟨by decide, by decide⟩ ⟨Nat.zero_le _, Nat.zero_le _⟩ dX6_readStep_120
  obtain ⟨hb, h⟩ := hit_bnd h
  refine R_iast (WF.kid hW 2 hL0 rfl) (cE_27 Ω 0) hb dX6_readStep_123 ?_
  refine R_st h (fun σ14 h => ?_)
  refine R_aload_n (i := 0) dX6_readStep_124 rfl rfl ?_
  refine R_get foX6_15 hL0 (cE_6 Ω 0 _) rfl dX6_readStep_125 ?_
  refine R_iload_n (i := 3) dX6_readStep_128 rfl rfl ?_
  refine R_iload (i := 4) dX6_readStep_129 rfl ?_
  refine R_iadd dX6_readStep_131 ?_
  obtain ⟨hb, h⟩ := hit_bnd h
  refine R_iald (WF.kid hW 2 hL0 rfl) (cE_27 Ω 0 _) hb dX6_readStep_132 ?_
  refine R_iconst (v := (-1)) dX6_readStep_133 rfl ?_
  refine R_icmp_ne (tgt := 139) dX6_readStep_134 (by decide) (fun hc => ?_) (fun hc => ?_)
  · have h := hit_f h hc
    refine R_iinc (v := x4 + 1) (lv2 := [some (rf Ω 6 0), none, some (.int x2), some (.int x3), some (.int (x4 + 1))]) dX6_readStep_139 rfl rfl (by decide) rfl rfl ?_
    refine R_goto (tgt := 82) dX6_readStep_142 (by decide) ?_
    exact hC (x4 + 1) σ14 h
  · have h := hit_t h hc
    refine R_drop (lv2 := [none, none, some (.int x2), some (.int x3), some (.int x4)]) 0 rfl ?_
    refine R_drop (lv2 := [none, none, none, some (.int x3), some (.int x4)]) 2 rfl ?_
    refine R_drop (lv2 := [none, none, none, none, some (.int x4)]) 3 rfl ?_
    refine R_drop (lv2 := [none, none, none, none, none]) 4 rfl ?_
    exact hE1 () σ14 h
set_option maxRecDepth 100000 in
set_option maxHeartbeats 4000000 in
theorem rsX6_readStep_L82 {l : Launch} {Ω : rO} (hW : WF Ω) (x2 : Int32) (x3 : Int32) (x4 : Int32) (hL0 : oL Ω 6 0) (σ : rS) {K : Int32 → rS → Prop} {K0 : (Int32 ⊕ (Unit ⊕ (Unit ⊕ Unit))) → rS → Prop} (hC : ∀ (x4 : Int32) (σ : rS), K0 (.inl x4) σ → Run l Ω cX6_readStep RX6 5 (some .boolean) rmX6_readStep K 82 [some (rf Ω 6 0), none, some (.int x2), some (.int x3), some (.int x4)] [] σ) (hE0 : ∀ (e : Unit) (σ : rS), K0 (.inr (.inl e)) σ → Run l Ω cX6_readStep RX6 5 (some .boolean) rmX6_readStep K 105 [none, none, none, none, none] [] σ) (hE1 : ∀ (e : Unit) (σ : rS), K0 (.inr (.inr (.inl e))) σ → Run l Ω cX6_readStep RX6 5 (some .boolean) rmX6_readStep K 137 [none, none, none, none, none] [] σ) (hE2 : ∀ (e : Unit) (σ : rS), K0 (.inr (.inr (.inr e))) σ → Run l Ω cX6_readStep RX6 5 (some .boolean) rmX6_readStep K 145 [none, none, none, none, none] [] σ) (h : hit (fX6_readStep_L82 x2 x3 x4 σ) K0) : Run l Ω cX6_readStep RX6 5 (some .boolean) rmX6_readStep K 82 [some (rf Ω 6 0), none, some (.int x2), some (.int x3), some (.int x4)] [] σ := by
  unfold fX6_readStep_L82 at h
  refine R_iload (i := 4) dX6_readStep_82 rfl ?_
  refine R_gst (fun _ h => h.2.2.2.1.1) mw_516 dX6_readStep_84 ?_
  refine R_iload_n (i := 2) dX6_readStep_87 rfl rfl ?_
  obtain ⟨hb, h⟩ := hit_bnd h
  refine R_sti SF.it3 hb rfl dX6_readStep_88 ?_
  refine R_icmp_gt (tgt := 145) dX6_readStep_89 (by decide) (fun hc => ?_) (fun hc => ?_)
  · have h := hit_t h hc
    refine R_drop (lv2 := [none, none, some (.int x2), some (.int x3), some (.int x4)]) 0 rfl ?_
    refine R_drop (lv2 := [none, none, none, some (.int x3), some (.int x4)]) 2 rfl ?_
    refine R_drop (lv2 := [none, none, none, none, some (.int x4)]) 3 rfl ?_
    refine R_drop (lv2 := [none, none, none, none, none]) 4 rfl ?_
    exact hE2 () σ h
  · have h := hit_f h hc
    refine R_iload (i := 4) dX6_readStep_92 rfl ?_
    refine R_iconst (v := 1) dX6_readStep_94 rfl ?_
    refine R_icmp_le (tgt := 107) dX6_readStep_95 (by decide) (fun hc => ?_) (fun hc => ?_)
    · have h := hit_f h hc
      exact rnX6_readStep_j107L82 hW x2 x3 x4 hL0 σ hC hE0 hE1 hE2 h
    · have h := hit_t h hc
      refine R_aload_n (i := 0) dX6_readStep_98 rfl rfl ?_
      refine R_callVi (ctX6_readComma l Ω hL0 _ _ (hit_mono (hit_bd h) (fun r15 σ16 h => ?_))) okX6_readComma mw_518 hL0 (cE_6 Ω 0 _) rfl rfl (Nat.le_of_ble_eq_true rfl) rfl rfl ⟨by decide, by decide⟩ ⟨Nat.zero_le _, Nat.zero_le _⟩ dX6_readStep_99
      refine R_if_ne (tgt := 107) dX6_readStep_102 (by decide) (fun hc => ?_) (fun hc => ?_)
      · have h := hit_f h hc
        exact rnX6_readStep_j107L82 hW x2 x3 x4 hL0 σ16 hC hE0 hE1 hE2 h
      · have h := hit_t h hc
        refine R_drop (lv2 := [none, none, some (.int x2), some (.int x3), some (.int x4)]) 0 rfl ?_
        refine R_drop (lv2 := [none, none, none, some (.int x3), some (.int x4)]) 2 rfl ?_
        refine R_drop (lv2 := [none, none, none, none, some (.int x4)]) 3 rfl ?_
        refine R_drop (lv2 := [none, none, none, none, none]) 4 rfl ?_
        exact hE0 () σ16 h
set_option maxRecDepth 100000 in
set_option maxHeartbeats 4000000 in
theorem rlX6_readStep_L82 {l : Launch} {Ω : rO} (hW : WF Ω) (x2 : Int32) (x3 : Int32) (hL0 : oL Ω 6 0) {K : Int32 → rS → Prop} {KE : (Unit ⊕ (Unit ⊕ Unit)) → rS → Prop} (hE0 : ∀ (e : Unit) (σ : rS), KE (.inl e) σ → Run l Ω cX6_readStep RX6 5 (some .boolean) rmX6_readStep K 105 [none, none, none, none, none] [] σ) (hE1 : ∀ (e : Unit) (σ : rS), KE (.inr (.inl e)) σ → Run l Ω cX6_readStep RX6 5 (some .boolean) rmX6_readStep K 137 [none, none, none, none, none] [] σ) (hE2 : ∀ (e : Unit) (σ : rS), KE (.inr (.inr e)) σ → Run l Ω cX6_readStep RX6 5 (some .boolean) rmX6_readStep K 145 [none, none, none, none, none] [] σ) : ∀ (n : Nat) (x4 : Int32) (σ : rS), hit (lp (fun (x : Int32) σ => fX6_readStep_L82 x2 x3 x σ) n x4 σ) KE → Run l Ω cX6_readStep RX6 5 (some .boolean) rmX6_readStep K 82 [some (rf Ω 6 0), none, some (.int x2), some (.int x3), some (.int x4)] [] σ := by
  intro n
  induction n with
  | zero => intro x4 σ h; exact (h : False).elim
  | succ n ih =>
    intro x4 σ h
    exact rsX6_readStep_L82 hW x2 x3 x4 hL0 σ (fun x4 σ h => ih x4 σ h) (fun e σ h => hE0 e σ h) (fun e σ h => hE1 e σ h) (fun e σ h => hE2 e σ h) (hit_lp h)
set_option maxRecDepth 100000 in
set_option maxHeartbeats 4000000 in
theorem ctX6_readStep (l : Launch) (Ω : rO) (x1 : Int32) (hL0 : oL Ω 6 0) (σ : rS) (K : Int32 → rS → Prop) (h : hit (fX6_readStep x1 σ) K) : Ct l Ω yX6_readStep cX6_readStep 5 (some .boolean) rmX6_readStep [rf Ω 6 0, .int x1] σ K := by
  refine Ct.of (own := RX6) (lv := [some (rf Ω 6 0), some (.int x1), none, none, none]) (by decide) rfl (Nat.le_of_ble_eq_true rfl) rfl (fun hW => ?_)
  unfold fX6_readStep at h
  refine R_ldcS (tx := "nwlxmje") (q := oX Ω (10 + 1)) (fun _ h => h.2.1) dX6_readStep_0 ?_
  refine R_aload_n (i := 0) dX6_readStep_2 rfl rfl ?_
  refine R_callVi (ctX6_nextSign l Ω hL0 _ _ (hit_mono (hit_bd h) (fun r1 σ2 h => ?_))) okX6_nextSign mw_403 hL0 (cE_6 Ω 0 _) rfl rfl (Nat.le_of_ble_eq_true rfl) rfl rfl ⟨by decide, by decide⟩ ⟨Nat.zero_le _, Nat.zero_le _⟩ dX6_readStep_3
  refine R_i2c dX6_readStep_6 ?_
  refine R_callTi (by decide : 1 < 2) (ctJ0_indexOf_0f7a4 l Ω 1 ((r1.toUInt32 % 65536).toInt32) (by decide : 1 < 2) _ _ (hit_mono (hit_bd h) (fun r3 σ4 h => ?_))) oktJ0_indexOf_0f7a4 mw_412 rfl rfl (Nat.le_of_ble_eq_true rfl) rfl rfl ⟨by decide, by decide⟩ ⟨Nat.zero_le _, Nat.zero_le _⟩ dX6_readStep_7
  refine R_istore_n (lv2 := [some (rf Ω 6 0), some (.int x1), some (.int r3), none, none]) dX6_readStep_10 rfl (by decide) rfl rfl ?_
  refine R_iload_n (i := 2) dX6_readStep_11 rfl rfl ?_
  refine R_if_lt (tgt := 23) dX6_readStep_12 (by decide) (fun hc => ?_) (fun hc => ?_)
  · have h := hit_t h hc
    refine R_aload_n (i := 0) dX6_readStep_23 rfl rfl ?_
    refine R_aload_n (i := 0) dX6_readStep_24 rfl rfl ?_
    refine R_get foX6_22 hL0 (cE_6 Ω 0 _) rfl dX6_readStep_25 ?_
    refine R_put poX6_57 hL0 (cE_6 Ω 0 _) (cP_6_5 Ω 0 _ _) (Nat.le_of_ble_eq_true rfl) dX6_readStep_28 ?_
    refine R_st h (fun σ5 h => ?_)
    refine R_iconst (v := 0) dX6_readStep_31 rfl ?_
    exact R_zret dX6_readStep_32 rfl (Or.inl rfl) h
  · have h := hit_f h hc
    refine R_iload_n (i := 2) dX6_readStep_15 rfl rfl ?_
    refine R_gst (fun _ h => h.2.2.2.1.1) mw_516 dX6_readStep_16 ?_
    refine R_stlen (x := 7) SF.it3 rfl dX6_readStep_19 ?_
    refine R_icmp_lt (tgt := 33) dX6_readStep_20 (by decide) (fun hc => ?_) (fun hc => ?_)
    · have h := hit_t h hc
      refine R_aload_n (i := 0) dX6_readStep_33 rfl rfl ?_
      refine R_dup dX6_readStep_34 rfl ?_
      refine R_get foX6_22 hL0 (cE_6 Ω 0 _) rfl dX6_readStep_35 ?_
      refine R_iconst (v := 1) dX6_readStep_38 rfl ?_
      refine R_iadd dX6_readStep_39 ?_
      refine R_put poX6_22 hL0 (cE_6 Ω 0 _) (cP_6_4 Ω 0 _ _) (Nat.le_of_ble_eq_true rfl) dX6_readStep_40 ?_
      refine R_st h (fun σ6 h => ?_)
      refine R_iload_n (i := 1) dX6_readStep_43 rfl rfl ?_
      refine R_iconst (v := 5) dX6_readStep_44 rfl ?_
      refine R_imul dX6_readStep_45 ?_
      refine R_topi h (fun y7 h => ?_)
      refine R_istore_n (lv2 := [some (rf Ω 6 0), some (.int x1), some (.int r3), some (.int y7), none]) dX6_readStep_46 rfl (by decide) rfl rfl ?_
      refine R_aload_n (i := 0) dX6_readStep_47 rfl rfl ?_
      refine R_get foX6_15 hL0 (cE_6 Ω 0 _) rfl dX6_readStep_48 ?_
      refine R_iload_n (i := 3) dX6_readStep_51 rfl rfl ?_
      refine R_iload_n (i := 2) dX6_readStep_52 rfl rfl ?_
      obtain ⟨hb, h⟩ := hit_bnd h
      refine R_iast (WF.kid hW 2 hL0 rfl) (cE_27 Ω 0) hb dX6_readStep_53 ?_
      refine R_st h (fun σ8 h => ?_)
      refine R_iconst (v := 1) dX6_readStep_54 rfl ?_
      refine R_istore (lv2 := [some (rf Ω 6 0), some (.int x1), some (.int r3), some (.int y7), some (.int 1)]) dX6_readStep_55 (by decide) rfl rfl ?_
      refine R_drop (lv2 := [some (rf Ω 6 0), none, some (.int r3), some (.int y7), some (.int 1)]) 1 rfl ?_
      refine rlX6_readStep_L57 hW r3 y7 hL0 ?_ fu 1 σ8 (hit_bd h)
      · intro e11 σ10 h
        try dsimp only at h
        refine R_iconst (v := 1) dX6_readStep_79 rfl ?_
        refine R_istore (lv2 := [some (rf Ω 6 0), none, some (.int r3), some (.int y7), some (.int 1)]) dX6_readStep_80 (by decide) rfl rfl ?_
        refine rlX6_readStep_L82 hW r3 y7 hL0 ?_ ?_ ?_ fu 1 σ10 (hit_bd h)
        · intro e18 σ17 h
          try dsimp only at h
          refine R_iconst (v := 0) dX6_readStep_105 rfl ?_
          exact R_zret dX6_readStep_106 rfl (Or.inl rfl) h
        · intro e19 σ17 h
          try dsimp only at h
          refine R_iconst (v := 0) dX6_readStep_137 rfl ?_
          exact R_zret dX6_readStep_138 rfl (Or.inl rfl) h
        · intro e20 σ17 h
          try dsimp only at h
          refine R_iconst (v := 1) dX6_readStep_145 rfl ?_
          exact R_zret dX6_readStep_146 rfl (Or.inr rfl) h
    · have h := hit_f h hc
      refine R_aload_n (i := 0) dX6_readStep_23 rfl rfl ?_
      refine R_aload_n (i := 0) dX6_readStep_24 rfl rfl ?_
      refine R_get foX6_22 hL0 (cE_6 Ω 0 _) rfl dX6_readStep_25 ?_
      refine R_put poX6_57 hL0 (cE_6 Ω 0 _) (cP_6_5 Ω 0 _ _) (Nat.le_of_ble_eq_true rfl) dX6_readStep_28 ?_
      refine R_st h (fun σ21 h => ?_)
      refine R_iconst (v := 0) dX6_readStep_31 rfl ?_
      exact R_zret dX6_readStep_32 rfl (Or.inl rfl) h
set_option maxRecDepth 100000 in
set_option maxHeartbeats 4000000 in
theorem rsX6_readScript_L12 {l : Launch} {Ω : rO} (hW : WF Ω) (x1 : Int32) (hL0 : oL Ω 6 0) (σ : rS) {K : Int32 → rS → Prop} {K0 : (Int32 ⊕ (Unit ⊕ (Unit ⊕ (Unit ⊕ Unit)))) → rS → Prop} (hC : ∀ (x1 : Int32) (σ : rS), K0 (.inl x1) σ → Run l Ω cX6_readScript RX6 3 (some .int) rmX6_readScript K 12 [some (rf Ω 6 0), some (.int x1), none] [] σ) (hE0 : ∀ (e : Unit) (σ : rS), K0 (.inr (.inl e)) σ → Run l Ω cX6_readScript RX6 3 (some .int) rmX6_readScript K 26 [some (rf Ω 6 0), none, none] [] σ) (hE1 : ∀ (e : Unit) (σ : rS), K0 (.inr (.inr (.inl e))) σ → Run l Ω cX6_readScript RX6 3 (some .int) rmX6_readScript K 50 [none, none, none] [] σ) (hE2 : ∀ (e : Unit) (σ : rS), K0 (.inr (.inr (.inr (.inl e)))) σ → Run l Ω cX6_readScript RX6 3 (some .int) rmX6_readScript K 58 [some (rf Ω 6 0), none, none] [] σ) (hE3 : ∀ (e : Unit) (σ : rS), K0 (.inr (.inr (.inr (.inr e)))) σ → Run l Ω cX6_readScript RX6 3 (some .int) rmX6_readScript K 79 [some (rf Ω 6 0), none, none] [] σ) (h : hit (fX6_readScript_L12 x1 σ) K0) : Run l Ω cX6_readScript RX6 3 (some .int) rmX6_readScript K 12 [some (rf Ω 6 0), some (.int x1), none] [] σ := by
  unfold fX6_readScript_L12 at h
  refine R_iload_n (i := 1) dX6_readScript_12 rfl rfl ?_
  refine R_bipush (v := 16) dX6_readScript_13 rfl ?_
  refine R_icmp_ge (tgt := 79) dX6_readScript_15 (by decide) (fun hc => ?_) (fun hc => ?_)
  · have h := hit_f h hc
    refine R_drop (lv2 := [some (rf Ω 6 0), none, none]) 1 rfl ?_
    exact hE3 () σ h
  · have h := hit_t h hc
    refine R_aload_n (i := 0) dX6_readScript_18 rfl rfl ?_
    refine R_iload_n (i := 1) dX6_readScript_19 rfl rfl ?_
    refine R_callVi (ctX6_readStep l Ω x1 hL0 _ _ (hit_mono (hit_bd h) (fun r3 σ4 h => ?_))) okX6_readStep mw_511 hL0 (cE_6 Ω 0 _) rfl rfl (Nat.le_of_ble_eq_true rfl) rfl rfl ⟨by decide, by decide⟩ ⟨Nat.zero_le _, Nat.zero_le _⟩ dX6_readScript_20
    refine R_if_ne (tgt := 31) dX6_readScript_23 (by decide) (fun hc => ?_) (fun hc => ?_)
    · have h := hit_f h hc
      refine R_aload_n (i := 0) dX6_readScript_31 rfl rfl ?_
      refine R_dup dX6_readScript_32 rfl ?_
      refine R_get foX6_60 hL0 (cE_6 Ω 0 _) rfl dX6_readScript_33 ?_
      refine R_iconst (v := 1) dX6_readScript_36 rfl ?_
      refine R_iadd dX6_readScript_37 ?_
      refine R_put poX6_60 hL0 (cE_6 Ω 0 _) (cP_6_3 Ω 0 _ _) (Nat.le_of_ble_eq_true rfl) dX6_readScript_38 ?_
      refine R_st h (fun σ5 h => ?_)
      refine R_aload_n (i := 0) dX6_readScript_41 rfl rfl ?_
      refine R_callVi (ctX6_nextSign l Ω hL0 _ _ (hit_mono (hit_bd h) (fun r6 σ7 h => ?_))) okX6_nextSign mw_403 hL0 (cE_6 Ω 0 _) rfl rfl (Nat.le_of_ble_eq_true rfl) rfl rfl ⟨by decide, by decide⟩ ⟨Nat.zero_le _, Nat.zero_le _⟩ dX6_readScript_42
      refine R_istore_n (lv2 := [some (rf Ω 6 0), some (.int x1), some (.int r6)]) dX6_readScript_45 rfl (by decide) rfl rfl ?_
      refine R_iload_n (i := 2) dX6_readScript_46 rfl rfl ?_
      refine R_if_ne (tgt := 52) dX6_readScript_47 (by decide) (fun hc => ?_) (fun hc => ?_)
      · have h := hit_f h hc
        refine R_iload_n (i := 2) dX6_readScript_52 rfl rfl ?_
        refine R_bipush (v := 59) dX6_readScript_53 rfl ?_
        refine R_icmp_eq (tgt := 63) dX6_readScript_55 (by decide) (fun hc => ?_) (fun hc => ?_)
        · have h := hit_t h hc
          refine R_aload_n (i := 0) dX6_readScript_63 rfl rfl ?_
          refine R_dup dX6_readScript_64 rfl ?_
          refine R_get foX6_22 hL0 (cE_6 Ω 0 _) rfl dX6_readScript_65 ?_
          refine R_iconst (v := 1) dX6_readScript_68 rfl ?_
          refine R_iadd dX6_readScript_69 ?_
          refine R_put poX6_22 hL0 (cE_6 Ω 0 _) (cP_6_4 Ω 0 _ _) (Nat.le_of_ble_eq_true rfl) dX6_readScript_70 ?_
          refine R_st h (fun σ8 h => ?_)
          refine R_iinc (v := x1 + 1) (lv2 := [some (rf Ω 6 0), some (.int (x1 + 1)), some (.int r6)]) dX6_readScript_73 rfl rfl (by decide) rfl rfl ?_
          refine R_goto (tgt := 12) dX6_readScript_76 (by decide) ?_
          refine R_drop (lv2 := [some (rf Ω 6 0), some (.int (x1 + 1)), none]) 2 rfl ?_
          exact hC (x1 + 1) σ8 h
        · have h := hit_f h hc
          refine R_drop (lv2 := [some (rf Ω 6 0), none, some (.int r6)]) 1 rfl ?_
          refine R_drop (lv2 := [some (rf Ω 6 0), none, none]) 2 rfl ?_
          exact hE2 () σ7 h
      · have h := hit_t h hc
        refine R_drop (lv2 := [none, some (.int x1), some (.int r6)]) 0 rfl ?_
        refine R_drop (lv2 := [none, none, some (.int r6)]) 1 rfl ?_
        refine R_drop (lv2 := [none, none, none]) 2 rfl ?_
        exact hE1 () σ7 h
    · have h := hit_t h hc
      refine R_drop (lv2 := [some (rf Ω 6 0), none, none]) 1 rfl ?_
      exact hE0 () σ4 h
set_option maxRecDepth 100000 in
set_option maxHeartbeats 4000000 in
theorem rlX6_readScript_L12 {l : Launch} {Ω : rO} (hW : WF Ω) (hL0 : oL Ω 6 0) {K : Int32 → rS → Prop} {KE : (Unit ⊕ (Unit ⊕ (Unit ⊕ Unit))) → rS → Prop} (hE0 : ∀ (e : Unit) (σ : rS), KE (.inl e) σ → Run l Ω cX6_readScript RX6 3 (some .int) rmX6_readScript K 26 [some (rf Ω 6 0), none, none] [] σ) (hE1 : ∀ (e : Unit) (σ : rS), KE (.inr (.inl e)) σ → Run l Ω cX6_readScript RX6 3 (some .int) rmX6_readScript K 50 [none, none, none] [] σ) (hE2 : ∀ (e : Unit) (σ : rS), KE (.inr (.inr (.inl e))) σ → Run l Ω cX6_readScript RX6 3 (some .int) rmX6_readScript K 58 [some (rf Ω 6 0), none, none] [] σ) (hE3 : ∀ (e : Unit) (σ : rS), KE (.inr (.inr (.inr e))) σ → Run l Ω cX6_readScript RX6 3 (some .int) rmX6_readScript K 79 [some (rf Ω 6 0), none, none] [] σ) : ∀ (n : Nat) (x1 : Int32) (σ : rS), hit (lp (fun (x : Int32) σ => fX6_readScript_L12 x σ) n x1 σ) KE → Run l Ω cX6_readScript RX6 3 (some .int) rmX6_readScript K 12 [some (rf Ω 6 0), some (.int x1), none] [] σ := by
  intro n
  induction n with
  | zero => intro x1 σ h; exact (h : False).elim
  | succ n ih =>
    intro x1 σ h
    exact rsX6_readScript_L12 hW x1 hL0 σ (fun x1 σ h => ih x1 σ h) (fun e σ h => hE0 e σ h) (fun e σ h => hE1 e σ h) (fun e σ h => hE2 e σ h) (fun e σ h => hE3 e σ h) (hit_lp h)
set_option maxRecDepth 100000 in
set_option maxHeartbeats 4000000 in
theorem ctX6_readScript (l : Launch) (Ω : rO) (hL0 : oL Ω 6 0) (σ : rS) (K : Int32 → rS → Prop) (h : hit (fX6_readScript  σ) K) : Ct l Ω yX6_readScript cX6_readScript 3 (some .int) rmX6_readScript [rf Ω 6 0] σ K := by
  refine Ct.of (own := RX6) (lv := [some (rf Ω 6 0), none, none]) (by decide) rfl (Nat.le_of_ble_eq_true rfl) rfl (fun hW => ?_)
  unfold fX6_readScript at h
  refine R_aload_n (i := 0) dX6_readScript_0 rfl rfl ?_
  refine R_iconst (v := 0) dX6_readScript_1 rfl ?_
  refine R_put poX6_22 hL0 (cE_6 Ω 0 _) (cP_6_4 Ω 0 _ _) (Nat.le_of_ble_eq_true rfl) dX6_readScript_2 ?_
  refine R_st h (fun σ1 h => ?_)
  refine R_aload_n (i := 0) dX6_readScript_5 rfl rfl ?_
  refine R_iconst (v := 0) dX6_readScript_6 rfl ?_
  refine R_put poX6_60 hL0 (cE_6 Ω 0 _) (cP_6_3 Ω 0 _ _) (Nat.le_of_ble_eq_true rfl) dX6_readScript_7 ?_
  refine R_st h (fun σ2 h => ?_)
  refine R_iconst (v := 0) dX6_readScript_10 rfl ?_
  refine R_istore_n (lv2 := [some (rf Ω 6 0), some (.int 0), none]) dX6_readScript_11 rfl (by decide) rfl rfl ?_
  refine rlX6_readScript_L12 hW hL0 ?_ ?_ ?_ ?_ fu 0 σ2 (hit_bd h)
  · intro e10 σ9 h
    try dsimp only at h
    refine R_aload_n (i := 0) dX6_readScript_26 rfl rfl ?_
    refine R_get foX6_57 hL0 (cE_6 Ω 0 _) rfl dX6_readScript_27 ?_
    exact R_iret dX6_readScript_30 rfl h
  · intro e11 σ9 h
    try dsimp only at h
    refine R_iconst (v := (-1)) dX6_readScript_50 rfl ?_
    exact R_iret dX6_readScript_51 rfl h
  · intro e12 σ9 h
    try dsimp only at h
    refine R_aload_n (i := 0) dX6_readScript_58 rfl rfl ?_
    refine R_get foX6_22 hL0 (cE_6 Ω 0 _) rfl dX6_readScript_59 ?_
    exact R_iret dX6_readScript_62 rfl h
  · intro e13 σ9 h
    try dsimp only at h
    refine R_aload_n (i := 0) dX6_readScript_79 rfl rfl ?_
    refine R_get foX6_22 hL0 (cE_6 Ω 0 _) rfl dX6_readScript_80 ?_
    refine R_iconst (v := 1) dX6_readScript_83 rfl ?_
    refine R_isub dX6_readScript_84 ?_
    exact R_iret dX6_readScript_85 rfl h
set_option maxRecDepth 100000 in
set_option maxHeartbeats 4000000 in
theorem rnX8_bytesIn_j22L5 {l : Launch} {Ω : rO} (hW : WF Ω) (x0 : Int32) (x1 : Int32) (x2 : Int32) (σ : rS) {K : Int32 → rS → Prop} {K0 : ((Int32 × Int32) ⊕ Int32) → rS → Prop} (hC : ∀ (x1 : Int32) (x2 : Int32) (σ : rS), K0 (.inl (x1, x2)) σ → Run l Ω cX8_bytesIn RX8 3 (some .int) rmX8_bytesIn K 5 [some (.int x0), some (.int x1), some (.int x2)] [] σ) (hE0 : ∀ (e : Int32) (σ : rS), K0 (.inr e) σ → Run l Ω cX8_bytesIn RX8 3 (some .int) rmX8_bytesIn K 28 [none, some (.int e), none] [] σ) (h : hit (fX8_bytesIn_j22L5 x0 x1 x2 σ) K0) : Run l Ω cX8_bytesIn RX8 3 (some .int) rmX8_bytesIn K 22 [some (.int x0), some (.int x1), some (.int x2)] [] σ := by
  unfold fX8_bytesIn_j22L5 at h
  refine R_iinc (v := x2 + (-8)) (lv2 := [some (.int x0), some (.int x1), some (.int (x2 + (-8)))]) dX8_bytesIn_22 rfl rfl (by decide) rfl rfl ?_
  refine R_goto (tgt := 5) dX8_bytesIn_25 (by decide) ?_
  exact hC x1 (x2 + (-8)) σ h
set_option maxRecDepth 100000 in
set_option maxHeartbeats 4000000 in
theorem rsX8_bytesIn_L5 {l : Launch} {Ω : rO} (hW : WF Ω) (x0 : Int32) (x1 : Int32) (x2 : Int32) (σ : rS) {K : Int32 → rS → Prop} {K0 : ((Int32 × Int32) ⊕ Int32) → rS → Prop} (hC : ∀ (x1 : Int32) (x2 : Int32) (σ : rS), K0 (.inl (x1, x2)) σ → Run l Ω cX8_bytesIn RX8 3 (some .int) rmX8_bytesIn K 5 [some (.int x0), some (.int x1), some (.int x2)] [] σ) (hE0 : ∀ (e : Int32) (σ : rS), K0 (.inr e) σ → Run l Ω cX8_bytesIn RX8 3 (some .int) rmX8_bytesIn K 28 [none, some (.int e), none] [] σ) (h : hit (fX8_bytesIn_L5 x0 x1 x2 σ) K0) : Run l Ω cX8_bytesIn RX8 3 (some .int) rmX8_bytesIn K 5 [some (.int x0), some (.int x1), some (.int x2)] [] σ := by
  unfold fX8_bytesIn_L5 at h
  refine R_iload_n (i := 2) dX8_bytesIn_5 rfl rfl ?_
  refine R_if_lt (tgt := 28) dX8_bytesIn_6 (by decide) (fun hc => ?_) (fun hc => ?_)
  · have h := hit_t h hc
    refine R_drop (lv2 := [none, some (.int x1), some (.int x2)]) 0 rfl ?_
    refine R_drop (lv2 := [none, some (.int x1), none]) 2 rfl ?_
    exact hE0 x1 σ h
  · have h := hit_f h hc
    refine R_iload_n (i := 0) dX8_bytesIn_9 rfl rfl ?_
    refine R_iload_n (i := 2) dX8_bytesIn_10 rfl rfl ?_
    refine R_iushr dX8_bytesIn_11 ?_
    refine R_sipush (v := 255) dX8_bytesIn_12 rfl ?_
    refine R_iand dX8_bytesIn_15 ?_
    refine R_if_eq (tgt := 22) dX8_bytesIn_16 (by decide) (fun hc => ?_) (fun hc => ?_)
    · have h := hit_t h hc
      exact rnX8_bytesIn_j22L5 hW x0 x1 x2 σ hC hE0 h
    · have h := hit_f h hc
      refine R_iinc (v := x1 + 1) (lv2 := [some (.int x0), some (.int (x1 + 1)), some (.int x2)]) dX8_bytesIn_19 rfl rfl (by decide) rfl rfl ?_
      exact rnX8_bytesIn_j22L5 hW x0 (x1 + 1) x2 σ hC hE0 h
set_option maxRecDepth 100000 in
set_option maxHeartbeats 4000000 in
theorem rlX8_bytesIn_L5 {l : Launch} {Ω : rO} (hW : WF Ω) (x0 : Int32) {K : Int32 → rS → Prop} {KE : Int32 → rS → Prop} (hE0 : ∀ (e : Int32) (σ : rS), KE e σ → Run l Ω cX8_bytesIn RX8 3 (some .int) rmX8_bytesIn K 28 [none, some (.int e), none] [] σ) : ∀ (n : Nat) (x1 : Int32) (x2 : Int32) (σ : rS), hit (lp (fun (x : (Int32 × Int32)) σ => fX8_bytesIn_L5 x0 x.1 x.2 σ) n (x1, x2) σ) KE → Run l Ω cX8_bytesIn RX8 3 (some .int) rmX8_bytesIn K 5 [some (.int x0), some (.int x1), some (.int x2)] [] σ := by
  intro n
  induction n with
  | zero => intro x1 x2 σ h; exact (h : False).elim
  | succ n ih =>
    intro x1 x2 σ h
    exact rsX8_bytesIn_L5 hW x0 x1 x2 σ (fun x1 x2 σ h => ih x1 x2 σ h) (fun e σ h => hE0 e σ h) (hit_lp h)
set_option maxRecDepth 100000 in
set_option maxHeartbeats 4000000 in
theorem ctX8_bytesIn (l : Launch) (Ω : rO) (x0 : Int32) (σ : rS) (K : Int32 → rS → Prop) (h : hit (fX8_bytesIn x0 σ) K) : Ct l Ω yX8_bytesIn cX8_bytesIn 3 (some .int) rmX8_bytesIn [.int x0] σ K := by
  refine Ct.of (own := RX8) (lv := [some (.int x0), none, none]) (by decide) rfl (Nat.le_of_ble_eq_true rfl) rfl (fun hW => ?_)
  unfold fX8_bytesIn at h
  refine R_iconst (v := 0) dX8_bytesIn_0 rfl ?_
  refine R_istore_n (lv2 := [some (.int x0), some (.int 0), none]) dX8_bytesIn_1 rfl (by decide) rfl rfl ?_
  refine R_bipush (v := 24) dX8_bytesIn_2 rfl ?_
  refine R_istore_n (lv2 := [some (.int x0), some (.int 0), some (.int 24)]) dX8_bytesIn_4 rfl (by decide) rfl rfl ?_
  refine rlX8_bytesIn_L5 hW x0 ?_ fu 0 24 σ (hit_bd h)
  · intro e2 σ1 h
    try dsimp only at h
    refine R_iload_n (i := 1) dX8_bytesIn_28 rfl rfl ?_
    exact R_iret dX8_bytesIn_29 rfl h
set_option maxRecDepth 100000 in
set_option maxHeartbeats 4000000 in
theorem rnX8_addBytes_j49L3 {l : Launch} {Ω : rO} (hW : WF Ω) (x1 : Int32) (x2 : Int32) (hL0 : oL Ω 8 0) (σ : rS) {K : Int32 → rS → Prop} {K0 : (Int32 ⊕ Unit) → rS → Prop} (hC : ∀ (x2 : Int32) (σ : rS), K0 (.inl x2) σ → Run l Ω cX8_addBytes RX8 4 none rmX8_addBytes K 3 [some (rf Ω 8 0), some (.int x1), some (.int x2), none] [] σ) (hE0 : ∀ (e : Unit) (σ : rS), K0 (.inr e) σ → Run l Ω cX8_addBytes RX8 4 none rmX8_addBytes K 55 [none, none, none, none] [] σ) (h : hit (fX8_addBytes_j49L3 x1 x2 σ) K0) : Run l Ω cX8_addBytes RX8 4 none rmX8_addBytes K 49 [some (rf Ω 8 0), some (.int x1), some (.int x2), none] [] σ := by
  unfold fX8_addBytes_j49L3 at h
  refine R_iinc (v := x2 + (-8)) (lv2 := [some (rf Ω 8 0), some (.int x1), some (.int (x2 + (-8))), none]) dX8_addBytes_49 rfl rfl (by decide) rfl rfl ?_
  refine R_goto (tgt := 3) dX8_addBytes_52 (by decide) ?_
  exact hC (x2 + (-8)) σ h
set_option maxRecDepth 100000 in
set_option maxHeartbeats 4000000 in
theorem rsX8_addBytes_L3 {l : Launch} {Ω : rO} (hW : WF Ω) (x1 : Int32) (x2 : Int32) (hL0 : oL Ω 8 0) (σ : rS) {K : Int32 → rS → Prop} {K0 : (Int32 ⊕ Unit) → rS → Prop} (hC : ∀ (x2 : Int32) (σ : rS), K0 (.inl x2) σ → Run l Ω cX8_addBytes RX8 4 none rmX8_addBytes K 3 [some (rf Ω 8 0), some (.int x1), some (.int x2), none] [] σ) (hE0 : ∀ (e : Unit) (σ : rS), K0 (.inr e) σ → Run l Ω cX8_addBytes RX8 4 none rmX8_addBytes K 55 [none, none, none, none] [] σ) (h : hit (fX8_addBytes_L3 x1 x2 σ) K0) : Run l Ω cX8_addBytes RX8 4 none rmX8_addBytes K 3 [some (rf Ω 8 0), some (.int x1), some (.int x2), none] [] σ := by
  unfold fX8_addBytes_L3 at h
  refine R_iload_n (i := 2) dX8_addBytes_3 rfl rfl ?_
  refine R_if_lt (tgt := 55) dX8_addBytes_4 (by decide) (fun hc => ?_) (fun hc => ?_)
  · have h := hit_t h hc
    refine R_drop (lv2 := [none, some (.int x1), some (.int x2), none]) 0 rfl ?_
    refine R_drop (lv2 := [none, none, some (.int x2), none]) 1 rfl ?_
    refine R_drop (lv2 := [none, none, none, none]) 2 rfl ?_
    exact hE0 () σ h
  · have h := hit_f h hc
    refine R_iload_n (i := 1) dX8_addBytes_7 rfl rfl ?_
    refine R_iload_n (i := 2) dX8_addBytes_8 rfl rfl ?_
    refine R_iushr dX8_addBytes_9 ?_
    refine R_sipush (v := 255) dX8_addBytes_10 rfl ?_
    refine R_iand dX8_addBytes_13 ?_
    refine R_topi h (fun y1 h => ?_)
    refine R_istore_n (lv2 := [some (rf Ω 8 0), some (.int x1), some (.int x2), some (.int y1)]) dX8_addBytes_14 rfl (by decide) rfl rfl ?_
    refine R_iload_n (i := 3) dX8_addBytes_15 rfl rfl ?_
    refine R_if_eq (tgt := 49) dX8_addBytes_16 (by decide) (fun hc => ?_) (fun hc => ?_)
    · have h := hit_t h hc
      refine R_drop (lv2 := [some (rf Ω 8 0), some (.int x1), some (.int x2), none]) 3 rfl ?_
      exact rnX8_addBytes_j49L3 hW x1 x2 hL0 σ hC hE0 h
    · have h := hit_f h hc
      refine R_aload_n (i := 0) dX8_addBytes_19 rfl rfl ?_
      refine R_get foX8_15 hL0 (cE_8 Ω 0 _) rfl dX8_addBytes_20 ?_
      refine R_sipush (v := 240) dX8_addBytes_23 rfl ?_
      refine R_icmp_ge (tgt := 49) dX8_addBytes_26 (by decide) (fun hc => ?_) (fun hc => ?_)
      · have h := hit_f h hc
        refine R_drop (lv2 := [some (rf Ω 8 0), some (.int x1), some (.int x2), none]) 3 rfl ?_
        exact rnX8_addBytes_j49L3 hW x1 x2 hL0 σ hC hE0 h
      · have h := hit_t h hc
        refine R_aload_n (i := 0) dX8_addBytes_29 rfl rfl ?_
        refine R_get foX8_9 hL0 (cE_8 Ω 0 _) rfl dX8_addBytes_30 ?_
        refine R_aload_n (i := 0) dX8_addBytes_33 rfl rfl ?_
        refine R_get foX8_15 hL0 (cE_8 Ω 0 _) rfl dX8_addBytes_34 ?_
        refine R_iload_n (i := 3) dX8_addBytes_37 rfl rfl ?_
        obtain ⟨hb, h⟩ := hit_bnd h
        refine R_iast (WF.kid hW 0 hL0 rfl) (cE_25 Ω 0) hb dX8_addBytes_38 ?_
        refine R_st h (fun σ2 h => ?_)
        refine R_aload_n (i := 0) dX8_addBytes_39 rfl rfl ?_
        refine R_dup dX8_addBytes_40 rfl ?_
        refine R_get foX8_15 hL0 (cE_8 Ω 0 _) rfl dX8_addBytes_41 ?_
        refine R_iconst (v := 1) dX8_addBytes_44 rfl ?_
        refine R_iadd dX8_addBytes_45 ?_
        refine R_put poX8_15 hL0 (cE_8 Ω 0 _) (cP_8_1 Ω 0 _ _) (Nat.le_of_ble_eq_true rfl) dX8_addBytes_46 ?_
        refine R_st h (fun σ3 h => ?_)
        refine R_drop (lv2 := [some (rf Ω 8 0), some (.int x1), some (.int x2), none]) 3 rfl ?_
        exact rnX8_addBytes_j49L3 hW x1 x2 hL0 σ3 hC hE0 h
set_option maxRecDepth 100000 in
set_option maxHeartbeats 4000000 in
theorem rlX8_addBytes_L3 {l : Launch} {Ω : rO} (hW : WF Ω) (x1 : Int32) (hL0 : oL Ω 8 0) {K : Int32 → rS → Prop} {KE : Unit → rS → Prop} (hE0 : ∀ (e : Unit) (σ : rS), KE e σ → Run l Ω cX8_addBytes RX8 4 none rmX8_addBytes K 55 [none, none, none, none] [] σ) : ∀ (n : Nat) (x2 : Int32) (σ : rS), hit (lp (fun (x : Int32) σ => fX8_addBytes_L3 x1 x σ) n x2 σ) KE → Run l Ω cX8_addBytes RX8 4 none rmX8_addBytes K 3 [some (rf Ω 8 0), some (.int x1), some (.int x2), none] [] σ := by
  intro n
  induction n with
  | zero => intro x2 σ h; exact (h : False).elim
  | succ n ih =>
    intro x2 σ h
    exact rsX8_addBytes_L3 hW x1 x2 hL0 σ (fun x2 σ h => ih x2 σ h) (fun e σ h => hE0 e σ h) (hit_lp h)
set_option maxRecDepth 100000 in
set_option maxHeartbeats 4000000 in
theorem ctX8_addBytes (l : Launch) (Ω : rO) (x1 : Int32) (hL0 : oL Ω 8 0) (σ : rS) (K : Int32 → rS → Prop) (h : hit (fX8_addBytes x1 σ) K) : Ct l Ω yX8_addBytes cX8_addBytes 4 none rmX8_addBytes [rf Ω 8 0, .int x1] σ K := by
  refine Ct.of (own := RX8) (lv := [some (rf Ω 8 0), some (.int x1), none, none]) (by decide) rfl (Nat.le_of_ble_eq_true rfl) rfl (fun hW => ?_)
  unfold fX8_addBytes at h
  refine R_bipush (v := 24) dX8_addBytes_0 rfl ?_
  refine R_istore_n (lv2 := [some (rf Ω 8 0), some (.int x1), some (.int 24), none]) dX8_addBytes_2 rfl (by decide) rfl rfl ?_
  refine rlX8_addBytes_L3 hW x1 hL0 ?_ fu 24 σ (hit_bd h)
  · intro e5 σ4 h
    try dsimp only at h
    exact R_vret dX8_addBytes_55 rfl h
set_option maxRecDepth 100000 in
set_option maxHeartbeats 4000000 in
theorem rsX3_seenCells_L4 {l : Launch} {Ω : rO} (hW : WF Ω) (k1 : Nat) (x2 : Int32) (x3 : Int32) (hL0 : oL Ω 3 0) (hL1 : oL Ω 7 k1) (σ : rS) {K : Int32 → rS → Prop} {K0 : ((Int32 × Int32) ⊕ Int32) → rS → Prop} (hC : ∀ (x2 : Int32) (x3 : Int32) (σ : rS), K0 (.inl (x2, x3)) σ → Run l Ω cX3_seenCells RX3 4 (some .int) rmX3_seenCells K 4 [some (rf Ω 3 0), some (rf Ω 7 k1), some (.int x2), some (.int x3)] [] σ) (hE0 : ∀ (e : Int32) (σ : rS), K0 (.inr e) σ → Run l Ω cX3_seenCells RX3 4 (some .int) rmX3_seenCells K 31 [none, none, some (.int e), none] [] σ) (h : hit (fX3_seenCells_L4 k1 x2 x3 σ) K0) : Run l Ω cX3_seenCells RX3 4 (some .int) rmX3_seenCells K 4 [some (rf Ω 3 0), some (rf Ω 7 k1), some (.int x2), some (.int x3)] [] σ := by
  unfold fX3_seenCells_L4 at h
  refine R_iload_n (i := 3) dX3_seenCells_4 rfl rfl ?_
  refine R_aload_n (i := 0) dX3_seenCells_5 rfl rfl ?_
  refine R_get foX3_39 hL0 (cE_3 Ω 0 _) rfl dX3_seenCells_6 ?_
  refine R_icmp_ge (tgt := 31) dX3_seenCells_9 (by decide) (fun hc => ?_) (fun hc => ?_)
  · have h := hit_f h hc
    refine R_drop (lv2 := [none, some (rf Ω 7 k1), some (.int x2), some (.int x3)]) 0 rfl ?_
    refine R_drop (lv2 := [none, none, some (.int x2), some (.int x3)]) 1 rfl ?_
    refine R_drop (lv2 := [none, none, some (.int x2), none]) 3 rfl ?_
    exact hE0 x2 σ h
  · have h := hit_t h hc
    refine R_iload_n (i := 2) dX3_seenCells_12 rfl rfl ?_
    refine R_aload_n (i := 1) dX3_seenCells_13 rfl rfl ?_
    refine R_aload_n (i := 0) dX3_seenCells_14 rfl rfl ?_
    refine R_get foX3_15 hL0 (cE_3 Ω 0 _) rfl dX3_seenCells_15 ?_
    refine R_iload_n (i := 3) dX3_seenCells_18 rfl rfl ?_
    obtain ⟨hb, h⟩ := hit_bnd h
    refine R_iald (WF.kid hW 1 hL0 rfl) (cE_31 Ω 0 _) hb dX3_seenCells_19 ?_
    refine R_callVi (ctX7_cells l Ω k1 (σ 31 0 (ix x3)) hL1 _ _ (hit_mono (hit_bd h) (fun r1 σ2 h => ?_))) okX7_cells mw_990 hL1 (cE_7 Ω k1 _) rfl rfl (Nat.le_of_ble_eq_true rfl) rfl rfl ⟨by decide, by decide⟩ ⟨Nat.zero_le _, Nat.zero_le _⟩ dX3_seenCells_20
    refine R_iadd dX3_seenCells_23 ?_
    refine R_topi h (fun y3 h => ?_)
    refine R_istore_n (lv2 := [some (rf Ω 3 0), some (rf Ω 7 k1), some (.int y3), some (.int x3)]) dX3_seenCells_24 rfl (by decide) rfl rfl ?_
    refine R_iinc (v := x3 + 1) (lv2 := [some (rf Ω 3 0), some (rf Ω 7 k1), some (.int y3), some (.int (x3 + 1))]) dX3_seenCells_25 rfl rfl (by decide) rfl rfl ?_
    refine R_goto (tgt := 4) dX3_seenCells_28 (by decide) ?_
    exact hC y3 (x3 + 1) σ2 h
set_option maxRecDepth 100000 in
set_option maxHeartbeats 4000000 in
theorem rlX3_seenCells_L4 {l : Launch} {Ω : rO} (hW : WF Ω) (k1 : Nat) (hL0 : oL Ω 3 0) (hL1 : oL Ω 7 k1) {K : Int32 → rS → Prop} {KE : Int32 → rS → Prop} (hE0 : ∀ (e : Int32) (σ : rS), KE e σ → Run l Ω cX3_seenCells RX3 4 (some .int) rmX3_seenCells K 31 [none, none, some (.int e), none] [] σ) : ∀ (n : Nat) (x2 : Int32) (x3 : Int32) (σ : rS), hit (lp (fun (x : (Int32 × Int32)) σ => fX3_seenCells_L4 k1 x.1 x.2 σ) n (x2, x3) σ) KE → Run l Ω cX3_seenCells RX3 4 (some .int) rmX3_seenCells K 4 [some (rf Ω 3 0), some (rf Ω 7 k1), some (.int x2), some (.int x3)] [] σ := by
  intro n
  induction n with
  | zero => intro x2 x3 σ h; exact (h : False).elim
  | succ n ih =>
    intro x2 x3 σ h
    exact rsX3_seenCells_L4 hW k1 x2 x3 hL0 hL1 σ (fun x2 x3 σ h => ih x2 x3 σ h) (fun e σ h => hE0 e σ h) (hit_lp h)
set_option maxRecDepth 100000 in
set_option maxHeartbeats 4000000 in
theorem ctX3_seenCells (l : Launch) (Ω : rO) (k1 : Nat) (hL0 : oL Ω 3 0) (hL1 : oL Ω 7 k1) (σ : rS) (K : Int32 → rS → Prop) (h : hit (fX3_seenCells k1 σ) K) : Ct l Ω yX3_seenCells cX3_seenCells 4 (some .int) rmX3_seenCells [rf Ω 3 0, rf Ω 7 k1] σ K := by
  refine Ct.of (own := RX3) (lv := [some (rf Ω 3 0), some (rf Ω 7 k1), none, none]) (by decide) rfl (Nat.le_of_ble_eq_true rfl) rfl (fun hW => ?_)
  unfold fX3_seenCells at h
  refine R_iconst (v := 0) dX3_seenCells_0 rfl ?_
  refine R_istore_n (lv2 := [some (rf Ω 3 0), some (rf Ω 7 k1), some (.int 0), none]) dX3_seenCells_1 rfl (by decide) rfl rfl ?_
  refine R_iconst (v := 0) dX3_seenCells_2 rfl ?_
  refine R_istore_n (lv2 := [some (rf Ω 3 0), some (rf Ω 7 k1), some (.int 0), some (.int 0)]) dX3_seenCells_3 rfl (by decide) rfl rfl ?_
  refine rlX3_seenCells_L4 hW k1 hL0 hL1 ?_ fu 0 0 σ (hit_bd h)
  · intro e5 σ4 h
    try dsimp only at h
    refine R_iload_n (i := 2) dX3_seenCells_31 rfl rfl ?_
    exact R_iret dX3_seenCells_32 rfl h
set_option maxRecDepth 100000 in
set_option maxHeartbeats 4000000 in
theorem rnX3_unseenCells_j44L5 {l : Launch} {Ω : rO} (hW : WF Ω) (k1 : Nat) (x2 : Int32) (x3 : Int32) (x4 : Int32) (hL0 : oL Ω 3 0) (hL1 : oL Ω 7 k1) (σ : rS) {K : Int32 → rS → Prop} {K0 : ((Int32 × Int32) ⊕ Int32) → rS → Prop} (hC : ∀ (x3 : Int32) (x4 : Int32) (σ : rS), K0 (.inl (x3, x4)) σ → Run l Ω cX3_unseenCells RX3 5 (some .int) rmX3_unseenCells K 5 [some (rf Ω 3 0), some (rf Ω 7 k1), some (.int x2), some (.int x3), some (.int x4)] [] σ) (hE0 : ∀ (e : Int32) (σ : rS), K0 (.inr e) σ → Run l Ω cX3_unseenCells RX3 5 (some .int) rmX3_unseenCells K 50 [none, none, none, some (.int e), none] [] σ) (h : hit (fX3_unseenCells_j44L5 k1 x2 x3 x4 σ) K0) : Run l Ω cX3_unseenCells RX3 5 (some .int) rmX3_unseenCells K 44 [some (rf Ω 3 0), some (rf Ω 7 k1), some (.int x2), some (.int x3), some (.int x4)] [] σ := by
  unfold fX3_unseenCells_j44L5 at h
  refine R_iinc (v := x4 + 1) (lv2 := [some (rf Ω 3 0), some (rf Ω 7 k1), some (.int x2), some (.int x3), some (.int (x4 + 1))]) dX3_unseenCells_44 rfl rfl (by decide) rfl rfl ?_
  refine R_goto (tgt := 5) dX3_unseenCells_47 (by decide) ?_
  exact hC x3 (x4 + 1) σ h
set_option maxRecDepth 100000 in
set_option maxHeartbeats 4000000 in
theorem rsX3_unseenCells_L5 {l : Launch} {Ω : rO} (hW : WF Ω) (k1 : Nat) (x2 : Int32) (x3 : Int32) (x4 : Int32) (hL0 : oL Ω 3 0) (hL1 : oL Ω 7 k1) (σ : rS) {K : Int32 → rS → Prop} {K0 : ((Int32 × Int32) ⊕ Int32) → rS → Prop} (hC : ∀ (x3 : Int32) (x4 : Int32) (σ : rS), K0 (.inl (x3, x4)) σ → Run l Ω cX3_unseenCells RX3 5 (some .int) rmX3_unseenCells K 5 [some (rf Ω 3 0), some (rf Ω 7 k1), some (.int x2), some (.int x3), some (.int x4)] [] σ) (hE0 : ∀ (e : Int32) (σ : rS), K0 (.inr e) σ → Run l Ω cX3_unseenCells RX3 5 (some .int) rmX3_unseenCells K 50 [none, none, none, some (.int e), none] [] σ) (h : hit (fX3_unseenCells_L5 k1 x2 x3 x4 σ) K0) : Run l Ω cX3_unseenCells RX3 5 (some .int) rmX3_unseenCells K 5 [some (rf Ω 3 0), some (rf Ω 7 k1), some (.int x2), some (.int x3), some (.int x4)] [] σ := by
  unfold fX3_unseenCells_L5 at h
  refine R_iload (i := 4) dX3_unseenCells_5 rfl ?_
  refine R_aload_n (i := 1) dX3_unseenCells_7 rfl rfl ?_
  refine R_get foX3_85 hL1 (cE_7 Ω k1 _) rfl dX3_unseenCells_8 ?_
  refine R_icmp_ge (tgt := 50) dX3_unseenCells_11 (by decide) (fun hc => ?_) (fun hc => ?_)
  · have h := hit_f h hc
    refine R_drop (lv2 := [none, some (rf Ω 7 k1), some (.int x2), some (.int x3), some (.int x4)]) 0 rfl ?_
    refine R_drop (lv2 := [none, none, some (.int x2), some (.int x3), some (.int x4)]) 1 rfl ?_
    refine R_drop (lv2 := [none, none, none, some (.int x3), some (.int x4)]) 2 rfl ?_
    refine R_drop (lv2 := [none, none, none, some (.int x3), none]) 4 rfl ?_
    exact hE0 x3 σ h
  · have h := hit_t h hc
    refine R_aload_n (i := 1) dX3_unseenCells_14 rfl rfl ?_
    refine R_get foX3_88 hL1 (cE_7 Ω k1 _) rfl dX3_unseenCells_15 ?_
    refine R_iload (i := 4) dX3_unseenCells_18 rfl ?_
    obtain ⟨hb, h⟩ := hit_bnd h
    refine R_iald (WF.kid hW 5 hL1 rfl) (cE_50 Ω k1 _) hb dX3_unseenCells_20 ?_
    refine R_iload_n (i := 2) dX3_unseenCells_21 rfl rfl ?_
    refine R_icmp_ne (tgt := 44) dX3_unseenCells_22 (by decide) (fun hc => ?_) (fun hc => ?_)
    · have h := hit_f h hc
      exact rnX3_unseenCells_j44L5 hW k1 x2 x3 x4 hL0 hL1 σ hC hE0 h
    · have h := hit_t h hc
      refine R_aload_n (i := 0) dX3_unseenCells_25 rfl rfl ?_
      refine R_get foX3_9 hL0 (cE_3 Ω 0 _) rfl dX3_unseenCells_26 ?_
      refine R_iload (i := 4) dX3_unseenCells_29 rfl ?_
      obtain ⟨hb, h⟩ := hit_bnd h
      refine R_iald (WF.kid hW 0 hL0 rfl) (cE_30 Ω 0 _) hb dX3_unseenCells_31 ?_
      refine R_if_ne (tgt := 44) dX3_unseenCells_32 (by decide) (fun hc => ?_) (fun hc => ?_)
      · have h := hit_f h hc
        exact rnX3_unseenCells_j44L5 hW k1 x2 x3 x4 hL0 hL1 σ hC hE0 h
      · have h := hit_t h hc
        refine R_iload_n (i := 3) dX3_unseenCells_35 rfl rfl ?_
        refine R_aload_n (i := 1) dX3_unseenCells_36 rfl rfl ?_
        refine R_iload (i := 4) dX3_unseenCells_37 rfl ?_
        refine R_callVi (ctX7_cells l Ω k1 x4 hL1 _ _ (hit_mono (hit_bd h) (fun r1 σ2 h => ?_))) okX7_cells mw_990 hL1 (cE_7 Ω k1 _) rfl rfl (Nat.le_of_ble_eq_true rfl) rfl rfl ⟨by decide, by decide⟩ ⟨Nat.zero_le _, Nat.zero_le _⟩ dX3_unseenCells_39
        refine R_iadd dX3_unseenCells_42 ?_
        refine R_topi h (fun y3 h => ?_)
        refine R_istore_n (lv2 := [some (rf Ω 3 0), some (rf Ω 7 k1), some (.int x2), some (.int y3), some (.int x4)]) dX3_unseenCells_43 rfl (by decide) rfl rfl ?_
        exact rnX3_unseenCells_j44L5 hW k1 x2 y3 x4 hL0 hL1 σ2 hC hE0 h
set_option maxRecDepth 100000 in
set_option maxHeartbeats 4000000 in
theorem rlX3_unseenCells_L5 {l : Launch} {Ω : rO} (hW : WF Ω) (k1 : Nat) (x2 : Int32) (hL0 : oL Ω 3 0) (hL1 : oL Ω 7 k1) {K : Int32 → rS → Prop} {KE : Int32 → rS → Prop} (hE0 : ∀ (e : Int32) (σ : rS), KE e σ → Run l Ω cX3_unseenCells RX3 5 (some .int) rmX3_unseenCells K 50 [none, none, none, some (.int e), none] [] σ) : ∀ (n : Nat) (x3 : Int32) (x4 : Int32) (σ : rS), hit (lp (fun (x : (Int32 × Int32)) σ => fX3_unseenCells_L5 k1 x2 x.1 x.2 σ) n (x3, x4) σ) KE → Run l Ω cX3_unseenCells RX3 5 (some .int) rmX3_unseenCells K 5 [some (rf Ω 3 0), some (rf Ω 7 k1), some (.int x2), some (.int x3), some (.int x4)] [] σ := by
  intro n
  induction n with
  | zero => intro x3 x4 σ h; exact (h : False).elim
  | succ n ih =>
    intro x3 x4 σ h
    exact rsX3_unseenCells_L5 hW k1 x2 x3 x4 hL0 hL1 σ (fun x3 x4 σ h => ih x3 x4 σ h) (fun e σ h => hE0 e σ h) (hit_lp h)
set_option maxRecDepth 100000 in
set_option maxHeartbeats 4000000 in
theorem ctX3_unseenCells (l : Launch) (Ω : rO) (k1 : Nat) (x2 : Int32) (hL0 : oL Ω 3 0) (hL1 : oL Ω 7 k1) (σ : rS) (K : Int32 → rS → Prop) (h : hit (fX3_unseenCells k1 x2 σ) K) : Ct l Ω yX3_unseenCells cX3_unseenCells 5 (some .int) rmX3_unseenCells [rf Ω 3 0, rf Ω 7 k1, .int x2] σ K := by
  refine Ct.of (own := RX3) (lv := [some (rf Ω 3 0), some (rf Ω 7 k1), some (.int x2), none, none]) (by decide) rfl (Nat.le_of_ble_eq_true rfl) rfl (fun hW => ?_)
  unfold fX3_unseenCells at h
  refine R_iconst (v := 0) dX3_unseenCells_0 rfl ?_
  refine R_istore_n (lv2 := [some (rf Ω 3 0), some (rf Ω 7 k1), some (.int x2), some (.int 0), none]) dX3_unseenCells_1 rfl (by decide) rfl rfl ?_
  refine R_iconst (v := 0) dX3_unseenCells_2 rfl ?_
  refine R_istore (lv2 := [some (rf Ω 3 0), some (rf Ω 7 k1), some (.int x2), some (.int 0), some (.int 0)]) dX3_unseenCells_3 (by decide) rfl rfl ?_
  refine rlX3_unseenCells_L5 hW k1 x2 hL0 hL1 ?_ fu 0 0 σ (hit_bd h)
  · intro e5 σ4 h
    try dsimp only at h
    refine R_iload_n (i := 3) dX3_unseenCells_50 rfl rfl ?_
    exact R_iret dX3_unseenCells_51 rfl h
set_option maxRecDepth 100000 in
set_option maxHeartbeats 4000000 in
theorem rnX3_holdersOf_j26L5 {l : Launch} {Ω : rO} (hW : WF Ω) (k1 : Nat) (x2 : Int32) (x3 : Int32) (x4 : Int32) (hL0 : oL Ω 3 0) (hL1 : oL Ω 7 k1) (σ : rS) {K : Int32 → rS → Prop} {K0 : ((Int32 × Int32) ⊕ Int32) → rS → Prop} (hC : ∀ (x3 : Int32) (x4 : Int32) (σ : rS), K0 (.inl (x3, x4)) σ → Run l Ω cX3_holdersOf RX3 7 (some .int) rmX3_holdersOf K 5 [some (rf Ω 3 0), some (rf Ω 7 k1), some (.int x2), some (.int x3), some (.int x4), none, none] [] σ) (hE0 : ∀ (e : Int32) (σ : rS), K0 (.inr e) σ → Run l Ω cX3_holdersOf RX3 7 (some .int) rmX3_holdersOf K 32 [some (rf Ω 3 0), some (rf Ω 7 k1), some (.int x2), some (.int e), none, none, none] [] σ) (h : hit (fX3_holdersOf_j26L5 k1 x2 x3 x4 σ) K0) : Run l Ω cX3_holdersOf RX3 7 (some .int) rmX3_holdersOf K 26 [some (rf Ω 3 0), some (rf Ω 7 k1), some (.int x2), some (.int x3), some (.int x4), none, none] [] σ := by
  unfold fX3_holdersOf_j26L5 at h
  refine R_iinc (v := x4 + 1) (lv2 := [some (rf Ω 3 0), some (rf Ω 7 k1), some (.int x2), some (.int x3), some (.int (x4 + 1)), none, none]) dX3_holdersOf_26 rfl rfl (by decide) rfl rfl ?_
  refine R_goto (tgt := 5) dX3_holdersOf_29 (by decide) ?_
  exact hC x3 (x4 + 1) σ h
set_option maxRecDepth 100000 in
set_option maxHeartbeats 4000000 in
theorem rsX3_holdersOf_L5 {l : Launch} {Ω : rO} (hW : WF Ω) (k1 : Nat) (x2 : Int32) (x3 : Int32) (x4 : Int32) (hL0 : oL Ω 3 0) (hL1 : oL Ω 7 k1) (σ : rS) {K : Int32 → rS → Prop} {K0 : ((Int32 × Int32) ⊕ Int32) → rS → Prop} (hC : ∀ (x3 : Int32) (x4 : Int32) (σ : rS), K0 (.inl (x3, x4)) σ → Run l Ω cX3_holdersOf RX3 7 (some .int) rmX3_holdersOf K 5 [some (rf Ω 3 0), some (rf Ω 7 k1), some (.int x2), some (.int x3), some (.int x4), none, none] [] σ) (hE0 : ∀ (e : Int32) (σ : rS), K0 (.inr e) σ → Run l Ω cX3_holdersOf RX3 7 (some .int) rmX3_holdersOf K 32 [some (rf Ω 3 0), some (rf Ω 7 k1), some (.int x2), some (.int e), none, none, none] [] σ) (h : hit (fX3_holdersOf_L5 k1 x2 x3 x4 σ) K0) : Run l Ω cX3_holdersOf RX3 7 (some .int) rmX3_holdersOf K 5 [some (rf Ω 3 0), some (rf Ω 7 k1), some (.int x2), some (.int x3), some (.int x4), none, none] [] σ := by
  unfold fX3_holdersOf_L5 at h
  refine R_iload (i := 4) dX3_holdersOf_5 rfl ?_
  refine R_bipush (v := 8) dX3_holdersOf_7 rfl ?_
  refine R_icmp_ge (tgt := 32) dX3_holdersOf_9 (by decide) (fun hc => ?_) (fun hc => ?_)
  · have h := hit_f h hc
    refine R_drop (lv2 := [some (rf Ω 3 0), some (rf Ω 7 k1), some (.int x2), some (.int x3), none, none, none]) 4 rfl ?_
    exact hE0 x3 σ h
  · have h := hit_t h hc
    refine R_aload_n (i := 1) dX3_holdersOf_12 rfl rfl ?_
    refine R_get foX3_63 hL1 (cE_7 Ω k1 _) rfl dX3_holdersOf_13 ?_
    refine R_iload (i := 4) dX3_holdersOf_16 rfl ?_
    obtain ⟨hb, h⟩ := hit_bnd h
    refine R_iald (WF.kid hW 8 hL1 rfl) (cE_53 Ω k1 _) hb dX3_holdersOf_18 ?_
    refine R_iload_n (i := 2) dX3_holdersOf_19 rfl rfl ?_
    refine R_icmp_ne (tgt := 26) dX3_holdersOf_20 (by decide) (fun hc => ?_) (fun hc => ?_)
    · have h := hit_f h hc
      exact rnX3_holdersOf_j26L5 hW k1 x2 x3 x4 hL0 hL1 σ hC hE0 h
    · have h := hit_t h hc
      refine R_iinc (v := x3 + 1) (lv2 := [some (rf Ω 3 0), some (rf Ω 7 k1), some (.int x2), some (.int (x3 + 1)), some (.int x4), none, none]) dX3_holdersOf_23 rfl rfl (by decide) rfl rfl ?_
      exact rnX3_holdersOf_j26L5 hW k1 x2 (x3 + 1) x4 hL0 hL1 σ hC hE0 h
set_option maxRecDepth 100000 in
set_option maxHeartbeats 4000000 in
theorem rlX3_holdersOf_L5 {l : Launch} {Ω : rO} (hW : WF Ω) (k1 : Nat) (x2 : Int32) (hL0 : oL Ω 3 0) (hL1 : oL Ω 7 k1) {K : Int32 → rS → Prop} {KE : Int32 → rS → Prop} (hE0 : ∀ (e : Int32) (σ : rS), KE e σ → Run l Ω cX3_holdersOf RX3 7 (some .int) rmX3_holdersOf K 32 [some (rf Ω 3 0), some (rf Ω 7 k1), some (.int x2), some (.int e), none, none, none] [] σ) : ∀ (n : Nat) (x3 : Int32) (x4 : Int32) (σ : rS), hit (lp (fun (x : (Int32 × Int32)) σ => fX3_holdersOf_L5 k1 x2 x.1 x.2 σ) n (x3, x4) σ) KE → Run l Ω cX3_holdersOf RX3 7 (some .int) rmX3_holdersOf K 5 [some (rf Ω 3 0), some (rf Ω 7 k1), some (.int x2), some (.int x3), some (.int x4), none, none] [] σ := by
  intro n
  induction n with
  | zero => intro x3 x4 σ h; exact (h : False).elim
  | succ n ih =>
    intro x3 x4 σ h
    exact rsX3_holdersOf_L5 hW k1 x2 x3 x4 hL0 hL1 σ (fun x3 x4 σ h => ih x3 x4 σ h) (fun e σ h => hE0 e σ h) (hit_lp h)
set_option maxRecDepth 100000 in
set_option maxHeartbeats 4000000 in
theorem rnX3_holdersOf_j87L61 {l : Launch} {Ω : rO} (hW : WF Ω) (k1 : Nat) (x2 : Int32) (x3 : Int32) (x4 : Int32) (x5 : Int32) (x6 : Int32) (hL0 : oL Ω 3 0) (hL1 : oL Ω 7 k1) (σ : rS) {K : Int32 → rS → Prop} {K0 : ((Int32 × Int32) ⊕ Int32) → rS → Prop} (hC : ∀ (x3 : Int32) (x6 : Int32) (σ : rS), K0 (.inl (x3, x6)) σ → Run l Ω cX3_holdersOf RX3 7 (some .int) rmX3_holdersOf K 61 [some (rf Ω 3 0), some (rf Ω 7 k1), some (.int x2), some (.int x3), some (.int x4), some (.int x5), some (.int x6)] [] σ) (hE0 : ∀ (e : Int32) (σ : rS), K0 (.inr e) σ → Run l Ω cX3_holdersOf RX3 7 (some .int) rmX3_holdersOf K 93 [some (rf Ω 3 0), some (rf Ω 7 k1), some (.int x2), some (.int e), some (.int x4), none, none] [] σ) (h : hit (fX3_holdersOf_j87L61 k1 x2 x3 x4 x5 x6 σ) K0) : Run l Ω cX3_holdersOf RX3 7 (some .int) rmX3_holdersOf K 87 [some (rf Ω 3 0), some (rf Ω 7 k1), some (.int x2), some (.int x3), some (.int x4), some (.int x5), some (.int x6)] [] σ := by
  unfold fX3_holdersOf_j87L61 at h
  refine R_iinc (v := x6 + 1) (lv2 := [some (rf Ω 3 0), some (rf Ω 7 k1), some (.int x2), some (.int x3), some (.int x4), some (.int x5), some (.int (x6 + 1))]) dX3_holdersOf_87 rfl rfl (by decide) rfl rfl ?_
  refine R_goto (tgt := 61) dX3_holdersOf_90 (by decide) ?_
  exact hC x3 (x6 + 1) σ h
set_option maxRecDepth 100000 in
set_option maxHeartbeats 4000000 in
theorem rsX3_holdersOf_L61 {l : Launch} {Ω : rO} (hW : WF Ω) (k1 : Nat) (x2 : Int32) (x4 : Int32) (x5 : Int32) (x3 : Int32) (x6 : Int32) (hL0 : oL Ω 3 0) (hL1 : oL Ω 7 k1) (σ : rS) {K : Int32 → rS → Prop} {K0 : ((Int32 × Int32) ⊕ Int32) → rS → Prop} (hC : ∀ (x3 : Int32) (x6 : Int32) (σ : rS), K0 (.inl (x3, x6)) σ → Run l Ω cX3_holdersOf RX3 7 (some .int) rmX3_holdersOf K 61 [some (rf Ω 3 0), some (rf Ω 7 k1), some (.int x2), some (.int x3), some (.int x4), some (.int x5), some (.int x6)] [] σ) (hE0 : ∀ (e : Int32) (σ : rS), K0 (.inr e) σ → Run l Ω cX3_holdersOf RX3 7 (some .int) rmX3_holdersOf K 93 [some (rf Ω 3 0), some (rf Ω 7 k1), some (.int x2), some (.int e), some (.int x4), none, none] [] σ) (h : hit (fX3_holdersOf_L61 k1 x2 x4 x5 x3 x6 σ) K0) : Run l Ω cX3_holdersOf RX3 7 (some .int) rmX3_holdersOf K 61 [some (rf Ω 3 0), some (rf Ω 7 k1), some (.int x2), some (.int x3), some (.int x4), some (.int x5), some (.int x6)] [] σ := by
  unfold fX3_holdersOf_L61 at h
  refine R_iload (i := 6) dX3_holdersOf_61 rfl ?_
  refine R_aload_n (i := 1) dX3_holdersOf_63 rfl rfl ?_
  refine R_iload (i := 5) dX3_holdersOf_64 rfl ?_
  refine R_callVi (ctX7_fieldsOf l Ω k1 x5 hL1 _ _ (hit_mono (hit_bd h) (fun r6 σ7 h => ?_))) okX7_fieldsOf mw_751 hL1 (cE_7 Ω k1 _) rfl rfl (Nat.le_of_ble_eq_true rfl) rfl rfl ⟨by decide, by decide⟩ ⟨Nat.zero_le _, Nat.zero_le _⟩ dX3_holdersOf_66
  refine R_icmp_ge (tgt := 93) dX3_holdersOf_69 (by decide) (fun hc => ?_) (fun hc => ?_)
  · have h := hit_f h hc
    refine R_drop (lv2 := [some (rf Ω 3 0), some (rf Ω 7 k1), some (.int x2), some (.int x3), some (.int x4), none, some (.int x6)]) 5 rfl ?_
    refine R_drop (lv2 := [some (rf Ω 3 0), some (rf Ω 7 k1), some (.int x2), some (.int x3), some (.int x4), none, none]) 6 rfl ?_
    exact hE0 x3 σ7 h
  · have h := hit_t h hc
    refine R_aload_n (i := 1) dX3_holdersOf_72 rfl rfl ?_
    refine R_iload (i := 5) dX3_holdersOf_73 rfl ?_
    refine R_iload (i := 6) dX3_holdersOf_75 rfl ?_
    refine R_callVi (ctX7_target l Ω k1 x5 x6 hL1 _ _ (hit_mono (hit_bd h) (fun r8 σ9 h => ?_))) okX7_target mw_752 hL1 (cE_7 Ω k1 _) rfl rfl (Nat.le_of_ble_eq_true rfl) rfl rfl ⟨by decide, by decide⟩ ⟨Nat.zero_le _, Nat.zero_le _⟩ dX3_holdersOf_77
    refine R_iload_n (i := 2) dX3_holdersOf_80 rfl rfl ?_
    refine R_icmp_ne (tgt := 87) dX3_holdersOf_81 (by decide) (fun hc => ?_) (fun hc => ?_)
    · have h := hit_f h hc
      exact rnX3_holdersOf_j87L61 hW k1 x2 x3 x4 x5 x6 hL0 hL1 σ9 hC hE0 h
    · have h := hit_t h hc
      refine R_iinc (v := x3 + 1) (lv2 := [some (rf Ω 3 0), some (rf Ω 7 k1), some (.int x2), some (.int (x3 + 1)), some (.int x4), some (.int x5), some (.int x6)]) dX3_holdersOf_84 rfl rfl (by decide) rfl rfl ?_
      exact rnX3_holdersOf_j87L61 hW k1 x2 (x3 + 1) x4 x5 x6 hL0 hL1 σ9 hC hE0 h
set_option maxRecDepth 100000 in
set_option maxHeartbeats 4000000 in
theorem rlX3_holdersOf_L61 {l : Launch} {Ω : rO} (hW : WF Ω) (k1 : Nat) (x2 : Int32) (x4 : Int32) (x5 : Int32) (hL0 : oL Ω 3 0) (hL1 : oL Ω 7 k1) {K : Int32 → rS → Prop} {KE : Int32 → rS → Prop} (hE0 : ∀ (e : Int32) (σ : rS), KE e σ → Run l Ω cX3_holdersOf RX3 7 (some .int) rmX3_holdersOf K 93 [some (rf Ω 3 0), some (rf Ω 7 k1), some (.int x2), some (.int e), some (.int x4), none, none] [] σ) : ∀ (n : Nat) (x3 : Int32) (x6 : Int32) (σ : rS), hit (lp (fun (x : (Int32 × Int32)) σ => fX3_holdersOf_L61 k1 x2 x4 x5 x.1 x.2 σ) n (x3, x6) σ) KE → Run l Ω cX3_holdersOf RX3 7 (some .int) rmX3_holdersOf K 61 [some (rf Ω 3 0), some (rf Ω 7 k1), some (.int x2), some (.int x3), some (.int x4), some (.int x5), some (.int x6)] [] σ := by
  intro n
  induction n with
  | zero => intro x3 x6 σ h; exact (h : False).elim
  | succ n ih =>
    intro x3 x6 σ h
    exact rsX3_holdersOf_L61 hW k1 x2 x4 x5 x3 x6 hL0 hL1 σ (fun x3 x6 σ h => ih x3 x6 σ h) (fun e σ h => hE0 e σ h) (hit_lp h)
set_option maxRecDepth 100000 in
set_option maxHeartbeats 4000000 in
theorem rsX3_holdersOf_L35 {l : Launch} {Ω : rO} (hW : WF Ω) (k1 : Nat) (x2 : Int32) (x3 : Int32) (x4 : Int32) (hL0 : oL Ω 3 0) (hL1 : oL Ω 7 k1) (σ : rS) {K : Int32 → rS → Prop} {K0 : ((Int32 × Int32) ⊕ Int32) → rS → Prop} (hC : ∀ (x3 : Int32) (x4 : Int32) (σ : rS), K0 (.inl (x3, x4)) σ → Run l Ω cX3_holdersOf RX3 7 (some .int) rmX3_holdersOf K 35 [some (rf Ω 3 0), some (rf Ω 7 k1), some (.int x2), some (.int x3), some (.int x4), none, none] [] σ) (hE0 : ∀ (e : Int32) (σ : rS), K0 (.inr e) σ → Run l Ω cX3_holdersOf RX3 7 (some .int) rmX3_holdersOf K 99 [none, none, none, some (.int e), none, none, none] [] σ) (h : hit (fX3_holdersOf_L35 k1 x2 x3 x4 σ) K0) : Run l Ω cX3_holdersOf RX3 7 (some .int) rmX3_holdersOf K 35 [some (rf Ω 3 0), some (rf Ω 7 k1), some (.int x2), some (.int x3), some (.int x4), none, none] [] σ := by
  unfold fX3_holdersOf_L35 at h
  refine R_iload (i := 4) dX3_holdersOf_35 rfl ?_
  refine R_aload_n (i := 0) dX3_holdersOf_37 rfl rfl ?_
  refine R_get foX3_39 hL0 (cE_3 Ω 0 _) rfl dX3_holdersOf_38 ?_
  refine R_icmp_ge (tgt := 99) dX3_holdersOf_41 (by decide) (fun hc => ?_) (fun hc => ?_)
  · have h := hit_f h hc
    refine R_drop (lv2 := [none, some (rf Ω 7 k1), some (.int x2), some (.int x3), some (.int x4), none, none]) 0 rfl ?_
    refine R_drop (lv2 := [none, none, some (.int x2), some (.int x3), some (.int x4), none, none]) 1 rfl ?_
    refine R_drop (lv2 := [none, none, none, some (.int x3), some (.int x4), none, none]) 2 rfl ?_
    refine R_drop (lv2 := [none, none, none, some (.int x3), none, none, none]) 4 rfl ?_
    exact hE0 x3 σ h
  · have h := hit_t h hc
    refine R_aload_n (i := 0) dX3_holdersOf_44 rfl rfl ?_
    refine R_get foX3_15 hL0 (cE_3 Ω 0 _) rfl dX3_holdersOf_45 ?_
    refine R_iload (i := 4) dX3_holdersOf_48 rfl ?_
    obtain ⟨hb, h⟩ := hit_bnd h
    refine R_iald (WF.kid hW 1 hL0 rfl) (cE_31 Ω 0 _) hb dX3_holdersOf_50 ?_
    refine R_topi h (fun y3 h => ?_)
    refine R_istore (lv2 := [some (rf Ω 3 0), some (rf Ω 7 k1), some (.int x2), some (.int x3), some (.int x4), some (.int y3), none]) dX3_holdersOf_51 (by decide) rfl rfl ?_
    refine R_aload_n (i := 1) dX3_holdersOf_53 rfl rfl ?_
    refine R_iload (i := 5) dX3_holdersOf_54 rfl ?_
    refine R_callVi (ctX7_firstStrong l Ω k1 y3 hL1 _ _ (hit_mono (hit_bd h) (fun r4 σ5 h => ?_))) okX7_firstStrong mw_750 hL1 (cE_7 Ω k1 _) rfl rfl (Nat.le_of_ble_eq_true rfl) rfl rfl ⟨by decide, by decide⟩ ⟨Nat.zero_le _, Nat.zero_le _⟩ dX3_holdersOf_56
    refine R_istore (lv2 := [some (rf Ω 3 0), some (rf Ω 7 k1), some (.int x2), some (.int x3), some (.int x4), some (.int y3), some (.int r4)]) dX3_holdersOf_59 (by decide) rfl rfl ?_
    refine rlX3_holdersOf_L61 hW k1 x2 x4 y3 hL0 hL1 ?_ fu x3 r4 σ5 (hit_bd h)
    · intro e11 σ10 h
      try dsimp only at h
      refine R_iinc (v := x4 + 1) (lv2 := [some (rf Ω 3 0), some (rf Ω 7 k1), some (.int x2), some (.int e11), some (.int (x4 + 1)), none, none]) dX3_holdersOf_93 rfl rfl (by decide) rfl rfl ?_
      refine R_goto (tgt := 35) dX3_holdersOf_96 (by decide) ?_
      exact hC e11 (x4 + 1) σ10 h
set_option maxRecDepth 100000 in
set_option maxHeartbeats 4000000 in
theorem rlX3_holdersOf_L35 {l : Launch} {Ω : rO} (hW : WF Ω) (k1 : Nat) (x2 : Int32) (hL0 : oL Ω 3 0) (hL1 : oL Ω 7 k1) {K : Int32 → rS → Prop} {KE : Int32 → rS → Prop} (hE0 : ∀ (e : Int32) (σ : rS), KE e σ → Run l Ω cX3_holdersOf RX3 7 (some .int) rmX3_holdersOf K 99 [none, none, none, some (.int e), none, none, none] [] σ) : ∀ (n : Nat) (x3 : Int32) (x4 : Int32) (σ : rS), hit (lp (fun (x : (Int32 × Int32)) σ => fX3_holdersOf_L35 k1 x2 x.1 x.2 σ) n (x3, x4) σ) KE → Run l Ω cX3_holdersOf RX3 7 (some .int) rmX3_holdersOf K 35 [some (rf Ω 3 0), some (rf Ω 7 k1), some (.int x2), some (.int x3), some (.int x4), none, none] [] σ := by
  intro n
  induction n with
  | zero => intro x3 x4 σ h; exact (h : False).elim
  | succ n ih =>
    intro x3 x4 σ h
    exact rsX3_holdersOf_L35 hW k1 x2 x3 x4 hL0 hL1 σ (fun x3 x4 σ h => ih x3 x4 σ h) (fun e σ h => hE0 e σ h) (hit_lp h)
set_option maxRecDepth 100000 in
set_option maxHeartbeats 4000000 in
theorem ctX3_holdersOf (l : Launch) (Ω : rO) (k1 : Nat) (x2 : Int32) (hL0 : oL Ω 3 0) (hL1 : oL Ω 7 k1) (σ : rS) (K : Int32 → rS → Prop) (h : hit (fX3_holdersOf k1 x2 σ) K) : Ct l Ω yX3_holdersOf cX3_holdersOf 7 (some .int) rmX3_holdersOf [rf Ω 3 0, rf Ω 7 k1, .int x2] σ K := by
  refine Ct.of (own := RX3) (lv := [some (rf Ω 3 0), some (rf Ω 7 k1), some (.int x2), none, none, none, none]) (by decide) rfl (Nat.le_of_ble_eq_true rfl) rfl (fun hW => ?_)
  unfold fX3_holdersOf at h
  refine R_iconst (v := 0) dX3_holdersOf_0 rfl ?_
  refine R_istore_n (lv2 := [some (rf Ω 3 0), some (rf Ω 7 k1), some (.int x2), some (.int 0), none, none, none]) dX3_holdersOf_1 rfl (by decide) rfl rfl ?_
  refine R_iconst (v := 0) dX3_holdersOf_2 rfl ?_
  refine R_istore (lv2 := [some (rf Ω 3 0), some (rf Ω 7 k1), some (.int x2), some (.int 0), some (.int 0), none, none]) dX3_holdersOf_3 (by decide) rfl rfl ?_
  refine rlX3_holdersOf_L5 hW k1 x2 hL0 hL1 ?_ fu 0 0 σ (hit_bd h)
  · intro e2 σ1 h
    try dsimp only at h
    refine R_iconst (v := 0) dX3_holdersOf_32 rfl ?_
    refine R_istore (lv2 := [some (rf Ω 3 0), some (rf Ω 7 k1), some (.int x2), some (.int e2), some (.int 0), none, none]) dX3_holdersOf_33 (by decide) rfl rfl ?_
    refine rlX3_holdersOf_L35 hW k1 x2 hL0 hL1 ?_ fu e2 0 σ1 (hit_bd h)
    · intro e13 σ12 h
      try dsimp only at h
      refine R_iload_n (i := 3) dX3_holdersOf_99 rfl rfl ?_
      exact R_iret dX3_holdersOf_100 rfl h
set_option maxRecDepth 100000 in
set_option maxHeartbeats 4000000 in
theorem rsX3_findWays_L6 {l : Launch} {Ω : rO} (hW : WF Ω) (k1 : Nat) (x2 : Int32) (hL0 : oL Ω 3 0) (hL1 : oL Ω 7 k1) (σ : rS) {K : Int32 → rS → Prop} {K0 : (Int32 ⊕ Unit) → rS → Prop} (hC : ∀ (x2 : Int32) (σ : rS), K0 (.inl x2) σ → Run l Ω cX3_findWays RX3 3 none rmX3_findWays K 6 [some (rf Ω 3 0), some (rf Ω 7 k1), some (.int x2)] [] σ) (hE0 : ∀ (e : Unit) (σ : rS), K0 (.inr e) σ → Run l Ω cX3_findWays RX3 3 none rmX3_findWays K 30 [some (rf Ω 3 0), some (rf Ω 7 k1), none] [] σ) (h : hit (fX3_findWays_L6 k1 x2 σ) K0) : Run l Ω cX3_findWays RX3 3 none rmX3_findWays K 6 [some (rf Ω 3 0), some (rf Ω 7 k1), some (.int x2)] [] σ := by
  unfold fX3_findWays_L6 at h
  refine R_iload_n (i := 2) dX3_findWays_6 rfl rfl ?_
  refine R_bipush (v := 8) dX3_findWays_7 rfl ?_
  refine R_icmp_ge (tgt := 30) dX3_findWays_9 (by decide) (fun hc => ?_) (fun hc => ?_)
  · have h := hit_f h hc
    refine R_drop (lv2 := [some (rf Ω 3 0), some (rf Ω 7 k1), none]) 2 rfl ?_
    exact hE0 () σ h
  · have h := hit_t h hc
    refine R_aload_n (i := 0) dX3_findWays_12 rfl rfl ?_
    refine R_aload_n (i := 1) dX3_findWays_13 rfl rfl ?_
    refine R_get foX3_63 hL1 (cE_7 Ω k1 _) rfl dX3_findWays_14 ?_
    refine R_iload_n (i := 2) dX3_findWays_17 rfl rfl ?_
    obtain ⟨hb, h⟩ := hit_bnd h
    refine R_iald (WF.kid hW 8 hL1 rfl) (cE_53 Ω k1 _) hb dX3_findWays_18 ?_
    refine R_iconst (v := (-1)) dX3_findWays_19 rfl ?_
    refine R_iconst (v := (-1)) dX3_findWays_20 rfl ?_
    refine R_callVv (ctX3_visit l Ω (σ 53 k1 (ix x2)) (-1) (-1) hL0 _ _ (hit_mono (hit_bd h) (fun r3 σ4 h => ?_))) okX3_visit mw_741 hL0 (cE_3 Ω 0 _) rfl rfl (Nat.le_of_ble_eq_true rfl) rfl rfl ⟨by decide, by decide⟩ ⟨Nat.zero_le _, Nat.zero_le _⟩ dX3_findWays_21
    refine R_iinc (v := x2 + 1) (lv2 := [some (rf Ω 3 0), some (rf Ω 7 k1), some (.int (x2 + 1))]) dX3_findWays_24 rfl rfl (by decide) rfl rfl ?_
    refine R_goto (tgt := 6) dX3_findWays_27 (by decide) ?_
    exact hC (x2 + 1) σ4 h
set_option maxRecDepth 100000 in
set_option maxHeartbeats 4000000 in
theorem rlX3_findWays_L6 {l : Launch} {Ω : rO} (hW : WF Ω) (k1 : Nat) (hL0 : oL Ω 3 0) (hL1 : oL Ω 7 k1) {K : Int32 → rS → Prop} {KE : Unit → rS → Prop} (hE0 : ∀ (e : Unit) (σ : rS), KE e σ → Run l Ω cX3_findWays RX3 3 none rmX3_findWays K 30 [some (rf Ω 3 0), some (rf Ω 7 k1), none] [] σ) : ∀ (n : Nat) (x2 : Int32) (σ : rS), hit (lp (fun (x : Int32) σ => fX3_findWays_L6 k1 x σ) n x2 σ) KE → Run l Ω cX3_findWays RX3 3 none rmX3_findWays K 6 [some (rf Ω 3 0), some (rf Ω 7 k1), some (.int x2)] [] σ := by
  intro n
  induction n with
  | zero => intro x2 σ h; exact (h : False).elim
  | succ n ih =>
    intro x2 σ h
    exact rsX3_findWays_L6 hW k1 x2 hL0 hL1 σ (fun x2 σ h => ih x2 σ h) (fun e σ h => hE0 e σ h) (hit_lp h)
set_option maxRecDepth 100000 in
set_option maxHeartbeats 4000000 in
theorem ctX3_findWays (l : Launch) (Ω : rO) (k1 : Nat) (hL0 : oL Ω 3 0) (hL1 : oL Ω 7 k1) (σ : rS) (K : Int32 → rS → Prop) (h : hit (fX3_findWays k1 σ) K) : Ct l Ω yX3_findWays cX3_findWays 3 none rmX3_findWays [rf Ω 3 0, rf Ω 7 k1] σ K := by
  refine Ct.of (own := RX3) (lv := [some (rf Ω 3 0), some (rf Ω 7 k1), none]) (by decide) rfl (Nat.le_of_ble_eq_true rfl) rfl (fun hW => ?_)
  unfold fX3_findWays at h
  refine R_aload_n (i := 0) dX3_findWays_0 rfl rfl ?_
  refine R_callVv (ctX3_begin l Ω hL0 _ _ (hit_mono (hit_bd h) (fun r1 σ2 h => ?_))) okX3_begin mw_736 hL0 (cE_3 Ω 0 _) rfl rfl (Nat.le_of_ble_eq_true rfl) rfl rfl ⟨by decide, by decide⟩ ⟨Nat.zero_le _, Nat.zero_le _⟩ dX3_findWays_1
  refine R_iconst (v := 0) dX3_findWays_4 rfl ?_
  refine R_istore_n (lv2 := [some (rf Ω 3 0), some (rf Ω 7 k1), some (.int 0)]) dX3_findWays_5 rfl (by decide) rfl rfl ?_
  refine rlX3_findWays_L6 hW k1 hL0 hL1 ?_ fu 0 σ2 (hit_bd h)
  · intro e6 σ5 h
    try dsimp only at h
    refine R_aload_n (i := 0) dX3_findWays_30 rfl rfl ?_
    refine R_aload_n (i := 1) dX3_findWays_31 rfl rfl ?_
    refine R_iconst (v := 0) dX3_findWays_32 rfl ?_
    refine R_callVv (ctX3_spread l Ω k1 0 hL0 hL1 _ _ (hit_mono (hit_bd h) (fun r7 σ8 h => ?_))) okX3_spread mw_746 hL0 (cE_3 Ω 0 _) rfl rfl (Nat.le_of_ble_eq_true rfl) rfl rfl ⟨by decide, by decide⟩ ⟨Nat.zero_le _, Nat.zero_le _⟩ dX3_findWays_33
    exact R_vret dX3_findWays_36 rfl h
set_option maxRecDepth 100000 in
set_option maxHeartbeats 4000000 in
theorem rsX3_lowestRootOf_L2 {l : Launch} {Ω : rO} (hW : WF Ω) (k0 : Nat) (x1 : Int32) (x2 : Int32) (hL0 : oL Ω 7 k0) (σ : rS) {K : Int32 → rS → Prop} {K0 : (Int32 ⊕ (Int32 ⊕ Unit)) → rS → Prop} (hC : ∀ (x2 : Int32) (σ : rS), K0 (.inl x2) σ → Run l Ω cX3_lowestRootOf RX3 3 (some .int) rmX3_lowestRootOf K 2 [some (rf Ω 7 k0), some (.int x1), some (.int x2)] [] σ) (hE0 : ∀ (e : Int32) (σ : rS), K0 (.inr (.inl e)) σ → Run l Ω cX3_lowestRootOf RX3 3 (some .int) rmX3_lowestRootOf K 18 [none, none, some (.int e)] [] σ) (hE1 : ∀ (e : Unit) (σ : rS), K0 (.inr (.inr e)) σ → Run l Ω cX3_lowestRootOf RX3 3 (some .int) rmX3_lowestRootOf K 26 [none, none, none] [] σ) (h : hit (fX3_lowestRootOf_L2 k0 x1 x2 σ) K0) : Run l Ω cX3_lowestRootOf RX3 3 (some .int) rmX3_lowestRootOf K 2 [some (rf Ω 7 k0), some (.int x1), some (.int x2)] [] σ := by
  unfold fX3_lowestRootOf_L2 at h
  refine R_iload_n (i := 2) dX3_lowestRootOf_2 rfl rfl ?_
  refine R_bipush (v := 8) dX3_lowestRootOf_3 rfl ?_
  refine R_icmp_ge (tgt := 26) dX3_lowestRootOf_5 (by decide) (fun hc => ?_) (fun hc => ?_)
  · have h := hit_f h hc
    refine R_drop (lv2 := [none, some (.int x1), some (.int x2)]) 0 rfl ?_
    refine R_drop (lv2 := [none, none, some (.int x2)]) 1 rfl ?_
    refine R_drop (lv2 := [none, none, none]) 2 rfl ?_
    exact hE1 () σ h
  · have h := hit_t h hc
    refine R_aload_n (i := 0) dX3_lowestRootOf_8 rfl rfl ?_
    refine R_get foX3_63 hL0 (cE_7 Ω k0 _) rfl dX3_lowestRootOf_9 ?_
    refine R_iload_n (i := 2) dX3_lowestRootOf_12 rfl rfl ?_
    obtain ⟨hb, h⟩ := hit_bnd h
    refine R_iald (WF.kid hW 8 hL0 rfl) (cE_53 Ω k0 _) hb dX3_lowestRootOf_13 ?_
    refine R_iload_n (i := 1) dX3_lowestRootOf_14 rfl rfl ?_
    refine R_icmp_ne (tgt := 20) dX3_lowestRootOf_15 (by decide) (fun hc => ?_) (fun hc => ?_)
    · have h := hit_f h hc
      refine R_iinc (v := x2 + 1) (lv2 := [some (rf Ω 7 k0), some (.int x1), some (.int (x2 + 1))]) dX3_lowestRootOf_20 rfl rfl (by decide) rfl rfl ?_
      refine R_goto (tgt := 2) dX3_lowestRootOf_23 (by decide) ?_
      exact hC (x2 + 1) σ h
    · have h := hit_t h hc
      refine R_drop (lv2 := [none, some (.int x1), some (.int x2)]) 0 rfl ?_
      refine R_drop (lv2 := [none, none, some (.int x2)]) 1 rfl ?_
      exact hE0 x2 σ h
set_option maxRecDepth 100000 in
set_option maxHeartbeats 4000000 in
theorem rlX3_lowestRootOf_L2 {l : Launch} {Ω : rO} (hW : WF Ω) (k0 : Nat) (x1 : Int32) (hL0 : oL Ω 7 k0) {K : Int32 → rS → Prop} {KE : (Int32 ⊕ Unit) → rS → Prop} (hE0 : ∀ (e : Int32) (σ : rS), KE (.inl e) σ → Run l Ω cX3_lowestRootOf RX3 3 (some .int) rmX3_lowestRootOf K 18 [none, none, some (.int e)] [] σ) (hE1 : ∀ (e : Unit) (σ : rS), KE (.inr e) σ → Run l Ω cX3_lowestRootOf RX3 3 (some .int) rmX3_lowestRootOf K 26 [none, none, none] [] σ) : ∀ (n : Nat) (x2 : Int32) (σ : rS), hit (lp (fun (x : Int32) σ => fX3_lowestRootOf_L2 k0 x1 x σ) n x2 σ) KE → Run l Ω cX3_lowestRootOf RX3 3 (some .int) rmX3_lowestRootOf K 2 [some (rf Ω 7 k0), some (.int x1), some (.int x2)] [] σ := by
  intro n
  induction n with
  | zero => intro x2 σ h; exact (h : False).elim
  | succ n ih =>
    intro x2 σ h
    exact rsX3_lowestRootOf_L2 hW k0 x1 x2 hL0 σ (fun x2 σ h => ih x2 σ h) (fun e σ h => hE0 e σ h) (fun e σ h => hE1 e σ h) (hit_lp h)
set_option maxRecDepth 100000 in
set_option maxHeartbeats 4000000 in
theorem ctX3_lowestRootOf (l : Launch) (Ω : rO) (k0 : Nat) (x1 : Int32) (hL0 : oL Ω 7 k0) (σ : rS) (K : Int32 → rS → Prop) (h : hit (fX3_lowestRootOf k0 x1 σ) K) : Ct l Ω yX3_lowestRootOf cX3_lowestRootOf 3 (some .int) rmX3_lowestRootOf [rf Ω 7 k0, .int x1] σ K := by
  refine Ct.of (own := RX3) (lv := [some (rf Ω 7 k0), some (.int x1), none]) (by decide) rfl (Nat.le_of_ble_eq_true rfl) rfl (fun hW => ?_)
  unfold fX3_lowestRootOf at h
  refine R_iconst (v := 0) dX3_lowestRootOf_0 rfl ?_
  refine R_istore_n (lv2 := [some (rf Ω 7 k0), some (.int x1), some (.int 0)]) dX3_lowestRootOf_1 rfl (by decide) rfl rfl ?_
  refine rlX3_lowestRootOf_L2 hW k0 x1 hL0 ?_ ?_ fu 0 σ (hit_bd h)
  · intro e2 σ1 h
    try dsimp only at h
    refine R_iload_n (i := 2) dX3_lowestRootOf_18 rfl rfl ?_
    exact R_iret dX3_lowestRootOf_19 rfl h
  · intro e3 σ1 h
    try dsimp only at h
    refine R_iconst (v := (-1)) dX3_lowestRootOf_26 rfl ?_
    exact R_iret dX3_lowestRootOf_27 rfl h
set_option maxRecDepth 100000 in
set_option maxHeartbeats 4000000 in
theorem rsX3_wayTo_L45 {l : Launch} {Ω : rO} (hW : WF Ω) (k1 : Nat) (x3 : Int32) (x5 : Int32) (x6 : Int32) (hL0 : oL Ω 3 0) (hL1 : oL Ω 7 k1) (σ : rS) {K : Int32 → rS → Prop} {K0 : ((Int32 × Int32) ⊕ Int32) → rS → Prop} (hC : ∀ (x5 : Int32) (x6 : Int32) (σ : rS), K0 (.inl (x5, x6)) σ → Run l Ω cX3_wayTo RX3 7 (some .int) rmX3_wayTo K 45 [some (rf Ω 3 0), some (rf Ω 7 k1), none, some (.int x3), none, some (.int x5), some (.int x6)] [] σ) (hE0 : ∀ (e : Int32) (σ : rS), K0 (.inr e) σ → Run l Ω cX3_wayTo RX3 7 (some .int) rmX3_wayTo K 77 [some (rf Ω 3 0), some (rf Ω 7 k1), none, some (.int x3), none, some (.int e), none] [] σ) (h : hit (fX3_wayTo_L45 k1 x3 x5 x6 σ) K0) : Run l Ω cX3_wayTo RX3 7 (some .int) rmX3_wayTo K 45 [some (rf Ω 3 0), some (rf Ω 7 k1), none, some (.int x3), none, some (.int x5), some (.int x6)] [] σ := by
  unfold fX3_wayTo_L45 at h
  refine R_iload (i := 6) dX3_wayTo_45 rfl ?_
  refine R_iload_n (i := 3) dX3_wayTo_47 rfl rfl ?_
  refine R_icmp_le (tgt := 77) dX3_wayTo_48 (by decide) (fun hc => ?_) (fun hc => ?_)
  · have h := hit_f h hc
    refine R_drop (lv2 := [some (rf Ω 3 0), some (rf Ω 7 k1), none, some (.int x3), none, some (.int x5), none]) 6 rfl ?_
    exact hE0 x5 σ h
  · have h := hit_t h hc
    refine R_aload_n (i := 0) dX3_wayTo_51 rfl rfl ?_
    refine R_get foX3_21 hL0 (cE_3 Ω 0 _) rfl dX3_wayTo_52 ?_
    refine R_iload (i := 5) dX3_wayTo_55 rfl ?_
    obtain ⟨hb, h⟩ := hit_bnd h
    refine R_iald (WF.kid hW 3 hL0 rfl) (cE_33 Ω 0 _) hb dX3_wayTo_57 ?_
    refine R_iconst (v := (-1)) dX3_wayTo_58 rfl ?_
    refine R_icmp_eq (tgt := 77) dX3_wayTo_59 (by decide) (fun hc => ?_) (fun hc => ?_)
    · have h := hit_t h hc
      refine R_drop (lv2 := [some (rf Ω 3 0), some (rf Ω 7 k1), none, some (.int x3), none, some (.int x5), none]) 6 rfl ?_
      exact hE0 x5 σ h
    · have h := hit_f h hc
      refine R_aload_n (i := 0) dX3_wayTo_62 rfl rfl ?_
      refine R_get foX3_21 hL0 (cE_3 Ω 0 _) rfl dX3_wayTo_63 ?_
      refine R_iload (i := 5) dX3_wayTo_66 rfl ?_
      obtain ⟨hb, h⟩ := hit_bnd h
      refine R_iald (WF.kid hW 3 hL0 rfl) (cE_33 Ω 0 _) hb dX3_wayTo_68 ?_
      refine R_topi h (fun y4 h => ?_)
      refine R_istore (lv2 := [some (rf Ω 3 0), some (rf Ω 7 k1), none, some (.int x3), none, some (.int y4), some (.int x6)]) dX3_wayTo_69 (by decide) rfl rfl ?_
      refine R_iinc (v := x6 + (-1)) (lv2 := [some (rf Ω 3 0), some (rf Ω 7 k1), none, some (.int x3), none, some (.int y4), some (.int (x6 + (-1)))]) dX3_wayTo_71 rfl rfl (by decide) rfl rfl ?_
      refine R_goto (tgt := 45) dX3_wayTo_74 (by decide) ?_
      exact hC y4 (x6 + (-1)) σ h
set_option maxRecDepth 100000 in
set_option maxHeartbeats 4000000 in
theorem rlX3_wayTo_L45 {l : Launch} {Ω : rO} (hW : WF Ω) (k1 : Nat) (x3 : Int32) (hL0 : oL Ω 3 0) (hL1 : oL Ω 7 k1) {K : Int32 → rS → Prop} {KE : Int32 → rS → Prop} (hE0 : ∀ (e : Int32) (σ : rS), KE e σ → Run l Ω cX3_wayTo RX3 7 (some .int) rmX3_wayTo K 77 [some (rf Ω 3 0), some (rf Ω 7 k1), none, some (.int x3), none, some (.int e), none] [] σ) : ∀ (n : Nat) (x5 : Int32) (x6 : Int32) (σ : rS), hit (lp (fun (x : (Int32 × Int32)) σ => fX3_wayTo_L45 k1 x3 x.1 x.2 σ) n (x5, x6) σ) KE → Run l Ω cX3_wayTo RX3 7 (some .int) rmX3_wayTo K 45 [some (rf Ω 3 0), some (rf Ω 7 k1), none, some (.int x3), none, some (.int x5), some (.int x6)] [] σ := by
  intro n
  induction n with
  | zero => intro x5 x6 σ h; exact (h : False).elim
  | succ n ih =>
    intro x5 x6 σ h
    exact rsX3_wayTo_L45 hW k1 x3 x5 x6 hL0 hL1 σ (fun x5 x6 σ h => ih x5 x6 σ h) (fun e σ h => hE0 e σ h) (hit_lp h)
set_option maxRecDepth 100000 in
set_option maxHeartbeats 4000000 in
theorem rnX3_wayTo_j77 {l : Launch} {Ω : rO} (hW : WF Ω) (k1 : Nat) (x3 : Int32) (x5 : Int32) (hL0 : oL Ω 3 0) (hL1 : oL Ω 7 k1) (σ : rS) {K : Int32 → rS → Prop}  (h : hit (fX3_wayTo_j77 k1 x3 x5 σ) K) : Run l Ω cX3_wayTo RX3 7 (some .int) rmX3_wayTo K 77 [some (rf Ω 3 0), some (rf Ω 7 k1), none, some (.int x3), none, some (.int x5), none] [] σ := by
  unfold fX3_wayTo_j77 at h
  refine R_iload_n (i := 3) dX3_wayTo_77 rfl rfl ?_
  refine R_if_ne (tgt := 90) dX3_wayTo_78 (by decide) (fun hc => ?_) (fun hc => ?_)
  · have h := hit_f h hc
    refine R_aload_n (i := 0) dX3_wayTo_90 rfl rfl ?_
    refine R_get foX3_24 hL0 (cE_3 Ω 0 _) rfl dX3_wayTo_91 ?_
    refine R_iload (i := 5) dX3_wayTo_94 rfl ?_
    obtain ⟨hb, h⟩ := hit_bnd h
    refine R_iald (WF.kid hW 4 hL0 rfl) (cE_34 Ω 0 _) hb dX3_wayTo_96 ?_
    exact R_iret dX3_wayTo_97 rfl h
  · have h := hit_t h hc
    refine R_aload_n (i := 1) dX3_wayTo_81 rfl rfl ?_
    refine R_iload (i := 5) dX3_wayTo_82 rfl ?_
    refine R_callSi (ctX3_lowestRootOf l Ω k1 x5 hL1 _ _ (hit_mono (hit_bd h) (fun r7 σ8 h => ?_))) okX3_lowestRootOf mw_978 rfl rfl (Nat.le_of_ble_eq_true rfl) rfl rfl ⟨by decide, by decide⟩ ⟨Nat.zero_le _, Nat.zero_le _⟩ dX3_wayTo_84
    refine R_goto (tgt := 97) dX3_wayTo_87 (by decide) ?_
    exact R_iret dX3_wayTo_97 rfl h
set_option maxRecDepth 100000 in
set_option maxHeartbeats 4000000 in
theorem ctX3_wayTo (l : Launch) (Ω : rO) (k1 : Nat) (x2 : Int32) (x3 : Int32) (hL0 : oL Ω 3 0) (hL1 : oL Ω 7 k1) (σ : rS) (K : Int32 → rS → Prop) (h : hit (fX3_wayTo k1 x2 x3 σ) K) : Ct l Ω yX3_wayTo cX3_wayTo 7 (some .int) rmX3_wayTo [rf Ω 3 0, rf Ω 7 k1, .int x2, .int x3] σ K := by
  refine Ct.of (own := RX3) (lv := [some (rf Ω 3 0), some (rf Ω 7 k1), some (.int x2), some (.int x3), none, none, none]) (by decide) rfl (Nat.le_of_ble_eq_true rfl) rfl (fun hW => ?_)
  unfold fX3_wayTo at h
  refine R_aload_n (i := 0) dX3_wayTo_0 rfl rfl ?_
  refine R_iload_n (i := 2) dX3_wayTo_1 rfl rfl ?_
  refine R_callVi (ctX3_isSeen l Ω x2 hL0 _ _ (hit_mono (hit_bd h) (fun r1 σ2 h => ?_))) okX3_isSeen mw_977 hL0 (cE_3 Ω 0 _) rfl rfl (Nat.le_of_ble_eq_true rfl) rfl rfl ⟨by decide, by decide⟩ ⟨Nat.zero_le _, Nat.zero_le _⟩ dX3_wayTo_2
  refine R_if_ne (tgt := 10) dX3_wayTo_5 (by decide) (fun hc => ?_) (fun hc => ?_)
  · have h := hit_f h hc
    refine R_aload_n (i := 0) dX3_wayTo_10 rfl rfl ?_
    refine R_get foX3_18 hL0 (cE_3 Ω 0 _) rfl dX3_wayTo_11 ?_
    refine R_iload_n (i := 2) dX3_wayTo_14 rfl rfl ?_
    obtain ⟨hb, h⟩ := hit_bnd h
    refine R_iald (WF.kid hW 2 hL0 rfl) (cE_32 Ω 0 _) hb dX3_wayTo_15 ?_
    refine R_topi h (fun y3 h => ?_)
    refine R_istore (lv2 := [some (rf Ω 3 0), some (rf Ω 7 k1), some (.int x2), some (.int x3), some (.int y3), none, none]) dX3_wayTo_16 (by decide) rfl rfl ?_
    refine R_iload_n (i := 3) dX3_wayTo_18 rfl rfl ?_
    refine R_iconst (v := (-1)) dX3_wayTo_19 rfl ?_
    refine R_icmp_ne (tgt := 26) dX3_wayTo_20 (by decide) (fun hc => ?_) (fun hc => ?_)
    · have h := hit_f h hc
      refine R_iload_n (i := 3) dX3_wayTo_26 rfl rfl ?_
      refine R_if_lt (tgt := 36) dX3_wayTo_27 (by decide) (fun hc => ?_) (fun hc => ?_)
      · have h := hit_t h hc
        refine R_iconst (v := (-1)) dX3_wayTo_36 rfl ?_
        exact R_iret dX3_wayTo_37 rfl h
      · have h := hit_f h hc
        refine R_iload_n (i := 3) dX3_wayTo_30 rfl rfl ?_
        refine R_iload (i := 4) dX3_wayTo_31 rfl ?_
        refine R_icmp_le (tgt := 38) dX3_wayTo_33 (by decide) (fun hc => ?_) (fun hc => ?_)
        · have h := hit_f h hc
          refine R_iload_n (i := 2) dX3_wayTo_38 rfl rfl ?_
          refine R_istore (lv2 := [some (rf Ω 3 0), some (rf Ω 7 k1), some (.int x2), some (.int x3), some (.int y3), some (.int x2), none]) dX3_wayTo_39 (by decide) rfl rfl ?_
          refine R_iload (i := 4) dX3_wayTo_41 rfl ?_
          refine R_istore (lv2 := [some (rf Ω 3 0), some (rf Ω 7 k1), some (.int x2), some (.int x3), some (.int y3), some (.int x2), some (.int y3)]) dX3_wayTo_43 (by decide) rfl rfl ?_
          refine R_drop (lv2 := [some (rf Ω 3 0), some (rf Ω 7 k1), none, some (.int x3), some (.int y3), some (.int x2), some (.int y3)]) 2 rfl ?_
          refine R_drop (lv2 := [some (rf Ω 3 0), some (rf Ω 7 k1), none, some (.int x3), none, some (.int x2), some (.int y3)]) 4 rfl ?_
          refine rlX3_wayTo_L45 hW k1 x3 hL0 hL1 ?_ fu x2 y3 σ2 (hit_bd h)
          · intro e6 σ5 h
            try dsimp only at h
            exact rnX3_wayTo_j77 hW k1 x3 e6 hL0 hL1 σ5  h
        · have h := hit_t h hc
          refine R_iconst (v := (-1)) dX3_wayTo_36 rfl ?_
          exact R_iret dX3_wayTo_37 rfl h
    · have h := hit_t h hc
      refine R_iload (i := 4) dX3_wayTo_23 rfl ?_
      exact R_iret dX3_wayTo_25 rfl h
  · have h := hit_t h hc
    refine R_iconst (v := (-1)) dX3_wayTo_8 rfl ?_
    exact R_iret dX3_wayTo_9 rfl h
set_option maxRecDepth 100000 in
set_option maxHeartbeats 4000000 in
theorem rsX3_wayBack_L43 {l : Launch} {Ω : rO} (hW : WF Ω) (k1 : Nat) (x2 : Int32) (x3 : Int32) (x4 : Int32) (x5 : Int32) (hL0 : oL Ω 3 0) (hL1 : oL Ω 7 k1) (σ : rS) {K : Int32 → rS → Prop} {K0 : (Int32 ⊕ (Unit ⊕ Unit)) → rS → Prop} (hC : ∀ (x5 : Int32) (σ : rS), K0 (.inl x5) σ → Run l Ω cX3_wayBack RX3 7 (some .int) rmX3_wayBack K 43 [some (rf Ω 3 0), some (rf Ω 7 k1), some (.int x2), some (.int x3), some (.int x4), some (.int x5), none] [] σ) (hE0 : ∀ (e : Unit) (σ : rS), K0 (.inr (.inl e)) σ → Run l Ω cX3_wayBack RX3 7 (some .int) rmX3_wayBack K 70 [some (rf Ω 3 0), none, none, none, some (.int x4), none, none] [] σ) (hE1 : ∀ (e : Unit) (σ : rS), K0 (.inr (.inr e)) σ → Run l Ω cX3_wayBack RX3 7 (some .int) rmX3_wayBack K 96 [some (rf Ω 3 0), some (rf Ω 7 k1), some (.int x2), some (.int x3), none, none, none] [] σ) (h : hit (fX3_wayBack_L43 k1 x2 x3 x4 x5 σ) K0) : Run l Ω cX3_wayBack RX3 7 (some .int) rmX3_wayBack K 43 [some (rf Ω 3 0), some (rf Ω 7 k1), some (.int x2), some (.int x3), some (.int x4), some (.int x5), none] [] σ := by
  unfold fX3_wayBack_L43 at h
  refine R_iload (i := 5) dX3_wayBack_43 rfl ?_
  refine R_aload_n (i := 1) dX3_wayBack_45 rfl rfl ?_
  refine R_iload (i := 4) dX3_wayBack_46 rfl ?_
  refine R_callVi (ctX7_fieldsOf l Ω k1 x4 hL1 _ _ (hit_mono (hit_bd h) (fun r8 σ9 h => ?_))) okX7_fieldsOf mw_751 hL1 (cE_7 Ω k1 _) rfl rfl (Nat.le_of_ble_eq_true rfl) rfl rfl ⟨by decide, by decide⟩ ⟨Nat.zero_le _, Nat.zero_le _⟩ dX3_wayBack_48
  refine R_icmp_ge (tgt := 96) dX3_wayBack_51 (by decide) (fun hc => ?_) (fun hc => ?_)
  · have h := hit_f h hc
    refine R_drop (lv2 := [some (rf Ω 3 0), some (rf Ω 7 k1), some (.int x2), some (.int x3), none, some (.int x5), none]) 4 rfl ?_
    refine R_drop (lv2 := [some (rf Ω 3 0), some (rf Ω 7 k1), some (.int x2), some (.int x3), none, none, none]) 5 rfl ?_
    exact hE1 () σ9 h
  · have h := hit_t h hc
    refine R_aload_n (i := 1) dX3_wayBack_54 rfl rfl ?_
    refine R_iload (i := 4) dX3_wayBack_55 rfl ?_
    refine R_iload (i := 5) dX3_wayBack_57 rfl ?_
    refine R_callVi (ctX7_target l Ω k1 x4 x5 hL1 _ _ (hit_mono (hit_bd h) (fun r10 σ11 h => ?_))) okX7_target mw_752 hL1 (cE_7 Ω k1 _) rfl rfl (Nat.le_of_ble_eq_true rfl) rfl rfl ⟨by decide, by decide⟩ ⟨Nat.zero_le _, Nat.zero_le _⟩ dX3_wayBack_59
    refine R_istore (lv2 := [some (rf Ω 3 0), some (rf Ω 7 k1), some (.int x2), some (.int x3), some (.int x4), some (.int x5), some (.int r10)]) dX3_wayBack_62 (by decide) rfl rfl ?_
    refine R_iload (i := 6) dX3_wayBack_64 rfl ?_
    refine R_iload_n (i := 2) dX3_wayBack_66 rfl rfl ?_
    refine R_icmp_ne (tgt := 80) dX3_wayBack_67 (by decide) (fun hc => ?_) (fun hc => ?_)
    · have h := hit_f h hc
      refine R_aload_n (i := 0) dX3_wayBack_80 rfl rfl ?_
      refine R_iload (i := 6) dX3_wayBack_81 rfl ?_
      refine R_iload (i := 4) dX3_wayBack_83 rfl ?_
      refine R_iload (i := 5) dX3_wayBack_85 rfl ?_
      refine R_callVv (ctX3_visit l Ω r10 x4 x5 hL0 _ _ (hit_mono (hit_bd h) (fun r12 σ13 h => ?_))) okX3_visit mw_741 hL0 (cE_3 Ω 0 _) rfl rfl (Nat.le_of_ble_eq_true rfl) rfl rfl ⟨by decide, by decide⟩ ⟨Nat.zero_le _, Nat.zero_le _⟩ dX3_wayBack_87
      refine R_iinc (v := x5 + 1) (lv2 := [some (rf Ω 3 0), some (rf Ω 7 k1), some (.int x2), some (.int x3), some (.int x4), some (.int (x5 + 1)), some (.int r10)]) dX3_wayBack_90 rfl rfl (by decide) rfl rfl ?_
      refine R_goto (tgt := 43) dX3_wayBack_93 (by decide) ?_
      refine R_drop (lv2 := [some (rf Ω 3 0), some (rf Ω 7 k1), some (.int x2), some (.int x3), some (.int x4), some (.int (x5 + 1)), none]) 6 rfl ?_
      exact hC (x5 + 1) σ13 h
    · have h := hit_t h hc
      refine R_drop (lv2 := [some (rf Ω 3 0), none, some (.int x2), some (.int x3), some (.int x4), some (.int x5), some (.int r10)]) 1 rfl ?_
      refine R_drop (lv2 := [some (rf Ω 3 0), none, none, some (.int x3), some (.int x4), some (.int x5), some (.int r10)]) 2 rfl ?_
      refine R_drop (lv2 := [some (rf Ω 3 0), none, none, none, some (.int x4), some (.int x5), some (.int r10)]) 3 rfl ?_
      refine R_drop (lv2 := [some (rf Ω 3 0), none, none, none, some (.int x4), none, some (.int r10)]) 5 rfl ?_
      refine R_drop (lv2 := [some (rf Ω 3 0), none, none, none, some (.int x4), none, none]) 6 rfl ?_
      exact hE0 () σ11 h
set_option maxRecDepth 100000 in
set_option maxHeartbeats 4000000 in
theorem rlX3_wayBack_L43 {l : Launch} {Ω : rO} (hW : WF Ω) (k1 : Nat) (x2 : Int32) (x3 : Int32) (x4 : Int32) (hL0 : oL Ω 3 0) (hL1 : oL Ω 7 k1) {K : Int32 → rS → Prop} {KE : (Unit ⊕ Unit) → rS → Prop} (hE0 : ∀ (e : Unit) (σ : rS), KE (.inl e) σ → Run l Ω cX3_wayBack RX3 7 (some .int) rmX3_wayBack K 70 [some (rf Ω 3 0), none, none, none, some (.int x4), none, none] [] σ) (hE1 : ∀ (e : Unit) (σ : rS), KE (.inr e) σ → Run l Ω cX3_wayBack RX3 7 (some .int) rmX3_wayBack K 96 [some (rf Ω 3 0), some (rf Ω 7 k1), some (.int x2), some (.int x3), none, none, none] [] σ) : ∀ (n : Nat) (x5 : Int32) (σ : rS), hit (lp (fun (x : Int32) σ => fX3_wayBack_L43 k1 x2 x3 x4 x σ) n x5 σ) KE → Run l Ω cX3_wayBack RX3 7 (some .int) rmX3_wayBack K 43 [some (rf Ω 3 0), some (rf Ω 7 k1), some (.int x2), some (.int x3), some (.int x4), some (.int x5), none] [] σ := by
  intro n
  induction n with
  | zero => intro x5 σ h; exact (h : False).elim
  | succ n ih =>
    intro x5 σ h
    exact rsX3_wayBack_L43 hW k1 x2 x3 x4 x5 hL0 hL1 σ (fun x5 σ h => ih x5 σ h) (fun e σ h => hE0 e σ h) (fun e σ h => hE1 e σ h) (hit_lp h)
set_option maxRecDepth 100000 in
set_option maxHeartbeats 4000000 in
theorem rsX3_wayBack_L13 {l : Launch} {Ω : rO} (hW : WF Ω) (k1 : Nat) (x2 : Int32) (x3 : Int32) (hL0 : oL Ω 3 0) (hL1 : oL Ω 7 k1) (σ : rS) {K : Int32 → rS → Prop} {K0 : (Int32 ⊕ (Int32 ⊕ Unit)) → rS → Prop} (hC : ∀ (x3 : Int32) (σ : rS), K0 (.inl x3) σ → Run l Ω cX3_wayBack RX3 7 (some .int) rmX3_wayBack K 13 [some (rf Ω 3 0), some (rf Ω 7 k1), some (.int x2), some (.int x3), none, none, none] [] σ) (hE0 : ∀ (e : Int32) (σ : rS), K0 (.inr (.inl e)) σ → Run l Ω cX3_wayBack RX3 7 (some .int) rmX3_wayBack K 70 [some (rf Ω 3 0), none, none, none, some (.int e), none, none] [] σ) (hE1 : ∀ (e : Unit) (σ : rS), K0 (.inr (.inr e)) σ → Run l Ω cX3_wayBack RX3 7 (some .int) rmX3_wayBack K 102 [none, none, none, none, none, none, none] [] σ) (h : hit (fX3_wayBack_L13 k1 x2 x3 σ) K0) : Run l Ω cX3_wayBack RX3 7 (some .int) rmX3_wayBack K 13 [some (rf Ω 3 0), some (rf Ω 7 k1), some (.int x2), some (.int x3), none, none, none] [] σ := by
  unfold fX3_wayBack_L13 at h
  refine R_iload_n (i := 3) dX3_wayBack_13 rfl rfl ?_
  refine R_aload_n (i := 0) dX3_wayBack_14 rfl rfl ?_
  refine R_get foX3_39 hL0 (cE_3 Ω 0 _) rfl dX3_wayBack_15 ?_
  refine R_icmp_ge (tgt := 102) dX3_wayBack_18 (by decide) (fun hc => ?_) (fun hc => ?_)
  · have h := hit_f h hc
    refine R_drop (lv2 := [none, some (rf Ω 7 k1), some (.int x2), some (.int x3), none, none, none]) 0 rfl ?_
    refine R_drop (lv2 := [none, none, some (.int x2), some (.int x3), none, none, none]) 1 rfl ?_
    refine R_drop (lv2 := [none, none, none, some (.int x3), none, none, none]) 2 rfl ?_
    refine R_drop (lv2 := [none, none, none, none, none, none, none]) 3 rfl ?_
    exact hE1 () σ h
  · have h := hit_t h hc
    refine R_iload_n (i := 3) dX3_wayBack_21 rfl rfl ?_
    refine R_bipush (v := 80) dX3_wayBack_22 rfl ?_
    refine R_icmp_ge (tgt := 102) dX3_wayBack_24 (by decide) (fun hc => ?_) (fun hc => ?_)
    · have h := hit_f h hc
      refine R_drop (lv2 := [none, some (rf Ω 7 k1), some (.int x2), some (.int x3), none, none, none]) 0 rfl ?_
      refine R_drop (lv2 := [none, none, some (.int x2), some (.int x3), none, none, none]) 1 rfl ?_
      refine R_drop (lv2 := [none, none, none, some (.int x3), none, none, none]) 2 rfl ?_
      refine R_drop (lv2 := [none, none, none, none, none, none, none]) 3 rfl ?_
      exact hE1 () σ h
    · have h := hit_t h hc
      refine R_aload_n (i := 0) dX3_wayBack_27 rfl rfl ?_
      refine R_get foX3_15 hL0 (cE_3 Ω 0 _) rfl dX3_wayBack_28 ?_
      refine R_iload_n (i := 3) dX3_wayBack_31 rfl rfl ?_
      obtain ⟨hb, h⟩ := hit_bnd h
      refine R_iald (WF.kid hW 1 hL0 rfl) (cE_31 Ω 0 _) hb dX3_wayBack_32 ?_
      refine R_topi h (fun y5 h => ?_)
      refine R_istore (lv2 := [some (rf Ω 3 0), some (rf Ω 7 k1), some (.int x2), some (.int x3), some (.int y5), none, none]) dX3_wayBack_33 (by decide) rfl rfl ?_
      refine R_aload_n (i := 1) dX3_wayBack_35 rfl rfl ?_
      refine R_iload (i := 4) dX3_wayBack_36 rfl ?_
      refine R_callVi (ctX7_firstStrong l Ω k1 y5 hL1 _ _ (hit_mono (hit_bd h) (fun r6 σ7 h => ?_))) okX7_firstStrong mw_750 hL1 (cE_7 Ω k1 _) rfl rfl (Nat.le_of_ble_eq_true rfl) rfl rfl ⟨by decide, by decide⟩ ⟨Nat.zero_le _, Nat.zero_le _⟩ dX3_wayBack_38
      refine R_istore (lv2 := [some (rf Ω 3 0), some (rf Ω 7 k1), some (.int x2), some (.int x3), some (.int y5), some (.int r6), none]) dX3_wayBack_41 (by decide) rfl rfl ?_
      refine rlX3_wayBack_L43 hW k1 x2 x3 y5 hL0 hL1 ?_ ?_ fu r6 σ7 (hit_bd h)
      · intro e15 σ14 h
        try dsimp only at h
        exact hE0 y5 σ14 h
      · intro e16 σ14 h
        try dsimp only at h
        refine R_iinc (v := x3 + 1) (lv2 := [some (rf Ω 3 0), some (rf Ω 7 k1), some (.int x2), some (.int (x3 + 1)), none, none, none]) dX3_wayBack_96 rfl rfl (by decide) rfl rfl ?_
        refine R_goto (tgt := 13) dX3_wayBack_99 (by decide) ?_
        exact hC (x3 + 1) σ14 h
set_option maxRecDepth 100000 in
set_option maxHeartbeats 4000000 in
theorem rlX3_wayBack_L13 {l : Launch} {Ω : rO} (hW : WF Ω) (k1 : Nat) (x2 : Int32) (hL0 : oL Ω 3 0) (hL1 : oL Ω 7 k1) {K : Int32 → rS → Prop} {KE : (Int32 ⊕ Unit) → rS → Prop} (hE0 : ∀ (e : Int32) (σ : rS), KE (.inl e) σ → Run l Ω cX3_wayBack RX3 7 (some .int) rmX3_wayBack K 70 [some (rf Ω 3 0), none, none, none, some (.int e), none, none] [] σ) (hE1 : ∀ (e : Unit) (σ : rS), KE (.inr e) σ → Run l Ω cX3_wayBack RX3 7 (some .int) rmX3_wayBack K 102 [none, none, none, none, none, none, none] [] σ) : ∀ (n : Nat) (x3 : Int32) (σ : rS), hit (lp (fun (x : Int32) σ => fX3_wayBack_L13 k1 x2 x σ) n x3 σ) KE → Run l Ω cX3_wayBack RX3 7 (some .int) rmX3_wayBack K 13 [some (rf Ω 3 0), some (rf Ω 7 k1), some (.int x2), some (.int x3), none, none, none] [] σ := by
  intro n
  induction n with
  | zero => intro x3 σ h; exact (h : False).elim
  | succ n ih =>
    intro x3 σ h
    exact rsX3_wayBack_L13 hW k1 x2 x3 hL0 hL1 σ (fun x3 σ h => ih x3 σ h) (fun e σ h => hE0 e σ h) (fun e σ h => hE1 e σ h) (hit_lp h)
set_option maxRecDepth 100000 in
set_option maxHeartbeats 4000000 in
theorem ctX3_wayBack (l : Launch) (Ω : rO) (k1 : Nat) (x2 : Int32) (hL0 : oL Ω 3 0) (hL1 : oL Ω 7 k1) (σ : rS) (K : Int32 → rS → Prop) (h : hit (fX3_wayBack k1 x2 σ) K) : Ct l Ω yX3_wayBack cX3_wayBack 7 (some .int) rmX3_wayBack [rf Ω 3 0, rf Ω 7 k1, .int x2] σ K := by
  refine Ct.of (own := RX3) (lv := [some (rf Ω 3 0), some (rf Ω 7 k1), some (.int x2), none, none, none, none]) (by decide) rfl (Nat.le_of_ble_eq_true rfl) rfl (fun hW => ?_)
  unfold fX3_wayBack at h
  refine R_aload_n (i := 0) dX3_wayBack_0 rfl rfl ?_
  refine R_callVv (ctX3_begin l Ω hL0 _ _ (hit_mono (hit_bd h) (fun r1 σ2 h => ?_))) okX3_begin mw_736 hL0 (cE_3 Ω 0 _) rfl rfl (Nat.le_of_ble_eq_true rfl) rfl rfl ⟨by decide, by decide⟩ ⟨Nat.zero_le _, Nat.zero_le _⟩ dX3_wayBack_1
  refine R_aload_n (i := 0) dX3_wayBack_4 rfl rfl ?_
  refine R_iload_n (i := 2) dX3_wayBack_5 rfl rfl ?_
  refine R_iconst (v := (-1)) dX3_wayBack_6 rfl ?_
  refine R_iconst (v := (-1)) dX3_wayBack_7 rfl ?_
  refine R_callVv (ctX3_visit l Ω x2 (-1) (-1) hL0 _ _ (hit_mono (hit_bd h) (fun r3 σ4 h => ?_))) okX3_visit mw_741 hL0 (cE_3 Ω 0 _) rfl rfl (Nat.le_of_ble_eq_true rfl) rfl rfl ⟨by decide, by decide⟩ ⟨Nat.zero_le _, Nat.zero_le _⟩ dX3_wayBack_8
  refine R_iconst (v := 0) dX3_wayBack_11 rfl ?_
  refine R_istore_n (lv2 := [some (rf Ω 3 0), some (rf Ω 7 k1), some (.int x2), some (.int 0), none, none, none]) dX3_wayBack_12 rfl (by decide) rfl rfl ?_
  refine rlX3_wayBack_L13 hW k1 x2 hL0 hL1 ?_ ?_ fu 0 σ4 (hit_bd h)
  · intro e18 σ17 h
    try dsimp only at h
    refine R_aload_n (i := 0) dX3_wayBack_70 rfl rfl ?_
    refine R_get foX3_18 hL0 (cE_3 Ω 0 _) rfl dX3_wayBack_71 ?_
    refine R_iload (i := 4) dX3_wayBack_74 rfl ?_
    obtain ⟨hb, h⟩ := hit_bnd h
    refine R_iald (WF.kid hW 2 hL0 rfl) (cE_32 Ω 0 _) hb dX3_wayBack_76 ?_
    refine R_iconst (v := 1) dX3_wayBack_77 rfl ?_
    refine R_iadd dX3_wayBack_78 ?_
    exact R_iret dX3_wayBack_79 rfl h
  · intro e19 σ17 h
    try dsimp only at h
    refine R_iconst (v := (-1)) dX3_wayBack_102 rfl ?_
    exact R_iret dX3_wayBack_103 rfl h
set_option maxRecDepth 100000 in
set_option maxHeartbeats 4000000 in
theorem rnX3_setBeside_j20 {l : Launch} {Ω : rO} (hW : WF Ω) (x1 : Int32) (x2 : Int32) (σ : rS) {K : Int32 → rS → Prop}  (h : hit (fX3_setBeside_j20 x1 x2 σ) K) : Run l Ω cX3_setBeside RX3 3 (some .boolean) rmX3_setBeside K 20 [none, some (.int x1), some (.int x2)] [] σ := by
  unfold fX3_setBeside_j20 at h
  refine R_iload_n (i := 1) dX3_setBeside_20 rfl rfl ?_
  refine R_iload_n (i := 2) dX3_setBeside_21 rfl rfl ?_
  refine R_icmp_ne (tgt := 29) dX3_setBeside_22 (by decide) (fun hc => ?_) (fun hc => ?_)
  · have h := hit_f h hc
    refine R_iconst (v := 0) dX3_setBeside_29 rfl ?_
    exact R_zret dX3_setBeside_30 rfl (Or.inl rfl) h
  · have h := hit_t h hc
    refine R_iconst (v := 1) dX3_setBeside_25 rfl ?_
    refine R_goto (tgt := 30) dX3_setBeside_26 (by decide) ?_
    exact R_zret dX3_setBeside_30 rfl (Or.inr rfl) h
set_option maxRecDepth 100000 in
set_option maxHeartbeats 4000000 in
theorem rnX3_setBeside_j51 {l : Launch} {Ω : rO} (hW : WF Ω) (x1 : Int32) (x2 : Int32) (hL0 : oL Ω 3 0) (σ : rS) {K : Int32 → rS → Prop}  (h : hit (fX3_setBeside_j51 x1 x2 σ) K) : Run l Ω cX3_setBeside RX3 3 (some .boolean) rmX3_setBeside K 51 [some (rf Ω 3 0), some (.int x1), some (.int x2)] [] σ := by
  unfold fX3_setBeside_j51 at h
  refine R_aload_n (i := 0) dX3_setBeside_51 rfl rfl ?_
  refine R_get foX3_27 hL0 (cE_3 Ω 0 _) rfl dX3_setBeside_52 ?_
  refine R_iload_n (i := 1) dX3_setBeside_55 rfl rfl ?_
  obtain ⟨hb, h⟩ := hit_bnd h
  refine R_iald (WF.kid hW 5 hL0 rfl) (cE_35 Ω 0 _) hb dX3_setBeside_56 ?_
  refine R_iload_n (i := 2) dX3_setBeside_57 rfl rfl ?_
  refine R_icmp_ne (tgt := 75) dX3_setBeside_58 (by decide) (fun hc => ?_) (fun hc => ?_)
  · have h := hit_f h hc
    refine R_iconst (v := 0) dX3_setBeside_75 rfl ?_
    exact R_zret dX3_setBeside_76 rfl (Or.inl rfl) h
  · have h := hit_t h hc
    refine R_aload_n (i := 0) dX3_setBeside_61 rfl rfl ?_
    refine R_get foX3_30 hL0 (cE_3 Ω 0 _) rfl dX3_setBeside_62 ?_
    refine R_iload_n (i := 2) dX3_setBeside_65 rfl rfl ?_
    obtain ⟨hb, h⟩ := hit_bnd h
    refine R_iald (WF.kid hW 6 hL0 rfl) (cE_36 Ω 0 _) hb dX3_setBeside_66 ?_
    refine R_iload_n (i := 1) dX3_setBeside_67 rfl rfl ?_
    refine R_icmp_ne (tgt := 75) dX3_setBeside_68 (by decide) (fun hc => ?_) (fun hc => ?_)
    · have h := hit_f h hc
      refine R_iconst (v := 0) dX3_setBeside_75 rfl ?_
      exact R_zret dX3_setBeside_76 rfl (Or.inl rfl) h
    · have h := hit_t h hc
      refine R_iconst (v := 1) dX3_setBeside_71 rfl ?_
      refine R_goto (tgt := 76) dX3_setBeside_72 (by decide) ?_
      exact R_zret dX3_setBeside_76 rfl (Or.inr rfl) h
set_option maxRecDepth 100000 in
set_option maxHeartbeats 4000000 in
theorem ctX3_setBeside (l : Launch) (Ω : rO) (x1 : Int32) (x2 : Int32) (hL0 : oL Ω 3 0) (σ : rS) (K : Int32 → rS → Prop) (h : hit (fX3_setBeside x1 x2 σ) K) : Ct l Ω yX3_setBeside cX3_setBeside 3 (some .boolean) rmX3_setBeside [rf Ω 3 0, .int x1, .int x2] σ K := by
  refine Ct.of (own := RX3) (lv := [some (rf Ω 3 0), some (.int x1), some (.int x2)]) (by decide) rfl (Nat.le_of_ble_eq_true rfl) rfl (fun hW => ?_)
  unfold fX3_setBeside at h
  refine R_iload_n (i := 1) dX3_setBeside_0 rfl rfl ?_
  refine R_if_lt (tgt := 20) dX3_setBeside_1 (by decide) (fun hc => ?_) (fun hc => ?_)
  · have h := hit_t h hc
    refine R_drop (lv2 := [none, some (.int x1), some (.int x2)]) 0 rfl ?_
    exact rnX3_setBeside_j20 hW x1 x2 σ  h
  · have h := hit_f h hc
    refine R_iload_n (i := 2) dX3_setBeside_4 rfl rfl ?_
    refine R_if_lt (tgt := 20) dX3_setBeside_5 (by decide) (fun hc => ?_) (fun hc => ?_)
    · have h := hit_t h hc
      refine R_drop (lv2 := [none, some (.int x1), some (.int x2)]) 0 rfl ?_
      exact rnX3_setBeside_j20 hW x1 x2 σ  h
    · have h := hit_f h hc
      refine R_iload_n (i := 1) dX3_setBeside_8 rfl rfl ?_
      refine R_bipush (v := 80) dX3_setBeside_9 rfl ?_
      refine R_icmp_ge (tgt := 20) dX3_setBeside_11 (by decide) (fun hc => ?_) (fun hc => ?_)
      · have h := hit_f h hc
        refine R_drop (lv2 := [none, some (.int x1), some (.int x2)]) 0 rfl ?_
        exact rnX3_setBeside_j20 hW x1 x2 σ  h
      · have h := hit_t h hc
        refine R_iload_n (i := 2) dX3_setBeside_14 rfl rfl ?_
        refine R_bipush (v := 80) dX3_setBeside_15 rfl ?_
        refine R_icmp_lt (tgt := 31) dX3_setBeside_17 (by decide) (fun hc => ?_) (fun hc => ?_)
        · have h := hit_t h hc
          refine R_aload_n (i := 0) dX3_setBeside_31 rfl rfl ?_
          refine R_get foX3_27 hL0 (cE_3 Ω 0 _) rfl dX3_setBeside_32 ?_
          refine R_iload_n (i := 1) dX3_setBeside_35 rfl rfl ?_
          obtain ⟨hb, h⟩ := hit_bnd h
          refine R_iald (WF.kid hW 5 hL0 rfl) (cE_35 Ω 0 _) hb dX3_setBeside_36 ?_
          refine R_iconst (v := (-1)) dX3_setBeside_37 rfl ?_
          refine R_icmp_ne (tgt := 51) dX3_setBeside_38 (by decide) (fun hc => ?_) (fun hc => ?_)
          · have h := hit_f h hc
            exact rnX3_setBeside_j51 hW x1 x2 hL0 σ  h
          · have h := hit_t h hc
            refine R_aload_n (i := 0) dX3_setBeside_41 rfl rfl ?_
            refine R_get foX3_30 hL0 (cE_3 Ω 0 _) rfl dX3_setBeside_42 ?_
            refine R_iload_n (i := 2) dX3_setBeside_45 rfl rfl ?_
            obtain ⟨hb, h⟩ := hit_bnd h
            refine R_iald (WF.kid hW 6 hL0 rfl) (cE_36 Ω 0 _) hb dX3_setBeside_46 ?_
            refine R_iconst (v := (-1)) dX3_setBeside_47 rfl ?_
            refine R_icmp_eq (tgt := 77) dX3_setBeside_48 (by decide) (fun hc => ?_) (fun hc => ?_)
            · have h := hit_t h hc
              refine R_aload_n (i := 0) dX3_setBeside_77 rfl rfl ?_
              refine R_get foX3_27 hL0 (cE_3 Ω 0 _) rfl dX3_setBeside_78 ?_
              refine R_iload_n (i := 1) dX3_setBeside_81 rfl rfl ?_
              refine R_iload_n (i := 2) dX3_setBeside_82 rfl rfl ?_
              obtain ⟨hb, h⟩ := hit_bnd h
              refine R_iast (WF.kid hW 5 hL0 rfl) (cE_35 Ω 0) hb dX3_setBeside_83 ?_
              refine R_st h (fun σ1 h => ?_)
              refine R_aload_n (i := 0) dX3_setBeside_84 rfl rfl ?_
              refine R_get foX3_30 hL0 (cE_3 Ω 0 _) rfl dX3_setBeside_85 ?_
              refine R_iload_n (i := 2) dX3_setBeside_88 rfl rfl ?_
              refine R_iload_n (i := 1) dX3_setBeside_89 rfl rfl ?_
              obtain ⟨hb, h⟩ := hit_bnd h
              refine R_iast (WF.kid hW 6 hL0 rfl) (cE_36 Ω 0) hb dX3_setBeside_90 ?_
              refine R_st h (fun σ2 h => ?_)
              refine R_aload_n (i := 0) dX3_setBeside_91 rfl rfl ?_
              refine R_get foX3_15 hL0 (cE_3 Ω 0 _) rfl dX3_setBeside_92 ?_
              refine R_aload_n (i := 0) dX3_setBeside_95 rfl rfl ?_
              refine R_get foX3_39 hL0 (cE_3 Ω 0 _) rfl dX3_setBeside_96 ?_
              refine R_iload_n (i := 1) dX3_setBeside_99 rfl rfl ?_
              obtain ⟨hb, h⟩ := hit_bnd h
              refine R_iast (WF.kid hW 1 hL0 rfl) (cE_31 Ω 0) hb dX3_setBeside_100 ?_
              refine R_st h (fun σ3 h => ?_)
              refine R_aload_n (i := 0) dX3_setBeside_101 rfl rfl ?_
              refine R_dup dX3_setBeside_102 rfl ?_
              refine R_get foX3_39 hL0 (cE_3 Ω 0 _) rfl dX3_setBeside_103 ?_
              refine R_iconst (v := 1) dX3_setBeside_106 rfl ?_
              refine R_iadd dX3_setBeside_107 ?_
              refine R_put poX3_39 hL0 (cE_3 Ω 0 _) (cP_3_7 Ω 0 _ _) (Nat.le_of_ble_eq_true rfl) dX3_setBeside_108 ?_
              refine R_st h (fun σ4 h => ?_)
              refine R_iconst (v := 1) dX3_setBeside_111 rfl ?_
              exact R_zret dX3_setBeside_112 rfl (Or.inr rfl) h
            · have h := hit_f h hc
              exact rnX3_setBeside_j51 hW x1 x2 hL0 σ  h
        · have h := hit_f h hc
          refine R_drop (lv2 := [none, some (.int x1), some (.int x2)]) 0 rfl ?_
          exact rnX3_setBeside_j20 hW x1 x2 σ  h
set_option maxRecDepth 100000 in
set_option maxHeartbeats 4000000 in
theorem rsX3_areAlikeHere_L69 {l : Launch} {Ω : rO} (hW : WF Ω) (k1 : Nat) (x2 : Int32) (x3 : Int32) (x4 : Int32) (x5 : Int32) (hL0 : oL Ω 3 0) (hL1 : oL Ω 7 k1) (σ : rS) {K : Int32 → rS → Prop} {K0 : ((Int32 × Int32) ⊕ Int32) → rS → Prop} (hC : ∀ (x4 : Int32) (x5 : Int32) (σ : rS), K0 (.inl (x4, x5)) σ → Run l Ω cX3_areAlikeHere RX3 6 (some .boolean) rmX3_areAlikeHere K 69 [some (rf Ω 3 0), some (rf Ω 7 k1), some (.int x2), some (.int x3), some (.int x4), some (.int x5)] [] σ) (hE0 : ∀ (e : Int32) (σ : rS), K0 (.inr e) σ → Run l Ω cX3_areAlikeHere RX3 6 (some .boolean) rmX3_areAlikeHere K 111 [none, none, none, none, some (.int e), none] [] σ) (h : hit (fX3_areAlikeHere_L69 k1 x2 x3 x4 x5 σ) K0) : Run l Ω cX3_areAlikeHere RX3 6 (some .boolean) rmX3_areAlikeHere K 69 [some (rf Ω 3 0), some (rf Ω 7 k1), some (.int x2), some (.int x3), some (.int x4), some (.int x5)] [] σ := by
  unfold fX3_areAlikeHere_L69 at h
  refine R_iload (i := 4) dX3_areAlikeHere_69 rfl ?_
  refine R_if_eq (tgt := 111) dX3_areAlikeHere_71 (by decide) (fun hc => ?_) (fun hc => ?_)
  · have h := hit_t h hc
    refine R_drop (lv2 := [none, some (rf Ω 7 k1), some (.int x2), some (.int x3), some (.int x4), some (.int x5)]) 0 rfl ?_
    refine R_drop (lv2 := [none, none, some (.int x2), some (.int x3), some (.int x4), some (.int x5)]) 1 rfl ?_
    refine R_drop (lv2 := [none, none, none, some (.int x3), some (.int x4), some (.int x5)]) 2 rfl ?_
    refine R_drop (lv2 := [none, none, none, none, some (.int x4), some (.int x5)]) 3 rfl ?_
    refine R_drop (lv2 := [none, none, none, none, some (.int x4), none]) 5 rfl ?_
    exact hE0 x4 σ h
  · have h := hit_f h hc
    refine R_iload (i := 5) dX3_areAlikeHere_74 rfl ?_
    refine R_aload_n (i := 1) dX3_areAlikeHere_76 rfl rfl ?_
    refine R_get foX3_116 hL1 (cE_7 Ω k1 _) rfl dX3_areAlikeHere_77 ?_
    refine R_iload_n (i := 2) dX3_areAlikeHere_80 rfl rfl ?_
    obtain ⟨hb, h⟩ := hit_bnd h
    refine R_iald (WF.kid hW 2 hL1 rfl) (cE_47 Ω k1 _) hb dX3_areAlikeHere_81 ?_
    refine R_icmp_ge (tgt := 111) dX3_areAlikeHere_82 (by decide) (fun hc => ?_) (fun hc => ?_)
    · have h := hit_f h hc
      refine R_drop (lv2 := [none, some (rf Ω 7 k1), some (.int x2), some (.int x3), some (.int x4), some (.int x5)]) 0 rfl ?_
      refine R_drop (lv2 := [none, none, some (.int x2), some (.int x3), some (.int x4), some (.int x5)]) 1 rfl ?_
      refine R_drop (lv2 := [none, none, none, some (.int x3), some (.int x4), some (.int x5)]) 2 rfl ?_
      refine R_drop (lv2 := [none, none, none, none, some (.int x4), some (.int x5)]) 3 rfl ?_
      refine R_drop (lv2 := [none, none, none, none, some (.int x4), none]) 5 rfl ?_
      exact hE0 x4 σ h
    · have h := hit_t h hc
      refine R_aload_n (i := 0) dX3_areAlikeHere_85 rfl rfl ?_
      refine R_aload_n (i := 1) dX3_areAlikeHere_86 rfl rfl ?_
      refine R_iload_n (i := 2) dX3_areAlikeHere_87 rfl rfl ?_
      refine R_iload (i := 5) dX3_areAlikeHere_88 rfl ?_
      refine R_callVi (ctX7_target l Ω k1 x2 x5 hL1 _ _ (hit_mono (hit_bd h) (fun r5 σ6 h => ?_))) okX7_target mw_752 hL1 (cE_7 Ω k1 _) rfl rfl (Nat.le_of_ble_eq_true rfl) rfl rfl ⟨by decide, by decide⟩ ⟨Nat.zero_le _, Nat.zero_le _⟩ dX3_areAlikeHere_90
      refine R_aload_n (i := 1) dX3_areAlikeHere_93 rfl rfl ?_
      refine R_iload_n (i := 3) dX3_areAlikeHere_94 rfl rfl ?_
      refine R_iload (i := 5) dX3_areAlikeHere_95 rfl ?_
      refine R_callVi (ctX7_target l Ω k1 x3 x5 hL1 _ _ (hit_mono (hit_bd h) (fun r7 σ8 h => ?_))) okX7_target mw_752 hL1 (cE_7 Ω k1 _) rfl rfl (Nat.le_of_ble_eq_true rfl) rfl rfl ⟨by decide, by decide⟩ ⟨Nat.zero_le _, Nat.zero_le _⟩ dX3_areAlikeHere_97
      refine R_callVi (ctX3_setBeside l Ω r5 r7 hL0 _ _ (hit_mono (hit_bd h) (fun r9 σ10 h => ?_))) okX3_setBeside mw_1019 hL0 (cE_3 Ω 0 _) rfl rfl (Nat.le_of_ble_eq_true rfl) rfl rfl ⟨by decide, by decide⟩ ⟨Nat.zero_le _, Nat.zero_le _⟩ dX3_areAlikeHere_100
      refine R_istore (lv2 := [some (rf Ω 3 0), some (rf Ω 7 k1), some (.int x2), some (.int x3), some (.int r9), some (.int x5)]) dX3_areAlikeHere_103 (by decide) rfl rfl ?_
      refine R_iinc (v := x5 + 1) (lv2 := [some (rf Ω 3 0), some (rf Ω 7 k1), some (.int x2), some (.int x3), some (.int r9), some (.int (x5 + 1))]) dX3_areAlikeHere_105 rfl rfl (by decide) rfl rfl ?_
      refine R_goto (tgt := 69) dX3_areAlikeHere_108 (by decide) ?_
      exact hC r9 (x5 + 1) σ10 h
set_option maxRecDepth 100000 in
set_option maxHeartbeats 4000000 in
theorem rlX3_areAlikeHere_L69 {l : Launch} {Ω : rO} (hW : WF Ω) (k1 : Nat) (x2 : Int32) (x3 : Int32) (hL0 : oL Ω 3 0) (hL1 : oL Ω 7 k1) {K : Int32 → rS → Prop} {KE : Int32 → rS → Prop} (hE0 : ∀ (e : Int32) (σ : rS), KE e σ → Run l Ω cX3_areAlikeHere RX3 6 (some .boolean) rmX3_areAlikeHere K 111 [none, none, none, none, some (.int e), none] [] σ) : ∀ (n : Nat) (x4 : Int32) (x5 : Int32) (σ : rS), hit (lp (fun (x : (Int32 × Int32)) σ => fX3_areAlikeHere_L69 k1 x2 x3 x.1 x.2 σ) n (x4, x5) σ) KE → Run l Ω cX3_areAlikeHere RX3 6 (some .boolean) rmX3_areAlikeHere K 69 [some (rf Ω 3 0), some (rf Ω 7 k1), some (.int x2), some (.int x3), some (.int x4), some (.int x5)] [] σ := by
  intro n
  induction n with
  | zero => intro x4 x5 σ h; exact (h : False).elim
  | succ n ih =>
    intro x4 x5 σ h
    exact rsX3_areAlikeHere_L69 hW k1 x2 x3 x4 x5 hL0 hL1 σ (fun x4 x5 σ h => ih x4 x5 σ h) (fun e σ h => hE0 e σ h) (hit_lp h)
set_option maxRecDepth 100000 in
set_option maxHeartbeats 4000000 in
theorem ctX3_areAlikeHere (l : Launch) (Ω : rO) (k1 : Nat) (x2 : Int32) (x3 : Int32) (hL0 : oL Ω 3 0) (hL1 : oL Ω 7 k1) (σ : rS) (K : Int32 → rS → Prop) (h : hit (fX3_areAlikeHere k1 x2 x3 σ) K) : Ct l Ω yX3_areAlikeHere cX3_areAlikeHere 6 (some .boolean) rmX3_areAlikeHere [rf Ω 3 0, rf Ω 7 k1, .int x2, .int x3] σ K := by
  refine Ct.of (own := RX3) (lv := [some (rf Ω 3 0), some (rf Ω 7 k1), some (.int x2), some (.int x3), none, none]) (by decide) rfl (Nat.le_of_ble_eq_true rfl) rfl (fun hW => ?_)
  unfold fX3_areAlikeHere at h
  refine R_aload_n (i := 1) dX3_areAlikeHere_0 rfl rfl ?_
  refine R_iload_n (i := 2) dX3_areAlikeHere_1 rfl rfl ?_
  refine R_callVi (ctX7_isSlot l Ω k1 x2 hL1 _ _ (hit_mono (hit_bd h) (fun r1 σ2 h => ?_))) okX7_isSlot mw_1027 hL1 (cE_7 Ω k1 _) rfl rfl (Nat.le_of_ble_eq_true rfl) rfl rfl ⟨by decide, by decide⟩ ⟨Nat.zero_le _, Nat.zero_le _⟩ dX3_areAlikeHere_2
  refine R_if_eq (tgt := 61) dX3_areAlikeHere_5 (by decide) (fun hc => ?_) (fun hc => ?_)
  · have h := hit_t h hc
    refine R_iconst (v := 0) dX3_areAlikeHere_61 rfl ?_
    exact R_zret dX3_areAlikeHere_62 rfl (Or.inl rfl) h
  · have h := hit_f h hc
    refine R_aload_n (i := 1) dX3_areAlikeHere_8 rfl rfl ?_
    refine R_iload_n (i := 3) dX3_areAlikeHere_9 rfl rfl ?_
    refine R_callVi (ctX7_isSlot l Ω k1 x3 hL1 _ _ (hit_mono (hit_bd h) (fun r3 σ4 h => ?_))) okX7_isSlot mw_1027 hL1 (cE_7 Ω k1 _) rfl rfl (Nat.le_of_ble_eq_true rfl) rfl rfl ⟨by decide, by decide⟩ ⟨Nat.zero_le _, Nat.zero_le _⟩ dX3_areAlikeHere_10
    refine R_if_eq (tgt := 61) dX3_areAlikeHere_13 (by decide) (fun hc => ?_) (fun hc => ?_)
    · have h := hit_t h hc
      refine R_iconst (v := 0) dX3_areAlikeHere_61 rfl ?_
      exact R_zret dX3_areAlikeHere_62 rfl (Or.inl rfl) h
    · have h := hit_f h hc
      refine R_aload_n (i := 1) dX3_areAlikeHere_16 rfl rfl ?_
      refine R_get foX3_110 hL1 (cE_7 Ω k1 _) rfl dX3_areAlikeHere_17 ?_
      refine R_iload_n (i := 2) dX3_areAlikeHere_20 rfl rfl ?_
      obtain ⟨hb, h⟩ := hit_bnd h
      refine R_iald (WF.kid hW 1 hL1 rfl) (cE_46 Ω k1 _) hb dX3_areAlikeHere_21 ?_
      refine R_aload_n (i := 1) dX3_areAlikeHere_22 rfl rfl ?_
      refine R_get foX3_110 hL1 (cE_7 Ω k1 _) rfl dX3_areAlikeHere_23 ?_
      refine R_iload_n (i := 3) dX3_areAlikeHere_26 rfl rfl ?_
      obtain ⟨hb, h⟩ := hit_bnd h
      refine R_iald (WF.kid hW 1 hL1 rfl) (cE_46 Ω k1 _) hb dX3_areAlikeHere_27 ?_
      refine R_icmp_ne (tgt := 61) dX3_areAlikeHere_28 (by decide) (fun hc => ?_) (fun hc => ?_)
      · have h := hit_f h hc
        refine R_iconst (v := 0) dX3_areAlikeHere_61 rfl ?_
        exact R_zret dX3_areAlikeHere_62 rfl (Or.inl rfl) h
      · have h := hit_t h hc
        refine R_aload_n (i := 1) dX3_areAlikeHere_31 rfl rfl ?_
        refine R_get foX3_113 hL1 (cE_7 Ω k1 _) rfl dX3_areAlikeHere_32 ?_
        refine R_iload_n (i := 2) dX3_areAlikeHere_35 rfl rfl ?_
        obtain ⟨hb, h⟩ := hit_bnd h
        refine R_iald (WF.kid hW 3 hL1 rfl) (cE_48 Ω k1 _) hb dX3_areAlikeHere_36 ?_
        refine R_aload_n (i := 1) dX3_areAlikeHere_37 rfl rfl ?_
        refine R_get foX3_113 hL1 (cE_7 Ω k1 _) rfl dX3_areAlikeHere_38 ?_
        refine R_iload_n (i := 3) dX3_areAlikeHere_41 rfl rfl ?_
        obtain ⟨hb, h⟩ := hit_bnd h
        refine R_iald (WF.kid hW 3 hL1 rfl) (cE_48 Ω k1 _) hb dX3_areAlikeHere_42 ?_
        refine R_icmp_ne (tgt := 61) dX3_areAlikeHere_43 (by decide) (fun hc => ?_) (fun hc => ?_)
        · have h := hit_f h hc
          refine R_iconst (v := 0) dX3_areAlikeHere_61 rfl ?_
          exact R_zret dX3_areAlikeHere_62 rfl (Or.inl rfl) h
        · have h := hit_t h hc
          refine R_aload_n (i := 1) dX3_areAlikeHere_46 rfl rfl ?_
          refine R_get foX3_116 hL1 (cE_7 Ω k1 _) rfl dX3_areAlikeHere_47 ?_
          refine R_iload_n (i := 2) dX3_areAlikeHere_50 rfl rfl ?_
          obtain ⟨hb, h⟩ := hit_bnd h
          refine R_iald (WF.kid hW 2 hL1 rfl) (cE_47 Ω k1 _) hb dX3_areAlikeHere_51 ?_
          refine R_aload_n (i := 1) dX3_areAlikeHere_52 rfl rfl ?_
          refine R_get foX3_116 hL1 (cE_7 Ω k1 _) rfl dX3_areAlikeHere_53 ?_
          refine R_iload_n (i := 3) dX3_areAlikeHere_56 rfl rfl ?_
          obtain ⟨hb, h⟩ := hit_bnd h
          refine R_iald (WF.kid hW 2 hL1 rfl) (cE_47 Ω k1 _) hb dX3_areAlikeHere_57 ?_
          refine R_icmp_eq (tgt := 63) dX3_areAlikeHere_58 (by decide) (fun hc => ?_) (fun hc => ?_)
          · have h := hit_t h hc
            refine R_iconst (v := 1) dX3_areAlikeHere_63 rfl ?_
            refine R_istore (lv2 := [some (rf Ω 3 0), some (rf Ω 7 k1), some (.int x2), some (.int x3), some (.int 1), none]) dX3_areAlikeHere_64 (by decide) rfl rfl ?_
            refine R_iconst (v := 0) dX3_areAlikeHere_66 rfl ?_
            refine R_istore (lv2 := [some (rf Ω 3 0), some (rf Ω 7 k1), some (.int x2), some (.int x3), some (.int 1), some (.int 0)]) dX3_areAlikeHere_67 (by decide) rfl rfl ?_
            refine rlX3_areAlikeHere_L69 hW k1 x2 x3 hL0 hL1 ?_ fu 1 0 σ4 (hit_bd h)
            · intro e12 σ11 h
              try dsimp only at h
              refine R_iload (i := 4) dX3_areAlikeHere_111 rfl ?_
              obtain ⟨hz, h⟩ := hit_bz h
              exact R_zret dX3_areAlikeHere_113 rfl hz h
          · have h := hit_f h hc
            refine R_iconst (v := 0) dX3_areAlikeHere_61 rfl ?_
            exact R_zret dX3_areAlikeHere_62 rfl (Or.inl rfl) h
set_option maxRecDepth 100000 in
set_option maxHeartbeats 4000000 in
theorem rsX3_areAlike_L32 {l : Launch} {Ω : rO} (hW : WF Ω) (k1 : Nat) (x4 : Int32) (x5 : Int32) (hL0 : oL Ω 3 0) (hL1 : oL Ω 7 k1) (σ : rS) {K : Int32 → rS → Prop} {K0 : ((Int32 × Int32) ⊕ Int32) → rS → Prop} (hC : ∀ (x4 : Int32) (x5 : Int32) (σ : rS), K0 (.inl (x4, x5)) σ → Run l Ω cX3_areAlike RX3 6 (some .boolean) rmX3_areAlike K 32 [some (rf Ω 3 0), some (rf Ω 7 k1), none, none, some (.int x4), some (.int x5)] [] σ) (hE0 : ∀ (e : Int32) (σ : rS), K0 (.inr e) σ → Run l Ω cX3_areAlike RX3 6 (some .boolean) rmX3_areAlike K 85 [none, none, none, none, some (.int e), none] [] σ) (h : hit (fX3_areAlike_L32 k1 x4 x5 σ) K0) : Run l Ω cX3_areAlike RX3 6 (some .boolean) rmX3_areAlike K 32 [some (rf Ω 3 0), some (rf Ω 7 k1), none, none, some (.int x4), some (.int x5)] [] σ := by
  unfold fX3_areAlike_L32 at h
  refine R_iload (i := 4) dX3_areAlike_32 rfl ?_
  refine R_if_eq (tgt := 85) dX3_areAlike_34 (by decide) (fun hc => ?_) (fun hc => ?_)
  · have h := hit_t h hc
    refine R_drop (lv2 := [none, some (rf Ω 7 k1), none, none, some (.int x4), some (.int x5)]) 0 rfl ?_
    refine R_drop (lv2 := [none, none, none, none, some (.int x4), some (.int x5)]) 1 rfl ?_
    refine R_drop (lv2 := [none, none, none, none, some (.int x4), none]) 5 rfl ?_
    exact hE0 x4 σ h
  · have h := hit_f h hc
    refine R_iload (i := 5) dX3_areAlike_37 rfl ?_
    refine R_aload_n (i := 0) dX3_areAlike_39 rfl rfl ?_
    refine R_get foX3_39 hL0 (cE_3 Ω 0 _) rfl dX3_areAlike_40 ?_
    refine R_icmp_ge (tgt := 85) dX3_areAlike_43 (by decide) (fun hc => ?_) (fun hc => ?_)
    · have h := hit_f h hc
      refine R_drop (lv2 := [none, some (rf Ω 7 k1), none, none, some (.int x4), some (.int x5)]) 0 rfl ?_
      refine R_drop (lv2 := [none, none, none, none, some (.int x4), some (.int x5)]) 1 rfl ?_
      refine R_drop (lv2 := [none, none, none, none, some (.int x4), none]) 5 rfl ?_
      exact hE0 x4 σ h
    · have h := hit_t h hc
      refine R_iload (i := 5) dX3_areAlike_46 rfl ?_
      refine R_bipush (v := 80) dX3_areAlike_48 rfl ?_
      refine R_icmp_ge (tgt := 85) dX3_areAlike_50 (by decide) (fun hc => ?_) (fun hc => ?_)
      · have h := hit_f h hc
        refine R_drop (lv2 := [none, some (rf Ω 7 k1), none, none, some (.int x4), some (.int x5)]) 0 rfl ?_
        refine R_drop (lv2 := [none, none, none, none, some (.int x4), some (.int x5)]) 1 rfl ?_
        refine R_drop (lv2 := [none, none, none, none, some (.int x4), none]) 5 rfl ?_
        exact hE0 x4 σ h
      · have h := hit_t h hc
        refine R_aload_n (i := 0) dX3_areAlike_53 rfl rfl ?_
        refine R_aload_n (i := 1) dX3_areAlike_54 rfl rfl ?_
        refine R_aload_n (i := 0) dX3_areAlike_55 rfl rfl ?_
        refine R_get foX3_15 hL0 (cE_3 Ω 0 _) rfl dX3_areAlike_56 ?_
        refine R_iload (i := 5) dX3_areAlike_59 rfl ?_
        obtain ⟨hb, h⟩ := hit_bnd h
        refine R_iald (WF.kid hW 1 hL0 rfl) (cE_31 Ω 0 _) hb dX3_areAlike_61 ?_
        refine R_aload_n (i := 0) dX3_areAlike_62 rfl rfl ?_
        refine R_get foX3_27 hL0 (cE_3 Ω 0 _) rfl dX3_areAlike_63 ?_
        refine R_aload_n (i := 0) dX3_areAlike_66 rfl rfl ?_
        refine R_get foX3_15 hL0 (cE_3 Ω 0 _) rfl dX3_areAlike_67 ?_
        refine R_iload (i := 5) dX3_areAlike_70 rfl ?_
        obtain ⟨hb, h⟩ := hit_bnd h
        refine R_iald (WF.kid hW 1 hL0 rfl) (cE_31 Ω 0 _) hb dX3_areAlike_72 ?_
        obtain ⟨hb, h⟩ := hit_bnd h
        refine R_iald (WF.kid hW 5 hL0 rfl) (cE_35 Ω 0 _) hb dX3_areAlike_73 ?_
        refine R_callVi (ctX3_areAlikeHere l Ω k1 (σ 31 0 (ix x5)) (σ 35 0 (ix (σ 31 0 (ix x5)))) hL0 hL1 _ _ (hit_mono (hit_bd h) (fun r8 σ9 h => ?_))) okX3_areAlikeHere mw_1023 hL0 (cE_3 Ω 0 _) rfl rfl (Nat.le_of_ble_eq_true rfl) rfl rfl ⟨by decide, by decide⟩ ⟨Nat.zero_le _, Nat.zero_le _⟩ dX3_areAlike_74
        refine R_istore (lv2 := [some (rf Ω 3 0), some (rf Ω 7 k1), none, none, some (.int r8), some (.int x5)]) dX3_areAlike_77 (by decide) rfl rfl ?_
        refine R_iinc (v := x5 + 1) (lv2 := [some (rf Ω 3 0), some (rf Ω 7 k1), none, none, some (.int r8), some (.int (x5 + 1))]) dX3_areAlike_79 rfl rfl (by decide) rfl rfl ?_
        refine R_goto (tgt := 32) dX3_areAlike_82 (by decide) ?_
        exact hC r8 (x5 + 1) σ9 h
set_option maxRecDepth 100000 in
set_option maxHeartbeats 4000000 in
theorem rlX3_areAlike_L32 {l : Launch} {Ω : rO} (hW : WF Ω) (k1 : Nat) (hL0 : oL Ω 3 0) (hL1 : oL Ω 7 k1) {K : Int32 → rS → Prop} {KE : Int32 → rS → Prop} (hE0 : ∀ (e : Int32) (σ : rS), KE e σ → Run l Ω cX3_areAlike RX3 6 (some .boolean) rmX3_areAlike K 85 [none, none, none, none, some (.int e), none] [] σ) : ∀ (n : Nat) (x4 : Int32) (x5 : Int32) (σ : rS), hit (lp (fun (x : (Int32 × Int32)) σ => fX3_areAlike_L32 k1 x.1 x.2 σ) n (x4, x5) σ) KE → Run l Ω cX3_areAlike RX3 6 (some .boolean) rmX3_areAlike K 32 [some (rf Ω 3 0), some (rf Ω 7 k1), none, none, some (.int x4), some (.int x5)] [] σ := by
  intro n
  induction n with
  | zero => intro x4 x5 σ h; exact (h : False).elim
  | succ n ih =>
    intro x4 x5 σ h
    exact rsX3_areAlike_L32 hW k1 x4 x5 hL0 hL1 σ (fun x4 x5 σ h => ih x4 x5 σ h) (fun e σ h => hE0 e σ h) (hit_lp h)
set_option maxRecDepth 100000 in
set_option maxHeartbeats 4000000 in
theorem ctX3_areAlike (l : Launch) (Ω : rO) (k1 : Nat) (x2 : Int32) (x3 : Int32) (hL0 : oL Ω 3 0) (hL1 : oL Ω 7 k1) (σ : rS) (K : Int32 → rS → Prop) (h : hit (fX3_areAlike k1 x2 x3 σ) K) : Ct l Ω yX3_areAlike cX3_areAlike 6 (some .boolean) rmX3_areAlike [rf Ω 3 0, rf Ω 7 k1, .int x2, .int x3] σ K := by
  refine Ct.of (own := RX3) (lv := [some (rf Ω 3 0), some (rf Ω 7 k1), some (.int x2), some (.int x3), none, none]) (by decide) rfl (Nat.le_of_ble_eq_true rfl) rfl (fun hW => ?_)
  unfold fX3_areAlike at h
  refine R_aload_n (i := 0) dX3_areAlike_0 rfl rfl ?_
  refine R_get foX3_27 hL0 (cE_3 Ω 0 _) rfl dX3_areAlike_1 ?_
  refine R_iconst (v := (-1)) dX3_areAlike_4 rfl ?_
  refine R_callSv (ctJ7_fill_53178 l Ω 35 0 80 (-1) (WF.kid hW 5 hL0 rfl) (cE_35 Ω 0) _ _ (hit_mono (hit_bd h) (fun r1 σ2 h => ?_))) okJ7_fill_53178 mw_740 rfl rfl (Nat.le_of_ble_eq_true rfl) rfl rfl ⟨by decide, by decide⟩ ⟨Nat.zero_le _, Nat.zero_le _⟩ dX3_areAlike_5
  refine R_aload_n (i := 0) dX3_areAlike_8 rfl rfl ?_
  refine R_get foX3_30 hL0 (cE_3 Ω 0 _) rfl dX3_areAlike_9 ?_
  refine R_iconst (v := (-1)) dX3_areAlike_12 rfl ?_
  refine R_callSv (ctJ7_fill_53178 l Ω 36 0 80 (-1) (WF.kid hW 6 hL0 rfl) (cE_36 Ω 0) _ _ (hit_mono (hit_bd h) (fun r3 σ4 h => ?_))) okJ7_fill_53178 mw_740 rfl rfl (Nat.le_of_ble_eq_true rfl) rfl rfl ⟨by decide, by decide⟩ ⟨Nat.zero_le _, Nat.zero_le _⟩ dX3_areAlike_13
  refine R_aload_n (i := 0) dX3_areAlike_16 rfl rfl ?_
  refine R_iconst (v := 0) dX3_areAlike_17 rfl ?_
  refine R_put poX3_39 hL0 (cE_3 Ω 0 _) (cP_3_7 Ω 0 _ _) (Nat.le_of_ble_eq_true rfl) dX3_areAlike_18 ?_
  refine R_st h (fun σ5 h => ?_)
  refine R_aload_n (i := 0) dX3_areAlike_21 rfl rfl ?_
  refine R_iload_n (i := 2) dX3_areAlike_22 rfl rfl ?_
  refine R_iload_n (i := 3) dX3_areAlike_23 rfl rfl ?_
  refine R_callVi (ctX3_setBeside l Ω x2 x3 hL0 _ _ (hit_mono (hit_bd h) (fun r6 σ7 h => ?_))) okX3_setBeside mw_1019 hL0 (cE_3 Ω 0 _) rfl rfl (Nat.le_of_ble_eq_true rfl) rfl rfl ⟨by decide, by decide⟩ ⟨Nat.zero_le _, Nat.zero_le _⟩ dX3_areAlike_24
  refine R_istore (lv2 := [some (rf Ω 3 0), some (rf Ω 7 k1), some (.int x2), some (.int x3), some (.int r6), none]) dX3_areAlike_27 (by decide) rfl rfl ?_
  refine R_iconst (v := 0) dX3_areAlike_29 rfl ?_
  refine R_istore (lv2 := [some (rf Ω 3 0), some (rf Ω 7 k1), some (.int x2), some (.int x3), some (.int r6), some (.int 0)]) dX3_areAlike_30 (by decide) rfl rfl ?_
  refine R_drop (lv2 := [some (rf Ω 3 0), some (rf Ω 7 k1), none, some (.int x3), some (.int r6), some (.int 0)]) 2 rfl ?_
  refine R_drop (lv2 := [some (rf Ω 3 0), some (rf Ω 7 k1), none, none, some (.int r6), some (.int 0)]) 3 rfl ?_
  refine rlX3_areAlike_L32 hW k1 hL0 hL1 ?_ fu r6 0 σ7 (hit_bd h)
  · intro e11 σ10 h
    try dsimp only at h
    refine R_iload (i := 4) dX3_areAlike_85 rfl ?_
    obtain ⟨hz, h⟩ := hit_bz h
    exact R_zret dX3_areAlike_87 rfl hz h
