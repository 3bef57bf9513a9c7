set_option maxRecDepth 100000 in
set_option maxHeartbeats 4000000 in
theorem rnX10_round_j166L66 {l : Launch} {Ω : rO} (hW : WF Ω) (x1 : Int32) (x3 : Int32) (x4 : Int32) (x5 : Int32) (hL0 : oL Ω 10 0) (σ : rS) {K : Int32 → rS → Prop} {K0 : ((Int32 × Int32) ⊕ Int32) → rS → Prop} (hC : ∀ (x3 : Int32) (x5 : Int32) (σ : rS), K0 (.inl (x3, x5)) σ → Run l Ω cX10_round RX10 6 (some .int) rmX10_round K 66 [some (rf Ω 10 0), some (.int x1), none, some (.int x3), some (.int x4), some (.int x5)] [] σ) (hE0 : ∀ (e : Int32) (σ : rS), K0 (.inr e) σ → Run l Ω cX10_round RX10 6 (some .int) rmX10_round K 172 [some (rf Ω 10 0), some (.int x1), none, some (.int e), some (.int x4), none] [] σ) (h : hit (fX10_round_j166L66 x1 x3 x4 x5 σ) K0) : Run l Ω cX10_round RX10 6 (some .int) rmX10_round K 166 [some (rf Ω 10 0), some (.int x1), none, some (.int x3), some (.int x4), some (.int x5)] [] σ := by
  unfold fX10_round_j166L66 at h
  refine R_iinc (v := x5 + 1) (lv2 := [some (rf Ω 10 0), some (.int x1), none, some (.int x3), some (.int x4), some (.int (x5 + 1))]) dX10_round_166 rfl rfl (by decide) rfl rfl ?_
  refine R_goto (tgt := 66) dX10_round_169 (by decide) ?_
  exact hC x3 (x5 + 1) σ h
set_option maxRecDepth 100000 in
set_option maxHeartbeats 4000000 in
theorem rnX10_round_j151L66 {l : Launch} {Ω : rO} (hW : WF Ω) (x1 : Int32) (x4 : Int32) (x5 : Int32) (hL0 : oL Ω 10 0) (σ : rS) {K : Int32 → rS → Prop} {K0 : ((Int32 × Int32) ⊕ Int32) → rS → Prop} (hC : ∀ (x3 : Int32) (x5 : Int32) (σ : rS), K0 (.inl (x3, x5)) σ → Run l Ω cX10_round RX10 6 (some .int) rmX10_round K 66 [some (rf Ω 10 0), some (.int x1), none, some (.int x3), some (.int x4), some (.int x5)] [] σ) (hE0 : ∀ (e : Int32) (σ : rS), K0 (.inr e) σ → Run l Ω cX10_round RX10 6 (some .int) rmX10_round K 172 [some (rf Ω 10 0), some (.int x1), none, some (.int e), some (.int x4), none] [] σ) (h : hit (fX10_round_j151L66 x1 x4 x5 σ) K0) : Run l Ω cX10_round RX10 6 (some .int) rmX10_round K 151 [some (rf Ω 10 0), some (.int x1), none, none, some (.int x4), some (.int x5)] [] σ := by
  unfold fX10_round_j151L66 at h
  refine R_aload_n (i := 0) dX10_round_151 rfl rfl ?_
  refine R_get foX10_64 hL0 (cE_10 Ω 0 _) rfl dX10_round_152 ?_
  refine R_aload_n (i := 0) dX10_round_155 rfl rfl ?_
  refine R_get foX10_49 hL0 (cE_10 Ω 0 _) rfl dX10_round_156 ?_
  refine R_iload (i := 4) dX10_round_159 rfl ?_
  obtain ⟨hb, h⟩ := hit_bnd h
  refine R_iald (WF.kid hW 12 hL0 rfl) (cE_69 Ω 0 _) hb dX10_round_161 ?_
  obtain ⟨hb, h⟩ := hit_bnd h
  refine R_iald (WF.kid hW 17 hL0 rfl) (cE_73 Ω 0 _) hb dX10_round_162 ?_
  refine R_iconst (v := 1) dX10_round_163 rfl ?_
  refine R_iadd dX10_round_164 ?_
  refine R_topi h (fun y15 h => ?_)
  refine R_istore_n (lv2 := [some (rf Ω 10 0), some (.int x1), none, some (.int y15), some (.int x4), some (.int x5)]) dX10_round_165 rfl (by decide) rfl rfl ?_
  exact rnX10_round_j166L66 hW x1 y15 x4 x5 hL0 σ hC hE0 h
set_option maxRecDepth 100000 in
set_option maxHeartbeats 4000000 in
theorem rsX10_round_L66 {l : Launch} {Ω : rO} (hW : WF Ω) (x1 : Int32) (x4 : Int32) (x3 : Int32) (x5 : Int32) (hL0 : oL Ω 10 0) (σ : rS) {K : Int32 → rS → Prop} {K0 : ((Int32 × Int32) ⊕ Int32) → rS → Prop} (hC : ∀ (x3 : Int32) (x5 : Int32) (σ : rS), K0 (.inl (x3, x5)) σ → Run l Ω cX10_round RX10 6 (some .int) rmX10_round K 66 [some (rf Ω 10 0), some (.int x1), none, some (.int x3), some (.int x4), some (.int x5)] [] σ) (hE0 : ∀ (e : Int32) (σ : rS), K0 (.inr e) σ → Run l Ω cX10_round RX10 6 (some .int) rmX10_round K 172 [some (rf Ω 10 0), some (.int x1), none, some (.int e), some (.int x4), none] [] σ) (h : hit (fX10_round_L66 x1 x4 x3 x5 σ) K0) : Run l Ω cX10_round RX10 6 (some .int) rmX10_round K 66 [some (rf Ω 10 0), some (.int x1), none, some (.int x3), some (.int x4), some (.int x5)] [] σ := by
  unfold fX10_round_L66 at h
  refine R_iload (i := 5) dX10_round_66 rfl ?_
  refine R_aload_n (i := 0) dX10_round_68 rfl rfl ?_
  refine R_get foX10_29 hL0 (cE_10 Ω 0 _) rfl dX10_round_69 ?_
  refine R_aload_n (i := 0) dX10_round_72 rfl rfl ?_
  refine R_get foX10_49 hL0 (cE_10 Ω 0 _) rfl dX10_round_73 ?_
  refine R_iload (i := 4) dX10_round_76 rfl ?_
  obtain ⟨hb, h⟩ := hit_bnd h
  refine R_iald (WF.kid hW 12 hL0 rfl) (cE_69 Ω 0 _) hb dX10_round_78 ?_
  refine R_iconst (v := 2) dX10_round_79 rfl ?_
  refine R_callSi (ctX10_of l Ω 0 (σ 69 0 (ix x4)) 2 (WF.kid hW 6 hL0 rfl) _ _ (hit_mono (hit_bd h) (fun r9 σ10 h => ?_))) okX10_of mw_1435 rfl rfl (Nat.le_of_ble_eq_true rfl) rfl rfl ⟨by decide, by decide⟩ ⟨Nat.zero_le _, Nat.zero_le _⟩ dX10_round_80
  refine R_icmp_ge (tgt := 172) dX10_round_83 (by decide) (fun hc => ?_) (fun hc => ?_)
  · have h := hit_f h hc
    refine R_drop (lv2 := [some (rf Ω 10 0), some (.int x1), none, some (.int x3), some (.int x4), none]) 5 rfl ?_
    exact hE0 x3 σ10 h
  · have h := hit_t h hc
    refine R_aload_n (i := 0) dX10_round_86 rfl rfl ?_
    refine R_get foX10_29 hL0 (cE_10 Ω 0 _) rfl dX10_round_87 ?_
    refine R_aload_n (i := 0) dX10_round_90 rfl rfl ?_
    refine R_get foX10_49 hL0 (cE_10 Ω 0 _) rfl dX10_round_91 ?_
    refine R_iload (i := 4) dX10_round_94 rfl ?_
    obtain ⟨hb, h⟩ := hit_bnd h
    refine R_iald (WF.kid hW 12 hL0 rfl) (cE_69 Ω 0 _) hb dX10_round_96 ?_
    refine R_iload (i := 5) dX10_round_97 rfl ?_
    refine R_callSi (ctX10_isWeak l Ω 0 (σ10 69 0 (ix x4)) x5 (WF.kid hW 6 hL0 rfl) _ _ (hit_mono (hit_bd h) (fun r11 σ12 h => ?_))) okX10_isWeak mw_1478 rfl rfl (Nat.le_of_ble_eq_true rfl) rfl rfl ⟨by decide, by decide⟩ ⟨Nat.zero_le _, Nat.zero_le _⟩ dX10_round_99
    refine R_if_ne (tgt := 166) dX10_round_102 (by decide) (fun hc => ?_) (fun hc => ?_)
    · have h := hit_f h hc
      exact rnX10_round_j166L66 hW x1 x3 x4 x5 hL0 σ12 hC hE0 h
    · have h := hit_t h hc
      refine R_aload_n (i := 0) dX10_round_105 rfl rfl ?_
      refine R_get foX10_29 hL0 (cE_10 Ω 0 _) rfl dX10_round_106 ?_
      refine R_aload_n (i := 0) dX10_round_109 rfl rfl ?_
      refine R_get foX10_49 hL0 (cE_10 Ω 0 _) rfl dX10_round_110 ?_
      refine R_iload (i := 4) dX10_round_113 rfl ?_
      obtain ⟨hb, h⟩ := hit_bnd h
      refine R_iald (WF.kid hW 12 hL0 rfl) (cE_69 Ω 0 _) hb dX10_round_115 ?_
      refine R_bipush (v := 7) dX10_round_116 rfl ?_
      refine R_iload (i := 5) dX10_round_118 rfl ?_
      refine R_iadd dX10_round_120 ?_
      refine R_callSi (ctX10_of l Ω 0 (σ12 69 0 (ix x4)) (7 + x5) (WF.kid hW 6 hL0 rfl) _ _ (hit_mono (hit_bd h) (fun r13 σ14 h => ?_))) okX10_of mw_1435 rfl rfl (Nat.le_of_ble_eq_true rfl) rfl rfl ⟨by decide, by decide⟩ ⟨Nat.zero_le _, Nat.zero_le _⟩ dX10_round_121
      refine R_iload_n (i := 1) dX10_round_124 rfl rfl ?_
      refine R_icmp_ne (tgt := 166) dX10_round_125 (by decide) (fun hc => ?_) (fun hc => ?_)
      · have h := hit_f h hc
        exact rnX10_round_j166L66 hW x1 x3 x4 x5 hL0 σ14 hC hE0 h
      · have h := hit_t h hc
        refine R_iload_n (i := 3) dX10_round_128 rfl rfl ?_
        refine R_iconst (v := (-1)) dX10_round_129 rfl ?_
        refine R_icmp_eq (tgt := 151) dX10_round_130 (by decide) (fun hc => ?_) (fun hc => ?_)
        · have h := hit_t h hc
          refine R_drop (lv2 := [some (rf Ω 10 0), some (.int x1), none, none, some (.int x4), some (.int x5)]) 3 rfl ?_
          exact rnX10_round_j151L66 hW x1 x4 x5 hL0 σ14 hC hE0 h
        · have h := hit_f h hc
          refine R_aload_n (i := 0) dX10_round_133 rfl rfl ?_
          refine R_get foX10_64 hL0 (cE_10 Ω 0 _) rfl dX10_round_134 ?_
          refine R_aload_n (i := 0) dX10_round_137 rfl rfl ?_
          refine R_get foX10_49 hL0 (cE_10 Ω 0 _) rfl dX10_round_138 ?_
          refine R_iload (i := 4) dX10_round_141 rfl ?_
          obtain ⟨hb, h⟩ := hit_bnd h
          refine R_iald (WF.kid hW 12 hL0 rfl) (cE_69 Ω 0 _) hb dX10_round_143 ?_
          obtain ⟨hb, h⟩ := hit_bnd h
          refine R_iald (WF.kid hW 17 hL0 rfl) (cE_73 Ω 0 _) hb dX10_round_144 ?_
          refine R_iconst (v := 1) dX10_round_145 rfl ?_
          refine R_iadd dX10_round_146 ?_
          refine R_iload_n (i := 3) dX10_round_147 rfl rfl ?_
          refine R_icmp_ge (tgt := 166) dX10_round_148 (by decide) (fun hc => ?_) (fun hc => ?_)
          · have h := hit_f h hc
            exact rnX10_round_j166L66 hW x1 x3 x4 x5 hL0 σ14 hC hE0 h
          · have h := hit_t h hc
            refine R_drop (lv2 := [some (rf Ω 10 0), some (.int x1), none, none, some (.int x4), some (.int x5)]) 3 rfl ?_
            exact rnX10_round_j151L66 hW x1 x4 x5 hL0 σ14 hC hE0 h
set_option maxRecDepth 100000 in
set_option maxHeartbeats 4000000 in
theorem rlX10_round_L66 {l : Launch} {Ω : rO} (hW : WF Ω) (x1 : Int32) (x4 : Int32) (hL0 : oL Ω 10 0) {K : Int32 → rS → Prop} {KE : Int32 → rS → Prop} (hE0 : ∀ (e : Int32) (σ : rS), KE e σ → Run l Ω cX10_round RX10 6 (some .int) rmX10_round K 172 [some (rf Ω 10 0), some (.int x1), none, some (.int e), some (.int x4), none] [] σ) : ∀ (n : Nat) (x3 : Int32) (x5 : Int32) (σ : rS), hit (lp (fun (x : (Int32 × Int32)) σ => fX10_round_L66 x1 x4 x.1 x.2 σ) n (x3, x5) σ) KE → Run l Ω cX10_round RX10 6 (some .int) rmX10_round K 66 [some (rf Ω 10 0), some (.int x1), none, some (.int x3), some (.int x4), some (.int x5)] [] σ := by
  intro n
  induction n with
  | zero => intro x3 x5 σ h; exact (h : False).elim
  | succ n ih =>
    intro x3 x5 σ h
    exact rsX10_round_L66 hW x1 x4 x3 x5 hL0 σ (fun x3 x5 σ h => ih x3 x5 σ h) (fun e σ h => hE0 e σ h) (hit_lp h)
set_option maxRecDepth 100000 in
set_option maxHeartbeats 4000000 in
theorem rsX10_round_L54 {l : Launch} {Ω : rO} (hW : WF Ω) (x1 : Int32) (x3 : Int32) (x4 : Int32) (hL0 : oL Ω 10 0) (σ : rS) {K : Int32 → rS → Prop} {K0 : ((Int32 × Int32) ⊕ Int32) → rS → Prop} (hC : ∀ (x3 : Int32) (x4 : Int32) (σ : rS), K0 (.inl (x3, x4)) σ → Run l Ω cX10_round RX10 6 (some .int) rmX10_round K 54 [some (rf Ω 10 0), some (.int x1), none, some (.int x3), some (.int x4), none] [] σ) (hE0 : ∀ (e : Int32) (σ : rS), K0 (.inr e) σ → Run l Ω cX10_round RX10 6 (some .int) rmX10_round K 178 [none, none, none, some (.int e), none, none] [] σ) (h : hit (fX10_round_L54 x1 x3 x4 σ) K0) : Run l Ω cX10_round RX10 6 (some .int) rmX10_round K 54 [some (rf Ω 10 0), some (.int x1), none, some (.int x3), some (.int x4), none] [] σ := by
  unfold fX10_round_L54 at h
  refine R_iload (i := 4) dX10_round_54 rfl ?_
  refine R_aload_n (i := 0) dX10_round_56 rfl rfl ?_
  refine R_get foX10_195 hL0 (cE_10 Ω 0 _) rfl dX10_round_57 ?_
  refine R_icmp_ge (tgt := 178) dX10_round_60 (by decide) (fun hc => ?_) (fun hc => ?_)
  · have h := hit_f h hc
    refine R_drop (lv2 := [none, some (.int x1), none, some (.int x3), some (.int x4), none]) 0 rfl ?_
    refine R_drop (lv2 := [none, none, none, some (.int x3), some (.int x4), none]) 1 rfl ?_
    refine R_drop (lv2 := [none, none, none, some (.int x3), none, none]) 4 rfl ?_
    exact hE0 x3 σ h
  · have h := hit_t h hc
    refine R_iconst (v := 0) dX10_round_63 rfl ?_
    refine R_istore (lv2 := [some (rf Ω 10 0), some (.int x1), none, some (.int x3), some (.int x4), some (.int 0)]) dX10_round_64 (by decide) rfl rfl ?_
    refine rlX10_round_L66 hW x1 x4 hL0 ?_ fu x3 0 σ (hit_bd h)
    · intro e17 σ16 h
      try dsimp only at h
      refine R_iinc (v := x4 + 1) (lv2 := [some (rf Ω 10 0), some (.int x1), none, some (.int e17), some (.int (x4 + 1)), none]) dX10_round_172 rfl rfl (by decide) rfl rfl ?_
      refine R_goto (tgt := 54) dX10_round_175 (by decide) ?_
      exact hC e17 (x4 + 1) σ16 h
set_option maxRecDepth 100000 in
set_option maxHeartbeats 4000000 in
theorem rlX10_round_L54 {l : Launch} {Ω : rO} (hW : WF Ω) (x1 : Int32) (hL0 : oL Ω 10 0) {K : Int32 → rS → Prop} {KE : Int32 → rS → Prop} (hE0 : ∀ (e : Int32) (σ : rS), KE e σ → Run l Ω cX10_round RX10 6 (some .int) rmX10_round K 178 [none, none, none, some (.int e), none, none] [] σ) : ∀ (n : Nat) (x3 : Int32) (x4 : Int32) (σ : rS), hit (lp (fun (x : (Int32 × Int32)) σ => fX10_round_L54 x1 x.1 x.2 σ) n (x3, x4) σ) KE → Run l Ω cX10_round RX10 6 (some .int) rmX10_round K 54 [some (rf Ω 10 0), some (.int x1), none, some (.int x3), some (.int x4), none] [] σ := by
  intro n
  induction n with
  | zero => intro x3 x4 σ h; exact (h : False).elim
  | succ n ih =>
    intro x3 x4 σ h
    exact rsX10_round_L54 hW x1 x3 x4 hL0 σ (fun x3 x4 σ h => ih x3 x4 σ h) (fun e σ h => hE0 e σ h) (hit_lp h)
set_option maxRecDepth 100000 in
set_option maxHeartbeats 4000000 in
theorem rnX10_round_j21 {l : Launch} {Ω : rO} (hW : WF Ω) (x1 : Int32) (z0 : Int32) (hL0 : oL Ω 10 0) (σ : rS) {K : Int32 → rS → Prop}  (h : hit (fX10_round_j21 x1 z0 σ) K) : Run l Ω cX10_round RX10 6 (some .int) rmX10_round K 21 [some (rf Ω 10 0), some (.int x1), none, none, none, none] [.int z0] σ := by
  unfold fX10_round_j21 at h
  refine R_istore_n (lv2 := [some (rf Ω 10 0), some (.int x1), some (.int z0), none, none, none]) dX10_round_21 rfl (by decide) rfl rfl ?_
  refine R_iload_n (i := 2) dX10_round_22 rfl rfl ?_
  refine R_iconst (v := (-1)) dX10_round_23 rfl ?_
  refine R_icmp_ne (tgt := 29) dX10_round_24 (by decide) (fun hc => ?_) (fun hc => ?_)
  · have h := hit_f h hc
    refine R_aload_n (i := 0) dX10_round_29 rfl rfl ?_
    refine R_callVv (ctX10_begins l Ω hL0 _ _ (hit_mono (hit_bd h) (fun r2 σ3 h => ?_))) okX10_begins mw_1456 hL0 (cE_10 Ω 0 _) rfl rfl (Nat.le_of_ble_eq_true rfl) rfl rfl ⟨by decide, by decide⟩ ⟨Nat.zero_le _, Nat.zero_le _⟩ dX10_round_30
    refine R_aload_n (i := 0) dX10_round_33 rfl rfl ?_
    refine R_get foX10_64 hL0 (cE_10 Ω 0 _) rfl dX10_round_34 ?_
    refine R_iload_n (i := 2) dX10_round_37 rfl rfl ?_
    refine R_iconst (v := 0) dX10_round_38 rfl ?_
    obtain ⟨hb, h⟩ := hit_bnd h
    refine R_iast (WF.kid hW 17 hL0 rfl) (cE_73 Ω 0) hb dX10_round_39 ?_
    refine R_st h (fun σ4 h => ?_)
    refine R_aload_n (i := 0) dX10_round_40 rfl rfl ?_
    refine R_iload_n (i := 2) dX10_round_41 rfl rfl ?_
    refine R_callVv (ctX10_marks l Ω z0 hL0 _ _ (hit_mono (hit_bd h) (fun r5 σ6 h => ?_))) okX10_marks mw_1474 hL0 (cE_10 Ω 0 _) rfl rfl (Nat.le_of_ble_eq_true rfl) rfl rfl ⟨by decide, by decide⟩ ⟨Nat.zero_le _, Nat.zero_le _⟩ dX10_round_42
    refine R_aload_n (i := 0) dX10_round_45 rfl rfl ?_
    refine R_callVv (ctX10_walksOn l Ω hL0 _ _ (hit_mono (hit_bd h) (fun r7 σ8 h => ?_))) okX10_walksOn mw_1667 hL0 (cE_10 Ω 0 _) rfl rfl (Nat.le_of_ble_eq_true rfl) rfl rfl ⟨by decide, by decide⟩ ⟨Nat.zero_le _, Nat.zero_le _⟩ dX10_round_46
    refine R_iconst (v := (-1)) dX10_round_49 rfl ?_
    refine R_istore_n (lv2 := [some (rf Ω 10 0), some (.int x1), some (.int z0), some (.int (-1)), none, none]) dX10_round_50 rfl (by decide) rfl rfl ?_
    refine R_iconst (v := 0) dX10_round_51 rfl ?_
    refine R_istore (lv2 := [some (rf Ω 10 0), some (.int x1), some (.int z0), some (.int (-1)), some (.int 0), none]) dX10_round_52 (by decide) rfl rfl ?_
    refine R_drop (lv2 := [some (rf Ω 10 0), some (.int x1), none, some (.int (-1)), some (.int 0), none]) 2 rfl ?_
    refine rlX10_round_L54 hW x1 hL0 ?_ fu (-1) 0 σ8 (hit_bd h)
    · intro e19 σ18 h
      try dsimp only at h
      refine R_iload_n (i := 3) dX10_round_178 rfl rfl ?_
      exact R_iret dX10_round_179 rfl h
  · have h := hit_t h hc
    refine R_iconst (v := (-1)) dX10_round_27 rfl ?_
    exact R_iret dX10_round_28 rfl h
set_option maxRecDepth 100000 in
set_option maxHeartbeats 4000000 in
theorem ctX10_round (l : Launch) (Ω : rO) (x1 : Int32) (hL0 : oL Ω 10 0) (σ : rS) (K : Int32 → rS → Prop) (h : hit (fX10_round x1 σ) K) : Ct l Ω yX10_round cX10_round 6 (some .int) rmX10_round [rf Ω 10 0, .int x1] σ K := by
  refine Ct.of (own := RX10) (lv := [some (rf Ω 10 0), some (.int x1), none, none, none, none]) (by decide) rfl (Nat.le_of_ble_eq_true rfl) rfl (fun hW => ?_)
  unfold fX10_round at h
  refine R_aload_n (i := 0) dX10_round_0 rfl rfl ?_
  refine R_iconst (v := 0) dX10_round_1 rfl ?_
  refine R_put poX10_73 hL0 (cE_10 Ω 0 _) (cP_10_0 Ω 0 _ _) (Nat.le_of_ble_eq_true rfl) dX10_round_2 ?_
  refine R_st h (fun σ1 h => ?_)
  refine R_iload_n (i := 1) dX10_round_5 rfl rfl ?_
  refine R_if_le (tgt := 20) dX10_round_6 (by decide) (fun hc => ?_) (fun hc => ?_)
  · have h := hit_f h hc
    refine R_iconst (v := (-1)) dX10_round_20 rfl ?_
    exact rnX10_round_j21 hW x1 (-1) hL0 σ1  h
  · have h := hit_t h hc
    refine R_aload_n (i := 0) dX10_round_9 rfl rfl ?_
    refine R_get foX10_29 hL0 (cE_10 Ω 0 _) rfl dX10_round_10 ?_
    refine R_iload_n (i := 1) dX10_round_13 rfl rfl ?_
    refine R_callSi (ctX10_spotOf_ l Ω 0 x1 (WF.kid hW 6 hL0 rfl) _ _ (hit_mono (hit_bd h) (fun r20 σ21 h => ?_))) okX10_spotOf_ mw_1432 rfl rfl (Nat.le_of_ble_eq_true rfl) rfl rfl ⟨by decide, by decide⟩ ⟨Nat.zero_le _, Nat.zero_le _⟩ dX10_round_14
    refine R_goto (tgt := 21) dX10_round_17 (by decide) ?_
    exact rnX10_round_j21 hW x1 r20 hL0 σ21  h
set_option maxRecDepth 100000 in
set_option maxHeartbeats 4000000 in
theorem ctX10_room (l : Launch) (Ω : rO) (x1 : Int32) (hL0 : oL Ω 10 0) (σ : rS) (K : Int32 → rS → Prop) (h : hit (fX10_room x1 σ) K) : Ct l Ω yX10_room cX10_room 2 (some .int) rmX10_room [rf Ω 10 0, .int x1] σ K := by
  refine Ct.of (own := RX10) (lv := [some (rf Ω 10 0), some (.int x1)]) (by decide) rfl (Nat.le_of_ble_eq_true rfl) rfl (fun hW => ?_)
  unfold fX10_room at h
  refine R_aload_n (i := 0) dX10_room_0 rfl rfl ?_
  refine R_iconst (v := 0) dX10_room_1 rfl ?_
  refine R_put poX10_73 hL0 (cE_10 Ω 0 _) (cP_10_0 Ω 0 _ _) (Nat.le_of_ble_eq_true rfl) dX10_room_2 ?_
  refine R_st h (fun σ1 h => ?_)
  refine R_aload_n (i := 0) dX10_room_5 rfl rfl ?_
  refine R_get foX10_157 hL0 (cE_10 Ω 0 _) rfl dX10_room_6 ?_
  refine R_if_eq (tgt := 46) dX10_room_9 (by decide) (fun hc => ?_) (fun hc => ?_)
  · have h := hit_t h hc
    refine R_iconst (v := (-1)) dX10_room_46 rfl ?_
    exact R_iret dX10_room_47 rfl h
  · have h := hit_f h hc
    refine R_iload_n (i := 1) dX10_room_12 rfl rfl ?_
    refine R_i2l dX10_room_13 ?_
    refine R_lconst (v := 0) dX10_room_14 rfl ?_
    refine R_ldc2 (v := 4) mw_1422 dX10_room_15 ?_
    refine R_callSi (ctX10_isIn l Ω x1.toInt64 0 4 _ _ (hit_mono (hit_bd h) (fun r2 σ3 h => ?_))) okX10_isIn mw_1315 rfl rfl (Nat.le_of_ble_eq_true rfl) rfl rfl ⟨by decide, by decide⟩ ⟨Nat.zero_le _, Nat.zero_le _⟩ dX10_room_18
    refine R_if_eq (tgt := 46) dX10_room_21 (by decide) (fun hc => ?_) (fun hc => ?_)
    · have h := hit_t h hc
      refine R_iconst (v := (-1)) dX10_room_46 rfl ?_
      exact R_iret dX10_room_47 rfl h
    · have h := hit_f h hc
      refine R_aload_n (i := 0) dX10_room_24 rfl rfl ?_
      refine R_get foX10_17 hL0 (cE_10 Ω 0 _) rfl dX10_room_25 ?_
      refine R_iconst (v := 0) dX10_room_28 rfl ?_
      refine R_iald (WF.kid hW 2 hL0 rfl) (cE_62 Ω 0 _) (vin 0 4 rfl) dX10_room_29 ?_
      refine R_aload_n (i := 0) dX10_room_30 rfl rfl ?_
      refine R_get foX10_29 hL0 (cE_10 Ω 0 _) rfl dX10_room_31 ?_
      refine R_iconst (v := 0) dX10_room_34 rfl ?_
      refine R_callSi (ctX10_cellsIn l Ω 0 0 (WF.kid hW 6 hL0 rfl) _ _ (hit_mono (hit_bd h) (fun r4 σ5 h => ?_))) okX10_cellsIn mw_1446 rfl rfl (Nat.le_of_ble_eq_true rfl) rfl rfl ⟨by decide, by decide⟩ ⟨Nat.zero_le _, Nat.zero_le _⟩ dX10_room_35
      refine R_isub dX10_room_38 ?_
      refine R_iconst (v := 3) dX10_room_39 rfl ?_
      refine R_iload_n (i := 1) dX10_room_40 rfl rfl ?_
      refine R_iadd dX10_room_41 ?_
      obtain ⟨hz, h⟩ := hit_bnz h
      refine R_idiv dX10_room_42 hz ?_
      refine R_goto (tgt := 47) dX10_room_43 (by decide) ?_
      exact R_iret dX10_room_47 rfl h
set_option maxRecDepth 100000 in
set_option maxHeartbeats 4000000 in
theorem rnX10_areSet_j10 {l : Launch} {Ω : rO} (hW : WF Ω) (x1 : Int32) (x2 : Int32) (σ : rS) {K : Int32 → rS → Prop}  (h : hit (fX10_areSet_j10 x1 x2 σ) K) : Run l Ω cX10_areSet RX10 3 (some .boolean) rmX10_areSet K 10 [none, some (.int x1), some (.int x2)] [] σ := by
  unfold fX10_areSet_j10 at h
  refine R_iload_n (i := 1) dX10_areSet_10 rfl rfl ?_
  refine R_iload_n (i := 2) dX10_areSet_11 rfl rfl ?_
  refine R_icmp_ne (tgt := 19) dX10_areSet_12 (by decide) (fun hc => ?_) (fun hc => ?_)
  · have h := hit_f h hc
    refine R_iconst (v := 0) dX10_areSet_19 rfl ?_
    exact R_zret dX10_areSet_20 rfl (Or.inl rfl) h
  · have h := hit_t h hc
    refine R_iconst (v := 1) dX10_areSet_15 rfl ?_
    refine R_goto (tgt := 20) dX10_areSet_16 (by decide) ?_
    exact R_zret dX10_areSet_20 rfl (Or.inr rfl) h
set_option maxRecDepth 100000 in
set_option maxHeartbeats 4000000 in
theorem rnX10_areSet_j41 {l : Launch} {Ω : rO} (hW : WF Ω) (x1 : Int32) (x2 : Int32) (hL0 : oL Ω 10 0) (σ : rS) {K : Int32 → rS → Prop}  (h : hit (fX10_areSet_j41 x1 x2 σ) K) : Run l Ω cX10_areSet RX10 3 (some .boolean) rmX10_areSet K 41 [some (rf Ω 10 0), some (.int x1), some (.int x2)] [] σ := by
  unfold fX10_areSet_j41 at h
  refine R_aload_n (i := 0) dX10_areSet_41 rfl rfl ?_
  refine R_get foX10_67 hL0 (cE_10 Ω 0 _) rfl dX10_areSet_42 ?_
  refine R_iload_n (i := 1) dX10_areSet_45 rfl rfl ?_
  obtain ⟨hb, h⟩ := hit_bnd h
  refine R_iald (WF.kid hW 18 hL0 rfl) (cE_74 Ω 0 _) hb dX10_areSet_46 ?_
  refine R_iload_n (i := 2) dX10_areSet_47 rfl rfl ?_
  refine R_icmp_ne (tgt := 65) dX10_areSet_48 (by decide) (fun hc => ?_) (fun hc => ?_)
  · have h := hit_f h hc
    refine R_iconst (v := 0) dX10_areSet_65 rfl ?_
    exact R_zret dX10_areSet_66 rfl (Or.inl rfl) h
  · have h := hit_t h hc
    refine R_aload_n (i := 0) dX10_areSet_51 rfl rfl ?_
    refine R_get foX10_70 hL0 (cE_10 Ω 0 _) rfl dX10_areSet_52 ?_
    refine R_iload_n (i := 2) dX10_areSet_55 rfl rfl ?_
    obtain ⟨hb, h⟩ := hit_bnd h
    refine R_iald (WF.kid hW 19 hL0 rfl) (cE_75 Ω 0 _) hb dX10_areSet_56 ?_
    refine R_iload_n (i := 1) dX10_areSet_57 rfl rfl ?_
    refine R_icmp_ne (tgt := 65) dX10_areSet_58 (by decide) (fun hc => ?_) (fun hc => ?_)
    · have h := hit_f h hc
      refine R_iconst (v := 0) dX10_areSet_65 rfl ?_
      exact R_zret dX10_areSet_66 rfl (Or.inl rfl) h
    · have h := hit_t h hc
      refine R_iconst (v := 1) dX10_areSet_61 rfl ?_
      refine R_goto (tgt := 66) dX10_areSet_62 (by decide) ?_
      exact R_zret dX10_areSet_66 rfl (Or.inr rfl) h
set_option maxRecDepth 100000 in
set_option maxHeartbeats 4000000 in
theorem ctX10_areSet (l : Launch) (Ω : rO) (x1 : Int32) (x2 : Int32) (hL0 : oL Ω 10 0) (σ : rS) (K : Int32 → rS → Prop) (h : hit (fX10_areSet x1 x2 σ) K) : Ct l Ω yX10_areSet cX10_areSet 3 (some .boolean) rmX10_areSet [rf Ω 10 0, .int x1, .int x2] σ K := by
  refine Ct.of (own := RX10) (lv := [some (rf Ω 10 0), some (.int x1), some (.int x2)]) (by decide) rfl (Nat.le_of_ble_eq_true rfl) rfl (fun hW => ?_)
  unfold fX10_areSet at h
  refine R_iload_n (i := 1) dX10_areSet_0 rfl rfl ?_
  refine R_iconst (v := (-1)) dX10_areSet_1 rfl ?_
  refine R_icmp_eq (tgt := 10) dX10_areSet_2 (by decide) (fun hc => ?_) (fun hc => ?_)
  · have h := hit_t h hc
    refine R_drop (lv2 := [none, some (.int x1), some (.int x2)]) 0 rfl ?_
    exact rnX10_areSet_j10 hW x1 x2 σ  h
  · have h := hit_f h hc
    refine R_iload_n (i := 2) dX10_areSet_5 rfl rfl ?_
    refine R_iconst (v := (-1)) dX10_areSet_6 rfl ?_
    refine R_icmp_ne (tgt := 21) dX10_areSet_7 (by decide) (fun hc => ?_) (fun hc => ?_)
    · have h := hit_f h hc
      refine R_aload_n (i := 0) dX10_areSet_21 rfl rfl ?_
      refine R_get foX10_67 hL0 (cE_10 Ω 0 _) rfl dX10_areSet_22 ?_
      refine R_iload_n (i := 1) dX10_areSet_25 rfl rfl ?_
      obtain ⟨hb, h⟩ := hit_bnd h
      refine R_iald (WF.kid hW 18 hL0 rfl) (cE_74 Ω 0 _) hb dX10_areSet_26 ?_
      refine R_iconst (v := (-1)) dX10_areSet_27 rfl ?_
      refine R_icmp_ne (tgt := 41) dX10_areSet_28 (by decide) (fun hc => ?_) (fun hc => ?_)
      · have h := hit_f h hc
        exact rnX10_areSet_j41 hW x1 x2 hL0 σ  h
      · have h := hit_t h hc
        refine R_aload_n (i := 0) dX10_areSet_31 rfl rfl ?_
        refine R_get foX10_70 hL0 (cE_10 Ω 0 _) rfl dX10_areSet_32 ?_
        refine R_iload_n (i := 2) dX10_areSet_35 rfl rfl ?_
        obtain ⟨hb, h⟩ := hit_bnd h
        refine R_iald (WF.kid hW 19 hL0 rfl) (cE_75 Ω 0 _) hb dX10_areSet_36 ?_
        refine R_iconst (v := (-1)) dX10_areSet_37 rfl ?_
        refine R_icmp_eq (tgt := 67) dX10_areSet_38 (by decide) (fun hc => ?_) (fun hc => ?_)
        · have h := hit_t h hc
          refine R_aload_n (i := 0) dX10_areSet_67 rfl rfl ?_
          refine R_get foX10_29 hL0 (cE_10 Ω 0 _) rfl dX10_areSet_68 ?_
          refine R_iload_n (i := 1) dX10_areSet_71 rfl rfl ?_
          refine R_iconst (v := 1) dX10_areSet_72 rfl ?_
          refine R_callSi (ctX10_of l Ω 0 x1 1 (WF.kid hW 6 hL0 rfl) _ _ (hit_mono (hit_bd h) (fun r1 σ2 h => ?_))) okX10_of mw_1435 rfl rfl (Nat.le_of_ble_eq_true rfl) rfl rfl ⟨by decide, by decide⟩ ⟨Nat.zero_le _, Nat.zero_le _⟩ dX10_areSet_73
          refine R_aload_n (i := 0) dX10_areSet_76 rfl rfl ?_
          refine R_get foX10_29 hL0 (cE_10 Ω 0 _) rfl dX10_areSet_77 ?_
          refine R_iload_n (i := 2) dX10_areSet_80 rfl rfl ?_
          refine R_iconst (v := 1) dX10_areSet_81 rfl ?_
          refine R_callSi (ctX10_of l Ω 0 x2 1 (WF.kid hW 6 hL0 rfl) _ _ (hit_mono (hit_bd h) (fun r3 σ4 h => ?_))) okX10_of mw_1435 rfl rfl (Nat.le_of_ble_eq_true rfl) rfl rfl ⟨by decide, by decide⟩ ⟨Nat.zero_le _, Nat.zero_le _⟩ dX10_areSet_82
          refine R_icmp_ne (tgt := 130) dX10_areSet_85 (by decide) (fun hc => ?_) (fun hc => ?_)
          · have h := hit_f h hc
            refine R_iconst (v := 0) dX10_areSet_130 rfl ?_
            exact R_zret dX10_areSet_131 rfl (Or.inl rfl) h
          · have h := hit_t h hc
            refine R_aload_n (i := 0) dX10_areSet_88 rfl rfl ?_
            refine R_get foX10_29 hL0 (cE_10 Ω 0 _) rfl dX10_areSet_89 ?_
            refine R_iload_n (i := 1) dX10_areSet_92 rfl rfl ?_
            refine R_iconst (v := 3) dX10_areSet_93 rfl ?_
            refine R_callSi (ctX10_of l Ω 0 x1 3 (WF.kid hW 6 hL0 rfl) _ _ (hit_mono (hit_bd h) (fun r5 σ6 h => ?_))) okX10_of mw_1435 rfl rfl (Nat.le_of_ble_eq_true rfl) rfl rfl ⟨by decide, by decide⟩ ⟨Nat.zero_le _, Nat.zero_le _⟩ dX10_areSet_94
            refine R_aload_n (i := 0) dX10_areSet_97 rfl rfl ?_
            refine R_get foX10_29 hL0 (cE_10 Ω 0 _) rfl dX10_areSet_98 ?_
            refine R_iload_n (i := 2) dX10_areSet_101 rfl rfl ?_
            refine R_iconst (v := 3) dX10_areSet_102 rfl ?_
            refine R_callSi (ctX10_of l Ω 0 x2 3 (WF.kid hW 6 hL0 rfl) _ _ (hit_mono (hit_bd h) (fun r7 σ8 h => ?_))) okX10_of mw_1435 rfl rfl (Nat.le_of_ble_eq_true rfl) rfl rfl ⟨by decide, by decide⟩ ⟨Nat.zero_le _, Nat.zero_le _⟩ dX10_areSet_103
            refine R_icmp_ne (tgt := 130) dX10_areSet_106 (by decide) (fun hc => ?_) (fun hc => ?_)
            · have h := hit_f h hc
              refine R_iconst (v := 0) dX10_areSet_130 rfl ?_
              exact R_zret dX10_areSet_131 rfl (Or.inl rfl) h
            · have h := hit_t h hc
              refine R_aload_n (i := 0) dX10_areSet_109 rfl rfl ?_
              refine R_get foX10_29 hL0 (cE_10 Ω 0 _) rfl dX10_areSet_110 ?_
              refine R_iload_n (i := 1) dX10_areSet_113 rfl rfl ?_
              refine R_iconst (v := 2) dX10_areSet_114 rfl ?_
              refine R_callSi (ctX10_of l Ω 0 x1 2 (WF.kid hW 6 hL0 rfl) _ _ (hit_mono (hit_bd h) (fun r9 σ10 h => ?_))) okX10_of mw_1435 rfl rfl (Nat.le_of_ble_eq_true rfl) rfl rfl ⟨by decide, by decide⟩ ⟨Nat.zero_le _, Nat.zero_le _⟩ dX10_areSet_115
              refine R_aload_n (i := 0) dX10_areSet_118 rfl rfl ?_
              refine R_get foX10_29 hL0 (cE_10 Ω 0 _) rfl dX10_areSet_119 ?_
              refine R_iload_n (i := 2) dX10_areSet_122 rfl rfl ?_
              refine R_iconst (v := 2) dX10_areSet_123 rfl ?_
              refine R_callSi (ctX10_of l Ω 0 x2 2 (WF.kid hW 6 hL0 rfl) _ _ (hit_mono (hit_bd h) (fun r11 σ12 h => ?_))) okX10_of mw_1435 rfl rfl (Nat.le_of_ble_eq_true rfl) rfl rfl ⟨by decide, by decide⟩ ⟨Nat.zero_le _, Nat.zero_le _⟩ dX10_areSet_124
              refine R_icmp_eq (tgt := 132) dX10_areSet_127 (by decide) (fun hc => ?_) (fun hc => ?_)
              · have h := hit_t h hc
                refine R_aload_n (i := 0) dX10_areSet_132 rfl rfl ?_
                refine R_get foX10_67 hL0 (cE_10 Ω 0 _) rfl dX10_areSet_133 ?_
                refine R_iload_n (i := 1) dX10_areSet_136 rfl rfl ?_
                refine R_iload_n (i := 2) dX10_areSet_137 rfl rfl ?_
                obtain ⟨hb, h⟩ := hit_bnd h
                refine R_iast (WF.kid hW 18 hL0 rfl) (cE_74 Ω 0) hb dX10_areSet_138 ?_
                refine R_st h (fun σ13 h => ?_)
                refine R_aload_n (i := 0) dX10_areSet_139 rfl rfl ?_
                refine R_get foX10_70 hL0 (cE_10 Ω 0 _) rfl dX10_areSet_140 ?_
                refine R_iload_n (i := 2) dX10_areSet_143 rfl rfl ?_
                refine R_iload_n (i := 1) dX10_areSet_144 rfl rfl ?_
                obtain ⟨hb, h⟩ := hit_bnd h
                refine R_iast (WF.kid hW 19 hL0 rfl) (cE_75 Ω 0) hb dX10_areSet_145 ?_
                refine R_st h (fun σ14 h => ?_)
                refine R_aload_n (i := 0) dX10_areSet_146 rfl rfl ?_
                refine R_get foX10_49 hL0 (cE_10 Ω 0 _) rfl dX10_areSet_147 ?_
                refine R_aload_n (i := 0) dX10_areSet_150 rfl rfl ?_
                refine R_get foX10_195 hL0 (cE_10 Ω 0 _) rfl dX10_areSet_151 ?_
                refine R_iload_n (i := 1) dX10_areSet_154 rfl rfl ?_
                obtain ⟨hb, h⟩ := hit_bnd h
                refine R_iast (WF.kid hW 12 hL0 rfl) (cE_69 Ω 0) hb dX10_areSet_155 ?_
                refine R_st h (fun σ15 h => ?_)
                refine R_aload_n (i := 0) dX10_areSet_156 rfl rfl ?_
                refine R_dup dX10_areSet_157 rfl ?_
                refine R_get foX10_195 hL0 (cE_10 Ω 0 _) rfl dX10_areSet_158 ?_
                refine R_iconst (v := 1) dX10_areSet_161 rfl ?_
                refine R_iadd dX10_areSet_162 ?_
                refine R_put poX10_195 hL0 (cE_10 Ω 0 _) (cP_10_22 Ω 0 _ _) (Nat.le_of_ble_eq_true rfl) dX10_areSet_163 ?_
                refine R_st h (fun σ16 h => ?_)
                refine R_iconst (v := 1) dX10_areSet_166 rfl ?_
                exact R_zret dX10_areSet_167 rfl (Or.inr rfl) h
              · have h := hit_f h hc
                refine R_iconst (v := 0) dX10_areSet_130 rfl ?_
                exact R_zret dX10_areSet_131 rfl (Or.inl rfl) h
        · have h := hit_f h hc
          exact rnX10_areSet_j41 hW x1 x2 hL0 σ  h
    · have h := hit_t h hc
      refine R_drop (lv2 := [none, some (.int x1), some (.int x2)]) 0 rfl ?_
      exact rnX10_areSet_j10 hW x1 x2 σ  h
set_option maxRecDepth 100000 in
set_option maxHeartbeats 4000000 in
theorem rsX10_alike_L51 {l : Launch} {Ω : rO} (hW : WF Ω) (x1 : Int32) (x2 : Int32) (x3 : Int32) (hL0 : oL Ω 10 0) (σ : rS) {K : Int32 → rS → Prop} {K0 : (Int32 ⊕ Unit) → rS → Prop} (hC : ∀ (x3 : Int32) (σ : rS), K0 (.inl x3) σ → Run l Ω cX10_alike RX10 5 (some .boolean) rmX10_alike K 51 [some (rf Ω 10 0), some (.int x1), some (.int x2), some (.int x3), none] [] σ) (hE0 : ∀ (e : Unit) (σ : rS), K0 (.inr e) σ → Run l Ω cX10_alike RX10 5 (some .boolean) rmX10_alike K 77 [some (rf Ω 10 0), some (.int x1), some (.int x2), none, none] [] σ) (h : hit (fX10_alike_L51 x1 x2 x3 σ) K0) : Run l Ω cX10_alike RX10 5 (some .boolean) rmX10_alike K 51 [some (rf Ω 10 0), some (.int x1), some (.int x2), some (.int x3), none] [] σ := by
  unfold fX10_alike_L51 at h
  refine R_iload_n (i := 3) dX10_alike_51 rfl rfl ?_
  refine R_bipush (v := 80) dX10_alike_52 rfl ?_
  refine R_icmp_ge (tgt := 77) dX10_alike_54 (by decide) (fun hc => ?_) (fun hc => ?_)
  · have h := hit_f h hc
    refine R_drop (lv2 := [some (rf Ω 10 0), some (.int x1), some (.int x2), none, none]) 3 rfl ?_
    exact hE0 () σ h
  · have h := hit_t h hc
    refine R_aload_n (i := 0) dX10_alike_57 rfl rfl ?_
    refine R_get foX10_67 hL0 (cE_10 Ω 0 _) rfl dX10_alike_58 ?_
    refine R_iload_n (i := 3) dX10_alike_61 rfl rfl ?_
    refine R_iconst (v := (-1)) dX10_alike_62 rfl ?_
    obtain ⟨hb, h⟩ := hit_bnd h
    refine R_iast (WF.kid hW 18 hL0 rfl) (cE_74 Ω 0) hb dX10_alike_63 ?_
    refine R_st h (fun σ6 h => ?_)
    refine R_aload_n (i := 0) dX10_alike_64 rfl rfl ?_
    refine R_get foX10_70 hL0 (cE_10 Ω 0 _) rfl dX10_alike_65 ?_
    refine R_iload_n (i := 3) dX10_alike_68 rfl rfl ?_
    refine R_iconst (v := (-1)) dX10_alike_69 rfl ?_
    obtain ⟨hb, h⟩ := hit_bnd h
    refine R_iast (WF.kid hW 19 hL0 rfl) (cE_75 Ω 0) hb dX10_alike_70 ?_
    refine R_st h (fun σ7 h => ?_)
    refine R_iinc (v := x3 + 1) (lv2 := [some (rf Ω 10 0), some (.int x1), some (.int x2), some (.int (x3 + 1)), none]) dX10_alike_71 rfl rfl (by decide) rfl rfl ?_
    refine R_goto (tgt := 51) dX10_alike_74 (by decide) ?_
    exact hC (x3 + 1) σ7 h
set_option maxRecDepth 100000 in
set_option maxHeartbeats 4000000 in
theorem rlX10_alike_L51 {l : Launch} {Ω : rO} (hW : WF Ω) (x1 : Int32) (x2 : Int32) (hL0 : oL Ω 10 0) {K : Int32 → rS → Prop} {KE : Unit → rS → Prop} (hE0 : ∀ (e : Unit) (σ : rS), KE e σ → Run l Ω cX10_alike RX10 5 (some .boolean) rmX10_alike K 77 [some (rf Ω 10 0), some (.int x1), some (.int x2), none, none] [] σ) : ∀ (n : Nat) (x3 : Int32) (σ : rS), hit (lp (fun (x : Int32) σ => fX10_alike_L51 x1 x2 x σ) n x3 σ) KE → Run l Ω cX10_alike RX10 5 (some .boolean) rmX10_alike K 51 [some (rf Ω 10 0), some (.int x1), some (.int x2), some (.int x3), none] [] σ := by
  intro n
  induction n with
  | zero => intro x3 σ h; exact (h : False).elim
  | succ n ih =>
    intro x3 σ h
    exact rsX10_alike_L51 hW x1 x2 x3 hL0 σ (fun x3 σ h => ih x3 σ h) (fun e σ h => hE0 e σ h) (hit_lp h)
set_option maxRecDepth 100000 in
set_option maxHeartbeats 4000000 in
theorem rsX10_alike_L120 {l : Launch} {Ω : rO} (hW : WF Ω) (x3 : Int32) (x4 : Int32) (hL0 : oL Ω 10 0) (σ : rS) {K : Int32 → rS → Prop} {K0 : (Int32 ⊕ (Unit ⊕ Unit)) → rS → Prop} (hC : ∀ (x4 : Int32) (σ : rS), K0 (.inl x4) σ → Run l Ω cX10_alike RX10 5 (some .boolean) rmX10_alike K 120 [some (rf Ω 10 0), none, none, some (.int x3), some (.int x4)] [] σ) (hE0 : ∀ (e : Unit) (σ : rS), K0 (.inr (.inl e)) σ → Run l Ω cX10_alike RX10 5 (some .boolean) rmX10_alike K 201 [none, none, none, none, none] [] σ) (hE1 : ∀ (e : Unit) (σ : rS), K0 (.inr (.inr e)) σ → Run l Ω cX10_alike RX10 5 (some .boolean) rmX10_alike K 209 [some (rf Ω 10 0), none, none, some (.int x3), none] [] σ) (h : hit (fX10_alike_L120 x3 x4 σ) K0) : Run l Ω cX10_alike RX10 5 (some .boolean) rmX10_alike K 120 [some (rf Ω 10 0), none, none, some (.int x3), some (.int x4)] [] σ := by
  unfold fX10_alike_L120 at h
  refine R_iload (i := 4) dX10_alike_120 rfl ?_
  refine R_aload_n (i := 0) dX10_alike_122 rfl rfl ?_
  refine R_get foX10_29 hL0 (cE_10 Ω 0 _) rfl dX10_alike_123 ?_
  refine R_aload_n (i := 0) dX10_alike_126 rfl rfl ?_
  refine R_get foX10_49 hL0 (cE_10 Ω 0 _) rfl dX10_alike_127 ?_
  refine R_iload_n (i := 3) dX10_alike_130 rfl rfl ?_
  obtain ⟨hb, h⟩ := hit_bnd h
  refine R_iald (WF.kid hW 12 hL0 rfl) (cE_69 Ω 0 _) hb dX10_alike_131 ?_
  refine R_iconst (v := 2) dX10_alike_132 rfl ?_
  refine R_callSi (ctX10_of l Ω 0 (σ 69 0 (ix x3)) 2 (WF.kid hW 6 hL0 rfl) _ _ (hit_mono (hit_bd h) (fun r17 σ18 h => ?_))) okX10_of mw_1435 rfl rfl (Nat.le_of_ble_eq_true rfl) rfl rfl ⟨by decide, by decide⟩ ⟨Nat.zero_le _, Nat.zero_le _⟩ dX10_alike_133
  refine R_icmp_ge (tgt := 209) dX10_alike_136 (by decide) (fun hc => ?_) (fun hc => ?_)
  · have h := hit_f h hc
    refine R_drop (lv2 := [some (rf Ω 10 0), none, none, some (.int x3), none]) 4 rfl ?_
    exact hE1 () σ18 h
  · have h := hit_t h hc
    refine R_aload_n (i := 0) dX10_alike_139 rfl rfl ?_
    refine R_aload_n (i := 0) dX10_alike_140 rfl rfl ?_
    refine R_get foX10_29 hL0 (cE_10 Ω 0 _) rfl dX10_alike_141 ?_
    refine R_aload_n (i := 0) dX10_alike_144 rfl rfl ?_
    refine R_get foX10_29 hL0 (cE_10 Ω 0 _) rfl dX10_alike_145 ?_
    refine R_aload_n (i := 0) dX10_alike_148 rfl rfl ?_
    refine R_get foX10_49 hL0 (cE_10 Ω 0 _) rfl dX10_alike_149 ?_
    refine R_iload_n (i := 3) dX10_alike_152 rfl rfl ?_
    obtain ⟨hb, h⟩ := hit_bnd h
    refine R_iald (WF.kid hW 12 hL0 rfl) (cE_69 Ω 0 _) hb dX10_alike_153 ?_
    refine R_bipush (v := 7) dX10_alike_154 rfl ?_
    refine R_iload (i := 4) dX10_alike_156 rfl ?_
    refine R_iadd dX10_alike_158 ?_
    refine R_callSi (ctX10_of l Ω 0 (σ18 69 0 (ix x3)) (7 + x4) (WF.kid hW 6 hL0 rfl) _ _ (hit_mono (hit_bd h) (fun r19 σ20 h => ?_))) okX10_of mw_1435 rfl rfl (Nat.le_of_ble_eq_true rfl) rfl rfl ⟨by decide, by decide⟩ ⟨Nat.zero_le _, Nat.zero_le _⟩ dX10_alike_159
    refine R_callSi (ctX10_spotOf_ l Ω 0 r19 (WF.kid hW 6 hL0 rfl) _ _ (hit_mono (hit_bd h) (fun r21 σ22 h => ?_))) okX10_spotOf_ mw_1432 rfl rfl (Nat.le_of_ble_eq_true rfl) rfl rfl ⟨by decide, by decide⟩ ⟨Nat.zero_le _, Nat.zero_le _⟩ dX10_alike_162
    refine R_aload_n (i := 0) dX10_alike_165 rfl rfl ?_
    refine R_get foX10_29 hL0 (cE_10 Ω 0 _) rfl dX10_alike_166 ?_
    refine R_aload_n (i := 0) dX10_alike_169 rfl rfl ?_
    refine R_get foX10_29 hL0 (cE_10 Ω 0 _) rfl dX10_alike_170 ?_
    refine R_aload_n (i := 0) dX10_alike_173 rfl rfl ?_
    refine R_get foX10_67 hL0 (cE_10 Ω 0 _) rfl dX10_alike_174 ?_
    refine R_aload_n (i := 0) dX10_alike_177 rfl rfl ?_
    refine R_get foX10_49 hL0 (cE_10 Ω 0 _) rfl dX10_alike_178 ?_
    refine R_iload_n (i := 3) dX10_alike_181 rfl rfl ?_
    obtain ⟨hb, h⟩ := hit_bnd h
    refine R_iald (WF.kid hW 12 hL0 rfl) (cE_69 Ω 0 _) hb dX10_alike_182 ?_
    obtain ⟨hb, h⟩ := hit_bnd h
    refine R_iald (WF.kid hW 18 hL0 rfl) (cE_74 Ω 0 _) hb dX10_alike_183 ?_
    refine R_bipush (v := 7) dX10_alike_184 rfl ?_
    refine R_iload (i := 4) dX10_alike_186 rfl ?_
    refine R_iadd dX10_alike_188 ?_
    refine R_callSi (ctX10_of l Ω 0 (σ22 74 0 (ix (σ22 69 0 (ix x3)))) (7 + x4) (WF.kid hW 6 hL0 rfl) _ _ (hit_mono (hit_bd h) (fun r23 σ24 h => ?_))) okX10_of mw_1435 rfl rfl (Nat.le_of_ble_eq_true rfl) rfl rfl ⟨by decide, by decide⟩ ⟨Nat.zero_le _, Nat.zero_le _⟩ dX10_alike_189
    refine R_callSi (ctX10_spotOf_ l Ω 0 r23 (WF.kid hW 6 hL0 rfl) _ _ (hit_mono (hit_bd h) (fun r25 σ26 h => ?_))) okX10_spotOf_ mw_1432 rfl rfl (Nat.le_of_ble_eq_true rfl) rfl rfl ⟨by decide, by decide⟩ ⟨Nat.zero_le _, Nat.zero_le _⟩ dX10_alike_192
    refine R_callVi (ctX10_areSet l Ω r21 r25 hL0 _ _ (hit_mono (hit_bd h) (fun r27 σ28 h => ?_))) okX10_areSet mw_1695 hL0 (cE_10 Ω 0 _) rfl rfl (Nat.le_of_ble_eq_true rfl) rfl rfl ⟨by decide, by decide⟩ ⟨Nat.zero_le _, Nat.zero_le _⟩ dX10_alike_195
    refine R_if_ne (tgt := 203) dX10_alike_198 (by decide) (fun hc => ?_) (fun hc => ?_)
    · have h := hit_f h hc
      refine R_iinc (v := x4 + 1) (lv2 := [some (rf Ω 10 0), none, none, some (.int x3), some (.int (x4 + 1))]) dX10_alike_203 rfl rfl (by decide) rfl rfl ?_
      refine R_goto (tgt := 120) dX10_alike_206 (by decide) ?_
      exact hC (x4 + 1) σ28 h
    · have h := hit_t h hc
      refine R_drop (lv2 := [none, none, none, some (.int x3), some (.int x4)]) 0 rfl ?_
      refine R_drop (lv2 := [none, none, none, none, some (.int x4)]) 3 rfl ?_
      refine R_drop (lv2 := [none, none, none, none, none]) 4 rfl ?_
      exact hE0 () σ28 h
set_option maxRecDepth 100000 in
set_option maxHeartbeats 4000000 in
theorem rlX10_alike_L120 {l : Launch} {Ω : rO} (hW : WF Ω) (x3 : Int32) (hL0 : oL Ω 10 0) {K : Int32 → rS → Prop} {KE : (Unit ⊕ Unit) → rS → Prop} (hE0 : ∀ (e : Unit) (σ : rS), KE (.inl e) σ → Run l Ω cX10_alike RX10 5 (some .boolean) rmX10_alike K 201 [none, none, none, none, none] [] σ) (hE1 : ∀ (e : Unit) (σ : rS), KE (.inr e) σ → Run l Ω cX10_alike RX10 5 (some .boolean) rmX10_alike K 209 [some (rf Ω 10 0), none, none, some (.int x3), none] [] σ) : ∀ (n : Nat) (x4 : Int32) (σ : rS), hit (lp (fun (x : Int32) σ => fX10_alike_L120 x3 x σ) n x4 σ) KE → Run l Ω cX10_alike RX10 5 (some .boolean) rmX10_alike K 120 [some (rf Ω 10 0), none, none, some (.int x3), some (.int x4)] [] σ := by
  intro n
  induction n with
  | zero => intro x4 σ h; exact (h : False).elim
  | succ n ih =>
    intro x4 σ h
    exact rsX10_alike_L120 hW x3 x4 hL0 σ (fun x4 σ h => ih x4 σ h) (fun e σ h => hE0 e σ h) (fun e σ h => hE1 e σ h) (hit_lp h)
set_option maxRecDepth 100000 in
set_option maxHeartbeats 4000000 in
theorem rsX10_alike_L109 {l : Launch} {Ω : rO} (hW : WF Ω) (x3 : Int32) (hL0 : oL Ω 10 0) (σ : rS) {K : Int32 → rS → Prop} {K0 : (Int32 ⊕ (Unit ⊕ Unit)) → rS → Prop} (hC : ∀ (x3 : Int32) (σ : rS), K0 (.inl x3) σ → Run l Ω cX10_alike RX10 5 (some .boolean) rmX10_alike K 109 [some (rf Ω 10 0), none, none, some (.int x3), none] [] σ) (hE0 : ∀ (e : Unit) (σ : rS), K0 (.inr (.inl e)) σ → Run l Ω cX10_alike RX10 5 (some .boolean) rmX10_alike K 201 [none, none, none, none, none] [] σ) (hE1 : ∀ (e : Unit) (σ : rS), K0 (.inr (.inr e)) σ → Run l Ω cX10_alike RX10 5 (some .boolean) rmX10_alike K 215 [none, none, none, none, none] [] σ) (h : hit (fX10_alike_L109 x3 σ) K0) : Run l Ω cX10_alike RX10 5 (some .boolean) rmX10_alike K 109 [some (rf Ω 10 0), none, none, some (.int x3), none] [] σ := by
  unfold fX10_alike_L109 at h
  refine R_iload_n (i := 3) dX10_alike_109 rfl rfl ?_
  refine R_aload_n (i := 0) dX10_alike_110 rfl rfl ?_
  refine R_get foX10_195 hL0 (cE_10 Ω 0 _) rfl dX10_alike_111 ?_
  refine R_icmp_ge (tgt := 215) dX10_alike_114 (by decide) (fun hc => ?_) (fun hc => ?_)
  · have h := hit_f h hc
    refine R_drop (lv2 := [none, none, none, some (.int x3), none]) 0 rfl ?_
    refine R_drop (lv2 := [none, none, none, none, none]) 3 rfl ?_
    exact hE1 () σ h
  · have h := hit_t h hc
    refine R_iconst (v := 0) dX10_alike_117 rfl ?_
    refine R_istore (lv2 := [some (rf Ω 10 0), none, none, some (.int x3), some (.int 0)]) dX10_alike_118 (by decide) rfl rfl ?_
    refine rlX10_alike_L120 hW x3 hL0 ?_ ?_ fu 0 σ (hit_bd h)
    · intro e30 σ29 h
      try dsimp only at h
      exact hE0 () σ29 h
    · intro e31 σ29 h
      try dsimp only at h
      refine R_iinc (v := x3 + 1) (lv2 := [some (rf Ω 10 0), none, none, some (.int (x3 + 1)), none]) dX10_alike_209 rfl rfl (by decide) rfl rfl ?_
      refine R_goto (tgt := 109) dX10_alike_212 (by decide) ?_
      exact hC (x3 + 1) σ29 h
set_option maxRecDepth 100000 in
set_option maxHeartbeats 4000000 in
theorem rlX10_alike_L109 {l : Launch} {Ω : rO} (hW : WF Ω) (hL0 : oL Ω 10 0) {K : Int32 → rS → Prop} {KE : (Unit ⊕ Unit) → rS → Prop} (hE0 : ∀ (e : Unit) (σ : rS), KE (.inl e) σ → Run l Ω cX10_alike RX10 5 (some .boolean) rmX10_alike K 201 [none, none, none, none, none] [] σ) (hE1 : ∀ (e : Unit) (σ : rS), KE (.inr e) σ → Run l Ω cX10_alike RX10 5 (some .boolean) rmX10_alike K 215 [none, none, none, none, none] [] σ) : ∀ (n : Nat) (x3 : Int32) (σ : rS), hit (lp (fun (x : Int32) σ => fX10_alike_L109 x σ) n x3 σ) KE → Run l Ω cX10_alike RX10 5 (some .boolean) rmX10_alike K 109 [some (rf Ω 10 0), none, none, some (.int x3), none] [] σ := by
  intro n
  induction n with
  | zero => intro x3 σ h; exact (h : False).elim
  | succ n ih =>
    intro x3 σ h
    exact rsX10_alike_L109 hW x3 hL0 σ (fun x3 σ h => ih x3 σ h) (fun e σ h => hE0 e σ h) (fun e σ h => hE1 e σ h) (hit_lp h)
set_option maxRecDepth 100000 in
set_option maxHeartbeats 4000000 in
theorem ctX10_alike (l : Launch) (Ω : rO) (x1 : Int32) (x2 : Int32) (hL0 : oL Ω 10 0) (σ : rS) (K : Int32 → rS → Prop) (h : hit (fX10_alike x1 x2 σ) K) : Ct l Ω yX10_alike cX10_alike 5 (some .boolean) rmX10_alike [rf Ω 10 0, .int x1, .int x2] σ K := by
  refine Ct.of (own := RX10) (lv := [some (rf Ω 10 0), some (.int x1), some (.int x2), none, none]) (by decide) rfl (Nat.le_of_ble_eq_true rfl) rfl (fun hW => ?_)
  unfold fX10_alike at h
  refine R_aload_n (i := 0) dX10_alike_0 rfl rfl ?_
  refine R_iconst (v := 0) dX10_alike_1 rfl ?_
  refine R_put poX10_73 hL0 (cE_10 Ω 0 _) (cP_10_0 Ω 0 _ _) (Nat.le_of_ble_eq_true rfl) dX10_alike_2 ?_
  refine R_st h (fun σ1 h => ?_)
  refine R_aload_n (i := 0) dX10_alike_5 rfl rfl ?_
  refine R_iload_n (i := 1) dX10_alike_6 rfl rfl ?_
  refine R_callVi (ctX10_isRoot l Ω x1 hL0 _ _ (hit_mono (hit_bd h) (fun r2 σ3 h => ?_))) okX10_isRoot mw_1417 hL0 (cE_10 Ω 0 _) rfl rfl (Nat.le_of_ble_eq_true rfl) rfl rfl ⟨by decide, by decide⟩ ⟨Nat.zero_le _, Nat.zero_le _⟩ dX10_alike_7
  refine R_if_eq (tgt := 47) dX10_alike_10 (by decide) (fun hc => ?_) (fun hc => ?_)
  · have h := hit_t h hc
    refine R_iconst (v := 0) dX10_alike_47 rfl ?_
    exact R_zret dX10_alike_48 rfl (Or.inl rfl) h
  · have h := hit_f h hc
    refine R_aload_n (i := 0) dX10_alike_13 rfl rfl ?_
    refine R_iload_n (i := 2) dX10_alike_14 rfl rfl ?_
    refine R_callVi (ctX10_isRoot l Ω x2 hL0 _ _ (hit_mono (hit_bd h) (fun r4 σ5 h => ?_))) okX10_isRoot mw_1417 hL0 (cE_10 Ω 0 _) rfl rfl (Nat.le_of_ble_eq_true rfl) rfl rfl ⟨by decide, by decide⟩ ⟨Nat.zero_le _, Nat.zero_le _⟩ dX10_alike_15
    refine R_if_eq (tgt := 47) dX10_alike_18 (by decide) (fun hc => ?_) (fun hc => ?_)
    · have h := hit_t h hc
      refine R_iconst (v := 0) dX10_alike_47 rfl ?_
      exact R_zret dX10_alike_48 rfl (Or.inl rfl) h
    · have h := hit_f h hc
      refine R_aload_n (i := 0) dX10_alike_21 rfl rfl ?_
      refine R_get foX10_29 hL0 (cE_10 Ω 0 _) rfl dX10_alike_22 ?_
      refine R_sipush (v := 881) dX10_alike_25 rfl ?_
      refine R_iload_n (i := 1) dX10_alike_28 rfl rfl ?_
      refine R_iadd dX10_alike_29 ?_
      obtain ⟨hb, h⟩ := hit_bnd h
      refine R_iald (WF.kid hW 6 hL0 rfl) (cE_66 Ω 0 _) hb dX10_alike_30 ?_
      refine R_if_eq (tgt := 47) dX10_alike_31 (by decide) (fun hc => ?_) (fun hc => ?_)
      · have h := hit_t h hc
        refine R_iconst (v := 0) dX10_alike_47 rfl ?_
        exact R_zret dX10_alike_48 rfl (Or.inl rfl) h
      · have h := hit_f h hc
        refine R_aload_n (i := 0) dX10_alike_34 rfl rfl ?_
        refine R_get foX10_29 hL0 (cE_10 Ω 0 _) rfl dX10_alike_35 ?_
        refine R_sipush (v := 881) dX10_alike_38 rfl ?_
        refine R_iload_n (i := 2) dX10_alike_41 rfl rfl ?_
        refine R_iadd dX10_alike_42 ?_
        obtain ⟨hb, h⟩ := hit_bnd h
        refine R_iald (WF.kid hW 6 hL0 rfl) (cE_66 Ω 0 _) hb dX10_alike_43 ?_
        refine R_if_ne (tgt := 49) dX10_alike_44 (by decide) (fun hc => ?_) (fun hc => ?_)
        · have h := hit_f h hc
          refine R_iconst (v := 0) dX10_alike_49 rfl ?_
          refine R_istore_n (lv2 := [some (rf Ω 10 0), some (.int x1), some (.int x2), some (.int 0), none]) dX10_alike_50 rfl (by decide) rfl rfl ?_
          refine rlX10_alike_L51 hW x1 x2 hL0 ?_ fu 0 σ5 (hit_bd h)
          · intro e9 σ8 h
            try dsimp only at h
            refine R_aload_n (i := 0) dX10_alike_77 rfl rfl ?_
            refine R_iconst (v := 0) dX10_alike_78 rfl ?_
            refine R_put poX10_195 hL0 (cE_10 Ω 0 _) (cP_10_22 Ω 0 _ _) (Nat.le_of_ble_eq_true rfl) dX10_alike_79 ?_
            refine R_st h (fun σ10 h => ?_)
            refine R_aload_n (i := 0) dX10_alike_82 rfl rfl ?_
            refine R_aload_n (i := 0) dX10_alike_83 rfl rfl ?_
            refine R_get foX10_29 hL0 (cE_10 Ω 0 _) rfl dX10_alike_84 ?_
            refine R_iload_n (i := 1) dX10_alike_87 rfl rfl ?_
            refine R_callSi (ctX10_rootSpot l Ω 0 x1 (WF.kid hW 6 hL0 rfl) _ _ (hit_mono (hit_bd h) (fun r11 σ12 h => ?_))) okX10_rootSpot mw_1429 rfl rfl (Nat.le_of_ble_eq_true rfl) rfl rfl ⟨by decide, by decide⟩ ⟨Nat.zero_le _, Nat.zero_le _⟩ dX10_alike_88
            refine R_aload_n (i := 0) dX10_alike_91 rfl rfl ?_
            refine R_get foX10_29 hL0 (cE_10 Ω 0 _) rfl dX10_alike_92 ?_
            refine R_iload_n (i := 2) dX10_alike_95 rfl rfl ?_
            refine R_callSi (ctX10_rootSpot l Ω 0 x2 (WF.kid hW 6 hL0 rfl) _ _ (hit_mono (hit_bd h) (fun r13 σ14 h => ?_))) okX10_rootSpot mw_1429 rfl rfl (Nat.le_of_ble_eq_true rfl) rfl rfl ⟨by decide, by decide⟩ ⟨Nat.zero_le _, Nat.zero_le _⟩ dX10_alike_96
            refine R_callVi (ctX10_areSet l Ω r11 r13 hL0 _ _ (hit_mono (hit_bd h) (fun r15 σ16 h => ?_))) okX10_areSet mw_1695 hL0 (cE_10 Ω 0 _) rfl rfl (Nat.le_of_ble_eq_true rfl) rfl rfl ⟨by decide, by decide⟩ ⟨Nat.zero_le _, Nat.zero_le _⟩ dX10_alike_99
            refine R_if_ne (tgt := 107) dX10_alike_102 (by decide) (fun hc => ?_) (fun hc => ?_)
            · have h := hit_f h hc
              refine R_iconst (v := 0) dX10_alike_107 rfl ?_
              refine R_istore_n (lv2 := [some (rf Ω 10 0), some (.int x1), some (.int x2), some (.int 0), none]) dX10_alike_108 rfl (by decide) rfl rfl ?_
              refine R_drop (lv2 := [some (rf Ω 10 0), none, some (.int x2), some (.int 0), none]) 1 rfl ?_
              refine R_drop (lv2 := [some (rf Ω 10 0), none, none, some (.int 0), none]) 2 rfl ?_
              refine rlX10_alike_L109 hW hL0 ?_ ?_ fu 0 σ16 (hit_bd h)
              · intro e33 σ32 h
                try dsimp only at h
                refine R_iconst (v := 0) dX10_alike_201 rfl ?_
                exact R_zret dX10_alike_202 rfl (Or.inl rfl) h
              · intro e34 σ32 h
                try dsimp only at h
                refine R_iconst (v := 1) dX10_alike_215 rfl ?_
                exact R_zret dX10_alike_216 rfl (Or.inr rfl) h
            · have h := hit_t h hc
              refine R_iconst (v := 0) dX10_alike_105 rfl ?_
              exact R_zret dX10_alike_106 rfl (Or.inl rfl) h
        · have h := hit_t h hc
          refine R_iconst (v := 0) dX10_alike_47 rfl ?_
          exact R_zret dX10_alike_48 rfl (Or.inl rfl) h
set_option maxRecDepth 100000 in
set_option maxHeartbeats 4000000 in
theorem rsX10_until_L39 {l : Launch} {Ω : rO} (hW : WF Ω) (x1 : Int32) (x2 : Int32) (hL0 : oL Ω 10 0) (σ : rS) {K : Int32 → rS → Prop} {K0 : (Int32 ⊕ (Unit ⊕ (Int32 ⊕ (Unit ⊕ Unit)))) → rS → Prop} (hC : ∀ (x2 : Int32) (σ : rS), K0 (.inl x2) σ → Run l Ω cX10_until RX10 4 (some .int) rmX10_until K 39 [some (rf Ω 10 0), some (.int x1), some (.int x2), none] [] σ) (hE0 : ∀ (e : Unit) (σ : rS), K0 (.inr (.inl e)) σ → Run l Ω cX10_until RX10 4 (some .int) rmX10_until K 59 [none, none, none, none] [] σ) (hE1 : ∀ (e : Int32) (σ : rS), K0 (.inr (.inr (.inl e))) σ → Run l Ω cX10_until RX10 4 (some .int) rmX10_until K 72 [none, none, some (.int e), none] [] σ) (hE2 : ∀ (e : Unit) (σ : rS), K0 (.inr (.inr (.inr (.inl e)))) σ → Run l Ω cX10_until RX10 4 (some .int) rmX10_until K 91 [none, none, none, none] [] σ) (hE3 : ∀ (e : Unit) (σ : rS), K0 (.inr (.inr (.inr (.inr e)))) σ → Run l Ω cX10_until RX10 4 (some .int) rmX10_until K 99 [none, none, none, none] [] σ) (h : hit (fX10_until_L39 x1 x2 σ) K0) : Run l Ω cX10_until RX10 4 (some .int) rmX10_until K 39 [some (rf Ω 10 0), some (.int x1), some (.int x2), none] [] σ := by
  unfold fX10_until_L39 at h
  refine R_iload_n (i := 2) dX10_until_39 rfl rfl ?_
  refine R_bipush (v := 9) dX10_until_40 rfl ?_
  refine R_icmp_gt (tgt := 99) dX10_until_42 (by decide) (fun hc => ?_) (fun hc => ?_)
  · have h := hit_t h hc
    refine R_drop (lv2 := [none, some (.int x1), some (.int x2), none]) 0 rfl ?_
    refine R_drop (lv2 := [none, none, some (.int x2), none]) 1 rfl ?_
    refine R_drop (lv2 := [none, none, none, none]) 2 rfl ?_
    exact hE3 () σ h
  · have h := hit_f h hc
    refine R_aload_n (i := 0) dX10_until_45 rfl rfl ?_
    refine R_get foX10_32 hL0 (cE_10 Ω 0 _) rfl dX10_until_46 ?_
    refine R_iload_n (i := 1) dX10_until_49 rfl rfl ?_
    refine R_callSi (ctX10_spotOf_ l Ω 1 x1 (WF.kid hW 7 hL0 rfl) _ _ (hit_mono (hit_bd h) (fun r6 σ7 h => ?_))) okX10_spotOf_ mw_1432 rfl rfl (Nat.le_of_ble_eq_true rfl) rfl rfl ⟨by decide, by decide⟩ ⟨Nat.zero_le _, Nat.zero_le _⟩ dX10_until_50
    refine R_istore_n (lv2 := [some (rf Ω 10 0), some (.int x1), some (.int x2), some (.int r6)]) dX10_until_53 rfl (by decide) rfl rfl ?_
    refine R_iload_n (i := 3) dX10_until_54 rfl rfl ?_
    refine R_iconst (v := (-1)) dX10_until_55 rfl ?_
    refine R_icmp_ne (tgt := 61) dX10_until_56 (by decide) (fun hc => ?_) (fun hc => ?_)
    · have h := hit_f h hc
      refine R_aload_n (i := 0) dX10_until_61 rfl rfl ?_
      refine R_get foX10_32 hL0 (cE_10 Ω 0 _) rfl dX10_until_62 ?_
      refine R_iload_n (i := 3) dX10_until_65 rfl rfl ?_
      refine R_callSi (ctX10_isOld l Ω 1 r6 (WF.kid hW 7 hL0 rfl) _ _ (hit_mono (hit_bd h) (fun r8 σ9 h => ?_))) okX10_isOld mw_1468 rfl rfl (Nat.le_of_ble_eq_true rfl) rfl rfl ⟨by decide, by decide⟩ ⟨Nat.zero_le _, Nat.zero_le _⟩ dX10_until_66
      refine R_if_eq (tgt := 74) dX10_until_69 (by decide) (fun hc => ?_) (fun hc => ?_)
      · have h := hit_t h hc
        refine R_iload_n (i := 2) dX10_until_74 rfl rfl ?_
        refine R_bipush (v := 9) dX10_until_75 rfl ?_
        refine R_icmp_eq (tgt := 91) dX10_until_77 (by decide) (fun hc => ?_) (fun hc => ?_)
        · have h := hit_t h hc
          refine R_drop (lv2 := [none, some (.int x1), some (.int x2), some (.int r6)]) 0 rfl ?_
          refine R_drop (lv2 := [none, none, some (.int x2), some (.int r6)]) 1 rfl ?_
          refine R_drop (lv2 := [none, none, none, some (.int r6)]) 2 rfl ?_
          refine R_drop (lv2 := [none, none, none, none]) 3 rfl ?_
          exact hE2 () σ9 h
        · have h := hit_f h hc
          refine R_aload_n (i := 0) dX10_until_80 rfl rfl ?_
          refine R_aload_n (i := 0) dX10_until_81 rfl rfl ?_
          refine R_get foX10_32 hL0 (cE_10 Ω 0 _) rfl dX10_until_82 ?_
          refine R_callVi (ctX10_minors l Ω 1 hL0 (WF.kid hW 7 hL0 rfl) _ _ (hit_mono (hit_bd h) (fun r10 σ11 h => ?_))) okX10_minors mw_1452 hL0 (cE_10 Ω 0 _) rfl rfl (Nat.le_of_ble_eq_true rfl) rfl rfl ⟨by decide, by decide⟩ ⟨Nat.zero_le _, Nat.zero_le _⟩ dX10_until_85
          refine R_if_ne (tgt := 93) dX10_until_88 (by decide) (fun hc => ?_) (fun hc => ?_)
          · have h := hit_f h hc
            refine R_iinc (v := x2 + 1) (lv2 := [some (rf Ω 10 0), some (.int x1), some (.int (x2 + 1)), some (.int r6)]) dX10_until_93 rfl rfl (by decide) rfl rfl ?_
            refine R_goto (tgt := 39) dX10_until_96 (by decide) ?_
            refine R_drop (lv2 := [some (rf Ω 10 0), some (.int x1), some (.int (x2 + 1)), none]) 3 rfl ?_
            exact hC (x2 + 1) σ11 h
          · have h := hit_t h hc
            refine R_drop (lv2 := [none, some (.int x1), some (.int x2), some (.int r6)]) 0 rfl ?_
            refine R_drop (lv2 := [none, none, some (.int x2), some (.int r6)]) 1 rfl ?_
            refine R_drop (lv2 := [none, none, none, some (.int r6)]) 2 rfl ?_
            refine R_drop (lv2 := [none, none, none, none]) 3 rfl ?_
            exact hE2 () σ11 h
      · have h := hit_f h hc
        refine R_drop (lv2 := [none, some (.int x1), some (.int x2), some (.int r6)]) 0 rfl ?_
        refine R_drop (lv2 := [none, none, some (.int x2), some (.int r6)]) 1 rfl ?_
        refine R_drop (lv2 := [none, none, some (.int x2), none]) 3 rfl ?_
        exact hE1 x2 σ9 h
    · have h := hit_t h hc
      refine R_drop (lv2 := [none, some (.int x1), some (.int x2), some (.int r6)]) 0 rfl ?_
      refine R_drop (lv2 := [none, none, some (.int x2), some (.int r6)]) 1 rfl ?_
      refine R_drop (lv2 := [none, none, none, some (.int r6)]) 2 rfl ?_
      refine R_drop (lv2 := [none, none, none, none]) 3 rfl ?_
      exact hE0 () σ7 h
set_option maxRecDepth 100000 in
set_option maxHeartbeats 4000000 in
theorem rlX10_until_L39 {l : Launch} {Ω : rO} (hW : WF Ω) (x1 : Int32) (hL0 : oL Ω 10 0) {K : Int32 → rS → Prop} {KE : (Unit ⊕ (Int32 ⊕ (Unit ⊕ Unit))) → rS → Prop} (hE0 : ∀ (e : Unit) (σ : rS), KE (.inl e) σ → Run l Ω cX10_until RX10 4 (some .int) rmX10_until K 59 [none, none, none, none] [] σ) (hE1 : ∀ (e : Int32) (σ : rS), KE (.inr (.inl e)) σ → Run l Ω cX10_until RX10 4 (some .int) rmX10_until K 72 [none, none, some (.int e), none] [] σ) (hE2 : ∀ (e : Unit) (σ : rS), KE (.inr (.inr (.inl e))) σ → Run l Ω cX10_until RX10 4 (some .int) rmX10_until K 91 [none, none, none, none] [] σ) (hE3 : ∀ (e : Unit) (σ : rS), KE (.inr (.inr (.inr e))) σ → Run l Ω cX10_until RX10 4 (some .int) rmX10_until K 99 [none, none, none, none] [] σ) : ∀ (n : Nat) (x2 : Int32) (σ : rS), hit (lp (fun (x : Int32) σ => fX10_until_L39 x1 x σ) n x2 σ) KE → Run l Ω cX10_until RX10 4 (some .int) rmX10_until K 39 [some (rf Ω 10 0), some (.int x1), some (.int x2), none] [] σ := by
  intro n
  induction n with
  | zero => intro x2 σ h; exact (h : False).elim
  | succ n ih =>
    intro x2 σ h
    exact rsX10_until_L39 hW x1 x2 hL0 σ (fun x2 σ h => ih x2 σ h) (fun e σ h => hE0 e σ h) (fun e σ h => hE1 e σ h) (fun e σ h => hE2 e σ h) (fun e σ h => hE3 e σ h) (hit_lp h)
set_option maxRecDepth 100000 in
set_option maxHeartbeats 4000000 in
theorem ctX10_until (l : Launch) (Ω : rO) (x1 : Int32) (hL0 : oL Ω 10 0) (σ : rS) (K : Int32 → rS → Prop) (h : hit (fX10_until x1 σ) K) : Ct l Ω yX10_until cX10_until 4 (some .int) rmX10_until [rf Ω 10 0, .int x1] σ K := by
  refine Ct.of (own := RX10) (lv := [some (rf Ω 10 0), some (.int x1), none, none]) (by decide) rfl (Nat.le_of_ble_eq_true rfl) rfl (fun hW => ?_)
  unfold fX10_until at h
  refine R_aload_n (i := 0) dX10_until_0 rfl rfl ?_
  refine R_iconst (v := 0) dX10_until_1 rfl ?_
  refine R_put poX10_73 hL0 (cE_10 Ω 0 _) (cP_10_0 Ω 0 _ _) (Nat.le_of_ble_eq_true rfl) dX10_until_2 ?_
  refine R_st h (fun σ1 h => ?_)
  refine R_iload_n (i := 1) dX10_until_5 rfl rfl ?_
  refine R_iconst (v := 1) dX10_until_6 rfl ?_
  refine R_icmp_lt (tgt := 22) dX10_until_7 (by decide) (fun hc => ?_) (fun hc => ?_)
  · have h := hit_t h hc
    refine R_iconst (v := (-1)) dX10_until_22 rfl ?_
    exact R_iret dX10_until_23 rfl h
  · have h := hit_f h hc
    refine R_aload_n (i := 0) dX10_until_10 rfl rfl ?_
    refine R_get foX10_29 hL0 (cE_10 Ω 0 _) rfl dX10_until_11 ?_
    refine R_iload_n (i := 1) dX10_until_14 rfl rfl ?_
    refine R_callSi (ctX10_spotOf_ l Ω 0 x1 (WF.kid hW 6 hL0 rfl) _ _ (hit_mono (hit_bd h) (fun r2 σ3 h => ?_))) okX10_spotOf_ mw_1432 rfl rfl (Nat.le_of_ble_eq_true rfl) rfl rfl ⟨by decide, by decide⟩ ⟨Nat.zero_le _, Nat.zero_le _⟩ dX10_until_15
    refine R_iconst (v := (-1)) dX10_until_18 rfl ?_
    refine R_icmp_ne (tgt := 24) dX10_until_19 (by decide) (fun hc => ?_) (fun hc => ?_)
    · have h := hit_f h hc
      refine R_aload_n (i := 0) dX10_until_24 rfl rfl ?_
      refine R_get foX10_29 hL0 (cE_10 Ω 0 _) rfl dX10_until_25 ?_
      refine R_iconst (v := 0) dX10_until_28 rfl ?_
      refine R_aload_n (i := 0) dX10_until_29 rfl rfl ?_
      refine R_get foX10_32 hL0 (cE_10 Ω 0 _) rfl dX10_until_30 ?_
      refine R_iconst (v := 0) dX10_until_33 rfl ?_
      refine R_callSv (ctX10_copyRow l Ω 66 0 1554 0 66 1 1554 0 (WF.kid hW 6 hL0 rfl) (cE_66 Ω 0) (WF.kid hW 7 hL0 rfl) (cE_66 Ω 1) _ _ (hit_mono (hit_bd h) (fun r4 σ5 h => ?_))) okX10_copyRow mw_1406 rfl rfl (Nat.le_of_ble_eq_true rfl) rfl rfl ⟨by decide, by decide⟩ ⟨Nat.zero_le _, Nat.zero_le _⟩ dX10_until_34
      refine R_iconst (v := 0) dX10_until_37 rfl ?_
      refine R_istore_n (lv2 := [some (rf Ω 10 0), some (.int x1), some (.int 0), none]) dX10_until_38 rfl (by decide) rfl rfl ?_
      refine rlX10_until_L39 hW x1 hL0 ?_ ?_ ?_ ?_ fu 0 σ5 (hit_bd h)
      · intro e13 σ12 h
        try dsimp only at h
        refine R_iconst (v := (-1)) dX10_until_59 rfl ?_
        exact R_iret dX10_until_60 rfl h
      · intro e14 σ12 h
        try dsimp only at h
        refine R_iload_n (i := 2) dX10_until_72 rfl rfl ?_
        exact R_iret dX10_until_73 rfl h
      · intro e15 σ12 h
        try dsimp only at h
        refine R_iconst (v := (-1)) dX10_until_91 rfl ?_
        exact R_iret dX10_until_92 rfl h
      · intro e16 σ12 h
        try dsimp only at h
        refine R_iconst (v := (-1)) dX10_until_99 rfl ?_
        exact R_iret dX10_until_100 rfl h
    · have h := hit_t h hc
      refine R_iconst (v := (-1)) dX10_until_22 rfl ?_
      exact R_iret dX10_until_23 rfl h
set_option maxRecDepth 100000 in
set_option maxHeartbeats 4000000 in
theorem rnX10_garbage_j85L40 {l : Launch} {Ω : rO} (hW : WF Ω) (x1 : Int32) (x3 : Int32) (z0 : Int32) (z1 : Int32) (hL0 : oL Ω 10 0) (σ : rS) {K : Int32 → rS → Prop} {K0 : ((Int32 × Int32) ⊕ Int32) → rS → Prop} (hC : ∀ (x2 : Int32) (x3 : Int32) (σ : rS), K0 (.inl (x2, x3)) σ → Run l Ω cX10_garbage RX10 4 (some .int) rmX10_garbage K 40 [some (rf Ω 10 0), some (.int x1), some (.int x2), some (.int x3)] [] σ) (hE0 : ∀ (e : Int32) (σ : rS), K0 (.inr e) σ → Run l Ω cX10_garbage RX10 4 (some .int) rmX10_garbage K 93 [none, none, some (.int e), none] [] σ) (h : hit (fX10_garbage_j85L40 x1 x3 z0 z1 σ) K0) : Run l Ω cX10_garbage RX10 4 (some .int) rmX10_garbage K 85 [some (rf Ω 10 0), some (.int x1), none, some (.int x3)] [.int z0, .int z1] σ := by
  unfold fX10_garbage_j85L40 at h
  refine R_iadd dX10_garbage_85 ?_
  refine R_topi h (fun y6 h => ?_)
  refine R_istore_n (lv2 := [some (rf Ω 10 0), some (.int x1), some (.int y6), some (.int x3)]) dX10_garbage_86 rfl (by decide) rfl rfl ?_
  refine R_iinc (v := x3 + 1) (lv2 := [some (rf Ω 10 0), some (.int x1), some (.int y6), some (.int (x3 + 1))]) dX10_garbage_87 rfl rfl (by decide) rfl rfl ?_
  refine R_goto (tgt := 40) dX10_garbage_90 (by decide) ?_
  exact hC y6 (x3 + 1) σ h
set_option maxRecDepth 100000 in
set_option maxHeartbeats 4000000 in
theorem rnX10_garbage_j84L40 {l : Launch} {Ω : rO} (hW : WF Ω) (x1 : Int32) (x3 : Int32) (z0 : Int32) (hL0 : oL Ω 10 0) (σ : rS) {K : Int32 → rS → Prop} {K0 : ((Int32 × Int32) ⊕ Int32) → rS → Prop} (hC : ∀ (x2 : Int32) (x3 : Int32) (σ : rS), K0 (.inl (x2, x3)) σ → Run l Ω cX10_garbage RX10 4 (some .int) rmX10_garbage K 40 [some (rf Ω 10 0), some (.int x1), some (.int x2), some (.int x3)] [] σ) (hE0 : ∀ (e : Int32) (σ : rS), K0 (.inr e) σ → Run l Ω cX10_garbage RX10 4 (some .int) rmX10_garbage K 93 [none, none, some (.int e), none] [] σ) (h : hit (fX10_garbage_j84L40 x1 x3 z0 σ) K0) : Run l Ω cX10_garbage RX10 4 (some .int) rmX10_garbage K 84 [some (rf Ω 10 0), some (.int x1), none, some (.int x3)] [.int z0] σ := by
  unfold fX10_garbage_j84L40 at h
  refine R_iconst (v := 0) dX10_garbage_84 rfl ?_
  exact rnX10_garbage_j85L40 hW x1 x3 0 z0 hL0 σ hC hE0 h
set_option maxRecDepth 100000 in
set_option maxHeartbeats 4000000 in
theorem rsX10_garbage_L40 {l : Launch} {Ω : rO} (hW : WF Ω) (x1 : Int32) (x2 : Int32) (x3 : Int32) (hL0 : oL Ω 10 0) (σ : rS) {K : Int32 → rS → Prop} {K0 : ((Int32 × Int32) ⊕ Int32) → rS → Prop} (hC : ∀ (x2 : Int32) (x3 : Int32) (σ : rS), K0 (.inl (x2, x3)) σ → Run l Ω cX10_garbage RX10 4 (some .int) rmX10_garbage K 40 [some (rf Ω 10 0), some (.int x1), some (.int x2), some (.int x3)] [] σ) (hE0 : ∀ (e : Int32) (σ : rS), K0 (.inr e) σ → Run l Ω cX10_garbage RX10 4 (some .int) rmX10_garbage K 93 [none, none, some (.int e), none] [] σ) (h : hit (fX10_garbage_L40 x1 x2 x3 σ) K0) : Run l Ω cX10_garbage RX10 4 (some .int) rmX10_garbage K 40 [some (rf Ω 10 0), some (.int x1), some (.int x2), some (.int x3)] [] σ := by
  unfold fX10_garbage_L40 at h
  refine R_iload_n (i := 3) dX10_garbage_40 rfl rfl ?_
  refine R_aload_n (i := 0) dX10_garbage_41 rfl rfl ?_
  refine R_get foX10_29 hL0 (cE_10 Ω 0 _) rfl dX10_garbage_42 ?_
  refine R_iconst (v := 0) dX10_garbage_45 rfl ?_
  refine R_iald (WF.kid hW 6 hL0 rfl) (cE_66 Ω 0 _) (vin 0 1554 rfl) dX10_garbage_46 ?_
  refine R_icmp_ge (tgt := 93) dX10_garbage_47 (by decide) (fun hc => ?_) (fun hc => ?_)
  · have h := hit_f h hc
    refine R_drop (lv2 := [none, some (.int x1), some (.int x2), some (.int x3)]) 0 rfl ?_
    refine R_drop (lv2 := [none, none, some (.int x2), some (.int x3)]) 1 rfl ?_
    refine R_drop (lv2 := [none, none, some (.int x2), none]) 3 rfl ?_
    exact hE0 x2 σ h
  · have h := hit_t h hc
    refine R_iload_n (i := 2) dX10_garbage_50 rfl rfl ?_
    refine R_aload_n (i := 0) dX10_garbage_51 rfl rfl ?_
    refine R_get foX10_45 hL0 (cE_10 Ω 0 _) rfl dX10_garbage_52 ?_
    refine R_iload_n (i := 3) dX10_garbage_55 rfl rfl ?_
    obtain ⟨hb, h⟩ := hit_bnd h
    refine R_zald (WF.kid hW 11 hL0 rfl) (cE_68 Ω 0 _) hb dX10_garbage_56 ?_
    refine R_if_ne (tgt := 84) dX10_garbage_57 (by decide) (fun hc => ?_) (fun hc => ?_)
    · have h := hit_f h hc
      refine R_drop (lv2 := [some (rf Ω 10 0), some (.int x1), none, some (.int x3)]) 2 rfl ?_
      exact rnX10_garbage_j84L40 hW x1 x3 x2 hL0 σ hC hE0 h
    · have h := hit_t h hc
      refine R_aload_n (i := 0) dX10_garbage_60 rfl rfl ?_
      refine R_get foX10_29 hL0 (cE_10 Ω 0 _) rfl dX10_garbage_61 ?_
      refine R_iload_n (i := 3) dX10_garbage_64 rfl rfl ?_
      refine R_iconst (v := 5) dX10_garbage_65 rfl ?_
      refine R_callSi (ctX10_of l Ω 0 x3 5 (WF.kid hW 6 hL0 rfl) _ _ (hit_mono (hit_bd h) (fun r7 σ8 h => ?_))) okX10_of mw_1435 rfl rfl (Nat.le_of_ble_eq_true rfl) rfl rfl ⟨by decide, by decide⟩ ⟨Nat.zero_le _, Nat.zero_le _⟩ dX10_garbage_66
      refine R_iload_n (i := 1) dX10_garbage_69 rfl rfl ?_
      refine R_icmp_ne (tgt := 84) dX10_garbage_70 (by decide) (fun hc => ?_) (fun hc => ?_)
      · have h := hit_f h hc
        refine R_drop (lv2 := [some (rf Ω 10 0), some (.int x1), none, some (.int x3)]) 2 rfl ?_
        exact rnX10_garbage_j84L40 hW x1 x3 x2 hL0 σ8 hC hE0 h
      · have h := hit_t h hc
        refine R_aload_n (i := 0) dX10_garbage_73 rfl rfl ?_
        refine R_get foX10_29 hL0 (cE_10 Ω 0 _) rfl dX10_garbage_74 ?_
        refine R_iload_n (i := 3) dX10_garbage_77 rfl rfl ?_
        refine R_callSi (ctX10_sizeOf l Ω 0 x3 (WF.kid hW 6 hL0 rfl) _ _ (hit_mono (hit_bd h) (fun r9 σ10 h => ?_))) okX10_sizeOf mw_1449 rfl rfl (Nat.le_of_ble_eq_true rfl) rfl rfl ⟨by decide, by decide⟩ ⟨Nat.zero_le _, Nat.zero_le _⟩ dX10_garbage_78
        refine R_goto (tgt := 85) dX10_garbage_81 (by decide) ?_
        refine R_drop (lv2 := [some (rf Ω 10 0), some (.int x1), none, some (.int x3)]) 2 rfl ?_
        exact rnX10_garbage_j85L40 hW x1 x3 r9 x2 hL0 σ10 hC hE0 h
set_option maxRecDepth 100000 in
set_option maxHeartbeats 4000000 in
theorem rlX10_garbage_L40 {l : Launch} {Ω : rO} (hW : WF Ω) (x1 : Int32) (hL0 : oL Ω 10 0) {K : Int32 → rS → Prop} {KE : Int32 → rS → Prop} (hE0 : ∀ (e : Int32) (σ : rS), KE e σ → Run l Ω cX10_garbage RX10 4 (some .int) rmX10_garbage K 93 [none, none, some (.int e), none] [] σ) : ∀ (n : Nat) (x2 : Int32) (x3 : Int32) (σ : rS), hit (lp (fun (x : (Int32 × Int32)) σ => fX10_garbage_L40 x1 x.1 x.2 σ) n (x2, x3) σ) KE → Run l Ω cX10_garbage RX10 4 (some .int) rmX10_garbage K 40 [some (rf Ω 10 0), some (.int x1), some (.int x2), some (.int x3)] [] σ := by
  intro n
  induction n with
  | zero => intro x2 x3 σ h; exact (h : False).elim
  | succ n ih =>
    intro x2 x3 σ h
    exact rsX10_garbage_L40 hW x1 x2 x3 hL0 σ (fun x2 x3 σ h => ih x2 x3 σ h) (fun e σ h => hE0 e σ h) (hit_lp h)
set_option maxRecDepth 100000 in
set_option maxHeartbeats 4000000 in
theorem ctX10_garbage (l : Launch) (Ω : rO) (x1 : Int32) (hL0 : oL Ω 10 0) (σ : rS) (K : Int32 → rS → Prop) (h : hit (fX10_garbage x1 σ) K) : Ct l Ω yX10_garbage cX10_garbage 4 (some .int) rmX10_garbage [rf Ω 10 0, .int x1] σ K := by
  refine Ct.of (own := RX10) (lv := [some (rf Ω 10 0), some (.int x1), none, none]) (by decide) rfl (Nat.le_of_ble_eq_true rfl) rfl (fun hW => ?_)
  unfold fX10_garbage at h
  refine R_aload_n (i := 0) dX10_garbage_0 rfl rfl ?_
  refine R_iconst (v := 0) dX10_garbage_1 rfl ?_
  refine R_put poX10_73 hL0 (cE_10 Ω 0 _) (cP_10_0 Ω 0 _ _) (Nat.le_of_ble_eq_true rfl) dX10_garbage_2 ?_
  refine R_st h (fun σ1 h => ?_)
  refine R_aload_n (i := 0) dX10_garbage_5 rfl rfl ?_
  refine R_get foX10_157 hL0 (cE_10 Ω 0 _) rfl dX10_garbage_6 ?_
  refine R_if_eq (tgt := 24) dX10_garbage_9 (by decide) (fun hc => ?_) (fun hc => ?_)
  · have h := hit_t h hc
    refine R_iconst (v := (-1)) dX10_garbage_24 rfl ?_
    exact R_iret dX10_garbage_25 rfl h
  · have h := hit_f h hc
    refine R_iload_n (i := 1) dX10_garbage_12 rfl rfl ?_
    refine R_i2l dX10_garbage_13 ?_
    refine R_lconst (v := 0) dX10_garbage_14 rfl ?_
    refine R_ldc2 (v := 2) mw_1421 dX10_garbage_15 ?_
    refine R_callSi (ctX10_isIn l Ω x1.toInt64 0 2 _ _ (hit_mono (hit_bd h) (fun r2 σ3 h => ?_))) okX10_isIn mw_1315 rfl rfl (Nat.le_of_ble_eq_true rfl) rfl rfl ⟨by decide, by decide⟩ ⟨Nat.zero_le _, Nat.zero_le _⟩ dX10_garbage_18
    refine R_if_ne (tgt := 26) dX10_garbage_21 (by decide) (fun hc => ?_) (fun hc => ?_)
    · have h := hit_f h hc
      refine R_aload_n (i := 0) dX10_garbage_26 rfl rfl ?_
      refine R_aload_n (i := 0) dX10_garbage_27 rfl rfl ?_
      refine R_get foX10_29 hL0 (cE_10 Ω 0 _) rfl dX10_garbage_28 ?_
      refine R_iconst (v := (-1)) dX10_garbage_31 rfl ?_
      refine R_iconst (v := 1) dX10_garbage_32 rfl ?_
      refine R_callVv (ctX10_reaches l Ω 0 (-1) 1 hL0 (WF.kid hW 6 hL0 rfl) _ _ (hit_mono (hit_bd h) (fun r4 σ5 h => ?_))) okX10_reaches mw_1523 hL0 (cE_10 Ω 0 _) rfl rfl (Nat.le_of_ble_eq_true rfl) rfl rfl ⟨by decide, by decide⟩ ⟨Nat.zero_le _, Nat.zero_le _⟩ dX10_garbage_33
      refine R_iconst (v := 0) dX10_garbage_36 rfl ?_
      refine R_istore_n (lv2 := [some (rf Ω 10 0), some (.int x1), some (.int 0), none]) dX10_garbage_37 rfl (by decide) rfl rfl ?_
      refine R_iconst (v := 0) dX10_garbage_38 rfl ?_
      refine R_istore_n (lv2 := [some (rf Ω 10 0), some (.int x1), some (.int 0), some (.int 0)]) dX10_garbage_39 rfl (by decide) rfl rfl ?_
      refine rlX10_garbage_L40 hW x1 hL0 ?_ fu 0 0 σ5 (hit_bd h)
      · intro e12 σ11 h
        try dsimp only at h
        refine R_iload_n (i := 2) dX10_garbage_93 rfl rfl ?_
        exact R_iret dX10_garbage_94 rfl h
    · have h := hit_t h hc
      refine R_iconst (v := (-1)) dX10_garbage_24 rfl ?_
      exact R_iret dX10_garbage_25 rfl h
set_option maxRecDepth 100000 in
set_option maxHeartbeats 4000000 in
theorem ctX10_isScript (l : Launch) (Ω : rO) (x1 : Int32) (hL0 : oL Ω 10 0) (σ : rS) (K : Int32 → rS → Prop) (h : hit (fX10_isScript x1 σ) K) : Ct l Ω yX10_isScript cX10_isScript 2 (some .boolean) rmX10_isScript [rf Ω 10 0, .int x1] σ K := by
  refine Ct.of (own := RX10) (lv := [some (rf Ω 10 0), some (.int x1)]) (by decide) rfl (Nat.le_of_ble_eq_true rfl) rfl (fun hW => ?_)
  unfold fX10_isScript at h
  refine R_iload_n (i := 1) dX10_isScript_0 rfl rfl ?_
  refine R_i2l dX10_isScript_1 ?_
  refine R_lconst (v := 0) dX10_isScript_2 rfl ?_
  refine R_aload_n (i := 0) dX10_isScript_3 rfl rfl ?_
  refine R_get foX10_152 hL0 (cE_10 Ω 0 _) rfl dX10_isScript_4 ?_
  refine R_iconst (v := 1) dX10_isScript_7 rfl ?_
  refine R_isub dX10_isScript_8 ?_
  refine R_i2l dX10_isScript_9 ?_
  refine R_callSi (ctX10_isIn l Ω x1.toInt64 0 (((σ 10 0 10) - 1).toInt64) _ _ (hit_mono (hit_bd h) (fun r1 σ2 h => ?_))) okX10_isIn mw_1315 rfl rfl (Nat.le_of_ble_eq_true rfl) rfl rfl ⟨by decide, by decide⟩ ⟨Nat.zero_le _, Nat.zero_le _⟩ dX10_isScript_10
  obtain ⟨hz, h⟩ := hit_bz h
  exact R_zret dX10_isScript_13 rfl hz h
set_option maxRecDepth 100000 in
set_option maxHeartbeats 4000000 in
theorem ctX10_step (l : Launch) (Ω : rO) (x1 : Int32) (x2 : Int32) (x3 : Int32) (hL0 : oL Ω 10 0) (σ : rS) (K : Int32 → rS → Prop) (h : hit (fX10_step x1 x2 x3 σ) K) : Ct l Ω yX10_step cX10_step 4 (some .int) rmX10_step [rf Ω 10 0, .int x1, .int x2, .int x3] σ K := by
  refine Ct.of (own := RX10) (lv := [some (rf Ω 10 0), some (.int x1), some (.int x2), some (.int x3)]) (by decide) rfl (Nat.le_of_ble_eq_true rfl) rfl (fun hW => ?_)
  unfold fX10_step at h
  refine R_aload_n (i := 0) dX10_step_0 rfl rfl ?_
  refine R_iconst (v := 0) dX10_step_1 rfl ?_
  refine R_put poX10_73 hL0 (cE_10 Ω 0 _) (cP_10_0 Ω 0 _ _) (Nat.le_of_ble_eq_true rfl) dX10_step_2 ?_
  refine R_st h (fun σ1 h => ?_)
  refine R_aload_n (i := 0) dX10_step_5 rfl rfl ?_
  refine R_iload_n (i := 1) dX10_step_6 rfl rfl ?_
  refine R_callVi (ctX10_isScript l Ω x1 hL0 _ _ (hit_mono (hit_bd h) (fun r2 σ3 h => ?_))) okX10_isScript mw_1711 hL0 (cE_10 Ω 0 _) rfl rfl (Nat.le_of_ble_eq_true rfl) rfl rfl ⟨by decide, by decide⟩ ⟨Nat.zero_le _, Nat.zero_le _⟩ dX10_step_7
  refine R_if_eq (tgt := 43) dX10_step_10 (by decide) (fun hc => ?_) (fun hc => ?_)
  · have h := hit_t h hc
    refine R_ldcw (v := (-1000000)) mw_1613 dX10_step_43 ?_
    exact R_iret dX10_step_46 rfl h
  · have h := hit_f h hc
    refine R_iload_n (i := 2) dX10_step_13 rfl rfl ?_
    refine R_i2l dX10_step_14 ?_
    refine R_lconst (v := 0) dX10_step_15 rfl ?_
    refine R_aload_n (i := 0) dX10_step_16 rfl rfl ?_
    refine R_get foX10_26 hL0 (cE_10 Ω 0 _) rfl dX10_step_17 ?_
    refine R_iload_n (i := 1) dX10_step_20 rfl rfl ?_
    obtain ⟨hb, h⟩ := hit_bnd h
    refine R_iald (WF.kid hW 5 hL0 rfl) (cE_65 Ω 0 _) hb dX10_step_21 ?_
    refine R_iconst (v := 1) dX10_step_22 rfl ?_
    refine R_isub dX10_step_23 ?_
    refine R_i2l dX10_step_24 ?_
    refine R_callSi (ctX10_isIn l Ω x2.toInt64 0 (((σ3 65 0 (ix x1)) - 1).toInt64) _ _ (hit_mono (hit_bd h) (fun r4 σ5 h => ?_))) okX10_isIn mw_1315 rfl rfl (Nat.le_of_ble_eq_true rfl) rfl rfl ⟨by decide, by decide⟩ ⟨Nat.zero_le _, Nat.zero_le _⟩ dX10_step_25
    refine R_if_eq (tgt := 43) dX10_step_28 (by decide) (fun hc => ?_) (fun hc => ?_)
    · have h := hit_t h hc
      refine R_ldcw (v := (-1000000)) mw_1613 dX10_step_43 ?_
      exact R_iret dX10_step_46 rfl h
    · have h := hit_f h hc
      refine R_iload_n (i := 3) dX10_step_31 rfl rfl ?_
      refine R_i2l dX10_step_32 ?_
      refine R_lconst (v := 0) dX10_step_33 rfl ?_
      refine R_ldc2 (v := 4) mw_1422 dX10_step_34 ?_
      refine R_callSi (ctX10_isIn l Ω x3.toInt64 0 4 _ _ (hit_mono (hit_bd h) (fun r6 σ7 h => ?_))) okX10_isIn mw_1315 rfl rfl (Nat.le_of_ble_eq_true rfl) rfl rfl ⟨by decide, by decide⟩ ⟨Nat.zero_le _, Nat.zero_le _⟩ dX10_step_37
      refine R_if_ne (tgt := 47) dX10_step_40 (by decide) (fun hc => ?_) (fun hc => ?_)
      · have h := hit_f h hc
        refine R_aload_n (i := 0) dX10_step_47 rfl rfl ?_
        refine R_get foX10_23 hL0 (cE_10 Ω 0 _) rfl dX10_step_48 ?_
        refine R_iconst (v := 5) dX10_step_51 rfl ?_
        refine R_bipush (v := 16) dX10_step_52 rfl ?_
        refine R_iload_n (i := 1) dX10_step_54 rfl rfl ?_
        refine R_imul dX10_step_55 ?_
        refine R_iload_n (i := 2) dX10_step_56 rfl rfl ?_
        refine R_iadd dX10_step_57 ?_
        refine R_imul dX10_step_58 ?_
        refine R_iload_n (i := 3) dX10_step_59 rfl rfl ?_
        refine R_iadd dX10_step_60 ?_
        obtain ⟨hb, h⟩ := hit_bnd h
        refine R_iald (WF.kid hW 4 hL0 rfl) (cE_64 Ω 0 _) hb dX10_step_61 ?_
        exact R_iret dX10_step_62 rfl h
      · have h := hit_t h hc
        refine R_ldcw (v := (-1000000)) mw_1613 dX10_step_43 ?_
        exact R_iret dX10_step_46 rfl h
set_option maxRecDepth 100000 in
set_option maxHeartbeats 4000000 in
theorem rnX10_run_j147L52 {l : Launch} {Ω : rO} (hW : WF Ω) (x1 : Int32) (x2 : Int32) (x3 : Int32) (x4 : Int32) (hL0 : oL Ω 10 0) (σ : rS) {K : Int32 → rS → Prop} {K0 : ((Int32 × Int32) ⊕ Int32) → rS → Prop} (hC : ∀ (x3 : Int32) (x4 : Int32) (σ : rS), K0 (.inl (x3, x4)) σ → Run l Ω cX10_run RX10 6 (some .int) rmX10_run K 52 [some (rf Ω 10 0), some (.int x1), some (.int x2), some (.int x3), some (.int x4), none] [] σ) (hE0 : ∀ (e : Int32) (σ : rS), K0 (.inr e) σ → Run l Ω cX10_run RX10 6 (some .int) rmX10_run K 150 [some (rf Ω 10 0), some (.int x1), some (.int x2), some (.int e), none, none] [] σ) (h : hit (fX10_run_j147L52 x1 x2 x3 x4 σ) K0) : Run l Ω cX10_run RX10 6 (some .int) rmX10_run K 147 [some (rf Ω 10 0), some (.int x1), some (.int x2), some (.int x3), some (.int x4), none] [] σ := by
  unfold fX10_run_j147L52 at h
  refine R_goto (tgt := 52) dX10_run_147 (by decide) ?_
  exact hC x3 x4 σ h
set_option maxRecDepth 100000 in
set_option maxHeartbeats 4000000 in
theorem rnX10_run_j137L52 {l : Launch} {Ω : rO} (hW : WF Ω) (x1 : Int32) (x2 : Int32) (x3 : Int32) (z0 : Int32) (hL0 : oL Ω 10 0) (σ : rS) {K : Int32 → rS → Prop} {K0 : ((Int32 × Int32) ⊕ Int32) → rS → Prop} (hC : ∀ (x3 : Int32) (x4 : Int32) (σ : rS), K0 (.inl (x3, x4)) σ → Run l Ω cX10_run RX10 6 (some .int) rmX10_run K 52 [some (rf Ω 10 0), some (.int x1), some (.int x2), some (.int x3), some (.int x4), none] [] σ) (hE0 : ∀ (e : Int32) (σ : rS), K0 (.inr e) σ → Run l Ω cX10_run RX10 6 (some .int) rmX10_run K 150 [some (rf Ω 10 0), some (.int x1), some (.int x2), some (.int e), none, none] [] σ) (h : hit (fX10_run_j137L52 x1 x2 x3 z0 σ) K0) : Run l Ω cX10_run RX10 6 (some .int) rmX10_run K 137 [some (rf Ω 10 0), some (.int x1), some (.int x2), some (.int x3), none, none] [.int z0] σ := by
  unfold fX10_run_j137L52 at h
  refine R_istore (lv2 := [some (rf Ω 10 0), some (.int x1), some (.int x2), some (.int x3), some (.int z0), none]) dX10_run_137 (by decide) rfl rfl ?_
  refine R_iload (i := 4) dX10_run_139 rfl ?_
  refine R_if_eq (tgt := 147) dX10_run_141 (by decide) (fun hc => ?_) (fun hc => ?_)
  · have h := hit_t h hc
    exact rnX10_run_j147L52 hW x1 x2 x3 z0 hL0 σ hC hE0 h
  · have h := hit_f h hc
    refine R_iinc (v := x3 + 1) (lv2 := [some (rf Ω 10 0), some (.int x1), some (.int x2), some (.int (x3 + 1)), some (.int z0), none]) dX10_run_144 rfl rfl (by decide) rfl rfl ?_
    exact rnX10_run_j147L52 hW x1 x2 (x3 + 1) z0 hL0 σ hC hE0 h
set_option maxRecDepth 100000 in
set_option maxHeartbeats 4000000 in
theorem rsX10_run_L52 {l : Launch} {Ω : rO} (hW : WF Ω) (x1 : Int32) (x2 : Int32) (x3 : Int32) (x4 : Int32) (hL0 : oL Ω 10 0) (σ : rS) {K : Int32 → rS → Prop} {K0 : ((Int32 × Int32) ⊕ Int32) → rS → Prop} (hC : ∀ (x3 : Int32) (x4 : Int32) (σ : rS), K0 (.inl (x3, x4)) σ → Run l Ω cX10_run RX10 6 (some .int) rmX10_run K 52 [some (rf Ω 10 0), some (.int x1), some (.int x2), some (.int x3), some (.int x4), none] [] σ) (hE0 : ∀ (e : Int32) (σ : rS), K0 (.inr e) σ → Run l Ω cX10_run RX10 6 (some .int) rmX10_run K 150 [some (rf Ω 10 0), some (.int x1), some (.int x2), some (.int e), none, none] [] σ) (h : hit (fX10_run_L52 x1 x2 x3 x4 σ) K0) : Run l Ω cX10_run RX10 6 (some .int) rmX10_run K 52 [some (rf Ω 10 0), some (.int x1), some (.int x2), some (.int x3), some (.int x4), none] [] σ := by
  unfold fX10_run_L52 at h
  refine R_iload (i := 4) dX10_run_52 rfl ?_
  refine R_if_eq (tgt := 150) dX10_run_54 (by decide) (fun hc => ?_) (fun hc => ?_)
  · have h := hit_t h hc
    refine R_drop (lv2 := [some (rf Ω 10 0), some (.int x1), some (.int x2), some (.int x3), none, none]) 4 rfl ?_
    exact hE0 x3 σ h
  · have h := hit_f h hc
    refine R_iload_n (i := 3) dX10_run_57 rfl rfl ?_
    refine R_aload_n (i := 0) dX10_run_58 rfl rfl ?_
    refine R_get foX10_26 hL0 (cE_10 Ω 0 _) rfl dX10_run_59 ?_
    refine R_iload_n (i := 1) dX10_run_62 rfl rfl ?_
    obtain ⟨hb, h⟩ := hit_bnd h
    refine R_iald (WF.kid hW 5 hL0 rfl) (cE_65 Ω 0 _) hb dX10_run_63 ?_
    refine R_icmp_ge (tgt := 150) dX10_run_64 (by decide) (fun hc => ?_) (fun hc => ?_)
    · have h := hit_f h hc
      refine R_drop (lv2 := [some (rf Ω 10 0), some (.int x1), some (.int x2), some (.int x3), none, none]) 4 rfl ?_
      exact hE0 x3 σ h
    · have h := hit_t h hc
      refine R_iconst (v := 5) dX10_run_67 rfl ?_
      refine R_bipush (v := 16) dX10_run_68 rfl ?_
      refine R_iload_n (i := 1) dX10_run_70 rfl rfl ?_
      refine R_imul dX10_run_71 ?_
      refine R_iload_n (i := 3) dX10_run_72 rfl rfl ?_
      refine R_iadd dX10_run_73 ?_
      refine R_imul dX10_run_74 ?_
      refine R_topi h (fun y8 h => ?_)
      refine R_istore (lv2 := [some (rf Ω 10 0), some (.int x1), some (.int x2), some (.int x3), some (.int x4), some (.int y8)]) dX10_run_75 (by decide) rfl rfl ?_
      refine R_aload_n (i := 0) dX10_run_77 rfl rfl ?_
      refine R_aload_n (i := 0) dX10_run_78 rfl rfl ?_
      refine R_get foX10_32 hL0 (cE_10 Ω 0 _) rfl dX10_run_79 ?_
      refine R_aload_n (i := 0) dX10_run_82 rfl rfl ?_
      refine R_get foX10_23 hL0 (cE_10 Ω 0 _) rfl dX10_run_83 ?_
      refine R_iload (i := 5) dX10_run_86 rfl ?_
      obtain ⟨hb, h⟩ := hit_bnd h
      refine R_iald (WF.kid hW 4 hL0 rfl) (cE_64 Ω 0 _) hb dX10_run_88 ?_
      refine R_aload_n (i := 0) dX10_run_89 rfl rfl ?_
      refine R_get foX10_23 hL0 (cE_10 Ω 0 _) rfl dX10_run_90 ?_
      refine R_iload (i := 5) dX10_run_93 rfl ?_
      refine R_iconst (v := 1) dX10_run_95 rfl ?_
      refine R_iadd dX10_run_96 ?_
      obtain ⟨hb, h⟩ := hit_bnd h
      refine R_iald (WF.kid hW 4 hL0 rfl) (cE_64 Ω 0 _) hb dX10_run_97 ?_
      refine R_aload_n (i := 0) dX10_run_98 rfl rfl ?_
      refine R_get foX10_23 hL0 (cE_10 Ω 0 _) rfl dX10_run_99 ?_
      refine R_iload (i := 5) dX10_run_102 rfl ?_
      refine R_iconst (v := 2) dX10_run_104 rfl ?_
      refine R_iadd dX10_run_105 ?_
      obtain ⟨hb, h⟩ := hit_bnd h
      refine R_iald (WF.kid hW 4 hL0 rfl) (cE_64 Ω 0 _) hb dX10_run_106 ?_
      refine R_aload_n (i := 0) dX10_run_107 rfl rfl ?_
      refine R_get foX10_23 hL0 (cE_10 Ω 0 _) rfl dX10_run_108 ?_
      refine R_iload (i := 5) dX10_run_111 rfl ?_
      refine R_iconst (v := 3) dX10_run_113 rfl ?_
      refine R_iadd dX10_run_114 ?_
      obtain ⟨hb, h⟩ := hit_bnd h
      refine R_iald (WF.kid hW 4 hL0 rfl) (cE_64 Ω 0 _) hb dX10_run_115 ?_
      refine R_aload_n (i := 0) dX10_run_116 rfl rfl ?_
      refine R_get foX10_23 hL0 (cE_10 Ω 0 _) rfl dX10_run_117 ?_
      refine R_iload (i := 5) dX10_run_120 rfl ?_
      refine R_iconst (v := 4) dX10_run_122 rfl ?_
      refine R_iadd dX10_run_123 ?_
      obtain ⟨hb, h⟩ := hit_bnd h
      refine R_iald (WF.kid hW 4 hL0 rfl) (cE_64 Ω 0 _) hb dX10_run_124 ?_
      refine R_callVi (ctX10_does l Ω 1 (σ 64 0 (ix y8)) (σ 64 0 (ix (y8 + 1))) (σ 64 0 (ix (y8 + 2))) (σ 64 0 (ix (y8 + 3))) (σ 64 0 (ix (y8 + 4))) hL0 (WF.kid hW 7 hL0 rfl) _ _ (hit_mono (hit_bd h) (fun r9 σ10 h => ?_))) okX10_does mw_1409 hL0 (cE_10 Ω 0 _) rfl rfl (Nat.le_of_ble_eq_true rfl) rfl rfl ⟨by decide, by decide⟩ ⟨Nat.zero_le _, Nat.zero_le _⟩ dX10_run_125
      refine R_iconst (v := (-1)) dX10_run_128 rfl ?_
      refine R_icmp_ne (tgt := 136) dX10_run_129 (by decide) (fun hc => ?_) (fun hc => ?_)
      · have h := hit_f h hc
        refine R_iconst (v := 0) dX10_run_136 rfl ?_
        refine R_drop (lv2 := [some (rf Ω 10 0), some (.int x1), some (.int x2), some (.int x3), none, some (.int y8)]) 4 rfl ?_
        refine R_drop (lv2 := [some (rf Ω 10 0), some (.int x1), some (.int x2), some (.int x3), none, none]) 5 rfl ?_
        exact rnX10_run_j137L52 hW x1 x2 x3 0 hL0 σ10 hC hE0 h
      · have h := hit_t h hc
        refine R_iconst (v := 1) dX10_run_132 rfl ?_
        refine R_goto (tgt := 137) dX10_run_133 (by decide) ?_
        refine R_drop (lv2 := [some (rf Ω 10 0), some (.int x1), some (.int x2), some (.int x3), none, some (.int y8)]) 4 rfl ?_
        refine R_drop (lv2 := [some (rf Ω 10 0), some (.int x1), some (.int x2), some (.int x3), none, none]) 5 rfl ?_
        exact rnX10_run_j137L52 hW x1 x2 x3 1 hL0 σ10 hC hE0 h
set_option maxRecDepth 100000 in
set_option maxHeartbeats 4000000 in
theorem rlX10_run_L52 {l : Launch} {Ω : rO} (hW : WF Ω) (x1 : Int32) (x2 : Int32) (hL0 : oL Ω 10 0) {K : Int32 → rS → Prop} {KE : Int32 → rS → Prop} (hE0 : ∀ (e : Int32) (σ : rS), KE e σ → Run l Ω cX10_run RX10 6 (some .int) rmX10_run K 150 [some (rf Ω 10 0), some (.int x1), some (.int x2), some (.int e), none, none] [] σ) : ∀ (n : Nat) (x3 : Int32) (x4 : Int32) (σ : rS), hit (lp (fun (x : (Int32 × Int32)) σ => fX10_run_L52 x1 x2 x.1 x.2 σ) n (x3, x4) σ) KE → Run l Ω cX10_run RX10 6 (some .int) rmX10_run K 52 [some (rf Ω 10 0), some (.int x1), some (.int x2), some (.int x3), some (.int x4), none] [] σ := by
  intro n
  induction n with
  | zero => intro x3 x4 σ h; exact (h : False).elim
  | succ n ih =>
    intro x3 x4 σ h
    exact rsX10_run_L52 hW x1 x2 x3 x4 hL0 σ (fun x3 x4 σ h => ih x3 x4 σ h) (fun e σ h => hE0 e σ h) (hit_lp h)
set_option maxRecDepth 100000 in
set_option maxHeartbeats 4000000 in
theorem rnX10_run_j150 {l : Launch} {Ω : rO} (hW : WF Ω) (x1 : Int32) (x2 : Int32) (x3 : Int32) (hL0 : oL Ω 10 0) (σ : rS) {K : Int32 → rS → Prop}  (h : hit (fX10_run_j150 x1 x2 x3 σ) K) : Run l Ω cX10_run RX10 6 (some .int) rmX10_run K 150 [some (rf Ω 10 0), some (.int x1), some (.int x2), some (.int x3), none, none] [] σ := by
  unfold fX10_run_j150 at h
  refine R_iload_n (i := 2) dX10_run_150 rfl rfl ?_
  refine R_iconst (v := 1) dX10_run_151 rfl ?_
  refine R_icmp_ne (tgt := 165) dX10_run_152 (by decide) (fun hc => ?_) (fun hc => ?_)
  · have h := hit_f h hc
    refine R_iload_n (i := 3) dX10_run_165 rfl rfl ?_
    refine R_aload_n (i := 0) dX10_run_166 rfl rfl ?_
    refine R_get foX10_26 hL0 (cE_10 Ω 0 _) rfl dX10_run_167 ?_
    refine R_iload_n (i := 1) dX10_run_170 rfl rfl ?_
    obtain ⟨hb, h⟩ := hit_bnd h
    refine R_iald (WF.kid hW 5 hL0 rfl) (cE_65 Ω 0 _) hb dX10_run_171 ?_
    refine R_icmp_ne (tgt := 179) dX10_run_172 (by decide) (fun hc => ?_) (fun hc => ?_)
    · have h := hit_f h hc
      refine R_iload_n (i := 3) dX10_run_179 rfl rfl ?_
      exact R_iret dX10_run_180 rfl h
    · have h := hit_t h hc
      refine R_iconst (v := (-1)) dX10_run_175 rfl ?_
      refine R_goto (tgt := 180) dX10_run_176 (by decide) ?_
      exact R_iret dX10_run_180 rfl h
  · have h := hit_t h hc
    refine R_aload_n (i := 0) dX10_run_155 rfl rfl ?_
    refine R_get foX10_32 hL0 (cE_10 Ω 0 _) rfl dX10_run_156 ?_
    refine R_callSi (ctX10_cells l Ω 1 (WF.kid hW 7 hL0 rfl) _ _ (hit_mono (hit_bd h) (fun r13 σ14 h => ?_))) okX10_cells mw_1554 rfl rfl (Nat.le_of_ble_eq_true rfl) rfl rfl ⟨by decide, by decide⟩ ⟨Nat.zero_le _, Nat.zero_le _⟩ dX10_run_159
    refine R_goto (tgt := 180) dX10_run_162 (by decide) ?_
    exact R_iret dX10_run_180 rfl h
set_option maxRecDepth 100000 in
set_option maxHeartbeats 4000000 in
theorem ctX10_run (l : Launch) (Ω : rO) (x1 : Int32) (x2 : Int32) (hL0 : oL Ω 10 0) (σ : rS) (K : Int32 → rS → Prop) (h : hit (fX10_run x1 x2 σ) K) : Ct l Ω yX10_run cX10_run 6 (some .int) rmX10_run [rf Ω 10 0, .int x1, .int x2] σ K := by
  refine Ct.of (own := RX10) (lv := [some (rf Ω 10 0), some (.int x1), some (.int x2), none, none, none]) (by decide) rfl (Nat.le_of_ble_eq_true rfl) rfl (fun hW => ?_)
  unfold fX10_run at h
  refine R_aload_n (i := 0) dX10_run_0 rfl rfl ?_
  refine R_iconst (v := 0) dX10_run_1 rfl ?_
  refine R_put poX10_73 hL0 (cE_10 Ω 0 _) (cP_10_0 Ω 0 _ _) (Nat.le_of_ble_eq_true rfl) dX10_run_2 ?_
  refine R_st h (fun σ1 h => ?_)
  refine R_aload_n (i := 0) dX10_run_5 rfl rfl ?_
  refine R_iload_n (i := 1) dX10_run_6 rfl rfl ?_
  refine R_callVi (ctX10_isScript l Ω x1 hL0 _ _ (hit_mono (hit_bd h) (fun r2 σ3 h => ?_))) okX10_isScript mw_1711 hL0 (cE_10 Ω 0 _) rfl rfl (Nat.le_of_ble_eq_true rfl) rfl rfl ⟨by decide, by decide⟩ ⟨Nat.zero_le _, Nat.zero_le _⟩ dX10_run_7
  refine R_if_eq (tgt := 30) dX10_run_10 (by decide) (fun hc => ?_) (fun hc => ?_)
  · have h := hit_t h hc
    refine R_ldcw (v := (-1000000)) mw_1613 dX10_run_30 ?_
    exact R_iret dX10_run_33 rfl h
  · have h := hit_f h hc
    refine R_aload_n (i := 0) dX10_run_13 rfl rfl ?_
    refine R_get foX10_157 hL0 (cE_10 Ω 0 _) rfl dX10_run_14 ?_
    refine R_if_eq (tgt := 30) dX10_run_17 (by decide) (fun hc => ?_) (fun hc => ?_)
    · have h := hit_t h hc
      refine R_ldcw (v := (-1000000)) mw_1613 dX10_run_30 ?_
      exact R_iret dX10_run_33 rfl h
    · have h := hit_f h hc
      refine R_iload_n (i := 2) dX10_run_20 rfl rfl ?_
      refine R_i2l dX10_run_21 ?_
      refine R_lconst (v := 0) dX10_run_22 rfl ?_
      refine R_lconst (v := 1) dX10_run_23 rfl ?_
      refine R_callSi (ctX10_isIn l Ω x2.toInt64 0 1 _ _ (hit_mono (hit_bd h) (fun r4 σ5 h => ?_))) okX10_isIn mw_1315 rfl rfl (Nat.le_of_ble_eq_true rfl) rfl rfl ⟨by decide, by decide⟩ ⟨Nat.zero_le _, Nat.zero_le _⟩ dX10_run_24
      refine R_if_ne (tgt := 34) dX10_run_27 (by decide) (fun hc => ?_) (fun hc => ?_)
      · have h := hit_f h hc
        refine R_aload_n (i := 0) dX10_run_34 rfl rfl ?_
        refine R_get foX10_29 hL0 (cE_10 Ω 0 _) rfl dX10_run_35 ?_
        refine R_iconst (v := 0) dX10_run_38 rfl ?_
        refine R_aload_n (i := 0) dX10_run_39 rfl rfl ?_
        refine R_get foX10_32 hL0 (cE_10 Ω 0 _) rfl dX10_run_40 ?_
        refine R_iconst (v := 0) dX10_run_43 rfl ?_
        refine R_callSv (ctX10_copyRow l Ω 66 0 1554 0 66 1 1554 0 (WF.kid hW 6 hL0 rfl) (cE_66 Ω 0) (WF.kid hW 7 hL0 rfl) (cE_66 Ω 1) _ _ (hit_mono (hit_bd h) (fun r6 σ7 h => ?_))) okX10_copyRow mw_1406 rfl rfl (Nat.le_of_ble_eq_true rfl) rfl rfl ⟨by decide, by decide⟩ ⟨Nat.zero_le _, Nat.zero_le _⟩ dX10_run_44
        refine R_iconst (v := 0) dX10_run_47 rfl ?_
        refine R_istore_n (lv2 := [some (rf Ω 10 0), some (.int x1), some (.int x2), some (.int 0), none, none]) dX10_run_48 rfl (by decide) rfl rfl ?_
        refine R_iconst (v := 1) dX10_run_49 rfl ?_
        refine R_istore (lv2 := [some (rf Ω 10 0), some (.int x1), some (.int x2), some (.int 0), some (.int 1), none]) dX10_run_50 (by decide) rfl rfl ?_
        refine rlX10_run_L52 hW x1 x2 hL0 ?_ fu 0 1 σ7 (hit_bd h)
        · intro e12 σ11 h
          try dsimp only at h
          exact rnX10_run_j150 hW x1 x2 e12 hL0 σ11  h
      · have h := hit_t h hc
        refine R_ldcw (v := (-1000000)) mw_1613 dX10_run_30 ?_
        exact R_iret dX10_run_33 rfl h
set_option maxRecDepth 100000 in
set_option maxHeartbeats 4000000 in
theorem rnX10_perform_j114L26 {l : Launch} {Ω : rO} (hW : WF Ω) (x1 : Int32) (x2 : Int32) (x3 : Int32) (hL0 : oL Ω 10 0) (σ : rS) {K : Int32 → rS → Prop} {K0 : ((Int32 × Int32) ⊕ Int32) → rS → Prop} (hC : ∀ (x2 : Int32) (x3 : Int32) (σ : rS), K0 (.inl (x2, x3)) σ → Run l Ω cX10_perform RX10 5 (some .int) rmX10_perform K 26 [some (rf Ω 10 0), some (.int x1), some (.int x2), some (.int x3), none] [] σ) (hE0 : ∀ (e : Int32) (σ : rS), K0 (.inr e) σ → Run l Ω cX10_perform RX10 5 (some .int) rmX10_perform K 117 [none, none, some (.int e), none, none] [] σ) (h : hit (fX10_perform_j114L26 x1 x2 x3 σ) K0) : Run l Ω cX10_perform RX10 5 (some .int) rmX10_perform K 114 [some (rf Ω 10 0), some (.int x1), some (.int x2), some (.int x3), none] [] σ := by
  unfold fX10_perform_j114L26 at h
  refine R_goto (tgt := 26) dX10_perform_114 (by decide) ?_
  exact hC x2 x3 σ h
set_option maxRecDepth 100000 in
set_option maxHeartbeats 4000000 in
theorem rnX10_perform_j106L26 {l : Launch} {Ω : rO} (hW : WF Ω) (x1 : Int32) (x2 : Int32) (z0 : Int32) (hL0 : oL Ω 10 0) (σ : rS) {K : Int32 → rS → Prop} {K0 : ((Int32 × Int32) ⊕ Int32) → rS → Prop} (hC : ∀ (x2 : Int32) (x3 : Int32) (σ : rS), K0 (.inl (x2, x3)) σ → Run l Ω cX10_perform RX10 5 (some .int) rmX10_perform K 26 [some (rf Ω 10 0), some (.int x1), some (.int x2), some (.int x3), none] [] σ) (hE0 : ∀ (e : Int32) (σ : rS), K0 (.inr e) σ → Run l Ω cX10_perform RX10 5 (some .int) rmX10_perform K 117 [none, none, some (.int e), none, none] [] σ) (h : hit (fX10_perform_j106L26 x1 x2 z0 σ) K0) : Run l Ω cX10_perform RX10 5 (some .int) rmX10_perform K 106 [some (rf Ω 10 0), some (.int x1), some (.int x2), none, none] [.int z0] σ := by
  unfold fX10_perform_j106L26 at h
  refine R_istore_n (lv2 := [some (rf Ω 10 0), some (.int x1), some (.int x2), some (.int z0), none]) dX10_perform_106 rfl (by decide) rfl rfl ?_
  refine R_iload_n (i := 3) dX10_perform_107 rfl rfl ?_
  refine R_if_eq (tgt := 114) dX10_perform_108 (by decide) (fun hc => ?_) (fun hc => ?_)
  · have h := hit_t h hc
    exact rnX10_perform_j114L26 hW x1 x2 z0 hL0 σ hC hE0 h
  · have h := hit_f h hc
    refine R_iinc (v := x2 + 1) (lv2 := [some (rf Ω 10 0), some (.int x1), some (.int (x2 + 1)), some (.int z0), none]) dX10_perform_111 rfl rfl (by decide) rfl rfl ?_
    exact rnX10_perform_j114L26 hW x1 (x2 + 1) z0 hL0 σ hC hE0 h
set_option maxRecDepth 100000 in
set_option maxHeartbeats 4000000 in
theorem rsX10_perform_L26 {l : Launch} {Ω : rO} (hW : WF Ω) (x1 : Int32) (x2 : Int32) (x3 : Int32) (hL0 : oL Ω 10 0) (σ : rS) {K : Int32 → rS → Prop} {K0 : ((Int32 × Int32) ⊕ Int32) → rS → Prop} (hC : ∀ (x2 : Int32) (x3 : Int32) (σ : rS), K0 (.inl (x2, x3)) σ → Run l Ω cX10_perform RX10 5 (some .int) rmX10_perform K 26 [some (rf Ω 10 0), some (.int x1), some (.int x2), some (.int x3), none] [] σ) (hE0 : ∀ (e : Int32) (σ : rS), K0 (.inr e) σ → Run l Ω cX10_perform RX10 5 (some .int) rmX10_perform K 117 [none, none, some (.int e), none, none] [] σ) (h : hit (fX10_perform_L26 x1 x2 x3 σ) K0) : Run l Ω cX10_perform RX10 5 (some .int) rmX10_perform K 26 [some (rf Ω 10 0), some (.int x1), some (.int x2), some (.int x3), none] [] σ := by
  unfold fX10_perform_L26 at h
  refine R_iload_n (i := 3) dX10_perform_26 rfl rfl ?_
  refine R_if_eq (tgt := 117) dX10_perform_27 (by decide) (fun hc => ?_) (fun hc => ?_)
  · have h := hit_t h hc
    refine R_drop (lv2 := [none, some (.int x1), some (.int x2), some (.int x3), none]) 0 rfl ?_
    refine R_drop (lv2 := [none, none, some (.int x2), some (.int x3), none]) 1 rfl ?_
    refine R_drop (lv2 := [none, none, some (.int x2), none, none]) 3 rfl ?_
    exact hE0 x2 σ h
  · have h := hit_f h hc
    refine R_iload_n (i := 2) dX10_perform_30 rfl rfl ?_
    refine R_aload_n (i := 0) dX10_perform_31 rfl rfl ?_
    refine R_get foX10_26 hL0 (cE_10 Ω 0 _) rfl dX10_perform_32 ?_
    refine R_iload_n (i := 1) dX10_perform_35 rfl rfl ?_
    obtain ⟨hb, h⟩ := hit_bnd h
    refine R_iald (WF.kid hW 5 hL0 rfl) (cE_65 Ω 0 _) hb dX10_perform_36 ?_
    refine R_icmp_ge (tgt := 117) dX10_perform_37 (by decide) (fun hc => ?_) (fun hc => ?_)
    · have h := hit_f h hc
      refine R_drop (lv2 := [none, some (.int x1), some (.int x2), some (.int x3), none]) 0 rfl ?_
      refine R_drop (lv2 := [none, none, some (.int x2), some (.int x3), none]) 1 rfl ?_
      refine R_drop (lv2 := [none, none, some (.int x2), none, none]) 3 rfl ?_
      exact hE0 x2 σ h
    · have h := hit_t h hc
      refine R_iconst (v := 5) dX10_perform_40 rfl ?_
      refine R_bipush (v := 16) dX10_perform_41 rfl ?_
      refine R_iload_n (i := 1) dX10_perform_43 rfl rfl ?_
      refine R_imul dX10_perform_44 ?_
      refine R_iload_n (i := 2) dX10_perform_45 rfl rfl ?_
      refine R_iadd dX10_perform_46 ?_
      refine R_imul dX10_perform_47 ?_
      refine R_topi h (fun y4 h => ?_)
      refine R_istore (lv2 := [some (rf Ω 10 0), some (.int x1), some (.int x2), some (.int x3), some (.int y4)]) dX10_perform_48 (by decide) rfl rfl ?_
      refine R_aload_n (i := 0) dX10_perform_50 rfl rfl ?_
      refine R_aload_n (i := 0) dX10_perform_51 rfl rfl ?_
      refine R_get foX10_23 hL0 (cE_10 Ω 0 _) rfl dX10_perform_52 ?_
      refine R_iload (i := 4) dX10_perform_55 rfl ?_
      obtain ⟨hb, h⟩ := hit_bnd h
      refine R_iald (WF.kid hW 4 hL0 rfl) (cE_64 Ω 0 _) hb dX10_perform_57 ?_
      refine R_aload_n (i := 0) dX10_perform_58 rfl rfl ?_
      refine R_get foX10_23 hL0 (cE_10 Ω 0 _) rfl dX10_perform_59 ?_
      refine R_iload (i := 4) dX10_perform_62 rfl ?_
      refine R_iconst (v := 1) dX10_perform_64 rfl ?_
      refine R_iadd dX10_perform_65 ?_
      obtain ⟨hb, h⟩ := hit_bnd h
      refine R_iald (WF.kid hW 4 hL0 rfl) (cE_64 Ω 0 _) hb dX10_perform_66 ?_
      refine R_aload_n (i := 0) dX10_perform_67 rfl rfl ?_
      refine R_get foX10_23 hL0 (cE_10 Ω 0 _) rfl dX10_perform_68 ?_
      refine R_iload (i := 4) dX10_perform_71 rfl ?_
      refine R_iconst (v := 2) dX10_perform_73 rfl ?_
      refine R_iadd dX10_perform_74 ?_
      obtain ⟨hb, h⟩ := hit_bnd h
      refine R_iald (WF.kid hW 4 hL0 rfl) (cE_64 Ω 0 _) hb dX10_perform_75 ?_
      refine R_aload_n (i := 0) dX10_perform_76 rfl rfl ?_
      refine R_get foX10_23 hL0 (cE_10 Ω 0 _) rfl dX10_perform_77 ?_
      refine R_iload (i := 4) dX10_perform_80 rfl ?_
      refine R_iconst (v := 3) dX10_perform_82 rfl ?_
      refine R_iadd dX10_perform_83 ?_
      obtain ⟨hb, h⟩ := hit_bnd h
      refine R_iald (WF.kid hW 4 hL0 rfl) (cE_64 Ω 0 _) hb dX10_perform_84 ?_
      refine R_aload_n (i := 0) dX10_perform_85 rfl rfl ?_
      refine R_get foX10_23 hL0 (cE_10 Ω 0 _) rfl dX10_perform_86 ?_
      refine R_iload (i := 4) dX10_perform_89 rfl ?_
      refine R_iconst (v := 4) dX10_perform_91 rfl ?_
      refine R_iadd dX10_perform_92 ?_
      obtain ⟨hb, h⟩ := hit_bnd h
      refine R_iald (WF.kid hW 4 hL0 rfl) (cE_64 Ω 0 _) hb dX10_perform_93 ?_
      refine R_callVi (ctX10_tries l Ω (σ 64 0 (ix y4)) (σ 64 0 (ix (y4 + 1))) (σ 64 0 (ix (y4 + 2))) (σ 64 0 (ix (y4 + 3))) (σ 64 0 (ix (y4 + 4))) hL0 _ _ (hit_mono (hit_bd h) (fun r5 σ6 h => ?_))) okX10_tries mw_1402 hL0 (cE_10 Ω 0 _) rfl rfl (Nat.le_of_ble_eq_true rfl) rfl rfl ⟨by decide, by decide⟩ ⟨Nat.zero_le _, Nat.zero_le _⟩ dX10_perform_94
      refine R_iconst (v := (-1)) dX10_perform_97 rfl ?_
      refine R_icmp_ne (tgt := 105) dX10_perform_98 (by decide) (fun hc => ?_) (fun hc => ?_)
      · have h := hit_f h hc
        refine R_iconst (v := 0) dX10_perform_105 rfl ?_
        refine R_drop (lv2 := [some (rf Ω 10 0), some (.int x1), some (.int x2), none, some (.int y4)]) 3 rfl ?_
        refine R_drop (lv2 := [some (rf Ω 10 0), some (.int x1), some (.int x2), none, none]) 4 rfl ?_
        exact rnX10_perform_j106L26 hW x1 x2 0 hL0 σ6 hC hE0 h
      · have h := hit_t h hc
        refine R_iconst (v := 1) dX10_perform_101 rfl ?_
        refine R_goto (tgt := 106) dX10_perform_102 (by decide) ?_
        refine R_drop (lv2 := [some (rf Ω 10 0), some (.int x1), some (.int x2), none, some (.int y4)]) 3 rfl ?_
        refine R_drop (lv2 := [some (rf Ω 10 0), some (.int x1), some (.int x2), none, none]) 4 rfl ?_
        exact rnX10_perform_j106L26 hW x1 x2 1 hL0 σ6 hC hE0 h
set_option maxRecDepth 100000 in
set_option maxHeartbeats 4000000 in
theorem rlX10_perform_L26 {l : Launch} {Ω : rO} (hW : WF Ω) (x1 : Int32) (hL0 : oL Ω 10 0) {K : Int32 → rS → Prop} {KE : Int32 → rS → Prop} (hE0 : ∀ (e : Int32) (σ : rS), KE e σ → Run l Ω cX10_perform RX10 5 (some .int) rmX10_perform K 117 [none, none, some (.int e), none, none] [] σ) : ∀ (n : Nat) (x2 : Int32) (x3 : Int32) (σ : rS), hit (lp (fun (x : (Int32 × Int32)) σ => fX10_perform_L26 x1 x.1 x.2 σ) n (x2, x3) σ) KE → Run l Ω cX10_perform RX10 5 (some .int) rmX10_perform K 26 [some (rf Ω 10 0), some (.int x1), some (.int x2), some (.int x3), none] [] σ := by
  intro n
  induction n with
  | zero => intro x2 x3 σ h; exact (h : False).elim
  | succ n ih =>
    intro x2 x3 σ h
    exact rsX10_perform_L26 hW x1 x2 x3 hL0 σ (fun x2 x3 σ h => ih x2 x3 σ h) (fun e σ h => hE0 e σ h) (hit_lp h)
set_option maxRecDepth 100000 in
set_option maxHeartbeats 4000000 in
theorem ctX10_perform (l : Launch) (Ω : rO) (x1 : Int32) (hL0 : oL Ω 10 0) (σ : rS) (K : Int32 → rS → Prop) (h : hit (fX10_perform x1 σ) K) : Ct l Ω yX10_perform cX10_perform 5 (some .int) rmX10_perform [rf Ω 10 0, .int x1] σ K := by
  refine Ct.of (own := RX10) (lv := [some (rf Ω 10 0), some (.int x1), none, none, none]) (by decide) rfl (Nat.le_of_ble_eq_true rfl) rfl (fun hW => ?_)
  unfold fX10_perform at h
  refine R_aload_n (i := 0) dX10_perform_0 rfl rfl ?_
  refine R_iconst (v := 0) dX10_perform_1 rfl ?_
  refine R_put poX10_73 hL0 (cE_10 Ω 0 _) (cP_10_0 Ω 0 _ _) (Nat.le_of_ble_eq_true rfl) dX10_perform_2 ?_
  refine R_st h (fun σ1 h => ?_)
  refine R_aload_n (i := 0) dX10_perform_5 rfl rfl ?_
  refine R_iload_n (i := 1) dX10_perform_6 rfl rfl ?_
  refine R_callVi (ctX10_isScript l Ω x1 hL0 _ _ (hit_mono (hit_bd h) (fun r2 σ3 h => ?_))) okX10_isScript mw_1711 hL0 (cE_10 Ω 0 _) rfl rfl (Nat.le_of_ble_eq_true rfl) rfl rfl ⟨by decide, by decide⟩ ⟨Nat.zero_le _, Nat.zero_le _⟩ dX10_perform_7
  refine R_if_eq (tgt := 20) dX10_perform_10 (by decide) (fun hc => ?_) (fun hc => ?_)
  · have h := hit_t h hc
    refine R_iconst (v := (-1)) dX10_perform_20 rfl ?_
    exact R_iret dX10_perform_21 rfl h
  · have h := hit_f h hc
    refine R_aload_n (i := 0) dX10_perform_13 rfl rfl ?_
    refine R_get foX10_157 hL0 (cE_10 Ω 0 _) rfl dX10_perform_14 ?_
    refine R_if_ne (tgt := 22) dX10_perform_17 (by decide) (fun hc => ?_) (fun hc => ?_)
    · have h := hit_f h hc
      refine R_iconst (v := 0) dX10_perform_22 rfl ?_
      refine R_istore_n (lv2 := [some (rf Ω 10 0), some (.int x1), some (.int 0), none, none]) dX10_perform_23 rfl (by decide) rfl rfl ?_
      refine R_iconst (v := 1) dX10_perform_24 rfl ?_
      refine R_istore_n (lv2 := [some (rf Ω 10 0), some (.int x1), some (.int 0), some (.int 1), none]) dX10_perform_25 rfl (by decide) rfl rfl ?_
      refine rlX10_perform_L26 hW x1 hL0 ?_ fu 0 1 σ3 (hit_bd h)
      · intro e8 σ7 h
        try dsimp only at h
        refine R_iload_n (i := 2) dX10_perform_117 rfl rfl ?_
        exact R_iret dX10_perform_118 rfl h
    · have h := hit_t h hc
      refine R_iconst (v := (-1)) dX10_perform_20 rfl ?_
      exact R_iret dX10_perform_21 rfl h
set_option maxRecDepth 100000 in
set_option maxHeartbeats 4000000 in
theorem ctX10_reached (l : Launch) (Ω : rO) (hL0 : oL Ω 10 0) (σ : rS) (K : Int32 → rS → Prop) (h : hit (fX10_reached  σ) K) : Ct l Ω yX10_reached cX10_reached 1 (some .int) rmX10_reached [rf Ω 10 0] σ K := by
  refine Ct.of (own := RX10) (lv := [some (rf Ω 10 0)]) (by decide) rfl (Nat.le_of_ble_eq_true rfl) rfl (fun hW => ?_)
  unfold fX10_reached at h
  refine R_aload_n (i := 0) dX10_reached_0 rfl rfl ?_
  refine R_aload_n (i := 0) dX10_reached_1 rfl rfl ?_
  refine R_get foX10_29 hL0 (cE_10 Ω 0 _) rfl dX10_reached_2 ?_
  refine R_iconst (v := (-1)) dX10_reached_5 rfl ?_
  refine R_iconst (v := 1) dX10_reached_6 rfl ?_
  refine R_callVv (ctX10_reaches l Ω 0 (-1) 1 hL0 (WF.kid hW 6 hL0 rfl) _ _ (hit_mono (hit_bd h) (fun r1 σ2 h => ?_))) okX10_reaches mw_1523 hL0 (cE_10 Ω 0 _) rfl rfl (Nat.le_of_ble_eq_true rfl) rfl rfl ⟨by decide, by decide⟩ ⟨Nat.zero_le _, Nat.zero_le _⟩ dX10_reached_7
  refine R_aload_n (i := 0) dX10_reached_10 rfl rfl ?_
  refine R_get foX10_195 hL0 (cE_10 Ω 0 _) rfl dX10_reached_11 ?_
  exact R_iret dX10_reached_14 rfl h
set_option maxRecDepth 100000 in
set_option maxHeartbeats 4000000 in
theorem rnX10_oldest_j37L4 {l : Launch} {Ω : rO} (hW : WF Ω) (x1 : Int32) (x2 : Int32) (hL0 : oL Ω 10 0) (σ : rS) {K : Int32 → rS → Prop} {K0 : ((Int32 × Int32) ⊕ Int32) → rS → Prop} (hC : ∀ (x1 : Int32) (x2 : Int32) (σ : rS), K0 (.inl (x1, x2)) σ → Run l Ω cX10_oldest RX10 3 (some .int) rmX10_oldest K 4 [some (rf Ω 10 0), some (.int x1), some (.int x2)] [] σ) (hE0 : ∀ (e : Int32) (σ : rS), K0 (.inr e) σ → Run l Ω cX10_oldest RX10 3 (some .int) rmX10_oldest K 43 [none, some (.int e), none] [] σ) (h : hit (fX10_oldest_j37L4 x1 x2 σ) K0) : Run l Ω cX10_oldest RX10 3 (some .int) rmX10_oldest K 37 [some (rf Ω 10 0), some (.int x1), some (.int x2)] [] σ := by
  unfold fX10_oldest_j37L4 at h
  refine R_iinc (v := x2 + 1) (lv2 := [some (rf Ω 10 0), some (.int x1), some (.int (x2 + 1))]) dX10_oldest_37 rfl rfl (by decide) rfl rfl ?_
  refine R_goto (tgt := 4) dX10_oldest_40 (by decide) ?_
  exact hC x1 (x2 + 1) σ h
set_option maxRecDepth 100000 in
set_option maxHeartbeats 4000000 in
theorem rsX10_oldest_L4 {l : Launch} {Ω : rO} (hW : WF Ω) (x1 : Int32) (x2 : Int32) (hL0 : oL Ω 10 0) (σ : rS) {K : Int32 → rS → Prop} {K0 : ((Int32 × Int32) ⊕ Int32) → rS → Prop} (hC : ∀ (x1 : Int32) (x2 : Int32) (σ : rS), K0 (.inl (x1, x2)) σ → Run l Ω cX10_oldest RX10 3 (some .int) rmX10_oldest K 4 [some (rf Ω 10 0), some (.int x1), some (.int x2)] [] σ) (hE0 : ∀ (e : Int32) (σ : rS), K0 (.inr e) σ → Run l Ω cX10_oldest RX10 3 (some .int) rmX10_oldest K 43 [none, some (.int e), none] [] σ) (h : hit (fX10_oldest_L4 x1 x2 σ) K0) : Run l Ω cX10_oldest RX10 3 (some .int) rmX10_oldest K 4 [some (rf Ω 10 0), some (.int x1), some (.int x2)] [] σ := by
  unfold fX10_oldest_L4 at h
  refine R_iload_n (i := 2) dX10_oldest_4 rfl rfl ?_
  refine R_aload_n (i := 0) dX10_oldest_5 rfl rfl ?_
  refine R_get foX10_29 hL0 (cE_10 Ω 0 _) rfl dX10_oldest_6 ?_
  refine R_iconst (v := 0) dX10_oldest_9 rfl ?_
  refine R_iald (WF.kid hW 6 hL0 rfl) (cE_66 Ω 0 _) (vin 0 1554 rfl) dX10_oldest_10 ?_
  refine R_icmp_ge (tgt := 43) dX10_oldest_11 (by decide) (fun hc => ?_) (fun hc => ?_)
  · have h := hit_f h hc
    refine R_drop (lv2 := [none, some (.int x1), some (.int x2)]) 0 rfl ?_
    refine R_drop (lv2 := [none, some (.int x1), none]) 2 rfl ?_
    exact hE0 x1 σ h
  · have h := hit_t h hc
    refine R_aload_n (i := 0) dX10_oldest_14 rfl rfl ?_
    refine R_get foX10_29 hL0 (cE_10 Ω 0 _) rfl dX10_oldest_15 ?_
    refine R_iload_n (i := 2) dX10_oldest_18 rfl rfl ?_
    refine R_iconst (v := 4) dX10_oldest_19 rfl ?_
    refine R_callSi (ctX10_of l Ω 0 x2 4 (WF.kid hW 6 hL0 rfl) _ _ (hit_mono (hit_bd h) (fun r1 σ2 h => ?_))) okX10_of mw_1435 rfl rfl (Nat.le_of_ble_eq_true rfl) rfl rfl ⟨by decide, by decide⟩ ⟨Nat.zero_le _, Nat.zero_le _⟩ dX10_oldest_20
    refine R_iload_n (i := 1) dX10_oldest_23 rfl rfl ?_
    refine R_icmp_le (tgt := 37) dX10_oldest_24 (by decide) (fun hc => ?_) (fun hc => ?_)
    · have h := hit_f h hc
      exact rnX10_oldest_j37L4 hW x1 x2 hL0 σ2 hC hE0 h
    · have h := hit_t h hc
      refine R_aload_n (i := 0) dX10_oldest_27 rfl rfl ?_
      refine R_get foX10_29 hL0 (cE_10 Ω 0 _) rfl dX10_oldest_28 ?_
      refine R_iload_n (i := 2) dX10_oldest_31 rfl rfl ?_
      refine R_iconst (v := 4) dX10_oldest_32 rfl ?_
      refine R_callSi (ctX10_of l Ω 0 x2 4 (WF.kid hW 6 hL0 rfl) _ _ (hit_mono (hit_bd h) (fun r3 σ4 h => ?_))) okX10_of mw_1435 rfl rfl (Nat.le_of_ble_eq_true rfl) rfl rfl ⟨by decide, by decide⟩ ⟨Nat.zero_le _, Nat.zero_le _⟩ dX10_oldest_33
      refine R_istore_n (lv2 := [some (rf Ω 10 0), some (.int r3), some (.int x2)]) dX10_oldest_36 rfl (by decide) rfl rfl ?_
      exact rnX10_oldest_j37L4 hW r3 x2 hL0 σ4 hC hE0 h
set_option maxRecDepth 100000 in
set_option maxHeartbeats 4000000 in
theorem rlX10_oldest_L4 {l : Launch} {Ω : rO} (hW : WF Ω) (hL0 : oL Ω 10 0) {K : Int32 → rS → Prop} {KE : Int32 → rS → Prop} (hE0 : ∀ (e : Int32) (σ : rS), KE e σ → Run l Ω cX10_oldest RX10 3 (some .int) rmX10_oldest K 43 [none, some (.int e), none] [] σ) : ∀ (n : Nat) (x1 : Int32) (x2 : Int32) (σ : rS), hit (lp (fun (x : (Int32 × Int32)) σ => fX10_oldest_L4 x.1 x.2 σ) n (x1, x2) σ) KE → Run l Ω cX10_oldest RX10 3 (some .int) rmX10_oldest K 4 [some (rf Ω 10 0), some (.int x1), some (.int x2)] [] σ := by
  intro n
  induction n with
  | zero => intro x1 x2 σ h; exact (h : False).elim
  | succ n ih =>
    intro x1 x2 σ h
    exact rsX10_oldest_L4 hW x1 x2 hL0 σ (fun x1 x2 σ h => ih x1 x2 σ h) (fun e σ h => hE0 e σ h) (hit_lp h)
set_option maxRecDepth 100000 in
set_option maxHeartbeats 4000000 in
theorem ctX10_oldest (l : Launch) (Ω : rO) (hL0 : oL Ω 10 0) (σ : rS) (K : Int32 → rS → Prop) (h : hit (fX10_oldest  σ) K) : Ct l Ω yX10_oldest cX10_oldest 3 (some .int) rmX10_oldest [rf Ω 10 0] σ K := by
  refine Ct.of (own := RX10) (lv := [some (rf Ω 10 0), none, none]) (by decide) rfl (Nat.le_of_ble_eq_true rfl) rfl (fun hW => ?_)
  unfold fX10_oldest at h
  refine R_iconst (v := 0) dX10_oldest_0 rfl ?_
  refine R_istore_n (lv2 := [some (rf Ω 10 0), some (.int 0), none]) dX10_oldest_1 rfl (by decide) rfl rfl ?_
  refine R_iconst (v := 0) dX10_oldest_2 rfl ?_
  refine R_istore_n (lv2 := [some (rf Ω 10 0), some (.int 0), some (.int 0)]) dX10_oldest_3 rfl (by decide) rfl rfl ?_
  refine rlX10_oldest_L4 hW hL0 ?_ fu 0 0 σ (hit_bd h)
  · intro e6 σ5 h
    try dsimp only at h
    refine R_iload_n (i := 1) dX10_oldest_43 rfl rfl ?_
    exact R_iret dX10_oldest_44 rfl h
set_option maxRecDepth 100000 in
set_option maxHeartbeats 4000000 in
theorem rnX10_linked_j31L4 {l : Launch} {Ω : rO} (hW : WF Ω) (x2 : Int32) (z0 : Int32) (z1 : Int32) (hL0 : oL Ω 10 0) (σ : rS) {K : Int32 → rS → Prop} {K0 : ((Int32 × Int32) ⊕ Int32) → rS → Prop} (hC : ∀ (x1 : Int32) (x2 : Int32) (σ : rS), K0 (.inl (x1, x2)) σ → Run l Ω cX10_linked RX10 3 (some .int) rmX10_linked K 4 [some (rf Ω 10 0), some (.int x1), some (.int x2)] [] σ) (hE0 : ∀ (e : Int32) (σ : rS), K0 (.inr e) σ → Run l Ω cX10_linked RX10 3 (some .int) rmX10_linked K 39 [none, some (.int e), none] [] σ) (h : hit (fX10_linked_j31L4 x2 z0 z1 σ) K0) : Run l Ω cX10_linked RX10 3 (some .int) rmX10_linked K 31 [some (rf Ω 10 0), none, some (.int x2)] [.int z0, .int z1] σ := by
  unfold fX10_linked_j31L4 at h
  refine R_ior dX10_linked_31 ?_
  refine R_topi h (fun y1 h => ?_)
  refine R_istore_n (lv2 := [some (rf Ω 10 0), some (.int y1), some (.int x2)]) dX10_linked_32 rfl (by decide) rfl rfl ?_
  refine R_iinc (v := x2 + 1) (lv2 := [some (rf Ω 10 0), some (.int y1), some (.int (x2 + 1))]) dX10_linked_33 rfl rfl (by decide) rfl rfl ?_
  refine R_goto (tgt := 4) dX10_linked_36 (by decide) ?_
  exact hC y1 (x2 + 1) σ h
set_option maxRecDepth 100000 in
set_option maxHeartbeats 4000000 in
theorem rsX10_linked_L4 {l : Launch} {Ω : rO} (hW : WF Ω) (x1 : Int32) (x2 : Int32) (hL0 : oL Ω 10 0) (σ : rS) {K : Int32 → rS → Prop} {K0 : ((Int32 × Int32) ⊕ Int32) → rS → Prop} (hC : ∀ (x1 : Int32) (x2 : Int32) (σ : rS), K0 (.inl (x1, x2)) σ → Run l Ω cX10_linked RX10 3 (some .int) rmX10_linked K 4 [some (rf Ω 10 0), some (.int x1), some (.int x2)] [] σ) (hE0 : ∀ (e : Int32) (σ : rS), K0 (.inr e) σ → Run l Ω cX10_linked RX10 3 (some .int) rmX10_linked K 39 [none, some (.int e), none] [] σ) (h : hit (fX10_linked_L4 x1 x2 σ) K0) : Run l Ω cX10_linked RX10 3 (some .int) rmX10_linked K 4 [some (rf Ω 10 0), some (.int x1), some (.int x2)] [] σ := by
  unfold fX10_linked_L4 at h
  refine R_iload_n (i := 2) dX10_linked_4 rfl rfl ?_
  refine R_bipush (v := 8) dX10_linked_5 rfl ?_
  refine R_icmp_ge (tgt := 39) dX10_linked_7 (by decide) (fun hc => ?_) (fun hc => ?_)
  · have h := hit_f h hc
    refine R_drop (lv2 := [none, some (.int x1), some (.int x2)]) 0 rfl ?_
    refine R_drop (lv2 := [none, some (.int x1), none]) 2 rfl ?_
    exact hE0 x1 σ h
  · have h := hit_t h hc
    refine R_iload_n (i := 1) dX10_linked_10 rfl rfl ?_
    refine R_aload_n (i := 0) dX10_linked_11 rfl rfl ?_
    refine R_get foX10_29 hL0 (cE_10 Ω 0 _) rfl dX10_linked_12 ?_
    refine R_sipush (v := 881) dX10_linked_15 rfl ?_
    refine R_iload_n (i := 2) dX10_linked_18 rfl rfl ?_
    refine R_iadd dX10_linked_19 ?_
    obtain ⟨hb, h⟩ := hit_bnd h
    refine R_iald (WF.kid hW 6 hL0 rfl) (cE_66 Ω 0 _) hb dX10_linked_20 ?_
    refine R_if_ne (tgt := 28) dX10_linked_21 (by decide) (fun hc => ?_) (fun hc => ?_)
    · have h := hit_f h hc
      refine R_iconst (v := 1) dX10_linked_28 rfl ?_
      refine R_iload_n (i := 2) dX10_linked_29 rfl rfl ?_
      refine R_ishl dX10_linked_30 ?_
      refine R_drop (lv2 := [some (rf Ω 10 0), none, some (.int x2)]) 1 rfl ?_
      exact rnX10_linked_j31L4 hW x2 (1 <<< (x2 &&& 31)) x1 hL0 σ hC hE0 h
    · have h := hit_t h hc
      refine R_iconst (v := 0) dX10_linked_24 rfl ?_
      refine R_goto (tgt := 31) dX10_linked_25 (by decide) ?_
      refine R_drop (lv2 := [some (rf Ω 10 0), none, some (.int x2)]) 1 rfl ?_
      exact rnX10_linked_j31L4 hW x2 0 x1 hL0 σ hC hE0 h
set_option maxRecDepth 100000 in
set_option maxHeartbeats 4000000 in
theorem rlX10_linked_L4 {l : Launch} {Ω : rO} (hW : WF Ω) (hL0 : oL Ω 10 0) {K : Int32 → rS → Prop} {KE : Int32 → rS → Prop} (hE0 : ∀ (e : Int32) (σ : rS), KE e σ → Run l Ω cX10_linked RX10 3 (some .int) rmX10_linked K 39 [none, some (.int e), none] [] σ) : ∀ (n : Nat) (x1 : Int32) (x2 : Int32) (σ : rS), hit (lp (fun (x : (Int32 × Int32)) σ => fX10_linked_L4 x.1 x.2 σ) n (x1, x2) σ) KE → Run l Ω cX10_linked RX10 3 (some .int) rmX10_linked K 4 [some (rf Ω 10 0), some (.int x1), some (.int x2)] [] σ := by
  intro n
  induction n with
  | zero => intro x1 x2 σ h; exact (h : False).elim
  | succ n ih =>
    intro x1 x2 σ h
    exact rsX10_linked_L4 hW x1 x2 hL0 σ (fun x1 x2 σ h => ih x1 x2 σ h) (fun e σ h => hE0 e σ h) (hit_lp h)
set_option maxRecDepth 100000 in
set_option maxHeartbeats 4000000 in
theorem ctX10_linked (l : Launch) (Ω : rO) (hL0 : oL Ω 10 0) (σ : rS) (K : Int32 → rS → Prop) (h : hit (fX10_linked  σ) K) : Ct l Ω yX10_linked cX10_linked 3 (some .int) rmX10_linked [rf Ω 10 0] σ K := by
  refine Ct.of (own := RX10) (lv := [some (rf Ω 10 0), none, none]) (by decide) rfl (Nat.le_of_ble_eq_true rfl) rfl (fun hW => ?_)
  unfold fX10_linked at h
  refine R_iconst (v := 0) dX10_linked_0 rfl ?_
  refine R_istore_n (lv2 := [some (rf Ω 10 0), some (.int 0), none]) dX10_linked_1 rfl (by decide) rfl rfl ?_
  refine R_iconst (v := 0) dX10_linked_2 rfl ?_
  refine R_istore_n (lv2 := [some (rf Ω 10 0), some (.int 0), some (.int 0)]) dX10_linked_3 rfl (by decide) rfl rfl ?_
  refine rlX10_linked_L4 hW hL0 ?_ fu 0 0 σ (hit_bd h)
  · intro e3 σ2 h
    try dsimp only at h
    refine R_iload_n (i := 1) dX10_linked_39 rfl rfl ?_
    exact R_iret dX10_linked_40 rfl h
set_option maxRecDepth 100000 in
set_option maxHeartbeats 4000000 in
theorem ctX10_most (l : Launch) (Ω : rO) (x1 : Int32) (hL0 : oL Ω 10 0) (σ : rS) (K : Int32 → rS → Prop) (h : hit (fX10_most x1 σ) K) : Ct l Ω yX10_most cX10_most 2 (some .int) rmX10_most [rf Ω 10 0, .int x1] σ K := by
  refine Ct.of (own := RX10) (lv := [some (rf Ω 10 0), some (.int x1)]) (by decide) rfl (Nat.le_of_ble_eq_true rfl) rfl (fun hW => ?_)
  unfold fX10_most at h
  refine R_aload_n (i := 0) dX10_most_0 rfl rfl ?_
  refine R_iconst (v := 0) dX10_most_1 rfl ?_
  refine R_put poX10_73 hL0 (cE_10 Ω 0 _) (cP_10_0 Ω 0 _ _) (Nat.le_of_ble_eq_true rfl) dX10_most_2 ?_
  refine R_st h (fun σ1 h => ?_)
  refine R_aload_n (i := 0) dX10_most_5 rfl rfl ?_
  refine R_get foX10_157 hL0 (cE_10 Ω 0 _) rfl dX10_most_6 ?_
  refine R_if_ne (tgt := 16) dX10_most_9 (by decide) (fun hc => ?_) (fun hc => ?_)
  · have h := hit_f h hc
    refine R_iload_n (i := 1) dX10_most_16 rfl rfl ?_
    by_cases hs0 : x1 = 0
    · have h := hit_t h hs0
      refine R_tableIn (tgt := 96) dX10_most_17 (by rw [hs0]; decide) (by rw [hs0]; decide) (by rw [hs0]; rfl) (by decide) ?_
      refine R_aload_n (i := 0) dX10_most_96 rfl rfl ?_
      refine R_get foX10_29 hL0 (cE_10 Ω 0 _) rfl dX10_most_97 ?_
      refine R_iload_n (i := 1) dX10_most_100 rfl rfl ?_
      refine R_callSi (ctX10_cellsIn l Ω 0 x1 (WF.kid hW 6 hL0 rfl) _ _ (hit_mono (hit_bd h) (fun r2 σ3 h => ?_))) okX10_cellsIn mw_1446 rfl rfl (Nat.le_of_ble_eq_true rfl) rfl rfl ⟨by decide, by decide⟩ ⟨Nat.zero_le _, Nat.zero_le _⟩ dX10_most_101
      exact R_iret dX10_most_104 rfl h
    · have h := hit_f h hs0
      by_cases hs1 : x1 = 1
      · have h := hit_t h hs1
        refine R_tableIn (tgt := 96) dX10_most_17 (by rw [hs1]; decide) (by rw [hs1]; decide) (by rw [hs1]; rfl) (by decide) ?_
        refine R_aload_n (i := 0) dX10_most_96 rfl rfl ?_
        refine R_get foX10_29 hL0 (cE_10 Ω 0 _) rfl dX10_most_97 ?_
        refine R_iload_n (i := 1) dX10_most_100 rfl rfl ?_
        refine R_callSi (ctX10_cellsIn l Ω 0 x1 (WF.kid hW 6 hL0 rfl) _ _ (hit_mono (hit_bd h) (fun r4 σ5 h => ?_))) okX10_cellsIn mw_1446 rfl rfl (Nat.le_of_ble_eq_true rfl) rfl rfl ⟨by decide, by decide⟩ ⟨Nat.zero_le _, Nat.zero_le _⟩ dX10_most_101
        exact R_iret dX10_most_104 rfl h
      · have h := hit_f h hs1
        by_cases hs2 : x1 = 2
        · have h := hit_t h hs2
          refine R_tableIn (tgt := 96) dX10_most_17 (by rw [hs2]; decide) (by rw [hs2]; decide) (by rw [hs2]; rfl) (by decide) ?_
          refine R_aload_n (i := 0) dX10_most_96 rfl rfl ?_
          refine R_get foX10_29 hL0 (cE_10 Ω 0 _) rfl dX10_most_97 ?_
          refine R_iload_n (i := 1) dX10_most_100 rfl rfl ?_
          refine R_callSi (ctX10_cellsIn l Ω 0 x1 (WF.kid hW 6 hL0 rfl) _ _ (hit_mono (hit_bd h) (fun r6 σ7 h => ?_))) okX10_cellsIn mw_1446 rfl rfl (Nat.le_of_ble_eq_true rfl) rfl rfl ⟨by decide, by decide⟩ ⟨Nat.zero_le _, Nat.zero_le _⟩ dX10_most_101
          exact R_iret dX10_most_104 rfl h
        · have h := hit_f h hs2
          by_cases hs3 : x1 = 3
          · have h := hit_t h hs3
            refine R_tableIn (tgt := 105) dX10_most_17 (by rw [hs3]; decide) (by rw [hs3]; decide) (by rw [hs3]; rfl) (by decide) ?_
            refine R_aload_n (i := 0) dX10_most_105 rfl rfl ?_
            refine R_get foX10_29 hL0 (cE_10 Ω 0 _) rfl dX10_most_106 ?_
            refine R_iconst (v := 0) dX10_most_109 rfl ?_
            refine R_iald (WF.kid hW 6 hL0 rfl) (cE_66 Ω 0 _) (vin 0 1554 rfl) dX10_most_110 ?_
            exact R_iret dX10_most_111 rfl h
          · have h := hit_f h hs3
            by_cases hs4 : x1 = 4
            · have h := hit_t h hs4
              refine R_tableIn (tgt := 112) dX10_most_17 (by rw [hs4]; decide) (by rw [hs4]; decide) (by rw [hs4]; rfl) (by decide) ?_
              refine R_aload_n (i := 0) dX10_most_112 rfl rfl ?_
              refine R_callVi (ctX10_reached l Ω hL0 _ _ (hit_mono (hit_bd h) (fun r8 σ9 h => ?_))) okX10_reached mw_1727 hL0 (cE_10 Ω 0 _) rfl rfl (Nat.le_of_ble_eq_true rfl) rfl rfl ⟨by decide, by decide⟩ ⟨Nat.zero_le _, Nat.zero_le _⟩ dX10_most_113
              exact R_iret dX10_most_116 rfl h
            · have h := hit_f h hs4
              by_cases hs13 : x1 = 13
              · have h := hit_t h hs13
                refine R_tableIn (tgt := 117) dX10_most_17 (by rw [hs13]; decide) (by rw [hs13]; decide) (by rw [hs13]; rfl) (by decide) ?_
                refine R_aload_n (i := 0) dX10_most_117 rfl rfl ?_
                refine R_callVi (ctX10_oldest l Ω hL0 _ _ (hit_mono (hit_bd h) (fun r10 σ11 h => ?_))) okX10_oldest mw_1731 hL0 (cE_10 Ω 0 _) rfl rfl (Nat.le_of_ble_eq_true rfl) rfl rfl ⟨by decide, by decide⟩ ⟨Nat.zero_le _, Nat.zero_le _⟩ dX10_most_118
                exact R_iret dX10_most_121 rfl h
              · have h := hit_f h hs13
                by_cases hs14 : x1 = 14
                · have h := hit_t h hs14
                  refine R_tableIn (tgt := 122) dX10_most_17 (by rw [hs14]; decide) (by rw [hs14]; decide) (by rw [hs14]; rfl) (by decide) ?_
                  refine R_aload_n (i := 0) dX10_most_122 rfl rfl ?_
                  refine R_callVi (ctX10_linked l Ω hL0 _ _ (hit_mono (hit_bd h) (fun r12 σ13 h => ?_))) okX10_linked mw_1735 hL0 (cE_10 Ω 0 _) rfl rfl (Nat.le_of_ble_eq_true rfl) rfl rfl ⟨by decide, by decide⟩ ⟨Nat.zero_le _, Nat.zero_le _⟩ dX10_most_123
                  exact R_iret dX10_most_126 rfl h
                · have h := hit_f h hs14
                  by_cases hs15 : x1 = 15
                  · have h := hit_t h hs15
                    refine R_tableIn (tgt := 127) dX10_most_17 (by rw [hs15]; decide) (by rw [hs15]; decide) (by rw [hs15]; rfl) (by decide) ?_
                    refine R_aload_n (i := 0) dX10_most_127 rfl rfl ?_
                    refine R_get foX10_29 hL0 (cE_10 Ω 0 _) rfl dX10_most_128 ?_
                    refine R_sipush (v := 1372) dX10_most_131 rfl ?_
                    refine R_iald (WF.kid hW 6 hL0 rfl) (cE_66 Ω 0 _) (vin 1372 1554 rfl) dX10_most_134 ?_
                    exact R_iret dX10_most_135 rfl h
                  · have h := hit_f h hs15
                    refine R_sw (tgt := 136) (lo := 0) (hi := 15) dX10_most_17 (fun z1 z2 => ?_) (by decide) ?_
                    · have e : x1.toInt = 0 ∨ x1.toInt = 1 ∨ x1.toInt = 2 ∨ x1.toInt = 3 ∨ x1.toInt = 4 ∨ x1.toInt = 5 ∨ x1.toInt = 6 ∨ x1.toInt = 7 ∨ x1.toInt = 8 ∨ x1.toInt = 9 ∨ x1.toInt = 10 ∨ x1.toInt = 11 ∨ x1.toInt = 12 ∨ x1.toInt = 13 ∨ x1.toInt = 14 ∨ x1.toInt = 15 := by omega
                      rcases e with e | e | e | e | e | e | e | e | e | e | e | e | e | e | e | e
                      · exact absurd (Int32.toInt_inj.mp (e.trans (by decide : (0 : Int) = (0 : Int32).toInt))) hs0
                      · exact absurd (Int32.toInt_inj.mp (e.trans (by decide : (1 : Int) = (1 : Int32).toInt))) hs1
                      · exact absurd (Int32.toInt_inj.mp (e.trans (by decide : (2 : Int) = (2 : Int32).toInt))) hs2
                      · exact absurd (Int32.toInt_inj.mp (e.trans (by decide : (3 : Int) = (3 : Int32).toInt))) hs3
                      · exact absurd (Int32.toInt_inj.mp (e.trans (by decide : (4 : Int) = (4 : Int32).toInt))) hs4
                      · rw [e]; rfl
                      · rw [e]; rfl
                      · rw [e]; rfl
                      · rw [e]; rfl
                      · rw [e]; rfl
                      · rw [e]; rfl
                      · rw [e]; rfl
                      · rw [e]; rfl
                      · exact absurd (Int32.toInt_inj.mp (e.trans (by decide : (13 : Int) = (13 : Int32).toInt))) hs13
                      · exact absurd (Int32.toInt_inj.mp (e.trans (by decide : (14 : Int) = (14 : Int32).toInt))) hs14
                      · exact absurd (Int32.toInt_inj.mp (e.trans (by decide : (15 : Int) = (15 : Int32).toInt))) hs15
                    refine R_iload_n (i := 1) dX10_most_136 rfl rfl ?_
                    refine R_i2l dX10_most_137 ?_
                    refine R_ldc2 (v := 5) mw_1739 dX10_most_138 ?_
                    refine R_ldc2 (v := 12) mw_1740 dX10_most_141 ?_
                    refine R_callSi (ctX10_isIn l Ω x1.toInt64 5 12 _ _ (hit_mono (hit_bd h) (fun r14 σ15 h => ?_))) okX10_isIn mw_1315 rfl rfl (Nat.le_of_ble_eq_true rfl) rfl rfl ⟨by decide, by decide⟩ ⟨Nat.zero_le _, Nat.zero_le _⟩ dX10_most_144
                    refine R_if_eq (tgt := 165) dX10_most_147 (by decide) (fun hc => ?_) (fun hc => ?_)
                    · have h := hit_t h hc
                      refine R_ldcw (v := (-1000000)) mw_1613 dX10_most_165 ?_
                      exact R_iret dX10_most_168 rfl h
                    · have h := hit_f h hc
                      refine R_aload_n (i := 0) dX10_most_150 rfl rfl ?_
                      refine R_get foX10_29 hL0 (cE_10 Ω 0 _) rfl dX10_most_151 ?_
                      refine R_sipush (v := 1364) dX10_most_154 rfl ?_
                      refine R_iload_n (i := 1) dX10_most_157 rfl rfl ?_
                      refine R_iadd dX10_most_158 ?_
                      refine R_iconst (v := 5) dX10_most_159 rfl ?_
                      refine R_isub dX10_most_160 ?_
                      obtain ⟨hb, h⟩ := hit_bnd h
                      refine R_iald (WF.kid hW 6 hL0 rfl) (cE_66 Ω 0 _) hb dX10_most_161 ?_
                      refine R_goto (tgt := 168) dX10_most_162 (by decide) ?_
                      exact R_iret dX10_most_168 rfl h
  · have h := hit_t h hc
    refine R_ldcw (v := (-1000000)) mw_1613 dX10_most_12 ?_
    exact R_iret dX10_most_15 rfl h
set_option maxRecDepth 100000 in
set_option maxHeartbeats 4000000 in
theorem ctX10_count (l : Launch) (Ω : rO) (x1 : Int32) (hL0 : oL Ω 10 0) (σ : rS) (K : Int32 → rS → Prop) (h : hit (fX10_count x1 σ) K) : Ct l Ω yX10_count cX10_count 2 (some .int) rmX10_count [rf Ω 10 0, .int x1] σ K := by
  refine Ct.of (own := RX10) (lv := [some (rf Ω 10 0), some (.int x1)]) (by decide) rfl (Nat.le_of_ble_eq_true rfl) rfl (fun hW => ?_)
  unfold fX10_count at h
  refine R_aload_n (i := 0) dX10_count_0 rfl rfl ?_
  refine R_iconst (v := 0) dX10_count_1 rfl ?_
  refine R_put poX10_73 hL0 (cE_10 Ω 0 _) (cP_10_0 Ω 0 _ _) (Nat.le_of_ble_eq_true rfl) dX10_count_2 ?_
  refine R_st h (fun σ1 h => ?_)
  refine R_iload_n (i := 1) dX10_count_5 rfl rfl ?_
  by_cases hs0 : x1 = 0
  · have h := hit_t h hs0
    refine R_tableIn (tgt := 40) dX10_count_6 (by rw [hs0]; decide) (by rw [hs0]; decide) (by rw [hs0]; rfl) (by decide) ?_
    refine R_aload_n (i := 0) dX10_count_40 rfl rfl ?_
    refine R_get foX10_29 hL0 (cE_10 Ω 0 _) rfl dX10_count_41 ?_
    refine R_iconst (v := 0) dX10_count_44 rfl ?_
    refine R_iald (WF.kid hW 6 hL0 rfl) (cE_66 Ω 0 _) (vin 0 1554 rfl) dX10_count_45 ?_
    exact R_iret dX10_count_46 rfl h
  · have h := hit_f h hs0
    by_cases hs1 : x1 = 1
    · have h := hit_t h hs1
      refine R_tableIn (tgt := 47) dX10_count_6 (by rw [hs1]; decide) (by rw [hs1]; decide) (by rw [hs1]; rfl) (by decide) ?_
      refine R_aload_n (i := 0) dX10_count_47 rfl rfl ?_
      refine R_get foX10_152 hL0 (cE_10 Ω 0 _) rfl dX10_count_48 ?_
      exact R_iret dX10_count_51 rfl h
    · have h := hit_f h hs1
      by_cases hs2 : x1 = 2
      · have h := hit_t h hs2
        refine R_tableIn (tgt := 52) dX10_count_6 (by rw [hs2]; decide) (by rw [hs2]; decide) (by rw [hs2]; rfl) (by decide) ?_
        refine R_aload_n (i := 0) dX10_count_52 rfl rfl ?_
        refine R_get foX10_77 hL0 (cE_10 Ω 0 _) rfl dX10_count_53 ?_
        exact R_iret dX10_count_56 rfl h
      · have h := hit_f h hs2
        by_cases hs3 : x1 = 3
        · have h := hit_t h hs3
          refine R_tableIn (tgt := 57) dX10_count_6 (by rw [hs3]; decide) (by rw [hs3]; decide) (by rw [hs3]; rfl) (by decide) ?_
          refine R_aload_n (i := 0) dX10_count_57 rfl rfl ?_
          refine R_get foX10_29 hL0 (cE_10 Ω 0 _) rfl dX10_count_58 ?_
          refine R_sipush (v := 1373) dX10_count_61 rfl ?_
          refine R_iald (WF.kid hW 6 hL0 rfl) (cE_66 Ω 0 _) (vin 1373 1554 rfl) dX10_count_64 ?_
          exact R_iret dX10_count_65 rfl h
        · have h := hit_f h hs3
          by_cases hs4 : x1 = 4
          · have h := hit_t h hs4
            refine R_tableIn (tgt := 66) dX10_count_6 (by rw [hs4]; decide) (by rw [hs4]; decide) (by rw [hs4]; rfl) (by decide) ?_
            refine R_aload_n (i := 0) dX10_count_66 rfl rfl ?_
            refine R_get foX10_161 hL0 (cE_10 Ω 0 _) rfl dX10_count_67 ?_
            exact R_iret dX10_count_70 rfl h
          · have h := hit_f h hs4
            refine R_sw (tgt := 71) (lo := 0) (hi := 4) dX10_count_6 (fun z1 z2 => ?_) (by decide) ?_
            · have e : x1.toInt = 0 ∨ x1.toInt = 1 ∨ x1.toInt = 2 ∨ x1.toInt = 3 ∨ x1.toInt = 4 := by omega
              rcases e with e | e | e | e | e
              · exact absurd (Int32.toInt_inj.mp (e.trans (by decide : (0 : Int) = (0 : Int32).toInt))) hs0
              · exact absurd (Int32.toInt_inj.mp (e.trans (by decide : (1 : Int) = (1 : Int32).toInt))) hs1
              · exact absurd (Int32.toInt_inj.mp (e.trans (by decide : (2 : Int) = (2 : Int32).toInt))) hs2
              · exact absurd (Int32.toInt_inj.mp (e.trans (by decide : (3 : Int) = (3 : Int32).toInt))) hs3
              · exact absurd (Int32.toInt_inj.mp (e.trans (by decide : (4 : Int) = (4 : Int32).toInt))) hs4
            refine R_ldcw (v := (-1000000)) mw_1613 dX10_count_71 ?_
            exact R_iret dX10_count_74 rfl h
