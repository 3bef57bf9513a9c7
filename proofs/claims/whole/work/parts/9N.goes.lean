/-! those not kept go, one by one from the top -/
theorem m_goes {τ : rS} {v n k : Nat} (h0 : τ 66 v 0 = nI n) (hk : k < n) (hn : n ≤ 80) : hit (fX10_goes v (nI k) τ) (fun _ s => (∀ q, s 66 v q = if q = 0 then nI (n - 1) else if 1 + 11 * k ≤ q ∧ q < 1 + 11 * (n - 1) then τ 66 v (q + 11) else τ 66 v q) ∧ ∀ c q, ¬ (c = 66 ∧ q = v) → s c q = τ c q) := by
  unfold fX10_goes
  have ec : ∀ (x : Nat) (σ : rS), fX10_cell (nI x) 0 σ = some (nI (1 + 11 * x), σ) := fun x σ => by
    unfold fX10_cell
    have : (1 + 11 * nI x) + 0 = nI (1 + 11 * x + 0) := pm_cell x 0
    rw [this]; rfl
  rw [ec, bd_some]
  refine bd_hit (hit_mono (lp_for (I := fun i s => 1 + 11 * k ≤ i ∧ (∀ q, s 66 v q = if 1 + 11 * k ≤ q ∧ q < i then τ 66 v (q + 11) else τ 66 v q) ∧ ∀ c q, ¬ (c = 66 ∧ q = v) → s c q = τ c q) (P := fun _ s => (∀ q, s 66 v q = if 1 + 11 * k ≤ q ∧ q < 1 + 11 * (n - 1) then τ 66 v (q + 11) else τ 66 v q) ∧ ∀ c q, ¬ (c = 66 ∧ q = v) → s c q = τ c q) (b := 1 + 11 * (n - 1)) ?_ ?_ fu (1 + 11 * k) τ (by omega) (by have := fu_ge; omega) ⟨Nat.le_refl _, fun q => by rw [if_neg (by omega)], fun _ _ _ => rfl⟩) ?_)
  · rintro i s hi ⟨hi1, g1, g2⟩
    unfold fX10_goes_L6
    have e0 : s 66 v (ix 0) = nI n := by
      show s 66 v 0 = _
      rw [g1 0, if_neg (by omega)]; exact h0
    rw [e0, pn_sub1 (by omega), ec, bd_some]
    have e11 : nI i + 11 = nI (i + 11) := nI_add i 11
    rw [e11]
    simp (disch := omega) only [pn_lt, pn_neg, pn_eq, pn_eq0, pn_eq1, pn_eq2, pn_m1, pn_m1', pn_m1lt, pn_ix, pn_bnd, pn_add1, pn_add3, pn_mul4, nI_add, bd_some, st_eq, rd_eq, if_true, if_false, ite_true, ite_false, reduceIte, hi]
    refine hit_some ⟨rfl, by omega, fun q => ?_, fun c q hcq => (wrR_ne _ _ _ _ hcq).trans (g2 c q hcq)⟩
    by_cases eq : q = i
    · subst eq
      rw [wr_same, if_pos (by omega), g1, if_neg (by omega)]
    · rw [wr_i eq, g1]
      by_cases g : 1 + 11 * k ≤ q ∧ q < i
      · rw [if_pos g, if_pos (by omega)]
      · rw [if_neg g, if_neg (by omega)]
  · rintro s ⟨hi1, g1, g2⟩
    unfold fX10_goes_L6
    have e0 : s 66 v (ix 0) = nI n := by
      show s 66 v 0 = _
      rw [g1 0, if_neg (by omega)]; exact h0
    rw [e0, pn_sub1 (by omega), ec, bd_some]
    simp (disch := omega) only [pn_lt, Nat.lt_irrefl, if_false]
    exact hit_some ⟨g1, g2⟩
  · rintro r s ⟨g1, g2⟩
    have e0 : s 66 v (ix 0) = nI n := by
      show s 66 v 0 = _
      rw [g1 0, if_neg (by omega)]; exact h0
    rw [e0, pn_sub1 (by omega), st_eq]
    refine hit_some ⟨fun q => ?_, fun c q hcq => (wrR_ne _ _ _ _ hcq).trans (g2 c q hcq)⟩
    by_cases q0 : q = 0
    · subst q0; rw [if_pos rfl]; exact wr_same _ _ _ _ _
    · rw [if_neg q0, wr_i (show ¬ q = ix 0 from q0)]; exact g1 q
/-- the slot whose record lies at p while those from m on have closed up -/
def kap (kf : Nat → Bool) (n m p : Nat) : Nat := if p < m then p else (kl kf n).getD (rk kf m + (p - m)) 0
def Gst (τ s : rS) (v n : Nat) (kf : Nat → Bool) (m : Nat) : Prop := s 66 v 0 = nI (m + (rk kf n - rk kf m)) ∧ (∀ p c, p < m + (rk kf n - rk kf m) → c < 11 → s 66 v (1 + 11 * p + c) = τ 66 v (1 + 11 * kap kf n m p + c)) ∧ (∀ i, 881 ≤ i → s 66 v i = τ 66 v i) ∧ s 10 0 28 = nI (n - m - (rk kf n - rk kf m)) ∧ (∀ q, ¬ q = 28 → s 10 0 q = τ 10 0 q) ∧ ∀ c q, ¬ (c = 66 ∧ q = v) → ¬ (c = 10 ∧ q = 0) → s c q = τ c q
theorem rk_mono_le {kf : Nat → Bool} {m : Nat} : ∀ {n : Nat}, m ≤ n → rk kf m ≤ rk kf n := by
  intro n
  induction n with
  | zero => intro h; have : m = 0 := by omega
            subst this; exact Nat.le_refl _
  | succ n ih =>
    intro h
    by_cases e : m = n + 1
    · subst e; exact Nat.le_refl _
    · have := ih (by omega)
      by_cases hk : kf n = true
      · rw [rk_yes hk]; omega
      · rw [rk_no hk]; exact this
theorem rk_gap {kf : Nat → Bool} {m : Nat} : ∀ {n : Nat}, m ≤ n → rk kf n - rk kf m ≤ n - m := by
  intro n
  induction n with
  | zero => intro h; have : m = 0 := by omega
            subst this; omega
  | succ n ih =>
    intro h
    by_cases e : m = n + 1
    · subst e; omega
    · have := ih (by omega)
      by_cases hk : kf n = true
      · rw [rk_yes hk]; omega
      · rw [rk_no hk]; omega
theorem Gst_yes {τ s : rS} {v n m : Nat} {kf : Nat → Bool} (h : Gst τ s v n kf (m + 1)) (hm : m < n) (hk : kf m = true) : Gst τ s v n kf m := by
  have h1 := rk_mono_le (kf := kf) (show m + 1 ≤ n by omega)
  have e := rk_yes hk
  obtain ⟨a1, a2, a3, a4, a5, a6⟩ := h
  have eC : m + 1 + (rk kf n - rk kf (m + 1)) = m + (rk kf n - rk kf m) := by omega
  refine ⟨by rw [← eC]; exact a1, fun p c hp hc => ?_, a3, by rw [a4]; congr 1; omega, a5, a6⟩
  rw [a2 p c (by omega) hc]
  congr 3
  unfold kap
  by_cases p1 : p < m
  · rw [if_pos (by omega), if_pos p1]
  · rw [if_neg p1]
    by_cases p2 : p = m
    · subst p2
      rw [if_pos (by omega), show rk kf p + (p - p) = rk kf p by omega, (kl_get hm hk).1]
    · rw [if_neg (by omega), show rk kf (m + 1) + (p - (m + 1)) = rk kf m + (p - m) by omega]
theorem Gst_no {τ s t : rS} {v n m : Nat} {kf : Nat → Bool} (h : Gst τ s v n kf (m + 1)) (hm : m < n) (hn : n ≤ 80) (hk : ¬ kf m = true) (hg : (∀ q, t 66 v q = if q = 0 then nI (m + 1 + (rk kf n - rk kf (m + 1)) - 1) else if 1 + 11 * m ≤ q ∧ q < 1 + 11 * (m + 1 + (rk kf n - rk kf (m + 1)) - 1) then s 66 v (q + 11) else s 66 v q)) (ht : t 10 0 28 = s 10 0 28 + 1) (ht2 : ∀ q, ¬ q = 28 → t 10 0 q = s 10 0 q) (ht3 : ∀ c q, ¬ (c = 66 ∧ q = v) → ¬ (c = 10 ∧ q = 0) → t c q = s c q) : Gst τ t v n kf m := by
  have h1 := rk_mono_le (kf := kf) (show m + 1 ≤ n by omega)
  have hgap := rk_gap (kf := kf) (show m + 1 ≤ n by omega)
  have e := rk_no hk
  obtain ⟨a1, a2, a3, a4, a5, a6⟩ := h
  have eC : m + 1 + (rk kf n - rk kf (m + 1)) - 1 = m + (rk kf n - rk kf m) := by omega
  rw [eC] at hg
  refine ⟨by rw [hg 0, if_pos rfl], fun p c hp hc => ?_, fun i hi => ?_, ?_, fun q hq => (ht2 q hq).trans (a5 q hq), fun c q g1 g2 => (ht3 c q g1 g2).trans (a6 c q g1 g2)⟩
  · rw [hg, if_neg (by omega)]
    by_cases p1 : p < m
    · rw [if_neg (by omega), a2 p c (by omega) hc]
      unfold kap
      rw [if_pos (by omega), if_pos p1]
    · rw [if_pos (by omega), show 1 + 11 * p + c + 11 = 1 + 11 * (p + 1) + c by omega, a2 (p + 1) c (by omega) hc]
      unfold kap
      rw [if_neg (by omega), if_neg p1, show rk kf (m + 1) + (p + 1 - (m + 1)) = rk kf m + (p - m) by omega]
  · rw [hg, if_neg (by omega), if_neg (by omega)]; exact a3 i hi
  · rw [ht, a4, pn_add1]
    congr 1
    omega
theorem Gst_top {τ : rS} {v n : Nat} {kf : Nat → Bool} (h0 : τ 66 v 0 = nI n) (h28 : τ 10 0 28 = 0) : Gst τ τ v n kf n := by
  refine ⟨by rw [h0]; congr 1; omega, fun p c hp hc => ?_, fun _ _ => rfl, by rw [h28, show n - n - (rk kf n - rk kf n) = 0 by omega]; rfl, fun _ _ => rfl, fun _ _ _ _ => rfl⟩
  unfold kap
  rw [if_pos (by omega)]
/-- the loop of a MINOR -/
theorem m_goMinor {τ : rS} {v n : Nat} {kf : Nat → Bool} {Q : List Nat} {sp : Nat → Nat} (h0 : τ 66 v 0 = nI n) (hn : n ≤ 78) (h28 : τ 10 0 28 = 0) (hsp : ∀ i, i < n → τ 66 v (6 + 11 * i) = nI (sp i) ∧ sp i ≤ 2) (hQ : ∀ j, j < 80 → τ 68 0 j = if j ∈ Q then 1 else 0) (hk : ∀ i, i < n → (kf i = true ↔ sp i = 2 ∨ i ∈ Q)) : hit (lp (fun (x : Int32) σ => fX10_minors_L129 v x σ) fu (nI n - 1) τ) (fun _ s => Gst τ s v n kf 0) := by
  refine lp_go (I := fun m x s => x = nI m - 1 ∧ m ≤ n ∧ Gst τ s v n kf m) ?_ fu n _ τ (fu_lt (by omega)) ⟨rfl, Nat.le_refl _, Gst_top h0 h28⟩
  rintro m x s ⟨rfl, hm, hG⟩
  unfold fX10_minors_L129 fX10_minors_j168L129
  cases m with
  | zero =>
    rw [if_pos (by decide)]
    exact hit_some hG
  | succ m =>
    have e1 : nI (m + 1) - 1 = nI m := by rw [pn_sub1 (by omega)]; congr 1
    have e2 : nI m + (-1) = nI m - 1 := by rw [Int32.sub_eq_add_neg]
    have hkm := hk m (by omega)
    obtain ⟨s1, s2⟩ := hsp m (by omega)
    have hrow : s 66 v (1 + 11 * m + 5) = nI (sp m) := by
      rw [hG.2.1 m 5 (by omega) (by omega)]
      unfold kap
      rw [if_pos (by omega), show 1 + 11 * m + 5 = 6 + 11 * m by omega]
      exact s1
    have hold : fX10_isOld v (nI m) s = some (if sp m = 2 then 1 else 0, s) := by
      unfold fX10_isOld
      have e := e_of (v := v) (τ := s) (i := m) (c := 5) (by omega)
      rw [hrow] at e
      have e : fX10_of v (nI m) 5 s = some (nI (sp m), s) := e
      rw [e, bd_some]
      simp (disch := omega) only [pn_lt, pn_neg, pn_eq, pn_eq0, pn_eq1, pn_eq2, pn_m1, pn_m1', pn_m1lt, pn_ix, pn_bnd, pn_add1, pn_add3, pn_mul4, nI_add, bd_some, st_eq, rd_eq, if_true, if_false, ite_true, ite_false, reduceIte]
      split <;> rfl
    have e68 : s 68 0 m = if m ∈ Q then 1 else 0 := by rw [hG.2.2.2.2.2 68 0 (by omega) (by omega)]; exact hQ m (by omega)
    rw [e1, if_neg (nI_pos (by omega)), hold, bd_some]
    have stay : kf m = true → hit (some ((.inl (nI m + -1) : Int32 ⊕ Unit), s)) (fun q s => match q with
        | .inl y => ∃ m', m' < m + 1 ∧ y = nI m' - 1 ∧ m' ≤ n ∧ Gst τ s v n kf m'
        | .inr _ => Gst τ s v n kf 0) := fun hkf => hit_some ⟨m, by omega, e2, by omega, Gst_yes hG (by omega) hkf⟩
    by_cases h2 : sp m = 2
    · rw [if_pos h2, if_neg one_ne]
      exact stay (hkm.mpr (Or.inl h2))
    · rw [if_neg h2, if_pos rfl, pn_bnd (by omega) (by omega), ix_nI (by omega), e68]
      by_cases hq : m ∈ Q
      · rw [if_pos hq, if_neg one_ne]
        exact stay (hkm.mpr (Or.inr hq))
      · rw [if_neg hq, if_pos rfl]
        have hgap := rk_gap (kf := kf) (show m + 1 ≤ n by omega)
        have hno : ¬ kf m = true := fun z => (hkm.mp z).elim h2 hq
        refine bd_hit (hit_mono (m_goes (n := m + 1 + (rk kf n - rk kf (m + 1))) hG.1 (by omega) (by omega)) ?_)
        rintro r t ⟨t1, t2⟩
        rw [st_eq]
        refine hit_some ⟨m, by omega, e2, by omega, Gst_no hG (by omega) (by omega) hno (fun q => by rw [wr_c (by decide)]; exact t1 q) ?_ (fun q hq' => ?_) (fun c q g1 g2 => ?_)⟩
        · rw [wr_same, t2 10 0 (by omega)]
        · rw [wr_i hq', t2 10 0 (by omega)]
        · rw [show wr t 10 0 28 (t 10 0 28 + 1) c q = t c q from wrR_ne _ _ _ _ g2, t2 c q g1]
/-- the loop of a MAJOR -/
theorem m_goMajor {τ : rS} {v n : Nat} {kf : Nat → Bool} {Q : List Nat} {sp : Nat → Nat} (h0 : τ 66 v 0 = nI n) (hn : n ≤ 78) (h28 : τ 10 0 28 = 0) (hsp : ∀ i, i < n → τ 66 v (6 + 11 * i) = nI (sp i) ∧ sp i ≤ 2) (hQ : ∀ j, j < 80 → τ 68 0 j = if j ∈ Q then 1 else 0) (hk : ∀ i, i < n → (kf i = true ↔ ¬ sp i = 2 ∨ i ∈ Q)) : hit (lp (fun (x : Int32) σ => fX10_majors_L187 v x σ) fu (nI n - 1) τ) (fun _ s => Gst τ s v n kf 0) := by
  refine lp_go (I := fun m x s => x = nI m - 1 ∧ m ≤ n ∧ Gst τ s v n kf m) ?_ fu n _ τ (fu_lt (by omega)) ⟨rfl, Nat.le_refl _, Gst_top h0 h28⟩
  rintro m x s ⟨rfl, hm, hG⟩
  unfold fX10_majors_L187 fX10_majors_j226L187
  cases m with
  | zero =>
    rw [if_pos (by decide)]
    exact hit_some hG
  | succ m =>
    have e1 : nI (m + 1) - 1 = nI m := by rw [pn_sub1 (by omega)]; congr 1
    have e2 : nI m + (-1) = nI m - 1 := by rw [Int32.sub_eq_add_neg]
    have hkm := hk m (by omega)
    obtain ⟨s1, s2⟩ := hsp m (by omega)
    have hrow : s 66 v (1 + 11 * m + 5) = nI (sp m) := by
      rw [hG.2.1 m 5 (by omega) (by omega)]
      unfold kap
      rw [if_pos (by omega), show 1 + 11 * m + 5 = 6 + 11 * m by omega]
      exact s1
    have hold : fX10_isOld v (nI m) s = some (if sp m = 2 then 1 else 0, s) := by
      unfold fX10_isOld
      have e := e_of (v := v) (τ := s) (i := m) (c := 5) (by omega)
      rw [hrow] at e
      have e : fX10_of v (nI m) 5 s = some (nI (sp m), s) := e
      rw [e, bd_some]
      simp (disch := omega) only [pn_lt, pn_neg, pn_eq, pn_eq0, pn_eq1, pn_eq2, pn_m1, pn_m1', pn_m1lt, pn_ix, pn_bnd, pn_add1, pn_add3, pn_mul4, nI_add, bd_some, st_eq, rd_eq, if_true, if_false, ite_true, ite_false, reduceIte]
      split <;> rfl
    have e68 : s 68 0 m = if m ∈ Q then 1 else 0 := by rw [hG.2.2.2.2.2 68 0 (by omega) (by omega)]; exact hQ m (by omega)
    rw [e1, if_neg (nI_pos (by omega)), hold, bd_some]
    have stay : kf m = true → hit (some ((.inl (nI m + -1) : Int32 ⊕ Unit), s)) (fun q s => match q with
        | .inl y => ∃ m', m' < m + 1 ∧ y = nI m' - 1 ∧ m' ≤ n ∧ Gst τ s v n kf m'
        | .inr _ => Gst τ s v n kf 0) := fun hkf => hit_some ⟨m, by omega, e2, by omega, Gst_yes hG (by omega) hkf⟩
    by_cases h2 : sp m = 2
    · rw [if_pos h2, if_neg one_ne, pn_bnd (by omega) (by omega), ix_nI (by omega), e68]
      by_cases hq : m ∈ Q
      · rw [if_pos hq, if_neg one_ne]
        exact stay (hkm.mpr (Or.inr hq))
      · rw [if_neg hq, if_pos rfl]
        have hgap := rk_gap (kf := kf) (show m + 1 ≤ n by omega)
        have hno : ¬ kf m = true := fun z => (hkm.mp z).elim (fun y => y h2) hq
        refine bd_hit (hit_mono (m_goes (n := m + 1 + (rk kf n - rk kf (m + 1))) hG.1 (by omega) (by omega)) ?_)
        rintro r t ⟨t1, t2⟩
        rw [st_eq]
        refine hit_some ⟨m, by omega, e2, by omega, Gst_no hG (by omega) (by omega) hno (fun q => by rw [wr_c (by decide)]; exact t1 q) ?_ (fun q hq' => ?_) (fun c q g1 g2 => ?_)⟩
        · rw [wr_same, t2 10 0 (by omega)]
        · rw [wr_i hq', t2 10 0 (by omega)]
        · rw [show wr t 10 0 28 (t 10 0 28 + 1) c q = t c q from wrR_ne _ _ _ _ g2, t2 c q g1]
    · rw [if_neg h2, if_pos rfl]
      exact stay (hkm.mpr (Or.inl h2))
/-- a row but for the remembered -/
def MRx (m : Nat → Int32) (A : Hp) : Prop := MNr m A ∧ (∀ r, r < 8 → m (881 + r) = encN A (hrt A r)) ∧ (m 1242 = nI (hen A).length ∧ ∀ i, i < (hen A).length → m (1243 + i) = nI (hnum A ((hen A).getD i 0))) ∧ (m 1323 = nI (hlo A).length ∧ ∀ i, i < (hlo A).length → m (1324 + i) = nI ((hlo A).getD i 0)) ∧ (∀ t, t < 8 → m (1364 + t) = htl A t) ∧ m 1372 = hfl A
theorem MR.x {m : Nat → Int32} {A : Hp} (h : MR m A) : MRx m A := ⟨⟨h.1, h.2.1⟩, h.2.2.1, h.2.2.2.2.1, h.2.2.2.2.2.1, h.2.2.2.2.2.2.1, h.2.2.2.2.2.2.2⟩
theorem MRx.r {m : Nat → Int32} {A : Hp} (h : MRx m A) (hr : m 889 = nI (hrm A).length ∧ ∀ i, i < (hrm A).length → m (890 + 2 * i) = nI (hnum A ((hrm A).getD i (0, 0)).1) ∧ m (891 + 2 * i) = nI ((hrm A).getD i (0, 0)).2) : MR m A := ⟨h.1.1, h.1.2, h.2.1, hr, h.2.2.1, h.2.2.2.1, h.2.2.2.2.1, h.2.2.2.2.2⟩
theorem encN_cl {M : Hp} {kf : Nat → Bool} {o : Option Nat} (ho : ∀ t, o = some t → t < hn M ∧ kf t = true) : encN (cl M kf) (o.map (rk kf)) = encN M o := by
  cases o with
  | none => rfl
  | some t =>
    obtain ⟨h1, h2⟩ := ho t rfl
    show nI (hnum M (ks M kf (rk kf t))) = nI (hnum M t)
    rw [show ks M kf (rk kf t) = t from (kl_get h1 h2).1]
theorem MRx.close {τ s : rS} {v : Nat} {M : Hp} {kf : Nat → Bool} (h : MRx (τ 66 v) M) (w : ON M) (hb : (hen M).length ≤ 80 ∧ (hlo M).length ≤ 40) (hc : (∀ i, i < hn M → kf i = true → ∀ f t, f < hsz M i → hlk M i f = some t → t < hn M ∧ kf t = true) ∧ (∀ r t, r < 8 → hrt M r = some t → t < hn M ∧ kf t = true) ∧ ∀ j ∈ hen M, j < hn M ∧ kf j = true) (hG : Gst τ s v (hn M) kf 0) : MRx (s 66 v) (cl M kf) := by
  obtain ⟨a1, a2, a3, -⟩ := hG
  have hz0 : rk kf 0 = 0 := rfl
  rw [hz0] at a1 a2
  have hrk := rk_le kf (hn M)
  have hw := w.1
  obtain ⟨⟨h1, h2⟩, h3, ⟨h4, h5⟩, ⟨h6, h7⟩, h8, h9⟩ := h
  refine ⟨⟨?_, fun p hp => ?_⟩, fun r hr => ?_, ⟨?_, fun i hi => ?_⟩, ⟨by rw [a3 1323 (by omega)]; exact h6, fun i hi => by rw [a3 _ (by omega)]; exact h7 i hi⟩, fun t ht => by rw [a3 _ (by omega)]; exact h8 t ht, by rw [a3 _ (by omega)]; exact h9⟩
  · rw [a1]
    show nI (0 + (rk kf (hn M) - 0)) = nI (rk kf (hn M))
    congr 1
    omega
  · have hp : p < rk kf (hn M) := hp
    obtain ⟨k1, k2, k3⟩ := kl_at (kf := kf) (n := hn M) (p := p) hp
    have kp : kap kf (hn M) 0 p = ks M kf p := by
      unfold kap
      rw [if_neg (by omega)]
      show (kl kf (hn M)).getD (rk kf 0 + (p - 0)) 0 = _
      rw [hz0, show 0 + (p - 0) = p by omega]
      rfl
    have rec' : ∀ c, c < 11 → s 66 v (1 + 11 * p + c) = τ 66 v (1 + 11 * ks M kf p + c) := fun c hc' => by
      rw [a2 p c (by omega) hc', kp]
    have k1 : ks M kf p < hn M := k1
    have hz := (w.2.1 _ k1).2.1
    obtain ⟨⟨q1, q2, q3, q4, q5, q6, q7⟩, q8⟩ := h2 _ k1
    have e : ∀ c, c < 11 → s 66 v (1 + c + 11 * p) = τ 66 v (1 + c + 11 * ks M kf p) := fun c hc' => by
      rw [show 1 + c + 11 * p = 1 + 11 * p + c by omega, show 1 + c + 11 * ks M kf p = 1 + 11 * ks M kf p + c by omega]; exact rec' c hc'
    refine ⟨⟨?_, ?_, ?_, ?_, ?_, ?_, ?_⟩, fun f hf => ?_⟩
    · exact (e 0 (by omega)).trans q1
    · exact (e 1 (by omega)).trans q2
    · exact (e 2 (by omega)).trans q3
    · exact (e 3 (by omega)).trans q4
    · exact (e 4 (by omega)).trans q5
    · exact (e 5 (by omega)).trans q6
    · exact (e 6 (by omega)).trans q7
    · have hf : f < hsz M (ks M kf p) := hf
      have hk : hlk (cl M kf) p f = (hlk M (ks M kf p) f).map (rk kf) := rfl
      rw [hk, encN_cl (fun t ht => hc.1 _ k1 k2 f t hf ht), show 8 + 11 * p + f = 1 + 11 * p + (7 + f) by omega, rec' (7 + f) (by omega), show 1 + 11 * ks M kf p + (7 + f) = 8 + 11 * ks M kf p + f by omega]
      exact q8 f hf
  · have hk : hrt (cl M kf) r = (hrt M r).map (rk kf) := rfl
    rw [hk, encN_cl (fun t ht => hc.2.1 r t hr ht), a3 _ (by omega)]
    exact h3 r hr
  · rw [a3 _ (by omega)]
    show _ = nI ((hen M).map (rk kf)).length
    rw [List.length_map]; exact h4
  · have hi : i < ((hen M).map (rk kf)).length := hi
    rw [List.length_map] at hi
    rw [a3 _ (by omega)]
    show _ = nI (hnum M (ks M kf (((hen M).map (rk kf)).getD i 0)))
    obtain ⟨c1, c2⟩ := hc.2.2 _ (getD_mem hi)
    rw [getD_mapN hi, show ks M kf (rk kf ((hen M).getD i 0)) = (hen M).getD i 0 from (kl_get c1 c2).1]
    exact h5 i hi
