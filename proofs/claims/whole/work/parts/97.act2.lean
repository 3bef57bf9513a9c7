/-! small acts: tell, ask -/
theorem OK.kd {A : Hp} (w : OK A) (g : Nat → Int32) : OK (sKd A g) := w
theorem OK.en' {A : Hp} (w : OK A) {E : List Nat} (h : ∀ j ∈ E, j < hn A) : OK (sEn A E) := ⟨w.1, w.2.1, w.2.2.1, h, w.2.2.2.2⟩
theorem OK.lo' {A : Hp} (w : OK A) (E : List Nat) : OK (sLo A E) := w
def doAsk (A : Hp) : AR := match hlo A with
  | [] => .inl 2
  | x :: E => .inr (nI x, nI x, sLo A E)
theorem Ln.get0 {σ : rS} {j : Nat} {x : Int32} {xs : List Int32} (h : Ln σ j (x :: xs)) : fX4_get j 0 σ = some (x, σ) := by
  have := Ln.get h (i := 0) (by rw [List.length_cons]; omega)
  exact this
theorem Ln.get_e {σ : rS} {j : Nat} (h : Ln σ j []) : fX4_get j 0 σ = some (-1, σ) := by
  have h1 : σ 4 j 1 = nI 0 := h.1
  unfold fX4_get
  rw [h1, if_neg (by decide), if_neg (by decide)]
theorem c_ask {σ : rS} {k : Nat} {A : Hp} {L : Lg} (hC : CS σ k (A, L)) : hit (fX0_askLost k σ) (CA k 7 A L (doAsk A)) := by
  have hR0 : CR σ k A := hC.1
  have hL := hR0.lo
  have hl1 := hL.1
  have hl2 := hL.2.1
  have h80 := lnLen_le (6 * k + 1)
  rw [List.length_map] at hl1 hl2
  unfold fX0_askLost doAsk
  cases e : hlo A with
  | nil =>
    rw [e] at hl1
    rw [hl1, if_pos (by decide)]
    exact hit_some ⟨by decide, hC⟩
  | cons x E =>
    rw [e] at hl1 hl2 hL
    have hlen : (x :: E).length = E.length + 1 := rfl
    rw [hl1, if_neg (by rw [pn_eq0 (by omega)]; omega)]
    have hg : fX4_get (6 * k + 1) 0 σ = some (nI x, σ) := Ln.get0 hL
    rw [hg, bd_some]
    refine bd_hit (hit_mono (hit_fk (fkX4_removeAt _ _ _) (l_rem0 hL)) ?_)
    rintro r s ⟨hf, hL2⟩
    have hC1 : CS s k (sLo A E, L) := hC.lo' hf hL2
    refine bd_hit (hit_mono (c_note hC1 7 (nI x)) ?_)
    rintro r2 s2 hS
    exact hit_some ⟨rfl, hS⟩
theorem m_shift7 {τ : rS} {v len : Nat} (h : τ 66 v 1323 = nI len) (h1 : 1 ≤ len) (h2 : len ≤ 40) : hit (lp (fun (x : Int32) σ => fX10_does_L241 v x σ) fu 1 τ) (fun _ s => (∀ p, 1 ≤ p → p < len → s 66 v (1323 + p) = τ 66 v (1324 + p)) ∧ (∀ q, (q ≤ 1323 ∨ 1323 + len ≤ q) → s 66 v q = τ 66 v q) ∧ ∀ c k, ¬ (c = 66 ∧ k = v) → s c k = τ c k) := by
  refine lp_for (I := fun i s => 1 ≤ i ∧ (∀ p, 1 ≤ p → p < i → s 66 v (1323 + p) = τ 66 v (1324 + p)) ∧ (∀ q, (q ≤ 1323 ∨ 1323 + i ≤ q) → s 66 v q = τ 66 v q) ∧ ∀ c k, ¬ (c = 66 ∧ k = v) → s c k = τ c k) (b := len) ?_ ?_ fu 1 τ h1 (by have := fu_ge; omega) ⟨Nat.le_refl _, fun p h1 h2 => by omega, fun q _ => rfl, fun _ _ _ => rfl⟩
  · rintro i s hi ⟨hi1, g1, g2, g3⟩
    unfold fX10_does_L241
    have e0 : s 66 v (ix 1323) = nI len := (g2 1323 (by omega)).trans h
    have e1 : (1323 : Int32) + nI i = nI (1323 + i) := nI_add 1323 i
    rw [e0, e1]
    simp (disch := omega) only [pn_lt, pn_neg, pn_eq, pn_eq0, pn_eq1, pn_eq2, pn_m1, pn_m1', pn_m1lt, pn_ix, pn_bnd, pn_add1, pn_add3, pn_mul4, nI_add, bd_some, st_eq, rd_eq, if_true, if_false, ite_true, ite_false, reduceIte, hi]
    refine hit_some ⟨rfl, by omega, fun p p1 p2 => ?_, fun q hq => ?_, fun c k hck => (wrR_ne _ _ _ _ hck).trans (g3 c k hck)⟩
    · by_cases ep : p = i
      · subst ep
        rw [wr_same, g2 _ (by omega), show 1323 + p + 1 = 1324 + p by omega]
      · rw [wr_i (by omega)]; exact g1 p p1 (by omega)
    · rw [wr_i (by omega)]; exact g2 q (by omega)
  · rintro s ⟨hi1, g1, g2, g3⟩
    unfold fX10_does_L241
    have e0 : s 66 v (ix 1323) = nI len := (g2 1323 (by omega)).trans h
    rw [e0]
    simp (disch := omega) only [pn_lt, pn_neg, pn_eq, pn_eq0, pn_eq1, pn_eq2, pn_m1, pn_m1', pn_m1lt, pn_ix, pn_bnd, pn_add1, pn_add3, pn_mul4, nI_add, bd_some, st_eq, rd_eq, if_true, if_false, ite_true, ite_false, reduceIte, Nat.lt_irrefl]
    exact hit_some ⟨g1, g2, g3⟩
theorem m_ask {τ : rS} {v : Nat} {A : Hp} (hM : MR (τ 66 v) A) (w : OK A) (hb : Bd A) (h11 : ¬ τ 10 0 11 = 0) (x y z d : Int32) : hit (fX10_does v 7 x y z d τ) (MA v τ A (doAsk A)) := by
  have hl0 := hM.lo
  have hb2 := hb.2.1
  have hl0' : τ 66 v (ix 1323) = nI (hlo A).length := hl0
  unfold fX10_does fX10_stops doAsk
  rw [if_neg h11, if_neg (by decide), if_neg (by decide), if_neg (by decide), if_neg (by decide), if_neg (by decide), if_pos rfl, hl0']
  cases e : hlo A with
  | nil =>
    rw [if_pos (by decide), bd_some, if_neg (by decide)]
    exact hit_some ⟨fun _ _ => rfl, rfl, hM⟩
  | cons a E =>
    rw [e] at hb2 hl0
    have hlen : (a :: E).length = E.length + 1 := rfl
    have hg0 := hM.loi (i := 0) (by rw [e]; omega)
    rw [e] at hg0
    rw [if_neg (by rw [pn_eq0 (by omega)]; omega), bd_some, if_pos rfl, if_pos (by decide), if_neg (by decide)]
    unfold fX10_does_j44 fX10_does_j45
    rw [st_eq, if_neg (by decide), if_neg (by decide), if_neg (by decide), if_neg (by decide), if_neg (by decide), if_neg (by decide), if_neg (by decide), st_eq]
    have e1324 : wr τ 10 0 30 0 66 v (ix 1324) = nI a := by rw [wr_c (by decide)]; exact hg0
    rw [e1324]
    have h0 : wr (wr τ 10 0 30 0) 10 0 28 (nI a) 66 v 1323 = nI (E.length + 1) := by rw [wr_c (by decide), wr_c (by decide)]; exact hl0
    refine bd_hit (hit_mono (m_shift7 h0 (by omega) (by omega)) ?_)
    rintro r s ⟨g1, g2, g3⟩
    have s66 : ∀ q, (q ≤ 1323 ∨ 1323 + (E.length + 1) ≤ q) → s 66 v q = τ 66 v q := fun q hq => by rw [g2 q hq, wr_c (by decide), wr_c (by decide)]
    have s10 : s 10 0 = wr (wr τ 10 0 30 0) 10 0 28 (nI a) 10 0 := g3 10 0 (by simp)
    have e0 : s 66 v (ix 1323) = nI (E.length + 1) := (g2 1323 (by omega)).trans h0
    rw [e0, pn_sub1 (by omega), st_eq]
    have e28 : wr s 66 v (ix 1323) (nI (E.length + 1 - 1)) 10 0 28 = nI a := by rw [wr_c (by decide), s10, wr_same]
    rw [e28, st_eq]
    refine hit_some ⟨fun q hq => ?_, rfl, ?_, wr_same _ _ _ _ _, ?_⟩
    · rw [wr_c (by decide), wr_i (show ¬ q = ix 1323 from (by omega : ¬ q = 1323))]; exact s66 q (by omega)
    · rw [wr_i (by decide), e28]
    · refine hM.lo' w hb ?_ (fun i hi => ?_) (fun q h1 h2 => ?_)
      · rw [wr_c (by decide)]
        show wr s 66 v 1323 _ 66 v 1323 = _
        rw [wr_same]; rfl
      · rw [wr_c (by decide), wr_i (show ¬ 1324 + i = ix 1323 from (by omega : ¬ 1324 + i = 1323)), show 1324 + i = 1323 + (i + 1) by omega, g1 (i + 1) (by omega) (by omega), wr_c (by decide), wr_c (by decide), show 1324 + (i + 1) = 1324 + (i + 1) from rfl, hM.loi (by rw [e]; omega), e]
        rfl
      · rw [wr_c (by decide), wr_i (show ¬ q = ix 1323 from (by omega : ¬ q = 1323))]; exact s66 q (by omega)
theorem i_ask {R : Nat → Nat} {b : Nat} {A : Hp} (h : Inv R b A) : IvA R b (doAsk A) := by
  unfold doAsk
  cases e : hlo A with
  | nil => exact (by decide : 2 < 4)
  | cons a E =>
    obtain ⟨h1, h2, h3, h4, h5, h6, h7, h8⟩ := h
    rw [e] at h7 h8
    refine ⟨nI_pos (h8 a List.mem_cons_self), h1, h2, h3, h4, h5, h6, ?_, fun x hx => h8 x (List.mem_cons_of_mem _ hx)⟩
    show E.length ≤ 40
    have : (a :: E).length = E.length + 1 := rfl
    omega
/-! tell the first of the ends -/
def tellA (A : Hp) (r e : Nat) (E : List Nat) : Hp := if r < 8 then sRt (sKd (sEn A E) (upx (hkd A) e 0)) (upx (hrt A) r (some e)) else sKd (sEn A E) (upx (hkd A) e 0)
def doTell (A : Hp) (x : Int32) : AR := match inB x 9 with
  | none => .inl 0
  | some r => match hen A with
    | [] => .inl 2
    | e :: E => .inr (nI (hnum A e), nI (hnum A e), tellA A r e E)
theorem c_tellJ {σ : rS} {k r : Nat} {A : Hp} {L : Lg} (hC : CS σ k (A, L)) (w : OK A) (hr : r < 9) : hit (fX0_tellEnd_j15 k (nI r) σ) (CA k 6 A L (match hen A with
    | [] => .inl 2
    | e :: E => .inr (nI (hnum A e), nI (hnum A e), tellA A r e E))) := by
  have hw := w.n
  have hL := hC.1.en
  unfold fX0_tellEnd_j15
  cases e : hen A with
  | nil =>
    rw [e] at hL
    have hg : fX4_get (6 * k + 0) 0 σ = some (-1, σ) := Ln.get_e hL
    rw [hg, bd_some, e_isSlot_n, bd_some, if_pos rfl]
    exact hit_some ⟨by decide, hC⟩
  | cons a E =>
    have ha := w.en (j := a) (by rw [e]; exact List.mem_cons_self)
    rw [e] at hL
    have hg : fX4_get (6 * k + 0) 0 σ = some (nI a, σ) := Ln.get0 hL
    rw [hg, bd_some, e_isSlot hC.1 w ha, bd_some, if_neg one_ne]
    refine bd_hit (hit_mono (hit_fk (fkX4_removeAt _ _ _) (l_rem0 hL)) ?_)
    rintro r1 s ⟨hf, hL2⟩
    have hC1 : CS s k (sEn A E, L) := hC.en' hf hL2
    have hC2 : CS (wr s 46 k a 0) k (sKd (sEn A E) (upx (hkd A) a 0), L) := cs_kd hC1
    simp (disch := omega) only [pn_lt, pn_neg, pn_eq, pn_eq0, pn_eq1, pn_eq2, pn_m1, pn_m1', pn_m1lt, pn_ix, pn_bnd, pn_add1, pn_add3, pn_mul4, nI_add, bd_some, st_eq, rd_eq, if_true, if_false, ite_true, ite_false, reduceIte]
    have fin : ∀ (t : rS) (A' : Hp), CS t k (A', L) → hn A' = hn A → hnum A' = hnum A → A' = tellA A r a E → hit (fX0_tellEnd_j63 k (nI a) t) (CA k 6 A L (.inr (nI (hnum A a), nI (hnum A a), tellA A r a E))) := fun t A' hS en eq et => by
      unfold fX0_tellEnd_j63
      have e45 : t 45 k a = nI (hnum A a) := by rw [← eq]; exact hS.1.num (by rw [en]; exact ha)
      simp (disch := omega) only [pn_lt, pn_neg, pn_eq, pn_eq0, pn_eq1, pn_eq2, pn_m1, pn_m1', pn_m1lt, pn_ix, pn_bnd, pn_add1, pn_add3, pn_mul4, nI_add, bd_some, st_eq, rd_eq, if_true, if_false, ite_true, ite_false, reduceIte, e45]
      refine bd_hit (hit_mono (c_note hS 6 (nI (hnum A a))) ?_)
      rintro r2 s2 hS2
      have e45' : s2 45 k a = nI (hnum A a) := by rw [← eq]; exact hS2.1.num (by rw [en]; exact ha)
      simp (disch := omega) only [pn_lt, pn_neg, pn_eq, pn_eq0, pn_eq1, pn_eq2, pn_m1, pn_m1', pn_m1lt, pn_ix, pn_bnd, pn_add1, pn_add3, pn_mul4, nI_add, bd_some, st_eq, rd_eq, if_true, if_false, ite_true, ite_false, reduceIte, e45']
      rw [et] at hS2
      exact hit_some ⟨rfl, hS2⟩
    by_cases h8 : r = 8
    · subst h8
      rw [if_pos (by decide)]
      exact fin _ _ hC2 rfl rfl (by unfold tellA; rw [if_neg (by omega)])
    · have e8 : ¬ nI r = 8 := by
        show ¬ nI r = nI 8
        rw [pn_eq (by omega) (by omega)]; exact h8
      rw [if_neg e8]
      simp (disch := omega) only [pn_lt, pn_neg, pn_eq, pn_eq0, pn_eq1, pn_eq2, pn_m1, pn_m1', pn_m1lt, pn_ix, pn_bnd, pn_add1, pn_add3, pn_mul4, nI_add, bd_some, st_eq, rd_eq, if_true, if_false, ite_true, ite_false, reduceIte]
      have hC3 := cs_root hC2 (r := r) (o := some a)
      exact fin _ _ hC3 rfl rfl (by unfold tellA; rw [if_pos (by omega)]; rfl)
theorem c_tell {σ : rS} {k : Nat} {A : Hp} {L : Lg} (hC : CS σ k (A, L)) (w : OK A) (x : Int32) : hit (fX0_tellEnd k x σ) (CA k 6 A L (doTell A x)) := by
  have hR0 : CR σ k A := hC.1
  unfold fX0_tellEnd doTell
  rcases inB_cases x (b := 9) (by omega) with ⟨r, hr, rfl, e⟩ | ⟨e, hx⟩
  · rw [e]
    dsimp only
    by_cases h8 : nI r = 8
    · rw [if_pos h8]
      exact c_tellJ hC w hr
    · rw [if_neg h8, c_isRoot, bd_some, inB_nI (by omega), if_pos (show r < 8 by
        have : ¬ nI r = nI 8 := h8
        rw [pn_eq (by omega) (by omega)] at this
        omega), if_neg one_ne]
      exact c_tellJ hC w hr
  · rw [e]
    dsimp only
    rcases hx with hx | ⟨i, h1, h2, rfl⟩
    · rw [if_neg (show ¬ x = 8 from neg_ne (i := 8) hx (by omega)), c_isRoot, bd_some, inB_neg hx, if_pos rfl]
      exact hit_some ⟨by decide, hC⟩
    · have e8 : ¬ nI i = 8 := by
        show ¬ nI i = nI 8
        rw [pn_eq (by omega) (by omega)]; omega
      rw [if_neg e8, c_isRoot, bd_some, inB_nI h2, if_neg (show ¬ i < 8 by omega), if_pos rfl]
      exact hit_some ⟨by decide, hC⟩
theorem m_shift6 {τ : rS} {v len : Nat} (x2 : Int32) (h : τ 66 v 1242 = nI len) (h1 : 1 ≤ len) (h2 : len ≤ 80) : hit (lp (fun (x : Int32) σ => fX10_tells_L11 v x2 x σ) fu 1 τ) (fun _ s => (∀ p, 1 ≤ p → p < len → s 66 v (1242 + p) = τ 66 v (1243 + p)) ∧ (∀ q, (q ≤ 1242 ∨ 1242 + len ≤ q) → s 66 v q = τ 66 v q) ∧ ∀ c k, ¬ (c = 66 ∧ k = v) → s c k = τ c k) := by
  refine lp_for (I := fun i s => 1 ≤ i ∧ (∀ p, 1 ≤ p → p < i → s 66 v (1242 + p) = τ 66 v (1243 + p)) ∧ (∀ q, (q ≤ 1242 ∨ 1242 + i ≤ q) → s 66 v q = τ 66 v q) ∧ ∀ c k, ¬ (c = 66 ∧ k = v) → s c k = τ c k) (b := len) ?_ ?_ fu 1 τ h1 (by have := fu_ge; omega) ⟨Nat.le_refl _, fun p h1 h2 => by omega, fun q _ => rfl, fun _ _ _ => rfl⟩
  · rintro i s hi ⟨hi1, g1, g2, g3⟩
    unfold fX10_tells_L11
    have e0 : s 66 v (ix 1242) = nI len := (g2 1242 (by omega)).trans h
    have e1 : (1242 : Int32) + nI i = nI (1242 + i) := nI_add 1242 i
    rw [e0, e1]
    simp (disch := omega) only [pn_lt, pn_neg, pn_eq, pn_eq0, pn_eq1, pn_eq2, pn_m1, pn_m1', pn_m1lt, pn_ix, pn_bnd, pn_add1, pn_add3, pn_mul4, nI_add, bd_some, st_eq, rd_eq, if_true, if_false, ite_true, ite_false, reduceIte, hi]
    refine hit_some ⟨rfl, by omega, fun p p1 p2 => ?_, fun q hq => ?_, fun c k hck => (wrR_ne _ _ _ _ hck).trans (g3 c k hck)⟩
    · by_cases ep : p = i
      · subst ep
        rw [wr_same, g2 _ (by omega), show 1242 + p + 1 = 1243 + p by omega]
      · rw [wr_i (by omega)]; exact g1 p p1 (by omega)
    · rw [wr_i (by omega)]; exact g2 q (by omega)
  · rintro s ⟨hi1, g1, g2, g3⟩
    unfold fX10_tells_L11
    have e0 : s 66 v (ix 1242) = nI len := (g2 1242 (by omega)).trans h
    rw [e0]
    simp (disch := omega) only [pn_lt, pn_neg, pn_eq, pn_eq0, pn_eq1, pn_eq2, pn_m1, pn_m1', pn_m1lt, pn_ix, pn_bnd, pn_add1, pn_add3, pn_mul4, nI_add, bd_some, st_eq, rd_eq, if_true, if_false, ite_true, ite_false, reduceIte, Nat.lt_irrefl]
    exact hit_some ⟨g1, g2, g3⟩
theorem m_tell {τ : rS} {v : Nat} {A : Hp} (hM : MR (τ 66 v) A) (w : OK A) (hb : Bd A) (h11 : ¬ τ 10 0 11 = 0) (x y z d : Int32) : hit (fX10_does v 6 x y z d τ) (MA v τ A (doTell A x)) := by
  have hw := w.n
  have hen1 := hM.en
  have hb2 := hb.1
  unfold fX10_does fX10_stops doTell
  rw [if_neg h11, if_neg (by decide), if_neg (by decide), if_neg (by decide), if_neg (by decide), if_pos rfl, show (8 : Int64) = (nI 8).toInt64 by decide, m_in x (by omega), bd_some]
  rcases inB_cases x (b := 9) (by omega) with ⟨i, h, rfl, e⟩ | ⟨e, -⟩
  · rw [e]
    dsimp only
    have h42 : τ 66 v (ix 1242) = nI (hen A).length := hen1
    rw [if_neg one_ne, h42]
    cases ee : hen A with
    | nil =>
      rw [if_pos (by decide), bd_some, if_neg (by decide)]
      exact hit_some ⟨fun _ _ => rfl, rfl, hM⟩
    | cons a E =>
      have ha := w.en (j := a) (by rw [ee]; exact List.mem_cons_self)
      have wE : ∀ j ∈ E, j < hn A := fun j hj => w.en (by rw [ee]; exact List.mem_cons_of_mem _ hj)
      have n1 := w.num1 ha
      have n2 := w.num2 ha
      rw [ee] at hb2 hen1
      have hlen : (a :: E).length = E.length + 1 := rfl
      have hg0 := hM.eni (i := 0) (by rw [ee]; omega)
      rw [ee] at hg0
      rw [if_neg (by rw [pn_eq0 (by omega)]; omega), bd_some, if_pos rfl, if_pos (by decide), if_neg (by decide)]
      unfold fX10_does_j44 fX10_does_j45
      rw [st_eq, if_neg (by decide), if_neg (by decide), if_neg (by decide), if_neg (by decide), if_neg (by decide), if_neg (by decide), if_pos rfl]
      unfold fX10_tells
      have e1243 : wr τ 10 0 30 0 66 v (ix 1243) = nI (hnum A a) := by rw [wr_c (by decide)]; exact hg0
      rw [e1243, st_eq]
      have h0 : wr (wr τ 10 0 30 0) 10 0 28 (nI (hnum A a)) 66 v 1242 = nI (E.length + 1) := by rw [wr_c (by decide), wr_c (by decide)]; exact hen1
      refine bd_hit (bd_hit (hit_mono (m_shift6 _ h0 (by omega) (by omega)) ?_))
      rintro r s ⟨g1, g2, g3⟩
      have s66 : ∀ q, (q ≤ 1242 ∨ 1242 + (E.length + 1) ≤ q) → s 66 v q = τ 66 v q := fun q hq => by rw [g2 q hq, wr_c (by decide), wr_c (by decide)]
      have s10 : s 10 0 = wr (wr τ 10 0 30 0) 10 0 28 (nI (hnum A a)) 10 0 := g3 10 0 (by simp)
      have e0 : s 66 v (ix 1242) = nI (E.length + 1) := (g2 1242 (by omega)).trans h0
      rw [e0, pn_sub1 (by omega), st_eq]
      have e28 : wr s 66 v (ix 1242) (nI (E.length + 1 - 1)) 10 0 28 = nI (hnum A a) := by rw [wr_c (by decide), s10, wr_same]
      have hM1 : MR (wr s 66 v (ix 1242) (nI (E.length + 1 - 1)) 66 v) (sEn A E) := by
        refine hM.en' w hb (by omega) ?_ (fun i hi => ?_) (fun q h1 h2 => ?_)
        · show wr s 66 v 1242 _ 66 v 1242 = _
          rw [wr_same]; rfl
        · rw [wr_i (show ¬ 1243 + i = ix 1242 from (by omega : ¬ 1243 + i = 1242)), show 1243 + i = 1242 + (i + 1) by omega, g1 (i + 1) (by omega) (by omega), wr_c (by decide), wr_c (by decide), hM.eni (by rw [ee]; omega), ee]
          rfl
        · rw [wr_i (show ¬ q = ix 1242 from (by omega : ¬ q = 1242))]; exact s66 q (by omega)
      have w1 := w.en' wE
      have es := e_spotOf_o hM1 w1 (o := some a) (fun j hj => by cases hj; exact ha)
      have es' : fX10_spotOf_ v (nI (hnum A a)) (wr s 66 v (ix 1242) (nI (E.length + 1 - 1))) = some (nI a, wr s 66 v (ix 1242) (nI (E.length + 1 - 1))) := es
      rw [e28, es', bd_some]
      unfold fX10_cell
      rw [bd_some]
      have ec : (1 + 11 * nI a) + 1 = nI (1 + 11 * a + 1) := pm_cell a 1
      rw [ec]
      simp (disch := omega) only [pn_lt, pn_neg, pn_eq, pn_eq0, pn_eq1, pn_eq2, pn_m1, pn_m1', pn_m1lt, pn_ix, pn_bnd, pn_add1, pn_add3, pn_mul4, nI_add, bd_some, st_eq, rd_eq, if_true, if_false, ite_true, ite_false, reduceIte]
      have hM2 : MR (wr (wr s 66 v (ix 1242) (nI (E.length + 1 - 1))) 66 v (1 + 11 * a + 1) 0 66 v) (sKd (sEn A E) (upx (hkd A) a 0)) := by
        refine hM1.kd' w1 ⟨by show E.length ≤ 80; omega, hb.2⟩ ha ?_ (fun q h1 h2 => ?_)
        · rw [show 2 + 11 * a = 1 + 11 * a + 1 by omega, wr_same]
        · rw [wr_i (by omega)]
      have e28' : wr (wr s 66 v (ix 1242) (nI (E.length + 1 - 1))) 66 v (1 + 11 * a + 1) 0 10 0 28 = nI (hnum A a) := by rw [wr_c (by decide)]; exact e28
      have e8 : (nI i < 8) = (i < 8) := pn_lt8 (by omega)
      simp only [e8]
      by_cases h8 : i < 8
      · rw [if_pos h8, pm_881]
        simp (disch := omega) only [pn_lt, pn_neg, pn_eq, pn_eq0, pn_eq1, pn_eq2, pn_m1, pn_m1', pn_m1lt, pn_ix, pn_bnd, pn_add1, pn_add3, pn_mul4, nI_add, bd_some, st_eq, rd_eq, if_true, if_false, ite_true, ite_false, reduceIte, e28']
        have e28b : wr (wr (wr s 66 v (ix 1242) (nI (E.length + 1 - 1))) 66 v (1 + 11 * a + 1) 0) 66 v (881 + i) (nI (hnum A a)) 10 0 28 = nI (hnum A a) := by rw [wr_c (by decide)]; exact e28'
        refine hit_some ?_
        rw [e28b]
        refine hit_some ⟨fun q hq => ?_, rfl, ?_, wr_same _ _ _ _ _, ?_⟩
        · rw [wr_c (by decide), wr_i (by omega), wr_i (by omega), wr_i (show ¬ q = ix 1242 from (by omega : ¬ q = 1242))]; exact s66 q (by omega)
        · rw [wr_i (by decide), e28b]
        · unfold tellA
          rw [if_pos h8]
          refine hM2.root w1 ⟨by show E.length ≤ 80; omega, hb.2⟩ h8 ?_ (fun q h1 h2 => ?_)
          · rw [wr_c (by decide), wr_same]; rfl
          · rw [wr_c (by decide), wr_i h2]
      · rw [if_neg h8]
        refine hit_some ?_
        rw [e28']
        refine hit_some ⟨fun q hq => ?_, rfl, ?_, wr_same _ _ _ _ _, ?_⟩
        · rw [wr_c (by decide), wr_i (by omega), wr_i (show ¬ q = ix 1242 from (by omega : ¬ q = 1242))]; exact s66 q (by omega)
        · rw [wr_i (by decide), e28']
        · unfold tellA
          rw [if_neg h8, wr_c (by decide)]
          exact hM2
  · rw [e, if_pos rfl, bd_some, if_neg (by decide)]
    exact hit_some ⟨fun _ _ => rfl, rfl, hM⟩
theorem i_tell {R : Nat → Nat} {b : Nat} {A : Hp} (h : Inv R b A) (x : Int32) : IvA R b (doTell A x) := by
  have w := h.ok
  unfold doTell
  rcases inB_cases x (b := 9) (by omega) with ⟨i, hi, rfl, e⟩ | ⟨e, -⟩
  · rw [e]
    dsimp only
    cases ee : hen A with
    | nil => exact (by decide : 2 < 4)
    | cons a E =>
      have ha := w.en (j := a) (by rw [ee]; exact List.mem_cons_self)
      have wE : ∀ j ∈ E, j < hn A := fun j hj => w.en (by rw [ee]; exact List.mem_cons_of_mem _ hj)
      have n2 := w.num2 ha
      refine ⟨nI_pos (by omega), ?_⟩
      obtain ⟨h1, h2, h3, h4, h5, h6, h7⟩ := h
      have hI : Inv R b (sKd (sEn A E) (upx (hkd A) a 0)) := by
        rw [ee, List.nodup_cons] at h5
        refine ⟨w.en' wE, h2, h3, fun j hj => ?_, ⟨h5.1.2, fun j hj => ?_⟩, h6, h7⟩
        · obtain ⟨k1, k2, k3⟩ := h4 j hj
          refine ⟨?_, ?_, k3⟩
          · show upx (hkd A) a 0 j = 0 ∨ upx (hkd A) a 0 j = 1 ∨ upx (hkd A) a 0 j = 2
            by_cases ej : j = a
            · rw [ej, upx_same]; exact Or.inl rfl
            · rw [upx_ne ej]; exact k1
          · show upx (hkd A) a 0 j = 1 → 1 ≤ hsz A j
            by_cases ej : j = a
            · rw [ej, upx_same]; intro hc; exact absurd hc (by decide)
            · rw [upx_ne ej]; exact k2
        · show upx (hkd A) a 0 j = 2
          have ej : ¬ j = a := fun ej => h5.1.1 (ej ▸ hj)
          rw [upx_ne ej]
          exact h5.2 j (List.mem_cons_of_mem _ hj)
      unfold tellA
      by_cases h8 : i < 8
      · rw [if_pos h8]
        exact hI.root (r := i) (o := some a) (fun j hj => by cases hj; exact ha)
      · rw [if_neg h8]
        exact hI
  · rw [e]; exact (by decide : 0 < 4)
