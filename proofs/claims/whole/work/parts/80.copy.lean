/-! copies of States and rows -/
theorem cpy_lt {α : Type} {f g : Nat → α} {n i : Nat} (hi : i < n) : va_cpy f g 0 0 n i = f i := by
  unfold va_cpy
  rw [if_pos (by omega), show 0 + (i - 0) = i by omega]
theorem pn_bcp {β : Type} {n a b : Nat} {x : Option β} (h1 : n ≤ a) (h2 : n ≤ b) (hn : n < 2147483648) : bcp 0 0 (nI n) a b x = x := by
  unfold bcp
  refine if_neg (fun h => ?_)
  have e1 : ix (nI n) = n := pn_ix hn
  have e0 : ix 0 = 0 := rfl
  rw [e1, e0] at h
  rcases h with h | h | h | h | h
  · exact absurd h (by decide)
  · exact absurd h (by decide)
  · exact nI_pos hn h
  · omega
  · omega
theorem lnLen_mod (k j : Nat) : lnLen (6 * k + j) = lnLen j := by
  unfold lnLen
  rw [Nat.mul_add_mod]
theorem l_copy {σ : rS} {k0 k1 : Nat} {xs : List Int32} (h : Ln σ k1 xs) (hl : lnLen k0 = lnLen k1) (hk : ¬ k1 = k0) : hit (fX4_copyFrom k0 k1 σ) (fun _ s => Ln s k0 xs) := by
  have h80 := lnLen_le k1
  have hx := h.2.1
  unfold fX4_copyFrom
  rw [h.1, if_neg (by rw [pn_lt (by omega) (by omega)]; omega), st_eq, wr_same, pn_bcp hx (by omega) (by omega), st_eq]
  refine hit_some ⟨?_, by omega, fun i hi => ?_⟩
  · rw [wrR_c (by decide), wr_same]
  · rw [wrR_eq, show ix (nI xs.length) = xs.length from pn_ix (by omega), show ix 0 = 0 from rfl, cpy_lt hi, wr_c (by decide)]
    exact h.2.2 i hi
def CN (σ : rS) (k : Nat) (A : Hp) : Prop := σ 7 k 0 = nI (hn A) ∧ (∀ i, i < hn A → CRo σ k A i) ∧ (∀ r, r < 8 → σ 53 k r = enc (hrt A r)) ∧ (∀ s, s < 3 → σ 54 k s = nI (usedA A s)) ∧ (∀ t, t < 8 → σ 55 k t = htl A t) ∧ σ 7 k 1 = hfl A
theorem hit_fk {α : Type} {S : Nat → Nat → Prop} {σ : rS} {o : Option (α × rS)} {K : α → rS → Prop} (hf : FK S σ o) (h : hit o K) : hit o (fun r s => (∀ c k, ¬ S c k → s c k = σ c k) ∧ K r s) := by
  obtain ⟨r, s, rfl, hK⟩ := hit_iff.mp h
  exact ⟨hf r s rfl, hK⟩
theorem c_copyTail {B : rS} {k0 k1 : Nat} {S : Sta} (hk : ¬ k1 = k0) (hN : CN B k0 S.1) (h : CS B k1 S) : hit (bd (fX4_copyFrom (6 * k0 + 0) (6 * k1 + 0) B) (fun _ σ15 => bd (fX4_copyFrom (6 * k0 + 1) (6 * k1 + 1) σ15) (fun _ σ17 => bd (fX4_copyFrom (6 * k0 + 2) (6 * k1 + 2) σ17) (fun _ σ19 => bd (fX4_copyFrom (6 * k0 + 3) (6 * k1 + 3) σ19) (fun _ σ21 => bd (fX4_copyFrom (6 * k0 + 4) (6 * k1 + 4) σ21) (fun _ σ23 => bd (fX4_copyFrom (6 * k0 + 5) (6 * k1 + 5) σ23) (fun _ σ25 => some ((0 : Int32), σ25)))))))) (fun _ s => CS s k0 S) := by
  have eL : ∀ j, lnLen (6 * k0 + j) = lnLen (6 * k1 + j) := fun j => by rw [lnLen_mod, lnLen_mod]
  have nS : ∀ a c k, (c = 7 ∨ (45 ≤ c ∧ c < 56)) → ¬ SL a c k := fun a c k hc hs => hs.1 hc
  have nL : ∀ a c k, (c = 4 ∨ c = 28) → ¬ k = a → ¬ SL a c k := fun a c k hc hne hs => hne (hs.2 hc)
  have mv : ∀ {a : Nat} {s t : rS} {b : Nat} {xs : List Int32}, (∀ c k, ¬ SL a c k → t c k = s c k) → ¬ b = a → Ln s b xs → Ln t b xs := fun hf hne hL => hL.frame (hf 4 _ (nL _ _ _ (Or.inl rfl) hne)) (hf 28 _ (nL _ _ _ (Or.inr rfl) hne))
  obtain ⟨hR, hL3, hL4, hL5⟩ := h
  have hL0 : Ln B (6 * k1 + 0) ((hen S.1).map nI) := hR.en
  have hL1 := hR.lo
  have hL2 := hR.rm
  refine bd_hit (hit_mono (hit_fk (fkX4_copyFrom _ _ _) (l_copy hL0 (eL 0) (by omega))) ?_)
  rintro r0 s0 ⟨f0, g0⟩
  refine bd_hit (hit_mono (hit_fk (fkX4_copyFrom _ _ _) (l_copy (mv f0 (by omega) hL1) (eL 1) (by omega))) ?_)
  rintro r1 s1 ⟨f1, g1⟩
  refine bd_hit (hit_mono (hit_fk (fkX4_copyFrom _ _ _) (l_copy (mv f1 (by omega) (mv f0 (by omega) hL2)) (eL 2) (by omega))) ?_)
  rintro r2 s2 ⟨f2, g2⟩
  refine bd_hit (hit_mono (hit_fk (fkX4_copyFrom _ _ _) (l_copy (mv f2 (by omega) (mv f1 (by omega) (mv f0 (by omega) hL3))) (eL 3) (by omega))) ?_)
  rintro r3 s3 ⟨f3, g3⟩
  refine bd_hit (hit_mono (hit_fk (fkX4_copyFrom _ _ _) (l_copy (mv f3 (by omega) (mv f2 (by omega) (mv f1 (by omega) (mv f0 (by omega) hL4)))) (eL 4) (by omega))) ?_)
  rintro r4 s4 ⟨f4, g4⟩
  refine bd_hit (hit_mono (hit_fk (fkX4_copyFrom _ _ _) (l_copy (mv f4 (by omega) (mv f3 (by omega) (mv f2 (by omega) (mv f1 (by omega) (mv f0 (by omega) hL5))))) (eL 5) (by omega))) ?_)
  rintro r5 s5 ⟨f5, g5⟩
  have eB : ∀ c, (c = 7 ∨ (45 ≤ c ∧ c < 56)) → s5 c k0 = B c k0 := fun c hc => by
    rw [f5 c k0 (nS _ _ _ hc), f4 c k0 (nS _ _ _ hc), f3 c k0 (nS _ _ _ hc), f2 c k0 (nS _ _ _ hc), f1 c k0 (nS _ _ _ hc), f0 c k0 (nS _ _ _ hc)]
  obtain ⟨n1, n2, n3, n4, n5, n6⟩ := hN
  refine hit_some ⟨⟨by rw [eB 7 (by omega)]; exact n1, fun i hi => ?_, fun r hr => by rw [eB 53 (by omega)]; exact n3 r hr, fun t ht => by rw [eB 54 (by omega)]; exact n4 t ht, fun t ht => by rw [eB 55 (by omega)]; exact n5 t ht, by rw [eB 7 (by omega)]; exact n6, mv f5 (by omega) (mv f4 (by omega) (mv f3 (by omega) (mv f2 (by omega) (mv f1 (by omega) g0)))), mv f5 (by omega) (mv f4 (by omega) (mv f3 (by omega) (mv f2 (by omega) g1))), mv f5 (by omega) (mv f4 (by omega) (mv f3 (by omega) g2))⟩, mv f5 (by omega) (mv f4 (by omega) g3), mv f5 (by omega) g4, g5⟩
  unfold CRo
  rw [eB 45 (by omega), eB 46 (by omega), eB 47 (by omega), eB 48 (by omega), eB 49 (by omega), eB 50 (by omega), eB 51 (by omega), eB 52 (by omega)]
  exact n2 i hi
set_option maxHeartbeats 2000000 in
theorem c_copy {σ : rS} {k0 k1 : Nat} {S : Sta} (w : OK S.1) (hk : ¬ k1 = k0) (h : CS σ k1 S) : hit (fX7_copyFrom k0 k1 σ) (fun _ s => CS s k0 S) := by
  have hw := w.n
  have hC := h.1
  unfold fX7_copyFrom
  have b8 : ∀ x : Option (Int32 × rS), bcp 0 0 8 8 8 x = x := fun x => pn_bcp (n := 8) (by omega) (by omega) (by omega)
  have b3 : ∀ x : Option (Int32 × rS), bcp 0 0 3 3 3 x = x := fun x => pn_bcp (n := 3) (by omega) (by omega) (by omega)
  simp (disch := omega) only [st_eq, wrR_c, wr_c, wr_k, wr_i, wr_same, hC.n, pn_bcp, pn_mul4, b8, b3]
  refine c_copyTail hk ?_ ?_
  · have e8 : ix 8 = 8 := rfl
    have e3 : ix 3 = 3 := rfl
    have e0 : ix 0 = 0 := rfl
    refine ⟨?_, fun i hi => ?_, fun r hr => ?_, fun s hs => ?_, fun t ht => ?_, ?_⟩
    · simp (disch := omega) only [wrR_c, wr_i, wr_same]
    · have hz := w.sz hi
      unfold CRo
      simp (disch := omega) only [wrR_c, wrR_eq, e0, pn_ix, cpy_lt]
      exact ⟨(hC.2.1 i hi).1, fun f hf => by rw [cpy_lt (by omega)]; exact hC.lk hi hf⟩
    · simp (disch := omega) only [wrR_c, wrR_eq, e0, e8, cpy_lt]
      exact hC.rt hr
    · simp (disch := omega) only [wrR_c, wrR_eq, e0, e3, cpy_lt]
      exact hC.us hs
    · simp (disch := omega) only [wrR_c, wrR_eq, e0, e8, cpy_lt]
      exact hC.tl ht
    · simp (disch := omega) only [wrR_c, wr_i, wr_same]
      exact hC.fl
  · refine h.of_eq ?_ (fun c h1 h2 => ?_) (fun j _ => ?_)
    · simp (disch := omega) only [wrR_c, wr_k]
    · have nn : ∀ {s : rS} {c' : Nat} {g : Nat → Int32}, wrR s c' k0 g c k1 = s c k1 := fun {s c' g} => wrR_ne _ _ _ _ (fun q => hk q.2)
      simp (disch := omega) only [nn, wr_c]
    · simp (disch := omega) only [wrR_c, wr_c, and_self]
theorem m_copyRow {τ : rS} {c0 k0 n0 a c2 k2 n2 b : Nat} (ha : a + 1554 ≤ n0) (hb : b + 1554 ≤ n2) (hn0 : n0 < 2147483648) (hn2 : n2 < 2147483648) (hne : ¬ (c0 = c2 ∧ k0 = k2)) : hit (fX10_copyRow c0 k0 n0 (nI a) c2 k2 n2 (nI b) τ) (fun _ s => (∀ i, i < 1554 → s c2 k2 (b + i) = τ c0 k0 (a + i)) ∧ (∀ i, (i < b ∨ b + 1554 ≤ i) → s c2 k2 i = τ c2 k2 i) ∧ ∀ c k, ¬ (c = c2 ∧ k = k2) → s c k = τ c k) := by
  unfold fX10_copyRow
  refine bd_hit (hit_mono (lp_for (I := fun m s => (∀ i, i < m → s c2 k2 (b + i) = τ c0 k0 (a + i)) ∧ (∀ i, (i < b ∨ b + m ≤ i) → s c2 k2 i = τ c2 k2 i) ∧ ∀ c k, ¬ (c = c2 ∧ k = k2) → s c k = τ c k) (P := fun _ s => (∀ i, i < 1554 → s c2 k2 (b + i) = τ c0 k0 (a + i)) ∧ (∀ i, (i < b ∨ b + 1554 ≤ i) → s c2 k2 i = τ c2 k2 i) ∧ ∀ c k, ¬ (c = c2 ∧ k = k2) → s c k = τ c k) (b := 1554) ?_ ?_ fu 0 τ (by omega) (by have := fu_ge; omega) ⟨fun i hi => absurd hi (Nat.not_lt_zero _), fun i _ => rfl, fun c k _ => rfl⟩) (fun _ s h => h))
  · rintro m s hm ⟨h1, h2, h3⟩
    unfold fX10_copyRow_L3
    have e1 : (nI m < 1554) = (m < 1554) := pn_lt (b := 1554) (by omega) (by omega)
    rw [if_pos (show nI m < 1554 by rw [e1]; exact hm)]
    simp (disch := omega) only [pn_lt, pn_neg, pn_eq, pn_eq0, pn_eq1, pn_eq2, pn_m1, pn_m1', pn_m1lt, pn_ix, pn_bnd, pn_add1, pn_add3, pn_mul4, nI_add, bd_some, st_eq, rd_eq, if_true, if_false, ite_true, ite_false, reduceIte]
    refine hit_some ⟨rfl, fun i hi => ?_, fun i hi => ?_, fun c k hck => ?_⟩
    · by_cases e : i = m
      · subst e
        rw [wr_same, h3 c0 k0 hne]
      · rw [wr_i (by omega)]; exact h1 i (by omega)
    · rw [wr_i (by omega)]; exact h2 i (by omega)
    · exact (wrR_ne _ _ _ _ hck).trans (h3 c k hck)
  · rintro s h
    unfold fX10_copyRow_L3
    have e1 : (nI 1554 < 1554) = (1554 < 1554) := pn_lt (b := 1554) (by omega) (by omega)
    rw [if_neg (show ¬ nI 1554 < 1554 by rw [e1]; omega)]
    exact hit_some h
/-- a row shows the same if its first 1554 places are alike -/
theorem MR.congr {m m' : Nat → Int32} {A : Hp} (h : MR m A) (w : OK A) (he : (hen A).length ≤ 80) (hl : (hlo A).length ≤ 40) (hr : (hrm A).length ≤ 176) (e : ∀ i, i < 1373 → m' i = m i) : MR m' A := by
  have hw := w.n
  obtain ⟨h1, h2, h3, ⟨h4, h5⟩, ⟨h6, h7⟩, ⟨h8, h9⟩, h10, h11⟩ := h
  refine ⟨by rw [e 0 (by omega)]; exact h1, fun i hi => ?_, fun r hr => by rw [e _ (by omega)]; exact h3 r hr, ⟨by rw [e _ (by omega)]; exact h4, fun i hi => by rw [e _ (by omega), e _ (by omega)]; exact h5 i hi⟩, ⟨by rw [e _ (by omega)]; exact h6, fun i hi => by rw [e _ (by omega)]; exact h7 i hi⟩, ⟨by rw [e _ (by omega)]; exact h8, fun i hi => by rw [e _ (by omega)]; exact h9 i hi⟩, fun t ht => by rw [e _ (by omega)]; exact h10 t ht, by rw [e _ (by omega)]; exact h11⟩
  have hz := w.sz hi
  unfold MRo
  rw [e _ (by omega), e _ (by omega), e _ (by omega), e _ (by omega), e _ (by omega), e _ (by omega), e _ (by omega)]
  exact ⟨(h2 i hi).1, fun f hf => by rw [e _ (by omega)]; exact (h2 i hi).2 f hf⟩
