/-! a MAJOR, the model's side: slides, and its end -/
theorem sPl_sPl (H : Hp) (f f' : Nat → Nat) : sPl (sPl H f) f' = sPl H f' := by
  have e : (sPl (sPl H f) f').2.1 = (sPl H f').2.1 := by
    funext c i
    show (if c = 3 then f' i else if c = 3 then f i else H.2.1 c i) = if c = 3 then f' i else H.2.1 c i
    by_cases h : c = 3
    · rw [if_pos h, if_pos h]
    · rw [if_neg h, if_neg h, if_neg h]
  exact Prod.ext rfl (Prod.ext e rfl)
theorem sPl_self (H : Hp) : sPl H (hpl H) = H := by
  have e : (sPl H (hpl H)).2.1 = H.2.1 := by
    funext c i
    show (if c = 3 then H.2.1 3 i else H.2.1 c i) = H.2.1 c i
    by_cases h : c = 3
    · rw [if_pos h, h]
    · rw [if_neg h]
  exact Prod.ext rfl (Prod.ext e rfl)
theorem MR.pl' {m m' : Nat → Int32} {H : Hp} (h : MR m H) (w : ON H) (hb : Bd H) {j x : Nat} (hj : j < hn H) (e1 : m' (7 + 11 * j) = nI x) (e : ∀ i, i < 1373 → ¬ i = 7 + 11 * j → m' i = m i) : MR m' (sPl H (upx (hpl H) j x)) := by
  have hw := w.1
  obtain ⟨b1, b2, b3⟩ := hb
  obtain ⟨h1, h2, h3, ⟨h4, h5⟩, ⟨h6, h7⟩, ⟨h8, h9⟩, h10, h11⟩ := h
  refine ⟨by rw [e 0 (by omega) (by omega)]; exact h1, fun i hi => ?_, fun q hq => by rw [e _ (by omega) (by omega)]; exact h3 q hq, ⟨by rw [e _ (by omega) (by omega)]; exact h4, fun i hi => ?_⟩, ⟨by rw [e _ (by omega) (by omega)]; exact h6, fun i hi => ?_⟩, ⟨by rw [e _ (by omega) (by omega)]; exact h8, fun i hi => ?_⟩, fun t ht => by rw [e _ (by omega) (by omega)]; exact h10 t ht, by rw [e _ (by omega) (by omega)]; exact h11⟩
  · have hi : i < hn H := hi
    have hz := (w.2.1 i hi).2.1
    obtain ⟨⟨q1, q2, q3, q4, q5, q6, q7⟩, q8⟩ := h2 i hi
    unfold MRo
    rw [e (1 + 11 * i) (by omega) (by omega), e (2 + 11 * i) (by omega) (by omega), e (3 + 11 * i) (by omega) (by omega), e (4 + 11 * i) (by omega) (by omega), e (5 + 11 * i) (by omega) (by omega), e (6 + 11 * i) (by omega) (by omega)]
    refine ⟨⟨q1, q2, q3, q4, q5, q6, ?_⟩, fun f hf => by have hf : f < hsz H i := hf; rw [e _ (by omega) (by omega)]; exact q8 f hf⟩
    show _ = nI (upx (hpl H) j x i)
    by_cases eq : i = j
    · subst eq; rw [upx_same]; exact e1
    · rw [upx_ne eq, e _ (by omega) (by omega)]; exact q7
  · have hi : i < (hrm H).length := hi
    rw [e _ (by omega) (by omega), e _ (by omega) (by omega)]; exact h5 i hi
  · have hi : i < (hen H).length := hi
    rw [e _ (by omega) (by omega)]; exact h7 i hi
  · have hi : i < (hlo H).length := hi
    rw [e _ (by omega) (by omega)]; exact h9 i hi
theorem dn_lt {p q : Nat} (hp : p < 1000000) (hq : q < 1000000) : (nI p - 1 < nI q) = (p ≤ q) := by
  cases p with
  | zero =>
    have : nI 0 - 1 < nI q := neg_lt (by decide) (nI_pos (by omega))
    exact propext ⟨fun _ => Nat.zero_le _, fun _ => this⟩
  | succ p =>
    rw [pn_sub1 (by omega), show p + 1 - 1 = p by omega, pn_lt (by omega) (by omega)]
    exact propext ⟨fun h => h, fun h => h⟩
theorem slL_skip {A : Hp} {g : Nat → Nat} {p : Nat} : ∀ {q : Nat}, p ≤ q → (∀ x, p ≤ x → x < q → slk A g x = none) → slL A g q = slL A g p := by
  intro q
  induction q with
  | zero => intro h _; have : p = 0 := by omega
            rw [this]
  | succ q ih =>
    intro h hn'
    by_cases e : p = q + 1
    · rw [e]
    · rw [slL_succ]
      unfold slS
      rw [hn' q (by omega) (by omega)]
      exact ih (by omega) (fun x h1 h2 => hn' x h1 (by omega))
/-- the least place from p on among those that stay -/
def lea (A : Hp) (g : Nat → Nat) (p i : Nat) (o : Option Nat) : Prop := match o with
  | none => ∀ j, j < i → hsp A j = 2 → ¬ g j = 0 → ¬ p ≤ hpl A j
  | some j0 => j0 < i ∧ hsp A j0 = 2 ∧ ¬ g j0 = 0 ∧ p ≤ hpl A j0 ∧ ∀ j, j < i → hsp A j = 2 → ¬ g j = 0 → p ≤ hpl A j → hpl A j0 ≤ hpl A j
theorem m_least {τ : rS} {v p : Nat} {A H : Hp} {g : Nat → Nat} {Q : List Nat} (hM : MR (τ 66 v) H) (w : OK H) (en : hn H = hn A) (esp : hsp H = hsp A) (hQ : ∀ j, j < 80 → τ 68 0 j = if j ∈ Q then 1 else 0) (hg : ∀ i, ¬ g i = 0 ↔ i ∈ Q) (hpl' : ∀ j, j < hn A → hsp A j = 2 → ¬ g j = 0 → (p ≤ hpl H j ↔ p ≤ hpl A j) ∧ (p ≤ hpl A j → hpl H j = hpl A j)) (hp : p < 1000) (x2 : Int32) : hit (lp (fun (x : (Int32 × Int32)) σ => fX10_slides_L15 v x2 (nI p - 1) x.1 x.2 σ) fu ((-1), 0) τ) (fun r s => s = τ ∧ ∃ o, r = enc o ∧ lea A g p (hn A) o) := by
  have hw := w.n
  rw [en] at hw
  refine lp_go (I := fun m x s => ∃ i o, x = (enc o, nI i) ∧ i ≤ hn A ∧ m = hn A - i ∧ s = τ ∧ lea A g p i o) ?_ fu (hn A) _ τ (fu_lt (by omega)) ⟨0, none, rfl, by omega, by omega, rfl, fun j hj => absurd hj (Nat.not_lt_zero _)⟩
  rintro m x s ⟨i, o, rfl, hi, rfl, rfl, hl⟩
  have e0 : s 66 v (ix 0) = nI (hn A) := by rw [← en]; exact hM.n
  unfold fX10_slides_L15 fX10_slides_j79L15 fX10_slides_j83L15
  dsimp only
  rw [e0]
  simp (disch := omega) only [pn_lt]
  by_cases hlt : i < hn A
  · have hir : i < hn H := by rw [en]; exact hlt
    have e68 := hQ i (by omega)
    have hp128 := w.pl hir
    rw [if_pos hlt, e_isOld hM w hir, bd_some, esp]
    have skip : ¬ (hsp A i = 2 ∧ ¬ g i = 0 ∧ p ≤ hpl A i) → lea A g p (i + 1) o := fun hno => by
      cases o with
      | none => exact fun j hj h2 hg' hpj => by
                  by_cases ej : j = i
                  · subst ej; exact hno ⟨h2, hg', hpj⟩
                  · exact hl j (by omega) h2 hg' hpj
      | some j0 =>
        obtain ⟨k1, k2, k3, k4, k5⟩ := hl
        exact ⟨by omega, k2, k3, k4, fun j hj h2 hg' hpj => by
          by_cases ej : j = i
          · subst ej; exact absurd ⟨h2, hg', hpj⟩ hno
          · exact k5 j (by omega) h2 hg' hpj⟩
    have stay : ¬ (hsp A i = 2 ∧ ¬ g i = 0 ∧ p ≤ hpl A i) → hit (some ((.inl (enc o, nI i + 1) : (Int32 × Int32) ⊕ Int32), s)) (fun q t => match q with
        | .inl y => ∃ m, m < hn A - i ∧ ∃ i o, y = (enc o, nI i) ∧ i ≤ hn A ∧ m = hn A - i ∧ t = s ∧ lea A g p i o
        | .inr r => t = s ∧ ∃ o, r = enc o ∧ lea A g p (hn A) o) := fun hno => hit_some ⟨hn A - (i + 1), by omega, i + 1, o, by rw [pn_add1], by omega, rfl, rfl, skip hno⟩
    by_cases h2 : hsp A i = 2
    · rw [if_pos h2, if_neg one_ne, pn_bnd (by omega) (by omega), ix_nI (by omega), e68]
      by_cases hq : i ∈ Q
      · have hgi := (hg i).mpr hq
        obtain ⟨q1, q2⟩ := hpl' i hlt h2 hgi
        rw [if_pos hq, if_neg one_ne, e_of6 hM w hir, bd_some]
        simp only [dn_lt (show p < 1000000 by omega) (show hpl H i < 1000000 by omega), q1]
        by_cases hpi : p ≤ hpl A i
        · have epi := q2 hpi
          rw [if_pos hpi]
          cases o with
          | none =>
            rw [enc_none, if_pos rfl]
            refine hit_some ⟨hn A - (i + 1), by omega, i + 1, some i, by rw [pn_add1]; rfl, by omega, rfl, rfl, ?_⟩
            exact ⟨by omega, h2, hgi, hpi, fun j hj h2' hg' hpj => by
              by_cases ej : j = i
              · subst ej; exact Nat.le_refl _
              · exact absurd hpj (hl j (by omega) h2' hg')⟩
          | some j0 =>
            obtain ⟨k1, k2, k3, k4, k5⟩ := hl
            have hj0 : j0 < hn A := by omega
            have hj0r : j0 < hn H := by rw [en]; exact hj0
            have ep0 := (hpl' j0 hj0 k2 k3).2 k4
            have hp0 := w.pl hj0r
            rw [enc_some, if_neg (by rw [pn_m1 (by omega)]; exact id), e_of6 hM w hir, bd_some, e_of6 hM w hj0r, bd_some, epi, ep0]
            simp (disch := omega) only [pn_lt]
            by_cases hc : hpl A i < hpl A j0
            · rw [if_pos hc]
              refine hit_some ⟨hn A - (i + 1), by omega, i + 1, some i, by rw [pn_add1]; rfl, by omega, rfl, rfl, ?_⟩
              exact ⟨by omega, h2, hgi, hpi, fun j hj h2' hg' hpj => by
                by_cases ej : j = i
                · subst ej; exact Nat.le_refl _
                · have := k5 j (by omega) h2' hg' hpj; omega⟩
            · rw [if_neg hc]
              refine hit_some ⟨hn A - (i + 1), by omega, i + 1, some j0, by rw [pn_add1]; rfl, by omega, rfl, rfl, ?_⟩
              exact ⟨by omega, k2, k3, k4, fun j hj h2' hg' hpj => by
                by_cases ej : j = i
                · subst ej; omega
                · exact k5 j (by omega) h2' hg' hpj⟩
        · rw [if_neg hpi]
          exact stay (fun z => hpi z.2.2)
      · rw [if_neg hq, if_pos rfl]
        exact stay (fun z => hq ((hg i).mp z.2.1))
    · rw [if_neg h2, if_pos rfl]
      exact stay (fun z => h2 z.1)
  · rw [if_neg hlt]
    have : i = hn A := by omega
    subst this
    exact hit_some ⟨rfl, o, rfl, hl⟩
theorem sPl_OK {H : Hp} (w : OK H) {f : Nat → Nat} (hf : ∀ i, i < hn H → f i ≤ 128) : OK (sPl H f) := by
  refine ⟨w.1, fun i hi => ?_, w.2.2⟩
  obtain ⟨o1, o2, o3, o4, o5⟩ := w.2.1 i hi
  exact ⟨o1, o2, o3, hf i hi, o5⟩
set_option maxHeartbeats 2000000 in
theorem m_slides {τ : rS} {v : Nat} {R : Nat → Nat} {b : Nat} {A H0 : Hp} {g : Nat → Nat} {Q : List Nat} (hM : MR (τ 66 v) H0) (w : OK H0) (hb : Bd H0) (hI : Inv R b A) (hR : R 2 ≤ 128) (hc : H0.1 = A.1 ∧ H0.2.1 = A.2.1) (hQ : ∀ j, j < 80 → τ 68 0 j = if j ∈ Q then 1 else 0) (hg : ∀ i, ¬ g i = 0 ↔ i ∈ Q) : hit (fX10_slides v τ) (fun _ s => MR (s 66 v) (sPl H0 (slL A g 128).2.1) ∧ LGr τ s v ∧ s 10 0 29 = nI (slL A g 128).2.2 ∧ (∀ q, ¬ q = 29 → s 10 0 q = τ 10 0 q) ∧ ∀ c k, ¬ (c = 66 ∧ k = v) → ¬ (c = 10 ∧ k = 0) → s c k = τ c k) := by
  have wA := hI.ok
  have en : hn H0 = hn A := hc.1
  have esz : hsz H0 = hsz A := by unfold hsz; rw [hc.2]
  have esp : hsp H0 = hsp A := by unfold hsp; rw [hc.2]
  have epl : hpl H0 = hpl A := by unfold hpl; rw [hc.2]
  have hAp := jApart hI
  have hsz4 : ∀ j, j < hn A → hsz A j ≤ 4 := fun j hj => wA.sz hj
  have hpl128 : ∀ p i, i < hn A → (slL A g p).2.1 i ≤ 128 := fun p i hi => by
    obtain ⟨-, q2, q3, -⟩ := SLI_all (g := g) hAp hsz4 p
    have := wA.pl hi
    by_cases hq : i < hn A ∧ hsp A i = 2 ∧ ¬ g i = 0 ∧ hpl A i < p
    · have := (q2 i hi hq.2.1 hq.2.2.1 hq.2.2.2).2; omega
    · rw [q3 i hq]; omega
  unfold fX10_slides
  rw [st_eq]
  refine bd_hit (hit_mono (lp_go (I := fun m x s => ∃ p, x = (nI (slL A g p).1, nI p - 1) ∧ p ≤ 128 ∧ m = 128 - p ∧ MR (s 66 v) (sPl H0 (slL A g p).2.1) ∧ LGr τ s v ∧ s 10 0 29 = nI (slL A g p).2.2 ∧ (∀ q, ¬ q = 29 → s 10 0 q = τ 10 0 q) ∧ ∀ c k, ¬ (c = 66 ∧ k = v) → ¬ (c = 10 ∧ k = 0) → s c k = τ c k) (P := fun _ s => MR (s 66 v) (sPl H0 (slL A g 128).2.1) ∧ LGr τ s v ∧ s 10 0 29 = nI (slL A g 128).2.2 ∧ (∀ q, ¬ q = 29 → s 10 0 q = τ 10 0 q) ∧ ∀ c k, ¬ (c = 66 ∧ k = v) → ¬ (c = 10 ∧ k = 0) → s c k = τ c k) ?_ fu 128 _ (wr τ 10 0 29 0) (fu_lt (by omega)) ⟨0, rfl, by omega, rfl, ?_, ?_, ?_, ?_, ?_⟩) (fun _ s h => h))
  · rintro m x s ⟨p, rfl, hp, rfl, g1, g2, g3, g4, g5⟩
    obtain ⟨-, c2, c3, -, c5, c6⟩ := SLI_all (g := g) hAp hsz4 p
    have wP : OK (sPl H0 (slL A g p).2.1) := sPl_OK w (fun i hi => hpl128 p i (by rw [← en]; exact hi))
    have hbP : Bd (sPl H0 (slL A g p).2.1) := hb
    have hlea := m_least (τ := s) (v := v) (p := p) (A := A) (H := sPl H0 (slL A g p).2.1) (g := g) (Q := Q) g1 wP en esp (fun j hj => by rw [g5 68 0 (by omega) (by omega)]; exact hQ j hj) hg (fun j hj h2 hg' => by
      show (p ≤ (slL A g p).2.1 j ↔ p ≤ hpl A j) ∧ (p ≤ hpl A j → (slL A g p).2.1 j = hpl A j)
      by_cases hq : hpl A j < p
      · have := (c2 j hj h2 hg' hq).2
        exact ⟨⟨fun z => by omega, fun z => by omega⟩, fun z => by omega⟩
      · rw [c3 j (fun z => hq z.2.2.2)]
        exact ⟨Iff.rfl, fun _ => rfl⟩) (by omega) (nI (slL A g p).1)
    unfold fX10_slides_L9
    dsimp only
    refine bd_hit (hit_mono hlea ?_)
    rintro r t ⟨rfl, o, rfl, hl⟩
    cases o with
    | none =>
      rw [enc_none, if_pos rfl]
      have e128 : slL A g 128 = slL A g p := slL_skip hp (fun x h1 h2 => by
        cases h : slk A g x with
        | none => rfl
        | some j =>
          obtain ⟨k1, k2, k3, k4⟩ := slk_some h
          exact absurd (by omega) (hl j k1 k2 k3))
      rw [e128]
      exact hit_some ⟨g1, g2, g3, g4, g5⟩
    | some j0 =>
      obtain ⟨k1, k2, k3, k4, k5⟩ := hl
      have h128 := jpl128 hI hR k1 k2
      have eq : slL A g (hpl A j0) = slL A g p := slL_skip k4 (fun x h1 h2 => by
        cases h : slk A g x with
        | none => rfl
        | some j =>
          obtain ⟨m1, m2, m3, m4⟩ := slk_some h
          have := k5 j m1 m2 m3 (by omega)
          omega)
      have eS := slL_succ A g (hpl A j0)
      rw [eq] at eS
      unfold slS at eS
      rw [slk_is hAp k1 k2 k3] at eS
      dsimp only at eS
      have hnx := c5 j0 k1 k2 k3 k4
      have hj0r : j0 < hn (sPl H0 (slL A g p).2.1) := by show j0 < hn H0; rw [en]; exact k1
      have hw := wA.n
      have ecur : hpl (sPl H0 (slL A g p).2.1) j0 = hpl A j0 := by
        show (slL A g p).2.1 j0 = _
        exact c3 j0 (fun z => by omega)
      have hzz := hsz4 j0 k1
      rw [enc_some, if_neg (by rw [pn_m1 (by omega)]; exact id), e_of6 g1 wP hj0r, bd_some, ecur]
      have fin : ∀ z : Nat, z = (if hpl A j0 = (slL A g p).1 then 0 else 1) → hit (fX10_slides_j120L9 v (nI (slL A g p).1) (nI (hpl A j0)) (nI j0) (nI z) (t 10 0 29) t) (fun q s => match q with
          | .inl y => ∃ m, m < 128 - p ∧ ∃ p, y = (nI (slL A g p).1, nI p - 1) ∧ p ≤ 128 ∧ m = 128 - p ∧ MR (s 66 v) (sPl H0 (slL A g p).2.1) ∧ LGr τ s v ∧ s 10 0 29 = nI (slL A g p).2.2 ∧ (∀ q, ¬ q = 29 → s 10 0 q = τ 10 0 q) ∧ ∀ c k, ¬ (c = 66 ∧ k = v) → ¬ (c = 10 ∧ k = 0) → s c k = τ c k
          | .inr _ => MR (s 66 v) (sPl H0 (slL A g 128).2.1) ∧ LGr τ s v ∧ s 10 0 29 = nI (slL A g 128).2.2 ∧ (∀ q, ¬ q = 29 → s 10 0 q = τ 10 0 q) ∧ ∀ c k, ¬ (c = 66 ∧ k = v) → ¬ (c = 10 ∧ k = 0) → s c k = τ c k) := fun z hz => by
        unfold fX10_slides_j120L9 fX10_cell
        have ec : (1 + 11 * nI j0) + 6 = nI (1 + 11 * j0 + 6) := pm_cell j0 6
        rw [g3, nI_add, st_eq, bd_some, ec, pn_bnd (by omega) (by omega), ix_nI (by omega), st_eq]
        have hM2 : MR (wr (wr t 10 0 29 (nI ((slL A g p).2.2 + z))) 66 v (1 + 11 * j0 + 6) (nI (slL A g p).1) 66 v) (sPl H0 (upx (slL A g p).2.1 j0 (slL A g p).1)) := by
          have := MR.pl' (m' := wr (wr t 10 0 29 (nI ((slL A g p).2.2 + z))) 66 v (1 + 11 * j0 + 6) (nI (slL A g p).1) 66 v) (x := (slL A g p).1) g1 wP.on hbP hj0r (by rw [show 7 + 11 * j0 = 1 + 11 * j0 + 6 by omega, wr_same]) (fun i h1 h2 => by rw [wr_i (by omega), wr_c (by decide)])
          rw [sPl_sPl] at this
          exact this
        have wP2 : OK (sPl H0 (upx (slL A g p).2.1 j0 (slL A g p).1)) := sPl_OK w (fun i hi => by
          by_cases ei : i = j0
          · subst ei; rw [upx_same]; omega
          · rw [upx_ne ei]; exact hpl128 p i (by rw [← en]; exact hi))
        have hsz2 : hsz (sPl H0 (upx (slL A g p).2.1 j0 (slL A g p).1)) j0 = hsz A j0 := by show hsz H0 j0 = _; rw [esz]
        rw [e_sizeOf hM2 wP2 hj0r, bd_some, hsz2, nI_add, rd_eq]
        refine hit_some ⟨128 - (hpl A j0 + 1), by omega, hpl A j0 + 1, ?_, by omega, rfl, ?_, fun i hi => ?_, ?_, fun q hq => ?_, fun c k h1 h2 => ?_⟩
        · rw [eS, pn_sub1 (by omega)]
          rfl
        · rw [eS]; exact hM2
        · rw [wr_i (by omega), wr_c (by decide)]; exact g2 i hi
        · rw [eS, wr_c (by decide), wr_same, hz]
        · rw [wr_c (by decide), wr_i hq]; exact g4 q hq
        · rw [show wr (wr t 10 0 29 (nI ((slL A g p).2.2 + z))) 66 v (1 + 11 * j0 + 6) (nI (slL A g p).1) c k = wr t 10 0 29 (nI ((slL A g p).2.2 + z)) c k from wrR_ne _ _ _ _ h1, show wr t 10 0 29 (nI ((slL A g p).2.2 + z)) c k = t c k from wrR_ne _ _ _ _ h2]
          exact g5 c k h1 h2
      simp (disch := omega) only [pn_eq]
      by_cases hc' : hpl A j0 = (slL A g p).1
      · rw [if_pos hc']
        refine hit_mono (fin 0 (if_pos hc').symm) (fun q s h => ?_)
        cases q <;> exact h
      · rw [if_neg hc']
        refine hit_mono (fin 1 (if_neg hc').symm) (fun q s h => ?_)
        cases q <;> exact h
  · show MR (wr τ 10 0 29 0 66 v) (sPl H0 (hpl A))
    rw [wr_c (by decide), ← epl, sPl_self]; exact hM
  · intro i _; rw [wr_c (by decide)]
  · rw [wr_same]; rfl
  · intro q hq; rw [wr_i hq]
  · intro c k h1 h2; exact wrR_ne _ _ _ _ h2
/-! fields of the young ones not met -/
theorem m_unlink {τ : rS} {v : Nat} {A M : Hp} {g : Nat → Nat} {Q : List Nat} (hM : MR (τ 66 v) M) (w : OK M) (hb : Bd M) (en : hn M = hn A) (esp : hsp M = hsp A) (hQ : ∀ j, j < 80 → τ 68 0 j = if j ∈ Q then 1 else 0) (hg : ∀ i, ¬ g i = 0 ↔ i ∈ Q) : hit (lp (fun (x : Int32) σ => fX10_majors_L119 v x σ) fu 0 τ) (fun _ s => MR (s 66 v) (sLk M (fun i f => if jul A g i = true then none else hlk M i f)) ∧ LGr τ s v ∧ ∀ c k, ¬ (c = 66 ∧ k = v) → s c k = τ c k) := by
  have hw := w.n
  rw [en] at hw
  have mr : ∀ (s : rS) (h : Nat → Nat → Option Nat), (∀ i, i < 1373 → (∀ j x, j < hn A → x < 4 → ¬ i = 8 + 11 * j + x) → s 66 v i = τ 66 v i) → (∀ j x, j < hn A → x < hsz M j → s 66 v (8 + 11 * j + x) = encN M (h j x)) → MR (s 66 v) (sLk M h) := fun s h e1 e2 => by
    obtain ⟨b1, b2, b3⟩ := hb
    obtain ⟨h1, h2, h3, ⟨h4, h5⟩, ⟨h6, h7⟩, ⟨h8, h9⟩, h10, h11⟩ := hM
    refine ⟨by rw [e1 0 (by omega) (fun j x _ _ => by omega)]; exact h1, fun i hi => ?_, fun q hq => by rw [e1 _ (by omega) (fun j x _ _ => by omega)]; exact h3 q hq, ⟨by rw [e1 _ (by omega) (fun j x _ _ => by omega)]; exact h4, fun i hi => ?_⟩, ⟨by rw [e1 _ (by omega) (fun j x _ _ => by omega)]; exact h6, fun i hi => ?_⟩, ⟨by rw [e1 _ (by omega) (fun j x _ _ => by omega)]; exact h8, fun i hi => ?_⟩, fun t ht => by rw [e1 _ (by omega) (fun j x _ _ => by omega)]; exact h10 t ht, by rw [e1 _ (by omega) (fun j x _ _ => by omega)]; exact h11⟩
    · have hi : i < hn M := hi
      have hi' : i < hn A := by rw [← en]; exact hi
      unfold MRo
      rw [e1 _ (by omega) (fun j x _ _ => by omega), e1 _ (by omega) (fun j x _ _ => by omega), e1 _ (by omega) (fun j x _ _ => by omega), e1 _ (by omega) (fun j x _ _ => by omega), e1 _ (by omega) (fun j x _ _ => by omega), e1 _ (by omega) (fun j x _ _ => by omega), e1 _ (by omega) (fun j x _ _ => by omega)]
      exact ⟨(h2 i hi).1, fun f hf => e2 i f hi' hf⟩
    · have hi : i < (hrm M).length := hi
      rw [e1 _ (by omega) (fun j x _ _ => by omega), e1 _ (by omega) (fun j x _ _ => by omega)]; exact h5 i hi
    · have hi : i < (hen M).length := hi
      rw [e1 _ (by omega) (fun j x _ _ => by omega)]; exact h7 i hi
    · have hi : i < (hlo M).length := hi
      rw [e1 _ (by omega) (fun j x _ _ => by omega)]; exact h9 i hi
  have fin : ∀ s : rS, (∀ q, s 66 v q = τ 66 v q ∨ ∃ j x, j < hn A ∧ x < 4 ∧ jul A g j = true ∧ q = 8 + 11 * j + x ∧ s 66 v q = 0) → (∀ j x, j < hn A → x < 4 → jul A g j = true → s 66 v (8 + 11 * j + x) = 0) → MR (s 66 v) (sLk M (fun i f => if jul A g i = true then none else hlk M i f)) ∧ LGr τ s v := fun s h1 h2 => by
    refine ⟨mr s _ (fun i hi hne => ?_) (fun j x hj hx => ?_), fun i hi => ?_⟩
    · rcases h1 i with h | ⟨j, x, a1, a2, a3, a4, a5⟩
      · exact h
      · exact absurd a4 (hne j x a1 a2)
    · have hjM : j < hn M := by rw [en]; exact hj
      have hz := w.sz hjM
      by_cases hu : jul A g j = true
      · rw [if_pos hu, h2 j x hj (by omega) hu]; rfl
      · rw [if_neg hu]
        rcases h1 (8 + 11 * j + x) with h | ⟨j', x', a1, a2, a3, a4, a5⟩
        · rw [h]; exact hM.lk hjM hx
        · have : j' = j := by omega
          rw [this] at a3
          exact absurd a3 hu
    · rcases h1 i with h | ⟨j', x', a1, a2, a3, a4, a5⟩
      · exact h
      · omega
  have rowr : ∀ (s : rS) (i : Nat), i < hn A → (∀ q, s 66 v q = τ 66 v q ∨ ∃ j x, j < hn A ∧ x < 4 ∧ jul A g j = true ∧ q = 8 + 11 * j + x ∧ s 66 v q = 0) → fX10_isOld v (nI i) s = some (if hsp A i = 2 then 1 else 0, s) := fun s i hi h1 => by
    have hiM : i < hn M := by rw [en]; exact hi
    have hs2 := w.sp hiM
    unfold fX10_isOld
    have e := e_of (v := v) (τ := s) (i := i) (c := 5) (by omega)
    have e2 : s 66 v (1 + 11 * i + 5) = nI (hsp A i) := by
      rcases h1 (1 + 11 * i + 5) with h | ⟨j', x', a1, a2, a3, a4, a5⟩
      · rw [h, show 1 + 11 * i + 5 = 6 + 11 * i by omega, ← esp]; exact hM.sp hiM
      · omega
    rw [e2] at e
    have e : fX10_of v (nI i) 5 s = some (nI (hsp A i), s) := e
    rw [esp] at hs2
    rw [e, bd_some]
    simp (disch := omega) only [pn_lt, pn_neg, pn_eq, pn_eq0, pn_eq1, pn_eq2, pn_m1, pn_m1', pn_m1lt, pn_ix, pn_bnd, pn_add1, pn_add3, pn_mul4, nI_add, bd_some, st_eq, rd_eq, if_true, if_false, ite_true, ite_false, reduceIte]
    split <;> rfl
  refine hit_mono (lp_for (I := fun i s => (∀ q, s 66 v q = τ 66 v q ∨ ∃ j x, j < hn A ∧ x < 4 ∧ jul A g j = true ∧ q = 8 + 11 * j + x ∧ s 66 v q = 0) ∧ (∀ j x, j < i → j < hn A → x < 4 → jul A g j = true → s 66 v (8 + 11 * j + x) = 0) ∧ ∀ c k, ¬ (c = 66 ∧ k = v) → s c k = τ c k) (P := fun _ s => (∀ q, s 66 v q = τ 66 v q ∨ ∃ j x, j < hn A ∧ x < 4 ∧ jul A g j = true ∧ q = 8 + 11 * j + x ∧ s 66 v q = 0) ∧ (∀ j x, j < hn A → j < hn A → x < 4 → jul A g j = true → s 66 v (8 + 11 * j + x) = 0) ∧ ∀ c k, ¬ (c = 66 ∧ k = v) → s c k = τ c k) (b := hn A) ?_ ?_ fu 0 τ (by omega) (by have := fu_ge; omega) ⟨fun q => Or.inl rfl, fun j x hj => absurd hj (Nat.not_lt_zero _), fun _ _ _ => rfl⟩) (fun _ s h => ⟨(fin s h.1 (fun j x hj hx hu => h.2.1 j x hj hj hx hu)).1, (fin s h.1 (fun j x hj hx hu => h.2.1 j x hj hj hx hu)).2, h.2.2⟩)
  · rintro i s hi ⟨h1, h2, h3⟩
    have e0 : s 66 v (ix 0) = nI (hn A) := by
      rcases h1 0 with h | ⟨j', x', a1, a2, a3, a4, a5⟩
      · show s 66 v 0 = _
        rw [h, ← en]; exact hM.n
      · omega
    unfold fX10_majors_L119 fX10_majors_j170L119
    rw [e0]
    simp (disch := omega) only [pn_lt, hi, if_true]
    by_cases hu : jul A g i = true
    · have hu2 : ¬ hsp A i = 2 ∧ g i = 0 := by unfold jul at hu; simpa using hu
      have hiQ : ¬ i ∈ Q := fun z => ((hg i).mpr z) hu2.2
      refine bd_hit (hit_mono (lp_for (I := fun f t => f ≤ 4 ∧ (∀ q, t 66 v q = τ 66 v q ∨ ∃ j x, j < hn A ∧ x < 4 ∧ jul A g j = true ∧ q = 8 + 11 * j + x ∧ t 66 v q = 0) ∧ (∀ j x, j < i → j < hn A → x < 4 → jul A g j = true → t 66 v (8 + 11 * j + x) = 0) ∧ (∀ x, x < f → t 66 v (8 + 11 * i + x) = 0) ∧ ∀ c k, ¬ (c = 66 ∧ k = v) → t c k = τ c k) (P := fun _ t => (∀ q, t 66 v q = τ 66 v q ∨ ∃ j x, j < hn A ∧ x < 4 ∧ jul A g j = true ∧ q = 8 + 11 * j + x ∧ t 66 v q = 0) ∧ (∀ j x, j < i + 1 → j < hn A → x < 4 → jul A g j = true → t 66 v (8 + 11 * j + x) = 0) ∧ ∀ c k, ¬ (c = 66 ∧ k = v) → t c k = τ c k) (b := 4) ?_ ?_ fu 0 s (by omega) (by have := fu_ge; omega) ⟨by omega, h1, h2, fun x hx => absurd hx (Nat.not_lt_zero _), h3⟩) ?_)
      · rintro f t hf ⟨hf4, t1, t2, t3, t4⟩
        have e68 : t 68 0 i = if i ∈ Q then 1 else 0 := by rw [t4 68 0 (by omega)]; exact hQ i (by omega)
        have ec : (1 + 11 * nI i) + (7 + nI f) = nI (1 + 11 * i + (7 + f)) := by
          have := pm_cell i (7 + f)
          rw [← nI_add] at this
          exact this
        unfold fX10_majors_L129 fX10_cell
        simp (disch := omega) only [pn_lt4, hf, if_true]
        rw [pn_bnd (by omega) (by omega), ix_nI (by omega), e68, if_neg hiQ, if_pos rfl, rowr t i hi t1, bd_some, if_neg hu2.1, if_pos rfl, bd_some, ec, pn_bnd (by omega) (by omega), ix_nI (by omega), st_eq]
        refine hit_some ⟨by rw [pn_add1], by omega, fun q => ?_, fun j x hj hj2 hx huj => ?_, fun x hx => ?_, fun c k hck => (wrR_ne _ _ _ _ hck).trans (t4 c k hck)⟩
        · by_cases eq : q = 1 + 11 * i + (7 + f)
          · refine Or.inr ⟨i, f, hi, hf, hu, by omega, ?_⟩
            rw [eq, wr_same]
          · rw [wr_i eq]; exact t1 q
        · rw [wr_i (by omega)]; exact t2 j x hj hj2 hx huj
        · by_cases ex : x = f
          · subst ex; rw [show 8 + 11 * i + x = 1 + 11 * i + (7 + x) by omega, wr_same]
          · rw [wr_i (by omega)]; exact t3 x (by omega)
      · rintro t ⟨-, t1, t2, t3, t4⟩
        unfold fX10_majors_L129
        simp (disch := omega) only [pn_lt4, Nat.lt_irrefl, if_false]
        refine hit_some ⟨t1, fun j x hj hj2 hx huj => ?_, t4⟩
        by_cases ej : j = i
        · subst ej; exact t3 x hx
        · exact t2 j x (by omega) hj2 hx huj
      · rintro r t ⟨t1, t2, t3⟩
        exact hit_some ⟨by rw [pn_add1], t1, t2, t3⟩
    · have hstop : hit (lp (fun (x : Int32) σ => fX10_majors_L129 v (nI i) x σ) fu 0 s) (fun _ t => t = s) := by
        refine lp_go (I := fun m x t => m = 0 ∧ x = 0 ∧ t = s) ?_ fu 0 _ s (fu_lt (by omega)) ⟨rfl, rfl, rfl⟩
        rintro m x t ⟨rfl, rfl, rfl⟩
        have e68 : t 68 0 i = if i ∈ Q then 1 else 0 := by rw [h3 68 0 (by omega)]; exact hQ i (by omega)
        unfold fX10_majors_L129
        rw [if_pos (by decide), pn_bnd (by omega) (by omega), ix_nI (by omega), e68]
        by_cases hq : i ∈ Q
        · rw [if_pos hq, if_neg one_ne]
          exact hit_some rfl
        · have h22 : hsp A i = 2 := by
            refine Classical.byContradiction (fun z => hu ?_)
            have g0 : g i = 0 := Classical.byContradiction (fun y => hq ((hg i).mp y))
            unfold jul; simp [z, g0]
          rw [if_neg hq, if_pos rfl, rowr t i hi h1, bd_some, if_pos h22, if_neg one_ne]
          exact hit_some rfl
      refine bd_hit (hit_mono hstop ?_)
      rintro r t rfl
      refine hit_some ⟨by rw [pn_add1], h1, fun j x hj hj2 hx huj => ?_, h3⟩
      by_cases ej : j = i
      · subst ej; exact absurd huj hu
      · exact h2 j x (by omega) hj2 hx huj
  · rintro s ⟨h1, h2, h3⟩
    have e0 : s 66 v (ix 0) = nI (hn A) := by
      rcases h1 0 with h | ⟨j', x', a1, a2, a3, a4, a5⟩
      · show s 66 v 0 = _
        rw [h, ← en]; exact hM.n
      · omega
    unfold fX10_majors_L119
    rw [e0]
    simp (disch := omega) only [pn_lt, Nat.lt_irrefl, if_false]
    exact hit_some ⟨h1, h2, h3⟩
