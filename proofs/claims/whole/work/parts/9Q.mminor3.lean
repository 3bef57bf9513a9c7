/-! a MINOR, the model's side: ends, second moves, second pass -/
section mW
variable {τ : rS} {v : Nat} {R : Nat → Nat} {b : Nat} {A : Hp} {g : Nat → Nat} {P1 P2 : Pn}
theorem mX1_sh : (mX1 A g).1.1 = A.1 ∧ (mX1 A g).1.2.1 = A.2.1 ∧ (mX1 A g).1.2.2.1 = A.2.2.1 ∧ hrt (mX1 A g).1 = hrt A ∧ hen (mX1 A g).1 = hen A ∧ hrm (mX1 A g).1 = hrm A ∧ htl (mX1 A g).1 = htl A ∧ hfl (mX1 A g).1 = hfl A := emL_sh (wkg A g 1) (A, fun _ => 0) (hn A)
theorem ShB_refl (A : Hp) : ShB A A := ⟨rfl, rfl, rfl, fun _ _ _ => rfl, rfl, rfl⟩
theorem mX1_ShB : ShB A (mX1 A g).1 := ShB_em (X := (A, fun _ => 0)) (ShB_refl A) (fun i h => wkg_kd h)
theorem lsE_len (hI : Inv R b A) (hE : ∀ j ∈ hen A, g j = 1) {i : Nat} (hi : i ≤ hn A) : (hen A ++ lsE A g i).length ≤ 78 := by
  have hw := hI.ok.n
  exact enX_len hI.2.2.2.2.1.1 (fun j hj => ⟨by have := hI.ok.en hj; omega, hE j hj⟩) (by omega)
theorem mX2_OK (hI : Inv R b A) : OK (mX2 A g).1 := by
  have w1 : OK (mX1 A g).1 := emL_OK hI.ok
  refine w1.en' (fun j hj => ?_)
  have hj : j ∈ hen (mX1 A g).1 ++ lsE A g (hn A) := hj
  show j < (mX1 A g).1.1
  rw [mX1_sh.1]
  rcases List.mem_append.mp hj with hj | hj
  · rw [mX1_sh.2.2.2.2.1] at hj; exact hI.ok.en hj
  · exact (lsE_mem.mp hj).1
theorem mX2_BF (hI : Inv R b A) (hR : R 2 ≤ 128) (hE : ∀ j ∈ hen A, g j = 1) : BF A (mX2 A g).1 := by
  have hbA := hI.bd hR
  have hl := lsE_len hI hE (Nat.le_refl _)
  refine ⟨mX2_OK hI, ⟨?_, emL_lo40 _ _ _ hbA.2.1, ?_⟩, mX1_ShB, fun i hk hi => (hI.2.2.2.1 i hi).2.1 hk⟩
  · show (hen (mX1 A g).1 ++ lsE A g (hn A)).length ≤ 80
    rw [mX1_sh.2.2.2.2.1]; omega
  · show (hrm (mX1 A g).1).length ≤ 176
    rw [mX1_sh.2.2.2.2.2.1]; exact hbA.2.2
theorem m_weak2 (h : PMv τ v A (mX1 A g).1 (mX1 A g).2 P1) (hI : Inv R b A) (hW : WkF R A P1 P2 g) (hP : PI R A P1) (hR : R 1 ≤ 32 ∧ R 2 ≤ 128) : hit (fX10_ends v 1 τ) (fun _ s => PMv s v A (mX2 A g).1 (mX2 A g).2 P1 ∧ LGr τ s v ∧ s 10 0 24 = nI (lsE A g (hn A)).length ∧ (∀ p, p < (lsE A g (hn A)).length → s 70 0 p = nI ((lsE A g (hn A)).getD p 0)) ∧ s 62 = τ 62) := by
  have w := hI.ok
  have hw := w.n
  obtain ⟨hg1, hg0, hg2, -, -, hE, -⟩ := hW
  have hbA := hI.bd hR.2
  have w1 : OK (mX1 A g).1 := emL_OK w
  have t := m_ends (τ := τ) (v := v) (A := A) (X := mX1 A g) (g := g) (y := 1) (Q := pO P1) (Rw := fun Y => rowH A Y.1 Y.2 P1) (fun Y i => enH_row A Y P1 i) (fun i hi => ⟨mX1_sh.1, row_kd (A := A) (X := enX A g (mX1 A g) i) (P := P1) mX1_sh.2.2.1, rfl⟩) (fun i hi => ?_) h.1 (enX_0 A g _) hw h.2.1.2.2.2.2 (fun i hi hk => ?_)
  · refine hit_mono (hit_fr (frX10_ends v 1 τ) t) ?_
    rintro r s ⟨hf, k1, k2, k3, k4, k5, k6⟩
    refine ⟨⟨k1, ?_, ?_, ?_, ?_⟩, k2, k3, k4, hf 62 (by decide)⟩
    · have hG := h.2.1
      unfold GM at hG ⊢
      rw [k5 22 (by decide), k6 69 0 (by omega) (by omega) (by omega), k6 68 0 (by omega) (by omega) (by omega)]
      exact hG
    · rw [k5 25 (by decide)]; exact h.2.2.1
    · rw [k5 26 (by decide)]; exact h.2.2.2.1
    · rw [k5 27 (by decide)]; exact h.2.2.2.2
  · have hl := lsE_len hI hE hi
    have eL : hen (mX1 A g).1 ++ lsE A g i = hen A ++ lsE A g i := by rw [mX1_sh.2.2.2.2.1]
    rw [eL]
    have wi : OK (enX A g (mX1 A g) i).1 := w1.en' (fun j hj => by
      have hj : j ∈ hen (mX1 A g).1 ++ lsE A g i := hj
      show j < (mX1 A g).1.1
      rw [mX1_sh.1]
      rw [eL] at hj
      rcases List.mem_append.mp hj with hj | hj
      · exact w.en hj
      · have := (lsE_mem.mp hj).1
        exact Nat.lt_of_lt_of_le this hi)
    refine ⟨rowH_OK wi (hP.spl hR), ⟨?_, emL_lo40 _ _ _ hbA.2.1, ?_⟩, hl⟩
    · show (hen (mX1 A g).1 ++ lsE A g i).length ≤ 80
      rw [eL]; omega
    · show (hrm (mX1 A g).1).length ≤ 176
      rw [mX1_sh.2.2.2.2.2.1]; exact hbA.2.2
  · have esp := row_sp (A := A) (X := enX A g (mX1 A g) i) (P := P1) mX1_sh.2.1 i
    show ¬ g i = 1 ↔ ¬ i ∈ pO P1 ∧ ((1 : Int32) = 0 ∨ ¬ hsp (rowH A (enX A g (mX1 A g) i).1 (enX A g (mX1 A g) i).2 P1) i = 2)
    rw [esp, hg1 i]
    by_cases hm : i ∈ pO P1
    · exact ⟨fun z => absurd (Or.inr hm) z, fun z => absurd hm z.1⟩
    · rw [if_neg hm]
      exact ⟨fun z => ⟨hm, Or.inr (fun y => z (Or.inl y))⟩, fun z => by
        rintro (y | y)
        · rcases z.2 with q | q
          · exact one_ne q
          · exact q y
        · exact hm y⟩
theorem m_weak3 (h : PB τ v R A (mX2 A g).1 (mX2 A g).2 P1) (hI : Inv R b A) (hW : WkF R A P1 P2 g) (hR : R 1 ≤ 32 ∧ R 2 ≤ 128) (h24 : τ 10 0 24 = nI (lsE A g (hn A)).length) (h70 : ∀ p, p < (lsE A g (hn A)).length → τ 70 0 p = nI ((lsE A g (hn A)).getD p 0)) (y : Int32) : hit (lp (fun (x : Int32) σ => fX10_weakensAndEnds_L52 v y x σ) fu 0 τ) (fun _ s => PB s v R A (mX2 A g).1 (mX2 A g).2 P2 ∧ LGr τ s v) := by
  have w := hI.ok
  have hw := w.n
  obtain ⟨hg1, hg0, hg2, hfol, hP2, hE, hx1⟩ := hW
  have hB := mX2_BF hI hR.2 hE
  have eP2 : P2 = (lsE A g (hn A)).foldl (plS1 R A) P1 := by
    rw [hP2]; exact plS_due hg1 _ _ (Fol.refl _)
  have hl : (lsE A g (hn A)).length ≤ 78 := by have := lsE_len hI hE (Nat.le_refl _); rw [List.length_append] at this; omega
  obtain ⟨D, hD⟩ : ∃ D, D = lsE A g (hn A) := ⟨_, rfl⟩
  have hDlt : ∀ j ∈ D, j < hn A := fun j hj => by rw [hD] at hj; exact (lsE_mem.mp hj).1
  rw [← hD] at h24 h70 eP2 hl
  rw [eP2]
  refine hit_mono (lp_go (I := fun m x s => ∃ p P', x = nI p ∧ p ≤ D.length ∧ m = D.length - p ∧ PB s v R A (mX2 A g).1 (mX2 A g).2 P' ∧ KM τ s v ∧ (D.drop p).foldl (plS1 R A) P' = D.foldl (plS1 R A) P1) (P := fun _ s => PB s v R A (mX2 A g).1 (mX2 A g).2 (D.foldl (plS1 R A) P1) ∧ KM τ s v) ?_ fu D.length _ τ (fu_lt (by omega)) ⟨0, P1, rfl, by omega, by omega, h, KM.refl _ _, rfl⟩) (fun _ s h => ⟨h.1, h.2.1⟩)
  rintro m x s ⟨p, P', rfl, hp, rfl, hP', hK, he⟩
  unfold fX10_weakensAndEnds_L52
  have e24 : s 10 0 24 = nI D.length := by rw [hK.2.1]; exact h24
  rw [e24]
  cases hx : pX P' with
  | true =>
    have e27 := (hP'.st hx).1
    rw [e27]
    rw [foldl_stuck hx] at he
    rw [he] at hP'
    simp only [if_neg one_ne]
    split
    · exact hit_some ⟨hP', hK⟩
    · exact hit_some ⟨hP', hK⟩
  | false =>
    have hg := hP'.go hx
    rw [hg.2.2.2.2]
    simp (disch := omega) only [pn_lt]
    by_cases hlt : p < D.length
    · have hs := hDlt _ (getD_mem hlt)
      have e70 : s 70 0 p = nI (D.getD p 0) := by rw [hK.2.2.1]; exact h70 p hlt
      have e22 := hg.2.1.2.2.1
      have hlen : (pO P').length ≤ 78 := hP'.2.1.len w
      rw [if_pos hlt, if_pos trivial, rd_eq, pn_bnd (by omega) (by omega), ix_nI (by omega), e70, e22]
      have hmv := pb_moves hP' hx hB (o := some (D.getD p 0)) (fun j hj => by cases hj; exact hs)
      have hmv : hit (fX10_moves v (nI (D.getD p 0)) s) _ := hmv
      refine bd_hit (hit_mono hmv ?_)
      rintro r1 s1 ⟨h1, hK1⟩
      refine bd_hit (hit_mono (m_plFrom (i := (pO P').length) h1 hB (by omega)) ?_)
      rintro r2 s2 ⟨h2, hK2⟩
      refine hit_some ⟨D.length - (p + 1), by omega, p + 1, _, by rw [pn_add1], by omega, rfl, h2, hK.trans (hK1.trans hK2), ?_⟩
      rw [← he, drop_cons hlt]
      rfl
    · rw [if_neg hlt]
      refine hit_some ⟨?_, hK⟩
      rw [← he, List.drop_eq_nil_of_le (by omega)]
      exact hP'
/-- who is met behind the first ones -/
theorem met2 (hW : WkF R A P1 P2 g) (hP : PI R A P2) (i : Nat) : i ∈ (pO P2).drop (pO P1).length ↔ g i = 2 := by
  obtain ⟨hg1, hg0, hg2, ⟨⟨T, hT⟩, -⟩, -, -, -⟩ := hW
  have hd := hP.1.1
  rw [hT] at hd ⊢
  rw [List.drop_left]
  have hnd := List.nodup_append.mp hd
  constructor
  · intro h
    have hm : i ∈ pO P2 := by rw [hT]; exact List.mem_append_right _ h
    have h0 : ¬ g i = 0 := fun z => (hg0 i).mp z (Or.inr hm)
    have h1 : ¬ g i = 1 := fun z => by
      rcases (hg1 i).mp z with y | y
      · exact (hP.1.2.1 i hm).2 y
      · exact hnd.2.2 i y i h rfl
    have := hg2 i
    omega
  · intro h
    have h0 : hsp A i = 2 ∨ i ∈ pO P2 := Classical.byContradiction (fun z => by have := (hg0 i).mpr z; omega)
    have h1 : ¬ (hsp A i = 2 ∨ i ∈ pO P1) := fun z => by have := (hg1 i).mpr z; omega
    have hm : i ∈ pO P2 := h0.resolve_left (fun z => h1 (Or.inl z))
    rw [hT] at hm
    exact (List.mem_append.mp hm).resolve_left (fun z => h1 (Or.inr z))
theorem m_weak4 (h : PMv τ v A (mX2 A g).1 (mX2 A g).2 P2) (hI : Inv R b A) (hW : WkF R A P1 P2 g) (hP : PI R A P2) (hR : R 1 ≤ 32 ∧ R 2 ≤ 128) : hit (lp (fun (x : Int32) σ => fX10_weakensAndEnds_L99 v (nI (pO P1).length) x σ) fu 0 τ) (fun _ s => PMv s v A (mX3 A g).1 (mX3 A g).2 P2 ∧ LGr τ s v) := by
  have w := hI.ok
  have hw := w.n
  have hmet := met2 hW hP
  obtain ⟨hg1, hg0, hg2, ⟨⟨T, hT⟩, -⟩, -, hE, -⟩ := hW
  have hB := mX2_BF hI hR.2 hE
  have hfr : (pO P1).length ≤ (pO P2).length := by rw [hT, List.length_append]; omega
  have hsh : (mX2 A g).1.1 = A.1 ∧ (mX2 A g).1.2.1 = A.2.1 ∧ (mX2 A g).1.2.2.1 = A.2.2.1 := ⟨mX1_sh.1, mX1_sh.2.1, mX1_sh.2.2.1⟩
  have t := m_pass (τ := τ) (v := v) (A := A) (c := wkg A g 2) (X := mX2 A g) (step := fun x σ => fX10_weakensAndEnds_L99 v (nI (pO P1).length) x σ) (Rw := fun Y => rowH A Y.1 Y.2 P2) (fun Y i => emH_row A Y P2 i) (fun i => ((emL_sh (wkg A g 2) (mX2 A g) i).1).trans hsh.1) h.1 hw (fun i s hi hM hs => ?_) (fun s e0 => ?_)
  · refine hit_mono t ?_
    rintro r s ⟨k1, k2, k3⟩
    exact ⟨h.mk' k1 k3, k2⟩
  · obtain ⟨a1, a2, a3, -⟩ := emL_sh (wkg A g 2) (mX2 A g) i
    have wH : OK (rowH A (emL (wkg A g 2) (mX2 A g) i).1 (emL (wkg A g 2) (mX2 A g) i).2 P2) := rowH_OK (emL_OK hB.1) (hP.spl hR)
    have hbH : Bd (rowH A (emL (wkg A g 2) (mX2 A g) i).1 (emL (wkg A g 2) (mX2 A g) i).2 P2) := Bd_em hB.2.1 (emL_lo40 _ _ _ hB.2.1.2.1)
    have ekd := row_kd (A := A) (X := emL (wkg A g 2) (mX2 A g) i) (P := P2) (a3.trans hsh.2.2)
    have esz := row_sz (A := A) (X := emL (wkg A g 2) (mX2 A g) i) (P := P2) (a2.trans hsh.2.1)
    have hir : i < hn (rowH A (emL (wkg A g 2) (mX2 A g) i).1 (emL (wkg A g 2) (mX2 A g) i).2 P2) := by
      show i < (emL (wkg A g 2) (mX2 A g) i).1.1
      rw [a1, hsh.1]; exact hi
    have hGs : GM s (hn A) (pO P2) := by
      have hG := h.2.1
      unfold GM at hG ⊢
      rw [hs 10 0 (by omega), hs 69 0 (by omega), hs 68 0 (by omega)]
      exact hG
    have hst := stp_L99 (fr := (pO P1).length) hM wH hbH hir (by rw [ekd, esz]; exact (hI.2.2.2.1 i hi).2.1) hGs hw hfr
    have ec : (decide (i ∈ (pO P2).drop (pO P1).length) && emc (rowH A (emL (wkg A g 2) (mX2 A g) i).1 (emL (wkg A g 2) (mX2 A g) i).2 P2) (pO P2) 1 i) = wkg A g 2 i := by
      rw [wkg_2 hg1 hg0 hg2 i]
      by_cases h2 : g i = 2
      · have eH := emc_row (A := A) (X := emL (wkg A g 2) (mX2 A g) i) (P := P2) (Q := pO P2) (i := i) rfl (a3.trans hsh.2.2) (a2.trans hsh.2.1) (show hlk (emL (wkg A g 2) (mX2 A g) i).1 i 0 = hlk A i 0 by
          rw [emL_lk, if_neg (by omega)]
          have e1 : hlk (mX2 A g).1 i 0 = if 0 = 0 ∧ i < hn A ∧ wkg A g 1 i = true then none else hlk A i 0 := emL_lk (wkg A g 1) (A, fun _ => 0) (hn A) i 0
          rw [e1, if_neg (fun z => by
            have hh := z.2.2
            unfold wkg at hh
            rw [h2] at hh
            simp at hh)])
        rw [eH]
        congr 1
        rw [decide_eq_decide]
        exact hmet i
      · rw [decide_eq_false h2, decide_eq_false (fun z => h2 ((hmet i).mp z))]
        rfl
    rw [ec] at hst
    exact hst
  · show fX10_weakensAndEnds_L99 v (nI (pO P1).length) (nI (hn A)) s = _
    unfold fX10_weakensAndEnds_L99
    have e0 : s 66 v (ix 0) = nI (hn A) := e0
    rw [e0]
    simp (disch := omega) only [pn_lt, Nat.lt_irrefl, if_false]
/-- the second pass where the moves failed: it goes through -/
theorem emH_OK {H : Hp} (w : OK H) (i : Nat) : OK (emH H i) := w.lkA (fun j hj => by cases hj)
theorem emH_Bd {H : Hp} (hb : Bd H) (i : Nat) : Bd (emH H i) := ⟨hb.1, loAdd_len hb.2.1, hb.2.2⟩
theorem m_behind0 {n k fr : Nat} {Q : List Nat} (hG : GM τ n Q) (hn' : n ≤ 78) (hk : k < 2147483648) (hfr : Q.length < fr) (hf2 : fr < 2147483648) : fX10_isMetBehind (nI k) (nI fr) τ = some (0, τ) := by
  have hlen := nodup_le hG.1 hG.2.1
  have key : hit (lp (fun (x : Int32) σ => fX10_isMetBehind_L2 (nI k) x σ) fu (nI fr) τ) (fun e s => s = τ ∧ e = .inr ()) := by
    refine lp_go (I := fun m x s => m = 0 ∧ x = nI fr ∧ s = τ) ?_ fu 0 _ τ (fu_lt (by omega)) ⟨rfl, rfl, rfl⟩
    rintro m x s ⟨rfl, rfl, rfl⟩
    unfold fX10_isMetBehind_L2
    rw [hG.2.2.1]
    simp (disch := omega) only [pn_lt]
    rw [if_neg (by omega)]
    exact hit_some ⟨rfl, rfl⟩
  obtain ⟨e, s, h1, rfl, rfl⟩ := hit_iff.mp key
  unfold fX10_isMetBehind
  rw [h1, bd_some]
theorem m_weakX {fr : Nat} {Q : List Nat} {H : Hp} (hM : MR (τ 66 v) H) (w : OK H) (hb : Bd H) (hwz : ∀ i, hkd H i = 1 → i < hn H → 1 ≤ hsz H i) (hG : GM τ (hn H) Q) (hf2 : fr < 2147483648) : hit (lp (fun (x : Int32) σ => fX10_weakensAndEnds_L99 v (nI fr) x σ) fu 0 τ) (fun _ s => LGr τ s v ∧ ∀ c k, ¬ (c = 66 ∧ k = v) → s c k = τ c k) := by
  have hw := w.n
  refine lp_for (I := fun i s => (∃ H', MR (s 66 v) H' ∧ OK H' ∧ Bd H' ∧ hn H' = hn H ∧ hkd H' = hkd H ∧ hsz H' = hsz H) ∧ LGr τ s v ∧ ∀ c k, ¬ (c = 66 ∧ k = v) → s c k = τ c k) (b := hn H) ?_ ?_ fu 0 τ (by omega) (by have := fu_ge; omega) ⟨⟨H, hM, w, hb, rfl, rfl, rfl⟩, LGr.refl _ _, fun _ _ _ => rfl⟩
  · rintro i s hi ⟨⟨H', m1, m2, m3, m4, m5, m6⟩, g2, g3⟩
    have hGs : GM s (hn H) Q := by
      unfold GM at hG ⊢
      rw [g3 10 0 (by omega), g3 69 0 (by omega), g3 68 0 (by omega)]
      exact hG
    by_cases hfr : fr ≤ Q.length
    · refine hit_mono (stp_L99 (fr := fr) m1 m2 m3 (by rw [m4]; exact hi) (by rw [m5, m6]; exact fun z => hwz i z hi) hGs hw hfr) ?_
      rintro q t ⟨rfl, k1, k2, k3⟩
      refine ⟨rfl, ?_, g2.trans k2, fun c k hck => (k3 c k hck).trans (g3 c k hck)⟩
      by_cases hc : (decide (i ∈ Q.drop fr) && emc H' Q 1 i) = true
      · rw [if_pos hc] at k1
        exact ⟨_, k1, emH_OK m2 i, emH_Bd m3 i, m4, m5, m6⟩
      · rw [if_neg hc] at k1
        exact ⟨_, k1, m2, m3, m4, m5, m6⟩
    · have e0 : s 66 v (ix 0) = nI (hn H) := by rw [← m4]; exact m1.n
      unfold fX10_weakensAndEnds_L99 fX10_weakensAndEnds_j122L99
      rw [e0]
      simp (disch := omega) only [pn_lt, hi, if_true]
      rw [m_behind0 hGs hw (by omega) (by omega) hf2, bd_some, if_pos rfl]
      exact hit_some ⟨by rw [pn_add1], ⟨H', m1, m2, m3, m4, m5, m6⟩, g2, g3⟩
  · rintro s ⟨⟨H', m1, m2, m3, m4, m5, m6⟩, g2, g3⟩
    have e0 : s 66 v (ix 0) = nI (hn H) := by rw [← m4]; exact m1.n
    unfold fX10_weakensAndEnds_L99
    rw [e0]
    simp (disch := omega) only [pn_lt, Nat.lt_irrefl, if_false]
    exact hit_some ⟨g2, g3⟩
theorem m_weakEnds (h : PB τ v R A A (fun _ => 0) P1) (hI : Inv R b A) (hW : WkF R A P1 P2 g) (hR : R 1 ≤ 32 ∧ R 2 ≤ 128) : hit (fX10_weakensAndEnds v τ) (fun _ s => LGr τ s v ∧ if pX P2 = true then s 10 0 27 = 1 else PMv s v A (mX3 A g).1 (mX3 A g).2 P2) := by
  have w := hI.ok
  have hx1 := hW.2.2.2.2.2.2
  have hP1 := h.2.1
  have hlen1 := hP1.len w
  unfold fX10_weakensAndEnds
  refine bd_hit (hit_mono (m_weak1 (h.go hx1) hI hW hP1 hR) ?_)
  rintro r1 s1 ⟨k1, l1, f1⟩
  refine bd_hit (hit_mono (m_weak2 k1 hI hW hP1 hR) ?_)
  rintro r2 s2 ⟨k2, l2, d1, d2, e62⟩
  have e22 := k2.2.1.2.2.1
  rw [rd_eq, e22]
  have hPB2 : PB s2 v R A (mX2 A g).1 (mX2 A g).2 P1 := by
    refine ⟨?_, hP1, ⟨fun i hi => by rw [e62, f1 62 0 (by omega)]; exact h.2.2.1 i hi, h.2.2.2⟩⟩
    unfold PMo
    rw [hx1, if_neg (by decide)]
    exact k2
  refine bd_hit (hit_mono (m_weak3 hPB2 hI hW hR d1 d2 _) ?_)
  rintro r3 s3 ⟨k3, l3⟩
  unfold fX10_weakensAndEnds_j97
  cases hx : pX P2 with
  | true =>
    obtain ⟨x27, H, Q, m1, m2, m3, m4, m5, m6⟩ := k3.st hx
    refine bd_hit (hit_mono (m_weakX m1 m2 m3 m4 (by rw [m5]; exact m6) (by omega)) ?_)
    rintro r4 s4 ⟨l4, f4⟩
    refine hit_some ⟨l1.trans (l2.trans (l3.trans l4)), ?_⟩
    rw [if_pos rfl, f4 10 0 (by omega)]
    exact x27
  | false =>
    refine bd_hit (hit_mono (m_weak4 (k3.go hx) hI hW k3.2.1 hR) ?_)
    rintro r4 s4 ⟨k4, l4⟩
    refine hit_some ⟨l1.trans (l2.trans (l3.trans l4)), ?_⟩
    rw [if_neg (by decide)]
    exact k4
end mW
