/-! a MAJOR, on State k -/
theorem CX_lk {σ s : rS} {k : Nat} {M : Hp} {f : Nat → Nat → Option Nat} (h : CX σ k M) (e : ∀ c q, ¬ (c = 52 ∧ q = k) → s c q = σ c q) (h52 : ∀ j x, j < hn M → x < hsz M j → s 52 k (j * 4 + x) = enc (f j x)) : CX s k (sLk M f) := by
  obtain ⟨h1, h2, h3, h4, h5, h6, h7, h8⟩ := h
  refine ⟨by rw [e 7 k (by omega)]; exact h1, fun i hi => ?_, fun r hr => by rw [e 53 k (by omega)]; exact h3 r hr, fun t ht => by rw [e 55 k (by omega)]; exact h4 t ht, by rw [e 7 k (by omega)]; exact h5, h6.frame (e 4 _ (by omega)) (e 28 _ (by omega)), h7.frame (e 4 _ (by omega)) (e 28 _ (by omega)), h8.frame (e 4 _ (by omega)) (e 28 _ (by omega))⟩
  unfold CRo
  rw [e 45 k (by omega), e 46 k (by omega), e 47 k (by omega), e 48 k (by omega), e 49 k (by omega), e 50 k (by omega), e 51 k (by omega)]
  exact ⟨(h2 i hi).1, fun x hx => h52 i x hi hx⟩
theorem c_unlink {σ : rS} {k : Nat} {A M : Hp} {g : Nat → Nat} (hX : CX σ k M) (w : ON M) (en : hn M = hn A) (esp : hsp M = hsp A) (hS : ∀ j, j < hn A → σ 38 0 j = nI (g j)) (hg : ∀ j, g j ≤ 2) : hit (fX1_unlinkUnkeptYoung k σ) (fun _ s => CX s k (sLk M (fun i f => if jul A g i = true then none else hlk M i f)) ∧ ∀ c q, ¬ (c = 52 ∧ q = k) → s c q = σ c q) := by
  have hw : hn A ≤ 78 := by rw [← en]; exact w.1
  unfold fX1_unlinkUnkeptYoung
  refine bd_hit (hit_mono (lp_for (I := fun i s => (∀ j x, j < hn M → x < hsz M j → s 52 k (j * 4 + x) = enc (if j < i ∧ jul A g j = true then none else hlk M j x)) ∧ ∀ c q, ¬ (c = 52 ∧ q = k) → s c q = σ c q) (P := fun _ s => (∀ j x, j < hn M → x < hsz M j → s 52 k (j * 4 + x) = enc (if jul A g j = true then none else hlk M j x)) ∧ ∀ c q, ¬ (c = 52 ∧ q = k) → s c q = σ c q) (b := hn A) ?_ ?_ fu 0 σ (by omega) (by have := fu_ge; omega) ⟨fun j x hj hx => ?_, fun _ _ _ => rfl⟩) ?_)
  · rintro i s hi ⟨h1, h2⟩
    have hiM : i < hn M := by rw [en]; exact hi
    have hz4 := (w.2.1 i hiM).2.1
    have hXs : CX s k (sLk M (fun j x => if j < i ∧ jul A g j = true then none else hlk M j x)) := CX_lk hX h2 h1
    have wS : ON (sLk M (fun j x => if j < i ∧ jul A g j = true then none else hlk M j x)) := by
      refine ⟨w.1, fun j hj => ?_, w.2.2⟩
      obtain ⟨o1, o2, o3, o4, o5⟩ := w.2.1 j hj
      refine ⟨o1, o2, o3, o4, fun f t hf ht => ?_⟩
      have ht : (if j < i ∧ jul A g j = true then none else hlk M j f) = some t := ht
      by_cases hc : j < i ∧ jul A g j = true
      · rw [if_pos hc] at ht; cases ht
      · rw [if_neg hc] at ht; exact o5 f t hf ht
    have e7 : s 7 k 0 = nI (hn A) := by rw [← en]; exact hXs.1
    have e38 : s 38 0 i = nI (g i) := by rw [h2 38 0 (by omega)]; exact hS i hi
    have hgi := hg i
    have hy := x_isYoung hXs.r wS (j := i) hiM
    have es2 : hsp (sLk M (fun j x => if j < i ∧ jul A g j = true then none else hlk M j x)) i = hsp A i := by show hsp M i = _; rw [esp]
    rw [es2] at hy
    have no : jul A g i = false → (∀ j x, j < hn M → x < hsz M j → s 52 k (j * 4 + x) = enc (if j < i + 1 ∧ jul A g j = true then none else hlk M j x)) ∧ ∀ c q, ¬ (c = 52 ∧ q = k) → s c q = σ c q := fun hu => ⟨fun j x hj hx => by
      rw [h1 j x hj hx]
      by_cases hc : j < i ∧ jul A g j = true
      · rw [if_pos hc, if_pos ⟨by omega, hc.2⟩]
      · rw [if_neg hc, if_neg (fun z => by
          by_cases ej : j = i
          · rw [ej, hu] at z; cases z.2
          · exact hc ⟨by omega, z.2⟩)], h2⟩
    unfold fX1_unlinkUnkeptYoung_L2 fX1_unlinkUnkeptYoung_j51L2
    rw [e7]
    simp (disch := omega) only [pn_lt, hi, if_true]
    rw [hy, bd_some]
    by_cases h22 : hsp A i = 2
    · rw [if_pos h22, if_pos rfl]
      exact hit_some ⟨by rw [pn_add1], no (by unfold jul; simp [h22])⟩
    · rw [if_neg h22, if_neg one_ne]
      simp (disch := omega) only [pn_lt, pn_neg, pn_eq, pn_eq0, pn_eq1, pn_eq2, pn_m1, pn_m1', pn_m1lt, pn_ix, pn_bnd, pn_add1, pn_add3, pn_mul4, nI_add, bd_some, st_eq, rd_eq, if_true, if_false, ite_true, ite_false, reduceIte, e38]
      by_cases g0 : g i = 0
      · rw [if_pos g0]
        have hu : jul A g i = true := by unfold jul; simp [h22, g0]
        refine bd_hit (hit_mono (lp_for (I := fun f t => f ≤ hsz M i ∧ (∀ j x, j < hn M → x < hsz M j → t 52 k (j * 4 + x) = enc (if (j < i ∧ jul A g j = true) ∨ (j = i ∧ x < f) then none else hlk M j x)) ∧ ∀ c q, ¬ (c = 52 ∧ q = k) → t c q = σ c q) (P := fun _ t => (∀ j x, j < hn M → x < hsz M j → t 52 k (j * 4 + x) = enc (if j < i + 1 ∧ jul A g j = true then none else hlk M j x)) ∧ ∀ c q, ¬ (c = 52 ∧ q = k) → t c q = σ c q) (b := hsz M i) ?_ ?_ fu 0 s (by omega) (by have := fu_ge; omega) ⟨by omega, fun j x hj hx => ?_, h2⟩) ?_)
        · rintro f t hf ⟨hf5, t1, t2⟩
          have hXt : CXr t k (sLk M (fun j x => if (j < i ∧ jul A g j = true) ∨ (j = i ∧ x < f) then none else hlk M j x)) := (CX_lk hX t2 t1).r
          have wT : ON (sLk M (fun j x => if (j < i ∧ jul A g j = true) ∨ (j = i ∧ x < f) then none else hlk M j x)) := by
            refine ⟨w.1, fun j hj => ?_, w.2.2⟩
            obtain ⟨o1, o2, o3, o4, o5⟩ := w.2.1 j hj
            refine ⟨o1, o2, o3, o4, fun x t hf ht => ?_⟩
            have ht : (if (j < i ∧ jul A g j = true) ∨ (j = i ∧ x < f) then none else hlk M j x) = some t := ht
            by_cases hc : (j < i ∧ jul A g j = true) ∨ (j = i ∧ x < f)
            · rw [if_pos hc] at ht; cases ht
            · rw [if_neg hc] at ht; exact o5 x t hf ht
          have hff := x_fieldsOf hXt wT (j := i) hiM
          have hhf := x_hasField hXt wT (j := i) (f := f) hiM hf
          have hff : fX7_fieldsOf k (nI i) t = some (nI (hsz M i), t) := hff
          unfold fX1_unlinkUnkeptYoung_L29 fX7_setTarget
          rw [hff, bd_some]
          simp (disch := omega) only [pn_lt, hf, if_true]
          rw [hhf, bd_some, if_neg one_ne, pn_mul4, nI_add, pn_bnd (by omega) (by omega), ix_nI (by omega), st_eq, bd_some, pn_add1]
          refine hit_some ⟨rfl, by omega, fun j x hj hx => ?_, fun c q hcq => (wrR_ne _ _ _ _ hcq).trans (t2 c q hcq)⟩
          have hzj := (w.2.1 j hj).2.1
          by_cases ej : j = i ∧ x = f
          · rw [ej.1, ej.2, wr_same, if_pos (Or.inr ⟨rfl, by omega⟩)]
            rfl
          · rw [wr_i (by omega), t1 j x hj hx]
            by_cases hc : (j < i ∧ jul A g j = true) ∨ (j = i ∧ x < f)
            · rw [if_pos hc, if_pos (hc.imp id (fun z => ⟨z.1, by omega⟩))]
            · rw [if_neg hc, if_neg (fun z => hc (z.imp id (fun y => ⟨y.1, by omega⟩)))]
        · rintro t ⟨-, t1, t2⟩
          have hXt : CXr t k (sLk M (fun j x => if (j < i ∧ jul A g j = true) ∨ (j = i ∧ x < hsz M i) then none else hlk M j x)) := (CX_lk hX t2 t1).r
          have wT : ON (sLk M (fun j x => if (j < i ∧ jul A g j = true) ∨ (j = i ∧ x < hsz M i) then none else hlk M j x)) := by
            refine ⟨w.1, fun j hj => ?_, w.2.2⟩
            obtain ⟨o1, o2, o3, o4, o5⟩ := w.2.1 j hj
            refine ⟨o1, o2, o3, o4, fun x t hf ht => ?_⟩
            have ht : (if (j < i ∧ jul A g j = true) ∨ (j = i ∧ x < hsz M i) then none else hlk M j x) = some t := ht
            by_cases hc : (j < i ∧ jul A g j = true) ∨ (j = i ∧ x < hsz M i)
            · rw [if_pos hc] at ht; cases ht
            · rw [if_neg hc] at ht; exact o5 x t hf ht
          have hff := x_fieldsOf hXt wT (j := i) hiM
          have hff : fX7_fieldsOf k (nI i) t = some (nI (hsz M i), t) := hff
          unfold fX1_unlinkUnkeptYoung_L29
          rw [hff, bd_some]
          simp (disch := omega) only [pn_lt, Nat.lt_irrefl, if_false]
          refine hit_some ⟨fun j x hj hx => ?_, t2⟩
          rw [t1 j x hj hx]
          by_cases hc : (j < i ∧ jul A g j = true) ∨ (j = i ∧ x < hsz M i)
          · rw [if_pos hc, if_pos (hc.elim (fun z => ⟨by omega, z.2⟩) (fun z => ⟨by omega, by rw [z.1]; exact hu⟩))]
          · rw [if_neg hc, if_neg (fun z => by
              by_cases ej : j = i
              · exact hc (Or.inr ⟨ej, by rw [ej] at hx; exact hx⟩)
              · exact hc (Or.inl ⟨by omega, z.2⟩))]
        · rw [h1 j x hj hx]
          by_cases hc : j < i ∧ jul A g j = true
          · rw [if_pos hc, if_pos (Or.inl hc)]
          · rw [if_neg hc, if_neg (fun z => z.elim hc (fun y => by omega))]
        · rintro r t ⟨t1, t2⟩
          exact hit_some ⟨rfl, t1, t2⟩
      · rw [if_neg g0]
        exact hit_some ⟨rfl, no (by unfold jul; simp [g0])⟩
  · rintro s ⟨h1, h2⟩
    have e7 : s 7 k 0 = nI (hn A) := by rw [← en, h2 7 k (by omega)]; exact hX.1
    unfold fX1_unlinkUnkeptYoung_L2
    rw [e7]
    simp (disch := omega) only [pn_lt, Nat.lt_irrefl, if_false]
    refine hit_some ⟨fun j x hj hx => ?_, h2⟩
    rw [h1 j x hj hx]
    have : j < hn A := by rw [← en]; exact hj
    by_cases hc : jul A g j = true
    · rw [if_pos ⟨this, hc⟩, if_pos hc]
    · rw [if_neg (fun z => hc z.2), if_neg hc]
  · rw [if_neg (by omega)]
    exact (hX.2.1 j hj).2 x hx
  · rintro r s ⟨h1, h2⟩
    exact hit_some ⟨CX_lk hX h2 h1, h2⟩
theorem jX1_sh {A : Hp} {g : Nat → Nat} : (mX1 A g).1.1 = A.1 ∧ (mX1 A g).1.2.1 = A.2.1 ∧ (mX1 A g).1.2.2.1 = A.2.2.1 ∧ hen (mX1 A g).1 = hen A := by
  obtain ⟨a1, a2, a3, a4, a5, -⟩ := emL_sh (wkg A g 1) (A, fun _ => 0) (hn A)
  exact ⟨a1, a2, a3, a5⟩
set_option maxHeartbeats 4000000 in
theorem c_majorEnd {σ : rS} {k : Nat} {R : Nat → Nat} {b : Nat} {A : Hp} {L : Lg} {Q1 Q2 : List Nat} {g : Nat → Nat} (hC : CS σ k (A, L)) (hI : Inv R b A) (hJ : JF A Q1 Q2 g) (hR : R 2 ≤ 128) (hO : ONC σ (fun _ => 0)) (hS : ∀ j, j < hn A → σ 38 0 j = nI (g j)) : hit (bd (fX1_emptyWeak k 1 σ) (fun _ σ10 => bd (fX1_lineUpLasting k σ10) (fun _ σ12 => bd (fX1_emptyWeak k 2 σ12) (fun _ σ14 => bd (fX1_pushTogether k σ14) (fun _ σ16 => bd (fX1_unlinkUnkeptYoung k σ16) (fun _ σ18 => bd (fX1_dropRemembered k σ18) (fun _ σ20 => bd (fX1_nameSlotsAnew k 1 σ20) (fun _ σ22 => bd (fX7_closeUp k σ22) (fun _ σ24 => st (wr σ24 55 k (ix 2) ((σ24 55 k (ix 2)) + 1)) (fun σ25 => bd (fX1_addCounts k 2 σ25) (fun _ σ27 => some ((0 : Int32), σ27)))))))))))) (fun _ s => CS s k (majG A g, L) ∧ ONC s (jC A g)) := by
  have w := hI.ok
  have hw := w.n
  have hwz : ∀ i, i < hn A → hkd A i = 1 → 1 ≤ hsz A i := fun i hi => (hI.2.2.2.1 i hi).2.1
  have t1 := c_emptyWeak (how := 1) (A := A) (X := (A, fun _ => 0)) (g := g) hC w ⟨rfl, rfl⟩ (fun _ _ _ => rfl) hwz hO hS hJ.g2 (by omega)
  refine bd_hit (hit_mono (hit_fr (frX1_emptyWeak k (nI 1) σ) t1) ?_)
  rintro r1 s1 ⟨f1, hC1, hO1⟩
  have w1 : OK (mX1 A g).1 := emL_OK w
  obtain ⟨a1, a2, a3, a5⟩ := jX1_sh (A := A) (g := g)
  have hS1 : ∀ j, j < hn A → s1 38 0 j = nI (g j) := fun j hj => by rw [f1 38 (by decide)]; exact hS j hj
  have t2 := c_lineUp (A := A) (X := mX1 A g) (g := g) hC1 w1 ⟨a1, a3⟩ (by rw [a5]; exact hI.2.2.2.2.1.1) (by rw [a5]; exact hJ.e1) hO1 hS1 hJ.g2
  refine bd_hit (hit_mono (hit_fr (frX1_lineUpLasting k s1) t2) ?_)
  rintro r2 s2 ⟨f2, hC2, hO2⟩
  have hS2 : ∀ j, j < hn A → s2 38 0 j = nI (g j) := fun j hj => by rw [f2 38 (by decide)]; exact hS1 j hj
  have w2 : OK (mX2 A g).1 := w1.en' (fun j hj => by
    have hj : j ∈ hen (mX1 A g).1 ++ lsE A g (hn A) := hj
    rw [a5] at hj
    show j < (mX1 A g).1.1
    rw [a1]
    exact (jEnd hI hJ j hj).1)
  have t3 := c_emptyWeak (how := 2) (A := A) (X := mX2 A g) (g := g) hC2 w2 ⟨a1, a3⟩ (fun i hi hgi => by
    have e1 : hlk (mX2 A g).1 i 0 = if 0 = 0 ∧ i < hn A ∧ wkg A g 1 i = true then none else hlk A i 0 := emL_lk (wkg A g 1) (A, fun _ => 0) (hn A) i 0
    rw [e1, if_neg (fun z => by
      have h := z.2.2
      unfold wkg at h
      rw [hgi] at h
      simp at h)]) (fun i hi hk => by
    show 1 ≤ hsz (mX1 A g).1 i
    have : hsz (mX1 A g).1 = hsz A := by unfold hsz; rw [a2]
    rw [this]; exact hwz i hi hk) hO2 hS2 hJ.g2 (by omega)
  refine bd_hit (hit_mono (hit_fr (frX1_emptyWeak k (nI 2) s2) t3) ?_)
  rintro r3 s3 ⟨f3, hC3, hO3⟩
  have hC3 : CS s3 k ((mX3 A g).1, L) := hC3
  have hO3 : ONC s3 (mX3 A g).2 := hO3
  have hS3 : ∀ j, j < hn A → s3 38 0 j = nI (g j) := fun j hj => by rw [f3 38 (by decide)]; exact hS2 j hj
  have w3 : OK (mX3 A g).1 := emL_OK w2
  have hsh := mX3_sh (A := A) (g := g)
  have t4 := c_push (k := k) (M := (mX3 A g).1) (A := A) (g := g) (c := (mX3 A g).2) hC3.1.cx w3.on hI hR ⟨hsh.1, hsh.2.1⟩ hS3 hJ.g2 hO3
  refine bd_hit (hit_mono t4 ?_)
  rintro r4 s4 ⟨hX4, hO4, u4, f4⟩
  have hX4 : CX s4 k (jM0 A g) := hX4
  have hO4 : ONC s4 (jC3 A g) := hO4
  have wM : ON (jM0 A g) := jM_ON hI
  have hS4 : ∀ j, j < hn A → s4 38 0 j = nI (g j) := fun j hj => by rw [f4 38 0 (by omega) (by omega) (by omega)]; exact hS3 j hj
  have t5 := c_unlink (k := k) (M := jM0 A g) (A := A) (g := g) hX4 wM jM_n jM_sp hS4 hJ.g2
  refine bd_hit (hit_mono t5 ?_)
  rintro r5 s5 ⟨hX5, f5⟩
  have hX5 : CX s5 k (jM1 A g) := hX5
  have wM2 : ON (jM2 A g) := jM2_ON hI
  have wM1 : ON (jM1 A g) := wM2
  have en1 : hn (jM1 A g) = hn A := jM_n
  have hrm1 : hrm (jM1 A g) = hrm A := hsh.2.2.2.2.2.1
  have ez1 : hsz (jM1 A g) = hsz A := jM_sz
  have t6 := c_dropRem (k := k) (M := jM1 A g) (g := g) hX5 wM1 (fun q hq => by rw [hrm1] at hq; rw [en1, ez1]; exact w.rm hq) (fun j hj => by rw [en1] at hj; rw [f5 38 0 (by omega)]; exact hS4 j hj) hJ.g2
  refine bd_hit (hit_mono t6 ?_)
  rintro r6 s6 ⟨hX6, f6⟩
  have hX6 : CX s6 k (jM2 A g) := hX6
  have en2 : hn (jM2 A g) = hn A := jM_n
  have t7 := c_names (k := k) (M := jM2 A g) (g := g) (ys := true) (c := jC3 A g) hX6.r wM2 (fun j hj => by rw [en2] at hj; rw [f6 38 0 (by omega), f5 38 0 (by omega)]; exact hS4 j hj) hJ.g2 (fun i hi => by rw [f6 37 0 (by omega), f5 37 0 (by omega)]; exact hO4 i hi)
  refine bd_hit (hit_mono t7 ?_)
  rintro r7 s7 ⟨h42, hO7, f7⟩
  have hX7 : CX s7 k (jM2 A g) := hX6.mv (f7 7 k (by omega)) (fun c h1 h2 => f7 c k (by omega)) (fun q _ _ => ⟨f7 4 q (by omega), f7 28 q (by omega)⟩)
  have t8 := c_closeUp (k := k) (M := jM2 A g) (kf := jKf A g) hX7 wM2 (jClo hI hJ) h42
  refine bd_hit (hit_mono t8 ?_)
  rintro r8 s8 ⟨hX8, f8⟩
  have e55 : s8 55 k (ix 2) = htl A 2 := by
    have : s8 55 k 2 = htl (cl (jM2 A g) (jKf A g)) 2 := hX8.2.2.2.1 2 (by omega)
    have e2 : htl (cl (jM2 A g) (jKf A g)) 2 = htl (mX3 A g).1 2 := rfl
    rw [e2, hsh.2.2.2.2.2.2.1] at this
    exact this
  rw [e55, st_eq]
  have hO8 : ONC (wr s8 55 k (ix 2) (htl A 2 + 1)) (jC A g) := fun i hi => by
    rw [wr_c (by decide), f8 37 0 (by omega)]
    have := hO7 i hi
    rw [this]
    congr 1
    show upx (jC3 A g) 2 (jC3 A g 2 + (hn (jM2 A g) - rk (jKf A g) (hn (jM2 A g)))) i = upx (jC3 A g) 2 (jC3 A g 2 + (hn A - rk (jKf A g) (hn A))) i
    rw [en2]
  have ht8 : ∀ t, t < 8 → wr s8 55 k (ix 2) (htl A 2 + 1) 55 k t = upx (htl A) 2 (htl A 2 + 1) t := fun t ht => by
    by_cases e : t = 2
    · subst e; rw [upx_same]; exact wr_same _ _ _ _ _
    · rw [wr_i (show ¬ t = ix 2 from e), upx_ne e]
      have : s8 55 k t = htl (mX3 A g).1 t := hX8.2.2.2.1 t ht
      rw [hsh.2.2.2.2.2.2.1] at this
      exact this
  have t9 := c_addCounts (fr := 2) ht8 hO8 (by omega)
  refine bd_hit (hit_mono t9 ?_)
  rintro r9 s9 ⟨h9, f9⟩
  have f9' : ∀ c q, ¬ (c = 55 ∧ q = k) → s9 c q = s8 c q := fun c q hcq => (f9 c q hcq).trans (wrR_ne _ _ _ _ hcq)
  have hX9 : CX s9 k (majG A g) := hX8.tl f9' h9
  obtain ⟨u0, u1, u2⟩ := jUsed (g := g) hI hR
  have e54 : s9 54 k = upd (s3 54 k) 2 (nI (slL A g 128).1) := by rw [f9' 54 k (by omega), f8 54 k (by omega), f7 54 k (by omega), f6 54 k (by omega), f5 54 k (by omega), u4]
  have o54 : ∀ s, s < 3 → s3 54 k s = nI (usedA A s) := fun s hs => by
    rw [f3 54 (by decide), f2 54 (by decide), f1 54 (by decide)]; exact hC.1.us hs
  refine hit_some ⟨⟨hX9.cr (fun s hs => ?_), ?_⟩, fun i hi => by rw [f9 37 0 (by omega)]; exact hO8 i hi⟩
  · rw [e54]
    have eu : usedA (majG A g) s = usedA (cl (jM2 A g) (jKf A g)) s := used_tl _ _ _
    rw [eu]
    rcases (by omega : s = 0 ∨ s = 1 ∨ s = 2) with rfl | rfl | rfl
    · rw [u0]; show (if 0 = 2 then _ else s3 54 k 0) = _; rw [if_neg (by decide)]; exact o54 0 (by omega)
    · rw [u1]; show (if 1 = 2 then _ else s3 54 k 1) = _; rw [if_neg (by decide)]; exact o54 1 (by omega)
    · rw [u2]; show (if 2 = 2 then _ else s3 54 k 2) = _; rw [if_pos rfl]
  · have e4 : ∀ q, 6 * k + 3 ≤ q → q < 6 * k + 6 → s9 4 q = s3 4 q ∧ s9 28 q = s3 28 q := fun q h1 h2 => by
      refine ⟨?_, ?_⟩
      · rw [f9' 4 q (by omega), f8 4 q (by omega), f7 4 q (by omega), f6 4 q (by omega), f5 4 q (by omega), f4 4 q (by omega) (by omega) (by omega)]
      · rw [f9' 28 q (by omega), f8 28 q (by omega), f7 28 q (by omega), f6 28 q (by omega), f5 28 q (by omega), f4 28 q (by omega) (by omega) (by omega)]
    exact ⟨hC3.2.1.frame (e4 _ (by omega) (by omega)).1 (e4 _ (by omega) (by omega)).2, hC3.2.2.1.frame (e4 _ (by omega) (by omega)).1 (e4 _ (by omega) (by omega)).2, hC3.2.2.2.frame (e4 _ (by omega) (by omega)).1 (e4 _ (by omega) (by omega)).2⟩
def majA (A : Hp) : Hp := majG A (jG A)
theorem c_major {σ : rS} {k : Nat} {R : Nat → Nat} {b : Nat} {A : Hp} {L : Lg} (hC : CS σ k (A, L)) (hI : Inv R b A) (hR : R 2 ≤ 128) : hit (fX1_collectAll k σ) (fun _ s => CS s k (majA A, L) ∧ ONC s (jC A (jG A))) := by
  have w := hI.ok
  have hw := w.n
  unfold fX1_collectAll
  refine bd_hit (hit_mono (fill_spec 37 0 5 0 σ (by decide)) ?_)
  rintro r0 s0 rfl
  have hC0 : CS (wrR σ 37 0 (fillR 5 0 (σ 37 0))) k (A, L) := hC.of_eq (by rw [wrR_c (by decide)]) (fun c h1 h2 => by rw [wrR_c (by omega)]) (fun j _ => ⟨by rw [wrR_c (by decide)], by rw [wrR_c (by decide)]⟩)
  have hO0 : ONC (wrR σ 37 0 (fillR 5 0 (σ 37 0))) (fun _ => 0) := fun i hi => by
    rw [wrR_eq]
    unfold fillR
    rw [if_pos hi]
    rfl
  generalize wrR σ 37 0 (fillR 5 0 (σ 37 0)) = s0 at hC0 hO0 ⊢
  refine bd_hit (hit_mono (hit_fr (frX3_reach k (-1) s0) (c_reach w hC0.1 (-1))) ?_)
  rintro r1 s1 ⟨f1, hR1, hG1⟩
  have eq1 : (reachA A (-1)).1 = q1 A := reachA_1 A (-1)
  have cmv : ∀ {s t : rS}, CS s k (A, L) → (∀ c, ¬ (c = 3 ∨ (30 ≤ c ∧ c ≤ 34) ∨ c = 38) → t c = s c) → CS t k (A, L) := fun h e => h.of_eq (by rw [e 7 (by omega)]) (fun c g1 g2 => by rw [e c (by omega)]) (fun j _ => ⟨by rw [e 4 (by omega)], by rw [e 28 (by omega)]⟩)
  have hC1 : CS s1 k (A, L) := cmv hC0 (fun c hc => f1 c (by simp only [List.mem_cons, List.not_mem_nil, or_false]; omega))
  generalize reachA A (-1) = S at hG1 eq1
  refine bd_hit (hit_mono (c_stageByMarks hR1 w hG1) ?_)
  rintro r2 s2 ⟨h38, f2⟩
  have hC2 : CS s2 k (A, L) := cmv hC1 (fun c hc => f2 c (by omega))
  have hG2 : GC s2 (hn A) S := by
    unfold GC at hG1 ⊢
    rw [f2 3 (by decide), f2 31 (by decide), f2 30 (by decide), f2 32 (by decide), f2 33 (by decide), f2 34 (by decide)]
    exact hG1
  refine bd_hit (hit_mono (c_markLasting hC2.1 w hG2 eq1 h38) ?_)
  rintro r3 s3 ⟨hS3, f3⟩
  have hC3 : CS s3 k (A, L) := cmv hC2 (fun c hc => f3 c (by simp only [List.mem_cons, List.not_mem_nil, or_false]; omega))
  have hO3 : ONC s3 (fun _ => 0) := fun i hi => by rw [f3 37 (by decide), f2 37 (by decide), f1 37 (by decide)]; exact hO0 i hi
  exact c_majorEnd hC3 hI (JF_q w) hR hO3 hS3
