/-! a MINOR, on State k -/
theorem CSx {σ s : rS} {k : Nat} {A : Hp} {L : Lg} (h : CS σ k (A, L)) (hX : CX s k A) (e : ∀ q, 6 * k + 3 ≤ q → q < 6 * k + 6 → s 4 q = σ 4 q ∧ s 28 q = σ 28 q) : Ln s (6 * k + 3) (L.map (fun q => q.1)) ∧ Ln s (6 * k + 4) (L.map (fun q => q.2.1)) ∧ Ln s (6 * k + 5) (L.map (fun q => q.2.2)) :=
  ⟨h.2.1.frame (e _ (by omega) (by omega)).1 (e _ (by omega) (by omega)).2, h.2.2.1.frame (e _ (by omega) (by omega)).1 (e _ (by omega) (by omega)).2, h.2.2.2.frame (e _ (by omega) (by omega)).1 (e _ (by omega) (by omega)).2⟩
theorem CX.tl {σ s : rS} {k : Nat} {A : Hp} {g : Nat → Int32} (h : CX σ k A) (e : ∀ c q, ¬ (c = 55 ∧ q = k) → s c q = σ c q) (ht : ∀ t, t < 8 → s 55 k t = g t) : CX s k (sTl A g) := by
  obtain ⟨h1, h2, h3, h4, h5, h6, h7, h8⟩ := h
  refine ⟨by rw [e 7 k (by omega)]; exact h1, fun i hi => ?_, fun r hr => by rw [e 53 k (by omega)]; exact h3 r hr, ht, by rw [e 7 k (by omega)]; exact h5, h6.frame (e 4 _ (by omega)) (e 28 _ (by omega)), h7.frame (e 4 _ (by omega)) (e 28 _ (by omega)), h8.frame (e 4 _ (by omega)) (e 28 _ (by omega))⟩
  unfold CRo
  rw [e 45 k (by omega), e 46 k (by omega), e 47 k (by omega), e 48 k (by omega), e 49 k (by omega), e 50 k (by omega), e 51 k (by omega), e 52 k (by omega)]
  exact h2 i hi
theorem used_tl (A : Hp) (g : Nat → Int32) (s : Nat) : usedA (sTl A g) s = usedA A s := rfl
theorem CX.mv {σ s : rS} {k : Nat} {A : Hp} (h : CX σ k A) (e7 : s 7 k = σ 7 k) (e : ∀ c, 45 ≤ c → c < 56 → s c k = σ c k) (e4 : ∀ q, 6 * k ≤ q → q < 6 * k + 3 → s 4 q = σ 4 q ∧ s 28 q = σ 28 q) : CX s k A := by
  obtain ⟨h1, h2, h3, h4, h5, h6, h7, h8⟩ := h
  refine ⟨by rw [e7]; exact h1, fun i hi => ?_, fun r hr => by rw [e 53 (by omega) (by omega)]; exact h3 r hr, fun t ht => by rw [e 55 (by omega) (by omega)]; exact h4 t ht, by rw [e7]; exact h5, h6.frame (e4 _ (by omega) (by omega)).1 (e4 _ (by omega) (by omega)).2, h7.frame (e4 _ (by omega) (by omega)).1 (e4 _ (by omega) (by omega)).2, h8.frame (e4 _ (by omega) (by omega)).1 (e4 _ (by omega) (by omega)).2⟩
  unfold CRo
  rw [e 45 (by omega) (by omega), e 46 (by omega) (by omega), e 47 (by omega) (by omega), e 48 (by omega) (by omega), e 49 (by omega) (by omega), e 50 (by omega) (by omega), e 51 (by omega) (by omega), e 52 (by omega) (by omega)]
  exact h2 i hi
set_option maxHeartbeats 4000000 in
theorem c_youngEnd {σ : rS} {k : Nat} {R : Nat → Nat} {b : Nat} {A : Hp} {L : Lg} {F : List Nat} {P : Pn} {g : Nat → Nat} (hC : CS σ k (A, L)) (hI : Inv R b A) (hM : MF R A F P g) (hR : R 1 ≤ 32 ∧ R 2 ≤ 128) (hP : PC σ R A P) (hS : ∀ j, j < hn A → σ 38 0 j = nI (g j)) : hit (bd (fJ7_fill_53178 37 0 5 0 σ) (fun _ σ10 => bd (fX1_emptyWeak k 1 σ10) (fun _ σ12 => bd (fX1_lineUpLasting k σ12) (fun _ σ14 => bd (fX1_emptyWeak k 2 σ14) (fun _ σ16 => bd (fX1_settle k σ16) (fun _ σ18 => bd (fX1_dropRemembered k σ18) (fun _ σ20 => bd (fX1_rememberMoved k σ20) (fun _ σ22 => bd (fX1_nameSlotsAnew k 0 σ22) (fun _ σ24 => bd (fX7_closeUp k σ24) (fun _ σ26 => st (wr σ26 55 k (ix 1) ((σ26 55 k (ix 1)) + 1)) (fun σ27 => bd (fX1_addCounts k 0 σ27) (fun _ σ29 => some ((1 : Int32), σ29))))))))))))) (fun r s => r = 1 ∧ CS s k (minG A g P, L) ∧ ONC s (mC A g P)) := by
  have w := hI.ok
  have hw := w.n
  have hPI := hM.pi
  have hwz : ∀ i, i < hn A → hkd A i = 1 → 1 ≤ hsz A i := fun i hi => (hI.2.2.2.1 i hi).2.1
  have hlenO : (pO P).length ≤ 78 := hPI.len w
  refine bd_hit (hit_mono (fill_spec 37 0 5 0 σ (by decide)) ?_)
  rintro r0 s0 rfl
  have hC0 : CS (wrR σ 37 0 (fillR 5 0 (σ 37 0))) k (A, L) := hC.of_eq (by rw [wrR_c (by decide)]) (fun c h1 h2 => by rw [wrR_c (by omega)]) (fun j _ => ⟨by rw [wrR_c (by decide)], by rw [wrR_c (by decide)]⟩)
  have hO0 : ONC (wrR σ 37 0 (fillR 5 0 (σ 37 0))) (fun _ => 0) := fun i hi => by
    rw [wrR_eq]
    unfold fillR
    rw [if_pos hi]
    rfl
  have f0 : ∀ c, ¬ c = 37 → wrR σ 37 0 (fillR 5 0 (σ 37 0)) c = σ c := fun c hc => wrR_c hc
  generalize wrR σ 37 0 (fillR 5 0 (σ 37 0)) = s0 at hC0 hO0 f0 ⊢

  have t1 := c_emptyWeak (how := 1) (A := A) (X := (A, fun _ => 0)) (g := g) hC0 w ⟨rfl, rfl⟩ (fun _ _ _ => rfl) hwz hO0 (fun j hj => by rw [f0 38 (by decide)]; exact hS j hj) hM.g2 (by omega)
  refine bd_hit (hit_mono (hit_fr (frX1_emptyWeak k (nI 1) s0) t1) ?_)
  rintro r1 s1 ⟨f1, hC1, hO1⟩
  have w1 : OK (mX1 A g).1 := emL_OK w
  obtain ⟨a1, a2, a3, a4, a5, a6, a7, a8⟩ := emL_sh (wkg A g 1) (A, fun _ => 0) (hn A)
  have hS1 : ∀ j, j < hn A → s1 38 0 j = nI (g j) := fun j hj => by rw [f1 38 (by decide), f0 38 (by decide)]; exact hS j hj
  have t2 := c_lineUp (A := A) (X := mX1 A g) (g := g) hC1 w1 ⟨a1, a3⟩ (show (hen (mX1 A g).1).Nodup by rw [show hen (mX1 A g).1 = hen A from a5]; exact hI.2.2.2.2.1.1) (show ∀ j ∈ hen (mX1 A g).1, g j = 1 by rw [show hen (mX1 A g).1 = hen A from a5]; exact mE1 hM) hO1 hS1 hM.g2
  refine bd_hit (hit_mono (hit_fr (frX1_lineUpLasting k s1) t2) ?_)
  rintro r2 s2 ⟨f2, hC2, hO2⟩
  have hS2 : ∀ j, j < hn A → s2 38 0 j = nI (g j) := fun j hj => by rw [f2 38 (by decide)]; exact hS1 j hj
  have w2 : OK (mX2 A g).1 := w1.en' (fun j hj => by
    have hj : j ∈ hen (mX1 A g).1 ++ lsE A g (hn A) := hj
    rw [show hen (mX1 A g).1 = hen A from a5] at hj
    show j < (mX1 A g).1.1
    rw [show (mX1 A g).1.1 = A.1 from a1]
    exact (mEnd hI hM j hj).1)
  have t3 := c_emptyWeak (how := 2) (A := A) (X := mX2 A g) (g := g) hC2 w2 ⟨a1, a3⟩ (fun i hi hgi => by
    have e1 : hlk (mX2 A g).1 i 0 = if 0 = 0 ∧ i < hn A ∧ wkg A g 1 i = true then none else hlk A i 0 := emL_lk (wkg A g 1) (A, fun _ => 0) (hn A) i 0
    rw [e1, if_neg (fun z => by
      have h := z.2.2
      unfold wkg at h
      rw [hgi] at h
      simp at h)]) (fun i hi hk => by
    show 1 ≤ hsz (mX1 A g).1 i
    have : hsz (mX1 A g).1 = hsz A := by unfold hsz; rw [show (mX1 A g).1.2.1 = A.2.1 from a2]
    rw [this]; exact hwz i hi hk) hO2 hS2 hM.g2 (by omega)
  refine bd_hit (hit_mono (hit_fr (frX1_emptyWeak k (nI 2) s2) t3) ?_)
  rintro r3 s3 ⟨f3, hC3, hO3⟩
  have hC3 : CS s3 k ((mX3 A g).1, L) := hC3
  have hO3 : ONC s3 (mX3 A g).2 := hO3
  have hS3 : ∀ j, j < hn A → s3 38 0 j = nI (g j) := fun j hj => by rw [f3 38 (by decide)]; exact hS2 j hj
  have c3 : ∀ c, ¬ c = 37 → ¬ c = 4 → ¬ c = 28 → ¬ c = 52 → s3 c = σ c := fun c h1 h2 h3 h4 => by
    rw [f3 c (by simp only [List.mem_cons, List.not_mem_nil, or_false]; omega), f2 c (by simp only [List.mem_cons, List.not_mem_nil, or_false]; omega), f1 c (by simp only [List.mem_cons, List.not_mem_nil, or_false]; omega), f0 c h1]
  have hP3 : PC s3 R A P := by
    obtain ⟨g1, g2, g3, g4, g5, g6, g7⟩ := hP
    refine ⟨g1, ?_, ?_, ?_, ?_, ?_, g7⟩
    · rw [c3 1 (by decide) (by decide) (by decide) (by decide)]; exact g2
    · rw [c3 1 (by decide) (by decide) (by decide) (by decide)]; exact g3
    · rw [c3 39 (by decide) (by decide) (by decide) (by decide)]; exact g4
    · rw [c3 40 (by decide) (by decide) (by decide) (by decide), c3 41 (by decide) (by decide) (by decide) (by decide)]; exact g5
    · rw [c3 43 (by decide) (by decide) (by decide) (by decide)]; exact g6
  have w3 : OK (mX3 A g).1 := emL_OK w2
  have t4 := c_settle (k := k) (R := R) (A := A) (B := (mX3 A g).1) (P := P) (c := (mX3 A g).2) hC3.1.cx w3.on hP3 mX3_sh.1 hO3 (fun j hj => by have := hPI.1.2.2 j hj; omega)
  refine bd_hit (hit_mono t4 ?_)
  rintro r4 s4 ⟨hX4, hO4, ⟨u40, u41, u42⟩, f4⟩
  have hX4 : CX s4 k (mM0 A g P) := hX4
  have hO4 : ONC s4 (mC3 A g P) := hO4
  have wM : ON (mM0 A g P) := mM_ON hI hM hR
  have hS4 : ∀ j, j < hn (mM0 A g P) → s4 38 0 j = nI (g j) := fun j hj => by rw [mM_n] at hj; rw [f4 38 0 (by omega)]; exact hS3 j hj
  have hrm0 : hrm (mM0 A g P) = hrm A := mX3_sh.2.2.2.2.2.1
  have t5 := c_dropRem (k := k) (M := mM0 A g P) (g := g) hX4 wM (fun q hq => by rw [hrm0] at hq; rw [mM_n, mM_sz]; exact w.rm hq) hS4 hM.g2
  refine bd_hit (hit_mono t5 ?_)
  rintro r5 s5 ⟨hX5, f5⟩
  have hX5 : CX s5 k (mM1 A g P) := hX5
  have wM1 : ON (mM1 A g P) := wM
  have hcap := mCap hI hM hR.2
  have hO5 : ∀ j ∈ pO P, j < hn (mM1 A g P) := fun j hj => by
    show j < hn (mM0 A g P)
    rw [mM_n]; exact (hPI.1.2.1 j hj).1
  have t6 := c_remMoved (k := k) (M := mM1 A g P) (O := pO P) hX5 wM1 hO5 (by rw [f5 1 0 (by omega), f4 1 0 (by omega)]; exact hP3.2.1) (fun i hi => by rw [f5 39 0 (by omega), f4 39 0 (by omega)]; exact hP3.2.2.2.1 i hi) hlenO (by
    have : (hrm (mM1 A g P) ++ nwR (mM1 A g P) (pO P)).length ≤ 73 := hcap
    omega)
  refine bd_hit (hit_mono t6 ?_)
  rintro r6 s6 ⟨hX6, f6⟩
  have hX6 : CX s6 k (mM2 A g P) := hX6
  have wM2 : ON (mM2 A g P) := wM
  have t7 := c_names (k := k) (M := mM2 A g P) (g := g) (ys := false) (c := mC3 A g P) hX6.r wM2 (fun j hj => by
    have hj : j < hn (mM0 A g P) := hj
    rw [f6 38 0 (by omega), f5 38 0 (by omega)]; exact hS4 j hj) hM.g2 (fun i hi => by rw [f6 37 0 (by omega), f5 37 0 (by omega)]; exact hO4 i hi)
  refine bd_hit (hit_mono t7 ?_)
  rintro r7 s7 ⟨h42, hO7, f7⟩
  have hX7 : CX s7 k (mM2 A g P) := hX6.mv (f7 7 k (by omega)) (fun c h1 h2 => f7 c k (by omega)) (fun q _ _ => ⟨f7 4 q (by omega), f7 28 q (by omega)⟩)
  have t8 := c_closeUp (k := k) (M := mM2 A g P) (kf := mKf A g P) hX7 wM2 (mClo hI hM) h42
  refine bd_hit (hit_mono t8 ?_)
  rintro r8 s8 ⟨hX8, f8⟩
  have e55 : s8 55 k (ix 1) = htl A 1 := by
    have : s8 55 k 1 = htl (cl (mM2 A g P) (mKf A g P)) 1 := hX8.2.2.2.1 1 (by omega)
    have e2 : htl (cl (mM2 A g P) (mKf A g P)) 1 = htl (mX3 A g).1 1 := rfl
    rw [e2, mX3_sh.2.2.2.2.2.2.1] at this
    exact this
  rw [e55, st_eq]
  have hO8 : ONC (wr s8 55 k (ix 1) (htl A 1 + 1)) (mC A g P) := fun i hi => by
    rw [wr_c (by decide), f8 37 0 (by omega)]
    have := hO7 i hi
    rw [this]
    congr 1
    show upx (mC3 A g P) 2 (mC3 A g P 2 + (hn (mM2 A g P) - rk (mKf A g P) (hn (mM2 A g P)))) i = upx (mC3 A g P) 2 (mC3 A g P 2 + (hn A - rk (mKf A g P) (hn A))) i
    rw [show hn (mM2 A g P) = hn A from mM_n (P := P)]
  have ht8 : ∀ t, t < 8 → wr s8 55 k (ix 1) (htl A 1 + 1) 55 k t = upx (htl A) 1 (htl A 1 + 1) t := fun t ht => by
    by_cases e : t = 1
    · subst e; rw [upx_same]; exact wr_same _ _ _ _ _
    · rw [wr_i (show ¬ t = ix 1 from e), upx_ne e]
      have : s8 55 k t = htl (mX3 A g).1 t := hX8.2.2.2.1 t ht
      rw [mX3_sh.2.2.2.2.2.2.1] at this
      exact this
  refine bd_hit (hit_mono (c_addCounts (fr := 0) ht8 hO8 (by omega)) ?_)
  rintro r9 s9 ⟨h9, f9⟩
  have f9' : ∀ c q, ¬ (c = 55 ∧ q = k) → s9 c q = s8 c q := fun c q hcq => (f9 c q hcq).trans (wrR_ne _ _ _ _ hcq)
  have hX9 : CX s9 k (minG A g P) := hX8.tl f9' h9
  obtain ⟨u0, u1, u2⟩ := mUsed hI hM
  have e54 : s9 54 k = s4 54 k := by rw [f9' 54 k (by omega), f8 54 k (by omega), f7 54 k (by omega), f6 54 k (by omega), f5 54 k (by omega)]
  refine hit_some ⟨rfl, ⟨hX9.cr (fun s hs => ?_), ?_⟩, fun i hi => by rw [f9 37 0 (by omega)]; exact hO8 i hi⟩
  · rw [e54]
    have eu : usedA (minG A g P) s = usedA (cl (mM2 A g P) (mKf A g P)) s := used_tl _ _ _
    rw [eu]
    rcases (by omega : s = 0 ∨ s = 1 ∨ s = 2) with rfl | rfl | rfl
    · rw [u0]; exact u40
    · rw [u1]; exact u41
    · rw [u2]; exact u42
  · have e4 : ∀ q, 6 * k + 3 ≤ q → q < 6 * k + 6 → s9 4 q = s3 4 q ∧ s9 28 q = s3 28 q := fun q h1 h2 => by
      refine ⟨?_, ?_⟩
      · rw [f9' 4 q (by omega), f8 4 q (by omega), f7 4 q (by omega), f6 4 q (by omega), f5 4 q (by omega), f4 4 q (by omega)]
      · rw [f9' 28 q (by omega), f8 28 q (by omega), f7 28 q (by omega), f6 28 q (by omega), f5 28 q (by omega), f4 28 q (by omega)]
    exact ⟨hC3.2.1.frame (e4 _ (by omega) (by omega)).1 (e4 _ (by omega) (by omega)).2, hC3.2.2.1.frame (e4 _ (by omega) (by omega)).1 (e4 _ (by omega) (by omega)).2, hC3.2.2.2.frame (e4 _ (by omega) (by omega)).1 (e4 _ (by omega) (by omega)).2⟩
noncomputable def mG (R : Nat → Nat) (A : Hp) : Nat → Nat := sg A 2 (pO (plan1 R A)) (pO (plan2 R A))
noncomputable def minA (R : Nat → Nat) (A : Hp) : Hp := minG A (mG R A) (plan2 R A)
theorem MF_plan {R : Nat → Nat} {b : Nat} {A : Hp} (hI : Inv R b A) (hx : ¬ pX (plan2 R A) = true) : MF R A (pO (plan1 R A)) (plan2 R A) (mG R A) := by
  have w := hI.ok
  have hu := hI.us (s := 2) (by omega)
  have x1 := (plan_fol R A).ok hx
  obtain ⟨k1, k2, k3, -⟩ := plan1_cov w hu x1
  obtain ⟨k4, k5⟩ := plan2_cov w hu hx
  have hfo := plan_fol R A
  refine ⟨PI_plan2 w hu, fun i => ?_, fun i => sg_0 (fun _ j hj => hfo.sub hj) (Or.inr rfl), fun i => ?_, fun j hj => hfo.sub hj, fun r t hr ht => k1 _ (List.mem_map.mpr ⟨r, List.mem_range.mpr hr, rfl⟩) t ht, fun j hj => k2 _ (List.mem_map.mpr ⟨j, hj, rfl⟩) j rfl, fun q hq hs t ht => ?_, fun j hj f hf hs t ht => ?_, fun s hs hk => k5 s hs hk s rfl⟩
  · unfold mG sg; split <;> (try split) <;> (try split) <;> (try split) <;> omega
  · unfold mG sg
    by_cases h2 : hsp A i = 2
    · rw [if_pos h2]; exact ⟨fun _ => Or.inl h2, fun _ => rfl⟩
    · rw [if_neg h2, if_neg (show ¬ 2 = 1 by decide)]
      by_cases hF : i ∈ pO (plan1 R A)
      · rw [if_pos hF]; exact ⟨fun _ => Or.inr hF, fun _ => rfl⟩
      · rw [if_neg hF]
        constructor
        · intro h; split at h <;> omega
        · rintro (h | h)
          · exact absurd h h2
          · exact absurd h hF
  · have := k3 _ (List.mem_map.mpr ⟨q, hq, rfl⟩)
    rw [if_neg (by omega)] at this
    exact this t ht
  · have := k4 j hj (if f < fst0 A j then none else hlk A j f) (List.mem_map.mpr ⟨f, List.mem_range.mpr hf, rfl⟩)
    rw [if_neg (by omega)] at this
    exact this t ht
def CYo (k : Nat) (A : Hp) (L : Lg) (X : Bool) (B : Hp) (c : Nat → Nat) (r : Int32) (s : rS) : Prop := if X = true then r = 0 ∧ CS s k (A, L) else r = 1 ∧ CS s k (B, L) ∧ ONC s c
theorem c_young {σ : rS} {k : Nat} {R : Nat → Nat} {b : Nat} {A : Hp} {L : Lg} (hC : CS σ k (A, L)) (hI : Inv R b A) (hR : RU σ R) : hit (fX1_collectYoung k σ) (CYo k A L (pX (plan2 R A)) (minA R A) (mC A (mG R A) (plan2 R A))) := by
  have w := hI.ok
  have hw := w.n
  unfold fX1_collectYoung
  refine bd_hit (hit_mono (hit_fr (frX1_beginPlan k σ) (c_beginPlan w hC.1 hR (hI.us (s := 2) (by omega)))) ?_)
  rintro r1 s1 ⟨f1, h1⟩
  refine bd_hit (hit_mono (hit_fr (frX1_planFromRoots k s1) (c_plRoots w h1)) ?_)
  rintro r2 s2 ⟨f2, h2⟩
  have t3 := c_plFrom (i := 0) w h2 (Or.inl rfl) (by omega)
  refine bd_hit (hit_mono (hit_fr (frX1_planFrom k (nI 0) (nI 1) s2) t3) ?_)
  rintro r3 s3 ⟨f3, h3⟩
  have h3 : PQ s3 k R A 1 [] (plan1 R A) := h3
  refine bd_hit (hit_mono (hit_fr (frX1_planFromLasting k s3) (c_plLasting w h3.two)) ?_)
  rintro r4 s4 ⟨f4, h4⟩
  have h4 : PQ s4 k R A 2 (pO (plan1 R A)) (plan2 R A) := h4
  have fr : ∀ c, ¬ c ∈ [1, 38, 39, 40, 41, 43] → s4 c = σ c := fun c hc => by
    simp only [List.mem_cons, List.not_mem_nil, or_false] at hc
    rw [f4 c (by simp only [List.mem_cons, List.not_mem_nil, or_false]; omega), f3 c (by simp only [List.mem_cons, List.not_mem_nil, or_false]; omega), f2 c (by simp only [List.mem_cons, List.not_mem_nil, or_false]; omega), f1 c (by simp only [List.mem_cons, List.not_mem_nil, or_false]; omega)]
  have hC4 : CS s4 k (A, L) := hC.of_eq (by rw [fr 7 (by decide)]) (fun c g1 g2 => by rw [fr c (by simp only [List.mem_cons, List.not_mem_nil, or_false]; omega)]) (fun j _ => ⟨by rw [fr 4 (by decide)], by rw [fr 28 (by decide)]⟩)
  have e11 := h4.2.2.1.2.2.1
  rw [e11]
  unfold CYo
  cases hx : pX (plan2 R A) with
  | true =>
    rw [if_neg (by decide)]
    exact hit_some (by rw [if_pos rfl]; exact ⟨rfl, hC4⟩)
  | false =>
    rw [if_pos (by decide)]
    have hx' : ¬ pX (plan2 R A) = true := by rw [hx]; decide
    have := c_youngEnd hC4 hI (MF_plan hI hx') ⟨hR.2.2.1, hR.2.2.2.1⟩ h4.2.2.1 h4.2.2.2.1
    refine hit_mono this (fun r s h => ?_)
    rw [if_neg (by decide)]
    exact h
