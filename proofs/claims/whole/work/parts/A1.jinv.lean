/-! a MAJOR as a value, and what is kept -/
def sPl (M : Hp) (f : Nat → Nat) : Hp := (M.1, fun c i => if c = 3 then f i else M.2.1 c i, M.2.2)
def jul (A : Hp) (g : Nat → Nat) (i : Nat) : Bool := !decide (hsp A i = 2) && decide (g i = 0)
def jM0 (A : Hp) (g : Nat → Nat) : Hp := sPl (mX3 A g).1 (slL A g 128).2.1
def jM1 (A : Hp) (g : Nat → Nat) : Hp := sLk (jM0 A g) (fun i f => if jul A g i = true then none else hlk (jM0 A g) i f)
def jM2 (A : Hp) (g : Nat → Nat) : Hp := sRm (jM1 A g) ((hrm (jM1 A g)).filter (drF (jM1 A g) g))
def jKf (A : Hp) (g : Nat → Nat) : Nat → Bool := kpF (jM2 A g) g true
def jC3 (A : Hp) (g : Nat → Nat) : Nat → Nat := upx (mX3 A g).2 0 ((mX3 A g).2 0 + (slL A g 128).2.2)
def jGone (A : Hp) (g : Nat → Nat) : Nat := hn A - rk (jKf A g) (hn A)
def jC (A : Hp) (g : Nat → Nat) : Nat → Nat := upx (jC3 A g) 2 (jC3 A g 2 + jGone A g)
def majG (A : Hp) (g : Nat → Nat) : Hp := sTl (cl (jM2 A g) (jKf A g)) (tlA (upx (htl A) 2 (htl A 2 + 1)) (jC A g) 2)
section jFacts
variable {R : Nat → Nat} {b : Nat} {A : Hp} {g : Nat → Nat} {Q1 Q2 : List Nat}
theorem JF.g1 (h : JF A Q1 Q2 g) {i : Nat} : g i = 1 ↔ i ∈ Q1 := h.1 i
theorem JF.g0 (h : JF A Q1 Q2 g) {i : Nat} : g i = 0 ↔ ¬ i ∈ Q2 := h.2.1 i
theorem JF.g2 (h : JF A Q1 Q2 g) (i : Nat) : g i ≤ 2 := h.2.2.1 i
theorem JF.nz (h : JF A Q1 Q2 g) {i : Nat} : ¬ g i = 0 ↔ i ∈ Q2 := ⟨fun z => Classical.byContradiction (fun y => z (h.g0.mpr y)), fun z y => h.g0.mp y z⟩
theorem JF.e1 (h : JF A Q1 Q2 g) : ∀ j ∈ hen A, g j = 1 := fun j hj => h.g1.mpr (h.2.2.2.2.2.1 j hj)
theorem jM_n : hn (jM0 A g) = hn A := mX3_sh.1
theorem jM_num : hnum (jM0 A g) = hnum A := by
  funext i
  show (mX3 A g).1.2.1 0 i = A.2.1 0 i
  rw [mX3_sh.2.1]
theorem jM_sz : hsz (jM0 A g) = hsz A := by
  funext i
  show (mX3 A g).1.2.1 1 i = A.2.1 1 i
  rw [mX3_sh.2.1]
theorem jM_sp : hsp (jM0 A g) = hsp A := by
  funext i
  show (mX3 A g).1.2.1 2 i = A.2.1 2 i
  rw [mX3_sh.2.1]
theorem jM_pl : hpl (jM0 A g) = (slL A g 128).2.1 := rfl
theorem jM_kd : hkd (jM0 A g) = hkd A := by
  funext i
  show (mX3 A g).1.2.2.1 0 i = A.2.2.1 0 i
  rw [mX3_sh.2.2.1]
theorem jM_lk (i f : Nat) : hlk (jM2 A g) i f = if jul A g i = true then none else hlk (mX3 A g).1 i f := rfl
theorem jM_lk' {i f t : Nat} (h : hlk (jM2 A g) i f = some t) : jul A g i = false ∧ hlk (mX3 A g).1 i f = some t ∧ hlk A i f = some t := by
  rw [jM_lk] at h
  by_cases hu : jul A g i = true
  · rw [if_pos hu] at h; cases h
  · rw [if_neg hu] at h
    exact ⟨by simpa using hu, h, mX3_lk' h⟩
theorem jKf_eq (i : Nat) : jKf A g i = true ↔ ¬ g i = 0 ∨ ¬ hsp A i = 2 := by
  have e : hsp (jM2 A g) i = hsp A i := by show hsp (jM0 A g) i = _; rw [jM_sp]
  unfold jKf kpF
  rw [e]
  by_cases h0 : g i = 0 <;> by_cases h2 : hsp A i = 2 <;> simp [h0, h2]
theorem jApart (hI : Inv R b A) : Apart A := fun i j hi hj hne h2 h2' => (hI.2.2.2.1 i hi).2.2.2 j hj hne h2 h2'
theorem jSLI (hI : Inv R b A) : SLI A g 128 (slL A g 128) := SLI_all (jApart hI) (fun j hj => hI.ok.sz hj) 128
theorem jpl128 (hI : Inv R b A) (hR : R 2 ≤ 128) {j : Nat} (hj : j < hn A) (h2 : hsp A j = 2) : hpl A j < 128 := by
  have h1 := (hI.2.2.2.1 j hj).2.2.1 h2
  have h3 := hI.us (s := 2) (by omega)
  omega
theorem jnewpl (hI : Inv R b A) (i : Nat) (hi : i < hn A) : (slL A g 128).2.1 i ≤ hpl A i := by
  obtain ⟨-, c2, c3, -⟩ := jSLI (g := g) hI
  by_cases h : i < hn A ∧ hsp A i = 2 ∧ ¬ g i = 0 ∧ hpl A i < 128
  · exact (c2 i hi h.2.1 h.2.2.1 h.2.2.2).2
  · rw [c3 i h]; exact Nat.le_refl _
theorem jM_ON (hI : Inv R b A) : ON (jM0 A g) := by
  have w := hI.ok
  refine ⟨by rw [jM_n]; exact w.n, fun i hi => ?_, fun i j hij hj => ?_⟩
  · rw [jM_n] at hi
    unfold OKo
    rw [jM_num, jM_sz, jM_sp, jM_pl, jM_n]
    obtain ⟨o1, o2, o3, o4, o5⟩ := w.2.1 i hi
    exact ⟨o1, o2, o3, by have := jnewpl (g := g) hI i hi; omega, fun f j hf hj => o5 f j hf (mX3_lk' hj)⟩
  · rw [jM_n] at hj
    rw [jM_num]
    exact w.2.2.2.2.2 i j hij hj
theorem jM2_ON (hI : Inv R b A) : ON (jM2 A g) := by
  have w := jM_ON (g := g) hI
  refine ⟨w.1, fun i hi => ?_, w.2.2⟩
  obtain ⟨o1, o2, o3, o4, o5⟩ := w.2.1 i hi
  exact ⟨o1, o2, o3, o4, fun f j hf hj => o5 f j hf (jM_lk' hj).2.1⟩
theorem jLink (hI : Inv R b A) (hJ : JF A Q1 Q2 g) {i f t : Nat} (hi : i < hn A) (hk : i ∈ Q2) (hf : f < hsz A i) (ht : hlk (mX3 A g).1 i f = some t) : t < hn A ∧ t ∈ Q2 := by
  have w := hI.ok
  have ht' := mX3_lk' ht
  refine ⟨w.lk hi hf ht', ?_⟩
  by_cases hs : fst0 A i ≤ f
  · exact hJ.2.2.2.2.2.2.1 i hk f t hs hf ht'
  · have hf0 : fst0 A i ≤ 1 := by unfold fst0; split <;> omega
    have f0 : f = 0 := by omega
    subst f0
    have hkd1 : hkd A i = 1 := by
      unfold fst0 at hs
      by_cases h : hkd A i = 1
      · exact h
      · rw [if_neg h] at hs; omega
    rw [mX3_lk] at ht
    by_cases gg : wkg A g 1 i = true ∨ wkg A g 2 i = true
    · rw [if_pos ⟨rfl, hi, gg⟩] at ht; cases ht
    · have g1 : ¬ wkg A g 1 i = true := fun z => gg (Or.inl z)
      have g2 : ¬ wkg A g 2 i = true := fun z => gg (Or.inr z)
      refine Classical.byContradiction (fun hno => ?_)
      have t0 : g t = 0 := hJ.g0.mpr hno
      have hgi : g i = 1 ∨ g i = 2 := by
        have := hJ.g2 i
        have n0 : ¬ g i = 0 := hJ.nz.mpr hk
        omega
      rcases hgi with e | e
      · exact g1 (by unfold wkg; rw [ht']; simp [hkd1, e, t0])
      · exact g2 (by unfold wkg; rw [ht']; simp [hkd1, e, t0])
theorem jEnd (hI : Inv R b A) (hJ : JF A Q1 Q2 g) : ∀ j ∈ hen A ++ lsE A g (hn A), j < hn A ∧ j ∈ Q2 ∧ hkd A j = 2 := fun j hj => by
  have w := hI.ok
  rcases List.mem_append.mp hj with hj | hj
  · exact ⟨w.en hj, hJ.2.2.2.1.2.2.sub (hJ.2.2.2.2.2.1 j hj), hI.2.2.2.2.1.2 j hj⟩
  · obtain ⟨h1, h2, -⟩ := lsE_mem.mp hj
    exact ⟨h1, hJ.2.2.2.2.2.2.2 j h1 h2, h2⟩
theorem jRm_mem {q : Nat × Nat} : q ∈ hrm (jM2 A g) ↔ q ∈ hrm A ∧ drF (jM1 A g) g q = true := by
  show q ∈ (hrm (mX3 A g).1).filter (drF (jM1 A g) g) ↔ _
  rw [List.mem_filter, mX3_sh.2.2.2.2.2.1]
theorem jClo (hI : Inv R b A) (hJ : JF A Q1 Q2 g) : Clo (jM2 A g) (jKf A g) := by
  have w := hI.ok
  have en : hn (jM2 A g) = hn A := jM_n
  have ez : hsz (jM2 A g) = hsz A := jM_sz
  refine ⟨fun i hi hk f t hf ht => ?_, fun r t hr ht => ?_, fun j hj => ?_, fun q hq => ?_⟩
  · rw [en] at hi ⊢
    rw [ez] at hf
    obtain ⟨hu, h1, -⟩ := jM_lk' ht
    have hgi : ¬ g i = 0 := fun z => by
      rcases (jKf_eq i).mp hk with y | y
      · exact y z
      · unfold jul at hu
        simp [y, z] at hu
    obtain ⟨h3, h4⟩ := jLink hI hJ hi (hJ.nz.mp hgi) hf h1
    exact ⟨h3, (jKf_eq t).mpr (Or.inl (hJ.nz.mpr h4))⟩
  · rw [en]
    have ht : hrt (mX3 A g).1 r = some t := ht
    rw [mX3_sh.2.2.2.1] at ht
    have := hJ.2.2.2.2.1 r t hr ht
    exact ⟨w.rt hr ht, (jKf_eq t).mpr (Or.inl (hJ.nz.mpr (hJ.2.2.2.1.2.2.sub this)))⟩
  · rw [en]
    have hj : j ∈ hen (mX3 A g).1 := hj
    rw [mX3_sh.2.2.2.2.1] at hj
    obtain ⟨h1, h2, -⟩ := jEnd hI hJ j hj
    exact ⟨h1, (jKf_eq j).mpr (Or.inl (hJ.nz.mpr h2))⟩
  · rw [en, ez]
    obtain ⟨h1, h2⟩ := jRm_mem.mp hq
    have h3 := w.rm h1
    unfold drF at h2
    have h4 := (Bool.and_eq_true_iff.mp h2).2
    have h4 : ¬ g q.1 = 0 := by simpa using h4
    exact ⟨⟨h3.1, (jKf_eq q.1).mpr (Or.inl h4)⟩, h3.2⟩
theorem jUsed (hI : Inv R b A) (hR : R 2 ≤ 128) : usedA (cl (jM2 A g) (jKf A g)) 0 = usedA A 0 ∧ usedA (cl (jM2 A g) (jKf A g)) 1 = usedA A 1 ∧ usedA (cl (jM2 A g) (jKf A g)) 2 = (slL A g 128).1 := by
  have en : hn (jM2 A g) = hn A := jM_n
  have ez : hsz (jM2 A g) = hsz A := jM_sz
  have es : hsp (jM2 A g) = hsp A := jM_sp
  rw [used_cl, used_cl, used_cl, en, ez, es]
  have young : ∀ s, ¬ s = 2 → sumN (fun i => if jKf A g i = true ∧ hsp A i = s then 3 + hsz A i else 0) (hn A) = usedA A s := fun s hs => by
    refine sumN_congr (fun i _ => ?_)
    by_cases h : hsp A i = s
    · rw [if_pos h, if_pos ⟨(jKf_eq i).mpr (Or.inr (by omega)), h⟩]
    · rw [if_neg h, if_neg (fun z => h z.2)]
  refine ⟨young 0 (by omega), young 1 (by omega), ?_⟩
  rw [(jSLI (g := g) hI).1]
  refine sumN_congr (fun i hi => ?_)
  by_cases h : hsp A i = 2 ∧ ¬ g i = 0
  · rw [if_pos ⟨(jKf_eq i).mpr (Or.inl h.2), h.1⟩, if_pos ⟨h, jpl128 hI hR hi h.1⟩]
  · rw [if_neg (fun z => h ⟨z.2, by
      rcases (jKf_eq i).mp z.1 with y | y
      · exact y
      · exact absurd z.2 y⟩), if_neg (fun z => h z.1)]
theorem jnext (hI : Inv R b A) (hR : R 2 ≤ 128) : (slL A g 128).1 ≤ usedA A 2 := by
  rw [(jSLI (g := g) hI).1]
  refine sumN_le (fun i _ => ?_)
  by_cases h : (hsp A i = 2 ∧ ¬ g i = 0) ∧ hpl A i < 128
  · rw [if_pos h, if_pos h.1.1]; exact Nat.le_refl _
  · rw [if_neg h]; exact Nat.zero_le _
theorem jRm_iff (hI : Inv R b A) {i f : Nat} (hi : i < hn A) (hk : jKf A g i = true) (hf : f < hsz A i) : (i, f) ∈ hrm (jM2 A g) ↔ hsp (jM2 A g) i = 2 ∧ ∃ t, hlk (jM2 A g) i f = some t ∧ ¬ hsp (jM2 A g) t = 2 := by
  have es : hsp (jM2 A g) = hsp A := jM_sp
  rw [jRm_mem]
  constructor
  · rintro ⟨-, h⟩
    unfold drF at h
    exact oty_iff.mp (Bool.and_eq_true_iff.mp h).1
  · rintro ⟨h1, t, h2, h3⟩
    have h1' : hsp A i = 2 := by rw [← es]; exact h1
    have h3' : ¬ hsp A t = 2 := by rw [← es]; exact h3
    refine ⟨(hI.2.2.2.2.2.1.2 i f hi hf).mpr ⟨h1', t, (jM_lk' h2).2.2, h3'⟩, ?_⟩
    have hg : ¬ g i = 0 := by
      rcases (jKf_eq i).mp hk with y | y
      · exact y
      · exact absurd h1' y
    unfold drF
    have ho : oty (jM1 A g) i f = true := oty_iff.mpr ⟨h1, t, h2, h3⟩
    rw [ho]
    simp [hg]
theorem jInv (hI : Inv R b A) (hJ : JF A Q1 Q2 g) (hR : R 2 ≤ 128) : Inv R b (majG A g) := by
  have w := hI.ok
  obtain ⟨u0, u1, u2⟩ := jUsed (g := g) hI hR
  have hnx := jnext (g := g) hI hR
  obtain ⟨s1, s2, s3, s4, s5, s6⟩ := jSLI (g := g) hI
  have en : hn (jM2 A g) = hn A := jM_n
  have ez : hsz (jM2 A g) = hsz A := jM_sz
  have ek : hkd (jM2 A g) = hkd A := jM_kd
  have es : hsp (jM2 A g) = hsp A := jM_sp
  have epl : hpl (jM2 A g) = (slL A g 128).2.1 := rfl
  have kg : ∀ i, jKf A g i = true → hsp A i = 2 → ¬ g i = 0 := fun i hk h2 => by
    rcases (jKf_eq i).mp hk with y | y
    · exact y
    · exact absurd h2 y
  have hc : Inv R b (cl (jM2 A g) (jKf A g)) := by
    refine cl_Inv (jM2_ON hI) (jClo hI hJ) (fun s hs => ?_) ?_ (fun i hi hk => ?_) (fun i j hi hj hki hkj hne h2 h2' => ?_) ⟨?_, fun j hj => ?_⟩ ⟨?_, fun i f hi hk hf => ?_⟩ ?_
    · rcases (by omega : s = 0 ∨ s = 1 ∨ s = 2) with rfl | rfl | rfl
      · rw [u0]; exact hI.us (by omega)
      · rw [u1]; exact hI.us (by omega)
      · rw [u2]; have := hI.us (s := 2) (by omega); omega
    · obtain ⟨m, m1, m2, m3⟩ := hI.2.2.1
      refine ⟨m, m1, ?_, fun i hi => ?_⟩
      · show htl (mX3 A g).1 0 = _
        rw [mX3_sh.2.2.2.2.2.2.1]; exact m2
      · rw [en] at hi
        show hnum (jM0 A g) i ≤ m
        rw [jM_num]; exact m3 i hi
    · rw [en] at hi
      obtain ⟨a1, a2, a3, -⟩ := hI.2.2.2.1 i hi
      rw [ek, ez, u2, es, epl]
      exact ⟨a1, a2, fun h2 => (s2 i hi h2 (kg i hk h2) (jpl128 hI hR hi h2)).1⟩
    · rw [en] at hi hj
      rw [es] at h2 h2'
      rw [ez, epl]
      exact s4 i j hi hj hne h2 h2' (kg i hki h2) (kg j hkj h2') (jpl128 hI hR hi h2) (jpl128 hI hR hj h2')
    · show (hen (mX3 A g).1).Nodup
      rw [mX3_sh.2.2.2.2.1]
      exact app_nodup hI.2.2.2.2.1.1 lsE_nodup (fun j hj hm => (lsE_mem.mp hm).2.2 (hJ.e1 j hj))
    · have hj : j ∈ hen (mX3 A g).1 := hj
      rw [mX3_sh.2.2.2.2.1] at hj
      rw [ek]
      exact (jEnd hI hJ j hj).2.2
    · show ((hrm (mX3 A g).1).filter (drF (jM1 A g) g)).Nodup
      rw [mX3_sh.2.2.2.2.2.1]
      exact hI.2.2.2.2.2.1.1.filter _
    · rw [en] at hi
      rw [ez] at hf
      exact jRm_iff hI hi hk hf
    · have w1 : ∀ i, i < hn A → hnum A i < 2147483648 := fun i hi => by have := w.num2 hi; omega
      obtain ⟨l1, l2⟩ := emL_lo (wkg A g 1) (A, fun _ => 0) (hn A) hI.2.2.2.2.2.2.1 hI.2.2.2.2.2.2.2 w1
      have b2 := (emL_sh (wkg A g 1) (A, fun _ => 0) (hn A)).2.1
      refine emL_lo (wkg A g 2) (mX2 A g) (hn A) l1 l2 (fun i hi => ?_)
      show (emL (wkg A g 1) (A, fun _ => 0) (hn A)).1.2.1 0 i < _
      rw [b2]; exact w1 i hi
  refine hc.tl ?_
  unfold tlA
  rw [if_neg (by omega), upx_ne (by decide)]
  show htl A 0 = htl (mX3 A g).1 0
  rw [mX3_sh.2.2.2.2.2.2.1]
end jFacts
