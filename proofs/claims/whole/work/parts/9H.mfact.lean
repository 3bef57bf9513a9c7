/-! a MINOR as a value -/
theorem sum_kl {kf : Nat → Bool} {h : Nat → Nat} : ∀ n : Nat, sumN (fun p => h ((kl kf n).getD p 0)) (rk kf n) = sumN (fun i => if kf i = true then h i else 0) n := by
  intro n
  induction n with
  | zero => rfl
  | succ n ih =>
    by_cases hk : kf n = true
    · have e : sumN (fun p => h ((kl kf (n + 1)).getD p 0)) (rk kf (n + 1)) = sumN (fun p => h ((kl kf n).getD p 0)) (rk kf n) + h n := by
        rw [rk_yes hk, kl_yes hk]
        show sumN (fun p => h ((kl kf n ++ [n]).getD p 0)) (rk kf n) + h ((kl kf n ++ [n]).getD (rk kf n) 0) = _
        have e1 : (kl kf n ++ [n]).getD (rk kf n) 0 = n := getD_app_eq
        rw [e1, sumN_congr (f := fun p => h ((kl kf n ++ [n]).getD p 0)) (g := fun p => h ((kl kf n).getD p 0)) (fun p hp => by
          show h _ = h _
          rw [getD_app_lt (show p < (kl kf n).length from hp)])]
      rw [e, ih]
      show _ = sumN (fun i => if kf i = true then h i else 0) n + (if kf n = true then h n else 0)
      rw [if_pos hk]
    · rw [rk_no hk, kl_no hk, ih]
      show _ = sumN (fun i => if kf i = true then h i else 0) n + (if kf n = true then h n else 0)
      rw [if_neg hk]
      omega
theorem used_cl (M : Hp) (kf : Nat → Bool) (s : Nat) : usedA (cl M kf) s = sumN (fun i => if kf i = true ∧ hsp M i = s then 3 + hsz M i else 0) (hn M) := by
  have := sum_kl (kf := kf) (h := fun i => if hsp M i = s then 3 + hsz M i else 0) (hn M)
  show sumN (fun p => if hsp M (ks M kf p) = s then 3 + hsz M (ks M kf p) else 0) (rk kf (hn M)) = _
  rw [show (fun p => if hsp M (ks M kf p) = s then 3 + hsz M (ks M kf p) else 0) = fun p => (fun i => if hsp M i = s then 3 + hsz M i else 0) ((kl kf (hn M)).getD p 0) from rfl, this]
  refine sumN_congr (fun i _ => ?_)
  by_cases h : kf i = true
  · rw [if_pos h]
    by_cases h2 : hsp M i = s
    · rw [if_pos h2, if_pos ⟨h, h2⟩]
    · rw [if_neg h2, if_neg (fun z => h2 z.2)]
  · rw [if_neg h, if_neg (fun z => h z.1)]
theorem Inv.tl {R : Nat → Nat} {b : Nat} {A : Hp} {g : Nat → Int32} (h : Inv R b A) (e : g 0 = htl A 0) : Inv R b (sTl A g) := by
  obtain ⟨h1, h2, ⟨m, m1, m2, m3⟩, h4⟩ := h
  exact ⟨h1, h2, ⟨m, m1, e.trans m2, m3⟩, h4⟩
/-- what holds of a heap whose kept ones close up -/
theorem cl_OK {M : Hp} {kf : Nat → Bool} (w : ON M) (hc : Clo M kf) : OK (cl M kf) := by
  have hrk := rk_le kf (hn M)
  have hw := w.1
  refine ⟨by show rk kf (hn M) ≤ 78; omega, fun p hp => ?_, fun r j hr hj => ?_, fun j hj => ?_, fun q hq => ?_, fun i j hij hj => ?_⟩
  · obtain ⟨k1, k2, k3⟩ := kl_at (kf := kf) (n := hn M) (p := p) hp
    obtain ⟨a1, a2, a3, a4, a5⟩ := w.2.1 _ k1
    refine ⟨a1, a2, a3, a4, fun f t hf ht => ?_⟩
    have ht : (hlk M (ks M kf p) f).map (rk kf) = some t := ht
    rcases opt_cases (hlk M (ks M kf p) f) with hl | ⟨u, hl⟩
    · rw [hl] at ht; cases ht
    · rw [hl] at ht
      have ht : some (rk kf u) = some t := ht
      cases ht
      obtain ⟨c1, c2⟩ := hc.1 _ k1 k2 f u hf hl
      exact rk_mono c1 c2
  · have hj : (hrt M r).map (rk kf) = some j := hj
    rcases opt_cases (hrt M r) with hl | ⟨u, hl⟩
    · rw [hl] at hj; cases hj
    · rw [hl] at hj
      have hj : some (rk kf u) = some j := hj
      cases hj
      obtain ⟨c1, c2⟩ := hc.2.1 r u hr hl
      exact rk_mono c1 c2
  · obtain ⟨u, hu, rfl⟩ := List.mem_map.mp (show j ∈ (hen M).map (rk kf) from hj)
    obtain ⟨c1, c2⟩ := hc.2.2.1 u hu
    exact rk_mono c1 c2
  · obtain ⟨u, hu, rfl⟩ := List.mem_map.mp (show q ∈ (hrm M).map (fun q => (rk kf q.1, q.2)) from hq)
    obtain ⟨⟨c1, c2⟩, c3⟩ := hc.2.2.2 u hu
    refine ⟨rk_mono c1 c2, ?_⟩
    show u.2 < hsz M (ks M kf (rk kf u.1))
    have e : ks M kf (rk kf u.1) = u.1 := (kl_get c1 c2).1
    rw [e]; exact c3
  · have hi : i < rk kf (hn M) := Nat.lt_trans hij hj
    obtain ⟨k1, k2, k3⟩ := kl_at (kf := kf) (n := hn M) (p := i) hi
    obtain ⟨l1, l2, l3⟩ := kl_at (kf := kf) (n := hn M) (p := j) hj
    refine w.2.2 _ _ ?_ l1
    rcases Nat.lt_trichotomy (ks M kf i) (ks M kf j) with g | g | g
    · exact g
    · have e : rk kf (ks M kf i) = rk kf (ks M kf j) := by rw [g]
      have : i = j := k3.symm.trans (e.trans l3)
      omega
    · have := rk_mono g l2
      rw [show rk kf (ks M kf j) = j from l3, show rk kf (ks M kf i) = i from k3] at this
      omega
/-- the rest of what is kept, from what holds of M -/
theorem cl_Inv {R : Nat → Nat} {b : Nat} {M : Hp} {kf : Nat → Bool} (w : ON M) (hc : Clo M kf) (hu : ∀ s, s < 3 → usedA (cl M kf) s ≤ R s) (hm : ∃ m, m ≤ b ∧ htl M 0 = nI m ∧ ∀ i, i < hn M → hnum M i ≤ m) (hk : ∀ i, i < hn M → kf i = true → (hkd M i = 0 ∨ hkd M i = 1 ∨ hkd M i = 2) ∧ (hkd M i = 1 → 1 ≤ hsz M i) ∧ (hsp M i = 2 → hpl M i + (3 + hsz M i) ≤ usedA (cl M kf) 2)) (hd : ∀ i j, i < hn M → j < hn M → kf i = true → kf j = true → ¬ i = j → hsp M i = 2 → hsp M j = 2 → hpl M i + (3 + hsz M i) ≤ hpl M j ∨ hpl M j + (3 + hsz M j) ≤ hpl M i) (he : (hen M).Nodup ∧ ∀ j ∈ hen M, hkd M j = 2) (hr : (hrm M).Nodup ∧ ∀ i f, i < hn M → kf i = true → f < hsz M i → ((i, f) ∈ hrm M ↔ hsp M i = 2 ∧ ∃ t, hlk M i f = some t ∧ ¬ hsp M t = 2)) (hl : (hlo M).length ≤ 40 ∧ ∀ x ∈ hlo M, x < 2147483648) : Inv R b (cl M kf) := by
  refine ⟨cl_OK w hc, hu, ?_, fun p hp => ?_, ⟨?_, fun j hj => ?_⟩, ⟨?_, fun p f hp hf => ?_⟩, hl⟩
  · obtain ⟨m, m1, m2, m3⟩ := hm
    refine ⟨m, m1, m2, fun p hp => ?_⟩
    obtain ⟨k1, k2, k3⟩ := kl_at (kf := kf) (n := hn M) (p := p) hp
    exact m3 _ k1
  · obtain ⟨k1, k2, k3⟩ := kl_at (kf := kf) (n := hn M) (p := p) hp
    obtain ⟨a1, a2, a3⟩ := hk _ k1 k2
    refine ⟨a1, a2, a3, fun q hq hne h2 h2' => ?_⟩
    obtain ⟨l1, l2, l3⟩ := kl_at (kf := kf) (n := hn M) (p := q) hq
    refine hd _ _ k1 l1 k2 l2 (fun e => hne ?_) h2 h2'
    rw [← k3, ← l3]
    exact congrArg (rk kf) e
  · refine nodup_map he.1 (fun a ha c hc' e => ?_)
    exact rk_inj (hc.2.2.1 a ha).2 (hc.2.2.1 c hc').2 e
  · obtain ⟨u, hu', rfl⟩ := List.mem_map.mp (show j ∈ (hen M).map (rk kf) from hj)
    obtain ⟨c1, c2⟩ := hc.2.2.1 u hu'
    show hkd M (ks M kf (rk kf u)) = 2
    have e : ks M kf (rk kf u) = u := (kl_get c1 c2).1
    rw [e]; exact he.2 u hu'
  · refine nodup_map hr.1 (fun a ha c hc' e => ?_)
    have e1 := rk_inj (hc.2.2.2 a ha).1.2 (hc.2.2.2 c hc').1.2 (Prod.mk.inj e).1
    exact Prod.ext e1 (Prod.mk.inj e).2
  · obtain ⟨k1, k2, k3⟩ := kl_at (kf := kf) (n := hn M) (p := p) hp
    have hf : f < hsz M (ks M kf p) := hf
    have e1 : (p, f) ∈ hrm (cl M kf) ↔ (ks M kf p, f) ∈ hrm M := by
      constructor
      · intro h
        obtain ⟨u, hu', e⟩ := List.mem_map.mp (show (p, f) ∈ (hrm M).map (fun q => (rk kf q.1, q.2)) from h)
        obtain ⟨⟨c1, c2⟩, c3⟩ := hc.2.2.2 u hu'
        have e2 : u.1 = ks M kf p := rk_inj c2 k2 ((congrArg Prod.fst e).trans k3.symm)
        have e3 : u.2 = f := congrArg Prod.snd e
        rw [← e2, ← e3]; exact hu'
      · intro h
        refine List.mem_map.mpr ⟨_, h, ?_⟩
        show (rk kf (ks M kf p), f) = (p, f)
        rw [show rk kf (ks M kf p) = p from k3]
    have hr2 := hr.2 (ks M kf p) f k1 k2 hf
    rw [e1, hr2]
    show _ ↔ hsp M (ks M kf p) = 2 ∧ ∃ j, (hlk M (ks M kf p) f).map (rk kf) = some j ∧ ¬ hsp M (ks M kf j) = 2
    constructor
    · rintro ⟨h1, t, h2, h3⟩
      obtain ⟨c1, c2⟩ := hc.1 _ k1 k2 f t hf h2
      refine ⟨h1, rk kf t, by rw [h2]; rfl, ?_⟩
      have e : ks M kf (rk kf t) = t := (kl_get c1 c2).1
      rw [e]; exact h3
    · rintro ⟨h1, j, h2, h3⟩
      rcases opt_cases (hlk M (ks M kf p) f) with hl' | ⟨t, hl'⟩
      · rw [hl'] at h2; cases h2
      · rw [hl'] at h2
        have h2 : some (rk kf t) = some j := h2
        cases h2
        obtain ⟨c1, c2⟩ := hc.1 _ k1 k2 f t hf hl'
        have e : ks M kf (rk kf t) = t := (kl_get c1 c2).1
        rw [e] at h3
        exact ⟨h1, t, hl', h3⟩
/-! the value -/
def mX1 (A : Hp) (g : Nat → Nat) : HX := emL (wkg A g 1) (A, fun _ => 0) (hn A)
def mX2 (A : Hp) (g : Nat → Nat) : HX := enX A g (mX1 A g) (hn A)
def mX3 (A : Hp) (g : Nat → Nat) : HX := emL (wkg A g 2) (mX2 A g) (hn A)
def mM0 (A : Hp) (g : Nat → Nat) (P : Pn) : Hp := sFl (mvP (mX3 A g).1 (pO P) P) (1 - hfl (mX3 A g).1)
def mM1 (A : Hp) (g : Nat → Nat) (P : Pn) : Hp := sRm (mM0 A g P) ((hrm (mM0 A g P)).filter (drF (mM0 A g P) g))
def mM2 (A : Hp) (g : Nat → Nat) (P : Pn) : Hp := sRm (mM1 A g P) (hrm (mM1 A g P) ++ nwR (mM1 A g P) (pO P))
def mKf (A : Hp) (g : Nat → Nat) (P : Pn) : Nat → Bool := kpF (mM2 A g P) g false
def mC3 (A : Hp) (g : Nat → Nat) (P : Pn) : Nat → Nat := cM (mX3 A g).2 (pO P) P
def mGone (A : Hp) (g : Nat → Nat) (P : Pn) : Nat := hn A - rk (mKf A g P) (hn A)
def mC (A : Hp) (g : Nat → Nat) (P : Pn) : Nat → Nat := upx (mC3 A g P) 2 (mC3 A g P 2 + mGone A g P)
def minG (A : Hp) (g : Nat → Nat) (P : Pn) : Hp := sTl (cl (mM2 A g P) (mKf A g P)) (tlA (upx (htl A) 1 (htl A 1 + 1)) (mC A g P) 0)
section mFacts
variable {R : Nat → Nat} {b : Nat} {A : Hp} {g : Nat → Nat} {F : List Nat} {P : Pn}
/-- what is known of the plan and its stages -/
def MF (R : Nat → Nat) (A : Hp) (F : List Nat) (P : Pn) (g : Nat → Nat) : Prop := PI R A P ∧ (∀ i, g i ≤ 2) ∧ (∀ i, g i = 0 ↔ ¬ (hsp A i = 2 ∨ i ∈ pO P)) ∧ (∀ i, g i = 1 ↔ hsp A i = 2 ∨ i ∈ F) ∧ (∀ j ∈ F, j ∈ pO P) ∧ (∀ r t, r < 8 → hrt A r = some t → hsp A t = 2 ∨ t ∈ F) ∧ (∀ j ∈ hen A, hsp A j = 2 ∨ j ∈ F) ∧ (∀ q ∈ hrm A, fst0 A q.1 ≤ q.2 → ∀ t, hlk A q.1 q.2 = some t → hsp A t = 2 ∨ t ∈ F) ∧ (∀ j ∈ pO P, ∀ f, f < hsz A j → fst0 A j ≤ f → ∀ t, hlk A j f = some t → hsp A t = 2 ∨ t ∈ pO P) ∧ ∀ s, s < hn A → hkd A s = 2 → hsp A s = 2 ∨ s ∈ pO P
theorem MF.pi (h : MF R A F P g) : PI R A P := h.1
theorem MF.g2 (h : MF R A F P g) (i : Nat) : g i ≤ 2 := h.2.1 i
theorem MF.g0 (h : MF R A F P g) {i : Nat} : g i = 0 ↔ ¬ (hsp A i = 2 ∨ i ∈ pO P) := h.2.2.1 i
theorem MF.g1 (h : MF R A F P g) {i : Nat} : g i = 1 ↔ hsp A i = 2 ∨ i ∈ F := h.2.2.2.1 i
theorem MF.fo (h : MF R A F P g) {j : Nat} (hj : j ∈ F) : j ∈ pO P := h.2.2.2.2.1 j hj
theorem mX3_sh : (mX3 A g).1.1 = A.1 ∧ (mX3 A g).1.2.1 = A.2.1 ∧ (mX3 A g).1.2.2.1 = A.2.2.1 ∧ hrt (mX3 A g).1 = hrt A ∧ hen (mX3 A g).1 = hen A ++ lsE A g (hn A) ∧ hrm (mX3 A g).1 = hrm A ∧ htl (mX3 A g).1 = htl A ∧ hfl (mX3 A g).1 = hfl A := by
  obtain ⟨a1, a2, a3, a4, a5, a6, a7, a8⟩ := emL_sh (wkg A g 2) (mX2 A g) (hn A)
  obtain ⟨b1, b2, b3, b4, b5, b6, b7, b8⟩ := emL_sh (wkg A g 1) (A, fun _ => 0) (hn A)
  refine ⟨a1.trans b1, a2.trans b2, a3.trans b3, a4.trans b4, a5.trans ?_, a6.trans b6, a7.trans b7, a8.trans b8⟩
  show hen (mX1 A g).1 ++ lsE A g (hn A) = _
  rw [show hen (mX1 A g).1 = hen A from b5]
theorem mX3_lk (p f : Nat) : hlk (mX3 A g).1 p f = if f = 0 ∧ p < hn A ∧ (wkg A g 1 p = true ∨ wkg A g 2 p = true) then none else hlk A p f := by
  have e2 : hlk (mX3 A g).1 p f = if f = 0 ∧ p < hn A ∧ wkg A g 2 p = true then none else hlk (mX2 A g).1 p f := emL_lk _ _ _ _ _
  have e1 : hlk (mX2 A g).1 p f = if f = 0 ∧ p < hn A ∧ wkg A g 1 p = true then none else hlk A p f := emL_lk (wkg A g 1) (A, fun _ => 0) (hn A) p f
  rw [e2, e1]
  by_cases h2 : f = 0 ∧ p < hn A ∧ wkg A g 2 p = true
  · rw [if_pos h2, if_pos ⟨h2.1, h2.2.1, Or.inr h2.2.2⟩]
  · rw [if_neg h2]
    by_cases h1 : f = 0 ∧ p < hn A ∧ wkg A g 1 p = true
    · rw [if_pos h1, if_pos ⟨h1.1, h1.2.1, Or.inl h1.2.2⟩]
    · rw [if_neg h1, if_neg (fun z => by
        rcases z.2.2 with y | y
        · exact h1 ⟨z.1, z.2.1, y⟩
        · exact h2 ⟨z.1, z.2.1, y⟩)]
theorem mX3_lk' {p f t : Nat} (h : hlk (mX3 A g).1 p f = some t) : hlk A p f = some t := by
  rw [mX3_lk] at h
  by_cases gg : f = 0 ∧ p < hn A ∧ (wkg A g 1 p = true ∨ wkg A g 2 p = true)
  · rw [if_pos gg] at h; cases h
  · rw [if_neg gg] at h; exact h
theorem mM_n : hn (mM0 A g P) = hn A := (mX3_sh).1
theorem mM_num : hnum (mM0 A g P) = hnum A := by
  funext i
  show (mX3 A g).1.2.1 0 i = A.2.1 0 i
  rw [mX3_sh.2.1]
theorem mM_sz : hsz (mM0 A g P) = hsz A := by
  funext i
  show (mX3 A g).1.2.1 1 i = A.2.1 1 i
  rw [mX3_sh.2.1]
theorem mM_sp (i : Nat) : hsp (mM0 A g P) i = if i ∈ pO P then pSp P i else hsp A i := by
  show (if i ∈ pO P then pSp P i else (mX3 A g).1.2.1 2 i) = _
  rw [mX3_sh.2.1]; rfl
theorem mM_pl (i : Nat) : hpl (mM0 A g P) i = if i ∈ pO P then pPl P i else hpl A i := by
  show (if i ∈ pO P then pPl P i else (mX3 A g).1.2.1 3 i) = _
  rw [mX3_sh.2.1]; rfl
theorem mM_kd : hkd (mM0 A g P) = hkd A := by
  funext i
  show (mX3 A g).1.2.2.1 0 i = A.2.2.1 0 i
  rw [mX3_sh.2.2.1]
theorem mM_lk : hlk (mM0 A g P) = hlk (mX3 A g).1 := rfl
theorem mM_2 (hP : PI R A P) (i : Nat) : hsp (mM0 A g P) i = 2 ↔ hsp A i = 2 ∨ (i ∈ pO P ∧ pSp P i = 2) := by
  rw [mM_sp]
  by_cases h : i ∈ pO P
  · rw [if_pos h]
    have := (hP.1.2.1 i h).2
    exact ⟨fun z => Or.inr ⟨h, z⟩, fun z => z.elim (fun y => absurd y this) (fun y => y.2)⟩
  · rw [if_neg h]
    exact ⟨Or.inl, fun z => z.elim id (fun y => absurd y.1 h)⟩
theorem mKf_eq (hM : MF R A F P g) (i : Nat) : mKf A g P i = true ↔ hsp A i = 2 ∨ i ∈ pO P := by
  unfold mKf kpF
  have := hM.g0 (i := i)
  by_cases h : g i = 0
  · have h2 := this.mp h
    rw [h]
    exact ⟨fun z => by simp at z, fun z => absurd z h2⟩
  · have h2 : hsp A i = 2 ∨ i ∈ pO P := Classical.byContradiction (fun z => h (this.mpr z))
    exact ⟨fun _ => h2, fun _ => by simp [h]⟩
theorem mM_ON (hI : Inv R b A) (hM : MF R A F P g) (hR : R 1 ≤ 32 ∧ R 2 ≤ 128) : ON (mM0 A g P) := by
  have w := hI.ok
  have hP := hM.pi
  obtain ⟨-, -, ⟨c1, c2, -⟩, d1, d2, -⟩ := hP
  refine ⟨by rw [mM_n]; exact w.n, fun i hi => ?_, fun i j hij hj => ?_⟩
  · rw [mM_n] at hi
    unfold OKo
    rw [mM_num, mM_sz, mM_sp, mM_pl, mM_n, mM_lk]
    obtain ⟨o1, o2, o3, o4, o5⟩ := w.2.1 i hi
    refine ⟨o1, o2, ?_, ?_, fun f j hf hj => o5 f j hf (mX3_lk' hj)⟩
    · by_cases h : i ∈ pO P
      · rw [if_pos h]
        have := hM.pi.1.2.2 i h
        omega
      · rw [if_neg h]; exact o3
    · by_cases h : i ∈ pO P
      · rw [if_pos h]
        rcases hM.pi.1.2.2 i h with e | e
        · have := d1 i h e; omega
        · have := (d2 i h e).2; omega
      · rw [if_neg h]; exact o4
  · rw [mM_n] at hj
    rw [mM_num]
    exact w.2.2.2.2.2 i j hij hj
/-- a strong field's target is kept -/
theorem mStrong (hI : Inv R b A) (hM : MF R A F P g) {i f t : Nat} (hi : i < hn A) (hk : hsp A i = 2 ∨ i ∈ pO P) (hf : f < hsz A i) (hs : fst0 A i ≤ f) (ht : hlk A i f = some t) : hsp A t = 2 ∨ t ∈ pO P := by
  rcases hk with hk | hk
  · by_cases h2 : hsp A t = 2
    · exact Or.inl h2
    · have hm : (i, f) ∈ hrm A := (hI.2.2.2.2.2.1.2 i f hi hf).mpr ⟨hk, t, ht, h2⟩
      exact (hM.2.2.2.2.2.2.2.1 (i, f) hm hs t ht).imp id hM.fo
  · exact hM.2.2.2.2.2.2.2.2.1 i hk f hf hs t ht
theorem mLink (hI : Inv R b A) (hM : MF R A F P g) {i f t : Nat} (hi : i < hn A) (hk : hsp A i = 2 ∨ i ∈ pO P) (hf : f < hsz A i) (ht : hlk (mX3 A g).1 i f = some t) : t < hn A ∧ (hsp A t = 2 ∨ t ∈ pO P) := by
  have w := hI.ok
  have ht' := mX3_lk' ht
  refine ⟨w.lk hi hf ht', ?_⟩
  by_cases hs : fst0 A i ≤ f
  · exact mStrong hI hM hi hk hf hs ht'
  · have hf0 : fst0 A i ≤ 1 := by unfold fst0; split <;> omega
    have f0 : f = 0 := by omega
    subst f0
    have hkd1 : hkd A i = 1 := by
      unfold fst0 at hs
      by_cases h : hkd A i = 1
      · exact h
      · rw [if_neg h] at hs; omega
    rw [mX3_lk] at ht
    by_cases gg : wkg A g 1 i = true ∨ wkg A g 2 i = true
    · rw [if_pos ⟨rfl, hi, gg⟩] at ht; cases ht
    · have g1 : ¬ wkg A g 1 i = true := fun z => gg (Or.inl z)
      have g2 : ¬ wkg A g 2 i = true := fun z => gg (Or.inr z)
      refine Classical.byContradiction (fun hno => ?_)
      have t0 : g t = 0 := hM.g0.mpr hno
      have hgi : g i = 1 ∨ g i = 2 := by
        have := hM.g2 i
        have n0 : ¬ g i = 0 := fun z => hM.g0.mp z hk
        omega
      rcases hgi with e | e
      · exact g1 (by unfold wkg; rw [ht']; simp [hkd1, e, t0])
      · exact g2 (by unfold wkg; rw [ht']; simp [hkd1, e, t0])
theorem mE1 (hM : MF R A F P g) : ∀ j ∈ hen A, g j = 1 := fun j hj => hM.g1.mpr (hM.2.2.2.2.2.2.1 j hj)
theorem mEnd (hI : Inv R b A) (hM : MF R A F P g) : ∀ j ∈ hen A ++ lsE A g (hn A), j < hn A ∧ (hsp A j = 2 ∨ j ∈ pO P) ∧ hkd A j = 2 := fun j hj => by
  have w := hI.ok
  rcases List.mem_append.mp hj with hj | hj
  · refine ⟨w.en hj, (hM.g1.mp (mE1 hM j hj)).imp id hM.fo, hI.2.2.2.2.1.2 j hj⟩
  · obtain ⟨h1, h2, -⟩ := lsE_mem.mp hj
    exact ⟨h1, hM.2.2.2.2.2.2.2.2.2 j h1 h2, h2⟩
theorem mRm_mem (hI : Inv R b A) (hM : MF R A F P g) {q : Nat × Nat} : q ∈ hrm (mM2 A g P) ↔ (q ∈ hrm A ∧ drF (mM0 A g P) g q = true) ∨ (q.1 ∈ pO P ∧ q.2 < hsz A q.1 ∧ oty (mM0 A g P) q.1 q.2 = true) := by
  show q ∈ hrm (mM1 A g P) ++ nwR (mM1 A g P) (pO P) ↔ _
  rw [List.mem_append, nwR_mem]
  have e1 : q ∈ hrm (mM1 A g P) ↔ q ∈ hrm A ∧ drF (mM0 A g P) g q = true := by
    show q ∈ (hrm (mX3 A g).1).filter (drF (mM0 A g P) g) ↔ _
    rw [List.mem_filter, mX3_sh.2.2.2.2.2.1]
  rw [e1]
  have e2 : hsz (mM1 A g P) q.1 = hsz A q.1 := by show hsz (mM0 A g P) q.1 = _; rw [mM_sz]
  rw [e2]
  exact Iff.rfl
theorem mRm_nodup (hI : Inv R b A) (hM : MF R A F P g) : (hrm (mM2 A g P)).Nodup := by
  have w := hI.ok
  have hP := hM.pi
  obtain ⟨hd, hiff⟩ := hI.2.2.2.2.2.1
  show (hrm (mM1 A g P) ++ nwR (mM1 A g P) (pO P)).Nodup
  have e1 : hrm (mM1 A g P) = (hrm A).filter (drF (mM0 A g P) g) := by
    show (hrm (mX3 A g).1).filter _ = _
    rw [mX3_sh.2.2.2.2.2.1]
  rw [e1]
  refine List.nodup_append.mpr ⟨hd.filter _, nwR_nodup hP.1.1, fun x hx y hy e => ?_⟩
  subst e
  have h1 := (List.mem_filter.mp hx).1
  have h2 := (nwR_mem.mp hy).1
  have h3 := w.rm h1
  exact (hP.1.2.1 _ h2).2 ((hiff x.1 x.2 h3.1 h3.2).mp h1).1
theorem mRm_iff (hI : Inv R b A) (hM : MF R A F P g) {i f : Nat} (hi : i < hn A) (hk : hsp A i = 2 ∨ i ∈ pO P) (hf : f < hsz A i) : (i, f) ∈ hrm (mM2 A g P) ↔ oty (mM0 A g P) i f = true := by
  have w := hI.ok
  have hP := hM.pi
  rw [mRm_mem hI hM]
  constructor
  · rintro (⟨-, h⟩ | ⟨-, -, h⟩)
    · unfold drF at h; exact (Bool.and_eq_true_iff.mp h).1
    · exact h
  · intro h
    by_cases hO : i ∈ pO P
    · exact Or.inr ⟨hO, hf, h⟩
    · have h2 : hsp A i = 2 := hk.resolve_right hO
      refine Or.inl ⟨?_, ?_⟩
      · refine (hI.2.2.2.2.2.1.2 i f hi hf).mpr ⟨h2, ?_⟩
        unfold oty ylk at h
        have hy := (Bool.and_eq_true_iff.mp h).2
        rw [mM_lk] at hy
        rcases opt_cases (hlk (mX3 A g).1 i f) with hl | ⟨t, hl⟩
        · rw [hl] at hy; cases hy
        · rw [hl] at hy
          have hy : ¬ hsp (mM0 A g P) t = 2 := by simpa using hy
          exact ⟨t, mX3_lk' hl, fun z => hy ((mM_2 hP t).mpr (Or.inl z))⟩
      · unfold drF
        have g1 : g i = 1 := hM.g1.mpr (Or.inl h2)
        rw [h]
        show (true && !decide (g i = 0)) = true
        rw [g1]; rfl
theorem oty_iff {M : Hp} {i f : Nat} : oty M i f = true ↔ hsp M i = 2 ∧ ∃ t, hlk M i f = some t ∧ ¬ hsp M t = 2 := by
  unfold oty ylk
  rcases opt_cases (hlk M i f) with hl | ⟨t, hl⟩
  · rw [hl]; simp
  · rw [hl]; simp
theorem mClo (hI : Inv R b A) (hM : MF R A F P g) : Clo (mM2 A g P) (mKf A g P) := by
  have w := hI.ok
  have en : hn (mM2 A g P) = hn A := mM_n (P := P)
  have ez : hsz (mM2 A g P) = hsz A := mM_sz (P := P)
  refine ⟨fun i hi hk f t hf ht => ?_, fun r t hr ht => ?_, fun j hj => ?_, fun q hq => ?_⟩
  · rw [en] at hi ⊢
    rw [ez] at hf
    obtain ⟨h1, h2⟩ := mLink hI hM hi ((mKf_eq hM i).mp hk) hf ht
    exact ⟨h1, (mKf_eq hM t).mpr h2⟩
  · rw [en]
    have ht : hrt (mX3 A g).1 r = some t := ht
    rw [mX3_sh.2.2.2.1] at ht
    exact ⟨w.rt hr ht, (mKf_eq hM t).mpr ((hM.2.2.2.2.2.1 r t hr ht).imp id hM.fo)⟩
  · rw [en]
    have hj : j ∈ hen (mX3 A g).1 := hj
    rw [mX3_sh.2.2.2.2.1] at hj
    obtain ⟨h1, h2, -⟩ := mEnd hI hM j hj
    exact ⟨h1, (mKf_eq hM j).mpr h2⟩
  · rw [en, ez]
    rcases (mRm_mem hI hM).mp hq with ⟨h1, h2⟩ | ⟨h1, h2, -⟩
    · have h3 := w.rm h1
      refine ⟨⟨h3.1, (mKf_eq hM q.1).mpr ?_⟩, h3.2⟩
      unfold drF at h2
      have h4 := (Bool.and_eq_true_iff.mp h2).2
      have h4 : ¬ g q.1 = 0 := by simpa using h4
      exact Classical.byContradiction (fun z => h4 (hM.g0.mpr z))
    · exact ⟨⟨(hM.pi.1.2.1 _ h1).1, (mKf_eq hM q.1).mpr (Or.inr h1)⟩, h2⟩
theorem mUsed (hI : Inv R b A) (hM : MF R A F P g) : usedA (cl (mM2 A g P) (mKf A g P)) 0 = 0 ∧ usedA (cl (mM2 A g P) (mKf A g P)) 1 = pF1 P ∧ usedA (cl (mM2 A g P) (mKf A g P)) 2 = pF2 P := by
  have w := hI.ok
  have hP := hM.pi
  have en : hn (mM2 A g P) = hn A := mM_n (P := P)
  have ez : hsz (mM2 A g P) = hsz A := mM_sz (P := P)
  have es : ∀ i, hsp (mM2 A g P) i = if i ∈ pO P then pSp P i else hsp A i := mM_sp
  have key : ∀ i s, (mKf A g P i = true ∧ hsp (mM2 A g P) i = s) ↔ (hsp A i = 2 ∧ s = 2) ∨ (i ∈ pO P ∧ pSp P i = s) := fun i s => by
    rw [mKf_eq hM, es]
    by_cases h : i ∈ pO P
    · have := (hP.1.2.1 i h).2
      rw [if_pos h]
      exact ⟨fun z => Or.inr ⟨h, z.2⟩, fun z => z.elim (fun y => absurd y.1 this) (fun y => ⟨Or.inr h, y.2⟩)⟩
    · rw [if_neg h]
      exact ⟨fun z => Or.inl ⟨z.1.resolve_right h, by have := z.1.resolve_right h; omega⟩, fun z => z.elim (fun y => ⟨Or.inl y.1, by rw [y.1, y.2]⟩) (fun y => absurd y.1 h)⟩
  rw [used_cl, used_cl, used_cl, en, ez]
  refine ⟨?_, ?_, ?_⟩
  · have : ∀ n, sumN (fun i => if mKf A g P i = true ∧ hsp (mM2 A g P) i = 0 then 3 + hsz A i else 0) n = 0 := fun n => by
      induction n with
      | zero => rfl
      | succ n ih =>
        unfold sumN
        rw [ih, if_neg (fun z => by
          rcases (key n 0).mp z with y | y
          · exact absurd y.2 (by decide)
          · have := hP.1.2.2 n y.1
            omega)]
    exact this _
  · rw [hP.2.1.1]
    refine sumN_congr (fun i _ => ?_)
    have : (mKf A g P i = true ∧ hsp (mM2 A g P) i = 1) = (i ∈ pO P ∧ pSp P i = 1) := propext ((key i 1).trans ⟨fun z => z.elim (fun y => absurd y.2 (by decide)) id, Or.inr⟩)
    simp only [this]
  · rw [hP.2.1.2]
    refine sumN_congr (fun i _ => ?_)
    have : (mKf A g P i = true ∧ hsp (mM2 A g P) i = 2) = (hsp A i = 2 ∨ (i ∈ pO P ∧ pSp P i = 2)) := propext ((key i 2).trans ⟨fun z => z.imp (fun y => y.1) id, fun z => z.imp (fun y => ⟨y, rfl⟩) id⟩)
    simp only [this]
theorem mCap (hI : Inv R b A) (hM : MF R A F P g) (hR : R 2 ≤ 128) : (hrm (mM2 A g P)).length ≤ 73 := by
  have w := hI.ok
  have hP := hM.pi
  have h1 := pairs_le (g := fun i => if hsp (mM0 A g P) i = 2 then hsz A i else 0) (n := hn A) (mRm_nodup hI hM) (fun q hq => by
    have hc := (mClo hI hM).2.2.2 q hq
    have en : hn (mM2 A g P) = hn A := mM_n (P := P)
    have ez : hsz (mM2 A g P) = hsz A := mM_sz (P := P)
    rw [en, ez] at hc
    have ho := (mRm_iff hI hM hc.1.1 ((mKf_eq hM q.1).mp hc.1.2) hc.2).mp hq
    exact ⟨hc.1.1, by rw [if_pos (oty_iff.mp ho).1]; exact hc.2⟩)
  have h2 := sumN_mul (f := fun i => if hsp (mM0 A g P) i = 2 then hsz A i else 0) (g := fun i => if hsp A i = 2 ∨ (i ∈ pO P ∧ pSp P i = 2) then 3 + hsz A i else 0) (a := 7) (b := 4) (n := hn A) (fun i hi => by
    have := w.sz hi
    have e := mM_2 (g := g) hP i
    by_cases h : hsp (mM0 A g P) i = 2
    · rw [if_pos h, if_pos (e.mp h)]; omega
    · rw [if_neg h, if_neg (fun z => h (e.mpr z))]; omega)
  have h3 := hP.2.2.1.2.1
  rw [hP.2.1.2] at h3
  omega
theorem mInv (hI : Inv R b A) (hM : MF R A F P g) (hR : R 1 ≤ 32 ∧ R 2 ≤ 128) : Inv R b (minG A g P) := by
  have w := hI.ok
  have hP := hM.pi
  obtain ⟨u0, u1, u2⟩ := mUsed hI hM
  have en : hn (mM2 A g P) = hn A := mM_n (P := P)
  have ez : hsz (mM2 A g P) = hsz A := mM_sz (P := P)
  have ek : hkd (mM2 A g P) = hkd A := mM_kd (P := P)
  have e2 : ∀ i, hsp (mM2 A g P) i = 2 ↔ hsp A i = 2 ∨ (i ∈ pO P ∧ pSp P i = 2) := mM_2 hP
  have epl : ∀ i, hpl (mM2 A g P) i = if i ∈ pO P then pPl P i else hpl A i := mM_pl
  have hc : Inv R b (cl (mM2 A g P) (mKf A g P)) := by
    refine cl_Inv (mM_ON hI hM hR) (mClo hI hM) (fun s hs => ?_) ?_ (fun i hi hk => ?_) (fun i j hi hj hki hkj hne h2 h2' => ?_) ⟨?_, fun j hj => ?_⟩ ⟨mRm_nodup hI hM, fun i f hi hk hf => ?_⟩ ?_
    · rcases (by omega : s = 0 ∨ s = 1 ∨ s = 2) with rfl | rfl | rfl
      · rw [u0]; omega
      · rw [u1]; exact hP.2.2.1.1
      · rw [u2]; exact hP.2.2.1.2.1
    · obtain ⟨m, m1, m2, m3⟩ := hI.2.2.1
      refine ⟨m, m1, ?_, fun i hi => ?_⟩
      · show htl (mX3 A g).1 0 = _
        rw [mX3_sh.2.2.2.2.2.2.1]; exact m2
      · rw [en] at hi
        show hnum (mM0 A g P) i ≤ m
        rw [mM_num]; exact m3 i hi
    · rw [en] at hi
      obtain ⟨a1, a2, a3, -⟩ := hI.2.2.2.1 i hi
      rw [ek, ez, u2]
      refine ⟨a1, a2, fun h2 => ?_⟩
      rw [epl]
      by_cases hO : i ∈ pO P
      · rw [if_pos hO]
        have := (e2 i).mp h2
        have hs : pSp P i = 2 := this.elim (fun y => absurd y (hP.1.2.1 i hO).2) (fun y => y.2)
        exact (hP.2.2.2.2.1 i hO hs).2
      · rw [if_neg hO]
        have h2 := ((e2 i).mp h2).elim id (fun y => absurd y.1 hO)
        have := a3 h2
        have := hP.2.2.1.2.2
        omega
    · rw [en] at hi hj
      rw [ez, epl, epl]
      have n1 := (e2 i).mp h2
      have n2 := (e2 j).mp h2'
      by_cases hO : i ∈ pO P
      · have hs : pSp P i = 2 := n1.elim (fun y => absurd y (hP.1.2.1 i hO).2) (fun y => y.2)
        rw [if_pos hO]
        by_cases hO' : j ∈ pO P
        · have hs' : pSp P j = 2 := n2.elim (fun y => absurd y (hP.1.2.1 j hO').2) (fun y => y.2)
          rw [if_pos hO']
          exact hP.2.2.2.2.2 i hO j hO' hne hs hs'
        · have hs' : hsp A j = 2 := n2.elim id (fun y => absurd y.1 hO')
          rw [if_neg hO']
          have := (hI.2.2.2.1 j hj).2.2.1 hs'
          have := (hP.2.2.2.2.1 i hO hs).1
          omega
      · have hs : hsp A i = 2 := n1.elim id (fun y => absurd y.1 hO)
        rw [if_neg hO]
        by_cases hO' : j ∈ pO P
        · have hs' : pSp P j = 2 := n2.elim (fun y => absurd y (hP.1.2.1 j hO').2) (fun y => y.2)
          rw [if_pos hO']
          have := (hI.2.2.2.1 i hi).2.2.1 hs
          have := (hP.2.2.2.2.1 j hO' hs').1
          omega
        · have hs' : hsp A j = 2 := n2.elim id (fun y => absurd y.1 hO')
          rw [if_neg hO']
          exact (hI.2.2.2.1 i hi).2.2.2 j hj hne hs hs'
    · show (hen (mX3 A g).1).Nodup
      rw [mX3_sh.2.2.2.2.1]
      refine app_nodup hI.2.2.2.2.1.1 lsE_nodup (fun j hj hm => (lsE_mem.mp hm).2.2 (mE1 hM j hj))
    · have hj : j ∈ hen (mX3 A g).1 := hj
      rw [mX3_sh.2.2.2.2.1] at hj
      rw [ek]
      exact (mEnd hI hM j hj).2.2
    · rw [en] at hi
      rw [ez] at hf
      rw [mRm_iff hI hM hi ((mKf_eq hM i).mp hk) hf]
      exact oty_iff
    · have w1 : ∀ i, i < hn A → hnum A i < 2147483648 := fun i hi => by have := w.num2 hi; omega
      obtain ⟨l1, l2⟩ := emL_lo (wkg A g 1) (A, fun _ => 0) (hn A) hI.2.2.2.2.2.2.1 hI.2.2.2.2.2.2.2 w1
      have b2 := (emL_sh (wkg A g 1) (A, fun _ => 0) (hn A)).2.1
      refine emL_lo (wkg A g 2) (mX2 A g) (hn A) l1 l2 (fun i hi => ?_)
      show (emL (wkg A g 1) (A, fun _ => 0) (hn A)).1.2.1 0 i < _
      rw [b2]; exact w1 i hi
  refine hc.tl ?_
  unfold tlA
  rw [if_neg (by omega), upx_ne (by decide)]
  show htl A 0 = htl (mX3 A g).1 0
  rw [mX3_sh.2.2.2.2.2.2.1]
end mFacts
