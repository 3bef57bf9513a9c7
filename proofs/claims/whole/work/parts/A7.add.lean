/-! an object is added -/
def addO (A : Hp) (kd : Int32) (f : Nat) (d : Int32) (m : Nat) : Hp := (hn A + 1, fun c i => if i = hn A then (if c = 0 then m + 1 else if c = 1 then f else if c = 2 then 0 else usedA A 0) else A.2.1 c i, fun c i => if i = hn A then (if c = 0 then kd else if c = 1 then d else 0) else A.2.2.1 c i, fun i g => if i = hn A then none else hlk A i g, hrt A, hen A, hlo A, hrm A, upx (htl A) 0 (nI (m + 1)), hfl A)
section add
variable {A : Hp} {kd d : Int32} {f m : Nat}
theorem ad_n : hn (addO A kd f d m) = hn A + 1 := rfl
theorem ad_num {i : Nat} (h : ¬ i = hn A) : hnum (addO A kd f d m) i = hnum A i := if_neg h
theorem ad_sz {i : Nat} (h : ¬ i = hn A) : hsz (addO A kd f d m) i = hsz A i := if_neg h
theorem ad_sp {i : Nat} (h : ¬ i = hn A) : hsp (addO A kd f d m) i = hsp A i := if_neg h
theorem ad_pl {i : Nat} (h : ¬ i = hn A) : hpl (addO A kd f d m) i = hpl A i := if_neg h
theorem ad_kd {i : Nat} (h : ¬ i = hn A) : hkd (addO A kd f d m) i = hkd A i := if_neg h
theorem ad_dt {i : Nat} (h : ¬ i = hn A) : hdt (addO A kd f d m) i = hdt A i := if_neg h
theorem ad_ag {i : Nat} (h : ¬ i = hn A) : hag (addO A kd f d m) i = hag A i := if_neg h
theorem ad_lk {i g : Nat} (h : ¬ i = hn A) : hlk (addO A kd f d m) i g = hlk A i g := if_neg h
theorem ad_num0 : hnum (addO A kd f d m) (hn A) = m + 1 := if_pos rfl
theorem ad_sz0 : hsz (addO A kd f d m) (hn A) = f := if_pos rfl
theorem ad_sp0 : hsp (addO A kd f d m) (hn A) = 0 := if_pos rfl
theorem ad_pl0 : hpl (addO A kd f d m) (hn A) = usedA A 0 := if_pos rfl
theorem ad_kd0 : hkd (addO A kd f d m) (hn A) = kd := if_pos rfl
theorem ad_dt0 : hdt (addO A kd f d m) (hn A) = d := if_pos rfl
theorem ad_ag0 : hag (addO A kd f d m) (hn A) = 0 := if_pos rfl
theorem ad_lk0 {g : Nat} : hlk (addO A kd f d m) (hn A) g = none := if_pos rfl
theorem ad_used {s : Nat} : usedA (addO A kd f d m) s = usedA A s + (if s = 0 then 3 + f else 0) := by
  show sumN _ (hn A + 1) = _
  unfold sumN
  rw [ad_sp0, ad_sz0]
  congr 1
  · exact sumN_congr (fun i hi => by rw [ad_sp (by omega), ad_sz (by omega)])
  · by_cases e : s = 0
    · rw [if_pos e, if_pos e.symm]
    · rw [if_neg e, if_neg (fun h => e h.symm)]
theorem sumN_c (c : Nat) : ∀ n, sumN (fun _ => c) n = n * c
  | 0 => by unfold sumN; omega
  | n + 1 => by unfold sumN; rw [sumN_c c n, Nat.succ_mul]
theorem three_n (w : OK A) : hn A * 3 ≤ usedA A 0 + usedA A 1 + usedA A 2 := by
  unfold usedA
  rw [← sumN_add, ← sumN_add, ← sumN_c 3 (hn A)]
  refine sumN_le (fun i hi => ?_)
  have := w.sp hi
  rcases (by omega : hsp A i = 0 ∨ hsp A i = 1 ∨ hsp A i = 2) with e | e | e
  · rw [e, if_pos rfl]; omega
  · rw [e, if_neg (by decide), if_pos rfl]; omega
  · rw [e, if_neg (by decide), if_neg (by decide), if_pos rfl]; omega
theorem ad_encN {o : Option Nat} (h : ∀ j, o = some j → j < hn A) : encN (addO A kd f d m) o = encN A o := by
  cases o with
  | none => rfl
  | some j => show nI (hnum _ j) = nI (hnum A j); rw [ad_num (by have := h j rfl; omega)]
/-- what may be added -/
def AdR (R : Nat → Nat) (b : Nat) (A : Hp) (kd : Int32) (f m : Nat) : Prop := f ≤ 4 ∧ (kd = 0 ∨ kd = 1 ∨ kd = 2) ∧ (kd = 1 → 1 ≤ f) ∧ usedA A 0 + (3 + f) ≤ R 0 ∧ (R 0 ≤ 64 ∧ R 1 ≤ 32 ∧ R 2 ≤ 128) ∧ htl A 0 = nI m ∧ m ≤ b ∧ (∀ i, i < hn A → hnum A i ≤ m) ∧ b + 1 < 1000000
theorem ad_OK {R : Nat → Nat} {b : Nat} (hI : Inv R b A) (h : AdR R b A kd f m) : OK (addO A kd f d m) := by
  obtain ⟨hf, -, -, hr, ⟨r0, r1, r2⟩, -, hmb, hnm, hb⟩ := h
  have w := hI.ok
  have h3 := three_n w
  have u1 := hI.us (s := 1) (by omega)
  have u2 := hI.us (s := 2) (by omega)
  refine ⟨?_, fun i hi => ?_, fun r j hr h => ?_, fun j hj => ?_, fun q hq => ?_, fun i j hij hj => ?_⟩
  · rw [ad_n]; omega
  · rw [ad_n] at hi
    by_cases e : i = hn A
    · subst e
      refine ⟨by rw [ad_num0]; omega, by rw [ad_sz0]; exact hf, by rw [ad_sp0]; omega, by rw [ad_pl0]; omega, fun g j _ h => ?_⟩
      rw [ad_lk0] at h; cases h
    · obtain ⟨a, b', c, c', c''⟩ := w.2.1 i (by omega)
      refine ⟨by rw [ad_num e]; exact a, by rw [ad_sz e]; exact b', by rw [ad_sp e]; exact c, by rw [ad_pl e]; exact c', fun g j hg h => ?_⟩
      rw [ad_sz e] at hg
      rw [ad_lk e] at h
      have := c'' g j hg h
      rw [ad_n]; omega
  · have := w.rt hr h; rw [ad_n]; omega
  · have := w.en hj; rw [ad_n]; omega
  · have := w.rm hq
    refine ⟨by rw [ad_n]; omega, ?_⟩
    rw [ad_sz (by omega)]; exact this.2
  · rw [ad_n] at hj
    rw [ad_num (by omega)]
    by_cases e : j = hn A
    · subst e; rw [ad_num0]; have := hnm i hij; omega
    · rw [ad_num e]; exact w.2.2.2.2.2 i j hij (by omega)
theorem ad_Inv {R : Nat → Nat} {b : Nat} (hI : Inv R b A) (h : AdR R b A kd f m) : Inv R (b + 1) (addO A kd f d m) := by
  have w' := ad_OK (d := d) hI h
  obtain ⟨hf, hk, hkf, hr, ⟨r0, r1, r2⟩, ht, hmb, hnm, hb⟩ := h
  have w := hI.ok
  obtain ⟨-, hu, -, ho, ⟨e1, e2⟩, ⟨rm1, rm2⟩, l1, l2⟩ := hI
  refine ⟨w', fun s hs => ?_, ⟨m + 1, by omega, show upx (htl A) 0 (nI (m + 1)) 0 = nI (m + 1) from upx_same, fun i hi => ?_⟩, fun i hi => ?_, ⟨e1, fun j hj => ?_⟩, ⟨rm1, fun i g hi hg => ?_⟩, l1, l2⟩
  · rw [ad_used]
    by_cases e : s = 0
    · subst e; rw [if_pos rfl]; exact hr
    · rw [if_neg e]; exact hu s hs
  · rw [ad_n] at hi
    by_cases e : i = hn A
    · subst e; rw [ad_num0]; omega
    · rw [ad_num e]; have := hnm i (by omega); omega
  · rw [ad_n] at hi
    by_cases e : i = hn A
    · subst e
      refine ⟨by rw [ad_kd0]; exact hk, by rw [ad_kd0, ad_sz0]; exact hkf, fun h2 => ?_, fun j hj hne h2 => ?_⟩
      · rw [ad_sp0] at h2; cases h2
      · rw [ad_sp0] at h2; cases h2
    · obtain ⟨a1, a2, a3, a4⟩ := ho i (by omega)
      refine ⟨by rw [ad_kd e]; exact a1, by rw [ad_kd e, ad_sz e]; exact a2, fun h2 => ?_, fun j hj hne h2 h2' => ?_⟩
      · rw [ad_sp e] at h2
        rw [ad_pl e, ad_sz e, ad_used, if_neg (by decide)]
        exact a3 h2
      · rw [ad_sp e] at h2
        rw [ad_n] at hj
        by_cases e' : j = hn A
        · subst e'; rw [ad_sp0] at h2'; cases h2'
        · rw [ad_sp e'] at h2'
          rw [ad_pl e, ad_sz e, ad_pl e', ad_sz e']
          exact a4 j (by omega) hne h2 h2'
  · have := w.en hj
    rw [ad_kd (by omega)]
    exact e2 j hj
  · rw [ad_n] at hi
    by_cases e : i = hn A
    · subst e
      refine ⟨fun hm => ?_, fun hm => ?_⟩
      · have := w.rm (q := (hn A, g)) hm
        have := this.1
        omega
      · have := hm.1; rw [ad_sp0] at this; cases this
    · have hi' : i < hn A := by omega
      rw [ad_sz e] at hg
      rw [ad_sp e, ad_lk e]
      refine Iff.trans (rm2 i g hi' hg) ⟨fun h => ⟨h.1, ?_⟩, fun h => ⟨h.1, ?_⟩⟩
      · obtain ⟨-, j, hj, hs⟩ := h
        have := w.lk hi' hg hj
        exact ⟨j, hj, by rw [ad_sp (by omega)]; exact hs⟩
      · obtain ⟨-, j, hj, hs⟩ := h
        have := w.lk hi' hg hj
        rw [ad_sp (by omega)] at hs
        exact ⟨j, hj, hs⟩
end add
/-! the class adds it -/
theorem c_fill {σ : rS} {c k n a b : Nat} {x : Int32} (hab : a ≤ b) (hbn : b ≤ n) (hn : n < 60000) : hit (fJ7_fill_fda19 c k n (nI a) (nI b) x σ) (fun _ s => (∀ i, a ≤ i → i < b → s c k i = x) ∧ (∀ i, (i < a ∨ b ≤ i) → s c k i = σ c k i) ∧ ∀ c' k', ¬ (c' = c ∧ k' = k) → s c' k' = σ c' k') := by
  unfold fJ7_fill_fda19 fJ7_rangeCheck_23922
  simp (disch := omega) only [pn_lt, pn_neg, if_false, ite_false, reduceIte]
  rw [if_neg (by omega), if_neg (by omega), bd_some]
  refine bd_hit (hit_mono (lp_go (I := fun m y s => ∃ i, i ≤ b ∧ a ≤ i ∧ y = nI i ∧ m = b - i ∧ (∀ q, a ≤ q → q < i → s c k q = x) ∧ (∀ q, (q < a ∨ i ≤ q) → s c k q = σ c k q) ∧ ∀ c' k', ¬ (c' = c ∧ k' = k) → s c' k' = σ c' k') (P := fun _ s => (∀ i, a ≤ i → i < b → s c k i = x) ∧ (∀ i, (i < a ∨ b ≤ i) → s c k i = σ c k i) ∧ ∀ c' k', ¬ (c' = c ∧ k' = k) → s c' k' = σ c' k') ?_ fu (b - a) (nI a) σ (fu_lt (by omega)) ⟨a, hab, by omega, rfl, rfl, fun q h1 h2 => absurd h2 (by omega), fun q _ => rfl, fun c' k' _ => rfl⟩) (fun _ s h => hit_some h))
  rintro m y s ⟨i, hi, hai, rfl, rfl, h1, h2, h3⟩
  unfold fJ7_fill_fda19_L10
  simp (disch := omega) only [pn_lt]
  by_cases hlt : i < b
  · rw [if_pos hlt]
    simp (disch := omega) only [pn_bnd, pn_ix, pn_add1, st_eq]
    refine hit_some ⟨b - (i + 1), by omega, i + 1, by omega, by omega, rfl, rfl, fun q g1 g2 => ?_, fun q hq => ?_, fun c' k' hck => ?_⟩
    · by_cases e : q = i
      · subst e; rw [wr_same]
      · rw [wr_i e]; exact h1 q g1 (by omega)
    · rw [wr_i (by omega)]; exact h2 q (by omega)
    · exact (wrR_ne _ _ _ _ hck).trans (h3 c' k' hck)
  · rw [if_neg hlt]
    have e : i = b := by omega
    subst e
    exact hit_some ⟨h1, h2, h3⟩
theorem c_add {σ : rS} {k : Nat} {R : Nat → Nat} {b : Nat} {A : Hp} {L : Lg} {kd d : Int32} {f m : Nat} (hC : CS σ k (A, L)) (hI : Inv R b A) (h : AdR R b A kd f m) : hit (fX7_addObject k kd (nI f) d σ) (fun r s => r = nI (hn A) ∧ CS s k (addO A kd f d m, L)) := by
  have w' := ad_OK (d := d) hI h
  obtain ⟨hf, hk, hkf, hr, ⟨r0, r1, r2⟩, ht, hmb, hnm, hb⟩ := h
  have w := hI.ok
  have hR0 : CR σ k A := hC.1
  have hw : hn A + 1 ≤ 78 := w'.n
  have h0 := hR0.n
  have h54 : σ 54 k 0 = nI (usedA A 0) := hR0.us (by omega)
  have h55 : σ 55 k 0 = nI m := (hR0.tl (t := 0) (by omega)).trans ht
  have i0 : ix 0 = 0 := rfl
  have ixn : ix (nI (hn A)) = hn A := ix_nI (by omega)
  unfold fX7_addObject fX7_cells
  simp (disch := first | omega | decide) only [h0, h54, h55, i0, ixn, pn_lt80, pn_lt, pn_neg, pn_bnd, pn_add1, pn_add3, pn_mul4, nI_add, wr_same, wr_c, wr_i, rd_eq, st_eq, bd_some, if_true, if_false, ite_true, ite_false, reduceIte]
  rw [if_pos (by omega), if_pos (by omega), bd_some]
  have c_t : ∀ t, t < 8 → ¬ t = 0 → upx (htl A) 0 (nI (m + 1)) t = htl A t := fun t _ h => upx_ne h
  generalize hT : wr (wr (wr (wr (wr (wr (wr (wr (wr (wr σ 7 k 0 (nI (hn A + 1))) 55 k 0 (nI (m + 1))) 45 k (hn A) (nI (m + 1))) 46 k (hn A) kd) 47 k (hn A) (nI f)) 48 k (hn A) d) 49 k (hn A) 0) 50 k (hn A) 0) 51 k (hn A) (nI (usedA A 0))) 54 k 0 (nI (usedA A 0) + nI (3 + f)) = T
  have e7 : T 7 k 0 = nI (hn A + 1) := by rw [← hT]; simp (disch := first | omega | decide) only [wr_c, wr_same]
  have e71 : T 7 k 1 = σ 7 k 1 := by rw [← hT]; simp (disch := first | omega | decide) only [wr_c, wr_i]
  have e54 : T 54 k 0 = nI (usedA A 0 + (3 + f)) := by rw [← hT]; simp (disch := first | omega | decide) only [wr_c, wr_same, nI_add]
  have e54' : ∀ i, ¬ i = 0 → T 54 k i = σ 54 k i := fun i hi => by rw [← hT]; simp (disch := first | omega | decide) only [wr_c, wr_i]
  have e55 : T 55 k 0 = nI (m + 1) := by rw [← hT]; simp (disch := first | omega | decide) only [wr_c, wr_same]
  have e55' : ∀ i, ¬ i = 0 → T 55 k i = σ 55 k i := fun i hi => by rw [← hT]; simp (disch := first | omega | decide) only [wr_c, wr_i]
  have eN : T 45 k (hn A) = nI (m + 1) ∧ T 46 k (hn A) = kd ∧ T 47 k (hn A) = nI f ∧ T 48 k (hn A) = d ∧ T 49 k (hn A) = 0 ∧ T 50 k (hn A) = 0 ∧ T 51 k (hn A) = nI (usedA A 0) := by rw [← hT]; simp (disch := first | omega | decide) only [wr_c, wr_same, and_self]
  have eO : ∀ i, ¬ i = hn A → T 45 k i = σ 45 k i ∧ T 46 k i = σ 46 k i ∧ T 47 k i = σ 47 k i ∧ T 48 k i = σ 48 k i ∧ T 49 k i = σ 49 k i ∧ T 50 k i = σ 50 k i ∧ T 51 k i = σ 51 k i := fun i hi => by rw [← hT]; simp (disch := first | omega | decide) only [wr_c, wr_i, and_self]
  have eE : ∀ c, (c = 52 ∨ c = 53 ∨ c = 4 ∨ c = 28) → T c = σ c := fun c hc => by
    rw [← hT]; rcases hc with rfl | rfl | rfl | rfl <;> simp (disch := decide) only [wr_c]
  clear hT
  refine bd_hit (hit_mono (c_fill (by omega) (by omega) (by omega)) ?_)
  rintro r s ⟨g1, g2, g3⟩
  have g3' : ∀ c, ¬ c = 52 → s c k = T c k := fun c hc => g3 c k (fun h => hc h.1)
  have g4 : ∀ q, s 4 q = σ 4 q ∧ s 28 q = σ 28 q := fun q => ⟨by rw [g3 4 q (fun h => absurd h.1 (by decide)), eE 4 (by omega)], by rw [g3 28 q (fun h => absurd h.1 (by decide)), eE 28 (by omega)]⟩
  have gl : ∀ {q : Nat} {xs : List Int32}, Ln σ q xs → Ln s q xs := fun h => h.frame (g4 _).1 (g4 _).2
  refine hit_some ⟨rfl, ⟨by rw [g3' 7 (by decide)]; exact e7, fun i hi => ?_, fun r hr => ?_, fun q hq => ?_, fun t ht => ?_, by rw [g3' 7 (by decide), e71]; exact hR0.fl, gl hR0.en, gl hR0.lo, gl hR0.rm⟩, gl hC.2.1, gl hC.2.2.1, gl hC.2.2.2⟩
  · have hi : i < hn A + 1 := hi
    unfold CRo
    rw [g3' 45 (by decide), g3' 46 (by decide), g3' 47 (by decide), g3' 48 (by decide), g3' 49 (by decide), g3' 50 (by decide), g3' 51 (by decide)]
    by_cases e : i = hn A
    · subst e
      rw [ad_num0, ad_kd0, ad_sz0, ad_dt0, ad_ag0, ad_sp0, ad_pl0]
      refine ⟨eN, fun g hg => ?_⟩
      rw [ad_lk0, g1 _ (by omega) (by omega)]
      rfl
    · rw [ad_num e, ad_kd e, ad_sz e, ad_dt e, ad_ag e, ad_sp e, ad_pl e]
      obtain ⟨o1, o2, o3, o4, o5, o6, o7⟩ := eO i e
      rw [o1, o2, o3, o4, o5, o6, o7]
      refine ⟨(hR0.2.1 i (by omega)).1, fun g hg => ?_⟩
      have hz := w.sz (i := i) (by omega)
      rw [ad_lk e, g2 _ (Or.inl (by omega)), eE 52 (by omega)]
      exact hR0.lk (by omega) hg
  · rw [g3' 53 (by decide), eE 53 (by omega)]; exact hR0.rt hr
  · rw [g3' 54 (by decide), ad_used]
    by_cases e : q = 0
    · subst e; rw [if_pos rfl]; exact e54
    · rw [if_neg e, e54' q e]; exact hR0.us hq
  · rw [g3' 55 (by decide)]
    show _ = upx (htl A) 0 (nI (m + 1)) t
    by_cases e : t = 0
    · subst e; rw [upx_same]; exact e55
    · rw [c_t t ht e, e55' t e]; exact hR0.tl ht
