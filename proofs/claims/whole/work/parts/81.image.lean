/-! image, back, undo -/
theorem nodup_map {α β : Type} {f : α → β} : ∀ {L : List α}, L.Nodup → (∀ a ∈ L, ∀ b ∈ L, f a = f b → a = b) → (L.map f).Nodup := by
  intro L
  induction L with
  | nil => intro _ _; exact List.nodup_nil
  | cons x L ih =>
    intro hd h
    rw [List.map_cons, List.nodup_cons]
    rw [List.nodup_cons] at hd
    refine ⟨fun hm => ?_, ih hd.2 (fun a ha b hb => h a (List.mem_cons_of_mem _ ha) b (List.mem_cons_of_mem _ hb))⟩
    obtain ⟨y, hy, e⟩ := List.mem_map.mp hm
    have := h y (List.mem_cons_of_mem _ hy) x List.mem_cons_self e
    exact hd.1 (this ▸ hy)
theorem pairs_le : ∀ {n : Nat} {g : Nat → Nat} {L : List (Nat × Nat)}, L.Nodup → (∀ q ∈ L, q.1 < n ∧ q.2 < g q.1) → L.length ≤ sumN g n := by
  intro n
  induction n with
  | zero =>
    intro g L _ h
    cases L with
    | nil => exact Nat.le_refl _
    | cons a L => exact absurd (h a List.mem_cons_self).1 (Nat.not_lt_zero _)
  | succ n ih =>
    intro g L hd h
    have h1 : (L.filter (fun q => decide (q.1 = n))).length ≤ g n := by
      rw [← List.length_map (as := L.filter (fun q => decide (q.1 = n))) (f := fun q : Nat × Nat => q.2)]
      refine nodup_le ?_ (fun j hj => ?_)
      · refine nodup_map (hd.filter _) ?_
        intro a ha b hb e
        have ha := of_decide_eq_true (List.mem_filter.mp ha).2
        have hb := of_decide_eq_true (List.mem_filter.mp hb).2
        exact Prod.ext (by rw [ha, hb]) e
      · obtain ⟨q, hq, rfl⟩ := List.mem_map.mp hj
        have hq := List.mem_filter.mp hq
        have h2 := of_decide_eq_true hq.2
        have h3 := (h q hq.1).2
        rw [h2] at h3
        exact h3
    have h2 := ih (g := g) (L := L.filter (fun q => !decide (q.1 = n))) (hd.filter _) (fun q hq => by
      have hq := List.mem_filter.mp hq
      have h1 := h q hq.1
      have h2 : ¬ q.1 = n := by simpa using hq.2
      exact ⟨by omega, h1.2⟩)
    have h3 : L.length = (L.filter (fun q => decide (q.1 = n))).length + (L.filter (fun q => !decide (q.1 = n))).length := by
      rw [← List.countP_eq_length_filter, ← List.countP_eq_length_filter]
      have e : (fun q : Nat × Nat => !decide (q.1 = n)) = fun q => decide ¬ (decide (q.1 = n) = true) := by
        funext q
        cases decide (q.1 = n) <;> rfl
      rw [e]
      exact List.length_eq_countP_add_countP _
    unfold sumN
    omega
theorem sumN_mul {f g : Nat → Nat} {a b : Nat} : ∀ {n : Nat}, (∀ i, i < n → a * f i ≤ b * g i) → a * sumN f n ≤ b * sumN g n := by
  intro n
  induction n with
  | zero => intro _; unfold sumN; omega
  | succ n ih =>
    intro h
    unfold sumN
    have h1 := ih (fun i hi => h i (by omega))
    have h2 := h n (by omega)
    rw [Nat.mul_add, Nat.mul_add]
    omega
theorem Inv.rm {R : Nat → Nat} {b : Nat} {A : Hp} (h : Inv R b A) (hR : R 2 ≤ 128) : (hrm A).length ≤ 73 := by
  have w := h.ok
  obtain ⟨hd, hi⟩ := h.2.2.2.2.2.1
  have h1 := pairs_le (g := fun i => if hsp A i = 2 then hsz A i else 0) (n := hn A) hd (fun q hq => by
    have hq2 := w.rm hq
    refine ⟨hq2.1, ?_⟩
    have := ((hi q.1 q.2 hq2.1 hq2.2).mp hq).1
    rw [if_pos this]
    exact hq2.2)
  have h2 := sumN_mul (f := fun i => if hsp A i = 2 then hsz A i else 0) (g := fun i => if hsp A i = 2 then 3 + hsz A i else 0) (a := 7) (b := 4) (n := hn A) (fun i hi => by
    have := w.sz hi
    by_cases e : hsp A i = 2
    · rw [if_pos e, if_pos e]; omega
    · rw [if_neg e, if_neg e]; omega)
  have h3 := h.us (s := 2) (by omega)
  unfold usedA at h3
  omega
theorem MS.congr {m m' : Nat → Int32} {S : Sta} {R : Nat → Nat} {b : Nat} (h : MS m S) (hI : Inv R b S.1) (hR : R 2 ≤ 128) (hl : S.2.length ≤ 60) (e : ∀ i, i < 1554 → m' i = m i) : MS m' S := by
  have h1 := hI.rm hR
  have h2 := hI.en
  refine ⟨h.1.congr hI.ok (by omega) hI.2.2.2.2.2.2.1 (by omega) (fun i hi => e i (by omega)), by rw [e _ (by omega)]; exact h.2.1, fun i hi => ?_⟩
  rw [e _ (by omega), e _ (by omega), e _ (by omega)]
  exact h.2.2 i hi
theorem CS.fk {σ s : rS} {k j : Nat} {S : Sta} (h : CS σ k S) (hf : ∀ c q, ¬ SK j c q → s c q = σ c q) (hne : ¬ k = j) : CS s k S :=
  h.of_eq (hf 7 k (fun z => hne (z.1 (Or.inl rfl)))) (fun c h1 h2 => hf c k (fun z => hne (z.1 (Or.inr ⟨h1, h2⟩)))) (fun i hi => ⟨hf 4 _ (fun z => by have := z.2 (Or.inl rfl); omega), hf 28 _ (fun z => by have := z.2 (Or.inr rfl); omega)⟩)
def setW (W : Wd) (S0 S1 : Sta) (P : List Sta) (g : Bool) : Wd := (S0, S1, P, wR W, wh W, g, wT W, wC W, wZ W)
theorem CW.re {σ s : rS} {W : Wd} (h : CW σ W) {S0 S1 : Sta} {P : List Sta} {g : Bool} (e : ∀ c, c ∈ [8, 20, 21, 22, 24, 25] → s c = σ c) (e4 : s 9 0 4 = σ 9 0 4) (e6 : s 9 0 6 = σ 9 0 6) (h9 : s 9 0 7 = bI g) (h0 : CS s 0 S0) (h1 : g = true → CS s 1 S1) (hP : CPast s P) : CW s (setW W S0 S1 P g) := by
  refine ⟨h0, h1, hP, ?_, ?_, h9, ?_, ?_, ?_⟩
  · rw [e 20 (by decide)]; exact h.2.2.2.1
  · rw [e6]; exact h.2.2.2.2.1
  · rw [e 8 (by decide), e 25 (by decide)]; exact h.2.2.2.2.2.2.1
  · rw [e 21 (by decide), e 24 (by decide), e4]; exact h.2.2.2.2.2.2.2.1
  · rw [e 22 (by decide)]; exact h.2.2.2.2.2.2.2.2
theorem MW.re {σ s : rS} {W : Wd} (h : MW σ W) {S0 S1 : Sta} {P : List Sta} {g : Bool} (e : ∀ c, c ∈ [60, 62, 63, 64, 65] → s c = σ c) (e2 : s 10 0 2 = σ 10 0 2) (e10 : s 10 0 10 = σ 10 0 10) (e11 : s 10 0 11 = σ 10 0 11) (h9 : s 10 0 19 = bI g) (h0 : MS (s 66 0) S0) (h1 : g = true → MS (s 66 3) S1) (hP : MPast s P) : MW s (setW W S0 S1 P g) := by
  refine ⟨h0, h1, hP, ?_, ?_, h9, ?_, ?_, ?_⟩
  · rw [e 62 (by decide)]; exact h.2.2.2.1
  · rw [e11]; exact h.2.2.2.2.1
  · rw [e 60 (by decide), e2]; exact h.2.2.2.2.2.2.1
  · rw [e 65 (by decide), e 64 (by decide), e10]; exact h.2.2.2.2.2.2.2.1
  · rw [e 63 (by decide)]; exact h.2.2.2.2.2.2.2.2
theorem CPast.keep {σ s : rS} {P : List Sta} (h : CPast σ P) (e5 : s 5 = σ 5) (e29 : s 29 = σ 29) (hr : ∀ q S, CS σ (4 + q) S → CS s (4 + q) S) : CPast s P := by
  obtain ⟨nx, h1, h2, h3, h4⟩ := h
  refine ⟨nx, h1, by rw [e5]; exact h2, by rw [e5]; exact h3, fun i hi => ?_⟩
  rw [e29]
  exact ⟨(h4 i hi).1, hr _ _ (h4 i hi).2⟩
theorem MPast.keep {σ s : rS} {P : List Sta} (h : MPast σ P) (e17 : s 10 0 17 = σ 10 0 17) (e18 : s 10 0 18 = σ 10 0 18) (e67 : s 67 = σ 67) : MPast s P := by
  unfold MPast at h ⊢
  rw [e17, e18, e67]
  exact h
theorem InvW.re {b : Nat} {W : Wd} (h : InvW b W) {S0 S1 : Sta} {P : List Sta} {g : Bool} (h0 : Inv (wR W) b S0.1 ∧ S0.2.length ≤ 60) (h1 : g = true → Inv (wR W) b S1.1 ∧ S1.2.length ≤ 60) (hP : P.length ≤ 40 ∧ ∀ S ∈ P, Inv (wR W) b S.1 ∧ S.2.length ≤ 60) (hg : g = true → wh W = true) : InvW b (setW W S0 S1 P g) := ⟨h0, h1, hP, h.2.2.2.1, hg, h.2.2.2.2.2⟩
def cellsA (A : Hp) : Int32 := nI (usedA A 0) + nI (usedA A 1) + nI (usedA A 2)
theorem pl_36 {xs : Nat → Int32} {n : Nat} {σ : rS} {W : Wd} (hC : CW σ W) (hM : MW σ W) (hI : InvW (40 * n) W) : PL_36 xs n σ (IW (n + 1)) := by
  have w := hI.ok
  have hR2 : wR W 2 ≤ 128 := hI.2.2.2.1.2.2.1
  unfold PL_36
  by_cases hh : wh W = false
  · exact pl_q (fc := fun σ => fX9_image σ) (fm := fun σ => fX10_image σ) hC hM hI (a := -1) (by unfold fX9_image; rw [hC.hif, if_pos hh]) (fun s hs => by unfold fX10_image; rw [st_eq, (hs.t0 0).hif, if_pos hh])
  · refine pl_mk (fc := fun σ => fX9_image σ) (fm := fun σ => fX10_image σ) (W' := setW W (wS W) (wS W) (wP W) true) (a := cellsA (wS W).1) hM ?_ (frX9_image _) (isC_of (by decide)) (fun s hs => ?_) (fun s => frX10_image s) (isM_of (by decide)) (hI.next.re hI.next.1 (fun _ => hI.next.1) hI.next.2.2.1 (fun _ => by simpa using hh))
    · unfold fX9_image
      rw [hC.hif, if_neg hh]
      refine bd_hit (hit_mono (hit_fk (fkX7_copyFrom 1 0 σ) (hit_fr (frX7_copyFrom 1 0 σ) (c_copy w (by decide) hC.S))) ?_)
      rintro r s ⟨hk, hf, hS⟩
      have h0 : CS s 0 (wS W) := hC.S.fk hk (by decide)
      have e9 : ∀ c, ¬ c = 9 → wr s 9 0 7 1 c = s c := fun c hc => wr_c hc
      have mv : ∀ k S, CS s k S → CS (wr s 9 0 7 1) k S := fun k S h => h.of_eq (by rw [e9 7 (by decide)]) (fun c h1 h2 => by rw [e9 c (by omega)]) (fun j _ => ⟨by rw [e9 4 (by decide)], by rw [e9 28 (by decide)]⟩)
      rw [st_eq, c_cellsInUse (mv 0 _ h0).1, bd_some]
      refine hit_some ⟨rfl, hC.re (fun c hc => ?_) ?_ ?_ (wr_same _ _ _ _ _) (mv 0 _ h0) (fun _ => mv 1 _ hS) (hC.2.2.1.keep ?_ ?_ (fun q S h => mv _ _ (h.fk hk (by omega))))⟩
      · revert c
        simp only [List.mem_cons, List.not_mem_nil, or_false]
        rintro c (rfl | rfl | rfl | rfl | rfl | rfl) <;> (rw [e9 _ (by decide)]; exact hf _ (by decide))
      · rw [wr_i (by decide), hf 9 (by decide)]
      · rw [wr_i (by decide), hf 9 (by decide)]
      · rw [e9 5 (by decide)]; exact hf _ (by decide)
      · rw [e9 29 (by decide)]; exact hf _ (by decide)
    · have ht := hs.t0 0
      unfold fX10_image
      rw [st_eq, ht.hif, if_neg hh]
      have hcp := m_copyRow (τ := wr s 10 0 0 0) (c0 := 66) (k0 := 0) (n0 := 1554) (a := 0) (c2 := 66) (k2 := 3) (n2 := 1554) (b := 0) (by omega) (by omega) (by omega) (by omega) (by decide)
      refine bd_hit (hit_mono hcp ?_)
      rintro r t ⟨h1, -, h3⟩
      have e10 : ∀ c, ¬ c = 10 → wr t 10 0 19 1 c = t c := fun c hc => wr_c hc
      have e66 : wr t 10 0 19 1 66 0 = wr s 10 0 0 0 66 0 := by rw [e10 66 (by decide)]; exact h3 66 0 (by decide)
      have t10 : t 10 0 = wr s 10 0 0 0 10 0 := h3 10 0 (by decide)
      have hn0 : MS (wr t 10 0 19 1 66 0) (wS W) := by rw [e66]; exact ht.S
      have hn1 : MS (wr t 10 0 19 1 66 3) (wS W) := by
        rw [e10 66 (by decide)]
        exact ht.S.congr hI.A hR2 hI.1.2 (fun i hi => by have := h1 i hi; rw [Nat.zero_add] at this; exact this)
      rw [st_eq, m_cells w hn0.1, bd_some]
      have eo : ∀ c, ¬ c = 66 → ¬ c = 10 → wr t 10 0 19 1 c = wr s 10 0 0 0 c := fun c h6 h10 => by
        rw [e10 c h10]
        funext k
        exact h3 c k (fun z => h6 z.1)
      refine hit_some ⟨rfl, ht.re (fun c hc => ?_) ?_ ?_ ?_ (wr_same _ _ _ _ _) hn0 (fun _ => hn1) (ht.2.2.1.keep ?_ ?_ (eo 67 (by decide) (by decide)))⟩
      · revert c
        simp only [List.mem_cons, List.not_mem_nil, or_false]
        rintro c (rfl | rfl | rfl | rfl | rfl) <;> exact eo _ (by decide) (by decide)
      · rw [wr_i (by decide), t10]
      · rw [wr_i (by decide), t10]
      · rw [wr_i (by decide), t10]
      · rw [wr_i (by decide), t10]
      · rw [wr_i (by decide), t10]
