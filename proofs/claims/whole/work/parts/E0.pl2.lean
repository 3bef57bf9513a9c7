/-! fault -/
theorem CW.rdr {σ s : rS} {W : Wd} (h : CW σ W) (e : ∀ c, ¬ c = 6 → ¬ c = 26 → ¬ c = 27 → s c = σ c) : CW s W := by
  have eS : ∀ (k : Nat) (S : Sta), CS σ k S → CS s k S := fun k S hS => hS.of_eq (by rw [e 7 (by decide) (by decide) (by decide)]) (fun c h1 h2 => by rw [e c (by omega) (by omega) (by omega)]) (fun j _ => by rw [e 4 (by decide) (by decide) (by decide), e 28 (by decide) (by decide) (by decide)]; exact ⟨rfl, rfl⟩)
  obtain ⟨h1, h2, ⟨nx, h3⟩, h4⟩ := h
  refine ⟨eS _ _ h1, fun g => eS _ _ (h2 g), ⟨nx, ?_⟩, ?_⟩
  · rw [e 5 (by decide) (by decide) (by decide), e 29 (by decide) (by decide) (by decide)]
    exact ⟨h3.1, h3.2.1, h3.2.2.1, fun i hi => ⟨(h3.2.2.2 i hi).1, eS _ _ (h3.2.2.2 i hi).2⟩⟩
  · rw [e 20 (by decide) (by decide) (by decide), e 9 (by decide) (by decide) (by decide), e 8 (by decide) (by decide) (by decide), e 25 (by decide) (by decide) (by decide), e 21 (by decide) (by decide) (by decide), e 24 (by decide) (by decide) (by decide), e 22 (by decide) (by decide) (by decide)]
    exact h4
theorem CW.tp {σ : rS} {W : Wd} {b : Nat} (h : CW σ W) (hI : InvW b W) : TpC σ (wT W) := ⟨h.tl, fun i hi => h.ti hi, hI.2.2.2.2.2.1.1, hI.2.2.2.2.2.1.2⟩
theorem MW.tp {σ : rS} {W : Wd} {b : Nat} (h : MW σ W) (hI : InvW b W) : TpM σ (wT W) := ⟨h.2.2.2.2.2.2.1.1, h.2.2.2.2.2.2.1.2, hI.2.2.2.2.2.1.1, hI.2.2.2.2.2.1.2⟩
/-- what the model's readings leave -/
def Gf (σ s : rS) : Prop := (∀ c, ¬ c = 10 → ¬ c = 61 → ¬ c = 64 → ¬ c = 65 → s c = σ c) ∧ (∀ i, ¬ i = 0 → ¬ i = 3 → ¬ i = 4 → s 10 0 i = σ 10 0 i) ∧ (∀ x, x < 320 → s 64 0 x = σ 64 0 x) ∧ ∀ x, x < 4 → s 65 0 x = σ 65 0 x
theorem MW.rdr {σ s : rS} {W : Wd} {b : Nat} (h : MW σ W) (hI : InvW b W) (g : Gf σ s) : MW s W := by
  obtain ⟨e, e10, e64, e65⟩ := g
  have h4 := hI.2.2.2.2.2.2.1
  obtain ⟨m1, m2, ⟨fi, m3⟩, m4, m5, m6, m7, ⟨m8, m9⟩, m10⟩ := h
  have ec : ∀ c, c = 60 ∨ c = 62 ∨ c = 63 ∨ c = 66 ∨ c = 67 → s c = σ c := fun c hc => e c (by omega) (by omega) (by omega) (by omega)
  refine ⟨by rw [ec 66 (by omega)]; exact m1, fun z => by rw [ec 66 (by omega)]; exact m2 z, ⟨fi, by rw [e10 17 (by decide) (by decide) (by decide), e10 18 (by decide) (by decide) (by decide), ec 67 (by omega)]; exact m3⟩, by rw [ec 62 (by omega)]; exact m4, by rw [e10 11 (by decide) (by decide) (by decide)]; exact m5, by rw [e10 19 (by decide) (by decide) (by decide)]; exact m6, by rw [e10 2 (by decide) (by decide) (by decide), ec 60 (by omega)]; exact m7, ⟨by rw [e10 10 (by decide) (by decide) (by decide)]; exact m8, fun q hq => ?_⟩, by rw [ec 63 (by omega)]; exact m10⟩
  have hc := hI.2.2.2.2.2.2.2 _ (getD_mem' (d := noC) hq)
  have h16 := hc.2.1
  refine ⟨by rw [e65 q (by omega)]; exact (m9 q hq).1, fun i hi => ?_⟩
  rw [e64 (80 * q + i) (by omega)]
  exact (m9 q hq).2 i hi
def hpA (V : Nat ⊕ (Nat → Nat)) : Int32 := match V with
  | .inl f => nI f
  | .inr _ => -1
def scA (V : Nat ⊕ (Nat × (Nat → Int32))) : Int32 := match V with
  | .inl f => nI f
  | .inr _ => -1
def fltA (T : List Nat) (x : Int32) : Int32 := if x = 0 then hpA (hpV T) else if x = 1 then scA (scV T) else -2
theorem hpC_a {V : Nat ⊕ (Nat → Nat)} {r : Int32} {s : rS} (h : hpC V r s) : r = hpA V := by
  cases V with
  | inl f => exact h
  | inr R => exact h.1
theorem scC_a {V : Nat ⊕ (Nat × (Nat → Int32))} {r : Int32} {s : rS} (h : scC V r s) : r = scA V := by
  cases V with
  | inl f => exact h
  | inr R => exact h.1
theorem hpM_a {V : Nat ⊕ (Nat → Nat)} {s : rS} (h : hpM V s) : s 10 0 4 = hpA V := by
  cases V with
  | inl f => exact h
  | inr R => exact h.1
theorem scM_a {V : Nat ⊕ (Nat × (Nat → Int32))} {s : rS} (h : scM V s) : s 10 0 4 = scA V := by
  cases V with
  | inl f => exact h
  | inr R => exact h.1
theorem c_fault {x : Int32} {σ : rS} {W : Wd} {b : Nat} (hC : CW σ W) (hI : InvW b W) : hit (fX9_fault x σ) (fun r s => r = fltA (wT W) x ∧ CW s W) := by
  have tp := hC.tp hI
  unfold fX9_fault fltA
  by_cases a : x = 0
  · rw [if_pos a, if_pos a]
    refine bd_hit (hit_mono (c_readHeap tp) ?_)
    rintro r s ⟨h1, h2⟩
    exact hit_some ⟨hpC_a h1, hC.rdr (fun c h6 h26 _ => h2 c h6 h26)⟩
  · rw [if_neg a, if_neg a]
    by_cases b : x = 1
    · rw [if_pos b, if_pos b]
      refine bd_hit (hit_mono (c_readScript tp) ?_)
      rintro r s ⟨h1, h2⟩
      exact hit_some ⟨scC_a h1, hC.rdr (fun c h6 _ h27 => h2 c h6 h27)⟩
    · rw [if_neg b, if_neg b]
      exact hit_some ⟨rfl, hC⟩
theorem isIn01 (x : Int32) (σ : rS) : fX10_isIn x.toInt64 0 1 σ = some (if x = 0 ∨ x = 1 then 1 else 0, σ) := by
  rw [show (1 : Int64) = (nI 1).toInt64 by decide, m_in x (by omega)]
  rcases inB_cases x (b := 1 + 1) (by omega) with ⟨i, hi, rfl, e⟩ | ⟨e, hx⟩
  · rw [e]
    have : nI i = 0 ∨ nI i = 1 := by
      rcases (by omega : i = 0 ∨ i = 1) with rfl | rfl
      · exact Or.inl rfl
      · exact Or.inr rfl
    rw [if_pos this]
  · rw [e]
    have : ¬ (x = 0 ∨ x = 1) := by
      rcases hx with hx | ⟨i, h1, h2, rfl⟩
      · rintro (rfl | rfl) <;> exact absurd hx (by decide)
      · rw [pn_eq0 h2, pn_eq1 h2]; omega
    rw [if_neg this]
theorem Gf.h {σ u s : rS} (g : Gf σ u) (o : Gh u s) : Gf σ s := ⟨fun c h1 h2 h3 h4 => (o.1 c h1 h2).trans (g.1 c h1 h2 h3 h4), fun i h1 h2 h3 => (o.2 i h2 h3).trans (g.2.1 i h1 h2 h3), fun x hx => by rw [o.1 64 (by decide) (by decide)]; exact g.2.2.1 x hx, fun x hx => by rw [o.1 65 (by decide) (by decide)]; exact g.2.2.2 x hx⟩
theorem Gf.z {σ u s : rS} (g : Gf σ u) (o : Gz u s) : Gf σ s := ⟨fun c h1 h2 h3 h4 => (o.1 c h1 h3 h4).trans (g.1 c h1 h2 h3 h4), fun i h1 h2 h3 => (o.2.1 i h2 h3).trans (g.2.1 i h1 h2 h3), fun x hx => (o.2.2.1 x hx).trans (g.2.2.1 x hx), fun x hx => (o.2.2.2 x hx).trans (g.2.2.2 x hx)⟩
theorem m_fault {x : Int32} {σ : rS} {T : List Nat} (h : TpM σ T) : hit (fX10_fault x σ) (fun r s => r = fltA T x ∧ (x = 0 → hpM (hpV T) s) ∧ (x = 1 → scM (scV T) s) ∧ Gf σ s) := by
  have g0 : Gf σ (wr σ 10 0 0 0) := ⟨fun c h1 _ _ _ => wr_c h1, fun i h1 _ _ => wr_i h1, fun x _ => by rw [wr_c (by decide)], fun x _ => by rw [wr_c (by decide)]⟩
  have g1 : Gf σ (wr (wr (wr σ 10 0 0 0) 10 0 3 0) 10 0 4 (-1)) := ⟨fun c h1 _ _ _ => by rw [wr_c h1, wr_c h1, wr_c h1], fun i h1 h2 h3 => by rw [wr_i h3, wr_i h2, wr_i h1], fun x _ => by rw [wr_c (by decide), wr_c (by decide), wr_c (by decide)], fun x _ => by rw [wr_c (by decide), wr_c (by decide), wr_c (by decide)]⟩
  have t1 : TpM (wr (wr (wr σ 10 0 0 0) 10 0 3 0) 10 0 4 (-1)) T := h.fr (g1.2.1 2 (by decide) (by decide) (by decide)) (g1.1 60 (by decide) (by decide) (by decide) (by decide))
  have e3 : wr (wr (wr σ 10 0 0 0) 10 0 3 0) 10 0 4 (-1) 10 0 3 = nI 0 := by rw [wr_i (by decide), wr_same]; rfl
  have e4 : wr (wr (wr σ 10 0 0 0) 10 0 3 0) 10 0 4 (-1) 10 0 4 = -1 := wr_same _ _ _ _ _
  unfold fX10_fault fltA
  rw [st_eq, isIn01, bd_some]
  by_cases a : x = 0
  · subst a
    rw [if_pos (show (0 : Int32) = 0 ∨ (0 : Int32) = 1 from Or.inl rfl), if_neg (show ¬ (1 : Int32) = 0 by decide), st_eq, st_eq, if_pos rfl, if_pos rfl]
    refine bd_hit (hit_mono (m_readHeap t1 e3 e4) ?_)
    rintro r s ⟨h1, h2⟩
    exact hit_some ⟨hpM_a h1, fun _ => h1, fun z => absurd z (by decide), g1.h h2⟩
  · by_cases b : x = 1
    · subst b
      rw [if_pos (show (1 : Int32) = 0 ∨ (1 : Int32) = 1 from Or.inr rfl), if_neg (show ¬ (1 : Int32) = 0 by decide), st_eq, st_eq, if_neg a, if_neg a, if_pos rfl]
      refine bd_hit (hit_mono (m_readScript t1 e3 e4) ?_)
      rintro r s ⟨h1, h2⟩
      exact hit_some ⟨scM_a h1, fun z => absurd z (by decide), fun _ => h1, g1.z h2⟩
    · rw [if_neg (show ¬ (x = 0 ∨ x = 1) from fun z => z.elim a b), if_pos rfl, if_neg a, if_neg b]
      exact hit_some ⟨rfl, fun z => absurd z a, fun z => absurd z b, g0⟩
theorem pl_2 {xs : Nat → Int32} {n : Nat} {σ : rS} {W : Wd} (hC : CW σ W) (hM : MW σ W) (hI : InvW (40 * n) W) : PL_2 xs n σ (IW (n + 1)) := by
  unfold PL_2
  generalize xs (6 * n + 1) = x
  exact pl_mk (W' := W) (a := fltA (wT W) x) (fc := fun σ => fX9_fault x σ) (fm := fun σ => fX10_fault x σ) hM (c_fault hC hI) (frX9_fault _ _) (isC_of (by decide)) (fun s hs => hit_mono (m_fault (hs.tp hI)) (fun r t h => ⟨h.1, hs.rdr hI h.2.2.2⟩)) (fun s => frX10_fault _ s) (isM_of (by decide)) hI.next
