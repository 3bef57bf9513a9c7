/-! an act on the heap as it is -/
def setZ (W : Wd) (f : Nat → Int32) : Wd := (wS W, wI W, wP W, wR W, wh W, wg W, wT W, wC W, f)
noncomputable def actV (W : Wd) (t : Nat) (x y z d : Int32) : AR := if wh W = true then doA (wR W) (wS W).1 t x y z d else .inl 0
def ansV (q : AR) : Int32 := match q with
  | .inl _ => -1
  | .inr (c, _, _) => c
def actW (cnt : Bool) (W : Wd) (t : Nat) (q : AR) : Wd := match q with
  | .inl why => if cnt = true then setZ W (upx (wZ W) why (wZ W why + 1)) else W
  | .inr (_, lg, A') => setW W (A', logAdd (wS W).2 (nI t, lg, cellsA A')) (wI W) (pushP (wP W) (wS W)) (wg W)
theorem ad_log {L : Lg} {q : Int32 × Int32 × Int32} (h : L.length ≤ 60) : (logAdd L q).length ≤ 60 := by
  unfold logAdd
  rw [List.length_append]
  by_cases c : L.length = 60
  · rw [if_pos c, List.length_drop, List.length_singleton]; omega
  · rw [if_neg c, List.length_singleton]; omega
theorem ad_past {P : List Sta} {S : Sta} (h : P.length ≤ 40) : (pushP P S).length ≤ 40 := by
  unfold pushP
  rw [List.length_append]
  by_cases c : P.length = 40
  · rw [if_pos c, List.length_drop, List.length_singleton]; omega
  · rw [if_neg c, List.length_singleton]; omega
theorem ad_mem {P : List Sta} {S T : Sta} (h : T ∈ pushP P S) : T ∈ P ∨ T = S := by
  unfold pushP at h
  rcases List.mem_append.mp h with h | h
  · by_cases c : P.length = 40
    · rw [if_pos c] at h; exact Or.inl (List.mem_of_mem_drop h)
    · rw [if_neg c] at h; exact Or.inl h
  · exact Or.inr (List.mem_singleton.mp h)
/-- the rules of a heap that is there -/
theorem CPrep.mv {σ s : rS} {P : List Sta} {S : Sta} (h : CPrep σ P S) (e5 : s 5 = σ 5) (e29 : s 29 = σ 29) (hk : ∀ c k, ¬ S0 0 c k → s c k = σ c k) : CPrep s P S := by
  obtain ⟨nx, h1, h2, h3, ⟨h4, h5⟩, h6⟩ := h
  have mv : ∀ q T, ¬ q = 0 → ¬ q = 3 → CS σ q T → CS s q T := fun q T q0 q3 hT => hT.of_eq (hk 7 q (fun h => by
    rcases h with h | h
    · exact q0 (h.1 (Or.inl rfl))
    · exact q3 (h.1 (Or.inl rfl)))) (fun c c1 c2 => hk c q (fun h => by
    rcases h with h | h
    · exact q0 (h.1 (Or.inr ⟨c1, c2⟩))
    · exact q3 (h.1 (Or.inr ⟨c1, c2⟩)))) (fun j hj => ⟨hk 4 _ (fun h => by
      rcases h with h | h
      · have := h.2 (Or.inl rfl); omega
      · have := h.2 (Or.inl rfl); omega), hk 28 _ (fun h => by
      rcases h with h | h
      · have := h.2 (Or.inr rfl); omega
      · have := h.2 (Or.inr rfl); omega)⟩)
  exact ⟨nx, h1, by rw [e5]; exact h2, by rw [e5]; exact h3, ⟨by rw [e29]; exact h4, mv _ _ (by omega) (by omega) h5⟩, fun i hi => ⟨by rw [e29]; exact (h6 i hi).1, mv _ _ (by omega) (by omega) (h6 i hi).2⟩⟩
theorem CPrep.past {σ : rS} {P : List Sta} {S : Sta} (h : CPrep σ P S) : CPast σ P := by
  obtain ⟨nx, h1, h2, h3, -, h6⟩ := h
  exact ⟨nx, h1, h2, h3, h6⟩
theorem setW_self (W : Wd) : setW W (wS W) (wI W) (wP W) (wg W) = W := rfl
theorem CW.zz {σ : rS} {W : Wd} {i : Nat} (h : CW σ W) (hi : i < 4) : CW (wr σ 22 0 i (wZ W i + 1)) (setZ W (upx (wZ W) i (wZ W i + 1))) := by
  have e : ∀ c, ¬ c = 22 → wr σ 22 0 i (wZ W i + 1) c = σ c := fun c hc => wr_c hc
  have mv : ∀ k S, CS σ k S → CS (wr σ 22 0 i (wZ W i + 1)) k S := fun k S h => h.of_eq (by rw [e 7 (by decide)]) (fun c h1 h2 => by rw [e c (by omega)]) (fun j _ => ⟨by rw [e 4 (by decide)], by rw [e 28 (by decide)]⟩)
  obtain ⟨h1, h2, ⟨nx, n1, n2, n3, n4⟩, h4, h5, h6, h7, h8, h9⟩ := h
  refine ⟨mv _ _ h1, fun g => mv _ _ (h2 g), ⟨nx, n1, by rw [e 5 (by decide)]; exact n2, by rw [e 5 (by decide)]; exact n3, fun j hj => ⟨by rw [e 29 (by decide)]; exact (n4 j hj).1, mv _ _ (n4 j hj).2⟩⟩, ?_, ?_, ?_, ?_, ?_, fun j hj => ?_⟩
  · rw [e 20 (by decide)]; exact h4
  · rw [e 9 (by decide)]; exact h5
  · rw [e 9 (by decide)]; exact h6
  · rw [e 8 (by decide), e 25 (by decide)]; exact h7
  · rw [e 9 (by decide), e 21 (by decide), e 24 (by decide)]; exact h8
  · show _ = upx (wZ W) i (wZ W i + 1) j
    by_cases c : j = i
    · subst c; rw [wr_same, upx_same]
    · rw [wr_i c, upx_ne c]; exact h9 j hj
theorem MW.zz {σ : rS} {W : Wd} {i : Nat} (h : MW σ W) (hi : i < 4) : MW (wr σ 63 0 i (wZ W i + 1)) (setZ W (upx (wZ W) i (wZ W i + 1))) := by
  have e : ∀ c, ¬ c = 63 → wr σ 63 0 i (wZ W i + 1) c = σ c := fun c hc => wr_c hc
  obtain ⟨h1, h2, ⟨nx, n1, n2, n3, n4⟩, h4, h5, h6, h7, h8, h9⟩ := h
  refine ⟨by rw [e 66 (by decide)]; exact h1, by rw [e 66 (by decide)]; exact h2, ⟨nx, n1, by rw [e 10 (by decide)]; exact n2, by rw [e 10 (by decide)]; exact n3, by rw [e 67 (by decide)]; exact n4⟩, ?_, ?_, ?_, ?_, ?_, fun j hj => ?_⟩
  · rw [e 62 (by decide)]; exact h4
  · rw [e 10 (by decide)]; exact h5
  · rw [e 10 (by decide)]; exact h6
  · rw [e 10 (by decide), e 60 (by decide)]; exact h7
  · rw [e 10 (by decide), e 65 (by decide), e 64 (by decide)]; exact h8
  · show _ = upx (wZ W) i (wZ W i + 1) j
    by_cases c : j = i
    · subst c; rw [wr_same, upx_same]
    · rw [wr_i c, upx_ne c]; exact h9 j hj
theorem InvW.z {b : Nat} {W : Wd} (h : InvW b W) (f : Nat → Int32) : InvW b (setZ W f) := h
section act
variable {W : Wd} {b : Nat}
theorem actV_Iv (hI : InvW b W) (h8 : wh W = true → 8 ≤ wR W 0) (hb : b + 1 < 1000000) (t : Nat) (x y z d : Int32) : IvA (wR W) (b + 1) (actV W t x y z d) := by
  unfold actV
  by_cases hh : wh W = true
  · rw [if_pos hh]
    obtain ⟨r0, r1, r2, r3⟩ := hI.2.2.2.1
    have r3 : wR W 3 ≤ 5 := by first | exact r3 | exact r3.1
    exact i_does hI.1.1 ⟨r0, r1, r2, r3, h8 hh⟩ hb t x y z d
  · rw [if_neg hh]; exact (by decide : 0 < 4)
theorem actW_Inv (hI : InvW b W) (h8 : wh W = true → 8 ≤ wR W 0) (hb : b + 1 < 1000000) (cnt : Bool) (t : Nat) (x y z d : Int32) : InvW (b + 1) (actW cnt W t (actV W t x y z d)) := by
  have h := actV_Iv hI h8 hb t x y z d
  have hI' : InvW (b + 1) W := hI.mono (by omega)
  generalize actV W t x y z d = q at h ⊢
  rcases q with why | ⟨c, lg, A'⟩
  · unfold actW
    dsimp only
    by_cases cc : cnt = true
    · rw [if_pos cc]; exact hI'.z _
    · rw [if_neg cc]; exact hI'
  · exact hI'.re ⟨h.2, ad_log hI.1.2⟩ hI'.2.1 ⟨ad_past hI.2.2.1.1, fun S hS => by
      rcases ad_mem hS with hS | rfl
      · exact hI'.2.2.1.2 S hS
      · exact hI'.1⟩ hI.2.2.2.2.1
theorem c_act {σ : rS} (hC : CW σ W) (hI : InvW b W) (h8 : wh W = true → 8 ≤ wR W 0) (hb : b + 1 < 1000000) {t : Nat} (ht : t ≤ 7) (cnt : Bool) (x y z d : Int32) : hit (fX9_act (nI t) x y z d (bI cnt) σ) (fun r s => r = ansV (actV W t x y z d) ∧ CW s (actW cnt W t (actV W t x y z d))) := by
  /- refused -/
  have ref : ∀ (s : rS) (why : Nat) (q : Int32), q = -1 - nI why → why < 4 → CW s W → hit (fX9_act_j41 (bI cnt) q s) (fun r s' => r = ansV (.inl why) ∧ CW s' (actW cnt W t (.inl why)))   := fun s why q hq hw hs => by
    subst hq
    have e1 : (-1 : Int32) - nI why < 0 := by rcases (by omega : why = 0 ∨ why = 1 ∨ why = 2 ∨ why = 3) with rfl | rfl | rfl | rfl <;> decide
    have e2 : (-1 : Int32) - (-1 - nI why) = nI why := by rcases (by omega : why = 0 ∨ why = 1 ∨ why = 2 ∨ why = 3) with rfl | rfl | rfl | rfl <;> decide
    unfold fX9_act_j41 actW
    rw [if_pos e1, e2, rd_eq]
    dsimp only
    cases cnt with
    | false =>
      rw [if_pos (show bI false = 0 from rfl), if_neg (by decide)]
      exact hit_some ⟨rfl, hs⟩
    | true =>
      rw [if_neg (show ¬ bI true = 0 by decide), if_neg (by rw [pn_neg (by omega)]; exact id), if_pos (show nI why < 4 by rw [pn_lt4 (by omega)]; exact hw), if_pos rfl, pn_bnd hw (by omega), pn_bnd hw (by omega), ix_nI (by omega), hs.2.2.2.2.2.2.2.2 why hw, st_eq]
      exact hit_some ⟨rfl, hs.zz hw⟩
  have e6 : σ 9 0 6 = bI (wh W) := hC.2.2.2.2.1
  unfold fX9_act actV
  rw [e6]
  by_cases hh : wh W = true
  · rw [if_pos hh, hh, if_neg (show ¬ bI true = 0 by decide)]
    refine bd_hit (hit_mono (c_prep hC hI) ?_)
    rintro r1 s1 ⟨hC1, hP1⟩
    obtain ⟨r0, r1', r2, r3⟩ := hI.2.2.2.1
    have r3 : wR W 3 ≤ 5 := by first | exact r3 | exact r3.1
    have hR8 : R8 (wR W) := ⟨r0, r1', r2, r3, h8 hh⟩
    have hRU : RU s1 (wR W) := ⟨hC1.2.2.2.1, r0, r1', r2, r3⟩
    have hA : Inv (wR W) b (wS W).1 := hI.1.1
    refine bd_hit (hit_mono (hit_fk (fkX0_apply 0 (nI t) x y z d s1) (hit_fr (frX0_apply 0 (nI t) x y z d s1) (c_apply (A := (wS W).1) (L := (wS W).2) hC1.1 hA hRU hR8 hb (by decide) ht x y z d))) ?_)
    rintro r2 s2 ⟨k2, f2, h2⟩
    have hP2 := hP1.mv (f2 5 (by decide)) (f2 29 (by decide)) k2
    have h12 : wg W = true → CS s2 1 (wI W) := fun g => (hC1.2.1 g).of_eq (k2 7 1 (fun h => by
      rcases h with h | h
      · have := h.1 (Or.inl rfl); omega
      · have := h.1 (Or.inl rfl); omega)) (fun c c1 c2 => k2 c 1 (fun h => by
      rcases h with h | h
      · have := h.1 (Or.inr ⟨c1, c2⟩); omega
      · have := h.1 (Or.inr ⟨c1, c2⟩); omega)) (fun j hj => ⟨k2 4 _ (fun h => by
        rcases h with h | h
        · have := h.2 (Or.inl rfl); omega
        · have := h.2 (Or.inl rfl); omega), k2 28 _ (fun h => by
        rcases h with h | h
        · have := h.2 (Or.inr rfl); omega
        · have := h.2 (Or.inr rfl); omega)⟩)
    have f20 : ∀ c, c ∈ [8, 20, 21, 22, 24, 25] → s2 c = s1 c := fun c hc => by
      simp only [List.mem_cons, List.not_mem_nil, or_false] at hc
      rcases hc with rfl | rfl | rfl | rfl | rfl | rfl <;> exact f2 _ (by decide)
    have iv := i_does hA hR8 hb t x y z d
    generalize doA (wR W) (wS W).1 t x y z d = q at h2 iv ⊢
    rcases q with why | ⟨c, lg, A'⟩
    · have iv' : why < 4 := iv
      refine ref s2 why r2 h2.1 iv' ?_
      have : CW s2 (setW W (wS W) (wI W) (wP W) (wg W)) := hC1.re (fun c hc => f20 c hc) (by rw [f2 9 (by decide)]) (by rw [f2 9 (by decide)]) (by rw [f2 9 (by decide)]; exact hC1.2.2.2.2.2.1) h2.2 h12 hP2.past
      exact this
    · have hc0 : ¬ c < 0 := iv.1
      unfold fX9_act_j41
      rw [show r2 = c from h2.1, if_neg hc0]
      refine bd_hit (hit_mono (hit_fr (frX5_keepPrepared s2) (c_keep hP2 hI.2.2.1.1)) ?_)
      rintro r3 s3 ⟨f3, h3⟩
      have e3 : ∀ c, ¬ c = 5 → s3 c = s2 c := fun c hc => f3 c (by simpa using hc)
      have mv : ∀ k S, CS s2 k S → CS s3 k S := fun k S h => h.of_eq (by rw [e3 7 (by decide)]) (fun c h1 h2 => by rw [e3 c (by omega)]) (fun j _ => ⟨by rw [e3 4 (by decide)], by rw [e3 28 (by decide)]⟩)
      refine hit_some ⟨rfl, ?_⟩
      exact hC1.re (fun c hc => by
        rw [e3 c (by simp only [List.mem_cons, List.not_mem_nil, or_false] at hc; omega)]
        exact f20 c hc) (by rw [e3 9 (by decide), f2 9 (by decide)]) (by rw [e3 9 (by decide), f2 9 (by decide)]) (by rw [e3 9 (by decide), f2 9 (by decide)]; exact hC1.2.2.2.2.2.1) (mv _ _ h2.2) (fun g => mv _ _ (h12 g)) h3
  · rw [if_neg hh, if_pos (show bI (wh W) = 0 by rw [eq_false_of_ne_true hh]; rfl)]
    exact ref σ 0 (-1) (by decide) (by decide) hC
end act
