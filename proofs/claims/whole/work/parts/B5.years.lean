/-! years by a seed -/
theorem l_int {a : Nat} (ha : a < 2147483648) : (Int64.ofNat a).toInt = a := Int64.toInt_ofNat_of_lt (by omega)
theorem l_div {a b : Nat} (ha : a < 2147483648) (hb : b < 2147483648) : Int64.ofNat a / Int64.ofNat b = Int64.ofNat (a / b) := by
  apply Int64.toInt_inj.mp
  have hq : a / b < 2147483648 := Nat.lt_of_le_of_lt (Nat.div_le_self a b) ha
  rw [l_int hq, Int64.toInt_div, l_int ha, l_int hb]
  rw [Int.tdiv_eq_ediv_of_nonneg (by omega)]
  rw [Int.bmod_eq_of_le]
  · simp
  · have : (0 : Int) ≤ (a : Int) / (b : Int) := Int.ediv_nonneg (by omega) (by omega)
    omega
  · have h1 : ((a / b : Nat) : Int) = (a : Int) / (b : Int) := by simp
    omega
def nx (x : Int64) : Int64 := x * 6364136223846793005 + 1442695040888963407
def dr (j : Int32) (x : Int64) : Int32 := (((x.toUInt64 >>> ((33 : Int32).toInt64.toUInt64 &&& Int64.toUInt64 63)).toInt64) - ((x.toUInt64 >>> ((33 : Int32).toInt64.toUInt64 &&& Int64.toUInt64 63)).toInt64) / j.toInt64 * j.toInt64).toInt32
theorem dr_lt (x : Int64) {j : Nat} (h0 : 0 < j) (h1 : j ≤ 1000) : ∃ i, i < j ∧ dr (nI j) x = nI i := by
  have hv : (x.toUInt64 >>> (33 : UInt64)).toNat < 2147483648 := by
    rw [UInt64.toNat_shiftRight, Nat.shiftRight_eq_div_pow]
    have := x.toUInt64.toNat_lt
    have e : (33 : UInt64).toNat % 64 = 33 := by decide
    rw [e]
    omega
  refine ⟨(x.toUInt64 >>> (33 : UInt64)).toNat % j, Nat.mod_lt _ h0, ?_⟩
  unfold dr
  rw [show ((33 : Int32).toInt64.toUInt64 &&& Int64.toUInt64 63) = 33 by decide]
  generalize x.toUInt64 >>> (33 : UInt64) = u at hv ⊢
  have eu : u.toInt64 = Int64.ofNat u.toNat := by rw [← UInt64.toInt64_ofNat', UInt64.ofNat_toNat]
  have ej : (nI j).toInt64 = Int64.ofNat j := Int32.toInt64_ofNat' (by
    have : Int32.maxValue.toInt = 2147483647 := by decide
    omega)
  rw [eu, ej, l_div hv (by omega), ← Int64.ofNat_mul, ← Int64.ofNat_sub _ _ (Nat.div_mul_le_self _ _), Int64.toInt32_ofNat']
  show nI _ = nI _
  congr 1
  have := Nat.div_add_mod u.toNat j
  rw [Nat.mul_comm] at this
  omega
/-- the act of a year: the long behind it, its sort, its four numbers -/
def yrG (N : Int64 → Int64) (D : Nat → Int64 → Int32) (x : Int64) : Int64 × Nat × Int32 × Int32 × Int32 × Int32 :=
  if D 10 (N x) = nI 9 then (if D 3 (N (N x)) = nI 2 then (N (N (N x)), 6, D 9 (N (N (N x))), 0, 0, 0) else if D 3 (N (N x)) = nI 0 then (N (N x), 4, 0, 0, 0, 0) else (N (N x), 5, 0, 0, 0, 0))
  else if D 10 (N x) = nI 8 then (N (N x), 3, D 8 (N (N x)), 0, 0, 0)
  else if D 10 (N x) = nI 7 then (N (N (N (N x))), 2, D 8 (N (N x)), D 8 (N (N (N x))), D 4 (N (N (N (N x)))), 0)
  else if nI 3 < D 10 (N x) then (N (N (N (N x))), 1, D 8 (N (N x)), D 4 (N (N (N x))), D 9 (N (N (N (N x)))), 0)
  else (N (N (N (N (N x)))), 0, D 8 (N (N x)), D 3 (N (N (N x))), D 4 (N (N (N (N x)))) + 1, D 1000 (N (N (N (N (N x))))))
def DB (D : Nat → Int64 → Int32) : Prop := ∀ j x, 0 < j → j ≤ 1000 → ∃ i, i < j ∧ D j x = nI i
def LC (σ : rS) (x : Int64) : Prop := lJ (σ 2 0 100) (σ 2 0 200) = x
def LM (σ : rS) (x : Int64) : Prop := lJ (σ 10 0 132) (σ 10 0 232) = x
theorem toI64_ne {j : Nat} (h0 : 0 < j) (h1 : j ≤ 1000) : ¬ (nI j).toInt64 = 0 := by
  have ej : (nI j).toInt64 = Int64.ofNat j := Int32.toInt64_ofNat' (by
    have : Int32.maxValue.toInt = 2147483647 := by decide
    omega)
  rw [ej]
  intro h
  have := congrArg Int64.toInt h
  rw [l_int (by omega)] at this
  have e0 : (0 : Int64).toInt = 0 := by decide
  omega
theorem c_next {σ : rS} {x : Int64} (h : LC σ x) {j : Nat} (h0 : 0 < j) (h1 : j ≤ 1000) : hit (fX2_next (nI j) σ) (fun r s => r = dr (nI j) (nx x) ∧ LC s (nx x) ∧ ∀ c, ¬ c = 2 → s c = σ c) := by
  unfold LC at h
  unfold fX2_next blz
  rw [h, st_eq, if_pos (show (0 : Int32) < nI j by rw [show (0 : Int32) = nI 0 from rfl, pn_lt (by omega) (by omega)]; exact h0), if_neg (toI64_ne h0 h1)]
  have e : lJ (wr (wr σ 2 0 100 (lHi (x * 6364136223846793005 + 1442695040888963407))) 2 0 200 (lLo (x * 6364136223846793005 + 1442695040888963407)) 2 0 100) (wr (wr σ 2 0 100 (lHi (x * 6364136223846793005 + 1442695040888963407))) 2 0 200 (lLo (x * 6364136223846793005 + 1442695040888963407)) 2 0 200) = nx x := by
    rw [wr_i (by decide), wr_same, wr_same]
    exact lJ_split _
  rw [e]
  exact hit_some ⟨rfl, e, fun c hc => by rw [wr_c hc, wr_c hc]⟩
theorem m_draw {σ : rS} {x : Int64} (h : LM σ x) {j : Nat} (h0 : 0 < j) (h1 : j ≤ 1000) : hit (fX10_draw (nI j) σ) (fun r s => r = dr (nI j) (nx x) ∧ LM s (nx x) ∧ (∀ c, ¬ c = 10 → s c = σ c) ∧ ∀ i, KT i → s 10 0 i = σ 10 0 i) := by
  unfold LM at h
  unfold fX10_draw blz
  rw [h, st_eq, if_neg (toI64_ne h0 h1)]
  have e : lJ (wr (wr σ 10 0 132 (lHi (x * 6364136223846793005 + 1442695040888963407))) 10 0 232 (lLo (x * 6364136223846793005 + 1442695040888963407)) 10 0 132) (wr (wr σ 10 0 132 (lHi (x * 6364136223846793005 + 1442695040888963407))) 10 0 232 (lLo (x * 6364136223846793005 + 1442695040888963407)) 10 0 232) = nx x := by
    rw [wr_i (by decide), wr_same, wr_same]
    exact lJ_split _
  rw [e]
  exact hit_some ⟨rfl, e, fun c hc => by rw [wr_c hc, wr_c hc], fun i hi => by rw [wr_i (by unfold KT at hi; omega), wr_i (by unfold KT at hi; omega)]⟩
/-- what the class has set down of the act to come -/
def TA (s σ : rS) (x : Int64) (t : Nat) (a b c d : Int32) : Prop := s 2 0 1 = nI t ∧ s 2 0 2 = a ∧ s 2 0 3 = b ∧ s 2 0 4 = c ∧ s 2 0 5 = d ∧ LC s x ∧ ∀ q, ¬ q = 2 → s q = σ q
theorem c_tellA {σ τ : rS} {x : Int64} (h : LC σ x) (e : ∀ q, ¬ q = 2 → σ q = τ q) (t : Nat) (a b c d : Int32) : hit (bd (fX2_tellAct (nI t) a b c d σ) (fun _ s => some ((0 : Int32), s))) (fun _ s => TA s τ x t a b c d) := by
  unfold fX2_tellAct
  simp only [st_eq, bd_some]
  refine hit_some ⟨?_, ?_, ?_, ?_, ?_, ?_, fun q hq => ?_⟩
  · simp (disch := decide) only [wr_i, wr_same]
  · simp (disch := decide) only [wr_i, wr_same]
  · simp (disch := decide) only [wr_i, wr_same]
  · simp (disch := decide) only [wr_i, wr_same]
  · simp (disch := decide) only [wr_i, wr_same]
  · unfold LC at h ⊢
    simp (disch := decide) only [wr_i]
    exact h
  · rw [wr_c hq, wr_c hq, wr_c hq, wr_c hq, wr_c hq]; exact e q hq
/-- two answers of an act are alike if their used numbers are -/
def alk (t : Nat) (a b c d a' b' c' d' : Int32) : Prop := (t ≤ 3 ∨ t = 6 → a = a') ∧ (t ≤ 2 → b = b') ∧ (t ≤ 2 → c = c') ∧ (t = 0 → d = d')
theorem alk_0 {a b c d : Int32} : alk 0 a b c d a b c d := ⟨fun _ => rfl, fun _ => rfl, fun _ => rfl, fun _ => rfl⟩
theorem alk_1 {a b c d d' : Int32} : alk 1 a b c d a b c d' := ⟨fun _ => rfl, fun _ => rfl, fun _ => rfl, fun h => absurd h (by decide)⟩
theorem alk_2 {a b c d d' : Int32} : alk 2 a b c d a b c d' := ⟨fun _ => rfl, fun _ => rfl, fun _ => rfl, fun h => absurd h (by decide)⟩
theorem alk_3 {a b c d b' c' d' : Int32} : alk 3 a b c d a b' c' d' := ⟨fun _ => rfl, fun h => absurd h (by decide), fun h => absurd h (by decide), fun h => absurd h (by decide)⟩
theorem alk_4 {a b c d a' b' c' d' : Int32} : alk 4 a b c d a' b' c' d' := ⟨fun h => absurd h (by decide), fun h => absurd h (by decide), fun h => absurd h (by decide), fun h => absurd h (by decide)⟩
theorem alk_5 {a b c d a' b' c' d' : Int32} : alk 5 a b c d a' b' c' d' := ⟨fun h => absurd h (by decide), fun h => absurd h (by decide), fun h => absurd h (by decide), fun h => absurd h (by decide)⟩
theorem alk_6 {a b c d b' c' d' : Int32} : alk 6 a b c d a b' c' d' := ⟨fun _ => rfl, fun h => absurd h (by decide), fun h => absurd h (by decide), fun h => absurd h (by decide)⟩
theorem doA_alk {R : Nat → Nat} {A : Hp} {t : Nat} {a b c d a' b' c' d' : Int32} (h : alk t a b c d a' b' c' d') (ht : t ≤ 6) : doA R A t a b c d = doA R A t a' b' c' d' := by
  obtain ⟨h1, h2, h3, h4⟩ := h
  unfold doA
  by_cases t0 : t = 0
  · rw [if_pos t0, if_pos t0, h1 (by omega), h2 (by omega), h3 (by omega), h4 t0]
  · rw [if_neg t0, if_neg t0]
    by_cases t1 : t = 1
    · rw [if_pos t1, if_pos t1, h1 (by omega), h2 (by omega), h3 (by omega)]
    · rw [if_neg t1, if_neg t1]
      by_cases t2 : t = 2
      · rw [if_pos t2, if_pos t2, h1 (by omega), h2 (by omega), h3 (by omega)]
      · rw [if_neg t2, if_neg t2]
        by_cases t3 : t = 3
        · rw [if_pos t3, if_pos t3, h1 (by omega)]
        · rw [if_neg t3, if_neg t3]
          by_cases t6 : t = 6
          · rw [h1 (by omega)]
          · have : ∀ {α : Type} {x y y' : α}, (if t = 6 then y else x) = (if t = 6 then y' else x) := by
              intro α x y y'
              rw [if_neg t6, if_neg t6]
            rw [this]
theorem actV_alk {W : Wd} {t : Nat} {a b c d a' b' c' d' : Int32} (h : alk t a b c d a' b' c' d') (ht : t ≤ 6) : actV W t a b c d = actV W t a' b' c' d' := by
  unfold actV
  rw [doA_alk h ht]
section gen
variable {N : Int64 → Int64} {D : Nat → Int64 → Int32}
theorem yG_le (x : Int64) : (yrG N D x).2.1 ≤ 6 := by
  unfold yrG
  by_cases c9 : D 10 (N x) = nI 9
  · rw [if_pos c9]
    by_cases c2 : D 3 (N (N x)) = nI 2
    · rw [if_pos c2]; exact Nat.le_refl _
    · rw [if_neg c2]
      by_cases c0 : D 3 (N (N x)) = nI 0
      · rw [if_pos c0]; exact (by decide : 4 ≤ 6)
      · rw [if_neg c0]; exact (by decide : 5 ≤ 6)
  · rw [if_neg c9]
    by_cases c8 : D 10 (N x) = nI 8
    · rw [if_pos c8]; exact (by decide : 3 ≤ 6)
    · rw [if_neg c8]
      by_cases c7 : D 10 (N x) = nI 7
      · rw [if_pos c7]; exact (by decide : 2 ≤ 6)
      · rw [if_neg c7]
        by_cases c3 : nI 3 < D 10 (N x)
        · rw [if_pos c3]; exact (by decide : 1 ≤ 6)
        · rw [if_neg c3]; exact (by decide : 0 ≤ 6)
def NC (N : Int64 → Int64) (D : Nat → Int64 → Int32) : Prop := ∀ (σ : rS) (x : Int64) (j : Nat) (q : Int32), q = nI j → LC σ x → 0 < j → j ≤ 1000 → hit (fX2_next q σ) (fun r s => r = D j (N x) ∧ LC s (N x) ∧ ∀ c, ¬ c = 2 → s c = σ c)
theorem c_drawG (hN : NC N D) (hD : DB D) {σ : rS} {x : Int64} (h : LC σ x) : hit (fX2_drawAct σ) (fun _ s => ∃ a b c d, TA s σ (yrG N D x).1 (yrG N D x).2.1 a b c d ∧ alk (yrG N D x).2.1 a b c d (yrG N D x).2.2.1 (yrG N D x).2.2.2.1 (yrG N D x).2.2.2.2.1 (yrG N D x).2.2.2.2.2) := by
  unfold fX2_drawAct yrG
  refine bd_hit (hit_mono (hN _ _ 10 _ rfl h (by omega) (by omega)) ?_)
  rintro r1 s1 ⟨rfl, l1, f1⟩
  obtain ⟨i, hi, e⟩ := hD 10 (N x) (by omega) (by omega)
  rw [e]
  have q3 : ((3 : Int32) < nI i) = (3 < i) := pn_lt (a := 3) (by omega) (by omega)
  have q6 : ((6 : Int32) < nI i) = (6 < i) := pn_lt (a := 6) (by omega) (by omega)
  have q7 : (nI i = (7 : Int32)) = (i = 7) := pn_eq (b := 7) (by omega) (by omega)
  have q8 : (nI i = (8 : Int32)) = (i = 8) := pn_eq (b := 8) (by omega) (by omega)
  have q3' : (nI 3 < nI i) = (3 < i) := pn_lt (by omega) (by omega)
  have q7' : (nI i = nI 7) = (i = 7) := pn_eq (by omega) (by omega)
  have q8' : (nI i = nI 8) = (i = 8) := pn_eq (by omega) (by omega)
  have q9' : (nI i = nI 9) = (i = 9) := pn_eq (by omega) (by omega)
  simp only [q3, q6, q7, q8, q3', q7', q8', q9']
  by_cases i9 : i = 9
  · rw [if_pos (by omega), if_pos (by omega), if_neg (by omega), if_neg (by omega), if_pos i9]
    unfold fX2_drawRareAct
    refine bd_hit (bd_hit (hit_mono (hN _ _ 3 _ rfl l1 (by omega) (by omega)) ?_))
    rintro r2 s2 ⟨rfl, l2, f2⟩
    have f2' : ∀ q, ¬ q = 2 → s2 q = σ q := fun q hq => by rw [f2 q hq, f1 q hq]
    obtain ⟨m, hm, e3⟩ := hD 3 (N (N x)) (by omega) (by omega)
    rw [e3]
    have z2 : (nI m = nI 2) = (m = 2) := pn_eq (by omega) (by omega)
    have z0 : (nI m = nI 0) = (m = 0) := pn_eq (by omega) (by omega)
    have z0' : (nI m = (0 : Int32)) = (m = 0) := pn_eq0 (by omega)
    have z1' : (nI m = (1 : Int32)) = (m = 1) := pn_eq1 (by omega)
    simp only [z2, z0, z0', z1']
    by_cases m2 : m = 2
    · rw [if_neg (by omega), if_neg (by omega), if_pos m2]
      refine bd_hit (hit_mono (hN _ _ 9 _ rfl l2 (by omega) (by omega)) ?_)
      rintro r3 s3 ⟨rfl, l3, f3⟩
      exact hit_mono (c_tellA l3 (fun q hq => by rw [f3 q hq, f2' q hq]) 6 _ (-1) (-1) (-1)) (fun _ s hs => hit_some ⟨_, _, _, _, hs, alk_6⟩)
    · rw [if_neg m2]
      by_cases m0 : m = 0
      · rw [if_pos m0, if_pos m0]
        exact hit_mono (c_tellA l2 f2' 4 (-1) (-1) (-1) (-1)) (fun _ s hs => hit_some ⟨_, _, _, _, hs, alk_4⟩)
      · rw [if_neg m0, if_pos (by omega), if_neg m0]
        exact hit_mono (c_tellA l2 f2' 5 (-1) (-1) (-1) (-1)) (fun _ s hs => hit_some ⟨_, _, _, _, hs, alk_5⟩)
  · by_cases i3 : 3 < i
    · rw [if_pos i3]
      by_cases i6 : 6 < i
      · rw [if_pos i6]
        by_cases i7 : i = 7
        · rw [if_pos i7, if_neg i9, if_neg (by omega), if_pos i7]
          refine bd_hit (hit_mono (hN _ _ 8 _ rfl l1 (by omega) (by omega)) ?_)
          rintro r2 s2 ⟨rfl, l2, f2⟩
          refine bd_hit (hit_mono (hN _ _ 8 _ rfl l2 (by omega) (by omega)) ?_)
          rintro r3 s3 ⟨rfl, l3, f3⟩
          refine bd_hit (hit_mono (hN _ _ 4 _ rfl l3 (by omega) (by omega)) ?_)
          rintro r4 s4 ⟨rfl, l4, f4⟩
          exact hit_mono (c_tellA l4 (fun q hq => by rw [f4 q hq, f3 q hq, f2 q hq, f1 q hq]) 2 _ _ _ (-1)) (fun _ s hs => ⟨_, _, _, _, hs, alk_2⟩)
        · have i8 : i = 8 := by omega
          rw [if_neg i7, if_pos i8, if_neg i9, if_pos i8]
          refine bd_hit (hit_mono (hN _ _ 8 _ rfl l1 (by omega) (by omega)) ?_)
          rintro r2 s2 ⟨rfl, l2, f2⟩
          exact hit_mono (c_tellA l2 (fun q hq => by rw [f2 q hq, f1 q hq]) 3 _ (-1) (-1) (-1)) (fun _ s hs => ⟨_, _, _, _, hs, alk_3⟩)
      · rw [if_neg i6, if_neg i9, if_neg (by omega), if_neg (by omega), if_pos i3]
        refine bd_hit (hit_mono (hN _ _ 8 _ rfl l1 (by omega) (by omega)) ?_)
        rintro r2 s2 ⟨rfl, l2, f2⟩
        refine bd_hit (hit_mono (hN _ _ 4 _ rfl l2 (by omega) (by omega)) ?_)
        rintro r3 s3 ⟨rfl, l3, f3⟩
        refine bd_hit (hit_mono (hN _ _ 9 _ rfl l3 (by omega) (by omega)) ?_)
        rintro r4 s4 ⟨rfl, l4, f4⟩
        exact hit_mono (c_tellA l4 (fun q hq => by rw [f4 q hq, f3 q hq, f2 q hq, f1 q hq]) 1 _ _ _ (-1)) (fun _ s hs => ⟨_, _, _, _, hs, alk_1⟩)
    · rw [if_neg i3, if_neg i9, if_neg (by omega), if_neg (by omega), if_neg i3]
      refine bd_hit (hit_mono (hN _ _ 8 _ rfl l1 (by omega) (by omega)) ?_)
      rintro r2 s2 ⟨rfl, l2, f2⟩
      refine bd_hit (hit_mono (hN _ _ 3 _ rfl l2 (by omega) (by omega)) ?_)
      rintro r3 s3 ⟨rfl, l3, f3⟩
      refine bd_hit (hit_mono (hN _ _ 4 _ rfl l3 (by omega) (by omega)) ?_)
      rintro r4 s4 ⟨rfl, l4, f4⟩
      refine bd_hit (hit_mono (hN _ _ 1000 _ rfl l4 (by omega) (by omega)) ?_)
      rintro r5 s5 ⟨rfl, l5, f5⟩
      exact hit_mono (c_tellA l5 (fun q hq => by rw [f5 q hq, f4 q hq, f3 q hq, f2 q hq, f1 q hq]) 0 _ _ _ _) (fun _ s hs => ⟨_, _, _, _, hs, alk_0⟩)
end gen
