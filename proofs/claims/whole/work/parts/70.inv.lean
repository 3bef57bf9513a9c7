/-! the world of both programs as a value, and what is kept -/
abbrev Lg : Type := List (Int32 × Int32 × Int32)
abbrev Sta : Type := Hp × Lg
/-- the class's State k shows S -/
def CS (σ : rS) (k : Nat) (S : Sta) : Prop := CR σ k S.1 ∧ Ln σ (6 * k + 3) (S.2.map (fun q => q.1)) ∧ Ln σ (6 * k + 4) (S.2.map (fun q => q.2.1)) ∧ Ln σ (6 * k + 5) (S.2.map (fun q => q.2.2))
/-- the model's row m shows S -/
def MS (m : Nat → Int32) (S : Sta) : Prop := MR m S.1 ∧ m 1373 = nI S.2.length ∧ ∀ i, i < S.2.length → m (1374 + 3 * i) = (S.2.getD i (0, 0, 0)).1 ∧ m (1375 + 3 * i) = (S.2.getD i (0, 0, 0)).2.1 ∧ m (1376 + 3 * i) = (S.2.getD i (0, 0, 0)).2.2
/-- a heap as the acts leave it; b: numbers don't go beyond -/
def InvO (A : Hp) (i : Nat) : Prop := (hkd A i = 0 ∨ hkd A i = 1 ∨ hkd A i = 2) ∧ (hkd A i = 1 → 1 ≤ hsz A i) ∧ (hsp A i = 2 → hpl A i + (3 + hsz A i) ≤ usedA A 2) ∧ ∀ j, j < hn A → ¬ i = j → hsp A i = 2 → hsp A j = 2 → hpl A i + (3 + hsz A i) ≤ hpl A j ∨ hpl A j + (3 + hsz A j) ≤ hpl A i
def Inv (R : Nat → Nat) (b : Nat) (A : Hp) : Prop := OK A ∧ (∀ s, s < 3 → usedA A s ≤ R s) ∧ (∃ m, m ≤ b ∧ htl A 0 = nI m ∧ ∀ i, i < hn A → hnum A i ≤ m) ∧ (∀ i, i < hn A → InvO A i) ∧ ((hen A).Nodup ∧ ∀ j ∈ hen A, hkd A j = 2) ∧ ((hrm A).Nodup ∧ ∀ i f, i < hn A → f < hsz A i → ((i, f) ∈ hrm A ↔ hsp A i = 2 ∧ ∃ j, hlk A i f = some j ∧ ¬ hsp A j = 2)) ∧ (hlo A).length ≤ 40 ∧ ∀ x ∈ hlo A, x < 2147483648
theorem Inv.ok {R : Nat → Nat} {b : Nat} {A : Hp} (h : Inv R b A) : OK A := h.1
theorem Inv.us {R : Nat → Nat} {b : Nat} {A : Hp} (h : Inv R b A) {s : Nat} (hs : s < 3) : usedA A s ≤ R s := h.2.1 s hs
theorem Inv.mono {R : Nat → Nat} {b b' : Nat} {A : Hp} (h : Inv R b A) (hb : b ≤ b') : Inv R b' A := ⟨h.1, h.2.1, by obtain ⟨m, h1, h2⟩ := h.2.2.1; exact ⟨m, by omega, h2⟩, h.2.2.2⟩
theorem Inv.en {R : Nat → Nat} {b : Nat} {A : Hp} (h : Inv R b A) : (hen A).length ≤ 78 := by
  have := nodup_le h.2.2.2.2.1.1 (fun j hj => h.1.en hj)
  have := h.1.n
  omega
abbrev Wd : Type := Sta × Sta × List Sta × (Nat → Nat) × Bool × Bool × List Nat × List (Nat × (Nat → Int32)) × (Nat → Int32)
def wS (W : Wd) : Sta := W.1
def wI (W : Wd) : Sta := W.2.1
def wP (W : Wd) : List Sta := W.2.2.1
def wR (W : Wd) : Nat → Nat := W.2.2.2.1
def wh (W : Wd) : Bool := W.2.2.2.2.1
def wg (W : Wd) : Bool := W.2.2.2.2.2.1
def wT (W : Wd) : List Nat := W.2.2.2.2.2.2.1
def wC (W : Wd) : List (Nat × (Nat → Int32)) := W.2.2.2.2.2.2.2.1
def wZ (W : Wd) : Nat → Int32 := W.2.2.2.2.2.2.2.2
def bI (b : Bool) : Int32 := if b then 1 else 0
def emA : Hp := (0, fun _ _ => 0, fun _ _ => 0, fun _ _ => none, fun _ => none, [], [], [], fun _ => 0, 0)
def emS : Sta := (emA, [])
def noC : Nat × (Nat → Int32) := (0, fun _ => 0)
def CPast (σ : rS) (P : List Sta) : Prop := ∃ nx, nx < 41 ∧ σ 5 0 1 = nI nx ∧ σ 5 0 2 = nI P.length ∧ ∀ i, i < P.length → ¬ σ 29 0 ((nx + 41 - P.length + i) % 41) = 0 ∧ CS σ (4 + (nx + 41 - P.length + i) % 41) (P.getD i emS)
def CW (σ : rS) (W : Wd) : Prop := CS σ 0 (wS W) ∧ (wg W = true → CS σ 1 (wI W)) ∧ CPast σ (wP W) ∧ (∀ i, i < 4 → σ 20 0 i = nI (wR W i)) ∧ σ 9 0 6 = bI (wh W) ∧ σ 9 0 7 = bI (wg W) ∧ (σ 8 0 1 = nI (wT W).length ∧ ∀ i, i < (wT W).length → σ 25 0 i = nI ((wT W).getD i 0)) ∧ (σ 9 0 4 = nI (wC W).length ∧ ∀ s, s < (wC W).length → σ 21 0 s = nI ((wC W).getD s noC).1 ∧ ∀ i, i < 5 * ((wC W).getD s noC).1 → σ 24 s i = ((wC W).getD s noC).2 i) ∧ ∀ i, i < 4 → σ 22 0 i = wZ W i
def MPast (σ : rS) (P : List Sta) : Prop := ∃ fi, fi < 40 ∧ σ 10 0 17 = nI fi ∧ σ 10 0 18 = nI P.length ∧ ∀ i, i < P.length → MS (fun x => σ 67 0 (1554 * ((fi + i) % 40) + x)) (P.getD i emS)
def MW (σ : rS) (W : Wd) : Prop := MS (σ 66 0) (wS W) ∧ (wg W = true → MS (σ 66 3) (wI W)) ∧ MPast σ (wP W) ∧ (∀ i, i < 4 → σ 62 0 i = nI (wR W i)) ∧ σ 10 0 11 = bI (wh W) ∧ σ 10 0 19 = bI (wg W) ∧ (σ 10 0 2 = nI (wT W).length ∧ ∀ i, i < (wT W).length → σ 60 0 i &&& 255 = nI ((wT W).getD i 0)) ∧ (σ 10 0 10 = nI (wC W).length ∧ ∀ s, s < (wC W).length → σ 65 0 s = nI ((wC W).getD s noC).1 ∧ ∀ i, i < 5 * ((wC W).getD s noC).1 → σ 64 0 (80 * s + i) = ((wC W).getD s noC).2 i) ∧ ∀ i, i < 4 → σ 63 0 i = wZ W i
def InvC (q : Nat × (Nat → Int32)) : Prop := 1 ≤ q.1 ∧ q.1 ≤ 16 ∧ ∀ i, i < q.1 → ∃ t, t ≤ 6 ∧ q.2 (5 * i) = nI t
def InvW (b : Nat) (W : Wd) : Prop := (Inv (wR W) b (wS W).1 ∧ (wS W).2.length ≤ 60) ∧ (wg W = true → Inv (wR W) b (wI W).1 ∧ (wI W).2.length ≤ 60) ∧ ((wP W).length ≤ 40 ∧ ∀ S ∈ wP W, Inv (wR W) b S.1 ∧ S.2.length ≤ 60) ∧ (wR W 0 ≤ 64 ∧ wR W 1 ≤ 32 ∧ wR W 2 ≤ 128 ∧ wR W 3 ≤ 5 ∧ (wh W = true → 8 ≤ wR W 0)) ∧ (wg W = true → wh W = true) ∧ ((wT W).length ≤ 240 ∧ ∀ x ∈ wT W, 1 ≤ x ∧ x ≤ 255) ∧ ((wC W).length ≤ 4 ∧ ∀ q ∈ wC W, InvC q)
def IW (n : Nat) (σ : rS) : Prop := ∃ W, CW σ W ∧ MW σ W ∧ InvW (40 * n) W
def isC (c : Nat) : Prop := ¬ c = 10 ∧ c < 60
def isM (c : Nat) : Prop := c = 10 ∨ 60 ≤ c
theorem Ln.frame {σ s : rS} {j : Nat} {xs : List Int32} (h : Ln σ j xs) (e4 : s 4 j = σ 4 j) (e28 : s 28 j = σ 28 j) : Ln s j xs := by
  unfold Ln at h ⊢
  rw [e4, e28]
  exact h
theorem CS.of_eq {σ s : rS} {k : Nat} {S : Sta} (h : CS σ k S) (e7 : s 7 k = σ 7 k) (ec : ∀ c, 45 ≤ c → c < 56 → s c k = σ c k) (e4 : ∀ j, j < 6 → s 4 (6 * k + j) = σ 4 (6 * k + j) ∧ s 28 (6 * k + j) = σ 28 (6 * k + j)) : CS s k S :=
  ⟨h.1.of_eq e7 ec (fun j hj => e4 j (by omega)), h.2.1.frame (e4 3 (by omega)).1 (e4 3 (by omega)).2, h.2.2.1.frame (e4 4 (by omega)).1 (e4 4 (by omega)).2, h.2.2.2.frame (e4 5 (by omega)).1 (e4 5 (by omega)).2⟩
theorem CW.of_eq {σ s : rS} {W : Wd} (h : CW σ W) (e : ∀ c, isC c → s c = σ c) : CW s W := by
  have eS : ∀ (k : Nat) (S : Sta), CS σ k S → CS s k S := fun k S hS => hS.of_eq (by rw [e 7 (by unfold isC; omega)]) (fun c h1 h2 => by rw [e c (by unfold isC; omega)]) (fun j _ => by rw [e 4 (by unfold isC; omega), e 28 (by unfold isC; omega)]; exact ⟨rfl, rfl⟩)
  obtain ⟨h1, h2, ⟨nx, h3⟩, h4⟩ := h
  refine ⟨eS _ _ h1, fun g => eS _ _ (h2 g), ⟨nx, ?_⟩, ?_⟩
  · rw [e 5 (by unfold isC; omega), e 29 (by unfold isC; omega)]
    exact ⟨h3.1, h3.2.1, h3.2.2.1, fun i hi => ⟨(h3.2.2.2 i hi).1, eS _ _ (h3.2.2.2 i hi).2⟩⟩
  · rw [e 20 (by unfold isC; omega), e 9 (by unfold isC; omega), e 8 (by unfold isC; omega), e 25 (by unfold isC; omega), e 21 (by unfold isC; omega), e 24 (by unfold isC; omega), e 22 (by unfold isC; omega)]
    exact h4
theorem MW.of_eq {σ s : rS} {W : Wd} (h : MW σ W) (e : ∀ c, isM c → ¬ c = 10 → ¬ c = 66 → ¬ (67 < c) → ¬ c = 61 → s c = σ c) (e0 : s 66 0 = σ 66 0) (e3 : s 66 3 = σ 66 3) (e10 : ∀ i, KT i → s 10 0 i = σ 10 0 i) : MW s W := by
  unfold MW MPast at h ⊢
  rw [e0, e3, e 67 (Or.inr (by omega)) (by omega) (by omega) (by omega) (by omega), e 62 (Or.inr (by omega)) (by omega) (by omega) (by omega) (by omega), e 60 (Or.inr (by omega)) (by omega) (by omega) (by omega) (by omega), e 65 (Or.inr (by omega)) (by omega) (by omega) (by omega) (by omega), e 64 (Or.inr (by omega)) (by omega) (by omega) (by omega) (by omega), e 63 (Or.inr (by omega)) (by omega) (by omega) (by omega) (by omega), e10 17 (by unfold KT; omega), e10 18 (by unfold KT; omega), e10 11 (by unfold KT; omega), e10 19 (by unfold KT; omega), e10 2 (by unfold KT; omega), e10 10 (by unfold KT; omega)]
  exact h
theorem MW.of_eq' {σ s : rS} {W : Wd} (h : MW σ W) (e : ∀ c, isM c → s c = σ c) : MW s W := h.of_eq (fun c hc _ _ _ _ => e c hc) (by rw [e 66 (Or.inr (by omega))]) (by rw [e 66 (Or.inr (by omega))]) (fun i _ => by rw [e 10 (Or.inl rfl)])
/-- thrown is set to 0 -/
theorem MW.t0 {σ : rS} {W : Wd} (h : MW σ W) (v : Int32) : MW (wr σ 10 0 0 v) W := h.of_eq (fun c _ h10 _ _ _ => wr_c h10) (by rw [wr_c (by decide)]) (by rw [wr_c (by decide)]) (fun i hi => wr_i (by unfold KT at hi; omega))
theorem pl_mk {fc fm : rS → Option (Int32 × rS)} {Wc Wm : List Nat} {σ : rS} {W W' : Wd} {a : Int32} {n : Nat} (hM : MW σ W) (hc : hit (fc σ) (fun r s => r = a ∧ CW s W')) (frc : FR Wc σ (fc σ)) (hWc : ∀ c ∈ Wc, isC c) (hm : ∀ s, MW s W → hit (fm s) (fun r t => r = a ∧ MW t W')) (frm : ∀ s, FR Wm s (fm s)) (hWm : ∀ c ∈ Wm, isM c) (hI : InvW (40 * (n + 1)) W') : ∃ r σ1 σ2, fc σ = some (r, σ1) ∧ fm σ1 = some (r, σ2) ∧ IW (n + 1) σ2 := by
  obtain ⟨r, σ1, e1, rfl, hC1⟩ := hit_iff.mp hc
  have hM1 : MW σ1 W := hM.of_eq' (fun c h => frc r σ1 e1 c (fun hin => by
    have h1 := hWc c hin
    unfold isC at h1
    unfold isM at h
    omega))
  obtain ⟨r2, σ2, e2, rfl, hM2⟩ := hit_iff.mp (hm σ1 hM1)
  refine ⟨r2, σ1, σ2, e1, e2, W', hC1.of_eq (fun c h => frm σ1 r2 σ2 e2 c (fun hin => by
    have h1 := hWm c hin
    unfold isM at h1
    unfold isC at h
    omega)), hM2, hI⟩
theorem InvW.mono {b b' : Nat} {W : Wd} (h : InvW b W) (hb : b ≤ b') : InvW b' W := ⟨⟨h.1.1.mono hb, h.1.2⟩, fun g => ⟨(h.2.1 g).1.mono hb, (h.2.1 g).2⟩, ⟨h.2.2.1.1, fun S hS => ⟨(h.2.2.1.2 S hS).1.mono hb, (h.2.2.1.2 S hS).2⟩⟩, h.2.2.2⟩
theorem InvW.next {n : Nat} {W : Wd} (h : InvW (40 * n) W) : InvW (40 * (n + 1)) W := h.mono (by omega)
theorem bI_0 (b : Bool) : (bI b = 0) = (b = false) := by cases b <;> decide
theorem lt64 (x y : Int32) : x.toInt64 < y.toInt64 ↔ x < y := by
  rw [Int64.lt_iff_toInt_lt, Int32.lt_iff_toInt_lt, Int32.toInt_toInt64, Int32.toInt_toInt64]
theorem e_isIn (x a b : Int32) (σ : rS) : fX10_isIn x.toInt64 a.toInt64 b.toInt64 σ = some (if x < a then 0 else if b < x then 0 else 1, σ) := by
  have h1 : lg_cmp x.toInt64 a.toInt64 < 0 ↔ x < a := by
    unfold lg_cmp
    by_cases g : x.toInt64 > a.toInt64
    · rw [if_pos g]
      have := (lt64 a x).mp g
      constructor
      · intro h; exact absurd h (by decide)
      · intro h; exact absurd (Int32.lt_trans h this) (Int32.lt_irrefl)
    · rw [if_neg g]
      by_cases g2 : x.toInt64 = a.toInt64
      · rw [if_pos g2]
        constructor
        · intro h; exact absurd h (by decide)
        · intro h; rw [← lt64, g2] at h; exact absurd h (Int64.lt_irrefl)
      · rw [if_neg g2]
        constructor
        · intro _; rw [← lt64]; exact Int64.lt_of_le_of_ne (Int64.not_lt.mp g) g2
        · intro _; decide
  have h2 : 0 < lg_cmp x.toInt64 b.toInt64 ↔ b < x := by
    unfold lg_cmp
    by_cases g : x.toInt64 > b.toInt64
    · rw [if_pos g]
      exact ⟨fun _ => (lt64 b x).mp g, fun _ => by decide⟩
    · rw [if_neg g]
      constructor
      · intro h; split at h <;> exact absurd h (by decide)
      · intro h; exact absurd ((lt64 b x).mpr h) g
  unfold fX10_isIn
  simp only [h1, h2]
  split
  · rfl
  · split <;> rfl
