/-! the texts' letters, and what the readings give as values -/
def ltr (s : Nat) (x : Int32) : Option Nat := fst1 (fun j => decide (bytS s j = x)) (lenS s) 0
theorem lt_i8 : ∀ b, b < 256 → (b < 128 → (nI b).toInt8.toInt32 = nI b) ∧ (128 ≤ b → (nI b).toInt8.toInt32 < 0) := by
  set_option maxRecDepth 20000 in decide
theorem lt_u : ∀ b, b < 256 → ((nI b).toUInt32 % 65536).toInt32 = nI b := by
  set_option maxRecDepth 20000 in decide
theorem lt_by : ∀ s, s < 2 → ∀ j, j < lenS s → bytS s j = nI (bytS s j).toNatClampNeg ∧ 1 ≤ (bytS s j).toNatClampNeg ∧ (bytS s j).toNatClampNeg < 128 ∧ (((bytS s j) &&& 255).toUInt32 % 65536).toInt32 = bytS s j ∧ ((bytS s j).toUInt32 % 65536).toInt32 = bytS s j := by decide
theorem lt_len {s : Nat} (hs : s < 2) : 4 ≤ lenS s ∧ lenS s ≤ 7 := by
  rcases (by omega : s = 0 ∨ s = 1) with rfl | rfl <;> decide
theorem lt_lat (s : Nat) (σ : rS) : fJ0_isLatin1_aae02 s σ = some (1, σ) := by
  unfold fJ0_isLatin1_aae02
  rw [if_neg (by decide), if_pos rfl]
theorem lt_length {s : Nat} {σ : rS} (hs : s < 2) : fJ0_length_8abf5 s σ = some (nI (lenS s), σ) := by
  have e : fJ0_coder_7d493 s σ = some (0, σ) := by
    unfold fJ0_coder_7d493
    rw [if_neg (by decide)]
  unfold fJ0_length_8abf5
  rw [e, bd_some]
  rcases (by omega : s = 0 ∨ s = 1) with rfl | rfl
  · rw [show nI (lenS 0) >>> ((0 : Int32) &&& 31) = nI (lenS 0) by decide]
  · rw [show nI (lenS 1) >>> ((0 : Int32) &&& 31) = nI (lenS 1) by decide]
theorem c_letter {s b : Nat} {σ : rS} (hs : s < 2) (hb : b < 256) : fJ0_indexOf_0f7a4 s (((nI b).toUInt32 % 65536).toInt32) σ = some (enc (ltr s (nI b)), σ) := by
  have hl := lt_len hs
  have key : ∀ j, j < lenS s → (bytS s j = (nI b).toInt8.toInt32) = (bytS s j = nI b) := fun j hj => by
    obtain ⟨e, -, h2, -⟩ := lt_by s hs j hj
    generalize (bytS s j).toNatClampNeg = v at e h2
    obtain ⟨i1, i2⟩ := lt_i8 b hb
    rw [e]
    by_cases c : b < 128
    · rw [i1 c]
    · refine propext ⟨fun z => ?_, fun z => ?_⟩
      · have := i2 (by omega)
        rw [← z, pn_neg (by omega)] at this
        exact this.elim
      · rw [pn_eq (by omega) (by omega)] at z
        omega
  have hF : fJ1_indexOfChar_4cfef s (nI b) 0 (nI (lenS s)) σ = some (enc (ltr s (nI b)), σ) := by
    unfold fJ1_indexOfChar_4cfef
    rw [rd_eq]
    have hb' : ∀ j, j < lenS s → ∀ x : Option ((Int32 ⊕ (Int32 ⊕ Unit)) × rS), bnd (nI j) (lenS s) x = x := fun j hj x => pn_bnd hj (by omega)
    have e := lp_find (step := fun (x : Int32) σ => fJ1_indexOfChar_4cfef_L7 s (nI (lenS s)) (nI b).toInt8.toInt32 x σ) (p := fun j => decide (bytS s j = nI b)) (n := lenS s) (σ := σ) (by omega) (fun j hj hp => by
        unfold fJ1_indexOfChar_4cfef_L7
        rw [if_pos (show nI j < nI (lenS s) by rw [pn_lt (by omega) (by omega)]; exact hj), hb' j hj, ix_nI (by omega), if_pos (show bytS s j = (nI b).toInt8.toInt32 by rw [key j hj]; exact of_decide_eq_true hp)]) (fun j hj hp => by
        unfold fJ1_indexOfChar_4cfef_L7
        rw [if_pos (show nI j < nI (lenS s) by rw [pn_lt (by omega) (by omega)]; exact hj), hb' j hj, ix_nI (by omega), if_neg (show ¬ bytS s j = (nI b).toInt8.toInt32 by rw [key j hj]; exact of_decide_eq_false hp), pn_add1]) (by
        unfold fJ1_indexOfChar_4cfef_L7
        rw [if_neg (show ¬ nI (lenS s) < nI (lenS s) by rw [pn_lt (by omega) (by omega)]; omega)]) fu 0 (by omega) (by have := fu_ge; omega)
    rw [show (0 : Int32) = nI 0 from rfl, e, bd_some, Nat.sub_zero]
    unfold ltr
    generalize fst1 _ _ _ = o
    cases o <;> rfl
  have hI : fJ1_indexOf_4cfef s (nI b) 0 (nI (lenS s)) σ = some (enc (ltr s (nI b)), σ) := by
    have e1 : fJ1_canEncode_9a6ad (nI b) σ = some (1, σ) := by
      unfold fJ1_canEncode_9a6ad
      rw [if_neg (show ¬ nI b < 0 by rw [pn_neg (by omega)]; exact id), if_neg (show ¬ (255 : Int32) < nI b by rw [show (255 : Int32) = nI 255 from rfl, pn_lt (by omega) (by omega)]; omega)]
    unfold fJ1_indexOf_4cfef
    rw [e1, bd_some, if_neg (show ¬ (1 : Int32) = 0 by decide), rd_eq, rd_eq, if_neg (show ¬ (0 : Int32) < 0 by decide), if_neg (show ¬ nI (lenS s) < nI (lenS s) by rw [pn_lt (by omega) (by omega)]; omega), if_pos (show (0 : Int32) < nI (lenS s) by rw [show (0 : Int32) = nI 0 from rfl, pn_lt (by omega) (by omega)]; omega), hF, bd_some]
  unfold fJ0_indexOf_0f7a4 fJ0_indexOf_7cf53
  rw [lt_u b hb, lt_lat, bd_some, if_neg (show ¬ (1 : Int32) = 0 by decide), lt_length hs, bd_some, hI, bd_some, bd_some]
theorem m_letter {s : Nat} {x : Int32} {σ : rS} (hs : s < 2) : fX10_spotOf s x σ = some (enc (ltr s x), σ) := by
  have hl := lt_len hs
  have hch : ∀ j, j < lenS s → fJ0_charAt_5068e s (nI j) σ = some (bytS s j, σ) := fun j hj => by
    obtain ⟨-, -, -, e1, e2⟩ := lt_by s hs j hj
    have c1 : fJ0_checkIndex_df160 (nI j) (nI (lenS s)) σ = some (0, σ) := by
      unfold fJ0_checkIndex_df160 fJ3_checkIndex_8e157
      rw [if_neg (show ¬ nI j < 0 by rw [pn_neg (by omega)]; exact id), if_pos (show nI j < nI (lenS s) by rw [pn_lt (by omega) (by omega)]; exact hj), bd_some]
    have c2 : fJ1_charAt_3b067 s (nI j) σ = some (bytS s j, σ) := by
      unfold fJ1_charAt_3b067
      rw [c1, bd_some, pn_bnd hj (by omega), ix_nI (by omega), e1]
    unfold fJ0_charAt_5068e
    rw [lt_lat, bd_some, if_neg (show ¬ (1 : Int32) = 0 by decide), c2, bd_some]
    unfold bch
    rw [if_pos e2]
  unfold fX10_spotOf
  have e := lp_find (step := fun (y : Int32) σ => fX10_spotOf_L2 s x y σ) (p := fun j => decide (bytS s j = x)) (n := lenS s) (σ := σ) (by omega) (fun j hj hp => by
        unfold fX10_spotOf_L2
        rw [lt_length hs, bd_some, if_pos (show nI j < nI (lenS s) by rw [pn_lt (by omega) (by omega)]; exact hj), hch j hj, bd_some, if_pos (of_decide_eq_true hp)]) (fun j hj hp => by
        unfold fX10_spotOf_L2
        rw [lt_length hs, bd_some, if_pos (show nI j < nI (lenS s) by rw [pn_lt (by omega) (by omega)]; exact hj), hch j hj, bd_some, if_neg (of_decide_eq_false hp), pn_add1]) (by
        unfold fX10_spotOf_L2
        rw [lt_length hs, bd_some, if_neg (show ¬ nI (lenS s) < nI (lenS s) by rw [pn_lt (by omega) (by omega)]; omega)]) fu 0 (by omega) (by have := fu_ge; omega)
  rw [show (0 : Int32) = nI 0 from rfl, e, bd_some, Nat.sub_zero]
  unfold ltr
  generalize fst1 _ _ _ = o
  cases o <;> rfl
def ltA (s : Nat) (T : List Nat) (q : Nat) : Option Nat := ltr s (nI (btC T q))
theorem ltr_M {s : Nat} {T : List Nat} {q : Nat} (hs : s < 2) : ltr s (btM T q) = ltA s T q := by
  unfold ltA btM btC
  by_cases c : q < T.length
  · rw [if_pos c, if_pos c]
  · rw [if_neg c, if_neg c]
    rcases (by omega : s = 0 ∨ s = 1) with rfl | rfl <;> decide
theorem ltA_lt {s i : Nat} {T : List Nat} {q : Nat} (h : ltA s T q = some i) : i < lenS s := by
  have := (fst1_some h).2.1
  omega
theorem ltA_end {s : Nat} {T : List Nat} {q : Nat} (hs : s < 2) (h : btC T q = 0) : ltA s T q = none := by
  unfold ltA
  rw [h]
  rcases (by omega : s = 0 ∨ s = 1) with rfl | rfl <;> decide
theorem btC_0 {T : List Nat} (h : ∀ x ∈ T, 1 ≤ x ∧ x ≤ 255) {q : Nat} : btC T q = 0 ↔ T.length ≤ q := by
  unfold btC
  by_cases c : q < T.length
  · have := getD_255 h c
    rw [if_pos c]
    exact ⟨fun z => by omega, fun z => by omega⟩
  · rw [if_neg c]
    exact ⟨fun _ => by omega, fun _ => rfl⟩
theorem btM_0 {T : List Nat} (h : ∀ x ∈ T, 1 ≤ x ∧ x ≤ 255) {q : Nat} : (btM T q = -1) = (btC T q = 0) := by
  unfold btM btC
  by_cases c : q < T.length
  · have := getD_255 h c
    rw [if_pos c, if_pos c, pn_m1 (by omega)]
    exact propext ⟨fun z => z.elim, fun z => by omega⟩
  · rw [if_neg c, if_neg c]
    exact propext ⟨fun _ => rfl, fun _ => rfl⟩
theorem btM_c {T : List Nat} (h : ∀ x ∈ T, 1 ≤ x ∧ x ≤ 255) {q c : Nat} (h1 : 1 ≤ c) (h2 : c ≤ 255) : (btM T q = nI c) = (btC T q = c) := by
  unfold btM btC
  by_cases d : q < T.length
  · have := getD_255 h d
    rw [if_pos d, if_pos d, pn_eq (by omega) (by omega)]
  · rw [if_neg d, if_neg d, pn_m1' (by omega)]
    exact propext ⟨fun z => z.elim, fun z => by omega⟩
theorem skN_stop {T : List Nat} : ∀ (n p : Nat), T.length - p ≤ n → ¬ (skN T n p < T.length ∧ T.getD (skN T n p) 0 = 32)
  | 0, p, h => fun z => by
    have : p < T.length := z.1
    omega
  | n + 1, p, h => by
    unfold skN
    by_cases c : p < T.length ∧ T.getD p 0 = 32
    · rw [if_pos c]
      exact skN_stop (T := T) n (p + 1) (by omega)
    · rw [if_neg c]; exact c
theorem sk_idem {T : List Nat} {p : Nat} : sk T (sk T p) = sk T p := sk_stop (skN_stop _ _ (Nat.le_refl _))
theorem nmN_ok {T : List Nat} : ∀ (n q v : Nat), q ≤ (nmN T n q v).1 ∧ (q ≤ T.length → (nmN T n q v).1 ≤ T.length) ∧ (nmN T n q v).2 < (v + 1) * 10 ^ n
  | 0, q, v => ⟨Nat.le_refl _, fun h => h, by show v < (v + 1) * 1; omega⟩
  | n + 1, q, v => by
    unfold nmN
    by_cases d : dg T q = true
    · have hd := of_decide_eq_true d
      have dl := dg_lt d
      obtain ⟨a, b, c⟩ := nmN_ok (T := T) n (q + 1) (v * 10 + btC T q - 48)
      rw [if_pos d]
      refine ⟨by omega, fun _ => b (by omega), Nat.lt_of_lt_of_le c ?_⟩
      rw [Nat.pow_succ, Nat.mul_comm (10 ^ n) 10, ← Nat.mul_assoc]
      exact Nat.mul_le_mul_right _ (by omega)
    · rw [if_neg d]
      refine ⟨Nat.le_refl _, fun h => h, ?_⟩
      have : 1 ≤ 10 ^ (n + 1) := Nat.one_le_pow _ _ (by decide)
      have := Nat.mul_le_mul_left (v + 1) this
      show v < (v + 1) * 10 ^ (n + 1)
      omega
theorem numV_nu {T : List Nat} {lo hi p : Nat} : numV T lo hi p = match nuM T p with
    | .inl f => .inl f
    | .inr q => if q.1 < lo ∨ hi < q.1 then .inl (q.2 - 1) else .inr q := by
  unfold numV nuM
  by_cases a : (nmN T 3 (sk T p) 0).1 = sk T p
  · rw [if_pos a, if_pos a]
  · rw [if_neg a, if_neg a]
    by_cases b : dg T (nmN T 3 (sk T p) 0).1 = true
    · rw [if_pos b, if_pos b]
    · rw [if_neg b, if_neg b]
theorem nuM_l {T : List Nat} {p f : Nat} (hp : p ≤ T.length) (h : nuM T p = .inl f) : f ≤ T.length := by
  have h1 := sk_le hp
  have h2 := (nmN_ok (T := T) 3 (sk T p) 0).2.1 h1.2
  unfold nuM at h
  by_cases a : (nmN T 3 (sk T p) 0).1 = sk T p
  · rw [if_pos a] at h; cases h; exact h1.2
  · rw [if_neg a] at h
    by_cases b : dg T (nmN T 3 (sk T p) 0).1 = true
    · rw [if_pos b] at h; cases h; exact h2
    · rw [if_neg b] at h; cases h
theorem nuM_r {T : List Nat} {p : Nat} {q : Nat × Nat} (hp : p ≤ T.length) (h : nuM T p = .inr q) : q.1 < 1000 ∧ p < q.2 ∧ q.2 ≤ T.length := by
  have h1 := sk_le hp
  obtain ⟨h0, h2, h3⟩ := nmN_ok (T := T) 3 (sk T p) 0
  have h2 := h2 h1.2
  unfold nuM at h
  by_cases a : (nmN T 3 (sk T p) 0).1 = sk T p
  · rw [if_pos a] at h; cases h
  · rw [if_neg a] at h
    by_cases b : dg T (nmN T 3 (sk T p) 0).1 = true
    · rw [if_pos b] at h; cases h
    · rw [if_neg b] at h
      cases h
      exact ⟨Nat.lt_of_lt_of_le h3 (by decide), show p < (nmN T 3 (sk T p) 0).1 by omega, h2⟩
theorem numV_l {T : List Nat} {lo hi p f : Nat} (hp : p ≤ T.length) (h : numV T lo hi p = .inl f) : f ≤ T.length := by
  rw [numV_nu] at h
  cases e : nuM T p with
  | inl g => rw [e] at h; cases h; exact nuM_l hp e
  | inr q =>
    rw [e] at h
    have := nuM_r hp e
    by_cases c : q.1 < lo ∨ hi < q.1
    · have h : (if q.1 < lo ∨ hi < q.1 then (.inl (q.2 - 1) : Nat ⊕ (Nat × Nat)) else .inr q) = .inl f := h
      rw [if_pos c] at h; cases h; omega
    · have h : (if q.1 < lo ∨ hi < q.1 then (.inl (q.2 - 1) : Nat ⊕ (Nat × Nat)) else .inr q) = .inl f := h
      rw [if_neg c] at h; cases h
theorem numV_r {T : List Nat} {lo hi p : Nat} {q : Nat × Nat} (hp : p ≤ T.length) (h : numV T lo hi p = .inr q) : lo ≤ q.1 ∧ q.1 ≤ hi ∧ q.2 ≤ T.length := by
  rw [numV_nu] at h
  cases e : nuM T p with
  | inl g => rw [e] at h; cases h
  | inr q' =>
    rw [e] at h
    have := nuM_r hp e
    by_cases c : q'.1 < lo ∨ hi < q'.1
    · have h : (if q'.1 < lo ∨ hi < q'.1 then (.inl (q'.2 - 1) : Nat ⊕ (Nat × Nat)) else .inr q') = .inr q := h
      rw [if_pos c] at h; cases h
    · have h : (if q'.1 < lo ∨ hi < q'.1 then (.inl (q'.2 - 1) : Nat ⊕ (Nat × Nat)) else .inr q') = .inr q := h
      rw [if_neg c] at h; cases h
      omega
theorem numV_999 {T : List Nat} {p : Nat} (hp : p ≤ T.length) : numV T 0 999 p = nuM T p := by
  rw [numV_nu]
  cases e : nuM T p with
  | inl g => rfl
  | inr q =>
    have := nuM_r hp e
    show (if q.1 < 0 ∨ 999 < q.1 then (.inl (q.2 - 1) : Nat ⊕ (Nat × Nat)) else .inr q) = .inr q
    rw [if_neg (by omega)]
/-! a heap's text as a value -/
def hlw (i : Nat) : Nat := if i = 0 then 8 else if i = 1 then 4 else if i = 2 then 16 else 1
def hhi (i : Nat) : Nat := if i = 0 then 64 else if i = 1 then 32 else if i = 2 then 128 else 5
def hR0 (i : Nat) : Nat := if i = 0 then 24 else if i = 1 then 8 else if i = 2 then 48 else 2
def pcn (m : Nat) : Nat := m % 2 + m / 2 % 2 + m / 4 % 2 + m / 8 % 2
def updN (R : Nat → Nat) (i v : Nat) : Nat → Nat := fun j => if j = i then v else R j
theorem hl_1000 (i : Nat) : hlw i ≤ 1000 ∧ hhi i ≤ 1000 := by
  unfold hlw hhi
  refine ⟨?_, ?_⟩
  · split
    · omega
    · split
      · omega
      · split <;> omega
  · split
    · omega
    · split
      · omega
      · split <;> omega
theorem hl_item : ∀ i, i < 4 → sItem 0 i = nI (hlw i) ∧ sItem 1 i = nI (hhi i) ∧ sItem 2 i = nI (hR0 i) ∧ hlw i ≤ hR0 i ∧ hR0 i ≤ hhi i := by decide
theorem bits1 : ∀ m, m < 16 → ∀ i, i < 4 → ((nI m >>> (nI i &&& 31)) &&& 1) = (if m.testBit i = true then 1 else 0) := by decide
theorem bits2 : ∀ m, m < 16 → ∀ i, i < 4 → (nI m ||| ((1 : Int32) <<< (nI i &&& 31))) = nI (m ||| 1 <<< i) := by decide
theorem bits3 : ∀ m, m < 16 → ∀ i, i < 4 → m.testBit i = false → (m ||| 1 <<< i) < 16 ∧ pcn (m ||| 1 <<< i) = pcn m + 1 := by decide
theorem bits4 : ∀ m, m < 16 → pcn m ≤ 4 := by decide
def hpN (T : List Nat) : Nat → Nat → (Nat → Nat) → Nat → Nat ⊕ (Nat → Nat)
  | 0, _, _, p => .inl p
  | n + 1, m, R, p =>
    if btC T (sk T p) = 0 then .inr R
    else match ltA 0 T (sk T p) with
      | none => .inl (sk T p)
      | some i => if m.testBit i = true then .inl (sk T p)
        else match numV T (hlw i) (hhi i) (sk T p + 1) with
          | .inl f => .inl f
          | .inr q => hpN T n (m ||| 1 <<< i) (updN R i q.1) q.2
def hpV (T : List Nat) : Nat ⊕ (Nat → Nat) := if btC T (sk T 0) = 104 then hpN T 5 0 hR0 (sk T 0 + 1) else .inl (sk T 0)
def hpG (T : List Nat) (V : Nat ⊕ (Nat → Nat)) : Prop := match V with
  | .inl f => f ≤ T.length
  | .inr R => ∀ i, i < 4 → hlw i ≤ R i ∧ R i ≤ hhi i
theorem hpN_ok {T : List Nat} (hT : ∀ x ∈ T, 1 ≤ x ∧ x ≤ 255) : ∀ (n m : Nat) (R : Nat → Nat) (p : Nat), p ≤ T.length → (∀ i, i < 4 → hlw i ≤ R i ∧ R i ≤ hhi i) → hpG T (hpN T n m R p)
  | 0, m, R, p, hp, hR => hp
  | n + 1, m, R, p, hp, hR => by
    have hs := sk_le hp
    unfold hpN
    by_cases c : btC T (sk T p) = 0
    · rw [if_pos c]; exact hR
    · rw [if_neg c]
      have hlt : sk T p < T.length := by
        have := mt (btC_0 hT).mpr c
        omega
      cases e : ltA 0 T (sk T p) with
      | none => exact hs.2
      | some i =>
        have hi : i < 4 := ltA_lt e
        show hpG T (if m.testBit i = true then .inl (sk T p) else match numV T (hlw i) (hhi i) (sk T p + 1) with
          | .inl f => .inl f
          | .inr q => hpN T n (m ||| 1 <<< i) (updN R i q.1) q.2)
        by_cases d : m.testBit i = true
        · rw [if_pos d]; exact hs.2
        · rw [if_neg d]
          cases e2 : numV T (hlw i) (hhi i) (sk T p + 1) with
          | inl f => exact numV_l (by omega) e2
          | inr q =>
            have hq := numV_r (by omega) e2
            refine hpN_ok hT n _ _ _ hq.2.2 (fun j hj => ?_)
            unfold updN
            by_cases z : j = i
            · subst z; rw [if_pos rfl]; exact ⟨hq.1, hq.2.1⟩
            · rw [if_neg z]; exact hR j hj
theorem hpV_ok {T : List Nat} (hT : ∀ x ∈ T, 1 ≤ x ∧ x ≤ 255) : hpG T (hpV T) := by
  have hs := sk_le (T := T) (Nat.zero_le _)
  unfold hpV
  by_cases c : btC T (sk T 0) = 104
  · rw [if_pos c]
    have hlt : sk T 0 < T.length := by
      have := mt (btC_0 hT).mpr (by omega : ¬ btC T (sk T 0) = 0)
      omega
    exact hpN_ok hT _ _ _ _ (by omega) (fun i hi => ⟨(hl_item i hi).2.2.2.1, (hl_item i hi).2.2.2.2⟩)
  · rw [if_neg c]; exact hs.2
