/-! feed -/
theorem and255 {x y : Int32} (h : ∀ i, i < 8 → x.toBitVec.getLsbD i = y.toBitVec.getLsbD i) : x &&& 255 = y &&& 255 := by
  apply Int32.toBitVec_inj.mp
  rw [Int32.toBitVec_and, Int32.toBitVec_and]
  apply BitVec.eq_of_getLsbD_eq
  intro i hi
  rw [BitVec.getLsbD_and, BitVec.getLsbD_and]
  by_cases h8 : i < 8
  · rw [h i h8]
  · have : (255 : Int32).toBitVec.getLsbD i = false := by
      have e : (255 : Int32).toBitVec = BitVec.ofNat 32 255 := rfl
      rw [e, BitVec.getLsbD_ofNat]
      have : Nat.testBit 255 i = false := Nat.testBit_lt_two_pow (Nat.lt_of_lt_of_le (by decide : 255 < 2 ^ 8) (Nat.pow_le_pow_right (by decide) (by omega)))
      rw [this, Bool.and_false]
    rw [this, Bool.and_false, Bool.and_false]
theorem sh_bits (x : Int32) (s i : Nat) (hs : s ≤ 24) (hi : i < 8) : ((x.toUInt32 >>> (UInt32.ofNat s)).toInt32).toBitVec.getLsbD i = x.toBitVec.getLsbD (s + i) := by
  have e : ((x.toUInt32 >>> (UInt32.ofNat s)).toInt32).toBitVec = x.toBitVec >>> s := by
    show (x.toUInt32 >>> (UInt32.ofNat s)).toBitVec = _
    rw [UInt32.toBitVec_shiftRight]
    show x.toBitVec >>> ((UInt32.ofNat s).toBitVec % 32) = _
    apply BitVec.eq_of_toNat_eq
    simp
    rw [Nat.mod_eq_of_lt (by omega)]
  rw [e, BitVec.getLsbD_ushiftRight]
theorem sa_bits (x y : Int32) (s i : Nat) (hs : s ≤ 24) (hi : i < 8) (hy : (y.toBitVec.smod 32).toNat = s) : (x >>> y).toBitVec.getLsbD i = x.toBitVec.getLsbD (s + i) := by
  have e : (x >>> y).toBitVec = x.toBitVec.sshiftRight s := by
    rw [Int32.toBitVec_shiftRight]
    show x.toBitVec.sshiftRight (y.toBitVec.smod 32).toNat = _
    rw [hy]
  rw [e, BitVec.getLsbD_sshiftRight, if_pos (by omega)]
  simp
  omega
/-- the bytes of a number -/
noncomputable def bt (x : Int32) (j : Nat) : Int32 := ((x.toUInt32 >>> (UInt32.ofNat (8 * j))).toInt32) &&& 255
theorem bt_c (x y : Int32) (j : Nat) (hy : y.toUInt32 &&& Int32.toUInt32 31 = UInt32.ofNat (8 * j)) : ((x.toUInt32 >>> (y.toUInt32 &&& Int32.toUInt32 31)).toInt32) &&& 255 = bt x j := by
  rw [hy]
  rfl
theorem bt_m (x y : Int32) (j : Nat) (hj : j ≤ 3) (hy : (y.toBitVec.smod 32).toNat = 8 * j) : (x >>> y) &&& 255 = bt x j := by
  unfold bt
  exact and255 (fun i hi => by rw [sa_bits x y (8 * j) i (by omega) hi hy, sh_bits x (8 * j) i (by omega) hi])
theorem bt_nat (x : Int32) (j : Nat) : ∃ q, q ≤ 255 ∧ bt x j = nI q := by
  unfold bt
  generalize ((x.toUInt32 >>> (UInt32.ofNat (8 * j))).toInt32) = z
  refine ⟨(z &&& 255).toBitVec.toNat, ?_, ?_⟩
  · rw [Int32.toBitVec_and, BitVec.toNat_and]
    exact Nat.and_le_right
  · apply Int32.toBitVec_inj.mp
    show _ = BitVec.ofNat 32 _
    rw [BitVec.ofNat_toNat]
    simp
noncomputable def bn (x : Int32) (j : Nat) : Nat := Classical.choose (bt_nat x j)
theorem bn_le (x : Int32) (j : Nat) : bn x j ≤ 255 := (Classical.choose_spec (bt_nat x j)).1
theorem bt_bn (x : Int32) (j : Nat) : bt x j = nI (bn x j) := (Classical.choose_spec (bt_nat x j)).2
def sv : Nat → Int32
  | 0 => -8
  | 1 => 0
  | 2 => 8
  | 3 => 16
  | _ => 24
theorem sv_all : ∀ j, j < 4 → ¬ sv (j + 1) < 0 ∧ sv (j + 1) + (-8) = sv j ∧ (sv (j + 1)).toUInt32 &&& Int32.toUInt32 31 = UInt32.ofNat (8 * j) ∧ ((sv (j + 1) &&& 31).toBitVec.smod 32).toNat = 8 * j := by decide
theorem mv_all : ∀ j, j < 4 → (((8 * nI j) &&& 31).toBitVec.smod 32).toNat = 8 * j := by decide
noncomputable def b1 (x : Int32) (j : Nat) : Nat := if bn x j = 0 then 0 else 1
noncomputable def nb (x : Int32) : Nat := sumN (b1 x) 4
theorem nb_le (x : Int32) : nb x ≤ 4 := by
  have h : ∀ j, b1 x j ≤ 1 := fun j => by unfold b1; split <;> omega
  have h0 := h 0
  have h1 := h 1
  have h2 := h 2
  have h3 := h 3
  unfold nb
  simp only [sumN]
  omega
noncomputable def bapp (x : Int32) : Nat → List Nat → List Nat
  | 0, T => T
  | j + 1, T => bapp x j (if bn x j = 0 then T else T ++ [bn x j])
theorem bapp_len (x : Int32) : ∀ (j : Nat) (T : List Nat), (bapp x j T).length = T.length + sumN (b1 x) j := by
  intro j
  induction j with
  | zero => intro T; rfl
  | succ j ih =>
    intro T
    unfold bapp sumN b1
    rw [ih]
    by_cases h : bn x j = 0
    · rw [if_pos h, if_pos h]; unfold b1; omega
    · rw [if_neg h, if_neg h, List.length_append]
      have : [bn x j].length = 1 := rfl
      unfold b1
      omega
theorem bapp_in (x : Int32) : ∀ (j : Nat) (T : List Nat), (∀ q ∈ T, 1 ≤ q ∧ q ≤ 255) → ∀ q ∈ bapp x j T, 1 ≤ q ∧ q ≤ 255 := by
  intro j
  induction j with
  | zero => intro T h; exact h
  | succ j ih =>
    intro T h
    unfold bapp
    refine ih _ (fun q hq => ?_)
    by_cases e : bn x j = 0
    · rw [if_pos e] at hq; exact h q hq
    · rw [if_neg e] at hq
      rcases List.mem_append.mp hq with hq | hq
      · exact h q hq
      · have := List.mem_singleton.mp hq
        subst this
        exact ⟨by omega, bn_le x j⟩
theorem c_bytesIn (x : Int32) (σ : rS) : fX8_bytesIn x σ = some (nI (nb x), σ) := by
  unfold fX8_bytesIn
  have h : hit (lp (fun (y : (Int32 × Int32)) σ => fX8_bytesIn_L5 x y.1 y.2 σ) fu (0, 24) σ) (fun r t => r = nI (nb x) ∧ t = σ) := by
    refine lp_go (I := fun m y t => ∃ a, m ≤ 4 ∧ y = (nI a, sv m) ∧ a + sumN (b1 x) m = nb x ∧ t = σ) ?_ fu 4 _ σ (fu_lt (by omega)) ⟨0, by omega, rfl, by unfold nb; omega, rfl⟩
    rintro m y t ⟨a, hm, rfl, ha, rfl⟩
    unfold fX8_bytesIn_L5 fX8_bytesIn_j22L5
    cases m with
    | zero =>
      rw [if_pos (show sv 0 < 0 by decide)]
      refine hit_some ⟨?_, rfl⟩
      rw [← ha]
      rfl
    | succ j =>
      obtain ⟨s1, s2, s3, -⟩ := sv_all j (by omega)
      have hb := bn_le x j
      have hs : sumN (b1 x) (j + 1) = sumN (b1 x) j + b1 x j := rfl
      rw [if_neg s1, bt_c x _ j s3, bt_bn, s2]
      by_cases e : bn x j = 0
      · rw [if_pos (by rw [e]; rfl)]
        have : b1 x j = 0 := if_pos e
        exact hit_some ⟨j, by omega, a, by omega, rfl, by omega, rfl⟩
      · rw [if_neg (by rw [pn_eq0 (by omega)]; exact e)]
        have : b1 x j = 1 := if_neg e
        exact hit_some ⟨j, by omega, a + 1, by omega, by rw [pn_add1], by omega, rfl⟩
  rw [eq_of_hit h, bd_some]
theorem m_bytesOf (x : Int32) (σ : rS) : fX10_bytesOf x σ = some (nI (nb x), σ) := by
  unfold fX10_bytesOf
  have h : hit (lp (fun (y : (Int32 × Int32)) σ => fX10_bytesOf_L4 x y.1 y.2 σ) fu (0, 0) σ) (fun r t => r = nI (nb x) ∧ t = σ) := by
    refine lp_go (I := fun m y t => ∃ j, j ≤ 4 ∧ m = 4 - j ∧ y = (nI (sumN (b1 x) j), nI j) ∧ t = σ) ?_ fu 4 _ σ (fu_lt (by omega)) ⟨0, by omega, rfl, rfl, rfl⟩
    rintro m y t ⟨j, hj, rfl, rfl, rfl⟩
    unfold fX10_bytesOf_L4 fX10_bytesOf_j28L4
    simp (disch := omega) only [pn_lt4, pn_lt, pn_neg, pn_eq, pn_eq0, pn_eq1, pn_eq2, pn_m1, pn_m1', pn_m1lt, pn_ix, pn_bnd, pn_add1, pn_add3, pn_mul4, nI_add, bd_some, st_eq, rd_eq, if_true, if_false, ite_true, ite_false, reduceIte]
    by_cases h4 : j < 4
    · have hb := bn_le x j
      have hs : sumN (b1 x) (j + 1) = sumN (b1 x) j + b1 x j := rfl
      rw [if_pos h4, bt_m x _ j (by omega) (mv_all j h4), bt_bn]
      by_cases e : bn x j = 0
      · rw [if_pos (by rw [e]; rfl)]
        have : b1 x j = 0 := if_pos e
        exact hit_some ⟨4 - (j + 1), by omega, j + 1, by omega, rfl, by rw [hs, this, Int32.add_zero]; rfl, rfl⟩
      · rw [if_neg (by rw [pn_eq0 (by omega)]; exact e)]
        have : b1 x j = 1 := if_neg e
        exact hit_some ⟨4 - (j + 1), by omega, j + 1, by omega, rfl, by rw [hs, this], rfl⟩
    · rw [if_neg h4]
      refine hit_some ⟨?_, rfl⟩
      rw [show j = 4 by omega]
      rfl
  rw [eq_of_hit h, bd_some]
def CT (σ : rS) (T : List Nat) : Prop := σ 8 0 1 = nI T.length ∧ ∀ i, i < T.length → σ 25 0 i = nI (T.getD i 0)
def MT (σ : rS) (T : List Nat) : Prop := σ 10 0 2 = nI T.length ∧ ∀ i, i < T.length → σ 60 0 i &&& 255 = nI (T.getD i 0)
theorem c_addBytes {σ : rS} {T : List Nat} (x : Int32) (h : CT σ T) (hl : T.length + nb x ≤ 240) : hit (fX8_addBytes x σ) (fun _ s => CT s (bapp x 4 T)) := by
  unfold fX8_addBytes
  refine bd_hit (hit_mono (lp_go (I := fun m y t => ∃ T', m ≤ 4 ∧ y = sv m ∧ bapp x m T' = bapp x 4 T ∧ CT t T' ∧ T'.length + sumN (b1 x) m ≤ 240) (P := fun _ s => CT s (bapp x 4 T)) ?_ fu 4 _ σ (fu_lt (by omega)) ⟨T, by omega, rfl, rfl, h, hl⟩) (fun _ _ h => h))
  rintro m y t ⟨T', hm, rfl, hT, hC, hlen⟩
  unfold fX8_addBytes_L3 fX8_addBytes_j49L3
  cases m with
  | zero =>
    rw [if_pos (show sv 0 < 0 by decide)]
    refine hit_some ?_
    rw [← hT]
    exact hC
  | succ j =>
    obtain ⟨s1, s2, s3, -⟩ := sv_all j (by omega)
    have hb := bn_le x j
    have hs : sumN (b1 x) (j + 1) = sumN (b1 x) j + b1 x j := rfl
    rw [if_neg s1, bt_c x _ j s3, bt_bn, s2, rd_eq]
    by_cases e : bn x j = 0
    · rw [if_pos (by rw [e]; rfl)]
      refine hit_some ⟨j, by omega, T', by omega, rfl, ?_, hC, by omega⟩
      rw [← hT]
      conv => rhs; unfold bapp
      rw [if_pos e]
    · rw [if_neg (by rw [pn_eq0 (by omega)]; exact e)]
      have hb1 : b1 x j = 1 := if_neg e
      have e8 : (nI T'.length < 240) = (T'.length < 240) := pn_lt (b := 240) (by omega) (by omega)
      rw [hC.1, if_pos (by rw [e8]; omega)]
      have e81 : wr t 25 0 T'.length (nI (bn x j)) 8 0 1 = nI T'.length := by rw [wr_c (by decide)]; exact hC.1
      simp (disch := omega) only [pn_lt, pn_neg, pn_eq, pn_eq0, pn_eq1, pn_eq2, pn_m1, pn_m1', pn_m1lt, pn_ix, pn_bnd, pn_add1, pn_add3, pn_mul4, nI_add, bd_some, st_eq, rd_eq, if_true, if_false, ite_true, ite_false, reduceIte, e81]
      refine hit_some ⟨j, by omega, T' ++ [bn x j], by omega, rfl, ?_, ⟨?_, fun i hi => ?_⟩, by rw [List.length_append]; have : [bn x j].length = 1 := rfl; omega⟩
      · rw [← hT]
        conv => rhs; unfold bapp
        rw [if_neg e]
      · rw [wr_same, List.length_append]; rfl
      · rw [wr_c (by decide)]
        rw [List.length_append] at hi
        have : [bn x j].length = 1 := rfl
        by_cases ei : i = T'.length
        · subst ei; rw [wr_same, getD_append_eq]
        · rw [wr_i ei, getD_append_lt (by omega)]; exact hC.2 i (by omega)
theorem i8_and {q : Nat} (hq : q ≤ 255) : (nI q).toInt8.toInt32 &&& 255 = nI q := by
  have : ∀ q, q < 256 → (nI q).toInt8.toInt32 &&& 255 = nI q := by decide +kernel
  exact this q (by omega)
theorem m_brings {σ : rS} {T : List Nat} (x : Int32) (h : MT σ T) (hl : T.length + nb x ≤ 240) : hit (fX10_brings x σ) (fun _ s => MT s (bapp x 4 T) ∧ ∀ i, ¬ i = 2 → s 10 0 i = σ 10 0 i) := by
  unfold fX10_brings
  refine bd_hit (hit_mono (lp_go (I := fun m y t => ∃ T', m ≤ 4 ∧ y = sv m ∧ bapp x m T' = bapp x 4 T ∧ MT t T' ∧ T'.length + sumN (b1 x) m ≤ 240 ∧ ∀ i, ¬ i = 2 → t 10 0 i = σ 10 0 i) (P := fun _ s => MT s (bapp x 4 T) ∧ ∀ i, ¬ i = 2 → s 10 0 i = σ 10 0 i) ?_ fu 4 _ σ (fu_lt (by omega)) ⟨T, by omega, rfl, rfl, h, hl, fun _ _ => rfl⟩) (fun _ _ h => h))
  rintro m y t ⟨T', hm, rfl, hT, hC, hlen, hk⟩
  unfold fX10_brings_L3 fX10_brings_j43L3
  cases m with
  | zero =>
    rw [if_pos (show sv 0 < 0 by decide)]
    refine hit_some ⟨?_, hk⟩
    rw [← hT]
    exact hC
  | succ j =>
    obtain ⟨s1, s2, -, s4⟩ := sv_all j (by omega)
    have hb := bn_le x j
    have hs : sumN (b1 x) (j + 1) = sumN (b1 x) j + b1 x j := rfl
    rw [if_neg s1, bt_m x _ j (by omega) s4, bt_bn, s2, rd_eq]
    by_cases e : bn x j = 0
    · rw [if_pos (by rw [e]; rfl)]
      refine hit_some ⟨j, by omega, T', by omega, rfl, ?_, hC, by omega, hk⟩
      rw [← hT]
      conv => rhs; unfold bapp
      rw [if_pos e]
    · rw [if_neg (by rw [pn_eq0 (by omega)]; exact e)]
      have hb1 : b1 x j = 1 := if_neg e
      rw [hC.1]
      have e81 : wr t 60 0 T'.length (nI (bn x j)).toInt8.toInt32 10 0 2 = nI T'.length := by rw [wr_c (by decide)]; exact hC.1
      simp (disch := omega) only [pn_lt, pn_neg, pn_eq, pn_eq0, pn_eq1, pn_eq2, pn_m1, pn_m1', pn_m1lt, pn_ix, pn_bnd, pn_add1, pn_add3, pn_mul4, nI_add, bd_some, st_eq, rd_eq, if_true, if_false, ite_true, ite_false, reduceIte, e81]
      refine hit_some ⟨j, by omega, T' ++ [bn x j], by omega, rfl, ?_, ⟨?_, fun i hi => ?_⟩, by rw [List.length_append]; have : [bn x j].length = 1 := rfl; omega, fun i hi => ?_⟩
      · rw [← hT]
        conv => rhs; unfold bapp
        rw [if_neg e]
      · rw [wr_same, List.length_append]; rfl
      · rw [wr_c (by decide)]
        rw [List.length_append] at hi
        have : [bn x j].length = 1 := rfl
        by_cases ei : i = T'.length
        · subst ei; rw [wr_same, getD_append_eq, i8_and hb]
        · rw [wr_i ei, getD_append_lt (by omega)]; exact hC.2 i (by omega)
      · rw [wr_i hi, wr_c (by decide)]; exact hk i hi
noncomputable def bapp5 (a b c d e : Int32) (T : List Nat) : List Nat := bapp e 4 (bapp d 4 (bapp c 4 (bapp b 4 (bapp a 4 T))))
theorem pl_0 {xs : Nat → Int32} {n : Nat} {σ : rS} {W : Wd} (hC : CW σ W) (hM : MW σ W) (hI : InvW (40 * n) W) : PL_0 xs n σ (IW (n + 1)) := by
  have h240 := hI.2.2.2.2.2.1.1
  unfold PL_0
  generalize xs (6 * n + 1) = a
  generalize xs (6 * n + 2) = b
  generalize xs (6 * n + 3) = c
  generalize xs (6 * n + 4) = d
  generalize xs (6 * n + 5) = e
  have ha := nb_le a
  have hb := nb_le b
  have hc := nb_le c
  have hd := nb_le d
  have he := nb_le e
  have e240 : ∀ q, q < 1000 → (240 < nI q) = (240 < q) := fun q hq => pn_lt (a := 240) (by omega) (by omega)
  by_cases hl : 240 < (wT W).length + (nb a + nb b + nb c + nb d + nb e)
  · refine pl_q (fc := fun σ => fX9_feed a b c d e σ) (fm := fun σ => fX10_feed a b c d e σ) hC hM hI (a := -1) ?_ (fun s hs => ?_)
    · unfold fX9_feed
      rw [c_bytesIn, bd_some, c_bytesIn, bd_some, c_bytesIn, bd_some, c_bytesIn, bd_some, c_bytesIn, bd_some, rd_eq, hC.tl, nI_add, nI_add, nI_add, nI_add, nI_add, if_pos (by rw [e240 _ (by omega)]; exact hl)]
    · unfold fX10_feed
      rw [st_eq, m_bytesOf, bd_some, m_bytesOf, bd_some, m_bytesOf, bd_some, m_bytesOf, bd_some, m_bytesOf, bd_some, (hs.t0 0).tl, nI_add, nI_add, nI_add, nI_add, nI_add, if_pos (by rw [e240 _ (by omega)]; omega)]
  · have len : ∀ (x : Int32) (T : List Nat), (bapp x 4 T).length = T.length + nb x := fun x T => bapp_len x 4 T
    have len5 : (bapp5 a b c d e (wT W)).length = (wT W).length + (nb a + nb b + nb c + nb d + nb e) := by
      unfold bapp5
      rw [len, len, len, len, len]
      omega
    refine pl_mk (fc := fun σ => fX9_feed a b c d e σ) (fm := fun σ => fX10_feed a b c d e σ) (W' := setT W (bapp5 a b c d e (wT W))) (a := nI (bapp5 a b c d e (wT W)).length) hM ?_ (frX9_feed _ _ _ _ _ _) (isC_of (by decide)) (fun s hs => ?_) (fun s => frX10_feed _ _ _ _ _ s) (isM_of (by decide)) (hI.next.tape (by omega) (bapp_in _ _ _ (bapp_in _ _ _ (bapp_in _ _ _ (bapp_in _ _ _ (bapp_in _ _ _ hI.2.2.2.2.2.1.2))))))
    · have hfr := frX9_feed a b c d e σ
      refine hit_mono (hit_fr hfr (K := fun r s => r = nI (bapp5 a b c d e (wT W)).length ∧ CT s (bapp5 a b c d e (wT W))) ?_) (fun r s h => ⟨h.2.1, hC.tape (fun c' h1 h2 h3 => h.1 c' (by simp only [List.mem_cons, List.not_mem_nil, or_false]; omega)) h.2.2.1 h.2.2.2⟩)
      unfold fX9_feed
      rw [c_bytesIn, bd_some, c_bytesIn, bd_some, c_bytesIn, bd_some, c_bytesIn, bd_some, c_bytesIn, bd_some, rd_eq, hC.tl, nI_add, nI_add, nI_add, nI_add, nI_add, if_neg (by rw [e240 _ (by omega)]; exact hl)]
      refine bd_hit (hit_mono (c_addBytes a ⟨hC.tl, fun i hi => hC.ti hi⟩ (by omega)) ?_)
      intro r1 s1 h1
      refine bd_hit (hit_mono (c_addBytes b h1 (by rw [len]; omega)) ?_)
      intro r2 s2 h2
      refine bd_hit (hit_mono (c_addBytes c h2 (by rw [len, len]; omega)) ?_)
      intro r3 s3 h3
      refine bd_hit (hit_mono (c_addBytes d h3 (by rw [len, len, len]; omega)) ?_)
      intro r4 s4 h4
      refine bd_hit (hit_mono (c_addBytes e h4 (by rw [len, len, len, len]; omega)) ?_)
      intro r5 s5 h5
      exact hit_some ⟨h5.1, h5⟩
    · have ht := hs.t0 0
      have hfr := frX10_feed a b c d e s
      refine hit_mono (hit_fr hfr (K := fun r t => r = nI (bapp5 a b c d e (wT W)).length ∧ MT t (bapp5 a b c d e (wT W)) ∧ ∀ i, ¬ i = 2 → t 10 0 i = wr s 10 0 0 0 10 0 i) ?_) (fun r t h => ⟨h.2.1, hs.tape (fun c' h1 h2 h3 => h.1 c' (by simp only [List.mem_cons, List.not_mem_nil, or_false]; omega)) (fun i hi h2 => by rw [h.2.2.2 i h2, wr_i (by unfold KT at hi; omega)]) h.2.2.1.1 h.2.2.1.2⟩)
      unfold fX10_feed
      rw [st_eq, m_bytesOf, bd_some, m_bytesOf, bd_some, m_bytesOf, bd_some, m_bytesOf, bd_some, m_bytesOf, bd_some, ht.tl, nI_add, nI_add, nI_add, nI_add, nI_add, if_neg (by rw [e240 _ (by omega)]; omega)]
      refine bd_hit (hit_mono (m_brings a ht.2.2.2.2.2.2.1 (by omega)) ?_)
      rintro r1 s1 ⟨h1, k1⟩
      refine bd_hit (hit_mono (m_brings b h1 (by rw [len]; omega)) ?_)
      rintro r2 s2 ⟨h2, k2⟩
      refine bd_hit (hit_mono (m_brings c h2 (by rw [len, len]; omega)) ?_)
      rintro r3 s3 ⟨h3, k3⟩
      refine bd_hit (hit_mono (m_brings d h3 (by rw [len, len, len]; omega)) ?_)
      rintro r4 s4 ⟨h4, k4⟩
      refine bd_hit (hit_mono (m_brings e h4 (by rw [len, len, len, len]; omega)) ?_)
      rintro r5 s5 ⟨h5, k5⟩
      exact hit_some ⟨h5.1, h5, fun i hi => by rw [k5 i hi, k4 i hi, k3 i hi, k2 i hi, k1 i hi]⟩
