/-! the acts, by their sort -/
theorem mC_2 (A : Hp) (g : Nat → Nat) (P : Pn) : mC A g P 2 = mGone A g P := by
  unfold mC
  rw [upx_same]
  have : mC3 A g P 2 = 0 := mX3_c (A := A) (g := g) 2 (by omega)
  rw [this, Nat.zero_add]
theorem jC_2 (A : Hp) (g : Nat → Nat) : jC A g 2 = jGone A g := by
  unfold jC
  rw [upx_same]
  have : jC3 A g 2 = 0 := by unfold jC3; rw [upx_ne (by decide)]; exact mX3_c (A := A) (g := g) 2 (by omega)
  rw [this, Nat.zero_add]
def doCol (X : Bool) (n : Nat) (B : Hp) : AR := if X = true then .inl 3 else .inr (nI n, nI n, B)
noncomputable def doMinor (R : Nat → Nat) (A : Hp) : AR := doCol (pX (plan2 R A)) (mGone A (mG R A) (plan2 R A)) (minA R A)
noncomputable def doMajor (A : Hp) : AR := .inr (nI (jGone A (jG A)), nI (jGone A (jG A)), majA A)
noncomputable def doA (R : Nat → Nat) (A : Hp) (t : Nat) (x y z d : Int32) : AR := if t = 0 then doMake R A x y z d else if t = 1 then doLink A x y z else if t = 2 then doLoad A x y z else if t = 3 then doDrop A x else if t = 4 then doMinor R A else if t = 5 then doMajor A else if t = 6 then doTell A x else doAsk A
section doa
variable {R : Nat → Nat} {b : Nat} {A : Hp}
theorem c_minorA {σ : rS} {k : Nat} {L : Lg} (hC : CS σ k (A, L)) (hI : Inv R b A) (hR : RU σ R) : hit (fX0_actMinor k σ) (CA k 4 A L (doMinor R A)) := by
  unfold fX0_actMinor
  refine bd_hit (hit_mono (c_young hC hI hR) ?_)
  rintro r s h
  unfold CYo at h
  unfold doMinor doCol
  by_cases c : pX (plan2 R A) = true
  · rw [if_pos c] at h
    rw [if_pos c, h.1, if_pos rfl]
    exact hit_some ⟨by decide, h.2⟩
  · rw [if_neg c] at h
    obtain ⟨h1, h2, h3⟩ := h
    have e : s 37 0 (ix 2) = nI (mGone A (mG R A) (plan2 R A)) := by rw [← mC_2]; exact h3 2 (by omega)
    rw [if_neg c, h1, if_neg one_ne, e, rd_eq]
    refine bd_hit (hit_mono (c_note h2 4 (nI (mGone A (mG R A) (plan2 R A)))) ?_)
    rintro r2 s2 hS2
    exact hit_some ⟨rfl, hS2⟩
theorem c_majorA {σ : rS} {k : Nat} {L : Lg} (hC : CS σ k (A, L)) (hI : Inv R b A) (h8 : R8 R) : hit (fX0_actMajor k σ) (CA k 5 A L (doMajor A)) := by
  unfold fX0_actMajor
  refine bd_hit (hit_mono (c_major hC hI h8.2.2.1) ?_)
  rintro r s ⟨h2, h3⟩
  unfold doMajor
  have e : s 37 0 (ix 2) = nI (jGone A (jG A)) := by rw [← jC_2]; exact h3 2 (by omega)
  rw [e, rd_eq]
  refine bd_hit (hit_mono (c_note h2 5 (nI (jGone A (jG A)))) ?_)
  rintro r2 s2 hS2
  exact hit_some ⟨rfl, hS2⟩
theorem m_minorA {τ : rS} {v : Nat} (hM : MR (τ 66 v) A) (hI : Inv R b A) (hR : RM τ R) (hv : ¬ v = 2) (h11 : ¬ τ 10 0 11 = 0) (x y z d : Int32) : hit (fX10_does v 4 x y z d τ) (MA v τ A (doMinor R A)) := by
  unfold fX10_does fX10_stops doMinor doCol
  rw [if_neg h11, if_neg (by decide), if_neg (by decide), if_neg (by decide), if_neg (by decide), if_neg (by decide), if_neg (by decide), bd_some, if_pos rfl, if_pos (by decide), if_neg (by decide)]
  unfold fX10_does_j44 fX10_does_j45
  rw [st_eq, if_neg (by decide), if_neg (by decide), if_neg (by decide), if_neg (by decide), if_pos rfl]
  have hM1 : MR (wr τ 10 0 30 0 66 v) A := by rw [wr_c (by decide)]; exact hM
  refine bd_hit (hit_mono (m_minors hM1 hI (hR.mv (wr_c (by decide))) hv) ?_)
  rintro r s ⟨l, h⟩
  have l1 : LGr τ s v := fun i hi => by rw [l i hi, wr_c (by decide)]
  by_cases c : pX (plan2 R A) = true
  · rw [if_pos c] at h ⊢
    rw [h.1, if_pos rfl]
    exact hit_some ⟨l1, rfl, h.2⟩
  · rw [if_neg c] at h ⊢
    rw [h.1, if_neg one_ne, st_eq]
    refine hit_some ⟨fun i hi => by rw [wr_c (by decide)]; exact l1 i hi, rfl, ?_, ?_, ?_⟩
    · rw [wr_i (by decide)]; exact h.2.2
    · rw [wr_same]; exact h.2.2
    · rw [wr_c (by decide)]; exact h.2.1
theorem m_majorA {τ : rS} {v : Nat} (hM : MR (τ 66 v) A) (hI : Inv R b A) (h8 : R8 R) (h11 : ¬ τ 10 0 11 = 0) (x y z d : Int32) : hit (fX10_does v 5 x y z d τ) (MA v τ A (doMajor A)) := by
  unfold fX10_does fX10_stops doMajor
  rw [if_neg h11, if_neg (by decide), if_neg (by decide), if_neg (by decide), if_neg (by decide), if_neg (by decide), if_neg (by decide), bd_some, if_pos rfl, if_pos (by decide), if_neg (by decide)]
  unfold fX10_does_j44 fX10_does_j45
  rw [st_eq, if_neg (by decide), if_neg (by decide), if_neg (by decide), if_neg (by decide), if_neg (by decide), if_pos rfl]
  have hM1 : MR (wr τ 10 0 30 0 66 v) A := by rw [wr_c (by decide)]; exact hM
  refine bd_hit (hit_mono (m_majors hM1 hI h8.2.2.1) ?_)
  rintro r s ⟨h1, l, h28, -⟩
  have l1 : LGr τ s v := fun i hi => by rw [l i hi, wr_c (by decide)]
  rw [st_eq]
  refine hit_some ⟨fun i hi => by rw [wr_c (by decide)]; exact l1 i hi, rfl, ?_, ?_, ?_⟩
  · rw [wr_i (by decide)]; exact h28
  · rw [wr_same]; exact h28
  · rw [wr_c (by decide)]; exact h1
theorem mGone_lt (hI : Inv R b A) : mGone A (mG R A) (plan2 R A) ≤ 78 := by
  have := hI.ok.n
  unfold mGone
  omega
theorem jGone_lt (hI : Inv R b A) : jGone A (jG A) ≤ 78 := by
  have := hI.ok.n
  unfold jGone
  omega
theorem IvA.mono {b' : Nat} {q : AR} (h : IvA R b q) (hb : b ≤ b') : IvA R b' q := by
  rcases q with why | ⟨c, l, B⟩
  · exact h
  · exact ⟨h.1, h.2.mono hb⟩
theorem i_does (hI : Inv R b A) (h8 : R8 R) (hb : b + 1 < 1000000) (t : Nat) (x y z d : Int32) : IvA R (b + 1) (doA R A t x y z d) := by
  unfold doA
  by_cases t0 : t = 0
  · rw [if_pos t0]; exact i_make hI h8 hb x y z d
  · rw [if_neg t0]
    refine IvA.mono (b := b) ?_ (by omega)
    by_cases t1 : t = 1
    · rw [if_pos t1]; exact i_link hI x y z
    · rw [if_neg t1]
      by_cases t2 : t = 2
      · rw [if_pos t2]; exact i_load hI x y z
      · rw [if_neg t2]
        by_cases t3 : t = 3
        · rw [if_pos t3]; exact i_drop hI x
        · rw [if_neg t3]
          by_cases t4 : t = 4
          · rw [if_pos t4]
            unfold doMinor doCol
            by_cases c : pX (plan2 R A) = true
            · rw [if_pos c]; exact (by decide : 3 < 4)
            · rw [if_neg c]; exact ⟨nI_pos (by have := mGone_lt hI; omega), minA_Inv hI c h8⟩
          · rw [if_neg t4]
            by_cases t5 : t = 5
            · rw [if_pos t5]; exact ⟨nI_pos (by have := jGone_lt hI; omega), majA_Inv hI h8⟩
            · rw [if_neg t5]
              by_cases t6 : t = 6
              · rw [if_pos t6]; exact i_tell hI x
              · rw [if_neg t6]; exact i_ask hI
theorem hit_id {o : Option (Int32 × rS)} {K : Int32 → rS → Prop} (h : hit o K) : hit (bd o (fun r s => some (r, s))) K := bd_hit (hit_mono h (fun _ _ h => hit_some h))
theorem c_apply {σ : rS} {k : Nat} {L : Lg} (hC : CS σ k (A, L)) (hI : Inv R b A) (hR : RU σ R) (h8 : R8 R) (hb : b + 1 < 1000000) (hk : ¬ k = 3) {t : Nat} (ht : t ≤ 7) (x y z d : Int32) : hit (fX0_apply k (nI t) x y z d σ) (CA k (nI t) A L (doA R A t x y z d)) := by
  unfold fX0_apply doA
  rcases (by omega : t = 0 ∨ t = 1 ∨ t = 2 ∨ t = 3 ∨ t = 4 ∨ t = 5 ∨ t = 6 ∨ t = 7) with rfl | rfl | rfl | rfl | rfl | rfl | rfl | rfl
  · rw [if_pos (by decide), if_pos rfl]
    exact hit_id (c_make hC hI hR h8 hb hk x y z d)
  · rw [if_neg (by decide), if_pos (by decide), if_neg (by decide), if_pos rfl]
    exact hit_id (c_link hC hI.ok hI.2.2.2.2.2.1.1 (by have := hI.rm h8.2.2.1; omega) x y z)
  · iterate 2 rw [if_neg (by decide)]
    rw [if_pos (by decide)]
    iterate 2 rw [if_neg (by decide)]
    rw [if_pos rfl]
    exact hit_id (c_load hC hI.ok x y z)
  · iterate 3 rw [if_neg (by decide)]
    rw [if_pos (by decide)]
    iterate 3 rw [if_neg (by decide)]
    rw [if_pos rfl]
    exact hit_id (c_drop hC hI.ok x)
  · iterate 4 rw [if_neg (by decide)]
    rw [if_pos (by decide)]
    iterate 4 rw [if_neg (by decide)]
    rw [if_pos rfl]
    exact hit_id (c_minorA hC hI hR)
  · iterate 5 rw [if_neg (by decide)]
    rw [if_pos (by decide)]
    iterate 5 rw [if_neg (by decide)]
    rw [if_pos rfl]
    exact hit_id (c_majorA hC hI h8)
  · iterate 6 rw [if_neg (by decide)]
    rw [if_pos (by decide)]
    iterate 6 rw [if_neg (by decide)]
    rw [if_pos rfl]
    exact hit_id (c_tell hC hI.ok x)
  · iterate 7 rw [if_neg (by decide)]
    rw [if_pos (by decide)]
    iterate 7 rw [if_neg (by decide)]
    exact hit_id (c_ask hC)
theorem m_does {τ : rS} {v : Nat} (hM : MR (τ 66 v) A) (hI : Inv R b A) (hR : RM τ R) (h8 : R8 R) (hb : b + 1 < 1000000) (hv : ¬ v = 2) (hv4 : ¬ v = 4) (h11 : ¬ τ 10 0 11 = 0) {t : Nat} (ht : t ≤ 7) (x y z d : Int32) : hit (fX10_does v (nI t) x y z d τ) (MA v τ A (doA R A t x y z d)) := by
  unfold doA
  rcases (by omega : t = 0 ∨ t = 1 ∨ t = 2 ∨ t = 3 ∨ t = 4 ∨ t = 5 ∨ t = 6 ∨ t = 7) with rfl | rfl | rfl | rfl | rfl | rfl | rfl | rfl
  · rw [if_pos rfl]
    exact m_make hM hI hR h8 hb hv hv4 h11 x y z d
  · rw [if_neg (by decide), if_pos rfl]
    exact m_link hM hI h8.2.2.1 h11 x y z d
  · iterate 2 rw [if_neg (by decide)]
    rw [if_pos rfl]
    exact m_load hM hI.ok (hI.bd h8.2.2.1) h11 x y z d
  · iterate 3 rw [if_neg (by decide)]
    rw [if_pos rfl]
    exact m_drop hM hI.ok (hI.bd h8.2.2.1) h11 x y z d
  · iterate 4 rw [if_neg (by decide)]
    rw [if_pos rfl]
    exact m_minorA hM hI hR hv h11 x y z d
  · iterate 5 rw [if_neg (by decide)]
    rw [if_pos rfl]
    exact m_majorA hM hI h8 h11 x y z d
  · iterate 6 rw [if_neg (by decide)]
    rw [if_pos rfl]
    exact m_tell hM hI.ok (hI.bd h8.2.2.1) h11 x y z d
  · iterate 7 rw [if_neg (by decide)]
    exact m_ask hM hI.ok (hI.bd h8.2.2.1) h11 x y z d
end doa
