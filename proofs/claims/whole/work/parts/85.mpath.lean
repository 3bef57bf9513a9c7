/-! path, the model's side -/
def GW (τ : rS) (n : Nat) (S : GS) : Prop := GM τ n S.1 ∧ ∀ j ∈ S.1, S.2.1 j < S.1.length ∧ τ 73 0 j = nI (S.2.1 j) ∧ (¬ S.2.1 j = 0 → τ 71 0 j = S.2.2.1 j ∧ τ 72 0 j = S.2.2.2 j)
def GZ (τ : rS) (F : Nat → Int32) (S : GS) : Prop := ∀ j ∈ S.1, S.2.1 j = 0 → τ 72 0 j = F j
theorem m_mark3 {τ : rS} {n j d : Nat} {S : GS} {p : Option Nat} {fl a b : Int32} (hn : n ≤ 78) (hG : GW τ n S) (hm : ¬ j ∈ S.1) (hj : j < n) (hd : d = dOf S p) (hp : ∀ q, p = some q → q ∈ S.1) (hab : ¬ d = 0 → a = enc p ∧ b = fl) : hit (fX10_marks (nI j) (wr (wr (wr τ 71 0 j a) 72 0 j b) 73 0 j (nI d))) (fun _ s => GW s n (vis3 S (some j) p fl) ∧ s 66 = τ 66 ∧ s 72 0 j = b ∧ ∀ i, ¬ i = j → s 72 0 i = τ 72 0 i) := by
  obtain ⟨hg, hv⟩ := hG
  have hdl : d ≤ S.1.length := by
    rw [hd]
    cases p with
    | none => exact Nat.zero_le _
    | some q => have := (hv q (hp q rfl)).1; unfold dOf; dsimp only; omega
  have hg' : GM (wr (wr (wr τ 71 0 j a) 72 0 j b) 73 0 j (nI d)) n S.1 := by
    unfold GM at hg ⊢
    rw [wr_c (by decide), wr_c (by decide), wr_c (by decide)]
    rw [wr_c (c' := 69) (by decide), wr_c (c' := 69) (by decide), wr_c (c' := 69) (by decide)]
    rw [wr_c (c' := 68) (by decide), wr_c (c' := 68) (by decide), wr_c (c' := 68) (by decide)]
    exact hg
  have hmk := m_marks hn hg' (o := some j) (fun i hi => by cases hi; exact hj)
  rw [enc_some] at hmk
  refine hit_mono (hit_fr (frX10_marks _ _) hmk) ?_
  rintro r s ⟨hf, hg2⟩
  have e71 : s 71 0 = upd (τ 71 0) j a := by rw [hf 71 (by decide), wr_c (by decide), wr_c (by decide), wr_row]
  have e72 : s 72 0 = upd (τ 72 0) j b := by rw [hf 72 (by decide), wr_c (by decide), wr_row, wr_c (by decide)]
  have e73 : s 73 0 = upd (τ 73 0) j (nI d) := by rw [hf 73 (by decide), wr_row, wr_c (by decide), wr_c (by decide)]
  have e66 : s 66 = τ 66 := by rw [hf 66 (by decide), wr_c (by decide), wr_c (by decide), wr_c (by decide)]
  refine ⟨⟨by rw [vis3_1]; exact hg2, ?_⟩, e66, by rw [e72]; simp [upd], fun i hi => by rw [e72]; simp [upd, hi]⟩
  rw [vis3_new hm, e71, e72, e73]
  intro i hi
  show (if i = j then dOf S p else S.2.1 i) < (S.1 ++ [j]).length ∧ upd (τ 73 0) j (nI d) i = nI (if i = j then dOf S p else S.2.1 i) ∧ (¬ (if i = j then dOf S p else S.2.1 i) = 0 → upd (τ 71 0) j a i = (if i = j then enc p else S.2.2.1 i) ∧ upd (τ 72 0) j b i = (if i = j then fl else S.2.2.2 i))
  rw [List.length_append]
  have l1 : [j].length = 1 := rfl
  by_cases e : i = j
  · simp only [if_pos e, upd]
    rw [← hd]
    exact ⟨by omega, rfl, hab⟩
  · simp only [if_neg e, upd]
    have hi' : i ∈ S.1 := by
      rcases List.mem_append.mp hi with hi | hi
      · exact hi
      · exact absurd (List.mem_singleton.mp hi) e
    have := hv i hi'
    exact ⟨by omega, this.2⟩
theorem m_walkStep {τ : rS} {F : Nat → Int32} {A : Hp} {S : GS} {q f : Nat} {o : Option Nat} (w : OK A) (hG : GW τ (hn A) S) (hZ : GZ τ F S) (hM : MR (τ 66 0) A) (hq : q ∈ S.1) (ho : ∀ j, o = some j → j < hn A) (x1 : Int32) : hit (fX10_walksOn_j67L19 x1 (nI q) (nI f) (enc o) τ) (fun r s => r = .inl (nI (f + 1)) ∧ GW s (hn A) (vis3 S o (some q) (nI f)) ∧ GZ s F (vis3 S o (some q) (nI f)) ∧ MR (s 66 0) A) := by
  have hw := w.n
  unfold fX10_walksOn_j67L19 fX10_walksOn_j125L19
  cases o with
  | none =>
    rw [enc_none, if_pos rfl]
    exact hit_some ⟨by rw [pn_add1], hG, hZ, hM⟩
  | some j =>
    have hj := ho j rfl
    have hqn := hG.1.2.1 q hq
    have h68 := hG.1.2.2.2.2 j (by omega)
    have h73 := (hG.2 q hq).2.1
    rw [enc_some, if_neg (by rw [pn_m1 (by omega)]; exact id)]
    by_cases hm : j ∈ S.1
    · rw [if_pos hm] at h68
      simp (disch := omega) only [pn_lt, pn_neg, pn_eq, pn_eq0, pn_eq1, pn_eq2, pn_m1, pn_m1', pn_m1lt, pn_ix, pn_bnd, pn_add1, pn_add3, pn_mul4, nI_add, bd_some, st_eq, rd_eq, if_true, if_false, ite_true, ite_false, reduceIte, h68, one_ne]
      rw [vis3_old hm]
      exact hit_some ⟨rfl, hG, hZ, hM⟩
    · rw [if_neg hm] at h68
      have e73 : wr (wr τ 71 0 j (nI q)) 72 0 j (nI f) 73 0 q = nI (S.2.1 q) := by rw [wr_c (by decide), wr_c (by decide)]; exact h73
      simp (disch := omega) only [pn_lt, pn_neg, pn_eq, pn_eq0, pn_eq1, pn_eq2, pn_m1, pn_m1', pn_m1lt, pn_ix, pn_bnd, pn_add1, pn_add3, pn_mul4, nI_add, bd_some, st_eq, rd_eq, if_true, if_false, ite_true, ite_false, reduceIte, h68, e73]
      refine bd_hit (hit_mono (m_mark3 (p := some q) (fl := nI f) hw hG hm hj rfl (fun q' h' => by cases h'; exact hq) (fun _ => ⟨rfl, rfl⟩)) ?_)
      rintro r s ⟨h1, h2, h3, h4⟩
      refine hit_some ⟨rfl, h1, ?_, by rw [h2]; exact hM⟩
      rw [vis3_new hm]
      intro i hi h0
      have h0 : (if i = j then dOf S (some q) else S.2.1 i) = 0 := h0
      by_cases e : i = j
      · rw [if_pos e] at h0
        unfold dOf at h0
        dsimp only at h0
        omega
      · rw [if_neg e] at h0
        have hi' : i ∈ S.1 := by
          rcases List.mem_append.mp hi with hi | hi
          · exact hi
          · exact absurd (List.mem_singleton.mp hi) e
        rw [h4 i e]
        exact hZ i hi' h0
theorem m_walksOn_in {τ : rS} {F : Nat → Int32} {A : Hp} {S : GS} {j : Nat} (w : OK A) (hG : GW τ (hn A) S) (hZ : GZ τ F S) (hM : MR (τ 66 0) A) (hj : j ∈ S.1) (x1 : Int32) : hit (lp (fun (x : Int32) σ => fX10_walksOn_L19 x1 (nI j) x σ) fu 0 τ) (fun _ s => GW s (hn A) (sprF A j (hsz A j - fst0 A j) (fst0 A j) S) ∧ GZ s F (sprF A j (hsz A j - fst0 A j) (fst0 A j) S) ∧ MR (s 66 0) A) := by
  have hw := w.n
  have hjn := hG.1.2.1 j hj
  have hz := w.sz hjn
  have hf0 : fst0 A j ≤ 1 := by unfold fst0; split <;> omega
  refine lp_go (I := fun m x s => ∃ f S', x = nI f ∧ f ≤ 5 ∧ m = hsz A j - f ∧ MR (s 66 0) A ∧ GW s (hn A) S' ∧ GZ s F S' ∧ j ∈ S'.1 ∧ sprF A j (hsz A j - max f (fst0 A j)) (max f (fst0 A j)) S' = sprF A j (hsz A j - fst0 A j) (fst0 A j) S) ?_ fu (hsz A j) _ τ (fu_lt (by omega)) ⟨0, S, rfl, by omega, rfl, hM, hG, hZ, hj, by rw [Nat.zero_max]⟩
  rintro m x s ⟨f, S', rfl, hf5, rfl, hM', hG', hZ', hj', he⟩
  unfold fX10_walksOn_L19
  rw [e_of2 hM' w hjn, bd_some]
  simp (disch := omega) only [pn_lt, pn_neg, pn_eq, pn_eq0, pn_eq1, pn_eq2, pn_m1, pn_m1', pn_m1lt, pn_ix, pn_bnd, pn_add1, pn_add3, pn_mul4, nI_add, bd_some, st_eq, rd_eq, if_true, if_false, ite_true, ite_false, reduceIte]
  by_cases hf : f < hsz A j
  · rw [if_pos hf, e_isWeakM hM' w hjn (by omega), bd_some]
    by_cases hwk : f < fst0 A j
    · rw [if_pos hwk, if_neg one_ne]
      have hst := m_walkStep (o := none) (f := f) w hG' hZ' hM' hj' (fun i hi => by cases hi) x1
      refine hit_mono hst ?_
      rintro r s2 ⟨rfl, h1, h2, h3⟩
      refine ⟨hsz A j - (f + 1), by omega, f + 1, S', rfl, by omega, rfl, h3, h1, h2, hj', ?_⟩
      rw [← he, show max (f + 1) (fst0 A j) = max f (fst0 A j) by omega]
    · rw [if_neg hwk, if_pos rfl, e_of7 hM' w hjn hf, bd_some, e_spotOf_o hM' w (fun i hi => w.lk hjn hf hi), bd_some]
      have hst := m_walkStep (o := hlk A j f) (f := f) w hG' hZ' hM' hj' (fun i hi => w.lk hjn hf hi) x1
      refine hit_mono hst ?_
      rintro r s2 ⟨rfl, h1, h2, h3⟩
      obtain ⟨m, hm2⟩ : ∃ m, hsz A j - f = m + 1 := ⟨hsz A j - f - 1, by omega⟩
      refine ⟨hsz A j - (f + 1), by omega, f + 1, _, rfl, by omega, rfl, h3, h1, h2, vis3_p hj', ?_⟩
      rw [← he, show max (f + 1) (fst0 A j) = f + 1 by omega, show max f (fst0 A j) = f by omega, hm2, show hsz A j - (f + 1) = m by omega]
      rfl
  · rw [if_neg hf]
    have e0 : sprF A j (hsz A j - max f (fst0 A j)) (max f (fst0 A j)) S' = S' := by
      rw [show hsz A j - max f (fst0 A j) = 0 by omega]
      rfl
    rw [e0] at he
    refine hit_some ?_
    rw [← he]
    exact ⟨hG', hZ', hM'⟩
theorem m_walksOn {τ : rS} {F : Nat → Int32} {A : Hp} {S : GS} (w : OK A) (hG : GW τ (hn A) S) (hZ : GZ τ F S) (hM : MR (τ 66 0) A) : hit (fX10_walksOn τ) (fun _ s => GW s (hn A) (bfsF A 80 0 S) ∧ GZ s F (bfsF A 80 0 S) ∧ MR (s 66 0) A) := by
  have hw := w.n
  unfold fX10_walksOn
  refine bd_hit (hit_mono (lp_go (I := fun m x s => ∃ i' S', x = nI i' ∧ i' ≤ 80 ∧ m = 80 - i' ∧ MR (s 66 0) A ∧ GW s (hn A) S' ∧ GZ s F S' ∧ bfsF A (80 - i') i' S' = bfsF A 80 0 S) (P := fun _ s => GW s (hn A) (bfsF A 80 0 S) ∧ GZ s F (bfsF A 80 0 S) ∧ MR (s 66 0) A) ?_ fu 80 _ τ (fu_lt (by omega)) ⟨0, S, rfl, by omega, rfl, hM, hG, hZ, rfl⟩) (fun _ s h => h))
  rintro m x s ⟨i', S', rfl, hi', rfl, hM', hG', hZ', he⟩
  have hlen := nodup_le hG'.1.1 hG'.1.2.1
  unfold fX10_walksOn_L2
  rw [hG'.1.2.2.1]
  simp (disch := omega) only [pn_lt, pn_neg, pn_eq, pn_eq0, pn_eq1, pn_eq2, pn_m1, pn_m1', pn_m1lt, pn_ix, pn_bnd, pn_add1, pn_add3, pn_mul4, nI_add, bd_some, st_eq, rd_eq, if_true, if_false, ite_true, ite_false, reduceIte]
  by_cases hlt : i' < S'.1.length
  · have hmem := getD_mem hlt
    rw [if_pos hlt]
    simp (disch := omega) only [pn_lt, pn_neg, pn_eq, pn_eq0, pn_eq1, pn_eq2, pn_m1, pn_m1', pn_m1lt, pn_ix, pn_bnd, pn_add1, pn_add3, pn_mul4, nI_add, bd_some, st_eq, rd_eq, if_true, if_false, ite_true, ite_false, reduceIte, hG'.1.2.2.2.1 i' hlt]
    refine bd_hit (hit_mono (m_walksOn_in w hG' hZ' hM' hmem (nI i')) ?_)
    rintro r s2 ⟨hG2, hZ2, hM2⟩
    obtain ⟨m, hm2⟩ : ∃ m, 80 - i' = m + 1 := ⟨80 - i' - 1, by omega⟩
    refine hit_some ⟨80 - (i' + 1), by omega, i' + 1, _, rfl, by omega, rfl, hM2, hG2, hZ2, ?_⟩
    rw [← he, hm2, show 80 - (i' + 1) = m by omega]
    conv => rhs; unfold bfsF
    rw [if_pos hlt]
  · rw [if_neg hlt]
    have e2 : bfsF A (80 - i') i' S' = S' := by
      cases h : 80 - i' with
      | zero => rfl
      | succ m => unfold bfsF; rw [if_neg hlt]
    rw [e2] at he
    refine hit_some ?_
    rw [← he]
    exact ⟨hG', hZ', hM'⟩
