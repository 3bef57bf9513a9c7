/-! the remembered: sift, keep, refresh -/
def MNr (m : Nat → Int32) (A : Hp) : Prop := m 0 = nI (hn A) ∧ ∀ i, i < hn A → MRo m A i
def ON (A : Hp) : Prop := hn A ≤ 78 ∧ (∀ i, i < hn A → OKo A i) ∧ ∀ i j, i < j → j < hn A → hnum A i < hnum A j
def bare (A : Hp) : Hp := sRm (sEn (sRt A (fun _ => none)) []) []
theorem ON.bare {A : Hp} (w : ON A) : OK (bare A) := ⟨w.1, w.2.1, fun r j _ h => (by cases h), fun j hj => (List.not_mem_nil hj).elim, fun q hq => (List.not_mem_nil hq).elim, w.2.2⟩
theorem OK.on {A : Hp} (w : OK A) : ON A := ⟨w.1, w.2.1, w.2.2.2.2.2⟩
theorem MR.mn {m : Nat → Int32} {A : Hp} (h : MR m A) : MNr m A := ⟨h.1, h.2.1⟩
theorem findA_encN {A : Hp} (w : ON A) {o : Option Nat} (ho : ∀ j, o = some j → j < hn A) : findA A (encN A o) = o := by
  have := findA_enc w.bare (o := o) ho
  cases o <;> exact this
theorem MNr.congr {m m' : Nat → Int32} {A : Hp} (h : MNr m A) (w : ON A) (e : ∀ i, i < 881 → m' i = m i) : MNr m' A := by
  have hw := w.1
  refine ⟨by rw [e 0 (by omega)]; exact h.1, fun i hi => ?_⟩
  have hz := (w.2.1 i hi).2.1
  unfold MRo
  rw [e _ (by omega), e _ (by omega), e _ (by omega), e _ (by omega), e _ (by omega), e _ (by omega), e _ (by omega)]
  exact ⟨(h.2 i hi).1, fun f hf => by rw [e _ (by omega)]; exact (h.2 i hi).2 f hf⟩
section MNs
variable {τ : rS} {v : Nat} {A : Hp} {i j f c : Nat}
theorem n_of0 (h : MNr (τ 66 v) A) (w : ON A) (hi : i < hn A) : fX10_of v (nI i) 0 τ = some (nI (hnum A i), τ) := by
  have := w.1
  have e := e_of (v := v) (τ := τ) (i := i) (c := 0) (by omega)
  rw [show 1 + 11 * i + 0 = 1 + 11 * i by omega, (h.2 i hi).1.1] at e
  exact e
theorem n_of5 (h : MNr (τ 66 v) A) (w : ON A) (hi : i < hn A) : fX10_of v (nI i) 5 τ = some (nI (hsp A i), τ) := by
  have := w.1
  have e := e_of (v := v) (τ := τ) (i := i) (c := 5) (by omega)
  rw [show 1 + 11 * i + 5 = 6 + 11 * i by omega, (h.2 i hi).1.2.2.2.2.2.1] at e
  exact e
theorem n_of7 (h : MNr (τ 66 v) A) (w : ON A) (hi : i < hn A) (hf : f < hsz A i) : fX10_of v (nI i) (7 + nI f) τ = some (encN A (hlk A i f), τ) := by
  have := w.1
  have := (w.2.1 i hi).2.1
  have e := e_of (v := v) (τ := τ) (i := i) (c := 7 + f) (by omega)
  rw [show 1 + 11 * i + (7 + f) = 8 + 11 * i + f by omega, (h.2 i hi).2 f hf, ← nI_add] at e
  exact e
theorem n_isOld (h : MNr (τ 66 v) A) (w : ON A) (hi : i < hn A) : fX10_isOld v (nI i) τ = some (if hsp A i = 2 then 1 else 0, τ) := by
  have := (w.2.1 i hi).2.2.1
  unfold fX10_isOld
  rw [n_of5 h w hi, bd_some]
  simp (disch := omega) only [pn_lt, pn_neg, pn_eq, pn_eq0, pn_eq1, pn_eq2, pn_m1, pn_m1', pn_m1lt, pn_ix, pn_bnd, pn_add1, pn_add3, pn_mul4, nI_add, bd_some, st_eq, rd_eq, if_true, if_false, ite_true, ite_false, reduceIte]
  split <;> rfl
theorem n_spotOf (h : MNr (τ 66 v) A) (w : ON A) (x : Int32) : fX10_spotOf_ v x τ = some (enc (findA A x), τ) := by
  have hw := w.1
  unfold fX10_spotOf_
  by_cases hx : x = 0
  · subst hx
    have e0 : findA A 0 = none := findA_0 (A := bare A) w.bare
    rw [if_pos rfl, e0]
    rfl
  · rw [if_neg hx]
    have h0 : τ 66 v (ix 0) = nI (hn A) := h.1
    have e := lp_find (step := fun x2 σ => fX10_spotOf__L8 v x x2 σ) (p := fun i => decide (nI (hnum A i) = x)) (n := hn A) (σ := τ) (by omega)
      (fun i hi hp => by
        have hp : nI (hnum A i) = x := of_decide_eq_true hp
        unfold fX10_spotOf__L8
        rw [n_of0 h w hi]
        simp (disch := omega) only [h0, pn_lt, pn_neg, pn_eq, pn_eq0, pn_eq1, pn_eq2, pn_m1, pn_m1', pn_m1lt, pn_ix, pn_bnd, pn_add1, pn_add3, pn_mul4, nI_add, bd_some, st_eq, rd_eq, if_true, if_false, ite_true, ite_false, reduceIte, hi, hp])
      (fun i hi hp => by
        have hp : ¬ nI (hnum A i) = x := of_decide_eq_false hp
        unfold fX10_spotOf__L8
        rw [n_of0 h w hi]
        simp (disch := omega) only [h0, pn_lt, pn_neg, pn_eq, pn_eq0, pn_eq1, pn_eq2, pn_m1, pn_m1', pn_m1lt, pn_ix, pn_bnd, pn_add1, pn_add3, pn_mul4, nI_add, bd_some, st_eq, rd_eq, if_true, if_false, ite_true, ite_false, reduceIte, hi, hp])
      (by
        unfold fX10_spotOf__L8
        simp (disch := omega) only [h0, pn_lt, pn_neg, pn_eq, pn_eq0, pn_eq1, pn_eq2, pn_m1, pn_m1', pn_m1lt, pn_ix, pn_bnd, pn_add1, pn_add3, pn_mul4, nI_add, bd_some, st_eq, rd_eq, if_true, if_false, ite_true, ite_false, reduceIte, Nat.lt_irrefl]) fu 0 (Nat.zero_le _) (by have := fu_ge; omega)
    have e : lp (fun x2 σ => fX10_spotOf__L8 v x x2 σ) fu 0 τ = _ := e
    rw [e, bd_some]
    unfold findA
    rw [Nat.sub_zero]
    cases fst1 (fun i => decide (nI (hnum A i) = x)) (hn A) 0 <;> rfl
/-- a link to a young one -/
def ylk (A : Hp) (i f : Nat) : Bool := match hlk A i f with
  | none => false
  | some t => !decide (hsp A t = 2)
theorem n_isYoungLink (h : MNr (τ 66 v) A) (w : ON A) (hi : i < hn A) (hf : f < hsz A i) : fX10_isYoungLink v (nI i) (nI f) τ = some (bI (ylk A i f), τ) := by
  have hw := w.1
  have ho : ∀ t, hlk A i f = some t → t < hn A := fun t ht => (w.2.1 i hi).2.2.2.2 f t hf ht
  unfold fX10_isYoungLink ylk
  rw [n_of7 h w hi hf, bd_some, n_spotOf h w, findA_encN w ho, bd_some]
  cases hl : hlk A i f with
  | none => rw [enc_none, if_pos rfl]; rfl
  | some t =>
    have ht := ho t hl
    rw [enc_some, if_neg (by rw [pn_m1 (by omega)]; exact id), n_isOld h w ht, bd_some]
    by_cases h2 : hsp A t = 2
    · rw [if_pos h2, if_neg one_ne]
      simp [bI, h2]
    · rw [if_neg h2, if_pos rfl]
      simp [bI, h2]
end MNs
theorem drop_cons' {α : Type} {L : List α} {i : Nat} (d : α) (hi : i < L.length) : L.drop i = L.getD i d :: L.drop (i + 1) := by
  rw [List.drop_eq_getElem_cons hi]
  congr 1
  rw [List.getD_eq_getElem?_getD, List.getElem?_eq_getElem hi]
  rfl
/-- the model's row shows these pairs (number, field) as the remembered -/
def MK (m : Nat → Int32) (E : List (Nat × Nat)) : Prop := m 889 = nI E.length ∧ ∀ i, i < E.length → m (890 + 2 * i) = nI (E.getD i (0, 0)).1 ∧ m (891 + 2 * i) = nI (E.getD i (0, 0)).2
def kp (A : Hp) (q : Nat × Nat) : Bool := match findA A (nI q.1) with
  | none => false
  | some k => ylk A k q.2
set_option maxHeartbeats 2000000 in
theorem m_sifts {τ : rS} {v : Nat} {A : Hp} {E : List (Nat × Nat)} (h : MNr (τ 66 v) A) (w : ON A) (hE : MK (τ 66 v) E) (hl : E.length ≤ 176) (hq : ∀ q ∈ E, ∀ k, findA A (nI q.1) = some k → q.2 < hsz A k) : hit (fX10_sifts v τ) (fun _ s => MK (s 66 v) (E.filter (kp A)) ∧ (∀ q, (q < 889 ∨ 1242 ≤ q) → s 66 v q = τ 66 v q) ∧ ∀ c k, ¬ (c = 66 ∧ k = v) → s c k = τ c k) := by
  have hw := w.1
  unfold fX10_sifts
  refine bd_hit (hit_mono (lp_go (I := fun n x s => ∃ (i : Nat) (T : List (Nat × Nat)), x = (nI T.length, nI i) ∧ i ≤ E.length ∧ n = E.length - i ∧ T.length ≤ i ∧ T ++ (E.drop i).filter (kp A) = E.filter (kp A) ∧ (∀ p, p < T.length → s 66 v (890 + 2 * p) = nI (T.getD p (0, 0)).1 ∧ s 66 v (891 + 2 * p) = nI (T.getD p (0, 0)).2) ∧ (∀ q, (q < 890 ∨ 890 + 2 * T.length ≤ q) → s 66 v q = τ 66 v q) ∧ ∀ c k, ¬ (c = 66 ∧ k = v) → s c k = τ c k) (P := fun r s => ∃ T : List (Nat × Nat), r = nI T.length ∧ T.length ≤ 176 ∧ T = E.filter (kp A) ∧ (∀ p, p < T.length → s 66 v (890 + 2 * p) = nI (T.getD p (0, 0)).1 ∧ s 66 v (891 + 2 * p) = nI (T.getD p (0, 0)).2) ∧ (∀ q, (q < 890 ∨ 890 + 2 * T.length ≤ q) → s 66 v q = τ 66 v q) ∧ ∀ c k, ¬ (c = 66 ∧ k = v) → s c k = τ c k) ?_ fu E.length _ τ (fu_lt (by omega)) ⟨0, [], rfl, by omega, by omega, Nat.le_refl _, by rw [List.drop_zero]; rfl, fun p hp => absurd hp (Nat.not_lt_zero _), fun q _ => rfl, fun _ _ _ => rfl⟩) ?_)
  · rintro n x s ⟨i, T, rfl, hi, rfl, hT, he, g1, g2, g3⟩
    unfold fX10_sifts_L4 fX10_sifts_j85L4
    dsimp only
    have e0 : s 66 v (ix 889) = nI E.length := (g2 889 (by omega)).trans hE.1
    rw [e0]
    simp (disch := omega) only [pn_lt]
    by_cases hlt : i < E.length
    · rw [if_pos hlt]
      have ed := drop_cons' (0, 0) hlt
      have e1 : (890 : Int32) + 2 * nI i = nI (890 + 2 * i) := by rw [pn_m2]; exact nI_add 890 _
      have e2 : (891 : Int32) + 2 * nI i = nI (891 + 2 * i) := by rw [pn_m2]; exact nI_add 891 _
      have e3 : (890 : Int32) + 2 * nI T.length = nI (890 + 2 * T.length) := by rw [pn_m2]; exact nI_add 890 _
      have e4 : (891 : Int32) + 2 * nI T.length = nI (891 + 2 * T.length) := by rw [pn_m2]; exact nI_add 891 _
      have v1 : s 66 v (890 + 2 * i) = nI (E.getD i (0, 0)).1 := (g2 _ (by omega)).trans (hE.2 i hlt).1
      have v2 : s 66 v (891 + 2 * i) = nI (E.getD i (0, 0)).2 := (g2 _ (by omega)).trans (hE.2 i hlt).2
      have hN : MNr (s 66 v) A := h.congr w (fun q hq => g2 q (by omega))
      have hmem : E.getD i (0, 0) ∈ E := getD_mem' hlt
      rw [e1, e2, e3, e4]
      simp (disch := omega) only [pn_lt, pn_neg, pn_eq, pn_eq0, pn_eq1, pn_eq2, pn_m1, pn_m1', pn_m1lt, pn_ix, pn_bnd, pn_add1, pn_add3, pn_mul4, nI_add, bd_some, st_eq, rd_eq, if_true, if_false, ite_true, ite_false, reduceIte, v1, v2]
      rw [n_spotOf hN w, bd_some]
      have skip : kp A (E.getD i (0, 0)) = false → hit (some ((.inl (nI T.length, nI (i + 1)) : (Int32 × Int32) ⊕ Int32), s)) (fun q s => match q with
          | .inl y => ∃ m, m < E.length - i ∧ ∃ (i : Nat) (T : List (Nat × Nat)), y = (nI T.length, nI i) ∧ i ≤ E.length ∧ m = E.length - i ∧ T.length ≤ i ∧ T ++ (E.drop i).filter (kp A) = E.filter (kp A) ∧ (∀ p, p < T.length → s 66 v (890 + 2 * p) = nI (T.getD p (0, 0)).1 ∧ s 66 v (891 + 2 * p) = nI (T.getD p (0, 0)).2) ∧ (∀ q, (q < 890 ∨ 890 + 2 * T.length ≤ q) → s 66 v q = τ 66 v q) ∧ ∀ c k, ¬ (c = 66 ∧ k = v) → s c k = τ c k
          | .inr r => ∃ T : List (Nat × Nat), r = nI T.length ∧ T.length ≤ 176 ∧ T = E.filter (kp A) ∧ (∀ p, p < T.length → s 66 v (890 + 2 * p) = nI (T.getD p (0, 0)).1 ∧ s 66 v (891 + 2 * p) = nI (T.getD p (0, 0)).2) ∧ (∀ q, (q < 890 ∨ 890 + 2 * T.length ≤ q) → s 66 v q = τ 66 v q) ∧ ∀ c k, ¬ (c = 66 ∧ k = v) → s c k = τ c k) := fun hk =>
        ⟨E.length - (i + 1), by omega, i + 1, T, rfl, by omega, rfl, by omega, by rw [← he, ed, List.filter_cons, hk]; rfl, g1, g2, g3⟩
      cases hf : findA A (nI (E.getD i (0, 0)).1) with
      | none =>
        rw [enc_none, if_pos rfl]
        exact skip (by unfold kp; rw [hf])
      | some k =>
        have hk := (findA_lt hf).1
        have hfz := hq _ hmem k hf
        rw [enc_some, if_neg (by rw [pn_m1 (by omega)]; exact id), n_isYoungLink hN w hk hfz, bd_some]
        by_cases hy : ylk A k (E.getD i (0, 0)).2 = true
        · have hkp : kp A (E.getD i (0, 0)) = true := by unfold kp; rw [hf]; exact hy
          rw [hy, if_neg (by decide)]
          have lT : (T ++ [E.getD i (0, 0)]).length = T.length + 1 := by rw [List.length_append]; rfl
          refine hit_some ⟨E.length - (i + 1), by omega, i + 1, T ++ [E.getD i (0, 0)], by rw [lT], by omega, rfl, by omega, ?_, fun p hp => ?_, fun q hq => ?_, fun c k hck => ?_⟩
          · rw [← he, ed, List.filter_cons, hkp, List.append_assoc]; rfl
          · rw [lT] at hp
            by_cases ep : p = T.length
            · subst ep
              rw [getD_app_eq, wr_i (by omega), wr_same, show 891 + 2 * T.length = 891 + 2 * T.length from rfl, wr_same]
              exact ⟨rfl, rfl⟩
            · rw [getD_app_lt (by omega), wr_i (by omega), wr_i (by omega), wr_i (by omega), wr_i (by omega)]
              exact g1 p (by omega)
          · rw [lT] at hq
            rw [wr_i (by omega), wr_i (by omega)]
            exact g2 q (by omega)
          · exact (wrR_ne _ _ _ _ hck).trans ((wrR_ne _ _ _ _ hck).trans (g3 c k hck))
        · have hy : ylk A k (E.getD i (0, 0)).2 = false := by simpa using hy
          rw [hy, if_pos (by decide)]
          exact skip (by unfold kp; rw [hf]; exact hy)
    · rw [if_neg hlt]
      have hi' : i = E.length := by omega
      refine hit_some ⟨T, rfl, by omega, ?_, g1, g2, g3⟩
      rw [← he, hi', List.drop_length]
      exact (List.append_nil _).symm
  · rintro r s ⟨T, rfl, hT, rfl, g1, g2, g3⟩
    rw [st_eq]
    refine hit_some ⟨⟨wr_same _ _ _ _ _, fun i hi => ?_⟩, fun q hq => ?_, fun c k hck => (wrR_ne _ _ _ _ hck).trans (g3 c k hck)⟩
    · rw [wr_i (show ¬ 890 + 2 * i = ix 889 from (by omega : ¬ 890 + 2 * i = 889)), wr_i (show ¬ 891 + 2 * i = ix 889 from (by omega : ¬ 891 + 2 * i = 889))]
      exact g1 i hi
    · rw [wr_i (show ¬ q = ix 889 from (by omega : ¬ q = 889))]
      exact g2 q (by omega)
/-- an old one's link to a young one -/
def oty (A : Hp) (i f : Nat) : Bool := decide (hsp A i = 2) && ylk A i f
def kpL (A : Hp) (j f : Nat) : List (Nat × Nat) := if oty A j f = true ∧ ¬ (j, f) ∈ hrm A then hrm A ++ [(j, f)] else hrm A
theorem fst1_memL {L : List (Nat × Nat)} {x d : Nat × Nat} : (fst1 (fun i => decide (L.getD i d = x)) L.length 0).isSome = decide (x ∈ L) := by
  by_cases h : x ∈ L
  · rw [decide_eq_true h]
    obtain ⟨i, hi, e⟩ := List.getElem_of_mem h
    cases hf : fst1 (fun i => decide (L.getD i d = x)) L.length 0 with
    | some j => rfl
    | none =>
      have := fst1_none hf i (by omega) (by omega)
      have h2 : L.getD i d = x := by rw [List.getD_eq_getElem?_getD, List.getElem?_eq_getElem hi, e]; rfl
      rw [decide_eq_true h2] at this
      cases this
  · rw [decide_eq_false h]
    cases hf : fst1 (fun i => decide (L.getD i d = x)) L.length 0 with
    | none => rfl
    | some j =>
      obtain ⟨-, h2, h3, -⟩ := fst1_some hf
      exact absurd (of_decide_eq_true h3 ▸ getD_mem' (by omega)) h
theorem m_spotOfKept {τ : rS} {v j f : Nat} {A : Hp} (h : MR (τ 66 v) A) (w : OK A) (hl : (hrm A).length ≤ 176) (hj : j < hn A) (hf : f < 4) : fX10_spotOfKept v (nI (hnum A j)) (nI f) τ = some (enc (fst1 (fun i => decide ((hrm A).getD i (0, 0) = (j, f))) (hrm A).length 0), τ) := by
  have hn2 := w.num2 hj
  unfold fX10_spotOfKept
  have e0 : τ 66 v (ix 889) = nI (hrm A).length := h.rm
  have key : ∀ i, i < (hrm A).length → τ 66 v (890 + 2 * i) = nI (hnum A ((hrm A).getD i (0, 0)).1) ∧ τ 66 v (891 + 2 * i) = nI ((hrm A).getD i (0, 0)).2 := h.2.2.2.1.2
  have e := lp_find (step := fun x2 σ => fX10_spotOfKept_L2 v (nI (hnum A j)) (nI f) x2 σ) (p := fun i => decide ((hrm A).getD i (0, 0) = (j, f))) (n := (hrm A).length) (σ := τ) (by omega)
    (fun i hi hp => by
      have hp : (hrm A).getD i (0, 0) = (j, f) := of_decide_eq_true hp
      have k1 := (key i hi).1
      have k2 := (key i hi).2
      rw [hp] at k1 k2
      have e1 : (890 : Int32) + 2 * nI i = nI (890 + 2 * i) := by rw [pn_m2]; exact nI_add 890 _
      have e2 : (891 : Int32) + 2 * nI i = nI (891 + 2 * i) := by rw [pn_m2]; exact nI_add 891 _
      unfold fX10_spotOfKept_L2
      rw [e1, e2]
      simp (disch := omega) only [e0, pn_lt, pn_neg, pn_eq, pn_eq0, pn_eq1, pn_eq2, pn_m1, pn_m1', pn_m1lt, pn_ix, pn_bnd, pn_add1, pn_add3, pn_mul4, nI_add, bd_some, st_eq, rd_eq, if_true, if_false, ite_true, ite_false, reduceIte, hi, k1, k2])
    (fun i hi hp => by
      have hp : ¬ (hrm A).getD i (0, 0) = (j, f) := of_decide_eq_false hp
      have hr := w.rm (getD_mem' (d := (0, 0)) hi)
      have hr2 := w.num2 hr.1
      have hr3 := w.sz hr.1
      have e1 : (890 : Int32) + 2 * nI i = nI (890 + 2 * i) := by rw [pn_m2]; exact nI_add 890 _
      have e2 : (891 : Int32) + 2 * nI i = nI (891 + 2 * i) := by rw [pn_m2]; exact nI_add 891 _
      unfold fX10_spotOfKept_L2 fX10_spotOfKept_j39L2
      rw [e1, e2]
      simp (disch := omega) only [e0, pn_lt, pn_neg, pn_eq, pn_eq0, pn_eq1, pn_eq2, pn_m1, pn_m1', pn_m1lt, pn_ix, pn_bnd, pn_add1, pn_add3, pn_mul4, nI_add, bd_some, st_eq, rd_eq, if_true, if_false, ite_true, ite_false, reduceIte, hi, (key i hi).1, (key i hi).2]
      by_cases g1 : hnum A ((hrm A).getD i (0, 0)).1 = hnum A j
      · rw [if_pos g1]
        have g2 := w.inj hr.1 hj g1
        by_cases g3 : ((hrm A).getD i (0, 0)).2 = f
        · exact absurd (Prod.ext g2 g3) hp
        · rw [if_neg g3]
      · rw [if_neg g1])
    (by
      unfold fX10_spotOfKept_L2
      simp (disch := omega) only [e0, pn_lt, pn_neg, pn_eq, pn_eq0, pn_eq1, pn_eq2, pn_m1, pn_m1', pn_m1lt, pn_ix, pn_bnd, pn_add1, pn_add3, pn_mul4, nI_add, bd_some, st_eq, rd_eq, if_true, if_false, ite_true, ite_false, reduceIte, Nat.lt_irrefl]) fu 0 (Nat.zero_le _) (by have := fu_ge; omega)
  have e : lp (fun x2 σ => fX10_spotOfKept_L2 v (nI (hnum A j)) (nI f) x2 σ) fu 0 τ = _ := e
  rw [e, bd_some, Nat.sub_zero]
  cases fst1 (fun i => decide ((hrm A).getD i (0, 0) = (j, f))) (hrm A).length 0 <;> rfl
theorem m_keeps {τ : rS} {v j f : Nat} {A : Hp} (h : MR (τ 66 v) A) (w : OK A) (hb : Bd A) (hl : (hrm A).length < 176) (hj : j < hn A) (hf : f < hsz A j) : hit (fX10_keeps v (nI j) (nI f) τ) (fun _ s => MR (s 66 v) (sRm A (kpL A j f)) ∧ (∀ q, (q < 889 ∨ 1242 ≤ q) → s 66 v q = τ 66 v q) ∧ ∀ c k, ¬ (c = 66 ∧ k = v) → s c k = τ c k) := by
  have hw := w.n
  have hz := w.sz hj
  have hn2 := w.num2 hj
  have same : kpL A j f = hrm A → hit (some ((0 : Int32), τ)) (fun _ s => MR (s 66 v) (sRm A (kpL A j f)) ∧ (∀ q, (q < 889 ∨ 1242 ≤ q) → s 66 v q = τ 66 v q) ∧ ∀ c k, ¬ (c = 66 ∧ k = v) → s c k = τ c k) := fun e => hit_some ⟨by rw [e]; exact h, fun _ _ => rfl, fun _ _ _ => rfl⟩
  unfold fX10_keeps
  rw [e_isOld h w hj, bd_some]
  by_cases h2 : hsp A j = 2
  · rw [if_pos h2, if_neg one_ne, n_isYoungLink h.mn w.on hj hf, bd_some]
    by_cases hy : ylk A j f = true
    · have ho : oty A j f = true := by unfold oty; rw [hy, decide_eq_true h2]; rfl
      rw [hy, if_neg (by decide), e_of0 h w hj, bd_some, m_spotOfKept h w (by omega) hj (by omega), bd_some]
      have hm := fst1_memL (L := hrm A) (x := (j, f)) (d := (0, 0))
      cases hk : fst1 (fun i => decide ((hrm A).getD i (0, 0) = (j, f))) (hrm A).length 0 with
      | none =>
        rw [hk] at hm
        have hm : ¬ (j, f) ∈ hrm A := of_decide_eq_false hm.symm
        rw [enc_none, if_pos rfl, e_of0 h w hj, bd_some]
        have e0 : τ 66 v (ix 889) = nI (hrm A).length := h.rm
        have e1 : (890 : Int32) + 2 * nI (hrm A).length = nI (890 + 2 * (hrm A).length) := by rw [pn_m2]; exact nI_add 890 _
        have e2 : (891 : Int32) + 2 * nI (hrm A).length = nI (891 + 2 * (hrm A).length) := by rw [pn_m2]; exact nI_add 891 _
        rw [e0, e1, pn_bnd (by omega) (by omega), st_eq, ix_nI (by omega)]
        have e3 : wr τ 66 v (890 + 2 * (hrm A).length) (nI (hnum A j)) 66 v (ix 889) = nI (hrm A).length := by rw [wr_i (show ¬ ix 889 = _ by show ¬ 889 = _; omega)]; exact e0
        rw [e3, e2, pn_bnd (by omega) (by omega), st_eq, ix_nI (by omega)]
        have e4 : wr (wr τ 66 v (890 + 2 * (hrm A).length) (nI (hnum A j))) 66 v (891 + 2 * (hrm A).length) (nI f) 66 v (ix 889) = nI (hrm A).length := by rw [wr_i (show ¬ ix 889 = _ by show ¬ 889 = _; omega)]; exact e3
        rw [e4, pn_add1, st_eq]
        have ek : kpL A j f = hrm A ++ [(j, f)] := if_pos ⟨ho, hm⟩
        rw [ek]
        have lk : (hrm A ++ [(j, f)]).length = (hrm A).length + 1 := by rw [List.length_append]; rfl
        refine hit_some ⟨h.rm' w hb ?_ (fun i hi => ?_) (fun q h1 h2 => ?_), fun q hq => ?_, fun c k hck => ?_⟩
        · show wr _ 66 v 889 _ 66 v 889 = _
          rw [wr_same, lk]
        · rw [lk] at hi
          rw [wr_i (show ¬ 890 + 2 * i = ix 889 from (by omega : ¬ 890 + 2 * i = 889)), wr_i (show ¬ 891 + 2 * i = ix 889 from (by omega : ¬ 891 + 2 * i = 889))]
          by_cases ei : i = (hrm A).length
          · subst ei
            rw [getD_app_eq, wr_i (by omega), wr_same, wr_same]
            exact ⟨rfl, rfl⟩
          · rw [getD_app_lt (by omega), wr_i (by omega), wr_i (by omega), wr_i (by omega), wr_i (by omega)]
            exact h.2.2.2.1.2 i (by omega)
        · rw [wr_i (show ¬ q = ix 889 from (by omega : ¬ q = 889)), wr_i (by omega), wr_i (by omega)]
        · rw [wr_i (show ¬ q = ix 889 from (by omega : ¬ q = 889)), wr_i (by omega), wr_i (by omega)]
        · exact (wrR_ne _ _ _ _ hck).trans ((wrR_ne _ _ _ _ hck).trans (wrR_ne _ _ _ _ hck))
      | some i =>
        rw [hk] at hm
        have hm : (j, f) ∈ hrm A := of_decide_eq_true hm.symm
        have hi := (fst1_some hk).2.1
        rw [enc_some, if_neg (by rw [pn_m1 (by omega)]; exact id)]
        exact same (if_neg (fun z => z.2 hm))
    · have hy : ylk A j f = false := by simpa using hy
      rw [hy, if_pos (by decide)]
      exact same (if_neg (fun z => by
        have := z.1
        unfold oty at this
        rw [hy, Bool.and_false] at this
        cases this))
  · rw [if_neg h2, if_pos rfl]
    exact same (if_neg (fun z => by
      have := z.1
      unfold oty at this
      rw [decide_eq_false h2] at this
      cases this))
/-! the other side -/
theorem c_oty {σ : rS} {k j f : Nat} {A : Hp} (hC : CR σ k A) (w : OK A) (hj : j < hn A) (hf : f < hsz A j) : fX7_isOldToYoung k (nI j) (nI f) σ = some (bI (oty A j f), σ) := by
  unfold fX7_isOldToYoung oty ylk
  rw [e_isSlot hC w hj, bd_some, if_neg one_ne, e_isYoung hC w hj, bd_some]
  by_cases h2 : hsp A j = 2
  · rw [if_pos h2, if_pos rfl, e_target hC w hj hf, bd_some, decide_eq_true h2]
    cases hl : hlk A j f with
    | none => rw [enc_none, e_isYoung_n, bd_some, if_pos rfl]; rfl
    | some t =>
      have ht := w.lk hj hf hl
      rw [enc_some, e_isYoung hC w ht, bd_some]
      by_cases h3 : hsp A t = 2
      · rw [if_pos h3, if_pos rfl]; simp [bI, h3]
      · rw [if_neg h3, if_neg one_ne]; simp [bI, h3]
  · rw [if_neg h2, if_neg one_ne]; simp [bI, h2]
theorem l_find {σ : rS} {k : Nat} {xs : List Int32} (h : Ln σ k xs) (x : Int32) : fX4_find k x σ = some (enc (fst1 (fun i => decide (xs.getD i 0 = x)) xs.length 0), σ) := by
  have h80 := lnLen_le k
  have hx := h.2.1
  have h1 := h.1
  unfold fX4_find
  have e := lp_find (step := fun x2 σ => fX4_find_L2 k x x2 σ) (p := fun i => decide (xs.getD i 0 = x)) (n := xs.length) (σ := σ) (by omega)
    (fun i hi hp => by
      have hp : xs.getD i 0 = x := of_decide_eq_true hp
      have hv := h.2.2 i hi
      rw [hp] at hv
      unfold fX4_find_L2
      simp (disch := omega) only [h1, pn_lt, pn_neg, pn_eq, pn_eq0, pn_eq1, pn_eq2, pn_m1, pn_m1', pn_m1lt, pn_ix, pn_bnd, pn_add1, pn_add3, pn_mul4, nI_add, bd_some, st_eq, rd_eq, if_true, if_false, ite_true, ite_false, reduceIte, hi, hv])
    (fun i hi hp => by
      have hp : ¬ xs.getD i 0 = x := of_decide_eq_false hp
      have hv := h.2.2 i hi
      unfold fX4_find_L2
      simp (disch := omega) only [h1, pn_lt, pn_neg, pn_eq, pn_eq0, pn_eq1, pn_eq2, pn_m1, pn_m1', pn_m1lt, pn_ix, pn_bnd, pn_add1, pn_add3, pn_mul4, nI_add, bd_some, st_eq, rd_eq, if_true, if_false, ite_true, ite_false, reduceIte, hi, hv, hp])
    (by
      unfold fX4_find_L2
      simp (disch := omega) only [h1, pn_lt, pn_neg, pn_eq, pn_eq0, pn_eq1, pn_eq2, pn_m1, pn_m1', pn_m1lt, pn_ix, pn_bnd, pn_add1, pn_add3, pn_mul4, nI_add, bd_some, st_eq, rd_eq, if_true, if_false, ite_true, ite_false, reduceIte, Nat.lt_irrefl]) fu 0 (Nat.zero_le _) (by have := fu_ge; omega)
  have e : lp (fun x2 σ => fX4_find_L2 k x x2 σ) fu 0 σ = _ := e
  rw [e, bd_some, Nat.sub_zero]
  cases fst1 (fun i => decide (xs.getD i 0 = x)) xs.length 0 <;> rfl
theorem l_rem {σ : rS} {k i : Nat} {xs : List Int32} (h : Ln σ k xs) (hi : i < xs.length) : hit (fX4_removeAt k (nI i) σ) (fun _ s => Ln s k (xs.take i ++ xs.drop (i + 1))) := by
  have h80 := lnLen_le k
  have hx := h.2.1
  unfold fX4_removeAt
  rw [h.1, if_neg (nI_pos (by omega)), if_pos (by rw [pn_lt (by omega) (by omega)]; exact hi), st_eq, wr_same, pn_sub1 (by omega), pn_sub (by omega), pn_add1]
  rw [pn_bcp2 (by omega) (by omega) (by omega) (by omega), st_eq]
  have lt : (xs.take i).length = i := by rw [List.length_take]; omega
  have ll : (xs.take i ++ xs.drop (i + 1)).length = xs.length - 1 := by rw [List.length_append, lt, List.length_drop]; omega
  refine hit_some ⟨?_, by omega, fun p hp => ?_⟩
  · rw [wrR_c (by decide), wr_same, ll]
  · rw [ll] at hp
    rw [wrR_eq, show ix (nI (xs.length - 1 - i)) = xs.length - 1 - i from ix_nI (by omega), show ix (nI (i + 1)) = i + 1 from ix_nI (by omega), show ix (nI i) = i from ix_nI (by omega), wr_c (by decide)]
    show (if i ≤ p ∧ p < i + (xs.length - 1 - i) then σ 28 k (i + 1 + (p - i)) else σ 28 k p) = _
    by_cases hpi : p < i
    · rw [if_neg (by omega), getD_app_lt (by omega), h.2.2 p (by omega)]
      rw [List.getD_eq_getElem?_getD, List.getD_eq_getElem?_getD, List.getElem?_take_of_lt hpi]
    · rw [if_pos (by omega), show i + 1 + (p - i) = p + 1 by omega, h.2.2 (p + 1) (by omega)]
      rw [List.getD_eq_getElem?_getD, List.getD_eq_getElem?_getD, List.getElem?_append_right (by omega), lt, List.getElem?_drop, show i + 1 + (p - i) = p + 1 by omega]
def rfL (A : Hp) (j f : Nat) : List (Nat × Nat) := if oty A j f = true then (if (j, f) ∈ hrm A then hrm A else hrm A ++ [(j, f)]) else (hrm A).filter (fun q => !decide (q = (j, f)))
theorem rem_filter {L : List (Nat × Nat)} {i : Nat} {x : Nat × Nat} (hd : L.Nodup) (hi : i < L.length) (hx : L.getD i (0, 0) = x) : L.filter (fun q => !decide (q = x)) = L.take i ++ L.drop (i + 1) := by
  have e : L = L.take i ++ x :: L.drop (i + 1) := by
    rw [← hx, ← drop_cons' (0, 0) hi, List.take_append_drop]
  have hd2 := hd
  rw [e, List.nodup_append] at hd2
  obtain ⟨-, h2, h3⟩ := hd2
  rw [List.nodup_cons] at h2
  conv => lhs; rw [e]
  rw [List.filter_append, List.filter_cons]
  have t1 : (L.take i).filter (fun q => !decide (q = x)) = L.take i := List.filter_eq_self.mpr (fun q hq => by
    have := h3 q hq x List.mem_cons_self
    simp [this])
  have t2 : (L.drop (i + 1)).filter (fun q => !decide (q = x)) = L.drop (i + 1) := List.filter_eq_self.mpr (fun q hq => by
    have : ¬ q = x := fun e => h2.1 (e ▸ hq)
    simp [this])
  rw [t1, t2]
  simp
theorem c_refresh {σ : rS} {k j f : Nat} {A : Hp} {L : Lg} (hC : CS σ k (A, L)) (w : OK A) (hd : (hrm A).Nodup) (hl : (hrm A).length < 80) (hj : j < hn A) (hf : f < hsz A j) : hit (fX7_refreshRemembered k (nI j) (nI f) σ) (fun _ s => CS s k (sRm A (rfL A j f), L)) := by
  have hw := w.n
  have hz := w.sz hj
  have hR0 : CR σ k A := hC.1
  have hL := hR0.rm
  have e2 : lnLen (6 * k + 2) = 80 := lnLen_mod k 2
  unfold fX7_refreshRemembered
  rw [pn_mul4, nI_add, rd_eq, l_find hL, bd_some, c_oty hR0 w hj hf, bd_some]
  have ef : fst1 (fun i => decide (((hrm A).map (fun q => nI (q.1 * 4 + q.2))).getD i 0 = nI (j * 4 + f))) ((hrm A).map (fun q => nI (q.1 * 4 + q.2))).length 0 = fst1 (fun i => decide ((hrm A).getD i (0, 0) = (j, f))) (hrm A).length 0 := by
    rw [List.length_map]
    refine fst1_congr (fun i _ hi => ?_)
    have hi : i < (hrm A).length := by omega
    rw [getD_map (d := (0, 0)) hi]
    obtain ⟨r1, r2⟩ := w.rm (getD_mem' (d := (0, 0)) hi)
    have r3 := w.sz r1
    rw [decide_eq_decide, pn_eq (by omega) (by omega)]
    constructor
    · intro e; exact Prod.ext (by show _ = j; omega) (by show _ = f; omega)
    · intro e; rw [e]
  rw [ef]
  have hm := fst1_memL (L := hrm A) (x := (j, f)) (d := (0, 0))
  unfold fX7_refreshRemembered_j46
  by_cases ho : oty A j f = true
  · rw [ho]
    have hb1 : ¬ bI true = 0 := by decide
    simp only [if_neg hb1]
    cases hk : fst1 (fun i => decide ((hrm A).getD i (0, 0) = (j, f))) (hrm A).length 0 with
    | none =>
      rw [hk] at hm
      have hm : ¬ (j, f) ∈ hrm A := of_decide_eq_false hm.symm
      rw [enc_none, if_pos rfl]
      refine bd_hit (hit_mono (hit_fk (fkX4_add _ _ _) (l_add hL (nI (j * 4 + f)))) ?_)
      rintro r s ⟨hfk, hL2⟩
      rw [e2] at hL2
      have er : rfL A j f = hrm A ++ [(j, f)] := by unfold rfL; rw [if_pos ho, if_neg hm]
      rw [er]
      refine hit_some (hC.rm' hfk ?_)
      unfold addL at hL2
      rw [List.length_map, if_neg (by omega)] at hL2
      rw [List.map_append]
      exact hL2
    | some i =>
      rw [hk] at hm
      have hm : (j, f) ∈ hrm A := of_decide_eq_true hm.symm
      have hi := (fst1_some hk).2.1
      rw [enc_some, if_neg (by rw [pn_m1 (by omega)]; exact id)]
      have er : rfL A j f = hrm A := by unfold rfL; rw [if_pos ho, if_pos hm]
      rw [er]
      exact hit_some hC
  · have ho : oty A j f = false := by simpa using ho
    rw [ho]
    have hb0 : bI false = 0 := by decide
    have er : rfL A j f = (hrm A).filter (fun q => !decide (q = (j, f))) := by unfold rfL; rw [ho]; rfl
    simp only [if_pos hb0]
    rw [er]
    cases hk : fst1 (fun i => decide ((hrm A).getD i (0, 0) = (j, f))) (hrm A).length 0 with
    | none =>
      rw [hk] at hm
      have hm : ¬ (j, f) ∈ hrm A := of_decide_eq_false hm.symm
      rw [enc_none, if_pos rfl]
      have : (hrm A).filter (fun q => !decide (q = (j, f))) = hrm A := List.filter_eq_self.mpr (fun q hq => by
        have : ¬ q = (j, f) := fun e => hm (e ▸ hq)
        simp [this])
      rw [this]
      exact hit_some hC
    | some i =>
      obtain ⟨-, hi, hx, -⟩ := fst1_some hk
      rw [enc_some, if_neg (by rw [pn_m1 (by omega)]; exact id)]
      refine bd_hit (hit_mono (hit_fk (fkX4_removeAt _ _ _) (l_rem hL (i := i) (by rw [List.length_map]; omega))) ?_)
      rintro r s ⟨hfk, hL2⟩
      refine hit_some (hC.rm' hfk ?_)
      rw [rem_filter hd (by omega) (of_decide_eq_true hx), List.map_append, List.map_take, List.map_drop]
      exact hL2
