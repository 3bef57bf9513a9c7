/-! walks over fields: lists of slots in the order in which they are met -/
theorem nodup_le : ∀ {n : Nat} {L : List Nat}, L.Nodup → (∀ j ∈ L, j < n) → L.length ≤ n := by
  intro n
  induction n with
  | zero =>
    intro L _ h
    cases L with
    | nil => exact Nat.le_refl _
    | cons a L => exact absurd (h a List.mem_cons_self) (Nat.not_lt_zero _)
  | succ n ih =>
    intro L hd h
    have h1 := ih (L := L.erase n) (hd.erase n) (fun j hj => by
      have h2 := (hd.mem_erase_iff.mp hj)
      have := h j h2.2
      have := h2.1
      omega)
    have h2 : L.length ≤ (L.erase n).length + 1 := by
      by_cases hm : n ∈ L
      · rw [List.length_erase_of_mem hm]; omega
      · rw [List.erase_of_not_mem hm]; omega
    omega
def vis (Q : List Nat) (o : Option Nat) : List Nat := match o with
  | none => Q
  | some j => if j ∈ Q then Q else Q ++ [j]
theorem vis_nodup {Q : List Nat} {o : Option Nat} (h : Q.Nodup) : (vis Q o).Nodup := by
  unfold vis
  cases o with
  | none => exact h
  | some j =>
    dsimp only
    by_cases hj : j ∈ Q
    · rw [if_pos hj]; exact h
    · rw [if_neg hj]
      refine List.nodup_append.mpr ⟨h, by simp, ?_⟩
      intro a ha b hb
      simp at hb
      subst hb
      intro e
      subst e
      exact hj ha
theorem vis_lt {Q : List Nat} {o : Option Nat} {n : Nat} (h : ∀ j ∈ Q, j < n) (ho : ∀ j, o = some j → j < n) : ∀ j ∈ vis Q o, j < n := by
  unfold vis
  cases o with
  | none => exact h
  | some j =>
    dsimp only
    by_cases hj : j ∈ Q
    · rw [if_pos hj]; exact h
    · rw [if_neg hj]
      intro a ha
      rcases List.mem_append.mp ha with ha | ha
      · exact h a ha
      · simp at ha; subst ha; exact ho a rfl
theorem vis_sub {Q : List Nat} {o : Option Nat} {j : Nat} (h : j ∈ Q) : j ∈ vis Q o := by
  unfold vis
  cases o with
  | none => exact h
  | some i =>
    dsimp only
    by_cases hj : i ∈ Q
    · rw [if_pos hj]; exact h
    · rw [if_neg hj]; exact List.mem_append_left _ h
theorem vis_len {Q : List Nat} {o : Option Nat} : Q.length ≤ (vis Q o).length := by
  unfold vis
  cases o with
  | none => exact Nat.le_refl _
  | some i =>
    dsimp only
    by_cases hj : i ∈ Q
    · rw [if_pos hj]; exact Nat.le_refl _
    · rw [if_neg hj, List.length_append]; omega
theorem vis_pre {Q : List Nat} {o : Option Nat} {i : Nat} (hi : i < Q.length) : (vis Q o).getD i 0 = Q.getD i 0 := by
  unfold vis
  cases o with
  | none => rfl
  | some j =>
    dsimp only
    by_cases hj : j ∈ Q
    · rw [if_pos hj]
    · rw [if_neg hj, List.getD_eq_getElem?_getD, List.getD_eq_getElem?_getD, List.getElem?_append_left hi]
abbrev GS : Type := List Nat × (Nat → Nat) × (Nat → Int32) × (Nat → Int32)
def dOf (S : GS) (p : Option Nat) : Nat := match p with
  | none => 0
  | some q => S.2.1 q + 1
def vis3 (S : GS) (o p : Option Nat) (fl : Int32) : GS := match o with
  | none => S
  | some j => if j ∈ S.1 then S else (S.1 ++ [j], fun x => if x = j then dOf S p else S.2.1 x, fun x => if x = j then enc p else S.2.2.1 x, fun x => if x = j then fl else S.2.2.2 x)
theorem vis3_1 (S : GS) (o p : Option Nat) (fl : Int32) : (vis3 S o p fl).1 = vis S.1 o := by
  unfold vis3 vis
  cases o with
  | none => rfl
  | some j =>
    dsimp only
    by_cases hj : j ∈ S.1
    · rw [if_pos hj, if_pos hj]
    · rw [if_neg hj, if_neg hj]
/-- the class's graph shows S -/
def GC (σ : rS) (n : Nat) (S : GS) : Prop := S.1.Nodup ∧ (∀ j ∈ S.1, j < n) ∧ σ 3 0 7 = nI S.1.length ∧ (∀ i, i < S.1.length → σ 31 0 i = nI (S.1.getD i 0)) ∧ (∀ j, j < 80 → σ 30 0 j = if j ∈ S.1 then 1 else 0) ∧ (∀ j ∈ S.1, S.2.1 j < S.1.length ∧ σ 32 0 j = nI (S.2.1 j) ∧ σ 33 0 j = S.2.2.1 j ∧ σ 34 0 j = S.2.2.2 j)
/-- the model's marks show Q -/
def GM (τ : rS) (n : Nat) (Q : List Nat) : Prop := Q.Nodup ∧ (∀ j ∈ Q, j < n) ∧ τ 10 0 22 = nI Q.length ∧ (∀ i, i < Q.length → τ 69 0 i = nI (Q.getD i 0)) ∧ (∀ j, j < 80 → τ 68 0 j = if j ∈ Q then 1 else 0)
theorem hit_fr {α : Type} {W : List Nat} {σ : rS} {o : Option (α × rS)} {K : α → rS → Prop} (hf : FR W σ o) (h : hit o K) : hit o (fun r s => (∀ c, ¬ c ∈ W → s c = σ c) ∧ K r s) := by
  obtain ⟨r, s, rfl, hK⟩ := hit_iff.mp h
  exact ⟨hf r s rfl, hK⟩
theorem getD_append_lt {L : List Nat} {j i : Nat} (hi : i < L.length) : (L ++ [j]).getD i 0 = L.getD i 0 := by
  rw [List.getD_eq_getElem?_getD, List.getD_eq_getElem?_getD, List.getElem?_append_left hi]
theorem getD_append_eq {L : List Nat} {j : Nat} : (L ++ [j]).getD L.length 0 = j := by
  rw [List.getD_eq_getElem?_getD, List.getElem?_append_right (Nat.le_refl _), Nat.sub_self]
  rfl
theorem getD_mem {L : List Nat} {i : Nat} (hi : i < L.length) : L.getD i 0 ∈ L := by
  rw [List.getD_eq_getElem?_getD, List.getElem?_eq_getElem hi]
  exact List.getElem_mem hi
set_option maxHeartbeats 1000000 in
theorem c_visit {σ : rS} {n : Nat} {S : GS} (hn : n ≤ 78) (hG : GC σ n S) {o p : Option Nat} {fl : Int32} (ho : ∀ j, o = some j → j < n) (hp : ∀ q, p = some q → q ∈ S.1) : hit (fX3_visit (enc o) (enc p) fl σ) (fun _ s => GC s n (vis3 S o p fl)) := by
  obtain ⟨g1, g2, g3, g4, g5, g6⟩ := hG
  have hlen := nodup_le g1 g2
  cases o with
  | none =>
    unfold fX3_visit
    rw [enc_none, if_pos (by decide)]
    exact ⟨g1, g2, g3, g4, g5, g6⟩
  | some j =>
    have hj := ho j rfl
    unfold fX3_visit
    rw [enc_some]
    by_cases hm : j ∈ S.1
    · have e : vis3 S (some j) p fl = S := by
        unfold vis3
        dsimp only
        rw [if_pos hm]
      have h30 := g5 j (by omega)
      rw [if_pos hm] at h30
      simp (disch := omega) only [pn_lt80, pn_lt, pn_neg, pn_eq, pn_eq0, pn_eq1, pn_eq2, pn_m1, pn_m1', pn_m1lt, pn_ix, pn_bnd, pn_add1, pn_add3, pn_mul4, nI_add, bd_some, st_eq, rd_eq, if_true, if_false, ite_true, ite_false, reduceIte, h30, show j < 80 by omega, show ¬ ((1 : Int32) = 0) by decide]
      rw [e]
      exact ⟨g1, g2, g3, g4, g5, g6⟩
    · have h30 := g5 j (by omega)
      rw [if_neg hm] at h30
      have hlt : S.1.length < n := by
        refine Nat.lt_of_not_le (fun hc => ?_)
        have h1 := nodup_le (vis_nodup (o := some j) g1) (vis_lt (o := some j) g2 (fun i hi => by cases hi; exact hj))
        unfold vis at h1
        dsimp only at h1
        rw [if_neg hm, List.length_append] at h1
        simp at h1
        omega
      have key : ∀ (d : Nat), d ≤ S.1.length → d = dOf S p → hit (fX3_visit_j58 (nI j) (enc p) fl (nI d) (nI j) (wr σ 30 0 j 1)) (fun _ s => GC s n (vis3 S (some j) p fl)) := by
        intro d hd ed
        unfold fX3_visit_j58
        have e37 : wr (wr (wr (wr σ 30 0 j 1) 32 0 j (nI d)) 33 0 j (enc p)) 34 0 j fl 3 0 7 = nI S.1.length := by
          rw [wr_c (by decide), wr_c (by decide), wr_c (by decide), wr_c (by decide)]
          exact g3
        simp (disch := omega) only [pn_lt, pn_neg, pn_eq, pn_eq0, pn_eq1, pn_eq2, pn_m1, pn_m1', pn_m1lt, pn_ix, pn_bnd, pn_add1, pn_add3, pn_mul4, nI_add, bd_some, st_eq, rd_eq, if_true, if_false, ite_true, ite_false, reduceIte, e37]
        have e37' : wr (wr (wr (wr (wr σ 30 0 j 1) 32 0 j (nI d)) 33 0 j (enc p)) 34 0 j fl) 31 0 S.1.length (nI j) 3 0 7 = nI S.1.length := by
          rw [wr_c (by decide)]
          exact e37
        rw [e37', pn_add1]
        have ev : vis3 S (some j) p fl = (S.1 ++ [j], fun x => if x = j then dOf S p else S.2.1 x, fun x => if x = j then enc p else S.2.2.1 x, fun x => if x = j then fl else S.2.2.2 x) := by
          unfold vis3
          dsimp only
          rw [if_neg hm]
        rw [ev]
        refine hit_some ⟨?_, ?_, ?_, ?_, ?_, ?_⟩
        · have := vis_nodup (o := some j) g1
          unfold vis at this
          dsimp only at this
          rw [if_neg hm] at this
          exact this
        · intro a ha
          rcases List.mem_append.mp ha with ha | ha
          · exact g2 a ha
          · simp at ha; subst ha; exact hj
        · rw [wr_same]
          simp
        · intro i hi
          rw [wr_c (by decide)]
          have hi' : i < S.1.length + 1 := by simpa using hi
          by_cases ei : i = S.1.length
          · subst ei
            rw [wr_same]
            show nI j = nI ((S.1 ++ [j]).getD S.1.length 0)
            rw [getD_append_eq]
          · rw [wr_i ei, wr_c (by decide), wr_c (by decide), wr_c (by decide), wr_c (by decide)]
            show σ 31 0 i = nI ((S.1 ++ [j]).getD i 0)
            rw [getD_append_lt (by omega)]
            exact g4 i (by omega)
        · intro a ha
          rw [wr_c (by decide), wr_c (by decide), wr_c (by decide), wr_c (by decide), wr_c (by decide)]
          by_cases ea : a = j
          · subst ea
            rw [wr_same, if_pos (by simp)]
          · rw [wr_i ea, g5 a ha]
            have : (a ∈ S.1 ++ [j]) = (a ∈ S.1) := by simp [ea]
            show (if a ∈ S.1 then (1 : Int32) else 0) = if a ∈ S.1 ++ [j] then 1 else 0
            simp only [this]
        · intro a ha
          dsimp only
          have ha : a ∈ S.1 ++ [j] := ha
          by_cases ea : a = j
          · subst ea
            rw [if_pos rfl, if_pos rfl, if_pos rfl]
            refine ⟨by rw [← ed, List.length_append]; simp; omega, ?_, ?_, ?_⟩
            · rw [wr_c (by decide), wr_c (by decide), wr_c (by decide), wr_c (by decide), wr_same, ed]
            · rw [wr_c (by decide), wr_c (by decide), wr_c (by decide), wr_same]
            · rw [wr_c (by decide), wr_c (by decide), wr_same]
          · rw [if_neg ea, if_neg ea, if_neg ea]
            have ha2 : a ∈ S.1 := by simpa [ea] using ha
            obtain ⟨q0, q1, q2, q3⟩ := g6 a ha2
            refine ⟨by rw [List.length_append]; omega, ?_, ?_, ?_⟩
            · rw [wr_c (by decide), wr_c (by decide), wr_c (by decide), wr_c (by decide), wr_i ea, wr_c (by decide)]
              exact q1
            · rw [wr_c (by decide), wr_c (by decide), wr_c (by decide), wr_i ea, wr_c (by decide), wr_c (by decide)]
              exact q2
            · rw [wr_c (by decide), wr_c (by decide), wr_i ea, wr_c (by decide), wr_c (by decide), wr_c (by decide)]
              exact q3
      simp (disch := omega) only [pn_lt80, pn_lt, pn_neg, pn_eq, pn_eq0, pn_eq1, pn_eq2, pn_m1, pn_m1', pn_m1lt, pn_ix, pn_bnd, pn_add1, pn_add3, pn_mul4, nI_add, bd_some, st_eq, rd_eq, if_true, if_false, ite_true, ite_false, reduceIte, h30, g3, show j < 80 by omega, show S.1.length < 80 by omega]
      cases p with
      | none =>
        rw [if_pos enc_none]
        exact key 0 (by omega) rfl
      | some q =>
        have hq := hp q rfl
        have hq2 := g2 q hq
        have hd := (g6 q hq).1
        have e32 : wr σ 30 0 j 1 32 0 q = nI (S.2.1 q) := by
          rw [wr_c (by decide)]
          exact (g6 q hq).2.1
        rw [enc_some]
        simp (disch := omega) only [pn_lt, pn_neg, pn_eq, pn_eq0, pn_eq1, pn_eq2, pn_m1, pn_m1', pn_m1lt, pn_ix, pn_bnd, pn_add1, pn_add3, pn_mul4, nI_add, bd_some, st_eq, rd_eq, if_true, if_false, ite_true, ite_false, reduceIte, e32]
        exact key (S.2.1 q + 1) (by omega) rfl
theorem m_marks {τ : rS} {n : Nat} {Q : List Nat} (hn : n ≤ 78) (hG : GM τ n Q) {o : Option Nat} (ho : ∀ j, o = some j → j < n) : hit (fX10_marks (enc o) τ) (fun _ s => GM s n (vis Q o)) := by
  obtain ⟨g1, g2, g3, g4, g5⟩ := hG
  have hlen := nodup_le g1 g2
  cases o with
  | none =>
    unfold fX10_marks
    rw [enc_none, if_pos rfl]
    exact ⟨g1, g2, g3, g4, g5⟩
  | some j =>
    have hj := ho j rfl
    unfold fX10_marks
    rw [enc_some]
    by_cases hm : j ∈ Q
    · have e : vis Q (some j) = Q := if_pos hm
      have h30 := g5 j (by omega)
      rw [if_pos hm] at h30
      simp (disch := omega) only [pn_lt, pn_neg, pn_eq, pn_eq0, pn_eq1, pn_eq2, pn_m1, pn_m1', pn_m1lt, pn_ix, pn_bnd, pn_add1, pn_add3, pn_mul4, nI_add, bd_some, st_eq, rd_eq, if_true, if_false, ite_true, ite_false, reduceIte, h30, show ¬ ((1 : Int32) = 0) by decide]
      rw [e]
      exact ⟨g1, g2, g3, g4, g5⟩
    · have h30 := g5 j (by omega)
      rw [if_neg hm] at h30
      have e : vis Q (some j) = Q ++ [j] := if_neg hm
      have hlt : Q.length < n := by
        refine Nat.lt_of_not_le (fun hc => ?_)
        have h1 := nodup_le (vis_nodup (o := some j) g1) (vis_lt (o := some j) g2 (fun i hi => by cases hi; exact hj))
        rw [e, List.length_append] at h1
        simp at h1
        omega
      have e1 : wr τ 68 0 j 1 10 0 22 = nI Q.length := by rw [wr_c (by decide)]; exact g3
      have e2 : wr (wr τ 68 0 j 1) 69 0 Q.length (nI j) 10 0 22 = nI Q.length := by rw [wr_c (by decide)]; exact e1
      simp (disch := omega) only [pn_lt, pn_neg, pn_eq, pn_eq0, pn_eq1, pn_eq2, pn_m1, pn_m1', pn_m1lt, pn_ix, pn_bnd, pn_add1, pn_add3, pn_mul4, nI_add, bd_some, st_eq, rd_eq, if_true, if_false, ite_true, ite_false, reduceIte, h30, e1, e2]
      rw [e]
      refine hit_some ⟨?_, ?_, ?_, ?_, ?_⟩
      · rw [← e]; exact vis_nodup g1
      · rw [← e]; exact vis_lt g2 (fun i hi => by cases hi; exact hj)
      · rw [wr_same]; simp
      · intro i hi
        rw [wr_c (by decide)]
        have hi' : i < Q.length + 1 := by simpa using hi
        by_cases ei : i = Q.length
        · subst ei
          rw [wr_same, getD_append_eq]
        · rw [wr_i ei, wr_c (by decide), getD_append_lt (by omega)]
          exact g4 i (by omega)
      · intro a ha
        rw [wr_c (by decide), wr_c (by decide)]
        by_cases ea : a = j
        · subst ea
          rw [wr_same, if_pos (by simp)]
        · rw [wr_i ea, g5 a ha]
          have : (a ∈ Q ++ [j]) = (a ∈ Q) := by simp [ea]
          simp only [this]
