/-! a MINOR's moves, the model's side -/
def rowH (A B : Hp) (c : Nat → Nat) (P : Pn) : Hp := sTl (mvP B (pO P) P) (tlA (htl A) (cM c (pO P) P) 0)
def setJ (H : Hp) (j : Nat) (a : Int32) (sp pl : Nat) (g : Nat → Int32) : Hp := (H.1, fun c i => if c = 2 then upx (H.2.1 2) j sp i else if c = 3 then upx (H.2.1 3) j pl i else H.2.1 c i, fun c i => if c = 2 then upx (H.2.2.1 2) j a i else H.2.2.1 c i, H.2.2.2.1, H.2.2.2.2.1, H.2.2.2.2.2.1, H.2.2.2.2.2.2.1, H.2.2.2.2.2.2.2.1, g, H.2.2.2.2.2.2.2.2.2)
theorem rowH_snoc {A B : Hp} {c : Nat → Nat} {P P' : Pn} {j sp pl : Nat} (hO : pO P' = pO P ++ [j]) (hS : pSp P' = upx (pSp P) j sp) (hL : pPl P' = upx (pPl P) j pl) (hj : ¬ j ∈ pO P) : rowH A B c P' = setJ (rowH A B c P) j (hag B j + 1) sp pl (tlA (htl A) (cM c (pO P') P') 0) := by
  have mem : ∀ i, ¬ i = j → (i ∈ pO P ++ [j]) = (i ∈ pO P) := fun i hne => propext ⟨fun z => (mem_snoc.mp z).resolve_right hne, fun z => mem_snoc.mpr (Or.inl z)⟩
  have memj : j ∈ pO P ++ [j] := mem_snoc.mpr (Or.inr rfl)
  unfold rowH
  rw [hO]
  have e1 : (mvP B (pO P ++ [j]) P').2.1 = (setJ (sTl (mvP B (pO P) P) (tlA (htl A) (cM c (pO P) P) 0)) j (hag B j + 1) sp pl (tlA (htl A) (cM c (pO P ++ [j]) P') 0)).2.1 := by
    funext x i
    show (if x = 2 then (if i ∈ pO P ++ [j] then pSp P' i else B.2.1 2 i) else if x = 3 then (if i ∈ pO P ++ [j] then pPl P' i else B.2.1 3 i) else B.2.1 x i) = (if x = 2 then upx (fun i => if i ∈ pO P then pSp P i else B.2.1 2 i) j sp i else if x = 3 then upx (fun i => if i ∈ pO P then pPl P i else B.2.1 3 i) j pl i else (if x = 2 then (if i ∈ pO P then pSp P i else B.2.1 2 i) else if x = 3 then (if i ∈ pO P then pPl P i else B.2.1 3 i) else B.2.1 x i))
    by_cases x2 : x = 2
    · rw [if_pos x2, if_pos x2, hS]
      by_cases ei : i = j
      · subst ei; rw [if_pos memj, upx_same, upx_same]
      · rw [upx_ne ei, upx_ne ei]; simp only [mem i ei]
    · rw [if_neg x2, if_neg x2]
      by_cases x3 : x = 3
      · rw [if_pos x3, if_pos x3, hL]
        by_cases ei : i = j
        · subst ei; rw [if_pos memj, upx_same, upx_same]
        · rw [upx_ne ei, upx_ne ei]; simp only [mem i ei]
      · rw [if_neg x3, if_neg x3, if_neg x2, if_neg x3]
  have e2 : (mvP B (pO P ++ [j]) P').2.2.1 = (setJ (sTl (mvP B (pO P) P) (tlA (htl A) (cM c (pO P) P) 0)) j (hag B j + 1) sp pl (tlA (htl A) (cM c (pO P ++ [j]) P') 0)).2.2.1 := by
    funext x i
    show (if x = 2 then (if i ∈ pO P ++ [j] then B.2.2.1 2 i + 1 else B.2.2.1 2 i) else B.2.2.1 x i) = (if x = 2 then upx (fun i => if i ∈ pO P then B.2.2.1 2 i + 1 else B.2.2.1 2 i) j (hag B j + 1) i else (if x = 2 then (if i ∈ pO P then B.2.2.1 2 i + 1 else B.2.2.1 2 i) else B.2.2.1 x i))
    by_cases x2 : x = 2
    · rw [if_pos x2, if_pos x2]
      by_cases ei : i = j
      · subst ei; rw [if_pos memj, upx_same]; rfl
      · rw [upx_ne ei]; simp only [mem i ei]
    · rw [if_neg x2, if_neg x2, if_neg x2]
  refine Prod.ext rfl (Prod.ext e1 (Prod.ext e2 rfl))
theorem MR.setJ {m m' : Nat → Int32} {H : Hp} (h : MR m H) (w : ON H) (hb : Bd H) {j sp pl : Nat} {a : Int32} {g : Nat → Int32} (hj : j < hn H) (e5 : m' (5 + 11 * j) = a) (e6 : m' (6 + 11 * j) = nI sp) (e7 : m' (7 + 11 * j) = nI pl) (et : ∀ t, t < 8 → m' (1364 + t) = g t) (e : ∀ i, i < 1373 → ¬ (i = 5 + 11 * j ∨ i = 6 + 11 * j ∨ i = 7 + 11 * j) → ¬ (1364 ≤ i ∧ i < 1372) → m' i = m i) : MR m' (setJ H j a sp pl g) := by
  have hw := w.1
  obtain ⟨b1, b2, b3⟩ := hb
  obtain ⟨h1, h2, h3, ⟨h4, h5⟩, ⟨h6, h7⟩, ⟨h8, h9⟩, h10, h11⟩ := h
  refine ⟨by rw [e 0 (by omega) (by omega) (by omega)]; exact h1, fun i hi => ?_, fun q hq => by rw [e _ (by omega) (by omega) (by omega)]; exact h3 q hq, ⟨by rw [e _ (by omega) (by omega) (by omega)]; exact h4, fun i hi => ?_⟩, ⟨by rw [e _ (by omega) (by omega) (by omega)]; exact h6, fun i hi => ?_⟩, ⟨by rw [e _ (by omega) (by omega) (by omega)]; exact h8, fun i hi => ?_⟩, et, by rw [e _ (by omega) (by omega) (by omega)]; exact h11⟩
  · have hi : i < hn H := hi
    have hz := (w.2.1 i hi).2.1
    obtain ⟨⟨q1, q2, q3, q4, q5, q6, q7⟩, q8⟩ := h2 i hi
    unfold MRo
    rw [e (1 + 11 * i) (by omega) (by omega) (by omega), e (2 + 11 * i) (by omega) (by omega) (by omega), e (3 + 11 * i) (by omega) (by omega) (by omega), e (4 + 11 * i) (by omega) (by omega) (by omega)]
    refine ⟨⟨q1, q2, q3, q4, ?_, ?_, ?_⟩, fun f hf => by have hf : f < hsz H i := hf; rw [e _ (by omega) (by omega) (by omega)]; exact q8 f hf⟩
    · show _ = upx (hag H) j a i
      by_cases ei : i = j
      · subst ei; rw [upx_same]; exact e5
      · rw [upx_ne ei, e _ (by omega) (by omega) (by omega)]; exact q5
    · show _ = nI (upx (hsp H) j sp i)
      by_cases ei : i = j
      · subst ei; rw [upx_same]; exact e6
      · rw [upx_ne ei, e _ (by omega) (by omega) (by omega)]; exact q6
    · show _ = nI (upx (hpl H) j pl i)
      by_cases ei : i = j
      · subst ei; rw [upx_same]; exact e7
      · rw [upx_ne ei, e _ (by omega) (by omega) (by omega)]; exact q7
  · have hi : i < (hrm H).length := hi
    rw [e _ (by omega) (by omega) (by omega), e _ (by omega) (by omega) (by omega)]; exact h5 i hi
  · have hi : i < (hen H).length := hi
    rw [e _ (by omega) (by omega) (by omega)]; exact h7 i hi
  · have hi : i < (hlo H).length := hi
    rw [e _ (by omega) (by omega) (by omega)]; exact h9 i hi
/-- B is A, but for links, ends, lost and the like -/
def ShB (A B : Hp) : Prop := B.1 = A.1 ∧ B.2.1 = A.2.1 ∧ B.2.2.1 = A.2.2.1 ∧ (∀ i f, fst0 A i ≤ f → hlk B i f = hlk A i f) ∧ hrt B = hrt A ∧ hrm B = hrm A
theorem ShB.n {A B : Hp} (h : ShB A B) : hn B = hn A := h.1
theorem ShB.sz {A B : Hp} (h : ShB A B) : hsz B = hsz A := by unfold hsz; rw [h.2.1]
theorem ShB.sp {A B : Hp} (h : ShB A B) : hsp B = hsp A := by unfold hsp; rw [h.2.1]
theorem ShB.ag {A B : Hp} (h : ShB A B) : hag B = hag A := by unfold hag; rw [h.2.2.1]
theorem ShB.kd {A B : Hp} (h : ShB A B) : hkd B = hkd A := by unfold hkd; rw [h.2.2.1]
theorem ShB.f0 {A B : Hp} (h : ShB A B) : fst0 B = fst0 A := by unfold fst0; rw [h.kd]
theorem rowH_OK {A B : Hp} {c : Nat → Nat} {P : Pn} (w : OK B) (hs : ∀ j ∈ pO P, pSp P j ≤ 2 ∧ pPl P j ≤ 128) : OK (rowH A B c P) := by
  refine ⟨w.1, fun i hi => ?_, w.2.2⟩
  obtain ⟨o1, o2, o3, o4, o5⟩ := w.2.1 i hi
  refine ⟨o1, o2, ?_, ?_, o5⟩
  · show (if i ∈ pO P then pSp P i else hsp B i) ≤ 2
    by_cases h : i ∈ pO P
    · rw [if_pos h]; exact (hs i h).1
    · rw [if_neg h]; exact o3
  · show (if i ∈ pO P then pPl P i else hpl B i) ≤ 128
    by_cases h : i ∈ pO P
    · rw [if_pos h]; exact (hs i h).2
    · rw [if_neg h]; exact o4
def PMv (τ : rS) (v : Nat) (A B : Hp) (c : Nat → Nat) (P : Pn) : Prop := MR (τ 66 v) (rowH A B c P) ∧ GM τ (hn A) (pO P) ∧ τ 10 0 25 = nI (pF1 P) ∧ τ 10 0 26 = nI (pF2 P) ∧ τ 10 0 27 = 0
def PMs (τ : rS) (v : Nat) (A : Hp) : Prop := τ 10 0 27 = 1 ∧ ∃ H Q, MR (τ 66 v) H ∧ OK H ∧ Bd H ∧ (∀ i, hkd H i = 1 → i < hn H → 1 ≤ hsz H i) ∧ hn H = hn A ∧ GM τ (hn A) Q
def PMo (τ : rS) (v : Nat) (A B : Hp) (c : Nat → Nat) (P : Pn) : Prop := if pX P = true then PMs τ v A else PMv τ v A B c P
def LGr (τ s : rS) (v : Nat) : Prop := ∀ i, 1373 ≤ i → s 66 v i = τ 66 v i
theorem cM_congr {c : Nat → Nat} {O : List Nat} {P P' : Pn} (h : ∀ j ∈ O, pSp P' j = pSp P j) : cM c O P' = cM c O P := by
  unfold cM
  rw [List.filter_congr (fun j hj => by rw [h j hj])]
theorem tlA_ge {h : Nat → Int32} {c : Nat → Nat} {t : Nat} (ht : 3 ≤ t) : tlA h c 0 t = h t + nI (c (t - 3)) := if_pos (by omega)
theorem tlA_lt {h : Nat → Int32} {c : Nat → Nat} {t : Nat} (ht : t < 3) : tlA h c 0 t = h t := if_neg (by omega)
theorem cM_t {h : Nat → Int32} {c : Nat → Nat} {O : List Nat} {P P' : Pn} {j sp : Nat} (hS : pSp P' = upx (pSp P) j sp) (hj : ¬ j ∈ O) (t : Nat) : tlA h (cM c (O ++ [j]) P') 0 t = if t = 3 then tlA h (cM c O P) 0 3 + 1 else if t = 4 ∧ sp = 2 then tlA h (cM c O P) 0 4 + 1 else tlA h (cM c O P) 0 t := by
  have e0 : cM c O P' = cM c O P := cM_congr (fun i hi => by
    have hne : ¬ i = j := fun e => hj (e ▸ hi)
    rw [hS, upx_ne hne])
  have e1 := cM_snoc (c := c) (O := O) (P := P') (j := j)
  rw [e0, hS, upx_same] at e1
  have ad : ∀ (x : Int32) (n : Nat), x + nI n + 1 = x + nI (n + 1) := fun x n => by
    rw [← pn_add1, Int32.add_assoc]
  by_cases t3 : t = 3
  · subst t3
    rw [if_pos rfl, tlA_ge (by omega), tlA_ge (by omega), ad, e1]
    congr 2
    by_cases s2 : sp = 2
    · rw [if_pos s2, upx_ne (by omega)]; exact upx_same
    · rw [if_neg s2]; exact upx_same
  · rw [if_neg t3]
    by_cases t4 : t = 4
    · subst t4
      by_cases s2 : sp = 2
      · rw [if_pos ⟨rfl, s2⟩, tlA_ge (by omega), tlA_ge (by omega), ad, e1, if_pos s2]
        congr 2
      · rw [if_neg (fun z => s2 z.2), tlA_ge (by omega), tlA_ge (by omega), e1, if_neg s2]
        congr 2
    · rw [if_neg (fun z => t4 z.1)]
      by_cases g : 3 ≤ t
      · rw [tlA_ge g, tlA_ge g, e1]
        congr 2
        by_cases s2 : sp = 2
        · rw [if_pos s2, upx_ne (by omega), upx_ne (by omega)]
        · rw [if_neg s2, upx_ne (by omega)]
      · rw [tlA_lt (by omega), tlA_lt (by omega)]
set_option maxHeartbeats 4000000 in
theorem m_mvJ {τ : rS} {v j sp : Nat} {A B : Hp} {c : Nat → Nat} {P P' : Pn} {x4 : Int32} (hM : MR (τ 66 v) (rowH A B c P)) (w : OK (rowH A B c P)) (hb : Bd B) (hn' : hn B = hn A) (hG : GM τ (hn A) (pO P)) (hj : j < hn A) (hm : ¬ j ∈ pO P) (h25 : τ 10 0 25 = nI (pF1 P)) (h26 : τ 10 0 26 = nI (pF2 P)) (hx : (x4 = 1 ∧ sp = 1 ∧ P' = pm1 A P j) ∨ (x4 = 0 ∧ sp = 2 ∧ P' = pm2 A P j)) : hit (fX10_moves_j102 v (nI j) (nI (3 + hsz A j)) x4 (wr τ 66 v (1 + 11 * j + 4) (hag B j + 1))) (fun _ s => MR (s 66 v) (rowH A B c P') ∧ GM s (hn A) (pO P') ∧ s 10 0 25 = nI (pF1 P') ∧ s 10 0 26 = nI (pF2 P') ∧ s 10 0 27 = τ 10 0 27 ∧ LGr τ s v ∧ s 10 0 24 = τ 10 0 24) := by
  have hw := w.n
  have hn78 : hn A ≤ 78 := by rw [← hn']; exact hw
  have hg2 := hG.2.2.1
  have eO : pO P' = pO P ++ [j] := by rcases hx with ⟨-, -, e⟩ | ⟨-, -, e⟩ <;> rw [e] <;> rfl
  have eS : pSp P' = upx (pSp P) j sp := by rcases hx with ⟨-, e2, e⟩ | ⟨-, e2, e⟩ <;> rw [e, e2] <;> rfl
  obtain ⟨pl, hpl⟩ : ∃ pl, pl = (if sp = 1 then pF1 P else pF2 P) := ⟨_, rfl⟩
  have eL : pPl P' = upx (pPl P) j pl := by
    rcases hx with ⟨-, e2, e⟩ | ⟨-, e2, e⟩
    · rw [e, hpl, e2]; rfl
    · rw [e, hpl, e2]; rfl
  have c5 : ∀ σ : rS, fX10_cell (nI j) 5 σ = some (nI (1 + 11 * j + 5), σ) := fun σ => by
    unfold fX10_cell
    have : (1 + 11 * nI j) + 5 = nI (1 + 11 * j + 5) := pm_cell j 5
    rw [this]
  have c6 : ∀ σ : rS, fX10_cell (nI j) 6 σ = some (nI (1 + 11 * j + 6), σ) := fun σ => by
    unfold fX10_cell
    have : (1 + 11 * nI j) + 6 = nI (1 + 11 * j + 6) := pm_cell j 6
    rw [this]
  have old3 : τ 66 v 1367 = tlA (htl A) (cM c (pO P) P) 0 3 := hM.tl (t := 3) (by omega)
  have old4 : τ 66 v 1368 = tlA (htl A) (cM c (pO P) P) 0 4 := hM.tl (t := 4) (by omega)
  have hmv := rowH_snoc (A := A) (B := B) (c := c) eO eS eL hm
  have tal := fun t => cM_t (h := htl A) (c := c) (O := pO P) (P := P) (P' := P') (j := j) eS hm t
  have hbR : Bd (rowH A B c P) := hb
  have fin : ∀ (t : rS), (∀ q, t 66 v q = if q = 1 + 11 * j + 6 then nI pl else if q = 1 + 11 * j + 5 then nI sp else if q = 1 + 11 * j + 4 then hag B j + 1 else if q = 1367 then tlA (htl A) (cM c (pO P) P) 0 3 + 1 else if q = 1368 ∧ sp = 2 then tlA (htl A) (cM c (pO P) P) 0 4 + 1 else τ 66 v q) → t 68 = τ 68 → t 69 = τ 69 → t 10 0 22 = τ 10 0 22 → t 10 0 25 = nI (pF1 P') → t 10 0 26 = nI (pF2 P') → t 10 0 27 = τ 10 0 27 → t 10 0 24 = τ 10 0 24 → hit (fX10_moves_j194 (nI j) t) (fun _ s => MR (s 66 v) (rowH A B c P') ∧ GM s (hn A) (pO P') ∧ s 10 0 25 = nI (pF1 P') ∧ s 10 0 26 = nI (pF2 P') ∧ s 10 0 27 = τ 10 0 27 ∧ LGr τ s v ∧ s 10 0 24 = τ 10 0 24) := fun t ht t68 t69 t22 t25 t26 t27 t24 => by
    unfold fX10_moves_j194
    have hGt : GM t (hn A) (pO P) := by
      unfold GM at hG ⊢
      rw [t68, t69, t22]; exact hG
    have hmk := m_marks (o := some j) hn78 hGt (fun i hi => by cases hi; exact hj)
    have ev : vis (pO P) (some j) = pO P ++ [j] := if_neg hm
    rw [ev] at hmk
    have h68 := hGt.2.2.2.2 j (by omega)
    rw [if_neg hm] at h68
    have hms : fX10_marks (nI j) t = some (0, wr (wr (wr t 68 0 j 1) 69 0 (pO P).length (nI j)) 10 0 22 (nI ((pO P).length + 1))) := by
      have hl := lt_of_new hG.1 hG.2.1 hj hm
      have e22 : t 10 0 22 = nI (pO P).length := by rw [t22]; exact hg2
      unfold fX10_marks
      have q1 : wr t 68 0 j 1 10 0 22 = nI (pO P).length := by rw [wr_c (by decide)]; exact e22
      have q2 : wr (wr t 68 0 j 1) 69 0 (pO P).length (nI j) 10 0 22 = nI (pO P).length := by rw [wr_c (by decide)]; exact q1
      simp (disch := omega) only [pn_lt, pn_neg, pn_eq, pn_eq0, pn_eq1, pn_eq2, pn_m1, pn_m1', pn_m1lt, pn_ix, pn_bnd, pn_add1, pn_add3, pn_mul4, nI_add, bd_some, st_eq, rd_eq, if_true, if_false, ite_true, ite_false, reduceIte, h68, q1, q2]
    rw [show (enc (some j) : Int32) = nI j from rfl, hms] at hmk
    rw [hms, bd_some]
    refine hit_some ⟨?_, by rw [eO]; exact hmk, ?_, ?_, ?_, fun i hi => ?_, ?_⟩
    · rw [wr_c (by decide), wr_c (by decide), wr_c (by decide), hmv]
      refine MR.setJ hM w.on hbR (show j < hn (rowH A B c P) from by show j < hn B; rw [hn']; exact hj) ?_ ?_ ?_ (fun q hq => ?_) (fun i h1 h2 h3 => ?_)
      · rw [ht, if_neg (by omega), if_neg (by omega), if_pos (by omega)]
      · rw [ht, if_neg (by omega), if_pos (by omega)]
      · rw [ht, if_pos (by omega)]
      · rw [ht, if_neg (by omega), if_neg (by omega), if_neg (by omega), eO, tal]
        by_cases q3 : q = 3
        · subst q3; rw [if_pos rfl, if_pos rfl]
        · rw [if_neg (by omega), if_neg q3]
          by_cases q4 : q = 4 ∧ sp = 2
          · rw [if_pos (by omega), if_pos q4]
          · rw [if_neg (by omega), if_neg q4]; exact hM.tl hq
      · rw [ht, if_neg (by omega), if_neg (by omega), if_neg (by omega), if_neg (by omega), if_neg (by omega)]
    · rw [wr_i (by decide), wr_c (by decide), wr_c (by decide)]; exact t25
    · rw [wr_i (by decide), wr_c (by decide), wr_c (by decide)]; exact t26
    · rw [wr_i (by decide), wr_c (by decide), wr_c (by decide)]; exact t27
    · rw [wr_c (by decide), wr_c (by decide), wr_c (by decide), ht, if_neg (by omega), if_neg (by omega), if_neg (by omega), if_neg (by omega), if_neg (by omega)]
    · rw [wr_i (by decide), wr_c (by decide), wr_c (by decide)]; exact t24
  unfold fX10_moves_j102
  rw [c5, bd_some]
  obtain ⟨σ1, hσ1⟩ : ∃ σ1, σ1 = wr τ 66 v (1 + 11 * j + 4) (hag B j + 1) := ⟨_, rfl⟩
  rw [← hσ1]
  have s10 : σ1 10 = τ 10 := by rw [hσ1, wr_c (by decide)]
  have goal : ∀ (z : Int32), z = nI sp → hit (fX10_moves_j118 v (nI j) (nI (3 + hsz A j)) x4 z (nI (1 + 11 * j + 5)) v σ1) (fun _ s => MR (s 66 v) (rowH A B c P') ∧ GM s (hn A) (pO P') ∧ s 10 0 25 = nI (pF1 P') ∧ s 10 0 26 = nI (pF2 P') ∧ s 10 0 27 = τ 10 0 27 ∧ LGr τ s v ∧ s 10 0 24 = τ 10 0 24) := fun z hz => by
    rw [hz]
    unfold fX10_moves_j118
    rw [pn_bnd (by omega) (by omega), st_eq, c6, bd_some, ix_nI (by omega)]
    have e26 : wr σ1 66 v (1 + 11 * j + 5) (nI sp) 10 0 26 = nI (pF2 P) := by rw [wr_c (by decide), s10]; exact h26
    have e25 : wr σ1 66 v (1 + 11 * j + 5) (nI sp) 10 0 25 = nI (pF1 P) := by rw [wr_c (by decide), s10]; exact h25
    rw [e26, e25]
    unfold fX10_moves_j142 fX10_moves_j171
    rw [pn_bnd (by omega) (by omega), pn_bnd (by omega) (by omega), st_eq, st_eq, ix_nI (by omega)]
    rcases hx with ⟨rfl, rfl, rfl⟩ | ⟨rfl, rfl, rfl⟩
    · have epl : pl = pF1 P := by rw [hpl, if_pos rfl]
      simp only [if_neg one_ne, st_eq]
      have e25b : wr (wr σ1 66 v (1 + 11 * j + 5) (nI 1)) 66 v (1 + 11 * j + 6) (nI (pF1 P)) 10 0 25 = nI (pF1 P) := by rw [wr_c (by decide)]; exact e25
      rw [e25b, nI_add]
      have e67 : wr (wr (wr σ1 66 v (1 + 11 * j + 5) (nI 1)) 66 v (1 + 11 * j + 6) (nI (pF1 P))) 10 0 25 (nI (pF1 P + (3 + hsz A j))) 66 v (ix 1367) = tlA (htl A) (cM c (pO P) P) 0 3 := by
        rw [wr_c (by decide), wr_i (show ¬ ix 1367 = 1 + 11 * j + 6 by show ¬ 1367 = _; omega), wr_i (show ¬ ix 1367 = 1 + 11 * j + 5 by show ¬ 1367 = _; omega), hσ1, wr_i (show ¬ ix 1367 = 1 + 11 * j + 4 by show ¬ 1367 = _; omega)]
        exact old3
      rw [e67]
      refine fin _ (fun q => ?_) ?_ ?_ ?_ ?_ ?_ ?_ ?_
      · by_cases a1 : q = 1367
        · subst a1
          rw [if_neg (by omega), if_neg (by omega), if_neg (by omega), if_pos rfl]
          exact wr_same _ _ _ _ _
        · rw [wr_i (show ¬ q = ix 1367 from a1), wr_c (by decide)]
          by_cases a2 : q = 1 + 11 * j + 6
          · subst a2; rw [wr_same, if_pos rfl, epl]
          · rw [wr_i a2, if_neg a2]
            by_cases a3 : q = 1 + 11 * j + 5
            · subst a3; rw [wr_same, if_pos rfl]
            · rw [wr_i a3, if_neg a3, hσ1]
              by_cases a4 : q = 1 + 11 * j + 4
              · subst a4; rw [wr_same, if_pos rfl]
              · rw [wr_i a4, if_neg a4, if_neg a1, if_neg (by omega)]
      · rw [wr_c (by decide), wr_c (by decide), wr_c (by decide), wr_c (by decide), hσ1, wr_c (by decide)]
      · rw [wr_c (by decide), wr_c (by decide), wr_c (by decide), wr_c (by decide), hσ1, wr_c (by decide)]
      · rw [wr_c (by decide), wr_i (by decide), wr_c (by decide), wr_c (by decide), s10]
      · rw [wr_c (by decide), wr_same]; rfl
      · rw [wr_c (by decide), wr_i (by decide), wr_c (by decide), wr_c (by decide), s10]; exact h26
      · rw [wr_c (by decide), wr_i (by decide), wr_c (by decide), wr_c (by decide), s10]
      · rw [wr_c (by decide), wr_i (by decide), wr_c (by decide), wr_c (by decide), s10]
    · have epl : pl = pF2 P := by rw [hpl, if_neg (by decide)]
      simp only [if_pos, st_eq]
      have e26b : wr (wr σ1 66 v (1 + 11 * j + 5) (nI 2)) 66 v (1 + 11 * j + 6) (nI (pF2 P)) 10 0 26 = nI (pF2 P) := by rw [wr_c (by decide)]; exact e26
      rw [e26b, nI_add]
      have r67 : ∀ q, 1364 ≤ q → wr (wr (wr σ1 66 v (1 + 11 * j + 5) (nI 2)) 66 v (1 + 11 * j + 6) (nI (pF2 P))) 10 0 26 (nI (pF2 P + (3 + hsz A j))) 66 v q = τ 66 v q := fun q hq => by
        rw [wr_c (by decide), wr_i (by omega), wr_i (by omega), hσ1, wr_i (by omega)]
      have e67 : wr (wr (wr σ1 66 v (1 + 11 * j + 5) (nI 2)) 66 v (1 + 11 * j + 6) (nI (pF2 P))) 10 0 26 (nI (pF2 P + (3 + hsz A j))) 66 v (ix 1367) = tlA (htl A) (cM c (pO P) P) 0 3 := (r67 1367 (by omega)).trans old3
      rw [e67]
      have e68 : wr (wr (wr (wr σ1 66 v (1 + 11 * j + 5) (nI 2)) 66 v (1 + 11 * j + 6) (nI (pF2 P))) 10 0 26 (nI (pF2 P + (3 + hsz A j)))) 66 v (ix 1367) (tlA (htl A) (cM c (pO P) P) 0 3 + 1) 66 v (ix 1368) = tlA (htl A) (cM c (pO P) P) 0 4 := by
        rw [wr_i (show ¬ ix 1368 = ix 1367 from (by decide : ¬ 1368 = 1367))]
        exact (r67 1368 (by omega)).trans old4
      rw [e68]
      refine fin _ (fun q => ?_) ?_ ?_ ?_ ?_ ?_ ?_ ?_
      · by_cases a0 : q = 1368
        · subst a0
          rw [if_neg (by omega), if_neg (by omega), if_neg (by omega), if_neg (by omega), if_pos (by omega)]
          exact wr_same _ _ _ _ _
        · rw [wr_i (show ¬ q = ix 1368 from a0)]
          by_cases a1 : q = 1367
          · subst a1
            rw [if_neg (by omega), if_neg (by omega), if_neg (by omega), if_pos rfl]
            exact wr_same _ _ _ _ _
          · rw [wr_i (show ¬ q = ix 1367 from a1), wr_c (by decide)]
            by_cases a2 : q = 1 + 11 * j + 6
            · subst a2; rw [wr_same, if_pos rfl, epl]
            · rw [wr_i a2, if_neg a2]
              by_cases a3 : q = 1 + 11 * j + 5
              · subst a3; rw [wr_same, if_pos rfl]
              · rw [wr_i a3, if_neg a3, hσ1]
                by_cases a4 : q = 1 + 11 * j + 4
                · subst a4; rw [wr_same, if_pos rfl]
                · rw [wr_i a4, if_neg a4, if_neg a1, if_neg (fun z => a0 z.1)]
      · rw [wr_c (by decide), wr_c (by decide), wr_c (by decide), wr_c (by decide), wr_c (by decide), hσ1, wr_c (by decide)]
      · rw [wr_c (by decide), wr_c (by decide), wr_c (by decide), wr_c (by decide), wr_c (by decide), hσ1, wr_c (by decide)]
      · rw [wr_c (by decide), wr_c (by decide), wr_i (by decide), wr_c (by decide), wr_c (by decide), s10]
      · rw [wr_c (by decide), wr_c (by decide), wr_i (by decide), wr_c (by decide), wr_c (by decide), s10]; exact h25
      · rw [wr_c (by decide), wr_c (by decide), wr_same]; rfl
      · rw [wr_c (by decide), wr_c (by decide), wr_i (by decide), wr_c (by decide), wr_c (by decide), s10]
      · rw [wr_c (by decide), wr_c (by decide), wr_i (by decide), wr_c (by decide), wr_c (by decide), s10]
  rcases hx with ⟨rfl, e2, -⟩ | ⟨rfl, e2, -⟩
  · rw [if_neg one_ne]
    exact goal 1 (by rw [e2]; rfl)
  · rw [if_pos rfl]
    exact goal 2 (by rw [e2]; rfl)
def RM (τ : rS) (R : Nat → Nat) : Prop := (∀ i, i < 4 → τ 62 0 i = nI (R i)) ∧ R 0 ≤ 64 ∧ R 1 ≤ 32 ∧ R 2 ≤ 128 ∧ R 3 ≤ 5
theorem PI.spl {R : Nat → Nat} {A : Hp} {P : Pn} (h : PI R A P) (hR : R 1 ≤ 32 ∧ R 2 ≤ 128) : ∀ j ∈ pO P, pSp P j ≤ 2 ∧ pPl P j ≤ 128 := fun j hj => by
  obtain ⟨⟨-, -, a3⟩, -, ⟨c1, c2, -⟩, d1, d2, -⟩ := h
  rcases a3 j hj with e | e
  · have := d1 j hj e; omega
  · have := d2 j hj e; omega
theorem LGr.refl (τ : rS) (v : Nat) : LGr τ τ v := fun _ _ => rfl
theorem LGr.trans {τ s t : rS} {v : Nat} (h : LGr τ s v) (g : LGr s t v) : LGr τ t v := fun i hi => (g i hi).trans (h i hi)
set_option maxHeartbeats 2000000 in
theorem m_moves {τ : rS} {v : Nat} {R : Nat → Nat} {A B : Hp} {c : Nat → Nat} {P : Pn} {o : Option Nat} (hPM : PMv τ v A B c P) (hX : pX P = false) (hI : PI R A P) (wB : OK B) (hb : Bd B) (sh : ShB A B) (hwz : ∀ i, hkd A i = 1 → i < hn A → 1 ≤ hsz A i) (hR : RM τ R) (ho : ∀ j, o = some j → j < hn A) : hit (fX10_moves v (enc o) τ) (fun _ s => PMo s v A B c (pmv R A P o) ∧ LGr τ s v ∧ s 10 0 24 = τ 10 0 24) := by
  obtain ⟨hM, hG, h25, h26, h27⟩ := hPM
  have hR12 : R 1 ≤ 32 ∧ R 2 ≤ 128 := ⟨hR.2.2.1, hR.2.2.2.1⟩
  have w : OK (rowH A B c P) := rowH_OK wB (hI.spl hR12)
  have hw := wB.n
  rw [sh.n] at hw
  have hF1 := hI.2.2.1.1
  have hF2 := hI.2.2.1.2.1
  have same : ∀ {P' : Pn}, P' = P → hit (some ((0 : Int32), τ)) (fun _ s => PMo s v A B c P' ∧ LGr τ s v ∧ s 10 0 24 = τ 10 0 24) := fun {P'} e => by
    subst e
    refine hit_some ⟨?_, LGr.refl _ _, rfl⟩
    unfold PMo
    rw [hX, if_neg (by decide)]
    exact ⟨hM, hG, h25, h26, h27⟩
  unfold fX10_moves
  cases o with
  | none =>
    rw [enc_none, if_pos rfl]
    exact same rfl
  | some j =>
    have hj := ho j rfl
    have hjr : j < hn (rowH A B c P) := by show j < hn B; rw [sh.n]; exact hj
    have e68 := hG.2.2.2.2 j (by omega)
    have ez : hsz (rowH A B c P) j = hsz A j := by show hsz B j = _; rw [sh.sz]
    have hz := wB.sz (i := j) (by rw [sh.n]; exact hj)
    rw [sh.sz] at hz
    rw [enc_some, if_neg (by rw [pn_m1 (by omega)]; exact id), pn_bnd (by omega) (by omega), ix_nI (by omega), e68]
    by_cases hm : j ∈ pO P
    · rw [if_pos hm, if_neg one_ne]
      exact same (pmv_no (Or.inr (Or.inr hm)))
    · have es : hsp (rowH A B c P) j = hsp A j := by
        show (if j ∈ pO P then pSp P j else hsp B j) = _
        rw [if_neg hm, sh.sp]
      have ea : τ 66 v (1 + 11 * j + 4) = hag B j := by
        have := hM.ag hjr
        rw [show 1 + 11 * j + 4 = 5 + 11 * j by omega, this]
        show (if j ∈ pO P then hag B j + 1 else hag B j) = _
        rw [if_neg hm]
      rw [if_neg hm, if_pos rfl, e_isOld hM w hjr, bd_some, es]
      by_cases h2 : hsp A j = 2
      · rw [if_pos h2, if_neg one_ne]
        exact same (pmv_no (Or.inr (Or.inl h2)))
      · rw [if_neg h2, if_pos rfl, e_sizeOf hM w hjr, bd_some, ez]
        have c4 : fX10_cell (nI j) 4 τ = some (nI (1 + 11 * j + 4), τ) := by
          unfold fX10_cell
          have : (1 + 11 * nI j) + 4 = nI (1 + 11 * j + 4) := pm_cell j 4
          rw [this]
        rw [c4, bd_some, pn_bnd (by omega) (by omega), pn_bnd (by omega) (by omega), ix_nI (by omega), ea, st_eq]
        obtain ⟨σ1, hσ1⟩ : ∃ σ1, σ1 = wr τ 66 v (1 + 11 * j + 4) (hag B j + 1) := ⟨_, rfl⟩
        rw [← hσ1]
        have hof : fX10_of v (nI j) 4 σ1 = some (hag B j + 1, σ1) := by
          have e := e_of (v := v) (τ := σ1) (i := j) (c := 4) (by omega)
          have e2 : σ1 66 v (1 + 11 * j + 4) = hag B j + 1 := by rw [hσ1, wr_same]
          rw [e2] at e
          exact e
        have q62 : ∀ i, i < 4 → σ1 62 0 i = nI (R i) := fun i hi => by rw [hσ1, wr_c (by decide)]; exact hR.1 i hi
        have q10 : σ1 10 = τ 10 := by rw [hσ1, wr_c (by decide)]
        have e623 : σ1 62 0 (ix 3) = nI (R 3) := q62 3 (by omega)
        have e621 : σ1 62 0 (ix 1) = nI (R 1) := q62 1 (by omega)
        have e622 : σ1 62 0 (ix 2) = nI (R 2) := q62 2 (by omega)
        have e25 : σ1 10 0 25 = nI (pF1 P) := by rw [q10]; exact h25
        have e26 : σ1 10 0 26 = nI (pF2 P) := by rw [q10]; exact h26
        rw [hof, bd_some, e623, e621, e25, nI_add]
        have hcond : ¬ (pX P = true ∨ hsp A j = 2 ∨ j ∈ pO P) := by
          rw [hX]
          rintro (z | z | z)
          · cases z
          · exact h2 z
          · exact hm z
        have lt1 : (nI (R 1) < nI (pF1 P + (3 + hsz A j))) = (R 1 < pF1 P + (3 + hsz A j)) := pn_lt (by omega) (by omega)
        have lt2 : (nI (R 2) < nI (pF2 P + (3 + hsz A j))) = (R 2 < pF2 P + (3 + hsz A j)) := pn_lt (by omega) (by omega)
        simp only [lt1]
        rw [sh.ag]
        have old : ¬ stay R A P j → hit (fX10_moves_j74 v (nI j) (nI (3 + hsz A j)) σ1) (fun _ s => PMo s v A B c (pmv R A P (some j)) ∧ LGr τ s v ∧ s 10 0 24 = τ 10 0 24) := fun hst => by
          unfold fX10_moves_j74 fX10_moves_j75
          rw [if_pos rfl, e622, e26, nI_add]
          simp only [lt2]
          by_cases h22 : R 2 < pF2 P + (3 + hsz A j)
          · rw [if_pos h22, st_eq, pmv_X hcond hst h22]
            have hcm : wr σ1 10 0 27 1 = wr (wr τ 10 0 27 1) 66 v (1 + 11 * j + 4) (hag B j + 1) := by
              rw [hσ1]
              funext x y
              by_cases hx : x = 66
              · subst hx
                rw [wr_c (by decide)]
                by_cases hy : y = v
                · subst hy; rw [wr_row, wr_row, wr_c (by decide)]
                · rw [wr_k hy, wr_k hy, wr_c (by decide)]
              · by_cases hx2 : x = 10
                · subst hx2
                  rw [show wr (wr τ 10 0 27 1) 66 v (1 + 11 * j + 4) (hag B j + 1) 10 = wr τ 10 0 27 1 10 from wr_c (by decide)]
                  by_cases hy : y = 0
                  · subst hy; rw [wr_row, wr_row, wr_c (by decide)]
                  · rw [wr_k hy, wr_k hy, wr_c (by decide)]
                · rw [wr_c hx2, wr_c hx, wr_c hx, wr_c hx2]
            rw [hcm]
            have := m_mvJ (τ := wr τ 10 0 27 1) (sp := 2) (x4 := 0) (P' := pm2 A P j) (A := A) (B := B) (c := c) (P := P) (j := j) (v := v) (by rw [wr_c (by decide)]; exact hM) w hb sh.n (by
              unfold GM at hG ⊢
              rw [wr_c (c' := 69) (by decide), wr_c (c' := 68) (by decide), wr_i (by decide)]; exact hG) hj hm (by rw [wr_i (by decide)]; exact h25) (by rw [wr_i (by decide)]; exact h26) (Or.inr ⟨rfl, rfl, rfl⟩)
            refine hit_mono this ?_
            rintro r s ⟨k1, k2, -, -, k5, k6, k7⟩
            refine ⟨?_, fun i hi => by rw [k6 i hi, wr_c (by decide)], by rw [k7, wr_i (by decide)]⟩
            have : pX (pmX P) = true := rfl
            unfold PMo
            rw [if_pos this]
            refine ⟨by rw [k5, wr_same], rowH A B c (pm2 A P j), _, k1, rowH_OK wB (fun i hi => ?_), hb, fun i hk hi => ?_, sh.n, k2⟩
            · rcases mem_snoc.mp hi with hi | hi
              · have hne : ¬ i = j := fun e => hm (e ▸ hi)
                show upx (pSp P) j 2 i ≤ 2 ∧ upx (pPl P) j (pF2 P) i ≤ 128
                rw [upx_ne hne, upx_ne hne]
                exact hI.spl hR12 i hi
              · rw [hi]
                show upx (pSp P) j 2 j ≤ 2 ∧ upx (pPl P) j (pF2 P) j ≤ 128
                rw [upx_same, upx_same]; omega
            · have hk : hkd B i = 1 := hk
              have hi : i < hn B := hi
              show 1 ≤ hsz B i
              rw [sh.kd] at hk
              rw [sh.n] at hi
              rw [sh.sz]; exact hwz i hk hi
          · rw [if_neg h22, pmv_2 hcond hst h22, hσ1]
            refine hit_mono (m_mvJ (sp := 2) (x4 := 0) (P' := pm2 A P j) (A := A) (B := B) (c := c) hM w hb sh.n hG hj hm h25 h26 (Or.inr ⟨rfl, rfl, rfl⟩)) ?_
            rintro r s ⟨k1, k2, k3, k4, k5, k6, k7⟩
            refine ⟨?_, k6, k7⟩
            have : ¬ pX (pm2 A P j) = true := by show ¬ false = true; decide
            unfold PMo
            rw [if_neg this]
            exact ⟨k1, k2, k3, k4, k5.trans h27⟩
        by_cases ha : hag A j + 1 < nI (R 3)
        · rw [if_pos ha]
          by_cases h1 : R 1 < pF1 P + (3 + hsz A j)
          · rw [if_pos h1]
            exact old (fun z => by have := z.2; omega)
          · rw [if_neg h1]
            unfold fX10_moves_j75
            rw [if_neg one_ne, pmv_1 hcond (show stay R A P j from ⟨ha, by omega⟩), hσ1]
            refine hit_mono (m_mvJ (sp := 1) (x4 := 1) (P' := pm1 A P j) (A := A) (B := B) (c := c) hM w hb sh.n hG hj hm h25 h26 (Or.inl ⟨rfl, rfl, rfl⟩)) ?_
            rintro r s ⟨k1, k2, k3, k4, k5, k6, k7⟩
            refine ⟨?_, k6, k7⟩
            have : ¬ pX (pm1 A P j) = true := by show ¬ false = true; decide
            unfold PMo
            rw [if_neg this]
            exact ⟨k1, k2, k3, k4, k5.trans h27⟩
        · rw [if_neg ha]
          exact old (fun z => ha z.1)
