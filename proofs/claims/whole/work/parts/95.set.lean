/-! a heap with one thing set anew -/
def upx {α : Type} (f : Nat → α) (i : Nat) (v : α) : Nat → α := fun x => if x = i then v else f x
theorem upx_same {α : Type} {f : Nat → α} {i : Nat} {v : α} : upx f i v i = v := if_pos rfl
theorem upx_ne {α : Type} {f : Nat → α} {i j : Nat} {v : α} (h : ¬ j = i) : upx f i v j = f j := if_neg h
def sRt (A : Hp) (g : Nat → Option Nat) : Hp := (A.1, A.2.1, A.2.2.1, A.2.2.2.1, g, A.2.2.2.2.2)
def sLk (A : Hp) (g : Nat → Nat → Option Nat) : Hp := (A.1, A.2.1, A.2.2.1, g, A.2.2.2.2)
def sEn (A : Hp) (E : List Nat) : Hp := (A.1, A.2.1, A.2.2.1, A.2.2.2.1, A.2.2.2.2.1, E, A.2.2.2.2.2.2)
def sLo (A : Hp) (E : List Nat) : Hp := (A.1, A.2.1, A.2.2.1, A.2.2.2.1, A.2.2.2.2.1, A.2.2.2.2.2.1, E, A.2.2.2.2.2.2.2)
def sRm (A : Hp) (E : List (Nat × Nat)) : Hp := (A.1, A.2.1, A.2.2.1, A.2.2.2.1, A.2.2.2.2.1, A.2.2.2.2.2.1, A.2.2.2.2.2.2.1, E, A.2.2.2.2.2.2.2.2)
def sTl (A : Hp) (g : Nat → Int32) : Hp := (A.1, A.2.1, A.2.2.1, A.2.2.2.1, A.2.2.2.2.1, A.2.2.2.2.2.1, A.2.2.2.2.2.2.1, A.2.2.2.2.2.2.2.1, g, A.2.2.2.2.2.2.2.2.2)
def sFl (A : Hp) (g : Int32) : Hp := (A.1, A.2.1, A.2.2.1, A.2.2.2.1, A.2.2.2.2.1, A.2.2.2.2.2.1, A.2.2.2.2.2.2.1, A.2.2.2.2.2.2.2.1, A.2.2.2.2.2.2.2.2.1, g)
def sKd (A : Hp) (g : Nat → Int32) : Hp := (A.1, A.2.1, fun c i => if c = 0 then g i else A.2.2.1 c i, A.2.2.2)
/-- lists that fit into the model's row -/
def Bd (A : Hp) : Prop := (hen A).length ≤ 80 ∧ (hlo A).length ≤ 40 ∧ (hrm A).length ≤ 176
theorem Inv.bd {R : Nat → Nat} {b : Nat} {A : Hp} (h : Inv R b A) (hR : R 2 ≤ 128) : Bd A := ⟨by have := h.en; omega, h.2.2.2.2.2.2.1, by have := h.rm hR; omega⟩
theorem ix_nI {a : Nat} (ha : a < 2147483648) : ix (nI a) = a := pn_ix ha
section CSs
variable {σ s : rS} {k : Nat} {A : Hp} {L : Lg}
/-- one row of State k written: all else stays -/
theorem CR.root (h : CR σ k A) {r : Nat} {o : Option Nat} : CR (wr σ 53 k r (enc o)) k (sRt A (upx (hrt A) r o)) := by
  have e : ∀ c, ¬ c = 53 → wr σ 53 k r (enc o) c = σ c := fun c hc => wr_c hc
  refine ⟨by rw [e 7 (by decide)]; exact h.n, fun i hi => ?_, fun q hq => ?_, fun t ht => by rw [e 54 (by decide)]; exact h.us ht, fun t ht => by rw [e 55 (by decide)]; exact h.tl ht, by rw [e 7 (by decide)]; exact h.fl, h.en.frame (by rw [e 4 (by decide)]) (by rw [e 28 (by decide)]), h.lo.frame (by rw [e 4 (by decide)]) (by rw [e 28 (by decide)]), h.rm.frame (by rw [e 4 (by decide)]) (by rw [e 28 (by decide)])⟩
  · unfold CRo
    rw [e 45 (by decide), e 46 (by decide), e 47 (by decide), e 48 (by decide), e 49 (by decide), e 50 (by decide), e 51 (by decide), e 52 (by decide)]
    exact h.2.1 i hi
  · show _ = enc (upx (hrt A) r o q)
    by_cases eq : q = r
    · subst eq; rw [wr_same, upx_same]
    · rw [wr_i eq, upx_ne eq]; exact h.rt hq
theorem cs_root (h : CS σ k (A, L)) {r : Nat} {o : Option Nat} : CS (wr σ 53 k r (enc o)) k (sRt A (upx (hrt A) r o), L) := by
  have e : ∀ c, ¬ c = 53 → wr σ 53 k r (enc o) c = σ c := fun c hc => wr_c hc
  exact ⟨h.1.root, h.2.1.frame (by rw [e 4 (by decide)]) (by rw [e 28 (by decide)]), h.2.2.1.frame (by rw [e 4 (by decide)]) (by rw [e 28 (by decide)]), h.2.2.2.frame (by rw [e 4 (by decide)]) (by rw [e 28 (by decide)])⟩
theorem cs_kd (h : CS σ k (A, L)) {j : Nat} {v : Int32} : CS (wr σ 46 k j v) k (sKd A (upx (hkd A) j v), L) := by
  have e : ∀ c, ¬ c = 46 → wr σ 46 k j v c = σ c := fun c hc => wr_c hc
  obtain ⟨h, h3, h4, h5⟩ := h
  refine ⟨⟨by rw [e 7 (by decide)]; exact h.n, fun i hi => ?_, fun q hq => by rw [e 53 (by decide)]; exact h.rt hq, fun t ht => by rw [e 54 (by decide)]; exact h.us ht, fun t ht => by rw [e 55 (by decide)]; exact h.tl ht, by rw [e 7 (by decide)]; exact h.fl, h.en.frame (by rw [e 4 (by decide)]) (by rw [e 28 (by decide)]), h.lo.frame (by rw [e 4 (by decide)]) (by rw [e 28 (by decide)]), h.rm.frame (by rw [e 4 (by decide)]) (by rw [e 28 (by decide)])⟩, h3.frame (by rw [e 4 (by decide)]) (by rw [e 28 (by decide)]), h4.frame (by rw [e 4 (by decide)]) (by rw [e 28 (by decide)]), h5.frame (by rw [e 4 (by decide)]) (by rw [e 28 (by decide)])⟩
  unfold CRo
  rw [e 45 (by decide), e 47 (by decide), e 48 (by decide), e 49 (by decide), e 50 (by decide), e 51 (by decide), e 52 (by decide)]
  have hi : i < hn A := hi
  refine ⟨⟨h.num hi, ?_, h.sz hi, h.dt hi, h.ag hi, h.sp hi, h.pl hi⟩, (h.2.1 i hi).2⟩
  show _ = upx (hkd A) j v i
  by_cases ei : i = j
  · subst ei; rw [wr_same, upx_same]
  · rw [wr_i ei, upx_ne ei]; exact h.kd hi
theorem cs_lk (h : CS σ k (A, L)) {j f : Nat} {o : Option Nat} (hf : f < 4) (w : OK A) : CS (wr σ 52 k (j * 4 + f) (enc o)) k (sLk A (fun i g => if i = j ∧ g = f then o else hlk A i g), L) := by
  have e : ∀ c, ¬ c = 52 → wr σ 52 k (j * 4 + f) (enc o) c = σ c := fun c hc => wr_c hc
  obtain ⟨h, h3, h4, h5⟩ := h
  refine ⟨⟨by rw [e 7 (by decide)]; exact h.n, fun i hi => ?_, fun q hq => by rw [e 53 (by decide)]; exact h.rt hq, fun t ht => by rw [e 54 (by decide)]; exact h.us ht, fun t ht => by rw [e 55 (by decide)]; exact h.tl ht, by rw [e 7 (by decide)]; exact h.fl, h.en.frame (by rw [e 4 (by decide)]) (by rw [e 28 (by decide)]), h.lo.frame (by rw [e 4 (by decide)]) (by rw [e 28 (by decide)]), h.rm.frame (by rw [e 4 (by decide)]) (by rw [e 28 (by decide)])⟩, h3.frame (by rw [e 4 (by decide)]) (by rw [e 28 (by decide)]), h4.frame (by rw [e 4 (by decide)]) (by rw [e 28 (by decide)]), h5.frame (by rw [e 4 (by decide)]) (by rw [e 28 (by decide)])⟩
  unfold CRo
  rw [e 45 (by decide), e 46 (by decide), e 47 (by decide), e 48 (by decide), e 49 (by decide), e 50 (by decide), e 51 (by decide)]
  have hi : i < hn A := hi
  refine ⟨(h.2.1 i hi).1, fun g hg => ?_⟩
  have hg : g < hsz A i := hg
  have hz := w.sz hi
  show _ = enc (if i = j ∧ g = f then o else hlk A i g)
  by_cases ei : i = j ∧ g = f
  · rw [if_pos ei, ei.1, ei.2, wr_same]
  · rw [if_neg ei, wr_i (by omega)]; exact h.lk hi hg
theorem SL_keep {a : Nat} (hf : ∀ c q, ¬ SL a c q → s c q = σ c q) : (∀ c q, (c = 7 ∨ (45 ≤ c ∧ c < 56)) → s c q = σ c q) ∧ ∀ q, ¬ q = a → s 4 q = σ 4 q ∧ s 28 q = σ 28 q := ⟨fun c q hc => hf c q (fun z => z.1 hc), fun q hq => ⟨hf 4 q (fun z => hq (z.2 (Or.inl rfl))), hf 28 q (fun z => hq (z.2 (Or.inr rfl)))⟩⟩
theorem CN.mv (h : CR σ k A) (e : ∀ c q, (c = 7 ∨ (45 ≤ c ∧ c < 56)) → s c q = σ c q) : CN s k A := by
  refine ⟨by rw [e 7 _ (by omega)]; exact h.n, fun i hi => ?_, fun q hq => by rw [e 53 _ (by omega)]; exact h.rt hq, fun t ht => by rw [e 54 _ (by omega)]; exact h.us ht, fun t ht => by rw [e 55 _ (by omega)]; exact h.tl ht, by rw [e 7 _ (by omega)]; exact h.fl⟩
  unfold CRo
  rw [e 45 _ (by omega), e 46 _ (by omega), e 47 _ (by omega), e 48 _ (by omega), e 49 _ (by omega), e 50 _ (by omega), e 51 _ (by omega), e 52 _ (by omega)]
  exact h.2.1 i hi
theorem CS.en' (h : CS σ k (A, L)) {E : List Nat} (hf : ∀ c q, ¬ SL (6 * k + 0) c q → s c q = σ c q) (hL : Ln s (6 * k + 0) (E.map nI)) : CS s k (sEn A E, L) := by
  obtain ⟨e1, e2⟩ := SL_keep hf
  obtain ⟨n1, n2, n3, n4, n5, n6⟩ := CN.mv h.1 e1
  exact ⟨⟨n1, n2, n3, n4, n5, n6, hL, h.1.lo.frame (e2 _ (by omega)).1 (e2 _ (by omega)).2, h.1.rm.frame (e2 _ (by omega)).1 (e2 _ (by omega)).2⟩, h.2.1.frame (e2 _ (by omega)).1 (e2 _ (by omega)).2, h.2.2.1.frame (e2 _ (by omega)).1 (e2 _ (by omega)).2, h.2.2.2.frame (e2 _ (by omega)).1 (e2 _ (by omega)).2⟩
theorem CS.lo' (h : CS σ k (A, L)) {E : List Nat} (hf : ∀ c q, ¬ SL (6 * k + 1) c q → s c q = σ c q) (hL : Ln s (6 * k + 1) (E.map nI)) : CS s k (sLo A E, L) := by
  obtain ⟨e1, e2⟩ := SL_keep hf
  obtain ⟨n1, n2, n3, n4, n5, n6⟩ := CN.mv h.1 e1
  exact ⟨⟨n1, n2, n3, n4, n5, n6, h.1.en.frame (e2 _ (by omega)).1 (e2 _ (by omega)).2, hL, h.1.rm.frame (e2 _ (by omega)).1 (e2 _ (by omega)).2⟩, h.2.1.frame (e2 _ (by omega)).1 (e2 _ (by omega)).2, h.2.2.1.frame (e2 _ (by omega)).1 (e2 _ (by omega)).2, h.2.2.2.frame (e2 _ (by omega)).1 (e2 _ (by omega)).2⟩
theorem CS.rm' (h : CS σ k (A, L)) {E : List (Nat × Nat)} (hf : ∀ c q, ¬ SL (6 * k + 2) c q → s c q = σ c q) (hL : Ln s (6 * k + 2) (E.map (fun q => nI (q.1 * 4 + q.2)))) : CS s k (sRm A E, L) := by
  obtain ⟨e1, e2⟩ := SL_keep hf
  obtain ⟨n1, n2, n3, n4, n5, n6⟩ := CN.mv h.1 e1
  exact ⟨⟨n1, n2, n3, n4, n5, n6, h.1.en.frame (e2 _ (by omega)).1 (e2 _ (by omega)).2, h.1.lo.frame (e2 _ (by omega)).1 (e2 _ (by omega)).2, hL⟩, h.2.1.frame (e2 _ (by omega)).1 (e2 _ (by omega)).2, h.2.2.1.frame (e2 _ (by omega)).1 (e2 _ (by omega)).2, h.2.2.2.frame (e2 _ (by omega)).1 (e2 _ (by omega)).2⟩
end CSs
section MSs
variable {m m' : Nat → Int32} {A : Hp}
theorem MR.root (h : MR m A) (w : OK A) (hb : Bd A) {r : Nat} {o : Option Nat} (hr : r < 8) (e1 : m' (881 + r) = encN A o) (e : ∀ i, i < 1373 → ¬ i = 881 + r → m' i = m i) : MR m' (sRt A (upx (hrt A) r o)) := by
  have hw := w.n
  obtain ⟨b1, b2, b3⟩ := hb
  obtain ⟨h1, h2, h3, ⟨h4, h5⟩, ⟨h6, h7⟩, ⟨h8, h9⟩, h10, h11⟩ := h
  refine ⟨by rw [e 0 (by omega) (by omega)]; exact h1, fun i hi => ?_, fun q hq => ?_, ⟨by rw [e _ (by omega) (by omega)]; exact h4, fun i hi => ?_⟩, ⟨by rw [e _ (by omega) (by omega)]; exact h6, fun i hi => ?_⟩, ⟨by rw [e _ (by omega) (by omega)]; exact h8, fun i hi => ?_⟩, fun t ht => by rw [e _ (by omega) (by omega)]; exact h10 t ht, by rw [e _ (by omega) (by omega)]; exact h11⟩
  · have hi : i < hn A := hi
    have hz := w.sz hi
    unfold MRo
    rw [e _ (by omega) (by omega), e _ (by omega) (by omega), e _ (by omega) (by omega), e _ (by omega) (by omega), e _ (by omega) (by omega), e _ (by omega) (by omega), e _ (by omega) (by omega)]
    exact ⟨(h2 i hi).1, fun f hf => by have hf : f < hsz A i := hf; rw [e _ (by omega) (by omega)]; exact (h2 i hi).2 f hf⟩
  · show _ = encN A (upx (hrt A) r o q)
    by_cases eq : q = r
    · subst eq; rw [upx_same]; exact e1
    · rw [upx_ne eq, e _ (by omega) (by omega)]; exact h3 q hq
  · have hi : i < (hrm A).length := hi
    rw [e _ (by omega) (by omega), e _ (by omega) (by omega)]; exact h5 i hi
  · have hi : i < (hen A).length := hi
    rw [e _ (by omega) (by omega)]; exact h7 i hi
  · have hi : i < (hlo A).length := hi
    rw [e _ (by omega) (by omega)]; exact h9 i hi
theorem MR.kd' (h : MR m A) (w : OK A) (hb : Bd A) {j : Nat} {v : Int32} (hj : j < hn A) (e1 : m' (2 + 11 * j) = v) (e : ∀ i, i < 1373 → ¬ i = 2 + 11 * j → m' i = m i) : MR m' (sKd A (upx (hkd A) j v)) := by
  have hw := w.n
  obtain ⟨b1, b2, b3⟩ := hb
  obtain ⟨h1, h2, h3, ⟨h4, h5⟩, ⟨h6, h7⟩, ⟨h8, h9⟩, h10, h11⟩ := h
  refine ⟨by rw [e 0 (by omega) (by omega)]; exact h1, fun i hi => ?_, fun q hq => by rw [e _ (by omega) (by omega)]; exact h3 q hq, ⟨by rw [e _ (by omega) (by omega)]; exact h4, fun i hi => ?_⟩, ⟨by rw [e _ (by omega) (by omega)]; exact h6, fun i hi => ?_⟩, ⟨by rw [e _ (by omega) (by omega)]; exact h8, fun i hi => ?_⟩, fun t ht => by rw [e _ (by omega) (by omega)]; exact h10 t ht, by rw [e _ (by omega) (by omega)]; exact h11⟩
  · have hi : i < hn A := hi
    have hz := w.sz hi
    obtain ⟨⟨q1, q2, q3⟩, q4⟩ := h2 i hi
    unfold MRo
    rw [e (1 + 11 * i) (by omega) (by omega), e (3 + 11 * i) (by omega) (by omega), e (4 + 11 * i) (by omega) (by omega), e (5 + 11 * i) (by omega) (by omega), e (6 + 11 * i) (by omega) (by omega), e (7 + 11 * i) (by omega) (by omega)]
    refine ⟨⟨q1, ?_, q3⟩, fun f hf => by have hf : f < hsz A i := hf; rw [e _ (by omega) (by omega)]; exact q4 f hf⟩
    show _ = upx (hkd A) j v i
    by_cases eq : i = j
    · subst eq; rw [upx_same]; exact e1
    · rw [upx_ne eq, e _ (by omega) (by omega)]; exact q2
  · have hi : i < (hrm A).length := hi
    rw [e _ (by omega) (by omega), e _ (by omega) (by omega)]; exact h5 i hi
  · have hi : i < (hen A).length := hi
    rw [e _ (by omega) (by omega)]; exact h7 i hi
  · have hi : i < (hlo A).length := hi
    rw [e _ (by omega) (by omega)]; exact h9 i hi
theorem MR.lk' (h : MR m A) (w : OK A) (hb : Bd A) {j f : Nat} {o : Option Nat} (hj : j < hn A) (hf : f < 4) (e1 : m' (8 + 11 * j + f) = encN A o) (e : ∀ i, i < 1373 → ¬ i = 8 + 11 * j + f → m' i = m i) : MR m' (sLk A (fun i g => if i = j ∧ g = f then o else hlk A i g)) := by
  have hw := w.n
  obtain ⟨b1, b2, b3⟩ := hb
  obtain ⟨h1, h2, h3, ⟨h4, h5⟩, ⟨h6, h7⟩, ⟨h8, h9⟩, h10, h11⟩ := h
  refine ⟨by rw [e 0 (by omega) (by omega)]; exact h1, fun i hi => ?_, fun q hq => by rw [e _ (by omega) (by omega)]; exact h3 q hq, ⟨by rw [e _ (by omega) (by omega)]; exact h4, fun i hi => ?_⟩, ⟨by rw [e _ (by omega) (by omega)]; exact h6, fun i hi => ?_⟩, ⟨by rw [e _ (by omega) (by omega)]; exact h8, fun i hi => ?_⟩, fun t ht => by rw [e _ (by omega) (by omega)]; exact h10 t ht, by rw [e _ (by omega) (by omega)]; exact h11⟩
  · have hi : i < hn A := hi
    have hz := w.sz hi
    obtain ⟨q3, q4⟩ := h2 i hi
    unfold MRo
    rw [e (1 + 11 * i) (by omega) (by omega), e (2 + 11 * i) (by omega) (by omega), e (3 + 11 * i) (by omega) (by omega), e (4 + 11 * i) (by omega) (by omega), e (5 + 11 * i) (by omega) (by omega), e (6 + 11 * i) (by omega) (by omega), e (7 + 11 * i) (by omega) (by omega)]
    refine ⟨q3, fun g hg => ?_⟩
    have hg : g < hsz A i := hg
    show _ = encN A (if i = j ∧ g = f then o else hlk A i g)
    by_cases eq : i = j ∧ g = f
    · rw [if_pos eq, eq.1, eq.2]; exact e1
    · rw [if_neg eq, e _ (by omega) (by omega)]; exact q4 g hg
  · have hi : i < (hrm A).length := hi
    rw [e _ (by omega) (by omega), e _ (by omega) (by omega)]; exact h5 i hi
  · have hi : i < (hen A).length := hi
    rw [e _ (by omega) (by omega)]; exact h7 i hi
  · have hi : i < (hlo A).length := hi
    rw [e _ (by omega) (by omega)]; exact h9 i hi
theorem MR.en' (h : MR m A) (w : OK A) (hb : Bd A) {E : List Nat} (hE : E.length ≤ 80) (e1 : m' 1242 = nI E.length) (e2 : ∀ i, i < E.length → m' (1243 + i) = nI (hnum A (E.getD i 0))) (e : ∀ i, i < 1373 → (i < 1242 ∨ 1323 ≤ i) → m' i = m i) : MR m' (sEn A E) := by
  have hw := w.n
  obtain ⟨b1, b2, b3⟩ := hb
  obtain ⟨h1, h2, h3, ⟨h4, h5⟩, ⟨h6, h7⟩, ⟨h8, h9⟩, h10, h11⟩ := h
  refine ⟨by rw [e 0 (by omega) (by omega)]; exact h1, fun i hi => ?_, fun q hq => by rw [e _ (by omega) (by omega)]; exact h3 q hq, ⟨by rw [e _ (by omega) (by omega)]; exact h4, fun i hi => ?_⟩, ⟨e1, e2⟩, ⟨by rw [e _ (by omega) (by omega)]; exact h8, fun i hi => ?_⟩, fun t ht => by rw [e _ (by omega) (by omega)]; exact h10 t ht, by rw [e _ (by omega) (by omega)]; exact h11⟩
  · have hi : i < hn A := hi
    have hz := w.sz hi
    unfold MRo
    rw [e _ (by omega) (by omega), e _ (by omega) (by omega), e _ (by omega) (by omega), e _ (by omega) (by omega), e _ (by omega) (by omega), e _ (by omega) (by omega), e _ (by omega) (by omega)]
    exact ⟨(h2 i hi).1, fun f hf => by have hf : f < hsz A i := hf; rw [e _ (by omega) (by omega)]; exact (h2 i hi).2 f hf⟩
  · have hi : i < (hrm A).length := hi
    rw [e _ (by omega) (by omega), e _ (by omega) (by omega)]; exact h5 i hi
  · have hi : i < (hlo A).length := hi
    rw [e _ (by omega) (by omega)]; exact h9 i hi
theorem MR.lo' (h : MR m A) (w : OK A) (hb : Bd A) {E : List Nat} (e1 : m' 1323 = nI E.length) (e2 : ∀ i, i < E.length → m' (1324 + i) = nI (E.getD i 0)) (e : ∀ i, i < 1373 → (i < 1323 ∨ 1364 ≤ i) → m' i = m i) : MR m' (sLo A E) := by
  have hw := w.n
  obtain ⟨b1, b2, b3⟩ := hb
  obtain ⟨h1, h2, h3, ⟨h4, h5⟩, ⟨h6, h7⟩, ⟨h8, h9⟩, h10, h11⟩ := h
  refine ⟨by rw [e 0 (by omega) (by omega)]; exact h1, fun i hi => ?_, fun q hq => by rw [e _ (by omega) (by omega)]; exact h3 q hq, ⟨by rw [e _ (by omega) (by omega)]; exact h4, fun i hi => ?_⟩, ⟨by rw [e _ (by omega) (by omega)]; exact h6, fun i hi => ?_⟩, ⟨e1, e2⟩, fun t ht => by rw [e _ (by omega) (by omega)]; exact h10 t ht, by rw [e _ (by omega) (by omega)]; exact h11⟩
  · have hi : i < hn A := hi
    have hz := w.sz hi
    unfold MRo
    rw [e _ (by omega) (by omega), e _ (by omega) (by omega), e _ (by omega) (by omega), e _ (by omega) (by omega), e _ (by omega) (by omega), e _ (by omega) (by omega), e _ (by omega) (by omega)]
    exact ⟨(h2 i hi).1, fun f hf => by have hf : f < hsz A i := hf; rw [e _ (by omega) (by omega)]; exact (h2 i hi).2 f hf⟩
  · have hi : i < (hrm A).length := hi
    rw [e _ (by omega) (by omega), e _ (by omega) (by omega)]; exact h5 i hi
  · have hi : i < (hen A).length := hi
    rw [e _ (by omega) (by omega)]; exact h7 i hi
theorem MR.rm' (h : MR m A) (w : OK A) (hb : Bd A) {E : List (Nat × Nat)} (e1 : m' 889 = nI E.length) (e2 : ∀ i, i < E.length → m' (890 + 2 * i) = nI (hnum A (E.getD i (0, 0)).1) ∧ m' (891 + 2 * i) = nI (E.getD i (0, 0)).2) (e : ∀ i, i < 1373 → (i < 889 ∨ 1242 ≤ i) → m' i = m i) : MR m' (sRm A E) := by
  have hw := w.n
  obtain ⟨b1, b2, b3⟩ := hb
  obtain ⟨h1, h2, h3, ⟨h4, h5⟩, ⟨h6, h7⟩, ⟨h8, h9⟩, h10, h11⟩ := h
  refine ⟨by rw [e 0 (by omega) (by omega)]; exact h1, fun i hi => ?_, fun q hq => by rw [e _ (by omega) (by omega)]; exact h3 q hq, ⟨e1, e2⟩, ⟨by rw [e _ (by omega) (by omega)]; exact h6, fun i hi => ?_⟩, ⟨by rw [e _ (by omega) (by omega)]; exact h8, fun i hi => ?_⟩, fun t ht => by rw [e _ (by omega) (by omega)]; exact h10 t ht, by rw [e _ (by omega) (by omega)]; exact h11⟩
  · have hi : i < hn A := hi
    have hz := w.sz hi
    unfold MRo
    rw [e _ (by omega) (by omega), e _ (by omega) (by omega), e _ (by omega) (by omega), e _ (by omega) (by omega), e _ (by omega) (by omega), e _ (by omega) (by omega), e _ (by omega) (by omega)]
    exact ⟨(h2 i hi).1, fun f hf => by have hf : f < hsz A i := hf; rw [e _ (by omega) (by omega)]; exact (h2 i hi).2 f hf⟩
  · have hi : i < (hen A).length := hi
    rw [e _ (by omega) (by omega)]; exact h7 i hi
  · have hi : i < (hlo A).length := hi
    rw [e _ (by omega) (by omega)]; exact h9 i hi
end MSs
