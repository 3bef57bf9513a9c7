/-! the texts' signs: class and model look at the next one -/
def skN (T : List Nat) : Nat → Nat → Nat
  | 0, p => p
  | n + 1, p => if p < T.length ∧ T.getD p 0 = 32 then skN T n (p + 1) else p
def sk (T : List Nat) (p : Nat) : Nat := skN T (T.length - p) p
theorem skN_le {T : List Nat} : ∀ (n p : Nat), p ≤ skN T n p ∧ (p ≤ T.length → skN T n p ≤ T.length)
  | 0, p => ⟨Nat.le_refl _, fun h => h⟩
  | n + 1, p => by
    unfold skN
    by_cases c : p < T.length ∧ T.getD p 0 = 32
    · rw [if_pos c]
      have := skN_le (T := T) n (p + 1)
      exact ⟨by omega, fun _ => this.2 (by omega)⟩
    · rw [if_neg c]; exact ⟨Nat.le_refl _, fun h => h⟩
/-- the tape as both sides show it -/
def TpC (σ : rS) (T : List Nat) : Prop := σ 8 0 1 = nI T.length ∧ (∀ i, i < T.length → σ 25 0 i = nI (T.getD i 0)) ∧ T.length ≤ 240 ∧ ∀ x ∈ T, 1 ≤ x ∧ x ≤ 255
def TpM (σ : rS) (T : List Nat) : Prop := σ 10 0 2 = nI T.length ∧ (∀ i, i < T.length → σ 60 0 i &&& 255 = nI (T.getD i 0)) ∧ T.length ≤ 240 ∧ ∀ x ∈ T, 1 ≤ x ∧ x ≤ 255
def btC (T : List Nat) (p : Nat) : Nat := if p < T.length then T.getD p 0 else 0
def btM (T : List Nat) (p : Nat) : Int32 := if p < T.length then nI (T.getD p 0) else -1
theorem c_byte {σ : rS} {T : List Nat} {p : Nat} (h : TpC σ T) (hp : p ≤ 240) : fX8_byteAt (nI p) σ = some (nI (btC T p), σ) := by
  obtain ⟨h1, h2, h3, -⟩ := h
  unfold fX8_byteAt btC
  rw [if_neg (by rw [pn_neg (by omega)]; exact id), h1]
  by_cases c : p < T.length
  · rw [if_pos (show nI p < nI T.length by rw [pn_lt (by omega) (by omega)]; exact c), if_pos c, pn_bnd (by omega) (by omega), ix_nI (by omega), h2 p c]
  · rw [if_neg (show ¬ nI p < nI T.length by rw [pn_lt (by omega) (by omega)]; exact c), if_neg c]; rfl
theorem m_byte {σ : rS} {T : List Nat} {p : Nat} (h : TpM σ T) (hp : p ≤ 240) (e : σ 10 0 3 = nI p) : fX10_here σ = some (btM T p, σ) := by
  obtain ⟨h1, h2, h3, -⟩ := h
  unfold fX10_here btM
  rw [e, h1]
  by_cases c : p < T.length
  · rw [if_pos (show nI p < nI T.length by rw [pn_lt (by omega) (by omega)]; exact c), if_pos c, pn_bnd (by omega) (by omega), ix_nI (by omega), h2 p c]
  · rw [if_neg (show ¬ nI p < nI T.length by rw [pn_lt (by omega) (by omega)]; exact c), if_neg c]
theorem sk_step {T : List Nat} {p : Nat} (h1 : p < T.length) (h2 : T.getD p 0 = 32) : sk T p = sk T (p + 1) := by
  unfold sk
  rw [show T.length - p = T.length - (p + 1) + 1 by omega]
  show (if p < T.length ∧ T.getD p 0 = 32 then skN T (T.length - (p + 1)) (p + 1) else p) = _
  rw [if_pos ⟨h1, h2⟩]
theorem sk_stop {T : List Nat} {p : Nat} (h : ¬ (p < T.length ∧ T.getD p 0 = 32)) : sk T p = p := by
  unfold sk
  cases n : T.length - p with
  | zero => rfl
  | succ m =>
    show (if p < T.length ∧ T.getD p 0 = 32 then skN T m (p + 1) else p) = p
    rw [if_neg h]
theorem sk_le {T : List Nat} {p : Nat} (h : p ≤ T.length) : p ≤ sk T p ∧ sk T p ≤ T.length := ⟨(skN_le _ _).1, (skN_le _ _).2 h⟩
theorem getD_255 {T : List Nat} (h : ∀ x ∈ T, 1 ≤ x ∧ x ≤ 255) {p : Nat} (hp : p < T.length) : 1 ≤ T.getD p 0 ∧ T.getD p 0 ≤ 255 := h _ (by
  rw [List.getD_eq_getElem?_getD, List.getElem?_eq_getElem hp]; exact List.getElem_mem hp)
/-- only the class's place differs -/
def Of6 (σ s : rS) : Prop := (∀ c, ¬ c = 6 → s c = σ c) ∧ ∀ i, ¬ i = 4 → s 6 0 i = σ 6 0 i
theorem Of6.trans {σ s u : rS} (h : Of6 σ s) (h' : Of6 s u) : Of6 σ u := ⟨fun c hc => (h'.1 c hc).trans (h.1 c hc), fun i hi => (h'.2 i hi).trans (h.2 i hi)⟩
theorem Of6_wr {σ : rS} {v : Int32} : Of6 σ (wr σ 6 0 4 v) := ⟨fun c hc => wr_c hc, fun i hi => wr_i hi⟩
theorem TpC.of6 {σ s : rS} {T : List Nat} (h : TpC σ T) (o : Of6 σ s) : TpC s T := by
  unfold TpC at h ⊢
  rw [o.1 8 (by decide), o.1 25 (by decide)]
  exact h
theorem c_sign {σ : rS} {T : List Nat} {p : Nat} (h : TpC σ T) (hp : p ≤ T.length) (e : σ 6 0 4 = nI p) : hit (fX6_nextSign σ) (fun r s => r = nI (btC T (sk T p)) ∧ s 6 0 4 = nI (sk T p) ∧ Of6 σ s) := by
  have h3 := h.2.2.1
  have j43 : ∀ (s : rS) (q : Nat), TpC s T → q ≤ T.length → s 6 0 4 = nI q → sk T p = q → Of6 σ s → hit (fX6_nextSign_j43 s) (fun r s => r = nI (btC T (sk T p)) ∧ s 6 0 4 = nI (sk T p) ∧ Of6 σ s) := fun s q hs hq eq ek ho => by
    unfold fX6_nextSign_j43
    rw [eq, c_byte hs (by omega), bd_some, ek]
    exact hit_some ⟨rfl, eq, ho⟩
  unfold fX6_nextSign
  rw [e, h.1]
  have lt32 : ∀ q, q < T.length → (nI (btC T q) = 32) = (T.getD q 0 = 32) := fun q hq => by
    have := getD_255 h.2.2.2 hq
    rw [show (32 : Int32) = nI 32 from rfl, show btC T q = T.getD q 0 from if_pos hq, pn_eq (by omega) (by omega)]
  by_cases c : p < T.length
  · rw [if_pos (show nI p < nI T.length by rw [pn_lt (by omega) (by omega)]; exact c), c_byte h (by omega), bd_some]
    by_cases c2 : T.getD p 0 = 32
    · rw [if_pos (show nI (btC T p) = 32 by rw [lt32 p c]; exact c2), st_eq, e, pn_add1]
      have lp1 : hit (lp (fun (x : Unit) σ => fX6_nextSign_L0 σ) fu () (wr σ 6 0 4 (nI (p + 1)))) (fun _ s => TpC s T ∧ s 6 0 4 = nI (sk T p) ∧ Of6 σ s) := by
        refine lp_go (I := fun m _ s => ∃ q, q ≤ T.length ∧ m = T.length - q ∧ TpC s T ∧ s 6 0 4 = nI q ∧ sk T p = sk T q ∧ Of6 σ s) ?_ fu (T.length - (p + 1)) () _ (fu_lt (by omega)) ⟨p + 1, by omega, rfl, h.of6 Of6_wr, wr_same _ _ _ _ _, sk_step c c2, Of6_wr⟩
        rintro m u s ⟨q, hq, rfl, hs, es, ek, ho⟩
        unfold fX6_nextSign_L0
        rw [es, hs.1]
        by_cases d : q < T.length
        · rw [if_pos (show nI q < nI T.length by rw [pn_lt (by omega) (by omega)]; exact d), c_byte hs (by omega), bd_some]
          by_cases d2 : T.getD q 0 = 32
          · rw [if_pos (show nI (btC T q) = 32 by rw [lt32 q d]; exact d2), st_eq, es, pn_add1]
            exact hit_some ⟨T.length - (q + 1), by omega, q + 1, by omega, rfl, hs.of6 Of6_wr, wr_same _ _ _ _ _, ek.trans (sk_step d d2), ho.trans Of6_wr⟩
          · rw [if_neg (show ¬ nI (btC T q) = 32 by rw [lt32 q d]; exact d2)]
            exact hit_some ⟨hs, by rw [ek, sk_stop (fun z => d2 z.2)]; exact es, ho⟩
        · rw [if_neg (show ¬ nI q < nI T.length by rw [pn_lt (by omega) (by omega)]; exact d)]
          exact hit_some ⟨hs, by rw [ek, sk_stop (fun z => d z.1)]; exact es, ho⟩
      refine bd_hit (hit_mono lp1 ?_)
      rintro u s ⟨hs, es, ho⟩
      exact j43 s (sk T p) hs (sk_le hp).2 es rfl ho
    · rw [if_neg (show ¬ nI (btC T p) = 32 by rw [lt32 p c]; exact c2)]
      exact j43 σ p h hp e (sk_stop (fun z => c2 z.2)) ⟨fun _ _ => rfl, fun _ _ => rfl⟩
  · rw [if_neg (show ¬ nI p < nI T.length by rw [pn_lt (by omega) (by omega)]; exact c)]
    exact j43 σ p h hp e (sk_stop (fun z => c z.1)) ⟨fun _ _ => rfl, fun _ _ => rfl⟩
/-- only the model's place differs -/
def Of3 (σ s : rS) : Prop := (∀ c, ¬ c = 10 → s c = σ c) ∧ ∀ i, ¬ i = 3 → s 10 0 i = σ 10 0 i
theorem Of3.trans {σ s u : rS} (h : Of3 σ s) (h' : Of3 s u) : Of3 σ u := ⟨fun c hc => (h'.1 c hc).trans (h.1 c hc), fun i hi => (h'.2 i hi).trans (h.2 i hi)⟩
theorem Of3_wr {σ : rS} {v : Int32} : Of3 σ (wr σ 10 0 3 v) := ⟨fun c hc => wr_c hc, fun i hi => wr_i hi⟩
theorem TpM.of3 {σ s : rS} {T : List Nat} (h : TpM σ T) (o : Of3 σ s) : TpM s T := by
  unfold TpM at h ⊢
  rw [o.2 2 (by decide), o.1 60 (by decide)]
  exact h
theorem m_look {σ : rS} {T : List Nat} {p : Nat} (h : TpM σ T) (hp : p ≤ T.length) (e : σ 10 0 3 = nI p) : hit (fX10_look σ) (fun r s => r = btM T (sk T p) ∧ s 10 0 3 = nI (sk T p) ∧ Of3 σ s) := by
  have h3 := h.2.2.1
  have eq32 : ∀ q, (btM T q = 32) = (q < T.length ∧ T.getD q 0 = 32) := fun q => by
    unfold btM
    by_cases hq : q < T.length
    · have := getD_255 h.2.2.2 hq
      rw [if_pos hq, show (32 : Int32) = nI 32 from rfl, pn_eq (by omega) (by omega)]
      exact propext ⟨fun z => ⟨hq, z⟩, fun z => z.2⟩
    · rw [if_neg hq]
      exact propext ⟨fun z => absurd z (by decide), fun z => absurd z.1 hq⟩
  unfold fX10_look
  rw [m_byte h (by omega) e, bd_some]
  by_cases c : p < T.length ∧ T.getD p 0 = 32
  · rw [if_pos (show btM T p = 32 by rw [eq32]; exact c), st_eq, e, pn_add1]
    have lp1 : hit (lp (fun (x : Unit) σ => fX10_look_L0 σ) fu () (wr σ 10 0 3 (nI (p + 1)))) (fun _ s => TpM s T ∧ s 10 0 3 = nI (sk T p) ∧ Of3 σ s) := by
      refine lp_go (I := fun m _ s => ∃ q, q ≤ T.length ∧ m = T.length - q ∧ TpM s T ∧ s 10 0 3 = nI q ∧ sk T p = sk T q ∧ Of3 σ s) ?_ fu (T.length - (p + 1)) () _ (fu_lt (by omega)) ⟨p + 1, by omega, rfl, h.of3 Of3_wr, wr_same _ _ _ _ _, sk_step c.1 c.2, Of3_wr⟩
      rintro m u s ⟨q, hq, rfl, hs, es, ek, ho⟩
      unfold fX10_look_L0
      rw [m_byte hs (by omega) es, bd_some]
      by_cases d : q < T.length ∧ T.getD q 0 = 32
      · rw [if_pos (show btM T q = 32 by rw [eq32]; exact d), st_eq, es, pn_add1]
        exact hit_some ⟨T.length - (q + 1), by omega, q + 1, by omega, rfl, hs.of3 Of3_wr, wr_same _ _ _ _ _, ek.trans (sk_step d.1 d.2), ho.trans Of3_wr⟩
      · rw [if_neg (show ¬ btM T q = 32 by rw [eq32]; exact d)]
        exact hit_some ⟨hs, by rw [ek, sk_stop d]; exact es, ho⟩
    refine bd_hit (hit_mono lp1 ?_)
    rintro u s ⟨hs, es, ho⟩
    have := (sk_le hp).2
    rw [m_byte hs (by omega) es, bd_some]
    exact hit_some ⟨rfl, es, ho⟩
  · rw [if_neg (show ¬ btM T p = 32 by rw [eq32]; exact c), m_byte h (by omega) e, bd_some, sk_stop c]
    exact hit_some ⟨rfl, e, fun _ _ => rfl, fun _ _ => rfl⟩
