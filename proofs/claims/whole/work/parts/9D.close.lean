/-! those that are kept close up -/
def kl (kf : Nat → Bool) (n : Nat) : List Nat := (List.range n).filter kf
def rk (kf : Nat → Bool) (i : Nat) : Nat := (kl kf i).length
theorem kl_yes {kf : Nat → Bool} {n : Nat} (h : kf n = true) : kl kf (n + 1) = kl kf n ++ [n] := by
  unfold kl
  rw [List.range_succ, List.filter_append]
  simp [h]
theorem kl_no {kf : Nat → Bool} {n : Nat} (h : ¬ kf n = true) : kl kf (n + 1) = kl kf n := by
  unfold kl
  rw [List.range_succ, List.filter_append]
  simp [h]
theorem rk_yes {kf : Nat → Bool} {n : Nat} (h : kf n = true) : rk kf (n + 1) = rk kf n + 1 := by
  unfold rk
  rw [kl_yes h, List.length_append]
  rfl
theorem rk_no {kf : Nat → Bool} {n : Nat} (h : ¬ kf n = true) : rk kf (n + 1) = rk kf n := by
  unfold rk
  rw [kl_no h]
theorem rk_le (kf : Nat → Bool) : ∀ n : Nat, rk kf n ≤ n := by
  intro n
  induction n with
  | zero => exact Nat.le_refl _
  | succ n ih =>
    by_cases h : kf n = true
    · rw [rk_yes h]; omega
    · rw [rk_no h]; omega
theorem kl_get {kf : Nat → Bool} : ∀ {n i : Nat}, i < n → kf i = true → (kl kf n).getD (rk kf i) 0 = i ∧ rk kf i < rk kf n := by
  intro n
  induction n with
  | zero => intro i h; omega
  | succ n ih =>
    intro i hi hk
    by_cases e : i = n
    · subst e
      refine ⟨?_, by rw [rk_yes hk]; omega⟩
      rw [kl_yes hk]
      exact getD_app_eq
    · obtain ⟨h1, h2⟩ := ih (show i < n by omega) hk
      by_cases h : kf n = true
      · rw [kl_yes h, rk_yes h]
        exact ⟨by rw [getD_app_lt (show rk kf i < (kl kf n).length from h2)]; exact h1, by omega⟩
      · rw [kl_no h, rk_no h]; exact ⟨h1, h2⟩
theorem kl_at {kf : Nat → Bool} : ∀ {n p : Nat}, p < rk kf n → (kl kf n).getD p 0 < n ∧ kf ((kl kf n).getD p 0) = true ∧ rk kf ((kl kf n).getD p 0) = p := by
  intro n
  induction n with
  | zero => intro p h; exact absurd h (Nat.not_lt_zero _)
  | succ n ih =>
    intro p hp
    by_cases h : kf n = true
    · rw [kl_yes h]
      rw [rk_yes h] at hp
      by_cases e : p = rk kf n
      · have : (kl kf n ++ [n]).getD p 0 = n := by rw [e]; exact getD_app_eq
        rw [this]
        exact ⟨by omega, h, e.symm⟩
      · have hp2 : p < rk kf n := by omega
        rw [getD_app_lt (show p < (kl kf n).length from hp2)]
        obtain ⟨a, b, c⟩ := ih hp2
        exact ⟨by omega, b, c⟩
    · rw [kl_no h]
      rw [rk_no h] at hp
      obtain ⟨a, b, c⟩ := ih hp
      exact ⟨by omega, b, c⟩
theorem rk_mono {kf : Nat → Bool} {i j : Nat} (hi : i < j) (hk : kf i = true) : rk kf i < rk kf j := (kl_get hi hk).2
theorem rk_inj {kf : Nat → Bool} {i j : Nat} (hi : kf i = true) (hj : kf j = true) (h : rk kf i = rk kf j) : i = j := by
  rcases Nat.lt_trichotomy i j with g | g | g
  · have := rk_mono g hi; omega
  · exact g
  · have := rk_mono g hj; omega
/-- slot p of those that are kept -/
def ks (M : Hp) (kf : Nat → Bool) (p : Nat) : Nat := (kl kf (hn M)).getD p 0
def cl (M : Hp) (kf : Nat → Bool) : Hp := (rk kf (hn M), fun c p => M.2.1 c (ks M kf p), fun c p => M.2.2.1 c (ks M kf p), fun p f => (hlk M (ks M kf p) f).map (rk kf), fun r => (hrt M r).map (rk kf), (hen M).map (rk kf), hlo M, (hrm M).map (fun q => (rk kf q.1, q.2)), htl M, hfl M)
def Clo (M : Hp) (kf : Nat → Bool) : Prop := (∀ i, i < hn M → kf i = true → ∀ f t, f < hsz M i → hlk M i f = some t → t < hn M ∧ kf t = true) ∧ (∀ r t, r < 8 → hrt M r = some t → t < hn M ∧ kf t = true) ∧ (∀ j ∈ hen M, j < hn M ∧ kf j = true) ∧ ∀ q ∈ hrm M, (q.1 < hn M ∧ kf q.1 = true) ∧ q.2 < hsz M q.1
/-- a State without its cells in use -/
def CX (σ : rS) (k : Nat) (A : Hp) : Prop := σ 7 k 0 = nI (hn A) ∧ (∀ i, i < hn A → CRo σ k A i) ∧ (∀ r, r < 8 → σ 53 k r = enc (hrt A r)) ∧ (∀ t, t < 8 → σ 55 k t = htl A t) ∧ σ 7 k 1 = hfl A ∧ Ln σ (6 * k) ((hen A).map nI) ∧ Ln σ (6 * k + 1) ((hlo A).map nI) ∧ Ln σ (6 * k + 2) ((hrm A).map (fun q => nI (q.1 * 4 + q.2)))
theorem CR.cx {σ : rS} {k : Nat} {A : Hp} (h : CR σ k A) : CX σ k A := ⟨h.1, h.2.1, h.2.2.1, h.2.2.2.2.1, h.2.2.2.2.2⟩
theorem CX.cr {σ : rS} {k : Nat} {A : Hp} (h : CX σ k A) (hu : ∀ s, s < 3 → σ 54 k s = nI (usedA A s)) : CR σ k A := ⟨h.1, h.2.1, h.2.2.1, hu, h.2.2.2.1, h.2.2.2.2⟩
def rn (σ : rS) (x : Int32) : Int32 := if x < 0 then -1 else if x < 80 then σ 42 0 (ix x) else -1
theorem e_renamed {σ : rS} (x : Int32) : fX7_renamed x σ = some (rn σ x, σ) := by
  unfold fX7_renamed rn
  by_cases h : x < 0
  · rw [if_pos h, if_pos h]
  · rw [if_neg h, if_neg h]
    rcases i32_cases x with hx | ⟨i, hi, rfl⟩
    · exact absurd hx h
    · simp only [pn_lt80 hi]
      by_cases h8 : i < 80
      · rw [if_pos h8, if_pos h8, pn_bnd h8 (by omega)]
      · rw [if_neg h8, if_neg h8]
theorem rn_enc {σ : rS} {kf : Nat → Bool} {n : Nat} {o : Option Nat} (hn : n ≤ 78) (h42 : ∀ i, i < n → σ 42 0 i = if kf i = true then nI (rk kf i) else -1) (ho : ∀ t, o = some t → t < n ∧ kf t = true) : rn σ (enc o) = enc (o.map (rk kf)) := by
  unfold rn
  cases o with
  | none => rw [enc_none, if_pos (by decide)]; rfl
  | some t =>
    obtain ⟨h1, h2⟩ := ho t rfl
    rw [enc_some, if_neg (nI_pos (by omega)), if_pos (by rw [pn_lt80 (by omega)]; omega), ix_nI (by omega), h42 t h1, if_pos h2]
    rfl
theorem c_moveSlot {σ : rS} {k i p : Nat} (hi : i < 80) (hp : p ≤ i) : hit (fX7_moveSlot k (nI i) (nI p) σ) (fun _ s => (∀ c, 45 ≤ c → c < 52 → ∀ q, s c k q = if q = p then σ c k i else σ c k q) ∧ (∀ x, s 52 k x = if p * 4 ≤ x ∧ x < p * 4 + 4 then rn σ (σ 52 k (i * 4 + (x - p * 4))) else σ 52 k x) ∧ ∀ c q, ¬ (45 ≤ c ∧ c ≤ 52 ∧ q = k) → s c q = σ c q) := by
  have key : ∀ S : rS, ((∀ c, 45 ≤ c → c < 52 → ∀ q, S c k q = if q = p then σ c k i else σ c k q) ∧ ∀ c q, ¬ (45 ≤ c ∧ c < 52 ∧ q = k) → S c q = σ c q) → hit (bd (lp (fun (x : Int32) σ => fX7_moveSlot_L87 k (nI i) (nI p) x σ) fu 0 S) (fun e12 σ11 => some ((0 : Int32), σ11))) (fun _ s => (∀ c, 45 ≤ c → c < 52 → ∀ q, s c k q = if q = p then σ c k i else σ c k q) ∧ (∀ x, s 52 k x = if p * 4 ≤ x ∧ x < p * 4 + 4 then rn σ (σ 52 k (i * 4 + (x - p * 4))) else σ 52 k x) ∧ ∀ c q, ¬ (45 ≤ c ∧ c ≤ 52 ∧ q = k) → s c q = σ c q) := by
    rintro S ⟨q1, q2⟩
    have r42 : ∀ t : rS, t 42 = S 42 → ∀ x, rn t x = rn σ x := fun t ht x => by
      unfold rn
      rw [ht]
      have : S 42 0 = σ 42 0 := q2 42 0 (by omega)
      rw [this]
    refine bd_hit (hit_mono (lp_for (I := fun f s => (∀ x, s 52 k x = if p * 4 ≤ x ∧ x < p * 4 + f then rn σ (σ 52 k (i * 4 + (x - p * 4))) else σ 52 k x) ∧ ∀ c q, ¬ (c = 52 ∧ q = k) → s c q = S c q) (P := fun _ s => (∀ x, s 52 k x = if p * 4 ≤ x ∧ x < p * 4 + 4 then rn σ (σ 52 k (i * 4 + (x - p * 4))) else σ 52 k x) ∧ ∀ c q, ¬ (c = 52 ∧ q = k) → s c q = S c q) (b := 4) ?_ ?_ fu 0 S (by omega) (by have := fu_ge; omega) ⟨fun x => ?_, fun _ _ _ => rfl⟩) ?_)
    · rintro f s hf ⟨h1, h2⟩
      unfold fX7_moveSlot_L87
      rw [pn_mul4, pn_mul4, nI_add, nI_add]
      simp (disch := omega) only [pn_lt, pn_neg, pn_eq, pn_eq0, pn_eq1, pn_eq2, pn_m1, pn_m1', pn_m1lt, pn_ix, pn_bnd, pn_add1, pn_add3, pn_mul4, nI_add, bd_some, st_eq, rd_eq, if_true, if_false, ite_true, ite_false, reduceIte, pn_lt4, hf]
      rw [e_renamed, bd_some]
      have e1 : s 52 k (i * 4 + f) = σ 52 k (i * 4 + f) := by
        rw [h1, if_neg (by omega)]
      have e2 : rn s (s 52 k (i * 4 + f)) = rn σ (σ 52 k (i * 4 + f)) := by
        rw [e1]
        refine r42 s ?_ _
        funext q
        exact h2 42 q (by omega)
      rw [e2]
      refine hit_some ⟨rfl, fun x => ?_, fun c q hcq => (wrR_ne _ _ _ _ hcq).trans (h2 c q hcq)⟩
      by_cases ex : x = p * 4 + f
      · subst ex
        rw [wr_same, if_pos (by omega), show p * 4 + f - p * 4 = f by omega]
      · rw [wr_i ex, h1]
        by_cases g : p * 4 ≤ x ∧ x < p * 4 + f
        · rw [if_pos g, if_pos (by omega)]
        · rw [if_neg g, if_neg (by omega)]
    · rintro s hs
      unfold fX7_moveSlot_L87
      simp (disch := omega) only [pn_lt, pn_neg, pn_eq, pn_eq0, pn_eq1, pn_eq2, pn_m1, pn_m1', pn_m1lt, pn_ix, pn_bnd, pn_add1, pn_add3, pn_mul4, nI_add, bd_some, st_eq, rd_eq, if_true, if_false, ite_true, ite_false, reduceIte, pn_lt4, Nat.lt_irrefl]
      exact hit_some hs
    · rw [if_neg (by omega)]
      rw [q2 52 k (by omega)]
    · rintro r s ⟨h1, h2⟩
      refine hit_some ⟨fun c g1 g2 q => ?_, h1, fun c q hcq => ?_⟩
      · rw [h2 c k (by omega)]; exact q1 c g1 g2 q
      · rw [h2 c q (by omega)]; exact q2 c q (by omega)
  have step : ∀ (s : rS) (c0 : Nat), 45 ≤ c0 → ((∀ c, 45 ≤ c → c < c0 → ∀ q, s c k q = if q = p then σ c k i else σ c k q) ∧ ∀ c q, ¬ (45 ≤ c ∧ c < c0 ∧ q = k) → s c q = σ c q) → ((∀ c, 45 ≤ c → c < c0 + 1 → ∀ q, wr s c0 k p (s c0 k i) c k q = if q = p then σ c k i else σ c k q) ∧ ∀ c q, ¬ (45 ≤ c ∧ c < c0 + 1 ∧ q = k) → wr s c0 k p (s c0 k i) c q = σ c q) := fun s c0 h0 ⟨q1, q2⟩ => by
    have es : s c0 k = σ c0 k := q2 c0 k (by omega)
    refine ⟨fun c g1 g2 q => ?_, fun c q hcq => ?_⟩
    · by_cases ec : c = c0
      · subst ec
        by_cases eq : q = p
        · subst eq; rw [wr_same, if_pos rfl, es]
        · rw [wr_i eq, if_neg eq, es]
      · rw [wr_c ec]; exact q1 c g1 (by omega) q
    · rw [show wr s c0 k p (s c0 k i) c q = s c q from wrR_ne _ _ _ _ (by omega)]
      exact q2 c q (by omega)
  have hQ := step _ 51 (by omega) (step _ 50 (by omega) (step _ 49 (by omega) (step _ 48 (by omega) (step _ 47 (by omega) (step _ 46 (by omega) (step σ 45 (by omega) ⟨fun c g1 g2 => by omega, fun _ _ _ => rfl⟩))))))
  unfold fX7_moveSlot
  simp (disch := omega) only [pn_bnd, pn_ix, st_eq]
  exact key _ hQ
/-- rows close up -/
theorem c_closeRows {σ : rS} {k : Nat} {M : Hp} {kf : Nat → Bool} (hC : CX σ k M) (w : ON M) (hcl : ∀ i, i < hn M → kf i = true → ∀ f t, f < hsz M i → hlk M i f = some t → t < hn M ∧ kf t = true) (h42 : ∀ i, i < hn M → σ 42 0 i = if kf i = true then nI (rk kf i) else -1) : hit (lp (fun (x : (Int32 × Int32)) σ => fX7_closeUp_L10 k (nI (hn M)) x.1 x.2 σ) fu (0, 0) σ) (fun r s => r = nI (rk kf (hn M)) ∧ (∀ p, p < rk kf (hn M) → CRo s k (cl M kf) p) ∧ ∀ c q, ¬ (45 ≤ c ∧ c ≤ 52 ∧ q = k) → s c q = σ c q) := by
  have hw := w.1
  refine lp_go (I := fun m x s => ∃ i, x = (nI (rk kf i), nI i) ∧ i ≤ hn M ∧ m = hn M - i ∧ (∀ p, p < rk kf i → CRo s k (cl M kf) p) ∧ (∀ q, i ≤ q → q < hn M → CRo s k M q) ∧ ∀ c q, ¬ (45 ≤ c ∧ c ≤ 52 ∧ q = k) → s c q = σ c q) ?_ fu (hn M) _ σ (fu_lt (by omega)) ⟨0, rfl, by omega, by omega, fun p hp => absurd hp (Nat.not_lt_zero _), fun q _ hq => hC.2.1 q hq, fun _ _ _ => rfl⟩
  rintro m x s ⟨i, rfl, hi, rfl, h1, h2, h3⟩
  have hri := rk_le kf i
  unfold fX7_closeUp_L10 fX7_closeUp_j35L10
  dsimp only
  simp (disch := omega) only [pn_lt]
  by_cases hlt : i < hn M
  · rw [if_pos hlt]
    have e42 : s 42 0 i = if kf i = true then nI (rk kf i) else -1 := by rw [h3 42 0 (by omega)]; exact h42 i hlt
    simp (disch := omega) only [pn_lt, pn_neg, pn_eq, pn_eq0, pn_eq1, pn_eq2, pn_m1, pn_m1', pn_m1lt, pn_ix, pn_bnd, pn_add1, pn_add3, pn_mul4, nI_add, bd_some, st_eq, rd_eq, if_true, if_false, ite_true, ite_false, reduceIte, e42]
    by_cases hk : kf i = true
    · rw [if_pos hk, if_neg (by rw [pn_m1 (by omega)]; exact id)]
      refine bd_hit (hit_mono (c_moveSlot (by omega) hri) ?_)
      rintro r t ⟨t1, t2, t3⟩
      refine hit_some ⟨hn M - (i + 1), by omega, i + 1, by rw [rk_yes hk], by omega, rfl, fun p hp => ?_, fun q hq1 hq2 => ?_, fun c q hcq => (t3 c q hcq).trans (h3 c q hcq)⟩
      · rw [rk_yes hk] at hp
        have hz := (w.2.1 i hlt).2.1
        obtain ⟨⟨o1, o2, o3, o4, o5, o6, o7⟩, o8⟩ := h2 i (Nat.le_refl _) hlt
        unfold CRo
        rw [t1 45 (by omega) (by omega), t1 46 (by omega) (by omega), t1 47 (by omega) (by omega), t1 48 (by omega) (by omega), t1 49 (by omega) (by omega), t1 50 (by omega) (by omega), t1 51 (by omega) (by omega)]
        by_cases ep : p = rk kf i
        · subst ep
          have ek : ks M kf (rk kf i) = i := (kl_get hlt hk).1
          rw [if_pos rfl, if_pos rfl, if_pos rfl, if_pos rfl, if_pos rfl, if_pos rfl, if_pos rfl]
          have en : hnum (cl M kf) (rk kf i) = hnum M i := by show M.2.1 0 (ks M kf (rk kf i)) = _; rw [ek]; rfl
          have ez : hsz (cl M kf) (rk kf i) = hsz M i := by show M.2.1 1 (ks M kf (rk kf i)) = _; rw [ek]; rfl
          have es : hsp (cl M kf) (rk kf i) = hsp M i := by show M.2.1 2 (ks M kf (rk kf i)) = _; rw [ek]; rfl
          have el : hpl (cl M kf) (rk kf i) = hpl M i := by show M.2.1 3 (ks M kf (rk kf i)) = _; rw [ek]; rfl
          have ed : hkd (cl M kf) (rk kf i) = hkd M i := by show M.2.2.1 0 (ks M kf (rk kf i)) = _; rw [ek]; rfl
          have et : hdt (cl M kf) (rk kf i) = hdt M i := by show M.2.2.1 1 (ks M kf (rk kf i)) = _; rw [ek]; rfl
          have ea : hag (cl M kf) (rk kf i) = hag M i := by show M.2.2.1 2 (ks M kf (rk kf i)) = _; rw [ek]; rfl
          rw [en, ez, es, el, ed, et, ea]
          refine ⟨⟨o1, o2, o3, o4, o5, o6, o7⟩, fun f hf => ?_⟩
          rw [t2, if_pos (by omega), show rk kf i * 4 + f - rk kf i * 4 = f by omega, o8 f hf]
          have er := rn_enc (σ := s) (o := hlk M i f) hw (fun j hj => by rw [h3 42 0 (by omega)]; exact h42 j hj) (fun t ht => hcl i hlt hk f t hf ht)
          rw [er]
          show _ = enc ((hlk M (ks M kf (rk kf i)) f).map (rk kf))
          rw [ek]
        · rw [if_neg ep, if_neg ep, if_neg ep, if_neg ep, if_neg ep, if_neg ep, if_neg ep]
          obtain ⟨c1, c2⟩ := h1 p (by omega)
          refine ⟨c1, fun f hf => ?_⟩
          have hkp := kl_at (kf := kf) (n := hn M) (p := p) (by have := rk_mono hlt hk; omega)
          have hz2 : hsz (cl M kf) p ≤ 4 := (w.2.1 _ hkp.1).2.1
          rw [t2, if_neg (by omega)]
          exact c2 f hf
      · have hz := (w.2.1 q hq2).2.1
        obtain ⟨c1, c2⟩ := h2 q (by omega) hq2
        unfold CRo
        rw [t1 45 (by omega) (by omega), t1 46 (by omega) (by omega), t1 47 (by omega) (by omega), t1 48 (by omega) (by omega), t1 49 (by omega) (by omega), t1 50 (by omega) (by omega), t1 51 (by omega) (by omega)]
        have eq : ¬ q = rk kf i := by omega
        rw [if_neg eq, if_neg eq, if_neg eq, if_neg eq, if_neg eq, if_neg eq, if_neg eq]
        refine ⟨c1, fun f hf => ?_⟩
        rw [t2, if_neg (by omega)]
        exact c2 f hf
    · rw [if_neg hk, if_pos rfl]
      refine hit_some ⟨hn M - (i + 1), by omega, i + 1, by rw [rk_no hk], by omega, rfl, fun p hp => ?_, fun q hq1 hq2 => h2 q (by omega) hq2, h3⟩
      rw [rk_no hk] at hp
      exact h1 p hp
  · rw [if_neg hlt]
    have : i = hn M := by omega
    subst this
    exact hit_some ⟨rfl, h1, h3⟩
theorem getD_mapN {L : List Nat} {f : Nat → Nat} {i : Nat} (hi : i < L.length) : (L.map f).getD i 0 = f (L.getD i 0) := by
  rw [List.getD_eq_getElem?_getD, List.getD_eq_getElem?_getD, List.getElem?_map, List.getElem?_eq_getElem hi]
  rfl
theorem l_set {σ : rS} {k i : Nat} {xs : List Int32} (h : Ln σ k xs) (hi : i < xs.length) (x : Int32) : hit (fX4_set k (nI i) x σ) (fun _ s => s = wr σ 28 k i x) := by
  have h80 := lnLen_le k
  have hx := h.2.1
  unfold fX4_set
  rw [h.1]
  simp (disch := omega) only [pn_lt, pn_neg, pn_eq, pn_eq0, pn_eq1, pn_eq2, pn_m1, pn_m1', pn_m1lt, pn_ix, pn_bnd, pn_add1, pn_add3, pn_mul4, nI_add, bd_some, st_eq, rd_eq, if_true, if_false, ite_true, ite_false, reduceIte, hi]
  exact hit_some rfl
theorem c_closeUp {σ : rS} {k : Nat} {M : Hp} {kf : Nat → Bool} (hC : CX σ k M) (w : ON M) (hcl : Clo M kf) (h42 : ∀ i, i < hn M → σ 42 0 i = if kf i = true then nI (rk kf i) else -1) : hit (fX7_closeUp k σ) (fun _ s => CX s k (cl M kf) ∧ ∀ c q, ¬ ((45 ≤ c ∧ c ≤ 53 ∧ q = k) ∨ (c = 7 ∧ q = k) ∨ (c = 28 ∧ (q = 6 * k ∨ q = 6 * k + 2))) → s c q = σ c q) := by
  have hw := w.1
  have hrk := rk_le kf (hn M)
  obtain ⟨c1, c2, c3, c4⟩ := hcl
  unfold fX7_closeUp
  rw [hC.1, rd_eq]
  refine bd_hit (hit_mono (c_closeRows hC w c1 h42) ?_)
  rintro r s ⟨rfl, h1, h2⟩
  rw [st_eq]
  obtain ⟨τ, hτ⟩ : ∃ τ, τ = wr s 7 k 0 (nI (rk kf (hn M))) := ⟨_, rfl⟩
  rw [← hτ]
  have t0 : ∀ c q, ¬ (c = 7 ∧ q = k) → τ c q = s c q := fun c q h => by rw [hτ]; exact wrR_ne _ _ _ _ h
  have t70 : τ 7 k 0 = nI (rk kf (hn M)) := by rw [hτ, wr_same]
  have t71 : τ 7 k 1 = hfl M := by rw [hτ, wr_i (by decide), h2 7 k (by omega)]; exact hC.2.2.2.2.1
  have t42 : ∀ i, i < hn M → τ 42 0 i = if kf i = true then nI (rk kf i) else -1 := fun i hi => by rw [t0 42 0 (by omega), h2 42 0 (by omega)]; exact h42 i hi
  have t53 : ∀ r, r < 8 → τ 53 k r = enc (hrt M r) := fun r hr => by rw [t0 53 k (by omega), h2 53 k (by omega)]; exact hC.2.2.1 r hr
  refine bd_hit (hit_mono (lp_for (I := fun i s => (∀ r, r < 8 → s 53 k r = if r < i then enc ((hrt M r).map (rk kf)) else enc (hrt M r)) ∧ ∀ c q, ¬ (c = 53 ∧ q = k) → s c q = τ c q) (P := fun _ s => (∀ r, r < 8 → s 53 k r = enc ((hrt M r).map (rk kf))) ∧ ∀ c q, ¬ (c = 53 ∧ q = k) → s c q = τ c q) (b := 8) ?_ ?_ fu 0 τ (by omega) (by have := fu_ge; omega) ⟨fun r hr => by rw [if_neg (by omega)]; exact t53 r hr, fun _ _ _ => rfl⟩) ?_)
  · rintro i u hi ⟨u1, u2⟩
    have e53 := u1 i hi
    rw [if_neg (by omega)] at e53
    unfold fX7_closeUp_L49
    simp (disch := omega) only [pn_lt8, pn_lt, pn_neg, pn_eq, pn_eq0, pn_eq1, pn_eq2, pn_m1, pn_m1', pn_m1lt, pn_ix, pn_bnd, pn_add1, pn_add3, pn_mul4, nI_add, bd_some, st_eq, rd_eq, if_true, if_false, ite_true, ite_false, reduceIte, hi, e53]
    rw [e_renamed, bd_some, rn_enc hw (fun j hj => by rw [u2 42 0 (by omega)]; exact t42 j hj) (fun t ht => c2 i t hi ht)]
    refine hit_some ⟨rfl, fun r hr => ?_, fun c q hcq => (wrR_ne _ _ _ _ hcq).trans (u2 c q hcq)⟩
    by_cases er : r = i
    · subst er; rw [wr_same, if_pos (by omega)]
    · rw [wr_i er, u1 r hr]
      by_cases g : r < i
      · rw [if_pos g, if_pos (by omega)]
      · rw [if_neg g, if_neg (by omega)]
  · rintro u ⟨u1, u2⟩
    unfold fX7_closeUp_L49
    simp (disch := omega) only [pn_lt8, pn_lt, pn_neg, pn_eq, pn_eq0, pn_eq1, pn_eq2, pn_m1, pn_m1', pn_m1lt, pn_ix, pn_bnd, pn_add1, pn_add3, pn_mul4, nI_add, bd_some, st_eq, rd_eq, if_true, if_false, ite_true, ite_false, reduceIte, Nat.lt_irrefl]
    exact hit_some ⟨fun r hr => by rw [u1 r hr, if_pos hr], u2⟩
  rintro r0 u ⟨u1, u2⟩
  have hLe : Ln u (6 * k) ((hen M).map nI) := hC.2.2.2.2.2.1.frame (by rw [u2 4 _ (by omega), t0 4 _ (by omega), h2 4 _ (by omega)]) (by rw [u2 28 _ (by omega), t0 28 _ (by omega), h2 28 _ (by omega)])
  have u42 : ∀ i, i < hn M → u 42 0 i = if kf i = true then nI (rk kf i) else -1 := fun i hi => by rw [u2 42 0 (by omega)]; exact t42 i hi
  have hle := hLe.2.1
  have hl80 := lnLen_le (6 * k)
  rw [List.length_map] at hle
  refine bd_hit (hit_mono (lp_for (I := fun i s => (∀ j, j < (hen M).length → s 28 (6 * k) j = if j < i then nI (rk kf ((hen M).getD j 0)) else nI ((hen M).getD j 0)) ∧ ∀ c q, ¬ (c = 28 ∧ q = 6 * k) → s c q = u c q) (P := fun _ s => (∀ j, j < (hen M).length → s 28 (6 * k) j = nI (rk kf ((hen M).getD j 0))) ∧ ∀ c q, ¬ (c = 28 ∧ q = 6 * k) → s c q = u c q) (b := (hen M).length) ?_ ?_ fu 0 u (by omega) (by have := fu_ge; omega) ⟨fun j hj => ?_, fun _ _ _ => rfl⟩) ?_)
  · rintro i v hi ⟨v1, v2⟩
    have h4 : v 4 (6 * k + 0) 1 = nI (hen M).length := by
      show v 4 (6 * k) 1 = _
      rw [v2 4 _ (by omega)]
      have := hLe.1
      rw [List.length_map] at this
      exact this
    have e28 := v1 i hi
    rw [if_neg (by omega)] at e28
    have hm := c3 _ (getD_mem hi)
    have hg : fX4_get (6 * k + 0) (nI i) v = some (nI ((hen M).getD i 0), v) := by
      unfold fX4_get
      have e28' : v 28 (6 * k + 0) i = nI ((hen M).getD i 0) := e28
      have l0 : lnLen (6 * k + 0) = lnLen (6 * k) := rfl
      rw [h4]
      simp (disch := omega) only [pn_lt, pn_neg, pn_eq, pn_eq0, pn_eq1, pn_eq2, pn_m1, pn_m1', pn_m1lt, pn_ix, pn_bnd, pn_add1, pn_add3, pn_mul4, nI_add, bd_some, st_eq, rd_eq, if_true, if_false, ite_true, ite_false, reduceIte, hi, e28', l0]
    unfold fX7_closeUp_L83
    rw [h4, hg, bd_some, e_renamed, bd_some]
    have er := rn_enc (σ := v) (o := some ((hen M).getD i 0)) hw (fun j hj => by rw [v2 42 0 (by omega)]; exact u42 j hj) (fun t ht => by cases ht; exact hm)
    have er' : rn v (nI ((hen M).getD i 0)) = nI (rk kf ((hen M).getD i 0)) := er
    rw [er']
    simp (disch := omega) only [pn_lt, pn_neg, pn_eq, pn_eq0, pn_eq1, pn_eq2, pn_m1, pn_m1', pn_m1lt, pn_ix, pn_bnd, pn_add1, pn_add3, pn_mul4, nI_add, bd_some, st_eq, rd_eq, if_true, if_false, ite_true, ite_false, reduceIte, hi]
    have hs : fX4_set (6 * k + 0) (nI i) (nI (rk kf ((hen M).getD i 0))) v = some (0, wr v 28 (6 * k) i (nI (rk kf ((hen M).getD i 0)))) := by
      unfold fX4_set
      have l0 : lnLen (6 * k + 0) = lnLen (6 * k) := rfl
      rw [h4]
      simp (disch := omega) only [pn_lt, pn_neg, pn_eq, pn_eq0, pn_eq1, pn_eq2, pn_m1, pn_m1', pn_m1lt, pn_ix, pn_bnd, pn_add1, pn_add3, pn_mul4, nI_add, bd_some, st_eq, rd_eq, if_true, if_false, ite_true, ite_false, reduceIte, hi, l0]
      rfl
    rw [hs, bd_some]
    refine hit_some ⟨rfl, fun j hj => ?_, fun c q hcq => (wrR_ne _ _ _ _ hcq).trans (v2 c q hcq)⟩
    by_cases ej : j = i
    · subst ej; rw [wr_same, if_pos (by omega)]
    · rw [wr_i ej, v1 j hj]
      by_cases g : j < i
      · rw [if_pos g, if_pos (by omega)]
      · rw [if_neg g, if_neg (by omega)]
  · rintro v ⟨v1, v2⟩
    have h4 : v 4 (6 * k + 0) 1 = nI (hen M).length := by
      show v 4 (6 * k) 1 = _
      rw [v2 4 _ (by omega)]
      have := hLe.1
      rw [List.length_map] at this
      exact this
    unfold fX7_closeUp_L83
    rw [h4]
    simp (disch := omega) only [pn_lt, pn_neg, pn_eq, pn_eq0, pn_eq1, pn_eq2, pn_m1, pn_m1', pn_m1lt, pn_ix, pn_bnd, pn_add1, pn_add3, pn_mul4, nI_add, bd_some, st_eq, rd_eq, if_true, if_false, ite_true, ite_false, reduceIte, Nat.lt_irrefl]
    exact hit_some ⟨fun j hj => by rw [v1 j hj, if_pos hj], v2⟩
  · rw [if_neg (by omega)]
    have := hLe.2.2 j (by rw [List.length_map]; exact hj)
    rw [getD_map_nI hj] at this
    exact this
  rintro r1 v ⟨v1, v2⟩
  have hLr : Ln v (6 * k + 2) ((hrm M).map (fun q => nI (q.1 * 4 + q.2))) := hC.2.2.2.2.2.2.2.frame (by rw [v2 4 _ (by omega), u2 4 _ (by omega), t0 4 _ (by omega), h2 4 _ (by omega)]) (by rw [v2 28 _ (by omega), u2 28 _ (by omega), t0 28 _ (by omega), h2 28 _ (by omega)])
  have v42 : ∀ i, i < hn M → v 42 0 i = if kf i = true then nI (rk kf i) else -1 := fun i hi => by rw [v2 42 0 (by omega)]; exact u42 i hi
  have hlr := hLr.2.1
  have hl82 := lnLen_le (6 * k + 2)
  rw [List.length_map] at hlr
  have h4v : v 4 (6 * k + 2) 1 = nI (hrm M).length := by
    have := hLr.1
    rw [List.length_map] at this
    exact this
  refine bd_hit (hit_mono (lp_for (I := fun i s => (∀ j, j < (hrm M).length → s 28 (6 * k + 2) j = if j < i then nI (rk kf ((hrm M).getD j (0, 0)).1 * 4 + ((hrm M).getD j (0, 0)).2) else nI (((hrm M).getD j (0, 0)).1 * 4 + ((hrm M).getD j (0, 0)).2)) ∧ ∀ c q, ¬ (c = 28 ∧ q = 6 * k + 2) → s c q = v c q) (P := fun _ s => (∀ j, j < (hrm M).length → s 28 (6 * k + 2) j = nI (rk kf ((hrm M).getD j (0, 0)).1 * 4 + ((hrm M).getD j (0, 0)).2)) ∧ ∀ c q, ¬ (c = 28 ∧ q = 6 * k + 2) → s c q = v c q) (b := (hrm M).length) ?_ ?_ fu 0 v (by omega) (by have := fu_ge; omega) ⟨fun j hj => ?_, fun _ _ _ => rfl⟩) ?_)
  · rintro i x hi ⟨x1, x2⟩
    have h4 : x 4 (6 * k + 2) 1 = nI (hrm M).length := by rw [x2 4 _ (by omega)]; exact h4v
    have e28 := x1 i hi
    rw [if_neg (by omega)] at e28
    obtain ⟨⟨m1, m2⟩, m3⟩ := c4 _ (getD_mem' (d := (0, 0)) hi)
    have m4 := (w.2.1 _ m1).2.1
    have hrq := rk_le kf ((hrm M).getD i (0, 0)).1
    unfold fX7_closeUp_L126
    have hg : fX4_get (6 * k + 2) (nI i) x = some (nI (((hrm M).getD i (0, 0)).1 * 4 + ((hrm M).getD i (0, 0)).2), x) := by
      unfold fX4_get
      rw [h4]
      simp (disch := omega) only [pn_lt, pn_neg, pn_eq, pn_eq0, pn_eq1, pn_eq2, pn_m1, pn_m1', pn_m1lt, pn_ix, pn_bnd, pn_add1, pn_add3, pn_mul4, nI_add, bd_some, st_eq, rd_eq, if_true, if_false, ite_true, ite_false, reduceIte, hi, e28]
    rw [h4, hg, bd_some, pn_mod4 (by omega), pn_div4 (by omega), show (((hrm M).getD i (0, 0)).1 * 4 + ((hrm M).getD i (0, 0)).2) / 4 = ((hrm M).getD i (0, 0)).1 by omega, show (((hrm M).getD i (0, 0)).1 * 4 + ((hrm M).getD i (0, 0)).2) % 4 = ((hrm M).getD i (0, 0)).2 by omega, e_renamed, bd_some]
    have er := rn_enc (σ := x) (o := some ((hrm M).getD i (0, 0)).1) hw (fun j hj => by rw [x2 42 0 (by omega)]; exact v42 j hj) (fun t ht => by cases ht; exact ⟨m1, m2⟩)
    have er' : rn x (nI ((hrm M).getD i (0, 0)).1) = nI (rk kf ((hrm M).getD i (0, 0)).1) := er
    rw [er', pn_mul4, nI_add]
    simp (disch := omega) only [pn_lt, pn_neg, pn_eq, pn_eq0, pn_eq1, pn_eq2, pn_m1, pn_m1', pn_m1lt, pn_ix, pn_bnd, pn_add1, pn_add3, pn_mul4, nI_add, bd_some, st_eq, rd_eq, if_true, if_false, ite_true, ite_false, reduceIte, hi]
    have hs : fX4_set (6 * k + 2) (nI i) (nI (rk kf ((hrm M).getD i (0, 0)).1 * 4 + ((hrm M).getD i (0, 0)).2)) x = some (0, wr x 28 (6 * k + 2) i (nI (rk kf ((hrm M).getD i (0, 0)).1 * 4 + ((hrm M).getD i (0, 0)).2))) := by
      unfold fX4_set
      rw [h4]
      simp (disch := omega) only [pn_lt, pn_neg, pn_eq, pn_eq0, pn_eq1, pn_eq2, pn_m1, pn_m1', pn_m1lt, pn_ix, pn_bnd, pn_add1, pn_add3, pn_mul4, nI_add, bd_some, st_eq, rd_eq, if_true, if_false, ite_true, ite_false, reduceIte, hi]
    rw [hs, bd_some]
    refine hit_some ⟨rfl, fun j hj => ?_, fun c q hcq => (wrR_ne _ _ _ _ hcq).trans (x2 c q hcq)⟩
    by_cases ej : j = i
    · subst ej; rw [wr_same, if_pos (by omega)]
    · rw [wr_i ej, x1 j hj]
      by_cases g : j < i
      · rw [if_pos g, if_pos (by omega)]
      · rw [if_neg g, if_neg (by omega)]
  · rintro x ⟨x1, x2⟩
    have h4 : x 4 (6 * k + 2) 1 = nI (hrm M).length := by rw [x2 4 _ (by omega)]; exact h4v
    unfold fX7_closeUp_L126
    rw [h4]
    simp (disch := omega) only [pn_lt, pn_neg, pn_eq, pn_eq0, pn_eq1, pn_eq2, pn_m1, pn_m1', pn_m1lt, pn_ix, pn_bnd, pn_add1, pn_add3, pn_mul4, nI_add, bd_some, st_eq, rd_eq, if_true, if_false, ite_true, ite_false, reduceIte, Nat.lt_irrefl]
    exact hit_some ⟨fun j hj => by rw [x1 j hj, if_pos hj], x2⟩
  · rw [if_neg (by omega)]
    have := hLr.2.2 j (by rw [List.length_map]; exact hj)
    rw [getD_map (d := (0, 0)) hj] at this
    exact this
  rintro r2 x ⟨x1, x2⟩
  have all : ∀ c q, ¬ ((45 ≤ c ∧ c ≤ 53 ∧ q = k) ∨ (c = 7 ∧ q = k) ∨ (c = 28 ∧ (q = 6 * k ∨ q = 6 * k + 2))) → x c q = σ c q := fun c q h => by
    rw [x2 c q (by omega), v2 c q (by omega), u2 c q (by omega), t0 c q (by omega), h2 c q (by omega)]
  refine hit_some ⟨⟨?_, fun p hp => ?_, fun r hr => ?_, fun t ht => ?_, ?_, ⟨?_, ?_, fun j hj => ?_⟩, ?_, ⟨?_, ?_, fun j hj => ?_⟩⟩, all⟩
  · rw [x2 7 _ (by omega), v2 7 _ (by omega), u2 7 _ (by omega)]; exact t70
  · have e : ∀ c, 45 ≤ c → c ≤ 52 → x c k = s c k := fun c g1 g2 => by rw [x2 c _ (by omega), v2 c _ (by omega), u2 c _ (by omega), t0 c _ (by omega)]
    unfold CRo
    rw [e 45 (by omega) (by omega), e 46 (by omega) (by omega), e 47 (by omega) (by omega), e 48 (by omega) (by omega), e 49 (by omega) (by omega), e 50 (by omega) (by omega), e 51 (by omega) (by omega), e 52 (by omega) (by omega)]
    exact h1 p hp
  · rw [x2 53 _ (by omega), v2 53 _ (by omega)]; exact u1 r hr
  · rw [all 55 k (by omega)]; exact hC.2.2.2.1 t ht
  · rw [x2 7 _ (by omega), v2 7 _ (by omega), u2 7 _ (by omega)]; exact t71
  · rw [all 4 _ (by omega)]
    show σ 4 (6 * k) 1 = nI (((hen M).map (rk kf)).map nI).length
    rw [List.length_map, List.length_map]
    have := hC.2.2.2.2.2.1.1
    rw [List.length_map] at this
    exact this
  · show (((hen M).map (rk kf)).map nI).length ≤ _
    rw [List.length_map, List.length_map]; exact hle
  · have hj : j < (((hen M).map (rk kf)).map nI).length := hj
    rw [List.length_map, List.length_map] at hj
    show x 28 (6 * k) j = (((hen M).map (rk kf)).map nI).getD j 0
    rw [x2 28 _ (by omega), v1 j hj, getD_map_nI (by rw [List.length_map]; exact hj)]
    congr 1
    exact (getD_mapN hj).symm
  · exact hC.2.2.2.2.2.2.1.frame (all 4 _ (by omega)) (all 28 _ (by omega))
  · rw [all 4 _ (by omega)]
    show σ 4 (6 * k + 2) 1 = nI (((hrm M).map (fun q => (rk kf q.1, q.2))).map (fun q => nI (q.1 * 4 + q.2))).length
    rw [List.length_map, List.length_map]
    have := hC.2.2.2.2.2.2.2.1
    rw [List.length_map] at this
    exact this
  · show (((hrm M).map (fun q => (rk kf q.1, q.2))).map (fun q => nI (q.1 * 4 + q.2))).length ≤ _
    rw [List.length_map, List.length_map]; exact hlr
  · have hj : j < (((hrm M).map (fun q => (rk kf q.1, q.2))).map (fun q => nI (q.1 * 4 + q.2))).length := hj
    rw [List.length_map, List.length_map] at hj
    show x 28 (6 * k + 2) j = (((hrm M).map (fun q => (rk kf q.1, q.2))).map (fun q => nI (q.1 * 4 + q.2))).getD j 0
    rw [x1 j hj, List.map_map, getD_map (d := (0, 0)) hj]
    rfl
