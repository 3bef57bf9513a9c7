/-! link a field -/
def lkA (A : Hp) (j f : Nat) (o : Option Nat) : Hp := sLk A (fun i g => if i = j ∧ g = f then o else hlk A i g)
def lnkA (A : Hp) (j f : Nat) (o : Option Nat) : Hp := sRm (lkA A j f o) (rfL (lkA A j f o) j f)
def lnkO (A : Hp) (j q f : Nat) : AR := if hlk A j f = (if q < 8 then hrt A q else none) then .inl 2 else .inr (encN A (hlk A j f), nI (hnum A j), lnkA A j f (if q < 8 then hrt A q else none))
def doLink (A : Hp) (x y z : Int32) : AR := match inB x 8 with
  | none => .inl 0
  | some r => match hrt A r with
    | none => .inl 0
    | some j => match inB z 9 with
      | none => .inl 0
      | some q => if q < 8 ∧ hrt A q = none then .inl 0 else match inB y (hsz A j) with
        | none => .inl 1
        | some f => lnkO A j q f
theorem enc_inj {A : Hp} {o p : Option Nat} (w : OK A) (ho : ∀ i, o = some i → i < hn A) (hp : ∀ i, p = some i → i < hn A) : (enc o = enc p) = (o = p) := by
  have hw := w.n
  cases p with
  | none => rw [enc_none, enc_m1 (fun i hi => by have := ho i hi; omega)]
  | some j => rw [enc_some, enc_eq (fun i hi => by have := ho i hi; omega) (by have := hp j rfl; omega)]
theorem encN_inj {A : Hp} {o p : Option Nat} (w : OK A) (ho : ∀ i, o = some i → i < hn A) (hp : ∀ i, p = some i → i < hn A) : (encN A o = encN A p) = (o = p) := by
  cases p with
  | none => rw [show encN A none = 0 from rfl, encN_0 w ho]
  | some j => rw [show encN A (some j) = nI (hnum A j) from rfl, encN_eq w ho (hp j rfl)]
theorem OK.lkA {A : Hp} (w : OK A) {j f : Nat} {o : Option Nat} (ho : ∀ i, o = some i → i < hn A) : OK (lkA A j f o) := by
  refine ⟨w.1, fun i hi => ?_, w.2.2⟩
  obtain ⟨h1, h2, h3, h4, h5⟩ := w.2.1 i hi
  refine ⟨h1, h2, h3, h4, fun g t hg ht => ?_⟩
  have ht : (if i = j ∧ g = f then o else hlk A i g) = some t := ht
  by_cases e : i = j ∧ g = f
  · rw [if_pos e] at ht; exact ho t ht
  · rw [if_neg e] at ht; exact h5 g t hg ht
theorem encN_lk (A : Hp) (j f : Nat) (o p : Option Nat) : encN (lkA A j f o) p = encN A p := by cases p <;> rfl
theorem OK.rm' {A : Hp} (w : OK A) {E : List (Nat × Nat)} (h : ∀ q ∈ E, q.1 < hn A ∧ q.2 < hsz A q.1) : OK (sRm A E) := ⟨w.1, w.2.1, w.2.2.1, w.2.2.2.1, h, w.2.2.2.2.2⟩
theorem rfL_ok {A : Hp} (w : OK A) {j f : Nat} (hj : j < hn A) (hf : f < hsz A j) : ∀ q ∈ rfL A j f, q.1 < hn A ∧ q.2 < hsz A q.1 := by
  intro q hq
  unfold rfL at hq
  by_cases ho : oty A j f = true
  · rw [if_pos ho] at hq
    by_cases hm : (j, f) ∈ hrm A
    · rw [if_pos hm] at hq; exact w.rm hq
    · rw [if_neg hm] at hq
      rcases List.mem_append.mp hq with hq | hq
      · exact w.rm hq
      · rw [List.mem_singleton.mp hq]; exact ⟨hj, hf⟩
  · rw [if_neg ho] at hq
    exact w.rm (List.mem_filter.mp hq).1
theorem c_linkJ {σ : rS} {k r q : Nat} {j : Nat} {A : Hp} {L : Lg} (hC : CS σ k (A, L)) (w : OK A) (hd : (hrm A).Nodup) (hl : (hrm A).length < 80) (hr : r < 8) (hj : hrt A r = some j) (hq : q < 9) (hq2 : ¬ (q < 8 ∧ hrt A q = none)) (y : Int32) : hit (fX0_linkField_j26 k (nI r) y (nI q) σ) (CA k 1 A L (match inB y (hsz A j) with
    | none => .inl 1
    | some f => lnkO A j q f)) := by
  have hw := w.n
  have hjn := w.rt hr hj
  have hz := w.sz hjn
  have e53 := hC.1.rt hr
  rw [hj, enc_some] at e53
  unfold fX0_linkField_j26
  simp (disch := omega) only [pn_lt, pn_neg, pn_eq, pn_eq0, pn_eq1, pn_eq2, pn_m1, pn_m1', pn_m1lt, pn_ix, pn_bnd, pn_add1, pn_add3, pn_mul4, nI_add, bd_some, st_eq, rd_eq, if_true, if_false, ite_true, ite_false, reduceIte, e53]
  rw [c_hasF hC.1 w hjn, bd_some]
  rcases inB_cases y (b := hsz A j) (by omega) with ⟨f, hf, rfl, e3⟩ | ⟨e3, -⟩
  · rw [e3]
    dsimp only
    rw [if_neg one_ne, e_target hC.1 w hjn hf, bd_some]
    have ho0 : ∀ i, (if q < 8 then hrt A q else none) = some i → i < hn A := fun i hi => by
      by_cases h8 : q < 8
      · rw [if_pos h8] at hi; exact w.rt h8 hi
      · rw [if_neg h8] at hi; cases hi
    have hot : ∀ i, hlk A j f = some i → i < hn A := fun i hi => w.lk hjn hf hi
    have key : ∀ o : Option Nat, o = (if q < 8 then hrt A q else none) → hit (fX0_linkField_j74 k (nI f) (nI j) (enc (hlk A j f)) (enc o) σ) (CA k 1 A L (lnkO A j q f)) := fun o eo => by
      have ho : ∀ i, o = some i → i < hn A := by rw [eo]; exact ho0
      unfold fX0_linkField_j74 lnkO
      rw [← eo]
      by_cases hs : hlk A j f = o
      · rw [if_pos hs, if_pos (by rw [hs])]
        exact hit_some ⟨by decide, hC⟩
      · rw [if_neg hs, if_neg (by rw [enc_inj w hot ho]; exact hs)]
        unfold fX7_setTarget
        rw [c_hasF hC.1 w hjn, bd_some, e3]
        dsimp only
        rw [if_neg one_ne, pn_mul4, nI_add]
        simp (disch := omega) only [pn_lt, pn_neg, pn_eq, pn_eq0, pn_eq1, pn_eq2, pn_m1, pn_m1', pn_m1lt, pn_ix, pn_bnd, pn_add1, pn_add3, pn_mul4, nI_add, bd_some, st_eq, rd_eq, if_true, if_false, ite_true, ite_false, reduceIte]
        have hC1 : CS (wr σ 52 k (j * 4 + f) (enc o)) k (lkA A j f o, L) := cs_lk hC (by omega) w
        have w1 : OK (lkA A j f o) := w.lkA ho
        refine bd_hit (hit_mono (c_refresh hC1 w1 hd hl hjn hf) ?_)
        rintro r1 s hS
        have e45 : s 45 k j = nI (hnum A j) := hS.1.num hjn
        simp (disch := omega) only [pn_lt, pn_neg, pn_eq, pn_eq0, pn_eq1, pn_eq2, pn_m1, pn_m1', pn_m1lt, pn_ix, pn_bnd, pn_add1, pn_add3, pn_mul4, nI_add, bd_some, st_eq, rd_eq, if_true, if_false, ite_true, ite_false, reduceIte, e45]
        refine bd_hit (hit_mono (c_note hS 1 (nI (hnum A j))) ?_)
        rintro r2 s2 hS2
        have w2 : OK (lnkA A j f o) := w1.rm' (rfL_ok w1 hjn hf)
        have hS2' : CR s2 k (lnkA A j f o) := hS2.1
        have en := e_numberOf_o hS2' w2 (o := hlk A j f) hot
        have e2 : encN (lnkA A j f o) (hlk A j f) = encN A (hlk A j f) := by cases hlk A j f <;> rfl
        rw [e2] at en
        rw [en, bd_some]
        exact hit_some ⟨rfl, hS2⟩
    by_cases h8 : q = 8
    · subst h8
      rw [if_pos (by decide)]
      exact key none (by rw [if_neg (by omega)])
    · have e8 : ¬ nI q = 8 := by
        show ¬ nI q = nI 8
        rw [pn_eq (by omega) (by omega)]; exact h8
      have e53q := hC.1.rt (show q < 8 by omega)
      rw [if_neg e8]
      simp (disch := omega) only [pn_lt, pn_neg, pn_eq, pn_eq0, pn_eq1, pn_eq2, pn_m1, pn_m1', pn_m1lt, pn_ix, pn_bnd, pn_add1, pn_add3, pn_mul4, nI_add, bd_some, st_eq, rd_eq, if_true, if_false, ite_true, ite_false, reduceIte, e53q]
      exact key _ (by rw [if_pos (by omega)])
  · rw [e3, if_pos rfl]
    exact hit_some ⟨by decide, hC⟩
theorem c_link {σ : rS} {k : Nat} {A : Hp} {L : Lg} (hC : CS σ k (A, L)) (w : OK A) (hd : (hrm A).Nodup) (hl : (hrm A).length < 80) (x y z : Int32) : hit (fX0_linkField k x y z σ) (CA k 1 A L (doLink A x y z)) := by
  have hR0 : CR σ k A := hC.1
  have hw := w.n
  unfold fX0_linkField doLink
  rw [c_isLinked hR0 w, bd_some]
  have no : hit (some ((-1 : Int32), σ)) (CA k 1 A L (.inl 0)) := hit_some ⟨by decide, hC⟩
  rcases inB_cases x (b := 8) (by omega) with ⟨r, hr, rfl, e⟩ | ⟨e, -⟩
  · rw [e]
    dsimp only
    rcases opt_cases (hrt A r) with hj | ⟨j, hj⟩
    · simp only [hj, if_pos]; exact no
    · simp only [hj, if_neg one_ne]
      rcases inB_cases z (b := 9) (by omega) with ⟨q, hq, rfl, e2⟩ | ⟨e2, hx⟩
      · rw [e2]
        dsimp only
        by_cases h8 : q = 8
        · subst h8
          rw [if_pos (by decide), if_neg (by omega)]
          exact c_linkJ hC w hd hl hr hj (by omega) (by omega) y
        · have e8 : ¬ nI q = 8 := by
            show ¬ nI q = nI 8
            rw [pn_eq (by omega) (by omega)]; exact h8
          rw [if_neg e8, c_isLinked hR0 w, bd_some, inB_nI (by omega), if_pos (show q < 8 by omega)]
          dsimp only
          rcases opt_cases (hrt A q) with hq2 | ⟨t, hq2⟩
          · rw [if_pos (show q < 8 ∧ hrt A q = none from ⟨by omega, hq2⟩)]
            simp only [hq2, if_pos]; exact no
          · rw [if_neg (show ¬ (q < 8 ∧ hrt A q = none) by rw [hq2]; rintro ⟨-, h⟩; cases h)]
            simp only [hq2, if_neg one_ne]
            exact c_linkJ hC w hd hl hr hj hq (by rw [hq2]; rintro ⟨-, h⟩; cases h) y
      · rw [e2]
        dsimp only
        rcases hx with hx | ⟨i, h1, h2, rfl⟩
        · rw [if_neg (show ¬ z = 8 from neg_ne (i := 8) hx (by omega)), c_isLinked hR0 w, bd_some, inB_neg hx, if_pos rfl]
          exact no
        · have e8 : ¬ nI i = 8 := by
            show ¬ nI i = nI 8
            rw [pn_eq (by omega) (by omega)]; omega
          rw [if_neg e8, c_isLinked hR0 w, bd_some, inB_nI h2, if_neg (show ¬ i < 8 by omega), if_pos rfl]
          exact no
  · rw [e, if_pos rfl]
    exact no
/-- sifting and keeping, as the model does it, comes to the same -/
theorem filt_all {L : List (Nat × Nat)} {p : Nat × Nat → Bool} (h : ∀ q ∈ L, p q = true) : L.filter p = L := List.filter_eq_self.mpr h
theorem rm_link {R : Nat → Nat} {b : Nat} {A : Hp} (h : Inv R b A) {j f : Nat} {o : Option Nat} (hj : j < hn A) (hf : f < hsz A j) : kpL (sRm (lkA A j f o) ((hrm A).filter (fun q => ylk (lkA A j f o) q.1 q.2))) j f = rfL (lkA A j f o) j f := by
  have w := h.ok
  obtain ⟨hd, hiff⟩ := h.2.2.2.2.2.1
  have oth : ∀ q ∈ hrm A, ¬ q = (j, f) → ylk (lkA A j f o) q.1 q.2 = true := fun q hq hne => by
    have hr := w.rm hq
    obtain ⟨h2, t, ht, hs⟩ := (hiff q.1 q.2 hr.1 hr.2).mp hq
    have e : hlk (lkA A j f o) q.1 q.2 = some t := by
      show (if q.1 = j ∧ q.2 = f then o else hlk A q.1 q.2) = some t
      rw [if_neg (fun z => hne (Prod.ext z.1 z.2))]
      exact ht
    unfold ylk
    rw [e]
    show (!decide (hsp A t = 2)) = true
    simp [hs]
  have ot : oty (sRm (lkA A j f o) ((hrm A).filter (fun q => ylk (lkA A j f o) q.1 q.2))) j f = oty (lkA A j f o) j f := rfl
  unfold kpL rfL
  rw [ot]
  have er : hrm (sRm (lkA A j f o) ((hrm A).filter (fun q => ylk (lkA A j f o) q.1 q.2))) = (hrm A).filter (fun q => ylk (lkA A j f o) q.1 q.2) := rfl
  have er2 : hrm (lkA A j f o) = hrm A := rfl
  rw [er, er2]
  by_cases ho : oty (lkA A j f o) j f = true
  · have hy : ylk (lkA A j f o) j f = true := by
      unfold oty at ho
      exact (Bool.and_eq_true_iff.mp ho).2
    have ef : (hrm A).filter (fun q => ylk (lkA A j f o) q.1 q.2) = hrm A := filt_all (fun q hq => by
      by_cases e : q = (j, f)
      · rw [e]; exact hy
      · exact oth q hq e)
    rw [ef, if_pos ho]
    by_cases hm : (j, f) ∈ hrm A
    · rw [if_pos hm, if_neg (fun z => z.2 hm)]
    · rw [if_neg hm, if_pos ⟨ho, hm⟩]
  · rw [if_neg ho, if_neg (fun z => ho z.1)]
    refine List.filter_congr (fun q hq => ?_)
    by_cases e : q = (j, f)
    · have hr := w.rm hq
      obtain ⟨h2, -⟩ := (hiff q.1 q.2 hr.1 hr.2).mp hq
      rw [e] at h2
      have h2 : hsp A j = 2 := h2
      rw [e]
      have hy : ylk (lkA A j f o) j f = false := by
        unfold oty at ho
        have hh : hsp (lkA A j f o) j = 2 := h2
        rw [decide_eq_true hh, Bool.true_and] at ho
        simpa using ho
      show ylk (lkA A j f o) j f = _
      rw [hy]; simp
    · rw [oth q hq e]; simp [e]
theorem m_linkJ {τ : rS} {v r q j : Nat} {R : Nat → Nat} {b : Nat} {A : Hp} (hM : MR (τ 66 v) A) (hI : Inv R b A) (hR : R 2 ≤ 128) (h11 : ¬ τ 10 0 11 = 0) (hr : r < 8) (hj : hrt A r = some j) (hq : q < 9) (hq2 : ¬ (q < 8 ∧ hrt A q = none)) (y d : Int32) : hit (bd (fX10_stopsLinking_j51 v (nI r) y (nI q) τ) (fun r1 σ2 => bd (some (r1, σ2)) (fun r1 σ2 => if r1 = -1 then (if 0 < (1 : Int32) then (if (1 : Int32) < 4 then (bnd (881 + nI r) 1554 (fX10_does_j45 v 1 (nI r) y (nI q) d (σ2 66 v (ix (881 + nI r))) σ2)) else (fX10_does_j44 v 1 (nI r) y (nI q) d σ2)) else (fX10_does_j44 v 1 (nI r) y (nI q) d σ2)) else (some (r1, σ2))))) (MA v τ A (match inB y (hsz A j) with
    | none => .inl 1
    | some f => lnkO A j q f)) := by
  have w := hI.ok
  have hw := w.n
  have hb := hI.bd hR
  have hrl := hI.rm hR
  have hjn := w.rt hr hj
  have hz := w.sz hjn
  have n1 := w.num1 hjn
  have n2 := w.num2 hjn
  have ho : ∀ i, (if q < 8 then hrt A q else none) = some i → i < hn A := fun i hi => by
    by_cases h8 : q < 8
    · rw [if_pos h8] at hi; exact w.rt h8 hi
    · rw [if_neg h8] at hi; cases hi
  have e66r := hM.rt hr
  rw [hj] at e66r
  unfold fX10_stopsLinking_j51
  rw [e_rootSpot hM w hr, bd_some, hj, enc_some, e_of2 hM w hjn, bd_some, m_in1 y (by omega), bd_some]
  rcases inB_cases y (b := hsz A j) (by omega) with ⟨f, hf, rfl, e3⟩ | ⟨e3, -⟩
  · have hot : ∀ i, hlk A j f = some i → i < hn A := fun i hi => w.lk hjn hf hi
    rw [e3]
    dsimp only
    rw [if_neg one_ne, e_of7 hM w hjn hf, bd_some]
    have e8 : (nI q < 8) = (q < 8) := pn_lt8 (by omega)
    have link : ∀ (t : rS), MR (t 66 v) A → fX10_link (nI q) v t = some (encN A (if q < 8 then hrt A q else none), t) := fun t ht => by
      unfold fX10_link
      simp only [e8]
      by_cases h8 : q < 8
      · have et := ht.rt h8
        rw [if_pos h8, if_pos h8]
        simp (disch := omega) only [pn_lt, pn_neg, pn_eq, pn_eq0, pn_eq1, pn_eq2, pn_m1, pn_m1', pn_m1lt, pn_ix, pn_bnd, pn_add1, pn_add3, pn_mul4, nI_add, bd_some, st_eq, rd_eq, if_true, if_false, ite_true, ite_false, reduceIte, pm_881, et]
      · rw [if_neg h8, if_neg h8]; rfl
    have stp : (if nI q < 8 then (bnd (881 + nI q) 1554 (fX10_stopsLinking_j108 (τ 66 v (ix (881 + nI q))) (encN A (hlk A j f)) τ)) else (fX10_stopsLinking_j108 0 (encN A (hlk A j f)) τ)) = fX10_stopsLinking_j108 (encN A (if q < 8 then hrt A q else none)) (encN A (hlk A j f)) τ := by
      simp only [e8]
      by_cases h8 : q < 8
      · have et := hM.rt h8
        rw [if_pos h8, if_pos h8]
        simp (disch := omega) only [pn_lt, pn_neg, pn_eq, pn_eq0, pn_eq1, pn_eq2, pn_m1, pn_m1', pn_m1lt, pn_ix, pn_bnd, pn_add1, pn_add3, pn_mul4, nI_add, bd_some, st_eq, rd_eq, if_true, if_false, ite_true, ite_false, reduceIte, pm_881, et]
      · rw [if_neg h8, if_neg h8]; rfl
    rw [stp]
    obtain ⟨o, eo⟩ : ∃ o, o = (if q < 8 then hrt A q else none) := ⟨_, rfl⟩
    rw [← eo] at ho link ⊢
    unfold fX10_stopsLinking_j108
    simp only [encN_inj w hot ho]
    have eO : lnkO A j q f = if hlk A j f = o then .inl 2 else .inr (encN A (hlk A j f), nI (hnum A j), lnkA A j f o) := by unfold lnkO; rw [← eo]
    rw [eO]
    by_cases hs : hlk A j f = o
    · rw [if_pos hs, if_pos hs, bd_some, bd_some, if_neg (by decide)]
      exact hit_some ⟨fun _ _ => rfl, rfl, hM⟩
    · rw [if_neg hs, if_neg hs, bd_some, bd_some, if_pos rfl, if_pos (by decide), if_pos (by decide), pm_881, pn_bnd (by omega) (by omega), ix_nI (by omega), e66r]
      unfold fX10_does_j45
      rw [st_eq, if_neg (by decide), if_pos rfl]
      unfold fX10_links
      have hM1 : MR (wr τ 10 0 30 (encN A (some j)) 66 v) A := by rw [wr_c (by decide)]; exact hM
      rw [e_rootSpot hM1 w hr, bd_some, hj, enc_some, e_of7 hM1 w hjn hf, bd_some, st_eq]
      unfold fX10_cell
      rw [bd_some]
      have hM2 : MR (wr (wr τ 10 0 30 (encN A (some j))) 10 0 28 (encN A (hlk A j f)) 66 v) A := by rw [wr_c (by decide)]; exact hM1
      rw [link _ hM2, bd_some]
      have ec : (1 + 11 * nI j) + (7 + nI f) = nI (1 + 11 * j + (7 + f)) := by
        have := pm_cell j (7 + f)
        rw [← nI_add] at this
        exact this
      rw [ec, pn_bnd (by omega) (by omega), ix_nI (by omega), st_eq]
      have hM3 : MR (wr (wr (wr τ 10 0 30 (encN A (some j))) 10 0 28 (encN A (hlk A j f))) 66 v (1 + 11 * j + (7 + f)) (encN A o) 66 v) (lkA A j f o) := by
        refine hM2.lk' w hb hjn (by omega) ?_ (fun i h1 h2 => ?_)
        · rw [show 8 + 11 * j + f = 1 + 11 * j + (7 + f) by omega, wr_same]
        · rw [wr_i (by omega)]
      generalize hτ3 : wr (wr (wr τ 10 0 30 (encN A (some j))) 10 0 28 (encN A (hlk A j f))) 66 v (1 + 11 * j + (7 + f)) (encN A o) = τ3 at hM3 ⊢
      have w1 : OK (lkA A j f o) := w.lkA ho
      have hb1 : Bd (lkA A j f o) := hb
      have hK : MK (τ3 66 v) ((hrm A).map (fun q => (hnum A q.1, q.2))) := by
        refine ⟨by rw [List.length_map]; exact hM3.rm, fun i hi => ?_⟩
        rw [List.length_map] at hi
        have e : ((hrm A).map (fun q => (hnum A q.1, q.2))).getD i (0, 0) = (hnum A ((hrm A).getD i (0, 0)).1, ((hrm A).getD i (0, 0)).2) := by
          rw [List.getD_eq_getElem?_getD, List.getD_eq_getElem?_getD, List.getElem?_map, List.getElem?_eq_getElem hi]
          rfl
        rw [e]
        exact hM3.2.2.2.1.2 i hi
      have hfd : ∀ q ∈ hrm A, findA (lkA A j f o) (nI (hnum A q.1)) = some q.1 := fun q hq => findA_num w1 (w.rm hq).1
      refine bd_hit (bd_hit (hit_mono (m_sifts hM3.mn w1.on hK (by rw [List.length_map]; omega) (fun q hq k hk => ?_)) ?_))
      · obtain ⟨q0, hq0, rfl⟩ := List.mem_map.mp hq
        have hk : findA (lkA A j f o) (nI (hnum A q0.1)) = some k := hk
        rw [hfd q0 hq0] at hk
        cases hk
        exact (w.rm hq0).2
      · rintro r1 s ⟨k1, k2, k3⟩
        have eF : ((hrm A).map (fun q => (hnum A q.1, q.2))).filter (kp (lkA A j f o)) = ((hrm A).filter (fun q => ylk (lkA A j f o) q.1 q.2)).map (fun q => (hnum A q.1, q.2)) := by
          rw [List.filter_map]
          congr 1
          refine List.filter_congr (fun q hq => ?_)
          show kp (lkA A j f o) (hnum A q.1, q.2) = _
          unfold kp
          show (match findA (lkA A j f o) (nI (hnum A q.1)) with
            | none => false
            | some k => ylk (lkA A j f o) k q.2) = _
          rw [hfd q hq]
        rw [eF] at k1
        have hM4 : MR (s 66 v) (sRm (lkA A j f o) ((hrm A).filter (fun q => ylk (lkA A j f o) q.1 q.2))) := by
          refine hM3.rm' w1 hb1 ?_ (fun i hi => ?_) (fun i h1 h2 => k2 i h2)
          · have := k1.1; rw [List.length_map] at this; exact this
          · have := k1.2 i (by rw [List.length_map]; exact hi)
            rw [List.getD_eq_getElem?_getD, List.getElem?_map, List.getElem?_eq_getElem hi] at this
            rw [List.getD_eq_getElem?_getD, List.getElem?_eq_getElem hi]
            exact this
        have lf : ((hrm A).filter (fun q => ylk (lkA A j f o) q.1 q.2)).length ≤ (hrm A).length := List.length_filter_le _ _
        have w2 : OK (sRm (lkA A j f o) ((hrm A).filter (fun q => ylk (lkA A j f o) q.1 q.2))) := w1.rm' (fun q hq => w.rm (List.mem_filter.mp hq).1)
        refine bd_hit (hit_mono (m_keeps hM4 w2 ⟨hb.1, hb.2.1, by show ((hrm A).filter _).length ≤ 176; omega⟩ (by show ((hrm A).filter _).length < 176; omega) hjn hf) ?_)
        rintro r2 s2 ⟨m1, m2, m3⟩
        have c10 : s2 10 0 = τ3 10 0 := (m3 10 0 (by simp)).trans (k3 10 0 (by simp))
        refine hit_some (hit_some ⟨fun p hp => ?_, rfl, ?_, ?_, ?_⟩)
        · rw [m2 p (by omega), k2 p (by omega), ← hτ3, wr_i (by omega), wr_c (by decide), wr_c (by decide)]
        · rw [c10, ← hτ3, wr_c (by decide), wr_same]
        · rw [c10, ← hτ3, wr_c (by decide), wr_i (by decide), wr_same]; rfl
        · rw [rm_link hI hjn hf] at m1
          exact m1
  · rw [e3]
    dsimp only
    rw [if_pos rfl, bd_some, bd_some, if_neg (by decide)]
    exact hit_some ⟨fun _ _ => rfl, rfl, hM⟩
theorem m_link {τ : rS} {v : Nat} {R : Nat → Nat} {b : Nat} {A : Hp} (hM : MR (τ 66 v) A) (hI : Inv R b A) (hR : R 2 ≤ 128) (h11 : ¬ τ 10 0 11 = 0) (x y z d : Int32) : hit (fX10_does v 1 x y z d τ) (MA v τ A (doLink A x y z)) := by
  have w := hI.ok
  have no : ∀ g : Int32 → rS → Option (Int32 × rS), hit (bd (some ((0 : Int32), τ)) (fun r1 σ2 => if r1 = -1 then g r1 σ2 else (some (r1, σ2)))) (MA v τ A (.inl 0)) := fun g => by
    rw [bd_some, if_neg (by decide)]
    exact hit_some ⟨fun _ _ => rfl, rfl, hM⟩
  have asc : ∀ (o : Option (Int32 × rS)) (g : Int32 → rS → Option (Int32 × rS)), bd (bd o (fun r9 σ10 => some (r9, σ10))) g = bd o (fun r1 σ2 => bd (some (r1, σ2)) g) := fun o g => by cases o <;> rfl
  unfold fX10_does fX10_stops doLink
  rw [if_neg h11, if_neg (by decide), if_pos rfl]
  unfold fX10_stopsLinking
  rw [m_isRoot' h11, bd_some, asc]
  rcases inB_cases x (b := 8) (by omega) with ⟨r, hr, rfl, e⟩ | ⟨e, -⟩
  · rw [e]
    dsimp only
    rw [if_neg one_ne, show (8 : Int64) = (nI 8).toInt64 by decide, m_in z (by omega), bd_some]
    have e66r := hM.rt hr
    rcases inB_cases z (b := 9) (by omega) with ⟨q, hq, rfl, e2⟩ | ⟨e2, -⟩
    · rw [e2]
      dsimp only
      rw [if_neg one_ne, pm_881, pn_bnd (by omega) (by omega), ix_nI (by omega), e66r]
      cases hj : hrt A r with
      | none =>
        rw [show encN A none = 0 from rfl, if_pos rfl]
        exact no _
      | some j =>
        have hjn := w.rt hr hj
        have n1 := w.num1 hjn
        have n2 := w.num2 hjn
        rw [show encN A (some j) = nI (hnum A j) from rfl, if_neg (by rw [pn_eq0 (by omega)]; omega)]
        dsimp only
        have e8 : (nI q < 8) = (q < 8) := pn_lt8 (by omega)
        simp only [e8]
        by_cases h8 : q < 8
        · have e66q := hM.rt h8
          rw [if_pos h8, pm_881, pn_bnd (by omega) (by omega), ix_nI (by omega), e66q]
          cases hq2 : hrt A q with
          | none =>
            rw [show encN A none = 0 from rfl, if_pos rfl, if_pos ⟨h8, rfl⟩]
            exact no _
          | some t =>
            have htn := w.rt h8 hq2
            have m1 := w.num1 htn
            have m2 := w.num2 htn
            rw [show encN A (some t) = nI (hnum A t) from rfl, if_neg (by rw [pn_eq0 (by omega)]; omega), if_neg (by rintro ⟨-, h⟩; cases h)]
            have := m_linkJ hM hI hR h11 hr hj hq (by rw [hq2]; rintro ⟨-, h⟩; cases h) y d
            rw [pm_881, ix_nI (by omega)] at this
            exact this
        · rw [if_neg h8, if_neg (fun z => h8 z.1)]
          have := m_linkJ hM hI hR h11 hr hj hq (fun z => h8 z.1) y d
          rw [pm_881, ix_nI (by omega)] at this
          exact this
    · rw [e2]
      dsimp only
      rw [if_pos rfl]
      cases hj : hrt A r with
      | none => exact no _
      | some j => exact no _
  · rw [e, if_pos rfl]
    exact no _
theorem i_link {R : Nat → Nat} {b : Nat} {A : Hp} (h : Inv R b A) (x y z : Int32) : IvA R b (doLink A x y z) := by
  have w := h.ok
  unfold doLink
  rcases inB_cases x (b := 8) (by omega) with ⟨r, hr, rfl, e⟩ | ⟨e, -⟩
  · rw [e]
    dsimp only
    cases hj : hrt A r with
    | none => exact (by decide : 0 < 4)
    | some j =>
      have hjn := w.rt hr hj
      have hz := w.sz hjn
      dsimp only
      rcases inB_cases z (b := 9) (by omega) with ⟨q, hq, rfl, e2⟩ | ⟨e2, -⟩
      · rw [e2]
        dsimp only
        by_cases hq2 : q < 8 ∧ hrt A q = none
        · rw [if_pos hq2]; exact (by decide : 0 < 4)
        · rw [if_neg hq2]
          rcases inB_cases y (b := hsz A j) (by omega) with ⟨f, hf, rfl, e3⟩ | ⟨e3, -⟩
          · rw [e3]
            have ho : ∀ i, (if q < 8 then hrt A q else none) = some i → i < hn A := fun i hi => by
              by_cases h8 : q < 8
              · rw [if_pos h8] at hi; exact w.rt h8 hi
              · rw [if_neg h8] at hi; cases hi
            dsimp only
            unfold lnkO
            obtain ⟨o, eo⟩ : ∃ o, o = (if q < 8 then hrt A q else none) := ⟨_, rfl⟩
            rw [← eo] at ho ⊢
            by_cases hs : hlk A j f = o
            · rw [if_pos hs]; exact (by decide : 2 < 4)
            · rw [if_neg hs]
              refine ⟨encN_pos w (fun i hi => w.lk hjn hf hi), ?_⟩
              obtain ⟨h1, h2, h3, h4, h5, ⟨hd, hiff⟩, h7⟩ := h
              have w1 : OK (lkA A j f o) := w.lkA ho
              have otd : oty (lkA A j f o) j f = true ↔ hsp A j = 2 ∧ ∃ t, o = some t ∧ ¬ hsp A t = 2 := by
                have e : hlk (lkA A j f o) j f = o := if_pos ⟨rfl, rfl⟩
                unfold oty ylk
                rw [e]
                show (decide (hsp A j = 2) && _) = true ↔ _
                cases o with
                | none => simp
                | some t =>
                  show (decide (hsp A j = 2) && !decide (hsp A t = 2)) = true ↔ _
                  simp
              refine ⟨w1.rm' (rfL_ok w1 hjn hf), h2, h3, h4, h5, ⟨?_, fun i g hi hg => ?_⟩, h7⟩
              · show (rfL (lkA A j f o) j f).Nodup
                unfold rfL
                have er : hrm (lkA A j f o) = hrm A := rfl
                rw [er]
                by_cases ho2 : oty (lkA A j f o) j f = true
                · rw [if_pos ho2]
                  by_cases hm : (j, f) ∈ hrm A
                  · rw [if_pos hm]; exact hd
                  · rw [if_neg hm]
                    refine List.nodup_append.mpr ⟨hd, by simp, ?_⟩
                    intro a ha c hc
                    rw [List.mem_singleton.mp hc]
                    intro e; exact hm (e ▸ ha)
                · rw [if_neg ho2]; exact hd.filter _
              · have hi : i < hn A := hi
                have hg : g < hsz A i := hg
                show (i, g) ∈ rfL (lkA A j f o) j f ↔ hsp A i = 2 ∧ ∃ t, (if i = j ∧ g = f then o else hlk A i g) = some t ∧ ¬ hsp A t = 2
                unfold rfL
                have er : hrm (lkA A j f o) = hrm A := rfl
                rw [er]
                by_cases eij : i = j ∧ g = f
                · rw [if_pos eij]
                  obtain ⟨rfl, rfl⟩ := eij
                  rw [← otd]
                  by_cases ho2 : oty (lkA A i g o) i g = true
                  · rw [if_pos ho2]
                    by_cases hm : (i, g) ∈ hrm A
                    · rw [if_pos hm]; exact ⟨fun _ => ho2, fun _ => hm⟩
                    · rw [if_neg hm]; exact ⟨fun _ => ho2, fun _ => List.mem_append_right _ (List.mem_singleton.mpr rfl)⟩
                  · rw [if_neg ho2]
                    constructor
                    · intro hm
                      have := (List.mem_filter.mp hm).2
                      simp at this
                    · intro hc; exact absurd hc ho2
                · rw [if_neg eij, ← hiff i g hi hg]
                  have hne : ¬ (i, g) = (j, f) := fun e => eij ⟨congrArg Prod.fst e, congrArg Prod.snd e⟩
                  by_cases ho2 : oty (lkA A j f o) j f = true
                  · rw [if_pos ho2]
                    by_cases hm : (j, f) ∈ hrm A
                    · rw [if_pos hm]
                    · rw [if_neg hm, List.mem_append, List.mem_singleton]
                      exact ⟨fun h => h.resolve_right hne, Or.inl⟩
                  · rw [if_neg ho2, List.mem_filter]
                    simp [hne]
          · rw [e3]; exact (by decide : 1 < 4)
      · rw [e2]; exact (by decide : 0 < 4)
  · rw [e]; exact (by decide : 0 < 4)
