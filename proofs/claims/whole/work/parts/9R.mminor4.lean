/-! a MINOR, the model's side: its end -/
theorem MR.fl' {m m' : Nat → Int32} {H : Hp} (h : MR m H) (w : ON H) (hb : Bd H) {x : Int32} (e1 : m' 1372 = x) (e : ∀ i, i < 1372 → m' i = m i) : MR m' (sFl H x) := by
  have hw := w.1
  obtain ⟨b1, b2, b3⟩ := hb
  obtain ⟨h1, h2, h3, ⟨h4, h5⟩, ⟨h6, h7⟩, ⟨h8', h9⟩, h10, h11⟩ := h
  refine ⟨by rw [e 0 (by omega)]; exact h1, fun i hi => ?_, fun q hq => by rw [e _ (by omega)]; exact h3 q hq, ⟨by rw [e _ (by omega)]; exact h4, fun i hi => ?_⟩, ⟨by rw [e _ (by omega)]; exact h6, fun i hi => ?_⟩, ⟨by rw [e _ (by omega)]; exact h8', fun i hi => ?_⟩, fun t ht => by rw [e _ (by omega)]; exact h10 t ht, e1⟩
  · have hi : i < hn H := hi
    have hz := (w.2.1 i hi).2.1
    unfold MRo
    rw [e _ (by omega), e _ (by omega), e _ (by omega), e _ (by omega), e _ (by omega), e _ (by omega), e _ (by omega)]
    exact ⟨(h2 i hi).1, fun f hf => by have hf : f < hsz H i := hf; rw [e _ (by omega)]; exact (h2 i hi).2 f hf⟩
  · have hi : i < (hrm H).length := hi
    rw [e _ (by omega), e _ (by omega)]; exact h5 i hi
  · have hi : i < (hen H).length := hi
    rw [e _ (by omega)]; exact h7 i hi
  · have hi : i < (hlo H).length := hi
    rw [e _ (by omega)]; exact h9 i hi
theorem MK_of {m : Nat → Int32} {H : Hp} {nu : Nat → Nat} (h : MR m H) (hn' : hnum H = nu) : MK m ((hrm H).map (fun q => (nu q.1, q.2))) := by
  refine ⟨by rw [List.length_map]; exact h.2.2.2.1.1, fun i hi => ?_⟩
  rw [List.length_map] at hi
  have e : ((hrm H).map (fun q => (nu q.1, q.2))).getD i (0, 0) = (nu ((hrm H).getD i (0, 0)).1, ((hrm H).getD i (0, 0)).2) := by
    rw [List.getD_eq_getElem?_getD, List.getD_eq_getElem?_getD, List.getElem?_map, List.getElem?_eq_getElem hi]
    rfl
  rw [e, ← hn']
  exact h.2.2.2.1.2 i hi
theorem MK_get {m : Nat → Int32} {E : List (Nat × Nat)} {nu : Nat → Nat} (h : MK m (E.map (fun q => (nu q.1, q.2)))) : m 889 = nI E.length ∧ ∀ i, i < E.length → m (890 + 2 * i) = nI (nu (E.getD i (0, 0)).1) ∧ m (891 + 2 * i) = nI (E.getD i (0, 0)).2 := by
  refine ⟨by have := h.1; rw [List.length_map] at this; exact this, fun i hi => ?_⟩
  have := h.2 i (by rw [List.length_map]; exact hi)
  rw [List.getD_eq_getElem?_getD, List.getElem?_map, List.getElem?_eq_getElem hi] at this
  rw [List.getD_eq_getElem?_getD, List.getElem?_eq_getElem hi]
  exact this
theorem getD_map' {α β : Type} {L : List α} {f : α → β} {d : α} {e : β} {i : Nat} (hi : i < L.length) : (L.map f).getD i e = f (L.getD i d) := by
  rw [List.getD_eq_getElem?_getD, List.getD_eq_getElem?_getD, List.getElem?_map, List.getElem?_eq_getElem hi]
  rfl
/-- a closed-up row's remembered, all of them kept -/
theorem MR.closeR {τ s : rS} {v : Nat} {M : Hp} {kf : Nat → Bool} (h : MR (τ 66 v) M) (w : ON M) (hb : Bd M) (hc : Clo M kf) (hG : Gst τ s v (hn M) kf 0) : MR (s 66 v) (cl M kf) := by
  refine (MRx.close h.x w ⟨hb.1, hb.2.1⟩ ⟨hc.1, hc.2.1, hc.2.2.1⟩ hG).r ⟨?_, fun i hi => ?_⟩
  · rw [hG.2.2.1 889 (by omega)]
    show _ = nI ((hrm M).map (fun q => (rk kf q.1, q.2))).length
    rw [List.length_map]; exact h.rm
  · have hi : i < ((hrm M).map (fun q => (rk kf q.1, q.2))).length := hi
    rw [List.length_map] at hi
    rw [hG.2.2.1 _ (by omega), hG.2.2.1 _ (by omega)]
    have e : (hrm (cl M kf)).getD i (0, 0) = (rk kf ((hrm M).getD i (0, 0)).1, ((hrm M).getD i (0, 0)).2) := getD_map' hi
    rw [e]
    obtain ⟨⟨c1, c2⟩, -⟩ := hc.2.2.2 _ (getD_mem' (d := (0, 0)) hi)
    show _ = nI (hnum M (ks M kf (rk kf ((hrm M).getD i (0, 0)).1))) ∧ _
    rw [show ks M kf (rk kf ((hrm M).getD i (0, 0)).1) = ((hrm M).getD i (0, 0)).1 from (kl_get c1 c2).1]
    exact h.2.2.2.1.2 i hi
theorem g_oty (B : Hp) (O : List Nat) (P : Pn) (T0 : Nat → Int32) (x : Int32) (L L1 : List (Nat × Nat)) (j f : Nat) : oty (sRm (sTl (mvP B O P) T0) L) j f = oty (sRm (sFl (mvP B O P) x) L1) j f := rfl
theorem g_ylk (B : Hp) (O : List Nat) (P : Pn) (T0 : Nat → Int32) (x : Int32) (j f : Nat) : ylk (sTl (mvP B O P) T0) j f = ylk (sFl (mvP B O P) x) j f := rfl
theorem g_cl (B : Hp) (O : List Nat) (P : Pn) (T0 : Nat → Int32) (x : Int32) (L L1 : List (Nat × Nat)) (kf : Nat → Bool) (T : Nat → Int32) : sTl (sFl (cl (sRm (sTl (mvP B O P) T0) L) kf) x) T = sTl (cl (sRm (sRm (sFl (mvP B O P) x) L1) L) kf) T := rfl
theorem g_clo (B : Hp) (O : List Nat) (P : Pn) (T0 : Nat → Int32) (x : Int32) (L L1 : List (Nat × Nat)) (kf : Nat → Bool) (h : Clo (sRm (sRm (sFl (mvP B O P) x) L1) L) kf) : Clo (sRm (sTl (mvP B O P) T0) L) kf := h
theorem g_tl (M : Hp) (kf : Nat → Bool) : htl (cl M kf) = htl M := rfl
theorem g_fl (M : Hp) (kf : Nat → Bool) : hfl (cl M kf) = hfl M := rfl
theorem g_fin (C : Hp) (T1 T2 : Nat → Int32) (x : Int32) : sFl (sTl (sTl C T1) T2) x = sTl (sFl C x) T2 := rfl
theorem g_hn (M : Hp) (L : List (Nat × Nat)) : hn (sRm M L) = hn M := rfl
theorem g_tlR (M : Hp) (L : List (Nat × Nat)) : htl (sRm M L) = htl M := rfl
theorem g_flR (M : Hp) (L : List (Nat × Nat)) : hfl (sRm M L) = hfl M := rfl
theorem mM1_eq (A : Hp) (g : Nat → Nat) (P : Pn) : mM1 A g P = sRm (sFl (mvP (mX3 A g).1 (pO P) P) (1 - hfl (mX3 A g).1)) (hrm (mM1 A g P)) := rfl
theorem mM2_eq (A : Hp) (g : Nat → Nat) (P : Pn) : mM2 A g P = sRm (sRm (sFl (mvP (mX3 A g).1 (pO P) P) (1 - hfl (mX3 A g).1)) (hrm (mM1 A g P))) (hrm (mM2 A g P)) := rfl
theorem minG_eq (A : Hp) (g : Nat → Nat) (P : Pn) : minG A g P = sTl (cl (mM2 A g P) (mKf A g P)) (tlA (upx (htl A) 1 (htl A 1 + 1)) (mC A g P) 0) := rfl
theorem mM0_eq (A : Hp) (g : Nat → Nat) (P : Pn) : mM0 A g P = sFl (mvP (mX3 A g).1 (pO P) P) (1 - hfl (mX3 A g).1) := rfl
theorem rowH_eq (A B : Hp) (c : Nat → Nat) (P : Pn) : rowH A B c P = sTl (mvP B (pO P) P) (tlA (htl A) (cM c (pO P) P) 0) := rfl
theorem g_t (M : Hp) (T : Nat → Int32) : htl (sTl M T) = T := rfl
theorem g_f (M : Hp) (T : Nat → Int32) : hfl (sTl M T) = hfl M := rfl
theorem g_fm (B : Hp) (O : List Nat) (P : Pn) : hfl (mvP B O P) = hfl B := rfl
theorem g_rm (B : Hp) (O : List Nat) (P : Pn) (T : Nat → Int32) : hrm (sTl (mvP B O P) T) = hrm B := rfl
theorem g_n (B : Hp) (O : List Nat) (P : Pn) (T : Nat → Int32) : hn (sTl (mvP B O P) T) = hn B := rfl
theorem g_bd {B : Hp} (h : Bd B) (O : List Nat) (P : Pn) (T : Nat → Int32) : Bd (sTl (mvP B O P) T) := h
section mEn
variable {τ : rS} {v : Nat} {R : Nat → Nat} {b : Nat} {A : Hp} {g : Nat → Nat} {F : List Nat} {P : Pn}
theorem mRows_rm (hI : Inv R b A) (hM : MF R A F P g) (hR : R 2 ≤ 128) {H0 : Hp} (h0 : hn H0 = hn A ∧ hsz H0 = hsz A ∧ (∀ L j f, oty (sRm H0 L) j f = oty (mM1 A g P) j f)) (w0 : ∀ L, (∀ q ∈ L, q.1 < hn A ∧ q.2 < hsz A q.1) → OK (sRm H0 L)) (b0 : (hen H0).length ≤ 80 ∧ (hlo H0).length ≤ 40) (hrow : MR (τ 66 v) (sRm H0 (hrm (mM1 A g P)))) (h22 : τ 10 0 22 = nI (pO P).length) (h69 : ∀ i, i < (pO P).length → τ 69 0 i = nI ((pO P).getD i 0)) : hit (lp (fun (x : Int32) σ => fX10_minors_L70 v x σ) fu 0 τ) (fun _ s => MR (s 66 v) (sRm H0 (hrm (mM2 A g P))) ∧ (∀ q, (q < 889 ∨ 1242 ≤ q) → s 66 v q = τ 66 v q) ∧ ∀ c k, ¬ (c = 66 ∧ k = v) → s c k = τ c k) := by
  have w := hI.ok
  have hw := w.n
  have hPI := hM.pi
  have hlen := hPI.len w
  have hcap := mCap hI hM hR
  have hclo := (mClo hI hM).2.2.2
  have en2 : hn (mM2 A g P) = hn A := mM_n (P := P)
  have ez2 : hsz (mM2 A g P) = hsz A := mM_sz (P := P)
  rw [en2, ez2] at hclo
  have ez1 : hsz (mM1 A g P) = hsz A := mM_sz (P := P)
  have hm2 : hrm (mM2 A g P) = hrm (mM1 A g P) ++ nwR (mM1 A g P) (pO P) := rfl
  rw [hm2] at hcap hclo ⊢
  rw [List.length_append] at hcap
  have e1 : hrm (mM1 A g P) = (hrm A).filter (drF (mM0 A g P) g) := by
    show (hrm (mX3 A g).1).filter _ = _
    rw [mX3_sh.2.2.2.2.2.1]
  have nO : ∀ q ∈ hrm (mM1 A g P), ¬ q.1 ∈ pO P := fun q hq hm => by
    rw [e1] at hq
    have h1 := (List.mem_filter.mp hq).1
    have h3 := w.rm h1
    exact (hPI.1.2.1 _ hm).2 ((hI.2.2.2.2.2.1.2 q.1 q.2 h3.1 h3.2).mp h1).1
  have pre : ∀ i, i < (pO P).length → (nwR (mM1 A g P) ((pO P).take i)).length + (frow (mM1 A g P) ((pO P).getD i 0) (hsz A ((pO P).getD i 0))).length ≤ (nwR (mM1 A g P) (pO P)).length := fun i hi => by
    have gen : ∀ (A' B' : List Nat), nwR (mM1 A g P) (A' ++ B') = nwR (mM1 A g P) A' ++ nwR (mM1 A g P) B' := fun A' B' => by
      induction A' with
      | nil => rfl
      | cons a A' ih => show frow (mM1 A g P) a (hsz (mM1 A g P) a) ++ nwR (mM1 A g P) (A' ++ B') = frow (mM1 A g P) a (hsz (mM1 A g P) a) ++ nwR (mM1 A g P) A' ++ nwR (mM1 A g P) B'; rw [ih, List.append_assoc]
    have e : nwR (mM1 A g P) (pO P) = nwR (mM1 A g P) ((pO P).take (i + 1)) ++ nwR (mM1 A g P) ((pO P).drop (i + 1)) := by
      rw [← gen, List.take_append_drop]
    rw [e, take_snoc hi, nwR_app, List.length_append, List.length_append, ez1]
    omega
  refine hit_mono (lp_for (I := fun i s => MR (s 66 v) (sRm H0 (hrm (mM1 A g P) ++ nwR (mM1 A g P) ((pO P).take i))) ∧ (∀ q, (q < 889 ∨ 1242 ≤ q) → s 66 v q = τ 66 v q) ∧ ∀ c k, ¬ (c = 66 ∧ k = v) → s c k = τ c k) (P := fun _ s => MR (s 66 v) (sRm H0 (hrm (mM1 A g P) ++ nwR (mM1 A g P) (pO P))) ∧ (∀ q, (q < 889 ∨ 1242 ≤ q) → s 66 v q = τ 66 v q) ∧ ∀ c k, ¬ (c = 66 ∧ k = v) → s c k = τ c k) (b := (pO P).length) ?_ ?_ fu 0 τ (by omega) (by have := fu_ge; omega) ⟨?_, fun _ _ => rfl, fun _ _ _ => rfl⟩) (fun _ s h => h)
  · rintro i s hi ⟨g1, g2, g3⟩
    have hmem := getD_mem hi
    have hj := (hPI.1.2.1 _ hmem).1
    have hz := w.sz hj
    have hpre := pre i hi
    have hnt := not_take hPI.1.1 hi
    have e22 : s 10 0 22 = nI (pO P).length := by rw [g3 10 0 (by omega)]; exact h22
    have e69 : s 69 0 i = nI ((pO P).getD i 0) := by rw [g3 69 0 (by omega)]; exact h69 i hi
    have esn : nwR (mM1 A g P) ((pO P).take (i + 1)) = nwR (mM1 A g P) ((pO P).take i) ++ frow (mM1 A g P) ((pO P).getD i 0) (hsz A ((pO P).getD i 0)) := by
      rw [take_snoc hi, nwR_app, ez1]
    rw [esn, ← List.append_assoc]
    generalize (pO P).getD i 0 = j at *
    unfold fX10_minors_L70
    rw [e22]
    simp (disch := omega) only [pn_lt, hi, if_true]
    refine bd_hit (hit_mono (lp_for (I := fun f t => f ≤ hsz A j ∧ MR (t 66 v) (sRm H0 (hrm (mM1 A g P) ++ nwR (mM1 A g P) ((pO P).take i) ++ frow (mM1 A g P) j f)) ∧ (∀ q, (q < 889 ∨ 1242 ≤ q) → t 66 v q = τ 66 v q) ∧ ∀ c k, ¬ (c = 66 ∧ k = v) → t c k = τ c k) (P := fun _ t => MR (t 66 v) (sRm H0 (hrm (mM1 A g P) ++ nwR (mM1 A g P) ((pO P).take i) ++ frow (mM1 A g P) j (hsz A j))) ∧ (∀ q, (q < 889 ∨ 1242 ≤ q) → t 66 v q = τ 66 v q) ∧ ∀ c k, ¬ (c = 66 ∧ k = v) → t c k = τ c k) (b := hsz A j) ?_ ?_ fu 0 s (by omega) (by have := fu_ge; omega) ⟨by omega, ?_, g2, g3⟩) ?_)
    · rintro f t hf ⟨hf5, t1, t2, t3⟩
      have hfl := frow_len_le (mM1 A g P) j (f := f) (n := hsz A j) (by omega)
      have hv : ∀ q ∈ hrm (mM1 A g P) ++ nwR (mM1 A g P) ((pO P).take i) ++ frow (mM1 A g P) j f, q.1 < hn A ∧ q.2 < hsz A q.1 := fun q hq => by
        rcases List.mem_append.mp hq with hq | hq
        · rcases List.mem_append.mp hq with hq | hq
          · have := hclo q (List.mem_append_left _ hq); exact ⟨this.1.1, this.2⟩
          · have h1 := nwR_mem.mp hq
            have := hclo q (List.mem_append_right _ (nwR_mem.mpr ⟨List.mem_of_mem_take h1.1, h1.2⟩)); exact ⟨this.1.1, this.2⟩
        · have h1 := frow_mem.mp hq
          rw [h1.1]; exact ⟨hj, by omega⟩
      have w1 := w0 _ hv
      have ll : (hrm (mM1 A g P) ++ nwR (mM1 A g P) ((pO P).take i) ++ frow (mM1 A g P) j f).length < 176 := by
        rw [List.length_append, List.length_append]; omega
      have hjr : j < hn (sRm H0 (hrm (mM1 A g P) ++ nwR (mM1 A g P) ((pO P).take i) ++ frow (mM1 A g P) j f)) := by show j < hn H0; rw [h0.1]; exact hj
      have ezr : hsz (sRm H0 (hrm (mM1 A g P) ++ nwR (mM1 A g P) ((pO P).take i) ++ frow (mM1 A g P) j f)) j = hsz A j := by show hsz H0 j = _; rw [h0.2.1]
      have e69t : t 69 0 i = nI j := by rw [t3 69 0 (by omega), ← g3 69 0 (by omega)]; exact e69
      unfold fX10_minors_L80
      rw [pn_bnd (by omega) (by omega), ix_nI (by omega), e69t, e_of2 t1 w1 hjr, bd_some, ezr]
      simp (disch := omega) only [pn_lt, hf, if_true]
      rw [pn_bnd (by omega) (by omega), e69t]
      refine bd_hit (hit_mono (m_keeps t1 w1 ⟨b0.1, b0.2, by show (hrm (mM1 A g P) ++ nwR (mM1 A g P) ((pO P).take i) ++ frow (mM1 A g P) j f).length ≤ 176; omega⟩ ll hjr (by rw [ezr]; exact hf)) ?_)
      rintro r u ⟨u1, u2, u3⟩
      refine hit_some ⟨by rw [pn_add1], by omega, ?_, fun q hq => (u2 q hq).trans (t2 q hq), fun c k hck => (u3 c k hck).trans (t3 c k hck)⟩
      have ek : kpL (sRm H0 (hrm (mM1 A g P) ++ nwR (mM1 A g P) ((pO P).take i) ++ frow (mM1 A g P) j f)) j f = hrm (mM1 A g P) ++ nwR (mM1 A g P) ((pO P).take i) ++ frow (mM1 A g P) j (f + 1) := by
        unfold kpL
        rw [h0.2.2, frow_succ]
        have eh : hrm (sRm H0 (hrm (mM1 A g P) ++ nwR (mM1 A g P) ((pO P).take i) ++ frow (mM1 A g P) j f)) = hrm (mM1 A g P) ++ nwR (mM1 A g P) ((pO P).take i) ++ frow (mM1 A g P) j f := rfl
        rw [eh]
        by_cases ho : oty (mM1 A g P) j f = true
        · have hnm : ¬ (j, f) ∈ hrm (mM1 A g P) ++ nwR (mM1 A g P) ((pO P).take i) ++ frow (mM1 A g P) j f := fun hm => by
            rcases List.mem_append.mp hm with hm | hm
            · rcases List.mem_append.mp hm with hm | hm
              · exact nO _ hm hmem
              · exact hnt (nwR_mem.mp hm).1
            · have := (frow_mem.mp hm).2.1; exact Nat.lt_irrefl _ this
          rw [if_pos ⟨ho, hnm⟩, if_pos ho]
          exact List.append_assoc _ _ _
        · rw [if_neg (fun z => ho z.1), if_neg ho]
      rw [ek] at u1
      exact u1
    · rintro t ⟨-, t1, t2, t3⟩
      have hv : ∀ q ∈ hrm (mM1 A g P) ++ nwR (mM1 A g P) ((pO P).take i) ++ frow (mM1 A g P) j (hsz A j), q.1 < hn A ∧ q.2 < hsz A q.1 := fun q hq => by
        rcases List.mem_append.mp hq with hq | hq
        · rcases List.mem_append.mp hq with hq | hq
          · have := hclo q (List.mem_append_left _ hq); exact ⟨this.1.1, this.2⟩
          · have h1 := nwR_mem.mp hq
            have := hclo q (List.mem_append_right _ (nwR_mem.mpr ⟨List.mem_of_mem_take h1.1, h1.2⟩)); exact ⟨this.1.1, this.2⟩
        · have h1 := frow_mem.mp hq
          rw [h1.1]; exact ⟨hj, h1.2.1⟩
      have w1 := w0 _ hv
      have hjr : j < hn (sRm H0 (hrm (mM1 A g P) ++ nwR (mM1 A g P) ((pO P).take i) ++ frow (mM1 A g P) j (hsz A j))) := by show j < hn H0; rw [h0.1]; exact hj
      have ezr : hsz (sRm H0 (hrm (mM1 A g P) ++ nwR (mM1 A g P) ((pO P).take i) ++ frow (mM1 A g P) j (hsz A j))) j = hsz A j := by show hsz H0 j = _; rw [h0.2.1]
      have e69t : t 69 0 i = nI j := by rw [t3 69 0 (by omega), ← g3 69 0 (by omega)]; exact e69
      unfold fX10_minors_L80
      rw [pn_bnd (by omega) (by omega), ix_nI (by omega), e69t, e_of2 t1 w1 hjr, bd_some, ezr]
      simp (disch := omega) only [pn_lt, Nat.lt_irrefl, if_false]
      exact hit_some ⟨t1, t2, t3⟩
    · show MR (s 66 v) (sRm H0 (hrm (mM1 A g P) ++ nwR (mM1 A g P) ((pO P).take i) ++ []))
      rw [List.append_nil]; exact g1
    · rintro r t ⟨t1, t2, t3⟩
      exact hit_some ⟨by rw [pn_add1], t1, t2, t3⟩
  · rintro s ⟨g1, g2, g3⟩
    have e22 : s 10 0 22 = nI (pO P).length := by rw [g3 10 0 (by omega)]; exact h22
    unfold fX10_minors_L70
    rw [e22]
    simp (disch := omega) only [pn_lt, Nat.lt_irrefl, if_false]
    rw [List.take_length] at g1
    exact hit_some ⟨g1, g2, g3⟩
  · rw [List.take_zero]
    show MR (τ 66 v) (sRm H0 (hrm (mM1 A g P) ++ []))
    rw [List.append_nil]; exact hrow
theorem m_youngEnd (h : PMv τ v A (mX3 A g).1 (mX3 A g).2 P) (hI : Inv R b A) (hM : MF R A F P g) (hR : R 1 ≤ 32 ∧ R 2 ≤ 128) : hit (fX10_minors_j45 v τ) (fun r s => r = 1 ∧ MR (s 66 v) (minG A g P) ∧ LGr τ s v ∧ s 10 0 28 = nI (mGone A g P)) := by
  have w := hI.ok
  have hw := w.n
  have hPI := hM.pi
  obtain ⟨hrow, hG, h25, h26, h27⟩ := h
  obtain ⟨H0, hH0⟩ : ∃ H0, H0 = rowH A (mX3 A g).1 (mX3 A g).2 P := ⟨_, rfl⟩
  have hsh := mX3_sh (A := A) (g := g)
  have hE := mE1 hM
  have hB2 := mX2_BF hI hR.2 hE
  have w3 : OK (mX3 A g).1 := emL_OK hB2.1
  have b3 : Bd (mX3 A g).1 := Bd_em hB2.2.1 (emL_lo40 _ _ _ hB2.2.1.2.1)
  have wH : OK H0 := by rw [hH0]; exact rowH_OK w3 (hPI.spl hR)
  have bH : Bd H0 := by rw [hH0, rowH_eq]; exact g_bd b3 _ _ _
  have eN : hn H0 = hn A := by rw [hH0, rowH_eq, g_n]; exact hsh.1
  have eNum : hnum H0 = hnum A := by
    rw [hH0]; funext i
    show (mX3 A g).1.2.1 0 i = _
    rw [hsh.2.1]; rfl
  have eSz : hsz H0 = hsz A := by rw [hH0]; exact row_sz hsh.2.1
  have eSp : ∀ i, hsp H0 i = if i ∈ pO P then pSp P i else hsp A i := fun i => by rw [hH0]; exact row_sp hsh.2.1 i
  have eRm : hrm H0 = hrm A := by rw [hH0, rowH_eq, g_rm]; exact hsh.2.2.2.2.2.1
  have eTl : htl H0 = tlA (htl A) (mC3 A g P) 0 := by rw [hH0, rowH_eq, g_t]; rfl
  have eFl : hfl H0 = hfl (mX3 A g).1 := by rw [hH0, rowH_eq, g_f, g_fm]
  have eOty : ∀ L j f, oty (sRm H0 L) j f = oty (mM1 A g P) j f := fun L j f => by rw [hH0, rowH_eq, mM1_eq]; exact g_oty _ _ _ _ _ _ _ _ _
  have eY : ∀ j f, ylk H0 j f = ylk (mM0 A g P) j f := fun j f => by rw [hH0, rowH_eq, mM0_eq]; exact g_ylk _ _ _ _ _ _ _
  have eCl : ∀ T, sTl (sFl (cl (sRm H0 (hrm (mM2 A g P))) (mKf A g P)) (1 - hfl (mX3 A g).1)) T = sTl (cl (mM2 A g P) (mKf A g P)) T := fun T => by
    rw [hH0, rowH_eq]
    conv => rhs; rw [mM2_eq]
    exact g_cl _ _ _ _ _ _ _ _ _
  have eClo : Clo (sRm H0 (hrm (mM2 A g P))) (mKf A g P) := by
    have h := mClo hI hM
    rw [mM2_eq] at h
    rw [hH0, rowH_eq]
    exact g_clo _ _ _ _ _ _ _ _ h
  rw [← hH0] at hrow
  clear hH0
  have e66 : 0 = 0 := rfl
  unfold fX10_minors_j45
  rw [if_pos h27]
  have hK := MK_of hrow eNum
  have hfd : ∀ q ∈ hrm A, findA H0 (nI (hnum A q.1)) = some q.1 := fun q hq => by
    have := findA_num wH (j := q.1) (by rw [eN]; exact (w.rm hq).1)
    rw [eNum] at this
    exact this
  rw [eRm] at hK
  refine bd_hit (hit_mono (m_sifts hrow.mn wH.on hK (by rw [List.length_map, ← eRm]; exact bH.2.2) (fun q hq k hk => ?_)) ?_)
  · obtain ⟨q0, hq0, rfl⟩ := List.mem_map.mp hq
    have hk : findA H0 (nI (hnum A q0.1)) = some k := hk
    rw [hfd q0 hq0] at hk
    cases hk
    rw [eSz]; exact (w.rm hq0).2
  rintro r1 s1 ⟨k1, k2, k3⟩
  have eF : ((hrm A).map (fun q => (hnum A q.1, q.2))).filter (kp H0) = (hrm (mM1 A g P)).map (fun q => (hnum A q.1, q.2)) := by
    have e1 : hrm (mM1 A g P) = (hrm A).filter (drF (mM0 A g P) g) := by
      show (hrm (mX3 A g).1).filter _ = _
      rw [hsh.2.2.2.2.2.1]
    rw [e1, List.filter_map]
    congr 1
    refine List.filter_congr (fun q hq => ?_)
    have hr := w.rm hq
    have h2 := ((hI.2.2.2.2.2.1.2 q.1 q.2 hr.1 hr.2).mp hq).1
    show (match findA H0 (nI (hnum A q.1)) with
      | none => false
      | some k => ylk H0 k q.2) = drF (mM0 A g P) g q
    rw [hfd q hq]
    show ylk H0 q.1 q.2 = _
    rw [eY]
    unfold drF oty
    have h3 : hsp (mM0 A g P) q.1 = 2 := (mM_2 hPI q.1).mpr (Or.inl h2)
    have h4 : g q.1 = 1 := hM.g1.mpr (Or.inl h2)
    rw [decide_eq_true h3, h4]
    simp
  rw [eF] at k1
  have k1' := MK_get k1
  have hM1 : MR (s1 66 v) (sRm H0 (hrm (mM1 A g P))) := by
    refine hrow.rm' wH bH k1'.1 (fun i hi => ?_) (fun i h1 h2 => k2 i h2)
    rw [eNum]; exact k1'.2 i hi
  have t2 := mRows_rm (τ := s1) (v := v) hI hM hR.2 (H0 := H0) ⟨eN, eSz, eOty⟩ (fun L hL => wH.rm' (fun q hq => by rw [eN, eSz]; exact hL q hq)) ⟨bH.1, bH.2.1⟩ hM1 (by rw [k3 10 0 (by omega)]; exact hG.2.2.1) (fun i hi => by rw [k3 69 0 (by omega)]; exact hG.2.2.2.1 i hi)
  refine bd_hit (hit_mono t2 ?_)
  rintro r2 s2 ⟨m1, m2, m3⟩
  have cap := mCap hI hM hR.2
  rw [st_eq]
  obtain ⟨s3, hs3⟩ : ∃ s3, s3 = wr s2 10 0 28 0 := ⟨_, rfl⟩
  rw [← hs3]
  have s366 : s3 66 = s2 66 := by rw [hs3, wr_c (by decide)]
  have hM3 : MR (s3 66 v) (sRm H0 (hrm (mM2 A g P))) := by rw [s366]; exact m1
  have bH2 : Bd (sRm H0 (hrm (mM2 A g P))) := ⟨bH.1, bH.2.1, by show (hrm (mM2 A g P)).length ≤ 176; omega⟩
  have e0 : s3 66 v 0 = nI (hn A) := by rw [hM3.n]; congr 1
  have e0' : s3 66 v (ix 0) = nI (hn A) := e0
  rw [e0', rd_eq]
  have s368 : ∀ j, j < 80 → s3 68 0 j = if j ∈ pO P then 1 else 0 := fun j hj => by
    rw [hs3, wr_c (by decide), m3 68 0 (by omega), k3 68 0 (by omega)]; exact hG.2.2.2.2 j hj
  have t3 := m_goMinor (τ := s3) (v := v) (n := hn A) (kf := mKf A g P) (Q := pO P) (sp := hsp H0) e0 hw (by rw [hs3, wr_same]) (fun i hi => ⟨hM3.sp (show i < hn H0 by rw [eN]; exact hi), wH.sp (by rw [eN]; exact hi)⟩) s368 (fun i hi => by
    rw [mKf_eq hM, eSp]
    by_cases hm : i ∈ pO P
    · exact ⟨fun _ => Or.inr hm, fun _ => Or.inr hm⟩
    · rw [if_neg hm])
  refine bd_hit (hit_mono t3 ?_)
  rintro r3 s4 hGs
  have enH : hn (sRm H0 (hrm (mM2 A g P))) = hn A := (g_hn _ _).trans eN
  have hGs' : Gst s3 s4 v (hn (sRm H0 (hrm (mM2 A g P)))) (mKf A g P) 0 := by rw [enH]; exact hGs
  have wH2 : ON (sRm H0 (hrm (mM2 A g P))) := wH.on
  have hM4 : MR (s4 66 v) (cl (sRm H0 (hrm (mM2 A g P))) (mKf A g P)) := MR.closeR hM3 wH2 bH2 eClo hGs'
  have wC : OK (cl (sRm H0 (hrm (mM2 A g P))) (mKf A g P)) := cl_OK wH2 eClo
  have bC : Bd (cl (sRm H0 (hrm (mM2 A g P))) (mKf A g P)) := ⟨by show ((hen H0).map _).length ≤ 80; rw [List.length_map]; exact bH.1, bH.2.1, by show ((hrm (mM2 A g P)).map _).length ≤ 176; rw [List.length_map]; omega⟩
  have tC : htl (cl (sRm H0 (hrm (mM2 A g P))) (mKf A g P)) = tlA (htl A) (mC3 A g P) 0 := by rw [g_tl, g_tlR]; exact eTl
  have fC : hfl (cl (sRm H0 (hrm (mM2 A g P))) (mKf A g P)) = hfl (mX3 A g).1 := by rw [g_fl, g_flR]; exact eFl
  have e28 : s4 10 0 28 = nI (mGone A g P) := by
    rw [hGs.2.2.2.1]
    show nI (hn A - 0 - (rk (mKf A g P) (hn A) - 0)) = nI (hn A - rk (mKf A g P) (hn A))
    congr 1
  have lg4 : LGr τ s4 v := fun i hi => by
    rw [hGs.2.2.1 i (by omega), s366, m2 i (by omega), k2 i (by omega)]
  generalize hC : cl (sRm H0 (hrm (mM2 A g P))) (mKf A g P) = C at hM4 wC bC tC fC eCl
  have e69 : s4 66 v (ix 1369) = tlA (htl A) (mC3 A g P) 0 5 := by rw [← tC]; exact hM4.tl (t := 5) (by omega)
  rw [e69, e28, st_eq]
  have hM5 : MR (wr s4 66 v (ix 1369) (tlA (htl A) (mC3 A g P) 0 5 + nI (mGone A g P)) 66 v) (sTl C (upx (htl C) 5 (tlA (htl A) (mC3 A g P) 0 5 + nI (mGone A g P)))) := hM4.tl' wC.on bC (by omega) (by show wr s4 66 v 1369 _ 66 v 1369 = _; rw [wr_same]) (fun i h1 h2 => by rw [wr_i (show ¬ i = ix 1369 from h2)])
  generalize hs5 : wr s4 66 v (ix 1369) (tlA (htl A) (mC3 A g P) 0 5 + nI (mGone A g P)) = s5 at hM5 ⊢
  have e65 : s5 66 v (ix 1365) = htl A 1 := by
    have : s5 66 v 1365 = upx (htl C) 5 (tlA (htl A) (mC3 A g P) 0 5 + nI (mGone A g P)) 1 := hM5.tl (t := 1) (by omega)
    rw [upx_ne (by decide), tC, tlA_lt (by omega)] at this
    exact this
  rw [e65, st_eq]
  have hM6 : MR (wr s5 66 v (ix 1365) (htl A 1 + 1) 66 v) (sTl (sTl C (upx (htl C) 5 (tlA (htl A) (mC3 A g P) 0 5 + nI (mGone A g P)))) (upx (upx (htl C) 5 (tlA (htl A) (mC3 A g P) 0 5 + nI (mGone A g P))) 1 (htl A 1 + 1))) := hM5.tl' wC.on bC (by omega) (by show wr s5 66 v 1365 _ 66 v 1365 = _; rw [wr_same]) (fun i h1 h2 => by rw [wr_i (show ¬ i = ix 1365 from h2)])
  generalize hs6 : wr s5 66 v (ix 1365) (htl A 1 + 1) = s6 at hM6 ⊢
  have e72 : s6 66 v (ix 1372) = hfl (mX3 A g).1 := by rw [← fC]; exact hM6.fl
  rw [e72, st_eq]
  have hM7 : MR (wr s6 66 v (ix 1372) (1 - hfl (mX3 A g).1) 66 v) (sFl (sTl (sTl C (upx (htl C) 5 (tlA (htl A) (mC3 A g P) 0 5 + nI (mGone A g P)))) (upx (upx (htl C) 5 (tlA (htl A) (mC3 A g P) 0 5 + nI (mGone A g P))) 1 (htl A 1 + 1))) (1 - hfl (mX3 A g).1)) := hM6.fl' wC.on bC (by show wr s6 66 v 1372 _ 66 v 1372 = _; rw [wr_same]) (fun i h1 => by rw [wr_i (show ¬ i = ix 1372 from (by omega : ¬ i = 1372))])
  have eT : upx (upx (htl C) 5 (tlA (htl A) (mC3 A g P) 0 5 + nI (mGone A g P))) 1 (htl A 1 + 1) = tlA (upx (htl A) 1 (htl A 1 + 1)) (mC A g P) 0 := by
    rw [tC]
    funext t
    unfold mC
    by_cases t1 : t = 1
    · subst t1; rw [upx_same, tlA_lt (by omega), upx_same]
    · rw [upx_ne t1]
      by_cases t5 : t = 5
      · subst t5
        rw [upx_same, tlA_ge (by omega), tlA_ge (by omega), upx_ne (by decide)]
        show htl A 5 + nI (mC3 A g P 2) + nI (mGone A g P) = htl A 5 + nI (upx (mC3 A g P) 2 (mC3 A g P 2 + mGone A g P) 2)
        rw [upx_same, ← nI_add, Int32.add_assoc]
      · rw [upx_ne t5]
        by_cases g3 : 3 ≤ t
        · rw [tlA_ge g3, tlA_ge g3, upx_ne t1, upx_ne (by omega)]
        · rw [tlA_lt (by omega), tlA_lt (by omega), upx_ne t1]
  have eFin : sFl (sTl (sTl C (upx (htl C) 5 (tlA (htl A) (mC3 A g P) 0 5 + nI (mGone A g P)))) (upx (upx (htl C) 5 (tlA (htl A) (mC3 A g P) 0 5 + nI (mGone A g P))) 1 (htl A 1 + 1))) (1 - hfl (mX3 A g).1) = minG A g P := by
    rw [eT, g_fin, eCl, minG_eq]
  rw [eFin] at hM7
  refine hit_some ⟨rfl, hM7, fun i hi => ?_, ?_⟩
  · rw [wr_i (show ¬ i = ix 1372 from (by omega : ¬ i = 1372)), ← hs6, wr_i (show ¬ i = ix 1365 from (by omega : ¬ i = 1365)), ← hs5, wr_i (show ¬ i = ix 1369 from (by omega : ¬ i = 1369))]
    exact lg4 i hi
  · rw [wr_c (by decide), ← hs6, wr_c (by decide), ← hs5, wr_c (by decide)]
    exact e28
end mEn
