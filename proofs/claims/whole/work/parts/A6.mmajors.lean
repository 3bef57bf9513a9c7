/-! a MAJOR, the model's side, whole -/
theorem emL_c (c : Nat → Bool) (X : HX) (t : Nat) (ht : ¬ t = 3) : ∀ n : Nat, (emL c X n).2 t = X.2 t := by
  intro n
  induction n with
  | zero => rfl
  | succ n ih =>
    rw [emL_succ]
    unfold emW
    by_cases h : c n = true
    · rw [if_pos h]
      show upx (emL c X n).2 3 ((emL c X n).2 3 + 1) t = _
      rw [upx_ne ht]; exact ih
    · rw [if_neg h]; exact ih
theorem mX3_c {A : Hp} {g : Nat → Nat} (t : Nat) (ht : t < 3) : (mX3 A g).2 t = 0 := by
  have e1 : (mX3 A g).2 t = (mX2 A g).2 t := emL_c _ _ t (by omega) _
  have e2 : (mX2 A g).2 t = (mX1 A g).2 t := upx_ne (by omega)
  have e3 : (mX1 A g).2 t = 0 := emL_c _ _ t (by omega) _
  rw [e1, e2, e3]
theorem findA_cl {M : Hp} {kf : Nat → Bool} (w : ON M) (hC : ON (cl M kf)) {i : Nat} (hi : i < hn M) : findA (cl M kf) (nI (hnum M i)) = if kf i = true then some (rk kf i) else none := by
  by_cases hk : kf i = true
  · rw [if_pos hk]
    have h1 : rk kf i < hn (bare (cl M kf)) := rk_mono hi hk
    have := findA_num hC.bare h1
    have e : hnum (bare (cl M kf)) (rk kf i) = hnum M i := by
      show hnum M (ks M kf (rk kf i)) = _
      rw [show ks M kf (rk kf i) = i from (kl_get hi hk).1]
    rw [e] at this
    exact this
  · rw [if_neg hk]
    refine fst1_no (fun p _ hp => decide_eq_false (fun e => hk ?_))
    have hp : p < rk kf (hn M) := by
      have : p < hn (cl M kf) := by omega
      exact this
    obtain ⟨k1, k2, k3⟩ := kl_at (kf := kf) (n := hn M) (p := p) hp
    have n1 := (w.2.1 i hi).1.2
    have n2 := (w.2.1 _ k1).1.2
    have e : nI (hnum M (ks M kf p)) = nI (hnum M i) := e
    have n2 : hnum M (ks M kf p) < 1000000 := n2
    rw [pn_eq (by omega) (by omega)] at e
    have : ks M kf p = i := by
      rcases Nat.lt_trichotomy (ks M kf p) i with g | g | g
      · have := w.2.2 _ _ g hi; omega
      · exact g
      · have := w.2.2 _ _ g k1; omega
    rw [← this]
    exact k2
theorem g_jrow (X : Hp) (f : Nat → Nat) (u : Nat → Bool) (T : Nat → Int32) : sLk (sPl (sTl X T) f) (fun i x => if u i = true then none else hlk (sPl (sTl X T) f) i x) = sTl (sLk (sPl X f) (fun i x => if u i = true then none else hlk (sPl X f) i x)) T := rfl
theorem g_clT (M : Hp) (L : List (Nat × Nat)) (kf : Nat → Bool) (T T' : Nat → Int32) : sTl (sRm (cl (sTl M T) kf) (L.map (fun q => (rk kf q.1, q.2)))) T' = sTl (cl (sRm M L) kf) T' := rfl
theorem g_cloT (M : Hp) (L : List (Nat × Nat)) (kf : Nat → Bool) (T : Nat → Int32) (h : Clo (sRm M L) kf) : (∀ i, i < hn (sTl M T) → kf i = true → ∀ f t, f < hsz (sTl M T) i → hlk (sTl M T) i f = some t → t < hn (sTl M T) ∧ kf t = true) ∧ (∀ r t, r < 8 → hrt (sTl M T) r = some t → t < hn (sTl M T) ∧ kf t = true) ∧ ∀ j ∈ hen (sTl M T), j < hn (sTl M T) ∧ kf j = true := ⟨h.1, h.2.1, h.2.2.1⟩
theorem jM2_eq (A : Hp) (g : Nat → Nat) : jM2 A g = sRm (jM1 A g) (hrm (jM2 A g)) := rfl
theorem majG_eq (A : Hp) (g : Nat → Nat) : majG A g = sTl (cl (jM2 A g) (jKf A g)) (tlA (upx (htl A) 2 (htl A 2 + 1)) (jC A g) 2) := rfl
theorem jM1_eq (A : Hp) (g : Nat → Nat) : jM1 A g = sLk (sPl (mX3 A g).1 (slL A g 128).2.1) (fun i x => if jul A g i = true then none else hlk (sPl (mX3 A g).1 (slL A g 128).2.1) i x) := rfl
theorem rowZ_eq (A : Hp) (X : HX) : rowZ A X = sTl X.1 (tlA (htl A) X.2 0) := rfl
theorem g_rmB {C : Hp} {L : List (Nat × Nat)} (h : (hen C).length ≤ 80 ∧ (hlo C).length ≤ 40) (hl : L.length ≤ 176) : Bd (sRm C L) := ⟨h.1, h.2, hl⟩
section mJe
variable {τ : rS} {v : Nat} {R : Nat → Nat} {b : Nat} {A : Hp} {g : Nat → Nat} {Q1 Q2 : List Nat}
theorem m_majorEnd (hM0 : MR (τ 66 v) (sTl (jM1 A g) (tlA (htl A) (mX3 A g).2 0))) (hI : Inv R b A) (hJ : JF A Q1 Q2 g) (hR : R 2 ≤ 128) (hG : GM τ (hn A) Q2) (h28 : τ 10 0 28 = 0) : hit (bd (lp (fun (x : Int32) σ => fX10_majors_L187 v x σ) fu (nI (hn A) - 1) τ) (fun e41 σ40 => bd (fX10_sifts v σ40) (fun _ σ43 => st (wr σ43 66 v (ix 1369) ((σ43 66 v (ix 1369)) + (σ43 10 0 28))) (fun σ44 => st (wr σ44 66 v (ix 1366) ((σ44 66 v (ix 1366)) + 1)) (fun σ45 => some ((0 : Int32), σ45)))))) (fun _ s => MR (s 66 v) (majG A g) ∧ LGr τ s v ∧ s 10 0 28 = nI (jGone A g) ∧ ∀ q, ¬ q = 28 → s 10 0 q = τ 10 0 q) := by
  have w := hI.ok
  have hw := w.n
  obtain ⟨T0, hT0⟩ : ∃ T0, T0 = tlA (htl A) (mX3 A g).2 0 := ⟨_, rfl⟩
  rw [← hT0] at hM0
  have wJ : ON (jM2 A g) := jM2_ON hI
  have hclo := jClo hI hJ
  have en : hn (jM1 A g) = hn A := jM_n
  have ez : hsz (jM1 A g) = hsz A := jM_sz
  have es : hsp (jM1 A g) = hsp A := jM_sp
  have eNum : hnum (jM1 A g) = hnum A := jM_num
  have hsh := mX3_sh (A := A) (g := g)
  have eRm : hrm (jM1 A g) = hrm A := hsh.2.2.2.2.2.1
  have hB2 := mX2_BF hI hR hJ.e1
  have b3 : Bd (mX3 A g).1 := Bd_em hB2.2.1 (emL_lo40 _ _ _ hB2.2.1.2.1)
  have bJ : Bd (jM1 A g) := b3
  have wJ1 : ON (jM1 A g) := wJ
  have hrm2 : hrm (jM2 A g) = (hrm A).filter (drF (jM1 A g) g) := by
    show (hrm (jM1 A g)).filter _ = _
    rw [eRm]
  rw [jM2_eq] at hclo
  have eMaj : ∀ T, sTl (sRm (cl (sTl (jM1 A g) T0) (jKf A g)) ((hrm (jM2 A g)).map (fun q => (rk (jKf A g) q.1, q.2)))) T = sTl (cl (jM2 A g) (jKf A g)) T := fun T => by
    conv => rhs; rw [jM2_eq]
    exact g_clT _ _ _ _ _
  have hclo3 := g_cloT (jM1 A g) (hrm (jM2 A g)) (jKf A g) T0 hclo
  have wH : ON (sTl (jM1 A g) T0) := wJ1
  have bH : (hen (sTl (jM1 A g) T0)).length ≤ 80 ∧ (hlo (sTl (jM1 A g) T0)).length ≤ 40 := ⟨bJ.1, bJ.2.1⟩
  have enH : hn (sTl (jM1 A g) T0) = hn A := en
  have ezH : hsz (sTl (jM1 A g) T0) = hsz A := ez
  have esH : hsp (sTl (jM1 A g) T0) = hsp A := es
  have enuH : hnum (sTl (jM1 A g) T0) = hnum A := eNum
  have ermH : hrm (sTl (jM1 A g) T0) = hrm A := eRm
  have etH : htl (sTl (jM1 A g) T0) = T0 := rfl
  have hkf := fun i => jKf_eq (A := A) (g := g) i
  have elkH : ∀ i f, ylk (sTl (jM1 A g) T0) i f = ylk (jM1 A g) i f := fun i f => rfl
  have hclo0 : Clo (sRm (sTl (jM1 A g) T0) (hrm (jM2 A g))) (jKf A g) := hclo
  have hclo4 := hclo.2.2.2
  generalize hH1 : sTl (jM1 A g) T0 = H1 at *
  have hrmR := eRm
  have e0 : τ 66 v 0 = nI (hn A) := by rw [← enH]; exact hM0.n
  refine bd_hit (hit_mono (m_goMajor (n := hn A) (kf := jKf A g) (Q := Q2) (sp := hsp H1) e0 hw h28 (fun i hi => ⟨hM0.sp (by rw [enH]; exact hi), (wH.2.1 i (by rw [enH]; exact hi)).2.2.1⟩) hG.2.2.2.2 (fun i hi => ?_)) ?_)
  · rw [hkf, esH, hJ.nz]
    exact ⟨fun z => z.symm, fun z => z.symm⟩
  rintro r1 s1 hGs
  have hGs' : Gst τ s1 v (hn H1) (jKf A g) 0 := by rw [enH]; exact hGs
  have hX := MRx.close hM0.x wH bH hclo3 hGs'
  have wC : OK (sRm (cl H1 (jKf A g)) ((hrm (jM2 A g)).map (fun q => (rk (jKf A g) q.1, q.2)))) := cl_OK (M := sRm H1 (hrm (jM2 A g))) wH hclo0
  have onC : ON (cl H1 (jKf A g)) := wC.on
  have hK := MK_of hM0 enuH
  rw [ermH] at hK
  have hK1 : MK (s1 66 v) ((hrm A).map (fun q => (hnum A q.1, q.2))) := by
    refine ⟨by rw [hGs.2.2.1 889 (by omega)]; exact hK.1, fun i hi => ?_⟩
    rw [hGs.2.2.1 _ (by omega), hGs.2.2.1 _ (by omega)]
    exact hK.2 i hi
  have hfd : ∀ q ∈ hrm A, findA (cl H1 (jKf A g)) (nI (hnum A q.1)) = if jKf A g q.1 = true then some (rk (jKf A g) q.1) else none := fun q hq => by
    have := findA_cl (kf := jKf A g) wH onC (i := q.1) (by rw [enH]; exact (w.rm hq).1)
    rw [enuH] at this
    exact this
  have hksz : ∀ i, i < hn A → jKf A g i = true → hsz (cl H1 (jKf A g)) (rk (jKf A g) i) = hsz A i := fun i hi hk => by
    show hsz H1 (ks H1 (jKf A g) (rk (jKf A g) i)) = _
    rw [show ks H1 (jKf A g) (rk (jKf A g) i) = i from (kl_get (by rw [enH]; exact hi) hk).1, ezH]
  have hrl : (hrm A).length ≤ 176 := by have := hI.rm hR; omega
  refine bd_hit (hit_mono (m_sifts hX.1 onC hK1 (by rw [List.length_map]; exact hrl) (fun q hq k hk => ?_)) ?_)
  · obtain ⟨q0, hq0, rfl⟩ := List.mem_map.mp hq
    have hk : findA (cl H1 (jKf A g)) (nI (hnum A q0.1)) = some k := hk
    rw [hfd q0 hq0] at hk
    by_cases hkf' : jKf A g q0.1 = true
    · rw [if_pos hkf'] at hk
      cases hk
      rw [hksz _ (w.rm hq0).1 hkf']
      exact (w.rm hq0).2
    · rw [if_neg hkf'] at hk; cases hk
  rintro r2 s2 ⟨k1, k2, k3⟩
  have eF : ((hrm A).map (fun q => (hnum A q.1, q.2))).filter (kp (cl H1 (jKf A g))) = (hrm (jM2 A g)).map (fun q => (hnum A q.1, q.2)) := by
    rw [hrm2, List.filter_map]
    congr 1
    refine List.filter_congr (fun q hq => ?_)
    have hr := w.rm hq
    have h2 := ((hI.2.2.2.2.2.1.2 q.1 q.2 hr.1 hr.2).mp hq).1
    show (match findA (cl H1 (jKf A g)) (nI (hnum A q.1)) with
      | none => false
      | some k => ylk (cl H1 (jKf A g)) k q.2) = drF (jM1 A g) g q
    rw [hfd q hq]
    have hs2 : hsp (jM1 A g) q.1 = 2 := by rw [es]; exact h2
    unfold drF oty
    rw [decide_eq_true hs2, Bool.true_and]
    by_cases hk : jKf A g q.1 = true
    · rw [if_pos hk]
      have hg0 : ¬ g q.1 = 0 := by
        rcases (hkf q.1).mp hk with y | y
        · exact y
        · exact absurd h2 y
      show ylk (cl H1 (jKf A g)) (rk (jKf A g) q.1) q.2 = _
      have ey : ylk (cl H1 (jKf A g)) (rk (jKf A g) q.1) q.2 = ylk H1 q.1 q.2 := by
        have e1 : ks H1 (jKf A g) (rk (jKf A g) q.1) = q.1 := (kl_get (by rw [enH]; exact hr.1) hk).1
        unfold ylk
        have e2 : hlk (cl H1 (jKf A g)) (rk (jKf A g) q.1) q.2 = (hlk H1 q.1 q.2).map (rk (jKf A g)) := by
          show (hlk H1 (ks H1 (jKf A g) (rk (jKf A g) q.1)) q.2).map _ = _
          rw [e1]
        rw [e2]
        rcases opt_cases (hlk H1 q.1 q.2) with hl | ⟨t, hl⟩
        · rw [hl]; rfl
        · rw [hl]
          obtain ⟨c1, c2⟩ := hclo3.1 q.1 (by rw [enH]; exact hr.1) hk q.2 t (by rw [ezH]; exact hr.2) hl
          show (!decide (hsp H1 (ks H1 (jKf A g) (rk (jKf A g) t)) = 2)) = !decide (hsp H1 t = 2)
          rw [show ks H1 (jKf A g) (rk (jKf A g) t) = t from (kl_get c1 c2).1]
      rw [ey, elkH]
      simp [hg0]
    · rw [if_neg hk]
      have hg0 : g q.1 = 0 := Classical.byContradiction (fun z => hk ((hkf q.1).mpr (Or.inl z)))
      simp [hg0]
  rw [eF] at k1
  have k1' := MK_get k1
  have llr : (hrm (jM2 A g)).length ≤ 176 := by rw [hrm2]; have := List.length_filter_le (drF (jM1 A g) g) (hrm A); omega
  have hM2 : MR (s2 66 v) (sRm (cl H1 (jKf A g)) ((hrm (jM2 A g)).map (fun q => (rk (jKf A g) q.1, q.2)))) := by
    have e2 : ∀ i, i < 889 ∨ 1242 ≤ i → s2 66 v i = s1 66 v i := k2
    obtain ⟨⟨x1, x2⟩, x3, ⟨x4, x5⟩, ⟨x6, x7⟩, x8, x9⟩ := hX
    have h78 : hn (cl H1 (jKf A g)) ≤ 78 := onC.1
    refine ⟨by rw [e2 0 (by omega)]; exact x1, fun i hi => ?_, fun r hr => by rw [e2 _ (by omega)]; exact x3 r hr, ⟨?_, fun i hi => ?_⟩, ⟨by rw [e2 _ (by omega)]; exact x4, fun i hi => by rw [e2 _ (by omega)]; exact x5 i hi⟩, ⟨by rw [e2 _ (by omega)]; exact x6, fun i hi => by rw [e2 _ (by omega)]; exact x7 i hi⟩, fun t ht => by rw [e2 _ (by omega)]; exact x8 t ht, by rw [e2 _ (by omega)]; exact x9⟩
    · have hi : i < hn (cl H1 (jKf A g)) := hi
      have hz := (onC.2.1 i hi).2.1
      have := x2 i hi
      unfold MRo at this ⊢
      rw [e2 _ (by omega), e2 _ (by omega), e2 _ (by omega), e2 _ (by omega), e2 _ (by omega), e2 _ (by omega), e2 _ (by omega)]
      exact ⟨this.1, fun f hf => by
        have hf : f < hsz (cl H1 (jKf A g)) i := hf
        rw [e2 _ (by omega)]; exact this.2 f hf⟩
    · show _ = nI ((hrm (jM2 A g)).map (fun q => (rk (jKf A g) q.1, q.2))).length
      rw [List.length_map]; exact k1'.1
    · have hi : i < ((hrm (jM2 A g)).map (fun q => (rk (jKf A g) q.1, q.2))).length := hi
      rw [List.length_map] at hi
      have e : (hrm (sRm (cl H1 (jKf A g)) ((hrm (jM2 A g)).map (fun q => (rk (jKf A g) q.1, q.2))))).getD i (0, 0) = (rk (jKf A g) ((hrm (jM2 A g)).getD i (0, 0)).1, ((hrm (jM2 A g)).getD i (0, 0)).2) := getD_map' hi
      rw [e]
      obtain ⟨⟨c1, c2⟩, -⟩ := hclo4 _ (getD_mem' (d := (0, 0)) hi)
      have c1 : ((hrm (jM2 A g)).getD i (0, 0)).1 < hn (jM1 A g) := c1
      show _ = nI (hnum H1 (ks H1 (jKf A g) (rk (jKf A g) ((hrm (jM2 A g)).getD i (0, 0)).1))) ∧ _
      rw [show ks H1 (jKf A g) (rk (jKf A g) ((hrm (jM2 A g)).getD i (0, 0)).1) = ((hrm (jM2 A g)).getD i (0, 0)).1 from (kl_get (by rw [enH, ← en]; exact c1) c2).1, enuH]
      exact k1'.2 i hi
  have bC : Bd (sRm (cl H1 (jKf A g)) ((hrm (jM2 A g)).map (fun q => (rk (jKf A g) q.1, q.2)))) := g_rmB ⟨by show ((hen H1).map _).length ≤ 80; rw [List.length_map]; exact bH.1, bH.2⟩ (by rw [List.length_map]; exact llr)
  have tC : htl (sRm (cl H1 (jKf A g)) ((hrm (jM2 A g)).map (fun q => (rk (jKf A g) q.1, q.2)))) = T0 := etH
  have e28 : s2 10 0 28 = nI (jGone A g) := by
    rw [k3 10 0 (by omega), hGs.2.2.2.1]
    show nI (hn A - 0 - (rk (jKf A g) (hn A) - 0)) = nI (hn A - rk (jKf A g) (hn A))
    congr 1
  have o10 : ∀ q, ¬ q = 28 → s2 10 0 q = τ 10 0 q := fun q hq => by rw [k3 10 0 (by omega)]; exact hGs.2.2.2.2.1 q hq
  have lg : LGr τ s2 v := fun i hi => by rw [k2 i (by omega)]; exact hGs.2.2.1 i (by omega)
  generalize hC : sRm (cl H1 (jKf A g)) ((hrm (jM2 A g)).map (fun q => (rk (jKf A g) q.1, q.2))) = C at hM2 wC bC tC eMaj
  have e69 : s2 66 v (ix 1369) = T0 5 := by rw [← tC]; exact hM2.tl (t := 5) (by omega)
  rw [e69, e28, st_eq]
  have hM5 : MR (wr s2 66 v (ix 1369) (T0 5 + nI (jGone A g)) 66 v) (sTl C (upx (htl C) 5 (T0 5 + nI (jGone A g)))) := hM2.tl' wC.on bC (by omega) (by show wr s2 66 v 1369 _ 66 v 1369 = _; rw [wr_same]) (fun i h1 h2 => by rw [wr_i (show ¬ i = ix 1369 from h2)])
  generalize hs5 : wr s2 66 v (ix 1369) (T0 5 + nI (jGone A g)) = s5 at hM5 ⊢
  have e66 : s5 66 v (ix 1366) = htl A 2 := by
    have : s5 66 v 1366 = upx (htl C) 5 (T0 5 + nI (jGone A g)) 2 := hM5.tl (t := 2) (by omega)
    rw [upx_ne (by decide), tC, hT0, tlA_lt (by omega)] at this
    exact this
  rw [e66, st_eq]
  have hM6 : MR (wr s5 66 v (ix 1366) (htl A 2 + 1) 66 v) (sTl (sTl C (upx (htl C) 5 (T0 5 + nI (jGone A g)))) (upx (upx (htl C) 5 (T0 5 + nI (jGone A g))) 2 (htl A 2 + 1))) := hM5.tl' wC.on bC (by omega) (by show wr s5 66 v 1366 _ 66 v 1366 = _; rw [wr_same]) (fun i h1 h2 => by rw [wr_i (show ¬ i = ix 1366 from h2)])
  have eT : upx (upx (htl C) 5 (T0 5 + nI (jGone A g))) 2 (htl A 2 + 1) = tlA (upx (htl A) 2 (htl A 2 + 1)) (jC A g) 2 := by
    rw [tC, hT0]
    funext t
    have c0 := mX3_c (A := A) (g := g) 0 (by omega)
    have c1 := mX3_c (A := A) (g := g) 1 (by omega)
    unfold tlA jC jC3
    by_cases t2 : t = 2
    · subst t2; rw [upx_same, if_neg (by omega), upx_same]
    · rw [upx_ne t2]
      by_cases t5 : t = 5
      · subst t5
        rw [upx_same, if_pos (by omega), if_pos (by omega), upx_ne (by decide)]
        show htl A 5 + nI ((mX3 A g).2 2) + nI (jGone A g) = htl A 5 + nI (upx (upx (mX3 A g).2 0 _) 2 (upx (mX3 A g).2 0 _ 2 + jGone A g) 2)
        rw [upx_same, upx_ne (by decide), ← nI_add, Int32.add_assoc]
      · rw [upx_ne t5]
        by_cases g5 : 5 ≤ t
        · rw [if_pos (by omega), if_pos (by omega), upx_ne t2, upx_ne (by omega), upx_ne (by omega)]
        · rw [if_neg (c := 3 + 2 ≤ t) (by omega), upx_ne t2]
          by_cases g3 : 3 + 0 ≤ t
          · rw [if_pos g3]
            rcases (by omega : t = 3 ∨ t = 4) with rfl | rfl
            · show htl A 3 + nI ((mX3 A g).2 0) = _
              rw [c0]; exact Int32.add_zero _
            · show htl A 4 + nI ((mX3 A g).2 1) = _
              rw [c1]; exact Int32.add_zero _
          · rw [if_neg g3]
  have eFin : sTl (sTl C (upx (htl C) 5 (T0 5 + nI (jGone A g)))) (upx (upx (htl C) 5 (T0 5 + nI (jGone A g))) 2 (htl A 2 + 1)) = majG A g := by
    rw [eT, majG_eq, ← eMaj]
    rfl
  rw [eFin] at hM6
  refine hit_some ⟨hM6, fun i hi => ?_, ?_, fun q hq => ?_⟩
  · rw [wr_i (show ¬ i = ix 1366 from (by omega : ¬ i = 1366)), ← hs5, wr_i (show ¬ i = ix 1369 from (by omega : ¬ i = 1369))]
    exact lg i hi
  · rw [wr_c (by decide), ← hs5, wr_c (by decide)]; exact e28
  · rw [wr_c (by decide), ← hs5, wr_c (by decide)]; exact o10 q hq
end mJe
theorem m_majors {τ : rS} {v : Nat} {R : Nat → Nat} {b : Nat} {A : Hp} (hM : MR (τ 66 v) A) (hI : Inv R b A) (hR : R 2 ≤ 128) : hit (fX10_majors v τ) (fun _ s => MR (s 66 v) (majA A) ∧ LGr τ s v ∧ s 10 0 28 = nI (jGone A (jG A)) ∧ s 10 0 29 = nI (slL A (jG A) 128).2.2) := by
  have w := hI.ok
  have hw := w.n
  have hbA := hI.bd hR
  have hJ := JF_q w
  have hl1 := nodup_le hJ.2.2.2.1.1.1 hJ.2.2.2.1.1.2
  unfold fX10_majors
  refine bd_hit (hit_mono (hit_fr (frX10_reaches v (-1) 1 τ) (m_reach w hM hbA.1 (-1))) ?_)
  rintro r1 s1 ⟨f1, m1, g1⟩
  have l1 : LGr τ s1 v := fun i _ => by rw [f1 66 (by decide)]
  have g1 : GM s1 (hn A) (q1 A) := g1
  refine bd_hit (hit_mono (m_j1 m1 hI hJ hR g1) ?_)
  rintro r2 s2 ⟨m2, l2, f2⟩
  refine bd_hit (hit_mono (m_j2 m2 hI hJ hR (GM_mv g1 f2)) ?_)
  rintro r3 s3 ⟨m3, g3, l3, d1, d2⟩
  have e22 := g3.2.2.1
  rw [rd_eq, e22]
  refine bd_hit (hit_mono (m_j3 (v := v) g3 hI hJ d1 d2 _) ?_)
  rintro r4 s4 ⟨g4, f4⟩
  have m4 : MR (s4 66 v) (rowZ A (mX2 A (jG A))) := by rw [f4 66 (by decide)]; exact m3
  have hB2 := mX2_BF hI hR hJ.e1
  have sh := hB2.2.2.1
  have enZ : hn (rowZ A (mX2 A (jG A))) = hn A := sh.n
  have t5 := m_marksAll (i := (q1 A).length) (rowZ_OK (A := A) hB2.1) m4 (by rw [enZ]; exact g4) (by omega)
  refine bd_hit (hit_mono (hit_fr (frX10_marksAll v (nI (q1 A).length) s4) t5) ?_)
  rintro r5 s5 ⟨f5, m5, g5⟩
  have eQ : bfsQ (rowZ A (mX2 A (jG A))) (80 - (q1 A).length) (q1 A).length (visEQ (lsL A) (q1 A)) = q2 A := bfsQ_congr (A := A) (B := rowZ A (mX2 A (jG A))) (show hsz (rowZ A (mX2 A (jG A))) = hsz A from sh.sz) (show fst0 (rowZ A (mX2 A (jG A))) = fst0 A from sh.f0) (sh.2.2.2.1) _ _ _
  rw [eQ, enZ] at g5
  refine bd_hit (hit_mono (m_j4 m5 hI hJ hR g5) ?_)
  rintro r6 s6 ⟨m6, l6, f6⟩
  have g6 := GM_mv g5 f6
  have hsh := mX3_sh (A := A) (g := jG A)
  have w3 : OK (mX3 A (jG A)).1 := emL_OK hB2.1
  have b3 : Bd (mX3 A (jG A)).1 := Bd_em hB2.2.1 (emL_lo40 _ _ _ hB2.2.1.2.1)
  refine bd_hit (hit_mono (m_slides (H0 := rowZ A (mX3 A (jG A))) m6 (rowZ_OK w3) (rowZ_Bd b3) hI hR ⟨hsh.1, hsh.2.1⟩ g6.2.2.2.2 (fun i => hJ.nz)) ?_)
  rintro r7 s7 ⟨m7, l7, k7, o7, f7⟩
  have w7 : OK (sPl (rowZ A (mX3 A (jG A))) (slL A (jG A) 128).2.1) := sPl_OK (rowZ_OK w3) (fun i hi => by
    have hi' : i < hn A := by
      have e : hn (rowZ A (mX3 A (jG A))) = hn A := hsh.1
      rw [← e]; exact hi
    have := jnewpl (g := jG A) hI i hi'
    have := w.pl hi'
    omega)
  have esp7 : hsp (sPl (rowZ A (mX3 A (jG A))) (slL A (jG A) 128).2.1) = hsp A := jM_sp
  have t8 := m_unlink (M := sPl (rowZ A (mX3 A (jG A))) (slL A (jG A) 128).2.1) (A := A) (g := jG A) (Q := q2 A) m7 w7 b3 hsh.1 esp7 (fun j hj => by rw [f7 68 0 (by omega) (by omega)]; exact g6.2.2.2.2 j hj) (fun i => hJ.nz)
  refine bd_hit (hit_mono t8 ?_)
  rintro r8 s8 ⟨m8, l8, f8⟩
  rw [rowZ_eq, g_jrow, ← jM1_eq] at m8
  rw [st_eq]
  have e0 : wr s8 10 0 28 0 66 v (ix 0) = nI (hn A) := by
    rw [wr_c (by decide)]
    have := m8.n
    rw [show s8 66 v (ix 0) = s8 66 v 0 from rfl, this]
    congr 1
    exact jM_n
  rw [e0, rd_eq]
  have g8 : GM (wr s8 10 0 28 0) (hn A) (q2 A) := by
    unfold GM at g6 ⊢
    rw [wr_i (by decide), wr_c (c' := 69) (by decide), wr_c (c' := 68) (by decide), f8 10 0 (by omega), f8 69 0 (by omega), f8 68 0 (by omega), o7 22 (by decide), f7 69 0 (by omega) (by omega), f7 68 0 (by omega) (by omega)]
    exact g6
  have t9 := m_majorEnd (τ := wr s8 10 0 28 0) (v := v) (by rw [wr_c (by decide)]; exact m8) hI hJ hR g8 (wr_same _ _ _ _ _)
  refine hit_mono t9 ?_
  rintro r9 s9 ⟨k1, k2, k3, k4⟩
  refine ⟨k1, fun i hi => ?_, k3, ?_⟩
  · rw [k2 i hi, wr_c (by decide), l8 i hi, l7 i hi, l6 i hi, f5 66 (by decide), f4 66 (by decide), l3 i hi, l2 i hi, l1 i hi]
  · rw [k4 29 (by decide), wr_i (by decide), f8 10 0 (by omega)]; exact k7
