/-! alike, the class's side -/
def PCl (σ : rS) (P : AP) : Prop := (∀ a, a < 80 → σ 35 0 a = enc (P.1 a)) ∧ (∀ a, a < 80 → σ 36 0 a = enc (P.2.1 a)) ∧ σ 3 0 7 = nI P.2.2.length ∧ (∀ i, i < P.2.2.length → σ 31 0 i = nI (qA P i)) ∧ ∀ c a, P.2.1 c = some a → a < 80
theorem enc_eqj {o : Option Nat} {j : Nat} (ho : ∀ a, o = some a → a < 2147483648) (hj : j < 2147483648) : (enc o = nI j) = (o = some j) := by
  cases o with
  | none => exact propext ⟨fun h => by rw [enc_none] at h; rw [pn_m1' hj] at h; exact h.elim, fun h => by cases h⟩
  | some a =>
    rw [enc_some, pn_eq (ho a rfl) hj]
    exact propext ⟨fun h => by rw [h], fun h => by cases h; rfl⟩
theorem enc_m1o {o : Option Nat} (ho : ∀ a, o = some a → a < 2147483648) : (enc o = -1) = (o = none) := by
  cases o with
  | none => exact propext ⟨fun _ => rfl, fun _ => enc_none⟩
  | some a => rw [enc_some, pn_m1 (ho a rfl)]; exact propext ⟨fun h => h.elim, fun h => by cases h⟩
theorem bI01 (b : Bool) : bI b = 0 ∨ bI b = 1 := by cases b <;> decide
section ca
variable {A : Hp}
theorem qA_snoc {be bk : Nat → Option Nat} {Q : List Nat} {a i : Nat} : qA (be, bk, Q ++ [a]) i = if i = Q.length then a else Q.getD i 0 := by
  unfold qA
  show (Q ++ [a]).getD i 0 = _
  by_cases e : i = Q.length
  · subst e
    rw [if_pos rfl, List.getD_eq_getElem?_getD, List.getElem?_append_right (Nat.le_refl _), Nat.sub_self]
    rfl
  · rw [if_neg e]
    by_cases h : i < Q.length
    · exact getD_app h
    · rw [List.getD_eq_getElem?_getD, List.getD_eq_getElem?_getD, List.getElem?_eq_none (by rw [List.length_append, List.length_singleton]; omega), List.getElem?_eq_none (by omega)]
theorem c_setS {σ : rS} {P : AP} {a c : Nat} (w : OK A) (h : PCl σ P) (hw : wfP A P) (ha : a < hn A) (hc : c < hn A) : hit (fX3_setBeside (nI a) (nI c) σ) (fun v s => v = bI (setS ct P a c).1 ∧ PCl s (setS ct P a c).2) := by
  have hl := wfP_len w hw
  have hn78 := w.n
  obtain ⟨h1, h2, h3, h4, h5⟩ := h
  have b1 : ∀ d, P.1 a = some d → d < 2147483648 := fun d hd => by have := (hw.2.2 a d hd).1; omega
  have b2 : ∀ d, P.2.1 c = some d → d < 2147483648 := fun d hd => by have := h5 c d hd; omega
  have e1 : σ 35 0 a = enc (P.1 a) := h1 a (by omega)
  have e2 : σ 36 0 c = enc (P.2.1 c) := h2 c (by omega)
  have j51 : ¬ (P.1 a = none ∧ P.2.1 c = none) → hit (fX3_setBeside_j51 (nI a) (nI c) σ) (fun v s => v = bI (setS ct P a c).1 ∧ PCl s (setS ct P a c).2) := fun hne => by
    unfold fX3_setBeside_j51 setS
    rw [pn_bnd (by omega) (by omega), ix_nI (by omega), e1, if_neg hne]
    have q1 := enc_eqj (j := c) b1 (by omega)
    have q2 := enc_eqj (j := a) b2 (by omega)
    by_cases k1 : P.1 a = some c
    · rw [if_pos (show enc (P.1 a) = nI c by rw [q1]; exact k1), pn_bnd (by omega) (by omega), ix_nI (by omega), e2]
      by_cases k2 : P.2.1 c = some a
      · rw [if_pos (show enc (P.2.1 c) = nI a by rw [q2]; exact k2)]
        refine hit_some ⟨?_, h1, h2, h3, h4, h5⟩
        show 1 = bI (decide (P.1 a = some c ∧ P.2.1 c = some a))
        rw [decide_eq_true ⟨k1, k2⟩]; rfl
      · rw [if_neg (show ¬ enc (P.2.1 c) = nI a by rw [q2]; exact k2)]
        refine hit_some ⟨?_, h1, h2, h3, h4, h5⟩
        show 0 = bI (decide (P.1 a = some c ∧ P.2.1 c = some a))
        rw [decide_eq_false (fun h => k2 h.2)]; rfl
    · rw [if_neg (show ¬ enc (P.1 a) = nI c by rw [q1]; exact k1)]
      refine hit_some ⟨?_, h1, h2, h3, h4, h5⟩
      show 0 = bI (decide (P.1 a = some c ∧ P.2.1 c = some a))
      rw [decide_eq_false (fun h => k1 h.1)]; rfl
  unfold fX3_setBeside
  rw [if_neg (by rw [pn_neg (by omega)]; exact id), if_neg (by rw [pn_neg (by omega)]; exact id), if_pos (show nI a < 80 by rw [pn_lt80 (by omega)]; omega), if_pos (show nI c < 80 by rw [pn_lt80 (by omega)]; omega), pn_bnd (by omega) (by omega), ix_nI (by omega), e1]
  by_cases k1 : P.1 a = none
  · rw [if_pos (show enc (P.1 a) = -1 by rw [enc_m1o b1]; exact k1), pn_bnd (by omega) (by omega), ix_nI (by omega), e2]
    by_cases k2 : P.2.1 c = none
    · rw [if_pos (show enc (P.2.1 c) = -1 by rw [enc_m1o b2]; exact k2), pn_bnd (by omega) (by omega), st_eq, pn_bnd (by omega) (by omega), st_eq]
      have r7 : wr (wr σ 35 0 a (nI c)) 36 0 c (nI a) 3 0 7 = nI P.2.2.length := by rw [wr_c (by decide), wr_c (by decide)]; exact h3
      rw [r7, pn_bnd (by omega) (by omega), st_eq, ix_nI (by omega), st_eq]
      have r7' : wr (wr (wr σ 35 0 a (nI c)) 36 0 c (nI a)) 31 0 P.2.2.length (nI a) 3 0 7 = nI P.2.2.length := by rw [wr_c (by decide)]; exact r7
      rw [r7', pn_add1]
      unfold setS
      rw [if_pos ⟨k1, k2⟩, if_pos (show ct a c = true from rfl)]
      refine hit_some ⟨rfl, fun x hx => ?_, fun x hx => ?_, ?_, fun i hi => ?_, fun x y hy => ?_⟩
      · show _ = enc (upx P.1 a (some c) x)
        rw [wr_c (by decide), wr_c (by decide), wr_c (by decide)]
        by_cases e : x = a
        · subst e; rw [wr_same, upx_same]; rfl
        · rw [wr_i e, upx_ne e]; exact h1 x hx
      · show _ = enc (upx P.2.1 c (some a) x)
        rw [wr_c (by decide), wr_c (by decide)]
        by_cases e : x = c
        · subst e; rw [wr_same, upx_same]; rfl
        · rw [wr_i e, upx_ne e, wr_c (by decide)]; exact h2 x hx
      · rw [wr_same]
        show _ = nI (P.2.2 ++ [a]).length
        rw [List.length_append, List.length_singleton]
      · have hi : i < (P.2.2 ++ [a]).length := hi
        rw [List.length_append, List.length_singleton] at hi
        show _ = nI (qA (upx P.1 a (some c), upx P.2.1 c (some a), P.2.2 ++ [a]) i)
        rw [qA_snoc, wr_c (by decide)]
        by_cases e : i = P.2.2.length
        · subst e; rw [if_pos rfl, wr_same]
        · rw [if_neg e, wr_i e, wr_c (by decide), wr_c (by decide)]; exact h4 i (by omega)
      · have hy : upx P.2.1 c (some a) x = some y := hy
        by_cases e : x = c
        · subst e; rw [upx_same] at hy; cases hy; omega
        · rw [upx_ne e] at hy; exact h5 x y hy
    · rw [if_neg (show ¬ enc (P.2.1 c) = -1 by rw [enc_m1o b2]; exact k2)]
      exact j51 (fun h => k2 h.2)
  · rw [if_neg (show ¬ enc (P.1 a) = -1 by rw [enc_m1o b1]; exact k1)]
    exact j51 (fun h => k1 h.1)
theorem c_setP {σ : rS} {P : AP} {l r : Option Nat} (w : OK A) (h : PCl σ P) (hw : wfP A P) (hl : ∀ a, l = some a → a < hn A) (hr : ∀ c, r = some c → c < hn A) : hit (fX3_setBeside (enc l) (enc r) σ) (fun v s => v = bI (setP ct P l r).1 ∧ PCl s (setP ct P l r).2) := by
  have hn78 := w.n
  cases l with
  | none =>
    unfold fX3_setBeside fX3_setBeside_j20
    rw [enc_none, if_pos (by decide)]
    cases r with
    | none => rw [enc_none, if_pos rfl]; exact hit_some ⟨rfl, h⟩
    | some c =>
      have := hr c rfl
      rw [enc_some, if_neg (by rw [pn_m1' (by omega)]; exact id)]; exact hit_some ⟨rfl, h⟩
  | some a =>
    have h1 := hl a rfl
    cases r with
    | none =>
      unfold fX3_setBeside fX3_setBeside_j20
      rw [enc_none, enc_some, if_neg (by rw [pn_neg (by omega)]; exact id), if_pos (by decide), if_neg (by rw [pn_m1 (by omega)]; exact id)]
      exact hit_some ⟨rfl, h⟩
    | some c => exact c_setS w h hw h1 (hr c rfl)
theorem c_here {σ : rS} {k : Nat} {P : AP} {a c : Nat} (w : OK A) (hC : CR σ k A) (h : PCl σ P) (hw : wfP A P) (ha : a < hn A) (hc : c < hn A) : hit (fX3_areAlikeHere k (nI a) (nI c) σ) (fun v s => (v = bI (if like A a c = true then (fldP ct A a c (hsz A a) 0 P).1 else false)) ∧ CR s k A ∧ (like A a c = true → PCl s (fldP ct A a c (hsz A a) 0 P).2)) := by
  have hn78 := w.n
  have za := w.sz ha
  unfold fX3_areAlikeHere
  rw [e_isSlot hC w ha, bd_some, if_neg one_ne, e_isSlot hC w hc, bd_some, if_neg one_ne]
  simp (disch := omega) only [pn_bnd, pn_ix]
  rw [hC.kd ha, hC.kd hc, hC.dt ha, hC.dt hc, hC.sz ha, hC.sz hc]
  have no : ¬ like A a c = true → hit (some ((0 : Int32), σ)) (fun v s => (v = bI (if like A a c = true then (fldP ct A a c (hsz A a) 0 P).1 else false)) ∧ CR s k A ∧ (like A a c = true → PCl s (fldP ct A a c (hsz A a) 0 P).2)) := fun hl => by
    rw [if_neg hl]
    exact hit_some ⟨rfl, hC, fun z => absurd z hl⟩
  have zc := w.sz hc
  by_cases k1 : hkd A a = hkd A c
  · rw [if_pos k1]
    by_cases k2 : hdt A a = hdt A c
    · rw [if_pos k2]
      by_cases k3 : hsz A a = hsz A c
      · have hl : like A a c = true := decide_eq_true ⟨k1, k2, k3⟩
        rw [if_pos (show nI (hsz A a) = nI (hsz A c) by rw [k3]), if_pos hl]
        have lp1 : hit (lp (fun (x : (Int32 × Int32)) σ => fX3_areAlikeHere_L69 k (nI a) (nI c) x.1 x.2 σ) fu (1, 0) σ) (fun e s => e = bI (fldP ct A a c (hsz A a) 0 P).1 ∧ CR s k A ∧ PCl s (fldP ct A a c (hsz A a) 0 P).2) := by
          refine lp_go (I := fun m x s => CR s k A ∧ ∃ g V, g ≤ hsz A a ∧ PCl s V ∧ ((x.1 = 0 ∧ m = 0 ∧ fldP ct A a c (hsz A a) 0 P = (false, V)) ∨ (x = (1, nI g) ∧ m = hsz A a - g + 1 ∧ wfP A V ∧ fldP ct A a c (hsz A a - g) g V = fldP ct A a c (hsz A a) 0 P))) ?_ fu (hsz A a + 1) (1, 0) σ (fu_lt (by omega)) ⟨hC, 0, P, by omega, h, Or.inr ⟨rfl, by omega, hw, rfl⟩⟩
          rintro m x s ⟨hCs, g, V, hg, hV, ⟨x0, rfl, hF⟩ | ⟨rfl, rfl, hwV, hF⟩⟩
          · unfold fX3_areAlikeHere_L69
            rw [if_pos x0, hF, x0]
            exact hit_some ⟨rfl, hCs, hV⟩
          · unfold fX3_areAlikeHere_L69
            dsimp only
            rw [if_neg one_ne, pn_bnd (by omega) (by omega), ix_nI (by omega), hCs.sz ha]
            by_cases hlt : g < hsz A a
            · rw [if_pos (show nI g < nI (hsz A a) by rw [pn_lt (by omega) (by omega)]; exact hlt), e_target hCs w ha hlt, bd_some, e_target hCs w hc (by omega), bd_some]
              have hla : ∀ j, hlk A a g = some j → j < hn A := fun j hj => w.lk ha hlt hj
              have hlc : ∀ j, hlk A c g = some j → j < hn A := fun j hj => w.lk hc (by omega) hj
              refine bd_hit (hit_mono (hit_fr (frX3_setBeside _ _ s) (c_setP w hV hwV hla hlc)) ?_)
              rintro v s2 ⟨f2, rfl, hV2⟩
              have hC2 : CR s2 k A := hCs.of_eq (by rw [f2 7 (by decide)]) (fun q q1 q2 => by rw [f2 q (by simp only [List.mem_cons, List.not_mem_nil, or_false]; omega)]) (fun j _ => ⟨by rw [f2 4 (by decide)], by rw [f2 28 (by decide)]⟩)
              have hF' : fldP ct A a c (hsz A a - g) g V = if (setP ct V (hlk A a g) (hlk A c g)).1 = true then fldP ct A a c (hsz A a - (g + 1)) (g + 1) (setP ct V (hlk A a g) (hlk A c g)).2 else (false, (setP ct V (hlk A a g) (hlk A c g)).2) := by
                rw [show hsz A a - g = hsz A a - (g + 1) + 1 by omega]; rfl
              rw [hF'] at hF
              rw [pn_add1]
              have hw2 : wfP A (setP ct V (hlk A a g) (hlk A c g)).2 := setP_wf hwV hla hlc
              by_cases z : (setP ct V (hlk A a g) (hlk A c g)).1 = true
              · rw [if_pos z] at hF
                rw [z]
                exact hit_some ⟨hsz A a - (g + 1) + 1, by omega, hC2, g + 1, _, by omega, hV2, Or.inr ⟨rfl, rfl, hw2, hF⟩⟩
              · rw [if_neg z] at hF
                rw [eq_false_of_ne_true z]
                exact hit_some ⟨0, by omega, hC2, g, _, hg, hV2, Or.inl ⟨rfl, rfl, hF.symm⟩⟩
            · rw [if_neg (show ¬ nI g < nI (hsz A a) by rw [pn_lt (by omega) (by omega)]; exact hlt)]
              have eg : hsz A a - g = 0 := by omega
              rw [eg] at hF
              have hF : (true, V) = fldP ct A a c (hsz A a) 0 P := hF
              rw [← hF]
              exact hit_some ⟨rfl, hCs, hV⟩
        refine bd_hit (hit_mono lp1 ?_)
        rintro e s ⟨rfl, h6, h7⟩
        unfold bz
        rw [if_pos (bI01 _)]
        exact hit_some ⟨rfl, h6, fun _ => h7⟩
      · rw [if_neg (show ¬ nI (hsz A a) = nI (hsz A c) by rw [pn_eq (by omega) (by omega)]; exact k3)]
        exact no (fun z => k3 (of_decide_eq_true z).2.2)
    · rw [if_neg k2]; exact no (fun z => k2 (of_decide_eq_true z).2.1)
  · rw [if_neg k1]; exact no (fun z => k1 (of_decide_eq_true z).1)
def P0 : AP := (fun _ => none, fun _ => none, [])
theorem P0_wf : wfP A P0 := ⟨List.nodup_nil, fun a ha => absurd ha List.not_mem_nil, fun a c h => by cases h⟩
theorem loopC_F {P : AP} {i : Nat} (hi : i < 80) : loopC A (80 - i) i P = if i < P.2.2.length then (if like A (qA P i) (qB P i) = true then (if (fldP ct A (qA P i) (qB P i) (hsz A (qA P i)) 0 P).1 = true then loopC A (80 - (i + 1)) (i + 1) (fldP ct A (qA P i) (qB P i) (hsz A (qA P i)) 0 P).2 else false) else false) else true := by
  rw [show 80 - i = 80 - (i + 1) + 1 by omega]; rfl
theorem c_areAlike {σ : rS} {k a c : Nat} (w : OK A) (hC : CR σ k A) (ha : a < hn A) (hc : c < hn A) : hit (fX3_areAlike k (nI a) (nI c) σ) (fun v s => v = bI (loopC A 80 0 (setS ct P0 a c).2)) := by
  have hn78 := w.n
  unfold fX3_areAlike
  refine bd_hit (hit_mono (hit_fr (frJ7_fill_53178 35 0 80 (-1) σ) (fill_spec 35 0 80 (-1) σ (by omega))) ?_)
  rintro r1 s1 ⟨f1, rfl⟩
  refine bd_hit (hit_mono (hit_fr (frJ7_fill_53178 36 0 80 (-1) _) (fill_spec 36 0 80 (-1) _ (by omega))) ?_)
  rintro r2 s2 ⟨f2, e2⟩
  rw [st_eq]
  have hP : PCl (wr s2 3 0 7 0) P0 := by
    refine ⟨fun x hx => ?_, fun x hx => ?_, ?_, fun i hi => absurd hi (Nat.not_lt_zero _), fun x y hy => by cases hy⟩
    · rw [wr_c (by decide), f2 35 (by decide), wrR_eq]
      show fillR 80 (-1) _ x = -1
      unfold fillR
      rw [if_pos hx]
    · rw [wr_c (by decide), e2, wrR_eq]
      show fillR 80 (-1) _ x = -1
      unfold fillR
      rw [if_pos hx]
    · rw [wr_same]; rfl
  have hC2 : CR (wr s2 3 0 7 0) k A := hC.of_eq (by rw [wr_c (by decide), f2 7 (by decide), f1 7 (by decide)]) (fun q q1 q2 => by rw [wr_c (by omega), f2 q (by simp only [List.mem_cons, List.not_mem_nil, or_false]; omega), f1 q (by simp only [List.mem_cons, List.not_mem_nil, or_false]; omega)]) (fun j _ => ⟨by rw [wr_c (by decide), f2 4 (by decide), f1 4 (by decide)], by rw [wr_c (by decide), f2 28 (by decide), f1 28 (by decide)]⟩)
  refine bd_hit (hit_mono (hit_fr (frX3_setBeside _ _ _) (c_setS w hP P0_wf ha hc)) ?_)
  rintro v s3 ⟨f3, rfl, hV3⟩
  have hC3 : CR s3 k A := hC2.of_eq (by rw [f3 7 (by decide)]) (fun q q1 q2 => by rw [f3 q (by simp only [List.mem_cons, List.not_mem_nil, or_false]; omega)]) (fun j _ => ⟨by rw [f3 4 (by decide)], by rw [f3 28 (by decide)]⟩)
  have e1 : (setS ct P0 a c).1 = true := rfl
  have hw1 : wfP A (setS ct P0 a c).2 := setS_wf P0_wf ha hc
  generalize (setS ct P0 a c).2 = P1 at hV3 hw1 ⊢
  rw [e1]
  have lp1 : hit (lp (fun (x : (Int32 × Int32)) σ => fX3_areAlike_L32 k x.1 x.2 σ) fu (1, 0) s3) (fun e s => e = bI (loopC A 80 0 P1)) := by
    refine lp_go (I := fun m x s => (x.1 = 0 ∧ m = 0 ∧ loopC A 80 0 P1 = false) ∨ ∃ i V, i ≤ 80 ∧ CR s k A ∧ PCl s V ∧ x = (1, nI i) ∧ m = 80 - i + 1 ∧ wfP A V ∧ loopC A (80 - i) i V = loopC A 80 0 P1) ?_ fu 81 (1, 0) s3 (fu_lt (by omega)) (Or.inr ⟨0, P1, by omega, hC3, hV3, rfl, by omega, hw1, rfl⟩)
    rintro m x s (⟨x0, rfl, hF⟩ | ⟨i, V, hi, hCs, hV, rfl, rfl, hwV, hF⟩)
    · unfold fX3_areAlike_L32
      rw [if_pos x0, hF, x0]
      exact hit_some rfl
    · unfold fX3_areAlike_L32
      dsimp only
      have hlen := wfP_len w hwV
      rw [if_neg one_ne, hV.2.2.1]
      by_cases hlt : i < V.2.2.length
      · obtain ⟨b1, b2, b3⟩ := wf_B hwV hlt
        have q31 : s 31 0 i = nI (qA V i) := hV.2.2.2.1 i hlt
        have q35 : s 35 0 (qA V i) = nI (qB V i) := by rw [hV.1 _ (by omega), b2]; rfl
        rw [loopC_F (by omega), if_pos hlt] at hF
        rw [if_pos (show nI i < nI V.2.2.length by rw [pn_lt (by omega) (by omega)]; exact hlt), if_pos (show nI i < 80 by rw [pn_lt80 (by omega)]; omega), pn_bnd (by omega) (by omega), pn_bnd (by omega) (by omega), ix_nI (by omega), q31, pn_bnd (by omega) (by omega), ix_nI (by omega), q35]
        refine bd_hit (hit_mono (c_here w hCs hV hwV b1 b3) ?_)
        rintro v s2 ⟨rfl, hC2, hV2⟩
        rw [pn_add1]
        by_cases kl : like A (qA V i) (qB V i) = true
        · rw [if_pos kl] at hF ⊢
          have hw2 : wfP A (fldP ct A (qA V i) (qB V i) (hsz A (qA V i)) 0 V).2 := fldP_wf w b1 b3 _ _ _ (by omega) (by rw [← like_sz kl]; omega) hwV
          by_cases z : (fldP ct A (qA V i) (qB V i) (hsz A (qA V i)) 0 V).1 = true
          · rw [if_pos z] at hF
            rw [z]
            exact hit_some ⟨80 - (i + 1) + 1, by omega, Or.inr ⟨i + 1, _, by omega, hC2, hV2 kl, rfl, rfl, hw2, hF⟩⟩
          · rw [if_neg z] at hF
            rw [eq_false_of_ne_true z]
            exact hit_some ⟨0, by omega, Or.inl ⟨rfl, rfl, hF.symm⟩⟩
        · rw [if_neg kl] at hF ⊢
          exact hit_some ⟨0, by omega, Or.inl ⟨rfl, rfl, hF.symm⟩⟩
      · rw [if_neg (show ¬ nI i < nI V.2.2.length by rw [pn_lt (by omega) (by omega)]; exact hlt)]
        have : loopC A (80 - i) i V = true := by
          by_cases i8 : i < 80
          · rw [loopC_F i8, if_neg hlt]
          · rw [show 80 - i = 0 by omega]; rfl
        rw [← hF, this]
        exact hit_some rfl
  refine bd_hit (hit_mono lp1 ?_)
  rintro e s rfl
  unfold bz
  rw [if_pos (bI01 _)]
  exact hit_some rfl
end ca
