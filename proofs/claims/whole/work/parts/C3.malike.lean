/-! alike, the model's side -/
def PMl (σ : rS) (P : AP) : Prop := (∀ a, a < 80 → σ 74 0 a = enc (P.1 a)) ∧ (∀ a, a < 80 → σ 75 0 a = enc (P.2.1 a)) ∧ σ 10 0 22 = nI P.2.2.length ∧ (∀ i, i < P.2.2.length → σ 69 0 i = nI (qA P i)) ∧ ∀ c a, P.2.1 c = some a → a < 80
section ma
variable {A : Hp}
theorem m_setS {σ : rS} {P : AP} {a c : Nat} (w : OK A) (hM : MR (σ 66 0) A) (h : PMl σ P) (hw : wfP A P) (ha : a < hn A) (hc : c < hn A) : hit (fX10_areSet (nI a) (nI c) σ) (fun v s => v = bI (setS (like A) P a c).1 ∧ PMl s (setS (like A) P a c).2) := by
  have hl := wfP_len w hw
  have hn78 := w.n
  have za := w.sz ha
  have zc := w.sz hc
  have hP := h
  obtain ⟨h1, h2, h3, h4, h5⟩ := h
  have b1 : ∀ d, P.1 a = some d → d < 2147483648 := fun d hd => by have := (hw.2.2 a d hd).1; omega
  have b2 : ∀ d, P.2.1 c = some d → d < 2147483648 := fun d hd => by have := h5 c d hd; omega
  have e1 : σ 74 0 a = enc (P.1 a) := h1 a (by omega)
  have e2 : σ 75 0 c = enc (P.2.1 c) := h2 c (by omega)
  have j41 : ¬ (P.1 a = none ∧ P.2.1 c = none) → hit (fX10_areSet_j41 (nI a) (nI c) σ) (fun v s => v = bI (setS (like A) P a c).1 ∧ PMl s (setS (like A) P a c).2) := fun hne => by
    unfold fX10_areSet_j41 setS
    rw [pn_bnd (by omega) (by omega), ix_nI (by omega), e1, if_neg hne]
    have q1 := enc_eqj (j := c) b1 (by omega)
    have q2 := enc_eqj (j := a) b2 (by omega)
    by_cases k1 : P.1 a = some c
    · rw [if_pos (show enc (P.1 a) = nI c by rw [q1]; exact k1), pn_bnd (by omega) (by omega), ix_nI (by omega), e2]
      by_cases k2 : P.2.1 c = some a
      · rw [if_pos (show enc (P.2.1 c) = nI a by rw [q2]; exact k2)]
        refine hit_some ⟨?_, hP⟩
        show 1 = bI (decide (P.1 a = some c ∧ P.2.1 c = some a))
        rw [decide_eq_true ⟨k1, k2⟩]; rfl
      · rw [if_neg (show ¬ enc (P.2.1 c) = nI a by rw [q2]; exact k2)]
        refine hit_some ⟨?_, hP⟩
        show 0 = bI (decide (P.1 a = some c ∧ P.2.1 c = some a))
        rw [decide_eq_false (fun h => k2 h.2)]; rfl
    · rw [if_neg (show ¬ enc (P.1 a) = nI c by rw [q1]; exact k1)]
      refine hit_some ⟨?_, hP⟩
      show 0 = bI (decide (P.1 a = some c ∧ P.2.1 c = some a))
      rw [decide_eq_false (fun h => k1 h.1)]; rfl
  unfold fX10_areSet
  rw [if_neg (by rw [pn_m1 (by omega)]; exact id), if_neg (by rw [pn_m1 (by omega)]; exact id), pn_bnd (by omega) (by omega), ix_nI (by omega), e1]
  by_cases k1 : P.1 a = none
  · rw [if_pos (show enc (P.1 a) = -1 by rw [enc_m1o b1]; exact k1), pn_bnd (by omega) (by omega), ix_nI (by omega), e2]
    by_cases k2 : P.2.1 c = none
    · rw [if_pos (show enc (P.2.1 c) = -1 by rw [enc_m1o b2]; exact k2), e_of1 hM w ha, bd_some, e_of1 hM w hc, bd_some]
      unfold setS
      rw [if_pos (show P.1 a = none ∧ P.2.1 c = none from ⟨k1, k2⟩)]
      have no : ¬ like A a c = true → hit (some ((0 : Int32), σ)) (fun v s => v = bI (if like A a c = true then (true, (upx P.1 a (some c), upx P.2.1 c (some a), P.2.2 ++ [a])) else (false, P)).1 ∧ PMl s (if like A a c = true then (true, (upx P.1 a (some c), upx P.2.1 c (some a), P.2.2 ++ [a])) else (false, P)).2) := fun z => by
        rw [if_neg z]; exact hit_some ⟨rfl, hP⟩
      by_cases y1 : hkd A a = hkd A c
      · rw [if_pos y1, e_of3 hM w ha, bd_some, e_of3 hM w hc, bd_some]
        by_cases y2 : hdt A a = hdt A c
        · rw [if_pos y2, e_of2 hM w ha, bd_some, e_of2 hM w hc, bd_some]
          by_cases y3 : hsz A a = hsz A c
          · have hlk : like A a c = true := decide_eq_true ⟨y1, y2, y3⟩
            rw [if_pos (show nI (hsz A a) = nI (hsz A c) by rw [y3]), if_pos hlk, pn_bnd (by omega) (by omega), st_eq, pn_bnd (by omega) (by omega), st_eq]
            have r7 : wr (wr σ 74 0 a (nI c)) 75 0 c (nI a) 10 0 22 = nI P.2.2.length := by rw [wr_c (by decide), wr_c (by decide)]; exact h3
            rw [r7, pn_bnd (by omega) (by omega), st_eq, ix_nI (by omega), st_eq]
            have r7' : wr (wr (wr σ 74 0 a (nI c)) 75 0 c (nI a)) 69 0 P.2.2.length (nI a) 10 0 22 = nI P.2.2.length := by rw [wr_c (by decide)]; exact r7
            rw [r7', pn_add1]
            refine hit_some ⟨rfl, fun x hx => ?_, fun x hx => ?_, ?_, fun i hi => ?_, fun x y hy => ?_⟩
            · show _ = enc (upx P.1 a (some c) x)
              rw [wr_c (by decide), wr_c (by decide), wr_c (by decide)]
              by_cases e : x = a
              · subst e; rw [wr_same, upx_same]; rfl
              · rw [wr_i e, upx_ne e]; exact h1 x hx
            · show _ = enc (upx P.2.1 c (some a) x)
              rw [wr_c (by decide), wr_c (by decide)]
              by_cases e : x = c
              · subst e; rw [wr_same, upx_same]; rfl
              · rw [wr_i e, upx_ne e, wr_c (by decide)]; exact h2 x hx
            · rw [wr_same]
              show _ = nI (P.2.2 ++ [a]).length
              rw [List.length_append, List.length_singleton]
            · have hi : i < (P.2.2 ++ [a]).length := hi
              rw [List.length_append, List.length_singleton] at hi
              show _ = nI (qA (upx P.1 a (some c), upx P.2.1 c (some a), P.2.2 ++ [a]) i)
              rw [qA_snoc, wr_c (by decide)]
              by_cases e : i = P.2.2.length
              · subst e; rw [if_pos rfl, wr_same]
              · rw [if_neg e, wr_i e, wr_c (by decide), wr_c (by decide)]; exact h4 i (by omega)
            · have hy : upx P.2.1 c (some a) x = some y := hy
              by_cases e : x = c
              · subst e; rw [upx_same] at hy; cases hy; omega
              · rw [upx_ne e] at hy; exact h5 x y hy
          · rw [if_neg (show ¬ nI (hsz A a) = nI (hsz A c) by rw [pn_eq (by omega) (by omega)]; exact y3)]
            exact no (fun z => y3 (of_decide_eq_true z).2.2)
        · rw [if_neg y2]; exact no (fun z => y2 (of_decide_eq_true z).2.1)
      · rw [if_neg y1]; exact no (fun z => y1 (of_decide_eq_true z).1)
    · rw [if_neg (show ¬ enc (P.2.1 c) = -1 by rw [enc_m1o b2]; exact k2)]
      exact j41 (fun h => k2 h.2)
  · rw [if_neg (show ¬ enc (P.1 a) = -1 by rw [enc_m1o b1]; exact k1)]
    exact j41 (fun h => k1 h.1)
theorem m_setP {σ : rS} {P : AP} {l r : Option Nat} (w : OK A) (hM : MR (σ 66 0) A) (h : PMl σ P) (hw : wfP A P) (hl : ∀ a, l = some a → a < hn A) (hr : ∀ c, r = some c → c < hn A) : hit (fX10_areSet (enc l) (enc r) σ) (fun v s => v = bI (setP (like A) P l r).1 ∧ PMl s (setP (like A) P l r).2) := by
  have hn78 := w.n
  cases l with
  | none =>
    unfold fX10_areSet fX10_areSet_j10
    rw [enc_none, if_pos rfl]
    cases r with
    | none => rw [enc_none, if_pos rfl]; exact hit_some ⟨rfl, h⟩
    | some c =>
      have := hr c rfl
      rw [enc_some, if_neg (by rw [pn_m1' (by omega)]; exact id)]; exact hit_some ⟨rfl, h⟩
  | some a =>
    have h1 := hl a rfl
    cases r with
    | none =>
      unfold fX10_areSet fX10_areSet_j10
      rw [enc_none, enc_some, if_neg (by rw [pn_m1 (by omega)]; exact id), if_pos rfl, if_neg (by rw [pn_m1 (by omega)]; exact id)]
      exact hit_some ⟨rfl, h⟩
    | some c => exact m_setS w hM h hw h1 (hr c rfl)
def iU (b : Bool) : Unit ⊕ Unit := if b = true then .inr () else .inl ()
theorem m_here {σ : rS} {P : AP} {i : Nat} (w : OK A) (hM : MR (σ 66 0) A) (h : PMl σ P) (hw : wfP A P) (hi : i < P.2.2.length) (hk : like A (qA P i) (qB P i) = true) : hit (lp (fun (x : Int32) σ => fX10_alike_L120 (nI i) x σ) fu 0 σ) (fun e s => e = iU (fldP (like A) A (qA P i) (qB P i) (hsz A (qA P i)) 0 P).1 ∧ MR (s 66 0) A ∧ PMl s (fldP (like A) A (qA P i) (qB P i) (hsz A (qA P i)) 0 P).2) := by
  have hn78 := w.n
  have hl78 := wfP_len w hw
  obtain ⟨ha, hab, hc⟩ := wf_B hw hi
  have sz := like_sz hk
  have za := w.sz ha
  generalize eF : fldP (like A) A (qA P i) (qB P i) (hsz A (qA P i)) 0 P = F
  refine lp_go (I := fun m x s => MR (s 66 0) A ∧ ∃ g V, g ≤ hsz A (qA P i) ∧ PMl s V ∧ wfP A V ∧ ExP P V ∧ x = nI g ∧ m = hsz A (qA P i) - g ∧ fldP (like A) A (qA P i) (qB P i) (hsz A (qA P i) - g) g V = F) ?_ fu (hsz A (qA P i)) 0 σ (fu_lt (by omega)) ⟨hM, 0, P, by omega, h, hw, ExP.rfl, rfl, by omega, eF⟩
  rintro m x s ⟨hMs, g, V, hg, hV, hwV, hx, rfl, rfl, hF⟩
  have hiV : i < V.2.2.length := by have := hx.len; omega
  have q69 : s 69 0 i = nI (qA P i) := by rw [hV.2.2.2.1 i hiV, qA_ex hx hi]
  have q74 : s 74 0 (qA P i) = nI (qB P i) := by rw [hV.1 _ (by omega), hx.2 _ _ hab]; rfl
  unfold fX10_alike_L120
  rw [pn_bnd (by omega) (by omega), ix_nI (by omega), q69, e_of2 hMs w ha, bd_some]
  by_cases hlt : g < hsz A (qA P i)
  · have hla : ∀ j, hlk A (qA P i) g = some j → j < hn A := fun j hj => w.lk ha hlt hj
    have hlc : ∀ j, hlk A (qB P i) g = some j → j < hn A := fun j hj => w.lk hc (by omega) hj
    rw [if_pos (show nI g < nI (hsz A (qA P i)) by rw [pn_lt (by omega) (by omega)]; exact hlt), pn_bnd (by omega) (by omega), q69, e_of7 hMs w ha hlt, bd_some, e_spotOf_o hMs w hla, bd_some, pn_bnd (by omega) (by omega), q69, pn_bnd (by omega) (by omega), ix_nI (by omega), q74, e_of7 hMs w hc (by omega), bd_some, e_spotOf_o hMs w hlc, bd_some]
    refine bd_hit (hit_mono (hit_fr (frX10_areSet _ _ s) (m_setP w hMs hV hwV hla hlc)) ?_)
    rintro v s2 ⟨f2, rfl, hV2⟩
    have hM2 : MR (s2 66 0) A := by rw [f2 66 (by decide)]; exact hMs
    have hF' : fldP (like A) A (qA P i) (qB P i) (hsz A (qA P i) - g) g V = if (setP (like A) V (hlk A (qA P i) g) (hlk A (qB P i) g)).1 = true then fldP (like A) A (qA P i) (qB P i) (hsz A (qA P i) - (g + 1)) (g + 1) (setP (like A) V (hlk A (qA P i) g) (hlk A (qB P i) g)).2 else (false, (setP (like A) V (hlk A (qA P i) g) (hlk A (qB P i) g)).2) := by
      rw [show hsz A (qA P i) - g = hsz A (qA P i) - (g + 1) + 1 by omega]; rfl
    rw [hF'] at hF
    by_cases z : (setP (like A) V (hlk A (qA P i) g) (hlk A (qB P i) g)).1 = true
    · rw [if_pos z] at hF
      rw [z, if_neg (show ¬ bI true = 0 by decide), pn_add1]
      exact hit_some ⟨hsz A (qA P i) - (g + 1), by omega, hM2, g + 1, _, by omega, hV2, setP_wf hwV hla hlc, hx.trans setP_ex, rfl, rfl, hF⟩
    · rw [if_neg z] at hF
      rw [eq_false_of_ne_true z, if_pos (show bI false = 0 from rfl), ← hF]
      exact hit_some ⟨rfl, hM2, hV2⟩
  · rw [if_neg (show ¬ nI g < nI (hsz A (qA P i)) by rw [pn_lt (by omega) (by omega)]; exact hlt)]
    have eg : hsz A (qA P i) - g = 0 := by omega
    rw [eg] at hF
    have hF : (true, V) = F := hF
    rw [← hF]
    exact hit_some ⟨rfl, hMs, hV⟩
theorem loopM_F {P : AP} {i : Nat} (hi : i < 80) : loopM A (80 - i) i P = if i < P.2.2.length then (if (fldP (like A) A (qA P i) (qB P i) (hsz A (qA P i)) 0 P).1 = true then loopM A (80 - (i + 1)) (i + 1) (fldP (like A) A (qA P i) (qB P i) (hsz A (qA P i)) 0 P).2 else false) else true := by
  rw [show 80 - i = 80 - (i + 1) + 1 by omega]; rfl
theorem m_aloop {σ : rS} {P : AP} (w : OK A) (hM : MR (σ 66 0) A) (h : PMl σ P) (hw : wfP A P) (hal : ALk A P) : hit (lp (fun (x : Int32) σ => fX10_alike_L109 x σ) fu 0 σ) (fun e s => e = iU (loopM A 80 0 P)) := by
  refine lp_go (I := fun m x s => ∃ i V, i ≤ 80 ∧ MR (s 66 0) A ∧ PMl s V ∧ wfP A V ∧ ALk A V ∧ x = nI i ∧ m = 80 - i ∧ loopM A (80 - i) i V = loopM A 80 0 P) ?_ fu 80 0 σ (fu_lt (by omega)) ⟨0, P, by omega, hM, h, hw, hal, rfl, by omega, rfl⟩
  rintro m x s ⟨i, V, hi, hMs, hV, hwV, haV, rfl, rfl, hF⟩
  have hlen := wfP_len w hwV
  unfold fX10_alike_L109
  rw [hV.2.2.1]
  by_cases hlt : i < V.2.2.length
  · obtain ⟨b1, b2, b3⟩ := wf_B hwV hlt
    have k := haV i hlt
    have sz := like_sz k
    rw [loopM_F (by omega), if_pos hlt] at hF
    rw [if_pos (show nI i < nI V.2.2.length by rw [pn_lt (by omega) (by omega)]; exact hlt)]
    refine bd_hit (hit_mono (m_here w hMs hV hwV hlt k) ?_)
    rintro e s2 ⟨rfl, hM2, hV2⟩
    unfold iU
    by_cases z : (fldP (like A) A (qA V i) (qB V i) (hsz A (qA V i)) 0 V).1 = true
    · rw [if_pos z] at hF ⊢
      rw [pn_add1]
      exact hit_some ⟨80 - (i + 1), by omega, i + 1, _, by omega, hM2, hV2, fldP_wf w b1 b3 _ _ _ (by omega) (by omega) hwV, fldP_al w b1 b3 _ _ _ (by omega) (by omega) hwV haV, rfl, rfl, hF⟩
    · rw [if_neg z] at hF ⊢
      rw [← hF]
      exact hit_some rfl
  · rw [if_neg (show ¬ nI i < nI V.2.2.length by rw [pn_lt (by omega) (by omega)]; exact hlt)]
    have : loopM A (80 - i) i V = true := by
      by_cases i8 : i < 80
      · rw [loopM_F i8, if_neg hlt]
      · rw [show 80 - i = 0 by omega]; rfl
    rw [← hF, this]
    exact hit_some rfl
end ma
