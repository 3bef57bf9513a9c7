/-! the class reads a heap's text -/
theorem TpC.fr {σ s : rS} {T : List Nat} (h : TpC σ T) (e8 : s 8 = σ 8) (e25 : s 25 = σ 25) : TpC s T := by
  unfold TpC at h ⊢
  rw [e8, e25]
  exact h
theorem TpM.fr {σ s : rS} {T : List Nat} (h : TpM σ T) (e2 : s 10 0 2 = σ 10 0 2) (e60 : s 60 = σ 60) : TpM s T := by
  unfold TpM at h ⊢
  rw [e2, e60]
  exact h
def hpC (V : Nat ⊕ (Nat → Nat)) (r : Int32) (s : rS) : Prop := match V with
  | .inl f => r = nI f
  | .inr R => r = -1 ∧ ∀ i, i < 4 → s 26 0 i = nI (R i)
/-- how the class's loop of items ends -/
def hpE (V : Nat ⊕ (Nat → Nat)) (e : Unit ⊕ (Unit ⊕ (Unit ⊕ Unit))) (s : rS) : Prop := match e with
  | .inl _ => ∃ R, V = .inr R ∧ ∀ i, i < 4 → s 26 0 i = nI (R i)
  | .inr (.inl _) => ∃ f, V = .inl f ∧ s 6 0 4 = nI f
  | .inr (.inr (.inl _)) => ∃ f, V = .inl f ∧ s 6 0 5 = nI f
  | .inr (.inr (.inr _)) => ∃ f, V = .inl f ∧ s 6 0 4 = nI f
def Fh (σ s : rS) : Prop := ∀ c, ¬ c = 6 → ¬ c = 26 → s c = σ c
/-- the loop's sentence -/
def hpI (T : List Nat) (σ : rS) (V : Nat ⊕ (Nat → Nat)) (n : Nat) (x : Int32 × Int32) (s : rS) : Prop := ∃ m R p, m < 16 ∧ n = 5 - pcn m ∧ x = (nI m, nI (pcn m)) ∧ p ≤ T.length ∧ s 6 0 4 = nI p ∧ (∀ i, i < 4 → s 26 0 i = nI (R i)) ∧ Fh σ s ∧ hpN T (5 - pcn m) m R p = V
theorem c_heapS {σ : rS} {T : List Nat} {V : Nat ⊕ (Nat → Nat)} (h : TpC σ T) {n : Nat} {x : Int32 × Int32} {s : rS} (hI : hpI T σ V n x s) : hit (fX6_readHeap_L46 x.1 x.2 s) (fun q s => match q with
      | .inl y => ∃ m, m < n ∧ hpI T σ V m y s
      | .inr r => hpE V r s ∧ Fh σ s) := by
  have h3 := h.2.2.1
  obtain ⟨m, R, p, hm, rfl, rfl, hp, e4, h26, hF, hV⟩ := hI
  have hpc := bits4 m hm
  have hs := sk_le hp
  have tS : TpC s T := h.fr (hF 8 (by decide) (by decide)) (hF 25 (by decide) (by decide))
  have hV' : hpN T (5 - pcn m) m R p = if btC T (sk T p) = 0 then .inr R
    else match ltA 0 T (sk T p) with
      | none => .inl (sk T p)
      | some i => if m.testBit i = true then .inl (sk T p)
        else match numV T (hlw i) (hhi i) (sk T p + 1) with
          | .inl f => .inl f
          | .inr q => hpN T (5 - pcn m - 1) (m ||| 1 <<< i) (updN R i q.1) q.2 := by
    rw [show 5 - pcn m = 5 - pcn m - 1 + 1 by omega]
    rfl
  rw [hV'] at hV
  unfold fX6_readHeap_L46
  dsimp only
  rw [if_neg (show ¬ (4 : Int32) < nI (pcn m) by rw [show (4 : Int32) = nI 4 from rfl, pn_lt (by omega) (by omega)]; omega)]
  refine bd_hit (hit_mono (c_sign tS hp e4) ?_)
  rintro r1 s1 ⟨rfl, e1, o1⟩
  have hb := btC_le h.2.2.2 (sk T p)
  have f1 : Fh σ s1 := fun c h6 h26 => (o1.1 c h6).trans (hF c h6 h26)
  have g1 : ∀ i, i < 4 → s1 26 0 i = nI (R i) := fun i hi => by rw [o1.1 26 (by decide)]; exact h26 i hi
  by_cases c0 : btC T (sk T p) = 0
  · rw [if_pos c0] at hV
    rw [if_pos (show nI (btC T (sk T p)) = 0 by rw [c0]; rfl)]
    exact hit_some ⟨⟨R, hV.symm, g1⟩, f1⟩
  · rw [if_neg c0] at hV
    rw [if_neg (show ¬ nI (btC T (sk T p)) = 0 by rw [pn_eq0 (by omega)]; exact c0), c_letter (by decide) (by omega), bd_some]
    have hlt : sk T p < T.length := by
      have := mt (btC_0 h.2.2.2).mpr c0
      omega
    rw [show ltr 0 (nI (btC T (sk T p))) = ltA 0 T (sk T p) from rfl]
    cases eL : ltA 0 T (sk T p) with
    | none =>
      rw [eL] at hV
      rw [enc_none, if_pos (by decide)]
      exact hit_some ⟨⟨sk T p, hV.symm, e1⟩, f1⟩
    | some i =>
      have hi : i < 4 := ltA_lt eL
      rw [eL] at hV
      have hV : (if m.testBit i = true then .inl (sk T p)
        else match numV T (hlw i) (hhi i) (sk T p + 1) with
          | .inl f => .inl f
          | .inr q => hpN T (5 - pcn m - 1) (m ||| 1 <<< i) (updN R i q.1) q.2) = V := hV
      have b1 := bits1 m hm i hi
      have b2 := bits2 m hm i hi
      rw [enc_some, if_neg (show ¬ nI i < 0 by rw [pn_neg (by omega)]; exact id), if_pos (show nI i < 4 by rw [pn_lt4 (by omega)]; exact hi)]
      by_cases d : m.testBit i = true
      · rw [if_pos d] at hV b1
        rw [if_neg (show ¬ ((nI m >>> (nI i &&& 31)) &&& 1) = 0 by rw [b1]; decide)]
        exact hit_some ⟨⟨sk T p, hV.symm, e1⟩, f1⟩
      · rw [if_neg d] at hV b1
        obtain ⟨b3, b3'⟩ := bits3 m hm i hi (eq_false_of_ne_true d)
        obtain ⟨l1, l2, -⟩ := hl_item i hi
        have h1000 := hl_1000 i
        have bn : ∀ {β : Type} (x : Option β), bnd (nI i) 4 x = x := fun x => pn_bnd hi (by omega)
        rw [if_pos b1, st_eq, rd_eq, bn, bn, b2, e1, pn_add1, ix_nI (by omega), l1, l2]
        refine bd_hit (hit_mono (c_number (p := sk T p + 1) (lo := hlw i) (hi := hhi i) ((tS.of6 o1).of6 Of6_wr) (by omega) (wr_same _ _ _ _ _) h1000.1 h1000.2) ?_)
        rintro r2 s2 ⟨k2, o2⟩
        have f2 : Fh σ (wr s2 26 0 i r2) := fun c h6 h26 => by
          rw [wr_c h26, o2.1 c h6, wr_c h6]; exact f1 c h6 h26
        rw [bn, st_eq, bn, wr_same]
        cases eN : numV T (hlw i) (hhi i) (sk T p + 1) with
        | inl f =>
          rw [eN] at hV k2
          have k2 : r2 = -1 ∧ s2 6 0 5 = nI f := k2
          rw [if_pos k2.1]
          exact hit_some ⟨⟨f, hV.symm, by rw [wr_c (by decide)]; exact k2.2⟩, f2⟩
        | inr q =>
          obtain ⟨v, q⟩ := q
          rw [eN] at hV k2
          have k2 : r2 = nI v ∧ s2 6 0 4 = nI q := k2
          have hq := numV_r (by omega) eN
          have hq : hlw i ≤ v ∧ v ≤ hhi i ∧ q ≤ T.length := hq
          obtain ⟨rfl, k3⟩ := k2
          rw [if_neg (show ¬ nI v = -1 by rw [pn_m1 (by omega)]; exact id), pn_add1]
          refine hit_some ⟨5 - pcn (m ||| 1 <<< i), by omega, m ||| 1 <<< i, updN R i v, q, b3, rfl, by rw [b3'], hq.2.2, by rw [wr_c (by decide)]; exact k3, fun j hj => ?_, f2, ?_⟩
          · unfold updN
            by_cases z : j = i
            · subst z; rw [if_pos rfl]; exact wr_same _ _ _ _ _
            · rw [if_neg z, wr_i z, o2.1 26 (by decide), wr_c (by decide)]; exact g1 j hj
          · rw [b3', show 5 - (pcn m + 1) = 5 - pcn m - 1 by omega]
            exact hV
theorem c_readHeap {σ : rS} {T : List Nat} (h : TpC σ T) : hit (fX6_readHeap σ) (fun r s => hpC (hpV T) r s ∧ Fh σ s) := by
  have h3 := h.2.2.1
  have hs := sk_le (T := T) (Nat.zero_le _)
  unfold fX6_readHeap
  rw [st_eq]
  unfold bcp
  rw [if_neg (by decide), st_eq]
  have eR : ∀ i, i < 4 → va_cpy (sItem 2) (wr σ 6 0 4 0 26 0) (ix 0) (ix 0) (ix 4) i = nI (hR0 i) := fun i hi => by
    rw [show ix 0 = 0 from rfl, show ix 4 = 4 from rfl, cpy_lt hi]
    exact (hl_item i hi).2.2.1
  generalize va_cpy (sItem 2) (wr σ 6 0 4 0 26 0) (ix 0) (ix 0) (ix 4) = g at eR
  have f0 : Fh σ (wrR (wr σ 6 0 4 0) 26 0 g) := fun c h6 h26 => by rw [wrR_c h26, wr_c h6]
  have e0 : wrR (wr σ 6 0 4 0) 26 0 g 6 0 4 = nI 0 := by rw [wrR_c (by decide), wr_same]; rfl
  have r0 : ∀ i, i < 4 → wrR (wr σ 6 0 4 0) 26 0 g 26 0 i = nI (hR0 i) := fun i hi => by rw [wrR_eq]; exact eR i hi
  generalize wrR (wr σ 6 0 4 0) 26 0 g = u at f0 e0 r0
  have t0 : TpC u T := h.fr (f0 8 (by decide) (by decide)) (f0 25 (by decide) (by decide))
  refine bd_hit (hit_mono (c_sign t0 (Nat.zero_le _) e0) ?_)
  rintro r1 s1 ⟨rfl, e1, o1⟩
  have hb := btC_le h.2.2.2 (sk T 0)
  have f1 : Fh σ s1 := fun c h6 h26 => (o1.1 c h6).trans (f0 c h6 h26)
  have c104 : (nI (btC T (sk T 0)) = 104) = (btC T (sk T 0) = 104) := pn_eq (b := 104) (by omega) (by omega)
  by_cases c : btC T (sk T 0) = 104
  · have hlt : sk T 0 < T.length := by
      have := mt (btC_0 h.2.2.2).mpr (by omega : ¬ btC T (sk T 0) = 0)
      omega
    rw [if_pos (show nI (btC T (sk T 0)) = 104 by rw [c104]; exact c), st_eq, e1, pn_add1]
    have f2 : Fh σ (wr s1 6 0 4 (nI (sk T 0 + 1))) := fun c h6 h26 => by rw [wr_c h6]; exact f1 c h6 h26
    have r2 : ∀ i, i < 4 → wr s1 6 0 4 (nI (sk T 0 + 1)) 26 0 i = nI (hR0 i) := fun i hi => by rw [wr_c (by decide), o1.1 26 (by decide)]; exact r0 i hi
    have eV : hpV T = hpN T 5 0 hR0 (sk T 0 + 1) := by unfold hpV; rw [if_pos c]
    refine bd_hit (hit_mono (lp_go (I := hpI T σ (hpV T)) (P := fun r s => hpE (hpV T) r s ∧ Fh σ s) (fun n x s hI => hit_mono (c_heapS h hI) (fun q s hq => by cases q <;> exact hq)) fu 5 (0, 0) _ (fu_lt (by omega)) ⟨0, hR0, sk T 0 + 1, by omega, rfl, rfl, by omega, wr_same _ _ _ _ _, r2, f2, eV.symm⟩) ?_)
    rintro e s ⟨hE, hF⟩
    rcases e with u | u | u | u
    · obtain ⟨R, e1, e2⟩ := hE
      rw [e1]
      exact hit_some ⟨⟨rfl, e2⟩, hF⟩
    · obtain ⟨f, e1, e2⟩ := hE
      rw [e1]
      exact hit_some ⟨e2, hF⟩
    · obtain ⟨f, e1, e2⟩ := hE
      rw [e1]
      exact hit_some ⟨e2, hF⟩
    · obtain ⟨f, e1, e2⟩ := hE
      rw [e1]
      exact hit_some ⟨e2, hF⟩
  · rw [if_neg (show ¬ nI (btC T (sk T 0)) = 104 by rw [c104]; exact c)]
    have eV : hpV T = .inl (sk T 0) := by unfold hpV; rw [if_neg c]
    rw [eV]
    exact hit_some ⟨e1, f1⟩
