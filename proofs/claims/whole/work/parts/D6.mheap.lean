/-! the model reads a heap's text -/
def hpM (V : Nat ⊕ (Nat → Nat)) (s : rS) : Prop := match V with
  | .inl f => s 10 0 4 = nI f
  | .inr R => s 10 0 4 = -1 ∧ ∀ i, i < 4 → s 61 0 i = nI (R i)
def Gh (σ s : rS) : Prop := (∀ c, ¬ c = 10 → ¬ c = 61 → s c = σ c) ∧ ∀ i, ¬ i = 3 → ¬ i = 4 → s 10 0 i = σ 10 0 i
theorem Gh.tp {σ s : rS} {T : List Nat} (h : TpM σ T) (g : Gh σ s) : TpM s T := h.fr (g.2 2 (by decide) (by decide)) (g.1 60 (by decide) (by decide))
theorem Gh.of3 {σ s u : rS} (g : Gh σ s) (o : Of3 s u) : Gh σ u := ⟨fun c h1 h2 => (o.1 c h1).trans (g.1 c h1 h2), fun i h1 h2 => (o.2 i h1).trans (g.2 i h1 h2)⟩
theorem Gh.o34 {σ s u : rS} (g : Gh σ s) (o : O34 s u) : Gh σ u := ⟨fun c h1 h2 => (o.1 c h1).trans (g.1 c h1 h2), fun i h1 h2 => (o.2 i h1 h2).trans (g.2 i h1 h2)⟩
theorem Gh.w61 {σ s : rS} {i : Nat} {v : Int32} (g : Gh σ s) : Gh σ (wr s 61 0 i v) := ⟨fun c h1 h2 => by rw [wr_c h2]; exact g.1 c h1 h2, fun i h1 h2 => by rw [wr_c (by decide)]; exact g.2 i h1 h2⟩
theorem Gh.w4 {σ s : rS} {v : Int32} (g : Gh σ s) : Gh σ (wr s 10 0 4 v) := ⟨fun c h1 h2 => by rw [wr_c h1]; exact g.1 c h1 h2, fun i h1 h2 => by rw [wr_i h2]; exact g.2 i h1 h2⟩
theorem m_fails {σ : rS} {f : Nat} (h4 : σ 10 0 4 = -1) (h3 : σ 10 0 3 = nI f) : fX10_fails σ = some (0, wr σ 10 0 4 (nI f)) := by
  unfold fX10_fails
  rw [if_pos h4, st_eq, h3]
/-- how the model's loop of items ends -/
def hmE (T : List Nat) (V : Nat ⊕ (Nat → Nat)) (e : Unit ⊕ (Unit ⊕ (Unit ⊕ Unit))) (s : rS) : Prop := match e with
  | .inl _ => ∃ f, V = .inl f ∧ s 10 0 3 = nI f ∧ s 10 0 4 = -1
  | .inr (.inl _) => ∃ f, V = .inl f ∧ s 10 0 4 = nI f
  | .inr (.inr (.inl _)) => ∃ f, V = .inl f ∧ s 10 0 3 = nI (f + 1) ∧ s 10 0 4 = -1
  | .inr (.inr (.inr _)) => ∃ R p, p ≤ T.length ∧ sk T p = p ∧ s 10 0 3 = nI p ∧ s 10 0 4 = -1 ∧ (∀ i, i < 4 → s 61 0 i = nI (R i)) ∧ V = if btC T p = 0 then .inr R else .inl p
def hmI (T : List Nat) (σ : rS) (V : Nat ⊕ (Nat → Nat)) (n : Nat) (x : Int32 × Int32) (s : rS) : Prop := ∃ m R p, m < 16 ∧ n = 5 - pcn m ∧ x = (nI m, enc (ltA 0 T (sk T p))) ∧ p ≤ T.length ∧ s 10 0 3 = nI (sk T p) ∧ s 10 0 4 = -1 ∧ (∀ i, i < 4 → s 61 0 i = nI (R i)) ∧ Gh σ s ∧ hpN T (5 - pcn m) m R p = V
theorem m_lw : ∀ i, i < 4 → ∀ σ, fX10_leastOf (nI i) σ = some (nI (hlw i), σ) ∧ fX10_mostOf (nI i) σ = some (nI (hhi i), σ) := fun i hi σ => by
  rcases (by omega : i = 0 ∨ i = 1 ∨ i = 2 ∨ i = 3) with rfl | rfl | rfl | rfl <;> exact ⟨rfl, rfl⟩
theorem m_heapS {σ : rS} {T : List Nat} {V : Nat ⊕ (Nat → Nat)} (h : TpM σ T) {n : Nat} {x : Int32 × Int32} {s : rS} (hI : hmI T σ V n x s) : hit (fX10_readHeap_L67 x.1 x.2 s) (fun q s => match q with
      | .inl y => ∃ m, m < n ∧ hmI T σ V m y s
      | .inr r => hmE T V r s ∧ Gh σ s) := by
  have h3 := h.2.2.1
  obtain ⟨m, R, p, hm, rfl, rfl, hp, e3, e4, h61, hF, hV⟩ := hI
  have hpc := bits4 m hm
  have hs := sk_le hp
  have tS : TpM s T := hF.tp h
  have hV' : hpN T (5 - pcn m) m R p = if btC T (sk T p) = 0 then .inr R
    else match ltA 0 T (sk T p) with
      | none => .inl (sk T p)
      | some i => if m.testBit i = true then .inl (sk T p)
        else match numV T (hlw i) (hhi i) (sk T p + 1) with
          | .inl f => .inl f
          | .inr q => hpN T (5 - pcn m - 1) (m ||| 1 <<< i) (updN R i q.1) q.2 := by
    rw [show 5 - pcn m = 5 - pcn m - 1 + 1 by omega]
    rfl
  rw [hV'] at hV
  unfold fX10_readHeap_L67
  dsimp only
  cases eL : ltA 0 T (sk T p) with
  | none =>
    rw [enc_none, if_pos rfl]
    rw [eL] at hV
    exact hit_some ⟨⟨R, sk T p, hs.2, sk_idem, e3, e4, h61, hV.symm⟩, hF⟩
  | some i =>
    have hi : i < 4 := ltA_lt eL
    have c0 : ¬ btC T (sk T p) = 0 := fun z => by rw [ltA_end (by decide) z] at eL; cases eL
    have hlt : sk T p < T.length := by
      have := mt (btC_0 h.2.2.2).mpr c0
      omega
    rw [if_neg c0, eL] at hV
    have hV : (if m.testBit i = true then .inl (sk T p)
        else match numV T (hlw i) (hhi i) (sk T p + 1) with
          | .inl f => .inl f
          | .inr q => hpN T (5 - pcn m - 1) (m ||| 1 <<< i) (updN R i q.1) q.2) = V := hV
    have b1 := bits1 m hm i hi
    have b2 := bits2 m hm i hi
    rw [enc_some, if_neg (show ¬ nI i = -1 by rw [pn_m1 (by omega)]; exact id)]
    by_cases d : m.testBit i = true
    · rw [if_pos d] at hV b1
      rw [if_pos b1]
      exact hit_some ⟨⟨sk T p, hV.symm, e3, e4⟩, hF⟩
    · rw [if_neg d] at hV b1
      obtain ⟨b3, b3'⟩ := bits3 m hm i hi (eq_false_of_ne_true d)
      have h1000 := hl_1000 i
      have bn : ∀ {β : Type} (x : Option β), bnd (nI i) 4 x = x := fun x => pn_bnd hi (by omega)
      rw [if_neg (show ¬ ((nI m >>> (nI i &&& 31)) &&& 1) = 1 by rw [b1]; decide), rd_eq, st_eq, e3, pn_add1, b2]
      refine bd_hit (hit_mono (m_number (p := sk T p + 1) (tS.of3 Of3_wr) (by omega) (wr_same _ _ _ _ _) (by rw [wr_i (by decide)]; exact e4)) ?_)
      rintro r2 s2 ⟨k2, o2⟩
      have F2 := (hF.of3 Of3_wr).o34 o2
      rw [bn, st_eq, ix_nI (by omega)]
      have w4 : wr s2 61 0 i r2 10 0 4 = s2 10 0 4 := by rw [wr_c (by decide)]
      have w3 : wr s2 61 0 i r2 10 0 3 = s2 10 0 3 := by rw [wr_c (by decide)]
      rw [numV_nu] at hV
      cases eN : nuM T (sk T p + 1) with
      | inl f =>
        rw [eN] at hV k2
        have hf := nuM_l (by omega) eN
        have k2 : s2 10 0 4 = nI f := k2
        rw [if_neg (show ¬ wr s2 61 0 i r2 10 0 4 = -1 by rw [w4, k2, pn_m1 (by omega)]; exact id)]
        exact hit_some ⟨⟨f, hV.symm, w4.trans k2⟩, F2.w61⟩
      | inr q =>
        obtain ⟨v, q⟩ := q
        rw [eN] at hV k2
        obtain ⟨hv, hq1, hq2⟩ := nuM_r (by omega) eN
        have hv : v < 1000 := hv
        have hq1 : sk T p + 1 < q := hq1
        have hq2 : q ≤ T.length := hq2
        have k2 : r2 = nI v ∧ s2 10 0 3 = nI q ∧ s2 10 0 4 = -1 := k2
        obtain ⟨rfl, k3, k4⟩ := k2
        have F3 : Gh σ (wr s2 61 0 i (nI v)) := F2.w61
        have t3 := F3.tp h
        rw [if_pos (w4.trans k4), bn, (m_lw i hi _).1, bd_some, (m_lw i hi _).2, bd_some, wr_same, e_isIn, bd_some]
        have c1 : (nI v < nI (hlw i)) = (v < hlw i) := pn_lt (by omega) (by omega)
        have c2 : (nI (hhi i) < nI v) = (hhi i < v) := pn_lt (by omega) (by omega)
        simp only [c1, c2]
        have hV : (match (if v < hlw i ∨ hhi i < v then (.inl (q - 1) : Nat ⊕ (Nat × Nat)) else .inr (v, q)) with
          | .inl f => .inl f
          | .inr q => hpN T (5 - pcn m - 1) (m ||| 1 <<< i) (updN R i q.1) q.2) = V := hV
        by_cases a : v < hlw i
        · rw [if_pos (Or.inl a)] at hV
          rw [if_pos a, if_pos rfl]
          exact hit_some ⟨⟨q - 1, hV.symm, by rw [w3, k3, show q - 1 + 1 = q by omega], w4.trans k4⟩, F3⟩
        · by_cases b : hhi i < v
          · rw [if_pos (Or.inr b)] at hV
            rw [if_neg a, if_pos b, if_pos rfl]
            exact hit_some ⟨⟨q - 1, hV.symm, by rw [w3, k3, show q - 1 + 1 = q by omega], w4.trans k4⟩, F3⟩
          · rw [if_neg (show ¬ (v < hlw i ∨ hhi i < v) from fun z => z.elim a b)] at hV
            rw [if_neg a, if_neg b, if_neg (show ¬ (1 : Int32) = 0 by decide)]
            refine bd_hit (hit_mono (m_look t3 hq2 (w3.trans k3)) ?_)
            rintro r4 s4 ⟨rfl, e5, o5⟩
            rw [m_letter (by decide), bd_some, ltr_M (by decide)]
            refine hit_some ⟨5 - pcn (m ||| 1 <<< i), by omega, m ||| 1 <<< i, updN R i v, q, b3, rfl, rfl, hq2, e5, ?_, fun j hj => ?_, F3.of3 o5, ?_⟩
            · rw [o5.2 4 (by decide)]; exact w4.trans k4
            · rw [o5.1 61 (by decide)]
              unfold updN
              by_cases z : j = i
              · subst z; rw [if_pos rfl]; exact wr_same _ _ _ _ _
              · rw [if_neg z, wr_i z, o2.1 61 (by decide), wr_c (by decide)]; exact h61 j hj
            · rw [b3', show 5 - (pcn m + 1) = 5 - pcn m - 1 by omega]
              exact hV
theorem m_readHeap {σ : rS} {T : List Nat} (h : TpM σ T) (e3 : σ 10 0 3 = nI 0) (e4 : σ 10 0 4 = -1) : hit (fX10_readHeap σ) (fun _ s => hpM (hpV T) s ∧ Gh σ s) := by
  have h3 := h.2.2.1
  have hs := sk_le (T := T) (Nat.zero_le _)
  unfold fX10_readHeap
  rw [st_eq, st_eq, st_eq, st_eq]
  have F0 : Gh σ σ := ⟨fun _ _ _ => rfl, fun _ _ _ => rfl⟩
  have F1 : Gh σ (wr (wr (wr (wr σ 61 0 (ix 0) 24) 61 0 (ix 1) 8) 61 0 (ix 2) 48) 61 0 (ix 3) 2) := (((F0.w61).w61).w61).w61
  have r0 : ∀ i, i < 4 → wr (wr (wr (wr σ 61 0 (ix 0) 24) 61 0 (ix 1) 8) 61 0 (ix 2) 48) 61 0 (ix 3) 2 61 0 i = nI (hR0 i) := fun i hi => by
    rw [show ix 0 = 0 from rfl, show ix 1 = 1 from rfl, show ix 2 = 2 from rfl, show ix 3 = 3 from rfl]
    rcases (by omega : i = 0 ∨ i = 1 ∨ i = 2 ∨ i = 3) with rfl | rfl | rfl | rfl
    · rw [wr_i (by decide), wr_i (by decide), wr_i (by decide), wr_same]; rfl
    · rw [wr_i (by decide), wr_i (by decide), wr_same]; rfl
    · rw [wr_i (by decide), wr_same]; rfl
    · rw [wr_same]; rfl
  have e30 : wr (wr (wr (wr σ 61 0 (ix 0) 24) 61 0 (ix 1) 8) 61 0 (ix 2) 48) 61 0 (ix 3) 2 10 0 3 = nI 0 := by
    rw [wr_c (by decide), wr_c (by decide), wr_c (by decide), wr_c (by decide)]; exact e3
  have e40 : wr (wr (wr (wr σ 61 0 (ix 0) 24) 61 0 (ix 1) 8) 61 0 (ix 2) 48) 61 0 (ix 3) 2 10 0 4 = -1 := by
    rw [wr_c (by decide), wr_c (by decide), wr_c (by decide), wr_c (by decide)]; exact e4
  generalize wr (wr (wr (wr σ 61 0 (ix 0) 24) 61 0 (ix 1) 8) 61 0 (ix 2) 48) 61 0 (ix 3) 2 = u at F1 r0 e30 e40
  refine bd_hit (hit_mono (m_look (F1.tp h) (Nat.zero_le _) e30) ?_)
  rintro r1 s1 ⟨rfl, e1, o1⟩
  have F2 := F1.of3 o1
  have e41 : s1 10 0 4 = -1 := by rw [o1.2 4 (by decide)]; exact e40
  have c104 : (btM T (sk T 0) = 104) = (btC T (sk T 0) = 104) := btM_c (c := 104) h.2.2.2 (by decide) (by decide)
  by_cases c : btC T (sk T 0) = 104
  · have hlt : sk T 0 < T.length := by
      have := mt (btC_0 h.2.2.2).mpr (by omega : ¬ btC T (sk T 0) = 0)
      omega
    have eV : hpV T = hpN T 5 0 hR0 (sk T 0 + 1) := by unfold hpV; rw [if_pos c]
    rw [if_pos (show btM T (sk T 0) = 104 by rw [c104]; exact c), st_eq, e1, pn_add1]
    have F3 := F2.of3 (Of3_wr (v := nI (sk T 0 + 1)))
    refine bd_hit (hit_mono (m_look (p := sk T 0 + 1) (F3.tp h) (by omega) (wr_same _ _ _ _ _)) ?_)
    rintro r2 s2 ⟨rfl, e5, o5⟩
    rw [m_letter (by decide), bd_some, ltr_M (by decide)]
    have F4 := F3.of3 o5
    have e42 : s2 10 0 4 = -1 := by rw [o5.2 4 (by decide), wr_i (by decide)]; exact e41
    refine bd_hit (hit_mono (lp_go (I := hmI T σ (hpV T)) (P := fun r s => hmE T (hpV T) r s ∧ Gh σ s) (fun n x s hI => hit_mono (m_heapS h hI) (fun q s hq => by cases q <;> exact hq)) fu 5 _ _ (fu_lt (by omega)) ⟨0, hR0, sk T 0 + 1, by omega, rfl, rfl, by omega, e5, e42, fun i hi => by rw [o5.1 61 (by decide), wr_c (by decide), o1.1 61 (by decide)]; exact r0 i hi, F4, eV.symm⟩) ?_)
    rintro e s ⟨hE, hF⟩
    rcases e with u | u | u | u
    · obtain ⟨f, v1, v2, v3⟩ := hE
      show hit (bd (fX10_fails s) _) _
      rw [m_fails v3 v2, bd_some, v1]
      exact hit_some ⟨wr_same _ _ _ _ _, hF.w4⟩
    · obtain ⟨f, v1, v2⟩ := hE
      rw [v1]
      exact hit_some ⟨v2, hF⟩
    · obtain ⟨f, v1, v2, v3⟩ := hE
      show hit (st (wr s 10 0 3 (s 10 0 3 - 1)) _) _
      rw [st_eq, v2, pn_sub1 (by omega), Nat.add_sub_cancel, m_fails (f := f) (by rw [wr_i (by decide)]; exact v3) (wr_same _ _ _ _ _), bd_some, v1]
      exact hit_some ⟨wr_same _ _ _ _ _, (hF.of3 Of3_wr).w4⟩
    · obtain ⟨R, p, v1, v2, v3, v4, v5, v6⟩ := hE
      show hit (bd (fX10_look s) _) _
      refine bd_hit (hit_mono (m_look (hF.tp h) v1 v3) ?_)
      rintro r7 s7 ⟨rfl, e7, o7⟩
      rw [v2] at e7 ⊢
      have F7 := hF.of3 o7
      have e47 : s7 10 0 4 = -1 := by rw [o7.2 4 (by decide)]; exact v4
      have cm := btM_0 (q := p) h.2.2.2
      by_cases z : btC T p = 0
      · rw [if_pos z] at v6
        rw [if_pos (show btM T p = -1 by rw [cm]; exact z), v6]
        exact hit_some ⟨⟨e47, fun i hi => by rw [o7.1 61 (by decide)]; exact v5 i hi⟩, F7⟩
      · rw [if_neg z] at v6
        rw [if_neg (show ¬ btM T p = -1 by rw [cm]; exact z), m_fails e47 e7, bd_some, v6]
        exact hit_some ⟨wr_same _ _ _ _ _, F7.w4⟩
  · have eV : hpV T = .inl (sk T 0) := by unfold hpV; rw [if_neg c]
    rw [if_neg (show ¬ btM T (sk T 0) = 104 by rw [c104]; exact c), m_fails e41 e1, bd_some, eV]
    exact hit_some ⟨wr_same _ _ _ _ _, F2.w4⟩
