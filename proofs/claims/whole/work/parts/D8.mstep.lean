/-! the model reads a step's text -/
def Gs (k : Nat) (σ s : rS) : Prop := (∀ c, ¬ c = 10 → ¬ c = 64 → s c = σ c) ∧ (∀ i, ¬ i = 3 → ¬ i = 4 → s 10 0 i = σ 10 0 i) ∧ ∀ x, x < 320 + 5 * k → s 64 0 x = σ 64 0 x
theorem Gs.tp {k : Nat} {σ s : rS} {T : List Nat} (h : TpM σ T) (g : Gs k σ s) : TpM s T := h.fr (g.2.1 2 (by decide) (by decide)) (g.1 60 (by decide) (by decide))
theorem Gs.o34 {k : Nat} {σ s u : rS} (g : Gs k σ s) (o : O34 s u) : Gs k σ u := ⟨fun c h1 h2 => (o.1 c h1).trans (g.1 c h1 h2), fun i h1 h2 => (o.2 i h1 h2).trans (g.2.1 i h1 h2), fun x hx => by rw [o.1 64 (by decide)]; exact g.2.2 x hx⟩
theorem Gs.w64 {k j : Nat} {σ s : rS} {v : Int32} (g : Gs k σ s) (hj : 320 + 5 * k ≤ j) : Gs k σ (wr s 64 0 j v) := ⟨fun c h1 h2 => by rw [wr_c h2]; exact g.1 c h1 h2, fun i h1 h2 => by rw [wr_c (by decide)]; exact g.2.1 i h1 h2, fun x hx => by rw [wr_i (by omega)]; exact g.2.2 x hx⟩
theorem O34_4 {σ : rS} {v : Int32} : O34 σ (wr σ 10 0 4 v) := ⟨fun c hc => wr_c hc, fun i _ h4 => wr_i h4⟩
theorem m_nAr {t : Nat} (ht : t < 7) (σ : rS) : fX10_numbersOf (nI t) σ = some (nI (nAr t), σ) := by
  rcases (by omega : t = 0 ∨ t = 1 ∨ t = 2 ∨ t = 3 ∨ t = 4 ∨ t = 5 ∨ t = 6) with rfl | rfl | rfl | rfl | rfl | rfl | rfl <;> rfl
/-- how the model's loop of numbers ends -/
def amP (T : List Nat) (V : Nat ⊕ ((Nat → Int32) × Nat)) (k : Nat) (e : Unit ⊕ Unit) (s : rS) : Prop := match e with
  | .inl _ => ∃ f, V = .inl f ∧ s 10 0 3 = nI f ∧ s 10 0 4 = -1
  | .inr _ => (∃ f, V = .inl f ∧ s 10 0 4 = nI f) ∨ ∃ g p, V = .inr (g, p) ∧ s 10 0 3 = nI p ∧ s 10 0 4 = -1 ∧ ∀ j, j < 5 → s 64 0 (320 + 5 * k + j) = g j
def amI (T : List Nat) (σ : rS) (V : Nat ⊕ ((Nat → Int32) × Nat)) (k t n : Nat) (x : Int32) (s : rS) : Prop := ∃ a, a ≤ 4 ∧ n = 4 - a ∧ x = nI a ∧ Gs k σ s ∧ ((∃ f, f ≤ T.length ∧ V = .inl f ∧ s 10 0 4 = nI f) ∨ ∃ p g, p ≤ T.length ∧ s 10 0 3 = nI p ∧ s 10 0 4 = -1 ∧ (∀ j, j < a + 1 → s 64 0 (320 + 5 * k + j) = g j) ∧ (∀ j, a < j → g j = -1) ∧ agN T (nAr t - a) a p g = V)
theorem m_stepS {σ : rS} {T : List Nat} {V : Nat ⊕ ((Nat → Int32) × Nat)} (h : TpM σ T) {k t n : Nat} (hk : k < 16) (ht : t < 7) {x : Int32} {s : rS} (hI : amI T σ V k t n x s) : hit (fX10_readStep_L47 (nI (320 + 5 * k)) (nI t) x s) (fun q s => match q with
      | .inl y => ∃ m, m < n ∧ amI T σ V k t m y s
      | .inr r => amP T V k r s ∧ Gs k σ s) := by
  have h3 := h.2.2.1
  obtain ⟨a, ha, rfl, rfl, hF, hD⟩ := hI
  obtain ⟨i3, i4⟩ := nAr_it t ht
  unfold fX10_readStep_L47
  by_cases c4 : a < 4
  · rw [if_pos (show nI a < 4 by rw [pn_lt4 (by omega)]; exact c4)]
    have er : nI (320 + 5 * k) + 1 + nI a = nI (320 + 5 * k + (a + 1)) := by rw [pn_add1, nI_add]; congr 1; omega
    have bn : ∀ {β : Type} (x : Option β), bnd (nI (320 + 5 * k + (a + 1))) 400 x = x := fun x => pn_bnd (by omega) (by omega)
    rw [er, bn, ix_nI (by omega), st_eq, m_nAr ht, bd_some]
    have F1 : Gs k σ (wr s 64 0 (320 + 5 * k + (a + 1)) (-1)) := hF.w64 (by omega)
    have w3 : wr s 64 0 (320 + 5 * k + (a + 1)) (-1) 10 = s 10 := wr_c (by decide)
    have w64 : ∀ j, ¬ j = a + 1 → wr s 64 0 (320 + 5 * k + (a + 1)) (-1) 64 0 (320 + 5 * k + j) = s 64 0 (320 + 5 * k + j) := fun j hj => wr_i (by omega)
    have w64' : wr s 64 0 (320 + 5 * k + (a + 1)) (-1) 64 0 (320 + 5 * k + (a + 1)) = -1 := wr_same _ _ _ _ _
    generalize wr s 64 0 (320 + 5 * k + (a + 1)) (-1) = u at F1 w3 w64 w64'
    have cn : (nI a < nI (nAr t)) = (a < nAr t) := pn_lt (by omega) (by omega)
    have num : ∀ (s1 : rS) (p1 : Nat) (g : Nat → Int32), p1 ≤ T.length → TpM s1 T → s1 10 0 3 = nI p1 → s1 10 0 4 = -1 → (∀ j, j < a + 1 → s1 64 0 (320 + 5 * k + j) = g j) → (∀ j, a < j → g j = -1) → Gs k σ s1 → a < nAr t → (match nuM T p1 with
        | .inl f => .inl f
        | .inr q => agN T (nAr t - (a + 1)) (a + 1) q.2 (upd g (a + 1) (nI q.1))) = V → hit (fX10_readStep_j119L47 (nI (320 + 5 * k)) (nI t) (nI a) s1) (fun q s => match q with
      | .inl y => ∃ m, m < 4 - a ∧ amI T σ V k t m y s
      | .inr r => amP T V k r s ∧ Gs k σ s) := fun s1 p1 g hp1 t1 z3 z4 zg zn F hlt hV => by
      unfold fX10_readStep_j119L47 fX10_readStep_j134L47
      refine bd_hit (hit_mono (m_number t1 hp1 z3 z4) ?_)
      rintro r2 s2 ⟨k2, o2⟩
      rw [er, bn, ix_nI (by omega), st_eq, pn_add1]
      have F2 : Gs k σ (wr s2 64 0 (320 + 5 * k + (a + 1)) r2) := (F.o34 o2).w64 (by omega)
      cases eN : nuM T p1 with
      | inl f =>
        rw [eN] at hV k2
        have k2 : s2 10 0 4 = nI f := k2
        exact hit_some ⟨4 - (a + 1), by omega, a + 1, by omega, rfl, rfl, F2, Or.inl ⟨f, nuM_l hp1 eN, hV.symm, by rw [wr_c (by decide)]; exact k2⟩⟩
      | inr q =>
        have hq := nuM_r hp1 eN
        obtain ⟨v, q⟩ := q
        rw [eN] at hV k2
        have k2 : r2 = nI v ∧ s2 10 0 3 = nI q ∧ s2 10 0 4 = -1 := k2
        obtain ⟨rfl, k3, k4⟩ := k2
        refine hit_some ⟨4 - (a + 1), by omega, a + 1, by omega, rfl, rfl, F2, Or.inr ⟨q, upd g (a + 1) (nI v), hq.2.2, by rw [wr_c (by decide)]; exact k3, by rw [wr_c (by decide)]; exact k4, fun j hj => ?_, fun j hj => ?_, hV⟩⟩
        · unfold upd
          by_cases z : j = a + 1
          · subst z; rw [if_pos rfl]; exact wr_same _ _ _ _ _
          · rw [if_neg z, wr_i (by omega), o2.1 64 (by decide)]; exact zg j (by omega)
        · unfold upd
          rw [if_neg (by omega)]
          exact zn j (by omega)
    rcases hD with ⟨f, hf, hV, h4⟩ | ⟨p, g, hp, e3, e4, hg, hn1, hV⟩
    · have h4u : ¬ u 10 0 4 = -1 := by rw [w3, h4, pn_m1 (by omega)]; exact id
      have fin : hit (fX10_readStep_j134L47 (nI (320 + 5 * k)) (nI t) (nI a) u) (fun q s => match q with
      | .inl y => ∃ m, m < 4 - a ∧ amI T σ V k t m y s
      | .inr r => amP T V k r s ∧ Gs k σ s) := by
        unfold fX10_readStep_j134L47
        rw [pn_add1]
        exact hit_some ⟨4 - (a + 1), by omega, a + 1, by omega, rfl, rfl, F1, Or.inl ⟨f, hf, hV, by rw [w3]; exact h4⟩⟩
      by_cases cc : a < nAr t
      · rw [if_pos (show nI a < nI (nAr t) by rw [cn]; exact cc), if_neg h4u]
        exact fin
      · rw [if_neg (show ¬ nI a < nI (nAr t) by rw [cn]; exact cc)]
        exact fin
    · have e3u : u 10 0 3 = nI p := by rw [w3]; exact e3
      have e4u : u 10 0 4 = -1 := by rw [w3]; exact e4
      have hgu : ∀ j, j < a + 1 → u 64 0 (320 + 5 * k + j) = g j := fun j hj => by rw [w64 j (by omega)]; exact hg j hj
      have tu : TpM u T := F1.tp h
      by_cases cc : a < nAr t
      · rw [if_pos (show nI a < nI (nAr t) by rw [cn]; exact cc), if_pos e4u]
        rw [show nAr t - a = nAr t - (a + 1) + 1 by omega] at hV
        have hV : (match cmV T a p with
          | .inl f => .inl f
          | .inr p1 => match nuM T p1 with
            | .inl f => .inl f
            | .inr q => agN T (nAr t - (a + 1)) (a + 1) q.2 (upd g (a + 1) (nI q.1))) = V := hV
        have c0 : ((0 : Int32) < nI a) = (0 < a) := pn_lt (a := 0) (by omega) (by omega)
        unfold fX10_readStep_j104L47
        by_cases z : a = 0
        · rw [if_neg (show ¬ (0 : Int32) < nI a by rw [c0]; omega), if_neg (show ¬ (0 : Int32) < nI a by rw [c0]; omega)]
          rw [show cmV T a p = .inr p by unfold cmV; rw [if_pos z]] at hV
          exact num u p g hp tu e3u e4u hgu hn1 F1 cc hV
        · rw [if_pos (show (0 : Int32) < nI a by rw [c0]; omega)]
          refine bd_hit (hit_mono (m_look tu hp e3u) ?_)
          rintro r1 s1 ⟨rfl, e1, o1⟩
          have c44 : (btM T (sk T p) = 44) = (btC T (sk T p) = 44) := btM_c (c := 44) h.2.2.2 (by decide) (by decide)
          have F2 := F1.o34 o1.o
          have e41 : s1 10 0 4 = -1 := by rw [o1.2 4 (by decide)]; exact e4u
          by_cases d : btC T (sk T p) = 44
          · have eC : cmV T a p = .inr (sk T p + 1) := by unfold cmV; rw [if_neg z, if_pos d]
            rw [eC] at hV
            rw [if_pos (show btM T (sk T p) = 44 by rw [c44]; exact d), if_pos (show (0 : Int32) < nI a by rw [c0]; omega), st_eq, e1, pn_add1]
            have F3 := F2.o34 (Of3_wr (v := nI (sk T p + 1))).o
            exact num _ (sk T p + 1) g (cmV_r h.2.2.2 hp eC) (F3.tp h) (wr_same _ _ _ _ _) (by rw [wr_i (by decide)]; exact e41) (fun j hj => by rw [wr_c (by decide), o1.1 64 (by decide)]; exact hgu j hj) hn1 F3 cc hV
          · have eC : cmV T a p = .inl (sk T p) := by unfold cmV; rw [if_neg z, if_neg d]
            rw [eC] at hV
            rw [if_neg (show ¬ btM T (sk T p) = 44 by rw [c44]; exact d)]
            exact hit_some ⟨⟨sk T p, hV.symm, e1, e41⟩, F2⟩
      · rw [if_neg (show ¬ nI a < nI (nAr t) by rw [cn]; exact cc)]
        unfold fX10_readStep_j134L47
        rw [pn_add1]
        rw [show nAr t - a = nAr t - (a + 1) by omega] at hV
        have hV2 : agN T (nAr t - (a + 1)) (a + 1) p g = V := by
          rw [show nAr t - (a + 1) = 0 by omega] at hV ⊢
          exact hV
        refine hit_some ⟨4 - (a + 1), by omega, a + 1, by omega, rfl, rfl, F1, Or.inr ⟨p, g, hp, e3u, e4u, fun j hj => ?_, fun j hj => hn1 j (by omega), hV2⟩⟩
        by_cases z : j = a + 1
        · subst z; rw [w64', hn1 _ (by omega)]
        · exact hgu j (by omega)
  · rw [if_neg (show ¬ nI a < 4 by rw [pn_lt4 (by omega)]; exact c4)]
    rcases hD with ⟨f, hf, hV, h4⟩ | ⟨p, g, hp, e3, e4, hg, hn1, hV⟩
    · exact hit_some ⟨Or.inl ⟨f, hV, h4⟩, hF⟩
    · rw [show nAr t - a = 0 by omega] at hV
      exact hit_some ⟨Or.inr ⟨g, p, hV.symm, e3, e4, fun j hj => hg j (by omega)⟩, hF⟩
def stM (V : Nat ⊕ ((Nat → Int32) × Nat)) (k : Nat) (s : rS) : Prop := match V with
  | .inl f => s 10 0 4 = nI f
  | .inr q => s 10 0 4 = -1 ∧ s 10 0 3 = nI q.2 ∧ ∀ j, j < 5 → s 64 0 (320 + 5 * k + j) = q.1 j
theorem m_rstep {σ : rS} {T : List Nat} {p k : Nat} (h : TpM σ T) (hp : p ≤ T.length) (e3 : σ 10 0 3 = nI p) (e4 : σ 10 0 4 = -1) (hk : k < 16) : hit (fX10_readStep (nI k) σ) (fun _ s => stM (sttV T p) k s ∧ Gs k σ s) := by
  have h3 := h.2.2.1
  have hs := sk_le hp
  have F0 : Gs k σ σ := ⟨fun _ _ _ => rfl, fun _ _ _ => rfl, fun _ _ => rfl⟩
  have er : (5 : Int32) * (64 + nI k) = nI (320 + 5 * k) := by
    rw [show (64 : Int32) = nI 64 from rfl, nI_add, show (5 : Int32) * nI (64 + k) = nI (5 * (64 + k)) from (Int32.ofNat_mul 5 (64 + k)).symm]
    congr 1
    omega
  unfold fX10_readStep
  rw [rd_eq, er]
  refine bd_hit (hit_mono (m_look h hp e3) ?_)
  rintro r1 s1 ⟨rfl, e1, o1⟩
  have F1 := F0.o34 o1.o
  have e41 : s1 10 0 4 = -1 := by rw [o1.2 4 (by decide)]; exact e4
  rw [m_letter (by decide), bd_some, ltr_M (by decide)]
  unfold sttV
  cases eL : ltA 1 T (sk T p) with
  | none =>
    rw [enc_none, if_pos rfl, m_fails e41 e1, bd_some]
    exact hit_some ⟨wr_same _ _ _ _ _, F1.o34 O34_4⟩
  | some t =>
    have ht : t < 7 := ltA_lt eL
    have hlt : sk T p < T.length := by
      have := mt (btC_0 h.2.2.2).mpr (fun z => by rw [ltA_end (by decide) z] at eL; cases eL)
      omega
    rw [enc_some, if_neg (show ¬ nI t = -1 by rw [pn_m1 (by omega)]; exact id), st_eq, pn_bnd (by omega) (by omega), ix_nI (by omega), st_eq, e1, pn_add1]
    have F2 : Gs k σ (wr (wr s1 10 0 3 (nI (sk T p + 1))) 64 0 (320 + 5 * k) (nI t)) := (F1.o34 (Of3_wr).o).w64 (by omega)
    have e32 : wr (wr s1 10 0 3 (nI (sk T p + 1))) 64 0 (320 + 5 * k) (nI t) 10 0 3 = nI (sk T p + 1) := by rw [wr_c (by decide)]; exact wr_same _ _ _ _ _
    have e42 : wr (wr s1 10 0 3 (nI (sk T p + 1))) 64 0 (320 + 5 * k) (nI t) 10 0 4 = -1 := by rw [wr_c (by decide), wr_i (by decide)]; exact e41
    have g2 : wr (wr s1 10 0 3 (nI (sk T p + 1))) 64 0 (320 + 5 * k) (nI t) 64 0 (320 + 5 * k) = nI t := wr_same _ _ _ _ _
    generalize wr (wr s1 10 0 3 (nI (sk T p + 1))) 64 0 (320 + 5 * k) (nI t) = u at F2 e32 e42 g2
    show hit _ (fun _ s => stM (agN T (nAr t) 0 (sk T p + 1) (stw t)) k s ∧ Gs k σ s)
    generalize hV : agN T (nAr t) 0 (sk T p + 1) (stw t) = V
    refine bd_hit (hit_mono (lp_go (I := amI T σ V k t) (P := fun r s => amP T V k r s ∧ Gs k σ s) (fun n x s hI => hit_mono (m_stepS h hk ht hI) (fun q s hq => by cases q <;> exact hq)) fu 4 0 u (fu_lt (by omega)) ⟨0, by omega, rfl, rfl, F2, Or.inr ⟨sk T p + 1, stw t, by omega, e32, e42, fun j hj => by rw [show j = 0 by omega]; exact g2, fun j hj => by unfold stw; rw [if_neg (by omega)], hV⟩⟩) ?_)
    rintro e s ⟨hE, hF⟩
    rcases e with u | u
    · obtain ⟨f, v1, v2, v3⟩ := hE
      show hit (bd (fX10_fails s) _) _
      rw [m_fails v3 v2, bd_some, v1]
      exact hit_some ⟨wr_same _ _ _ _ _, hF.o34 O34_4⟩
    · rcases hE with ⟨f, v1, v2⟩ | ⟨g, q, v1, v2, v3, v4⟩
      · rw [v1]
        exact hit_some ⟨v2, hF⟩
      · rw [v1]
        exact hit_some ⟨⟨v3, v2, v4⟩, hF⟩
