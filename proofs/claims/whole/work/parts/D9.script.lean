/-! a script's text as a value; both read it -/
def wrS (G : Nat → Int32) (k : Nat) (g : Nat → Int32) : Nat → Int32 := fun x => if x < 5 * k then G x else g (x - 5 * k)
def scN (T : List Nat) : Nat → Nat → (Nat → Int32) → Nat → Nat ⊕ (Nat × (Nat → Int32))
  | 0, _, _, p => .inl (p - 1)
  | n + 1, k, G, p => match sttV T p with
    | .inl f => .inl f
    | .inr q => if btC T (sk T q.2) = 0 then .inr (k + 1, wrS G k q.1) else if btC T (sk T q.2) = 59 then scN T n (k + 1) (wrS G k q.1) (sk T q.2 + 1) else .inl (sk T q.2)
def scV (T : List Nat) : Nat ⊕ (Nat × (Nat → Int32)) := scN T 16 0 (fun _ => 0) 0
def scG (T : List Nat) (V : Nat ⊕ (Nat × (Nat → Int32))) : Prop := match V with
  | .inl f => f ≤ T.length
  | .inr q => InvC q
theorem wrS_row {G g : Nat → Int32} {k : Nat} (hG : ∀ i, i < k → ∃ t, t ≤ 6 ∧ G (5 * i) = nI t) (hg : ∃ t, t ≤ 6 ∧ g 0 = nI t) : ∀ i, i < k + 1 → ∃ t, t ≤ 6 ∧ wrS G k g (5 * i) = nI t := fun i hi => by
  unfold wrS
  by_cases z : i < k
  · rw [if_pos (by omega)]; exact hG i z
  · rw [if_neg (by omega), show 5 * i - 5 * k = 0 by omega]; exact hg
theorem scN_ok {T : List Nat} (hT : ∀ x ∈ T, 1 ≤ x ∧ x ≤ 255) : ∀ (n k : Nat) (G : Nat → Int32) (p : Nat), n + k ≤ 16 → p ≤ T.length → (∀ i, i < k → ∃ t, t ≤ 6 ∧ G (5 * i) = nI t) → scG T (scN T n k G p)
  | 0, k, G, p, hk, hp, hG => by show p - 1 ≤ T.length; omega
  | n + 1, k, G, p, hk, hp, hG => by
    have hst := sttV_ok hT hp
    unfold scN
    cases e : sttV T p with
    | inl f => rw [e] at hst; exact hst
    | inr q =>
      rw [e] at hst
      obtain ⟨h1, h2⟩ := hst
      have hs := sk_le h1
      show scG T (if btC T (sk T q.2) = 0 then .inr (k + 1, wrS G k q.1) else if btC T (sk T q.2) = 59 then scN T n (k + 1) (wrS G k q.1) (sk T q.2 + 1) else .inl (sk T q.2))
      have hr := wrS_row hG h2
      by_cases c : btC T (sk T q.2) = 0
      · rw [if_pos c]
        exact ⟨by show 1 ≤ k + 1; omega, by show k + 1 ≤ 16; omega, hr⟩
      · rw [if_neg c]
        have hlt : sk T q.2 < T.length := by
          have := mt (btC_0 hT).mpr c
          omega
        by_cases d : btC T (sk T q.2) = 59
        · rw [if_pos d]
          exact scN_ok hT n (k + 1) _ _ (by omega) (by omega) hr
        · rw [if_neg d]; exact hs.2
theorem scV_ok {T : List Nat} (hT : ∀ x ∈ T, 1 ≤ x ∧ x ≤ 255) : scG T (scV T) := scN_ok hT 16 0 _ 0 (by omega) (Nat.zero_le _) (fun i hi => absurd hi (Nat.not_lt_zero _))
theorem scN_eq {T : List Nat} {n k p : Nat} {G : Nat → Int32} : scN T (n + 1) k G p = match sttV T p with
    | .inl f => .inl f
    | .inr q => if btC T (sk T q.2) = 0 then .inr (k + 1, wrS G k q.1) else if btC T (sk T q.2) = 59 then scN T n (k + 1) (wrS G k q.1) (sk T q.2 + 1) else .inl (sk T q.2) := rfl
def Fz (σ s : rS) : Prop := ∀ c, ¬ c = 6 → ¬ c = 27 → s c = σ c
def scC (V : Nat ⊕ (Nat × (Nat → Int32))) (r : Int32) (s : rS) : Prop := match V with
  | .inl f => r = nI f
  | .inr q => r = -1 ∧ s 6 0 3 = nI q.1 ∧ ∀ i, i < 5 * q.1 → s 27 0 i = q.2 i
def scE (V : Nat ⊕ (Nat × (Nat → Int32))) (e : Unit ⊕ (Unit ⊕ (Unit ⊕ Unit))) (s : rS) : Prop := match e with
  | .inl _ => ∃ f, V = .inl f ∧ s 6 0 5 = nI f
  | .inr (.inl _) => ∃ q, V = .inr q ∧ s 6 0 3 = nI q.1 ∧ ∀ i, i < 5 * q.1 → s 27 0 i = q.2 i
  | .inr (.inr (.inl _)) => ∃ f, V = .inl f ∧ s 6 0 4 = nI f
  | .inr (.inr (.inr _)) => ∃ f, V = .inl f ∧ s 6 0 4 = nI (f + 1)
def scI (T : List Nat) (σ : rS) (V : Nat ⊕ (Nat × (Nat → Int32))) (n : Nat) (x : Int32) (s : rS) : Prop := ∃ k G p, k ≤ 16 ∧ n = 16 - k ∧ x = nI k ∧ p ≤ T.length ∧ (k = 0 ∨ 1 ≤ p) ∧ s 6 0 4 = nI p ∧ s 6 0 3 = nI k ∧ (∀ i, i < 5 * k → s 27 0 i = G i) ∧ Fz σ s ∧ scN T (16 - k) k G p = V
theorem c_scriptS {σ : rS} {T : List Nat} {V : Nat ⊕ (Nat × (Nat → Int32))} (h : TpC σ T) {n : Nat} {x : Int32} {s : rS} (hI : scI T σ V n x s) : hit (fX6_readScript_L12 x s) (fun q s => match q with
      | .inl y => ∃ m, m < n ∧ scI T σ V m y s
      | .inr r => scE V r s ∧ Fz σ s) := by
  have h3 := h.2.2.1
  obtain ⟨k, G, p, hk, rfl, rfl, hp, hp1, e4, e3, h27, hF, hV⟩ := hI
  have c16 : (nI k < 16) = (k < 16) := pn_lt (b := 16) (by omega) (by omega)
  unfold fX6_readScript_L12
  by_cases c : k < 16
  · rw [if_pos (show nI k < 16 by rw [c16]; exact c)]
    rw [show 16 - k = 16 - (k + 1) + 1 by omega, scN_eq] at hV
    have tS : TpC s T := h.fr (hF 8 (by decide) (by decide)) (hF 25 (by decide) (by decide))
    refine bd_hit (hit_mono (c_rstep tS hp e4 c) ?_)
    rintro r1 s1 ⟨k1, o1⟩
    have F1 : Fz σ s1 := fun c h6 h27 => (o1.1 c h6 h27).trans (hF c h6 h27)
    have hst := sttV_ok h.2.2.2 hp
    cases eS : sttV T p with
    | inl f =>
      rw [eS] at hV k1
      have k1 : r1 = 0 ∧ s1 6 0 5 = nI f := k1
      rw [if_pos k1.1]
      exact hit_some ⟨⟨f, hV.symm, k1.2⟩, F1⟩
    | inr q =>
      rw [eS] at hV k1 hst
      obtain ⟨q1, -⟩ := hst
      have hV : (if btC T (sk T q.2) = 0 then .inr (k + 1, wrS G k q.1) else if btC T (sk T q.2) = 59 then scN T (16 - (k + 1)) (k + 1) (wrS G k q.1) (sk T q.2 + 1) else .inl (sk T q.2)) = V := hV
      have hsq := sk_le q1
      obtain ⟨rfl, k2, k3⟩ : r1 = 1 ∧ s1 6 0 4 = nI q.2 ∧ ∀ j, j < 5 → s1 27 0 (5 * k + j) = q.1 j := k1
      have e31 : s1 6 0 3 = nI k := by rw [o1.2.1 3 (by decide) (by decide)]; exact e3
      rw [if_neg (show ¬ (1 : Int32) = 0 by decide), st_eq, e31, pn_add1]
      have F2 : Fz σ (wr s1 6 0 3 (nI (k + 1))) := fun c h6 h27 => by rw [wr_c h6]; exact F1 c h6 h27
      have t2 : TpC (wr s1 6 0 3 (nI (k + 1))) T := h.fr (F2 8 (by decide) (by decide)) (F2 25 (by decide) (by decide))
      refine bd_hit (hit_mono (c_sign t2 q1 (by rw [wr_i (by decide)]; exact k2)) ?_)
      rintro r3 s3 ⟨rfl, z4, o3⟩
      have hb := btC_le h.2.2.2 (sk T q.2)
      have F3 : Fz σ s3 := fun c h6 h27 => (o3.1 c h6).trans (F2 c h6 h27)
      have z3 : s3 6 0 3 = nI (k + 1) := by rw [o3.2 3 (by decide)]; exact wr_same _ _ _ _ _
      have z27 : ∀ i, i < 5 * (k + 1) → s3 27 0 i = wrS G k q.1 i := fun i hi => by
        rw [o3.1 27 (by decide), wr_c (by decide)]
        unfold wrS
        by_cases z : i < 5 * k
        · rw [if_pos z, o1.2.2 i z]; exact h27 i z
        · rw [if_neg z]
          have := k3 (i - 5 * k) (by omega)
          rw [show 5 * k + (i - 5 * k) = i by omega] at this
          exact this
      have c0 : (nI (btC T (sk T q.2)) = 0) = (btC T (sk T q.2) = 0) := pn_eq0 (by omega)
      have c59 : (nI (btC T (sk T q.2)) = 59) = (btC T (sk T q.2) = 59) := pn_eq (b := 59) (by omega) (by omega)
      by_cases a : btC T (sk T q.2) = 0
      · rw [if_pos a] at hV
        rw [if_pos (show nI (btC T (sk T q.2)) = 0 by rw [c0]; exact a)]
        exact hit_some ⟨⟨(k + 1, wrS G k q.1), hV.symm, z3, z27⟩, F3⟩
      · rw [if_neg a] at hV
        rw [if_neg (show ¬ nI (btC T (sk T q.2)) = 0 by rw [c0]; exact a)]
        have hlt : sk T q.2 < T.length := by
          have := mt (btC_0 h.2.2.2).mpr a
          omega
        by_cases b : btC T (sk T q.2) = 59
        · rw [if_pos b] at hV
          rw [if_pos (show nI (btC T (sk T q.2)) = 59 by rw [c59]; exact b), st_eq, z4, pn_add1]
          exact hit_some ⟨16 - (k + 1), by omega, k + 1, wrS G k q.1, sk T q.2 + 1, by omega, rfl, rfl, by omega, Or.inr (by omega), wr_same _ _ _ _ _, by rw [wr_i (by decide)]; exact z3, fun i hi => by rw [wr_c (by decide)]; exact z27 i hi, fun c h6 h27 => by rw [wr_c h6]; exact F3 c h6 h27, hV⟩
        · rw [if_neg b] at hV
          rw [if_neg (show ¬ nI (btC T (sk T q.2)) = 59 by rw [c59]; exact b)]
          exact hit_some ⟨⟨sk T q.2, hV.symm, z4⟩, F3⟩
  · rw [if_neg (show ¬ nI k < 16 by rw [c16]; exact c)]
    rw [show 16 - k = 0 by omega] at hV
    exact hit_some ⟨⟨p - 1, hV.symm, by rw [e4, show p - 1 + 1 = p by omega]⟩, hF⟩
theorem c_readScript {σ : rS} {T : List Nat} (h : TpC σ T) : hit (fX6_readScript σ) (fun r s => scC (scV T) r s ∧ Fz σ s) := by
  unfold fX6_readScript
  rw [st_eq, st_eq]
  have F0 : Fz σ (wr (wr σ 6 0 4 0) 6 0 3 0) := fun c h6 h27 => by rw [wr_c h6, wr_c h6]
  refine bd_hit (hit_mono (lp_go (I := scI T σ (scV T)) (P := fun r s => scE (scV T) r s ∧ Fz σ s) (fun n x s hI => hit_mono (c_scriptS h hI) (fun q s hq => by cases q <;> exact hq)) fu 16 0 _ (fu_lt (by omega)) ⟨0, fun _ => 0, 0, by omega, rfl, rfl, Nat.zero_le _, Or.inl rfl, by rw [wr_i (by decide), wr_same]; rfl, wr_same _ _ _ _ _, fun i hi => absurd hi (by omega), F0, rfl⟩) ?_)
  rintro e s ⟨hE, hF⟩
  rcases e with u | u | u | u
  · obtain ⟨f, v1, v2⟩ := hE
    rw [v1]
    exact hit_some ⟨v2, hF⟩
  · obtain ⟨q, v1, v2⟩ := hE
    rw [v1]
    exact hit_some ⟨⟨rfl, v2⟩, hF⟩
  · obtain ⟨f, v1, v2⟩ := hE
    rw [v1]
    exact hit_some ⟨v2, hF⟩
  · obtain ⟨f, v1, v2⟩ := hE
    rw [v1]
    refine hit_some ⟨?_, hF⟩
    show s 6 0 4 - 1 = nI f
    rw [v2, pn_sub1 (by omega), Nat.add_sub_cancel]
/-! the model's -/
def Gz (σ s : rS) : Prop := (∀ c, ¬ c = 10 → ¬ c = 64 → ¬ c = 65 → s c = σ c) ∧ (∀ i, ¬ i = 3 → ¬ i = 4 → s 10 0 i = σ 10 0 i) ∧ (∀ x, x < 320 → s 64 0 x = σ 64 0 x) ∧ ∀ x, x < 4 → s 65 0 x = σ 65 0 x
theorem Gz.tp {σ s : rS} {T : List Nat} (h : TpM σ T) (g : Gz σ s) : TpM s T := h.fr (g.2.1 2 (by decide) (by decide)) (g.1 60 (by decide) (by decide) (by decide))
theorem Gz.o34 {σ s u : rS} (g : Gz σ s) (o : O34 s u) : Gz σ u := ⟨fun c h1 h2 h3 => (o.1 c h1).trans (g.1 c h1 h2 h3), fun i h1 h2 => (o.2 i h1 h2).trans (g.2.1 i h1 h2), fun x hx => by rw [o.1 64 (by decide)]; exact g.2.2.1 x hx, fun x hx => by rw [o.1 65 (by decide)]; exact g.2.2.2 x hx⟩
theorem Gz.gs {k : Nat} {σ s u : rS} (g : Gz σ s) (o : Gs k s u) : Gz σ u := ⟨fun c h1 h2 h3 => (o.1 c h1 h2).trans (g.1 c h1 h2 h3), fun i h1 h2 => (o.2.1 i h1 h2).trans (g.2.1 i h1 h2), fun x hx => by rw [o.2.2 x (by omega)]; exact g.2.2.1 x hx, fun x hx => by rw [o.1 65 (by decide) (by decide)]; exact g.2.2.2 x hx⟩
def scM (V : Nat ⊕ (Nat × (Nat → Int32))) (s : rS) : Prop := match V with
  | .inl f => s 10 0 4 = nI f
  | .inr q => s 10 0 4 = -1 ∧ s 65 0 4 = nI q.1 ∧ ∀ i, i < 5 * q.1 → s 64 0 (320 + i) = q.2 i
def smE (T : List Nat) (V : Nat ⊕ (Nat × (Nat → Int32))) (e : Unit ⊕ (Unit ⊕ Int32)) (s : rS) : Prop := match e with
  | .inl _ => ∃ f, V = .inl f ∧ s 10 0 4 = nI f
  | .inr (.inl _) => ∃ f, V = .inl f ∧ s 10 0 3 = nI f ∧ s 10 0 4 = -1
  | .inr (.inr x) => ∃ k G p, x = nI k ∧ p ≤ T.length ∧ sk T p = p ∧ s 10 0 3 = nI p ∧ s 10 0 4 = -1 ∧ (∀ i, i < 5 * k → s 64 0 (320 + i) = G i) ∧ V = if btC T p = 0 then .inr (k, G) else .inl p
def smI (T : List Nat) (σ : rS) (V : Nat ⊕ (Nat × (Nat → Int32))) (n : Nat) (x : Int32 × Int32) (s : rS) : Prop := ∃ k G p, k ≤ 16 ∧ x.1 = nI k ∧ p ≤ T.length ∧ s 10 0 3 = nI p ∧ s 10 0 4 = -1 ∧ (∀ i, i < 5 * k → s 64 0 (320 + i) = G i) ∧ Gz σ s ∧ ((k < 16 ∧ n = 17 - k ∧ x.2 = 1 ∧ scN T (16 - k) k G p = V) ∨ (n = 0 ∧ x.2 = 0 ∧ sk T p = p ∧ V = if btC T p = 0 then .inr (k, G) else .inl p))
theorem m_scriptS {σ : rS} {T : List Nat} {V : Nat ⊕ (Nat × (Nat → Int32))} (h : TpM σ T) {n : Nat} {x : Int32 × Int32} {s : rS} (hI : smI T σ V n x s) : hit (fX10_readScript_L4 x.1 x.2 s) (fun q s => match q with
      | .inl y => ∃ m, m < n ∧ smI T σ V m y s
      | .inr r => smE T V r s ∧ Gz σ s) := by
  have h3 := h.2.2.1
  obtain ⟨k, G, p, hk, ex, hp, e3, e4, h64, hF, hD⟩ := hI
  unfold fX10_readScript_L4
  rcases hD with ⟨hlt, rfl, e2, hV⟩ | ⟨rfl, e2, hsp, hV⟩
  · rw [ex, e2, if_neg (show ¬ (1 : Int32) = 0 by decide)]
    rw [show 16 - k = 16 - (k + 1) + 1 by omega, scN_eq] at hV
    refine bd_hit (hit_mono (m_rstep (hF.tp h) hp e3 e4 hlt) ?_)
    rintro r1 s1 ⟨k1, o1⟩
    have F1 := hF.gs o1
    have hst := sttV_ok h.2.2.2 hp
    cases eS : sttV T p with
    | inl f =>
      rw [eS] at hV k1 hst
      have k1 : s1 10 0 4 = nI f := k1
      have hf : f ≤ T.length := hst
      rw [if_neg (show ¬ s1 10 0 4 = -1 by rw [k1, pn_m1 (by omega)]; exact id)]
      exact hit_some ⟨⟨f, hV.symm, k1⟩, F1⟩
    | inr q =>
      rw [eS] at hV k1 hst
      obtain ⟨q1, -⟩ := hst
      have hV : (if btC T (sk T q.2) = 0 then .inr (k + 1, wrS G k q.1) else if btC T (sk T q.2) = 59 then scN T (16 - (k + 1)) (k + 1) (wrS G k q.1) (sk T q.2 + 1) else .inl (sk T q.2)) = V := hV
      have hsq := sk_le q1
      obtain ⟨k4, k2, k3⟩ : s1 10 0 4 = -1 ∧ s1 10 0 3 = nI q.2 ∧ ∀ j, j < 5 → s1 64 0 (320 + 5 * k + j) = q.1 j := k1
      rw [if_pos k4]
      refine bd_hit (hit_mono (m_look (F1.tp h) q1 k2) ?_)
      rintro r3 s3 ⟨rfl, z3, o3⟩
      have F3 := F1.o34 o3.o
      have z4 : s3 10 0 4 = -1 := by rw [o3.2 4 (by decide)]; exact k4
      have z64 : ∀ i, i < 5 * (k + 1) → s3 64 0 (320 + i) = wrS G k q.1 i := fun i hi => by
        rw [o3.1 64 (by decide)]
        unfold wrS
        by_cases z : i < 5 * k
        · rw [if_pos z, o1.2.2 (320 + i) (by omega)]; exact h64 i z
        · rw [if_neg z]
          have := k3 (i - 5 * k) (by omega)
          rw [show 320 + 5 * k + (i - 5 * k) = 320 + i by omega] at this
          exact this
      have c59 : (btM T (sk T q.2) = 59) = (btC T (sk T q.2) = 59) := btM_c (c := 59) h.2.2.2 (by decide) (by decide)
      rw [pn_add1]
      unfold fX10_readScript_j39L4 fX10_readScript_j55L4
      by_cases b : btC T (sk T q.2) = 59
      · have hltq : sk T q.2 < T.length := by
          have := mt (btC_0 h.2.2.2).mpr (by omega : ¬ btC T (sk T q.2) = 0)
          omega
        rw [if_neg (by omega), if_pos b] at hV
        rw [if_pos (show btM T (sk T q.2) = 59 by rw [c59]; exact b), if_neg (show ¬ (1 : Int32) = 0 by decide)]
        have c16 : (nI (k + 1) = 16) = (k + 1 = 16) := pn_eq (b := 16) (by omega) (by omega)
        by_cases f : k + 1 = 16
        · rw [if_pos (show nI (k + 1) = 16 by rw [c16]; exact f)]
          rw [show 16 - (k + 1) = 0 by omega] at hV
          have hV : (.inl (sk T q.2 + 1 - 1) : Nat ⊕ (Nat × (Nat → Int32))) = V := hV
          exact hit_some ⟨⟨sk T q.2, hV.symm, z3, z4⟩, F3⟩
        · rw [if_neg (show ¬ nI (k + 1) = 16 by rw [c16]; exact f), if_neg (show ¬ (1 : Int32) = 0 by decide), st_eq, z3, pn_add1]
          exact hit_some ⟨17 - (k + 1), by omega, k + 1, wrS G k q.1, sk T q.2 + 1, by omega, rfl, by omega, wr_same _ _ _ _ _, by rw [wr_i (by decide)]; exact z4, fun i hi => by rw [wr_c (by decide)]; exact z64 i hi, F3.o34 (Of3_wr).o, Or.inl ⟨by omega, rfl, rfl, hV⟩⟩
      · rw [if_neg (show ¬ btM T (sk T q.2) = 59 by rw [c59]; exact b), if_pos rfl, if_pos rfl]
        rw [if_neg b] at hV
        exact hit_some ⟨0, by omega, k + 1, wrS G k q.1, sk T q.2, by omega, rfl, hsq.2, z3, z4, z64, F3, Or.inr ⟨rfl, rfl, sk_idem, hV.symm⟩⟩
  · rw [ex, e2, if_pos rfl]
    exact hit_some ⟨⟨k, G, p, rfl, hp, hsp, e3, e4, h64, hV⟩, hF⟩
theorem m_readScript {σ : rS} {T : List Nat} (h : TpM σ T) (e3 : σ 10 0 3 = nI 0) (e4 : σ 10 0 4 = -1) : hit (fX10_readScript σ) (fun _ s => scM (scV T) s ∧ Gz σ s) := by
  have h3 := h.2.2.1
  have F0 : Gz σ σ := ⟨fun _ _ _ _ => rfl, fun _ _ _ => rfl, fun _ _ => rfl, fun _ _ => rfl⟩
  unfold fX10_readScript
  refine bd_hit (hit_mono (lp_go (I := smI T σ (scV T)) (P := fun r s => smE T (scV T) r s ∧ Gz σ s) (fun n x s hI => hit_mono (m_scriptS h hI) (fun q s hq => by cases q <;> exact hq)) fu 17 (0, 1) σ (fu_lt (by omega)) ⟨0, fun _ => 0, 0, by omega, rfl, Nat.zero_le _, e3, e4, fun i hi => absurd hi (by omega), F0, Or.inl ⟨by omega, rfl, rfl, rfl⟩⟩) ?_)
  rintro e s ⟨hE, hF⟩
  rcases e with u | u | x
  · obtain ⟨f, v1, v2⟩ := hE
    rw [v1]
    exact hit_some ⟨v2, hF⟩
  · obtain ⟨f, v1, v2, v3⟩ := hE
    show hit (bd (fX10_fails s) _) _
    rw [m_fails v3 v2, bd_some, v1]
    exact hit_some ⟨wr_same _ _ _ _ _, hF.o34 O34_4⟩
  · obtain ⟨k, G, p, rfl, v1, v2, v3, v4, v5, v6⟩ := hE
    show hit (st (wr s 65 0 (ix 4) (nI k)) _) _
    rw [st_eq, show ix 4 = 4 from rfl]
    have F1 : Gz σ (wr s 65 0 4 (nI k)) := ⟨fun c h1 h2 h3 => by rw [wr_c h3]; exact hF.1 c h1 h2 h3, fun i h1 h2 => by rw [wr_c (by decide)]; exact hF.2.1 i h1 h2, fun x hx => by rw [wr_c (by decide)]; exact hF.2.2.1 x hx, fun x hx => by rw [wr_i (by omega)]; exact hF.2.2.2 x hx⟩
    refine bd_hit (hit_mono (m_look (F1.tp h) v1 (by rw [wr_c (by decide)]; exact v3)) ?_)
    rintro r7 s7 ⟨rfl, e7, o7⟩
    rw [v2] at e7 ⊢
    have F7 := F1.o34 o7.o
    have e47 : s7 10 0 4 = -1 := by rw [o7.2 4 (by decide), wr_c (by decide)]; exact v4
    have cm := btM_0 (q := p) h.2.2.2
    by_cases z : btC T p = 0
    · rw [if_pos z] at v6
      rw [if_pos (show btM T p = -1 by rw [cm]; exact z), v6]
      exact hit_some ⟨⟨e47, by rw [o7.1 65 (by decide)]; exact wr_same _ _ _ _ _, fun i hi => by rw [o7.1 64 (by decide), wr_c (by decide)]; exact v5 i hi⟩, F7⟩
    · rw [if_neg z] at v6
      rw [if_neg (show ¬ btM T p = -1 by rw [cm]; exact z), m_fails e47 e7, bd_some, v6]
      exact hit_some ⟨wr_same _ _ _ _ _, F7.o34 O34_4⟩
