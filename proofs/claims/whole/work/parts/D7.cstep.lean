/-! a step's text as a value; the class reads it -/
def nAr (t : Nat) : Nat := if t = 0 then 4 else if t = 1 then 3 else if t = 2 then 3 else if t = 4 then 0 else if t = 5 then 0 else 1
/-- the place behind the comma ahead of number k -/
def cmV (T : List Nat) (k p : Nat) : Nat ⊕ Nat := if k = 0 then .inr p else if btC T (sk T p) = 44 then .inr (sk T p + 1) else .inl (sk T p)
def agN (T : List Nat) : Nat → Nat → Nat → (Nat → Int32) → Nat ⊕ ((Nat → Int32) × Nat)
  | 0, _, p, g => .inr (g, p)
  | n + 1, k, p, g => match cmV T k p with
    | .inl f => .inl f
    | .inr p1 => match nuM T p1 with
      | .inl f => .inl f
      | .inr q => agN T n (k + 1) q.2 (upd g (k + 1) (nI q.1))
def stw (t : Nat) : Nat → Int32 := fun j => if j = 0 then nI t else -1
def sttV (T : List Nat) (p : Nat) : Nat ⊕ ((Nat → Int32) × Nat) := match ltA 1 T (sk T p) with
  | none => .inl (sk T p)
  | some t => agN T (nAr t) 0 (sk T p + 1) (stw t)
theorem nAr_it : ∀ t, t < 7 → sItem 3 t = nI (nAr t) ∧ nAr t ≤ 4 := by decide
theorem cmV_l {T : List Nat} {k p f : Nat} (hp : p ≤ T.length) (h : cmV T k p = .inl f) : f ≤ T.length := by
  have := sk_le hp
  unfold cmV at h
  by_cases a : k = 0
  · rw [if_pos a] at h; cases h
  · rw [if_neg a] at h
    by_cases b : btC T (sk T p) = 44
    · rw [if_pos b] at h; cases h
    · rw [if_neg b] at h; cases h; exact this.2
theorem cmV_r {T : List Nat} (hT : ∀ x ∈ T, 1 ≤ x ∧ x ≤ 255) {k p q : Nat} (hp : p ≤ T.length) (h : cmV T k p = .inr q) : q ≤ T.length := by
  have := sk_le hp
  unfold cmV at h
  by_cases a : k = 0
  · rw [if_pos a] at h; cases h; exact hp
  · rw [if_neg a] at h
    by_cases b : btC T (sk T p) = 44
    · rw [if_pos b] at h; cases h
      have := mt (btC_0 hT).mpr (by omega : ¬ btC T (sk T p) = 0)
      omega
    · rw [if_neg b] at h; cases h
def agG (T : List Nat) (x : Int32) (V : Nat ⊕ ((Nat → Int32) × Nat)) : Prop := match V with
  | .inl f => f ≤ T.length
  | .inr q => q.2 ≤ T.length ∧ q.1 0 = x
theorem agN_ok {T : List Nat} (hT : ∀ x ∈ T, 1 ≤ x ∧ x ≤ 255) {x : Int32} : ∀ (n k p : Nat) (g : Nat → Int32), p ≤ T.length → g 0 = x → agG T x (agN T n k p g)
  | 0, k, p, g, hp, hg => ⟨hp, hg⟩
  | n + 1, k, p, g, hp, hg => by
    unfold agN
    cases e : cmV T k p with
    | inl f => exact cmV_l hp e
    | inr p1 =>
      have h1 := cmV_r hT hp e
      show agG T x (match nuM T p1 with
        | .inl f => .inl f
        | .inr q => agN T n (k + 1) q.2 (upd g (k + 1) (nI q.1)))
      cases e2 : nuM T p1 with
      | inl f => exact nuM_l h1 e2
      | inr q => exact agN_ok hT n (k + 1) q.2 _ (nuM_r h1 e2).2.2 (by unfold upd; rw [if_neg (by omega)]; exact hg)
def stG (T : List Nat) (V : Nat ⊕ ((Nat → Int32) × Nat)) : Prop := match V with
  | .inl f => f ≤ T.length
  | .inr q => q.2 ≤ T.length ∧ ∃ t, t ≤ 6 ∧ q.1 0 = nI t
theorem sttV_ok {T : List Nat} (hT : ∀ x ∈ T, 1 ≤ x ∧ x ≤ 255) {p : Nat} (hp : p ≤ T.length) : stG T (sttV T p) := by
  have hs := sk_le hp
  unfold sttV
  cases e : ltA 1 T (sk T p) with
  | none => exact hs.2
  | some t =>
    have ht : t < 7 := ltA_lt e
    have hlt : sk T p < T.length := by
      have := mt (btC_0 hT).mpr (fun z => by rw [ltA_end (by decide) z] at e; cases e)
      omega
    have := agN_ok hT (x := nI t) (nAr t) 0 (sk T p + 1) (stw t) (by omega) rfl
    show stG T (agN T (nAr t) 0 (sk T p + 1) (stw t))
    generalize agN T (nAr t) 0 (sk T p + 1) (stw t) = V at this ⊢
    cases V with
    | inl f => exact this
    | inr q => exact ⟨this.1, t, by omega, this.2⟩
/-- what a step's reading leaves -/
def Fs (k : Nat) (σ s : rS) : Prop := (∀ c, ¬ c = 6 → ¬ c = 27 → s c = σ c) ∧ (∀ i, ¬ i = 4 → ¬ i = 5 → s 6 0 i = σ 6 0 i) ∧ ∀ x, x < 5 * k → s 27 0 x = σ 27 0 x
theorem Fs.tp {k : Nat} {σ s : rS} {T : List Nat} (h : TpC σ T) (g : Fs k σ s) : TpC s T := h.fr (g.1 8 (by decide) (by decide)) (g.1 25 (by decide) (by decide))
theorem Fs.o65 {k : Nat} {σ s u : rS} (g : Fs k σ s) (o : O65 s u) : Fs k σ u := ⟨fun c h1 h2 => (o.1 c h1).trans (g.1 c h1 h2), fun i h1 h2 => (o.2 i h1 h2).trans (g.2.1 i h1 h2), fun x hx => by rw [o.1 27 (by decide)]; exact g.2.2 x hx⟩
theorem Of6.o {σ s : rS} (h : Of6 σ s) : O65 σ s := ⟨h.1, fun i h4 _ => h.2 i h4⟩
theorem O65_5 {σ : rS} {v : Int32} : O65 σ (wr σ 6 0 5 v) := ⟨fun c hc => wr_c hc, fun i _ h5 => wr_i h5⟩
theorem O65.trans {σ s u : rS} (h : O65 σ s) (o : O65 s u) : O65 σ u := ⟨fun c h1 => (o.1 c h1).trans (h.1 c h1), fun i h1 h2 => (o.2 i h1 h2).trans (h.2 i h1 h2)⟩
theorem Fs.w27 {k j : Nat} {σ s : rS} {v : Int32} (g : Fs k σ s) (hj : 5 * k ≤ j) : Fs k σ (wr s 27 0 j v) := ⟨fun c h1 h2 => by rw [wr_c h2]; exact g.1 c h1 h2, fun i h1 h2 => by rw [wr_c (by decide)]; exact g.2.1 i h1 h2, fun x hx => by rw [wr_i (by omega)]; exact g.2.2 x hx⟩
theorem c_comma {σ : rS} {T : List Nat} {p : Nat} (h : TpC σ T) (hp : p ≤ T.length) (e : σ 6 0 4 = nI p) : hit (fX6_readComma σ) (fun r s => (if btC T (sk T p) = 44 then r = 1 ∧ s 6 0 4 = nI (sk T p + 1) else r = 0 ∧ s 6 0 5 = nI (sk T p)) ∧ O65 σ s) := by
  have hb := btC_le h.2.2.2 (sk T p)
  unfold fX6_readComma
  refine bd_hit (hit_mono (c_sign h hp e) ?_)
  rintro r1 s1 ⟨rfl, e1, o1⟩
  have c44 : (nI (btC T (sk T p)) = 44) = (btC T (sk T p) = 44) := pn_eq (b := 44) (by omega) (by omega)
  by_cases c : btC T (sk T p) = 44
  · rw [if_pos (show nI (btC T (sk T p)) = 44 by rw [c44]; exact c), st_eq, e1, pn_add1]
    refine hit_some ⟨?_, (o1.trans Of6_wr).o⟩
    rw [if_pos c]
    exact ⟨rfl, wr_same _ _ _ _ _⟩
  · rw [if_neg (show ¬ nI (btC T (sk T p)) = 44 by rw [c44]; exact c), st_eq, e1]
    refine hit_some ⟨?_, o1.o.trans O65_5⟩
    rw [if_neg c]
    exact ⟨rfl, wr_same _ _ _ _ _⟩
/-- the class's reading of one number of a step -/
def agP (V : Nat ⊕ ((Nat → Int32) × Nat)) (k : Nat) (e : Unit ⊕ (Unit ⊕ Unit)) (s : rS) : Prop := match e with
  | .inl _ => ∃ f, V = .inl f ∧ s 6 0 5 = nI f
  | .inr (.inl _) => ∃ f, V = .inl f ∧ s 6 0 5 = nI f
  | .inr (.inr _) => ∃ g p, V = .inr (g, p) ∧ s 6 0 4 = nI p ∧ ∀ j, j < 5 → s 27 0 (5 * k + j) = g j
def agI (T : List Nat) (σ : rS) (V : Nat ⊕ ((Nat → Int32) × Nat)) (k t n : Nat) (x : Int32) (s : rS) : Prop := ∃ a p g, a ≤ nAr t ∧ n = nAr t - a ∧ x = nI (a + 1) ∧ p ≤ T.length ∧ s 6 0 4 = nI p ∧ (∀ j, j < 5 → s 27 0 (5 * k + j) = g j) ∧ Fs k σ s ∧ agN T (nAr t - a) a p g = V
theorem c_stepS {σ : rS} {T : List Nat} {V : Nat ⊕ ((Nat → Int32) × Nat)} (h : TpC σ T) {k t n : Nat} (hk : k < 16) (ht : t < 7) {x : Int32} {s : rS} (hI : agI T σ V k t n x s) : hit (fX6_readStep_L82 (nI t) (nI (5 * k)) x s) (fun q s => match q with
      | .inl y => ∃ m, m < n ∧ agI T σ V k t m y s
      | .inr r => agP V k r s ∧ Fs k σ s) := by
  have h3 := h.2.2.1
  obtain ⟨a, p, g, ha, rfl, rfl, hp, e4, h27, hF, hV⟩ := hI
  obtain ⟨i3, i4⟩ := nAr_it t ht
  unfold fX6_readStep_L82
  rw [pn_bnd ht (by omega), ix_nI (by omega), i3]
  have cl : (nI (nAr t) < nI (a + 1)) = (nAr t < a + 1) := pn_lt (by omega) (by omega)
  have num : ∀ (u : rS) (p1 : Nat), p1 ≤ T.length → TpC u T → u 6 0 4 = nI p1 → (∀ j, j < 5 → u 27 0 (5 * k + j) = g j) → Fs k σ u → a < nAr t → (match nuM T p1 with
        | .inl f => .inl f
        | .inr q => agN T (nAr t - (a + 1)) (a + 1) q.2 (upd g (a + 1) (nI q.1))) = V → hit (fX6_readStep_j107L82 (nI t) (nI (5 * k)) (nI (a + 1)) u) (fun q s => match q with
      | .inl y => ∃ m, m < nAr t - a ∧ agI T σ V k t m y s
      | .inr r => agP V k r s ∧ Fs k σ s) := fun u p1 hp1 tu eu gu fu' hlt hV => by
    unfold fX6_readStep_j107L82
    refine bd_hit (hit_mono (c_number (p := p1) (lo := 0) (hi := 999) tu hp1 eu (by omega) (by omega)) ?_)
    rintro r2 s2 ⟨k2, o2⟩
    rw [numV_999 hp1] at k2
    have bn : ∀ {β : Type} (x : Option β), bnd (nI (5 * k) + nI (a + 1)) 80 x = x := fun x => by rw [nI_add]; exact pn_bnd (by omega) (by omega)
    have ei : ix (nI (5 * k) + nI (a + 1)) = 5 * k + (a + 1) := by rw [nI_add]; exact ix_nI (by omega)
    rw [bn, st_eq, bn, ei, wr_same]
    have f2 : Fs k σ (wr s2 27 0 (5 * k + (a + 1)) r2) := (fu'.o65 o2).w27 (by omega)
    cases eN : nuM T p1 with
    | inl f =>
      rw [eN] at hV k2
      have k2 : r2 = -1 ∧ s2 6 0 5 = nI f := k2
      rw [if_pos k2.1]
      exact hit_some ⟨⟨f, hV.symm, by rw [wr_c (by decide)]; exact k2.2⟩, f2⟩
    | inr q =>
      have hq := nuM_r hp1 eN
      obtain ⟨v, q⟩ := q
      rw [eN] at hV k2
      have k2 : r2 = nI v ∧ s2 6 0 4 = nI q := k2
      have hv : v < 1000 := hq.1
      obtain ⟨rfl, k3⟩ := k2
      rw [if_neg (show ¬ nI v = -1 by rw [pn_m1 (by omega)]; exact id), pn_add1]
      refine hit_some ⟨nAr t - (a + 1), by omega, a + 1, q, upd g (a + 1) (nI v), by omega, rfl, rfl, hq.2.2, by rw [wr_c (by decide)]; exact k3, fun j hj => ?_, f2, hV⟩
      unfold upd
      by_cases z : j = a + 1
      · subst z; rw [if_pos rfl]; exact wr_same _ _ _ _ _
      · rw [if_neg z, wr_i (by omega), o2.1 27 (by decide)]; exact gu j hj
  by_cases c : nAr t < a + 1
  · rw [if_pos (show nI (nAr t) < nI (a + 1) by rw [cl]; exact c)]
    rw [show nAr t - a = 0 by omega] at hV
    exact hit_some ⟨⟨g, p, hV.symm, e4, h27⟩, hF⟩
  · rw [if_neg (show ¬ nI (nAr t) < nI (a + 1) by rw [cl]; exact c)]
    rw [show nAr t - a = nAr t - (a + 1) + 1 by omega] at hV
    have hV : (match cmV T a p with
      | .inl f => .inl f
      | .inr p1 => match nuM T p1 with
        | .inl f => .inl f
        | .inr q => agN T (nAr t - (a + 1)) (a + 1) q.2 (upd g (a + 1) (nI q.1))) = V := hV
    have tS : TpC s T := hF.tp h
    have c1 : ((1 : Int32) < nI (a + 1)) = (1 < a + 1) := pn_lt (a := 1) (by omega) (by omega)
    by_cases z : a = 0
    · rw [if_neg (show ¬ (1 : Int32) < nI (a + 1) by rw [c1]; omega)]
      rw [show cmV T a p = .inr p by unfold cmV; rw [if_pos z]] at hV
      exact num s p hp tS e4 h27 hF (by omega) hV
    · rw [if_pos (show (1 : Int32) < nI (a + 1) by rw [c1]; omega)]
      refine bd_hit (hit_mono (c_comma tS hp e4) ?_)
      rintro r1 s1 ⟨k1, o1⟩
      by_cases d : btC T (sk T p) = 44
      · rw [if_pos d] at k1
        have eC : cmV T a p = .inr (sk T p + 1) := by unfold cmV; rw [if_neg z, if_pos d]
        rw [eC] at hV
        rw [k1.1, if_neg (show ¬ (1 : Int32) = 0 by decide)]
        exact num s1 (sk T p + 1) (cmV_r h.2.2.2 hp eC) ((hF.o65 o1).tp h) k1.2 (fun j hj => by rw [o1.1 27 (by decide)]; exact h27 j hj) (hF.o65 o1) (by omega) hV
      · rw [if_neg d] at k1
        have eC : cmV T a p = .inl (sk T p) := by unfold cmV; rw [if_neg z, if_neg d]
        rw [eC] at hV
        rw [if_pos k1.1]
        exact hit_some ⟨⟨sk T p, hV.symm, k1.2⟩, hF.o65 o1⟩
def stC (V : Nat ⊕ ((Nat → Int32) × Nat)) (k : Nat) (r : Int32) (s : rS) : Prop := match V with
  | .inl f => r = 0 ∧ s 6 0 5 = nI f
  | .inr q => r = 1 ∧ s 6 0 4 = nI q.2 ∧ ∀ j, j < 5 → s 27 0 (5 * k + j) = q.1 j
theorem c_rstep {σ : rS} {T : List Nat} {p k : Nat} (h : TpC σ T) (hp : p ≤ T.length) (e : σ 6 0 4 = nI p) (hk : k < 16) : hit (fX6_readStep (nI k) σ) (fun r s => stC (sttV T p) k r s ∧ Fs k σ s) := by
  have h3 := h.2.2.1
  have hs := sk_le hp
  have hb := btC_le h.2.2.2 (sk T p)
  have F0 : Fs k σ σ := ⟨fun _ _ _ => rfl, fun _ _ _ => rfl, fun _ _ => rfl⟩
  unfold fX6_readStep
  refine bd_hit (hit_mono (c_sign h hp e) ?_)
  rintro r1 s1 ⟨rfl, e1, o1⟩
  have F1 := F0.o65 o1.o
  rw [c_letter (by decide) (by omega), bd_some, show ltr 1 (nI (btC T (sk T p))) = ltA 1 T (sk T p) from rfl]
  unfold sttV
  cases eL : ltA 1 T (sk T p) with
  | none =>
    rw [enc_none, if_pos (show (-1 : Int32) < 0 by decide), st_eq, e1]
    exact hit_some ⟨⟨rfl, wr_same _ _ _ _ _⟩, F1.o65 O65_5⟩
  | some t =>
    have ht : t < 7 := ltA_lt eL
    have hlt : sk T p < T.length := by
      have := mt (btC_0 h.2.2.2).mpr (fun z => by rw [ltA_end (by decide) z] at eL; cases eL)
      omega
    have e5 : nI k * 5 = nI (5 * k) := by rw [show nI k * 5 = nI (k * 5) from (Int32.ofNat_mul k 5).symm, Nat.mul_comm]
    rw [enc_some, if_neg (show ¬ nI t < 0 by rw [pn_neg (by omega)]; exact id), if_pos (show nI t < 7 by rw [show (7 : Int32) = nI 7 from rfl, pn_lt (by omega) (by omega)]; exact ht), st_eq, rd_eq, e5, pn_bnd (by omega) (by omega), st_eq, ix_nI (by omega), e1, pn_add1]
    have F2 : Fs k σ (wr (wr s1 6 0 4 (nI (sk T p + 1))) 27 0 (5 * k) (nI t)) := (F1.o65 (Of6_wr).o).w27 (by omega)
    have e42 : wr (wr s1 6 0 4 (nI (sk T p + 1))) 27 0 (5 * k) (nI t) 6 0 4 = nI (sk T p + 1) := by rw [wr_c (by decide)]; exact wr_same _ _ _ _ _
    have g2 : wr (wr s1 6 0 4 (nI (sk T p + 1))) 27 0 (5 * k) (nI t) 27 0 (5 * k) = nI t := wr_same _ _ _ _ _
    generalize wr (wr s1 6 0 4 (nI (sk T p + 1))) 27 0 (5 * k) (nI t) = u at F2 e42 g2
    have lp1 : hit (lp (fun (x : Int32) σ => fX6_readStep_L57 (nI t) (nI (5 * k)) x σ) fu 1 u) (fun _ s => Fs k σ s ∧ s 6 0 4 = nI (sk T p + 1) ∧ ∀ j, j < 5 → s 27 0 (5 * k + j) = stw t j) := by
      refine lp_go (I := fun m x s => ∃ j, 1 ≤ j ∧ j ≤ 5 ∧ m = 5 - j ∧ x = nI j ∧ Fs k σ s ∧ s 6 0 4 = nI (sk T p + 1) ∧ ∀ i, i < j → s 27 0 (5 * k + i) = stw t i) ?_ fu 4 _ u (fu_lt (by omega)) ⟨1, by omega, by omega, rfl, rfl, F2, e42, fun i hi => by rw [show i = 0 by omega]; exact g2⟩
      rintro m x s ⟨j, j1, j5, rfl, rfl, hF, he, hg⟩
      unfold fX6_readStep_L57
      have cl : (nI j < 5) = (j < 5) := pn_lt (b := 5) (by omega) (by omega)
      by_cases c : j < 5
      · rw [if_pos (show nI j < 5 by rw [cl]; exact c), nI_add, pn_bnd (by omega) (by omega), ix_nI (by omega), st_eq, pn_add1]
        refine hit_some ⟨5 - (j + 1), by omega, j + 1, by omega, by omega, rfl, rfl, hF.w27 (by omega), by rw [wr_c (by decide)]; exact he, fun i hi => ?_⟩
        by_cases z : i = j
        · subst z; rw [wr_same]; unfold stw; rw [if_neg (by omega)]
        · rw [wr_i (by omega)]; exact hg i (by omega)
      · rw [if_neg (show ¬ nI j < 5 by rw [cl]; exact c)]
        exact hit_some ⟨hF, he, fun i hi => hg i (by omega)⟩
    refine bd_hit (hit_mono lp1 ?_)
    rintro r3 s3 ⟨F3, e3, g3⟩
    show hit _ (fun r s => stC (agN T (nAr t) 0 (sk T p + 1) (stw t)) k r s ∧ Fs k σ s)
    generalize hV : agN T (nAr t) 0 (sk T p + 1) (stw t) = V
    refine bd_hit (hit_mono (lp_go (I := agI T σ V k t) (P := fun r s => agP V k r s ∧ Fs k σ s) (fun n x s hI => hit_mono (c_stepS h hk ht hI) (fun q s hq => by cases q <;> exact hq)) fu (nAr t) 1 s3 (fu_lt (by have := (nAr_it t ht).2; omega)) ⟨0, sk T p + 1, stw t, Nat.zero_le _, rfl, rfl, by omega, e3, g3, F3, hV⟩) ?_)
    rintro e s ⟨hE, hF⟩
    rcases e with u | u | u
    · obtain ⟨f, v1, v2⟩ := hE
      rw [v1]
      exact hit_some ⟨⟨rfl, v2⟩, hF⟩
    · obtain ⟨f, v1, v2⟩ := hE
      rw [v1]
      exact hit_some ⟨⟨rfl, v2⟩, hF⟩
    · obtain ⟨g, q, v1, v2, v3⟩ := hE
      rw [v1]
      exact hit_some ⟨⟨rfl, v2, v3⟩, hF⟩
