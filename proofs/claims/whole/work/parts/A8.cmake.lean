/-! make an object, on State k -/
def room (fit X1 X2 : Bool) (A B1 B2 : Hp) : Option Hp := if fit = true then some A else if X1 = true then (if X2 = true then none else some B2) else some B1
noncomputable def rmO (R : Nat → Nat) (A : Hp) (f : Nat) : Option Hp := room (decide (usedA A 0 + (3 + f) ≤ R 0)) (pX (plan2 R A)) (pX (plan2 R (majA A))) A (minA R A) (minA R (majA A))
def mT (B : Hp) : Nat := ix (htl B 0)
def mkO (B : Hp) (r : Nat) (kd : Int32) (f : Nat) (d : Int32) : Hp := sRt (addO B kd f d (mT B)) (upx (hrt B) r (some (hn B)))
def mkR (o : Option Hp) (r : Nat) (kd : Int32) (f : Nat) (d : Int32) : AR := match o with
  | none => .inl 3
  | some B => .inr (nI (mT B + 1), nI (mT B + 1), mkO B r kd f d)
noncomputable def doMake (R : Nat → Nat) (A : Hp) (x y z d : Int32) : AR := match inB x 8 with
  | none => .inl 0
  | some r => match inB y 3 with
    | none => .inl 1
    | some q => match inB z 5 with
      | none => .inl 1
      | some f => match inB d 1000 with
        | none => .inl 1
        | some _ => if q = 1 ∧ f = 0 then .inl 1 else mkR (rmO R A f) r y f d
section mk
variable {R : Nat → Nat} {b : Nat} {A : Hp}
/-- the bounds of the rules -/
def R8 (R : Nat → Nat) : Prop := R 0 ≤ 64 ∧ R 1 ≤ 32 ∧ R 2 ≤ 128 ∧ R 3 ≤ 5 ∧ 8 ≤ R 0
theorem minA_Inv (hI : Inv R b A) (hx : ¬ pX (plan2 R A) = true) (h8 : R8 R) : Inv R b (minA R A) := mInv hI (MF_plan hI hx) ⟨h8.2.1, h8.2.2.1⟩
theorem minA_used (hI : Inv R b A) (hx : ¬ pX (plan2 R A) = true) : usedA (minA R A) 0 = 0 := by
  unfold minA
  rw [minG_eq, used_tl]
  exact (mUsed hI (MF_plan hI hx)).1
theorem majA_Inv (hI : Inv R b A) (h8 : R8 R) : Inv R b (majA A) := jInv hI (JF_q hI.ok) h8.2.2.1
theorem mT_AdR {B : Hp} {kd : Int32} {f : Nat} (hI : Inv R b B) (h8 : R8 R) (hf : f ≤ 4) (hk : kd = 0 ∨ kd = 1 ∨ kd = 2) (hkf : kd = 1 → 1 ≤ f) (hu : usedA B 0 + (3 + f) ≤ R 0) (hb : b + 1 < 1000000) : AdR R b B kd f (mT B) := by
  obtain ⟨m, h1, h2, h3⟩ := hI.2.2.1
  have e : mT B = m := by unfold mT; rw [h2]; exact ix_nI (by omega)
  rw [e]
  exact ⟨hf, hk, hkf, hu, ⟨h8.1, h8.2.1, h8.2.2.1⟩, h2, h1, h3, hb⟩
/-- where there is room -/
theorem rm_some {f : Nat} {B : Hp} (hI : Inv R b A) (h8 : R8 R) (hf : f ≤ 4) (h : rmO R A f = some B) : Inv R b B ∧ usedA B 0 + (3 + f) ≤ R 0 := by
  unfold rmO room at h
  have h80 := h8.2.2.2.2
  by_cases c : decide (usedA A 0 + (3 + f) ≤ R 0) = true
  · rw [if_pos c] at h
    cases h
    exact ⟨hI, of_decide_eq_true c⟩
  · rw [if_neg c] at h
    by_cases c1 : pX (plan2 R A) = true
    · rw [if_pos c1] at h
      by_cases c2 : pX (plan2 R (majA A)) = true
      · rw [if_pos c2] at h; cases h
      · rw [if_neg c2] at h
        have e : minA R (majA A) = B := Option.some.inj h
        have hJ := majA_Inv hI h8
        rw [← e]
        refine ⟨minA_Inv hJ c2 h8, ?_⟩
        rw [minA_used hJ c2]; omega
    · rw [if_neg c1] at h
      have e : minA R A = B := Option.some.inj h
      rw [← e]
      refine ⟨minA_Inv hI c1 h8, ?_⟩
      rw [minA_used hI c1]; omega
theorem mk_Inv {B : Hp} {kd d : Int32} {f r : Nat} (hI : Inv R b B) (h : AdR R b B kd f (mT B)) : Inv R (b + 1) (mkO B r kd f d) := (ad_Inv hI h).root (fun j hj => by cases hj; exact Nat.lt_succ_self _)
theorem c_j136 {σ : rS} {k : Nat} {B : Hp} {L : Lg} {kd d : Int32} {f x : Nat} (hC : CS σ k (B, L)) (hI : Inv R b B) (h : AdR R b B kd f (mT B)) (hx : x < 8) : hit (fX0_makeObject_j136 k (nI x) kd (nI f) d σ) (fun r s => r = nI (mT B + 1) ∧ CS s k (mkO B x kd f d, logAdd L (0, nI (mT B + 1), cellsA (mkO B x kd f d)))) := by
  have w' := ad_OK (d := d) hI h
  have hw : hn B + 1 ≤ 78 := w'.n
  unfold fX0_makeObject_j136
  refine bd_hit (hit_mono (c_add (d := d) hC hI h) ?_)
  rintro r s ⟨rfl, hS⟩
  have hS1 : CS (wr s 53 k x (enc (some (hn B)))) k (mkO B x kd f d, L) := cs_root hS
  have wm : OK (mkO B x kd f d) := (mk_Inv (r := x) (d := d) hI h).ok
  have hlt : hn B < hn (mkO B x kd f d) := Nat.lt_succ_self _
  have en : hnum (mkO B x kd f d) (hn B) = mT B + 1 := ad_num0 (A := B) (kd := kd) (d := d) (f := f) (m := mT B)
  rw [pn_bnd hx (by omega), st_eq, ix_nI (by omega)]
  have e1 := e_numberOf hS1.1 wm hlt
  rw [en] at e1
  rw [show wr s 53 k x (nI (hn B)) = wr s 53 k x (enc (some (hn B))) from rfl, e1, bd_some]
  refine bd_hit (hit_mono (c_note hS1 0 (nI (mT B + 1))) ?_)
  rintro r2 s2 hS2
  have e2 := e_numberOf hS2.1 wm hlt
  rw [en] at e2
  rw [e2, bd_some]
  exact hit_some ⟨rfl, hS2⟩
theorem RU.mv {σ s : rS} (h : RU σ R) (e : s 20 = σ 20) : RU s R := ⟨fun i hi => by rw [e]; exact h.1 i hi, h.2⟩
theorem c_j80 {σ : rS} {k : Nat} {L : Lg} {kd d : Int32} {f x : Nat} (hC : CS σ k (A, L)) (hI : Inv R b A) (hR : RU σ R) (h8 : R8 R) (hb : b + 1 < 1000000) (hk : ¬ k = 3) (hx : x < 8) (hf : f ≤ 4) (hkd : kd = 0 ∨ kd = 1 ∨ kd = 2) (hkf : kd = 1 → 1 ≤ f) : hit (fX0_makeObject_j55 k (nI x) kd (nI f) d σ) (CA k 0 A L (mkR (rmO R A f) x kd f d)) := by
  have fin : ∀ {B : Hp} {s : rS}, rmO R A f = some B → CS s k (B, L) → hit (fX0_makeObject_j136 k (nI x) kd (nI f) d s) (CA k 0 A L (mkR (rmO R A f) x kd f d)) := fun {B s} hB hS => by
    obtain ⟨i1, i2⟩ := rm_some hI h8 hf hB
    rw [hB]
    exact c_j136 hS i1 (mT_AdR i1 h8 hf hkd hkf i2 hb) hx
  have h80 := h8.1
  have u0 := hI.us (s := 0) (by omega)
  have e20 : σ 20 0 (ix 0) = nI (R 0) := hR.1 0 (by omega)
  have e54 : σ 54 k (ix 0) = nI (usedA A 0) := (hC.1 : CR σ k A).us (s := 0) (by omega)
  unfold fX0_makeObject_j55
  rw [e20, e54, show nI (usedA A 0) + 3 + nI f = nI (usedA A 0 + 3 + f) by rw [show (3 : Int32) = nI 3 from rfl, nI_add, nI_add]]
  simp (disch := omega) only [pn_lt]
  unfold fX0_makeObject_j80
  by_cases c : usedA A 0 + (3 + f) ≤ R 0
  · rw [if_neg (by omega), if_neg one_ne]
    refine fin ?_ hC
    unfold rmO room
    rw [if_pos (decide_eq_true c)]
  · rw [if_pos (by omega), if_pos rfl]
    have cd : ¬ decide (usedA A 0 + (3 + f) ≤ R 0) = true := fun h => c (of_decide_eq_true h)
    refine bd_hit (hit_mono (hit_fr (frX1_collectYoung k σ) (c_young hC hI hR)) ?_)
    rintro r1 s1 ⟨f1, h1⟩
    unfold CYo at h1
    by_cases c1 : pX (plan2 R A) = true
    · rw [if_pos c1] at h1
      obtain ⟨rfl, hS1⟩ := h1
      rw [if_pos rfl]
      refine bd_hit (hit_mono (hit_fk (fkX7_copyFrom 3 k s1) (hit_fr (frX7_copyFrom 3 k s1) (c_copy (S := (A, L)) hI.ok hk hS1))) ?_)
      rintro r2 s2 ⟨k2, f2, h2⟩
      have hS2 : CS s2 k (A, L) := hS1.fk k2 hk
      have hJ := majA_Inv hI h8
      refine bd_hit (hit_mono (hit_fk (fkX1_collectAll k s2) (hit_fr (frX1_collectAll k s2) (c_major hS2 hI h8.2.2.1))) ?_)
      rintro r3 s3 ⟨k3, f3, hS3, -⟩
      have hR3 : RU s3 R := hR.mv (by rw [f3 20 (by decide), f2 20 (by decide), f1 20 (by decide)])
      refine bd_hit (hit_mono (hit_fk (fkX1_collectYoung k s3) (c_young hS3 hJ hR3)) ?_)
      rintro r4 s4 ⟨k4, h4⟩
      have h34 : CS s4 3 (A, L) := (h2.fk k3 (fun e => hk e.symm)).fk k4 (fun e => hk e.symm)
      unfold CYo at h4
      by_cases c2 : pX (plan2 R (majA A)) = true
      · rw [if_pos c2] at h4
        rw [h4.1, if_pos rfl]
        refine bd_hit (hit_mono (c_copy (S := (A, L)) hI.ok (fun e => hk e.symm) h34) ?_)
        rintro r5 s5 h5
        unfold rmO room
        rw [if_neg cd, if_pos c1, if_pos c2]
        exact hit_some ⟨by decide, h5⟩
      · rw [if_neg c2] at h4
        rw [h4.1, if_neg one_ne]
        refine fin ?_ h4.2.1
        unfold rmO room
        rw [if_neg cd, if_pos c1, if_neg c2]
    · rw [if_neg c1] at h1
      obtain ⟨rfl, hS1, -⟩ := h1
      rw [if_neg one_ne]
      refine fin ?_ hS1
      unfold rmO room
      rw [if_neg cd, if_neg c1]
theorem c_make {σ : rS} {k : Nat} {L : Lg} (hC : CS σ k (A, L)) (hI : Inv R b A) (hR : RU σ R) (h8 : R8 R) (hb : b + 1 < 1000000) (hk : ¬ k = 3) (x y z d : Int32) : hit (fX0_makeObject k x y z d σ) (CA k 0 A L (doMake R A x y z d)) := by
  have no1 : hit (some ((-2 : Int32), σ)) (CA k 0 A L (.inl 1)) := hit_some ⟨by decide, hC⟩
  unfold fX0_makeObject doMake
  rw [c_isRoot, bd_some]
  rcases inB_cases x (b := 8) (by omega) with ⟨i, h, rfl, e⟩ | ⟨e, -⟩
  · rw [e]
    dsimp only
    rw [if_neg one_ne]
    rcases inB_cases y (b := 3) (by omega) with ⟨q, hq, rfl, e1⟩ | ⟨e1, hy⟩
    · rw [e1]
      dsimp only
      rw [if_neg (by rw [pn_neg (by omega)]; exact id), if_neg (show ¬ (2 : Int32) < nI q by rw [show (2 : Int32) = nI 2 from rfl, pn_lt (by omega) (by omega)]; omega)]
      rcases inB_cases z (b := 5) (by omega) with ⟨f, hf, rfl, e2⟩ | ⟨e2, hz⟩
      · rw [e2]
        dsimp only
        rw [if_neg (by rw [pn_neg (by omega)]; exact id), if_neg (show ¬ (4 : Int32) < nI f by rw [show (4 : Int32) = nI 4 from rfl, pn_lt (by omega) (by omega)]; omega)]
        rcases inB_cases d (b := 1000) (by omega) with ⟨g, hg, rfl, e3⟩ | ⟨e3, hd⟩
        · rw [e3]
          dsimp only
          rw [if_neg (by rw [pn_neg (by omega)]; exact id), if_neg (show ¬ (999 : Int32) < nI g by rw [show (999 : Int32) = nI 999 from rfl, pn_lt (by omega) (by omega)]; omega)]
          simp (disch := omega) only [pn_eq1, pn_eq0]
          have kq : nI q = 0 ∨ nI q = 1 ∨ nI q = 2 := by
            rcases (by omega : q = 0 ∨ q = 1 ∨ q = 2) with rfl | rfl | rfl
            · exact Or.inl rfl
            · exact Or.inr (Or.inl rfl)
            · exact Or.inr (Or.inr rfl)
          by_cases q1 : q = 1
          · rw [if_pos q1]
            by_cases f0 : f = 0
            · rw [if_pos f0, if_pos ⟨q1, f0⟩]; exact no1
            · rw [if_neg f0, if_neg (fun h => f0 h.2)]
              exact c_j80 hC hI hR h8 hb hk h (by omega) kq (fun _ => by omega)
          · rw [if_neg q1, if_neg (fun h => q1 h.1)]
            exact c_j80 hC hI hR h8 hb hk h (by omega) kq (fun h => by rw [pn_eq1 (by omega)] at h; omega)
        · rw [e3]
          dsimp only
          rcases hd with hd | ⟨g, g1, g2, rfl⟩
          · rw [if_pos hd]; exact no1
          · rw [if_neg (by rw [pn_neg (by omega)]; exact id), if_pos (show (999 : Int32) < nI g by rw [show (999 : Int32) = nI 999 from rfl, pn_lt (by omega) (by omega)]; omega)]; exact no1
      · rw [e2]
        dsimp only
        rcases hz with hz | ⟨g, g1, g2, rfl⟩
        · rw [if_pos hz]; exact no1
        · rw [if_neg (by rw [pn_neg (by omega)]; exact id), if_pos (show (4 : Int32) < nI g by rw [show (4 : Int32) = nI 4 from rfl, pn_lt (by omega) (by omega)]; omega)]; exact no1
    · rw [e1]
      dsimp only
      rcases hy with hy | ⟨g, g1, g2, rfl⟩
      · rw [if_pos hy]; exact no1
      · rw [if_neg (by rw [pn_neg (by omega)]; exact id), if_pos (show (2 : Int32) < nI g by rw [show (2 : Int32) = nI 2 from rfl, pn_lt (by omega) (by omega)]; omega)]; exact no1
  · rw [e, if_pos rfl]
    exact hit_some ⟨by decide, hC⟩
end mk
