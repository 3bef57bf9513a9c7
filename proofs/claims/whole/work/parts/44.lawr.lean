/-! the law's own rows -/
def lawQ (b sz : Nat) : List Frame → Array Value → State → State → Prop := fun below args s t => (s.heap.size = sz ∧ args = #[.ref b]) → lw_Z below args s t
abbrev LRun (l : Launch) (b sz : Nat) (x4 : Int32) (Ω : rO) (kc ks pc : Nat) (σ : rS) : Prop := RunG l Ω cL_law RL 7 (some .boolean) room_1 (lawQ b sz) kc ks pc [some (.ref b), some (rf Ω 9 0), some (rf Ω 10 0), some (rf Ω 77 0), some (.int x4), none, none] [] σ
def LWa (Ω : rO) (b sz L n : Nat) (xs : Nat → Int32) (x4 : Int32) (kc ks : Nat) (σ : rS) : Prop :=
  (WO Ω (σ 29 0) ∧ oL Ω 9 0 ∧ oL Ω 10 0 ∧ oL Ω 77 0 ∧ ¬ oL Ω 2 0) ∧ (oB Ω = sz ∧ oX Ω 30 = b ∧ oX Ω 31 = L ∧ ∀ j, Int32.ofNat (oX Ω (100 + j)) = xs j) ∧
  ((vp_in (x4 + 1) L ∧ (x4 + 1).toNatClampNeg = 6 * n + 1) ∧ (vp_in (x4 + 2) L ∧ (x4 + 2).toNatClampNeg = 6 * n + 2) ∧ (vp_in (x4 + 3) L ∧ (x4 + 3).toNatClampNeg = 6 * n + 3) ∧ (vp_in (x4 + 4) L ∧ (x4 + 4).toNatClampNeg = 6 * n + 4) ∧ (vp_in (x4 + 5) L ∧ (x4 + 5).toNatClampNeg = 6 * n + 5)) ∧
  kc ≤ 3000 ∧ ks ≤ 200000
section LA
variable {Ω Ω2 : rO} {b sz L n : Nat} {xs : Nat → Int32} {x4 : Int32} {kc ks : Nat} {σ σ2 : rS}
theorem LWa.wo (h : LWa Ω b sz L n xs x4 kc ks σ) : WO Ω (σ 29 0) := h.1.1
theorem LWa.l9 (h : LWa Ω b sz L n xs x4 kc ks σ) : oL Ω 9 0 := h.1.2.1
theorem LWa.l10 (h : LWa Ω b sz L n xs x4 kc ks σ) : oL Ω 10 0 := h.1.2.2.1
theorem LWa.l77 (h : LWa Ω b sz L n xs x4 kc ks σ) : oL Ω 77 0 := h.1.2.2.2.1
theorem LWa.n2 (h : LWa Ω b sz L n xs x4 kc ks σ) : ¬ oL Ω 2 0 := h.1.2.2.2.2
theorem LWa.rl (h : LWa Ω b sz L n xs x4 kc ks σ) : RLv Ω σ := RLw.v (fun i hi => h.1.1.2.2.1 i hi)
theorem LWa.eB (h : LWa Ω b sz L n xs x4 kc ks σ) : oB Ω = sz := h.2.1.1
theorem LWa.eb (h : LWa Ω b sz L n xs x4 kc ks σ) : oX Ω 30 = b := h.2.1.2.1
theorem LWa.eL (h : LWa Ω b sz L n xs x4 kc ks σ) : oX Ω 31 = L := h.2.1.2.2.1
theorem LWa.ex (h : LWa Ω b sz L n xs x4 kc ks σ) : ∀ j, Int32.ofNat (oX Ω (100 + j)) = xs j := h.2.1.2.2.2
theorem LWa.i1a (h : LWa Ω b sz L n xs x4 kc ks σ) : vp_in (x4 + 1) L := h.2.2.1.1.1
theorem LWa.i1b (h : LWa Ω b sz L n xs x4 kc ks σ) : (x4 + 1).toNatClampNeg = 6 * n + 1 := h.2.2.1.1.2
theorem LWa.i2a (h : LWa Ω b sz L n xs x4 kc ks σ) : vp_in (x4 + 2) L := h.2.2.1.2.1.1
theorem LWa.i2b (h : LWa Ω b sz L n xs x4 kc ks σ) : (x4 + 2).toNatClampNeg = 6 * n + 2 := h.2.2.1.2.1.2
theorem LWa.i3a (h : LWa Ω b sz L n xs x4 kc ks σ) : vp_in (x4 + 3) L := h.2.2.1.2.2.1.1
theorem LWa.i3b (h : LWa Ω b sz L n xs x4 kc ks σ) : (x4 + 3).toNatClampNeg = 6 * n + 3 := h.2.2.1.2.2.1.2
theorem LWa.i4a (h : LWa Ω b sz L n xs x4 kc ks σ) : vp_in (x4 + 4) L := h.2.2.1.2.2.2.1.1
theorem LWa.i4b (h : LWa Ω b sz L n xs x4 kc ks σ) : (x4 + 4).toNatClampNeg = 6 * n + 4 := h.2.2.1.2.2.2.1.2
theorem LWa.i5a (h : LWa Ω b sz L n xs x4 kc ks σ) : vp_in (x4 + 5) L := h.2.2.1.2.2.2.2.1
theorem LWa.i5b (h : LWa Ω b sz L n xs x4 kc ks σ) : (x4 + 5).toNatClampNeg = 6 * n + 5 := h.2.2.1.2.2.2.2.2
theorem LWa.kc3 (h : LWa Ω b sz L n xs x4 kc ks σ) : kc ≤ 3000 := h.2.2.2.1
theorem LWa.ks3 (h : LWa Ω b sz L n xs x4 kc ks σ) : ks ≤ 200000 := h.2.2.2.2
theorem LWa.cl (h : LWa Ω b sz L n xs x4 kc ks σ) : kc ≤ room_1.cells := Nat.le_trans h.kc3 (Nat.le_of_ble_eq_true rfl)
theorem LWa.sl (h : LWa Ω b sz L n xs x4 kc ks σ) : ks ≤ room_1.slots := Nat.le_trans h.ks3 (Nat.le_of_ble_eq_true rfl)
theorem LWa.frame {W : List Nat} (h : LWa Ω b sz L n xs x4 kc ks σ) (hf : ∀ c, ¬ c ∈ W → σ2 c = σ c) (hW : ¬ 29 ∈ W) : LWa Ω b sz L n xs x4 kc ks σ2 := by
  refine ⟨⟨?_, h.1.2⟩, h.2⟩
  rw [hf 29 hW]
  exact h.1.1
theorem LWa.ext (h : LWa Ω b sz L n xs x4 kc ks σ) (hE : ExtN Ω Ω2) (hO : WO Ω2 (σ2 29 0)) : LWa Ω2 b sz L n xs x4 kc ks σ2 := by
  have eX : oX Ω2 = oX Ω := by
    funext i
    show Ω2.2.2.2.2.2 i = Ω.2.2.2.2.2 i
    rw [hE.1.2.2.2.1]
  refine ⟨⟨hO, hE.l h.l9, hE.l h.l10, hE.l h.l77, fun z => h.n2 (hE.2.2 z)⟩, ⟨hE.1.2.2.1.trans h.eB, by rw [eX]; exact h.eb, by rw [eX]; exact h.eL, fun j => by rw [eX]; exact h.ex j⟩, h.2.2⟩
end LA
/-- what comes behind a case -/
def LCont (l : Launch) (b sz L n : Nat) (xs : Nat → Int32) (x4 : Int32) (kc ks : Nat) (σ : rS) (J : rS → Prop) : Prop :=
  ∀ (Ω2 : rO) (σ2 : rS) (kc2 ks2 : Nat), LWa Ω2 b sz L n xs x4 kc ks σ2 → kc2 ≤ kc + 24 * (cntF (σ2 29 0) - cntF (σ 29 0)) + 1 → ks2 ≤ ks + 1310 * (cntF (σ2 29 0) - cntF (σ 29 0)) + 6 → cntF (σ 29 0) ≤ cntF (σ2 29 0) → J σ2 → LRun l b sz x4 Ω2 kc2 ks2 1494 σ2
section RLw9
variable {l : Launch} {Ω : rO} {cc : ByteArray} {own : String} {nL : Nat} {ret : Option FieldType} {rm : Room} {Q : List Frame → Array Value → State → State → Prop} {kc ks : Nat} {pc : Nat} {lv : List (Option Value)} {st : List Value} {σ : rS}
theorem R_sld {x : Int32} {j L b : Nat} {xs : Nat → Int32} (hb : oX Ω 30 = b) (hL : oX Ω 31 = L) (hxs : ∀ j, Int32.ofNat (oX Ω (100 + j)) = xs j) (hin : vp_in x L) (hj : x.toNatClampNeg = j) (hd : decode cc pc = .ok (.iaload, 1)) (kk : RunG l Ω cc own nL ret rm Q kc ks (pc + 1) lv (.int (xs j) :: st) σ) : RunG l Ω cc own nL ret rm Q kc ks pc lv (.int x :: .ref b :: st) σ := fun p e s m args below meth c0 B H locs ls hP hS hl => by
  subst hb
  subst hL
  subst hj
  have hX := B.2.2.2.2.2.2.2.2.2.2.1.2.2.2.2.2.2.2.2.2.2.2
  have hk := kk p e s m args below meth c0 B H locs ls hP hS hl
  rw [← hxs] at hk
  exact va_sld (A := oFb Ω) B.1 B.2.1 hX.1 hX.1.lt hX.2 (hS.mono (fun _ z => B.2.2.2.2.2.2.2.2.2.1.fb z)) hin hd hk
theorem R_slen {L b : Nat} (hb : oX Ω 30 = b) (hL : oX Ω 31 = L) (hd : decode cc pc = .ok (.arraylength, 1)) (kk : RunG l Ω cc own nL ret rm Q kc ks (pc + 1) lv (.int (Int32.ofNat L) :: st) σ) : RunG l Ω cc own nL ret rm Q kc ks pc lv (.ref b :: st) σ := fun p e s m args below meth c0 B H locs ls hP hS hl => by
  subst hb
  subst hL
  have hX := B.2.2.2.2.2.2.2.2.2.2.1.2.2.2.2.2.2.2.2.2.2.2
  exact va_slen (A := oFb Ω) B.1 B.2.1 hX.1 hX.1.lt hX.2 (hS.mono (fun _ z => B.2.2.2.2.2.2.2.2.2.1.fb z)) hd (kk p e s m args below meth c0 B H locs ls hP hS hl)
theorem R_widen {kc2 ks2 : Nat} (h1 : kc ≤ kc2) (h2 : ks ≤ ks2) (kk : RunG l Ω cc own nL ret rm Q kc2 ks2 pc lv st σ) : RunG l Ω cc own nL ret rm Q kc ks pc lv st σ := fun p e s m args below meth c0 B H locs ls hP hS hl => W.widen h1 h2 (kk p e s m args below meth c0 B H locs ls hP hS hl)
theorem R_lald77 (hL : oL Ω 77 0) (hd : decode cc pc = .ok (.laload, 1)) (kk : RunG l Ω cc own nL ret rm Q kc ks (pc + 1) lv (.long (lJ (σ 77 0 100) (σ 77 0 200)) :: st) σ) : RunG l Ω cc own nL ret rm Q kc ks pc lv (.int 0 :: rf Ω 77 0 :: st) σ := fun p e s m args below meth c0 B H locs ls hP hS hl => by
  have hP0 := hP 77 0 hL
  rw [cE_77] at hP0
  exact va_lald (ws := [(oA Ω 77 0, .inl (Ω.2.1 3, 1, .inr (.inl (fun _ => lJ (σ 77 0 100) (σ 77 0 200)))))]) (f := fun _ => lJ (σ 77 0 100) (σ 77 0 200)) B.1 B.2.1 B.2.2.2.2.2.2.2.1 (hP.one hL (cE_77 Ω 0 _)) 0 3 rfl rfl (by unfold vp_in; decide) hd (kk p e s m args below meth c0 B H locs ls hP hS hl)
end RLw9
theorem L_ret {l : Launch} {Ω : rO} {b sz kc ks pc : Nat} {lv : List (Option Value)} {σ : rS} (hB : oB Ω = sz) (hc : kc ≤ 601024) (hs : ks ≤ 7293034) (hd : decode cL_law pc = .ok (.ireturn, 1)) : RunG l Ω cL_law RL 7 (some .boolean) room_1 (lawQ b sz) kc ks pc lv [.int 1] σ := fun p e s m args below meth c B H locs ls hP hS hl => by
  by_cases hz : s.heap.size = sz ∧ args = #[.ref b]
  · obtain ⟨h1, h2⟩ := hz
    subst h2
    have hf : ∀ q ∈ locs, s.heap.size ≤ q.base := fun q hq => by
      have := B.2.2.2.2.2.2.2.2.2.1.fb (hS.2.2 q hq)
      have : oB Ω ≤ q.base := this
      omega
    have hw := va_forget (l := l) (e := e) (below := below) hf (W.widen hc hs (lw_ret (p := p) (l := l) (e := e) (s := s) (m := m) (below := below) (meth := meth) (c := c) (b := b) (H := H) (ls := ls) B.1 B.2.1 B.2.2.1 B.2.2.2.2.2.2.1 hd))
    intro T hT X
    obtain ⟨t, a1, b1⟩ := hw T hT X
    exact ⟨t, a1, fun _ => b1⟩
  · intro T hT X
    exact ⟨_, Steps.refl _, fun h => absurd h hz⟩
/-- the counts of the methods that make don't fall -/
theorem mnA_of {o : Option (Int32 × rS)} {σ : rS} {r' : Int32} {σ' : rS} (h : MN σ o) (e : bd o (fun r s => some (r, s)) = some (r', σ')) : cntF (σ 29 0) ≤ cntF (σ' 29 0) := MN_bd h (fun _ _ => MN_some) _ _ e
theorem mnA_make (x1 x2 x3 x4 : Int32) (σ : rS) (r' : Int32) (σ' : rS) (e : fX9_make x1 x2 x3 x4 σ = some (r', σ')) : cntF (σ 29 0) ≤ cntF (σ' 29 0) := mnA_of (mn_act _ _ _ _ _ _ _) e
theorem mnA_link (x1 x2 x3 : Int32) (σ : rS) (r' : Int32) (σ' : rS) (e : fX9_link x1 x2 x3 σ = some (r', σ')) : cntF (σ 29 0) ≤ cntF (σ' 29 0) := mnA_of (mn_act _ _ _ _ _ _ _) e
theorem mnA_load (x1 x2 x3 : Int32) (σ : rS) (r' : Int32) (σ' : rS) (e : fX9_load x1 x2 x3 σ = some (r', σ')) : cntF (σ 29 0) ≤ cntF (σ' 29 0) := mnA_of (mn_act _ _ _ _ _ _ _) e
theorem mnA_drop (x1 : Int32) (σ : rS) (r' : Int32) (σ' : rS) (e : fX9_drop x1 σ = some (r', σ')) : cntF (σ 29 0) ≤ cntF (σ' 29 0) := mnA_of (mn_act _ _ _ _ _ _ _) e
theorem mnA_tell (x1 : Int32) (σ : rS) (r' : Int32) (σ' : rS) (e : fX9_tell x1 σ = some (r', σ')) : cntF (σ 29 0) ≤ cntF (σ' 29 0) := mnA_of (mn_act _ _ _ _ _ _ _) e
theorem mnA_minor (σ : rS) (r' : Int32) (σ' : rS) (e : fX9_minor σ = some (r', σ')) : cntF (σ 29 0) ≤ cntF (σ' 29 0) := mnA_of (mn_act _ _ _ _ _ _ _) e
theorem mnA_major (σ : rS) (r' : Int32) (σ' : rS) (e : fX9_major σ = some (r', σ')) : cntF (σ 29 0) ≤ cntF (σ' 29 0) := mnA_of (mn_act _ _ _ _ _ _ _) e
theorem mnA_ask (σ : rS) (r' : Int32) (σ' : rS) (e : fX9_ask σ = some (r', σ')) : cntF (σ 29 0) ≤ cntF (σ' 29 0) := mnA_of (mn_act _ _ _ _ _ _ _) e
theorem mn_perform (x1 : Int32) (σ : rS) (r' : Int32) (σ' : rS) (e : fX9_perform x1 σ = some (r', σ')) : cntF (σ 29 0) ≤ cntF (σ' 29 0) := by
  have h : MN σ (fX9_perform x1 σ) := by
    unfold fX9_perform
    refine MN_ite MN_some (MN_bd (MN_fr (frX9_isScript _ _) (by decide)) (fun r s => MN_ite MN_some (MN_bnd (MN_bnd ?_))))
    unfold rd
    refine MN_bd (MN_lp (fun x σ => mnX9_perform_L34 _ _ x σ) fu 0 s) (fun e s => ?_)
    cases e with
    | inl a => exact MN_some
    | inr a => exact MN_some
  exact h _ _ e
theorem mn_years (x1 : Int32) (x2 : Int64) (σ : rS) (r' : Int32) (σ' : rS) (e : fX9_years x1 x2 σ = some (r', σ')) : cntF (σ 29 0) ≤ cntF (σ' 29 0) := by
  have h : MN σ (fX9_years x1 x2 σ) := by
    unfold fX9_years
    refine MN_ite MN_some (MN_ite MN_some (MN_ite MN_some ?_))
    have e29 : wrR σ 2 0 (fun _ => 0) 29 = σ 29 := by unfold wrR; rw [if_neg (by decide)]
    generalize wrR σ 2 0 (fun _ => 0) = σ0 at e29 ⊢
    have h0 : MN σ0 (bd (fX2_init x2 σ0) (fun _ σ1 => bd (lp (fun (x : Int32) σ => fX9_years_L33 x1 x σ) fu 0 σ1) (fun _ σ5 => bd (fX7_cellsInUse 0 σ5) (fun r6 σ7 => some (r6, σ7))))) :=
      MN_bd (MN_fr (frX2_init _ _) (by decide)) (fun _ s => MN_bd (MN_lp (fun x σ => mnX9_years_L33 _ x σ) fu 0 s) (fun _ _ => MN_bd (MN_fr (frX7_cellsInUse _ _) (by decide)) (fun _ _ => MN_some)))
    intro r s q
    have := h0 r s q
    rw [e29] at this
    exact this
  exact h _ _ e
