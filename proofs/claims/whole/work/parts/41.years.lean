theorem mw_883 : Cond.classLink RX9 205 RX2 ∈ TT := TT_mem (List.mem_append_right _ (List.mem_of_getElem? (i := 883) (by decide +kernel))) rfl
theorem mw_884 : Cond.instantiable RX2 6 ∈ TT := TT_mem (List.mem_append_right _ (List.mem_of_getElem? (i := 884) (by decide +kernel))) rfl
theorem mw_885 : Cond.methodLink RX9 207 yX2_init ∈ TT := TT_mem (List.mem_append_right _ (List.mem_of_getElem? (i := 885) (by decide +kernel))) rfl
theorem mw_886 : Cond.instanceMethod yX2_init ∈ TT := TT_mem (List.mem_append_right _ (List.mem_of_getElem? (i := 886) (by decide +kernel))) rfl
theorem mw_887 : Cond.code yX2_init cX2_init 3 none ∈ TT := TT_mem (List.mem_append_right _ (List.mem_of_getElem? (i := 887) (by decide +kernel))) rfl
theorem mw_888 : Cond.methodLink RX2 3 Lib.objectInit ∈ TT := TT_mem (List.mem_append_right _ (List.mem_of_getElem? (i := 888) (by decide +kernel))) rfl
theorem mw_913 : Cond.methodLink RX9 210 yX2_drawAct ∈ TT := TT_mem (List.mem_append_right _ (List.mem_of_getElem? (i := 913) (by decide +kernel))) rfl
theorem mw_916 : Cond.code yX2_drawAct cX2_drawAct 2 none ∈ TT := TT_mem (List.mem_append_right _ (List.mem_of_getElem? (i := 916) (by decide +kernel))) rfl
theorem mw_914 : Cond.instanceMethod yX2_drawAct ∈ TT := TT_mem (List.mem_append_right _ (List.mem_of_getElem? (i := 914) (by decide +kernel))) rfl
theorem mw_915 : Cond.selects yX2_drawAct.cls yX2_drawAct yX2_drawAct ∈ TT := TT_mem (List.mem_append_right _ (List.mem_of_getElem? (i := 915) (by decide +kernel))) rfl
theorem okX2_drawAct : CokV yX2_drawAct cX2_drawAct 2 none 0 2 := ⟨⟨mw_916, mw_23, by decide +kernel⟩, mw_914, mw_915, ⟨_, rfl, rfl⟩⟩
theorem mw_891 : Cond.fieldLink RX9 213 "NurseryHeap$Draws" "sort" "I" ∈ TT := TT_mem (List.mem_append_right _ (List.mem_of_getElem? (i := 891) (by decide +kernel))) rfl
theorem foX9_213 : Fok RX9 213 2 1 := ⟨RX2, TX2, 6, rfl, iw2, by decide, mw_891⟩
theorem mw_893 : Cond.fieldLink RX9 216 "NurseryHeap$Draws" "a" "I" ∈ TT := TT_mem (List.mem_append_right _ (List.mem_of_getElem? (i := 893) (by decide +kernel))) rfl
theorem foX9_216 : Fok RX9 216 2 2 := ⟨RX2, TX2, 6, rfl, iw2, by decide, mw_893⟩
theorem mw_895 : Cond.fieldLink RX9 219 "NurseryHeap$Draws" "b" "I" ∈ TT := TT_mem (List.mem_append_right _ (List.mem_of_getElem? (i := 895) (by decide +kernel))) rfl
theorem foX9_219 : Fok RX9 219 2 3 := ⟨RX2, TX2, 6, rfl, iw2, by decide, mw_895⟩
theorem mw_897 : Cond.fieldLink RX9 222 "NurseryHeap$Draws" "c" "I" ∈ TT := TT_mem (List.mem_append_right _ (List.mem_of_getElem? (i := 897) (by decide +kernel))) rfl
theorem foX9_222 : Fok RX9 222 2 4 := ⟨RX2, TX2, 6, rfl, iw2, by decide, mw_897⟩
theorem mw_899 : Cond.fieldLink RX9 225 "NurseryHeap$Draws" "d" "I" ∈ TT := TT_mem (List.mem_append_right _ (List.mem_of_getElem? (i := 899) (by decide +kernel))) rfl
theorem foX9_225 : Fok RX9 225 2 5 := ⟨RX2, TX2, 6, rfl, iw2, by decide, mw_899⟩
/-! NurseryHeap.years -/
theorem kids_2 (c k : Nat) : ¬ (2, 0) ∈ kids c k := by
  unfold kids
  split <;> simp
def addD (Ω : rO) (a : Nat) : rO := (Ω.1, Ω.2.1, fun c k => if c = 2 ∧ k = 0 then a else oA Ω c k, fun c k => oL Ω c k ∨ (c = 2 ∧ k = 0), oB Ω, Ω.2.2.2.2.2)
def delD (Ω : rO) : rO := (Ω.1, Ω.2.1, fun c k => oA Ω c k, fun c k => oL Ω c k ∧ ¬ (c = 2 ∧ k = 0), oB Ω, Ω.2.2.2.2.2)
theorem oA_D (Ω : rO) (a : Nat) : oA (addD Ω a) 2 0 = a := by simp [oA, addD]
theorem oA_Dn {Ω : rO} {a c k : Nat} (h : ¬ (c = 2 ∧ k = 0)) : oA (addD Ω a) c k = oA Ω c k := by
  show (if c = 2 ∧ k = 0 then a else oA Ω c k) = _
  rw [if_neg h]
theorem hp_addD {Ω : rO} {σ : rS} {H H' : Heap} {a : Nat} (hW : WF Ω) (hOK : OKc Ω) (hP : HP Ω σ H) (hn : ¬ oL Ω 2 0) (hkeep : ∀ c k', oL Ω c k' → H'[oA Ω c k']? = H[oA Ω c k']?) (hnew : va_at Ω.1 vwCl (a, .inr (2, [.long 0, .int 0, .int 0, .int 0, .int 0, .int 0])) H') : HP (addD Ω a) (wrR σ 2 0 (fun _ => 0)) H' := by
  intro c k hL
  by_cases e : c = 2 ∧ k = 0
  · obtain ⟨rfl, rfl⟩ := e
    rw [oA_D, wrR_eq, cE_2]
    have : lJ 0 0 = 0 := by decide
    rw [this]
    exact hnew
  · have hold : oL Ω c k := by
      rcases hL with h | h
      · exact h
      · exact absurd h e
    rw [oA_Dn e, wrR_ne _ _ _ _ e]
    have e2 : cE (addD Ω a) c k (σ c k) = cE Ω c k (σ c k) := by
      refine cE_congr (hOK c k hold).1 rfl (fun q hq => oA_Dn (fun h => kids_2 c k ?_)) (fun i => oA_Dn (by omega)) (fun _ => ?_)
      · have : q = (2, 0) := Prod.ext h.1 h.2
        rw [← this]
        exact hq
      · funext i
        unfold ringF
        rw [oA_Dn (by omega)]
    rw [e2]
    exact (hP c k hold).kept (hkeep c k hold)
theorem wf_addD {Ω : rO} {a : Nat} (hW : WF Ω) (hap : ∀ c k, oL Ω c k → oA Ω c k ≠ a) (hb : oB Ω ≤ a) : WF (addD Ω a) := by
  refine ⟨fun c k c' k' h1 h2 e => ?_, fun c k h1 => ?_, fun c k h1 q hq => ?_⟩
  · by_cases e1 : c = 2 ∧ k = 0 <;> by_cases e2 : c' = 2 ∧ k' = 0
    · exact ⟨e1.1.trans e2.1.symm, e1.2.trans e2.2.symm⟩
    · obtain ⟨rfl, rfl⟩ := e1
      rw [oA_D, oA_Dn e2] at e
      have g : oL Ω c' k' := h2.resolve_right e2
      exact absurd e.symm (hap _ _ g)
    · obtain ⟨rfl, rfl⟩ := e2
      rw [oA_D, oA_Dn e1] at e
      have g : oL Ω c k := h1.resolve_right e1
      exact absurd e (hap _ _ g)
    · rw [oA_Dn e1, oA_Dn e2] at e
      exact hW.1 _ _ _ _ (h1.resolve_right e1) (h2.resolve_right e2) e
  · by_cases e1 : c = 2 ∧ k = 0
    · obtain ⟨rfl, rfl⟩ := e1
      rw [oA_D]
      exact hb
    · rw [oA_Dn e1]
      exact hW.2.1 _ _ (h1.resolve_right e1)
  · by_cases e1 : c = 2 ∧ k = 0
    · obtain ⟨rfl, rfl⟩ := e1
      cases hq
    · exact Or.inl (hW.2.2 _ _ (h1.resolve_right e1) q hq)
theorem WO_addD {Ω : rO} {fl : Nat → Int32} {a : Nat} (hO : WO Ω fl) (hW : WF (addD Ω a)) : WO (addD Ω a) fl := by
  refine ⟨hW, fun c k hL => ?_, fun i hi => Or.inl (hO.2.2.1 i hi), fun i hi h0 c k hL => ?_, ?_⟩
  · rcases hL with h | ⟨rfl, rfl⟩
    · exact hO.2.1 c k h
    · exact ⟨Or.inl (by decide), fun h => by cases h⟩
  · rcases hL with h | ⟨rfl, rfl⟩
    · exact hO.2.2.2.1 i hi h0 c k h
    · simp [sIx]
  · show oA (addD Ω a) 99 0 ≤ oB Ω
    rw [oA_Dn (by omega)]
    exact hO.2.2.2.2
theorem WO_delD {Ω : rO} {fl : Nat → Int32} (hO : WO Ω fl) : WO (delD Ω) fl := by
  refine ⟨⟨fun c k c' k' h1 h2 e => hO.1.1 _ _ _ _ h1.1 h2.1 e, fun c k h1 => hO.1.2.1 _ _ h1.1, fun c k h1 q hq => ⟨hO.1.2.2 _ _ h1.1 q hq, fun h => kids_2 c k ?_⟩⟩, fun c k hL => hO.2.1 c k hL.1, fun i hi => ⟨hO.2.2.1 i hi, by omega⟩, fun i hi h0 c k hL => hO.2.2.2.1 i hi h0 c k hL.1, hO.2.2.2.2⟩
  have : q = (2, 0) := Prod.ext h.1 h.2
  rw [← this]
  exact hq
theorem hp_delD {Ω : rO} {σ : rS} {H : Heap} (hOK : OKc Ω) (hP : HP Ω σ H) : HP (delD Ω) σ H := fun c k hL => by
  have e : cE (delD Ω) c k (σ c k) = cE Ω c k (σ c k) := cE_congr (hOK c k hL.1).1 rfl (fun _ _ => rfl) (fun _ => rfl) (fun _ => rfl)
  rw [e]
  exact hP c k hL.1
theorem delD_step {Ω0 Ω Ω2 : rO} (h : ExtN Ω0 (delD Ω)) (h2 : ExtN Ω Ω2) : ExtN Ω0 (delD Ω2) := by
  refine ⟨⟨h2.1.1.trans h.1.1, h2.1.2.1.trans h.1.2.1, h2.1.2.2.1.trans h.1.2.2.1, h2.1.2.2.2.1.trans h.1.2.2.2.1, fun c k hL => ?_⟩, h2.2.1.trans h.2.1, fun q => absurd ⟨rfl, rfl⟩ q.2⟩
  have g := h.l hL
  have g2 := h.a hL
  exact ⟨⟨h2.l g.1, g.2⟩, (h2.a g.1).trans g2⟩
theorem delD_add {Ω : rO} {a : Nat} (hn : ¬ oL Ω 2 0) : ExtN Ω (delD (addD Ω a)) := by
  have hne : ∀ c k, oL Ω c k → ¬ (c = 2 ∧ k = 0) := fun c k hL h => hn (by obtain ⟨rfl, rfl⟩ := h; exact hL)
  exact ⟨⟨rfl, rfl, rfl, rfl, fun c k hL => ⟨⟨Or.inl hL, hne c k hL⟩, oA_Dn (hne c k hL)⟩⟩, oA_Dn (Ω := Ω) (a := a) (c := 99) (k := 0) (by omega), fun q => absurd ⟨rfl, rfl⟩ q.2⟩
section RY
variable {l : Launch} {Ω Ω0 : rO} {cc : ByteArray} {own : String} {nL : Nat} {ret : Option FieldType} {rm : Room} {K : Int32 → rS → Prop} {Q : List Frame → Array Value → State → State → Prop} {kc ks mc ms : Nat} {pc : Nat} {lv : List (Option Value)} {st rest : List Value} {σ σ' : rS} {r' : Int32}
variable {y : MethodName} {cc2 : ByteArray} {nL2 : Nat} {rm2 : Room} {n i c k : Nat} {As : List Value}
theorem A_iretD {v : Int32} (hE : ExtN Ω0 (delD Ω)) (hO : WO Ω (σ 29 0)) (hc : kc ≤ mc) (hs : ks ≤ ms) (hd : decode cc pc = .ok (.ireturn, 1)) (hr : ret = some .int) (h : KE r' σ' v σ) : RunG l Ω cc own nL ret rm (rQAf Ω0 ret r' σ' mc ms) kc ks pc lv [.int v] σ := fun p e s m args below meth c B H locs ls hP hS hl => by
  subst hr
  obtain ⟨rfl, rfl⟩ := h
  have hO2 := WO_delD hO
  have hS0 : va_S (oF Ω0) s.heap H locs := hS.mono (fun q hq => by
    have h1 : oB (delD Ω) ≤ q := hO.1.fb hq
    have h2 := hO2.2.2.2.2
    rw [hE.2.1, hE.1.2.2.1] at h2
    rw [hE.1.2.2.1] at h1
    exact oF.fb h2 h1)
  exact W.widen hc hs (W.iret B.1 B.2.1 B.2.2.1 (fun t ht _ => ⟨⟨delD Ω, rfl, hE, hO2, by rw [ht]; exact hp_delD hO.2.1 hP⟩, hS0.F ht⟩) hS0.2.2 hd B.2.2.2.2.2.2.1)
theorem R_objInit {a i : Nat} (hm : Cond.methodLink own i Lib.objectInit ∈ TT) (h1 : Cond.instanceMethod Lib.objectInit ∈ TT) (h2 : Cond.code Lib.objectInit ⟨#[0xb1]⟩ 1 none ∈ TT) (hf : 1 ≤ rm.frames) (hlo : (st.map fun v => v.category).sum + 12 ≤ rm.locals) (hd : decode cc pc = .ok (.invokespecial i, 3)) (k : RunG l Ω cc own nL ret rm Q kc ks (pc + 3) lv st σ) : RunG l Ω cc own nL ret rm Q kc ks pc lv (.ref a :: st) σ := fun p e s m args below meth c B H locs ls hP hS hl =>
  W.objInit B.1 B.2.1 B.2.2.2.2.1 (B.2.2.2.2.2.1 _ hm) (B.2.2.2.2.2.1 _ h1) (B.2.2.2.2.2.1 _ h2) (g := F0 m pc ls (.ref a :: st)) rfl (hl.1.trans B.2.2.2.1.symm) rfl hd hf (by show 2 * 0 + _ + 12 ≤ _; omega) (k p e s m args below meth c B H locs ls hP hS hl)
theorem R_callIv (hC : Ct l Ω y cc2 nL2 none rm2 (rf Ω c k :: As) σ (fun _ σ2 => RunG l Ω cc own nL ret rm Q kc ks (pc + 3) lv rest σ2)) (ho : Cok y cc2 nL2 none n) (hyn : y.name = "<init>") (hin : Cond.instanceMethod y ∈ TT) (hm : Cond.methodLink own i y ∈ TT) (hn : As.length = n) (hst : As.reverse ++ rf Ω c k :: rest = st) (hw : (rest.map fun v => v.category).sum ≤ 8)
    (hrc : rm2.cells = 0) (hrs : rm2.slots = 0) (hR : rm2.frames + 1 ≤ rm.frames ∧ 8 + (nL2 + 11) + rm2.locals ≤ rm.locals) (hf : kc ≤ rm.cells ∧ ks ≤ rm.slots) (hd : decode cc pc = .ok (.invokespecial i, 3)) : RunG l Ω cc own nL ret rm Q kc ks pc lv st σ := fun p e s m args below meth c0 B H locs ls hP hS hl =>
  R_core (rest := rest) B (va_runI (As := As) (b := oA Ω c k) (Ts := TT) (own := own) (index := i) (bytes := cc2) (maxL := nL2) ⟨B.1, B.2.1, B.2.2.2.1, B.2.2.2.2.1, B.2.2.2.2.2.1⟩ hC ⟨rB.cok B ho hm hrc hrs hR, hyn, B.2.2.2.2.2.1 _ hin⟩ ⟨rPre.blind σ _, rPre.start B hP hS _⟩ rfl hn hl.1 hst.symm (lv_room hw) hd hf) hS hl (fun _ _ h => h)
set_option maxRecDepth 100000 in
set_option maxHeartbeats 4000000 in
theorem A_newD {ic : Nat} (hO : WO Ω (σ 29 0)) (hn : ¬ oL Ω 2 0) (hcl : Cond.classLink own ic RX2 ∈ TT) (hd1 : decode cc pc = .ok (.new ic, 3)) (hc : kc + 1 ≤ rm.cells) (hs : ks + 6 ≤ rm.slots)
    (kk : ∀ a : Nat, WO (addD Ω a) (σ 29 0) → RunG l (addD Ω a) cc own nL ret rm Q (kc + 1) (ks + 6) (pc + 3) lv (rf (addD Ω a) 2 0 :: st) (wrR σ 2 0 (fun _ => 0))) : RunG l Ω cc own nL ret rm Q kc ks pc lv st σ := fun p e s m args below meth c0 B H locs ls hP hS hl => by
  have hts := B.2.2.2.2.2.1
  have hK := B.2.2.2.2.2.2.2.1
  have hKn := hK.1 2 (RX2, TX2, 6) rfl
  have hbs : oB Ω ≤ s.heap.size := B.2.2.2.2.2.2.2.2.1
  have hbH : oB Ω ≤ H.size := Nat.le_trans hbs hS.1
  refine W.newcK B.1 B.2.1 B.2.2.2.2.1 (hts _ hcl) (hts _ mw_884) (hts _ mw_23) rfl hd1 hc hs hKn.2.1 rfl fun H1 kC hkC e1 z1 o1 => ?_
  have hat : va_at Ω.1 vwCl (H.size, .inr (2, [.long 0, .int 0, .int 0, .int 0, .int 0, .int 0])) H1 := ⟨_, rfl, (u_born tyX2 hts iw2 hKn hkC e1 tyX2_ok).to (by decide)⟩
  have hlive : ∀ c k', oL Ω c k' → oA Ω c k' < H.size := fun c k' hL => (hP c k' hL).lt
  have hwf : WF (addD Ω H.size) := wf_addD hO.1 (fun c k hL => Nat.ne_of_lt (hlive c k hL)) hbH
  have hO2 := WO_addD hO hwf
  have hP2 := hp_addD hO.1 hO.2.1 hP hn (fun c k hL => o1 _ (hlive c k hL)) hat
  have kk2 := kk H.size hO2
  rw [rf, oA_D] at kk2
  have hE : ExtN Ω (delD (addD Ω H.size)) := delD_add hn
  have hB2 : rB (addD Ω H.size) cc own nL ret p s m args meth c0 := by
    obtain ⟨b1, b2, b3, b4, b5, b6, b7, b8, b9, b10, b11, b12⟩ := B
    exact ⟨b1, b2, b3, b4, b5, b6, b7, b8, b9, hwf, b11, b12⟩
  have hsub : ∀ z, oF Ω z → oF (addD Ω H.size) z := fun z hz => oF.fb hO2.2.2.2.2 (hO.1.fb hz)
  exact kk2 p e s m args below meth c0 hB2 H1 locs ls hP2 ⟨by rw [z1]; have := hS.1; omega, fun q h1 h2 => by
    rw [o1 q (Nat.lt_of_lt_of_le h1 hS.1)]
    exact hS.2.1 q h1 (fun z => h2 (hsub q z)), fun q hq => hsub _ (hS.2.2 q hq)⟩ hl
end RY
noncomputable def fX2_init (x1 : Int64) (σ : rS) : Option (Int32 × rS) := st (wr (wr σ 2 0 100 (lHi x1)) 2 0 200 (lLo x1)) (fun σ1 => some (0, σ1))
theorem frX2_init (x1 : Int64) (σ : rS) : FR [2] σ (fX2_init x1 σ) := FR_stJ (by decide) (fun _ => FR_some)
abbrev rmX2_init : Room := { frames := 1, cells := 0, slots := 0, locals := 12 }
set_option maxRecDepth 100000 in
set_option maxHeartbeats 4000000 in
theorem ctX2_init (l : Launch) (Ω : rO) (x1 : Int64) (hL0 : oL Ω 2 0) (σ : rS) (K : Int32 → rS → Prop) (h : hit (fX2_init x1 σ) K) : Ct l Ω yX2_init cX2_init 3 none rmX2_init [rf Ω 2 0, .long x1] σ K := by
  refine Ct.of (own := RX2) (lv := [some (rf Ω 2 0), some (.long x1), none]) (by decide) rfl (Nat.le_of_ble_eq_true rfl) rfl (fun hW => ?_)
  unfold fX2_init at h
  refine R_aload_n (i := 0) dX2_init_0 rfl rfl ?_
  refine R_objInit mw_888 mw_30 mw_31 (Nat.le_of_ble_eq_true rfl) (Nat.le_of_ble_eq_true rfl) dX2_init_1 ?_
  refine R_aload_n (i := 0) dX2_init_4 rfl rfl ?_
  refine R_lload_n (i := 1) dX2_init_5 rfl rfl ?_
  refine R_putJ poX2_9 hL0 (cE_2 Ω 0 _) (cL_2 Ω 0 _ _) (Nat.le_of_ble_eq_true rfl) dX2_init_6 ?_
  refine R_st h (fun σ1 h => ?_)
  exact R_vret dX2_init_9 rfl h
noncomputable def fX9_years_L33 (x1 : Int32) (x5 : Int32) (σ : rS) : Option ((Int32 ⊕ Unit) × rS) := if x5 < x1 then (bd (fX2_drawAct σ) (fun _ σ2 => bd (fX9_act (σ2 2 0 1) (σ2 2 0 2) (σ2 2 0 3) (σ2 2 0 4) (σ2 2 0 5) 0 σ2) (fun _ σ4 => some (.inl (x5 + 1), σ4)))) else (some (.inr (), σ))
noncomputable def fX9_years (x1 : Int32) (x2 : Int64) (σ : rS) : Option (Int32 × rS) := if (σ 9 0 6) = 0 then (some ((-1), σ)) else (if x1 < 1 then (some ((-1), σ)) else (if 40 < x1 then (some ((-1), σ)) else (bd (fX2_init x2 (wrR σ 2 0 (fun _ => 0))) (fun _ σ1 => bd (lp (fun (x : Int32) σ => fX9_years_L33 x1 x σ) fu 0 σ1) (fun _ σ5 => bd (fX7_cellsInUse 0 σ5) (fun r6 σ7 => some (r6, σ7)))))))
theorem mnX9_years_L33 (x1 x5 : Int32) (σ : rS) : MN σ (fX9_years_L33 x1 x5 σ) := by
  unfold fX9_years_L33
  exact MN_ite (MN_bd (MN_fr (frX2_drawAct _) (by decide)) (fun _ _ => MN_bd (mn_act _ _ _ _ _ _ _) (fun _ _ => MN_some))) MN_some
def WPy (Ω0 Ω : rO) (σ : rS) (N kc ks mc ms : Nat) : Prop := ExtN Ω0 (delD Ω) ∧ WO Ω (σ 29 0) ∧ oL Ω 9 0 ∧ oL Ω 2 0 ∧ kc + 24 * (N - cntF (σ 29 0)) ≤ mc ∧ ks + 1310 * (N - cntF (σ 29 0)) ≤ ms
set_option maxRecDepth 100000 in
set_option maxHeartbeats 4000000 in
theorem rlX9_years_L33 {l : Launch} {Ω0 : rO} {r' : Int32} {σ' : rS} {mc ms : Nat} (x1 : Int32) : ∀ (n : Nat) (Ω : rO) (kc ks : Nat) (x5 : Int32) (σ : rS), WPy Ω0 Ω σ (cntF (σ' 29 0)) kc ks mc ms → hit (lp (fun (x : Int32) σ => fX9_years_L33 x1 x σ) n x5 σ) (fun _ s => hit (bd (fX7_cellsInUse 0 s) (fun r6 σ7 => some (r6, σ7))) (KE r' σ')) → RunG l Ω cX9_years RX9 6 (some .int) (rmA 7 211 mc ms) (rQAf Ω0 (some .int) r' σ' mc ms) kc ks 33 [some (rf Ω 9 0), some (.int x1), none, none, some (rf Ω 2 0), some (.int x5)] [] σ := by
  intro n
  induction n with
  | zero => intro Ω kc ks x5 σ _ h; exact (h : False).elim
  | succ n ih =>
    intro Ω kc ks x5 σ hP h
    have hfin : ∀ (e : Unit) (s : rS), hit (bd (fX7_cellsInUse 0 s) (fun r6 σ7 => some (r6, σ7))) (KE r' σ') → cntF (s 29 0) ≤ cntF (σ' 29 0) := by
      intro e s h
      refine hit_MN h (MN_bd (MN_fr (frX7_cellsInUse _ _) (by decide)) (fun _ _ => MN_some)) (fun r s h => ?_)
      rw [h.2]
      exact Nat.le_refl _
    obtain ⟨hE, hO, hL0, hL2, hc1, hs1⟩ := hP
    have hW := hO.1
    have h := hit_lp h
    unfold fX9_years_L33 at h
    refine R_iload (i := 5) dX9_years_33 rfl ?_
    refine R_iload_n (i := 1) dX9_years_35 rfl rfl ?_
    refine R_icmp_ge (tgt := 81) dX9_years_36 (by decide) (fun hc => ?_) (fun hc => ?_)
    · have h := hit_f h hc
      have h : hit (bd (fX7_cellsInUse 0 σ) (fun r6 σ7 => some (r6, σ7))) (KE r' σ') := h
      obtain ⟨r6, σ7, e7, h⟩ := hit_bdE h
      have e29 : σ7 29 = σ 29 := frX7_cellsInUse _ _ _ _ e7 29 (by decide)
      refine R_aload_n (i := 0) dX9_years_81 rfl rfl ?_
      refine R_get foX9_40 hL0 (cE_9 Ω 0 _) rfl dX9_years_82 ?_
      refine R_callVi (ctX7_cellsInUse l Ω 0 (WF.kid hW 5 hL0 rfl) _ _ (hit_mono (KE_hit e7) (fun r s hrs => ?_))) okX7_cellsInUse mw_931 (WF.kid hW 5 hL0 rfl) (cE_7 Ω 0 _) rfl rfl (Nat.le_of_ble_eq_true rfl) rfl rfl ⟨Nat.le_of_ble_eq_true rfl, Nat.le_of_ble_eq_true rfl⟩ ⟨Nat.le_trans (Nat.le_add_right _ _) hc1, Nat.le_trans (Nat.le_add_right _ _) hs1⟩ dX9_years_85
      rw [hrs.1, hrs.2]
      exact A_iretD hE (by rw [e29]; exact hO) (Nat.le_trans (Nat.le_add_right _ _) hc1) (Nat.le_trans (Nat.le_add_right _ _) hs1) dX9_years_88 rfl h
    · have h := hit_t h hc
      obtain ⟨r1, σ2, e1, h⟩ := hit_bdE h
      have e29 : σ2 29 = σ 29 := frX2_drawAct _ _ _ e1 29 (by decide)
      obtain ⟨r3, σ4, e4, h⟩ := hit_bdE h
      have hm4 := mn_act _ _ _ _ _ _ _ _ _ e4
      have h : hit (lp (fun (x : Int32) σ => fX9_years_L33 x1 x σ) n (x5 + 1) σ4) (fun _ s => hit (bd (fX7_cellsInUse 0 s) (fun r6 σ7 => some (r6, σ7))) (KE r' σ')) := h
      have hN4 : cntF (σ4 29 0) ≤ cntF (σ' 29 0) := hit_MN h (MN_lp (fun x σ => mnX9_years_L33 x1 x σ) n _ σ4) hfin
      rw [← e29] at hO hc1 hs1
      refine R_aload (i := 4) dX9_years_39 rfl ?_
      refine R_callVv (ctX2_drawAct l Ω hL2 _ _ (hit_mono (KE_hit e1) (fun r s hrs => ?_))) okX2_drawAct mw_913 hL2 (cE_2 Ω 0 _) rfl rfl (Nat.le_of_ble_eq_true rfl) rfl rfl ⟨Nat.le_of_ble_eq_true rfl, Nat.le_of_ble_eq_true rfl⟩ ⟨Nat.le_trans (Nat.le_add_right _ _) hc1, Nat.le_trans (Nat.le_add_right _ _) hs1⟩ dX9_years_41
      rw [hrs.2]
      refine R_aload_n (i := 0) dX9_years_44 rfl rfl ?_
      refine R_aload (i := 4) dX9_years_45 rfl ?_
      refine R_get foX9_213 hL2 (cE_2 Ω 0 _) rfl dX9_years_47 ?_
      refine R_aload (i := 4) dX9_years_50 rfl ?_
      refine R_get foX9_216 hL2 (cE_2 Ω 0 _) rfl dX9_years_52 ?_
      refine R_aload (i := 4) dX9_years_55 rfl ?_
      refine R_get foX9_219 hL2 (cE_2 Ω 0 _) rfl dX9_years_57 ?_
      refine R_aload (i := 4) dX9_years_60 rfl ?_
      refine R_get foX9_222 hL2 (cE_2 Ω 0 _) rfl dX9_years_62 ?_
      refine R_aload (i := 4) dX9_years_65 rfl ?_
      refine R_get foX9_225 hL2 (cE_2 Ω 0 _) rfl dX9_years_67 ?_
      refine R_iconst (v := 0) dX9_years_70 rfl ?_
      refine A_callV (ctA_act l Ω (σ2 2 0 1) (σ2 2 0 2) (σ2 2 0 3) (σ2 2 0 4) (σ2 2 0 5) 0 hL0 σ2 _ _ hO e4) okX9_act mw_591 hL0 (cE_9 Ω 0 _) rfl rfl (Nat.le_of_ble_eq_true rfl) rfl rfl ⟨Nat.le_of_ble_eq_true rfl, Nat.le_of_ble_eq_true rfl⟩ ⟨by show _ ≤ mc; omega, by show _ ≤ ms; omega⟩ dX9_years_71 (fun Ω2 hE2 hO2 => ?_)
      refine R_eq (lv2 := [some (rf Ω2 9 0), some (.int x1), none, none, some (rf Ω2 2 0), some (.int x5)]) (st2 := [.int r3]) (by simp only [rf, hE2.a hL0, hE2.a hL2]) rfl ?_
      refine R_pop dX9_years_74 rfl ?_
      refine R_iinc (v := x5 + 1) (lv2 := [some (rf Ω2 9 0), some (.int x1), none, none, some (rf Ω2 2 0), some (.int (x5 + 1))]) dX9_years_75 rfl rfl (by decide) rfl rfl ?_
      refine R_goto (tgt := 33) dX9_years_78 (by decide) ?_
      exact ih Ω2 _ _ (x5 + 1) σ4 ⟨delD_step hE hE2, hO2, hE2.l hL0, hE2.l hL2, by omega, by omega⟩ h
set_option maxRecDepth 100000 in
set_option maxHeartbeats 4000000 in
theorem ctA_years (l : Launch) (Ω : rO) (x1 : Int32) (x2 : Int64) (hL0 : oL Ω 9 0) (hn : ¬ oL Ω 2 0) (σ : rS) (r' : Int32) (σ' : rS) (hO : WO Ω (σ 29 0)) (h : fX9_years x1 x2 σ = some (r', σ')) : CtA l Ω yX9_years cX9_years 6 (some .int) (rmA 7 211 (24 * (cntF (σ' 29 0) - cntF (σ 29 0)) + 1) (1310 * (cntF (σ' 29 0) - cntF (σ 29 0)) + 6)) [rf Ω 9 0, .int x1, .long x2] σ r' σ' (24 * (cntF (σ' 29 0) - cntF (σ 29 0)) + 1) (1310 * (cntF (σ' 29 0) - cntF (σ 29 0)) + 6) := by
  refine CtA.of (own := RX9) (lv := [some (rf Ω 9 0), some (.int x1), some (.long x2), none, none, none]) (by decide) rfl (Nat.le_of_ble_eq_true rfl) rfl (fun hW => ?_)
  have h := KE_hit h
  unfold fX9_years at h
  refine R_aload_n (i := 0) dX9_years_0 rfl rfl ?_
  refine R_get foX9_117 hL0 (cE_9 Ω 0 _) rfl dX9_years_1 ?_
  refine R_if_eq (tgt := 18) dX9_years_4 (by decide) (fun hc => ?_) (fun hc => ?_)
  · have h := hit_t h hc
    refine R_iconst (v := (-1)) dX9_years_18 rfl ?_
    exact A_iret2 (ExtN.rf Ω) hO (Nat.zero_le _) (Nat.zero_le _) dX9_years_19 rfl h
  · have h := hit_f h hc
    refine R_iload_n (i := 1) dX9_years_7 rfl rfl ?_
    refine R_iconst (v := 1) dX9_years_8 rfl ?_
    refine R_icmp_lt (tgt := 18) dX9_years_9 (by decide) (fun hc => ?_) (fun hc => ?_)
    · have h := hit_t h hc
      refine R_iconst (v := (-1)) dX9_years_18 rfl ?_
      exact A_iret2 (ExtN.rf Ω) hO (Nat.zero_le _) (Nat.zero_le _) dX9_years_19 rfl h
    · have h := hit_f h hc
      refine R_iload_n (i := 1) dX9_years_12 rfl rfl ?_
      refine R_bipush (v := 40) dX9_years_13 rfl ?_
      refine R_icmp_le (tgt := 20) dX9_years_15 (by decide) (fun hc => ?_) (fun hc => ?_)
      · have h := hit_f h hc
        refine A_newD hO hn mw_883 dX9_years_20 (by show 0 + 1 ≤ _ + 1; omega) (by show 0 + 6 ≤ _ + 6; omega) (fun a hO1 => ?_)
        have hE1 := delD_add (a := a) hn
        have hW1 := hO1.1
        have hK0 : oL (addD Ω a) 9 0 := Or.inl hL0
        have hK2 : oL (addD Ω a) 2 0 := Or.inr ⟨rfl, rfl⟩
        have e9 : oA (addD Ω a) 9 0 = oA Ω 9 0 := oA_Dn (by omega)
        have e29 : wrR σ 2 0 (fun _ => 0) 29 = σ 29 := by unfold wrR; rw [if_neg (by decide)]
        generalize wrR σ 2 0 (fun _ => 0) = σ0 at h e29 ⊢
        generalize addD Ω a = Ω1 at hO1 hE1 hW1 hK0 hK2 e9 ⊢
        refine R_eq (lv2 := [some (rf Ω1 9 0), some (.int x1), some (.long x2), none, none, none]) (st2 := [rf Ω1 2 0]) (by simp only [rf, e9]) rfl ?_
        refine R_dup dX9_years_23 rfl ?_
        refine R_lload_n (i := 2) dX9_years_24 rfl rfl ?_
        obtain ⟨r1, σ1, e1, h⟩ := hit_bdE h
        have f29 : σ1 29 = σ0 29 := frX2_init _ _ _ _ e1 29 (by decide)
        refine R_callIv (n := 1) (As := [.long x2]) (c := 2) (k := 0) (rest := [rf Ω1 2 0]) (ctX2_init l Ω1 x2 hK2 _ _ (hit_mono (KE_hit e1) (fun r s hrs => ?_))) ⟨mw_887, mw_23, by decide +kernel⟩ rfl mw_886 mw_885 rfl rfl (Nat.le_of_ble_eq_true rfl) rfl rfl ⟨Nat.le_of_ble_eq_true rfl, Nat.le_of_ble_eq_true rfl⟩ ⟨by show 0 + 1 ≤ _ + 1; omega, by show 0 + 6 ≤ _ + 6; omega⟩ dX9_years_25
        rw [hrs.2]
        refine R_astore (lv2 := [some (rf Ω1 9 0), some (.int x1), some (.long x2), none, some (rf Ω1 2 0), none]) dX9_years_28 (by decide) rfl rfl ?_
        refine R_iconst (v := 0) dX9_years_30 rfl ?_
        refine R_istore (lv2 := [some (rf Ω1 9 0), some (.int x1), some (.long x2), none, some (rf Ω1 2 0), some (.int 0)]) dX9_years_31 (by decide) rfl rfl ?_
        refine R_drop (lv2 := [some (rf Ω1 9 0), some (.int x1), none, none, some (rf Ω1 2 0), some (.int 0)]) 2 rfl ?_
        have g29 : σ1 29 = σ 29 := f29.trans e29
        refine rlX9_years_L33 x1 fu Ω1 _ _ 0 σ1 ⟨hE1, by rw [g29]; exact hO1, hK0, hK2, ?_, ?_⟩ (hit_bd h)
        · rw [g29]; omega
        · rw [g29]; omega
      · have h := hit_t h hc
        refine R_iconst (v := (-1)) dX9_years_18 rfl ?_
        exact A_iret2 (ExtN.rf Ω) hO (Nat.zero_le _) (Nat.zero_le _) dX9_years_19 rfl h
