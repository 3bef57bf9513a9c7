/-! NurseryHeap.thing where it throws; NurseryHeapLaw.thing, which catches -/
def nsE : String := "java/util/NoSuchElementException"
def nsN : List String := ["java/lang/RuntimeException", "java/lang/Exception"]
theorem nsw_1098 : Cond.classLink RX9 150 nsE ∈ TT := TT_mem (List.mem_append_right _ (List.mem_of_getElem? (i := 1098) (by decide +kernel))) rfl
theorem nsw_1093 : Cond.classLink RL 13 nsE ∈ TT := TT_mem (List.mem_append_right _ (List.mem_of_getElem? (i := 1093) (by decide +kernel))) rfl
theorem nsw_22 : Cond.initialized nsE ∈ TT := TT_mem (List.mem_append_right _ (List.mem_of_getElem? (i := 22) (by decide +kernel))) rfl
theorem nsw_0 : Cond.initialized RL ∈ TT := TT_mem (List.mem_append_right _ (List.mem_of_getElem? (i := 0) (by decide +kernel))) rfl
theorem nsw_1097 : Cond.code yX9_thing cX9_thing 4 (some .int) ∈ TT := TT_mem (List.mem_append_right _ (List.mem_of_getElem? (i := 1097) (by decide +kernel))) rfl
theorem nsw_1092 : Cond.codeWith yL_thing cL_thing 5 (some .int) [(0, 10, 13, 13)] ∈ TT := TT_mem (List.mem_append_right _ (List.mem_of_getElem? (i := 1092) (by decide +kernel))) rfl
theorem nsw_1091 : Cond.static yL_thing ∈ TT := TT_mem (List.mem_append_right _ (List.mem_of_getElem? (i := 1091) (by decide +kernel))) rfl
theorem nsw_1090 : Cond.methodLink RL 46 yL_thing ∈ TT := TT_mem (List.mem_append_right _ (List.mem_of_getElem? (i := 1090) (by decide +kernel))) rfl
theorem nsw_1094 : Cond.methodLink RL 7 yX9_thing ∈ TT := TT_mem (List.mem_append_right _ (List.mem_of_getElem? (i := 1094) (by decide +kernel))) rfl
theorem nsw_1095 : Cond.instanceMethod yX9_thing ∈ TT := TT_mem (List.mem_append_right _ (List.mem_of_getElem? (i := 1095) (by decide +kernel))) rfl
theorem nsw_1096 : Cond.selects yX9_thing.cls yX9_thing yX9_thing ∈ TT := TT_mem (List.mem_append_right _ (List.mem_of_getElem? (i := 1096) (by decide +kernel))) rfl
theorem nsw_1100 : Cond.castable nsE nsE ∈ nwds := List.mem_filter.mpr ⟨List.mem_append_right _ (List.mem_of_getElem? (i := 1100) (by decide +kernel)), rfl⟩
theorem nsok_thing : CokV yX9_thing cX9_thing 4 (some .int) 2 9 := ⟨⟨nsw_1097, mw_1, by decide +kernel⟩, nsw_1095, nsw_1096, ⟨_, rfl, rfl⟩⟩
set_option maxRecDepth 100000 in
theorem ns_good : ∀ w ∈ (vx_at0 RX9 152 nsE nsN).filter goodWord, w ∈ TT := by decide +kernel
set_option maxRecDepth 100000 in
theorem ns_rest : ∀ w ∈ (vx_at0 RX9 152 nsE nsN).filter (fun w => !goodWord w), w ∈ nwds := by decide +kernel
set_option maxRecDepth 100000 in
theorem ns_ot : ∀ w ∈ Cond.classLink RX9 150 nsE :: Cond.initialized nsE :: vx_at0 RX9 152 nsE nsN, vx_ot w = true := by decide +kernel
theorem nwds_tab {w : Cond} (hw : w ∈ nwds) : w.onTables = true := by
  have hn := (List.mem_filter.mp hw).2
  unfold isNest at hn
  split at hn
  · rfl
  · rfl
  · rfl
  · cases hn
theorem ns_hat {args : Array Value} {s : State} (h1 : ∀ w ∈ TT, w.before args s = true) (h2 : ∀ w ∈ nwds, va_Nw w s) : ∀ w ∈ vx_at0 RX9 152 nsE nsN, w.before args s = true :=
  vx_hat (fun w hw => h1 w (ns_good w hw)) ns_rest (fun w hw => va_Nw.use (nwds_tab hw) (h2 w hw))
section PW
variable {p : Program} {l : Launch} {e : Env} {s : State} {m : MethodId} {args : Array Value} {below : List Frame} {meth : Method} {c0 : Code} {H : Heap} {locs : List Loc} {ls : Array Slot}
variable {Ω : rO} {cc : ByteArray} {own : String} {nL : Nat} {ret : Option FieldType} {rm : Room} {QQ : State → Prop} {kc ks : Nat} {pc : Nat} {lv : List (Option Value)} {st rest : List Value} {σ : rS}
theorem P_get {i ci j c k : Nat} {fs : List Value} {v : Value} (B : rB Ω cc own nL ret p s m args meth c0) (hF : Fok own i ci j) (hL : oL Ω c k) (hc : cE Ω c k (σ c k) = .inr (ci, fs)) (hv : fs[j]? = some v) (hd : decode cc pc = .ok (.getfield i, 3)) (hP : HP Ω σ H)
    (kk : W p l e rm s m args below meth c0 H locs kc ks QQ (F0 m (pc + 3) ls (v :: st))) : W p l e rm s m args below meth c0 H locs kc ks QQ (F0 m pc ls (rf Ω c k :: st)) := by
  obtain ⟨C, T, N, h1, h2, h3, h4⟩ := hF
  exact va_get (ws := [(oA Ω c k, .inr (ci, fs))]) B.1 B.2.1 B.2.2.2.2.2.1 h2 B.2.2.2.2.1 B.2.2.2.2.2.2.2.1 (hP.one hL hc) 0 rfl h1 j h3 (B.2.2.2.2.2.1 _ h4) (fun _ h => h) hv hd kk
theorem P_core {K2 : Int32 → rS → Prop} {a : Array Value} {ret2 : Option FieldType}
    (hr : va_Run p l e rm s m args below meth c0 H locs kc ks 0 0 (F0 m pc ls st) rest (rQ Ω ret2 K2 a) (oF Ω)) (hS : va_S (oF Ω) s.heap H locs)
    (hk : ∀ r σ2, K2 r σ2 → ∀ (H1 : Heap) (locs1 : List Loc), HP Ω σ2 H1 → va_S (oF Ω) s.heap H1 locs1 → W p l e rm s m args below meth c0 H1 locs1 kc ks QQ (F0 m (pc + 3) ls ((rV ret2 r).toList ++ rest))) : W p l e rm s m args below meth c0 H locs kc ks QQ (F0 m pc ls st) := by
  intro T hT X
  obtain ⟨v, st₀, t, T', L, h0, X', hL, e1, e2, ⟨⟨r, σ2, hv, hp, hb⟩, hz, hq⟩, sg⟩ := hr T hT X
  cases hv
  rw [h0] at hz hq
  obtain ⟨t2, a1, b1⟩ := hk r σ2 hp T'.heap (locs ++ L) (by rw [e1]; exact hb)
    ⟨Nat.le_trans hS.1 (by rw [e1]; exact hz), fun q h1 h2 => by rw [e1, hq q (Nat.lt_of_lt_of_le h1 hS.1) h2]; exact hS.2.1 q h1 h2, fun q hq => by
      rcases List.mem_append.mp hq with h | h
      · exact hS.2.2 q h
      · exact hL q h⟩ T' rfl X'
  exact ⟨t2, sg _ a1, b1⟩
theorem P_callV {y : MethodName} {cc2 : ByteArray} {nL2 : Nat} {ret2 : Option FieldType} {rm2 : Room} {n ci i c k : Nat} {As fs : List Value} {K2 : Int32 → rS → Prop} (B : rB Ω cc own nL ret p s m args meth c0) (hC : Ct l Ω y cc2 nL2 ret2 rm2 (rf Ω c k :: As) σ K2) (ho : CokV y cc2 nL2 ret2 n ci) (hm : Cond.methodLink own i y ∈ TT) (hL : oL Ω c k) (hc : cE Ω c k (σ c k) = .inr (ci, fs)) (hn : As.length = n) (hst : As.reverse ++ rf Ω c k :: rest = st) (hw : (rest.map fun v => v.category).sum ≤ 8)
    (hrc : rm2.cells = 0) (hrs : rm2.slots = 0) (hR : rm2.frames + 1 ≤ rm.frames ∧ 8 + (nL2 + 11) + rm2.locals ≤ rm.locals) (hf : kc ≤ rm.cells ∧ ks ≤ rm.slots) (hd : decode cc pc = .ok (.invokevirtual i, 3)) (hP : HP Ω σ H) (hS : va_S (oF Ω) s.heap H locs) (hl : ls.size = nL)
    (hk : ∀ r σ2, K2 r σ2 → ∀ (H1 : Heap) (locs1 : List Loc), HP Ω σ2 H1 → va_S (oF Ω) s.heap H1 locs1 → W p l e rm s m args below meth c0 H1 locs1 kc ks QQ (F0 m (pc + 3) ls ((rV ret2 r).toList ++ rest))) : W p l e rm s m args below meth c0 H locs kc ks QQ (F0 m pc ls st) := by
  obtain ⟨ho1, ho2, ho3, q, ho4, ho5⟩ := ho
  have hK := B.2.2.2.2.2.2.2.1
  refine P_core (K2 := K2) (rest := rest) (va_runV (As := As) (b := oA Ω c k) (C := y.cls) (Ts := TT) (own := own) (index := i) (bytes := cc2) (maxL := nL2) (ret := ret2) ⟨B.1, B.2.1, B.2.2.2.1, B.2.2.2.2.1, B.2.2.2.2.2.1⟩ hC ⟨rB.cok B ho1 hm hrc hrs hR, B.2.2.2.2.2.1 _ ho2, B.2.2.2.2.2.1 _ ho3⟩ ⟨rPre.blind σ _, ?_, rPre.start B hP hS _⟩ rfl hn hl hst.symm (lv_room hw) hd hf) hS hk
  have := va_recv (q0 := 0) hK (hP.one hL hc) ho4 rfl
  rw [ho5] at this
  exact this
end PW
def thX (Ω : rO) (σ : rS) : String → State → State → Prop := fun E st t => E = nsE ∧ HP Ω σ t.heap ∧ va_F (oF Ω) st t
set_option maxRecDepth 100000 in
set_option maxHeartbeats 4000000 in
theorem ctT_thing (l : Launch) (hst : l.stackTraces = false) (Ω : rO) (x1 x2 : Int32) (hL0 : oL Ω 9 0) (σ : rS) (h : hit (fX7_find 0 x1 σ) (fun r s => s = σ ∧ (r = -1 ∨ x2 < 0 ∨ 7 < x2))) :
    vx_Met l yX9_thing (Cond.code yX9_thing cX9_thing 4 (some .int) :: TT) (rmA 8 150 1 6) (va_Pc [rf Ω 9 0, .int x1, .int x2] (rPre Ω σ)) (fun _ _ _ _ => False) (thX Ω σ) 1 6 (oF Ω) := by
  refine vx_ofW (cc := cX9_thing) (maxL := 4) (ret := some .int) (by decide) rfl ?_
  intro p e s m args below meth c s₁ B hml htab hv
  obtain ⟨rfl, hP, hK, hsz, hW, hSF, hWW⟩ := hv
  have hts := atoms_spec (ws := Cond.code yX9_thing cX9_thing 4 (some .int) :: TT) B.pre
  have hfc : s.vm.findClass RX9 = some m.cls := findClass_of_methodNamed B.named
  have hl := lv_entry [rf Ω 9 0, .int x1, .int x2] (n := 4) (Nat.le_of_ble_eq_true rfl)
  rw [lg_entry_eq]
  generalize (lg_sl [rf Ω 9 0, .int x1, .int x2] ++ List.replicate (4 - (lg_sl [rf Ω 9 0, .int x1, .int x2]).length) Slot.unset).toArray = ls at hl ⊢
  have hl : rL ls 4 [some (rf Ω 9 0), some (.int x1), some (.int x2), none] := ⟨hl.1, hl.2.1, fun i v hi => hl.2.2 (i, v) (rFill_mem (n := 4) hi)⟩
  have hB : rB Ω cX9_thing RX9 4 (some .int) p s m [rf Ω 9 0, .int x1, .int x2].toArray meth c := ⟨B.exec, B.bytes, B.returns, hml, hfc, fun w hw => hts w (List.mem_cons_of_mem _ hw), B.notSynchronized, hK, hsz, hW, hSF, hWW⟩
  have thr : ∀ (H1 : Heap) (locs1 : List Loc) (ls1 : Array Slot), ls1.size = 4 → HP Ω σ H1 → va_S (oF Ω) s.heap H1 locs1 → W p l e (rmA 8 150 1 6) s m [rf Ω 9 0, .int x1, .int x2].toArray below meth c H1 locs1 0 0 (vx_MQ below (fun _ _ _ _ => False) (thX Ω σ) [rf Ω 9 0, .int x1, .int x2].toArray s 1 6 (oF Ω)) (F0 m 24 ls1 []) := fun H1 locs1 ls1 hz hP1 hS1 =>
    vx_throw0 (own := RX9) (cls := nsE) (names := nsN) (ik := 150) (ic := 152) (A := oFb Ω) hB.1 hB.2.1 hst hfc (by decide) (by decide) (hB.2.2.2.2.2.1 _ nsw_1098) (hB.2.2.2.2.2.1 _ nsw_22) (ns_hat hB.2.2.2.2.2.1 hWW.1) ns_ot hSF.2.2.2.2.2.2.2.2.2.1 hSF.2.2.2.2.2.2.2.2.2.2.1 (hS1.mono (fun _ z => hW.fb z)) (hz.trans hml.symm) dX9_thing_24 dX9_thing_27 dX9_thing_28 dX9_thing_31 (fun x hx => (htab x hx).elim) (Nat.le_of_ble_eq_true rfl) (Nat.le_of_ble_eq_true rfl) (Nat.le_of_ble_eq_true rfl) (Nat.le_of_ble_eq_true rfl) hB.2.2.2.2.2.2.1
      (fun t _ h1 h2 => ⟨rfl, fun c k hL => (hP1 c k hL).kept (h2 _ (hP1 c k hL).lt), Nat.le_trans hS1.1 h1, fun q hq hn => (h2 q (Nat.lt_of_lt_of_le hq hS1.1)).trans (hS1.2.1 q hq hn)⟩) hS1.2.2 (Nat.le_refl _) (Nat.le_refl _)
  refine lv_aload_n hB.1 hB.2.1 dX9_thing_0 rfl (hl.2.2 0 _ rfl) ?_
  refine P_get hB foX9_40 hL0 (cE_9 Ω 0 _) rfl dX9_thing_1 hP ?_
  refine lv_iload_n hB.1 hB.2.1 dX9_thing_4 rfl (hl.2.2 1 _ rfl) ?_
  refine P_callV hB (ctX7_find l Ω 0 x1 (WF.kid hW 5 hL0 rfl) σ _ h) okX7_find mw_563 (WF.kid hW 5 hL0 rfl) (cE_7 Ω 0 _) rfl rfl (Nat.le_of_ble_eq_true rfl) rfl rfl ⟨Nat.le_of_ble_eq_true rfl, Nat.le_of_ble_eq_true rfl⟩ ⟨Nat.zero_le _, Nat.zero_le _⟩ dX9_thing_5 hP va_S.rf hl.1 ?_
  rintro r σ2 ⟨rfl, hr⟩ H1 locs1 hP1 hS1
  refine lv_istore_n hB.1 hB.2.1 dX9_thing_8 rfl hl.has (by decide) rfl (fun ls2 h2 => ?_)
  have hl2 : rL ls2 4 [some (rf Ω 9 0), some (.int x1), some (.int x2), some (.int r)] := rL.set1 h2 rfl rfl
  refine lv_iload_n hB.1 hB.2.1 dX9_thing_9 rfl (hl2.2.2 3 _ rfl) ?_
  refine lv_iconst (v := -1) hB.1 hB.2.1 dX9_thing_10 rfl ?_
  refine lv_icmp_eq (tgt := 24) hB.1 hB.2.1 dX9_thing_11 (by decide) (fun _ => thr H1 locs1 ls2 hl2.1 hP1 hS1) (fun hc => ?_)
  refine lv_iload_n hB.1 hB.2.1 dX9_thing_14 rfl (hl2.2.2 2 _ rfl) ?_
  refine lv_if_lt (tgt := 24) hB.1 hB.2.1 dX9_thing_15 (by decide) (fun _ => thr H1 locs1 ls2 hl2.1 hP1 hS1) (fun hc2 => ?_)
  refine lv_iload_n hB.1 hB.2.1 dX9_thing_18 rfl (hl2.2.2 2 _ rfl) ?_
  refine lv_bipush (v := 7) hB.1 hB.2.1 dX9_thing_19 rfl ?_
  refine lv_icmp_le (tgt := 32) hB.1 hB.2.1 dX9_thing_21 (by decide) (fun hc3 => ?_) (fun _ => thr H1 locs1 ls2 hl2.1 hP1 hS1)
  exfalso
  rcases hr with hr | hr | hr
  · exact hc hr
  · exact hc2 hr
  · exact absurd hr (Int32.not_lt.mpr hc3)
theorem metWT {l : Launch} {y : MethodName} {ws ws' : List Cond} {rm : Room} {Pc : Array Value → State → Prop} {Qc : Array Value → State → Outcome → State → Prop} {mc ms : Nat} {free : Addr → Prop} {cc : ByteArray} {maxL : Nat} {ret : Option FieldType} {hh : List (Nat × Nat × Nat × Nat)}
    (hy : plainName y.cls = true) (hw : ws = Cond.codeWith y cc maxL ret hh :: ws')
    (body : ∀ p e s m args below meth c s₁, BodyLoose p l y (headSpec ws rm) cc maxL ret e s m args below meth c s₁ → c.maxLocals = maxL → c.exceptionTable.toList = tableOf hh → Pc args s →
      W p l e (headSpec ws rm).room s m args below meth c s.heap [] 0 0 (MQ below Qc args s mc ms free) (entryFrame m args maxL)) : Met l y ws rm Pc Qc mc ms free := by
  refine MetFree.of_bodyS (code := cc) (maxLocals := maxL) (ret := ret) hy ?_ ?_
  · intro args s m h hn
    obtain ⟨m9, meth, c, hn9, h1, h2, h3, h4, -, h5, h6, -⟩ := Cond.codeWith_spec (atoms_spec (ws := ws) h _ (by rw [hw]; exact List.mem_cons_self))
    cases hn.symm.trans hn9
    exact ⟨meth, c, h1, h2, h3, h4, h5, h6⟩
  · intro p e s m args below meth c s₁ B hml hP _
    have hh0 : s₁.heap = s.heap := by rw [B.state]; rfl
    have ht := vx_table (x := y) B (atoms_spec (ws := ws) B.pre _ (by rw [hw]; exact List.mem_cons_self))
    obtain ⟨t, a1, o, b1, b2, b3⟩ := body p e s m args below meth c s₁ B hml ht hP s₁ hh0 (Stand.of_body B)
    exact ⟨t, o, a1, b1, b2, ⟨b3.1, b3.2⟩⟩
/-- the law's own 'thing': 0 and what it answers, or 1 where it threw -/
noncomputable def setOut (σ : rS) (v : Int64) : rS := wr (wr σ 77 0 100 (lHi v)) 77 0 200 (lLo v)
theorem setOut_out (σ : rS) (v : Int64) : lJ (setOut σ v 77 0 100) (setOut σ v 77 0 200) = v := by
  have e1 : setOut σ v 77 0 = upd (upd (σ 77 0) 100 (lHi v)) 200 (lLo v) := by
    unfold setOut wr
    rw [wrR_eq, wrR_eq]
  rw [e1]
  simp only [upd]
  exact lJ_split v
theorem arr1_upd (cA : ClassId) (a x : Int64) : arrV cA 1 (updV (fun _ => .long a) 0 (.long x)) = arrV cA 1 (fun _ => .long x) := by
  unfold arrV
  congr 2
  funext j
  have : j.val = 0 := by omega
  simp [updV, this]
section PW2
variable {p : Program} {l : Launch} {e : Env} {s : State} {m : MethodId} {args : Array Value} {below : List Frame} {meth : Method} {c0 : Code} {H : Heap} {locs : List Loc} {ls : Array Slot}
variable {Ω : rO} {cc : ByteArray} {own : String} {nL : Nat} {ret : Option FieldType} {rm : Room} {QQ : State → Prop} {kc ks : Nat} {pc : Nat} {st : List Value} {σ : rS}
theorem P_last {x : Int64} (hx : p.tables.exec = Jvm.exec) (hb : c0.code = cc) (hK : va_K Ω.1 vwCl (oT Ω) s) (hW : WF Ω) (hL : oL Ω 77 0) (hd : decode cc pc = .ok (.lastore, 1)) (hP : HP Ω σ H) (hS : va_S (oF Ω) s.heap H locs)
    (kk : ∀ (H1 : Heap) (locs1 : List Loc), HP Ω (setOut σ x) H1 → va_S (oF Ω) s.heap H1 locs1 → W p l e rm s m args below meth c0 H1 locs1 kc ks QQ (F0 m (pc + 1) ls st)) : W p l e rm s m args below meth c0 H locs kc ks QQ (F0 m pc ls (.long x :: .int 0 :: rf Ω 77 0 :: st)) := by
  have hP0 := hP 77 0 hL
  rw [cE_77] at hP0
  refine W.last hx hb hP0 ((hK.2 3 (Ω.2.1 3, .long) rfl).1 1 (fun _ => .long (lJ (σ 77 0 100) (σ 77 0 200)))) (fun q => by cases q) (by show ¬ ((0 : Int32) < 0 ∨ (arrV _ _ _).slots.size ≤ _); rw [arrV_size]; show ¬ ((0 : Int32) < 0 ∨ 1 ≤ (0 : Int32).toNatClampNeg); decide) rfl rfl hd fun H1 e1 z oq => ?_
  have e2 : setOut σ x = wrR σ 77 0 (setOut σ x 77 0) := by
    funext c
    by_cases hc : c = 77
    · subst hc
      funext k
      by_cases hk : k = 0
      · subst hk
        rw [wrR_eq]
      · rw [wrR_ne _ _ _ _ (by omega)]
        unfold setOut wr
        rw [wrR_ne _ _ _ _ (by omega), wrR_ne _ _ _ _ (by omega)]
    · unfold setOut wr
      unfold wrR
      rw [if_neg hc, if_neg hc, if_neg hc]
  refine kk H1 _ ?_ (hS.put z oq (oF.of hL))
  rw [e2]
  refine HP.set hW hP hL ?_ oq
  rw [cE_77, setOut_out]
  show H1[_]? = some (vp_cell _ _)
  rw [e1, vp_cell_l, vp_cell_l, arrV_store]
  show some (arrV _ 1 (updV _ 0 _)) = _
  rw [arr1_upd]
end PW2
set_option maxRecDepth 100000 in
set_option maxHeartbeats 4000000 in
theorem ctL_thing (l : Launch) (Ω : rO) (x1 x2 : Int32) (hL0 : oL Ω 9 0) (hL7 : oL Ω 77 0) (σ : rS) (v : Int32) (σ2 : rS) (K : Int32 → rS → Prop) (h : fX9_thing x1 x2 σ = some (v, σ2)) (hK0 : K 0 (setOut σ2 v.toInt64)) :
    Met l yL_thing (Cond.codeWith yL_thing cL_thing 5 (some .int) [(0, 10, 13, 13)] :: TT) (rmA 10 190 0 0) (va_Pc [rf Ω 9 0, .int x1, .int x2, rf Ω 77 0] (rPre Ω σ)) (rQ Ω (some .int) K) 0 0 (oF Ω) := by
  refine metWT (cc := cL_thing) (maxL := 5) (ret := some .int) (hh := [(0, 10, 13, 13)]) (by decide) rfl ?_
  intro p e s m args below meth c s₁ B hml htab hv
  obtain ⟨rfl, hP, hK, hsz, hW, hSF, hWW⟩ := hv
  have hts := atoms_spec (ws := Cond.codeWith yL_thing cL_thing 5 (some .int) [(0, 10, 13, 13)] :: TT) B.pre
  have hfc : s.vm.findClass RL = some m.cls := findClass_of_methodNamed B.named
  have hl := lv_entry [rf Ω 9 0, .int x1, .int x2, rf Ω 77 0] (n := 5) (Nat.le_of_ble_eq_true rfl)
  rw [lg_entry_eq]
  generalize (lg_sl [rf Ω 9 0, .int x1, .int x2, rf Ω 77 0] ++ List.replicate (5 - (lg_sl [rf Ω 9 0, .int x1, .int x2, rf Ω 77 0]).length) Slot.unset).toArray = ls at hl ⊢
  have hl : rL ls 5 [some (rf Ω 9 0), some (.int x1), some (.int x2), some (rf Ω 77 0), none] := ⟨hl.1, hl.2.1, fun i v hi => hl.2.2 (i, v) (rFill_mem (n := 5) hi)⟩
  have hB : rB Ω cL_thing RL 5 (some .int) p s m [rf Ω 9 0, .int x1, .int x2, rf Ω 77 0].toArray meth c := ⟨B.exec, B.bytes, B.returns, hml, hfc, fun w hw => hts w (List.mem_cons_of_mem _ hw), B.notSynchronized, hK, hsz, hW, hSF, hWW⟩
  refine lv_aload_n hB.1 hB.2.1 dL_thing_0 rfl (hl.2.2 3 _ rfl) ?_
  refine lv_iconst (v := 0) hB.1 hB.2.1 dL_thing_1 rfl ?_
  refine lv_aload_n hB.1 hB.2.1 dL_thing_2 rfl (hl.2.2 0 _ rfl) ?_
  refine lv_iload_n hB.1 hB.2.1 dL_thing_3 rfl (hl.2.2 1 _ rfl) ?_
  refine lv_iload_n hB.1 hB.2.1 dL_thing_4 rfl (hl.2.2 2 _ rfl) ?_
  refine P_callV (K2 := KE v σ2) (rest := [.int 0, rf Ω 77 0]) hB (ctX9_thing l Ω x1 x2 hL0 σ _ (KE_hit h)) nsok_thing nsw_1094 hL0 (cE_9 Ω 0 _) rfl rfl (Nat.le_of_ble_eq_true rfl) rfl rfl ⟨Nat.le_of_ble_eq_true rfl, Nat.le_of_ble_eq_true rfl⟩ ⟨Nat.zero_le _, Nat.zero_le _⟩ dL_thing_5 hP va_S.rf hl.1 ?_
  rintro r s2 ⟨rfl, rfl⟩ H1 locs1 hP1 hS1
  refine lv_i2l hB.1 hB.2.1 dL_thing_8 rfl ?_
  refine P_last hB.1 hB.2.1 hK hW hL7 dL_thing_9 hP1 hS1 (fun H2 locs2 hP2 hS2 => ?_)
  refine lv_goto (tgt := 17) hB.1 hB.2.1 dL_thing_10 (by decide) ?_
  refine lv_iconst (v := 0) hB.1 hB.2.1 dL_thing_17 rfl ?_
  exact W.iret hB.1 hB.2.1 hB.2.2.1 (fun t ht _ => ⟨⟨0, _, rfl, hK0, by rw [ht]; exact hP2⟩, hS2.F ht⟩) hS2.2.2 dL_thing_18 hB.2.2.2.2.2.2.1
set_option maxRecDepth 100000 in
set_option maxHeartbeats 4000000 in
theorem ctL_thingT (l : Launch) (hst : l.stackTraces = false) (Ω : rO) (hN : oN Ω ≤ oB Ω) (x1 x2 : Int32) (hL0 : oL Ω 9 0) (hL7 : oL Ω 77 0) (σ : rS) (K : Int32 → rS → Prop) (h : hit (fX7_find 0 x1 σ) (fun r s => s = σ ∧ (r = -1 ∨ x2 < 0 ∨ 7 < x2))) (hK0 : K 1 σ) :
    Met l yL_thing (Cond.codeWith yL_thing cL_thing 5 (some .int) [(0, 10, 13, 13)] :: TT) (rmA 10 190 1 6) (va_Pc [rf Ω 9 0, .int x1, .int x2, rf Ω 77 0] (rPre Ω σ)) (rQ Ω (some .int) K) 1 6 (oF Ω) := by
  refine metWT (cc := cL_thing) (maxL := 5) (ret := some .int) (hh := [(0, 10, 13, 13)]) (by decide) rfl ?_
  intro p e s m args below meth c s₁ B hml htab hv
  obtain ⟨rfl, hP, hK, hsz, hW, hSF, hWW⟩ := hv
  have hts := atoms_spec (ws := Cond.codeWith yL_thing cL_thing 5 (some .int) [(0, 10, 13, 13)] :: TT) B.pre
  have hfc : s.vm.findClass RL = some m.cls := findClass_of_methodNamed B.named
  have hl := lv_entry [rf Ω 9 0, .int x1, .int x2, rf Ω 77 0] (n := 5) (Nat.le_of_ble_eq_true rfl)
  rw [lg_entry_eq]
  generalize (lg_sl [rf Ω 9 0, .int x1, .int x2, rf Ω 77 0] ++ List.replicate (5 - (lg_sl [rf Ω 9 0, .int x1, .int x2, rf Ω 77 0]).length) Slot.unset).toArray = ls at hl ⊢
  have hl : rL ls 5 [some (rf Ω 9 0), some (.int x1), some (.int x2), some (rf Ω 77 0), none] := ⟨hl.1, hl.2.1, fun i v hi => hl.2.2 (i, v) (rFill_mem (n := 5) hi)⟩
  have hB : rB Ω cL_thing RL 5 (some .int) p s m [rf Ω 9 0, .int x1, .int x2, rf Ω 77 0].toArray meth c := ⟨B.exec, B.bytes, B.returns, hml, hfc, fun w hw => hts w (List.mem_cons_of_mem _ hw), B.notSynchronized, hK, hsz, hW, hSF, hWW⟩
  refine lv_aload_n hB.1 hB.2.1 dL_thing_0 rfl (hl.2.2 3 _ rfl) ?_
  refine lv_iconst (v := 0) hB.1 hB.2.1 dL_thing_1 rfl ?_
  refine lv_aload_n hB.1 hB.2.1 dL_thing_2 rfl (hl.2.2 0 _ rfl) ?_
  refine lv_iload_n hB.1 hB.2.1 dL_thing_3 rfl (hl.2.2 1 _ rfl) ?_
  refine lv_iload_n hB.1 hB.2.1 dL_thing_4 rfl (hl.2.2 2 _ rfl) ?_
  obtain ⟨ho1, ho2, ho3, q0, ho4, ho5⟩ := nsok_thing
  have hrecv := va_recv (q0 := 0) hK (hP.one hL0 (cE_9 Ω 0 _)) ho4 rfl
  rw [ho5] at hrecv
  have hr := vx_runV (p := p) (l := l) (e := e) (R := rmA 10 190 1 6) (s := s) (m := m) (below := below) (meth := meth) (c := c) (H := s.heap) (locs := []) (cells := 0) (slots := 0) (g := F0 m 5 ls (.int x2 :: .int x1 :: rf Ω 9 0 :: .int 0 :: rf Ω 77 0 :: [])) (As := [.int x1, .int x2]) (b := oA Ω 9 0) (rest := [.int 0, rf Ω 77 0]) (C := yX9_thing.cls) (Ts := TT) (own := RL) (index := 7) (bytes := cX9_thing) (maxL := 4) (ret := some .int) (cc := cL_thing) (nL := 5) ⟨hB.1, hB.2.1, hB.2.2.2.1, hB.2.2.2.2.1, hB.2.2.2.2.2.1⟩ (ctT_thing l hst Ω x1 x2 hL0 σ h) ⟨callB_of 2 hB.2.2.2.2.2.1 (tbl_good ho1.1) rfl rfl rfl (hB.2.2.2.2.2.1 _ ho1.2.1) (hB.2.2.2.2.2.1 _ nsw_1094) ho1.2.2 ⟨Nat.le_of_ble_eq_true rfl, Nat.le_of_ble_eq_true rfl⟩, hB.2.2.2.2.2.1 _ ho2, hB.2.2.2.2.2.1 _ ho3⟩ ⟨rPre.blind σ _, hrecv, rPre.start hB hP va_S.rf _⟩ rfl rfl hl.1 rfl (lv_room (Nat.le_of_ble_eq_true rfl)) dL_thing_5 ⟨Nat.le_of_ble_eq_true rfl, Nat.le_of_ble_eq_true rfl⟩
  intro T hT X
  rcases hr T hT X with ⟨v, st₀, t, T', L, -, -, -, -, -, hF, -⟩ | ⟨q, st₀, t, T', L, E, ce, h0, X', hL, e1, e2, ⟨hE, hP1, hF⟩, hce, hcv, hcl, st⟩
  · exact hF.elim
  subst hE
  obtain ⟨k1, k2, k3⟩ := vx_keep h0 e1 (va_S.rf (A := oF Ω) (H0 := s.heap)) (fun _ _ z => z) (fun _ z => z) hL hF
  have kx : vx_W p l e (rmA 10 190 1 6) s m [rf Ω 9 0, .int x1, .int x2, rf Ω 77 0].toArray below meth c T'.heap ([] ++ L) (0 + 1) (0 + 6) (MQ below (rQ Ω (some .int) K) [rf Ω 9 0, .int x1, .int x2, rf Ω 77 0].toArray s 1 6 (oF Ω)) (F0 m 5 ls [.int 0, rf Ω 77 0]) q := by
    refine vx_catch (own := RL) (name := nsE) (E := nsE) hfc [] ⟨0, 10, 13, 13⟩ [] (by rw [htab]; rfl) (fun z hz => nomatch hz) (by decide) (by decide) (hB.2.2.2.2.2.1 _ nsw_1093) (va_Nw.use rfl (hWW.1 _ nsw_1100)) (by rw [e1]; exact hce) hcv hcl ?_
    refine lv_astore hB.1 hB.2.1 dL_thing_13 hl.has (by decide) rfl (fun ls2 h2 => ?_)
    refine lv_iconst (v := 1) hB.1 hB.2.1 dL_thing_15 rfl ?_
    exact W.iret hB.1 hB.2.1 hB.2.2.1 (fun t2 ht _ => ⟨⟨1, σ, rfl, hK0, by rw [ht, e1]; exact hP1⟩, k3.F ht⟩) k3.2.2 dL_thing_16 hB.2.2.2.2.2.2.1
  obtain ⟨t2, a1, b1⟩ := kx T' rfl X'
  exact ⟨t2, st.trans a1, b1⟩
