/-! contracts and calls for 'Run' -/
theorem tbl_good {y : MethodName} {cc : ByteArray} {nL : Nat} {ret : Option FieldType} (h : Cond.code y cc nL ret ∈ TT) : GoodIn TT (Cond.code y cc nL ret :: TT) := by
  have hg : ∀ w ∈ TT, goodWord w = true := fun w hw => (List.mem_filter.mp hw).2
  intro w hw
  rcases List.mem_cons.mp hw with rfl | hw
  · exact ⟨h, good_of_word (hg _ h)⟩
  · exact ⟨hw, good_of_word (hg _ hw)⟩
def rPre (Ω : rO) (σ : rS) (U : State) : Prop := HP Ω σ U.heap ∧ va_K Ω.1 vwCl (oT Ω) U ∧ oB Ω ≤ U.heap.size ∧ WF Ω ∧ SF Ω U U.heap ∧ WW Ω U
def Ct (l : Launch) (Ω : rO) (y : MethodName) (cc : ByteArray) (nL : Nat) (ret : Option FieldType) (rm : Room) (av : List Value) (σ : rS) (K : Int32 → rS → Prop) : Prop :=
  Met l y (Cond.code y cc nL ret :: TT) rm (va_Pc av (rPre Ω σ)) (rQ Ω ret K) 0 0 (oF Ω)
def rFill (n : Nat) (ps : List (Nat × Value)) : List (Option Value) := (List.range n).map (fun i => (ps.find? (fun q => q.1 == i)).map (fun q => q.2))
theorem rFill_mem {n : Nat} {ps : List (Nat × Value)} {i : Nat} {v : Value} (h : (rFill n ps)[i]? = some (some v)) : (i, v) ∈ ps := by
  unfold rFill at h
  rw [List.getElem?_map] at h
  cases hr : (List.range n)[i]? with
  | none => rw [hr] at h; cases h
  | some j =>
    rw [hr] at h
    obtain ⟨hl, hj⟩ := List.getElem?_eq_some_iff.mp hr
    rw [List.getElem_range] at hj
    subst hj
    have h : Option.map (fun q => q.2) (ps.find? (fun q => q.1 == i)) = some v := Option.some.inj h
    cases hf : ps.find? (fun q => q.1 == i) with
    | none => rw [hf] at h; cases h
    | some q =>
      rw [hf] at h
      have hv : q.2 = v := Option.some.inj h
      have hq : (q.1 == i) = true := by have := List.find?_some hf; exact this
      have hm := List.mem_of_find?_eq_some hf
      have hq1 : q.1 = i := beq_iff_eq.mp hq
      have : q = (i, v) := by rw [← hq1, ← hv]
      rw [← this]
      exact hm
theorem Ct.of {l : Launch} {Ω : rO} {y : MethodName} {cc : ByteArray} {own : String} {nL : Nat} {ret : Option FieldType} {rm : Room} {av : List Value} {σ : rS} {K : Int32 → rS → Prop} {lv : List (Option Value)} (hy : plainName y.cls = true) (hown : y.cls = own) (hlen : (lg_sl av).length ≤ nL) (hlv : rFill nL (lv_args 0 av) = lv)
    (h : WF Ω → Run l Ω cc own nL ret rm K 0 lv [] σ) : Ct l Ω y cc nL ret rm av σ K := by
  refine Met.ofW (cc := cc) (maxL := nL) (ret := ret) hy rfl ?_
  intro p e s m args below meth c s₁ B hml hv
  obtain ⟨rfl, hP, hK, hsz, hW, hSF, hWW⟩ := hv
  have hts := atoms_spec (ws := Cond.code y cc nL ret :: TT) B.pre
  have hfc : s.vm.findClass own = some m.cls := by rw [← hown]; exact findClass_of_methodNamed B.named
  have hl := lv_entry av (n := nL) hlen
  rw [lg_entry_eq]
  generalize (lg_sl av ++ List.replicate (nL - (lg_sl av).length) Slot.unset).toArray = ls at hl ⊢
  refine h hW p e s m av.toArray below meth c ⟨B.exec, B.bytes, B.returns, hml, hfc, fun w hw => hts w (List.mem_cons_of_mem _ hw), B.notSynchronized, hK, hsz, hW, hSF, hWW⟩ s.heap [] ls hP va_S.rf ⟨hl.1, hl.2.1, fun i v hi => ?_⟩
  rw [← hlv] at hi
  exact hl.2.2 (i, v) (rFill_mem hi)
/-- what the tables say of a method that is called -/
def Cok (y : MethodName) (cc2 : ByteArray) (nL2 : Nat) (ret2 : Option FieldType) (n : Nat) : Prop := Cond.code y cc2 nL2 ret2 ∈ TT ∧ Cond.initialized y.cls ∈ TT ∧ (y.cls ≠ "java/lang/invoke/MethodHandle" ∧ y.cls ≠ "java/lang/invoke/VarHandle" ∧ (parseMethodDescriptor y.desc).map (fun d => d.parameters.length) = some n)
def CokV (y : MethodName) (cc2 : ByteArray) (nL2 : Nat) (ret2 : Option FieldType) (n ci : Nat) : Prop := Cok y cc2 nL2 ret2 n ∧ Cond.instanceMethod y ∈ TT ∧ Cond.selects y.cls y y ∈ TT ∧ ∃ q : vw_C, vwCl[ci]? = some q ∧ q.1 = y.cls
def CokS (y : MethodName) (cc2 : ByteArray) (nL2 : Nat) (ret2 : Option FieldType) (n : Nat) : Prop := Cok y cc2 nL2 ret2 n ∧ Cond.static y ∈ TT
section RC
variable {l : Launch} {Ω : rO} {cc : ByteArray} {own : String} {nL : Nat} {ret : Option FieldType} {rm : Room} {K : Int32 → rS → Prop} {Q : List Frame → Array Value → State → State → Prop} {kc ks : Nat} {pc : Nat} {lv : List (Option Value)} {st rest : List Value} {σ : rS}
variable {y : MethodName} {cc2 : ByteArray} {nL2 : Nat} {ret2 : Option FieldType} {rm2 : Room} {n ci i c k : Nat} {As fs : List Value} {t2 : FieldType} {host : String}
theorem R_core {p : Program} {e : Env} {s : State} {m : MethodId} {args : Array Value} {below : List Frame} {meth : Method} {c0 : Code} {H : Heap} {locs : List Loc} {ls : Array Slot} {K2 : Int32 → rS → Prop} {a : Array Value}
    (B : rB Ω cc own nL ret p s m args meth c0) (hr : va_Run p l e rm s m args below meth c0 H locs kc ks 0 0 (F0 m pc ls st) rest (rQ Ω ret2 K2 a) (oF Ω)) (hS : va_S (oF Ω) s.heap H locs) (hl : rL ls nL lv)
    (hk : ∀ r σ2, K2 r σ2 → RunG l Ω cc own nL ret rm Q kc ks (pc + 3) lv ((rV ret2 r).toList ++ rest) σ2) : W p l e rm s m args below meth c0 H locs kc ks (Q below args s) (F0 m pc ls st) := by
  intro T hT X
  obtain ⟨v, st₀, t, T', L, h0, X', hL, e1, e2, ⟨⟨r, σ2, hv, hp, hb⟩, hz, hq⟩, sg⟩ := hr T hT X
  cases hv
  rw [h0] at hz hq
  obtain ⟨t2, a1, b1⟩ := hk r σ2 hp p e s m args below meth c0 B T'.heap (locs ++ L) ls (by rw [e1]; exact hb)
    ⟨Nat.le_trans hS.1 (by rw [e1]; exact hz), fun q h1 h2 => by rw [e1, hq q (Nat.lt_of_lt_of_le h1 hS.1) h2]; exact hS.2.1 q h1 h2, fun q hq => by
      rcases List.mem_append.mp hq with h | h
      · exact hS.2.2 q h
      · exact hL q h⟩ hl T' rfl X'
  exact ⟨t2, sg _ a1, b1⟩
theorem rPre.blind (σ : rS) (av : List Value) : FrameBlind (va_Pc av (rPre Ω σ)) := fun a U g mk q => by
  obtain ⟨h1, h2, h3, h4, h5, h6, h7⟩ := q
  exact ⟨h1, h2, va_K.moved (u := U) (U := U.calling g mk a) (Vm.Alike.refl U.vm) h3, h4, h5, SF.moved (u := U) (U := U.calling g mk a) (Vm.Alike.refl U.vm) h6, WW.same (s := U) (U := U.calling g mk a) rfl h7⟩
theorem rPre.start {p : Program} {s : State} {m : MethodId} {args : Array Value} {meth : Method} {c0 : Code} {H : Heap} {locs : List Loc} (B : rB Ω cc own nL ret p s m args meth c0) (hP : HP Ω σ H) (hS : va_S (oF Ω) s.heap H locs) (av : List Value) : ∀ U : State, U.heap = H → s.WarmedH U.vm → va_Pc av (rPre Ω σ) av.toArray U := by
  intro U hU hW
  refine ⟨rfl, by rw [hU]; exact hP, va_K.moved hW.alike B.2.2.2.2.2.2.2.1, by rw [hU]; exact Nat.le_trans B.2.2.2.2.2.2.2.2.1 hS.1, B.2.2.2.2.2.2.2.2.2.1, ?_, WW.warm hW B.2.2.2.2.2.2.2.2.2.2.2⟩
  rw [hU]
  exact SF.moved hW.alike (B.2.2.2.2.2.2.2.2.2.2.1.kept (fun a h1 h2 => hS.2.1 a h1 (fun z => h2 (B.2.2.2.2.2.2.2.2.2.1.fb z))))
theorem rB.cok {p : Program} {s : State} {m : MethodId} {args : Array Value} {meth : Method} {c0 : Code} (B : rB Ω cc own nL ret p s m args meth c0) (ho : Cok y cc2 nL2 ret2 n) (hm : Cond.methodLink own i y ∈ TT) (hrc : rm2.cells = 0) (hrs : rm2.slots = 0) (hR : rm2.frames + 1 ≤ rm.frames ∧ 8 + (nL2 + 11) + rm2.locals ≤ rm.locals) : CallB rm s args own i y cc2 nL2 ret2 (Cond.code y cc2 nL2 ret2 :: TT) rm2 0 0 n :=
  callB_of n B.2.2.2.2.2.1 (tbl_good ho.1) rfl hrc hrs (B.2.2.2.2.2.1 _ ho.2.1) (B.2.2.2.2.2.1 _ hm) ho.2.2 hR
theorem R_runV {K2 : Int32 → rS → Prop} (hC : Ct l Ω y cc2 nL2 ret2 rm2 (rf Ω c k :: As) σ K2) (ho : CokV y cc2 nL2 ret2 n ci) (hm : Cond.methodLink own i y ∈ TT) (hL : oL Ω c k) (hc : cE Ω c k (σ c k) = .inr (ci, fs)) (hn : As.length = n) (hst : As.reverse ++ rf Ω c k :: rest = st) (hw : (rest.map fun v => v.category).sum ≤ 8)
    (hrc : rm2.cells = 0) (hrs : rm2.slots = 0) (hR : rm2.frames + 1 ≤ rm.frames ∧ 8 + (nL2 + 11) + rm2.locals ≤ rm.locals) (hf : kc ≤ rm.cells ∧ ks ≤ rm.slots) (hd : decode cc pc = .ok (.invokevirtual i, 3)) (hk : ∀ r σ2, K2 r σ2 → RunG l Ω cc own nL ret rm Q kc ks (pc + 3) lv ((rV ret2 r).toList ++ rest) σ2) : RunG l Ω cc own nL ret rm Q kc ks pc lv st σ := fun p e s m args below meth c0 B H locs ls hP hS hl => by
  obtain ⟨ho1, ho2, ho3, q, ho4, ho5⟩ := ho
  have hK := B.2.2.2.2.2.2.2.1
  refine R_core (K2 := K2) (rest := rest) B (va_runV (As := As) (b := oA Ω c k) (C := y.cls) (Ts := TT) (own := own) (index := i) (bytes := cc2) (maxL := nL2) (ret := ret2) ⟨B.1, B.2.1, B.2.2.2.1, B.2.2.2.2.1, B.2.2.2.2.2.1⟩ hC ⟨rB.cok B ho1 hm hrc hrs hR, B.2.2.2.2.2.1 _ ho2, B.2.2.2.2.2.1 _ ho3⟩ ⟨rPre.blind σ _, ?_, rPre.start B hP hS _⟩ rfl hn hl.1 hst.symm (lv_room hw) hd hf) hS hl hk
  have := va_recv (q0 := 0) hK (hP.one hL hc) ho4 rfl
  rw [ho5] at this
  exact this
theorem R_runS {K2 : Int32 → rS → Prop} (hC : Ct l Ω y cc2 nL2 ret2 rm2 As σ K2) (ho : CokS y cc2 nL2 ret2 n) (hm : Cond.methodLink own i y ∈ TT) (hn : As.length = n) (hst : As.reverse ++ rest = st) (hw : (rest.map fun v => v.category).sum ≤ 8)
    (hrc : rm2.cells = 0) (hrs : rm2.slots = 0) (hR : rm2.frames + 1 ≤ rm.frames ∧ 8 + (nL2 + 11) + rm2.locals ≤ rm.locals) (hf : kc ≤ rm.cells ∧ ks ≤ rm.slots) (hd : decode cc pc = .ok (.invokestatic i, 3)) (hk : ∀ r σ2, K2 r σ2 → RunG l Ω cc own nL ret rm Q kc ks (pc + 3) lv ((rV ret2 r).toList ++ rest) σ2) : RunG l Ω cc own nL ret rm Q kc ks pc lv st σ := fun p e s m args below meth c0 B H locs ls hP hS hl =>
  R_core (K2 := K2) (rest := rest) B (va_runS (As := As) (Ts := TT) (own := own) (index := i) (bytes := cc2) (maxL := nL2) (ret := ret2) ⟨B.1, B.2.1, B.2.2.2.1, B.2.2.2.2.1, B.2.2.2.2.2.1⟩ hC ⟨rB.cok B ho.1 hm hrc hrs hR, B.2.2.2.2.2.1 _ ho.2⟩ ⟨rPre.blind σ _, rPre.start B hP hS _⟩ rfl hn hl.1 hst.symm (lv_room hw) hd hf) hS hl hk
/-- a static private method of a nest mate -/
theorem R_runSN {K2 : Int32 → rS → Prop} (hC : Ct l Ω y cc2 nL2 ret2 rm2 As σ K2) (ho : CokS y cc2 nL2 ret2 n) (hm : Cond.methodLinkNest own i y host ∈ nwds) (hn : As.length = n) (hst : As.reverse ++ rest = st) (hw : (rest.map fun v => v.category).sum ≤ 8)
    (hrc : rm2.cells = 0) (hrs : rm2.slots = 0) (hR : rm2.frames + 1 ≤ rm.frames ∧ 8 + (nL2 + 11) + rm2.locals ≤ rm.locals) (hf : kc ≤ rm.cells ∧ ks ≤ rm.slots) (hd : decode cc pc = .ok (.invokestatic i, 3)) (hk : ∀ r σ2, K2 r σ2 → RunG l Ω cc own nL ret rm Q kc ks (pc + 3) lv ((rV ret2 r).toList ++ rest) σ2) : RunG l Ω cc own nL ret rm Q kc ks pc lv st σ := fun p e s m args below meth c0 B H locs ls hP hS hl =>
  R_core (K2 := K2) (rest := rest) B (va_runSN (As := As) (Ts := TT) (own := own) (index := i) (bytes := cc2) (maxL := nL2) (ret := ret2) ⟨B.1, B.2.1, B.2.2.2.1, B.2.2.2.2.1, B.2.2.2.2.2.1⟩ hC ⟨va_cnB n B.2.2.2.2.2.1 (tbl_good ho.1.1) rfl hrc hrs (B.2.2.2.2.2.2.2.2.2.2.2.1 _ hm) (B.2.2.2.2.2.1 _ ho.1.2.1) ho.1.2.2 hR, B.2.2.2.2.2.1 _ ho.2, trivial⟩ ⟨rPre.blind σ _, rPre.start B hP hS _⟩ rfl hn hl.1 hst.symm (lv_room hw) hd hf) hS hl hk
/-- the four calls: of an instance's method, or a static one; with an answer, or none -/
theorem R_callVi (hC : Ct l Ω y cc2 nL2 (some t2) rm2 (rf Ω c k :: As) σ (fun r σ2 => RunG l Ω cc own nL ret rm Q kc ks (pc + 3) lv (.int r :: rest) σ2)) (ho : CokV y cc2 nL2 (some t2) n ci) (hm : Cond.methodLink own i y ∈ TT) (hL : oL Ω c k) (hc : cE Ω c k (σ c k) = .inr (ci, fs)) (hn : As.length = n) (hst : As.reverse ++ rf Ω c k :: rest = st) (hw : (rest.map fun v => v.category).sum ≤ 8)
    (hrc : rm2.cells = 0) (hrs : rm2.slots = 0) (hR : rm2.frames + 1 ≤ rm.frames ∧ 8 + (nL2 + 11) + rm2.locals ≤ rm.locals) (hf : kc ≤ rm.cells ∧ ks ≤ rm.slots) (hd : decode cc pc = .ok (.invokevirtual i, 3)) : RunG l Ω cc own nL ret rm Q kc ks pc lv st σ := R_runV hC ho hm hL hc hn hst hw hrc hrs hR hf hd (fun _ _ h => h)
theorem R_callVv (hC : Ct l Ω y cc2 nL2 none rm2 (rf Ω c k :: As) σ (fun _ σ2 => RunG l Ω cc own nL ret rm Q kc ks (pc + 3) lv rest σ2)) (ho : CokV y cc2 nL2 none n ci) (hm : Cond.methodLink own i y ∈ TT) (hL : oL Ω c k) (hc : cE Ω c k (σ c k) = .inr (ci, fs)) (hn : As.length = n) (hst : As.reverse ++ rf Ω c k :: rest = st) (hw : (rest.map fun v => v.category).sum ≤ 8)
    (hrc : rm2.cells = 0) (hrs : rm2.slots = 0) (hR : rm2.frames + 1 ≤ rm.frames ∧ 8 + (nL2 + 11) + rm2.locals ≤ rm.locals) (hf : kc ≤ rm.cells ∧ ks ≤ rm.slots) (hd : decode cc pc = .ok (.invokevirtual i, 3)) : RunG l Ω cc own nL ret rm Q kc ks pc lv st σ := R_runV hC ho hm hL hc hn hst hw hrc hrs hR hf hd (fun _ _ h => h)
theorem R_callSi (hC : Ct l Ω y cc2 nL2 (some t2) rm2 As σ (fun r σ2 => RunG l Ω cc own nL ret rm Q kc ks (pc + 3) lv (.int r :: rest) σ2)) (ho : CokS y cc2 nL2 (some t2) n) (hm : Cond.methodLink own i y ∈ TT) (hn : As.length = n) (hst : As.reverse ++ rest = st) (hw : (rest.map fun v => v.category).sum ≤ 8)
    (hrc : rm2.cells = 0) (hrs : rm2.slots = 0) (hR : rm2.frames + 1 ≤ rm.frames ∧ 8 + (nL2 + 11) + rm2.locals ≤ rm.locals) (hf : kc ≤ rm.cells ∧ ks ≤ rm.slots) (hd : decode cc pc = .ok (.invokestatic i, 3)) : RunG l Ω cc own nL ret rm Q kc ks pc lv st σ := R_runS hC ho hm hn hst hw hrc hrs hR hf hd (fun _ _ h => h)
theorem R_callSv (hC : Ct l Ω y cc2 nL2 none rm2 As σ (fun _ σ2 => RunG l Ω cc own nL ret rm Q kc ks (pc + 3) lv rest σ2)) (ho : CokS y cc2 nL2 none n) (hm : Cond.methodLink own i y ∈ TT) (hn : As.length = n) (hst : As.reverse ++ rest = st) (hw : (rest.map fun v => v.category).sum ≤ 8)
    (hrc : rm2.cells = 0) (hrs : rm2.slots = 0) (hR : rm2.frames + 1 ≤ rm.frames ∧ 8 + (nL2 + 11) + rm2.locals ≤ rm.locals) (hf : kc ≤ rm.cells ∧ ks ≤ rm.slots) (hd : decode cc pc = .ok (.invokestatic i, 3)) : RunG l Ω cc own nL ret rm Q kc ks pc lv st σ := R_runS hC ho hm hn hst hw hrc hrs hR hf hd (fun _ _ h => h)
theorem R_callSNi (hC : Ct l Ω y cc2 nL2 (some t2) rm2 As σ (fun r σ2 => RunG l Ω cc own nL ret rm Q kc ks (pc + 3) lv (.int r :: rest) σ2)) (ho : CokS y cc2 nL2 (some t2) n) (hm : Cond.methodLinkNest own i y host ∈ nwds) (hn : As.length = n) (hst : As.reverse ++ rest = st) (hw : (rest.map fun v => v.category).sum ≤ 8)
    (hrc : rm2.cells = 0) (hrs : rm2.slots = 0) (hR : rm2.frames + 1 ≤ rm.frames ∧ 8 + (nL2 + 11) + rm2.locals ≤ rm.locals) (hf : kc ≤ rm.cells ∧ ks ≤ rm.slots) (hd : decode cc pc = .ok (.invokestatic i, 3)) : RunG l Ω cc own nL ret rm Q kc ks pc lv st σ := R_runSN hC ho hm hn hst hw hrc hrs hR hf hd (fun _ _ h => h)
end RC
