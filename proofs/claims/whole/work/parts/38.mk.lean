/-! methods that make: the world grows by States of the ring -/
def cntN (fl : Nat → Int32) : Nat → Nat
  | 0 => 0
  | n + 1 => cntN fl n + (if fl n = 0 then 0 else 1)
def cntF (fl : Nat → Int32) : Nat := cntN fl 41
theorem cntN_le (fl : Nat → Int32) : ∀ n, cntN fl n ≤ n
  | 0 => Nat.le_refl 0
  | n + 1 => by
    have := cntN_le fl n
    unfold cntN
    split <;> omega
theorem cntN_out {fl : Nat → Int32} {i : Nat} {v : Int32} : ∀ n, n ≤ i → cntN (upd fl i v) n = cntN fl n
  | 0, _ => rfl
  | n + 1, h => by
    have := cntN_out (fl := fl) (i := i) (v := v) n (by omega)
    have e : upd fl i v n = fl n := if_neg (by omega)
    unfold cntN
    rw [this, e]
theorem cntN_in {fl : Nat → Int32} {i : Nat} {v : Int32} (h0 : fl i = 0) (hv : ¬ v = 0) : ∀ n, i < n → cntN (upd fl i v) n = cntN fl n + 1
  | 0, h => absurd h (Nat.not_lt_zero _)
  | n + 1, h => by
    by_cases e : i = n
    · subst e
      have e1 : upd fl i v i = v := if_pos rfl
      unfold cntN
      rw [cntN_out i (Nat.le_refl _), e1, if_neg hv, if_pos h0]
    · have := cntN_in (fl := fl) (i := i) (v := v) h0 hv n (by omega)
      have e1 : upd fl i v n = fl n := if_neg (by omega)
      unfold cntN
      rw [this, e1]
      omega
theorem cntF_in {fl : Nat → Int32} {i : Nat} {v : Int32} (hi : i < 41) (h0 : fl i = 0) (hv : ¬ v = 0) : cntF (upd fl i v) = cntF fl + 1 := cntN_in h0 hv 41 hi
theorem cntF_le (fl : Nat → Int32) : cntF fl ≤ 41 := cntN_le fl 41
def ExtN (Ω Ω' : rO) : Prop := Ext Ω Ω' ∧ oN Ω' = oN Ω ∧ (oL Ω' 2 0 → oL Ω 2 0)
theorem ExtN.rf (Ω : rO) : ExtN Ω Ω := ⟨Ext.rf Ω, rfl, id⟩
theorem ExtN.tr {Ω Ω' Ω'' : rO} (h : ExtN Ω Ω') (h' : ExtN Ω' Ω'') : ExtN Ω Ω'' := ⟨h.1.tr h'.1, h'.2.1.trans h.2.1, fun q => h.2.2 (h'.2.2 q)⟩
theorem ExtN.l {Ω Ω' : rO} (h : ExtN Ω Ω') {c k : Nat} (hL : oL Ω c k) : oL Ω' c k := (h.1.2.2.2.2 c k hL).1
theorem ExtN.a {Ω Ω' : rO} (h : ExtN Ω Ω') {c k : Nat} (hL : oL Ω c k) : oA Ω' c k = oA Ω c k := (h.1.2.2.2.2 c k hL).2
def WO (Ω : rO) (fl : Nat → Int32) : Prop := WF Ω ∧ OKc Ω ∧ (∀ i : Nat, ¬ fl i = 0 → oL Ω 7 (4 + i)) ∧ (∀ i : Nat, i < 41 → fl i = 0 → ∀ c k', oL Ω c k' → sIx (4 + i) c k' = none) ∧ oN Ω ≤ oB Ω
theorem oF_ext {Ω Ω' : rO} (hE : ExtN Ω Ω') {q : Nat} (h : oF Ω q) : oF Ω' q := by
  rcases h with ⟨c, k, hL, rfl⟩ | ⟨h1, h2⟩
  · exact Or.inl ⟨c, k, hE.l hL, hE.a hL⟩
  · exact Or.inr ⟨by rw [hE.1.2.2.1]; exact h1, by rw [hE.2.1]; exact h2⟩
theorem oF_back {Ω Ω' : rO} {fl : Nat → Int32} (hE : ExtN Ω Ω') (hO : WO Ω' fl) {q : Nat} (h : oF Ω' q) : oF Ω q := by
  have h1 : oB Ω' ≤ q := hO.1.fb h
  have h2 := hO.2.2.2.2
  rw [hE.2.1, hE.1.2.2.1] at h2
  rw [hE.1.2.2.1] at h1
  exact oF.fb h2 h1
theorem rB.ext {Ω Ω' : rO} {cc : ByteArray} {own : String} {nL : Nat} {ret : Option FieldType} {p : Program} {s : State} {m : MethodId} {args : Array Value} {meth : Method} {c : Code} (hE : ExtN Ω Ω') (hW : WF Ω') (B : rB Ω cc own nL ret p s m args meth c) : rB Ω' cc own nL ret p s m args meth c := by
  obtain ⟨b1, b2, b3, b4, b5, b6, b7, b8, b9, b10, b11, b12⟩ := B
  have e1 : Ω'.1 = Ω.1 := hE.1.1
  have e2 : Ω'.2.1 = Ω.2.1 := hE.1.2.1
  have eB : oB Ω' = oB Ω := hE.1.2.2.1
  have eX : oX Ω' = oX Ω := by
    funext i
    show Ω'.2.2.2.2.2 i = Ω.2.2.2.2.2 i
    rw [hE.1.2.2.2.1]
  have eF : oFb Ω' = oFb Ω := by
    funext q
    show (oB Ω' ≤ q) = (oB Ω ≤ q)
    rw [eB]
  have eT : oT Ω' = oT Ω := by
    unfold oT
    rw [e2]
  refine ⟨b1, b2, b3, b4, b5, b6, b7, by rw [e1, eT]; exact b8, by rw [eB]; exact b9, hW, ?_, b12.1, ?_⟩
  · unfold SF at b11 ⊢
    rw [eX, eF]
    exact b11
  · have := b12.2
    unfold wStr at this ⊢
    rw [eX]
    exact this
def KE (r' : Int32) (σ' : rS) : Int32 → rS → Prop := fun r s => r = r' ∧ s = σ'
theorem hit_KE {o : Option (Int32 × rS)} {r' : Int32} {σ' : rS} (h : hit o (KE r' σ')) : o = some (r', σ') := by
  cases o with
  | none => exact h.elim
  | some q =>
    obtain ⟨h1, h2⟩ := h
    rw [← h1, ← h2]
theorem KE_hit {o : Option (Int32 × rS)} {r' : Int32} {σ' : rS} (h : o = some (r', σ')) : hit o (KE r' σ') := by
  rw [h]
  exact ⟨rfl, rfl⟩
theorem hit_bdE {α β : Type} {o : Option (α × rS)} {f : α → rS → Option (β × rS)} {K : β → rS → Prop} (h : hit (bd o f) K) : ∃ r s, o = some (r, s) ∧ hit (f r s) K := by
  cases o with
  | none => exact h.elim
  | some q => exact ⟨q.1, q.2, rfl, h⟩
def rQA (Ω : rO) (ret : Option FieldType) (r' : Int32) (σ' : rS) : Array Value → State → Outcome → State → Prop := fun _ st o t =>
  (∃ Ω' : rO, o = .returned (rV ret r') ∧ ExtN Ω Ω' ∧ WO Ω' (σ' 29 0) ∧ HP Ω' σ' t.heap) ∧ va_F (oF Ω) st t
def CtA (l : Launch) (Ω : rO) (y : MethodName) (cc : ByteArray) (nL : Nat) (ret : Option FieldType) (rm : Room) (av : List Value) (σ : rS) (r' : Int32) (σ' : rS) (mc ms : Nat) : Prop :=
  Met l y (Cond.code y cc nL ret :: TT) rm (va_Pc av (rPre Ω σ)) (rQA Ω ret r' σ') mc ms (oF Ω)
def rQAf (Ω : rO) (ret : Option FieldType) (r' : Int32) (σ' : rS) (mc ms : Nat) : List Frame → Array Value → State → State → Prop := fun below args s => MQ below (rQA Ω ret r' σ') args s mc ms (oF Ω)
abbrev rmA (f lo mc ms : Nat) : Room := { frames := f, cells := mc, slots := ms, locals := lo }
def AOK (Ω0 Ω : rO) (σ' : rS) (kc ks mc ms : Nat) : Prop := ExtN Ω0 Ω ∧ WO Ω (σ' 29 0) ∧ kc ≤ mc ∧ ks ≤ ms
theorem CtA.of {l : Launch} {Ω : rO} {y : MethodName} {cc : ByteArray} {own : String} {nL : Nat} {ret : Option FieldType} {rm : Room} {av : List Value} {σ : rS} {r' : Int32} {σ' : rS} {mc ms : Nat} {lv : List (Option Value)} (hy : plainName y.cls = true) (hown : y.cls = own) (hlen : (lg_sl av).length ≤ nL) (hlv : rFill nL (lv_args 0 av) = lv)
    (h : WF Ω → RunG l Ω cc own nL ret rm (rQAf Ω ret r' σ' mc ms) 0 0 0 lv [] σ) : CtA l Ω y cc nL ret rm av σ r' σ' mc ms := by
  refine Met.ofW (cc := cc) (maxL := nL) (ret := ret) hy rfl ?_
  intro p e s m args below meth c s₁ B hml hv
  obtain ⟨rfl, hP, hK, hsz, hW, hSF, hWW⟩ := hv
  have hts := atoms_spec (ws := Cond.code y cc nL ret :: TT) B.pre
  have hfc : s.vm.findClass own = some m.cls := by rw [← hown]; exact findClass_of_methodNamed B.named
  have hl := lv_entry av (n := nL) hlen
  rw [lg_entry_eq]
  generalize (lg_sl av ++ List.replicate (nL - (lg_sl av).length) Slot.unset).toArray = ls at hl ⊢
  refine h hW p e s m av.toArray below meth c ⟨B.exec, B.bytes, B.returns, hml, hfc, fun w hw => hts w (List.mem_cons_of_mem _ hw), B.notSynchronized, hK, hsz, hW, hSF, hWW⟩ s.heap [] ls hP va_S.rf ⟨hl.1, hl.2.1, fun i v hi => ?_⟩
  rw [← hlv] at hi
  exact hl.2.2 (i, v) (rFill_mem hi)
section RA
variable {l : Launch} {Ω Ω0 : rO} {cc : ByteArray} {own : String} {nL : Nat} {ret : Option FieldType} {rm : Room} {Q : List Frame → Array Value → State → State → Prop} {kc ks mc ms : Nat} {pc : Nat} {lv lv2 : List (Option Value)} {st st2 rest : List Value} {σ σ' : rS} {r' : Int32}
variable {y : MethodName} {cc2 : ByteArray} {nL2 : Nat} {ret2 : Option FieldType} {rm2 : Room} {n ci i c k : Nat} {As fs : List Value} {t2 : FieldType}
theorem A_iret {v : Int32} (hA : AOK Ω0 Ω σ' kc ks mc ms) (hd : decode cc pc = .ok (.ireturn, 1)) (hr : ret = some .int) (h : KE r' σ' v σ) : RunG l Ω cc own nL ret rm (rQAf Ω0 ret r' σ' mc ms) kc ks pc lv [.int v] σ := fun p e s m args below meth c B H locs ls hP hS hl => by
  subst hr
  obtain ⟨rfl, rfl⟩ := h
  have hS0 : va_S (oF Ω0) s.heap H locs := hS.mono (fun q hq => oF_back hA.1 hA.2.1 hq)
  exact W.widen hA.2.2.1 hA.2.2.2 (W.iret B.1 B.2.1 B.2.2.1 (fun t ht _ => ⟨⟨Ω, rfl, hA.1, hA.2.1, by rw [ht]; exact hP⟩, hS0.F ht⟩) hS0.2.2 hd B.2.2.2.2.2.2.1)
theorem A_iret2 {v : Int32} (hE : ExtN Ω0 Ω) (hO : WO Ω (σ 29 0)) (hc : kc ≤ mc) (hs : ks ≤ ms) (hd : decode cc pc = .ok (.ireturn, 1)) (hr : ret = some .int) (h : KE r' σ' v σ) : RunG l Ω cc own nL ret rm (rQAf Ω0 ret r' σ' mc ms) kc ks pc lv [.int v] σ := A_iret ⟨hE, by rw [← h.2]; exact hO, hc, hs⟩ hd hr h
theorem A_vret (hA : AOK Ω0 Ω σ' kc ks mc ms) (hd : decode cc pc = .ok (.return_, 1)) (hr : ret = none) (h : KE r' σ' 0 σ) : RunG l Ω cc own nL ret rm (rQAf Ω0 ret r' σ' mc ms) kc ks pc lv [] σ := fun p e s m args below meth c B H locs ls hP hS hl => by
  subst hr
  obtain ⟨rfl, rfl⟩ := h
  have hS0 : va_S (oF Ω0) s.heap H locs := hS.mono (fun q hq => oF_back hA.1 hA.2.1 hq)
  exact W.widen hA.2.2.1 hA.2.2.2 (W.vret B.1 B.2.1 B.2.2.1 (fun t ht _ => ⟨⟨Ω, rfl, hA.1, hA.2.1, by rw [ht]; exact hP⟩, hS0.F ht⟩) hS0.2.2 hd B.2.2.2.2.2.2.1)
theorem R_eq (h1 : lv2 = lv) (h2 : st2 = st) (kk : RunG l Ω cc own nL ret rm Q kc ks pc lv2 st2 σ) : RunG l Ω cc own nL ret rm Q kc ks pc lv st σ := by
  subst h1
  subst h2
  exact kk
theorem A_core {p : Program} {e : Env} {s : State} {m : MethodId} {args : Array Value} {below : List Frame} {meth : Method} {c0 : Code} {H : Heap} {locs : List Loc} {ls : Array Slot} {r2 : Int32} {σ2 : rS} {a : Array Value}
    (B : rB Ω cc own nL ret p s m args meth c0) (hr : va_Run p l e rm s m args below meth c0 H locs kc ks mc ms (F0 m pc ls st) rest (rQA Ω ret2 r2 σ2 a) (oF Ω)) (hS : va_S (oF Ω) s.heap H locs) (hl : rL ls nL lv)
    (hk : ∀ Ω2, ExtN Ω Ω2 → WO Ω2 (σ2 29 0) → RunG l Ω2 cc own nL ret rm Q (kc + mc) (ks + ms) (pc + 3) lv ((rV ret2 r2).toList ++ rest) σ2) : W p l e rm s m args below meth c0 H locs kc ks (Q below args s) (F0 m pc ls st) := by
  intro T hT X
  obtain ⟨v, st₀, t, T', L, h0, X', hL, e1, e2, ⟨⟨Ω2, hv, hE, hO, hb⟩, hz, hq⟩, sg⟩ := hr T hT X
  cases hv
  rw [h0] at hz hq
  obtain ⟨t2, a1, b1⟩ := hk Ω2 hE hO p e s m args below meth c0 (rB.ext hE hO.1 B) T'.heap (locs ++ L) ls (by rw [e1]; exact hb)
    ⟨Nat.le_trans hS.1 (by rw [e1]; exact hz), fun q h1 h2 => by rw [e1, hq q (Nat.lt_of_lt_of_le h1 hS.1) (fun z => h2 (oF_ext hE z))]; exact hS.2.1 q h1 (fun z => h2 (oF_ext hE z)), fun q hq => by
      rcases List.mem_append.mp hq with h | h
      · exact oF_ext hE (hS.2.2 q h)
      · exact oF_ext hE (hL q h)⟩ hl T' rfl X'
  exact ⟨t2, sg _ a1, b1⟩
theorem A_callV {r2 : Int32} {σ2 : rS} (hC : CtA l Ω y cc2 nL2 ret2 rm2 (rf Ω c k :: As) σ r2 σ2 mc ms) (ho : CokV y cc2 nL2 ret2 n ci) (hm : Cond.methodLink own i y ∈ TT) (hL : oL Ω c k) (hc : cE Ω c k (σ c k) = .inr (ci, fs)) (hn : As.length = n) (hst : As.reverse ++ rf Ω c k :: rest = st) (hw : (rest.map fun v => v.category).sum ≤ 8)
    (hrc : rm2.cells = mc) (hrs : rm2.slots = ms) (hR : rm2.frames + 1 ≤ rm.frames ∧ 8 + (nL2 + 11) + rm2.locals ≤ rm.locals) (hf : kc + mc ≤ rm.cells ∧ ks + ms ≤ rm.slots) (hd : decode cc pc = .ok (.invokevirtual i, 3)) (hk : ∀ Ω2, ExtN Ω Ω2 → WO Ω2 (σ2 29 0) → RunG l Ω2 cc own nL ret rm Q (kc + mc) (ks + ms) (pc + 3) lv ((rV ret2 r2).toList ++ rest) σ2) : RunG l Ω cc own nL ret rm Q kc ks pc lv st σ := fun p e s m args below meth c0 B H locs ls hP hS hl => by
  obtain ⟨ho1, ho2, ho3, q, ho4, ho5⟩ := ho
  have hK := B.2.2.2.2.2.2.2.1
  refine A_core (rest := rest) B (va_runV (As := As) (b := oA Ω c k) (C := y.cls) (Ts := TT) (own := own) (index := i) (bytes := cc2) (maxL := nL2) (ret := ret2) ⟨B.1, B.2.1, B.2.2.2.1, B.2.2.2.2.1, B.2.2.2.2.2.1⟩ hC ⟨callB_of n B.2.2.2.2.2.1 (tbl_good ho1.1) rfl hrc hrs (B.2.2.2.2.2.1 _ ho1.2.1) (B.2.2.2.2.2.1 _ hm) ho1.2.2 hR, B.2.2.2.2.2.1 _ ho2, B.2.2.2.2.2.1 _ ho3⟩ ⟨rPre.blind σ _, ?_, rPre.start B hP hS _⟩ rfl hn hl.1 hst.symm (lv_room hw) hd hf) hS hl hk
  have := va_recv (q0 := 0) hK (hP.one hL hc) ho4 rfl
  rw [ho5] at this
  exact this
theorem W_aastq {p : Program} {e : Env} {s : State} {m : MethodId} {args : Array Value} {below : List Frame} {meth : Method} {c0 : Code} {H : Heap} {locs : List Loc} {ls : Array Slot} {QQ : State → Prop} {D : va_G} {cl : List vw_C} {tys : List (ClassId × FieldType)} {a v n t0 ci : Nat} {cA : ClassId} {r : vw_C} {vs : List Value} {f : Nat → Option Nat} {i : Int32} (hexec : p.tables.exec = Jvm.exec) (hb : c0.code = cc) (hK : va_K D cl tys s) (hPa : va_at D cl (a, .inl (cA, n, .inr (.inr (.inr (.inr f))))) H) (hPv : va_at D cl (v, .inr (ci, vs)) H) (ht : tys[t0]? = some (cA, .object r.1)) (hc : cl[ci]? = some r) (hin : vp_in i n) (hdg : decode cc pc = .ok (.aastore, 1))
    (kk : ∀ H1 : Heap, va_at D cl (a, .inl (cA, n, .inr (.inr (.inr (.inr (va_up f i.toNatClampNeg (some v))))))) H1 → H1.size = H.size → (∀ q : Nat, q ≠ a → H1[q]? = H[q]?) → W p l e rm s m args below meth c0 H1 (locs ++ [⟨a, i.toNatClampNeg⟩]) kc ks QQ (F0 m (pc + 1) ls rest)) : W p l e rm s m args below meth c0 H locs kc ks QQ (F0 m pc ls (.ref v :: .int i :: .ref a :: rest)) := by
  have hlt : i.toNatClampNeg < n := Nat.not_le.mp fun q => hin (Or.inr q)
  have h0 : ¬ i < 0 := fun q => hin (Or.inl q)
  obtain ⟨r', hr', cellV, g1, g2, g3, -⟩ := hPv
  have hcls := (hK.1 ci r hc).2
  obtain ⟨kA, comp, k1, k2, k3, -⟩ := (hK.2 t0 _ ht).2
  have hcomp : comp = D.1 ci := Option.some.inj (k3.symm.trans hcls.1)
  subst hcomp
  obtain ⟨kC, hkC, -⟩ := hcls.2
  refine W.aast hexec hb hPa (fun q h => by cases h) (fun h => by cases h) k1 k2 rfl hkC ⟨h0, by show _ < (arrV _ _ _).slots.size; rw [arrV_size]; exact hlt⟩ g1 (fun q h => by rw [g3] at h; cases h) (by rw [g2]; exact hkC) (by rw [g2]; exact va_assign hcls) rfl rfl hdg fun H1 e z oq => ?_
  refine kk H1 ?_ z oq
  show H1[a]? = some (vp_cell _ _)
  rw [e]
  rw [vp_cell_q, vp_cell_q, arrV_store]
  congr 2
  funext q
  by_cases hq : q = i.toNatClampNeg
  · subst hq
    simp [updV, va_up, va_rf]
  · simp [updV, va_up, hq]
theorem R_ringPut {i : Int32} (hL : oL Ω 29 0) (hL7 : oL Ω 7 (4 + ix i)) (hin : vp_in i 41) (hd : decode cc pc = .ok (.aastore, 1)) (kk : RunG l Ω cc own nL ret rm Q kc ks (pc + 1) lv st (wr σ 29 0 (ix i) 1)) : RunG l Ω cc own nL ret rm Q kc ks pc lv (rf Ω 7 (4 + ix i) :: .int i :: rf Ω 29 0 :: st) σ := fun p e s m args below meth c0 B H locs ls hP hS hl => by
  have hK := B.2.2.2.2.2.2.2.1
  have hW := B.2.2.2.2.2.2.2.2.2.1
  have hP0 := hP 29 0 hL
  rw [cE_29] at hP0
  have hP7 := hP 7 (4 + ix i) hL7
  rw [cE_7] at hP7
  refine W_aastq (t0 := 4) (ci := 7) (r := (RX7, TX7, 19)) B.1 B.2.1 hK hP0 hP7 rfl rfl hin hd fun H1 e1 z oq => ?_
  refine kk p e s m args below meth c0 B H1 _ ls (HP.set hW hP hL ?_ oq) (hS.put z oq (oF.of hL)) hl
  rw [cE_29]
  have e2 : ringF Ω (upd (σ 29 0) (ix i) 1) = va_up (ringF Ω (σ 29 0)) i.toNatClampNeg (some (oA Ω 7 (4 + ix i))) := by
    funext q
    by_cases hq : q = i.toNatClampNeg
    · subst hq
      rw [ringF_1 (by show ¬ upd (σ 29 0) (ix i) 1 (ix i) = 0; simp [upd])]
      simp [va_up]
    · have e1 : ringF Ω (upd (σ 29 0) (ix i) 1) q = ringF Ω (σ 29 0) q := by
        unfold ringF
        have : upd (σ 29 0) (ix i) 1 q = σ 29 0 q := if_neg hq
        rw [this]
      rw [e1]
      simp [va_up, hq]
  rw [e2]
  exact e1
end RA
