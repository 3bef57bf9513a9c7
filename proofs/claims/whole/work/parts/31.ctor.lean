/-! constructors: an object being made at h0, with what is made beside it, as a list of cells -/
def cN (h0 sz : Nat) : Nat → Prop := fun q => q = h0 ∨ sz ≤ q
def rP0 (Ω : rO) (U : State) : Prop := va_K Ω.1 vwCl (oT Ω) U ∧ oB Ω ≤ U.heap.size ∧ SF Ω U U.heap ∧ WW Ω U
def rBC (Ω : rO) (cc : ByteArray) (own : String) (nL : Nat) (p : Program) (s : State) (m : MethodId) (args : Array Value) (meth : Method) (c : Code) : Prop :=
  p.tables.exec = Jvm.exec ∧ c.code = cc ∧ meth.sig.returnType = none ∧ c.maxLocals = nL ∧ s.vm.findClass own = some m.cls ∧ (∀ w ∈ TT, w.before args s = true) ∧ meth.locks = false ∧ rP0 Ω s ∧ meth.name = "<init>"
def RunC (l : Launch) (Ω : rO) (cc : ByteArray) (own : String) (nL : Nat) (rm : Room) (Q : List Frame → Array Value → State → State → Prop) (h0 : Nat) (kc ks : Nat) (ws : va_W) (pc : Nat) (lv : List (Option Value)) (st : List Value) : Prop :=
  ∀ (p : Program) (e : Env) (s : State) (m : MethodId) (args : Array Value) (below : List Frame) (meth : Method) (c : Code), rBC Ω cc own nL p s m args meth c → oB Ω ≤ h0 →
  ∀ (H : Heap) (locs : List Loc) (ls : Array Slot), va_P Ω.1 vwCl ws H → va_D (cN h0 s.heap.size) ws → va_S (cN h0 s.heap.size) s.heap H locs → rL ls nL lv →
  W p l e rm s m args below meth c H locs kc ks (Q below args s) (F0 m pc ls st)
def CtC (l : Launch) (Ω : rO) (y : MethodName) (cc : ByteArray) (nL : Nat) (rm : Room) (h0 sz ci : Nat) (fs As : List Value) (mc ms : Nat) (out : (Nat → Nat) → va_W) : Prop :=
  Met l y (Cond.code y cc nL none :: TT) rm (va_Pc (.ref h0 :: As) (fun U => U.heap.size = sz ∧ va_P Ω.1 vwCl [(h0, .inr (ci, fs))] U.heap ∧ oB Ω ≤ h0 ∧ rP0 Ω U)) (fun _ st o t => (o = .returned none ∧ ∃ a : Nat → Nat, a 0 = h0 ∧ va_P Ω.1 vwCl (out a) t.heap ∧ va_D (cN h0 sz) (out a)) ∧ va_F (cN h0 sz) st t) mc ms (cN h0 sz)
def rQC (Ω : rO) (h0 : Nat) (mc ms : Nat) (out : (Nat → Nat) → va_W) : List Frame → Array Value → State → State → Prop := fun below args s => MQ below (fun _ st o t => (o = .returned none ∧ ∃ a : Nat → Nat, a 0 = h0 ∧ va_P Ω.1 vwCl (out a) t.heap ∧ va_D (cN h0 s.heap.size) (out a)) ∧ va_F (cN h0 s.heap.size) st t) args s mc ms (cN h0 s.heap.size)
theorem CtC.of {l : Launch} {Ω : rO} {y : MethodName} {cc : ByteArray} {own : String} {nL : Nat} {rm : Room} {h0 sz ci : Nat} {fs As : List Value} {mc ms : Nat} {out : (Nat → Nat) → va_W} {lv : List (Option Value)} (hy : plainName y.cls = true) (hown : y.cls = own) (hnm : y.name = "<init>") (hlen : (lg_sl (.ref h0 :: As)).length ≤ nL) (hlv : rFill nL (lv_args 0 (.ref h0 :: As)) = lv)
    (h : RunC l Ω cc own nL rm (rQC Ω h0 mc ms out) h0 0 0 [(h0, .inr (ci, fs))] 0 lv []) : CtC l Ω y cc nL rm h0 sz ci fs As mc ms out := by
  refine Met.ofW (cc := cc) (maxL := nL) (ret := none) hy rfl ?_
  intro p e s m args below meth c s₁ B hml hv
  obtain ⟨rfl, rfl, hP, hb, hP0⟩ := hv
  have hts := atoms_spec (ws := Cond.code y cc nL none :: TT) B.pre
  have hfc : s.vm.findClass own = some m.cls := by rw [← hown]; exact findClass_of_methodNamed B.named
  have hin : meth.name = "<init>" := by rw [← hnm]; exact (name_of_methodNamed B.named B.method).1
  have hl := lv_entry (.ref h0 :: As) (n := nL) hlen
  rw [lg_entry_eq]
  generalize (lg_sl (.ref h0 :: As) ++ List.replicate (nL - (lg_sl (.ref h0 :: As)).length) Slot.unset).toArray = ls at hl ⊢
  refine h p e s m _ below meth c ⟨B.exec, B.bytes, B.returns, hml, hfc, fun w hw => hts w (List.mem_cons_of_mem _ hw), B.notSynchronized, hP0, hin⟩ hb s.heap [] ls hP ⟨fun i j x y hx hy _ => ?_, fun k q hq => ?_⟩ va_S.rf ⟨hl.1, hl.2.1, fun i v hi => ?_⟩
  · have h1 := (List.getElem?_eq_some_iff.mp hx).1
    have h2 := (List.getElem?_eq_some_iff.mp hy).1
    simp at h1 h2
    omega
  · have h1 := (List.getElem?_eq_some_iff.mp hq).1
    simp at h1
    subst h1
    have := Option.some.inj hq
    subst this
    exact Or.inl rfl
  · rw [← hlv] at hi
    exact hl.2.2 (i, v) (rFill_mem hi)
section RK
variable {l : Launch} {Ω : rO} {cc : ByteArray} {own : String} {nL : Nat} {rm : Room} {Q : List Frame → Array Value → State → State → Prop} {h0 kc ks : Nat} {ws X : va_W} {pc : Nat} {lv : List (Option Value)} {st rest : List Value}
theorem C_aload_n {j : Fin 4} {i x : Nat} (hd : decode cc pc = .ok (.aload_n j, 1)) (hi : (j : Nat) = i) (hx : lv[i]? = some (some (.ref x))) (k : RunC l Ω cc own nL rm Q h0 kc ks ws (pc + 1) lv (.ref x :: st)) : RunC l Ω cc own nL rm Q h0 kc ks ws pc lv st := fun p e s m args below meth c B hb H locs ls hP hD hS hl => lv_aload_n B.1 B.2.1 hd hi (hl.2.2 i _ hx) (k p e s m args below meth c B hb H locs ls hP hD hS hl)
theorem C_iload_n {j : Fin 4} {i : Nat} {x : Int32} (hd : decode cc pc = .ok (.iload_n j, 1)) (hi : (j : Nat) = i) (hx : lv[i]? = some (some (.int x))) (k : RunC l Ω cc own nL rm Q h0 kc ks ws (pc + 1) lv (.int x :: st)) : RunC l Ω cc own nL rm Q h0 kc ks ws pc lv st := fun p e s m args below meth c B hb H locs ls hP hD hS hl => lv_iload_n B.1 B.2.1 hd hi (hl.2.2 i _ hx) (k p e s m args below meth c B hb H locs ls hP hD hS hl)
theorem C_iconst {n : Int} {v : Int32} (hd : decode cc pc = .ok (.iconst n, 1)) (hv : Int32.ofInt n = v) (k : RunC l Ω cc own nL rm Q h0 kc ks ws (pc + 1) lv (.int v :: st)) : RunC l Ω cc own nL rm Q h0 kc ks ws pc lv st := fun p e s m args below meth c B hb H locs ls hP hD hS hl => lv_iconst B.1 B.2.1 hd hv (k p e s m args below meth c B hb H locs ls hP hD hS hl)
theorem C_bipush {n : Int} {v : Int32} (hd : decode cc pc = .ok (.bipush n, 2)) (hv : (Int8.ofInt n).toInt32 = v) (k : RunC l Ω cc own nL rm Q h0 kc ks ws (pc + 2) lv (.int v :: st)) : RunC l Ω cc own nL rm Q h0 kc ks ws pc lv st := fun p e s m args below meth c B hb H locs ls hP hD hS hl => lv_bipush B.1 B.2.1 hd hv (k p e s m args below meth c B hb H locs ls hP hD hS hl)
theorem C_sipush {n : Int} {v : Int32} (hd : decode cc pc = .ok (.sipush n, 3)) (hv : (Int16.ofInt n).toInt32 = v) (k : RunC l Ω cc own nL rm Q h0 kc ks ws (pc + 3) lv (.int v :: st)) : RunC l Ω cc own nL rm Q h0 kc ks ws pc lv st := fun p e s m args below meth c B hb H locs ls hP hD hS hl => lv_sipush B.1 B.2.1 hd hv (k p e s m args below meth c B hb H locs ls hP hD hS hl)
theorem C_ldc {i : Nat} {v : Int32} (hm : Cond.constant own i v ∈ TT) (hd : decode cc pc = .ok (.ldc i, 2)) (k : RunC l Ω cc own nL rm Q h0 kc ks ws (pc + 2) lv (.int v :: st)) : RunC l Ω cc own nL rm Q h0 kc ks ws pc lv st := fun p e s m args below meth c B hb H locs ls hP hD hS hl => lv_ldc B.1 B.2.1 B.2.2.2.2.1 (B.2.2.2.2.2.1 _ hm) hd (k p e s m args below meth c B hb H locs ls hP hD hS hl)
theorem C_dup {a : Value} (hd : decode cc pc = .ok (.dup, 1)) (ha : a.category = 1) (k : RunC l Ω cc own nL rm Q h0 kc ks ws (pc + 1) lv (a :: a :: st)) : RunC l Ω cc own nL rm Q h0 kc ks ws pc lv (a :: st) := fun p e s m args below meth c B hb H locs ls hP hD hS hl => lv_dup B.1 B.2.1 hd ha (k p e s m args below meth c B hb H locs ls hP hD hS hl)
theorem C_mmax {x y : Int32} {i : Nat} (hm : Cond.methodLink own i Lib.Math.max.name ∈ TT) (h1 : Cond.static Lib.Math.max.name ∈ TT) (h2 : Cond.initialized "java/lang/Math" ∈ TT) (h3 : Cond.code Lib.Math.max.name Lib.Math.max.code 2 (some .int) ∈ TT) (hf : 1 ≤ rm.frames) (hlo : (st.map fun v => v.category).sum + 13 ≤ rm.locals) (hfc : kc ≤ rm.cells ∧ ks ≤ rm.slots) (hd : decode cc pc = .ok (.invokestatic i, 3)) (k : RunC l Ω cc own nL rm Q h0 kc ks ws (pc + 3) lv (.int (if x < y then y else x) :: st)) : RunC l Ω cc own nL rm Q h0 kc ks ws pc lv (.int y :: .int x :: st) := fun p e s m args below meth c B hb H locs ls hP hD hS hl =>
  va_mmax B.1 B.2.1 (B.2.2.2.1.trans hl.1.symm) B.2.2.2.2.1 (B.2.2.2.2.2.1 _ hm) (B.2.2.2.2.2.1 _ h1) (B.2.2.2.2.2.1 _ h2) (B.2.2.2.2.2.1 _ h3) hf hlo hfc.1 hfc.2 hd (k p e s m args below meth c B hb H locs ls hP hD hS hl)
theorem C_objInit {a i : Nat} (hm : Cond.methodLink own i Lib.objectInit ∈ TT) (h1 : Cond.instanceMethod Lib.objectInit ∈ TT) (h2 : Cond.code Lib.objectInit ⟨#[0xb1]⟩ 1 none ∈ TT) (hf : 1 ≤ rm.frames) (hlo : (st.map fun v => v.category).sum + 12 ≤ rm.locals) (hd : decode cc pc = .ok (.invokespecial i, 3)) (k : RunC l Ω cc own nL rm Q h0 kc ks ws (pc + 3) lv st) : RunC l Ω cc own nL rm Q h0 kc ks ws pc lv (.ref a :: st) := fun p e s m args below meth c B hb H locs ls hP hD hS hl =>
  W.objInit B.1 B.2.1 B.2.2.2.2.1 (B.2.2.2.2.2.1 _ hm) (B.2.2.2.2.2.1 _ h1) (B.2.2.2.2.2.1 _ h2) (g := F0 m pc ls (.ref a :: st)) rfl (hl.1.trans B.2.2.2.1.symm) rfl hd hf (by show 2 * 0 + _ + 12 ≤ _; omega) (k p e s m args below meth c B hb H locs ls hP hD hS hl)
/-- a new array of ints (0), booleans (1), bytes (2) -/
theorem C_newaG {atype : ArrayType} {t0 : Nat} {n : Int32} {N : Nat} (ht : (oT Ω)[t0]? = some (Ω.2.1 t0, newarray.typeOf atype)) (hra : ∀ U : State, va_RA U (Ω.2.1 t0) (newarray.typeOf atype) → U.vm.findClass ("[" ++ (newarray.typeOf atype).toString) = some (Ω.2.1 t0)) (hz : defaultValue (newarray.typeOf atype) = .int 0) (hac : Cond.arrayClass (newarray.typeOf atype) ∈ TT) (hn : ¬ n < 0) (hN : n.toNatClampNeg = N) (hbytes : N * componentBytes (newarray.typeOf atype) ≤ 536870912) (hcells : kc + 1 ≤ rm.cells) (hslots : ks + N ≤ rm.slots) (hd : decode cc pc = .ok (.newarray atype, 2))
    (k : ∀ q : Nat, RunC l Ω cc own nL rm Q h0 (kc + 1) (ks + N) (ws ++ [(q, .inl (Ω.2.1 t0, N, .inl (fun _ => 0)))]) (pc + 2) lv (.ref q :: st)) : RunC l Ω cc own nL rm Q h0 kc ks ws pc lv (.int n :: st) := fun p e s m args below meth c B hb H locs ls hP hD hS hl => by
  have hK := B.2.2.2.2.2.2.2.1.1
  subst hN
  refine va_newa (a0 := (n.toNatClampNeg, .inl (fun _ => 0))) B.1 B.2.1 (B.2.2.2.2.2.1 _ hac) rfl hK hP hD hS (fun q h => Or.inr h) (fun cA => by rw [hz]; rfl) hn rfl hbytes hcells hslots hd (fun q cA H1 hK1 hP1 hD1 hS1 => ?_)
  have e1 := hra s (hK.2 t0 _ ht).2
  have h2 : va_RA s cA (newarray.typeOf atype) := (hK1.2 (oT Ω).length (cA, newarray.typeOf atype) (by rw [List.getElem?_append_right (Nat.le_refl _)]; simp)).2
  have e2 : s.vm.findClass ("[" ++ (newarray.typeOf atype).toString) = some cA := by cases atype <;> exact h2
  have e3 : cA = Ω.2.1 t0 := Option.some.inj (e2.symm.trans e1)
  subst e3
  exact k q p e s m args below meth c B hb H1 locs ls hP1 hD1 hS1 hl
theorem C_newa {n : Int32} {N : Nat} (hac : Cond.arrayClass .int ∈ TT) (hn : ¬ n < 0) (hN : n.toNatClampNeg = N) (hbytes : N * 4 ≤ 536870912) (hcells : kc + 1 ≤ rm.cells) (hslots : ks + N ≤ rm.slots) (hd : decode cc pc = .ok (.newarray .int, 2))
    (k : ∀ q : Nat, RunC l Ω cc own nL rm Q h0 (kc + 1) (ks + N) (ws ++ [(q, .inl (Ω.2.1 0, N, .inl (fun _ => 0)))]) (pc + 2) lv (.ref q :: st)) : RunC l Ω cc own nL rm Q h0 kc ks ws pc lv (.int n :: st) := C_newaG (atype := .int) (t0 := 0) rfl (fun _ h => h) rfl hac hn hN hbytes hcells hslots hd k
theorem C_new {C : String} {T : u_T} {N ci i : Nat} {ty : Nat → FieldType} {fs : List Value} (hin : ∀ w ∈ u_ws C T N, w ∈ TT) (hty : ∀ k, k < N → parseFieldDescriptor (T k).2.2.1 = some (ty k)) (hcl : Cond.classLink own i C ∈ TT) (hinst : Cond.instantiable C N ∈ TT) (hini : Cond.initialized C ∈ TT) (hc : vwCl[ci]? = some (C, T, N)) (hfs : ∀ j, j < N → defaultValue (ty j) = vp_V fs j) (hcells : kc + 1 ≤ rm.cells) (hslots : ks + N ≤ rm.slots) (hd : decode cc pc = .ok (.new i, 3))
    (k : ∀ q : Nat, RunC l Ω cc own nL rm Q h0 (kc + 1) (ks + N) (ws ++ [(q, .inr (ci, fs))]) (pc + 3) lv (.ref q :: st)) : RunC l Ω cc own nL rm Q h0 kc ks ws pc lv st := fun p e s m args below meth c B hb H locs ls hP hD hS hl =>
  va_new B.1 B.2.1 B.2.2.2.2.2.1 hin ty hty B.2.2.2.2.1 (B.2.2.2.2.2.1 _ hcl) (B.2.2.2.2.2.1 _ hinst) (B.2.2.2.2.2.1 _ hini) B.2.2.2.2.2.2.2.1.1 hP hD hS (fun q h => Or.inr h) hc hfs hcells hslots hd (fun q H1 hP1 hD1 hS1 => k q p e s m args below meth c B hb H1 locs ls hP1 hD1 hS1 hl)
/-- a final field of the object being made -/
theorem C_putF {C : String} {T : u_T} {N ci i j a : Nat} {ty0 : Nat → FieldType} {ty : FieldType} {fs fs2 : List Value} {v : Value} (hin : ∀ w ∈ u_ws C T N, w ∈ TT) (hty : ∀ k, k < N → parseFieldDescriptor (T k).2.2.1 = some (ty0 k)) (hnm : ∀ a, a < N → ∀ b, b < N → a ≠ b → (T a).2.1 ≠ (T b).2.1) (hc : vwCl[ci]? = some (C, T, N)) (hj : j < N) (hm : Cond.fieldLink own i (T j).1 (T j).2.1 (T j).2.2.1 ∈ TT) (hfin : (T j).2.2.2 = true) (hdecl : (T j).1 = own) (hds : parseFieldDescriptor (T j).2.2.1 = some ty) (hn : narrow ty v = v) (hfit : fits ty v = true) (hlen : j < fs.length) (hs : fs.set j v = fs2) (hd : decode cc pc = .ok (.putfield i, 3))
    (k : RunC l Ω cc own nL rm Q h0 kc ks ((a, .inr (ci, fs2)) :: X) (pc + 3) lv st) : RunC l Ω cc own nL rm Q h0 kc ks ((a, .inr (ci, fs)) :: X) pc lv (v :: .ref a :: st) := fun p e s m args below meth c B hb H locs ls hP hD hS hl => by
  subst hs
  exact va_putF B.1 B.2.1 B.2.2.2.2.2.1 hin ty0 hty hnm B.2.2.2.2.1 B.2.2.2.2.2.2.2.1.1 hP hD hS 0 rfl hc j hj (B.2.2.2.2.2.1 _ hm) (fun _ h => h) hfin B.2.2.2.2.2.2.2.2 hdecl hds hn hfit hlen hd (fun H1 locs1 hP1 hD1 hS1 => k p e s m args below meth c B hb H1 locs1 ls hP1 hD1 hS1 hl)
theorem C_get {i ci j a : Nat} {fs : List Value} {v : Value} (hF : Fok own i ci j) (hv : fs[j]? = some v) (hd : decode cc pc = .ok (.getfield i, 3)) (k : RunC l Ω cc own nL rm Q h0 kc ks ((a, .inr (ci, fs)) :: X) (pc + 3) lv (v :: st)) : RunC l Ω cc own nL rm Q h0 kc ks ((a, .inr (ci, fs)) :: X) pc lv (.ref a :: st) := fun p e s m args below meth c B hb H locs ls hP hD hS hl => by
  obtain ⟨C, T, N, h1, h2, h3, h4⟩ := hF
  exact va_get B.1 B.2.1 B.2.2.2.2.2.1 h2 B.2.2.2.2.1 B.2.2.2.2.2.2.2.1.1 hP 0 rfl h1 j h3 (B.2.2.2.2.2.1 _ h4) (fun _ h => h) hv hd (k p e s m args below meth c B hb H locs ls hP hD hS hl)
theorem C_ret {mc ms : Nat} {out : (Nat → Nat) → va_W} (a : Nat → Nat) (ha : a 0 = h0) (hw : out a = ws) (hc : kc ≤ mc) (hs : ks ≤ ms) (hd : decode cc pc = .ok (.return_, 1)) : RunC l Ω cc own nL rm (rQC Ω h0 mc ms out) h0 kc ks ws pc lv [] := fun p e s m args below meth c B hb H locs ls hP hD hS hl => by
  subst hw
  exact W.widen (k := mc) (n := ms) hc hs (W.vret B.1 B.2.1 B.2.2.1 (fun t ht _ => ⟨⟨rfl, a, ha, by rw [ht]; exact hP, hD⟩, hS.F ht⟩) hS.2.2 hd B.2.2.2.2.2.2.1)
end RK
theorem va_front {D : va_G} {cl : List vw_C} {X Y : va_W} {H : Heap} (hP : va_P D cl (X ++ Y) H) : va_P D cl X H := fun k q hk => hP k q (by rw [List.getElem?_append_left (List.getElem?_eq_some_iff.mp hk).1]; exact hk)
theorem va_back {D : va_G} {cl : List vw_C} {X Y : va_W} {H : Heap} (hP : va_P D cl (X ++ Y) H) : va_P D cl Y H := fun k q hk => hP (X.length + k) q (by rw [List.getElem?_append_right (Nat.le_add_right _ _), Nat.add_sub_cancel_left]; exact hk)
theorem va_Dfront {A : Nat → Prop} {X Y : va_W} (hD : va_D A (X ++ Y)) : va_D A X := ⟨fun i j p q hp hq e => hD.1 i j p q (by rw [List.getElem?_append_left (List.getElem?_eq_some_iff.mp hp).1]; exact hp) (by rw [List.getElem?_append_left (List.getElem?_eq_some_iff.mp hq).1]; exact hq) e, fun k q hk => hD.2 k q (by rw [List.getElem?_append_left (List.getElem?_eq_some_iff.mp hk).1]; exact hk)⟩
theorem va_Dcross {A : Nat → Prop} {X Y : va_W} (hD : va_D A (X ++ Y)) {i j : Nat} {p q : Nat × va_E} (hp : X[i]? = some p) (hq : Y[j]? = some q) : p.1 ≠ q.1 := fun e => by
  have hi := (List.getElem?_eq_some_iff.mp hp).1
  have h := hD.1 i (X.length + j) p q (by rw [List.getElem?_append_left hi]; exact hp) (by rw [List.getElem?_append_right (Nat.le_add_right _ _), Nat.add_sub_cancel_left]; exact hq) e
  omega
theorem rP0.start {Ω : rO} {s : State} {H : Heap} {locs : List Loc} {h0 : Nat} (h : rP0 Ω s) (hb : oB Ω ≤ h0) (hS : va_S (cN h0 s.heap.size) s.heap H locs) (U : State) (hU : U.heap = H) (hW : s.WarmedH U.vm) : rP0 Ω U := by
  refine ⟨va_K.moved hW.alike h.1, by rw [hU]; exact Nat.le_trans h.2.1 hS.1, ?_, WW.warm hW h.2.2.2⟩
  rw [hU]
  refine SF.moved hW.alike (h.2.2.1.kept (fun a h1 h2 => hS.2.1 a h1 (fun z => h2 ?_)))
  rcases z with rfl | z
  · exact hb
  · omega
theorem rP0.blind {Ω : rO} {U : State} (h : rP0 Ω U) (g : JFrame) (mk : MethodId) (a : Array Value) : rP0 Ω (U.calling g mk a) := ⟨va_K.moved (u := U) (U := U.calling g mk a) (Vm.Alike.refl U.vm) h.1, h.2.1, SF.moved (u := U) (U := U.calling g mk a) (Vm.Alike.refl U.vm) h.2.2.1, WW.same (s := U) (U := U.calling g mk a) rfl h.2.2.2⟩
section RK2
variable {l : Launch} {Ω : rO} {cc : ByteArray} {own : String} {nL : Nat} {rm : Room} {Q : List Frame → Array Value → State → State → Prop} {h0 kc ks : Nat} {ws X : va_W} {pc : Nat} {lv : List (Option Value)} {st rest : List Value}
variable {y : MethodName} {cc2 : ByteArray} {nL2 : Nat} {rm2 : Room} {i n ci q mc ms : Nat} {fs As : List Value} {out : (Nat → Nat) → va_W} {host : String}
theorem C_core {p : Program} {e : Env} {s : State} {m : MethodId} {args : Array Value} {below : List Frame} {meth : Method} {c : Code} {H : Heap} {locs : List Loc} {ls : Array Slot} {av : Array Value}
    (B : rBC Ω cc own nL p s m args meth c) (hb : oB Ω ≤ h0) (hP : va_P Ω.1 vwCl (X ++ [(q, .inr (ci, fs))]) H) (hD : va_D (cN h0 s.heap.size) (X ++ [(q, .inr (ci, fs))])) (hS : va_S (cN h0 s.heap.size) s.heap H locs) (hl : rL ls nL lv)
    (hr : va_Run p l e rm s m args below meth c H locs kc ks mc ms (F0 m pc ls st) rest ((fun _ st o t => (o = .returned none ∧ ∃ a : Nat → Nat, a 0 = q ∧ va_P Ω.1 vwCl (out a) t.heap ∧ va_D (cN q H.size) (out a)) ∧ va_F (cN q H.size) st t) av) (cN q H.size))
    (k : ∀ a : Nat → Nat, a 0 = q → RunC l Ω cc own nL rm Q h0 (kc + mc) (ks + ms) (X ++ out a) (pc + 3) lv rest) : W p l e rm s m args below meth c H locs kc ks (Q below args s) (F0 m pc ls st) := by
  intro T hT XX
  obtain ⟨v, st₀, t, T', L, e0, X', hL, e1, e2, ⟨⟨hv, a, ha, hPo, hDo⟩, hz, hq⟩, sg⟩ := hr T hT XX
  cases hv
  rw [e0] at hz hq
  have hqA : cN h0 s.heap.size q := hD.2 X.length (q, .inr (ci, fs)) (by rw [List.getElem?_append_right (Nat.le_refl _)]; simp)
  have sub : ∀ z, cN q H.size z → cN h0 s.heap.size z := by
    intro z hz
    rcases hz with rfl | hz
    · exact hqA
    · exact Or.inr (Nat.le_trans hS.1 hz)
  have apart : ∀ (i : Nat) (x : Nat × va_E), X[i]? = some x → x.1 < H.size ∧ ¬ cN q H.size x.1 := by
    intro i x hx
    have hlt := (va_front hP i x hx).lt
    refine ⟨hlt, fun h => ?_⟩
    rcases h with h | h
    · exact va_Dcross hD hx (j := 0) (q := (q, .inr (ci, fs))) rfl h
    · omega
  obtain ⟨t2, a1, b1⟩ := k a ha p e s m args below meth c B hb T'.heap (locs ++ L) ls
    (va_P.app (fun i x hx => (va_front hP i x hx).kept (by rw [e1]; exact hq x.1 (apart i x hx).1 (apart i x hx).2)) (by rw [e1]; exact hPo))
    (va_D.app (va_Dfront hD) (hDo.weaken (fun _ z _ h => sub z.1 h)) (fun i j x z hx hz e => (apart i x hx).2 (by rw [e]; exact hDo.2 j z hz)))
    ⟨Nat.le_trans hS.1 (by rw [e1]; exact hz), fun z h1 h2 => by rw [e1, hq z (Nat.lt_of_lt_of_le h1 hS.1) (fun w => h2 (sub z w))]; exact hS.2.1 z h1 h2, fun z hz => by
      rcases List.mem_append.mp hz with h | h
      · exact hS.2.2 z h
      · exact sub _ (hL z h)⟩ hl T' rfl X'
  exact ⟨t2, sg _ a1, b1⟩
theorem C_callI (hC : ∀ sz, CtC l Ω y cc2 nL2 rm2 q sz ci fs As mc ms out) (ho : Cok y cc2 nL2 none n) (hyn : y.name = "<init>") (hin : Cond.instanceMethod y ∈ TT) (hm : Cond.methodLink own i y ∈ TT) (hn : As.length = n) (hst : As.reverse ++ .ref q :: rest = st) (hw : (rest.map fun v => v.category).sum ≤ 8) (hrc : rm2.cells = mc) (hrs : rm2.slots = ms) (hR : rm2.frames + 1 ≤ rm.frames ∧ 8 + (nL2 + 11) + rm2.locals ≤ rm.locals) (hf : kc + mc ≤ rm.cells ∧ ks + ms ≤ rm.slots) (hd : decode cc pc = .ok (.invokespecial i, 3))
    (k : ∀ a : Nat → Nat, a 0 = q → RunC l Ω cc own nL rm Q h0 (kc + mc) (ks + ms) (X ++ out a) (pc + 3) lv rest) : RunC l Ω cc own nL rm Q h0 kc ks (X ++ [(q, .inr (ci, fs))]) pc lv st := fun p e s m args below meth c B hb H locs ls hP hD hS hl => by
  have hts := B.2.2.2.2.2.1
  have hqA : cN h0 s.heap.size q := hD.2 X.length (q, .inr (ci, fs)) (by rw [List.getElem?_append_right (Nat.le_refl _)]; simp)
  have hqb : oB Ω ≤ q := by
    rcases hqA with h | h
    · rw [h]; exact hb
    · exact Nat.le_trans B.2.2.2.2.2.2.2.1.2.1 h
  refine C_core (av := #[]) B hb hP hD hS hl (va_runI (As := As) (b := q) (Ts := TT) (own := own) (index := i) (bytes := cc2) (maxL := nL2) ⟨B.1, B.2.1, B.2.2.2.1, B.2.2.2.2.1, hts⟩ (hC H.size) ⟨callB_of n hts (tbl_good ho.1) rfl hrc hrs (hts _ ho.2.1) (hts _ hm) ho.2.2 hR, hyn, hts _ hin⟩ ⟨fun a U g mk z => ?_, fun U hU hW => ?_⟩ rfl hn hl.1 hst.symm (lv_room hw) hd hf) k
  · obtain ⟨z1, z2, z3, z4, z5⟩ := z
    exact ⟨z1, z2, z3, z4, z5.blind g mk a⟩
  · exact ⟨rfl, by rw [hU], by rw [hU]; exact va_back hP, hqb, rP0.start B.2.2.2.2.2.2.2.1 hb hS U hU hW⟩
theorem C_callIN (hC : ∀ sz, CtC l Ω y cc2 nL2 rm2 q sz ci fs As mc ms out) (ho : Cok y cc2 nL2 none n) (hyn : y.name = "<init>") (hin : Cond.instanceMethod y ∈ TT) (hm : Cond.methodLinkNest own i y host ∈ nwds) (hn : As.length = n) (hst : As.reverse ++ .ref q :: rest = st) (hw : (rest.map fun v => v.category).sum ≤ 8) (hrc : rm2.cells = mc) (hrs : rm2.slots = ms) (hR : rm2.frames + 1 ≤ rm.frames ∧ 8 + (nL2 + 11) + rm2.locals ≤ rm.locals) (hf : kc + mc ≤ rm.cells ∧ ks + ms ≤ rm.slots) (hd : decode cc pc = .ok (.invokespecial i, 3))
    (k : ∀ a : Nat → Nat, a 0 = q → RunC l Ω cc own nL rm Q h0 (kc + mc) (ks + ms) (X ++ out a) (pc + 3) lv rest) : RunC l Ω cc own nL rm Q h0 kc ks (X ++ [(q, .inr (ci, fs))]) pc lv st := fun p e s m args below meth c B hb H locs ls hP hD hS hl => by
  have hts := B.2.2.2.2.2.1
  have hqA : cN h0 s.heap.size q := hD.2 X.length (q, .inr (ci, fs)) (by rw [List.getElem?_append_right (Nat.le_refl _)]; simp)
  have hqb : oB Ω ≤ q := by
    rcases hqA with h | h
    · rw [h]; exact hb
    · exact Nat.le_trans B.2.2.2.2.2.2.2.1.2.1 h
  refine C_core (av := #[]) B hb hP hD hS hl (va_runIN (As := As) (b := q) (Ts := TT) (own := own) (index := i) (bytes := cc2) (maxL := nL2) ⟨B.1, B.2.1, B.2.2.2.1, B.2.2.2.2.1, hts⟩ (hC H.size) ⟨va_cnB n hts (tbl_good ho.1) rfl hrc hrs (B.2.2.2.2.2.2.2.1.2.2.2.1 _ hm) (hts _ ho.2.1) ho.2.2 hR, hyn, hts _ hin⟩ ⟨fun a U g mk z => ?_, fun U hU hW => ?_⟩ rfl hn hl.1 hst.symm (lv_room hw) hd hf) k
  · obtain ⟨z1, z2, z3, z4, z5⟩ := z
    exact ⟨z1, z2, z3, z4, z5.blind g mk a⟩
  · exact ⟨rfl, by rw [hU], by rw [hU]; exact va_back hP, hqb, rP0.start B.2.2.2.2.2.2.2.1 hb hS U hU hW⟩
end RK2
