/-! new int[4][80]: the model's own steps -/
/-- the outer array when i of its 4 rows stand -/
def mw_o (c : ClassId) (h i : Nat) : Cell := arrV c 4 (fun z => va_rf (if z < i then some (h + 1 + z) else none))
/-- a row of 80 noughts -/
def mw_r (c : ClassId) : Cell := arrV c 80 (fun _ => .int 0)
/-- the store when i rows stand -/
def mw_T (s : State) (cA c0 : ClassId) (i : Nat) : State := Nat.rec (s.pushCell (mw_o cA s.heap.size 0)) (fun k t => (t.pushCell (mw_r c0)).setCell s.heap.size (mw_o cA s.heap.size (k + 1))) i
theorem mw_0 (s : State) (cA c0 : ClassId) : mw_T s cA c0 0 = s.pushCell (mw_o cA s.heap.size 0) := rfl
theorem mw_s (s : State) (cA c0 : ClassId) (i : Nat) : mw_T s cA c0 (i + 1) = ((mw_T s cA c0 i).pushCell (mw_r c0)).setCell s.heap.size (mw_o cA s.heap.size (i + 1)) := rfl
theorem mw_o0 (c : ClassId) (h : Nat) : mw_o c h 0 = { cls := c, slots := Array.replicate 4 .null, vm := .none } := by
  rw [arrV_new]
  unfold mw_o
  congr 1
theorem mw_r0 (c : ClassId) : mw_r c = { cls := c, slots := Array.replicate 80 (.int 0), vm := .none } := (arrV_new _ _ _).symm
theorem mw_put (c : ClassId) (h i : Nat) : (mw_o c h i).setSlot i (.ref (h + 1 + i)) = mw_o c h (i + 1) := by
  unfold mw_o
  rw [arrV_store]
  refine congrArg (arrV c 4) (funext fun z => ?_)
  unfold updV
  by_cases e : z = i
  · subst e
    rw [if_pos rfl, if_pos (Nat.lt_succ_self z)]
    rfl
  · rw [if_neg e]
    show va_rf (if z < i then some (h + 1 + z) else none) = va_rf (if z < i + 1 then some (h + 1 + z) else none)
    by_cases d : z < i
    · rw [if_pos d, if_pos (by omega)]
    · rw [if_neg d, if_neg (by omega)]
theorem mw_all (s : State) (cA c0 : ClassId) (i : Nat) : ((mw_T s cA c0 i).heap.size = s.heap.size + 1 + i ∧ (mw_T s cA c0 i).heap[s.heap.size]? = some (mw_o cA s.heap.size i)) ∧ ((mw_T s cA c0 i).vm = s.vm ∧ (mw_T s cA c0 i).slotsUsed = s.slotsUsed + 4 + 80 * i) ∧ (∀ a, a < s.heap.size → (mw_T s cA c0 i).heap[a]? = s.heap[a]?) ∧ ∀ j, j < i → (mw_T s cA c0 i).heap[s.heap.size + 1 + j]? = some (mw_r c0) := by
  induction i with
  | zero =>
    rw [mw_0]
    refine ⟨⟨by simp, by simp⟩, ⟨rfl, ?_⟩, fun a ha => State.heap_pushCell_of_lt _ _ ha, fun j hj => absurd hj (Nat.not_lt_zero _)⟩
    simp [mw_o, arrV_size]
  | succ i ih =>
    obtain ⟨⟨h1, h2⟩, ⟨h3, h4⟩, h5, h6⟩ := ih
    rw [mw_s]
    have key : ∀ a, a < s.heap.size + 1 + i → ((mw_T s cA c0 i).pushCell (mw_r c0)).heap[a]? = (mw_T s cA c0 i).heap[a]? := fun a ha => State.heap_pushCell_of_lt _ _ (by rw [h1]; exact ha)
    have k0 : ((mw_T s cA c0 i).pushCell (mw_r c0)).heap[s.heap.size]? = some (mw_o cA s.heap.size i) := (key _ (by omega)).trans h2
    have kl : ((mw_T s cA c0 i).pushCell (mw_r c0)).heap[s.heap.size + 1 + i]? = some (mw_r c0) := by
      rw [← h1]
      exact State.heap_pushCell_size _ _
    refine ⟨⟨?_, State.heap_setCell_self k0⟩, ⟨?_, ?_⟩, fun a ha => ?_, fun j hj => ?_⟩
    · simp [State.setCell, h1]
      omega
    · simp [h3]
    · simp [h4, mw_r, arrV_size]
      omega
    · rw [State.heap_setCell_other (Nat.ne_of_gt ha), key a (by omega)]
      exact h5 a ha
    · rw [State.heap_setCell_other (show s.heap.size ≠ s.heap.size + 1 + j by omega)]
      by_cases e : j = i
      · subst e; exact kl
      · rw [key _ (by omega)]
        exact h6 j (by omega)
theorem mw_top (s : State) (f : JFrame) (cA c0 : ClassId) (i : Nat) : mw_T (s.setTop f) cA c0 i = (mw_T s cA c0 i).setTop f := by
  induction i with
  | zero => rfl
  | succ i ih => rw [mw_s, mw_s, ih, State.heap_setTop, State.pushCell_setTop, State.setCell_setTop]
/-- the room that is taken -/
theorem mw_stand {p : Program} {l : Launch} {e : Env} {R : Room} {s : State} {m : MethodId} {args : Array Value} {below : List Frame} {meth : Method} {c : Code} {T : State} {locs : List Loc} {kc ks : Nat} (X : Stand p l e R s m args below meth c T locs kc ks) (hg : s.heap.size ≤ T.heap.size) (cA c0 : ClassId) (i : Nat) : Stand p l e R s m args below meth c (mw_T T cA c0 i) locs (kc + 1 + i) (ks + 4 + 80 * i) := by
  induction i with
  | zero =>
    have h := X.pushed (mw_o cA T.heap.size 0)
    rw [show (mw_o cA T.heap.size 0).slots.size = 4 from arrV_size _ _ _] at h
    exact h
  | succ i ih =>
    obtain ⟨⟨h1, h2⟩, -⟩ := mw_all T cA c0 i
    have k0 : ((mw_T T cA c0 i).pushCell (mw_r c0)).heap[T.heap.size]? = some (mw_o cA T.heap.size i) := (State.heap_pushCell_of_lt _ _ (show T.heap.size < (mw_T T cA c0 i).heap.size by omega)).trans h2
    have h := (ih.pushed (mw_r c0)).stored k0 i (.ref (T.heap.size + 1 + i))
    rw [mw_put, show (mw_r c0).slots.size = 80 from arrV_size _ _ _] at h
    have h2 := h.dropFresh (J := [⟨T.heap.size, i⟩]) (fun x hx => by
      rw [List.mem_singleton.mp hx]
      exact hg)
    exact h2
/-- one array of noughts of its sort -/
theorem mw_newA {E : CtlPost} {e : Env} {d : Bool} {acts : List Action} {s : State} {c cc : ClassId} {k : Class} {ty : FieldType} {n : Nat} {v : Value} {Q : Addr → Pre} (hk : s.vm.classes[c]? = some k) (hkind : k.kind = .array cc ty) (hl : n ≤ e.platform.arrayLengthLimit) (hb : n * componentBytes ty ≤ e.platform.maxHeapBytes) (hf : fits ty v = true) (hv : v.isDefault = true) (h1 : s.heap.size < e.platform.maxCells) (h2 : s.slotsUsed + n ≤ e.platform.maxSlots) (hq : Q s.heap.size d acts (s.pushCell { cls := c, slots := Array.replicate n v, vm := .none })) : wp (Jvm.newArray c n v) Q E e d acts s := by
  have g1 : ¬ n > e.platform.arrayLengthLimit := Nat.not_lt.mpr hl
  have g2 : ¬ n * componentBytes ty > e.platform.maxHeapBytes := Nat.not_lt.mpr hb
  have g3 : ∀ i w, (Array.replicate n v)[i]? = some w → s.fitsSlot c .none i w = true := fun i w hw => by
    rw [Array.getElem?_replicate] at hw
    by_cases z : i < n
    · rw [if_pos z] at hw
      cases hw
      simp [State.fitsSlot, State.slotType?, hk, hkind, hf]
    · rw [if_neg z] at hw
      cases hw
  have g4 : allocActs (Array.replicate n v) s.heap.size acts = acts := by
    unfold allocActs
    rw [if_pos]
    rw [Array.all_replicate, hv]
    split <;> rfl
  simp only [Jvm.newArray, Jvm.arrayFits, wp_bind', W.ask, W.ite, g1, g2, if_false, wp_pure', W.theClass, hk, hkind, W.alloc, W.stop, Option.some.injEq, exists_eq_left', Array.size_replicate, g4]
  rw [if_neg (show ¬ e.platform.maxSlots < n by omega)]
  exact ⟨h1, h2, g3, hq⟩
theorem mw_make {E : CtlPost} {e : Env} {d : Bool} {acts : List Action} {s : State} {cA c0 cc : ClassId} {kA k0 : Class} {Q : Addr → Pre} (hA : s.vm.classes[cA]? = some kA) (hkA : kA.kind = .array c0 (.array .int)) (h0 : s.vm.classes[c0]? = some k0) (hk0 : k0.kind = .array cc .int) (hl : 80 ≤ e.platform.arrayLengthLimit) (hb : 320 ≤ e.platform.maxHeapBytes) (hc : s.heap.size + 5 ≤ e.platform.maxCells) (hs : s.slotsUsed + 324 ≤ e.platform.maxSlots) (hq : ∀ d acts, Q s.heap.size d acts (mw_T s cA c0 4)) : wp (multianewarray.make cA [4, 80]) Q E e d acts s := by
  have row : ∀ (E : CtlPost) (d : Bool) (acts : List Action) (t : State) (Q : Addr → Pre), t.vm = s.vm → t.heap.size < e.platform.maxCells → t.slotsUsed + 80 ≤ e.platform.maxSlots → Q t.heap.size d acts (t.pushCell (mw_r c0)) → wp (multianewarray.make c0 [80]) Q E e d acts t := fun E d acts t Q e1 e2 e3 hq => by
    rw [mw_r0] at hq
    rw [multianewarray.make]
    simp only [wp_bind', W.ite, show ¬ (80 : Int32) < 0 by decide, if_false, wp_pure', W.theClass, e1, h0, hk0, Option.some.injEq, exists_eq_left']
    exact mw_newA (by rw [e1]; exact h0) hk0 hl hb rfl rfl e2 e3 hq
  rw [multianewarray.make]
  simp only [wp_bind', W.ite, show ¬ (4 : Int32) < 0 by decide, if_false, wp_pure', W.theClass, hA, hkA, Option.some.injEq, exists_eq_left']
  refine mw_newA hA hkA (Nat.le_trans (by decide) hl) (Nat.le_trans (by decide) hb) rfl rfl (by omega) (by show _ + 4 ≤ _; omega) ?_
  rw [show Int32.toNatClampNeg 4 = 4 from rfl, ← mw_o0 cA s.heap.size, ← mw_0 s cA c0, if_neg (show ¬ ((4 : Int32) == 0) = true by decide), wp_bind', Std.Legacy.Range.forIn_eq_forIn_range']
  have one : ∀ (i : Nat) (d : Bool) (acts : List Action) (Q' : ForInStep PUnit → Pre), i < 4 → (∀ d acts, Q' (ForInStep.yield PUnit.unit) d acts (mw_T s cA c0 (i + 1))) → wp (do
      let r ← multianewarray.make c0 [80]
      writeLoc s.heap.size i (.ref r)
      Pure.pure (ForInStep.yield PUnit.unit)) Q' E e d acts (mw_T s cA c0 i) := fun i d acts Q' hi hq => by
    obtain ⟨⟨f1, f2⟩, ⟨f3, f4⟩, -⟩ := mw_all s cA c0 i
    simp only [wp_bind']
    refine row _ _ _ _ _ f3 (by omega) (by omega) ?_
    simp only [wp_bind', W.writeLoc, wp_pure']
    refine ⟨mw_o cA s.heap.size i, (State.heap_pushCell_of_lt _ _ (show s.heap.size < (mw_T s cA c0 i).heap.size by omega)).trans f2, by simp [mw_o, arrV], by rw [show (mw_o cA s.heap.size i).slots.size = 4 from arrV_size _ _ _]; exact hi, ?_, ?_⟩
    · show State.fitsSlot _ cA .none i _ = true
      simp [State.fitsSlot, State.slotType?, f3, hA, hkA, fits]
    · rw [f1, mw_put, ← mw_s]
      exact hq _ _
  show wp (forIn [0, 1, 2, 3] PUnit.unit _) _ E e d acts _
  rw [List.forIn_cons, wp_bind']
  refine one 0 _ _ _ (by decide) (fun d acts => ?_)
  dsimp only
  rw [List.forIn_cons, wp_bind']
  refine one 1 _ _ _ (by decide) (fun d acts => ?_)
  dsimp only
  rw [List.forIn_cons, wp_bind']
  refine one 2 _ _ _ (by decide) (fun d acts => ?_)
  dsimp only
  rw [List.forIn_cons, wp_bind']
  refine one 3 _ _ _ (by decide) (fun d acts => ?_)
  dsimp only
  rw [List.forIn_nil]
  simp only [wp_pure']
  exact hq _ _
theorem mw_over {args : Array Value} {s : State} (h : (Cond.arrayOver (.array .int)).before args s = true) : ∃ c0 cA k, s.vm.findClass (FieldType.array .int).toString = some c0 ∧ s.vm.classes[cA]? = some k ∧ k.kind = .array c0 (.array .int) ∧ s.vm.findClass ("[" ++ (FieldType.array .int).toString) = some cA := by
  simp only [Cond.before, Cond.holds, Cond.value, beq_iff_eq] at h
  cases hc : s.vm.findClass (FieldType.array .int).toString with
  | none =>
    rw [hc] at h
    simp at h
  | some c0 =>
    rw [hc] at h
    obtain ⟨x, h1, h2⟩ := Option.bind_eq_some_iff.mp (show ((some c0 : Option ClassId).bind _) = some _ from h)
    cases h1
    obtain ⟨cA, h3, h4⟩ := Option.bind_eq_some_iff.mp h2
    obtain ⟨k, h5, h6⟩ := Option.map_eq_some_iff.mp h4
    obtain ⟨h7, h8, -⟩ := Array.findIdx?_eq_some_iff_getElem.mp h3
    rw [(Array.getElem?_eq_some_iff.mp h5).2] at h8
    cases hk : k.kind with
    | array a ty =>
      rw [hk] at h6 h8
      obtain ⟨g1, g2⟩ := Bool.and_eq_true_iff.mp h6
      exact ⟨c0, cA, k, rfl, h5, by rw [hk, of_decide_eq_true g1, (beq_iff_eq.mp h8)], of_decide_eq_true g2⟩
    | _ =>
      rw [hk] at h6
      cases h6
/-- the step -/
theorem mw_step {p : Program} {l : Launch} {e : Env} {R : Room} {s : State} {m : MethodId} {args : Array Value} {below : List Frame} {meth : Method} {c : Code} {T : State} {locs : List Loc} {kc ks : Nat} (X : Stand p l e R s m args below meth c T locs kc ks) (hexec : p.tables.exec = Jvm.exec) {own : String} {i : Nat} (hown : s.vm.findClass own = some m.cls) (hcl : (Cond.classLink own i ("[" ++ (FieldType.array .int).toString)).before args s = true) (hov : (Cond.arrayOver (.array .int)).before args s = true) (hac : (Cond.arrayClass .int).before args s = true) {g : JFrame} (hg : g.method = m) (hd : decode c.code g.pc = .ok (.multianewarray i 2, 4)) {rest : List Value} (hst : g.stack = .int 80 :: .int 4 :: rest) (hc : kc + 5 ≤ R.cells) (hs : ks + 324 ≤ R.slots) :
    ∃ (vm' : Vm) (cA c0 : ClassId), s.vm.findClass ("[" ++ (FieldType.array .int).toString) = some cA ∧ s.vm.findClass (FieldType.array .int).toString = some c0 ∧ Stand p l e R s m args below meth c (mw_T (T.setVm vm') cA c0 4) locs (kc + 5) (ks + 324) ∧ ∀ target, Steps p.tables e below ((mw_T (T.setVm vm') cA c0 4).setTop { g with pc := g.pc + 4, stack := .ref T.heap.size :: rest }) target → Steps p.tables e below (T.setTop g) target := by
  subst hg
  obtain ⟨c0, cA, kA, n0, hA, hkA, nA⟩ := mw_over hov
  obtain ⟨c0', k0, cc, n0', h0, hk0⟩ := Cond.arrayClass_spec hac
  cases Option.some.inj (n0'.symm.trans n0)
  obtain ⟨x, nx, hx⟩ := Cond.classLink_spec hown hcl e.platform (by rw [X.admits.platform])
  cases Option.some.inj (nA.symm.trans nx)
  obtain ⟨hL, hW, -⟩ := State.classEntry (e := e) X.warmed hx
  generalize T.vm.noted g.method.cls i (.cls cA) = vm' at hL hW
  obtain ⟨kA', hA', eA⟩ := hW.alike.2.2 _ _ hA
  obtain ⟨k0', h0', e0⟩ := hW.alike.2.2 _ _ h0
  have X1 := X.noted hW
  have XF := mw_stand X1 X.heapGrown cA c0 4
  obtain ⟨r1, r2⟩ := X.roomAbove (a := 5) (b := 324) hc hs
  refine ⟨vm', cA, c0, nA, n0, XF, fun target hrest => ?_⟩
  jvm_step X.here [hexec, hd]
  simp only [multianewarray.sem, wp_bind', W.resolveClassAt_links (State.method?_setTop g X.here.top) hL]
  rw [W.popN, if_neg (by decide)]
  refine ⟨g, State.topJava?_setTop' (s := T.setVm vm') g X.here.top, [.int 4, .int 80], rest, rfl, hst, ?_⟩
  simp only [List.mapM_cons, List.mapM_nil, wp_bind', wp_pure']
  refine mw_make hA' (by rw [eA]; exact hkA) h0' (by rw [e0]; exact hk0) (by rw [Launch.admits_arrayLengthLimit X.admits]; decide) (by rw [Launch.admits_maxHeapBytes X.admits]; decide) (by show T.heap.size + 5 ≤ _; omega) (by show T.slotsUsed + 324 ≤ _; omega) (fun d' acts' => ?_)
  have eS : ((T.setTop g).setVm vm').setTop { g with stack := rest } = (T.setVm vm').setTop { g with stack := rest } := State.setTop_setTop (s := T.setVm vm') _ _
  rw [eS, mw_top]
  simp only [wp_bind', W.mark, W.pushRef, State.topJava?_setTop' _ XF.here.top, Option.some.injEq, exists_eq_left', State.setTop_setTop, State.heap_setTop]
  intro acts
  simp [jvm, XF.here.top]
  exact hrest
/-! arrays of references within a constructor -/
section RK4
variable {l : Launch} {Ω : rO} {cc : ByteArray} {own : String} {nL : Nat} {rm : Room} {Q : List Frame → Array Value → State → State → Prop} {h0 kc ks : Nat} {X : va_W} {x : Nat × va_E} {pc : Nat} {lv : List (Option Value)} {st rest : List Value} {i : Nat}
theorem C_anew {n : Int32} {N : Nat} (hcl : Cond.classLink own i "NurseryHeap$State" ∈ TT) (hn : ¬ n < 0) (hN : n.toNatClampNeg = N) (hbytes : N * 4 ≤ 536870912) (hcells : kc + 1 ≤ rm.cells) (hslots : ks + N ≤ rm.slots) (hd : decode cc pc = .ok (.anewarray i, 3))
    (k : ∀ q : Nat, RunC l Ω cc own nL rm Q h0 (kc + 1) (ks + N) (x :: (X ++ [(q, .inl (Ω.2.1 4, N, .inr (.inr (.inr (.inr (fun _ => none))))))])) (pc + 3) lv (.ref q :: st)) : RunC l Ω cc own nL rm Q h0 kc ks (x :: X) pc lv (.int n :: st) := fun p e s m args below meth c B hb H locs ls hP hD hS hl => by
  have hK := B.2.2.2.2.2.2.2.1.1
  subst hN
  refine va_newq (C := "NurseryHeap$State") B.1 B.2.1 B.2.2.2.2.1 (B.2.2.2.2.2.1 _ hcl) B.2.2.2.2.2.2.2.1.2.2.1.2.2.2.2.2.2.2.1 hK hP hD hS (fun q h => Or.inr h) hn rfl hbytes hcells hslots hd (fun q cA H1 hK1 hP1 hD1 hS1 => ?_)
  obtain ⟨kA, comp, -, -, -, e1⟩ := (hK.2 4 (Ω.2.1 4, .object "NurseryHeap$State") rfl).2
  obtain ⟨kA2, comp2, -, -, -, e2⟩ : va_RA s cA (.object "NurseryHeap$State") := (hK1.2 (oT Ω).length (cA, .object "NurseryHeap$State") (by rw [List.getElem?_append_right (Nat.le_refl _)]; simp)).2
  have e3 : cA = Ω.2.1 4 := Option.some.inj (e2.symm.trans e1)
  subst e3
  exact k q p e s m args below meth c B hb H1 locs ls hP1 hD1 hS1 hl
/-- new int[4][80] -/
theorem C_multi (hcl : Cond.classLink own i ("[" ++ (FieldType.array .int).toString) ∈ TT) (hac : Cond.arrayClass .int ∈ TT) (hcells : kc + 5 ≤ rm.cells) (hslots : ks + 324 ≤ rm.slots) (hd : decode cc pc = .ok (.multianewarray i 2, 4))
    (k : ∀ q : Nat, RunC l Ω cc own nL rm Q h0 (kc + 5) (ks + 324) (x :: (X ++ [(q, .inl (Ω.2.1 5, 4, .inr (.inr (.inr (.inr (fun i => if i < 4 then some (q + 1 + i) else none)))))), (q + 1, .inl (Ω.2.1 0, 80, .inl (fun _ => 0))), (q + 2, .inl (Ω.2.1 0, 80, .inl (fun _ => 0))), (q + 3, .inl (Ω.2.1 0, 80, .inl (fun _ => 0))), (q + 4, .inl (Ω.2.1 0, 80, .inl (fun _ => 0)))])) (pc + 4) lv (.ref q :: st)) : RunC l Ω cc own nL rm Q h0 kc ks (x :: X) pc lv (.int 80 :: .int 4 :: st) := fun p e s m args below meth c B hb H locs ls hP hD hS hl => by
  have hK := B.2.2.2.2.2.2.2.1.1
  have hts := B.2.2.2.2.2.1
  intro T hT Xs
  obtain ⟨vm', cA, c0, fA, fC, X', step⟩ := mw_step Xs B.1 B.2.2.2.2.1 (hts _ hcl) (B.2.2.2.2.2.2.2.1.2.2.1.2.2.2.2.2.2.2.2.1) (hts _ hac) (g := F0 m pc ls (.int 80 :: .int 4 :: st)) rfl (by rw [B.2.1]; exact hd) (rest := st) rfl hcells hslots
  have c5 : cA = Ω.2.1 5 := Option.some.inj (fA.symm.trans (hK.2 5 (Ω.2.1 5, .array .int) rfl).2)
  have e0 : c0 = Ω.2.1 0 := Option.some.inj (fC.symm.trans (hK.2 0 (Ω.2.1 0, .int) rfl).2)
  subst c5
  subst e0
  have hTh : (T.setVm vm').heap = H := hT
  obtain ⟨⟨f1, f2⟩, -, hold, hrow⟩ := mw_all (T.setVm vm') (Ω.2.1 5) (Ω.2.1 0) 4
  generalize mw_T (T.setVm vm') (Ω.2.1 5) (Ω.2.1 0) 4 = F at X' step f1 f2 hold hrow
  rw [hTh] at f1 f2 hold hrow
  have hnew : va_P Ω.1 vwCl [(H.size, .inl (Ω.2.1 5, 4, .inr (.inr (.inr (.inr (fun i => if i < 4 then some (H.size + 1 + i) else none)))))), (H.size + 1, .inl (Ω.2.1 0, 80, .inl (fun _ => 0))), (H.size + 2, .inl (Ω.2.1 0, 80, .inl (fun _ => 0))), (H.size + 3, .inl (Ω.2.1 0, 80, .inl (fun _ => 0))), (H.size + 4, .inl (Ω.2.1 0, 80, .inl (fun _ => 0)))] F.heap := by
    intro j z hz
    rcases (by have := (List.getElem?_eq_some_iff.mp hz).1; simp at this; omega : j = 0 ∨ j = 1 ∨ j = 2 ∨ j = 3 ∨ j = 4) with rfl | rfl | rfl | rfl | rfl <;> cases hz
    · exact f2
    · exact hrow 0 (by omega)
    · exact hrow 1 (by omega)
    · exact hrow 2 (by omega)
    · exact hrow 3 (by omega)
  have hlt : ∀ (j : Nat) (z : Nat × va_E), (x :: X)[j]? = some z → z.1 < H.size := fun j z hz => (hP j z hz).lt
  obtain ⟨t, a1, b1⟩ := k H.size p e s m args below meth c B hb F.heap locs ls
    (va_P.app (w1 := x :: X) (fun j z hz => (hP j z hz).kept (hold _ (hlt j z hz))) hnew)
    (va_D.app (w1 := x :: X) hD ⟨fun a b u w hu hw e => by
        have h1 := (List.getElem?_eq_some_iff.mp hu).1
        have h2 := (List.getElem?_eq_some_iff.mp hw).1
        simp at h1 h2
        rcases (by omega : a = 0 ∨ a = 1 ∨ a = 2 ∨ a = 3 ∨ a = 4) with rfl | rfl | rfl | rfl | rfl <;> cases hu <;>
        rcases (by omega : b = 0 ∨ b = 1 ∨ b = 2 ∨ b = 3 ∨ b = 4) with rfl | rfl | rfl | rfl | rfl <;> cases hw <;> first | rfl | (simp at e) , fun a u hu => by
        have h1 := (List.getElem?_eq_some_iff.mp hu).1
        simp at h1
        have := hS.1
        rcases (by omega : a = 0 ∨ a = 1 ∨ a = 2 ∨ a = 3 ∨ a = 4) with rfl | rfl | rfl | rfl | rfl <;> cases hu <;> exact Or.inr (by show s.heap.size ≤ _; omega)⟩ (fun a b u w hu hw e => by
        have h1 := hlt a u hu
        have h2 := (List.getElem?_eq_some_iff.mp hw).1
        simp at h2
        rcases (by omega : b = 0 ∨ b = 1 ∨ b = 2 ∨ b = 3 ∨ b = 4) with rfl | rfl | rfl | rfl | rfl <;> cases hw <;> (simp at e; omega)))
    ⟨Nat.le_trans hS.1 (by rw [f1]; omega), fun z h1 h2 => (hold z (Nat.lt_of_lt_of_le h1 hS.1)).trans (hS.2.1 z h1 h2), hS.2.2⟩ hl F rfl X'
  exact ⟨t, step t (by rw [hT]; exact a1), b1⟩
end RK4
