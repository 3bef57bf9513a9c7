/-! static arrays, String constants and their methods for 'Run' -/
def lenS (i : Nat) : Nat := ([4, 7] : List Nat).getD i 0
def bytS (i j : Nat) : Int32 := (([[101, 115, 111, 97], [110, 119, 108, 120, 109, 106, 101]] : List (List Int32)).getD i []).getD j 0
def itLen (n : Nat) : Nat := if n = 3 then 7 else 4
/-- only if v is a char -/
def bch {β : Type} (v : Int32) (x : Option β) : Option β := if (v.toUInt32 % 65536).toInt32 = v then x else none
theorem hit_bch {β : Type} {v : Int32} {x : Option (β × rS)} {K : β → rS → Prop} (h : hit (bch v x) K) : (v.toUInt32 % 65536).toInt32 = v ∧ hit x K := by
  unfold bch at h
  by_cases e : (v.toUInt32 % 65536).toInt32 = v
  · rw [if_pos e] at h
    exact ⟨e, h⟩
  · rw [if_neg e] at h
    exact h.elim
theorem bch_nar {v : Int32} (h : (v.toUInt32 % 65536).toInt32 = v) : narrow .char (.int v) = .int v := by
  have := pk_nc v
  rw [h] at this
  exact this
section RT
variable {l : Launch} {Ω : rO} {cc : ByteArray} {own : String} {nL : Nat} {ret : Option FieldType} {rm : Room} {K : Int32 → rS → Prop} {Q : List Frame → Array Value → State → State → Prop} {kc ks : Nat} {pc : Nat} {lv : List (Option Value)} {stk : List Value} {σ : rS}
theorem R_gst {C nm d : String} {v : Value} {i : Nat} (hz : ∀ s : State, SF Ω s s.heap → va_Z C nm d v (oFb Ω) s s.heap) (hm : Cond.fieldLink own i C nm d ∈ TT) (hd : decode cc pc = .ok (.getstatic i, 3)) (k : RunG l Ω cc own nL ret rm Q kc ks (pc + 3) lv (v :: stk) σ) : RunG l Ω cc own nL ret rm Q kc ks pc lv stk σ := fun p e s m args below meth c B H locs ls hP hS hl =>
  va_gets B.1 B.2.1 (hz s B.2.2.2.2.2.2.2.2.2.2.1) (hS.mono (fun _ z => B.2.2.2.2.2.2.2.2.2.1.fb z)) B.2.2.2.2.1 (B.2.2.2.2.2.1 _ hm) (fun _ h => h) hd (k p e s m args below meth c B H locs ls hP hS hl)
theorem R_gstq {C nm d : String} {i : Nat} (hz : ∀ s : State, SF Ω s s.heap → va_Zq C nm d (oFb Ω) s s.heap) (hm : Cond.fieldLink own i C nm d ∈ TT) (hd : decode cc pc = .ok (.getstatic i, 3)) (k : ∀ q : Option Nat, RunG l Ω cc own nL ret rm Q kc ks (pc + 3) lv (va_rf q :: stk) σ) : RunG l Ω cc own nL ret rm Q kc ks pc lv stk σ := fun p e s m args below meth c B H locs ls hP hS hl => by
  rcases hz s B.2.2.2.2.2.2.2.2.2.2.1 with h | ⟨t, h⟩
  · exact va_gets B.1 B.2.1 h (hS.mono (fun _ z => B.2.2.2.2.2.2.2.2.2.1.fb z)) B.2.2.2.2.1 (B.2.2.2.2.2.1 _ hm) (fun _ h => h) hd (k none p e s m args below meth c B H locs ls hP hS hl)
  · exact va_gets B.1 B.2.1 h (hS.mono (fun _ z => B.2.2.2.2.2.2.2.2.2.1.fb z)) B.2.2.2.2.1 (B.2.2.2.2.2.1 _ hm) (fun _ h => h) hd (k (some t) p e s m args below meth c B H locs ls hP hS hl)
theorem R_sti {t N : Nat} {f : Nat → Value} {i x : Int32} (ht : ∀ s : State, SF Ω s s.heap → va_T .int t N f (oFb Ω) s s.heap) (hin : vp_in i N) (hv : f (ix i) = .int x) (hd : decode cc pc = .ok (.iaload, 1)) (k : RunG l Ω cc own nL ret rm Q kc ks (pc + 1) lv (.int x :: stk) σ) : RunG l Ω cc own nL ret rm Q kc ks pc lv (.int i :: .ref t :: stk) σ := fun p e s m args below meth c B H locs ls hP hS hl =>
  va_ti B.1 B.2.1 (ht s B.2.2.2.2.2.2.2.2.2.2.1) (hS.mono (fun _ z => B.2.2.2.2.2.2.2.2.2.1.fb z)) hin hv hd (k p e s m args below meth c B H locs ls hP hS hl)
theorem R_stb {t N : Nat} {f : Nat → Value} {i x : Int32} (ht : ∀ s : State, SF Ω s s.heap → va_T .byte t N f (oFb Ω) s s.heap) (hin : vp_in i N) (hv : f (ix i) = .int x) (hd : decode cc pc = .ok (.baload, 1)) (k : RunG l Ω cc own nL ret rm Q kc ks (pc + 1) lv (.int x :: stk) σ) : RunG l Ω cc own nL ret rm Q kc ks pc lv (.int i :: .ref t :: stk) σ := fun p e s m args below meth c B H locs ls hP hS hl =>
  va_tb B.1 B.2.1 (ht s B.2.2.2.2.2.2.2.2.2.2.1) (hS.mono (fun _ z => B.2.2.2.2.2.2.2.2.2.1.fb z)) hin hv hd (k p e s m args below meth c B H locs ls hP hS hl)
theorem R_stlen {ty : FieldType} {t N : Nat} {f : Nat → Value} {x : Int32} (ht : ∀ s : State, SF Ω s s.heap → va_T ty t N f (oFb Ω) s s.heap) (hv : Int32.ofNat N = x) (hd : decode cc pc = .ok (.arraylength, 1)) (k : RunG l Ω cc own nL ret rm Q kc ks (pc + 1) lv (.int x :: stk) σ) : RunG l Ω cc own nL ret rm Q kc ks pc lv (.ref t :: stk) σ := fun p e s m args below meth c B H locs ls hP hS hl =>
  va_tlen B.1 B.2.1 (ht s B.2.2.2.2.2.2.2.2.2.2.1) (hS.mono (fun _ z => B.2.2.2.2.2.2.2.2.2.1.fb z)) hv hd (k p e s m args below meth c B H locs ls hP hS hl)
theorem R_strf {o nm d : String} {q i : Nat} {v : Value} (he : ∀ s : State, SF Ω s s.heap → va_OF o nm d v q (oFb Ω) s s.heap) (hm : Cond.fieldLink own i o nm d ∈ TT) (hd : decode cc pc = .ok (.getfield i, 3)) (k : RunG l Ω cc own nL ret rm Q kc ks (pc + 3) lv (v :: stk) σ) : RunG l Ω cc own nL ret rm Q kc ks pc lv (.ref q :: stk) σ := fun p e s m args below meth c B H locs ls hP hS hl =>
  vk_getf B.1 B.2.1 (he s B.2.2.2.2.2.2.2.2.2.2.1) (hS.mono (fun _ z => B.2.2.2.2.2.2.2.2.2.1.fb z)) B.2.2.2.2.1 (B.2.2.2.2.2.1 _ hm) (fun _ h => h) hd (k p e s m args below meth c B H locs ls hP hS hl)
theorem R_ldcS {tx : String} {i q : Nat} (hz : ∀ s : State, wStr Ω s → vk_R own i tx q s) (hd : decode cc pc = .ok (.ldc i, 2)) (k : RunG l Ω cc own nL ret rm Q kc ks (pc + 2) lv (.ref q :: stk) σ) : RunG l Ω cc own nL ret rm Q kc ks pc lv stk σ := fun p e s m args below meth c B H locs ls hP hS hl =>
  va_ldcS B.1 B.2.1 B.2.2.2.2.1 (hz s B.2.2.2.2.2.2.2.2.2.2.2.2) hd (k p e s m args below meth c B H locs ls hP hS hl)
/-- what SF says of String constant i -/
theorem SF.sval {Ω : rO} {i : Nat} (hi : i < 2) : ∀ s : State, SF Ω s s.heap → va_OF "java/lang/String" "value" "[B" (.ref (oX Ω (20 + i))) (oX Ω (10 + i)) (oFb Ω) s s.heap := fun _ h => (h.2.2.2.2.2.1.1 i hi).2.2.1
theorem SF.scod {Ω : rO} {i : Nat} (hi : i < 2) : ∀ s : State, SF Ω s s.heap → va_OF "java/lang/String" "coder" "B" (.int 0) (oX Ω (10 + i)) (oFb Ω) s s.heap := fun _ h => (h.2.2.2.2.2.1.1 i hi).2.1
theorem SF.sbyt {Ω : rO} {i : Nat} (hi : i < 2) : ∀ s : State, SF Ω s s.heap → va_T .byte (oX Ω (20 + i)) (lenS i) (fun j => .int (bytS i j)) (oFb Ω) s s.heap := fun _ h => (h.2.2.2.2.2.1.1 i hi).2.2.2
theorem SF.it0 {Ω : rO} : ∀ s : State, SF Ω s s.heap → va_T .int (oX Ω 0) 4 (fun j => .int (sItem 0 j)) (oFb Ω) s s.heap := fun _ h => h.1.2
theorem SF.it1 {Ω : rO} : ∀ s : State, SF Ω s s.heap → va_T .int (oX Ω 1) 4 (fun j => .int (sItem 1 j)) (oFb Ω) s s.heap := fun _ h => h.2.1.2
theorem SF.it2 {Ω : rO} : ∀ s : State, SF Ω s s.heap → va_T .int (oX Ω 2) 4 (fun j => .int (sItem 2 j)) (oFb Ω) s s.heap := fun _ h => h.2.2.1.2
theorem SF.it3 {Ω : rO} : ∀ s : State, SF Ω s s.heap → va_T .int (oX Ω 3) 7 (fun j => .int (sItem 3 j)) (oFb Ω) s s.heap := fun _ h => h.2.2.2.1.2
theorem R_nret {v : Int32} {t : FieldType} (hd : decode cc pc = .ok (.ireturn, 1)) (hr : ret = some t) (hv : narrow t (.int v) = .int v) (h : K v σ) : Run l Ω cc own nL ret rm K pc lv [.int v] σ := fun p e s m args below meth c B H locs ls hP hS hl => by
  subst hr
  exact W.zret B.1 B.2.1 B.2.2.1 hv (fun t ht _ => ⟨⟨v, σ, rfl, h, by rw [ht]; exact hP⟩, hS.F ht⟩) hS.2.2 hd B.2.2.2.2.2.2.1
/-- a call of a String constant's method -/
def CokT (y : MethodName) (cc2 : ByteArray) (nL2 : Nat) (ret2 : Option FieldType) (n : Nat) : Prop := Cok y cc2 nL2 ret2 n ∧ Cond.instanceMethod y ∈ TT ∧ Cond.selects y.cls y y ∈ TT ∧ y.cls = "java/lang/String"
theorem R_callTi {y : MethodName} {cc2 : ByteArray} {nL2 : Nat} {t2 : FieldType} {rm2 : Room} {n i q : Nat} {As rest : List Value} (hq : q < 2) (hC : Ct l Ω y cc2 nL2 (some t2) rm2 (.ref (oX Ω (10 + q)) :: As) σ (fun r σ2 => RunG l Ω cc own nL ret rm Q kc ks (pc + 3) lv (.int r :: rest) σ2)) (ho : CokT y cc2 nL2 (some t2) n) (hm : Cond.methodLink own i y ∈ TT) (hn : As.length = n) (hst : As.reverse ++ .ref (oX Ω (10 + q)) :: rest = stk) (hw : (rest.map fun v => v.category).sum ≤ 8)
    (hrc : rm2.cells = 0) (hrs : rm2.slots = 0) (hR : rm2.frames + 1 ≤ rm.frames ∧ 8 + (nL2 + 11) + rm2.locals ≤ rm.locals) (hf : kc ≤ rm.cells ∧ ks ≤ rm.slots) (hd : decode cc pc = .ok (.invokevirtual i, 3)) : RunG l Ω cc own nL ret rm Q kc ks pc lv stk σ := fun p e s m args below meth c0 B H locs ls hP hS hl => by
  obtain ⟨ho1, ho2, ho3, ho4⟩ := ho
  refine R_core (ret2 := some t2) (rest := rest) B (va_runV (As := As) (b := oX Ω (10 + q)) (C := y.cls) (Ts := TT) (own := own) (index := i) (bytes := cc2) (maxL := nL2) (ret := some t2) ⟨B.1, B.2.1, B.2.2.2.1, B.2.2.2.2.1, B.2.2.2.2.2.1⟩ hC ⟨rB.cok B ho1 hm hrc hrs hR, B.2.2.2.2.2.1 _ ho2, B.2.2.2.2.2.1 _ ho3⟩ ⟨rPre.blind σ _, ?_, rPre.start B hP hS _⟩ rfl hn hl.1 hst.symm (lv_room hw) hd hf) hS hl (fun _ _ h => h)
  rw [ho4]
  exact vk_recv (i := q) (adK := fun i => oX Ω (10 + i)) B.2.2.2.2.2.2.2.2.2.2.1.2.2.2.2.2.1 hq (hS.mono (fun _ z => B.2.2.2.2.2.2.2.2.2.1.fb z))
theorem R_copyS {b0 n0 c1 k1 n1 : Nat} {f : Nat → Int32} {sp dp n : Int32} {i : Nat} (hX : ∀ s : State, SF Ω s s.heap → va_T .int b0 n0 (fun j => .int (f j)) (oFb Ω) s s.heap) (hL1 : oL Ω c1 k1) (hg1 : ∀ r, cE Ω c1 k1 r = .inl (Ω.2.1 0, n1, .inl r)) (hb : ¬ (sp < 0 ∨ dp < 0 ∨ n < 0 ∨ n0 < ix sp + ix n ∨ n1 < ix dp + ix n))
    (hm : Cond.methodLink own i arraycopyName ∈ TT) (hm1 : Cond.native arraycopyName ∈ TT) (hm2 : Cond.static arraycopyName ∈ TT) (hm3 : Cond.initialized "java/lang/System" ∈ TT) (hf : 1 ≤ rm.frames) (hlo : (stk.map fun v => v.category).sum + (nativeFrameWords "java/lang/System" "arraycopy" 5 + 11) ≤ rm.locals) (hd : decode cc pc = .ok (.invokestatic i, 3))
    (k : RunG l Ω cc own nL ret rm Q kc ks (pc + 3) lv stk (wrR σ c1 k1 (va_cpy f (σ c1 k1) (ix sp) (ix dp) (ix n)))) : RunG l Ω cc own nL ret rm Q kc ks pc lv (.int n :: .int dp :: rf Ω c1 k1 :: .int sp :: .ref b0 :: stk) σ := fun p e s m args below meth c B H locs ls hP hS hl => by
  have hK := B.2.2.2.2.2.2.2.1
  have hW := B.2.2.2.2.2.2.2.2.2.1
  have hts := B.2.2.2.2.2.1
  have h1 : ¬ sp < 0 := fun q => hb (Or.inl q)
  have h2 : ¬ dp < 0 := fun q => hb (Or.inr (Or.inl q))
  have h3 : ¬ n < 0 := fun q => hb (Or.inr (Or.inr (Or.inl q)))
  have h4 : ix sp + ix n ≤ n0 := Nat.not_lt.mp fun q => hb (Or.inr (Or.inr (Or.inr (Or.inl q))))
  have h5 : ix dp + ix n ≤ n1 := Nat.not_lt.mp fun q => hb (Or.inr (Or.inr (Or.inr (Or.inr q))))
  have nn : ∀ z : Int32, ¬ z < 0 → z.toInt = (z.toNatClampNeg : Int) := by
    intro z hz
    have hz0 : (0 : Int) ≤ z.toInt := by
      have := Int32.not_lt.mp hz
      simpa using Int32.le_iff_toInt_le.mp this
    show z.toInt = ((z.toInt.toNat : Nat) : Int)
    omega
  intro T hT X
  obtain ⟨scr, hs1, hs2, hs3, hs4, -, hs5, hs7⟩ := hX s B.2.2.2.2.2.2.2.2.2.2.1
  have hc0 : H[b0]? = some scr := by rw [hS.2.1 b0 (Array.getElem?_eq_some_iff.mp hs1).1 (fun z => hs7 (hW.fb z))]; exact hs1
  have hc1 : H[oA Ω c1 k1]? = some (vp_cell (Ω.2.1 0) (n1, .inl (σ c1 k1))) := by
    have := hP c1 k1 hL1
    rw [hg1] at this
    exact this
  obtain ⟨hs6, q0, hk0, cm0, hkk0⟩ := hs2
  obtain ⟨-, q1, hk1, cm1, hkk1⟩ := (hK.2 0 (Ω.2.1 0, .int) rfl).1 n1 (fun j => .int (σ c1 k1 j))
  obtain ⟨vm', X', step⟩ := X.arraycopy B.1 B.2.2.2.2.1 (hts _ hm) (hts _ hm1) (hts _ hm2) (hts _ hm3) (src := b0) (dst := oA Ω c1 k1) (cs := scr) (cd := vp_cell (Ω.2.1 0) (n1, .inl (σ c1 k1))) (srcPos := sp) (destPos := dp) (n := n) (by rw [hT]; exact hc0) (by rw [hT]; exact hc1)
    hs6 (fun _ h => by cases h) hs3 (fun h => by cases h) hk0 hk1 hkk0 hkk1 (by simp [refKind]) h1 h2 h3
    (by rw [nn sp h1, nn n h3]; unfold ix at h4; omega)
    (by rw [nn dp h2, nn n h3]; show ¬ _ > ((arrV _ n1 (fun j => .int (σ c1 k1 j))).slots.size : Int); rw [arrV_size]; unfold ix at h5; omega)
    (fun vm₁ _ z hz => by
      have e : scr.slots.getD (sp.toNatClampNeg + z) .null = .int (f (sp.toNatClampNeg + z)) := by
        rw [Array.getD_eq_getD_getElem?, hs5 _ (by unfold ix at h4; omega)]
        rfl
      refine ⟨?_, ?_⟩
      · rw [e]
        rfl
      · rw [e]
        exact trivial)
    (g := F0 m pc ls (.int n :: .int dp :: rf Ω c1 k1 :: .int sp :: .ref b0 :: stk)) rfl (by rw [B.2.2.2.1]; exact hl.1) (rest := stk) rfl (by rw [B.2.1]; exact hd) hf (by show 2 * 0 + _ + _ ≤ _; omega)
  have e1 : copied scr (vp_cell (Ω.2.1 0) (n1, .inl (σ c1 k1))) sp dp n = vp_cell (Ω.2.1 0) (n1, .inl (va_cpy f (σ c1 k1) (ix sp) (ix dp) (ix n))) := va_copiedX (fun z => .int z) scr _ _ _ hs5 h4
  rw [e1] at X' step
  have hl1 : oA Ω c1 k1 < H.size := (Array.getElem?_eq_some_iff.mp hc1).1
  generalize hcell : vp_cell (Ω.2.1 0) (n1, .inl (va_cpy f (σ c1 k1) (ix sp) (ix dp) (ix n))) = cell at X' step
  have hheap : ((T.setVm vm').setCell (oA Ω c1 k1) cell).heap = H.setIfInBounds (oA Ω c1 k1) cell := by rw [← hT]; rfl
  have oq : ∀ q : Nat, q ≠ oA Ω c1 k1 → (H.setIfInBounds (oA Ω c1 k1) cell)[q]? = H[q]? := fun q hq => by simp [Array.getElem?_setIfInBounds, Ne.symm hq]
  obtain ⟨t, a1, b1⟩ := k p e s m args below meth c B _ _ ls (HP.set hW hP hL1 (by rw [hg1]; show (H.setIfInBounds (oA Ω c1 k1) cell)[oA Ω c1 k1]? = some _; rw [hcell]; simp [Array.getElem?_setIfInBounds, hl1]) oq) ⟨by simp; exact hS.1, fun q g1 g2 => by
      rw [oq q (fun e => g2 (by rw [e]; exact oF.of hL1))]
      exact hS.2.1 q g1 g2, fun q hq => by
      rcases List.mem_append.mp hq with h | h
      · exact hS.2.2 q h
      · obtain ⟨z, -, hz⟩ := List.mem_map.mp h
        rw [← hz]
        exact oF.of hL1⟩ hl _ hheap X'
  exact ⟨t, step t a1, b1⟩
end RT
