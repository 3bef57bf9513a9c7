/-! further pieces of the pure side, and their rules -/
def st {β : Type} (σ : rS) (f : rS → Option β) : Option β := f σ
def rd {β : Type} (x : Int32) (f : Int32 → Option β) : Option β := f x
def blz {β : Type} (v : Int64) (x : Option β) : Option β := if v = 0 then none else x
/-- only if a run of n cells from sp on, of n0, fits to dp on, of n1 -/
def bcp {β : Type} (sp dp n : Int32) (n0 n1 : Nat) (x : Option β) : Option β := if sp < 0 ∨ dp < 0 ∨ n < 0 ∨ n0 < ix sp + ix n ∨ n1 < ix dp + ix n then none else x
theorem hit_blz {β : Type} {v : Int64} {x : Option (β × rS)} {K : β → rS → Prop} (h : hit (blz v x) K) : ¬ v = 0 ∧ hit x K := by
  unfold blz at h
  by_cases e : v = 0
  · rw [if_pos e] at h
    exact h.elim
  · rw [if_neg e] at h
    exact ⟨e, h⟩
theorem hit_bcp {β : Type} {sp dp n : Int32} {n0 n1 : Nat} {x : Option (β × rS)} {K : β → rS → Prop} (h : hit (bcp sp dp n n0 n1 x) K) : ¬ (sp < 0 ∨ dp < 0 ∨ n < 0 ∨ n0 < ix sp + ix n ∨ n1 < ix dp + ix n) ∧ hit x K := by
  unfold bcp at h
  by_cases e : sp < 0 ∨ dp < 0 ∨ n < 0 ∨ n0 < ix sp + ix n ∨ n1 < ix dp + ix n
  · rw [if_pos e] at h
    exact h.elim
  · rw [if_neg e] at h
    exact ⟨e, h⟩
theorem vin (i : Int32) (n : Nat) (h : (decide (i < 0) || decide (n ≤ i.toNatClampNeg)) = false) : vp_in i n := by
  intro q
  rcases q with q | q <;> simp [q] at h
/-- the ring's States that are there, live -/
def RLv (Ω : rO) (σ : rS) : Prop := ∀ i : Nat, i < 41 → ¬ σ 29 0 i = 0 → oL Ω 7 (4 + i)
theorem ixlt {i : Int32} {n : Nat} (h : vp_in i n) : ix i < n := Nat.not_le.mp fun q => h (Or.inr q)
theorem sc_kid {Ω : rO} {i : Int32} (hW : WF Ω) (hL : oL Ω 23 0) (hb : vp_in i 4) : oL Ω 24 (ix i) := by
  have hlt : i.toNatClampNeg < 4 := Nat.not_le.mp fun q => hb (Or.inr q)
  have h0 := hW.kid 0 (c' := 24) (k' := 0) hL rfl
  have h1 := hW.kid 1 (c' := 24) (k' := 1) hL rfl
  have h2 := hW.kid 2 (c' := 24) (k' := 2) hL rfl
  have h3 := hW.kid 3 (c' := 24) (k' := 3) hL rfl
  show oL Ω 24 i.toNatClampNeg
  rcases (by omega : i.toNatClampNeg = 0 ∨ i.toNatClampNeg = 1 ∨ i.toNatClampNeg = 2 ∨ i.toNatClampNeg = 3) with e | e | e | e <;> rw [e] <;> assumption
section RN
variable {l : Launch} {Ω : rO} {cc : ByteArray} {own : String} {nL : Nat} {ret : Option FieldType} {rm : Room} {K : Int32 → rS → Prop} {Q : List Frame → Array Value → State → State → Prop} {kc ks : Nat} {pc : Nat} {lv lv2 : List (Option Value)} {stk : List Value} {σ : rS}
theorem R_st {α : Type} {f : rS → Option (α × rS)} {K0 : α → rS → Prop} (h : hit (st σ f) K0) (kk : ∀ σ1, hit (f σ1) K0 → RunG l Ω cc own nL ret rm Q kc ks pc lv stk σ1) : RunG l Ω cc own nL ret rm Q kc ks pc lv stk σ := kk σ h
theorem R_topi {α : Type} {x : Int32} {f : Int32 → Option (α × rS)} {K0 : α → rS → Prop} (h : hit (rd x f) K0) (kk : ∀ y, hit (f y) K0 → RunG l Ω cc own nL ret rm Q kc ks pc lv (.int y :: stk) σ) : RunG l Ω cc own nL ret rm Q kc ks pc lv (.int x :: stk) σ := kk x h
theorem R_drop (i : Nat) (hs : lv.set i none = lv2) (k : RunG l Ω cc own nL ret rm Q kc ks pc lv2 stk σ) : RunG l Ω cc own nL ret rm Q kc ks pc lv stk σ := by
  refine R_sub (fun j v hj => ?_) k
  subst hs
  by_cases e : i = j
  · subst e
    by_cases hl : i < lv.length
    · rw [List.getElem?_set_self hl] at hj
      cases hj
    · rw [List.getElem?_eq_none (by simp; omega)] at hj
      cases hj
  · rw [List.getElem?_set_ne e] at hj
    exact hj
theorem R_sw {dflt lo hi : Int} {offs : Array Int} {len : Nat} {x : Int32} {tgt : Nat} (hd : decode cc pc = .ok (.tableswitch dflt lo hi offs, len)) (hx : ¬ x.toInt < lo → ¬ hi < x.toInt → offs[(x.toInt - lo).toNat]? = some dflt) (ht : (pc : Int) + dflt = (tgt : Int)) (k : RunG l Ω cc own nL ret rm Q kc ks tgt lv stk σ) : RunG l Ω cc own nL ret rm Q kc ks pc lv (.int x :: stk) σ := by
  by_cases h1 : x.toInt < lo
  · exact R_tableOut hd (Or.inl h1) ht k
  · by_cases h2 : hi < x.toInt
    · exact R_tableOut hd (Or.inr h2) ht k
    · exact R_tableIn hd h1 h2 (hx h1 h2) ht k
theorem R_ifnonnullS {x : Nat} {off : Int} {tgt : Nat} (hd : decode cc pc = .ok (.ifnonnull off, 3)) (ht : (pc : Int) + off = (tgt : Int)) (k : RunG l Ω cc own nL ret rm Q kc ks tgt lv stk σ) : RunG l Ω cc own nL ret rm Q kc ks pc lv (.ref x :: stk) σ := fun p e s m args below meth c B H locs ls hP hS hl => lv_ifnonnull B.1 B.2.1 hd ht (k p e s m args below meth c B H locs ls hP hS hl)
theorem R_ifnonnullN {off : Int} (hd : decode cc pc = .ok (.ifnonnull off, 3)) (k : RunG l Ω cc own nL ret rm Q kc ks (pc + 3) lv stk σ) : RunG l Ω cc own nL ret rm Q kc ks pc lv (.null :: stk) σ := fun p e s m args below meth c B H locs ls hP hS hl => lv_ifnonnullN B.1 B.2.1 hd (k p e s m args below meth c B H locs ls hP hS hl)
theorem R_ringV {i : Int32} (hL : oL Ω 29 0) (hin : vp_in i 41) (hd : decode cc pc = .ok (.aaload, 1)) (kk : RunG l Ω cc own nL ret rm Q kc ks (pc + 1) lv (va_rf (ringF Ω (σ 29 0) (ix i)) :: stk) σ) : RunG l Ω cc own nL ret rm Q kc ks pc lv (.int i :: rf Ω 29 0 :: stk) σ := fun p e s m args below meth c0 B H locs ls hP hS hl =>
  va_aldq (ws := [(oA Ω 29 0, .inl (Ω.2.1 4, 41, .inr (.inr (.inr (.inr (ringF Ω (σ 29 0)))))))]) (C := "NurseryHeap$State") B.1 B.2.1 B.2.2.2.2.2.2.2.1 (hP.one hL (cE_29 Ω 0 _)) 0 4 rfl rfl hin hd (kk p e s m args below meth c0 B H locs ls hP hS hl)
theorem ringF_0 {Ω : rO} {r : Nat → Int32} {i : Nat} (h : r i = 0) : ringF Ω r i = none := if_pos h
theorem ringF_1 {Ω : rO} {r : Nat → Int32} {i : Nat} (h : ¬ r i = 0) : ringF Ω r i = some (oA Ω 7 (4 + i)) := if_neg h
theorem R_ringN {i : Int32} (hL : oL Ω 29 0) (hin : vp_in i 41) (h0 : σ 29 0 (ix i) = 0) (hd : decode cc pc = .ok (.aaload, 1)) (kk : RunG l Ω cc own nL ret rm Q kc ks (pc + 1) lv (.null :: stk) σ) : RunG l Ω cc own nL ret rm Q kc ks pc lv (.int i :: rf Ω 29 0 :: stk) σ := R_ringV hL hin hd (by rw [ringF_0 h0]; exact kk)
theorem R_ringS {i : Int32} (hL : oL Ω 29 0) (hin : vp_in i 41) (h0 : ¬ σ 29 0 (ix i) = 0) (hd : decode cc pc = .ok (.aaload, 1)) (kk : RunG l Ω cc own nL ret rm Q kc ks (pc + 1) lv (rf Ω 7 (4 + ix i) :: stk) σ) : RunG l Ω cc own nL ret rm Q kc ks pc lv (.int i :: rf Ω 29 0 :: stk) σ := R_ringV hL hin hd (by rw [ringF_1 h0]; exact kk)
theorem R_mmax {x y : Int32} {i : Nat} (hm : Cond.methodLink own i Lib.Math.max.name ∈ TT) (h1 : Cond.static Lib.Math.max.name ∈ TT) (h2 : Cond.initialized "java/lang/Math" ∈ TT) (h3 : Cond.code Lib.Math.max.name Lib.Math.max.code 2 (some .int) ∈ TT) (hf : 1 ≤ rm.frames) (hlo : (stk.map fun v => v.category).sum + 13 ≤ rm.locals) (hfc : kc ≤ rm.cells ∧ ks ≤ rm.slots) (hd : decode cc pc = .ok (.invokestatic i, 3)) (k : RunG l Ω cc own nL ret rm Q kc ks (pc + 3) lv (.int (if x < y then y else x) :: stk) σ) : RunG l Ω cc own nL ret rm Q kc ks pc lv (.int y :: .int x :: stk) σ := fun p e s m args below meth c B H locs ls hP hS hl =>
  va_mmax B.1 B.2.1 (B.2.2.2.1.trans hl.1.symm) B.2.2.2.2.1 (B.2.2.2.2.2.1 _ hm) (B.2.2.2.2.2.1 _ h1) (B.2.2.2.2.2.1 _ h2) (B.2.2.2.2.2.1 _ h3) hf hlo hfc.1 hfc.2 hd (k p e s m args below meth c B H locs ls hP hS hl)
theorem R_mmin {x y : Int32} {i : Nat} (hm : Cond.methodLink own i Lib.Math.min.name ∈ TT) (h1 : Cond.static Lib.Math.min.name ∈ TT) (h2 : Cond.initialized "java/lang/Math" ∈ TT) (h3 : Cond.code Lib.Math.min.name Lib.Math.min.code 2 (some .int) ∈ TT) (hf : 1 ≤ rm.frames) (hlo : (stk.map fun v => v.category).sum + 13 ≤ rm.locals) (hfc : kc ≤ rm.cells ∧ ks ≤ rm.slots) (hd : decode cc pc = .ok (.invokestatic i, 3)) (k : RunG l Ω cc own nL ret rm Q kc ks (pc + 3) lv (.int (if y < x then y else x) :: stk) σ) : RunG l Ω cc own nL ret rm Q kc ks pc lv (.int y :: .int x :: stk) σ := fun p e s m args below meth c B H locs ls hP hS hl =>
  va_mmin B.1 B.2.1 (B.2.2.2.1.trans hl.1.symm) B.2.2.2.2.1 (B.2.2.2.2.2.1 _ hm) (B.2.2.2.2.2.1 _ h1) (B.2.2.2.2.2.1 _ h2) (B.2.2.2.2.2.1 _ h3) hf hlo hfc.1 hfc.2 hd (k p e s m args below meth c B H locs ls hP hS hl)
theorem wr_wr (σ : rS) (c k a b : Nat) (x y : Int32) : wr (wr σ c k a x) c k b y = wrR σ c k (upd (upd (σ c k) a x) b y) := by
  unfold wr
  rw [wrR_eq]
  funext c'
  unfold wrR
  by_cases h : c' = c
  · simp only [h, if_true]
    funext k'
    by_cases h2 : k' = k <;> simp [h2]
  · simp [h]
theorem R_putJ {i ci j c k a b : Nat} {fs : List Value} {v : Int64} (hF : Pok own i ci j .long) (hL : oL Ω c k) (hc : cE Ω c k (σ c k) = .inr (ci, fs)) (hc2 : cE Ω c k (upd (upd (σ c k) a (lHi v)) b (lLo v)) = .inr (ci, fs.set j (.long v))) (hlen : j < fs.length) (hd : decode cc pc = .ok (.putfield i, 3))
    (kk : RunG l Ω cc own nL ret rm Q kc ks (pc + 3) lv stk (wr (wr σ c k a (lHi v)) c k b (lLo v))) : RunG l Ω cc own nL ret rm Q kc ks pc lv (.long v :: rf Ω c k :: stk) σ := R_putV hF hL hc hc2 hlen rfl rfl hd (by rw [← wr_wr]; exact kk)
theorem R_copy {c0 k0 n0 c1 k1 n1 : Nat} {sp dp n : Int32} {i : Nat} (hL0 : oL Ω c0 k0) (hg0 : ∀ r, cE Ω c0 k0 r = .inl (Ω.2.1 0, n0, .inl r)) (hL1 : oL Ω c1 k1) (hg1 : ∀ r, cE Ω c1 k1 r = .inl (Ω.2.1 0, n1, .inl r)) (hb : ¬ (sp < 0 ∨ dp < 0 ∨ n < 0 ∨ n0 < ix sp + ix n ∨ n1 < ix dp + ix n))
    (hm : Cond.methodLink own i arraycopyName ∈ TT) (hm1 : Cond.native arraycopyName ∈ TT) (hm2 : Cond.static arraycopyName ∈ TT) (hm3 : Cond.initialized "java/lang/System" ∈ TT) (hf : 1 ≤ rm.frames) (hlo : (stk.map fun v => v.category).sum + (nativeFrameWords "java/lang/System" "arraycopy" 5 + 11) ≤ rm.locals) (hd : decode cc pc = .ok (.invokestatic i, 3))
    (k : RunG l Ω cc own nL ret rm Q kc ks (pc + 3) lv stk (wrR σ c1 k1 (va_cpy (σ c0 k0) (σ c1 k1) (ix sp) (ix dp) (ix n)))) : RunG l Ω cc own nL ret rm Q kc ks pc lv (.int n :: .int dp :: rf Ω c1 k1 :: .int sp :: rf Ω c0 k0 :: stk) σ := fun p e s m args below meth c B H locs ls hP hS hl => by
  have hK := B.2.2.2.2.2.2.2.1
  have hW := B.2.2.2.2.2.2.2.2.2.1
  have hts := B.2.2.2.2.2.1
  have h1 : ¬ sp < 0 := fun q => hb (Or.inl q)
  have h2 : ¬ dp < 0 := fun q => hb (Or.inr (Or.inl q))
  have h3 : ¬ n < 0 := fun q => hb (Or.inr (Or.inr (Or.inl q)))
  have h4 : ix sp + ix n ≤ n0 := Nat.not_lt.mp fun q => hb (Or.inr (Or.inr (Or.inr (Or.inl q))))
  have h5 : ix dp + ix n ≤ n1 := Nat.not_lt.mp fun q => hb (Or.inr (Or.inr (Or.inr (Or.inr q))))
  have nn : ∀ z : Int32, ¬ z < 0 → z.toInt = (z.toNatClampNeg : Int) := by
    intro z hz
    have hz0 : (0 : Int) ≤ z.toInt := by
      have := Int32.not_lt.mp hz
      simpa using Int32.le_iff_toInt_le.mp this
    show z.toInt = ((z.toInt.toNat : Nat) : Int)
    omega
  intro T hT X
  have hc0 : H[oA Ω c0 k0]? = some (vp_cell (Ω.2.1 0) (n0, .inl (σ c0 k0))) := by
    have := hP c0 k0 hL0
    rw [hg0] at this
    exact this
  have hc1 : H[oA Ω c1 k1]? = some (vp_cell (Ω.2.1 0) (n1, .inl (σ c1 k1))) := by
    have := hP c1 k1 hL1
    rw [hg1] at this
    exact this
  obtain ⟨-, q0, hk0, cm0, hkk0⟩ := (hK.2 0 (Ω.2.1 0, .int) rfl).1 n0 (fun j => .int (σ c0 k0 j))
  obtain ⟨-, q1, hk1, cm1, hkk1⟩ := (hK.2 0 (Ω.2.1 0, .int) rfl).1 n1 (fun j => .int (σ c1 k1 j))
  obtain ⟨vm', X', step⟩ := X.arraycopy B.1 B.2.2.2.2.1 (hts _ hm) (hts _ hm1) (hts _ hm2) (hts _ hm3) (src := oA Ω c0 k0) (dst := oA Ω c1 k1) (cs := vp_cell (Ω.2.1 0) (n0, .inl (σ c0 k0))) (cd := vp_cell (Ω.2.1 0) (n1, .inl (σ c1 k1))) (srcPos := sp) (destPos := dp) (n := n) (by rw [hT]; exact hc0) (by rw [hT]; exact hc1)
    (fun _ h => by cases h) (fun _ h => by cases h) (fun h => by cases h) (fun h => by cases h) hk0 hk1 hkk0 hkk1 (by simp [refKind]) h1 h2 h3
    (by rw [nn sp h1, nn n h3]; show ¬ _ > ((arrV _ n0 (fun j => .int (σ c0 k0 j))).slots.size : Int); rw [arrV_size]; unfold ix at h4; omega)
    (by rw [nn dp h2, nn n h3]; show ¬ _ > ((arrV _ n1 (fun j => .int (σ c1 k1 j))).slots.size : Int); rw [arrV_size]; unfold ix at h5; omega)
    (fun vm₁ _ z hz => by
      have e : (vp_cell (Ω.2.1 0) (n0, .inl (σ c0 k0))).slots.getD (sp.toNatClampNeg + z) .null = .int (σ c0 k0 (sp.toNatClampNeg + z)) := by
        show (arrV _ n0 (fun j => .int (σ c0 k0 j))).slots.getD _ _ = _
        rw [Array.getD_eq_getD_getElem?, arrV_read _ _ (by unfold ix at h4; omega)]
        rfl
      refine ⟨?_, ?_⟩
      · rw [e]
        rfl
      · rw [e]
        exact trivial)
    (g := F0 m pc ls (.int n :: .int dp :: rf Ω c1 k1 :: .int sp :: rf Ω c0 k0 :: stk)) rfl (by rw [B.2.2.2.1]; exact hl.1) (rest := stk) rfl (by rw [B.2.1]; exact hd) hf (by show 2 * 0 + _ + _ ≤ _; omega)
  have e1 : copied (vp_cell (Ω.2.1 0) (n0, .inl (σ c0 k0))) (vp_cell (Ω.2.1 0) (n1, .inl (σ c1 k1))) sp dp n = vp_cell (Ω.2.1 0) (n1, .inl (va_cpy (σ c0 k0) (σ c1 k1) (ix sp) (ix dp) (ix n))) := va_copied (fun z => .int z) _ _ _ _ h4
  rw [e1] at X' step
  have hl1 : oA Ω c1 k1 < H.size := (Array.getElem?_eq_some_iff.mp hc1).1
  generalize hcell : vp_cell (Ω.2.1 0) (n1, .inl (va_cpy (σ c0 k0) (σ c1 k1) (ix sp) (ix dp) (ix n))) = cell at X' step
  have hheap : ((T.setVm vm').setCell (oA Ω c1 k1) cell).heap = H.setIfInBounds (oA Ω c1 k1) cell := by rw [← hT]; rfl
  have oq : ∀ q : Nat, q ≠ oA Ω c1 k1 → (H.setIfInBounds (oA Ω c1 k1) cell)[q]? = H[q]? := fun q hq => by simp [Array.getElem?_setIfInBounds, Ne.symm hq]
  obtain ⟨t, a1, b1⟩ := k p e s m args below meth c B _ _ ls (HP.set hW hP hL1 (by rw [hg1]; show (H.setIfInBounds (oA Ω c1 k1) cell)[oA Ω c1 k1]? = some _; rw [hcell]; simp [Array.getElem?_setIfInBounds, hl1]) oq) ⟨by simp; exact hS.1, fun q g1 g2 => by
      rw [oq q (fun e => g2 (by rw [e]; exact oF.of hL1))]
      exact hS.2.1 q g1 g2, fun q hq => by
      rcases List.mem_append.mp hq with h | h
      · exact hS.2.2 q h
      · obtain ⟨z, -, hz⟩ := List.mem_map.mp h
        rw [← hz]
        exact oF.of hL1⟩ hl _ hheap X'
  exact ⟨t, step t a1, b1⟩
end RN
