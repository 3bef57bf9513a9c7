/-! the judgement 'Run': a method's body over the logical world; a row an instruction -/
def wrR (σ : rS) (c k : Nat) (g : Nat → Int32) : rS := fun c' => if c' = c then (fun k' => if k' = k then g else σ c k') else σ c'
def wr (σ : rS) (c k i : Nat) (v : Int32) : rS := wrR σ c k (upd (σ c k) i v)
theorem wrR_eq (σ : rS) (c k : Nat) (g : Nat → Int32) : wrR σ c k g c k = g := by simp [wrR]
theorem wrR_ne (σ : rS) (c k : Nat) (g : Nat → Int32) {c' k' : Nat} (h : ¬ (c' = c ∧ k' = k)) : wrR σ c k g c' k' = σ c' k' := by
  unfold wrR
  by_cases h1 : c' = c
  · subst h1
    have h2 : ¬ k' = k := fun q => h ⟨rfl, q⟩
    simp [h2]
  · simp [h1]
def HP (Ω : rO) (σ : rS) (H : Heap) : Prop := ∀ c k, oL Ω c k → va_at Ω.1 vwCl (oA Ω c k, cE Ω c k (σ c k)) H
def WF (Ω : rO) : Prop := (∀ c k c' k', oL Ω c k → oL Ω c' k' → oA Ω c k = oA Ω c' k' → c = c' ∧ k = k') ∧ (∀ c k, oL Ω c k → oB Ω ≤ oA Ω c k) ∧ (∀ c k, oL Ω c k → ∀ q ∈ kids c k, oL Ω q.1 q.2)
theorem WF.fb {Ω : rO} (h : WF Ω) {q : Nat} (hq : oF Ω q) : oFb Ω q := by
  rcases hq with ⟨c, k, hL, rfl⟩ | hq
  · exact h.2.1 c k hL
  · exact hq.1
theorem oF.fb {Ω : rO} (hN : oN Ω ≤ oB Ω) {q : Nat} (hq : oB Ω ≤ q) : oF Ω q := Or.inr ⟨hq, Nat.le_trans hN hq⟩
theorem va_S.mono {A B : Nat → Prop} {H0 H : Heap} {locs : List Loc} (hS : va_S A H0 H locs) (h : ∀ q, A q → B q) : va_S B H0 H locs := ⟨hS.1, fun q h1 h2 => hS.2.1 q h1 (fun z => h2 (h q z)), fun q hq => h _ (hS.2.2 q hq)⟩
theorem WF.kid {Ω : rO} (h : WF Ω) (i : Nat) {c k c' k' : Nat} (hL : oL Ω c k) (hi : (kids c k)[i]? = some (c', k')) : oL Ω c' k' := h.2.2 c k hL _ (List.mem_of_getElem? hi)
theorem HP.set {Ω : rO} {σ : rS} {H H1 : Heap} {c k : Nat} {g : Nat → Int32} (hW : WF Ω) (h : HP Ω σ H) (hL : oL Ω c k) (hc : va_at Ω.1 vwCl (oA Ω c k, cE Ω c k g) H1) (ho : ∀ q : Nat, q ≠ oA Ω c k → H1[q]? = H[q]?) : HP Ω (wrR σ c k g) H1 := by
  intro c' k' hL'
  by_cases e : c' = c ∧ k' = k
  · obtain ⟨rfl, rfl⟩ := e
    rw [wrR_eq]
    exact hc
  · rw [wrR_ne σ c k g e]
    exact (h c' k' hL').kept (ho _ (fun q => e (hW.1 _ _ _ _ hL' hL q)))
/-- the constants of the start: static arrays, String constants -/
def sItem (n : Nat) (j : Nat) : Int32 := ((([[8, 4, 16, 1], [64, 32, 128, 5], [24, 8, 48, 2], [4, 3, 3, 1, 0, 0, 1]] : List (List Int32)).getD n []).getD j 0)
def va_AI (U : State) : Prop := (Cond.arrayOver (.array .int)).before #[] U = true
theorem va_AI.moved {u U : State} (hvm : u.vm.Alike U.vm) (h : va_AI u) : va_AI U := by
  have h1 : (Cond.arrayOver (.array .int)).before #[] (u.setVm U.vm) = true := by rw [Cond.arrayOver_setVmC hvm]; exact h
  exact h1
def SF (Ω : rO) (U : State) (H : Heap) : Prop :=
  (va_Z "NurseryHeap$Reader" "ITEM_LEAST" "[I" (.ref (oX Ω 0)) (oFb Ω) U H ∧ va_T .int (oX Ω 0) 4 (fun j => .int (sItem 0 j)) (oFb Ω) U H) ∧
  (va_Z "NurseryHeap$Reader" "ITEM_GREATEST" "[I" (.ref (oX Ω 1)) (oFb Ω) U H ∧ va_T .int (oX Ω 1) 4 (fun j => .int (sItem 1 j)) (oFb Ω) U H) ∧
  (va_Z "NurseryHeap$Reader" "ITEM_USUAL" "[I" (.ref (oX Ω 2)) (oFb Ω) U H ∧ va_T .int (oX Ω 2) 4 (fun j => .int (sItem 2 j)) (oFb Ω) U H) ∧
  (va_Z "NurseryHeap$Reader" "STEP_NUMBERS" "[I" (.ref (oX Ω 3)) (oFb Ω) U H ∧ va_T .int (oX Ω 3) 7 (fun j => .int (sItem 3 j)) (oFb Ω) U H) ∧
  va_Z "java/lang/String" "COMPACT_STRINGS" "Z" (.int 1) (oFb Ω) U H ∧ vk_S 2 [4, 7] [[101, 115, 111, 97], [110, 119, 108, 120, 109, 106, 101]] (fun i => oX Ω (10 + i)) (fun i => oX Ω (20 + i)) (oFb Ω) U H ∧
  va_Zq "jdk/internal/util/Preconditions" "SIOOBE_FORMATTER" "Ljava/util/function/BiFunction;" (oFb Ω) U H ∧ va_AO "NurseryHeap$State" U ∧ va_AI U ∧
  vx_Zq Bundle.tN "UNASSIGNED_STACK" Bundle.steD (oFb Ω) U H ∧ vx_Zq Bundle.tN "SUPPRESSED_SENTINEL" Bundle.listD (oFb Ω) U H ∧ va_X (oX Ω 30) (oX Ω 31) (fun j => Int32.ofNat (oX Ω (100 + j))) U H ∧ ¬ oFb Ω (oX Ω 30)
theorem va_X.lt {b L : Nat} {xs : Nat → Int32} {U : State} {H : Heap} (h : va_X b L xs U H) : b < H.size := by
  obtain ⟨scr, h1, -⟩ := h
  exact (Array.getElem?_eq_some_iff.mp h1).1
theorem SF.kept {Ω : rO} {U : State} {H H1 : Heap} (h : SF Ω U H) (hq : ∀ a : Nat, a < H.size → ¬ oFb Ω a → H1[a]? = H[a]?) : SF Ω U H1 :=
  ⟨⟨h.1.1.kept hq, h.1.2.kept hq⟩, ⟨h.2.1.1.kept hq, h.2.1.2.kept hq⟩, ⟨h.2.2.1.1.kept hq, h.2.2.1.2.kept hq⟩, ⟨h.2.2.2.1.1.kept hq, h.2.2.2.1.2.kept hq⟩, h.2.2.2.2.1.kept hq, h.2.2.2.2.2.1.kept hq, h.2.2.2.2.2.2.1.kept hq, h.2.2.2.2.2.2.2.1, h.2.2.2.2.2.2.2.2.1, h.2.2.2.2.2.2.2.2.2.1.kept hq, h.2.2.2.2.2.2.2.2.2.2.1.kept hq, h.2.2.2.2.2.2.2.2.2.2.2.1.kept (hq _ h.2.2.2.2.2.2.2.2.2.2.2.1.lt h.2.2.2.2.2.2.2.2.2.2.2.2), h.2.2.2.2.2.2.2.2.2.2.2.2⟩
theorem SF.moved {Ω : rO} {u U : State} {H : Heap} (hvm : u.vm.Alike U.vm) (h : SF Ω u H) : SF Ω U H :=
  ⟨⟨h.1.1.moved hvm, h.1.2.moved hvm⟩, ⟨h.2.1.1.moved hvm, h.2.1.2.moved hvm⟩, ⟨h.2.2.1.1.moved hvm, h.2.2.1.2.moved hvm⟩, ⟨h.2.2.2.1.1.moved hvm, h.2.2.2.1.2.moved hvm⟩, h.2.2.2.2.1.moved hvm, h.2.2.2.2.2.1.moved hvm, h.2.2.2.2.2.2.1.moved hvm, h.2.2.2.2.2.2.2.1.moved hvm, h.2.2.2.2.2.2.2.2.1.moved hvm, h.2.2.2.2.2.2.2.2.2.1.moved hvm, h.2.2.2.2.2.2.2.2.2.2.1.moved hvm, h.2.2.2.2.2.2.2.2.2.2.2.1.moved hvm, h.2.2.2.2.2.2.2.2.2.2.2.2⟩
/-- the tables' words that every warmed table keeps; those on nest mates; the String constants' references -/
def TT : List Cond := lw_tbl.filter goodWord
theorem TT_mem {w : Cond} (h : w ∈ lw_tbl) (hg : goodWord w = true) : w ∈ TT := List.mem_filter.mpr ⟨h, hg⟩
def isNest (w : Cond) : Bool := match w with
  | .methodLinkNest .. => true
  | .castable .. => true
  | .declares .. => true
  | _ => false
def nwds : List Cond := lw_tbl.filter isNest
def WW (Ω : rO) (U : State) : Prop := (∀ w ∈ nwds, va_Nw w U) ∧ wStr Ω U
theorem nwds_warm {s U : State} (hW : s.WarmedH U.vm) {w : Cond} (hw : w ∈ nwds) (h : va_Nw w s) : va_Nw w U := by
  have hn := (List.mem_filter.mp hw).2
  unfold isNest at hn
  split at hn
  · exact va_Nw.warmM hW h
  · exact va_Nw.warmC hW h
  · exact va_Nw.warmD hW h
  · cases hn
theorem nwds_same {s U : State} (hv : s.vm = U.vm) {w : Cond} (hw : w ∈ nwds) (h : va_Nw w s) : va_Nw w U := by
  have hn := (List.mem_filter.mp hw).2
  unfold isNest at hn
  split at hn
  · exact va_Nw.same rfl hv h
  · exact va_Nw.same rfl hv h
  · exact va_Nw.same rfl hv h
  · cases hn
theorem WW.warm {Ω : rO} {s U : State} (hW : s.WarmedH U.vm) (h : WW Ω s) : WW Ω U := ⟨fun w hw => nwds_warm hW hw (h.1 w hw), wStr_warm hW h.2⟩
theorem WW.same {Ω : rO} {s U : State} (hv : U.vm = s.vm) (h : WW Ω s) : WW Ω U := ⟨fun w hw => nwds_same hv.symm hw (h.1 w hw), wStr_same hv h.2⟩
/-- the locals, by their places -/
def rL (ls : Array Slot) (nL : Nat) (lv : List (Option Value)) : Prop := ls.size = nL ∧ lv_wf ls ∧ ∀ (i : Nat) (v : Value), lv[i]? = some (some v) → ls[i]? = some (.val v)
def rPairs (lv : List (Option Value)) : List (Nat × Value) := (List.range lv.length).filterMap (fun i => match lv[i]? with
  | some (some v) => some (i, v)
  | _ => none)
theorem rPairs_mem {lv : List (Option Value)} {i : Nat} {v : Value} : (i, v) ∈ rPairs lv ↔ lv[i]? = some (some v) := by
  unfold rPairs
  rw [List.mem_filterMap]
  constructor
  · rintro ⟨j, -, hj⟩
    split at hj
    next w hw =>
      have := Option.some.inj hj
      cases this
      exact hw
    next => cases hj
  · intro h
    have hl : i < lv.length := (List.getElem?_eq_some_iff.mp h).1
    exact ⟨i, List.mem_range.mpr hl, by rw [h]⟩
theorem rL.has {ls : Array Slot} {nL : Nat} {lv : List (Option Value)} (h : rL ls nL lv) : lv_has ls nL (rPairs lv) := ⟨h.1, h.2.1, fun q hq => h.2.2 q.1 q.2 (rPairs_mem.mp hq)⟩
/-- no long just ahead of i -/
def rC1 (lv : List (Option Value)) (i : Nat) : Bool := match i with
  | 0 => true
  | j + 1 => match lv[j]? with
    | some (some v) => v.category == 1
    | _ => true
theorem rC1_spec {lv : List (Option Value)} {i j : Nat} {v : Value} (h : rC1 lv i = true) (hj : j + 1 = i) (hv : lv[j]? = some (some v)) : v.category = 1 := by
  subst hj
  simp only [rC1, hv] at h
  exact beq_iff_eq.mp h
theorem rL.set1 {ls' : Array Slot} {nL i : Nat} {v : Value} {lv lv' : List (Option Value)} (h : lv_has ls' nL ((i, v) :: (rPairs lv).filter (fun q => !(q.1 == i) && !(q.1 + 1 == i && q.2.category == 2)))) (hc : rC1 lv i = true) (he : lv.set i (some v) = lv') : rL ls' nL lv' := by
  subst he
  refine ⟨h.1, h.2.1, fun j w hj => ?_⟩
  by_cases e : i = j
  · subst e
    have hl : i < lv.length := by
      have := (List.getElem?_eq_some_iff.mp hj).1
      simpa using this
    rw [List.getElem?_set_self hl] at hj
    have := Option.some.inj (Option.some.inj hj)
    subst this
    exact h.2.2 (i, v) List.mem_cons_self
  · rw [List.getElem?_set_ne e] at hj
    refine h.2.2 (j, w) (List.mem_cons_of_mem _ (List.mem_filter.mpr ⟨rPairs_mem.mpr hj, ?_⟩))
    have h1 : (j == i) = false := by simpa using fun q => e q.symm
    by_cases e2 : j + 1 = i
    · have := rC1_spec hc e2 hj
      simp [h1, this]
    · simp [h1, e2]
theorem rL.sub {ls : Array Slot} {nL : Nat} {lv lv' : List (Option Value)} (h : rL ls nL lv) (hs : ∀ (i : Nat) (v : Value), lv'[i]? = some (some v) → lv[i]? = some (some v)) : rL ls nL lv' := ⟨h.1, h.2.1, fun i v hv => h.2.2 i v (hs i v hv)⟩
/-- what stands through a whole method -/
def rB (Ω : rO) (cc : ByteArray) (own : String) (nL : Nat) (ret : Option FieldType) (p : Program) (s : State) (m : MethodId) (args : Array Value) (meth : Method) (c : Code) : Prop :=
  p.tables.exec = Jvm.exec ∧ c.code = cc ∧ meth.sig.returnType = ret ∧ c.maxLocals = nL ∧ s.vm.findClass own = some m.cls ∧ (∀ w ∈ TT, w.before args s = true) ∧ meth.locks = false ∧ va_K Ω.1 vwCl (oT Ω) s ∧ oB Ω ≤ s.heap.size ∧ WF Ω ∧ SF Ω s s.heap ∧ WW Ω s
def rV (ret : Option FieldType) (r : Int32) : Option Value := match ret with
  | none => none
  | some _ => some (.int r)
def rQ (Ω : rO) (ret : Option FieldType) (K : Int32 → rS → Prop) : Array Value → State → Outcome → State → Prop := fun _ st o t =>
  (∃ (r : Int32) (σ : rS), o = .returned (rV ret r) ∧ K r σ ∧ HP Ω σ t.heap) ∧ va_F (oF Ω) st t
def RunG (l : Launch) (Ω : rO) (cc : ByteArray) (own : String) (nL : Nat) (ret : Option FieldType) (rm : Room) (Q : List Frame → Array Value → State → State → Prop) (kc ks : Nat) (pc : Nat) (lv : List (Option Value)) (st : List Value) (σ : rS) : Prop :=
  ∀ (p : Program) (e : Env) (s : State) (m : MethodId) (args : Array Value) (below : List Frame) (meth : Method) (c : Code), rB Ω cc own nL ret p s m args meth c →
  ∀ (H : Heap) (locs : List Loc) (ls : Array Slot), HP Ω σ H → va_S (oF Ω) s.heap H locs → rL ls nL lv →
  W p l e rm s m args below meth c H locs kc ks (Q below args s) (F0 m pc ls st)
def rQf (Ω : rO) (ret : Option FieldType) (K : Int32 → rS → Prop) : List Frame → Array Value → State → State → Prop := fun below args s => MQ below (rQ Ω ret K) args s 0 0 (oF Ω)
/-- a method that makes nothing -/
abbrev Run (l : Launch) (Ω : rO) (cc : ByteArray) (own : String) (nL : Nat) (ret : Option FieldType) (rm : Room) (K : Int32 → rS → Prop) (pc : Nat) (lv : List (Option Value)) (st : List Value) (σ : rS) : Prop := RunG l Ω cc own nL ret rm (rQf Ω ret K) 0 0 pc lv st σ
/-! the pure side: what a method does is a function into Option (answer × store) -/
def hit {α : Type} (o : Option (α × rS)) (K : α → rS → Prop) : Prop := match o with
  | some q => K q.1 q.2
  | none => False
def bd {α β : Type} (o : Option (α × rS)) (f : α → rS → Option (β × rS)) : Option (β × rS) := match o with
  | some q => f q.1 q.2
  | none => none
def bnd {β : Type} (i : Int32) (n : Nat) (x : Option β) : Option β := if i < 0 ∨ n ≤ i.toNatClampNeg then none else x
/-- only if v is 0 or 1 -/
def bz {β : Type} (v : Int32) (x : Option β) : Option β := if v = 0 ∨ v = 1 then x else none
/-- only if v isn't 0 -/
def bnz {β : Type} (v : Int32) (x : Option β) : Option β := if v = 0 then none else x
abbrev ix (i : Int32) : Nat := i.toNatClampNeg
def lp {L R : Type} (step : L → rS → Option ((L ⊕ R) × rS)) : Nat → L → rS → Option (R × rS)
  | 0, _, _ => none
  | n + 1, x, σ => bd (step x σ) (fun q σ => match q with
    | .inl y => lp step n y σ
    | .inr r => some (r, σ))
/-- how often a loop may turn -/
theorem fu_ex : ∃ n : Nat, 70000 ≤ n := ⟨70000, Nat.le_refl _⟩
noncomputable def fu : Nat := Classical.choose fu_ex
theorem fu_ge : 70000 ≤ fu := Classical.choose_spec fu_ex
theorem hit_bd {α β : Type} {o : Option (α × rS)} {f : α → rS → Option (β × rS)} {K : β → rS → Prop} (h : hit (bd o f) K) : hit o (fun r s => hit (f r s) K) := by
  cases o with
  | none => exact h
  | some q => exact h
theorem hit_bnd {β : Type} {i : Int32} {n : Nat} {x : Option (β × rS)} {K : β → rS → Prop} (h : hit (bnd i n x) K) : vp_in i n ∧ hit x K := by
  unfold bnd at h
  by_cases e : i < 0 ∨ n ≤ i.toNatClampNeg
  · rw [if_pos e] at h
    exact h.elim
  · rw [if_neg e] at h
    exact ⟨e, h⟩
theorem hit_bz {β : Type} {v : Int32} {x : Option (β × rS)} {K : β → rS → Prop} (h : hit (bz v x) K) : (v = 0 ∨ v = 1) ∧ hit x K := by
  unfold bz at h
  by_cases e : v = 0 ∨ v = 1
  · rw [if_pos e] at h
    exact ⟨e, h⟩
  · rw [if_neg e] at h
    exact h.elim
theorem hit_bnz {β : Type} {v : Int32} {x : Option (β × rS)} {K : β → rS → Prop} (h : hit (bnz v x) K) : ¬ v = 0 ∧ hit x K := by
  unfold bnz at h
  by_cases e : v = 0
  · rw [if_pos e] at h
    exact h.elim
  · rw [if_neg e] at h
    exact ⟨e, h⟩
theorem hit_t {β : Type} {c : Prop} [Decidable c] {x y : Option (β × rS)} {K : β → rS → Prop} (h : hit (if c then x else y) K) (hc : c) : hit x K := by
  rw [if_pos hc] at h
  exact h
theorem hit_f {β : Type} {c : Prop} [Decidable c] {x y : Option (β × rS)} {K : β → rS → Prop} (h : hit (if c then x else y) K) (hc : ¬ c) : hit y K := by
  rw [if_neg hc] at h
  exact h
theorem hit_mono {α : Type} {o : Option (α × rS)} {K K' : α → rS → Prop} (h : hit o K) (hk : ∀ r s, K r s → K' r s) : hit o K' := by
  cases o with
  | none => exact h
  | some q => exact hk _ _ h
theorem hit_lp {L R : Type} {step : L → rS → Option ((L ⊕ R) × rS)} {n : Nat} {x : L} {σ : rS} {K : R → rS → Prop} (h : hit (lp step (n + 1) x σ) K) :
    hit (step x σ) (fun q σ => match q with
      | .inl y => hit (lp step n y σ) K
      | .inr r => K r σ) := by
  refine hit_mono (hit_bd h) (fun q s hq => ?_)
  cases q with
  | inl y => exact hq
  | inr r => exact hq
