/-! pure: ways into 'hit'; a loop that counts up -/
theorem bd_hit {α β : Type} {o : Option (α × rS)} {f : α → rS → Option (β × rS)} {K : β → rS → Prop} (h : hit o (fun r s => hit (f r s) K)) : hit (bd o f) K := by
  cases o with
  | none => exact h
  | some q => exact h
theorem rd_hit {β : Type} {x : Int32} {f : Int32 → Option (β × rS)} {K : β → rS → Prop} (h : hit (f x) K) : hit (rd x f) K := h
theorem bnd_hit {β : Type} {i : Int32} {n : Nat} {x : Option (β × rS)} {K : β → rS → Prop} (hi : vp_in i n) (h : hit x K) : hit (bnd i n x) K := by
  unfold bnd
  rw [if_neg hi]
  exact h
theorem t_hit {β : Type} {c : Prop} [Decidable c] {x y : Option (β × rS)} {K : β → rS → Prop} (hc : c) (h : hit x K) : hit (if c then x else y) K := by
  rw [if_pos hc]
  exact h
theorem f_hit {β : Type} {c : Prop} [Decidable c] {x y : Option (β × rS)} {K : β → rS → Prop} (hc : ¬ c) (h : hit y K) : hit (if c then x else y) K := by
  rw [if_neg hc]
  exact h
theorem lp_hit {L R : Type} {step : L → rS → Option ((L ⊕ R) × rS)} {n : Nat} {x : L} {σ : rS} {K : R → rS → Prop} (h : hit (step x σ) (fun q σ => match q with
      | .inl y => hit (lp step n y σ) K
      | .inr r => K r σ)) : hit (lp step (n + 1) x σ) K := by
  refine bd_hit (hit_mono h (fun q s hq => ?_))
  cases q with
  | inl y => exact hq
  | inr r => exact hq
theorem lp_for {R : Type} {step : Int32 → rS → Option ((Int32 ⊕ R) × rS)} {I : Nat → rS → Prop} {P : R → rS → Prop} {b : Nat}
    (hs : ∀ i σ, i < b → I i σ → hit (step (nI i) σ) (fun q σ' => match q with
      | .inl y => y = nI (i + 1) ∧ I (i + 1) σ'
      | .inr r => P r σ'))
    (he : ∀ σ, I b σ → hit (step (nI b) σ) (fun q σ' => match q with
      | .inl _ => False
      | .inr r => P r σ')) : ∀ (n i : Nat) (σ : rS), i ≤ b → b < i + n → I i σ → hit (lp step n (nI i) σ) P := by
  intro n
  induction n with
  | zero => intro i σ h1 h2; omega
  | succ n ih =>
    intro i σ h1 h2 hI
    by_cases hi : i < b
    · refine lp_hit (hit_mono (hs i σ hi hI) (fun q s hq => ?_))
      cases q with
      | inl y => obtain ⟨rfl, hI2⟩ := hq; exact ih (i + 1) s (by omega) (by omega) hI2
      | inr r => exact hq
    · have : i = b := by omega
      subst this
      refine lp_hit (hit_mono (he σ hI) (fun q s hq => ?_))
      cases q with
      | inl y => exact hq.elim
      | inr r => exact hq
theorem wrR_wrR (σ : rS) (c k : Nat) (g g' : Nat → Int32) : wrR (wrR σ c k g) c k g' = wrR σ c k g' := by
  funext c'
  unfold wrR
  by_cases h : c' = c
  · simp only [h, if_true]
    funext k'
    by_cases h2 : k' = k <;> simp [h2]
  · simp [h]
theorem wrR_self (σ : rS) (c k : Nat) {g : Nat → Int32} (h : g = σ c k) : wrR σ c k g = σ := by
  subst h
  funext c'
  unfold wrR
  by_cases h : c' = c
  · simp only [h, if_true]
    funext k'
    by_cases h2 : k' = k <;> simp [h2]
  · simp [h]
def fillR (n : Nat) (v : Int32) (r : Nat → Int32) : Nat → Int32 := fun j => if j < n then v else r j
theorem fill_spec (c k n : Nat) (v : Int32) (σ : rS) (hn : n < 65536) : hit (fJ7_fill_53178 c k n v σ) (fun _ σ' => σ' = wrR σ c k (fillR n v (σ c k))) := by
  unfold fJ7_fill_53178
  refine rd_hit (bd_hit ?_)
  have h := lp_for (step := fun (x : Int32) σ => fJ7_fill_53178_L5 c k n v (nI n) x σ) (I := fun i τ => τ = wrR σ c k (fillR i v (σ c k))) (P := fun _ τ => τ = wrR σ c k (fillR n v (σ c k))) (b := n) ?_ ?_ fu 0 σ (Nat.zero_le _) (by have := fu_ge; omega) ?_
  · exact hit_mono h (fun _ _ q => q)
  · intro i τ hi hI
    subst hI
    unfold fJ7_fill_53178_L5
    refine t_hit (nI_lt hi (by omega)) (bnd_hit (vp_in_nI hi (by omega)) ?_)
    refine ⟨nI_1 i, ?_⟩
    show wr _ c k (ix (nI i)) v = _
    unfold wr
    rw [wrR_wrR, wrR_eq]
    congr 1
    funext j
    have e : ix (nI i) = i := nI_clamp (by omega)
    rw [e]
    unfold upd fillR
    by_cases h1 : j = i
    · subst h1; simp
    · by_cases h2 : j < i
      · simp [h1, h2, Nat.lt_succ_of_lt h2]
      · simp [h1, h2, show ¬ j < i + 1 by omega]
  · intro τ hI
    subst hI
    unfold fJ7_fill_53178_L5
    refine f_hit (nI_nlt (Nat.le_refl _) (by omega)) ?_
    rfl
  · refine (wrR_self σ c k ?_).symm
    funext j
    simp [fillR]
/-! a fill of an array of 8 ints within a constructor -/
def oOne (Ω : rO) (q N : Nat) : rO := (Ω.1, Ω.2.1, fun c _ => if c = 99 then N else q, fun c k => c = 53 ∧ k = 0, oB Ω, Ω.2.2.2.2.2)
theorem oOne_wf {Ω : rO} {q N : Nat} (h : oB Ω ≤ q) : WF (oOne Ω q N) := by
  refine ⟨fun c k c' k' h1 h2 _ => ?_, fun c k h1 => by
      obtain ⟨rfl, rfl⟩ := h1
      exact h, fun c k hL z hz => ?_⟩
  · obtain ⟨rfl, rfl⟩ := h1
    obtain ⟨rfl, rfl⟩ := h2
    exact ⟨rfl, rfl⟩
  · obtain ⟨rfl, rfl⟩ := hL
    cases hz
theorem C_fill {l : Launch} {Ω : rO} {cc : ByteArray} {own : String} {nL : Nat} {rm : Room} {Q : List Frame → Array Value → State → State → Prop} {h0 kc ks : Nat} {X Y : va_W} {pc i q : Nat} {lv : List (Option Value)} {rest : List Value} {f : Nat → Int32} {v : Int32} (ho : CokS yJ7_fill_53178 cJ7_fill_53178 4 none 2) (hm : Cond.methodLink own i yJ7_fill_53178 ∈ TT) (hw : (rest.map fun v => v.category).sum ≤ 8) (hR : rmJ7_fill_53178.frames + 1 ≤ rm.frames ∧ 8 + (4 + 11) + rmJ7_fill_53178.locals ≤ rm.locals) (hf : kc ≤ rm.cells ∧ ks ≤ rm.slots) (hd : decode cc pc = .ok (.invokestatic i, 3))
    (k : RunC l Ω cc own nL rm Q h0 kc ks (X ++ (q, .inl (Ω.2.1 0, 8, .inl (fillR 8 v f))) :: Y) (pc + 3) lv rest) : RunC l Ω cc own nL rm Q h0 kc ks (X ++ (q, .inl (Ω.2.1 0, 8, .inl f)) :: Y) pc lv (.int v :: .ref q :: rest) := fun p e s m args below meth c B hb H locs ls hP hD hS hl => by
  have hts := B.2.2.2.2.2.1
  have hq0 : (X ++ (q, .inl (Ω.2.1 0, 8, .inl f)) :: Y)[X.length]? = some (q, .inl (Ω.2.1 0, 8, .inl f)) := by rw [List.getElem?_append_right (Nat.le_refl _)]; simp
  have hqA : cN h0 s.heap.size q := hD.2 X.length _ hq0
  have hqb : oB Ω ≤ q := by
    rcases hqA with h | h
    · rw [h]; exact hb
    · exact Nat.le_trans B.2.2.2.2.2.2.2.1.2.1 h
  have hat := hP X.length _ hq0
  let Ωt := oOne Ω q H.size
  let σt : rS := fun _ _ => f
  have hC : Ct l Ωt yJ7_fill_53178 cJ7_fill_53178 4 none rmJ7_fill_53178 [rf Ωt 53 0, .int v] σt (fun _ σ' => σ' = wrR σt 53 0 (fillR 8 v f)) :=
    ctJ7_fill_53178 l Ωt 53 0 8 v ⟨rfl, rfl⟩ (cE_53 Ωt 0) σt _ (fill_spec 53 0 8 v σt (by omega))
  have hP0 := B.2.2.2.2.2.2.2.1
  have hr := va_runS (p := p) (e := e) (R := rm) (s := s) (m := m) (args := args) (below := below) (meth := meth) (c := c) (H := H) (locs := locs) (cells := kc) (slots := ks) (mc := 0) (ms := 0) (n := 2) (g := F0 m pc ls (.int v :: .ref q :: rest)) (As := [rf Ωt 53 0, .int v]) (rest := rest) (Ts := TT) (own := own) (index := i) (bytes := cJ7_fill_53178) (maxL := 4) (ret := none) ⟨B.1, B.2.1, B.2.2.2.1, B.2.2.2.2.1, hts⟩ hC ⟨callB_of 2 hts (tbl_good ho.1.1) rfl rfl rfl (hts _ ho.1.2.1) (hts _ hm) ho.1.2.2 hR, hts _ ho.2⟩ ⟨rPre.blind σt _, fun U hU hW => ?_⟩ rfl rfl hl.1 rfl (lv_room hw) hd hf
  · intro T hT XX
    obtain ⟨w, st₀, t, T', L, e0, X', hL, e1, e2, ⟨⟨r, σ2, hv, hp, hh⟩, hz, hq⟩, sg⟩ := hr T hT XX
    cases hv
    rw [e0] at hz hq
    have hone : ∀ z, oF Ωt z → z = q ∨ H.size ≤ z := by
      rintro z (⟨c1, k1, h1, h2⟩ | h)
      · obtain ⟨rfl, rfl⟩ := h1
        exact Or.inl h2.symm
      · exact Or.inr h.2
    have hnew : va_at Ω.1 vwCl (q, .inl (Ω.2.1 0, 8, .inl (fillR 8 v f))) t.heap := by
      have := hh 53 0 ⟨rfl, rfl⟩
      rw [hp, wrR_eq] at this
      exact this
    have hkeep : ∀ z : Nat, z < H.size → z ≠ q → T'.heap[z]? = H[z]? := fun z h1 h2 => by rw [e1]; exact hq z h1 (fun h => (hone z h).elim h2 (fun h3 => absurd h1 (Nat.not_lt.mpr h3)))
    have hset : X ++ (q, .inl (Ω.2.1 0, 8, .inl (fillR 8 v f))) :: Y = (X ++ (q, .inl (Ω.2.1 0, 8, .inl f)) :: Y).set X.length (q, .inl (Ω.2.1 0, 8, .inl (fillR 8 v f))) := by
      rw [List.set_append_right _ _ (Nat.le_refl _)]
      simp
    obtain ⟨t2, a1, b1⟩ := k p e s m args below meth c B hb T'.heap (locs ++ L) ls
      (by
        rw [hset]
        intro j x hx
        by_cases ej : X.length = j
        · subst ej
          rw [List.getElem?_set_self (List.getElem?_eq_some_iff.mp hq0).1] at hx
          have := Option.some.inj hx
          subst this
          rw [e1]
          exact hnew
        · rw [List.getElem?_set_ne ej] at hx
          refine (hP j x hx).kept (hkeep x.1 (hP j x hx).lt (fun e => ej ?_))
          exact (hD.1 j X.length x _ hx hq0 e).symm)
      (by rw [hset]; exact hD.set hq0)
      ⟨Nat.le_trans hS.1 (by rw [e1]; exact hz), fun z h1 h2 => by rw [hkeep z (Nat.lt_of_lt_of_le h1 hS.1) (fun e => h2 (e ▸ hqA))]; exact hS.2.1 z h1 h2, fun z hz => by
        rcases List.mem_append.mp hz with h | h
        · exact hS.2.2 z h
        · rcases hone _ (hL z h) with h3 | h3
          · rw [h3]
            exact hqA
          · exact Or.inr (Nat.le_trans hS.1 h3)⟩ hl T' rfl X'
    exact ⟨t2, sg _ a1, b1⟩
  · have hU0 := rP0.start hP0 hb hS U hU hW
    refine ⟨rfl, fun c1 k1 hL1 => ?_, hU0.1, hU0.2.1, oOne_wf hqb, hU0.2.2.1, hU0.2.2.2⟩
    obtain ⟨rfl, rfl⟩ := hL1
    rw [hU]
    exact hat
section RK3
variable {l : Launch} {Ω : rO} {cc : ByteArray} {own : String} {nL : Nat} {rm : Room} {Q : List Frame → Array Value → State → State → Prop} {h0 kc ks : Nat} {X : va_W} {x : Nat × va_E} {pc : Nat} {lv : List (Option Value)} {st rest : List Value}
variable {y : MethodName} {cc2 : ByteArray} {nL2 : Nat} {rm2 : Room} {i n ci q mc ms : Nat} {fs As : List Value} {out : (Nat → Nat) → va_W} {host : String}
theorem C_eq {ws ws2 : va_W} (h : ws = ws2) (k : RunC l Ω cc own nL rm Q h0 kc ks ws2 pc lv st) : RunC l Ω cc own nL rm Q h0 kc ks ws pc lv st := h ▸ k
theorem C_newaH {n : Int32} {N : Nat} (hac : Cond.arrayClass .int ∈ TT) (hn : ¬ n < 0) (hN : n.toNatClampNeg = N) (hbytes : N * 4 ≤ 536870912) (hcells : kc + 1 ≤ rm.cells) (hslots : ks + N ≤ rm.slots) (hd : decode cc pc = .ok (.newarray .int, 2))
    (k : ∀ q : Nat, RunC l Ω cc own nL rm Q h0 (kc + 1) (ks + N) (x :: (X ++ [(q, .inl (Ω.2.1 0, N, .inl (fun _ => 0)))])) (pc + 2) lv (.ref q :: st)) : RunC l Ω cc own nL rm Q h0 kc ks (x :: X) pc lv (.int n :: st) := C_newa hac hn hN hbytes hcells hslots hd k
theorem C_newbH {n : Int32} {N : Nat} (hac : Cond.arrayClass .byte ∈ TT) (hn : ¬ n < 0) (hN : n.toNatClampNeg = N) (hbytes : N * 1 ≤ 536870912) (hcells : kc + 1 ≤ rm.cells) (hslots : ks + N ≤ rm.slots) (hd : decode cc pc = .ok (.newarray .byte, 2))
    (k : ∀ q : Nat, RunC l Ω cc own nL rm Q h0 (kc + 1) (ks + N) (x :: (X ++ [(q, .inl (Ω.2.1 2, N, .inl (fun _ => 0)))])) (pc + 2) lv (.ref q :: st)) : RunC l Ω cc own nL rm Q h0 kc ks (x :: X) pc lv (.int n :: st) := C_newaG (atype := .byte) (t0 := 2) rfl (fun _ h => h) rfl hac hn hN hbytes hcells hslots hd k
theorem C_newzH {n : Int32} {N : Nat} (hac : Cond.arrayClass .boolean ∈ TT) (hn : ¬ n < 0) (hN : n.toNatClampNeg = N) (hbytes : N * 1 ≤ 536870912) (hcells : kc + 1 ≤ rm.cells) (hslots : ks + N ≤ rm.slots) (hd : decode cc pc = .ok (.newarray .boolean, 2))
    (k : ∀ q : Nat, RunC l Ω cc own nL rm Q h0 (kc + 1) (ks + N) (x :: (X ++ [(q, .inl (Ω.2.1 1, N, .inl (fun _ => 0)))])) (pc + 2) lv (.ref q :: st)) : RunC l Ω cc own nL rm Q h0 kc ks (x :: X) pc lv (.int n :: st) := C_newaG (atype := .boolean) (t0 := 1) rfl (fun _ h => h) rfl hac hn hN hbytes hcells hslots hd k
theorem C_newH {C : String} {T : u_T} {N : Nat} {ty : Nat → FieldType} (hin : ∀ w ∈ u_ws C T N, w ∈ TT) (hty : ∀ k, k < N → parseFieldDescriptor (T k).2.2.1 = some (ty k)) (hcl : Cond.classLink own i C ∈ TT) (hinst : Cond.instantiable C N ∈ TT) (hini : Cond.initialized C ∈ TT) (hc : vwCl[ci]? = some (C, T, N)) (hfs : ∀ j, j < N → defaultValue (ty j) = vp_V fs j) (hcells : kc + 1 ≤ rm.cells) (hslots : ks + N ≤ rm.slots) (hd : decode cc pc = .ok (.new i, 3))
    (k : ∀ q : Nat, RunC l Ω cc own nL rm Q h0 (kc + 1) (ks + N) (x :: (X ++ [(q, .inr (ci, fs))])) (pc + 3) lv (.ref q :: st)) : RunC l Ω cc own nL rm Q h0 kc ks (x :: X) pc lv st := C_new hin hty hcl hinst hini hc hfs hcells hslots hd k
theorem C_callH (hC : ∀ sz, CtC l Ω y cc2 nL2 rm2 q sz ci fs As mc ms out) (ho : Cok y cc2 nL2 none n) (hyn : y.name = "<init>") (hin : Cond.instanceMethod y ∈ TT) (hm : Cond.methodLink own i y ∈ TT) (hn : As.length = n) (hst : As.reverse ++ .ref q :: rest = st) (hw : (rest.map fun v => v.category).sum ≤ 8) (hrc : rm2.cells = mc) (hrs : rm2.slots = ms) (hR : rm2.frames + 1 ≤ rm.frames ∧ 8 + (nL2 + 11) + rm2.locals ≤ rm.locals) (hf : kc + mc ≤ rm.cells ∧ ks + ms ≤ rm.slots) (hd : decode cc pc = .ok (.invokespecial i, 3))
    (k : ∀ a : Nat → Nat, a 0 = q → RunC l Ω cc own nL rm Q h0 (kc + mc) (ks + ms) (x :: (X ++ out a)) (pc + 3) lv rest) : RunC l Ω cc own nL rm Q h0 kc ks (x :: (X ++ [(q, .inr (ci, fs))])) pc lv st := C_callI (X := x :: X) hC ho hyn hin hm hn hst hw hrc hrs hR hf hd k
theorem C_callNH (hC : ∀ sz, CtC l Ω y cc2 nL2 rm2 q sz ci fs As mc ms out) (ho : Cok y cc2 nL2 none n) (hyn : y.name = "<init>") (hin : Cond.instanceMethod y ∈ TT) (hm : Cond.methodLinkNest own i y host ∈ nwds) (hn : As.length = n) (hst : As.reverse ++ .ref q :: rest = st) (hw : (rest.map fun v => v.category).sum ≤ 8) (hrc : rm2.cells = mc) (hrs : rm2.slots = ms) (hR : rm2.frames + 1 ≤ rm.frames ∧ 8 + (nL2 + 11) + rm2.locals ≤ rm.locals) (hf : kc + mc ≤ rm.cells ∧ ks + ms ≤ rm.slots) (hd : decode cc pc = .ok (.invokespecial i, 3))
    (k : ∀ a : Nat → Nat, a 0 = q → RunC l Ω cc own nL rm Q h0 (kc + mc) (ks + ms) (x :: (X ++ out a)) (pc + 3) lv rest) : RunC l Ω cc own nL rm Q h0 kc ks (x :: (X ++ [(q, .inr (ci, fs))])) pc lv st := C_callIN (X := x :: X) hC ho hyn hin hm hn hst hw hrc hrs hR hf hd k
end RK3
