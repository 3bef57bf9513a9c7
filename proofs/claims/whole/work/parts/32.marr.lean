/-! arrays of references within a constructor -/
section RK4
variable {l : Launch} {Ω : rO} {cc : ByteArray} {own : String} {nL : Nat} {rm : Room} {Q : List Frame → Array Value → State → State → Prop} {h0 kc ks : Nat} {X : va_W} {x : Nat × va_E} {pc : Nat} {lv : List (Option Value)} {st rest : List Value} {i : Nat}
theorem C_anew {n : Int32} {N : Nat} (hcl : Cond.classLink own i "NurseryHeap$State" ∈ TT) (hn : ¬ n < 0) (hN : n.toNatClampNeg = N) (hbytes : N * 4 ≤ 536870912) (hcells : kc + 1 ≤ rm.cells) (hslots : ks + N ≤ rm.slots) (hd : decode cc pc = .ok (.anewarray i, 3))
    (k : ∀ q : Nat, RunC l Ω cc own nL rm Q h0 (kc + 1) (ks + N) (x :: (X ++ [(q, .inl (Ω.2.1 4, N, .inr (.inr (.inr (.inr (fun _ => none))))))])) (pc + 3) lv (.ref q :: st)) : RunC l Ω cc own nL rm Q h0 kc ks (x :: X) pc lv (.int n :: st) := fun p e s m args below meth c B hb H locs ls hP hD hS hl => by
  have hK := B.2.2.2.2.2.2.2.1.1
  subst hN
  refine va_newq (C := "NurseryHeap$State") B.1 B.2.1 B.2.2.2.2.1 (B.2.2.2.2.2.1 _ hcl) B.2.2.2.2.2.2.2.1.2.2.1.2.2.2.2.2.2.2.1 hK hP hD hS (fun q h => Or.inr h) hn rfl hbytes hcells hslots hd (fun q cA H1 hK1 hP1 hD1 hS1 => ?_)
  obtain ⟨kA, comp, -, -, -, e1⟩ := (hK.2 4 (Ω.2.1 4, .object "NurseryHeap$State") rfl).2
  obtain ⟨kA2, comp2, -, -, -, e2⟩ : va_RA s cA (.object "NurseryHeap$State") := (hK1.2 (oT Ω).length (cA, .object "NurseryHeap$State") (by rw [List.getElem?_append_right (Nat.le_refl _)]; simp)).2
  have e3 : cA = Ω.2.1 4 := Option.some.inj (e2.symm.trans e1)
  subst e3
  exact k q p e s m args below meth c B hb H1 locs ls hP1 hD1 hS1 hl
/-- new int[4][80] -/
theorem C_multi (hcl : Cond.classLink own i ("[" ++ (FieldType.array .int).toString) ∈ TT) (hac : Cond.arrayClass .int ∈ TT) (hcells : kc + 5 ≤ rm.cells) (hslots : ks + 324 ≤ rm.slots) (hd : decode cc pc = .ok (.multianewarray i 2, 4))
    (k : ∀ q : Nat, RunC l Ω cc own nL rm Q h0 (kc + 5) (ks + 324) (x :: (X ++ [(q, .inl (Ω.2.1 5, 4, .inr (.inr (.inr (.inr (fun i => if i < 4 then some (q + 1 + i) else none)))))), (q + 1, .inl (Ω.2.1 0, 80, .inl (fun _ => 0))), (q + 2, .inl (Ω.2.1 0, 80, .inl (fun _ => 0))), (q + 3, .inl (Ω.2.1 0, 80, .inl (fun _ => 0))), (q + 4, .inl (Ω.2.1 0, 80, .inl (fun _ => 0)))])) (pc + 4) lv (.ref q :: st)) : RunC l Ω cc own nL rm Q h0 kc ks (x :: X) pc lv (.int 80 :: .int 4 :: st) := fun p e s m args below meth c B hb H locs ls hP hD hS hl => by
  have hK := B.2.2.2.2.2.2.2.1.1
  have hts := B.2.2.2.2.2.1
  intro T hT Xs
  obtain ⟨vm₁, cA, comp, -, fA, fC, hO, -, X', step⟩ := Xs.multianewarray2F (ty := .int) B.1 B.2.2.2.2.1 (hts _ hcl) (B.2.2.2.2.2.2.2.1.2.2.1.2.2.2.2.2.2.2.2) (hts _ hac) (g := F0 m pc ls (.int 80 :: .int 4 :: st)) rfl (by rw [B.2.1]; exact hd) (n := 4) (k := 80) (rest := st) rfl (by decide) (by decide) (by decide) (by decide) (by decide) rfl rfl (by show kc + (1 + 4) ≤ _; omega) (by show ks + (4 + 4 * 80) ≤ _; omega)
  have e5 : s.vm.findClass ("[" ++ (FieldType.array .int).toString) = some (Ω.2.1 5) := (hK.2 5 (Ω.2.1 5, .array .int) rfl).2
  have e0 : s.vm.findClass ("[" ++ (FieldType.int).toString) = some (Ω.2.1 0) := (hK.2 0 (Ω.2.1 0, .int) rfl).2
  have c5 : cA = Ω.2.1 5 := Option.some.inj (fA.symm.trans e5)
  have c0 : comp = Ω.2.1 0 := Option.some.inj (fC.symm.trans e0)
  subst c5
  subst c0
  have n4 : (4 : Int32).toNatClampNeg = 4 := by decide
  have n80 : (80 : Int32).toNatClampNeg = 80 := by decide
  rw [n4, n80] at X' step
  generalize hF : Jvm.Free.Multi.fill (T.setVm vm₁) (Ω.2.1 5) (Ω.2.1 0) 4 80 (defaultValue .int) 4 = F at X' step
  have hTh : (T.setVm vm₁).heap = H := hT
  obtain ⟨f1, f2, -, -⟩ := Jvm.Free.Multi.fill_facts (T.setVm vm₁) (Ω.2.1 5) (Ω.2.1 0) 4 80 (defaultValue .int) 4
  rw [hF, hTh] at f1 f2
  have hold : ∀ z : Nat, z < H.size → F.heap[z]? = H[z]? := fun z hz => by
    have := Jvm.Free.Multi.fill_old (T.setVm vm₁) (Ω.2.1 5) (Ω.2.1 0) 4 80 (defaultValue .int) (a := z) (by rw [hTh]; exact hz) 4
    rw [hF, hTh] at this
    exact this
  have hz : ∀ c : ClassId, Jvm.Free.Multi.innerC c 80 (defaultValue .int) = vp_cell c (80, .inl (fun _ => 0)) := fun c => by
    rw [vp_cell_i]
    show ({ cls := c, slots := Array.replicate 80 (.int 0), vm := .none } : Cell) = _
    rw [arrV_new]
  have hrow : ∀ j : Nat, j < 4 → F.heap[H.size + 1 + j]? = some (vp_cell (Ω.2.1 0) (80, .inl (fun _ => 0))) := fun j hj => by
    have := Jvm.Free.Multi.fill_inner (T.setVm vm₁) (Ω.2.1 5) (Ω.2.1 0) 4 80 (defaultValue .int) 4 j hj
    rw [hF, hTh, hz] at this
    exact this
  have vro : ∀ j : Nat, Jvm.Free.Multi.outerC (Ω.2.1 5) 4 H.size j = arrV (Ω.2.1 5) 4 (fun z => va_rf (if z < j then some (H.size + 1 + z) else none)) := by
    intro j
    induction j with
    | zero =>
      show ({ cls := _, slots := Array.replicate 4 .null, vm := .none } : Cell) = _
      rw [arrV_new]
      refine congrArg (arrV _ 4) (funext fun z => ?_)
      simp [va_rf]
    | succ j ih =>
      show (Jvm.Free.Multi.outerC (Ω.2.1 5) 4 H.size j).setSlot j (.ref (H.size + 1 + j)) = _
      rw [ih, arrV_store]
      refine congrArg (arrV _ 4) (funext fun z => ?_)
      by_cases ez : z = j
      · subst ez
        simp [updV, va_rf]
      · by_cases h : z < j
        · simp [updV, ez, h, Nat.lt_succ_of_lt h]
        · simp [updV, ez, h, show ¬ z < j + 1 by omega]
  rw [vro] at f2
  have hnew : va_P Ω.1 vwCl [(H.size, .inl (Ω.2.1 5, 4, .inr (.inr (.inr (.inr (fun i => if i < 4 then some (H.size + 1 + i) else none)))))), (H.size + 1, .inl (Ω.2.1 0, 80, .inl (fun _ => 0))), (H.size + 2, .inl (Ω.2.1 0, 80, .inl (fun _ => 0))), (H.size + 3, .inl (Ω.2.1 0, 80, .inl (fun _ => 0))), (H.size + 4, .inl (Ω.2.1 0, 80, .inl (fun _ => 0)))] F.heap := by
    intro j z hz
    rcases (by have := (List.getElem?_eq_some_iff.mp hz).1; simp at this; omega : j = 0 ∨ j = 1 ∨ j = 2 ∨ j = 3 ∨ j = 4) with rfl | rfl | rfl | rfl | rfl <;> cases hz
    · exact f2
    · exact hrow 0 (by omega)
    · exact hrow 1 (by omega)
    · exact hrow 2 (by omega)
    · exact hrow 3 (by omega)
  have hlt : ∀ (j : Nat) (z : Nat × va_E), (x :: X)[j]? = some z → z.1 < H.size := fun j z hz => (hP j z hz).lt
  obtain ⟨t, a1, b1⟩ := k H.size p e s m args below meth c B hb F.heap locs ls
    (va_P.app (w1 := x :: X) (fun j z hz => (hP j z hz).kept (hold _ (hlt j z hz))) hnew)
    (va_D.app (w1 := x :: X) hD ⟨fun a b u w hu hw e => by
        have h1 := (List.getElem?_eq_some_iff.mp hu).1
        have h2 := (List.getElem?_eq_some_iff.mp hw).1
        simp at h1 h2
        rcases (by omega : a = 0 ∨ a = 1 ∨ a = 2 ∨ a = 3 ∨ a = 4) with rfl | rfl | rfl | rfl | rfl <;> cases hu <;>
        rcases (by omega : b = 0 ∨ b = 1 ∨ b = 2 ∨ b = 3 ∨ b = 4) with rfl | rfl | rfl | rfl | rfl <;> cases hw <;> first | rfl | (simp at e) , fun a u hu => by
        have h1 := (List.getElem?_eq_some_iff.mp hu).1
        simp at h1
        have := hS.1
        rcases (by omega : a = 0 ∨ a = 1 ∨ a = 2 ∨ a = 3 ∨ a = 4) with rfl | rfl | rfl | rfl | rfl <;> cases hu <;> exact Or.inr (by show s.heap.size ≤ _; omega)⟩ (fun a b u w hu hw e => by
        have h1 := hlt a u hu
        have h2 := (List.getElem?_eq_some_iff.mp hw).1
        simp at h2
        rcases (by omega : b = 0 ∨ b = 1 ∨ b = 2 ∨ b = 3 ∨ b = 4) with rfl | rfl | rfl | rfl | rfl <;> cases hw <;> (simp at e; omega)))
    ⟨Nat.le_trans hS.1 (by rw [f1]; omega), fun z h1 h2 => (hold z (Nat.lt_of_lt_of_le h1 hS.1)).trans (hS.2.1 z h1 h2), hS.2.2⟩ hl F rfl X'
  exact ⟨t, step t (by rw [hT]; exact a1), b1⟩
end RK4
