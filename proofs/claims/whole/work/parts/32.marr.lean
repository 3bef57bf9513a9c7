/-! arrays of references within a constructor -/
section RK4
variable {l : Launch} {Ω : rO} {cc : ByteArray} {own : String} {nL : Nat} {rm : Room} {Q : List Frame → Array Value → State → State → Prop} {h0 kc ks : Nat} {X : va_W} {x : Nat × va_E} {pc : Nat} {lv : List (Option Value)} {st rest : List Value} {i : Nat}
theorem C_anew {n : Int32} {N : Nat} (hcl : Cond.classLink own i "NurseryHeap$State" ∈ TT) (hn : ¬ n < 0) (hN : n.toNatClampNeg = N) (hbytes : N * 4 ≤ 536870912) (hcells : kc + 1 ≤ rm.cells) (hslots : ks + N ≤ rm.slots) (hd : decode cc pc = .ok (.anewarray i, 3))
    (k : ∀ q : Nat, RunC l Ω cc own nL rm Q h0 (kc + 1) (ks + N) (x :: (X ++ [(q, .inl (Ω.2.1 4, N, .inr (.inr (.inr (.inr (fun _ => none))))))])) (pc + 3) lv (.ref q :: st)) : RunC l Ω cc own nL rm Q h0 kc ks (x :: X) pc lv (.int n :: st) := fun p e s m args below meth c B hb H locs ls hP hD hS hl => by
  have hK := B.2.2.2.2.2.2.2.1.1
  subst hN
  refine va_newq (C := "NurseryHeap$State") B.1 B.2.1 B.2.2.2.2.1 (B.2.2.2.2.2.1 _ hcl) B.2.2.2.2.2.2.2.1.2.2.1.2.2.2.2.2.2.2.1 hK hP hD hS (fun q h => Or.inr h) hn rfl hbytes hcells hslots hd (fun q cA H1 hK1 hP1 hD1 hS1 => ?_)
  obtain ⟨kA, comp, -, -, -, e1⟩ := (hK.2 4 (Ω.2.1 4, .object "NurseryHeap$State") rfl).2
  obtain ⟨kA2, comp2, -, -, -, e2⟩ : va_RA s cA (.object "NurseryHeap$State") := (hK1.2 (oT Ω).length (cA, .object "NurseryHeap$State") (by rw [List.getElem?_append_right (Nat.le_refl _)]; simp)).2
  have e3 : cA = Ω.2.1 4 := Option.some.inj (e2.symm.trans e1)
  subst e3
  exact k q p e s m args below meth c B hb H1 locs ls hP1 hD1 hS1 hl
/-- new int[4][80] -/
theorem C_multi (hcl : Cond.classLink own i ("[" ++ (FieldType.array .int).toString) ∈ TT) (hac : Cond.arrayClass .int ∈ TT) (hcells : kc + 5 ≤ rm.cells) (hslots : ks + 324 ≤ rm.slots) (hd : decode cc pc = .ok (.multianewarray i 2, 4))
    (k : ∀ q : Nat, RunC l Ω cc own nL rm Q h0 (kc + 5) (ks + 324) (x :: (X ++ [(q, .inl (Ω.2.1 5, 4, .inr (.inr (.inr (.inr (fun i => if i < 4 then some (q + 1 + i) else none)))))), (q + 1, .inl (Ω.2.1 0, 80, .inl (fun _ => 0))), (q + 2, .inl (Ω.2.1 0, 80, .inl (fun _ => 0))), (q + 3, .inl (Ω.2.1 0, 80, .inl (fun _ => 0))), (q + 4, .inl (Ω.2.1 0, 80, .inl (fun _ => 0)))])) (pc + 4) lv (.ref q :: st)) : RunC l Ω cc own nL rm Q h0 kc ks (x :: X) pc lv (.int 80 :: .int 4 :: st) := by
  sorry
end RK4
