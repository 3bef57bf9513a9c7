/-! what the Statement gives of the start, as a world without cells -/
theorem lwT {w : Cond} (i : Nat) (h : tables_1[i]? = some w) : w ∈ lw_tbl := List.mem_append_right _ (List.mem_of_getElem? h)
theorem TT_tbl {w : Cond} (h : w ∈ TT) : w ∈ lw_tbl := (List.mem_filter.mp h).1
theorem nwds_tbl {w : Cond} (h : w ∈ nwds) : w ∈ lw_tbl := (List.mem_filter.mp h).1
theorem st_T {args : Array Value} {s : State} {A : Nat → Prop} (C n : String) (N : Nat) (f : Nat → Int32) (hN : N < 2 ^ 31) (hl : (Cond.laysStatic C n "[I").before args s = true) (hini : (Cond.initialized C).before args s = true) (harr : (Cond.arrayOf (.static C n "[I") .int).before args s = true) (hlen : (Cond.eq (.length (.static C n "[I")) (.int (Int32.ofNat N))).before args s = true) (hel : ∀ j : Nat, j < N → (Cond.eq (.elem (.static C n "[I") (.int (Int32.ofNat j))) (.int (f j))).before args s = true) (hA : ∀ a : Nat, a < s.heap.size → ¬ A a) : ∃ t, va_Z C n "[I" (.ref t) A s s.heap ∧ va_T .int t N (fun j => .int (f j)) A s s.heap := by
  obtain ⟨t, ht, hT⟩ := va_Tof (f := fun j => .int (f j)) (A := A) hN harr (va_eqt hlen) (fun j hj => va_eqt (hel j hj)) hA
  exact ⟨t, va_Zref hl hini ht hA, hT⟩
theorem st_arr {args : Array Value} {s : State} {ty : FieldType} (hty : ∀ C, ty ≠ .object C) (h : (Cond.arrayClass ty).before args s = true) : ∃ cA : ClassId, ArrOfT s cA ty ∧ va_RA s cA ty := by
  obtain ⟨cA, kC, cc, h1, h2, h3⟩ := Cond.arrayClass_spec h
  refine ⟨cA, fun n z => ⟨fun k h => (by cases h), kC, h2, cc, h3⟩, ?_⟩
  cases ty with
  | object C => exact absurd rfl (hty C)
  | _ => exact h1
theorem st_over {args : Array Value} {s : State} {C : String} (h : (Cond.arrayOver (.object C)).before args s = true) : ∃ cA : ClassId, ArrOfT s cA (.object C) ∧ va_RA s cA (.object C) := by
  obtain ⟨comp, c, k, h1, -, h3, h4, h5⟩ := Cond.arrayOver_spec h
  exact ⟨c, fun n z => ⟨fun k h => (by cases h), k, h3, comp, h4⟩, k, comp, h3, h4, h1, h5⟩
theorem st_overA {args : Array Value} {s : State} {t : FieldType} (h : (Cond.arrayOver (.array t)).before args s = true) : ∃ cA : ClassId, ArrOfT s cA (.array t) ∧ va_RA s cA (.array t) := by
  unfold Cond.before Cond.holds at h
  simp only [Cond.value, beq_iff_eq] at h
  cases hc : s.vm.findClass (FieldType.array t).toString with
  | none => simp [hc] at h
  | some comp =>
    simp only [hc, Option.bind_some, Option.bind_eq_some_iff, Option.map_eq_some_iff] at h
    obtain ⟨c, -, k, hk, hb⟩ := h
    cases hkind : k.kind with
    | array component ty =>
      rw [hkind] at hb
      simp at hb
      obtain ⟨rfl, hb⟩ := hb
      exact ⟨c, fun n z => ⟨fun k h => (by cases h), k, hk, component, hkind⟩, hb⟩
    | _ => rw [hkind] at hb; simp at hb
theorem ofNat_u (x : Int32) : Int32.ofNat x.toUInt32.toNat = x := by
  apply Int32.toBitVec_inj.mp
  apply BitVec.eq_of_toNat_eq
  simp [Int32.toBitVec_ofNat]
def stX (t0 t1 t2 t3 : Nat) (adK adV : Nat → Nat) (b L : Nat) (xs : Nat → Int32) : Nat → Nat := fun i => if i = 0 then t0 else if i = 1 then t1 else if i = 2 then t2 else if i = 3 then t3 else if i = 30 then b else if i = 31 then L else if 100 ≤ i then (xs (i - 100)).toUInt32.toNat else if 20 ≤ i then adV (i - 20) else adK (i - 10)
def stTm (i : Nat) : Term := if i = 0 then .string "NurseryHeap$Reader" 39 else .string "NurseryHeap$Reader" 67
theorem vk_S_congr {N : Nat} {len : List Nat} {byt : List (List Int32)} {k1 v1 k2 v2 : Nat → Nat} {A : Nat → Prop} {U : State} {H : Heap} (hk : ∀ i, i < N → k1 i = k2 i) (hv : ∀ i, i < N → v1 i = v2 i) (h : vk_S N len byt k2 v2 A U H) : vk_S N len byt k1 v1 A U H := by
  refine ⟨fun i hi => ?_, fun i j hi hj e => ?_⟩
  · rw [hk i hi, hv i hi]
    exact h.1 i hi
  · rw [hk i hi, hk j hj] at e
    exact h.2 i j hi hj e
set_option maxRecDepth 100000 in
set_option maxHeartbeats 4000000 in
theorem start_world {p : Program} {s : State} {m : MethodId} {meth : Method} {c : Code} {b L : Nat} {xs : Nat → Int32} (C0 : lw_At p s m meth c b L xs) : ∃ Ω : rO, oB Ω = s.heap.size ∧ oX Ω 30 = b ∧ oX Ω 31 = L ∧ (∀ j, Int32.ofNat (oX Ω (100 + j)) = xs j) ∧ va_K Ω.1 vwCl (oT Ω) s ∧ SF Ω s s.heap ∧ WW Ω s := by
  obtain ⟨hx, hb, hr, hml, hown, hts, hX, hbl, hlocks, hgv⟩ := id C0
  have hs := flat_of_before _ hgv
  have htt : ∀ w ∈ TT, w.before #[Value.ref b] s = true := fun w h => hts w (TT_tbl h)
  have hA : ∀ a : Nat, a < s.heap.size → ¬ (fun q : Nat => s.heap.size ≤ q) a := fun a h => Nat.not_le.mpr h
  obtain ⟨c0, i0, k0⟩ := u_known (n := 3) htt iw0 (hts _ (lwT 309 (by decide +kernel)))
  obtain ⟨c1, i1, k1⟩ := u_known (n := 12) htt iw1 (hts _ (lwT 264 (by decide +kernel)))
  obtain ⟨c2, i2, k2⟩ := u_known (n := 6) htt iw2 (hts _ (lwT 884 (by decide +kernel)))
  obtain ⟨c3, i3, k3⟩ := u_known (n := 8) htt iw3 (hts _ (lwT 230 (by decide +kernel)))
  obtain ⟨c4, i4, k4⟩ := u_known (n := 2) htt iw4 (hts _ (lwT 85 (by decide +kernel)))
  obtain ⟨c5, i5, k5⟩ := u_known (n := 3) htt iw5 (hts _ (lwT 211 (by decide +kernel)))
  obtain ⟨c6, i6, k6⟩ := u_known (n := 6) htt iw6 (hts _ (lwT 49 (by decide +kernel)))
  obtain ⟨c7, i7, k7⟩ := u_known (n := 19) htt iw7 (hts _ (lwT 79 (by decide +kernel)))
  obtain ⟨c8, i8, k8⟩ := u_known (n := 2) htt iw8 (hts _ (lwT 33 (by decide +kernel)))
  obtain ⟨c9, i9, k9⟩ := u_known (n := 16) htt iw9 (hts _ (lwT 25 (by decide +kernel)))
  obtain ⟨c10, i10, k10⟩ := u_known (n := 38) htt iw10 (hts _ (lwT 1170 (by decide +kernel)))
  obtain ⟨g0, a0⟩ := st_arr (ty := .int) (fun C h => by cases h) (hts _ (lwT 47 (by decide +kernel)))
  obtain ⟨g1, a1⟩ := st_arr (ty := .boolean) (fun C h => by cases h) (hts _ (lwT 1291 (by decide +kernel)))
  obtain ⟨g2, a2⟩ := st_arr (ty := .byte) (fun C h => by cases h) (hts _ (lwT 522 (by decide +kernel)))
  obtain ⟨g3, a3⟩ := st_arr (ty := .long) (fun C h => by cases h) (hts _ (lwT 1746 (by decide +kernel)))
  have hao := hts (.arrayOver (.object "NurseryHeap$State")) (lwT 217 (by decide +kernel))
  have hai := hts (.arrayOver (.array .int)) (lwT 77 (by decide +kernel))
  obtain ⟨g4, a4⟩ := st_over hao
  obtain ⟨g5, a5⟩ := st_overA hai
  have hrd := hts (.initialized "NurseryHeap$Reader") (lwT 3 (by decide +kernel))
  obtain ⟨t0, z0, T0⟩ := st_T (A := fun q : Nat => s.heap.size ≤ q) "NurseryHeap$Reader" "ITEM_LEAST" 4 (sItem 0) (by decide) (hts _ (lwT 497 (by decide +kernel))) hrd (hs _ (by decide +kernel)) (hs _ (by decide +kernel)) (fun j hj => by rcases (by omega : j = 0 ∨ j = 1 ∨ j = 2 ∨ j = 3) with rfl | rfl | rfl | rfl <;> exact hs _ (by decide +kernel)) hA
  obtain ⟨t1, z1, T1⟩ := st_T (A := fun q : Nat => s.heap.size ≤ q) "NurseryHeap$Reader" "ITEM_GREATEST" 4 (sItem 1) (by decide) (hts _ (lwT 499 (by decide +kernel))) hrd (hs _ (by decide +kernel)) (hs _ (by decide +kernel)) (fun j hj => by rcases (by omega : j = 0 ∨ j = 1 ∨ j = 2 ∨ j = 3) with rfl | rfl | rfl | rfl <;> exact hs _ (by decide +kernel)) hA
  obtain ⟨t2, z2, T2⟩ := st_T (A := fun q : Nat => s.heap.size ≤ q) "NurseryHeap$Reader" "ITEM_USUAL" 4 (sItem 2) (by decide) (hts _ (lwT 399 (by decide +kernel))) hrd (hs _ (by decide +kernel)) (hs _ (by decide +kernel)) (fun j hj => by rcases (by omega : j = 0 ∨ j = 1 ∨ j = 2 ∨ j = 3) with rfl | rfl | rfl | rfl <;> exact hs _ (by decide +kernel)) hA
  obtain ⟨t3, z3, T3⟩ := st_T (A := fun q : Nat => s.heap.size ≤ q) "NurseryHeap$Reader" "STEP_NUMBERS" 7 (sItem 3) (by decide) (hts _ (lwT 517 (by decide +kernel))) hrd (hs _ (by decide +kernel)) (hs _ (by decide +kernel)) (fun j hj => by rcases (by omega : j = 0 ∨ j = 1 ∨ j = 2 ∨ j = 3 ∨ j = 4 ∨ j = 5 ∨ j = 6) with rfl | rfl | rfl | rfl | rfl | rfl | rfl <;> exact hs _ (by decide +kernel)) hA
  have zc := va_Zof (A := fun q : Nat => s.heap.size ≤ q) (hts _ (lwT 425 (by decide +kernel))) (hts (.initialized "java/lang/String") (lwT 14 (by decide +kernel))) (va_eqi (C := "java/lang/String") (n := "COMPACT_STRINGS") (d := "Z") (z := 1) (hs _ (by decide +kernel))) hA
  have zs := va_Zqof (A := fun q : Nat => s.heap.size ≤ q) (C := "jdk/internal/util/Preconditions") (n := "SIOOBE_FORMATTER") (d := "Ljava/util/function/BiFunction;") (hts _ (lwT 466 (by decide +kernel))) (hts _ (lwT 17 (by decide +kernel))) (hs _ (by decide +kernel)) hA
  have zu := vx_Zqof (A := fun q : Nat => s.heap.size ≤ q) (C := Bundle.tN) (n := "UNASSIGNED_STACK") (d := Bundle.steD) (hts _ (lwT 1125 (by decide +kernel))) (hts _ (lwT 19 (by decide +kernel))) (hs _ (by decide +kernel)) hA
  have zn := vx_Zqof (A := fun q : Nat => s.heap.size ≤ q) (C := Bundle.tN) (n := "SUPPRESSED_SENTINEL") (d := Bundle.listD) (hts _ (lwT 1127 (by decide +kernel))) (hts _ (lwT 19 (by decide +kernel))) (hs _ (by decide +kernel)) hA
  obtain ⟨adK, adV, hSt, hev⟩ := vk_Sof (args := #[Value.ref b]) (s := s) (N := 2) (tm := stTm) (len := [4, 7]) (byt := [[101, 115, 111, 97], [110, 119, 108, 120, 109, 106, 101]]) (A := fun q : Nat => s.heap.size ≤ q)
    (fun i hi => by rcases (by omega : i = 0 ∨ i = 1) with rfl | rfl <;> decide)
    (fun i hi => by rcases (by omega : i = 0 ∨ i = 1) with rfl | rfl <;> exact hs _ (by decide +kernel))
    (fun i hi => by rcases (by omega : i = 0 ∨ i = 1) with rfl | rfl <;> exact hs _ (by decide +kernel))
    (fun i hi => by rcases (by omega : i = 0 ∨ i = 1) with rfl | rfl <;> exact hs _ (by decide +kernel))
    (fun i hi => by rcases (by omega : i = 0 ∨ i = 1) with rfl | rfl <;> exact hs _ (by decide +kernel))
    (fun i hi => by
      rcases (by omega : i = 0 ∨ i = 1) with rfl | rfl
      · intro j hj
        have hj : j < 4 := hj
        rcases (by omega : j = 0 ∨ j = 1 ∨ j = 2 ∨ j = 3) with rfl | rfl | rfl | rfl <;> exact hs _ (by decide +kernel)
      · intro j hj
        have hj : j < 7 := hj
        rcases (by omega : j = 0 ∨ j = 1 ∨ j = 2 ∨ j = 3 ∨ j = 4 ∨ j = 5 ∨ j = 6) with rfl | rfl | rfl | rfl | rfl | rfl | rfl <;> exact hs _ (by decide +kernel))
    (fun i j hi hj hij => by
      rcases (by omega : i = 0 ∧ j = 1 ∨ i = 1 ∧ j = 0) with ⟨rfl, rfl⟩ | ⟨rfl, rfl⟩
      · exact Or.inl (hs _ (by decide +kernel))
      · exact Or.inr (hs _ (by decide +kernel))) hA
  have e0 : (Term.string "NurseryHeap$Reader" 39).eval #[Value.ref b] s none [] s = some (.ref (adK 0)) := hev 0 (by decide)
  have e1 : (Term.string "NurseryHeap$Reader" 67).eval #[Value.ref b] s none [] s = some (.ref (adK 1)) := hev 1 (by decide)
  have e2 : (Term.string "NurseryHeapModel" 119).eval #[Value.ref b] s none [] s = some (.ref (adK 0)) := va_eqR (t := .string "NurseryHeap$Reader" 39) (hs _ (by decide +kernel)) e0
  have e3 : (Term.string "NurseryHeapModel" 138).eval #[Value.ref b] s none [] s = some (.ref (adK 1)) := va_eqR (t := .string "NurseryHeap$Reader" 67) (hs _ (by decide +kernel)) e1
  refine ⟨((fun k => [c0, c1, c2, c3, c4, c5, c6, c7, c8, c9, c10].getD k 0, fun k => [i0, i1, i2, i3, i4, i5, i6, i7, i8, i9, i10].getD k (fun _ => 0)), fun k => [g0, g1, g2, g3, g4, g5].getD k 0, fun _ _ => 0, fun _ _ => False, s.heap.size, stX t0 t1 t2 t3 adK adV b L xs), rfl, rfl, rfl, fun j => ?_, ⟨?_, ?_⟩, ⟨⟨z0, T0⟩, ⟨z1, T1⟩, ⟨z2, T2⟩, ⟨z3, T3⟩, zc, vk_S_congr (fun i hi => ?_) (fun i hi => ?_) hSt, zs, hao, hai, zu, zn, ?_, ?_⟩, fun w hw => va_Nw.of (nwds_tab hw) (hts w (nwds_tbl hw)), ?_, ?_, ?_, ?_⟩
  · show Int32.ofNat (stX t0 t1 t2 t3 adK adV b L xs (100 + j)) = xs j
    unfold stX
    rw [if_neg (by omega), if_neg (by omega), if_neg (by omega), if_neg (by omega), if_neg (by omega), if_neg (by omega), if_pos (by omega), ofNat_u, Nat.add_sub_cancel_left]
  · intro k q hq
    match k, hq with
    | 0, hq => cases hq; exact k0
    | 1, hq => cases hq; exact k1
    | 2, hq => cases hq; exact k2
    | 3, hq => cases hq; exact k3
    | 4, hq => cases hq; exact k4
    | 5, hq => cases hq; exact k5
    | 6, hq => cases hq; exact k6
    | 7, hq => cases hq; exact k7
    | 8, hq => cases hq; exact k8
    | 9, hq => cases hq; exact k9
    | 10, hq => cases hq; exact k10
    | k + 11, hq => simp [vwCl] at hq
  · intro k q hq
    match k, hq with
    | 0, hq => cases hq; exact a0
    | 1, hq => cases hq; exact a1
    | 2, hq => cases hq; exact a2
    | 3, hq => cases hq; exact a3
    | 4, hq => cases hq; exact a4
    | 5, hq => cases hq; exact a5
    | k + 6, hq => simp [oT] at hq
  · rcases (by omega : i = 0 ∨ i = 1) with rfl | rfl <;> rfl
  · rcases (by omega : i = 0 ∨ i = 1) with rfl | rfl <;> rfl
  · have e : (fun j => Int32.ofNat (stX t0 t1 t2 t3 adK adV b L xs (100 + j))) = xs := by
      funext j
      unfold stX
      rw [if_neg (by omega), if_neg (by omega), if_neg (by omega), if_neg (by omega), if_neg (by omega), if_neg (by omega), if_pos (by omega), ofNat_u, Nat.add_sub_cancel_left]
    show va_X b L (fun j => Int32.ofNat (stX t0 t1 t2 t3 adK adV b L xs (100 + j))) s s.heap
    rw [e]
    exact hX
  · exact Nat.not_le.mpr hbl
  · exact vk_R.of (hts _ (lwT 411 (by decide +kernel))) e0
  · exact vk_R.of (hts _ (lwT 515 (by decide +kernel))) e1
  · exact vk_R.of (hts _ (lwT 1334 (by decide +kernel))) e2
  · exact vk_R.of (hts _ (lwT 1385 (by decide +kernel))) e3
