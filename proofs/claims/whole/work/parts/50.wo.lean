section LM
variable {p : Program} {l : Launch} {e : Env} {s : State} {m : MethodId} {args : Array Value} {below : List Frame} {meth : Method} {c0 : Code} {H : Heap} {locs : List Loc} {ls : Array Slot} {QQ : State → Prop}
variable {Ω : rO} {cc : ByteArray} {own : String} {nL : Nat} {rm : Room} {kc ks pc : Nat} {st : List Value}
variable {C : String} {T : u_T} {N ci ic im : Nat} {ty : Nat → FieldType} {y : MethodName} {cc2 : ByteArray} {nL2 : Nat} {rm2 : Room} {mc ms : Nat} {fs : List Value} {out : (Nat → Nat) → va_W}
set_option maxRecDepth 100000 in
set_option maxHeartbeats 4000000 in
theorem L_make (hx : p.tables.exec = Jvm.exec) (hb : c0.code = cc) (hml : c0.maxLocals = nL) (hown : s.vm.findClass own = some m.cls) (hts : ∀ w ∈ TT, w.before args s = true) (hK : va_K Ω.1 vwCl (oT Ω) s) (hSF : SF Ω s s.heap) (hWW : WW Ω s) (hoB : oB Ω = s.heap.size)
    (hci : vwCl[ci]? = some (C, T, N)) (hin : ∀ w ∈ u_ws C T N, w ∈ TT) (hty : ∀ k, k < N → parseFieldDescriptor (T k).2.2.1 = some (ty k)) (hfs : ∀ j, j < N → defaultValue (ty j) = vp_V fs j) (hcl : Cond.classLink own ic C ∈ TT) (hinst : Cond.instantiable C N ∈ TT) (hini : Cond.initialized C ∈ TT)
    (hC : ∀ h0 sz, CtC l Ω y cc2 nL2 rm2 h0 sz ci fs [] mc ms out) (ho : Cok y cc2 nL2 none 0) (hyn : y.name = "<init>") (him : Cond.instanceMethod y ∈ TT) (hm : Cond.methodLink own im y ∈ TT) (hd1 : decode cc pc = .ok (.new ic, 3)) (hd2 : decode cc (pc + 3) = .ok (.dup, 1)) (hd3 : decode cc (pc + 4) = .ok (.invokespecial im, 3)) (hw : (st.map fun v => v.category).sum + 1 ≤ 8)
    (hrc : rm2.cells = mc) (hrs : rm2.slots = ms) (hR : rm2.frames + 1 ≤ rm.frames ∧ 8 + (nL2 + 11) + rm2.locals ≤ rm.locals) (hc : kc + 1 + mc ≤ rm.cells) (hs : ks + N + ms ≤ rm.slots) (hS : va_S (fun q : Nat => s.heap.size ≤ q) s.heap H locs) (hl : ls.size = nL)
    (kk : ∀ (a : Nat → Nat) (H' : Heap) (locs' : List Loc), va_P Ω.1 vwCl (out a) H' → va_D (fun q : Nat => H.size ≤ q) (out a) → H.size ≤ H'.size → (∀ q : Nat, q < H.size → H'[q]? = H[q]?) → va_S (fun q : Nat => s.heap.size ≤ q) s.heap H' locs' → W p l e rm s m args below meth c0 H' locs' (kc + 1 + mc) (ks + N + ms) QQ (F0 m (pc + 7) ls (.ref (a 0) :: st))) : W p l e rm s m args below meth c0 H locs kc ks QQ (F0 m pc ls st) := by
  have hKn := hK.1 ci _ hci
  refine W.newcK hx hb hown (hts _ hcl) (hts _ hinst) (hts _ hini) rfl hd1 (by omega) (by omega) hKn.2.1 rfl fun H1 kC hkC e1 z1 o1 => ?_
  have hat : va_at Ω.1 vwCl (H.size, .inr (ci, fs)) H1 := ⟨_, hci, (u_born ty hts hin hKn hkC e1 hty).to hfs⟩
  refine lv_dup hx hb hd2 rfl ?_
  intro T0 hT X
  obtain ⟨v, st₀, t, T', L, e0, X', hL, f1, f2, ⟨⟨hv, a, ha, hPo, hDo⟩, hz, hq⟩, sg⟩ := (va_runI (As := []) (n := 0) (b := H.size) (rest := .ref H.size :: st) (Ts := TT) (own := own) (index := im) (bytes := cc2) (maxL := nL2) (mc := mc) (ms := ms) (nL := nL) ⟨hx, hb, hml, hown, hts⟩ (hC H.size H1.size) ⟨callB_of 0 hts (tbl_good ho.1) rfl hrc hrs (hts _ ho.2.1) (hts _ hm) ho.2.2 hR, hyn, hts _ him⟩ ⟨fun a U g mk z => by
    obtain ⟨z1, z2, z3, z4, z5⟩ := z
    exact ⟨z1, z2, z3, z4, z5.blind g mk a⟩, fun U hU hW => ⟨rfl, by rw [hU], fun k q hk => by
      rw [hU]
      have h1 : k < 1 := (List.getElem?_eq_some_iff.mp hk).1
      rw [show k = 0 by omega] at hk
      cases hk
      exact hat, by rw [hoB]; exact hS.1, va_K.moved hW.alike hK, by rw [hU, z1, hoB]; have := hS.1; omega, by
      rw [hU]
      refine SF.moved hW.alike (hSF.kept (fun a h1 h2 => ?_))
      rw [o1 a (Nat.lt_of_lt_of_le h1 hS.1)]
      exact hS.2.1 a h1 (fun z => h2 (by show oB Ω ≤ a; rw [hoB]; exact z)), WW.warm hW hWW⟩⟩ rfl rfl hl rfl (lv_room (by rw [List.map_cons, List.sum_cons]; show 1 + _ ≤ 8; omega)) hd3 ⟨by omega, by omega⟩) T0 hT X
  cases hv
  rw [e0] at hz hq
  have hsub : ∀ z, cN H.size H1.size z → H.size ≤ z := fun z hz => by
    rcases hz with hz | hz <;> omega
  have kk2 := kk a T'.heap (locs ++ L) (by rw [f1]; exact hPo) (hDo.weaken (fun _ z _ h => hsub z.1 h)) (by rw [f1]; omega) (fun q hq1 => by rw [f1, hq q (by omega) (fun z => by have := hsub q z; omega)]; exact o1 q hq1)
    ⟨by rw [f1]; have := hS.1; omega, fun q h1 h2 => by
      rw [f1, hq q (by have := hS.1; omega) (fun z => h2 (Nat.le_trans hS.1 (hsub q z))), o1 q (Nat.lt_of_lt_of_le h1 hS.1)]
      exact hS.2.1 q h1 h2, fun q hq => by
      rcases List.mem_append.mp hq with h | h
      · exact hS.2.2 q h
      · exact Nat.le_trans hS.1 (hsub _ (hL q h))⟩
  rw [ha] at kk2
  obtain ⟨t2, a1, b1⟩ := kk2 T' rfl X'
  exact ⟨t2, sg _ a1, b1⟩
end LM
set_option maxRecDepth 100000 in
set_option maxHeartbeats 4000000 in
theorem oc9_map (Ω : rO) (a : Nat → Nat) : (oc9 Ω a).map (fun q => q.1) = [a 0, a 1, a 2, a 3, a 4, a 5, a 6, a 6 + 1, a 6 + 2, a 6 + 3, a 6 + 4, a 7, a 8, a 9, a 10, a 11, a 12, a 13, a 14, a 15, a 16, a 17, a 18, a 19, a 20, a 21, a 22, a 23, a 24, a 25, a 26, a 27, a 28, a 29, a 30, a 31, a 32, a 33, a 34, a 35, a 36, a 37, a 38, a 39, a 40, a 41, a 42, a 43, a 44, a 45, a 46, a 47, a 48, a 49, a 50, a 51, a 52, a 53, a 54, a 55, a 56, a 57, a 58, a 59, a 60, a 61, a 62, a 63, a 64, a 65, a 66, a 67, a 68, a 69, a 70, a 71, a 72, a 73, a 74, a 75, a 76, a 77, a 78, a 79, a 80, a 81, a 82, a 83, a 84, a 85, a 86, a 87, a 88, a 89, a 90, a 91, a 92, a 93, a 94, a 95, a 96, a 97, a 98, a 99, a 100, a 101, a 102, a 103, a 104, a 105, a 106, a 107, a 108, a 109, a 110, a 111, a 112, a 113, a 114, a 115, a 116, a 117, a 118, a 119, a 120, a 121, a 122, a 123, a 124, a 125] := by
  simp only [oc9, oc8, oc6, oc7, oc5, oc3, oc1, oc0, oc4, List.nil_append, List.cons_append, List.map_cons, List.map_nil, Nat.reduceAdd, Nat.add_zero]
set_option maxRecDepth 100000 in
set_option maxHeartbeats 4000000 in
theorem oc10_map (Ω : rO) (a : Nat → Nat) : (oc10 Ω a).map (fun q => q.1) = [a 0, a 1, a 2, a 3, a 4, a 5, a 6, a 7, a 8, a 9, a 10, a 11, a 12, a 13, a 14, a 15, a 16, a 17, a 18, a 19, a 20] := by
  simp only [oc10, List.nil_append, List.cons_append, List.map_cons, List.map_nil]
theorem map_at {ws : va_W} {L : List Nat} (h : ws.map (fun q => q.1) = L) {i : Nat} (hi : i < L.length) : ∃ x, ws[i]? = some x ∧ x.1 = L.getD i 0 := by
  subst h
  have hi2 : i < ws.length := by simpa using hi
  refine ⟨ws[i], List.getElem?_eq_getElem hi2, ?_⟩
  rw [List.getD_eq_getElem?_getD, List.getElem?_map, List.getElem?_eq_getElem hi2]
  rfl
theorem lT_kids : ∀ q ∈ lT, ∀ r ∈ kids q.1 q.2, r ∈ lT := by decide +kernel
theorem lT_ok : ∀ q ∈ lT, (q.1 < 11 ∨ 20 ≤ q.1) ∧ (q.1 = 29 → q.2 = 0) ∧ (q.1 = 7 → q.2 < 4) ∧ (45 ≤ q.1 ∧ q.1 < 56 → q.2 < 4) ∧ (q.1 = 4 → q.2 < 24) ∧ (q.1 = 28 → q.2 < 24) := by decide +kernel
theorem lAd_lo (a b : Nat → Nat) (q i : Nat) (hi : i < 130) : lAd a b q i = ([a 0, a 1, a 2, a 3, a 4, a 5, a 6, a 6 + 1, a 6 + 2, a 6 + 3, a 6 + 4, a 7, a 8, a 9, a 10, a 11, a 12, a 13, a 14, a 15, a 16, a 17, a 18, a 19, a 20, a 21, a 22, a 23, a 24, a 25, a 26, a 27, a 28, a 29, a 30, a 31, a 32, a 33, a 34, a 35, a 36, a 37, a 38, a 39, a 40, a 41, a 42, a 43, a 44, a 45, a 46, a 47, a 48, a 49, a 50, a 51, a 52, a 53, a 54, a 55, a 56, a 57, a 58, a 59, a 60, a 61, a 62, a 63, a 64, a 65, a 66, a 67, a 68, a 69, a 70, a 71, a 72, a 73, a 74, a 75, a 76, a 77, a 78, a 79, a 80, a 81, a 82, a 83, a 84, a 85, a 86, a 87, a 88, a 89, a 90, a 91, a 92, a 93, a 94, a 95, a 96, a 97, a 98, a 99, a 100, a 101, a 102, a 103, a 104, a 105, a 106, a 107, a 108, a 109, a 110, a 111, a 112, a 113, a 114, a 115, a 116, a 117, a 118, a 119, a 120, a 121, a 122, a 123, a 124, a 125] : List Nat).getD i 0 := by
  have e : lAd a b q i = (([a 0, a 1, a 2, a 3, a 4, a 5, a 6, a 6 + 1, a 6 + 2, a 6 + 3, a 6 + 4, a 7, a 8, a 9, a 10, a 11, a 12, a 13, a 14, a 15, a 16, a 17, a 18, a 19, a 20, a 21, a 22, a 23, a 24, a 25, a 26, a 27, a 28, a 29, a 30, a 31, a 32, a 33, a 34, a 35, a 36, a 37, a 38, a 39, a 40, a 41, a 42, a 43, a 44, a 45, a 46, a 47, a 48, a 49, a 50, a 51, a 52, a 53, a 54, a 55, a 56, a 57, a 58, a 59, a 60, a 61, a 62, a 63, a 64, a 65, a 66, a 67, a 68, a 69, a 70, a 71, a 72, a 73, a 74, a 75, a 76, a 77, a 78, a 79, a 80, a 81, a 82, a 83, a 84, a 85, a 86, a 87, a 88, a 89, a 90, a 91, a 92, a 93, a 94, a 95, a 96, a 97, a 98, a 99, a 100, a 101, a 102, a 103, a 104, a 105, a 106, a 107, a 108, a 109, a 110, a 111, a 112, a 113, a 114, a 115, a 116, a 117, a 118, a 119, a 120, a 121, a 122, a 123, a 124, a 125] : List Nat) ++ [b 0, b 1, b 2, b 3, b 4, b 5, b 6, b 7, b 8, b 9, b 10, b 11, b 12, b 13, b 14, b 15, b 16, b 17, b 18, b 19, b 20, q]).getD i 0 := rfl
  rw [e, List.getD_eq_getElem?_getD, List.getElem?_append_left (by exact hi), List.getD_eq_getElem?_getD]
theorem lAd_mid (a b : Nat → Nat) (q i : Nat) (h1 : 130 ≤ i) (h2 : i < 151) : lAd a b q i = ([b 0, b 1, b 2, b 3, b 4, b 5, b 6, b 7, b 8, b 9, b 10, b 11, b 12, b 13, b 14, b 15, b 16, b 17, b 18, b 19, b 20] : List Nat).getD (i - 130) 0 := by
  have e : lAd a b q i = (([a 0, a 1, a 2, a 3, a 4, a 5, a 6, a 6 + 1, a 6 + 2, a 6 + 3, a 6 + 4, a 7, a 8, a 9, a 10, a 11, a 12, a 13, a 14, a 15, a 16, a 17, a 18, a 19, a 20, a 21, a 22, a 23, a 24, a 25, a 26, a 27, a 28, a 29, a 30, a 31, a 32, a 33, a 34, a 35, a 36, a 37, a 38, a 39, a 40, a 41, a 42, a 43, a 44, a 45, a 46, a 47, a 48, a 49, a 50, a 51, a 52, a 53, a 54, a 55, a 56, a 57, a 58, a 59, a 60, a 61, a 62, a 63, a 64, a 65, a 66, a 67, a 68, a 69, a 70, a 71, a 72, a 73, a 74, a 75, a 76, a 77, a 78, a 79, a 80, a 81, a 82, a 83, a 84, a 85, a 86, a 87, a 88, a 89, a 90, a 91, a 92, a 93, a 94, a 95, a 96, a 97, a 98, a 99, a 100, a 101, a 102, a 103, a 104, a 105, a 106, a 107, a 108, a 109, a 110, a 111, a 112, a 113, a 114, a 115, a 116, a 117, a 118, a 119, a 120, a 121, a 122, a 123, a 124, a 125] : List Nat) ++ ([b 0, b 1, b 2, b 3, b 4, b 5, b 6, b 7, b 8, b 9, b 10, b 11, b 12, b 13, b 14, b 15, b 16, b 17, b 18, b 19, b 20] ++ [q])).getD i 0 := rfl
  rw [e, List.getD_eq_getElem?_getD, List.getElem?_append_right (by exact h1), List.getElem?_append_left (by show i - 130 < 21; omega), List.getD_eq_getElem?_getD]
  rfl
theorem lAd_hi (a b : Nat → Nat) (q : Nat) : lAd a b q 151 = q := rfl
set_option maxRecDepth 100000 in
theorem wo_start {Ω : rO} {a b : Nat → Nat} {q h0 h1 : Nat} (hB : oB Ω ≤ h0) (hh : h0 ≤ h1) (hq : h1 ≤ q) (d9 : va_D (fun z : Nat => h0 ≤ z) (oc9 Ω a)) (l9 : ∀ (i : Nat) (x : Nat × va_E), (oc9 Ω a)[i]? = some x → x.1 < h1) (d10 : va_D (fun z : Nat => h1 ≤ z) (oc10 Ω b)) (l10 : ∀ (i : Nat) (x : Nat × va_E), (oc10 Ω b)[i]? = some x → x.1 < q) : WO (startO Ω a b q) (sg0 29 0) := by
  have f9 : ∀ i, i < 130 → ∃ x, (oc9 Ω a)[i]? = some x ∧ x.1 = lAd a b q i := fun i hi => by
    obtain ⟨x, e1, e2⟩ := map_at (oc9_map Ω a) (i := i) hi
    exact ⟨x, e1, by rw [lAd_lo a b q i hi]; exact e2⟩
  have f10 : ∀ i, 130 ≤ i → i < 151 → ∃ x, (oc10 Ω b)[i - 130]? = some x ∧ x.1 = lAd a b q i := fun i h1 h2 => by
    obtain ⟨x, e1, e2⟩ := map_at (oc10_map Ω b) (i := i - 130) (by show i - 130 < 21; omega)
    exact ⟨x, e1, by rw [lAd_mid a b q i h1 h2]; exact e2⟩
  have r9 : ∀ i, i < 130 → h0 ≤ lAd a b q i ∧ lAd a b q i < h1 := fun i hi => by
    obtain ⟨x, e1, e2⟩ := f9 i hi
    rw [← e2]
    exact ⟨d9.2 i x e1, l9 i x e1⟩
  have r10 : ∀ i, 130 ≤ i → i < 151 → h1 ≤ lAd a b q i ∧ lAd a b q i < q := fun i g1 g2 => by
    obtain ⟨x, e1, e2⟩ := f10 i g1 g2
    rw [← e2]
    exact ⟨d10.2 _ x e1, l10 _ x e1⟩
  have inj : ∀ i j, i < 152 → j < 152 → lAd a b q i = lAd a b q j → i = j := by
    intro i j hi hj e
    rcases (by omega : i < 130 ∨ (130 ≤ i ∧ i < 151) ∨ i = 151) with g | g | rfl <;> rcases (by omega : j < 130 ∨ (130 ≤ j ∧ j < 151) ∨ j = 151) with k | k | rfl
    · obtain ⟨x, e1, e2⟩ := f9 i g
      obtain ⟨y, e3, e4⟩ := f9 j k
      exact d9.1 i j x y e1 e3 (by rw [e2, e4, e])
    · have := r9 i g; have := r10 j k.1 k.2; omega
    · have := r9 i g; rw [lAd_hi] at e; omega
    · have := r9 j k; have := r10 i g.1 g.2; omega
    · obtain ⟨x, e1, e2⟩ := f10 i g.1 g.2
      obtain ⟨y, e3, e4⟩ := f10 j k.1 k.2
      have := d10.1 _ _ x y e1 e3 (by rw [e2, e4, e])
      omega
    · have := r10 i g.1 g.2; rw [lAd_hi] at e; omega
    · have := r9 j k; rw [lAd_hi] at e; omega
    · have := r10 j k.1 k.2; rw [lAd_hi] at e; omega
    · rfl
  have hlen : lT.length = 152 := by decide +kernel
  have ixl : ∀ c k, (c, k) ∈ lT → lT.idxOf (c, k) < 152 := fun c k h => by
    rw [← hlen]
    exact List.idxOf_lt_length_of_mem h
  have oA0 : ∀ c k, (c, k) ∈ lT → oA (startO Ω a b q) c k = lAd a b q (lT.idxOf (c, k)) := fun c k h => by
    have h9 : ¬ c = 99 := fun e => by
      subst e
      have := (lT_ok _ h).1
      have h2 : ∀ z ∈ lT, z.1 ≠ 99 := by decide +kernel
      exact h2 _ h rfl
    show (if c = 99 then 0 else lAd a b q (lT.idxOf (c, k))) = _
    rw [if_neg h9]
  refine ⟨⟨fun c k c' k' h1 h2 e => ?_, fun c k h1 => ?_, fun c k h1 z hz => lT_kids (c, k) h1 z hz⟩, fun c k h => ⟨(lT_ok (c, k) h).1, (lT_ok (c, k) h).2.1⟩, fun i hi => absurd rfl hi, fun i hi h0 c k' h => ?_, Nat.zero_le _⟩
  · rw [oA0 c k h1, oA0 c' k' h2] at e
    have e := inj _ _ (ixl c k h1) (ixl c' k' h2) e
    have e1 := List.getElem_idxOf (List.idxOf_lt_length_of_mem h1)
    have e2 := List.getElem_idxOf (List.idxOf_lt_length_of_mem h2)
    have : (c, k) = (c', k') := by
      rw [← e1, ← e2]
      congr 1
    exact ⟨congrArg Prod.fst this, congrArg Prod.snd this⟩
  · rw [oA0 c k h1]
    show oB Ω ≤ _
    have hi := ixl c k h1
    rcases (by omega : lT.idxOf (c, k) < 130 ∨ (130 ≤ lT.idxOf (c, k) ∧ lT.idxOf (c, k) < 151) ∨ lT.idxOf (c, k) = 151) with g | g | g
    · have := r9 _ g; omega
    · have := r10 _ g.1 g.2; omega
    · rw [g, lAd_hi]; omega
  · have hk := lT_ok (c, k') h
    unfold sIx
    by_cases g7 : c = 7
    · rw [if_pos g7, if_neg (by have := hk.2.2.1 g7; dsimp only at this; omega)]
    · rw [if_neg g7]
      by_cases g45 : 45 ≤ c ∧ c < 56
      · rw [if_pos g45, if_neg (by have := hk.2.2.2.1 g45; dsimp only at this; omega)]
      · rw [if_neg g45]
        by_cases g4 : c = 4
        · rw [if_pos g4, if_neg (by have := hk.2.2.2.2.1 g4; dsimp only at this; omega)]
        · rw [if_neg g4]
          by_cases g28 : c = 28
          · rw [if_pos g28, if_neg (by have := hk.2.2.2.2.2 g28; dsimp only at this; omega)]
          · rw [if_neg g28]
