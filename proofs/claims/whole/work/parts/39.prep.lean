/-! Past.prepare -/
theorem mw_599 : Cond.methodLink RX5 21 yX7_init ∈ TT := TT_mem (List.mem_append_right _ (List.mem_of_getElem? (i := 599) (by decide +kernel))) rfl
theorem sIx_apart {k k2 c k' i : Nat} (hk : k ≠ k2) (h : sIx k c k' = some i) : sIx k2 c k' = none := by
  cases h2 : sIx k2 c k' with
  | none => rfl
  | some j =>
    exfalso
    rcases sIx_cases h with h | ⟨j1, h⟩ | ⟨j1, h⟩ | ⟨j1, h⟩ <;> rcases sIx_cases h2 with h2 | ⟨j2, h2⟩ | ⟨j2, h2⟩ | ⟨j2, h2⟩ <;> omega
set_option maxRecDepth 100000 in
theorem oc7_at (Ω : rO) (a : Nat → Nat) : ∀ i, i < 24 → ∃ e, (oc7 Ω a)[i]? = some (a i, e) := by
  rw [oc7_flat]
  intro i hi
  rcases (by omega : i = 0 ∨ i = 1 ∨ i = 2 ∨ i = 3 ∨ i = 4 ∨ i = 5 ∨ i = 6 ∨ i = 7 ∨ i = 8 ∨ i = 9 ∨ i = 10 ∨ i = 11 ∨ i = 12 ∨ i = 13 ∨ i = 14 ∨ i = 15 ∨ i = 16 ∨ i = 17 ∨ i = 18 ∨ i = 19 ∨ i = 20 ∨ i = 21 ∨ i = 22 ∨ i = 23) with rfl | rfl | rfl | rfl | rfl | rfl | rfl | rfl | rfl | rfl | rfl | rfl | rfl | rfl | rfl | rfl | rfl | rfl | rfl | rfl | rfl | rfl | rfl | rfl <;> exact ⟨_, rfl⟩
theorem addS_ext {Ω : rO} {k : Nat} {a : Nat → Nat} (hnl : ∀ c k', oL Ω c k' → sIx k c k' = none) : ExtN Ω (addS Ω k a) := by
  refine ⟨⟨rfl, rfl, rfl, rfl, fun c k' hL => ⟨Or.inl hL, oA_none (hnl c k' hL)⟩⟩, oA_none (k := k) (c := 99) (k' := 0) (by simp [sIx]), fun h => ?_⟩
  rcases h with h | h
  · exact h
  · exact absurd h (by simp [sIx])
theorem addS_WO {Ω : rO} {fl : Nat → Int32} {i : Nat} {a : Nat → Nat} (hO : WO Ω fl) (hW : WF (addS Ω (4 + i) a)) (hnl : ∀ c k', oL Ω c k' → sIx (4 + i) c k' = none) : WO (addS Ω (4 + i) a) (upd fl i 1) := by
  refine ⟨hW, ?_, ?_, ?_, ?_⟩
  · intro c k' hL
    rcases hL with h | h
    · exact hO.2.1 c k' h
    · obtain ⟨j, hj⟩ := Option.isSome_iff_exists.mp h
      rcases sIx_cases hj with h | ⟨j1, h⟩ | ⟨j1, h⟩ | ⟨j1, h⟩ <;> exact ⟨by omega, by omega⟩
  · intro j hj
    by_cases e : j = i
    · subst e
      refine Or.inr ?_
      rw [sIx_7]
      rfl
    · have : upd fl i 1 j = fl j := if_neg e
      rw [this] at hj
      exact Or.inl (hO.2.2.1 j hj)
  · intro j hj h0 c k' hL
    by_cases e : j = i
    · subst e
      have : upd fl j 1 j = 1 := if_pos rfl
      rw [this] at h0
      exact absurd h0 (by decide)
    · have : upd fl i 1 j = fl j := if_neg e
      rw [this] at h0
      rcases hL with h | h
      · exact hO.2.2.2.1 j hj h0 c k' h
      · obtain ⟨q, hq⟩ := Option.isSome_iff_exists.mp h
        exact sIx_apart (by omega) hq
  · have := (addS_ext (a := a) hnl).2.1
    rw [this]
    exact hO.2.2.2.2
section RA2
variable {l : Launch} {Ω : rO} {cc : ByteArray} {own : String} {nL : Nat} {ret : Option FieldType} {rm : Room} {Q : List Frame → Array Value → State → State → Prop} {kc ks : Nat} {pc : Nat} {lv : List (Option Value)} {st : List Value} {σ : rS}
set_option maxRecDepth 100000 in
set_option maxHeartbeats 4000000 in
theorem A_newS {i : Nat} {ic im : Nat} (hO : WO Ω (σ 29 0)) (hi : i < 41) (h0 : σ 29 0 i = 0) (hcl : Cond.classLink own ic RX7 ∈ TT) (hm : Cond.methodLink own im yX7_init ∈ TT) (hd1 : decode cc pc = .ok (.new ic, 3)) (hd2 : decode cc (pc + 3) = .ok (.dup, 1)) (hd3 : decode cc (pc + 4) = .ok (.invokespecial im, 3)) (hw : (st.map fun v => v.category).sum + 1 ≤ 8)
    (hc : kc + 24 ≤ rm.cells) (hs : ks + 1310 ≤ rm.slots) (hR : rmK7.frames + 1 ≤ rm.frames ∧ 8 + (1 + 11) + rmK7.locals ≤ rm.locals)
    (kk : ∀ a : Nat → Nat, ExtN Ω (addS Ω (4 + i) a) → WO (addS Ω (4 + i) a) (upd (σ 29 0) i 1) → RunG l (addS Ω (4 + i) a) cc own nL ret rm Q (kc + 24) (ks + 1310) (pc + 7) lv (rf (addS Ω (4 + i) a) 7 (4 + i) :: st) (newS σ (4 + i))) : RunG l Ω cc own nL ret rm Q kc ks pc lv st σ := fun p e s m args below meth c0 B H locs ls hP hS hl => by
  have hts := B.2.2.2.2.2.1
  have hK := B.2.2.2.2.2.2.2.1
  have hKn := hK.1 7 (RX7, TX7, 19) rfl
  have hnl := hO.2.2.2.1 i hi h0
  have hbs : oB Ω ≤ s.heap.size := B.2.2.2.2.2.2.2.2.1
  have hbH : oB Ω ≤ H.size := Nat.le_trans hbs hS.1
  refine W.newcK B.1 B.2.1 B.2.2.2.2.1 (hts _ hcl) (hts _ mw_79) (hts _ mw_4) rfl hd1 (by omega) (by omega) hKn.2.1 rfl fun H1 kC hkC e1 z1 o1 => ?_
  have hat : va_at Ω.1 vwCl (H.size, .inr (7, [.int 0, .int 0, .null, .null, .null, .null, .null, .null, .null, .null, .null, .null, .null, .null, .null, .null, .null, .null, .null])) H1 := ⟨_, rfl, (u_born tyX7 hts iw7 hKn hkC e1 tyX7_ok).to (by decide)⟩
  refine lv_dup B.1 B.2.1 hd2 rfl ?_
  intro T hT X
  obtain ⟨v, st₀, t, T', L, e0, X', hL, f1, f2, ⟨⟨hv, a, ha, hPo, hDo⟩, hz, hq⟩, sg⟩ := (va_runI (As := []) (n := 0) (b := H.size) (rest := .ref H.size :: st) (Ts := TT) (own := own) (index := im) (bytes := cX7_init) (maxL := 1) (mc := 23) (ms := 1291) ⟨B.1, B.2.1, B.2.2.2.1, B.2.2.2.2.1, hts⟩ (kc7 l Ω H.size H1.size) ⟨callB_of 0 hts (tbl_good mw_82) rfl rfl rfl (hts _ mw_4) (hts _ hm) (by decide +kernel) hR, rfl, hts _ mw_81⟩ ⟨fun a U g mk z => by
    obtain ⟨z1, z2, z3, z4, z5⟩ := z
    exact ⟨z1, z2, z3, z4, z5.blind g mk a⟩, fun U hU hW => ⟨rfl, by rw [hU], fun k q hk => by
      rw [hU]
      have h1 : k < 1 := (List.getElem?_eq_some_iff.mp hk).1
      rw [show k = 0 by omega] at hk
      cases hk
      exact hat, hbH, va_K.moved hW.alike hK, by rw [hU, z1]; omega, by
      rw [hU]
      refine SF.moved hW.alike (B.2.2.2.2.2.2.2.2.2.2.1.kept (fun a h1 h2 => ?_))
      rw [o1 a (Nat.lt_of_lt_of_le h1 hS.1)]
      exact hS.2.1 a h1 (fun z => h2 (hO.1.fb z)), WW.warm hW B.2.2.2.2.2.2.2.2.2.2.2⟩⟩ rfl rfl hl.1 rfl (lv_room (by rw [List.map_cons, List.sum_cons]; show 1 + _ ≤ 8; omega)) hd3 ⟨by omega, by omega⟩) T hT X
  cases hv
  rw [e0] at hz hq
  have hlive : ∀ c k', oL Ω c k' → oA Ω c k' < H.size := fun c k' hL => (hP c k' hL).lt
  have hdis : ∀ j, j < 24 → cN H.size H1.size (a j) := fun j hj => by
    obtain ⟨x, hx⟩ := oc7_at Ω a j hj
    exact hDo.2 j _ hx
  have hwf : WF (addS Ω (4 + i) a) := by
    refine wf_addS hO.1 (fun j1 j2 h1 h2 h => ?_) (fun j hj c k' hL h => ?_) (fun j hj => ?_) hnl
    · obtain ⟨x1, hx1⟩ := oc7_at Ω a j1 h1
      obtain ⟨x2, hx2⟩ := oc7_at Ω a j2 h2
      exact hDo.1 j1 j2 _ _ hx1 hx2 h
    · have h1 := hlive c k' hL
      rcases hdis j hj with h2 | h2 <;> omega
    · rcases hdis j hj with h2 | h2 <;> omega
  have hE := addS_ext (a := a) hnl
  have hO2 := addS_WO hO hwf hnl
  have hRL : RLw Ω σ := fun j hj => hO.2.2.1 j hj
  have hP2 : HP (addS Ω (4 + i) a) (newS σ (4 + i)) T'.heap := by
    rw [f1]
    refine hp_addS hO.1 hO.2.1 hRL hP hnl (fun c k' hL => ?_) hPo
    have h1 := hlive c k' hL
    rw [hq _ (by rw [z1]; omega) (fun z => by rcases z with z | z <;> omega), o1 _ h1]
  have ha0 : oA (addS Ω (4 + i) a) 7 (4 + i) = H.size := by
    rw [oA_some (sIx_7 (4 + i)), ha]
  have hsub : ∀ z, cN H.size H1.size z → oF (addS Ω (4 + i) a) z := fun z hz => oF.fb hO2.2.2.2.2 (by
    show oB Ω ≤ z
    rcases hz with hz | hz <;> omega)
  have kk2 := kk a hE hO2
  rw [rf, ha0] at kk2
  obtain ⟨t2, a1, b1⟩ := kk2 p e s m args below meth c0 (rB.ext hE hwf B) T'.heap (locs ++ L) ls hP2
    ⟨by rw [f1]; have := hS.1; omega, fun q h1 h2 => by
      rw [f1, hq q (by have := hS.1; omega) (fun z => h2 (hsub q z)), o1 q (Nat.lt_of_lt_of_le h1 hS.1)]
      exact hS.2.1 q h1 (fun z => h2 (oF_ext hE z)), fun q hq => by
      rcases List.mem_append.mp hq with h | h
      · exact oF_ext hE (hS.2.2 q h)
      · exact hsub _ (hL q h)⟩ hl T' rfl X'
  exact ⟨t2, sg _ a1, b1⟩
end RA2
noncomputable def fX5_prepare (k1 : Nat) (σ : rS) : Option (Int32 × rS) := bnd (σ 5 0 1) 41 (if σ 29 0 (ix (σ 5 0 1)) = 0 then bd (fX7_copyFrom (4 + ix (σ 5 0 1)) k1 (wr (newS σ (4 + ix (σ 5 0 1))) 29 0 (ix (σ 5 0 1)) 1)) (fun _ σ2 => some (0, σ2)) else bd (fX7_copyFrom (4 + ix (σ 5 0 1)) k1 σ) (fun _ σ2 => some (0, σ2)))
/-- what prepare does to the ring's flags -/
theorem fl_prepare {k1 : Nat} {σ σ' : rS} {r' : Int32} (h : fX5_prepare k1 σ = some (r', σ')) : vp_in (σ 5 0 1) 41 ∧ ((σ 29 0 (ix (σ 5 0 1)) = 0 ∧ σ' 29 0 = upd (σ 29 0) (ix (σ 5 0 1)) 1 ∧ cntF (σ' 29 0) = cntF (σ 29 0) + 1) ∨ (¬ σ 29 0 (ix (σ 5 0 1)) = 0 ∧ σ' 29 0 = σ 29 0)) := by
  have h := KE_hit h
  unfold fX5_prepare at h
  obtain ⟨hb, h⟩ := hit_bnd h
  refine ⟨hb, ?_⟩
  have hlt : ix (σ 5 0 1) < 41 := Nat.not_le.mp fun q => hb (Or.inr q)
  by_cases h0 : σ 29 0 (ix (σ 5 0 1)) = 0
  · have h := hit_t h h0
    obtain ⟨r, s, e, h⟩ := hit_bdE h
    have hf := frX7_copyFrom _ _ _ r s e 29 (by decide)
    obtain ⟨-, rfl⟩ := h
    have e29 : s 29 0 = upd (σ 29 0) (ix (σ 5 0 1)) 1 := by
      rw [hf]
      show wrR _ 29 0 _ 29 0 = _
      rw [wrR_eq, newS_none (by simp [sIx])]
    refine Or.inl ⟨h0, e29, ?_⟩
    show cntF (s 29 0) = _
    rw [e29]
    exact cntF_in hlt h0 (by decide)
  · have h := hit_f h h0
    obtain ⟨r, s, e, h⟩ := hit_bdE h
    have hf := frX7_copyFrom _ _ _ r s e 29 (by decide)
    obtain ⟨-, rfl⟩ := h
    exact Or.inr ⟨h0, by show s 29 0 = _; rw [hf]⟩
set_option maxRecDepth 100000 in
set_option maxHeartbeats 4000000 in
theorem ctA_prepare (l : Launch) (Ω : rO) (k1 : Nat) (hL0 : oL Ω 5 0) (hL1 : oL Ω 7 k1) (σ : rS) (r' : Int32) (σ' : rS) (hO : WO Ω (σ 29 0)) (h : fX5_prepare k1 σ = some (r', σ')) : CtA l Ω yX5_prepare cX5_prepare 2 none (rmA 3 106 (24 * (cntF (σ' 29 0) - cntF (σ 29 0))) (1310 * (cntF (σ' 29 0) - cntF (σ 29 0)))) [rf Ω 5 0, rf Ω 7 k1] σ r' σ' (24 * (cntF (σ' 29 0) - cntF (σ 29 0))) (1310 * (cntF (σ' 29 0) - cntF (σ 29 0))) := by
  obtain ⟨hb, hfl⟩ := fl_prepare h
  have hlt : ix (σ 5 0 1) < 41 := Nat.not_le.mp fun q => hb (Or.inr q)
  refine CtA.of (own := RX5) (lv := [some (rf Ω 5 0), some (rf Ω 7 k1)]) (by decide) rfl (Nat.le_of_ble_eq_true rfl) rfl (fun hW => ?_)
  have h := KE_hit h
  unfold fX5_prepare at h
  obtain ⟨-, h⟩ := hit_bnd h
  refine R_aload_n (i := 0) dX5_prepare_0 rfl rfl ?_
  refine R_get foX5_11 hL0 (cE_5 Ω 0 _) rfl dX5_prepare_1 ?_
  refine R_aload_n (i := 0) dX5_prepare_4 rfl rfl ?_
  refine R_get foX5_17 hL0 (cE_5 Ω 0 _) rfl dX5_prepare_5 ?_
  rcases hfl with ⟨h0, hfl, hcn⟩ | ⟨h0, hfl⟩
  · have h := hit_t h h0
    have hd1 : cntF (σ' 29 0) - cntF (σ 29 0) = 1 := by omega
    rw [hd1]
    refine R_ringN (WF.kid hW 0 hL0 rfl) hb h0 dX5_prepare_8 ?_
    refine R_ifnonnullN dX5_prepare_9 ?_
    refine R_aload_n (i := 0) dX5_prepare_12 rfl rfl ?_
    refine R_get foX5_11 hL0 (cE_5 Ω 0 _) rfl dX5_prepare_13 ?_
    refine R_aload_n (i := 0) dX5_prepare_16 rfl rfl ?_
    refine R_get foX5_17 hL0 (cE_5 Ω 0 _) rfl dX5_prepare_17 ?_
    refine A_newS (i := ix (σ 5 0 1)) hO hlt h0 mw_216 mw_599 dX5_prepare_20 dX5_prepare_23 dX5_prepare_24 (Nat.le_of_ble_eq_true rfl) (Nat.le_refl _) (Nat.le_refl _) ⟨Nat.le_of_ble_eq_true rfl, Nat.le_of_ble_eq_true rfl⟩ (fun a hE hO2 => ?_)
    generalize addS Ω (4 + ix (σ 5 0 1)) a = Ω2 at hE hO2 ⊢
    have hW2 := hO2.1
    have hK0 := hE.l hL0
    have hK1 := hE.l hL1
    have h29 := WF.kid hW 0 hL0 rfl
    have hL7 : oL Ω2 7 (4 + ix (σ 5 0 1)) := hO2.2.2.1 _ (by show ¬ upd (σ 29 0) (ix (σ 5 0 1)) 1 (ix (σ 5 0 1)) = 0; simp [upd])
    refine R_eq (lv2 := [some (rf Ω2 5 0), some (rf Ω2 7 k1)]) (st2 := [rf Ω2 7 (4 + ix (σ 5 0 1)), .int (σ 5 0 1), rf Ω2 29 0]) (by simp only [rf, hE.a hL0, hE.a hL1]) (by simp only [rf, hE.a h29]) ?_
    refine R_ringPut (hE.l h29) hL7 hb dX5_prepare_27 ?_
    have e5 : wr (newS σ (4 + ix (σ 5 0 1))) 29 0 (ix (σ 5 0 1)) 1 5 0 1 = σ 5 0 1 := by
      show wrR _ 29 0 _ 5 0 1 = _
      rw [wrR_ne _ _ _ _ (by decide), newS_none (by simp [sIx])]
    have e29 : ¬ wr (newS σ (4 + ix (σ 5 0 1))) 29 0 (ix (σ 5 0 1)) 1 29 0 (ix (σ 5 0 1)) = 0 := by
      show ¬ wrR _ 29 0 _ 29 0 _ = 0
      rw [wrR_eq]
      simp [upd]
    generalize wr (newS σ (4 + ix (σ 5 0 1))) 29 0 (ix (σ 5 0 1)) 1 = σ3 at h e5 e29 ⊢
    refine R_aload_n (i := 0) dX5_prepare_28 rfl rfl ?_
    refine R_get foX5_11 hK0 (cE_5 Ω2 0 _) rfl dX5_prepare_29 ?_
    refine R_aload_n (i := 0) dX5_prepare_32 rfl rfl ?_
    refine R_get foX5_17 hK0 (cE_5 Ω2 0 _) rfl dX5_prepare_33 ?_
    rw [e5]
    refine R_ringS (hE.l h29) hb e29 dX5_prepare_36 ?_
    refine R_aload_n (i := 1) dX5_prepare_37 rfl rfl ?_
    refine R_callVv (ctX7_copyFrom l Ω2 (4 + ix (σ 5 0 1)) k1 hL7 hK1 _ _ (hit_mono (hit_bd h) (fun r6 σ7 h => ?_))) okX7_copyFrom mw_600 hL7 (cE_7 Ω2 _ _) rfl rfl (Nat.le_of_ble_eq_true rfl) rfl rfl ⟨Nat.le_of_ble_eq_true rfl, Nat.le_of_ble_eq_true rfl⟩ ⟨Nat.le_refl _, Nat.le_refl _⟩ dX5_prepare_38
    exact A_vret ⟨hE, by rw [hfl]; exact hO2, Nat.le_refl _, Nat.le_refl _⟩ dX5_prepare_41 rfl h
  · have h := hit_f h h0
    refine R_ringS (WF.kid hW 0 hL0 rfl) hb h0 dX5_prepare_8 ?_
    refine R_ifnonnullS (tgt := 28) dX5_prepare_9 (by decide) ?_
    have hL7 : oL Ω 7 (4 + ix (σ 5 0 1)) := hO.2.2.1 _ h0
    refine R_aload_n (i := 0) dX5_prepare_28 rfl rfl ?_
    refine R_get foX5_11 hL0 (cE_5 Ω 0 _) rfl dX5_prepare_29 ?_
    refine R_aload_n (i := 0) dX5_prepare_32 rfl rfl ?_
    refine R_get foX5_17 hL0 (cE_5 Ω 0 _) rfl dX5_prepare_33 ?_
    refine R_ringS (WF.kid hW 0 hL0 rfl) hb h0 dX5_prepare_36 ?_
    refine R_aload_n (i := 1) dX5_prepare_37 rfl rfl ?_
    refine R_callVv (ctX7_copyFrom l Ω (4 + ix (σ 5 0 1)) k1 hL7 hL1 _ _ (hit_mono (hit_bd h) (fun r6 σ7 h => ?_))) okX7_copyFrom mw_600 hL7 (cE_7 Ω _ _) rfl rfl (Nat.le_of_ble_eq_true rfl) rfl rfl ⟨Nat.le_of_ble_eq_true rfl, Nat.le_of_ble_eq_true rfl⟩ ⟨Nat.zero_le _, Nat.zero_le _⟩ dX5_prepare_38
    exact A_vret ⟨ExtN.rf Ω, by rw [hfl]; exact hO, Nat.zero_le _, Nat.zero_le _⟩ dX5_prepare_41 rfl h
