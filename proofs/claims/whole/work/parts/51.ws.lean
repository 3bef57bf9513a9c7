theorem ww_24 : Cond.classLink RL 8 RX9 ∈ TT := TT_mem (List.mem_append_right _ (List.mem_of_getElem? (i := 24) (by decide +kernel))) rfl
theorem ww_25 : Cond.instantiable RX9 16 ∈ TT := TT_mem (List.mem_append_right _ (List.mem_of_getElem? (i := 25) (by decide +kernel))) rfl
theorem ww_1 : Cond.initialized RX9 ∈ TT := TT_mem (List.mem_append_right _ (List.mem_of_getElem? (i := 1) (by decide +kernel))) rfl
theorem ww_26 : Cond.methodLink RL 15 yX9_init ∈ TT := TT_mem (List.mem_append_right _ (List.mem_of_getElem? (i := 26) (by decide +kernel))) rfl
theorem ww_27 : Cond.instanceMethod yX9_init ∈ TT := TT_mem (List.mem_append_right _ (List.mem_of_getElem? (i := 27) (by decide +kernel))) rfl
theorem ww_28 : Cond.code yX9_init cX9_init 1 none ∈ TT := TT_mem (List.mem_append_right _ (List.mem_of_getElem? (i := 28) (by decide +kernel))) rfl
theorem ww_1169 : Cond.classLink RL 16 RX10 ∈ TT := TT_mem (List.mem_append_right _ (List.mem_of_getElem? (i := 1169) (by decide +kernel))) rfl
theorem ww_1170 : Cond.instantiable RX10 38 ∈ TT := TT_mem (List.mem_append_right _ (List.mem_of_getElem? (i := 1170) (by decide +kernel))) rfl
theorem ww_12 : Cond.initialized RX10 ∈ TT := TT_mem (List.mem_append_right _ (List.mem_of_getElem? (i := 12) (by decide +kernel))) rfl
theorem ww_1171 : Cond.methodLink RL 18 yX10_init ∈ TT := TT_mem (List.mem_append_right _ (List.mem_of_getElem? (i := 1171) (by decide +kernel))) rfl
theorem ww_1172 : Cond.instanceMethod yX10_init ∈ TT := TT_mem (List.mem_append_right _ (List.mem_of_getElem? (i := 1172) (by decide +kernel))) rfl
theorem ww_1173 : Cond.code yX10_init cX10_init 1 none ∈ TT := TT_mem (List.mem_append_right _ (List.mem_of_getElem? (i := 1173) (by decide +kernel))) rfl
set_option maxRecDepth 100000 in
set_option maxHeartbeats 4000000 in
theorem ws_open {p : Program} {e : Env} {s : State} {m : MethodId} {below : List Frame} {meth : Method} {c : Code} (l : Launch) (hflags : l.flags = flags0) {b L : Nat} {xs : Nat → Int32} (hL : L ≤ 3072) {I : Nat → rS → Prop} (hPure : PureLaw xs I) (hI0 : I 0 sg0) (C0 : lw_At p s m meth c b L xs) : W p l e room_1 s m #[Value.ref b] below meth c s.heap [] 0 0 (lw_Z below #[Value.ref b] s) (entryFrame m ([Value.ref b] : List Value).toArray 7) := by
  obtain ⟨Ω, hoB, hb30, hL31, hxs, hK, hSF, hWW⟩ := start_world C0
  obtain ⟨hx, hb, hr, hml, hown, hts, hX, hbl, hlocks, hgv⟩ := id C0
  have hst : l.stackTraces = false := by
    unfold Launch.stackTraces
    rw [hflags]
    decide
  have htt : ∀ w ∈ TT, w.before #[Value.ref b] s = true := fun w h => hts w (TT_tbl h)
  have hl := lv_entry ([.ref b]) (n := 7) (Nat.le_of_ble_eq_true rfl)
  rw [lg_entry_eq]
  generalize (lg_sl ([.ref b]) ++ List.replicate (7 - (lg_sl ([.ref b])).length) Slot.unset).toArray = ls at hl ⊢
  have hl : rL ls 7 [some (.ref b), none, none, none, none, none, none] := ⟨hl.1, hl.2.1, fun i v hi => hl.2.2 (i, v) (rFill_mem (n := 7) hi)⟩
  refine L_make (own := RL) (cc := cL_law) (nL := 7) (C := RX9) (T := TX9) (N := 16) (ci := 9) (ty := tyX9) (y := yX9_init) (cc2 := cX9_init) (nL2 := 1) (rm2 := rmK9) (mc := 129) (ms := 7071) (ic := 8) (im := 15) hx hb hml hown htt hK hSF hWW hoB rfl iw9 tyX9_ok (by decide) ww_24 ww_25 ww_1 (fun h0 sz => kc9 l Ω h0 sz) ⟨ww_28, ww_1, by decide +kernel⟩ rfl ww_27 ww_26 dL_law_0 dL_law_3 dL_law_4 (Nat.le_of_ble_eq_true rfl) rfl rfl ⟨Nat.le_of_ble_eq_true rfl, Nat.le_of_ble_eq_true rfl⟩ (Nat.le_of_ble_eq_true rfl) (Nat.le_of_ble_eq_true rfl) va_S.rf hl.1 (fun a H1 locs1 hP1 hD1 hz1 ho1 hS1 => ?_)
  refine lv_astore_n hx hb dL_law_7 rfl hl.has (by decide) rfl (fun ls1 h1 => ?_)
  have hl1 : rL ls1 7 [some (.ref b), some (.ref (a 0)), none, none, none, none, none] := rL.set1 h1 rfl rfl
  refine L_make (own := RL) (cc := cL_law) (nL := 7) (C := RX10) (T := TX10) (N := 38) (ci := 10) (ty := tyX10) (y := yX10_init) (cc2 := cX10_init) (nL2 := 1) (rm2 := rmK10) (mc := 20) (ms := 71227) (ic := 16) (im := 18) hx hb hml hown htt hK hSF hWW hoB rfl iw10 tyX10_ok (by decide) ww_1169 ww_1170 ww_12 (fun h0 sz => kc10 l Ω h0 sz) ⟨ww_1173, ww_12, by decide +kernel⟩ rfl ww_1172 ww_1171 dL_law_8 dL_law_11 dL_law_12 (Nat.le_of_ble_eq_true rfl) rfl rfl ⟨Nat.le_of_ble_eq_true rfl, Nat.le_of_ble_eq_true rfl⟩ (Nat.le_of_ble_eq_true rfl) (Nat.le_of_ble_eq_true rfl) hS1 hl1.1 (fun a2 H2 locs2 hP2 hD2 hz2 ho2 hS2 => ?_)
  refine lv_astore_n hx hb dL_law_15 rfl hl1.has (by decide) rfl (fun ls2 h2 => ?_)
  have hl2 : rL ls2 7 [some (.ref b), some (.ref (a 0)), some (.ref (a2 0)), none, none, none, none] := rL.set1 h2 rfl rfl
  refine lv_iconst (v := 1) hx hb dL_law_16 rfl ?_
  refine va_newaK (atype := .long) (N := 1) hx hb (hts _ (lwT 1746 (by decide +kernel))) rfl dL_law_17 rfl (by decide) rfl (Nat.le_of_ble_eq_true rfl) (Nat.le_of_ble_eq_true rfl) (Nat.le_of_ble_eq_true rfl) rfl (fun H3 cA e3 z3 o3 _ hcA => ?_)
  have hcA3 : cA = Ω.2.1 3 := Option.some.inj (hcA.symm.trans (hK.2 3 (Ω.2.1 3, .long) rfl).2)
  subst hcA3
  refine lv_astore_n hx hb dL_law_19 rfl hl2.has (by decide) rfl (fun ls3 h3 => ?_)
  have hl3 : rL ls3 7 [some (.ref b), some (.ref (a 0)), some (.ref (a2 0)), some (.ref H2.size), none, none, none] := rL.set1 h3 rfl rfl
  refine lv_iconst (v := 0) hx hb dL_law_20 rfl ?_
  refine lv_istore hx hb dL_law_21 hl3.has (by decide) rfl (fun ls4 h4 => ?_)
  have hl4 : rL ls4 7 [some (.ref b), some (.ref (a 0)), some (.ref (a2 0)), some (.ref H2.size), some (.int 0), none, none] := rL.set1 h4 rfl rfl
  have p9 : va_P Ω.1 vwCl (oc9 Ω a) H3 := fun i x hx => by
    have h1 := hP1 i x hx
    have hlt := h1.lt
    exact h1.kept (by rw [o3 _ (Nat.lt_of_lt_of_le hlt hz2), ho2 _ hlt])
  have p10 : va_P Ω.1 vwCl (oc10 Ω a2) H3 := fun i x hx => by
    have h1 := hP2 i x hx
    exact h1.kept (o3 _ h1.lt)
  have p77 : va_at Ω.1 vwCl (H2.size, .inl (Ω.2.1 3, 1, .inr (.inl (fun _ => lJ (sg0 77 0 100) (sg0 77 0 200))))) H3 := by
    show H3[H2.size]? = some (vp_cell _ _)
    rw [e3, vp_cell_l]
    have : lJ (sg0 77 0 100) (sg0 77 0 200) = 0 := lJ_00
    rw [this]
    rfl
  have hHP := hp_start p9 p10 p77
  have hWO := wo_start (Ω := Ω) (a := a) (b := a2) (q := H2.size) (h0 := s.heap.size) (h1 := H1.size) (Nat.le_of_eq hoB) hz1 hz2 hD1 (fun i x hx => (hP1 i x hx).lt) hD2 (fun i x hx => (hP2 i x hx).lt)
  have l9 : oL (startO Ω a a2 H2.size) 9 0 := by show (9, 0) ∈ lT; decide +kernel
  have l10 : oL (startO Ω a a2 H2.size) 10 0 := by show (10, 0) ∈ lT; decide +kernel
  have l77 : oL (startO Ω a a2 H2.size) 77 0 := by show (77, 0) ∈ lT; decide +kernel
  have n2 : ¬ oL (startO Ω a a2 H2.size) 2 0 := by show ¬ (2, 0) ∈ lT; decide +kernel
  have hloop := law_loop hst (b := b) (sz := s.heap.size) (L := L) (xs := xs) hL hPure 600 0 (startO Ω a a2 H2.size) sg0 0 152 78353 (by omega) (by omega) rfl ⟨hWO, l9, l10, l77, n2⟩ ⟨hoB, hb30, hL31, hxs⟩ (by omega) (by omega) hI0
  have hS3 : va_S (oF (startO Ω a a2 H2.size)) s.heap H3 locs2 := by
    refine ⟨by rw [z3]; have := hS2.1; omega, fun q h1 h2 => ?_, fun q hq => oF.fb hWO.2.2.2.2 (by show oB Ω ≤ _; rw [hoB]; exact hS2.2.2 q hq)⟩
    rw [o3 q (Nat.lt_of_lt_of_le h1 hS2.1)]
    exact hS2.2.1 q h1 (Nat.not_le.mpr h1)
  have hB : rB (startO Ω a a2 H2.size) cL_law RL 7 (some .boolean) p s m #[Value.ref b] meth c := ⟨hx, hb, hr, hml, hown, htt, hlocks, hK, Nat.le_of_eq hoB, hWO.1, hSF, hWW⟩
  have hfin := hloop p e s m #[Value.ref b] below meth c hB H3 locs2 ls4 hHP hS3 hl4
  intro T hT X
  obtain ⟨t, a1, b1⟩ := hfin T hT X
  exact ⟨t, a1, b1 ⟨rfl, rfl⟩⟩
