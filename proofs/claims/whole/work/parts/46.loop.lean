theorem mw_1633 : Cond.code yX10_thing cX10_thing 4 (some .int) ∈ TT := TT_mem (List.mem_append_right _ (List.mem_of_getElem? (i := 1633) (by decide +kernel))) rfl
theorem mw_1631 : Cond.instanceMethod yX10_thing ∈ TT := TT_mem (List.mem_append_right _ (List.mem_of_getElem? (i := 1631) (by decide +kernel))) rfl
theorem mw_1632 : Cond.selects yX10_thing.cls yX10_thing yX10_thing ∈ TT := TT_mem (List.mem_append_right _ (List.mem_of_getElem? (i := 1632) (by decide +kernel))) rfl
theorem okX10_thing : CokV yX10_thing cX10_thing 4 (some .int) 2 10 := ⟨⟨mw_1633, mw_12, by decide +kernel⟩, mw_1631, mw_1632, ⟨_, rfl, rfl⟩⟩
theorem mw_1295 : Cond.code yX10_thrown cX10_thrown 1 (some .int) ∈ TT := TT_mem (List.mem_append_right _ (List.mem_of_getElem? (i := 1295) (by decide +kernel))) rfl
theorem mw_1293 : Cond.instanceMethod yX10_thrown ∈ TT := TT_mem (List.mem_append_right _ (List.mem_of_getElem? (i := 1293) (by decide +kernel))) rfl
theorem mw_1294 : Cond.selects yX10_thrown.cls yX10_thrown yX10_thrown ∈ TT := TT_mem (List.mem_append_right _ (List.mem_of_getElem? (i := 1294) (by decide +kernel))) rfl
theorem okX10_thrown : CokV yX10_thrown cX10_thrown 1 (some .int) 0 10 := ⟨⟨mw_1295, mw_12, by decide +kernel⟩, mw_1293, mw_1294, ⟨_, rfl, rfl⟩⟩
theorem mw_1630 : Cond.methodLink RL 51 yX10_thing ∈ TT := TT_mem (List.mem_append_right _ (List.mem_of_getElem? (i := 1630) (by decide +kernel))) rfl
theorem mw_1292 : Cond.methodLink RL 52 yX10_thrown ∈ TT := TT_mem (List.mem_append_right _ (List.mem_of_getElem? (i := 1292) (by decide +kernel))) rfl
def PL_0 (xs : Nat → Int32) (n : Nat) (σ : rS) (J : rS → Prop) : Prop := ∃ r σ1 σ2, fX9_feed (xs (6 * n + 1)) (xs (6 * n + 2)) (xs (6 * n + 3)) (xs (6 * n + 4)) (xs (6 * n + 5)) σ = some (r, σ1) ∧ fX10_feed (xs (6 * n + 1)) (xs (6 * n + 2)) (xs (6 * n + 3)) (xs (6 * n + 4)) (xs (6 * n + 5)) σ1 = some (r, σ2) ∧ J σ2
def PL_1 (xs : Nat → Int32) (n : Nat) (σ : rS) (J : rS → Prop) : Prop := ∃ r σ1 σ2, fX9_end (xs (6 * n + 1)) σ = some (r, σ1) ∧ fX10_end (xs (6 * n + 1)) σ1 = some (r, σ2) ∧ J σ2
def PL_2 (xs : Nat → Int32) (n : Nat) (σ : rS) (J : rS → Prop) : Prop := ∃ r σ1 σ2, fX9_fault (xs (6 * n + 1)) σ = some (r, σ1) ∧ fX10_fault (xs (6 * n + 1)) σ1 = some (r, σ2) ∧ J σ2
def PL_3 (xs : Nat → Int32) (n : Nat) (σ : rS) (J : rS → Prop) : Prop := ∃ r σ1 σ2, fX9_text (xs (6 * n + 1)) σ = some (r, σ1) ∧ fX10_text (xs (6 * n + 1)) σ1 = some (r, σ2) ∧ J σ2
def PL_4 (xs : Nat → Int32) (n : Nat) (σ : rS) (J : rS → Prop) : Prop := ∃ r σ1 σ2, fX9_rule (xs (6 * n + 1)) σ = some (r, σ1) ∧ fX10_rule (xs (6 * n + 1)) σ1 = some (r, σ2) ∧ J σ2
def PL_5 (xs : Nat → Int32) (n : Nat) (σ : rS) (J : rS → Prop) : Prop := ∃ r σ1 σ2, fX9_root (xs (6 * n + 1)) σ = some (r, σ1) ∧ fX10_root (xs (6 * n + 1)) σ1 = some (r, σ2) ∧ J σ2
def PL_6 (xs : Nat → Int32) (n : Nat) (σ : rS) (J : rS → Prop) : Prop := ((hit (fX7_find 0 (xs (6 * n + 1)) σ) (fun r s => s = σ ∧ (r = -1 ∨ xs (6 * n + 2) < 0 ∨ 7 < xs (6 * n + 2))) ∧ ∃ r σ2, fX10_thing (xs (6 * n + 1)) (xs (6 * n + 2)) σ = some (r, σ2) ∧ σ2 10 0 0 = 1 ∧ J σ2) ∨ (∃ v σ1 σ2, fX9_thing (xs (6 * n + 1)) (xs (6 * n + 2)) σ = some (v, σ1) ∧ fX10_thing (xs (6 * n + 1)) (xs (6 * n + 2)) (setOut σ1 v.toInt64) = some (v, σ2) ∧ σ2 10 0 0 = 0 ∧ J σ2))
def PL_7 (xs : Nat → Int32) (n : Nat) (σ : rS) (J : rS → Prop) : Prop := ∃ r σ1 σ2, fX9_field (xs (6 * n + 1)) (xs (6 * n + 2)) σ = some (r, σ1) ∧ fX10_field (xs (6 * n + 1)) (xs (6 * n + 2)) σ1 = some (r, σ2) ∧ J σ2
def PL_8 (xs : Nat → Int32) (n : Nat) (σ : rS) (J : rS → Prop) : Prop := ∃ r σ1 σ2, fX9_at (xs (6 * n + 1)) (xs (6 * n + 2)) σ = some (r, σ1) ∧ fX10_at (xs (6 * n + 1)) (xs (6 * n + 2)) σ1 = some (r, σ2) ∧ J σ2
def PL_9 (xs : Nat → Int32) (n : Nat) (σ : rS) (J : rS → Prop) : Prop := ∃ r σ1 σ2, fX9_make (xs (6 * n + 1)) (xs (6 * n + 2)) (xs (6 * n + 3)) (xs (6 * n + 4)) σ = some (r, σ1) ∧ fX10_make (xs (6 * n + 1)) (xs (6 * n + 2)) (xs (6 * n + 3)) (xs (6 * n + 4)) σ1 = some (r, σ2) ∧ J σ2
def PL_10 (xs : Nat → Int32) (n : Nat) (σ : rS) (J : rS → Prop) : Prop := ∃ r σ1 σ2, fX9_link (xs (6 * n + 1)) (xs (6 * n + 2)) (xs (6 * n + 3)) σ = some (r, σ1) ∧ fX10_link_ (xs (6 * n + 1)) (xs (6 * n + 2)) (xs (6 * n + 3)) σ1 = some (r, σ2) ∧ J σ2
def PL_11 (xs : Nat → Int32) (n : Nat) (σ : rS) (J : rS → Prop) : Prop := ∃ r σ1 σ2, fX9_load (xs (6 * n + 1)) (xs (6 * n + 2)) (xs (6 * n + 3)) σ = some (r, σ1) ∧ fX10_load (xs (6 * n + 1)) (xs (6 * n + 2)) (xs (6 * n + 3)) σ1 = some (r, σ2) ∧ J σ2
def PL_12 (xs : Nat → Int32) (n : Nat) (σ : rS) (J : rS → Prop) : Prop := ∃ r σ1 σ2, fX9_drop (xs (6 * n + 1)) σ = some (r, σ1) ∧ fX10_drop (xs (6 * n + 1)) σ1 = some (r, σ2) ∧ J σ2
def PL_13 (xs : Nat → Int32) (n : Nat) (σ : rS) (J : rS → Prop) : Prop := ∃ r σ1 σ2, fX9_minor  σ = some (r, σ1) ∧ fX10_minor  σ1 = some (r, σ2) ∧ J σ2
def PL_14 (xs : Nat → Int32) (n : Nat) (σ : rS) (J : rS → Prop) : Prop := ∃ r σ1 σ2, fX9_major  σ = some (r, σ1) ∧ fX10_major  σ1 = some (r, σ2) ∧ J σ2
def PL_15 (xs : Nat → Int32) (n : Nat) (σ : rS) (J : rS → Prop) : Prop := ∃ r σ1 σ2, fX9_tell (xs (6 * n + 1)) σ = some (r, σ1) ∧ fX10_tell (xs (6 * n + 1)) σ1 = some (r, σ2) ∧ J σ2
def PL_16 (xs : Nat → Int32) (n : Nat) (σ : rS) (J : rS → Prop) : Prop := ∃ r σ1 σ2, fX9_ask  σ = some (r, σ1) ∧ fX10_ask  σ1 = some (r, σ2) ∧ J σ2
def PL_17 (xs : Nat → Int32) (n : Nat) (σ : rS) (J : rS → Prop) : Prop := ∃ r σ1 σ2, fX9_years (xs (6 * n + 1)) ((((xs (6 * n + 2)).toInt64) <<< ((32 : Int32).toInt64 &&& 63)) ||| (((xs (6 * n + 3)).toInt64) &&& 4294967295)) σ = some (r, σ1) ∧ fX10_years (xs (6 * n + 1)) ((((xs (6 * n + 2)).toInt64) <<< ((32 : Int32).toInt64 &&& 63)) ||| (((xs (6 * n + 3)).toInt64) &&& 4294967295)) σ1 = some (r, σ2) ∧ J σ2
def PL_18 (xs : Nat → Int32) (n : Nat) (σ : rS) (J : rS → Prop) : Prop := ∃ r σ1 σ2, fX9_status (xs (6 * n + 1)) σ = some (r, σ1) ∧ fX10_status (xs (6 * n + 1)) σ1 = some (r, σ2) ∧ J σ2
def PL_19 (xs : Nat → Int32) (n : Nat) (σ : rS) (J : rS → Prop) : Prop := ∃ r σ1 σ2, fX9_undo  σ = some (r, σ1) ∧ fX10_undo  σ1 = some (r, σ2) ∧ J σ2
def PL_20 (xs : Nat → Int32) (n : Nat) (σ : rS) (J : rS → Prop) : Prop := ∃ r σ1 σ2, fX9_log (xs (6 * n + 1)) (xs (6 * n + 2)) σ = some (r, σ1) ∧ fX10_log (xs (6 * n + 1)) (xs (6 * n + 2)) σ1 = some (r, σ2) ∧ J σ2
def PL_21 (xs : Nat → Int32) (n : Nat) (σ : rS) (J : rS → Prop) : Prop := ∃ r σ1 σ2, fX9_remembered (xs (6 * n + 1)) (xs (6 * n + 2)) σ = some (r, σ1) ∧ fX10_remembered (xs (6 * n + 1)) (xs (6 * n + 2)) σ1 = some (r, σ2) ∧ J σ2
def PL_22 (xs : Nat → Int32) (n : Nat) (σ : rS) (J : rS → Prop) : Prop := ∃ r σ1 σ2, fX9_line (xs (6 * n + 1)) (xs (6 * n + 2)) σ = some (r, σ1) ∧ fX10_line (xs (6 * n + 1)) (xs (6 * n + 2)) σ1 = some (r, σ2) ∧ J σ2
def PL_23 (xs : Nat → Int32) (n : Nat) (σ : rS) (J : rS → Prop) : Prop := ∃ r σ1 σ2, fX9_would (if xs (6 * n + 1) = 0 then 0 else 1) (xs (6 * n + 2)) σ = some (r, σ1) ∧ fX10_would (if xs (6 * n + 1) = 0 then 0 else 1) (xs (6 * n + 2)) σ1 = some (r, σ2) ∧ J σ2
def PL_24 (xs : Nat → Int32) (n : Nat) (σ : rS) (J : rS → Prop) : Prop := ∃ r σ1 σ2, fX9_path (xs (6 * n + 1)) (xs (6 * n + 2)) σ = some (r, σ1) ∧ fX10_path (xs (6 * n + 1)) (xs (6 * n + 2)) σ1 = some (r, σ2) ∧ J σ2
def PL_25 (xs : Nat → Int32) (n : Nat) (σ : rS) (J : rS → Prop) : Prop := ∃ r σ1 σ2, fX9_alone (xs (6 * n + 1)) (xs (6 * n + 2)) σ = some (r, σ1) ∧ fX10_alone (xs (6 * n + 1)) (xs (6 * n + 2)) σ1 = some (r, σ2) ∧ J σ2
def PL_26 (xs : Nat → Int32) (n : Nat) (σ : rS) (J : rS → Prop) : Prop := ∃ r σ1 σ2, fX9_holders (xs (6 * n + 1)) σ = some (r, σ1) ∧ fX10_holders (xs (6 * n + 1)) σ1 = some (r, σ2) ∧ J σ2
def PL_27 (xs : Nat → Int32) (n : Nat) (σ : rS) (J : rS → Prop) : Prop := ∃ r σ1 σ2, fX9_round (xs (6 * n + 1)) σ = some (r, σ1) ∧ fX10_round (xs (6 * n + 1)) σ1 = some (r, σ2) ∧ J σ2
def PL_28 (xs : Nat → Int32) (n : Nat) (σ : rS) (J : rS → Prop) : Prop := ∃ r σ1 σ2, fX9_room (xs (6 * n + 1)) σ = some (r, σ1) ∧ fX10_room (xs (6 * n + 1)) σ1 = some (r, σ2) ∧ J σ2
def PL_29 (xs : Nat → Int32) (n : Nat) (σ : rS) (J : rS → Prop) : Prop := ∃ r σ1 σ2, fX9_alike (xs (6 * n + 1)) (xs (6 * n + 2)) σ = some (r, σ1) ∧ fX10_alike (xs (6 * n + 1)) (xs (6 * n + 2)) σ1 = some (r, σ2) ∧ J σ2
def PL_30 (xs : Nat → Int32) (n : Nat) (σ : rS) (J : rS → Prop) : Prop := ∃ r σ1 σ2, fX9_until (xs (6 * n + 1)) σ = some (r, σ1) ∧ fX10_until (xs (6 * n + 1)) σ1 = some (r, σ2) ∧ J σ2
def PL_31 (xs : Nat → Int32) (n : Nat) (σ : rS) (J : rS → Prop) : Prop := ∃ r σ1 σ2, fX9_garbage (xs (6 * n + 1)) σ = some (r, σ1) ∧ fX10_garbage (xs (6 * n + 1)) σ1 = some (r, σ2) ∧ J σ2
def PL_32 (xs : Nat → Int32) (n : Nat) (σ : rS) (J : rS → Prop) : Prop := ∃ r σ1 σ2, fX9_step (xs (6 * n + 1)) (xs (6 * n + 2)) (xs (6 * n + 3)) σ = some (r, σ1) ∧ fX10_step (xs (6 * n + 1)) (xs (6 * n + 2)) (xs (6 * n + 3)) σ1 = some (r, σ2) ∧ J σ2
def PL_33 (xs : Nat → Int32) (n : Nat) (σ : rS) (J : rS → Prop) : Prop := ∃ r σ1 σ2, fX9_run (xs (6 * n + 1)) (xs (6 * n + 2)) σ = some (r, σ1) ∧ fX10_run (xs (6 * n + 1)) (xs (6 * n + 2)) σ1 = some (r, σ2) ∧ J σ2
def PL_34 (xs : Nat → Int32) (n : Nat) (σ : rS) (J : rS → Prop) : Prop := ∃ r σ1 σ2, fX9_perform (xs (6 * n + 1)) σ = some (r, σ1) ∧ fX10_perform (xs (6 * n + 1)) σ1 = some (r, σ2) ∧ J σ2
def PL_35 (xs : Nat → Int32) (n : Nat) (σ : rS) (J : rS → Prop) : Prop := ∃ r σ1 σ2, fX9_most (xs (6 * n + 1)) σ = some (r, σ1) ∧ fX10_most (xs (6 * n + 1)) σ1 = some (r, σ2) ∧ J σ2
def PL_36 (xs : Nat → Int32) (n : Nat) (σ : rS) (J : rS → Prop) : Prop := ∃ r σ1 σ2, fX9_image  σ = some (r, σ1) ∧ fX10_image  σ1 = some (r, σ2) ∧ J σ2
def PL_37 (xs : Nat → Int32) (n : Nat) (σ : rS) (J : rS → Prop) : Prop := ∃ r σ1 σ2, fX9_back  σ = some (r, σ1) ∧ fX10_back  σ1 = some (r, σ2) ∧ J σ2
def PL_38 (xs : Nat → Int32) (n : Nat) (σ : rS) (J : rS → Prop) : Prop := ∃ r σ1 σ2, fX9_count (xs (6 * n + 1)) σ = some (r, σ1) ∧ fX10_count (xs (6 * n + 1)) σ1 = some (r, σ2) ∧ J σ2
/-- what the pure layer must give: each call keeps I, and answers alike -/
def PureLaw (xs : Nat → Int32) (I : Nat → rS → Prop) : Prop := ∀ n σ, n < 512 → I n σ → PL_0 xs n σ (I (n + 1)) ∧ PL_1 xs n σ (I (n + 1)) ∧ PL_2 xs n σ (I (n + 1)) ∧ PL_3 xs n σ (I (n + 1)) ∧ PL_4 xs n σ (I (n + 1)) ∧ PL_5 xs n σ (I (n + 1)) ∧ PL_6 xs n σ (I (n + 1)) ∧ PL_7 xs n σ (I (n + 1)) ∧ PL_8 xs n σ (I (n + 1)) ∧ PL_9 xs n σ (I (n + 1)) ∧ PL_10 xs n σ (I (n + 1)) ∧ PL_11 xs n σ (I (n + 1)) ∧ PL_12 xs n σ (I (n + 1)) ∧ PL_13 xs n σ (I (n + 1)) ∧ PL_14 xs n σ (I (n + 1)) ∧ PL_15 xs n σ (I (n + 1)) ∧ PL_16 xs n σ (I (n + 1)) ∧ PL_17 xs n σ (I (n + 1)) ∧ PL_18 xs n σ (I (n + 1)) ∧ PL_19 xs n σ (I (n + 1)) ∧ PL_20 xs n σ (I (n + 1)) ∧ PL_21 xs n σ (I (n + 1)) ∧ PL_22 xs n σ (I (n + 1)) ∧ PL_23 xs n σ (I (n + 1)) ∧ PL_24 xs n σ (I (n + 1)) ∧ PL_25 xs n σ (I (n + 1)) ∧ PL_26 xs n σ (I (n + 1)) ∧ PL_27 xs n σ (I (n + 1)) ∧ PL_28 xs n σ (I (n + 1)) ∧ PL_29 xs n σ (I (n + 1)) ∧ PL_30 xs n σ (I (n + 1)) ∧ PL_31 xs n σ (I (n + 1)) ∧ PL_32 xs n σ (I (n + 1)) ∧ PL_33 xs n σ (I (n + 1)) ∧ PL_34 xs n σ (I (n + 1)) ∧ PL_35 xs n σ (I (n + 1)) ∧ PL_36 xs n σ (I (n + 1)) ∧ PL_37 xs n σ (I (n + 1)) ∧ PL_38 xs n σ (I (n + 1)) ∧ I (n + 1) σ
theorem tbl_goodW {w0 : Cond} (h : w0 ∈ TT) : GoodIn TT (w0 :: TT) := by
  have hg : ∀ w ∈ TT, goodWord w = true := fun w hw => (List.mem_filter.mp hw).2
  intro w hw
  rcases List.mem_cons.mp hw with rfl | hw
  · exact ⟨h, good_of_word (hg _ h)⟩
  · exact ⟨hw, good_of_word (hg _ hw)⟩
section RT
variable {l : Launch} {Ω : rO} {cc : ByteArray} {own : String} {nL : Nat} {ret : Option FieldType} {rm : Room} {Q : List Frame → Array Value → State → State → Prop} {kc ks mc ms : Nat} {pc : Nat} {lv : List (Option Value)} {st rest : List Value} {σ : rS}
theorem R_coreM {ret2 : Option FieldType} {p : Program} {e : Env} {s : State} {m : MethodId} {args : Array Value} {below : List Frame} {meth : Method} {c0 : Code} {H : Heap} {locs : List Loc} {ls : Array Slot} {K2 : Int32 → rS → Prop} {a : Array Value}
    (B : rB Ω cc own nL ret p s m args meth c0) (hr : va_Run p l e rm s m args below meth c0 H locs kc ks mc ms (F0 m pc ls st) rest (rQ Ω ret2 K2 a) (oF Ω)) (hS : va_S (oF Ω) s.heap H locs) (hl : rL ls nL lv)
    (hk : ∀ r σ2, K2 r σ2 → RunG l Ω cc own nL ret rm Q (kc + mc) (ks + ms) (pc + 3) lv ((rV ret2 r).toList ++ rest) σ2) : W p l e rm s m args below meth c0 H locs kc ks (Q below args s) (F0 m pc ls st) := by
  intro T hT X
  obtain ⟨v, st₀, t, T', L, h0, X', hL, e1, e2, ⟨⟨r, σ2, hv, hp, hb⟩, hz, hq⟩, sg⟩ := hr T hT X
  cases hv
  rw [h0] at hz hq
  obtain ⟨t2, a1, b1⟩ := hk r σ2 hp p e s m args below meth c0 B T'.heap (locs ++ L) ls (by rw [e1]; exact hb)
    ⟨Nat.le_trans hS.1 (by rw [e1]; exact hz), fun q h1 h2 => by rw [e1, hq q (Nat.lt_of_lt_of_le h1 hS.1) h2]; exact hS.2.1 q h1 h2, fun q hq => by
      rcases List.mem_append.mp hq with h | h
      · exact hS.2.2 q h
      · exact hL q h⟩ hl T' rfl X'
  exact ⟨t2, sg _ a1, b1⟩
theorem R_callT {rm2 : Room} {x1 x2 : Int32} {K2 : Int32 → rS → Prop} (hC : Met l yL_thing (Cond.codeWith yL_thing cL_thing 5 (some .int) [(0, 10, 13, 13)] :: TT) rm2 (va_Pc [rf Ω 9 0, .int x1, .int x2, rf Ω 77 0] (rPre Ω σ)) (rQ Ω (some .int) K2) mc ms (oF Ω)) (hrc : rm2.cells = mc) (hrs : rm2.slots = ms) (hR : rm2.frames + 1 ≤ rm.frames ∧ 8 + (5 + 11) + rm2.locals ≤ rm.locals) (hf : kc + mc ≤ rm.cells ∧ ks + ms ≤ rm.slots) (hown : own = RL) (hd : decode cc pc = .ok (.invokestatic 46, 3))
    (hk : ∀ r σ2, K2 r σ2 → RunG l Ω cc own nL ret rm Q (kc + mc) (ks + ms) (pc + 3) lv [.int r] σ2) : RunG l Ω cc own nL ret rm Q kc ks pc lv [rf Ω 77 0, .int x2, .int x1, rf Ω 9 0] σ := fun p e s m args below meth c0 B H locs ls hP hS hl => by
  subst hown
  have hts := B.2.2.2.2.2.1
  refine R_coreM (K2 := K2) (ret2 := some .int) (rest := []) B (vx_runSW (hh := [(0, 10, 13, 13)]) (As := [rf Ω 9 0, .int x1, .int x2, rf Ω 77 0]) (n := 4) (Ts := TT) (own := RL) (index := 46) (bytes := cL_thing) (maxL := 5) (ret := some .int) ⟨B.1, B.2.1, B.2.2.2.1, B.2.2.2.2.1, hts⟩ hC ⟨⟨hrc, hrs, hR.1, hR.2, pay_in hts (tbl_goodW nsw_1092), List.mem_cons_self⟩, hts _ nsw_1092, hts _ nsw_0, ⟨by decide, by decide⟩, fun sig h => ?_, hts _ nsw_1090, hts _ nsw_1091⟩ ⟨rPre.blind σ _, rPre.start B hP hS _⟩ rfl rfl hl.1 rfl (lv_room (Nat.le_of_ble_eq_true rfl)) hd hf) hS hl (fun r σ2 h => hk r σ2 h)
  have h2 : (parseMethodDescriptor yL_thing.desc).map (fun d => d.parameters.length) = some 4 := by decide +kernel
  rw [h] at h2
  exact (Option.some.inj h2).symm
end RT
theorem lg_cmp_self (x : Int64) : lg_cmp x x = 0 := by
  unfold lg_cmp
  rw [if_neg (Int64.lt_irrefl), if_pos rfl]
set_option maxRecDepth 100000 in
set_option maxHeartbeats 4000000 in
theorem lwc_6 {l : Launch} (hst : l.stackTraces = false) {Ω : rO} {b sz L n : Nat} {xs : Nat → Int32} {x4 : Int32} {σ : rS} {kc ks : Nat} {J : rS → Prop} (hA : LWa Ω b sz L n xs x4 kc ks σ) (hI : PL_6 xs n σ J)
    (hk : LCont l b sz L n xs x4 kc ks σ J) : LRun l b sz x4 Ω kc ks 410 σ := by
  have hkc := hA.kc3
  have hks := hA.ks3
  refine R_aload_n (i := 1) dL_law_410 rfl rfl ?_
  refine R_aload_n (i := 0) dL_law_411 rfl rfl ?_
  refine R_iload (i := 4) dL_law_412 rfl ?_
  refine R_iconst (v := 1) dL_law_414 rfl ?_
  refine R_iadd dL_law_415 ?_
  refine R_sld hA.eb hA.eL hA.ex hA.i1a hA.i1b dL_law_416 ?_
  refine R_aload_n (i := 0) dL_law_417 rfl rfl ?_
  refine R_iload (i := 4) dL_law_418 rfl ?_
  refine R_iconst (v := 2) dL_law_420 rfl ?_
  refine R_iadd dL_law_421 ?_
  refine R_sld hA.eb hA.eL hA.ex hA.i2a hA.i2b dL_law_422 ?_
  refine R_aload_n (i := 3) dL_law_423 rfl rfl ?_
  have tail : ∀ (k r : Int32) (σ1 σ2 : rS) (kc2 ks2 : Nat), kc2 ≤ kc + 1 → ks2 ≤ ks + 6 → LWa Ω b sz L n xs x4 kc ks σ1 → fX10_thing (xs (6 * n + 1)) (xs (6 * n + 2)) σ1 = some (r, σ2) → σ2 10 0 0 = k → (k = 0 → lJ (σ1 77 0 100) (σ1 77 0 200) = r.toInt64) → cntF (σ1 29 0) = cntF (σ 29 0) → J σ2 → RunG l Ω cL_law RL 7 (some .boolean) room_1 (lawQ b sz) kc2 ks2 427 [some (.ref b), some (rf Ω 9 0), some (rf Ω 10 0), some (rf Ω 77 0), some (.int x4), none, none] [.int k] σ1 := by
    intro k r σ1 σ2 kc2 ks2 h1 h2 hA1 e2 ht ho hcn hJ
    have h77 : σ2 77 = σ1 77 := frX10_thing _ _ _ _ _ e2 77 (by decide)
    have h29 : σ2 29 = σ1 29 := frX10_thing _ _ _ _ _ e2 29 (by decide)
    have hA2 := hA1.frame (frX10_thing _ _ _ _ _ e2) (by decide)
    refine R_istore (lv2 := [some (.ref b), some (rf Ω 9 0), some (rf Ω 10 0), some (rf Ω 77 0), some (.int x4), some (.int k), none]) dL_law_427 (by decide) rfl rfl ?_
    refine R_aload_n (i := 2) dL_law_429 rfl rfl ?_
    refine R_aload_n (i := 0) dL_law_430 rfl rfl ?_
    refine R_iload (i := 4) dL_law_431 rfl ?_
    refine R_iconst (v := 1) dL_law_433 rfl ?_
    refine R_iadd dL_law_434 ?_
    refine R_sld hA.eb hA.eL hA.ex hA.i1a hA.i1b dL_law_435 ?_
    refine R_aload_n (i := 0) dL_law_436 rfl rfl ?_
    refine R_iload (i := 4) dL_law_437 rfl ?_
    refine R_iconst (v := 2) dL_law_439 rfl ?_
    refine R_iadd dL_law_440 ?_
    refine R_sld hA.eb hA.eL hA.ex hA.i2a hA.i2b dL_law_441 ?_
    refine R_callVi (ctX10_thing l Ω (xs (6 * n + 1)) (xs (6 * n + 2)) hA.l10 _ _ (hit_mono (KE_hit e2) (fun r2 s2 hrs => ?_))) okX10_thing mw_1630 hA.l10 (cE_10 Ω 0 _) rfl rfl (Nat.le_of_ble_eq_true rfl) rfl rfl ⟨Nat.le_of_ble_eq_true rfl, Nat.le_of_ble_eq_true rfl⟩ ⟨by show _ ≤ 601024; omega, by show _ ≤ 7293034; omega⟩ dL_law_442
    rw [hrs.1, hrs.2]
    refine R_istore (lv2 := [some (.ref b), some (rf Ω 9 0), some (rf Ω 10 0), some (rf Ω 77 0), some (.int x4), some (.int k), some (.int r)]) dL_law_445 (by decide) rfl rfl ?_
    refine R_aload_n (i := 2) dL_law_447 rfl rfl ?_
    refine R_callVi (ctX10_thrown l Ω hA.l10 _ _ (hit_mono (KE_hit (r' := k) (σ' := σ2) (by unfold fX10_thrown; rw [ht])) (fun r2 s2 hrs => ?_))) okX10_thrown mw_1292 hA.l10 (cE_10 Ω 0 _) rfl rfl (Nat.le_of_ble_eq_true rfl) rfl rfl ⟨Nat.le_of_ble_eq_true rfl, Nat.le_of_ble_eq_true rfl⟩ ⟨by show _ ≤ 601024; omega, by show _ ≤ 7293034; omega⟩ dL_law_448
    rw [hrs.1, hrs.2]
    refine R_iload (i := 5) dL_law_451 rfl ?_
    refine R_icmp_eq (tgt := 458) dL_law_453 (by decide) (fun _ => ?_) (fun hc => absurd rfl hc)
    refine R_iload (i := 5) dL_law_458 rfl ?_
    have fin : RunG l Ω cL_law RL 7 (some .boolean) room_1 (lawQ b sz) kc2 ks2 475 [some (.ref b), some (rf Ω 9 0), some (rf Ω 10 0), some (rf Ω 77 0), some (.int x4), some (.int k), some (.int r)] [] σ2 := by
      refine R_goto (tgt := 1494) dL_law_475 (by decide) ?_
      refine R_drop (lv2 := [some (.ref b), some (rf Ω 9 0), some (rf Ω 10 0), some (rf Ω 77 0), some (.int x4), none, some (.int r)]) 5 rfl ?_
      refine R_drop (lv2 := [some (.ref b), some (rf Ω 9 0), some (rf Ω 10 0), some (rf Ω 77 0), some (.int x4), none, none]) 6 rfl ?_
      exact hk Ω σ2 kc2 ks2 hA2 (by omega) (by omega) (by rw [h29, hcn]; exact Nat.le_refl _) hJ
    refine R_if_ne (tgt := 475) dL_law_460 (by decide) (fun _ => fin) (fun hk0 => ?_)
    refine R_aload_n (i := 3) dL_law_463 rfl rfl ?_
    refine R_iconst (v := 0) dL_law_464 rfl ?_
    refine R_lald77 hA.l77 dL_law_465 ?_
    refine R_iload (i := 6) dL_law_466 rfl ?_
    refine R_i2l dL_law_468 ?_
    refine R_lcmp dL_law_469 ?_
    rw [h77, ho hk0, lg_cmp_self]
    exact R_if_eq (tgt := 475) dL_law_470 (by decide) (fun _ => fin) (fun hc => absurd rfl hc)
  rcases hI with ⟨hf, r, σ2, e2, ht, hJ⟩ | ⟨v, σ1, σ2, e1, e2, ht, hJ⟩
  · refine R_callT (K2 := KE 1 σ) (mc := 1) (ms := 6) (ctL_thingT l hst Ω hA.wo.2.2.2.2 (xs (6 * n + 1)) (xs (6 * n + 2)) hA.l9 hA.l77 σ _ hf ⟨rfl, rfl⟩) rfl rfl ⟨Nat.le_of_ble_eq_true rfl, Nat.le_of_ble_eq_true rfl⟩ ⟨by show _ ≤ 601024; omega, by show _ ≤ 7293034; omega⟩ rfl dL_law_424 (fun r2 s2 hrs => ?_)
    rw [hrs.1, hrs.2]
    exact tail 1 r σ σ2 _ _ (Nat.le_refl _) (Nat.le_refl _) hA e2 ht (fun h => absurd h (by decide)) rfl hJ
  · have f29 : setOut σ1 v.toInt64 29 = σ 29 := by
      have h1 : σ1 29 = σ 29 := frX9_thing _ _ _ _ _ e1 29 (by decide)
      rw [← h1]
      unfold setOut wr wrR
      rw [if_neg (by decide), if_neg (by decide)]
    have hA1 : LWa Ω b sz L n xs x4 kc ks (setOut σ1 v.toInt64) := by
      refine ⟨⟨?_, hA.1.2⟩, hA.2⟩
      rw [f29]
      exact hA.1.1
    refine R_callT (K2 := KE 0 (setOut σ1 v.toInt64)) (mc := 0) (ms := 0) (ctL_thing l Ω (xs (6 * n + 1)) (xs (6 * n + 2)) hA.l9 hA.l77 σ v σ1 _ e1 ⟨rfl, rfl⟩) rfl rfl ⟨Nat.le_of_ble_eq_true rfl, Nat.le_of_ble_eq_true rfl⟩ ⟨by show _ ≤ 601024; omega, by show _ ≤ 7293034; omega⟩ rfl dL_law_424 (fun r2 s2 hrs => ?_)
    rw [hrs.1, hrs.2]
    exact tail 0 v (setOut σ1 v.toInt64) σ2 _ _ (by omega) (by omega) hA1 e2 ht (fun _ => setOut_out σ1 v.toInt64) (by rw [f29]) hJ
theorem i32_add6 {x : Int32} {m k : Nat} (hx : x = Int32.ofNat m) : x + Int32.ofNat k = Int32.ofNat (m + k) := by
  rw [hx, Int32.ofNat_add]
theorem ofNat_nn {m : Nat} (hm : m < 2147483648) : (Int32.ofNat m).toNatClampNeg = m := Int32.toNatClampNeg_ofNat_of_lt hm
theorem ofNat_toInt {m : Nat} (hm : m < 2147483648) : (Int32.ofNat m).toInt = (m : Int) := Int32.toInt_ofNat_of_lt hm
theorem ofNat_in {m L : Nat} (hm : m < 2147483648) (h : m < L) : vp_in (Int32.ofNat m) L := by
  intro hc
  rcases hc with hc | hc
  · have := Int32.lt_iff_toInt_lt.mp hc
    rw [ofNat_toInt hm] at this
    have h0 : (0 : Int32).toInt = 0 := by decide
    omega
  · rw [ofNat_nn hm] at hc
    omega
set_option maxRecDepth 100000 in
set_option maxHeartbeats 4000000 in
theorem law_loop {l : Launch} (hst : l.stackTraces = false) {b sz L : Nat} {xs : Nat → Int32} (hL : L ≤ 3072) {I : Nat → rS → Prop} (hPure : PureLaw xs I) : ∀ (f n : Nat) (Ω : rO) (σ : rS) (x4 : Int32) (kc ks : Nat), L < 6 * n + 6 * f → n ≤ 512 → x4 = Int32.ofNat (6 * n) → (WO Ω (σ 29 0) ∧ oL Ω 9 0 ∧ oL Ω 10 0 ∧ oL Ω 77 0 ∧ ¬ oL Ω 2 0) → (oB Ω = sz ∧ oX Ω 30 = b ∧ oX Ω 31 = L ∧ ∀ j, Int32.ofNat (oX Ω (100 + j)) = xs j) →
    kc ≤ 152 + 24 * cntF (σ 29 0) + n → ks ≤ 78353 + 1310 * cntF (σ 29 0) + 6 * n → I n σ → LRun l b sz x4 Ω kc ks 23 σ := by
  intro f
  induction f with
  | zero =>
    intro n Ω σ x4 kc ks hf hn hx hO hX hc hs hI
    have hcnt := cntF_le (σ 29 0)
    refine R_iload (i := 4) dL_law_23 rfl ?_
    refine R_aload_n (i := 0) dL_law_25 rfl rfl ?_
    refine R_slen hX.2.1 hX.2.2.1 dL_law_26 ?_
    refine R_bipush (v := 6) dL_law_27 rfl ?_
    refine R_isub dL_law_29 ?_
    refine R_icmp_gt (tgt := 1500) dL_law_30 (by decide) (fun _ => ?_) (fun hc => ?_)
    · refine R_iconst (v := 1) dL_law_1500 rfl ?_
      exact L_ret hX.1 (by omega) (by omega) dL_law_1501
    · exfalso
      apply hc
      rw [Int32.lt_iff_toInt_lt, hx, ofNat_toInt (by omega), Int32.toInt_sub, ofNat_toInt (by omega)]
      have h6 : (6 : Int32).toInt = 6 := by decide
      rw [h6]
      have : Int.bmod ((L : Int) - 6) (2 ^ 32) = (L : Int) - 6 := by
        rw [Int.bmod_eq_of_le] <;> omega
      rw [this]
      omega
  | succ f ih =>
    intro n Ω σ x4 kc ks hf hn hx hO hX hc hs hI
    have hcnt := cntF_le (σ 29 0)
    refine R_iload (i := 4) dL_law_23 rfl ?_
    refine R_aload_n (i := 0) dL_law_25 rfl rfl ?_
    refine R_slen hX.2.1 hX.2.2.1 dL_law_26 ?_
    refine R_bipush (v := 6) dL_law_27 rfl ?_
    refine R_isub dL_law_29 ?_
    refine R_icmp_gt (tgt := 1500) dL_law_30 (by decide) (fun _ => ?_) (fun hcmp => ?_)
    · refine R_iconst (v := 1) dL_law_1500 rfl ?_
      exact L_ret hX.1 (by omega) (by omega) dL_law_1501
    have h6n : 6 * n + 6 ≤ L := by
      refine Nat.not_lt.mp (fun hlt => hcmp ?_)
      rw [Int32.lt_iff_toInt_lt, hx, ofNat_toInt (by omega), Int32.toInt_sub, ofNat_toInt (by omega)]
      have h6 : (6 : Int32).toInt = 6 := by decide
      rw [h6]
      have : Int.bmod ((L : Int) - 6) (2 ^ 32) = (L : Int) - 6 := by
        rw [Int.bmod_eq_of_le] <;> omega
      rw [this]
      omega
    have hk6 : ∀ k : Nat, k < 6 → vp_in (x4 + Int32.ofNat k) L ∧ (x4 + Int32.ofNat k).toNatClampNeg = 6 * n + k := fun k hk => by
      rw [i32_add6 hx]
      exact ⟨ofNat_in (by omega) (by omega), ofNat_nn (by omega)⟩
    have hA : LWa Ω b sz L n xs x4 kc ks σ := ⟨hO, hX, ⟨hk6 1 (by omega), hk6 2 (by omega), hk6 3 (by omega), hk6 4 (by omega), hk6 5 (by omega)⟩, by omega, by omega⟩
    have hPL := hPure n σ (by omega) hI
    have hk : LCont l b sz L n xs x4 kc ks σ (I (n + 1)) := by
      intro Ω2 σ2 kc2 ks2 hA2 h1 h2 h3 hJ
      have hcnt2 := cntF_le (σ2 29 0)
      refine R_iinc (v := x4 + 6) (lv2 := [some (.ref b), some (rf Ω2 9 0), some (rf Ω2 10 0), some (rf Ω2 77 0), some (.int (x4 + 6)), none, none]) dL_law_1494 rfl rfl (by decide) rfl rfl ?_
      refine R_goto (tgt := 23) dL_law_1497 (by decide) ?_
      exact ih (n + 1) Ω2 σ2 (x4 + 6) kc2 ks2 (by omega) (by omega) (i32_add6 (k := 6) hx) hA2.1 hA2.2.1 (by omega) (by omega) hJ
    have h0 : vp_in x4 L ∧ x4.toNatClampNeg = 6 * n := by
      rw [hx]
      exact ⟨ofNat_in (by omega) (by omega), ofNat_nn (by omega)⟩
    refine R_aload_n (i := 0) dL_law_33 rfl rfl ?_
    refine R_iload (i := 4) dL_law_34 rfl ?_
    refine R_sld hX.2.1 hX.2.2.1 hX.2.2.2 h0.1 h0.2 dL_law_36 ?_
    refine R_bipush (v := 63) dL_law_37 rfl ?_
    refine R_iand dL_law_39 ?_
    by_cases hs0 : xs (6 * n) &&& 63 = 0
    · refine R_tableIn (tgt := 212) dL_law_40 (by rw [hs0]; decide) (by rw [hs0]; decide) (by rw [hs0]; rfl) (by decide) ?_
      exact lwc_0 hA hPL.1 hk
    · skip
      by_cases hs1 : xs (6 * n) &&& 63 = 1
      · refine R_tableIn (tgt := 285) dL_law_40 (by rw [hs1]; decide) (by rw [hs1]; decide) (by rw [hs1]; rfl) (by decide) ?_
        exact lwc_1 hA hPL.2.1 hk
      · skip
        by_cases hs2 : xs (6 * n) &&& 63 = 2
        · refine R_tableIn (tgt := 310) dL_law_40 (by rw [hs2]; decide) (by rw [hs2]; decide) (by rw [hs2]; rfl) (by decide) ?_
          exact lwc_2 hA hPL.2.2.1 hk
        · skip
          by_cases hs3 : xs (6 * n) &&& 63 = 3
          · refine R_tableIn (tgt := 335) dL_law_40 (by rw [hs3]; decide) (by rw [hs3]; decide) (by rw [hs3]; rfl) (by decide) ?_
            exact lwc_3 hA hPL.2.2.2.1 hk
          · skip
            by_cases hs4 : xs (6 * n) &&& 63 = 4
            · refine R_tableIn (tgt := 360) dL_law_40 (by rw [hs4]; decide) (by rw [hs4]; decide) (by rw [hs4]; rfl) (by decide) ?_
              exact lwc_4 hA hPL.2.2.2.2.1 hk
            · skip
              by_cases hs5 : xs (6 * n) &&& 63 = 5
              · refine R_tableIn (tgt := 385) dL_law_40 (by rw [hs5]; decide) (by rw [hs5]; decide) (by rw [hs5]; rfl) (by decide) ?_
                exact lwc_5 hA hPL.2.2.2.2.2.1 hk
              · skip
                by_cases hs6 : xs (6 * n) &&& 63 = 6
                · refine R_tableIn (tgt := 410) dL_law_40 (by rw [hs6]; decide) (by rw [hs6]; decide) (by rw [hs6]; rfl) (by decide) ?_
                  exact lwc_6 hst hA hPL.2.2.2.2.2.2.1 hk
                · skip
                  by_cases hs7 : xs (6 * n) &&& 63 = 7
                  · refine R_tableIn (tgt := 478) dL_law_40 (by rw [hs7]; decide) (by rw [hs7]; decide) (by rw [hs7]; rfl) (by decide) ?_
                    exact lwc_7 hA hPL.2.2.2.2.2.2.2.1 hk
                  · skip
                    by_cases hs8 : xs (6 * n) &&& 63 = 8
                    · refine R_tableIn (tgt := 515) dL_law_40 (by rw [hs8]; decide) (by rw [hs8]; decide) (by rw [hs8]; rfl) (by decide) ?_
                      exact lwc_8 hA hPL.2.2.2.2.2.2.2.2.1 hk
                    · skip
                      by_cases hs9 : xs (6 * n) &&& 63 = 9
                      · refine R_tableIn (tgt := 552) dL_law_40 (by rw [hs9]; decide) (by rw [hs9]; decide) (by rw [hs9]; rfl) (by decide) ?_
                        exact lwc_9 hA hPL.2.2.2.2.2.2.2.2.2.1 hk
                      · skip
                        by_cases hs10 : xs (6 * n) &&& 63 = 10
                        · refine R_tableIn (tgt := 613) dL_law_40 (by rw [hs10]; decide) (by rw [hs10]; decide) (by rw [hs10]; rfl) (by decide) ?_
                          exact lwc_10 hA hPL.2.2.2.2.2.2.2.2.2.2.1 hk
                        · skip
                          by_cases hs11 : xs (6 * n) &&& 63 = 11
                          · refine R_tableIn (tgt := 662) dL_law_40 (by rw [hs11]; decide) (by rw [hs11]; decide) (by rw [hs11]; rfl) (by decide) ?_
                            exact lwc_11 hA hPL.2.2.2.2.2.2.2.2.2.2.2.1 hk
                          · skip
                            by_cases hs12 : xs (6 * n) &&& 63 = 12
                            · refine R_tableIn (tgt := 711) dL_law_40 (by rw [hs12]; decide) (by rw [hs12]; decide) (by rw [hs12]; rfl) (by decide) ?_
                              exact lwc_12 hA hPL.2.2.2.2.2.2.2.2.2.2.2.2.1 hk
                            · skip
                              by_cases hs13 : xs (6 * n) &&& 63 = 13
                              · refine R_tableIn (tgt := 736) dL_law_40 (by rw [hs13]; decide) (by rw [hs13]; decide) (by rw [hs13]; rfl) (by decide) ?_
                                exact lwc_13 hA hPL.2.2.2.2.2.2.2.2.2.2.2.2.2.1 hk
                              · skip
                                by_cases hs14 : xs (6 * n) &&& 63 = 14
                                · refine R_tableIn (tgt := 749) dL_law_40 (by rw [hs14]; decide) (by rw [hs14]; decide) (by rw [hs14]; rfl) (by decide) ?_
                                  exact lwc_14 hA hPL.2.2.2.2.2.2.2.2.2.2.2.2.2.2.1 hk
                                · skip
                                  by_cases hs15 : xs (6 * n) &&& 63 = 15
                                  · refine R_tableIn (tgt := 762) dL_law_40 (by rw [hs15]; decide) (by rw [hs15]; decide) (by rw [hs15]; rfl) (by decide) ?_
                                    exact lwc_15 hA hPL.2.2.2.2.2.2.2.2.2.2.2.2.2.2.2.1 hk
                                  · skip
                                    by_cases hs16 : xs (6 * n) &&& 63 = 16
                                    · refine R_tableIn (tgt := 787) dL_law_40 (by rw [hs16]; decide) (by rw [hs16]; decide) (by rw [hs16]; rfl) (by decide) ?_
                                      exact lwc_16 hA hPL.2.2.2.2.2.2.2.2.2.2.2.2.2.2.2.2.1 hk
                                    · skip
                                      by_cases hs17 : xs (6 * n) &&& 63 = 17
                                      · refine R_tableIn (tgt := 800) dL_law_40 (by rw [hs17]; decide) (by rw [hs17]; decide) (by rw [hs17]; rfl) (by decide) ?_
                                        exact lwc_17 hA hPL.2.2.2.2.2.2.2.2.2.2.2.2.2.2.2.2.2.1 hk
                                      · skip
                                        by_cases hs18 : xs (6 * n) &&& 63 = 18
                                        · refine R_tableIn (tgt := 869) dL_law_40 (by rw [hs18]; decide) (by rw [hs18]; decide) (by rw [hs18]; rfl) (by decide) ?_
                                          exact lwc_18 hA hPL.2.2.2.2.2.2.2.2.2.2.2.2.2.2.2.2.2.2.1 hk
                                        · skip
                                          by_cases hs19 : xs (6 * n) &&& 63 = 19
                                          · refine R_tableIn (tgt := 894) dL_law_40 (by rw [hs19]; decide) (by rw [hs19]; decide) (by rw [hs19]; rfl) (by decide) ?_
                                            exact lwc_19 hA hPL.2.2.2.2.2.2.2.2.2.2.2.2.2.2.2.2.2.2.2.1 hk
                                          · skip
                                            by_cases hs20 : xs (6 * n) &&& 63 = 20
                                            · refine R_tableIn (tgt := 907) dL_law_40 (by rw [hs20]; decide) (by rw [hs20]; decide) (by rw [hs20]; rfl) (by decide) ?_
                                              exact lwc_20 hA hPL.2.2.2.2.2.2.2.2.2.2.2.2.2.2.2.2.2.2.2.2.1 hk
                                            · skip
                                              by_cases hs21 : xs (6 * n) &&& 63 = 21
                                              · refine R_tableIn (tgt := 944) dL_law_40 (by rw [hs21]; decide) (by rw [hs21]; decide) (by rw [hs21]; rfl) (by decide) ?_
                                                exact lwc_21 hA hPL.2.2.2.2.2.2.2.2.2.2.2.2.2.2.2.2.2.2.2.2.2.1 hk
                                              · skip
                                                by_cases hs22 : xs (6 * n) &&& 63 = 22
                                                · refine R_tableIn (tgt := 981) dL_law_40 (by rw [hs22]; decide) (by rw [hs22]; decide) (by rw [hs22]; rfl) (by decide) ?_
                                                  exact lwc_22 hA hPL.2.2.2.2.2.2.2.2.2.2.2.2.2.2.2.2.2.2.2.2.2.2.1 hk
                                                · skip
                                                  by_cases hs23 : xs (6 * n) &&& 63 = 23
                                                  · refine R_tableIn (tgt := 1018) dL_law_40 (by rw [hs23]; decide) (by rw [hs23]; decide) (by rw [hs23]; rfl) (by decide) ?_
                                                    exact lwc_23 hA hPL.2.2.2.2.2.2.2.2.2.2.2.2.2.2.2.2.2.2.2.2.2.2.2.1 hk
                                                  · skip
                                                    by_cases hs24 : xs (6 * n) &&& 63 = 24
                                                    · refine R_tableIn (tgt := 1071) dL_law_40 (by rw [hs24]; decide) (by rw [hs24]; decide) (by rw [hs24]; rfl) (by decide) ?_
                                                      exact lwc_24 hA hPL.2.2.2.2.2.2.2.2.2.2.2.2.2.2.2.2.2.2.2.2.2.2.2.2.1 hk
                                                    · skip
                                                      by_cases hs25 : xs (6 * n) &&& 63 = 25
                                                      · refine R_tableIn (tgt := 1108) dL_law_40 (by rw [hs25]; decide) (by rw [hs25]; decide) (by rw [hs25]; rfl) (by decide) ?_
                                                        exact lwc_25 hA hPL.2.2.2.2.2.2.2.2.2.2.2.2.2.2.2.2.2.2.2.2.2.2.2.2.2.1 hk
                                                      · skip
                                                        by_cases hs26 : xs (6 * n) &&& 63 = 26
                                                        · refine R_tableIn (tgt := 1145) dL_law_40 (by rw [hs26]; decide) (by rw [hs26]; decide) (by rw [hs26]; rfl) (by decide) ?_
                                                          exact lwc_26 hA hPL.2.2.2.2.2.2.2.2.2.2.2.2.2.2.2.2.2.2.2.2.2.2.2.2.2.2.1 hk
                                                        · skip
                                                          by_cases hs27 : xs (6 * n) &&& 63 = 27
                                                          · refine R_tableIn (tgt := 1170) dL_law_40 (by rw [hs27]; decide) (by rw [hs27]; decide) (by rw [hs27]; rfl) (by decide) ?_
                                                            exact lwc_27 hA hPL.2.2.2.2.2.2.2.2.2.2.2.2.2.2.2.2.2.2.2.2.2.2.2.2.2.2.2.1 hk
                                                          · skip
                                                            by_cases hs28 : xs (6 * n) &&& 63 = 28
                                                            · refine R_tableIn (tgt := 1195) dL_law_40 (by rw [hs28]; decide) (by rw [hs28]; decide) (by rw [hs28]; rfl) (by decide) ?_
                                                              exact lwc_28 hA hPL.2.2.2.2.2.2.2.2.2.2.2.2.2.2.2.2.2.2.2.2.2.2.2.2.2.2.2.2.1 hk
                                                            · skip
                                                              by_cases hs29 : xs (6 * n) &&& 63 = 29
                                                              · refine R_tableIn (tgt := 1220) dL_law_40 (by rw [hs29]; decide) (by rw [hs29]; decide) (by rw [hs29]; rfl) (by decide) ?_
                                                                exact lwc_29 hA hPL.2.2.2.2.2.2.2.2.2.2.2.2.2.2.2.2.2.2.2.2.2.2.2.2.2.2.2.2.2.1 hk
                                                              · skip
                                                                by_cases hs30 : xs (6 * n) &&& 63 = 30
                                                                · refine R_tableIn (tgt := 1257) dL_law_40 (by rw [hs30]; decide) (by rw [hs30]; decide) (by rw [hs30]; rfl) (by decide) ?_
                                                                  exact lwc_30 hA hPL.2.2.2.2.2.2.2.2.2.2.2.2.2.2.2.2.2.2.2.2.2.2.2.2.2.2.2.2.2.2.1 hk
                                                                · skip
                                                                  by_cases hs31 : xs (6 * n) &&& 63 = 31
                                                                  · refine R_tableIn (tgt := 1282) dL_law_40 (by rw [hs31]; decide) (by rw [hs31]; decide) (by rw [hs31]; rfl) (by decide) ?_
                                                                    exact lwc_31 hA hPL.2.2.2.2.2.2.2.2.2.2.2.2.2.2.2.2.2.2.2.2.2.2.2.2.2.2.2.2.2.2.2.1 hk
                                                                  · skip
                                                                    by_cases hs32 : xs (6 * n) &&& 63 = 32
                                                                    · refine R_tableIn (tgt := 1307) dL_law_40 (by rw [hs32]; decide) (by rw [hs32]; decide) (by rw [hs32]; rfl) (by decide) ?_
                                                                      exact lwc_32 hA hPL.2.2.2.2.2.2.2.2.2.2.2.2.2.2.2.2.2.2.2.2.2.2.2.2.2.2.2.2.2.2.2.2.1 hk
                                                                    · skip
                                                                      by_cases hs33 : xs (6 * n) &&& 63 = 33
                                                                      · refine R_tableIn (tgt := 1356) dL_law_40 (by rw [hs33]; decide) (by rw [hs33]; decide) (by rw [hs33]; rfl) (by decide) ?_
                                                                        exact lwc_33 hA hPL.2.2.2.2.2.2.2.2.2.2.2.2.2.2.2.2.2.2.2.2.2.2.2.2.2.2.2.2.2.2.2.2.2.1 hk
                                                                      · skip
                                                                        by_cases hs34 : xs (6 * n) &&& 63 = 34
                                                                        · refine R_tableIn (tgt := 1393) dL_law_40 (by rw [hs34]; decide) (by rw [hs34]; decide) (by rw [hs34]; rfl) (by decide) ?_
                                                                          exact lwc_34 hA hPL.2.2.2.2.2.2.2.2.2.2.2.2.2.2.2.2.2.2.2.2.2.2.2.2.2.2.2.2.2.2.2.2.2.2.1 hk
                                                                        · skip
                                                                          by_cases hs35 : xs (6 * n) &&& 63 = 35
                                                                          · refine R_tableIn (tgt := 1418) dL_law_40 (by rw [hs35]; decide) (by rw [hs35]; decide) (by rw [hs35]; rfl) (by decide) ?_
                                                                            exact lwc_35 hA hPL.2.2.2.2.2.2.2.2.2.2.2.2.2.2.2.2.2.2.2.2.2.2.2.2.2.2.2.2.2.2.2.2.2.2.2.1 hk
                                                                          · skip
                                                                            by_cases hs36 : xs (6 * n) &&& 63 = 36
                                                                            · refine R_tableIn (tgt := 1443) dL_law_40 (by rw [hs36]; decide) (by rw [hs36]; decide) (by rw [hs36]; rfl) (by decide) ?_
                                                                              exact lwc_36 hA hPL.2.2.2.2.2.2.2.2.2.2.2.2.2.2.2.2.2.2.2.2.2.2.2.2.2.2.2.2.2.2.2.2.2.2.2.2.1 hk
                                                                            · skip
                                                                              by_cases hs37 : xs (6 * n) &&& 63 = 37
                                                                              · refine R_tableIn (tgt := 1456) dL_law_40 (by rw [hs37]; decide) (by rw [hs37]; decide) (by rw [hs37]; rfl) (by decide) ?_
                                                                                exact lwc_37 hA hPL.2.2.2.2.2.2.2.2.2.2.2.2.2.2.2.2.2.2.2.2.2.2.2.2.2.2.2.2.2.2.2.2.2.2.2.2.2.1 hk
                                                                              · skip
                                                                                by_cases hs38 : xs (6 * n) &&& 63 = 38
                                                                                · refine R_tableIn (tgt := 1469) dL_law_40 (by rw [hs38]; decide) (by rw [hs38]; decide) (by rw [hs38]; rfl) (by decide) ?_
                                                                                  exact lwc_38 hA hPL.2.2.2.2.2.2.2.2.2.2.2.2.2.2.2.2.2.2.2.2.2.2.2.2.2.2.2.2.2.2.2.2.2.2.2.2.2.2.1 hk
                                                                                · skip
                                                                                  refine R_sw (tgt := 1494) (lo := 0) (hi := 38) dL_law_40 (fun z1 z2 => ?_) (by decide) ?_
                                                                                  · have e : (xs (6 * n) &&& 63).toInt = 0 ∨ (xs (6 * n) &&& 63).toInt = 1 ∨ (xs (6 * n) &&& 63).toInt = 2 ∨ (xs (6 * n) &&& 63).toInt = 3 ∨ (xs (6 * n) &&& 63).toInt = 4 ∨ (xs (6 * n) &&& 63).toInt = 5 ∨ (xs (6 * n) &&& 63).toInt = 6 ∨ (xs (6 * n) &&& 63).toInt = 7 ∨ (xs (6 * n) &&& 63).toInt = 8 ∨ (xs (6 * n) &&& 63).toInt = 9 ∨ (xs (6 * n) &&& 63).toInt = 10 ∨ (xs (6 * n) &&& 63).toInt = 11 ∨ (xs (6 * n) &&& 63).toInt = 12 ∨ (xs (6 * n) &&& 63).toInt = 13 ∨ (xs (6 * n) &&& 63).toInt = 14 ∨ (xs (6 * n) &&& 63).toInt = 15 ∨ (xs (6 * n) &&& 63).toInt = 16 ∨ (xs (6 * n) &&& 63).toInt = 17 ∨ (xs (6 * n) &&& 63).toInt = 18 ∨ (xs (6 * n) &&& 63).toInt = 19 ∨ (xs (6 * n) &&& 63).toInt = 20 ∨ (xs (6 * n) &&& 63).toInt = 21 ∨ (xs (6 * n) &&& 63).toInt = 22 ∨ (xs (6 * n) &&& 63).toInt = 23 ∨ (xs (6 * n) &&& 63).toInt = 24 ∨ (xs (6 * n) &&& 63).toInt = 25 ∨ (xs (6 * n) &&& 63).toInt = 26 ∨ (xs (6 * n) &&& 63).toInt = 27 ∨ (xs (6 * n) &&& 63).toInt = 28 ∨ (xs (6 * n) &&& 63).toInt = 29 ∨ (xs (6 * n) &&& 63).toInt = 30 ∨ (xs (6 * n) &&& 63).toInt = 31 ∨ (xs (6 * n) &&& 63).toInt = 32 ∨ (xs (6 * n) &&& 63).toInt = 33 ∨ (xs (6 * n) &&& 63).toInt = 34 ∨ (xs (6 * n) &&& 63).toInt = 35 ∨ (xs (6 * n) &&& 63).toInt = 36 ∨ (xs (6 * n) &&& 63).toInt = 37 ∨ (xs (6 * n) &&& 63).toInt = 38 := by omega
                                                                                    rcases e with e | e | e | e | e | e | e | e | e | e | e | e | e | e | e | e | e | e | e | e | e | e | e | e | e | e | e | e | e | e | e | e | e | e | e | e | e | e | e
                                                                                    · exact absurd (Int32.toInt_inj.mp (e.trans (by decide : (0 : Int) = (0 : Int32).toInt))) hs0
                                                                                    · exact absurd (Int32.toInt_inj.mp (e.trans (by decide : (1 : Int) = (1 : Int32).toInt))) hs1
                                                                                    · exact absurd (Int32.toInt_inj.mp (e.trans (by decide : (2 : Int) = (2 : Int32).toInt))) hs2
                                                                                    · exact absurd (Int32.toInt_inj.mp (e.trans (by decide : (3 : Int) = (3 : Int32).toInt))) hs3
                                                                                    · exact absurd (Int32.toInt_inj.mp (e.trans (by decide : (4 : Int) = (4 : Int32).toInt))) hs4
                                                                                    · exact absurd (Int32.toInt_inj.mp (e.trans (by decide : (5 : Int) = (5 : Int32).toInt))) hs5
                                                                                    · exact absurd (Int32.toInt_inj.mp (e.trans (by decide : (6 : Int) = (6 : Int32).toInt))) hs6
                                                                                    · exact absurd (Int32.toInt_inj.mp (e.trans (by decide : (7 : Int) = (7 : Int32).toInt))) hs7
                                                                                    · exact absurd (Int32.toInt_inj.mp (e.trans (by decide : (8 : Int) = (8 : Int32).toInt))) hs8
                                                                                    · exact absurd (Int32.toInt_inj.mp (e.trans (by decide : (9 : Int) = (9 : Int32).toInt))) hs9
                                                                                    · exact absurd (Int32.toInt_inj.mp (e.trans (by decide : (10 : Int) = (10 : Int32).toInt))) hs10
                                                                                    · exact absurd (Int32.toInt_inj.mp (e.trans (by decide : (11 : Int) = (11 : Int32).toInt))) hs11
                                                                                    · exact absurd (Int32.toInt_inj.mp (e.trans (by decide : (12 : Int) = (12 : Int32).toInt))) hs12
                                                                                    · exact absurd (Int32.toInt_inj.mp (e.trans (by decide : (13 : Int) = (13 : Int32).toInt))) hs13
                                                                                    · exact absurd (Int32.toInt_inj.mp (e.trans (by decide : (14 : Int) = (14 : Int32).toInt))) hs14
                                                                                    · exact absurd (Int32.toInt_inj.mp (e.trans (by decide : (15 : Int) = (15 : Int32).toInt))) hs15
                                                                                    · exact absurd (Int32.toInt_inj.mp (e.trans (by decide : (16 : Int) = (16 : Int32).toInt))) hs16
                                                                                    · exact absurd (Int32.toInt_inj.mp (e.trans (by decide : (17 : Int) = (17 : Int32).toInt))) hs17
                                                                                    · exact absurd (Int32.toInt_inj.mp (e.trans (by decide : (18 : Int) = (18 : Int32).toInt))) hs18
                                                                                    · exact absurd (Int32.toInt_inj.mp (e.trans (by decide : (19 : Int) = (19 : Int32).toInt))) hs19
                                                                                    · exact absurd (Int32.toInt_inj.mp (e.trans (by decide : (20 : Int) = (20 : Int32).toInt))) hs20
                                                                                    · exact absurd (Int32.toInt_inj.mp (e.trans (by decide : (21 : Int) = (21 : Int32).toInt))) hs21
                                                                                    · exact absurd (Int32.toInt_inj.mp (e.trans (by decide : (22 : Int) = (22 : Int32).toInt))) hs22
                                                                                    · exact absurd (Int32.toInt_inj.mp (e.trans (by decide : (23 : Int) = (23 : Int32).toInt))) hs23
                                                                                    · exact absurd (Int32.toInt_inj.mp (e.trans (by decide : (24 : Int) = (24 : Int32).toInt))) hs24
                                                                                    · exact absurd (Int32.toInt_inj.mp (e.trans (by decide : (25 : Int) = (25 : Int32).toInt))) hs25
                                                                                    · exact absurd (Int32.toInt_inj.mp (e.trans (by decide : (26 : Int) = (26 : Int32).toInt))) hs26
                                                                                    · exact absurd (Int32.toInt_inj.mp (e.trans (by decide : (27 : Int) = (27 : Int32).toInt))) hs27
                                                                                    · exact absurd (Int32.toInt_inj.mp (e.trans (by decide : (28 : Int) = (28 : Int32).toInt))) hs28
                                                                                    · exact absurd (Int32.toInt_inj.mp (e.trans (by decide : (29 : Int) = (29 : Int32).toInt))) hs29
                                                                                    · exact absurd (Int32.toInt_inj.mp (e.trans (by decide : (30 : Int) = (30 : Int32).toInt))) hs30
                                                                                    · exact absurd (Int32.toInt_inj.mp (e.trans (by decide : (31 : Int) = (31 : Int32).toInt))) hs31
                                                                                    · exact absurd (Int32.toInt_inj.mp (e.trans (by decide : (32 : Int) = (32 : Int32).toInt))) hs32
                                                                                    · exact absurd (Int32.toInt_inj.mp (e.trans (by decide : (33 : Int) = (33 : Int32).toInt))) hs33
                                                                                    · exact absurd (Int32.toInt_inj.mp (e.trans (by decide : (34 : Int) = (34 : Int32).toInt))) hs34
                                                                                    · exact absurd (Int32.toInt_inj.mp (e.trans (by decide : (35 : Int) = (35 : Int32).toInt))) hs35
                                                                                    · exact absurd (Int32.toInt_inj.mp (e.trans (by decide : (36 : Int) = (36 : Int32).toInt))) hs36
                                                                                    · exact absurd (Int32.toInt_inj.mp (e.trans (by decide : (37 : Int) = (37 : Int32).toInt))) hs37
                                                                                    · exact absurd (Int32.toInt_inj.mp (e.trans (by decide : (38 : Int) = (38 : Int32).toInt))) hs38
                                                                                  · exact hk Ω σ kc ks hA (by omega) (by omega) (Nat.le_refl _) (hPL.2.2.2.2.2.2.2.2.2.2.2.2.2.2.2.2.2.2.2.2.2.2.2.2.2.2.2.2.2.2.2.2.2.2.2.2.2.2.2)
