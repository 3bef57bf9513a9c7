def oc4 (Ω : rO) (N : Nat) (a : Nat → Nat) : va_W := [(a 0, .inr (4, [.ref (a 1), .int 0]))] ++ ([] ++ [(a 1, .inl (Ω.2.1 0, N, .inl (fun _ => 0)))])
abbrev rmK4 (N : Nat) : Room := { frames := 1, cells := 1, slots := N, locals := 21 }
def oc7 (Ω : rO) (a : Nat → Nat) : va_W := [(a 0, .inr (7, [.int 0, .int 0, .ref (a 1), .ref (a 2), .ref (a 3), .ref (a 4), .ref (a 5), .ref (a 6), .ref (a 7), .ref (a 8), .ref (a 9), .ref (a 10), .ref (a 11), .ref (a 12), .ref (a 14), .ref (a 16), .ref (a 18), .ref (a 20), .ref (a 22)]))] ++ ((((((((((((((((([] ++ [(a 1, .inl (Ω.2.1 0, 80, .inl (fun _ => 0)))]) ++ [(a 2, .inl (Ω.2.1 0, 80, .inl (fun _ => 0)))]) ++ [(a 3, .inl (Ω.2.1 0, 80, .inl (fun _ => 0)))]) ++ [(a 4, .inl (Ω.2.1 0, 80, .inl (fun _ => 0)))]) ++ [(a 5, .inl (Ω.2.1 0, 80, .inl (fun _ => 0)))]) ++ [(a 6, .inl (Ω.2.1 0, 80, .inl (fun _ => 0)))]) ++ [(a 7, .inl (Ω.2.1 0, 80, .inl (fun _ => 0)))]) ++ [(a 8, .inl (Ω.2.1 0, 320, .inl (fun _ => 0)))]) ++ [(a 9, .inl (Ω.2.1 0, 8, .inl (fillR 8 (-1) (fun _ => 0))))]) ++ [(a 10, .inl (Ω.2.1 0, 3, .inl (fun _ => 0)))]) ++ [(a 11, .inl (Ω.2.1 0, 8, .inl (fun _ => 0)))]) ++ oc4 Ω 80 (fun i => a (12 + i))) ++ oc4 Ω 40 (fun i => a (14 + i))) ++ oc4 Ω 80 (fun i => a (16 + i))) ++ oc4 Ω 60 (fun i => a (18 + i))) ++ oc4 Ω 60 (fun i => a (20 + i))) ++ oc4 Ω 60 (fun i => a (22 + i)))
abbrev rmK7 : Room := { frames := 2, cells := 23, slots := 1291, locals := 42 }
set_option maxRecDepth 100000 in
set_option maxHeartbeats 4000000 in
theorem kc4 (l : Launch) (Ω : rO) (h0 sz : Nat) (x1 : Int32) (N : Nat) (hN : (if 1 < x1 then x1 else 1).toNatClampNeg = N) (hneg : ¬ (if 1 < x1 then x1 else 1) < 0) (hb : N * 4 ≤ 536870912) : CtC l Ω yX4_init cX4_init 2 (rmK4 N) h0 sz 4 [.null, .int 0] [.int x1] 1 N (oc4 Ω N) := by
  refine CtC.of (own := RX4) (lv := [some (.ref (h0)), some (.int x1)]) (by decide) rfl rfl (Nat.le_of_ble_eq_true rfl) rfl ?_
  refine C_aload_n (i := 0) dX4_init_0 rfl rfl ?_
  refine C_objInit mw_89 mw_30 mw_31 (Nat.le_of_ble_eq_true rfl) (Nat.le_of_ble_eq_true rfl) dX4_init_1 ?_
  refine C_aload_n (i := 0) dX4_init_4 rfl rfl ?_
  refine C_iconst (v := 1) dX4_init_5 rfl ?_
  refine C_iload_n (i := 1) dX4_init_6 rfl rfl ?_
  refine C_mmax mw_90 mw_91 mw_6 mw_92 (Nat.le_of_ble_eq_true rfl) (Nat.le_of_ble_eq_true rfl) ⟨Nat.zero_le _, Nat.zero_le _⟩ dX4_init_7 ?_
  refine C_newaH (N := N) mw_47 hneg hN hb (Nat.le_of_ble_eq_true rfl) (by show 0 + N ≤ N; omega) dX4_init_10 (fun q1 => ?_)
  refine C_putF (C := RX4) (T := TX4) (N := 2) (j := 0) (ty := .array .int) (fs2 := [.ref (q1), .int 0]) iw4 tyX4_ok nmX4 rfl (by decide) mw_93 rfl rfl (by decide +kernel) rfl rfl (Nat.le_of_ble_eq_true rfl) rfl dX4_init_12 ?_
  exact C_ret (fun i => ([h0, q1] : List Nat).getD i 0) rfl rfl (Nat.le_refl _) (by show 0 + N ≤ N; omega) dX4_init_15
set_option maxRecDepth 100000 in
set_option maxHeartbeats 4000000 in
theorem kc7 (l : Launch) (Ω : rO) (h0 sz : Nat) : CtC l Ω yX7_init cX7_init 1 rmK7 h0 sz 7 [.int 0, .int 0, .null, .null, .null, .null, .null, .null, .null, .null, .null, .null, .null, .null, .null, .null, .null, .null, .null] [] 23 1291 (oc7 Ω) := by
  refine CtC.of (own := RX7) (lv := [some (.ref (h0))]) (by decide) rfl rfl (Nat.le_of_ble_eq_true rfl) rfl ?_
  refine C_aload_n (i := 0) dX7_init_0 rfl rfl ?_
  refine C_objInit mw_83 mw_30 mw_31 (Nat.le_of_ble_eq_true rfl) (Nat.le_of_ble_eq_true rfl) dX7_init_1 ?_
  refine C_aload_n (i := 0) dX7_init_4 rfl rfl ?_
  refine C_bipush (v := 80) dX7_init_5 rfl ?_
  refine C_newaH (N := 80) mw_47 (by decide) rfl (Nat.le_of_ble_eq_true rfl) (Nat.le_of_ble_eq_true rfl) (Nat.le_of_ble_eq_true rfl) dX7_init_7 (fun q1 => ?_)
  refine C_putF (C := RX7) (T := TX7) (N := 19) (j := 2) (ty := .array .int) (fs2 := [.int 0, .int 0, .ref (q1), .null, .null, .null, .null, .null, .null, .null, .null, .null, .null, .null, .null, .null, .null, .null, .null]) iw7 tyX7_ok nmX7 rfl (by decide) mw_115 rfl rfl (by decide +kernel) rfl rfl (Nat.le_of_ble_eq_true rfl) rfl dX7_init_9 ?_
  refine C_aload_n (i := 0) dX7_init_12 rfl rfl ?_
  refine C_bipush (v := 80) dX7_init_13 rfl ?_
  refine C_newaH (N := 80) mw_47 (by decide) rfl (Nat.le_of_ble_eq_true rfl) (Nat.le_of_ble_eq_true rfl) (Nat.le_of_ble_eq_true rfl) dX7_init_15 (fun q2 => ?_)
  refine C_putF (C := RX7) (T := TX7) (N := 19) (j := 3) (ty := .array .int) (fs2 := [.int 0, .int 0, .ref (q1), .ref (q2), .null, .null, .null, .null, .null, .null, .null, .null, .null, .null, .null, .null, .null, .null, .null]) iw7 tyX7_ok nmX7 rfl (by decide) mw_118 rfl rfl (by decide +kernel) rfl rfl (Nat.le_of_ble_eq_true rfl) rfl dX7_init_17 ?_
  refine C_aload_n (i := 0) dX7_init_20 rfl rfl ?_
  refine C_bipush (v := 80) dX7_init_21 rfl ?_
  refine C_newaH (N := 80) mw_47 (by decide) rfl (Nat.le_of_ble_eq_true rfl) (Nat.le_of_ble_eq_true rfl) (Nat.le_of_ble_eq_true rfl) dX7_init_23 (fun q3 => ?_)
  refine C_putF (C := RX7) (T := TX7) (N := 19) (j := 4) (ty := .array .int) (fs2 := [.int 0, .int 0, .ref (q1), .ref (q2), .ref (q3), .null, .null, .null, .null, .null, .null, .null, .null, .null, .null, .null, .null, .null, .null]) iw7 tyX7_ok nmX7 rfl (by decide) mw_123 rfl rfl (by decide +kernel) rfl rfl (Nat.le_of_ble_eq_true rfl) rfl dX7_init_25 ?_
  refine C_aload_n (i := 0) dX7_init_28 rfl rfl ?_
  refine C_bipush (v := 80) dX7_init_29 rfl ?_
  refine C_newaH (N := 80) mw_47 (by decide) rfl (Nat.le_of_ble_eq_true rfl) (Nat.le_of_ble_eq_true rfl) (Nat.le_of_ble_eq_true rfl) dX7_init_31 (fun q4 => ?_)
  refine C_putF (C := RX7) (T := TX7) (N := 19) (j := 5) (ty := .array .int) (fs2 := [.int 0, .int 0, .ref (q1), .ref (q2), .ref (q3), .ref (q4), .null, .null, .null, .null, .null, .null, .null, .null, .null, .null, .null, .null, .null]) iw7 tyX7_ok nmX7 rfl (by decide) mw_127 rfl rfl (by decide +kernel) rfl rfl (Nat.le_of_ble_eq_true rfl) rfl dX7_init_33 ?_
  refine C_aload_n (i := 0) dX7_init_36 rfl rfl ?_
  refine C_bipush (v := 80) dX7_init_37 rfl ?_
  refine C_newaH (N := 80) mw_47 (by decide) rfl (Nat.le_of_ble_eq_true rfl) (Nat.le_of_ble_eq_true rfl) (Nat.le_of_ble_eq_true rfl) dX7_init_39 (fun q5 => ?_)
  refine C_putF (C := RX7) (T := TX7) (N := 19) (j := 6) (ty := .array .int) (fs2 := [.int 0, .int 0, .ref (q1), .ref (q2), .ref (q3), .ref (q4), .ref (q5), .null, .null, .null, .null, .null, .null, .null, .null, .null, .null, .null, .null]) iw7 tyX7_ok nmX7 rfl (by decide) mw_130 rfl rfl (by decide +kernel) rfl rfl (Nat.le_of_ble_eq_true rfl) rfl dX7_init_41 ?_
  refine C_aload_n (i := 0) dX7_init_44 rfl rfl ?_
  refine C_bipush (v := 80) dX7_init_45 rfl ?_
  refine C_newaH (N := 80) mw_47 (by decide) rfl (Nat.le_of_ble_eq_true rfl) (Nat.le_of_ble_eq_true rfl) (Nat.le_of_ble_eq_true rfl) dX7_init_47 (fun q6 => ?_)
  refine C_putF (C := RX7) (T := TX7) (N := 19) (j := 7) (ty := .array .int) (fs2 := [.int 0, .int 0, .ref (q1), .ref (q2), .ref (q3), .ref (q4), .ref (q5), .ref (q6), .null, .null, .null, .null, .null, .null, .null, .null, .null, .null, .null]) iw7 tyX7_ok nmX7 rfl (by decide) mw_133 rfl rfl (by decide +kernel) rfl rfl (Nat.le_of_ble_eq_true rfl) rfl dX7_init_49 ?_
  refine C_aload_n (i := 0) dX7_init_52 rfl rfl ?_
  refine C_bipush (v := 80) dX7_init_53 rfl ?_
  refine C_newaH (N := 80) mw_47 (by decide) rfl (Nat.le_of_ble_eq_true rfl) (Nat.le_of_ble_eq_true rfl) (Nat.le_of_ble_eq_true rfl) dX7_init_55 (fun q7 => ?_)
  refine C_putF (C := RX7) (T := TX7) (N := 19) (j := 8) (ty := .array .int) (fs2 := [.int 0, .int 0, .ref (q1), .ref (q2), .ref (q3), .ref (q4), .ref (q5), .ref (q6), .ref (q7), .null, .null, .null, .null, .null, .null, .null, .null, .null, .null]) iw7 tyX7_ok nmX7 rfl (by decide) mw_137 rfl rfl (by decide +kernel) rfl rfl (Nat.le_of_ble_eq_true rfl) rfl dX7_init_57 ?_
  refine C_aload_n (i := 0) dX7_init_60 rfl rfl ?_
  refine C_sipush (v := 320) dX7_init_61 rfl ?_
  refine C_newaH (N := 320) mw_47 (by decide) rfl (Nat.le_of_ble_eq_true rfl) (Nat.le_of_ble_eq_true rfl) (Nat.le_of_ble_eq_true rfl) dX7_init_64 (fun q8 => ?_)
  refine C_putF (C := RX7) (T := TX7) (N := 19) (j := 9) (ty := .array .int) (fs2 := [.int 0, .int 0, .ref (q1), .ref (q2), .ref (q3), .ref (q4), .ref (q5), .ref (q6), .ref (q7), .ref (q8), .null, .null, .null, .null, .null, .null, .null, .null, .null]) iw7 tyX7_ok nmX7 rfl (by decide) mw_140 rfl rfl (by decide +kernel) rfl rfl (Nat.le_of_ble_eq_true rfl) rfl dX7_init_66 ?_
  refine C_aload_n (i := 0) dX7_init_69 rfl rfl ?_
  refine C_bipush (v := 8) dX7_init_70 rfl ?_
  refine C_newaH (N := 8) mw_47 (by decide) rfl (Nat.le_of_ble_eq_true rfl) (Nat.le_of_ble_eq_true rfl) (Nat.le_of_ble_eq_true rfl) dX7_init_72 (fun q9 => ?_)
  refine C_putF (C := RX7) (T := TX7) (N := 19) (j := 10) (ty := .array .int) (fs2 := [.int 0, .int 0, .ref (q1), .ref (q2), .ref (q3), .ref (q4), .ref (q5), .ref (q6), .ref (q7), .ref (q8), .ref (q9), .null, .null, .null, .null, .null, .null, .null, .null]) iw7 tyX7_ok nmX7 rfl (by decide) mw_141 rfl rfl (by decide +kernel) rfl rfl (Nat.le_of_ble_eq_true rfl) rfl dX7_init_74 ?_
  refine C_aload_n (i := 0) dX7_init_77 rfl rfl ?_
  refine C_iconst (v := 3) dX7_init_78 rfl ?_
  refine C_newaH (N := 3) mw_47 (by decide) rfl (Nat.le_of_ble_eq_true rfl) (Nat.le_of_ble_eq_true rfl) (Nat.le_of_ble_eq_true rfl) dX7_init_79 (fun q10 => ?_)
  refine C_putF (C := RX7) (T := TX7) (N := 19) (j := 11) (ty := .array .int) (fs2 := [.int 0, .int 0, .ref (q1), .ref (q2), .ref (q3), .ref (q4), .ref (q5), .ref (q6), .ref (q7), .ref (q8), .ref (q9), .ref (q10), .null, .null, .null, .null, .null, .null, .null]) iw7 tyX7_ok nmX7 rfl (by decide) mw_146 rfl rfl (by decide +kernel) rfl rfl (Nat.le_of_ble_eq_true rfl) rfl dX7_init_81 ?_
  refine C_aload_n (i := 0) dX7_init_84 rfl rfl ?_
  refine C_bipush (v := 8) dX7_init_85 rfl ?_
  refine C_newaH (N := 8) mw_47 (by decide) rfl (Nat.le_of_ble_eq_true rfl) (Nat.le_of_ble_eq_true rfl) (Nat.le_of_ble_eq_true rfl) dX7_init_87 (fun q11 => ?_)
  refine C_putF (C := RX7) (T := TX7) (N := 19) (j := 12) (ty := .array .int) (fs2 := [.int 0, .int 0, .ref (q1), .ref (q2), .ref (q3), .ref (q4), .ref (q5), .ref (q6), .ref (q7), .ref (q8), .ref (q9), .ref (q10), .ref (q11), .null, .null, .null, .null, .null, .null]) iw7 tyX7_ok nmX7 rfl (by decide) mw_150 rfl rfl (by decide +kernel) rfl rfl (Nat.le_of_ble_eq_true rfl) rfl dX7_init_89 ?_
  refine C_aload_n (i := 0) dX7_init_92 rfl rfl ?_
  refine C_newH (C := RX4) (T := TX4) (N := 2) (ci := 4) (fs := [.null, .int 0]) iw4 tyX4_ok mw_84 mw_85 mw_5 rfl (by decide) (Nat.le_of_ble_eq_true rfl) (Nat.le_of_ble_eq_true rfl) dX7_init_93 (fun q12 => ?_)
  refine C_dup dX7_init_96 rfl ?_
  refine C_bipush (v := 80) dX7_init_97 rfl ?_
  refine C_callH (rm2 := (rmK4 80)) (fun sz => kc4 l Ω q12 sz 80 80 rfl (by decide) (Nat.le_of_ble_eq_true rfl)) ⟨mw_88, mw_5, by decide +kernel⟩ rfl mw_87 mw_86 rfl rfl (Nat.le_of_ble_eq_true rfl) rfl rfl ⟨by decide, by decide⟩ ⟨(Nat.le_of_ble_eq_true rfl), (Nat.le_of_ble_eq_true rfl)⟩ dX7_init_99 (fun a13 h => ?_)
  subst h
  refine C_putF (C := RX7) (T := TX7) (N := 19) (j := 13) (ty := .object "NurseryHeap$Line") (fs2 := [.int 0, .int 0, .ref (q1), .ref (q2), .ref (q3), .ref (q4), .ref (q5), .ref (q6), .ref (q7), .ref (q8), .ref (q9), .ref (q10), .ref (q11), .ref (a13 0), .null, .null, .null, .null, .null]) iw7 tyX7_ok nmX7 rfl (by decide) mw_153 rfl rfl (by decide +kernel) rfl rfl (Nat.le_of_ble_eq_true rfl) rfl dX7_init_102 ?_
  refine C_aload_n (i := 0) dX7_init_105 rfl rfl ?_
  refine C_newH (C := RX4) (T := TX4) (N := 2) (ci := 4) (fs := [.null, .int 0]) iw4 tyX4_ok mw_84 mw_85 mw_5 rfl (by decide) (Nat.le_of_ble_eq_true rfl) (Nat.le_of_ble_eq_true rfl) dX7_init_106 (fun q14 => ?_)
  refine C_dup dX7_init_109 rfl ?_
  refine C_bipush (v := 40) dX7_init_110 rfl ?_
  refine C_callH (rm2 := (rmK4 40)) (fun sz => kc4 l Ω q14 sz 40 40 rfl (by decide) (Nat.le_of_ble_eq_true rfl)) ⟨mw_88, mw_5, by decide +kernel⟩ rfl mw_87 mw_86 rfl rfl (Nat.le_of_ble_eq_true rfl) rfl rfl ⟨by decide, by decide⟩ ⟨(Nat.le_of_ble_eq_true rfl), (Nat.le_of_ble_eq_true rfl)⟩ dX7_init_112 (fun a15 h => ?_)
  subst h
  refine C_putF (C := RX7) (T := TX7) (N := 19) (j := 14) (ty := .object "NurseryHeap$Line") (fs2 := [.int 0, .int 0, .ref (q1), .ref (q2), .ref (q3), .ref (q4), .ref (q5), .ref (q6), .ref (q7), .ref (q8), .ref (q9), .ref (q10), .ref (q11), .ref (a13 0), .ref (a15 0), .null, .null, .null, .null]) iw7 tyX7_ok nmX7 rfl (by decide) mw_158 rfl rfl (by decide +kernel) rfl rfl (Nat.le_of_ble_eq_true rfl) rfl dX7_init_115 ?_
  refine C_aload_n (i := 0) dX7_init_118 rfl rfl ?_
  refine C_newH (C := RX4) (T := TX4) (N := 2) (ci := 4) (fs := [.null, .int 0]) iw4 tyX4_ok mw_84 mw_85 mw_5 rfl (by decide) (Nat.le_of_ble_eq_true rfl) (Nat.le_of_ble_eq_true rfl) dX7_init_119 (fun q16 => ?_)
  refine C_dup dX7_init_122 rfl ?_
  refine C_bipush (v := 80) dX7_init_123 rfl ?_
  refine C_callH (rm2 := (rmK4 80)) (fun sz => kc4 l Ω q16 sz 80 80 rfl (by decide) (Nat.le_of_ble_eq_true rfl)) ⟨mw_88, mw_5, by decide +kernel⟩ rfl mw_87 mw_86 rfl rfl (Nat.le_of_ble_eq_true rfl) rfl rfl ⟨by decide, by decide⟩ ⟨(Nat.le_of_ble_eq_true rfl), (Nat.le_of_ble_eq_true rfl)⟩ dX7_init_125 (fun a17 h => ?_)
  subst h
  refine C_putF (C := RX7) (T := TX7) (N := 19) (j := 15) (ty := .object "NurseryHeap$Line") (fs2 := [.int 0, .int 0, .ref (q1), .ref (q2), .ref (q3), .ref (q4), .ref (q5), .ref (q6), .ref (q7), .ref (q8), .ref (q9), .ref (q10), .ref (q11), .ref (a13 0), .ref (a15 0), .ref (a17 0), .null, .null, .null]) iw7 tyX7_ok nmX7 rfl (by decide) mw_162 rfl rfl (by decide +kernel) rfl rfl (Nat.le_of_ble_eq_true rfl) rfl dX7_init_128 ?_
  refine C_aload_n (i := 0) dX7_init_131 rfl rfl ?_
  refine C_newH (C := RX4) (T := TX4) (N := 2) (ci := 4) (fs := [.null, .int 0]) iw4 tyX4_ok mw_84 mw_85 mw_5 rfl (by decide) (Nat.le_of_ble_eq_true rfl) (Nat.le_of_ble_eq_true rfl) dX7_init_132 (fun q18 => ?_)
  refine C_dup dX7_init_135 rfl ?_
  refine C_bipush (v := 60) dX7_init_136 rfl ?_
  refine C_callH (rm2 := (rmK4 60)) (fun sz => kc4 l Ω q18 sz 60 60 rfl (by decide) (Nat.le_of_ble_eq_true rfl)) ⟨mw_88, mw_5, by decide +kernel⟩ rfl mw_87 mw_86 rfl rfl (Nat.le_of_ble_eq_true rfl) rfl rfl ⟨by decide, by decide⟩ ⟨(Nat.le_of_ble_eq_true rfl), (Nat.le_of_ble_eq_true rfl)⟩ dX7_init_138 (fun a19 h => ?_)
  subst h
  refine C_putF (C := RX7) (T := TX7) (N := 19) (j := 16) (ty := .object "NurseryHeap$Line") (fs2 := [.int 0, .int 0, .ref (q1), .ref (q2), .ref (q3), .ref (q4), .ref (q5), .ref (q6), .ref (q7), .ref (q8), .ref (q9), .ref (q10), .ref (q11), .ref (a13 0), .ref (a15 0), .ref (a17 0), .ref (a19 0), .null, .null]) iw7 tyX7_ok nmX7 rfl (by decide) mw_165 rfl rfl (by decide +kernel) rfl rfl (Nat.le_of_ble_eq_true rfl) rfl dX7_init_141 ?_
  refine C_aload_n (i := 0) dX7_init_144 rfl rfl ?_
  refine C_newH (C := RX4) (T := TX4) (N := 2) (ci := 4) (fs := [.null, .int 0]) iw4 tyX4_ok mw_84 mw_85 mw_5 rfl (by decide) (Nat.le_of_ble_eq_true rfl) (Nat.le_of_ble_eq_true rfl) dX7_init_145 (fun q20 => ?_)
  refine C_dup dX7_init_148 rfl ?_
  refine C_bipush (v := 60) dX7_init_149 rfl ?_
  refine C_callH (rm2 := (rmK4 60)) (fun sz => kc4 l Ω q20 sz 60 60 rfl (by decide) (Nat.le_of_ble_eq_true rfl)) ⟨mw_88, mw_5, by decide +kernel⟩ rfl mw_87 mw_86 rfl rfl (Nat.le_of_ble_eq_true rfl) rfl rfl ⟨by decide, by decide⟩ ⟨(Nat.le_of_ble_eq_true rfl), (Nat.le_of_ble_eq_true rfl)⟩ dX7_init_151 (fun a21 h => ?_)
  subst h
  refine C_putF (C := RX7) (T := TX7) (N := 19) (j := 17) (ty := .object "NurseryHeap$Line") (fs2 := [.int 0, .int 0, .ref (q1), .ref (q2), .ref (q3), .ref (q4), .ref (q5), .ref (q6), .ref (q7), .ref (q8), .ref (q9), .ref (q10), .ref (q11), .ref (a13 0), .ref (a15 0), .ref (a17 0), .ref (a19 0), .ref (a21 0), .null]) iw7 tyX7_ok nmX7 rfl (by decide) mw_167 rfl rfl (by decide +kernel) rfl rfl (Nat.le_of_ble_eq_true rfl) rfl dX7_init_154 ?_
  refine C_aload_n (i := 0) dX7_init_157 rfl rfl ?_
  refine C_newH (C := RX4) (T := TX4) (N := 2) (ci := 4) (fs := [.null, .int 0]) iw4 tyX4_ok mw_84 mw_85 mw_5 rfl (by decide) (Nat.le_of_ble_eq_true rfl) (Nat.le_of_ble_eq_true rfl) dX7_init_158 (fun q22 => ?_)
  refine C_dup dX7_init_161 rfl ?_
  refine C_bipush (v := 60) dX7_init_162 rfl ?_
  refine C_callH (rm2 := (rmK4 60)) (fun sz => kc4 l Ω q22 sz 60 60 rfl (by decide) (Nat.le_of_ble_eq_true rfl)) ⟨mw_88, mw_5, by decide +kernel⟩ rfl mw_87 mw_86 rfl rfl (Nat.le_of_ble_eq_true rfl) rfl rfl ⟨by decide, by decide⟩ ⟨(Nat.le_of_ble_eq_true rfl), (Nat.le_of_ble_eq_true rfl)⟩ dX7_init_164 (fun a23 h => ?_)
  subst h
  refine C_putF (C := RX7) (T := TX7) (N := 19) (j := 18) (ty := .object "NurseryHeap$Line") (fs2 := [.int 0, .int 0, .ref (q1), .ref (q2), .ref (q3), .ref (q4), .ref (q5), .ref (q6), .ref (q7), .ref (q8), .ref (q9), .ref (q10), .ref (q11), .ref (a13 0), .ref (a15 0), .ref (a17 0), .ref (a19 0), .ref (a21 0), .ref (a23 0)]) iw7 tyX7_ok nmX7 rfl (by decide) mw_169 rfl rfl (by decide +kernel) rfl rfl (Nat.le_of_ble_eq_true rfl) rfl dX7_init_167 ?_
  refine C_aload_n (i := 0) dX7_init_170 rfl rfl ?_
  refine C_get foX7_36 rfl dX7_init_171 ?_
  refine C_iconst (v := (-1)) dX7_init_174 rfl ?_
  refine C_eq (ws2 := ((h0, .inr (7, [.int 0, .int 0, .ref (q1), .ref (q2), .ref (q3), .ref (q4), .ref (q5), .ref (q6), .ref (q7), .ref (q8), .ref (q9), .ref (q10), .ref (q11), .ref (a13 0), .ref (a15 0), .ref (a17 0), .ref (a19 0), .ref (a21 0), .ref (a23 0)])) :: [(q1, .inl (Ω.2.1 0, 80, .inl (fun _ => 0))), (q2, .inl (Ω.2.1 0, 80, .inl (fun _ => 0))), (q3, .inl (Ω.2.1 0, 80, .inl (fun _ => 0))), (q4, .inl (Ω.2.1 0, 80, .inl (fun _ => 0))), (q5, .inl (Ω.2.1 0, 80, .inl (fun _ => 0))), (q6, .inl (Ω.2.1 0, 80, .inl (fun _ => 0))), (q7, .inl (Ω.2.1 0, 80, .inl (fun _ => 0))), (q8, .inl (Ω.2.1 0, 320, .inl (fun _ => 0)))]) ++ (q9, .inl (Ω.2.1 0, 8, .inl (fun _ => 0))) :: [(q10, .inl (Ω.2.1 0, 3, .inl (fun _ => 0))), (q11, .inl (Ω.2.1 0, 8, .inl (fun _ => 0))), (a13 0, .inr (4, [.ref (a13 1), .int 0])), (a13 1, .inl (Ω.2.1 0, 80, .inl (fun _ => 0))), (a15 0, .inr (4, [.ref (a15 1), .int 0])), (a15 1, .inl (Ω.2.1 0, 40, .inl (fun _ => 0))), (a17 0, .inr (4, [.ref (a17 1), .int 0])), (a17 1, .inl (Ω.2.1 0, 80, .inl (fun _ => 0))), (a19 0, .inr (4, [.ref (a19 1), .int 0])), (a19 1, .inl (Ω.2.1 0, 60, .inl (fun _ => 0))), (a21 0, .inr (4, [.ref (a21 1), .int 0])), (a21 1, .inl (Ω.2.1 0, 60, .inl (fun _ => 0))), (a23 0, .inr (4, [.ref (a23 1), .int 0])), (a23 1, .inl (Ω.2.1 0, 60, .inl (fun _ => 0)))]) rfl ?_
  refine C_fill okJ7_fill_53178 mw_105 (Nat.le_of_ble_eq_true rfl) ⟨by decide, by decide⟩ ⟨(Nat.le_of_ble_eq_true rfl), (Nat.le_of_ble_eq_true rfl)⟩ dX7_init_175 ?_
  exact C_ret (fun i => ([h0, q1, q2, q3, q4, q5, q6, q7, q8, q9, q10, q11, a13 0, a13 1, a15 0, a15 1, a17 0, a17 1, a19 0, a19 1, a21 0, a21 1, a23 0, a23 1] : List Nat).getD i 0) rfl rfl (Nat.le_of_ble_eq_true rfl) (Nat.le_of_ble_eq_true rfl) dX7_init_178
