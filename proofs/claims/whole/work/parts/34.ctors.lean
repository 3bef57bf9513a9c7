def oc4 (Ω : rO) (N : Nat) (a : Nat → Nat) : va_W := [(a 0, .inr (4, [.ref (a 1), .int 0]))] ++ ([] ++ [(a 1, .inl (Ω.2.1 0, N, .inl (fun _ => 0)))])
abbrev rmK4 (N : Nat) : Room := { frames := 1, cells := 1, slots := N, locals := 21 }
def oc7 (Ω : rO) (a : Nat → Nat) : va_W := [(a 0, .inr (7, [.int 0, .int 0, .ref (a 1), .ref (a 2), .ref (a 3), .ref (a 4), .ref (a 5), .ref (a 6), .ref (a 7), .ref (a 8), .ref (a 9), .ref (a 10), .ref (a 11), .ref (a 12), .ref (a 14), .ref (a 16), .ref (a 18), .ref (a 20), .ref (a 22)]))] ++ ((((((((((((((((([] ++ [(a 1, .inl (Ω.2.1 0, 80, .inl (fun _ => 0)))]) ++ [(a 2, .inl (Ω.2.1 0, 80, .inl (fun _ => 0)))]) ++ [(a 3, .inl (Ω.2.1 0, 80, .inl (fun _ => 0)))]) ++ [(a 4, .inl (Ω.2.1 0, 80, .inl (fun _ => 0)))]) ++ [(a 5, .inl (Ω.2.1 0, 80, .inl (fun _ => 0)))]) ++ [(a 6, .inl (Ω.2.1 0, 80, .inl (fun _ => 0)))]) ++ [(a 7, .inl (Ω.2.1 0, 80, .inl (fun _ => 0)))]) ++ [(a 8, .inl (Ω.2.1 0, 320, .inl (fun _ => 0)))]) ++ [(a 9, .inl (Ω.2.1 0, 8, .inl (fillR 8 (-1) (fun _ => 0))))]) ++ [(a 10, .inl (Ω.2.1 0, 3, .inl (fun _ => 0)))]) ++ [(a 11, .inl (Ω.2.1 0, 8, .inl (fun _ => 0)))]) ++ oc4 Ω 80 (fun i => a (12 + i))) ++ oc4 Ω 40 (fun i => a (14 + i))) ++ oc4 Ω 80 (fun i => a (16 + i))) ++ oc4 Ω 60 (fun i => a (18 + i))) ++ oc4 Ω 60 (fun i => a (20 + i))) ++ oc4 Ω 60 (fun i => a (22 + i)))
abbrev rmK7 : Room := { frames := 2, cells := 23, slots := 1291, locals := 42 }
def oc8 (Ω : rO) (a : Nat → Nat) : va_W := [(a 0, .inr (8, [.ref (a 1), .int 0]))] ++ ([] ++ [(a 1, .inl (Ω.2.1 0, 240, .inl (fun _ => 0)))])
abbrev rmK8 : Room := { frames := 1, cells := 1, slots := 240, locals := 20 }
def oc6 (Ω : rO) (t1 : Nat) (a : Nat → Nat) : va_W := [(a 0, .inr (6, [.ref (t1), .ref (a 1), .ref (a 2), .int 0, .int 0, .int 0]))] ++ (([] ++ [(a 1, .inl (Ω.2.1 0, 4, .inl (fun _ => 0)))]) ++ [(a 2, .inl (Ω.2.1 0, 80, .inl (fun _ => 0)))])
abbrev rmK6 : Room := { frames := 1, cells := 2, slots := 84, locals := 20 }
def oc3 (Ω : rO) (a : Nat → Nat) : va_W := [(a 0, .inr (3, [.ref (a 1), .ref (a 2), .ref (a 3), .ref (a 4), .ref (a 5), .ref (a 6), .ref (a 7), .int 0]))] ++ ((((((([] ++ [(a 1, .inl (Ω.2.1 0, 80, .inl (fun _ => 0)))]) ++ [(a 2, .inl (Ω.2.1 0, 80, .inl (fun _ => 0)))]) ++ [(a 3, .inl (Ω.2.1 0, 80, .inl (fun _ => 0)))]) ++ [(a 4, .inl (Ω.2.1 0, 80, .inl (fun _ => 0)))]) ++ [(a 5, .inl (Ω.2.1 0, 80, .inl (fun _ => 0)))]) ++ [(a 6, .inl (Ω.2.1 0, 80, .inl (fun _ => 0)))]) ++ [(a 7, .inl (Ω.2.1 0, 80, .inl (fun _ => 0)))])
abbrev rmK3 : Room := { frames := 1, cells := 7, slots := 560, locals := 20 }
def oc5 (Ω : rO) (a : Nat → Nat) : va_W := [(a 0, .inr (5, [.ref (a 1), .int 0, .int 0]))] ++ ([] ++ [(a 1, .inl (Ω.2.1 4, 41, .inr (.inr (.inr (.inr (fun _ => none))))))])
abbrev rmK5 : Room := { frames := 1, cells := 1, slots := 41, locals := 20 }
def oc1 (Ω : rO) (t1 t2 : Nat) (a : Nat → Nat) : va_W := [(a 0, .inr (1, [.ref (t1), .ref (t2), .ref (a 1), .ref (a 2), .ref (a 3), .ref (a 4), .ref (a 5), .ref (a 6), .ref (a 7), .ref (a 8), .int 0, .int 0]))] ++ (((((((([] ++ [(a 1, .inl (Ω.2.1 0, 5, .inl (fun _ => 0)))]) ++ [(a 2, .inl (Ω.2.1 0, 80, .inl (fun _ => 0)))]) ++ [(a 3, .inl (Ω.2.1 0, 80, .inl (fun _ => 0)))]) ++ [(a 4, .inl (Ω.2.1 0, 80, .inl (fun _ => 0)))]) ++ [(a 5, .inl (Ω.2.1 0, 80, .inl (fun _ => 0)))]) ++ [(a 6, .inl (Ω.2.1 0, 80, .inl (fun _ => 0)))]) ++ [(a 7, .inl (Ω.2.1 0, 3, .inl (fun _ => 0)))]) ++ [(a 8, .inl (Ω.2.1 0, 128, .inl (fun _ => 0)))])
abbrev rmK1 : Room := { frames := 1, cells := 8, slots := 536, locals := 20 }
def oc0 (Ω : rO) (t1 t2 : Nat) (a : Nat → Nat) : va_W := [(a 0, .inr (0, [.ref (t1), .ref (t2), .ref (a 1)]))] ++ ([] ++ oc7 Ω (fun i => a (1 + i)))
abbrev rmK0 : Room := { frames := 3, cells := 24, slots := 1310, locals := 62 }
def oc10 (Ω : rO) (a : Nat → Nat) : va_W := [(a 0, .inr (10, [.int 0, .ref (a 1), .int 0, .int 0, .int 0, .ref (a 2), .ref (a 3), .ref (a 4), .ref (a 5), .ref (a 6), .int 0, .int 0, .ref (a 7), .ref (a 8), .ref (a 9), .ref (a 10), .ref (a 11), .int 0, .int 0, .int 0, .ref (a 12), .ref (a 13), .int 0, .ref (a 14), .int 0, .int 0, .int 0, .int 0, .int 0, .int 0, .int 0, .ref (a 15), .long 0, .ref (a 16), .ref (a 17), .ref (a 18), .ref (a 19), .ref (a 20)]))] ++ (((((((((((((((((((([] ++ [(a 1, .inl (Ω.2.1 2, 240, .inl (fun _ => 0)))]) ++ [(a 2, .inl (Ω.2.1 0, 4, .inl (fun _ => 0)))]) ++ [(a 3, .inl (Ω.2.1 0, 4, .inl (fun _ => 0)))]) ++ [(a 4, .inl (Ω.2.1 0, 4, .inl (fun _ => 0)))]) ++ [(a 5, .inl (Ω.2.1 0, 400, .inl (fun _ => 0)))]) ++ [(a 6, .inl (Ω.2.1 0, 5, .inl (fun _ => 0)))]) ++ [(a 7, .inl (Ω.2.1 0, 1554, .inl (fun _ => 0)))]) ++ [(a 8, .inl (Ω.2.1 0, 1554, .inl (fun _ => 0)))]) ++ [(a 9, .inl (Ω.2.1 0, 1554, .inl (fun _ => 0)))]) ++ [(a 10, .inl (Ω.2.1 0, 1554, .inl (fun _ => 0)))]) ++ [(a 11, .inl (Ω.2.1 0, 62160, .inl (fun _ => 0)))]) ++ [(a 12, .inl (Ω.2.1 1, 80, .inl (fun _ => 0)))]) ++ [(a 13, .inl (Ω.2.1 0, 80, .inl (fun _ => 0)))]) ++ [(a 14, .inl (Ω.2.1 0, 80, .inl (fun _ => 0)))]) ++ [(a 15, .inl (Ω.2.1 0, 1554, .inl (fun _ => 0)))]) ++ [(a 16, .inl (Ω.2.1 0, 80, .inl (fun _ => 0)))]) ++ [(a 17, .inl (Ω.2.1 0, 80, .inl (fun _ => 0)))]) ++ [(a 18, .inl (Ω.2.1 0, 80, .inl (fun _ => 0)))]) ++ [(a 19, .inl (Ω.2.1 0, 80, .inl (fun _ => 0)))]) ++ [(a 20, .inl (Ω.2.1 0, 80, .inl (fun _ => 0)))])
abbrev rmK10 : Room := { frames := 1, cells := 20, slots := 71227, locals := 20 }
set_option maxRecDepth 100000 in
set_option maxHeartbeats 4000000 in
theorem kc4 (l : Launch) (Ω : rO) (h0 sz : Nat) (x1 : Int32) (N : Nat) (hN : (if 1 < x1 then x1 else 1).toNatClampNeg = N) (hneg : ¬ (if 1 < x1 then x1 else 1) < 0) (hb : N * 4 ≤ 536870912) : CtC l Ω yX4_init cX4_init 2 (rmK4 N) h0 sz 4 [.null, .int 0] [.int x1] 1 N (oc4 Ω N) := by
  refine CtC.of (own := RX4) (lv := [some (.ref (h0)), some (.int x1)]) (by decide) rfl rfl (Nat.le_of_ble_eq_true rfl) rfl ?_
  refine C_aload_n (i := 0) dX4_init_0 rfl rfl ?_
  refine C_objInit mw_89 mw_30 mw_31 (Nat.le_of_ble_eq_true rfl) (Nat.le_of_ble_eq_true rfl) dX4_init_1 ?_
  refine C_aload_n (i := 0) dX4_init_4 rfl rfl ?_
  refine C_iconst (v := 1) dX4_init_5 rfl ?_
  refine C_iload_n (i := 1) dX4_init_6 rfl rfl ?_
  refine C_mmax mw_90 mw_91 mw_6 mw_92 (Nat.le_of_ble_eq_true rfl) (Nat.le_of_ble_eq_true rfl) ⟨Nat.zero_le _, Nat.zero_le _⟩ dX4_init_7 ?_
  refine C_newaH (N := N) mw_47 hneg hN hb (Nat.le_of_ble_eq_true rfl) (by show 0 + N ≤ N; omega) dX4_init_10 (fun q1 => ?_)
  refine C_putF (C := RX4) (T := TX4) (N := 2) (j := 0) (ty := .array .int) (fs2 := [.ref (q1), .int 0]) iw4 tyX4_ok nmX4 rfl (by decide) mw_93 rfl rfl (by decide +kernel) rfl rfl (Nat.le_of_ble_eq_true rfl) rfl dX4_init_12 ?_
  exact C_ret (fun i => ([h0, q1] : List Nat).getD i 0) rfl rfl (Nat.le_refl _) (by show 0 + N ≤ N; omega) dX4_init_15
set_option maxRecDepth 100000 in
set_option maxHeartbeats 4000000 in
theorem kc7 (l : Launch) (Ω : rO) (h0 sz : Nat) : CtC l Ω yX7_init cX7_init 1 rmK7 h0 sz 7 [.int 0, .int 0, .null, .null, .null, .null, .null, .null, .null, .null, .null, .null, .null, .null, .null, .null, .null, .null, .null] [] 23 1291 (oc7 Ω) := by
  refine CtC.of (own := RX7) (lv := [some (.ref (h0))]) (by decide) rfl rfl (Nat.le_of_ble_eq_true rfl) rfl ?_
  refine C_aload_n (i := 0) dX7_init_0 rfl rfl ?_
  refine C_objInit mw_83 mw_30 mw_31 (Nat.le_of_ble_eq_true rfl) (Nat.le_of_ble_eq_true rfl) dX7_init_1 ?_
  refine C_aload_n (i := 0) dX7_init_4 rfl rfl ?_
  refine C_bipush (v := 80) dX7_init_5 rfl ?_
  refine C_newaH (N := 80) mw_47 (by decide) rfl (Nat.le_of_ble_eq_true rfl) (Nat.le_of_ble_eq_true rfl) (Nat.le_of_ble_eq_true rfl) dX7_init_7 (fun q1 => ?_)
  refine C_putF (C := RX7) (T := TX7) (N := 19) (j := 2) (ty := .array .int) (fs2 := [.int 0, .int 0, .ref (q1), .null, .null, .null, .null, .null, .null, .null, .null, .null, .null, .null, .null, .null, .null, .null, .null]) iw7 tyX7_ok nmX7 rfl (by decide) mw_115 rfl rfl (by decide +kernel) rfl rfl (Nat.le_of_ble_eq_true rfl) rfl dX7_init_9 ?_
  refine C_aload_n (i := 0) dX7_init_12 rfl rfl ?_
  refine C_bipush (v := 80) dX7_init_13 rfl ?_
  refine C_newaH (N := 80) mw_47 (by decide) rfl (Nat.le_of_ble_eq_true rfl) (Nat.le_of_ble_eq_true rfl) (Nat.le_of_ble_eq_true rfl) dX7_init_15 (fun q2 => ?_)
  refine C_putF (C := RX7) (T := TX7) (N := 19) (j := 3) (ty := .array .int) (fs2 := [.int 0, .int 0, .ref (q1), .ref (q2), .null, .null, .null, .null, .null, .null, .null, .null, .null, .null, .null, .null, .null, .null, .null]) iw7 tyX7_ok nmX7 rfl (by decide) mw_118 rfl rfl (by decide +kernel) rfl rfl (Nat.le_of_ble_eq_true rfl) rfl dX7_init_17 ?_
  refine C_aload_n (i := 0) dX7_init_20 rfl rfl ?_
  refine C_bipush (v := 80) dX7_init_21 rfl ?_
  refine C_newaH (N := 80) mw_47 (by decide) rfl (Nat.le_of_ble_eq_true rfl) (Nat.le_of_ble_eq_true rfl) (Nat.le_of_ble_eq_true rfl) dX7_init_23 (fun q3 => ?_)
  refine C_putF (C := RX7) (T := TX7) (N := 19) (j := 4) (ty := .array .int) (fs2 := [.int 0, .int 0, .ref (q1), .ref (q2), .ref (q3), .null, .null, .null, .null, .null, .null, .null, .null, .null, .null, .null, .null, .null, .null]) iw7 tyX7_ok nmX7 rfl (by decide) mw_123 rfl rfl (by decide +kernel) rfl rfl (Nat.le_of_ble_eq_true rfl) rfl dX7_init_25 ?_
  refine C_aload_n (i := 0) dX7_init_28 rfl rfl ?_
  refine C_bipush (v := 80) dX7_init_29 rfl ?_
  refine C_newaH (N := 80) mw_47 (by decide) rfl (Nat.le_of_ble_eq_true rfl) (Nat.le_of_ble_eq_true rfl) (Nat.le_of_ble_eq_true rfl) dX7_init_31 (fun q4 => ?_)
  refine C_putF (C := RX7) (T := TX7) (N := 19) (j := 5) (ty := .array .int) (fs2 := [.int 0, .int 0, .ref (q1), .ref (q2), .ref (q3), .ref (q4), .null, .null, .null, .null, .null, .null, .null, .null, .null, .null, .null, .null, .null]) iw7 tyX7_ok nmX7 rfl (by decide) mw_127 rfl rfl (by decide +kernel) rfl rfl (Nat.le_of_ble_eq_true rfl) rfl dX7_init_33 ?_
  refine C_aload_n (i := 0) dX7_init_36 rfl rfl ?_
  refine C_bipush (v := 80) dX7_init_37 rfl ?_
  refine C_newaH (N := 80) mw_47 (by decide) rfl (Nat.le_of_ble_eq_true rfl) (Nat.le_of_ble_eq_true rfl) (Nat.le_of_ble_eq_true rfl) dX7_init_39 (fun q5 => ?_)
  refine C_putF (C := RX7) (T := TX7) (N := 19) (j := 6) (ty := .array .int) (fs2 := [.int 0, .int 0, .ref (q1), .ref (q2), .ref (q3), .ref (q4), .ref (q5), .null, .null, .null, .null, .null, .null, .null, .null, .null, .null, .null, .null]) iw7 tyX7_ok nmX7 rfl (by decide) mw_130 rfl rfl (by decide +kernel) rfl rfl (Nat.le_of_ble_eq_true rfl) rfl dX7_init_41 ?_
  refine C_aload_n (i := 0) dX7_init_44 rfl rfl ?_
  refine C_bipush (v := 80) dX7_init_45 rfl ?_
  refine C_newaH (N := 80) mw_47 (by decide) rfl (Nat.le_of_ble_eq_true rfl) (Nat.le_of_ble_eq_true rfl) (Nat.le_of_ble_eq_true rfl) dX7_init_47 (fun q6 => ?_)
  refine C_putF (C := RX7) (T := TX7) (N := 19) (j := 7) (ty := .array .int) (fs2 := [.int 0, .int 0, .ref (q1), .ref (q2), .ref (q3), .ref (q4), .ref (q5), .ref (q6), .null, .null, .null, .null, .null, .null, .null, .null, .null, .null, .null]) iw7 tyX7_ok nmX7 rfl (by decide) mw_133 rfl rfl (by decide +kernel) rfl rfl (Nat.le_of_ble_eq_true rfl) rfl dX7_init_49 ?_
  refine C_aload_n (i := 0) dX7_init_52 rfl rfl ?_
  refine C_bipush (v := 80) dX7_init_53 rfl ?_
  refine C_newaH (N := 80) mw_47 (by decide) rfl (Nat.le_of_ble_eq_true rfl) (Nat.le_of_ble_eq_true rfl) (Nat.le_of_ble_eq_true rfl) dX7_init_55 (fun q7 => ?_)
  refine C_putF (C := RX7) (T := TX7) (N := 19) (j := 8) (ty := .array .int) (fs2 := [.int 0, .int 0, .ref (q1), .ref (q2), .ref (q3), .ref (q4), .ref (q5), .ref (q6), .ref (q7), .null, .null, .null, .null, .null, .null, .null, .null, .null, .null]) iw7 tyX7_ok nmX7 rfl (by decide) mw_137 rfl rfl (by decide +kernel) rfl rfl (Nat.le_of_ble_eq_true rfl) rfl dX7_init_57 ?_
  refine C_aload_n (i := 0) dX7_init_60 rfl rfl ?_
  refine C_sipush (v := 320) dX7_init_61 rfl ?_
  refine C_newaH (N := 320) mw_47 (by decide) rfl (Nat.le_of_ble_eq_true rfl) (Nat.le_of_ble_eq_true rfl) (Nat.le_of_ble_eq_true rfl) dX7_init_64 (fun q8 => ?_)
  refine C_putF (C := RX7) (T := TX7) (N := 19) (j := 9) (ty := .array .int) (fs2 := [.int 0, .int 0, .ref (q1), .ref (q2), .ref (q3), .ref (q4), .ref (q5), .ref (q6), .ref (q7), .ref (q8), .null, .null, .null, .null, .null, .null, .null, .null, .null]) iw7 tyX7_ok nmX7 rfl (by decide) mw_140 rfl rfl (by decide +kernel) rfl rfl (Nat.le_of_ble_eq_true rfl) rfl dX7_init_66 ?_
  refine C_aload_n (i := 0) dX7_init_69 rfl rfl ?_
  refine C_bipush (v := 8) dX7_init_70 rfl ?_
  refine C_newaH (N := 8) mw_47 (by decide) rfl (Nat.le_of_ble_eq_true rfl) (Nat.le_of_ble_eq_true rfl) (Nat.le_of_ble_eq_true rfl) dX7_init_72 (fun q9 => ?_)
  refine C_putF (C := RX7) (T := TX7) (N := 19) (j := 10) (ty := .array .int) (fs2 := [.int 0, .int 0, .ref (q1), .ref (q2), .ref (q3), .ref (q4), .ref (q5), .ref (q6), .ref (q7), .ref (q8), .ref (q9), .null, .null, .null, .null, .null, .null, .null, .null]) iw7 tyX7_ok nmX7 rfl (by decide) mw_141 rfl rfl (by decide +kernel) rfl rfl (Nat.le_of_ble_eq_true rfl) rfl dX7_init_74 ?_
  refine C_aload_n (i := 0) dX7_init_77 rfl rfl ?_
  refine C_iconst (v := 3) dX7_init_78 rfl ?_
  refine C_newaH (N := 3) mw_47 (by decide) rfl (Nat.le_of_ble_eq_true rfl) (Nat.le_of_ble_eq_true rfl) (Nat.le_of_ble_eq_true rfl) dX7_init_79 (fun q10 => ?_)
  refine C_putF (C := RX7) (T := TX7) (N := 19) (j := 11) (ty := .array .int) (fs2 := [.int 0, .int 0, .ref (q1), .ref (q2), .ref (q3), .ref (q4), .ref (q5), .ref (q6), .ref (q7), .ref (q8), .ref (q9), .ref (q10), .null, .null, .null, .null, .null, .null, .null]) iw7 tyX7_ok nmX7 rfl (by decide) mw_146 rfl rfl (by decide +kernel) rfl rfl (Nat.le_of_ble_eq_true rfl) rfl dX7_init_81 ?_
  refine C_aload_n (i := 0) dX7_init_84 rfl rfl ?_
  refine C_bipush (v := 8) dX7_init_85 rfl ?_
  refine C_newaH (N := 8) mw_47 (by decide) rfl (Nat.le_of_ble_eq_true rfl) (Nat.le_of_ble_eq_true rfl) (Nat.le_of_ble_eq_true rfl) dX7_init_87 (fun q11 => ?_)
  refine C_putF (C := RX7) (T := TX7) (N := 19) (j := 12) (ty := .array .int) (fs2 := [.int 0, .int 0, .ref (q1), .ref (q2), .ref (q3), .ref (q4), .ref (q5), .ref (q6), .ref (q7), .ref (q8), .ref (q9), .ref (q10), .ref (q11), .null, .null, .null, .null, .null, .null]) iw7 tyX7_ok nmX7 rfl (by decide) mw_150 rfl rfl (by decide +kernel) rfl rfl (Nat.le_of_ble_eq_true rfl) rfl dX7_init_89 ?_
  refine C_aload_n (i := 0) dX7_init_92 rfl rfl ?_
  refine C_newH (C := RX4) (T := TX4) (N := 2) (ci := 4) (fs := [.null, .int 0]) iw4 tyX4_ok mw_84 mw_85 mw_5 rfl (by decide) (Nat.le_of_ble_eq_true rfl) (Nat.le_of_ble_eq_true rfl) dX7_init_93 (fun q12 => ?_)
  refine C_dup dX7_init_96 rfl ?_
  refine C_bipush (v := 80) dX7_init_97 rfl ?_
  refine C_callH (rm2 := (rmK4 80)) (fun sz => kc4 l Ω q12 sz 80 80 rfl (by decide) (Nat.le_of_ble_eq_true rfl)) ⟨mw_88, mw_5, by decide +kernel⟩ rfl mw_87 mw_86 rfl rfl (Nat.le_of_ble_eq_true rfl) rfl rfl ⟨by decide, by decide⟩ ⟨(Nat.le_of_ble_eq_true rfl), (Nat.le_of_ble_eq_true rfl)⟩ dX7_init_99 (fun a13 h => ?_)
  subst h
  refine C_putF (C := RX7) (T := TX7) (N := 19) (j := 13) (ty := .object "NurseryHeap$Line") (fs2 := [.int 0, .int 0, .ref (q1), .ref (q2), .ref (q3), .ref (q4), .ref (q5), .ref (q6), .ref (q7), .ref (q8), .ref (q9), .ref (q10), .ref (q11), .ref (a13 0), .null, .null, .null, .null, .null]) iw7 tyX7_ok nmX7 rfl (by decide) mw_153 rfl rfl (by decide +kernel) rfl rfl (Nat.le_of_ble_eq_true rfl) rfl dX7_init_102 ?_
  refine C_aload_n (i := 0) dX7_init_105 rfl rfl ?_
  refine C_newH (C := RX4) (T := TX4) (N := 2) (ci := 4) (fs := [.null, .int 0]) iw4 tyX4_ok mw_84 mw_85 mw_5 rfl (by decide) (Nat.le_of_ble_eq_true rfl) (Nat.le_of_ble_eq_true rfl) dX7_init_106 (fun q14 => ?_)
  refine C_dup dX7_init_109 rfl ?_
  refine C_bipush (v := 40) dX7_init_110 rfl ?_
  refine C_callH (rm2 := (rmK4 40)) (fun sz => kc4 l Ω q14 sz 40 40 rfl (by decide) (Nat.le_of_ble_eq_true rfl)) ⟨mw_88, mw_5, by decide +kernel⟩ rfl mw_87 mw_86 rfl rfl (Nat.le_of_ble_eq_true rfl) rfl rfl ⟨by decide, by decide⟩ ⟨(Nat.le_of_ble_eq_true rfl), (Nat.le_of_ble_eq_true rfl)⟩ dX7_init_112 (fun a15 h => ?_)
  subst h
  refine C_putF (C := RX7) (T := TX7) (N := 19) (j := 14) (ty := .object "NurseryHeap$Line") (fs2 := [.int 0, .int 0, .ref (q1), .ref (q2), .ref (q3), .ref (q4), .ref (q5), .ref (q6), .ref (q7), .ref (q8), .ref (q9), .ref (q10), .ref (q11), .ref (a13 0), .ref (a15 0), .null, .null, .null, .null]) iw7 tyX7_ok nmX7 rfl (by decide) mw_158 rfl rfl (by decide +kernel) rfl rfl (Nat.le_of_ble_eq_true rfl) rfl dX7_init_115 ?_
  refine C_aload_n (i := 0) dX7_init_118 rfl rfl ?_
  refine C_newH (C := RX4) (T := TX4) (N := 2) (ci := 4) (fs := [.null, .int 0]) iw4 tyX4_ok mw_84 mw_85 mw_5 rfl (by decide) (Nat.le_of_ble_eq_true rfl) (Nat.le_of_ble_eq_true rfl) dX7_init_119 (fun q16 => ?_)
  refine C_dup dX7_init_122 rfl ?_
  refine C_bipush (v := 80) dX7_init_123 rfl ?_
  refine C_callH (rm2 := (rmK4 80)) (fun sz => kc4 l Ω q16 sz 80 80 rfl (by decide) (Nat.le_of_ble_eq_true rfl)) ⟨mw_88, mw_5, by decide +kernel⟩ rfl mw_87 mw_86 rfl rfl (Nat.le_of_ble_eq_true rfl) rfl rfl ⟨by decide, by decide⟩ ⟨(Nat.le_of_ble_eq_true rfl), (Nat.le_of_ble_eq_true rfl)⟩ dX7_init_125 (fun a17 h => ?_)
  subst h
  refine C_putF (C := RX7) (T := TX7) (N := 19) (j := 15) (ty := .object "NurseryHeap$Line") (fs2 := [.int 0, .int 0, .ref (q1), .ref (q2), .ref (q3), .ref (q4), .ref (q5), .ref (q6), .ref (q7), .ref (q8), .ref (q9), .ref (q10), .ref (q11), .ref (a13 0), .ref (a15 0), .ref (a17 0), .null, .null, .null]) iw7 tyX7_ok nmX7 rfl (by decide) mw_162 rfl rfl (by decide +kernel) rfl rfl (Nat.le_of_ble_eq_true rfl) rfl dX7_init_128 ?_
  refine C_aload_n (i := 0) dX7_init_131 rfl rfl ?_
  refine C_newH (C := RX4) (T := TX4) (N := 2) (ci := 4) (fs := [.null, .int 0]) iw4 tyX4_ok mw_84 mw_85 mw_5 rfl (by decide) (Nat.le_of_ble_eq_true rfl) (Nat.le_of_ble_eq_true rfl) dX7_init_132 (fun q18 => ?_)
  refine C_dup dX7_init_135 rfl ?_
  refine C_bipush (v := 60) dX7_init_136 rfl ?_
  refine C_callH (rm2 := (rmK4 60)) (fun sz => kc4 l Ω q18 sz 60 60 rfl (by decide) (Nat.le_of_ble_eq_true rfl)) ⟨mw_88, mw_5, by decide +kernel⟩ rfl mw_87 mw_86 rfl rfl (Nat.le_of_ble_eq_true rfl) rfl rfl ⟨by decide, by decide⟩ ⟨(Nat.le_of_ble_eq_true rfl), (Nat.le_of_ble_eq_true rfl)⟩ dX7_init_138 (fun a19 h => ?_)
  subst h
  refine C_putF (C := RX7) (T := TX7) (N := 19) (j := 16) (ty := .object "NurseryHeap$Line") (fs2 := [.int 0, .int 0, .ref (q1), .ref (q2), .ref (q3), .ref (q4), .ref (q5), .ref (q6), .ref (q7), .ref (q8), .ref (q9), .ref (q10), .ref (q11), .ref (a13 0), .ref (a15 0), .ref (a17 0), .ref (a19 0), .null, .null]) iw7 tyX7_ok nmX7 rfl (by decide) mw_165 rfl rfl (by decide +kernel) rfl rfl (Nat.le_of_ble_eq_true rfl) rfl dX7_init_141 ?_
  refine C_aload_n (i := 0) dX7_init_144 rfl rfl ?_
  refine C_newH (C := RX4) (T := TX4) (N := 2) (ci := 4) (fs := [.null, .int 0]) iw4 tyX4_ok mw_84 mw_85 mw_5 rfl (by decide) (Nat.le_of_ble_eq_true rfl) (Nat.le_of_ble_eq_true rfl) dX7_init_145 (fun q20 => ?_)
  refine C_dup dX7_init_148 rfl ?_
  refine C_bipush (v := 60) dX7_init_149 rfl ?_
  refine C_callH (rm2 := (rmK4 60)) (fun sz => kc4 l Ω q20 sz 60 60 rfl (by decide) (Nat.le_of_ble_eq_true rfl)) ⟨mw_88, mw_5, by decide +kernel⟩ rfl mw_87 mw_86 rfl rfl (Nat.le_of_ble_eq_true rfl) rfl rfl ⟨by decide, by decide⟩ ⟨(Nat.le_of_ble_eq_true rfl), (Nat.le_of_ble_eq_true rfl)⟩ dX7_init_151 (fun a21 h => ?_)
  subst h
  refine C_putF (C := RX7) (T := TX7) (N := 19) (j := 17) (ty := .object "NurseryHeap$Line") (fs2 := [.int 0, .int 0, .ref (q1), .ref (q2), .ref (q3), .ref (q4), .ref (q5), .ref (q6), .ref (q7), .ref (q8), .ref (q9), .ref (q10), .ref (q11), .ref (a13 0), .ref (a15 0), .ref (a17 0), .ref (a19 0), .ref (a21 0), .null]) iw7 tyX7_ok nmX7 rfl (by decide) mw_167 rfl rfl (by decide +kernel) rfl rfl (Nat.le_of_ble_eq_true rfl) rfl dX7_init_154 ?_
  refine C_aload_n (i := 0) dX7_init_157 rfl rfl ?_
  refine C_newH (C := RX4) (T := TX4) (N := 2) (ci := 4) (fs := [.null, .int 0]) iw4 tyX4_ok mw_84 mw_85 mw_5 rfl (by decide) (Nat.le_of_ble_eq_true rfl) (Nat.le_of_ble_eq_true rfl) dX7_init_158 (fun q22 => ?_)
  refine C_dup dX7_init_161 rfl ?_
  refine C_bipush (v := 60) dX7_init_162 rfl ?_
  refine C_callH (rm2 := (rmK4 60)) (fun sz => kc4 l Ω q22 sz 60 60 rfl (by decide) (Nat.le_of_ble_eq_true rfl)) ⟨mw_88, mw_5, by decide +kernel⟩ rfl mw_87 mw_86 rfl rfl (Nat.le_of_ble_eq_true rfl) rfl rfl ⟨by decide, by decide⟩ ⟨(Nat.le_of_ble_eq_true rfl), (Nat.le_of_ble_eq_true rfl)⟩ dX7_init_164 (fun a23 h => ?_)
  subst h
  refine C_putF (C := RX7) (T := TX7) (N := 19) (j := 18) (ty := .object "NurseryHeap$Line") (fs2 := [.int 0, .int 0, .ref (q1), .ref (q2), .ref (q3), .ref (q4), .ref (q5), .ref (q6), .ref (q7), .ref (q8), .ref (q9), .ref (q10), .ref (q11), .ref (a13 0), .ref (a15 0), .ref (a17 0), .ref (a19 0), .ref (a21 0), .ref (a23 0)]) iw7 tyX7_ok nmX7 rfl (by decide) mw_169 rfl rfl (by decide +kernel) rfl rfl (Nat.le_of_ble_eq_true rfl) rfl dX7_init_167 ?_
  refine C_aload_n (i := 0) dX7_init_170 rfl rfl ?_
  refine C_get foX7_36 rfl dX7_init_171 ?_
  refine C_iconst (v := (-1)) dX7_init_174 rfl ?_
  refine C_eq (ws2 := ((h0, .inr (7, [.int 0, .int 0, .ref (q1), .ref (q2), .ref (q3), .ref (q4), .ref (q5), .ref (q6), .ref (q7), .ref (q8), .ref (q9), .ref (q10), .ref (q11), .ref (a13 0), .ref (a15 0), .ref (a17 0), .ref (a19 0), .ref (a21 0), .ref (a23 0)])) :: [(q1, .inl (Ω.2.1 0, 80, .inl (fun _ => 0))), (q2, .inl (Ω.2.1 0, 80, .inl (fun _ => 0))), (q3, .inl (Ω.2.1 0, 80, .inl (fun _ => 0))), (q4, .inl (Ω.2.1 0, 80, .inl (fun _ => 0))), (q5, .inl (Ω.2.1 0, 80, .inl (fun _ => 0))), (q6, .inl (Ω.2.1 0, 80, .inl (fun _ => 0))), (q7, .inl (Ω.2.1 0, 80, .inl (fun _ => 0))), (q8, .inl (Ω.2.1 0, 320, .inl (fun _ => 0)))]) ++ (q9, .inl (Ω.2.1 0, 8, .inl (fun _ => 0))) :: [(q10, .inl (Ω.2.1 0, 3, .inl (fun _ => 0))), (q11, .inl (Ω.2.1 0, 8, .inl (fun _ => 0))), (a13 0, .inr (4, [.ref (a13 1), .int 0])), (a13 1, .inl (Ω.2.1 0, 80, .inl (fun _ => 0))), (a15 0, .inr (4, [.ref (a15 1), .int 0])), (a15 1, .inl (Ω.2.1 0, 40, .inl (fun _ => 0))), (a17 0, .inr (4, [.ref (a17 1), .int 0])), (a17 1, .inl (Ω.2.1 0, 80, .inl (fun _ => 0))), (a19 0, .inr (4, [.ref (a19 1), .int 0])), (a19 1, .inl (Ω.2.1 0, 60, .inl (fun _ => 0))), (a21 0, .inr (4, [.ref (a21 1), .int 0])), (a21 1, .inl (Ω.2.1 0, 60, .inl (fun _ => 0))), (a23 0, .inr (4, [.ref (a23 1), .int 0])), (a23 1, .inl (Ω.2.1 0, 60, .inl (fun _ => 0)))]) rfl ?_
  refine C_fill okJ7_fill_53178 mw_105 (Nat.le_of_ble_eq_true rfl) ⟨by decide, by decide⟩ ⟨(Nat.le_of_ble_eq_true rfl), (Nat.le_of_ble_eq_true rfl)⟩ dX7_init_175 ?_
  exact C_ret (fun i => ([h0, q1, q2, q3, q4, q5, q6, q7, q8, q9, q10, q11, a13 0, a13 1, a15 0, a15 1, a17 0, a17 1, a19 0, a19 1, a21 0, a21 1, a23 0, a23 1] : List Nat).getD i 0) rfl rfl (Nat.le_of_ble_eq_true rfl) (Nat.le_of_ble_eq_true rfl) dX7_init_178
set_option maxRecDepth 100000 in
set_option maxHeartbeats 4000000 in
theorem kc8 (l : Launch) (Ω : rO) (h0 sz : Nat) : CtC l Ω yX8_init cX8_init 1 rmK8 h0 sz 8 [.null, .int 0] [] 1 240 (oc8 Ω) := by
  refine CtC.of (own := RX8) (lv := [some (.ref (h0))]) (by decide) rfl rfl (Nat.le_of_ble_eq_true rfl) rfl ?_
  refine C_aload_n (i := 0) dX8_init_0 rfl rfl ?_
  refine C_objInit mw_37 mw_30 mw_31 (Nat.le_of_ble_eq_true rfl) (Nat.le_of_ble_eq_true rfl) dX8_init_1 ?_
  refine C_aload_n (i := 0) dX8_init_4 rfl rfl ?_
  refine C_sipush (v := 240) dX8_init_5 rfl ?_
  refine C_newaH (N := 240) mw_47 (by decide) rfl (Nat.le_of_ble_eq_true rfl) (Nat.le_of_ble_eq_true rfl) (Nat.le_of_ble_eq_true rfl) dX8_init_8 (fun q1 => ?_)
  refine C_putF (C := RX8) (T := TX8) (N := 2) (j := 0) (ty := .array .int) (fs2 := [.ref (q1), .int 0]) iw8 tyX8_ok nmX8 rfl (by decide) mw_38 rfl rfl (by decide +kernel) rfl rfl (Nat.le_of_ble_eq_true rfl) rfl dX8_init_10 ?_
  exact C_ret (fun i => ([h0, q1] : List Nat).getD i 0) rfl rfl (Nat.le_of_ble_eq_true rfl) (Nat.le_of_ble_eq_true rfl) dX8_init_13
set_option maxRecDepth 100000 in
set_option maxHeartbeats 4000000 in
theorem kc6 (l : Launch) (Ω : rO) (h0 sz : Nat) (t1 : Nat) : CtC l Ω yX6_init cX6_init 2 rmK6 h0 sz 6 [.null, .null, .null, .int 0, .int 0, .int 0] [.ref (t1)] 2 84 (oc6 Ω t1) := by
  refine CtC.of (own := RX6) (lv := [some (.ref (h0)), some (.ref (t1))]) (by decide) rfl rfl (Nat.le_of_ble_eq_true rfl) rfl ?_
  refine C_aload_n (i := 0) dX6_init_0 rfl rfl ?_
  refine C_objInit mw_53 mw_30 mw_31 (Nat.le_of_ble_eq_true rfl) (Nat.le_of_ble_eq_true rfl) dX6_init_1 ?_
  refine C_aload_n (i := 0) dX6_init_4 rfl rfl ?_
  refine C_iconst (v := 4) dX6_init_5 rfl ?_
  refine C_newaH (N := 4) mw_47 (by decide) rfl (Nat.le_of_ble_eq_true rfl) (Nat.le_of_ble_eq_true rfl) (Nat.le_of_ble_eq_true rfl) dX6_init_6 (fun q1 => ?_)
  refine C_putF (C := RX6) (T := TX6) (N := 6) (j := 1) (ty := .array .int) (fs2 := [.null, .ref (q1), .null, .int 0, .int 0, .int 0]) iw6 tyX6_ok nmX6 rfl (by decide) mw_55 rfl rfl (by decide +kernel) rfl rfl (Nat.le_of_ble_eq_true rfl) rfl dX6_init_8 ?_
  refine C_aload_n (i := 0) dX6_init_11 rfl rfl ?_
  refine C_bipush (v := 80) dX6_init_12 rfl ?_
  refine C_newaH (N := 80) mw_47 (by decide) rfl (Nat.le_of_ble_eq_true rfl) (Nat.le_of_ble_eq_true rfl) (Nat.le_of_ble_eq_true rfl) dX6_init_14 (fun q2 => ?_)
  refine C_putF (C := RX6) (T := TX6) (N := 6) (j := 2) (ty := .array .int) (fs2 := [.null, .ref (q1), .ref (q2), .int 0, .int 0, .int 0]) iw6 tyX6_ok nmX6 rfl (by decide) mw_57 rfl rfl (by decide +kernel) rfl rfl (Nat.le_of_ble_eq_true rfl) rfl dX6_init_16 ?_
  refine C_aload_n (i := 0) dX6_init_19 rfl rfl ?_
  refine C_aload_n (i := 1) dX6_init_20 rfl rfl ?_
  refine C_putF (C := RX6) (T := TX6) (N := 6) (j := 0) (ty := .object "NurseryHeap$Tape") (fs2 := [.ref (t1), .ref (q1), .ref (q2), .int 0, .int 0, .int 0]) iw6 tyX6_ok nmX6 rfl (by decide) mw_54 rfl rfl (by decide +kernel) rfl rfl (Nat.le_of_ble_eq_true rfl) rfl dX6_init_21 ?_
  exact C_ret (fun i => ([h0, q1, q2] : List Nat).getD i 0) rfl rfl (Nat.le_of_ble_eq_true rfl) (Nat.le_of_ble_eq_true rfl) dX6_init_24
set_option maxRecDepth 100000 in
set_option maxHeartbeats 4000000 in
theorem kc3 (l : Launch) (Ω : rO) (h0 sz : Nat) : CtC l Ω yX3_init cX3_init 1 rmK3 h0 sz 3 [.null, .null, .null, .null, .null, .null, .null, .int 0] [] 7 560 (oc3 Ω) := by
  refine CtC.of (own := RX3) (lv := [some (.ref (h0))]) (by decide) rfl rfl (Nat.le_of_ble_eq_true rfl) rfl ?_
  refine C_aload_n (i := 0) dX3_init_0 rfl rfl ?_
  refine C_objInit mw_234 mw_30 mw_31 (Nat.le_of_ble_eq_true rfl) (Nat.le_of_ble_eq_true rfl) dX3_init_1 ?_
  refine C_aload_n (i := 0) dX3_init_4 rfl rfl ?_
  refine C_bipush (v := 80) dX3_init_5 rfl ?_
  refine C_newaH (N := 80) mw_47 (by decide) rfl (Nat.le_of_ble_eq_true rfl) (Nat.le_of_ble_eq_true rfl) (Nat.le_of_ble_eq_true rfl) dX3_init_7 (fun q1 => ?_)
  refine C_putF (C := RX3) (T := TX3) (N := 8) (j := 0) (ty := .array .int) (fs2 := [.ref (q1), .null, .null, .null, .null, .null, .null, .int 0]) iw3 tyX3_ok nmX3 rfl (by decide) mw_235 rfl rfl (by decide +kernel) rfl rfl (Nat.le_of_ble_eq_true rfl) rfl dX3_init_9 ?_
  refine C_aload_n (i := 0) dX3_init_12 rfl rfl ?_
  refine C_bipush (v := 80) dX3_init_13 rfl ?_
  refine C_newaH (N := 80) mw_47 (by decide) rfl (Nat.le_of_ble_eq_true rfl) (Nat.le_of_ble_eq_true rfl) (Nat.le_of_ble_eq_true rfl) dX3_init_15 (fun q2 => ?_)
  refine C_putF (C := RX3) (T := TX3) (N := 8) (j := 1) (ty := .array .int) (fs2 := [.ref (q1), .ref (q2), .null, .null, .null, .null, .null, .int 0]) iw3 tyX3_ok nmX3 rfl (by decide) mw_236 rfl rfl (by decide +kernel) rfl rfl (Nat.le_of_ble_eq_true rfl) rfl dX3_init_17 ?_
  refine C_aload_n (i := 0) dX3_init_20 rfl rfl ?_
  refine C_bipush (v := 80) dX3_init_21 rfl ?_
  refine C_newaH (N := 80) mw_47 (by decide) rfl (Nat.le_of_ble_eq_true rfl) (Nat.le_of_ble_eq_true rfl) (Nat.le_of_ble_eq_true rfl) dX3_init_23 (fun q3 => ?_)
  refine C_putF (C := RX3) (T := TX3) (N := 8) (j := 2) (ty := .array .int) (fs2 := [.ref (q1), .ref (q2), .ref (q3), .null, .null, .null, .null, .int 0]) iw3 tyX3_ok nmX3 rfl (by decide) mw_238 rfl rfl (by decide +kernel) rfl rfl (Nat.le_of_ble_eq_true rfl) rfl dX3_init_25 ?_
  refine C_aload_n (i := 0) dX3_init_28 rfl rfl ?_
  refine C_bipush (v := 80) dX3_init_29 rfl ?_
  refine C_newaH (N := 80) mw_47 (by decide) rfl (Nat.le_of_ble_eq_true rfl) (Nat.le_of_ble_eq_true rfl) (Nat.le_of_ble_eq_true rfl) dX3_init_31 (fun q4 => ?_)
  refine C_putF (C := RX3) (T := TX3) (N := 8) (j := 3) (ty := .array .int) (fs2 := [.ref (q1), .ref (q2), .ref (q3), .ref (q4), .null, .null, .null, .int 0]) iw3 tyX3_ok nmX3 rfl (by decide) mw_239 rfl rfl (by decide +kernel) rfl rfl (Nat.le_of_ble_eq_true rfl) rfl dX3_init_33 ?_
  refine C_aload_n (i := 0) dX3_init_36 rfl rfl ?_
  refine C_bipush (v := 80) dX3_init_37 rfl ?_
  refine C_newaH (N := 80) mw_47 (by decide) rfl (Nat.le_of_ble_eq_true rfl) (Nat.le_of_ble_eq_true rfl) (Nat.le_of_ble_eq_true rfl) dX3_init_39 (fun q5 => ?_)
  refine C_putF (C := RX3) (T := TX3) (N := 8) (j := 4) (ty := .array .int) (fs2 := [.ref (q1), .ref (q2), .ref (q3), .ref (q4), .ref (q5), .null, .null, .int 0]) iw3 tyX3_ok nmX3 rfl (by decide) mw_240 rfl rfl (by decide +kernel) rfl rfl (Nat.le_of_ble_eq_true rfl) rfl dX3_init_41 ?_
  refine C_aload_n (i := 0) dX3_init_44 rfl rfl ?_
  refine C_bipush (v := 80) dX3_init_45 rfl ?_
  refine C_newaH (N := 80) mw_47 (by decide) rfl (Nat.le_of_ble_eq_true rfl) (Nat.le_of_ble_eq_true rfl) (Nat.le_of_ble_eq_true rfl) dX3_init_47 (fun q6 => ?_)
  refine C_putF (C := RX3) (T := TX3) (N := 8) (j := 5) (ty := .array .int) (fs2 := [.ref (q1), .ref (q2), .ref (q3), .ref (q4), .ref (q5), .ref (q6), .null, .int 0]) iw3 tyX3_ok nmX3 rfl (by decide) mw_241 rfl rfl (by decide +kernel) rfl rfl (Nat.le_of_ble_eq_true rfl) rfl dX3_init_49 ?_
  refine C_aload_n (i := 0) dX3_init_52 rfl rfl ?_
  refine C_bipush (v := 80) dX3_init_53 rfl ?_
  refine C_newaH (N := 80) mw_47 (by decide) rfl (Nat.le_of_ble_eq_true rfl) (Nat.le_of_ble_eq_true rfl) (Nat.le_of_ble_eq_true rfl) dX3_init_55 (fun q7 => ?_)
  refine C_putF (C := RX3) (T := TX3) (N := 8) (j := 6) (ty := .array .int) (fs2 := [.ref (q1), .ref (q2), .ref (q3), .ref (q4), .ref (q5), .ref (q6), .ref (q7), .int 0]) iw3 tyX3_ok nmX3 rfl (by decide) mw_242 rfl rfl (by decide +kernel) rfl rfl (Nat.le_of_ble_eq_true rfl) rfl dX3_init_57 ?_
  exact C_ret (fun i => ([h0, q1, q2, q3, q4, q5, q6, q7] : List Nat).getD i 0) rfl rfl (Nat.le_of_ble_eq_true rfl) (Nat.le_of_ble_eq_true rfl) dX3_init_60
set_option maxRecDepth 100000 in
set_option maxHeartbeats 4000000 in
theorem kc5 (l : Launch) (Ω : rO) (h0 sz : Nat) : CtC l Ω yX5_init cX5_init 1 rmK5 h0 sz 5 [.null, .int 0, .int 0] [] 1 41 (oc5 Ω) := by
  refine CtC.of (own := RX5) (lv := [some (.ref (h0))]) (by decide) rfl rfl (Nat.le_of_ble_eq_true rfl) rfl ?_
  refine C_aload_n (i := 0) dX5_init_0 rfl rfl ?_
  refine C_objInit mw_215 mw_30 mw_31 (Nat.le_of_ble_eq_true rfl) (Nat.le_of_ble_eq_true rfl) dX5_init_1 ?_
  refine C_aload_n (i := 0) dX5_init_4 rfl rfl ?_
  refine C_bipush (v := 41) dX5_init_5 rfl ?_
  refine C_anew (N := 41) mw_216 (by decide) rfl (Nat.le_of_ble_eq_true rfl) (Nat.le_of_ble_eq_true rfl) (Nat.le_of_ble_eq_true rfl) dX5_init_7 (fun q1 => ?_)
  refine C_putF (C := RX5) (T := TX5) (N := 3) (j := 0) (ty := .array (.object "NurseryHeap$State")) (fs2 := [.ref (q1), .int 0, .int 0]) iw5 tyX5_ok nmX5 rfl (by decide) mw_218 rfl rfl (by decide +kernel) rfl rfl (Nat.le_of_ble_eq_true rfl) rfl dX5_init_10 ?_
  exact C_ret (fun i => ([h0, q1] : List Nat).getD i 0) rfl rfl (Nat.le_of_ble_eq_true rfl) (Nat.le_of_ble_eq_true rfl) dX5_init_13
set_option maxRecDepth 100000 in
set_option maxHeartbeats 4000000 in
theorem kc1 (l : Launch) (Ω : rO) (h0 sz : Nat) (t1 t2 : Nat) : CtC l Ω yX1_init cX1_init 3 rmK1 h0 sz 1 [.null, .null, .null, .null, .null, .null, .null, .null, .null, .null, .int 0, .int 0] [.ref (t1), .ref (t2)] 8 536 (oc1 Ω t1 t2) := by
  refine CtC.of (own := RX1) (lv := [some (.ref (h0)), some (.ref (t1)), some (.ref (t2))]) (by decide) rfl rfl (Nat.le_of_ble_eq_true rfl) rfl ?_
  refine C_aload_n (i := 0) dX1_init_0 rfl rfl ?_
  refine C_objInit mw_268 mw_30 mw_31 (Nat.le_of_ble_eq_true rfl) (Nat.le_of_ble_eq_true rfl) dX1_init_1 ?_
  refine C_aload_n (i := 0) dX1_init_4 rfl rfl ?_
  refine C_iconst (v := 5) dX1_init_5 rfl ?_
  refine C_newaH (N := 5) mw_47 (by decide) rfl (Nat.le_of_ble_eq_true rfl) (Nat.le_of_ble_eq_true rfl) (Nat.le_of_ble_eq_true rfl) dX1_init_6 (fun q1 => ?_)
  refine C_putF (C := RX1) (T := TX1) (N := 12) (j := 2) (ty := .array .int) (fs2 := [.null, .null, .ref (q1), .null, .null, .null, .null, .null, .null, .null, .int 0, .int 0]) iw1 tyX1_ok nmX1 rfl (by decide) mw_271 rfl rfl (by decide +kernel) rfl rfl (Nat.le_of_ble_eq_true rfl) rfl dX1_init_8 ?_
  refine C_aload_n (i := 0) dX1_init_11 rfl rfl ?_
  refine C_bipush (v := 80) dX1_init_12 rfl ?_
  refine C_newaH (N := 80) mw_47 (by decide) rfl (Nat.le_of_ble_eq_true rfl) (Nat.le_of_ble_eq_true rfl) (Nat.le_of_ble_eq_true rfl) dX1_init_14 (fun q2 => ?_)
  refine C_putF (C := RX1) (T := TX1) (N := 12) (j := 3) (ty := .array .int) (fs2 := [.null, .null, .ref (q1), .ref (q2), .null, .null, .null, .null, .null, .null, .int 0, .int 0]) iw1 tyX1_ok nmX1 rfl (by decide) mw_274 rfl rfl (by decide +kernel) rfl rfl (Nat.le_of_ble_eq_true rfl) rfl dX1_init_16 ?_
  refine C_aload_n (i := 0) dX1_init_19 rfl rfl ?_
  refine C_bipush (v := 80) dX1_init_20 rfl ?_
  refine C_newaH (N := 80) mw_47 (by decide) rfl (Nat.le_of_ble_eq_true rfl) (Nat.le_of_ble_eq_true rfl) (Nat.le_of_ble_eq_true rfl) dX1_init_22 (fun q3 => ?_)
  refine C_putF (C := RX1) (T := TX1) (N := 12) (j := 4) (ty := .array .int) (fs2 := [.null, .null, .ref (q1), .ref (q2), .ref (q3), .null, .null, .null, .null, .null, .int 0, .int 0]) iw1 tyX1_ok nmX1 rfl (by decide) mw_275 rfl rfl (by decide +kernel) rfl rfl (Nat.le_of_ble_eq_true rfl) rfl dX1_init_24 ?_
  refine C_aload_n (i := 0) dX1_init_27 rfl rfl ?_
  refine C_bipush (v := 80) dX1_init_28 rfl ?_
  refine C_newaH (N := 80) mw_47 (by decide) rfl (Nat.le_of_ble_eq_true rfl) (Nat.le_of_ble_eq_true rfl) (Nat.le_of_ble_eq_true rfl) dX1_init_30 (fun q4 => ?_)
  refine C_putF (C := RX1) (T := TX1) (N := 12) (j := 5) (ty := .array .int) (fs2 := [.null, .null, .ref (q1), .ref (q2), .ref (q3), .ref (q4), .null, .null, .null, .null, .int 0, .int 0]) iw1 tyX1_ok nmX1 rfl (by decide) mw_276 rfl rfl (by decide +kernel) rfl rfl (Nat.le_of_ble_eq_true rfl) rfl dX1_init_32 ?_
  refine C_aload_n (i := 0) dX1_init_35 rfl rfl ?_
  refine C_bipush (v := 80) dX1_init_36 rfl ?_
  refine C_newaH (N := 80) mw_47 (by decide) rfl (Nat.le_of_ble_eq_true rfl) (Nat.le_of_ble_eq_true rfl) (Nat.le_of_ble_eq_true rfl) dX1_init_38 (fun q5 => ?_)
  refine C_putF (C := RX1) (T := TX1) (N := 12) (j := 6) (ty := .array .int) (fs2 := [.null, .null, .ref (q1), .ref (q2), .ref (q3), .ref (q4), .ref (q5), .null, .null, .null, .int 0, .int 0]) iw1 tyX1_ok nmX1 rfl (by decide) mw_277 rfl rfl (by decide +kernel) rfl rfl (Nat.le_of_ble_eq_true rfl) rfl dX1_init_40 ?_
  refine C_aload_n (i := 0) dX1_init_43 rfl rfl ?_
  refine C_bipush (v := 80) dX1_init_44 rfl ?_
  refine C_newaH (N := 80) mw_47 (by decide) rfl (Nat.le_of_ble_eq_true rfl) (Nat.le_of_ble_eq_true rfl) (Nat.le_of_ble_eq_true rfl) dX1_init_46 (fun q6 => ?_)
  refine C_putF (C := RX1) (T := TX1) (N := 12) (j := 7) (ty := .array .int) (fs2 := [.null, .null, .ref (q1), .ref (q2), .ref (q3), .ref (q4), .ref (q5), .ref (q6), .null, .null, .int 0, .int 0]) iw1 tyX1_ok nmX1 rfl (by decide) mw_278 rfl rfl (by decide +kernel) rfl rfl (Nat.le_of_ble_eq_true rfl) rfl dX1_init_48 ?_
  refine C_aload_n (i := 0) dX1_init_51 rfl rfl ?_
  refine C_iconst (v := 3) dX1_init_52 rfl ?_
  refine C_newaH (N := 3) mw_47 (by decide) rfl (Nat.le_of_ble_eq_true rfl) (Nat.le_of_ble_eq_true rfl) (Nat.le_of_ble_eq_true rfl) dX1_init_53 (fun q7 => ?_)
  refine C_putF (C := RX1) (T := TX1) (N := 12) (j := 8) (ty := .array .int) (fs2 := [.null, .null, .ref (q1), .ref (q2), .ref (q3), .ref (q4), .ref (q5), .ref (q6), .ref (q7), .null, .int 0, .int 0]) iw1 tyX1_ok nmX1 rfl (by decide) mw_279 rfl rfl (by decide +kernel) rfl rfl (Nat.le_of_ble_eq_true rfl) rfl dX1_init_55 ?_
  refine C_aload_n (i := 0) dX1_init_58 rfl rfl ?_
  refine C_sipush (v := 128) dX1_init_59 rfl ?_
  refine C_newaH (N := 128) mw_47 (by decide) rfl (Nat.le_of_ble_eq_true rfl) (Nat.le_of_ble_eq_true rfl) (Nat.le_of_ble_eq_true rfl) dX1_init_62 (fun q8 => ?_)
  refine C_putF (C := RX1) (T := TX1) (N := 12) (j := 9) (ty := .array .int) (fs2 := [.null, .null, .ref (q1), .ref (q2), .ref (q3), .ref (q4), .ref (q5), .ref (q6), .ref (q7), .ref (q8), .int 0, .int 0]) iw1 tyX1_ok nmX1 rfl (by decide) mw_280 rfl rfl (by decide +kernel) rfl rfl (Nat.le_of_ble_eq_true rfl) rfl dX1_init_64 ?_
  refine C_aload_n (i := 0) dX1_init_67 rfl rfl ?_
  refine C_aload_n (i := 1) dX1_init_68 rfl rfl ?_
  refine C_putF (C := RX1) (T := TX1) (N := 12) (j := 0) (ty := .array .int) (fs2 := [.ref (t1), .null, .ref (q1), .ref (q2), .ref (q3), .ref (q4), .ref (q5), .ref (q6), .ref (q7), .ref (q8), .int 0, .int 0]) iw1 tyX1_ok nmX1 rfl (by decide) mw_269 rfl rfl (by decide +kernel) rfl rfl (Nat.le_of_ble_eq_true rfl) rfl dX1_init_69 ?_
  refine C_aload_n (i := 0) dX1_init_72 rfl rfl ?_
  refine C_aload_n (i := 2) dX1_init_73 rfl rfl ?_
  refine C_putF (C := RX1) (T := TX1) (N := 12) (j := 1) (ty := .object "NurseryHeap$Graph") (fs2 := [.ref (t1), .ref (t2), .ref (q1), .ref (q2), .ref (q3), .ref (q4), .ref (q5), .ref (q6), .ref (q7), .ref (q8), .int 0, .int 0]) iw1 tyX1_ok nmX1 rfl (by decide) mw_270 rfl rfl (by decide +kernel) rfl rfl (Nat.le_of_ble_eq_true rfl) rfl dX1_init_74 ?_
  exact C_ret (fun i => ([h0, q1, q2, q3, q4, q5, q6, q7, q8] : List Nat).getD i 0) rfl rfl (Nat.le_of_ble_eq_true rfl) (Nat.le_of_ble_eq_true rfl) dX1_init_77
set_option maxRecDepth 100000 in
set_option maxHeartbeats 4000000 in
theorem kc0 (l : Launch) (Ω : rO) (h0 sz : Nat) (t1 t2 : Nat) : CtC l Ω yX0_init cX0_init 3 rmK0 h0 sz 0 [.null, .null, .null] [.ref (t1), .ref (t2)] 24 1310 (oc0 Ω t1 t2) := by
  refine CtC.of (own := RX0) (lv := [some (.ref (h0)), some (.ref (t1)), some (.ref (t2))]) (by decide) rfl rfl (Nat.le_of_ble_eq_true rfl) rfl ?_
  refine C_aload_n (i := 0) dX0_init_0 rfl rfl ?_
  refine C_objInit mw_313 mw_30 mw_31 (Nat.le_of_ble_eq_true rfl) (Nat.le_of_ble_eq_true rfl) dX0_init_1 ?_
  refine C_aload_n (i := 0) dX0_init_4 rfl rfl ?_
  refine C_newH (C := RX7) (T := TX7) (N := 19) (ci := 7) (fs := [.int 0, .int 0, .null, .null, .null, .null, .null, .null, .null, .null, .null, .null, .null, .null, .null, .null, .null, .null, .null]) iw7 tyX7_ok mw_314 mw_79 mw_4 rfl (by decide) (Nat.le_of_ble_eq_true rfl) (Nat.le_of_ble_eq_true rfl) dX0_init_5 (fun q1 => ?_)
  refine C_dup dX0_init_8 rfl ?_
  refine C_callH (rm2 := rmK7) (fun sz => kc7 l Ω q1 sz ) ⟨mw_82, mw_4, by decide +kernel⟩ rfl mw_81 mw_315 rfl rfl (Nat.le_of_ble_eq_true rfl) rfl rfl ⟨by decide, by decide⟩ ⟨(Nat.le_of_ble_eq_true rfl), (Nat.le_of_ble_eq_true rfl)⟩ dX0_init_9 (fun a2 h => ?_)
  subst h
  refine C_putF (C := RX0) (T := TX0) (N := 3) (j := 2) (ty := .object "NurseryHeap$State") (fs2 := [.null, .null, .ref (a2 0)]) iw0 tyX0_ok nmX0 rfl (by decide) mw_318 rfl rfl (by decide +kernel) rfl rfl (Nat.le_of_ble_eq_true rfl) rfl dX0_init_12 ?_
  refine C_aload_n (i := 0) dX0_init_15 rfl rfl ?_
  refine C_aload_n (i := 1) dX0_init_16 rfl rfl ?_
  refine C_putF (C := RX0) (T := TX0) (N := 3) (j := 0) (ty := .array .int) (fs2 := [.ref (t1), .null, .ref (a2 0)]) iw0 tyX0_ok nmX0 rfl (by decide) mw_316 rfl rfl (by decide +kernel) rfl rfl (Nat.le_of_ble_eq_true rfl) rfl dX0_init_17 ?_
  refine C_aload_n (i := 0) dX0_init_20 rfl rfl ?_
  refine C_aload_n (i := 2) dX0_init_21 rfl rfl ?_
  refine C_putF (C := RX0) (T := TX0) (N := 3) (j := 1) (ty := .object "NurseryHeap$Collector") (fs2 := [.ref (t1), .ref (t2), .ref (a2 0)]) iw0 tyX0_ok nmX0 rfl (by decide) mw_317 rfl rfl (by decide +kernel) rfl rfl (Nat.le_of_ble_eq_true rfl) rfl dX0_init_22 ?_
  exact C_ret (fun i => ([h0, a2 0, a2 1, a2 2, a2 3, a2 4, a2 5, a2 6, a2 7, a2 8, a2 9, a2 10, a2 11, a2 12, a2 13, a2 14, a2 15, a2 16, a2 17, a2 18, a2 19, a2 20, a2 21, a2 22, a2 23] : List Nat).getD i 0) rfl rfl (Nat.le_of_ble_eq_true rfl) (Nat.le_of_ble_eq_true rfl) dX0_init_25
set_option maxRecDepth 100000 in
set_option maxHeartbeats 4000000 in
theorem kc10 (l : Launch) (Ω : rO) (h0 sz : Nat) : CtC l Ω yX10_init cX10_init 1 rmK10 h0 sz 10 [.int 0, .null, .int 0, .int 0, .int 0, .null, .null, .null, .null, .null, .int 0, .int 0, .null, .null, .null, .null, .null, .int 0, .int 0, .int 0, .null, .null, .int 0, .null, .int 0, .int 0, .int 0, .int 0, .int 0, .int 0, .int 0, .null, .long 0, .null, .null, .null, .null, .null] [] 20 71227 (oc10 Ω) := by
  refine CtC.of (own := RX10) (lv := [some (.ref (h0))]) (by decide) rfl rfl (Nat.le_of_ble_eq_true rfl) rfl ?_
  refine C_aload_n (i := 0) dX10_init_0 rfl rfl ?_
  refine C_objInit mw_1174 mw_30 mw_31 (Nat.le_of_ble_eq_true rfl) (Nat.le_of_ble_eq_true rfl) dX10_init_1 ?_
  refine C_aload_n (i := 0) dX10_init_4 rfl rfl ?_
  refine C_sipush (v := 240) dX10_init_5 rfl ?_
  refine C_newbH (N := 240) mw_522 (by decide) rfl (Nat.le_of_ble_eq_true rfl) (Nat.le_of_ble_eq_true rfl) (Nat.le_of_ble_eq_true rfl) dX10_init_8 (fun q1 => ?_)
  refine C_putF (C := RX10) (T := TX10) (N := 38) (j := 1) (ty := .array .byte) (fs2 := [.int 0, .ref (q1), .int 0, .int 0, .int 0, .null, .null, .null, .null, .null, .int 0, .int 0, .null, .null, .null, .null, .null, .int 0, .int 0, .int 0, .null, .null, .int 0, .null, .int 0, .int 0, .int 0, .int 0, .int 0, .int 0, .int 0, .null, .long 0, .null, .null, .null, .null, .null]) iw10 tyX10_ok nmX10 rfl (by decide) mw_1177 rfl rfl (by decide +kernel) rfl rfl (Nat.le_of_ble_eq_true rfl) rfl dX10_init_10 ?_
  refine C_aload_n (i := 0) dX10_init_13 rfl rfl ?_
  refine C_iconst (v := 4) dX10_init_14 rfl ?_
  refine C_newaH (N := 4) mw_47 (by decide) rfl (Nat.le_of_ble_eq_true rfl) (Nat.le_of_ble_eq_true rfl) (Nat.le_of_ble_eq_true rfl) dX10_init_15 (fun q2 => ?_)
  refine C_putF (C := RX10) (T := TX10) (N := 38) (j := 5) (ty := .array .int) (fs2 := [.int 0, .ref (q1), .int 0, .int 0, .int 0, .ref (q2), .null, .null, .null, .null, .int 0, .int 0, .null, .null, .null, .null, .null, .int 0, .int 0, .int 0, .null, .null, .int 0, .null, .int 0, .int 0, .int 0, .int 0, .int 0, .int 0, .int 0, .null, .long 0, .null, .null, .null, .null, .null]) iw10 tyX10_ok nmX10 rfl (by decide) mw_1181 rfl rfl (by decide +kernel) rfl rfl (Nat.le_of_ble_eq_true rfl) rfl dX10_init_17 ?_
  refine C_aload_n (i := 0) dX10_init_20 rfl rfl ?_
  refine C_iconst (v := 4) dX10_init_21 rfl ?_
  refine C_newaH (N := 4) mw_47 (by decide) rfl (Nat.le_of_ble_eq_true rfl) (Nat.le_of_ble_eq_true rfl) (Nat.le_of_ble_eq_true rfl) dX10_init_22 (fun q3 => ?_)
  refine C_putF (C := RX10) (T := TX10) (N := 38) (j := 6) (ty := .array .int) (fs2 := [.int 0, .ref (q1), .int 0, .int 0, .int 0, .ref (q2), .ref (q3), .null, .null, .null, .int 0, .int 0, .null, .null, .null, .null, .null, .int 0, .int 0, .int 0, .null, .null, .int 0, .null, .int 0, .int 0, .int 0, .int 0, .int 0, .int 0, .int 0, .null, .long 0, .null, .null, .null, .null, .null]) iw10 tyX10_ok nmX10 rfl (by decide) mw_1182 rfl rfl (by decide +kernel) rfl rfl (Nat.le_of_ble_eq_true rfl) rfl dX10_init_24 ?_
  refine C_aload_n (i := 0) dX10_init_27 rfl rfl ?_
  refine C_iconst (v := 4) dX10_init_28 rfl ?_
  refine C_newaH (N := 4) mw_47 (by decide) rfl (Nat.le_of_ble_eq_true rfl) (Nat.le_of_ble_eq_true rfl) (Nat.le_of_ble_eq_true rfl) dX10_init_29 (fun q4 => ?_)
  refine C_putF (C := RX10) (T := TX10) (N := 38) (j := 7) (ty := .array .int) (fs2 := [.int 0, .ref (q1), .int 0, .int 0, .int 0, .ref (q2), .ref (q3), .ref (q4), .null, .null, .int 0, .int 0, .null, .null, .null, .null, .null, .int 0, .int 0, .int 0, .null, .null, .int 0, .null, .int 0, .int 0, .int 0, .int 0, .int 0, .int 0, .int 0, .null, .long 0, .null, .null, .null, .null, .null]) iw10 tyX10_ok nmX10 rfl (by decide) mw_1183 rfl rfl (by decide +kernel) rfl rfl (Nat.le_of_ble_eq_true rfl) rfl dX10_init_31 ?_
  refine C_aload_n (i := 0) dX10_init_34 rfl rfl ?_
  refine C_sipush (v := 400) dX10_init_35 rfl ?_
  refine C_newaH (N := 400) mw_47 (by decide) rfl (Nat.le_of_ble_eq_true rfl) (Nat.le_of_ble_eq_true rfl) (Nat.le_of_ble_eq_true rfl) dX10_init_38 (fun q5 => ?_)
  refine C_putF (C := RX10) (T := TX10) (N := 38) (j := 8) (ty := .array .int) (fs2 := [.int 0, .ref (q1), .int 0, .int 0, .int 0, .ref (q2), .ref (q3), .ref (q4), .ref (q5), .null, .int 0, .int 0, .null, .null, .null, .null, .null, .int 0, .int 0, .int 0, .null, .null, .int 0, .null, .int 0, .int 0, .int 0, .int 0, .int 0, .int 0, .int 0, .null, .long 0, .null, .null, .null, .null, .null]) iw10 tyX10_ok nmX10 rfl (by decide) mw_1184 rfl rfl (by decide +kernel) rfl rfl (Nat.le_of_ble_eq_true rfl) rfl dX10_init_40 ?_
  refine C_aload_n (i := 0) dX10_init_43 rfl rfl ?_
  refine C_iconst (v := 5) dX10_init_44 rfl ?_
  refine C_newaH (N := 5) mw_47 (by decide) rfl (Nat.le_of_ble_eq_true rfl) (Nat.le_of_ble_eq_true rfl) (Nat.le_of_ble_eq_true rfl) dX10_init_45 (fun q6 => ?_)
  refine C_putF (C := RX10) (T := TX10) (N := 38) (j := 9) (ty := .array .int) (fs2 := [.int 0, .ref (q1), .int 0, .int 0, .int 0, .ref (q2), .ref (q3), .ref (q4), .ref (q5), .ref (q6), .int 0, .int 0, .null, .null, .null, .null, .null, .int 0, .int 0, .int 0, .null, .null, .int 0, .null, .int 0, .int 0, .int 0, .int 0, .int 0, .int 0, .int 0, .null, .long 0, .null, .null, .null, .null, .null]) iw10 tyX10_ok nmX10 rfl (by decide) mw_1185 rfl rfl (by decide +kernel) rfl rfl (Nat.le_of_ble_eq_true rfl) rfl dX10_init_47 ?_
  refine C_aload_n (i := 0) dX10_init_50 rfl rfl ?_
  refine C_sipush (v := 1554) dX10_init_51 rfl ?_
  refine C_newaH (N := 1554) mw_47 (by decide) rfl (Nat.le_of_ble_eq_true rfl) (Nat.le_of_ble_eq_true rfl) (Nat.le_of_ble_eq_true rfl) dX10_init_54 (fun q7 => ?_)
  refine C_putF (C := RX10) (T := TX10) (N := 38) (j := 12) (ty := .array .int) (fs2 := [.int 0, .ref (q1), .int 0, .int 0, .int 0, .ref (q2), .ref (q3), .ref (q4), .ref (q5), .ref (q6), .int 0, .int 0, .ref (q7), .null, .null, .null, .null, .int 0, .int 0, .int 0, .null, .null, .int 0, .null, .int 0, .int 0, .int 0, .int 0, .int 0, .int 0, .int 0, .null, .long 0, .null, .null, .null, .null, .null]) iw10 tyX10_ok nmX10 rfl (by decide) mw_1188 rfl rfl (by decide +kernel) rfl rfl (Nat.le_of_ble_eq_true rfl) rfl dX10_init_56 ?_
  refine C_aload_n (i := 0) dX10_init_59 rfl rfl ?_
  refine C_sipush (v := 1554) dX10_init_60 rfl ?_
  refine C_newaH (N := 1554) mw_47 (by decide) rfl (Nat.le_of_ble_eq_true rfl) (Nat.le_of_ble_eq_true rfl) (Nat.le_of_ble_eq_true rfl) dX10_init_63 (fun q8 => ?_)
  refine C_putF (C := RX10) (T := TX10) (N := 38) (j := 13) (ty := .array .int) (fs2 := [.int 0, .ref (q1), .int 0, .int 0, .int 0, .ref (q2), .ref (q3), .ref (q4), .ref (q5), .ref (q6), .int 0, .int 0, .ref (q7), .ref (q8), .null, .null, .null, .int 0, .int 0, .int 0, .null, .null, .int 0, .null, .int 0, .int 0, .int 0, .int 0, .int 0, .int 0, .int 0, .null, .long 0, .null, .null, .null, .null, .null]) iw10 tyX10_ok nmX10 rfl (by decide) mw_1189 rfl rfl (by decide +kernel) rfl rfl (Nat.le_of_ble_eq_true rfl) rfl dX10_init_65 ?_
  refine C_aload_n (i := 0) dX10_init_68 rfl rfl ?_
  refine C_sipush (v := 1554) dX10_init_69 rfl ?_
  refine C_newaH (N := 1554) mw_47 (by decide) rfl (Nat.le_of_ble_eq_true rfl) (Nat.le_of_ble_eq_true rfl) (Nat.le_of_ble_eq_true rfl) dX10_init_72 (fun q9 => ?_)
  refine C_putF (C := RX10) (T := TX10) (N := 38) (j := 14) (ty := .array .int) (fs2 := [.int 0, .ref (q1), .int 0, .int 0, .int 0, .ref (q2), .ref (q3), .ref (q4), .ref (q5), .ref (q6), .int 0, .int 0, .ref (q7), .ref (q8), .ref (q9), .null, .null, .int 0, .int 0, .int 0, .null, .null, .int 0, .null, .int 0, .int 0, .int 0, .int 0, .int 0, .int 0, .int 0, .null, .long 0, .null, .null, .null, .null, .null]) iw10 tyX10_ok nmX10 rfl (by decide) mw_1190 rfl rfl (by decide +kernel) rfl rfl (Nat.le_of_ble_eq_true rfl) rfl dX10_init_74 ?_
  refine C_aload_n (i := 0) dX10_init_77 rfl rfl ?_
  refine C_sipush (v := 1554) dX10_init_78 rfl ?_
  refine C_newaH (N := 1554) mw_47 (by decide) rfl (Nat.le_of_ble_eq_true rfl) (Nat.le_of_ble_eq_true rfl) (Nat.le_of_ble_eq_true rfl) dX10_init_81 (fun q10 => ?_)
  refine C_putF (C := RX10) (T := TX10) (N := 38) (j := 15) (ty := .array .int) (fs2 := [.int 0, .ref (q1), .int 0, .int 0, .int 0, .ref (q2), .ref (q3), .ref (q4), .ref (q5), .ref (q6), .int 0, .int 0, .ref (q7), .ref (q8), .ref (q9), .ref (q10), .null, .int 0, .int 0, .int 0, .null, .null, .int 0, .null, .int 0, .int 0, .int 0, .int 0, .int 0, .int 0, .int 0, .null, .long 0, .null, .null, .null, .null, .null]) iw10 tyX10_ok nmX10 rfl (by decide) mw_1191 rfl rfl (by decide +kernel) rfl rfl (Nat.le_of_ble_eq_true rfl) rfl dX10_init_83 ?_
  refine C_aload_n (i := 0) dX10_init_86 rfl rfl ?_
  refine C_ldc (v := 62160) mw_1175 dX10_init_87 ?_
  refine C_newaH (N := 62160) mw_47 (by decide) rfl (Nat.le_of_ble_eq_true rfl) (Nat.le_of_ble_eq_true rfl) (Nat.le_of_ble_eq_true rfl) dX10_init_89 (fun q11 => ?_)
  refine C_putF (C := RX10) (T := TX10) (N := 38) (j := 16) (ty := .array .int) (fs2 := [.int 0, .ref (q1), .int 0, .int 0, .int 0, .ref (q2), .ref (q3), .ref (q4), .ref (q5), .ref (q6), .int 0, .int 0, .ref (q7), .ref (q8), .ref (q9), .ref (q10), .ref (q11), .int 0, .int 0, .int 0, .null, .null, .int 0, .null, .int 0, .int 0, .int 0, .int 0, .int 0, .int 0, .int 0, .null, .long 0, .null, .null, .null, .null, .null]) iw10 tyX10_ok nmX10 rfl (by decide) mw_1192 rfl rfl (by decide +kernel) rfl rfl (Nat.le_of_ble_eq_true rfl) rfl dX10_init_91 ?_
  refine C_aload_n (i := 0) dX10_init_94 rfl rfl ?_
  refine C_bipush (v := 80) dX10_init_95 rfl ?_
  refine C_newzH (N := 80) mw_1291 (by decide) rfl (Nat.le_of_ble_eq_true rfl) (Nat.le_of_ble_eq_true rfl) (Nat.le_of_ble_eq_true rfl) dX10_init_97 (fun q12 => ?_)
  refine C_putF (C := RX10) (T := TX10) (N := 38) (j := 20) (ty := .array .boolean) (fs2 := [.int 0, .ref (q1), .int 0, .int 0, .int 0, .ref (q2), .ref (q3), .ref (q4), .ref (q5), .ref (q6), .int 0, .int 0, .ref (q7), .ref (q8), .ref (q9), .ref (q10), .ref (q11), .int 0, .int 0, .int 0, .ref (q12), .null, .int 0, .null, .int 0, .int 0, .int 0, .int 0, .int 0, .int 0, .int 0, .null, .long 0, .null, .null, .null, .null, .null]) iw10 tyX10_ok nmX10 rfl (by decide) mw_1196 rfl rfl (by decide +kernel) rfl rfl (Nat.le_of_ble_eq_true rfl) rfl dX10_init_99 ?_
  refine C_aload_n (i := 0) dX10_init_102 rfl rfl ?_
  refine C_bipush (v := 80) dX10_init_103 rfl ?_
  refine C_newaH (N := 80) mw_47 (by decide) rfl (Nat.le_of_ble_eq_true rfl) (Nat.le_of_ble_eq_true rfl) (Nat.le_of_ble_eq_true rfl) dX10_init_105 (fun q13 => ?_)
  refine C_putF (C := RX10) (T := TX10) (N := 38) (j := 21) (ty := .array .int) (fs2 := [.int 0, .ref (q1), .int 0, .int 0, .int 0, .ref (q2), .ref (q3), .ref (q4), .ref (q5), .ref (q6), .int 0, .int 0, .ref (q7), .ref (q8), .ref (q9), .ref (q10), .ref (q11), .int 0, .int 0, .int 0, .ref (q12), .ref (q13), .int 0, .null, .int 0, .int 0, .int 0, .int 0, .int 0, .int 0, .int 0, .null, .long 0, .null, .null, .null, .null, .null]) iw10 tyX10_ok nmX10 rfl (by decide) mw_1197 rfl rfl (by decide +kernel) rfl rfl (Nat.le_of_ble_eq_true rfl) rfl dX10_init_107 ?_
  refine C_aload_n (i := 0) dX10_init_110 rfl rfl ?_
  refine C_bipush (v := 80) dX10_init_111 rfl ?_
  refine C_newaH (N := 80) mw_47 (by decide) rfl (Nat.le_of_ble_eq_true rfl) (Nat.le_of_ble_eq_true rfl) (Nat.le_of_ble_eq_true rfl) dX10_init_113 (fun q14 => ?_)
  refine C_putF (C := RX10) (T := TX10) (N := 38) (j := 23) (ty := .array .int) (fs2 := [.int 0, .ref (q1), .int 0, .int 0, .int 0, .ref (q2), .ref (q3), .ref (q4), .ref (q5), .ref (q6), .int 0, .int 0, .ref (q7), .ref (q8), .ref (q9), .ref (q10), .ref (q11), .int 0, .int 0, .int 0, .ref (q12), .ref (q13), .int 0, .ref (q14), .int 0, .int 0, .int 0, .int 0, .int 0, .int 0, .int 0, .null, .long 0, .null, .null, .null, .null, .null]) iw10 tyX10_ok nmX10 rfl (by decide) mw_1199 rfl rfl (by decide +kernel) rfl rfl (Nat.le_of_ble_eq_true rfl) rfl dX10_init_115 ?_
  refine C_aload_n (i := 0) dX10_init_118 rfl rfl ?_
  refine C_sipush (v := 1554) dX10_init_119 rfl ?_
  refine C_newaH (N := 1554) mw_47 (by decide) rfl (Nat.le_of_ble_eq_true rfl) (Nat.le_of_ble_eq_true rfl) (Nat.le_of_ble_eq_true rfl) dX10_init_122 (fun q15 => ?_)
  refine C_putF (C := RX10) (T := TX10) (N := 38) (j := 31) (ty := .array .int) (fs2 := [.int 0, .ref (q1), .int 0, .int 0, .int 0, .ref (q2), .ref (q3), .ref (q4), .ref (q5), .ref (q6), .int 0, .int 0, .ref (q7), .ref (q8), .ref (q9), .ref (q10), .ref (q11), .int 0, .int 0, .int 0, .ref (q12), .ref (q13), .int 0, .ref (q14), .int 0, .int 0, .int 0, .int 0, .int 0, .int 0, .int 0, .ref (q15), .long 0, .null, .null, .null, .null, .null]) iw10 tyX10_ok nmX10 rfl (by decide) mw_1207 rfl rfl (by decide +kernel) rfl rfl (Nat.le_of_ble_eq_true rfl) rfl dX10_init_124 ?_
  refine C_aload_n (i := 0) dX10_init_127 rfl rfl ?_
  refine C_bipush (v := 80) dX10_init_128 rfl ?_
  refine C_newaH (N := 80) mw_47 (by decide) rfl (Nat.le_of_ble_eq_true rfl) (Nat.le_of_ble_eq_true rfl) (Nat.le_of_ble_eq_true rfl) dX10_init_130 (fun q16 => ?_)
  refine C_putF (C := RX10) (T := TX10) (N := 38) (j := 33) (ty := .array .int) (fs2 := [.int 0, .ref (q1), .int 0, .int 0, .int 0, .ref (q2), .ref (q3), .ref (q4), .ref (q5), .ref (q6), .int 0, .int 0, .ref (q7), .ref (q8), .ref (q9), .ref (q10), .ref (q11), .int 0, .int 0, .int 0, .ref (q12), .ref (q13), .int 0, .ref (q14), .int 0, .int 0, .int 0, .int 0, .int 0, .int 0, .int 0, .ref (q15), .long 0, .ref (q16), .null, .null, .null, .null]) iw10 tyX10_ok nmX10 rfl (by decide) mw_1209 rfl rfl (by decide +kernel) rfl rfl (Nat.le_of_ble_eq_true rfl) rfl dX10_init_132 ?_
  refine C_aload_n (i := 0) dX10_init_135 rfl rfl ?_
  refine C_bipush (v := 80) dX10_init_136 rfl ?_
  refine C_newaH (N := 80) mw_47 (by decide) rfl (Nat.le_of_ble_eq_true rfl) (Nat.le_of_ble_eq_true rfl) (Nat.le_of_ble_eq_true rfl) dX10_init_138 (fun q17 => ?_)
  refine C_putF (C := RX10) (T := TX10) (N := 38) (j := 34) (ty := .array .int) (fs2 := [.int 0, .ref (q1), .int 0, .int 0, .int 0, .ref (q2), .ref (q3), .ref (q4), .ref (q5), .ref (q6), .int 0, .int 0, .ref (q7), .ref (q8), .ref (q9), .ref (q10), .ref (q11), .int 0, .int 0, .int 0, .ref (q12), .ref (q13), .int 0, .ref (q14), .int 0, .int 0, .int 0, .int 0, .int 0, .int 0, .int 0, .ref (q15), .long 0, .ref (q16), .ref (q17), .null, .null, .null]) iw10 tyX10_ok nmX10 rfl (by decide) mw_1210 rfl rfl (by decide +kernel) rfl rfl (Nat.le_of_ble_eq_true rfl) rfl dX10_init_140 ?_
  refine C_aload_n (i := 0) dX10_init_143 rfl rfl ?_
  refine C_bipush (v := 80) dX10_init_144 rfl ?_
  refine C_newaH (N := 80) mw_47 (by decide) rfl (Nat.le_of_ble_eq_true rfl) (Nat.le_of_ble_eq_true rfl) (Nat.le_of_ble_eq_true rfl) dX10_init_146 (fun q18 => ?_)
  refine C_putF (C := RX10) (T := TX10) (N := 38) (j := 35) (ty := .array .int) (fs2 := [.int 0, .ref (q1), .int 0, .int 0, .int 0, .ref (q2), .ref (q3), .ref (q4), .ref (q5), .ref (q6), .int 0, .int 0, .ref (q7), .ref (q8), .ref (q9), .ref (q10), .ref (q11), .int 0, .int 0, .int 0, .ref (q12), .ref (q13), .int 0, .ref (q14), .int 0, .int 0, .int 0, .int 0, .int 0, .int 0, .int 0, .ref (q15), .long 0, .ref (q16), .ref (q17), .ref (q18), .null, .null]) iw10 tyX10_ok nmX10 rfl (by decide) mw_1211 rfl rfl (by decide +kernel) rfl rfl (Nat.le_of_ble_eq_true rfl) rfl dX10_init_148 ?_
  refine C_aload_n (i := 0) dX10_init_151 rfl rfl ?_
  refine C_bipush (v := 80) dX10_init_152 rfl ?_
  refine C_newaH (N := 80) mw_47 (by decide) rfl (Nat.le_of_ble_eq_true rfl) (Nat.le_of_ble_eq_true rfl) (Nat.le_of_ble_eq_true rfl) dX10_init_154 (fun q19 => ?_)
  refine C_putF (C := RX10) (T := TX10) (N := 38) (j := 36) (ty := .array .int) (fs2 := [.int 0, .ref (q1), .int 0, .int 0, .int 0, .ref (q2), .ref (q3), .ref (q4), .ref (q5), .ref (q6), .int 0, .int 0, .ref (q7), .ref (q8), .ref (q9), .ref (q10), .ref (q11), .int 0, .int 0, .int 0, .ref (q12), .ref (q13), .int 0, .ref (q14), .int 0, .int 0, .int 0, .int 0, .int 0, .int 0, .int 0, .ref (q15), .long 0, .ref (q16), .ref (q17), .ref (q18), .ref (q19), .null]) iw10 tyX10_ok nmX10 rfl (by decide) mw_1212 rfl rfl (by decide +kernel) rfl rfl (Nat.le_of_ble_eq_true rfl) rfl dX10_init_156 ?_
  refine C_aload_n (i := 0) dX10_init_159 rfl rfl ?_
  refine C_bipush (v := 80) dX10_init_160 rfl ?_
  refine C_newaH (N := 80) mw_47 (by decide) rfl (Nat.le_of_ble_eq_true rfl) (Nat.le_of_ble_eq_true rfl) (Nat.le_of_ble_eq_true rfl) dX10_init_162 (fun q20 => ?_)
  refine C_putF (C := RX10) (T := TX10) (N := 38) (j := 37) (ty := .array .int) (fs2 := [.int 0, .ref (q1), .int 0, .int 0, .int 0, .ref (q2), .ref (q3), .ref (q4), .ref (q5), .ref (q6), .int 0, .int 0, .ref (q7), .ref (q8), .ref (q9), .ref (q10), .ref (q11), .int 0, .int 0, .int 0, .ref (q12), .ref (q13), .int 0, .ref (q14), .int 0, .int 0, .int 0, .int 0, .int 0, .int 0, .int 0, .ref (q15), .long 0, .ref (q16), .ref (q17), .ref (q18), .ref (q19), .ref (q20)]) iw10 tyX10_ok nmX10 rfl (by decide) mw_1213 rfl rfl (by decide +kernel) rfl rfl (Nat.le_of_ble_eq_true rfl) rfl dX10_init_164 ?_
  exact C_ret (fun i => ([h0, q1, q2, q3, q4, q5, q6, q7, q8, q9, q10, q11, q12, q13, q14, q15, q16, q17, q18, q19, q20] : List Nat).getD i 0) rfl rfl (Nat.le_of_ble_eq_true rfl) (Nat.le_of_ble_eq_true rfl) dX10_init_167
