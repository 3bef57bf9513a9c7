def oc9 (Ω : rO) (a : Nat → Nat) : va_W := [(a 0, .inr (9, [.ref (a 1), .ref (a 3), .ref (a 6), .ref (a 7), .int 0, .ref (a 8), .int 0, .int 0, .ref (a 9), .ref (a 33), .ref (a 57), .ref (a 81), .ref (a 83), .ref (a 91), .ref (a 100), .ref (a 125)]))] ++ ((((((((((((([] ++ oc8 Ω (fun i => a (1 + i))) ++ oc6 Ω (a 1) (fun i => a (3 + i))) ++ [(a 6, .inl (Ω.2.1 5, 4, .inr (.inr (.inr (.inr (fun i => if i < 4 then some (a 6 + 1 + i) else none)))))), (a 6 + 1, .inl (Ω.2.1 0, 80, .inl (fun _ => 0))), (a 6 + 2, .inl (Ω.2.1 0, 80, .inl (fun _ => 0))), (a 6 + 3, .inl (Ω.2.1 0, 80, .inl (fun _ => 0))), (a 6 + 4, .inl (Ω.2.1 0, 80, .inl (fun _ => 0)))]) ++ [(a 7, .inl (Ω.2.1 0, 4, .inl (fun _ => 0)))]) ++ [(a 8, .inl (Ω.2.1 0, 4, .inl (fun _ => 0)))]) ++ oc7 Ω (fun i => a (9 + i))) ++ oc7 Ω (fun i => a (33 + i))) ++ oc7 Ω (fun i => a (57 + i))) ++ oc5 Ω (fun i => a (81 + i))) ++ oc3 Ω (fun i => a (83 + i))) ++ oc1 Ω (a 8) (a 83) (fun i => a (91 + i))) ++ oc0 Ω (a 8) (a 91) (fun i => a (100 + i))) ++ [(a 125, .inl (Ω.2.1 0, 4, .inl (fun _ => 0)))])
abbrev rmK9 : Room := { frames := 4, cells := 129, slots := 7071, locals := 84 }
set_option maxRecDepth 100000 in
set_option maxHeartbeats 4000000 in
theorem kc9 (l : Launch) (Ω : rO) (h0 sz : Nat) : CtC l Ω yX9_init cX9_init 1 rmK9 h0 sz 9 [.null, .null, .null, .null, .int 0, .null, .int 0, .int 0, .null, .null, .null, .null, .null, .null, .null, .null] [] 129 7071 (oc9 Ω) := by
  refine CtC.of (own := RX9) (lv := [some (.ref (h0))]) (by decide) rfl rfl (Nat.le_of_ble_eq_true rfl) rfl ?_
  refine C_aload_n (i := 0) dX9_init_0 rfl rfl ?_
  refine C_objInit mw_29 mw_30 mw_31 (Nat.le_of_ble_eq_true rfl) (Nat.le_of_ble_eq_true rfl) dX9_init_1 ?_
  refine C_aload_n (i := 0) dX9_init_4 rfl rfl ?_
  refine C_newH (C := RX8) (T := TX8) (N := 2) (ci := 8) (fs := [.null, .int 0]) iw8 tyX8_ok mw_32 mw_33 mw_2 rfl (by decide) (Nat.le_of_ble_eq_true rfl) (Nat.le_of_ble_eq_true rfl) dX9_init_5 (fun q1 => ?_)
  refine C_dup dX9_init_8 rfl ?_
  refine C_callNH (rm2 := rmK8) (fun sz => kc8 l Ω q1 sz ) ⟨mw_36, mw_2, by decide +kernel⟩ rfl mw_35 nw_34 rfl rfl (Nat.le_of_ble_eq_true rfl) rfl rfl ⟨by decide, by decide⟩ ⟨(Nat.le_of_ble_eq_true rfl), (Nat.le_of_ble_eq_true rfl)⟩ dX9_init_9 (fun a2 h => ?_)
  subst h
  refine C_putF (C := RX9) (T := TX9) (N := 16) (j := 0) (ty := .object "NurseryHeap$Tape") (fs2 := [.ref (a2 0), .null, .null, .null, .int 0, .null, .int 0, .int 0, .null, .null, .null, .null, .null, .null, .null, .null]) iw9 tyX9_ok nmX9 rfl (by decide) mw_326 rfl rfl (by decide +kernel) rfl rfl (Nat.le_of_ble_eq_true rfl) rfl dX9_init_12 ?_
  refine C_aload_n (i := 0) dX9_init_15 rfl rfl ?_
  refine C_newH (C := RX6) (T := TX6) (N := 6) (ci := 6) (fs := [.null, .null, .null, .int 0, .int 0, .int 0]) iw6 tyX6_ok mw_48 mw_49 mw_3 rfl (by decide) (Nat.le_of_ble_eq_true rfl) (Nat.le_of_ble_eq_true rfl) dX9_init_16 (fun q3 => ?_)
  refine C_dup dX9_init_19 rfl ?_
  refine C_aload_n (i := 0) dX9_init_20 rfl rfl ?_
  refine C_get foX9_10 rfl dX9_init_21 ?_
  refine C_callH (n := 1) (rm2 := rmK6) (fun sz => kc6 l Ω q3 sz (a2 0)) ⟨mw_52, mw_3, by decide +kernel⟩ rfl mw_51 mw_50 rfl rfl (Nat.le_of_ble_eq_true rfl) rfl rfl ⟨by decide, by decide⟩ ⟨(Nat.le_of_ble_eq_true rfl), (Nat.le_of_ble_eq_true rfl)⟩ dX9_init_24 (fun a4 h => ?_)
  subst h
  refine C_putF (C := RX9) (T := TX9) (N := 16) (j := 1) (ty := .object "NurseryHeap$Reader") (fs2 := [.ref (a2 0), .ref (a4 0), .null, .null, .int 0, .null, .int 0, .int 0, .null, .null, .null, .null, .null, .null, .null, .null]) iw9 tyX9_ok nmX9 rfl (by decide) mw_327 rfl rfl (by decide +kernel) rfl rfl (Nat.le_of_ble_eq_true rfl) rfl dX9_init_27 ?_
  refine C_aload_n (i := 0) dX9_init_30 rfl rfl ?_
  refine C_iconst (v := 4) dX9_init_31 rfl ?_
  refine C_bipush (v := 80) dX9_init_32 rfl ?_
  refine C_multi mw_76 mw_47 (Nat.le_of_ble_eq_true rfl) (Nat.le_of_ble_eq_true rfl) dX9_init_34 (fun q5 => ?_)
  refine C_putF (C := RX9) (T := TX9) (N := 16) (j := 2) (ty := .array (.array .int)) (fs2 := [.ref (a2 0), .ref (a4 0), .ref (q5), .null, .int 0, .null, .int 0, .int 0, .null, .null, .null, .null, .null, .null, .null, .null]) iw9 tyX9_ok nmX9 rfl (by decide) mw_328 rfl rfl (by decide +kernel) rfl rfl (Nat.le_of_ble_eq_true rfl) rfl dX9_init_38 ?_
  refine C_aload_n (i := 0) dX9_init_41 rfl rfl ?_
  refine C_iconst (v := 4) dX9_init_42 rfl ?_
  refine C_newaH (N := 4) mw_47 (by decide) rfl (Nat.le_of_ble_eq_true rfl) (Nat.le_of_ble_eq_true rfl) (Nat.le_of_ble_eq_true rfl) dX9_init_43 (fun q6 => ?_)
  refine C_putF (C := RX9) (T := TX9) (N := 16) (j := 3) (ty := .array .int) (fs2 := [.ref (a2 0), .ref (a4 0), .ref (q5), .ref (q6), .int 0, .null, .int 0, .int 0, .null, .null, .null, .null, .null, .null, .null, .null]) iw9 tyX9_ok nmX9 rfl (by decide) mw_329 rfl rfl (by decide +kernel) rfl rfl (Nat.le_of_ble_eq_true rfl) rfl dX9_init_45 ?_
  refine C_aload_n (i := 0) dX9_init_48 rfl rfl ?_
  refine C_iconst (v := 4) dX9_init_49 rfl ?_
  refine C_newaH (N := 4) mw_47 (by decide) rfl (Nat.le_of_ble_eq_true rfl) (Nat.le_of_ble_eq_true rfl) (Nat.le_of_ble_eq_true rfl) dX9_init_50 (fun q7 => ?_)
  refine C_putF (C := RX9) (T := TX9) (N := 16) (j := 5) (ty := .array .int) (fs2 := [.ref (a2 0), .ref (a4 0), .ref (q5), .ref (q6), .int 0, .ref (q7), .int 0, .int 0, .null, .null, .null, .null, .null, .null, .null, .null]) iw9 tyX9_ok nmX9 rfl (by decide) mw_331 rfl rfl (by decide +kernel) rfl rfl (Nat.le_of_ble_eq_true rfl) rfl dX9_init_52 ?_
  refine C_aload_n (i := 0) dX9_init_55 rfl rfl ?_
  refine C_newH (C := RX7) (T := TX7) (N := 19) (ci := 7) (fs := [.int 0, .int 0, .null, .null, .null, .null, .null, .null, .null, .null, .null, .null, .null, .null, .null, .null, .null, .null, .null]) iw7 tyX7_ok mw_78 mw_79 mw_4 rfl (by decide) (Nat.le_of_ble_eq_true rfl) (Nat.le_of_ble_eq_true rfl) dX9_init_56 (fun q8 => ?_)
  refine C_dup dX9_init_59 rfl ?_
  refine C_callH (rm2 := rmK7) (fun sz => kc7 l Ω q8 sz ) ⟨mw_82, mw_4, by decide +kernel⟩ rfl mw_81 mw_80 rfl rfl (Nat.le_of_ble_eq_true rfl) rfl rfl ⟨by decide, by decide⟩ ⟨(Nat.le_of_ble_eq_true rfl), (Nat.le_of_ble_eq_true rfl)⟩ dX9_init_60 (fun a9 h => ?_)
  subst h
  refine C_putF (C := RX9) (T := TX9) (N := 16) (j := 8) (ty := .object "NurseryHeap$State") (fs2 := [.ref (a2 0), .ref (a4 0), .ref (q5), .ref (q6), .int 0, .ref (q7), .int 0, .int 0, .ref (a9 0), .null, .null, .null, .null, .null, .null, .null]) iw9 tyX9_ok nmX9 rfl (by decide) mw_334 rfl rfl (by decide +kernel) rfl rfl (Nat.le_of_ble_eq_true rfl) rfl dX9_init_63 ?_
  refine C_aload_n (i := 0) dX9_init_66 rfl rfl ?_
  refine C_newH (C := RX7) (T := TX7) (N := 19) (ci := 7) (fs := [.int 0, .int 0, .null, .null, .null, .null, .null, .null, .null, .null, .null, .null, .null, .null, .null, .null, .null, .null, .null]) iw7 tyX7_ok mw_78 mw_79 mw_4 rfl (by decide) (Nat.le_of_ble_eq_true rfl) (Nat.le_of_ble_eq_true rfl) dX9_init_67 (fun q10 => ?_)
  refine C_dup dX9_init_70 rfl ?_
  refine C_callH (rm2 := rmK7) (fun sz => kc7 l Ω q10 sz ) ⟨mw_82, mw_4, by decide +kernel⟩ rfl mw_81 mw_80 rfl rfl (Nat.le_of_ble_eq_true rfl) rfl rfl ⟨by decide, by decide⟩ ⟨(Nat.le_of_ble_eq_true rfl), (Nat.le_of_ble_eq_true rfl)⟩ dX9_init_71 (fun a11 h => ?_)
  subst h
  refine C_putF (C := RX9) (T := TX9) (N := 16) (j := 9) (ty := .object "NurseryHeap$State") (fs2 := [.ref (a2 0), .ref (a4 0), .ref (q5), .ref (q6), .int 0, .ref (q7), .int 0, .int 0, .ref (a9 0), .ref (a11 0), .null, .null, .null, .null, .null, .null]) iw9 tyX9_ok nmX9 rfl (by decide) mw_335 rfl rfl (by decide +kernel) rfl rfl (Nat.le_of_ble_eq_true rfl) rfl dX9_init_74 ?_
  refine C_aload_n (i := 0) dX9_init_77 rfl rfl ?_
  refine C_newH (C := RX7) (T := TX7) (N := 19) (ci := 7) (fs := [.int 0, .int 0, .null, .null, .null, .null, .null, .null, .null, .null, .null, .null, .null, .null, .null, .null, .null, .null, .null]) iw7 tyX7_ok mw_78 mw_79 mw_4 rfl (by decide) (Nat.le_of_ble_eq_true rfl) (Nat.le_of_ble_eq_true rfl) dX9_init_78 (fun q12 => ?_)
  refine C_dup dX9_init_81 rfl ?_
  refine C_callH (rm2 := rmK7) (fun sz => kc7 l Ω q12 sz ) ⟨mw_82, mw_4, by decide +kernel⟩ rfl mw_81 mw_80 rfl rfl (Nat.le_of_ble_eq_true rfl) rfl rfl ⟨by decide, by decide⟩ ⟨(Nat.le_of_ble_eq_true rfl), (Nat.le_of_ble_eq_true rfl)⟩ dX9_init_82 (fun a13 h => ?_)
  subst h
  refine C_putF (C := RX9) (T := TX9) (N := 16) (j := 10) (ty := .object "NurseryHeap$State") (fs2 := [.ref (a2 0), .ref (a4 0), .ref (q5), .ref (q6), .int 0, .ref (q7), .int 0, .int 0, .ref (a9 0), .ref (a11 0), .ref (a13 0), .null, .null, .null, .null, .null]) iw9 tyX9_ok nmX9 rfl (by decide) mw_336 rfl rfl (by decide +kernel) rfl rfl (Nat.le_of_ble_eq_true rfl) rfl dX9_init_85 ?_
  refine C_aload_n (i := 0) dX9_init_88 rfl rfl ?_
  refine C_newH (C := RX5) (T := TX5) (N := 3) (ci := 5) (fs := [.null, .int 0, .int 0]) iw5 tyX5_ok mw_210 mw_211 mw_8 rfl (by decide) (Nat.le_of_ble_eq_true rfl) (Nat.le_of_ble_eq_true rfl) dX9_init_89 (fun q14 => ?_)
  refine C_dup dX9_init_92 rfl ?_
  refine C_callNH (rm2 := rmK5) (fun sz => kc5 l Ω q14 sz ) ⟨mw_214, mw_8, by decide +kernel⟩ rfl mw_213 nw_212 rfl rfl (Nat.le_of_ble_eq_true rfl) rfl rfl ⟨by decide, by decide⟩ ⟨(Nat.le_of_ble_eq_true rfl), (Nat.le_of_ble_eq_true rfl)⟩ dX9_init_93 (fun a15 h => ?_)
  subst h
  refine C_putF (C := RX9) (T := TX9) (N := 16) (j := 11) (ty := .object "NurseryHeap$Past") (fs2 := [.ref (a2 0), .ref (a4 0), .ref (q5), .ref (q6), .int 0, .ref (q7), .int 0, .int 0, .ref (a9 0), .ref (a11 0), .ref (a13 0), .ref (a15 0), .null, .null, .null, .null]) iw9 tyX9_ok nmX9 rfl (by decide) mw_337 rfl rfl (by decide +kernel) rfl rfl (Nat.le_of_ble_eq_true rfl) rfl dX9_init_96 ?_
  refine C_aload_n (i := 0) dX9_init_99 rfl rfl ?_
  refine C_newH (C := RX3) (T := TX3) (N := 8) (ci := 3) (fs := [.null, .null, .null, .null, .null, .null, .null, .int 0]) iw3 tyX3_ok mw_229 mw_230 mw_9 rfl (by decide) (Nat.le_of_ble_eq_true rfl) (Nat.le_of_ble_eq_true rfl) dX9_init_100 (fun q16 => ?_)
  refine C_dup dX9_init_103 rfl ?_
  refine C_callNH (rm2 := rmK3) (fun sz => kc3 l Ω q16 sz ) ⟨mw_233, mw_9, by decide +kernel⟩ rfl mw_232 nw_231 rfl rfl (Nat.le_of_ble_eq_true rfl) rfl rfl ⟨by decide, by decide⟩ ⟨(Nat.le_of_ble_eq_true rfl), (Nat.le_of_ble_eq_true rfl)⟩ dX9_init_104 (fun a17 h => ?_)
  subst h
  refine C_putF (C := RX9) (T := TX9) (N := 16) (j := 12) (ty := .object "NurseryHeap$Graph") (fs2 := [.ref (a2 0), .ref (a4 0), .ref (q5), .ref (q6), .int 0, .ref (q7), .int 0, .int 0, .ref (a9 0), .ref (a11 0), .ref (a13 0), .ref (a15 0), .ref (a17 0), .null, .null, .null]) iw9 tyX9_ok nmX9 rfl (by decide) mw_338 rfl rfl (by decide +kernel) rfl rfl (Nat.le_of_ble_eq_true rfl) rfl dX9_init_107 ?_
  refine C_aload_n (i := 0) dX9_init_110 rfl rfl ?_
  refine C_newH (C := RX1) (T := TX1) (N := 12) (ci := 1) (fs := [.null, .null, .null, .null, .null, .null, .null, .null, .null, .null, .int 0, .int 0]) iw1 tyX1_ok mw_263 mw_264 mw_10 rfl (by decide) (Nat.le_of_ble_eq_true rfl) (Nat.le_of_ble_eq_true rfl) dX9_init_111 (fun q18 => ?_)
  refine C_dup dX9_init_114 rfl ?_
  refine C_aload_n (i := 0) dX9_init_115 rfl rfl ?_
  refine C_get foX9_34 rfl dX9_init_116 ?_
  refine C_aload_n (i := 0) dX9_init_119 rfl rfl ?_
  refine C_get foX9_60 rfl dX9_init_120 ?_
  refine C_callH (n := 2) (rm2 := rmK1) (fun sz => kc1 l Ω q18 sz q7 (a17 0)) ⟨mw_267, mw_10, by decide +kernel⟩ rfl mw_266 mw_265 rfl rfl (Nat.le_of_ble_eq_true rfl) rfl rfl ⟨by decide, by decide⟩ ⟨(Nat.le_of_ble_eq_true rfl), (Nat.le_of_ble_eq_true rfl)⟩ dX9_init_123 (fun a19 h => ?_)
  subst h
  refine C_putF (C := RX9) (T := TX9) (N := 16) (j := 13) (ty := .object "NurseryHeap$Collector") (fs2 := [.ref (a2 0), .ref (a4 0), .ref (q5), .ref (q6), .int 0, .ref (q7), .int 0, .int 0, .ref (a9 0), .ref (a11 0), .ref (a13 0), .ref (a15 0), .ref (a17 0), .ref (a19 0), .null, .null]) iw9 tyX9_ok nmX9 rfl (by decide) mw_339 rfl rfl (by decide +kernel) rfl rfl (Nat.le_of_ble_eq_true rfl) rfl dX9_init_126 ?_
  refine C_aload_n (i := 0) dX9_init_129 rfl rfl ?_
  refine C_newH (C := RX0) (T := TX0) (N := 3) (ci := 0) (fs := [.null, .null, .null]) iw0 tyX0_ok mw_308 mw_309 mw_11 rfl (by decide) (Nat.le_of_ble_eq_true rfl) (Nat.le_of_ble_eq_true rfl) dX9_init_130 (fun q20 => ?_)
  refine C_dup dX9_init_133 rfl ?_
  refine C_aload_n (i := 0) dX9_init_134 rfl rfl ?_
  refine C_get foX9_34 rfl dX9_init_135 ?_
  refine C_aload_n (i := 0) dX9_init_138 rfl rfl ?_
  refine C_get foX9_69 rfl dX9_init_139 ?_
  refine C_callH (n := 2) (rm2 := rmK0) (fun sz => kc0 l Ω q20 sz q7 (a19 0)) ⟨mw_312, mw_11, by decide +kernel⟩ rfl mw_311 mw_310 rfl rfl (Nat.le_of_ble_eq_true rfl) rfl rfl ⟨by decide, by decide⟩ ⟨(Nat.le_of_ble_eq_true rfl), (Nat.le_of_ble_eq_true rfl)⟩ dX9_init_142 (fun a21 h => ?_)
  subst h
  refine C_putF (C := RX9) (T := TX9) (N := 16) (j := 14) (ty := .object "NurseryHeap$Acts") (fs2 := [.ref (a2 0), .ref (a4 0), .ref (q5), .ref (q6), .int 0, .ref (q7), .int 0, .int 0, .ref (a9 0), .ref (a11 0), .ref (a13 0), .ref (a15 0), .ref (a17 0), .ref (a19 0), .ref (a21 0), .null]) iw9 tyX9_ok nmX9 rfl (by decide) mw_340 rfl rfl (by decide +kernel) rfl rfl (Nat.le_of_ble_eq_true rfl) rfl dX9_init_145 ?_
  refine C_aload_n (i := 0) dX9_init_148 rfl rfl ?_
  refine C_iconst (v := 4) dX9_init_149 rfl ?_
  refine C_newaH (N := 4) mw_47 (by decide) rfl (Nat.le_of_ble_eq_true rfl) (Nat.le_of_ble_eq_true rfl) (Nat.le_of_ble_eq_true rfl) dX9_init_150 (fun q22 => ?_)
  refine C_putF (C := RX9) (T := TX9) (N := 16) (j := 15) (ty := .array .int) (fs2 := [.ref (a2 0), .ref (a4 0), .ref (q5), .ref (q6), .int 0, .ref (q7), .int 0, .int 0, .ref (a9 0), .ref (a11 0), .ref (a13 0), .ref (a15 0), .ref (a17 0), .ref (a19 0), .ref (a21 0), .ref (q22)]) iw9 tyX9_ok nmX9 rfl (by decide) mw_341 rfl rfl (by decide +kernel) rfl rfl (Nat.le_of_ble_eq_true rfl) rfl dX9_init_152 ?_
  exact C_ret (fun i => ([h0, a2 0, a2 1, a4 0, a4 1, a4 2, q5, q6, q7, a9 0, a9 1, a9 2, a9 3, a9 4, a9 5, a9 6, a9 7, a9 8, a9 9, a9 10, a9 11, a9 12, a9 13, a9 14, a9 15, a9 16, a9 17, a9 18, a9 19, a9 20, a9 21, a9 22, a9 23, a11 0, a11 1, a11 2, a11 3, a11 4, a11 5, a11 6, a11 7, a11 8, a11 9, a11 10, a11 11, a11 12, a11 13, a11 14, a11 15, a11 16, a11 17, a11 18, a11 19, a11 20, a11 21, a11 22, a11 23, a13 0, a13 1, a13 2, a13 3, a13 4, a13 5, a13 6, a13 7, a13 8, a13 9, a13 10, a13 11, a13 12, a13 13, a13 14, a13 15, a13 16, a13 17, a13 18, a13 19, a13 20, a13 21, a13 22, a13 23, a15 0, a15 1, a17 0, a17 1, a17 2, a17 3, a17 4, a17 5, a17 6, a17 7, a19 0, a19 1, a19 2, a19 3, a19 4, a19 5, a19 6, a19 7, a19 8, a21 0, a21 1, a21 2, a21 3, a21 4, a21 5, a21 6, a21 7, a21 8, a21 9, a21 10, a21 11, a21 12, a21 13, a21 14, a21 15, a21 16, a21 17, a21 18, a21 19, a21 20, a21 21, a21 22, a21 23, a21 24, q22] : List Nat).getD i 0) rfl rfl (Nat.le_of_ble_eq_true rfl) (Nat.le_of_ble_eq_true rfl) dX9_init_155
