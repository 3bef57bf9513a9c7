theorem mw_89 : Cond.methodLink RX4 3 Lib.objectInit ∈ TT := TT_mem (List.mem_append_right _ (List.mem_of_getElem? (i := 89) (by decide +kernel))) rfl
theorem mw_30 : Cond.instanceMethod Lib.objectInit ∈ TT := TT_mem (List.mem_append_right _ (List.mem_of_getElem? (i := 30) (by decide +kernel))) rfl
theorem mw_31 : Cond.code Lib.objectInit ⟨#[0xb1]⟩ 1 none ∈ TT := TT_mem (List.mem_append_right _ (List.mem_of_getElem? (i := 31) (by decide +kernel))) rfl
theorem mw_90 : Cond.methodLink RX4 9 yJ9_max_7cf53 ∈ TT := TT_mem (List.mem_append_right _ (List.mem_of_getElem? (i := 90) (by decide +kernel))) rfl
theorem mw_47 : Cond.arrayClass .int ∈ TT := TT_mem (List.mem_append_right _ (List.mem_of_getElem? (i := 47) (by decide +kernel))) rfl
theorem mw_83 : Cond.methodLink RX7 3 Lib.objectInit ∈ TT := TT_mem (List.mem_append_right _ (List.mem_of_getElem? (i := 83) (by decide +kernel))) rfl
theorem mw_85 : Cond.instantiable RX4 2 ∈ TT := TT_mem (List.mem_append_right _ (List.mem_of_getElem? (i := 85) (by decide +kernel))) rfl
theorem mw_84 : Cond.classLink RX7 45 RX4 ∈ TT := TT_mem (List.mem_append_right _ (List.mem_of_getElem? (i := 84) (by decide +kernel))) rfl
theorem mw_88 : Cond.code yX4_init cX4_init 2 none ∈ TT := TT_mem (List.mem_append_right _ (List.mem_of_getElem? (i := 88) (by decide +kernel))) rfl
theorem mw_86 : Cond.methodLink RX7 47 yX4_init ∈ TT := TT_mem (List.mem_append_right _ (List.mem_of_getElem? (i := 86) (by decide +kernel))) rfl
theorem mw_87 : Cond.instanceMethod yX4_init ∈ TT := TT_mem (List.mem_append_right _ (List.mem_of_getElem? (i := 87) (by decide +kernel))) rfl
theorem mw_37 : Cond.methodLink RX8 3 Lib.objectInit ∈ TT := TT_mem (List.mem_append_right _ (List.mem_of_getElem? (i := 37) (by decide +kernel))) rfl
theorem mw_53 : Cond.methodLink RX6 3 Lib.objectInit ∈ TT := TT_mem (List.mem_append_right _ (List.mem_of_getElem? (i := 53) (by decide +kernel))) rfl
theorem mw_234 : Cond.methodLink RX3 3 Lib.objectInit ∈ TT := TT_mem (List.mem_append_right _ (List.mem_of_getElem? (i := 234) (by decide +kernel))) rfl
theorem mw_215 : Cond.methodLink RX5 3 Lib.objectInit ∈ TT := TT_mem (List.mem_append_right _ (List.mem_of_getElem? (i := 215) (by decide +kernel))) rfl
theorem mw_216 : Cond.classLink RX5 9 RX7 ∈ TT := TT_mem (List.mem_append_right _ (List.mem_of_getElem? (i := 216) (by decide +kernel))) rfl
theorem mw_268 : Cond.methodLink RX1 3 Lib.objectInit ∈ TT := TT_mem (List.mem_append_right _ (List.mem_of_getElem? (i := 268) (by decide +kernel))) rfl
theorem mw_313 : Cond.methodLink RX0 3 Lib.objectInit ∈ TT := TT_mem (List.mem_append_right _ (List.mem_of_getElem? (i := 313) (by decide +kernel))) rfl
theorem mw_79 : Cond.instantiable RX7 19 ∈ TT := TT_mem (List.mem_append_right _ (List.mem_of_getElem? (i := 79) (by decide +kernel))) rfl
theorem mw_314 : Cond.classLink RX0 9 RX7 ∈ TT := TT_mem (List.mem_append_right _ (List.mem_of_getElem? (i := 314) (by decide +kernel))) rfl
theorem mw_82 : Cond.code yX7_init cX7_init 1 none ∈ TT := TT_mem (List.mem_append_right _ (List.mem_of_getElem? (i := 82) (by decide +kernel))) rfl
theorem mw_315 : Cond.methodLink RX0 11 yX7_init ∈ TT := TT_mem (List.mem_append_right _ (List.mem_of_getElem? (i := 315) (by decide +kernel))) rfl
theorem mw_81 : Cond.instanceMethod yX7_init ∈ TT := TT_mem (List.mem_append_right _ (List.mem_of_getElem? (i := 81) (by decide +kernel))) rfl
theorem mw_1174 : Cond.methodLink RX10 3 Lib.objectInit ∈ TT := TT_mem (List.mem_append_right _ (List.mem_of_getElem? (i := 1174) (by decide +kernel))) rfl
theorem mw_522 : Cond.arrayClass .byte ∈ TT := TT_mem (List.mem_append_right _ (List.mem_of_getElem? (i := 522) (by decide +kernel))) rfl
theorem mw_1175 : Cond.constant RX10 41 (62160) ∈ TT := TT_mem (List.mem_append_right _ (List.mem_of_getElem? (i := 1175) (by decide +kernel))) rfl
theorem mw_1291 : Cond.arrayClass .boolean ∈ TT := TT_mem (List.mem_append_right _ (List.mem_of_getElem? (i := 1291) (by decide +kernel))) rfl
theorem mw_29 : Cond.methodLink RX9 1 Lib.objectInit ∈ TT := TT_mem (List.mem_append_right _ (List.mem_of_getElem? (i := 29) (by decide +kernel))) rfl
theorem mw_33 : Cond.instantiable RX8 2 ∈ TT := TT_mem (List.mem_append_right _ (List.mem_of_getElem? (i := 33) (by decide +kernel))) rfl
theorem mw_32 : Cond.classLink RX9 7 RX8 ∈ TT := TT_mem (List.mem_append_right _ (List.mem_of_getElem? (i := 32) (by decide +kernel))) rfl
theorem mw_36 : Cond.code yX8_init cX8_init 1 none ∈ TT := TT_mem (List.mem_append_right _ (List.mem_of_getElem? (i := 36) (by decide +kernel))) rfl
theorem nw_34 : Cond.methodLinkNest RX9 9 yX8_init "NurseryHeap" ∈ nwds := List.mem_filter.mpr ⟨List.mem_append_right _ (List.mem_of_getElem? (i := 34) (by decide +kernel)), rfl⟩
theorem mw_35 : Cond.instanceMethod yX8_init ∈ TT := TT_mem (List.mem_append_right _ (List.mem_of_getElem? (i := 35) (by decide +kernel))) rfl
theorem mw_49 : Cond.instantiable RX6 6 ∈ TT := TT_mem (List.mem_append_right _ (List.mem_of_getElem? (i := 49) (by decide +kernel))) rfl
theorem mw_48 : Cond.classLink RX9 16 RX6 ∈ TT := TT_mem (List.mem_append_right _ (List.mem_of_getElem? (i := 48) (by decide +kernel))) rfl
theorem mw_52 : Cond.code yX6_init cX6_init 2 none ∈ TT := TT_mem (List.mem_append_right _ (List.mem_of_getElem? (i := 52) (by decide +kernel))) rfl
theorem mw_50 : Cond.methodLink RX9 18 yX6_init ∈ TT := TT_mem (List.mem_append_right _ (List.mem_of_getElem? (i := 50) (by decide +kernel))) rfl
theorem mw_51 : Cond.instanceMethod yX6_init ∈ TT := TT_mem (List.mem_append_right _ (List.mem_of_getElem? (i := 51) (by decide +kernel))) rfl
theorem mw_76 : Cond.classLink RX9 25 "[[I" ∈ TT := TT_mem (List.mem_append_right _ (List.mem_of_getElem? (i := 76) (by decide +kernel))) rfl
theorem mw_78 : Cond.classLink RX9 37 RX7 ∈ TT := TT_mem (List.mem_append_right _ (List.mem_of_getElem? (i := 78) (by decide +kernel))) rfl
theorem mw_80 : Cond.methodLink RX9 39 yX7_init ∈ TT := TT_mem (List.mem_append_right _ (List.mem_of_getElem? (i := 80) (by decide +kernel))) rfl
theorem mw_211 : Cond.instantiable RX5 3 ∈ TT := TT_mem (List.mem_append_right _ (List.mem_of_getElem? (i := 211) (by decide +kernel))) rfl
theorem mw_210 : Cond.classLink RX9 50 RX5 ∈ TT := TT_mem (List.mem_append_right _ (List.mem_of_getElem? (i := 210) (by decide +kernel))) rfl
theorem mw_214 : Cond.code yX5_init cX5_init 1 none ∈ TT := TT_mem (List.mem_append_right _ (List.mem_of_getElem? (i := 214) (by decide +kernel))) rfl
theorem nw_212 : Cond.methodLinkNest RX9 52 yX5_init "NurseryHeap" ∈ nwds := List.mem_filter.mpr ⟨List.mem_append_right _ (List.mem_of_getElem? (i := 212) (by decide +kernel)), rfl⟩
theorem mw_213 : Cond.instanceMethod yX5_init ∈ TT := TT_mem (List.mem_append_right _ (List.mem_of_getElem? (i := 213) (by decide +kernel))) rfl
theorem mw_230 : Cond.instantiable RX3 8 ∈ TT := TT_mem (List.mem_append_right _ (List.mem_of_getElem? (i := 230) (by decide +kernel))) rfl
theorem mw_229 : Cond.classLink RX9 57 RX3 ∈ TT := TT_mem (List.mem_append_right _ (List.mem_of_getElem? (i := 229) (by decide +kernel))) rfl
theorem mw_233 : Cond.code yX3_init cX3_init 1 none ∈ TT := TT_mem (List.mem_append_right _ (List.mem_of_getElem? (i := 233) (by decide +kernel))) rfl
theorem nw_231 : Cond.methodLinkNest RX9 59 yX3_init "NurseryHeap" ∈ nwds := List.mem_filter.mpr ⟨List.mem_append_right _ (List.mem_of_getElem? (i := 231) (by decide +kernel)), rfl⟩
theorem mw_232 : Cond.instanceMethod yX3_init ∈ TT := TT_mem (List.mem_append_right _ (List.mem_of_getElem? (i := 232) (by decide +kernel))) rfl
theorem mw_264 : Cond.instantiable RX1 12 ∈ TT := TT_mem (List.mem_append_right _ (List.mem_of_getElem? (i := 264) (by decide +kernel))) rfl
theorem mw_263 : Cond.classLink RX9 64 RX1 ∈ TT := TT_mem (List.mem_append_right _ (List.mem_of_getElem? (i := 263) (by decide +kernel))) rfl
theorem mw_267 : Cond.code yX1_init cX1_init 3 none ∈ TT := TT_mem (List.mem_append_right _ (List.mem_of_getElem? (i := 267) (by decide +kernel))) rfl
theorem mw_265 : Cond.methodLink RX9 66 yX1_init ∈ TT := TT_mem (List.mem_append_right _ (List.mem_of_getElem? (i := 265) (by decide +kernel))) rfl
theorem mw_266 : Cond.instanceMethod yX1_init ∈ TT := TT_mem (List.mem_append_right _ (List.mem_of_getElem? (i := 266) (by decide +kernel))) rfl
theorem mw_309 : Cond.instantiable RX0 3 ∈ TT := TT_mem (List.mem_append_right _ (List.mem_of_getElem? (i := 309) (by decide +kernel))) rfl
theorem mw_308 : Cond.classLink RX9 73 RX0 ∈ TT := TT_mem (List.mem_append_right _ (List.mem_of_getElem? (i := 308) (by decide +kernel))) rfl
theorem mw_312 : Cond.code yX0_init cX0_init 3 none ∈ TT := TT_mem (List.mem_append_right _ (List.mem_of_getElem? (i := 312) (by decide +kernel))) rfl
theorem mw_310 : Cond.methodLink RX9 75 yX0_init ∈ TT := TT_mem (List.mem_append_right _ (List.mem_of_getElem? (i := 310) (by decide +kernel))) rfl
theorem mw_311 : Cond.instanceMethod yX0_init ∈ TT := TT_mem (List.mem_append_right _ (List.mem_of_getElem? (i := 311) (by decide +kernel))) rfl
