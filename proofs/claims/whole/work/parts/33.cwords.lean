theorem mw_89 : Cond.methodLink RX4 3 Lib.objectInit ∈ TT := TT_mem (List.mem_append_right _ (List.mem_of_getElem? (i := 89) (by decide +kernel))) rfl
theorem mw_30 : Cond.instanceMethod Lib.objectInit ∈ TT := TT_mem (List.mem_append_right _ (List.mem_of_getElem? (i := 30) (by decide +kernel))) rfl
theorem mw_31 : Cond.code Lib.objectInit ⟨#[0xb1]⟩ 1 none ∈ TT := TT_mem (List.mem_append_right _ (List.mem_of_getElem? (i := 31) (by decide +kernel))) rfl
theorem mw_90 : Cond.methodLink RX4 9 yJ9_max_7cf53 ∈ TT := TT_mem (List.mem_append_right _ (List.mem_of_getElem? (i := 90) (by decide +kernel))) rfl
theorem mw_47 : Cond.arrayClass .int ∈ TT := TT_mem (List.mem_append_right _ (List.mem_of_getElem? (i := 47) (by decide +kernel))) rfl
theorem mw_83 : Cond.methodLink RX7 3 Lib.objectInit ∈ TT := TT_mem (List.mem_append_right _ (List.mem_of_getElem? (i := 83) (by decide +kernel))) rfl
theorem mw_85 : Cond.instantiable RX4 2 ∈ TT := TT_mem (List.mem_append_right _ (List.mem_of_getElem? (i := 85) (by decide +kernel))) rfl
theorem mw_84 : Cond.classLink RX7 45 RX4 ∈ TT := TT_mem (List.mem_append_right _ (List.mem_of_getElem? (i := 84) (by decide +kernel))) rfl
theorem mw_88 : Cond.code yX4_init cX4_init 2 none ∈ TT := TT_mem (List.mem_append_right _ (List.mem_of_getElem? (i := 88) (by decide +kernel))) rfl
theorem mw_86 : Cond.methodLink RX7 47 yX4_init ∈ TT := TT_mem (List.mem_append_right _ (List.mem_of_getElem? (i := 86) (by decide +kernel))) rfl
theorem mw_87 : Cond.instanceMethod yX4_init ∈ TT := TT_mem (List.mem_append_right _ (List.mem_of_getElem? (i := 87) (by decide +kernel))) rfl
theorem mw_37 : Cond.methodLink RX8 3 Lib.objectInit ∈ TT := TT_mem (List.mem_append_right _ (List.mem_of_getElem? (i := 37) (by decide +kernel))) rfl
theorem mw_53 : Cond.methodLink RX6 3 Lib.objectInit ∈ TT := TT_mem (List.mem_append_right _ (List.mem_of_getElem? (i := 53) (by decide +kernel))) rfl
theorem mw_234 : Cond.methodLink RX3 3 Lib.objectInit ∈ TT := TT_mem (List.mem_append_right _ (List.mem_of_getElem? (i := 234) (by decide +kernel))) rfl
theorem mw_215 : Cond.methodLink RX5 3 Lib.objectInit ∈ TT := TT_mem (List.mem_append_right _ (List.mem_of_getElem? (i := 215) (by decide +kernel))) rfl
theorem mw_216 : Cond.classLink RX5 9 RX7 ∈ TT := TT_mem (List.mem_append_right _ (List.mem_of_getElem? (i := 216) (by decide +kernel))) rfl
theorem mw_268 : Cond.methodLink RX1 3 Lib.objectInit ∈ TT := TT_mem (List.mem_append_right _ (List.mem_of_getElem? (i := 268) (by decide +kernel))) rfl
theorem mw_313 : Cond.methodLink RX0 3 Lib.objectInit ∈ TT := TT_mem (List.mem_append_right _ (List.mem_of_getElem? (i := 313) (by decide +kernel))) rfl
theorem mw_79 : Cond.instantiable RX7 19 ∈ TT := TT_mem (List.mem_append_right _ (List.mem_of_getElem? (i := 79) (by decide +kernel))) rfl
theorem mw_314 : Cond.classLink RX0 9 RX7 ∈ TT := TT_mem (List.mem_append_right _ (List.mem_of_getElem? (i := 314) (by decide +kernel))) rfl
theorem mw_82 : Cond.code yX7_init cX7_init 1 none ∈ TT := TT_mem (List.mem_append_right _ (List.mem_of_getElem? (i := 82) (by decide +kernel))) rfl
theorem mw_315 : Cond.methodLink RX0 11 yX7_init ∈ TT := TT_mem (List.mem_append_right _ (List.mem_of_getElem? (i := 315) (by decide +kernel))) rfl
theorem mw_81 : Cond.instanceMethod yX7_init ∈ TT := TT_mem (List.mem_append_right _ (List.mem_of_getElem? (i := 81) (by decide +kernel))) rfl
theorem mw_1174 : Cond.methodLink RX10 3 Lib.objectInit ∈ TT := TT_mem (List.mem_append_right _ (List.mem_of_getElem? (i := 1174) (by decide +kernel))) rfl
theorem mw_522 : Cond.arrayClass .byte ∈ TT := TT_mem (List.mem_append_right _ (List.mem_of_getElem? (i := 522) (by decide +kernel))) rfl
theorem mw_1175 : Cond.constant RX10 41 (62160) ∈ TT := TT_mem (List.mem_append_right _ (List.mem_of_getElem? (i := 1175) (by decide +kernel))) rfl
theorem mw_1291 : Cond.arrayClass .boolean ∈ TT := TT_mem (List.mem_append_right _ (List.mem_of_getElem? (i := 1291) (by decide +kernel))) rfl
