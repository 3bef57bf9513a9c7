theorem mw_89 : Cond.methodLink RX4 3 Lib.objectInit ∈ TT := TT_mem (List.mem_append_right _ (List.mem_of_getElem? (i := 89) (by decide +kernel))) rfl
theorem mw_30 : Cond.instanceMethod Lib.objectInit ∈ TT := TT_mem (List.mem_append_right _ (List.mem_of_getElem? (i := 30) (by decide +kernel))) rfl
theorem mw_31 : Cond.code Lib.objectInit ⟨#[0xb1]⟩ 1 none ∈ TT := TT_mem (List.mem_append_right _ (List.mem_of_getElem? (i := 31) (by decide +kernel))) rfl
theorem mw_90 : Cond.methodLink RX4 9 yJ9_max_7cf53 ∈ TT := TT_mem (List.mem_append_right _ (List.mem_of_getElem? (i := 90) (by decide +kernel))) rfl
theorem mw_47 : Cond.arrayClass .int ∈ TT := TT_mem (List.mem_append_right _ (List.mem_of_getElem? (i := 47) (by decide +kernel))) rfl
theorem mw_83 : Cond.methodLink RX7 3 Lib.objectInit ∈ TT := TT_mem (List.mem_append_right _ (List.mem_of_getElem? (i := 83) (by decide +kernel))) rfl
theorem mw_85 : Cond.instantiable RX4 2 ∈ TT := TT_mem (List.mem_append_right _ (List.mem_of_getElem? (i := 85) (by decide +kernel))) rfl
theorem mw_84 : Cond.classLink RX7 45 RX4 ∈ TT := TT_mem (List.mem_append_right _ (List.mem_of_getElem? (i := 84) (by decide +kernel))) rfl
theorem mw_88 : Cond.code yX4_init cX4_init 2 none ∈ TT := TT_mem (List.mem_append_right _ (List.mem_of_getElem? (i := 88) (by decide +kernel))) rfl
theorem mw_86 : Cond.methodLink RX7 47 yX4_init ∈ TT := TT_mem (List.mem_append_right _ (List.mem_of_getElem? (i := 86) (by decide +kernel))) rfl
theorem mw_87 : Cond.instanceMethod yX4_init ∈ TT := TT_mem (List.mem_append_right _ (List.mem_of_getElem? (i := 87) (by decide +kernel))) rfl
