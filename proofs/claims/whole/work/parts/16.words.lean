theorem iw7 : ∀ w ∈ u_ws RX7 TX7 19, w ∈ TT := by decide +kernel
theorem mw_108 : Cond.fieldLink RX7 75 "NurseryHeap$State" "objects" "I" ∈ TT := TT_mem (List.mem_append_right _ (List.mem_of_getElem? (i := 108) (by decide +kernel))) rfl
theorem foX7_75 : Fok RX7 75 7 0 := ⟨RX7, TX7, 19, rfl, iw7, by decide, mw_108⟩
theorem mw_133 : Cond.fieldLink RX7 27 "NurseryHeap$State" "space" "[I" ∈ TT := TT_mem (List.mem_append_right _ (List.mem_of_getElem? (i := 133) (by decide +kernel))) rfl
theorem foX7_27 : Fok RX7 27 7 7 := ⟨RX7, TX7, 19, rfl, iw7, by decide, mw_133⟩
theorem iw1 : ∀ w ∈ u_ws RX1 TX1 12, w ∈ TT := by decide +kernel
theorem mw_281 : Cond.fieldLink RX1 116 "NurseryHeap$Collector" "moved" "I" ∈ TT := TT_mem (List.mem_append_right _ (List.mem_of_getElem? (i := 281) (by decide +kernel))) rfl
theorem poX1_116 : Pok RX1 116 1 10 .int := ⟨RX1, TX1, 12, tyX1, rfl, iw1, by decide, mw_281, tyX1_ok, nmX1, rfl, by decide +kernel⟩
theorem mw_282 : Cond.fieldLink RX1 57 "NurseryHeap$Collector" "stuck" "Z" ∈ TT := TT_mem (List.mem_append_right _ (List.mem_of_getElem? (i := 282) (by decide +kernel))) rfl
theorem poX1_57 : Pok RX1 57 1 11 .boolean := ⟨RX1, TX1, 12, tyX1, rfl, iw1, by decide, mw_282, tyX1_ok, nmX1, rfl, by decide +kernel⟩
theorem mw_279 : Cond.fieldLink RX1 30 "NurseryHeap$Collector" "filled" "[I" ∈ TT := TT_mem (List.mem_append_right _ (List.mem_of_getElem? (i := 279) (by decide +kernel))) rfl
theorem foX1_30 : Fok RX1 30 1 8 := ⟨RX1, TX1, 12, rfl, iw1, by decide, mw_279⟩
theorem mw_148 : Cond.fieldLink RX1 120 "NurseryHeap$State" "used" "[I" ∈ TT := TT_mem (List.mem_append_right _ (List.mem_of_getElem? (i := 148) (by decide +kernel))) rfl
theorem foX1_120 : Fok RX1 120 7 11 := ⟨RX7, TX7, 19, rfl, iw7, by decide, mw_148⟩
theorem mw_109 : Cond.fieldLink RX1 123 "NurseryHeap$State" "objects" "I" ∈ TT := TT_mem (List.mem_append_right _ (List.mem_of_getElem? (i := 109) (by decide +kernel))) rfl
theorem foX1_123 : Fok RX1 123 7 0 := ⟨RX7, TX7, 19, rfl, iw7, by decide, mw_109⟩
theorem mw_274 : Cond.fieldLink RX1 15 "NurseryHeap$Collector" "stage" "[I" ∈ TT := TT_mem (List.mem_append_right _ (List.mem_of_getElem? (i := 274) (by decide +kernel))) rfl
theorem foX1_15 : Fok RX1 15 1 3 := ⟨RX1, TX1, 12, rfl, iw1, by decide, mw_274⟩
theorem mw_631 : Cond.code yX7_isYoung cX7_isYoung 2 (some .boolean) ∈ TT := TT_mem (List.mem_append_right _ (List.mem_of_getElem? (i := 631) (by decide +kernel))) rfl
theorem mw_4 : Cond.initialized "NurseryHeap$State" ∈ TT := TT_mem (List.mem_append_right _ (List.mem_of_getElem? (i := 4) (by decide +kernel))) rfl
theorem mw_629 : Cond.instanceMethod yX7_isYoung ∈ TT := TT_mem (List.mem_append_right _ (List.mem_of_getElem? (i := 629) (by decide +kernel))) rfl
theorem mw_630 : Cond.selects yX7_isYoung.cls yX7_isYoung yX7_isYoung ∈ TT := TT_mem (List.mem_append_right _ (List.mem_of_getElem? (i := 630) (by decide +kernel))) rfl
theorem okX7_isYoung : CokV yX7_isYoung cX7_isYoung 2 (some .boolean) 1 7 := ⟨⟨mw_631, mw_4, by decide +kernel⟩, mw_629, mw_630, ⟨_, rfl, rfl⟩⟩
theorem mw_628 : Cond.methodLink RX1 126 yX7_isYoung ∈ TT := TT_mem (List.mem_append_right _ (List.mem_of_getElem? (i := 628) (by decide +kernel))) rfl
theorem foX1_57 : Fok RX1 57 1 11 := ⟨RX1, TX1, 12, rfl, iw1, by decide, mw_282⟩
theorem mw_124 : Cond.fieldLink RX1 165 "NurseryHeap$State" "size" "[I" ∈ TT := TT_mem (List.mem_append_right _ (List.mem_of_getElem? (i := 124) (by decide +kernel))) rfl
theorem foX1_165 : Fok RX1 165 7 4 := ⟨RX7, TX7, 19, rfl, iw7, by decide, mw_124⟩
theorem mw_131 : Cond.fieldLink RX1 168 "NurseryHeap$State" "age" "[I" ∈ TT := TT_mem (List.mem_append_right _ (List.mem_of_getElem? (i := 131) (by decide +kernel))) rfl
theorem foX1_168 : Fok RX1 168 7 6 := ⟨RX7, TX7, 19, rfl, iw7, by decide, mw_131⟩
theorem mw_269 : Cond.fieldLink RX1 36 "NurseryHeap$Collector" "rules" "[I" ∈ TT := TT_mem (List.mem_append_right _ (List.mem_of_getElem? (i := 269) (by decide +kernel))) rfl
theorem foX1_36 : Fok RX1 36 1 0 := ⟨RX1, TX1, 12, rfl, iw1, by decide, mw_269⟩
theorem mw_276 : Cond.fieldLink RX1 21 "NurseryHeap$Collector" "newSpace" "[I" ∈ TT := TT_mem (List.mem_append_right _ (List.mem_of_getElem? (i := 276) (by decide +kernel))) rfl
theorem foX1_21 : Fok RX1 21 1 5 := ⟨RX1, TX1, 12, rfl, iw1, by decide, mw_276⟩
theorem mw_277 : Cond.fieldLink RX1 24 "NurseryHeap$Collector" "newPlace" "[I" ∈ TT := TT_mem (List.mem_append_right _ (List.mem_of_getElem? (i := 277) (by decide +kernel))) rfl
theorem foX1_24 : Fok RX1 24 1 6 := ⟨RX1, TX1, 12, rfl, iw1, by decide, mw_277⟩
theorem mw_275 : Cond.fieldLink RX1 18 "NurseryHeap$Collector" "order" "[I" ∈ TT := TT_mem (List.mem_append_right _ (List.mem_of_getElem? (i := 275) (by decide +kernel))) rfl
theorem foX1_18 : Fok RX1 18 1 4 := ⟨RX1, TX1, 12, rfl, iw1, by decide, mw_275⟩
theorem foX1_116 : Fok RX1 116 1 10 := ⟨RX1, TX1, 12, rfl, iw1, by decide, mw_281⟩
theorem iw4 : ∀ w ∈ u_ws RX4 TX4 2, w ∈ TT := by decide +kernel
theorem mw_94 : Cond.fieldLink RX4 21 "NurseryHeap$Line" "length" "I" ∈ TT := TT_mem (List.mem_append_right _ (List.mem_of_getElem? (i := 94) (by decide +kernel))) rfl
theorem foX4_21 : Fok RX4 21 4 1 := ⟨RX4, TX4, 2, rfl, iw4, by decide, mw_94⟩
theorem mw_93 : Cond.fieldLink RX4 15 "NurseryHeap$Line" "row" "[I" ∈ TT := TT_mem (List.mem_append_right _ (List.mem_of_getElem? (i := 93) (by decide +kernel))) rfl
theorem foX4_15 : Fok RX4 15 4 0 := ⟨RX4, TX4, 2, rfl, iw4, by decide, mw_93⟩
theorem mw_118 : Cond.fieldLink RX7 15 "NurseryHeap$State" "kind" "[I" ∈ TT := TT_mem (List.mem_append_right _ (List.mem_of_getElem? (i := 118) (by decide +kernel))) rfl
theorem foX7_15 : Fok RX7 15 7 3 := ⟨RX7, TX7, 19, rfl, iw7, by decide, mw_118⟩
theorem mw_123 : Cond.fieldLink RX7 18 "NurseryHeap$State" "size" "[I" ∈ TT := TT_mem (List.mem_append_right _ (List.mem_of_getElem? (i := 123) (by decide +kernel))) rfl
theorem foX7_18 : Fok RX7 18 7 4 := ⟨RX7, TX7, 19, rfl, iw7, by decide, mw_123⟩
theorem mw_140 : Cond.fieldLink RX7 33 "NurseryHeap$State" "links" "[I" ∈ TT := TT_mem (List.mem_append_right _ (List.mem_of_getElem? (i := 140) (by decide +kernel))) rfl
theorem foX7_33 : Fok RX7 33 7 9 := ⟨RX7, TX7, 19, rfl, iw7, by decide, mw_140⟩
theorem mw_143 : Cond.fieldLink RX1 130 "NurseryHeap$State" "roots" "[I" ∈ TT := TT_mem (List.mem_append_right _ (List.mem_of_getElem? (i := 143) (by decide +kernel))) rfl
theorem foX1_130 : Fok RX1 130 7 10 := ⟨RX7, TX7, 19, rfl, iw7, by decide, mw_143⟩
theorem mw_639 : Cond.code yX1_planMove cX1_planMove 7 none ∈ TT := TT_mem (List.mem_append_right _ (List.mem_of_getElem? (i := 639) (by decide +kernel))) rfl
theorem mw_10 : Cond.initialized "NurseryHeap$Collector" ∈ TT := TT_mem (List.mem_append_right _ (List.mem_of_getElem? (i := 10) (by decide +kernel))) rfl
theorem mw_638 : Cond.instanceMethod yX1_planMove ∈ TT := TT_mem (List.mem_append_right _ (List.mem_of_getElem? (i := 638) (by decide +kernel))) rfl
theorem okX1_planMove : CokV yX1_planMove cX1_planMove 7 none 3 1 := ⟨⟨mw_639, mw_10, by decide +kernel⟩, mw_638, (TT_mem (List.mem_append_left _ (List.mem_of_getElem? (i := 10) (by decide +kernel))) rfl), ⟨_, rfl, rfl⟩⟩
theorem mw_636 : Cond.methodLink RX1 133 yX1_planMove ∈ TT := TT_mem (List.mem_append_right _ (List.mem_of_getElem? (i := 636) (by decide +kernel))) rfl
theorem mw_154 : Cond.fieldLink RX1 136 "NurseryHeap$State" "ends" "LNurseryHeap$Line;" ∈ TT := TT_mem (List.mem_append_right _ (List.mem_of_getElem? (i := 154) (by decide +kernel))) rfl
theorem foX1_136 : Fok RX1 136 7 13 := ⟨RX7, TX7, 19, rfl, iw7, by decide, mw_154⟩
theorem mw_96 : Cond.fieldLink RX1 140 "NurseryHeap$Line" "length" "I" ∈ TT := TT_mem (List.mem_append_right _ (List.mem_of_getElem? (i := 96) (by decide +kernel))) rfl
theorem foX1_140 : Fok RX1 140 4 1 := ⟨RX4, TX4, 2, rfl, iw4, by decide, mw_96⟩
theorem mw_643 : Cond.code yX4_get cX4_get 2 (some .int) ∈ TT := TT_mem (List.mem_append_right _ (List.mem_of_getElem? (i := 643) (by decide +kernel))) rfl
theorem mw_5 : Cond.initialized "NurseryHeap$Line" ∈ TT := TT_mem (List.mem_append_right _ (List.mem_of_getElem? (i := 5) (by decide +kernel))) rfl
theorem mw_641 : Cond.instanceMethod yX4_get ∈ TT := TT_mem (List.mem_append_right _ (List.mem_of_getElem? (i := 641) (by decide +kernel))) rfl
theorem mw_642 : Cond.selects yX4_get.cls yX4_get yX4_get ∈ TT := TT_mem (List.mem_append_right _ (List.mem_of_getElem? (i := 642) (by decide +kernel))) rfl
theorem okX4_get : CokV yX4_get cX4_get 2 (some .int) 1 4 := ⟨⟨mw_643, mw_5, by decide +kernel⟩, mw_641, mw_642, ⟨_, rfl, rfl⟩⟩
theorem mw_640 : Cond.methodLink RX1 145 yX4_get ∈ TT := TT_mem (List.mem_append_right _ (List.mem_of_getElem? (i := 640) (by decide +kernel))) rfl
theorem mw_163 : Cond.fieldLink RX1 149 "NurseryHeap$State" "remembered" "LNurseryHeap$Line;" ∈ TT := TT_mem (List.mem_append_right _ (List.mem_of_getElem? (i := 163) (by decide +kernel))) rfl
theorem foX1_149 : Fok RX1 149 7 15 := ⟨RX7, TX7, 19, rfl, iw7, by decide, mw_163⟩
theorem mw_647 : Cond.code yX7_firstStrong cX7_firstStrong 2 (some .int) ∈ TT := TT_mem (List.mem_append_right _ (List.mem_of_getElem? (i := 647) (by decide +kernel))) rfl
theorem mw_645 : Cond.instanceMethod yX7_firstStrong ∈ TT := TT_mem (List.mem_append_right _ (List.mem_of_getElem? (i := 645) (by decide +kernel))) rfl
theorem mw_646 : Cond.selects yX7_firstStrong.cls yX7_firstStrong yX7_firstStrong ∈ TT := TT_mem (List.mem_append_right _ (List.mem_of_getElem? (i := 646) (by decide +kernel))) rfl
theorem okX7_firstStrong : CokV yX7_firstStrong cX7_firstStrong 2 (some .int) 1 7 := ⟨⟨mw_647, mw_4, by decide +kernel⟩, mw_645, mw_646, ⟨_, rfl, rfl⟩⟩
theorem mw_644 : Cond.methodLink RX1 152 yX7_firstStrong ∈ TT := TT_mem (List.mem_append_right _ (List.mem_of_getElem? (i := 644) (by decide +kernel))) rfl
theorem mw_574 : Cond.code yX7_target cX7_target 3 (some .int) ∈ TT := TT_mem (List.mem_append_right _ (List.mem_of_getElem? (i := 574) (by decide +kernel))) rfl
theorem mw_572 : Cond.instanceMethod yX7_target ∈ TT := TT_mem (List.mem_append_right _ (List.mem_of_getElem? (i := 572) (by decide +kernel))) rfl
theorem mw_573 : Cond.selects yX7_target.cls yX7_target yX7_target ∈ TT := TT_mem (List.mem_append_right _ (List.mem_of_getElem? (i := 573) (by decide +kernel))) rfl
theorem okX7_target : CokV yX7_target cX7_target 3 (some .int) 2 7 := ⟨⟨mw_574, mw_4, by decide +kernel⟩, mw_572, mw_573, ⟨_, rfl, rfl⟩⟩
theorem mw_648 : Cond.methodLink RX1 155 yX7_target ∈ TT := TT_mem (List.mem_append_right _ (List.mem_of_getElem? (i := 648) (by decide +kernel))) rfl
theorem mw_656 : Cond.code yX7_fieldsOf cX7_fieldsOf 2 (some .int) ∈ TT := TT_mem (List.mem_append_right _ (List.mem_of_getElem? (i := 656) (by decide +kernel))) rfl
theorem mw_654 : Cond.instanceMethod yX7_fieldsOf ∈ TT := TT_mem (List.mem_append_right _ (List.mem_of_getElem? (i := 654) (by decide +kernel))) rfl
theorem mw_655 : Cond.selects yX7_fieldsOf.cls yX7_fieldsOf yX7_fieldsOf ∈ TT := TT_mem (List.mem_append_right _ (List.mem_of_getElem? (i := 655) (by decide +kernel))) rfl
theorem okX7_fieldsOf : CokV yX7_fieldsOf cX7_fieldsOf 2 (some .int) 1 7 := ⟨⟨mw_656, mw_4, by decide +kernel⟩, mw_654, mw_655, ⟨_, rfl, rfl⟩⟩
theorem mw_653 : Cond.methodLink RX1 159 yX7_fieldsOf ∈ TT := TT_mem (List.mem_append_right _ (List.mem_of_getElem? (i := 653) (by decide +kernel))) rfl
theorem mw_119 : Cond.fieldLink RX1 162 "NurseryHeap$State" "kind" "[I" ∈ TT := TT_mem (List.mem_append_right _ (List.mem_of_getElem? (i := 119) (by decide +kernel))) rfl
theorem foX1_162 : Fok RX1 162 7 3 := ⟨RX7, TX7, 19, rfl, iw7, by decide, mw_119⟩
theorem mw_652 : Cond.code yX1_planFrom cX1_planFrom 7 none ∈ TT := TT_mem (List.mem_append_right _ (List.mem_of_getElem? (i := 652) (by decide +kernel))) rfl
theorem mw_651 : Cond.instanceMethod yX1_planFrom ∈ TT := TT_mem (List.mem_append_right _ (List.mem_of_getElem? (i := 651) (by decide +kernel))) rfl
theorem okX1_planFrom : CokV yX1_planFrom cX1_planFrom 7 none 3 1 := ⟨⟨mw_652, mw_10, by decide +kernel⟩, mw_651, (TT_mem (List.mem_append_left _ (List.mem_of_getElem? (i := 11) (by decide +kernel))) rfl), ⟨_, rfl, rfl⟩⟩
theorem mw_649 : Cond.methodLink RX1 50 yX1_planFrom ∈ TT := TT_mem (List.mem_append_right _ (List.mem_of_getElem? (i := 649) (by decide +kernel))) rfl
theorem mw_570 : Cond.code yX7_hasField cX7_hasField 3 (some .boolean) ∈ TT := TT_mem (List.mem_append_right _ (List.mem_of_getElem? (i := 570) (by decide +kernel))) rfl
theorem mw_568 : Cond.instanceMethod yX7_hasField ∈ TT := TT_mem (List.mem_append_right _ (List.mem_of_getElem? (i := 568) (by decide +kernel))) rfl
theorem mw_569 : Cond.selects yX7_hasField.cls yX7_hasField yX7_hasField ∈ TT := TT_mem (List.mem_append_right _ (List.mem_of_getElem? (i := 569) (by decide +kernel))) rfl
theorem okX7_hasField : CokV yX7_hasField cX7_hasField 3 (some .boolean) 2 7 := ⟨⟨mw_570, mw_4, by decide +kernel⟩, mw_568, mw_569, ⟨_, rfl, rfl⟩⟩
theorem mw_675 : Cond.methodLink RX7 103 yX7_hasField ∈ TT := TT_mem (List.mem_append_right _ (List.mem_of_getElem? (i := 675) (by decide +kernel))) rfl
theorem poX4_21 : Pok RX4 21 4 1 .int := ⟨RX4, TX4, 2, tyX4, rfl, iw4, by decide, mw_94, tyX4_ok, nmX4, rfl, by decide +kernel⟩
theorem mw_610 : Cond.methodLink RX4 28 arraycopyName ∈ TT := TT_mem (List.mem_append_right _ (List.mem_of_getElem? (i := 610) (by decide +kernel))) rfl
theorem mw_402 : Cond.native arraycopyName ∈ TT := TT_mem (List.mem_append_right _ (List.mem_of_getElem? (i := 402) (by decide +kernel))) rfl
theorem mw_401 : Cond.static arraycopyName ∈ TT := TT_mem (List.mem_append_right _ (List.mem_of_getElem? (i := 401) (by decide +kernel))) rfl
theorem mw_13 : Cond.initialized "java/lang/System" ∈ TT := TT_mem (List.mem_append_right _ (List.mem_of_getElem? (i := 13) (by decide +kernel))) rfl
theorem mw_669 : Cond.code yX7_isWeak cX7_isWeak 2 (some .boolean) ∈ TT := TT_mem (List.mem_append_right _ (List.mem_of_getElem? (i := 669) (by decide +kernel))) rfl
theorem mw_667 : Cond.instanceMethod yX7_isWeak ∈ TT := TT_mem (List.mem_append_right _ (List.mem_of_getElem? (i := 667) (by decide +kernel))) rfl
theorem mw_668 : Cond.selects yX7_isWeak.cls yX7_isWeak yX7_isWeak ∈ TT := TT_mem (List.mem_append_right _ (List.mem_of_getElem? (i := 668) (by decide +kernel))) rfl
theorem okX7_isWeak : CokV yX7_isWeak cX7_isWeak 2 (some .boolean) 1 7 := ⟨⟨mw_669, mw_4, by decide +kernel⟩, mw_667, mw_668, ⟨_, rfl, rfl⟩⟩
theorem mw_666 : Cond.methodLink RX1 191 yX7_isWeak ∈ TT := TT_mem (List.mem_append_right _ (List.mem_of_getElem? (i := 666) (by decide +kernel))) rfl
theorem mw_558 : Cond.code yX7_isSlot cX7_isSlot 2 (some .boolean) ∈ TT := TT_mem (List.mem_append_right _ (List.mem_of_getElem? (i := 558) (by decide +kernel))) rfl
theorem mw_556 : Cond.instanceMethod yX7_isSlot ∈ TT := TT_mem (List.mem_append_right _ (List.mem_of_getElem? (i := 556) (by decide +kernel))) rfl
theorem mw_557 : Cond.selects yX7_isSlot.cls yX7_isSlot yX7_isSlot ∈ TT := TT_mem (List.mem_append_right _ (List.mem_of_getElem? (i := 557) (by decide +kernel))) rfl
theorem okX7_isSlot : CokV yX7_isSlot cX7_isSlot 2 (some .boolean) 1 7 := ⟨⟨mw_558, mw_4, by decide +kernel⟩, mw_556, mw_557, ⟨_, rfl, rfl⟩⟩
theorem mw_670 : Cond.methodLink RX1 194 yX7_isSlot ∈ TT := TT_mem (List.mem_append_right _ (List.mem_of_getElem? (i := 670) (by decide +kernel))) rfl
theorem mw_674 : Cond.code yX7_setTarget cX7_setTarget 4 none ∈ TT := TT_mem (List.mem_append_right _ (List.mem_of_getElem? (i := 674) (by decide +kernel))) rfl
theorem mw_672 : Cond.instanceMethod yX7_setTarget ∈ TT := TT_mem (List.mem_append_right _ (List.mem_of_getElem? (i := 672) (by decide +kernel))) rfl
theorem mw_673 : Cond.selects yX7_setTarget.cls yX7_setTarget yX7_setTarget ∈ TT := TT_mem (List.mem_append_right _ (List.mem_of_getElem? (i := 673) (by decide +kernel))) rfl
theorem okX7_setTarget : CokV yX7_setTarget cX7_setTarget 4 none 3 7 := ⟨⟨mw_674, mw_4, by decide +kernel⟩, mw_672, mw_673, ⟨_, rfl, rfl⟩⟩
theorem mw_671 : Cond.methodLink RX1 197 yX7_setTarget ∈ TT := TT_mem (List.mem_append_right _ (List.mem_of_getElem? (i := 671) (by decide +kernel))) rfl
theorem mw_160 : Cond.fieldLink RX1 200 "NurseryHeap$State" "lost" "LNurseryHeap$Line;" ∈ TT := TT_mem (List.mem_append_right _ (List.mem_of_getElem? (i := 160) (by decide +kernel))) rfl
theorem foX1_200 : Fok RX1 200 7 14 := ⟨RX7, TX7, 19, rfl, iw7, by decide, mw_160⟩
theorem mw_117 : Cond.fieldLink RX1 203 "NurseryHeap$State" "number" "[I" ∈ TT := TT_mem (List.mem_append_right _ (List.mem_of_getElem? (i := 117) (by decide +kernel))) rfl
theorem foX1_203 : Fok RX1 203 7 2 := ⟨RX7, TX7, 19, rfl, iw7, by decide, mw_117⟩
theorem mw_679 : Cond.code yX4_add cX4_add 2 none ∈ TT := TT_mem (List.mem_append_right _ (List.mem_of_getElem? (i := 679) (by decide +kernel))) rfl
theorem mw_677 : Cond.instanceMethod yX4_add ∈ TT := TT_mem (List.mem_append_right _ (List.mem_of_getElem? (i := 677) (by decide +kernel))) rfl
theorem mw_678 : Cond.selects yX4_add.cls yX4_add yX4_add ∈ TT := TT_mem (List.mem_append_right _ (List.mem_of_getElem? (i := 678) (by decide +kernel))) rfl
theorem okX4_add : CokV yX4_add cX4_add 2 none 1 4 := ⟨⟨mw_679, mw_5, by decide +kernel⟩, mw_677, mw_678, ⟨_, rfl, rfl⟩⟩
theorem mw_676 : Cond.methodLink RX1 187 yX4_add ∈ TT := TT_mem (List.mem_append_right _ (List.mem_of_getElem? (i := 676) (by decide +kernel))) rfl
theorem mw_271 : Cond.fieldLink RX1 9 "NurseryHeap$Collector" "once" "[I" ∈ TT := TT_mem (List.mem_append_right _ (List.mem_of_getElem? (i := 271) (by decide +kernel))) rfl
theorem foX1_9 : Fok RX1 9 1 2 := ⟨RX1, TX1, 12, rfl, iw1, by decide, mw_271⟩
theorem mw_136 : Cond.fieldLink RX1 206 "NurseryHeap$State" "space" "[I" ∈ TT := TT_mem (List.mem_append_right _ (List.mem_of_getElem? (i := 136) (by decide +kernel))) rfl
theorem foX1_206 : Fok RX1 206 7 7 := ⟨RX7, TX7, 19, rfl, iw7, by decide, mw_136⟩
theorem mw_139 : Cond.fieldLink RX1 209 "NurseryHeap$State" "place" "[I" ∈ TT := TT_mem (List.mem_append_right _ (List.mem_of_getElem? (i := 139) (by decide +kernel))) rfl
theorem foX1_209 : Fok RX1 209 7 8 := ⟨RX7, TX7, 19, rfl, iw7, by decide, mw_139⟩
theorem mw_113 : Cond.fieldLink RX1 212 "NurseryHeap$State" "survivorInUse" "I" ∈ TT := TT_mem (List.mem_append_right _ (List.mem_of_getElem? (i := 113) (by decide +kernel))) rfl
theorem foX1_212 : Fok RX1 212 7 1 := ⟨RX7, TX7, 19, rfl, iw7, by decide, mw_113⟩
theorem poX1_212 : Pok RX1 212 7 1 .int := ⟨RX7, TX7, 19, tyX7, rfl, iw7, by decide, mw_113, tyX7_ok, nmX7, rfl, by decide +kernel⟩
theorem mw_555 : Cond.methodLink RX7 99 yX7_isSlot ∈ TT := TT_mem (List.mem_append_right _ (List.mem_of_getElem? (i := 555) (by decide +kernel))) rfl
theorem mw_696 : Cond.methodLink RX7 123 yX7_isYoung ∈ TT := TT_mem (List.mem_append_right _ (List.mem_of_getElem? (i := 696) (by decide +kernel))) rfl
theorem mw_697 : Cond.methodLink RX7 126 yX7_target ∈ TT := TT_mem (List.mem_append_right _ (List.mem_of_getElem? (i := 697) (by decide +kernel))) rfl
theorem mw_695 : Cond.code yX7_isOldToYoung cX7_isOldToYoung 3 (some .boolean) ∈ TT := TT_mem (List.mem_append_right _ (List.mem_of_getElem? (i := 695) (by decide +kernel))) rfl
theorem mw_693 : Cond.instanceMethod yX7_isOldToYoung ∈ TT := TT_mem (List.mem_append_right _ (List.mem_of_getElem? (i := 693) (by decide +kernel))) rfl
theorem mw_694 : Cond.selects yX7_isOldToYoung.cls yX7_isOldToYoung yX7_isOldToYoung ∈ TT := TT_mem (List.mem_append_right _ (List.mem_of_getElem? (i := 694) (by decide +kernel))) rfl
theorem okX7_isOldToYoung : CokV yX7_isOldToYoung cX7_isOldToYoung 3 (some .boolean) 2 7 := ⟨⟨mw_695, mw_4, by decide +kernel⟩, mw_693, mw_694, ⟨_, rfl, rfl⟩⟩
theorem mw_692 : Cond.methodLink RX1 218 yX7_isOldToYoung ∈ TT := TT_mem (List.mem_append_right _ (List.mem_of_getElem? (i := 692) (by decide +kernel))) rfl
theorem mw_701 : Cond.code yX4_set cX4_set 3 none ∈ TT := TT_mem (List.mem_append_right _ (List.mem_of_getElem? (i := 701) (by decide +kernel))) rfl
theorem mw_699 : Cond.instanceMethod yX4_set ∈ TT := TT_mem (List.mem_append_right _ (List.mem_of_getElem? (i := 699) (by decide +kernel))) rfl
theorem mw_700 : Cond.selects yX4_set.cls yX4_set yX4_set ∈ TT := TT_mem (List.mem_append_right _ (List.mem_of_getElem? (i := 700) (by decide +kernel))) rfl
theorem okX4_set : CokV yX4_set cX4_set 3 none 2 4 := ⟨⟨mw_701, mw_5, by decide +kernel⟩, mw_699, mw_700, ⟨_, rfl, rfl⟩⟩
theorem mw_698 : Cond.methodLink RX1 222 yX4_set ∈ TT := TT_mem (List.mem_append_right _ (List.mem_of_getElem? (i := 698) (by decide +kernel))) rfl
theorem poX1_140 : Pok RX1 140 4 1 .int := ⟨RX4, TX4, 2, tyX4, rfl, iw4, by decide, mw_96, tyX4_ok, nmX4, rfl, by decide +kernel⟩
theorem mw_278 : Cond.fieldLink RX1 27 "NurseryHeap$Collector" "newSlot" "[I" ∈ TT := TT_mem (List.mem_append_right _ (List.mem_of_getElem? (i := 278) (by decide +kernel))) rfl
theorem foX1_27 : Fok RX1 27 1 7 := ⟨RX1, TX1, 12, rfl, iw1, by decide, mw_278⟩
theorem mw_115 : Cond.fieldLink RX7 9 "NurseryHeap$State" "number" "[I" ∈ TT := TT_mem (List.mem_append_right _ (List.mem_of_getElem? (i := 115) (by decide +kernel))) rfl
theorem foX7_9 : Fok RX7 9 7 2 := ⟨RX7, TX7, 19, rfl, iw7, by decide, mw_115⟩
theorem mw_127 : Cond.fieldLink RX7 21 "NurseryHeap$State" "data" "[I" ∈ TT := TT_mem (List.mem_append_right _ (List.mem_of_getElem? (i := 127) (by decide +kernel))) rfl
theorem foX7_21 : Fok RX7 21 7 5 := ⟨RX7, TX7, 19, rfl, iw7, by decide, mw_127⟩
theorem mw_130 : Cond.fieldLink RX7 24 "NurseryHeap$State" "age" "[I" ∈ TT := TT_mem (List.mem_append_right _ (List.mem_of_getElem? (i := 130) (by decide +kernel))) rfl
theorem foX7_24 : Fok RX7 24 7 6 := ⟨RX7, TX7, 19, rfl, iw7, by decide, mw_130⟩
theorem mw_137 : Cond.fieldLink RX7 30 "NurseryHeap$State" "place" "[I" ∈ TT := TT_mem (List.mem_append_right _ (List.mem_of_getElem? (i := 137) (by decide +kernel))) rfl
theorem foX7_30 : Fok RX7 30 7 8 := ⟨RX7, TX7, 19, rfl, iw7, by decide, mw_137⟩
theorem mw_720 : Cond.code yX7_renamed cX7_renamed 2 (some .int) ∈ TT := TT_mem (List.mem_append_right _ (List.mem_of_getElem? (i := 720) (by decide +kernel))) rfl
theorem mw_719 : Cond.static yX7_renamed ∈ TT := TT_mem (List.mem_append_right _ (List.mem_of_getElem? (i := 719) (by decide +kernel))) rfl
theorem okX7_renamed : CokS yX7_renamed cX7_renamed 2 (some .int) 2 := ⟨⟨mw_720, mw_4, by decide +kernel⟩, mw_719⟩
theorem mw_718 : Cond.methodLink RX7 142 yX7_renamed ∈ TT := TT_mem (List.mem_append_right _ (List.mem_of_getElem? (i := 718) (by decide +kernel))) rfl
theorem mw_717 : Cond.code yX7_moveSlot cX7_moveSlot 5 none ∈ TT := TT_mem (List.mem_append_right _ (List.mem_of_getElem? (i := 717) (by decide +kernel))) rfl
theorem mw_716 : Cond.instanceMethod yX7_moveSlot ∈ TT := TT_mem (List.mem_append_right _ (List.mem_of_getElem? (i := 716) (by decide +kernel))) rfl
theorem okX7_moveSlot : CokV yX7_moveSlot cX7_moveSlot 5 none 3 7 := ⟨⟨mw_717, mw_4, by decide +kernel⟩, mw_716, (TT_mem (List.mem_append_left _ (List.mem_of_getElem? (i := 19) (by decide +kernel))) rfl), ⟨_, rfl, rfl⟩⟩
theorem mw_714 : Cond.methodLink RX7 138 yX7_moveSlot ∈ TT := TT_mem (List.mem_append_right _ (List.mem_of_getElem? (i := 714) (by decide +kernel))) rfl
theorem poX7_75 : Pok RX7 75 7 0 .int := ⟨RX7, TX7, 19, tyX7, rfl, iw7, by decide, mw_108, tyX7_ok, nmX7, rfl, by decide +kernel⟩
theorem mw_141 : Cond.fieldLink RX7 36 "NurseryHeap$State" "roots" "[I" ∈ TT := TT_mem (List.mem_append_right _ (List.mem_of_getElem? (i := 141) (by decide +kernel))) rfl
theorem foX7_36 : Fok RX7 36 7 10 := ⟨RX7, TX7, 19, rfl, iw7, by decide, mw_141⟩
theorem mw_153 : Cond.fieldLink RX7 50 "NurseryHeap$State" "ends" "LNurseryHeap$Line;" ∈ TT := TT_mem (List.mem_append_right _ (List.mem_of_getElem? (i := 153) (by decide +kernel))) rfl
theorem foX7_50 : Fok RX7 50 7 13 := ⟨RX7, TX7, 19, rfl, iw7, by decide, mw_153⟩
theorem mw_95 : Cond.fieldLink RX7 82 "NurseryHeap$Line" "length" "I" ∈ TT := TT_mem (List.mem_append_right _ (List.mem_of_getElem? (i := 95) (by decide +kernel))) rfl
theorem foX7_82 : Fok RX7 82 4 1 := ⟨RX4, TX4, 2, rfl, iw4, by decide, mw_95⟩
theorem mw_721 : Cond.methodLink RX7 146 yX4_get ∈ TT := TT_mem (List.mem_append_right _ (List.mem_of_getElem? (i := 721) (by decide +kernel))) rfl
theorem mw_722 : Cond.methodLink RX7 149 yX4_set ∈ TT := TT_mem (List.mem_append_right _ (List.mem_of_getElem? (i := 722) (by decide +kernel))) rfl
theorem mw_162 : Cond.fieldLink RX7 57 "NurseryHeap$State" "remembered" "LNurseryHeap$Line;" ∈ TT := TT_mem (List.mem_append_right _ (List.mem_of_getElem? (i := 162) (by decide +kernel))) rfl
theorem foX7_57 : Fok RX7 57 7 15 := ⟨RX7, TX7, 19, rfl, iw7, by decide, mw_162⟩
theorem mw_151 : Cond.fieldLink RX1 93 "NurseryHeap$State" "tallies" "[I" ∈ TT := TT_mem (List.mem_append_right _ (List.mem_of_getElem? (i := 151) (by decide +kernel))) rfl
theorem foX1_93 : Fok RX1 93 7 12 := ⟨RX7, TX7, 19, rfl, iw7, by decide, mw_151⟩
theorem mw_627 : Cond.code yX1_beginPlan cX1_beginPlan 3 none ∈ TT := TT_mem (List.mem_append_right _ (List.mem_of_getElem? (i := 627) (by decide +kernel))) rfl
theorem mw_626 : Cond.instanceMethod yX1_beginPlan ∈ TT := TT_mem (List.mem_append_right _ (List.mem_of_getElem? (i := 626) (by decide +kernel))) rfl
theorem okX1_beginPlan : CokV yX1_beginPlan cX1_beginPlan 3 none 1 1 := ⟨⟨mw_627, mw_10, by decide +kernel⟩, mw_626, (TT_mem (List.mem_append_left _ (List.mem_of_getElem? (i := 8) (by decide +kernel))) rfl), ⟨_, rfl, rfl⟩⟩
theorem mw_624 : Cond.methodLink RX1 43 yX1_beginPlan ∈ TT := TT_mem (List.mem_append_right _ (List.mem_of_getElem? (i := 624) (by decide +kernel))) rfl
theorem mw_635 : Cond.code yX1_planFromRoots cX1_planFromRoots 6 none ∈ TT := TT_mem (List.mem_append_right _ (List.mem_of_getElem? (i := 635) (by decide +kernel))) rfl
theorem mw_634 : Cond.instanceMethod yX1_planFromRoots ∈ TT := TT_mem (List.mem_append_right _ (List.mem_of_getElem? (i := 634) (by decide +kernel))) rfl
theorem okX1_planFromRoots : CokV yX1_planFromRoots cX1_planFromRoots 6 none 1 1 := ⟨⟨mw_635, mw_10, by decide +kernel⟩, mw_634, (TT_mem (List.mem_append_left _ (List.mem_of_getElem? (i := 9) (by decide +kernel))) rfl), ⟨_, rfl, rfl⟩⟩
theorem mw_632 : Cond.methodLink RX1 47 yX1_planFromRoots ∈ TT := TT_mem (List.mem_append_right _ (List.mem_of_getElem? (i := 632) (by decide +kernel))) rfl
theorem mw_660 : Cond.code yX1_planFromLasting cX1_planFromLasting 4 none ∈ TT := TT_mem (List.mem_append_right _ (List.mem_of_getElem? (i := 660) (by decide +kernel))) rfl
theorem mw_659 : Cond.instanceMethod yX1_planFromLasting ∈ TT := TT_mem (List.mem_append_right _ (List.mem_of_getElem? (i := 659) (by decide +kernel))) rfl
theorem okX1_planFromLasting : CokV yX1_planFromLasting cX1_planFromLasting 4 none 1 1 := ⟨⟨mw_660, mw_10, by decide +kernel⟩, mw_659, (TT_mem (List.mem_append_left _ (List.mem_of_getElem? (i := 12) (by decide +kernel))) rfl), ⟨_, rfl, rfl⟩⟩
theorem mw_657 : Cond.methodLink RX1 54 yX1_planFromLasting ∈ TT := TT_mem (List.mem_append_right _ (List.mem_of_getElem? (i := 657) (by decide +kernel))) rfl
theorem mw_107 : Cond.code yJ7_fill_53178 cJ7_fill_53178 4 none ∈ TT := TT_mem (List.mem_append_right _ (List.mem_of_getElem? (i := 107) (by decide +kernel))) rfl
theorem mw_7 : Cond.initialized "java/util/Arrays" ∈ TT := TT_mem (List.mem_append_right _ (List.mem_of_getElem? (i := 7) (by decide +kernel))) rfl
theorem mw_106 : Cond.static yJ7_fill_53178 ∈ TT := TT_mem (List.mem_append_right _ (List.mem_of_getElem? (i := 106) (by decide +kernel))) rfl
theorem okJ7_fill_53178 : CokS yJ7_fill_53178 cJ7_fill_53178 4 none 2 := ⟨⟨mw_107, mw_7, by decide +kernel⟩, mw_106⟩
theorem mw_661 : Cond.methodLink RX1 61 yJ7_fill_53178 ∈ TT := TT_mem (List.mem_append_right _ (List.mem_of_getElem? (i := 661) (by decide +kernel))) rfl
theorem mw_665 : Cond.code yX1_emptyWeak cX1_emptyWeak 5 none ∈ TT := TT_mem (List.mem_append_right _ (List.mem_of_getElem? (i := 665) (by decide +kernel))) rfl
theorem mw_664 : Cond.instanceMethod yX1_emptyWeak ∈ TT := TT_mem (List.mem_append_right _ (List.mem_of_getElem? (i := 664) (by decide +kernel))) rfl
theorem okX1_emptyWeak : CokV yX1_emptyWeak cX1_emptyWeak 5 none 2 1 := ⟨⟨mw_665, mw_10, by decide +kernel⟩, mw_664, (TT_mem (List.mem_append_left _ (List.mem_of_getElem? (i := 13) (by decide +kernel))) rfl), ⟨_, rfl, rfl⟩⟩
theorem mw_662 : Cond.methodLink RX1 67 yX1_emptyWeak ∈ TT := TT_mem (List.mem_append_right _ (List.mem_of_getElem? (i := 662) (by decide +kernel))) rfl
theorem mw_683 : Cond.code yX1_lineUpLasting cX1_lineUpLasting 3 none ∈ TT := TT_mem (List.mem_append_right _ (List.mem_of_getElem? (i := 683) (by decide +kernel))) rfl
theorem mw_682 : Cond.instanceMethod yX1_lineUpLasting ∈ TT := TT_mem (List.mem_append_right _ (List.mem_of_getElem? (i := 682) (by decide +kernel))) rfl
theorem okX1_lineUpLasting : CokV yX1_lineUpLasting cX1_lineUpLasting 3 none 1 1 := ⟨⟨mw_683, mw_10, by decide +kernel⟩, mw_682, (TT_mem (List.mem_append_left _ (List.mem_of_getElem? (i := 14) (by decide +kernel))) rfl), ⟨_, rfl, rfl⟩⟩
theorem mw_680 : Cond.methodLink RX1 71 yX1_lineUpLasting ∈ TT := TT_mem (List.mem_append_right _ (List.mem_of_getElem? (i := 680) (by decide +kernel))) rfl
theorem mw_687 : Cond.code yX1_settle cX1_settle 4 none ∈ TT := TT_mem (List.mem_append_right _ (List.mem_of_getElem? (i := 687) (by decide +kernel))) rfl
theorem mw_686 : Cond.instanceMethod yX1_settle ∈ TT := TT_mem (List.mem_append_right _ (List.mem_of_getElem? (i := 686) (by decide +kernel))) rfl
theorem okX1_settle : CokV yX1_settle cX1_settle 4 none 1 1 := ⟨⟨mw_687, mw_10, by decide +kernel⟩, mw_686, (TT_mem (List.mem_append_left _ (List.mem_of_getElem? (i := 15) (by decide +kernel))) rfl), ⟨_, rfl, rfl⟩⟩
theorem mw_684 : Cond.methodLink RX1 74 yX1_settle ∈ TT := TT_mem (List.mem_append_right _ (List.mem_of_getElem? (i := 684) (by decide +kernel))) rfl
theorem mw_691 : Cond.code yX1_dropRemembered cX1_dropRemembered 7 none ∈ TT := TT_mem (List.mem_append_right _ (List.mem_of_getElem? (i := 691) (by decide +kernel))) rfl
theorem mw_690 : Cond.instanceMethod yX1_dropRemembered ∈ TT := TT_mem (List.mem_append_right _ (List.mem_of_getElem? (i := 690) (by decide +kernel))) rfl
theorem okX1_dropRemembered : CokV yX1_dropRemembered cX1_dropRemembered 7 none 1 1 := ⟨⟨mw_691, mw_10, by decide +kernel⟩, mw_690, (TT_mem (List.mem_append_left _ (List.mem_of_getElem? (i := 16) (by decide +kernel))) rfl), ⟨_, rfl, rfl⟩⟩
theorem mw_688 : Cond.methodLink RX1 77 yX1_dropRemembered ∈ TT := TT_mem (List.mem_append_right _ (List.mem_of_getElem? (i := 688) (by decide +kernel))) rfl
theorem mw_705 : Cond.code yX1_rememberMoved cX1_rememberMoved 5 none ∈ TT := TT_mem (List.mem_append_right _ (List.mem_of_getElem? (i := 705) (by decide +kernel))) rfl
theorem mw_704 : Cond.instanceMethod yX1_rememberMoved ∈ TT := TT_mem (List.mem_append_right _ (List.mem_of_getElem? (i := 704) (by decide +kernel))) rfl
theorem okX1_rememberMoved : CokV yX1_rememberMoved cX1_rememberMoved 5 none 1 1 := ⟨⟨mw_705, mw_10, by decide +kernel⟩, mw_704, (TT_mem (List.mem_append_left _ (List.mem_of_getElem? (i := 17) (by decide +kernel))) rfl), ⟨_, rfl, rfl⟩⟩
theorem mw_702 : Cond.methodLink RX1 80 yX1_rememberMoved ∈ TT := TT_mem (List.mem_append_right _ (List.mem_of_getElem? (i := 702) (by decide +kernel))) rfl
theorem mw_709 : Cond.code yX1_nameSlotsAnew cX1_nameSlotsAnew 5 none ∈ TT := TT_mem (List.mem_append_right _ (List.mem_of_getElem? (i := 709) (by decide +kernel))) rfl
theorem mw_708 : Cond.instanceMethod yX1_nameSlotsAnew ∈ TT := TT_mem (List.mem_append_right _ (List.mem_of_getElem? (i := 708) (by decide +kernel))) rfl
theorem okX1_nameSlotsAnew : CokV yX1_nameSlotsAnew cX1_nameSlotsAnew 5 none 2 1 := ⟨⟨mw_709, mw_10, by decide +kernel⟩, mw_708, (TT_mem (List.mem_append_left _ (List.mem_of_getElem? (i := 18) (by decide +kernel))) rfl), ⟨_, rfl, rfl⟩⟩
theorem mw_706 : Cond.methodLink RX1 83 yX1_nameSlotsAnew ∈ TT := TT_mem (List.mem_append_right _ (List.mem_of_getElem? (i := 706) (by decide +kernel))) rfl
theorem mw_713 : Cond.code yX7_closeUp cX7_closeUp 6 none ∈ TT := TT_mem (List.mem_append_right _ (List.mem_of_getElem? (i := 713) (by decide +kernel))) rfl
theorem mw_711 : Cond.instanceMethod yX7_closeUp ∈ TT := TT_mem (List.mem_append_right _ (List.mem_of_getElem? (i := 711) (by decide +kernel))) rfl
theorem mw_712 : Cond.selects yX7_closeUp.cls yX7_closeUp yX7_closeUp ∈ TT := TT_mem (List.mem_append_right _ (List.mem_of_getElem? (i := 712) (by decide +kernel))) rfl
theorem okX7_closeUp : CokV yX7_closeUp cX7_closeUp 6 none 1 7 := ⟨⟨mw_713, mw_4, by decide +kernel⟩, mw_711, mw_712, ⟨_, rfl, rfl⟩⟩
theorem mw_710 : Cond.methodLink RX1 87 yX7_closeUp ∈ TT := TT_mem (List.mem_append_right _ (List.mem_of_getElem? (i := 710) (by decide +kernel))) rfl
theorem mw_726 : Cond.code yX1_addCounts cX1_addCounts 4 none ∈ TT := TT_mem (List.mem_append_right _ (List.mem_of_getElem? (i := 726) (by decide +kernel))) rfl
theorem mw_725 : Cond.instanceMethod yX1_addCounts ∈ TT := TT_mem (List.mem_append_right _ (List.mem_of_getElem? (i := 725) (by decide +kernel))) rfl
theorem okX1_addCounts : CokV yX1_addCounts cX1_addCounts 4 none 2 1 := ⟨⟨mw_726, mw_10, by decide +kernel⟩, mw_725, (TT_mem (List.mem_append_left _ (List.mem_of_getElem? (i := 20) (by decide +kernel))) rfl), ⟨_, rfl, rfl⟩⟩
theorem mw_723 : Cond.methodLink RX1 96 yX1_addCounts ∈ TT := TT_mem (List.mem_append_right _ (List.mem_of_getElem? (i := 723) (by decide +kernel))) rfl
theorem mw_609 : Cond.methodLink RX4 25 yJ9_min_7cf53 ∈ TT := TT_mem (List.mem_append_right _ (List.mem_of_getElem? (i := 609) (by decide +kernel))) rfl
theorem mw_442 : Cond.static yJ9_min_7cf53 ∈ TT := TT_mem (List.mem_append_right _ (List.mem_of_getElem? (i := 442) (by decide +kernel))) rfl
theorem mw_6 : Cond.initialized "java/lang/Math" ∈ TT := TT_mem (List.mem_append_right _ (List.mem_of_getElem? (i := 6) (by decide +kernel))) rfl
theorem mw_443 : Cond.code yJ9_min_7cf53 cJ9_min_7cf53 2 (some .int) ∈ TT := TT_mem (List.mem_append_right _ (List.mem_of_getElem? (i := 443) (by decide +kernel))) rfl
theorem mw_112 : Cond.fieldLink RX7 79 "NurseryHeap$State" "survivorInUse" "I" ∈ TT := TT_mem (List.mem_append_right _ (List.mem_of_getElem? (i := 112) (by decide +kernel))) rfl
theorem foX7_79 : Fok RX7 79 7 1 := ⟨RX7, TX7, 19, rfl, iw7, by decide, mw_112⟩
theorem poX7_79 : Pok RX7 79 7 1 .int := ⟨RX7, TX7, 19, tyX7, rfl, iw7, by decide, mw_112, tyX7_ok, nmX7, rfl, by decide +kernel⟩
theorem mw_604 : Cond.methodLink RX7 85 arraycopyName ∈ TT := TT_mem (List.mem_append_right _ (List.mem_of_getElem? (i := 604) (by decide +kernel))) rfl
theorem mw_146 : Cond.fieldLink RX7 39 "NurseryHeap$State" "used" "[I" ∈ TT := TT_mem (List.mem_append_right _ (List.mem_of_getElem? (i := 146) (by decide +kernel))) rfl
theorem foX7_39 : Fok RX7 39 7 11 := ⟨RX7, TX7, 19, rfl, iw7, by decide, mw_146⟩
theorem mw_150 : Cond.fieldLink RX7 42 "NurseryHeap$State" "tallies" "[I" ∈ TT := TT_mem (List.mem_append_right _ (List.mem_of_getElem? (i := 150) (by decide +kernel))) rfl
theorem foX7_42 : Fok RX7 42 7 12 := ⟨RX7, TX7, 19, rfl, iw7, by decide, mw_150⟩
theorem mw_608 : Cond.code yX4_copyFrom cX4_copyFrom 2 none ∈ TT := TT_mem (List.mem_append_right _ (List.mem_of_getElem? (i := 608) (by decide +kernel))) rfl
theorem mw_606 : Cond.instanceMethod yX4_copyFrom ∈ TT := TT_mem (List.mem_append_right _ (List.mem_of_getElem? (i := 606) (by decide +kernel))) rfl
theorem mw_607 : Cond.selects yX4_copyFrom.cls yX4_copyFrom yX4_copyFrom ∈ TT := TT_mem (List.mem_append_right _ (List.mem_of_getElem? (i := 607) (by decide +kernel))) rfl
theorem okX4_copyFrom : CokV yX4_copyFrom cX4_copyFrom 2 none 1 4 := ⟨⟨mw_608, mw_5, by decide +kernel⟩, mw_606, mw_607, ⟨_, rfl, rfl⟩⟩
theorem mw_605 : Cond.methodLink RX7 91 yX4_copyFrom ∈ TT := TT_mem (List.mem_append_right _ (List.mem_of_getElem? (i := 605) (by decide +kernel))) rfl
theorem mw_158 : Cond.fieldLink RX7 54 "NurseryHeap$State" "lost" "LNurseryHeap$Line;" ∈ TT := TT_mem (List.mem_append_right _ (List.mem_of_getElem? (i := 158) (by decide +kernel))) rfl
theorem foX7_54 : Fok RX7 54 7 14 := ⟨RX7, TX7, 19, rfl, iw7, by decide, mw_158⟩
theorem mw_165 : Cond.fieldLink RX7 60 "NurseryHeap$State" "logSorts" "LNurseryHeap$Line;" ∈ TT := TT_mem (List.mem_append_right _ (List.mem_of_getElem? (i := 165) (by decide +kernel))) rfl
theorem foX7_60 : Fok RX7 60 7 16 := ⟨RX7, TX7, 19, rfl, iw7, by decide, mw_165⟩
theorem mw_167 : Cond.fieldLink RX7 63 "NurseryHeap$State" "logNumbers" "LNurseryHeap$Line;" ∈ TT := TT_mem (List.mem_append_right _ (List.mem_of_getElem? (i := 167) (by decide +kernel))) rfl
theorem foX7_63 : Fok RX7 63 7 17 := ⟨RX7, TX7, 19, rfl, iw7, by decide, mw_167⟩
theorem mw_169 : Cond.fieldLink RX7 66 "NurseryHeap$State" "logCells" "LNurseryHeap$Line;" ∈ TT := TT_mem (List.mem_append_right _ (List.mem_of_getElem? (i := 169) (by decide +kernel))) rfl
theorem foX7_66 : Fok RX7 66 7 18 := ⟨RX7, TX7, 19, rfl, iw7, by decide, mw_169⟩
theorem iw3 : ∀ w ∈ u_ws RX3 TX3 8, w ∈ TT := by decide +kernel
theorem mw_235 : Cond.fieldLink RX3 9 "NurseryHeap$Graph" "seen" "[I" ∈ TT := TT_mem (List.mem_append_right _ (List.mem_of_getElem? (i := 235) (by decide +kernel))) rfl
theorem foX3_9 : Fok RX3 9 3 0 := ⟨RX3, TX3, 8, rfl, iw3, by decide, mw_235⟩
theorem mw_740 : Cond.methodLink RX3 33 yJ7_fill_53178 ∈ TT := TT_mem (List.mem_append_right _ (List.mem_of_getElem? (i := 740) (by decide +kernel))) rfl
theorem mw_243 : Cond.fieldLink RX3 39 "NurseryHeap$Graph" "queued" "I" ∈ TT := TT_mem (List.mem_append_right _ (List.mem_of_getElem? (i := 243) (by decide +kernel))) rfl
theorem poX3_39 : Pok RX3 39 3 7 .int := ⟨RX3, TX3, 8, tyX3, rfl, iw3, by decide, mw_243, tyX3_ok, nmX3, rfl, by decide +kernel⟩
theorem foX3_39 : Fok RX3 39 3 7 := ⟨RX3, TX3, 8, rfl, iw3, by decide, mw_243⟩
theorem mw_238 : Cond.fieldLink RX3 18 "NurseryHeap$Graph" "distance" "[I" ∈ TT := TT_mem (List.mem_append_right _ (List.mem_of_getElem? (i := 238) (by decide +kernel))) rfl
theorem foX3_18 : Fok RX3 18 3 2 := ⟨RX3, TX3, 8, rfl, iw3, by decide, mw_238⟩
theorem mw_239 : Cond.fieldLink RX3 21 "NurseryHeap$Graph" "cameFrom" "[I" ∈ TT := TT_mem (List.mem_append_right _ (List.mem_of_getElem? (i := 239) (by decide +kernel))) rfl
theorem foX3_21 : Fok RX3 21 3 3 := ⟨RX3, TX3, 8, rfl, iw3, by decide, mw_239⟩
theorem mw_240 : Cond.fieldLink RX3 24 "NurseryHeap$Graph" "byField" "[I" ∈ TT := TT_mem (List.mem_append_right _ (List.mem_of_getElem? (i := 240) (by decide +kernel))) rfl
theorem foX3_24 : Fok RX3 24 3 4 := ⟨RX3, TX3, 8, rfl, iw3, by decide, mw_240⟩
theorem mw_236 : Cond.fieldLink RX3 15 "NurseryHeap$Graph" "queue" "[I" ∈ TT := TT_mem (List.mem_append_right _ (List.mem_of_getElem? (i := 236) (by decide +kernel))) rfl
theorem foX3_15 : Fok RX3 15 3 1 := ⟨RX3, TX3, 8, rfl, iw3, by decide, mw_236⟩
theorem mw_750 : Cond.methodLink RX3 43 yX7_firstStrong ∈ TT := TT_mem (List.mem_append_right _ (List.mem_of_getElem? (i := 750) (by decide +kernel))) rfl
theorem mw_751 : Cond.methodLink RX3 49 yX7_fieldsOf ∈ TT := TT_mem (List.mem_append_right _ (List.mem_of_getElem? (i := 751) (by decide +kernel))) rfl
theorem mw_752 : Cond.methodLink RX3 52 yX7_target ∈ TT := TT_mem (List.mem_append_right _ (List.mem_of_getElem? (i := 752) (by decide +kernel))) rfl
theorem mw_744 : Cond.code yX3_visit cX3_visit 4 none ∈ TT := TT_mem (List.mem_append_right _ (List.mem_of_getElem? (i := 744) (by decide +kernel))) rfl
theorem mw_9 : Cond.initialized "NurseryHeap$Graph" ∈ TT := TT_mem (List.mem_append_right _ (List.mem_of_getElem? (i := 9) (by decide +kernel))) rfl
theorem mw_742 : Cond.instanceMethod yX3_visit ∈ TT := TT_mem (List.mem_append_right _ (List.mem_of_getElem? (i := 742) (by decide +kernel))) rfl
theorem mw_743 : Cond.selects yX3_visit.cls yX3_visit yX3_visit ∈ TT := TT_mem (List.mem_append_right _ (List.mem_of_getElem? (i := 743) (by decide +kernel))) rfl
theorem okX3_visit : CokV yX3_visit cX3_visit 4 none 3 3 := ⟨⟨mw_744, mw_9, by decide +kernel⟩, mw_742, mw_743, ⟨_, rfl, rfl⟩⟩
theorem mw_741 : Cond.methodLink RX3 56 yX3_visit ∈ TT := TT_mem (List.mem_append_right _ (List.mem_of_getElem? (i := 741) (by decide +kernel))) rfl
theorem mw_739 : Cond.code yX3_begin cX3_begin 1 none ∈ TT := TT_mem (List.mem_append_right _ (List.mem_of_getElem? (i := 739) (by decide +kernel))) rfl
theorem mw_737 : Cond.instanceMethod yX3_begin ∈ TT := TT_mem (List.mem_append_right _ (List.mem_of_getElem? (i := 737) (by decide +kernel))) rfl
theorem mw_738 : Cond.selects yX3_begin.cls yX3_begin yX3_begin ∈ TT := TT_mem (List.mem_append_right _ (List.mem_of_getElem? (i := 738) (by decide +kernel))) rfl
theorem okX3_begin : CokV yX3_begin cX3_begin 1 none 0 3 := ⟨⟨mw_739, mw_9, by decide +kernel⟩, mw_737, mw_738, ⟨_, rfl, rfl⟩⟩
theorem mw_736 : Cond.methodLink RX3 60 yX3_begin ∈ TT := TT_mem (List.mem_append_right _ (List.mem_of_getElem? (i := 736) (by decide +kernel))) rfl
theorem mw_144 : Cond.fieldLink RX3 63 "NurseryHeap$State" "roots" "[I" ∈ TT := TT_mem (List.mem_append_right _ (List.mem_of_getElem? (i := 144) (by decide +kernel))) rfl
theorem foX3_63 : Fok RX3 63 7 10 := ⟨RX7, TX7, 19, rfl, iw7, by decide, mw_144⟩
theorem mw_155 : Cond.fieldLink RX3 66 "NurseryHeap$State" "ends" "LNurseryHeap$Line;" ∈ TT := TT_mem (List.mem_append_right _ (List.mem_of_getElem? (i := 155) (by decide +kernel))) rfl
theorem foX3_66 : Fok RX3 66 7 13 := ⟨RX7, TX7, 19, rfl, iw7, by decide, mw_155⟩
theorem mw_97 : Cond.fieldLink RX3 70 "NurseryHeap$Line" "length" "I" ∈ TT := TT_mem (List.mem_append_right _ (List.mem_of_getElem? (i := 97) (by decide +kernel))) rfl
theorem foX3_70 : Fok RX3 70 4 1 := ⟨RX4, TX4, 2, rfl, iw4, by decide, mw_97⟩
theorem mw_745 : Cond.methodLink RX3 75 yX4_get ∈ TT := TT_mem (List.mem_append_right _ (List.mem_of_getElem? (i := 745) (by decide +kernel))) rfl
theorem mw_749 : Cond.code yX3_spread cX3_spread 6 none ∈ TT := TT_mem (List.mem_append_right _ (List.mem_of_getElem? (i := 749) (by decide +kernel))) rfl
theorem mw_747 : Cond.instanceMethod yX3_spread ∈ TT := TT_mem (List.mem_append_right _ (List.mem_of_getElem? (i := 747) (by decide +kernel))) rfl
theorem mw_748 : Cond.selects yX3_spread.cls yX3_spread yX3_spread ∈ TT := TT_mem (List.mem_append_right _ (List.mem_of_getElem? (i := 748) (by decide +kernel))) rfl
theorem okX3_spread : CokV yX3_spread cX3_spread 6 none 2 3 := ⟨⟨mw_749, mw_9, by decide +kernel⟩, mw_747, mw_748, ⟨_, rfl, rfl⟩⟩
theorem mw_746 : Cond.methodLink RX3 78 yX3_spread ∈ TT := TT_mem (List.mem_append_right _ (List.mem_of_getElem? (i := 746) (by decide +kernel))) rfl
theorem mw_270 : Cond.fieldLink RX1 39 "NurseryHeap$Collector" "graph" "LNurseryHeap$Graph;" ∈ TT := TT_mem (List.mem_append_right _ (List.mem_of_getElem? (i := 270) (by decide +kernel))) rfl
theorem foX1_39 : Fok RX1 39 1 1 := ⟨RX1, TX1, 12, rfl, iw1, by decide, mw_270⟩
theorem mw_760 : Cond.code yX3_isSeen cX3_isSeen 2 (some .boolean) ∈ TT := TT_mem (List.mem_append_right _ (List.mem_of_getElem? (i := 760) (by decide +kernel))) rfl
theorem mw_758 : Cond.instanceMethod yX3_isSeen ∈ TT := TT_mem (List.mem_append_right _ (List.mem_of_getElem? (i := 758) (by decide +kernel))) rfl
theorem mw_759 : Cond.selects yX3_isSeen.cls yX3_isSeen yX3_isSeen ∈ TT := TT_mem (List.mem_append_right _ (List.mem_of_getElem? (i := 759) (by decide +kernel))) rfl
theorem okX3_isSeen : CokV yX3_isSeen cX3_isSeen 2 (some .boolean) 1 3 := ⟨⟨mw_760, mw_9, by decide +kernel⟩, mw_758, mw_759, ⟨_, rfl, rfl⟩⟩
theorem mw_757 : Cond.methodLink RX1 171 yX3_isSeen ∈ TT := TT_mem (List.mem_append_right _ (List.mem_of_getElem? (i := 757) (by decide +kernel))) rfl
theorem mw_244 : Cond.fieldLink RX1 174 "NurseryHeap$Graph" "queued" "I" ∈ TT := TT_mem (List.mem_append_right _ (List.mem_of_getElem? (i := 244) (by decide +kernel))) rfl
theorem foX1_174 : Fok RX1 174 3 7 := ⟨RX3, TX3, 8, rfl, iw3, by decide, mw_244⟩
theorem mw_765 : Cond.methodLink RX1 177 yX3_visit ∈ TT := TT_mem (List.mem_append_right _ (List.mem_of_getElem? (i := 765) (by decide +kernel))) rfl
theorem mw_766 : Cond.methodLink RX1 181 yX3_spread ∈ TT := TT_mem (List.mem_append_right _ (List.mem_of_getElem? (i := 766) (by decide +kernel))) rfl
theorem mw_237 : Cond.fieldLink RX1 184 "NurseryHeap$Graph" "queue" "[I" ∈ TT := TT_mem (List.mem_append_right _ (List.mem_of_getElem? (i := 237) (by decide +kernel))) rfl
theorem foX1_184 : Fok RX1 184 3 1 := ⟨RX3, TX3, 8, rfl, iw3, by decide, mw_237⟩
theorem mw_280 : Cond.fieldLink RX1 33 "NurseryHeap$Collector" "lyingAt" "[I" ∈ TT := TT_mem (List.mem_append_right _ (List.mem_of_getElem? (i := 280) (by decide +kernel))) rfl
theorem foX1_33 : Fok RX1 33 1 9 := ⟨RX1, TX1, 12, rfl, iw1, by decide, mw_280⟩
theorem mw_586 : Cond.code yX7_cells cX7_cells 2 (some .int) ∈ TT := TT_mem (List.mem_append_right _ (List.mem_of_getElem? (i := 586) (by decide +kernel))) rfl
theorem mw_584 : Cond.instanceMethod yX7_cells ∈ TT := TT_mem (List.mem_append_right _ (List.mem_of_getElem? (i := 584) (by decide +kernel))) rfl
theorem mw_585 : Cond.selects yX7_cells.cls yX7_cells yX7_cells ∈ TT := TT_mem (List.mem_append_right _ (List.mem_of_getElem? (i := 585) (by decide +kernel))) rfl
theorem okX7_cells : CokV yX7_cells cX7_cells 2 (some .int) 1 7 := ⟨⟨mw_586, mw_4, by decide +kernel⟩, mw_584, mw_585, ⟨_, rfl, rfl⟩⟩
theorem mw_771 : Cond.methodLink RX1 215 yX7_cells ∈ TT := TT_mem (List.mem_append_right _ (List.mem_of_getElem? (i := 771) (by decide +kernel))) rfl
theorem mw_735 : Cond.code yX3_reach cX3_reach 4 none ∈ TT := TT_mem (List.mem_append_right _ (List.mem_of_getElem? (i := 735) (by decide +kernel))) rfl
theorem mw_733 : Cond.instanceMethod yX3_reach ∈ TT := TT_mem (List.mem_append_right _ (List.mem_of_getElem? (i := 733) (by decide +kernel))) rfl
theorem mw_734 : Cond.selects yX3_reach.cls yX3_reach yX3_reach ∈ TT := TT_mem (List.mem_append_right _ (List.mem_of_getElem? (i := 734) (by decide +kernel))) rfl
theorem okX3_reach : CokV yX3_reach cX3_reach 4 none 2 3 := ⟨⟨mw_735, mw_9, by decide +kernel⟩, mw_733, mw_734, ⟨_, rfl, rfl⟩⟩
theorem mw_732 : Cond.methodLink RX1 99 yX3_reach ∈ TT := TT_mem (List.mem_append_right _ (List.mem_of_getElem? (i := 732) (by decide +kernel))) rfl
theorem mw_756 : Cond.code yX1_stageByMarks cX1_stageByMarks 3 none ∈ TT := TT_mem (List.mem_append_right _ (List.mem_of_getElem? (i := 756) (by decide +kernel))) rfl
theorem mw_755 : Cond.instanceMethod yX1_stageByMarks ∈ TT := TT_mem (List.mem_append_right _ (List.mem_of_getElem? (i := 755) (by decide +kernel))) rfl
theorem okX1_stageByMarks : CokV yX1_stageByMarks cX1_stageByMarks 3 none 1 1 := ⟨⟨mw_756, mw_10, by decide +kernel⟩, mw_755, (TT_mem (List.mem_append_left _ (List.mem_of_getElem? (i := 21) (by decide +kernel))) rfl), ⟨_, rfl, rfl⟩⟩
theorem mw_753 : Cond.methodLink RX1 104 yX1_stageByMarks ∈ TT := TT_mem (List.mem_append_right _ (List.mem_of_getElem? (i := 753) (by decide +kernel))) rfl
theorem mw_764 : Cond.code yX1_markLasting cX1_markLasting 4 none ∈ TT := TT_mem (List.mem_append_right _ (List.mem_of_getElem? (i := 764) (by decide +kernel))) rfl
theorem mw_763 : Cond.instanceMethod yX1_markLasting ∈ TT := TT_mem (List.mem_append_right _ (List.mem_of_getElem? (i := 763) (by decide +kernel))) rfl
theorem okX1_markLasting : CokV yX1_markLasting cX1_markLasting 4 none 1 1 := ⟨⟨mw_764, mw_10, by decide +kernel⟩, mw_763, (TT_mem (List.mem_append_left _ (List.mem_of_getElem? (i := 22) (by decide +kernel))) rfl), ⟨_, rfl, rfl⟩⟩
theorem mw_761 : Cond.methodLink RX1 107 yX1_markLasting ∈ TT := TT_mem (List.mem_append_right _ (List.mem_of_getElem? (i := 761) (by decide +kernel))) rfl
theorem mw_770 : Cond.code yX1_pushTogether cX1_pushTogether 5 none ∈ TT := TT_mem (List.mem_append_right _ (List.mem_of_getElem? (i := 770) (by decide +kernel))) rfl
theorem mw_769 : Cond.instanceMethod yX1_pushTogether ∈ TT := TT_mem (List.mem_append_right _ (List.mem_of_getElem? (i := 769) (by decide +kernel))) rfl
theorem okX1_pushTogether : CokV yX1_pushTogether cX1_pushTogether 5 none 1 1 := ⟨⟨mw_770, mw_10, by decide +kernel⟩, mw_769, (TT_mem (List.mem_append_left _ (List.mem_of_getElem? (i := 23) (by decide +kernel))) rfl), ⟨_, rfl, rfl⟩⟩
theorem mw_767 : Cond.methodLink RX1 110 yX1_pushTogether ∈ TT := TT_mem (List.mem_append_right _ (List.mem_of_getElem? (i := 767) (by decide +kernel))) rfl
theorem mw_775 : Cond.code yX1_unlinkUnkeptYoung cX1_unlinkUnkeptYoung 4 none ∈ TT := TT_mem (List.mem_append_right _ (List.mem_of_getElem? (i := 775) (by decide +kernel))) rfl
theorem mw_774 : Cond.instanceMethod yX1_unlinkUnkeptYoung ∈ TT := TT_mem (List.mem_append_right _ (List.mem_of_getElem? (i := 774) (by decide +kernel))) rfl
theorem okX1_unlinkUnkeptYoung : CokV yX1_unlinkUnkeptYoung cX1_unlinkUnkeptYoung 4 none 1 1 := ⟨⟨mw_775, mw_10, by decide +kernel⟩, mw_774, (TT_mem (List.mem_append_left _ (List.mem_of_getElem? (i := 24) (by decide +kernel))) rfl), ⟨_, rfl, rfl⟩⟩
theorem mw_772 : Cond.methodLink RX1 113 yX1_unlinkUnkeptYoung ∈ TT := TT_mem (List.mem_append_right _ (List.mem_of_getElem? (i := 772) (by decide +kernel))) rfl
theorem mw_785 : Cond.code yJ7_rangeCheck_23922 cJ7_rangeCheck_23922 3 none ∈ TT := TT_mem (List.mem_append_right _ (List.mem_of_getElem? (i := 785) (by decide +kernel))) rfl
theorem mw_784 : Cond.static yJ7_rangeCheck_23922 ∈ TT := TT_mem (List.mem_append_right _ (List.mem_of_getElem? (i := 784) (by decide +kernel))) rfl
theorem okJ7_rangeCheck_23922 : CokS yJ7_rangeCheck_23922 cJ7_rangeCheck_23922 3 none 3 := ⟨⟨mw_785, mw_7, by decide +kernel⟩, mw_784⟩
theorem mw_783 : Cond.methodLink RJ7 13 yJ7_rangeCheck_23922 ∈ TT := TT_mem (List.mem_append_right _ (List.mem_of_getElem? (i := 783) (by decide +kernel))) rfl
theorem mw_583 : Cond.methodLink RX7 95 yX7_cells ∈ TT := TT_mem (List.mem_append_right _ (List.mem_of_getElem? (i := 583) (by decide +kernel))) rfl
theorem mw_782 : Cond.code yJ7_fill_fda19 cJ7_fill_fda19 5 none ∈ TT := TT_mem (List.mem_append_right _ (List.mem_of_getElem? (i := 782) (by decide +kernel))) rfl
theorem mw_781 : Cond.static yJ7_fill_fda19 ∈ TT := TT_mem (List.mem_append_right _ (List.mem_of_getElem? (i := 781) (by decide +kernel))) rfl
theorem okJ7_fill_fda19 : CokS yJ7_fill_fda19 cJ7_fill_fda19 5 none 4 := ⟨⟨mw_782, mw_7, by decide +kernel⟩, mw_781⟩
theorem mw_780 : Cond.methodLink RX7 120 yJ7_fill_fda19 ∈ TT := TT_mem (List.mem_append_right _ (List.mem_of_getElem? (i := 780) (by decide +kernel))) rfl
theorem mw_791 : Cond.methodLink RX7 113 yX4_add ∈ TT := TT_mem (List.mem_append_right _ (List.mem_of_getElem? (i := 791) (by decide +kernel))) rfl
theorem mw_795 : Cond.code yX7_cellsInUse cX7_cellsInUse 1 (some .int) ∈ TT := TT_mem (List.mem_append_right _ (List.mem_of_getElem? (i := 795) (by decide +kernel))) rfl
theorem mw_793 : Cond.instanceMethod yX7_cellsInUse ∈ TT := TT_mem (List.mem_append_right _ (List.mem_of_getElem? (i := 793) (by decide +kernel))) rfl
theorem mw_794 : Cond.selects yX7_cellsInUse.cls yX7_cellsInUse yX7_cellsInUse ∈ TT := TT_mem (List.mem_append_right _ (List.mem_of_getElem? (i := 794) (by decide +kernel))) rfl
theorem okX7_cellsInUse : CokV yX7_cellsInUse cX7_cellsInUse 1 (some .int) 0 7 := ⟨⟨mw_795, mw_4, by decide +kernel⟩, mw_793, mw_794, ⟨_, rfl, rfl⟩⟩
theorem mw_792 : Cond.methodLink RX7 116 yX7_cellsInUse ∈ TT := TT_mem (List.mem_append_right _ (List.mem_of_getElem? (i := 792) (by decide +kernel))) rfl
theorem mw_550 : Cond.code yX9_isRoot cX9_isRoot 1 (some .boolean) ∈ TT := TT_mem (List.mem_append_right _ (List.mem_of_getElem? (i := 550) (by decide +kernel))) rfl
theorem mw_1 : Cond.initialized "NurseryHeap" ∈ TT := TT_mem (List.mem_append_right _ (List.mem_of_getElem? (i := 1) (by decide +kernel))) rfl
theorem mw_549 : Cond.static yX9_isRoot ∈ TT := TT_mem (List.mem_append_right _ (List.mem_of_getElem? (i := 549) (by decide +kernel))) rfl
theorem okX9_isRoot : CokS yX9_isRoot cX9_isRoot 1 (some .boolean) 1 := ⟨⟨mw_550, mw_1, by decide +kernel⟩, mw_549⟩
theorem nw_619 : Cond.methodLinkNest RX0 54 yX9_isRoot "NurseryHeap" ∈ nwds := List.mem_filter.mpr ⟨List.mem_append_right _ (List.mem_of_getElem? (i := 619) (by decide +kernel)), rfl⟩
theorem mw_147 : Cond.fieldLink RX0 58 "NurseryHeap$State" "used" "[I" ∈ TT := TT_mem (List.mem_append_right _ (List.mem_of_getElem? (i := 147) (by decide +kernel))) rfl
theorem foX0_58 : Fok RX0 58 7 11 := ⟨RX7, TX7, 19, rfl, iw7, by decide, mw_147⟩
theorem iw0 : ∀ w ∈ u_ws RX0 TX0 3, w ∈ TT := by decide +kernel
theorem mw_316 : Cond.fieldLink RX0 18 "NurseryHeap$Acts" "rules" "[I" ∈ TT := TT_mem (List.mem_append_right _ (List.mem_of_getElem? (i := 316) (by decide +kernel))) rfl
theorem foX0_18 : Fok RX0 18 0 0 := ⟨RX0, TX0, 3, rfl, iw0, by decide, mw_316⟩
theorem mw_779 : Cond.code yX7_addObject cX7_addObject 5 (some .int) ∈ TT := TT_mem (List.mem_append_right _ (List.mem_of_getElem? (i := 779) (by decide +kernel))) rfl
theorem mw_777 : Cond.instanceMethod yX7_addObject ∈ TT := TT_mem (List.mem_append_right _ (List.mem_of_getElem? (i := 777) (by decide +kernel))) rfl
theorem mw_778 : Cond.selects yX7_addObject.cls yX7_addObject yX7_addObject ∈ TT := TT_mem (List.mem_append_right _ (List.mem_of_getElem? (i := 778) (by decide +kernel))) rfl
theorem okX7_addObject : CokV yX7_addObject cX7_addObject 5 (some .int) 3 7 := ⟨⟨mw_779, mw_4, by decide +kernel⟩, mw_777, mw_778, ⟨_, rfl, rfl⟩⟩
theorem mw_776 : Cond.methodLink RX0 74 yX7_addObject ∈ TT := TT_mem (List.mem_append_right _ (List.mem_of_getElem? (i := 776) (by decide +kernel))) rfl
theorem mw_142 : Cond.fieldLink RX0 78 "NurseryHeap$State" "roots" "[I" ∈ TT := TT_mem (List.mem_append_right _ (List.mem_of_getElem? (i := 142) (by decide +kernel))) rfl
theorem foX0_78 : Fok RX0 78 7 10 := ⟨RX7, TX7, 19, rfl, iw7, by decide, mw_142⟩
theorem mw_554 : Cond.code yX7_numberOf cX7_numberOf 2 (some .int) ∈ TT := TT_mem (List.mem_append_right _ (List.mem_of_getElem? (i := 554) (by decide +kernel))) rfl
theorem mw_552 : Cond.instanceMethod yX7_numberOf ∈ TT := TT_mem (List.mem_append_right _ (List.mem_of_getElem? (i := 552) (by decide +kernel))) rfl
theorem mw_553 : Cond.selects yX7_numberOf.cls yX7_numberOf yX7_numberOf ∈ TT := TT_mem (List.mem_append_right _ (List.mem_of_getElem? (i := 553) (by decide +kernel))) rfl
theorem okX7_numberOf : CokV yX7_numberOf cX7_numberOf 2 (some .int) 1 7 := ⟨⟨mw_554, mw_4, by decide +kernel⟩, mw_552, mw_553, ⟨_, rfl, rfl⟩⟩
theorem mw_786 : Cond.methodLink RX0 81 yX7_numberOf ∈ TT := TT_mem (List.mem_append_right _ (List.mem_of_getElem? (i := 786) (by decide +kernel))) rfl
theorem mw_790 : Cond.code yX7_note cX7_note 3 none ∈ TT := TT_mem (List.mem_append_right _ (List.mem_of_getElem? (i := 790) (by decide +kernel))) rfl
theorem mw_788 : Cond.instanceMethod yX7_note ∈ TT := TT_mem (List.mem_append_right _ (List.mem_of_getElem? (i := 788) (by decide +kernel))) rfl
theorem mw_789 : Cond.selects yX7_note.cls yX7_note yX7_note ∈ TT := TT_mem (List.mem_append_right _ (List.mem_of_getElem? (i := 789) (by decide +kernel))) rfl
theorem okX7_note : CokV yX7_note cX7_note 3 none 2 7 := ⟨⟨mw_790, mw_4, by decide +kernel⟩, mw_788, mw_789, ⟨_, rfl, rfl⟩⟩
theorem mw_787 : Cond.methodLink RX0 85 yX7_note ∈ TT := TT_mem (List.mem_append_right _ (List.mem_of_getElem? (i := 787) (by decide +kernel))) rfl
theorem mw_317 : Cond.fieldLink RX0 22 "NurseryHeap$Acts" "collector" "LNurseryHeap$Collector;" ∈ TT := TT_mem (List.mem_append_right _ (List.mem_of_getElem? (i := 317) (by decide +kernel))) rfl
theorem foX0_22 : Fok RX0 22 0 1 := ⟨RX0, TX0, 3, rfl, iw0, by decide, mw_317⟩
theorem mw_623 : Cond.code yX1_collectYoung cX1_collectYoung 2 (some .boolean) ∈ TT := TT_mem (List.mem_append_right _ (List.mem_of_getElem? (i := 623) (by decide +kernel))) rfl
theorem mw_621 : Cond.instanceMethod yX1_collectYoung ∈ TT := TT_mem (List.mem_append_right _ (List.mem_of_getElem? (i := 621) (by decide +kernel))) rfl
theorem mw_622 : Cond.selects yX1_collectYoung.cls yX1_collectYoung yX1_collectYoung ∈ TT := TT_mem (List.mem_append_right _ (List.mem_of_getElem? (i := 622) (by decide +kernel))) rfl
theorem okX1_collectYoung : CokV yX1_collectYoung cX1_collectYoung 2 (some .boolean) 1 1 := ⟨⟨mw_623, mw_10, by decide +kernel⟩, mw_621, mw_622, ⟨_, rfl, rfl⟩⟩
theorem mw_620 : Cond.methodLink RX0 61 yX1_collectYoung ∈ TT := TT_mem (List.mem_append_right _ (List.mem_of_getElem? (i := 620) (by decide +kernel))) rfl
theorem mw_318 : Cond.fieldLink RX0 12 "NurseryHeap$Acts" "before" "LNurseryHeap$State;" ∈ TT := TT_mem (List.mem_append_right _ (List.mem_of_getElem? (i := 318) (by decide +kernel))) rfl
theorem foX0_12 : Fok RX0 12 0 2 := ⟨RX0, TX0, 3, rfl, iw0, by decide, mw_318⟩
theorem mw_603 : Cond.code yX7_copyFrom cX7_copyFrom 2 none ∈ TT := TT_mem (List.mem_append_right _ (List.mem_of_getElem? (i := 603) (by decide +kernel))) rfl
theorem mw_601 : Cond.instanceMethod yX7_copyFrom ∈ TT := TT_mem (List.mem_append_right _ (List.mem_of_getElem? (i := 601) (by decide +kernel))) rfl
theorem mw_602 : Cond.selects yX7_copyFrom.cls yX7_copyFrom yX7_copyFrom ∈ TT := TT_mem (List.mem_append_right _ (List.mem_of_getElem? (i := 602) (by decide +kernel))) rfl
theorem okX7_copyFrom : CokV yX7_copyFrom cX7_copyFrom 2 none 1 7 := ⟨⟨mw_603, mw_4, by decide +kernel⟩, mw_601, mw_602, ⟨_, rfl, rfl⟩⟩
theorem mw_727 : Cond.methodLink RX0 67 yX7_copyFrom ∈ TT := TT_mem (List.mem_append_right _ (List.mem_of_getElem? (i := 727) (by decide +kernel))) rfl
theorem mw_731 : Cond.code yX1_collectAll cX1_collectAll 2 none ∈ TT := TT_mem (List.mem_append_right _ (List.mem_of_getElem? (i := 731) (by decide +kernel))) rfl
theorem mw_729 : Cond.instanceMethod yX1_collectAll ∈ TT := TT_mem (List.mem_append_right _ (List.mem_of_getElem? (i := 729) (by decide +kernel))) rfl
theorem mw_730 : Cond.selects yX1_collectAll.cls yX1_collectAll yX1_collectAll ∈ TT := TT_mem (List.mem_append_right _ (List.mem_of_getElem? (i := 730) (by decide +kernel))) rfl
theorem okX1_collectAll : CokV yX1_collectAll cX1_collectAll 2 none 1 1 := ⟨⟨mw_731, mw_10, by decide +kernel⟩, mw_729, mw_730, ⟨_, rfl, rfl⟩⟩
theorem mw_728 : Cond.methodLink RX0 71 yX1_collectAll ∈ TT := TT_mem (List.mem_append_right _ (List.mem_of_getElem? (i := 728) (by decide +kernel))) rfl
theorem mw_813 : Cond.code yX4_find cX4_find 3 (some .int) ∈ TT := TT_mem (List.mem_append_right _ (List.mem_of_getElem? (i := 813) (by decide +kernel))) rfl
theorem mw_811 : Cond.instanceMethod yX4_find ∈ TT := TT_mem (List.mem_append_right _ (List.mem_of_getElem? (i := 811) (by decide +kernel))) rfl
theorem mw_812 : Cond.selects yX4_find.cls yX4_find yX4_find ∈ TT := TT_mem (List.mem_append_right _ (List.mem_of_getElem? (i := 812) (by decide +kernel))) rfl
theorem okX4_find : CokV yX4_find cX4_find 3 (some .int) 1 4 := ⟨⟨mw_813, mw_5, by decide +kernel⟩, mw_811, mw_812, ⟨_, rfl, rfl⟩⟩
theorem mw_810 : Cond.methodLink RX7 129 yX4_find ∈ TT := TT_mem (List.mem_append_right _ (List.mem_of_getElem? (i := 810) (by decide +kernel))) rfl
theorem mw_814 : Cond.methodLink RX7 132 yX7_isOldToYoung ∈ TT := TT_mem (List.mem_append_right _ (List.mem_of_getElem? (i := 814) (by decide +kernel))) rfl
theorem mw_818 : Cond.code yX4_removeAt cX4_removeAt 2 none ∈ TT := TT_mem (List.mem_append_right _ (List.mem_of_getElem? (i := 818) (by decide +kernel))) rfl
theorem mw_816 : Cond.instanceMethod yX4_removeAt ∈ TT := TT_mem (List.mem_append_right _ (List.mem_of_getElem? (i := 816) (by decide +kernel))) rfl
theorem mw_817 : Cond.selects yX4_removeAt.cls yX4_removeAt yX4_removeAt ∈ TT := TT_mem (List.mem_append_right _ (List.mem_of_getElem? (i := 817) (by decide +kernel))) rfl
theorem okX4_removeAt : CokV yX4_removeAt cX4_removeAt 2 none 1 4 := ⟨⟨mw_818, mw_5, by decide +kernel⟩, mw_816, mw_817, ⟨_, rfl, rfl⟩⟩
theorem mw_815 : Cond.methodLink RX7 135 yX4_removeAt ∈ TT := TT_mem (List.mem_append_right _ (List.mem_of_getElem? (i := 815) (by decide +kernel))) rfl
theorem mw_802 : Cond.code yX0_isLinkedRoot cX0_isLinkedRoot 2 (some .boolean) ∈ TT := TT_mem (List.mem_append_right _ (List.mem_of_getElem? (i := 802) (by decide +kernel))) rfl
theorem mw_11 : Cond.initialized "NurseryHeap$Acts" ∈ TT := TT_mem (List.mem_append_right _ (List.mem_of_getElem? (i := 11) (by decide +kernel))) rfl
theorem mw_801 : Cond.static yX0_isLinkedRoot ∈ TT := TT_mem (List.mem_append_right _ (List.mem_of_getElem? (i := 801) (by decide +kernel))) rfl
theorem okX0_isLinkedRoot : CokS yX0_isLinkedRoot cX0_isLinkedRoot 2 (some .boolean) 2 := ⟨⟨mw_802, mw_11, by decide +kernel⟩, mw_801⟩
theorem mw_800 : Cond.methodLink RX0 89 yX0_isLinkedRoot ∈ TT := TT_mem (List.mem_append_right _ (List.mem_of_getElem? (i := 800) (by decide +kernel))) rfl
theorem mw_803 : Cond.methodLink RX0 93 yX7_hasField ∈ TT := TT_mem (List.mem_append_right _ (List.mem_of_getElem? (i := 803) (by decide +kernel))) rfl
theorem mw_804 : Cond.methodLink RX0 97 yX7_target ∈ TT := TT_mem (List.mem_append_right _ (List.mem_of_getElem? (i := 804) (by decide +kernel))) rfl
theorem mw_805 : Cond.methodLink RX0 101 yX7_setTarget ∈ TT := TT_mem (List.mem_append_right _ (List.mem_of_getElem? (i := 805) (by decide +kernel))) rfl
theorem mw_809 : Cond.code yX7_refreshRemembered cX7_refreshRemembered 6 none ∈ TT := TT_mem (List.mem_append_right _ (List.mem_of_getElem? (i := 809) (by decide +kernel))) rfl
theorem mw_807 : Cond.instanceMethod yX7_refreshRemembered ∈ TT := TT_mem (List.mem_append_right _ (List.mem_of_getElem? (i := 807) (by decide +kernel))) rfl
theorem mw_808 : Cond.selects yX7_refreshRemembered.cls yX7_refreshRemembered yX7_refreshRemembered ∈ TT := TT_mem (List.mem_append_right _ (List.mem_of_getElem? (i := 808) (by decide +kernel))) rfl
theorem okX7_refreshRemembered : CokV yX7_refreshRemembered cX7_refreshRemembered 6 none 2 7 := ⟨⟨mw_809, mw_4, by decide +kernel⟩, mw_807, mw_808, ⟨_, rfl, rfl⟩⟩
theorem mw_806 : Cond.methodLink RX0 105 yX7_refreshRemembered ∈ TT := TT_mem (List.mem_append_right _ (List.mem_of_getElem? (i := 806) (by decide +kernel))) rfl
theorem mw_116 : Cond.fieldLink RX0 108 "NurseryHeap$State" "number" "[I" ∈ TT := TT_mem (List.mem_append_right _ (List.mem_of_getElem? (i := 116) (by decide +kernel))) rfl
theorem foX0_108 : Fok RX0 108 7 2 := ⟨RX7, TX7, 19, rfl, iw7, by decide, mw_116⟩
theorem mw_272 : Cond.fieldLink RX0 111 "NurseryHeap$Collector" "once" "[I" ∈ TT := TT_mem (List.mem_append_right _ (List.mem_of_getElem? (i := 272) (by decide +kernel))) rfl
theorem foX0_111 : Fok RX0 111 1 2 := ⟨RX1, TX1, 12, rfl, iw1, by decide, mw_272⟩
theorem mw_156 : Cond.fieldLink RX0 114 "NurseryHeap$State" "ends" "LNurseryHeap$Line;" ∈ TT := TT_mem (List.mem_append_right _ (List.mem_of_getElem? (i := 156) (by decide +kernel))) rfl
theorem foX0_114 : Fok RX0 114 7 13 := ⟨RX7, TX7, 19, rfl, iw7, by decide, mw_156⟩
theorem mw_839 : Cond.methodLink RX0 118 yX4_get ∈ TT := TT_mem (List.mem_append_right _ (List.mem_of_getElem? (i := 839) (by decide +kernel))) rfl
theorem mw_840 : Cond.methodLink RX0 123 yX7_isSlot ∈ TT := TT_mem (List.mem_append_right _ (List.mem_of_getElem? (i := 840) (by decide +kernel))) rfl
theorem mw_841 : Cond.methodLink RX0 126 yX4_removeAt ∈ TT := TT_mem (List.mem_append_right _ (List.mem_of_getElem? (i := 841) (by decide +kernel))) rfl
theorem mw_120 : Cond.fieldLink RX0 130 "NurseryHeap$State" "kind" "[I" ∈ TT := TT_mem (List.mem_append_right _ (List.mem_of_getElem? (i := 120) (by decide +kernel))) rfl
theorem foX0_130 : Fok RX0 130 7 3 := ⟨RX7, TX7, 19, rfl, iw7, by decide, mw_120⟩
theorem mw_159 : Cond.fieldLink RX0 133 "NurseryHeap$State" "lost" "LNurseryHeap$Line;" ∈ TT := TT_mem (List.mem_append_right _ (List.mem_of_getElem? (i := 159) (by decide +kernel))) rfl
theorem foX0_133 : Fok RX0 133 7 14 := ⟨RX7, TX7, 19, rfl, iw7, by decide, mw_159⟩
theorem mw_98 : Cond.fieldLink RX0 136 "NurseryHeap$Line" "length" "I" ∈ TT := TT_mem (List.mem_append_right _ (List.mem_of_getElem? (i := 98) (by decide +kernel))) rfl
theorem foX0_136 : Fok RX0 136 4 1 := ⟨RX4, TX4, 2, rfl, iw4, by decide, mw_98⟩
theorem mw_618 : Cond.code yX0_makeObject cX0_makeObject 8 (some .int) ∈ TT := TT_mem (List.mem_append_right _ (List.mem_of_getElem? (i := 618) (by decide +kernel))) rfl
theorem mw_617 : Cond.instanceMethod yX0_makeObject ∈ TT := TT_mem (List.mem_append_right _ (List.mem_of_getElem? (i := 617) (by decide +kernel))) rfl
theorem okX0_makeObject : CokV yX0_makeObject cX0_makeObject 8 (some .int) 5 0 := ⟨⟨mw_618, mw_11, by decide +kernel⟩, mw_617, (TT_mem (List.mem_append_left _ (List.mem_of_getElem? (i := 7) (by decide +kernel))) rfl), ⟨_, rfl, rfl⟩⟩
theorem mw_615 : Cond.methodLink RX0 26 yX0_makeObject ∈ TT := TT_mem (List.mem_append_right _ (List.mem_of_getElem? (i := 615) (by decide +kernel))) rfl
theorem mw_799 : Cond.code yX0_linkField cX0_linkField 8 (some .int) ∈ TT := TT_mem (List.mem_append_right _ (List.mem_of_getElem? (i := 799) (by decide +kernel))) rfl
theorem mw_798 : Cond.instanceMethod yX0_linkField ∈ TT := TT_mem (List.mem_append_right _ (List.mem_of_getElem? (i := 798) (by decide +kernel))) rfl
theorem okX0_linkField : CokV yX0_linkField cX0_linkField 8 (some .int) 4 0 := ⟨⟨mw_799, mw_11, by decide +kernel⟩, mw_798, (TT_mem (List.mem_append_left _ (List.mem_of_getElem? (i := 25) (by decide +kernel))) rfl), ⟨_, rfl, rfl⟩⟩
theorem mw_796 : Cond.methodLink RX0 30 yX0_linkField ∈ TT := TT_mem (List.mem_append_right _ (List.mem_of_getElem? (i := 796) (by decide +kernel))) rfl
theorem mw_822 : Cond.code yX0_loadRoot cX0_loadRoot 8 (some .int) ∈ TT := TT_mem (List.mem_append_right _ (List.mem_of_getElem? (i := 822) (by decide +kernel))) rfl
theorem mw_821 : Cond.instanceMethod yX0_loadRoot ∈ TT := TT_mem (List.mem_append_right _ (List.mem_of_getElem? (i := 821) (by decide +kernel))) rfl
theorem okX0_loadRoot : CokV yX0_loadRoot cX0_loadRoot 8 (some .int) 4 0 := ⟨⟨mw_822, mw_11, by decide +kernel⟩, mw_821, (TT_mem (List.mem_append_left _ (List.mem_of_getElem? (i := 26) (by decide +kernel))) rfl), ⟨_, rfl, rfl⟩⟩
theorem mw_819 : Cond.methodLink RX0 34 yX0_loadRoot ∈ TT := TT_mem (List.mem_append_right _ (List.mem_of_getElem? (i := 819) (by decide +kernel))) rfl
theorem mw_826 : Cond.code yX0_emptyRoot cX0_emptyRoot 4 (some .int) ∈ TT := TT_mem (List.mem_append_right _ (List.mem_of_getElem? (i := 826) (by decide +kernel))) rfl
theorem mw_825 : Cond.instanceMethod yX0_emptyRoot ∈ TT := TT_mem (List.mem_append_right _ (List.mem_of_getElem? (i := 825) (by decide +kernel))) rfl
theorem okX0_emptyRoot : CokV yX0_emptyRoot cX0_emptyRoot 4 (some .int) 2 0 := ⟨⟨mw_826, mw_11, by decide +kernel⟩, mw_825, (TT_mem (List.mem_append_left _ (List.mem_of_getElem? (i := 27) (by decide +kernel))) rfl), ⟨_, rfl, rfl⟩⟩
theorem mw_823 : Cond.methodLink RX0 37 yX0_emptyRoot ∈ TT := TT_mem (List.mem_append_right _ (List.mem_of_getElem? (i := 823) (by decide +kernel))) rfl
theorem mw_830 : Cond.code yX0_actMinor cX0_actMinor 3 (some .int) ∈ TT := TT_mem (List.mem_append_right _ (List.mem_of_getElem? (i := 830) (by decide +kernel))) rfl
theorem mw_829 : Cond.instanceMethod yX0_actMinor ∈ TT := TT_mem (List.mem_append_right _ (List.mem_of_getElem? (i := 829) (by decide +kernel))) rfl
theorem okX0_actMinor : CokV yX0_actMinor cX0_actMinor 3 (some .int) 1 0 := ⟨⟨mw_830, mw_11, by decide +kernel⟩, mw_829, (TT_mem (List.mem_append_left _ (List.mem_of_getElem? (i := 28) (by decide +kernel))) rfl), ⟨_, rfl, rfl⟩⟩
theorem mw_827 : Cond.methodLink RX0 41 yX0_actMinor ∈ TT := TT_mem (List.mem_append_right _ (List.mem_of_getElem? (i := 827) (by decide +kernel))) rfl
theorem mw_834 : Cond.code yX0_actMajor cX0_actMajor 3 (some .int) ∈ TT := TT_mem (List.mem_append_right _ (List.mem_of_getElem? (i := 834) (by decide +kernel))) rfl
theorem mw_833 : Cond.instanceMethod yX0_actMajor ∈ TT := TT_mem (List.mem_append_right _ (List.mem_of_getElem? (i := 833) (by decide +kernel))) rfl
theorem okX0_actMajor : CokV yX0_actMajor cX0_actMajor 3 (some .int) 1 0 := ⟨⟨mw_834, mw_11, by decide +kernel⟩, mw_833, (TT_mem (List.mem_append_left _ (List.mem_of_getElem? (i := 29) (by decide +kernel))) rfl), ⟨_, rfl, rfl⟩⟩
theorem mw_831 : Cond.methodLink RX0 45 yX0_actMajor ∈ TT := TT_mem (List.mem_append_right _ (List.mem_of_getElem? (i := 831) (by decide +kernel))) rfl
theorem mw_838 : Cond.code yX0_tellEnd cX0_tellEnd 4 (some .int) ∈ TT := TT_mem (List.mem_append_right _ (List.mem_of_getElem? (i := 838) (by decide +kernel))) rfl
theorem mw_837 : Cond.instanceMethod yX0_tellEnd ∈ TT := TT_mem (List.mem_append_right _ (List.mem_of_getElem? (i := 837) (by decide +kernel))) rfl
theorem okX0_tellEnd : CokV yX0_tellEnd cX0_tellEnd 4 (some .int) 2 0 := ⟨⟨mw_838, mw_11, by decide +kernel⟩, mw_837, (TT_mem (List.mem_append_left _ (List.mem_of_getElem? (i := 30) (by decide +kernel))) rfl), ⟨_, rfl, rfl⟩⟩
theorem mw_835 : Cond.methodLink RX0 48 yX0_tellEnd ∈ TT := TT_mem (List.mem_append_right _ (List.mem_of_getElem? (i := 835) (by decide +kernel))) rfl
theorem mw_845 : Cond.code yX0_askLost cX0_askLost 3 (some .int) ∈ TT := TT_mem (List.mem_append_right _ (List.mem_of_getElem? (i := 845) (by decide +kernel))) rfl
theorem mw_844 : Cond.instanceMethod yX0_askLost ∈ TT := TT_mem (List.mem_append_right _ (List.mem_of_getElem? (i := 844) (by decide +kernel))) rfl
theorem okX0_askLost : CokV yX0_askLost cX0_askLost 3 (some .int) 1 0 := ⟨⟨mw_845, mw_11, by decide +kernel⟩, mw_844, (TT_mem (List.mem_append_left _ (List.mem_of_getElem? (i := 31) (by decide +kernel))) rfl), ⟨_, rfl, rfl⟩⟩
theorem mw_842 : Cond.methodLink RX0 51 yX0_askLost ∈ TT := TT_mem (List.mem_append_right _ (List.mem_of_getElem? (i := 842) (by decide +kernel))) rfl
theorem iw2 : ∀ w ∈ u_ws RX2 TX2 6, w ∈ TT := by decide +kernel
theorem mw_889 : Cond.fieldLink RX2 9 "NurseryHeap$Draws" "x" "J" ∈ TT := TT_mem (List.mem_append_right _ (List.mem_of_getElem? (i := 889) (by decide +kernel))) rfl
theorem foX2_9 : Fok RX2 9 2 0 := ⟨RX2, TX2, 6, rfl, iw2, by decide, mw_889⟩
theorem mw_921 : Cond.constantLong RX2 42 (6364136223846793005) ∈ TT := TT_mem (List.mem_append_right _ (List.mem_of_getElem? (i := 921) (by decide +kernel))) rfl
theorem mw_922 : Cond.constantLong RX2 44 (1442695040888963407) ∈ TT := TT_mem (List.mem_append_right _ (List.mem_of_getElem? (i := 922) (by decide +kernel))) rfl
theorem poX2_9 : Pok RX2 9 2 0 .long := ⟨RX2, TX2, 6, tyX2, rfl, iw2, by decide, mw_889, tyX2_ok, nmX2, rfl, by decide +kernel⟩
theorem mw_890 : Cond.fieldLink RX2 26 "NurseryHeap$Draws" "sort" "I" ∈ TT := TT_mem (List.mem_append_right _ (List.mem_of_getElem? (i := 890) (by decide +kernel))) rfl
theorem poX2_26 : Pok RX2 26 2 1 .int := ⟨RX2, TX2, 6, tyX2, rfl, iw2, by decide, mw_890, tyX2_ok, nmX2, rfl, by decide +kernel⟩
theorem mw_892 : Cond.fieldLink RX2 30 "NurseryHeap$Draws" "a" "I" ∈ TT := TT_mem (List.mem_append_right _ (List.mem_of_getElem? (i := 892) (by decide +kernel))) rfl
theorem poX2_30 : Pok RX2 30 2 2 .int := ⟨RX2, TX2, 6, tyX2, rfl, iw2, by decide, mw_892, tyX2_ok, nmX2, rfl, by decide +kernel⟩
theorem mw_894 : Cond.fieldLink RX2 33 "NurseryHeap$Draws" "b" "I" ∈ TT := TT_mem (List.mem_append_right _ (List.mem_of_getElem? (i := 894) (by decide +kernel))) rfl
theorem poX2_33 : Pok RX2 33 2 3 .int := ⟨RX2, TX2, 6, tyX2, rfl, iw2, by decide, mw_894, tyX2_ok, nmX2, rfl, by decide +kernel⟩
theorem mw_896 : Cond.fieldLink RX2 36 "NurseryHeap$Draws" "c" "I" ∈ TT := TT_mem (List.mem_append_right _ (List.mem_of_getElem? (i := 896) (by decide +kernel))) rfl
theorem poX2_36 : Pok RX2 36 2 4 .int := ⟨RX2, TX2, 6, tyX2, rfl, iw2, by decide, mw_896, tyX2_ok, nmX2, rfl, by decide +kernel⟩
theorem mw_898 : Cond.fieldLink RX2 39 "NurseryHeap$Draws" "d" "I" ∈ TT := TT_mem (List.mem_append_right _ (List.mem_of_getElem? (i := 898) (by decide +kernel))) rfl
theorem poX2_39 : Pok RX2 39 2 5 .int := ⟨RX2, TX2, 6, tyX2, rfl, iw2, by decide, mw_898, tyX2_ok, nmX2, rfl, by decide +kernel⟩
theorem mw_920 : Cond.code yX2_next cX2_next 2 (some .int) ∈ TT := TT_mem (List.mem_append_right _ (List.mem_of_getElem? (i := 920) (by decide +kernel))) rfl
theorem mw_23 : Cond.initialized "NurseryHeap$Draws" ∈ TT := TT_mem (List.mem_append_right _ (List.mem_of_getElem? (i := 23) (by decide +kernel))) rfl
theorem mw_919 : Cond.instanceMethod yX2_next ∈ TT := TT_mem (List.mem_append_right _ (List.mem_of_getElem? (i := 919) (by decide +kernel))) rfl
theorem okX2_next : CokV yX2_next cX2_next 2 (some .int) 1 2 := ⟨⟨mw_920, mw_23, by decide +kernel⟩, mw_919, (TT_mem (List.mem_append_left _ (List.mem_of_getElem? (i := 32) (by decide +kernel))) rfl), ⟨_, rfl, rfl⟩⟩
theorem mw_917 : Cond.methodLink RX2 15 yX2_next ∈ TT := TT_mem (List.mem_append_right _ (List.mem_of_getElem? (i := 917) (by decide +kernel))) rfl
theorem mw_926 : Cond.code yX2_tellAct cX2_tellAct 6 none ∈ TT := TT_mem (List.mem_append_right _ (List.mem_of_getElem? (i := 926) (by decide +kernel))) rfl
theorem mw_925 : Cond.instanceMethod yX2_tellAct ∈ TT := TT_mem (List.mem_append_right _ (List.mem_of_getElem? (i := 925) (by decide +kernel))) rfl
theorem okX2_tellAct : CokV yX2_tellAct cX2_tellAct 6 none 5 2 := ⟨⟨mw_926, mw_23, by decide +kernel⟩, mw_925, (TT_mem (List.mem_append_left _ (List.mem_of_getElem? (i := 33) (by decide +kernel))) rfl), ⟨_, rfl, rfl⟩⟩
theorem mw_923 : Cond.methodLink RX2 19 yX2_tellAct ∈ TT := TT_mem (List.mem_append_right _ (List.mem_of_getElem? (i := 923) (by decide +kernel))) rfl
theorem mw_930 : Cond.code yX2_drawRareAct cX2_drawRareAct 2 none ∈ TT := TT_mem (List.mem_append_right _ (List.mem_of_getElem? (i := 930) (by decide +kernel))) rfl
theorem mw_929 : Cond.instanceMethod yX2_drawRareAct ∈ TT := TT_mem (List.mem_append_right _ (List.mem_of_getElem? (i := 929) (by decide +kernel))) rfl
theorem okX2_drawRareAct : CokV yX2_drawRareAct cX2_drawRareAct 2 none 0 2 := ⟨⟨mw_930, mw_23, by decide +kernel⟩, mw_929, (TT_mem (List.mem_append_left _ (List.mem_of_getElem? (i := 34) (by decide +kernel))) rfl), ⟨_, rfl, rfl⟩⟩
theorem mw_927 : Cond.methodLink RX2 23 yX2_drawRareAct ∈ TT := TT_mem (List.mem_append_right _ (List.mem_of_getElem? (i := 927) (by decide +kernel))) rfl
theorem mw_1168 : Cond.methodLink RX4 34 yX4_find ∈ TT := TT_mem (List.mem_append_right _ (List.mem_of_getElem? (i := 1168) (by decide +kernel))) rfl
theorem iw5 : ∀ w ∈ u_ws RX5 TX5 3, w ∈ TT := by decide +kernel
theorem mw_218 : Cond.fieldLink RX5 11 "NurseryHeap$Past" "ring" "[LNurseryHeap$State;" ∈ TT := TT_mem (List.mem_append_right _ (List.mem_of_getElem? (i := 218) (by decide +kernel))) rfl
theorem foX5_11 : Fok RX5 11 5 0 := ⟨RX5, TX5, 3, rfl, iw5, by decide, mw_218⟩
theorem mw_219 : Cond.fieldLink RX5 17 "NurseryHeap$Past" "next" "I" ∈ TT := TT_mem (List.mem_append_right _ (List.mem_of_getElem? (i := 219) (by decide +kernel))) rfl
theorem foX5_17 : Fok RX5 17 5 1 := ⟨RX5, TX5, 3, rfl, iw5, by decide, mw_219⟩
theorem poX5_17 : Pok RX5 17 5 1 .int := ⟨RX5, TX5, 3, tyX5, rfl, iw5, by decide, mw_219, tyX5_ok, nmX5, rfl, by decide +kernel⟩
theorem mw_220 : Cond.fieldLink RX5 26 "NurseryHeap$Past" "length" "I" ∈ TT := TT_mem (List.mem_append_right _ (List.mem_of_getElem? (i := 220) (by decide +kernel))) rfl
theorem foX5_26 : Fok RX5 26 5 2 := ⟨RX5, TX5, 3, rfl, iw5, by decide, mw_220⟩
theorem mw_850 : Cond.methodLink RX5 29 yJ9_min_7cf53 ∈ TT := TT_mem (List.mem_append_right _ (List.mem_of_getElem? (i := 850) (by decide +kernel))) rfl
theorem poX5_26 : Pok RX5 26 5 2 .int := ⟨RX5, TX5, 3, tyX5, rfl, iw5, by decide, mw_220, tyX5_ok, nmX5, rfl, by decide +kernel⟩
theorem mw_600 : Cond.methodLink RX5 22 yX7_copyFrom ∈ TT := TT_mem (List.mem_append_right _ (List.mem_of_getElem? (i := 600) (by decide +kernel))) rfl
theorem iw8 : ∀ w ∈ u_ws RX8 TX8 2, w ∈ TT := by decide +kernel
theorem mw_40 : Cond.fieldLink RX8 15 "NurseryHeap$Tape" "length" "I" ∈ TT := TT_mem (List.mem_append_right _ (List.mem_of_getElem? (i := 40) (by decide +kernel))) rfl
theorem foX8_15 : Fok RX8 15 8 1 := ⟨RX8, TX8, 2, rfl, iw8, by decide, mw_40⟩
theorem mw_38 : Cond.fieldLink RX8 9 "NurseryHeap$Tape" "bytes" "[I" ∈ TT := TT_mem (List.mem_append_right _ (List.mem_of_getElem? (i := 38) (by decide +kernel))) rfl
theorem foX8_9 : Fok RX8 9 8 0 := ⟨RX8, TX8, 2, rfl, iw8, by decide, mw_38⟩
theorem iw6 : ∀ w ∈ u_ws RX6 TX6 6, w ∈ TT := by decide +kernel
theorem mw_61 : Cond.fieldLink RX6 22 "NurseryHeap$Reader" "place" "I" ∈ TT := TT_mem (List.mem_append_right _ (List.mem_of_getElem? (i := 61) (by decide +kernel))) rfl
theorem foX6_22 : Fok RX6 22 6 4 := ⟨RX6, TX6, 6, rfl, iw6, by decide, mw_61⟩
theorem mw_54 : Cond.fieldLink RX6 18 "NurseryHeap$Reader" "tape" "LNurseryHeap$Tape;" ∈ TT := TT_mem (List.mem_append_right _ (List.mem_of_getElem? (i := 54) (by decide +kernel))) rfl
theorem foX6_18 : Fok RX6 18 6 0 := ⟨RX6, TX6, 6, rfl, iw6, by decide, mw_54⟩
theorem mw_41 : Cond.fieldLink RX6 84 "NurseryHeap$Tape" "length" "I" ∈ TT := TT_mem (List.mem_append_right _ (List.mem_of_getElem? (i := 41) (by decide +kernel))) rfl
theorem foX6_84 : Fok RX6 84 8 1 := ⟨RX8, TX8, 2, rfl, iw8, by decide, mw_41⟩
theorem mw_410 : Cond.code yX8_byteAt cX8_byteAt 2 (some .int) ∈ TT := TT_mem (List.mem_append_right _ (List.mem_of_getElem? (i := 410) (by decide +kernel))) rfl
theorem mw_2 : Cond.initialized "NurseryHeap$Tape" ∈ TT := TT_mem (List.mem_append_right _ (List.mem_of_getElem? (i := 2) (by decide +kernel))) rfl
theorem mw_408 : Cond.instanceMethod yX8_byteAt ∈ TT := TT_mem (List.mem_append_right _ (List.mem_of_getElem? (i := 408) (by decide +kernel))) rfl
theorem mw_409 : Cond.selects yX8_byteAt.cls yX8_byteAt yX8_byteAt ∈ TT := TT_mem (List.mem_append_right _ (List.mem_of_getElem? (i := 409) (by decide +kernel))) rfl
theorem okX8_byteAt : CokV yX8_byteAt cX8_byteAt 2 (some .int) 1 8 := ⟨⟨mw_410, mw_2, by decide +kernel⟩, mw_408, mw_409, ⟨_, rfl, rfl⟩⟩
theorem mw_407 : Cond.methodLink RX6 79 yX8_byteAt ∈ TT := TT_mem (List.mem_append_right _ (List.mem_of_getElem? (i := 407) (by decide +kernel))) rfl
theorem poX6_22 : Pok RX6 22 6 4 .int := ⟨RX6, TX6, 6, tyX6, rfl, iw6, by decide, mw_61, tyX6_ok, nmX6, rfl, by decide +kernel⟩
theorem mw_424 : Cond.fieldLink RJ0 38 "java/lang/String" "COMPACT_STRINGS" "Z" ∈ TT := TT_mem (List.mem_append_right _ (List.mem_of_getElem? (i := 424) (by decide +kernel))) rfl
theorem mw_1762 : Cond.fieldLink RJ0 15 "java/lang/String" "coder" "B" ∈ TT := TT_mem (List.mem_append_right _ (List.mem_of_getElem? (i := 1762) (by decide +kernel))) rfl
theorem mw_1763 : Cond.fieldLink RJ0 9 "java/lang/String" "value" "[B" ∈ TT := TT_mem (List.mem_append_right _ (List.mem_of_getElem? (i := 1763) (by decide +kernel))) rfl
theorem mw_430 : Cond.methodLink RJ0 335 yJ0_coder_7d493 ∈ TT := TT_mem (List.mem_append_right _ (List.mem_of_getElem? (i := 430) (by decide +kernel))) rfl
theorem mw_433 : Cond.code yJ0_coder_7d493 cJ0_coder_7d493 1 (some .byte) ∈ TT := TT_mem (List.mem_append_right _ (List.mem_of_getElem? (i := 433) (by decide +kernel))) rfl
theorem mw_14 : Cond.initialized "java/lang/String" ∈ TT := TT_mem (List.mem_append_right _ (List.mem_of_getElem? (i := 14) (by decide +kernel))) rfl
theorem mw_431 : Cond.instanceMethod yJ0_coder_7d493 ∈ TT := TT_mem (List.mem_append_right _ (List.mem_of_getElem? (i := 431) (by decide +kernel))) rfl
theorem mw_432 : Cond.selects yJ0_coder_7d493.cls yJ0_coder_7d493 yJ0_coder_7d493 ∈ TT := TT_mem (List.mem_append_right _ (List.mem_of_getElem? (i := 432) (by decide +kernel))) rfl
theorem oktJ0_coder_7d493 : CokT yJ0_coder_7d493 cJ0_coder_7d493 1 (some .byte) 0 := ⟨⟨mw_433, mw_14, by decide +kernel⟩, mw_431, mw_432, rfl⟩
theorem mw_439 : Cond.code yJ1_canEncode_9a6ad cJ1_canEncode_9a6ad 1 (some .boolean) ∈ TT := TT_mem (List.mem_append_right _ (List.mem_of_getElem? (i := 439) (by decide +kernel))) rfl
theorem mw_15 : Cond.initialized "java/lang/StringLatin1" ∈ TT := TT_mem (List.mem_append_right _ (List.mem_of_getElem? (i := 15) (by decide +kernel))) rfl
theorem mw_438 : Cond.static yJ1_canEncode_9a6ad ∈ TT := TT_mem (List.mem_append_right _ (List.mem_of_getElem? (i := 438) (by decide +kernel))) rfl
theorem okJ1_canEncode_9a6ad : CokS yJ1_canEncode_9a6ad cJ1_canEncode_9a6ad 1 (some .boolean) 1 := ⟨⟨mw_439, mw_15, by decide +kernel⟩, mw_438⟩
theorem mw_437 : Cond.methodLink RJ1 88 yJ1_canEncode_9a6ad ∈ TT := TT_mem (List.mem_append_right _ (List.mem_of_getElem? (i := 437) (by decide +kernel))) rfl
theorem mw_440 : Cond.methodLink RJ1 92 yJ9_max_7cf53 ∈ TT := TT_mem (List.mem_append_right _ (List.mem_of_getElem? (i := 440) (by decide +kernel))) rfl
theorem mw_91 : Cond.static yJ9_max_7cf53 ∈ TT := TT_mem (List.mem_append_right _ (List.mem_of_getElem? (i := 91) (by decide +kernel))) rfl
theorem mw_92 : Cond.code yJ9_max_7cf53 cJ9_max_7cf53 2 (some .int) ∈ TT := TT_mem (List.mem_append_right _ (List.mem_of_getElem? (i := 92) (by decide +kernel))) rfl
theorem mw_441 : Cond.methodLink RJ1 38 yJ9_min_7cf53 ∈ TT := TT_mem (List.mem_append_right _ (List.mem_of_getElem? (i := 441) (by decide +kernel))) rfl
theorem mw_446 : Cond.code yJ1_indexOfChar_4cfef cJ1_indexOfChar_4cfef 6 (some .int) ∈ TT := TT_mem (List.mem_append_right _ (List.mem_of_getElem? (i := 446) (by decide +kernel))) rfl
theorem mw_445 : Cond.static yJ1_indexOfChar_4cfef ∈ TT := TT_mem (List.mem_append_right _ (List.mem_of_getElem? (i := 445) (by decide +kernel))) rfl
theorem okJ1_indexOfChar_4cfef : CokS yJ1_indexOfChar_4cfef cJ1_indexOfChar_4cfef 6 (some .int) 4 := ⟨⟨mw_446, mw_15, by decide +kernel⟩, mw_445⟩
theorem mw_444 : Cond.methodLink RJ1 95 yJ1_indexOfChar_4cfef ∈ TT := TT_mem (List.mem_append_right _ (List.mem_of_getElem? (i := 444) (by decide +kernel))) rfl
theorem mw_420 : Cond.methodLink RJ0 492 yJ0_isLatin1_aae02 ∈ TT := TT_mem (List.mem_append_right _ (List.mem_of_getElem? (i := 420) (by decide +kernel))) rfl
theorem mw_423 : Cond.code yJ0_isLatin1_aae02 cJ0_isLatin1_aae02 1 (some .boolean) ∈ TT := TT_mem (List.mem_append_right _ (List.mem_of_getElem? (i := 423) (by decide +kernel))) rfl
theorem mw_421 : Cond.instanceMethod yJ0_isLatin1_aae02 ∈ TT := TT_mem (List.mem_append_right _ (List.mem_of_getElem? (i := 421) (by decide +kernel))) rfl
theorem mw_422 : Cond.selects yJ0_isLatin1_aae02.cls yJ0_isLatin1_aae02 yJ0_isLatin1_aae02 ∈ TT := TT_mem (List.mem_append_right _ (List.mem_of_getElem? (i := 422) (by decide +kernel))) rfl
theorem oktJ0_isLatin1_aae02 : CokT yJ0_isLatin1_aae02 cJ0_isLatin1_aae02 1 (some .boolean) 0 := ⟨⟨mw_423, mw_14, by decide +kernel⟩, mw_421, mw_422, rfl⟩
theorem mw_426 : Cond.methodLink RJ0 505 yJ0_length_8abf5 ∈ TT := TT_mem (List.mem_append_right _ (List.mem_of_getElem? (i := 426) (by decide +kernel))) rfl
theorem mw_429 : Cond.code yJ0_length_8abf5 cJ0_length_8abf5 1 (some .int) ∈ TT := TT_mem (List.mem_append_right _ (List.mem_of_getElem? (i := 429) (by decide +kernel))) rfl
theorem mw_427 : Cond.instanceMethod yJ0_length_8abf5 ∈ TT := TT_mem (List.mem_append_right _ (List.mem_of_getElem? (i := 427) (by decide +kernel))) rfl
theorem mw_428 : Cond.selects yJ0_length_8abf5.cls yJ0_length_8abf5 yJ0_length_8abf5 ∈ TT := TT_mem (List.mem_append_right _ (List.mem_of_getElem? (i := 428) (by decide +kernel))) rfl
theorem oktJ0_length_8abf5 : CokT yJ0_length_8abf5 cJ0_length_8abf5 1 (some .int) 0 := ⟨⟨mw_429, mw_14, by decide +kernel⟩, mw_427, mw_428, rfl⟩
theorem mw_436 : Cond.code yJ1_indexOf_4cfef cJ1_indexOf_4cfef 4 (some .int) ∈ TT := TT_mem (List.mem_append_right _ (List.mem_of_getElem? (i := 436) (by decide +kernel))) rfl
theorem mw_435 : Cond.static yJ1_indexOf_4cfef ∈ TT := TT_mem (List.mem_append_right _ (List.mem_of_getElem? (i := 435) (by decide +kernel))) rfl
theorem okJ1_indexOf_4cfef : CokS yJ1_indexOf_4cfef cJ1_indexOf_4cfef 4 (some .int) 4 := ⟨⟨mw_436, mw_15, by decide +kernel⟩, mw_435⟩
theorem mw_434 : Cond.methodLink RJ0 637 yJ1_indexOf_4cfef ∈ TT := TT_mem (List.mem_append_right _ (List.mem_of_getElem? (i := 434) (by decide +kernel))) rfl
theorem mw_416 : Cond.methodLink RJ0 633 yJ0_indexOf_7cf53 ∈ TT := TT_mem (List.mem_append_right _ (List.mem_of_getElem? (i := 416) (by decide +kernel))) rfl
theorem mw_419 : Cond.code yJ0_indexOf_7cf53 cJ0_indexOf_7cf53 3 (some .int) ∈ TT := TT_mem (List.mem_append_right _ (List.mem_of_getElem? (i := 419) (by decide +kernel))) rfl
theorem mw_417 : Cond.instanceMethod yJ0_indexOf_7cf53 ∈ TT := TT_mem (List.mem_append_right _ (List.mem_of_getElem? (i := 417) (by decide +kernel))) rfl
theorem mw_418 : Cond.selects yJ0_indexOf_7cf53.cls yJ0_indexOf_7cf53 yJ0_indexOf_7cf53 ∈ TT := TT_mem (List.mem_append_right _ (List.mem_of_getElem? (i := 418) (by decide +kernel))) rfl
theorem oktJ0_indexOf_7cf53 : CokT yJ0_indexOf_7cf53 cJ0_indexOf_7cf53 3 (some .int) 2 := ⟨⟨mw_419, mw_14, by decide +kernel⟩, mw_417, mw_418, rfl⟩
theorem mw_406 : Cond.code yX6_nextSign cX6_nextSign 1 (some .int) ∈ TT := TT_mem (List.mem_append_right _ (List.mem_of_getElem? (i := 406) (by decide +kernel))) rfl
theorem mw_3 : Cond.initialized "NurseryHeap$Reader" ∈ TT := TT_mem (List.mem_append_right _ (List.mem_of_getElem? (i := 3) (by decide +kernel))) rfl
theorem mw_405 : Cond.instanceMethod yX6_nextSign ∈ TT := TT_mem (List.mem_append_right _ (List.mem_of_getElem? (i := 405) (by decide +kernel))) rfl
theorem okX6_nextSign : CokV yX6_nextSign cX6_nextSign 1 (some .int) 0 6 := ⟨⟨mw_406, mw_3, by decide +kernel⟩, mw_405, (TT_mem (List.mem_append_left _ (List.mem_of_getElem? (i := 0) (by decide +kernel))) rfl), ⟨_, rfl, rfl⟩⟩
theorem mw_403 : Cond.methodLink RX6 35 yX6_nextSign ∈ TT := TT_mem (List.mem_append_right _ (List.mem_of_getElem? (i := 403) (by decide +kernel))) rfl
theorem mw_506 : Cond.code yX6_isDigit cX6_isDigit 1 (some .boolean) ∈ TT := TT_mem (List.mem_append_right _ (List.mem_of_getElem? (i := 506) (by decide +kernel))) rfl
theorem mw_505 : Cond.static yX6_isDigit ∈ TT := TT_mem (List.mem_append_right _ (List.mem_of_getElem? (i := 505) (by decide +kernel))) rfl
theorem okX6_isDigit : CokS yX6_isDigit cX6_isDigit 1 (some .boolean) 1 := ⟨⟨mw_506, mw_3, by decide +kernel⟩, mw_505⟩
theorem mw_504 : Cond.methodLink RX6 76 yX6_isDigit ∈ TT := TT_mem (List.mem_append_right _ (List.mem_of_getElem? (i := 504) (by decide +kernel))) rfl
theorem mw_62 : Cond.fieldLink RX6 57 "NurseryHeap$Reader" "fault" "I" ∈ TT := TT_mem (List.mem_append_right _ (List.mem_of_getElem? (i := 62) (by decide +kernel))) rfl
theorem poX6_57 : Pok RX6 57 6 5 .int := ⟨RX6, TX6, 6, tyX6, rfl, iw6, by decide, mw_62, tyX6_ok, nmX6, rfl, by decide +kernel⟩
theorem mw_398 : Cond.fieldLink RX6 26 "NurseryHeap$Reader" "ITEM_USUAL" "[I" ∈ TT := TT_mem (List.mem_append_right _ (List.mem_of_getElem? (i := 398) (by decide +kernel))) rfl
theorem mw_55 : Cond.fieldLink RX6 9 "NurseryHeap$Reader" "rules" "[I" ∈ TT := TT_mem (List.mem_append_right _ (List.mem_of_getElem? (i := 55) (by decide +kernel))) rfl
theorem foX6_9 : Fok RX6 9 6 1 := ⟨RX6, TX6, 6, rfl, iw6, by decide, mw_55⟩
theorem mw_400 : Cond.methodLink RX6 29 arraycopyName ∈ TT := TT_mem (List.mem_append_right _ (List.mem_of_getElem? (i := 400) (by decide +kernel))) rfl
theorem mw_412 : Cond.methodLink RX6 41 yJ0_indexOf_0f7a4 ∈ TT := TT_mem (List.mem_append_right _ (List.mem_of_getElem? (i := 412) (by decide +kernel))) rfl
theorem mw_415 : Cond.code yJ0_indexOf_0f7a4 cJ0_indexOf_0f7a4 2 (some .int) ∈ TT := TT_mem (List.mem_append_right _ (List.mem_of_getElem? (i := 415) (by decide +kernel))) rfl
theorem mw_413 : Cond.instanceMethod yJ0_indexOf_0f7a4 ∈ TT := TT_mem (List.mem_append_right _ (List.mem_of_getElem? (i := 413) (by decide +kernel))) rfl
theorem mw_414 : Cond.selects yJ0_indexOf_0f7a4.cls yJ0_indexOf_0f7a4 yJ0_indexOf_0f7a4 ∈ TT := TT_mem (List.mem_append_right _ (List.mem_of_getElem? (i := 414) (by decide +kernel))) rfl
theorem oktJ0_indexOf_0f7a4 : CokT yJ0_indexOf_0f7a4 cJ0_indexOf_0f7a4 2 (some .int) 1 := ⟨⟨mw_415, mw_14, by decide +kernel⟩, mw_413, mw_414, rfl⟩
theorem mw_496 : Cond.fieldLink RX6 47 "NurseryHeap$Reader" "ITEM_LEAST" "[I" ∈ TT := TT_mem (List.mem_append_right _ (List.mem_of_getElem? (i := 496) (by decide +kernel))) rfl
theorem mw_498 : Cond.fieldLink RX6 50 "NurseryHeap$Reader" "ITEM_GREATEST" "[I" ∈ TT := TT_mem (List.mem_append_right _ (List.mem_of_getElem? (i := 498) (by decide +kernel))) rfl
theorem mw_503 : Cond.code yX6_readNumber cX6_readNumber 6 (some .int) ∈ TT := TT_mem (List.mem_append_right _ (List.mem_of_getElem? (i := 503) (by decide +kernel))) rfl
theorem mw_502 : Cond.instanceMethod yX6_readNumber ∈ TT := TT_mem (List.mem_append_right _ (List.mem_of_getElem? (i := 502) (by decide +kernel))) rfl
theorem okX6_readNumber : CokV yX6_readNumber cX6_readNumber 6 (some .int) 2 6 := ⟨⟨mw_503, mw_3, by decide +kernel⟩, mw_502, (TT_mem (List.mem_append_left _ (List.mem_of_getElem? (i := 1) (by decide +kernel))) rfl), ⟨_, rfl, rfl⟩⟩
theorem mw_500 : Cond.methodLink RX6 53 yX6_readNumber ∈ TT := TT_mem (List.mem_append_right _ (List.mem_of_getElem? (i := 500) (by decide +kernel))) rfl
theorem foX6_57 : Fok RX6 57 6 5 := ⟨RX6, TX6, 6, rfl, iw6, by decide, mw_62⟩
theorem mw_516 : Cond.fieldLink RX6 69 "NurseryHeap$Reader" "STEP_NUMBERS" "[I" ∈ TT := TT_mem (List.mem_append_right _ (List.mem_of_getElem? (i := 516) (by decide +kernel))) rfl
theorem mw_57 : Cond.fieldLink RX6 15 "NurseryHeap$Reader" "steps" "[I" ∈ TT := TT_mem (List.mem_append_right _ (List.mem_of_getElem? (i := 57) (by decide +kernel))) rfl
theorem foX6_15 : Fok RX6 15 6 2 := ⟨RX6, TX6, 6, rfl, iw6, by decide, mw_57⟩
theorem mw_521 : Cond.code yX6_readComma cX6_readComma 1 (some .boolean) ∈ TT := TT_mem (List.mem_append_right _ (List.mem_of_getElem? (i := 521) (by decide +kernel))) rfl
theorem mw_520 : Cond.instanceMethod yX6_readComma ∈ TT := TT_mem (List.mem_append_right _ (List.mem_of_getElem? (i := 520) (by decide +kernel))) rfl
theorem okX6_readComma : CokV yX6_readComma cX6_readComma 1 (some .boolean) 0 6 := ⟨⟨mw_521, mw_3, by decide +kernel⟩, mw_520, (TT_mem (List.mem_append_left _ (List.mem_of_getElem? (i := 3) (by decide +kernel))) rfl), ⟨_, rfl, rfl⟩⟩
theorem mw_518 : Cond.methodLink RX6 72 yX6_readComma ∈ TT := TT_mem (List.mem_append_right _ (List.mem_of_getElem? (i := 518) (by decide +kernel))) rfl
theorem mw_59 : Cond.fieldLink RX6 60 "NurseryHeap$Reader" "stepCount" "I" ∈ TT := TT_mem (List.mem_append_right _ (List.mem_of_getElem? (i := 59) (by decide +kernel))) rfl
theorem poX6_60 : Pok RX6 60 6 3 .int := ⟨RX6, TX6, 6, tyX6, rfl, iw6, by decide, mw_59, tyX6_ok, nmX6, rfl, by decide +kernel⟩
theorem mw_514 : Cond.code yX6_readStep cX6_readStep 5 (some .boolean) ∈ TT := TT_mem (List.mem_append_right _ (List.mem_of_getElem? (i := 514) (by decide +kernel))) rfl
theorem mw_513 : Cond.instanceMethod yX6_readStep ∈ TT := TT_mem (List.mem_append_right _ (List.mem_of_getElem? (i := 513) (by decide +kernel))) rfl
theorem okX6_readStep : CokV yX6_readStep cX6_readStep 5 (some .boolean) 1 6 := ⟨⟨mw_514, mw_3, by decide +kernel⟩, mw_513, (TT_mem (List.mem_append_left _ (List.mem_of_getElem? (i := 2) (by decide +kernel))) rfl), ⟨_, rfl, rfl⟩⟩
theorem mw_511 : Cond.methodLink RX6 63 yX6_readStep ∈ TT := TT_mem (List.mem_append_right _ (List.mem_of_getElem? (i := 511) (by decide +kernel))) rfl
theorem foX6_60 : Fok RX6 60 6 3 := ⟨RX6, TX6, 6, rfl, iw6, by decide, mw_59⟩
theorem poX8_15 : Pok RX8 15 8 1 .int := ⟨RX8, TX8, 2, tyX8, rfl, iw8, by decide, mw_40, tyX8_ok, nmX8, rfl, by decide +kernel⟩
theorem mw_990 : Cond.methodLink RX3 82 yX7_cells ∈ TT := TT_mem (List.mem_append_right _ (List.mem_of_getElem? (i := 990) (by decide +kernel))) rfl
theorem mw_110 : Cond.fieldLink RX3 85 "NurseryHeap$State" "objects" "I" ∈ TT := TT_mem (List.mem_append_right _ (List.mem_of_getElem? (i := 110) (by decide +kernel))) rfl
theorem foX3_85 : Fok RX3 85 7 0 := ⟨RX7, TX7, 19, rfl, iw7, by decide, mw_110⟩
theorem mw_134 : Cond.fieldLink RX3 88 "NurseryHeap$State" "space" "[I" ∈ TT := TT_mem (List.mem_append_right _ (List.mem_of_getElem? (i := 134) (by decide +kernel))) rfl
theorem foX3_88 : Fok RX3 88 7 7 := ⟨RX7, TX7, 19, rfl, iw7, by decide, mw_134⟩
theorem mw_977 : Cond.methodLink RX3 91 yX3_isSeen ∈ TT := TT_mem (List.mem_append_right _ (List.mem_of_getElem? (i := 977) (by decide +kernel))) rfl
theorem mw_980 : Cond.code yX3_lowestRootOf cX3_lowestRootOf 3 (some .int) ∈ TT := TT_mem (List.mem_append_right _ (List.mem_of_getElem? (i := 980) (by decide +kernel))) rfl
theorem mw_979 : Cond.static yX3_lowestRootOf ∈ TT := TT_mem (List.mem_append_right _ (List.mem_of_getElem? (i := 979) (by decide +kernel))) rfl
theorem okX3_lowestRootOf : CokS yX3_lowestRootOf cX3_lowestRootOf 3 (some .int) 2 := ⟨⟨mw_980, mw_9, by decide +kernel⟩, mw_979⟩
theorem mw_978 : Cond.methodLink RX3 95 yX3_lowestRootOf ∈ TT := TT_mem (List.mem_append_right _ (List.mem_of_getElem? (i := 978) (by decide +kernel))) rfl
theorem mw_241 : Cond.fieldLink RX3 27 "NurseryHeap$Graph" "beside" "[I" ∈ TT := TT_mem (List.mem_append_right _ (List.mem_of_getElem? (i := 241) (by decide +kernel))) rfl
theorem foX3_27 : Fok RX3 27 3 5 := ⟨RX3, TX3, 8, rfl, iw3, by decide, mw_241⟩
theorem mw_242 : Cond.fieldLink RX3 30 "NurseryHeap$Graph" "besideBack" "[I" ∈ TT := TT_mem (List.mem_append_right _ (List.mem_of_getElem? (i := 242) (by decide +kernel))) rfl
theorem foX3_30 : Fok RX3 30 3 6 := ⟨RX3, TX3, 8, rfl, iw3, by decide, mw_242⟩
theorem mw_1027 : Cond.methodLink RX3 107 yX7_isSlot ∈ TT := TT_mem (List.mem_append_right _ (List.mem_of_getElem? (i := 1027) (by decide +kernel))) rfl
theorem mw_122 : Cond.fieldLink RX3 110 "NurseryHeap$State" "kind" "[I" ∈ TT := TT_mem (List.mem_append_right _ (List.mem_of_getElem? (i := 122) (by decide +kernel))) rfl
theorem foX3_110 : Fok RX3 110 7 3 := ⟨RX7, TX7, 19, rfl, iw7, by decide, mw_122⟩
theorem mw_129 : Cond.fieldLink RX3 113 "NurseryHeap$State" "data" "[I" ∈ TT := TT_mem (List.mem_append_right _ (List.mem_of_getElem? (i := 129) (by decide +kernel))) rfl
theorem foX3_113 : Fok RX3 113 7 5 := ⟨RX7, TX7, 19, rfl, iw7, by decide, mw_129⟩
theorem mw_126 : Cond.fieldLink RX3 116 "NurseryHeap$State" "size" "[I" ∈ TT := TT_mem (List.mem_append_right _ (List.mem_of_getElem? (i := 126) (by decide +kernel))) rfl
theorem foX3_116 : Fok RX3 116 7 4 := ⟨RX7, TX7, 19, rfl, iw7, by decide, mw_126⟩
theorem mw_1022 : Cond.code yX3_setBeside cX3_setBeside 3 (some .boolean) ∈ TT := TT_mem (List.mem_append_right _ (List.mem_of_getElem? (i := 1022) (by decide +kernel))) rfl
theorem mw_1021 : Cond.instanceMethod yX3_setBeside ∈ TT := TT_mem (List.mem_append_right _ (List.mem_of_getElem? (i := 1021) (by decide +kernel))) rfl
theorem okX3_setBeside : CokV yX3_setBeside cX3_setBeside 3 (some .boolean) 2 3 := ⟨⟨mw_1022, mw_9, by decide +kernel⟩, mw_1021, (TT_mem (List.mem_append_left _ (List.mem_of_getElem? (i := 35) (by decide +kernel))) rfl), ⟨_, rfl, rfl⟩⟩
theorem mw_1019 : Cond.methodLink RX3 99 yX3_setBeside ∈ TT := TT_mem (List.mem_append_right _ (List.mem_of_getElem? (i := 1019) (by decide +kernel))) rfl
theorem mw_1026 : Cond.code yX3_areAlikeHere cX3_areAlikeHere 6 (some .boolean) ∈ TT := TT_mem (List.mem_append_right _ (List.mem_of_getElem? (i := 1026) (by decide +kernel))) rfl
theorem mw_1025 : Cond.instanceMethod yX3_areAlikeHere ∈ TT := TT_mem (List.mem_append_right _ (List.mem_of_getElem? (i := 1025) (by decide +kernel))) rfl
theorem okX3_areAlikeHere : CokV yX3_areAlikeHere cX3_areAlikeHere 6 (some .boolean) 3 3 := ⟨⟨mw_1026, mw_9, by decide +kernel⟩, mw_1025, (TT_mem (List.mem_append_left _ (List.mem_of_getElem? (i := 36) (by decide +kernel))) rfl), ⟨_, rfl, rfl⟩⟩
theorem mw_1023 : Cond.methodLink RX3 103 yX3_areAlikeHere ∈ TT := TT_mem (List.mem_append_right _ (List.mem_of_getElem? (i := 1023) (by decide +kernel))) rfl
theorem mw_105 : Cond.methodLink RX7 69 yJ7_fill_53178 ∈ TT := TT_mem (List.mem_append_right _ (List.mem_of_getElem? (i := 105) (by decide +kernel))) rfl
theorem poX7_82 : Pok RX7 82 4 1 .int := ⟨RX4, TX4, 2, tyX4, rfl, iw4, by decide, mw_95, tyX4_ok, nmX4, rfl, by decide +kernel⟩
theorem mw_1073 : Cond.methodLink RX7 107 yJ9_max_7cf53 ∈ TT := TT_mem (List.mem_append_right _ (List.mem_of_getElem? (i := 1073) (by decide +kernel))) rfl
theorem mw_381 : Cond.code yX8_bytesIn cX8_bytesIn 3 (some .int) ∈ TT := TT_mem (List.mem_append_right _ (List.mem_of_getElem? (i := 381) (by decide +kernel))) rfl
theorem mw_380 : Cond.static yX8_bytesIn ∈ TT := TT_mem (List.mem_append_right _ (List.mem_of_getElem? (i := 380) (by decide +kernel))) rfl
theorem okX8_bytesIn : CokS yX8_bytesIn cX8_bytesIn 3 (some .int) 1 := ⟨⟨mw_381, mw_2, by decide +kernel⟩, mw_380⟩
theorem mw_379 : Cond.methodLink RX9 85 yX8_bytesIn ∈ TT := TT_mem (List.mem_append_right _ (List.mem_of_getElem? (i := 379) (by decide +kernel))) rfl
theorem iw9 : ∀ w ∈ u_ws RX9 TX9 16, w ∈ TT := by decide +kernel
theorem mw_326 : Cond.fieldLink RX9 10 "NurseryHeap" "tape" "LNurseryHeap$Tape;" ∈ TT := TT_mem (List.mem_append_right _ (List.mem_of_getElem? (i := 326) (by decide +kernel))) rfl
theorem foX9_10 : Fok RX9 10 9 0 := ⟨RX9, TX9, 16, rfl, iw9, by decide, mw_326⟩
theorem mw_39 : Cond.fieldLink RX9 89 "NurseryHeap$Tape" "length" "I" ∈ TT := TT_mem (List.mem_append_right _ (List.mem_of_getElem? (i := 39) (by decide +kernel))) rfl
theorem foX9_89 : Fok RX9 89 8 1 := ⟨RX8, TX8, 2, rfl, iw8, by decide, mw_39⟩
theorem mw_385 : Cond.code yX8_addBytes cX8_addBytes 4 none ∈ TT := TT_mem (List.mem_append_right _ (List.mem_of_getElem? (i := 385) (by decide +kernel))) rfl
theorem mw_383 : Cond.instanceMethod yX8_addBytes ∈ TT := TT_mem (List.mem_append_right _ (List.mem_of_getElem? (i := 383) (by decide +kernel))) rfl
theorem mw_384 : Cond.selects yX8_addBytes.cls yX8_addBytes yX8_addBytes ∈ TT := TT_mem (List.mem_append_right _ (List.mem_of_getElem? (i := 384) (by decide +kernel))) rfl
theorem okX8_addBytes : CokV yX8_addBytes cX8_addBytes 4 none 1 8 := ⟨⟨mw_385, mw_2, by decide +kernel⟩, mw_383, mw_384, ⟨_, rfl, rfl⟩⟩
theorem mw_382 : Cond.methodLink RX9 93 yX8_addBytes ∈ TT := TT_mem (List.mem_append_right _ (List.mem_of_getElem? (i := 382) (by decide +kernel))) rfl
theorem poX9_89 : Pok RX9 89 8 1 .int := ⟨RX8, TX8, 2, tyX8, rfl, iw8, by decide, mw_39, tyX8_ok, nmX8, rfl, by decide +kernel⟩
theorem mw_327 : Cond.fieldLink RX9 21 "NurseryHeap" "reader" "LNurseryHeap$Reader;" ∈ TT := TT_mem (List.mem_append_right _ (List.mem_of_getElem? (i := 327) (by decide +kernel))) rfl
theorem foX9_21 : Fok RX9 21 9 1 := ⟨RX9, TX9, 16, rfl, iw9, by decide, mw_327⟩
theorem mw_510 : Cond.code yX6_readScript cX6_readScript 3 (some .int) ∈ TT := TT_mem (List.mem_append_right _ (List.mem_of_getElem? (i := 510) (by decide +kernel))) rfl
theorem mw_508 : Cond.instanceMethod yX6_readScript ∈ TT := TT_mem (List.mem_append_right _ (List.mem_of_getElem? (i := 508) (by decide +kernel))) rfl
theorem mw_509 : Cond.selects yX6_readScript.cls yX6_readScript yX6_readScript ∈ TT := TT_mem (List.mem_append_right _ (List.mem_of_getElem? (i := 509) (by decide +kernel))) rfl
theorem okX6_readScript : CokV yX6_readScript cX6_readScript 3 (some .int) 0 6 := ⟨⟨mw_510, mw_3, by decide +kernel⟩, mw_508, mw_509, ⟨_, rfl, rfl⟩⟩
theorem mw_507 : Cond.methodLink RX9 101 yX6_readScript ∈ TT := TT_mem (List.mem_append_right _ (List.mem_of_getElem? (i := 507) (by decide +kernel))) rfl
theorem mw_397 : Cond.code yX6_readHeap cX6_readHeap 5 (some .int) ∈ TT := TT_mem (List.mem_append_right _ (List.mem_of_getElem? (i := 397) (by decide +kernel))) rfl
theorem mw_395 : Cond.instanceMethod yX6_readHeap ∈ TT := TT_mem (List.mem_append_right _ (List.mem_of_getElem? (i := 395) (by decide +kernel))) rfl
theorem mw_396 : Cond.selects yX6_readHeap.cls yX6_readHeap yX6_readHeap ∈ TT := TT_mem (List.mem_append_right _ (List.mem_of_getElem? (i := 396) (by decide +kernel))) rfl
theorem okX6_readHeap : CokV yX6_readHeap cX6_readHeap 5 (some .int) 0 6 := ⟨⟨mw_397, mw_3, by decide +kernel⟩, mw_395, mw_396, ⟨_, rfl, rfl⟩⟩
theorem mw_394 : Cond.methodLink RX9 97 yX6_readHeap ∈ TT := TT_mem (List.mem_append_right _ (List.mem_of_getElem? (i := 394) (by decide +kernel))) rfl
theorem mw_56 : Cond.fieldLink RX9 110 "NurseryHeap$Reader" "rules" "[I" ∈ TT := TT_mem (List.mem_append_right _ (List.mem_of_getElem? (i := 56) (by decide +kernel))) rfl
theorem foX9_110 : Fok RX9 110 6 1 := ⟨RX6, TX6, 6, rfl, iw6, by decide, mw_56⟩
theorem mw_331 : Cond.fieldLink RX9 34 "NurseryHeap" "rules" "[I" ∈ TT := TT_mem (List.mem_append_right _ (List.mem_of_getElem? (i := 331) (by decide +kernel))) rfl
theorem foX9_34 : Fok RX9 34 9 5 := ⟨RX9, TX9, 16, rfl, iw9, by decide, mw_331⟩
theorem mw_531 : Cond.methodLink RX9 111 arraycopyName ∈ TT := TT_mem (List.mem_append_right _ (List.mem_of_getElem? (i := 531) (by decide +kernel))) rfl
theorem mw_332 : Cond.fieldLink RX9 117 "NurseryHeap" "hasHeap" "Z" ∈ TT := TT_mem (List.mem_append_right _ (List.mem_of_getElem? (i := 332) (by decide +kernel))) rfl
theorem poX9_117 : Pok RX9 117 9 6 .boolean := ⟨RX9, TX9, 16, tyX9, rfl, iw9, by decide, mw_332, tyX9_ok, nmX9, rfl, by decide +kernel⟩
theorem mw_333 : Cond.fieldLink RX9 121 "NurseryHeap" "hasImage" "Z" ∈ TT := TT_mem (List.mem_append_right _ (List.mem_of_getElem? (i := 333) (by decide +kernel))) rfl
theorem poX9_121 : Pok RX9 121 9 7 .boolean := ⟨RX9, TX9, 16, tyX9, rfl, iw9, by decide, mw_333, tyX9_ok, nmX9, rfl, by decide +kernel⟩
theorem mw_334 : Cond.fieldLink RX9 40 "NurseryHeap" "now" "LNurseryHeap$State;" ∈ TT := TT_mem (List.mem_append_right _ (List.mem_of_getElem? (i := 334) (by decide +kernel))) rfl
theorem foX9_40 : Fok RX9 40 9 8 := ⟨RX9, TX9, 16, rfl, iw9, by decide, mw_334⟩
theorem mw_535 : Cond.code yX7_clear cX7_clear 1 none ∈ TT := TT_mem (List.mem_append_right _ (List.mem_of_getElem? (i := 535) (by decide +kernel))) rfl
theorem mw_533 : Cond.instanceMethod yX7_clear ∈ TT := TT_mem (List.mem_append_right _ (List.mem_of_getElem? (i := 533) (by decide +kernel))) rfl
theorem mw_534 : Cond.selects yX7_clear.cls yX7_clear yX7_clear ∈ TT := TT_mem (List.mem_append_right _ (List.mem_of_getElem? (i := 534) (by decide +kernel))) rfl
theorem okX7_clear : CokV yX7_clear cX7_clear 1 none 0 7 := ⟨⟨mw_535, mw_4, by decide +kernel⟩, mw_533, mw_534, ⟨_, rfl, rfl⟩⟩
theorem mw_532 : Cond.methodLink RX9 124 yX7_clear ∈ TT := TT_mem (List.mem_append_right _ (List.mem_of_getElem? (i := 532) (by decide +kernel))) rfl
theorem mw_337 : Cond.fieldLink RX9 53 "NurseryHeap" "past" "LNurseryHeap$Past;" ∈ TT := TT_mem (List.mem_append_right _ (List.mem_of_getElem? (i := 337) (by decide +kernel))) rfl
theorem foX9_53 : Fok RX9 53 9 11 := ⟨RX9, TX9, 16, rfl, iw9, by decide, mw_337⟩
theorem mw_221 : Cond.fieldLink RX9 127 "NurseryHeap$Past" "length" "I" ∈ TT := TT_mem (List.mem_append_right _ (List.mem_of_getElem? (i := 221) (by decide +kernel))) rfl
theorem poX9_127 : Pok RX9 127 5 2 .int := ⟨RX5, TX5, 3, tyX5, rfl, iw5, by decide, mw_221, tyX5_ok, nmX5, rfl, by decide +kernel⟩
theorem mw_330 : Cond.fieldLink RX9 128 "NurseryHeap" "scriptCount" "I" ∈ TT := TT_mem (List.mem_append_right _ (List.mem_of_getElem? (i := 330) (by decide +kernel))) rfl
theorem foX9_128 : Fok RX9 128 9 4 := ⟨RX9, TX9, 16, rfl, iw9, by decide, mw_330⟩
theorem mw_58 : Cond.fieldLink RX9 131 "NurseryHeap$Reader" "steps" "[I" ∈ TT := TT_mem (List.mem_append_right _ (List.mem_of_getElem? (i := 58) (by decide +kernel))) rfl
theorem foX9_131 : Fok RX9 131 6 2 := ⟨RX6, TX6, 6, rfl, iw6, by decide, mw_58⟩
theorem mw_328 : Cond.fieldLink RX9 27 "NurseryHeap" "scripts" "[[I" ∈ TT := TT_mem (List.mem_append_right _ (List.mem_of_getElem? (i := 328) (by decide +kernel))) rfl
theorem foX9_27 : Fok RX9 27 9 2 := ⟨RX9, TX9, 16, rfl, iw9, by decide, mw_328⟩
theorem mw_329 : Cond.fieldLink RX9 30 "NurseryHeap" "scriptLengths" "[I" ∈ TT := TT_mem (List.mem_append_right _ (List.mem_of_getElem? (i := 329) (by decide +kernel))) rfl
theorem foX9_30 : Fok RX9 30 9 3 := ⟨RX9, TX9, 16, rfl, iw9, by decide, mw_329⟩
theorem mw_60 : Cond.fieldLink RX9 134 "NurseryHeap$Reader" "stepCount" "I" ∈ TT := TT_mem (List.mem_append_right _ (List.mem_of_getElem? (i := 60) (by decide +kernel))) rfl
theorem foX9_134 : Fok RX9 134 6 3 := ⟨RX6, TX6, 6, rfl, iw6, by decide, mw_60⟩
theorem poX9_128 : Pok RX9 128 9 4 .int := ⟨RX9, TX9, 16, tyX9, rfl, iw9, by decide, mw_330, tyX9_ok, nmX9, rfl, by decide +kernel⟩
theorem mw_539 : Cond.code yX9_takeScript cX9_takeScript 1 (some .int) ∈ TT := TT_mem (List.mem_append_right _ (List.mem_of_getElem? (i := 539) (by decide +kernel))) rfl
theorem mw_538 : Cond.instanceMethod yX9_takeScript ∈ TT := TT_mem (List.mem_append_right _ (List.mem_of_getElem? (i := 538) (by decide +kernel))) rfl
theorem okX9_takeScript : CokV yX9_takeScript cX9_takeScript 1 (some .int) 0 9 := ⟨⟨mw_539, mw_1, by decide +kernel⟩, mw_538, (TT_mem (List.mem_append_left _ (List.mem_of_getElem? (i := 5) (by decide +kernel))) rfl), ⟨_, rfl, rfl⟩⟩
theorem mw_536 : Cond.methodLink RX9 107 yX9_takeScript ∈ TT := TT_mem (List.mem_append_right _ (List.mem_of_getElem? (i := 536) (by decide +kernel))) rfl
theorem mw_530 : Cond.code yX9_takeHeap cX9_takeHeap 1 (some .int) ∈ TT := TT_mem (List.mem_append_right _ (List.mem_of_getElem? (i := 530) (by decide +kernel))) rfl
theorem mw_529 : Cond.instanceMethod yX9_takeHeap ∈ TT := TT_mem (List.mem_append_right _ (List.mem_of_getElem? (i := 529) (by decide +kernel))) rfl
theorem okX9_takeHeap : CokV yX9_takeHeap cX9_takeHeap 1 (some .int) 0 9 := ⟨⟨mw_530, mw_1, by decide +kernel⟩, mw_529, (TT_mem (List.mem_append_left _ (List.mem_of_getElem? (i := 4) (by decide +kernel))) rfl), ⟨_, rfl, rfl⟩⟩
theorem mw_527 : Cond.methodLink RX9 104 yX9_takeHeap ∈ TT := TT_mem (List.mem_append_right _ (List.mem_of_getElem? (i := 527) (by decide +kernel))) rfl
theorem foX9_117 : Fok RX9 117 9 6 := ⟨RX9, TX9, 16, rfl, iw9, by decide, mw_332⟩
theorem mw_548 : Cond.methodLink RX9 137 yX9_isRoot ∈ TT := TT_mem (List.mem_append_right _ (List.mem_of_getElem? (i := 548) (by decide +kernel))) rfl
theorem mw_145 : Cond.fieldLink RX9 141 "NurseryHeap$State" "roots" "[I" ∈ TT := TT_mem (List.mem_append_right _ (List.mem_of_getElem? (i := 145) (by decide +kernel))) rfl
theorem foX9_141 : Fok RX9 141 7 10 := ⟨RX7, TX7, 19, rfl, iw7, by decide, mw_145⟩
theorem mw_551 : Cond.methodLink RX9 144 yX7_numberOf ∈ TT := TT_mem (List.mem_append_right _ (List.mem_of_getElem? (i := 551) (by decide +kernel))) rfl
theorem mw_338 : Cond.fieldLink RX9 60 "NurseryHeap" "graph" "LNurseryHeap$Graph;" ∈ TT := TT_mem (List.mem_append_right _ (List.mem_of_getElem? (i := 338) (by decide +kernel))) rfl
theorem foX9_60 : Fok RX9 60 9 12 := ⟨RX9, TX9, 16, rfl, iw9, by decide, mw_338⟩
theorem mw_985 : Cond.methodLink RX9 194 yX3_reach ∈ TT := TT_mem (List.mem_append_right _ (List.mem_of_getElem? (i := 985) (by decide +kernel))) rfl
theorem mw_1163 : Cond.methodLink RX9 198 yX3_isSeen ∈ TT := TT_mem (List.mem_append_right _ (List.mem_of_getElem? (i := 1163) (by decide +kernel))) rfl
theorem mw_566 : Cond.code yX7_find cX7_find 3 (some .int) ∈ TT := TT_mem (List.mem_append_right _ (List.mem_of_getElem? (i := 566) (by decide +kernel))) rfl
theorem mw_564 : Cond.instanceMethod yX7_find ∈ TT := TT_mem (List.mem_append_right _ (List.mem_of_getElem? (i := 564) (by decide +kernel))) rfl
theorem mw_565 : Cond.selects yX7_find.cls yX7_find yX7_find ∈ TT := TT_mem (List.mem_append_right _ (List.mem_of_getElem? (i := 565) (by decide +kernel))) rfl
theorem okX7_find : CokV yX7_find cX7_find 3 (some .int) 1 7 := ⟨⟨mw_566, mw_4, by decide +kernel⟩, mw_564, mw_565, ⟨_, rfl, rfl⟩⟩
theorem mw_563 : Cond.methodLink RX9 147 yX7_find ∈ TT := TT_mem (List.mem_append_right _ (List.mem_of_getElem? (i := 563) (by decide +kernel))) rfl
theorem mw_135 : Cond.fieldLink RX9 153 "NurseryHeap$State" "space" "[I" ∈ TT := TT_mem (List.mem_append_right _ (List.mem_of_getElem? (i := 135) (by decide +kernel))) rfl
theorem foX9_153 : Fok RX9 153 7 7 := ⟨RX7, TX7, 19, rfl, iw7, by decide, mw_135⟩
theorem mw_138 : Cond.fieldLink RX9 156 "NurseryHeap$State" "place" "[I" ∈ TT := TT_mem (List.mem_append_right _ (List.mem_of_getElem? (i := 138) (by decide +kernel))) rfl
theorem foX9_156 : Fok RX9 156 7 8 := ⟨RX7, TX7, 19, rfl, iw7, by decide, mw_138⟩
theorem mw_121 : Cond.fieldLink RX9 159 "NurseryHeap$State" "kind" "[I" ∈ TT := TT_mem (List.mem_append_right _ (List.mem_of_getElem? (i := 121) (by decide +kernel))) rfl
theorem foX9_159 : Fok RX9 159 7 3 := ⟨RX7, TX7, 19, rfl, iw7, by decide, mw_121⟩
theorem mw_125 : Cond.fieldLink RX9 162 "NurseryHeap$State" "size" "[I" ∈ TT := TT_mem (List.mem_append_right _ (List.mem_of_getElem? (i := 125) (by decide +kernel))) rfl
theorem foX9_162 : Fok RX9 162 7 4 := ⟨RX7, TX7, 19, rfl, iw7, by decide, mw_125⟩
theorem mw_128 : Cond.fieldLink RX9 165 "NurseryHeap$State" "data" "[I" ∈ TT := TT_mem (List.mem_append_right _ (List.mem_of_getElem? (i := 128) (by decide +kernel))) rfl
theorem foX9_165 : Fok RX9 165 7 5 := ⟨RX7, TX7, 19, rfl, iw7, by decide, mw_128⟩
theorem mw_132 : Cond.fieldLink RX9 168 "NurseryHeap$State" "age" "[I" ∈ TT := TT_mem (List.mem_append_right _ (List.mem_of_getElem? (i := 132) (by decide +kernel))) rfl
theorem foX9_168 : Fok RX9 168 7 6 := ⟨RX7, TX7, 19, rfl, iw7, by decide, mw_132⟩
theorem mw_1162 : Cond.code yX9_isReached cX9_isReached 2 (some .boolean) ∈ TT := TT_mem (List.mem_append_right _ (List.mem_of_getElem? (i := 1162) (by decide +kernel))) rfl
theorem mw_1161 : Cond.instanceMethod yX9_isReached ∈ TT := TT_mem (List.mem_append_right _ (List.mem_of_getElem? (i := 1161) (by decide +kernel))) rfl
theorem okX9_isReached : CokV yX9_isReached cX9_isReached 2 (some .boolean) 1 9 := ⟨⟨mw_1162, mw_1, by decide +kernel⟩, mw_1161, (TT_mem (List.mem_append_left _ (List.mem_of_getElem? (i := 41) (by decide +kernel))) rfl), ⟨_, rfl, rfl⟩⟩
theorem mw_1159 : Cond.methodLink RX9 171 yX9_isReached ∈ TT := TT_mem (List.mem_append_right _ (List.mem_of_getElem? (i := 1159) (by decide +kernel))) rfl
theorem mw_157 : Cond.fieldLink RX9 174 "NurseryHeap$State" "ends" "LNurseryHeap$Line;" ∈ TT := TT_mem (List.mem_append_right _ (List.mem_of_getElem? (i := 157) (by decide +kernel))) rfl
theorem foX9_174 : Fok RX9 174 7 13 := ⟨RX7, TX7, 19, rfl, iw7, by decide, mw_157⟩
theorem mw_1167 : Cond.code yX4_holds cX4_holds 2 (some .boolean) ∈ TT := TT_mem (List.mem_append_right _ (List.mem_of_getElem? (i := 1167) (by decide +kernel))) rfl
theorem mw_1165 : Cond.instanceMethod yX4_holds ∈ TT := TT_mem (List.mem_append_right _ (List.mem_of_getElem? (i := 1165) (by decide +kernel))) rfl
theorem mw_1166 : Cond.selects yX4_holds.cls yX4_holds yX4_holds ∈ TT := TT_mem (List.mem_append_right _ (List.mem_of_getElem? (i := 1166) (by decide +kernel))) rfl
theorem okX4_holds : CokV yX4_holds cX4_holds 2 (some .boolean) 1 4 := ⟨⟨mw_1167, mw_5, by decide +kernel⟩, mw_1165, mw_1166, ⟨_, rfl, rfl⟩⟩
theorem mw_1164 : Cond.methodLink RX9 178 yX4_holds ∈ TT := TT_mem (List.mem_append_right _ (List.mem_of_getElem? (i := 1164) (by decide +kernel))) rfl
theorem mw_567 : Cond.methodLink RX9 183 yX7_hasField ∈ TT := TT_mem (List.mem_append_right _ (List.mem_of_getElem? (i := 567) (by decide +kernel))) rfl
theorem mw_571 : Cond.methodLink RX9 187 yX7_target ∈ TT := TT_mem (List.mem_append_right _ (List.mem_of_getElem? (i := 571) (by decide +kernel))) rfl
theorem mw_582 : Cond.code yX7_findAt cX7_findAt 4 (some .int) ∈ TT := TT_mem (List.mem_append_right _ (List.mem_of_getElem? (i := 582) (by decide +kernel))) rfl
theorem mw_580 : Cond.instanceMethod yX7_findAt ∈ TT := TT_mem (List.mem_append_right _ (List.mem_of_getElem? (i := 580) (by decide +kernel))) rfl
theorem mw_581 : Cond.selects yX7_findAt.cls yX7_findAt yX7_findAt ∈ TT := TT_mem (List.mem_append_right _ (List.mem_of_getElem? (i := 581) (by decide +kernel))) rfl
theorem okX7_findAt : CokV yX7_findAt cX7_findAt 4 (some .int) 2 7 := ⟨⟨mw_582, mw_4, by decide +kernel⟩, mw_580, mw_581, ⟨_, rfl, rfl⟩⟩
theorem mw_579 : Cond.methodLink RX9 191 yX7_findAt ∈ TT := TT_mem (List.mem_append_right _ (List.mem_of_getElem? (i := 579) (by decide +kernel))) rfl
theorem mw_341 : Cond.fieldLink RX9 82 "NurseryHeap" "refused" "[I" ∈ TT := TT_mem (List.mem_append_right _ (List.mem_of_getElem? (i := 341) (by decide +kernel))) rfl
theorem foX9_82 : Fok RX9 82 9 15 := ⟨RX9, TX9, 16, rfl, iw9, by decide, mw_341⟩
theorem mw_849 : Cond.code yX5_keepPrepared cX5_keepPrepared 1 none ∈ TT := TT_mem (List.mem_append_right _ (List.mem_of_getElem? (i := 849) (by decide +kernel))) rfl
theorem mw_8 : Cond.initialized "NurseryHeap$Past" ∈ TT := TT_mem (List.mem_append_right _ (List.mem_of_getElem? (i := 8) (by decide +kernel))) rfl
theorem mw_847 : Cond.instanceMethod yX5_keepPrepared ∈ TT := TT_mem (List.mem_append_right _ (List.mem_of_getElem? (i := 847) (by decide +kernel))) rfl
theorem mw_848 : Cond.selects yX5_keepPrepared.cls yX5_keepPrepared yX5_keepPrepared ∈ TT := TT_mem (List.mem_append_right _ (List.mem_of_getElem? (i := 848) (by decide +kernel))) rfl
theorem okX5_keepPrepared : CokV yX5_keepPrepared cX5_keepPrepared 1 none 0 5 := ⟨⟨mw_849, mw_8, by decide +kernel⟩, mw_847, mw_848, ⟨_, rfl, rfl⟩⟩
theorem mw_846 : Cond.methodLink RX9 239 yX5_keepPrepared ∈ TT := TT_mem (List.mem_append_right _ (List.mem_of_getElem? (i := 846) (by decide +kernel))) rfl
theorem mw_943 : Cond.code yX5_takeBack cX5_takeBack 3 (some .boolean) ∈ TT := TT_mem (List.mem_append_right _ (List.mem_of_getElem? (i := 943) (by decide +kernel))) rfl
theorem mw_941 : Cond.instanceMethod yX5_takeBack ∈ TT := TT_mem (List.mem_append_right _ (List.mem_of_getElem? (i := 941) (by decide +kernel))) rfl
theorem mw_942 : Cond.selects yX5_takeBack.cls yX5_takeBack yX5_takeBack ∈ TT := TT_mem (List.mem_append_right _ (List.mem_of_getElem? (i := 942) (by decide +kernel))) rfl
theorem okX5_takeBack : CokV yX5_takeBack cX5_takeBack 3 (some .boolean) 1 5 := ⟨⟨mw_943, mw_8, by decide +kernel⟩, mw_941, mw_942, ⟨_, rfl, rfl⟩⟩
theorem mw_940 : Cond.methodLink RX9 242 yX5_takeBack ∈ TT := TT_mem (List.mem_append_right _ (List.mem_of_getElem? (i := 940) (by decide +kernel))) rfl
theorem foX9_127 : Fok RX9 127 5 2 := ⟨RX5, TX5, 3, rfl, iw5, by decide, mw_221⟩
theorem mw_166 : Cond.fieldLink RX9 246 "NurseryHeap$State" "logSorts" "LNurseryHeap$Line;" ∈ TT := TT_mem (List.mem_append_right _ (List.mem_of_getElem? (i := 166) (by decide +kernel))) rfl
theorem foX9_246 : Fok RX9 246 7 16 := ⟨RX7, TX7, 19, rfl, iw7, by decide, mw_166⟩
theorem mw_99 : Cond.fieldLink RX9 249 "NurseryHeap$Line" "length" "I" ∈ TT := TT_mem (List.mem_append_right _ (List.mem_of_getElem? (i := 99) (by decide +kernel))) rfl
theorem foX9_249 : Fok RX9 249 4 1 := ⟨RX4, TX4, 2, rfl, iw4, by decide, mw_99⟩
theorem mw_948 : Cond.constant RX9 250 (-1000000) ∈ TT := TT_mem (List.mem_append_right _ (List.mem_of_getElem? (i := 948) (by decide +kernel))) rfl
theorem mw_170 : Cond.fieldLink RX9 257 "NurseryHeap$State" "logCells" "LNurseryHeap$Line;" ∈ TT := TT_mem (List.mem_append_right _ (List.mem_of_getElem? (i := 170) (by decide +kernel))) rfl
theorem foX9_257 : Fok RX9 257 7 18 := ⟨RX7, TX7, 19, rfl, iw7, by decide, mw_170⟩
theorem mw_949 : Cond.methodLink RX9 251 yX4_get ∈ TT := TT_mem (List.mem_append_right _ (List.mem_of_getElem? (i := 949) (by decide +kernel))) rfl
theorem mw_168 : Cond.fieldLink RX9 254 "NurseryHeap$State" "logNumbers" "LNurseryHeap$Line;" ∈ TT := TT_mem (List.mem_append_right _ (List.mem_of_getElem? (i := 168) (by decide +kernel))) rfl
theorem foX9_254 : Fok RX9 254 7 17 := ⟨RX7, TX7, 19, rfl, iw7, by decide, mw_168⟩
theorem mw_164 : Cond.fieldLink RX9 260 "NurseryHeap$State" "remembered" "LNurseryHeap$Line;" ∈ TT := TT_mem (List.mem_append_right _ (List.mem_of_getElem? (i := 164) (by decide +kernel))) rfl
theorem foX9_260 : Fok RX9 260 7 15 := ⟨RX7, TX7, 19, rfl, iw7, by decide, mw_164⟩
theorem mw_161 : Cond.fieldLink RX9 263 "NurseryHeap$State" "lost" "LNurseryHeap$Line;" ∈ TT := TT_mem (List.mem_append_right _ (List.mem_of_getElem? (i := 161) (by decide +kernel))) rfl
theorem foX9_263 : Fok RX9 263 7 14 := ⟨RX7, TX7, 19, rfl, iw7, by decide, mw_161⟩
theorem mw_336 : Cond.fieldLink RX9 47 "NurseryHeap" "trial" "LNurseryHeap$State;" ∈ TT := TT_mem (List.mem_append_right _ (List.mem_of_getElem? (i := 336) (by decide +kernel))) rfl
theorem foX9_47 : Fok RX9 47 9 10 := ⟨RX9, TX9, 16, rfl, iw9, by decide, mw_336⟩
theorem mw_962 : Cond.methodLink RX9 266 yX7_copyFrom ∈ TT := TT_mem (List.mem_append_right _ (List.mem_of_getElem? (i := 962) (by decide +kernel))) rfl
theorem mw_339 : Cond.fieldLink RX9 69 "NurseryHeap" "collector" "LNurseryHeap$Collector;" ∈ TT := TT_mem (List.mem_append_right _ (List.mem_of_getElem? (i := 339) (by decide +kernel))) rfl
theorem foX9_69 : Fok RX9 69 9 13 := ⟨RX9, TX9, 16, rfl, iw9, by decide, mw_339⟩
theorem mw_964 : Cond.methodLink RX9 272 yX1_collectYoung ∈ TT := TT_mem (List.mem_append_right _ (List.mem_of_getElem? (i := 964) (by decide +kernel))) rfl
theorem mw_273 : Cond.fieldLink RX9 275 "NurseryHeap$Collector" "once" "[I" ∈ TT := TT_mem (List.mem_append_right _ (List.mem_of_getElem? (i := 273) (by decide +kernel))) rfl
theorem foX9_275 : Fok RX9 275 1 2 := ⟨RX1, TX1, 12, rfl, iw1, by decide, mw_273⟩
theorem mw_963 : Cond.methodLink RX9 269 yX1_collectAll ∈ TT := TT_mem (List.mem_append_right _ (List.mem_of_getElem? (i := 963) (by decide +kernel))) rfl
theorem mw_972 : Cond.code yX3_findWays cX3_findWays 3 none ∈ TT := TT_mem (List.mem_append_right _ (List.mem_of_getElem? (i := 972) (by decide +kernel))) rfl
theorem mw_970 : Cond.instanceMethod yX3_findWays ∈ TT := TT_mem (List.mem_append_right _ (List.mem_of_getElem? (i := 970) (by decide +kernel))) rfl
theorem mw_971 : Cond.selects yX3_findWays.cls yX3_findWays yX3_findWays ∈ TT := TT_mem (List.mem_append_right _ (List.mem_of_getElem? (i := 971) (by decide +kernel))) rfl
theorem okX3_findWays : CokV yX3_findWays cX3_findWays 3 none 1 3 := ⟨⟨mw_972, mw_9, by decide +kernel⟩, mw_970, mw_971, ⟨_, rfl, rfl⟩⟩
theorem mw_969 : Cond.methodLink RX9 278 yX3_findWays ∈ TT := TT_mem (List.mem_append_right _ (List.mem_of_getElem? (i := 969) (by decide +kernel))) rfl
theorem mw_976 : Cond.code yX3_wayTo cX3_wayTo 7 (some .int) ∈ TT := TT_mem (List.mem_append_right _ (List.mem_of_getElem? (i := 976) (by decide +kernel))) rfl
theorem mw_974 : Cond.instanceMethod yX3_wayTo ∈ TT := TT_mem (List.mem_append_right _ (List.mem_of_getElem? (i := 974) (by decide +kernel))) rfl
theorem mw_975 : Cond.selects yX3_wayTo.cls yX3_wayTo yX3_wayTo ∈ TT := TT_mem (List.mem_append_right _ (List.mem_of_getElem? (i := 975) (by decide +kernel))) rfl
theorem okX3_wayTo : CokV yX3_wayTo cX3_wayTo 7 (some .int) 3 3 := ⟨⟨mw_976, mw_9, by decide +kernel⟩, mw_974, mw_975, ⟨_, rfl, rfl⟩⟩
theorem mw_973 : Cond.methodLink RX9 281 yX3_wayTo ∈ TT := TT_mem (List.mem_append_right _ (List.mem_of_getElem? (i := 973) (by decide +kernel))) rfl
theorem mw_989 : Cond.code yX3_seenCells cX3_seenCells 4 (some .int) ∈ TT := TT_mem (List.mem_append_right _ (List.mem_of_getElem? (i := 989) (by decide +kernel))) rfl
theorem mw_987 : Cond.instanceMethod yX3_seenCells ∈ TT := TT_mem (List.mem_append_right _ (List.mem_of_getElem? (i := 987) (by decide +kernel))) rfl
theorem mw_988 : Cond.selects yX3_seenCells.cls yX3_seenCells yX3_seenCells ∈ TT := TT_mem (List.mem_append_right _ (List.mem_of_getElem? (i := 988) (by decide +kernel))) rfl
theorem okX3_seenCells : CokV yX3_seenCells cX3_seenCells 4 (some .int) 1 3 := ⟨⟨mw_989, mw_9, by decide +kernel⟩, mw_987, mw_988, ⟨_, rfl, rfl⟩⟩
theorem mw_986 : Cond.methodLink RX9 288 yX3_seenCells ∈ TT := TT_mem (List.mem_append_right _ (List.mem_of_getElem? (i := 986) (by decide +kernel))) rfl
theorem mw_245 : Cond.fieldLink RX9 285 "NurseryHeap$Graph" "queued" "I" ∈ TT := TT_mem (List.mem_append_right _ (List.mem_of_getElem? (i := 245) (by decide +kernel))) rfl
theorem foX9_285 : Fok RX9 285 3 7 := ⟨RX3, TX3, 8, rfl, iw3, by decide, mw_245⟩
theorem mw_998 : Cond.code yX3_holdersOf cX3_holdersOf 7 (some .int) ∈ TT := TT_mem (List.mem_append_right _ (List.mem_of_getElem? (i := 998) (by decide +kernel))) rfl
theorem mw_996 : Cond.instanceMethod yX3_holdersOf ∈ TT := TT_mem (List.mem_append_right _ (List.mem_of_getElem? (i := 996) (by decide +kernel))) rfl
theorem mw_997 : Cond.selects yX3_holdersOf.cls yX3_holdersOf yX3_holdersOf ∈ TT := TT_mem (List.mem_append_right _ (List.mem_of_getElem? (i := 997) (by decide +kernel))) rfl
theorem okX3_holdersOf : CokV yX3_holdersOf cX3_holdersOf 7 (some .int) 2 3 := ⟨⟨mw_998, mw_9, by decide +kernel⟩, mw_996, mw_997, ⟨_, rfl, rfl⟩⟩
theorem mw_995 : Cond.methodLink RX9 292 yX3_holdersOf ∈ TT := TT_mem (List.mem_append_right _ (List.mem_of_getElem? (i := 995) (by decide +kernel))) rfl
theorem mw_1006 : Cond.code yX3_wayBack cX3_wayBack 7 (some .int) ∈ TT := TT_mem (List.mem_append_right _ (List.mem_of_getElem? (i := 1006) (by decide +kernel))) rfl
theorem mw_1004 : Cond.instanceMethod yX3_wayBack ∈ TT := TT_mem (List.mem_append_right _ (List.mem_of_getElem? (i := 1004) (by decide +kernel))) rfl
theorem mw_1005 : Cond.selects yX3_wayBack.cls yX3_wayBack yX3_wayBack ∈ TT := TT_mem (List.mem_append_right _ (List.mem_of_getElem? (i := 1005) (by decide +kernel))) rfl
theorem okX3_wayBack : CokV yX3_wayBack cX3_wayBack 7 (some .int) 2 3 := ⟨⟨mw_1006, mw_9, by decide +kernel⟩, mw_1004, mw_1005, ⟨_, rfl, rfl⟩⟩
theorem mw_1003 : Cond.methodLink RX9 296 yX3_wayBack ∈ TT := TT_mem (List.mem_append_right _ (List.mem_of_getElem? (i := 1003) (by decide +kernel))) rfl
theorem mw_149 : Cond.fieldLink RX9 299 "NurseryHeap$State" "used" "[I" ∈ TT := TT_mem (List.mem_append_right _ (List.mem_of_getElem? (i := 149) (by decide +kernel))) rfl
theorem foX9_299 : Fok RX9 299 7 11 := ⟨RX7, TX7, 19, rfl, iw7, by decide, mw_149⟩
theorem mw_1018 : Cond.code yX3_areAlike cX3_areAlike 6 (some .boolean) ∈ TT := TT_mem (List.mem_append_right _ (List.mem_of_getElem? (i := 1018) (by decide +kernel))) rfl
theorem mw_1016 : Cond.instanceMethod yX3_areAlike ∈ TT := TT_mem (List.mem_append_right _ (List.mem_of_getElem? (i := 1016) (by decide +kernel))) rfl
theorem mw_1017 : Cond.selects yX3_areAlike.cls yX3_areAlike yX3_areAlike ∈ TT := TT_mem (List.mem_append_right _ (List.mem_of_getElem? (i := 1017) (by decide +kernel))) rfl
theorem okX3_areAlike : CokV yX3_areAlike cX3_areAlike 6 (some .boolean) 3 3 := ⟨⟨mw_1018, mw_9, by decide +kernel⟩, mw_1016, mw_1017, ⟨_, rfl, rfl⟩⟩
theorem mw_1015 : Cond.methodLink RX9 302 yX3_areAlike ∈ TT := TT_mem (List.mem_append_right _ (List.mem_of_getElem? (i := 1015) (by decide +kernel))) rfl
theorem mw_1032 : Cond.methodLink RX9 306 yX7_isYoung ∈ TT := TT_mem (List.mem_append_right _ (List.mem_of_getElem? (i := 1032) (by decide +kernel))) rfl
theorem mw_1040 : Cond.code yX3_unseenCells cX3_unseenCells 5 (some .int) ∈ TT := TT_mem (List.mem_append_right _ (List.mem_of_getElem? (i := 1040) (by decide +kernel))) rfl
theorem mw_1038 : Cond.instanceMethod yX3_unseenCells ∈ TT := TT_mem (List.mem_append_right _ (List.mem_of_getElem? (i := 1038) (by decide +kernel))) rfl
theorem mw_1039 : Cond.selects yX3_unseenCells.cls yX3_unseenCells yX3_unseenCells ∈ TT := TT_mem (List.mem_append_right _ (List.mem_of_getElem? (i := 1039) (by decide +kernel))) rfl
theorem okX3_unseenCells : CokV yX3_unseenCells cX3_unseenCells 5 (some .int) 2 3 := ⟨⟨mw_1040, mw_9, by decide +kernel⟩, mw_1038, mw_1039, ⟨_, rfl, rfl⟩⟩
theorem mw_1037 : Cond.methodLink RX9 309 yX3_unseenCells ∈ TT := TT_mem (List.mem_append_right _ (List.mem_of_getElem? (i := 1037) (by decide +kernel))) rfl
theorem mw_1048 : Cond.code yX9_isScript cX9_isScript 2 (some .boolean) ∈ TT := TT_mem (List.mem_append_right _ (List.mem_of_getElem? (i := 1048) (by decide +kernel))) rfl
theorem mw_1047 : Cond.instanceMethod yX9_isScript ∈ TT := TT_mem (List.mem_append_right _ (List.mem_of_getElem? (i := 1047) (by decide +kernel))) rfl
theorem okX9_isScript : CokV yX9_isScript cX9_isScript 2 (some .boolean) 1 9 := ⟨⟨mw_1048, mw_1, by decide +kernel⟩, mw_1047, (TT_mem (List.mem_append_left _ (List.mem_of_getElem? (i := 37) (by decide +kernel))) rfl), ⟨_, rfl, rfl⟩⟩
theorem mw_1045 : Cond.methodLink RX9 312 yX9_isScript ∈ TT := TT_mem (List.mem_append_right _ (List.mem_of_getElem? (i := 1045) (by decide +kernel))) rfl
theorem mw_340 : Cond.fieldLink RX9 78 "NurseryHeap" "acts" "LNurseryHeap$Acts;" ∈ TT := TT_mem (List.mem_append_right _ (List.mem_of_getElem? (i := 340) (by decide +kernel))) rfl
theorem foX9_78 : Fok RX9 78 9 14 := ⟨RX9, TX9, 16, rfl, iw9, by decide, mw_340⟩
theorem mw_614 : Cond.code yX0_apply cX0_apply 7 (some .int) ∈ TT := TT_mem (List.mem_append_right _ (List.mem_of_getElem? (i := 614) (by decide +kernel))) rfl
theorem mw_612 : Cond.instanceMethod yX0_apply ∈ TT := TT_mem (List.mem_append_right _ (List.mem_of_getElem? (i := 612) (by decide +kernel))) rfl
theorem mw_613 : Cond.selects yX0_apply.cls yX0_apply yX0_apply ∈ TT := TT_mem (List.mem_append_right _ (List.mem_of_getElem? (i := 613) (by decide +kernel))) rfl
theorem okX0_apply : CokV yX0_apply cX0_apply 7 (some .int) 6 0 := ⟨⟨mw_614, mw_11, by decide +kernel⟩, mw_612, mw_613, ⟨_, rfl, rfl⟩⟩
theorem mw_611 : Cond.methodLink RX9 235 yX0_apply ∈ TT := TT_mem (List.mem_append_right _ (List.mem_of_getElem? (i := 611) (by decide +kernel))) rfl
theorem mw_1056 : Cond.code yX9_runOnTrial cX9_runOnTrial 5 (some .int) ∈ TT := TT_mem (List.mem_append_right _ (List.mem_of_getElem? (i := 1056) (by decide +kernel))) rfl
theorem mw_1055 : Cond.instanceMethod yX9_runOnTrial ∈ TT := TT_mem (List.mem_append_right _ (List.mem_of_getElem? (i := 1055) (by decide +kernel))) rfl
theorem okX9_runOnTrial : CokV yX9_runOnTrial cX9_runOnTrial 5 (some .int) 2 9 := ⟨⟨mw_1056, mw_1, by decide +kernel⟩, mw_1055, (TT_mem (List.mem_append_left _ (List.mem_of_getElem? (i := 38) (by decide +kernel))) rfl), ⟨_, rfl, rfl⟩⟩
theorem mw_1053 : Cond.methodLink RX9 315 yX9_runOnTrial ∈ TT := TT_mem (List.mem_append_right _ (List.mem_of_getElem? (i := 1053) (by decide +kernel))) rfl
theorem mw_931 : Cond.methodLink RX9 228 yX7_cellsInUse ∈ TT := TT_mem (List.mem_append_right _ (List.mem_of_getElem? (i := 931) (by decide +kernel))) rfl
theorem mw_111 : Cond.fieldLink RX9 322 "NurseryHeap$State" "objects" "I" ∈ TT := TT_mem (List.mem_append_right _ (List.mem_of_getElem? (i := 111) (by decide +kernel))) rfl
theorem foX9_322 : Fok RX9 322 7 0 := ⟨RX7, TX7, 19, rfl, iw7, by decide, mw_111⟩
theorem mw_1068 : Cond.code yX9_reachedCount cX9_reachedCount 1 (some .int) ∈ TT := TT_mem (List.mem_append_right _ (List.mem_of_getElem? (i := 1068) (by decide +kernel))) rfl
theorem mw_1067 : Cond.instanceMethod yX9_reachedCount ∈ TT := TT_mem (List.mem_append_right _ (List.mem_of_getElem? (i := 1067) (by decide +kernel))) rfl
theorem okX9_reachedCount : CokV yX9_reachedCount cX9_reachedCount 1 (some .int) 0 9 := ⟨⟨mw_1068, mw_1, by decide +kernel⟩, mw_1067, (TT_mem (List.mem_append_left _ (List.mem_of_getElem? (i := 39) (by decide +kernel))) rfl), ⟨_, rfl, rfl⟩⟩
theorem mw_1065 : Cond.methodLink RX9 325 yX9_reachedCount ∈ TT := TT_mem (List.mem_append_right _ (List.mem_of_getElem? (i := 1065) (by decide +kernel))) rfl
theorem mw_1072 : Cond.code yX7_greatestAge cX7_greatestAge 3 (some .int) ∈ TT := TT_mem (List.mem_append_right _ (List.mem_of_getElem? (i := 1072) (by decide +kernel))) rfl
theorem mw_1070 : Cond.instanceMethod yX7_greatestAge ∈ TT := TT_mem (List.mem_append_right _ (List.mem_of_getElem? (i := 1070) (by decide +kernel))) rfl
theorem mw_1071 : Cond.selects yX7_greatestAge.cls yX7_greatestAge yX7_greatestAge ∈ TT := TT_mem (List.mem_append_right _ (List.mem_of_getElem? (i := 1071) (by decide +kernel))) rfl
theorem okX7_greatestAge : CokV yX7_greatestAge cX7_greatestAge 3 (some .int) 0 7 := ⟨⟨mw_1072, mw_4, by decide +kernel⟩, mw_1070, mw_1071, ⟨_, rfl, rfl⟩⟩
theorem mw_1069 : Cond.methodLink RX9 328 yX7_greatestAge ∈ TT := TT_mem (List.mem_append_right _ (List.mem_of_getElem? (i := 1069) (by decide +kernel))) rfl
theorem mw_1077 : Cond.code yX7_linkedRoots cX7_linkedRoots 3 (some .int) ∈ TT := TT_mem (List.mem_append_right _ (List.mem_of_getElem? (i := 1077) (by decide +kernel))) rfl
theorem mw_1075 : Cond.instanceMethod yX7_linkedRoots ∈ TT := TT_mem (List.mem_append_right _ (List.mem_of_getElem? (i := 1075) (by decide +kernel))) rfl
theorem mw_1076 : Cond.selects yX7_linkedRoots.cls yX7_linkedRoots yX7_linkedRoots ∈ TT := TT_mem (List.mem_append_right _ (List.mem_of_getElem? (i := 1076) (by decide +kernel))) rfl
theorem okX7_linkedRoots : CokV yX7_linkedRoots cX7_linkedRoots 3 (some .int) 0 7 := ⟨⟨mw_1077, mw_4, by decide +kernel⟩, mw_1075, mw_1076, ⟨_, rfl, rfl⟩⟩
theorem mw_1074 : Cond.methodLink RX9 331 yX7_linkedRoots ∈ TT := TT_mem (List.mem_append_right _ (List.mem_of_getElem? (i := 1074) (by decide +kernel))) rfl
theorem mw_114 : Cond.fieldLink RX9 334 "NurseryHeap$State" "survivorInUse" "I" ∈ TT := TT_mem (List.mem_append_right _ (List.mem_of_getElem? (i := 114) (by decide +kernel))) rfl
theorem foX9_334 : Fok RX9 334 7 1 := ⟨RX7, TX7, 19, rfl, iw7, by decide, mw_114⟩
theorem mw_152 : Cond.fieldLink RX9 319 "NurseryHeap$State" "tallies" "[I" ∈ TT := TT_mem (List.mem_append_right _ (List.mem_of_getElem? (i := 152) (by decide +kernel))) rfl
theorem foX9_319 : Fok RX9 319 7 12 := ⟨RX7, TX7, 19, rfl, iw7, by decide, mw_152⟩
theorem mw_335 : Cond.fieldLink RX9 44 "NurseryHeap" "kept" "LNurseryHeap$State;" ∈ TT := TT_mem (List.mem_append_right _ (List.mem_of_getElem? (i := 335) (by decide +kernel))) rfl
theorem foX9_44 : Fok RX9 44 9 9 := ⟨RX9, TX9, 16, rfl, iw9, by decide, mw_335⟩
theorem foX9_121 : Fok RX9 121 9 7 := ⟨RX9, TX9, 16, rfl, iw9, by decide, mw_333⟩
theorem iw10 : ∀ w ∈ u_ws RX10 TX10 38, w ∈ TT := by decide +kernel
theorem mw_1176 : Cond.fieldLink RX10 73 "NurseryHeapModel" "thrown" "I" ∈ TT := TT_mem (List.mem_append_right _ (List.mem_of_getElem? (i := 1176) (by decide +kernel))) rfl
theorem foX10_73 : Fok RX10 73 10 0 := ⟨RX10, TX10, 38, rfl, iw10, by decide, mw_1176⟩
theorem mw_1177 : Cond.fieldLink RX10 9 "NurseryHeapModel" "tape" "[B" ∈ TT := TT_mem (List.mem_append_right _ (List.mem_of_getElem? (i := 1177) (by decide +kernel))) rfl
theorem foX10_9 : Fok RX10 9 10 1 := ⟨RX10, TX10, 38, rfl, iw10, by decide, mw_1177⟩
theorem mw_1178 : Cond.fieldLink RX10 77 "NurseryHeapModel" "length" "I" ∈ TT := TT_mem (List.mem_append_right _ (List.mem_of_getElem? (i := 1178) (by decide +kernel))) rfl
theorem foX10_77 : Fok RX10 77 10 2 := ⟨RX10, TX10, 38, rfl, iw10, by decide, mw_1178⟩
theorem poX10_77 : Pok RX10 77 10 2 .int := ⟨RX10, TX10, 38, tyX10, rfl, iw10, by decide, mw_1178, tyX10_ok, nmX10, rfl, by decide +kernel⟩
theorem poX10_73 : Pok RX10 73 10 0 .int := ⟨RX10, TX10, 38, tyX10, rfl, iw10, by decide, mw_1176, tyX10_ok, nmX10, rfl, by decide +kernel⟩
theorem mw_1302 : Cond.code yX10_bytesOf cX10_bytesOf 3 (some .int) ∈ TT := TT_mem (List.mem_append_right _ (List.mem_of_getElem? (i := 1302) (by decide +kernel))) rfl
theorem mw_12 : Cond.initialized "NurseryHeapModel" ∈ TT := TT_mem (List.mem_append_right _ (List.mem_of_getElem? (i := 12) (by decide +kernel))) rfl
theorem mw_1301 : Cond.static yX10_bytesOf ∈ TT := TT_mem (List.mem_append_right _ (List.mem_of_getElem? (i := 1301) (by decide +kernel))) rfl
theorem okX10_bytesOf : CokS yX10_bytesOf cX10_bytesOf 3 (some .int) 1 := ⟨⟨mw_1302, mw_12, by decide +kernel⟩, mw_1301⟩
theorem mw_1300 : Cond.methodLink RX10 80 yX10_bytesOf ∈ TT := TT_mem (List.mem_append_right _ (List.mem_of_getElem? (i := 1300) (by decide +kernel))) rfl
theorem mw_1306 : Cond.code yX10_brings cX10_brings 4 none ∈ TT := TT_mem (List.mem_append_right _ (List.mem_of_getElem? (i := 1306) (by decide +kernel))) rfl
theorem mw_1305 : Cond.instanceMethod yX10_brings ∈ TT := TT_mem (List.mem_append_right _ (List.mem_of_getElem? (i := 1305) (by decide +kernel))) rfl
theorem okX10_brings : CokV yX10_brings cX10_brings 4 none 1 10 := ⟨⟨mw_1306, mw_12, by decide +kernel⟩, mw_1305, (TT_mem (List.mem_append_left _ (List.mem_of_getElem? (i := 42) (by decide +kernel))) rfl), ⟨_, rfl, rfl⟩⟩
theorem mw_1303 : Cond.methodLink RX10 84 yX10_brings ∈ TT := TT_mem (List.mem_append_right _ (List.mem_of_getElem? (i := 1303) (by decide +kernel))) rfl
theorem mw_1179 : Cond.fieldLink RX10 88 "NurseryHeapModel" "at" "I" ∈ TT := TT_mem (List.mem_append_right _ (List.mem_of_getElem? (i := 1179) (by decide +kernel))) rfl
theorem foX10_88 : Fok RX10 88 10 3 := ⟨RX10, TX10, 38, rfl, iw10, by decide, mw_1179⟩
theorem mw_1329 : Cond.code yX10_here cX10_here 1 (some .int) ∈ TT := TT_mem (List.mem_append_right _ (List.mem_of_getElem? (i := 1329) (by decide +kernel))) rfl
theorem mw_1328 : Cond.instanceMethod yX10_here ∈ TT := TT_mem (List.mem_append_right _ (List.mem_of_getElem? (i := 1328) (by decide +kernel))) rfl
theorem okX10_here : CokV yX10_here cX10_here 1 (some .int) 0 10 := ⟨⟨mw_1329, mw_12, by decide +kernel⟩, mw_1328, (TT_mem (List.mem_append_left _ (List.mem_of_getElem? (i := 45) (by decide +kernel))) rfl), ⟨_, rfl, rfl⟩⟩
theorem mw_1326 : Cond.methodLink RX10 91 yX10_here ∈ TT := TT_mem (List.mem_append_right _ (List.mem_of_getElem? (i := 1326) (by decide +kernel))) rfl
theorem poX10_88 : Pok RX10 88 10 3 .int := ⟨RX10, TX10, 38, tyX10, rfl, iw10, by decide, mw_1179, tyX10_ok, nmX10, rfl, by decide +kernel⟩
theorem mw_1180 : Cond.fieldLink RX10 95 "NurseryHeapModel" "fault" "I" ∈ TT := TT_mem (List.mem_append_right _ (List.mem_of_getElem? (i := 1180) (by decide +kernel))) rfl
theorem foX10_95 : Fok RX10 95 10 4 := ⟨RX10, TX10, 38, rfl, iw10, by decide, mw_1180⟩
theorem poX10_95 : Pok RX10 95 10 4 .int := ⟨RX10, TX10, 38, tyX10, rfl, iw10, by decide, mw_1180, tyX10_ok, nmX10, rfl, by decide +kernel⟩
theorem mw_1325 : Cond.code yX10_look cX10_look 1 (some .int) ∈ TT := TT_mem (List.mem_append_right _ (List.mem_of_getElem? (i := 1325) (by decide +kernel))) rfl
theorem mw_1324 : Cond.instanceMethod yX10_look ∈ TT := TT_mem (List.mem_append_right _ (List.mem_of_getElem? (i := 1324) (by decide +kernel))) rfl
theorem okX10_look : CokV yX10_look cX10_look 1 (some .int) 0 10 := ⟨⟨mw_1325, mw_12, by decide +kernel⟩, mw_1324, (TT_mem (List.mem_append_left _ (List.mem_of_getElem? (i := 44) (by decide +kernel))) rfl), ⟨_, rfl, rfl⟩⟩
theorem mw_1322 : Cond.methodLink RX10 98 yX10_look ∈ TT := TT_mem (List.mem_append_right _ (List.mem_of_getElem? (i := 1322) (by decide +kernel))) rfl
theorem mw_1333 : Cond.code yX10_fails cX10_fails 1 none ∈ TT := TT_mem (List.mem_append_right _ (List.mem_of_getElem? (i := 1333) (by decide +kernel))) rfl
theorem mw_1332 : Cond.instanceMethod yX10_fails ∈ TT := TT_mem (List.mem_append_right _ (List.mem_of_getElem? (i := 1332) (by decide +kernel))) rfl
theorem okX10_fails : CokV yX10_fails cX10_fails 1 none 0 10 := ⟨⟨mw_1333, mw_12, by decide +kernel⟩, mw_1332, (TT_mem (List.mem_append_left _ (List.mem_of_getElem? (i := 46) (by decide +kernel))) rfl), ⟨_, rfl, rfl⟩⟩
theorem mw_1330 : Cond.methodLink RX10 105 yX10_fails ∈ TT := TT_mem (List.mem_append_right _ (List.mem_of_getElem? (i := 1330) (by decide +kernel))) rfl
theorem mw_1370 : Cond.code yX10_isDigit cX10_isDigit 1 (some .boolean) ∈ TT := TT_mem (List.mem_append_right _ (List.mem_of_getElem? (i := 1370) (by decide +kernel))) rfl
theorem mw_1369 : Cond.instanceMethod yX10_isDigit ∈ TT := TT_mem (List.mem_append_right _ (List.mem_of_getElem? (i := 1369) (by decide +kernel))) rfl
theorem okX10_isDigit : CokV yX10_isDigit cX10_isDigit 1 (some .boolean) 0 10 := ⟨⟨mw_1370, mw_12, by decide +kernel⟩, mw_1369, (TT_mem (List.mem_append_left _ (List.mem_of_getElem? (i := 49) (by decide +kernel))) rfl), ⟨_, rfl, rfl⟩⟩
theorem mw_1367 : Cond.methodLink RX10 101 yX10_isDigit ∈ TT := TT_mem (List.mem_append_right _ (List.mem_of_getElem? (i := 1367) (by decide +kernel))) rfl
theorem mw_1366 : Cond.code yX10_digit cX10_digit 2 (some .int) ∈ TT := TT_mem (List.mem_append_right _ (List.mem_of_getElem? (i := 1366) (by decide +kernel))) rfl
theorem mw_1365 : Cond.instanceMethod yX10_digit ∈ TT := TT_mem (List.mem_append_right _ (List.mem_of_getElem? (i := 1365) (by decide +kernel))) rfl
theorem okX10_digit : CokV yX10_digit cX10_digit 2 (some .int) 0 10 := ⟨⟨mw_1366, mw_12, by decide +kernel⟩, mw_1365, (TT_mem (List.mem_append_left _ (List.mem_of_getElem? (i := 48) (by decide +kernel))) rfl), ⟨_, rfl, rfl⟩⟩
theorem mw_1363 : Cond.methodLink RX10 108 yX10_digit ∈ TT := TT_mem (List.mem_append_right _ (List.mem_of_getElem? (i := 1363) (by decide +kernel))) rfl
theorem mw_465 : Cond.fieldLink RJ0 1053 "jdk/internal/util/Preconditions" "SIOOBE_FORMATTER" "Ljava/util/function/BiFunction;" ∈ TT := TT_mem (List.mem_append_right _ (List.mem_of_getElem? (i := 465) (by decide +kernel))) rfl
theorem mw_1351 : Cond.code yJ3_checkIndex_8e157 cJ3_checkIndex_8e157 3 (some .int) ∈ TT := TT_mem (List.mem_append_right _ (List.mem_of_getElem? (i := 1351) (by decide +kernel))) rfl
theorem mw_17 : Cond.initialized "jdk/internal/util/Preconditions" ∈ TT := TT_mem (List.mem_append_right _ (List.mem_of_getElem? (i := 17) (by decide +kernel))) rfl
theorem mw_1350 : Cond.static yJ3_checkIndex_8e157 ∈ TT := TT_mem (List.mem_append_right _ (List.mem_of_getElem? (i := 1350) (by decide +kernel))) rfl
theorem okJ3_checkIndex_8e157 : CokS yJ3_checkIndex_8e157 cJ3_checkIndex_8e157 3 (some .int) 3 := ⟨⟨mw_1351, mw_17, by decide +kernel⟩, mw_1350⟩
theorem mw_1349 : Cond.methodLink RJ0 1059 yJ3_checkIndex_8e157 ∈ TT := TT_mem (List.mem_append_right _ (List.mem_of_getElem? (i := 1349) (by decide +kernel))) rfl
theorem mw_1348 : Cond.code yJ0_checkIndex_df160 cJ0_checkIndex_df160 2 none ∈ TT := TT_mem (List.mem_append_right _ (List.mem_of_getElem? (i := 1348) (by decide +kernel))) rfl
theorem mw_1347 : Cond.static yJ0_checkIndex_df160 ∈ TT := TT_mem (List.mem_append_right _ (List.mem_of_getElem? (i := 1347) (by decide +kernel))) rfl
theorem okJ0_checkIndex_df160 : CokS yJ0_checkIndex_df160 cJ0_checkIndex_df160 2 none 2 := ⟨⟨mw_1348, mw_14, by decide +kernel⟩, mw_1347⟩
theorem mw_1346 : Cond.methodLink RJ1 9 yJ0_checkIndex_df160 ∈ TT := TT_mem (List.mem_append_right _ (List.mem_of_getElem? (i := 1346) (by decide +kernel))) rfl
theorem mw_1345 : Cond.code yJ1_charAt_3b067 cJ1_charAt_3b067 2 (some .char) ∈ TT := TT_mem (List.mem_append_right _ (List.mem_of_getElem? (i := 1345) (by decide +kernel))) rfl
theorem mw_1344 : Cond.static yJ1_charAt_3b067 ∈ TT := TT_mem (List.mem_append_right _ (List.mem_of_getElem? (i := 1344) (by decide +kernel))) rfl
theorem okJ1_charAt_3b067 : CokS yJ1_charAt_3b067 cJ1_charAt_3b067 2 (some .char) 2 := ⟨⟨mw_1345, mw_15, by decide +kernel⟩, mw_1344⟩
theorem mw_1343 : Cond.methodLink RJ0 495 yJ1_charAt_3b067 ∈ TT := TT_mem (List.mem_append_right _ (List.mem_of_getElem? (i := 1343) (by decide +kernel))) rfl
theorem mw_1338 : Cond.methodLink RX10 111 yJ0_length_8abf5 ∈ TT := TT_mem (List.mem_append_right _ (List.mem_of_getElem? (i := 1338) (by decide +kernel))) rfl
theorem mw_1339 : Cond.methodLink RX10 115 yJ0_charAt_5068e ∈ TT := TT_mem (List.mem_append_right _ (List.mem_of_getElem? (i := 1339) (by decide +kernel))) rfl
theorem mw_1342 : Cond.code yJ0_charAt_5068e cJ0_charAt_5068e 2 (some .char) ∈ TT := TT_mem (List.mem_append_right _ (List.mem_of_getElem? (i := 1342) (by decide +kernel))) rfl
theorem mw_1340 : Cond.instanceMethod yJ0_charAt_5068e ∈ TT := TT_mem (List.mem_append_right _ (List.mem_of_getElem? (i := 1340) (by decide +kernel))) rfl
theorem mw_1341 : Cond.selects yJ0_charAt_5068e.cls yJ0_charAt_5068e yJ0_charAt_5068e ∈ TT := TT_mem (List.mem_append_right _ (List.mem_of_getElem? (i := 1341) (by decide +kernel))) rfl
theorem oktJ0_charAt_5068e : CokT yJ0_charAt_5068e cJ0_charAt_5068e 2 (some .char) 1 := ⟨⟨mw_1342, mw_14, by decide +kernel⟩, mw_1340, mw_1341, rfl⟩
theorem mw_1181 : Cond.fieldLink RX10 13 "NurseryHeapModel" "ruleRead" "[I" ∈ TT := TT_mem (List.mem_append_right _ (List.mem_of_getElem? (i := 1181) (by decide +kernel))) rfl
theorem foX10_13 : Fok RX10 13 10 5 := ⟨RX10, TX10, 38, rfl, iw10, by decide, mw_1181⟩
theorem mw_1337 : Cond.code yX10_spotOf cX10_spotOf 3 (some .int) ∈ TT := TT_mem (List.mem_append_right _ (List.mem_of_getElem? (i := 1337) (by decide +kernel))) rfl
theorem mw_1336 : Cond.static yX10_spotOf ∈ TT := TT_mem (List.mem_append_right _ (List.mem_of_getElem? (i := 1336) (by decide +kernel))) rfl
theorem okX10_spotOf : CokS yX10_spotOf cX10_spotOf 3 (some .int) 2 := ⟨⟨mw_1337, mw_12, by decide +kernel⟩, mw_1336⟩
theorem mw_1335 : Cond.methodLink RX10 121 yX10_spotOf ∈ TT := TT_mem (List.mem_append_right _ (List.mem_of_getElem? (i := 1335) (by decide +kernel))) rfl
theorem mw_1362 : Cond.code yX10_number cX10_number 3 (some .int) ∈ TT := TT_mem (List.mem_append_right _ (List.mem_of_getElem? (i := 1362) (by decide +kernel))) rfl
theorem mw_1361 : Cond.instanceMethod yX10_number ∈ TT := TT_mem (List.mem_append_right _ (List.mem_of_getElem? (i := 1361) (by decide +kernel))) rfl
theorem okX10_number : CokV yX10_number cX10_number 3 (some .int) 0 10 := ⟨⟨mw_1362, mw_12, by decide +kernel⟩, mw_1361, (TT_mem (List.mem_append_left _ (List.mem_of_getElem? (i := 47) (by decide +kernel))) rfl), ⟨_, rfl, rfl⟩⟩
theorem mw_1359 : Cond.methodLink RX10 125 yX10_number ∈ TT := TT_mem (List.mem_append_right _ (List.mem_of_getElem? (i := 1359) (by decide +kernel))) rfl
theorem mw_1373 : Cond.code yX10_leastOf cX10_leastOf 1 (some .int) ∈ TT := TT_mem (List.mem_append_right _ (List.mem_of_getElem? (i := 1373) (by decide +kernel))) rfl
theorem mw_1372 : Cond.static yX10_leastOf ∈ TT := TT_mem (List.mem_append_right _ (List.mem_of_getElem? (i := 1372) (by decide +kernel))) rfl
theorem okX10_leastOf : CokS yX10_leastOf cX10_leastOf 1 (some .int) 1 := ⟨⟨mw_1373, mw_12, by decide +kernel⟩, mw_1372⟩
theorem mw_1371 : Cond.methodLink RX10 128 yX10_leastOf ∈ TT := TT_mem (List.mem_append_right _ (List.mem_of_getElem? (i := 1371) (by decide +kernel))) rfl
theorem mw_1376 : Cond.code yX10_mostOf cX10_mostOf 1 (some .int) ∈ TT := TT_mem (List.mem_append_right _ (List.mem_of_getElem? (i := 1376) (by decide +kernel))) rfl
theorem mw_1375 : Cond.static yX10_mostOf ∈ TT := TT_mem (List.mem_append_right _ (List.mem_of_getElem? (i := 1375) (by decide +kernel))) rfl
theorem okX10_mostOf : CokS yX10_mostOf cX10_mostOf 1 (some .int) 1 := ⟨⟨mw_1376, mw_12, by decide +kernel⟩, mw_1375⟩
theorem mw_1374 : Cond.methodLink RX10 131 yX10_mostOf ∈ TT := TT_mem (List.mem_append_right _ (List.mem_of_getElem? (i := 1374) (by decide +kernel))) rfl
theorem mw_1317 : Cond.code yX10_isIn cX10_isIn 6 (some .boolean) ∈ TT := TT_mem (List.mem_append_right _ (List.mem_of_getElem? (i := 1317) (by decide +kernel))) rfl
theorem mw_1316 : Cond.static yX10_isIn ∈ TT := TT_mem (List.mem_append_right _ (List.mem_of_getElem? (i := 1316) (by decide +kernel))) rfl
theorem okX10_isIn : CokS yX10_isIn cX10_isIn 6 (some .boolean) 3 := ⟨⟨mw_1317, mw_12, by decide +kernel⟩, mw_1316⟩
theorem mw_1315 : Cond.methodLink RX10 134 yX10_isIn ∈ TT := TT_mem (List.mem_append_right _ (List.mem_of_getElem? (i := 1315) (by decide +kernel))) rfl
theorem mw_1184 : Cond.fieldLink RX10 23 "NurseryHeapModel" "script" "[I" ∈ TT := TT_mem (List.mem_append_right _ (List.mem_of_getElem? (i := 1184) (by decide +kernel))) rfl
theorem foX10_23 : Fok RX10 23 10 8 := ⟨RX10, TX10, 38, rfl, iw10, by decide, mw_1184⟩
theorem mw_1388 : Cond.code yX10_numbersOf cX10_numbersOf 1 (some .int) ∈ TT := TT_mem (List.mem_append_right _ (List.mem_of_getElem? (i := 1388) (by decide +kernel))) rfl
theorem mw_1387 : Cond.static yX10_numbersOf ∈ TT := TT_mem (List.mem_append_right _ (List.mem_of_getElem? (i := 1387) (by decide +kernel))) rfl
theorem okX10_numbersOf : CokS yX10_numbersOf cX10_numbersOf 1 (some .int) 1 := ⟨⟨mw_1388, mw_12, by decide +kernel⟩, mw_1387⟩
theorem mw_1386 : Cond.methodLink RX10 140 yX10_numbersOf ∈ TT := TT_mem (List.mem_append_right _ (List.mem_of_getElem? (i := 1386) (by decide +kernel))) rfl
theorem mw_1384 : Cond.code yX10_readStep cX10_readStep 5 none ∈ TT := TT_mem (List.mem_append_right _ (List.mem_of_getElem? (i := 1384) (by decide +kernel))) rfl
theorem mw_1383 : Cond.instanceMethod yX10_readStep ∈ TT := TT_mem (List.mem_append_right _ (List.mem_of_getElem? (i := 1383) (by decide +kernel))) rfl
theorem okX10_readStep : CokV yX10_readStep cX10_readStep 5 none 1 10 := ⟨⟨mw_1384, mw_12, by decide +kernel⟩, mw_1383, (TT_mem (List.mem_append_left _ (List.mem_of_getElem? (i := 51) (by decide +kernel))) rfl), ⟨_, rfl, rfl⟩⟩
theorem mw_1381 : Cond.methodLink RX10 143 yX10_readStep ∈ TT := TT_mem (List.mem_append_right _ (List.mem_of_getElem? (i := 1381) (by decide +kernel))) rfl
theorem mw_1185 : Cond.fieldLink RX10 26 "NurseryHeapModel" "stepsOf" "[I" ∈ TT := TT_mem (List.mem_append_right _ (List.mem_of_getElem? (i := 1185) (by decide +kernel))) rfl
theorem foX10_26 : Fok RX10 26 10 9 := ⟨RX10, TX10, 38, rfl, iw10, by decide, mw_1185⟩
theorem mw_1380 : Cond.code yX10_readScript cX10_readScript 3 none ∈ TT := TT_mem (List.mem_append_right _ (List.mem_of_getElem? (i := 1380) (by decide +kernel))) rfl
theorem mw_1379 : Cond.instanceMethod yX10_readScript ∈ TT := TT_mem (List.mem_append_right _ (List.mem_of_getElem? (i := 1379) (by decide +kernel))) rfl
theorem okX10_readScript : CokV yX10_readScript cX10_readScript 3 none 0 10 := ⟨⟨mw_1380, mw_12, by decide +kernel⟩, mw_1379, (TT_mem (List.mem_append_left _ (List.mem_of_getElem? (i := 50) (by decide +kernel))) rfl), ⟨_, rfl, rfl⟩⟩
theorem mw_1377 : Cond.methodLink RX10 149 yX10_readScript ∈ TT := TT_mem (List.mem_append_right _ (List.mem_of_getElem? (i := 1377) (by decide +kernel))) rfl
theorem mw_1321 : Cond.code yX10_readHeap cX10_readHeap 3 none ∈ TT := TT_mem (List.mem_append_right _ (List.mem_of_getElem? (i := 1321) (by decide +kernel))) rfl
theorem mw_1320 : Cond.instanceMethod yX10_readHeap ∈ TT := TT_mem (List.mem_append_right _ (List.mem_of_getElem? (i := 1320) (by decide +kernel))) rfl
theorem okX10_readHeap : CokV yX10_readHeap cX10_readHeap 3 none 0 10 := ⟨⟨mw_1321, mw_12, by decide +kernel⟩, mw_1320, (TT_mem (List.mem_append_left _ (List.mem_of_getElem? (i := 43) (by decide +kernel))) rfl), ⟨_, rfl, rfl⟩⟩
theorem mw_1318 : Cond.methodLink RX10 146 yX10_readHeap ∈ TT := TT_mem (List.mem_append_right _ (List.mem_of_getElem? (i := 1318) (by decide +kernel))) rfl
theorem mw_1314 : Cond.code yX10_fault cX10_fault 2 (some .int) ∈ TT := TT_mem (List.mem_append_right _ (List.mem_of_getElem? (i := 1314) (by decide +kernel))) rfl
theorem mw_1312 : Cond.instanceMethod yX10_fault ∈ TT := TT_mem (List.mem_append_right _ (List.mem_of_getElem? (i := 1312) (by decide +kernel))) rfl
theorem mw_1313 : Cond.selects yX10_fault.cls yX10_fault yX10_fault ∈ TT := TT_mem (List.mem_append_right _ (List.mem_of_getElem? (i := 1313) (by decide +kernel))) rfl
theorem okX10_fault : CokV yX10_fault cX10_fault 2 (some .int) 1 10 := ⟨⟨mw_1314, mw_12, by decide +kernel⟩, mw_1312, mw_1313, ⟨_, rfl, rfl⟩⟩
theorem mw_1393 : Cond.methodLink RX10 155 yX10_fault ∈ TT := TT_mem (List.mem_append_right _ (List.mem_of_getElem? (i := 1393) (by decide +kernel))) rfl
theorem mw_1182 : Cond.fieldLink RX10 17 "NurseryHeapModel" "rule" "[I" ∈ TT := TT_mem (List.mem_append_right _ (List.mem_of_getElem? (i := 1182) (by decide +kernel))) rfl
theorem foX10_17 : Fok RX10 17 10 6 := ⟨RX10, TX10, 38, rfl, iw10, by decide, mw_1182⟩
theorem mw_1188 : Cond.fieldLink RX10 29 "NurseryHeapModel" "now" "[I" ∈ TT := TT_mem (List.mem_append_right _ (List.mem_of_getElem? (i := 1188) (by decide +kernel))) rfl
theorem foX10_29 : Fok RX10 29 10 12 := ⟨RX10, TX10, 38, rfl, iw10, by decide, mw_1188⟩
theorem mw_1187 : Cond.fieldLink RX10 157 "NurseryHeapModel" "isThere" "Z" ∈ TT := TT_mem (List.mem_append_right _ (List.mem_of_getElem? (i := 1187) (by decide +kernel))) rfl
theorem poX10_157 : Pok RX10 157 10 11 .boolean := ⟨RX10, TX10, 38, tyX10, rfl, iw10, by decide, mw_1187, tyX10_ok, nmX10, rfl, by decide +kernel⟩
theorem mw_1194 : Cond.fieldLink RX10 161 "NurseryHeapModel" "acts" "I" ∈ TT := TT_mem (List.mem_append_right _ (List.mem_of_getElem? (i := 1194) (by decide +kernel))) rfl
theorem poX10_161 : Pok RX10 161 10 18 .int := ⟨RX10, TX10, 38, tyX10, rfl, iw10, by decide, mw_1194, tyX10_ok, nmX10, rfl, by decide +kernel⟩
theorem mw_1195 : Cond.fieldLink RX10 164 "NurseryHeapModel" "hasImage" "Z" ∈ TT := TT_mem (List.mem_append_right _ (List.mem_of_getElem? (i := 1195) (by decide +kernel))) rfl
theorem poX10_164 : Pok RX10 164 10 19 .boolean := ⟨RX10, TX10, 38, tyX10, rfl, iw10, by decide, mw_1195, tyX10_ok, nmX10, rfl, by decide +kernel⟩
theorem mw_1186 : Cond.fieldLink RX10 152 "NurseryHeapModel" "scripts" "I" ∈ TT := TT_mem (List.mem_append_right _ (List.mem_of_getElem? (i := 1186) (by decide +kernel))) rfl
theorem foX10_152 : Fok RX10 152 10 10 := ⟨RX10, TX10, 38, rfl, iw10, by decide, mw_1186⟩
theorem poX10_152 : Pok RX10 152 10 10 .int := ⟨RX10, TX10, 38, tyX10, rfl, iw10, by decide, mw_1186, tyX10_ok, nmX10, rfl, by decide +kernel⟩
theorem mw_1437 : Cond.code yX10_of cX10_of 3 (some .int) ∈ TT := TT_mem (List.mem_append_right _ (List.mem_of_getElem? (i := 1437) (by decide +kernel))) rfl
theorem mw_1436 : Cond.static yX10_of ∈ TT := TT_mem (List.mem_append_right _ (List.mem_of_getElem? (i := 1436) (by decide +kernel))) rfl
theorem okX10_of : CokS yX10_of cX10_of 3 (some .int) 3 := ⟨⟨mw_1437, mw_12, by decide +kernel⟩, mw_1436⟩
theorem mw_1435 : Cond.methodLink RX10 167 yX10_of ∈ TT := TT_mem (List.mem_append_right _ (List.mem_of_getElem? (i := 1435) (by decide +kernel))) rfl
theorem mw_1451 : Cond.code yX10_sizeOf cX10_sizeOf 2 (some .int) ∈ TT := TT_mem (List.mem_append_right _ (List.mem_of_getElem? (i := 1451) (by decide +kernel))) rfl
theorem mw_1450 : Cond.static yX10_sizeOf ∈ TT := TT_mem (List.mem_append_right _ (List.mem_of_getElem? (i := 1450) (by decide +kernel))) rfl
theorem okX10_sizeOf : CokS yX10_sizeOf cX10_sizeOf 2 (some .int) 2 := ⟨⟨mw_1451, mw_12, by decide +kernel⟩, mw_1450⟩
theorem mw_1449 : Cond.methodLink RX10 171 yX10_sizeOf ∈ TT := TT_mem (List.mem_append_right _ (List.mem_of_getElem? (i := 1449) (by decide +kernel))) rfl
theorem mw_1448 : Cond.code yX10_cellsIn cX10_cellsIn 4 (some .int) ∈ TT := TT_mem (List.mem_append_right _ (List.mem_of_getElem? (i := 1448) (by decide +kernel))) rfl
theorem mw_1447 : Cond.static yX10_cellsIn ∈ TT := TT_mem (List.mem_append_right _ (List.mem_of_getElem? (i := 1447) (by decide +kernel))) rfl
theorem okX10_cellsIn : CokS yX10_cellsIn cX10_cellsIn 4 (some .int) 2 := ⟨⟨mw_1448, mw_12, by decide +kernel⟩, mw_1447⟩
theorem mw_1446 : Cond.methodLink RX10 175 yX10_cellsIn ∈ TT := TT_mem (List.mem_append_right _ (List.mem_of_getElem? (i := 1446) (by decide +kernel))) rfl
theorem mw_1473 : Cond.code yX10_cell cX10_cell 2 (some .int) ∈ TT := TT_mem (List.mem_append_right _ (List.mem_of_getElem? (i := 1473) (by decide +kernel))) rfl
theorem mw_1472 : Cond.static yX10_cell ∈ TT := TT_mem (List.mem_append_right _ (List.mem_of_getElem? (i := 1472) (by decide +kernel))) rfl
theorem okX10_cell : CokS yX10_cell cX10_cell 2 (some .int) 2 := ⟨⟨mw_1473, mw_12, by decide +kernel⟩, mw_1472⟩
theorem mw_1471 : Cond.methodLink RX10 178 yX10_cell ∈ TT := TT_mem (List.mem_append_right _ (List.mem_of_getElem? (i := 1471) (by decide +kernel))) rfl
theorem mw_1434 : Cond.code yX10_spotOf_ cX10_spotOf_ 3 (some .int) ∈ TT := TT_mem (List.mem_append_right _ (List.mem_of_getElem? (i := 1434) (by decide +kernel))) rfl
theorem mw_1433 : Cond.static yX10_spotOf_ ∈ TT := TT_mem (List.mem_append_right _ (List.mem_of_getElem? (i := 1433) (by decide +kernel))) rfl
theorem okX10_spotOf_ : CokS yX10_spotOf_ cX10_spotOf_ 3 (some .int) 2 := ⟨⟨mw_1434, mw_12, by decide +kernel⟩, mw_1433⟩
theorem mw_1432 : Cond.methodLink RX10 182 yX10_spotOf_ ∈ TT := TT_mem (List.mem_append_right _ (List.mem_of_getElem? (i := 1432) (by decide +kernel))) rfl
theorem mw_1470 : Cond.code yX10_isOld cX10_isOld 2 (some .boolean) ∈ TT := TT_mem (List.mem_append_right _ (List.mem_of_getElem? (i := 1470) (by decide +kernel))) rfl
theorem mw_1469 : Cond.static yX10_isOld ∈ TT := TT_mem (List.mem_append_right _ (List.mem_of_getElem? (i := 1469) (by decide +kernel))) rfl
theorem okX10_isOld : CokS yX10_isOld cX10_isOld 2 (some .boolean) 2 := ⟨⟨mw_1470, mw_12, by decide +kernel⟩, mw_1469⟩
theorem mw_1468 : Cond.methodLink RX10 184 yX10_isOld ∈ TT := TT_mem (List.mem_append_right _ (List.mem_of_getElem? (i := 1468) (by decide +kernel))) rfl
theorem mw_1509 : Cond.code yX10_isYoungLink cX10_isYoungLink 4 (some .boolean) ∈ TT := TT_mem (List.mem_append_right _ (List.mem_of_getElem? (i := 1509) (by decide +kernel))) rfl
theorem mw_1508 : Cond.static yX10_isYoungLink ∈ TT := TT_mem (List.mem_append_right _ (List.mem_of_getElem? (i := 1508) (by decide +kernel))) rfl
theorem okX10_isYoungLink : CokS yX10_isYoungLink cX10_isYoungLink 4 (some .boolean) 3 := ⟨⟨mw_1509, mw_12, by decide +kernel⟩, mw_1508⟩
theorem mw_1507 : Cond.methodLink RX10 188 yX10_isYoungLink ∈ TT := TT_mem (List.mem_append_right _ (List.mem_of_getElem? (i := 1507) (by decide +kernel))) rfl
theorem mw_1515 : Cond.code yX10_spotOfKept cX10_spotOfKept 4 (some .int) ∈ TT := TT_mem (List.mem_append_right _ (List.mem_of_getElem? (i := 1515) (by decide +kernel))) rfl
theorem mw_1514 : Cond.static yX10_spotOfKept ∈ TT := TT_mem (List.mem_append_right _ (List.mem_of_getElem? (i := 1514) (by decide +kernel))) rfl
theorem okX10_spotOfKept : CokS yX10_spotOfKept cX10_spotOfKept 4 (some .int) 3 := ⟨⟨mw_1515, mw_12, by decide +kernel⟩, mw_1514⟩
theorem mw_1513 : Cond.methodLink RX10 192 yX10_spotOfKept ∈ TT := TT_mem (List.mem_append_right _ (List.mem_of_getElem? (i := 1513) (by decide +kernel))) rfl
theorem mw_1196 : Cond.fieldLink RX10 45 "NurseryHeapModel" "isMet" "[Z" ∈ TT := TT_mem (List.mem_append_right _ (List.mem_of_getElem? (i := 1196) (by decide +kernel))) rfl
theorem foX10_45 : Fok RX10 45 10 20 := ⟨RX10, TX10, 38, rfl, iw10, by decide, mw_1196⟩
theorem mw_1198 : Cond.fieldLink RX10 195 "NurseryHeapModel" "meets" "I" ∈ TT := TT_mem (List.mem_append_right _ (List.mem_of_getElem? (i := 1198) (by decide +kernel))) rfl
theorem poX10_195 : Pok RX10 195 10 22 .int := ⟨RX10, TX10, 38, tyX10, rfl, iw10, by decide, mw_1198, tyX10_ok, nmX10, rfl, by decide +kernel⟩
theorem mw_1203 : Cond.fieldLink RX10 198 "NurseryHeapModel" "cant" "Z" ∈ TT := TT_mem (List.mem_append_right _ (List.mem_of_getElem? (i := 1203) (by decide +kernel))) rfl
theorem poX10_198 : Pok RX10 198 10 27 .boolean := ⟨RX10, TX10, 38, tyX10, rfl, iw10, by decide, mw_1203, tyX10_ok, nmX10, rfl, by decide +kernel⟩
theorem mw_1197 : Cond.fieldLink RX10 49 "NurseryHeapModel" "met" "[I" ∈ TT := TT_mem (List.mem_append_right _ (List.mem_of_getElem? (i := 1197) (by decide +kernel))) rfl
theorem foX10_49 : Fok RX10 49 10 21 := ⟨RX10, TX10, 38, rfl, iw10, by decide, mw_1197⟩
theorem foX10_195 : Fok RX10 195 10 22 := ⟨RX10, TX10, 38, rfl, iw10, by decide, mw_1198⟩
theorem mw_1480 : Cond.code yX10_isWeak cX10_isWeak 3 (some .boolean) ∈ TT := TT_mem (List.mem_append_right _ (List.mem_of_getElem? (i := 1480) (by decide +kernel))) rfl
theorem mw_1479 : Cond.static yX10_isWeak ∈ TT := TT_mem (List.mem_append_right _ (List.mem_of_getElem? (i := 1479) (by decide +kernel))) rfl
theorem okX10_isWeak : CokS yX10_isWeak cX10_isWeak 3 (some .boolean) 3 := ⟨⟨mw_1480, mw_12, by decide +kernel⟩, mw_1479⟩
theorem mw_1478 : Cond.methodLink RX10 201 yX10_isWeak ∈ TT := TT_mem (List.mem_append_right _ (List.mem_of_getElem? (i := 1478) (by decide +kernel))) rfl
theorem mw_1477 : Cond.code yX10_marks cX10_marks 2 none ∈ TT := TT_mem (List.mem_append_right _ (List.mem_of_getElem? (i := 1477) (by decide +kernel))) rfl
theorem mw_1476 : Cond.instanceMethod yX10_marks ∈ TT := TT_mem (List.mem_append_right _ (List.mem_of_getElem? (i := 1476) (by decide +kernel))) rfl
theorem okX10_marks : CokV yX10_marks cX10_marks 2 none 1 10 := ⟨⟨mw_1477, mw_12, by decide +kernel⟩, mw_1476, (TT_mem (List.mem_append_left _ (List.mem_of_getElem? (i := 64) (by decide +kernel))) rfl), ⟨_, rfl, rfl⟩⟩
theorem mw_1474 : Cond.methodLink RX10 204 yX10_marks ∈ TT := TT_mem (List.mem_append_right _ (List.mem_of_getElem? (i := 1474) (by decide +kernel))) rfl
theorem mw_1459 : Cond.code yX10_begins cX10_begins 2 none ∈ TT := TT_mem (List.mem_append_right _ (List.mem_of_getElem? (i := 1459) (by decide +kernel))) rfl
theorem mw_1458 : Cond.instanceMethod yX10_begins ∈ TT := TT_mem (List.mem_append_right _ (List.mem_of_getElem? (i := 1458) (by decide +kernel))) rfl
theorem okX10_begins : CokV yX10_begins cX10_begins 2 none 0 10 := ⟨⟨mw_1459, mw_12, by decide +kernel⟩, mw_1458, (TT_mem (List.mem_append_left _ (List.mem_of_getElem? (i := 61) (by decide +kernel))) rfl), ⟨_, rfl, rfl⟩⟩
theorem mw_1456 : Cond.methodLink RX10 207 yX10_begins ∈ TT := TT_mem (List.mem_append_right _ (List.mem_of_getElem? (i := 1456) (by decide +kernel))) rfl
theorem mw_1530 : Cond.code yX10_marksAll cX10_marksAll 6 none ∈ TT := TT_mem (List.mem_append_right _ (List.mem_of_getElem? (i := 1530) (by decide +kernel))) rfl
theorem mw_1529 : Cond.instanceMethod yX10_marksAll ∈ TT := TT_mem (List.mem_append_right _ (List.mem_of_getElem? (i := 1529) (by decide +kernel))) rfl
theorem okX10_marksAll : CokV yX10_marksAll cX10_marksAll 6 none 2 10 := ⟨⟨mw_1530, mw_12, by decide +kernel⟩, mw_1529, (TT_mem (List.mem_append_left _ (List.mem_of_getElem? (i := 72) (by decide +kernel))) rfl), ⟨_, rfl, rfl⟩⟩
theorem mw_1527 : Cond.methodLink RX10 210 yX10_marksAll ∈ TT := TT_mem (List.mem_append_right _ (List.mem_of_getElem? (i := 1527) (by decide +kernel))) rfl
theorem mw_1495 : Cond.code yX10_isLost cX10_isLost 3 none ∈ TT := TT_mem (List.mem_append_right _ (List.mem_of_getElem? (i := 1495) (by decide +kernel))) rfl
theorem mw_1494 : Cond.static yX10_isLost ∈ TT := TT_mem (List.mem_append_right _ (List.mem_of_getElem? (i := 1494) (by decide +kernel))) rfl
theorem okX10_isLost : CokS yX10_isLost cX10_isLost 3 none 2 := ⟨⟨mw_1495, mw_12, by decide +kernel⟩, mw_1494⟩
theorem mw_1493 : Cond.methodLink RX10 214 yX10_isLost ∈ TT := TT_mem (List.mem_append_right _ (List.mem_of_getElem? (i := 1493) (by decide +kernel))) rfl
theorem mw_1200 : Cond.fieldLink RX10 217 "NurseryHeapModel" "dues" "I" ∈ TT := TT_mem (List.mem_append_right _ (List.mem_of_getElem? (i := 1200) (by decide +kernel))) rfl
theorem poX10_217 : Pok RX10 217 10 24 .int := ⟨RX10, TX10, 38, tyX10, rfl, iw10, by decide, mw_1200, tyX10_ok, nmX10, rfl, by decide +kernel⟩
theorem mw_1199 : Cond.fieldLink RX10 52 "NurseryHeapModel" "due" "[I" ∈ TT := TT_mem (List.mem_append_right _ (List.mem_of_getElem? (i := 1199) (by decide +kernel))) rfl
theorem foX10_52 : Fok RX10 52 10 23 := ⟨RX10, TX10, 38, rfl, iw10, by decide, mw_1199⟩
theorem foX10_217 : Fok RX10 217 10 24 := ⟨RX10, TX10, 38, rfl, iw10, by decide, mw_1200⟩
theorem mw_1202 : Cond.fieldLink RX10 223 "NurseryHeapModel" "aged" "I" ∈ TT := TT_mem (List.mem_append_right _ (List.mem_of_getElem? (i := 1202) (by decide +kernel))) rfl
theorem foX10_223 : Fok RX10 223 10 26 := ⟨RX10, TX10, 38, rfl, iw10, by decide, mw_1202⟩
theorem poX10_223 : Pok RX10 223 10 26 .int := ⟨RX10, TX10, 38, tyX10, rfl, iw10, by decide, mw_1202, tyX10_ok, nmX10, rfl, by decide +kernel⟩
theorem mw_1201 : Cond.fieldLink RX10 220 "NurseryHeapModel" "survived" "I" ∈ TT := TT_mem (List.mem_append_right _ (List.mem_of_getElem? (i := 1201) (by decide +kernel))) rfl
theorem foX10_220 : Fok RX10 220 10 25 := ⟨RX10, TX10, 38, rfl, iw10, by decide, mw_1201⟩
theorem poX10_220 : Pok RX10 220 10 25 .int := ⟨RX10, TX10, 38, tyX10, rfl, iw10, by decide, mw_1201, tyX10_ok, nmX10, rfl, by decide +kernel⟩
theorem foX10_198 : Fok RX10 198 10 27 := ⟨RX10, TX10, 38, rfl, iw10, by decide, mw_1203⟩
theorem mw_1467 : Cond.code yX10_moves cX10_moves 5 none ∈ TT := TT_mem (List.mem_append_right _ (List.mem_of_getElem? (i := 1467) (by decide +kernel))) rfl
theorem mw_1466 : Cond.instanceMethod yX10_moves ∈ TT := TT_mem (List.mem_append_right _ (List.mem_of_getElem? (i := 1466) (by decide +kernel))) rfl
theorem okX10_moves : CokV yX10_moves cX10_moves 5 none 2 10 := ⟨⟨mw_1467, mw_12, by decide +kernel⟩, mw_1466, (TT_mem (List.mem_append_left _ (List.mem_of_getElem? (i := 63) (by decide +kernel))) rfl), ⟨_, rfl, rfl⟩⟩
theorem mw_1464 : Cond.methodLink RX10 226 yX10_moves ∈ TT := TT_mem (List.mem_append_right _ (List.mem_of_getElem? (i := 1464) (by decide +kernel))) rfl
theorem mw_1484 : Cond.code yX10_movesAll cX10_movesAll 6 none ∈ TT := TT_mem (List.mem_append_right _ (List.mem_of_getElem? (i := 1484) (by decide +kernel))) rfl
theorem mw_1483 : Cond.instanceMethod yX10_movesAll ∈ TT := TT_mem (List.mem_append_right _ (List.mem_of_getElem? (i := 1483) (by decide +kernel))) rfl
theorem okX10_movesAll : CokV yX10_movesAll cX10_movesAll 6 none 2 10 := ⟨⟨mw_1484, mw_12, by decide +kernel⟩, mw_1483, (TT_mem (List.mem_append_left _ (List.mem_of_getElem? (i := 65) (by decide +kernel))) rfl), ⟨_, rfl, rfl⟩⟩
theorem mw_1481 : Cond.methodLink RX10 229 yX10_movesAll ∈ TT := TT_mem (List.mem_append_right _ (List.mem_of_getElem? (i := 1481) (by decide +kernel))) rfl
theorem mw_1492 : Cond.code yX10_empties cX10_empties 5 none ∈ TT := TT_mem (List.mem_append_right _ (List.mem_of_getElem? (i := 1492) (by decide +kernel))) rfl
theorem mw_1491 : Cond.instanceMethod yX10_empties ∈ TT := TT_mem (List.mem_append_right _ (List.mem_of_getElem? (i := 1491) (by decide +kernel))) rfl
theorem okX10_empties : CokV yX10_empties cX10_empties 5 none 3 10 := ⟨⟨mw_1492, mw_12, by decide +kernel⟩, mw_1491, (TT_mem (List.mem_append_left _ (List.mem_of_getElem? (i := 67) (by decide +kernel))) rfl), ⟨_, rfl, rfl⟩⟩
theorem mw_1489 : Cond.methodLink RX10 256 yX10_empties ∈ TT := TT_mem (List.mem_append_right _ (List.mem_of_getElem? (i := 1489) (by decide +kernel))) rfl
theorem mw_1499 : Cond.code yX10_ends cX10_ends 4 none ∈ TT := TT_mem (List.mem_append_right _ (List.mem_of_getElem? (i := 1499) (by decide +kernel))) rfl
theorem mw_1498 : Cond.instanceMethod yX10_ends ∈ TT := TT_mem (List.mem_append_right _ (List.mem_of_getElem? (i := 1498) (by decide +kernel))) rfl
theorem okX10_ends : CokV yX10_ends cX10_ends 4 none 2 10 := ⟨⟨mw_1499, mw_12, by decide +kernel⟩, mw_1498, (TT_mem (List.mem_append_left _ (List.mem_of_getElem? (i := 68) (by decide +kernel))) rfl), ⟨_, rfl, rfl⟩⟩
theorem mw_1496 : Cond.methodLink RX10 260 yX10_ends ∈ TT := TT_mem (List.mem_append_right _ (List.mem_of_getElem? (i := 1496) (by decide +kernel))) rfl
theorem mw_1503 : Cond.code yX10_isMetBehind cX10_isMetBehind 4 (some .boolean) ∈ TT := TT_mem (List.mem_append_right _ (List.mem_of_getElem? (i := 1503) (by decide +kernel))) rfl
theorem mw_1502 : Cond.instanceMethod yX10_isMetBehind ∈ TT := TT_mem (List.mem_append_right _ (List.mem_of_getElem? (i := 1502) (by decide +kernel))) rfl
theorem okX10_isMetBehind : CokV yX10_isMetBehind cX10_isMetBehind 4 (some .boolean) 2 10 := ⟨⟨mw_1503, mw_12, by decide +kernel⟩, mw_1502, (TT_mem (List.mem_append_left _ (List.mem_of_getElem? (i := 69) (by decide +kernel))) rfl), ⟨_, rfl, rfl⟩⟩
theorem mw_1500 : Cond.methodLink RX10 264 yX10_isMetBehind ∈ TT := TT_mem (List.mem_append_right _ (List.mem_of_getElem? (i := 1500) (by decide +kernel))) rfl
theorem mw_1190 : Cond.fieldLink RX10 35 "NurseryHeapModel" "aside" "[I" ∈ TT := TT_mem (List.mem_append_right _ (List.mem_of_getElem? (i := 1190) (by decide +kernel))) rfl
theorem foX10_35 : Fok RX10 35 10 14 := ⟨RX10, TX10, 38, rfl, iw10, by decide, mw_1190⟩
theorem mw_1408 : Cond.code yX10_copyRow cX10_copyRow 5 none ∈ TT := TT_mem (List.mem_append_right _ (List.mem_of_getElem? (i := 1408) (by decide +kernel))) rfl
theorem mw_1407 : Cond.static yX10_copyRow ∈ TT := TT_mem (List.mem_append_right _ (List.mem_of_getElem? (i := 1407) (by decide +kernel))) rfl
theorem okX10_copyRow : CokS yX10_copyRow cX10_copyRow 5 none 4 := ⟨⟨mw_1408, mw_12, by decide +kernel⟩, mw_1407⟩
theorem mw_1406 : Cond.methodLink RX10 232 yX10_copyRow ∈ TT := TT_mem (List.mem_append_right _ (List.mem_of_getElem? (i := 1406) (by decide +kernel))) rfl
theorem mw_1463 : Cond.code yX10_movesReached cX10_movesReached 5 none ∈ TT := TT_mem (List.mem_append_right _ (List.mem_of_getElem? (i := 1463) (by decide +kernel))) rfl
theorem mw_1462 : Cond.instanceMethod yX10_movesReached ∈ TT := TT_mem (List.mem_append_right _ (List.mem_of_getElem? (i := 1462) (by decide +kernel))) rfl
theorem okX10_movesReached : CokV yX10_movesReached cX10_movesReached 5 none 1 10 := ⟨⟨mw_1463, mw_12, by decide +kernel⟩, mw_1462, (TT_mem (List.mem_append_left _ (List.mem_of_getElem? (i := 62) (by decide +kernel))) rfl), ⟨_, rfl, rfl⟩⟩
theorem mw_1460 : Cond.methodLink RX10 236 yX10_movesReached ∈ TT := TT_mem (List.mem_append_right _ (List.mem_of_getElem? (i := 1460) (by decide +kernel))) rfl
theorem mw_1506 : Cond.code yX10_sifts cX10_sifts 6 none ∈ TT := TT_mem (List.mem_append_right _ (List.mem_of_getElem? (i := 1506) (by decide +kernel))) rfl
theorem mw_1505 : Cond.static yX10_sifts ∈ TT := TT_mem (List.mem_append_right _ (List.mem_of_getElem? (i := 1505) (by decide +kernel))) rfl
theorem okX10_sifts : CokS yX10_sifts cX10_sifts 6 none 1 := ⟨⟨mw_1506, mw_12, by decide +kernel⟩, mw_1505⟩
theorem mw_1504 : Cond.methodLink RX10 243 yX10_sifts ∈ TT := TT_mem (List.mem_append_right _ (List.mem_of_getElem? (i := 1504) (by decide +kernel))) rfl
theorem mw_1512 : Cond.code yX10_keeps cX10_keeps 3 none ∈ TT := TT_mem (List.mem_append_right _ (List.mem_of_getElem? (i := 1512) (by decide +kernel))) rfl
theorem mw_1511 : Cond.static yX10_keeps ∈ TT := TT_mem (List.mem_append_right _ (List.mem_of_getElem? (i := 1511) (by decide +kernel))) rfl
theorem okX10_keeps : CokS yX10_keeps cX10_keeps 3 none 3 := ⟨⟨mw_1512, mw_12, by decide +kernel⟩, mw_1511⟩
theorem mw_1510 : Cond.methodLink RX10 246 yX10_keeps ∈ TT := TT_mem (List.mem_append_right _ (List.mem_of_getElem? (i := 1510) (by decide +kernel))) rfl
theorem mw_1204 : Cond.fieldLink RX10 250 "NurseryHeapModel" "came" "I" ∈ TT := TT_mem (List.mem_append_right _ (List.mem_of_getElem? (i := 1204) (by decide +kernel))) rfl
theorem poX10_250 : Pok RX10 250 10 28 .int := ⟨RX10, TX10, 38, tyX10, rfl, iw10, by decide, mw_1204, tyX10_ok, nmX10, rfl, by decide +kernel⟩
theorem mw_1518 : Cond.code yX10_goes cX10_goes 3 none ∈ TT := TT_mem (List.mem_append_right _ (List.mem_of_getElem? (i := 1518) (by decide +kernel))) rfl
theorem mw_1517 : Cond.static yX10_goes ∈ TT := TT_mem (List.mem_append_right _ (List.mem_of_getElem? (i := 1517) (by decide +kernel))) rfl
theorem okX10_goes : CokS yX10_goes cX10_goes 3 none 2 := ⟨⟨mw_1518, mw_12, by decide +kernel⟩, mw_1517⟩
theorem mw_1516 : Cond.methodLink RX10 253 yX10_goes ∈ TT := TT_mem (List.mem_append_right _ (List.mem_of_getElem? (i := 1516) (by decide +kernel))) rfl
theorem foX10_250 : Fok RX10 250 10 28 := ⟨RX10, TX10, 38, rfl, iw10, by decide, mw_1204⟩
theorem mw_1488 : Cond.code yX10_weakensAndEnds cX10_weakensAndEnds 5 none ∈ TT := TT_mem (List.mem_append_right _ (List.mem_of_getElem? (i := 1488) (by decide +kernel))) rfl
theorem mw_1487 : Cond.instanceMethod yX10_weakensAndEnds ∈ TT := TT_mem (List.mem_append_right _ (List.mem_of_getElem? (i := 1487) (by decide +kernel))) rfl
theorem okX10_weakensAndEnds : CokV yX10_weakensAndEnds cX10_weakensAndEnds 5 none 1 10 := ⟨⟨mw_1488, mw_12, by decide +kernel⟩, mw_1487, (TT_mem (List.mem_append_left _ (List.mem_of_getElem? (i := 66) (by decide +kernel))) rfl), ⟨_, rfl, rfl⟩⟩
theorem mw_1485 : Cond.methodLink RX10 240 yX10_weakensAndEnds ∈ TT := TT_mem (List.mem_append_right _ (List.mem_of_getElem? (i := 1485) (by decide +kernel))) rfl
theorem mw_1205 : Cond.fieldLink RX10 274 "NurseryHeapModel" "slid" "I" ∈ TT := TT_mem (List.mem_append_right _ (List.mem_of_getElem? (i := 1205) (by decide +kernel))) rfl
theorem poX10_274 : Pok RX10 274 10 29 .int := ⟨RX10, TX10, 38, tyX10, rfl, iw10, by decide, mw_1205, tyX10_ok, nmX10, rfl, by decide +kernel⟩
theorem foX10_274 : Fok RX10 274 10 29 := ⟨RX10, TX10, 38, rfl, iw10, by decide, mw_1205⟩
theorem mw_1526 : Cond.code yX10_reaches cX10_reaches 5 none ∈ TT := TT_mem (List.mem_append_right _ (List.mem_of_getElem? (i := 1526) (by decide +kernel))) rfl
theorem mw_1525 : Cond.instanceMethod yX10_reaches ∈ TT := TT_mem (List.mem_append_right _ (List.mem_of_getElem? (i := 1525) (by decide +kernel))) rfl
theorem okX10_reaches : CokV yX10_reaches cX10_reaches 5 none 3 10 := ⟨⟨mw_1526, mw_12, by decide +kernel⟩, mw_1525, (TT_mem (List.mem_append_left _ (List.mem_of_getElem? (i := 71) (by decide +kernel))) rfl), ⟨_, rfl, rfl⟩⟩
theorem mw_1523 : Cond.methodLink RX10 268 yX10_reaches ∈ TT := TT_mem (List.mem_append_right _ (List.mem_of_getElem? (i := 1523) (by decide +kernel))) rfl
theorem mw_1534 : Cond.code yX10_slides cX10_slides 6 none ∈ TT := TT_mem (List.mem_append_right _ (List.mem_of_getElem? (i := 1534) (by decide +kernel))) rfl
theorem mw_1533 : Cond.instanceMethod yX10_slides ∈ TT := TT_mem (List.mem_append_right _ (List.mem_of_getElem? (i := 1533) (by decide +kernel))) rfl
theorem okX10_slides : CokV yX10_slides cX10_slides 6 none 1 10 := ⟨⟨mw_1534, mw_12, by decide +kernel⟩, mw_1533, (TT_mem (List.mem_append_left _ (List.mem_of_getElem? (i := 73) (by decide +kernel))) rfl), ⟨_, rfl, rfl⟩⟩
theorem mw_1531 : Cond.methodLink RX10 271 yX10_slides ∈ TT := TT_mem (List.mem_append_right _ (List.mem_of_getElem? (i := 1531) (by decide +kernel))) rfl
theorem foX10_157 : Fok RX10 157 10 11 := ⟨RX10, TX10, 38, rfl, iw10, by decide, mw_1187⟩
theorem mw_1420 : Cond.code yX10_isRoot cX10_isRoot 2 (some .boolean) ∈ TT := TT_mem (List.mem_append_right _ (List.mem_of_getElem? (i := 1420) (by decide +kernel))) rfl
theorem mw_1419 : Cond.instanceMethod yX10_isRoot ∈ TT := TT_mem (List.mem_append_right _ (List.mem_of_getElem? (i := 1419) (by decide +kernel))) rfl
theorem okX10_isRoot : CokV yX10_isRoot cX10_isRoot 2 (some .boolean) 1 10 := ⟨⟨mw_1420, mw_12, by decide +kernel⟩, mw_1419, (TT_mem (List.mem_append_left _ (List.mem_of_getElem? (i := 56) (by decide +kernel))) rfl), ⟨_, rfl, rfl⟩⟩
theorem mw_1417 : Cond.methodLink RX10 277 yX10_isRoot ∈ TT := TT_mem (List.mem_append_right _ (List.mem_of_getElem? (i := 1417) (by decide +kernel))) rfl
theorem mw_1428 : Cond.constantLong RX10 294 (8) ∈ TT := TT_mem (List.mem_append_right _ (List.mem_of_getElem? (i := 1428) (by decide +kernel))) rfl
theorem mw_1431 : Cond.code yX10_rootSpot cX10_rootSpot 2 (some .int) ∈ TT := TT_mem (List.mem_append_right _ (List.mem_of_getElem? (i := 1431) (by decide +kernel))) rfl
theorem mw_1430 : Cond.static yX10_rootSpot ∈ TT := TT_mem (List.mem_append_right _ (List.mem_of_getElem? (i := 1430) (by decide +kernel))) rfl
theorem okX10_rootSpot : CokS yX10_rootSpot cX10_rootSpot 2 (some .int) 2 := ⟨⟨mw_1431, mw_12, by decide +kernel⟩, mw_1430⟩
theorem mw_1429 : Cond.methodLink RX10 291 yX10_rootSpot ∈ TT := TT_mem (List.mem_append_right _ (List.mem_of_getElem? (i := 1429) (by decide +kernel))) rfl
theorem mw_1421 : Cond.constantLong RX10 281 (2) ∈ TT := TT_mem (List.mem_append_right _ (List.mem_of_getElem? (i := 1421) (by decide +kernel))) rfl
theorem mw_1422 : Cond.constantLong RX10 283 (4) ∈ TT := TT_mem (List.mem_append_right _ (List.mem_of_getElem? (i := 1422) (by decide +kernel))) rfl
theorem mw_1423 : Cond.constantLong RX10 285 (999) ∈ TT := TT_mem (List.mem_append_right _ (List.mem_of_getElem? (i := 1423) (by decide +kernel))) rfl
theorem mw_1427 : Cond.code yX10_stopsLinking cX10_stopsLinking 6 (some .int) ∈ TT := TT_mem (List.mem_append_right _ (List.mem_of_getElem? (i := 1427) (by decide +kernel))) rfl
theorem mw_1426 : Cond.instanceMethod yX10_stopsLinking ∈ TT := TT_mem (List.mem_append_right _ (List.mem_of_getElem? (i := 1426) (by decide +kernel))) rfl
theorem okX10_stopsLinking : CokV yX10_stopsLinking cX10_stopsLinking 6 (some .int) 4 10 := ⟨⟨mw_1427, mw_12, by decide +kernel⟩, mw_1426, (TT_mem (List.mem_append_left _ (List.mem_of_getElem? (i := 57) (by decide +kernel))) rfl), ⟨_, rfl, rfl⟩⟩
theorem mw_1424 : Cond.methodLink RX10 287 yX10_stopsLinking ∈ TT := TT_mem (List.mem_append_right _ (List.mem_of_getElem? (i := 1424) (by decide +kernel))) rfl
theorem mw_1207 : Cond.fieldLink RX10 55 "NurseryHeapModel" "whole" "[I" ∈ TT := TT_mem (List.mem_append_right _ (List.mem_of_getElem? (i := 1207) (by decide +kernel))) rfl
theorem foX10_55 : Fok RX10 55 10 31 := ⟨RX10, TX10, 38, rfl, iw10, by decide, mw_1207⟩
theorem mw_1455 : Cond.code yX10_minors cX10_minors 4 (some .boolean) ∈ TT := TT_mem (List.mem_append_right _ (List.mem_of_getElem? (i := 1455) (by decide +kernel))) rfl
theorem mw_1454 : Cond.instanceMethod yX10_minors ∈ TT := TT_mem (List.mem_append_right _ (List.mem_of_getElem? (i := 1454) (by decide +kernel))) rfl
theorem okX10_minors : CokV yX10_minors cX10_minors 4 (some .boolean) 1 10 := ⟨⟨mw_1455, mw_12, by decide +kernel⟩, mw_1454, (TT_mem (List.mem_append_left _ (List.mem_of_getElem? (i := 60) (by decide +kernel))) rfl), ⟨_, rfl, rfl⟩⟩
theorem mw_1452 : Cond.methodLink RX10 311 yX10_minors ∈ TT := TT_mem (List.mem_append_right _ (List.mem_of_getElem? (i := 1452) (by decide +kernel))) rfl
theorem mw_1522 : Cond.code yX10_majors cX10_majors 5 none ∈ TT := TT_mem (List.mem_append_right _ (List.mem_of_getElem? (i := 1522) (by decide +kernel))) rfl
theorem mw_1521 : Cond.instanceMethod yX10_majors ∈ TT := TT_mem (List.mem_append_right _ (List.mem_of_getElem? (i := 1521) (by decide +kernel))) rfl
theorem okX10_majors : CokV yX10_majors cX10_majors 5 none 1 10 := ⟨⟨mw_1522, mw_12, by decide +kernel⟩, mw_1521, (TT_mem (List.mem_append_left _ (List.mem_of_getElem? (i := 70) (by decide +kernel))) rfl), ⟨_, rfl, rfl⟩⟩
theorem mw_1519 : Cond.methodLink RX10 315 yX10_majors ∈ TT := TT_mem (List.mem_append_right _ (List.mem_of_getElem? (i := 1519) (by decide +kernel))) rfl
theorem mw_1445 : Cond.code yX10_hasRoom cX10_hasRoom 3 (some .boolean) ∈ TT := TT_mem (List.mem_append_right _ (List.mem_of_getElem? (i := 1445) (by decide +kernel))) rfl
theorem mw_1444 : Cond.instanceMethod yX10_hasRoom ∈ TT := TT_mem (List.mem_append_right _ (List.mem_of_getElem? (i := 1444) (by decide +kernel))) rfl
theorem okX10_hasRoom : CokV yX10_hasRoom cX10_hasRoom 3 (some .boolean) 2 10 := ⟨⟨mw_1445, mw_12, by decide +kernel⟩, mw_1444, (TT_mem (List.mem_append_left _ (List.mem_of_getElem? (i := 59) (by decide +kernel))) rfl), ⟨_, rfl, rfl⟩⟩
theorem mw_1442 : Cond.methodLink RX10 321 yX10_hasRoom ∈ TT := TT_mem (List.mem_append_right _ (List.mem_of_getElem? (i := 1442) (by decide +kernel))) rfl
theorem mw_1206 : Cond.fieldLink RX10 300 "NurseryHeapModel" "logged" "I" ∈ TT := TT_mem (List.mem_append_right _ (List.mem_of_getElem? (i := 1206) (by decide +kernel))) rfl
theorem poX10_300 : Pok RX10 300 10 30 .int := ⟨RX10, TX10, 38, tyX10, rfl, iw10, by decide, mw_1206, tyX10_ok, nmX10, rfl, by decide +kernel⟩
theorem mw_1541 : Cond.code yX10_link cX10_link 2 (some .int) ∈ TT := TT_mem (List.mem_append_right _ (List.mem_of_getElem? (i := 1541) (by decide +kernel))) rfl
theorem mw_1540 : Cond.static yX10_link ∈ TT := TT_mem (List.mem_append_right _ (List.mem_of_getElem? (i := 1540) (by decide +kernel))) rfl
theorem okX10_link : CokS yX10_link cX10_link 2 (some .int) 2 := ⟨⟨mw_1541, mw_12, by decide +kernel⟩, mw_1540⟩
theorem mw_1539 : Cond.methodLink RX10 324 yX10_link ∈ TT := TT_mem (List.mem_append_right _ (List.mem_of_getElem? (i := 1539) (by decide +kernel))) rfl
theorem mw_1416 : Cond.code yX10_stops cX10_stops 7 (some .int) ∈ TT := TT_mem (List.mem_append_right _ (List.mem_of_getElem? (i := 1416) (by decide +kernel))) rfl
theorem mw_1415 : Cond.instanceMethod yX10_stops ∈ TT := TT_mem (List.mem_append_right _ (List.mem_of_getElem? (i := 1415) (by decide +kernel))) rfl
theorem okX10_stops : CokV yX10_stops cX10_stops 7 (some .int) 6 10 := ⟨⟨mw_1416, mw_12, by decide +kernel⟩, mw_1415, (TT_mem (List.mem_append_left _ (List.mem_of_getElem? (i := 55) (by decide +kernel))) rfl), ⟨_, rfl, rfl⟩⟩
theorem mw_1413 : Cond.methodLink RX10 296 yX10_stops ∈ TT := TT_mem (List.mem_append_right _ (List.mem_of_getElem? (i := 1413) (by decide +kernel))) rfl
theorem mw_1441 : Cond.code yX10_makes cX10_makes 9 (some .boolean) ∈ TT := TT_mem (List.mem_append_right _ (List.mem_of_getElem? (i := 1441) (by decide +kernel))) rfl
theorem mw_1440 : Cond.instanceMethod yX10_makes ∈ TT := TT_mem (List.mem_append_right _ (List.mem_of_getElem? (i := 1440) (by decide +kernel))) rfl
theorem okX10_makes : CokV yX10_makes cX10_makes 9 (some .boolean) 5 10 := ⟨⟨mw_1441, mw_12, by decide +kernel⟩, mw_1440, (TT_mem (List.mem_append_left _ (List.mem_of_getElem? (i := 58) (by decide +kernel))) rfl), ⟨_, rfl, rfl⟩⟩
theorem mw_1438 : Cond.methodLink RX10 303 yX10_makes ∈ TT := TT_mem (List.mem_append_right _ (List.mem_of_getElem? (i := 1438) (by decide +kernel))) rfl
theorem mw_1538 : Cond.code yX10_links cX10_links 6 none ∈ TT := TT_mem (List.mem_append_right _ (List.mem_of_getElem? (i := 1538) (by decide +kernel))) rfl
theorem mw_1537 : Cond.instanceMethod yX10_links ∈ TT := TT_mem (List.mem_append_right _ (List.mem_of_getElem? (i := 1537) (by decide +kernel))) rfl
theorem okX10_links : CokV yX10_links cX10_links 6 none 4 10 := ⟨⟨mw_1538, mw_12, by decide +kernel⟩, mw_1537, (TT_mem (List.mem_append_left _ (List.mem_of_getElem? (i := 74) (by decide +kernel))) rfl), ⟨_, rfl, rfl⟩⟩
theorem mw_1535 : Cond.methodLink RX10 307 yX10_links ∈ TT := TT_mem (List.mem_append_right _ (List.mem_of_getElem? (i := 1535) (by decide +kernel))) rfl
theorem mw_1545 : Cond.code yX10_tells cX10_tells 4 none ∈ TT := TT_mem (List.mem_append_right _ (List.mem_of_getElem? (i := 1545) (by decide +kernel))) rfl
theorem mw_1544 : Cond.instanceMethod yX10_tells ∈ TT := TT_mem (List.mem_append_right _ (List.mem_of_getElem? (i := 1544) (by decide +kernel))) rfl
theorem okX10_tells : CokV yX10_tells cX10_tells 4 none 2 10 := ⟨⟨mw_1545, mw_12, by decide +kernel⟩, mw_1544, (TT_mem (List.mem_append_left _ (List.mem_of_getElem? (i := 75) (by decide +kernel))) rfl), ⟨_, rfl, rfl⟩⟩
theorem mw_1542 : Cond.methodLink RX10 318 yX10_tells ∈ TT := TT_mem (List.mem_append_right _ (List.mem_of_getElem? (i := 1542) (by decide +kernel))) rfl
theorem foX10_161 : Fok RX10 161 10 18 := ⟨RX10, TX10, 38, rfl, iw10, by decide, mw_1194⟩
theorem mw_1189 : Cond.fieldLink RX10 32 "NurseryHeapModel" "trial" "[I" ∈ TT := TT_mem (List.mem_append_right _ (List.mem_of_getElem? (i := 1189) (by decide +kernel))) rfl
theorem foX10_32 : Fok RX10 32 10 13 := ⟨RX10, TX10, 38, rfl, iw10, by decide, mw_1189⟩
theorem mw_1192 : Cond.fieldLink RX10 42 "NurseryHeapModel" "kept" "[I" ∈ TT := TT_mem (List.mem_append_right _ (List.mem_of_getElem? (i := 1192) (by decide +kernel))) rfl
theorem foX10_42 : Fok RX10 42 10 16 := ⟨RX10, TX10, 38, rfl, iw10, by decide, mw_1192⟩
theorem mw_1193 : Cond.fieldLink RX10 328 "NurseryHeapModel" "first" "I" ∈ TT := TT_mem (List.mem_append_right _ (List.mem_of_getElem? (i := 1193) (by decide +kernel))) rfl
theorem foX10_328 : Fok RX10 328 10 17 := ⟨RX10, TX10, 38, rfl, iw10, by decide, mw_1193⟩
theorem poX10_328 : Pok RX10 328 10 17 .int := ⟨RX10, TX10, 38, tyX10, rfl, iw10, by decide, mw_1193, tyX10_ok, nmX10, rfl, by decide +kernel⟩
theorem foX10_300 : Fok RX10 300 10 30 := ⟨RX10, TX10, 38, rfl, iw10, by decide, mw_1206⟩
theorem mw_1556 : Cond.code yX10_cells cX10_cells 1 (some .int) ∈ TT := TT_mem (List.mem_append_right _ (List.mem_of_getElem? (i := 1556) (by decide +kernel))) rfl
theorem mw_1555 : Cond.static yX10_cells ∈ TT := TT_mem (List.mem_append_right _ (List.mem_of_getElem? (i := 1555) (by decide +kernel))) rfl
theorem okX10_cells : CokS yX10_cells cX10_cells 1 (some .int) 1 := ⟨⟨mw_1556, mw_12, by decide +kernel⟩, mw_1555⟩
theorem mw_1554 : Cond.methodLink RX10 331 yX10_cells ∈ TT := TT_mem (List.mem_append_right _ (List.mem_of_getElem? (i := 1554) (by decide +kernel))) rfl
theorem mw_1412 : Cond.code yX10_does cX10_does 9 (some .int) ∈ TT := TT_mem (List.mem_append_right _ (List.mem_of_getElem? (i := 1412) (by decide +kernel))) rfl
theorem mw_1411 : Cond.instanceMethod yX10_does ∈ TT := TT_mem (List.mem_append_right _ (List.mem_of_getElem? (i := 1411) (by decide +kernel))) rfl
theorem okX10_does : CokV yX10_does cX10_does 9 (some .int) 6 10 := ⟨⟨mw_1412, mw_12, by decide +kernel⟩, mw_1411, (TT_mem (List.mem_append_left _ (List.mem_of_getElem? (i := 54) (by decide +kernel))) rfl), ⟨_, rfl, rfl⟩⟩
theorem mw_1409 : Cond.methodLink RX10 335 yX10_does ∈ TT := TT_mem (List.mem_append_right _ (List.mem_of_getElem? (i := 1409) (by decide +kernel))) rfl
theorem mw_1549 : Cond.code yX10_remember cX10_remember 1 none ∈ TT := TT_mem (List.mem_append_right _ (List.mem_of_getElem? (i := 1549) (by decide +kernel))) rfl
theorem mw_1548 : Cond.instanceMethod yX10_remember ∈ TT := TT_mem (List.mem_append_right _ (List.mem_of_getElem? (i := 1548) (by decide +kernel))) rfl
theorem okX10_remember : CokV yX10_remember cX10_remember 1 none 0 10 := ⟨⟨mw_1549, mw_12, by decide +kernel⟩, mw_1548, (TT_mem (List.mem_append_left _ (List.mem_of_getElem? (i := 76) (by decide +kernel))) rfl), ⟨_, rfl, rfl⟩⟩
theorem mw_1546 : Cond.methodLink RX10 338 yX10_remember ∈ TT := TT_mem (List.mem_append_right _ (List.mem_of_getElem? (i := 1546) (by decide +kernel))) rfl
theorem mw_1553 : Cond.code yX10_notes cX10_notes 3 none ∈ TT := TT_mem (List.mem_append_right _ (List.mem_of_getElem? (i := 1553) (by decide +kernel))) rfl
theorem mw_1552 : Cond.instanceMethod yX10_notes ∈ TT := TT_mem (List.mem_append_right _ (List.mem_of_getElem? (i := 1552) (by decide +kernel))) rfl
theorem okX10_notes : CokV yX10_notes cX10_notes 3 none 1 10 := ⟨⟨mw_1553, mw_12, by decide +kernel⟩, mw_1552, (TT_mem (List.mem_append_left _ (List.mem_of_getElem? (i := 77) (by decide +kernel))) rfl), ⟨_, rfl, rfl⟩⟩
theorem mw_1550 : Cond.methodLink RX10 341 yX10_notes ∈ TT := TT_mem (List.mem_append_right _ (List.mem_of_getElem? (i := 1550) (by decide +kernel))) rfl
theorem mw_1405 : Cond.code yX10_tries cX10_tries 7 (some .int) ∈ TT := TT_mem (List.mem_append_right _ (List.mem_of_getElem? (i := 1405) (by decide +kernel))) rfl
theorem mw_1404 : Cond.instanceMethod yX10_tries ∈ TT := TT_mem (List.mem_append_right _ (List.mem_of_getElem? (i := 1404) (by decide +kernel))) rfl
theorem okX10_tries : CokV yX10_tries cX10_tries 7 (some .int) 5 10 := ⟨⟨mw_1405, mw_12, by decide +kernel⟩, mw_1404, (TT_mem (List.mem_append_left _ (List.mem_of_getElem? (i := 53) (by decide +kernel))) rfl), ⟨_, rfl, rfl⟩⟩
theorem mw_1402 : Cond.methodLink RX10 344 yX10_tries ∈ TT := TT_mem (List.mem_append_right _ (List.mem_of_getElem? (i := 1402) (by decide +kernel))) rfl
theorem mw_1183 : Cond.fieldLink RX10 20 "NurseryHeapModel" "status" "[I" ∈ TT := TT_mem (List.mem_append_right _ (List.mem_of_getElem? (i := 1183) (by decide +kernel))) rfl
theorem foX10_20 : Fok RX10 20 10 7 := ⟨RX10, TX10, 38, rfl, iw10, by decide, mw_1183⟩
theorem mw_1401 : Cond.code yX10_act cX10_act 7 (some .int) ∈ TT := TT_mem (List.mem_append_right _ (List.mem_of_getElem? (i := 1401) (by decide +kernel))) rfl
theorem mw_1400 : Cond.instanceMethod yX10_act ∈ TT := TT_mem (List.mem_append_right _ (List.mem_of_getElem? (i := 1400) (by decide +kernel))) rfl
theorem okX10_act : CokV yX10_act cX10_act 7 (some .int) 5 10 := ⟨⟨mw_1401, mw_12, by decide +kernel⟩, mw_1400, (TT_mem (List.mem_append_left _ (List.mem_of_getElem? (i := 52) (by decide +kernel))) rfl), ⟨_, rfl, rfl⟩⟩
theorem mw_1398 : Cond.methodLink RX10 348 yX10_act ∈ TT := TT_mem (List.mem_append_right _ (List.mem_of_getElem? (i := 1398) (by decide +kernel))) rfl
theorem mw_1208 : Cond.fieldLink RX10 351 "NurseryHeapModel" "x" "J" ∈ TT := TT_mem (List.mem_append_right _ (List.mem_of_getElem? (i := 1208) (by decide +kernel))) rfl
theorem foX10_351 : Fok RX10 351 10 32 := ⟨RX10, TX10, 38, rfl, iw10, by decide, mw_1208⟩
theorem mw_1598 : Cond.constantLong RX10 355 (6364136223846793005) ∈ TT := TT_mem (List.mem_append_right _ (List.mem_of_getElem? (i := 1598) (by decide +kernel))) rfl
theorem mw_1599 : Cond.constantLong RX10 357 (1442695040888963407) ∈ TT := TT_mem (List.mem_append_right _ (List.mem_of_getElem? (i := 1599) (by decide +kernel))) rfl
theorem poX10_351 : Pok RX10 351 10 32 .long := ⟨RX10, TX10, 38, tyX10, rfl, iw10, by decide, mw_1208, tyX10_ok, nmX10, rfl, by decide +kernel⟩
theorem mw_1597 : Cond.code yX10_draw cX10_draw 2 (some .int) ∈ TT := TT_mem (List.mem_append_right _ (List.mem_of_getElem? (i := 1597) (by decide +kernel))) rfl
theorem mw_1596 : Cond.instanceMethod yX10_draw ∈ TT := TT_mem (List.mem_append_right _ (List.mem_of_getElem? (i := 1596) (by decide +kernel))) rfl
theorem okX10_draw : CokV yX10_draw cX10_draw 2 (some .int) 1 10 := ⟨⟨mw_1597, mw_12, by decide +kernel⟩, mw_1596, (TT_mem (List.mem_append_left _ (List.mem_of_getElem? (i := 79) (by decide +kernel))) rfl), ⟨_, rfl, rfl⟩⟩
theorem mw_1594 : Cond.methodLink RX10 359 yX10_draw ∈ TT := TT_mem (List.mem_append_right _ (List.mem_of_getElem? (i := 1594) (by decide +kernel))) rfl
theorem mw_1589 : Cond.constantLong RX10 362 (40) ∈ TT := TT_mem (List.mem_append_right _ (List.mem_of_getElem? (i := 1589) (by decide +kernel))) rfl
theorem mw_1593 : Cond.code yX10_happens cX10_happens 5 (some .int) ∈ TT := TT_mem (List.mem_append_right _ (List.mem_of_getElem? (i := 1593) (by decide +kernel))) rfl
theorem mw_1592 : Cond.instanceMethod yX10_happens ∈ TT := TT_mem (List.mem_append_right _ (List.mem_of_getElem? (i := 1592) (by decide +kernel))) rfl
theorem okX10_happens : CokV yX10_happens cX10_happens 5 (some .int) 0 10 := ⟨⟨mw_1593, mw_12, by decide +kernel⟩, mw_1592, (TT_mem (List.mem_append_left _ (List.mem_of_getElem? (i := 78) (by decide +kernel))) rfl), ⟨_, rfl, rfl⟩⟩
theorem mw_1590 : Cond.methodLink RX10 364 yX10_happens ∈ TT := TT_mem (List.mem_append_right _ (List.mem_of_getElem? (i := 1590) (by decide +kernel))) rfl
theorem mw_1604 : Cond.constantLong RX10 367 (3) ∈ TT := TT_mem (List.mem_append_right _ (List.mem_of_getElem? (i := 1604) (by decide +kernel))) rfl
theorem mw_1613 : Cond.constant RX10 369 (-1000000) ∈ TT := TT_mem (List.mem_append_right _ (List.mem_of_getElem? (i := 1613) (by decide +kernel))) rfl
theorem mw_1191 : Cond.fieldLink RX10 38 "NurseryHeapModel" "image" "[I" ∈ TT := TT_mem (List.mem_append_right _ (List.mem_of_getElem? (i := 1191) (by decide +kernel))) rfl
theorem foX10_38 : Fok RX10 38 10 15 := ⟨RX10, TX10, 38, rfl, iw10, by decide, mw_1191⟩
theorem foX10_164 : Fok RX10 164 10 19 := ⟨RX10, TX10, 38, rfl, iw10, by decide, mw_1195⟩
theorem mw_1634 : Cond.constantLong RX10 370 (7) ∈ TT := TT_mem (List.mem_append_right _ (List.mem_of_getElem? (i := 1634) (by decide +kernel))) rfl
theorem mw_1638 : Cond.code yX10_isEnding cX10_isEnding 3 (some .boolean) ∈ TT := TT_mem (List.mem_append_right _ (List.mem_of_getElem? (i := 1638) (by decide +kernel))) rfl
theorem mw_1637 : Cond.instanceMethod yX10_isEnding ∈ TT := TT_mem (List.mem_append_right _ (List.mem_of_getElem? (i := 1637) (by decide +kernel))) rfl
theorem okX10_isEnding : CokV yX10_isEnding cX10_isEnding 3 (some .boolean) 1 10 := ⟨⟨mw_1638, mw_12, by decide +kernel⟩, mw_1637, (TT_mem (List.mem_append_left _ (List.mem_of_getElem? (i := 80) (by decide +kernel))) rfl), ⟨_, rfl, rfl⟩⟩
theorem mw_1635 : Cond.methodLink RX10 372 yX10_isEnding ∈ TT := TT_mem (List.mem_append_right _ (List.mem_of_getElem? (i := 1635) (by decide +kernel))) rfl
theorem mw_1209 : Cond.fieldLink RX10 58 "NurseryHeapModel" "by" "[I" ∈ TT := TT_mem (List.mem_append_right _ (List.mem_of_getElem? (i := 1209) (by decide +kernel))) rfl
theorem foX10_58 : Fok RX10 58 10 33 := ⟨RX10, TX10, 38, rfl, iw10, by decide, mw_1209⟩
theorem mw_1210 : Cond.fieldLink RX10 61 "NurseryHeapModel" "field" "[I" ∈ TT := TT_mem (List.mem_append_right _ (List.mem_of_getElem? (i := 1210) (by decide +kernel))) rfl
theorem foX10_61 : Fok RX10 61 10 34 := ⟨RX10, TX10, 38, rfl, iw10, by decide, mw_1210⟩
theorem mw_1211 : Cond.fieldLink RX10 64 "NurseryHeapModel" "far" "[I" ∈ TT := TT_mem (List.mem_append_right _ (List.mem_of_getElem? (i := 1211) (by decide +kernel))) rfl
theorem foX10_64 : Fok RX10 64 10 35 := ⟨RX10, TX10, 38, rfl, iw10, by decide, mw_1211⟩
theorem mw_1670 : Cond.code yX10_walksOn cX10_walksOn 5 none ∈ TT := TT_mem (List.mem_append_right _ (List.mem_of_getElem? (i := 1670) (by decide +kernel))) rfl
theorem mw_1669 : Cond.instanceMethod yX10_walksOn ∈ TT := TT_mem (List.mem_append_right _ (List.mem_of_getElem? (i := 1669) (by decide +kernel))) rfl
theorem okX10_walksOn : CokV yX10_walksOn cX10_walksOn 5 none 0 10 := ⟨⟨mw_1670, mw_12, by decide +kernel⟩, mw_1669, (TT_mem (List.mem_append_left _ (List.mem_of_getElem? (i := 82) (by decide +kernel))) rfl), ⟨_, rfl, rfl⟩⟩
theorem mw_1667 : Cond.methodLink RX10 375 yX10_walksOn ∈ TT := TT_mem (List.mem_append_right _ (List.mem_of_getElem? (i := 1667) (by decide +kernel))) rfl
theorem mw_1666 : Cond.code yX10_walks cX10_walks 3 none ∈ TT := TT_mem (List.mem_append_right _ (List.mem_of_getElem? (i := 1666) (by decide +kernel))) rfl
theorem mw_1665 : Cond.instanceMethod yX10_walks ∈ TT := TT_mem (List.mem_append_right _ (List.mem_of_getElem? (i := 1665) (by decide +kernel))) rfl
theorem okX10_walks : CokV yX10_walks cX10_walks 3 none 0 10 := ⟨⟨mw_1666, mw_12, by decide +kernel⟩, mw_1665, (TT_mem (List.mem_append_left _ (List.mem_of_getElem? (i := 81) (by decide +kernel))) rfl), ⟨_, rfl, rfl⟩⟩
theorem mw_1663 : Cond.methodLink RX10 378 yX10_walks ∈ TT := TT_mem (List.mem_append_right _ (List.mem_of_getElem? (i := 1663) (by decide +kernel))) rfl
theorem mw_1678 : Cond.code yX10_metCells cX10_metCells 3 (some .int) ∈ TT := TT_mem (List.mem_append_right _ (List.mem_of_getElem? (i := 1678) (by decide +kernel))) rfl
theorem mw_1677 : Cond.instanceMethod yX10_metCells ∈ TT := TT_mem (List.mem_append_right _ (List.mem_of_getElem? (i := 1677) (by decide +kernel))) rfl
theorem okX10_metCells : CokV yX10_metCells cX10_metCells 3 (some .int) 0 10 := ⟨⟨mw_1678, mw_12, by decide +kernel⟩, mw_1677, (TT_mem (List.mem_append_left _ (List.mem_of_getElem? (i := 83) (by decide +kernel))) rfl), ⟨_, rfl, rfl⟩⟩
theorem mw_1675 : Cond.methodLink RX10 381 yX10_metCells ∈ TT := TT_mem (List.mem_append_right _ (List.mem_of_getElem? (i := 1675) (by decide +kernel))) rfl
theorem mw_1212 : Cond.fieldLink RX10 67 "NurseryHeapModel" "beside" "[I" ∈ TT := TT_mem (List.mem_append_right _ (List.mem_of_getElem? (i := 1212) (by decide +kernel))) rfl
theorem foX10_67 : Fok RX10 67 10 36 := ⟨RX10, TX10, 38, rfl, iw10, by decide, mw_1212⟩
theorem mw_1213 : Cond.fieldLink RX10 70 "NurseryHeapModel" "other" "[I" ∈ TT := TT_mem (List.mem_append_right _ (List.mem_of_getElem? (i := 1213) (by decide +kernel))) rfl
theorem foX10_70 : Fok RX10 70 10 37 := ⟨RX10, TX10, 38, rfl, iw10, by decide, mw_1213⟩
theorem mw_1698 : Cond.code yX10_areSet cX10_areSet 3 (some .boolean) ∈ TT := TT_mem (List.mem_append_right _ (List.mem_of_getElem? (i := 1698) (by decide +kernel))) rfl
theorem mw_1697 : Cond.instanceMethod yX10_areSet ∈ TT := TT_mem (List.mem_append_right _ (List.mem_of_getElem? (i := 1697) (by decide +kernel))) rfl
theorem okX10_areSet : CokV yX10_areSet cX10_areSet 3 (some .boolean) 2 10 := ⟨⟨mw_1698, mw_12, by decide +kernel⟩, mw_1697, (TT_mem (List.mem_append_left _ (List.mem_of_getElem? (i := 84) (by decide +kernel))) rfl), ⟨_, rfl, rfl⟩⟩
theorem mw_1695 : Cond.methodLink RX10 384 yX10_areSet ∈ TT := TT_mem (List.mem_append_right _ (List.mem_of_getElem? (i := 1695) (by decide +kernel))) rfl
theorem mw_1714 : Cond.code yX10_isScript cX10_isScript 2 (some .boolean) ∈ TT := TT_mem (List.mem_append_right _ (List.mem_of_getElem? (i := 1714) (by decide +kernel))) rfl
theorem mw_1713 : Cond.instanceMethod yX10_isScript ∈ TT := TT_mem (List.mem_append_right _ (List.mem_of_getElem? (i := 1713) (by decide +kernel))) rfl
theorem okX10_isScript : CokV yX10_isScript cX10_isScript 2 (some .boolean) 1 10 := ⟨⟨mw_1714, mw_12, by decide +kernel⟩, mw_1713, (TT_mem (List.mem_append_left _ (List.mem_of_getElem? (i := 85) (by decide +kernel))) rfl), ⟨_, rfl, rfl⟩⟩
theorem mw_1711 : Cond.methodLink RX10 387 yX10_isScript ∈ TT := TT_mem (List.mem_append_right _ (List.mem_of_getElem? (i := 1711) (by decide +kernel))) rfl
theorem mw_1730 : Cond.code yX10_reached cX10_reached 1 (some .int) ∈ TT := TT_mem (List.mem_append_right _ (List.mem_of_getElem? (i := 1730) (by decide +kernel))) rfl
theorem mw_1729 : Cond.instanceMethod yX10_reached ∈ TT := TT_mem (List.mem_append_right _ (List.mem_of_getElem? (i := 1729) (by decide +kernel))) rfl
theorem okX10_reached : CokV yX10_reached cX10_reached 1 (some .int) 0 10 := ⟨⟨mw_1730, mw_12, by decide +kernel⟩, mw_1729, (TT_mem (List.mem_append_left _ (List.mem_of_getElem? (i := 86) (by decide +kernel))) rfl), ⟨_, rfl, rfl⟩⟩
theorem mw_1727 : Cond.methodLink RX10 390 yX10_reached ∈ TT := TT_mem (List.mem_append_right _ (List.mem_of_getElem? (i := 1727) (by decide +kernel))) rfl
theorem mw_1734 : Cond.code yX10_oldest cX10_oldest 3 (some .int) ∈ TT := TT_mem (List.mem_append_right _ (List.mem_of_getElem? (i := 1734) (by decide +kernel))) rfl
theorem mw_1733 : Cond.instanceMethod yX10_oldest ∈ TT := TT_mem (List.mem_append_right _ (List.mem_of_getElem? (i := 1733) (by decide +kernel))) rfl
theorem okX10_oldest : CokV yX10_oldest cX10_oldest 3 (some .int) 0 10 := ⟨⟨mw_1734, mw_12, by decide +kernel⟩, mw_1733, (TT_mem (List.mem_append_left _ (List.mem_of_getElem? (i := 87) (by decide +kernel))) rfl), ⟨_, rfl, rfl⟩⟩
theorem mw_1731 : Cond.methodLink RX10 393 yX10_oldest ∈ TT := TT_mem (List.mem_append_right _ (List.mem_of_getElem? (i := 1731) (by decide +kernel))) rfl
theorem mw_1738 : Cond.code yX10_linked cX10_linked 3 (some .int) ∈ TT := TT_mem (List.mem_append_right _ (List.mem_of_getElem? (i := 1738) (by decide +kernel))) rfl
theorem mw_1737 : Cond.instanceMethod yX10_linked ∈ TT := TT_mem (List.mem_append_right _ (List.mem_of_getElem? (i := 1737) (by decide +kernel))) rfl
theorem okX10_linked : CokV yX10_linked cX10_linked 3 (some .int) 0 10 := ⟨⟨mw_1738, mw_12, by decide +kernel⟩, mw_1737, (TT_mem (List.mem_append_left _ (List.mem_of_getElem? (i := 88) (by decide +kernel))) rfl), ⟨_, rfl, rfl⟩⟩
theorem mw_1735 : Cond.methodLink RX10 396 yX10_linked ∈ TT := TT_mem (List.mem_append_right _ (List.mem_of_getElem? (i := 1735) (by decide +kernel))) rfl
theorem mw_1739 : Cond.constantLong RX10 399 (5) ∈ TT := TT_mem (List.mem_append_right _ (List.mem_of_getElem? (i := 1739) (by decide +kernel))) rfl
theorem mw_1740 : Cond.constantLong RX10 401 (12) ∈ TT := TT_mem (List.mem_append_right _ (List.mem_of_getElem? (i := 1740) (by decide +kernel))) rfl
