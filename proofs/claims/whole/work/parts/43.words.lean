theorem mw_375 : Cond.methodLink RL 19 yX9_feed ∈ TT := TT_mem (List.mem_append_right _ (List.mem_of_getElem? (i := 375) (by decide +kernel))) rfl
theorem mw_378 : Cond.code yX9_feed cX9_feed 7 (some .int) ∈ TT := TT_mem (List.mem_append_right _ (List.mem_of_getElem? (i := 378) (by decide +kernel))) rfl
theorem mw_376 : Cond.instanceMethod yX9_feed ∈ TT := TT_mem (List.mem_append_right _ (List.mem_of_getElem? (i := 376) (by decide +kernel))) rfl
theorem mw_377 : Cond.selects yX9_feed.cls yX9_feed yX9_feed ∈ TT := TT_mem (List.mem_append_right _ (List.mem_of_getElem? (i := 377) (by decide +kernel))) rfl
theorem okX9_feed : CokV yX9_feed cX9_feed 7 (some .int) 5 9 := ⟨⟨mw_378, mw_1, by decide +kernel⟩, mw_376, mw_377, ⟨_, rfl, rfl⟩⟩
theorem mw_1296 : Cond.methodLink RL 23 yX10_feed ∈ TT := TT_mem (List.mem_append_right _ (List.mem_of_getElem? (i := 1296) (by decide +kernel))) rfl
theorem mw_1299 : Cond.code yX10_feed cX10_feed 6 (some .int) ∈ TT := TT_mem (List.mem_append_right _ (List.mem_of_getElem? (i := 1299) (by decide +kernel))) rfl
theorem mw_1297 : Cond.instanceMethod yX10_feed ∈ TT := TT_mem (List.mem_append_right _ (List.mem_of_getElem? (i := 1297) (by decide +kernel))) rfl
theorem mw_1298 : Cond.selects yX10_feed.cls yX10_feed yX10_feed ∈ TT := TT_mem (List.mem_append_right _ (List.mem_of_getElem? (i := 1298) (by decide +kernel))) rfl
theorem okX10_feed : CokV yX10_feed cX10_feed 6 (some .int) 5 10 := ⟨⟨mw_1299, mw_12, by decide +kernel⟩, mw_1297, mw_1298, ⟨_, rfl, rfl⟩⟩
theorem mw_386 : Cond.methodLink RL 24 yX9_end ∈ TT := TT_mem (List.mem_append_right _ (List.mem_of_getElem? (i := 386) (by decide +kernel))) rfl
theorem mw_389 : Cond.code yX9_end cX9_end 2 (some .boolean) ∈ TT := TT_mem (List.mem_append_right _ (List.mem_of_getElem? (i := 389) (by decide +kernel))) rfl
theorem mw_387 : Cond.instanceMethod yX9_end ∈ TT := TT_mem (List.mem_append_right _ (List.mem_of_getElem? (i := 387) (by decide +kernel))) rfl
theorem mw_388 : Cond.selects yX9_end.cls yX9_end yX9_end ∈ TT := TT_mem (List.mem_append_right _ (List.mem_of_getElem? (i := 388) (by decide +kernel))) rfl
theorem okX9_end : CokV yX9_end cX9_end 2 (some .boolean) 1 9 := ⟨⟨mw_389, mw_1, by decide +kernel⟩, mw_387, mw_388, ⟨_, rfl, rfl⟩⟩
theorem mw_1307 : Cond.methodLink RL 28 yX10_end ∈ TT := TT_mem (List.mem_append_right _ (List.mem_of_getElem? (i := 1307) (by decide +kernel))) rfl
theorem mw_1310 : Cond.code yX10_end cX10_end 2 (some .boolean) ∈ TT := TT_mem (List.mem_append_right _ (List.mem_of_getElem? (i := 1310) (by decide +kernel))) rfl
theorem mw_1308 : Cond.instanceMethod yX10_end ∈ TT := TT_mem (List.mem_append_right _ (List.mem_of_getElem? (i := 1308) (by decide +kernel))) rfl
theorem mw_1309 : Cond.selects yX10_end.cls yX10_end yX10_end ∈ TT := TT_mem (List.mem_append_right _ (List.mem_of_getElem? (i := 1309) (by decide +kernel))) rfl
theorem okX10_end : CokV yX10_end cX10_end 2 (some .boolean) 1 10 := ⟨⟨mw_1310, mw_12, by decide +kernel⟩, mw_1308, mw_1309, ⟨_, rfl, rfl⟩⟩
theorem mw_390 : Cond.methodLink RL 29 yX9_fault ∈ TT := TT_mem (List.mem_append_right _ (List.mem_of_getElem? (i := 390) (by decide +kernel))) rfl
theorem mw_393 : Cond.code yX9_fault cX9_fault 2 (some .int) ∈ TT := TT_mem (List.mem_append_right _ (List.mem_of_getElem? (i := 393) (by decide +kernel))) rfl
theorem mw_391 : Cond.instanceMethod yX9_fault ∈ TT := TT_mem (List.mem_append_right _ (List.mem_of_getElem? (i := 391) (by decide +kernel))) rfl
theorem mw_392 : Cond.selects yX9_fault.cls yX9_fault yX9_fault ∈ TT := TT_mem (List.mem_append_right _ (List.mem_of_getElem? (i := 392) (by decide +kernel))) rfl
theorem okX9_fault : CokV yX9_fault cX9_fault 2 (some .int) 1 9 := ⟨⟨mw_393, mw_1, by decide +kernel⟩, mw_391, mw_392, ⟨_, rfl, rfl⟩⟩
theorem mw_1311 : Cond.methodLink RL 33 yX10_fault ∈ TT := TT_mem (List.mem_append_right _ (List.mem_of_getElem? (i := 1311) (by decide +kernel))) rfl
theorem mw_523 : Cond.methodLink RL 34 yX9_text ∈ TT := TT_mem (List.mem_append_right _ (List.mem_of_getElem? (i := 523) (by decide +kernel))) rfl
theorem mw_526 : Cond.code yX9_text cX9_text 2 (some .int) ∈ TT := TT_mem (List.mem_append_right _ (List.mem_of_getElem? (i := 526) (by decide +kernel))) rfl
theorem mw_524 : Cond.instanceMethod yX9_text ∈ TT := TT_mem (List.mem_append_right _ (List.mem_of_getElem? (i := 524) (by decide +kernel))) rfl
theorem mw_525 : Cond.selects yX9_text.cls yX9_text yX9_text ∈ TT := TT_mem (List.mem_append_right _ (List.mem_of_getElem? (i := 525) (by decide +kernel))) rfl
theorem okX9_text : CokV yX9_text cX9_text 2 (some .int) 1 9 := ⟨⟨mw_526, mw_1, by decide +kernel⟩, mw_524, mw_525, ⟨_, rfl, rfl⟩⟩
theorem mw_1389 : Cond.methodLink RL 37 yX10_text ∈ TT := TT_mem (List.mem_append_right _ (List.mem_of_getElem? (i := 1389) (by decide +kernel))) rfl
theorem mw_1392 : Cond.code yX10_text cX10_text 4 (some .int) ∈ TT := TT_mem (List.mem_append_right _ (List.mem_of_getElem? (i := 1392) (by decide +kernel))) rfl
theorem mw_1390 : Cond.instanceMethod yX10_text ∈ TT := TT_mem (List.mem_append_right _ (List.mem_of_getElem? (i := 1390) (by decide +kernel))) rfl
theorem mw_1391 : Cond.selects yX10_text.cls yX10_text yX10_text ∈ TT := TT_mem (List.mem_append_right _ (List.mem_of_getElem? (i := 1391) (by decide +kernel))) rfl
theorem okX10_text : CokV yX10_text cX10_text 4 (some .int) 1 10 := ⟨⟨mw_1392, mw_12, by decide +kernel⟩, mw_1390, mw_1391, ⟨_, rfl, rfl⟩⟩
theorem mw_540 : Cond.methodLink RL 38 yX9_rule ∈ TT := TT_mem (List.mem_append_right _ (List.mem_of_getElem? (i := 540) (by decide +kernel))) rfl
theorem mw_543 : Cond.code yX9_rule cX9_rule 2 (some .int) ∈ TT := TT_mem (List.mem_append_right _ (List.mem_of_getElem? (i := 543) (by decide +kernel))) rfl
theorem mw_541 : Cond.instanceMethod yX9_rule ∈ TT := TT_mem (List.mem_append_right _ (List.mem_of_getElem? (i := 541) (by decide +kernel))) rfl
theorem mw_542 : Cond.selects yX9_rule.cls yX9_rule yX9_rule ∈ TT := TT_mem (List.mem_append_right _ (List.mem_of_getElem? (i := 542) (by decide +kernel))) rfl
theorem okX9_rule : CokV yX9_rule cX9_rule 2 (some .int) 1 9 := ⟨⟨mw_543, mw_1, by decide +kernel⟩, mw_541, mw_542, ⟨_, rfl, rfl⟩⟩
theorem mw_1622 : Cond.methodLink RL 41 yX10_rule ∈ TT := TT_mem (List.mem_append_right _ (List.mem_of_getElem? (i := 1622) (by decide +kernel))) rfl
theorem mw_1625 : Cond.code yX10_rule cX10_rule 2 (some .int) ∈ TT := TT_mem (List.mem_append_right _ (List.mem_of_getElem? (i := 1625) (by decide +kernel))) rfl
theorem mw_1623 : Cond.instanceMethod yX10_rule ∈ TT := TT_mem (List.mem_append_right _ (List.mem_of_getElem? (i := 1623) (by decide +kernel))) rfl
theorem mw_1624 : Cond.selects yX10_rule.cls yX10_rule yX10_rule ∈ TT := TT_mem (List.mem_append_right _ (List.mem_of_getElem? (i := 1624) (by decide +kernel))) rfl
theorem okX10_rule : CokV yX10_rule cX10_rule 2 (some .int) 1 10 := ⟨⟨mw_1625, mw_12, by decide +kernel⟩, mw_1623, mw_1624, ⟨_, rfl, rfl⟩⟩
theorem mw_544 : Cond.methodLink RL 42 yX9_root ∈ TT := TT_mem (List.mem_append_right _ (List.mem_of_getElem? (i := 544) (by decide +kernel))) rfl
theorem mw_547 : Cond.code yX9_root cX9_root 2 (some .int) ∈ TT := TT_mem (List.mem_append_right _ (List.mem_of_getElem? (i := 547) (by decide +kernel))) rfl
theorem mw_545 : Cond.instanceMethod yX9_root ∈ TT := TT_mem (List.mem_append_right _ (List.mem_of_getElem? (i := 545) (by decide +kernel))) rfl
theorem mw_546 : Cond.selects yX9_root.cls yX9_root yX9_root ∈ TT := TT_mem (List.mem_append_right _ (List.mem_of_getElem? (i := 546) (by decide +kernel))) rfl
theorem okX9_root : CokV yX9_root cX9_root 2 (some .int) 1 9 := ⟨⟨mw_547, mw_1, by decide +kernel⟩, mw_545, mw_546, ⟨_, rfl, rfl⟩⟩
theorem mw_1626 : Cond.methodLink RL 45 yX10_root ∈ TT := TT_mem (List.mem_append_right _ (List.mem_of_getElem? (i := 1626) (by decide +kernel))) rfl
theorem mw_1629 : Cond.code yX10_root cX10_root 2 (some .int) ∈ TT := TT_mem (List.mem_append_right _ (List.mem_of_getElem? (i := 1629) (by decide +kernel))) rfl
theorem mw_1627 : Cond.instanceMethod yX10_root ∈ TT := TT_mem (List.mem_append_right _ (List.mem_of_getElem? (i := 1627) (by decide +kernel))) rfl
theorem mw_1628 : Cond.selects yX10_root.cls yX10_root yX10_root ∈ TT := TT_mem (List.mem_append_right _ (List.mem_of_getElem? (i := 1628) (by decide +kernel))) rfl
theorem okX10_root : CokV yX10_root cX10_root 2 (some .int) 1 10 := ⟨⟨mw_1629, mw_12, by decide +kernel⟩, mw_1627, mw_1628, ⟨_, rfl, rfl⟩⟩
theorem mw_559 : Cond.methodLink RL 56 yX9_field ∈ TT := TT_mem (List.mem_append_right _ (List.mem_of_getElem? (i := 559) (by decide +kernel))) rfl
theorem mw_562 : Cond.code yX9_field cX9_field 4 (some .int) ∈ TT := TT_mem (List.mem_append_right _ (List.mem_of_getElem? (i := 562) (by decide +kernel))) rfl
theorem mw_560 : Cond.instanceMethod yX9_field ∈ TT := TT_mem (List.mem_append_right _ (List.mem_of_getElem? (i := 560) (by decide +kernel))) rfl
theorem mw_561 : Cond.selects yX9_field.cls yX9_field yX9_field ∈ TT := TT_mem (List.mem_append_right _ (List.mem_of_getElem? (i := 561) (by decide +kernel))) rfl
theorem okX9_field : CokV yX9_field cX9_field 4 (some .int) 2 9 := ⟨⟨mw_562, mw_1, by decide +kernel⟩, mw_560, mw_561, ⟨_, rfl, rfl⟩⟩
theorem mw_1639 : Cond.methodLink RL 59 yX10_field ∈ TT := TT_mem (List.mem_append_right _ (List.mem_of_getElem? (i := 1639) (by decide +kernel))) rfl
theorem mw_1642 : Cond.code yX10_field cX10_field 4 (some .int) ∈ TT := TT_mem (List.mem_append_right _ (List.mem_of_getElem? (i := 1642) (by decide +kernel))) rfl
theorem mw_1640 : Cond.instanceMethod yX10_field ∈ TT := TT_mem (List.mem_append_right _ (List.mem_of_getElem? (i := 1640) (by decide +kernel))) rfl
theorem mw_1641 : Cond.selects yX10_field.cls yX10_field yX10_field ∈ TT := TT_mem (List.mem_append_right _ (List.mem_of_getElem? (i := 1641) (by decide +kernel))) rfl
theorem okX10_field : CokV yX10_field cX10_field 4 (some .int) 2 10 := ⟨⟨mw_1642, mw_12, by decide +kernel⟩, mw_1640, mw_1641, ⟨_, rfl, rfl⟩⟩
theorem mw_575 : Cond.methodLink RL 60 yX9_at ∈ TT := TT_mem (List.mem_append_right _ (List.mem_of_getElem? (i := 575) (by decide +kernel))) rfl
theorem mw_578 : Cond.code yX9_at cX9_at 4 (some .int) ∈ TT := TT_mem (List.mem_append_right _ (List.mem_of_getElem? (i := 578) (by decide +kernel))) rfl
theorem mw_576 : Cond.instanceMethod yX9_at ∈ TT := TT_mem (List.mem_append_right _ (List.mem_of_getElem? (i := 576) (by decide +kernel))) rfl
theorem mw_577 : Cond.selects yX9_at.cls yX9_at yX9_at ∈ TT := TT_mem (List.mem_append_right _ (List.mem_of_getElem? (i := 577) (by decide +kernel))) rfl
theorem okX9_at : CokV yX9_at cX9_at 4 (some .int) 2 9 := ⟨⟨mw_578, mw_1, by decide +kernel⟩, mw_576, mw_577, ⟨_, rfl, rfl⟩⟩
theorem mw_1643 : Cond.methodLink RL 63 yX10_at ∈ TT := TT_mem (List.mem_append_right _ (List.mem_of_getElem? (i := 1643) (by decide +kernel))) rfl
theorem mw_1646 : Cond.code yX10_at cX10_at 4 (some .int) ∈ TT := TT_mem (List.mem_append_right _ (List.mem_of_getElem? (i := 1646) (by decide +kernel))) rfl
theorem mw_1644 : Cond.instanceMethod yX10_at ∈ TT := TT_mem (List.mem_append_right _ (List.mem_of_getElem? (i := 1644) (by decide +kernel))) rfl
theorem mw_1645 : Cond.selects yX10_at.cls yX10_at yX10_at ∈ TT := TT_mem (List.mem_append_right _ (List.mem_of_getElem? (i := 1645) (by decide +kernel))) rfl
theorem okX10_at : CokV yX10_at cX10_at 4 (some .int) 2 10 := ⟨⟨mw_1646, mw_12, by decide +kernel⟩, mw_1644, mw_1645, ⟨_, rfl, rfl⟩⟩
theorem mw_587 : Cond.methodLink RL 64 yX9_make ∈ TT := TT_mem (List.mem_append_right _ (List.mem_of_getElem? (i := 587) (by decide +kernel))) rfl
theorem mw_590 : Cond.code yX9_make cX9_make 5 (some .int) ∈ TT := TT_mem (List.mem_append_right _ (List.mem_of_getElem? (i := 590) (by decide +kernel))) rfl
theorem mw_588 : Cond.instanceMethod yX9_make ∈ TT := TT_mem (List.mem_append_right _ (List.mem_of_getElem? (i := 588) (by decide +kernel))) rfl
theorem mw_589 : Cond.selects yX9_make.cls yX9_make yX9_make ∈ TT := TT_mem (List.mem_append_right _ (List.mem_of_getElem? (i := 589) (by decide +kernel))) rfl
theorem okX9_make : CokV yX9_make cX9_make 5 (some .int) 4 9 := ⟨⟨mw_590, mw_1, by decide +kernel⟩, mw_588, mw_589, ⟨_, rfl, rfl⟩⟩
theorem mw_1394 : Cond.methodLink RL 68 yX10_make ∈ TT := TT_mem (List.mem_append_right _ (List.mem_of_getElem? (i := 1394) (by decide +kernel))) rfl
theorem mw_1397 : Cond.code yX10_make cX10_make 5 (some .int) ∈ TT := TT_mem (List.mem_append_right _ (List.mem_of_getElem? (i := 1397) (by decide +kernel))) rfl
theorem mw_1395 : Cond.instanceMethod yX10_make ∈ TT := TT_mem (List.mem_append_right _ (List.mem_of_getElem? (i := 1395) (by decide +kernel))) rfl
theorem mw_1396 : Cond.selects yX10_make.cls yX10_make yX10_make ∈ TT := TT_mem (List.mem_append_right _ (List.mem_of_getElem? (i := 1396) (by decide +kernel))) rfl
theorem okX10_make : CokV yX10_make cX10_make 5 (some .int) 4 10 := ⟨⟨mw_1397, mw_12, by decide +kernel⟩, mw_1395, mw_1396, ⟨_, rfl, rfl⟩⟩
theorem mw_851 : Cond.methodLink RL 69 yX9_link ∈ TT := TT_mem (List.mem_append_right _ (List.mem_of_getElem? (i := 851) (by decide +kernel))) rfl
theorem mw_854 : Cond.code yX9_link cX9_link 4 (some .int) ∈ TT := TT_mem (List.mem_append_right _ (List.mem_of_getElem? (i := 854) (by decide +kernel))) rfl
theorem mw_852 : Cond.instanceMethod yX9_link ∈ TT := TT_mem (List.mem_append_right _ (List.mem_of_getElem? (i := 852) (by decide +kernel))) rfl
theorem mw_853 : Cond.selects yX9_link.cls yX9_link yX9_link ∈ TT := TT_mem (List.mem_append_right _ (List.mem_of_getElem? (i := 853) (by decide +kernel))) rfl
theorem okX9_link : CokV yX9_link cX9_link 4 (some .int) 3 9 := ⟨⟨mw_854, mw_1, by decide +kernel⟩, mw_852, mw_853, ⟨_, rfl, rfl⟩⟩
theorem mw_1557 : Cond.methodLink RL 73 yX10_link_ ∈ TT := TT_mem (List.mem_append_right _ (List.mem_of_getElem? (i := 1557) (by decide +kernel))) rfl
theorem mw_1560 : Cond.code yX10_link_ cX10_link_ 4 (some .int) ∈ TT := TT_mem (List.mem_append_right _ (List.mem_of_getElem? (i := 1560) (by decide +kernel))) rfl
theorem mw_1558 : Cond.instanceMethod yX10_link_ ∈ TT := TT_mem (List.mem_append_right _ (List.mem_of_getElem? (i := 1558) (by decide +kernel))) rfl
theorem mw_1559 : Cond.selects yX10_link_.cls yX10_link_ yX10_link_ ∈ TT := TT_mem (List.mem_append_right _ (List.mem_of_getElem? (i := 1559) (by decide +kernel))) rfl
theorem okX10_link_ : CokV yX10_link_ cX10_link_ 4 (some .int) 3 10 := ⟨⟨mw_1560, mw_12, by decide +kernel⟩, mw_1558, mw_1559, ⟨_, rfl, rfl⟩⟩
theorem mw_855 : Cond.methodLink RL 74 yX9_load ∈ TT := TT_mem (List.mem_append_right _ (List.mem_of_getElem? (i := 855) (by decide +kernel))) rfl
theorem mw_858 : Cond.code yX9_load cX9_load 4 (some .int) ∈ TT := TT_mem (List.mem_append_right _ (List.mem_of_getElem? (i := 858) (by decide +kernel))) rfl
theorem mw_856 : Cond.instanceMethod yX9_load ∈ TT := TT_mem (List.mem_append_right _ (List.mem_of_getElem? (i := 856) (by decide +kernel))) rfl
theorem mw_857 : Cond.selects yX9_load.cls yX9_load yX9_load ∈ TT := TT_mem (List.mem_append_right _ (List.mem_of_getElem? (i := 857) (by decide +kernel))) rfl
theorem okX9_load : CokV yX9_load cX9_load 4 (some .int) 3 9 := ⟨⟨mw_858, mw_1, by decide +kernel⟩, mw_856, mw_857, ⟨_, rfl, rfl⟩⟩
theorem mw_1561 : Cond.methodLink RL 77 yX10_load ∈ TT := TT_mem (List.mem_append_right _ (List.mem_of_getElem? (i := 1561) (by decide +kernel))) rfl
theorem mw_1564 : Cond.code yX10_load cX10_load 4 (some .int) ∈ TT := TT_mem (List.mem_append_right _ (List.mem_of_getElem? (i := 1564) (by decide +kernel))) rfl
theorem mw_1562 : Cond.instanceMethod yX10_load ∈ TT := TT_mem (List.mem_append_right _ (List.mem_of_getElem? (i := 1562) (by decide +kernel))) rfl
theorem mw_1563 : Cond.selects yX10_load.cls yX10_load yX10_load ∈ TT := TT_mem (List.mem_append_right _ (List.mem_of_getElem? (i := 1563) (by decide +kernel))) rfl
theorem okX10_load : CokV yX10_load cX10_load 4 (some .int) 3 10 := ⟨⟨mw_1564, mw_12, by decide +kernel⟩, mw_1562, mw_1563, ⟨_, rfl, rfl⟩⟩
theorem mw_859 : Cond.methodLink RL 78 yX9_drop ∈ TT := TT_mem (List.mem_append_right _ (List.mem_of_getElem? (i := 859) (by decide +kernel))) rfl
theorem mw_862 : Cond.code yX9_drop cX9_drop 2 (some .int) ∈ TT := TT_mem (List.mem_append_right _ (List.mem_of_getElem? (i := 862) (by decide +kernel))) rfl
theorem mw_860 : Cond.instanceMethod yX9_drop ∈ TT := TT_mem (List.mem_append_right _ (List.mem_of_getElem? (i := 860) (by decide +kernel))) rfl
theorem mw_861 : Cond.selects yX9_drop.cls yX9_drop yX9_drop ∈ TT := TT_mem (List.mem_append_right _ (List.mem_of_getElem? (i := 861) (by decide +kernel))) rfl
theorem okX9_drop : CokV yX9_drop cX9_drop 2 (some .int) 1 9 := ⟨⟨mw_862, mw_1, by decide +kernel⟩, mw_860, mw_861, ⟨_, rfl, rfl⟩⟩
theorem mw_1565 : Cond.methodLink RL 81 yX10_drop ∈ TT := TT_mem (List.mem_append_right _ (List.mem_of_getElem? (i := 1565) (by decide +kernel))) rfl
theorem mw_1568 : Cond.code yX10_drop cX10_drop 2 (some .int) ∈ TT := TT_mem (List.mem_append_right _ (List.mem_of_getElem? (i := 1568) (by decide +kernel))) rfl
theorem mw_1566 : Cond.instanceMethod yX10_drop ∈ TT := TT_mem (List.mem_append_right _ (List.mem_of_getElem? (i := 1566) (by decide +kernel))) rfl
theorem mw_1567 : Cond.selects yX10_drop.cls yX10_drop yX10_drop ∈ TT := TT_mem (List.mem_append_right _ (List.mem_of_getElem? (i := 1567) (by decide +kernel))) rfl
theorem okX10_drop : CokV yX10_drop cX10_drop 2 (some .int) 1 10 := ⟨⟨mw_1568, mw_12, by decide +kernel⟩, mw_1566, mw_1567, ⟨_, rfl, rfl⟩⟩
theorem mw_863 : Cond.methodLink RL 82 yX9_minor ∈ TT := TT_mem (List.mem_append_right _ (List.mem_of_getElem? (i := 863) (by decide +kernel))) rfl
theorem mw_866 : Cond.code yX9_minor cX9_minor 1 (some .int) ∈ TT := TT_mem (List.mem_append_right _ (List.mem_of_getElem? (i := 866) (by decide +kernel))) rfl
theorem mw_864 : Cond.instanceMethod yX9_minor ∈ TT := TT_mem (List.mem_append_right _ (List.mem_of_getElem? (i := 864) (by decide +kernel))) rfl
theorem mw_865 : Cond.selects yX9_minor.cls yX9_minor yX9_minor ∈ TT := TT_mem (List.mem_append_right _ (List.mem_of_getElem? (i := 865) (by decide +kernel))) rfl
theorem okX9_minor : CokV yX9_minor cX9_minor 1 (some .int) 0 9 := ⟨⟨mw_866, mw_1, by decide +kernel⟩, mw_864, mw_865, ⟨_, rfl, rfl⟩⟩
theorem mw_1569 : Cond.methodLink RL 85 yX10_minor ∈ TT := TT_mem (List.mem_append_right _ (List.mem_of_getElem? (i := 1569) (by decide +kernel))) rfl
theorem mw_1572 : Cond.code yX10_minor cX10_minor 1 (some .int) ∈ TT := TT_mem (List.mem_append_right _ (List.mem_of_getElem? (i := 1572) (by decide +kernel))) rfl
theorem mw_1570 : Cond.instanceMethod yX10_minor ∈ TT := TT_mem (List.mem_append_right _ (List.mem_of_getElem? (i := 1570) (by decide +kernel))) rfl
theorem mw_1571 : Cond.selects yX10_minor.cls yX10_minor yX10_minor ∈ TT := TT_mem (List.mem_append_right _ (List.mem_of_getElem? (i := 1571) (by decide +kernel))) rfl
theorem okX10_minor : CokV yX10_minor cX10_minor 1 (some .int) 0 10 := ⟨⟨mw_1572, mw_12, by decide +kernel⟩, mw_1570, mw_1571, ⟨_, rfl, rfl⟩⟩
theorem mw_867 : Cond.methodLink RL 86 yX9_major ∈ TT := TT_mem (List.mem_append_right _ (List.mem_of_getElem? (i := 867) (by decide +kernel))) rfl
theorem mw_870 : Cond.code yX9_major cX9_major 1 (some .int) ∈ TT := TT_mem (List.mem_append_right _ (List.mem_of_getElem? (i := 870) (by decide +kernel))) rfl
theorem mw_868 : Cond.instanceMethod yX9_major ∈ TT := TT_mem (List.mem_append_right _ (List.mem_of_getElem? (i := 868) (by decide +kernel))) rfl
theorem mw_869 : Cond.selects yX9_major.cls yX9_major yX9_major ∈ TT := TT_mem (List.mem_append_right _ (List.mem_of_getElem? (i := 869) (by decide +kernel))) rfl
theorem okX9_major : CokV yX9_major cX9_major 1 (some .int) 0 9 := ⟨⟨mw_870, mw_1, by decide +kernel⟩, mw_868, mw_869, ⟨_, rfl, rfl⟩⟩
theorem mw_1573 : Cond.methodLink RL 89 yX10_major ∈ TT := TT_mem (List.mem_append_right _ (List.mem_of_getElem? (i := 1573) (by decide +kernel))) rfl
theorem mw_1576 : Cond.code yX10_major cX10_major 1 (some .int) ∈ TT := TT_mem (List.mem_append_right _ (List.mem_of_getElem? (i := 1576) (by decide +kernel))) rfl
theorem mw_1574 : Cond.instanceMethod yX10_major ∈ TT := TT_mem (List.mem_append_right _ (List.mem_of_getElem? (i := 1574) (by decide +kernel))) rfl
theorem mw_1575 : Cond.selects yX10_major.cls yX10_major yX10_major ∈ TT := TT_mem (List.mem_append_right _ (List.mem_of_getElem? (i := 1575) (by decide +kernel))) rfl
theorem okX10_major : CokV yX10_major cX10_major 1 (some .int) 0 10 := ⟨⟨mw_1576, mw_12, by decide +kernel⟩, mw_1574, mw_1575, ⟨_, rfl, rfl⟩⟩
theorem mw_871 : Cond.methodLink RL 90 yX9_tell ∈ TT := TT_mem (List.mem_append_right _ (List.mem_of_getElem? (i := 871) (by decide +kernel))) rfl
theorem mw_874 : Cond.code yX9_tell cX9_tell 2 (some .int) ∈ TT := TT_mem (List.mem_append_right _ (List.mem_of_getElem? (i := 874) (by decide +kernel))) rfl
theorem mw_872 : Cond.instanceMethod yX9_tell ∈ TT := TT_mem (List.mem_append_right _ (List.mem_of_getElem? (i := 872) (by decide +kernel))) rfl
theorem mw_873 : Cond.selects yX9_tell.cls yX9_tell yX9_tell ∈ TT := TT_mem (List.mem_append_right _ (List.mem_of_getElem? (i := 873) (by decide +kernel))) rfl
theorem okX9_tell : CokV yX9_tell cX9_tell 2 (some .int) 1 9 := ⟨⟨mw_874, mw_1, by decide +kernel⟩, mw_872, mw_873, ⟨_, rfl, rfl⟩⟩
theorem mw_1577 : Cond.methodLink RL 93 yX10_tell ∈ TT := TT_mem (List.mem_append_right _ (List.mem_of_getElem? (i := 1577) (by decide +kernel))) rfl
theorem mw_1580 : Cond.code yX10_tell cX10_tell 2 (some .int) ∈ TT := TT_mem (List.mem_append_right _ (List.mem_of_getElem? (i := 1580) (by decide +kernel))) rfl
theorem mw_1578 : Cond.instanceMethod yX10_tell ∈ TT := TT_mem (List.mem_append_right _ (List.mem_of_getElem? (i := 1578) (by decide +kernel))) rfl
theorem mw_1579 : Cond.selects yX10_tell.cls yX10_tell yX10_tell ∈ TT := TT_mem (List.mem_append_right _ (List.mem_of_getElem? (i := 1579) (by decide +kernel))) rfl
theorem okX10_tell : CokV yX10_tell cX10_tell 2 (some .int) 1 10 := ⟨⟨mw_1580, mw_12, by decide +kernel⟩, mw_1578, mw_1579, ⟨_, rfl, rfl⟩⟩
theorem mw_875 : Cond.methodLink RL 94 yX9_ask ∈ TT := TT_mem (List.mem_append_right _ (List.mem_of_getElem? (i := 875) (by decide +kernel))) rfl
theorem mw_878 : Cond.code yX9_ask cX9_ask 1 (some .int) ∈ TT := TT_mem (List.mem_append_right _ (List.mem_of_getElem? (i := 878) (by decide +kernel))) rfl
theorem mw_876 : Cond.instanceMethod yX9_ask ∈ TT := TT_mem (List.mem_append_right _ (List.mem_of_getElem? (i := 876) (by decide +kernel))) rfl
theorem mw_877 : Cond.selects yX9_ask.cls yX9_ask yX9_ask ∈ TT := TT_mem (List.mem_append_right _ (List.mem_of_getElem? (i := 877) (by decide +kernel))) rfl
theorem okX9_ask : CokV yX9_ask cX9_ask 1 (some .int) 0 9 := ⟨⟨mw_878, mw_1, by decide +kernel⟩, mw_876, mw_877, ⟨_, rfl, rfl⟩⟩
theorem mw_1581 : Cond.methodLink RL 97 yX10_ask ∈ TT := TT_mem (List.mem_append_right _ (List.mem_of_getElem? (i := 1581) (by decide +kernel))) rfl
theorem mw_1584 : Cond.code yX10_ask cX10_ask 1 (some .int) ∈ TT := TT_mem (List.mem_append_right _ (List.mem_of_getElem? (i := 1584) (by decide +kernel))) rfl
theorem mw_1582 : Cond.instanceMethod yX10_ask ∈ TT := TT_mem (List.mem_append_right _ (List.mem_of_getElem? (i := 1582) (by decide +kernel))) rfl
theorem mw_1583 : Cond.selects yX10_ask.cls yX10_ask yX10_ask ∈ TT := TT_mem (List.mem_append_right _ (List.mem_of_getElem? (i := 1583) (by decide +kernel))) rfl
theorem okX10_ask : CokV yX10_ask cX10_ask 1 (some .int) 0 10 := ⟨⟨mw_1584, mw_12, by decide +kernel⟩, mw_1582, mw_1583, ⟨_, rfl, rfl⟩⟩
theorem mw_1745 : Cond.constantLong RL 98 (4294967295) ∈ TT := TT_mem (List.mem_append_right _ (List.mem_of_getElem? (i := 1745) (by decide +kernel))) rfl
theorem mw_879 : Cond.methodLink RL 100 yX9_years ∈ TT := TT_mem (List.mem_append_right _ (List.mem_of_getElem? (i := 879) (by decide +kernel))) rfl
theorem mw_882 : Cond.code yX9_years cX9_years 6 (some .int) ∈ TT := TT_mem (List.mem_append_right _ (List.mem_of_getElem? (i := 882) (by decide +kernel))) rfl
theorem mw_880 : Cond.instanceMethod yX9_years ∈ TT := TT_mem (List.mem_append_right _ (List.mem_of_getElem? (i := 880) (by decide +kernel))) rfl
theorem mw_881 : Cond.selects yX9_years.cls yX9_years yX9_years ∈ TT := TT_mem (List.mem_append_right _ (List.mem_of_getElem? (i := 881) (by decide +kernel))) rfl
theorem okX9_years : CokV yX9_years cX9_years 6 (some .int) 2 9 := ⟨⟨mw_882, mw_1, by decide +kernel⟩, mw_880, mw_881, ⟨_, rfl, rfl⟩⟩
theorem mw_1585 : Cond.methodLink RL 104 yX10_years ∈ TT := TT_mem (List.mem_append_right _ (List.mem_of_getElem? (i := 1585) (by decide +kernel))) rfl
theorem mw_1588 : Cond.code yX10_years cX10_years 6 (some .int) ∈ TT := TT_mem (List.mem_append_right _ (List.mem_of_getElem? (i := 1588) (by decide +kernel))) rfl
theorem mw_1586 : Cond.instanceMethod yX10_years ∈ TT := TT_mem (List.mem_append_right _ (List.mem_of_getElem? (i := 1586) (by decide +kernel))) rfl
theorem mw_1587 : Cond.selects yX10_years.cls yX10_years yX10_years ∈ TT := TT_mem (List.mem_append_right _ (List.mem_of_getElem? (i := 1587) (by decide +kernel))) rfl
theorem okX10_years : CokV yX10_years cX10_years 6 (some .int) 2 10 := ⟨⟨mw_1588, mw_12, by decide +kernel⟩, mw_1586, mw_1587, ⟨_, rfl, rfl⟩⟩
theorem mw_932 : Cond.methodLink RL 105 yX9_status ∈ TT := TT_mem (List.mem_append_right _ (List.mem_of_getElem? (i := 932) (by decide +kernel))) rfl
theorem mw_935 : Cond.code yX9_status cX9_status 2 (some .int) ∈ TT := TT_mem (List.mem_append_right _ (List.mem_of_getElem? (i := 935) (by decide +kernel))) rfl
theorem mw_933 : Cond.instanceMethod yX9_status ∈ TT := TT_mem (List.mem_append_right _ (List.mem_of_getElem? (i := 933) (by decide +kernel))) rfl
theorem mw_934 : Cond.selects yX9_status.cls yX9_status yX9_status ∈ TT := TT_mem (List.mem_append_right _ (List.mem_of_getElem? (i := 934) (by decide +kernel))) rfl
theorem okX9_status : CokV yX9_status cX9_status 2 (some .int) 1 9 := ⟨⟨mw_935, mw_1, by decide +kernel⟩, mw_933, mw_934, ⟨_, rfl, rfl⟩⟩
theorem mw_1600 : Cond.methodLink RL 108 yX10_status ∈ TT := TT_mem (List.mem_append_right _ (List.mem_of_getElem? (i := 1600) (by decide +kernel))) rfl
theorem mw_1603 : Cond.code yX10_status cX10_status 2 (some .int) ∈ TT := TT_mem (List.mem_append_right _ (List.mem_of_getElem? (i := 1603) (by decide +kernel))) rfl
theorem mw_1601 : Cond.instanceMethod yX10_status ∈ TT := TT_mem (List.mem_append_right _ (List.mem_of_getElem? (i := 1601) (by decide +kernel))) rfl
theorem mw_1602 : Cond.selects yX10_status.cls yX10_status yX10_status ∈ TT := TT_mem (List.mem_append_right _ (List.mem_of_getElem? (i := 1602) (by decide +kernel))) rfl
theorem okX10_status : CokV yX10_status cX10_status 2 (some .int) 1 10 := ⟨⟨mw_1603, mw_12, by decide +kernel⟩, mw_1601, mw_1602, ⟨_, rfl, rfl⟩⟩
theorem mw_936 : Cond.methodLink RL 109 yX9_undo ∈ TT := TT_mem (List.mem_append_right _ (List.mem_of_getElem? (i := 936) (by decide +kernel))) rfl
theorem mw_939 : Cond.code yX9_undo cX9_undo 1 (some .int) ∈ TT := TT_mem (List.mem_append_right _ (List.mem_of_getElem? (i := 939) (by decide +kernel))) rfl
theorem mw_937 : Cond.instanceMethod yX9_undo ∈ TT := TT_mem (List.mem_append_right _ (List.mem_of_getElem? (i := 937) (by decide +kernel))) rfl
theorem mw_938 : Cond.selects yX9_undo.cls yX9_undo yX9_undo ∈ TT := TT_mem (List.mem_append_right _ (List.mem_of_getElem? (i := 938) (by decide +kernel))) rfl
theorem okX9_undo : CokV yX9_undo cX9_undo 1 (some .int) 0 9 := ⟨⟨mw_939, mw_1, by decide +kernel⟩, mw_937, mw_938, ⟨_, rfl, rfl⟩⟩
theorem mw_1605 : Cond.methodLink RL 112 yX10_undo ∈ TT := TT_mem (List.mem_append_right _ (List.mem_of_getElem? (i := 1605) (by decide +kernel))) rfl
theorem mw_1608 : Cond.code yX10_undo cX10_undo 1 (some .int) ∈ TT := TT_mem (List.mem_append_right _ (List.mem_of_getElem? (i := 1608) (by decide +kernel))) rfl
theorem mw_1606 : Cond.instanceMethod yX10_undo ∈ TT := TT_mem (List.mem_append_right _ (List.mem_of_getElem? (i := 1606) (by decide +kernel))) rfl
theorem mw_1607 : Cond.selects yX10_undo.cls yX10_undo yX10_undo ∈ TT := TT_mem (List.mem_append_right _ (List.mem_of_getElem? (i := 1607) (by decide +kernel))) rfl
theorem okX10_undo : CokV yX10_undo cX10_undo 1 (some .int) 0 10 := ⟨⟨mw_1608, mw_12, by decide +kernel⟩, mw_1606, mw_1607, ⟨_, rfl, rfl⟩⟩
theorem mw_944 : Cond.methodLink RL 113 yX9_log ∈ TT := TT_mem (List.mem_append_right _ (List.mem_of_getElem? (i := 944) (by decide +kernel))) rfl
theorem mw_947 : Cond.code yX9_log cX9_log 5 (some .int) ∈ TT := TT_mem (List.mem_append_right _ (List.mem_of_getElem? (i := 947) (by decide +kernel))) rfl
theorem mw_945 : Cond.instanceMethod yX9_log ∈ TT := TT_mem (List.mem_append_right _ (List.mem_of_getElem? (i := 945) (by decide +kernel))) rfl
theorem mw_946 : Cond.selects yX9_log.cls yX9_log yX9_log ∈ TT := TT_mem (List.mem_append_right _ (List.mem_of_getElem? (i := 946) (by decide +kernel))) rfl
theorem okX9_log : CokV yX9_log cX9_log 5 (some .int) 2 9 := ⟨⟨mw_947, mw_1, by decide +kernel⟩, mw_945, mw_946, ⟨_, rfl, rfl⟩⟩
theorem mw_1609 : Cond.methodLink RL 116 yX10_log ∈ TT := TT_mem (List.mem_append_right _ (List.mem_of_getElem? (i := 1609) (by decide +kernel))) rfl
theorem mw_1612 : Cond.code yX10_log cX10_log 3 (some .int) ∈ TT := TT_mem (List.mem_append_right _ (List.mem_of_getElem? (i := 1612) (by decide +kernel))) rfl
theorem mw_1610 : Cond.instanceMethod yX10_log ∈ TT := TT_mem (List.mem_append_right _ (List.mem_of_getElem? (i := 1610) (by decide +kernel))) rfl
theorem mw_1611 : Cond.selects yX10_log.cls yX10_log yX10_log ∈ TT := TT_mem (List.mem_append_right _ (List.mem_of_getElem? (i := 1611) (by decide +kernel))) rfl
theorem okX10_log : CokV yX10_log cX10_log 3 (some .int) 2 10 := ⟨⟨mw_1612, mw_12, by decide +kernel⟩, mw_1610, mw_1611, ⟨_, rfl, rfl⟩⟩
theorem mw_950 : Cond.methodLink RL 117 yX9_remembered ∈ TT := TT_mem (List.mem_append_right _ (List.mem_of_getElem? (i := 950) (by decide +kernel))) rfl
theorem mw_953 : Cond.code yX9_remembered cX9_remembered 4 (some .int) ∈ TT := TT_mem (List.mem_append_right _ (List.mem_of_getElem? (i := 953) (by decide +kernel))) rfl
theorem mw_951 : Cond.instanceMethod yX9_remembered ∈ TT := TT_mem (List.mem_append_right _ (List.mem_of_getElem? (i := 951) (by decide +kernel))) rfl
theorem mw_952 : Cond.selects yX9_remembered.cls yX9_remembered yX9_remembered ∈ TT := TT_mem (List.mem_append_right _ (List.mem_of_getElem? (i := 952) (by decide +kernel))) rfl
theorem okX9_remembered : CokV yX9_remembered cX9_remembered 4 (some .int) 2 9 := ⟨⟨mw_953, mw_1, by decide +kernel⟩, mw_951, mw_952, ⟨_, rfl, rfl⟩⟩
theorem mw_1647 : Cond.methodLink RL 120 yX10_remembered ∈ TT := TT_mem (List.mem_append_right _ (List.mem_of_getElem? (i := 1647) (by decide +kernel))) rfl
theorem mw_1650 : Cond.code yX10_remembered cX10_remembered 3 (some .int) ∈ TT := TT_mem (List.mem_append_right _ (List.mem_of_getElem? (i := 1650) (by decide +kernel))) rfl
theorem mw_1648 : Cond.instanceMethod yX10_remembered ∈ TT := TT_mem (List.mem_append_right _ (List.mem_of_getElem? (i := 1648) (by decide +kernel))) rfl
theorem mw_1649 : Cond.selects yX10_remembered.cls yX10_remembered yX10_remembered ∈ TT := TT_mem (List.mem_append_right _ (List.mem_of_getElem? (i := 1649) (by decide +kernel))) rfl
theorem okX10_remembered : CokV yX10_remembered cX10_remembered 3 (some .int) 2 10 := ⟨⟨mw_1650, mw_12, by decide +kernel⟩, mw_1648, mw_1649, ⟨_, rfl, rfl⟩⟩
theorem mw_954 : Cond.methodLink RL 121 yX9_line ∈ TT := TT_mem (List.mem_append_right _ (List.mem_of_getElem? (i := 954) (by decide +kernel))) rfl
theorem mw_957 : Cond.code yX9_line cX9_line 4 (some .int) ∈ TT := TT_mem (List.mem_append_right _ (List.mem_of_getElem? (i := 957) (by decide +kernel))) rfl
theorem mw_955 : Cond.instanceMethod yX9_line ∈ TT := TT_mem (List.mem_append_right _ (List.mem_of_getElem? (i := 955) (by decide +kernel))) rfl
theorem mw_956 : Cond.selects yX9_line.cls yX9_line yX9_line ∈ TT := TT_mem (List.mem_append_right _ (List.mem_of_getElem? (i := 956) (by decide +kernel))) rfl
theorem okX9_line : CokV yX9_line cX9_line 4 (some .int) 2 9 := ⟨⟨mw_957, mw_1, by decide +kernel⟩, mw_955, mw_956, ⟨_, rfl, rfl⟩⟩
theorem mw_1651 : Cond.methodLink RL 124 yX10_line ∈ TT := TT_mem (List.mem_append_right _ (List.mem_of_getElem? (i := 1651) (by decide +kernel))) rfl
theorem mw_1654 : Cond.code yX10_line cX10_line 4 (some .int) ∈ TT := TT_mem (List.mem_append_right _ (List.mem_of_getElem? (i := 1654) (by decide +kernel))) rfl
theorem mw_1652 : Cond.instanceMethod yX10_line ∈ TT := TT_mem (List.mem_append_right _ (List.mem_of_getElem? (i := 1652) (by decide +kernel))) rfl
theorem mw_1653 : Cond.selects yX10_line.cls yX10_line yX10_line ∈ TT := TT_mem (List.mem_append_right _ (List.mem_of_getElem? (i := 1653) (by decide +kernel))) rfl
theorem okX10_line : CokV yX10_line cX10_line 4 (some .int) 2 10 := ⟨⟨mw_1654, mw_12, by decide +kernel⟩, mw_1652, mw_1653, ⟨_, rfl, rfl⟩⟩
theorem mw_958 : Cond.methodLink RL 125 yX9_would ∈ TT := TT_mem (List.mem_append_right _ (List.mem_of_getElem? (i := 958) (by decide +kernel))) rfl
theorem mw_961 : Cond.code yX9_would cX9_would 3 (some .int) ∈ TT := TT_mem (List.mem_append_right _ (List.mem_of_getElem? (i := 961) (by decide +kernel))) rfl
theorem mw_959 : Cond.instanceMethod yX9_would ∈ TT := TT_mem (List.mem_append_right _ (List.mem_of_getElem? (i := 959) (by decide +kernel))) rfl
theorem mw_960 : Cond.selects yX9_would.cls yX9_would yX9_would ∈ TT := TT_mem (List.mem_append_right _ (List.mem_of_getElem? (i := 960) (by decide +kernel))) rfl
theorem okX9_would : CokV yX9_would cX9_would 3 (some .int) 2 9 := ⟨⟨mw_961, mw_1, by decide +kernel⟩, mw_959, mw_960, ⟨_, rfl, rfl⟩⟩
theorem mw_1655 : Cond.methodLink RL 129 yX10_would ∈ TT := TT_mem (List.mem_append_right _ (List.mem_of_getElem? (i := 1655) (by decide +kernel))) rfl
theorem mw_1658 : Cond.code yX10_would cX10_would 3 (some .int) ∈ TT := TT_mem (List.mem_append_right _ (List.mem_of_getElem? (i := 1658) (by decide +kernel))) rfl
theorem mw_1656 : Cond.instanceMethod yX10_would ∈ TT := TT_mem (List.mem_append_right _ (List.mem_of_getElem? (i := 1656) (by decide +kernel))) rfl
theorem mw_1657 : Cond.selects yX10_would.cls yX10_would yX10_would ∈ TT := TT_mem (List.mem_append_right _ (List.mem_of_getElem? (i := 1657) (by decide +kernel))) rfl
theorem okX10_would : CokV yX10_would cX10_would 3 (some .int) 2 10 := ⟨⟨mw_1658, mw_12, by decide +kernel⟩, mw_1656, mw_1657, ⟨_, rfl, rfl⟩⟩
theorem mw_965 : Cond.methodLink RL 130 yX9_path ∈ TT := TT_mem (List.mem_append_right _ (List.mem_of_getElem? (i := 965) (by decide +kernel))) rfl
theorem mw_968 : Cond.code yX9_path cX9_path 4 (some .int) ∈ TT := TT_mem (List.mem_append_right _ (List.mem_of_getElem? (i := 968) (by decide +kernel))) rfl
theorem mw_966 : Cond.instanceMethod yX9_path ∈ TT := TT_mem (List.mem_append_right _ (List.mem_of_getElem? (i := 966) (by decide +kernel))) rfl
theorem mw_967 : Cond.selects yX9_path.cls yX9_path yX9_path ∈ TT := TT_mem (List.mem_append_right _ (List.mem_of_getElem? (i := 967) (by decide +kernel))) rfl
theorem okX9_path : CokV yX9_path cX9_path 4 (some .int) 2 9 := ⟨⟨mw_968, mw_1, by decide +kernel⟩, mw_966, mw_967, ⟨_, rfl, rfl⟩⟩
theorem mw_1659 : Cond.methodLink RL 133 yX10_path ∈ TT := TT_mem (List.mem_append_right _ (List.mem_of_getElem? (i := 1659) (by decide +kernel))) rfl
theorem mw_1662 : Cond.code yX10_path cX10_path 5 (some .int) ∈ TT := TT_mem (List.mem_append_right _ (List.mem_of_getElem? (i := 1662) (by decide +kernel))) rfl
theorem mw_1660 : Cond.instanceMethod yX10_path ∈ TT := TT_mem (List.mem_append_right _ (List.mem_of_getElem? (i := 1660) (by decide +kernel))) rfl
theorem mw_1661 : Cond.selects yX10_path.cls yX10_path yX10_path ∈ TT := TT_mem (List.mem_append_right _ (List.mem_of_getElem? (i := 1661) (by decide +kernel))) rfl
theorem okX10_path : CokV yX10_path cX10_path 5 (some .int) 2 10 := ⟨⟨mw_1662, mw_12, by decide +kernel⟩, mw_1660, mw_1661, ⟨_, rfl, rfl⟩⟩
theorem mw_981 : Cond.methodLink RL 134 yX9_alone ∈ TT := TT_mem (List.mem_append_right _ (List.mem_of_getElem? (i := 981) (by decide +kernel))) rfl
theorem mw_984 : Cond.code yX9_alone cX9_alone 5 (some .int) ∈ TT := TT_mem (List.mem_append_right _ (List.mem_of_getElem? (i := 984) (by decide +kernel))) rfl
theorem mw_982 : Cond.instanceMethod yX9_alone ∈ TT := TT_mem (List.mem_append_right _ (List.mem_of_getElem? (i := 982) (by decide +kernel))) rfl
theorem mw_983 : Cond.selects yX9_alone.cls yX9_alone yX9_alone ∈ TT := TT_mem (List.mem_append_right _ (List.mem_of_getElem? (i := 983) (by decide +kernel))) rfl
theorem okX9_alone : CokV yX9_alone cX9_alone 5 (some .int) 2 9 := ⟨⟨mw_984, mw_1, by decide +kernel⟩, mw_982, mw_983, ⟨_, rfl, rfl⟩⟩
theorem mw_1671 : Cond.methodLink RL 137 yX10_alone ∈ TT := TT_mem (List.mem_append_right _ (List.mem_of_getElem? (i := 1671) (by decide +kernel))) rfl
theorem mw_1674 : Cond.code yX10_alone cX10_alone 5 (some .int) ∈ TT := TT_mem (List.mem_append_right _ (List.mem_of_getElem? (i := 1674) (by decide +kernel))) rfl
theorem mw_1672 : Cond.instanceMethod yX10_alone ∈ TT := TT_mem (List.mem_append_right _ (List.mem_of_getElem? (i := 1672) (by decide +kernel))) rfl
theorem mw_1673 : Cond.selects yX10_alone.cls yX10_alone yX10_alone ∈ TT := TT_mem (List.mem_append_right _ (List.mem_of_getElem? (i := 1673) (by decide +kernel))) rfl
theorem okX10_alone : CokV yX10_alone cX10_alone 5 (some .int) 2 10 := ⟨⟨mw_1674, mw_12, by decide +kernel⟩, mw_1672, mw_1673, ⟨_, rfl, rfl⟩⟩
theorem mw_991 : Cond.methodLink RL 138 yX9_holders ∈ TT := TT_mem (List.mem_append_right _ (List.mem_of_getElem? (i := 991) (by decide +kernel))) rfl
theorem mw_994 : Cond.code yX9_holders cX9_holders 3 (some .int) ∈ TT := TT_mem (List.mem_append_right _ (List.mem_of_getElem? (i := 994) (by decide +kernel))) rfl
theorem mw_992 : Cond.instanceMethod yX9_holders ∈ TT := TT_mem (List.mem_append_right _ (List.mem_of_getElem? (i := 992) (by decide +kernel))) rfl
theorem mw_993 : Cond.selects yX9_holders.cls yX9_holders yX9_holders ∈ TT := TT_mem (List.mem_append_right _ (List.mem_of_getElem? (i := 993) (by decide +kernel))) rfl
theorem okX9_holders : CokV yX9_holders cX9_holders 3 (some .int) 1 9 := ⟨⟨mw_994, mw_1, by decide +kernel⟩, mw_992, mw_993, ⟨_, rfl, rfl⟩⟩
theorem mw_1679 : Cond.methodLink RL 141 yX10_holders ∈ TT := TT_mem (List.mem_append_right _ (List.mem_of_getElem? (i := 1679) (by decide +kernel))) rfl
theorem mw_1682 : Cond.code yX10_holders cX10_holders 5 (some .int) ∈ TT := TT_mem (List.mem_append_right _ (List.mem_of_getElem? (i := 1682) (by decide +kernel))) rfl
theorem mw_1680 : Cond.instanceMethod yX10_holders ∈ TT := TT_mem (List.mem_append_right _ (List.mem_of_getElem? (i := 1680) (by decide +kernel))) rfl
theorem mw_1681 : Cond.selects yX10_holders.cls yX10_holders yX10_holders ∈ TT := TT_mem (List.mem_append_right _ (List.mem_of_getElem? (i := 1681) (by decide +kernel))) rfl
theorem okX10_holders : CokV yX10_holders cX10_holders 5 (some .int) 1 10 := ⟨⟨mw_1682, mw_12, by decide +kernel⟩, mw_1680, mw_1681, ⟨_, rfl, rfl⟩⟩
theorem mw_999 : Cond.methodLink RL 142 yX9_round ∈ TT := TT_mem (List.mem_append_right _ (List.mem_of_getElem? (i := 999) (by decide +kernel))) rfl
theorem mw_1002 : Cond.code yX9_round cX9_round 3 (some .int) ∈ TT := TT_mem (List.mem_append_right _ (List.mem_of_getElem? (i := 1002) (by decide +kernel))) rfl
theorem mw_1000 : Cond.instanceMethod yX9_round ∈ TT := TT_mem (List.mem_append_right _ (List.mem_of_getElem? (i := 1000) (by decide +kernel))) rfl
theorem mw_1001 : Cond.selects yX9_round.cls yX9_round yX9_round ∈ TT := TT_mem (List.mem_append_right _ (List.mem_of_getElem? (i := 1001) (by decide +kernel))) rfl
theorem okX9_round : CokV yX9_round cX9_round 3 (some .int) 1 9 := ⟨⟨mw_1002, mw_1, by decide +kernel⟩, mw_1000, mw_1001, ⟨_, rfl, rfl⟩⟩
theorem mw_1683 : Cond.methodLink RL 145 yX10_round ∈ TT := TT_mem (List.mem_append_right _ (List.mem_of_getElem? (i := 1683) (by decide +kernel))) rfl
theorem mw_1686 : Cond.code yX10_round cX10_round 6 (some .int) ∈ TT := TT_mem (List.mem_append_right _ (List.mem_of_getElem? (i := 1686) (by decide +kernel))) rfl
theorem mw_1684 : Cond.instanceMethod yX10_round ∈ TT := TT_mem (List.mem_append_right _ (List.mem_of_getElem? (i := 1684) (by decide +kernel))) rfl
theorem mw_1685 : Cond.selects yX10_round.cls yX10_round yX10_round ∈ TT := TT_mem (List.mem_append_right _ (List.mem_of_getElem? (i := 1685) (by decide +kernel))) rfl
theorem okX10_round : CokV yX10_round cX10_round 6 (some .int) 1 10 := ⟨⟨mw_1686, mw_12, by decide +kernel⟩, mw_1684, mw_1685, ⟨_, rfl, rfl⟩⟩
theorem mw_1007 : Cond.methodLink RL 146 yX9_room ∈ TT := TT_mem (List.mem_append_right _ (List.mem_of_getElem? (i := 1007) (by decide +kernel))) rfl
theorem mw_1010 : Cond.code yX9_room cX9_room 2 (some .int) ∈ TT := TT_mem (List.mem_append_right _ (List.mem_of_getElem? (i := 1010) (by decide +kernel))) rfl
theorem mw_1008 : Cond.instanceMethod yX9_room ∈ TT := TT_mem (List.mem_append_right _ (List.mem_of_getElem? (i := 1008) (by decide +kernel))) rfl
theorem mw_1009 : Cond.selects yX9_room.cls yX9_room yX9_room ∈ TT := TT_mem (List.mem_append_right _ (List.mem_of_getElem? (i := 1009) (by decide +kernel))) rfl
theorem okX9_room : CokV yX9_room cX9_room 2 (some .int) 1 9 := ⟨⟨mw_1010, mw_1, by decide +kernel⟩, mw_1008, mw_1009, ⟨_, rfl, rfl⟩⟩
theorem mw_1687 : Cond.methodLink RL 149 yX10_room ∈ TT := TT_mem (List.mem_append_right _ (List.mem_of_getElem? (i := 1687) (by decide +kernel))) rfl
theorem mw_1690 : Cond.code yX10_room cX10_room 2 (some .int) ∈ TT := TT_mem (List.mem_append_right _ (List.mem_of_getElem? (i := 1690) (by decide +kernel))) rfl
theorem mw_1688 : Cond.instanceMethod yX10_room ∈ TT := TT_mem (List.mem_append_right _ (List.mem_of_getElem? (i := 1688) (by decide +kernel))) rfl
theorem mw_1689 : Cond.selects yX10_room.cls yX10_room yX10_room ∈ TT := TT_mem (List.mem_append_right _ (List.mem_of_getElem? (i := 1689) (by decide +kernel))) rfl
theorem okX10_room : CokV yX10_room cX10_room 2 (some .int) 1 10 := ⟨⟨mw_1690, mw_12, by decide +kernel⟩, mw_1688, mw_1689, ⟨_, rfl, rfl⟩⟩
theorem mw_1011 : Cond.methodLink RL 150 yX9_alike ∈ TT := TT_mem (List.mem_append_right _ (List.mem_of_getElem? (i := 1011) (by decide +kernel))) rfl
theorem mw_1014 : Cond.code yX9_alike cX9_alike 5 (some .boolean) ∈ TT := TT_mem (List.mem_append_right _ (List.mem_of_getElem? (i := 1014) (by decide +kernel))) rfl
theorem mw_1012 : Cond.instanceMethod yX9_alike ∈ TT := TT_mem (List.mem_append_right _ (List.mem_of_getElem? (i := 1012) (by decide +kernel))) rfl
theorem mw_1013 : Cond.selects yX9_alike.cls yX9_alike yX9_alike ∈ TT := TT_mem (List.mem_append_right _ (List.mem_of_getElem? (i := 1013) (by decide +kernel))) rfl
theorem okX9_alike : CokV yX9_alike cX9_alike 5 (some .boolean) 2 9 := ⟨⟨mw_1014, mw_1, by decide +kernel⟩, mw_1012, mw_1013, ⟨_, rfl, rfl⟩⟩
theorem mw_1691 : Cond.methodLink RL 154 yX10_alike ∈ TT := TT_mem (List.mem_append_right _ (List.mem_of_getElem? (i := 1691) (by decide +kernel))) rfl
theorem mw_1694 : Cond.code yX10_alike cX10_alike 5 (some .boolean) ∈ TT := TT_mem (List.mem_append_right _ (List.mem_of_getElem? (i := 1694) (by decide +kernel))) rfl
theorem mw_1692 : Cond.instanceMethod yX10_alike ∈ TT := TT_mem (List.mem_append_right _ (List.mem_of_getElem? (i := 1692) (by decide +kernel))) rfl
theorem mw_1693 : Cond.selects yX10_alike.cls yX10_alike yX10_alike ∈ TT := TT_mem (List.mem_append_right _ (List.mem_of_getElem? (i := 1693) (by decide +kernel))) rfl
theorem okX10_alike : CokV yX10_alike cX10_alike 5 (some .boolean) 2 10 := ⟨⟨mw_1694, mw_12, by decide +kernel⟩, mw_1692, mw_1693, ⟨_, rfl, rfl⟩⟩
theorem mw_1028 : Cond.methodLink RL 155 yX9_until ∈ TT := TT_mem (List.mem_append_right _ (List.mem_of_getElem? (i := 1028) (by decide +kernel))) rfl
theorem mw_1031 : Cond.code yX9_until cX9_until 4 (some .int) ∈ TT := TT_mem (List.mem_append_right _ (List.mem_of_getElem? (i := 1031) (by decide +kernel))) rfl
theorem mw_1029 : Cond.instanceMethod yX9_until ∈ TT := TT_mem (List.mem_append_right _ (List.mem_of_getElem? (i := 1029) (by decide +kernel))) rfl
theorem mw_1030 : Cond.selects yX9_until.cls yX9_until yX9_until ∈ TT := TT_mem (List.mem_append_right _ (List.mem_of_getElem? (i := 1030) (by decide +kernel))) rfl
theorem okX9_until : CokV yX9_until cX9_until 4 (some .int) 1 9 := ⟨⟨mw_1031, mw_1, by decide +kernel⟩, mw_1029, mw_1030, ⟨_, rfl, rfl⟩⟩
theorem mw_1699 : Cond.methodLink RL 158 yX10_until ∈ TT := TT_mem (List.mem_append_right _ (List.mem_of_getElem? (i := 1699) (by decide +kernel))) rfl
theorem mw_1702 : Cond.code yX10_until cX10_until 4 (some .int) ∈ TT := TT_mem (List.mem_append_right _ (List.mem_of_getElem? (i := 1702) (by decide +kernel))) rfl
theorem mw_1700 : Cond.instanceMethod yX10_until ∈ TT := TT_mem (List.mem_append_right _ (List.mem_of_getElem? (i := 1700) (by decide +kernel))) rfl
theorem mw_1701 : Cond.selects yX10_until.cls yX10_until yX10_until ∈ TT := TT_mem (List.mem_append_right _ (List.mem_of_getElem? (i := 1701) (by decide +kernel))) rfl
theorem okX10_until : CokV yX10_until cX10_until 4 (some .int) 1 10 := ⟨⟨mw_1702, mw_12, by decide +kernel⟩, mw_1700, mw_1701, ⟨_, rfl, rfl⟩⟩
theorem mw_1033 : Cond.methodLink RL 159 yX9_garbage ∈ TT := TT_mem (List.mem_append_right _ (List.mem_of_getElem? (i := 1033) (by decide +kernel))) rfl
theorem mw_1036 : Cond.code yX9_garbage cX9_garbage 2 (some .int) ∈ TT := TT_mem (List.mem_append_right _ (List.mem_of_getElem? (i := 1036) (by decide +kernel))) rfl
theorem mw_1034 : Cond.instanceMethod yX9_garbage ∈ TT := TT_mem (List.mem_append_right _ (List.mem_of_getElem? (i := 1034) (by decide +kernel))) rfl
theorem mw_1035 : Cond.selects yX9_garbage.cls yX9_garbage yX9_garbage ∈ TT := TT_mem (List.mem_append_right _ (List.mem_of_getElem? (i := 1035) (by decide +kernel))) rfl
theorem okX9_garbage : CokV yX9_garbage cX9_garbage 2 (some .int) 1 9 := ⟨⟨mw_1036, mw_1, by decide +kernel⟩, mw_1034, mw_1035, ⟨_, rfl, rfl⟩⟩
theorem mw_1703 : Cond.methodLink RL 162 yX10_garbage ∈ TT := TT_mem (List.mem_append_right _ (List.mem_of_getElem? (i := 1703) (by decide +kernel))) rfl
theorem mw_1706 : Cond.code yX10_garbage cX10_garbage 4 (some .int) ∈ TT := TT_mem (List.mem_append_right _ (List.mem_of_getElem? (i := 1706) (by decide +kernel))) rfl
theorem mw_1704 : Cond.instanceMethod yX10_garbage ∈ TT := TT_mem (List.mem_append_right _ (List.mem_of_getElem? (i := 1704) (by decide +kernel))) rfl
theorem mw_1705 : Cond.selects yX10_garbage.cls yX10_garbage yX10_garbage ∈ TT := TT_mem (List.mem_append_right _ (List.mem_of_getElem? (i := 1705) (by decide +kernel))) rfl
theorem okX10_garbage : CokV yX10_garbage cX10_garbage 4 (some .int) 1 10 := ⟨⟨mw_1706, mw_12, by decide +kernel⟩, mw_1704, mw_1705, ⟨_, rfl, rfl⟩⟩
theorem mw_1041 : Cond.methodLink RL 163 yX9_step ∈ TT := TT_mem (List.mem_append_right _ (List.mem_of_getElem? (i := 1041) (by decide +kernel))) rfl
theorem mw_1044 : Cond.code yX9_step cX9_step 4 (some .int) ∈ TT := TT_mem (List.mem_append_right _ (List.mem_of_getElem? (i := 1044) (by decide +kernel))) rfl
theorem mw_1042 : Cond.instanceMethod yX9_step ∈ TT := TT_mem (List.mem_append_right _ (List.mem_of_getElem? (i := 1042) (by decide +kernel))) rfl
theorem mw_1043 : Cond.selects yX9_step.cls yX9_step yX9_step ∈ TT := TT_mem (List.mem_append_right _ (List.mem_of_getElem? (i := 1043) (by decide +kernel))) rfl
theorem okX9_step : CokV yX9_step cX9_step 4 (some .int) 3 9 := ⟨⟨mw_1044, mw_1, by decide +kernel⟩, mw_1042, mw_1043, ⟨_, rfl, rfl⟩⟩
theorem mw_1707 : Cond.methodLink RL 166 yX10_step ∈ TT := TT_mem (List.mem_append_right _ (List.mem_of_getElem? (i := 1707) (by decide +kernel))) rfl
theorem mw_1710 : Cond.code yX10_step cX10_step 4 (some .int) ∈ TT := TT_mem (List.mem_append_right _ (List.mem_of_getElem? (i := 1710) (by decide +kernel))) rfl
theorem mw_1708 : Cond.instanceMethod yX10_step ∈ TT := TT_mem (List.mem_append_right _ (List.mem_of_getElem? (i := 1708) (by decide +kernel))) rfl
theorem mw_1709 : Cond.selects yX10_step.cls yX10_step yX10_step ∈ TT := TT_mem (List.mem_append_right _ (List.mem_of_getElem? (i := 1709) (by decide +kernel))) rfl
theorem okX10_step : CokV yX10_step cX10_step 4 (some .int) 3 10 := ⟨⟨mw_1710, mw_12, by decide +kernel⟩, mw_1708, mw_1709, ⟨_, rfl, rfl⟩⟩
theorem mw_1049 : Cond.methodLink RL 167 yX9_run ∈ TT := TT_mem (List.mem_append_right _ (List.mem_of_getElem? (i := 1049) (by decide +kernel))) rfl
theorem mw_1052 : Cond.code yX9_run cX9_run 4 (some .int) ∈ TT := TT_mem (List.mem_append_right _ (List.mem_of_getElem? (i := 1052) (by decide +kernel))) rfl
theorem mw_1050 : Cond.instanceMethod yX9_run ∈ TT := TT_mem (List.mem_append_right _ (List.mem_of_getElem? (i := 1050) (by decide +kernel))) rfl
theorem mw_1051 : Cond.selects yX9_run.cls yX9_run yX9_run ∈ TT := TT_mem (List.mem_append_right _ (List.mem_of_getElem? (i := 1051) (by decide +kernel))) rfl
theorem okX9_run : CokV yX9_run cX9_run 4 (some .int) 2 9 := ⟨⟨mw_1052, mw_1, by decide +kernel⟩, mw_1050, mw_1051, ⟨_, rfl, rfl⟩⟩
theorem mw_1715 : Cond.methodLink RL 170 yX10_run ∈ TT := TT_mem (List.mem_append_right _ (List.mem_of_getElem? (i := 1715) (by decide +kernel))) rfl
theorem mw_1718 : Cond.code yX10_run cX10_run 6 (some .int) ∈ TT := TT_mem (List.mem_append_right _ (List.mem_of_getElem? (i := 1718) (by decide +kernel))) rfl
theorem mw_1716 : Cond.instanceMethod yX10_run ∈ TT := TT_mem (List.mem_append_right _ (List.mem_of_getElem? (i := 1716) (by decide +kernel))) rfl
theorem mw_1717 : Cond.selects yX10_run.cls yX10_run yX10_run ∈ TT := TT_mem (List.mem_append_right _ (List.mem_of_getElem? (i := 1717) (by decide +kernel))) rfl
theorem okX10_run : CokV yX10_run cX10_run 6 (some .int) 2 10 := ⟨⟨mw_1718, mw_12, by decide +kernel⟩, mw_1716, mw_1717, ⟨_, rfl, rfl⟩⟩
theorem mw_1057 : Cond.methodLink RL 171 yX9_perform ∈ TT := TT_mem (List.mem_append_right _ (List.mem_of_getElem? (i := 1057) (by decide +kernel))) rfl
theorem mw_1060 : Cond.code yX9_perform cX9_perform 6 (some .int) ∈ TT := TT_mem (List.mem_append_right _ (List.mem_of_getElem? (i := 1060) (by decide +kernel))) rfl
theorem mw_1058 : Cond.instanceMethod yX9_perform ∈ TT := TT_mem (List.mem_append_right _ (List.mem_of_getElem? (i := 1058) (by decide +kernel))) rfl
theorem mw_1059 : Cond.selects yX9_perform.cls yX9_perform yX9_perform ∈ TT := TT_mem (List.mem_append_right _ (List.mem_of_getElem? (i := 1059) (by decide +kernel))) rfl
theorem okX9_perform : CokV yX9_perform cX9_perform 6 (some .int) 1 9 := ⟨⟨mw_1060, mw_1, by decide +kernel⟩, mw_1058, mw_1059, ⟨_, rfl, rfl⟩⟩
theorem mw_1719 : Cond.methodLink RL 174 yX10_perform ∈ TT := TT_mem (List.mem_append_right _ (List.mem_of_getElem? (i := 1719) (by decide +kernel))) rfl
theorem mw_1722 : Cond.code yX10_perform cX10_perform 5 (some .int) ∈ TT := TT_mem (List.mem_append_right _ (List.mem_of_getElem? (i := 1722) (by decide +kernel))) rfl
theorem mw_1720 : Cond.instanceMethod yX10_perform ∈ TT := TT_mem (List.mem_append_right _ (List.mem_of_getElem? (i := 1720) (by decide +kernel))) rfl
theorem mw_1721 : Cond.selects yX10_perform.cls yX10_perform yX10_perform ∈ TT := TT_mem (List.mem_append_right _ (List.mem_of_getElem? (i := 1721) (by decide +kernel))) rfl
theorem okX10_perform : CokV yX10_perform cX10_perform 5 (some .int) 1 10 := ⟨⟨mw_1722, mw_12, by decide +kernel⟩, mw_1720, mw_1721, ⟨_, rfl, rfl⟩⟩
theorem mw_1061 : Cond.methodLink RL 175 yX9_most ∈ TT := TT_mem (List.mem_append_right _ (List.mem_of_getElem? (i := 1061) (by decide +kernel))) rfl
theorem mw_1064 : Cond.code yX9_most cX9_most 2 (some .int) ∈ TT := TT_mem (List.mem_append_right _ (List.mem_of_getElem? (i := 1064) (by decide +kernel))) rfl
theorem mw_1062 : Cond.instanceMethod yX9_most ∈ TT := TT_mem (List.mem_append_right _ (List.mem_of_getElem? (i := 1062) (by decide +kernel))) rfl
theorem mw_1063 : Cond.selects yX9_most.cls yX9_most yX9_most ∈ TT := TT_mem (List.mem_append_right _ (List.mem_of_getElem? (i := 1063) (by decide +kernel))) rfl
theorem okX9_most : CokV yX9_most cX9_most 2 (some .int) 1 9 := ⟨⟨mw_1064, mw_1, by decide +kernel⟩, mw_1062, mw_1063, ⟨_, rfl, rfl⟩⟩
theorem mw_1723 : Cond.methodLink RL 178 yX10_most ∈ TT := TT_mem (List.mem_append_right _ (List.mem_of_getElem? (i := 1723) (by decide +kernel))) rfl
theorem mw_1726 : Cond.code yX10_most cX10_most 2 (some .int) ∈ TT := TT_mem (List.mem_append_right _ (List.mem_of_getElem? (i := 1726) (by decide +kernel))) rfl
theorem mw_1724 : Cond.instanceMethod yX10_most ∈ TT := TT_mem (List.mem_append_right _ (List.mem_of_getElem? (i := 1724) (by decide +kernel))) rfl
theorem mw_1725 : Cond.selects yX10_most.cls yX10_most yX10_most ∈ TT := TT_mem (List.mem_append_right _ (List.mem_of_getElem? (i := 1725) (by decide +kernel))) rfl
theorem okX10_most : CokV yX10_most cX10_most 2 (some .int) 1 10 := ⟨⟨mw_1726, mw_12, by decide +kernel⟩, mw_1724, mw_1725, ⟨_, rfl, rfl⟩⟩
theorem mw_1078 : Cond.methodLink RL 179 yX9_image ∈ TT := TT_mem (List.mem_append_right _ (List.mem_of_getElem? (i := 1078) (by decide +kernel))) rfl
theorem mw_1081 : Cond.code yX9_image cX9_image 1 (some .int) ∈ TT := TT_mem (List.mem_append_right _ (List.mem_of_getElem? (i := 1081) (by decide +kernel))) rfl
theorem mw_1079 : Cond.instanceMethod yX9_image ∈ TT := TT_mem (List.mem_append_right _ (List.mem_of_getElem? (i := 1079) (by decide +kernel))) rfl
theorem mw_1080 : Cond.selects yX9_image.cls yX9_image yX9_image ∈ TT := TT_mem (List.mem_append_right _ (List.mem_of_getElem? (i := 1080) (by decide +kernel))) rfl
theorem okX9_image : CokV yX9_image cX9_image 1 (some .int) 0 9 := ⟨⟨mw_1081, mw_1, by decide +kernel⟩, mw_1079, mw_1080, ⟨_, rfl, rfl⟩⟩
theorem mw_1614 : Cond.methodLink RL 182 yX10_image ∈ TT := TT_mem (List.mem_append_right _ (List.mem_of_getElem? (i := 1614) (by decide +kernel))) rfl
theorem mw_1617 : Cond.code yX10_image cX10_image 1 (some .int) ∈ TT := TT_mem (List.mem_append_right _ (List.mem_of_getElem? (i := 1617) (by decide +kernel))) rfl
theorem mw_1615 : Cond.instanceMethod yX10_image ∈ TT := TT_mem (List.mem_append_right _ (List.mem_of_getElem? (i := 1615) (by decide +kernel))) rfl
theorem mw_1616 : Cond.selects yX10_image.cls yX10_image yX10_image ∈ TT := TT_mem (List.mem_append_right _ (List.mem_of_getElem? (i := 1616) (by decide +kernel))) rfl
theorem okX10_image : CokV yX10_image cX10_image 1 (some .int) 0 10 := ⟨⟨mw_1617, mw_12, by decide +kernel⟩, mw_1615, mw_1616, ⟨_, rfl, rfl⟩⟩
theorem mw_1082 : Cond.methodLink RL 183 yX9_back ∈ TT := TT_mem (List.mem_append_right _ (List.mem_of_getElem? (i := 1082) (by decide +kernel))) rfl
theorem mw_1085 : Cond.code yX9_back cX9_back 1 (some .int) ∈ TT := TT_mem (List.mem_append_right _ (List.mem_of_getElem? (i := 1085) (by decide +kernel))) rfl
theorem mw_1083 : Cond.instanceMethod yX9_back ∈ TT := TT_mem (List.mem_append_right _ (List.mem_of_getElem? (i := 1083) (by decide +kernel))) rfl
theorem mw_1084 : Cond.selects yX9_back.cls yX9_back yX9_back ∈ TT := TT_mem (List.mem_append_right _ (List.mem_of_getElem? (i := 1084) (by decide +kernel))) rfl
theorem okX9_back : CokV yX9_back cX9_back 1 (some .int) 0 9 := ⟨⟨mw_1085, mw_1, by decide +kernel⟩, mw_1083, mw_1084, ⟨_, rfl, rfl⟩⟩
theorem mw_1618 : Cond.methodLink RL 186 yX10_back ∈ TT := TT_mem (List.mem_append_right _ (List.mem_of_getElem? (i := 1618) (by decide +kernel))) rfl
theorem mw_1621 : Cond.code yX10_back cX10_back 1 (some .int) ∈ TT := TT_mem (List.mem_append_right _ (List.mem_of_getElem? (i := 1621) (by decide +kernel))) rfl
theorem mw_1619 : Cond.instanceMethod yX10_back ∈ TT := TT_mem (List.mem_append_right _ (List.mem_of_getElem? (i := 1619) (by decide +kernel))) rfl
theorem mw_1620 : Cond.selects yX10_back.cls yX10_back yX10_back ∈ TT := TT_mem (List.mem_append_right _ (List.mem_of_getElem? (i := 1620) (by decide +kernel))) rfl
theorem okX10_back : CokV yX10_back cX10_back 1 (some .int) 0 10 := ⟨⟨mw_1621, mw_12, by decide +kernel⟩, mw_1619, mw_1620, ⟨_, rfl, rfl⟩⟩
theorem mw_1086 : Cond.methodLink RL 187 yX9_count ∈ TT := TT_mem (List.mem_append_right _ (List.mem_of_getElem? (i := 1086) (by decide +kernel))) rfl
theorem mw_1089 : Cond.code yX9_count cX9_count 2 (some .int) ∈ TT := TT_mem (List.mem_append_right _ (List.mem_of_getElem? (i := 1089) (by decide +kernel))) rfl
theorem mw_1087 : Cond.instanceMethod yX9_count ∈ TT := TT_mem (List.mem_append_right _ (List.mem_of_getElem? (i := 1087) (by decide +kernel))) rfl
theorem mw_1088 : Cond.selects yX9_count.cls yX9_count yX9_count ∈ TT := TT_mem (List.mem_append_right _ (List.mem_of_getElem? (i := 1088) (by decide +kernel))) rfl
theorem okX9_count : CokV yX9_count cX9_count 2 (some .int) 1 9 := ⟨⟨mw_1089, mw_1, by decide +kernel⟩, mw_1087, mw_1088, ⟨_, rfl, rfl⟩⟩
theorem mw_1741 : Cond.methodLink RL 190 yX10_count ∈ TT := TT_mem (List.mem_append_right _ (List.mem_of_getElem? (i := 1741) (by decide +kernel))) rfl
theorem mw_1744 : Cond.code yX10_count cX10_count 2 (some .int) ∈ TT := TT_mem (List.mem_append_right _ (List.mem_of_getElem? (i := 1744) (by decide +kernel))) rfl
theorem mw_1742 : Cond.instanceMethod yX10_count ∈ TT := TT_mem (List.mem_append_right _ (List.mem_of_getElem? (i := 1742) (by decide +kernel))) rfl
theorem mw_1743 : Cond.selects yX10_count.cls yX10_count yX10_count ∈ TT := TT_mem (List.mem_append_right _ (List.mem_of_getElem? (i := 1743) (by decide +kernel))) rfl
theorem okX10_count : CokV yX10_count cX10_count 2 (some .int) 1 10 := ⟨⟨mw_1744, mw_12, by decide +kernel⟩, mw_1742, mw_1743, ⟨_, rfl, rfl⟩⟩
