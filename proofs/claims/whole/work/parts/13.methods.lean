-- ===== methods, and the words that speak of them, by their places =====
theorem wi_X0 : Cond.initialized RX0 ∈ tblG := tblG_mem (List.mem_of_getElem? (i := 126) (by decide +kernel)) (by decide +kernel)
theorem wi_X1 : Cond.initialized RX1 ∈ tblG := tblG_mem (List.mem_of_getElem? (i := 125) (by decide +kernel)) (by decide +kernel)
theorem wi_X2 : Cond.initialized RX2 ∈ tblG := tblG_mem (List.mem_of_getElem? (i := 117) (by decide +kernel)) (by decide +kernel)
theorem wi_X3 : Cond.initialized RX3 ∈ tblG := tblG_mem (List.mem_of_getElem? (i := 122) (by decide +kernel)) (by decide +kernel)
theorem wi_X4 : Cond.initialized RX4 ∈ tblG := tblG_mem (List.mem_of_getElem? (i := 123) (by decide +kernel)) (by decide +kernel)
theorem wi_X5 : Cond.initialized RX5 ∈ tblG := tblG_mem (List.mem_of_getElem? (i := 118) (by decide +kernel)) (by decide +kernel)
theorem wi_X6 : Cond.initialized RX6 ∈ tblG := tblG_mem (List.mem_of_getElem? (i := 119) (by decide +kernel)) (by decide +kernel)
theorem wi_X7 : Cond.initialized RX7 ∈ tblG := tblG_mem (List.mem_of_getElem? (i := 121) (by decide +kernel)) (by decide +kernel)
theorem wi_X8 : Cond.initialized RX8 ∈ tblG := tblG_mem (List.mem_of_getElem? (i := 124) (by decide +kernel)) (by decide +kernel)
theorem wi_X9 : Cond.initialized RX9 ∈ tblG := tblG_mem (List.mem_of_getElem? (i := 120) (by decide +kernel)) (by decide +kernel)
theorem wi_X10 : Cond.initialized RX10 ∈ tblG := tblG_mem (List.mem_of_getElem? (i := 116) (by decide +kernel)) (by decide +kernel)
theorem wi_X11 : Cond.initialized RX11 ∈ tblG := tblG_mem (List.mem_of_getElem? (i := 115) (by decide +kernel)) (by decide +kernel)
theorem wi_X12 : Cond.initialized RX12 ∈ tblG := tblG_mem (List.mem_of_getElem? (i := 127) (by decide +kernel)) (by decide +kernel)
theorem wi_J11 : Cond.initialized RJ11 ∈ tblG := tblG_mem (List.mem_of_getElem? (i := 134) (by decide +kernel)) (by decide +kernel)
theorem wi_J6 : Cond.initialized RJ6 ∈ tblG := tblG_mem (List.mem_of_getElem? (i := 136) (by decide +kernel)) (by decide +kernel)
theorem wi_J9 : Cond.initialized RJ9 ∈ tblG := tblG_mem (List.mem_of_getElem? (i := 133) (by decide +kernel)) (by decide +kernel)
theorem wi_J0 : Cond.initialized RJ0 ∈ tblG := tblG_mem (List.mem_of_getElem? (i := 129) (by decide +kernel)) (by decide +kernel)
theorem wi_J1 : Cond.initialized RJ1 ∈ tblG := tblG_mem (List.mem_of_getElem? (i := 130) (by decide +kernel)) (by decide +kernel)
theorem wi_J2 : Cond.initialized RJ2 ∈ tblG := tblG_mem (List.mem_of_getElem? (i := 132) (by decide +kernel)) (by decide +kernel)
theorem wi_J10 : Cond.initialized RJ10 ∈ tblG := tblG_mem (List.mem_of_getElem? (i := 135) (by decide +kernel)) (by decide +kernel)
theorem wi_J7 : Cond.initialized RJ7 ∈ tblG := tblG_mem (List.mem_of_getElem? (i := 128) (by decide +kernel)) (by decide +kernel)
theorem wi_J3 : Cond.initialized RJ3 ∈ tblG := tblG_mem (List.mem_of_getElem? (i := 131) (by decide +kernel)) (by decide +kernel)
abbrev mX11_init : MD := (yX11_init, cX11_init, 2, none)
theorem okX11_init : okM mX11_init 0 := ⟨wi_X11, tblG_mem (List.mem_of_getElem? (i := 141) (by decide +kernel)) (by decide +kernel), ⟨by decide +kernel, by decide +kernel, by decide +kernel⟩, by decide⟩
abbrev mX10_init : MD := (yX10_init, cX10_init, 1, none)
theorem okX10_init : okM mX10_init 0 := ⟨wi_X10, tblG_mem (List.mem_of_getElem? (i := 149) (by decide +kernel)) (by decide +kernel), ⟨by decide +kernel, by decide +kernel, by decide +kernel⟩, by decide⟩
abbrev mX2_init : MD := (yX2_init, cX2_init, 1, none)
theorem okX2_init : okM mX2_init 0 := ⟨wi_X2, tblG_mem (List.mem_of_getElem? (i := 155) (by decide +kernel)) (by decide +kernel), ⟨by decide +kernel, by decide +kernel, by decide +kernel⟩, by decide⟩
abbrev mX5_init : MD := (yX5_init, cX5_init, 1, none)
theorem okX5_init : okM mX5_init 0 := ⟨wi_X5, tblG_mem (List.mem_of_getElem? (i := 213) (by decide +kernel)) (by decide +kernel), ⟨by decide +kernel, by decide +kernel, by decide +kernel⟩, by decide⟩
abbrev mX6_init : MD := (yX6_init, cX6_init, 2, none)
theorem okX6_init : okM mX6_init 0 := ⟨wi_X6, tblG_mem (List.mem_of_getElem? (i := 257) (by decide +kernel)) (by decide +kernel), ⟨by decide +kernel, by decide +kernel, by decide +kernel⟩, by decide⟩
abbrev mX9_init : MD := (yX9_init, cX9_init, 1, none)
theorem okX9_init : okM mX9_init 0 := ⟨wi_X9, tblG_mem (List.mem_of_getElem? (i := 277) (by decide +kernel)) (by decide +kernel), ⟨by decide +kernel, by decide +kernel, by decide +kernel⟩, by decide⟩
abbrev mX7_init : MD := (yX7_init, cX7_init, 1, none)
theorem okX7_init : okM mX7_init 0 := ⟨wi_X7, tblG_mem (List.mem_of_getElem? (i := 347) (by decide +kernel)) (by decide +kernel), ⟨by decide +kernel, by decide +kernel, by decide +kernel⟩, by decide⟩
abbrev mX3_init : MD := (yX3_init, cX3_init, 2, none)
theorem okX3_init : okM mX3_init 1 := ⟨wi_X3, tblG_mem (List.mem_of_getElem? (i := 375) (by decide +kernel)) (by decide +kernel), ⟨by decide +kernel, by decide +kernel, by decide +kernel⟩, by decide⟩
abbrev mX4_init : MD := (yX4_init, cX4_init, 1, none)
theorem okX4_init : okM mX4_init 0 := ⟨wi_X4, tblG_mem (List.mem_of_getElem? (i := 423) (by decide +kernel)) (by decide +kernel), ⟨by decide +kernel, by decide +kernel, by decide +kernel⟩, by decide⟩
abbrev mX8_init : MD := (yX8_init, cX8_init, 1, none)
theorem okX8_init : okM mX8_init 0 := ⟨wi_X8, tblG_mem (List.mem_of_getElem? (i := 435) (by decide +kernel)) (by decide +kernel), ⟨by decide +kernel, by decide +kernel, by decide +kernel⟩, by decide⟩
abbrev mX1_init : MD := (yX1_init, cX1_init, 3, none)
theorem okX1_init : okM mX1_init 2 := ⟨wi_X1, tblG_mem (List.mem_of_getElem? (i := 479) (by decide +kernel)) (by decide +kernel), ⟨by decide +kernel, by decide +kernel, by decide +kernel⟩, by decide⟩
abbrev mX0_init : MD := (yX0_init, cX0_init, 3, none)
theorem okX0_init : okM mX0_init 2 := ⟨wi_X0, tblG_mem (List.mem_of_getElem? (i := 501) (by decide +kernel)) (by decide +kernel), ⟨by decide +kernel, by decide +kernel, by decide +kernel⟩, by decide⟩
abbrev mX11_bell : MD := (yX11_bell, cX11_bell, 4, some .int)
theorem okX11_bell : okM mX11_bell 3 := ⟨wi_X11, tblG_mem (List.mem_of_getElem? (i := 561) (by decide +kernel)) (by decide +kernel), ⟨by decide +kernel, by decide +kernel, by decide +kernel⟩, by decide⟩
theorem isX11_bell : Cond.instanceMethod yX11_bell ∈ tblG ∧ Cond.selects yX11_bell.cls yX11_bell yX11_bell ∈ tblG := ⟨tblG_mem (List.mem_of_getElem? (i := 559) (by decide +kernel)) (by decide +kernel), tblG_mem (List.mem_of_getElem? (i := 560) (by decide +kernel)) (by decide +kernel)⟩
abbrev mX2_addBell : MD := (yX2_addBell, cX2_addBell, 4, some .int)
theorem okX2_addBell : okM mX2_addBell 3 := ⟨wi_X2, tblG_mem (List.mem_of_getElem? (i := 565) (by decide +kernel)) (by decide +kernel), ⟨by decide +kernel, by decide +kernel, by decide +kernel⟩, by decide⟩
theorem isX2_addBell : Cond.instanceMethod yX2_addBell ∈ tblG ∧ Cond.selects yX2_addBell.cls yX2_addBell yX2_addBell ∈ tblG := ⟨tblG_mem (List.mem_of_getElem? (i := 563) (by decide +kernel)) (by decide +kernel), tblG_mem (List.mem_of_getElem? (i := 564) (by decide +kernel)) (by decide +kernel)⟩
abbrev mX11_within : MD := (yX11_within, cX11_within, 3, some .boolean)
theorem okX11_within : okM mX11_within 3 := ⟨wi_X11, tblG_mem (List.mem_of_getElem? (i := 568) (by decide +kernel)) (by decide +kernel), ⟨by decide +kernel, by decide +kernel, by decide +kernel⟩, by decide⟩
theorem isX11_within : Cond.static yX11_within ∈ tblG := tblG_mem (List.mem_of_getElem? (i := 567) (by decide +kernel)) (by decide +kernel)
abbrev mX11_word : MD := (yX11_word, cX11_word, 7, some .int)
theorem okX11_word : okM mX11_word 6 := ⟨wi_X11, tblG_mem (List.mem_of_getElem? (i := 572) (by decide +kernel)) (by decide +kernel), ⟨by decide +kernel, by decide +kernel, by decide +kernel⟩, by decide⟩
theorem isX11_word : Cond.instanceMethod yX11_word ∈ tblG ∧ Cond.selects yX11_word.cls yX11_word yX11_word ∈ tblG := ⟨tblG_mem (List.mem_of_getElem? (i := 570) (by decide +kernel)) (by decide +kernel), tblG_mem (List.mem_of_getElem? (i := 571) (by decide +kernel)) (by decide +kernel)⟩
abbrev mX10_addWord : MD := (yX10_addWord, cX10_addWord, 8, some .int)
theorem okX10_addWord : okM mX10_addWord 6 := ⟨wi_X10, tblG_mem (List.mem_of_getElem? (i := 576) (by decide +kernel)) (by decide +kernel), ⟨by decide +kernel, by decide +kernel, by decide +kernel⟩, by decide⟩
theorem isX10_addWord : Cond.instanceMethod yX10_addWord ∈ tblG ∧ Cond.selects yX10_addWord.cls yX10_addWord yX10_addWord ∈ tblG := ⟨tblG_mem (List.mem_of_getElem? (i := 574) (by decide +kernel)) (by decide +kernel), tblG_mem (List.mem_of_getElem? (i := 575) (by decide +kernel)) (by decide +kernel)⟩
abbrev mX2_addWord : MD := (yX2_addWord, cX2_addWord, 10, some .int)
theorem okX2_addWord : okM mX2_addWord 6 := ⟨wi_X2, tblG_mem (List.mem_of_getElem? (i := 580) (by decide +kernel)) (by decide +kernel), ⟨by decide +kernel, by decide +kernel, by decide +kernel⟩, by decide⟩
theorem isX2_addWord : Cond.instanceMethod yX2_addWord ∈ tblG ∧ Cond.selects yX2_addWord.cls yX2_addWord yX2_addWord ∈ tblG := ⟨tblG_mem (List.mem_of_getElem? (i := 578) (by decide +kernel)) (by decide +kernel), tblG_mem (List.mem_of_getElem? (i := 579) (by decide +kernel)) (by decide +kernel)⟩
abbrev mX2_hasBell : MD := (yX2_hasBell, cX2_hasBell, 2, some .boolean)
theorem okX2_hasBell : okM mX2_hasBell 1 := ⟨wi_X2, tblG_mem (List.mem_of_getElem? (i := 584) (by decide +kernel)) (by decide +kernel), ⟨by decide +kernel, by decide +kernel, by decide +kernel⟩, by decide⟩
theorem isX2_hasBell : Cond.instanceMethod yX2_hasBell ∈ tblG ∧ Cond.selects yX2_hasBell.cls yX2_hasBell yX2_hasBell ∈ tblG := ⟨tblG_mem (List.mem_of_getElem? (i := 582) (by decide +kernel)) (by decide +kernel), tblG_mem (List.mem_of_getElem? (i := 583) (by decide +kernel)) (by decide +kernel)⟩
abbrev mX9_startWord : MD := (yX9_startWord, cX9_startWord, 2, none)
theorem okX9_startWord : okM mX9_startWord 1 := ⟨wi_X9, tblG_mem (List.mem_of_getElem? (i := 588) (by decide +kernel)) (by decide +kernel), ⟨by decide +kernel, by decide +kernel, by decide +kernel⟩, by decide⟩
theorem isX9_startWord : Cond.instanceMethod yX9_startWord ∈ tblG ∧ Cond.selects yX9_startWord.cls yX9_startWord yX9_startWord ∈ tblG := ⟨tblG_mem (List.mem_of_getElem? (i := 586) (by decide +kernel)) (by decide +kernel), tblG_mem (List.mem_of_getElem? (i := 587) (by decide +kernel)) (by decide +kernel)⟩
abbrev mX11_hands : MD := (yX11_hands, cX11_hands, 2, some .boolean)
theorem okX11_hands : okM mX11_hands 1 := ⟨wi_X11, tblG_mem (List.mem_of_getElem? (i := 592) (by decide +kernel)) (by decide +kernel), ⟨by decide +kernel, by decide +kernel, by decide +kernel⟩, by decide⟩
theorem isX11_hands : Cond.instanceMethod yX11_hands ∈ tblG ∧ Cond.selects yX11_hands.cls yX11_hands yX11_hands ∈ tblG := ⟨tblG_mem (List.mem_of_getElem? (i := 590) (by decide +kernel)) (by decide +kernel), tblG_mem (List.mem_of_getElem? (i := 591) (by decide +kernel)) (by decide +kernel)⟩
abbrev mX11_feed : MD := (yX11_feed, cX11_feed, 6, some .int)
theorem okX11_feed : okM mX11_feed 5 := ⟨wi_X11, tblG_mem (List.mem_of_getElem? (i := 597) (by decide +kernel)) (by decide +kernel), ⟨by decide +kernel, by decide +kernel, by decide +kernel⟩, by decide⟩
theorem isX11_feed : Cond.instanceMethod yX11_feed ∈ tblG ∧ Cond.selects yX11_feed.cls yX11_feed yX11_feed ∈ tblG := ⟨tblG_mem (List.mem_of_getElem? (i := 595) (by decide +kernel)) (by decide +kernel), tblG_mem (List.mem_of_getElem? (i := 596) (by decide +kernel)) (by decide +kernel)⟩
abbrev mX7_append : MD := (yX7_append, cX7_append, 3, none)
theorem okX7_append : okM mX7_append 1 := ⟨wi_X7, tblG_mem (List.mem_of_getElem? (i := 601) (by decide +kernel)) (by decide +kernel), ⟨by decide +kernel, by decide +kernel, by decide +kernel⟩, by decide⟩
theorem isX7_append : Cond.instanceMethod yX7_append ∈ tblG ∧ Cond.selects yX7_append.cls yX7_append yX7_append ∈ tblG := ⟨tblG_mem (List.mem_of_getElem? (i := 599) (by decide +kernel)) (by decide +kernel), tblG_mem (List.mem_of_getElem? (i := 600) (by decide +kernel)) (by decide +kernel)⟩
abbrev mX11_end : MD := (yX11_end, cX11_end, 2, some .int)
theorem okX11_end : okM mX11_end 1 := ⟨wi_X11, tblG_mem (List.mem_of_getElem? (i := 605) (by decide +kernel)) (by decide +kernel), ⟨by decide +kernel, by decide +kernel, by decide +kernel⟩, by decide⟩
theorem isX11_end : Cond.instanceMethod yX11_end ∈ tblG ∧ Cond.selects yX11_end.cls yX11_end yX11_end ∈ tblG := ⟨tblG_mem (List.mem_of_getElem? (i := 603) (by decide +kernel)) (by decide +kernel), tblG_mem (List.mem_of_getElem? (i := 604) (by decide +kernel)) (by decide +kernel)⟩
abbrev mX11_text : MD := (yX11_text, cX11_text, 1, some .int)
theorem okX11_text : okM mX11_text 0 := ⟨wi_X11, tblG_mem (List.mem_of_getElem? (i := 609) (by decide +kernel)) (by decide +kernel), ⟨by decide +kernel, by decide +kernel, by decide +kernel⟩, by decide⟩
theorem isX11_text : Cond.instanceMethod yX11_text ∈ tblG ∧ Cond.selects yX11_text.cls yX11_text yX11_text ∈ tblG := ⟨tblG_mem (List.mem_of_getElem? (i := 607) (by decide +kernel)) (by decide +kernel), tblG_mem (List.mem_of_getElem? (i := 608) (by decide +kernel)) (by decide +kernel)⟩
abbrev mX3_reads : MD := (yX3_reads, cX3_reads, 3, some .boolean)
theorem okX3_reads : okM mX3_reads 1 := ⟨wi_X3, tblG_mem (List.mem_of_getElem? (i := 613) (by decide +kernel)) (by decide +kernel), ⟨by decide +kernel, by decide +kernel, by decide +kernel⟩, by decide⟩
theorem isX3_reads : Cond.instanceMethod yX3_reads ∈ tblG ∧ Cond.selects yX3_reads.cls yX3_reads yX3_reads ∈ tblG := ⟨tblG_mem (List.mem_of_getElem? (i := 611) (by decide +kernel)) (by decide +kernel), tblG_mem (List.mem_of_getElem? (i := 612) (by decide +kernel)) (by decide +kernel)⟩
abbrev mX8_clear : MD := (yX8_clear, cX8_clear, 1, none)
theorem okX8_clear : okM mX8_clear 0 := ⟨wi_X8, tblG_mem (List.mem_of_getElem? (i := 617) (by decide +kernel)) (by decide +kernel), ⟨by decide +kernel, by decide +kernel, by decide +kernel⟩, by decide⟩
theorem isX8_clear : Cond.instanceMethod yX8_clear ∈ tblG ∧ Cond.selects yX8_clear.cls yX8_clear yX8_clear ∈ tblG := ⟨tblG_mem (List.mem_of_getElem? (i := 615) (by decide +kernel)) (by decide +kernel), tblG_mem (List.mem_of_getElem? (i := 616) (by decide +kernel)) (by decide +kernel)⟩
abbrev mJ7_fill_53178 : MD := (yJ7_fill_53178, cJ7_fill_53178, 4, none)
theorem okJ7_fill_53178 : okM mJ7_fill_53178 2 := ⟨wi_J7, tblG_mem (List.mem_of_getElem? (i := 620) (by decide +kernel)) (by decide +kernel), ⟨by decide +kernel, by decide +kernel, by decide +kernel⟩, by decide⟩
theorem isJ7_fill_53178 : Cond.static yJ7_fill_53178 ∈ tblG := tblG_mem (List.mem_of_getElem? (i := 619) (by decide +kernel)) (by decide +kernel)
abbrev mX7_scan : MD := (yX7_scan, cX7_scan, 5, none)
theorem okX7_scan : okM mX7_scan 0 := ⟨wi_X7, tblG_mem (List.mem_of_getElem? (i := 624) (by decide +kernel)) (by decide +kernel), ⟨by decide +kernel, by decide +kernel, by decide +kernel⟩, by decide⟩
theorem isX7_scan : Cond.instanceMethod yX7_scan ∈ tblG ∧ Cond.selects yX7_scan.cls yX7_scan yX7_scan ∈ tblG := ⟨tblG_mem (List.mem_of_getElem? (i := 622) (by decide +kernel)) (by decide +kernel), tblG_mem (List.mem_of_getElem? (i := 623) (by decide +kernel)) (by decide +kernel)⟩
abbrev mX7_sortOf : MD := (yX7_sortOf, cX7_sortOf, 2, some .int)
theorem okX7_sortOf : okM mX7_sortOf 1 := ⟨wi_X7, tblG_mem (List.mem_of_getElem? (i := 627) (by decide +kernel)) (by decide +kernel), ⟨by decide +kernel, by decide +kernel, by decide +kernel⟩, by decide⟩
theorem isX7_sortOf : Cond.static yX7_sortOf ∈ tblG := tblG_mem (List.mem_of_getElem? (i := 626) (by decide +kernel)) (by decide +kernel)
abbrev mX7_tokenOf : MD := (yX7_tokenOf, cX7_tokenOf, 4, some .int)
theorem okX7_tokenOf : okM mX7_tokenOf 3 := ⟨wi_X7, tblG_mem (List.mem_of_getElem? (i := 631) (by decide +kernel)) (by decide +kernel), ⟨by decide +kernel, by decide +kernel, by decide +kernel⟩, by decide⟩
theorem isX7_tokenOf : Cond.instanceMethod yX7_tokenOf ∈ tblG ∧ Cond.selects yX7_tokenOf.cls yX7_tokenOf yX7_tokenOf ∈ tblG := ⟨tblG_mem (List.mem_of_getElem? (i := 630) (by decide +kernel)) (by decide +kernel), tblG_mem (List.mem_of_getElem? (i := 0) (by decide +kernel)) (by decide +kernel)⟩
abbrev mX7_keywordOf : MD := (yX7_keywordOf, cX7_keywordOf, 5, some .int)
theorem okX7_keywordOf : okM mX7_keywordOf 2 := ⟨wi_X7, tblG_mem (List.mem_of_getElem? (i := 635) (by decide +kernel)) (by decide +kernel), ⟨by decide +kernel, by decide +kernel, by decide +kernel⟩, by decide⟩
theorem isX7_keywordOf : Cond.instanceMethod yX7_keywordOf ∈ tblG ∧ Cond.selects yX7_keywordOf.cls yX7_keywordOf yX7_keywordOf ∈ tblG := ⟨tblG_mem (List.mem_of_getElem? (i := 634) (by decide +kernel)) (by decide +kernel), tblG_mem (List.mem_of_getElem? (i := 1) (by decide +kernel)) (by decide +kernel)⟩
abbrev mX7_symbolOf : MD := (yX7_symbolOf, cX7_symbolOf, 4, some .int)
theorem okX7_symbolOf : okM mX7_symbolOf 1 := ⟨wi_X7, tblG_mem (List.mem_of_getElem? (i := 680) (by decide +kernel)) (by decide +kernel), ⟨by decide +kernel, by decide +kernel, by decide +kernel⟩, by decide⟩
theorem isX7_symbolOf : Cond.instanceMethod yX7_symbolOf ∈ tblG ∧ Cond.selects yX7_symbolOf.cls yX7_symbolOf yX7_symbolOf ∈ tblG := ⟨tblG_mem (List.mem_of_getElem? (i := 679) (by decide +kernel)) (by decide +kernel), tblG_mem (List.mem_of_getElem? (i := 2) (by decide +kernel)) (by decide +kernel)⟩
abbrev mJ9_max_7cf53 : MD := (yJ9_max_7cf53, cJ9_max_7cf53, 2, some .int)
theorem okJ9_max_7cf53 : okM mJ9_max_7cf53 2 := ⟨wi_J9, tblG_mem (List.mem_of_getElem? (i := 706) (by decide +kernel)) (by decide +kernel), ⟨by decide +kernel, by decide +kernel, by decide +kernel⟩, by decide⟩
theorem isJ9_max_7cf53 : Cond.static yJ9_max_7cf53 ∈ tblG := tblG_mem (List.mem_of_getElem? (i := 705) (by decide +kernel)) (by decide +kernel)
abbrev mJ9_min_7cf53 : MD := (yJ9_min_7cf53, cJ9_min_7cf53, 2, some .int)
theorem okJ9_min_7cf53 : okM mJ9_min_7cf53 2 := ⟨wi_J9, tblG_mem (List.mem_of_getElem? (i := 709) (by decide +kernel)) (by decide +kernel), ⟨by decide +kernel, by decide +kernel, by decide +kernel⟩, by decide⟩
theorem isJ9_min_7cf53 : Cond.static yJ9_min_7cf53 ∈ tblG := tblG_mem (List.mem_of_getElem? (i := 708) (by decide +kernel)) (by decide +kernel)
abbrev mX7_numberOf : MD := (yX7_numberOf, cX7_numberOf, 5, some .int)
theorem okX7_numberOf : okM mX7_numberOf 2 := ⟨wi_X7, tblG_mem (List.mem_of_getElem? (i := 751) (by decide +kernel)) (by decide +kernel), ⟨by decide +kernel, by decide +kernel, by decide +kernel⟩, by decide⟩
theorem isX7_numberOf : Cond.instanceMethod yX7_numberOf ∈ tblG ∧ Cond.selects yX7_numberOf.cls yX7_numberOf yX7_numberOf ∈ tblG := ⟨tblG_mem (List.mem_of_getElem? (i := 750) (by decide +kernel)) (by decide +kernel), tblG_mem (List.mem_of_getElem? (i := 3) (by decide +kernel)) (by decide +kernel)⟩
abbrev mX3_readClause : MD := (yX3_readClause, cX3_readClause, 3, none)
theorem okX3_readClause : okM mX3_readClause 0 := ⟨wi_X3, tblG_mem (List.mem_of_getElem? (i := 756) (by decide +kernel)) (by decide +kernel), ⟨by decide +kernel, by decide +kernel, by decide +kernel⟩, by decide⟩
theorem isX3_readClause : Cond.instanceMethod yX3_readClause ∈ tblG ∧ Cond.selects yX3_readClause.cls yX3_readClause yX3_readClause ∈ tblG := ⟨tblG_mem (List.mem_of_getElem? (i := 755) (by decide +kernel)) (by decide +kernel), tblG_mem (List.mem_of_getElem? (i := 4) (by decide +kernel)) (by decide +kernel)⟩
abbrev mX3_fail : MD := (yX3_fail, cX3_fail, 2, none)
theorem okX3_fail : okM mX3_fail 1 := ⟨wi_X3, tblG_mem (List.mem_of_getElem? (i := 760) (by decide +kernel)) (by decide +kernel), ⟨by decide +kernel, by decide +kernel, by decide +kernel⟩, by decide⟩
theorem isX3_fail : Cond.instanceMethod yX3_fail ∈ tblG ∧ Cond.selects yX3_fail.cls yX3_fail yX3_fail ∈ tblG := ⟨tblG_mem (List.mem_of_getElem? (i := 759) (by decide +kernel)) (by decide +kernel), tblG_mem (List.mem_of_getElem? (i := 5) (by decide +kernel)) (by decide +kernel)⟩
abbrev mX8_hasLaw : MD := (yX8_hasLaw, cX8_hasLaw, 2, some .boolean)
theorem okX8_hasLaw : okM mX8_hasLaw 1 := ⟨wi_X8, tblG_mem (List.mem_of_getElem? (i := 764) (by decide +kernel)) (by decide +kernel), ⟨by decide +kernel, by decide +kernel, by decide +kernel⟩, by decide⟩
theorem isX8_hasLaw : Cond.instanceMethod yX8_hasLaw ∈ tblG ∧ Cond.selects yX8_hasLaw.cls yX8_hasLaw yX8_hasLaw ∈ tblG := ⟨tblG_mem (List.mem_of_getElem? (i := 762) (by decide +kernel)) (by decide +kernel), tblG_mem (List.mem_of_getElem? (i := 763) (by decide +kernel)) (by decide +kernel)⟩
abbrev mX8_startClause : MD := (yX8_startClause, cX8_startClause, 3, none)
theorem okX8_startClause : okM mX8_startClause 1 := ⟨wi_X8, tblG_mem (List.mem_of_getElem? (i := 768) (by decide +kernel)) (by decide +kernel), ⟨by decide +kernel, by decide +kernel, by decide +kernel⟩, by decide⟩
theorem isX8_startClause : Cond.instanceMethod yX8_startClause ∈ tblG ∧ Cond.selects yX8_startClause.cls yX8_startClause yX8_startClause ∈ tblG := ⟨tblG_mem (List.mem_of_getElem? (i := 766) (by decide +kernel)) (by decide +kernel), tblG_mem (List.mem_of_getElem? (i := 767) (by decide +kernel)) (by decide +kernel)⟩
abbrev mX3_advance : MD := (yX3_advance, cX3_advance, 1, none)
theorem okX3_advance : okM mX3_advance 0 := ⟨wi_X3, tblG_mem (List.mem_of_getElem? (i := 772) (by decide +kernel)) (by decide +kernel), ⟨by decide +kernel, by decide +kernel, by decide +kernel⟩, by decide⟩
theorem isX3_advance : Cond.instanceMethod yX3_advance ∈ tblG ∧ Cond.selects yX3_advance.cls yX3_advance yX3_advance ∈ tblG := ⟨tblG_mem (List.mem_of_getElem? (i := 771) (by decide +kernel)) (by decide +kernel), tblG_mem (List.mem_of_getElem? (i := 6) (by decide +kernel)) (by decide +kernel)⟩
abbrev mX3_readLaw : MD := (yX3_readLaw, cX3_readLaw, 3, none)
theorem okX3_readLaw : okM mX3_readLaw 1 := ⟨wi_X3, tblG_mem (List.mem_of_getElem? (i := 776) (by decide +kernel)) (by decide +kernel), ⟨by decide +kernel, by decide +kernel, by decide +kernel⟩, by decide⟩
theorem isX3_readLaw : Cond.instanceMethod yX3_readLaw ∈ tblG ∧ Cond.selects yX3_readLaw.cls yX3_readLaw yX3_readLaw ∈ tblG := ⟨tblG_mem (List.mem_of_getElem? (i := 775) (by decide +kernel)) (by decide +kernel), tblG_mem (List.mem_of_getElem? (i := 7) (by decide +kernel)) (by decide +kernel)⟩
abbrev mX3_readValue : MD := (yX3_readValue, cX3_readValue, 2, none)
theorem okX3_readValue : okM mX3_readValue 1 := ⟨wi_X3, tblG_mem (List.mem_of_getElem? (i := 780) (by decide +kernel)) (by decide +kernel), ⟨by decide +kernel, by decide +kernel, by decide +kernel⟩, by decide⟩
theorem isX3_readValue : Cond.instanceMethod yX3_readValue ∈ tblG ∧ Cond.selects yX3_readValue.cls yX3_readValue yX3_readValue ∈ tblG := ⟨tblG_mem (List.mem_of_getElem? (i := 779) (by decide +kernel)) (by decide +kernel), tblG_mem (List.mem_of_getElem? (i := 8) (by decide +kernel)) (by decide +kernel)⟩
abbrev mX3_putValue : MD := (yX3_putValue, cX3_putValue, 2, none)
theorem okX3_putValue : okM mX3_putValue 1 := ⟨wi_X3, tblG_mem (List.mem_of_getElem? (i := 784) (by decide +kernel)) (by decide +kernel), ⟨by decide +kernel, by decide +kernel, by decide +kernel⟩, by decide⟩
theorem isX3_putValue : Cond.instanceMethod yX3_putValue ∈ tblG ∧ Cond.selects yX3_putValue.cls yX3_putValue yX3_putValue ∈ tblG := ⟨tblG_mem (List.mem_of_getElem? (i := 783) (by decide +kernel)) (by decide +kernel), tblG_mem (List.mem_of_getElem? (i := 9) (by decide +kernel)) (by decide +kernel)⟩
abbrev mX8_emit : MD := (yX8_emit, cX8_emit, 2, none)
theorem okX8_emit : okM mX8_emit 1 := ⟨wi_X8, tblG_mem (List.mem_of_getElem? (i := 788) (by decide +kernel)) (by decide +kernel), ⟨by decide +kernel, by decide +kernel, by decide +kernel⟩, by decide⟩
theorem isX8_emit : Cond.instanceMethod yX8_emit ∈ tblG ∧ Cond.selects yX8_emit.cls yX8_emit yX8_emit ∈ tblG := ⟨tblG_mem (List.mem_of_getElem? (i := 786) (by decide +kernel)) (by decide +kernel), tblG_mem (List.mem_of_getElem? (i := 787) (by decide +kernel)) (by decide +kernel)⟩
abbrev mX3_putOpen : MD := (yX3_putOpen, cX3_putOpen, 2, none)
theorem okX3_putOpen : okM mX3_putOpen 1 := ⟨wi_X3, tblG_mem (List.mem_of_getElem? (i := 792) (by decide +kernel)) (by decide +kernel), ⟨by decide +kernel, by decide +kernel, by decide +kernel⟩, by decide⟩
theorem isX3_putOpen : Cond.instanceMethod yX3_putOpen ∈ tblG ∧ Cond.selects yX3_putOpen.cls yX3_putOpen yX3_putOpen ∈ tblG := ⟨tblG_mem (List.mem_of_getElem? (i := 791) (by decide +kernel)) (by decide +kernel), tblG_mem (List.mem_of_getElem? (i := 10) (by decide +kernel)) (by decide +kernel)⟩
abbrev mX3_putWaiting : MD := (yX3_putWaiting, cX3_putWaiting, 2, none)
theorem okX3_putWaiting : okM mX3_putWaiting 1 := ⟨wi_X3, tblG_mem (List.mem_of_getElem? (i := 796) (by decide +kernel)) (by decide +kernel), ⟨by decide +kernel, by decide +kernel, by decide +kernel⟩, by decide⟩
theorem isX3_putWaiting : Cond.instanceMethod yX3_putWaiting ∈ tblG ∧ Cond.selects yX3_putWaiting.cls yX3_putWaiting yX3_putWaiting ∈ tblG := ⟨tblG_mem (List.mem_of_getElem? (i := 795) (by decide +kernel)) (by decide +kernel), tblG_mem (List.mem_of_getElem? (i := 11) (by decide +kernel)) (by decide +kernel)⟩
abbrev mX3_readName : MD := (yX3_readName, cX3_readName, 3, none)
theorem okX3_readName : okM mX3_readName 1 := ⟨wi_X3, tblG_mem (List.mem_of_getElem? (i := 800) (by decide +kernel)) (by decide +kernel), ⟨by decide +kernel, by decide +kernel, by decide +kernel⟩, by decide⟩
theorem isX3_readName : Cond.instanceMethod yX3_readName ∈ tblG ∧ Cond.selects yX3_readName.cls yX3_readName yX3_readName ∈ tblG := ⟨tblG_mem (List.mem_of_getElem? (i := 799) (by decide +kernel)) (by decide +kernel), tblG_mem (List.mem_of_getElem? (i := 12) (by decide +kernel)) (by decide +kernel)⟩
abbrev mX3_namesOf : MD := (yX3_namesOf, cX3_namesOf, 1, some .int)
theorem okX3_namesOf : okM mX3_namesOf 1 := ⟨wi_X3, tblG_mem (List.mem_of_getElem? (i := 804) (by decide +kernel)) (by decide +kernel), ⟨by decide +kernel, by decide +kernel, by decide +kernel⟩, by decide⟩
theorem isX3_namesOf : Cond.static yX3_namesOf ∈ tblG := tblG_mem (List.mem_of_getElem? (i := 803) (by decide +kernel)) (by decide +kernel)
abbrev mX3_readOperator : MD := (yX3_readOperator, cX3_readOperator, 4, none)
theorem okX3_readOperator : okM mX3_readOperator 0 := ⟨wi_X3, tblG_mem (List.mem_of_getElem? (i := 811) (by decide +kernel)) (by decide +kernel), ⟨by decide +kernel, by decide +kernel, by decide +kernel⟩, by decide⟩
theorem isX3_readOperator : Cond.instanceMethod yX3_readOperator ∈ tblG ∧ Cond.selects yX3_readOperator.cls yX3_readOperator yX3_readOperator ∈ tblG := ⟨tblG_mem (List.mem_of_getElem? (i := 810) (by decide +kernel)) (by decide +kernel), tblG_mem (List.mem_of_getElem? (i := 13) (by decide +kernel)) (by decide +kernel)⟩
abbrev mX3_holdOf : MD := (yX3_holdOf, cX3_holdOf, 1, some .int)
theorem okX3_holdOf : okM mX3_holdOf 1 := ⟨wi_X3, tblG_mem (List.mem_of_getElem? (i := 814) (by decide +kernel)) (by decide +kernel), ⟨by decide +kernel, by decide +kernel, by decide +kernel⟩, by decide⟩
theorem isX3_holdOf : Cond.static yX3_holdOf ∈ tblG := tblG_mem (List.mem_of_getElem? (i := 813) (by decide +kernel)) (by decide +kernel)
abbrev mX3_settle : MD := (yX3_settle, cX3_settle, 3, none)
theorem okX3_settle : okM mX3_settle 1 := ⟨wi_X3, tblG_mem (List.mem_of_getElem? (i := 818) (by decide +kernel)) (by decide +kernel), ⟨by decide +kernel, by decide +kernel, by decide +kernel⟩, by decide⟩
theorem isX3_settle : Cond.instanceMethod yX3_settle ∈ tblG ∧ Cond.selects yX3_settle.cls yX3_settle yX3_settle ∈ tblG := ⟨tblG_mem (List.mem_of_getElem? (i := 817) (by decide +kernel)) (by decide +kernel), tblG_mem (List.mem_of_getElem? (i := 14) (by decide +kernel)) (by decide +kernel)⟩
abbrev mX3_readNumbers : MD := (yX3_readNumbers, cX3_readNumbers, 2, none)
theorem okX3_readNumbers : okM mX3_readNumbers 1 := ⟨wi_X3, tblG_mem (List.mem_of_getElem? (i := 823) (by decide +kernel)) (by decide +kernel), ⟨by decide +kernel, by decide +kernel, by decide +kernel⟩, by decide⟩
theorem isX3_readNumbers : Cond.instanceMethod yX3_readNumbers ∈ tblG ∧ Cond.selects yX3_readNumbers.cls yX3_readNumbers yX3_readNumbers ∈ tblG := ⟨tblG_mem (List.mem_of_getElem? (i := 822) (by decide +kernel)) (by decide +kernel), tblG_mem (List.mem_of_getElem? (i := 15) (by decide +kernel)) (by decide +kernel)⟩
abbrev mX3_number : MD := (yX3_number, cX3_number, 3, none)
theorem okX3_number : okM mX3_number 2 := ⟨wi_X3, tblG_mem (List.mem_of_getElem? (i := 827) (by decide +kernel)) (by decide +kernel), ⟨by decide +kernel, by decide +kernel, by decide +kernel⟩, by decide⟩
theorem isX3_number : Cond.instanceMethod yX3_number ∈ tblG ∧ Cond.selects yX3_number.cls yX3_number yX3_number ∈ tblG := ⟨tblG_mem (List.mem_of_getElem? (i := 826) (by decide +kernel)) (by decide +kernel), tblG_mem (List.mem_of_getElem? (i := 16) (by decide +kernel)) (by decide +kernel)⟩
abbrev mX8_tell : MD := (yX8_tell, cX8_tell, 2, none)
theorem okX8_tell : okM mX8_tell 1 := ⟨wi_X8, tblG_mem (List.mem_of_getElem? (i := 832) (by decide +kernel)) (by decide +kernel), ⟨by decide +kernel, by decide +kernel, by decide +kernel⟩, by decide⟩
theorem isX8_tell : Cond.instanceMethod yX8_tell ∈ tblG ∧ Cond.selects yX8_tell.cls yX8_tell yX8_tell ∈ tblG := ⟨tblG_mem (List.mem_of_getElem? (i := 830) (by decide +kernel)) (by decide +kernel), tblG_mem (List.mem_of_getElem? (i := 831) (by decide +kernel)) (by decide +kernel)⟩
abbrev mX3_pass : MD := (yX3_pass, cX3_pass, 2, none)
theorem okX3_pass : okM mX3_pass 1 := ⟨wi_X3, tblG_mem (List.mem_of_getElem? (i := 836) (by decide +kernel)) (by decide +kernel), ⟨by decide +kernel, by decide +kernel, by decide +kernel⟩, by decide⟩
theorem isX3_pass : Cond.instanceMethod yX3_pass ∈ tblG ∧ Cond.selects yX3_pass.cls yX3_pass yX3_pass ∈ tblG := ⟨tblG_mem (List.mem_of_getElem? (i := 835) (by decide +kernel)) (by decide +kernel), tblG_mem (List.mem_of_getElem? (i := 17) (by decide +kernel)) (by decide +kernel)⟩
abbrev mX3_readBells : MD := (yX3_readBells, cX3_readBells, 2, none)
theorem okX3_readBells : okM mX3_readBells 0 := ⟨wi_X3, tblG_mem (List.mem_of_getElem? (i := 840) (by decide +kernel)) (by decide +kernel), ⟨by decide +kernel, by decide +kernel, by decide +kernel⟩, by decide⟩
theorem isX3_readBells : Cond.instanceMethod yX3_readBells ∈ tblG ∧ Cond.selects yX3_readBells.cls yX3_readBells yX3_readBells ∈ tblG := ⟨tblG_mem (List.mem_of_getElem? (i := 839) (by decide +kernel)) (by decide +kernel), tblG_mem (List.mem_of_getElem? (i := 18) (by decide +kernel)) (by decide +kernel)⟩
abbrev mX11_fault : MD := (yX11_fault, cX11_fault, 2, some .int)
theorem okX11_fault : okM mX11_fault 1 := ⟨wi_X11, tblG_mem (List.mem_of_getElem? (i := 844) (by decide +kernel)) (by decide +kernel), ⟨by decide +kernel, by decide +kernel, by decide +kernel⟩, by decide⟩
theorem isX11_fault : Cond.instanceMethod yX11_fault ∈ tblG ∧ Cond.selects yX11_fault.cls yX11_fault yX11_fault ∈ tblG := ⟨tblG_mem (List.mem_of_getElem? (i := 842) (by decide +kernel)) (by decide +kernel), tblG_mem (List.mem_of_getElem? (i := 843) (by decide +kernel)) (by decide +kernel)⟩
abbrev mX11_by : MD := (yX11_by, cX11_by, 2, some .boolean)
theorem okX11_by : okM mX11_by 1 := ⟨wi_X11, tblG_mem (List.mem_of_getElem? (i := 848) (by decide +kernel)) (by decide +kernel), ⟨by decide +kernel, by decide +kernel, by decide +kernel⟩, by decide⟩
theorem isX11_by : Cond.instanceMethod yX11_by ∈ tblG ∧ Cond.selects yX11_by.cls yX11_by yX11_by ∈ tblG := ⟨tblG_mem (List.mem_of_getElem? (i := 846) (by decide +kernel)) (by decide +kernel), tblG_mem (List.mem_of_getElem? (i := 847) (by decide +kernel)) (by decide +kernel)⟩
abbrev mX10_hasText : MD := (yX10_hasText, cX10_hasText, 2, some .boolean)
theorem okX10_hasText : okM mX10_hasText 1 := ⟨wi_X10, tblG_mem (List.mem_of_getElem? (i := 852) (by decide +kernel)) (by decide +kernel), ⟨by decide +kernel, by decide +kernel, by decide +kernel⟩, by decide⟩
theorem isX10_hasText : Cond.instanceMethod yX10_hasText ∈ tblG ∧ Cond.selects yX10_hasText.cls yX10_hasText yX10_hasText ∈ tblG := ⟨tblG_mem (List.mem_of_getElem? (i := 850) (by decide +kernel)) (by decide +kernel), tblG_mem (List.mem_of_getElem? (i := 851) (by decide +kernel)) (by decide +kernel)⟩
abbrev mX1_forget : MD := (yX1_forget, cX1_forget, 1, none)
theorem okX1_forget : okM mX1_forget 0 := ⟨wi_X1, tblG_mem (List.mem_of_getElem? (i := 856) (by decide +kernel)) (by decide +kernel), ⟨by decide +kernel, by decide +kernel, by decide +kernel⟩, by decide⟩
theorem isX1_forget : Cond.instanceMethod yX1_forget ∈ tblG ∧ Cond.selects yX1_forget.cls yX1_forget yX1_forget ∈ tblG := ⟨tblG_mem (List.mem_of_getElem? (i := 854) (by decide +kernel)) (by decide +kernel), tblG_mem (List.mem_of_getElem? (i := 855) (by decide +kernel)) (by decide +kernel)⟩
abbrev mX11_ring : MD := (yX11_ring, cX11_ring, 2, some .int)
theorem okX11_ring : okM mX11_ring 1 := ⟨wi_X11, tblG_mem (List.mem_of_getElem? (i := 861) (by decide +kernel)) (by decide +kernel), ⟨by decide +kernel, by decide +kernel, by decide +kernel⟩, by decide⟩
theorem isX11_ring : Cond.instanceMethod yX11_ring ∈ tblG ∧ Cond.selects yX11_ring.cls yX11_ring yX11_ring ∈ tblG := ⟨tblG_mem (List.mem_of_getElem? (i := 859) (by decide +kernel)) (by decide +kernel), tblG_mem (List.mem_of_getElem? (i := 860) (by decide +kernel)) (by decide +kernel)⟩
abbrev mX10_canStrike : MD := (yX10_canStrike, cX10_canStrike, 2, some .boolean)
theorem okX10_canStrike : okM mX10_canStrike 1 := ⟨wi_X10, tblG_mem (List.mem_of_getElem? (i := 865) (by decide +kernel)) (by decide +kernel), ⟨by decide +kernel, by decide +kernel, by decide +kernel⟩, by decide⟩
theorem isX10_canStrike : Cond.instanceMethod yX10_canStrike ∈ tblG ∧ Cond.selects yX10_canStrike.cls yX10_canStrike yX10_canStrike ∈ tblG := ⟨tblG_mem (List.mem_of_getElem? (i := 863) (by decide +kernel)) (by decide +kernel), tblG_mem (List.mem_of_getElem? (i := 864) (by decide +kernel)) (by decide +kernel)⟩
abbrev mX10_keepStep : MD := (yX10_keepStep, cX10_keepStep, 1, none)
theorem okX10_keepStep : okM mX10_keepStep 0 := ⟨wi_X10, tblG_mem (List.mem_of_getElem? (i := 870) (by decide +kernel)) (by decide +kernel), ⟨by decide +kernel, by decide +kernel, by decide +kernel⟩, by decide⟩
theorem isX10_keepStep : Cond.instanceMethod yX10_keepStep ∈ tblG ∧ Cond.selects yX10_keepStep.cls yX10_keepStep yX10_keepStep ∈ tblG := ⟨tblG_mem (List.mem_of_getElem? (i := 868) (by decide +kernel)) (by decide +kernel), tblG_mem (List.mem_of_getElem? (i := 869) (by decide +kernel)) (by decide +kernel)⟩
abbrev mX6_keep : MD := (yX6_keep, cX6_keep, 2, none)
theorem okX6_keep : okM mX6_keep 1 := ⟨wi_X6, tblG_mem (List.mem_of_getElem? (i := 874) (by decide +kernel)) (by decide +kernel), ⟨by decide +kernel, by decide +kernel, by decide +kernel⟩, by decide⟩
theorem isX6_keep : Cond.instanceMethod yX6_keep ∈ tblG ∧ Cond.selects yX6_keep.cls yX6_keep yX6_keep ∈ tblG := ⟨tblG_mem (List.mem_of_getElem? (i := 872) (by decide +kernel)) (by decide +kernel), tblG_mem (List.mem_of_getElem? (i := 873) (by decide +kernel)) (by decide +kernel)⟩
abbrev mX5_copyFrom : MD := (yX5_copyFrom, cX5_copyFrom, 2, none)
theorem okX5_copyFrom : okM mX5_copyFrom 1 := ⟨wi_X5, tblG_mem (List.mem_of_getElem? (i := 878) (by decide +kernel)) (by decide +kernel), ⟨by decide +kernel, by decide +kernel, by decide +kernel⟩, by decide⟩
theorem isX5_copyFrom : Cond.instanceMethod yX5_copyFrom ∈ tblG ∧ Cond.selects yX5_copyFrom.cls yX5_copyFrom yX5_copyFrom ∈ tblG := ⟨tblG_mem (List.mem_of_getElem? (i := 876) (by decide +kernel)) (by decide +kernel), tblG_mem (List.mem_of_getElem? (i := 877) (by decide +kernel)) (by decide +kernel)⟩
abbrev mX11_strike : MD := (yX11_strike, cX11_strike, 3, some .int)
theorem okX11_strike : okM mX11_strike 1 := ⟨wi_X11, tblG_mem (List.mem_of_getElem? (i := 885) (by decide +kernel)) (by decide +kernel), ⟨by decide +kernel, by decide +kernel, by decide +kernel⟩, by decide⟩
theorem isX11_strike : Cond.instanceMethod yX11_strike ∈ tblG ∧ Cond.selects yX11_strike.cls yX11_strike yX11_strike ∈ tblG := ⟨tblG_mem (List.mem_of_getElem? (i := 884) (by decide +kernel)) (by decide +kernel), tblG_mem (List.mem_of_getElem? (i := 19) (by decide +kernel)) (by decide +kernel)⟩
abbrev mX1_getsOver : MD := (yX1_getsOver, cX1_getsOver, 6, some .boolean)
theorem okX1_getsOver : okM mX1_getsOver 3 := ⟨wi_X1, tblG_mem (List.mem_of_getElem? (i := 889) (by decide +kernel)) (by decide +kernel), ⟨by decide +kernel, by decide +kernel, by decide +kernel⟩, by decide⟩
theorem isX1_getsOver : Cond.instanceMethod yX1_getsOver ∈ tblG ∧ Cond.selects yX1_getsOver.cls yX1_getsOver yX1_getsOver ∈ tblG := ⟨tblG_mem (List.mem_of_getElem? (i := 887) (by decide +kernel)) (by decide +kernel), tblG_mem (List.mem_of_getElem? (i := 888) (by decide +kernel)) (by decide +kernel)⟩
abbrev mX1_ruling : MD := (yX1_ruling, cX1_ruling, 1, some (.object "BellTongue$Text"))
theorem okX1_ruling : okM mX1_ruling 0 := ⟨wi_X1, tblG_mem (List.mem_of_getElem? (i := 894) (by decide +kernel)) (by decide +kernel), ⟨by decide +kernel, by decide +kernel, by decide +kernel⟩, by decide⟩
theorem isX1_ruling : Cond.instanceMethod yX1_ruling ∈ tblG ∧ Cond.selects yX1_ruling.cls yX1_ruling yX1_ruling ∈ tblG := ⟨tblG_mem (List.mem_of_getElem? (i := 893) (by decide +kernel)) (by decide +kernel), tblG_mem (List.mem_of_getElem? (i := 20) (by decide +kernel)) (by decide +kernel)⟩
abbrev mX1_name : MD := (yX1_name, cX1_name, 3, none)
theorem okX1_name : okM mX1_name 2 := ⟨wi_X1, tblG_mem (List.mem_of_getElem? (i := 900) (by decide +kernel)) (by decide +kernel), ⟨by decide +kernel, by decide +kernel, by decide +kernel⟩, by decide⟩
theorem isX1_name : Cond.instanceMethod yX1_name ∈ tblG ∧ Cond.selects yX1_name.cls yX1_name yX1_name ∈ tblG := ⟨tblG_mem (List.mem_of_getElem? (i := 899) (by decide +kernel)) (by decide +kernel), tblG_mem (List.mem_of_getElem? (i := 21) (by decide +kernel)) (by decide +kernel)⟩
abbrev mX1_says : MD := (yX1_says, cX1_says, 6, some .boolean)
theorem okX1_says : okM mX1_says 2 := ⟨wi_X1, tblG_mem (List.mem_of_getElem? (i := 904) (by decide +kernel)) (by decide +kernel), ⟨by decide +kernel, by decide +kernel, by decide +kernel⟩, by decide⟩
theorem isX1_says : Cond.instanceMethod yX1_says ∈ tblG ∧ Cond.selects yX1_says.cls yX1_says yX1_says ∈ tblG := ⟨tblG_mem (List.mem_of_getElem? (i := 903) (by decide +kernel)) (by decide +kernel), tblG_mem (List.mem_of_getElem? (i := 22) (by decide +kernel)) (by decide +kernel)⟩
abbrev mX1_isJoint : MD := (yX1_isJoint, cX1_isJoint, 1, some .boolean)
theorem okX1_isJoint : okM mX1_isJoint 1 := ⟨wi_X1, tblG_mem (List.mem_of_getElem? (i := 907) (by decide +kernel)) (by decide +kernel), ⟨by decide +kernel, by decide +kernel, by decide +kernel⟩, by decide⟩
theorem isX1_isJoint : Cond.static yX1_isJoint ∈ tblG := tblG_mem (List.mem_of_getElem? (i := 906) (by decide +kernel)) (by decide +kernel)
abbrev mX1_power : MD := (yX1_power, cX1_power, 5, some .int)
theorem okX1_power : okM mX1_power 2 := ⟨wi_X1, tblG_mem (List.mem_of_getElem? (i := 910) (by decide +kernel)) (by decide +kernel), ⟨by decide +kernel, by decide +kernel, by decide +kernel⟩, by decide⟩
theorem isX1_power : Cond.static yX1_power ∈ tblG := tblG_mem (List.mem_of_getElem? (i := 909) (by decide +kernel)) (by decide +kernel)
abbrev mX1_held : MD := (yX1_held, cX1_held, 2, some .int)
theorem okX1_held : okM mX1_held 1 := ⟨wi_X1, tblG_mem (List.mem_of_getElem? (i := 913) (by decide +kernel)) (by decide +kernel), ⟨by decide +kernel, by decide +kernel, by decide +kernel⟩, by decide⟩
theorem isX1_held : Cond.static yX1_held ∈ tblG := tblG_mem (List.mem_of_getElem? (i := 912) (by decide +kernel)) (by decide +kernel)
abbrev mX1_joined : MD := (yX1_joined, cX1_joined, 5, some .long)
theorem okX1_joined : okM mX1_joined 3 := ⟨wi_X1, tblG_mem (List.mem_of_getElem? (i := 920) (by decide +kernel)) (by decide +kernel), ⟨by decide +kernel, by decide +kernel, by decide +kernel⟩, by decide⟩
theorem isX1_joined : Cond.static yX1_joined ∈ tblG := tblG_mem (List.mem_of_getElem? (i := 919) (by decide +kernel)) (by decide +kernel)
abbrev mX5_addStroke : MD := (yX5_addStroke, cX5_addStroke, 3, some .int)
theorem okX5_addStroke : okM mX5_addStroke 2 := ⟨wi_X5, tblG_mem (List.mem_of_getElem? (i := 924) (by decide +kernel)) (by decide +kernel), ⟨by decide +kernel, by decide +kernel, by decide +kernel⟩, by decide⟩
theorem isX5_addStroke : Cond.instanceMethod yX5_addStroke ∈ tblG ∧ Cond.selects yX5_addStroke.cls yX5_addStroke yX5_addStroke ∈ tblG := ⟨tblG_mem (List.mem_of_getElem? (i := 922) (by decide +kernel)) (by decide +kernel), tblG_mem (List.mem_of_getElem? (i := 923) (by decide +kernel)) (by decide +kernel)⟩
abbrev mX11_speak : MD := (yX11_speak, cX11_speak, 2, some .int)
theorem okX11_speak : okM mX11_speak 1 := ⟨wi_X11, tblG_mem (List.mem_of_getElem? (i := 928) (by decide +kernel)) (by decide +kernel), ⟨by decide +kernel, by decide +kernel, by decide +kernel⟩, by decide⟩
theorem isX11_speak : Cond.instanceMethod yX11_speak ∈ tblG ∧ Cond.selects yX11_speak.cls yX11_speak yX11_speak ∈ tblG := ⟨tblG_mem (List.mem_of_getElem? (i := 926) (by decide +kernel)) (by decide +kernel), tblG_mem (List.mem_of_getElem? (i := 927) (by decide +kernel)) (by decide +kernel)⟩
abbrev mX10_canSay : MD := (yX10_canSay, cX10_canSay, 2, some .boolean)
theorem okX10_canSay : okM mX10_canSay 1 := ⟨wi_X10, tblG_mem (List.mem_of_getElem? (i := 932) (by decide +kernel)) (by decide +kernel), ⟨by decide +kernel, by decide +kernel, by decide +kernel⟩, by decide⟩
theorem isX10_canSay : Cond.instanceMethod yX10_canSay ∈ tblG ∧ Cond.selects yX10_canSay.cls yX10_canSay yX10_canSay ∈ tblG := ⟨tblG_mem (List.mem_of_getElem? (i := 930) (by decide +kernel)) (by decide +kernel), tblG_mem (List.mem_of_getElem? (i := 931) (by decide +kernel)) (by decide +kernel)⟩
abbrev mX2_hasWord : MD := (yX2_hasWord, cX2_hasWord, 2, some .boolean)
theorem okX2_hasWord : okM mX2_hasWord 1 := ⟨wi_X2, tblG_mem (List.mem_of_getElem? (i := 936) (by decide +kernel)) (by decide +kernel), ⟨by decide +kernel, by decide +kernel, by decide +kernel⟩, by decide⟩
theorem isX2_hasWord : Cond.instanceMethod yX2_hasWord ∈ tblG ∧ Cond.selects yX2_hasWord.cls yX2_hasWord yX2_hasWord ∈ tblG := ⟨tblG_mem (List.mem_of_getElem? (i := 934) (by decide +kernel)) (by decide +kernel), tblG_mem (List.mem_of_getElem? (i := 935) (by decide +kernel)) (by decide +kernel)⟩
abbrev mX2_menFor : MD := (yX2_menFor, cX2_menFor, 5, some .int)
theorem okX2_menFor : okM mX2_menFor 1 := ⟨wi_X2, tblG_mem (List.mem_of_getElem? (i := 940) (by decide +kernel)) (by decide +kernel), ⟨by decide +kernel, by decide +kernel, by decide +kernel⟩, by decide⟩
theorem isX2_menFor : Cond.instanceMethod yX2_menFor ∈ tblG ∧ Cond.selects yX2_menFor.cls yX2_menFor yX2_menFor ∈ tblG := ⟨tblG_mem (List.mem_of_getElem? (i := 938) (by decide +kernel)) (by decide +kernel), tblG_mem (List.mem_of_getElem? (i := 939) (by decide +kernel)) (by decide +kernel)⟩
abbrev mX11_say : MD := (yX11_say, cX11_say, 7, some .int)
theorem okX11_say : okM mX11_say 1 := ⟨wi_X11, tblG_mem (List.mem_of_getElem? (i := 945) (by decide +kernel)) (by decide +kernel), ⟨by decide +kernel, by decide +kernel, by decide +kernel⟩, by decide⟩
theorem isX11_say : Cond.instanceMethod yX11_say ∈ tblG ∧ Cond.selects yX11_say.cls yX11_say yX11_say ∈ tblG := ⟨tblG_mem (List.mem_of_getElem? (i := 944) (by decide +kernel)) (by decide +kernel), tblG_mem (List.mem_of_getElem? (i := 23) (by decide +kernel)) (by decide +kernel)⟩
abbrev mX2_strokeOf : MD := (yX2_strokeOf, cX2_strokeOf, 3, some .int)
theorem okX2_strokeOf : okM mX2_strokeOf 2 := ⟨wi_X2, tblG_mem (List.mem_of_getElem? (i := 949) (by decide +kernel)) (by decide +kernel), ⟨by decide +kernel, by decide +kernel, by decide +kernel⟩, by decide⟩
theorem isX2_strokeOf : Cond.instanceMethod yX2_strokeOf ∈ tblG ∧ Cond.selects yX2_strokeOf.cls yX2_strokeOf yX2_strokeOf ∈ tblG := ⟨tblG_mem (List.mem_of_getElem? (i := 947) (by decide +kernel)) (by decide +kernel), tblG_mem (List.mem_of_getElem? (i := 948) (by decide +kernel)) (by decide +kernel)⟩
abbrev mX11_set : MD := (yX11_set, cX11_set, 5, some .boolean)
theorem okX11_set : okM mX11_set 2 := ⟨wi_X11, tblG_mem (List.mem_of_getElem? (i := 954) (by decide +kernel)) (by decide +kernel), ⟨by decide +kernel, by decide +kernel, by decide +kernel⟩, by decide⟩
theorem isX11_set : Cond.instanceMethod yX11_set ∈ tblG ∧ Cond.selects yX11_set.cls yX11_set yX11_set ∈ tblG := ⟨tblG_mem (List.mem_of_getElem? (i := 952) (by decide +kernel)) (by decide +kernel), tblG_mem (List.mem_of_getElem? (i := 953) (by decide +kernel)) (by decide +kernel)⟩
abbrev mX11_hour : MD := (yX11_hour, cX11_hour, 2, some .int)
theorem okX11_hour : okM mX11_hour 1 := ⟨wi_X11, tblG_mem (List.mem_of_getElem? (i := 958) (by decide +kernel)) (by decide +kernel), ⟨by decide +kernel, by decide +kernel, by decide +kernel⟩, by decide⟩
theorem isX11_hour : Cond.instanceMethod yX11_hour ∈ tblG ∧ Cond.selects yX11_hour.cls yX11_hour yX11_hour ∈ tblG := ⟨tblG_mem (List.mem_of_getElem? (i := 956) (by decide +kernel)) (by decide +kernel), tblG_mem (List.mem_of_getElem? (i := 957) (by decide +kernel)) (by decide +kernel)⟩
abbrev mX11_passHours : MD := (yX11_passHours, cX11_passHours, 3, some .boolean)
theorem okX11_passHours : okM mX11_passHours 1 := ⟨wi_X11, tblG_mem (List.mem_of_getElem? (i := 962) (by decide +kernel)) (by decide +kernel), ⟨by decide +kernel, by decide +kernel, by decide +kernel⟩, by decide⟩
theorem isX11_passHours : Cond.instanceMethod yX11_passHours ∈ tblG ∧ Cond.selects yX11_passHours.cls yX11_passHours yX11_passHours ∈ tblG := ⟨tblG_mem (List.mem_of_getElem? (i := 961) (by decide +kernel)) (by decide +kernel), tblG_mem (List.mem_of_getElem? (i := 24) (by decide +kernel)) (by decide +kernel)⟩
abbrev mX5_passHour : MD := (yX5_passHour, cX5_passHour, 1, none)
theorem okX5_passHour : okM mX5_passHour 0 := ⟨wi_X5, tblG_mem (List.mem_of_getElem? (i := 966) (by decide +kernel)) (by decide +kernel), ⟨by decide +kernel, by decide +kernel, by decide +kernel⟩, by decide⟩
theorem isX5_passHour : Cond.instanceMethod yX5_passHour ∈ tblG ∧ Cond.selects yX5_passHour.cls yX5_passHour yX5_passHour ∈ tblG := ⟨tblG_mem (List.mem_of_getElem? (i := 964) (by decide +kernel)) (by decide +kernel), tblG_mem (List.mem_of_getElem? (i := 965) (by decide +kernel)) (by decide +kernel)⟩
abbrev mX5_turn : MD := (yX5_turn, cX5_turn, 1, none)
theorem okX5_turn : okM mX5_turn 0 := ⟨wi_X5, tblG_mem (List.mem_of_getElem? (i := 970) (by decide +kernel)) (by decide +kernel), ⟨by decide +kernel, by decide +kernel, by decide +kernel⟩, by decide⟩
theorem isX5_turn : Cond.instanceMethod yX5_turn ∈ tblG ∧ Cond.selects yX5_turn.cls yX5_turn yX5_turn ∈ tblG := ⟨tblG_mem (List.mem_of_getElem? (i := 968) (by decide +kernel)) (by decide +kernel), tblG_mem (List.mem_of_getElem? (i := 969) (by decide +kernel)) (by decide +kernel)⟩
abbrev mX11_sunday : MD := (yX11_sunday, cX11_sunday, 1, some .int)
theorem okX11_sunday : okM mX11_sunday 0 := ⟨wi_X11, tblG_mem (List.mem_of_getElem? (i := 976) (by decide +kernel)) (by decide +kernel), ⟨by decide +kernel, by decide +kernel, by decide +kernel⟩, by decide⟩
theorem isX11_sunday : Cond.instanceMethod yX11_sunday ∈ tblG ∧ Cond.selects yX11_sunday.cls yX11_sunday yX11_sunday ∈ tblG := ⟨tblG_mem (List.mem_of_getElem? (i := 974) (by decide +kernel)) (by decide +kernel), tblG_mem (List.mem_of_getElem? (i := 975) (by decide +kernel)) (by decide +kernel)⟩
abbrev mX0_waysToRead : MD := (yX0_waysToRead, cX0_waysToRead, 8, some .int)
theorem okX0_waysToRead : okM mX0_waysToRead 1 := ⟨wi_X0, tblG_mem (List.mem_of_getElem? (i := 980) (by decide +kernel)) (by decide +kernel), ⟨by decide +kernel, by decide +kernel, by decide +kernel⟩, by decide⟩
theorem isX0_waysToRead : Cond.instanceMethod yX0_waysToRead ∈ tblG ∧ Cond.selects yX0_waysToRead.cls yX0_waysToRead yX0_waysToRead ∈ tblG := ⟨tblG_mem (List.mem_of_getElem? (i := 978) (by decide +kernel)) (by decide +kernel), tblG_mem (List.mem_of_getElem? (i := 979) (by decide +kernel)) (by decide +kernel)⟩
abbrev mX0_listen : MD := (yX0_listen, cX0_listen, 3, none)
theorem okX0_listen : okM mX0_listen 0 := ⟨wi_X0, tblG_mem (List.mem_of_getElem? (i := 984) (by decide +kernel)) (by decide +kernel), ⟨by decide +kernel, by decide +kernel, by decide +kernel⟩, by decide⟩
theorem isX0_listen : Cond.instanceMethod yX0_listen ∈ tblG ∧ Cond.selects yX0_listen.cls yX0_listen yX0_listen ∈ tblG := ⟨tblG_mem (List.mem_of_getElem? (i := 982) (by decide +kernel)) (by decide +kernel), tblG_mem (List.mem_of_getElem? (i := 983) (by decide +kernel)) (by decide +kernel)⟩
abbrev mX0_layWords : MD := (yX0_layWords, cX0_layWords, 5, none)
theorem okX0_layWords : okM mX0_layWords 0 := ⟨wi_X0, tblG_mem (List.mem_of_getElem? (i := 988) (by decide +kernel)) (by decide +kernel), ⟨by decide +kernel, by decide +kernel, by decide +kernel⟩, by decide⟩
theorem isX0_layWords : Cond.instanceMethod yX0_layWords ∈ tblG ∧ Cond.selects yX0_layWords.cls yX0_layWords yX0_layWords ∈ tblG := ⟨tblG_mem (List.mem_of_getElem? (i := 987) (by decide +kernel)) (by decide +kernel), tblG_mem (List.mem_of_getElem? (i := 25) (by decide +kernel)) (by decide +kernel)⟩
abbrev mX0_stands : MD := (yX0_stands, cX0_stands, 5, some .boolean)
theorem okX0_stands : okM mX0_stands 2 := ⟨wi_X0, tblG_mem (List.mem_of_getElem? (i := 993) (by decide +kernel)) (by decide +kernel), ⟨by decide +kernel, by decide +kernel, by decide +kernel⟩, by decide⟩
theorem isX0_stands : Cond.instanceMethod yX0_stands ∈ tblG ∧ Cond.selects yX0_stands.cls yX0_stands yX0_stands ∈ tblG := ⟨tblG_mem (List.mem_of_getElem? (i := 992) (by decide +kernel)) (by decide +kernel), tblG_mem (List.mem_of_getElem? (i := 26) (by decide +kernel)) (by decide +kernel)⟩
abbrev mX0_fitsAt : MD := (yX0_fitsAt, cX0_fitsAt, 3, some .boolean)
theorem okX0_fitsAt : okM mX0_fitsAt 2 := ⟨wi_X0, tblG_mem (List.mem_of_getElem? (i := 998) (by decide +kernel)) (by decide +kernel), ⟨by decide +kernel, by decide +kernel, by decide +kernel⟩, by decide⟩
theorem isX0_fitsAt : Cond.instanceMethod yX0_fitsAt ∈ tblG ∧ Cond.selects yX0_fitsAt.cls yX0_fitsAt yX0_fitsAt ∈ tblG := ⟨tblG_mem (List.mem_of_getElem? (i := 997) (by decide +kernel)) (by decide +kernel), tblG_mem (List.mem_of_getElem? (i := 27) (by decide +kernel)) (by decide +kernel)⟩
abbrev mX1_hasGrammar : MD := (yX1_hasGrammar, cX1_hasGrammar, 2, some .boolean)
theorem okX1_hasGrammar : okM mX1_hasGrammar 0 := ⟨wi_X1, tblG_mem (List.mem_of_getElem? (i := 1004) (by decide +kernel)) (by decide +kernel), ⟨by decide +kernel, by decide +kernel, by decide +kernel⟩, by decide⟩
theorem isX1_hasGrammar : Cond.instanceMethod yX1_hasGrammar ∈ tblG ∧ Cond.selects yX1_hasGrammar.cls yX1_hasGrammar yX1_hasGrammar ∈ tblG := ⟨tblG_mem (List.mem_of_getElem? (i := 1002) (by decide +kernel)) (by decide +kernel), tblG_mem (List.mem_of_getElem? (i := 1003) (by decide +kernel)) (by decide +kernel)⟩
abbrev mX0_cell : MD := (yX0_cell, cX0_cell, 3, some .int)
theorem okX0_cell : okM mX0_cell 3 := ⟨wi_X0, tblG_mem (List.mem_of_getElem? (i := 1007) (by decide +kernel)) (by decide +kernel), ⟨by decide +kernel, by decide +kernel, by decide +kernel⟩, by decide⟩
theorem isX0_cell : Cond.static yX0_cell ∈ tblG := tblG_mem (List.mem_of_getElem? (i := 1006) (by decide +kernel)) (by decide +kernel)
abbrev mX0_waysBehind : MD := (yX0_waysBehind, cX0_waysBehind, 8, some .int)
theorem okX0_waysBehind : okM mX0_waysBehind 3 := ⟨wi_X0, tblG_mem (List.mem_of_getElem? (i := 1011) (by decide +kernel)) (by decide +kernel), ⟨by decide +kernel, by decide +kernel, by decide +kernel⟩, by decide⟩
theorem isX0_waysBehind : Cond.instanceMethod yX0_waysBehind ∈ tblG ∧ Cond.selects yX0_waysBehind.cls yX0_waysBehind yX0_waysBehind ∈ tblG := ⟨tblG_mem (List.mem_of_getElem? (i := 1010) (by decide +kernel)) (by decide +kernel), tblG_mem (List.mem_of_getElem? (i := 28) (by decide +kernel)) (by decide +kernel)⟩
abbrev mX1_mayStand : MD := (yX1_mayStand, cX1_mayStand, 9, some .boolean)
theorem okX1_mayStand : okM mX1_mayStand 3 := ⟨wi_X1, tblG_mem (List.mem_of_getElem? (i := 1015) (by decide +kernel)) (by decide +kernel), ⟨by decide +kernel, by decide +kernel, by decide +kernel⟩, by decide⟩
theorem isX1_mayStand : Cond.instanceMethod yX1_mayStand ∈ tblG ∧ Cond.selects yX1_mayStand.cls yX1_mayStand yX1_mayStand ∈ tblG := ⟨tblG_mem (List.mem_of_getElem? (i := 1013) (by decide +kernel)) (by decide +kernel), tblG_mem (List.mem_of_getElem? (i := 1014) (by decide +kernel)) (by decide +kernel)⟩
abbrev mX1_namePair : MD := (yX1_namePair, cX1_namePair, 5, none)
theorem okX1_namePair : okM mX1_namePair 3 := ⟨wi_X1, tblG_mem (List.mem_of_getElem? (i := 1020) (by decide +kernel)) (by decide +kernel), ⟨by decide +kernel, by decide +kernel, by decide +kernel⟩, by decide⟩
theorem isX1_namePair : Cond.instanceMethod yX1_namePair ∈ tblG ∧ Cond.selects yX1_namePair.cls yX1_namePair yX1_namePair ∈ tblG := ⟨tblG_mem (List.mem_of_getElem? (i := 1019) (by decide +kernel)) (by decide +kernel), tblG_mem (List.mem_of_getElem? (i := 29) (by decide +kernel)) (by decide +kernel)⟩
abbrev mX5_writeSunday : MD := (yX5_writeSunday, cX5_writeSunday, 3, some .int)
theorem okX5_writeSunday : okM mX5_writeSunday 1 := ⟨wi_X5, tblG_mem (List.mem_of_getElem? (i := 1024) (by decide +kernel)) (by decide +kernel), ⟨by decide +kernel, by decide +kernel, by decide +kernel⟩, by decide⟩
theorem isX5_writeSunday : Cond.instanceMethod yX5_writeSunday ∈ tblG ∧ Cond.selects yX5_writeSunday.cls yX5_writeSunday yX5_writeSunday ∈ tblG := ⟨tblG_mem (List.mem_of_getElem? (i := 1022) (by decide +kernel)) (by decide +kernel), tblG_mem (List.mem_of_getElem? (i := 1023) (by decide +kernel)) (by decide +kernel)⟩
abbrev mX5_countHeard : MD := (yX5_countHeard, cX5_countHeard, 3, some .int)
theorem okX5_countHeard : okM mX5_countHeard 0 := ⟨wi_X5, tblG_mem (List.mem_of_getElem? (i := 1028) (by decide +kernel)) (by decide +kernel), ⟨by decide +kernel, by decide +kernel, by decide +kernel⟩, by decide⟩
theorem isX5_countHeard : Cond.instanceMethod yX5_countHeard ∈ tblG ∧ Cond.selects yX5_countHeard.cls yX5_countHeard yX5_countHeard ∈ tblG := ⟨tblG_mem (List.mem_of_getElem? (i := 1026) (by decide +kernel)) (by decide +kernel), tblG_mem (List.mem_of_getElem? (i := 1027) (by decide +kernel)) (by decide +kernel)⟩
abbrev mX11_played : MD := (yX11_played, cX11_played, 4, some .int)
theorem okX11_played : okM mX11_played 1 := ⟨wi_X11, tblG_mem (List.mem_of_getElem? (i := 1032) (by decide +kernel)) (by decide +kernel), ⟨by decide +kernel, by decide +kernel, by decide +kernel⟩, by decide⟩
theorem isX11_played : Cond.instanceMethod yX11_played ∈ tblG ∧ Cond.selects yX11_played.cls yX11_played yX11_played ∈ tblG := ⟨tblG_mem (List.mem_of_getElem? (i := 1030) (by decide +kernel)) (by decide +kernel), tblG_mem (List.mem_of_getElem? (i := 1031) (by decide +kernel)) (by decide +kernel)⟩
abbrev mX11_plays : MD := (yX11_plays, cX11_plays, 4, some .boolean)
theorem okX11_plays : okM mX11_plays 2 := ⟨wi_X11, tblG_mem (List.mem_of_getElem? (i := 1036) (by decide +kernel)) (by decide +kernel), ⟨by decide +kernel, by decide +kernel, by decide +kernel⟩, by decide⟩
theorem isX11_plays : Cond.instanceMethod yX11_plays ∈ tblG ∧ Cond.selects yX11_plays.cls yX11_plays yX11_plays ∈ tblG := ⟨tblG_mem (List.mem_of_getElem? (i := 1035) (by decide +kernel)) (by decide +kernel), tblG_mem (List.mem_of_getElem? (i := 30) (by decide +kernel)) (by decide +kernel)⟩
abbrev mX8_told : MD := (yX8_told, cX8_told, 3, some .int)
theorem okX8_told : okM mX8_told 2 := ⟨wi_X8, tblG_mem (List.mem_of_getElem? (i := 1040) (by decide +kernel)) (by decide +kernel), ⟨by decide +kernel, by decide +kernel, by decide +kernel⟩, by decide⟩
theorem isX8_told : Cond.instanceMethod yX8_told ∈ tblG ∧ Cond.selects yX8_told.cls yX8_told yX8_told ∈ tblG := ⟨tblG_mem (List.mem_of_getElem? (i := 1038) (by decide +kernel)) (by decide +kernel), tblG_mem (List.mem_of_getElem? (i := 1039) (by decide +kernel)) (by decide +kernel)⟩
abbrev mX8_what : MD := (yX8_what, cX8_what, 2, some .int)
theorem okX8_what : okM mX8_what 1 := ⟨wi_X8, tblG_mem (List.mem_of_getElem? (i := 1045) (by decide +kernel)) (by decide +kernel), ⟨by decide +kernel, by decide +kernel, by decide +kernel⟩, by decide⟩
theorem isX8_what : Cond.instanceMethod yX8_what ∈ tblG ∧ Cond.selects yX8_what.cls yX8_what yX8_what ∈ tblG := ⟨tblG_mem (List.mem_of_getElem? (i := 1043) (by decide +kernel)) (by decide +kernel), tblG_mem (List.mem_of_getElem? (i := 1044) (by decide +kernel)) (by decide +kernel)⟩
abbrev mX11_centuries : MD := (yX11_centuries, cX11_centuries, 5, some .int)
theorem okX11_centuries : okM mX11_centuries 2 := ⟨wi_X11, tblG_mem (List.mem_of_getElem? (i := 1053) (by decide +kernel)) (by decide +kernel), ⟨by decide +kernel, by decide +kernel, by decide +kernel⟩, by decide⟩
theorem isX11_centuries : Cond.instanceMethod yX11_centuries ∈ tblG ∧ Cond.selects yX11_centuries.cls yX11_centuries yX11_centuries ∈ tblG := ⟨tblG_mem (List.mem_of_getElem? (i := 1051) (by decide +kernel)) (by decide +kernel), tblG_mem (List.mem_of_getElem? (i := 1052) (by decide +kernel)) (by decide +kernel)⟩
abbrev mX11_chance : MD := (yX11_chance, cX11_chance, 4, none)
theorem okX11_chance : okM mX11_chance 0 := ⟨wi_X11, tblG_mem (List.mem_of_getElem? (i := 1057) (by decide +kernel)) (by decide +kernel), ⟨by decide +kernel, by decide +kernel, by decide +kernel⟩, by decide⟩
theorem isX11_chance : Cond.instanceMethod yX11_chance ∈ tblG ∧ Cond.selects yX11_chance.cls yX11_chance yX11_chance ∈ tblG := ⟨tblG_mem (List.mem_of_getElem? (i := 1056) (by decide +kernel)) (by decide +kernel), tblG_mem (List.mem_of_getElem? (i := 31) (by decide +kernel)) (by decide +kernel)⟩
abbrev mX11_undo : MD := (yX11_undo, cX11_undo, 1, some .int)
theorem okX11_undo : okM mX11_undo 0 := ⟨wi_X11, tblG_mem (List.mem_of_getElem? (i := 1062) (by decide +kernel)) (by decide +kernel), ⟨by decide +kernel, by decide +kernel, by decide +kernel⟩, by decide⟩
theorem isX11_undo : Cond.instanceMethod yX11_undo ∈ tblG ∧ Cond.selects yX11_undo.cls yX11_undo yX11_undo ∈ tblG := ⟨tblG_mem (List.mem_of_getElem? (i := 1060) (by decide +kernel)) (by decide +kernel), tblG_mem (List.mem_of_getElem? (i := 1061) (by decide +kernel)) (by decide +kernel)⟩
abbrev mX6_takeBack : MD := (yX6_takeBack, cX6_takeBack, 2, some .int)
theorem okX6_takeBack : okM mX6_takeBack 1 := ⟨wi_X6, tblG_mem (List.mem_of_getElem? (i := 1066) (by decide +kernel)) (by decide +kernel), ⟨by decide +kernel, by decide +kernel, by decide +kernel⟩, by decide⟩
theorem isX6_takeBack : Cond.instanceMethod yX6_takeBack ∈ tblG ∧ Cond.selects yX6_takeBack.cls yX6_takeBack yX6_takeBack ∈ tblG := ⟨tblG_mem (List.mem_of_getElem? (i := 1064) (by decide +kernel)) (by decide +kernel), tblG_mem (List.mem_of_getElem? (i := 1065) (by decide +kernel)) (by decide +kernel)⟩
abbrev mX11_ofBell : MD := (yX11_ofBell, cX11_ofBell, 4, some .int)
theorem okX11_ofBell : okM mX11_ofBell 2 := ⟨wi_X11, tblG_mem (List.mem_of_getElem? (i := 1070) (by decide +kernel)) (by decide +kernel), ⟨by decide +kernel, by decide +kernel, by decide +kernel⟩, by decide⟩
theorem isX11_ofBell : Cond.instanceMethod yX11_ofBell ∈ tblG ∧ Cond.selects yX11_ofBell.cls yX11_ofBell yX11_ofBell ∈ tblG := ⟨tblG_mem (List.mem_of_getElem? (i := 1068) (by decide +kernel)) (by decide +kernel), tblG_mem (List.mem_of_getElem? (i := 1069) (by decide +kernel)) (by decide +kernel)⟩
abbrev mX11_ofWord : MD := (yX11_ofWord, cX11_ofWord, 4, some .int)
theorem okX11_ofWord : okM mX11_ofWord 2 := ⟨wi_X11, tblG_mem (List.mem_of_getElem? (i := 1075) (by decide +kernel)) (by decide +kernel), ⟨by decide +kernel, by decide +kernel, by decide +kernel⟩, by decide⟩
theorem isX11_ofWord : Cond.instanceMethod yX11_ofWord ∈ tblG ∧ Cond.selects yX11_ofWord.cls yX11_ofWord yX11_ofWord ∈ tblG := ⟨tblG_mem (List.mem_of_getElem? (i := 1073) (by decide +kernel)) (by decide +kernel), tblG_mem (List.mem_of_getElem? (i := 1074) (by decide +kernel)) (by decide +kernel)⟩
abbrev mX11_is : MD := (yX11_is, cX11_is, 3, some .int)
theorem okX11_is : okM mX11_is 1 := ⟨wi_X11, tblG_mem (List.mem_of_getElem? (i := 1081) (by decide +kernel)) (by decide +kernel), ⟨by decide +kernel, by decide +kernel, by decide +kernel⟩, by decide⟩
theorem isX11_is : Cond.instanceMethod yX11_is ∈ tblG ∧ Cond.selects yX11_is.cls yX11_is yX11_is ∈ tblG := ⟨tblG_mem (List.mem_of_getElem? (i := 1079) (by decide +kernel)) (by decide +kernel), tblG_mem (List.mem_of_getElem? (i := 1080) (by decide +kernel)) (by decide +kernel)⟩
abbrev mX11_rung : MD := (yX11_rung, cX11_rung, 3, some .int)
theorem okX11_rung : okM mX11_rung 1 := ⟨wi_X11, tblG_mem (List.mem_of_getElem? (i := 1085) (by decide +kernel)) (by decide +kernel), ⟨by decide +kernel, by decide +kernel, by decide +kernel⟩, by decide⟩
theorem isX11_rung : Cond.instanceMethod yX11_rung ∈ tblG ∧ Cond.selects yX11_rung.cls yX11_rung yX11_rung ∈ tblG := ⟨tblG_mem (List.mem_of_getElem? (i := 1083) (by decide +kernel)) (by decide +kernel), tblG_mem (List.mem_of_getElem? (i := 1084) (by decide +kernel)) (by decide +kernel)⟩
abbrev mX11_heard : MD := (yX11_heard, cX11_heard, 2, some .int)
theorem okX11_heard : okM mX11_heard 1 := ⟨wi_X11, tblG_mem (List.mem_of_getElem? (i := 1089) (by decide +kernel)) (by decide +kernel), ⟨by decide +kernel, by decide +kernel, by decide +kernel⟩, by decide⟩
theorem isX11_heard : Cond.instanceMethod yX11_heard ∈ tblG ∧ Cond.selects yX11_heard.cls yX11_heard yX11_heard ∈ tblG := ⟨tblG_mem (List.mem_of_getElem? (i := 1087) (by decide +kernel)) (by decide +kernel), tblG_mem (List.mem_of_getElem? (i := 1088) (by decide +kernel)) (by decide +kernel)⟩
abbrev mX11_book : MD := (yX11_book, cX11_book, 4, some .int)
theorem okX11_book : okM mX11_book 2 := ⟨wi_X11, tblG_mem (List.mem_of_getElem? (i := 1094) (by decide +kernel)) (by decide +kernel), ⟨by decide +kernel, by decide +kernel, by decide +kernel⟩, by decide⟩
theorem isX11_book : Cond.instanceMethod yX11_book ∈ tblG ∧ Cond.selects yX11_book.cls yX11_book yX11_book ∈ tblG := ⟨tblG_mem (List.mem_of_getElem? (i := 1092) (by decide +kernel)) (by decide +kernel), tblG_mem (List.mem_of_getElem? (i := 1093) (by decide +kernel)) (by decide +kernel)⟩
abbrev mX11_readings : MD := (yX11_readings, cX11_readings, 2, some .int)
theorem okX11_readings : okM mX11_readings 1 := ⟨wi_X11, tblG_mem (List.mem_of_getElem? (i := 1098) (by decide +kernel)) (by decide +kernel), ⟨by decide +kernel, by decide +kernel, by decide +kernel⟩, by decide⟩
theorem isX11_readings : Cond.instanceMethod yX11_readings ∈ tblG ∧ Cond.selects yX11_readings.cls yX11_readings yX11_readings ∈ tblG := ⟨tblG_mem (List.mem_of_getElem? (i := 1096) (by decide +kernel)) (by decide +kernel), tblG_mem (List.mem_of_getElem? (i := 1097) (by decide +kernel)) (by decide +kernel)⟩
abbrev mX11_reading : MD := (yX11_reading, cX11_reading, 3, some .int)
theorem okX11_reading : okM mX11_reading 2 := ⟨wi_X11, tblG_mem (List.mem_of_getElem? (i := 1102) (by decide +kernel)) (by decide +kernel), ⟨by decide +kernel, by decide +kernel, by decide +kernel⟩, by decide⟩
theorem isX11_reading : Cond.instanceMethod yX11_reading ∈ tblG ∧ Cond.selects yX11_reading.cls yX11_reading yX11_reading ∈ tblG := ⟨tblG_mem (List.mem_of_getElem? (i := 1100) (by decide +kernel)) (by decide +kernel), tblG_mem (List.mem_of_getElem? (i := 1101) (by decide +kernel)) (by decide +kernel)⟩
abbrev mX0_firstReading : MD := (yX0_firstReading, cX0_firstReading, 7, some .int)
theorem okX0_firstReading : okM mX0_firstReading 2 := ⟨wi_X0, tblG_mem (List.mem_of_getElem? (i := 1106) (by decide +kernel)) (by decide +kernel), ⟨by decide +kernel, by decide +kernel, by decide +kernel⟩, by decide⟩
theorem isX0_firstReading : Cond.instanceMethod yX0_firstReading ∈ tblG ∧ Cond.selects yX0_firstReading.cls yX0_firstReading yX0_firstReading ∈ tblG := ⟨tblG_mem (List.mem_of_getElem? (i := 1104) (by decide +kernel)) (by decide +kernel), tblG_mem (List.mem_of_getElem? (i := 1105) (by decide +kernel)) (by decide +kernel)⟩
abbrev mX0_lowestAt : MD := (yX0_lowestAt, cX0_lowestAt, 8, some .int)
theorem okX0_lowestAt : okM mX0_lowestAt 4 := ⟨wi_X0, tblG_mem (List.mem_of_getElem? (i := 1111) (by decide +kernel)) (by decide +kernel), ⟨by decide +kernel, by decide +kernel, by decide +kernel⟩, by decide⟩
theorem isX0_lowestAt : Cond.instanceMethod yX0_lowestAt ∈ tblG ∧ Cond.selects yX0_lowestAt.cls yX0_lowestAt yX0_lowestAt ∈ tblG := ⟨tblG_mem (List.mem_of_getElem? (i := 1110) (by decide +kernel)) (by decide +kernel), tblG_mem (List.mem_of_getElem? (i := 32) (by decide +kernel)) (by decide +kernel)⟩
abbrev mX11_weight : MD := (yX11_weight, cX11_weight, 3, some .boolean)
theorem okX11_weight : okM mX11_weight 2 := ⟨wi_X11, tblG_mem (List.mem_of_getElem? (i := 1115) (by decide +kernel)) (by decide +kernel), ⟨by decide +kernel, by decide +kernel, by decide +kernel⟩, by decide⟩
theorem isX11_weight : Cond.instanceMethod yX11_weight ∈ tblG ∧ Cond.selects yX11_weight.cls yX11_weight yX11_weight ∈ tblG := ⟨tblG_mem (List.mem_of_getElem? (i := 1113) (by decide +kernel)) (by decide +kernel), tblG_mem (List.mem_of_getElem? (i := 1114) (by decide +kernel)) (by decide +kernel)⟩
abbrev mX11_meant : MD := (yX11_meant, cX11_meant, 11, some .long)
theorem okX11_meant : okM mX11_meant 3 := ⟨wi_X11, tblG_mem (List.mem_of_getElem? (i := 1119) (by decide +kernel)) (by decide +kernel), ⟨by decide +kernel, by decide +kernel, by decide +kernel⟩, by decide⟩
theorem isX11_meant : Cond.instanceMethod yX11_meant ∈ tblG ∧ Cond.selects yX11_meant.cls yX11_meant yX11_meant ∈ tblG := ⟨tblG_mem (List.mem_of_getElem? (i := 1117) (by decide +kernel)) (by decide +kernel), tblG_mem (List.mem_of_getElem? (i := 1118) (by decide +kernel)) (by decide +kernel)⟩
abbrev mX0_likelihood : MD := (yX0_likelihood, cX0_likelihood, 7, some .long)
theorem okX0_likelihood : okM mX0_likelihood 2 := ⟨wi_X0, tblG_mem (List.mem_of_getElem? (i := 1124) (by decide +kernel)) (by decide +kernel), ⟨by decide +kernel, by decide +kernel, by decide +kernel⟩, by decide⟩
theorem isX0_likelihood : Cond.instanceMethod yX0_likelihood ∈ tblG ∧ Cond.selects yX0_likelihood.cls yX0_likelihood yX0_likelihood ∈ tblG := ⟨tblG_mem (List.mem_of_getElem? (i := 1122) (by decide +kernel)) (by decide +kernel), tblG_mem (List.mem_of_getElem? (i := 1123) (by decide +kernel)) (by decide +kernel)⟩
abbrev mX0_waysLeft : MD := (yX0_waysLeft, cX0_waysLeft, 5, some .int)
theorem okX0_waysLeft : okM mX0_waysLeft 1 := ⟨wi_X0, tblG_mem (List.mem_of_getElem? (i := 1128) (by decide +kernel)) (by decide +kernel), ⟨by decide +kernel, by decide +kernel, by decide +kernel⟩, by decide⟩
theorem isX0_waysLeft : Cond.instanceMethod yX0_waysLeft ∈ tblG ∧ Cond.selects yX0_waysLeft.cls yX0_waysLeft yX0_waysLeft ∈ tblG := ⟨tblG_mem (List.mem_of_getElem? (i := 1127) (by decide +kernel)) (by decide +kernel), tblG_mem (List.mem_of_getElem? (i := 33) (by decide +kernel)) (by decide +kernel)⟩
abbrev mX11_commonDivisor : MD := (yX11_commonDivisor, cX11_commonDivisor, 11, some .long)
theorem okX11_commonDivisor : okM mX11_commonDivisor 2 := ⟨wi_X11, tblG_mem (List.mem_of_getElem? (i := 1132) (by decide +kernel)) (by decide +kernel), ⟨by decide +kernel, by decide +kernel, by decide +kernel⟩, by decide⟩
theorem isX11_commonDivisor : Cond.static yX11_commonDivisor ∈ tblG := tblG_mem (List.mem_of_getElem? (i := 1131) (by decide +kernel)) (by decide +kernel)
abbrev mX11_shortest : MD := (yX11_shortest, cX11_shortest, 6, some .int)
theorem okX11_shortest : okM mX11_shortest 1 := ⟨wi_X11, tblG_mem (List.mem_of_getElem? (i := 1136) (by decide +kernel)) (by decide +kernel), ⟨by decide +kernel, by decide +kernel, by decide +kernel⟩, by decide⟩
theorem isX11_shortest : Cond.instanceMethod yX11_shortest ∈ tblG ∧ Cond.selects yX11_shortest.cls yX11_shortest yX11_shortest ∈ tblG := ⟨tblG_mem (List.mem_of_getElem? (i := 1134) (by decide +kernel)) (by decide +kernel), tblG_mem (List.mem_of_getElem? (i := 1135) (by decide +kernel)) (by decide +kernel)⟩
abbrev mX11_allGetOver : MD := (yX11_allGetOver, cX11_allGetOver, 5, some .boolean)
theorem okX11_allGetOver : okM mX11_allGetOver 2 := ⟨wi_X11, tblG_mem (List.mem_of_getElem? (i := 1140) (by decide +kernel)) (by decide +kernel), ⟨by decide +kernel, by decide +kernel, by decide +kernel⟩, by decide⟩
theorem isX11_allGetOver : Cond.instanceMethod yX11_allGetOver ∈ tblG ∧ Cond.selects yX11_allGetOver.cls yX11_allGetOver yX11_allGetOver ∈ tblG := ⟨tblG_mem (List.mem_of_getElem? (i := 1139) (by decide +kernel)) (by decide +kernel), tblG_mem (List.mem_of_getElem? (i := 34) (by decide +kernel)) (by decide +kernel)⟩
abbrev mX11_atWorst : MD := (yX11_atWorst, cX11_atWorst, 4, some .int)
theorem okX11_atWorst : okM mX11_atWorst 1 := ⟨wi_X11, tblG_mem (List.mem_of_getElem? (i := 1144) (by decide +kernel)) (by decide +kernel), ⟨by decide +kernel, by decide +kernel, by decide +kernel⟩, by decide⟩
theorem isX11_atWorst : Cond.instanceMethod yX11_atWorst ∈ tblG ∧ Cond.selects yX11_atWorst.cls yX11_atWorst yX11_atWorst ∈ tblG := ⟨tblG_mem (List.mem_of_getElem? (i := 1142) (by decide +kernel)) (by decide +kernel), tblG_mem (List.mem_of_getElem? (i := 1143) (by decide +kernel)) (by decide +kernel)⟩
abbrev mX11_away : MD := (yX11_away, cX11_away, 4, some .int)
theorem okX11_away : okM mX11_away 2 := ⟨wi_X11, tblG_mem (List.mem_of_getElem? (i := 1148) (by decide +kernel)) (by decide +kernel), ⟨by decide +kernel, by decide +kernel, by decide +kernel⟩, by decide⟩
theorem isX11_away : Cond.instanceMethod yX11_away ∈ tblG ∧ Cond.selects yX11_away.cls yX11_away yX11_away ∈ tblG := ⟨tblG_mem (List.mem_of_getElem? (i := 1146) (by decide +kernel)) (by decide +kernel), tblG_mem (List.mem_of_getElem? (i := 1147) (by decide +kernel)) (by decide +kernel)⟩
abbrev mX2_between : MD := (yX2_between, cX2_between, 3, some .int)
theorem okX2_between : okM mX2_between 2 := ⟨wi_X2, tblG_mem (List.mem_of_getElem? (i := 1152) (by decide +kernel)) (by decide +kernel), ⟨by decide +kernel, by decide +kernel, by decide +kernel⟩, by decide⟩
theorem isX2_between : Cond.instanceMethod yX2_between ∈ tblG ∧ Cond.selects yX2_between.cls yX2_between yX2_between ∈ tblG := ⟨tblG_mem (List.mem_of_getElem? (i := 1150) (by decide +kernel)) (by decide +kernel), tblG_mem (List.mem_of_getElem? (i := 1151) (by decide +kernel)) (by decide +kernel)⟩
abbrev mX2_edits : MD := (yX2_edits, cX2_edits, 11, some .int)
theorem okX2_edits : okM mX2_edits 4 := ⟨wi_X2, tblG_mem (List.mem_of_getElem? (i := 1156) (by decide +kernel)) (by decide +kernel), ⟨by decide +kernel, by decide +kernel, by decide +kernel⟩, by decide⟩
theorem isX2_edits : Cond.instanceMethod yX2_edits ∈ tblG ∧ Cond.selects yX2_edits.cls yX2_edits yX2_edits ∈ tblG := ⟨tblG_mem (List.mem_of_getElem? (i := 1154) (by decide +kernel)) (by decide +kernel), tblG_mem (List.mem_of_getElem? (i := 1155) (by decide +kernel)) (by decide +kernel)⟩
abbrev mX11_apart : MD := (yX11_apart, cX11_apart, 2, some .int)
theorem okX11_apart : okM mX11_apart 1 := ⟨wi_X11, tblG_mem (List.mem_of_getElem? (i := 1161) (by decide +kernel)) (by decide +kernel), ⟨by decide +kernel, by decide +kernel, by decide +kernel⟩, by decide⟩
theorem isX11_apart : Cond.instanceMethod yX11_apart ∈ tblG ∧ Cond.selects yX11_apart.cls yX11_apart yX11_apart ∈ tblG := ⟨tblG_mem (List.mem_of_getElem? (i := 1159) (by decide +kernel)) (by decide +kernel), tblG_mem (List.mem_of_getElem? (i := 1160) (by decide +kernel)) (by decide +kernel)⟩
abbrev mX2_toldApart : MD := (yX2_toldApart, cX2_toldApart, 4, some .int)
theorem okX2_toldApart : okM mX2_toldApart 1 := ⟨wi_X2, tblG_mem (List.mem_of_getElem? (i := 1165) (by decide +kernel)) (by decide +kernel), ⟨by decide +kernel, by decide +kernel, by decide +kernel⟩, by decide⟩
theorem isX2_toldApart : Cond.instanceMethod yX2_toldApart ∈ tblG ∧ Cond.selects yX2_toldApart.cls yX2_toldApart yX2_toldApart ∈ tblG := ⟨tblG_mem (List.mem_of_getElem? (i := 1163) (by decide +kernel)) (by decide +kernel), tblG_mem (List.mem_of_getElem? (i := 1164) (by decide +kernel)) (by decide +kernel)⟩
abbrev mX2_findTooNear : MD := (yX2_findTooNear, cX2_findTooNear, 4, none)
theorem okX2_findTooNear : okM mX2_findTooNear 1 := ⟨wi_X2, tblG_mem (List.mem_of_getElem? (i := 1169) (by decide +kernel)) (by decide +kernel), ⟨by decide +kernel, by decide +kernel, by decide +kernel⟩, by decide⟩
theorem isX2_findTooNear : Cond.instanceMethod yX2_findTooNear ∈ tblG ∧ Cond.selects yX2_findTooNear.cls yX2_findTooNear yX2_findTooNear ∈ tblG := ⟨tblG_mem (List.mem_of_getElem? (i := 1168) (by decide +kernel)) (by decide +kernel), tblG_mem (List.mem_of_getElem? (i := 35) (by decide +kernel)) (by decide +kernel)⟩
abbrev mJ6_bitCount_0f7a4 : MD := (yJ6_bitCount_0f7a4, cJ6_bitCount_0f7a4, 1, some .int)
theorem okJ6_bitCount_0f7a4 : okM mJ6_bitCount_0f7a4 1 := ⟨wi_J6, tblG_mem (List.mem_of_getElem? (i := 1173) (by decide +kernel)) (by decide +kernel), ⟨by decide +kernel, by decide +kernel, by decide +kernel⟩, by decide⟩
theorem isJ6_bitCount_0f7a4 : Cond.static yJ6_bitCount_0f7a4 ∈ tblG := tblG_mem (List.mem_of_getElem? (i := 1172) (by decide +kernel)) (by decide +kernel)
abbrev mX2_allFar : MD := (yX2_allFar, cX2_allFar, 3, some .boolean)
theorem okX2_allFar : okM mX2_allFar 1 := ⟨wi_X2, tblG_mem (List.mem_of_getElem? (i := 1180) (by decide +kernel)) (by decide +kernel), ⟨by decide +kernel, by decide +kernel, by decide +kernel⟩, by decide⟩
theorem isX2_allFar : Cond.instanceMethod yX2_allFar ∈ tblG ∧ Cond.selects yX2_allFar.cls yX2_allFar yX2_allFar ∈ tblG := ⟨tblG_mem (List.mem_of_getElem? (i := 1179) (by decide +kernel)) (by decide +kernel), tblG_mem (List.mem_of_getElem? (i := 36) (by decide +kernel)) (by decide +kernel)⟩
abbrev mX11_nearest : MD := (yX11_nearest, cX11_nearest, 6, some .int)
theorem okX11_nearest : okM mX11_nearest 0 := ⟨wi_X11, tblG_mem (List.mem_of_getElem? (i := 1184) (by decide +kernel)) (by decide +kernel), ⟨by decide +kernel, by decide +kernel, by decide +kernel⟩, by decide⟩
theorem isX11_nearest : Cond.instanceMethod yX11_nearest ∈ tblG ∧ Cond.selects yX11_nearest.cls yX11_nearest yX11_nearest ∈ tblG := ⟨tblG_mem (List.mem_of_getElem? (i := 1182) (by decide +kernel)) (by decide +kernel), tblG_mem (List.mem_of_getElem? (i := 1183) (by decide +kernel)) (by decide +kernel)⟩
abbrev mX11_hears : MD := (yX11_hears, cX11_hears, 3, some .boolean)
theorem okX11_hears : okM mX11_hears 2 := ⟨wi_X11, tblG_mem (List.mem_of_getElem? (i := 1189) (by decide +kernel)) (by decide +kernel), ⟨by decide +kernel, by decide +kernel, by decide +kernel⟩, by decide⟩
theorem isX11_hears : Cond.instanceMethod yX11_hears ∈ tblG ∧ Cond.selects yX11_hears.cls yX11_hears yX11_hears ∈ tblG := ⟨tblG_mem (List.mem_of_getElem? (i := 1187) (by decide +kernel)) (by decide +kernel), tblG_mem (List.mem_of_getElem? (i := 1188) (by decide +kernel)) (by decide +kernel)⟩
abbrev mX11_settles : MD := (yX11_settles, cX11_settles, 3, some .int)
theorem okX11_settles : okM mX11_settles 2 := ⟨wi_X11, tblG_mem (List.mem_of_getElem? (i := 1193) (by decide +kernel)) (by decide +kernel), ⟨by decide +kernel, by decide +kernel, by decide +kernel⟩, by decide⟩
theorem isX11_settles : Cond.instanceMethod yX11_settles ∈ tblG ∧ Cond.selects yX11_settles.cls yX11_settles yX11_settles ∈ tblG := ⟨tblG_mem (List.mem_of_getElem? (i := 1191) (by decide +kernel)) (by decide +kernel), tblG_mem (List.mem_of_getElem? (i := 1192) (by decide +kernel)) (by decide +kernel)⟩
abbrev mX9_allFrom : MD := (yX9_allFrom, cX9_allFrom, 5, some .int)
theorem okX9_allFrom : okM mX9_allFrom 1 := ⟨wi_X9, tblG_mem (List.mem_of_getElem? (i := 1197) (by decide +kernel)) (by decide +kernel), ⟨by decide +kernel, by decide +kernel, by decide +kernel⟩, by decide⟩
theorem isX9_allFrom : Cond.instanceMethod yX9_allFrom ∈ tblG ∧ Cond.selects yX9_allFrom.cls yX9_allFrom yX9_allFrom ∈ tblG := ⟨tblG_mem (List.mem_of_getElem? (i := 1195) (by decide +kernel)) (by decide +kernel), tblG_mem (List.mem_of_getElem? (i := 1196) (by decide +kernel)) (by decide +kernel)⟩
abbrev mX11_roundOf : MD := (yX11_roundOf, cX11_roundOf, 4, some .int)
theorem okX11_roundOf : okM mX11_roundOf 1 := ⟨wi_X11, tblG_mem (List.mem_of_getElem? (i := 1202) (by decide +kernel)) (by decide +kernel), ⟨by decide +kernel, by decide +kernel, by decide +kernel⟩, by decide⟩
theorem isX11_roundOf : Cond.instanceMethod yX11_roundOf ∈ tblG ∧ Cond.selects yX11_roundOf.cls yX11_roundOf yX11_roundOf ∈ tblG := ⟨tblG_mem (List.mem_of_getElem? (i := 1201) (by decide +kernel)) (by decide +kernel), tblG_mem (List.mem_of_getElem? (i := 37) (by decide +kernel)) (by decide +kernel)⟩
abbrev mX11_lowestOf : MD := (yX11_lowestOf, cX11_lowestOf, 1, some .int)
theorem okX11_lowestOf : okM mX11_lowestOf 1 := ⟨wi_X11, tblG_mem (List.mem_of_getElem? (i := 1205) (by decide +kernel)) (by decide +kernel), ⟨by decide +kernel, by decide +kernel, by decide +kernel⟩, by decide⟩
theorem isX11_lowestOf : Cond.static yX11_lowestOf ∈ tblG := tblG_mem (List.mem_of_getElem? (i := 1204) (by decide +kernel)) (by decide +kernel)
abbrev mX11_line : MD := (yX11_line, cX11_line, 3, some .int)
theorem okX11_line : okM mX11_line 2 := ⟨wi_X11, tblG_mem (List.mem_of_getElem? (i := 1209) (by decide +kernel)) (by decide +kernel), ⟨by decide +kernel, by decide +kernel, by decide +kernel⟩, by decide⟩
theorem isX11_line : Cond.instanceMethod yX11_line ∈ tblG ∧ Cond.selects yX11_line.cls yX11_line yX11_line ∈ tblG := ⟨tblG_mem (List.mem_of_getElem? (i := 1207) (by decide +kernel)) (by decide +kernel), tblG_mem (List.mem_of_getElem? (i := 1208) (by decide +kernel)) (by decide +kernel)⟩
abbrev mX9_addLine : MD := (yX9_addLine, cX9_addLine, 3, some .int)
theorem okX9_addLine : okM mX9_addLine 2 := ⟨wi_X9, tblG_mem (List.mem_of_getElem? (i := 1213) (by decide +kernel)) (by decide +kernel), ⟨by decide +kernel, by decide +kernel, by decide +kernel⟩, by decide⟩
theorem isX9_addLine : Cond.instanceMethod yX9_addLine ∈ tblG ∧ Cond.selects yX9_addLine.cls yX9_addLine yX9_addLine ∈ tblG := ⟨tblG_mem (List.mem_of_getElem? (i := 1211) (by decide +kernel)) (by decide +kernel), tblG_mem (List.mem_of_getElem? (i := 1212) (by decide +kernel)) (by decide +kernel)⟩
abbrev mX11_whose : MD := (yX11_whose, cX11_whose, 3, some .int)
theorem okX11_whose : okM mX11_whose 0 := ⟨wi_X11, tblG_mem (List.mem_of_getElem? (i := 1217) (by decide +kernel)) (by decide +kernel), ⟨by decide +kernel, by decide +kernel, by decide +kernel⟩, by decide⟩
theorem isX11_whose : Cond.instanceMethod yX11_whose ∈ tblG ∧ Cond.selects yX11_whose.cls yX11_whose yX11_whose ∈ tblG := ⟨tblG_mem (List.mem_of_getElem? (i := 1215) (by decide +kernel)) (by decide +kernel), tblG_mem (List.mem_of_getElem? (i := 1216) (by decide +kernel)) (by decide +kernel)⟩
abbrev mX11_allLinesRight : MD := (yX11_allLinesRight, cX11_allLinesRight, 4, some .boolean)
theorem okX11_allLinesRight : okM mX11_allLinesRight 1 := ⟨wi_X11, tblG_mem (List.mem_of_getElem? (i := 1221) (by decide +kernel)) (by decide +kernel), ⟨by decide +kernel, by decide +kernel, by decide +kernel⟩, by decide⟩
theorem isX11_allLinesRight : Cond.instanceMethod yX11_allLinesRight ∈ tblG ∧ Cond.selects yX11_allLinesRight.cls yX11_allLinesRight yX11_allLinesRight ∈ tblG := ⟨tblG_mem (List.mem_of_getElem? (i := 1220) (by decide +kernel)) (by decide +kernel), tblG_mem (List.mem_of_getElem? (i := 38) (by decide +kernel)) (by decide +kernel)⟩
abbrev mX1_follows : MD := (yX1_follows, cX1_follows, 5, some .boolean)
theorem okX1_follows : okM mX1_follows 4 := ⟨wi_X1, tblG_mem (List.mem_of_getElem? (i := 1225) (by decide +kernel)) (by decide +kernel), ⟨by decide +kernel, by decide +kernel, by decide +kernel⟩, by decide⟩
theorem isX1_follows : Cond.instanceMethod yX1_follows ∈ tblG ∧ Cond.selects yX1_follows.cls yX1_follows yX1_follows ∈ tblG := ⟨tblG_mem (List.mem_of_getElem? (i := 1223) (by decide +kernel)) (by decide +kernel), tblG_mem (List.mem_of_getElem? (i := 1224) (by decide +kernel)) (by decide +kernel)⟩
abbrev mX11_pairs : MD := (yX11_pairs, cX11_pairs, 6, some .int)
theorem okX11_pairs : okM mX11_pairs 0 := ⟨wi_X11, tblG_mem (List.mem_of_getElem? (i := 1229) (by decide +kernel)) (by decide +kernel), ⟨by decide +kernel, by decide +kernel, by decide +kernel⟩, by decide⟩
theorem isX11_pairs : Cond.instanceMethod yX11_pairs ∈ tblG ∧ Cond.selects yX11_pairs.cls yX11_pairs yX11_pairs ∈ tblG := ⟨tblG_mem (List.mem_of_getElem? (i := 1227) (by decide +kernel)) (by decide +kernel), tblG_mem (List.mem_of_getElem? (i := 1228) (by decide +kernel)) (by decide +kernel)⟩
abbrev mX11_tower : MD := (yX11_tower, cX11_tower, 3, some .int)
theorem okX11_tower : okM mX11_tower 2 := ⟨wi_X11, tblG_mem (List.mem_of_getElem? (i := 1233) (by decide +kernel)) (by decide +kernel), ⟨by decide +kernel, by decide +kernel, by decide +kernel⟩, by decide⟩
theorem isX11_tower : Cond.instanceMethod yX11_tower ∈ tblG ∧ Cond.selects yX11_tower.cls yX11_tower yX11_tower ∈ tblG := ⟨tblG_mem (List.mem_of_getElem? (i := 1231) (by decide +kernel)) (by decide +kernel), tblG_mem (List.mem_of_getElem? (i := 1232) (by decide +kernel)) (by decide +kernel)⟩
abbrev mX9_addToTower : MD := (yX9_addToTower, cX9_addToTower, 3, some .int)
theorem okX9_addToTower : okM mX9_addToTower 2 := ⟨wi_X9, tblG_mem (List.mem_of_getElem? (i := 1237) (by decide +kernel)) (by decide +kernel), ⟨by decide +kernel, by decide +kernel, by decide +kernel⟩, by decide⟩
theorem isX9_addToTower : Cond.instanceMethod yX9_addToTower ∈ tblG ∧ Cond.selects yX9_addToTower.cls yX9_addToTower yX9_addToTower ∈ tblG := ⟨tblG_mem (List.mem_of_getElem? (i := 1235) (by decide +kernel)) (by decide +kernel), tblG_mem (List.mem_of_getElem? (i := 1236) (by decide +kernel)) (by decide +kernel)⟩
abbrev mX11_lies : MD := (yX11_lies, cX11_lies, 2, some .int)
theorem okX11_lies : okM mX11_lies 1 := ⟨wi_X11, tblG_mem (List.mem_of_getElem? (i := 1241) (by decide +kernel)) (by decide +kernel), ⟨by decide +kernel, by decide +kernel, by decide +kernel⟩, by decide⟩
theorem isX11_lies : Cond.instanceMethod yX11_lies ∈ tblG ∧ Cond.selects yX11_lies.cls yX11_lies yX11_lies ∈ tblG := ⟨tblG_mem (List.mem_of_getElem? (i := 1239) (by decide +kernel)) (by decide +kernel), tblG_mem (List.mem_of_getElem? (i := 1240) (by decide +kernel)) (by decide +kernel)⟩
abbrev mX9_longestRun : MD := (yX9_longestRun, cX9_longestRun, 4, some .int)
theorem okX9_longestRun : okM mX9_longestRun 0 := ⟨wi_X9, tblG_mem (List.mem_of_getElem? (i := 1245) (by decide +kernel)) (by decide +kernel), ⟨by decide +kernel, by decide +kernel, by decide +kernel⟩, by decide⟩
theorem isX9_longestRun : Cond.instanceMethod yX9_longestRun ∈ tblG ∧ Cond.selects yX9_longestRun.cls yX9_longestRun yX9_longestRun ∈ tblG := ⟨tblG_mem (List.mem_of_getElem? (i := 1243) (by decide +kernel)) (by decide +kernel), tblG_mem (List.mem_of_getElem? (i := 1244) (by decide +kernel)) (by decide +kernel)⟩
abbrev mX9_runAt : MD := (yX9_runAt, cX9_runAt, 5, some .int)
theorem okX9_runAt : okM mX9_runAt 2 := ⟨wi_X9, tblG_mem (List.mem_of_getElem? (i := 1249) (by decide +kernel)) (by decide +kernel), ⟨by decide +kernel, by decide +kernel, by decide +kernel⟩, by decide⟩
theorem isX9_runAt : Cond.instanceMethod yX9_runAt ∈ tblG ∧ Cond.selects yX9_runAt.cls yX9_runAt yX9_runAt ∈ tblG := ⟨tblG_mem (List.mem_of_getElem? (i := 1248) (by decide +kernel)) (by decide +kernel), tblG_mem (List.mem_of_getElem? (i := 39) (by decide +kernel)) (by decide +kernel)⟩
abbrev mX9_firstLie : MD := (yX9_firstLie, cX9_firstLie, 3, some .int)
theorem okX9_firstLie : okM mX9_firstLie 0 := ⟨wi_X9, tblG_mem (List.mem_of_getElem? (i := 1255) (by decide +kernel)) (by decide +kernel), ⟨by decide +kernel, by decide +kernel, by decide +kernel⟩, by decide⟩
theorem isX9_firstLie : Cond.instanceMethod yX9_firstLie ∈ tblG ∧ Cond.selects yX9_firstLie.cls yX9_firstLie yX9_firstLie ∈ tblG := ⟨tblG_mem (List.mem_of_getElem? (i := 1253) (by decide +kernel)) (by decide +kernel), tblG_mem (List.mem_of_getElem? (i := 1254) (by decide +kernel)) (by decide +kernel)⟩
abbrev mX11_newBell : MD := (yX11_newBell, cX11_newBell, 3, some .int)
theorem okX11_newBell : okM mX11_newBell 1 := ⟨wi_X11, tblG_mem (List.mem_of_getElem? (i := 1259) (by decide +kernel)) (by decide +kernel), ⟨by decide +kernel, by decide +kernel, by decide +kernel⟩, by decide⟩
theorem isX11_newBell : Cond.instanceMethod yX11_newBell ∈ tblG ∧ Cond.selects yX11_newBell.cls yX11_newBell yX11_newBell ∈ tblG := ⟨tblG_mem (List.mem_of_getElem? (i := 1257) (by decide +kernel)) (by decide +kernel), tblG_mem (List.mem_of_getElem? (i := 1258) (by decide +kernel)) (by decide +kernel)⟩
abbrev mX2_roomAround : MD := (yX2_roomAround, cX2_roomAround, 4, some .int)
theorem okX2_roomAround : okM mX2_roomAround 1 := ⟨wi_X2, tblG_mem (List.mem_of_getElem? (i := 1263) (by decide +kernel)) (by decide +kernel), ⟨by decide +kernel, by decide +kernel, by decide +kernel⟩, by decide⟩
theorem isX2_roomAround : Cond.instanceMethod yX2_roomAround ∈ tblG ∧ Cond.selects yX2_roomAround.cls yX2_roomAround yX2_roomAround ∈ tblG := ⟨tblG_mem (List.mem_of_getElem? (i := 1261) (by decide +kernel)) (by decide +kernel), tblG_mem (List.mem_of_getElem? (i := 1262) (by decide +kernel)) (by decide +kernel)⟩
abbrev mJ9_abs_0f7a4 : MD := (yJ9_abs_0f7a4, cJ9_abs_0f7a4, 1, some .int)
theorem okJ9_abs_0f7a4 : okM mJ9_abs_0f7a4 1 := ⟨wi_J9, tblG_mem (List.mem_of_getElem? (i := 1266) (by decide +kernel)) (by decide +kernel), ⟨by decide +kernel, by decide +kernel, by decide +kernel⟩, by decide⟩
theorem isJ9_abs_0f7a4 : Cond.static yJ9_abs_0f7a4 ∈ tblG := tblG_mem (List.mem_of_getElem? (i := 1265) (by decide +kernel)) (by decide +kernel)
abbrev mX11_farthest : MD := (yX11_farthest, cX11_farthest, 3, some .int)
theorem okX11_farthest : okM mX11_farthest 0 := ⟨wi_X11, tblG_mem (List.mem_of_getElem? (i := 1270) (by decide +kernel)) (by decide +kernel), ⟨by decide +kernel, by decide +kernel, by decide +kernel⟩, by decide⟩
theorem isX11_farthest : Cond.instanceMethod yX11_farthest ∈ tblG ∧ Cond.selects yX11_farthest.cls yX11_farthest yX11_farthest ∈ tblG := ⟨tblG_mem (List.mem_of_getElem? (i := 1268) (by decide +kernel)) (by decide +kernel), tblG_mem (List.mem_of_getElem? (i := 1269) (by decide +kernel)) (by decide +kernel)⟩
abbrev mX11_ropes : MD := (yX11_ropes, cX11_ropes, 4, some .int)
theorem okX11_ropes : okM mX11_ropes 0 := ⟨wi_X11, tblG_mem (List.mem_of_getElem? (i := 1275) (by decide +kernel)) (by decide +kernel), ⟨by decide +kernel, by decide +kernel, by decide +kernel⟩, by decide⟩
theorem isX11_ropes : Cond.instanceMethod yX11_ropes ∈ tblG ∧ Cond.selects yX11_ropes.cls yX11_ropes yX11_ropes ∈ tblG := ⟨tblG_mem (List.mem_of_getElem? (i := 1273) (by decide +kernel)) (by decide +kernel), tblG_mem (List.mem_of_getElem? (i := 1274) (by decide +kernel)) (by decide +kernel)⟩
abbrev mX11_changes : MD := (yX11_changes, cX11_changes, 5, some .int)
theorem okX11_changes : okM mX11_changes 4 := ⟨wi_X11, tblG_mem (List.mem_of_getElem? (i := 1279) (by decide +kernel)) (by decide +kernel), ⟨by decide +kernel, by decide +kernel, by decide +kernel⟩, by decide⟩
theorem isX11_changes : Cond.instanceMethod yX11_changes ∈ tblG ∧ Cond.selects yX11_changes.cls yX11_changes yX11_changes ∈ tblG := ⟨tblG_mem (List.mem_of_getElem? (i := 1277) (by decide +kernel)) (by decide +kernel), tblG_mem (List.mem_of_getElem? (i := 1278) (by decide +kernel)) (by decide +kernel)⟩
abbrev mX4_fewest : MD := (yX4_fewest, cX4_fewest, 8, some .int)
theorem okX4_fewest : okM mX4_fewest 4 := ⟨wi_X4, tblG_mem (List.mem_of_getElem? (i := 1283) (by decide +kernel)) (by decide +kernel), ⟨by decide +kernel, by decide +kernel, by decide +kernel⟩, by decide⟩
theorem isX4_fewest : Cond.instanceMethod yX4_fewest ∈ tblG ∧ Cond.selects yX4_fewest.cls yX4_fewest yX4_fewest ∈ tblG := ⟨tblG_mem (List.mem_of_getElem? (i := 1281) (by decide +kernel)) (by decide +kernel), tblG_mem (List.mem_of_getElem? (i := 1282) (by decide +kernel)) (by decide +kernel)⟩
abbrev mX4_packed : MD := (yX4_packed, cX4_packed, 7, some .int)
theorem okX4_packed : okM mX4_packed 2 := ⟨wi_X4, tblG_mem (List.mem_of_getElem? (i := 1287) (by decide +kernel)) (by decide +kernel), ⟨by decide +kernel, by decide +kernel, by decide +kernel⟩, by decide⟩
theorem isX4_packed : Cond.static yX4_packed ∈ tblG := tblG_mem (List.mem_of_getElem? (i := 1286) (by decide +kernel)) (by decide +kernel)
abbrev mX4_rankOf : MD := (yX4_rankOf, cX4_rankOf, 6, some .int)
theorem okX4_rankOf : okM mX4_rankOf 2 := ⟨wi_X4, tblG_mem (List.mem_of_getElem? (i := 1290) (by decide +kernel)) (by decide +kernel), ⟨by decide +kernel, by decide +kernel, by decide +kernel⟩, by decide⟩
theorem isX4_rankOf : Cond.static yX4_rankOf ∈ tblG := tblG_mem (List.mem_of_getElem? (i := 1289) (by decide +kernel)) (by decide +kernel)
abbrev mX4_measure : MD := (yX4_measure, cX4_measure, 10, none)
theorem okX4_measure : okM mX4_measure 3 := ⟨wi_X4, tblG_mem (List.mem_of_getElem? (i := 1295) (by decide +kernel)) (by decide +kernel), ⟨by decide +kernel, by decide +kernel, by decide +kernel⟩, by decide⟩
theorem isX4_measure : Cond.instanceMethod yX4_measure ∈ tblG ∧ Cond.selects yX4_measure.cls yX4_measure yX4_measure ∈ tblG := ⟨tblG_mem (List.mem_of_getElem? (i := 1294) (by decide +kernel)) (by decide +kernel), tblG_mem (List.mem_of_getElem? (i := 40) (by decide +kernel)) (by decide +kernel)⟩
abbrev mX4_changed : MD := (yX4_changed, cX4_changed, 5, some .int)
theorem okX4_changed : okM mX4_changed 2 := ⟨wi_X4, tblG_mem (List.mem_of_getElem? (i := 1299) (by decide +kernel)) (by decide +kernel), ⟨by decide +kernel, by decide +kernel, by decide +kernel⟩, by decide⟩
theorem isX4_changed : Cond.static yX4_changed ∈ tblG := tblG_mem (List.mem_of_getElem? (i := 1298) (by decide +kernel)) (by decide +kernel)
abbrev mX4_lowestBehind : MD := (yX4_lowestBehind, cX4_lowestBehind, 8, some .int)
theorem okX4_lowestBehind : okM mX4_lowestBehind 3 := ⟨wi_X4, tblG_mem (List.mem_of_getElem? (i := 1303) (by decide +kernel)) (by decide +kernel), ⟨by decide +kernel, by decide +kernel, by decide +kernel⟩, by decide⟩
theorem isX4_lowestBehind : Cond.instanceMethod yX4_lowestBehind ∈ tblG ∧ Cond.selects yX4_lowestBehind.cls yX4_lowestBehind yX4_lowestBehind ∈ tblG := ⟨tblG_mem (List.mem_of_getElem? (i := 1302) (by decide +kernel)) (by decide +kernel), tblG_mem (List.mem_of_getElem? (i := 41) (by decide +kernel)) (by decide +kernel)⟩
abbrev mX4_unpacked : MD := (yX4_unpacked, cX4_unpacked, 4, some .int)
theorem okX4_unpacked : okM mX4_unpacked 2 := ⟨wi_X4, tblG_mem (List.mem_of_getElem? (i := 1306) (by decide +kernel)) (by decide +kernel), ⟨by decide +kernel, by decide +kernel, by decide +kernel⟩, by decide⟩
theorem isX4_unpacked : Cond.static yX4_unpacked ∈ tblG := tblG_mem (List.mem_of_getElem? (i := 1305) (by decide +kernel)) (by decide +kernel)
abbrev mX11_takes : MD := (yX11_takes, cX11_takes, 5, some .int)
theorem okX11_takes : okM mX11_takes 1 := ⟨wi_X11, tblG_mem (List.mem_of_getElem? (i := 1310) (by decide +kernel)) (by decide +kernel), ⟨by decide +kernel, by decide +kernel, by decide +kernel⟩, by decide⟩
theorem isX11_takes : Cond.instanceMethod yX11_takes ∈ tblG ∧ Cond.selects yX11_takes.cls yX11_takes yX11_takes ∈ tblG := ⟨tblG_mem (List.mem_of_getElem? (i := 1308) (by decide +kernel)) (by decide +kernel), tblG_mem (List.mem_of_getElem? (i := 1309) (by decide +kernel)) (by decide +kernel)⟩
abbrev mX11_image : MD := (yX11_image, cX11_image, 1, some .int)
theorem okX11_image : okM mX11_image 0 := ⟨wi_X11, tblG_mem (List.mem_of_getElem? (i := 1314) (by decide +kernel)) (by decide +kernel), ⟨by decide +kernel, by decide +kernel, by decide +kernel⟩, by decide⟩
theorem isX11_image : Cond.instanceMethod yX11_image ∈ tblG ∧ Cond.selects yX11_image.cls yX11_image yX11_image ∈ tblG := ⟨tblG_mem (List.mem_of_getElem? (i := 1312) (by decide +kernel)) (by decide +kernel), tblG_mem (List.mem_of_getElem? (i := 1313) (by decide +kernel)) (by decide +kernel)⟩
abbrev mX10_copyFrom : MD := (yX10_copyFrom, cX10_copyFrom, 2, none)
theorem okX10_copyFrom : okM mX10_copyFrom 1 := ⟨wi_X10, tblG_mem (List.mem_of_getElem? (i := 1318) (by decide +kernel)) (by decide +kernel), ⟨by decide +kernel, by decide +kernel, by decide +kernel⟩, by decide⟩
theorem isX10_copyFrom : Cond.instanceMethod yX10_copyFrom ∈ tblG ∧ Cond.selects yX10_copyFrom.cls yX10_copyFrom yX10_copyFrom ∈ tblG := ⟨tblG_mem (List.mem_of_getElem? (i := 1316) (by decide +kernel)) (by decide +kernel), tblG_mem (List.mem_of_getElem? (i := 1317) (by decide +kernel)) (by decide +kernel)⟩
abbrev mX2_copyFrom : MD := (yX2_copyFrom, cX2_copyFrom, 2, none)
theorem okX2_copyFrom : okM mX2_copyFrom 1 := ⟨wi_X2, tblG_mem (List.mem_of_getElem? (i := 1322) (by decide +kernel)) (by decide +kernel), ⟨by decide +kernel, by decide +kernel, by decide +kernel⟩, by decide⟩
theorem isX2_copyFrom : Cond.instanceMethod yX2_copyFrom ∈ tblG ∧ Cond.selects yX2_copyFrom.cls yX2_copyFrom yX2_copyFrom ∈ tblG := ⟨tblG_mem (List.mem_of_getElem? (i := 1320) (by decide +kernel)) (by decide +kernel), tblG_mem (List.mem_of_getElem? (i := 1321) (by decide +kernel)) (by decide +kernel)⟩
abbrev mX6_copyFrom : MD := (yX6_copyFrom, cX6_copyFrom, 3, none)
theorem okX6_copyFrom : okM mX6_copyFrom 1 := ⟨wi_X6, tblG_mem (List.mem_of_getElem? (i := 1328) (by decide +kernel)) (by decide +kernel), ⟨by decide +kernel, by decide +kernel, by decide +kernel⟩, by decide⟩
theorem isX6_copyFrom : Cond.instanceMethod yX6_copyFrom ∈ tblG ∧ Cond.selects yX6_copyFrom.cls yX6_copyFrom yX6_copyFrom ∈ tblG := ⟨tblG_mem (List.mem_of_getElem? (i := 1326) (by decide +kernel)) (by decide +kernel), tblG_mem (List.mem_of_getElem? (i := 1327) (by decide +kernel)) (by decide +kernel)⟩
abbrev mX9_copyFrom : MD := (yX9_copyFrom, cX9_copyFrom, 2, none)
theorem okX9_copyFrom : okM mX9_copyFrom 1 := ⟨wi_X9, tblG_mem (List.mem_of_getElem? (i := 1332) (by decide +kernel)) (by decide +kernel), ⟨by decide +kernel, by decide +kernel, by decide +kernel⟩, by decide⟩
theorem isX9_copyFrom : Cond.instanceMethod yX9_copyFrom ∈ tblG ∧ Cond.selects yX9_copyFrom.cls yX9_copyFrom yX9_copyFrom ∈ tblG := ⟨tblG_mem (List.mem_of_getElem? (i := 1330) (by decide +kernel)) (by decide +kernel), tblG_mem (List.mem_of_getElem? (i := 1331) (by decide +kernel)) (by decide +kernel)⟩
abbrev mX11_back : MD := (yX11_back, cX11_back, 1, some .int)
theorem okX11_back : okM mX11_back 0 := ⟨wi_X11, tblG_mem (List.mem_of_getElem? (i := 1337) (by decide +kernel)) (by decide +kernel), ⟨by decide +kernel, by decide +kernel, by decide +kernel⟩, by decide⟩
theorem isX11_back : Cond.instanceMethod yX11_back ∈ tblG ∧ Cond.selects yX11_back.cls yX11_back yX11_back ∈ tblG := ⟨tblG_mem (List.mem_of_getElem? (i := 1335) (by decide +kernel)) (by decide +kernel), tblG_mem (List.mem_of_getElem? (i := 1336) (by decide +kernel)) (by decide +kernel)⟩
abbrev mX11_about : MD := (yX11_about, cX11_about, 2, some .int)
theorem okX11_about : okM mX11_about 1 := ⟨wi_X11, tblG_mem (List.mem_of_getElem? (i := 1341) (by decide +kernel)) (by decide +kernel), ⟨by decide +kernel, by decide +kernel, by decide +kernel⟩, by decide⟩
theorem isX11_about : Cond.instanceMethod yX11_about ∈ tblG ∧ Cond.selects yX11_about.cls yX11_about yX11_about ∈ tblG := ⟨tblG_mem (List.mem_of_getElem? (i := 1339) (by decide +kernel)) (by decide +kernel), tblG_mem (List.mem_of_getElem? (i := 1340) (by decide +kernel)) (by decide +kernel)⟩
abbrev mX12_init : MD := (yX12_init, cX12_init, 1, none)
theorem okX12_init : okM mX12_init 0 := ⟨wi_X12, tblG_mem (List.mem_of_getElem? (i := 1346) (by decide +kernel)) (by decide +kernel), ⟨by decide +kernel, by decide +kernel, by decide +kernel⟩, by decide⟩
abbrev mX12_copy : MD := (yX12_copy, cX12_copy, 3, none)
theorem okX12_copy : okM mX12_copy 2 := ⟨wi_X12, tblG_mem (List.mem_of_getElem? (i := 1350) (by decide +kernel)) (by decide +kernel), ⟨by decide +kernel, by decide +kernel, by decide +kernel⟩, by decide⟩
theorem isX12_copy : Cond.static yX12_copy ∈ tblG := tblG_mem (List.mem_of_getElem? (i := 1349) (by decide +kernel)) (by decide +kernel)
abbrev mX12_bell : MD := (yX12_bell, cX12_bell, 5, some .int)
theorem okX12_bell : okM mX12_bell 3 := ⟨wi_X12, tblG_mem (List.mem_of_getElem? (i := 1462) (by decide +kernel)) (by decide +kernel), ⟨by decide +kernel, by decide +kernel, by decide +kernel⟩, by decide⟩
theorem isX12_bell : Cond.instanceMethod yX12_bell ∈ tblG ∧ Cond.selects yX12_bell.cls yX12_bell yX12_bell ∈ tblG := ⟨tblG_mem (List.mem_of_getElem? (i := 1460) (by decide +kernel)) (by decide +kernel), tblG_mem (List.mem_of_getElem? (i := 1461) (by decide +kernel)) (by decide +kernel)⟩
abbrev mX12_isIn : MD := (yX12_isIn, cX12_isIn, 3, some .boolean)
theorem okX12_isIn : okM mX12_isIn 3 := ⟨wi_X12, tblG_mem (List.mem_of_getElem? (i := 1465) (by decide +kernel)) (by decide +kernel), ⟨by decide +kernel, by decide +kernel, by decide +kernel⟩, by decide⟩
theorem isX12_isIn : Cond.static yX12_isIn ∈ tblG := tblG_mem (List.mem_of_getElem? (i := 1464) (by decide +kernel)) (by decide +kernel)
abbrev mX12_word : MD := (yX12_word, cX12_word, 11, some .int)
theorem okX12_word : okM mX12_word 6 := ⟨wi_X12, tblG_mem (List.mem_of_getElem? (i := 1469) (by decide +kernel)) (by decide +kernel), ⟨by decide +kernel, by decide +kernel, by decide +kernel⟩, by decide⟩
theorem isX12_word : Cond.instanceMethod yX12_word ∈ tblG ∧ Cond.selects yX12_word.cls yX12_word yX12_word ∈ tblG := ⟨tblG_mem (List.mem_of_getElem? (i := 1467) (by decide +kernel)) (by decide +kernel), tblG_mem (List.mem_of_getElem? (i := 1468) (by decide +kernel)) (by decide +kernel)⟩
abbrev mX12_lengthTold : MD := (yX12_lengthTold, cX12_lengthTold, 3, some .int)
theorem okX12_lengthTold : okM mX12_lengthTold 0 := ⟨wi_X12, tblG_mem (List.mem_of_getElem? (i := 1473) (by decide +kernel)) (by decide +kernel), ⟨by decide +kernel, by decide +kernel, by decide +kernel⟩, by decide⟩
theorem isX12_lengthTold : Cond.instanceMethod yX12_lengthTold ∈ tblG ∧ Cond.selects yX12_lengthTold.cls yX12_lengthTold yX12_lengthTold ∈ tblG := ⟨tblG_mem (List.mem_of_getElem? (i := 1472) (by decide +kernel)) (by decide +kernel), tblG_mem (List.mem_of_getElem? (i := 42) (by decide +kernel)) (by decide +kernel)⟩
abbrev mX12_isBell : MD := (yX12_isBell, cX12_isBell, 2, some .boolean)
theorem okX12_isBell : okM mX12_isBell 1 := ⟨wi_X12, tblG_mem (List.mem_of_getElem? (i := 1477) (by decide +kernel)) (by decide +kernel), ⟨by decide +kernel, by decide +kernel, by decide +kernel⟩, by decide⟩
theorem isX12_isBell : Cond.instanceMethod yX12_isBell ∈ tblG ∧ Cond.selects yX12_isBell.cls yX12_isBell yX12_isBell ∈ tblG := ⟨tblG_mem (List.mem_of_getElem? (i := 1476) (by decide +kernel)) (by decide +kernel), tblG_mem (List.mem_of_getElem? (i := 43) (by decide +kernel)) (by decide +kernel)⟩
abbrev mX12_hands : MD := (yX12_hands, cX12_hands, 2, some .boolean)
theorem okX12_hands : okM mX12_hands 1 := ⟨wi_X12, tblG_mem (List.mem_of_getElem? (i := 1481) (by decide +kernel)) (by decide +kernel), ⟨by decide +kernel, by decide +kernel, by decide +kernel⟩, by decide⟩
theorem isX12_hands : Cond.instanceMethod yX12_hands ∈ tblG ∧ Cond.selects yX12_hands.cls yX12_hands yX12_hands ∈ tblG := ⟨tblG_mem (List.mem_of_getElem? (i := 1479) (by decide +kernel)) (by decide +kernel), tblG_mem (List.mem_of_getElem? (i := 1480) (by decide +kernel)) (by decide +kernel)⟩
abbrev mX12_feed : MD := (yX12_feed, cX12_feed, 6, some .int)
theorem okX12_feed : okM mX12_feed 5 := ⟨wi_X12, tblG_mem (List.mem_of_getElem? (i := 1485) (by decide +kernel)) (by decide +kernel), ⟨by decide +kernel, by decide +kernel, by decide +kernel⟩, by decide⟩
theorem isX12_feed : Cond.instanceMethod yX12_feed ∈ tblG ∧ Cond.selects yX12_feed.cls yX12_feed yX12_feed ∈ tblG := ⟨tblG_mem (List.mem_of_getElem? (i := 1483) (by decide +kernel)) (by decide +kernel), tblG_mem (List.mem_of_getElem? (i := 1484) (by decide +kernel)) (by decide +kernel)⟩
abbrev mX12_four : MD := (yX12_four, cX12_four, 3, none)
theorem okX12_four : okM mX12_four 1 := ⟨wi_X12, tblG_mem (List.mem_of_getElem? (i := 1489) (by decide +kernel)) (by decide +kernel), ⟨by decide +kernel, by decide +kernel, by decide +kernel⟩, by decide⟩
theorem isX12_four : Cond.instanceMethod yX12_four ∈ tblG ∧ Cond.selects yX12_four.cls yX12_four yX12_four ∈ tblG := ⟨tblG_mem (List.mem_of_getElem? (i := 1488) (by decide +kernel)) (by decide +kernel), tblG_mem (List.mem_of_getElem? (i := 44) (by decide +kernel)) (by decide +kernel)⟩
abbrev mX12_end : MD := (yX12_end, cX12_end, 2, some .int)
theorem okX12_end : okM mX12_end 1 := ⟨wi_X12, tblG_mem (List.mem_of_getElem? (i := 1493) (by decide +kernel)) (by decide +kernel), ⟨by decide +kernel, by decide +kernel, by decide +kernel⟩, by decide⟩
theorem isX12_end : Cond.instanceMethod yX12_end ∈ tblG ∧ Cond.selects yX12_end.cls yX12_end yX12_end ∈ tblG := ⟨tblG_mem (List.mem_of_getElem? (i := 1491) (by decide +kernel)) (by decide +kernel), tblG_mem (List.mem_of_getElem? (i := 1492) (by decide +kernel)) (by decide +kernel)⟩
abbrev mX12_text : MD := (yX12_text, cX12_text, 1, some .int)
theorem okX12_text : okM mX12_text 0 := ⟨wi_X12, tblG_mem (List.mem_of_getElem? (i := 1497) (by decide +kernel)) (by decide +kernel), ⟨by decide +kernel, by decide +kernel, by decide +kernel⟩, by decide⟩
theorem isX12_text : Cond.instanceMethod yX12_text ∈ tblG ∧ Cond.selects yX12_text.cls yX12_text yX12_text ∈ tblG := ⟨tblG_mem (List.mem_of_getElem? (i := 1495) (by decide +kernel)) (by decide +kernel), tblG_mem (List.mem_of_getElem? (i := 1496) (by decide +kernel)) (by decide +kernel)⟩
abbrev mX12_readText : MD := (yX12_readText, cX12_readText, 2, some .int)
theorem okX12_readText : okM mX12_readText 0 := ⟨wi_X12, tblG_mem (List.mem_of_getElem? (i := 1501) (by decide +kernel)) (by decide +kernel), ⟨by decide +kernel, by decide +kernel, by decide +kernel⟩, by decide⟩
theorem isX12_readText : Cond.instanceMethod yX12_readText ∈ tblG ∧ Cond.selects yX12_readText.cls yX12_readText yX12_readText ∈ tblG := ⟨tblG_mem (List.mem_of_getElem? (i := 1500) (by decide +kernel)) (by decide +kernel), tblG_mem (List.mem_of_getElem? (i := 45) (by decide +kernel)) (by decide +kernel)⟩
abbrev mX12_nextToken : MD := (yX12_nextToken, cX12_nextToken, 2, none)
theorem okX12_nextToken : okM mX12_nextToken 0 := ⟨wi_X12, tblG_mem (List.mem_of_getElem? (i := 1505) (by decide +kernel)) (by decide +kernel), ⟨by decide +kernel, by decide +kernel, by decide +kernel⟩, by decide⟩
theorem isX12_nextToken : Cond.instanceMethod yX12_nextToken ∈ tblG ∧ Cond.selects yX12_nextToken.cls yX12_nextToken yX12_nextToken ∈ tblG := ⟨tblG_mem (List.mem_of_getElem? (i := 1504) (by decide +kernel)) (by decide +kernel), tblG_mem (List.mem_of_getElem? (i := 46) (by decide +kernel)) (by decide +kernel)⟩
abbrev mX12_byteAt : MD := (yX12_byteAt, cX12_byteAt, 2, some .int)
theorem okX12_byteAt : okM mX12_byteAt 1 := ⟨wi_X12, tblG_mem (List.mem_of_getElem? (i := 1509) (by decide +kernel)) (by decide +kernel), ⟨by decide +kernel, by decide +kernel, by decide +kernel⟩, by decide⟩
theorem isX12_byteAt : Cond.instanceMethod yX12_byteAt ∈ tblG ∧ Cond.selects yX12_byteAt.cls yX12_byteAt yX12_byteAt ∈ tblG := ⟨tblG_mem (List.mem_of_getElem? (i := 1508) (by decide +kernel)) (by decide +kernel), tblG_mem (List.mem_of_getElem? (i := 47) (by decide +kernel)) (by decide +kernel)⟩
abbrev mX12_isFigure : MD := (yX12_isFigure, cX12_isFigure, 1, some .boolean)
theorem okX12_isFigure : okM mX12_isFigure 1 := ⟨wi_X12, tblG_mem (List.mem_of_getElem? (i := 1512) (by decide +kernel)) (by decide +kernel), ⟨by decide +kernel, by decide +kernel, by decide +kernel⟩, by decide⟩
theorem isX12_isFigure : Cond.static yX12_isFigure ∈ tblG := tblG_mem (List.mem_of_getElem? (i := 1511) (by decide +kernel)) (by decide +kernel)
abbrev mX12_isLetterByte : MD := (yX12_isLetterByte, cX12_isLetterByte, 1, some .boolean)
theorem okX12_isLetterByte : okM mX12_isLetterByte 1 := ⟨wi_X12, tblG_mem (List.mem_of_getElem? (i := 1516) (by decide +kernel)) (by decide +kernel), ⟨by decide +kernel, by decide +kernel, by decide +kernel⟩, by decide⟩
theorem isX12_isLetterByte : Cond.static yX12_isLetterByte ∈ tblG := tblG_mem (List.mem_of_getElem? (i := 1515) (by decide +kernel)) (by decide +kernel)
abbrev mX12_isSign : MD := (yX12_isSign, cX12_isSign, 1, some .boolean)
theorem okX12_isSign : okM mX12_isSign 1 := ⟨wi_X12, tblG_mem (List.mem_of_getElem? (i := 1520) (by decide +kernel)) (by decide +kernel), ⟨by decide +kernel, by decide +kernel, by decide +kernel⟩, by decide⟩
theorem isX12_isSign : Cond.static yX12_isSign ∈ tblG := tblG_mem (List.mem_of_getElem? (i := 1519) (by decide +kernel)) (by decide +kernel)
abbrev mX12_clause : MD := (yX12_clause, cX12_clause, 5, some .int)
theorem okX12_clause : okM mX12_clause 0 := ⟨wi_X12, tblG_mem (List.mem_of_getElem? (i := 1524) (by decide +kernel)) (by decide +kernel), ⟨by decide +kernel, by decide +kernel, by decide +kernel⟩, by decide⟩
theorem isX12_clause : Cond.instanceMethod yX12_clause ∈ tblG ∧ Cond.selects yX12_clause.cls yX12_clause yX12_clause ∈ tblG := ⟨tblG_mem (List.mem_of_getElem? (i := 1523) (by decide +kernel)) (by decide +kernel), tblG_mem (List.mem_of_getElem? (i := 48) (by decide +kernel)) (by decide +kernel)⟩
abbrev mX12_sortOf : MD := (yX12_sortOf, cX12_sortOf, 1, some .int)
theorem okX12_sortOf : okM mX12_sortOf 0 := ⟨wi_X12, tblG_mem (List.mem_of_getElem? (i := 1528) (by decide +kernel)) (by decide +kernel), ⟨by decide +kernel, by decide +kernel, by decide +kernel⟩, by decide⟩
theorem isX12_sortOf : Cond.instanceMethod yX12_sortOf ∈ tblG ∧ Cond.selects yX12_sortOf.cls yX12_sortOf yX12_sortOf ∈ tblG := ⟨tblG_mem (List.mem_of_getElem? (i := 1527) (by decide +kernel)) (by decide +kernel), tblG_mem (List.mem_of_getElem? (i := 49) (by decide +kernel)) (by decide +kernel)⟩
abbrev mX12_w4 : MD := (yX12_w4, cX12_w4, 4, some .long)
theorem okX12_w4 : okM mX12_w4 4 := ⟨wi_X12, tblG_mem (List.mem_of_getElem? (i := 1531) (by decide +kernel)) (by decide +kernel), ⟨by decide +kernel, by decide +kernel, by decide +kernel⟩, by decide⟩
theorem isX12_w4 : Cond.static yX12_w4 ∈ tblG := tblG_mem (List.mem_of_getElem? (i := 1530) (by decide +kernel)) (by decide +kernel)
abbrev mX12_w3 : MD := (yX12_w3, cX12_w3, 3, some .long)
theorem okX12_w3 : okM mX12_w3 3 := ⟨wi_X12, tblG_mem (List.mem_of_getElem? (i := 1534) (by decide +kernel)) (by decide +kernel), ⟨by decide +kernel, by decide +kernel, by decide +kernel⟩, by decide⟩
theorem isX12_w3 : Cond.static yX12_w3 ∈ tblG := tblG_mem (List.mem_of_getElem? (i := 1533) (by decide +kernel)) (by decide +kernel)
abbrev mX12_w2 : MD := (yX12_w2, cX12_w2, 2, some .long)
theorem okX12_w2 : okM mX12_w2 2 := ⟨wi_X12, tblG_mem (List.mem_of_getElem? (i := 1537) (by decide +kernel)) (by decide +kernel), ⟨by decide +kernel, by decide +kernel, by decide +kernel⟩, by decide⟩
theorem isX12_w2 : Cond.static yX12_w2 ∈ tblG := tblG_mem (List.mem_of_getElem? (i := 1536) (by decide +kernel)) (by decide +kernel)
abbrev mX12_isWord : MD := (yX12_isWord, cX12_isWord, 3, some .boolean)
theorem okX12_isWord : okM mX12_isWord 1 := ⟨wi_X12, tblG_mem (List.mem_of_getElem? (i := 1541) (by decide +kernel)) (by decide +kernel), ⟨by decide +kernel, by decide +kernel, by decide +kernel⟩, by decide⟩
theorem isX12_isWord : Cond.instanceMethod yX12_isWord ∈ tblG ∧ Cond.selects yX12_isWord.cls yX12_isWord yX12_isWord ∈ tblG := ⟨tblG_mem (List.mem_of_getElem? (i := 1540) (by decide +kernel)) (by decide +kernel), tblG_mem (List.mem_of_getElem? (i := 50) (by decide +kernel)) (by decide +kernel)⟩
abbrev mX12_isFollows : MD := (yX12_isFollows, cX12_isFollows, 1, some .boolean)
theorem okX12_isFollows : okM mX12_isFollows 0 := ⟨wi_X12, tblG_mem (List.mem_of_getElem? (i := 1545) (by decide +kernel)) (by decide +kernel), ⟨by decide +kernel, by decide +kernel, by decide +kernel⟩, by decide⟩
theorem isX12_isFollows : Cond.instanceMethod yX12_isFollows ∈ tblG ∧ Cond.selects yX12_isFollows.cls yX12_isFollows yX12_isFollows ∈ tblG := ⟨tblG_mem (List.mem_of_getElem? (i := 1544) (by decide +kernel)) (by decide +kernel), tblG_mem (List.mem_of_getElem? (i := 51) (by decide +kernel)) (by decide +kernel)⟩
abbrev mX12_isLong : MD := (yX12_isLong, cX12_isLong, 6, some .boolean)
theorem okX12_isLong : okM mX12_isLong 3 := ⟨wi_X12, tblG_mem (List.mem_of_getElem? (i := 1549) (by decide +kernel)) (by decide +kernel), ⟨by decide +kernel, by decide +kernel, by decide +kernel⟩, by decide⟩
theorem isX12_isLong : Cond.instanceMethod yX12_isLong ∈ tblG ∧ Cond.selects yX12_isLong.cls yX12_isLong yX12_isLong ∈ tblG := ⟨tblG_mem (List.mem_of_getElem? (i := 1548) (by decide +kernel)) (by decide +kernel), tblG_mem (List.mem_of_getElem? (i := 52) (by decide +kernel)) (by decide +kernel)⟩
abbrev mX12_w6 : MD := (yX12_w6, cX12_w6, 6, some .long)
theorem okX12_w6 : okM mX12_w6 6 := ⟨wi_X12, tblG_mem (List.mem_of_getElem? (i := 1552) (by decide +kernel)) (by decide +kernel), ⟨by decide +kernel, by decide +kernel, by decide +kernel⟩, by decide⟩
theorem isX12_w6 : Cond.static yX12_w6 ∈ tblG := tblG_mem (List.mem_of_getElem? (i := 1551) (by decide +kernel)) (by decide +kernel)
abbrev mX12_w5 : MD := (yX12_w5, cX12_w5, 5, some .long)
theorem okX12_w5 : okM mX12_w5 5 := ⟨wi_X12, tblG_mem (List.mem_of_getElem? (i := 1555) (by decide +kernel)) (by decide +kernel), ⟨by decide +kernel, by decide +kernel, by decide +kernel⟩, by decide⟩
theorem isX12_w5 : Cond.static yX12_w5 ∈ tblG := tblG_mem (List.mem_of_getElem? (i := 1554) (by decide +kernel)) (by decide +kernel)
abbrev mX12_has : MD := (yX12_has, cX12_has, 2, some .boolean)
theorem okX12_has : okM mX12_has 2 := ⟨wi_X12, tblG_mem (List.mem_of_getElem? (i := 1558) (by decide +kernel)) (by decide +kernel), ⟨by decide +kernel, by decide +kernel, by decide +kernel⟩, by decide⟩
theorem isX12_has : Cond.static yX12_has ∈ tblG := tblG_mem (List.mem_of_getElem? (i := 1557) (by decide +kernel)) (by decide +kernel)
abbrev mX12_body : MD := (yX12_body, cX12_body, 3, some .int)
theorem okX12_body : okM mX12_body 2 := ⟨wi_X12, tblG_mem (List.mem_of_getElem? (i := 1562) (by decide +kernel)) (by decide +kernel), ⟨by decide +kernel, by decide +kernel, by decide +kernel⟩, by decide⟩
theorem isX12_body : Cond.instanceMethod yX12_body ∈ tblG ∧ Cond.selects yX12_body.cls yX12_body yX12_body ∈ tblG := ⟨tblG_mem (List.mem_of_getElem? (i := 1561) (by decide +kernel)) (by decide +kernel), tblG_mem (List.mem_of_getElem? (i := 53) (by decide +kernel)) (by decide +kernel)⟩
abbrev mX12_bellClause : MD := (yX12_bellClause, cX12_bellClause, 3, some .int)
theorem okX12_bellClause : okM mX12_bellClause 1 := ⟨wi_X12, tblG_mem (List.mem_of_getElem? (i := 1566) (by decide +kernel)) (by decide +kernel), ⟨by decide +kernel, by decide +kernel, by decide +kernel⟩, by decide⟩
theorem isX12_bellClause : Cond.instanceMethod yX12_bellClause ∈ tblG ∧ Cond.selects yX12_bellClause.cls yX12_bellClause yX12_bellClause ∈ tblG := ⟨tblG_mem (List.mem_of_getElem? (i := 1565) (by decide +kernel)) (by decide +kernel), tblG_mem (List.mem_of_getElem? (i := 54) (by decide +kernel)) (by decide +kernel)⟩
abbrev mX12_figure : MD := (yX12_figure, cX12_figure, 4, some .int)
theorem okX12_figure : okM mX12_figure 3 := ⟨wi_X12, tblG_mem (List.mem_of_getElem? (i := 1570) (by decide +kernel)) (by decide +kernel), ⟨by decide +kernel, by decide +kernel, by decide +kernel⟩, by decide⟩
theorem isX12_figure : Cond.instanceMethod yX12_figure ∈ tblG ∧ Cond.selects yX12_figure.cls yX12_figure yX12_figure ∈ tblG := ⟨tblG_mem (List.mem_of_getElem? (i := 1569) (by decide +kernel)) (by decide +kernel), tblG_mem (List.mem_of_getElem? (i := 55) (by decide +kernel)) (by decide +kernel)⟩
abbrev mX12_worded : MD := (yX12_worded, cX12_worded, 6, some .int)
theorem okX12_worded : okM mX12_worded 4 := ⟨wi_X12, tblG_mem (List.mem_of_getElem? (i := 1574) (by decide +kernel)) (by decide +kernel), ⟨by decide +kernel, by decide +kernel, by decide +kernel⟩, by decide⟩
theorem isX12_worded : Cond.instanceMethod yX12_worded ∈ tblG ∧ Cond.selects yX12_worded.cls yX12_worded yX12_worded ∈ tblG := ⟨tblG_mem (List.mem_of_getElem? (i := 1573) (by decide +kernel)) (by decide +kernel), tblG_mem (List.mem_of_getElem? (i := 56) (by decide +kernel)) (by decide +kernel)⟩
abbrev mX12_wordClause : MD := (yX12_wordClause, cX12_wordClause, 4, some .int)
theorem okX12_wordClause : okM mX12_wordClause 1 := ⟨wi_X12, tblG_mem (List.mem_of_getElem? (i := 1578) (by decide +kernel)) (by decide +kernel), ⟨by decide +kernel, by decide +kernel, by decide +kernel⟩, by decide⟩
theorem isX12_wordClause : Cond.instanceMethod yX12_wordClause ∈ tblG ∧ Cond.selects yX12_wordClause.cls yX12_wordClause yX12_wordClause ∈ tblG := ⟨tblG_mem (List.mem_of_getElem? (i := 1577) (by decide +kernel)) (by decide +kernel), tblG_mem (List.mem_of_getElem? (i := 57) (by decide +kernel)) (by decide +kernel)⟩
abbrev mX12_lawClause : MD := (yX12_lawClause, cX12_lawClause, 3, some .int)
theorem okX12_lawClause : okM mX12_lawClause 1 := ⟨wi_X12, tblG_mem (List.mem_of_getElem? (i := 1582) (by decide +kernel)) (by decide +kernel), ⟨by decide +kernel, by decide +kernel, by decide +kernel⟩, by decide⟩
theorem isX12_lawClause : Cond.instanceMethod yX12_lawClause ∈ tblG ∧ Cond.selects yX12_lawClause.cls yX12_lawClause yX12_lawClause ∈ tblG := ⟨tblG_mem (List.mem_of_getElem? (i := 1581) (by decide +kernel)) (by decide +kernel), tblG_mem (List.mem_of_getElem? (i := 58) (by decide +kernel)) (by decide +kernel)⟩
abbrev mX12_either : MD := (yX12_either, cX12_either, 2, some .int)
theorem okX12_either : okM mX12_either 0 := ⟨wi_X12, tblG_mem (List.mem_of_getElem? (i := 1586) (by decide +kernel)) (by decide +kernel), ⟨by decide +kernel, by decide +kernel, by decide +kernel⟩, by decide⟩
theorem isX12_either : Cond.instanceMethod yX12_either ∈ tblG ∧ Cond.selects yX12_either.cls yX12_either yX12_either ∈ tblG := ⟨tblG_mem (List.mem_of_getElem? (i := 1585) (by decide +kernel)) (by decide +kernel), tblG_mem (List.mem_of_getElem? (i := 59) (by decide +kernel)) (by decide +kernel)⟩
abbrev mX12_behindOne : MD := (yX12_behindOne, cX12_behindOne, 2, some .int)
theorem okX12_behindOne : okM mX12_behindOne 0 := ⟨wi_X12, tblG_mem (List.mem_of_getElem? (i := 1590) (by decide +kernel)) (by decide +kernel), ⟨by decide +kernel, by decide +kernel, by decide +kernel⟩, by decide⟩
theorem isX12_behindOne : Cond.instanceMethod yX12_behindOne ∈ tblG ∧ Cond.selects yX12_behindOne.cls yX12_behindOne yX12_behindOne ∈ tblG := ⟨tblG_mem (List.mem_of_getElem? (i := 1589) (by decide +kernel)) (by decide +kernel), tblG_mem (List.mem_of_getElem? (i := 60) (by decide +kernel)) (by decide +kernel)⟩
abbrev mX12_betweenOf : MD := (yX12_betweenOf, cX12_betweenOf, 1, some .int)
theorem okX12_betweenOf : okM mX12_betweenOf 0 := ⟨wi_X12, tblG_mem (List.mem_of_getElem? (i := 1594) (by decide +kernel)) (by decide +kernel), ⟨by decide +kernel, by decide +kernel, by decide +kernel⟩, by decide⟩
theorem isX12_betweenOf : Cond.instanceMethod yX12_betweenOf ∈ tblG ∧ Cond.selects yX12_betweenOf.cls yX12_betweenOf yX12_betweenOf ∈ tblG := ⟨tblG_mem (List.mem_of_getElem? (i := 1593) (by decide +kernel)) (by decide +kernel), tblG_mem (List.mem_of_getElem? (i := 61) (by decide +kernel)) (by decide +kernel)⟩
abbrev mX12_isOpen : MD := (yX12_isOpen, cX12_isOpen, 2, some .boolean)
theorem okX12_isOpen : okM mX12_isOpen 0 := ⟨wi_X12, tblG_mem (List.mem_of_getElem? (i := 1598) (by decide +kernel)) (by decide +kernel), ⟨by decide +kernel, by decide +kernel, by decide +kernel⟩, by decide⟩
theorem isX12_isOpen : Cond.instanceMethod yX12_isOpen ∈ tblG ∧ Cond.selects yX12_isOpen.cls yX12_isOpen yX12_isOpen ∈ tblG := ⟨tblG_mem (List.mem_of_getElem? (i := 1597) (by decide +kernel)) (by decide +kernel), tblG_mem (List.mem_of_getElem? (i := 62) (by decide +kernel)) (by decide +kernel)⟩
abbrev mX12_isCompared : MD := (yX12_isCompared, cX12_isCompared, 2, some .boolean)
theorem okX12_isCompared : okM mX12_isCompared 0 := ⟨wi_X12, tblG_mem (List.mem_of_getElem? (i := 1602) (by decide +kernel)) (by decide +kernel), ⟨by decide +kernel, by decide +kernel, by decide +kernel⟩, by decide⟩
theorem isX12_isCompared : Cond.instanceMethod yX12_isCompared ∈ tblG ∧ Cond.selects yX12_isCompared.cls yX12_isCompared yX12_isCompared ∈ tblG := ⟨tblG_mem (List.mem_of_getElem? (i := 1601) (by decide +kernel)) (by decide +kernel), tblG_mem (List.mem_of_getElem? (i := 63) (by decide +kernel)) (by decide +kernel)⟩
abbrev mX12_rank : MD := (yX12_rank, cX12_rank, 1, some .int)
theorem okX12_rank : okM mX12_rank 1 := ⟨wi_X12, tblG_mem (List.mem_of_getElem? (i := 1605) (by decide +kernel)) (by decide +kernel), ⟨by decide +kernel, by decide +kernel, by decide +kernel⟩, by decide⟩
theorem isX12_rank : Cond.static yX12_rank ∈ tblG := tblG_mem (List.mem_of_getElem? (i := 1604) (by decide +kernel)) (by decide +kernel)
abbrev mX12_compareOf : MD := (yX12_compareOf, cX12_compareOf, 1, some .int)
theorem okX12_compareOf : okM mX12_compareOf 0 := ⟨wi_X12, tblG_mem (List.mem_of_getElem? (i := 1609) (by decide +kernel)) (by decide +kernel), ⟨by decide +kernel, by decide +kernel, by decide +kernel⟩, by decide⟩
theorem isX12_compareOf : Cond.instanceMethod yX12_compareOf ∈ tblG ∧ Cond.selects yX12_compareOf.cls yX12_compareOf yX12_compareOf ∈ tblG := ⟨tblG_mem (List.mem_of_getElem? (i := 1608) (by decide +kernel)) (by decide +kernel), tblG_mem (List.mem_of_getElem? (i := 64) (by decide +kernel)) (by decide +kernel)⟩
abbrev mX12_opened : MD := (yX12_opened, cX12_opened, 2, some .int)
theorem okX12_opened : okM mX12_opened 1 := ⟨wi_X12, tblG_mem (List.mem_of_getElem? (i := 1613) (by decide +kernel)) (by decide +kernel), ⟨by decide +kernel, by decide +kernel, by decide +kernel⟩, by decide⟩
theorem isX12_opened : Cond.instanceMethod yX12_opened ∈ tblG ∧ Cond.selects yX12_opened.cls yX12_opened yX12_opened ∈ tblG := ⟨tblG_mem (List.mem_of_getElem? (i := 1612) (by decide +kernel)) (by decide +kernel), tblG_mem (List.mem_of_getElem? (i := 65) (by decide +kernel)) (by decide +kernel)⟩
abbrev mX12_settle : MD := (yX12_settle, cX12_settle, 2, none)
theorem okX12_settle : okM mX12_settle 1 := ⟨wi_X12, tblG_mem (List.mem_of_getElem? (i := 1617) (by decide +kernel)) (by decide +kernel), ⟨by decide +kernel, by decide +kernel, by decide +kernel⟩, by decide⟩
theorem isX12_settle : Cond.instanceMethod yX12_settle ∈ tblG ∧ Cond.selects yX12_settle.cls yX12_settle yX12_settle ∈ tblG := ⟨tblG_mem (List.mem_of_getElem? (i := 1616) (by decide +kernel)) (by decide +kernel), tblG_mem (List.mem_of_getElem? (i := 66) (by decide +kernel)) (by decide +kernel)⟩
abbrev mX12_emit : MD := (yX12_emit, cX12_emit, 3, none)
theorem okX12_emit : okM mX12_emit 2 := ⟨wi_X12, tblG_mem (List.mem_of_getElem? (i := 1621) (by decide +kernel)) (by decide +kernel), ⟨by decide +kernel, by decide +kernel, by decide +kernel⟩, by decide⟩
theorem isX12_emit : Cond.instanceMethod yX12_emit ∈ tblG ∧ Cond.selects yX12_emit.cls yX12_emit yX12_emit ∈ tblG := ⟨tblG_mem (List.mem_of_getElem? (i := 1620) (by decide +kernel)) (by decide +kernel), tblG_mem (List.mem_of_getElem? (i := 67) (by decide +kernel)) (by decide +kernel)⟩
abbrev mX12_beginOne : MD := (yX12_beginOne, cX12_beginOne, 2, some .int)
theorem okX12_beginOne : okM mX12_beginOne 0 := ⟨wi_X12, tblG_mem (List.mem_of_getElem? (i := 1625) (by decide +kernel)) (by decide +kernel), ⟨by decide +kernel, by decide +kernel, by decide +kernel⟩, by decide⟩
theorem isX12_beginOne : Cond.instanceMethod yX12_beginOne ∈ tblG ∧ Cond.selects yX12_beginOne.cls yX12_beginOne yX12_beginOne ∈ tblG := ⟨tblG_mem (List.mem_of_getElem? (i := 1624) (by decide +kernel)) (by decide +kernel), tblG_mem (List.mem_of_getElem? (i := 68) (by decide +kernel)) (by decide +kernel)⟩
abbrev mX12_nameOf : MD := (yX12_nameOf, cX12_nameOf, 1, some .int)
theorem okX12_nameOf : okM mX12_nameOf 0 := ⟨wi_X12, tblG_mem (List.mem_of_getElem? (i := 1629) (by decide +kernel)) (by decide +kernel), ⟨by decide +kernel, by decide +kernel, by decide +kernel⟩, by decide⟩
theorem isX12_nameOf : Cond.instanceMethod yX12_nameOf ∈ tblG ∧ Cond.selects yX12_nameOf.cls yX12_nameOf yX12_nameOf ∈ tblG := ⟨tblG_mem (List.mem_of_getElem? (i := 1628) (by decide +kernel)) (by decide +kernel), tblG_mem (List.mem_of_getElem? (i := 69) (by decide +kernel)) (by decide +kernel)⟩
abbrev mX12_isStrokes : MD := (yX12_isStrokes, cX12_isStrokes, 1, some .boolean)
theorem okX12_isStrokes : okM mX12_isStrokes 0 := ⟨wi_X12, tblG_mem (List.mem_of_getElem? (i := 1633) (by decide +kernel)) (by decide +kernel), ⟨by decide +kernel, by decide +kernel, by decide +kernel⟩, by decide⟩
theorem isX12_isStrokes : Cond.instanceMethod yX12_isStrokes ∈ tblG ∧ Cond.selects yX12_isStrokes.cls yX12_isStrokes yX12_isStrokes ∈ tblG := ⟨tblG_mem (List.mem_of_getElem? (i := 1632) (by decide +kernel)) (by decide +kernel), tblG_mem (List.mem_of_getElem? (i := 70) (by decide +kernel)) (by decide +kernel)⟩
abbrev mX12_isMeaning : MD := (yX12_isMeaning, cX12_isMeaning, 1, some .boolean)
theorem okX12_isMeaning : okM mX12_isMeaning 0 := ⟨wi_X12, tblG_mem (List.mem_of_getElem? (i := 1637) (by decide +kernel)) (by decide +kernel), ⟨by decide +kernel, by decide +kernel, by decide +kernel⟩, by decide⟩
theorem isX12_isMeaning : Cond.instanceMethod yX12_isMeaning ∈ tblG ∧ Cond.selects yX12_isMeaning.cls yX12_isMeaning yX12_isMeaning ∈ tblG := ⟨tblG_mem (List.mem_of_getElem? (i := 1636) (by decide +kernel)) (by decide +kernel), tblG_mem (List.mem_of_getElem? (i := 71) (by decide +kernel)) (by decide +kernel)⟩
abbrev mX12_isOf : MD := (yX12_isOf, cX12_isOf, 2, some .boolean)
theorem okX12_isOf : okM mX12_isOf 1 := ⟨wi_X12, tblG_mem (List.mem_of_getElem? (i := 1641) (by decide +kernel)) (by decide +kernel), ⟨by decide +kernel, by decide +kernel, by decide +kernel⟩, by decide⟩
theorem isX12_isOf : Cond.instanceMethod yX12_isOf ∈ tblG ∧ Cond.selects yX12_isOf.cls yX12_isOf yX12_isOf ∈ tblG := ⟨tblG_mem (List.mem_of_getElem? (i := 1640) (by decide +kernel)) (by decide +kernel), tblG_mem (List.mem_of_getElem? (i := 72) (by decide +kernel)) (by decide +kernel)⟩
abbrev mX12_isAskAhead : MD := (yX12_isAskAhead, cX12_isAskAhead, 1, some .boolean)
theorem okX12_isAskAhead : okM mX12_isAskAhead 0 := ⟨wi_X12, tblG_mem (List.mem_of_getElem? (i := 1645) (by decide +kernel)) (by decide +kernel), ⟨by decide +kernel, by decide +kernel, by decide +kernel⟩, by decide⟩
theorem isX12_isAskAhead : Cond.instanceMethod yX12_isAskAhead ∈ tblG ∧ Cond.selects yX12_isAskAhead.cls yX12_isAskAhead yX12_isAskAhead ∈ tblG := ⟨tblG_mem (List.mem_of_getElem? (i := 1644) (by decide +kernel)) (by decide +kernel), tblG_mem (List.mem_of_getElem? (i := 73) (by decide +kernel)) (by decide +kernel)⟩
abbrev mX12_fault : MD := (yX12_fault, cX12_fault, 2, some .int)
theorem okX12_fault : okM mX12_fault 1 := ⟨wi_X12, tblG_mem (List.mem_of_getElem? (i := 1649) (by decide +kernel)) (by decide +kernel), ⟨by decide +kernel, by decide +kernel, by decide +kernel⟩, by decide⟩
theorem isX12_fault : Cond.instanceMethod yX12_fault ∈ tblG ∧ Cond.selects yX12_fault.cls yX12_fault yX12_fault ∈ tblG := ⟨tblG_mem (List.mem_of_getElem? (i := 1647) (by decide +kernel)) (by decide +kernel), tblG_mem (List.mem_of_getElem? (i := 1648) (by decide +kernel)) (by decide +kernel)⟩
abbrev mX12_by : MD := (yX12_by, cX12_by, 2, some .boolean)
theorem okX12_by : okM mX12_by 1 := ⟨wi_X12, tblG_mem (List.mem_of_getElem? (i := 1653) (by decide +kernel)) (by decide +kernel), ⟨by decide +kernel, by decide +kernel, by decide +kernel⟩, by decide⟩
theorem isX12_by : Cond.instanceMethod yX12_by ∈ tblG ∧ Cond.selects yX12_by.cls yX12_by yX12_by ∈ tblG := ⟨tblG_mem (List.mem_of_getElem? (i := 1651) (by decide +kernel)) (by decide +kernel), tblG_mem (List.mem_of_getElem? (i := 1652) (by decide +kernel)) (by decide +kernel)⟩
abbrev mX12_undo : MD := (yX12_undo, cX12_undo, 3, some .int)
theorem okX12_undo : okM mX12_undo 0 := ⟨wi_X12, tblG_mem (List.mem_of_getElem? (i := 1657) (by decide +kernel)) (by decide +kernel), ⟨by decide +kernel, by decide +kernel, by decide +kernel⟩, by decide⟩
theorem isX12_undo : Cond.instanceMethod yX12_undo ∈ tblG ∧ Cond.selects yX12_undo.cls yX12_undo yX12_undo ∈ tblG := ⟨tblG_mem (List.mem_of_getElem? (i := 1655) (by decide +kernel)) (by decide +kernel), tblG_mem (List.mem_of_getElem? (i := 1656) (by decide +kernel)) (by decide +kernel)⟩
abbrev mX12_ring : MD := (yX12_ring, cX12_ring, 2, some .int)
theorem okX12_ring : okM mX12_ring 1 := ⟨wi_X12, tblG_mem (List.mem_of_getElem? (i := 1661) (by decide +kernel)) (by decide +kernel), ⟨by decide +kernel, by decide +kernel, by decide +kernel⟩, by decide⟩
theorem isX12_ring : Cond.instanceMethod yX12_ring ∈ tblG ∧ Cond.selects yX12_ring.cls yX12_ring yX12_ring ∈ tblG := ⟨tblG_mem (List.mem_of_getElem? (i := 1659) (by decide +kernel)) (by decide +kernel), tblG_mem (List.mem_of_getElem? (i := 1660) (by decide +kernel)) (by decide +kernel)⟩
abbrev mX12_canRing : MD := (yX12_canRing, cX12_canRing, 2, some .boolean)
theorem okX12_canRing : okM mX12_canRing 1 := ⟨wi_X12, tblG_mem (List.mem_of_getElem? (i := 1665) (by decide +kernel)) (by decide +kernel), ⟨by decide +kernel, by decide +kernel, by decide +kernel⟩, by decide⟩
theorem isX12_canRing : Cond.instanceMethod yX12_canRing ∈ tblG ∧ Cond.selects yX12_canRing.cls yX12_canRing yX12_canRing ∈ tblG := ⟨tblG_mem (List.mem_of_getElem? (i := 1664) (by decide +kernel)) (by decide +kernel), tblG_mem (List.mem_of_getElem? (i := 74) (by decide +kernel)) (by decide +kernel)⟩
abbrev mX12_men : MD := (yX12_men, cX12_men, 2, some .int)
theorem okX12_men : okM mX12_men 1 := ⟨wi_X12, tblG_mem (List.mem_of_getElem? (i := 1669) (by decide +kernel)) (by decide +kernel), ⟨by decide +kernel, by decide +kernel, by decide +kernel⟩, by decide⟩
theorem isX12_men : Cond.instanceMethod yX12_men ∈ tblG ∧ Cond.selects yX12_men.cls yX12_men yX12_men ∈ tblG := ⟨tblG_mem (List.mem_of_getElem? (i := 1668) (by decide +kernel)) (by decide +kernel), tblG_mem (List.mem_of_getElem? (i := 75) (by decide +kernel)) (by decide +kernel)⟩
abbrev mX12_keep : MD := (yX12_keep, cX12_keep, 3, none)
theorem okX12_keep : okM mX12_keep 0 := ⟨wi_X12, tblG_mem (List.mem_of_getElem? (i := 1673) (by decide +kernel)) (by decide +kernel), ⟨by decide +kernel, by decide +kernel, by decide +kernel⟩, by decide⟩
theorem isX12_keep : Cond.instanceMethod yX12_keep ∈ tblG ∧ Cond.selects yX12_keep.cls yX12_keep yX12_keep ∈ tblG := ⟨tblG_mem (List.mem_of_getElem? (i := 1672) (by decide +kernel)) (by decide +kernel), tblG_mem (List.mem_of_getElem? (i := 76) (by decide +kernel)) (by decide +kernel)⟩
abbrev mX12_ringNow : MD := (yX12_ringNow, cX12_ringNow, 3, some .int)
theorem okX12_ringNow : okM mX12_ringNow 1 := ⟨wi_X12, tblG_mem (List.mem_of_getElem? (i := 1677) (by decide +kernel)) (by decide +kernel), ⟨by decide +kernel, by decide +kernel, by decide +kernel⟩, by decide⟩
theorem isX12_ringNow : Cond.instanceMethod yX12_ringNow ∈ tblG ∧ Cond.selects yX12_ringNow.cls yX12_ringNow yX12_ringNow ∈ tblG := ⟨tblG_mem (List.mem_of_getElem? (i := 1676) (by decide +kernel)) (by decide +kernel), tblG_mem (List.mem_of_getElem? (i := 77) (by decide +kernel)) (by decide +kernel)⟩
abbrev mX12_isOver : MD := (yX12_isOver, cX12_isOver, 5, some .boolean)
theorem okX12_isOver : okM mX12_isOver 3 := ⟨wi_X12, tblG_mem (List.mem_of_getElem? (i := 1681) (by decide +kernel)) (by decide +kernel), ⟨by decide +kernel, by decide +kernel, by decide +kernel⟩, by decide⟩
theorem isX12_isOver : Cond.instanceMethod yX12_isOver ∈ tblG ∧ Cond.selects yX12_isOver.cls yX12_isOver yX12_isOver ∈ tblG := ⟨tblG_mem (List.mem_of_getElem? (i := 1680) (by decide +kernel)) (by decide +kernel), tblG_mem (List.mem_of_getElem? (i := 78) (by decide +kernel)) (by decide +kernel)⟩
abbrev mX12_clauseOf : MD := (yX12_clauseOf, cX12_clauseOf, 4, some .int)
theorem okX12_clauseOf : okM mX12_clauseOf 2 := ⟨wi_X12, tblG_mem (List.mem_of_getElem? (i := 1685) (by decide +kernel)) (by decide +kernel), ⟨by decide +kernel, by decide +kernel, by decide +kernel⟩, by decide⟩
theorem isX12_clauseOf : Cond.instanceMethod yX12_clauseOf ∈ tblG ∧ Cond.selects yX12_clauseOf.cls yX12_clauseOf yX12_clauseOf ∈ tblG := ⟨tblG_mem (List.mem_of_getElem? (i := 1684) (by decide +kernel)) (by decide +kernel), tblG_mem (List.mem_of_getElem? (i := 79) (by decide +kernel)) (by decide +kernel)⟩
abbrev mX12_loud : MD := (yX12_loud, cX12_loud, 2, some .int)
theorem okX12_loud : okM mX12_loud 1 := ⟨wi_X12, tblG_mem (List.mem_of_getElem? (i := 1689) (by decide +kernel)) (by decide +kernel), ⟨by decide +kernel, by decide +kernel, by decide +kernel⟩, by decide⟩
theorem isX12_loud : Cond.instanceMethod yX12_loud ∈ tblG ∧ Cond.selects yX12_loud.cls yX12_loud yX12_loud ∈ tblG := ⟨tblG_mem (List.mem_of_getElem? (i := 1688) (by decide +kernel)) (by decide +kernel), tblG_mem (List.mem_of_getElem? (i := 80) (by decide +kernel)) (by decide +kernel)⟩
abbrev mX12_pitch : MD := (yX12_pitch, cX12_pitch, 2, some .int)
theorem okX12_pitch : okM mX12_pitch 1 := ⟨wi_X12, tblG_mem (List.mem_of_getElem? (i := 1693) (by decide +kernel)) (by decide +kernel), ⟨by decide +kernel, by decide +kernel, by decide +kernel⟩, by decide⟩
theorem isX12_pitch : Cond.instanceMethod yX12_pitch ∈ tblG ∧ Cond.selects yX12_pitch.cls yX12_pitch yX12_pitch ∈ tblG := ⟨tblG_mem (List.mem_of_getElem? (i := 1692) (by decide +kernel)) (by decide +kernel), tblG_mem (List.mem_of_getElem? (i := 81) (by decide +kernel)) (by decide +kernel)⟩
abbrev mX12_isSo : MD := (yX12_isSo, cX12_isSo, 10, some .boolean)
theorem okX12_isSo : okM mX12_isSo 2 := ⟨wi_X12, tblG_mem (List.mem_of_getElem? (i := 1697) (by decide +kernel)) (by decide +kernel), ⟨by decide +kernel, by decide +kernel, by decide +kernel⟩, by decide⟩
theorem isX12_isSo : Cond.instanceMethod yX12_isSo ∈ tblG ∧ Cond.selects yX12_isSo.cls yX12_isSo yX12_isSo ∈ tblG := ⟨tblG_mem (List.mem_of_getElem? (i := 1696) (by decide +kernel)) (by decide +kernel), tblG_mem (List.mem_of_getElem? (i := 82) (by decide +kernel)) (by decide +kernel)⟩
abbrev mX12_power : MD := (yX12_power, cX12_power, 7, some .long)
theorem okX12_power : okM mX12_power 2 := ⟨wi_X12, tblG_mem (List.mem_of_getElem? (i := 1700) (by decide +kernel)) (by decide +kernel), ⟨by decide +kernel, by decide +kernel, by decide +kernel⟩, by decide⟩
theorem isX12_power : Cond.static yX12_power ∈ tblG := tblG_mem (List.mem_of_getElem? (i := 1699) (by decide +kernel)) (by decide +kernel)
abbrev mX12_two : MD := (yX12_two, cX12_two, 5, some .long)
theorem okX12_two : okM mX12_two 3 := ⟨wi_X12, tblG_mem (List.mem_of_getElem? (i := 1703) (by decide +kernel)) (by decide +kernel), ⟨by decide +kernel, by decide +kernel, by decide +kernel⟩, by decide⟩
theorem isX12_two : Cond.static yX12_two ∈ tblG := tblG_mem (List.mem_of_getElem? (i := 1702) (by decide +kernel)) (by decide +kernel)
abbrev mX12_clip : MD := (yX12_clip, cX12_clip, 2, some .long)
theorem okX12_clip : okM mX12_clip 1 := ⟨wi_X12, tblG_mem (List.mem_of_getElem? (i := 1706) (by decide +kernel)) (by decide +kernel), ⟨by decide +kernel, by decide +kernel, by decide +kernel⟩, by decide⟩
theorem isX12_clip : Cond.static yX12_clip ∈ tblG := tblG_mem (List.mem_of_getElem? (i := 1705) (by decide +kernel)) (by decide +kernel)
abbrev mX12_isAsked : MD := (yX12_isAsked, cX12_isAsked, 5, some .boolean)
theorem okX12_isAsked : okM mX12_isAsked 3 := ⟨wi_X12, tblG_mem (List.mem_of_getElem? (i := 1711) (by decide +kernel)) (by decide +kernel), ⟨by decide +kernel, by decide +kernel, by decide +kernel⟩, by decide⟩
theorem isX12_isAsked : Cond.static yX12_isAsked ∈ tblG := tblG_mem (List.mem_of_getElem? (i := 1710) (by decide +kernel)) (by decide +kernel)
abbrev mX12_speak : MD := (yX12_speak, cX12_speak, 2, some .int)
theorem okX12_speak : okM mX12_speak 1 := ⟨wi_X12, tblG_mem (List.mem_of_getElem? (i := 1715) (by decide +kernel)) (by decide +kernel), ⟨by decide +kernel, by decide +kernel, by decide +kernel⟩, by decide⟩
theorem isX12_speak : Cond.instanceMethod yX12_speak ∈ tblG ∧ Cond.selects yX12_speak.cls yX12_speak yX12_speak ∈ tblG := ⟨tblG_mem (List.mem_of_getElem? (i := 1713) (by decide +kernel)) (by decide +kernel), tblG_mem (List.mem_of_getElem? (i := 1714) (by decide +kernel)) (by decide +kernel)⟩
abbrev mX12_isWord0 : MD := (yX12_isWord0, cX12_isWord0, 2, some .boolean)
theorem okX12_isWord0 : okM mX12_isWord0 1 := ⟨wi_X12, tblG_mem (List.mem_of_getElem? (i := 1719) (by decide +kernel)) (by decide +kernel), ⟨by decide +kernel, by decide +kernel, by decide +kernel⟩, by decide⟩
theorem isX12_isWord0 : Cond.instanceMethod yX12_isWord0 ∈ tblG ∧ Cond.selects yX12_isWord0.cls yX12_isWord0 yX12_isWord0 ∈ tblG := ⟨tblG_mem (List.mem_of_getElem? (i := 1718) (by decide +kernel)) (by decide +kernel), tblG_mem (List.mem_of_getElem? (i := 83) (by decide +kernel)) (by decide +kernel)⟩
abbrev mX12_canSpeak : MD := (yX12_canSpeak, cX12_canSpeak, 2, some .boolean)
theorem okX12_canSpeak : okM mX12_canSpeak 1 := ⟨wi_X12, tblG_mem (List.mem_of_getElem? (i := 1723) (by decide +kernel)) (by decide +kernel), ⟨by decide +kernel, by decide +kernel, by decide +kernel⟩, by decide⟩
theorem isX12_canSpeak : Cond.instanceMethod yX12_canSpeak ∈ tblG ∧ Cond.selects yX12_canSpeak.cls yX12_canSpeak yX12_canSpeak ∈ tblG := ⟨tblG_mem (List.mem_of_getElem? (i := 1722) (by decide +kernel)) (by decide +kernel), tblG_mem (List.mem_of_getElem? (i := 84) (by decide +kernel)) (by decide +kernel)⟩
abbrev mX12_needed : MD := (yX12_needed, cX12_needed, 4, some .int)
theorem okX12_needed : okM mX12_needed 1 := ⟨wi_X12, tblG_mem (List.mem_of_getElem? (i := 1727) (by decide +kernel)) (by decide +kernel), ⟨by decide +kernel, by decide +kernel, by decide +kernel⟩, by decide⟩
theorem isX12_needed : Cond.instanceMethod yX12_needed ∈ tblG ∧ Cond.selects yX12_needed.cls yX12_needed yX12_needed ∈ tblG := ⟨tblG_mem (List.mem_of_getElem? (i := 1726) (by decide +kernel)) (by decide +kernel), tblG_mem (List.mem_of_getElem? (i := 85) (by decide +kernel)) (by decide +kernel)⟩
abbrev mX12_of : MD := (yX12_of, cX12_of, 3, some .int)
theorem okX12_of : okM mX12_of 2 := ⟨wi_X12, tblG_mem (List.mem_of_getElem? (i := 1731) (by decide +kernel)) (by decide +kernel), ⟨by decide +kernel, by decide +kernel, by decide +kernel⟩, by decide⟩
theorem isX12_of : Cond.instanceMethod yX12_of ∈ tblG ∧ Cond.selects yX12_of.cls yX12_of yX12_of ∈ tblG := ⟨tblG_mem (List.mem_of_getElem? (i := 1730) (by decide +kernel)) (by decide +kernel), tblG_mem (List.mem_of_getElem? (i := 86) (by decide +kernel)) (by decide +kernel)⟩
abbrev mX12_strokeOf : MD := (yX12_strokeOf, cX12_strokeOf, 3, some .int)
theorem okX12_strokeOf : okM mX12_strokeOf 2 := ⟨wi_X12, tblG_mem (List.mem_of_getElem? (i := 1735) (by decide +kernel)) (by decide +kernel), ⟨by decide +kernel, by decide +kernel, by decide +kernel⟩, by decide⟩
theorem isX12_strokeOf : Cond.instanceMethod yX12_strokeOf ∈ tblG ∧ Cond.selects yX12_strokeOf.cls yX12_strokeOf yX12_strokeOf ∈ tblG := ⟨tblG_mem (List.mem_of_getElem? (i := 1734) (by decide +kernel)) (by decide +kernel), tblG_mem (List.mem_of_getElem? (i := 87) (by decide +kernel)) (by decide +kernel)⟩
abbrev mX12_speakNow : MD := (yX12_speakNow, cX12_speakNow, 4, some .int)
theorem okX12_speakNow : okM mX12_speakNow 1 := ⟨wi_X12, tblG_mem (List.mem_of_getElem? (i := 1739) (by decide +kernel)) (by decide +kernel), ⟨by decide +kernel, by decide +kernel, by decide +kernel⟩, by decide⟩
theorem isX12_speakNow : Cond.instanceMethod yX12_speakNow ∈ tblG ∧ Cond.selects yX12_speakNow.cls yX12_speakNow yX12_speakNow ∈ tblG := ⟨tblG_mem (List.mem_of_getElem? (i := 1738) (by decide +kernel)) (by decide +kernel), tblG_mem (List.mem_of_getElem? (i := 88) (by decide +kernel)) (by decide +kernel)⟩
abbrev mX12_set : MD := (yX12_set, cX12_set, 4, some .boolean)
theorem okX12_set : okM mX12_set 2 := ⟨wi_X12, tblG_mem (List.mem_of_getElem? (i := 1743) (by decide +kernel)) (by decide +kernel), ⟨by decide +kernel, by decide +kernel, by decide +kernel⟩, by decide⟩
theorem isX12_set : Cond.instanceMethod yX12_set ∈ tblG ∧ Cond.selects yX12_set.cls yX12_set yX12_set ∈ tblG := ⟨tblG_mem (List.mem_of_getElem? (i := 1741) (by decide +kernel)) (by decide +kernel), tblG_mem (List.mem_of_getElem? (i := 1742) (by decide +kernel)) (by decide +kernel)⟩
abbrev mX12_hour : MD := (yX12_hour, cX12_hour, 2, some .int)
theorem okX12_hour : okM mX12_hour 1 := ⟨wi_X12, tblG_mem (List.mem_of_getElem? (i := 1747) (by decide +kernel)) (by decide +kernel), ⟨by decide +kernel, by decide +kernel, by decide +kernel⟩, by decide⟩
theorem isX12_hour : Cond.instanceMethod yX12_hour ∈ tblG ∧ Cond.selects yX12_hour.cls yX12_hour yX12_hour ∈ tblG := ⟨tblG_mem (List.mem_of_getElem? (i := 1745) (by decide +kernel)) (by decide +kernel), tblG_mem (List.mem_of_getElem? (i := 1746) (by decide +kernel)) (by decide +kernel)⟩
abbrev mX12_arePassed : MD := (yX12_arePassed, cX12_arePassed, 3, some .boolean)
theorem okX12_arePassed : okM mX12_arePassed 1 := ⟨wi_X12, tblG_mem (List.mem_of_getElem? (i := 1751) (by decide +kernel)) (by decide +kernel), ⟨by decide +kernel, by decide +kernel, by decide +kernel⟩, by decide⟩
theorem isX12_arePassed : Cond.instanceMethod yX12_arePassed ∈ tblG ∧ Cond.selects yX12_arePassed.cls yX12_arePassed yX12_arePassed ∈ tblG := ⟨tblG_mem (List.mem_of_getElem? (i := 1750) (by decide +kernel)) (by decide +kernel), tblG_mem (List.mem_of_getElem? (i := 89) (by decide +kernel)) (by decide +kernel)⟩
abbrev mX12_pass : MD := (yX12_pass, cX12_pass, 2, none)
theorem okX12_pass : okM mX12_pass 0 := ⟨wi_X12, tblG_mem (List.mem_of_getElem? (i := 1755) (by decide +kernel)) (by decide +kernel), ⟨by decide +kernel, by decide +kernel, by decide +kernel⟩, by decide⟩
theorem isX12_pass : Cond.instanceMethod yX12_pass ∈ tblG ∧ Cond.selects yX12_pass.cls yX12_pass yX12_pass ∈ tblG := ⟨tblG_mem (List.mem_of_getElem? (i := 1754) (by decide +kernel)) (by decide +kernel), tblG_mem (List.mem_of_getElem? (i := 90) (by decide +kernel)) (by decide +kernel)⟩
abbrev mX12_drawn : MD := (yX12_drawn, cX12_drawn, 3, some .int)
theorem okX12_drawn : okM mX12_drawn 1 := ⟨wi_X12, tblG_mem (List.mem_of_getElem? (i := 1759) (by decide +kernel)) (by decide +kernel), ⟨by decide +kernel, by decide +kernel, by decide +kernel⟩, by decide⟩
theorem isX12_drawn : Cond.instanceMethod yX12_drawn ∈ tblG ∧ Cond.selects yX12_drawn.cls yX12_drawn yX12_drawn ∈ tblG := ⟨tblG_mem (List.mem_of_getElem? (i := 1758) (by decide +kernel)) (by decide +kernel), tblG_mem (List.mem_of_getElem? (i := 91) (by decide +kernel)) (by decide +kernel)⟩
abbrev mX12_anew : MD := (yX12_anew, cX12_anew, 1, none)
theorem okX12_anew : okM mX12_anew 0 := ⟨wi_X12, tblG_mem (List.mem_of_getElem? (i := 1763) (by decide +kernel)) (by decide +kernel), ⟨by decide +kernel, by decide +kernel, by decide +kernel⟩, by decide⟩
theorem isX12_anew : Cond.instanceMethod yX12_anew ∈ tblG ∧ Cond.selects yX12_anew.cls yX12_anew yX12_anew ∈ tblG := ⟨tblG_mem (List.mem_of_getElem? (i := 1762) (by decide +kernel)) (by decide +kernel), tblG_mem (List.mem_of_getElem? (i := 92) (by decide +kernel)) (by decide +kernel)⟩
abbrev mX12_sunday : MD := (yX12_sunday, cX12_sunday, 1, some .int)
theorem okX12_sunday : okM mX12_sunday 0 := ⟨wi_X12, tblG_mem (List.mem_of_getElem? (i := 1770) (by decide +kernel)) (by decide +kernel), ⟨by decide +kernel, by decide +kernel, by decide +kernel⟩, by decide⟩
theorem isX12_sunday : Cond.instanceMethod yX12_sunday ∈ tblG ∧ Cond.selects yX12_sunday.cls yX12_sunday yX12_sunday ∈ tblG := ⟨tblG_mem (List.mem_of_getElem? (i := 1768) (by decide +kernel)) (by decide +kernel), tblG_mem (List.mem_of_getElem? (i := 1769) (by decide +kernel)) (by decide +kernel)⟩
abbrev mX12_endSunday : MD := (yX12_endSunday, cX12_endSunday, 2, some .int)
theorem okX12_endSunday : okM mX12_endSunday 0 := ⟨wi_X12, tblG_mem (List.mem_of_getElem? (i := 1774) (by decide +kernel)) (by decide +kernel), ⟨by decide +kernel, by decide +kernel, by decide +kernel⟩, by decide⟩
theorem isX12_endSunday : Cond.instanceMethod yX12_endSunday ∈ tblG ∧ Cond.selects yX12_endSunday.cls yX12_endSunday yX12_endSunday ∈ tblG := ⟨tblG_mem (List.mem_of_getElem? (i := 1773) (by decide +kernel)) (by decide +kernel), tblG_mem (List.mem_of_getElem? (i := 93) (by decide +kernel)) (by decide +kernel)⟩
abbrev mX12_layHeard : MD := (yX12_layHeard, cX12_layHeard, 3, some .int)
theorem okX12_layHeard : okM mX12_layHeard 0 := ⟨wi_X12, tblG_mem (List.mem_of_getElem? (i := 1778) (by decide +kernel)) (by decide +kernel), ⟨by decide +kernel, by decide +kernel, by decide +kernel⟩, by decide⟩
theorem isX12_layHeard : Cond.instanceMethod yX12_layHeard ∈ tblG ∧ Cond.selects yX12_layHeard.cls yX12_layHeard yX12_layHeard ∈ tblG := ⟨tblG_mem (List.mem_of_getElem? (i := 1777) (by decide +kernel)) (by decide +kernel), tblG_mem (List.mem_of_getElem? (i := 94) (by decide +kernel)) (by decide +kernel)⟩
abbrev mX12_readings : MD := (yX12_readings, cX12_readings, 2, some .int)
theorem okX12_readings : okM mX12_readings 1 := ⟨wi_X12, tblG_mem (List.mem_of_getElem? (i := 1782) (by decide +kernel)) (by decide +kernel), ⟨by decide +kernel, by decide +kernel, by decide +kernel⟩, by decide⟩
theorem isX12_readings : Cond.instanceMethod yX12_readings ∈ tblG ∧ Cond.selects yX12_readings.cls yX12_readings yX12_readings ∈ tblG := ⟨tblG_mem (List.mem_of_getElem? (i := 1780) (by decide +kernel)) (by decide +kernel), tblG_mem (List.mem_of_getElem? (i := 1781) (by decide +kernel)) (by decide +kernel)⟩
abbrev mX12_layWays : MD := (yX12_layWays, cX12_layWays, 6, some .int)
theorem okX12_layWays : okM mX12_layWays 1 := ⟨wi_X12, tblG_mem (List.mem_of_getElem? (i := 1786) (by decide +kernel)) (by decide +kernel), ⟨by decide +kernel, by decide +kernel, by decide +kernel⟩, by decide⟩
theorem isX12_layWays : Cond.instanceMethod yX12_layWays ∈ tblG ∧ Cond.selects yX12_layWays.cls yX12_layWays yX12_layWays ∈ tblG := ⟨tblG_mem (List.mem_of_getElem? (i := 1785) (by decide +kernel)) (by decide +kernel), tblG_mem (List.mem_of_getElem? (i := 95) (by decide +kernel)) (by decide +kernel)⟩
abbrev mX12_laySense : MD := (yX12_laySense, cX12_laySense, 6, none)
theorem okX12_laySense : okM mX12_laySense 2 := ⟨wi_X12, tblG_mem (List.mem_of_getElem? (i := 1790) (by decide +kernel)) (by decide +kernel), ⟨by decide +kernel, by decide +kernel, by decide +kernel⟩, by decide⟩
theorem isX12_laySense : Cond.instanceMethod yX12_laySense ∈ tblG ∧ Cond.selects yX12_laySense.cls yX12_laySense yX12_laySense ∈ tblG := ⟨tblG_mem (List.mem_of_getElem? (i := 1789) (by decide +kernel)) (by decide +kernel), tblG_mem (List.mem_of_getElem? (i := 96) (by decide +kernel)) (by decide +kernel)⟩
abbrev mX12_isBeginning : MD := (yX12_isBeginning, cX12_isBeginning, 3, some .boolean)
theorem okX12_isBeginning : okM mX12_isBeginning 1 := ⟨wi_X12, tblG_mem (List.mem_of_getElem? (i := 1794) (by decide +kernel)) (by decide +kernel), ⟨by decide +kernel, by decide +kernel, by decide +kernel⟩, by decide⟩
theorem isX12_isBeginning : Cond.instanceMethod yX12_isBeginning ∈ tblG ∧ Cond.selects yX12_isBeginning.cls yX12_isBeginning yX12_isBeginning ∈ tblG := ⟨tblG_mem (List.mem_of_getElem? (i := 1793) (by decide +kernel)) (by decide +kernel), tblG_mem (List.mem_of_getElem? (i := 97) (by decide +kernel)) (by decide +kernel)⟩
abbrev mX12_isFollowing : MD := (yX12_isFollowing, cX12_isFollowing, 6, some .boolean)
theorem okX12_isFollowing : okM mX12_isFollowing 4 := ⟨wi_X12, tblG_mem (List.mem_of_getElem? (i := 1798) (by decide +kernel)) (by decide +kernel), ⟨by decide +kernel, by decide +kernel, by decide +kernel⟩, by decide⟩
theorem isX12_isFollowing : Cond.instanceMethod yX12_isFollowing ∈ tblG ∧ Cond.selects yX12_isFollowing.cls yX12_isFollowing yX12_isFollowing ∈ tblG := ⟨tblG_mem (List.mem_of_getElem? (i := 1797) (by decide +kernel)) (by decide +kernel), tblG_mem (List.mem_of_getElem? (i := 98) (by decide +kernel)) (by decide +kernel)⟩
abbrev mX12_wayAt : MD := (yX12_wayAt, cX12_wayAt, 3, some .int)
theorem okX12_wayAt : okM mX12_wayAt 3 := ⟨wi_X12, tblG_mem (List.mem_of_getElem? (i := 1801) (by decide +kernel)) (by decide +kernel), ⟨by decide +kernel, by decide +kernel, by decide +kernel⟩, by decide⟩
theorem isX12_wayAt : Cond.static yX12_wayAt ∈ tblG := tblG_mem (List.mem_of_getElem? (i := 1800) (by decide +kernel)) (by decide +kernel)
abbrev mX12_waysFrom : MD := (yX12_waysFrom, cX12_waysFrom, 7, some .int)
theorem okX12_waysFrom : okM mX12_waysFrom 4 := ⟨wi_X12, tblG_mem (List.mem_of_getElem? (i := 1805) (by decide +kernel)) (by decide +kernel), ⟨by decide +kernel, by decide +kernel, by decide +kernel⟩, by decide⟩
theorem isX12_waysFrom : Cond.instanceMethod yX12_waysFrom ∈ tblG ∧ Cond.selects yX12_waysFrom.cls yX12_waysFrom yX12_waysFrom ∈ tblG := ⟨tblG_mem (List.mem_of_getElem? (i := 1804) (by decide +kernel)) (by decide +kernel), tblG_mem (List.mem_of_getElem? (i := 99) (by decide +kernel)) (by decide +kernel)⟩
abbrev mX12_isHere : MD := (yX12_isHere, cX12_isHere, 5, some .boolean)
theorem okX12_isHere : okM mX12_isHere 3 := ⟨wi_X12, tblG_mem (List.mem_of_getElem? (i := 1809) (by decide +kernel)) (by decide +kernel), ⟨by decide +kernel, by decide +kernel, by decide +kernel⟩, by decide⟩
theorem isX12_isHere : Cond.instanceMethod yX12_isHere ∈ tblG ∧ Cond.selects yX12_isHere.cls yX12_isHere yX12_isHere ∈ tblG := ⟨tblG_mem (List.mem_of_getElem? (i := 1808) (by decide +kernel)) (by decide +kernel), tblG_mem (List.mem_of_getElem? (i := 100) (by decide +kernel)) (by decide +kernel)⟩
abbrev mX12_isSense : MD := (yX12_isSense, cX12_isSense, 4, some .boolean)
theorem okX12_isSense : okM mX12_isSense 3 := ⟨wi_X12, tblG_mem (List.mem_of_getElem? (i := 1813) (by decide +kernel)) (by decide +kernel), ⟨by decide +kernel, by decide +kernel, by decide +kernel⟩, by decide⟩
theorem isX12_isSense : Cond.instanceMethod yX12_isSense ∈ tblG ∧ Cond.selects yX12_isSense.cls yX12_isSense yX12_isSense ∈ tblG := ⟨tblG_mem (List.mem_of_getElem? (i := 1812) (by decide +kernel)) (by decide +kernel), tblG_mem (List.mem_of_getElem? (i := 101) (by decide +kernel)) (by decide +kernel)⟩
abbrev mX12_played : MD := (yX12_played, cX12_played, 3, some .int)
theorem okX12_played : okM mX12_played 1 := ⟨wi_X12, tblG_mem (List.mem_of_getElem? (i := 1818) (by decide +kernel)) (by decide +kernel), ⟨by decide +kernel, by decide +kernel, by decide +kernel⟩, by decide⟩
theorem isX12_played : Cond.instanceMethod yX12_played ∈ tblG ∧ Cond.selects yX12_played.cls yX12_played yX12_played ∈ tblG := ⟨tblG_mem (List.mem_of_getElem? (i := 1816) (by decide +kernel)) (by decide +kernel), tblG_mem (List.mem_of_getElem? (i := 1817) (by decide +kernel)) (by decide +kernel)⟩
abbrev mX12_isPlayed : MD := (yX12_isPlayed, cX12_isPlayed, 3, some .boolean)
theorem okX12_isPlayed : okM mX12_isPlayed 1 := ⟨wi_X12, tblG_mem (List.mem_of_getElem? (i := 1822) (by decide +kernel)) (by decide +kernel), ⟨by decide +kernel, by decide +kernel, by decide +kernel⟩, by decide⟩
theorem isX12_isPlayed : Cond.instanceMethod yX12_isPlayed ∈ tblG ∧ Cond.selects yX12_isPlayed.cls yX12_isPlayed yX12_isPlayed ∈ tblG := ⟨tblG_mem (List.mem_of_getElem? (i := 1821) (by decide +kernel)) (by decide +kernel), tblG_mem (List.mem_of_getElem? (i := 102) (by decide +kernel)) (by decide +kernel)⟩
abbrev mX12_centuries : MD := (yX12_centuries, cX12_centuries, 5, some .int)
theorem okX12_centuries : okM mX12_centuries 2 := ⟨wi_X12, tblG_mem (List.mem_of_getElem? (i := 1832) (by decide +kernel)) (by decide +kernel), ⟨by decide +kernel, by decide +kernel, by decide +kernel⟩, by decide⟩
theorem isX12_centuries : Cond.instanceMethod yX12_centuries ∈ tblG ∧ Cond.selects yX12_centuries.cls yX12_centuries yX12_centuries ∈ tblG := ⟨tblG_mem (List.mem_of_getElem? (i := 1830) (by decide +kernel)) (by decide +kernel), tblG_mem (List.mem_of_getElem? (i := 1831) (by decide +kernel)) (by decide +kernel)⟩
abbrev mX12_happens : MD := (yX12_happens, cX12_happens, 4, none)
theorem okX12_happens : okM mX12_happens 1 := ⟨wi_X12, tblG_mem (List.mem_of_getElem? (i := 1836) (by decide +kernel)) (by decide +kernel), ⟨by decide +kernel, by decide +kernel, by decide +kernel⟩, by decide⟩
theorem isX12_happens : Cond.instanceMethod yX12_happens ∈ tblG ∧ Cond.selects yX12_happens.cls yX12_happens yX12_happens ∈ tblG := ⟨tblG_mem (List.mem_of_getElem? (i := 1835) (by decide +kernel)) (by decide +kernel), tblG_mem (List.mem_of_getElem? (i := 103) (by decide +kernel)) (by decide +kernel)⟩
abbrev mX12_ofBell : MD := (yX12_ofBell, cX12_ofBell, 3, some .int)
theorem okX12_ofBell : okM mX12_ofBell 2 := ⟨wi_X12, tblG_mem (List.mem_of_getElem? (i := 1840) (by decide +kernel)) (by decide +kernel), ⟨by decide +kernel, by decide +kernel, by decide +kernel⟩, by decide⟩
theorem isX12_ofBell : Cond.instanceMethod yX12_ofBell ∈ tblG ∧ Cond.selects yX12_ofBell.cls yX12_ofBell yX12_ofBell ∈ tblG := ⟨tblG_mem (List.mem_of_getElem? (i := 1838) (by decide +kernel)) (by decide +kernel), tblG_mem (List.mem_of_getElem? (i := 1839) (by decide +kernel)) (by decide +kernel)⟩
abbrev mX12_ofWord : MD := (yX12_ofWord, cX12_ofWord, 3, some .int)
theorem okX12_ofWord : okM mX12_ofWord 2 := ⟨wi_X12, tblG_mem (List.mem_of_getElem? (i := 1844) (by decide +kernel)) (by decide +kernel), ⟨by decide +kernel, by decide +kernel, by decide +kernel⟩, by decide⟩
theorem isX12_ofWord : Cond.instanceMethod yX12_ofWord ∈ tblG ∧ Cond.selects yX12_ofWord.cls yX12_ofWord yX12_ofWord ∈ tblG := ⟨tblG_mem (List.mem_of_getElem? (i := 1842) (by decide +kernel)) (by decide +kernel), tblG_mem (List.mem_of_getElem? (i := 1843) (by decide +kernel)) (by decide +kernel)⟩
abbrev mX12_is : MD := (yX12_is, cX12_is, 2, some .int)
theorem okX12_is : okM mX12_is 1 := ⟨wi_X12, tblG_mem (List.mem_of_getElem? (i := 1848) (by decide +kernel)) (by decide +kernel), ⟨by decide +kernel, by decide +kernel, by decide +kernel⟩, by decide⟩
theorem isX12_is : Cond.instanceMethod yX12_is ∈ tblG ∧ Cond.selects yX12_is.cls yX12_is yX12_is ∈ tblG := ⟨tblG_mem (List.mem_of_getElem? (i := 1846) (by decide +kernel)) (by decide +kernel), tblG_mem (List.mem_of_getElem? (i := 1847) (by decide +kernel)) (by decide +kernel)⟩
abbrev mX12_rung : MD := (yX12_rung, cX12_rung, 2, some .int)
theorem okX12_rung : okM mX12_rung 1 := ⟨wi_X12, tblG_mem (List.mem_of_getElem? (i := 1852) (by decide +kernel)) (by decide +kernel), ⟨by decide +kernel, by decide +kernel, by decide +kernel⟩, by decide⟩
theorem isX12_rung : Cond.instanceMethod yX12_rung ∈ tblG ∧ Cond.selects yX12_rung.cls yX12_rung yX12_rung ∈ tblG := ⟨tblG_mem (List.mem_of_getElem? (i := 1850) (by decide +kernel)) (by decide +kernel), tblG_mem (List.mem_of_getElem? (i := 1851) (by decide +kernel)) (by decide +kernel)⟩
abbrev mX12_heard : MD := (yX12_heard, cX12_heard, 3, some .int)
theorem okX12_heard : okM mX12_heard 1 := ⟨wi_X12, tblG_mem (List.mem_of_getElem? (i := 1856) (by decide +kernel)) (by decide +kernel), ⟨by decide +kernel, by decide +kernel, by decide +kernel⟩, by decide⟩
theorem isX12_heard : Cond.instanceMethod yX12_heard ∈ tblG ∧ Cond.selects yX12_heard.cls yX12_heard yX12_heard ∈ tblG := ⟨tblG_mem (List.mem_of_getElem? (i := 1854) (by decide +kernel)) (by decide +kernel), tblG_mem (List.mem_of_getElem? (i := 1855) (by decide +kernel)) (by decide +kernel)⟩
abbrev mX12_book : MD := (yX12_book, cX12_book, 3, some .int)
theorem okX12_book : okM mX12_book 2 := ⟨wi_X12, tblG_mem (List.mem_of_getElem? (i := 1860) (by decide +kernel)) (by decide +kernel), ⟨by decide +kernel, by decide +kernel, by decide +kernel⟩, by decide⟩
theorem isX12_book : Cond.instanceMethod yX12_book ∈ tblG ∧ Cond.selects yX12_book.cls yX12_book yX12_book ∈ tblG := ⟨tblG_mem (List.mem_of_getElem? (i := 1858) (by decide +kernel)) (by decide +kernel), tblG_mem (List.mem_of_getElem? (i := 1859) (by decide +kernel)) (by decide +kernel)⟩
abbrev mX12_shown : MD := (yX12_shown, cX12_shown, 1, some .int)
theorem okX12_shown : okM mX12_shown 0 := ⟨wi_X12, tblG_mem (List.mem_of_getElem? (i := 1864) (by decide +kernel)) (by decide +kernel), ⟨by decide +kernel, by decide +kernel, by decide +kernel⟩, by decide⟩
theorem isX12_shown : Cond.instanceMethod yX12_shown ∈ tblG ∧ Cond.selects yX12_shown.cls yX12_shown yX12_shown ∈ tblG := ⟨tblG_mem (List.mem_of_getElem? (i := 1863) (by decide +kernel)) (by decide +kernel), tblG_mem (List.mem_of_getElem? (i := 104) (by decide +kernel)) (by decide +kernel)⟩
abbrev mX12_reading : MD := (yX12_reading, cX12_reading, 8, some .int)
theorem okX12_reading : okM mX12_reading 2 := ⟨wi_X12, tblG_mem (List.mem_of_getElem? (i := 1869) (by decide +kernel)) (by decide +kernel), ⟨by decide +kernel, by decide +kernel, by decide +kernel⟩, by decide⟩
theorem isX12_reading : Cond.instanceMethod yX12_reading ∈ tblG ∧ Cond.selects yX12_reading.cls yX12_reading yX12_reading ∈ tblG := ⟨tblG_mem (List.mem_of_getElem? (i := 1867) (by decide +kernel)) (by decide +kernel), tblG_mem (List.mem_of_getElem? (i := 1868) (by decide +kernel)) (by decide +kernel)⟩
abbrev mX12_weight : MD := (yX12_weight, cX12_weight, 3, some .boolean)
theorem okX12_weight : okM mX12_weight 2 := ⟨wi_X12, tblG_mem (List.mem_of_getElem? (i := 1873) (by decide +kernel)) (by decide +kernel), ⟨by decide +kernel, by decide +kernel, by decide +kernel⟩, by decide⟩
theorem isX12_weight : Cond.instanceMethod yX12_weight ∈ tblG ∧ Cond.selects yX12_weight.cls yX12_weight yX12_weight ∈ tblG := ⟨tblG_mem (List.mem_of_getElem? (i := 1871) (by decide +kernel)) (by decide +kernel), tblG_mem (List.mem_of_getElem? (i := 1872) (by decide +kernel)) (by decide +kernel)⟩
abbrev mX12_meant : MD := (yX12_meant, cX12_meant, 9, some .long)
theorem okX12_meant : okM mX12_meant 3 := ⟨wi_X12, tblG_mem (List.mem_of_getElem? (i := 1877) (by decide +kernel)) (by decide +kernel), ⟨by decide +kernel, by decide +kernel, by decide +kernel⟩, by decide⟩
theorem isX12_meant : Cond.instanceMethod yX12_meant ∈ tblG ∧ Cond.selects yX12_meant.cls yX12_meant yX12_meant ∈ tblG := ⟨tblG_mem (List.mem_of_getElem? (i := 1875) (by decide +kernel)) (by decide +kernel), tblG_mem (List.mem_of_getElem? (i := 1876) (by decide +kernel)) (by decide +kernel)⟩
abbrev mX12_likely : MD := (yX12_likely, cX12_likely, 10, some .long)
theorem okX12_likely : okM mX12_likely 3 := ⟨wi_X12, tblG_mem (List.mem_of_getElem? (i := 1882) (by decide +kernel)) (by decide +kernel), ⟨by decide +kernel, by decide +kernel, by decide +kernel⟩, by decide⟩
theorem isX12_likely : Cond.instanceMethod yX12_likely ∈ tblG ∧ Cond.selects yX12_likely.cls yX12_likely yX12_likely ∈ tblG := ⟨tblG_mem (List.mem_of_getElem? (i := 1881) (by decide +kernel)) (by decide +kernel), tblG_mem (List.mem_of_getElem? (i := 105) (by decide +kernel)) (by decide +kernel)⟩
abbrev mX12_isLeft : MD := (yX12_isLeft, cX12_isLeft, 6, some .boolean)
theorem okX12_isLeft : okM mX12_isLeft 3 := ⟨wi_X12, tblG_mem (List.mem_of_getElem? (i := 1886) (by decide +kernel)) (by decide +kernel), ⟨by decide +kernel, by decide +kernel, by decide +kernel⟩, by decide⟩
theorem isX12_isLeft : Cond.instanceMethod yX12_isLeft ∈ tblG ∧ Cond.selects yX12_isLeft.cls yX12_isLeft yX12_isLeft ∈ tblG := ⟨tblG_mem (List.mem_of_getElem? (i := 1885) (by decide +kernel)) (by decide +kernel), tblG_mem (List.mem_of_getElem? (i := 106) (by decide +kernel)) (by decide +kernel)⟩
abbrev mX12_common : MD := (yX12_common, cX12_common, 10, some .long)
theorem okX12_common : okM mX12_common 2 := ⟨wi_X12, tblG_mem (List.mem_of_getElem? (i := 1890) (by decide +kernel)) (by decide +kernel), ⟨by decide +kernel, by decide +kernel, by decide +kernel⟩, by decide⟩
theorem isX12_common : Cond.static yX12_common ∈ tblG := tblG_mem (List.mem_of_getElem? (i := 1889) (by decide +kernel)) (by decide +kernel)
abbrev mX12_shortest : MD := (yX12_shortest, cX12_shortest, 4, some .int)
theorem okX12_shortest : okM mX12_shortest 1 := ⟨wi_X12, tblG_mem (List.mem_of_getElem? (i := 1894) (by decide +kernel)) (by decide +kernel), ⟨by decide +kernel, by decide +kernel, by decide +kernel⟩, by decide⟩
theorem isX12_shortest : Cond.instanceMethod yX12_shortest ∈ tblG ∧ Cond.selects yX12_shortest.cls yX12_shortest yX12_shortest ∈ tblG := ⟨tblG_mem (List.mem_of_getElem? (i := 1892) (by decide +kernel)) (by decide +kernel), tblG_mem (List.mem_of_getElem? (i := 1893) (by decide +kernel)) (by decide +kernel)⟩
abbrev mX12_areOver : MD := (yX12_areOver, cX12_areOver, 4, some .boolean)
theorem okX12_areOver : okM mX12_areOver 2 := ⟨wi_X12, tblG_mem (List.mem_of_getElem? (i := 1898) (by decide +kernel)) (by decide +kernel), ⟨by decide +kernel, by decide +kernel, by decide +kernel⟩, by decide⟩
theorem isX12_areOver : Cond.instanceMethod yX12_areOver ∈ tblG ∧ Cond.selects yX12_areOver.cls yX12_areOver yX12_areOver ∈ tblG := ⟨tblG_mem (List.mem_of_getElem? (i := 1897) (by decide +kernel)) (by decide +kernel), tblG_mem (List.mem_of_getElem? (i := 107) (by decide +kernel)) (by decide +kernel)⟩
abbrev mX12_atWorst : MD := (yX12_atWorst, cX12_atWorst, 3, some .int)
theorem okX12_atWorst : okM mX12_atWorst 1 := ⟨wi_X12, tblG_mem (List.mem_of_getElem? (i := 1902) (by decide +kernel)) (by decide +kernel), ⟨by decide +kernel, by decide +kernel, by decide +kernel⟩, by decide⟩
theorem isX12_atWorst : Cond.instanceMethod yX12_atWorst ∈ tblG ∧ Cond.selects yX12_atWorst.cls yX12_atWorst yX12_atWorst ∈ tblG := ⟨tblG_mem (List.mem_of_getElem? (i := 1900) (by decide +kernel)) (by decide +kernel), tblG_mem (List.mem_of_getElem? (i := 1901) (by decide +kernel)) (by decide +kernel)⟩
abbrev mX12_away : MD := (yX12_away, cX12_away, 3, some .int)
theorem okX12_away : okM mX12_away 2 := ⟨wi_X12, tblG_mem (List.mem_of_getElem? (i := 1906) (by decide +kernel)) (by decide +kernel), ⟨by decide +kernel, by decide +kernel, by decide +kernel⟩, by decide⟩
theorem isX12_away : Cond.instanceMethod yX12_away ∈ tblG ∧ Cond.selects yX12_away.cls yX12_away yX12_away ∈ tblG := ⟨tblG_mem (List.mem_of_getElem? (i := 1904) (by decide +kernel)) (by decide +kernel), tblG_mem (List.mem_of_getElem? (i := 1905) (by decide +kernel)) (by decide +kernel)⟩
abbrev mX12_layWord : MD := (yX12_layWord, cX12_layWord, 4, some .int)
theorem okX12_layWord : okM mX12_layWord 2 := ⟨wi_X12, tblG_mem (List.mem_of_getElem? (i := 1910) (by decide +kernel)) (by decide +kernel), ⟨by decide +kernel, by decide +kernel, by decide +kernel⟩, by decide⟩
theorem isX12_layWord : Cond.instanceMethod yX12_layWord ∈ tblG ∧ Cond.selects yX12_layWord.cls yX12_layWord yX12_layWord ∈ tblG := ⟨tblG_mem (List.mem_of_getElem? (i := 1909) (by decide +kernel)) (by decide +kernel), tblG_mem (List.mem_of_getElem? (i := 108) (by decide +kernel)) (by decide +kernel)⟩
abbrev mX12_farOf : MD := (yX12_farOf, cX12_farOf, 6, some .int)
theorem okX12_farOf : okM mX12_farOf 2 := ⟨wi_X12, tblG_mem (List.mem_of_getElem? (i := 1914) (by decide +kernel)) (by decide +kernel), ⟨by decide +kernel, by decide +kernel, by decide +kernel⟩, by decide⟩
theorem isX12_farOf : Cond.instanceMethod yX12_farOf ∈ tblG ∧ Cond.selects yX12_farOf.cls yX12_farOf yX12_farOf ∈ tblG := ⟨tblG_mem (List.mem_of_getElem? (i := 1913) (by decide +kernel)) (by decide +kernel), tblG_mem (List.mem_of_getElem? (i := 109) (by decide +kernel)) (by decide +kernel)⟩
abbrev mX12_apart : MD := (yX12_apart, cX12_apart, 7, some .int)
theorem okX12_apart : okM mX12_apart 1 := ⟨wi_X12, tblG_mem (List.mem_of_getElem? (i := 1918) (by decide +kernel)) (by decide +kernel), ⟨by decide +kernel, by decide +kernel, by decide +kernel⟩, by decide⟩
theorem isX12_apart : Cond.instanceMethod yX12_apart ∈ tblG ∧ Cond.selects yX12_apart.cls yX12_apart yX12_apart ∈ tblG := ⟨tblG_mem (List.mem_of_getElem? (i := 1916) (by decide +kernel)) (by decide +kernel), tblG_mem (List.mem_of_getElem? (i := 1917) (by decide +kernel)) (by decide +kernel)⟩
abbrev mX12_bits : MD := (yX12_bits, cX12_bits, 3, some .int)
theorem okX12_bits : okM mX12_bits 1 := ⟨wi_X12, tblG_mem (List.mem_of_getElem? (i := 1921) (by decide +kernel)) (by decide +kernel), ⟨by decide +kernel, by decide +kernel, by decide +kernel⟩, by decide⟩
theorem isX12_bits : Cond.static yX12_bits ∈ tblG := tblG_mem (List.mem_of_getElem? (i := 1920) (by decide +kernel)) (by decide +kernel)
abbrev mX12_nearest : MD := (yX12_nearest, cX12_nearest, 6, some .int)
theorem okX12_nearest : okM mX12_nearest 0 := ⟨wi_X12, tblG_mem (List.mem_of_getElem? (i := 1926) (by decide +kernel)) (by decide +kernel), ⟨by decide +kernel, by decide +kernel, by decide +kernel⟩, by decide⟩
theorem isX12_nearest : Cond.instanceMethod yX12_nearest ∈ tblG ∧ Cond.selects yX12_nearest.cls yX12_nearest yX12_nearest ∈ tblG := ⟨tblG_mem (List.mem_of_getElem? (i := 1924) (by decide +kernel)) (by decide +kernel), tblG_mem (List.mem_of_getElem? (i := 1925) (by decide +kernel)) (by decide +kernel)⟩
abbrev mX12_hears : MD := (yX12_hears, cX12_hears, 3, some .boolean)
theorem okX12_hears : okM mX12_hears 2 := ⟨wi_X12, tblG_mem (List.mem_of_getElem? (i := 1931) (by decide +kernel)) (by decide +kernel), ⟨by decide +kernel, by decide +kernel, by decide +kernel⟩, by decide⟩
theorem isX12_hears : Cond.instanceMethod yX12_hears ∈ tblG ∧ Cond.selects yX12_hears.cls yX12_hears yX12_hears ∈ tblG := ⟨tblG_mem (List.mem_of_getElem? (i := 1929) (by decide +kernel)) (by decide +kernel), tblG_mem (List.mem_of_getElem? (i := 1930) (by decide +kernel)) (by decide +kernel)⟩
abbrev mX12_settles : MD := (yX12_settles, cX12_settles, 6, some .int)
theorem okX12_settles : okM mX12_settles 2 := ⟨wi_X12, tblG_mem (List.mem_of_getElem? (i := 1935) (by decide +kernel)) (by decide +kernel), ⟨by decide +kernel, by decide +kernel, by decide +kernel⟩, by decide⟩
theorem isX12_settles : Cond.instanceMethod yX12_settles ∈ tblG ∧ Cond.selects yX12_settles.cls yX12_settles yX12_settles ∈ tblG := ⟨tblG_mem (List.mem_of_getElem? (i := 1933) (by decide +kernel)) (by decide +kernel), tblG_mem (List.mem_of_getElem? (i := 1934) (by decide +kernel)) (by decide +kernel)⟩
abbrev mX12_line : MD := (yX12_line, cX12_line, 3, some .int)
theorem okX12_line : okM mX12_line 2 := ⟨wi_X12, tblG_mem (List.mem_of_getElem? (i := 1939) (by decide +kernel)) (by decide +kernel), ⟨by decide +kernel, by decide +kernel, by decide +kernel⟩, by decide⟩
theorem isX12_line : Cond.instanceMethod yX12_line ∈ tblG ∧ Cond.selects yX12_line.cls yX12_line yX12_line ∈ tblG := ⟨tblG_mem (List.mem_of_getElem? (i := 1937) (by decide +kernel)) (by decide +kernel), tblG_mem (List.mem_of_getElem? (i := 1938) (by decide +kernel)) (by decide +kernel)⟩
abbrev mX12_whose : MD := (yX12_whose, cX12_whose, 5, some .int)
theorem okX12_whose : okM mX12_whose 0 := ⟨wi_X12, tblG_mem (List.mem_of_getElem? (i := 1943) (by decide +kernel)) (by decide +kernel), ⟨by decide +kernel, by decide +kernel, by decide +kernel⟩, by decide⟩
theorem isX12_whose : Cond.instanceMethod yX12_whose ∈ tblG ∧ Cond.selects yX12_whose.cls yX12_whose yX12_whose ∈ tblG := ⟨tblG_mem (List.mem_of_getElem? (i := 1941) (by decide +kernel)) (by decide +kernel), tblG_mem (List.mem_of_getElem? (i := 1942) (by decide +kernel)) (by decide +kernel)⟩
abbrev mX12_pairs : MD := (yX12_pairs, cX12_pairs, 3, some .int)
theorem okX12_pairs : okM mX12_pairs 0 := ⟨wi_X12, tblG_mem (List.mem_of_getElem? (i := 1947) (by decide +kernel)) (by decide +kernel), ⟨by decide +kernel, by decide +kernel, by decide +kernel⟩, by decide⟩
theorem isX12_pairs : Cond.instanceMethod yX12_pairs ∈ tblG ∧ Cond.selects yX12_pairs.cls yX12_pairs yX12_pairs ∈ tblG := ⟨tblG_mem (List.mem_of_getElem? (i := 1945) (by decide +kernel)) (by decide +kernel), tblG_mem (List.mem_of_getElem? (i := 1946) (by decide +kernel)) (by decide +kernel)⟩
abbrev mX12_tower : MD := (yX12_tower, cX12_tower, 3, some .int)
theorem okX12_tower : okM mX12_tower 2 := ⟨wi_X12, tblG_mem (List.mem_of_getElem? (i := 1951) (by decide +kernel)) (by decide +kernel), ⟨by decide +kernel, by decide +kernel, by decide +kernel⟩, by decide⟩
theorem isX12_tower : Cond.instanceMethod yX12_tower ∈ tblG ∧ Cond.selects yX12_tower.cls yX12_tower yX12_tower ∈ tblG := ⟨tblG_mem (List.mem_of_getElem? (i := 1949) (by decide +kernel)) (by decide +kernel), tblG_mem (List.mem_of_getElem? (i := 1950) (by decide +kernel)) (by decide +kernel)⟩
abbrev mX12_lies : MD := (yX12_lies, cX12_lies, 6, some .int)
theorem okX12_lies : okM mX12_lies 1 := ⟨wi_X12, tblG_mem (List.mem_of_getElem? (i := 1955) (by decide +kernel)) (by decide +kernel), ⟨by decide +kernel, by decide +kernel, by decide +kernel⟩, by decide⟩
theorem isX12_lies : Cond.instanceMethod yX12_lies ∈ tblG ∧ Cond.selects yX12_lies.cls yX12_lies yX12_lies ∈ tblG := ⟨tblG_mem (List.mem_of_getElem? (i := 1953) (by decide +kernel)) (by decide +kernel), tblG_mem (List.mem_of_getElem? (i := 1954) (by decide +kernel)) (by decide +kernel)⟩
abbrev mX12_runFrom : MD := (yX12_runFrom, cX12_runFrom, 4, some .int)
theorem okX12_runFrom : okM mX12_runFrom 2 := ⟨wi_X12, tblG_mem (List.mem_of_getElem? (i := 1959) (by decide +kernel)) (by decide +kernel), ⟨by decide +kernel, by decide +kernel, by decide +kernel⟩, by decide⟩
theorem isX12_runFrom : Cond.instanceMethod yX12_runFrom ∈ tblG ∧ Cond.selects yX12_runFrom.cls yX12_runFrom yX12_runFrom ∈ tblG := ⟨tblG_mem (List.mem_of_getElem? (i := 1958) (by decide +kernel)) (by decide +kernel), tblG_mem (List.mem_of_getElem? (i := 110) (by decide +kernel)) (by decide +kernel)⟩
abbrev mX12_newBell : MD := (yX12_newBell, cX12_newBell, 3, some .int)
theorem okX12_newBell : okM mX12_newBell 1 := ⟨wi_X12, tblG_mem (List.mem_of_getElem? (i := 1963) (by decide +kernel)) (by decide +kernel), ⟨by decide +kernel, by decide +kernel, by decide +kernel⟩, by decide⟩
theorem isX12_newBell : Cond.instanceMethod yX12_newBell ∈ tblG ∧ Cond.selects yX12_newBell.cls yX12_newBell yX12_newBell ∈ tblG := ⟨tblG_mem (List.mem_of_getElem? (i := 1961) (by decide +kernel)) (by decide +kernel), tblG_mem (List.mem_of_getElem? (i := 1962) (by decide +kernel)) (by decide +kernel)⟩
abbrev mX12_farFrom : MD := (yX12_farFrom, cX12_farFrom, 5, some .int)
theorem okX12_farFrom : okM mX12_farFrom 1 := ⟨wi_X12, tblG_mem (List.mem_of_getElem? (i := 1967) (by decide +kernel)) (by decide +kernel), ⟨by decide +kernel, by decide +kernel, by decide +kernel⟩, by decide⟩
theorem isX12_farFrom : Cond.instanceMethod yX12_farFrom ∈ tblG ∧ Cond.selects yX12_farFrom.cls yX12_farFrom yX12_farFrom ∈ tblG := ⟨tblG_mem (List.mem_of_getElem? (i := 1966) (by decide +kernel)) (by decide +kernel), tblG_mem (List.mem_of_getElem? (i := 111) (by decide +kernel)) (by decide +kernel)⟩
abbrev mX12_farthest : MD := (yX12_farthest, cX12_farthest, 3, some .int)
theorem okX12_farthest : okM mX12_farthest 0 := ⟨wi_X12, tblG_mem (List.mem_of_getElem? (i := 1971) (by decide +kernel)) (by decide +kernel), ⟨by decide +kernel, by decide +kernel, by decide +kernel⟩, by decide⟩
theorem isX12_farthest : Cond.instanceMethod yX12_farthest ∈ tblG ∧ Cond.selects yX12_farthest.cls yX12_farthest yX12_farthest ∈ tblG := ⟨tblG_mem (List.mem_of_getElem? (i := 1969) (by decide +kernel)) (by decide +kernel), tblG_mem (List.mem_of_getElem? (i := 1970) (by decide +kernel)) (by decide +kernel)⟩
abbrev mX12_ropes : MD := (yX12_ropes, cX12_ropes, 3, some .int)
theorem okX12_ropes : okM mX12_ropes 0 := ⟨wi_X12, tblG_mem (List.mem_of_getElem? (i := 1975) (by decide +kernel)) (by decide +kernel), ⟨by decide +kernel, by decide +kernel, by decide +kernel⟩, by decide⟩
theorem isX12_ropes : Cond.instanceMethod yX12_ropes ∈ tblG ∧ Cond.selects yX12_ropes.cls yX12_ropes yX12_ropes ∈ tblG := ⟨tblG_mem (List.mem_of_getElem? (i := 1973) (by decide +kernel)) (by decide +kernel), tblG_mem (List.mem_of_getElem? (i := 1974) (by decide +kernel)) (by decide +kernel)⟩
abbrev mX12_changes : MD := (yX12_changes, cX12_changes, 8, some .int)
theorem okX12_changes : okM mX12_changes 4 := ⟨wi_X12, tblG_mem (List.mem_of_getElem? (i := 1979) (by decide +kernel)) (by decide +kernel), ⟨by decide +kernel, by decide +kernel, by decide +kernel⟩, by decide⟩
theorem isX12_changes : Cond.instanceMethod yX12_changes ∈ tblG ∧ Cond.selects yX12_changes.cls yX12_changes yX12_changes ∈ tblG := ⟨tblG_mem (List.mem_of_getElem? (i := 1977) (by decide +kernel)) (by decide +kernel), tblG_mem (List.mem_of_getElem? (i := 1978) (by decide +kernel)) (by decide +kernel)⟩
abbrev mX12_tens : MD := (yX12_tens, cX12_tens, 3, some .int)
theorem okX12_tens : okM mX12_tens 1 := ⟨wi_X12, tblG_mem (List.mem_of_getElem? (i := 1982) (by decide +kernel)) (by decide +kernel), ⟨by decide +kernel, by decide +kernel, by decide +kernel⟩, by decide⟩
theorem isX12_tens : Cond.static yX12_tens ∈ tblG := tblG_mem (List.mem_of_getElem? (i := 1981) (by decide +kernel)) (by decide +kernel)
abbrev mX12_isRow : MD := (yX12_isRow, cX12_isRow, 4, some .boolean)
theorem okX12_isRow : okM mX12_isRow 2 := ⟨wi_X12, tblG_mem (List.mem_of_getElem? (i := 1985) (by decide +kernel)) (by decide +kernel), ⟨by decide +kernel, by decide +kernel, by decide +kernel⟩, by decide⟩
theorem isX12_isRow : Cond.static yX12_isRow ∈ tblG := tblG_mem (List.mem_of_getElem? (i := 1984) (by decide +kernel)) (by decide +kernel)
abbrev mX12_digitOf : MD := (yX12_digitOf, cX12_digitOf, 5, some .int)
theorem okX12_digitOf : okM mX12_digitOf 3 := ⟨wi_X12, tblG_mem (List.mem_of_getElem? (i := 1988) (by decide +kernel)) (by decide +kernel), ⟨by decide +kernel, by decide +kernel, by decide +kernel⟩, by decide⟩
theorem isX12_digitOf : Cond.static yX12_digitOf ∈ tblG := tblG_mem (List.mem_of_getElem? (i := 1987) (by decide +kernel)) (by decide +kernel)
abbrev mX12_layRows : MD := (yX12_layRows, cX12_layRows, 3, none)
theorem okX12_layRows : okM mX12_layRows 1 := ⟨wi_X12, tblG_mem (List.mem_of_getElem? (i := 1992) (by decide +kernel)) (by decide +kernel), ⟨by decide +kernel, by decide +kernel, by decide +kernel⟩, by decide⟩
theorem isX12_layRows : Cond.instanceMethod yX12_layRows ∈ tblG ∧ Cond.selects yX12_layRows.cls yX12_layRows yX12_layRows ∈ tblG := ⟨tblG_mem (List.mem_of_getElem? (i := 1991) (by decide +kernel)) (by decide +kernel), tblG_mem (List.mem_of_getElem? (i := 112) (by decide +kernel)) (by decide +kernel)⟩
abbrev mX12_nextOf : MD := (yX12_nextOf, cX12_nextOf, 5, some .int)
theorem okX12_nextOf : okM mX12_nextOf 3 := ⟨wi_X12, tblG_mem (List.mem_of_getElem? (i := 1996) (by decide +kernel)) (by decide +kernel), ⟨by decide +kernel, by decide +kernel, by decide +kernel⟩, by decide⟩
theorem isX12_nextOf : Cond.instanceMethod yX12_nextOf ∈ tblG ∧ Cond.selects yX12_nextOf.cls yX12_nextOf yX12_nextOf ∈ tblG := ⟨tblG_mem (List.mem_of_getElem? (i := 1995) (by decide +kernel)) (by decide +kernel), tblG_mem (List.mem_of_getElem? (i := 113) (by decide +kernel)) (by decide +kernel)⟩
abbrev mX12_isChange : MD := (yX12_isChange, cX12_isChange, 4, some .boolean)
theorem okX12_isChange : okM mX12_isChange 3 := ⟨wi_X12, tblG_mem (List.mem_of_getElem? (i := 1999) (by decide +kernel)) (by decide +kernel), ⟨by decide +kernel, by decide +kernel, by decide +kernel⟩, by decide⟩
theorem isX12_isChange : Cond.static yX12_isChange ∈ tblG := tblG_mem (List.mem_of_getElem? (i := 1998) (by decide +kernel)) (by decide +kernel)
abbrev mX12_takes : MD := (yX12_takes, cX12_takes, 4, some .int)
theorem okX12_takes : okM mX12_takes 1 := ⟨wi_X12, tblG_mem (List.mem_of_getElem? (i := 2003) (by decide +kernel)) (by decide +kernel), ⟨by decide +kernel, by decide +kernel, by decide +kernel⟩, by decide⟩
theorem isX12_takes : Cond.instanceMethod yX12_takes ∈ tblG ∧ Cond.selects yX12_takes.cls yX12_takes yX12_takes ∈ tblG := ⟨tblG_mem (List.mem_of_getElem? (i := 2001) (by decide +kernel)) (by decide +kernel), tblG_mem (List.mem_of_getElem? (i := 2002) (by decide +kernel)) (by decide +kernel)⟩
abbrev mX12_image : MD := (yX12_image, cX12_image, 1, some .int)
theorem okX12_image : okM mX12_image 0 := ⟨wi_X12, tblG_mem (List.mem_of_getElem? (i := 2007) (by decide +kernel)) (by decide +kernel), ⟨by decide +kernel, by decide +kernel, by decide +kernel⟩, by decide⟩
theorem isX12_image : Cond.instanceMethod yX12_image ∈ tblG ∧ Cond.selects yX12_image.cls yX12_image yX12_image ∈ tblG := ⟨tblG_mem (List.mem_of_getElem? (i := 2005) (by decide +kernel)) (by decide +kernel), tblG_mem (List.mem_of_getElem? (i := 2006) (by decide +kernel)) (by decide +kernel)⟩
abbrev mX12_back : MD := (yX12_back, cX12_back, 1, some .int)
theorem okX12_back : okM mX12_back 0 := ⟨wi_X12, tblG_mem (List.mem_of_getElem? (i := 2011) (by decide +kernel)) (by decide +kernel), ⟨by decide +kernel, by decide +kernel, by decide +kernel⟩, by decide⟩
theorem isX12_back : Cond.instanceMethod yX12_back ∈ tblG ∧ Cond.selects yX12_back.cls yX12_back yX12_back ∈ tblG := ⟨tblG_mem (List.mem_of_getElem? (i := 2009) (by decide +kernel)) (by decide +kernel), tblG_mem (List.mem_of_getElem? (i := 2010) (by decide +kernel)) (by decide +kernel)⟩
abbrev mX12_about : MD := (yX12_about, cX12_about, 2, some .int)
theorem okX12_about : okM mX12_about 1 := ⟨wi_X12, tblG_mem (List.mem_of_getElem? (i := 2015) (by decide +kernel)) (by decide +kernel), ⟨by decide +kernel, by decide +kernel, by decide +kernel⟩, by decide⟩
theorem isX12_about : Cond.instanceMethod yX12_about ∈ tblG ∧ Cond.selects yX12_about.cls yX12_about yX12_about ∈ tblG := ⟨tblG_mem (List.mem_of_getElem? (i := 2013) (by decide +kernel)) (by decide +kernel), tblG_mem (List.mem_of_getElem? (i := 2014) (by decide +kernel)) (by decide +kernel)⟩
