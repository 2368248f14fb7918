/-! the tables are good -/
set_option maxRecDepth 100000 in
theorem zd_A_clear : zk_gm zt zm_A_clear := ⟨zt_in 274 (by rfl) (by rfl), zw_ini_5, ⟨by decide +kernel, by decide +kernel⟩, by decide +kernel, by decide⟩
set_option maxRecDepth 100000 in
theorem zd_A_symbol : zk_gm zt zm_A_symbol := ⟨zt_in 407 (by rfl) (by rfl), zw_ini_5, ⟨by decide +kernel, by decide +kernel⟩, by decide +kernel, by decide⟩
set_option maxRecDepth 100000 in
theorem zd_A_production : zk_gm zt zm_A_production := ⟨zt_in 505 (by rfl) (by rfl), zw_ini_5, ⟨by decide +kernel, by decide +kernel⟩, by decide +kernel, by decide⟩
set_option maxRecDepth 100000 in
theorem zd_A_depend : zk_gm zt zm_A_depend := ⟨zt_in 539 (by rfl) (by rfl), zw_ini_5, ⟨by decide +kernel, by decide +kernel⟩, by decide +kernel, by decide⟩
set_option maxRecDepth 100000 in
theorem zd_A_graphs : zk_gm zt zm_A_graphs := ⟨zt_in 581 (by rfl) (by rfl), zw_ini_5, ⟨by decide +kernel, by decide +kernel⟩, by decide +kernel, by decide⟩
set_option maxRecDepth 100000 in
theorem zd_A_circular : zk_gm zt zm_A_circular := ⟨zt_in 626 (by rfl) (by rfl), zw_ini_5, ⟨by decide +kernel, by decide +kernel⟩, by decide +kernel, by decide⟩
set_option maxRecDepth 100000 in
theorem zd_A_strong : zk_gm zt zm_A_strong := ⟨zt_in 286 (by rfl) (by rfl), zw_ini_5, ⟨by decide +kernel, by decide +kernel⟩, by decide +kernel, by decide⟩
set_option maxRecDepth 100000 in
theorem zd_A_doubly : zk_gm zt zm_A_doubly := ⟨zt_in 348 (by rfl) (by rfl), zw_ini_5, ⟨by decide +kernel, by decide +kernel⟩, by decide +kernel, by decide⟩
set_option maxRecDepth 100000 in
theorem zd_A_relation : zk_gm zt zm_A_relation := ⟨zt_in 633 (by rfl) (by rfl), zw_ini_5, ⟨by decide +kernel, by decide +kernel⟩, by decide +kernel, by decide⟩
set_option maxRecDepth 100000 in
theorem zd_A_pass : zk_gm zt zm_A_pass := ⟨zt_in 646 (by rfl) (by rfl), zw_ini_5, ⟨by decide +kernel, by decide +kernel⟩, by decide +kernel, by decide⟩
set_option maxRecDepth 100000 in
theorem zd_A_passes : zk_gm zt zm_A_passes := ⟨zt_in 352 (by rfl) (by rfl), zw_ini_5, ⟨by decide +kernel, by decide +kernel⟩, by decide +kernel, by decide⟩
set_option maxRecDepth 100000 in
theorem zd_A_checkSymbol : zk_gm zt zm_A_checkSymbol := ⟨zt_in 585 (by rfl) (by rfl), zw_ini_5, ⟨by decide +kernel, by decide +kernel⟩, by decide +kernel, by decide⟩
set_option maxRecDepth 100000 in
theorem zd_A_checkAttribute : zk_gm zt zm_A_checkAttribute := ⟨zt_in 637 (by rfl) (by rfl), zw_ini_5, ⟨by decide +kernel, by decide +kernel⟩, by decide +kernel, by decide⟩
set_option maxRecDepth 100000 in
theorem zd_A_findGraphs : zk_gm zt zm_A_findGraphs := ⟨zt_in 590 (by rfl) (by rfl), zw_ini_5, ⟨by decide +kernel, by decide +kernel⟩, by decide +kernel, by decide⟩
set_option maxRecDepth 100000 in
theorem zd_A_numbering : zk_gm zt zm_A_numbering := ⟨zt_in 356 (by rfl) (by rfl), zw_ini_5, ⟨by decide +kernel, by decide +kernel⟩, by decide +kernel, by decide⟩
set_option maxRecDepth 100000 in
theorem zd_A_forgetAnswers : zk_gm zt zm_A_forgetAnswers := ⟨zt_in 282 (by rfl) (by rfl), zw_ini_5, ⟨by decide +kernel, by decide +kernel⟩, by decide +kernel, by decide⟩
set_option maxRecDepth 100000 in
theorem zd_A_firstBits : zk_gm zt zm_A_firstBits := ⟨zt_in 375 (by rfl) (by rfl), zw_ini_5, ⟨by decide +kernel, by decide +kernel⟩, by decide +kernel, by decide⟩
set_option maxRecDepth 100000 in
theorem zd_A_hasBit : zk_gm zt zm_A_hasBit := ⟨zt_in 390 (by rfl) (by rfl), zw_ini_5, ⟨by decide +kernel, by decide +kernel⟩, by decide +kernel, by decide⟩
set_option maxRecDepth 100000 in
theorem zd_A_rowOf : zk_gm zt zm_A_rowOf := ⟨zt_in 320 (by rfl) (by rfl), zw_ini_5, ⟨by decide +kernel, by decide +kernel⟩, by decide +kernel, by decide⟩
set_option maxRecDepth 100000 in
theorem zd_M_thrown : zk_gm zt zm_M_thrown := ⟨zt_in 726 (by rfl) (by rfl), zw_ini_6, ⟨by decide +kernel, by decide +kernel⟩, by decide +kernel, by decide⟩
set_option maxRecDepth 100000 in
theorem zd_M_refuse : zk_gm zt zm_M_refuse := ⟨zt_in 745 (by rfl) (by rfl), zw_ini_6, ⟨by decide +kernel, by decide +kernel⟩, by decide +kernel, by decide⟩
set_option maxRecDepth 100000 in
theorem zd_M_in : zk_gm zt zm_M_in := ⟨zt_in 741 (by rfl) (by rfl), zw_ini_6, ⟨by decide +kernel, by decide +kernel⟩, by decide +kernel, by decide⟩
set_option maxRecDepth 100000 in
theorem zd_M_clear : zk_gm zt zm_M_clear := ⟨zt_in 730 (by rfl) (by rfl), zw_ini_6, ⟨by decide +kernel, by decide +kernel⟩, by decide +kernel, by decide⟩
set_option maxRecDepth 100000 in
theorem zd_M_forget : zk_gm zt zm_M_forget := ⟨zt_in 734 (by rfl) (by rfl), zw_ini_6, ⟨by decide +kernel, by decide +kernel⟩, by decide +kernel, by decide⟩
set_option maxRecDepth 100000 in
theorem zd_M_symbol : zk_gm zt zm_M_symbol := ⟨zt_in 738 (by rfl) (by rfl), zw_ini_6, ⟨by decide +kernel, by decide +kernel⟩, by decide +kernel, by decide⟩
set_option maxRecDepth 100000 in
theorem zd_M_isSymbol : zk_gm zt zm_M_isSymbol := ⟨zt_in 753 (by rfl) (by rfl), zw_ini_6, ⟨by decide +kernel, by decide +kernel⟩, by decide +kernel, by decide⟩
set_option maxRecDepth 100000 in
theorem zd_M_production : zk_gm zt zm_M_production := ⟨zt_in 749 (by rfl) (by rfl), zw_ini_6, ⟨by decide +kernel, by decide +kernel⟩, by decide +kernel, by decide⟩
set_option maxRecDepth 100000 in
theorem zd_M_isDown : zk_gm zt zm_M_isDown := ⟨zt_in 773 (by rfl) (by rfl), zw_ini_6, ⟨by decide +kernel, by decide +kernel⟩, by decide +kernel, by decide⟩
set_option maxRecDepth 100000 in
theorem zd_M_symbolOf : zk_gm zt zm_M_symbolOf := ⟨zt_in 765 (by rfl) (by rfl), zw_ini_6, ⟨by decide +kernel, by decide +kernel⟩, by decide +kernel, by decide⟩
set_option maxRecDepth 100000 in
theorem zd_M_isThere : zk_gm zt zm_M_isThere := ⟨zt_in 761 (by rfl) (by rfl), zw_ini_6, ⟨by decide +kernel, by decide +kernel⟩, by decide +kernel, by decide⟩
set_option maxRecDepth 100000 in
theorem zd_M_defines : zk_gm zt zm_M_defines := ⟨zt_in 769 (by rfl) (by rfl), zw_ini_6, ⟨by decide +kernel, by decide +kernel⟩, by decide +kernel, by decide⟩
set_option maxRecDepth 100000 in
theorem zd_M_depend : zk_gm zt zm_M_depend := ⟨zt_in 757 (by rfl) (by rfl), zw_ini_6, ⟨by decide +kernel, by decide +kernel⟩, by decide +kernel, by decide⟩
set_option maxRecDepth 100000 in
theorem zd_M_takeDepends : zk_gm zt zm_M_takeDepends := ⟨zt_in 797 (by rfl) (by rfl), zw_ini_6, ⟨by decide +kernel, by decide +kernel⟩, by decide +kernel, by decide⟩
set_option maxRecDepth 100000 in
theorem zd_M_follow : zk_gm zt zm_M_follow := ⟨zt_in 806 (by rfl) (by rfl), zw_ini_6, ⟨by decide +kernel, by decide +kernel⟩, by decide +kernel, by decide⟩
set_option maxRecDepth 100000 in
theorem zd_M_hasCircle : zk_gm zt zm_M_hasCircle := ⟨zt_in 810 (by rfl) (by rfl), zw_ini_6, ⟨by decide +kernel, by decide +kernel⟩, by decide +kernel, by decide⟩
set_option maxRecDepth 100000 in
theorem zd_M_addGraph : zk_gm zt zm_M_addGraph := ⟨zt_in 801 (by rfl) (by rfl), zw_ini_6, ⟨by decide +kernel, by decide +kernel⟩, by decide +kernel, by decide⟩
set_option maxRecDepth 100000 in
theorem zd_M_headGraph : zk_gm zt zm_M_headGraph := ⟨zt_in 814 (by rfl) (by rfl), zw_ini_6, ⟨by decide +kernel, by decide +kernel⟩, by decide +kernel, by decide⟩
set_option maxRecDepth 100000 in
theorem zd_M_takeGraph : zk_gm zt zm_M_takeGraph := ⟨zt_in 818 (by rfl) (by rfl), zw_ini_6, ⟨by decide +kernel, by decide +kernel⟩, by decide +kernel, by decide⟩
set_option maxRecDepth 100000 in
theorem zd_M_countOf : zk_gm zt zm_M_countOf := ⟨zt_in 789 (by rfl) (by rfl), zw_ini_6, ⟨by decide +kernel, by decide +kernel⟩, by decide +kernel, by decide⟩
set_option maxRecDepth 100000 in
theorem zd_M_put : zk_gm zt zm_M_put := ⟨zt_in 793 (by rfl) (by rfl), zw_ini_6, ⟨by decide +kernel, by decide +kernel⟩, by decide +kernel, by decide⟩
set_option maxRecDepth 100000 in
theorem zd_M_work : zk_gm zt zm_M_work := ⟨zt_in 785 (by rfl) (by rfl), zw_ini_6, ⟨by decide +kernel, by decide +kernel⟩, by decide +kernel, by decide⟩
set_option maxRecDepth 100000 in
theorem zd_M_findGraphs : zk_gm zt zm_M_findGraphs := ⟨zt_in 781 (by rfl) (by rfl), zw_ini_6, ⟨by decide +kernel, by decide +kernel⟩, by decide +kernel, by decide⟩
set_option maxRecDepth 100000 in
theorem zd_M_graphs : zk_gm zt zm_M_graphs := ⟨zt_in 777 (by rfl) (by rfl), zw_ini_6, ⟨by decide +kernel, by decide +kernel⟩, by decide +kernel, by decide⟩
set_option maxRecDepth 100000 in
theorem zd_M_circular : zk_gm zt zm_M_circular := ⟨zt_in 822 (by rfl) (by rfl), zw_ini_6, ⟨by decide +kernel, by decide +kernel⟩, by decide +kernel, by decide⟩
set_option maxRecDepth 100000 in
theorem zd_M_allHave : zk_gm zt zm_M_allHave := ⟨zt_in 834 (by rfl) (by rfl), zw_ini_6, ⟨by decide +kernel, by decide +kernel⟩, by decide +kernel, by decide⟩
set_option maxRecDepth 100000 in
theorem zd_M_addUnions : zk_gm zt zm_M_addUnions := ⟨zt_in 842 (by rfl) (by rfl), zw_ini_6, ⟨by decide +kernel, by decide +kernel⟩, by decide +kernel, by decide⟩
set_option maxRecDepth 100000 in
theorem zd_M_addAboves : zk_gm zt zm_M_addAboves := ⟨zt_in 850 (by rfl) (by rfl), zw_ini_6, ⟨by decide +kernel, by decide +kernel⟩, by decide +kernel, by decide⟩
set_option maxRecDepth 100000 in
theorem zd_M_growUnion : zk_gm zt zm_M_growUnion := ⟨zt_in 838 (by rfl) (by rfl), zw_ini_6, ⟨by decide +kernel, by decide +kernel⟩, by decide +kernel, by decide⟩
set_option maxRecDepth 100000 in
theorem zd_M_growAbove : zk_gm zt zm_M_growAbove := ⟨zt_in 846 (by rfl) (by rfl), zw_ini_6, ⟨by decide +kernel, by decide +kernel⟩, by decide +kernel, by decide⟩
set_option maxRecDepth 100000 in
theorem zd_M_relate : zk_gm zt zm_M_relate := ⟨zt_in 830 (by rfl) (by rfl), zw_ini_6, ⟨by decide +kernel, by decide +kernel⟩, by decide +kernel, by decide⟩
set_option maxRecDepth 100000 in
theorem zd_M_strong : zk_gm zt zm_M_strong := ⟨zt_in 826 (by rfl) (by rfl), zw_ini_6, ⟨by decide +kernel, by decide +kernel⟩, by decide +kernel, by decide⟩
set_option maxRecDepth 100000 in
theorem zd_M_doubly : zk_gm zt zm_M_doubly := ⟨zt_in 854 (by rfl) (by rfl), zw_ini_6, ⟨by decide +kernel, by decide +kernel⟩, by decide +kernel, by decide⟩
set_option maxRecDepth 100000 in
theorem zd_M_isAttribute : zk_gm zt zm_M_isAttribute := ⟨zt_in 862 (by rfl) (by rfl), zw_ini_6, ⟨by decide +kernel, by decide +kernel⟩, by decide +kernel, by decide⟩
set_option maxRecDepth 100000 in
theorem zd_M_relation : zk_gm zt zm_M_relation := ⟨zt_in 858 (by rfl) (by rfl), zw_ini_6, ⟨by decide +kernel, by decide +kernel⟩, by decide +kernel, by decide⟩
set_option maxRecDepth 100000 in
theorem zd_M_inSet : zk_gm zt zm_M_inSet := ⟨zt_in 882 (by rfl) (by rfl), zw_ini_6, ⟨by decide +kernel, by decide +kernel⟩, by decide +kernel, by decide⟩
set_option maxRecDepth 100000 in
theorem zd_M_mayStay : zk_gm zt zm_M_mayStay := ⟨zt_in 886 (by rfl) (by rfl), zw_ini_6, ⟨by decide +kernel, by decide +kernel⟩, by decide +kernel, by decide⟩
set_option maxRecDepth 100000 in
theorem zd_M_leaveOut : zk_gm zt zm_M_leaveOut := ⟨zt_in 878 (by rfl) (by rfl), zw_ini_6, ⟨by decide +kernel, by decide +kernel⟩, by decide +kernel, by decide⟩
set_option maxRecDepth 100000 in
theorem zd_M_onePass : zk_gm zt zm_M_onePass := ⟨zt_in 874 (by rfl) (by rfl), zw_ini_6, ⟨by decide +kernel, by decide +kernel⟩, by decide +kernel, by decide⟩
set_option maxRecDepth 100000 in
theorem zd_M_findPasses : zk_gm zt zm_M_findPasses := ⟨zt_in 870 (by rfl) (by rfl), zw_ini_6, ⟨by decide +kernel, by decide +kernel⟩, by decide +kernel, by decide⟩
set_option maxRecDepth 100000 in
theorem zd_M_pass : zk_gm zt zm_M_pass := ⟨zt_in 866 (by rfl) (by rfl), zw_ini_6, ⟨by decide +kernel, by decide +kernel⟩, by decide +kernel, by decide⟩
set_option maxRecDepth 100000 in
theorem zd_M_passes : zk_gm zt zm_M_passes := ⟨zt_in 890 (by rfl) (by rfl), zw_ini_6, ⟨by decide +kernel, by decide +kernel⟩, by decide +kernel, by decide⟩
set_option maxRecDepth 100000 in
theorem zd_B_start : zk_gm zt zm_B_start := ⟨zt_in 306 (by rfl) (by rfl), zw_ini_0, ⟨by decide +kernel, by decide +kernel⟩, by decide +kernel, by decide⟩
set_option maxRecDepth 100000 in
theorem zd_B_startFrom : zk_gm zt zm_B_startFrom := ⟨zt_in 612 (by rfl) (by rfl), zw_ini_0, ⟨by decide +kernel, by decide +kernel⟩, by decide +kernel, by decide⟩
set_option maxRecDepth 100000 in
theorem zd_B_lay : zk_gm zt zm_B_lay := ⟨zt_in 317 (by rfl) (by rfl), zw_ini_0, ⟨by decide +kernel, by decide +kernel⟩, by decide +kernel, by decide⟩
set_option maxRecDepth 100000 in
theorem zd_B_join : zk_gm zt zm_B_join := ⟨zt_in 324 (by rfl) (by rfl), zw_ini_0, ⟨by decide +kernel, by decide +kernel⟩, by decide +kernel, by decide⟩
set_option maxRecDepth 100000 in
theorem zd_B_joinAt : zk_gm zt zm_B_joinAt := ⟨zt_in 328 (by rfl) (by rfl), zw_ini_0, ⟨by decide +kernel, by decide +kernel⟩, by decide +kernel, by decide⟩
set_option maxRecDepth 100000 in
theorem zd_B_relationAt : zk_gm zt zm_B_relationAt := ⟨zt_in 332 (by rfl) (by rfl), zw_ini_0, ⟨by decide +kernel, by decide +kernel⟩, by decide +kernel, by decide⟩
set_option maxRecDepth 100000 in
theorem zd_G_wipe : zk_gm zt zm_G_wipe := ⟨zt_in 278 (by rfl) (by rfl), zw_ini_1, ⟨by decide +kernel, by decide +kernel⟩, by decide +kernel, by decide⟩
set_option maxRecDepth 100000 in
theorem zd_G_hasSymbol : zk_gm zt zm_G_hasSymbol := ⟨zt_in 509 (by rfl) (by rfl), zw_ini_1, ⟨by decide +kernel, by decide +kernel⟩, by decide +kernel, by decide⟩
set_option maxRecDepth 100000 in
theorem zd_G_canBePart : zk_gm zt zm_G_canBePart := ⟨zt_in 514 (by rfl) (by rfl), zw_ini_1, ⟨by decide +kernel, by decide +kernel⟩, by decide +kernel, by decide⟩
set_option maxRecDepth 100000 in
theorem zd_G_hasProduction : zk_gm zt zm_G_hasProduction := ⟨zt_in 543 (by rfl) (by rfl), zw_ini_1, ⟨by decide +kernel, by decide +kernel⟩, by decide +kernel, by decide⟩
set_option maxRecDepth 100000 in
theorem zd_G_defines : zk_gm zt zm_G_defines := ⟨zt_in 563 (by rfl) (by rfl), zw_ini_1, ⟨by decide +kernel, by decide +kernel⟩, by decide +kernel, by decide⟩
set_option maxRecDepth 100000 in
theorem zd_G_isGiven : zk_gm zt zm_G_isGiven := ⟨zt_in 569 (by rfl) (by rfl), zw_ini_1, ⟨by decide +kernel, by decide +kernel⟩, by decide +kernel, by decide⟩
set_option maxRecDepth 100000 in
theorem zd_G_addSymbol : zk_gm zt zm_G_addSymbol := ⟨zt_in 498 (by rfl) (by rfl), zw_ini_1, ⟨by decide +kernel, by decide +kernel⟩, by decide +kernel, by decide⟩
set_option maxRecDepth 100000 in
theorem zd_G_addProduction : zk_gm zt zm_G_addProduction := ⟨zt_in 522 (by rfl) (by rfl), zw_ini_1, ⟨by decide +kernel, by decide +kernel⟩, by decide +kernel, by decide⟩
set_option maxRecDepth 100000 in
theorem zd_G_addPart : zk_gm zt zm_G_addPart := ⟨zt_in 531 (by rfl) (by rfl), zw_ini_1, ⟨by decide +kernel, by decide +kernel⟩, by decide +kernel, by decide⟩
set_option maxRecDepth 100000 in
theorem zd_G_addDependence : zk_gm zt zm_G_addDependence := ⟨zt_in 574 (by rfl) (by rfl), zw_ini_1, ⟨by decide +kernel, by decide +kernel⟩, by decide +kernel, by decide⟩
set_option maxRecDepth 100000 in
theorem zd_G_all : zk_gm zt zm_G_all := ⟨zt_in 372 (by rfl) (by rfl), zw_ini_1, ⟨by decide +kernel, by decide +kernel⟩, by decide +kernel, by decide⟩
set_option maxRecDepth 100000 in
theorem zd_G_up : zk_gm zt zm_G_up := ⟨zt_in 526 (by rfl) (by rfl), zw_ini_1, ⟨by decide +kernel, by decide +kernel⟩, by decide +kernel, by decide⟩
set_option maxRecDepth 100000 in
theorem zd_G_placesOf : zk_gm zt zm_G_placesOf := ⟨zt_in 383 (by rfl) (by rfl), zw_ini_1, ⟨by decide +kernel, by decide +kernel⟩, by decide +kernel, by decide⟩
set_option maxRecDepth 100000 in
theorem zd_N_find : zk_gm zt zm_N_find := ⟨zt_in 360 (by rfl) (by rfl), zw_ini_2, ⟨by decide +kernel, by decide +kernel⟩, by decide +kernel, by decide⟩
set_option maxRecDepth 100000 in
theorem zd_N_forget : zk_gm zt zm_N_forget := ⟨zt_in 364 (by rfl) (by rfl), zw_ini_2, ⟨by decide +kernel, by decide +kernel⟩, by decide +kernel, by decide⟩
set_option maxRecDepth 100000 in
theorem zd_N_choose : zk_gm zt zm_N_choose := ⟨zt_in 368 (by rfl) (by rfl), zw_ini_2, ⟨by decide +kernel, by decide +kernel⟩, by decide +kernel, by decide⟩
set_option maxRecDepth 100000 in
theorem zd_N_drop : zk_gm zt zm_N_drop := ⟨zt_in 379 (by rfl) (by rfl), zw_ini_2, ⟨by decide +kernel, by decide +kernel⟩, by decide +kernel, by decide⟩
set_option maxRecDepth 100000 in
theorem zd_N_placesBefore : zk_gm zt zm_N_placesBefore := ⟨zt_in 386 (by rfl) (by rfl), zw_ini_2, ⟨by decide +kernel, by decide +kernel⟩, by decide +kernel, by decide⟩
set_option maxRecDepth 100000 in
theorem zd_N_give : zk_gm zt zm_N_give := ⟨zt_in 394 (by rfl) (by rfl), zw_ini_2, ⟨by decide +kernel, by decide +kernel⟩, by decide +kernel, by decide⟩
set_option maxRecDepth 100000 in
theorem zd_N_isWhole : zk_gm zt zm_N_isWhole := ⟨zt_in 398 (by rfl) (by rfl), zw_ini_2, ⟨by decide +kernel, by decide +kernel⟩, by decide +kernel, by decide⟩
set_option maxRecDepth 100000 in
theorem zd_R_find : zk_gm zt zm_R_find := ⟨zt_in 290 (by rfl) (by rfl), zw_ini_3, ⟨by decide +kernel, by decide +kernel⟩, by decide +kernel, by decide⟩
set_option maxRecDepth 100000 in
theorem zd_R_forget : zk_gm zt zm_R_forget := ⟨zt_in 294 (by rfl) (by rfl), zw_ini_3, ⟨by decide +kernel, by decide +kernel⟩, by decide +kernel, by decide⟩
set_option maxRecDepth 100000 in
theorem zd_R_growUpwards : zk_gm zt zm_R_growUpwards := ⟨zt_in 298 (by rfl) (by rfl), zw_ini_3, ⟨by decide +kernel, by decide +kernel⟩, by decide +kernel, by decide⟩
set_option maxRecDepth 100000 in
theorem zd_R_growFromAbove : zk_gm zt zm_R_growFromAbove := ⟨zt_in 336 (by rfl) (by rfl), zw_ini_3, ⟨by decide +kernel, by decide +kernel⟩, by decide +kernel, by decide⟩
set_option maxRecDepth 100000 in
theorem zd_R_lookForCircles : zk_gm zt zm_R_lookForCircles := ⟨zt_in 344 (by rfl) (by rfl), zw_ini_3, ⟨by decide +kernel, by decide +kernel⟩, by decide +kernel, by decide⟩
set_option maxRecDepth 100000 in
theorem zd_R_allPartsExist : zk_gm zt zm_R_allPartsExist := ⟨zt_in 302 (by rfl) (by rfl), zw_ini_3, ⟨by decide +kernel, by decide +kernel⟩, by decide +kernel, by decide⟩
set_option maxRecDepth 100000 in
theorem zd_R_startWithHead : zk_gm zt zm_R_startWithHead := ⟨zt_in 340 (by rfl) (by rfl), zw_ini_3, ⟨by decide +kernel, by decide +kernel⟩, by decide +kernel, by decide⟩
set_option maxRecDepth 100000 in
theorem zd_R_joinParts : zk_gm zt zm_R_joinParts := ⟨zt_in 313 (by rfl) (by rfl), zw_ini_3, ⟨by decide +kernel, by decide +kernel⟩, by decide +kernel, by decide⟩
set_option maxRecDepth 100000 in
theorem zd_T_find : zk_gm zt zm_T_find := ⟨zt_in 594 (by rfl) (by rfl), zw_ini_4, ⟨by decide +kernel, by decide +kernel⟩, by decide +kernel, by decide⟩
set_option maxRecDepth 100000 in
theorem zd_T_forget : zk_gm zt zm_T_forget := ⟨zt_in 598 (by rfl) (by rfl), zw_ini_4, ⟨by decide +kernel, by decide +kernel⟩, by decide +kernel, by decide⟩
set_option maxRecDepth 100000 in
theorem zd_T_beginRound : zk_gm zt zm_T_beginRound := ⟨zt_in 618 (by rfl) (by rfl), zw_ini_4, ⟨by decide +kernel, by decide +kernel⟩, by decide +kernel, by decide⟩
set_option maxRecDepth 100000 in
theorem zd_T_combine : zk_gm zt zm_T_combine := ⟨zt_in 603 (by rfl) (by rfl), zw_ini_4, ⟨by decide +kernel, by decide +kernel⟩, by decide +kernel, by decide⟩
set_option maxRecDepth 100000 in
theorem zd_T_keep : zk_gm zt zm_T_keep := ⟨zt_in 607 (by rfl) (by rfl), zw_ini_4, ⟨by decide +kernel, by decide +kernel⟩, by decide +kernel, by decide⟩
theorem zt_gm : ∀ M ∈ zt.2.2.2.2.2.1, zk_gm zt M := List.forall_mem_cons.mpr ⟨zd_A_clear, List.forall_mem_cons.mpr ⟨zd_A_symbol, List.forall_mem_cons.mpr ⟨zd_A_production, List.forall_mem_cons.mpr ⟨zd_A_depend, List.forall_mem_cons.mpr ⟨zd_A_graphs, List.forall_mem_cons.mpr ⟨zd_A_circular, List.forall_mem_cons.mpr ⟨zd_A_strong, List.forall_mem_cons.mpr ⟨zd_A_doubly, List.forall_mem_cons.mpr ⟨zd_A_relation, List.forall_mem_cons.mpr ⟨zd_A_pass, List.forall_mem_cons.mpr ⟨zd_A_passes, List.forall_mem_cons.mpr ⟨zd_A_checkSymbol, List.forall_mem_cons.mpr ⟨zd_A_checkAttribute, List.forall_mem_cons.mpr ⟨zd_A_findGraphs, List.forall_mem_cons.mpr ⟨zd_A_numbering, List.forall_mem_cons.mpr ⟨zd_A_forgetAnswers, List.forall_mem_cons.mpr ⟨zd_A_firstBits, List.forall_mem_cons.mpr ⟨zd_A_hasBit, List.forall_mem_cons.mpr ⟨zd_A_rowOf, List.forall_mem_cons.mpr ⟨zd_M_thrown, List.forall_mem_cons.mpr ⟨zd_M_refuse, List.forall_mem_cons.mpr ⟨zd_M_in, List.forall_mem_cons.mpr ⟨zd_M_clear, List.forall_mem_cons.mpr ⟨zd_M_forget, List.forall_mem_cons.mpr ⟨zd_M_symbol, List.forall_mem_cons.mpr ⟨zd_M_isSymbol, List.forall_mem_cons.mpr ⟨zd_M_production, List.forall_mem_cons.mpr ⟨zd_M_isDown, List.forall_mem_cons.mpr ⟨zd_M_symbolOf, List.forall_mem_cons.mpr ⟨zd_M_isThere, List.forall_mem_cons.mpr ⟨zd_M_defines, List.forall_mem_cons.mpr ⟨zd_M_depend, List.forall_mem_cons.mpr ⟨zd_M_takeDepends, List.forall_mem_cons.mpr ⟨zd_M_follow, List.forall_mem_cons.mpr ⟨zd_M_hasCircle, List.forall_mem_cons.mpr ⟨zd_M_addGraph, List.forall_mem_cons.mpr ⟨zd_M_headGraph, List.forall_mem_cons.mpr ⟨zd_M_takeGraph, List.forall_mem_cons.mpr ⟨zd_M_countOf, List.forall_mem_cons.mpr ⟨zd_M_put, List.forall_mem_cons.mpr ⟨zd_M_work, List.forall_mem_cons.mpr ⟨zd_M_findGraphs, List.forall_mem_cons.mpr ⟨zd_M_graphs, List.forall_mem_cons.mpr ⟨zd_M_circular, List.forall_mem_cons.mpr ⟨zd_M_allHave, List.forall_mem_cons.mpr ⟨zd_M_addUnions, List.forall_mem_cons.mpr ⟨zd_M_addAboves, List.forall_mem_cons.mpr ⟨zd_M_growUnion, List.forall_mem_cons.mpr ⟨zd_M_growAbove, List.forall_mem_cons.mpr ⟨zd_M_relate, List.forall_mem_cons.mpr ⟨zd_M_strong, List.forall_mem_cons.mpr ⟨zd_M_doubly, List.forall_mem_cons.mpr ⟨zd_M_isAttribute, List.forall_mem_cons.mpr ⟨zd_M_relation, List.forall_mem_cons.mpr ⟨zd_M_inSet, List.forall_mem_cons.mpr ⟨zd_M_mayStay, List.forall_mem_cons.mpr ⟨zd_M_leaveOut, List.forall_mem_cons.mpr ⟨zd_M_onePass, List.forall_mem_cons.mpr ⟨zd_M_findPasses, List.forall_mem_cons.mpr ⟨zd_M_pass, List.forall_mem_cons.mpr ⟨zd_M_passes, List.forall_mem_cons.mpr ⟨zd_B_start, List.forall_mem_cons.mpr ⟨zd_B_startFrom, List.forall_mem_cons.mpr ⟨zd_B_lay, List.forall_mem_cons.mpr ⟨zd_B_join, List.forall_mem_cons.mpr ⟨zd_B_joinAt, List.forall_mem_cons.mpr ⟨zd_B_relationAt, List.forall_mem_cons.mpr ⟨zd_G_wipe, List.forall_mem_cons.mpr ⟨zd_G_hasSymbol, List.forall_mem_cons.mpr ⟨zd_G_canBePart, List.forall_mem_cons.mpr ⟨zd_G_hasProduction, List.forall_mem_cons.mpr ⟨zd_G_defines, List.forall_mem_cons.mpr ⟨zd_G_isGiven, List.forall_mem_cons.mpr ⟨zd_G_addSymbol, List.forall_mem_cons.mpr ⟨zd_G_addProduction, List.forall_mem_cons.mpr ⟨zd_G_addPart, List.forall_mem_cons.mpr ⟨zd_G_addDependence, List.forall_mem_cons.mpr ⟨zd_G_all, List.forall_mem_cons.mpr ⟨zd_G_up, List.forall_mem_cons.mpr ⟨zd_G_placesOf, List.forall_mem_cons.mpr ⟨zd_N_find, List.forall_mem_cons.mpr ⟨zd_N_forget, List.forall_mem_cons.mpr ⟨zd_N_choose, List.forall_mem_cons.mpr ⟨zd_N_drop, List.forall_mem_cons.mpr ⟨zd_N_placesBefore, List.forall_mem_cons.mpr ⟨zd_N_give, List.forall_mem_cons.mpr ⟨zd_N_isWhole, List.forall_mem_cons.mpr ⟨zd_R_find, List.forall_mem_cons.mpr ⟨zd_R_forget, List.forall_mem_cons.mpr ⟨zd_R_growUpwards, List.forall_mem_cons.mpr ⟨zd_R_growFromAbove, List.forall_mem_cons.mpr ⟨zd_R_lookForCircles, List.forall_mem_cons.mpr ⟨zd_R_allPartsExist, List.forall_mem_cons.mpr ⟨zd_R_startWithHead, List.forall_mem_cons.mpr ⟨zd_R_joinParts, List.forall_mem_cons.mpr ⟨zd_T_find, List.forall_mem_cons.mpr ⟨zd_T_forget, List.forall_mem_cons.mpr ⟨zd_T_beginRound, List.forall_mem_cons.mpr ⟨zd_T_combine, List.forall_mem_cons.mpr ⟨zd_T_keep, fun _ h => absurd h List.not_mem_nil⟩⟩⟩⟩⟩⟩⟩⟩⟩⟩⟩⟩⟩⟩⟩⟩⟩⟩⟩⟩⟩⟩⟩⟩⟩⟩⟩⟩⟩⟩⟩⟩⟩⟩⟩⟩⟩⟩⟩⟩⟩⟩⟩⟩⟩⟩⟩⟩⟩⟩⟩⟩⟩⟩⟩⟩⟩⟩⟩⟩⟩⟩⟩⟩⟩⟩⟩⟩⟩⟩⟩⟩⟩⟩⟩⟩⟩⟩⟩⟩⟩⟩⟩⟩⟩⟩⟩⟩⟩⟩⟩⟩⟩⟩⟩⟩⟩⟩⟩⟩
