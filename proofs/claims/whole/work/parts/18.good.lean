/-! the programs are the code -/
set_option maxRecDepth 20000 in
theorem zg_A_clear : zp_A_clear.all (zh_gd zl_5 prog_1_method_2_code) = true := by decide +kernel
theorem zc_A_clear : zh_ch zp_A_clear = true := by decide +kernel
set_option maxRecDepth 20000 in
theorem zg_A_symbol : zp_A_symbol.all (zh_gd zl_5 prog_1_method_3_code) = true := by decide +kernel
theorem zc_A_symbol : zh_ch zp_A_symbol = true := by decide +kernel
set_option maxRecDepth 20000 in
theorem zg_A_production : zp_A_production.all (zh_gd zl_5 prog_1_method_4_code) = true := by decide +kernel
theorem zc_A_production : zh_ch zp_A_production = true := by decide +kernel
set_option maxRecDepth 20000 in
theorem zg_A_depend : zp_A_depend.all (zh_gd zl_5 prog_1_method_5_code) = true := by decide +kernel
theorem zc_A_depend : zh_ch zp_A_depend = true := by decide +kernel
set_option maxRecDepth 20000 in
theorem zg_A_graphs : zp_A_graphs.all (zh_gd zl_5 prog_1_method_6_code) = true := by decide +kernel
theorem zc_A_graphs : zh_ch zp_A_graphs = true := by decide +kernel
set_option maxRecDepth 20000 in
theorem zg_A_circular : zp_A_circular.all (zh_gd zl_5 prog_1_method_7_code) = true := by decide +kernel
theorem zc_A_circular : zh_ch zp_A_circular = true := by decide +kernel
set_option maxRecDepth 20000 in
theorem zg_A_strong : zp_A_strong.all (zh_gd zl_5 prog_1_method_8_code) = true := by decide +kernel
theorem zc_A_strong : zh_ch zp_A_strong = true := by decide +kernel
set_option maxRecDepth 20000 in
theorem zg_A_doubly : zp_A_doubly.all (zh_gd zl_5 prog_1_method_9_code) = true := by decide +kernel
theorem zc_A_doubly : zh_ch zp_A_doubly = true := by decide +kernel
set_option maxRecDepth 20000 in
theorem zg_A_relation : zp_A_relation.all (zh_gd zl_5 prog_1_method_10_code) = true := by decide +kernel
theorem zc_A_relation : zh_ch zp_A_relation = true := by decide +kernel
set_option maxRecDepth 20000 in
theorem zg_A_pass : zp_A_pass.all (zh_gd zl_5 prog_1_method_11_code) = true := by decide +kernel
theorem zc_A_pass : zh_ch zp_A_pass = true := by decide +kernel
set_option maxRecDepth 20000 in
theorem zg_A_passes : zp_A_passes.all (zh_gd zl_5 prog_1_method_12_code) = true := by decide +kernel
theorem zc_A_passes : zh_ch zp_A_passes = true := by decide +kernel
set_option maxRecDepth 20000 in
theorem zg_A_checkSymbol : zp_A_checkSymbol.all (zh_gd zl_5 prog_1_method_13_code) = true := by decide +kernel
theorem zc_A_checkSymbol : zh_ch zp_A_checkSymbol = true := by decide +kernel
set_option maxRecDepth 20000 in
theorem zg_A_checkAttribute : zp_A_checkAttribute.all (zh_gd zl_5 prog_1_method_14_code) = true := by decide +kernel
theorem zc_A_checkAttribute : zh_ch zp_A_checkAttribute = true := by decide +kernel
set_option maxRecDepth 20000 in
theorem zg_A_findGraphs : zp_A_findGraphs.all (zh_gd zl_5 prog_1_method_15_code) = true := by decide +kernel
theorem zc_A_findGraphs : zh_ch zp_A_findGraphs = true := by decide +kernel
set_option maxRecDepth 20000 in
theorem zg_A_numbering : zp_A_numbering.all (zh_gd zl_5 prog_1_method_16_code) = true := by decide +kernel
theorem zc_A_numbering : zh_ch zp_A_numbering = true := by decide +kernel
set_option maxRecDepth 20000 in
theorem zg_A_forgetAnswers : zp_A_forgetAnswers.all (zh_gd zl_5 prog_1_method_17_code) = true := by decide +kernel
theorem zc_A_forgetAnswers : zh_ch zp_A_forgetAnswers = true := by decide +kernel
set_option maxRecDepth 20000 in
theorem zg_A_firstBits : zp_A_firstBits.all (zh_gd zl_5 prog_1_method_18_code) = true := by decide +kernel
theorem zc_A_firstBits : zh_ch zp_A_firstBits = true := by decide +kernel
set_option maxRecDepth 20000 in
theorem zg_A_hasBit : zp_A_hasBit.all (zh_gd zl_5 prog_1_method_19_code) = true := by decide +kernel
theorem zc_A_hasBit : zh_ch zp_A_hasBit = true := by decide +kernel
set_option maxRecDepth 20000 in
theorem zg_A_rowOf : zp_A_rowOf.all (zh_gd zl_5 prog_1_method_20_code) = true := by decide +kernel
theorem zc_A_rowOf : zh_ch zp_A_rowOf = true := by decide +kernel
set_option maxRecDepth 20000 in
theorem zg_M_thrown : zp_M_thrown.all (zh_gd zl_6 prog_8_method_2_code) = true := by decide +kernel
theorem zc_M_thrown : zh_ch zp_M_thrown = true := by decide +kernel
set_option maxRecDepth 20000 in
theorem zg_M_refuse : zp_M_refuse.all (zh_gd zl_6 prog_8_method_3_code) = true := by decide +kernel
theorem zc_M_refuse : zh_ch zp_M_refuse = true := by decide +kernel
set_option maxRecDepth 20000 in
theorem zg_M_in : zp_M_in.all (zh_gd zl_6 prog_8_method_4_code) = true := by decide +kernel
theorem zc_M_in : zh_ch zp_M_in = true := by decide +kernel
set_option maxRecDepth 20000 in
theorem zg_M_clear : zp_M_clear.all (zh_gd zl_6 prog_8_method_5_code) = true := by decide +kernel
theorem zc_M_clear : zh_ch zp_M_clear = true := by decide +kernel
set_option maxRecDepth 20000 in
theorem zg_M_forget : zp_M_forget.all (zh_gd zl_6 prog_8_method_6_code) = true := by decide +kernel
theorem zc_M_forget : zh_ch zp_M_forget = true := by decide +kernel
set_option maxRecDepth 20000 in
theorem zg_M_symbol : zp_M_symbol.all (zh_gd zl_6 prog_8_method_7_code) = true := by decide +kernel
theorem zc_M_symbol : zh_ch zp_M_symbol = true := by decide +kernel
set_option maxRecDepth 20000 in
theorem zg_M_isSymbol : zp_M_isSymbol.all (zh_gd zl_6 prog_8_method_8_code) = true := by decide +kernel
theorem zc_M_isSymbol : zh_ch zp_M_isSymbol = true := by decide +kernel
set_option maxRecDepth 20000 in
theorem zg_M_production : zp_M_production.all (zh_gd zl_6 prog_8_method_9_code) = true := by decide +kernel
theorem zc_M_production : zh_ch zp_M_production = true := by decide +kernel
set_option maxRecDepth 20000 in
theorem zg_M_isDown : zp_M_isDown.all (zh_gd zl_6 prog_8_method_10_code) = true := by decide +kernel
theorem zc_M_isDown : zh_ch zp_M_isDown = true := by decide +kernel
set_option maxRecDepth 20000 in
theorem zg_M_symbolOf : zp_M_symbolOf.all (zh_gd zl_6 prog_8_method_11_code) = true := by decide +kernel
theorem zc_M_symbolOf : zh_ch zp_M_symbolOf = true := by decide +kernel
set_option maxRecDepth 20000 in
theorem zg_M_isThere : zp_M_isThere.all (zh_gd zl_6 prog_8_method_12_code) = true := by decide +kernel
theorem zc_M_isThere : zh_ch zp_M_isThere = true := by decide +kernel
set_option maxRecDepth 20000 in
theorem zg_M_defines : zp_M_defines.all (zh_gd zl_6 prog_8_method_13_code) = true := by decide +kernel
theorem zc_M_defines : zh_ch zp_M_defines = true := by decide +kernel
set_option maxRecDepth 20000 in
theorem zg_M_depend : zp_M_depend.all (zh_gd zl_6 prog_8_method_14_code) = true := by decide +kernel
theorem zc_M_depend : zh_ch zp_M_depend = true := by decide +kernel
set_option maxRecDepth 20000 in
theorem zg_M_takeDepends : zp_M_takeDepends.all (zh_gd zl_6 prog_8_method_15_code) = true := by decide +kernel
theorem zc_M_takeDepends : zh_ch zp_M_takeDepends = true := by decide +kernel
set_option maxRecDepth 20000 in
theorem zg_M_follow : zp_M_follow.all (zh_gd zl_6 prog_8_method_16_code) = true := by decide +kernel
theorem zc_M_follow : zh_ch zp_M_follow = true := by decide +kernel
set_option maxRecDepth 20000 in
theorem zg_M_hasCircle : zp_M_hasCircle.all (zh_gd zl_6 prog_8_method_17_code) = true := by decide +kernel
theorem zc_M_hasCircle : zh_ch zp_M_hasCircle = true := by decide +kernel
set_option maxRecDepth 20000 in
theorem zg_M_addGraph : zp_M_addGraph.all (zh_gd zl_6 prog_8_method_18_code) = true := by decide +kernel
theorem zc_M_addGraph : zh_ch zp_M_addGraph = true := by decide +kernel
set_option maxRecDepth 20000 in
theorem zg_M_headGraph : zp_M_headGraph.all (zh_gd zl_6 prog_8_method_19_code) = true := by decide +kernel
theorem zc_M_headGraph : zh_ch zp_M_headGraph = true := by decide +kernel
set_option maxRecDepth 20000 in
theorem zg_M_takeGraph : zp_M_takeGraph.all (zh_gd zl_6 prog_8_method_20_code) = true := by decide +kernel
theorem zc_M_takeGraph : zh_ch zp_M_takeGraph = true := by decide +kernel
set_option maxRecDepth 20000 in
theorem zg_M_countOf : zp_M_countOf.all (zh_gd zl_6 prog_8_method_21_code) = true := by decide +kernel
theorem zc_M_countOf : zh_ch zp_M_countOf = true := by decide +kernel
set_option maxRecDepth 20000 in
theorem zg_M_put : zp_M_put.all (zh_gd zl_6 prog_8_method_22_code) = true := by decide +kernel
theorem zc_M_put : zh_ch zp_M_put = true := by decide +kernel
set_option maxRecDepth 20000 in
theorem zg_M_work : zp_M_work.all (zh_gd zl_6 prog_8_method_23_code) = true := by decide +kernel
theorem zc_M_work : zh_ch zp_M_work = true := by decide +kernel
set_option maxRecDepth 20000 in
theorem zg_M_findGraphs : zp_M_findGraphs.all (zh_gd zl_6 prog_8_method_24_code) = true := by decide +kernel
theorem zc_M_findGraphs : zh_ch zp_M_findGraphs = true := by decide +kernel
set_option maxRecDepth 20000 in
theorem zg_M_graphs : zp_M_graphs.all (zh_gd zl_6 prog_8_method_25_code) = true := by decide +kernel
theorem zc_M_graphs : zh_ch zp_M_graphs = true := by decide +kernel
set_option maxRecDepth 20000 in
theorem zg_M_circular : zp_M_circular.all (zh_gd zl_6 prog_8_method_26_code) = true := by decide +kernel
theorem zc_M_circular : zh_ch zp_M_circular = true := by decide +kernel
set_option maxRecDepth 20000 in
theorem zg_M_allHave : zp_M_allHave.all (zh_gd zl_6 prog_8_method_27_code) = true := by decide +kernel
theorem zc_M_allHave : zh_ch zp_M_allHave = true := by decide +kernel
set_option maxRecDepth 20000 in
theorem zg_M_addUnions : zp_M_addUnions.all (zh_gd zl_6 prog_8_method_28_code) = true := by decide +kernel
theorem zc_M_addUnions : zh_ch zp_M_addUnions = true := by decide +kernel
set_option maxRecDepth 20000 in
theorem zg_M_addAboves : zp_M_addAboves.all (zh_gd zl_6 prog_8_method_29_code) = true := by decide +kernel
theorem zc_M_addAboves : zh_ch zp_M_addAboves = true := by decide +kernel
set_option maxRecDepth 20000 in
theorem zg_M_growUnion : zp_M_growUnion.all (zh_gd zl_6 prog_8_method_30_code) = true := by decide +kernel
theorem zc_M_growUnion : zh_ch zp_M_growUnion = true := by decide +kernel
set_option maxRecDepth 20000 in
theorem zg_M_growAbove : zp_M_growAbove.all (zh_gd zl_6 prog_8_method_31_code) = true := by decide +kernel
theorem zc_M_growAbove : zh_ch zp_M_growAbove = true := by decide +kernel
set_option maxRecDepth 20000 in
theorem zg_M_relate : zp_M_relate.all (zh_gd zl_6 prog_8_method_32_code) = true := by decide +kernel
theorem zc_M_relate : zh_ch zp_M_relate = true := by decide +kernel
set_option maxRecDepth 20000 in
theorem zg_M_strong : zp_M_strong.all (zh_gd zl_6 prog_8_method_33_code) = true := by decide +kernel
theorem zc_M_strong : zh_ch zp_M_strong = true := by decide +kernel
set_option maxRecDepth 20000 in
theorem zg_M_doubly : zp_M_doubly.all (zh_gd zl_6 prog_8_method_34_code) = true := by decide +kernel
theorem zc_M_doubly : zh_ch zp_M_doubly = true := by decide +kernel
set_option maxRecDepth 20000 in
theorem zg_M_isAttribute : zp_M_isAttribute.all (zh_gd zl_6 prog_8_method_35_code) = true := by decide +kernel
theorem zc_M_isAttribute : zh_ch zp_M_isAttribute = true := by decide +kernel
set_option maxRecDepth 20000 in
theorem zg_M_relation : zp_M_relation.all (zh_gd zl_6 prog_8_method_36_code) = true := by decide +kernel
theorem zc_M_relation : zh_ch zp_M_relation = true := by decide +kernel
set_option maxRecDepth 20000 in
theorem zg_M_inSet : zp_M_inSet.all (zh_gd zl_6 prog_8_method_37_code) = true := by decide +kernel
theorem zc_M_inSet : zh_ch zp_M_inSet = true := by decide +kernel
set_option maxRecDepth 20000 in
theorem zg_M_mayStay : zp_M_mayStay.all (zh_gd zl_6 prog_8_method_38_code) = true := by decide +kernel
theorem zc_M_mayStay : zh_ch zp_M_mayStay = true := by decide +kernel
set_option maxRecDepth 20000 in
theorem zg_M_leaveOut : zp_M_leaveOut.all (zh_gd zl_6 prog_8_method_39_code) = true := by decide +kernel
theorem zc_M_leaveOut : zh_ch zp_M_leaveOut = true := by decide +kernel
set_option maxRecDepth 20000 in
theorem zg_M_onePass : zp_M_onePass.all (zh_gd zl_6 prog_8_method_40_code) = true := by decide +kernel
theorem zc_M_onePass : zh_ch zp_M_onePass = true := by decide +kernel
set_option maxRecDepth 20000 in
theorem zg_M_findPasses : zp_M_findPasses.all (zh_gd zl_6 prog_8_method_41_code) = true := by decide +kernel
theorem zc_M_findPasses : zh_ch zp_M_findPasses = true := by decide +kernel
set_option maxRecDepth 20000 in
theorem zg_M_pass : zp_M_pass.all (zh_gd zl_6 prog_8_method_42_code) = true := by decide +kernel
theorem zc_M_pass : zh_ch zp_M_pass = true := by decide +kernel
set_option maxRecDepth 20000 in
theorem zg_M_passes : zp_M_passes.all (zh_gd zl_6 prog_8_method_43_code) = true := by decide +kernel
theorem zc_M_passes : zh_ch zp_M_passes = true := by decide +kernel
set_option maxRecDepth 20000 in
theorem zg_B_start : zp_B_start.all (zh_gd zl_0 prog_2_method_2_code) = true := by decide +kernel
theorem zc_B_start : zh_ch zp_B_start = true := by decide +kernel
set_option maxRecDepth 20000 in
theorem zg_B_startFrom : zp_B_startFrom.all (zh_gd zl_0 prog_2_method_3_code) = true := by decide +kernel
theorem zc_B_startFrom : zh_ch zp_B_startFrom = true := by decide +kernel
set_option maxRecDepth 20000 in
theorem zg_B_lay : zp_B_lay.all (zh_gd zl_0 prog_2_method_4_code) = true := by decide +kernel
theorem zc_B_lay : zh_ch zp_B_lay = true := by decide +kernel
set_option maxRecDepth 20000 in
theorem zg_B_join : zp_B_join.all (zh_gd zl_0 prog_2_method_5_code) = true := by decide +kernel
theorem zc_B_join : zh_ch zp_B_join = true := by decide +kernel
set_option maxRecDepth 20000 in
theorem zg_B_joinAt : zp_B_joinAt.all (zh_gd zl_0 prog_2_method_6_code) = true := by decide +kernel
theorem zc_B_joinAt : zh_ch zp_B_joinAt = true := by decide +kernel
set_option maxRecDepth 20000 in
theorem zg_B_relationAt : zp_B_relationAt.all (zh_gd zl_0 prog_2_method_7_code) = true := by decide +kernel
theorem zc_B_relationAt : zh_ch zp_B_relationAt = true := by decide +kernel
set_option maxRecDepth 20000 in
theorem zg_G_wipe : zp_G_wipe.all (zh_gd zl_1 prog_3_method_2_code) = true := by decide +kernel
theorem zc_G_wipe : zh_ch zp_G_wipe = true := by decide +kernel
set_option maxRecDepth 20000 in
theorem zg_G_hasSymbol : zp_G_hasSymbol.all (zh_gd zl_1 prog_3_method_3_code) = true := by decide +kernel
theorem zc_G_hasSymbol : zh_ch zp_G_hasSymbol = true := by decide +kernel
set_option maxRecDepth 20000 in
theorem zg_G_canBePart : zp_G_canBePart.all (zh_gd zl_1 prog_3_method_4_code) = true := by decide +kernel
theorem zc_G_canBePart : zh_ch zp_G_canBePart = true := by decide +kernel
set_option maxRecDepth 20000 in
theorem zg_G_hasProduction : zp_G_hasProduction.all (zh_gd zl_1 prog_3_method_5_code) = true := by decide +kernel
theorem zc_G_hasProduction : zh_ch zp_G_hasProduction = true := by decide +kernel
set_option maxRecDepth 20000 in
theorem zg_G_defines : zp_G_defines.all (zh_gd zl_1 prog_3_method_6_code) = true := by decide +kernel
theorem zc_G_defines : zh_ch zp_G_defines = true := by decide +kernel
set_option maxRecDepth 20000 in
theorem zg_G_isGiven : zp_G_isGiven.all (zh_gd zl_1 prog_3_method_7_code) = true := by decide +kernel
theorem zc_G_isGiven : zh_ch zp_G_isGiven = true := by decide +kernel
set_option maxRecDepth 20000 in
theorem zg_G_addSymbol : zp_G_addSymbol.all (zh_gd zl_1 prog_3_method_8_code) = true := by decide +kernel
theorem zc_G_addSymbol : zh_ch zp_G_addSymbol = true := by decide +kernel
set_option maxRecDepth 20000 in
theorem zg_G_addProduction : zp_G_addProduction.all (zh_gd zl_1 prog_3_method_9_code) = true := by decide +kernel
theorem zc_G_addProduction : zh_ch zp_G_addProduction = true := by decide +kernel
set_option maxRecDepth 20000 in
theorem zg_G_addPart : zp_G_addPart.all (zh_gd zl_1 prog_3_method_10_code) = true := by decide +kernel
theorem zc_G_addPart : zh_ch zp_G_addPart = true := by decide +kernel
set_option maxRecDepth 20000 in
theorem zg_G_addDependence : zp_G_addDependence.all (zh_gd zl_1 prog_3_method_11_code) = true := by decide +kernel
theorem zc_G_addDependence : zh_ch zp_G_addDependence = true := by decide +kernel
set_option maxRecDepth 20000 in
theorem zg_G_all : zp_G_all.all (zh_gd zl_1 prog_3_method_12_code) = true := by decide +kernel
theorem zc_G_all : zh_ch zp_G_all = true := by decide +kernel
set_option maxRecDepth 20000 in
theorem zg_G_up : zp_G_up.all (zh_gd zl_1 prog_3_method_13_code) = true := by decide +kernel
theorem zc_G_up : zh_ch zp_G_up = true := by decide +kernel
set_option maxRecDepth 20000 in
theorem zg_G_placesOf : zp_G_placesOf.all (zh_gd zl_1 prog_3_method_14_code) = true := by decide +kernel
theorem zc_G_placesOf : zh_ch zp_G_placesOf = true := by decide +kernel
set_option maxRecDepth 20000 in
theorem zg_N_find : zp_N_find.all (zh_gd zl_2 prog_4_method_2_code) = true := by decide +kernel
theorem zc_N_find : zh_ch zp_N_find = true := by decide +kernel
set_option maxRecDepth 20000 in
theorem zg_N_forget : zp_N_forget.all (zh_gd zl_2 prog_4_method_3_code) = true := by decide +kernel
theorem zc_N_forget : zh_ch zp_N_forget = true := by decide +kernel
set_option maxRecDepth 20000 in
theorem zg_N_choose : zp_N_choose.all (zh_gd zl_2 prog_4_method_4_code) = true := by decide +kernel
theorem zc_N_choose : zh_ch zp_N_choose = true := by decide +kernel
set_option maxRecDepth 20000 in
theorem zg_N_drop : zp_N_drop.all (zh_gd zl_2 prog_4_method_5_code) = true := by decide +kernel
theorem zc_N_drop : zh_ch zp_N_drop = true := by decide +kernel
set_option maxRecDepth 20000 in
theorem zg_N_placesBefore : zp_N_placesBefore.all (zh_gd zl_2 prog_4_method_6_code) = true := by decide +kernel
theorem zc_N_placesBefore : zh_ch zp_N_placesBefore = true := by decide +kernel
set_option maxRecDepth 20000 in
theorem zg_N_give : zp_N_give.all (zh_gd zl_2 prog_4_method_7_code) = true := by decide +kernel
theorem zc_N_give : zh_ch zp_N_give = true := by decide +kernel
set_option maxRecDepth 20000 in
theorem zg_N_isWhole : zp_N_isWhole.all (zh_gd zl_2 prog_4_method_8_code) = true := by decide +kernel
theorem zc_N_isWhole : zh_ch zp_N_isWhole = true := by decide +kernel
set_option maxRecDepth 20000 in
theorem zg_R_find : zp_R_find.all (zh_gd zl_3 prog_5_method_2_code) = true := by decide +kernel
theorem zc_R_find : zh_ch zp_R_find = true := by decide +kernel
set_option maxRecDepth 20000 in
theorem zg_R_forget : zp_R_forget.all (zh_gd zl_3 prog_5_method_3_code) = true := by decide +kernel
theorem zc_R_forget : zh_ch zp_R_forget = true := by decide +kernel
set_option maxRecDepth 20000 in
theorem zg_R_growUpwards : zp_R_growUpwards.all (zh_gd zl_3 prog_5_method_4_code) = true := by decide +kernel
theorem zc_R_growUpwards : zh_ch zp_R_growUpwards = true := by decide +kernel
set_option maxRecDepth 20000 in
theorem zg_R_growFromAbove : zp_R_growFromAbove.all (zh_gd zl_3 prog_5_method_5_code) = true := by decide +kernel
theorem zc_R_growFromAbove : zh_ch zp_R_growFromAbove = true := by decide +kernel
set_option maxRecDepth 20000 in
theorem zg_R_lookForCircles : zp_R_lookForCircles.all (zh_gd zl_3 prog_5_method_6_code) = true := by decide +kernel
theorem zc_R_lookForCircles : zh_ch zp_R_lookForCircles = true := by decide +kernel
set_option maxRecDepth 20000 in
theorem zg_R_allPartsExist : zp_R_allPartsExist.all (zh_gd zl_3 prog_5_method_7_code) = true := by decide +kernel
theorem zc_R_allPartsExist : zh_ch zp_R_allPartsExist = true := by decide +kernel
set_option maxRecDepth 20000 in
theorem zg_R_startWithHead : zp_R_startWithHead.all (zh_gd zl_3 prog_5_method_8_code) = true := by decide +kernel
theorem zc_R_startWithHead : zh_ch zp_R_startWithHead = true := by decide +kernel
set_option maxRecDepth 20000 in
theorem zg_R_joinParts : zp_R_joinParts.all (zh_gd zl_3 prog_5_method_9_code) = true := by decide +kernel
theorem zc_R_joinParts : zh_ch zp_R_joinParts = true := by decide +kernel
set_option maxRecDepth 20000 in
theorem zg_T_find : zp_T_find.all (zh_gd zl_4 prog_6_method_2_code) = true := by decide +kernel
theorem zc_T_find : zh_ch zp_T_find = true := by decide +kernel
set_option maxRecDepth 20000 in
theorem zg_T_forget : zp_T_forget.all (zh_gd zl_4 prog_6_method_3_code) = true := by decide +kernel
theorem zc_T_forget : zh_ch zp_T_forget = true := by decide +kernel
set_option maxRecDepth 20000 in
theorem zg_T_beginRound : zp_T_beginRound.all (zh_gd zl_4 prog_6_method_4_code) = true := by decide +kernel
theorem zc_T_beginRound : zh_ch zp_T_beginRound = true := by decide +kernel
set_option maxRecDepth 20000 in
theorem zg_T_combine : zp_T_combine.all (zh_gd zl_4 prog_6_method_5_code) = true := by decide +kernel
theorem zc_T_combine : zh_ch zp_T_combine = true := by decide +kernel
set_option maxRecDepth 20000 in
theorem zg_T_keep : zp_T_keep.all (zh_gd zl_4 prog_6_method_6_code) = true := by decide +kernel
theorem zc_T_keep : zh_ch zp_T_keep = true := by decide +kernel
