/-! the words of the tables that the methods use, in runs -/
def GW_0 : List Cond := [.constantLong "WardRoster" 109 4611686018427387904, .methodLink "WardRoster" 204 Lib.MathLoose.min_long.x, .static Lib.MathLoose.min_long.x, .initialized "java/lang/Math", .code Lib.MathLoose.min_long.x Lib.MathLoose.min_long.code 4 (some .long), .fieldLink "WardRoster$Nurse" 25 "WardRoster$Nurse" "dayCount" "I", .fieldLink "WardRoster$Nurse" 9 "WardRoster$Nurse" "shiftCosts" "[I", .code y_Ar_fill_I b_Ar_fill_I 4 none, .initialized "java/util/Arrays", .methodLink "WardRoster$Nurse" 28 y_Ar_fill_I, .static y_Ar_fill_I, .fieldLink "WardRoster$Nurse" 15 "WardRoster$Nurse" "pairCosts" "[I", .fieldLink "WardRoster$Nurse" 18 "WardRoster$Nurse" "fixedShifts" "[I", .fieldLink "WardRoster$Nurse" 34 "WardRoster$Nurse" "forbidden" "I", .fieldLink "WardRoster$Nurse" 37 "WardRoster$Nurse" "longest" "I", .fieldLink "WardRoster$Nurse" 40 "WardRoster$Nurse" "start" "I", .code y_Wr_shiftOf b_Wr_shiftOf 1 (some .int), .initialized "WardRoster", .static y_Wr_shiftOf, .code y_Wr_cell b_Wr_cell 2 (some .int), .static y_Wr_cell, .code y_Wr_workedOf b_Wr_workedOf 1 (some .int), .static y_Wr_workedOf, .code y_Wr_stateOf b_Wr_stateOf 2 (some .int), .static y_Wr_stateOf, .fieldLink "WardRoster$Nurse" 21 "WardRoster$Nurse" "number" "I", .code y_Wr_placeBit b_Wr_placeBit 2 (some .int), .static y_Wr_placeBit, .code y_Wr_shiftAt b_Wr_shiftAt 3 (some .int), .static y_Wr_shiftAt, .methodLink "WardRoster$Nurse" 64 y_Nu_stateAfter, .instanceMethod y_Nu_stateAfter, .selects "WardRoster$Nurse" y_Nu_stateAfter y_Nu_stateAfter, .initialized "WardRoster$Nurse", .code y_Nu_stateAfter b_Nu_stateAfter 6 (some .int), .fieldLink "WardRoster$Ward" 24 "WardRoster$Ward" "dayCount" "I", .fieldLink "WardRoster$Ward" 20 "WardRoster$Ward" "needed" "[I", .methodLink "WardRoster$Ward" 28 y_Ar_fill_I, .fieldLink "WardRoster$Ward" 14 "WardRoster$Ward" "nurses" "[LWardRoster$Nurse;", .methodLink "WardRoster$Ward" 34 y_Nu_clear]
def GW_1 : List Cond := [.instanceMethod y_Nu_clear, .selects "WardRoster$Nurse" y_Nu_clear y_Nu_clear, .code y_Nu_clear b_Nu_clear 2 none, .methodLink "WardRoster$Ward" 37 y_Wa_missing, .instanceMethod y_Wa_missing, .selects "WardRoster$Ward" y_Wa_missing y_Wa_missing, .initialized "WardRoster$Ward", .code y_Wa_missing b_Wa_missing 7 (some .int), .fieldLink "WardRoster$LineWalk" 9 "WardRoster$LineWalk" "keys" "[J", .fieldLink "WardRoster$LineWalk" 15 "WardRoster$LineWalk" "nextKeys" "[J", .fieldLink "WardRoster$LineWalk" 18 "WardRoster$LineWalk" "ways" "[I", .fieldLink "WardRoster$LineWalk" 22 "WardRoster$LineWalk" "nextWays" "[I", .methodLink "WardRoster$LineWalk" 63 y_Nu_stateAfter, .methodLink "WardRoster$LineWalk" 67 y_Nu_penaltyOf, .instanceMethod y_Nu_penaltyOf, .selects "WardRoster$Nurse" y_Nu_penaltyOf y_Nu_penaltyOf, .code y_Nu_penaltyOf b_Nu_penaltyOf 4 (some .int), .code y_Wr_stepKey b_Wr_stepKey 3 (some .long), .static y_Wr_stepKey, .methodLink "WardRoster$LineWalk" 77 Lib.MathLoose.min_long.x, .constantLong "WardRoster$LineWalk" 25 4611686018427387904, .code y_Ar_fill_J b_Ar_fill_J 5 none, .methodLink "WardRoster$LineWalk" 27 y_Ar_fill_J, .static y_Ar_fill_J, .methodLink "WardRoster$LineWalk" 33 y_Ar_fill_I, .methodLink "WardRoster$LineWalk" 45 y_Lw_leaveState, .instanceMethod y_Lw_leaveState, .selects "WardRoster$LineWalk" y_Lw_leaveState y_Lw_leaveState, .initialized "WardRoster$LineWalk", .code y_Lw_leaveState b_Lw_leaveState 11 none, .methodLink "WardRoster$LineWalk" 49 y_Lw_swapRows, .instanceMethod y_Lw_swapRows, .selects "WardRoster$LineWalk" y_Lw_swapRows y_Lw_swapRows, .code y_Lw_swapRows b_Lw_swapRows 3 none, .code y_Wr_leastOf b_Wr_leastOf 4 (some .long), .static y_Wr_leastOf, .methodLink "WardRoster$RosterSearch" 63 y_Rs_strideOf, .static y_Rs_strideOf, .initialized "WardRoster$RosterSearch", .code y_Rs_strideOf b_Rs_strideOf 1 (some .int)]
def GW_2 : List Cond := [.constantLong "WardRoster$RosterSearch" 25 4611686018427387904, .methodLink "WardRoster$RosterSearch" 83 y_Nu_penaltyOf, .fieldLink "WardRoster$RosterSearch" 9 "WardRoster$RosterSearch" "statesAfter" "[I", .methodLink "WardRoster$RosterSearch" 90 y_Nu_stateAfter, .fieldLink "WardRoster$RosterSearch" 15 "WardRoster$RosterSearch" "steps" "[J", .fieldLink "WardRoster$RosterSearch" 19 "WardRoster$RosterSearch" "keys" "[J", .fieldLink "WardRoster$RosterSearch" 22 "WardRoster$RosterSearch" "nextKeys" "[J", .methodLink "WardRoster$RosterSearch" 101 Lib.MathLoose.min_long.x, .methodLink "WardRoster$RosterSearch" 27 y_Ar_fill_J, .methodLink "WardRoster$RosterSearch" 97 y_Rs_leaveTriple, .instanceMethod y_Rs_leaveTriple, .selects "WardRoster$RosterSearch" y_Rs_leaveTriple y_Rs_leaveTriple, .code y_Rs_leaveTriple b_Rs_leaveTriple 10 none, .methodLink "WardRoster$RosterSearch" 107 y_Wa_countShort, .instanceMethod y_Wa_countShort, .selects "WardRoster$Ward" y_Wa_countShort y_Wa_countShort, .code y_Wa_countShort b_Wa_countShort 6 (some .int), .methodLink "WardRoster$RosterSearch" 33 y_Rs_startTriple, .static y_Rs_startTriple, .code y_Rs_startTriple b_Rs_startTriple 3 (some .int), .methodLink "WardRoster$RosterSearch" 47 y_Rs_readSteps, .instanceMethod y_Rs_readSteps, .selects "WardRoster$RosterSearch" y_Rs_readSteps y_Rs_readSteps, .code y_Rs_readSteps b_Rs_readSteps 10 none, .methodLink "WardRoster$RosterSearch" 51 y_Rs_takePlace, .instanceMethod y_Rs_takePlace, .selects "WardRoster$RosterSearch" y_Rs_takePlace y_Rs_takePlace, .code y_Rs_takePlace b_Rs_takePlace 4 none, .methodLink "WardRoster$RosterSearch" 55 y_Rs_dropShort, .instanceMethod y_Rs_dropShort, .selects "WardRoster$RosterSearch" y_Rs_dropShort y_Rs_dropShort, .code y_Rs_dropShort b_Rs_dropShort 4 none, .fieldLink "WardRoster$Pricing" 9 "WardRoster$Pricing" "prices" "[I", .methodLink "WardRoster$Pricing" 15 y_Ar_fill_I, .fieldLink "WardRoster$Pricing" 21 "WardRoster$Pricing" "greatestLimit" "I", .fieldLink "WardRoster$Pricing" 25 "WardRoster$Pricing" "roundCount" "I", .methodLink "WardRoster$Pricing" 61 y_Pr_nextGrowth, .instanceMethod y_Pr_nextGrowth, .selects "WardRoster$Pricing" y_Pr_nextGrowth y_Pr_nextGrowth, .initialized "WardRoster$Pricing"]
def GW_3 : List Cond := [.code y_Pr_nextGrowth b_Pr_nextGrowth 1 (some .int), .methodLink "WardRoster$Pricing" 68 y_Wa_missing, .methodLink "WardRoster$Pricing" 75 Lib.Math.min.name, .static Lib.Math.min.name, .code Lib.Math.min.name Lib.Math.min.code 2 (some .int), .methodLink "WardRoster$Pricing" 48 Lib.Math.max.name, .static Lib.Math.max.name, .code Lib.Math.max.name Lib.Math.max.code 2 (some .int), .methodLink "WardRoster$Pricing" 34 y_Lw_walkLines, .instanceMethod y_Lw_walkLines, .selects "WardRoster$LineWalk" y_Lw_walkLines y_Lw_walkLines, .code y_Lw_walkLines b_Lw_walkLines 5 (some .long), .code y_Wr_weightOf b_Wr_weightOf 2 (some .int), .static y_Wr_weightOf, .methodLink "WardRoster$Pricing" 44 y_Pr_priceOfNeeds, .instanceMethod y_Pr_priceOfNeeds, .selects "WardRoster$Pricing" y_Pr_priceOfNeeds y_Pr_priceOfNeeds, .code y_Pr_priceOfNeeds b_Pr_priceOfNeeds 4 (some .int), .methodLink "WardRoster$Pricing" 54 y_Pr_movePrices, .instanceMethod y_Pr_movePrices, .selects "WardRoster$Pricing" y_Pr_movePrices y_Pr_movePrices, .code y_Pr_movePrices b_Pr_movePrices 9 none, .fieldLink "WardRoster" 33 "WardRoster" "pricing" "LWardRoster$Pricing;", .methodLink "WardRoster" 166 y_Pr_clear, .instanceMethod y_Pr_clear, .selects "WardRoster$Pricing" y_Pr_clear y_Pr_clear, .code y_Pr_clear b_Pr_clear 1 none, .fieldLink "WardRoster" 168 "WardRoster" "bestIsKnown" "Z", .fieldLink "WardRoster" 12 "WardRoster" "ward" "LWardRoster$Ward;", .methodLink "WardRoster" 163 y_Wa_clear, .instanceMethod y_Wa_clear, .selects "WardRoster$Ward" y_Wa_clear y_Wa_clear, .code y_Wa_clear b_Wa_clear 3 none, .fieldLink "WardRoster" 146 "WardRoster" "plan" "J", .methodLink "WardRoster" 66 y_Wr_forgetAnswers, .instanceMethod y_Wr_forgetAnswers, .selects "WardRoster" y_Wr_forgetAnswers y_Wr_forgetAnswers, .code y_Wr_forgetAnswers b_Wr_forgetAnswers 1 none, .fieldLink "WardRoster" 26 "WardRoster" "search" "LWardRoster$RosterSearch;", .methodLink "WardRoster" 152 y_Rs_findRoster]
def GW_4 : List Cond := [.instanceMethod y_Rs_findRoster, .selects "WardRoster$RosterSearch" y_Rs_findRoster y_Rs_findRoster, .code y_Rs_findRoster b_Rs_findRoster 6 (some .long), .fieldLink "WardRoster" 118 "WardRoster" "bestKey" "J", .fieldLink "WardRoster" 19 "WardRoster" "walk" "LWardRoster$LineWalk;", .fieldLink "WardRoster" 37 "WardRoster" "noPrices" "[I", .methodLink "WardRoster" 172 y_Lw_walkLines, .methodLink "WardRoster" 115 y_Wr_findBest, .instanceMethod y_Wr_findBest, .selects "WardRoster" y_Wr_findBest y_Wr_findBest, .code y_Wr_findBest b_Wr_findBest 1 none, .methodLink "WardRoster" 111 y_Wr_weightOf, .methodLink "WardRoster" 156 y_Nu_allowsLine, .instanceMethod y_Nu_allowsLine, .selects "WardRoster$Nurse" y_Nu_allowsLine y_Nu_allowsLine, .code y_Nu_allowsLine b_Nu_allowsLine 5 (some .boolean), .methodLink "WardRoster" 160 y_Wa_countShort, .fieldLink "WardRosterModel" 66 "WardRosterModel" "thrown" "I", .fieldLink "WardRosterModel" 80 "WardRosterModel" "solved" "Z", .fieldLink "WardRosterModel" 83 "WardRosterModel" "rounds" "I", .fieldLink "WardRosterModel" 86 "WardRosterModel" "bound" "I", .fieldLink "WardRosterModel" 34 "WardRosterModel" "prices" "[I", .fieldLink "WardRosterModel" 70 "WardRosterModel" "days" "I", .fieldLink "WardRosterModel" 7 "WardRosterModel" "forbidden" "[I", .fieldLink "WardRosterModel" 13 "WardRosterModel" "longest" "[I", .fieldLink "WardRosterModel" 16 "WardRosterModel" "shiftBefore" "[I", .fieldLink "WardRosterModel" 19 "WardRosterModel" "workedBefore" "[I", .fieldLink "WardRosterModel" 22 "WardRosterModel" "needs" "[I", .fieldLink "WardRosterModel" 25 "WardRosterModel" "costs" "[I", .fieldLink "WardRosterModel" 28 "WardRosterModel" "pairs" "[I", .fieldLink "WardRosterModel" 31 "WardRosterModel" "fixed" "[I", .fieldLink "WardRosterModel" 73 "WardRosterModel" "isPlan" "Z", .methodLink "WardRosterModel" 77 y_Wm_change, .instanceMethod y_Wm_change, .selects "WardRosterModel" y_Wm_change y_Wm_change, .initialized "WardRosterModel", .code y_Wm_change b_Wm_change 2 none, .methodLink "WardRosterModel" 62 y_Wm_begin, .instanceMethod y_Wm_begin, .selects "WardRosterModel" y_Wm_begin y_Wm_begin]
def GW_5 : List Cond := [.code y_Wm_begin b_Wm_begin 3 none, .methodLink "WardRosterModel" 89 y_Wm_noNurse, .static y_Wm_noNurse, .code y_Wm_noNurse b_Wm_noNurse 1 (some .boolean), .constant "WardRosterModel" 93 65535, .methodLink "WardRosterModel" 94 y_Wm_noShift, .static y_Wm_noShift, .code y_Wm_noShift b_Wm_noShift 1 (some .boolean), .methodLink "WardRosterModel" 97 y_Wm_noDay, .instanceMethod y_Wm_noDay, .selects "WardRosterModel" y_Wm_noDay y_Wm_noDay, .code y_Wm_noDay b_Wm_noDay 2 (some .boolean), .fieldLink "WardRosterModel" 100 "WardRosterModel" "legal" "Z", .fieldLink "WardRosterModel" 103 "WardRosterModel" "penalty" "I", .methodLink "WardRosterModel" 106 y_Wm_shiftOf, .instanceMethod y_Wm_shiftOf, .selects "WardRosterModel" y_Wm_shiftOf y_Wm_shiftOf, .code y_Wm_shiftOf b_Wm_shiftOf 3 (some .int), .methodLink "WardRosterModel" 110 y_Wm_allLines, .instanceMethod y_Wm_allLines, .selects "WardRosterModel" y_Wm_allLines y_Wm_allLines, .code y_Wm_allLines b_Wm_allLines 1 (some .int), .methodLink "WardRosterModel" 114 y_Wm_walk, .instanceMethod y_Wm_walk, .selects "WardRosterModel" y_Wm_walk y_Wm_walk, .code y_Wm_walk b_Wm_walk 8 none, .methodLink "WardRosterModel" 118 y_Wm_priceOf, .instanceMethod y_Wm_priceOf, .selects "WardRosterModel" y_Wm_priceOf y_Wm_priceOf, .code y_Wm_priceOf b_Wm_priceOf 4 (some .int), .fieldLink "WardRosterModel" 49 "WardRosterModel" "after" "[I", .fieldLink "WardRosterModel" 52 "WardRosterModel" "weight" "[I", .fieldLink "WardRosterModel" 122 "WardRosterModel" "repairs" "Z", .fieldLink "WardRosterModel" 43 "WardRosterModel" "plan" "[I", .constant "WardRosterModel" 125 100000, .fieldLink "WardRosterModel" 55 "WardRosterModel" "covers" "[Z", .constant "WardRosterModel" 126 1000000000, .fieldLink "WardRosterModel" 46 "WardRosterModel" "rest" "[I", .methodLink "WardRosterModel" 127 y_Wm_prepare, .instanceMethod y_Wm_prepare]
def GW_6 : List Cond := [.selects "WardRosterModel" y_Wm_prepare y_Wm_prepare, .code y_Wm_prepare b_Wm_prepare 11 none, .methodLink "WardRosterModel" 130 y_Wm_startState, .instanceMethod y_Wm_startState, .selects "WardRosterModel" y_Wm_startState y_Wm_startState, .code y_Wm_startState b_Wm_startState 3 (some .int), .methodLink "WardRosterModel" 137 y_Wm_lightest, .instanceMethod y_Wm_lightest, .selects "WardRosterModel" y_Wm_lightest y_Wm_lightest, .code y_Wm_lightest b_Wm_lightest 15 (some .int), .methodLink "WardRosterModel" 133 y_Wm_isUsual, .instanceMethod y_Wm_isUsual, .selects "WardRosterModel" y_Wm_isUsual y_Wm_isUsual, .code y_Wm_isUsual b_Wm_isUsual 3 (some .boolean), .methodLink "WardRosterModel" 141 y_Wm_goBack, .instanceMethod y_Wm_goBack, .selects "WardRosterModel" y_Wm_goBack y_Wm_goBack, .code y_Wm_goBack b_Wm_goBack 6 none, .methodLink "WardRosterModel" 144 y_Wm_weigh, .instanceMethod y_Wm_weigh, .selects "WardRosterModel" y_Wm_weigh y_Wm_weigh, .code y_Wm_weigh b_Wm_weigh 8 (some .int), .fieldLink "WardRosterModel" 59 "WardRosterModel" "found" "[I", .methodLink "WardRosterModel" 148 y_Wm_find, .instanceMethod y_Wm_find, .selects "WardRosterModel" y_Wm_find y_Wm_find, .code y_Wm_find b_Wm_find 5 (some .int), .fieldLink "WardRosterModel" 151 "WardRosterModel" "least" "I", .fieldLink "WardRosterModel" 40 "WardRosterModel" "best" "[I", .methodLink "WardRosterModel" 154 y_Wm_solve, .instanceMethod y_Wm_solve, .selects "WardRosterModel" y_Wm_solve y_Wm_solve, .code y_Wm_solve b_Wm_solve 2 none, .fieldLink "WardRosterModel" 37 "WardRosterModel" "counts" "[I", .methodLink "WardRosterModel" 157 y_Wm_pricedLine, .instanceMethod y_Wm_pricedLine, .selects "WardRosterModel" y_Wm_pricedLine y_Wm_pricedLine, .code y_Wm_pricedLine b_Wm_pricedLine 6 (some .int), .methodLink "WardRosterModel" 160 y_Wm_round, .instanceMethod y_Wm_round]
def GW_7 : List Cond := [.selects "WardRosterModel" y_Wm_round y_Wm_round, .code y_Wm_round b_Wm_round 5 none, .methodLink "WardRosterModel" 163 y_Wm_takeUp, .instanceMethod y_Wm_takeUp, .selects "WardRosterModel" y_Wm_takeUp y_Wm_takeUp, .code y_Wm_takeUp b_Wm_takeUp 2 none, .methodLink "WardRoster" 101 y_Wr_walkUnpriced, .instanceMethod y_Wr_walkUnpriced, .selects "WardRoster" y_Wr_walkUnpriced y_Wr_walkUnpriced, .code y_Wr_walkUnpriced b_Wr_walkUnpriced 2 (some .long), .methodLink "WardRoster" 45 y_Wr_requireValue, .static y_Wr_requireValue, .code y_Wr_requireValue b_Wr_requireValue 3 none, .methodLink "WardRoster" 41 y_Wr_startWard, .instanceMethod y_Wr_startWard, .selects "WardRoster" y_Wr_startWard y_Wr_startWard, .code y_Wr_startWard b_Wr_startWard 2 none, .methodLink "WardRoster" 49 y_Wr_requireNurse, .static y_Wr_requireNurse, .code y_Wr_requireNurse b_Wr_requireNurse 1 none, .constant "WardRoster" 52 65535, .methodLink "WardRoster" 69 y_Wr_stateOf, .methodLink "WardRoster" 76 y_Wr_requireDay, .instanceMethod y_Wr_requireDay, .selects "WardRoster" y_Wr_requireDay y_Wr_requireDay, .code y_Wr_requireDay b_Wr_requireDay 2 none, .methodLink "WardRoster" 79 y_Wr_requireShift, .static y_Wr_requireShift, .code y_Wr_requireShift b_Wr_requireShift 2 none, .methodLink "WardRoster" 86 y_Wr_cell, .methodLink "WardRoster" 105 y_Lw_countLines, .instanceMethod y_Lw_countLines, .selects "WardRoster$LineWalk" y_Lw_countLines y_Lw_countLines, .code y_Lw_countLines b_Lw_countLines 3 (some .int), .methodLink "WardRoster" 122 y_Wr_requireRoster, .static y_Wr_requireRoster, .code y_Wr_requireRoster b_Wr_requireRoster 2 none, .methodLink "WardRoster" 126 y_Wr_placeBit, .methodLink "WardRoster" 129 y_Wr_shiftAt, .methodLink "WardRoster" 133 y_Wr_requireLines]
def GW_8 : List Cond := [.instanceMethod y_Wr_requireLines, .selects "WardRoster" y_Wr_requireLines y_Wr_requireLines, .code y_Wr_requireLines b_Wr_requireLines 2 none, .methodLink "WardRoster" 136 y_Pr_playRound, .instanceMethod y_Pr_playRound, .selects "WardRoster$Pricing" y_Pr_playRound y_Pr_playRound, .code y_Pr_playRound b_Pr_playRound 6 none, .methodLink "WardRoster" 149 y_Wr_requirePlan, .instanceMethod y_Wr_requirePlan, .selects "WardRoster" y_Wr_requirePlan y_Wr_requirePlan, .code y_Wr_requirePlan b_Wr_requirePlan 1 none, .methodLink "WardRoster$Nurse" 3 objectInit, .instanceMethod objectInit, .code objectInit ⟨#[0xb1]⟩ 1 none, .arrayClass .int, .methodLink "WardRoster$Ward" 3 objectInit, .classLink "WardRoster$Ward" 9 "WardRoster$Nurse", .instantiable "WardRoster$Nurse" 8, .code y_Nu_init b_Nu_init 2 none, .methodLink "WardRoster$Ward" 11 y_Nu_init, .instanceMethod y_Nu_init, .methodLink "WardRoster$LineWalk" 3 objectInit, .arrayClass .long, .methodLink "WardRoster$RosterSearch" 3 objectInit, .methodLink "WardRoster$Pricing" 3 objectInit, .methodLink "WardRoster" 3 objectInit, .classLink "WardRoster" 9 "WardRoster$Ward", .instantiable "WardRoster$Ward" 3, .code y_Wa_init b_Wa_init 1 none, .instanceMethod y_Wa_init, .classLink "WardRoster" 16 "WardRoster$LineWalk", .instantiable "WardRoster$LineWalk" 4, .code y_Lw_init b_Lw_init 1 none, .instanceMethod y_Lw_init, .classLink "WardRoster" 23 "WardRoster$RosterSearch", .instantiable "WardRoster$RosterSearch" 4, .code y_Rs_init b_Rs_init 1 none, .instanceMethod y_Rs_init, .classLink "WardRoster" 30 "WardRoster$Pricing", .instantiable "WardRoster$Pricing" 3]
def GW_9 : List Cond := [.code y_Pr_init b_Pr_init 1 none, .instanceMethod y_Pr_init, .methodLink "WardRosterModel" 1 objectInit, .arrayClass .boolean]
def GW : List Cond := GW_0 ++ (GW_1 ++ (GW_2 ++ (GW_3 ++ (GW_4 ++ (GW_5 ++ (GW_6 ++ (GW_7 ++ (GW_8 ++ (GW_9 ++ (u_ws "WardRoster$Nurse" F_Nu 8 ++ (u_ws "WardRoster$Ward" F_Wa 3 ++ (u_ws "WardRoster$LineWalk" F_Lw 4 ++ (u_ws "WardRoster$RosterSearch" F_Rs 4 ++ (u_ws "WardRoster$Pricing" F_Pr 3 ++ (u_ws "WardRoster" F_Wr 8 ++ (u_ws "WardRosterModel" F_Wm 27))))))))))))))))
theorem up_0 {w : Cond} (h : w ∈ GW_0) : w ∈ GW := List.mem_append_left _ (h)
theorem up_1 {w : Cond} (h : w ∈ GW_1) : w ∈ GW := List.mem_append_right _ (List.mem_append_left _ (h))
theorem up_2 {w : Cond} (h : w ∈ GW_2) : w ∈ GW := List.mem_append_right _ (List.mem_append_right _ (List.mem_append_left _ (h)))
theorem up_3 {w : Cond} (h : w ∈ GW_3) : w ∈ GW := List.mem_append_right _ (List.mem_append_right _ (List.mem_append_right _ (List.mem_append_left _ (h))))
theorem up_4 {w : Cond} (h : w ∈ GW_4) : w ∈ GW := List.mem_append_right _ (List.mem_append_right _ (List.mem_append_right _ (List.mem_append_right _ (List.mem_append_left _ (h)))))
theorem up_5 {w : Cond} (h : w ∈ GW_5) : w ∈ GW := List.mem_append_right _ (List.mem_append_right _ (List.mem_append_right _ (List.mem_append_right _ (List.mem_append_right _ (List.mem_append_left _ (h))))))
theorem up_6 {w : Cond} (h : w ∈ GW_6) : w ∈ GW := List.mem_append_right _ (List.mem_append_right _ (List.mem_append_right _ (List.mem_append_right _ (List.mem_append_right _ (List.mem_append_right _ (List.mem_append_left _ (h)))))))
theorem up_7 {w : Cond} (h : w ∈ GW_7) : w ∈ GW := List.mem_append_right _ (List.mem_append_right _ (List.mem_append_right _ (List.mem_append_right _ (List.mem_append_right _ (List.mem_append_right _ (List.mem_append_right _ (List.mem_append_left _ (h))))))))
theorem up_8 {w : Cond} (h : w ∈ GW_8) : w ∈ GW := List.mem_append_right _ (List.mem_append_right _ (List.mem_append_right _ (List.mem_append_right _ (List.mem_append_right _ (List.mem_append_right _ (List.mem_append_right _ (List.mem_append_right _ (List.mem_append_left _ (h)))))))))
theorem up_9 {w : Cond} (h : w ∈ GW_9) : w ∈ GW := List.mem_append_right _ (List.mem_append_right _ (List.mem_append_right _ (List.mem_append_right _ (List.mem_append_right _ (List.mem_append_right _ (List.mem_append_right _ (List.mem_append_right _ (List.mem_append_right _ (List.mem_append_left _ (h))))))))))
theorem in_Nu : ∀ w ∈ u_ws "WardRoster$Nurse" F_Nu 8, w ∈ GW := fun w h => List.mem_append_right _ (List.mem_append_right _ (List.mem_append_right _ (List.mem_append_right _ (List.mem_append_right _ (List.mem_append_right _ (List.mem_append_right _ (List.mem_append_right _ (List.mem_append_right _ (List.mem_append_right _ (List.mem_append_left _ (h)))))))))))
theorem in_Wa : ∀ w ∈ u_ws "WardRoster$Ward" F_Wa 3, w ∈ GW := fun w h => List.mem_append_right _ (List.mem_append_right _ (List.mem_append_right _ (List.mem_append_right _ (List.mem_append_right _ (List.mem_append_right _ (List.mem_append_right _ (List.mem_append_right _ (List.mem_append_right _ (List.mem_append_right _ (List.mem_append_right _ (List.mem_append_left _ (h))))))))))))
theorem in_Lw : ∀ w ∈ u_ws "WardRoster$LineWalk" F_Lw 4, w ∈ GW := fun w h => List.mem_append_right _ (List.mem_append_right _ (List.mem_append_right _ (List.mem_append_right _ (List.mem_append_right _ (List.mem_append_right _ (List.mem_append_right _ (List.mem_append_right _ (List.mem_append_right _ (List.mem_append_right _ (List.mem_append_right _ (List.mem_append_right _ (List.mem_append_left _ (h)))))))))))))
theorem in_Rs : ∀ w ∈ u_ws "WardRoster$RosterSearch" F_Rs 4, w ∈ GW := fun w h => List.mem_append_right _ (List.mem_append_right _ (List.mem_append_right _ (List.mem_append_right _ (List.mem_append_right _ (List.mem_append_right _ (List.mem_append_right _ (List.mem_append_right _ (List.mem_append_right _ (List.mem_append_right _ (List.mem_append_right _ (List.mem_append_right _ (List.mem_append_right _ (List.mem_append_left _ (h))))))))))))))
theorem in_Pr : ∀ w ∈ u_ws "WardRoster$Pricing" F_Pr 3, w ∈ GW := fun w h => List.mem_append_right _ (List.mem_append_right _ (List.mem_append_right _ (List.mem_append_right _ (List.mem_append_right _ (List.mem_append_right _ (List.mem_append_right _ (List.mem_append_right _ (List.mem_append_right _ (List.mem_append_right _ (List.mem_append_right _ (List.mem_append_right _ (List.mem_append_right _ (List.mem_append_right _ (List.mem_append_left _ (h)))))))))))))))
theorem in_Wr : ∀ w ∈ u_ws "WardRoster" F_Wr 8, w ∈ GW := fun w h => List.mem_append_right _ (List.mem_append_right _ (List.mem_append_right _ (List.mem_append_right _ (List.mem_append_right _ (List.mem_append_right _ (List.mem_append_right _ (List.mem_append_right _ (List.mem_append_right _ (List.mem_append_right _ (List.mem_append_right _ (List.mem_append_right _ (List.mem_append_right _ (List.mem_append_right _ (List.mem_append_right _ (List.mem_append_left _ (h))))))))))))))))
theorem in_Wm : ∀ w ∈ u_ws "WardRosterModel" F_Wm 27, w ∈ GW := fun w h => List.mem_append_right _ (List.mem_append_right _ (List.mem_append_right _ (List.mem_append_right _ (List.mem_append_right _ (List.mem_append_right _ (List.mem_append_right _ (List.mem_append_right _ (List.mem_append_right _ (List.mem_append_right _ (List.mem_append_right _ (List.mem_append_right _ (List.mem_append_right _ (List.mem_append_right _ (List.mem_append_right _ (List.mem_append_right _ (h))))))))))))))))
theorem ok_0 : GW_0.all goodWord = true := by decide +kernel
theorem ok_1 : GW_1.all goodWord = true := by decide +kernel
theorem ok_2 : GW_2.all goodWord = true := by decide +kernel
theorem ok_3 : GW_3.all goodWord = true := by decide +kernel
theorem ok_4 : GW_4.all goodWord = true := by decide +kernel
theorem ok_5 : GW_5.all goodWord = true := by decide +kernel
theorem ok_6 : GW_6.all goodWord = true := by decide +kernel
theorem ok_7 : GW_7.all goodWord = true := by decide +kernel
theorem ok_8 : GW_8.all goodWord = true := by decide +kernel
theorem ok_9 : GW_9.all goodWord = true := by decide +kernel
theorem oku_Nu : (u_ws "WardRoster$Nurse" F_Nu 8).all goodWord = true := by decide +kernel
theorem oku_Wa : (u_ws "WardRoster$Ward" F_Wa 3).all goodWord = true := by decide +kernel
theorem oku_Lw : (u_ws "WardRoster$LineWalk" F_Lw 4).all goodWord = true := by decide +kernel
theorem oku_Rs : (u_ws "WardRoster$RosterSearch" F_Rs 4).all goodWord = true := by decide +kernel
theorem oku_Pr : (u_ws "WardRoster$Pricing" F_Pr 3).all goodWord = true := by decide +kernel
theorem oku_Wr : (u_ws "WardRoster" F_Wr 8).all goodWord = true := by decide +kernel
theorem oku_Wm : (u_ws "WardRosterModel" F_Wm 27).all goodWord = true := by decide +kernel
theorem GW_all : GW.all goodWord = true := by
  unfold GW
  simp only [List.all_append, Bool.and_eq_true]
  exact ⟨ok_0, ⟨ok_1, ⟨ok_2, ⟨ok_3, ⟨ok_4, ⟨ok_5, ⟨ok_6, ⟨ok_7, ⟨ok_8, ⟨ok_9, ⟨oku_Nu, ⟨oku_Wa, ⟨oku_Lw, ⟨oku_Rs, ⟨oku_Pr, ⟨oku_Wr, oku_Wm⟩⟩⟩⟩⟩⟩⟩⟩⟩⟩⟩⟩⟩⟩⟩⟩
theorem GW_good : ∀ w ∈ GW, (w.onTables && w.keeps) = true ∨ ∃ ty, w = .arrayClass ty := fun w h => good_of_word (List.all_eq_true.mp GW_all w h)
theorem gw_0 : (.constantLong "WardRoster" 109 4611686018427387904 : Cond) ∈ GW := up_0 (List.mem_of_getElem? (i := 0) rfl)
theorem gw_1 : (.methodLink "WardRoster" 204 Lib.MathLoose.min_long.x : Cond) ∈ GW := up_0 (List.mem_of_getElem? (i := 1) rfl)
theorem gw_2 : (.static Lib.MathLoose.min_long.x : Cond) ∈ GW := up_0 (List.mem_of_getElem? (i := 2) rfl)
theorem gw_3 : (.initialized "java/lang/Math" : Cond) ∈ GW := up_0 (List.mem_of_getElem? (i := 3) rfl)
theorem gw_4 : (.code Lib.MathLoose.min_long.x Lib.MathLoose.min_long.code 4 (some .long) : Cond) ∈ GW := up_0 (List.mem_of_getElem? (i := 4) rfl)
theorem gw_5 : (.fieldLink "WardRoster$Nurse" 25 "WardRoster$Nurse" "dayCount" "I" : Cond) ∈ GW := up_0 (List.mem_of_getElem? (i := 5) rfl)
theorem gw_6 : (.fieldLink "WardRoster$Nurse" 9 "WardRoster$Nurse" "shiftCosts" "[I" : Cond) ∈ GW := up_0 (List.mem_of_getElem? (i := 6) rfl)
theorem gw_7 : (.code y_Ar_fill_I b_Ar_fill_I 4 none : Cond) ∈ GW := up_0 (List.mem_of_getElem? (i := 7) rfl)
theorem gw_8 : (.initialized "java/util/Arrays" : Cond) ∈ GW := up_0 (List.mem_of_getElem? (i := 8) rfl)
theorem gw_9 : (.methodLink "WardRoster$Nurse" 28 y_Ar_fill_I : Cond) ∈ GW := up_0 (List.mem_of_getElem? (i := 9) rfl)
theorem gw_10 : (.static y_Ar_fill_I : Cond) ∈ GW := up_0 (List.mem_of_getElem? (i := 10) rfl)
theorem gw_11 : (.fieldLink "WardRoster$Nurse" 15 "WardRoster$Nurse" "pairCosts" "[I" : Cond) ∈ GW := up_0 (List.mem_of_getElem? (i := 11) rfl)
theorem gw_12 : (.fieldLink "WardRoster$Nurse" 18 "WardRoster$Nurse" "fixedShifts" "[I" : Cond) ∈ GW := up_0 (List.mem_of_getElem? (i := 12) rfl)
theorem gw_13 : (.fieldLink "WardRoster$Nurse" 34 "WardRoster$Nurse" "forbidden" "I" : Cond) ∈ GW := up_0 (List.mem_of_getElem? (i := 13) rfl)
theorem gw_14 : (.fieldLink "WardRoster$Nurse" 37 "WardRoster$Nurse" "longest" "I" : Cond) ∈ GW := up_0 (List.mem_of_getElem? (i := 14) rfl)
theorem gw_15 : (.fieldLink "WardRoster$Nurse" 40 "WardRoster$Nurse" "start" "I" : Cond) ∈ GW := up_0 (List.mem_of_getElem? (i := 15) rfl)
theorem gw_16 : (.code y_Wr_shiftOf b_Wr_shiftOf 1 (some .int) : Cond) ∈ GW := up_0 (List.mem_of_getElem? (i := 16) rfl)
theorem gw_17 : (.initialized "WardRoster" : Cond) ∈ GW := up_0 (List.mem_of_getElem? (i := 17) rfl)
theorem gw_18 : (.static y_Wr_shiftOf : Cond) ∈ GW := up_0 (List.mem_of_getElem? (i := 18) rfl)
theorem gw_19 : (.code y_Wr_cell b_Wr_cell 2 (some .int) : Cond) ∈ GW := up_0 (List.mem_of_getElem? (i := 19) rfl)
theorem gw_20 : (.static y_Wr_cell : Cond) ∈ GW := up_0 (List.mem_of_getElem? (i := 20) rfl)
theorem gw_21 : (.code y_Wr_workedOf b_Wr_workedOf 1 (some .int) : Cond) ∈ GW := up_0 (List.mem_of_getElem? (i := 21) rfl)
theorem gw_22 : (.static y_Wr_workedOf : Cond) ∈ GW := up_0 (List.mem_of_getElem? (i := 22) rfl)
theorem gw_23 : (.code y_Wr_stateOf b_Wr_stateOf 2 (some .int) : Cond) ∈ GW := up_0 (List.mem_of_getElem? (i := 23) rfl)
theorem gw_24 : (.static y_Wr_stateOf : Cond) ∈ GW := up_0 (List.mem_of_getElem? (i := 24) rfl)
theorem gw_25 : (.fieldLink "WardRoster$Nurse" 21 "WardRoster$Nurse" "number" "I" : Cond) ∈ GW := up_0 (List.mem_of_getElem? (i := 25) rfl)
theorem gw_26 : (.code y_Wr_placeBit b_Wr_placeBit 2 (some .int) : Cond) ∈ GW := up_0 (List.mem_of_getElem? (i := 26) rfl)
theorem gw_27 : (.static y_Wr_placeBit : Cond) ∈ GW := up_0 (List.mem_of_getElem? (i := 27) rfl)
theorem gw_28 : (.code y_Wr_shiftAt b_Wr_shiftAt 3 (some .int) : Cond) ∈ GW := up_0 (List.mem_of_getElem? (i := 28) rfl)
theorem gw_29 : (.static y_Wr_shiftAt : Cond) ∈ GW := up_0 (List.mem_of_getElem? (i := 29) rfl)
theorem gw_30 : (.methodLink "WardRoster$Nurse" 64 y_Nu_stateAfter : Cond) ∈ GW := up_0 (List.mem_of_getElem? (i := 30) rfl)
theorem gw_31 : (.instanceMethod y_Nu_stateAfter : Cond) ∈ GW := up_0 (List.mem_of_getElem? (i := 31) rfl)
theorem gw_32 : (.selects "WardRoster$Nurse" y_Nu_stateAfter y_Nu_stateAfter : Cond) ∈ GW := up_0 (List.mem_of_getElem? (i := 32) rfl)
theorem gw_33 : (.initialized "WardRoster$Nurse" : Cond) ∈ GW := up_0 (List.mem_of_getElem? (i := 33) rfl)
theorem gw_34 : (.code y_Nu_stateAfter b_Nu_stateAfter 6 (some .int) : Cond) ∈ GW := up_0 (List.mem_of_getElem? (i := 34) rfl)
theorem gw_35 : (.fieldLink "WardRoster$Ward" 24 "WardRoster$Ward" "dayCount" "I" : Cond) ∈ GW := up_0 (List.mem_of_getElem? (i := 35) rfl)
theorem gw_36 : (.fieldLink "WardRoster$Ward" 20 "WardRoster$Ward" "needed" "[I" : Cond) ∈ GW := up_0 (List.mem_of_getElem? (i := 36) rfl)
theorem gw_37 : (.methodLink "WardRoster$Ward" 28 y_Ar_fill_I : Cond) ∈ GW := up_0 (List.mem_of_getElem? (i := 37) rfl)
theorem gw_38 : (.fieldLink "WardRoster$Ward" 14 "WardRoster$Ward" "nurses" "[LWardRoster$Nurse;" : Cond) ∈ GW := up_0 (List.mem_of_getElem? (i := 38) rfl)
theorem gw_39 : (.methodLink "WardRoster$Ward" 34 y_Nu_clear : Cond) ∈ GW := up_0 (List.mem_of_getElem? (i := 39) rfl)
theorem gw_40 : (.instanceMethod y_Nu_clear : Cond) ∈ GW := up_1 (List.mem_of_getElem? (i := 0) rfl)
theorem gw_41 : (.selects "WardRoster$Nurse" y_Nu_clear y_Nu_clear : Cond) ∈ GW := up_1 (List.mem_of_getElem? (i := 1) rfl)
theorem gw_42 : (.code y_Nu_clear b_Nu_clear 2 none : Cond) ∈ GW := up_1 (List.mem_of_getElem? (i := 2) rfl)
theorem gw_43 : (.methodLink "WardRoster$Ward" 37 y_Wa_missing : Cond) ∈ GW := up_1 (List.mem_of_getElem? (i := 3) rfl)
theorem gw_44 : (.instanceMethod y_Wa_missing : Cond) ∈ GW := up_1 (List.mem_of_getElem? (i := 4) rfl)
theorem gw_45 : (.selects "WardRoster$Ward" y_Wa_missing y_Wa_missing : Cond) ∈ GW := up_1 (List.mem_of_getElem? (i := 5) rfl)
theorem gw_46 : (.initialized "WardRoster$Ward" : Cond) ∈ GW := up_1 (List.mem_of_getElem? (i := 6) rfl)
theorem gw_47 : (.code y_Wa_missing b_Wa_missing 7 (some .int) : Cond) ∈ GW := up_1 (List.mem_of_getElem? (i := 7) rfl)
theorem gw_48 : (.fieldLink "WardRoster$LineWalk" 9 "WardRoster$LineWalk" "keys" "[J" : Cond) ∈ GW := up_1 (List.mem_of_getElem? (i := 8) rfl)
theorem gw_49 : (.fieldLink "WardRoster$LineWalk" 15 "WardRoster$LineWalk" "nextKeys" "[J" : Cond) ∈ GW := up_1 (List.mem_of_getElem? (i := 9) rfl)
theorem gw_50 : (.fieldLink "WardRoster$LineWalk" 18 "WardRoster$LineWalk" "ways" "[I" : Cond) ∈ GW := up_1 (List.mem_of_getElem? (i := 10) rfl)
theorem gw_51 : (.fieldLink "WardRoster$LineWalk" 22 "WardRoster$LineWalk" "nextWays" "[I" : Cond) ∈ GW := up_1 (List.mem_of_getElem? (i := 11) rfl)
theorem gw_52 : (.methodLink "WardRoster$LineWalk" 63 y_Nu_stateAfter : Cond) ∈ GW := up_1 (List.mem_of_getElem? (i := 12) rfl)
theorem gw_53 : (.methodLink "WardRoster$LineWalk" 67 y_Nu_penaltyOf : Cond) ∈ GW := up_1 (List.mem_of_getElem? (i := 13) rfl)
theorem gw_54 : (.instanceMethod y_Nu_penaltyOf : Cond) ∈ GW := up_1 (List.mem_of_getElem? (i := 14) rfl)
theorem gw_55 : (.selects "WardRoster$Nurse" y_Nu_penaltyOf y_Nu_penaltyOf : Cond) ∈ GW := up_1 (List.mem_of_getElem? (i := 15) rfl)
theorem gw_56 : (.code y_Nu_penaltyOf b_Nu_penaltyOf 4 (some .int) : Cond) ∈ GW := up_1 (List.mem_of_getElem? (i := 16) rfl)
theorem gw_57 : (.code y_Wr_stepKey b_Wr_stepKey 3 (some .long) : Cond) ∈ GW := up_1 (List.mem_of_getElem? (i := 17) rfl)
theorem gw_58 : (.static y_Wr_stepKey : Cond) ∈ GW := up_1 (List.mem_of_getElem? (i := 18) rfl)
theorem gw_59 : (.methodLink "WardRoster$LineWalk" 77 Lib.MathLoose.min_long.x : Cond) ∈ GW := up_1 (List.mem_of_getElem? (i := 19) rfl)
theorem gw_60 : (.constantLong "WardRoster$LineWalk" 25 4611686018427387904 : Cond) ∈ GW := up_1 (List.mem_of_getElem? (i := 20) rfl)
theorem gw_61 : (.code y_Ar_fill_J b_Ar_fill_J 5 none : Cond) ∈ GW := up_1 (List.mem_of_getElem? (i := 21) rfl)
theorem gw_62 : (.methodLink "WardRoster$LineWalk" 27 y_Ar_fill_J : Cond) ∈ GW := up_1 (List.mem_of_getElem? (i := 22) rfl)
theorem gw_63 : (.static y_Ar_fill_J : Cond) ∈ GW := up_1 (List.mem_of_getElem? (i := 23) rfl)
theorem gw_64 : (.methodLink "WardRoster$LineWalk" 33 y_Ar_fill_I : Cond) ∈ GW := up_1 (List.mem_of_getElem? (i := 24) rfl)
theorem gw_65 : (.methodLink "WardRoster$LineWalk" 45 y_Lw_leaveState : Cond) ∈ GW := up_1 (List.mem_of_getElem? (i := 25) rfl)
theorem gw_66 : (.instanceMethod y_Lw_leaveState : Cond) ∈ GW := up_1 (List.mem_of_getElem? (i := 26) rfl)
theorem gw_67 : (.selects "WardRoster$LineWalk" y_Lw_leaveState y_Lw_leaveState : Cond) ∈ GW := up_1 (List.mem_of_getElem? (i := 27) rfl)
theorem gw_68 : (.initialized "WardRoster$LineWalk" : Cond) ∈ GW := up_1 (List.mem_of_getElem? (i := 28) rfl)
theorem gw_69 : (.code y_Lw_leaveState b_Lw_leaveState 11 none : Cond) ∈ GW := up_1 (List.mem_of_getElem? (i := 29) rfl)
theorem gw_70 : (.methodLink "WardRoster$LineWalk" 49 y_Lw_swapRows : Cond) ∈ GW := up_1 (List.mem_of_getElem? (i := 30) rfl)
theorem gw_71 : (.instanceMethod y_Lw_swapRows : Cond) ∈ GW := up_1 (List.mem_of_getElem? (i := 31) rfl)
theorem gw_72 : (.selects "WardRoster$LineWalk" y_Lw_swapRows y_Lw_swapRows : Cond) ∈ GW := up_1 (List.mem_of_getElem? (i := 32) rfl)
theorem gw_73 : (.code y_Lw_swapRows b_Lw_swapRows 3 none : Cond) ∈ GW := up_1 (List.mem_of_getElem? (i := 33) rfl)
theorem gw_74 : (.code y_Wr_leastOf b_Wr_leastOf 4 (some .long) : Cond) ∈ GW := up_1 (List.mem_of_getElem? (i := 34) rfl)
theorem gw_75 : (.static y_Wr_leastOf : Cond) ∈ GW := up_1 (List.mem_of_getElem? (i := 35) rfl)
theorem gw_76 : (.methodLink "WardRoster$RosterSearch" 63 y_Rs_strideOf : Cond) ∈ GW := up_1 (List.mem_of_getElem? (i := 36) rfl)
theorem gw_77 : (.static y_Rs_strideOf : Cond) ∈ GW := up_1 (List.mem_of_getElem? (i := 37) rfl)
theorem gw_78 : (.initialized "WardRoster$RosterSearch" : Cond) ∈ GW := up_1 (List.mem_of_getElem? (i := 38) rfl)
theorem gw_79 : (.code y_Rs_strideOf b_Rs_strideOf 1 (some .int) : Cond) ∈ GW := up_1 (List.mem_of_getElem? (i := 39) rfl)
theorem gw_80 : (.constantLong "WardRoster$RosterSearch" 25 4611686018427387904 : Cond) ∈ GW := up_2 (List.mem_of_getElem? (i := 0) rfl)
theorem gw_81 : (.methodLink "WardRoster$RosterSearch" 83 y_Nu_penaltyOf : Cond) ∈ GW := up_2 (List.mem_of_getElem? (i := 1) rfl)
theorem gw_82 : (.fieldLink "WardRoster$RosterSearch" 9 "WardRoster$RosterSearch" "statesAfter" "[I" : Cond) ∈ GW := up_2 (List.mem_of_getElem? (i := 2) rfl)
theorem gw_83 : (.methodLink "WardRoster$RosterSearch" 90 y_Nu_stateAfter : Cond) ∈ GW := up_2 (List.mem_of_getElem? (i := 3) rfl)
theorem gw_84 : (.fieldLink "WardRoster$RosterSearch" 15 "WardRoster$RosterSearch" "steps" "[J" : Cond) ∈ GW := up_2 (List.mem_of_getElem? (i := 4) rfl)
theorem gw_85 : (.fieldLink "WardRoster$RosterSearch" 19 "WardRoster$RosterSearch" "keys" "[J" : Cond) ∈ GW := up_2 (List.mem_of_getElem? (i := 5) rfl)
theorem gw_86 : (.fieldLink "WardRoster$RosterSearch" 22 "WardRoster$RosterSearch" "nextKeys" "[J" : Cond) ∈ GW := up_2 (List.mem_of_getElem? (i := 6) rfl)
theorem gw_87 : (.methodLink "WardRoster$RosterSearch" 101 Lib.MathLoose.min_long.x : Cond) ∈ GW := up_2 (List.mem_of_getElem? (i := 7) rfl)
theorem gw_88 : (.methodLink "WardRoster$RosterSearch" 27 y_Ar_fill_J : Cond) ∈ GW := up_2 (List.mem_of_getElem? (i := 8) rfl)
theorem gw_89 : (.methodLink "WardRoster$RosterSearch" 97 y_Rs_leaveTriple : Cond) ∈ GW := up_2 (List.mem_of_getElem? (i := 9) rfl)
theorem gw_90 : (.instanceMethod y_Rs_leaveTriple : Cond) ∈ GW := up_2 (List.mem_of_getElem? (i := 10) rfl)
theorem gw_91 : (.selects "WardRoster$RosterSearch" y_Rs_leaveTriple y_Rs_leaveTriple : Cond) ∈ GW := up_2 (List.mem_of_getElem? (i := 11) rfl)
theorem gw_92 : (.code y_Rs_leaveTriple b_Rs_leaveTriple 10 none : Cond) ∈ GW := up_2 (List.mem_of_getElem? (i := 12) rfl)
theorem gw_93 : (.methodLink "WardRoster$RosterSearch" 107 y_Wa_countShort : Cond) ∈ GW := up_2 (List.mem_of_getElem? (i := 13) rfl)
theorem gw_94 : (.instanceMethod y_Wa_countShort : Cond) ∈ GW := up_2 (List.mem_of_getElem? (i := 14) rfl)
theorem gw_95 : (.selects "WardRoster$Ward" y_Wa_countShort y_Wa_countShort : Cond) ∈ GW := up_2 (List.mem_of_getElem? (i := 15) rfl)
theorem gw_96 : (.code y_Wa_countShort b_Wa_countShort 6 (some .int) : Cond) ∈ GW := up_2 (List.mem_of_getElem? (i := 16) rfl)
theorem gw_97 : (.methodLink "WardRoster$RosterSearch" 33 y_Rs_startTriple : Cond) ∈ GW := up_2 (List.mem_of_getElem? (i := 17) rfl)
theorem gw_98 : (.static y_Rs_startTriple : Cond) ∈ GW := up_2 (List.mem_of_getElem? (i := 18) rfl)
theorem gw_99 : (.code y_Rs_startTriple b_Rs_startTriple 3 (some .int) : Cond) ∈ GW := up_2 (List.mem_of_getElem? (i := 19) rfl)
theorem gw_100 : (.methodLink "WardRoster$RosterSearch" 47 y_Rs_readSteps : Cond) ∈ GW := up_2 (List.mem_of_getElem? (i := 20) rfl)
theorem gw_101 : (.instanceMethod y_Rs_readSteps : Cond) ∈ GW := up_2 (List.mem_of_getElem? (i := 21) rfl)
theorem gw_102 : (.selects "WardRoster$RosterSearch" y_Rs_readSteps y_Rs_readSteps : Cond) ∈ GW := up_2 (List.mem_of_getElem? (i := 22) rfl)
theorem gw_103 : (.code y_Rs_readSteps b_Rs_readSteps 10 none : Cond) ∈ GW := up_2 (List.mem_of_getElem? (i := 23) rfl)
theorem gw_104 : (.methodLink "WardRoster$RosterSearch" 51 y_Rs_takePlace : Cond) ∈ GW := up_2 (List.mem_of_getElem? (i := 24) rfl)
theorem gw_105 : (.instanceMethod y_Rs_takePlace : Cond) ∈ GW := up_2 (List.mem_of_getElem? (i := 25) rfl)
theorem gw_106 : (.selects "WardRoster$RosterSearch" y_Rs_takePlace y_Rs_takePlace : Cond) ∈ GW := up_2 (List.mem_of_getElem? (i := 26) rfl)
theorem gw_107 : (.code y_Rs_takePlace b_Rs_takePlace 4 none : Cond) ∈ GW := up_2 (List.mem_of_getElem? (i := 27) rfl)
theorem gw_108 : (.methodLink "WardRoster$RosterSearch" 55 y_Rs_dropShort : Cond) ∈ GW := up_2 (List.mem_of_getElem? (i := 28) rfl)
theorem gw_109 : (.instanceMethod y_Rs_dropShort : Cond) ∈ GW := up_2 (List.mem_of_getElem? (i := 29) rfl)
theorem gw_110 : (.selects "WardRoster$RosterSearch" y_Rs_dropShort y_Rs_dropShort : Cond) ∈ GW := up_2 (List.mem_of_getElem? (i := 30) rfl)
theorem gw_111 : (.code y_Rs_dropShort b_Rs_dropShort 4 none : Cond) ∈ GW := up_2 (List.mem_of_getElem? (i := 31) rfl)
theorem gw_112 : (.fieldLink "WardRoster$Pricing" 9 "WardRoster$Pricing" "prices" "[I" : Cond) ∈ GW := up_2 (List.mem_of_getElem? (i := 32) rfl)
theorem gw_113 : (.methodLink "WardRoster$Pricing" 15 y_Ar_fill_I : Cond) ∈ GW := up_2 (List.mem_of_getElem? (i := 33) rfl)
theorem gw_114 : (.fieldLink "WardRoster$Pricing" 21 "WardRoster$Pricing" "greatestLimit" "I" : Cond) ∈ GW := up_2 (List.mem_of_getElem? (i := 34) rfl)
theorem gw_115 : (.fieldLink "WardRoster$Pricing" 25 "WardRoster$Pricing" "roundCount" "I" : Cond) ∈ GW := up_2 (List.mem_of_getElem? (i := 35) rfl)
theorem gw_116 : (.methodLink "WardRoster$Pricing" 61 y_Pr_nextGrowth : Cond) ∈ GW := up_2 (List.mem_of_getElem? (i := 36) rfl)
theorem gw_117 : (.instanceMethod y_Pr_nextGrowth : Cond) ∈ GW := up_2 (List.mem_of_getElem? (i := 37) rfl)
theorem gw_118 : (.selects "WardRoster$Pricing" y_Pr_nextGrowth y_Pr_nextGrowth : Cond) ∈ GW := up_2 (List.mem_of_getElem? (i := 38) rfl)
theorem gw_119 : (.initialized "WardRoster$Pricing" : Cond) ∈ GW := up_2 (List.mem_of_getElem? (i := 39) rfl)
theorem gw_120 : (.code y_Pr_nextGrowth b_Pr_nextGrowth 1 (some .int) : Cond) ∈ GW := up_3 (List.mem_of_getElem? (i := 0) rfl)
theorem gw_121 : (.methodLink "WardRoster$Pricing" 68 y_Wa_missing : Cond) ∈ GW := up_3 (List.mem_of_getElem? (i := 1) rfl)
theorem gw_122 : (.methodLink "WardRoster$Pricing" 75 Lib.Math.min.name : Cond) ∈ GW := up_3 (List.mem_of_getElem? (i := 2) rfl)
theorem gw_123 : (.static Lib.Math.min.name : Cond) ∈ GW := up_3 (List.mem_of_getElem? (i := 3) rfl)
theorem gw_124 : (.code Lib.Math.min.name Lib.Math.min.code 2 (some .int) : Cond) ∈ GW := up_3 (List.mem_of_getElem? (i := 4) rfl)
theorem gw_125 : (.methodLink "WardRoster$Pricing" 48 Lib.Math.max.name : Cond) ∈ GW := up_3 (List.mem_of_getElem? (i := 5) rfl)
theorem gw_126 : (.static Lib.Math.max.name : Cond) ∈ GW := up_3 (List.mem_of_getElem? (i := 6) rfl)
theorem gw_127 : (.code Lib.Math.max.name Lib.Math.max.code 2 (some .int) : Cond) ∈ GW := up_3 (List.mem_of_getElem? (i := 7) rfl)
theorem gw_128 : (.methodLink "WardRoster$Pricing" 34 y_Lw_walkLines : Cond) ∈ GW := up_3 (List.mem_of_getElem? (i := 8) rfl)
theorem gw_129 : (.instanceMethod y_Lw_walkLines : Cond) ∈ GW := up_3 (List.mem_of_getElem? (i := 9) rfl)
theorem gw_130 : (.selects "WardRoster$LineWalk" y_Lw_walkLines y_Lw_walkLines : Cond) ∈ GW := up_3 (List.mem_of_getElem? (i := 10) rfl)
theorem gw_131 : (.code y_Lw_walkLines b_Lw_walkLines 5 (some .long) : Cond) ∈ GW := up_3 (List.mem_of_getElem? (i := 11) rfl)
theorem gw_132 : (.code y_Wr_weightOf b_Wr_weightOf 2 (some .int) : Cond) ∈ GW := up_3 (List.mem_of_getElem? (i := 12) rfl)
theorem gw_133 : (.static y_Wr_weightOf : Cond) ∈ GW := up_3 (List.mem_of_getElem? (i := 13) rfl)
theorem gw_134 : (.methodLink "WardRoster$Pricing" 44 y_Pr_priceOfNeeds : Cond) ∈ GW := up_3 (List.mem_of_getElem? (i := 14) rfl)
theorem gw_135 : (.instanceMethod y_Pr_priceOfNeeds : Cond) ∈ GW := up_3 (List.mem_of_getElem? (i := 15) rfl)
theorem gw_136 : (.selects "WardRoster$Pricing" y_Pr_priceOfNeeds y_Pr_priceOfNeeds : Cond) ∈ GW := up_3 (List.mem_of_getElem? (i := 16) rfl)
theorem gw_137 : (.code y_Pr_priceOfNeeds b_Pr_priceOfNeeds 4 (some .int) : Cond) ∈ GW := up_3 (List.mem_of_getElem? (i := 17) rfl)
theorem gw_138 : (.methodLink "WardRoster$Pricing" 54 y_Pr_movePrices : Cond) ∈ GW := up_3 (List.mem_of_getElem? (i := 18) rfl)
theorem gw_139 : (.instanceMethod y_Pr_movePrices : Cond) ∈ GW := up_3 (List.mem_of_getElem? (i := 19) rfl)
theorem gw_140 : (.selects "WardRoster$Pricing" y_Pr_movePrices y_Pr_movePrices : Cond) ∈ GW := up_3 (List.mem_of_getElem? (i := 20) rfl)
theorem gw_141 : (.code y_Pr_movePrices b_Pr_movePrices 9 none : Cond) ∈ GW := up_3 (List.mem_of_getElem? (i := 21) rfl)
theorem gw_142 : (.fieldLink "WardRoster" 33 "WardRoster" "pricing" "LWardRoster$Pricing;" : Cond) ∈ GW := up_3 (List.mem_of_getElem? (i := 22) rfl)
theorem gw_143 : (.methodLink "WardRoster" 166 y_Pr_clear : Cond) ∈ GW := up_3 (List.mem_of_getElem? (i := 23) rfl)
theorem gw_144 : (.instanceMethod y_Pr_clear : Cond) ∈ GW := up_3 (List.mem_of_getElem? (i := 24) rfl)
theorem gw_145 : (.selects "WardRoster$Pricing" y_Pr_clear y_Pr_clear : Cond) ∈ GW := up_3 (List.mem_of_getElem? (i := 25) rfl)
theorem gw_146 : (.code y_Pr_clear b_Pr_clear 1 none : Cond) ∈ GW := up_3 (List.mem_of_getElem? (i := 26) rfl)
theorem gw_147 : (.fieldLink "WardRoster" 168 "WardRoster" "bestIsKnown" "Z" : Cond) ∈ GW := up_3 (List.mem_of_getElem? (i := 27) rfl)
theorem gw_148 : (.fieldLink "WardRoster" 12 "WardRoster" "ward" "LWardRoster$Ward;" : Cond) ∈ GW := up_3 (List.mem_of_getElem? (i := 28) rfl)
theorem gw_149 : (.methodLink "WardRoster" 163 y_Wa_clear : Cond) ∈ GW := up_3 (List.mem_of_getElem? (i := 29) rfl)
theorem gw_150 : (.instanceMethod y_Wa_clear : Cond) ∈ GW := up_3 (List.mem_of_getElem? (i := 30) rfl)
theorem gw_151 : (.selects "WardRoster$Ward" y_Wa_clear y_Wa_clear : Cond) ∈ GW := up_3 (List.mem_of_getElem? (i := 31) rfl)
theorem gw_152 : (.code y_Wa_clear b_Wa_clear 3 none : Cond) ∈ GW := up_3 (List.mem_of_getElem? (i := 32) rfl)
theorem gw_153 : (.fieldLink "WardRoster" 146 "WardRoster" "plan" "J" : Cond) ∈ GW := up_3 (List.mem_of_getElem? (i := 33) rfl)
theorem gw_154 : (.methodLink "WardRoster" 66 y_Wr_forgetAnswers : Cond) ∈ GW := up_3 (List.mem_of_getElem? (i := 34) rfl)
theorem gw_155 : (.instanceMethod y_Wr_forgetAnswers : Cond) ∈ GW := up_3 (List.mem_of_getElem? (i := 35) rfl)
theorem gw_156 : (.selects "WardRoster" y_Wr_forgetAnswers y_Wr_forgetAnswers : Cond) ∈ GW := up_3 (List.mem_of_getElem? (i := 36) rfl)
theorem gw_157 : (.code y_Wr_forgetAnswers b_Wr_forgetAnswers 1 none : Cond) ∈ GW := up_3 (List.mem_of_getElem? (i := 37) rfl)
theorem gw_158 : (.fieldLink "WardRoster" 26 "WardRoster" "search" "LWardRoster$RosterSearch;" : Cond) ∈ GW := up_3 (List.mem_of_getElem? (i := 38) rfl)
theorem gw_159 : (.methodLink "WardRoster" 152 y_Rs_findRoster : Cond) ∈ GW := up_3 (List.mem_of_getElem? (i := 39) rfl)
theorem gw_160 : (.instanceMethod y_Rs_findRoster : Cond) ∈ GW := up_4 (List.mem_of_getElem? (i := 0) rfl)
theorem gw_161 : (.selects "WardRoster$RosterSearch" y_Rs_findRoster y_Rs_findRoster : Cond) ∈ GW := up_4 (List.mem_of_getElem? (i := 1) rfl)
theorem gw_162 : (.code y_Rs_findRoster b_Rs_findRoster 6 (some .long) : Cond) ∈ GW := up_4 (List.mem_of_getElem? (i := 2) rfl)
theorem gw_163 : (.fieldLink "WardRoster" 118 "WardRoster" "bestKey" "J" : Cond) ∈ GW := up_4 (List.mem_of_getElem? (i := 3) rfl)
theorem gw_164 : (.fieldLink "WardRoster" 19 "WardRoster" "walk" "LWardRoster$LineWalk;" : Cond) ∈ GW := up_4 (List.mem_of_getElem? (i := 4) rfl)
theorem gw_165 : (.fieldLink "WardRoster" 37 "WardRoster" "noPrices" "[I" : Cond) ∈ GW := up_4 (List.mem_of_getElem? (i := 5) rfl)
theorem gw_166 : (.methodLink "WardRoster" 172 y_Lw_walkLines : Cond) ∈ GW := up_4 (List.mem_of_getElem? (i := 6) rfl)
theorem gw_167 : (.methodLink "WardRoster" 115 y_Wr_findBest : Cond) ∈ GW := up_4 (List.mem_of_getElem? (i := 7) rfl)
theorem gw_168 : (.instanceMethod y_Wr_findBest : Cond) ∈ GW := up_4 (List.mem_of_getElem? (i := 8) rfl)
theorem gw_169 : (.selects "WardRoster" y_Wr_findBest y_Wr_findBest : Cond) ∈ GW := up_4 (List.mem_of_getElem? (i := 9) rfl)
theorem gw_170 : (.code y_Wr_findBest b_Wr_findBest 1 none : Cond) ∈ GW := up_4 (List.mem_of_getElem? (i := 10) rfl)
theorem gw_171 : (.methodLink "WardRoster" 111 y_Wr_weightOf : Cond) ∈ GW := up_4 (List.mem_of_getElem? (i := 11) rfl)
theorem gw_172 : (.methodLink "WardRoster" 156 y_Nu_allowsLine : Cond) ∈ GW := up_4 (List.mem_of_getElem? (i := 12) rfl)
theorem gw_173 : (.instanceMethod y_Nu_allowsLine : Cond) ∈ GW := up_4 (List.mem_of_getElem? (i := 13) rfl)
theorem gw_174 : (.selects "WardRoster$Nurse" y_Nu_allowsLine y_Nu_allowsLine : Cond) ∈ GW := up_4 (List.mem_of_getElem? (i := 14) rfl)
theorem gw_175 : (.code y_Nu_allowsLine b_Nu_allowsLine 5 (some .boolean) : Cond) ∈ GW := up_4 (List.mem_of_getElem? (i := 15) rfl)
theorem gw_176 : (.methodLink "WardRoster" 160 y_Wa_countShort : Cond) ∈ GW := up_4 (List.mem_of_getElem? (i := 16) rfl)
theorem gw_177 : (.fieldLink "WardRosterModel" 66 "WardRosterModel" "thrown" "I" : Cond) ∈ GW := up_4 (List.mem_of_getElem? (i := 17) rfl)
theorem gw_178 : (.fieldLink "WardRosterModel" 80 "WardRosterModel" "solved" "Z" : Cond) ∈ GW := up_4 (List.mem_of_getElem? (i := 18) rfl)
theorem gw_179 : (.fieldLink "WardRosterModel" 83 "WardRosterModel" "rounds" "I" : Cond) ∈ GW := up_4 (List.mem_of_getElem? (i := 19) rfl)
theorem gw_180 : (.fieldLink "WardRosterModel" 86 "WardRosterModel" "bound" "I" : Cond) ∈ GW := up_4 (List.mem_of_getElem? (i := 20) rfl)
theorem gw_181 : (.fieldLink "WardRosterModel" 34 "WardRosterModel" "prices" "[I" : Cond) ∈ GW := up_4 (List.mem_of_getElem? (i := 21) rfl)
theorem gw_182 : (.fieldLink "WardRosterModel" 70 "WardRosterModel" "days" "I" : Cond) ∈ GW := up_4 (List.mem_of_getElem? (i := 22) rfl)
theorem gw_183 : (.fieldLink "WardRosterModel" 7 "WardRosterModel" "forbidden" "[I" : Cond) ∈ GW := up_4 (List.mem_of_getElem? (i := 23) rfl)
theorem gw_184 : (.fieldLink "WardRosterModel" 13 "WardRosterModel" "longest" "[I" : Cond) ∈ GW := up_4 (List.mem_of_getElem? (i := 24) rfl)
theorem gw_185 : (.fieldLink "WardRosterModel" 16 "WardRosterModel" "shiftBefore" "[I" : Cond) ∈ GW := up_4 (List.mem_of_getElem? (i := 25) rfl)
theorem gw_186 : (.fieldLink "WardRosterModel" 19 "WardRosterModel" "workedBefore" "[I" : Cond) ∈ GW := up_4 (List.mem_of_getElem? (i := 26) rfl)
theorem gw_187 : (.fieldLink "WardRosterModel" 22 "WardRosterModel" "needs" "[I" : Cond) ∈ GW := up_4 (List.mem_of_getElem? (i := 27) rfl)
theorem gw_188 : (.fieldLink "WardRosterModel" 25 "WardRosterModel" "costs" "[I" : Cond) ∈ GW := up_4 (List.mem_of_getElem? (i := 28) rfl)
theorem gw_189 : (.fieldLink "WardRosterModel" 28 "WardRosterModel" "pairs" "[I" : Cond) ∈ GW := up_4 (List.mem_of_getElem? (i := 29) rfl)
theorem gw_190 : (.fieldLink "WardRosterModel" 31 "WardRosterModel" "fixed" "[I" : Cond) ∈ GW := up_4 (List.mem_of_getElem? (i := 30) rfl)
theorem gw_191 : (.fieldLink "WardRosterModel" 73 "WardRosterModel" "isPlan" "Z" : Cond) ∈ GW := up_4 (List.mem_of_getElem? (i := 31) rfl)
theorem gw_192 : (.methodLink "WardRosterModel" 77 y_Wm_change : Cond) ∈ GW := up_4 (List.mem_of_getElem? (i := 32) rfl)
theorem gw_193 : (.instanceMethod y_Wm_change : Cond) ∈ GW := up_4 (List.mem_of_getElem? (i := 33) rfl)
theorem gw_194 : (.selects "WardRosterModel" y_Wm_change y_Wm_change : Cond) ∈ GW := up_4 (List.mem_of_getElem? (i := 34) rfl)
theorem gw_195 : (.initialized "WardRosterModel" : Cond) ∈ GW := up_4 (List.mem_of_getElem? (i := 35) rfl)
theorem gw_196 : (.code y_Wm_change b_Wm_change 2 none : Cond) ∈ GW := up_4 (List.mem_of_getElem? (i := 36) rfl)
theorem gw_197 : (.methodLink "WardRosterModel" 62 y_Wm_begin : Cond) ∈ GW := up_4 (List.mem_of_getElem? (i := 37) rfl)
theorem gw_198 : (.instanceMethod y_Wm_begin : Cond) ∈ GW := up_4 (List.mem_of_getElem? (i := 38) rfl)
theorem gw_199 : (.selects "WardRosterModel" y_Wm_begin y_Wm_begin : Cond) ∈ GW := up_4 (List.mem_of_getElem? (i := 39) rfl)
theorem gw_200 : (.code y_Wm_begin b_Wm_begin 3 none : Cond) ∈ GW := up_5 (List.mem_of_getElem? (i := 0) rfl)
theorem gw_201 : (.methodLink "WardRosterModel" 89 y_Wm_noNurse : Cond) ∈ GW := up_5 (List.mem_of_getElem? (i := 1) rfl)
theorem gw_202 : (.static y_Wm_noNurse : Cond) ∈ GW := up_5 (List.mem_of_getElem? (i := 2) rfl)
theorem gw_203 : (.code y_Wm_noNurse b_Wm_noNurse 1 (some .boolean) : Cond) ∈ GW := up_5 (List.mem_of_getElem? (i := 3) rfl)
theorem gw_204 : (.constant "WardRosterModel" 93 65535 : Cond) ∈ GW := up_5 (List.mem_of_getElem? (i := 4) rfl)
theorem gw_205 : (.methodLink "WardRosterModel" 94 y_Wm_noShift : Cond) ∈ GW := up_5 (List.mem_of_getElem? (i := 5) rfl)
theorem gw_206 : (.static y_Wm_noShift : Cond) ∈ GW := up_5 (List.mem_of_getElem? (i := 6) rfl)
theorem gw_207 : (.code y_Wm_noShift b_Wm_noShift 1 (some .boolean) : Cond) ∈ GW := up_5 (List.mem_of_getElem? (i := 7) rfl)
theorem gw_208 : (.methodLink "WardRosterModel" 97 y_Wm_noDay : Cond) ∈ GW := up_5 (List.mem_of_getElem? (i := 8) rfl)
theorem gw_209 : (.instanceMethod y_Wm_noDay : Cond) ∈ GW := up_5 (List.mem_of_getElem? (i := 9) rfl)
theorem gw_210 : (.selects "WardRosterModel" y_Wm_noDay y_Wm_noDay : Cond) ∈ GW := up_5 (List.mem_of_getElem? (i := 10) rfl)
theorem gw_211 : (.code y_Wm_noDay b_Wm_noDay 2 (some .boolean) : Cond) ∈ GW := up_5 (List.mem_of_getElem? (i := 11) rfl)
theorem gw_212 : (.fieldLink "WardRosterModel" 100 "WardRosterModel" "legal" "Z" : Cond) ∈ GW := up_5 (List.mem_of_getElem? (i := 12) rfl)
theorem gw_213 : (.fieldLink "WardRosterModel" 103 "WardRosterModel" "penalty" "I" : Cond) ∈ GW := up_5 (List.mem_of_getElem? (i := 13) rfl)
theorem gw_214 : (.methodLink "WardRosterModel" 106 y_Wm_shiftOf : Cond) ∈ GW := up_5 (List.mem_of_getElem? (i := 14) rfl)
theorem gw_215 : (.instanceMethod y_Wm_shiftOf : Cond) ∈ GW := up_5 (List.mem_of_getElem? (i := 15) rfl)
theorem gw_216 : (.selects "WardRosterModel" y_Wm_shiftOf y_Wm_shiftOf : Cond) ∈ GW := up_5 (List.mem_of_getElem? (i := 16) rfl)
theorem gw_217 : (.code y_Wm_shiftOf b_Wm_shiftOf 3 (some .int) : Cond) ∈ GW := up_5 (List.mem_of_getElem? (i := 17) rfl)
theorem gw_218 : (.methodLink "WardRosterModel" 110 y_Wm_allLines : Cond) ∈ GW := up_5 (List.mem_of_getElem? (i := 18) rfl)
theorem gw_219 : (.instanceMethod y_Wm_allLines : Cond) ∈ GW := up_5 (List.mem_of_getElem? (i := 19) rfl)
theorem gw_220 : (.selects "WardRosterModel" y_Wm_allLines y_Wm_allLines : Cond) ∈ GW := up_5 (List.mem_of_getElem? (i := 20) rfl)
theorem gw_221 : (.code y_Wm_allLines b_Wm_allLines 1 (some .int) : Cond) ∈ GW := up_5 (List.mem_of_getElem? (i := 21) rfl)
theorem gw_222 : (.methodLink "WardRosterModel" 114 y_Wm_walk : Cond) ∈ GW := up_5 (List.mem_of_getElem? (i := 22) rfl)
theorem gw_223 : (.instanceMethod y_Wm_walk : Cond) ∈ GW := up_5 (List.mem_of_getElem? (i := 23) rfl)
theorem gw_224 : (.selects "WardRosterModel" y_Wm_walk y_Wm_walk : Cond) ∈ GW := up_5 (List.mem_of_getElem? (i := 24) rfl)
theorem gw_225 : (.code y_Wm_walk b_Wm_walk 8 none : Cond) ∈ GW := up_5 (List.mem_of_getElem? (i := 25) rfl)
theorem gw_226 : (.methodLink "WardRosterModel" 118 y_Wm_priceOf : Cond) ∈ GW := up_5 (List.mem_of_getElem? (i := 26) rfl)
theorem gw_227 : (.instanceMethod y_Wm_priceOf : Cond) ∈ GW := up_5 (List.mem_of_getElem? (i := 27) rfl)
theorem gw_228 : (.selects "WardRosterModel" y_Wm_priceOf y_Wm_priceOf : Cond) ∈ GW := up_5 (List.mem_of_getElem? (i := 28) rfl)
theorem gw_229 : (.code y_Wm_priceOf b_Wm_priceOf 4 (some .int) : Cond) ∈ GW := up_5 (List.mem_of_getElem? (i := 29) rfl)
theorem gw_230 : (.fieldLink "WardRosterModel" 49 "WardRosterModel" "after" "[I" : Cond) ∈ GW := up_5 (List.mem_of_getElem? (i := 30) rfl)
theorem gw_231 : (.fieldLink "WardRosterModel" 52 "WardRosterModel" "weight" "[I" : Cond) ∈ GW := up_5 (List.mem_of_getElem? (i := 31) rfl)
theorem gw_232 : (.fieldLink "WardRosterModel" 122 "WardRosterModel" "repairs" "Z" : Cond) ∈ GW := up_5 (List.mem_of_getElem? (i := 32) rfl)
theorem gw_233 : (.fieldLink "WardRosterModel" 43 "WardRosterModel" "plan" "[I" : Cond) ∈ GW := up_5 (List.mem_of_getElem? (i := 33) rfl)
theorem gw_234 : (.constant "WardRosterModel" 125 100000 : Cond) ∈ GW := up_5 (List.mem_of_getElem? (i := 34) rfl)
theorem gw_235 : (.fieldLink "WardRosterModel" 55 "WardRosterModel" "covers" "[Z" : Cond) ∈ GW := up_5 (List.mem_of_getElem? (i := 35) rfl)
theorem gw_236 : (.constant "WardRosterModel" 126 1000000000 : Cond) ∈ GW := up_5 (List.mem_of_getElem? (i := 36) rfl)
theorem gw_237 : (.fieldLink "WardRosterModel" 46 "WardRosterModel" "rest" "[I" : Cond) ∈ GW := up_5 (List.mem_of_getElem? (i := 37) rfl)
theorem gw_238 : (.methodLink "WardRosterModel" 127 y_Wm_prepare : Cond) ∈ GW := up_5 (List.mem_of_getElem? (i := 38) rfl)
theorem gw_239 : (.instanceMethod y_Wm_prepare : Cond) ∈ GW := up_5 (List.mem_of_getElem? (i := 39) rfl)
theorem gw_240 : (.selects "WardRosterModel" y_Wm_prepare y_Wm_prepare : Cond) ∈ GW := up_6 (List.mem_of_getElem? (i := 0) rfl)
theorem gw_241 : (.code y_Wm_prepare b_Wm_prepare 11 none : Cond) ∈ GW := up_6 (List.mem_of_getElem? (i := 1) rfl)
theorem gw_242 : (.methodLink "WardRosterModel" 130 y_Wm_startState : Cond) ∈ GW := up_6 (List.mem_of_getElem? (i := 2) rfl)
theorem gw_243 : (.instanceMethod y_Wm_startState : Cond) ∈ GW := up_6 (List.mem_of_getElem? (i := 3) rfl)
theorem gw_244 : (.selects "WardRosterModel" y_Wm_startState y_Wm_startState : Cond) ∈ GW := up_6 (List.mem_of_getElem? (i := 4) rfl)
theorem gw_245 : (.code y_Wm_startState b_Wm_startState 3 (some .int) : Cond) ∈ GW := up_6 (List.mem_of_getElem? (i := 5) rfl)
theorem gw_246 : (.methodLink "WardRosterModel" 137 y_Wm_lightest : Cond) ∈ GW := up_6 (List.mem_of_getElem? (i := 6) rfl)
theorem gw_247 : (.instanceMethod y_Wm_lightest : Cond) ∈ GW := up_6 (List.mem_of_getElem? (i := 7) rfl)
theorem gw_248 : (.selects "WardRosterModel" y_Wm_lightest y_Wm_lightest : Cond) ∈ GW := up_6 (List.mem_of_getElem? (i := 8) rfl)
theorem gw_249 : (.code y_Wm_lightest b_Wm_lightest 15 (some .int) : Cond) ∈ GW := up_6 (List.mem_of_getElem? (i := 9) rfl)
theorem gw_250 : (.methodLink "WardRosterModel" 133 y_Wm_isUsual : Cond) ∈ GW := up_6 (List.mem_of_getElem? (i := 10) rfl)
theorem gw_251 : (.instanceMethod y_Wm_isUsual : Cond) ∈ GW := up_6 (List.mem_of_getElem? (i := 11) rfl)
theorem gw_252 : (.selects "WardRosterModel" y_Wm_isUsual y_Wm_isUsual : Cond) ∈ GW := up_6 (List.mem_of_getElem? (i := 12) rfl)
theorem gw_253 : (.code y_Wm_isUsual b_Wm_isUsual 3 (some .boolean) : Cond) ∈ GW := up_6 (List.mem_of_getElem? (i := 13) rfl)
theorem gw_254 : (.methodLink "WardRosterModel" 141 y_Wm_goBack : Cond) ∈ GW := up_6 (List.mem_of_getElem? (i := 14) rfl)
theorem gw_255 : (.instanceMethod y_Wm_goBack : Cond) ∈ GW := up_6 (List.mem_of_getElem? (i := 15) rfl)
theorem gw_256 : (.selects "WardRosterModel" y_Wm_goBack y_Wm_goBack : Cond) ∈ GW := up_6 (List.mem_of_getElem? (i := 16) rfl)
theorem gw_257 : (.code y_Wm_goBack b_Wm_goBack 6 none : Cond) ∈ GW := up_6 (List.mem_of_getElem? (i := 17) rfl)
theorem gw_258 : (.methodLink "WardRosterModel" 144 y_Wm_weigh : Cond) ∈ GW := up_6 (List.mem_of_getElem? (i := 18) rfl)
theorem gw_259 : (.instanceMethod y_Wm_weigh : Cond) ∈ GW := up_6 (List.mem_of_getElem? (i := 19) rfl)
theorem gw_260 : (.selects "WardRosterModel" y_Wm_weigh y_Wm_weigh : Cond) ∈ GW := up_6 (List.mem_of_getElem? (i := 20) rfl)
theorem gw_261 : (.code y_Wm_weigh b_Wm_weigh 8 (some .int) : Cond) ∈ GW := up_6 (List.mem_of_getElem? (i := 21) rfl)
theorem gw_262 : (.fieldLink "WardRosterModel" 59 "WardRosterModel" "found" "[I" : Cond) ∈ GW := up_6 (List.mem_of_getElem? (i := 22) rfl)
theorem gw_263 : (.methodLink "WardRosterModel" 148 y_Wm_find : Cond) ∈ GW := up_6 (List.mem_of_getElem? (i := 23) rfl)
theorem gw_264 : (.instanceMethod y_Wm_find : Cond) ∈ GW := up_6 (List.mem_of_getElem? (i := 24) rfl)
theorem gw_265 : (.selects "WardRosterModel" y_Wm_find y_Wm_find : Cond) ∈ GW := up_6 (List.mem_of_getElem? (i := 25) rfl)
theorem gw_266 : (.code y_Wm_find b_Wm_find 5 (some .int) : Cond) ∈ GW := up_6 (List.mem_of_getElem? (i := 26) rfl)
theorem gw_267 : (.fieldLink "WardRosterModel" 151 "WardRosterModel" "least" "I" : Cond) ∈ GW := up_6 (List.mem_of_getElem? (i := 27) rfl)
theorem gw_268 : (.fieldLink "WardRosterModel" 40 "WardRosterModel" "best" "[I" : Cond) ∈ GW := up_6 (List.mem_of_getElem? (i := 28) rfl)
theorem gw_269 : (.methodLink "WardRosterModel" 154 y_Wm_solve : Cond) ∈ GW := up_6 (List.mem_of_getElem? (i := 29) rfl)
theorem gw_270 : (.instanceMethod y_Wm_solve : Cond) ∈ GW := up_6 (List.mem_of_getElem? (i := 30) rfl)
theorem gw_271 : (.selects "WardRosterModel" y_Wm_solve y_Wm_solve : Cond) ∈ GW := up_6 (List.mem_of_getElem? (i := 31) rfl)
theorem gw_272 : (.code y_Wm_solve b_Wm_solve 2 none : Cond) ∈ GW := up_6 (List.mem_of_getElem? (i := 32) rfl)
theorem gw_273 : (.fieldLink "WardRosterModel" 37 "WardRosterModel" "counts" "[I" : Cond) ∈ GW := up_6 (List.mem_of_getElem? (i := 33) rfl)
theorem gw_274 : (.methodLink "WardRosterModel" 157 y_Wm_pricedLine : Cond) ∈ GW := up_6 (List.mem_of_getElem? (i := 34) rfl)
theorem gw_275 : (.instanceMethod y_Wm_pricedLine : Cond) ∈ GW := up_6 (List.mem_of_getElem? (i := 35) rfl)
theorem gw_276 : (.selects "WardRosterModel" y_Wm_pricedLine y_Wm_pricedLine : Cond) ∈ GW := up_6 (List.mem_of_getElem? (i := 36) rfl)
theorem gw_277 : (.code y_Wm_pricedLine b_Wm_pricedLine 6 (some .int) : Cond) ∈ GW := up_6 (List.mem_of_getElem? (i := 37) rfl)
theorem gw_278 : (.methodLink "WardRosterModel" 160 y_Wm_round : Cond) ∈ GW := up_6 (List.mem_of_getElem? (i := 38) rfl)
theorem gw_279 : (.instanceMethod y_Wm_round : Cond) ∈ GW := up_6 (List.mem_of_getElem? (i := 39) rfl)
theorem gw_280 : (.selects "WardRosterModel" y_Wm_round y_Wm_round : Cond) ∈ GW := up_7 (List.mem_of_getElem? (i := 0) rfl)
theorem gw_281 : (.code y_Wm_round b_Wm_round 5 none : Cond) ∈ GW := up_7 (List.mem_of_getElem? (i := 1) rfl)
theorem gw_282 : (.methodLink "WardRosterModel" 163 y_Wm_takeUp : Cond) ∈ GW := up_7 (List.mem_of_getElem? (i := 2) rfl)
theorem gw_283 : (.instanceMethod y_Wm_takeUp : Cond) ∈ GW := up_7 (List.mem_of_getElem? (i := 3) rfl)
theorem gw_284 : (.selects "WardRosterModel" y_Wm_takeUp y_Wm_takeUp : Cond) ∈ GW := up_7 (List.mem_of_getElem? (i := 4) rfl)
theorem gw_285 : (.code y_Wm_takeUp b_Wm_takeUp 2 none : Cond) ∈ GW := up_7 (List.mem_of_getElem? (i := 5) rfl)
theorem gw_286 : (.methodLink "WardRoster" 101 y_Wr_walkUnpriced : Cond) ∈ GW := up_7 (List.mem_of_getElem? (i := 6) rfl)
theorem gw_287 : (.instanceMethod y_Wr_walkUnpriced : Cond) ∈ GW := up_7 (List.mem_of_getElem? (i := 7) rfl)
theorem gw_288 : (.selects "WardRoster" y_Wr_walkUnpriced y_Wr_walkUnpriced : Cond) ∈ GW := up_7 (List.mem_of_getElem? (i := 8) rfl)
theorem gw_289 : (.code y_Wr_walkUnpriced b_Wr_walkUnpriced 2 (some .long) : Cond) ∈ GW := up_7 (List.mem_of_getElem? (i := 9) rfl)
theorem gw_290 : (.methodLink "WardRoster" 45 y_Wr_requireValue : Cond) ∈ GW := up_7 (List.mem_of_getElem? (i := 10) rfl)
theorem gw_291 : (.static y_Wr_requireValue : Cond) ∈ GW := up_7 (List.mem_of_getElem? (i := 11) rfl)
theorem gw_292 : (.code y_Wr_requireValue b_Wr_requireValue 3 none : Cond) ∈ GW := up_7 (List.mem_of_getElem? (i := 12) rfl)
theorem gw_293 : (.methodLink "WardRoster" 41 y_Wr_startWard : Cond) ∈ GW := up_7 (List.mem_of_getElem? (i := 13) rfl)
theorem gw_294 : (.instanceMethod y_Wr_startWard : Cond) ∈ GW := up_7 (List.mem_of_getElem? (i := 14) rfl)
theorem gw_295 : (.selects "WardRoster" y_Wr_startWard y_Wr_startWard : Cond) ∈ GW := up_7 (List.mem_of_getElem? (i := 15) rfl)
theorem gw_296 : (.code y_Wr_startWard b_Wr_startWard 2 none : Cond) ∈ GW := up_7 (List.mem_of_getElem? (i := 16) rfl)
theorem gw_297 : (.methodLink "WardRoster" 49 y_Wr_requireNurse : Cond) ∈ GW := up_7 (List.mem_of_getElem? (i := 17) rfl)
theorem gw_298 : (.static y_Wr_requireNurse : Cond) ∈ GW := up_7 (List.mem_of_getElem? (i := 18) rfl)
theorem gw_299 : (.code y_Wr_requireNurse b_Wr_requireNurse 1 none : Cond) ∈ GW := up_7 (List.mem_of_getElem? (i := 19) rfl)
theorem gw_300 : (.constant "WardRoster" 52 65535 : Cond) ∈ GW := up_7 (List.mem_of_getElem? (i := 20) rfl)
theorem gw_301 : (.methodLink "WardRoster" 69 y_Wr_stateOf : Cond) ∈ GW := up_7 (List.mem_of_getElem? (i := 21) rfl)
theorem gw_302 : (.methodLink "WardRoster" 76 y_Wr_requireDay : Cond) ∈ GW := up_7 (List.mem_of_getElem? (i := 22) rfl)
theorem gw_303 : (.instanceMethod y_Wr_requireDay : Cond) ∈ GW := up_7 (List.mem_of_getElem? (i := 23) rfl)
theorem gw_304 : (.selects "WardRoster" y_Wr_requireDay y_Wr_requireDay : Cond) ∈ GW := up_7 (List.mem_of_getElem? (i := 24) rfl)
theorem gw_305 : (.code y_Wr_requireDay b_Wr_requireDay 2 none : Cond) ∈ GW := up_7 (List.mem_of_getElem? (i := 25) rfl)
theorem gw_306 : (.methodLink "WardRoster" 79 y_Wr_requireShift : Cond) ∈ GW := up_7 (List.mem_of_getElem? (i := 26) rfl)
theorem gw_307 : (.static y_Wr_requireShift : Cond) ∈ GW := up_7 (List.mem_of_getElem? (i := 27) rfl)
theorem gw_308 : (.code y_Wr_requireShift b_Wr_requireShift 2 none : Cond) ∈ GW := up_7 (List.mem_of_getElem? (i := 28) rfl)
theorem gw_309 : (.methodLink "WardRoster" 86 y_Wr_cell : Cond) ∈ GW := up_7 (List.mem_of_getElem? (i := 29) rfl)
theorem gw_310 : (.methodLink "WardRoster" 105 y_Lw_countLines : Cond) ∈ GW := up_7 (List.mem_of_getElem? (i := 30) rfl)
theorem gw_311 : (.instanceMethod y_Lw_countLines : Cond) ∈ GW := up_7 (List.mem_of_getElem? (i := 31) rfl)
theorem gw_312 : (.selects "WardRoster$LineWalk" y_Lw_countLines y_Lw_countLines : Cond) ∈ GW := up_7 (List.mem_of_getElem? (i := 32) rfl)
theorem gw_313 : (.code y_Lw_countLines b_Lw_countLines 3 (some .int) : Cond) ∈ GW := up_7 (List.mem_of_getElem? (i := 33) rfl)
theorem gw_314 : (.methodLink "WardRoster" 122 y_Wr_requireRoster : Cond) ∈ GW := up_7 (List.mem_of_getElem? (i := 34) rfl)
theorem gw_315 : (.static y_Wr_requireRoster : Cond) ∈ GW := up_7 (List.mem_of_getElem? (i := 35) rfl)
theorem gw_316 : (.code y_Wr_requireRoster b_Wr_requireRoster 2 none : Cond) ∈ GW := up_7 (List.mem_of_getElem? (i := 36) rfl)
theorem gw_317 : (.methodLink "WardRoster" 126 y_Wr_placeBit : Cond) ∈ GW := up_7 (List.mem_of_getElem? (i := 37) rfl)
theorem gw_318 : (.methodLink "WardRoster" 129 y_Wr_shiftAt : Cond) ∈ GW := up_7 (List.mem_of_getElem? (i := 38) rfl)
theorem gw_319 : (.methodLink "WardRoster" 133 y_Wr_requireLines : Cond) ∈ GW := up_7 (List.mem_of_getElem? (i := 39) rfl)
theorem gw_320 : (.instanceMethod y_Wr_requireLines : Cond) ∈ GW := up_8 (List.mem_of_getElem? (i := 0) rfl)
theorem gw_321 : (.selects "WardRoster" y_Wr_requireLines y_Wr_requireLines : Cond) ∈ GW := up_8 (List.mem_of_getElem? (i := 1) rfl)
theorem gw_322 : (.code y_Wr_requireLines b_Wr_requireLines 2 none : Cond) ∈ GW := up_8 (List.mem_of_getElem? (i := 2) rfl)
theorem gw_323 : (.methodLink "WardRoster" 136 y_Pr_playRound : Cond) ∈ GW := up_8 (List.mem_of_getElem? (i := 3) rfl)
theorem gw_324 : (.instanceMethod y_Pr_playRound : Cond) ∈ GW := up_8 (List.mem_of_getElem? (i := 4) rfl)
theorem gw_325 : (.selects "WardRoster$Pricing" y_Pr_playRound y_Pr_playRound : Cond) ∈ GW := up_8 (List.mem_of_getElem? (i := 5) rfl)
theorem gw_326 : (.code y_Pr_playRound b_Pr_playRound 6 none : Cond) ∈ GW := up_8 (List.mem_of_getElem? (i := 6) rfl)
theorem gw_327 : (.methodLink "WardRoster" 149 y_Wr_requirePlan : Cond) ∈ GW := up_8 (List.mem_of_getElem? (i := 7) rfl)
theorem gw_328 : (.instanceMethod y_Wr_requirePlan : Cond) ∈ GW := up_8 (List.mem_of_getElem? (i := 8) rfl)
theorem gw_329 : (.selects "WardRoster" y_Wr_requirePlan y_Wr_requirePlan : Cond) ∈ GW := up_8 (List.mem_of_getElem? (i := 9) rfl)
theorem gw_330 : (.code y_Wr_requirePlan b_Wr_requirePlan 1 none : Cond) ∈ GW := up_8 (List.mem_of_getElem? (i := 10) rfl)
theorem gw_331 : (.methodLink "WardRoster$Nurse" 3 objectInit : Cond) ∈ GW := up_8 (List.mem_of_getElem? (i := 11) rfl)
theorem gw_332 : (.instanceMethod objectInit : Cond) ∈ GW := up_8 (List.mem_of_getElem? (i := 12) rfl)
theorem gw_333 : (.code objectInit ⟨#[0xb1]⟩ 1 none : Cond) ∈ GW := up_8 (List.mem_of_getElem? (i := 13) rfl)
theorem gw_334 : (.arrayClass .int : Cond) ∈ GW := up_8 (List.mem_of_getElem? (i := 14) rfl)
theorem gw_335 : (.methodLink "WardRoster$Ward" 3 objectInit : Cond) ∈ GW := up_8 (List.mem_of_getElem? (i := 15) rfl)
theorem gw_336 : (.classLink "WardRoster$Ward" 9 "WardRoster$Nurse" : Cond) ∈ GW := up_8 (List.mem_of_getElem? (i := 16) rfl)
theorem gw_337 : (.instantiable "WardRoster$Nurse" 8 : Cond) ∈ GW := up_8 (List.mem_of_getElem? (i := 17) rfl)
theorem gw_338 : (.code y_Nu_init b_Nu_init 2 none : Cond) ∈ GW := up_8 (List.mem_of_getElem? (i := 18) rfl)
theorem gw_339 : (.methodLink "WardRoster$Ward" 11 y_Nu_init : Cond) ∈ GW := up_8 (List.mem_of_getElem? (i := 19) rfl)
theorem gw_340 : (.instanceMethod y_Nu_init : Cond) ∈ GW := up_8 (List.mem_of_getElem? (i := 20) rfl)
theorem gw_341 : (.methodLink "WardRoster$LineWalk" 3 objectInit : Cond) ∈ GW := up_8 (List.mem_of_getElem? (i := 21) rfl)
theorem gw_342 : (.arrayClass .long : Cond) ∈ GW := up_8 (List.mem_of_getElem? (i := 22) rfl)
theorem gw_343 : (.methodLink "WardRoster$RosterSearch" 3 objectInit : Cond) ∈ GW := up_8 (List.mem_of_getElem? (i := 23) rfl)
theorem gw_344 : (.methodLink "WardRoster$Pricing" 3 objectInit : Cond) ∈ GW := up_8 (List.mem_of_getElem? (i := 24) rfl)
theorem gw_345 : (.methodLink "WardRoster" 3 objectInit : Cond) ∈ GW := up_8 (List.mem_of_getElem? (i := 25) rfl)
theorem gw_346 : (.classLink "WardRoster" 9 "WardRoster$Ward" : Cond) ∈ GW := up_8 (List.mem_of_getElem? (i := 26) rfl)
theorem gw_347 : (.instantiable "WardRoster$Ward" 3 : Cond) ∈ GW := up_8 (List.mem_of_getElem? (i := 27) rfl)
theorem gw_348 : (.code y_Wa_init b_Wa_init 1 none : Cond) ∈ GW := up_8 (List.mem_of_getElem? (i := 28) rfl)
theorem gw_349 : (.instanceMethod y_Wa_init : Cond) ∈ GW := up_8 (List.mem_of_getElem? (i := 29) rfl)
theorem gw_350 : (.classLink "WardRoster" 16 "WardRoster$LineWalk" : Cond) ∈ GW := up_8 (List.mem_of_getElem? (i := 30) rfl)
theorem gw_351 : (.instantiable "WardRoster$LineWalk" 4 : Cond) ∈ GW := up_8 (List.mem_of_getElem? (i := 31) rfl)
theorem gw_352 : (.code y_Lw_init b_Lw_init 1 none : Cond) ∈ GW := up_8 (List.mem_of_getElem? (i := 32) rfl)
theorem gw_353 : (.instanceMethod y_Lw_init : Cond) ∈ GW := up_8 (List.mem_of_getElem? (i := 33) rfl)
theorem gw_354 : (.classLink "WardRoster" 23 "WardRoster$RosterSearch" : Cond) ∈ GW := up_8 (List.mem_of_getElem? (i := 34) rfl)
theorem gw_355 : (.instantiable "WardRoster$RosterSearch" 4 : Cond) ∈ GW := up_8 (List.mem_of_getElem? (i := 35) rfl)
theorem gw_356 : (.code y_Rs_init b_Rs_init 1 none : Cond) ∈ GW := up_8 (List.mem_of_getElem? (i := 36) rfl)
theorem gw_357 : (.instanceMethod y_Rs_init : Cond) ∈ GW := up_8 (List.mem_of_getElem? (i := 37) rfl)
theorem gw_358 : (.classLink "WardRoster" 30 "WardRoster$Pricing" : Cond) ∈ GW := up_8 (List.mem_of_getElem? (i := 38) rfl)
theorem gw_359 : (.instantiable "WardRoster$Pricing" 3 : Cond) ∈ GW := up_8 (List.mem_of_getElem? (i := 39) rfl)
theorem gw_360 : (.code y_Pr_init b_Pr_init 1 none : Cond) ∈ GW := up_9 (List.mem_of_getElem? (i := 0) rfl)
theorem gw_361 : (.instanceMethod y_Pr_init : Cond) ∈ GW := up_9 (List.mem_of_getElem? (i := 1) rfl)
theorem gw_362 : (.methodLink "WardRosterModel" 1 objectInit : Cond) ∈ GW := up_9 (List.mem_of_getElem? (i := 2) rfl)
theorem gw_363 : (.arrayClass .boolean : Cond) ∈ GW := up_9 (List.mem_of_getElem? (i := 3) rfl)
def NWL : List Cond := [.methodLinkNest "WardRoster$Nurse" 43 y_Wr_shiftOf "WardRoster", .methodLinkNest "WardRoster$Nurse" 47 y_Wr_cell "WardRoster", .methodLinkNest "WardRoster$Nurse" 51 y_Wr_workedOf "WardRoster", .methodLinkNest "WardRoster$Nurse" 54 y_Wr_stateOf "WardRoster", .methodLinkNest "WardRoster$Nurse" 57 y_Wr_placeBit "WardRoster", .methodLinkNest "WardRoster$Nurse" 60 y_Wr_shiftAt "WardRoster", .methodLinkNest "WardRoster$Ward" 41 y_Wr_cell "WardRoster", .methodLinkNest "WardRoster$Ward" 45 y_Wr_placeBit "WardRoster", .methodLinkNest "WardRoster$Ward" 48 y_Wr_shiftAt "WardRoster", .fieldLinkNest "WardRoster$LineWalk" 56 "WardRoster$Nurse" "number" "I" "WardRoster", .methodLinkNest "WardRoster$LineWalk" 59 y_Wr_placeBit "WardRoster", .methodLinkNest "WardRoster$LineWalk" 70 y_Wr_cell "WardRoster", .methodLinkNest "WardRoster$LineWalk" 73 y_Wr_stepKey "WardRoster", .fieldLinkNest "WardRoster$LineWalk" 36 "WardRoster$Nurse" "start" "I" "WardRoster", .fieldLinkNest "WardRoster$LineWalk" 42 "WardRoster$Nurse" "dayCount" "I" "WardRoster", .methodLinkNest "WardRoster$LineWalk" 52 y_Wr_leastOf "WardRoster", .fieldLinkNest "WardRoster$RosterSearch" 43 "WardRoster$Ward" "nurses" "[LWardRoster$Nurse;" "WardRoster", .fieldLinkNest "WardRoster$RosterSearch" 67 "WardRoster$Nurse" "start" "I" "WardRoster", .fieldLinkNest "WardRoster$RosterSearch" 72 "WardRoster$Nurse" "number" "I" "WardRoster", .methodLinkNest "WardRoster$RosterSearch" 75 y_Wr_placeBit "WardRoster", .methodLinkNest "WardRoster$RosterSearch" 87 y_Wr_cell "WardRoster", .methodLinkNest "WardRoster$RosterSearch" 93 y_Wr_stepKey "WardRoster", .methodLinkNest "WardRoster$RosterSearch" 79 y_Wr_shiftAt "WardRoster", .fieldLinkNest "WardRoster$RosterSearch" 37 "WardRoster$Ward" "dayCount" "I" "WardRoster", .methodLinkNest "WardRoster$RosterSearch" 59 y_Wr_leastOf "WardRoster", .fieldLinkNest "WardRoster$Pricing" 58 "WardRoster$Ward" "needed" "[I" "WardRoster", .fieldLinkNest "WardRoster$Pricing" 65 "WardRoster$Ward" "dayCount" "I" "WardRoster", .methodLinkNest "WardRoster$Pricing" 72 y_Wr_cell "WardRoster", .fieldLinkNest "WardRoster$Pricing" 28 "WardRoster$Ward" "nurses" "[LWardRoster$Nurse;" "WardRoster", .methodLinkNest "WardRoster$Pricing" 40 y_Wr_weightOf "WardRoster", .fieldLinkNest "WardRoster" 53 "WardRoster$Ward" "nurses" "[LWardRoster$Nurse;" "WardRoster", .fieldLinkNest "WardRoster" 98 "WardRoster$Ward" "dayCount" "I" "WardRoster", .fieldLinkNest "WardRoster" 140 "WardRoster$Pricing" "greatestLimit" "I" "WardRoster", .fieldLinkNest "WardRoster" 57 "WardRoster$Nurse" "forbidden" "I" "WardRoster", .fieldLinkNest "WardRoster" 63 "WardRoster$Nurse" "longest" "I" "WardRoster", .fieldLinkNest "WardRoster" 73 "WardRoster$Nurse" "start" "I" "WardRoster", .fieldLinkNest "WardRoster" 83 "WardRoster$Ward" "needed" "[I" "WardRoster", .fieldLinkNest "WardRoster" 89 "WardRoster$Nurse" "shiftCosts" "[I" "WardRoster", .fieldLinkNest "WardRoster" 92 "WardRoster$Nurse" "pairCosts" "[I" "WardRoster", .fieldLinkNest "WardRoster" 95 "WardRoster$Nurse" "fixedShifts" "[I" "WardRoster", .fieldLinkNest "WardRoster" 143 "WardRoster$Pricing" "prices" "[I" "WardRoster", .arrayOver (.object "WardRoster$Nurse"), .methodLinkNest "WardRoster" 11 y_Wa_init "WardRoster", .methodLinkNest "WardRoster" 18 y_Lw_init "WardRoster", .methodLinkNest "WardRoster" 25 y_Rs_init "WardRoster", .methodLinkNest "WardRoster" 32 y_Pr_init "WardRoster"]
theorem nw_0 : (.methodLinkNest "WardRoster$Nurse" 43 y_Wr_shiftOf "WardRoster" : Cond) ∈ NWL := List.mem_of_getElem? (i := 0) rfl
theorem nw_1 : (.methodLinkNest "WardRoster$Nurse" 47 y_Wr_cell "WardRoster" : Cond) ∈ NWL := List.mem_of_getElem? (i := 1) rfl
theorem nw_2 : (.methodLinkNest "WardRoster$Nurse" 51 y_Wr_workedOf "WardRoster" : Cond) ∈ NWL := List.mem_of_getElem? (i := 2) rfl
theorem nw_3 : (.methodLinkNest "WardRoster$Nurse" 54 y_Wr_stateOf "WardRoster" : Cond) ∈ NWL := List.mem_of_getElem? (i := 3) rfl
theorem nw_4 : (.methodLinkNest "WardRoster$Nurse" 57 y_Wr_placeBit "WardRoster" : Cond) ∈ NWL := List.mem_of_getElem? (i := 4) rfl
theorem nw_5 : (.methodLinkNest "WardRoster$Nurse" 60 y_Wr_shiftAt "WardRoster" : Cond) ∈ NWL := List.mem_of_getElem? (i := 5) rfl
theorem nw_6 : (.methodLinkNest "WardRoster$Ward" 41 y_Wr_cell "WardRoster" : Cond) ∈ NWL := List.mem_of_getElem? (i := 6) rfl
theorem nw_7 : (.methodLinkNest "WardRoster$Ward" 45 y_Wr_placeBit "WardRoster" : Cond) ∈ NWL := List.mem_of_getElem? (i := 7) rfl
theorem nw_8 : (.methodLinkNest "WardRoster$Ward" 48 y_Wr_shiftAt "WardRoster" : Cond) ∈ NWL := List.mem_of_getElem? (i := 8) rfl
theorem nw_9 : (.fieldLinkNest "WardRoster$LineWalk" 56 "WardRoster$Nurse" "number" "I" "WardRoster" : Cond) ∈ NWL := List.mem_of_getElem? (i := 9) rfl
theorem nw_10 : (.methodLinkNest "WardRoster$LineWalk" 59 y_Wr_placeBit "WardRoster" : Cond) ∈ NWL := List.mem_of_getElem? (i := 10) rfl
theorem nw_11 : (.methodLinkNest "WardRoster$LineWalk" 70 y_Wr_cell "WardRoster" : Cond) ∈ NWL := List.mem_of_getElem? (i := 11) rfl
theorem nw_12 : (.methodLinkNest "WardRoster$LineWalk" 73 y_Wr_stepKey "WardRoster" : Cond) ∈ NWL := List.mem_of_getElem? (i := 12) rfl
theorem nw_13 : (.fieldLinkNest "WardRoster$LineWalk" 36 "WardRoster$Nurse" "start" "I" "WardRoster" : Cond) ∈ NWL := List.mem_of_getElem? (i := 13) rfl
theorem nw_14 : (.fieldLinkNest "WardRoster$LineWalk" 42 "WardRoster$Nurse" "dayCount" "I" "WardRoster" : Cond) ∈ NWL := List.mem_of_getElem? (i := 14) rfl
theorem nw_15 : (.methodLinkNest "WardRoster$LineWalk" 52 y_Wr_leastOf "WardRoster" : Cond) ∈ NWL := List.mem_of_getElem? (i := 15) rfl
theorem nw_16 : (.fieldLinkNest "WardRoster$RosterSearch" 43 "WardRoster$Ward" "nurses" "[LWardRoster$Nurse;" "WardRoster" : Cond) ∈ NWL := List.mem_of_getElem? (i := 16) rfl
theorem nw_17 : (.fieldLinkNest "WardRoster$RosterSearch" 67 "WardRoster$Nurse" "start" "I" "WardRoster" : Cond) ∈ NWL := List.mem_of_getElem? (i := 17) rfl
theorem nw_18 : (.fieldLinkNest "WardRoster$RosterSearch" 72 "WardRoster$Nurse" "number" "I" "WardRoster" : Cond) ∈ NWL := List.mem_of_getElem? (i := 18) rfl
theorem nw_19 : (.methodLinkNest "WardRoster$RosterSearch" 75 y_Wr_placeBit "WardRoster" : Cond) ∈ NWL := List.mem_of_getElem? (i := 19) rfl
theorem nw_20 : (.methodLinkNest "WardRoster$RosterSearch" 87 y_Wr_cell "WardRoster" : Cond) ∈ NWL := List.mem_of_getElem? (i := 20) rfl
theorem nw_21 : (.methodLinkNest "WardRoster$RosterSearch" 93 y_Wr_stepKey "WardRoster" : Cond) ∈ NWL := List.mem_of_getElem? (i := 21) rfl
theorem nw_22 : (.methodLinkNest "WardRoster$RosterSearch" 79 y_Wr_shiftAt "WardRoster" : Cond) ∈ NWL := List.mem_of_getElem? (i := 22) rfl
theorem nw_23 : (.fieldLinkNest "WardRoster$RosterSearch" 37 "WardRoster$Ward" "dayCount" "I" "WardRoster" : Cond) ∈ NWL := List.mem_of_getElem? (i := 23) rfl
theorem nw_24 : (.methodLinkNest "WardRoster$RosterSearch" 59 y_Wr_leastOf "WardRoster" : Cond) ∈ NWL := List.mem_of_getElem? (i := 24) rfl
theorem nw_25 : (.fieldLinkNest "WardRoster$Pricing" 58 "WardRoster$Ward" "needed" "[I" "WardRoster" : Cond) ∈ NWL := List.mem_of_getElem? (i := 25) rfl
theorem nw_26 : (.fieldLinkNest "WardRoster$Pricing" 65 "WardRoster$Ward" "dayCount" "I" "WardRoster" : Cond) ∈ NWL := List.mem_of_getElem? (i := 26) rfl
theorem nw_27 : (.methodLinkNest "WardRoster$Pricing" 72 y_Wr_cell "WardRoster" : Cond) ∈ NWL := List.mem_of_getElem? (i := 27) rfl
theorem nw_28 : (.fieldLinkNest "WardRoster$Pricing" 28 "WardRoster$Ward" "nurses" "[LWardRoster$Nurse;" "WardRoster" : Cond) ∈ NWL := List.mem_of_getElem? (i := 28) rfl
theorem nw_29 : (.methodLinkNest "WardRoster$Pricing" 40 y_Wr_weightOf "WardRoster" : Cond) ∈ NWL := List.mem_of_getElem? (i := 29) rfl
theorem nw_30 : (.fieldLinkNest "WardRoster" 53 "WardRoster$Ward" "nurses" "[LWardRoster$Nurse;" "WardRoster" : Cond) ∈ NWL := List.mem_of_getElem? (i := 30) rfl
theorem nw_31 : (.fieldLinkNest "WardRoster" 98 "WardRoster$Ward" "dayCount" "I" "WardRoster" : Cond) ∈ NWL := List.mem_of_getElem? (i := 31) rfl
theorem nw_32 : (.fieldLinkNest "WardRoster" 140 "WardRoster$Pricing" "greatestLimit" "I" "WardRoster" : Cond) ∈ NWL := List.mem_of_getElem? (i := 32) rfl
theorem nw_33 : (.fieldLinkNest "WardRoster" 57 "WardRoster$Nurse" "forbidden" "I" "WardRoster" : Cond) ∈ NWL := List.mem_of_getElem? (i := 33) rfl
theorem nw_34 : (.fieldLinkNest "WardRoster" 63 "WardRoster$Nurse" "longest" "I" "WardRoster" : Cond) ∈ NWL := List.mem_of_getElem? (i := 34) rfl
theorem nw_35 : (.fieldLinkNest "WardRoster" 73 "WardRoster$Nurse" "start" "I" "WardRoster" : Cond) ∈ NWL := List.mem_of_getElem? (i := 35) rfl
theorem nw_36 : (.fieldLinkNest "WardRoster" 83 "WardRoster$Ward" "needed" "[I" "WardRoster" : Cond) ∈ NWL := List.mem_of_getElem? (i := 36) rfl
theorem nw_37 : (.fieldLinkNest "WardRoster" 89 "WardRoster$Nurse" "shiftCosts" "[I" "WardRoster" : Cond) ∈ NWL := List.mem_of_getElem? (i := 37) rfl
theorem nw_38 : (.fieldLinkNest "WardRoster" 92 "WardRoster$Nurse" "pairCosts" "[I" "WardRoster" : Cond) ∈ NWL := List.mem_of_getElem? (i := 38) rfl
theorem nw_39 : (.fieldLinkNest "WardRoster" 95 "WardRoster$Nurse" "fixedShifts" "[I" "WardRoster" : Cond) ∈ NWL := List.mem_of_getElem? (i := 39) rfl
theorem nw_40 : (.fieldLinkNest "WardRoster" 143 "WardRoster$Pricing" "prices" "[I" "WardRoster" : Cond) ∈ NWL := List.mem_of_getElem? (i := 40) rfl
theorem nw_41 : (.arrayOver (.object "WardRoster$Nurse") : Cond) ∈ NWL := List.mem_of_getElem? (i := 41) rfl
theorem nw_42 : (.methodLinkNest "WardRoster" 11 y_Wa_init "WardRoster" : Cond) ∈ NWL := List.mem_of_getElem? (i := 42) rfl
theorem nw_43 : (.methodLinkNest "WardRoster" 18 y_Lw_init "WardRoster" : Cond) ∈ NWL := List.mem_of_getElem? (i := 43) rfl
theorem nw_44 : (.methodLinkNest "WardRoster" 25 y_Rs_init "WardRoster" : Cond) ∈ NWL := List.mem_of_getElem? (i := 44) rfl
theorem nw_45 : (.methodLinkNest "WardRoster" 32 y_Pr_init "WardRoster" : Cond) ∈ NWL := List.mem_of_getElem? (i := 45) rfl
abbrev w_Wr_cell : List Cond := .code y_Wr_cell b_Wr_cell 2 (some .int) :: GW
abbrev w_Wr_stateOf : List Cond := .code y_Wr_stateOf b_Wr_stateOf 2 (some .int) :: GW
abbrev w_Wr_shiftOf : List Cond := .code y_Wr_shiftOf b_Wr_shiftOf 1 (some .int) :: GW
abbrev w_Wr_workedOf : List Cond := .code y_Wr_workedOf b_Wr_workedOf 1 (some .int) :: GW
abbrev w_Wr_placeBit : List Cond := .code y_Wr_placeBit b_Wr_placeBit 2 (some .int) :: GW
abbrev w_Wr_stepKey : List Cond := .code y_Wr_stepKey b_Wr_stepKey 3 (some .long) :: GW
abbrev w_Wr_shiftAt : List Cond := .code y_Wr_shiftAt b_Wr_shiftAt 3 (some .int) :: GW
abbrev w_Wr_weightOf : List Cond := .code y_Wr_weightOf b_Wr_weightOf 2 (some .int) :: GW
abbrev w_Wr_leastOf : List Cond := .code y_Wr_leastOf b_Wr_leastOf 4 (some .long) :: GW
abbrev w_Rs_strideOf : List Cond := .code y_Rs_strideOf b_Rs_strideOf 1 (some .int) :: GW
abbrev w_Ar_fill_I : List Cond := .code y_Ar_fill_I b_Ar_fill_I 4 none :: GW
abbrev w_Ar_fill_J : List Cond := .code y_Ar_fill_J b_Ar_fill_J 5 none :: GW
abbrev w_Nu_clear : List Cond := .code y_Nu_clear b_Nu_clear 2 none :: GW
abbrev w_Nu_stateAfter : List Cond := .code y_Nu_stateAfter b_Nu_stateAfter 6 (some .int) :: GW
abbrev w_Nu_penaltyOf : List Cond := .code y_Nu_penaltyOf b_Nu_penaltyOf 4 (some .int) :: GW
abbrev w_Nu_allowsLine : List Cond := .code y_Nu_allowsLine b_Nu_allowsLine 5 (some .boolean) :: GW
abbrev w_Wa_clear : List Cond := .code y_Wa_clear b_Wa_clear 3 none :: GW
abbrev w_Wa_missing : List Cond := .code y_Wa_missing b_Wa_missing 7 (some .int) :: GW
abbrev w_Wa_countShort : List Cond := .code y_Wa_countShort b_Wa_countShort 6 (some .int) :: GW
abbrev w_Lw_swapRows : List Cond := .code y_Lw_swapRows b_Lw_swapRows 3 none :: GW
abbrev w_Lw_countLines : List Cond := .code y_Lw_countLines b_Lw_countLines 3 (some .int) :: GW
abbrev w_Lw_leaveState : List Cond := .code y_Lw_leaveState b_Lw_leaveState 11 none :: GW
abbrev w_Lw_walkLines : List Cond := .code y_Lw_walkLines b_Lw_walkLines 5 (some .long) :: GW
abbrev w_Rs_startTriple : List Cond := .code y_Rs_startTriple b_Rs_startTriple 3 (some .int) :: GW
abbrev w_Rs_readSteps : List Cond := .code y_Rs_readSteps b_Rs_readSteps 10 none :: GW
abbrev w_Rs_leaveTriple : List Cond := .code y_Rs_leaveTriple b_Rs_leaveTriple 10 none :: GW
abbrev w_Rs_takePlace : List Cond := .code y_Rs_takePlace b_Rs_takePlace 4 none :: GW
abbrev w_Rs_dropShort : List Cond := .code y_Rs_dropShort b_Rs_dropShort 4 none :: GW
abbrev w_Rs_findRoster : List Cond := .code y_Rs_findRoster b_Rs_findRoster 6 (some .long) :: GW
abbrev w_Pr_clear : List Cond := .code y_Pr_clear b_Pr_clear 1 none :: GW
abbrev w_Pr_priceOfNeeds : List Cond := .code y_Pr_priceOfNeeds b_Pr_priceOfNeeds 4 (some .int) :: GW
abbrev w_Pr_nextGrowth : List Cond := .code y_Pr_nextGrowth b_Pr_nextGrowth 1 (some .int) :: GW
abbrev w_Pr_movePrices : List Cond := .code y_Pr_movePrices b_Pr_movePrices 9 none :: GW
abbrev w_Pr_playRound : List Cond := .code y_Pr_playRound b_Pr_playRound 6 none :: GW
abbrev w_Wr_forgetAnswers : List Cond := .code y_Wr_forgetAnswers b_Wr_forgetAnswers 1 none :: GW
abbrev w_Wr_startWard : List Cond := .code y_Wr_startWard b_Wr_startWard 2 none :: GW
abbrev w_Wr_findBest : List Cond := .code y_Wr_findBest b_Wr_findBest 1 none :: GW
abbrev w_Wr_walkUnpriced : List Cond := .code y_Wr_walkUnpriced b_Wr_walkUnpriced 2 (some .long) :: GW
abbrev w_Wr_days : List Cond := .code y_Wr_days b_Wr_days 1 (some .int) :: GW
abbrev w_Wr_bound : List Cond := .code y_Wr_bound b_Wr_bound 1 (some .int) :: GW
abbrev w_Wr_least : List Cond := .code y_Wr_least b_Wr_least 1 (some .int) :: GW
abbrev w_Wr_check : List Cond := .code y_Wr_check b_Wr_check 3 (some .int) :: GW
abbrev w_Wm_thrown : List Cond := .code y_Wm_thrown b_Wm_thrown 1 (some .int) :: GW
abbrev w_Wm_change : List Cond := .code y_Wm_change b_Wm_change 2 none :: GW
abbrev w_Wm_begin : List Cond := .code y_Wm_begin b_Wm_begin 3 none :: GW
abbrev w_Wm_noNurse : List Cond := .code y_Wm_noNurse b_Wm_noNurse 1 (some .boolean) :: GW
abbrev w_Wm_noDay : List Cond := .code y_Wm_noDay b_Wm_noDay 2 (some .boolean) :: GW
abbrev w_Wm_noShift : List Cond := .code y_Wm_noShift b_Wm_noShift 1 (some .boolean) :: GW
abbrev w_Wm_open : List Cond := .code y_Wm_open b_Wm_open 2 none :: GW
abbrev w_Wm_contract : List Cond := .code y_Wm_contract b_Wm_contract 4 none :: GW
abbrev w_Wm_before : List Cond := .code y_Wm_before b_Wm_before 5 none :: GW
abbrev w_Wm_need : List Cond := .code y_Wm_need b_Wm_need 5 (some .int) :: GW
abbrev w_Wm_cost : List Cond := .code y_Wm_cost b_Wm_cost 7 (some .int) :: GW
abbrev w_Wm_pair : List Cond := .code y_Wm_pair b_Wm_pair 7 (some .int) :: GW
abbrev w_Wm_fix : List Cond := .code y_Wm_fix b_Wm_fix 5 (some .int) :: GW
abbrev w_Wm_days : List Cond := .code y_Wm_days b_Wm_days 1 (some .int) :: GW
abbrev w_Wm_allLines : List Cond := .code y_Wm_allLines b_Wm_allLines 1 (some .int) :: GW
abbrev w_Wm_shiftOf : List Cond := .code y_Wm_shiftOf b_Wm_shiftOf 3 (some .int) :: GW
abbrev w_Wm_walk : List Cond := .code y_Wm_walk b_Wm_walk 8 none :: GW
abbrev w_Wm_lines : List Cond := .code y_Wm_lines b_Wm_lines 4 (some .int) :: GW
abbrev w_Wm_priceOf : List Cond := .code y_Wm_priceOf b_Wm_priceOf 4 (some .int) :: GW
abbrev w_Wm_pricedLine : List Cond := .code y_Wm_pricedLine b_Wm_pricedLine 6 (some .int) :: GW
abbrev w_Wm_line : List Cond := .code y_Wm_line b_Wm_line 4 (some .int) :: GW
abbrev w_Wm_prepare : List Cond := .code y_Wm_prepare b_Wm_prepare 11 none :: GW
abbrev w_Wm_weigh : List Cond := .code y_Wm_weigh b_Wm_weigh 8 (some .int) :: GW
abbrev w_Wm_lightest : List Cond := .code y_Wm_lightest b_Wm_lightest 15 (some .int) :: GW
abbrev w_Wm_isUsual : List Cond := .code y_Wm_isUsual b_Wm_isUsual 3 (some .boolean) :: GW
abbrev w_Wm_startState : List Cond := .code y_Wm_startState b_Wm_startState 3 (some .int) :: GW
abbrev w_Wm_goBack : List Cond := .code y_Wm_goBack b_Wm_goBack 6 none :: GW
abbrev w_Wm_find : List Cond := .code y_Wm_find b_Wm_find 5 (some .int) :: GW
abbrev w_Wm_solve : List Cond := .code y_Wm_solve b_Wm_solve 2 none :: GW
abbrev w_Wm_least : List Cond := .code y_Wm_least b_Wm_least 1 (some .int) :: GW
abbrev w_Wm_best : List Cond := .code y_Wm_best b_Wm_best 3 (some .int) :: GW
abbrev w_Wm_round : List Cond := .code y_Wm_round b_Wm_round 5 none :: GW
abbrev w_Wm_raise : List Cond := .code y_Wm_raise b_Wm_raise 3 (some .int) :: GW
abbrev w_Wm_bound : List Cond := .code y_Wm_bound b_Wm_bound 1 (some .int) :: GW
abbrev w_Wm_price : List Cond := .code y_Wm_price b_Wm_price 3 (some .int) :: GW
abbrev w_Wm_takeUp : List Cond := .code y_Wm_takeUp b_Wm_takeUp 2 none :: GW
abbrev w_Wm_adopt : List Cond := .code y_Wm_adopt b_Wm_adopt 2 (some .int) :: GW
abbrev w_Wm_repair : List Cond := .code y_Wm_repair b_Wm_repair 2 (some .int) :: GW
abbrev w_Wm_planned : List Cond := .code y_Wm_planned b_Wm_planned 3 (some .int) :: GW
abbrev w_Wm_check : List Cond := .code y_Wm_check b_Wm_check 5 (some .int) :: GW
abbrev w_Wr_requireNurse : List Cond := .code y_Wr_requireNurse b_Wr_requireNurse 1 none :: GW
abbrev w_Wr_requireDay : List Cond := .code y_Wr_requireDay b_Wr_requireDay 2 none :: GW
abbrev w_Wr_requireShift : List Cond := .code y_Wr_requireShift b_Wr_requireShift 2 none :: GW
abbrev w_Wr_requireValue : List Cond := .code y_Wr_requireValue b_Wr_requireValue 3 none :: GW
abbrev w_Wr_requirePlan : List Cond := .code y_Wr_requirePlan b_Wr_requirePlan 1 none :: GW
abbrev w_Wr_requireRoster : List Cond := .code y_Wr_requireRoster b_Wr_requireRoster 2 none :: GW
abbrev w_Wr_requireLines : List Cond := .code y_Wr_requireLines b_Wr_requireLines 2 none :: GW
abbrev w_Wr_open : List Cond := .code y_Wr_open b_Wr_open 2 none :: GW
abbrev w_Wr_contract : List Cond := .code y_Wr_contract b_Wr_contract 4 none :: GW
abbrev w_Wr_before : List Cond := .code y_Wr_before b_Wr_before 4 none :: GW
abbrev w_Wr_need : List Cond := .code y_Wr_need b_Wr_need 5 (some .int) :: GW
abbrev w_Wr_cost : List Cond := .code y_Wr_cost b_Wr_cost 7 (some .int) :: GW
abbrev w_Wr_pair : List Cond := .code y_Wr_pair b_Wr_pair 7 (some .int) :: GW
abbrev w_Wr_fix : List Cond := .code y_Wr_fix b_Wr_fix 6 (some .int) :: GW
abbrev w_Wr_lines : List Cond := .code y_Wr_lines b_Wr_lines 2 (some .int) :: GW
abbrev w_Wr_line : List Cond := .code y_Wr_line b_Wr_line 4 (some .int) :: GW
abbrev w_Wr_best : List Cond := .code y_Wr_best b_Wr_best 3 (some .int) :: GW
abbrev w_Wr_raise : List Cond := .code y_Wr_raise b_Wr_raise 3 (some .int) :: GW
abbrev w_Wr_price : List Cond := .code y_Wr_price b_Wr_price 3 (some .int) :: GW
abbrev w_Wr_adopt : List Cond := .code y_Wr_adopt b_Wr_adopt 1 (some .int) :: GW
abbrev w_Wr_repair : List Cond := .code y_Wr_repair b_Wr_repair 3 (some .int) :: GW
abbrev w_Wr_planned : List Cond := .code y_Wr_planned b_Wr_planned 3 (some .int) :: GW
abbrev w_Nu_init : List Cond := .code y_Nu_init b_Nu_init 2 none :: GW
abbrev w_Wa_init : List Cond := .code y_Wa_init b_Wa_init 1 none :: GW
abbrev w_Lw_init : List Cond := .code y_Lw_init b_Lw_init 1 none :: GW
abbrev w_Rs_init : List Cond := .code y_Rs_init b_Rs_init 1 none :: GW
abbrev w_Pr_init : List Cond := .code y_Pr_init b_Pr_init 1 none :: GW
abbrev w_Wr_init : List Cond := .code y_Wr_init b_Wr_init 1 none :: GW
abbrev w_Wm_init : List Cond := .code y_Wm_init b_Wm_init 1 none :: GW
