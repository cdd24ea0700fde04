def TBx : List Cond := [Cond.constant R_Integer 265 1431655765,
  Cond.constant R_Integer 266 858993459,
  Cond.constant R_Integer 267 252645135,
  Cond.methodLink R_PT 86 y_PT_isWithin,
  Cond.static y_PT_isWithin,
  Cond.initialized R_PT,
  Cond.code y_PT_isWithin b_PT_isWithin 3 (some .boolean),
  Cond.fieldLink R_People 9 "PilotTugs$People" "size" "I",
  Cond.fieldLink R_People 15 "PilotTugs$People" "licence" "[I",
  Cond.fieldLink R_People 19 "PilotTugs$People" "from" "[I",
  Cond.fieldLink R_People 22 "PilotTugs$People" "to" "[I",
  Cond.fieldLink R_People 25 "PilotTugs$People" "home" "[I",
  Cond.methodLink R_PT 51 y_PT_isLicence,
  Cond.static y_PT_isLicence,
  Cond.code y_PT_isLicence b_PT_isLicence 1 (some .boolean),
  Cond.methodLink R_PT 55 y_PT_isSpan,
  Cond.static y_PT_isSpan,
  Cond.code y_PT_isSpan b_PT_isSpan 2 (some .boolean),
  Cond.methodLink R_PT 59 y_PT_isPlace,
  Cond.static y_PT_isPlace,
  Cond.code y_PT_isPlace b_PT_isPlace 1 (some .boolean),
  Cond.fieldLink R_PT 10 "PilotTugs" "people" "LPilotTugs$People;",
  Cond.fieldLink R_PT 69 "PilotTugs$People" "size" "I",
  Cond.fieldLink R_PT 47 "PilotTugs" "plan" "LPilotTugs$Plan;",
  Cond.fieldLink R_PT 78 "PilotTugs$Plan" "made" "Z",
  Cond.methodLink R_PT 82 y_People_add,
  Cond.instanceMethod y_People_add,
  Cond.selects R_People y_People_add y_People_add,
  Cond.initialized R_People,
  Cond.code y_People_add b_People_add 6 (some .int),
  Cond.fieldLink R_Tugs 9 "PilotTugs$Tugs" "size" "I",
  Cond.fieldLink R_Tugs 15 "PilotTugs$Tugs" "pull" "[I",
  Cond.fieldLink R_PT 26 "PilotTugs" "tugs" "LPilotTugs$Tugs;",
  Cond.fieldLink R_PT 92 "PilotTugs$Tugs" "size" "I",
  Cond.methodLink R_PT 95 y_Tugs_add,
  Cond.instanceMethod y_Tugs_add,
  Cond.selects R_Tugs y_Tugs_add y_Tugs_add,
  Cond.initialized R_Tugs,
  Cond.code y_Tugs_add b_Tugs_add 3 (some .int),
  Cond.fieldLink R_Jobs 9 "PilotTugs$Jobs" "size" "I",
  Cond.fieldLink R_Jobs 15 "PilotTugs$Jobs" "licence" "[I",
  Cond.fieldLink R_Jobs 19 "PilotTugs$Jobs" "pull" "[I",
  Cond.fieldLink R_Jobs 22 "PilotTugs$Jobs" "from" "[I",
  Cond.fieldLink R_Jobs 25 "PilotTugs$Jobs" "to" "[I",
  Cond.fieldLink R_Jobs 28 "PilotTugs$Jobs" "place" "[I",
  Cond.fieldLink R_PT 19 "PilotTugs" "jobs" "LPilotTugs$Jobs;",
  Cond.fieldLink R_PT 102 "PilotTugs$Jobs" "size" "I",
  Cond.methodLink R_PT 105 y_Jobs_add,
  Cond.instanceMethod y_Jobs_add,
  Cond.selects R_Jobs y_Jobs_add y_Jobs_add,
  Cond.initialized R_Jobs,
  Cond.code y_Jobs_add b_Jobs_add 7 (some .int),
  Cond.fieldLink R_Ways 15 "PilotTugs$Ways" "minutes" "[I",
  Cond.fieldLink R_PT 33 "PilotTugs" "ways" "LPilotTugs$Ways;",
  Cond.methodLink R_PT 108 y_Ways_tell,
  Cond.instanceMethod y_Ways_tell,
  Cond.selects R_Ways y_Ways_tell y_Ways_tell,
  Cond.initialized R_Ways,
  Cond.code y_Ways_tell b_Ways_tell 4 none,
  Cond.fieldLink R_PT 112 "PilotTugs$Ways" "restMinutes" "I",
  Cond.methodLink R_PT 115 y_PT_isPerson,
  Cond.instanceMethod y_PT_isPerson,
  Cond.selects R_PT y_PT_isPerson y_PT_isPerson,
  Cond.code y_PT_isPerson b_PT_isPerson 2 (some .boolean),
  Cond.fieldLink R_PT 118 "PilotTugs$People" "does" "[I",
  Cond.fieldLink R_Jobs 31 "PilotTugs$Jobs" "inOrder" "[I",
  Cond.fieldLink R_People 38 "PilotTugs$Jobs" "size" "I",
  Cond.fieldLink R_People 41 "PilotTugs$Jobs" "licence" "[I",
  Cond.fieldLink R_People 28 "PilotTugs$People" "does" "[I",
  Cond.methodLink R_People 34 y_People_failsForOne,
  Cond.static y_People_failsForOne,
  Cond.code y_People_failsForOne b_People_failsForOne 3 (some .boolean),
  Cond.fieldLink R_People 31 "PilotTugs$People" "failures" "[I",
  Cond.methodLink R_Planner 44 y_Planner_digitShift,
  Cond.static y_Planner_digitShift,
  Cond.initialized R_Planner,
  Cond.code y_Planner_digitShift b_Planner_digitShift 1 (some .int),
  Cond.methodLink R_Planner 55 y_Integer_bitCount,
  Cond.static y_Integer_bitCount,
  Cond.initialized R_Integer,
  Cond.code y_Integer_bitCount b_Integer_bitCount 1 (some .int),
  Cond.fieldLink R_Planner 11 "PilotTugs$Planner" "least" "[J",
  Cond.methodLink R_Planner 89 y_Planner_digits,
  Cond.static y_Planner_digits,
  Cond.code y_Planner_digits b_Planner_digits 6 (some .long),
  Cond.fieldLink R_Plan 15 "PilotTugs$Plan" "barred" "I",
  Cond.fieldLink R_People 42 "PilotTugs$Jobs" "to" "[I",
  Cond.fieldLink R_People 43 "PilotTugs$Jobs" "from" "[I",
  Cond.fieldLink R_Planner 52 "PilotTugs$People" "does" "[I",
  Cond.fieldLink R_Planner 60 "PilotTugs$People" "home" "[I",
  Cond.fieldLink R_Planner 63 "PilotTugs$People" "from" "[I",
  Cond.fieldLink R_Planner 18 "PilotTugs$Jobs" "size" "I",
  Cond.fieldLink R_Planner 66 "PilotTugs$Jobs" "inOrder" "[I",
  Cond.fieldLink R_Planner 69 "PilotTugs$Jobs" "place" "[I",
  Cond.methodLink R_Planner 72 y_Ways_between,
  Cond.instanceMethod y_Ways_between,
  Cond.selects R_Ways y_Ways_between y_Ways_between,
  Cond.code y_Ways_between b_Ways_between 3 (some .int),
  Cond.methodLink R_Planner 78 y_People_isFit,
  Cond.instanceMethod y_People_isFit,
  Cond.selects R_People y_People_isFit y_People_isFit,
  Cond.code y_People_isFit b_People_isFit 4 (some .boolean),
  Cond.fieldLink R_Planner 82 "PilotTugs$Jobs" "from" "[I",
  Cond.fieldLink R_Planner 83 "PilotTugs$Jobs" "to" "[I",
  Cond.fieldLink R_Planner 86 "PilotTugs$Ways" "restMinutes" "I",
  Cond.methodLink R_Planner 93 y_Planner_travelOf,
  Cond.instanceMethod y_Planner_travelOf,
  Cond.selects R_Planner y_Planner_travelOf y_Planner_travelOf,
  Cond.code y_Planner_travelOf b_Planner_travelOf 12 (some .int),
  Cond.fieldLink R_Planner 15 "PilotTugs$Planner" "own" "[J",
  Cond.constantLong R_Planner 97 (-1),
  Cond.methodLink R_Planner 99 Lib.MathLoose.min_long.x,
  Cond.static Lib.MathLoose.min_long.x,
  Cond.initialized "java/lang/Math",
  Cond.code Lib.MathLoose.min_long.x Lib.MathLoose.min_long.code 4 (some .long),
  Cond.methodLink R_Planner 24 y_Planner_giveToNobody,
  Cond.instanceMethod y_Planner_giveToNobody,
  Cond.selects R_Planner y_Planner_giveToNobody y_Planner_giveToNobody,
  Cond.code y_Planner_giveToNobody b_Planner_giveToNobody 6 none,
  Cond.fieldLink R_Planner 28 "PilotTugs$People" "size" "I",
  Cond.methodLink R_Planner 31 y_Plan_isBarred,
  Cond.instanceMethod y_Plan_isBarred,
  Cond.selects R_Plan y_Plan_isBarred y_Plan_isBarred,
  Cond.initialized R_Plan,
  Cond.code y_Plan_isBarred b_Plan_isBarred 2 (some .boolean),
  Cond.methodLink R_Planner 37 y_Planner_costOwn,
  Cond.instanceMethod y_Planner_costOwn,
  Cond.selects R_Planner y_Planner_costOwn y_Planner_costOwn,
  Cond.code y_Planner_costOwn b_Planner_costOwn 8 none,
  Cond.methodLink R_Planner 41 y_Planner_joinOwn,
  Cond.instanceMethod y_Planner_joinOwn,
  Cond.selects R_Planner y_Planner_joinOwn y_Planner_joinOwn,
  Cond.code y_Planner_joinOwn b_Planner_joinOwn 6 none,
  Cond.fieldLink R_Planner 48 "PilotTugs$Plan" "doer" "[I",
  Cond.fieldLink R_Plan 47 "PilotTugs$Jobs" "size" "I",
  Cond.fieldLink R_Plan 62 "PilotTugs$Jobs" "inOrder" "[I",
  Cond.fieldLink R_Plan 25 "PilotTugs$Plan" "doer" "[I",
  Cond.fieldLink R_Plan 29 "PilotTugs$Plan" "travelTo" "[I",
  Cond.fieldLink R_Plan 65 "PilotTugs$Jobs" "place" "[I",
  Cond.methodLink R_Plan 68 y_Ways_between,
  Cond.fieldLink R_Plan 22 "PilotTugs$Plan" "travel" "I",
  Cond.fieldLink R_Plan 19 "PilotTugs$Plan" "given" "I",
  Cond.fieldLink R_Plan 52 "PilotTugs$People" "size" "I",
  Cond.fieldLink R_Plan 55 "PilotTugs$People" "home" "[I",
  Cond.methodLink R_Plan 58 y_Plan_walkOf,
  Cond.instanceMethod y_Plan_walkOf,
  Cond.selects R_Plan y_Plan_walkOf y_Plan_walkOf,
  Cond.code y_Plan_walkOf b_Plan_walkOf 8 none,
  Cond.fieldLink R_Tugs 19 "PilotTugs$Jobs" "size" "I",
  Cond.methodLink R_Tugs 45 y_Jobs_overlap,
  Cond.instanceMethod y_Jobs_overlap,
  Cond.selects R_Jobs y_Jobs_overlap y_Jobs_overlap,
  Cond.code y_Jobs_overlap b_Jobs_overlap 3 (some .boolean),
  Cond.fieldLink R_Tugs 22 "PilotTugs$Plan" "tugsOf" "[I",
  Cond.methodLink R_Tugs 56 y_Integer_bitCount,
  Cond.methodLink R_Tugs 49 y_Tugs_pullOf,
  Cond.instanceMethod y_Tugs_pullOf,
  Cond.selects R_Tugs y_Tugs_pullOf y_Tugs_pullOf,
  Cond.code y_Tugs_pullOf b_Tugs_pullOf 4 (some .int),
  Cond.methodLink R_Tugs 53 y_Tugs_isBetter,
  Cond.instanceMethod y_Tugs_isBetter,
  Cond.selects R_Tugs y_Tugs_isBetter y_Tugs_isBetter,
  Cond.code y_Tugs_isBetter b_Tugs_isBetter 6 (some .boolean),
  Cond.fieldLink R_Tugs 27 "PilotTugs$Plan" "without" "[I",
  Cond.fieldLink R_Tugs 30 "PilotTugs$Jobs" "inOrder" "[I",
  Cond.fieldLink R_Tugs 33 "PilotTugs$Plan" "doer" "[I",
  Cond.fieldLink R_Tugs 36 "PilotTugs$Jobs" "pull" "[I",
  Cond.methodLink R_Tugs 37 y_Tugs_freeFor,
  Cond.instanceMethod y_Tugs_freeFor,
  Cond.selects R_Tugs y_Tugs_freeFor y_Tugs_freeFor,
  Cond.code y_Tugs_freeFor b_Tugs_freeFor 6 (some .int),
  Cond.methodLink R_Tugs 41 y_Tugs_choose,
  Cond.instanceMethod y_Tugs_choose,
  Cond.selects R_Tugs y_Tugs_choose y_Tugs_choose,
  Cond.code y_Tugs_choose b_Tugs_choose 5 (some .int),
  Cond.methodLink R_PT 197 y_Jobs_putInOrder,
  Cond.instanceMethod y_Jobs_putInOrder,
  Cond.selects R_Jobs y_Jobs_putInOrder y_Jobs_putInOrder,
  Cond.code y_Jobs_putInOrder b_Jobs_putInOrder 3 none,
  Cond.methodLink R_PT 200 y_People_askRules,
  Cond.instanceMethod y_People_askRules,
  Cond.selects R_People y_People_askRules y_People_askRules,
  Cond.code y_People_askRules b_People_askRules 4 (some .int),
  Cond.fieldLink R_PT 194 "PilotTugs$Plan" "barred" "I",
  Cond.fieldLink R_PT 40 "PilotTugs" "planner" "LPilotTugs$Planner;",
  Cond.methodLink R_PT 204 y_Planner_divide,
  Cond.instanceMethod y_Planner_divide,
  Cond.selects R_Planner y_Planner_divide y_Planner_divide,
  Cond.code y_Planner_divide b_Planner_divide 10 none,
  Cond.methodLink R_PT 208 y_Plan_walk,
  Cond.instanceMethod y_Plan_walk,
  Cond.selects R_Plan y_Plan_walk y_Plan_walk,
  Cond.code y_Plan_walk b_Plan_walk 5 none,
  Cond.methodLink R_PT 212 y_Tugs_serve,
  Cond.instanceMethod y_Tugs_serve,
  Cond.selects R_Tugs y_Tugs_serve y_Tugs_serve,
  Cond.code y_Tugs_serve b_Tugs_serve 6 none,
  Cond.methodLink R_PT 122 y_PT_makePlan,
  Cond.instanceMethod y_PT_makePlan,
  Cond.selects R_PT y_PT_makePlan y_PT_makePlan,
  Cond.code y_PT_makePlan b_PT_makePlan 1 none,
  Cond.fieldLink R_PT 125 "PilotTugs$Plan" "given" "I",
  Cond.fieldLink R_PT 128 "PilotTugs$Plan" "travel" "I",
  Cond.fieldLink R_PT 141 "PilotTugs$Plan" "doer" "[I",
  Cond.methodLink R_PT 216 y_Plan_isBarred,
  Cond.fieldLink R_PT 219 "PilotTugs$People" "licence" "[I",
  Cond.fieldLink R_PT 222 "PilotTugs$Jobs" "licence" "[I",
  Cond.methodLink R_PT 223 y_Planner_travelOf,
  Cond.methodLink R_PT 131 y_PT_isJob,
  Cond.instanceMethod y_PT_isJob,
  Cond.selects R_PT y_PT_isJob y_PT_isJob,
  Cond.code y_PT_isJob b_PT_isJob 2 (some .boolean),
  Cond.fieldLink R_PT 144 "PilotTugs$Plan" "travelTo" "[I",
  Cond.fieldLink R_PT 147 "PilotTugs$Plan" "tugsOf" "[I",
  Cond.fieldLink R_PT 150 "PilotTugs$Plan" "without" "[I",
  Cond.methodLink R_PT 153 y_PT_whyNobody,
  Cond.instanceMethod y_PT_whyNobody,
  Cond.selects R_PT y_PT_whyNobody y_PT_whyNobody,
  Cond.code y_PT_whyNobody b_PT_whyNobody 4 (some .int),
  Cond.fieldLink R_Plan 38 "PilotTugs$Plan" "doerBefore" "[I",
  Cond.methodLink R_Plan 41 arraycopyName,
  Cond.native arraycopyName,
  Cond.static arraycopyName,
  Cond.initialized "java/lang/System",
  Cond.methodLink R_Jobs 34 y_Jobs_minutesOf,
  Cond.instanceMethod y_Jobs_minutesOf,
  Cond.selects R_Jobs y_Jobs_minutesOf y_Jobs_minutesOf,
  Cond.code y_Jobs_minutesOf b_Jobs_minutesOf 2 (some .int),
  Cond.methodLink R_PT 158 y_Jobs_minutesOf,
  Cond.methodLink R_PT 161 y_Plan_keepDoers,
  Cond.instanceMethod y_Plan_keepDoers,
  Cond.selects R_Plan y_Plan_keepDoers y_Plan_keepDoers,
  Cond.code y_Plan_keepDoers b_Plan_keepDoers 1 none,
  Cond.methodLink R_PT 164 y_Jobs_move,
  Cond.instanceMethod y_Jobs_move,
  Cond.selects R_Jobs y_Jobs_move y_Jobs_move,
  Cond.code y_Jobs_move b_Jobs_move 3 none,
  Cond.methodLink R_PT 168 y_Plan_otherDoers,
  Cond.instanceMethod y_Plan_otherDoers,
  Cond.selects R_Plan y_Plan_otherDoers y_Plan_otherDoers,
  Cond.code y_Plan_otherDoers b_Plan_otherDoers 4 (some .int),
  Cond.fieldLink R_PT 173 "PilotTugs$Jobs" "inOrder" "[I",
  Cond.fieldLink R_PT 176 "PilotTugs$People" "from" "[I",
  Cond.fieldLink R_PT 179 "PilotTugs$Jobs" "from" "[I",
  Cond.fieldLink R_PT 180 "PilotTugs$Jobs" "to" "[I",
  Cond.constant R_PT 183 1000000,
  Cond.fieldLink R_PT 191 "PilotTugs$People" "failures" "[I",
  Cond.fieldLink R_Mo 61 "PilotTugsModel" "thrown" "I",
  Cond.fieldLink R_Mo 65 "PilotTugsModel" "people" "I",
  Cond.fieldLink R_Mo 68 "PilotTugsModel" "jobs" "I",
  Cond.methodLink R_Mo 71 y_Mo_in,
  Cond.static y_Mo_in,
  Cond.initialized R_Mo,
  Cond.code y_Mo_in b_Mo_in 3 (some .boolean),
  Cond.methodLink R_Mo 83 y_Mo_refuse,
  Cond.instanceMethod y_Mo_refuse,
  Cond.selects R_Mo y_Mo_refuse y_Mo_refuse,
  Cond.code y_Mo_refuse b_Mo_refuse 2 (some .int),
  Cond.methodLink R_Mo 75 y_Mo_isSpan,
  Cond.static y_Mo_isSpan,
  Cond.code y_Mo_isSpan b_Mo_isSpan 2 (some .boolean),
  Cond.methodLink R_Mo 79 y_Mo_isPlace,
  Cond.static y_Mo_isPlace,
  Cond.code y_Mo_isPlace b_Mo_isPlace 1 (some .boolean),
  Cond.fieldLink R_Mo 7 "PilotTugsModel" "licence" "[I",
  Cond.fieldLink R_Mo 13 "PilotTugsModel" "hoursFrom" "[I",
  Cond.fieldLink R_Mo 16 "PilotTugsModel" "hoursTo" "[I",
  Cond.fieldLink R_Mo 19 "PilotTugsModel" "home" "[I",
  Cond.fieldLink R_Mo 87 "PilotTugsModel" "planned" "Z",
  Cond.fieldLink R_Mo 91 "PilotTugsModel" "tugs" "I",
  Cond.fieldLink R_Mo 28 "PilotTugsModel" "pull" "[I",
  Cond.fieldLink R_Mo 31 "PilotTugsModel" "need" "[I",
  Cond.fieldLink R_Mo 34 "PilotTugsModel" "pulls" "[I",
  Cond.fieldLink R_Mo 37 "PilotTugsModel" "from" "[I",
  Cond.fieldLink R_Mo 40 "PilotTugsModel" "to" "[I",
  Cond.fieldLink R_Mo 43 "PilotTugsModel" "place" "[I",
  Cond.fieldLink R_Mo 46 "PilotTugsModel" "travel" "[I",
  Cond.fieldLink R_Mo 94 "PilotTugsModel" "rest" "I",
  Cond.methodLink R_Mo 97 y_Mo_isPerson,
  Cond.instanceMethod y_Mo_isPerson,
  Cond.selects R_Mo y_Mo_isPerson y_Mo_isPerson,
  Cond.code y_Mo_isPerson b_Mo_isPerson 2 (some .boolean),
  Cond.fieldLink R_Mo 22 "PilotTugsModel" "rules" "[I",
  Cond.methodLink R_Mo 100 y_Mo_next,
  Cond.instanceMethod y_Mo_next,
  Cond.selects R_Mo y_Mo_next y_Mo_next,
  Cond.code y_Mo_next b_Mo_next 7 (some .int),
  Cond.constant R_Mo 104 1000000000,
  Cond.fieldLink R_Mo 105 "PilotTugsModel" "barred" "I",
  Cond.fieldLink R_Mo 25 "PilotTugsModel" "failures" "[I",
  Cond.fieldLink R_Mo 58 "PilotTugsModel" "tried" "[I",
  Cond.fieldLink R_Mo 55 "PilotTugsModel" "costs" "[I",
  Cond.methodLink R_Mo 108 y_Mo_triedOf,
  Cond.instanceMethod y_Mo_triedOf,
  Cond.selects R_Mo y_Mo_triedOf y_Mo_triedOf,
  Cond.code y_Mo_triedOf b_Mo_triedOf 4 (some .int),
  Cond.fieldLink R_Mo 52 "PilotTugsModel" "tugsOf" "[I",
  Cond.methodLink R_Mo 134 y_Mo_busy,
  Cond.instanceMethod y_Mo_busy,
  Cond.selects R_Mo y_Mo_busy y_Mo_busy,
  Cond.code y_Mo_busy b_Mo_busy 4 (some .int),
  Cond.methodLink R_Mo 137 y_Mo_together,
  Cond.instanceMethod y_Mo_together,
  Cond.selects R_Mo y_Mo_together y_Mo_together,
  Cond.code y_Mo_together b_Mo_together 4 (some .int),
  Cond.methodLink R_Mo 140 y_Mo_many,
  Cond.instanceMethod y_Mo_many,
  Cond.selects R_Mo y_Mo_many y_Mo_many,
  Cond.code y_Mo_many b_Mo_many 4 (some .int),
  Cond.methodLink R_Mo 143 y_Mo_isAhead,
  Cond.static y_Mo_isAhead,
  Cond.code y_Mo_isAhead b_Mo_isAhead 3 (some .boolean),
  Cond.fieldLink R_Mo 49 "PilotTugsModel" "given" "[I",
  Cond.methodLink R_Mo 146 y_Mo_best,
  Cond.instanceMethod y_Mo_best,
  Cond.selects R_Mo y_Mo_best y_Mo_best,
  Cond.code y_Mo_best b_Mo_best 7 (some .int),
  Cond.methodLink R_Mo 111 y_Mo_asks,
  Cond.instanceMethod y_Mo_asks,
  Cond.selects R_Mo y_Mo_asks y_Mo_asks,
  Cond.code y_Mo_asks b_Mo_asks 4 none,
  Cond.methodLink R_Mo 114 y_Mo_isBarred,
  Cond.instanceMethod y_Mo_isBarred,
  Cond.selects R_Mo y_Mo_isBarred y_Mo_isBarred,
  Cond.code y_Mo_isBarred b_Mo_isBarred 2 (some .boolean),
  Cond.methodLink R_Mo 117 y_Mo_cost,
  Cond.instanceMethod y_Mo_cost,
  Cond.selects R_Mo y_Mo_cost y_Mo_cost,
  Cond.code y_Mo_cost b_Mo_cost 11 (some .int),
  Cond.methodLink R_Mo 131 y_Mo_givesTugs,
  Cond.instanceMethod y_Mo_givesTugs,
  Cond.selects R_Mo y_Mo_givesTugs y_Mo_givesTugs,
  Cond.code y_Mo_givesTugs b_Mo_givesTugs 3 none,
  Cond.methodLink R_Mo 120 y_Mo_triedMany,
  Cond.instanceMethod y_Mo_triedMany,
  Cond.selects R_Mo y_Mo_triedMany y_Mo_triedMany,
  Cond.code y_Mo_triedMany b_Mo_triedMany 3 (some .int),
  Cond.methodLink R_Mo 124 y_Mo_triedCost,
  Cond.instanceMethod y_Mo_triedCost,
  Cond.selects R_Mo y_Mo_triedCost y_Mo_triedCost,
  Cond.code y_Mo_triedCost b_Mo_triedCost 4 (some .int),
  Cond.methodLink R_Mo 127 y_Mo_goesOn,
  Cond.instanceMethod y_Mo_goesOn,
  Cond.selects R_Mo y_Mo_goesOn y_Mo_goesOn,
  Cond.code y_Mo_goesOn b_Mo_goesOn 2 (some .boolean),
  Cond.methodLink R_Mo 149 y_Mo_givenTo,
  Cond.instanceMethod y_Mo_givenTo,
  Cond.selects R_Mo y_Mo_givenTo y_Mo_givenTo,
  Cond.code y_Mo_givenTo b_Mo_givenTo 4 (some .int),
  Cond.methodLink R_Mo 152 y_Mo_search,
  Cond.instanceMethod y_Mo_search,
  Cond.selects R_Mo y_Mo_search y_Mo_search,
  Cond.code y_Mo_search b_Mo_search 7 none,
  Cond.methodLink R_Mo 155 y_Mo_givenMany,
  Cond.instanceMethod y_Mo_givenMany,
  Cond.selects R_Mo y_Mo_givenMany y_Mo_givenMany,
  Cond.code y_Mo_givenMany b_Mo_givenMany 3 (some .int),
  Cond.methodLink R_Mo 158 y_Mo_sum,
  Cond.instanceMethod y_Mo_sum,
  Cond.selects R_Mo y_Mo_sum y_Mo_sum,
  Cond.code y_Mo_sum b_Mo_sum 3 (some .int),
  Cond.methodLink R_Mo 161 y_Mo_before,
  Cond.instanceMethod y_Mo_before,
  Cond.selects R_Mo y_Mo_before y_Mo_before,
  Cond.code y_Mo_before b_Mo_before 5 (some .int),
  Cond.methodLink R_Mo 164 y_Mo_isJob,
  Cond.instanceMethod y_Mo_isJob,
  Cond.selects R_Mo y_Mo_isJob y_Mo_isJob,
  Cond.code y_Mo_isJob b_Mo_isJob 2 (some .boolean),
  Cond.methodLink R_Mo 167 y_Mo_travelTo,
  Cond.instanceMethod y_Mo_travelTo,
  Cond.selects R_Mo y_Mo_travelTo y_Mo_travelTo,
  Cond.code y_Mo_travelTo b_Mo_travelTo 4 (some .int),
  Cond.methodLink R_Mo 170 y_Mo_why,
  Cond.instanceMethod y_Mo_why,
  Cond.selects R_Mo y_Mo_why y_Mo_why,
  Cond.code y_Mo_why b_Mo_why 5 (some .int),
  Cond.constant R_Mo 173 1000000]
def TB : List Cond := TBx ++ (u_ws R_Jobs F_Jobs 7 ++ (u_ws R_People F_People 7 ++ (u_ws R_Plan F_Plan 9 ++ (u_ws R_Planner F_Planner 2 ++ (u_ws R_Tugs F_Tugs 2 ++ (u_ws R_Ways F_Ways 2 ++ (u_ws R_PT F_PT 6 ++ (u_ws R_Mo F_Mo 24))))))))
theorem iw_Jobs : ∀ w ∈ u_ws R_Jobs F_Jobs 7, w ∈ TB := fun _ h => List.mem_append_right _ (List.mem_append_left _ h)
theorem iw_People : ∀ w ∈ u_ws R_People F_People 7, w ∈ TB := fun _ h => List.mem_append_right _ (List.mem_append_right _ (List.mem_append_left _ h))
theorem iw_Plan : ∀ w ∈ u_ws R_Plan F_Plan 9, w ∈ TB := fun _ h => List.mem_append_right _ (List.mem_append_right _ (List.mem_append_right _ (List.mem_append_left _ h)))
theorem iw_Planner : ∀ w ∈ u_ws R_Planner F_Planner 2, w ∈ TB := fun _ h => List.mem_append_right _ (List.mem_append_right _ (List.mem_append_right _ (List.mem_append_right _ (List.mem_append_left _ h))))
theorem iw_Tugs : ∀ w ∈ u_ws R_Tugs F_Tugs 2, w ∈ TB := fun _ h => List.mem_append_right _ (List.mem_append_right _ (List.mem_append_right _ (List.mem_append_right _ (List.mem_append_right _ (List.mem_append_left _ h)))))
theorem iw_Ways : ∀ w ∈ u_ws R_Ways F_Ways 2, w ∈ TB := fun _ h => List.mem_append_right _ (List.mem_append_right _ (List.mem_append_right _ (List.mem_append_right _ (List.mem_append_right _ (List.mem_append_right _ (List.mem_append_left _ h))))))
theorem iw_PT : ∀ w ∈ u_ws R_PT F_PT 6, w ∈ TB := fun _ h => List.mem_append_right _ (List.mem_append_right _ (List.mem_append_right _ (List.mem_append_right _ (List.mem_append_right _ (List.mem_append_right _ (List.mem_append_right _ (List.mem_append_left _ h)))))))
theorem iw_Mo : ∀ w ∈ u_ws R_Mo F_Mo 24, w ∈ TB := fun _ h => List.mem_append_right _ (List.mem_append_right _ (List.mem_append_right _ (List.mem_append_right _ (List.mem_append_right _ (List.mem_append_right _ (List.mem_append_right _ (List.mem_append_right _ (h))))))))
theorem TB_all : TB.all goodWord = true := by decide +kernel
theorem TB_good : ∀ w ∈ TB, (w.onTables && w.keeps) = true ∨ ∃ ty, w = .arrayClass ty := fun w h => good_of_word (List.all_eq_true.mp TB_all w h)
theorem t_w0 : Cond.constant R_Integer 265 1431655765 ∈ TB := List.mem_append_left _ (List.mem_of_getElem? (i := 0) rfl)
theorem t_w1 : Cond.constant R_Integer 266 858993459 ∈ TB := List.mem_append_left _ (List.mem_of_getElem? (i := 1) rfl)
theorem t_w2 : Cond.constant R_Integer 267 252645135 ∈ TB := List.mem_append_left _ (List.mem_of_getElem? (i := 2) rfl)
theorem t_w3 : Cond.methodLink R_PT 86 y_PT_isWithin ∈ TB := List.mem_append_left _ (List.mem_of_getElem? (i := 3) rfl)
theorem t_w4 : Cond.static y_PT_isWithin ∈ TB := List.mem_append_left _ (List.mem_of_getElem? (i := 4) rfl)
theorem t_w5 : Cond.initialized R_PT ∈ TB := List.mem_append_left _ (List.mem_of_getElem? (i := 5) rfl)
theorem t_w6 : Cond.code y_PT_isWithin b_PT_isWithin 3 (some .boolean) ∈ TB := List.mem_append_left _ (List.mem_of_getElem? (i := 6) rfl)
theorem t_w7 : Cond.fieldLink R_People 9 "PilotTugs$People" "size" "I" ∈ TB := List.mem_append_left _ (List.mem_of_getElem? (i := 7) rfl)
theorem t_w8 : Cond.fieldLink R_People 15 "PilotTugs$People" "licence" "[I" ∈ TB := List.mem_append_left _ (List.mem_of_getElem? (i := 8) rfl)
theorem t_w9 : Cond.fieldLink R_People 19 "PilotTugs$People" "from" "[I" ∈ TB := List.mem_append_left _ (List.mem_of_getElem? (i := 9) rfl)
theorem t_w10 : Cond.fieldLink R_People 22 "PilotTugs$People" "to" "[I" ∈ TB := List.mem_append_left _ (List.mem_of_getElem? (i := 10) rfl)
theorem t_w11 : Cond.fieldLink R_People 25 "PilotTugs$People" "home" "[I" ∈ TB := List.mem_append_left _ (List.mem_of_getElem? (i := 11) rfl)
theorem t_w12 : Cond.methodLink R_PT 51 y_PT_isLicence ∈ TB := List.mem_append_left _ (List.mem_of_getElem? (i := 12) rfl)
theorem t_w13 : Cond.static y_PT_isLicence ∈ TB := List.mem_append_left _ (List.mem_of_getElem? (i := 13) rfl)
theorem t_w14 : Cond.code y_PT_isLicence b_PT_isLicence 1 (some .boolean) ∈ TB := List.mem_append_left _ (List.mem_of_getElem? (i := 14) rfl)
theorem t_w15 : Cond.methodLink R_PT 55 y_PT_isSpan ∈ TB := List.mem_append_left _ (List.mem_of_getElem? (i := 15) rfl)
theorem t_w16 : Cond.static y_PT_isSpan ∈ TB := List.mem_append_left _ (List.mem_of_getElem? (i := 16) rfl)
theorem t_w17 : Cond.code y_PT_isSpan b_PT_isSpan 2 (some .boolean) ∈ TB := List.mem_append_left _ (List.mem_of_getElem? (i := 17) rfl)
theorem t_w18 : Cond.methodLink R_PT 59 y_PT_isPlace ∈ TB := List.mem_append_left _ (List.mem_of_getElem? (i := 18) rfl)
theorem t_w19 : Cond.static y_PT_isPlace ∈ TB := List.mem_append_left _ (List.mem_of_getElem? (i := 19) rfl)
theorem t_w20 : Cond.code y_PT_isPlace b_PT_isPlace 1 (some .boolean) ∈ TB := List.mem_append_left _ (List.mem_of_getElem? (i := 20) rfl)
theorem t_w21 : Cond.fieldLink R_PT 10 "PilotTugs" "people" "LPilotTugs$People;" ∈ TB := List.mem_append_left _ (List.mem_of_getElem? (i := 21) rfl)
theorem t_w22 : Cond.fieldLink R_PT 69 "PilotTugs$People" "size" "I" ∈ TB := List.mem_append_left _ (List.mem_of_getElem? (i := 22) rfl)
theorem t_w23 : Cond.fieldLink R_PT 47 "PilotTugs" "plan" "LPilotTugs$Plan;" ∈ TB := List.mem_append_left _ (List.mem_of_getElem? (i := 23) rfl)
theorem t_w24 : Cond.fieldLink R_PT 78 "PilotTugs$Plan" "made" "Z" ∈ TB := List.mem_append_left _ (List.mem_of_getElem? (i := 24) rfl)
theorem t_w25 : Cond.methodLink R_PT 82 y_People_add ∈ TB := List.mem_append_left _ (List.mem_of_getElem? (i := 25) rfl)
theorem t_w26 : Cond.instanceMethod y_People_add ∈ TB := List.mem_append_left _ (List.mem_of_getElem? (i := 26) rfl)
theorem t_w27 : Cond.selects R_People y_People_add y_People_add ∈ TB := List.mem_append_left _ (List.mem_of_getElem? (i := 27) rfl)
theorem t_w28 : Cond.initialized R_People ∈ TB := List.mem_append_left _ (List.mem_of_getElem? (i := 28) rfl)
theorem t_w29 : Cond.code y_People_add b_People_add 6 (some .int) ∈ TB := List.mem_append_left _ (List.mem_of_getElem? (i := 29) rfl)
theorem t_w30 : Cond.fieldLink R_Tugs 9 "PilotTugs$Tugs" "size" "I" ∈ TB := List.mem_append_left _ (List.mem_of_getElem? (i := 30) rfl)
theorem t_w31 : Cond.fieldLink R_Tugs 15 "PilotTugs$Tugs" "pull" "[I" ∈ TB := List.mem_append_left _ (List.mem_of_getElem? (i := 31) rfl)
theorem t_w32 : Cond.fieldLink R_PT 26 "PilotTugs" "tugs" "LPilotTugs$Tugs;" ∈ TB := List.mem_append_left _ (List.mem_of_getElem? (i := 32) rfl)
theorem t_w33 : Cond.fieldLink R_PT 92 "PilotTugs$Tugs" "size" "I" ∈ TB := List.mem_append_left _ (List.mem_of_getElem? (i := 33) rfl)
theorem t_w34 : Cond.methodLink R_PT 95 y_Tugs_add ∈ TB := List.mem_append_left _ (List.mem_of_getElem? (i := 34) rfl)
theorem t_w35 : Cond.instanceMethod y_Tugs_add ∈ TB := List.mem_append_left _ (List.mem_of_getElem? (i := 35) rfl)
theorem t_w36 : Cond.selects R_Tugs y_Tugs_add y_Tugs_add ∈ TB := List.mem_append_left _ (List.mem_of_getElem? (i := 36) rfl)
theorem t_w37 : Cond.initialized R_Tugs ∈ TB := List.mem_append_left _ (List.mem_of_getElem? (i := 37) rfl)
theorem t_w38 : Cond.code y_Tugs_add b_Tugs_add 3 (some .int) ∈ TB := List.mem_append_left _ (List.mem_of_getElem? (i := 38) rfl)
theorem t_w39 : Cond.fieldLink R_Jobs 9 "PilotTugs$Jobs" "size" "I" ∈ TB := List.mem_append_left _ (List.mem_of_getElem? (i := 39) rfl)
theorem t_w40 : Cond.fieldLink R_Jobs 15 "PilotTugs$Jobs" "licence" "[I" ∈ TB := List.mem_append_left _ (List.mem_of_getElem? (i := 40) rfl)
theorem t_w41 : Cond.fieldLink R_Jobs 19 "PilotTugs$Jobs" "pull" "[I" ∈ TB := List.mem_append_left _ (List.mem_of_getElem? (i := 41) rfl)
theorem t_w42 : Cond.fieldLink R_Jobs 22 "PilotTugs$Jobs" "from" "[I" ∈ TB := List.mem_append_left _ (List.mem_of_getElem? (i := 42) rfl)
theorem t_w43 : Cond.fieldLink R_Jobs 25 "PilotTugs$Jobs" "to" "[I" ∈ TB := List.mem_append_left _ (List.mem_of_getElem? (i := 43) rfl)
theorem t_w44 : Cond.fieldLink R_Jobs 28 "PilotTugs$Jobs" "place" "[I" ∈ TB := List.mem_append_left _ (List.mem_of_getElem? (i := 44) rfl)
theorem t_w45 : Cond.fieldLink R_PT 19 "PilotTugs" "jobs" "LPilotTugs$Jobs;" ∈ TB := List.mem_append_left _ (List.mem_of_getElem? (i := 45) rfl)
theorem t_w46 : Cond.fieldLink R_PT 102 "PilotTugs$Jobs" "size" "I" ∈ TB := List.mem_append_left _ (List.mem_of_getElem? (i := 46) rfl)
theorem t_w47 : Cond.methodLink R_PT 105 y_Jobs_add ∈ TB := List.mem_append_left _ (List.mem_of_getElem? (i := 47) rfl)
theorem t_w48 : Cond.instanceMethod y_Jobs_add ∈ TB := List.mem_append_left _ (List.mem_of_getElem? (i := 48) rfl)
theorem t_w49 : Cond.selects R_Jobs y_Jobs_add y_Jobs_add ∈ TB := List.mem_append_left _ (List.mem_of_getElem? (i := 49) rfl)
theorem t_w50 : Cond.initialized R_Jobs ∈ TB := List.mem_append_left _ (List.mem_of_getElem? (i := 50) rfl)
theorem t_w51 : Cond.code y_Jobs_add b_Jobs_add 7 (some .int) ∈ TB := List.mem_append_left _ (List.mem_of_getElem? (i := 51) rfl)
theorem t_w52 : Cond.fieldLink R_Ways 15 "PilotTugs$Ways" "minutes" "[I" ∈ TB := List.mem_append_left _ (List.mem_of_getElem? (i := 52) rfl)
theorem t_w53 : Cond.fieldLink R_PT 33 "PilotTugs" "ways" "LPilotTugs$Ways;" ∈ TB := List.mem_append_left _ (List.mem_of_getElem? (i := 53) rfl)
theorem t_w54 : Cond.methodLink R_PT 108 y_Ways_tell ∈ TB := List.mem_append_left _ (List.mem_of_getElem? (i := 54) rfl)
theorem t_w55 : Cond.instanceMethod y_Ways_tell ∈ TB := List.mem_append_left _ (List.mem_of_getElem? (i := 55) rfl)
theorem t_w56 : Cond.selects R_Ways y_Ways_tell y_Ways_tell ∈ TB := List.mem_append_left _ (List.mem_of_getElem? (i := 56) rfl)
theorem t_w57 : Cond.initialized R_Ways ∈ TB := List.mem_append_left _ (List.mem_of_getElem? (i := 57) rfl)
theorem t_w58 : Cond.code y_Ways_tell b_Ways_tell 4 none ∈ TB := List.mem_append_left _ (List.mem_of_getElem? (i := 58) rfl)
theorem t_w59 : Cond.fieldLink R_PT 112 "PilotTugs$Ways" "restMinutes" "I" ∈ TB := List.mem_append_left _ (List.mem_of_getElem? (i := 59) rfl)
theorem t_w60 : Cond.methodLink R_PT 115 y_PT_isPerson ∈ TB := List.mem_append_left _ (List.mem_of_getElem? (i := 60) rfl)
theorem t_w61 : Cond.instanceMethod y_PT_isPerson ∈ TB := List.mem_append_left _ (List.mem_of_getElem? (i := 61) rfl)
theorem t_w62 : Cond.selects R_PT y_PT_isPerson y_PT_isPerson ∈ TB := List.mem_append_left _ (List.mem_of_getElem? (i := 62) rfl)
theorem t_w63 : Cond.code y_PT_isPerson b_PT_isPerson 2 (some .boolean) ∈ TB := List.mem_append_left _ (List.mem_of_getElem? (i := 63) rfl)
theorem t_w64 : Cond.fieldLink R_PT 118 "PilotTugs$People" "does" "[I" ∈ TB := List.mem_append_left _ (List.mem_of_getElem? (i := 64) rfl)
theorem t_w65 : Cond.fieldLink R_Jobs 31 "PilotTugs$Jobs" "inOrder" "[I" ∈ TB := List.mem_append_left _ (List.mem_of_getElem? (i := 65) rfl)
theorem t_w66 : Cond.fieldLink R_People 38 "PilotTugs$Jobs" "size" "I" ∈ TB := List.mem_append_left _ (List.mem_of_getElem? (i := 66) rfl)
theorem t_w67 : Cond.fieldLink R_People 41 "PilotTugs$Jobs" "licence" "[I" ∈ TB := List.mem_append_left _ (List.mem_of_getElem? (i := 67) rfl)
theorem t_w68 : Cond.fieldLink R_People 28 "PilotTugs$People" "does" "[I" ∈ TB := List.mem_append_left _ (List.mem_of_getElem? (i := 68) rfl)
theorem t_w69 : Cond.methodLink R_People 34 y_People_failsForOne ∈ TB := List.mem_append_left _ (List.mem_of_getElem? (i := 69) rfl)
theorem t_w70 : Cond.static y_People_failsForOne ∈ TB := List.mem_append_left _ (List.mem_of_getElem? (i := 70) rfl)
theorem t_w71 : Cond.code y_People_failsForOne b_People_failsForOne 3 (some .boolean) ∈ TB := List.mem_append_left _ (List.mem_of_getElem? (i := 71) rfl)
theorem t_w72 : Cond.fieldLink R_People 31 "PilotTugs$People" "failures" "[I" ∈ TB := List.mem_append_left _ (List.mem_of_getElem? (i := 72) rfl)
theorem t_w73 : Cond.methodLink R_Planner 44 y_Planner_digitShift ∈ TB := List.mem_append_left _ (List.mem_of_getElem? (i := 73) rfl)
theorem t_w74 : Cond.static y_Planner_digitShift ∈ TB := List.mem_append_left _ (List.mem_of_getElem? (i := 74) rfl)
theorem t_w75 : Cond.initialized R_Planner ∈ TB := List.mem_append_left _ (List.mem_of_getElem? (i := 75) rfl)
theorem t_w76 : Cond.code y_Planner_digitShift b_Planner_digitShift 1 (some .int) ∈ TB := List.mem_append_left _ (List.mem_of_getElem? (i := 76) rfl)
theorem t_w77 : Cond.methodLink R_Planner 55 y_Integer_bitCount ∈ TB := List.mem_append_left _ (List.mem_of_getElem? (i := 77) rfl)
theorem t_w78 : Cond.static y_Integer_bitCount ∈ TB := List.mem_append_left _ (List.mem_of_getElem? (i := 78) rfl)
theorem t_w79 : Cond.initialized R_Integer ∈ TB := List.mem_append_left _ (List.mem_of_getElem? (i := 79) rfl)
theorem t_w80 : Cond.code y_Integer_bitCount b_Integer_bitCount 1 (some .int) ∈ TB := List.mem_append_left _ (List.mem_of_getElem? (i := 80) rfl)
theorem t_w81 : Cond.fieldLink R_Planner 11 "PilotTugs$Planner" "least" "[J" ∈ TB := List.mem_append_left _ (List.mem_of_getElem? (i := 81) rfl)
theorem t_w82 : Cond.methodLink R_Planner 89 y_Planner_digits ∈ TB := List.mem_append_left _ (List.mem_of_getElem? (i := 82) rfl)
theorem t_w83 : Cond.static y_Planner_digits ∈ TB := List.mem_append_left _ (List.mem_of_getElem? (i := 83) rfl)
theorem t_w84 : Cond.code y_Planner_digits b_Planner_digits 6 (some .long) ∈ TB := List.mem_append_left _ (List.mem_of_getElem? (i := 84) rfl)
theorem t_w85 : Cond.fieldLink R_Plan 15 "PilotTugs$Plan" "barred" "I" ∈ TB := List.mem_append_left _ (List.mem_of_getElem? (i := 85) rfl)
theorem t_w86 : Cond.fieldLink R_People 42 "PilotTugs$Jobs" "to" "[I" ∈ TB := List.mem_append_left _ (List.mem_of_getElem? (i := 86) rfl)
theorem t_w87 : Cond.fieldLink R_People 43 "PilotTugs$Jobs" "from" "[I" ∈ TB := List.mem_append_left _ (List.mem_of_getElem? (i := 87) rfl)
theorem t_w88 : Cond.fieldLink R_Planner 52 "PilotTugs$People" "does" "[I" ∈ TB := List.mem_append_left _ (List.mem_of_getElem? (i := 88) rfl)
theorem t_w89 : Cond.fieldLink R_Planner 60 "PilotTugs$People" "home" "[I" ∈ TB := List.mem_append_left _ (List.mem_of_getElem? (i := 89) rfl)
theorem t_w90 : Cond.fieldLink R_Planner 63 "PilotTugs$People" "from" "[I" ∈ TB := List.mem_append_left _ (List.mem_of_getElem? (i := 90) rfl)
theorem t_w91 : Cond.fieldLink R_Planner 18 "PilotTugs$Jobs" "size" "I" ∈ TB := List.mem_append_left _ (List.mem_of_getElem? (i := 91) rfl)
theorem t_w92 : Cond.fieldLink R_Planner 66 "PilotTugs$Jobs" "inOrder" "[I" ∈ TB := List.mem_append_left _ (List.mem_of_getElem? (i := 92) rfl)
theorem t_w93 : Cond.fieldLink R_Planner 69 "PilotTugs$Jobs" "place" "[I" ∈ TB := List.mem_append_left _ (List.mem_of_getElem? (i := 93) rfl)
theorem t_w94 : Cond.methodLink R_Planner 72 y_Ways_between ∈ TB := List.mem_append_left _ (List.mem_of_getElem? (i := 94) rfl)
theorem t_w95 : Cond.instanceMethod y_Ways_between ∈ TB := List.mem_append_left _ (List.mem_of_getElem? (i := 95) rfl)
theorem t_w96 : Cond.selects R_Ways y_Ways_between y_Ways_between ∈ TB := List.mem_append_left _ (List.mem_of_getElem? (i := 96) rfl)
theorem t_w97 : Cond.code y_Ways_between b_Ways_between 3 (some .int) ∈ TB := List.mem_append_left _ (List.mem_of_getElem? (i := 97) rfl)
theorem t_w98 : Cond.methodLink R_Planner 78 y_People_isFit ∈ TB := List.mem_append_left _ (List.mem_of_getElem? (i := 98) rfl)
theorem t_w99 : Cond.instanceMethod y_People_isFit ∈ TB := List.mem_append_left _ (List.mem_of_getElem? (i := 99) rfl)
theorem t_w100 : Cond.selects R_People y_People_isFit y_People_isFit ∈ TB := List.mem_append_left _ (List.mem_of_getElem? (i := 100) rfl)
theorem t_w101 : Cond.code y_People_isFit b_People_isFit 4 (some .boolean) ∈ TB := List.mem_append_left _ (List.mem_of_getElem? (i := 101) rfl)
theorem t_w102 : Cond.fieldLink R_Planner 82 "PilotTugs$Jobs" "from" "[I" ∈ TB := List.mem_append_left _ (List.mem_of_getElem? (i := 102) rfl)
theorem t_w103 : Cond.fieldLink R_Planner 83 "PilotTugs$Jobs" "to" "[I" ∈ TB := List.mem_append_left _ (List.mem_of_getElem? (i := 103) rfl)
theorem t_w104 : Cond.fieldLink R_Planner 86 "PilotTugs$Ways" "restMinutes" "I" ∈ TB := List.mem_append_left _ (List.mem_of_getElem? (i := 104) rfl)
theorem t_w105 : Cond.methodLink R_Planner 93 y_Planner_travelOf ∈ TB := List.mem_append_left _ (List.mem_of_getElem? (i := 105) rfl)
theorem t_w106 : Cond.instanceMethod y_Planner_travelOf ∈ TB := List.mem_append_left _ (List.mem_of_getElem? (i := 106) rfl)
theorem t_w107 : Cond.selects R_Planner y_Planner_travelOf y_Planner_travelOf ∈ TB := List.mem_append_left _ (List.mem_of_getElem? (i := 107) rfl)
theorem t_w108 : Cond.code y_Planner_travelOf b_Planner_travelOf 12 (some .int) ∈ TB := List.mem_append_left _ (List.mem_of_getElem? (i := 108) rfl)
theorem t_w109 : Cond.fieldLink R_Planner 15 "PilotTugs$Planner" "own" "[J" ∈ TB := List.mem_append_left _ (List.mem_of_getElem? (i := 109) rfl)
theorem t_w110 : Cond.constantLong R_Planner 97 (-1) ∈ TB := List.mem_append_left _ (List.mem_of_getElem? (i := 110) rfl)
theorem t_w111 : Cond.methodLink R_Planner 99 Lib.MathLoose.min_long.x ∈ TB := List.mem_append_left _ (List.mem_of_getElem? (i := 111) rfl)
theorem t_w112 : Cond.static Lib.MathLoose.min_long.x ∈ TB := List.mem_append_left _ (List.mem_of_getElem? (i := 112) rfl)
theorem t_w113 : Cond.initialized "java/lang/Math" ∈ TB := List.mem_append_left _ (List.mem_of_getElem? (i := 113) rfl)
theorem t_w114 : Cond.code Lib.MathLoose.min_long.x Lib.MathLoose.min_long.code 4 (some .long) ∈ TB := List.mem_append_left _ (List.mem_of_getElem? (i := 114) rfl)
theorem t_w115 : Cond.methodLink R_Planner 24 y_Planner_giveToNobody ∈ TB := List.mem_append_left _ (List.mem_of_getElem? (i := 115) rfl)
theorem t_w116 : Cond.instanceMethod y_Planner_giveToNobody ∈ TB := List.mem_append_left _ (List.mem_of_getElem? (i := 116) rfl)
theorem t_w117 : Cond.selects R_Planner y_Planner_giveToNobody y_Planner_giveToNobody ∈ TB := List.mem_append_left _ (List.mem_of_getElem? (i := 117) rfl)
theorem t_w118 : Cond.code y_Planner_giveToNobody b_Planner_giveToNobody 6 none ∈ TB := List.mem_append_left _ (List.mem_of_getElem? (i := 118) rfl)
theorem t_w119 : Cond.fieldLink R_Planner 28 "PilotTugs$People" "size" "I" ∈ TB := List.mem_append_left _ (List.mem_of_getElem? (i := 119) rfl)
theorem t_w120 : Cond.methodLink R_Planner 31 y_Plan_isBarred ∈ TB := List.mem_append_left _ (List.mem_of_getElem? (i := 120) rfl)
theorem t_w121 : Cond.instanceMethod y_Plan_isBarred ∈ TB := List.mem_append_left _ (List.mem_of_getElem? (i := 121) rfl)
theorem t_w122 : Cond.selects R_Plan y_Plan_isBarred y_Plan_isBarred ∈ TB := List.mem_append_left _ (List.mem_of_getElem? (i := 122) rfl)
theorem t_w123 : Cond.initialized R_Plan ∈ TB := List.mem_append_left _ (List.mem_of_getElem? (i := 123) rfl)
theorem t_w124 : Cond.code y_Plan_isBarred b_Plan_isBarred 2 (some .boolean) ∈ TB := List.mem_append_left _ (List.mem_of_getElem? (i := 124) rfl)
theorem t_w125 : Cond.methodLink R_Planner 37 y_Planner_costOwn ∈ TB := List.mem_append_left _ (List.mem_of_getElem? (i := 125) rfl)
theorem t_w126 : Cond.instanceMethod y_Planner_costOwn ∈ TB := List.mem_append_left _ (List.mem_of_getElem? (i := 126) rfl)
theorem t_w127 : Cond.selects R_Planner y_Planner_costOwn y_Planner_costOwn ∈ TB := List.mem_append_left _ (List.mem_of_getElem? (i := 127) rfl)
theorem t_w128 : Cond.code y_Planner_costOwn b_Planner_costOwn 8 none ∈ TB := List.mem_append_left _ (List.mem_of_getElem? (i := 128) rfl)
theorem t_w129 : Cond.methodLink R_Planner 41 y_Planner_joinOwn ∈ TB := List.mem_append_left _ (List.mem_of_getElem? (i := 129) rfl)
theorem t_w130 : Cond.instanceMethod y_Planner_joinOwn ∈ TB := List.mem_append_left _ (List.mem_of_getElem? (i := 130) rfl)
theorem t_w131 : Cond.selects R_Planner y_Planner_joinOwn y_Planner_joinOwn ∈ TB := List.mem_append_left _ (List.mem_of_getElem? (i := 131) rfl)
theorem t_w132 : Cond.code y_Planner_joinOwn b_Planner_joinOwn 6 none ∈ TB := List.mem_append_left _ (List.mem_of_getElem? (i := 132) rfl)
theorem t_w133 : Cond.fieldLink R_Planner 48 "PilotTugs$Plan" "doer" "[I" ∈ TB := List.mem_append_left _ (List.mem_of_getElem? (i := 133) rfl)
theorem t_w134 : Cond.fieldLink R_Plan 47 "PilotTugs$Jobs" "size" "I" ∈ TB := List.mem_append_left _ (List.mem_of_getElem? (i := 134) rfl)
theorem t_w135 : Cond.fieldLink R_Plan 62 "PilotTugs$Jobs" "inOrder" "[I" ∈ TB := List.mem_append_left _ (List.mem_of_getElem? (i := 135) rfl)
theorem t_w136 : Cond.fieldLink R_Plan 25 "PilotTugs$Plan" "doer" "[I" ∈ TB := List.mem_append_left _ (List.mem_of_getElem? (i := 136) rfl)
theorem t_w137 : Cond.fieldLink R_Plan 29 "PilotTugs$Plan" "travelTo" "[I" ∈ TB := List.mem_append_left _ (List.mem_of_getElem? (i := 137) rfl)
theorem t_w138 : Cond.fieldLink R_Plan 65 "PilotTugs$Jobs" "place" "[I" ∈ TB := List.mem_append_left _ (List.mem_of_getElem? (i := 138) rfl)
theorem t_w139 : Cond.methodLink R_Plan 68 y_Ways_between ∈ TB := List.mem_append_left _ (List.mem_of_getElem? (i := 139) rfl)
theorem t_w140 : Cond.fieldLink R_Plan 22 "PilotTugs$Plan" "travel" "I" ∈ TB := List.mem_append_left _ (List.mem_of_getElem? (i := 140) rfl)
theorem t_w141 : Cond.fieldLink R_Plan 19 "PilotTugs$Plan" "given" "I" ∈ TB := List.mem_append_left _ (List.mem_of_getElem? (i := 141) rfl)
theorem t_w142 : Cond.fieldLink R_Plan 52 "PilotTugs$People" "size" "I" ∈ TB := List.mem_append_left _ (List.mem_of_getElem? (i := 142) rfl)
theorem t_w143 : Cond.fieldLink R_Plan 55 "PilotTugs$People" "home" "[I" ∈ TB := List.mem_append_left _ (List.mem_of_getElem? (i := 143) rfl)
theorem t_w144 : Cond.methodLink R_Plan 58 y_Plan_walkOf ∈ TB := List.mem_append_left _ (List.mem_of_getElem? (i := 144) rfl)
theorem t_w145 : Cond.instanceMethod y_Plan_walkOf ∈ TB := List.mem_append_left _ (List.mem_of_getElem? (i := 145) rfl)
theorem t_w146 : Cond.selects R_Plan y_Plan_walkOf y_Plan_walkOf ∈ TB := List.mem_append_left _ (List.mem_of_getElem? (i := 146) rfl)
theorem t_w147 : Cond.code y_Plan_walkOf b_Plan_walkOf 8 none ∈ TB := List.mem_append_left _ (List.mem_of_getElem? (i := 147) rfl)
theorem t_w148 : Cond.fieldLink R_Tugs 19 "PilotTugs$Jobs" "size" "I" ∈ TB := List.mem_append_left _ (List.mem_of_getElem? (i := 148) rfl)
theorem t_w149 : Cond.methodLink R_Tugs 45 y_Jobs_overlap ∈ TB := List.mem_append_left _ (List.mem_of_getElem? (i := 149) rfl)
theorem t_w150 : Cond.instanceMethod y_Jobs_overlap ∈ TB := List.mem_append_left _ (List.mem_of_getElem? (i := 150) rfl)
theorem t_w151 : Cond.selects R_Jobs y_Jobs_overlap y_Jobs_overlap ∈ TB := List.mem_append_left _ (List.mem_of_getElem? (i := 151) rfl)
theorem t_w152 : Cond.code y_Jobs_overlap b_Jobs_overlap 3 (some .boolean) ∈ TB := List.mem_append_left _ (List.mem_of_getElem? (i := 152) rfl)
theorem t_w153 : Cond.fieldLink R_Tugs 22 "PilotTugs$Plan" "tugsOf" "[I" ∈ TB := List.mem_append_left _ (List.mem_of_getElem? (i := 153) rfl)
theorem t_w154 : Cond.methodLink R_Tugs 56 y_Integer_bitCount ∈ TB := List.mem_append_left _ (List.mem_of_getElem? (i := 154) rfl)
theorem t_w155 : Cond.methodLink R_Tugs 49 y_Tugs_pullOf ∈ TB := List.mem_append_left _ (List.mem_of_getElem? (i := 155) rfl)
theorem t_w156 : Cond.instanceMethod y_Tugs_pullOf ∈ TB := List.mem_append_left _ (List.mem_of_getElem? (i := 156) rfl)
theorem t_w157 : Cond.selects R_Tugs y_Tugs_pullOf y_Tugs_pullOf ∈ TB := List.mem_append_left _ (List.mem_of_getElem? (i := 157) rfl)
theorem t_w158 : Cond.code y_Tugs_pullOf b_Tugs_pullOf 4 (some .int) ∈ TB := List.mem_append_left _ (List.mem_of_getElem? (i := 158) rfl)
theorem t_w159 : Cond.methodLink R_Tugs 53 y_Tugs_isBetter ∈ TB := List.mem_append_left _ (List.mem_of_getElem? (i := 159) rfl)
theorem t_w160 : Cond.instanceMethod y_Tugs_isBetter ∈ TB := List.mem_append_left _ (List.mem_of_getElem? (i := 160) rfl)
theorem t_w161 : Cond.selects R_Tugs y_Tugs_isBetter y_Tugs_isBetter ∈ TB := List.mem_append_left _ (List.mem_of_getElem? (i := 161) rfl)
theorem t_w162 : Cond.code y_Tugs_isBetter b_Tugs_isBetter 6 (some .boolean) ∈ TB := List.mem_append_left _ (List.mem_of_getElem? (i := 162) rfl)
theorem t_w163 : Cond.fieldLink R_Tugs 27 "PilotTugs$Plan" "without" "[I" ∈ TB := List.mem_append_left _ (List.mem_of_getElem? (i := 163) rfl)
theorem t_w164 : Cond.fieldLink R_Tugs 30 "PilotTugs$Jobs" "inOrder" "[I" ∈ TB := List.mem_append_left _ (List.mem_of_getElem? (i := 164) rfl)
theorem t_w165 : Cond.fieldLink R_Tugs 33 "PilotTugs$Plan" "doer" "[I" ∈ TB := List.mem_append_left _ (List.mem_of_getElem? (i := 165) rfl)
theorem t_w166 : Cond.fieldLink R_Tugs 36 "PilotTugs$Jobs" "pull" "[I" ∈ TB := List.mem_append_left _ (List.mem_of_getElem? (i := 166) rfl)
theorem t_w167 : Cond.methodLink R_Tugs 37 y_Tugs_freeFor ∈ TB := List.mem_append_left _ (List.mem_of_getElem? (i := 167) rfl)
theorem t_w168 : Cond.instanceMethod y_Tugs_freeFor ∈ TB := List.mem_append_left _ (List.mem_of_getElem? (i := 168) rfl)
theorem t_w169 : Cond.selects R_Tugs y_Tugs_freeFor y_Tugs_freeFor ∈ TB := List.mem_append_left _ (List.mem_of_getElem? (i := 169) rfl)
theorem t_w170 : Cond.code y_Tugs_freeFor b_Tugs_freeFor 6 (some .int) ∈ TB := List.mem_append_left _ (List.mem_of_getElem? (i := 170) rfl)
theorem t_w171 : Cond.methodLink R_Tugs 41 y_Tugs_choose ∈ TB := List.mem_append_left _ (List.mem_of_getElem? (i := 171) rfl)
theorem t_w172 : Cond.instanceMethod y_Tugs_choose ∈ TB := List.mem_append_left _ (List.mem_of_getElem? (i := 172) rfl)
theorem t_w173 : Cond.selects R_Tugs y_Tugs_choose y_Tugs_choose ∈ TB := List.mem_append_left _ (List.mem_of_getElem? (i := 173) rfl)
theorem t_w174 : Cond.code y_Tugs_choose b_Tugs_choose 5 (some .int) ∈ TB := List.mem_append_left _ (List.mem_of_getElem? (i := 174) rfl)
theorem t_w175 : Cond.methodLink R_PT 197 y_Jobs_putInOrder ∈ TB := List.mem_append_left _ (List.mem_of_getElem? (i := 175) rfl)
theorem t_w176 : Cond.instanceMethod y_Jobs_putInOrder ∈ TB := List.mem_append_left _ (List.mem_of_getElem? (i := 176) rfl)
theorem t_w177 : Cond.selects R_Jobs y_Jobs_putInOrder y_Jobs_putInOrder ∈ TB := List.mem_append_left _ (List.mem_of_getElem? (i := 177) rfl)
theorem t_w178 : Cond.code y_Jobs_putInOrder b_Jobs_putInOrder 3 none ∈ TB := List.mem_append_left _ (List.mem_of_getElem? (i := 178) rfl)
theorem t_w179 : Cond.methodLink R_PT 200 y_People_askRules ∈ TB := List.mem_append_left _ (List.mem_of_getElem? (i := 179) rfl)
theorem t_w180 : Cond.instanceMethod y_People_askRules ∈ TB := List.mem_append_left _ (List.mem_of_getElem? (i := 180) rfl)
theorem t_w181 : Cond.selects R_People y_People_askRules y_People_askRules ∈ TB := List.mem_append_left _ (List.mem_of_getElem? (i := 181) rfl)
theorem t_w182 : Cond.code y_People_askRules b_People_askRules 4 (some .int) ∈ TB := List.mem_append_left _ (List.mem_of_getElem? (i := 182) rfl)
theorem t_w183 : Cond.fieldLink R_PT 194 "PilotTugs$Plan" "barred" "I" ∈ TB := List.mem_append_left _ (List.mem_of_getElem? (i := 183) rfl)
theorem t_w184 : Cond.fieldLink R_PT 40 "PilotTugs" "planner" "LPilotTugs$Planner;" ∈ TB := List.mem_append_left _ (List.mem_of_getElem? (i := 184) rfl)
theorem t_w185 : Cond.methodLink R_PT 204 y_Planner_divide ∈ TB := List.mem_append_left _ (List.mem_of_getElem? (i := 185) rfl)
theorem t_w186 : Cond.instanceMethod y_Planner_divide ∈ TB := List.mem_append_left _ (List.mem_of_getElem? (i := 186) rfl)
theorem t_w187 : Cond.selects R_Planner y_Planner_divide y_Planner_divide ∈ TB := List.mem_append_left _ (List.mem_of_getElem? (i := 187) rfl)
theorem t_w188 : Cond.code y_Planner_divide b_Planner_divide 10 none ∈ TB := List.mem_append_left _ (List.mem_of_getElem? (i := 188) rfl)
theorem t_w189 : Cond.methodLink R_PT 208 y_Plan_walk ∈ TB := List.mem_append_left _ (List.mem_of_getElem? (i := 189) rfl)
theorem t_w190 : Cond.instanceMethod y_Plan_walk ∈ TB := List.mem_append_left _ (List.mem_of_getElem? (i := 190) rfl)
theorem t_w191 : Cond.selects R_Plan y_Plan_walk y_Plan_walk ∈ TB := List.mem_append_left _ (List.mem_of_getElem? (i := 191) rfl)
theorem t_w192 : Cond.code y_Plan_walk b_Plan_walk 5 none ∈ TB := List.mem_append_left _ (List.mem_of_getElem? (i := 192) rfl)
theorem t_w193 : Cond.methodLink R_PT 212 y_Tugs_serve ∈ TB := List.mem_append_left _ (List.mem_of_getElem? (i := 193) rfl)
theorem t_w194 : Cond.instanceMethod y_Tugs_serve ∈ TB := List.mem_append_left _ (List.mem_of_getElem? (i := 194) rfl)
theorem t_w195 : Cond.selects R_Tugs y_Tugs_serve y_Tugs_serve ∈ TB := List.mem_append_left _ (List.mem_of_getElem? (i := 195) rfl)
theorem t_w196 : Cond.code y_Tugs_serve b_Tugs_serve 6 none ∈ TB := List.mem_append_left _ (List.mem_of_getElem? (i := 196) rfl)
theorem t_w197 : Cond.methodLink R_PT 122 y_PT_makePlan ∈ TB := List.mem_append_left _ (List.mem_of_getElem? (i := 197) rfl)
theorem t_w198 : Cond.instanceMethod y_PT_makePlan ∈ TB := List.mem_append_left _ (List.mem_of_getElem? (i := 198) rfl)
theorem t_w199 : Cond.selects R_PT y_PT_makePlan y_PT_makePlan ∈ TB := List.mem_append_left _ (List.mem_of_getElem? (i := 199) rfl)
theorem t_w200 : Cond.code y_PT_makePlan b_PT_makePlan 1 none ∈ TB := List.mem_append_left _ (List.mem_of_getElem? (i := 200) rfl)
theorem t_w201 : Cond.fieldLink R_PT 125 "PilotTugs$Plan" "given" "I" ∈ TB := List.mem_append_left _ (List.mem_of_getElem? (i := 201) rfl)
theorem t_w202 : Cond.fieldLink R_PT 128 "PilotTugs$Plan" "travel" "I" ∈ TB := List.mem_append_left _ (List.mem_of_getElem? (i := 202) rfl)
theorem t_w203 : Cond.fieldLink R_PT 141 "PilotTugs$Plan" "doer" "[I" ∈ TB := List.mem_append_left _ (List.mem_of_getElem? (i := 203) rfl)
theorem t_w204 : Cond.methodLink R_PT 216 y_Plan_isBarred ∈ TB := List.mem_append_left _ (List.mem_of_getElem? (i := 204) rfl)
theorem t_w205 : Cond.fieldLink R_PT 219 "PilotTugs$People" "licence" "[I" ∈ TB := List.mem_append_left _ (List.mem_of_getElem? (i := 205) rfl)
theorem t_w206 : Cond.fieldLink R_PT 222 "PilotTugs$Jobs" "licence" "[I" ∈ TB := List.mem_append_left _ (List.mem_of_getElem? (i := 206) rfl)
theorem t_w207 : Cond.methodLink R_PT 223 y_Planner_travelOf ∈ TB := List.mem_append_left _ (List.mem_of_getElem? (i := 207) rfl)
theorem t_w208 : Cond.methodLink R_PT 131 y_PT_isJob ∈ TB := List.mem_append_left _ (List.mem_of_getElem? (i := 208) rfl)
theorem t_w209 : Cond.instanceMethod y_PT_isJob ∈ TB := List.mem_append_left _ (List.mem_of_getElem? (i := 209) rfl)
theorem t_w210 : Cond.selects R_PT y_PT_isJob y_PT_isJob ∈ TB := List.mem_append_left _ (List.mem_of_getElem? (i := 210) rfl)
theorem t_w211 : Cond.code y_PT_isJob b_PT_isJob 2 (some .boolean) ∈ TB := List.mem_append_left _ (List.mem_of_getElem? (i := 211) rfl)
theorem t_w212 : Cond.fieldLink R_PT 144 "PilotTugs$Plan" "travelTo" "[I" ∈ TB := List.mem_append_left _ (List.mem_of_getElem? (i := 212) rfl)
theorem t_w213 : Cond.fieldLink R_PT 147 "PilotTugs$Plan" "tugsOf" "[I" ∈ TB := List.mem_append_left _ (List.mem_of_getElem? (i := 213) rfl)
theorem t_w214 : Cond.fieldLink R_PT 150 "PilotTugs$Plan" "without" "[I" ∈ TB := List.mem_append_left _ (List.mem_of_getElem? (i := 214) rfl)
theorem t_w215 : Cond.methodLink R_PT 153 y_PT_whyNobody ∈ TB := List.mem_append_left _ (List.mem_of_getElem? (i := 215) rfl)
theorem t_w216 : Cond.instanceMethod y_PT_whyNobody ∈ TB := List.mem_append_left _ (List.mem_of_getElem? (i := 216) rfl)
theorem t_w217 : Cond.selects R_PT y_PT_whyNobody y_PT_whyNobody ∈ TB := List.mem_append_left _ (List.mem_of_getElem? (i := 217) rfl)
theorem t_w218 : Cond.code y_PT_whyNobody b_PT_whyNobody 4 (some .int) ∈ TB := List.mem_append_left _ (List.mem_of_getElem? (i := 218) rfl)
theorem t_w219 : Cond.fieldLink R_Plan 38 "PilotTugs$Plan" "doerBefore" "[I" ∈ TB := List.mem_append_left _ (List.mem_of_getElem? (i := 219) rfl)
theorem t_w220 : Cond.methodLink R_Plan 41 arraycopyName ∈ TB := List.mem_append_left _ (List.mem_of_getElem? (i := 220) rfl)
theorem t_w221 : Cond.native arraycopyName ∈ TB := List.mem_append_left _ (List.mem_of_getElem? (i := 221) rfl)
theorem t_w222 : Cond.static arraycopyName ∈ TB := List.mem_append_left _ (List.mem_of_getElem? (i := 222) rfl)
theorem t_w223 : Cond.initialized "java/lang/System" ∈ TB := List.mem_append_left _ (List.mem_of_getElem? (i := 223) rfl)
theorem t_w224 : Cond.methodLink R_Jobs 34 y_Jobs_minutesOf ∈ TB := List.mem_append_left _ (List.mem_of_getElem? (i := 224) rfl)
theorem t_w225 : Cond.instanceMethod y_Jobs_minutesOf ∈ TB := List.mem_append_left _ (List.mem_of_getElem? (i := 225) rfl)
theorem t_w226 : Cond.selects R_Jobs y_Jobs_minutesOf y_Jobs_minutesOf ∈ TB := List.mem_append_left _ (List.mem_of_getElem? (i := 226) rfl)
theorem t_w227 : Cond.code y_Jobs_minutesOf b_Jobs_minutesOf 2 (some .int) ∈ TB := List.mem_append_left _ (List.mem_of_getElem? (i := 227) rfl)
theorem t_w228 : Cond.methodLink R_PT 158 y_Jobs_minutesOf ∈ TB := List.mem_append_left _ (List.mem_of_getElem? (i := 228) rfl)
theorem t_w229 : Cond.methodLink R_PT 161 y_Plan_keepDoers ∈ TB := List.mem_append_left _ (List.mem_of_getElem? (i := 229) rfl)
theorem t_w230 : Cond.instanceMethod y_Plan_keepDoers ∈ TB := List.mem_append_left _ (List.mem_of_getElem? (i := 230) rfl)
theorem t_w231 : Cond.selects R_Plan y_Plan_keepDoers y_Plan_keepDoers ∈ TB := List.mem_append_left _ (List.mem_of_getElem? (i := 231) rfl)
theorem t_w232 : Cond.code y_Plan_keepDoers b_Plan_keepDoers 1 none ∈ TB := List.mem_append_left _ (List.mem_of_getElem? (i := 232) rfl)
theorem t_w233 : Cond.methodLink R_PT 164 y_Jobs_move ∈ TB := List.mem_append_left _ (List.mem_of_getElem? (i := 233) rfl)
theorem t_w234 : Cond.instanceMethod y_Jobs_move ∈ TB := List.mem_append_left _ (List.mem_of_getElem? (i := 234) rfl)
theorem t_w235 : Cond.selects R_Jobs y_Jobs_move y_Jobs_move ∈ TB := List.mem_append_left _ (List.mem_of_getElem? (i := 235) rfl)
theorem t_w236 : Cond.code y_Jobs_move b_Jobs_move 3 none ∈ TB := List.mem_append_left _ (List.mem_of_getElem? (i := 236) rfl)
theorem t_w237 : Cond.methodLink R_PT 168 y_Plan_otherDoers ∈ TB := List.mem_append_left _ (List.mem_of_getElem? (i := 237) rfl)
theorem t_w238 : Cond.instanceMethod y_Plan_otherDoers ∈ TB := List.mem_append_left _ (List.mem_of_getElem? (i := 238) rfl)
theorem t_w239 : Cond.selects R_Plan y_Plan_otherDoers y_Plan_otherDoers ∈ TB := List.mem_append_left _ (List.mem_of_getElem? (i := 239) rfl)
theorem t_w240 : Cond.code y_Plan_otherDoers b_Plan_otherDoers 4 (some .int) ∈ TB := List.mem_append_left _ (List.mem_of_getElem? (i := 240) rfl)
theorem t_w241 : Cond.fieldLink R_PT 173 "PilotTugs$Jobs" "inOrder" "[I" ∈ TB := List.mem_append_left _ (List.mem_of_getElem? (i := 241) rfl)
theorem t_w242 : Cond.fieldLink R_PT 176 "PilotTugs$People" "from" "[I" ∈ TB := List.mem_append_left _ (List.mem_of_getElem? (i := 242) rfl)
theorem t_w243 : Cond.fieldLink R_PT 179 "PilotTugs$Jobs" "from" "[I" ∈ TB := List.mem_append_left _ (List.mem_of_getElem? (i := 243) rfl)
theorem t_w244 : Cond.fieldLink R_PT 180 "PilotTugs$Jobs" "to" "[I" ∈ TB := List.mem_append_left _ (List.mem_of_getElem? (i := 244) rfl)
theorem t_w245 : Cond.constant R_PT 183 1000000 ∈ TB := List.mem_append_left _ (List.mem_of_getElem? (i := 245) rfl)
theorem t_w246 : Cond.fieldLink R_PT 191 "PilotTugs$People" "failures" "[I" ∈ TB := List.mem_append_left _ (List.mem_of_getElem? (i := 246) rfl)
theorem t_w247 : Cond.fieldLink R_Mo 61 "PilotTugsModel" "thrown" "I" ∈ TB := List.mem_append_left _ (List.mem_of_getElem? (i := 247) rfl)
theorem t_w248 : Cond.fieldLink R_Mo 65 "PilotTugsModel" "people" "I" ∈ TB := List.mem_append_left _ (List.mem_of_getElem? (i := 248) rfl)
theorem t_w249 : Cond.fieldLink R_Mo 68 "PilotTugsModel" "jobs" "I" ∈ TB := List.mem_append_left _ (List.mem_of_getElem? (i := 249) rfl)
theorem t_w250 : Cond.methodLink R_Mo 71 y_Mo_in ∈ TB := List.mem_append_left _ (List.mem_of_getElem? (i := 250) rfl)
theorem t_w251 : Cond.static y_Mo_in ∈ TB := List.mem_append_left _ (List.mem_of_getElem? (i := 251) rfl)
theorem t_w252 : Cond.initialized R_Mo ∈ TB := List.mem_append_left _ (List.mem_of_getElem? (i := 252) rfl)
theorem t_w253 : Cond.code y_Mo_in b_Mo_in 3 (some .boolean) ∈ TB := List.mem_append_left _ (List.mem_of_getElem? (i := 253) rfl)
theorem t_w254 : Cond.methodLink R_Mo 83 y_Mo_refuse ∈ TB := List.mem_append_left _ (List.mem_of_getElem? (i := 254) rfl)
theorem t_w255 : Cond.instanceMethod y_Mo_refuse ∈ TB := List.mem_append_left _ (List.mem_of_getElem? (i := 255) rfl)
theorem t_w256 : Cond.selects R_Mo y_Mo_refuse y_Mo_refuse ∈ TB := List.mem_append_left _ (List.mem_of_getElem? (i := 256) rfl)
theorem t_w257 : Cond.code y_Mo_refuse b_Mo_refuse 2 (some .int) ∈ TB := List.mem_append_left _ (List.mem_of_getElem? (i := 257) rfl)
theorem t_w258 : Cond.methodLink R_Mo 75 y_Mo_isSpan ∈ TB := List.mem_append_left _ (List.mem_of_getElem? (i := 258) rfl)
theorem t_w259 : Cond.static y_Mo_isSpan ∈ TB := List.mem_append_left _ (List.mem_of_getElem? (i := 259) rfl)
theorem t_w260 : Cond.code y_Mo_isSpan b_Mo_isSpan 2 (some .boolean) ∈ TB := List.mem_append_left _ (List.mem_of_getElem? (i := 260) rfl)
theorem t_w261 : Cond.methodLink R_Mo 79 y_Mo_isPlace ∈ TB := List.mem_append_left _ (List.mem_of_getElem? (i := 261) rfl)
theorem t_w262 : Cond.static y_Mo_isPlace ∈ TB := List.mem_append_left _ (List.mem_of_getElem? (i := 262) rfl)
theorem t_w263 : Cond.code y_Mo_isPlace b_Mo_isPlace 1 (some .boolean) ∈ TB := List.mem_append_left _ (List.mem_of_getElem? (i := 263) rfl)
theorem t_w264 : Cond.fieldLink R_Mo 7 "PilotTugsModel" "licence" "[I" ∈ TB := List.mem_append_left _ (List.mem_of_getElem? (i := 264) rfl)
theorem t_w265 : Cond.fieldLink R_Mo 13 "PilotTugsModel" "hoursFrom" "[I" ∈ TB := List.mem_append_left _ (List.mem_of_getElem? (i := 265) rfl)
theorem t_w266 : Cond.fieldLink R_Mo 16 "PilotTugsModel" "hoursTo" "[I" ∈ TB := List.mem_append_left _ (List.mem_of_getElem? (i := 266) rfl)
theorem t_w267 : Cond.fieldLink R_Mo 19 "PilotTugsModel" "home" "[I" ∈ TB := List.mem_append_left _ (List.mem_of_getElem? (i := 267) rfl)
theorem t_w268 : Cond.fieldLink R_Mo 87 "PilotTugsModel" "planned" "Z" ∈ TB := List.mem_append_left _ (List.mem_of_getElem? (i := 268) rfl)
theorem t_w269 : Cond.fieldLink R_Mo 91 "PilotTugsModel" "tugs" "I" ∈ TB := List.mem_append_left _ (List.mem_of_getElem? (i := 269) rfl)
theorem t_w270 : Cond.fieldLink R_Mo 28 "PilotTugsModel" "pull" "[I" ∈ TB := List.mem_append_left _ (List.mem_of_getElem? (i := 270) rfl)
theorem t_w271 : Cond.fieldLink R_Mo 31 "PilotTugsModel" "need" "[I" ∈ TB := List.mem_append_left _ (List.mem_of_getElem? (i := 271) rfl)
theorem t_w272 : Cond.fieldLink R_Mo 34 "PilotTugsModel" "pulls" "[I" ∈ TB := List.mem_append_left _ (List.mem_of_getElem? (i := 272) rfl)
theorem t_w273 : Cond.fieldLink R_Mo 37 "PilotTugsModel" "from" "[I" ∈ TB := List.mem_append_left _ (List.mem_of_getElem? (i := 273) rfl)
theorem t_w274 : Cond.fieldLink R_Mo 40 "PilotTugsModel" "to" "[I" ∈ TB := List.mem_append_left _ (List.mem_of_getElem? (i := 274) rfl)
theorem t_w275 : Cond.fieldLink R_Mo 43 "PilotTugsModel" "place" "[I" ∈ TB := List.mem_append_left _ (List.mem_of_getElem? (i := 275) rfl)
theorem t_w276 : Cond.fieldLink R_Mo 46 "PilotTugsModel" "travel" "[I" ∈ TB := List.mem_append_left _ (List.mem_of_getElem? (i := 276) rfl)
theorem t_w277 : Cond.fieldLink R_Mo 94 "PilotTugsModel" "rest" "I" ∈ TB := List.mem_append_left _ (List.mem_of_getElem? (i := 277) rfl)
theorem t_w278 : Cond.methodLink R_Mo 97 y_Mo_isPerson ∈ TB := List.mem_append_left _ (List.mem_of_getElem? (i := 278) rfl)
theorem t_w279 : Cond.instanceMethod y_Mo_isPerson ∈ TB := List.mem_append_left _ (List.mem_of_getElem? (i := 279) rfl)
theorem t_w280 : Cond.selects R_Mo y_Mo_isPerson y_Mo_isPerson ∈ TB := List.mem_append_left _ (List.mem_of_getElem? (i := 280) rfl)
theorem t_w281 : Cond.code y_Mo_isPerson b_Mo_isPerson 2 (some .boolean) ∈ TB := List.mem_append_left _ (List.mem_of_getElem? (i := 281) rfl)
theorem t_w282 : Cond.fieldLink R_Mo 22 "PilotTugsModel" "rules" "[I" ∈ TB := List.mem_append_left _ (List.mem_of_getElem? (i := 282) rfl)
theorem t_w283 : Cond.methodLink R_Mo 100 y_Mo_next ∈ TB := List.mem_append_left _ (List.mem_of_getElem? (i := 283) rfl)
theorem t_w284 : Cond.instanceMethod y_Mo_next ∈ TB := List.mem_append_left _ (List.mem_of_getElem? (i := 284) rfl)
theorem t_w285 : Cond.selects R_Mo y_Mo_next y_Mo_next ∈ TB := List.mem_append_left _ (List.mem_of_getElem? (i := 285) rfl)
theorem t_w286 : Cond.code y_Mo_next b_Mo_next 7 (some .int) ∈ TB := List.mem_append_left _ (List.mem_of_getElem? (i := 286) rfl)
theorem t_w287 : Cond.constant R_Mo 104 1000000000 ∈ TB := List.mem_append_left _ (List.mem_of_getElem? (i := 287) rfl)
theorem t_w288 : Cond.fieldLink R_Mo 105 "PilotTugsModel" "barred" "I" ∈ TB := List.mem_append_left _ (List.mem_of_getElem? (i := 288) rfl)
theorem t_w289 : Cond.fieldLink R_Mo 25 "PilotTugsModel" "failures" "[I" ∈ TB := List.mem_append_left _ (List.mem_of_getElem? (i := 289) rfl)
theorem t_w290 : Cond.fieldLink R_Mo 58 "PilotTugsModel" "tried" "[I" ∈ TB := List.mem_append_left _ (List.mem_of_getElem? (i := 290) rfl)
theorem t_w291 : Cond.fieldLink R_Mo 55 "PilotTugsModel" "costs" "[I" ∈ TB := List.mem_append_left _ (List.mem_of_getElem? (i := 291) rfl)
theorem t_w292 : Cond.methodLink R_Mo 108 y_Mo_triedOf ∈ TB := List.mem_append_left _ (List.mem_of_getElem? (i := 292) rfl)
theorem t_w293 : Cond.instanceMethod y_Mo_triedOf ∈ TB := List.mem_append_left _ (List.mem_of_getElem? (i := 293) rfl)
theorem t_w294 : Cond.selects R_Mo y_Mo_triedOf y_Mo_triedOf ∈ TB := List.mem_append_left _ (List.mem_of_getElem? (i := 294) rfl)
theorem t_w295 : Cond.code y_Mo_triedOf b_Mo_triedOf 4 (some .int) ∈ TB := List.mem_append_left _ (List.mem_of_getElem? (i := 295) rfl)
theorem t_w296 : Cond.fieldLink R_Mo 52 "PilotTugsModel" "tugsOf" "[I" ∈ TB := List.mem_append_left _ (List.mem_of_getElem? (i := 296) rfl)
theorem t_w297 : Cond.methodLink R_Mo 134 y_Mo_busy ∈ TB := List.mem_append_left _ (List.mem_of_getElem? (i := 297) rfl)
theorem t_w298 : Cond.instanceMethod y_Mo_busy ∈ TB := List.mem_append_left _ (List.mem_of_getElem? (i := 298) rfl)
theorem t_w299 : Cond.selects R_Mo y_Mo_busy y_Mo_busy ∈ TB := List.mem_append_left _ (List.mem_of_getElem? (i := 299) rfl)
theorem t_w300 : Cond.code y_Mo_busy b_Mo_busy 4 (some .int) ∈ TB := List.mem_append_left _ (List.mem_of_getElem? (i := 300) rfl)
theorem t_w301 : Cond.methodLink R_Mo 137 y_Mo_together ∈ TB := List.mem_append_left _ (List.mem_of_getElem? (i := 301) rfl)
theorem t_w302 : Cond.instanceMethod y_Mo_together ∈ TB := List.mem_append_left _ (List.mem_of_getElem? (i := 302) rfl)
theorem t_w303 : Cond.selects R_Mo y_Mo_together y_Mo_together ∈ TB := List.mem_append_left _ (List.mem_of_getElem? (i := 303) rfl)
theorem t_w304 : Cond.code y_Mo_together b_Mo_together 4 (some .int) ∈ TB := List.mem_append_left _ (List.mem_of_getElem? (i := 304) rfl)
theorem t_w305 : Cond.methodLink R_Mo 140 y_Mo_many ∈ TB := List.mem_append_left _ (List.mem_of_getElem? (i := 305) rfl)
theorem t_w306 : Cond.instanceMethod y_Mo_many ∈ TB := List.mem_append_left _ (List.mem_of_getElem? (i := 306) rfl)
theorem t_w307 : Cond.selects R_Mo y_Mo_many y_Mo_many ∈ TB := List.mem_append_left _ (List.mem_of_getElem? (i := 307) rfl)
theorem t_w308 : Cond.code y_Mo_many b_Mo_many 4 (some .int) ∈ TB := List.mem_append_left _ (List.mem_of_getElem? (i := 308) rfl)
theorem t_w309 : Cond.methodLink R_Mo 143 y_Mo_isAhead ∈ TB := List.mem_append_left _ (List.mem_of_getElem? (i := 309) rfl)
theorem t_w310 : Cond.static y_Mo_isAhead ∈ TB := List.mem_append_left _ (List.mem_of_getElem? (i := 310) rfl)
theorem t_w311 : Cond.code y_Mo_isAhead b_Mo_isAhead 3 (some .boolean) ∈ TB := List.mem_append_left _ (List.mem_of_getElem? (i := 311) rfl)
theorem t_w312 : Cond.fieldLink R_Mo 49 "PilotTugsModel" "given" "[I" ∈ TB := List.mem_append_left _ (List.mem_of_getElem? (i := 312) rfl)
theorem t_w313 : Cond.methodLink R_Mo 146 y_Mo_best ∈ TB := List.mem_append_left _ (List.mem_of_getElem? (i := 313) rfl)
theorem t_w314 : Cond.instanceMethod y_Mo_best ∈ TB := List.mem_append_left _ (List.mem_of_getElem? (i := 314) rfl)
theorem t_w315 : Cond.selects R_Mo y_Mo_best y_Mo_best ∈ TB := List.mem_append_left _ (List.mem_of_getElem? (i := 315) rfl)
theorem t_w316 : Cond.code y_Mo_best b_Mo_best 7 (some .int) ∈ TB := List.mem_append_left _ (List.mem_of_getElem? (i := 316) rfl)
theorem t_w317 : Cond.methodLink R_Mo 111 y_Mo_asks ∈ TB := List.mem_append_left _ (List.mem_of_getElem? (i := 317) rfl)
theorem t_w318 : Cond.instanceMethod y_Mo_asks ∈ TB := List.mem_append_left _ (List.mem_of_getElem? (i := 318) rfl)
theorem t_w319 : Cond.selects R_Mo y_Mo_asks y_Mo_asks ∈ TB := List.mem_append_left _ (List.mem_of_getElem? (i := 319) rfl)
theorem t_w320 : Cond.code y_Mo_asks b_Mo_asks 4 none ∈ TB := List.mem_append_left _ (List.mem_of_getElem? (i := 320) rfl)
theorem t_w321 : Cond.methodLink R_Mo 114 y_Mo_isBarred ∈ TB := List.mem_append_left _ (List.mem_of_getElem? (i := 321) rfl)
theorem t_w322 : Cond.instanceMethod y_Mo_isBarred ∈ TB := List.mem_append_left _ (List.mem_of_getElem? (i := 322) rfl)
theorem t_w323 : Cond.selects R_Mo y_Mo_isBarred y_Mo_isBarred ∈ TB := List.mem_append_left _ (List.mem_of_getElem? (i := 323) rfl)
theorem t_w324 : Cond.code y_Mo_isBarred b_Mo_isBarred 2 (some .boolean) ∈ TB := List.mem_append_left _ (List.mem_of_getElem? (i := 324) rfl)
theorem t_w325 : Cond.methodLink R_Mo 117 y_Mo_cost ∈ TB := List.mem_append_left _ (List.mem_of_getElem? (i := 325) rfl)
theorem t_w326 : Cond.instanceMethod y_Mo_cost ∈ TB := List.mem_append_left _ (List.mem_of_getElem? (i := 326) rfl)
theorem t_w327 : Cond.selects R_Mo y_Mo_cost y_Mo_cost ∈ TB := List.mem_append_left _ (List.mem_of_getElem? (i := 327) rfl)
theorem t_w328 : Cond.code y_Mo_cost b_Mo_cost 11 (some .int) ∈ TB := List.mem_append_left _ (List.mem_of_getElem? (i := 328) rfl)
theorem t_w329 : Cond.methodLink R_Mo 131 y_Mo_givesTugs ∈ TB := List.mem_append_left _ (List.mem_of_getElem? (i := 329) rfl)
theorem t_w330 : Cond.instanceMethod y_Mo_givesTugs ∈ TB := List.mem_append_left _ (List.mem_of_getElem? (i := 330) rfl)
theorem t_w331 : Cond.selects R_Mo y_Mo_givesTugs y_Mo_givesTugs ∈ TB := List.mem_append_left _ (List.mem_of_getElem? (i := 331) rfl)
theorem t_w332 : Cond.code y_Mo_givesTugs b_Mo_givesTugs 3 none ∈ TB := List.mem_append_left _ (List.mem_of_getElem? (i := 332) rfl)
theorem t_w333 : Cond.methodLink R_Mo 120 y_Mo_triedMany ∈ TB := List.mem_append_left _ (List.mem_of_getElem? (i := 333) rfl)
theorem t_w334 : Cond.instanceMethod y_Mo_triedMany ∈ TB := List.mem_append_left _ (List.mem_of_getElem? (i := 334) rfl)
theorem t_w335 : Cond.selects R_Mo y_Mo_triedMany y_Mo_triedMany ∈ TB := List.mem_append_left _ (List.mem_of_getElem? (i := 335) rfl)
theorem t_w336 : Cond.code y_Mo_triedMany b_Mo_triedMany 3 (some .int) ∈ TB := List.mem_append_left _ (List.mem_of_getElem? (i := 336) rfl)
theorem t_w337 : Cond.methodLink R_Mo 124 y_Mo_triedCost ∈ TB := List.mem_append_left _ (List.mem_of_getElem? (i := 337) rfl)
theorem t_w338 : Cond.instanceMethod y_Mo_triedCost ∈ TB := List.mem_append_left _ (List.mem_of_getElem? (i := 338) rfl)
theorem t_w339 : Cond.selects R_Mo y_Mo_triedCost y_Mo_triedCost ∈ TB := List.mem_append_left _ (List.mem_of_getElem? (i := 339) rfl)
theorem t_w340 : Cond.code y_Mo_triedCost b_Mo_triedCost 4 (some .int) ∈ TB := List.mem_append_left _ (List.mem_of_getElem? (i := 340) rfl)
theorem t_w341 : Cond.methodLink R_Mo 127 y_Mo_goesOn ∈ TB := List.mem_append_left _ (List.mem_of_getElem? (i := 341) rfl)
theorem t_w342 : Cond.instanceMethod y_Mo_goesOn ∈ TB := List.mem_append_left _ (List.mem_of_getElem? (i := 342) rfl)
theorem t_w343 : Cond.selects R_Mo y_Mo_goesOn y_Mo_goesOn ∈ TB := List.mem_append_left _ (List.mem_of_getElem? (i := 343) rfl)
theorem t_w344 : Cond.code y_Mo_goesOn b_Mo_goesOn 2 (some .boolean) ∈ TB := List.mem_append_left _ (List.mem_of_getElem? (i := 344) rfl)
theorem t_w345 : Cond.methodLink R_Mo 149 y_Mo_givenTo ∈ TB := List.mem_append_left _ (List.mem_of_getElem? (i := 345) rfl)
theorem t_w346 : Cond.instanceMethod y_Mo_givenTo ∈ TB := List.mem_append_left _ (List.mem_of_getElem? (i := 346) rfl)
theorem t_w347 : Cond.selects R_Mo y_Mo_givenTo y_Mo_givenTo ∈ TB := List.mem_append_left _ (List.mem_of_getElem? (i := 347) rfl)
theorem t_w348 : Cond.code y_Mo_givenTo b_Mo_givenTo 4 (some .int) ∈ TB := List.mem_append_left _ (List.mem_of_getElem? (i := 348) rfl)
theorem t_w349 : Cond.methodLink R_Mo 152 y_Mo_search ∈ TB := List.mem_append_left _ (List.mem_of_getElem? (i := 349) rfl)
theorem t_w350 : Cond.instanceMethod y_Mo_search ∈ TB := List.mem_append_left _ (List.mem_of_getElem? (i := 350) rfl)
theorem t_w351 : Cond.selects R_Mo y_Mo_search y_Mo_search ∈ TB := List.mem_append_left _ (List.mem_of_getElem? (i := 351) rfl)
theorem t_w352 : Cond.code y_Mo_search b_Mo_search 7 none ∈ TB := List.mem_append_left _ (List.mem_of_getElem? (i := 352) rfl)
theorem t_w353 : Cond.methodLink R_Mo 155 y_Mo_givenMany ∈ TB := List.mem_append_left _ (List.mem_of_getElem? (i := 353) rfl)
theorem t_w354 : Cond.instanceMethod y_Mo_givenMany ∈ TB := List.mem_append_left _ (List.mem_of_getElem? (i := 354) rfl)
theorem t_w355 : Cond.selects R_Mo y_Mo_givenMany y_Mo_givenMany ∈ TB := List.mem_append_left _ (List.mem_of_getElem? (i := 355) rfl)
theorem t_w356 : Cond.code y_Mo_givenMany b_Mo_givenMany 3 (some .int) ∈ TB := List.mem_append_left _ (List.mem_of_getElem? (i := 356) rfl)
theorem t_w357 : Cond.methodLink R_Mo 158 y_Mo_sum ∈ TB := List.mem_append_left _ (List.mem_of_getElem? (i := 357) rfl)
theorem t_w358 : Cond.instanceMethod y_Mo_sum ∈ TB := List.mem_append_left _ (List.mem_of_getElem? (i := 358) rfl)
theorem t_w359 : Cond.selects R_Mo y_Mo_sum y_Mo_sum ∈ TB := List.mem_append_left _ (List.mem_of_getElem? (i := 359) rfl)
theorem t_w360 : Cond.code y_Mo_sum b_Mo_sum 3 (some .int) ∈ TB := List.mem_append_left _ (List.mem_of_getElem? (i := 360) rfl)
theorem t_w361 : Cond.methodLink R_Mo 161 y_Mo_before ∈ TB := List.mem_append_left _ (List.mem_of_getElem? (i := 361) rfl)
theorem t_w362 : Cond.instanceMethod y_Mo_before ∈ TB := List.mem_append_left _ (List.mem_of_getElem? (i := 362) rfl)
theorem t_w363 : Cond.selects R_Mo y_Mo_before y_Mo_before ∈ TB := List.mem_append_left _ (List.mem_of_getElem? (i := 363) rfl)
theorem t_w364 : Cond.code y_Mo_before b_Mo_before 5 (some .int) ∈ TB := List.mem_append_left _ (List.mem_of_getElem? (i := 364) rfl)
theorem t_w365 : Cond.methodLink R_Mo 164 y_Mo_isJob ∈ TB := List.mem_append_left _ (List.mem_of_getElem? (i := 365) rfl)
theorem t_w366 : Cond.instanceMethod y_Mo_isJob ∈ TB := List.mem_append_left _ (List.mem_of_getElem? (i := 366) rfl)
theorem t_w367 : Cond.selects R_Mo y_Mo_isJob y_Mo_isJob ∈ TB := List.mem_append_left _ (List.mem_of_getElem? (i := 367) rfl)
theorem t_w368 : Cond.code y_Mo_isJob b_Mo_isJob 2 (some .boolean) ∈ TB := List.mem_append_left _ (List.mem_of_getElem? (i := 368) rfl)
theorem t_w369 : Cond.methodLink R_Mo 167 y_Mo_travelTo ∈ TB := List.mem_append_left _ (List.mem_of_getElem? (i := 369) rfl)
theorem t_w370 : Cond.instanceMethod y_Mo_travelTo ∈ TB := List.mem_append_left _ (List.mem_of_getElem? (i := 370) rfl)
theorem t_w371 : Cond.selects R_Mo y_Mo_travelTo y_Mo_travelTo ∈ TB := List.mem_append_left _ (List.mem_of_getElem? (i := 371) rfl)
theorem t_w372 : Cond.code y_Mo_travelTo b_Mo_travelTo 4 (some .int) ∈ TB := List.mem_append_left _ (List.mem_of_getElem? (i := 372) rfl)
theorem t_w373 : Cond.methodLink R_Mo 170 y_Mo_why ∈ TB := List.mem_append_left _ (List.mem_of_getElem? (i := 373) rfl)
theorem t_w374 : Cond.instanceMethod y_Mo_why ∈ TB := List.mem_append_left _ (List.mem_of_getElem? (i := 374) rfl)
theorem t_w375 : Cond.selects R_Mo y_Mo_why y_Mo_why ∈ TB := List.mem_append_left _ (List.mem_of_getElem? (i := 375) rfl)
theorem t_w376 : Cond.code y_Mo_why b_Mo_why 5 (some .int) ∈ TB := List.mem_append_left _ (List.mem_of_getElem? (i := 376) rfl)
theorem t_w377 : Cond.constant R_Mo 173 1000000 ∈ TB := List.mem_append_left _ (List.mem_of_getElem? (i := 377) rfl)
abbrev w_Integer_bitCount : List Cond := Cond.code y_Integer_bitCount b_Integer_bitCount 1 (some .int) :: TB
def rm_Integer_bitCount : Room := { frames := 0, cells := 0, slots := 0, locals := 0 }
abbrev w_PT_isWithin : List Cond := Cond.code y_PT_isWithin b_PT_isWithin 3 (some .boolean) :: TB
def rm_PT_isWithin : Room := { frames := 0, cells := 0, slots := 0, locals := 0 }
abbrev w_PT_isLicence : List Cond := Cond.code y_PT_isLicence b_PT_isLicence 1 (some .boolean) :: TB
def rm_PT_isLicence : Room := { frames := 1, cells := 0, slots := 0, locals := 22 }
abbrev w_PT_isSpan : List Cond := Cond.code y_PT_isSpan b_PT_isSpan 2 (some .boolean) :: TB
def rm_PT_isSpan : Room := { frames := 0, cells := 0, slots := 0, locals := 0 }
abbrev w_PT_isPlace : List Cond := Cond.code y_PT_isPlace b_PT_isPlace 1 (some .boolean) :: TB
def rm_PT_isPlace : Room := { frames := 1, cells := 0, slots := 0, locals := 22 }
abbrev w_People_add : List Cond := Cond.code y_People_add b_People_add 6 (some .int) :: TB
def rm_People_add : Room := { frames := 0, cells := 0, slots := 0, locals := 0 }
abbrev w_PT_person : List Cond := Cond.code y_PT_person b_PT_person 5 (some .int) :: TB
abbrev w_Tugs_add : List Cond := Cond.code y_Tugs_add b_Tugs_add 3 (some .int) :: TB
def rm_Tugs_add : Room := { frames := 0, cells := 0, slots := 0, locals := 0 }
abbrev w_PT_tug : List Cond := Cond.code y_PT_tug b_PT_tug 2 (some .int) :: TB
abbrev w_Jobs_add : List Cond := Cond.code y_Jobs_add b_Jobs_add 7 (some .int) :: TB
def rm_Jobs_add : Room := { frames := 0, cells := 0, slots := 0, locals := 0 }
abbrev w_PT_job : List Cond := Cond.code y_PT_job b_PT_job 6 (some .int) :: TB
abbrev w_Ways_tell : List Cond := Cond.code y_Ways_tell b_Ways_tell 4 none :: TB
def rm_Ways_tell : Room := { frames := 0, cells := 0, slots := 0, locals := 0 }
abbrev w_PT_travels : List Cond := Cond.code y_PT_travels b_PT_travels 4 (some .boolean) :: TB
def rm_PT_travels : Room := { frames := 2, cells := 0, slots := 0, locals := 42 }
abbrev w_PT_rest : List Cond := Cond.code y_PT_rest b_PT_rest 2 (some .boolean) :: TB
def rm_PT_rest : Room := { frames := 1, cells := 0, slots := 0, locals := 22 }
abbrev w_PT_isPerson : List Cond := Cond.code y_PT_isPerson b_PT_isPerson 2 (some .boolean) :: TB
def rm_PT_isPerson : Room := { frames := 1, cells := 0, slots := 0, locals := 22 }
abbrev w_PT_rule : List Cond := Cond.code y_PT_rule b_PT_rule 3 (some .boolean) :: TB
def rm_PT_rule : Room := { frames := 2, cells := 0, slots := 0, locals := 43 }
abbrev w_Jobs_putInOrder : List Cond := Cond.code y_Jobs_putInOrder b_Jobs_putInOrder 3 none :: TB
def rm_Jobs_putInOrder : Room := { frames := 0, cells := 0, slots := 0, locals := 0 }
abbrev w_People_failsForOne : List Cond := Cond.code y_People_failsForOne b_People_failsForOne 3 (some .boolean) :: TB
def rm_People_failsForOne : Room := { frames := 0, cells := 0, slots := 0, locals := 0 }
abbrev w_People_askRules : List Cond := Cond.code y_People_askRules b_People_askRules 4 (some .int) :: TB
def rm_People_askRules : Room := { frames := 1, cells := 0, slots := 0, locals := 22 }
abbrev w_Planner_digitShift : List Cond := Cond.code y_Planner_digitShift b_Planner_digitShift 1 (some .int) :: TB
def rm_Planner_digitShift : Room := { frames := 0, cells := 0, slots := 0, locals := 0 }
abbrev w_Planner_digits : List Cond := Cond.code y_Planner_digits b_Planner_digits 6 (some .long) :: TB
def rm_Planner_digits : Room := { frames := 1, cells := 0, slots := 0, locals := 20 }
abbrev w_Planner_giveToNobody : List Cond := Cond.code y_Planner_giveToNobody b_Planner_giveToNobody 6 none :: TB
def rm_Planner_giveToNobody : Room := { frames := 2, cells := 0, slots := 0, locals := 45 }
abbrev w_Plan_isBarred : List Cond := Cond.code y_Plan_isBarred b_Plan_isBarred 2 (some .boolean) :: TB
def rm_Plan_isBarred : Room := { frames := 0, cells := 0, slots := 0, locals := 0 }
abbrev w_Ways_between : List Cond := Cond.code y_Ways_between b_Ways_between 3 (some .int) :: TB
def rm_Ways_between : Room := { frames := 0, cells := 0, slots := 0, locals := 0 }
abbrev w_People_isFit : List Cond := Cond.code y_People_isFit b_People_isFit 4 (some .boolean) :: TB
def rm_People_isFit : Room := { frames := 0, cells := 0, slots := 0, locals := 0 }
abbrev w_Planner_travelOf : List Cond := Cond.code y_Planner_travelOf b_Planner_travelOf 12 (some .int) :: TB
def rm_Planner_travelOf : Room := { frames := 1, cells := 0, slots := 0, locals := 23 }
abbrev w_Planner_costOwn : List Cond := Cond.code y_Planner_costOwn b_Planner_costOwn 8 none :: TB
def rm_Planner_costOwn : Room := { frames := 2, cells := 0, slots := 0, locals := 54 }
abbrev w_Planner_joinOwn : List Cond := Cond.code y_Planner_joinOwn b_Planner_joinOwn 6 none :: TB
def rm_Planner_joinOwn : Room := { frames := 1, cells := 0, slots := 0, locals := 23 }
abbrev w_Planner_divide : List Cond := Cond.code y_Planner_divide b_Planner_divide 10 none :: TB
def rm_Planner_divide : Room := { frames := 3, cells := 0, slots := 0, locals := 81 }
abbrev w_Plan_walkOf : List Cond := Cond.code y_Plan_walkOf b_Plan_walkOf 8 none :: TB
def rm_Plan_walkOf : Room := { frames := 1, cells := 0, slots := 0, locals := 22 }
abbrev w_Plan_walk : List Cond := Cond.code y_Plan_walk b_Plan_walk 5 none :: TB
def rm_Plan_walk : Room := { frames := 2, cells := 0, slots := 0, locals := 49 }
abbrev w_Jobs_overlap : List Cond := Cond.code y_Jobs_overlap b_Jobs_overlap 3 (some .boolean) :: TB
def rm_Jobs_overlap : Room := { frames := 0, cells := 0, slots := 0, locals := 0 }
abbrev w_Tugs_freeFor : List Cond := Cond.code y_Tugs_freeFor b_Tugs_freeFor 6 (some .int) :: TB
def rm_Tugs_freeFor : Room := { frames := 1, cells := 0, slots := 0, locals := 22 }
abbrev w_Tugs_pullOf : List Cond := Cond.code y_Tugs_pullOf b_Tugs_pullOf 4 (some .int) :: TB
def rm_Tugs_pullOf : Room := { frames := 0, cells := 0, slots := 0, locals := 0 }
abbrev w_Tugs_isBetter : List Cond := Cond.code y_Tugs_isBetter b_Tugs_isBetter 6 (some .boolean) :: TB
def rm_Tugs_isBetter : Room := { frames := 1, cells := 0, slots := 0, locals := 23 }
abbrev w_Tugs_choose : List Cond := Cond.code y_Tugs_choose b_Tugs_choose 5 (some .int) :: TB
def rm_Tugs_choose : Room := { frames := 2, cells := 0, slots := 0, locals := 48 }
abbrev w_Tugs_serve : List Cond := Cond.code y_Tugs_serve b_Tugs_serve 6 none :: TB
def rm_Tugs_serve : Room := { frames := 3, cells := 0, slots := 0, locals := 72 }
abbrev w_PT_makePlan : List Cond := Cond.code y_PT_makePlan b_PT_makePlan 1 none :: TB
def rm_PT_makePlan : Room := { frames := 4, cells := 0, slots := 0, locals := 110 }
abbrev w_PT_assign : List Cond := Cond.code y_PT_assign b_PT_assign 1 (some .int) :: TB
def rm_PT_assign : Room := { frames := 5, cells := 0, slots := 0, locals := 130 }
abbrev w_PT_isJob : List Cond := Cond.code y_PT_isJob b_PT_isJob 2 (some .boolean) :: TB
def rm_PT_isJob : Room := { frames := 1, cells := 0, slots := 0, locals := 22 }
abbrev w_PT_whyNobody : List Cond := Cond.code y_PT_whyNobody b_PT_whyNobody 4 (some .int) :: TB
def rm_PT_whyNobody : Room := { frames := 2, cells := 0, slots := 0, locals := 54 }
abbrev w_PT_of : List Cond := Cond.code y_PT_of b_PT_of 3 (some .int) :: TB
abbrev w_Jobs_minutesOf : List Cond := Cond.code y_Jobs_minutesOf b_Jobs_minutesOf 2 (some .int) :: TB
def rm_Jobs_minutesOf : Room := { frames := 0, cells := 0, slots := 0, locals := 0 }
abbrev w_Plan_keepDoers : List Cond := Cond.code y_Plan_keepDoers b_Plan_keepDoers 1 none :: TB
def rm_Plan_keepDoers : Room := { frames := 1, cells := 0, slots := 0, locals := 60 }
abbrev w_Jobs_move : List Cond := Cond.code y_Jobs_move b_Jobs_move 3 none :: TB
def rm_Jobs_move : Room := { frames := 1, cells := 0, slots := 0, locals := 21 }
abbrev w_Plan_otherDoers : List Cond := Cond.code y_Plan_otherDoers b_Plan_otherDoers 4 (some .int) :: TB
def rm_Plan_otherDoers : Room := { frames := 0, cells := 0, slots := 0, locals := 0 }
abbrev w_PT_late : List Cond := Cond.code y_PT_late b_PT_late 3 (some .int) :: TB
abbrev w_PT_day : List Cond := Cond.code y_PT_day b_PT_day 6 (some .int) :: TB
abbrev w_PT_waits : List Cond := Cond.code y_PT_waits b_PT_waits 6 (some .int) :: TB
abbrev w_PT_share : List Cond := Cond.code y_PT_share b_PT_share 3 (some .int) :: TB
abbrev w_PT_count : List Cond := Cond.code y_PT_count b_PT_count 3 (some .int) :: TB
def rm_PT_count : Room := { frames := 2, cells := 0, slots := 0, locals := 43 }
abbrev w_Mo_thrown : List Cond := Cond.code y_Mo_thrown b_Mo_thrown 1 (some .int) :: TB
def rm_Mo_thrown : Room := { frames := 0, cells := 0, slots := 0, locals := 0 }
abbrev w_Mo_refuse : List Cond := Cond.code y_Mo_refuse b_Mo_refuse 2 (some .int) :: TB
def rm_Mo_refuse : Room := { frames := 0, cells := 0, slots := 0, locals := 0 }
abbrev w_Mo_in : List Cond := Cond.code y_Mo_in b_Mo_in 3 (some .boolean) :: TB
def rm_Mo_in : Room := { frames := 0, cells := 0, slots := 0, locals := 0 }
abbrev w_Mo_isPlace : List Cond := Cond.code y_Mo_isPlace b_Mo_isPlace 1 (some .boolean) :: TB
def rm_Mo_isPlace : Room := { frames := 0, cells := 0, slots := 0, locals := 0 }
abbrev w_Mo_isPerson : List Cond := Cond.code y_Mo_isPerson b_Mo_isPerson 2 (some .boolean) :: TB
def rm_Mo_isPerson : Room := { frames := 0, cells := 0, slots := 0, locals := 0 }
abbrev w_Mo_isJob : List Cond := Cond.code y_Mo_isJob b_Mo_isJob 2 (some .boolean) :: TB
def rm_Mo_isJob : Room := { frames := 0, cells := 0, slots := 0, locals := 0 }
abbrev w_Mo_isSpan : List Cond := Cond.code y_Mo_isSpan b_Mo_isSpan 2 (some .boolean) :: TB
def rm_Mo_isSpan : Room := { frames := 0, cells := 0, slots := 0, locals := 0 }
abbrev w_Mo_person : List Cond := Cond.code y_Mo_person b_Mo_person 5 (some .int) :: TB
def rm_Mo_person : Room := { frames := 1, cells := 0, slots := 0, locals := 22 }
abbrev w_Mo_tug : List Cond := Cond.code y_Mo_tug b_Mo_tug 2 (some .int) :: TB
def rm_Mo_tug : Room := { frames := 1, cells := 0, slots := 0, locals := 22 }
abbrev w_Mo_job : List Cond := Cond.code y_Mo_job b_Mo_job 6 (some .int) :: TB
def rm_Mo_job : Room := { frames := 1, cells := 0, slots := 0, locals := 22 }
abbrev w_Mo_travels : List Cond := Cond.code y_Mo_travels b_Mo_travels 4 (some .boolean) :: TB
def rm_Mo_travels : Room := { frames := 1, cells := 0, slots := 0, locals := 22 }
abbrev w_Mo_rest : List Cond := Cond.code y_Mo_rest b_Mo_rest 2 (some .boolean) :: TB
def rm_Mo_rest : Room := { frames := 1, cells := 0, slots := 0, locals := 22 }
abbrev w_Mo_rule : List Cond := Cond.code y_Mo_rule b_Mo_rule 3 (some .boolean) :: TB
def rm_Mo_rule : Room := { frames := 1, cells := 0, slots := 0, locals := 22 }
abbrev w_Mo_next : List Cond := Cond.code y_Mo_next b_Mo_next 7 (some .int) :: TB
def rm_Mo_next : Room := { frames := 0, cells := 0, slots := 0, locals := 0 }
abbrev w_Mo_cost : List Cond := Cond.code y_Mo_cost b_Mo_cost 11 (some .int) :: TB
def rm_Mo_cost : Room := { frames := 1, cells := 0, slots := 0, locals := 26 }
abbrev w_Mo_isBarred : List Cond := Cond.code y_Mo_isBarred b_Mo_isBarred 2 (some .boolean) :: TB
def rm_Mo_isBarred : Room := { frames := 0, cells := 0, slots := 0, locals := 0 }
abbrev w_Mo_asks : List Cond := Cond.code y_Mo_asks b_Mo_asks 4 none :: TB
def rm_Mo_asks : Room := { frames := 0, cells := 0, slots := 0, locals := 0 }
abbrev w_Mo_triedOf : List Cond := Cond.code y_Mo_triedOf b_Mo_triedOf 4 (some .int) :: TB
def rm_Mo_triedOf : Room := { frames := 0, cells := 0, slots := 0, locals := 0 }
abbrev w_Mo_triedCost : List Cond := Cond.code y_Mo_triedCost b_Mo_triedCost 4 (some .int) :: TB
def rm_Mo_triedCost : Room := { frames := 1, cells := 0, slots := 0, locals := 23 }
abbrev w_Mo_triedMany : List Cond := Cond.code y_Mo_triedMany b_Mo_triedMany 3 (some .int) :: TB
def rm_Mo_triedMany : Room := { frames := 0, cells := 0, slots := 0, locals := 0 }
abbrev w_Mo_goesOn : List Cond := Cond.code y_Mo_goesOn b_Mo_goesOn 2 (some .boolean) :: TB
def rm_Mo_goesOn : Room := { frames := 0, cells := 0, slots := 0, locals := 0 }
abbrev w_Mo_busy : List Cond := Cond.code y_Mo_busy b_Mo_busy 4 (some .int) :: TB
def rm_Mo_busy : Room := { frames := 0, cells := 0, slots := 0, locals := 0 }
abbrev w_Mo_together : List Cond := Cond.code y_Mo_together b_Mo_together 4 (some .int) :: TB
def rm_Mo_together : Room := { frames := 0, cells := 0, slots := 0, locals := 0 }
abbrev w_Mo_many : List Cond := Cond.code y_Mo_many b_Mo_many 4 (some .int) :: TB
def rm_Mo_many : Room := { frames := 0, cells := 0, slots := 0, locals := 0 }
abbrev w_Mo_isAhead : List Cond := Cond.code y_Mo_isAhead b_Mo_isAhead 3 (some .boolean) :: TB
def rm_Mo_isAhead : Room := { frames := 0, cells := 0, slots := 0, locals := 0 }
abbrev w_Mo_best : List Cond := Cond.code y_Mo_best b_Mo_best 7 (some .int) :: TB
def rm_Mo_best : Room := { frames := 1, cells := 0, slots := 0, locals := 23 }
abbrev w_Mo_givesTugs : List Cond := Cond.code y_Mo_givesTugs b_Mo_givesTugs 3 none :: TB
def rm_Mo_givesTugs : Room := { frames := 2, cells := 0, slots := 0, locals := 49 }
abbrev w_Mo_search : List Cond := Cond.code y_Mo_search b_Mo_search 7 none :: TB
def rm_Mo_search : Room := { frames := 3, cells := 0, slots := 0, locals := 71 }
abbrev w_Mo_givenTo : List Cond := Cond.code y_Mo_givenTo b_Mo_givenTo 4 (some .int) :: TB
def rm_Mo_givenTo : Room := { frames := 0, cells := 0, slots := 0, locals := 0 }
abbrev w_Mo_sum : List Cond := Cond.code y_Mo_sum b_Mo_sum 3 (some .int) :: TB
def rm_Mo_sum : Room := { frames := 2, cells := 0, slots := 0, locals := 56 }
abbrev w_Mo_givenMany : List Cond := Cond.code y_Mo_givenMany b_Mo_givenMany 3 (some .int) :: TB
def rm_Mo_givenMany : Room := { frames := 0, cells := 0, slots := 0, locals := 0 }
abbrev w_Mo_assign : List Cond := Cond.code y_Mo_assign b_Mo_assign 1 (some .int) :: TB
def rm_Mo_assign : Room := { frames := 4, cells := 0, slots := 0, locals := 97 }
abbrev w_Mo_before : List Cond := Cond.code y_Mo_before b_Mo_before 5 (some .int) :: TB
def rm_Mo_before : Room := { frames := 1, cells := 0, slots := 0, locals := 26 }
abbrev w_Mo_travelTo : List Cond := Cond.code y_Mo_travelTo b_Mo_travelTo 4 (some .int) :: TB
def rm_Mo_travelTo : Room := { frames := 2, cells := 0, slots := 0, locals := 50 }
abbrev w_Mo_why : List Cond := Cond.code y_Mo_why b_Mo_why 5 (some .int) :: TB
def rm_Mo_why : Room := { frames := 2, cells := 0, slots := 0, locals := 56 }
abbrev w_Mo_of : List Cond := Cond.code y_Mo_of b_Mo_of 4 (some .int) :: TB
def rm_Mo_of : Room := { frames := 3, cells := 0, slots := 0, locals := 80 }
abbrev w_Mo_late : List Cond := Cond.code y_Mo_late b_Mo_late 7 (some .int) :: TB
def rm_Mo_late : Room := { frames := 4, cells := 0, slots := 0, locals := 97 }
abbrev w_Mo_day : List Cond := Cond.code y_Mo_day b_Mo_day 5 (some .int) :: TB
def rm_Mo_day : Room := { frames := 1, cells := 0, slots := 0, locals := 26 }
abbrev w_Mo_waits : List Cond := Cond.code y_Mo_waits b_Mo_waits 6 (some .int) :: TB
def rm_Mo_waits : Room := { frames := 1, cells := 0, slots := 0, locals := 26 }
abbrev w_Mo_share : List Cond := Cond.code y_Mo_share b_Mo_share 3 (some .int) :: TB
def rm_Mo_share : Room := { frames := 1, cells := 0, slots := 0, locals := 22 }
abbrev w_Mo_count : List Cond := Cond.code y_Mo_count b_Mo_count 2 (some .int) :: TB
def rm_Mo_count : Room := { frames := 1, cells := 0, slots := 0, locals := 22 }
