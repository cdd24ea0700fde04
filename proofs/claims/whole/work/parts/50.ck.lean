def TK : List Cond := [Cond.methodLink R_People 3 objectInit,
  Cond.instanceMethod objectInit,
  Cond.code objectInit ⟨#[0xb1]⟩ 1 none,
  Cond.fieldLink R_People 9 "PilotTugs$People" "size" "I",
  Cond.arrayClass .int,
  Cond.fieldLink R_People 15 "PilotTugs$People" "licence" "[I",
  Cond.fieldLink R_People 19 "PilotTugs$People" "from" "[I",
  Cond.fieldLink R_People 22 "PilotTugs$People" "to" "[I",
  Cond.fieldLink R_People 25 "PilotTugs$People" "home" "[I",
  Cond.fieldLink R_People 28 "PilotTugs$People" "does" "[I",
  Cond.fieldLink R_People 31 "PilotTugs$People" "failures" "[I",
  Cond.methodLink R_Jobs 3 objectInit,
  Cond.fieldLink R_Jobs 9 "PilotTugs$Jobs" "size" "I",
  Cond.fieldLink R_Jobs 15 "PilotTugs$Jobs" "licence" "[I",
  Cond.fieldLink R_Jobs 19 "PilotTugs$Jobs" "pull" "[I",
  Cond.fieldLink R_Jobs 22 "PilotTugs$Jobs" "from" "[I",
  Cond.fieldLink R_Jobs 25 "PilotTugs$Jobs" "to" "[I",
  Cond.fieldLink R_Jobs 28 "PilotTugs$Jobs" "place" "[I",
  Cond.fieldLink R_Jobs 31 "PilotTugs$Jobs" "inOrder" "[I",
  Cond.methodLink R_Tugs 3 objectInit,
  Cond.fieldLink R_Tugs 9 "PilotTugs$Tugs" "size" "I",
  Cond.fieldLink R_Tugs 15 "PilotTugs$Tugs" "pull" "[I",
  Cond.methodLink R_Planner 5 objectInit,
  Cond.arrayClass .long,
  Cond.fieldLink R_Planner 11 "PilotTugs$Planner" "least" "[J",
  Cond.fieldLink R_Planner 15 "PilotTugs$Planner" "own" "[J",
  Cond.methodLink R_Plan 3 objectInit,
  Cond.fieldLink R_Plan 9 "PilotTugs$Plan" "made" "Z",
  Cond.fieldLink R_Plan 15 "PilotTugs$Plan" "barred" "I",
  Cond.fieldLink R_Plan 19 "PilotTugs$Plan" "given" "I",
  Cond.fieldLink R_Plan 22 "PilotTugs$Plan" "travel" "I",
  Cond.fieldLink R_Plan 25 "PilotTugs$Plan" "doer" "[I",
  Cond.fieldLink R_Plan 29 "PilotTugs$Plan" "travelTo" "[I",
  Cond.fieldLink R_Plan 32 "PilotTugs$Plan" "tugsOf" "[I",
  Cond.fieldLink R_Plan 35 "PilotTugs$Plan" "without" "[I",
  Cond.fieldLink R_Plan 38 "PilotTugs$Plan" "doerBefore" "[I",
  Cond.methodLink R_Ways 3 objectInit,
  Cond.fieldLink R_Ways 9 "PilotTugs$Ways" "restMinutes" "I",
  Cond.fieldLink R_Ways 15 "PilotTugs$Ways" "minutes" "[I",
  Cond.methodLink R_Mo 1 objectInit,
  Cond.fieldLink R_Mo 7 "PilotTugsModel" "licence" "[I",
  Cond.fieldLink R_Mo 13 "PilotTugsModel" "hoursFrom" "[I",
  Cond.fieldLink R_Mo 16 "PilotTugsModel" "hoursTo" "[I",
  Cond.fieldLink R_Mo 19 "PilotTugsModel" "home" "[I",
  Cond.fieldLink R_Mo 22 "PilotTugsModel" "rules" "[I",
  Cond.fieldLink R_Mo 25 "PilotTugsModel" "failures" "[I",
  Cond.fieldLink R_Mo 28 "PilotTugsModel" "pull" "[I",
  Cond.fieldLink R_Mo 31 "PilotTugsModel" "need" "[I",
  Cond.fieldLink R_Mo 34 "PilotTugsModel" "pulls" "[I",
  Cond.fieldLink R_Mo 37 "PilotTugsModel" "from" "[I",
  Cond.fieldLink R_Mo 40 "PilotTugsModel" "to" "[I",
  Cond.fieldLink R_Mo 43 "PilotTugsModel" "place" "[I",
  Cond.fieldLink R_Mo 46 "PilotTugsModel" "travel" "[I",
  Cond.fieldLink R_Mo 49 "PilotTugsModel" "given" "[I",
  Cond.fieldLink R_Mo 52 "PilotTugsModel" "tugsOf" "[I",
  Cond.fieldLink R_Mo 55 "PilotTugsModel" "costs" "[I",
  Cond.fieldLink R_Mo 58 "PilotTugsModel" "tried" "[I",
  Cond.methodLink R_PT 1 objectInit,
  Cond.classLink R_PT 7 R_People,
  Cond.instantiable R_People 7,
  Cond.initialized R_People,
  Cond.code y_People_init b_People_init 1 none,
  Cond.instanceMethod y_People_init,
  Cond.fieldLink R_PT 10 "PilotTugs" "people" "LPilotTugs$People;",
  Cond.classLink R_PT 16 R_Jobs,
  Cond.instantiable R_Jobs 7,
  Cond.initialized R_Jobs,
  Cond.code y_Jobs_init b_Jobs_init 1 none,
  Cond.instanceMethod y_Jobs_init,
  Cond.fieldLink R_PT 19 "PilotTugs" "jobs" "LPilotTugs$Jobs;",
  Cond.classLink R_PT 23 R_Tugs,
  Cond.instantiable R_Tugs 2,
  Cond.initialized R_Tugs,
  Cond.code y_Tugs_init b_Tugs_init 1 none,
  Cond.instanceMethod y_Tugs_init,
  Cond.fieldLink R_PT 26 "PilotTugs" "tugs" "LPilotTugs$Tugs;",
  Cond.classLink R_PT 30 R_Ways,
  Cond.instantiable R_Ways 2,
  Cond.initialized R_Ways,
  Cond.code y_Ways_init b_Ways_init 3 none,
  Cond.instanceMethod y_Ways_init,
  Cond.methodLink R_PT 32 y_Ways_init,
  Cond.fieldLink R_PT 33 "PilotTugs" "ways" "LPilotTugs$Ways;",
  Cond.classLink R_PT 37 R_Planner,
  Cond.instantiable R_Planner 2,
  Cond.initialized R_Planner,
  Cond.code y_Planner_init b_Planner_init 1 none,
  Cond.instanceMethod y_Planner_init,
  Cond.fieldLink R_PT 40 "PilotTugs" "planner" "LPilotTugs$Planner;",
  Cond.classLink R_PT 44 R_Plan,
  Cond.instantiable R_Plan 9,
  Cond.initialized R_Plan,
  Cond.code y_Plan_init b_Plan_init 1 none,
  Cond.instanceMethod y_Plan_init,
  Cond.fieldLink R_PT 47 "PilotTugs" "plan" "LPilotTugs$Plan;"]
def TKB : List Cond := TK ++ TB
theorem TK_all : TK.all goodWord = true := by decide +kernel
theorem TKB_good : ∀ w ∈ TKB, (w.onTables && w.keeps) = true ∨ ∃ ty, w = .arrayClass ty := fun w h => (List.mem_append.mp h).elim (fun h => good_of_word (List.all_eq_true.mp TK_all w h)) (fun h => TB_good w h)
theorem gK_good {ws : List Cond} {w0 : Cond} (hc : w0 ∈ TK) (hw : ws = w0 :: TKB) : GoodIn TKB ws := by
  intro w h
  rw [hw] at h
  rcases List.mem_cons.mp h with rfl | h
  · exact ⟨List.mem_append_left _ hc, TKB_good _ (List.mem_append_left _ hc)⟩
  · exact ⟨h, TKB_good _ h⟩
theorem kk_0 : Cond.methodLink R_People 3 objectInit ∈ TK := List.mem_of_getElem? (i := 0) rfl
theorem kw_0 : Cond.methodLink R_People 3 objectInit ∈ TKB := List.mem_append_left _ kk_0
theorem kk_1 : Cond.instanceMethod objectInit ∈ TK := List.mem_of_getElem? (i := 1) rfl
theorem kw_1 : Cond.instanceMethod objectInit ∈ TKB := List.mem_append_left _ kk_1
theorem kk_2 : Cond.code objectInit ⟨#[0xb1]⟩ 1 none ∈ TK := List.mem_of_getElem? (i := 2) rfl
theorem kw_2 : Cond.code objectInit ⟨#[0xb1]⟩ 1 none ∈ TKB := List.mem_append_left _ kk_2
theorem kk_3 : Cond.fieldLink R_People 9 "PilotTugs$People" "size" "I" ∈ TK := List.mem_of_getElem? (i := 3) rfl
theorem kw_3 : Cond.fieldLink R_People 9 "PilotTugs$People" "size" "I" ∈ TKB := List.mem_append_left _ kk_3
theorem kk_4 : Cond.arrayClass .int ∈ TK := List.mem_of_getElem? (i := 4) rfl
theorem kw_4 : Cond.arrayClass .int ∈ TKB := List.mem_append_left _ kk_4
theorem kk_5 : Cond.fieldLink R_People 15 "PilotTugs$People" "licence" "[I" ∈ TK := List.mem_of_getElem? (i := 5) rfl
theorem kw_5 : Cond.fieldLink R_People 15 "PilotTugs$People" "licence" "[I" ∈ TKB := List.mem_append_left _ kk_5
theorem kk_6 : Cond.fieldLink R_People 19 "PilotTugs$People" "from" "[I" ∈ TK := List.mem_of_getElem? (i := 6) rfl
theorem kw_6 : Cond.fieldLink R_People 19 "PilotTugs$People" "from" "[I" ∈ TKB := List.mem_append_left _ kk_6
theorem kk_7 : Cond.fieldLink R_People 22 "PilotTugs$People" "to" "[I" ∈ TK := List.mem_of_getElem? (i := 7) rfl
theorem kw_7 : Cond.fieldLink R_People 22 "PilotTugs$People" "to" "[I" ∈ TKB := List.mem_append_left _ kk_7
theorem kk_8 : Cond.fieldLink R_People 25 "PilotTugs$People" "home" "[I" ∈ TK := List.mem_of_getElem? (i := 8) rfl
theorem kw_8 : Cond.fieldLink R_People 25 "PilotTugs$People" "home" "[I" ∈ TKB := List.mem_append_left _ kk_8
theorem kk_9 : Cond.fieldLink R_People 28 "PilotTugs$People" "does" "[I" ∈ TK := List.mem_of_getElem? (i := 9) rfl
theorem kw_9 : Cond.fieldLink R_People 28 "PilotTugs$People" "does" "[I" ∈ TKB := List.mem_append_left _ kk_9
theorem kk_10 : Cond.fieldLink R_People 31 "PilotTugs$People" "failures" "[I" ∈ TK := List.mem_of_getElem? (i := 10) rfl
theorem kw_10 : Cond.fieldLink R_People 31 "PilotTugs$People" "failures" "[I" ∈ TKB := List.mem_append_left _ kk_10
theorem kk_11 : Cond.methodLink R_Jobs 3 objectInit ∈ TK := List.mem_of_getElem? (i := 11) rfl
theorem kw_11 : Cond.methodLink R_Jobs 3 objectInit ∈ TKB := List.mem_append_left _ kk_11
theorem kk_12 : Cond.fieldLink R_Jobs 9 "PilotTugs$Jobs" "size" "I" ∈ TK := List.mem_of_getElem? (i := 12) rfl
theorem kw_12 : Cond.fieldLink R_Jobs 9 "PilotTugs$Jobs" "size" "I" ∈ TKB := List.mem_append_left _ kk_12
theorem kk_13 : Cond.fieldLink R_Jobs 15 "PilotTugs$Jobs" "licence" "[I" ∈ TK := List.mem_of_getElem? (i := 13) rfl
theorem kw_13 : Cond.fieldLink R_Jobs 15 "PilotTugs$Jobs" "licence" "[I" ∈ TKB := List.mem_append_left _ kk_13
theorem kk_14 : Cond.fieldLink R_Jobs 19 "PilotTugs$Jobs" "pull" "[I" ∈ TK := List.mem_of_getElem? (i := 14) rfl
theorem kw_14 : Cond.fieldLink R_Jobs 19 "PilotTugs$Jobs" "pull" "[I" ∈ TKB := List.mem_append_left _ kk_14
theorem kk_15 : Cond.fieldLink R_Jobs 22 "PilotTugs$Jobs" "from" "[I" ∈ TK := List.mem_of_getElem? (i := 15) rfl
theorem kw_15 : Cond.fieldLink R_Jobs 22 "PilotTugs$Jobs" "from" "[I" ∈ TKB := List.mem_append_left _ kk_15
theorem kk_16 : Cond.fieldLink R_Jobs 25 "PilotTugs$Jobs" "to" "[I" ∈ TK := List.mem_of_getElem? (i := 16) rfl
theorem kw_16 : Cond.fieldLink R_Jobs 25 "PilotTugs$Jobs" "to" "[I" ∈ TKB := List.mem_append_left _ kk_16
theorem kk_17 : Cond.fieldLink R_Jobs 28 "PilotTugs$Jobs" "place" "[I" ∈ TK := List.mem_of_getElem? (i := 17) rfl
theorem kw_17 : Cond.fieldLink R_Jobs 28 "PilotTugs$Jobs" "place" "[I" ∈ TKB := List.mem_append_left _ kk_17
theorem kk_18 : Cond.fieldLink R_Jobs 31 "PilotTugs$Jobs" "inOrder" "[I" ∈ TK := List.mem_of_getElem? (i := 18) rfl
theorem kw_18 : Cond.fieldLink R_Jobs 31 "PilotTugs$Jobs" "inOrder" "[I" ∈ TKB := List.mem_append_left _ kk_18
theorem kk_19 : Cond.methodLink R_Tugs 3 objectInit ∈ TK := List.mem_of_getElem? (i := 19) rfl
theorem kw_19 : Cond.methodLink R_Tugs 3 objectInit ∈ TKB := List.mem_append_left _ kk_19
theorem kk_20 : Cond.fieldLink R_Tugs 9 "PilotTugs$Tugs" "size" "I" ∈ TK := List.mem_of_getElem? (i := 20) rfl
theorem kw_20 : Cond.fieldLink R_Tugs 9 "PilotTugs$Tugs" "size" "I" ∈ TKB := List.mem_append_left _ kk_20
theorem kk_21 : Cond.fieldLink R_Tugs 15 "PilotTugs$Tugs" "pull" "[I" ∈ TK := List.mem_of_getElem? (i := 21) rfl
theorem kw_21 : Cond.fieldLink R_Tugs 15 "PilotTugs$Tugs" "pull" "[I" ∈ TKB := List.mem_append_left _ kk_21
theorem kk_22 : Cond.methodLink R_Planner 5 objectInit ∈ TK := List.mem_of_getElem? (i := 22) rfl
theorem kw_22 : Cond.methodLink R_Planner 5 objectInit ∈ TKB := List.mem_append_left _ kk_22
theorem kk_23 : Cond.arrayClass .long ∈ TK := List.mem_of_getElem? (i := 23) rfl
theorem kw_23 : Cond.arrayClass .long ∈ TKB := List.mem_append_left _ kk_23
theorem kk_24 : Cond.fieldLink R_Planner 11 "PilotTugs$Planner" "least" "[J" ∈ TK := List.mem_of_getElem? (i := 24) rfl
theorem kw_24 : Cond.fieldLink R_Planner 11 "PilotTugs$Planner" "least" "[J" ∈ TKB := List.mem_append_left _ kk_24
theorem kk_25 : Cond.fieldLink R_Planner 15 "PilotTugs$Planner" "own" "[J" ∈ TK := List.mem_of_getElem? (i := 25) rfl
theorem kw_25 : Cond.fieldLink R_Planner 15 "PilotTugs$Planner" "own" "[J" ∈ TKB := List.mem_append_left _ kk_25
theorem kk_26 : Cond.methodLink R_Plan 3 objectInit ∈ TK := List.mem_of_getElem? (i := 26) rfl
theorem kw_26 : Cond.methodLink R_Plan 3 objectInit ∈ TKB := List.mem_append_left _ kk_26
theorem kk_27 : Cond.fieldLink R_Plan 9 "PilotTugs$Plan" "made" "Z" ∈ TK := List.mem_of_getElem? (i := 27) rfl
theorem kw_27 : Cond.fieldLink R_Plan 9 "PilotTugs$Plan" "made" "Z" ∈ TKB := List.mem_append_left _ kk_27
theorem kk_28 : Cond.fieldLink R_Plan 15 "PilotTugs$Plan" "barred" "I" ∈ TK := List.mem_of_getElem? (i := 28) rfl
theorem kw_28 : Cond.fieldLink R_Plan 15 "PilotTugs$Plan" "barred" "I" ∈ TKB := List.mem_append_left _ kk_28
theorem kk_29 : Cond.fieldLink R_Plan 19 "PilotTugs$Plan" "given" "I" ∈ TK := List.mem_of_getElem? (i := 29) rfl
theorem kw_29 : Cond.fieldLink R_Plan 19 "PilotTugs$Plan" "given" "I" ∈ TKB := List.mem_append_left _ kk_29
theorem kk_30 : Cond.fieldLink R_Plan 22 "PilotTugs$Plan" "travel" "I" ∈ TK := List.mem_of_getElem? (i := 30) rfl
theorem kw_30 : Cond.fieldLink R_Plan 22 "PilotTugs$Plan" "travel" "I" ∈ TKB := List.mem_append_left _ kk_30
theorem kk_31 : Cond.fieldLink R_Plan 25 "PilotTugs$Plan" "doer" "[I" ∈ TK := List.mem_of_getElem? (i := 31) rfl
theorem kw_31 : Cond.fieldLink R_Plan 25 "PilotTugs$Plan" "doer" "[I" ∈ TKB := List.mem_append_left _ kk_31
theorem kk_32 : Cond.fieldLink R_Plan 29 "PilotTugs$Plan" "travelTo" "[I" ∈ TK := List.mem_of_getElem? (i := 32) rfl
theorem kw_32 : Cond.fieldLink R_Plan 29 "PilotTugs$Plan" "travelTo" "[I" ∈ TKB := List.mem_append_left _ kk_32
theorem kk_33 : Cond.fieldLink R_Plan 32 "PilotTugs$Plan" "tugsOf" "[I" ∈ TK := List.mem_of_getElem? (i := 33) rfl
theorem kw_33 : Cond.fieldLink R_Plan 32 "PilotTugs$Plan" "tugsOf" "[I" ∈ TKB := List.mem_append_left _ kk_33
theorem kk_34 : Cond.fieldLink R_Plan 35 "PilotTugs$Plan" "without" "[I" ∈ TK := List.mem_of_getElem? (i := 34) rfl
theorem kw_34 : Cond.fieldLink R_Plan 35 "PilotTugs$Plan" "without" "[I" ∈ TKB := List.mem_append_left _ kk_34
theorem kk_35 : Cond.fieldLink R_Plan 38 "PilotTugs$Plan" "doerBefore" "[I" ∈ TK := List.mem_of_getElem? (i := 35) rfl
theorem kw_35 : Cond.fieldLink R_Plan 38 "PilotTugs$Plan" "doerBefore" "[I" ∈ TKB := List.mem_append_left _ kk_35
theorem kk_36 : Cond.methodLink R_Ways 3 objectInit ∈ TK := List.mem_of_getElem? (i := 36) rfl
theorem kw_36 : Cond.methodLink R_Ways 3 objectInit ∈ TKB := List.mem_append_left _ kk_36
theorem kk_37 : Cond.fieldLink R_Ways 9 "PilotTugs$Ways" "restMinutes" "I" ∈ TK := List.mem_of_getElem? (i := 37) rfl
theorem kw_37 : Cond.fieldLink R_Ways 9 "PilotTugs$Ways" "restMinutes" "I" ∈ TKB := List.mem_append_left _ kk_37
theorem kk_38 : Cond.fieldLink R_Ways 15 "PilotTugs$Ways" "minutes" "[I" ∈ TK := List.mem_of_getElem? (i := 38) rfl
theorem kw_38 : Cond.fieldLink R_Ways 15 "PilotTugs$Ways" "minutes" "[I" ∈ TKB := List.mem_append_left _ kk_38
theorem kk_39 : Cond.methodLink R_Mo 1 objectInit ∈ TK := List.mem_of_getElem? (i := 39) rfl
theorem kw_39 : Cond.methodLink R_Mo 1 objectInit ∈ TKB := List.mem_append_left _ kk_39
theorem kk_40 : Cond.fieldLink R_Mo 7 "PilotTugsModel" "licence" "[I" ∈ TK := List.mem_of_getElem? (i := 40) rfl
theorem kw_40 : Cond.fieldLink R_Mo 7 "PilotTugsModel" "licence" "[I" ∈ TKB := List.mem_append_left _ kk_40
theorem kk_41 : Cond.fieldLink R_Mo 13 "PilotTugsModel" "hoursFrom" "[I" ∈ TK := List.mem_of_getElem? (i := 41) rfl
theorem kw_41 : Cond.fieldLink R_Mo 13 "PilotTugsModel" "hoursFrom" "[I" ∈ TKB := List.mem_append_left _ kk_41
theorem kk_42 : Cond.fieldLink R_Mo 16 "PilotTugsModel" "hoursTo" "[I" ∈ TK := List.mem_of_getElem? (i := 42) rfl
theorem kw_42 : Cond.fieldLink R_Mo 16 "PilotTugsModel" "hoursTo" "[I" ∈ TKB := List.mem_append_left _ kk_42
theorem kk_43 : Cond.fieldLink R_Mo 19 "PilotTugsModel" "home" "[I" ∈ TK := List.mem_of_getElem? (i := 43) rfl
theorem kw_43 : Cond.fieldLink R_Mo 19 "PilotTugsModel" "home" "[I" ∈ TKB := List.mem_append_left _ kk_43
theorem kk_44 : Cond.fieldLink R_Mo 22 "PilotTugsModel" "rules" "[I" ∈ TK := List.mem_of_getElem? (i := 44) rfl
theorem kw_44 : Cond.fieldLink R_Mo 22 "PilotTugsModel" "rules" "[I" ∈ TKB := List.mem_append_left _ kk_44
theorem kk_45 : Cond.fieldLink R_Mo 25 "PilotTugsModel" "failures" "[I" ∈ TK := List.mem_of_getElem? (i := 45) rfl
theorem kw_45 : Cond.fieldLink R_Mo 25 "PilotTugsModel" "failures" "[I" ∈ TKB := List.mem_append_left _ kk_45
theorem kk_46 : Cond.fieldLink R_Mo 28 "PilotTugsModel" "pull" "[I" ∈ TK := List.mem_of_getElem? (i := 46) rfl
theorem kw_46 : Cond.fieldLink R_Mo 28 "PilotTugsModel" "pull" "[I" ∈ TKB := List.mem_append_left _ kk_46
theorem kk_47 : Cond.fieldLink R_Mo 31 "PilotTugsModel" "need" "[I" ∈ TK := List.mem_of_getElem? (i := 47) rfl
theorem kw_47 : Cond.fieldLink R_Mo 31 "PilotTugsModel" "need" "[I" ∈ TKB := List.mem_append_left _ kk_47
theorem kk_48 : Cond.fieldLink R_Mo 34 "PilotTugsModel" "pulls" "[I" ∈ TK := List.mem_of_getElem? (i := 48) rfl
theorem kw_48 : Cond.fieldLink R_Mo 34 "PilotTugsModel" "pulls" "[I" ∈ TKB := List.mem_append_left _ kk_48
theorem kk_49 : Cond.fieldLink R_Mo 37 "PilotTugsModel" "from" "[I" ∈ TK := List.mem_of_getElem? (i := 49) rfl
theorem kw_49 : Cond.fieldLink R_Mo 37 "PilotTugsModel" "from" "[I" ∈ TKB := List.mem_append_left _ kk_49
theorem kk_50 : Cond.fieldLink R_Mo 40 "PilotTugsModel" "to" "[I" ∈ TK := List.mem_of_getElem? (i := 50) rfl
theorem kw_50 : Cond.fieldLink R_Mo 40 "PilotTugsModel" "to" "[I" ∈ TKB := List.mem_append_left _ kk_50
theorem kk_51 : Cond.fieldLink R_Mo 43 "PilotTugsModel" "place" "[I" ∈ TK := List.mem_of_getElem? (i := 51) rfl
theorem kw_51 : Cond.fieldLink R_Mo 43 "PilotTugsModel" "place" "[I" ∈ TKB := List.mem_append_left _ kk_51
theorem kk_52 : Cond.fieldLink R_Mo 46 "PilotTugsModel" "travel" "[I" ∈ TK := List.mem_of_getElem? (i := 52) rfl
theorem kw_52 : Cond.fieldLink R_Mo 46 "PilotTugsModel" "travel" "[I" ∈ TKB := List.mem_append_left _ kk_52
theorem kk_53 : Cond.fieldLink R_Mo 49 "PilotTugsModel" "given" "[I" ∈ TK := List.mem_of_getElem? (i := 53) rfl
theorem kw_53 : Cond.fieldLink R_Mo 49 "PilotTugsModel" "given" "[I" ∈ TKB := List.mem_append_left _ kk_53
theorem kk_54 : Cond.fieldLink R_Mo 52 "PilotTugsModel" "tugsOf" "[I" ∈ TK := List.mem_of_getElem? (i := 54) rfl
theorem kw_54 : Cond.fieldLink R_Mo 52 "PilotTugsModel" "tugsOf" "[I" ∈ TKB := List.mem_append_left _ kk_54
theorem kk_55 : Cond.fieldLink R_Mo 55 "PilotTugsModel" "costs" "[I" ∈ TK := List.mem_of_getElem? (i := 55) rfl
theorem kw_55 : Cond.fieldLink R_Mo 55 "PilotTugsModel" "costs" "[I" ∈ TKB := List.mem_append_left _ kk_55
theorem kk_56 : Cond.fieldLink R_Mo 58 "PilotTugsModel" "tried" "[I" ∈ TK := List.mem_of_getElem? (i := 56) rfl
theorem kw_56 : Cond.fieldLink R_Mo 58 "PilotTugsModel" "tried" "[I" ∈ TKB := List.mem_append_left _ kk_56
theorem kk_57 : Cond.methodLink R_PT 1 objectInit ∈ TK := List.mem_of_getElem? (i := 57) rfl
theorem kw_57 : Cond.methodLink R_PT 1 objectInit ∈ TKB := List.mem_append_left _ kk_57
theorem kk_58 : Cond.classLink R_PT 7 R_People ∈ TK := List.mem_of_getElem? (i := 58) rfl
theorem kw_58 : Cond.classLink R_PT 7 R_People ∈ TKB := List.mem_append_left _ kk_58
theorem kk_59 : Cond.instantiable R_People 7 ∈ TK := List.mem_of_getElem? (i := 59) rfl
theorem kw_59 : Cond.instantiable R_People 7 ∈ TKB := List.mem_append_left _ kk_59
theorem kk_60 : Cond.initialized R_People ∈ TK := List.mem_of_getElem? (i := 60) rfl
theorem kw_60 : Cond.initialized R_People ∈ TKB := List.mem_append_left _ kk_60
theorem kk_61 : Cond.code y_People_init b_People_init 1 none ∈ TK := List.mem_of_getElem? (i := 61) rfl
theorem kw_61 : Cond.code y_People_init b_People_init 1 none ∈ TKB := List.mem_append_left _ kk_61
theorem kk_62 : Cond.instanceMethod y_People_init ∈ TK := List.mem_of_getElem? (i := 62) rfl
theorem kw_62 : Cond.instanceMethod y_People_init ∈ TKB := List.mem_append_left _ kk_62
theorem kk_63 : Cond.fieldLink R_PT 10 "PilotTugs" "people" "LPilotTugs$People;" ∈ TK := List.mem_of_getElem? (i := 63) rfl
theorem kw_63 : Cond.fieldLink R_PT 10 "PilotTugs" "people" "LPilotTugs$People;" ∈ TKB := List.mem_append_left _ kk_63
theorem kk_64 : Cond.classLink R_PT 16 R_Jobs ∈ TK := List.mem_of_getElem? (i := 64) rfl
theorem kw_64 : Cond.classLink R_PT 16 R_Jobs ∈ TKB := List.mem_append_left _ kk_64
theorem kk_65 : Cond.instantiable R_Jobs 7 ∈ TK := List.mem_of_getElem? (i := 65) rfl
theorem kw_65 : Cond.instantiable R_Jobs 7 ∈ TKB := List.mem_append_left _ kk_65
theorem kk_66 : Cond.initialized R_Jobs ∈ TK := List.mem_of_getElem? (i := 66) rfl
theorem kw_66 : Cond.initialized R_Jobs ∈ TKB := List.mem_append_left _ kk_66
theorem kk_67 : Cond.code y_Jobs_init b_Jobs_init 1 none ∈ TK := List.mem_of_getElem? (i := 67) rfl
theorem kw_67 : Cond.code y_Jobs_init b_Jobs_init 1 none ∈ TKB := List.mem_append_left _ kk_67
theorem kk_68 : Cond.instanceMethod y_Jobs_init ∈ TK := List.mem_of_getElem? (i := 68) rfl
theorem kw_68 : Cond.instanceMethod y_Jobs_init ∈ TKB := List.mem_append_left _ kk_68
theorem kk_69 : Cond.fieldLink R_PT 19 "PilotTugs" "jobs" "LPilotTugs$Jobs;" ∈ TK := List.mem_of_getElem? (i := 69) rfl
theorem kw_69 : Cond.fieldLink R_PT 19 "PilotTugs" "jobs" "LPilotTugs$Jobs;" ∈ TKB := List.mem_append_left _ kk_69
theorem kk_70 : Cond.classLink R_PT 23 R_Tugs ∈ TK := List.mem_of_getElem? (i := 70) rfl
theorem kw_70 : Cond.classLink R_PT 23 R_Tugs ∈ TKB := List.mem_append_left _ kk_70
theorem kk_71 : Cond.instantiable R_Tugs 2 ∈ TK := List.mem_of_getElem? (i := 71) rfl
theorem kw_71 : Cond.instantiable R_Tugs 2 ∈ TKB := List.mem_append_left _ kk_71
theorem kk_72 : Cond.initialized R_Tugs ∈ TK := List.mem_of_getElem? (i := 72) rfl
theorem kw_72 : Cond.initialized R_Tugs ∈ TKB := List.mem_append_left _ kk_72
theorem kk_73 : Cond.code y_Tugs_init b_Tugs_init 1 none ∈ TK := List.mem_of_getElem? (i := 73) rfl
theorem kw_73 : Cond.code y_Tugs_init b_Tugs_init 1 none ∈ TKB := List.mem_append_left _ kk_73
theorem kk_74 : Cond.instanceMethod y_Tugs_init ∈ TK := List.mem_of_getElem? (i := 74) rfl
theorem kw_74 : Cond.instanceMethod y_Tugs_init ∈ TKB := List.mem_append_left _ kk_74
theorem kk_75 : Cond.fieldLink R_PT 26 "PilotTugs" "tugs" "LPilotTugs$Tugs;" ∈ TK := List.mem_of_getElem? (i := 75) rfl
theorem kw_75 : Cond.fieldLink R_PT 26 "PilotTugs" "tugs" "LPilotTugs$Tugs;" ∈ TKB := List.mem_append_left _ kk_75
theorem kk_76 : Cond.classLink R_PT 30 R_Ways ∈ TK := List.mem_of_getElem? (i := 76) rfl
theorem kw_76 : Cond.classLink R_PT 30 R_Ways ∈ TKB := List.mem_append_left _ kk_76
theorem kk_77 : Cond.instantiable R_Ways 2 ∈ TK := List.mem_of_getElem? (i := 77) rfl
theorem kw_77 : Cond.instantiable R_Ways 2 ∈ TKB := List.mem_append_left _ kk_77
theorem kk_78 : Cond.initialized R_Ways ∈ TK := List.mem_of_getElem? (i := 78) rfl
theorem kw_78 : Cond.initialized R_Ways ∈ TKB := List.mem_append_left _ kk_78
theorem kk_79 : Cond.code y_Ways_init b_Ways_init 3 none ∈ TK := List.mem_of_getElem? (i := 79) rfl
theorem kw_79 : Cond.code y_Ways_init b_Ways_init 3 none ∈ TKB := List.mem_append_left _ kk_79
theorem kk_80 : Cond.instanceMethod y_Ways_init ∈ TK := List.mem_of_getElem? (i := 80) rfl
theorem kw_80 : Cond.instanceMethod y_Ways_init ∈ TKB := List.mem_append_left _ kk_80
theorem kk_81 : Cond.methodLink R_PT 32 y_Ways_init ∈ TK := List.mem_of_getElem? (i := 81) rfl
theorem kw_81 : Cond.methodLink R_PT 32 y_Ways_init ∈ TKB := List.mem_append_left _ kk_81
theorem kk_82 : Cond.fieldLink R_PT 33 "PilotTugs" "ways" "LPilotTugs$Ways;" ∈ TK := List.mem_of_getElem? (i := 82) rfl
theorem kw_82 : Cond.fieldLink R_PT 33 "PilotTugs" "ways" "LPilotTugs$Ways;" ∈ TKB := List.mem_append_left _ kk_82
theorem kk_83 : Cond.classLink R_PT 37 R_Planner ∈ TK := List.mem_of_getElem? (i := 83) rfl
theorem kw_83 : Cond.classLink R_PT 37 R_Planner ∈ TKB := List.mem_append_left _ kk_83
theorem kk_84 : Cond.instantiable R_Planner 2 ∈ TK := List.mem_of_getElem? (i := 84) rfl
theorem kw_84 : Cond.instantiable R_Planner 2 ∈ TKB := List.mem_append_left _ kk_84
theorem kk_85 : Cond.initialized R_Planner ∈ TK := List.mem_of_getElem? (i := 85) rfl
theorem kw_85 : Cond.initialized R_Planner ∈ TKB := List.mem_append_left _ kk_85
theorem kk_86 : Cond.code y_Planner_init b_Planner_init 1 none ∈ TK := List.mem_of_getElem? (i := 86) rfl
theorem kw_86 : Cond.code y_Planner_init b_Planner_init 1 none ∈ TKB := List.mem_append_left _ kk_86
theorem kk_87 : Cond.instanceMethod y_Planner_init ∈ TK := List.mem_of_getElem? (i := 87) rfl
theorem kw_87 : Cond.instanceMethod y_Planner_init ∈ TKB := List.mem_append_left _ kk_87
theorem kk_88 : Cond.fieldLink R_PT 40 "PilotTugs" "planner" "LPilotTugs$Planner;" ∈ TK := List.mem_of_getElem? (i := 88) rfl
theorem kw_88 : Cond.fieldLink R_PT 40 "PilotTugs" "planner" "LPilotTugs$Planner;" ∈ TKB := List.mem_append_left _ kk_88
theorem kk_89 : Cond.classLink R_PT 44 R_Plan ∈ TK := List.mem_of_getElem? (i := 89) rfl
theorem kw_89 : Cond.classLink R_PT 44 R_Plan ∈ TKB := List.mem_append_left _ kk_89
theorem kk_90 : Cond.instantiable R_Plan 9 ∈ TK := List.mem_of_getElem? (i := 90) rfl
theorem kw_90 : Cond.instantiable R_Plan 9 ∈ TKB := List.mem_append_left _ kk_90
theorem kk_91 : Cond.initialized R_Plan ∈ TK := List.mem_of_getElem? (i := 91) rfl
theorem kw_91 : Cond.initialized R_Plan ∈ TKB := List.mem_append_left _ kk_91
theorem kk_92 : Cond.code y_Plan_init b_Plan_init 1 none ∈ TK := List.mem_of_getElem? (i := 92) rfl
theorem kw_92 : Cond.code y_Plan_init b_Plan_init 1 none ∈ TKB := List.mem_append_left _ kk_92
theorem kk_93 : Cond.instanceMethod y_Plan_init ∈ TK := List.mem_of_getElem? (i := 93) rfl
theorem kw_93 : Cond.instanceMethod y_Plan_init ∈ TKB := List.mem_append_left _ kk_93
theorem kk_94 : Cond.fieldLink R_PT 47 "PilotTugs" "plan" "LPilotTugs$Plan;" ∈ TK := List.mem_of_getElem? (i := 94) rfl
theorem kw_94 : Cond.fieldLink R_PT 47 "PilotTugs" "plan" "LPilotTugs$Plan;" ∈ TKB := List.mem_append_left _ kk_94
theorem ik_Jobs : ∀ w ∈ u_ws R_Jobs F_Jobs 7, w ∈ TKB := fun w h => List.mem_append_right _ (iw_Jobs w h)
theorem ik_People : ∀ w ∈ u_ws R_People F_People 7, w ∈ TKB := fun w h => List.mem_append_right _ (iw_People w h)
theorem ik_Plan : ∀ w ∈ u_ws R_Plan F_Plan 9, w ∈ TKB := fun w h => List.mem_append_right _ (iw_Plan w h)
theorem ik_Planner : ∀ w ∈ u_ws R_Planner F_Planner 2, w ∈ TKB := fun w h => List.mem_append_right _ (iw_Planner w h)
theorem ik_Tugs : ∀ w ∈ u_ws R_Tugs F_Tugs 2, w ∈ TKB := fun w h => List.mem_append_right _ (iw_Tugs w h)
theorem ik_Ways : ∀ w ∈ u_ws R_Ways F_Ways 2, w ∈ TKB := fun w h => List.mem_append_right _ (iw_Ways w h)
theorem ik_PT : ∀ w ∈ u_ws R_PT F_PT 6, w ∈ TKB := fun w h => List.mem_append_right _ (iw_PT w h)
theorem ik_Mo : ∀ w ∈ u_ws R_Mo F_Mo 24, w ∈ TKB := fun w h => List.mem_append_right _ (iw_Mo w h)
def NWs (U : State) : Prop := va_Nw (.methodLinkNest R_PT 9 y_People_init "PilotTugs") U ∧ va_Nw (.methodLinkNest R_PT 18 y_Jobs_init "PilotTugs") U ∧ va_Nw (.methodLinkNest R_PT 25 y_Tugs_init "PilotTugs") U ∧ va_Nw (.methodLinkNest R_PT 39 y_Planner_init "PilotTugs") U ∧ va_Nw (.methodLinkNest R_PT 46 y_Plan_init "PilotTugs") U
abbrev w_People_init : List Cond := Cond.code y_People_init b_People_init 1 none :: TKB
theorem d_People_init_0 : decode b_People_init 0 = .ok (.aload_n 0, 1) := by decide +kernel
theorem d_People_init_1 : decode b_People_init 1 = .ok (.invokespecial 3, 3) := by decide +kernel
theorem d_People_init_4 : decode b_People_init 4 = .ok (.aload_n 0, 1) := by decide +kernel
theorem d_People_init_5 : decode b_People_init 5 = .ok (.iconst 0, 1) := by decide +kernel
theorem d_People_init_6 : decode b_People_init 6 = .ok (.putfield 9, 3) := by decide +kernel
theorem d_People_init_9 : decode b_People_init 9 = .ok (.aload_n 0, 1) := by decide +kernel
theorem d_People_init_10 : decode b_People_init 10 = .ok (.iconst 4, 1) := by decide +kernel
theorem d_People_init_11 : decode b_People_init 11 = .ok (.newarray .int, 2) := by decide +kernel
theorem d_People_init_13 : decode b_People_init 13 = .ok (.putfield 15, 3) := by decide +kernel
theorem d_People_init_16 : decode b_People_init 16 = .ok (.aload_n 0, 1) := by decide +kernel
theorem d_People_init_17 : decode b_People_init 17 = .ok (.iconst 4, 1) := by decide +kernel
theorem d_People_init_18 : decode b_People_init 18 = .ok (.newarray .int, 2) := by decide +kernel
theorem d_People_init_20 : decode b_People_init 20 = .ok (.putfield 19, 3) := by decide +kernel
theorem d_People_init_23 : decode b_People_init 23 = .ok (.aload_n 0, 1) := by decide +kernel
theorem d_People_init_24 : decode b_People_init 24 = .ok (.iconst 4, 1) := by decide +kernel
theorem d_People_init_25 : decode b_People_init 25 = .ok (.newarray .int, 2) := by decide +kernel
theorem d_People_init_27 : decode b_People_init 27 = .ok (.putfield 22, 3) := by decide +kernel
theorem d_People_init_30 : decode b_People_init 30 = .ok (.aload_n 0, 1) := by decide +kernel
theorem d_People_init_31 : decode b_People_init 31 = .ok (.iconst 4, 1) := by decide +kernel
theorem d_People_init_32 : decode b_People_init 32 = .ok (.newarray .int, 2) := by decide +kernel
theorem d_People_init_34 : decode b_People_init 34 = .ok (.putfield 25, 3) := by decide +kernel
theorem d_People_init_37 : decode b_People_init 37 = .ok (.aload_n 0, 1) := by decide +kernel
theorem d_People_init_38 : decode b_People_init 38 = .ok (.iconst 4, 1) := by decide +kernel
theorem d_People_init_39 : decode b_People_init 39 = .ok (.newarray .int, 2) := by decide +kernel
theorem d_People_init_41 : decode b_People_init 41 = .ok (.putfield 28, 3) := by decide +kernel
theorem d_People_init_44 : decode b_People_init 44 = .ok (.aload_n 0, 1) := by decide +kernel
theorem d_People_init_45 : decode b_People_init 45 = .ok (.iconst 4, 1) := by decide +kernel
theorem d_People_init_46 : decode b_People_init 46 = .ok (.newarray .int, 2) := by decide +kernel
theorem d_People_init_48 : decode b_People_init 48 = .ok (.putfield 31, 3) := by decide +kernel
theorem d_People_init_51 : decode b_People_init 51 = .ok (.return_, 1) := by decide +kernel
def rm_People_init : Room := { frames := 1, cells := 6, slots := 24, locals := 12 }
abbrev w_Jobs_init : List Cond := Cond.code y_Jobs_init b_Jobs_init 1 none :: TKB
theorem d_Jobs_init_0 : decode b_Jobs_init 0 = .ok (.aload_n 0, 1) := by decide +kernel
theorem d_Jobs_init_1 : decode b_Jobs_init 1 = .ok (.invokespecial 3, 3) := by decide +kernel
theorem d_Jobs_init_4 : decode b_Jobs_init 4 = .ok (.aload_n 0, 1) := by decide +kernel
theorem d_Jobs_init_5 : decode b_Jobs_init 5 = .ok (.iconst 0, 1) := by decide +kernel
theorem d_Jobs_init_6 : decode b_Jobs_init 6 = .ok (.putfield 9, 3) := by decide +kernel
theorem d_Jobs_init_9 : decode b_Jobs_init 9 = .ok (.aload_n 0, 1) := by decide +kernel
theorem d_Jobs_init_10 : decode b_Jobs_init 10 = .ok (.bipush 7, 2) := by decide +kernel
theorem d_Jobs_init_12 : decode b_Jobs_init 12 = .ok (.newarray .int, 2) := by decide +kernel
theorem d_Jobs_init_14 : decode b_Jobs_init 14 = .ok (.putfield 15, 3) := by decide +kernel
theorem d_Jobs_init_17 : decode b_Jobs_init 17 = .ok (.aload_n 0, 1) := by decide +kernel
theorem d_Jobs_init_18 : decode b_Jobs_init 18 = .ok (.bipush 7, 2) := by decide +kernel
theorem d_Jobs_init_20 : decode b_Jobs_init 20 = .ok (.newarray .int, 2) := by decide +kernel
theorem d_Jobs_init_22 : decode b_Jobs_init 22 = .ok (.putfield 19, 3) := by decide +kernel
theorem d_Jobs_init_25 : decode b_Jobs_init 25 = .ok (.aload_n 0, 1) := by decide +kernel
theorem d_Jobs_init_26 : decode b_Jobs_init 26 = .ok (.bipush 7, 2) := by decide +kernel
theorem d_Jobs_init_28 : decode b_Jobs_init 28 = .ok (.newarray .int, 2) := by decide +kernel
theorem d_Jobs_init_30 : decode b_Jobs_init 30 = .ok (.putfield 22, 3) := by decide +kernel
theorem d_Jobs_init_33 : decode b_Jobs_init 33 = .ok (.aload_n 0, 1) := by decide +kernel
theorem d_Jobs_init_34 : decode b_Jobs_init 34 = .ok (.bipush 7, 2) := by decide +kernel
theorem d_Jobs_init_36 : decode b_Jobs_init 36 = .ok (.newarray .int, 2) := by decide +kernel
theorem d_Jobs_init_38 : decode b_Jobs_init 38 = .ok (.putfield 25, 3) := by decide +kernel
theorem d_Jobs_init_41 : decode b_Jobs_init 41 = .ok (.aload_n 0, 1) := by decide +kernel
theorem d_Jobs_init_42 : decode b_Jobs_init 42 = .ok (.bipush 7, 2) := by decide +kernel
theorem d_Jobs_init_44 : decode b_Jobs_init 44 = .ok (.newarray .int, 2) := by decide +kernel
theorem d_Jobs_init_46 : decode b_Jobs_init 46 = .ok (.putfield 28, 3) := by decide +kernel
theorem d_Jobs_init_49 : decode b_Jobs_init 49 = .ok (.aload_n 0, 1) := by decide +kernel
theorem d_Jobs_init_50 : decode b_Jobs_init 50 = .ok (.bipush 7, 2) := by decide +kernel
theorem d_Jobs_init_52 : decode b_Jobs_init 52 = .ok (.newarray .int, 2) := by decide +kernel
theorem d_Jobs_init_54 : decode b_Jobs_init 54 = .ok (.putfield 31, 3) := by decide +kernel
theorem d_Jobs_init_57 : decode b_Jobs_init 57 = .ok (.return_, 1) := by decide +kernel
def rm_Jobs_init : Room := { frames := 1, cells := 6, slots := 42, locals := 12 }
abbrev w_Tugs_init : List Cond := Cond.code y_Tugs_init b_Tugs_init 1 none :: TKB
theorem d_Tugs_init_0 : decode b_Tugs_init 0 = .ok (.aload_n 0, 1) := by decide +kernel
theorem d_Tugs_init_1 : decode b_Tugs_init 1 = .ok (.invokespecial 3, 3) := by decide +kernel
theorem d_Tugs_init_4 : decode b_Tugs_init 4 = .ok (.aload_n 0, 1) := by decide +kernel
theorem d_Tugs_init_5 : decode b_Tugs_init 5 = .ok (.iconst 0, 1) := by decide +kernel
theorem d_Tugs_init_6 : decode b_Tugs_init 6 = .ok (.putfield 9, 3) := by decide +kernel
theorem d_Tugs_init_9 : decode b_Tugs_init 9 = .ok (.aload_n 0, 1) := by decide +kernel
theorem d_Tugs_init_10 : decode b_Tugs_init 10 = .ok (.bipush 6, 2) := by decide +kernel
theorem d_Tugs_init_12 : decode b_Tugs_init 12 = .ok (.newarray .int, 2) := by decide +kernel
theorem d_Tugs_init_14 : decode b_Tugs_init 14 = .ok (.putfield 15, 3) := by decide +kernel
theorem d_Tugs_init_17 : decode b_Tugs_init 17 = .ok (.return_, 1) := by decide +kernel
def rm_Tugs_init : Room := { frames := 1, cells := 1, slots := 6, locals := 12 }
abbrev w_Planner_init : List Cond := Cond.code y_Planner_init b_Planner_init 1 none :: TKB
theorem d_Planner_init_0 : decode b_Planner_init 0 = .ok (.aload_n 0, 1) := by decide +kernel
theorem d_Planner_init_1 : decode b_Planner_init 1 = .ok (.invokespecial 5, 3) := by decide +kernel
theorem d_Planner_init_4 : decode b_Planner_init 4 = .ok (.aload_n 0, 1) := by decide +kernel
theorem d_Planner_init_5 : decode b_Planner_init 5 = .ok (.sipush 128, 3) := by decide +kernel
theorem d_Planner_init_8 : decode b_Planner_init 8 = .ok (.newarray .long, 2) := by decide +kernel
theorem d_Planner_init_10 : decode b_Planner_init 10 = .ok (.putfield 11, 3) := by decide +kernel
theorem d_Planner_init_13 : decode b_Planner_init 13 = .ok (.aload_n 0, 1) := by decide +kernel
theorem d_Planner_init_14 : decode b_Planner_init 14 = .ok (.sipush 128, 3) := by decide +kernel
theorem d_Planner_init_17 : decode b_Planner_init 17 = .ok (.newarray .long, 2) := by decide +kernel
theorem d_Planner_init_19 : decode b_Planner_init 19 = .ok (.putfield 15, 3) := by decide +kernel
theorem d_Planner_init_22 : decode b_Planner_init 22 = .ok (.return_, 1) := by decide +kernel
def rm_Planner_init : Room := { frames := 1, cells := 2, slots := 256, locals := 12 }
abbrev w_Plan_init : List Cond := Cond.code y_Plan_init b_Plan_init 1 none :: TKB
theorem d_Plan_init_0 : decode b_Plan_init 0 = .ok (.aload_n 0, 1) := by decide +kernel
theorem d_Plan_init_1 : decode b_Plan_init 1 = .ok (.invokespecial 3, 3) := by decide +kernel
theorem d_Plan_init_4 : decode b_Plan_init 4 = .ok (.aload_n 0, 1) := by decide +kernel
theorem d_Plan_init_5 : decode b_Plan_init 5 = .ok (.iconst 0, 1) := by decide +kernel
theorem d_Plan_init_6 : decode b_Plan_init 6 = .ok (.putfield 9, 3) := by decide +kernel
theorem d_Plan_init_9 : decode b_Plan_init 9 = .ok (.aload_n 0, 1) := by decide +kernel
theorem d_Plan_init_10 : decode b_Plan_init 10 = .ok (.iconst 0, 1) := by decide +kernel
theorem d_Plan_init_11 : decode b_Plan_init 11 = .ok (.putfield 15, 3) := by decide +kernel
theorem d_Plan_init_14 : decode b_Plan_init 14 = .ok (.aload_n 0, 1) := by decide +kernel
theorem d_Plan_init_15 : decode b_Plan_init 15 = .ok (.iconst 0, 1) := by decide +kernel
theorem d_Plan_init_16 : decode b_Plan_init 16 = .ok (.putfield 19, 3) := by decide +kernel
theorem d_Plan_init_19 : decode b_Plan_init 19 = .ok (.aload_n 0, 1) := by decide +kernel
theorem d_Plan_init_20 : decode b_Plan_init 20 = .ok (.iconst 0, 1) := by decide +kernel
theorem d_Plan_init_21 : decode b_Plan_init 21 = .ok (.putfield 22, 3) := by decide +kernel
theorem d_Plan_init_24 : decode b_Plan_init 24 = .ok (.aload_n 0, 1) := by decide +kernel
theorem d_Plan_init_25 : decode b_Plan_init 25 = .ok (.bipush 7, 2) := by decide +kernel
theorem d_Plan_init_27 : decode b_Plan_init 27 = .ok (.newarray .int, 2) := by decide +kernel
theorem d_Plan_init_29 : decode b_Plan_init 29 = .ok (.putfield 25, 3) := by decide +kernel
theorem d_Plan_init_32 : decode b_Plan_init 32 = .ok (.aload_n 0, 1) := by decide +kernel
theorem d_Plan_init_33 : decode b_Plan_init 33 = .ok (.bipush 7, 2) := by decide +kernel
theorem d_Plan_init_35 : decode b_Plan_init 35 = .ok (.newarray .int, 2) := by decide +kernel
theorem d_Plan_init_37 : decode b_Plan_init 37 = .ok (.putfield 29, 3) := by decide +kernel
theorem d_Plan_init_40 : decode b_Plan_init 40 = .ok (.aload_n 0, 1) := by decide +kernel
theorem d_Plan_init_41 : decode b_Plan_init 41 = .ok (.bipush 7, 2) := by decide +kernel
theorem d_Plan_init_43 : decode b_Plan_init 43 = .ok (.newarray .int, 2) := by decide +kernel
theorem d_Plan_init_45 : decode b_Plan_init 45 = .ok (.putfield 32, 3) := by decide +kernel
theorem d_Plan_init_48 : decode b_Plan_init 48 = .ok (.aload_n 0, 1) := by decide +kernel
theorem d_Plan_init_49 : decode b_Plan_init 49 = .ok (.bipush 7, 2) := by decide +kernel
theorem d_Plan_init_51 : decode b_Plan_init 51 = .ok (.newarray .int, 2) := by decide +kernel
theorem d_Plan_init_53 : decode b_Plan_init 53 = .ok (.putfield 35, 3) := by decide +kernel
theorem d_Plan_init_56 : decode b_Plan_init 56 = .ok (.aload_n 0, 1) := by decide +kernel
theorem d_Plan_init_57 : decode b_Plan_init 57 = .ok (.bipush 7, 2) := by decide +kernel
theorem d_Plan_init_59 : decode b_Plan_init 59 = .ok (.newarray .int, 2) := by decide +kernel
theorem d_Plan_init_61 : decode b_Plan_init 61 = .ok (.putfield 38, 3) := by decide +kernel
theorem d_Plan_init_64 : decode b_Plan_init 64 = .ok (.return_, 1) := by decide +kernel
def rm_Plan_init : Room := { frames := 1, cells := 5, slots := 35, locals := 12 }
abbrev w_Ways_init : List Cond := Cond.code y_Ways_init b_Ways_init 3 none :: TKB
theorem d_Ways_init_0 : decode b_Ways_init 0 = .ok (.aload_n 0, 1) := by decide +kernel
theorem d_Ways_init_1 : decode b_Ways_init 1 = .ok (.invokespecial 3, 3) := by decide +kernel
theorem d_Ways_init_4 : decode b_Ways_init 4 = .ok (.aload_n 0, 1) := by decide +kernel
theorem d_Ways_init_5 : decode b_Ways_init 5 = .ok (.iconst 0, 1) := by decide +kernel
theorem d_Ways_init_6 : decode b_Ways_init 6 = .ok (.putfield 9, 3) := by decide +kernel
theorem d_Ways_init_9 : decode b_Ways_init 9 = .ok (.aload_n 0, 1) := by decide +kernel
theorem d_Ways_init_10 : decode b_Ways_init 10 = .ok (.bipush 25, 2) := by decide +kernel
theorem d_Ways_init_12 : decode b_Ways_init 12 = .ok (.newarray .int, 2) := by decide +kernel
theorem d_Ways_init_14 : decode b_Ways_init 14 = .ok (.putfield 15, 3) := by decide +kernel
theorem d_Ways_init_17 : decode b_Ways_init 17 = .ok (.iconst 0, 1) := by decide +kernel
theorem d_Ways_init_18 : decode b_Ways_init 18 = .ok (.istore_n 1, 1) := by decide +kernel
theorem d_Ways_init_19 : decode b_Ways_init 19 = .ok (.iload_n 1, 1) := by decide +kernel
theorem d_Ways_init_20 : decode b_Ways_init 20 = .ok (.iconst 5, 1) := by decide +kernel
theorem d_Ways_init_21 : decode b_Ways_init 21 = .ok (.if_icmp .ge 43, 3) := by decide +kernel
theorem d_Ways_init_24 : decode b_Ways_init 24 = .ok (.iconst 0, 1) := by decide +kernel
theorem d_Ways_init_25 : decode b_Ways_init 25 = .ok (.istore_n 2, 1) := by decide +kernel
theorem d_Ways_init_26 : decode b_Ways_init 26 = .ok (.iload_n 2, 1) := by decide +kernel
theorem d_Ways_init_27 : decode b_Ways_init 27 = .ok (.iconst 5, 1) := by decide +kernel
theorem d_Ways_init_28 : decode b_Ways_init 28 = .ok (.if_icmp .ge 30, 3) := by decide +kernel
theorem d_Ways_init_31 : decode b_Ways_init 31 = .ok (.aload_n 0, 1) := by decide +kernel
theorem d_Ways_init_32 : decode b_Ways_init 32 = .ok (.getfield 15, 3) := by decide +kernel
theorem d_Ways_init_35 : decode b_Ways_init 35 = .ok (.iload_n 1, 1) := by decide +kernel
theorem d_Ways_init_36 : decode b_Ways_init 36 = .ok (.iconst 5, 1) := by decide +kernel
theorem d_Ways_init_37 : decode b_Ways_init 37 = .ok (.imul, 1) := by decide +kernel
theorem d_Ways_init_38 : decode b_Ways_init 38 = .ok (.iload_n 2, 1) := by decide +kernel
theorem d_Ways_init_39 : decode b_Ways_init 39 = .ok (.iadd, 1) := by decide +kernel
theorem d_Ways_init_40 : decode b_Ways_init 40 = .ok (.iload_n 1, 1) := by decide +kernel
theorem d_Ways_init_41 : decode b_Ways_init 41 = .ok (.iload_n 2, 1) := by decide +kernel
theorem d_Ways_init_42 : decode b_Ways_init 42 = .ok (.if_icmp .ne 7, 3) := by decide +kernel
theorem d_Ways_init_45 : decode b_Ways_init 45 = .ok (.iconst 0, 1) := by decide +kernel
theorem d_Ways_init_46 : decode b_Ways_init 46 = .ok (.goto 5, 3) := by decide +kernel
theorem d_Ways_init_49 : decode b_Ways_init 49 = .ok (.bipush 10, 2) := by decide +kernel
theorem d_Ways_init_51 : decode b_Ways_init 51 = .ok (.iastore, 1) := by decide +kernel
theorem d_Ways_init_52 : decode b_Ways_init 52 = .ok (.iinc 2 1, 3) := by decide +kernel
theorem d_Ways_init_55 : decode b_Ways_init 55 = .ok (.goto (-29), 3) := by decide +kernel
theorem d_Ways_init_58 : decode b_Ways_init 58 = .ok (.iinc 1 1, 3) := by decide +kernel
theorem d_Ways_init_61 : decode b_Ways_init 61 = .ok (.goto (-42), 3) := by decide +kernel
theorem d_Ways_init_64 : decode b_Ways_init 64 = .ok (.return_, 1) := by decide +kernel
def rm_Ways_init : Room := { frames := 1, cells := 1, slots := 25, locals := 12 }
abbrev w_Mo_init : List Cond := Cond.code y_Mo_init b_Mo_init 2 none :: TKB
theorem d_Mo_init_0 : decode b_Mo_init 0 = .ok (.aload_n 0, 1) := by decide +kernel
theorem d_Mo_init_1 : decode b_Mo_init 1 = .ok (.invokespecial 1, 3) := by decide +kernel
theorem d_Mo_init_4 : decode b_Mo_init 4 = .ok (.aload_n 0, 1) := by decide +kernel
theorem d_Mo_init_5 : decode b_Mo_init 5 = .ok (.iconst 4, 1) := by decide +kernel
theorem d_Mo_init_6 : decode b_Mo_init 6 = .ok (.newarray .int, 2) := by decide +kernel
theorem d_Mo_init_8 : decode b_Mo_init 8 = .ok (.putfield 7, 3) := by decide +kernel
theorem d_Mo_init_11 : decode b_Mo_init 11 = .ok (.aload_n 0, 1) := by decide +kernel
theorem d_Mo_init_12 : decode b_Mo_init 12 = .ok (.iconst 4, 1) := by decide +kernel
theorem d_Mo_init_13 : decode b_Mo_init 13 = .ok (.newarray .int, 2) := by decide +kernel
theorem d_Mo_init_15 : decode b_Mo_init 15 = .ok (.putfield 13, 3) := by decide +kernel
theorem d_Mo_init_18 : decode b_Mo_init 18 = .ok (.aload_n 0, 1) := by decide +kernel
theorem d_Mo_init_19 : decode b_Mo_init 19 = .ok (.iconst 4, 1) := by decide +kernel
theorem d_Mo_init_20 : decode b_Mo_init 20 = .ok (.newarray .int, 2) := by decide +kernel
theorem d_Mo_init_22 : decode b_Mo_init 22 = .ok (.putfield 16, 3) := by decide +kernel
theorem d_Mo_init_25 : decode b_Mo_init 25 = .ok (.aload_n 0, 1) := by decide +kernel
theorem d_Mo_init_26 : decode b_Mo_init 26 = .ok (.iconst 4, 1) := by decide +kernel
theorem d_Mo_init_27 : decode b_Mo_init 27 = .ok (.newarray .int, 2) := by decide +kernel
theorem d_Mo_init_29 : decode b_Mo_init 29 = .ok (.putfield 19, 3) := by decide +kernel
theorem d_Mo_init_32 : decode b_Mo_init 32 = .ok (.aload_n 0, 1) := by decide +kernel
theorem d_Mo_init_33 : decode b_Mo_init 33 = .ok (.iconst 4, 1) := by decide +kernel
theorem d_Mo_init_34 : decode b_Mo_init 34 = .ok (.newarray .int, 2) := by decide +kernel
theorem d_Mo_init_36 : decode b_Mo_init 36 = .ok (.putfield 22, 3) := by decide +kernel
theorem d_Mo_init_39 : decode b_Mo_init 39 = .ok (.aload_n 0, 1) := by decide +kernel
theorem d_Mo_init_40 : decode b_Mo_init 40 = .ok (.iconst 4, 1) := by decide +kernel
theorem d_Mo_init_41 : decode b_Mo_init 41 = .ok (.newarray .int, 2) := by decide +kernel
theorem d_Mo_init_43 : decode b_Mo_init 43 = .ok (.putfield 25, 3) := by decide +kernel
theorem d_Mo_init_46 : decode b_Mo_init 46 = .ok (.aload_n 0, 1) := by decide +kernel
theorem d_Mo_init_47 : decode b_Mo_init 47 = .ok (.bipush 6, 2) := by decide +kernel
theorem d_Mo_init_49 : decode b_Mo_init 49 = .ok (.newarray .int, 2) := by decide +kernel
theorem d_Mo_init_51 : decode b_Mo_init 51 = .ok (.putfield 28, 3) := by decide +kernel
theorem d_Mo_init_54 : decode b_Mo_init 54 = .ok (.aload_n 0, 1) := by decide +kernel
theorem d_Mo_init_55 : decode b_Mo_init 55 = .ok (.bipush 7, 2) := by decide +kernel
theorem d_Mo_init_57 : decode b_Mo_init 57 = .ok (.newarray .int, 2) := by decide +kernel
theorem d_Mo_init_59 : decode b_Mo_init 59 = .ok (.putfield 31, 3) := by decide +kernel
theorem d_Mo_init_62 : decode b_Mo_init 62 = .ok (.aload_n 0, 1) := by decide +kernel
theorem d_Mo_init_63 : decode b_Mo_init 63 = .ok (.bipush 7, 2) := by decide +kernel
theorem d_Mo_init_65 : decode b_Mo_init 65 = .ok (.newarray .int, 2) := by decide +kernel
theorem d_Mo_init_67 : decode b_Mo_init 67 = .ok (.putfield 34, 3) := by decide +kernel
theorem d_Mo_init_70 : decode b_Mo_init 70 = .ok (.aload_n 0, 1) := by decide +kernel
theorem d_Mo_init_71 : decode b_Mo_init 71 = .ok (.bipush 7, 2) := by decide +kernel
theorem d_Mo_init_73 : decode b_Mo_init 73 = .ok (.newarray .int, 2) := by decide +kernel
theorem d_Mo_init_75 : decode b_Mo_init 75 = .ok (.putfield 37, 3) := by decide +kernel
theorem d_Mo_init_78 : decode b_Mo_init 78 = .ok (.aload_n 0, 1) := by decide +kernel
theorem d_Mo_init_79 : decode b_Mo_init 79 = .ok (.bipush 7, 2) := by decide +kernel
theorem d_Mo_init_81 : decode b_Mo_init 81 = .ok (.newarray .int, 2) := by decide +kernel
theorem d_Mo_init_83 : decode b_Mo_init 83 = .ok (.putfield 40, 3) := by decide +kernel
theorem d_Mo_init_86 : decode b_Mo_init 86 = .ok (.aload_n 0, 1) := by decide +kernel
theorem d_Mo_init_87 : decode b_Mo_init 87 = .ok (.bipush 7, 2) := by decide +kernel
theorem d_Mo_init_89 : decode b_Mo_init 89 = .ok (.newarray .int, 2) := by decide +kernel
theorem d_Mo_init_91 : decode b_Mo_init 91 = .ok (.putfield 43, 3) := by decide +kernel
theorem d_Mo_init_94 : decode b_Mo_init 94 = .ok (.aload_n 0, 1) := by decide +kernel
theorem d_Mo_init_95 : decode b_Mo_init 95 = .ok (.bipush 25, 2) := by decide +kernel
theorem d_Mo_init_97 : decode b_Mo_init 97 = .ok (.newarray .int, 2) := by decide +kernel
theorem d_Mo_init_99 : decode b_Mo_init 99 = .ok (.putfield 46, 3) := by decide +kernel
theorem d_Mo_init_102 : decode b_Mo_init 102 = .ok (.aload_n 0, 1) := by decide +kernel
theorem d_Mo_init_103 : decode b_Mo_init 103 = .ok (.bipush 7, 2) := by decide +kernel
theorem d_Mo_init_105 : decode b_Mo_init 105 = .ok (.newarray .int, 2) := by decide +kernel
theorem d_Mo_init_107 : decode b_Mo_init 107 = .ok (.putfield 49, 3) := by decide +kernel
theorem d_Mo_init_110 : decode b_Mo_init 110 = .ok (.aload_n 0, 1) := by decide +kernel
theorem d_Mo_init_111 : decode b_Mo_init 111 = .ok (.bipush 7, 2) := by decide +kernel
theorem d_Mo_init_113 : decode b_Mo_init 113 = .ok (.newarray .int, 2) := by decide +kernel
theorem d_Mo_init_115 : decode b_Mo_init 115 = .ok (.putfield 52, 3) := by decide +kernel
theorem d_Mo_init_118 : decode b_Mo_init 118 = .ok (.aload_n 0, 1) := by decide +kernel
theorem d_Mo_init_119 : decode b_Mo_init 119 = .ok (.sipush 512, 3) := by decide +kernel
theorem d_Mo_init_122 : decode b_Mo_init 122 = .ok (.newarray .int, 2) := by decide +kernel
theorem d_Mo_init_124 : decode b_Mo_init 124 = .ok (.putfield 55, 3) := by decide +kernel
theorem d_Mo_init_127 : decode b_Mo_init 127 = .ok (.aload_n 0, 1) := by decide +kernel
theorem d_Mo_init_128 : decode b_Mo_init 128 = .ok (.bipush 7, 2) := by decide +kernel
theorem d_Mo_init_130 : decode b_Mo_init 130 = .ok (.newarray .int, 2) := by decide +kernel
theorem d_Mo_init_132 : decode b_Mo_init 132 = .ok (.putfield 58, 3) := by decide +kernel
theorem d_Mo_init_135 : decode b_Mo_init 135 = .ok (.iconst 0, 1) := by decide +kernel
theorem d_Mo_init_136 : decode b_Mo_init 136 = .ok (.istore_n 1, 1) := by decide +kernel
theorem d_Mo_init_137 : decode b_Mo_init 137 = .ok (.iload_n 1, 1) := by decide +kernel
theorem d_Mo_init_138 : decode b_Mo_init 138 = .ok (.bipush 25, 2) := by decide +kernel
theorem d_Mo_init_140 : decode b_Mo_init 140 = .ok (.if_icmp .ge 30, 3) := by decide +kernel
theorem d_Mo_init_143 : decode b_Mo_init 143 = .ok (.aload_n 0, 1) := by decide +kernel
theorem d_Mo_init_144 : decode b_Mo_init 144 = .ok (.getfield 46, 3) := by decide +kernel
theorem d_Mo_init_147 : decode b_Mo_init 147 = .ok (.iload_n 1, 1) := by decide +kernel
theorem d_Mo_init_148 : decode b_Mo_init 148 = .ok (.iload_n 1, 1) := by decide +kernel
theorem d_Mo_init_149 : decode b_Mo_init 149 = .ok (.iconst 5, 1) := by decide +kernel
theorem d_Mo_init_150 : decode b_Mo_init 150 = .ok (.idiv, 1) := by decide +kernel
theorem d_Mo_init_151 : decode b_Mo_init 151 = .ok (.iload_n 1, 1) := by decide +kernel
theorem d_Mo_init_152 : decode b_Mo_init 152 = .ok (.iconst 5, 1) := by decide +kernel
theorem d_Mo_init_153 : decode b_Mo_init 153 = .ok (.irem, 1) := by decide +kernel
theorem d_Mo_init_154 : decode b_Mo_init 154 = .ok (.if_icmp .ne 7, 3) := by decide +kernel
theorem d_Mo_init_157 : decode b_Mo_init 157 = .ok (.iconst 0, 1) := by decide +kernel
theorem d_Mo_init_158 : decode b_Mo_init 158 = .ok (.goto 5, 3) := by decide +kernel
theorem d_Mo_init_161 : decode b_Mo_init 161 = .ok (.bipush 10, 2) := by decide +kernel
theorem d_Mo_init_163 : decode b_Mo_init 163 = .ok (.iastore, 1) := by decide +kernel
theorem d_Mo_init_164 : decode b_Mo_init 164 = .ok (.iinc 1 1, 3) := by decide +kernel
theorem d_Mo_init_167 : decode b_Mo_init 167 = .ok (.goto (-30), 3) := by decide +kernel
theorem d_Mo_init_170 : decode b_Mo_init 170 = .ok (.return_, 1) := by decide +kernel
def rm_Mo_init : Room := { frames := 1, cells := 17, slots := 623, locals := 12 }
abbrev w_PT_init : List Cond := Cond.code y_PT_init b_PT_init 1 none :: TKB
theorem d_PT_init_0 : decode b_PT_init 0 = .ok (.aload_n 0, 1) := by decide +kernel
theorem d_PT_init_1 : decode b_PT_init 1 = .ok (.invokespecial 1, 3) := by decide +kernel
theorem d_PT_init_4 : decode b_PT_init 4 = .ok (.aload_n 0, 1) := by decide +kernel
theorem d_PT_init_5 : decode b_PT_init 5 = .ok (.new 7, 3) := by decide +kernel
theorem d_PT_init_8 : decode b_PT_init 8 = .ok (.dup, 1) := by decide +kernel
theorem d_PT_init_9 : decode b_PT_init 9 = .ok (.invokespecial 9, 3) := by decide +kernel
theorem d_PT_init_12 : decode b_PT_init 12 = .ok (.putfield 10, 3) := by decide +kernel
theorem d_PT_init_15 : decode b_PT_init 15 = .ok (.aload_n 0, 1) := by decide +kernel
theorem d_PT_init_16 : decode b_PT_init 16 = .ok (.new 16, 3) := by decide +kernel
theorem d_PT_init_19 : decode b_PT_init 19 = .ok (.dup, 1) := by decide +kernel
theorem d_PT_init_20 : decode b_PT_init 20 = .ok (.invokespecial 18, 3) := by decide +kernel
theorem d_PT_init_23 : decode b_PT_init 23 = .ok (.putfield 19, 3) := by decide +kernel
theorem d_PT_init_26 : decode b_PT_init 26 = .ok (.aload_n 0, 1) := by decide +kernel
theorem d_PT_init_27 : decode b_PT_init 27 = .ok (.new 23, 3) := by decide +kernel
theorem d_PT_init_30 : decode b_PT_init 30 = .ok (.dup, 1) := by decide +kernel
theorem d_PT_init_31 : decode b_PT_init 31 = .ok (.invokespecial 25, 3) := by decide +kernel
theorem d_PT_init_34 : decode b_PT_init 34 = .ok (.putfield 26, 3) := by decide +kernel
theorem d_PT_init_37 : decode b_PT_init 37 = .ok (.aload_n 0, 1) := by decide +kernel
theorem d_PT_init_38 : decode b_PT_init 38 = .ok (.new 30, 3) := by decide +kernel
theorem d_PT_init_41 : decode b_PT_init 41 = .ok (.dup, 1) := by decide +kernel
theorem d_PT_init_42 : decode b_PT_init 42 = .ok (.invokespecial 32, 3) := by decide +kernel
theorem d_PT_init_45 : decode b_PT_init 45 = .ok (.putfield 33, 3) := by decide +kernel
theorem d_PT_init_48 : decode b_PT_init 48 = .ok (.aload_n 0, 1) := by decide +kernel
theorem d_PT_init_49 : decode b_PT_init 49 = .ok (.new 37, 3) := by decide +kernel
theorem d_PT_init_52 : decode b_PT_init 52 = .ok (.dup, 1) := by decide +kernel
theorem d_PT_init_53 : decode b_PT_init 53 = .ok (.invokespecial 39, 3) := by decide +kernel
theorem d_PT_init_56 : decode b_PT_init 56 = .ok (.putfield 40, 3) := by decide +kernel
theorem d_PT_init_59 : decode b_PT_init 59 = .ok (.aload_n 0, 1) := by decide +kernel
theorem d_PT_init_60 : decode b_PT_init 60 = .ok (.new 44, 3) := by decide +kernel
theorem d_PT_init_63 : decode b_PT_init 63 = .ok (.dup, 1) := by decide +kernel
theorem d_PT_init_64 : decode b_PT_init 64 = .ok (.invokespecial 46, 3) := by decide +kernel
theorem d_PT_init_67 : decode b_PT_init 67 = .ok (.putfield 47, 3) := by decide +kernel
theorem d_PT_init_70 : decode b_PT_init 70 = .ok (.return_, 1) := by decide +kernel
def rm_PT_init : Room := { frames := 2, cells := 27, slots := 417, locals := 34 }
