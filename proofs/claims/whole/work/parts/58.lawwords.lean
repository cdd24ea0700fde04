def TL : List Cond := [Cond.methodLink R_Law 49 y_Law_person,
  Cond.static y_Law_person,
  Cond.codeWith y_Law_person b_Law_person 7 (some .int) [(0, 14, 17, 13), (0, 14, 21, 15)],
  Cond.methodLink R_Law 54 y_Mo_person,
  Cond.instanceMethod y_Mo_person,
  Cond.selects R_Mo y_Mo_person y_Mo_person,
  Cond.code y_Mo_person b_Mo_person 5 (some .int),
  Cond.methodLink R_Law 59 y_Law_tug,
  Cond.static y_Law_tug,
  Cond.codeWith y_Law_tug b_Law_tug 4 (some .int) [(0, 9, 12, 13), (0, 9, 15, 15)],
  Cond.methodLink R_Law 62 y_Mo_tug,
  Cond.instanceMethod y_Mo_tug,
  Cond.selects R_Mo y_Mo_tug y_Mo_tug,
  Cond.code y_Mo_tug b_Mo_tug 2 (some .int),
  Cond.methodLink R_Law 63 y_Law_job,
  Cond.static y_Law_job,
  Cond.codeWith y_Law_job b_Law_job 8 (some .int) [(0, 16, 19, 13), (0, 16, 23, 15)],
  Cond.methodLink R_Law 66 y_Mo_job,
  Cond.instanceMethod y_Mo_job,
  Cond.selects R_Mo y_Mo_job y_Mo_job,
  Cond.code y_Mo_job b_Mo_job 6 (some .int),
  Cond.methodLink R_Law 86 y_Law_of,
  Cond.static y_Law_of,
  Cond.codeWith y_Law_of b_Law_of 5 (some .int) [(0, 10, 13, 29), (0, 10, 17, 15)],
  Cond.methodLink R_Law 89 y_Mo_of,
  Cond.instanceMethod y_Mo_of,
  Cond.selects R_Mo y_Mo_of y_Mo_of,
  Cond.code y_Mo_of b_Mo_of 4 (some .int),
  Cond.methodLink R_Law 90 y_Law_late,
  Cond.static y_Law_late,
  Cond.codeWith y_Law_late b_Law_late 5 (some .int) [(0, 10, 13, 29), (0, 10, 17, 13), (0, 10, 21, 15)],
  Cond.methodLink R_Law 92 y_Mo_late,
  Cond.instanceMethod y_Mo_late,
  Cond.selects R_Mo y_Mo_late y_Mo_late,
  Cond.code y_Mo_late b_Mo_late 7 (some .int),
  Cond.methodLink R_Law 93 y_Law_day,
  Cond.static y_Law_day,
  Cond.codeWith y_Law_day b_Law_day 5 (some .int) [(0, 10, 13, 29), (0, 10, 17, 15)],
  Cond.methodLink R_Law 95 y_Mo_day,
  Cond.instanceMethod y_Mo_day,
  Cond.selects R_Mo y_Mo_day y_Mo_day,
  Cond.code y_Mo_day b_Mo_day 5 (some .int),
  Cond.methodLink R_Law 96 y_Law_waits,
  Cond.static y_Law_waits,
  Cond.codeWith y_Law_waits b_Law_waits 4 (some .int) [(0, 9, 12, 29), (0, 9, 15, 15)],
  Cond.methodLink R_Law 98 y_Mo_waits,
  Cond.instanceMethod y_Mo_waits,
  Cond.selects R_Mo y_Mo_waits y_Mo_waits,
  Cond.code y_Mo_waits b_Mo_waits 6 (some .int),
  Cond.methodLink R_Law 99 y_Law_share,
  Cond.static y_Law_share,
  Cond.codeWith y_Law_share b_Law_share 5 (some .int) [(0, 10, 13, 13), (0, 10, 17, 43)],
  Cond.methodLink R_Law 101 y_Mo_share,
  Cond.instanceMethod y_Mo_share,
  Cond.selects R_Mo y_Mo_share y_Mo_share,
  Cond.code y_Mo_share b_Mo_share 3 (some .int),
  Cond.methodLink R_Law 67 y_PT_travels,
  Cond.instanceMethod y_PT_travels,
  Cond.selects R_PT y_PT_travels y_PT_travels,
  Cond.code y_PT_travels b_PT_travels 4 (some .boolean),
  Cond.methodLink R_Law 71 y_Mo_travels,
  Cond.instanceMethod y_Mo_travels,
  Cond.selects R_Mo y_Mo_travels y_Mo_travels,
  Cond.code y_Mo_travels b_Mo_travels 4 (some .boolean),
  Cond.methodLink R_Law 72 y_PT_rest,
  Cond.instanceMethod y_PT_rest,
  Cond.selects R_PT y_PT_rest y_PT_rest,
  Cond.code y_PT_rest b_PT_rest 2 (some .boolean),
  Cond.methodLink R_Law 76 y_Mo_rest,
  Cond.instanceMethod y_Mo_rest,
  Cond.selects R_Mo y_Mo_rest y_Mo_rest,
  Cond.code y_Mo_rest b_Mo_rest 2 (some .boolean),
  Cond.methodLink R_Law 77 y_PT_rule,
  Cond.instanceMethod y_PT_rule,
  Cond.selects R_PT y_PT_rule y_PT_rule,
  Cond.code y_PT_rule b_PT_rule 3 (some .boolean),
  Cond.methodLink R_Law 81 y_Mo_rule,
  Cond.instanceMethod y_Mo_rule,
  Cond.selects R_Mo y_Mo_rule y_Mo_rule,
  Cond.code y_Mo_rule b_Mo_rule 3 (some .boolean),
  Cond.methodLink R_Law 82 y_PT_assign,
  Cond.instanceMethod y_PT_assign,
  Cond.selects R_PT y_PT_assign y_PT_assign,
  Cond.code y_PT_assign b_PT_assign 1 (some .int),
  Cond.methodLink R_Law 85 y_Mo_assign,
  Cond.instanceMethod y_Mo_assign,
  Cond.selects R_Mo y_Mo_assign y_Mo_assign,
  Cond.code y_Mo_assign b_Mo_assign 1 (some .int),
  Cond.methodLink R_Law 102 y_PT_count,
  Cond.instanceMethod y_PT_count,
  Cond.selects R_PT y_PT_count y_PT_count,
  Cond.code y_PT_count b_PT_count 3 (some .int),
  Cond.methodLink R_Law 105 y_Mo_count,
  Cond.instanceMethod y_Mo_count,
  Cond.selects R_Mo y_Mo_count y_Mo_count,
  Cond.code y_Mo_count b_Mo_count 2 (some .int),
  Cond.methodLink R_Law 55 y_Mo_thrown,
  Cond.instanceMethod y_Mo_thrown,
  Cond.selects R_Mo y_Mo_thrown y_Mo_thrown,
  Cond.code y_Mo_thrown b_Mo_thrown 1 (some .int),
  Cond.classLink R_Law 8 R_PT,
  Cond.instantiable R_PT 6,
  Cond.methodLink R_Law 45 y_PT_init,
  Cond.instanceMethod y_PT_init,
  Cond.code y_PT_init b_PT_init 1 none,
  Cond.initialized R_PT,
  Cond.classLink R_Law 46 R_Mo,
  Cond.instantiable R_Mo 24,
  Cond.methodLink R_Law 48 y_Mo_init,
  Cond.instanceMethod y_Mo_init,
  Cond.code y_Mo_init b_Mo_init 2 none,
  Cond.initialized R_Mo,
  Cond.initialized R_Law,
  Cond.arrayClass .int,
  Cond.arrayClass .long,
  Cond.methodLinkNest R_PT 9 y_People_init "PilotTugs",
  Cond.methodLinkNest R_PT 18 y_Jobs_init "PilotTugs",
  Cond.methodLinkNest R_PT 25 y_Tugs_init "PilotTugs",
  Cond.methodLinkNest R_PT 39 y_Planner_init "PilotTugs",
  Cond.methodLinkNest R_PT 46 y_Plan_init "PilotTugs",
  Cond.initialized R_Jobs,
  Cond.initialized R_People,
  Cond.initialized R_Plan,
  Cond.initialized R_Planner,
  Cond.initialized R_Tugs,
  Cond.initialized R_Ways]
def ix_TL : List Nat := [390, 391, 392, 708, 709, 710, 711, 494, 495, 496, 725, 726, 727, 728, 507, 508, 509, 729, 730, 731, 732, 521, 522, 523, 825, 826, 827, 828, 556, 557, 558, 845, 846, 847, 848, 584, 585, 586, 849, 850, 851, 852, 592, 593, 594, 853, 854, 855, 856, 599, 600, 601, 857, 858, 859, 860, 259, 260, 261, 262, 733, 734, 735, 736, 273, 274, 275, 276, 737, 738, 739, 740, 277, 278, 279, 280, 741, 742, 743, 744, 285, 286, 287, 288, 749, 750, 751, 752, 386, 387, 388, 389, 862, 863, 864, 865, 704, 705, 706, 707, 55, 56, 57, 58, 59, 37, 625, 626, 627, 628, 629, 44, 36, 102, 193, 65, 105, 153, 182, 196, 39, 38, 43, 42, 40, 41]
set_option maxRecDepth 100000 in
theorem in_TL : ∀ w ∈ TL, w ∈ lw_tbl := in_of_ix ix_TL rfl
theorem TL_all : TL.all (fun w => goodWord w || decide (w = Cond.methodLinkNest R_PT 9 y_People_init "PilotTugs") || decide (w = Cond.methodLinkNest R_PT 18 y_Jobs_init "PilotTugs") || decide (w = Cond.methodLinkNest R_PT 25 y_Tugs_init "PilotTugs") || decide (w = Cond.methodLinkNest R_PT 39 y_Planner_init "PilotTugs") || decide (w = Cond.methodLinkNest R_PT 46 y_Plan_init "PilotTugs")) = true := by decide +kernel
theorem tl_l_Law_person : Cond.methodLink R_Law 49 y_Law_person ∈ lw_tbl := in_TL _ (List.mem_of_getElem? (i := 0) rfl)
theorem tl_s_Law_person : Cond.static y_Law_person ∈ lw_tbl := in_TL _ (List.mem_of_getElem? (i := 1) rfl)
theorem tl_c_Law_person : Cond.codeWith y_Law_person b_Law_person 7 (some .int) [(0, 14, 17, 13), (0, 14, 21, 15)] ∈ lw_tbl := in_TL _ (List.mem_of_getElem? (i := 2) rfl)
theorem tl_l_Mo_person : Cond.methodLink R_Law 54 y_Mo_person ∈ lw_tbl := in_TL _ (List.mem_of_getElem? (i := 3) rfl)
theorem tl_i_Mo_person : Cond.instanceMethod y_Mo_person ∈ lw_tbl := in_TL _ (List.mem_of_getElem? (i := 4) rfl)
theorem tl_s_Mo_person : Cond.selects R_Mo y_Mo_person y_Mo_person ∈ lw_tbl := in_TL _ (List.mem_of_getElem? (i := 5) rfl)
theorem tl_c_Mo_person : Cond.code y_Mo_person b_Mo_person 5 (some .int) ∈ lw_tbl := in_TL _ (List.mem_of_getElem? (i := 6) rfl)
theorem tl_l_Law_tug : Cond.methodLink R_Law 59 y_Law_tug ∈ lw_tbl := in_TL _ (List.mem_of_getElem? (i := 7) rfl)
theorem tl_s_Law_tug : Cond.static y_Law_tug ∈ lw_tbl := in_TL _ (List.mem_of_getElem? (i := 8) rfl)
theorem tl_c_Law_tug : Cond.codeWith y_Law_tug b_Law_tug 4 (some .int) [(0, 9, 12, 13), (0, 9, 15, 15)] ∈ lw_tbl := in_TL _ (List.mem_of_getElem? (i := 9) rfl)
theorem tl_l_Mo_tug : Cond.methodLink R_Law 62 y_Mo_tug ∈ lw_tbl := in_TL _ (List.mem_of_getElem? (i := 10) rfl)
theorem tl_i_Mo_tug : Cond.instanceMethod y_Mo_tug ∈ lw_tbl := in_TL _ (List.mem_of_getElem? (i := 11) rfl)
theorem tl_s_Mo_tug : Cond.selects R_Mo y_Mo_tug y_Mo_tug ∈ lw_tbl := in_TL _ (List.mem_of_getElem? (i := 12) rfl)
theorem tl_c_Mo_tug : Cond.code y_Mo_tug b_Mo_tug 2 (some .int) ∈ lw_tbl := in_TL _ (List.mem_of_getElem? (i := 13) rfl)
theorem tl_l_Law_job : Cond.methodLink R_Law 63 y_Law_job ∈ lw_tbl := in_TL _ (List.mem_of_getElem? (i := 14) rfl)
theorem tl_s_Law_job : Cond.static y_Law_job ∈ lw_tbl := in_TL _ (List.mem_of_getElem? (i := 15) rfl)
theorem tl_c_Law_job : Cond.codeWith y_Law_job b_Law_job 8 (some .int) [(0, 16, 19, 13), (0, 16, 23, 15)] ∈ lw_tbl := in_TL _ (List.mem_of_getElem? (i := 16) rfl)
theorem tl_l_Mo_job : Cond.methodLink R_Law 66 y_Mo_job ∈ lw_tbl := in_TL _ (List.mem_of_getElem? (i := 17) rfl)
theorem tl_i_Mo_job : Cond.instanceMethod y_Mo_job ∈ lw_tbl := in_TL _ (List.mem_of_getElem? (i := 18) rfl)
theorem tl_s_Mo_job : Cond.selects R_Mo y_Mo_job y_Mo_job ∈ lw_tbl := in_TL _ (List.mem_of_getElem? (i := 19) rfl)
theorem tl_c_Mo_job : Cond.code y_Mo_job b_Mo_job 6 (some .int) ∈ lw_tbl := in_TL _ (List.mem_of_getElem? (i := 20) rfl)
theorem tl_l_Law_of : Cond.methodLink R_Law 86 y_Law_of ∈ lw_tbl := in_TL _ (List.mem_of_getElem? (i := 21) rfl)
theorem tl_s_Law_of : Cond.static y_Law_of ∈ lw_tbl := in_TL _ (List.mem_of_getElem? (i := 22) rfl)
theorem tl_c_Law_of : Cond.codeWith y_Law_of b_Law_of 5 (some .int) [(0, 10, 13, 29), (0, 10, 17, 15)] ∈ lw_tbl := in_TL _ (List.mem_of_getElem? (i := 23) rfl)
theorem tl_l_Mo_of : Cond.methodLink R_Law 89 y_Mo_of ∈ lw_tbl := in_TL _ (List.mem_of_getElem? (i := 24) rfl)
theorem tl_i_Mo_of : Cond.instanceMethod y_Mo_of ∈ lw_tbl := in_TL _ (List.mem_of_getElem? (i := 25) rfl)
theorem tl_s_Mo_of : Cond.selects R_Mo y_Mo_of y_Mo_of ∈ lw_tbl := in_TL _ (List.mem_of_getElem? (i := 26) rfl)
theorem tl_c_Mo_of : Cond.code y_Mo_of b_Mo_of 4 (some .int) ∈ lw_tbl := in_TL _ (List.mem_of_getElem? (i := 27) rfl)
theorem tl_l_Law_late : Cond.methodLink R_Law 90 y_Law_late ∈ lw_tbl := in_TL _ (List.mem_of_getElem? (i := 28) rfl)
theorem tl_s_Law_late : Cond.static y_Law_late ∈ lw_tbl := in_TL _ (List.mem_of_getElem? (i := 29) rfl)
theorem tl_c_Law_late : Cond.codeWith y_Law_late b_Law_late 5 (some .int) [(0, 10, 13, 29), (0, 10, 17, 13), (0, 10, 21, 15)] ∈ lw_tbl := in_TL _ (List.mem_of_getElem? (i := 30) rfl)
theorem tl_l_Mo_late : Cond.methodLink R_Law 92 y_Mo_late ∈ lw_tbl := in_TL _ (List.mem_of_getElem? (i := 31) rfl)
theorem tl_i_Mo_late : Cond.instanceMethod y_Mo_late ∈ lw_tbl := in_TL _ (List.mem_of_getElem? (i := 32) rfl)
theorem tl_s_Mo_late : Cond.selects R_Mo y_Mo_late y_Mo_late ∈ lw_tbl := in_TL _ (List.mem_of_getElem? (i := 33) rfl)
theorem tl_c_Mo_late : Cond.code y_Mo_late b_Mo_late 7 (some .int) ∈ lw_tbl := in_TL _ (List.mem_of_getElem? (i := 34) rfl)
theorem tl_l_Law_day : Cond.methodLink R_Law 93 y_Law_day ∈ lw_tbl := in_TL _ (List.mem_of_getElem? (i := 35) rfl)
theorem tl_s_Law_day : Cond.static y_Law_day ∈ lw_tbl := in_TL _ (List.mem_of_getElem? (i := 36) rfl)
theorem tl_c_Law_day : Cond.codeWith y_Law_day b_Law_day 5 (some .int) [(0, 10, 13, 29), (0, 10, 17, 15)] ∈ lw_tbl := in_TL _ (List.mem_of_getElem? (i := 37) rfl)
theorem tl_l_Mo_day : Cond.methodLink R_Law 95 y_Mo_day ∈ lw_tbl := in_TL _ (List.mem_of_getElem? (i := 38) rfl)
theorem tl_i_Mo_day : Cond.instanceMethod y_Mo_day ∈ lw_tbl := in_TL _ (List.mem_of_getElem? (i := 39) rfl)
theorem tl_s_Mo_day : Cond.selects R_Mo y_Mo_day y_Mo_day ∈ lw_tbl := in_TL _ (List.mem_of_getElem? (i := 40) rfl)
theorem tl_c_Mo_day : Cond.code y_Mo_day b_Mo_day 5 (some .int) ∈ lw_tbl := in_TL _ (List.mem_of_getElem? (i := 41) rfl)
theorem tl_l_Law_waits : Cond.methodLink R_Law 96 y_Law_waits ∈ lw_tbl := in_TL _ (List.mem_of_getElem? (i := 42) rfl)
theorem tl_s_Law_waits : Cond.static y_Law_waits ∈ lw_tbl := in_TL _ (List.mem_of_getElem? (i := 43) rfl)
theorem tl_c_Law_waits : Cond.codeWith y_Law_waits b_Law_waits 4 (some .int) [(0, 9, 12, 29), (0, 9, 15, 15)] ∈ lw_tbl := in_TL _ (List.mem_of_getElem? (i := 44) rfl)
theorem tl_l_Mo_waits : Cond.methodLink R_Law 98 y_Mo_waits ∈ lw_tbl := in_TL _ (List.mem_of_getElem? (i := 45) rfl)
theorem tl_i_Mo_waits : Cond.instanceMethod y_Mo_waits ∈ lw_tbl := in_TL _ (List.mem_of_getElem? (i := 46) rfl)
theorem tl_s_Mo_waits : Cond.selects R_Mo y_Mo_waits y_Mo_waits ∈ lw_tbl := in_TL _ (List.mem_of_getElem? (i := 47) rfl)
theorem tl_c_Mo_waits : Cond.code y_Mo_waits b_Mo_waits 6 (some .int) ∈ lw_tbl := in_TL _ (List.mem_of_getElem? (i := 48) rfl)
theorem tl_l_Law_share : Cond.methodLink R_Law 99 y_Law_share ∈ lw_tbl := in_TL _ (List.mem_of_getElem? (i := 49) rfl)
theorem tl_s_Law_share : Cond.static y_Law_share ∈ lw_tbl := in_TL _ (List.mem_of_getElem? (i := 50) rfl)
theorem tl_c_Law_share : Cond.codeWith y_Law_share b_Law_share 5 (some .int) [(0, 10, 13, 13), (0, 10, 17, 43)] ∈ lw_tbl := in_TL _ (List.mem_of_getElem? (i := 51) rfl)
theorem tl_l_Mo_share : Cond.methodLink R_Law 101 y_Mo_share ∈ lw_tbl := in_TL _ (List.mem_of_getElem? (i := 52) rfl)
theorem tl_i_Mo_share : Cond.instanceMethod y_Mo_share ∈ lw_tbl := in_TL _ (List.mem_of_getElem? (i := 53) rfl)
theorem tl_s_Mo_share : Cond.selects R_Mo y_Mo_share y_Mo_share ∈ lw_tbl := in_TL _ (List.mem_of_getElem? (i := 54) rfl)
theorem tl_c_Mo_share : Cond.code y_Mo_share b_Mo_share 3 (some .int) ∈ lw_tbl := in_TL _ (List.mem_of_getElem? (i := 55) rfl)
theorem tl_l_PT_travels : Cond.methodLink R_Law 67 y_PT_travels ∈ lw_tbl := in_TL _ (List.mem_of_getElem? (i := 56) rfl)
theorem tl_i_PT_travels : Cond.instanceMethod y_PT_travels ∈ lw_tbl := in_TL _ (List.mem_of_getElem? (i := 57) rfl)
theorem tl_s_PT_travels : Cond.selects R_PT y_PT_travels y_PT_travels ∈ lw_tbl := in_TL _ (List.mem_of_getElem? (i := 58) rfl)
theorem tl_c_PT_travels : Cond.code y_PT_travels b_PT_travels 4 (some .boolean) ∈ lw_tbl := in_TL _ (List.mem_of_getElem? (i := 59) rfl)
theorem tl_l_Mo_travels : Cond.methodLink R_Law 71 y_Mo_travels ∈ lw_tbl := in_TL _ (List.mem_of_getElem? (i := 60) rfl)
theorem tl_i_Mo_travels : Cond.instanceMethod y_Mo_travels ∈ lw_tbl := in_TL _ (List.mem_of_getElem? (i := 61) rfl)
theorem tl_s_Mo_travels : Cond.selects R_Mo y_Mo_travels y_Mo_travels ∈ lw_tbl := in_TL _ (List.mem_of_getElem? (i := 62) rfl)
theorem tl_c_Mo_travels : Cond.code y_Mo_travels b_Mo_travels 4 (some .boolean) ∈ lw_tbl := in_TL _ (List.mem_of_getElem? (i := 63) rfl)
theorem tl_l_PT_rest : Cond.methodLink R_Law 72 y_PT_rest ∈ lw_tbl := in_TL _ (List.mem_of_getElem? (i := 64) rfl)
theorem tl_i_PT_rest : Cond.instanceMethod y_PT_rest ∈ lw_tbl := in_TL _ (List.mem_of_getElem? (i := 65) rfl)
theorem tl_s_PT_rest : Cond.selects R_PT y_PT_rest y_PT_rest ∈ lw_tbl := in_TL _ (List.mem_of_getElem? (i := 66) rfl)
theorem tl_c_PT_rest : Cond.code y_PT_rest b_PT_rest 2 (some .boolean) ∈ lw_tbl := in_TL _ (List.mem_of_getElem? (i := 67) rfl)
theorem tl_l_Mo_rest : Cond.methodLink R_Law 76 y_Mo_rest ∈ lw_tbl := in_TL _ (List.mem_of_getElem? (i := 68) rfl)
theorem tl_i_Mo_rest : Cond.instanceMethod y_Mo_rest ∈ lw_tbl := in_TL _ (List.mem_of_getElem? (i := 69) rfl)
theorem tl_s_Mo_rest : Cond.selects R_Mo y_Mo_rest y_Mo_rest ∈ lw_tbl := in_TL _ (List.mem_of_getElem? (i := 70) rfl)
theorem tl_c_Mo_rest : Cond.code y_Mo_rest b_Mo_rest 2 (some .boolean) ∈ lw_tbl := in_TL _ (List.mem_of_getElem? (i := 71) rfl)
theorem tl_l_PT_rule : Cond.methodLink R_Law 77 y_PT_rule ∈ lw_tbl := in_TL _ (List.mem_of_getElem? (i := 72) rfl)
theorem tl_i_PT_rule : Cond.instanceMethod y_PT_rule ∈ lw_tbl := in_TL _ (List.mem_of_getElem? (i := 73) rfl)
theorem tl_s_PT_rule : Cond.selects R_PT y_PT_rule y_PT_rule ∈ lw_tbl := in_TL _ (List.mem_of_getElem? (i := 74) rfl)
theorem tl_c_PT_rule : Cond.code y_PT_rule b_PT_rule 3 (some .boolean) ∈ lw_tbl := in_TL _ (List.mem_of_getElem? (i := 75) rfl)
theorem tl_l_Mo_rule : Cond.methodLink R_Law 81 y_Mo_rule ∈ lw_tbl := in_TL _ (List.mem_of_getElem? (i := 76) rfl)
theorem tl_i_Mo_rule : Cond.instanceMethod y_Mo_rule ∈ lw_tbl := in_TL _ (List.mem_of_getElem? (i := 77) rfl)
theorem tl_s_Mo_rule : Cond.selects R_Mo y_Mo_rule y_Mo_rule ∈ lw_tbl := in_TL _ (List.mem_of_getElem? (i := 78) rfl)
theorem tl_c_Mo_rule : Cond.code y_Mo_rule b_Mo_rule 3 (some .boolean) ∈ lw_tbl := in_TL _ (List.mem_of_getElem? (i := 79) rfl)
theorem tl_l_PT_assign : Cond.methodLink R_Law 82 y_PT_assign ∈ lw_tbl := in_TL _ (List.mem_of_getElem? (i := 80) rfl)
theorem tl_i_PT_assign : Cond.instanceMethod y_PT_assign ∈ lw_tbl := in_TL _ (List.mem_of_getElem? (i := 81) rfl)
theorem tl_s_PT_assign : Cond.selects R_PT y_PT_assign y_PT_assign ∈ lw_tbl := in_TL _ (List.mem_of_getElem? (i := 82) rfl)
theorem tl_c_PT_assign : Cond.code y_PT_assign b_PT_assign 1 (some .int) ∈ lw_tbl := in_TL _ (List.mem_of_getElem? (i := 83) rfl)
theorem tl_l_Mo_assign : Cond.methodLink R_Law 85 y_Mo_assign ∈ lw_tbl := in_TL _ (List.mem_of_getElem? (i := 84) rfl)
theorem tl_i_Mo_assign : Cond.instanceMethod y_Mo_assign ∈ lw_tbl := in_TL _ (List.mem_of_getElem? (i := 85) rfl)
theorem tl_s_Mo_assign : Cond.selects R_Mo y_Mo_assign y_Mo_assign ∈ lw_tbl := in_TL _ (List.mem_of_getElem? (i := 86) rfl)
theorem tl_c_Mo_assign : Cond.code y_Mo_assign b_Mo_assign 1 (some .int) ∈ lw_tbl := in_TL _ (List.mem_of_getElem? (i := 87) rfl)
theorem tl_l_PT_count : Cond.methodLink R_Law 102 y_PT_count ∈ lw_tbl := in_TL _ (List.mem_of_getElem? (i := 88) rfl)
theorem tl_i_PT_count : Cond.instanceMethod y_PT_count ∈ lw_tbl := in_TL _ (List.mem_of_getElem? (i := 89) rfl)
theorem tl_s_PT_count : Cond.selects R_PT y_PT_count y_PT_count ∈ lw_tbl := in_TL _ (List.mem_of_getElem? (i := 90) rfl)
theorem tl_c_PT_count : Cond.code y_PT_count b_PT_count 3 (some .int) ∈ lw_tbl := in_TL _ (List.mem_of_getElem? (i := 91) rfl)
theorem tl_l_Mo_count : Cond.methodLink R_Law 105 y_Mo_count ∈ lw_tbl := in_TL _ (List.mem_of_getElem? (i := 92) rfl)
theorem tl_i_Mo_count : Cond.instanceMethod y_Mo_count ∈ lw_tbl := in_TL _ (List.mem_of_getElem? (i := 93) rfl)
theorem tl_s_Mo_count : Cond.selects R_Mo y_Mo_count y_Mo_count ∈ lw_tbl := in_TL _ (List.mem_of_getElem? (i := 94) rfl)
theorem tl_c_Mo_count : Cond.code y_Mo_count b_Mo_count 2 (some .int) ∈ lw_tbl := in_TL _ (List.mem_of_getElem? (i := 95) rfl)
theorem tl_l_Mo_thrown : Cond.methodLink R_Law 55 y_Mo_thrown ∈ lw_tbl := in_TL _ (List.mem_of_getElem? (i := 96) rfl)
theorem tl_i_Mo_thrown : Cond.instanceMethod y_Mo_thrown ∈ lw_tbl := in_TL _ (List.mem_of_getElem? (i := 97) rfl)
theorem tl_s_Mo_thrown : Cond.selects R_Mo y_Mo_thrown y_Mo_thrown ∈ lw_tbl := in_TL _ (List.mem_of_getElem? (i := 98) rfl)
theorem tl_c_Mo_thrown : Cond.code y_Mo_thrown b_Mo_thrown 1 (some .int) ∈ lw_tbl := in_TL _ (List.mem_of_getElem? (i := 99) rfl)
theorem tl_k_PT : Cond.classLink R_Law 8 R_PT ∈ lw_tbl := in_TL _ (List.mem_of_getElem? (i := 100) rfl)
theorem tl_n_PT : Cond.instantiable R_PT 6 ∈ lw_tbl := in_TL _ (List.mem_of_getElem? (i := 101) rfl)
theorem tl_l_PT_init : Cond.methodLink R_Law 45 y_PT_init ∈ lw_tbl := in_TL _ (List.mem_of_getElem? (i := 102) rfl)
theorem tl_i_PT_init : Cond.instanceMethod y_PT_init ∈ lw_tbl := in_TL _ (List.mem_of_getElem? (i := 103) rfl)
theorem tl_c_PT_init : Cond.code y_PT_init b_PT_init 1 none ∈ lw_tbl := in_TL _ (List.mem_of_getElem? (i := 104) rfl)
theorem tl_z_PT : Cond.initialized R_PT ∈ lw_tbl := in_TL _ (List.mem_of_getElem? (i := 105) rfl)
theorem tl_k_Mo : Cond.classLink R_Law 46 R_Mo ∈ lw_tbl := in_TL _ (List.mem_of_getElem? (i := 106) rfl)
theorem tl_n_Mo : Cond.instantiable R_Mo 24 ∈ lw_tbl := in_TL _ (List.mem_of_getElem? (i := 107) rfl)
theorem tl_l_Mo_init : Cond.methodLink R_Law 48 y_Mo_init ∈ lw_tbl := in_TL _ (List.mem_of_getElem? (i := 108) rfl)
theorem tl_i_Mo_init : Cond.instanceMethod y_Mo_init ∈ lw_tbl := in_TL _ (List.mem_of_getElem? (i := 109) rfl)
theorem tl_c_Mo_init : Cond.code y_Mo_init b_Mo_init 2 none ∈ lw_tbl := in_TL _ (List.mem_of_getElem? (i := 110) rfl)
theorem tl_z_Mo : Cond.initialized R_Mo ∈ lw_tbl := in_TL _ (List.mem_of_getElem? (i := 111) rfl)
theorem tl_z_Law : Cond.initialized R_Law ∈ lw_tbl := in_TL _ (List.mem_of_getElem? (i := 112) rfl)
theorem tl_a_int : Cond.arrayClass .int ∈ lw_tbl := in_TL _ (List.mem_of_getElem? (i := 113) rfl)
theorem tl_a_long : Cond.arrayClass .long ∈ lw_tbl := in_TL _ (List.mem_of_getElem? (i := 114) rfl)
theorem tl_nw_People : Cond.methodLinkNest R_PT 9 y_People_init "PilotTugs" ∈ lw_tbl := in_TL _ (List.mem_of_getElem? (i := 115) rfl)
theorem tl_nw_Jobs : Cond.methodLinkNest R_PT 18 y_Jobs_init "PilotTugs" ∈ lw_tbl := in_TL _ (List.mem_of_getElem? (i := 116) rfl)
theorem tl_nw_Tugs : Cond.methodLinkNest R_PT 25 y_Tugs_init "PilotTugs" ∈ lw_tbl := in_TL _ (List.mem_of_getElem? (i := 117) rfl)
theorem tl_nw_Planner : Cond.methodLinkNest R_PT 39 y_Planner_init "PilotTugs" ∈ lw_tbl := in_TL _ (List.mem_of_getElem? (i := 118) rfl)
theorem tl_nw_Plan : Cond.methodLinkNest R_PT 46 y_Plan_init "PilotTugs" ∈ lw_tbl := in_TL _ (List.mem_of_getElem? (i := 119) rfl)
theorem tl_z_Jobs : Cond.initialized R_Jobs ∈ lw_tbl := in_TL _ (List.mem_of_getElem? (i := 120) rfl)
theorem tl_z_People : Cond.initialized R_People ∈ lw_tbl := in_TL _ (List.mem_of_getElem? (i := 121) rfl)
theorem tl_z_Plan : Cond.initialized R_Plan ∈ lw_tbl := in_TL _ (List.mem_of_getElem? (i := 122) rfl)
theorem tl_z_Planner : Cond.initialized R_Planner ∈ lw_tbl := in_TL _ (List.mem_of_getElem? (i := 123) rfl)
theorem tl_z_Tugs : Cond.initialized R_Tugs ∈ lw_tbl := in_TL _ (List.mem_of_getElem? (i := 124) rfl)
theorem tl_z_Ways : Cond.initialized R_Ways ∈ lw_tbl := in_TL _ (List.mem_of_getElem? (i := 125) rfl)
theorem gl_good {ws : List Cond} {w0 : Cond} (hc : w0 ∈ lw_tbl) (hg : goodWord w0 = true) (hw : ws = w0 :: TB) : GoodIn lw_tbl ws := by
  intro w h
  rw [hw] at h
  rcases List.mem_cons.mp h with rfl | h
  · exact ⟨hc, good_of_word hg⟩
  · exact ⟨in_TB w h, TB_good _ h⟩
theorem gl_goodW {b : Nat} {s : State} {ws : List Cond} {w0 : Cond} (ht : ∀ w ∈ lw_tbl, w.before #[Value.ref b] s = true) (hc : w0 ∈ lw_tbl) (hg : goodWord w0 = true) (hw : ws = w0 :: TWB) : ∀ w ∈ ws, w.before #[Value.ref b] s = true ∧ ((w.onTables && w.keeps) = true ∨ ∃ ty, w = .arrayClass ty) := by
  intro w h
  rw [hw] at h
  rcases List.mem_cons.mp h with rfl | h
  · exact ⟨ht _ hc, good_of_word hg⟩
  · exact ⟨(List.mem_append.mp h).elim (fun z => ht _ (in_TW w z)) (fun z => ht _ (in_TB w z)), TWB_good _ h⟩
theorem gl_goodK {ws : List Cond} {w0 : Cond} (hc : w0 ∈ lw_tbl) (hg : goodWord w0 = true) (hw : ws = w0 :: TKB) : GoodIn lw_tbl ws := by
  intro w h
  rw [hw] at h
  rcases List.mem_cons.mp h with rfl | h
  · exact ⟨hc, good_of_word hg⟩
  · exact ⟨(List.mem_append.mp h).elim (in_TK w) (in_TB w), TKB_good _ h⟩
/-! the walk's own pieces -/
def ArgAt (pc j : Nat) : Prop := decode code pc = .ok (.aload_n 0, 1) ∧ decode code (pc + 1) = .ok (.iload 4, 2) ∧ decode code (pc + 3) = .ok (.iconst (j : Int), 1) ∧ decode code (pc + 4) = .ok (.iadd, 1) ∧ decode code (pc + 5) = .ok (.iaload, 1)
def TailAt (t : Nat) (off : Int) : Prop := decode code t = .ok (.istore 6, 2) ∧ decode code (t + 2) = .ok (.aload_n 2, 1) ∧ decode code (t + 3) = .ok (.invokevirtual 55, 3) ∧ decode code (t + 6) = .ok (.iload 5, 2) ∧ decode code (t + 8) = .ok (.if_icmp .eq 5, 3) ∧ decode code (t + 13) = .ok (.iload 5, 2) ∧ decode code (t + 15) = .ok (.ifCond .ne 15, 3) ∧ decode code (t + 18) = .ok (.aload_n 3, 1) ∧ decode code (t + 19) = .ok (.iconst 0, 1) ∧ decode code (t + 20) = .ok (.laload, 1) ∧ decode code (t + 21) = .ok (.iload 6, 2) ∧ decode code (t + 23) = .ok (.i2l, 1) ∧ decode code (t + 24) = .ok (.lcmp, 1) ∧ decode code (t + 25) = .ok (.ifCond .eq 5, 3) ∧ decode code (t + 30) = .ok (.goto off, 3) ∧ ((t : Int) + 30) + off = 837
def LC (p : Program) (s : State) (m : MethodId) (meth : Method) (c : Code) (b L : Nat) (xs : Nat → Int32) (ad : Nat → Nat) (D : va_G) (ci cl : ClassId) : Prop :=
  lw_At p s m meth c b L xs ∧ va_K D classes (xt ci cl) s ∧ XT s ∧ (∀ (q : Nat) (ce : Cell), s.heap[q]? = some ce → ce.vm.isStatics = true → ¬ gA (xa ad) s.heap.size q) ∧ ¬ gA (xa ad) s.heap.size b ∧ L ≤ 3072
def ll (ad : Nat → Nat) (b i : Nat) : List (Nat × Value) := [(4, .int (nI i)), (0, .ref b), (1, .ref (ad 0)), (2, .ref (ad 29)), (3, .ref (ad 28))]
section LWS
variable {p : Program} {l : Launch} {e : Env} {s : State} {m : MethodId} {below : List Frame} {meth : Method} {c : Code} {H : Heap} {locs : List Loc} {cells slots : Nat} {Q : State → Prop}
variable {D : va_G} {ad : Nat → Nat} {ci cl : ClassId} {b L i : Nat} {xs : Nat → Int32} {σ : MI} {τ : ML} {ls : Array Slot} {pc : Nat} {rest : List Value}
theorem lw_arg (K : LC p s m meth c b L xs ad D ci cl) (hS : va_S (gA (xa ad) s.heap.size) s.heap H locs) {j : Nat} (hA : ArgAt pc j) (hj : j < 6) (hij : i + 6 ≤ L) (l0 : ls[0]? = some (.val (.ref b))) (l4 : ls[4]? = some (.val (.int (nI i))))
    (k : W p l e room_1 s m #[Value.ref b] below meth c H locs cells slots Q (F0 m (pc + 6) ls (.int (xs (i + j)) :: rest))) : W p l e room_1 s m #[Value.ref b] below meth c H locs cells slots Q (F0 m pc ls rest) := by
  obtain ⟨⟨hx, hb, -, -, -, -, hX, hbl, -, -⟩, -, -, -, hbA, hL⟩ := K
  obtain ⟨d0, d1, d2, d3, d4⟩ := hA
  refine lv_aload_n hx hb d0 rfl l0 ?_
  refine lv_iload hx hb d1 l4 ?_
  refine lv_iconst (v := nI j) hx hb d2 rfl ?_
  refine lv_iadd hx hb d3 ?_
  have e1 : (nI i + nI j).toInt = ((i + j : Nat) : Int) := by
    rw [z_add (by rw [z_nI (by omega), z_nI (by omega)]; omega) (by rw [z_nI (by omega), z_nI (by omega)]; omega), z_nI (by omega), z_nI (by omega)]; omega
  refine va_sld hx hb hX hbl hbA hS (z_in.mpr (by rw [e1]; omega)) d4 ?_
  rw [z_cl, e1]
  exact k
theorem lw_tail (K : LC p s m meth c b L xs ad D ci cl) {t : Nat} {off : Int} (hT : TailAt t off) {k v : Int32} (hP : va_P D classes (xw ad ci cl σ τ) H) (hD : va_D (gA (xa ad) s.heap.size) (xw ad ci cl σ τ)) (hS : va_S (gA (xa ad) s.heap.size) s.heap H locs) (hl : lv_has ls 7 ((5, .int k) :: ll ad b i)) (h1 : σ 29 0 = k) (h2 : k = 0 → τ 28 0 = v.toInt64) (hcs : cells ≤ 1089 ∧ slots ≤ 9371)
    (kk : ∀ (H : Heap) (locs : List Loc) (ls : Array Slot), va_P D classes (xw ad ci cl σ τ) H → va_D (gA (xa ad) s.heap.size) (xw ad ci cl σ τ) → va_S (gA (xa ad) s.heap.size) s.heap H locs → lv_has ls 7 (ll ad b i) → W p l e room_1 s m #[Value.ref b] below meth c H locs cells slots Q (F0 m 837 ls [])) : W p l e room_1 s m #[Value.ref b] below meth c H locs cells slots Q (F0 m t ls [.int v]) := by
  obtain ⟨⟨hx, hb, -, hml, hown, hts, hX, hbl, -, -⟩, hK, hXT, hst, hbA, hL⟩ := K
  obtain ⟨d0, d2, d3, d6, d8, d13, d15, d18, d19, d20, d21, d23, d24, d25, d30, ho⟩ := hT
  have htB : ∀ w ∈ TB, w.before #[Value.ref b] s = true := fun w h => hts w (in_TB w h)
  refine lv_istore hx hb d0 hl (by decide) rfl (fun ls hl => ?_)
  have hl : lv_has ls 7 [(6, .int v), (5, .int k), (4, .int (nI i)), (0, .ref b), (1, .ref (ad 0)), (2, .ref (ad 29)), (3, .ref (ad 28))] := hl
  refine lv_aload_n hx hb d2 rfl (lv_at hl 5 rfl) ?_
  refine gk_callVi (As := []) (rest := []) (b := ad 29) ⟨hx, hb, hml, hown, htB⟩ (c_Mo_thrown l D ad ci cl _ σ τ trivial) ⟨callB_of 0 hts (gl_good tl_c_Mo_thrown (by decide +kernel) rfl) rfl rfl rfl (hts _ tl_z_Mo) (hts _ tl_l_Mo_thrown) (by decide +kernel) ⟨Nat.le_of_ble_eq_true rfl, Nat.le_of_ble_eq_true rfl⟩, hts _ tl_i_Mo_thrown, hts _ tl_s_Mo_thrown⟩ hK hP hD hS (va_recv hK hP (ci := 7) (q0 := 29) rfl rfl) rfl hl.1 rfl (lv_room (Nat.le_of_ble_eq_true rfl)) d3 hcs (fun r σ1 τ1 H locs hq hP hD hS => ?_)
  obtain ⟨rfl, rfl, rfl⟩ := hq
  refine lv_iload hx hb d6 (lv_at hl 1 rfl) ?_
  refine lv_icmp_eq (tgt := t + 13) hx hb d8 (by omega) (fun hc => ?_) (fun hc => absurd h1 hc)
  refine lv_iload hx hb d13 (lv_at hl 1 rfl) ?_
  have hgo : W p l e room_1 s m #[Value.ref b] below meth c H locs cells slots Q (F0 m (t + 30) ls []) :=
    lv_goto (tgt := 837) hx hb d30 (by omega) (kk H locs ls hP hD hS (lv_sub hl [2, 3, 4, 5, 6] rfl))
  refine lv_if_ne (tgt := t + 30) hx hb d15 (by omega) (fun _ => hgo) (fun hc => ?_)
  have hk : k = 0 := hc
  refine lv_aload_n hx hb d18 rfl (lv_at hl 6 rfl) ?_
  refine lv_iconst (v := 0) hx hb d19 (by decide) ?_
  refine va_lald hx hb hK hP 28 1 rfl rfl (z_in.mpr (by decide)) d20 ?_
  refine lv_iload hx hb d21 (lv_at hl 0 rfl) ?_
  refine lv_i2l hx hb d23 rfl ?_
  refine W.lcmp hx hb d24 ?_
  refine lv_if_eq (tgt := t + 30) hx hb d25 (by omega) (fun _ => hgo) (fun hc => absurd (zl_cmp0.mpr (h2 hk)) hc)
end LWS
