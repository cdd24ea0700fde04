section
-- ===== PART A: goes FIRST, ahead of the names: the tables' words, and 'selects' of the private methods out of them =====
/-- a private method of a class that the tables say can be made, by its rows of tables_1 -/
def lw_okq (q : MethodName × Nat) : Prop := (q.1.cls ≠ "java/lang/invoke/MethodHandle" ∧ q.1.cls ≠ "java/lang/invoke/VarHandle") ∧ Cond.instantiable q.1.cls q.2 ∈ tables_1 ∧ Cond.privateMethod q.1 ∈ tables_1 ∧ Cond.instanceMethod q.1 ∈ tables_1
theorem lw_p0 : lw_okq (⟨"PilotTugs", "isPerson", "(I)Z"⟩, 6) := ⟨⟨by decide +kernel, by decide +kernel⟩, List.mem_of_getElem? (i := 20) (by decide +kernel), List.mem_of_getElem? (i := 246) (by decide +kernel), List.mem_of_getElem? (i := 247) (by decide +kernel)⟩
theorem lw_p1 : lw_okq (⟨"PilotTugs", "makePlan", "()V"⟩, 6) := ⟨⟨by decide +kernel, by decide +kernel⟩, List.mem_of_getElem? (i := 20) (by decide +kernel), List.mem_of_getElem? (i := 254) (by decide +kernel), List.mem_of_getElem? (i := 255) (by decide +kernel)⟩
theorem lw_p2 : lw_okq (⟨"PilotTugs$Planner", "giveToNobody", "(I)V"⟩, 2) := ⟨⟨by decide +kernel, by decide +kernel⟩, List.mem_of_getElem? (i := 145) (by decide +kernel), List.mem_of_getElem? (i := 273) (by decide +kernel), List.mem_of_getElem? (i := 274) (by decide +kernel)⟩
theorem lw_p3 : lw_okq (⟨"PilotTugs$Planner", "costOwn", "(LPilotTugs$People;LPilotTugs$Jobs;LPilotTugs$Ways;I)V"⟩, 2) := ⟨⟨by decide +kernel, by decide +kernel⟩, List.mem_of_getElem? (i := 145) (by decide +kernel), List.mem_of_getElem? (i := 293) (by decide +kernel), List.mem_of_getElem? (i := 294) (by decide +kernel)⟩
theorem lw_p4 : lw_okq (⟨"PilotTugs$Planner", "joinOwn", "(I)V"⟩, 2) := ⟨⟨by decide +kernel, by decide +kernel⟩, List.mem_of_getElem? (i := 145) (by decide +kernel), List.mem_of_getElem? (i := 310) (by decide +kernel), List.mem_of_getElem? (i := 311) (by decide +kernel)⟩
theorem lw_p5 : lw_okq (⟨"PilotTugs$Plan", "walkOf", "(IILPilotTugs$Jobs;LPilotTugs$Ways;)V"⟩, 9) := ⟨⟨by decide +kernel, by decide +kernel⟩, List.mem_of_getElem? (i := 159) (by decide +kernel), List.mem_of_getElem? (i := 321) (by decide +kernel), List.mem_of_getElem? (i := 322) (by decide +kernel)⟩
theorem lw_p6 : lw_okq (⟨"PilotTugs$Tugs", "freeFor", "(ILPilotTugs$Jobs;LPilotTugs$Plan;)I"⟩, 2) := ⟨⟨by decide +kernel, by decide +kernel⟩, List.mem_of_getElem? (i := 116) (by decide +kernel), List.mem_of_getElem? (i := 330) (by decide +kernel), List.mem_of_getElem? (i := 331) (by decide +kernel)⟩
theorem lw_p7 : lw_okq (⟨"PilotTugs$Tugs", "choose", "(II)I"⟩, 2) := ⟨⟨by decide +kernel, by decide +kernel⟩, List.mem_of_getElem? (i := 116) (by decide +kernel), List.mem_of_getElem? (i := 338) (by decide +kernel), List.mem_of_getElem? (i := 339) (by decide +kernel)⟩
theorem lw_p8 : lw_okq (⟨"PilotTugs$Tugs", "pullOf", "(I)I"⟩, 2) := ⟨⟨by decide +kernel, by decide +kernel⟩, List.mem_of_getElem? (i := 116) (by decide +kernel), List.mem_of_getElem? (i := 342) (by decide +kernel), List.mem_of_getElem? (i := 343) (by decide +kernel)⟩
theorem lw_p9 : lw_okq (⟨"PilotTugs$Tugs", "isBetter", "(II)Z"⟩, 2) := ⟨⟨by decide +kernel, by decide +kernel⟩, List.mem_of_getElem? (i := 116) (by decide +kernel), List.mem_of_getElem? (i := 346) (by decide +kernel), List.mem_of_getElem? (i := 347) (by decide +kernel)⟩
theorem lw_p10 : lw_okq (⟨"java/lang/Throwable", "fillInStackTrace", "(I)Ljava/lang/Throwable;"⟩, 6) := ⟨⟨by decide +kernel, by decide +kernel⟩, List.mem_of_getElem? (i := 409) (by decide +kernel), List.mem_of_getElem? (i := 407) (by decide +kernel), List.mem_of_getElem? (i := 408) (by decide +kernel)⟩
theorem lw_p11 : lw_okq (⟨"PilotTugs", "isJob", "(I)Z"⟩, 6) := ⟨⟨by decide +kernel, by decide +kernel⟩, List.mem_of_getElem? (i := 20) (by decide +kernel), List.mem_of_getElem? (i := 494) (by decide +kernel), List.mem_of_getElem? (i := 495) (by decide +kernel)⟩
theorem lw_p12 : lw_okq (⟨"PilotTugs", "whyNobody", "(I)I"⟩, 6) := ⟨⟨by decide +kernel, by decide +kernel⟩, List.mem_of_getElem? (i := 20) (by decide +kernel), List.mem_of_getElem? (i := 515) (by decide +kernel), List.mem_of_getElem? (i := 516) (by decide +kernel)⟩
theorem lw_p13 : lw_okq (⟨"PilotTugsModel", "refuse", "(I)I"⟩, 24) := ⟨⟨by decide +kernel, by decide +kernel⟩, List.mem_of_getElem? (i := 590) (by decide +kernel), List.mem_of_getElem? (i := 686) (by decide +kernel), List.mem_of_getElem? (i := 687) (by decide +kernel)⟩
theorem lw_p14 : lw_okq (⟨"PilotTugsModel", "isPerson", "(I)Z"⟩, 24) := ⟨⟨by decide +kernel, by decide +kernel⟩, List.mem_of_getElem? (i := 590) (by decide +kernel), List.mem_of_getElem? (i := 710) (by decide +kernel), List.mem_of_getElem? (i := 711) (by decide +kernel)⟩
theorem lw_p15 : lw_okq (⟨"PilotTugsModel", "search", "()V"⟩, 24) := ⟨⟨by decide +kernel, by decide +kernel⟩, List.mem_of_getElem? (i := 590) (by decide +kernel), List.mem_of_getElem? (i := 718) (by decide +kernel), List.mem_of_getElem? (i := 719) (by decide +kernel)⟩
def lw_privs_1 : List (MethodName × Nat) := [(⟨"PilotTugs", "isPerson", "(I)Z"⟩, 6), (⟨"PilotTugs", "makePlan", "()V"⟩, 6), (⟨"PilotTugs$Planner", "giveToNobody", "(I)V"⟩, 2), (⟨"PilotTugs$Planner", "costOwn", "(LPilotTugs$People;LPilotTugs$Jobs;LPilotTugs$Ways;I)V"⟩, 2), (⟨"PilotTugs$Planner", "joinOwn", "(I)V"⟩, 2), (⟨"PilotTugs$Plan", "walkOf", "(IILPilotTugs$Jobs;LPilotTugs$Ways;)V"⟩, 9), (⟨"PilotTugs$Tugs", "freeFor", "(ILPilotTugs$Jobs;LPilotTugs$Plan;)I"⟩, 2), (⟨"PilotTugs$Tugs", "choose", "(II)I"⟩, 2), (⟨"PilotTugs$Tugs", "pullOf", "(I)I"⟩, 2), (⟨"PilotTugs$Tugs", "isBetter", "(II)Z"⟩, 2), (⟨"java/lang/Throwable", "fillInStackTrace", "(I)Ljava/lang/Throwable;"⟩, 6), (⟨"PilotTugs", "isJob", "(I)Z"⟩, 6), (⟨"PilotTugs", "whyNobody", "(I)I"⟩, 6), (⟨"PilotTugsModel", "refuse", "(I)I"⟩, 24), (⟨"PilotTugsModel", "isPerson", "(I)Z"⟩, 24), (⟨"PilotTugsModel", "search", "()V"⟩, 24)]
theorem lw_r1 : ∀ q ∈ lw_privs_1, lw_okq q := List.forall_mem_cons.mpr ⟨lw_p0, List.forall_mem_cons.mpr ⟨lw_p1, List.forall_mem_cons.mpr ⟨lw_p2, List.forall_mem_cons.mpr ⟨lw_p3, List.forall_mem_cons.mpr ⟨lw_p4, List.forall_mem_cons.mpr ⟨lw_p5, List.forall_mem_cons.mpr ⟨lw_p6, List.forall_mem_cons.mpr ⟨lw_p7, List.forall_mem_cons.mpr ⟨lw_p8, List.forall_mem_cons.mpr ⟨lw_p9, List.forall_mem_cons.mpr ⟨lw_p10, List.forall_mem_cons.mpr ⟨lw_p11, List.forall_mem_cons.mpr ⟨lw_p12, List.forall_mem_cons.mpr ⟨lw_p13, List.forall_mem_cons.mpr ⟨lw_p14, List.forall_mem_cons.mpr ⟨lw_p15, fun _ h => absurd h List.not_mem_nil⟩⟩⟩⟩⟩⟩⟩⟩⟩⟩⟩⟩⟩⟩⟩⟩
theorem lw_p16 : lw_okq (⟨"PilotTugsModel", "asks", "()V"⟩, 24) := ⟨⟨by decide +kernel, by decide +kernel⟩, List.mem_of_getElem? (i := 590) (by decide +kernel), List.mem_of_getElem? (i := 722) (by decide +kernel), List.mem_of_getElem? (i := 723) (by decide +kernel)⟩
theorem lw_p17 : lw_okq (⟨"PilotTugsModel", "isBarred", "(I)Z"⟩, 24) := ⟨⟨by decide +kernel, by decide +kernel⟩, List.mem_of_getElem? (i := 590) (by decide +kernel), List.mem_of_getElem? (i := 726) (by decide +kernel), List.mem_of_getElem? (i := 727) (by decide +kernel)⟩
theorem lw_p18 : lw_okq (⟨"PilotTugsModel", "cost", "(II)I"⟩, 24) := ⟨⟨by decide +kernel, by decide +kernel⟩, List.mem_of_getElem? (i := 590) (by decide +kernel), List.mem_of_getElem? (i := 731) (by decide +kernel), List.mem_of_getElem? (i := 732) (by decide +kernel)⟩
theorem lw_p19 : lw_okq (⟨"PilotTugsModel", "next", "(II)I"⟩, 24) := ⟨⟨by decide +kernel, by decide +kernel⟩, List.mem_of_getElem? (i := 590) (by decide +kernel), List.mem_of_getElem? (i := 735) (by decide +kernel), List.mem_of_getElem? (i := 736) (by decide +kernel)⟩
theorem lw_p20 : lw_okq (⟨"PilotTugsModel", "triedMany", "()I"⟩, 24) := ⟨⟨by decide +kernel, by decide +kernel⟩, List.mem_of_getElem? (i := 590) (by decide +kernel), List.mem_of_getElem? (i := 739) (by decide +kernel), List.mem_of_getElem? (i := 740) (by decide +kernel)⟩
theorem lw_p21 : lw_okq (⟨"PilotTugsModel", "triedCost", "()I"⟩, 24) := ⟨⟨by decide +kernel, by decide +kernel⟩, List.mem_of_getElem? (i := 590) (by decide +kernel), List.mem_of_getElem? (i := 743) (by decide +kernel), List.mem_of_getElem? (i := 744) (by decide +kernel)⟩
theorem lw_p22 : lw_okq (⟨"PilotTugsModel", "triedOf", "(I)I"⟩, 24) := ⟨⟨by decide +kernel, by decide +kernel⟩, List.mem_of_getElem? (i := 590) (by decide +kernel), List.mem_of_getElem? (i := 747) (by decide +kernel), List.mem_of_getElem? (i := 748) (by decide +kernel)⟩
theorem lw_p23 : lw_okq (⟨"PilotTugsModel", "goesOn", "()Z"⟩, 24) := ⟨⟨by decide +kernel, by decide +kernel⟩, List.mem_of_getElem? (i := 590) (by decide +kernel), List.mem_of_getElem? (i := 751) (by decide +kernel), List.mem_of_getElem? (i := 752) (by decide +kernel)⟩
theorem lw_p24 : lw_okq (⟨"PilotTugsModel", "givesTugs", "()V"⟩, 24) := ⟨⟨by decide +kernel, by decide +kernel⟩, List.mem_of_getElem? (i := 590) (by decide +kernel), List.mem_of_getElem? (i := 755) (by decide +kernel), List.mem_of_getElem? (i := 756) (by decide +kernel)⟩
theorem lw_p25 : lw_okq (⟨"PilotTugsModel", "best", "(I)I"⟩, 24) := ⟨⟨by decide +kernel, by decide +kernel⟩, List.mem_of_getElem? (i := 590) (by decide +kernel), List.mem_of_getElem? (i := 759) (by decide +kernel), List.mem_of_getElem? (i := 760) (by decide +kernel)⟩
theorem lw_p26 : lw_okq (⟨"PilotTugsModel", "busy", "(I)I"⟩, 24) := ⟨⟨by decide +kernel, by decide +kernel⟩, List.mem_of_getElem? (i := 590) (by decide +kernel), List.mem_of_getElem? (i := 763) (by decide +kernel), List.mem_of_getElem? (i := 764) (by decide +kernel)⟩
theorem lw_p27 : lw_okq (⟨"PilotTugsModel", "together", "(I)I"⟩, 24) := ⟨⟨by decide +kernel, by decide +kernel⟩, List.mem_of_getElem? (i := 590) (by decide +kernel), List.mem_of_getElem? (i := 767) (by decide +kernel), List.mem_of_getElem? (i := 768) (by decide +kernel)⟩
theorem lw_p28 : lw_okq (⟨"PilotTugsModel", "many", "(I)I"⟩, 24) := ⟨⟨by decide +kernel, by decide +kernel⟩, List.mem_of_getElem? (i := 590) (by decide +kernel), List.mem_of_getElem? (i := 771) (by decide +kernel), List.mem_of_getElem? (i := 772) (by decide +kernel)⟩
theorem lw_p29 : lw_okq (⟨"PilotTugsModel", "givenMany", "()I"⟩, 24) := ⟨⟨by decide +kernel, by decide +kernel⟩, List.mem_of_getElem? (i := 590) (by decide +kernel), List.mem_of_getElem? (i := 778) (by decide +kernel), List.mem_of_getElem? (i := 779) (by decide +kernel)⟩
theorem lw_p30 : lw_okq (⟨"PilotTugsModel", "sum", "()I"⟩, 24) := ⟨⟨by decide +kernel, by decide +kernel⟩, List.mem_of_getElem? (i := 590) (by decide +kernel), List.mem_of_getElem? (i := 782) (by decide +kernel), List.mem_of_getElem? (i := 783) (by decide +kernel)⟩
theorem lw_p31 : lw_okq (⟨"PilotTugsModel", "givenTo", "(I)I"⟩, 24) := ⟨⟨by decide +kernel, by decide +kernel⟩, List.mem_of_getElem? (i := 590) (by decide +kernel), List.mem_of_getElem? (i := 786) (by decide +kernel), List.mem_of_getElem? (i := 787) (by decide +kernel)⟩
def lw_privs_2 : List (MethodName × Nat) := [(⟨"PilotTugsModel", "asks", "()V"⟩, 24), (⟨"PilotTugsModel", "isBarred", "(I)Z"⟩, 24), (⟨"PilotTugsModel", "cost", "(II)I"⟩, 24), (⟨"PilotTugsModel", "next", "(II)I"⟩, 24), (⟨"PilotTugsModel", "triedMany", "()I"⟩, 24), (⟨"PilotTugsModel", "triedCost", "()I"⟩, 24), (⟨"PilotTugsModel", "triedOf", "(I)I"⟩, 24), (⟨"PilotTugsModel", "goesOn", "()Z"⟩, 24), (⟨"PilotTugsModel", "givesTugs", "()V"⟩, 24), (⟨"PilotTugsModel", "best", "(I)I"⟩, 24), (⟨"PilotTugsModel", "busy", "(I)I"⟩, 24), (⟨"PilotTugsModel", "together", "(I)I"⟩, 24), (⟨"PilotTugsModel", "many", "(I)I"⟩, 24), (⟨"PilotTugsModel", "givenMany", "()I"⟩, 24), (⟨"PilotTugsModel", "sum", "()I"⟩, 24), (⟨"PilotTugsModel", "givenTo", "(I)I"⟩, 24)]
theorem lw_r2 : ∀ q ∈ lw_privs_2, lw_okq q := List.forall_mem_cons.mpr ⟨lw_p16, List.forall_mem_cons.mpr ⟨lw_p17, List.forall_mem_cons.mpr ⟨lw_p18, List.forall_mem_cons.mpr ⟨lw_p19, List.forall_mem_cons.mpr ⟨lw_p20, List.forall_mem_cons.mpr ⟨lw_p21, List.forall_mem_cons.mpr ⟨lw_p22, List.forall_mem_cons.mpr ⟨lw_p23, List.forall_mem_cons.mpr ⟨lw_p24, List.forall_mem_cons.mpr ⟨lw_p25, List.forall_mem_cons.mpr ⟨lw_p26, List.forall_mem_cons.mpr ⟨lw_p27, List.forall_mem_cons.mpr ⟨lw_p28, List.forall_mem_cons.mpr ⟨lw_p29, List.forall_mem_cons.mpr ⟨lw_p30, List.forall_mem_cons.mpr ⟨lw_p31, fun _ h => absurd h List.not_mem_nil⟩⟩⟩⟩⟩⟩⟩⟩⟩⟩⟩⟩⟩⟩⟩⟩
theorem lw_p32 : lw_okq (⟨"PilotTugsModel", "isJob", "(I)Z"⟩, 24) := ⟨⟨by decide +kernel, by decide +kernel⟩, List.mem_of_getElem? (i := 590) (by decide +kernel), List.mem_of_getElem? (i := 794) (by decide +kernel), List.mem_of_getElem? (i := 795) (by decide +kernel)⟩
theorem lw_p33 : lw_okq (⟨"PilotTugsModel", "travelTo", "(I)I"⟩, 24) := ⟨⟨by decide +kernel, by decide +kernel⟩, List.mem_of_getElem? (i := 590) (by decide +kernel), List.mem_of_getElem? (i := 798) (by decide +kernel), List.mem_of_getElem? (i := 799) (by decide +kernel)⟩
theorem lw_p34 : lw_okq (⟨"PilotTugsModel", "before", "(II)I"⟩, 24) := ⟨⟨by decide +kernel, by decide +kernel⟩, List.mem_of_getElem? (i := 590) (by decide +kernel), List.mem_of_getElem? (i := 802) (by decide +kernel), List.mem_of_getElem? (i := 803) (by decide +kernel)⟩
theorem lw_p35 : lw_okq (⟨"PilotTugsModel", "why", "(I)I"⟩, 24) := ⟨⟨by decide +kernel, by decide +kernel⟩, List.mem_of_getElem? (i := 590) (by decide +kernel), List.mem_of_getElem? (i := 806) (by decide +kernel), List.mem_of_getElem? (i := 807) (by decide +kernel)⟩
def lw_privs_3 : List (MethodName × Nat) := [(⟨"PilotTugsModel", "isJob", "(I)Z"⟩, 24), (⟨"PilotTugsModel", "travelTo", "(I)I"⟩, 24), (⟨"PilotTugsModel", "before", "(II)I"⟩, 24), (⟨"PilotTugsModel", "why", "(I)I"⟩, 24)]
theorem lw_r3 : ∀ q ∈ lw_privs_3, lw_okq q := List.forall_mem_cons.mpr ⟨lw_p32, List.forall_mem_cons.mpr ⟨lw_p33, List.forall_mem_cons.mpr ⟨lw_p34, List.forall_mem_cons.mpr ⟨lw_p35, fun _ h => absurd h List.not_mem_nil⟩⟩⟩⟩
def lw_privs : List (MethodName × Nat) := lw_privs_1 ++ (lw_privs_2 ++ (lw_privs_3))
def lw_tbl : List Cond := k2_sels lw_privs ++ tables_1
theorem lw_privs_ok : ∀ q ∈ lw_privs, lw_okq q := by
  show ∀ q ∈ lw_privs_1 ++ (lw_privs_2 ++ (lw_privs_3)), lw_okq q
  exact List.forall_mem_append.mpr ⟨lw_r1, List.forall_mem_append.mpr ⟨lw_r2, lw_r3⟩⟩
end
section
/-! names of the classes, their fields and methods: made by program out of the class files -/
def R_Jobs : String := "PilotTugs$Jobs"
def F_Jobs : u_T := fun k => match k with
  | 0 => ("PilotTugs$Jobs", "size", "I", false)
  | 1 => ("PilotTugs$Jobs", "licence", "[I", true)
  | 2 => ("PilotTugs$Jobs", "pull", "[I", true)
  | 3 => ("PilotTugs$Jobs", "from", "[I", true)
  | 4 => ("PilotTugs$Jobs", "to", "[I", true)
  | 5 => ("PilotTugs$Jobs", "place", "[I", true)
  | _ => ("PilotTugs$Jobs", "inOrder", "[I", true)
def ty_Jobs : Nat → FieldType := fun k => match k with
  | 0 => .int
  | 1 => .array .int
  | 2 => .array .int
  | 3 => .array .int
  | 4 => .array .int
  | 5 => .array .int
  | _ => .array .int
theorem nn_Jobs : ∀ a, a < 7 → ∀ b, b < 7 → a ≠ b → (F_Jobs a).2.1 ≠ (F_Jobs b).2.1 := by decide +kernel
theorem ty_Jobs_ok : ∀ k, k < 7 → parseFieldDescriptor (F_Jobs k).2.2.1 = some (ty_Jobs k) := by decide +kernel
def R_People : String := "PilotTugs$People"
def F_People : u_T := fun k => match k with
  | 0 => ("PilotTugs$People", "size", "I", false)
  | 1 => ("PilotTugs$People", "licence", "[I", true)
  | 2 => ("PilotTugs$People", "from", "[I", true)
  | 3 => ("PilotTugs$People", "to", "[I", true)
  | 4 => ("PilotTugs$People", "home", "[I", true)
  | 5 => ("PilotTugs$People", "does", "[I", true)
  | _ => ("PilotTugs$People", "failures", "[I", true)
def ty_People : Nat → FieldType := fun k => match k with
  | 0 => .int
  | 1 => .array .int
  | 2 => .array .int
  | 3 => .array .int
  | 4 => .array .int
  | 5 => .array .int
  | _ => .array .int
theorem nn_People : ∀ a, a < 7 → ∀ b, b < 7 → a ≠ b → (F_People a).2.1 ≠ (F_People b).2.1 := by decide +kernel
theorem ty_People_ok : ∀ k, k < 7 → parseFieldDescriptor (F_People k).2.2.1 = some (ty_People k) := by decide +kernel
def R_Plan : String := "PilotTugs$Plan"
def F_Plan : u_T := fun k => match k with
  | 0 => ("PilotTugs$Plan", "made", "Z", false)
  | 1 => ("PilotTugs$Plan", "barred", "I", false)
  | 2 => ("PilotTugs$Plan", "given", "I", false)
  | 3 => ("PilotTugs$Plan", "travel", "I", false)
  | 4 => ("PilotTugs$Plan", "doer", "[I", true)
  | 5 => ("PilotTugs$Plan", "travelTo", "[I", true)
  | 6 => ("PilotTugs$Plan", "tugsOf", "[I", true)
  | 7 => ("PilotTugs$Plan", "without", "[I", true)
  | _ => ("PilotTugs$Plan", "doerBefore", "[I", true)
def ty_Plan : Nat → FieldType := fun k => match k with
  | 0 => .boolean
  | 1 => .int
  | 2 => .int
  | 3 => .int
  | 4 => .array .int
  | 5 => .array .int
  | 6 => .array .int
  | 7 => .array .int
  | _ => .array .int
theorem nn_Plan : ∀ a, a < 9 → ∀ b, b < 9 → a ≠ b → (F_Plan a).2.1 ≠ (F_Plan b).2.1 := by decide +kernel
theorem ty_Plan_ok : ∀ k, k < 9 → parseFieldDescriptor (F_Plan k).2.2.1 = some (ty_Plan k) := by decide +kernel
def R_Planner : String := "PilotTugs$Planner"
def F_Planner : u_T := fun k => match k with
  | 0 => ("PilotTugs$Planner", "least", "[J", true)
  | _ => ("PilotTugs$Planner", "own", "[J", true)
def ty_Planner : Nat → FieldType := fun k => match k with
  | 0 => .array .long
  | _ => .array .long
theorem nn_Planner : ∀ a, a < 2 → ∀ b, b < 2 → a ≠ b → (F_Planner a).2.1 ≠ (F_Planner b).2.1 := by decide +kernel
theorem ty_Planner_ok : ∀ k, k < 2 → parseFieldDescriptor (F_Planner k).2.2.1 = some (ty_Planner k) := by decide +kernel
def R_Tugs : String := "PilotTugs$Tugs"
def F_Tugs : u_T := fun k => match k with
  | 0 => ("PilotTugs$Tugs", "size", "I", false)
  | _ => ("PilotTugs$Tugs", "pull", "[I", true)
def ty_Tugs : Nat → FieldType := fun k => match k with
  | 0 => .int
  | _ => .array .int
theorem nn_Tugs : ∀ a, a < 2 → ∀ b, b < 2 → a ≠ b → (F_Tugs a).2.1 ≠ (F_Tugs b).2.1 := by decide +kernel
theorem ty_Tugs_ok : ∀ k, k < 2 → parseFieldDescriptor (F_Tugs k).2.2.1 = some (ty_Tugs k) := by decide +kernel
def R_Ways : String := "PilotTugs$Ways"
def F_Ways : u_T := fun k => match k with
  | 0 => ("PilotTugs$Ways", "restMinutes", "I", false)
  | _ => ("PilotTugs$Ways", "minutes", "[I", true)
def ty_Ways : Nat → FieldType := fun k => match k with
  | 0 => .int
  | _ => .array .int
theorem nn_Ways : ∀ a, a < 2 → ∀ b, b < 2 → a ≠ b → (F_Ways a).2.1 ≠ (F_Ways b).2.1 := by decide +kernel
theorem ty_Ways_ok : ∀ k, k < 2 → parseFieldDescriptor (F_Ways k).2.2.1 = some (ty_Ways k) := by decide +kernel
def R_PT : String := "PilotTugs"
def F_PT : u_T := fun k => match k with
  | 0 => ("PilotTugs", "people", "LPilotTugs$People;", true)
  | 1 => ("PilotTugs", "jobs", "LPilotTugs$Jobs;", true)
  | 2 => ("PilotTugs", "tugs", "LPilotTugs$Tugs;", true)
  | 3 => ("PilotTugs", "ways", "LPilotTugs$Ways;", true)
  | 4 => ("PilotTugs", "planner", "LPilotTugs$Planner;", true)
  | _ => ("PilotTugs", "plan", "LPilotTugs$Plan;", true)
def ty_PT : Nat → FieldType := fun k => match k with
  | 0 => .object "PilotTugs$People"
  | 1 => .object "PilotTugs$Jobs"
  | 2 => .object "PilotTugs$Tugs"
  | 3 => .object "PilotTugs$Ways"
  | 4 => .object "PilotTugs$Planner"
  | _ => .object "PilotTugs$Plan"
theorem nn_PT : ∀ a, a < 6 → ∀ b, b < 6 → a ≠ b → (F_PT a).2.1 ≠ (F_PT b).2.1 := by decide +kernel
theorem ty_PT_ok : ∀ k, k < 6 → parseFieldDescriptor (F_PT k).2.2.1 = some (ty_PT k) := by decide +kernel
def R_Mo : String := "PilotTugsModel"
def F_Mo : u_T := fun k => match k with
  | 0 => ("PilotTugsModel", "thrown", "I", false)
  | 1 => ("PilotTugsModel", "people", "I", false)
  | 2 => ("PilotTugsModel", "licence", "[I", true)
  | 3 => ("PilotTugsModel", "hoursFrom", "[I", true)
  | 4 => ("PilotTugsModel", "hoursTo", "[I", true)
  | 5 => ("PilotTugsModel", "home", "[I", true)
  | 6 => ("PilotTugsModel", "rules", "[I", true)
  | 7 => ("PilotTugsModel", "failures", "[I", true)
  | 8 => ("PilotTugsModel", "tugs", "I", false)
  | 9 => ("PilotTugsModel", "pull", "[I", true)
  | 10 => ("PilotTugsModel", "jobs", "I", false)
  | 11 => ("PilotTugsModel", "need", "[I", true)
  | 12 => ("PilotTugsModel", "pulls", "[I", true)
  | 13 => ("PilotTugsModel", "from", "[I", true)
  | 14 => ("PilotTugsModel", "to", "[I", true)
  | 15 => ("PilotTugsModel", "place", "[I", true)
  | 16 => ("PilotTugsModel", "travel", "[I", true)
  | 17 => ("PilotTugsModel", "rest", "I", false)
  | 18 => ("PilotTugsModel", "planned", "Z", false)
  | 19 => ("PilotTugsModel", "given", "[I", true)
  | 20 => ("PilotTugsModel", "tugsOf", "[I", true)
  | 21 => ("PilotTugsModel", "barred", "I", false)
  | 22 => ("PilotTugsModel", "costs", "[I", true)
  | _ => ("PilotTugsModel", "tried", "[I", true)
def ty_Mo : Nat → FieldType := fun k => match k with
  | 0 => .int
  | 1 => .int
  | 2 => .array .int
  | 3 => .array .int
  | 4 => .array .int
  | 5 => .array .int
  | 6 => .array .int
  | 7 => .array .int
  | 8 => .int
  | 9 => .array .int
  | 10 => .int
  | 11 => .array .int
  | 12 => .array .int
  | 13 => .array .int
  | 14 => .array .int
  | 15 => .array .int
  | 16 => .array .int
  | 17 => .int
  | 18 => .boolean
  | 19 => .array .int
  | 20 => .array .int
  | 21 => .int
  | 22 => .array .int
  | _ => .array .int
theorem nn_Mo : ∀ a, a < 24 → ∀ b, b < 24 → a ≠ b → (F_Mo a).2.1 ≠ (F_Mo b).2.1 := by decide +kernel
theorem ty_Mo_ok : ∀ k, k < 24 → parseFieldDescriptor (F_Mo k).2.2.1 = some (ty_Mo k) := by decide +kernel
def R_Law : String := "PilotTugsLaw"
def R_Integer : String := "java/lang/Integer"
abbrev classes : List vw_C := [(R_Jobs, F_Jobs, 7), (R_People, F_People, 7), (R_Plan, F_Plan, 9), (R_Planner, F_Planner, 2), (R_Tugs, F_Tugs, 2), (R_Ways, F_Ways, 2), (R_PT, F_PT, 6), (R_Mo, F_Mo, 24)]
abbrev b_PT_init : ByteArray := prog_1_method_1_code
def y_PT_init : MethodName := ⟨R_PT, "<init>", "()V"⟩
abbrev b_PT_person : ByteArray := prog_1_method_2_code
def y_PT_person : MethodName := ⟨R_PT, "person", "(IIII)I"⟩
abbrev b_PT_tug : ByteArray := prog_1_method_3_code
def y_PT_tug : MethodName := ⟨R_PT, "tug", "(I)I"⟩
abbrev b_PT_job : ByteArray := prog_1_method_4_code
def y_PT_job : MethodName := ⟨R_PT, "job", "(IIIII)I"⟩
abbrev b_PT_travels : ByteArray := prog_1_method_5_code
def y_PT_travels : MethodName := ⟨R_PT, "travels", "(III)Z"⟩
abbrev b_PT_rest : ByteArray := prog_1_method_6_code
def y_PT_rest : MethodName := ⟨R_PT, "rest", "(I)Z"⟩
abbrev b_PT_rule : ByteArray := prog_1_method_7_code
def y_PT_rule : MethodName := ⟨R_PT, "rule", "(II)Z"⟩
abbrev b_PT_assign : ByteArray := prog_1_method_8_code
def y_PT_assign : MethodName := ⟨R_PT, "assign", "()I"⟩
abbrev b_PT_of : ByteArray := prog_1_method_9_code
def y_PT_of : MethodName := ⟨R_PT, "of", "(II)I"⟩
abbrev b_PT_late : ByteArray := prog_1_method_10_code
def y_PT_late : MethodName := ⟨R_PT, "late", "(II)I"⟩
abbrev b_PT_day : ByteArray := prog_1_method_11_code
def y_PT_day : MethodName := ⟨R_PT, "day", "(II)I"⟩
abbrev b_PT_waits : ByteArray := prog_1_method_12_code
def y_PT_waits : MethodName := ⟨R_PT, "waits", "(I)I"⟩
abbrev b_PT_share : ByteArray := prog_1_method_13_code
def y_PT_share : MethodName := ⟨R_PT, "share", "(II)I"⟩
abbrev b_PT_count : ByteArray := prog_1_method_14_code
def y_PT_count : MethodName := ⟨R_PT, "count", "(I)I"⟩
abbrev b_PT_isWithin : ByteArray := prog_1_method_15_code
def y_PT_isWithin : MethodName := ⟨R_PT, "isWithin", "(III)Z"⟩
abbrev b_PT_isLicence : ByteArray := prog_1_method_16_code
def y_PT_isLicence : MethodName := ⟨R_PT, "isLicence", "(I)Z"⟩
abbrev b_PT_isPlace : ByteArray := prog_1_method_17_code
def y_PT_isPlace : MethodName := ⟨R_PT, "isPlace", "(I)Z"⟩
abbrev b_PT_isSpan : ByteArray := prog_1_method_18_code
def y_PT_isSpan : MethodName := ⟨R_PT, "isSpan", "(II)Z"⟩
abbrev b_PT_isPerson : ByteArray := prog_1_method_19_code
def y_PT_isPerson : MethodName := ⟨R_PT, "isPerson", "(I)Z"⟩
abbrev b_PT_isJob : ByteArray := prog_1_method_20_code
def y_PT_isJob : MethodName := ⟨R_PT, "isJob", "(I)Z"⟩
abbrev b_PT_makePlan : ByteArray := prog_1_method_21_code
def y_PT_makePlan : MethodName := ⟨R_PT, "makePlan", "()V"⟩
abbrev b_PT_whyNobody : ByteArray := prog_1_method_22_code
def y_PT_whyNobody : MethodName := ⟨R_PT, "whyNobody", "(I)I"⟩
abbrev b_Jobs_init : ByteArray := prog_2_method_1_code
def y_Jobs_init : MethodName := ⟨R_Jobs, "<init>", "()V"⟩
abbrev b_Jobs_add : ByteArray := prog_2_method_2_code
def y_Jobs_add : MethodName := ⟨R_Jobs, "add", "(IIIII)I"⟩
abbrev b_Jobs_minutesOf : ByteArray := prog_2_method_3_code
def y_Jobs_minutesOf : MethodName := ⟨R_Jobs, "minutesOf", "(I)I"⟩
abbrev b_Jobs_move : ByteArray := prog_2_method_4_code
def y_Jobs_move : MethodName := ⟨R_Jobs, "move", "(II)V"⟩
abbrev b_Jobs_putInOrder : ByteArray := prog_2_method_5_code
def y_Jobs_putInOrder : MethodName := ⟨R_Jobs, "putInOrder", "()V"⟩
abbrev b_Jobs_overlap : ByteArray := prog_2_method_6_code
def y_Jobs_overlap : MethodName := ⟨R_Jobs, "overlap", "(II)Z"⟩
abbrev b_People_init : ByteArray := prog_3_method_1_code
def y_People_init : MethodName := ⟨R_People, "<init>", "()V"⟩
abbrev b_People_add : ByteArray := prog_3_method_2_code
def y_People_add : MethodName := ⟨R_People, "add", "(IIII)I"⟩
abbrev b_People_askRules : ByteArray := prog_3_method_3_code
def y_People_askRules : MethodName := ⟨R_People, "askRules", "(LPilotTugs$Jobs;)I"⟩
abbrev b_People_failsForOne : ByteArray := prog_3_method_4_code
def y_People_failsForOne : MethodName := ⟨R_People, "failsForOne", "(ILPilotTugs$Jobs;)Z"⟩
abbrev b_People_isFit : ByteArray := prog_3_method_5_code
def y_People_isFit : MethodName := ⟨R_People, "isFit", "(IILPilotTugs$Jobs;)Z"⟩
abbrev b_Plan_init : ByteArray := prog_4_method_1_code
def y_Plan_init : MethodName := ⟨R_Plan, "<init>", "()V"⟩
abbrev b_Plan_isBarred : ByteArray := prog_4_method_2_code
def y_Plan_isBarred : MethodName := ⟨R_Plan, "isBarred", "(I)Z"⟩
abbrev b_Plan_keepDoers : ByteArray := prog_4_method_3_code
def y_Plan_keepDoers : MethodName := ⟨R_Plan, "keepDoers", "()V"⟩
abbrev b_Plan_otherDoers : ByteArray := prog_4_method_4_code
def y_Plan_otherDoers : MethodName := ⟨R_Plan, "otherDoers", "(I)I"⟩
abbrev b_Plan_walk : ByteArray := prog_4_method_5_code
def y_Plan_walk : MethodName := ⟨R_Plan, "walk", "(LPilotTugs$People;LPilotTugs$Jobs;LPilotTugs$Ways;)V"⟩
abbrev b_Plan_walkOf : ByteArray := prog_4_method_6_code
def y_Plan_walkOf : MethodName := ⟨R_Plan, "walkOf", "(IILPilotTugs$Jobs;LPilotTugs$Ways;)V"⟩
abbrev b_Planner_init : ByteArray := prog_5_method_1_code
def y_Planner_init : MethodName := ⟨R_Planner, "<init>", "()V"⟩
abbrev b_Planner_divide : ByteArray := prog_5_method_2_code
def y_Planner_divide : MethodName := ⟨R_Planner, "divide", "(LPilotTugs$People;LPilotTugs$Jobs;LPilotTugs$Ways;LPilotTugs$Plan;)V"⟩
abbrev b_Planner_travelOf : ByteArray := prog_5_method_3_code
def y_Planner_travelOf : MethodName := ⟨R_Planner, "travelOf", "(LPilotTugs$People;LPilotTugs$Jobs;LPilotTugs$Ways;II)I"⟩
abbrev b_Planner_digitShift : ByteArray := prog_5_method_4_code
def y_Planner_digitShift : MethodName := ⟨R_Planner, "digitShift", "(I)I"⟩
abbrev b_Planner_digits : ByteArray := prog_5_method_5_code
def y_Planner_digits : MethodName := ⟨R_Planner, "digits", "(III)J"⟩
abbrev b_Planner_giveToNobody : ByteArray := prog_5_method_6_code
def y_Planner_giveToNobody : MethodName := ⟨R_Planner, "giveToNobody", "(I)V"⟩
abbrev b_Planner_costOwn : ByteArray := prog_5_method_7_code
def y_Planner_costOwn : MethodName := ⟨R_Planner, "costOwn", "(LPilotTugs$People;LPilotTugs$Jobs;LPilotTugs$Ways;I)V"⟩
abbrev b_Planner_joinOwn : ByteArray := prog_5_method_8_code
def y_Planner_joinOwn : MethodName := ⟨R_Planner, "joinOwn", "(I)V"⟩
abbrev b_Tugs_init : ByteArray := prog_6_method_1_code
def y_Tugs_init : MethodName := ⟨R_Tugs, "<init>", "()V"⟩
abbrev b_Tugs_add : ByteArray := prog_6_method_2_code
def y_Tugs_add : MethodName := ⟨R_Tugs, "add", "(I)I"⟩
abbrev b_Tugs_serve : ByteArray := prog_6_method_3_code
def y_Tugs_serve : MethodName := ⟨R_Tugs, "serve", "(LPilotTugs$Jobs;LPilotTugs$Plan;)V"⟩
abbrev b_Tugs_freeFor : ByteArray := prog_6_method_4_code
def y_Tugs_freeFor : MethodName := ⟨R_Tugs, "freeFor", "(ILPilotTugs$Jobs;LPilotTugs$Plan;)I"⟩
abbrev b_Tugs_choose : ByteArray := prog_6_method_5_code
def y_Tugs_choose : MethodName := ⟨R_Tugs, "choose", "(II)I"⟩
abbrev b_Tugs_isBetter : ByteArray := prog_6_method_6_code
def y_Tugs_isBetter : MethodName := ⟨R_Tugs, "isBetter", "(II)Z"⟩
abbrev b_Tugs_pullOf : ByteArray := prog_6_method_7_code
def y_Tugs_pullOf : MethodName := ⟨R_Tugs, "pullOf", "(I)I"⟩
abbrev b_Ways_init : ByteArray := prog_7_method_1_code
def y_Ways_init : MethodName := ⟨R_Ways, "<init>", "()V"⟩
abbrev b_Ways_tell : ByteArray := prog_7_method_2_code
def y_Ways_tell : MethodName := ⟨R_Ways, "tell", "(III)V"⟩
abbrev b_Ways_between : ByteArray := prog_7_method_3_code
def y_Ways_between : MethodName := ⟨R_Ways, "between", "(II)I"⟩
abbrev b_Mo_init : ByteArray := prog_9_method_1_code
def y_Mo_init : MethodName := ⟨R_Mo, "<init>", "()V"⟩
abbrev b_Mo_thrown : ByteArray := prog_9_method_2_code
def y_Mo_thrown : MethodName := ⟨R_Mo, "thrown", "()I"⟩
abbrev b_Mo_refuse : ByteArray := prog_9_method_3_code
def y_Mo_refuse : MethodName := ⟨R_Mo, "refuse", "(I)I"⟩
abbrev b_Mo_in : ByteArray := prog_9_method_4_code
def y_Mo_in : MethodName := ⟨R_Mo, "in", "(III)Z"⟩
abbrev b_Mo_isPlace : ByteArray := prog_9_method_5_code
def y_Mo_isPlace : MethodName := ⟨R_Mo, "isPlace", "(I)Z"⟩
abbrev b_Mo_isPerson : ByteArray := prog_9_method_6_code
def y_Mo_isPerson : MethodName := ⟨R_Mo, "isPerson", "(I)Z"⟩
abbrev b_Mo_isJob : ByteArray := prog_9_method_7_code
def y_Mo_isJob : MethodName := ⟨R_Mo, "isJob", "(I)Z"⟩
abbrev b_Mo_isSpan : ByteArray := prog_9_method_8_code
def y_Mo_isSpan : MethodName := ⟨R_Mo, "isSpan", "(II)Z"⟩
abbrev b_Mo_person : ByteArray := prog_9_method_9_code
def y_Mo_person : MethodName := ⟨R_Mo, "person", "(IIII)I"⟩
abbrev b_Mo_tug : ByteArray := prog_9_method_10_code
def y_Mo_tug : MethodName := ⟨R_Mo, "tug", "(I)I"⟩
abbrev b_Mo_job : ByteArray := prog_9_method_11_code
def y_Mo_job : MethodName := ⟨R_Mo, "job", "(IIIII)I"⟩
abbrev b_Mo_travels : ByteArray := prog_9_method_12_code
def y_Mo_travels : MethodName := ⟨R_Mo, "travels", "(III)Z"⟩
abbrev b_Mo_rest : ByteArray := prog_9_method_13_code
def y_Mo_rest : MethodName := ⟨R_Mo, "rest", "(I)Z"⟩
abbrev b_Mo_rule : ByteArray := prog_9_method_14_code
def y_Mo_rule : MethodName := ⟨R_Mo, "rule", "(II)Z"⟩
abbrev b_Mo_next : ByteArray := prog_9_method_15_code
def y_Mo_next : MethodName := ⟨R_Mo, "next", "(II)I"⟩
abbrev b_Mo_cost : ByteArray := prog_9_method_16_code
def y_Mo_cost : MethodName := ⟨R_Mo, "cost", "(II)I"⟩
abbrev b_Mo_isBarred : ByteArray := prog_9_method_17_code
def y_Mo_isBarred : MethodName := ⟨R_Mo, "isBarred", "(I)Z"⟩
abbrev b_Mo_asks : ByteArray := prog_9_method_18_code
def y_Mo_asks : MethodName := ⟨R_Mo, "asks", "()V"⟩
abbrev b_Mo_triedOf : ByteArray := prog_9_method_19_code
def y_Mo_triedOf : MethodName := ⟨R_Mo, "triedOf", "(I)I"⟩
abbrev b_Mo_triedCost : ByteArray := prog_9_method_20_code
def y_Mo_triedCost : MethodName := ⟨R_Mo, "triedCost", "()I"⟩
abbrev b_Mo_triedMany : ByteArray := prog_9_method_21_code
def y_Mo_triedMany : MethodName := ⟨R_Mo, "triedMany", "()I"⟩
abbrev b_Mo_goesOn : ByteArray := prog_9_method_22_code
def y_Mo_goesOn : MethodName := ⟨R_Mo, "goesOn", "()Z"⟩
abbrev b_Mo_search : ByteArray := prog_9_method_23_code
def y_Mo_search : MethodName := ⟨R_Mo, "search", "()V"⟩
abbrev b_Mo_busy : ByteArray := prog_9_method_24_code
def y_Mo_busy : MethodName := ⟨R_Mo, "busy", "(I)I"⟩
abbrev b_Mo_together : ByteArray := prog_9_method_25_code
def y_Mo_together : MethodName := ⟨R_Mo, "together", "(I)I"⟩
abbrev b_Mo_many : ByteArray := prog_9_method_26_code
def y_Mo_many : MethodName := ⟨R_Mo, "many", "(I)I"⟩
abbrev b_Mo_isAhead : ByteArray := prog_9_method_27_code
def y_Mo_isAhead : MethodName := ⟨R_Mo, "isAhead", "(II)Z"⟩
abbrev b_Mo_best : ByteArray := prog_9_method_28_code
def y_Mo_best : MethodName := ⟨R_Mo, "best", "(I)I"⟩
abbrev b_Mo_givesTugs : ByteArray := prog_9_method_29_code
def y_Mo_givesTugs : MethodName := ⟨R_Mo, "givesTugs", "()V"⟩
abbrev b_Mo_sum : ByteArray := prog_9_method_30_code
def y_Mo_sum : MethodName := ⟨R_Mo, "sum", "()I"⟩
abbrev b_Mo_givenTo : ByteArray := prog_9_method_31_code
def y_Mo_givenTo : MethodName := ⟨R_Mo, "givenTo", "(I)I"⟩
abbrev b_Mo_givenMany : ByteArray := prog_9_method_32_code
def y_Mo_givenMany : MethodName := ⟨R_Mo, "givenMany", "()I"⟩
abbrev b_Mo_assign : ByteArray := prog_9_method_33_code
def y_Mo_assign : MethodName := ⟨R_Mo, "assign", "()I"⟩
abbrev b_Mo_before : ByteArray := prog_9_method_34_code
def y_Mo_before : MethodName := ⟨R_Mo, "before", "(II)I"⟩
abbrev b_Mo_travelTo : ByteArray := prog_9_method_35_code
def y_Mo_travelTo : MethodName := ⟨R_Mo, "travelTo", "(I)I"⟩
abbrev b_Mo_why : ByteArray := prog_9_method_36_code
def y_Mo_why : MethodName := ⟨R_Mo, "why", "(I)I"⟩
abbrev b_Mo_of : ByteArray := prog_9_method_37_code
def y_Mo_of : MethodName := ⟨R_Mo, "of", "(II)I"⟩
abbrev b_Mo_late : ByteArray := prog_9_method_38_code
def y_Mo_late : MethodName := ⟨R_Mo, "late", "(II)I"⟩
abbrev b_Mo_day : ByteArray := prog_9_method_39_code
def y_Mo_day : MethodName := ⟨R_Mo, "day", "(II)I"⟩
abbrev b_Mo_waits : ByteArray := prog_9_method_40_code
def y_Mo_waits : MethodName := ⟨R_Mo, "waits", "(I)I"⟩
abbrev b_Mo_share : ByteArray := prog_9_method_41_code
def y_Mo_share : MethodName := ⟨R_Mo, "share", "(II)I"⟩
abbrev b_Mo_count : ByteArray := prog_9_method_42_code
def y_Mo_count : MethodName := ⟨R_Mo, "count", "(I)I"⟩
abbrev b_Integer_bitCount : ByteArray := prog_15_method_49_code
def y_Integer_bitCount : MethodName := ⟨R_Integer, "bitCount", "(I)I"⟩
end
section
def TBx : List Cond := [Cond.methodLink R_PT 86 y_PT_isWithin,
  Cond.static y_PT_isWithin,
  Cond.initialized R_PT,
  Cond.code y_PT_isWithin b_PT_isWithin 3 (some .boolean),
  Cond.fieldLink R_People 9 "PilotTugs$People" "size" "I",
  Cond.fieldLink R_People 15 "PilotTugs$People" "licence" "[I",
  Cond.fieldLink R_People 19 "PilotTugs$People" "from" "[I",
  Cond.fieldLink R_People 22 "PilotTugs$People" "to" "[I",
  Cond.fieldLink R_People 25 "PilotTugs$People" "home" "[I",
  Cond.methodLink R_PT 51 y_PT_isLicence,
  Cond.static y_PT_isLicence,
  Cond.code y_PT_isLicence b_PT_isLicence 1 (some .boolean),
  Cond.methodLink R_PT 55 y_PT_isSpan,
  Cond.static y_PT_isSpan,
  Cond.code y_PT_isSpan b_PT_isSpan 2 (some .boolean),
  Cond.methodLink R_PT 59 y_PT_isPlace,
  Cond.static y_PT_isPlace,
  Cond.code y_PT_isPlace b_PT_isPlace 1 (some .boolean),
  Cond.fieldLink R_PT 10 "PilotTugs" "people" "LPilotTugs$People;",
  Cond.fieldLink R_PT 69 "PilotTugs$People" "size" "I",
  Cond.fieldLink R_PT 47 "PilotTugs" "plan" "LPilotTugs$Plan;",
  Cond.fieldLink R_PT 78 "PilotTugs$Plan" "made" "Z",
  Cond.methodLink R_PT 82 y_People_add,
  Cond.instanceMethod y_People_add,
  Cond.selects R_People y_People_add y_People_add,
  Cond.initialized R_People,
  Cond.code y_People_add b_People_add 6 (some .int),
  Cond.fieldLink R_Tugs 9 "PilotTugs$Tugs" "size" "I",
  Cond.fieldLink R_Tugs 15 "PilotTugs$Tugs" "pull" "[I",
  Cond.fieldLink R_PT 26 "PilotTugs" "tugs" "LPilotTugs$Tugs;",
  Cond.fieldLink R_PT 92 "PilotTugs$Tugs" "size" "I",
  Cond.methodLink R_PT 95 y_Tugs_add,
  Cond.instanceMethod y_Tugs_add,
  Cond.selects R_Tugs y_Tugs_add y_Tugs_add,
  Cond.initialized R_Tugs,
  Cond.code y_Tugs_add b_Tugs_add 3 (some .int),
  Cond.fieldLink R_Jobs 9 "PilotTugs$Jobs" "size" "I",
  Cond.fieldLink R_Jobs 15 "PilotTugs$Jobs" "licence" "[I",
  Cond.fieldLink R_Jobs 19 "PilotTugs$Jobs" "pull" "[I",
  Cond.fieldLink R_Jobs 22 "PilotTugs$Jobs" "from" "[I",
  Cond.fieldLink R_Jobs 25 "PilotTugs$Jobs" "to" "[I",
  Cond.fieldLink R_Jobs 28 "PilotTugs$Jobs" "place" "[I",
  Cond.fieldLink R_PT 19 "PilotTugs" "jobs" "LPilotTugs$Jobs;",
  Cond.fieldLink R_PT 102 "PilotTugs$Jobs" "size" "I",
  Cond.methodLink R_PT 105 y_Jobs_add,
  Cond.instanceMethod y_Jobs_add,
  Cond.selects R_Jobs y_Jobs_add y_Jobs_add,
  Cond.initialized R_Jobs,
  Cond.code y_Jobs_add b_Jobs_add 7 (some .int),
  Cond.fieldLink R_Ways 15 "PilotTugs$Ways" "minutes" "[I",
  Cond.fieldLink R_PT 33 "PilotTugs" "ways" "LPilotTugs$Ways;",
  Cond.methodLink R_PT 108 y_Ways_tell,
  Cond.instanceMethod y_Ways_tell,
  Cond.selects R_Ways y_Ways_tell y_Ways_tell,
  Cond.initialized R_Ways,
  Cond.code y_Ways_tell b_Ways_tell 4 none,
  Cond.fieldLink R_PT 112 "PilotTugs$Ways" "restMinutes" "I",
  Cond.methodLink R_PT 115 y_PT_isPerson,
  Cond.instanceMethod y_PT_isPerson,
  Cond.selects R_PT y_PT_isPerson y_PT_isPerson,
  Cond.code y_PT_isPerson b_PT_isPerson 2 (some .boolean),
  Cond.fieldLink R_PT 118 "PilotTugs$People" "does" "[I",
  Cond.fieldLink R_Jobs 31 "PilotTugs$Jobs" "inOrder" "[I",
  Cond.fieldLink R_People 38 "PilotTugs$Jobs" "size" "I",
  Cond.fieldLink R_People 41 "PilotTugs$Jobs" "licence" "[I",
  Cond.fieldLink R_People 28 "PilotTugs$People" "does" "[I",
  Cond.methodLink R_People 34 y_People_failsForOne,
  Cond.static y_People_failsForOne,
  Cond.code y_People_failsForOne b_People_failsForOne 3 (some .boolean),
  Cond.fieldLink R_People 31 "PilotTugs$People" "failures" "[I",
  Cond.methodLink R_Planner 44 y_Planner_digitShift,
  Cond.static y_Planner_digitShift,
  Cond.initialized R_Planner,
  Cond.code y_Planner_digitShift b_Planner_digitShift 1 (some .int),
  Cond.methodLink R_Planner 55 y_Integer_bitCount,
  Cond.static y_Integer_bitCount,
  Cond.initialized R_Integer,
  Cond.code y_Integer_bitCount b_Integer_bitCount 1 (some .int),
  Cond.fieldLink R_Planner 11 "PilotTugs$Planner" "least" "[J",
  Cond.methodLink R_Planner 89 y_Planner_digits,
  Cond.static y_Planner_digits,
  Cond.code y_Planner_digits b_Planner_digits 6 (some .long),
  Cond.fieldLink R_Plan 15 "PilotTugs$Plan" "barred" "I",
  Cond.fieldLink R_People 42 "PilotTugs$Jobs" "to" "[I",
  Cond.fieldLink R_People 43 "PilotTugs$Jobs" "from" "[I",
  Cond.fieldLink R_Planner 52 "PilotTugs$People" "does" "[I",
  Cond.fieldLink R_Planner 60 "PilotTugs$People" "home" "[I",
  Cond.fieldLink R_Planner 63 "PilotTugs$People" "from" "[I",
  Cond.fieldLink R_Planner 18 "PilotTugs$Jobs" "size" "I",
  Cond.fieldLink R_Planner 66 "PilotTugs$Jobs" "inOrder" "[I",
  Cond.fieldLink R_Planner 69 "PilotTugs$Jobs" "place" "[I",
  Cond.methodLink R_Planner 72 y_Ways_between,
  Cond.instanceMethod y_Ways_between,
  Cond.selects R_Ways y_Ways_between y_Ways_between,
  Cond.code y_Ways_between b_Ways_between 3 (some .int),
  Cond.methodLink R_Planner 78 y_People_isFit,
  Cond.instanceMethod y_People_isFit,
  Cond.selects R_People y_People_isFit y_People_isFit,
  Cond.code y_People_isFit b_People_isFit 4 (some .boolean),
  Cond.fieldLink R_Planner 82 "PilotTugs$Jobs" "from" "[I",
  Cond.fieldLink R_Planner 83 "PilotTugs$Jobs" "to" "[I",
  Cond.fieldLink R_Planner 86 "PilotTugs$Ways" "restMinutes" "I",
  Cond.methodLink R_Planner 93 y_Planner_travelOf,
  Cond.instanceMethod y_Planner_travelOf,
  Cond.selects R_Planner y_Planner_travelOf y_Planner_travelOf,
  Cond.code y_Planner_travelOf b_Planner_travelOf 12 (some .int),
  Cond.fieldLink R_Planner 15 "PilotTugs$Planner" "own" "[J",
  Cond.constantLong R_Planner 97 (-1),
  Cond.methodLink R_Planner 99 Lib.MathLoose.min_long.x,
  Cond.static Lib.MathLoose.min_long.x,
  Cond.initialized "java/lang/Math",
  Cond.code Lib.MathLoose.min_long.x Lib.MathLoose.min_long.code 4 (some .long),
  Cond.methodLink R_Planner 24 y_Planner_giveToNobody,
  Cond.instanceMethod y_Planner_giveToNobody,
  Cond.selects R_Planner y_Planner_giveToNobody y_Planner_giveToNobody,
  Cond.code y_Planner_giveToNobody b_Planner_giveToNobody 6 none,
  Cond.fieldLink R_Planner 28 "PilotTugs$People" "size" "I",
  Cond.methodLink R_Planner 31 y_Plan_isBarred,
  Cond.instanceMethod y_Plan_isBarred,
  Cond.selects R_Plan y_Plan_isBarred y_Plan_isBarred,
  Cond.initialized R_Plan,
  Cond.code y_Plan_isBarred b_Plan_isBarred 2 (some .boolean),
  Cond.methodLink R_Planner 37 y_Planner_costOwn,
  Cond.instanceMethod y_Planner_costOwn,
  Cond.selects R_Planner y_Planner_costOwn y_Planner_costOwn,
  Cond.code y_Planner_costOwn b_Planner_costOwn 8 none,
  Cond.methodLink R_Planner 41 y_Planner_joinOwn,
  Cond.instanceMethod y_Planner_joinOwn,
  Cond.selects R_Planner y_Planner_joinOwn y_Planner_joinOwn,
  Cond.code y_Planner_joinOwn b_Planner_joinOwn 6 none,
  Cond.fieldLink R_Planner 48 "PilotTugs$Plan" "doer" "[I",
  Cond.fieldLink R_Plan 47 "PilotTugs$Jobs" "size" "I",
  Cond.fieldLink R_Plan 62 "PilotTugs$Jobs" "inOrder" "[I",
  Cond.fieldLink R_Plan 25 "PilotTugs$Plan" "doer" "[I",
  Cond.fieldLink R_Plan 29 "PilotTugs$Plan" "travelTo" "[I",
  Cond.fieldLink R_Plan 65 "PilotTugs$Jobs" "place" "[I",
  Cond.methodLink R_Plan 68 y_Ways_between,
  Cond.fieldLink R_Plan 22 "PilotTugs$Plan" "travel" "I",
  Cond.fieldLink R_Plan 19 "PilotTugs$Plan" "given" "I",
  Cond.fieldLink R_Plan 52 "PilotTugs$People" "size" "I",
  Cond.fieldLink R_Plan 55 "PilotTugs$People" "home" "[I",
  Cond.methodLink R_Plan 58 y_Plan_walkOf,
  Cond.instanceMethod y_Plan_walkOf,
  Cond.selects R_Plan y_Plan_walkOf y_Plan_walkOf,
  Cond.code y_Plan_walkOf b_Plan_walkOf 8 none,
  Cond.fieldLink R_Tugs 19 "PilotTugs$Jobs" "size" "I",
  Cond.methodLink R_Tugs 45 y_Jobs_overlap,
  Cond.instanceMethod y_Jobs_overlap,
  Cond.selects R_Jobs y_Jobs_overlap y_Jobs_overlap,
  Cond.code y_Jobs_overlap b_Jobs_overlap 3 (some .boolean),
  Cond.fieldLink R_Tugs 22 "PilotTugs$Plan" "tugsOf" "[I",
  Cond.methodLink R_Tugs 56 y_Integer_bitCount,
  Cond.methodLink R_Tugs 49 y_Tugs_pullOf,
  Cond.instanceMethod y_Tugs_pullOf,
  Cond.selects R_Tugs y_Tugs_pullOf y_Tugs_pullOf,
  Cond.code y_Tugs_pullOf b_Tugs_pullOf 4 (some .int),
  Cond.methodLink R_Tugs 53 y_Tugs_isBetter,
  Cond.instanceMethod y_Tugs_isBetter,
  Cond.selects R_Tugs y_Tugs_isBetter y_Tugs_isBetter,
  Cond.code y_Tugs_isBetter b_Tugs_isBetter 6 (some .boolean),
  Cond.fieldLink R_Tugs 27 "PilotTugs$Plan" "without" "[I",
  Cond.fieldLink R_Tugs 30 "PilotTugs$Jobs" "inOrder" "[I",
  Cond.fieldLink R_Tugs 33 "PilotTugs$Plan" "doer" "[I",
  Cond.fieldLink R_Tugs 36 "PilotTugs$Jobs" "pull" "[I",
  Cond.methodLink R_Tugs 37 y_Tugs_freeFor,
  Cond.instanceMethod y_Tugs_freeFor,
  Cond.selects R_Tugs y_Tugs_freeFor y_Tugs_freeFor,
  Cond.code y_Tugs_freeFor b_Tugs_freeFor 6 (some .int),
  Cond.methodLink R_Tugs 41 y_Tugs_choose,
  Cond.instanceMethod y_Tugs_choose,
  Cond.selects R_Tugs y_Tugs_choose y_Tugs_choose,
  Cond.code y_Tugs_choose b_Tugs_choose 5 (some .int),
  Cond.methodLink R_PT 197 y_Jobs_putInOrder,
  Cond.instanceMethod y_Jobs_putInOrder,
  Cond.selects R_Jobs y_Jobs_putInOrder y_Jobs_putInOrder,
  Cond.code y_Jobs_putInOrder b_Jobs_putInOrder 3 none,
  Cond.methodLink R_PT 200 y_People_askRules,
  Cond.instanceMethod y_People_askRules,
  Cond.selects R_People y_People_askRules y_People_askRules,
  Cond.code y_People_askRules b_People_askRules 4 (some .int),
  Cond.fieldLink R_PT 194 "PilotTugs$Plan" "barred" "I",
  Cond.fieldLink R_PT 40 "PilotTugs" "planner" "LPilotTugs$Planner;",
  Cond.methodLink R_PT 204 y_Planner_divide,
  Cond.instanceMethod y_Planner_divide,
  Cond.selects R_Planner y_Planner_divide y_Planner_divide,
  Cond.code y_Planner_divide b_Planner_divide 10 none,
  Cond.methodLink R_PT 208 y_Plan_walk,
  Cond.instanceMethod y_Plan_walk,
  Cond.selects R_Plan y_Plan_walk y_Plan_walk,
  Cond.code y_Plan_walk b_Plan_walk 5 none,
  Cond.methodLink R_PT 212 y_Tugs_serve,
  Cond.instanceMethod y_Tugs_serve,
  Cond.selects R_Tugs y_Tugs_serve y_Tugs_serve,
  Cond.code y_Tugs_serve b_Tugs_serve 6 none,
  Cond.methodLink R_PT 122 y_PT_makePlan,
  Cond.instanceMethod y_PT_makePlan,
  Cond.selects R_PT y_PT_makePlan y_PT_makePlan,
  Cond.code y_PT_makePlan b_PT_makePlan 1 none,
  Cond.fieldLink R_PT 125 "PilotTugs$Plan" "given" "I",
  Cond.fieldLink R_PT 128 "PilotTugs$Plan" "travel" "I",
  Cond.fieldLink R_PT 141 "PilotTugs$Plan" "doer" "[I",
  Cond.methodLink R_PT 216 y_Plan_isBarred,
  Cond.fieldLink R_PT 219 "PilotTugs$People" "licence" "[I",
  Cond.fieldLink R_PT 222 "PilotTugs$Jobs" "licence" "[I",
  Cond.methodLink R_PT 223 y_Planner_travelOf,
  Cond.methodLink R_PT 131 y_PT_isJob,
  Cond.instanceMethod y_PT_isJob,
  Cond.selects R_PT y_PT_isJob y_PT_isJob,
  Cond.code y_PT_isJob b_PT_isJob 2 (some .boolean),
  Cond.fieldLink R_PT 144 "PilotTugs$Plan" "travelTo" "[I",
  Cond.fieldLink R_PT 147 "PilotTugs$Plan" "tugsOf" "[I",
  Cond.fieldLink R_PT 150 "PilotTugs$Plan" "without" "[I",
  Cond.methodLink R_PT 153 y_PT_whyNobody,
  Cond.instanceMethod y_PT_whyNobody,
  Cond.selects R_PT y_PT_whyNobody y_PT_whyNobody,
  Cond.code y_PT_whyNobody b_PT_whyNobody 4 (some .int),
  Cond.fieldLink R_Plan 38 "PilotTugs$Plan" "doerBefore" "[I",
  Cond.methodLink R_Plan 41 arraycopyName,
  Cond.native arraycopyName,
  Cond.static arraycopyName,
  Cond.initialized "java/lang/System",
  Cond.methodLink R_Jobs 34 y_Jobs_minutesOf,
  Cond.instanceMethod y_Jobs_minutesOf,
  Cond.selects R_Jobs y_Jobs_minutesOf y_Jobs_minutesOf,
  Cond.code y_Jobs_minutesOf b_Jobs_minutesOf 2 (some .int),
  Cond.methodLink R_PT 158 y_Jobs_minutesOf,
  Cond.methodLink R_PT 161 y_Plan_keepDoers,
  Cond.instanceMethod y_Plan_keepDoers,
  Cond.selects R_Plan y_Plan_keepDoers y_Plan_keepDoers,
  Cond.code y_Plan_keepDoers b_Plan_keepDoers 1 none,
  Cond.methodLink R_PT 164 y_Jobs_move,
  Cond.instanceMethod y_Jobs_move,
  Cond.selects R_Jobs y_Jobs_move y_Jobs_move,
  Cond.code y_Jobs_move b_Jobs_move 3 none,
  Cond.methodLink R_PT 168 y_Plan_otherDoers,
  Cond.instanceMethod y_Plan_otherDoers,
  Cond.selects R_Plan y_Plan_otherDoers y_Plan_otherDoers,
  Cond.code y_Plan_otherDoers b_Plan_otherDoers 4 (some .int),
  Cond.fieldLink R_PT 173 "PilotTugs$Jobs" "inOrder" "[I",
  Cond.fieldLink R_PT 176 "PilotTugs$People" "from" "[I",
  Cond.fieldLink R_PT 179 "PilotTugs$Jobs" "from" "[I",
  Cond.fieldLink R_PT 180 "PilotTugs$Jobs" "to" "[I",
  Cond.constant R_PT 183 1000000,
  Cond.fieldLink R_PT 191 "PilotTugs$People" "failures" "[I",
  Cond.fieldLink R_Mo 61 "PilotTugsModel" "thrown" "I",
  Cond.fieldLink R_Mo 65 "PilotTugsModel" "people" "I",
  Cond.fieldLink R_Mo 68 "PilotTugsModel" "jobs" "I",
  Cond.methodLink R_Mo 71 y_Mo_in,
  Cond.static y_Mo_in,
  Cond.initialized R_Mo,
  Cond.code y_Mo_in b_Mo_in 3 (some .boolean),
  Cond.methodLink R_Mo 83 y_Mo_refuse,
  Cond.instanceMethod y_Mo_refuse,
  Cond.selects R_Mo y_Mo_refuse y_Mo_refuse,
  Cond.code y_Mo_refuse b_Mo_refuse 2 (some .int),
  Cond.methodLink R_Mo 75 y_Mo_isSpan,
  Cond.static y_Mo_isSpan,
  Cond.code y_Mo_isSpan b_Mo_isSpan 2 (some .boolean),
  Cond.methodLink R_Mo 79 y_Mo_isPlace,
  Cond.static y_Mo_isPlace,
  Cond.code y_Mo_isPlace b_Mo_isPlace 1 (some .boolean),
  Cond.fieldLink R_Mo 7 "PilotTugsModel" "licence" "[I",
  Cond.fieldLink R_Mo 13 "PilotTugsModel" "hoursFrom" "[I",
  Cond.fieldLink R_Mo 16 "PilotTugsModel" "hoursTo" "[I",
  Cond.fieldLink R_Mo 19 "PilotTugsModel" "home" "[I",
  Cond.fieldLink R_Mo 87 "PilotTugsModel" "planned" "Z",
  Cond.fieldLink R_Mo 91 "PilotTugsModel" "tugs" "I",
  Cond.fieldLink R_Mo 28 "PilotTugsModel" "pull" "[I",
  Cond.fieldLink R_Mo 31 "PilotTugsModel" "need" "[I",
  Cond.fieldLink R_Mo 34 "PilotTugsModel" "pulls" "[I",
  Cond.fieldLink R_Mo 37 "PilotTugsModel" "from" "[I",
  Cond.fieldLink R_Mo 40 "PilotTugsModel" "to" "[I",
  Cond.fieldLink R_Mo 43 "PilotTugsModel" "place" "[I",
  Cond.fieldLink R_Mo 46 "PilotTugsModel" "travel" "[I",
  Cond.fieldLink R_Mo 94 "PilotTugsModel" "rest" "I",
  Cond.methodLink R_Mo 97 y_Mo_isPerson,
  Cond.instanceMethod y_Mo_isPerson,
  Cond.selects R_Mo y_Mo_isPerson y_Mo_isPerson,
  Cond.code y_Mo_isPerson b_Mo_isPerson 2 (some .boolean),
  Cond.fieldLink R_Mo 22 "PilotTugsModel" "rules" "[I",
  Cond.methodLink R_Mo 100 y_Mo_next,
  Cond.instanceMethod y_Mo_next,
  Cond.selects R_Mo y_Mo_next y_Mo_next,
  Cond.code y_Mo_next b_Mo_next 7 (some .int),
  Cond.constant R_Mo 104 1000000000,
  Cond.fieldLink R_Mo 105 "PilotTugsModel" "barred" "I",
  Cond.fieldLink R_Mo 25 "PilotTugsModel" "failures" "[I",
  Cond.fieldLink R_Mo 58 "PilotTugsModel" "tried" "[I",
  Cond.fieldLink R_Mo 55 "PilotTugsModel" "costs" "[I",
  Cond.methodLink R_Mo 108 y_Mo_triedOf,
  Cond.instanceMethod y_Mo_triedOf,
  Cond.selects R_Mo y_Mo_triedOf y_Mo_triedOf,
  Cond.code y_Mo_triedOf b_Mo_triedOf 4 (some .int),
  Cond.fieldLink R_Mo 52 "PilotTugsModel" "tugsOf" "[I",
  Cond.methodLink R_Mo 134 y_Mo_busy,
  Cond.instanceMethod y_Mo_busy,
  Cond.selects R_Mo y_Mo_busy y_Mo_busy,
  Cond.code y_Mo_busy b_Mo_busy 4 (some .int),
  Cond.methodLink R_Mo 137 y_Mo_together,
  Cond.instanceMethod y_Mo_together,
  Cond.selects R_Mo y_Mo_together y_Mo_together,
  Cond.code y_Mo_together b_Mo_together 4 (some .int),
  Cond.methodLink R_Mo 140 y_Mo_many,
  Cond.instanceMethod y_Mo_many,
  Cond.selects R_Mo y_Mo_many y_Mo_many,
  Cond.code y_Mo_many b_Mo_many 4 (some .int),
  Cond.methodLink R_Mo 143 y_Mo_isAhead,
  Cond.static y_Mo_isAhead,
  Cond.code y_Mo_isAhead b_Mo_isAhead 3 (some .boolean),
  Cond.fieldLink R_Mo 49 "PilotTugsModel" "given" "[I",
  Cond.methodLink R_Mo 146 y_Mo_best,
  Cond.instanceMethod y_Mo_best,
  Cond.selects R_Mo y_Mo_best y_Mo_best,
  Cond.code y_Mo_best b_Mo_best 7 (some .int),
  Cond.methodLink R_Mo 111 y_Mo_asks,
  Cond.instanceMethod y_Mo_asks,
  Cond.selects R_Mo y_Mo_asks y_Mo_asks,
  Cond.code y_Mo_asks b_Mo_asks 4 none,
  Cond.methodLink R_Mo 114 y_Mo_isBarred,
  Cond.instanceMethod y_Mo_isBarred,
  Cond.selects R_Mo y_Mo_isBarred y_Mo_isBarred,
  Cond.code y_Mo_isBarred b_Mo_isBarred 2 (some .boolean),
  Cond.methodLink R_Mo 117 y_Mo_cost,
  Cond.instanceMethod y_Mo_cost,
  Cond.selects R_Mo y_Mo_cost y_Mo_cost,
  Cond.code y_Mo_cost b_Mo_cost 11 (some .int),
  Cond.methodLink R_Mo 131 y_Mo_givesTugs,
  Cond.instanceMethod y_Mo_givesTugs,
  Cond.selects R_Mo y_Mo_givesTugs y_Mo_givesTugs,
  Cond.code y_Mo_givesTugs b_Mo_givesTugs 3 none,
  Cond.methodLink R_Mo 120 y_Mo_triedMany,
  Cond.instanceMethod y_Mo_triedMany,
  Cond.selects R_Mo y_Mo_triedMany y_Mo_triedMany,
  Cond.code y_Mo_triedMany b_Mo_triedMany 3 (some .int),
  Cond.methodLink R_Mo 124 y_Mo_triedCost,
  Cond.instanceMethod y_Mo_triedCost,
  Cond.selects R_Mo y_Mo_triedCost y_Mo_triedCost,
  Cond.code y_Mo_triedCost b_Mo_triedCost 4 (some .int),
  Cond.methodLink R_Mo 127 y_Mo_goesOn,
  Cond.instanceMethod y_Mo_goesOn,
  Cond.selects R_Mo y_Mo_goesOn y_Mo_goesOn,
  Cond.code y_Mo_goesOn b_Mo_goesOn 2 (some .boolean),
  Cond.methodLink R_Mo 149 y_Mo_givenTo,
  Cond.instanceMethod y_Mo_givenTo,
  Cond.selects R_Mo y_Mo_givenTo y_Mo_givenTo,
  Cond.code y_Mo_givenTo b_Mo_givenTo 4 (some .int),
  Cond.methodLink R_Mo 152 y_Mo_search,
  Cond.instanceMethod y_Mo_search,
  Cond.selects R_Mo y_Mo_search y_Mo_search,
  Cond.code y_Mo_search b_Mo_search 7 none,
  Cond.methodLink R_Mo 155 y_Mo_givenMany,
  Cond.instanceMethod y_Mo_givenMany,
  Cond.selects R_Mo y_Mo_givenMany y_Mo_givenMany,
  Cond.code y_Mo_givenMany b_Mo_givenMany 3 (some .int),
  Cond.methodLink R_Mo 158 y_Mo_sum,
  Cond.instanceMethod y_Mo_sum,
  Cond.selects R_Mo y_Mo_sum y_Mo_sum,
  Cond.code y_Mo_sum b_Mo_sum 3 (some .int),
  Cond.methodLink R_Mo 161 y_Mo_before,
  Cond.instanceMethod y_Mo_before,
  Cond.selects R_Mo y_Mo_before y_Mo_before,
  Cond.code y_Mo_before b_Mo_before 5 (some .int),
  Cond.methodLink R_Mo 164 y_Mo_isJob,
  Cond.instanceMethod y_Mo_isJob,
  Cond.selects R_Mo y_Mo_isJob y_Mo_isJob,
  Cond.code y_Mo_isJob b_Mo_isJob 2 (some .boolean),
  Cond.methodLink R_Mo 167 y_Mo_travelTo,
  Cond.instanceMethod y_Mo_travelTo,
  Cond.selects R_Mo y_Mo_travelTo y_Mo_travelTo,
  Cond.code y_Mo_travelTo b_Mo_travelTo 4 (some .int),
  Cond.methodLink R_Mo 170 y_Mo_why,
  Cond.instanceMethod y_Mo_why,
  Cond.selects R_Mo y_Mo_why y_Mo_why,
  Cond.code y_Mo_why b_Mo_why 5 (some .int),
  Cond.constant R_Mo 173 1000000]
def TB : List Cond := TBx ++ (u_ws R_Jobs F_Jobs 7 ++ (u_ws R_People F_People 7 ++ (u_ws R_Plan F_Plan 9 ++ (u_ws R_Planner F_Planner 2 ++ (u_ws R_Tugs F_Tugs 2 ++ (u_ws R_Ways F_Ways 2 ++ (u_ws R_PT F_PT 6 ++ (u_ws R_Mo F_Mo 24))))))))
theorem iw_Jobs : ∀ w ∈ u_ws R_Jobs F_Jobs 7, w ∈ TB := fun _ h => List.mem_append_right _ (List.mem_append_left _ h)
theorem iw_People : ∀ w ∈ u_ws R_People F_People 7, w ∈ TB := fun _ h => List.mem_append_right _ (List.mem_append_right _ (List.mem_append_left _ h))
theorem iw_Plan : ∀ w ∈ u_ws R_Plan F_Plan 9, w ∈ TB := fun _ h => List.mem_append_right _ (List.mem_append_right _ (List.mem_append_right _ (List.mem_append_left _ h)))
theorem iw_Planner : ∀ w ∈ u_ws R_Planner F_Planner 2, w ∈ TB := fun _ h => List.mem_append_right _ (List.mem_append_right _ (List.mem_append_right _ (List.mem_append_right _ (List.mem_append_left _ h))))
theorem iw_Tugs : ∀ w ∈ u_ws R_Tugs F_Tugs 2, w ∈ TB := fun _ h => List.mem_append_right _ (List.mem_append_right _ (List.mem_append_right _ (List.mem_append_right _ (List.mem_append_right _ (List.mem_append_left _ h)))))
theorem iw_Ways : ∀ w ∈ u_ws R_Ways F_Ways 2, w ∈ TB := fun _ h => List.mem_append_right _ (List.mem_append_right _ (List.mem_append_right _ (List.mem_append_right _ (List.mem_append_right _ (List.mem_append_right _ (List.mem_append_left _ h))))))
theorem iw_PT : ∀ w ∈ u_ws R_PT F_PT 6, w ∈ TB := fun _ h => List.mem_append_right _ (List.mem_append_right _ (List.mem_append_right _ (List.mem_append_right _ (List.mem_append_right _ (List.mem_append_right _ (List.mem_append_right _ (List.mem_append_left _ h)))))))
theorem iw_Mo : ∀ w ∈ u_ws R_Mo F_Mo 24, w ∈ TB := fun _ h => List.mem_append_right _ (List.mem_append_right _ (List.mem_append_right _ (List.mem_append_right _ (List.mem_append_right _ (List.mem_append_right _ (List.mem_append_right _ (List.mem_append_right _ (h))))))))
theorem TB_all : TB.all goodWord = true := by decide +kernel
theorem TB_good : ∀ w ∈ TB, (w.onTables && w.keeps) = true ∨ ∃ ty, w = .arrayClass ty := fun w h => good_of_word (List.all_eq_true.mp TB_all w h)
theorem t_w0 : Cond.methodLink R_PT 86 y_PT_isWithin ∈ TB := List.mem_append_left _ (List.mem_of_getElem? (i := 0) rfl)
theorem t_w1 : Cond.static y_PT_isWithin ∈ TB := List.mem_append_left _ (List.mem_of_getElem? (i := 1) rfl)
theorem t_w2 : Cond.initialized R_PT ∈ TB := List.mem_append_left _ (List.mem_of_getElem? (i := 2) rfl)
theorem t_w3 : Cond.code y_PT_isWithin b_PT_isWithin 3 (some .boolean) ∈ TB := List.mem_append_left _ (List.mem_of_getElem? (i := 3) rfl)
theorem t_w4 : Cond.fieldLink R_People 9 "PilotTugs$People" "size" "I" ∈ TB := List.mem_append_left _ (List.mem_of_getElem? (i := 4) rfl)
theorem t_w5 : Cond.fieldLink R_People 15 "PilotTugs$People" "licence" "[I" ∈ TB := List.mem_append_left _ (List.mem_of_getElem? (i := 5) rfl)
theorem t_w6 : Cond.fieldLink R_People 19 "PilotTugs$People" "from" "[I" ∈ TB := List.mem_append_left _ (List.mem_of_getElem? (i := 6) rfl)
theorem t_w7 : Cond.fieldLink R_People 22 "PilotTugs$People" "to" "[I" ∈ TB := List.mem_append_left _ (List.mem_of_getElem? (i := 7) rfl)
theorem t_w8 : Cond.fieldLink R_People 25 "PilotTugs$People" "home" "[I" ∈ TB := List.mem_append_left _ (List.mem_of_getElem? (i := 8) rfl)
theorem t_w9 : Cond.methodLink R_PT 51 y_PT_isLicence ∈ TB := List.mem_append_left _ (List.mem_of_getElem? (i := 9) rfl)
theorem t_w10 : Cond.static y_PT_isLicence ∈ TB := List.mem_append_left _ (List.mem_of_getElem? (i := 10) rfl)
theorem t_w11 : Cond.code y_PT_isLicence b_PT_isLicence 1 (some .boolean) ∈ TB := List.mem_append_left _ (List.mem_of_getElem? (i := 11) rfl)
theorem t_w12 : Cond.methodLink R_PT 55 y_PT_isSpan ∈ TB := List.mem_append_left _ (List.mem_of_getElem? (i := 12) rfl)
theorem t_w13 : Cond.static y_PT_isSpan ∈ TB := List.mem_append_left _ (List.mem_of_getElem? (i := 13) rfl)
theorem t_w14 : Cond.code y_PT_isSpan b_PT_isSpan 2 (some .boolean) ∈ TB := List.mem_append_left _ (List.mem_of_getElem? (i := 14) rfl)
theorem t_w15 : Cond.methodLink R_PT 59 y_PT_isPlace ∈ TB := List.mem_append_left _ (List.mem_of_getElem? (i := 15) rfl)
theorem t_w16 : Cond.static y_PT_isPlace ∈ TB := List.mem_append_left _ (List.mem_of_getElem? (i := 16) rfl)
theorem t_w17 : Cond.code y_PT_isPlace b_PT_isPlace 1 (some .boolean) ∈ TB := List.mem_append_left _ (List.mem_of_getElem? (i := 17) rfl)
theorem t_w18 : Cond.fieldLink R_PT 10 "PilotTugs" "people" "LPilotTugs$People;" ∈ TB := List.mem_append_left _ (List.mem_of_getElem? (i := 18) rfl)
theorem t_w19 : Cond.fieldLink R_PT 69 "PilotTugs$People" "size" "I" ∈ TB := List.mem_append_left _ (List.mem_of_getElem? (i := 19) rfl)
theorem t_w20 : Cond.fieldLink R_PT 47 "PilotTugs" "plan" "LPilotTugs$Plan;" ∈ TB := List.mem_append_left _ (List.mem_of_getElem? (i := 20) rfl)
theorem t_w21 : Cond.fieldLink R_PT 78 "PilotTugs$Plan" "made" "Z" ∈ TB := List.mem_append_left _ (List.mem_of_getElem? (i := 21) rfl)
theorem t_w22 : Cond.methodLink R_PT 82 y_People_add ∈ TB := List.mem_append_left _ (List.mem_of_getElem? (i := 22) rfl)
theorem t_w23 : Cond.instanceMethod y_People_add ∈ TB := List.mem_append_left _ (List.mem_of_getElem? (i := 23) rfl)
theorem t_w24 : Cond.selects R_People y_People_add y_People_add ∈ TB := List.mem_append_left _ (List.mem_of_getElem? (i := 24) rfl)
theorem t_w25 : Cond.initialized R_People ∈ TB := List.mem_append_left _ (List.mem_of_getElem? (i := 25) rfl)
theorem t_w26 : Cond.code y_People_add b_People_add 6 (some .int) ∈ TB := List.mem_append_left _ (List.mem_of_getElem? (i := 26) rfl)
theorem t_w27 : Cond.fieldLink R_Tugs 9 "PilotTugs$Tugs" "size" "I" ∈ TB := List.mem_append_left _ (List.mem_of_getElem? (i := 27) rfl)
theorem t_w28 : Cond.fieldLink R_Tugs 15 "PilotTugs$Tugs" "pull" "[I" ∈ TB := List.mem_append_left _ (List.mem_of_getElem? (i := 28) rfl)
theorem t_w29 : Cond.fieldLink R_PT 26 "PilotTugs" "tugs" "LPilotTugs$Tugs;" ∈ TB := List.mem_append_left _ (List.mem_of_getElem? (i := 29) rfl)
theorem t_w30 : Cond.fieldLink R_PT 92 "PilotTugs$Tugs" "size" "I" ∈ TB := List.mem_append_left _ (List.mem_of_getElem? (i := 30) rfl)
theorem t_w31 : Cond.methodLink R_PT 95 y_Tugs_add ∈ TB := List.mem_append_left _ (List.mem_of_getElem? (i := 31) rfl)
theorem t_w32 : Cond.instanceMethod y_Tugs_add ∈ TB := List.mem_append_left _ (List.mem_of_getElem? (i := 32) rfl)
theorem t_w33 : Cond.selects R_Tugs y_Tugs_add y_Tugs_add ∈ TB := List.mem_append_left _ (List.mem_of_getElem? (i := 33) rfl)
theorem t_w34 : Cond.initialized R_Tugs ∈ TB := List.mem_append_left _ (List.mem_of_getElem? (i := 34) rfl)
theorem t_w35 : Cond.code y_Tugs_add b_Tugs_add 3 (some .int) ∈ TB := List.mem_append_left _ (List.mem_of_getElem? (i := 35) rfl)
theorem t_w36 : Cond.fieldLink R_Jobs 9 "PilotTugs$Jobs" "size" "I" ∈ TB := List.mem_append_left _ (List.mem_of_getElem? (i := 36) rfl)
theorem t_w37 : Cond.fieldLink R_Jobs 15 "PilotTugs$Jobs" "licence" "[I" ∈ TB := List.mem_append_left _ (List.mem_of_getElem? (i := 37) rfl)
theorem t_w38 : Cond.fieldLink R_Jobs 19 "PilotTugs$Jobs" "pull" "[I" ∈ TB := List.mem_append_left _ (List.mem_of_getElem? (i := 38) rfl)
theorem t_w39 : Cond.fieldLink R_Jobs 22 "PilotTugs$Jobs" "from" "[I" ∈ TB := List.mem_append_left _ (List.mem_of_getElem? (i := 39) rfl)
theorem t_w40 : Cond.fieldLink R_Jobs 25 "PilotTugs$Jobs" "to" "[I" ∈ TB := List.mem_append_left _ (List.mem_of_getElem? (i := 40) rfl)
theorem t_w41 : Cond.fieldLink R_Jobs 28 "PilotTugs$Jobs" "place" "[I" ∈ TB := List.mem_append_left _ (List.mem_of_getElem? (i := 41) rfl)
theorem t_w42 : Cond.fieldLink R_PT 19 "PilotTugs" "jobs" "LPilotTugs$Jobs;" ∈ TB := List.mem_append_left _ (List.mem_of_getElem? (i := 42) rfl)
theorem t_w43 : Cond.fieldLink R_PT 102 "PilotTugs$Jobs" "size" "I" ∈ TB := List.mem_append_left _ (List.mem_of_getElem? (i := 43) rfl)
theorem t_w44 : Cond.methodLink R_PT 105 y_Jobs_add ∈ TB := List.mem_append_left _ (List.mem_of_getElem? (i := 44) rfl)
theorem t_w45 : Cond.instanceMethod y_Jobs_add ∈ TB := List.mem_append_left _ (List.mem_of_getElem? (i := 45) rfl)
theorem t_w46 : Cond.selects R_Jobs y_Jobs_add y_Jobs_add ∈ TB := List.mem_append_left _ (List.mem_of_getElem? (i := 46) rfl)
theorem t_w47 : Cond.initialized R_Jobs ∈ TB := List.mem_append_left _ (List.mem_of_getElem? (i := 47) rfl)
theorem t_w48 : Cond.code y_Jobs_add b_Jobs_add 7 (some .int) ∈ TB := List.mem_append_left _ (List.mem_of_getElem? (i := 48) rfl)
theorem t_w49 : Cond.fieldLink R_Ways 15 "PilotTugs$Ways" "minutes" "[I" ∈ TB := List.mem_append_left _ (List.mem_of_getElem? (i := 49) rfl)
theorem t_w50 : Cond.fieldLink R_PT 33 "PilotTugs" "ways" "LPilotTugs$Ways;" ∈ TB := List.mem_append_left _ (List.mem_of_getElem? (i := 50) rfl)
theorem t_w51 : Cond.methodLink R_PT 108 y_Ways_tell ∈ TB := List.mem_append_left _ (List.mem_of_getElem? (i := 51) rfl)
theorem t_w52 : Cond.instanceMethod y_Ways_tell ∈ TB := List.mem_append_left _ (List.mem_of_getElem? (i := 52) rfl)
theorem t_w53 : Cond.selects R_Ways y_Ways_tell y_Ways_tell ∈ TB := List.mem_append_left _ (List.mem_of_getElem? (i := 53) rfl)
theorem t_w54 : Cond.initialized R_Ways ∈ TB := List.mem_append_left _ (List.mem_of_getElem? (i := 54) rfl)
theorem t_w55 : Cond.code y_Ways_tell b_Ways_tell 4 none ∈ TB := List.mem_append_left _ (List.mem_of_getElem? (i := 55) rfl)
theorem t_w56 : Cond.fieldLink R_PT 112 "PilotTugs$Ways" "restMinutes" "I" ∈ TB := List.mem_append_left _ (List.mem_of_getElem? (i := 56) rfl)
theorem t_w57 : Cond.methodLink R_PT 115 y_PT_isPerson ∈ TB := List.mem_append_left _ (List.mem_of_getElem? (i := 57) rfl)
theorem t_w58 : Cond.instanceMethod y_PT_isPerson ∈ TB := List.mem_append_left _ (List.mem_of_getElem? (i := 58) rfl)
theorem t_w59 : Cond.selects R_PT y_PT_isPerson y_PT_isPerson ∈ TB := List.mem_append_left _ (List.mem_of_getElem? (i := 59) rfl)
theorem t_w60 : Cond.code y_PT_isPerson b_PT_isPerson 2 (some .boolean) ∈ TB := List.mem_append_left _ (List.mem_of_getElem? (i := 60) rfl)
theorem t_w61 : Cond.fieldLink R_PT 118 "PilotTugs$People" "does" "[I" ∈ TB := List.mem_append_left _ (List.mem_of_getElem? (i := 61) rfl)
theorem t_w62 : Cond.fieldLink R_Jobs 31 "PilotTugs$Jobs" "inOrder" "[I" ∈ TB := List.mem_append_left _ (List.mem_of_getElem? (i := 62) rfl)
theorem t_w63 : Cond.fieldLink R_People 38 "PilotTugs$Jobs" "size" "I" ∈ TB := List.mem_append_left _ (List.mem_of_getElem? (i := 63) rfl)
theorem t_w64 : Cond.fieldLink R_People 41 "PilotTugs$Jobs" "licence" "[I" ∈ TB := List.mem_append_left _ (List.mem_of_getElem? (i := 64) rfl)
theorem t_w65 : Cond.fieldLink R_People 28 "PilotTugs$People" "does" "[I" ∈ TB := List.mem_append_left _ (List.mem_of_getElem? (i := 65) rfl)
theorem t_w66 : Cond.methodLink R_People 34 y_People_failsForOne ∈ TB := List.mem_append_left _ (List.mem_of_getElem? (i := 66) rfl)
theorem t_w67 : Cond.static y_People_failsForOne ∈ TB := List.mem_append_left _ (List.mem_of_getElem? (i := 67) rfl)
theorem t_w68 : Cond.code y_People_failsForOne b_People_failsForOne 3 (some .boolean) ∈ TB := List.mem_append_left _ (List.mem_of_getElem? (i := 68) rfl)
theorem t_w69 : Cond.fieldLink R_People 31 "PilotTugs$People" "failures" "[I" ∈ TB := List.mem_append_left _ (List.mem_of_getElem? (i := 69) rfl)
theorem t_w70 : Cond.methodLink R_Planner 44 y_Planner_digitShift ∈ TB := List.mem_append_left _ (List.mem_of_getElem? (i := 70) rfl)
theorem t_w71 : Cond.static y_Planner_digitShift ∈ TB := List.mem_append_left _ (List.mem_of_getElem? (i := 71) rfl)
theorem t_w72 : Cond.initialized R_Planner ∈ TB := List.mem_append_left _ (List.mem_of_getElem? (i := 72) rfl)
theorem t_w73 : Cond.code y_Planner_digitShift b_Planner_digitShift 1 (some .int) ∈ TB := List.mem_append_left _ (List.mem_of_getElem? (i := 73) rfl)
theorem t_w74 : Cond.methodLink R_Planner 55 y_Integer_bitCount ∈ TB := List.mem_append_left _ (List.mem_of_getElem? (i := 74) rfl)
theorem t_w75 : Cond.static y_Integer_bitCount ∈ TB := List.mem_append_left _ (List.mem_of_getElem? (i := 75) rfl)
theorem t_w76 : Cond.initialized R_Integer ∈ TB := List.mem_append_left _ (List.mem_of_getElem? (i := 76) rfl)
theorem t_w77 : Cond.code y_Integer_bitCount b_Integer_bitCount 1 (some .int) ∈ TB := List.mem_append_left _ (List.mem_of_getElem? (i := 77) rfl)
theorem t_w78 : Cond.fieldLink R_Planner 11 "PilotTugs$Planner" "least" "[J" ∈ TB := List.mem_append_left _ (List.mem_of_getElem? (i := 78) rfl)
theorem t_w79 : Cond.methodLink R_Planner 89 y_Planner_digits ∈ TB := List.mem_append_left _ (List.mem_of_getElem? (i := 79) rfl)
theorem t_w80 : Cond.static y_Planner_digits ∈ TB := List.mem_append_left _ (List.mem_of_getElem? (i := 80) rfl)
theorem t_w81 : Cond.code y_Planner_digits b_Planner_digits 6 (some .long) ∈ TB := List.mem_append_left _ (List.mem_of_getElem? (i := 81) rfl)
theorem t_w82 : Cond.fieldLink R_Plan 15 "PilotTugs$Plan" "barred" "I" ∈ TB := List.mem_append_left _ (List.mem_of_getElem? (i := 82) rfl)
theorem t_w83 : Cond.fieldLink R_People 42 "PilotTugs$Jobs" "to" "[I" ∈ TB := List.mem_append_left _ (List.mem_of_getElem? (i := 83) rfl)
theorem t_w84 : Cond.fieldLink R_People 43 "PilotTugs$Jobs" "from" "[I" ∈ TB := List.mem_append_left _ (List.mem_of_getElem? (i := 84) rfl)
theorem t_w85 : Cond.fieldLink R_Planner 52 "PilotTugs$People" "does" "[I" ∈ TB := List.mem_append_left _ (List.mem_of_getElem? (i := 85) rfl)
theorem t_w86 : Cond.fieldLink R_Planner 60 "PilotTugs$People" "home" "[I" ∈ TB := List.mem_append_left _ (List.mem_of_getElem? (i := 86) rfl)
theorem t_w87 : Cond.fieldLink R_Planner 63 "PilotTugs$People" "from" "[I" ∈ TB := List.mem_append_left _ (List.mem_of_getElem? (i := 87) rfl)
theorem t_w88 : Cond.fieldLink R_Planner 18 "PilotTugs$Jobs" "size" "I" ∈ TB := List.mem_append_left _ (List.mem_of_getElem? (i := 88) rfl)
theorem t_w89 : Cond.fieldLink R_Planner 66 "PilotTugs$Jobs" "inOrder" "[I" ∈ TB := List.mem_append_left _ (List.mem_of_getElem? (i := 89) rfl)
theorem t_w90 : Cond.fieldLink R_Planner 69 "PilotTugs$Jobs" "place" "[I" ∈ TB := List.mem_append_left _ (List.mem_of_getElem? (i := 90) rfl)
theorem t_w91 : Cond.methodLink R_Planner 72 y_Ways_between ∈ TB := List.mem_append_left _ (List.mem_of_getElem? (i := 91) rfl)
theorem t_w92 : Cond.instanceMethod y_Ways_between ∈ TB := List.mem_append_left _ (List.mem_of_getElem? (i := 92) rfl)
theorem t_w93 : Cond.selects R_Ways y_Ways_between y_Ways_between ∈ TB := List.mem_append_left _ (List.mem_of_getElem? (i := 93) rfl)
theorem t_w94 : Cond.code y_Ways_between b_Ways_between 3 (some .int) ∈ TB := List.mem_append_left _ (List.mem_of_getElem? (i := 94) rfl)
theorem t_w95 : Cond.methodLink R_Planner 78 y_People_isFit ∈ TB := List.mem_append_left _ (List.mem_of_getElem? (i := 95) rfl)
theorem t_w96 : Cond.instanceMethod y_People_isFit ∈ TB := List.mem_append_left _ (List.mem_of_getElem? (i := 96) rfl)
theorem t_w97 : Cond.selects R_People y_People_isFit y_People_isFit ∈ TB := List.mem_append_left _ (List.mem_of_getElem? (i := 97) rfl)
theorem t_w98 : Cond.code y_People_isFit b_People_isFit 4 (some .boolean) ∈ TB := List.mem_append_left _ (List.mem_of_getElem? (i := 98) rfl)
theorem t_w99 : Cond.fieldLink R_Planner 82 "PilotTugs$Jobs" "from" "[I" ∈ TB := List.mem_append_left _ (List.mem_of_getElem? (i := 99) rfl)
theorem t_w100 : Cond.fieldLink R_Planner 83 "PilotTugs$Jobs" "to" "[I" ∈ TB := List.mem_append_left _ (List.mem_of_getElem? (i := 100) rfl)
theorem t_w101 : Cond.fieldLink R_Planner 86 "PilotTugs$Ways" "restMinutes" "I" ∈ TB := List.mem_append_left _ (List.mem_of_getElem? (i := 101) rfl)
theorem t_w102 : Cond.methodLink R_Planner 93 y_Planner_travelOf ∈ TB := List.mem_append_left _ (List.mem_of_getElem? (i := 102) rfl)
theorem t_w103 : Cond.instanceMethod y_Planner_travelOf ∈ TB := List.mem_append_left _ (List.mem_of_getElem? (i := 103) rfl)
theorem t_w104 : Cond.selects R_Planner y_Planner_travelOf y_Planner_travelOf ∈ TB := List.mem_append_left _ (List.mem_of_getElem? (i := 104) rfl)
theorem t_w105 : Cond.code y_Planner_travelOf b_Planner_travelOf 12 (some .int) ∈ TB := List.mem_append_left _ (List.mem_of_getElem? (i := 105) rfl)
theorem t_w106 : Cond.fieldLink R_Planner 15 "PilotTugs$Planner" "own" "[J" ∈ TB := List.mem_append_left _ (List.mem_of_getElem? (i := 106) rfl)
theorem t_w107 : Cond.constantLong R_Planner 97 (-1) ∈ TB := List.mem_append_left _ (List.mem_of_getElem? (i := 107) rfl)
theorem t_w108 : Cond.methodLink R_Planner 99 Lib.MathLoose.min_long.x ∈ TB := List.mem_append_left _ (List.mem_of_getElem? (i := 108) rfl)
theorem t_w109 : Cond.static Lib.MathLoose.min_long.x ∈ TB := List.mem_append_left _ (List.mem_of_getElem? (i := 109) rfl)
theorem t_w110 : Cond.initialized "java/lang/Math" ∈ TB := List.mem_append_left _ (List.mem_of_getElem? (i := 110) rfl)
theorem t_w111 : Cond.code Lib.MathLoose.min_long.x Lib.MathLoose.min_long.code 4 (some .long) ∈ TB := List.mem_append_left _ (List.mem_of_getElem? (i := 111) rfl)
theorem t_w112 : Cond.methodLink R_Planner 24 y_Planner_giveToNobody ∈ TB := List.mem_append_left _ (List.mem_of_getElem? (i := 112) rfl)
theorem t_w113 : Cond.instanceMethod y_Planner_giveToNobody ∈ TB := List.mem_append_left _ (List.mem_of_getElem? (i := 113) rfl)
theorem t_w114 : Cond.selects R_Planner y_Planner_giveToNobody y_Planner_giveToNobody ∈ TB := List.mem_append_left _ (List.mem_of_getElem? (i := 114) rfl)
theorem t_w115 : Cond.code y_Planner_giveToNobody b_Planner_giveToNobody 6 none ∈ TB := List.mem_append_left _ (List.mem_of_getElem? (i := 115) rfl)
theorem t_w116 : Cond.fieldLink R_Planner 28 "PilotTugs$People" "size" "I" ∈ TB := List.mem_append_left _ (List.mem_of_getElem? (i := 116) rfl)
theorem t_w117 : Cond.methodLink R_Planner 31 y_Plan_isBarred ∈ TB := List.mem_append_left _ (List.mem_of_getElem? (i := 117) rfl)
theorem t_w118 : Cond.instanceMethod y_Plan_isBarred ∈ TB := List.mem_append_left _ (List.mem_of_getElem? (i := 118) rfl)
theorem t_w119 : Cond.selects R_Plan y_Plan_isBarred y_Plan_isBarred ∈ TB := List.mem_append_left _ (List.mem_of_getElem? (i := 119) rfl)
theorem t_w120 : Cond.initialized R_Plan ∈ TB := List.mem_append_left _ (List.mem_of_getElem? (i := 120) rfl)
theorem t_w121 : Cond.code y_Plan_isBarred b_Plan_isBarred 2 (some .boolean) ∈ TB := List.mem_append_left _ (List.mem_of_getElem? (i := 121) rfl)
theorem t_w122 : Cond.methodLink R_Planner 37 y_Planner_costOwn ∈ TB := List.mem_append_left _ (List.mem_of_getElem? (i := 122) rfl)
theorem t_w123 : Cond.instanceMethod y_Planner_costOwn ∈ TB := List.mem_append_left _ (List.mem_of_getElem? (i := 123) rfl)
theorem t_w124 : Cond.selects R_Planner y_Planner_costOwn y_Planner_costOwn ∈ TB := List.mem_append_left _ (List.mem_of_getElem? (i := 124) rfl)
theorem t_w125 : Cond.code y_Planner_costOwn b_Planner_costOwn 8 none ∈ TB := List.mem_append_left _ (List.mem_of_getElem? (i := 125) rfl)
theorem t_w126 : Cond.methodLink R_Planner 41 y_Planner_joinOwn ∈ TB := List.mem_append_left _ (List.mem_of_getElem? (i := 126) rfl)
theorem t_w127 : Cond.instanceMethod y_Planner_joinOwn ∈ TB := List.mem_append_left _ (List.mem_of_getElem? (i := 127) rfl)
theorem t_w128 : Cond.selects R_Planner y_Planner_joinOwn y_Planner_joinOwn ∈ TB := List.mem_append_left _ (List.mem_of_getElem? (i := 128) rfl)
theorem t_w129 : Cond.code y_Planner_joinOwn b_Planner_joinOwn 6 none ∈ TB := List.mem_append_left _ (List.mem_of_getElem? (i := 129) rfl)
theorem t_w130 : Cond.fieldLink R_Planner 48 "PilotTugs$Plan" "doer" "[I" ∈ TB := List.mem_append_left _ (List.mem_of_getElem? (i := 130) rfl)
theorem t_w131 : Cond.fieldLink R_Plan 47 "PilotTugs$Jobs" "size" "I" ∈ TB := List.mem_append_left _ (List.mem_of_getElem? (i := 131) rfl)
theorem t_w132 : Cond.fieldLink R_Plan 62 "PilotTugs$Jobs" "inOrder" "[I" ∈ TB := List.mem_append_left _ (List.mem_of_getElem? (i := 132) rfl)
theorem t_w133 : Cond.fieldLink R_Plan 25 "PilotTugs$Plan" "doer" "[I" ∈ TB := List.mem_append_left _ (List.mem_of_getElem? (i := 133) rfl)
theorem t_w134 : Cond.fieldLink R_Plan 29 "PilotTugs$Plan" "travelTo" "[I" ∈ TB := List.mem_append_left _ (List.mem_of_getElem? (i := 134) rfl)
theorem t_w135 : Cond.fieldLink R_Plan 65 "PilotTugs$Jobs" "place" "[I" ∈ TB := List.mem_append_left _ (List.mem_of_getElem? (i := 135) rfl)
theorem t_w136 : Cond.methodLink R_Plan 68 y_Ways_between ∈ TB := List.mem_append_left _ (List.mem_of_getElem? (i := 136) rfl)
theorem t_w137 : Cond.fieldLink R_Plan 22 "PilotTugs$Plan" "travel" "I" ∈ TB := List.mem_append_left _ (List.mem_of_getElem? (i := 137) rfl)
theorem t_w138 : Cond.fieldLink R_Plan 19 "PilotTugs$Plan" "given" "I" ∈ TB := List.mem_append_left _ (List.mem_of_getElem? (i := 138) rfl)
theorem t_w139 : Cond.fieldLink R_Plan 52 "PilotTugs$People" "size" "I" ∈ TB := List.mem_append_left _ (List.mem_of_getElem? (i := 139) rfl)
theorem t_w140 : Cond.fieldLink R_Plan 55 "PilotTugs$People" "home" "[I" ∈ TB := List.mem_append_left _ (List.mem_of_getElem? (i := 140) rfl)
theorem t_w141 : Cond.methodLink R_Plan 58 y_Plan_walkOf ∈ TB := List.mem_append_left _ (List.mem_of_getElem? (i := 141) rfl)
theorem t_w142 : Cond.instanceMethod y_Plan_walkOf ∈ TB := List.mem_append_left _ (List.mem_of_getElem? (i := 142) rfl)
theorem t_w143 : Cond.selects R_Plan y_Plan_walkOf y_Plan_walkOf ∈ TB := List.mem_append_left _ (List.mem_of_getElem? (i := 143) rfl)
theorem t_w144 : Cond.code y_Plan_walkOf b_Plan_walkOf 8 none ∈ TB := List.mem_append_left _ (List.mem_of_getElem? (i := 144) rfl)
theorem t_w145 : Cond.fieldLink R_Tugs 19 "PilotTugs$Jobs" "size" "I" ∈ TB := List.mem_append_left _ (List.mem_of_getElem? (i := 145) rfl)
theorem t_w146 : Cond.methodLink R_Tugs 45 y_Jobs_overlap ∈ TB := List.mem_append_left _ (List.mem_of_getElem? (i := 146) rfl)
theorem t_w147 : Cond.instanceMethod y_Jobs_overlap ∈ TB := List.mem_append_left _ (List.mem_of_getElem? (i := 147) rfl)
theorem t_w148 : Cond.selects R_Jobs y_Jobs_overlap y_Jobs_overlap ∈ TB := List.mem_append_left _ (List.mem_of_getElem? (i := 148) rfl)
theorem t_w149 : Cond.code y_Jobs_overlap b_Jobs_overlap 3 (some .boolean) ∈ TB := List.mem_append_left _ (List.mem_of_getElem? (i := 149) rfl)
theorem t_w150 : Cond.fieldLink R_Tugs 22 "PilotTugs$Plan" "tugsOf" "[I" ∈ TB := List.mem_append_left _ (List.mem_of_getElem? (i := 150) rfl)
theorem t_w151 : Cond.methodLink R_Tugs 56 y_Integer_bitCount ∈ TB := List.mem_append_left _ (List.mem_of_getElem? (i := 151) rfl)
theorem t_w152 : Cond.methodLink R_Tugs 49 y_Tugs_pullOf ∈ TB := List.mem_append_left _ (List.mem_of_getElem? (i := 152) rfl)
theorem t_w153 : Cond.instanceMethod y_Tugs_pullOf ∈ TB := List.mem_append_left _ (List.mem_of_getElem? (i := 153) rfl)
theorem t_w154 : Cond.selects R_Tugs y_Tugs_pullOf y_Tugs_pullOf ∈ TB := List.mem_append_left _ (List.mem_of_getElem? (i := 154) rfl)
theorem t_w155 : Cond.code y_Tugs_pullOf b_Tugs_pullOf 4 (some .int) ∈ TB := List.mem_append_left _ (List.mem_of_getElem? (i := 155) rfl)
theorem t_w156 : Cond.methodLink R_Tugs 53 y_Tugs_isBetter ∈ TB := List.mem_append_left _ (List.mem_of_getElem? (i := 156) rfl)
theorem t_w157 : Cond.instanceMethod y_Tugs_isBetter ∈ TB := List.mem_append_left _ (List.mem_of_getElem? (i := 157) rfl)
theorem t_w158 : Cond.selects R_Tugs y_Tugs_isBetter y_Tugs_isBetter ∈ TB := List.mem_append_left _ (List.mem_of_getElem? (i := 158) rfl)
theorem t_w159 : Cond.code y_Tugs_isBetter b_Tugs_isBetter 6 (some .boolean) ∈ TB := List.mem_append_left _ (List.mem_of_getElem? (i := 159) rfl)
theorem t_w160 : Cond.fieldLink R_Tugs 27 "PilotTugs$Plan" "without" "[I" ∈ TB := List.mem_append_left _ (List.mem_of_getElem? (i := 160) rfl)
theorem t_w161 : Cond.fieldLink R_Tugs 30 "PilotTugs$Jobs" "inOrder" "[I" ∈ TB := List.mem_append_left _ (List.mem_of_getElem? (i := 161) rfl)
theorem t_w162 : Cond.fieldLink R_Tugs 33 "PilotTugs$Plan" "doer" "[I" ∈ TB := List.mem_append_left _ (List.mem_of_getElem? (i := 162) rfl)
theorem t_w163 : Cond.fieldLink R_Tugs 36 "PilotTugs$Jobs" "pull" "[I" ∈ TB := List.mem_append_left _ (List.mem_of_getElem? (i := 163) rfl)
theorem t_w164 : Cond.methodLink R_Tugs 37 y_Tugs_freeFor ∈ TB := List.mem_append_left _ (List.mem_of_getElem? (i := 164) rfl)
theorem t_w165 : Cond.instanceMethod y_Tugs_freeFor ∈ TB := List.mem_append_left _ (List.mem_of_getElem? (i := 165) rfl)
theorem t_w166 : Cond.selects R_Tugs y_Tugs_freeFor y_Tugs_freeFor ∈ TB := List.mem_append_left _ (List.mem_of_getElem? (i := 166) rfl)
theorem t_w167 : Cond.code y_Tugs_freeFor b_Tugs_freeFor 6 (some .int) ∈ TB := List.mem_append_left _ (List.mem_of_getElem? (i := 167) rfl)
theorem t_w168 : Cond.methodLink R_Tugs 41 y_Tugs_choose ∈ TB := List.mem_append_left _ (List.mem_of_getElem? (i := 168) rfl)
theorem t_w169 : Cond.instanceMethod y_Tugs_choose ∈ TB := List.mem_append_left _ (List.mem_of_getElem? (i := 169) rfl)
theorem t_w170 : Cond.selects R_Tugs y_Tugs_choose y_Tugs_choose ∈ TB := List.mem_append_left _ (List.mem_of_getElem? (i := 170) rfl)
theorem t_w171 : Cond.code y_Tugs_choose b_Tugs_choose 5 (some .int) ∈ TB := List.mem_append_left _ (List.mem_of_getElem? (i := 171) rfl)
theorem t_w172 : Cond.methodLink R_PT 197 y_Jobs_putInOrder ∈ TB := List.mem_append_left _ (List.mem_of_getElem? (i := 172) rfl)
theorem t_w173 : Cond.instanceMethod y_Jobs_putInOrder ∈ TB := List.mem_append_left _ (List.mem_of_getElem? (i := 173) rfl)
theorem t_w174 : Cond.selects R_Jobs y_Jobs_putInOrder y_Jobs_putInOrder ∈ TB := List.mem_append_left _ (List.mem_of_getElem? (i := 174) rfl)
theorem t_w175 : Cond.code y_Jobs_putInOrder b_Jobs_putInOrder 3 none ∈ TB := List.mem_append_left _ (List.mem_of_getElem? (i := 175) rfl)
theorem t_w176 : Cond.methodLink R_PT 200 y_People_askRules ∈ TB := List.mem_append_left _ (List.mem_of_getElem? (i := 176) rfl)
theorem t_w177 : Cond.instanceMethod y_People_askRules ∈ TB := List.mem_append_left _ (List.mem_of_getElem? (i := 177) rfl)
theorem t_w178 : Cond.selects R_People y_People_askRules y_People_askRules ∈ TB := List.mem_append_left _ (List.mem_of_getElem? (i := 178) rfl)
theorem t_w179 : Cond.code y_People_askRules b_People_askRules 4 (some .int) ∈ TB := List.mem_append_left _ (List.mem_of_getElem? (i := 179) rfl)
theorem t_w180 : Cond.fieldLink R_PT 194 "PilotTugs$Plan" "barred" "I" ∈ TB := List.mem_append_left _ (List.mem_of_getElem? (i := 180) rfl)
theorem t_w181 : Cond.fieldLink R_PT 40 "PilotTugs" "planner" "LPilotTugs$Planner;" ∈ TB := List.mem_append_left _ (List.mem_of_getElem? (i := 181) rfl)
theorem t_w182 : Cond.methodLink R_PT 204 y_Planner_divide ∈ TB := List.mem_append_left _ (List.mem_of_getElem? (i := 182) rfl)
theorem t_w183 : Cond.instanceMethod y_Planner_divide ∈ TB := List.mem_append_left _ (List.mem_of_getElem? (i := 183) rfl)
theorem t_w184 : Cond.selects R_Planner y_Planner_divide y_Planner_divide ∈ TB := List.mem_append_left _ (List.mem_of_getElem? (i := 184) rfl)
theorem t_w185 : Cond.code y_Planner_divide b_Planner_divide 10 none ∈ TB := List.mem_append_left _ (List.mem_of_getElem? (i := 185) rfl)
theorem t_w186 : Cond.methodLink R_PT 208 y_Plan_walk ∈ TB := List.mem_append_left _ (List.mem_of_getElem? (i := 186) rfl)
theorem t_w187 : Cond.instanceMethod y_Plan_walk ∈ TB := List.mem_append_left _ (List.mem_of_getElem? (i := 187) rfl)
theorem t_w188 : Cond.selects R_Plan y_Plan_walk y_Plan_walk ∈ TB := List.mem_append_left _ (List.mem_of_getElem? (i := 188) rfl)
theorem t_w189 : Cond.code y_Plan_walk b_Plan_walk 5 none ∈ TB := List.mem_append_left _ (List.mem_of_getElem? (i := 189) rfl)
theorem t_w190 : Cond.methodLink R_PT 212 y_Tugs_serve ∈ TB := List.mem_append_left _ (List.mem_of_getElem? (i := 190) rfl)
theorem t_w191 : Cond.instanceMethod y_Tugs_serve ∈ TB := List.mem_append_left _ (List.mem_of_getElem? (i := 191) rfl)
theorem t_w192 : Cond.selects R_Tugs y_Tugs_serve y_Tugs_serve ∈ TB := List.mem_append_left _ (List.mem_of_getElem? (i := 192) rfl)
theorem t_w193 : Cond.code y_Tugs_serve b_Tugs_serve 6 none ∈ TB := List.mem_append_left _ (List.mem_of_getElem? (i := 193) rfl)
theorem t_w194 : Cond.methodLink R_PT 122 y_PT_makePlan ∈ TB := List.mem_append_left _ (List.mem_of_getElem? (i := 194) rfl)
theorem t_w195 : Cond.instanceMethod y_PT_makePlan ∈ TB := List.mem_append_left _ (List.mem_of_getElem? (i := 195) rfl)
theorem t_w196 : Cond.selects R_PT y_PT_makePlan y_PT_makePlan ∈ TB := List.mem_append_left _ (List.mem_of_getElem? (i := 196) rfl)
theorem t_w197 : Cond.code y_PT_makePlan b_PT_makePlan 1 none ∈ TB := List.mem_append_left _ (List.mem_of_getElem? (i := 197) rfl)
theorem t_w198 : Cond.fieldLink R_PT 125 "PilotTugs$Plan" "given" "I" ∈ TB := List.mem_append_left _ (List.mem_of_getElem? (i := 198) rfl)
theorem t_w199 : Cond.fieldLink R_PT 128 "PilotTugs$Plan" "travel" "I" ∈ TB := List.mem_append_left _ (List.mem_of_getElem? (i := 199) rfl)
theorem t_w200 : Cond.fieldLink R_PT 141 "PilotTugs$Plan" "doer" "[I" ∈ TB := List.mem_append_left _ (List.mem_of_getElem? (i := 200) rfl)
theorem t_w201 : Cond.methodLink R_PT 216 y_Plan_isBarred ∈ TB := List.mem_append_left _ (List.mem_of_getElem? (i := 201) rfl)
theorem t_w202 : Cond.fieldLink R_PT 219 "PilotTugs$People" "licence" "[I" ∈ TB := List.mem_append_left _ (List.mem_of_getElem? (i := 202) rfl)
theorem t_w203 : Cond.fieldLink R_PT 222 "PilotTugs$Jobs" "licence" "[I" ∈ TB := List.mem_append_left _ (List.mem_of_getElem? (i := 203) rfl)
theorem t_w204 : Cond.methodLink R_PT 223 y_Planner_travelOf ∈ TB := List.mem_append_left _ (List.mem_of_getElem? (i := 204) rfl)
theorem t_w205 : Cond.methodLink R_PT 131 y_PT_isJob ∈ TB := List.mem_append_left _ (List.mem_of_getElem? (i := 205) rfl)
theorem t_w206 : Cond.instanceMethod y_PT_isJob ∈ TB := List.mem_append_left _ (List.mem_of_getElem? (i := 206) rfl)
theorem t_w207 : Cond.selects R_PT y_PT_isJob y_PT_isJob ∈ TB := List.mem_append_left _ (List.mem_of_getElem? (i := 207) rfl)
theorem t_w208 : Cond.code y_PT_isJob b_PT_isJob 2 (some .boolean) ∈ TB := List.mem_append_left _ (List.mem_of_getElem? (i := 208) rfl)
theorem t_w209 : Cond.fieldLink R_PT 144 "PilotTugs$Plan" "travelTo" "[I" ∈ TB := List.mem_append_left _ (List.mem_of_getElem? (i := 209) rfl)
theorem t_w210 : Cond.fieldLink R_PT 147 "PilotTugs$Plan" "tugsOf" "[I" ∈ TB := List.mem_append_left _ (List.mem_of_getElem? (i := 210) rfl)
theorem t_w211 : Cond.fieldLink R_PT 150 "PilotTugs$Plan" "without" "[I" ∈ TB := List.mem_append_left _ (List.mem_of_getElem? (i := 211) rfl)
theorem t_w212 : Cond.methodLink R_PT 153 y_PT_whyNobody ∈ TB := List.mem_append_left _ (List.mem_of_getElem? (i := 212) rfl)
theorem t_w213 : Cond.instanceMethod y_PT_whyNobody ∈ TB := List.mem_append_left _ (List.mem_of_getElem? (i := 213) rfl)
theorem t_w214 : Cond.selects R_PT y_PT_whyNobody y_PT_whyNobody ∈ TB := List.mem_append_left _ (List.mem_of_getElem? (i := 214) rfl)
theorem t_w215 : Cond.code y_PT_whyNobody b_PT_whyNobody 4 (some .int) ∈ TB := List.mem_append_left _ (List.mem_of_getElem? (i := 215) rfl)
theorem t_w216 : Cond.fieldLink R_Plan 38 "PilotTugs$Plan" "doerBefore" "[I" ∈ TB := List.mem_append_left _ (List.mem_of_getElem? (i := 216) rfl)
theorem t_w217 : Cond.methodLink R_Plan 41 arraycopyName ∈ TB := List.mem_append_left _ (List.mem_of_getElem? (i := 217) rfl)
theorem t_w218 : Cond.native arraycopyName ∈ TB := List.mem_append_left _ (List.mem_of_getElem? (i := 218) rfl)
theorem t_w219 : Cond.static arraycopyName ∈ TB := List.mem_append_left _ (List.mem_of_getElem? (i := 219) rfl)
theorem t_w220 : Cond.initialized "java/lang/System" ∈ TB := List.mem_append_left _ (List.mem_of_getElem? (i := 220) rfl)
theorem t_w221 : Cond.methodLink R_Jobs 34 y_Jobs_minutesOf ∈ TB := List.mem_append_left _ (List.mem_of_getElem? (i := 221) rfl)
theorem t_w222 : Cond.instanceMethod y_Jobs_minutesOf ∈ TB := List.mem_append_left _ (List.mem_of_getElem? (i := 222) rfl)
theorem t_w223 : Cond.selects R_Jobs y_Jobs_minutesOf y_Jobs_minutesOf ∈ TB := List.mem_append_left _ (List.mem_of_getElem? (i := 223) rfl)
theorem t_w224 : Cond.code y_Jobs_minutesOf b_Jobs_minutesOf 2 (some .int) ∈ TB := List.mem_append_left _ (List.mem_of_getElem? (i := 224) rfl)
theorem t_w225 : Cond.methodLink R_PT 158 y_Jobs_minutesOf ∈ TB := List.mem_append_left _ (List.mem_of_getElem? (i := 225) rfl)
theorem t_w226 : Cond.methodLink R_PT 161 y_Plan_keepDoers ∈ TB := List.mem_append_left _ (List.mem_of_getElem? (i := 226) rfl)
theorem t_w227 : Cond.instanceMethod y_Plan_keepDoers ∈ TB := List.mem_append_left _ (List.mem_of_getElem? (i := 227) rfl)
theorem t_w228 : Cond.selects R_Plan y_Plan_keepDoers y_Plan_keepDoers ∈ TB := List.mem_append_left _ (List.mem_of_getElem? (i := 228) rfl)
theorem t_w229 : Cond.code y_Plan_keepDoers b_Plan_keepDoers 1 none ∈ TB := List.mem_append_left _ (List.mem_of_getElem? (i := 229) rfl)
theorem t_w230 : Cond.methodLink R_PT 164 y_Jobs_move ∈ TB := List.mem_append_left _ (List.mem_of_getElem? (i := 230) rfl)
theorem t_w231 : Cond.instanceMethod y_Jobs_move ∈ TB := List.mem_append_left _ (List.mem_of_getElem? (i := 231) rfl)
theorem t_w232 : Cond.selects R_Jobs y_Jobs_move y_Jobs_move ∈ TB := List.mem_append_left _ (List.mem_of_getElem? (i := 232) rfl)
theorem t_w233 : Cond.code y_Jobs_move b_Jobs_move 3 none ∈ TB := List.mem_append_left _ (List.mem_of_getElem? (i := 233) rfl)
theorem t_w234 : Cond.methodLink R_PT 168 y_Plan_otherDoers ∈ TB := List.mem_append_left _ (List.mem_of_getElem? (i := 234) rfl)
theorem t_w235 : Cond.instanceMethod y_Plan_otherDoers ∈ TB := List.mem_append_left _ (List.mem_of_getElem? (i := 235) rfl)
theorem t_w236 : Cond.selects R_Plan y_Plan_otherDoers y_Plan_otherDoers ∈ TB := List.mem_append_left _ (List.mem_of_getElem? (i := 236) rfl)
theorem t_w237 : Cond.code y_Plan_otherDoers b_Plan_otherDoers 4 (some .int) ∈ TB := List.mem_append_left _ (List.mem_of_getElem? (i := 237) rfl)
theorem t_w238 : Cond.fieldLink R_PT 173 "PilotTugs$Jobs" "inOrder" "[I" ∈ TB := List.mem_append_left _ (List.mem_of_getElem? (i := 238) rfl)
theorem t_w239 : Cond.fieldLink R_PT 176 "PilotTugs$People" "from" "[I" ∈ TB := List.mem_append_left _ (List.mem_of_getElem? (i := 239) rfl)
theorem t_w240 : Cond.fieldLink R_PT 179 "PilotTugs$Jobs" "from" "[I" ∈ TB := List.mem_append_left _ (List.mem_of_getElem? (i := 240) rfl)
theorem t_w241 : Cond.fieldLink R_PT 180 "PilotTugs$Jobs" "to" "[I" ∈ TB := List.mem_append_left _ (List.mem_of_getElem? (i := 241) rfl)
theorem t_w242 : Cond.constant R_PT 183 1000000 ∈ TB := List.mem_append_left _ (List.mem_of_getElem? (i := 242) rfl)
theorem t_w243 : Cond.fieldLink R_PT 191 "PilotTugs$People" "failures" "[I" ∈ TB := List.mem_append_left _ (List.mem_of_getElem? (i := 243) rfl)
theorem t_w244 : Cond.fieldLink R_Mo 61 "PilotTugsModel" "thrown" "I" ∈ TB := List.mem_append_left _ (List.mem_of_getElem? (i := 244) rfl)
theorem t_w245 : Cond.fieldLink R_Mo 65 "PilotTugsModel" "people" "I" ∈ TB := List.mem_append_left _ (List.mem_of_getElem? (i := 245) rfl)
theorem t_w246 : Cond.fieldLink R_Mo 68 "PilotTugsModel" "jobs" "I" ∈ TB := List.mem_append_left _ (List.mem_of_getElem? (i := 246) rfl)
theorem t_w247 : Cond.methodLink R_Mo 71 y_Mo_in ∈ TB := List.mem_append_left _ (List.mem_of_getElem? (i := 247) rfl)
theorem t_w248 : Cond.static y_Mo_in ∈ TB := List.mem_append_left _ (List.mem_of_getElem? (i := 248) rfl)
theorem t_w249 : Cond.initialized R_Mo ∈ TB := List.mem_append_left _ (List.mem_of_getElem? (i := 249) rfl)
theorem t_w250 : Cond.code y_Mo_in b_Mo_in 3 (some .boolean) ∈ TB := List.mem_append_left _ (List.mem_of_getElem? (i := 250) rfl)
theorem t_w251 : Cond.methodLink R_Mo 83 y_Mo_refuse ∈ TB := List.mem_append_left _ (List.mem_of_getElem? (i := 251) rfl)
theorem t_w252 : Cond.instanceMethod y_Mo_refuse ∈ TB := List.mem_append_left _ (List.mem_of_getElem? (i := 252) rfl)
theorem t_w253 : Cond.selects R_Mo y_Mo_refuse y_Mo_refuse ∈ TB := List.mem_append_left _ (List.mem_of_getElem? (i := 253) rfl)
theorem t_w254 : Cond.code y_Mo_refuse b_Mo_refuse 2 (some .int) ∈ TB := List.mem_append_left _ (List.mem_of_getElem? (i := 254) rfl)
theorem t_w255 : Cond.methodLink R_Mo 75 y_Mo_isSpan ∈ TB := List.mem_append_left _ (List.mem_of_getElem? (i := 255) rfl)
theorem t_w256 : Cond.static y_Mo_isSpan ∈ TB := List.mem_append_left _ (List.mem_of_getElem? (i := 256) rfl)
theorem t_w257 : Cond.code y_Mo_isSpan b_Mo_isSpan 2 (some .boolean) ∈ TB := List.mem_append_left _ (List.mem_of_getElem? (i := 257) rfl)
theorem t_w258 : Cond.methodLink R_Mo 79 y_Mo_isPlace ∈ TB := List.mem_append_left _ (List.mem_of_getElem? (i := 258) rfl)
theorem t_w259 : Cond.static y_Mo_isPlace ∈ TB := List.mem_append_left _ (List.mem_of_getElem? (i := 259) rfl)
theorem t_w260 : Cond.code y_Mo_isPlace b_Mo_isPlace 1 (some .boolean) ∈ TB := List.mem_append_left _ (List.mem_of_getElem? (i := 260) rfl)
theorem t_w261 : Cond.fieldLink R_Mo 7 "PilotTugsModel" "licence" "[I" ∈ TB := List.mem_append_left _ (List.mem_of_getElem? (i := 261) rfl)
theorem t_w262 : Cond.fieldLink R_Mo 13 "PilotTugsModel" "hoursFrom" "[I" ∈ TB := List.mem_append_left _ (List.mem_of_getElem? (i := 262) rfl)
theorem t_w263 : Cond.fieldLink R_Mo 16 "PilotTugsModel" "hoursTo" "[I" ∈ TB := List.mem_append_left _ (List.mem_of_getElem? (i := 263) rfl)
theorem t_w264 : Cond.fieldLink R_Mo 19 "PilotTugsModel" "home" "[I" ∈ TB := List.mem_append_left _ (List.mem_of_getElem? (i := 264) rfl)
theorem t_w265 : Cond.fieldLink R_Mo 87 "PilotTugsModel" "planned" "Z" ∈ TB := List.mem_append_left _ (List.mem_of_getElem? (i := 265) rfl)
theorem t_w266 : Cond.fieldLink R_Mo 91 "PilotTugsModel" "tugs" "I" ∈ TB := List.mem_append_left _ (List.mem_of_getElem? (i := 266) rfl)
theorem t_w267 : Cond.fieldLink R_Mo 28 "PilotTugsModel" "pull" "[I" ∈ TB := List.mem_append_left _ (List.mem_of_getElem? (i := 267) rfl)
theorem t_w268 : Cond.fieldLink R_Mo 31 "PilotTugsModel" "need" "[I" ∈ TB := List.mem_append_left _ (List.mem_of_getElem? (i := 268) rfl)
theorem t_w269 : Cond.fieldLink R_Mo 34 "PilotTugsModel" "pulls" "[I" ∈ TB := List.mem_append_left _ (List.mem_of_getElem? (i := 269) rfl)
theorem t_w270 : Cond.fieldLink R_Mo 37 "PilotTugsModel" "from" "[I" ∈ TB := List.mem_append_left _ (List.mem_of_getElem? (i := 270) rfl)
theorem t_w271 : Cond.fieldLink R_Mo 40 "PilotTugsModel" "to" "[I" ∈ TB := List.mem_append_left _ (List.mem_of_getElem? (i := 271) rfl)
theorem t_w272 : Cond.fieldLink R_Mo 43 "PilotTugsModel" "place" "[I" ∈ TB := List.mem_append_left _ (List.mem_of_getElem? (i := 272) rfl)
theorem t_w273 : Cond.fieldLink R_Mo 46 "PilotTugsModel" "travel" "[I" ∈ TB := List.mem_append_left _ (List.mem_of_getElem? (i := 273) rfl)
theorem t_w274 : Cond.fieldLink R_Mo 94 "PilotTugsModel" "rest" "I" ∈ TB := List.mem_append_left _ (List.mem_of_getElem? (i := 274) rfl)
theorem t_w275 : Cond.methodLink R_Mo 97 y_Mo_isPerson ∈ TB := List.mem_append_left _ (List.mem_of_getElem? (i := 275) rfl)
theorem t_w276 : Cond.instanceMethod y_Mo_isPerson ∈ TB := List.mem_append_left _ (List.mem_of_getElem? (i := 276) rfl)
theorem t_w277 : Cond.selects R_Mo y_Mo_isPerson y_Mo_isPerson ∈ TB := List.mem_append_left _ (List.mem_of_getElem? (i := 277) rfl)
theorem t_w278 : Cond.code y_Mo_isPerson b_Mo_isPerson 2 (some .boolean) ∈ TB := List.mem_append_left _ (List.mem_of_getElem? (i := 278) rfl)
theorem t_w279 : Cond.fieldLink R_Mo 22 "PilotTugsModel" "rules" "[I" ∈ TB := List.mem_append_left _ (List.mem_of_getElem? (i := 279) rfl)
theorem t_w280 : Cond.methodLink R_Mo 100 y_Mo_next ∈ TB := List.mem_append_left _ (List.mem_of_getElem? (i := 280) rfl)
theorem t_w281 : Cond.instanceMethod y_Mo_next ∈ TB := List.mem_append_left _ (List.mem_of_getElem? (i := 281) rfl)
theorem t_w282 : Cond.selects R_Mo y_Mo_next y_Mo_next ∈ TB := List.mem_append_left _ (List.mem_of_getElem? (i := 282) rfl)
theorem t_w283 : Cond.code y_Mo_next b_Mo_next 7 (some .int) ∈ TB := List.mem_append_left _ (List.mem_of_getElem? (i := 283) rfl)
theorem t_w284 : Cond.constant R_Mo 104 1000000000 ∈ TB := List.mem_append_left _ (List.mem_of_getElem? (i := 284) rfl)
theorem t_w285 : Cond.fieldLink R_Mo 105 "PilotTugsModel" "barred" "I" ∈ TB := List.mem_append_left _ (List.mem_of_getElem? (i := 285) rfl)
theorem t_w286 : Cond.fieldLink R_Mo 25 "PilotTugsModel" "failures" "[I" ∈ TB := List.mem_append_left _ (List.mem_of_getElem? (i := 286) rfl)
theorem t_w287 : Cond.fieldLink R_Mo 58 "PilotTugsModel" "tried" "[I" ∈ TB := List.mem_append_left _ (List.mem_of_getElem? (i := 287) rfl)
theorem t_w288 : Cond.fieldLink R_Mo 55 "PilotTugsModel" "costs" "[I" ∈ TB := List.mem_append_left _ (List.mem_of_getElem? (i := 288) rfl)
theorem t_w289 : Cond.methodLink R_Mo 108 y_Mo_triedOf ∈ TB := List.mem_append_left _ (List.mem_of_getElem? (i := 289) rfl)
theorem t_w290 : Cond.instanceMethod y_Mo_triedOf ∈ TB := List.mem_append_left _ (List.mem_of_getElem? (i := 290) rfl)
theorem t_w291 : Cond.selects R_Mo y_Mo_triedOf y_Mo_triedOf ∈ TB := List.mem_append_left _ (List.mem_of_getElem? (i := 291) rfl)
theorem t_w292 : Cond.code y_Mo_triedOf b_Mo_triedOf 4 (some .int) ∈ TB := List.mem_append_left _ (List.mem_of_getElem? (i := 292) rfl)
theorem t_w293 : Cond.fieldLink R_Mo 52 "PilotTugsModel" "tugsOf" "[I" ∈ TB := List.mem_append_left _ (List.mem_of_getElem? (i := 293) rfl)
theorem t_w294 : Cond.methodLink R_Mo 134 y_Mo_busy ∈ TB := List.mem_append_left _ (List.mem_of_getElem? (i := 294) rfl)
theorem t_w295 : Cond.instanceMethod y_Mo_busy ∈ TB := List.mem_append_left _ (List.mem_of_getElem? (i := 295) rfl)
theorem t_w296 : Cond.selects R_Mo y_Mo_busy y_Mo_busy ∈ TB := List.mem_append_left _ (List.mem_of_getElem? (i := 296) rfl)
theorem t_w297 : Cond.code y_Mo_busy b_Mo_busy 4 (some .int) ∈ TB := List.mem_append_left _ (List.mem_of_getElem? (i := 297) rfl)
theorem t_w298 : Cond.methodLink R_Mo 137 y_Mo_together ∈ TB := List.mem_append_left _ (List.mem_of_getElem? (i := 298) rfl)
theorem t_w299 : Cond.instanceMethod y_Mo_together ∈ TB := List.mem_append_left _ (List.mem_of_getElem? (i := 299) rfl)
theorem t_w300 : Cond.selects R_Mo y_Mo_together y_Mo_together ∈ TB := List.mem_append_left _ (List.mem_of_getElem? (i := 300) rfl)
theorem t_w301 : Cond.code y_Mo_together b_Mo_together 4 (some .int) ∈ TB := List.mem_append_left _ (List.mem_of_getElem? (i := 301) rfl)
theorem t_w302 : Cond.methodLink R_Mo 140 y_Mo_many ∈ TB := List.mem_append_left _ (List.mem_of_getElem? (i := 302) rfl)
theorem t_w303 : Cond.instanceMethod y_Mo_many ∈ TB := List.mem_append_left _ (List.mem_of_getElem? (i := 303) rfl)
theorem t_w304 : Cond.selects R_Mo y_Mo_many y_Mo_many ∈ TB := List.mem_append_left _ (List.mem_of_getElem? (i := 304) rfl)
theorem t_w305 : Cond.code y_Mo_many b_Mo_many 4 (some .int) ∈ TB := List.mem_append_left _ (List.mem_of_getElem? (i := 305) rfl)
theorem t_w306 : Cond.methodLink R_Mo 143 y_Mo_isAhead ∈ TB := List.mem_append_left _ (List.mem_of_getElem? (i := 306) rfl)
theorem t_w307 : Cond.static y_Mo_isAhead ∈ TB := List.mem_append_left _ (List.mem_of_getElem? (i := 307) rfl)
theorem t_w308 : Cond.code y_Mo_isAhead b_Mo_isAhead 3 (some .boolean) ∈ TB := List.mem_append_left _ (List.mem_of_getElem? (i := 308) rfl)
theorem t_w309 : Cond.fieldLink R_Mo 49 "PilotTugsModel" "given" "[I" ∈ TB := List.mem_append_left _ (List.mem_of_getElem? (i := 309) rfl)
theorem t_w310 : Cond.methodLink R_Mo 146 y_Mo_best ∈ TB := List.mem_append_left _ (List.mem_of_getElem? (i := 310) rfl)
theorem t_w311 : Cond.instanceMethod y_Mo_best ∈ TB := List.mem_append_left _ (List.mem_of_getElem? (i := 311) rfl)
theorem t_w312 : Cond.selects R_Mo y_Mo_best y_Mo_best ∈ TB := List.mem_append_left _ (List.mem_of_getElem? (i := 312) rfl)
theorem t_w313 : Cond.code y_Mo_best b_Mo_best 7 (some .int) ∈ TB := List.mem_append_left _ (List.mem_of_getElem? (i := 313) rfl)
theorem t_w314 : Cond.methodLink R_Mo 111 y_Mo_asks ∈ TB := List.mem_append_left _ (List.mem_of_getElem? (i := 314) rfl)
theorem t_w315 : Cond.instanceMethod y_Mo_asks ∈ TB := List.mem_append_left _ (List.mem_of_getElem? (i := 315) rfl)
theorem t_w316 : Cond.selects R_Mo y_Mo_asks y_Mo_asks ∈ TB := List.mem_append_left _ (List.mem_of_getElem? (i := 316) rfl)
theorem t_w317 : Cond.code y_Mo_asks b_Mo_asks 4 none ∈ TB := List.mem_append_left _ (List.mem_of_getElem? (i := 317) rfl)
theorem t_w318 : Cond.methodLink R_Mo 114 y_Mo_isBarred ∈ TB := List.mem_append_left _ (List.mem_of_getElem? (i := 318) rfl)
theorem t_w319 : Cond.instanceMethod y_Mo_isBarred ∈ TB := List.mem_append_left _ (List.mem_of_getElem? (i := 319) rfl)
theorem t_w320 : Cond.selects R_Mo y_Mo_isBarred y_Mo_isBarred ∈ TB := List.mem_append_left _ (List.mem_of_getElem? (i := 320) rfl)
theorem t_w321 : Cond.code y_Mo_isBarred b_Mo_isBarred 2 (some .boolean) ∈ TB := List.mem_append_left _ (List.mem_of_getElem? (i := 321) rfl)
theorem t_w322 : Cond.methodLink R_Mo 117 y_Mo_cost ∈ TB := List.mem_append_left _ (List.mem_of_getElem? (i := 322) rfl)
theorem t_w323 : Cond.instanceMethod y_Mo_cost ∈ TB := List.mem_append_left _ (List.mem_of_getElem? (i := 323) rfl)
theorem t_w324 : Cond.selects R_Mo y_Mo_cost y_Mo_cost ∈ TB := List.mem_append_left _ (List.mem_of_getElem? (i := 324) rfl)
theorem t_w325 : Cond.code y_Mo_cost b_Mo_cost 11 (some .int) ∈ TB := List.mem_append_left _ (List.mem_of_getElem? (i := 325) rfl)
theorem t_w326 : Cond.methodLink R_Mo 131 y_Mo_givesTugs ∈ TB := List.mem_append_left _ (List.mem_of_getElem? (i := 326) rfl)
theorem t_w327 : Cond.instanceMethod y_Mo_givesTugs ∈ TB := List.mem_append_left _ (List.mem_of_getElem? (i := 327) rfl)
theorem t_w328 : Cond.selects R_Mo y_Mo_givesTugs y_Mo_givesTugs ∈ TB := List.mem_append_left _ (List.mem_of_getElem? (i := 328) rfl)
theorem t_w329 : Cond.code y_Mo_givesTugs b_Mo_givesTugs 3 none ∈ TB := List.mem_append_left _ (List.mem_of_getElem? (i := 329) rfl)
theorem t_w330 : Cond.methodLink R_Mo 120 y_Mo_triedMany ∈ TB := List.mem_append_left _ (List.mem_of_getElem? (i := 330) rfl)
theorem t_w331 : Cond.instanceMethod y_Mo_triedMany ∈ TB := List.mem_append_left _ (List.mem_of_getElem? (i := 331) rfl)
theorem t_w332 : Cond.selects R_Mo y_Mo_triedMany y_Mo_triedMany ∈ TB := List.mem_append_left _ (List.mem_of_getElem? (i := 332) rfl)
theorem t_w333 : Cond.code y_Mo_triedMany b_Mo_triedMany 3 (some .int) ∈ TB := List.mem_append_left _ (List.mem_of_getElem? (i := 333) rfl)
theorem t_w334 : Cond.methodLink R_Mo 124 y_Mo_triedCost ∈ TB := List.mem_append_left _ (List.mem_of_getElem? (i := 334) rfl)
theorem t_w335 : Cond.instanceMethod y_Mo_triedCost ∈ TB := List.mem_append_left _ (List.mem_of_getElem? (i := 335) rfl)
theorem t_w336 : Cond.selects R_Mo y_Mo_triedCost y_Mo_triedCost ∈ TB := List.mem_append_left _ (List.mem_of_getElem? (i := 336) rfl)
theorem t_w337 : Cond.code y_Mo_triedCost b_Mo_triedCost 4 (some .int) ∈ TB := List.mem_append_left _ (List.mem_of_getElem? (i := 337) rfl)
theorem t_w338 : Cond.methodLink R_Mo 127 y_Mo_goesOn ∈ TB := List.mem_append_left _ (List.mem_of_getElem? (i := 338) rfl)
theorem t_w339 : Cond.instanceMethod y_Mo_goesOn ∈ TB := List.mem_append_left _ (List.mem_of_getElem? (i := 339) rfl)
theorem t_w340 : Cond.selects R_Mo y_Mo_goesOn y_Mo_goesOn ∈ TB := List.mem_append_left _ (List.mem_of_getElem? (i := 340) rfl)
theorem t_w341 : Cond.code y_Mo_goesOn b_Mo_goesOn 2 (some .boolean) ∈ TB := List.mem_append_left _ (List.mem_of_getElem? (i := 341) rfl)
theorem t_w342 : Cond.methodLink R_Mo 149 y_Mo_givenTo ∈ TB := List.mem_append_left _ (List.mem_of_getElem? (i := 342) rfl)
theorem t_w343 : Cond.instanceMethod y_Mo_givenTo ∈ TB := List.mem_append_left _ (List.mem_of_getElem? (i := 343) rfl)
theorem t_w344 : Cond.selects R_Mo y_Mo_givenTo y_Mo_givenTo ∈ TB := List.mem_append_left _ (List.mem_of_getElem? (i := 344) rfl)
theorem t_w345 : Cond.code y_Mo_givenTo b_Mo_givenTo 4 (some .int) ∈ TB := List.mem_append_left _ (List.mem_of_getElem? (i := 345) rfl)
theorem t_w346 : Cond.methodLink R_Mo 152 y_Mo_search ∈ TB := List.mem_append_left _ (List.mem_of_getElem? (i := 346) rfl)
theorem t_w347 : Cond.instanceMethod y_Mo_search ∈ TB := List.mem_append_left _ (List.mem_of_getElem? (i := 347) rfl)
theorem t_w348 : Cond.selects R_Mo y_Mo_search y_Mo_search ∈ TB := List.mem_append_left _ (List.mem_of_getElem? (i := 348) rfl)
theorem t_w349 : Cond.code y_Mo_search b_Mo_search 7 none ∈ TB := List.mem_append_left _ (List.mem_of_getElem? (i := 349) rfl)
theorem t_w350 : Cond.methodLink R_Mo 155 y_Mo_givenMany ∈ TB := List.mem_append_left _ (List.mem_of_getElem? (i := 350) rfl)
theorem t_w351 : Cond.instanceMethod y_Mo_givenMany ∈ TB := List.mem_append_left _ (List.mem_of_getElem? (i := 351) rfl)
theorem t_w352 : Cond.selects R_Mo y_Mo_givenMany y_Mo_givenMany ∈ TB := List.mem_append_left _ (List.mem_of_getElem? (i := 352) rfl)
theorem t_w353 : Cond.code y_Mo_givenMany b_Mo_givenMany 3 (some .int) ∈ TB := List.mem_append_left _ (List.mem_of_getElem? (i := 353) rfl)
theorem t_w354 : Cond.methodLink R_Mo 158 y_Mo_sum ∈ TB := List.mem_append_left _ (List.mem_of_getElem? (i := 354) rfl)
theorem t_w355 : Cond.instanceMethod y_Mo_sum ∈ TB := List.mem_append_left _ (List.mem_of_getElem? (i := 355) rfl)
theorem t_w356 : Cond.selects R_Mo y_Mo_sum y_Mo_sum ∈ TB := List.mem_append_left _ (List.mem_of_getElem? (i := 356) rfl)
theorem t_w357 : Cond.code y_Mo_sum b_Mo_sum 3 (some .int) ∈ TB := List.mem_append_left _ (List.mem_of_getElem? (i := 357) rfl)
theorem t_w358 : Cond.methodLink R_Mo 161 y_Mo_before ∈ TB := List.mem_append_left _ (List.mem_of_getElem? (i := 358) rfl)
theorem t_w359 : Cond.instanceMethod y_Mo_before ∈ TB := List.mem_append_left _ (List.mem_of_getElem? (i := 359) rfl)
theorem t_w360 : Cond.selects R_Mo y_Mo_before y_Mo_before ∈ TB := List.mem_append_left _ (List.mem_of_getElem? (i := 360) rfl)
theorem t_w361 : Cond.code y_Mo_before b_Mo_before 5 (some .int) ∈ TB := List.mem_append_left _ (List.mem_of_getElem? (i := 361) rfl)
theorem t_w362 : Cond.methodLink R_Mo 164 y_Mo_isJob ∈ TB := List.mem_append_left _ (List.mem_of_getElem? (i := 362) rfl)
theorem t_w363 : Cond.instanceMethod y_Mo_isJob ∈ TB := List.mem_append_left _ (List.mem_of_getElem? (i := 363) rfl)
theorem t_w364 : Cond.selects R_Mo y_Mo_isJob y_Mo_isJob ∈ TB := List.mem_append_left _ (List.mem_of_getElem? (i := 364) rfl)
theorem t_w365 : Cond.code y_Mo_isJob b_Mo_isJob 2 (some .boolean) ∈ TB := List.mem_append_left _ (List.mem_of_getElem? (i := 365) rfl)
theorem t_w366 : Cond.methodLink R_Mo 167 y_Mo_travelTo ∈ TB := List.mem_append_left _ (List.mem_of_getElem? (i := 366) rfl)
theorem t_w367 : Cond.instanceMethod y_Mo_travelTo ∈ TB := List.mem_append_left _ (List.mem_of_getElem? (i := 367) rfl)
theorem t_w368 : Cond.selects R_Mo y_Mo_travelTo y_Mo_travelTo ∈ TB := List.mem_append_left _ (List.mem_of_getElem? (i := 368) rfl)
theorem t_w369 : Cond.code y_Mo_travelTo b_Mo_travelTo 4 (some .int) ∈ TB := List.mem_append_left _ (List.mem_of_getElem? (i := 369) rfl)
theorem t_w370 : Cond.methodLink R_Mo 170 y_Mo_why ∈ TB := List.mem_append_left _ (List.mem_of_getElem? (i := 370) rfl)
theorem t_w371 : Cond.instanceMethod y_Mo_why ∈ TB := List.mem_append_left _ (List.mem_of_getElem? (i := 371) rfl)
theorem t_w372 : Cond.selects R_Mo y_Mo_why y_Mo_why ∈ TB := List.mem_append_left _ (List.mem_of_getElem? (i := 372) rfl)
theorem t_w373 : Cond.code y_Mo_why b_Mo_why 5 (some .int) ∈ TB := List.mem_append_left _ (List.mem_of_getElem? (i := 373) rfl)
theorem t_w374 : Cond.constant R_Mo 173 1000000 ∈ TB := List.mem_append_left _ (List.mem_of_getElem? (i := 374) rfl)
abbrev w_PT_isWithin : List Cond := Cond.code y_PT_isWithin b_PT_isWithin 3 (some .boolean) :: TB
def rm_PT_isWithin : Room := { frames := 0, cells := 0, slots := 0, locals := 0 }
abbrev w_PT_isLicence : List Cond := Cond.code y_PT_isLicence b_PT_isLicence 1 (some .boolean) :: TB
def rm_PT_isLicence : Room := { frames := 1, cells := 0, slots := 0, locals := 22 }
abbrev w_PT_isSpan : List Cond := Cond.code y_PT_isSpan b_PT_isSpan 2 (some .boolean) :: TB
def rm_PT_isSpan : Room := { frames := 0, cells := 0, slots := 0, locals := 0 }
abbrev w_PT_isPlace : List Cond := Cond.code y_PT_isPlace b_PT_isPlace 1 (some .boolean) :: TB
def rm_PT_isPlace : Room := { frames := 1, cells := 0, slots := 0, locals := 22 }
abbrev w_People_add : List Cond := Cond.code y_People_add b_People_add 6 (some .int) :: TB
def rm_People_add : Room := { frames := 0, cells := 0, slots := 0, locals := 0 }
abbrev w_PT_person : List Cond := Cond.code y_PT_person b_PT_person 5 (some .int) :: TB
abbrev w_Tugs_add : List Cond := Cond.code y_Tugs_add b_Tugs_add 3 (some .int) :: TB
def rm_Tugs_add : Room := { frames := 0, cells := 0, slots := 0, locals := 0 }
abbrev w_PT_tug : List Cond := Cond.code y_PT_tug b_PT_tug 2 (some .int) :: TB
abbrev w_Jobs_add : List Cond := Cond.code y_Jobs_add b_Jobs_add 7 (some .int) :: TB
def rm_Jobs_add : Room := { frames := 0, cells := 0, slots := 0, locals := 0 }
abbrev w_PT_job : List Cond := Cond.code y_PT_job b_PT_job 6 (some .int) :: TB
abbrev w_Ways_tell : List Cond := Cond.code y_Ways_tell b_Ways_tell 4 none :: TB
def rm_Ways_tell : Room := { frames := 0, cells := 0, slots := 0, locals := 0 }
abbrev w_PT_travels : List Cond := Cond.code y_PT_travels b_PT_travels 4 (some .boolean) :: TB
def rm_PT_travels : Room := { frames := 2, cells := 0, slots := 0, locals := 42 }
abbrev w_PT_rest : List Cond := Cond.code y_PT_rest b_PT_rest 2 (some .boolean) :: TB
def rm_PT_rest : Room := { frames := 1, cells := 0, slots := 0, locals := 22 }
abbrev w_PT_isPerson : List Cond := Cond.code y_PT_isPerson b_PT_isPerson 2 (some .boolean) :: TB
def rm_PT_isPerson : Room := { frames := 1, cells := 0, slots := 0, locals := 22 }
abbrev w_PT_rule : List Cond := Cond.code y_PT_rule b_PT_rule 3 (some .boolean) :: TB
def rm_PT_rule : Room := { frames := 2, cells := 0, slots := 0, locals := 43 }
abbrev w_Jobs_putInOrder : List Cond := Cond.code y_Jobs_putInOrder b_Jobs_putInOrder 3 none :: TB
def rm_Jobs_putInOrder : Room := { frames := 0, cells := 0, slots := 0, locals := 0 }
abbrev w_People_failsForOne : List Cond := Cond.code y_People_failsForOne b_People_failsForOne 3 (some .boolean) :: TB
def rm_People_failsForOne : Room := { frames := 0, cells := 0, slots := 0, locals := 0 }
abbrev w_People_askRules : List Cond := Cond.code y_People_askRules b_People_askRules 4 (some .int) :: TB
def rm_People_askRules : Room := { frames := 1, cells := 0, slots := 0, locals := 22 }
abbrev w_Planner_digitShift : List Cond := Cond.code y_Planner_digitShift b_Planner_digitShift 1 (some .int) :: TB
def rm_Planner_digitShift : Room := { frames := 0, cells := 0, slots := 0, locals := 0 }
abbrev w_Planner_digits : List Cond := Cond.code y_Planner_digits b_Planner_digits 6 (some .long) :: TB
def rm_Planner_digits : Room := { frames := 1, cells := 0, slots := 0, locals := 20 }
abbrev w_Planner_giveToNobody : List Cond := Cond.code y_Planner_giveToNobody b_Planner_giveToNobody 6 none :: TB
def rm_Planner_giveToNobody : Room := { frames := 2, cells := 0, slots := 0, locals := 45 }
abbrev w_Plan_isBarred : List Cond := Cond.code y_Plan_isBarred b_Plan_isBarred 2 (some .boolean) :: TB
def rm_Plan_isBarred : Room := { frames := 0, cells := 0, slots := 0, locals := 0 }
abbrev w_Ways_between : List Cond := Cond.code y_Ways_between b_Ways_between 3 (some .int) :: TB
def rm_Ways_between : Room := { frames := 0, cells := 0, slots := 0, locals := 0 }
abbrev w_People_isFit : List Cond := Cond.code y_People_isFit b_People_isFit 4 (some .boolean) :: TB
def rm_People_isFit : Room := { frames := 0, cells := 0, slots := 0, locals := 0 }
abbrev w_Planner_travelOf : List Cond := Cond.code y_Planner_travelOf b_Planner_travelOf 12 (some .int) :: TB
def rm_Planner_travelOf : Room := { frames := 1, cells := 0, slots := 0, locals := 23 }
abbrev w_Planner_costOwn : List Cond := Cond.code y_Planner_costOwn b_Planner_costOwn 8 none :: TB
def rm_Planner_costOwn : Room := { frames := 2, cells := 0, slots := 0, locals := 54 }
abbrev w_Planner_joinOwn : List Cond := Cond.code y_Planner_joinOwn b_Planner_joinOwn 6 none :: TB
def rm_Planner_joinOwn : Room := { frames := 1, cells := 0, slots := 0, locals := 23 }
abbrev w_Planner_divide : List Cond := Cond.code y_Planner_divide b_Planner_divide 10 none :: TB
def rm_Planner_divide : Room := { frames := 3, cells := 0, slots := 0, locals := 81 }
abbrev w_Plan_walkOf : List Cond := Cond.code y_Plan_walkOf b_Plan_walkOf 8 none :: TB
def rm_Plan_walkOf : Room := { frames := 1, cells := 0, slots := 0, locals := 22 }
abbrev w_Plan_walk : List Cond := Cond.code y_Plan_walk b_Plan_walk 5 none :: TB
def rm_Plan_walk : Room := { frames := 2, cells := 0, slots := 0, locals := 49 }
abbrev w_Jobs_overlap : List Cond := Cond.code y_Jobs_overlap b_Jobs_overlap 3 (some .boolean) :: TB
def rm_Jobs_overlap : Room := { frames := 0, cells := 0, slots := 0, locals := 0 }
abbrev w_Tugs_freeFor : List Cond := Cond.code y_Tugs_freeFor b_Tugs_freeFor 6 (some .int) :: TB
def rm_Tugs_freeFor : Room := { frames := 1, cells := 0, slots := 0, locals := 22 }
abbrev w_Tugs_pullOf : List Cond := Cond.code y_Tugs_pullOf b_Tugs_pullOf 4 (some .int) :: TB
def rm_Tugs_pullOf : Room := { frames := 0, cells := 0, slots := 0, locals := 0 }
abbrev w_Tugs_isBetter : List Cond := Cond.code y_Tugs_isBetter b_Tugs_isBetter 6 (some .boolean) :: TB
def rm_Tugs_isBetter : Room := { frames := 1, cells := 0, slots := 0, locals := 23 }
abbrev w_Tugs_choose : List Cond := Cond.code y_Tugs_choose b_Tugs_choose 5 (some .int) :: TB
def rm_Tugs_choose : Room := { frames := 2, cells := 0, slots := 0, locals := 48 }
abbrev w_Tugs_serve : List Cond := Cond.code y_Tugs_serve b_Tugs_serve 6 none :: TB
def rm_Tugs_serve : Room := { frames := 3, cells := 0, slots := 0, locals := 72 }
abbrev w_PT_makePlan : List Cond := Cond.code y_PT_makePlan b_PT_makePlan 1 none :: TB
def rm_PT_makePlan : Room := { frames := 4, cells := 0, slots := 0, locals := 110 }
abbrev w_PT_assign : List Cond := Cond.code y_PT_assign b_PT_assign 1 (some .int) :: TB
def rm_PT_assign : Room := { frames := 5, cells := 0, slots := 0, locals := 130 }
abbrev w_PT_isJob : List Cond := Cond.code y_PT_isJob b_PT_isJob 2 (some .boolean) :: TB
def rm_PT_isJob : Room := { frames := 1, cells := 0, slots := 0, locals := 22 }
abbrev w_PT_whyNobody : List Cond := Cond.code y_PT_whyNobody b_PT_whyNobody 4 (some .int) :: TB
def rm_PT_whyNobody : Room := { frames := 2, cells := 0, slots := 0, locals := 54 }
abbrev w_PT_of : List Cond := Cond.code y_PT_of b_PT_of 3 (some .int) :: TB
abbrev w_Jobs_minutesOf : List Cond := Cond.code y_Jobs_minutesOf b_Jobs_minutesOf 2 (some .int) :: TB
def rm_Jobs_minutesOf : Room := { frames := 0, cells := 0, slots := 0, locals := 0 }
abbrev w_Plan_keepDoers : List Cond := Cond.code y_Plan_keepDoers b_Plan_keepDoers 1 none :: TB
def rm_Plan_keepDoers : Room := { frames := 1, cells := 0, slots := 0, locals := 60 }
abbrev w_Jobs_move : List Cond := Cond.code y_Jobs_move b_Jobs_move 3 none :: TB
def rm_Jobs_move : Room := { frames := 1, cells := 0, slots := 0, locals := 21 }
abbrev w_Plan_otherDoers : List Cond := Cond.code y_Plan_otherDoers b_Plan_otherDoers 4 (some .int) :: TB
def rm_Plan_otherDoers : Room := { frames := 0, cells := 0, slots := 0, locals := 0 }
abbrev w_PT_late : List Cond := Cond.code y_PT_late b_PT_late 3 (some .int) :: TB
abbrev w_PT_day : List Cond := Cond.code y_PT_day b_PT_day 6 (some .int) :: TB
abbrev w_PT_waits : List Cond := Cond.code y_PT_waits b_PT_waits 6 (some .int) :: TB
abbrev w_PT_share : List Cond := Cond.code y_PT_share b_PT_share 3 (some .int) :: TB
abbrev w_PT_count : List Cond := Cond.code y_PT_count b_PT_count 3 (some .int) :: TB
def rm_PT_count : Room := { frames := 2, cells := 0, slots := 0, locals := 43 }
abbrev w_Mo_thrown : List Cond := Cond.code y_Mo_thrown b_Mo_thrown 1 (some .int) :: TB
def rm_Mo_thrown : Room := { frames := 0, cells := 0, slots := 0, locals := 0 }
abbrev w_Mo_refuse : List Cond := Cond.code y_Mo_refuse b_Mo_refuse 2 (some .int) :: TB
def rm_Mo_refuse : Room := { frames := 0, cells := 0, slots := 0, locals := 0 }
abbrev w_Mo_in : List Cond := Cond.code y_Mo_in b_Mo_in 3 (some .boolean) :: TB
def rm_Mo_in : Room := { frames := 0, cells := 0, slots := 0, locals := 0 }
abbrev w_Mo_isPlace : List Cond := Cond.code y_Mo_isPlace b_Mo_isPlace 1 (some .boolean) :: TB
def rm_Mo_isPlace : Room := { frames := 0, cells := 0, slots := 0, locals := 0 }
abbrev w_Mo_isPerson : List Cond := Cond.code y_Mo_isPerson b_Mo_isPerson 2 (some .boolean) :: TB
def rm_Mo_isPerson : Room := { frames := 0, cells := 0, slots := 0, locals := 0 }
abbrev w_Mo_isJob : List Cond := Cond.code y_Mo_isJob b_Mo_isJob 2 (some .boolean) :: TB
def rm_Mo_isJob : Room := { frames := 0, cells := 0, slots := 0, locals := 0 }
abbrev w_Mo_isSpan : List Cond := Cond.code y_Mo_isSpan b_Mo_isSpan 2 (some .boolean) :: TB
def rm_Mo_isSpan : Room := { frames := 0, cells := 0, slots := 0, locals := 0 }
abbrev w_Mo_person : List Cond := Cond.code y_Mo_person b_Mo_person 5 (some .int) :: TB
def rm_Mo_person : Room := { frames := 1, cells := 0, slots := 0, locals := 22 }
abbrev w_Mo_tug : List Cond := Cond.code y_Mo_tug b_Mo_tug 2 (some .int) :: TB
def rm_Mo_tug : Room := { frames := 1, cells := 0, slots := 0, locals := 22 }
abbrev w_Mo_job : List Cond := Cond.code y_Mo_job b_Mo_job 6 (some .int) :: TB
def rm_Mo_job : Room := { frames := 1, cells := 0, slots := 0, locals := 22 }
abbrev w_Mo_travels : List Cond := Cond.code y_Mo_travels b_Mo_travels 4 (some .boolean) :: TB
def rm_Mo_travels : Room := { frames := 1, cells := 0, slots := 0, locals := 22 }
abbrev w_Mo_rest : List Cond := Cond.code y_Mo_rest b_Mo_rest 2 (some .boolean) :: TB
def rm_Mo_rest : Room := { frames := 1, cells := 0, slots := 0, locals := 22 }
abbrev w_Mo_rule : List Cond := Cond.code y_Mo_rule b_Mo_rule 3 (some .boolean) :: TB
def rm_Mo_rule : Room := { frames := 1, cells := 0, slots := 0, locals := 22 }
abbrev w_Mo_next : List Cond := Cond.code y_Mo_next b_Mo_next 7 (some .int) :: TB
def rm_Mo_next : Room := { frames := 0, cells := 0, slots := 0, locals := 0 }
abbrev w_Mo_cost : List Cond := Cond.code y_Mo_cost b_Mo_cost 11 (some .int) :: TB
def rm_Mo_cost : Room := { frames := 1, cells := 0, slots := 0, locals := 26 }
abbrev w_Mo_isBarred : List Cond := Cond.code y_Mo_isBarred b_Mo_isBarred 2 (some .boolean) :: TB
def rm_Mo_isBarred : Room := { frames := 0, cells := 0, slots := 0, locals := 0 }
abbrev w_Mo_asks : List Cond := Cond.code y_Mo_asks b_Mo_asks 4 none :: TB
def rm_Mo_asks : Room := { frames := 0, cells := 0, slots := 0, locals := 0 }
abbrev w_Mo_triedOf : List Cond := Cond.code y_Mo_triedOf b_Mo_triedOf 4 (some .int) :: TB
def rm_Mo_triedOf : Room := { frames := 0, cells := 0, slots := 0, locals := 0 }
abbrev w_Mo_triedCost : List Cond := Cond.code y_Mo_triedCost b_Mo_triedCost 4 (some .int) :: TB
def rm_Mo_triedCost : Room := { frames := 1, cells := 0, slots := 0, locals := 23 }
abbrev w_Mo_triedMany : List Cond := Cond.code y_Mo_triedMany b_Mo_triedMany 3 (some .int) :: TB
def rm_Mo_triedMany : Room := { frames := 0, cells := 0, slots := 0, locals := 0 }
abbrev w_Mo_goesOn : List Cond := Cond.code y_Mo_goesOn b_Mo_goesOn 2 (some .boolean) :: TB
def rm_Mo_goesOn : Room := { frames := 0, cells := 0, slots := 0, locals := 0 }
abbrev w_Mo_busy : List Cond := Cond.code y_Mo_busy b_Mo_busy 4 (some .int) :: TB
def rm_Mo_busy : Room := { frames := 0, cells := 0, slots := 0, locals := 0 }
abbrev w_Mo_together : List Cond := Cond.code y_Mo_together b_Mo_together 4 (some .int) :: TB
def rm_Mo_together : Room := { frames := 0, cells := 0, slots := 0, locals := 0 }
abbrev w_Mo_many : List Cond := Cond.code y_Mo_many b_Mo_many 4 (some .int) :: TB
def rm_Mo_many : Room := { frames := 0, cells := 0, slots := 0, locals := 0 }
abbrev w_Mo_isAhead : List Cond := Cond.code y_Mo_isAhead b_Mo_isAhead 3 (some .boolean) :: TB
def rm_Mo_isAhead : Room := { frames := 0, cells := 0, slots := 0, locals := 0 }
abbrev w_Mo_best : List Cond := Cond.code y_Mo_best b_Mo_best 7 (some .int) :: TB
def rm_Mo_best : Room := { frames := 1, cells := 0, slots := 0, locals := 23 }
abbrev w_Mo_givesTugs : List Cond := Cond.code y_Mo_givesTugs b_Mo_givesTugs 3 none :: TB
def rm_Mo_givesTugs : Room := { frames := 2, cells := 0, slots := 0, locals := 49 }
abbrev w_Mo_search : List Cond := Cond.code y_Mo_search b_Mo_search 7 none :: TB
def rm_Mo_search : Room := { frames := 3, cells := 0, slots := 0, locals := 71 }
abbrev w_Mo_givenTo : List Cond := Cond.code y_Mo_givenTo b_Mo_givenTo 4 (some .int) :: TB
def rm_Mo_givenTo : Room := { frames := 0, cells := 0, slots := 0, locals := 0 }
abbrev w_Mo_sum : List Cond := Cond.code y_Mo_sum b_Mo_sum 3 (some .int) :: TB
def rm_Mo_sum : Room := { frames := 2, cells := 0, slots := 0, locals := 56 }
abbrev w_Mo_givenMany : List Cond := Cond.code y_Mo_givenMany b_Mo_givenMany 3 (some .int) :: TB
def rm_Mo_givenMany : Room := { frames := 0, cells := 0, slots := 0, locals := 0 }
abbrev w_Mo_assign : List Cond := Cond.code y_Mo_assign b_Mo_assign 1 (some .int) :: TB
def rm_Mo_assign : Room := { frames := 4, cells := 0, slots := 0, locals := 97 }
abbrev w_Mo_before : List Cond := Cond.code y_Mo_before b_Mo_before 5 (some .int) :: TB
def rm_Mo_before : Room := { frames := 1, cells := 0, slots := 0, locals := 26 }
abbrev w_Mo_travelTo : List Cond := Cond.code y_Mo_travelTo b_Mo_travelTo 4 (some .int) :: TB
def rm_Mo_travelTo : Room := { frames := 2, cells := 0, slots := 0, locals := 50 }
abbrev w_Mo_why : List Cond := Cond.code y_Mo_why b_Mo_why 5 (some .int) :: TB
def rm_Mo_why : Room := { frames := 2, cells := 0, slots := 0, locals := 56 }
abbrev w_Mo_of : List Cond := Cond.code y_Mo_of b_Mo_of 4 (some .int) :: TB
def rm_Mo_of : Room := { frames := 3, cells := 0, slots := 0, locals := 80 }
abbrev w_Mo_late : List Cond := Cond.code y_Mo_late b_Mo_late 7 (some .int) :: TB
def rm_Mo_late : Room := { frames := 4, cells := 0, slots := 0, locals := 97 }
abbrev w_Mo_day : List Cond := Cond.code y_Mo_day b_Mo_day 5 (some .int) :: TB
def rm_Mo_day : Room := { frames := 1, cells := 0, slots := 0, locals := 26 }
abbrev w_Mo_waits : List Cond := Cond.code y_Mo_waits b_Mo_waits 6 (some .int) :: TB
def rm_Mo_waits : Room := { frames := 1, cells := 0, slots := 0, locals := 26 }
abbrev w_Mo_share : List Cond := Cond.code y_Mo_share b_Mo_share 3 (some .int) :: TB
def rm_Mo_share : Room := { frames := 1, cells := 0, slots := 0, locals := 22 }
abbrev w_Mo_count : List Cond := Cond.code y_Mo_count b_Mo_count 2 (some .int) :: TB
def rm_Mo_count : Room := { frames := 1, cells := 0, slots := 0, locals := 22 }
abbrev w_Integer_bitCount : List Cond := Cond.code y_Integer_bitCount b_Integer_bitCount 1 (some .int) :: TB
def rm_Integer_bitCount : Room := { frames := 0, cells := 0, slots := 0, locals := 0 }
end
section
/-! A small kit over the kit: one world a system, its ints as a memory MI (cell, place), its longs as ML. -/
abbrev MI : Type := Nat → Nat → Int32
abbrev ML : Type := Nat → Nat → Int64
def st2 (σ : MI) (c i : Nat) (v : Int32) : MI := fun a => if a = c then upd (σ a) i v else σ a
def sl2 (τ : ML) (c i : Nat) (v : Int64) : ML := fun a => if a = c then vp_updL (τ a) i v else τ a
def st1 (σ : MI) (c : Nat) (f : Nat → Int32) : MI := fun a => if a = c then f else σ a
def gA (as : List Nat) (sz : Nat) : Nat → Prop := fun q => q ∈ as ∨ sz ≤ q
theorem gk_A {as : List Nat} {a b : Nat} (h : a ≤ b) : ∀ q, gA as b q → gA as a q := fun _ hq => hq.elim Or.inl (fun z => Or.inr (Nat.le_trans h z))
theorem gk_D {as : List Nat} {sz : Nat} {A : Nat → Prop} {ws : va_W} (h : va_D A ws) (e : ws.map Prod.fst = as) : va_D (gA as sz) ws := by
  refine ⟨h.1, fun k q hk => Or.inl ?_⟩
  rw [← e]
  exact List.mem_map.mpr ⟨q, List.mem_of_getElem? hk, rfl⟩
theorem gk_ne {x k : Int32} {z : Int} (h : ¬ x = k) (hk : k.toInt = z) : x.toInt ≠ z := fun e => h (Int32.toInt_inj.mp (e.trans hk.symm))
theorem gk_nz {x : Int32} (h : x = 0 ∨ x = 1) : narrow .boolean (.int x) = .int x := by
  rcases h with rfl | rfl <;> rfl
theorem gk_fz {x : Int32} (h : x = 0 ∨ x = 1) : fits .boolean (.int x) = true := by
  rcases h with rfl | rfl <;> rfl
/-- a contract's start -/
def gPc (D : va_G) (wf : MI → ML → va_W) (ty : List (ClassId × FieldType)) (av : List Value) (sz : Nat) (σ : MI) (τ : ML) : Array Value → State → Prop :=
  va_Pc av (fun U => U.heap.size = sz ∧ va_P D classes (wf σ τ) U.heap ∧ va_K D classes ty U ∧ va_D (fun _ => True) (wf σ τ))
/-- the world behind it -/
def gB (D : va_G) (wf : MI → ML → va_W) (ty : List (ClassId × FieldType)) (as : List Nat) (sz : Nat) (u : MI × ML) (t : State) : Prop :=
  va_P D classes (wf u.1 u.2) t.heap ∧ va_K D classes ty t ∧ va_D (gA as sz) (wf u.1 u.2)
def gMi (l : Launch) (D : va_G) (wf : MI → ML → va_W) (ty : List (ClassId × FieldType)) (as : List Nat) (y : MethodName) (ws : List Cond) (rm : Room) (av : List Value) (sz : Nat) (σ : MI) (τ : ML) (post : Int32 → MI → ML → Prop) : Prop :=
  Met l y ws rm (gPc D wf ty av sz σ τ) (va_Qi (fun r (u : MI × ML) => post r u.1 u.2) (gB D wf ty as sz) (gA as sz)) 0 0 (gA as sz)
def gMl (l : Launch) (D : va_G) (wf : MI → ML → va_W) (ty : List (ClassId × FieldType)) (as : List Nat) (y : MethodName) (ws : List Cond) (rm : Room) (av : List Value) (sz : Nat) (σ : MI) (τ : ML) (post : Int64 → MI → ML → Prop) : Prop :=
  Met l y ws rm (gPc D wf ty av sz σ τ) (va_Ql (fun r (u : MI × ML) => post r u.1 u.2) (gB D wf ty as sz) (gA as sz)) 0 0 (gA as sz)
def gMv (l : Launch) (D : va_G) (wf : MI → ML → va_W) (ty : List (ClassId × FieldType)) (as : List Nat) (y : MethodName) (ws : List Cond) (rm : Room) (av : List Value) (sz : Nat) (σ : MI) (τ : ML) (post : MI → ML → Prop) : Prop :=
  Met l y ws rm (gPc D wf ty av sz σ τ) (va_Qv (fun (u : MI × ML) => post u.1 u.2) (gB D wf ty as sz) (gA as sz)) 0 0 (gA as sz)
def gQi (D : va_G) (wf : MI → ML → va_W) (ty : List (ClassId × FieldType)) (as : List Nat) (below : List Frame) (av : List Value) (s : State) (post : Int32 → MI → ML → Prop) : State → Prop :=
  MQ below (va_Qi (fun r (u : MI × ML) => post r u.1 u.2) (gB D wf ty as s.heap.size) (gA as s.heap.size)) av.toArray s 0 0 (gA as s.heap.size)
def gQl (D : va_G) (wf : MI → ML → va_W) (ty : List (ClassId × FieldType)) (as : List Nat) (below : List Frame) (av : List Value) (s : State) (post : Int64 → MI → ML → Prop) : State → Prop :=
  MQ below (va_Ql (fun r (u : MI × ML) => post r u.1 u.2) (gB D wf ty as s.heap.size) (gA as s.heap.size)) av.toArray s 0 0 (gA as s.heap.size)
def gQv (D : va_G) (wf : MI → ML → va_W) (ty : List (ClassId × FieldType)) (as : List Nat) (below : List Frame) (av : List Value) (s : State) (post : MI → ML → Prop) : State → Prop :=
  MQ below (va_Qv (fun (u : MI × ML) => post u.1 u.2) (gB D wf ty as s.heap.size) (gA as s.heap.size)) av.toArray s 0 0 (gA as s.heap.size)
theorem gk_blind {D : va_G} {wf : MI → ML → va_W} {ty : List (ClassId × FieldType)} {av : List Value} {sz : Nat} {σ : MI} {τ : ML} : FrameBlind (gPc D wf ty av sz σ τ) := fun a U g mk q => by
  obtain ⟨q0, q1, qP, qK, qD⟩ := q
  exact ⟨q0, q1, qP, va_K.moved (u := U) (U := U.calling g mk a) (Vm.Alike.refl U.vm) qK, qD⟩
theorem gk_good {ws : List Cond} {w0 : Cond} (hc : w0 ∈ TB) (hw : ws = w0 :: TB) : GoodIn TB ws := by
  intro w h
  rw [hw] at h
  rcases List.mem_cons.mp h with rfl | h
  · exact ⟨hc, TB_good _ hc⟩
  · exact ⟨h, TB_good _ h⟩
section GK
variable {p : Program} {l : Launch} {e : Env} {R : Room} {s : State} {m : MethodId} {args : Array Value} {below : List Frame} {meth : Method} {c : Code} {H : Heap} {locs : List Loc} {cells slots : Nat} {Q : State → Prop}
variable {D : va_G} {wf : MI → ML → va_W} {ty : List (ClassId × FieldType)} {as : List Nat} {y : MethodName} {ws : List Cond} {rm : Room} {av : List Value} {sz : Nat} {σ : MI} {τ : ML}
variable {cc bytes : ByteArray} {maxL nL index n pc : Nat} {ret : Option FieldType} {own C : String} {b : Addr} {As rest st0 : List Value} {ls : Array Slot}
theorem gk_cwV (n : Nat) (ht : ∀ w ∈ TB, w.before args s = true) (hc : Cond.code y bytes maxL ret ∈ TB) (hw : ws = Cond.code y bytes maxL ret :: TB) (hrc : rm.cells = 0) (hrs : rm.slots = 0) (hl : (Cond.methodLink own index y).before args s = true) (hin : (Cond.instanceMethod y).before args s = true) (hse : (Cond.selects C y y).before args s = true) (hini : (Cond.initialized C).before args s = true)
    (hd : y.cls = C ∧ y.cls ≠ "java/lang/invoke/MethodHandle" ∧ y.cls ≠ "java/lang/invoke/VarHandle" ∧ (parseMethodDescriptor y.desc).map (fun d => d.parameters.length) = some n) (hR : rm.frames + 1 ≤ R.frames ∧ 8 + (maxL + 11) + rm.locals ≤ R.locals) : CallW R s args own C index y bytes maxL ret ws rm 0 0 n :=
  ⟨callB_of n ht (gk_good hc hw) hw hrc hrs (by rw [hd.1]; exact hini) hl ⟨hd.2.1, hd.2.2.1, hd.2.2.2⟩ hR, hin, hse⟩
theorem gk_cwS (n : Nat) (ht : ∀ w ∈ TB, w.before args s = true) (hc : Cond.code y bytes maxL ret ∈ TB) (hw : ws = Cond.code y bytes maxL ret :: TB) (hrc : rm.cells = 0) (hrs : rm.slots = 0) (hl : (Cond.methodLink own index y).before args s = true) (hst : (Cond.static y).before args s = true) (hini : (Cond.initialized C).before args s = true)
    (hd : y.cls = C ∧ y.cls ≠ "java/lang/invoke/MethodHandle" ∧ y.cls ≠ "java/lang/invoke/VarHandle" ∧ (parseMethodDescriptor y.desc).map (fun d => d.parameters.length) = some n) (hR : rm.frames + 1 ≤ R.frames ∧ 8 + (maxL + 11) + rm.locals ≤ R.locals) : CallB R s args own index y bytes maxL ret ws rm 0 0 n ∧ (Cond.static y).before args s = true :=
  ⟨callB_of n ht (gk_good hc hw) hw hrc hrs (by rw [hd.1]; exact hini) hl ⟨hd.2.1, hd.2.2.1, hd.2.2.2⟩ hR, hst⟩
theorem gk_preV (hK : va_K D classes ty s) (hP : va_P D classes (wf σ τ) H) (hD : va_D (gA as s.heap.size) (wf σ τ)) (hrecv : ∃ cellB : Cell, H[b]? = some cellB ∧ cellB.vm.isStatics = false ∧ s.vm.findClass C = some cellB.cls) : PreV s H C b (gPc D wf ty (.ref b :: As) H.size σ τ) As :=
  ⟨gk_blind, hrecv, fun U hU hW => ⟨rfl, by rw [hU], by rw [hU]; exact hP, va_K.moved hW.alike hK, hD.weaken (fun _ _ _ _ => trivial)⟩⟩
theorem gk_preS (hK : va_K D classes ty s) (hP : va_P D classes (wf σ τ) H) (hD : va_D (gA as s.heap.size) (wf σ τ)) : PreS s H (gPc D wf ty As H.size σ τ) As :=
  ⟨gk_blind, fun U hU hW => ⟨rfl, by rw [hU], by rw [hU]; exact hP, va_K.moved hW.alike hK, hD.weaken (fun _ _ _ _ => trivial)⟩⟩
theorem gk_callVi {post : Int32 → MI → ML → Prop} (S : CallFix p m c cc nL s args TB own) (hM : gMi l D wf ty as y ws rm (.ref b :: As) H.size σ τ post) (cw : CallW R s args own C index y bytes maxL ret ws rm 0 0 n) (hK : va_K D classes ty s) (hP : va_P D classes (wf σ τ) H) (hD : va_D (gA as s.heap.size) (wf σ τ)) (hS : va_S (gA as s.heap.size) s.heap H locs)
    (hrecv : ∃ cellB : Cell, H[b]? = some cellB ∧ cellB.vm.isStatics = false ∧ s.vm.findClass C = some cellB.cls) (hn : As.length = n) (hsize : ls.size = nL) (hstack : st0 = As.reverse ++ .ref b :: rest) (hW : 2 * (F0 m pc ls st0).monitorRoom + (rest.map fun v => v.category).sum ≤ 8) (hdg : decode cc pc = .ok (.invokevirtual index, 3)) (hcs : cells ≤ R.cells ∧ slots ≤ R.slots)
    (kk : ∀ (r : Int32) (σ1 : MI) (τ1 : ML) (H1 : Heap) (locs1 : List Loc), post r σ1 τ1 → va_P D classes (wf σ1 τ1) H1 → va_D (gA as s.heap.size) (wf σ1 τ1) → va_S (gA as s.heap.size) s.heap H1 locs1 → W p l e R s m args below meth c H1 locs1 cells slots Q (F0 m (pc + 3) ls (.int r :: rest))) : W p l e R s m args below meth c H locs cells slots Q (F0 m pc ls st0) := by
  refine va_calli (va_runV (As := As) (rest := rest) S hM cw (gk_preV hK hP hD hrecv) rfl hn hsize hstack hW hdg hcs) hS (fun q _ h => gk_A hS.1 q h) (gk_A hS.1) (fun r u t H1 locs1 ht hvm hw hB hz1 hk1 hS1 => ?_)
  obtain ⟨σ1, τ1⟩ := u
  obtain ⟨hP1, hK1, hD1⟩ := hB
  rw [ht] at hP1
  exact kk r σ1 τ1 H1 locs1 hw hP1 (hD1.weaken (fun _ _ _ h => gk_A hS.1 _ h)) hS1
theorem gk_callSi {post : Int32 → MI → ML → Prop} (S : CallFix p m c cc nL s args TB own) (hM : gMi l D wf ty as y ws rm As H.size σ τ post) (cw : CallB R s args own index y bytes maxL ret ws rm 0 0 n ∧ (Cond.static y).before args s = true) (hK : va_K D classes ty s) (hP : va_P D classes (wf σ τ) H) (hD : va_D (gA as s.heap.size) (wf σ τ)) (hS : va_S (gA as s.heap.size) s.heap H locs)
    (hn : As.length = n) (hsize : ls.size = nL) (hstack : st0 = As.reverse ++ rest) (hW : 2 * (F0 m pc ls st0).monitorRoom + (rest.map fun v => v.category).sum ≤ 8) (hdg : decode cc pc = .ok (.invokestatic index, 3)) (hcs : cells ≤ R.cells ∧ slots ≤ R.slots)
    (kk : ∀ (r : Int32) (σ1 : MI) (τ1 : ML) (H1 : Heap) (locs1 : List Loc), post r σ1 τ1 → va_P D classes (wf σ1 τ1) H1 → va_D (gA as s.heap.size) (wf σ1 τ1) → va_S (gA as s.heap.size) s.heap H1 locs1 → W p l e R s m args below meth c H1 locs1 cells slots Q (F0 m (pc + 3) ls (.int r :: rest))) : W p l e R s m args below meth c H locs cells slots Q (F0 m pc ls st0) := by
  refine va_calli (va_runS (As := As) (rest := rest) S hM cw (gk_preS hK hP hD) rfl hn hsize hstack hW hdg hcs) hS (fun q _ h => gk_A hS.1 q h) (gk_A hS.1) (fun r u t H1 locs1 ht hvm hw hB hz1 hk1 hS1 => ?_)
  obtain ⟨σ1, τ1⟩ := u
  obtain ⟨hP1, hK1, hD1⟩ := hB
  rw [ht] at hP1
  exact kk r σ1 τ1 H1 locs1 hw hP1 (hD1.weaken (fun _ _ _ h => gk_A hS.1 _ h)) hS1
theorem gk_ofWi {post : Int32 → MI → ML → Prop} (hy : plainName y.cls = true) (hw : ws = Cond.code y cc maxL ret :: TB) (has : ∀ (σ : MI) (τ : ML), (wf σ τ).map Prod.fst = as) (hlen : (lg_sl av).length ≤ maxL)
    (body : ∀ (p : Program) (e : Env) (s : State) (m : MethodId) (below : List Frame) (meth : Method) (c : Code) (ls : Array Slot), p.tables.exec = Jvm.exec → c.code = cc → meth.sig.returnType = ret → meth.locks = false → c.maxLocals = maxL → s.vm.findClass y.cls = some m.cls → (∀ w ∈ TB, w.before av.toArray s = true) → va_K D classes ty s → va_P D classes (wf σ τ) s.heap → va_D (gA as s.heap.size) (wf σ τ) → va_S (gA as s.heap.size) s.heap s.heap [] → lv_has ls maxL (lv_args 0 av) →
      W p l e rm s m av.toArray below meth c s.heap [] 0 0 (gQi D wf ty as below av s post) (F0 m 0 ls [])) : gMi l D wf ty as y ws rm av sz σ τ post := by
  refine Met.ofW (cc := cc) (maxL := maxL) (ret := ret) hy hw ?_
  intro p e s m args below meth c s₁ B hml hv
  obtain ⟨rfl, hsz, hP, hK, hD0⟩ := hv
  subst hsz
  have hts0 := atoms_spec (ws := ws) B.pre
  have hl := lv_entry av (n := maxL) hlen
  rw [lg_entry_eq]
  exact body p e s m below meth c _ B.exec B.bytes B.returns B.notSynchronized hml (findClass_of_methodNamed B.named) (fun w hw' => hts0 w (by rw [hw]; exact List.mem_cons_of_mem _ hw')) hK hP (gk_D hD0 (has σ τ)) va_S.rf hl
theorem gk_callVl {post : Int64 → MI → ML → Prop} (S : CallFix p m c cc nL s args TB own) (hM : gMl l D wf ty as y ws rm (.ref b :: As) H.size σ τ post) (cw : CallW R s args own C index y bytes maxL ret ws rm 0 0 n) (hK : va_K D classes ty s) (hP : va_P D classes (wf σ τ) H) (hD : va_D (gA as s.heap.size) (wf σ τ)) (hS : va_S (gA as s.heap.size) s.heap H locs)
    (hrecv : ∃ cellB : Cell, H[b]? = some cellB ∧ cellB.vm.isStatics = false ∧ s.vm.findClass C = some cellB.cls) (hn : As.length = n) (hsize : ls.size = nL) (hstack : st0 = As.reverse ++ .ref b :: rest) (hW : 2 * (F0 m pc ls st0).monitorRoom + (rest.map fun v => v.category).sum ≤ 8) (hdg : decode cc pc = .ok (.invokevirtual index, 3)) (hcs : cells ≤ R.cells ∧ slots ≤ R.slots)
    (kk : ∀ (r : Int64) (σ1 : MI) (τ1 : ML) (H1 : Heap) (locs1 : List Loc), post r σ1 τ1 → va_P D classes (wf σ1 τ1) H1 → va_D (gA as s.heap.size) (wf σ1 τ1) → va_S (gA as s.heap.size) s.heap H1 locs1 → W p l e R s m args below meth c H1 locs1 cells slots Q (F0 m (pc + 3) ls (.long r :: rest))) : W p l e R s m args below meth c H locs cells slots Q (F0 m pc ls st0) := by
  refine va_calll (va_runV (As := As) (rest := rest) S hM cw (gk_preV hK hP hD hrecv) rfl hn hsize hstack hW hdg hcs) hS (fun q _ h => gk_A hS.1 q h) (gk_A hS.1) (fun r u t H1 locs1 ht hvm hw hB hz1 hk1 hS1 => ?_)
  obtain ⟨σ1, τ1⟩ := u
  obtain ⟨hP1, hK1, hD1⟩ := hB
  rw [ht] at hP1
  exact kk r σ1 τ1 H1 locs1 hw hP1 (hD1.weaken (fun _ _ _ h => gk_A hS.1 _ h)) hS1
theorem gk_callSl {post : Int64 → MI → ML → Prop} (S : CallFix p m c cc nL s args TB own) (hM : gMl l D wf ty as y ws rm As H.size σ τ post) (cw : CallB R s args own index y bytes maxL ret ws rm 0 0 n ∧ (Cond.static y).before args s = true) (hK : va_K D classes ty s) (hP : va_P D classes (wf σ τ) H) (hD : va_D (gA as s.heap.size) (wf σ τ)) (hS : va_S (gA as s.heap.size) s.heap H locs)
    (hn : As.length = n) (hsize : ls.size = nL) (hstack : st0 = As.reverse ++ rest) (hW : 2 * (F0 m pc ls st0).monitorRoom + (rest.map fun v => v.category).sum ≤ 8) (hdg : decode cc pc = .ok (.invokestatic index, 3)) (hcs : cells ≤ R.cells ∧ slots ≤ R.slots)
    (kk : ∀ (r : Int64) (σ1 : MI) (τ1 : ML) (H1 : Heap) (locs1 : List Loc), post r σ1 τ1 → va_P D classes (wf σ1 τ1) H1 → va_D (gA as s.heap.size) (wf σ1 τ1) → va_S (gA as s.heap.size) s.heap H1 locs1 → W p l e R s m args below meth c H1 locs1 cells slots Q (F0 m (pc + 3) ls (.long r :: rest))) : W p l e R s m args below meth c H locs cells slots Q (F0 m pc ls st0) := by
  refine va_calll (va_runS (As := As) (rest := rest) S hM cw (gk_preS hK hP hD) rfl hn hsize hstack hW hdg hcs) hS (fun q _ h => gk_A hS.1 q h) (gk_A hS.1) (fun r u t H1 locs1 ht hvm hw hB hz1 hk1 hS1 => ?_)
  obtain ⟨σ1, τ1⟩ := u
  obtain ⟨hP1, hK1, hD1⟩ := hB
  rw [ht] at hP1
  exact kk r σ1 τ1 H1 locs1 hw hP1 (hD1.weaken (fun _ _ _ h => gk_A hS.1 _ h)) hS1
theorem gk_ofWl {post : Int64 → MI → ML → Prop} (hy : plainName y.cls = true) (hw : ws = Cond.code y cc maxL ret :: TB) (has : ∀ (σ : MI) (τ : ML), (wf σ τ).map Prod.fst = as) (hlen : (lg_sl av).length ≤ maxL)
    (body : ∀ (p : Program) (e : Env) (s : State) (m : MethodId) (below : List Frame) (meth : Method) (c : Code) (ls : Array Slot), p.tables.exec = Jvm.exec → c.code = cc → meth.sig.returnType = ret → meth.locks = false → c.maxLocals = maxL → s.vm.findClass y.cls = some m.cls → (∀ w ∈ TB, w.before av.toArray s = true) → va_K D classes ty s → va_P D classes (wf σ τ) s.heap → va_D (gA as s.heap.size) (wf σ τ) → va_S (gA as s.heap.size) s.heap s.heap [] → lv_has ls maxL (lv_args 0 av) →
      W p l e rm s m av.toArray below meth c s.heap [] 0 0 (gQl D wf ty as below av s post) (F0 m 0 ls [])) : gMl l D wf ty as y ws rm av sz σ τ post := by
  refine Met.ofW (cc := cc) (maxL := maxL) (ret := ret) hy hw ?_
  intro p e s m args below meth c s₁ B hml hv
  obtain ⟨rfl, hsz, hP, hK, hD0⟩ := hv
  subst hsz
  have hts0 := atoms_spec (ws := ws) B.pre
  have hl := lv_entry av (n := maxL) hlen
  rw [lg_entry_eq]
  exact body p e s m below meth c _ B.exec B.bytes B.returns B.notSynchronized hml (findClass_of_methodNamed B.named) (fun w hw' => hts0 w (by rw [hw]; exact List.mem_cons_of_mem _ hw')) hK hP (gk_D hD0 (has σ τ)) va_S.rf hl
theorem gk_callVv {post : MI → ML → Prop} (S : CallFix p m c cc nL s args TB own) (hM : gMv l D wf ty as y ws rm (.ref b :: As) H.size σ τ post) (cw : CallW R s args own C index y bytes maxL ret ws rm 0 0 n) (hK : va_K D classes ty s) (hP : va_P D classes (wf σ τ) H) (hD : va_D (gA as s.heap.size) (wf σ τ)) (hS : va_S (gA as s.heap.size) s.heap H locs)
    (hrecv : ∃ cellB : Cell, H[b]? = some cellB ∧ cellB.vm.isStatics = false ∧ s.vm.findClass C = some cellB.cls) (hn : As.length = n) (hsize : ls.size = nL) (hstack : st0 = As.reverse ++ .ref b :: rest) (hW : 2 * (F0 m pc ls st0).monitorRoom + (rest.map fun v => v.category).sum ≤ 8) (hdg : decode cc pc = .ok (.invokevirtual index, 3)) (hcs : cells ≤ R.cells ∧ slots ≤ R.slots)
    (kk : ∀ (σ1 : MI) (τ1 : ML) (H1 : Heap) (locs1 : List Loc), post σ1 τ1 → va_P D classes (wf σ1 τ1) H1 → va_D (gA as s.heap.size) (wf σ1 τ1) → va_S (gA as s.heap.size) s.heap H1 locs1 → W p l e R s m args below meth c H1 locs1 cells slots Q (F0 m (pc + 3) ls (rest))) : W p l e R s m args below meth c H locs cells slots Q (F0 m pc ls st0) := by
  refine va_callv (va_runV (As := As) (rest := rest) S hM cw (gk_preV hK hP hD hrecv) rfl hn hsize hstack hW hdg hcs) hS (fun q _ h => gk_A hS.1 q h) (gk_A hS.1) (fun u t H1 locs1 ht hvm hw hB hz1 hk1 hS1 => ?_)
  obtain ⟨σ1, τ1⟩ := u
  obtain ⟨hP1, hK1, hD1⟩ := hB
  rw [ht] at hP1
  exact kk σ1 τ1 H1 locs1 hw hP1 (hD1.weaken (fun _ _ _ h => gk_A hS.1 _ h)) hS1
theorem gk_callSv {post : MI → ML → Prop} (S : CallFix p m c cc nL s args TB own) (hM : gMv l D wf ty as y ws rm As H.size σ τ post) (cw : CallB R s args own index y bytes maxL ret ws rm 0 0 n ∧ (Cond.static y).before args s = true) (hK : va_K D classes ty s) (hP : va_P D classes (wf σ τ) H) (hD : va_D (gA as s.heap.size) (wf σ τ)) (hS : va_S (gA as s.heap.size) s.heap H locs)
    (hn : As.length = n) (hsize : ls.size = nL) (hstack : st0 = As.reverse ++ rest) (hW : 2 * (F0 m pc ls st0).monitorRoom + (rest.map fun v => v.category).sum ≤ 8) (hdg : decode cc pc = .ok (.invokestatic index, 3)) (hcs : cells ≤ R.cells ∧ slots ≤ R.slots)
    (kk : ∀ (σ1 : MI) (τ1 : ML) (H1 : Heap) (locs1 : List Loc), post σ1 τ1 → va_P D classes (wf σ1 τ1) H1 → va_D (gA as s.heap.size) (wf σ1 τ1) → va_S (gA as s.heap.size) s.heap H1 locs1 → W p l e R s m args below meth c H1 locs1 cells slots Q (F0 m (pc + 3) ls (rest))) : W p l e R s m args below meth c H locs cells slots Q (F0 m pc ls st0) := by
  refine va_callv (va_runS (As := As) (rest := rest) S hM cw (gk_preS hK hP hD) rfl hn hsize hstack hW hdg hcs) hS (fun q _ h => gk_A hS.1 q h) (gk_A hS.1) (fun u t H1 locs1 ht hvm hw hB hz1 hk1 hS1 => ?_)
  obtain ⟨σ1, τ1⟩ := u
  obtain ⟨hP1, hK1, hD1⟩ := hB
  rw [ht] at hP1
  exact kk σ1 τ1 H1 locs1 hw hP1 (hD1.weaken (fun _ _ _ h => gk_A hS.1 _ h)) hS1
theorem gk_ofWv {post : MI → ML → Prop} (hy : plainName y.cls = true) (hw : ws = Cond.code y cc maxL ret :: TB) (has : ∀ (σ : MI) (τ : ML), (wf σ τ).map Prod.fst = as) (hlen : (lg_sl av).length ≤ maxL)
    (body : ∀ (p : Program) (e : Env) (s : State) (m : MethodId) (below : List Frame) (meth : Method) (c : Code) (ls : Array Slot), p.tables.exec = Jvm.exec → c.code = cc → meth.sig.returnType = ret → meth.locks = false → c.maxLocals = maxL → s.vm.findClass y.cls = some m.cls → (∀ w ∈ TB, w.before av.toArray s = true) → va_K D classes ty s → va_P D classes (wf σ τ) s.heap → va_D (gA as s.heap.size) (wf σ τ) → va_S (gA as s.heap.size) s.heap s.heap [] → lv_has ls maxL (lv_args 0 av) →
      W p l e rm s m av.toArray below meth c s.heap [] 0 0 (gQv D wf ty as below av s post) (F0 m 0 ls [])) : gMv l D wf ty as y ws rm av sz σ τ post := by
  refine Met.ofW (cc := cc) (maxL := maxL) (ret := ret) hy hw ?_
  intro p e s m args below meth c s₁ B hml hv
  obtain ⟨rfl, hsz, hP, hK, hD0⟩ := hv
  subst hsz
  have hts0 := atoms_spec (ws := ws) B.pre
  have hl := lv_entry av (n := maxL) hlen
  rw [lg_entry_eq]
  exact body p e s m below meth c _ B.exec B.bytes B.returns B.notSynchronized hml (findClass_of_methodNamed B.named) (fun w hw' => hts0 w (by rw [hw]; exact List.mem_cons_of_mem _ hw')) hK hP (gk_D hD0 (has σ τ)) va_S.rf hl
theorem gk_iret {post : Int32 → MI → ML → Prop} {v : Int32} (hx : p.tables.exec = Jvm.exec) (hb : c.code = cc) (hr : meth.sig.returnType = some .int) (hlocks : meth.locks = false) (hK : va_K D classes ty s) (hP : va_P D classes (wf σ τ) H) (hD : va_D (gA as s.heap.size) (wf σ τ)) (hS : va_S (gA as s.heap.size) s.heap H locs) (hv : post v σ τ) (hdg : decode cc pc = .ok (.ireturn, 1)) : W p l e R s m av.toArray below meth c H locs 0 0 (gQi D wf ty as below av s post) (F0 m pc ls [.int v]) :=
  W.iret hx hb hr (fun t ht hW => ⟨⟨v, (σ, τ), rfl, hv, by rw [ht]; exact hP, va_K.moved hW.alike hK, hD⟩, hS.F ht⟩) hS.2.2 hdg hlocks
theorem gk_zret {post : Int32 → MI → ML → Prop} {v : Int32} (hx : p.tables.exec = Jvm.exec) (hb : c.code = cc) (hr : meth.sig.returnType = some .boolean) (hlocks : meth.locks = false) (hz : narrow .boolean (.int v) = .int v) (hK : va_K D classes ty s) (hP : va_P D classes (wf σ τ) H) (hD : va_D (gA as s.heap.size) (wf σ τ)) (hS : va_S (gA as s.heap.size) s.heap H locs) (hv : post v σ τ) (hdg : decode cc pc = .ok (.ireturn, 1)) : W p l e R s m av.toArray below meth c H locs 0 0 (gQi D wf ty as below av s post) (F0 m pc ls [.int v]) :=
  W.zret hx hb hr hz (fun t ht hW => ⟨⟨v, (σ, τ), rfl, hv, by rw [ht]; exact hP, va_K.moved hW.alike hK, hD⟩, hS.F ht⟩) hS.2.2 hdg hlocks
theorem gk_lret {post : Int64 → MI → ML → Prop} {v : Int64} (hx : p.tables.exec = Jvm.exec) (hb : c.code = cc) (hr : meth.sig.returnType = some .long) (hlocks : meth.locks = false) (hK : va_K D classes ty s) (hP : va_P D classes (wf σ τ) H) (hD : va_D (gA as s.heap.size) (wf σ τ)) (hS : va_S (gA as s.heap.size) s.heap H locs) (hv : post v σ τ) (hdg : decode cc pc = .ok (.lreturn, 1)) : W p l e R s m av.toArray below meth c H locs 0 0 (gQl D wf ty as below av s post) (F0 m pc ls [.long v]) :=
  W.lret hx hb hr (fun t ht hW => ⟨⟨v, (σ, τ), rfl, hv, by rw [ht]; exact hP, va_K.moved hW.alike hK, hD⟩, hS.F ht⟩) hS.2.2 hdg hlocks
theorem gk_vret {post : MI → ML → Prop} (hx : p.tables.exec = Jvm.exec) (hb : c.code = cc) (hr : meth.sig.returnType = none) (hlocks : meth.locks = false) (hK : va_K D classes ty s) (hP : va_P D classes (wf σ τ) H) (hD : va_D (gA as s.heap.size) (wf σ τ)) (hS : va_S (gA as s.heap.size) s.heap H locs) (hv : post σ τ) (hdg : decode cc pc = .ok (.return_, 1)) : W p l e R s m av.toArray below meth c H locs 0 0 (gQv D wf ty as below av s post) (F0 m pc ls []) :=
  W.vret hx hb hr (fun t ht hW => ⟨⟨(σ, τ), rfl, hv, by rw [ht]; exact hP, va_K.moved hW.alike hK, hD⟩, hS.F ht⟩) hS.2.2 hdg hlocks
end GK
end
section
def xw (ad : Nat → Nat) (ci cl : ClassId) (σ : MI) (τ : ML) : va_W := [(ad 0, .inr (6, [.ref (ad 1), .ref (ad 8), .ref (ad 15), .ref (ad 17), .ref (ad 19), .ref (ad 22)])),
  (ad 1, .inr (1, [.int (σ 1 0), .ref (ad 2), .ref (ad 3), .ref (ad 4), .ref (ad 5), .ref (ad 6), .ref (ad 7)])),
  (ad 2, .inl (ci, 4, .inl (σ 2))),
  (ad 3, .inl (ci, 4, .inl (σ 3))),
  (ad 4, .inl (ci, 4, .inl (σ 4))),
  (ad 5, .inl (ci, 4, .inl (σ 5))),
  (ad 6, .inl (ci, 4, .inl (σ 6))),
  (ad 7, .inl (ci, 4, .inl (σ 7))),
  (ad 8, .inr (0, [.int (σ 8 0), .ref (ad 9), .ref (ad 10), .ref (ad 11), .ref (ad 12), .ref (ad 13), .ref (ad 14)])),
  (ad 9, .inl (ci, 7, .inl (σ 9))),
  (ad 10, .inl (ci, 7, .inl (σ 10))),
  (ad 11, .inl (ci, 7, .inl (σ 11))),
  (ad 12, .inl (ci, 7, .inl (σ 12))),
  (ad 13, .inl (ci, 7, .inl (σ 13))),
  (ad 14, .inl (ci, 7, .inl (σ 14))),
  (ad 15, .inr (4, [.int (σ 15 0), .ref (ad 16)])),
  (ad 16, .inl (ci, 6, .inl (σ 16))),
  (ad 17, .inr (5, [.int (σ 17 0), .ref (ad 18)])),
  (ad 18, .inl (ci, 25, .inl (σ 18))),
  (ad 19, .inr (3, [.ref (ad 20), .ref (ad 21)])),
  (ad 20, .inl (cl, 128, .inr (.inl (τ 20)))),
  (ad 21, .inl (cl, 128, .inr (.inl (τ 21)))),
  (ad 22, .inr (2, [.int (σ 22 0), .int (σ 22 1), .int (σ 22 2), .int (σ 22 3), .ref (ad 23), .ref (ad 24), .ref (ad 25), .ref (ad 26), .ref (ad 27)])),
  (ad 23, .inl (ci, 7, .inl (σ 23))),
  (ad 24, .inl (ci, 7, .inl (σ 24))),
  (ad 25, .inl (ci, 7, .inl (σ 25))),
  (ad 26, .inl (ci, 7, .inl (σ 26))),
  (ad 27, .inl (ci, 7, .inl (σ 27))),
  (ad 28, .inl (cl, 1, .inr (.inl (τ 28)))),
  (ad 29, .inr (7, [.int (σ 29 0), .int (σ 29 1), .ref (ad 30), .ref (ad 31), .ref (ad 32), .ref (ad 33), .ref (ad 34), .ref (ad 35), .int (σ 29 8), .ref (ad 36), .int (σ 29 10), .ref (ad 37), .ref (ad 38), .ref (ad 39), .ref (ad 40), .ref (ad 41), .ref (ad 42), .int (σ 29 17), .int (σ 29 18), .ref (ad 43), .ref (ad 44), .int (σ 29 21), .ref (ad 45), .ref (ad 46)])),
  (ad 30, .inl (ci, 4, .inl (σ 30))),
  (ad 31, .inl (ci, 4, .inl (σ 31))),
  (ad 32, .inl (ci, 4, .inl (σ 32))),
  (ad 33, .inl (ci, 4, .inl (σ 33))),
  (ad 34, .inl (ci, 4, .inl (σ 34))),
  (ad 35, .inl (ci, 4, .inl (σ 35))),
  (ad 36, .inl (ci, 6, .inl (σ 36))),
  (ad 37, .inl (ci, 7, .inl (σ 37))),
  (ad 38, .inl (ci, 7, .inl (σ 38))),
  (ad 39, .inl (ci, 7, .inl (σ 39))),
  (ad 40, .inl (ci, 7, .inl (σ 40))),
  (ad 41, .inl (ci, 7, .inl (σ 41))),
  (ad 42, .inl (ci, 25, .inl (σ 42))),
  (ad 43, .inl (ci, 7, .inl (σ 43))),
  (ad 44, .inl (ci, 7, .inl (σ 44))),
  (ad 45, .inl (ci, 512, .inl (σ 45))),
  (ad 46, .inl (ci, 7, .inl (σ 46)))]
def xt (ci cl : ClassId) : List (ClassId × FieldType) := [(ci, .int), (cl, .long)]
def xa (ad : Nat → Nat) : List Nat := [ad 0, ad 1, ad 2, ad 3, ad 4, ad 5, ad 6, ad 7, ad 8, ad 9, ad 10, ad 11, ad 12, ad 13, ad 14, ad 15, ad 16, ad 17, ad 18, ad 19, ad 20, ad 21, ad 22, ad 23, ad 24, ad 25, ad 26, ad 27, ad 28, ad 29, ad 30, ad 31, ad 32, ad 33, ad 34, ad 35, ad 36, ad 37, ad 38, ad 39, ad 40, ad 41, ad 42, ad 43, ad 44, ad 45, ad 46]
theorem xa_ok {ad : Nat → Nat} {ci cl : ClassId} (σ : MI) (τ : ML) : (xw ad ci cl σ τ).map Prod.fst = xa ad := rfl
theorem xf_1_0 {ad : Nat → Nat} {ci cl : ClassId} {σ : MI} {τ : ML} {v : Int32} : (xw ad ci cl σ τ).set 1 (ad 1, .inr (1, List.set [.int (σ 1 0), .ref (ad 2), .ref (ad 3), .ref (ad 4), .ref (ad 5), .ref (ad 6), .ref (ad 7)] 0 (.int v))) = xw ad ci cl (st2 σ 1 0 v) τ := rfl
theorem xa_2 {ad : Nat → Nat} {ci cl : ClassId} {σ : MI} {τ : ML} {i : Nat} {v : Int32} : (xw ad ci cl σ τ).set 2 (ad 2, .inl (ci, 4, .inl (upd (σ 2) i v))) = xw ad ci cl (st2 σ 2 i v) τ := rfl
theorem xc_2 {ad : Nat → Nat} {ci cl : ClassId} {σ : MI} {τ : ML} {f : Nat → Int32} : (xw ad ci cl σ τ).set 2 (ad 2, .inl (ci, 4, .inl f)) = xw ad ci cl (st1 σ 2 f) τ := rfl
theorem xa_3 {ad : Nat → Nat} {ci cl : ClassId} {σ : MI} {τ : ML} {i : Nat} {v : Int32} : (xw ad ci cl σ τ).set 3 (ad 3, .inl (ci, 4, .inl (upd (σ 3) i v))) = xw ad ci cl (st2 σ 3 i v) τ := rfl
theorem xc_3 {ad : Nat → Nat} {ci cl : ClassId} {σ : MI} {τ : ML} {f : Nat → Int32} : (xw ad ci cl σ τ).set 3 (ad 3, .inl (ci, 4, .inl f)) = xw ad ci cl (st1 σ 3 f) τ := rfl
theorem xa_4 {ad : Nat → Nat} {ci cl : ClassId} {σ : MI} {τ : ML} {i : Nat} {v : Int32} : (xw ad ci cl σ τ).set 4 (ad 4, .inl (ci, 4, .inl (upd (σ 4) i v))) = xw ad ci cl (st2 σ 4 i v) τ := rfl
theorem xc_4 {ad : Nat → Nat} {ci cl : ClassId} {σ : MI} {τ : ML} {f : Nat → Int32} : (xw ad ci cl σ τ).set 4 (ad 4, .inl (ci, 4, .inl f)) = xw ad ci cl (st1 σ 4 f) τ := rfl
theorem xa_5 {ad : Nat → Nat} {ci cl : ClassId} {σ : MI} {τ : ML} {i : Nat} {v : Int32} : (xw ad ci cl σ τ).set 5 (ad 5, .inl (ci, 4, .inl (upd (σ 5) i v))) = xw ad ci cl (st2 σ 5 i v) τ := rfl
theorem xc_5 {ad : Nat → Nat} {ci cl : ClassId} {σ : MI} {τ : ML} {f : Nat → Int32} : (xw ad ci cl σ τ).set 5 (ad 5, .inl (ci, 4, .inl f)) = xw ad ci cl (st1 σ 5 f) τ := rfl
theorem xa_6 {ad : Nat → Nat} {ci cl : ClassId} {σ : MI} {τ : ML} {i : Nat} {v : Int32} : (xw ad ci cl σ τ).set 6 (ad 6, .inl (ci, 4, .inl (upd (σ 6) i v))) = xw ad ci cl (st2 σ 6 i v) τ := rfl
theorem xc_6 {ad : Nat → Nat} {ci cl : ClassId} {σ : MI} {τ : ML} {f : Nat → Int32} : (xw ad ci cl σ τ).set 6 (ad 6, .inl (ci, 4, .inl f)) = xw ad ci cl (st1 σ 6 f) τ := rfl
theorem xa_7 {ad : Nat → Nat} {ci cl : ClassId} {σ : MI} {τ : ML} {i : Nat} {v : Int32} : (xw ad ci cl σ τ).set 7 (ad 7, .inl (ci, 4, .inl (upd (σ 7) i v))) = xw ad ci cl (st2 σ 7 i v) τ := rfl
theorem xc_7 {ad : Nat → Nat} {ci cl : ClassId} {σ : MI} {τ : ML} {f : Nat → Int32} : (xw ad ci cl σ τ).set 7 (ad 7, .inl (ci, 4, .inl f)) = xw ad ci cl (st1 σ 7 f) τ := rfl
theorem xf_8_0 {ad : Nat → Nat} {ci cl : ClassId} {σ : MI} {τ : ML} {v : Int32} : (xw ad ci cl σ τ).set 8 (ad 8, .inr (0, List.set [.int (σ 8 0), .ref (ad 9), .ref (ad 10), .ref (ad 11), .ref (ad 12), .ref (ad 13), .ref (ad 14)] 0 (.int v))) = xw ad ci cl (st2 σ 8 0 v) τ := rfl
theorem xa_9 {ad : Nat → Nat} {ci cl : ClassId} {σ : MI} {τ : ML} {i : Nat} {v : Int32} : (xw ad ci cl σ τ).set 9 (ad 9, .inl (ci, 7, .inl (upd (σ 9) i v))) = xw ad ci cl (st2 σ 9 i v) τ := rfl
theorem xc_9 {ad : Nat → Nat} {ci cl : ClassId} {σ : MI} {τ : ML} {f : Nat → Int32} : (xw ad ci cl σ τ).set 9 (ad 9, .inl (ci, 7, .inl f)) = xw ad ci cl (st1 σ 9 f) τ := rfl
theorem xa_10 {ad : Nat → Nat} {ci cl : ClassId} {σ : MI} {τ : ML} {i : Nat} {v : Int32} : (xw ad ci cl σ τ).set 10 (ad 10, .inl (ci, 7, .inl (upd (σ 10) i v))) = xw ad ci cl (st2 σ 10 i v) τ := rfl
theorem xc_10 {ad : Nat → Nat} {ci cl : ClassId} {σ : MI} {τ : ML} {f : Nat → Int32} : (xw ad ci cl σ τ).set 10 (ad 10, .inl (ci, 7, .inl f)) = xw ad ci cl (st1 σ 10 f) τ := rfl
theorem xa_11 {ad : Nat → Nat} {ci cl : ClassId} {σ : MI} {τ : ML} {i : Nat} {v : Int32} : (xw ad ci cl σ τ).set 11 (ad 11, .inl (ci, 7, .inl (upd (σ 11) i v))) = xw ad ci cl (st2 σ 11 i v) τ := rfl
theorem xc_11 {ad : Nat → Nat} {ci cl : ClassId} {σ : MI} {τ : ML} {f : Nat → Int32} : (xw ad ci cl σ τ).set 11 (ad 11, .inl (ci, 7, .inl f)) = xw ad ci cl (st1 σ 11 f) τ := rfl
theorem xa_12 {ad : Nat → Nat} {ci cl : ClassId} {σ : MI} {τ : ML} {i : Nat} {v : Int32} : (xw ad ci cl σ τ).set 12 (ad 12, .inl (ci, 7, .inl (upd (σ 12) i v))) = xw ad ci cl (st2 σ 12 i v) τ := rfl
theorem xc_12 {ad : Nat → Nat} {ci cl : ClassId} {σ : MI} {τ : ML} {f : Nat → Int32} : (xw ad ci cl σ τ).set 12 (ad 12, .inl (ci, 7, .inl f)) = xw ad ci cl (st1 σ 12 f) τ := rfl
theorem xa_13 {ad : Nat → Nat} {ci cl : ClassId} {σ : MI} {τ : ML} {i : Nat} {v : Int32} : (xw ad ci cl σ τ).set 13 (ad 13, .inl (ci, 7, .inl (upd (σ 13) i v))) = xw ad ci cl (st2 σ 13 i v) τ := rfl
theorem xc_13 {ad : Nat → Nat} {ci cl : ClassId} {σ : MI} {τ : ML} {f : Nat → Int32} : (xw ad ci cl σ τ).set 13 (ad 13, .inl (ci, 7, .inl f)) = xw ad ci cl (st1 σ 13 f) τ := rfl
theorem xa_14 {ad : Nat → Nat} {ci cl : ClassId} {σ : MI} {τ : ML} {i : Nat} {v : Int32} : (xw ad ci cl σ τ).set 14 (ad 14, .inl (ci, 7, .inl (upd (σ 14) i v))) = xw ad ci cl (st2 σ 14 i v) τ := rfl
theorem xc_14 {ad : Nat → Nat} {ci cl : ClassId} {σ : MI} {τ : ML} {f : Nat → Int32} : (xw ad ci cl σ τ).set 14 (ad 14, .inl (ci, 7, .inl f)) = xw ad ci cl (st1 σ 14 f) τ := rfl
theorem xf_15_0 {ad : Nat → Nat} {ci cl : ClassId} {σ : MI} {τ : ML} {v : Int32} : (xw ad ci cl σ τ).set 15 (ad 15, .inr (4, List.set [.int (σ 15 0), .ref (ad 16)] 0 (.int v))) = xw ad ci cl (st2 σ 15 0 v) τ := rfl
theorem xa_16 {ad : Nat → Nat} {ci cl : ClassId} {σ : MI} {τ : ML} {i : Nat} {v : Int32} : (xw ad ci cl σ τ).set 16 (ad 16, .inl (ci, 6, .inl (upd (σ 16) i v))) = xw ad ci cl (st2 σ 16 i v) τ := rfl
theorem xc_16 {ad : Nat → Nat} {ci cl : ClassId} {σ : MI} {τ : ML} {f : Nat → Int32} : (xw ad ci cl σ τ).set 16 (ad 16, .inl (ci, 6, .inl f)) = xw ad ci cl (st1 σ 16 f) τ := rfl
theorem xf_17_0 {ad : Nat → Nat} {ci cl : ClassId} {σ : MI} {τ : ML} {v : Int32} : (xw ad ci cl σ τ).set 17 (ad 17, .inr (5, List.set [.int (σ 17 0), .ref (ad 18)] 0 (.int v))) = xw ad ci cl (st2 σ 17 0 v) τ := rfl
theorem xa_18 {ad : Nat → Nat} {ci cl : ClassId} {σ : MI} {τ : ML} {i : Nat} {v : Int32} : (xw ad ci cl σ τ).set 18 (ad 18, .inl (ci, 25, .inl (upd (σ 18) i v))) = xw ad ci cl (st2 σ 18 i v) τ := rfl
theorem xc_18 {ad : Nat → Nat} {ci cl : ClassId} {σ : MI} {τ : ML} {f : Nat → Int32} : (xw ad ci cl σ τ).set 18 (ad 18, .inl (ci, 25, .inl f)) = xw ad ci cl (st1 σ 18 f) τ := rfl
theorem xa_20 {ad : Nat → Nat} {ci cl : ClassId} {σ : MI} {τ : ML} {i : Nat} {v : Int64} : (xw ad ci cl σ τ).set 20 (ad 20, .inl (cl, 128, .inr (.inl (vp_updL (τ 20) i v)))) = xw ad ci cl σ (sl2 τ 20 i v) := rfl
theorem xa_21 {ad : Nat → Nat} {ci cl : ClassId} {σ : MI} {τ : ML} {i : Nat} {v : Int64} : (xw ad ci cl σ τ).set 21 (ad 21, .inl (cl, 128, .inr (.inl (vp_updL (τ 21) i v)))) = xw ad ci cl σ (sl2 τ 21 i v) := rfl
theorem xf_22_0 {ad : Nat → Nat} {ci cl : ClassId} {σ : MI} {τ : ML} {v : Int32} : (xw ad ci cl σ τ).set 22 (ad 22, .inr (2, List.set [.int (σ 22 0), .int (σ 22 1), .int (σ 22 2), .int (σ 22 3), .ref (ad 23), .ref (ad 24), .ref (ad 25), .ref (ad 26), .ref (ad 27)] 0 (.int v))) = xw ad ci cl (st2 σ 22 0 v) τ := rfl
theorem xf_22_1 {ad : Nat → Nat} {ci cl : ClassId} {σ : MI} {τ : ML} {v : Int32} : (xw ad ci cl σ τ).set 22 (ad 22, .inr (2, List.set [.int (σ 22 0), .int (σ 22 1), .int (σ 22 2), .int (σ 22 3), .ref (ad 23), .ref (ad 24), .ref (ad 25), .ref (ad 26), .ref (ad 27)] 1 (.int v))) = xw ad ci cl (st2 σ 22 1 v) τ := rfl
theorem xf_22_2 {ad : Nat → Nat} {ci cl : ClassId} {σ : MI} {τ : ML} {v : Int32} : (xw ad ci cl σ τ).set 22 (ad 22, .inr (2, List.set [.int (σ 22 0), .int (σ 22 1), .int (σ 22 2), .int (σ 22 3), .ref (ad 23), .ref (ad 24), .ref (ad 25), .ref (ad 26), .ref (ad 27)] 2 (.int v))) = xw ad ci cl (st2 σ 22 2 v) τ := rfl
theorem xf_22_3 {ad : Nat → Nat} {ci cl : ClassId} {σ : MI} {τ : ML} {v : Int32} : (xw ad ci cl σ τ).set 22 (ad 22, .inr (2, List.set [.int (σ 22 0), .int (σ 22 1), .int (σ 22 2), .int (σ 22 3), .ref (ad 23), .ref (ad 24), .ref (ad 25), .ref (ad 26), .ref (ad 27)] 3 (.int v))) = xw ad ci cl (st2 σ 22 3 v) τ := rfl
theorem xa_23 {ad : Nat → Nat} {ci cl : ClassId} {σ : MI} {τ : ML} {i : Nat} {v : Int32} : (xw ad ci cl σ τ).set 23 (ad 23, .inl (ci, 7, .inl (upd (σ 23) i v))) = xw ad ci cl (st2 σ 23 i v) τ := rfl
theorem xc_23 {ad : Nat → Nat} {ci cl : ClassId} {σ : MI} {τ : ML} {f : Nat → Int32} : (xw ad ci cl σ τ).set 23 (ad 23, .inl (ci, 7, .inl f)) = xw ad ci cl (st1 σ 23 f) τ := rfl
theorem xa_24 {ad : Nat → Nat} {ci cl : ClassId} {σ : MI} {τ : ML} {i : Nat} {v : Int32} : (xw ad ci cl σ τ).set 24 (ad 24, .inl (ci, 7, .inl (upd (σ 24) i v))) = xw ad ci cl (st2 σ 24 i v) τ := rfl
theorem xc_24 {ad : Nat → Nat} {ci cl : ClassId} {σ : MI} {τ : ML} {f : Nat → Int32} : (xw ad ci cl σ τ).set 24 (ad 24, .inl (ci, 7, .inl f)) = xw ad ci cl (st1 σ 24 f) τ := rfl
theorem xa_25 {ad : Nat → Nat} {ci cl : ClassId} {σ : MI} {τ : ML} {i : Nat} {v : Int32} : (xw ad ci cl σ τ).set 25 (ad 25, .inl (ci, 7, .inl (upd (σ 25) i v))) = xw ad ci cl (st2 σ 25 i v) τ := rfl
theorem xc_25 {ad : Nat → Nat} {ci cl : ClassId} {σ : MI} {τ : ML} {f : Nat → Int32} : (xw ad ci cl σ τ).set 25 (ad 25, .inl (ci, 7, .inl f)) = xw ad ci cl (st1 σ 25 f) τ := rfl
theorem xa_26 {ad : Nat → Nat} {ci cl : ClassId} {σ : MI} {τ : ML} {i : Nat} {v : Int32} : (xw ad ci cl σ τ).set 26 (ad 26, .inl (ci, 7, .inl (upd (σ 26) i v))) = xw ad ci cl (st2 σ 26 i v) τ := rfl
theorem xc_26 {ad : Nat → Nat} {ci cl : ClassId} {σ : MI} {τ : ML} {f : Nat → Int32} : (xw ad ci cl σ τ).set 26 (ad 26, .inl (ci, 7, .inl f)) = xw ad ci cl (st1 σ 26 f) τ := rfl
theorem xa_27 {ad : Nat → Nat} {ci cl : ClassId} {σ : MI} {τ : ML} {i : Nat} {v : Int32} : (xw ad ci cl σ τ).set 27 (ad 27, .inl (ci, 7, .inl (upd (σ 27) i v))) = xw ad ci cl (st2 σ 27 i v) τ := rfl
theorem xc_27 {ad : Nat → Nat} {ci cl : ClassId} {σ : MI} {τ : ML} {f : Nat → Int32} : (xw ad ci cl σ τ).set 27 (ad 27, .inl (ci, 7, .inl f)) = xw ad ci cl (st1 σ 27 f) τ := rfl
theorem xa_28 {ad : Nat → Nat} {ci cl : ClassId} {σ : MI} {τ : ML} {i : Nat} {v : Int64} : (xw ad ci cl σ τ).set 28 (ad 28, .inl (cl, 1, .inr (.inl (vp_updL (τ 28) i v)))) = xw ad ci cl σ (sl2 τ 28 i v) := rfl
theorem xf_29_0 {ad : Nat → Nat} {ci cl : ClassId} {σ : MI} {τ : ML} {v : Int32} : (xw ad ci cl σ τ).set 29 (ad 29, .inr (7, List.set [.int (σ 29 0), .int (σ 29 1), .ref (ad 30), .ref (ad 31), .ref (ad 32), .ref (ad 33), .ref (ad 34), .ref (ad 35), .int (σ 29 8), .ref (ad 36), .int (σ 29 10), .ref (ad 37), .ref (ad 38), .ref (ad 39), .ref (ad 40), .ref (ad 41), .ref (ad 42), .int (σ 29 17), .int (σ 29 18), .ref (ad 43), .ref (ad 44), .int (σ 29 21), .ref (ad 45), .ref (ad 46)] 0 (.int v))) = xw ad ci cl (st2 σ 29 0 v) τ := rfl
theorem xf_29_1 {ad : Nat → Nat} {ci cl : ClassId} {σ : MI} {τ : ML} {v : Int32} : (xw ad ci cl σ τ).set 29 (ad 29, .inr (7, List.set [.int (σ 29 0), .int (σ 29 1), .ref (ad 30), .ref (ad 31), .ref (ad 32), .ref (ad 33), .ref (ad 34), .ref (ad 35), .int (σ 29 8), .ref (ad 36), .int (σ 29 10), .ref (ad 37), .ref (ad 38), .ref (ad 39), .ref (ad 40), .ref (ad 41), .ref (ad 42), .int (σ 29 17), .int (σ 29 18), .ref (ad 43), .ref (ad 44), .int (σ 29 21), .ref (ad 45), .ref (ad 46)] 1 (.int v))) = xw ad ci cl (st2 σ 29 1 v) τ := rfl
theorem xf_29_8 {ad : Nat → Nat} {ci cl : ClassId} {σ : MI} {τ : ML} {v : Int32} : (xw ad ci cl σ τ).set 29 (ad 29, .inr (7, List.set [.int (σ 29 0), .int (σ 29 1), .ref (ad 30), .ref (ad 31), .ref (ad 32), .ref (ad 33), .ref (ad 34), .ref (ad 35), .int (σ 29 8), .ref (ad 36), .int (σ 29 10), .ref (ad 37), .ref (ad 38), .ref (ad 39), .ref (ad 40), .ref (ad 41), .ref (ad 42), .int (σ 29 17), .int (σ 29 18), .ref (ad 43), .ref (ad 44), .int (σ 29 21), .ref (ad 45), .ref (ad 46)] 8 (.int v))) = xw ad ci cl (st2 σ 29 8 v) τ := rfl
theorem xf_29_10 {ad : Nat → Nat} {ci cl : ClassId} {σ : MI} {τ : ML} {v : Int32} : (xw ad ci cl σ τ).set 29 (ad 29, .inr (7, List.set [.int (σ 29 0), .int (σ 29 1), .ref (ad 30), .ref (ad 31), .ref (ad 32), .ref (ad 33), .ref (ad 34), .ref (ad 35), .int (σ 29 8), .ref (ad 36), .int (σ 29 10), .ref (ad 37), .ref (ad 38), .ref (ad 39), .ref (ad 40), .ref (ad 41), .ref (ad 42), .int (σ 29 17), .int (σ 29 18), .ref (ad 43), .ref (ad 44), .int (σ 29 21), .ref (ad 45), .ref (ad 46)] 10 (.int v))) = xw ad ci cl (st2 σ 29 10 v) τ := rfl
theorem xf_29_17 {ad : Nat → Nat} {ci cl : ClassId} {σ : MI} {τ : ML} {v : Int32} : (xw ad ci cl σ τ).set 29 (ad 29, .inr (7, List.set [.int (σ 29 0), .int (σ 29 1), .ref (ad 30), .ref (ad 31), .ref (ad 32), .ref (ad 33), .ref (ad 34), .ref (ad 35), .int (σ 29 8), .ref (ad 36), .int (σ 29 10), .ref (ad 37), .ref (ad 38), .ref (ad 39), .ref (ad 40), .ref (ad 41), .ref (ad 42), .int (σ 29 17), .int (σ 29 18), .ref (ad 43), .ref (ad 44), .int (σ 29 21), .ref (ad 45), .ref (ad 46)] 17 (.int v))) = xw ad ci cl (st2 σ 29 17 v) τ := rfl
theorem xf_29_18 {ad : Nat → Nat} {ci cl : ClassId} {σ : MI} {τ : ML} {v : Int32} : (xw ad ci cl σ τ).set 29 (ad 29, .inr (7, List.set [.int (σ 29 0), .int (σ 29 1), .ref (ad 30), .ref (ad 31), .ref (ad 32), .ref (ad 33), .ref (ad 34), .ref (ad 35), .int (σ 29 8), .ref (ad 36), .int (σ 29 10), .ref (ad 37), .ref (ad 38), .ref (ad 39), .ref (ad 40), .ref (ad 41), .ref (ad 42), .int (σ 29 17), .int (σ 29 18), .ref (ad 43), .ref (ad 44), .int (σ 29 21), .ref (ad 45), .ref (ad 46)] 18 (.int v))) = xw ad ci cl (st2 σ 29 18 v) τ := rfl
theorem xf_29_21 {ad : Nat → Nat} {ci cl : ClassId} {σ : MI} {τ : ML} {v : Int32} : (xw ad ci cl σ τ).set 29 (ad 29, .inr (7, List.set [.int (σ 29 0), .int (σ 29 1), .ref (ad 30), .ref (ad 31), .ref (ad 32), .ref (ad 33), .ref (ad 34), .ref (ad 35), .int (σ 29 8), .ref (ad 36), .int (σ 29 10), .ref (ad 37), .ref (ad 38), .ref (ad 39), .ref (ad 40), .ref (ad 41), .ref (ad 42), .int (σ 29 17), .int (σ 29 18), .ref (ad 43), .ref (ad 44), .int (σ 29 21), .ref (ad 45), .ref (ad 46)] 21 (.int v))) = xw ad ci cl (st2 σ 29 21 v) τ := rfl
theorem xa_30 {ad : Nat → Nat} {ci cl : ClassId} {σ : MI} {τ : ML} {i : Nat} {v : Int32} : (xw ad ci cl σ τ).set 30 (ad 30, .inl (ci, 4, .inl (upd (σ 30) i v))) = xw ad ci cl (st2 σ 30 i v) τ := rfl
theorem xc_30 {ad : Nat → Nat} {ci cl : ClassId} {σ : MI} {τ : ML} {f : Nat → Int32} : (xw ad ci cl σ τ).set 30 (ad 30, .inl (ci, 4, .inl f)) = xw ad ci cl (st1 σ 30 f) τ := rfl
theorem xa_31 {ad : Nat → Nat} {ci cl : ClassId} {σ : MI} {τ : ML} {i : Nat} {v : Int32} : (xw ad ci cl σ τ).set 31 (ad 31, .inl (ci, 4, .inl (upd (σ 31) i v))) = xw ad ci cl (st2 σ 31 i v) τ := rfl
theorem xc_31 {ad : Nat → Nat} {ci cl : ClassId} {σ : MI} {τ : ML} {f : Nat → Int32} : (xw ad ci cl σ τ).set 31 (ad 31, .inl (ci, 4, .inl f)) = xw ad ci cl (st1 σ 31 f) τ := rfl
theorem xa_32 {ad : Nat → Nat} {ci cl : ClassId} {σ : MI} {τ : ML} {i : Nat} {v : Int32} : (xw ad ci cl σ τ).set 32 (ad 32, .inl (ci, 4, .inl (upd (σ 32) i v))) = xw ad ci cl (st2 σ 32 i v) τ := rfl
theorem xc_32 {ad : Nat → Nat} {ci cl : ClassId} {σ : MI} {τ : ML} {f : Nat → Int32} : (xw ad ci cl σ τ).set 32 (ad 32, .inl (ci, 4, .inl f)) = xw ad ci cl (st1 σ 32 f) τ := rfl
theorem xa_33 {ad : Nat → Nat} {ci cl : ClassId} {σ : MI} {τ : ML} {i : Nat} {v : Int32} : (xw ad ci cl σ τ).set 33 (ad 33, .inl (ci, 4, .inl (upd (σ 33) i v))) = xw ad ci cl (st2 σ 33 i v) τ := rfl
theorem xc_33 {ad : Nat → Nat} {ci cl : ClassId} {σ : MI} {τ : ML} {f : Nat → Int32} : (xw ad ci cl σ τ).set 33 (ad 33, .inl (ci, 4, .inl f)) = xw ad ci cl (st1 σ 33 f) τ := rfl
theorem xa_34 {ad : Nat → Nat} {ci cl : ClassId} {σ : MI} {τ : ML} {i : Nat} {v : Int32} : (xw ad ci cl σ τ).set 34 (ad 34, .inl (ci, 4, .inl (upd (σ 34) i v))) = xw ad ci cl (st2 σ 34 i v) τ := rfl
theorem xc_34 {ad : Nat → Nat} {ci cl : ClassId} {σ : MI} {τ : ML} {f : Nat → Int32} : (xw ad ci cl σ τ).set 34 (ad 34, .inl (ci, 4, .inl f)) = xw ad ci cl (st1 σ 34 f) τ := rfl
theorem xa_35 {ad : Nat → Nat} {ci cl : ClassId} {σ : MI} {τ : ML} {i : Nat} {v : Int32} : (xw ad ci cl σ τ).set 35 (ad 35, .inl (ci, 4, .inl (upd (σ 35) i v))) = xw ad ci cl (st2 σ 35 i v) τ := rfl
theorem xc_35 {ad : Nat → Nat} {ci cl : ClassId} {σ : MI} {τ : ML} {f : Nat → Int32} : (xw ad ci cl σ τ).set 35 (ad 35, .inl (ci, 4, .inl f)) = xw ad ci cl (st1 σ 35 f) τ := rfl
theorem xa_36 {ad : Nat → Nat} {ci cl : ClassId} {σ : MI} {τ : ML} {i : Nat} {v : Int32} : (xw ad ci cl σ τ).set 36 (ad 36, .inl (ci, 6, .inl (upd (σ 36) i v))) = xw ad ci cl (st2 σ 36 i v) τ := rfl
theorem xc_36 {ad : Nat → Nat} {ci cl : ClassId} {σ : MI} {τ : ML} {f : Nat → Int32} : (xw ad ci cl σ τ).set 36 (ad 36, .inl (ci, 6, .inl f)) = xw ad ci cl (st1 σ 36 f) τ := rfl
theorem xa_37 {ad : Nat → Nat} {ci cl : ClassId} {σ : MI} {τ : ML} {i : Nat} {v : Int32} : (xw ad ci cl σ τ).set 37 (ad 37, .inl (ci, 7, .inl (upd (σ 37) i v))) = xw ad ci cl (st2 σ 37 i v) τ := rfl
theorem xc_37 {ad : Nat → Nat} {ci cl : ClassId} {σ : MI} {τ : ML} {f : Nat → Int32} : (xw ad ci cl σ τ).set 37 (ad 37, .inl (ci, 7, .inl f)) = xw ad ci cl (st1 σ 37 f) τ := rfl
theorem xa_38 {ad : Nat → Nat} {ci cl : ClassId} {σ : MI} {τ : ML} {i : Nat} {v : Int32} : (xw ad ci cl σ τ).set 38 (ad 38, .inl (ci, 7, .inl (upd (σ 38) i v))) = xw ad ci cl (st2 σ 38 i v) τ := rfl
theorem xc_38 {ad : Nat → Nat} {ci cl : ClassId} {σ : MI} {τ : ML} {f : Nat → Int32} : (xw ad ci cl σ τ).set 38 (ad 38, .inl (ci, 7, .inl f)) = xw ad ci cl (st1 σ 38 f) τ := rfl
theorem xa_39 {ad : Nat → Nat} {ci cl : ClassId} {σ : MI} {τ : ML} {i : Nat} {v : Int32} : (xw ad ci cl σ τ).set 39 (ad 39, .inl (ci, 7, .inl (upd (σ 39) i v))) = xw ad ci cl (st2 σ 39 i v) τ := rfl
theorem xc_39 {ad : Nat → Nat} {ci cl : ClassId} {σ : MI} {τ : ML} {f : Nat → Int32} : (xw ad ci cl σ τ).set 39 (ad 39, .inl (ci, 7, .inl f)) = xw ad ci cl (st1 σ 39 f) τ := rfl
theorem xa_40 {ad : Nat → Nat} {ci cl : ClassId} {σ : MI} {τ : ML} {i : Nat} {v : Int32} : (xw ad ci cl σ τ).set 40 (ad 40, .inl (ci, 7, .inl (upd (σ 40) i v))) = xw ad ci cl (st2 σ 40 i v) τ := rfl
theorem xc_40 {ad : Nat → Nat} {ci cl : ClassId} {σ : MI} {τ : ML} {f : Nat → Int32} : (xw ad ci cl σ τ).set 40 (ad 40, .inl (ci, 7, .inl f)) = xw ad ci cl (st1 σ 40 f) τ := rfl
theorem xa_41 {ad : Nat → Nat} {ci cl : ClassId} {σ : MI} {τ : ML} {i : Nat} {v : Int32} : (xw ad ci cl σ τ).set 41 (ad 41, .inl (ci, 7, .inl (upd (σ 41) i v))) = xw ad ci cl (st2 σ 41 i v) τ := rfl
theorem xc_41 {ad : Nat → Nat} {ci cl : ClassId} {σ : MI} {τ : ML} {f : Nat → Int32} : (xw ad ci cl σ τ).set 41 (ad 41, .inl (ci, 7, .inl f)) = xw ad ci cl (st1 σ 41 f) τ := rfl
theorem xa_42 {ad : Nat → Nat} {ci cl : ClassId} {σ : MI} {τ : ML} {i : Nat} {v : Int32} : (xw ad ci cl σ τ).set 42 (ad 42, .inl (ci, 25, .inl (upd (σ 42) i v))) = xw ad ci cl (st2 σ 42 i v) τ := rfl
theorem xc_42 {ad : Nat → Nat} {ci cl : ClassId} {σ : MI} {τ : ML} {f : Nat → Int32} : (xw ad ci cl σ τ).set 42 (ad 42, .inl (ci, 25, .inl f)) = xw ad ci cl (st1 σ 42 f) τ := rfl
theorem xa_43 {ad : Nat → Nat} {ci cl : ClassId} {σ : MI} {τ : ML} {i : Nat} {v : Int32} : (xw ad ci cl σ τ).set 43 (ad 43, .inl (ci, 7, .inl (upd (σ 43) i v))) = xw ad ci cl (st2 σ 43 i v) τ := rfl
theorem xc_43 {ad : Nat → Nat} {ci cl : ClassId} {σ : MI} {τ : ML} {f : Nat → Int32} : (xw ad ci cl σ τ).set 43 (ad 43, .inl (ci, 7, .inl f)) = xw ad ci cl (st1 σ 43 f) τ := rfl
theorem xa_44 {ad : Nat → Nat} {ci cl : ClassId} {σ : MI} {τ : ML} {i : Nat} {v : Int32} : (xw ad ci cl σ τ).set 44 (ad 44, .inl (ci, 7, .inl (upd (σ 44) i v))) = xw ad ci cl (st2 σ 44 i v) τ := rfl
theorem xc_44 {ad : Nat → Nat} {ci cl : ClassId} {σ : MI} {τ : ML} {f : Nat → Int32} : (xw ad ci cl σ τ).set 44 (ad 44, .inl (ci, 7, .inl f)) = xw ad ci cl (st1 σ 44 f) τ := rfl
theorem xa_45 {ad : Nat → Nat} {ci cl : ClassId} {σ : MI} {τ : ML} {i : Nat} {v : Int32} : (xw ad ci cl σ τ).set 45 (ad 45, .inl (ci, 512, .inl (upd (σ 45) i v))) = xw ad ci cl (st2 σ 45 i v) τ := rfl
theorem xc_45 {ad : Nat → Nat} {ci cl : ClassId} {σ : MI} {τ : ML} {f : Nat → Int32} : (xw ad ci cl σ τ).set 45 (ad 45, .inl (ci, 512, .inl f)) = xw ad ci cl (st1 σ 45 f) τ := rfl
theorem xa_46 {ad : Nat → Nat} {ci cl : ClassId} {σ : MI} {τ : ML} {i : Nat} {v : Int32} : (xw ad ci cl σ τ).set 46 (ad 46, .inl (ci, 7, .inl (upd (σ 46) i v))) = xw ad ci cl (st2 σ 46 i v) τ := rfl
theorem xc_46 {ad : Nat → Nat} {ci cl : ClassId} {σ : MI} {τ : ML} {f : Nat → Int32} : (xw ad ci cl σ τ).set 46 (ad 46, .inl (ci, 7, .inl f)) = xw ad ci cl (st1 σ 46 f) τ := rfl
end
section
theorem d_PT_isWithin_0 : decode b_PT_isWithin 0 = .ok (.iload_n 0, 1) := by decide +kernel
theorem d_PT_isWithin_1 : decode b_PT_isWithin 1 = .ok (.iload_n 1, 1) := by decide +kernel
theorem d_PT_isWithin_2 : decode b_PT_isWithin 2 = .ok (.if_icmp .lt 12, 3) := by decide +kernel
theorem d_PT_isWithin_5 : decode b_PT_isWithin 5 = .ok (.iload_n 0, 1) := by decide +kernel
theorem d_PT_isWithin_6 : decode b_PT_isWithin 6 = .ok (.iload_n 2, 1) := by decide +kernel
theorem d_PT_isWithin_7 : decode b_PT_isWithin 7 = .ok (.if_icmp .gt 7, 3) := by decide +kernel
theorem d_PT_isWithin_10 : decode b_PT_isWithin 10 = .ok (.iconst 1, 1) := by decide +kernel
theorem d_PT_isWithin_11 : decode b_PT_isWithin 11 = .ok (.goto 4, 3) := by decide +kernel
theorem d_PT_isWithin_14 : decode b_PT_isWithin 14 = .ok (.iconst 0, 1) := by decide +kernel
theorem d_PT_isWithin_15 : decode b_PT_isWithin 15 = .ok (.ireturn, 1) := by decide +kernel
def s_PT_isWithin_5 (σ : MI) (τ : ML) (x0 : Int32) (x2 : Int32) (R : Int32 → MI → ML → Prop) : Prop :=
  (x2 < x0 →
  ((0 = 0 ∨ 0 = 1) ∧ R 0 σ τ)) ∧
  (¬ x2 < x0 →
  ((1 = 0 ∨ 1 = 1) ∧ R 1 σ τ))
def s_PT_isWithin_0 (σ : MI) (τ : ML) (a0 : Int32) (a1 : Int32) (a2 : Int32) (R : Int32 → MI → ML → Prop) : Prop :=
  (a0 < a1 →
  ((0 = 0 ∨ 0 = 1) ∧ R 0 σ τ)) ∧
  (¬ a0 < a1 →
  (s_PT_isWithin_5 σ τ a0 a2 R))
set_option maxHeartbeats 4000000 in
set_option maxRecDepth 100000 in
theorem k_PT_isWithin (l : Launch) (D : va_G) (ad : Nat → Nat) (ci cl : ClassId)
    (pre : MI → ML → Int32 → Int32 → Int32 → Prop) (post : MI → ML → Int32 → Int32 → Int32 → Int32 → MI → ML → Prop)
    (v0 : ∀ (σ0 : MI) (τ0 : ML) (a0 : Int32) (a1 : Int32) (a2 : Int32), pre σ0 τ0 a0 a1 a2 → s_PT_isWithin_0 σ0 τ0 a0 a1 a2 (post σ0 τ0 a0 a1 a2)) :
    ∀ (sz : Nat) (σ0 : MI) (τ0 : ML) (a0 : Int32) (a1 : Int32) (a2 : Int32), pre σ0 τ0 a0 a1 a2 → gMi l D (xw ad ci cl) (xt ci cl) (xa ad) y_PT_isWithin w_PT_isWithin rm_PT_isWithin [.int a0, .int a1, .int a2] sz σ0 τ0 (post σ0 τ0 a0 a1 a2) := by
  intro sz σ0 τ0 a0 a1 a2 hpre
  refine gk_ofWi (cc := b_PT_isWithin) (maxL := 3) (ret := (some .boolean)) (by decide) rfl xa_ok (Nat.le_of_ble_eq_true rfl) ?_
  intro p e s m below meth c ls hx hb hr hlocks hml hown hts hK hP hD hS hl
  have hl : lv_has ls 3 [(0, .int a0), (1, .int a1), (2, .int a2)] := hl
  have hown : s.vm.findClass R_PT = some m.cls := hown
  have hv := v0 σ0 τ0 a0 a1 a2 hpre
  unfold s_PT_isWithin_0 at hv
  have j5 : ∀ (w0 : Int32) (w2 : Int32) (σ1 : MI) (τ1 : ML) (H : Heap) (locs : List Loc) (ls : Array Slot), s_PT_isWithin_5 σ1 τ1 w0 w2 (post σ0 τ0 a0 a1 a2) → va_P D classes ((xw ad ci cl) σ1 τ1) H → va_D (gA (xa ad) s.heap.size) ((xw ad ci cl) σ1 τ1) → va_S (gA (xa ad) s.heap.size) s.heap H locs → lv_has ls 3 [(0, .int w0), (2, .int w2)] → W p l e rm_PT_isWithin s m [.int a0, .int a1, .int a2].toArray below meth c H locs 0 0 (gQi D (xw ad ci cl) (xt ci cl) (xa ad) below [.int a0, .int a1, .int a2] s (post σ0 τ0 a0 a1 a2)) (F0 m 5 ls []) := by
    intro w0 w2 σ1 τ1 H locs ls hv hP hD hS hl
    unfold s_PT_isWithin_5 at hv
    refine lv_iload_n hx hb d_PT_isWithin_5 rfl (lv_at hl 0 rfl) ?_
    refine lv_iload_n hx hb d_PT_isWithin_6 rfl (lv_at hl 1 rfl) ?_
    refine lv_icmp_gt (tgt := 14) hx hb d_PT_isWithin_7 (by decide) (fun hc => ?_) (fun hc => ?_)
    · replace hv := hv.1 hc
      refine lv_iconst (v := 0) hx hb d_PT_isWithin_14 (by decide) ?_
      obtain ⟨hz, hv⟩ := hv
      exact gk_zret hx hb hr hlocks (gk_nz hz) hK hP hD hS hv d_PT_isWithin_15
    · replace hv := hv.2 hc
      refine lv_iconst (v := 1) hx hb d_PT_isWithin_10 (by decide) ?_
      refine lv_goto (tgt := 15) hx hb d_PT_isWithin_11 (by decide) ?_
      obtain ⟨hz, hv⟩ := hv
      exact gk_zret hx hb hr hlocks (gk_nz hz) hK hP hD hS hv d_PT_isWithin_15
  refine lv_iload_n hx hb d_PT_isWithin_0 rfl (lv_at hl 0 rfl) ?_
  refine lv_iload_n hx hb d_PT_isWithin_1 rfl (lv_at hl 1 rfl) ?_
  refine lv_icmp_lt (tgt := 14) hx hb d_PT_isWithin_2 (by decide) (fun hc => ?_) (fun hc => ?_)
  · replace hv := hv.1 hc
    refine lv_iconst (v := 0) hx hb d_PT_isWithin_14 (by decide) ?_
    obtain ⟨hz, hv⟩ := hv
    exact gk_zret hx hb hr hlocks (gk_nz hz) hK hP hD hS hv d_PT_isWithin_15
  · replace hv := hv.2 hc
    exact j5 a0 a2 σ0 τ0 _ _ _ hv hP hD hS (lv_sub hl [0, 2] rfl)
theorem d_PT_isLicence_0 : decode b_PT_isLicence 0 = .ok (.iload_n 0, 1) := by decide +kernel
theorem d_PT_isLicence_1 : decode b_PT_isLicence 1 = .ok (.iconst 1, 1) := by decide +kernel
theorem d_PT_isLicence_2 : decode b_PT_isLicence 2 = .ok (.iconst 5, 1) := by decide +kernel
theorem d_PT_isLicence_3 : decode b_PT_isLicence 3 = .ok (.invokestatic 86, 3) := by decide +kernel
theorem d_PT_isLicence_6 : decode b_PT_isLicence 6 = .ok (.ireturn, 1) := by decide +kernel
def s_PT_isLicence_0 (P_PT_isWithin : MI → ML → Int32 → Int32 → Int32 → Prop) (Q_PT_isWithin : MI → ML → Int32 → Int32 → Int32 → Int32 → MI → ML → Prop) (σ : MI) (τ : ML) (a0 : Int32) (R : Int32 → MI → ML → Prop) : Prop :=
  P_PT_isWithin σ τ a0 1 5 ∧ ∀ (r3 : Int32) (s3 : MI) (t3 : ML), Q_PT_isWithin σ τ a0 1 5 r3 s3 t3 → ((r3 = 0 ∨ r3 = 1) ∧ R r3 s3 t3)
set_option maxHeartbeats 4000000 in
set_option maxRecDepth 100000 in
theorem k_PT_isLicence (l : Launch) (D : va_G) (ad : Nat → Nat) (ci cl : ClassId)
    (pre : MI → ML → Int32 → Prop) (post : MI → ML → Int32 → Int32 → MI → ML → Prop) (P_PT_isWithin : MI → ML → Int32 → Int32 → Int32 → Prop) (Q_PT_isWithin : MI → ML → Int32 → Int32 → Int32 → Int32 → MI → ML → Prop)
    (h_PT_isWithin : ∀ (sz : Nat) (σ : MI) (τ : ML) (b0 : Int32) (b1 : Int32) (b2 : Int32), P_PT_isWithin σ τ b0 b1 b2 → gMi l D (xw ad ci cl) (xt ci cl) (xa ad) y_PT_isWithin w_PT_isWithin rm_PT_isWithin [.int b0, .int b1, .int b2] sz σ τ (Q_PT_isWithin σ τ b0 b1 b2))
    (v0 : ∀ (σ0 : MI) (τ0 : ML) (a0 : Int32), pre σ0 τ0 a0 → s_PT_isLicence_0 P_PT_isWithin Q_PT_isWithin σ0 τ0 a0 (post σ0 τ0 a0)) :
    ∀ (sz : Nat) (σ0 : MI) (τ0 : ML) (a0 : Int32), pre σ0 τ0 a0 → gMi l D (xw ad ci cl) (xt ci cl) (xa ad) y_PT_isLicence w_PT_isLicence rm_PT_isLicence [.int a0] sz σ0 τ0 (post σ0 τ0 a0) := by
  intro sz σ0 τ0 a0 hpre
  refine gk_ofWi (cc := b_PT_isLicence) (maxL := 1) (ret := (some .boolean)) (by decide) rfl xa_ok (Nat.le_of_ble_eq_true rfl) ?_
  intro p e s m below meth c ls hx hb hr hlocks hml hown hts hK hP hD hS hl
  have hl : lv_has ls 1 [(0, .int a0)] := hl
  have hown : s.vm.findClass R_PT = some m.cls := hown
  have hv := v0 σ0 τ0 a0 hpre
  unfold s_PT_isLicence_0 at hv
  refine lv_iload_n hx hb d_PT_isLicence_0 rfl (lv_at hl 0 rfl) ?_
  refine lv_iconst (v := 1) hx hb d_PT_isLicence_1 (by decide) ?_
  refine lv_iconst (v := 5) hx hb d_PT_isLicence_2 (by decide) ?_
  obtain ⟨hg, hv⟩ := hv
  refine gk_callSi (As := [.int a0, .int 1, .int 5]) (rest := []) (hP := hP) ⟨hx, hb, hml, hown, hts⟩ (h_PT_isWithin _ σ0 τ0 a0 1 5 hg) (gk_cwS 3 hts t_w3 rfl rfl rfl (hts _ t_w0) (hts _ t_w1) (hts _ t_w2) (by decide +kernel) ⟨Nat.le_of_ble_eq_true rfl, Nat.le_of_ble_eq_true rfl⟩) hK hP hD hS rfl hl.1 rfl (lv_room (Nat.le_of_ble_eq_true rfl)) d_PT_isLicence_3 ⟨Nat.zero_le _, Nat.zero_le _⟩ ?_
  intro r3 s3 t3 H locs hw hP hD hS
  replace hv := hv r3 s3 t3 hw
  obtain ⟨hz, hv⟩ := hv
  exact gk_zret hx hb hr hlocks (gk_nz hz) hK hP hD hS hv d_PT_isLicence_6
theorem d_Jobs_putInOrder_0 : decode b_Jobs_putInOrder 0 = .ok (.iconst 0, 1) := by decide +kernel
theorem d_Jobs_putInOrder_1 : decode b_Jobs_putInOrder 1 = .ok (.istore_n 1, 1) := by decide +kernel
theorem d_Jobs_putInOrder_2 : decode b_Jobs_putInOrder 2 = .ok (.iload_n 1, 1) := by decide +kernel
theorem d_Jobs_putInOrder_3 : decode b_Jobs_putInOrder 3 = .ok (.aload_n 0, 1) := by decide +kernel
theorem d_Jobs_putInOrder_4 : decode b_Jobs_putInOrder 4 = .ok (.getfield 9, 3) := by decide +kernel
theorem d_Jobs_putInOrder_7 : decode b_Jobs_putInOrder 7 = .ok (.if_icmp .ge 64, 3) := by decide +kernel
theorem d_Jobs_putInOrder_10 : decode b_Jobs_putInOrder 10 = .ok (.iload_n 1, 1) := by decide +kernel
theorem d_Jobs_putInOrder_11 : decode b_Jobs_putInOrder 11 = .ok (.istore_n 2, 1) := by decide +kernel
theorem d_Jobs_putInOrder_12 : decode b_Jobs_putInOrder 12 = .ok (.iload_n 2, 1) := by decide +kernel
theorem d_Jobs_putInOrder_13 : decode b_Jobs_putInOrder 13 = .ok (.ifCond .le 45, 3) := by decide +kernel
theorem d_Jobs_putInOrder_16 : decode b_Jobs_putInOrder 16 = .ok (.aload_n 0, 1) := by decide +kernel
theorem d_Jobs_putInOrder_17 : decode b_Jobs_putInOrder 17 = .ok (.getfield 22, 3) := by decide +kernel
theorem d_Jobs_putInOrder_20 : decode b_Jobs_putInOrder 20 = .ok (.aload_n 0, 1) := by decide +kernel
theorem d_Jobs_putInOrder_21 : decode b_Jobs_putInOrder 21 = .ok (.getfield 31, 3) := by decide +kernel
theorem d_Jobs_putInOrder_24 : decode b_Jobs_putInOrder 24 = .ok (.iload_n 2, 1) := by decide +kernel
theorem d_Jobs_putInOrder_25 : decode b_Jobs_putInOrder 25 = .ok (.iconst 1, 1) := by decide +kernel
theorem d_Jobs_putInOrder_26 : decode b_Jobs_putInOrder 26 = .ok (.isub, 1) := by decide +kernel
theorem d_Jobs_putInOrder_27 : decode b_Jobs_putInOrder 27 = .ok (.iaload, 1) := by decide +kernel
theorem d_Jobs_putInOrder_28 : decode b_Jobs_putInOrder 28 = .ok (.iaload, 1) := by decide +kernel
theorem d_Jobs_putInOrder_29 : decode b_Jobs_putInOrder 29 = .ok (.aload_n 0, 1) := by decide +kernel
theorem d_Jobs_putInOrder_30 : decode b_Jobs_putInOrder 30 = .ok (.getfield 22, 3) := by decide +kernel
theorem d_Jobs_putInOrder_33 : decode b_Jobs_putInOrder 33 = .ok (.iload_n 1, 1) := by decide +kernel
theorem d_Jobs_putInOrder_34 : decode b_Jobs_putInOrder 34 = .ok (.iaload, 1) := by decide +kernel
theorem d_Jobs_putInOrder_35 : decode b_Jobs_putInOrder 35 = .ok (.if_icmp .le 23, 3) := by decide +kernel
theorem d_Jobs_putInOrder_38 : decode b_Jobs_putInOrder 38 = .ok (.aload_n 0, 1) := by decide +kernel
theorem d_Jobs_putInOrder_39 : decode b_Jobs_putInOrder 39 = .ok (.getfield 31, 3) := by decide +kernel
theorem d_Jobs_putInOrder_42 : decode b_Jobs_putInOrder 42 = .ok (.iload_n 2, 1) := by decide +kernel
theorem d_Jobs_putInOrder_43 : decode b_Jobs_putInOrder 43 = .ok (.aload_n 0, 1) := by decide +kernel
theorem d_Jobs_putInOrder_44 : decode b_Jobs_putInOrder 44 = .ok (.getfield 31, 3) := by decide +kernel
theorem d_Jobs_putInOrder_47 : decode b_Jobs_putInOrder 47 = .ok (.iload_n 2, 1) := by decide +kernel
theorem d_Jobs_putInOrder_48 : decode b_Jobs_putInOrder 48 = .ok (.iconst 1, 1) := by decide +kernel
theorem d_Jobs_putInOrder_49 : decode b_Jobs_putInOrder 49 = .ok (.isub, 1) := by decide +kernel
theorem d_Jobs_putInOrder_50 : decode b_Jobs_putInOrder 50 = .ok (.iaload, 1) := by decide +kernel
theorem d_Jobs_putInOrder_51 : decode b_Jobs_putInOrder 51 = .ok (.iastore, 1) := by decide +kernel
theorem d_Jobs_putInOrder_52 : decode b_Jobs_putInOrder 52 = .ok (.iinc 2 (-1), 3) := by decide +kernel
theorem d_Jobs_putInOrder_55 : decode b_Jobs_putInOrder 55 = .ok (.goto (-43), 3) := by decide +kernel
theorem d_Jobs_putInOrder_58 : decode b_Jobs_putInOrder 58 = .ok (.aload_n 0, 1) := by decide +kernel
theorem d_Jobs_putInOrder_59 : decode b_Jobs_putInOrder 59 = .ok (.getfield 31, 3) := by decide +kernel
theorem d_Jobs_putInOrder_62 : decode b_Jobs_putInOrder 62 = .ok (.iload_n 2, 1) := by decide +kernel
theorem d_Jobs_putInOrder_63 : decode b_Jobs_putInOrder 63 = .ok (.iload_n 1, 1) := by decide +kernel
theorem d_Jobs_putInOrder_64 : decode b_Jobs_putInOrder 64 = .ok (.iastore, 1) := by decide +kernel
theorem d_Jobs_putInOrder_65 : decode b_Jobs_putInOrder 65 = .ok (.iinc 1 1, 3) := by decide +kernel
theorem d_Jobs_putInOrder_68 : decode b_Jobs_putInOrder 68 = .ok (.goto (-66), 3) := by decide +kernel
theorem d_Jobs_putInOrder_71 : decode b_Jobs_putInOrder 71 = .ok (.return_, 1) := by decide +kernel
def s_Jobs_putInOrder_58 (σ : MI) (τ : ML) (x1 : Int32) (x2 : Int32) (K2 : Int32 → MI → ML → Prop) (K12 : Int32 → Int32 → MI → ML → Prop) (R : MI → ML → Prop) : Prop :=
  vp_in x2 7 ∧ (∀ s64 : MI, s64 = st2 σ 14 (Int32.toNatClampNeg x2) x1 → (∀ y65 : Int32, y65 = x1 + 1 → (K2 y65 s64 τ)))
def s_Jobs_putInOrder_0 (σ : MI) (τ : ML) (K2 : Int32 → MI → ML → Prop) (K12 : Int32 → Int32 → MI → ML → Prop) (R : MI → ML → Prop) : Prop :=
  K2 0 σ τ
def s_Jobs_putInOrder_2 (σ : MI) (τ : ML) (x1 : Int32) (K2 : Int32 → MI → ML → Prop) (K12 : Int32 → Int32 → MI → ML → Prop) (R : MI → ML → Prop) : Prop :=
  ((σ 8 0) ≤ x1 →
  (R σ τ)) ∧
  (¬ (σ 8 0) ≤ x1 →
  (K12 x1 x1 σ τ))
def s_Jobs_putInOrder_12 (σ : MI) (τ : ML) (x1 : Int32) (x2 : Int32) (K2 : Int32 → MI → ML → Prop) (K12 : Int32 → Int32 → MI → ML → Prop) (R : MI → ML → Prop) : Prop :=
  (x2 ≤ 0 →
  (s_Jobs_putInOrder_58 σ τ x1 x2 K2 K12 R)) ∧
  (¬ x2 ≤ 0 →
  (vp_in (x2 - 1) 7 ∧ (vp_in (σ 14 (Int32.toNatClampNeg (x2 - 1))) 7 ∧ (vp_in x1 7 ∧ (((σ 11 (Int32.toNatClampNeg (σ 14 (Int32.toNatClampNeg (x2 - 1))))) ≤ (σ 11 (Int32.toNatClampNeg x1)) →
    (s_Jobs_putInOrder_58 σ τ x1 x2 K2 K12 R)) ∧
    (¬ (σ 11 (Int32.toNatClampNeg (σ 14 (Int32.toNatClampNeg (x2 - 1))))) ≤ (σ 11 (Int32.toNatClampNeg x1)) →
    (vp_in (x2 - 1) 7 ∧ (vp_in x2 7 ∧ (∀ s51 : MI, s51 = st2 σ 14 (Int32.toNatClampNeg x2) (σ 14 (Int32.toNatClampNeg (x2 - 1))) → (∀ y52 : Int32, y52 = x2 + (-1) → (K12 x1 y52 s51 τ)))))))))))
set_option maxHeartbeats 4000000 in
set_option maxRecDepth 100000 in
theorem k_Jobs_putInOrder (l : Launch) (D : va_G) (ad : Nat → Nat) (ci cl : ClassId)
    (pre : MI → ML → Prop) (post : MI → ML → MI → ML → Prop)
    (I2 : MI → ML → Int32 → MI → ML → Prop) (m2 : MI → ML → Int32 → MI → ML → Nat)
    (I12 : MI → ML → Int32 → Int32 → MI → ML → Prop) (m12 : MI → ML → Int32 → Int32 → MI → ML → Nat)
    (v0 : ∀ (σ0 : MI) (τ0 : ML), pre σ0 τ0 → s_Jobs_putInOrder_0 σ0 τ0 (fun z0 σ9 τ9 => I2 σ0 τ0 z0 σ9 τ9) (fun z0 z1 σ9 τ9 => I12 σ0 τ0 z0 z1 σ9 τ9) (post σ0 τ0))
    (v2 : ∀ (σ0 : MI) (τ0 : ML) (x1 : Int32) (σ : MI) (τ : ML), I2 σ0 τ0 x1 σ τ → s_Jobs_putInOrder_2 σ τ x1 (fun z0 σ9 τ9 => I2 σ0 τ0 z0 σ9 τ9 ∧ m2 σ0 τ0 z0 σ9 τ9 < m2 σ0 τ0 x1 σ τ) (fun z0 z1 σ9 τ9 => I12 σ0 τ0 z0 z1 σ9 τ9 ∧ m12 σ0 τ0 z0 z1 σ9 τ9 < m2 σ0 τ0 x1 σ τ) (post σ0 τ0))
    (v12 : ∀ (σ0 : MI) (τ0 : ML) (x1 : Int32) (x2 : Int32) (σ : MI) (τ : ML), I12 σ0 τ0 x1 x2 σ τ → s_Jobs_putInOrder_12 σ τ x1 x2 (fun z0 σ9 τ9 => I2 σ0 τ0 z0 σ9 τ9 ∧ m2 σ0 τ0 z0 σ9 τ9 < m12 σ0 τ0 x1 x2 σ τ) (fun z0 z1 σ9 τ9 => I12 σ0 τ0 z0 z1 σ9 τ9 ∧ m12 σ0 τ0 z0 z1 σ9 τ9 < m12 σ0 τ0 x1 x2 σ τ) (post σ0 τ0)) :
    ∀ (sz : Nat) (σ0 : MI) (τ0 : ML), pre σ0 τ0 → gMv l D (xw ad ci cl) (xt ci cl) (xa ad) y_Jobs_putInOrder w_Jobs_putInOrder rm_Jobs_putInOrder [.ref (ad 8)] sz σ0 τ0 (post σ0 τ0) := by
  intro sz σ0 τ0 hpre
  refine gk_ofWv (cc := b_Jobs_putInOrder) (maxL := 3) (ret := none) (by decide) rfl xa_ok (Nat.le_of_ble_eq_true rfl) ?_
  intro p e s m below meth c ls hx hb hr hlocks hml hown hts hK hP hD hS hl
  have hl : lv_has ls 3 [(0, .ref (ad 8))] := hl
  have hown : s.vm.findClass R_Jobs = some m.cls := hown
  have hL : ∀ n : Nat, (∀ (x1 : Int32) (σ : MI) (τ : ML) (H : Heap) (locs : List Loc) (ls : Array Slot), m2 σ0 τ0 x1 σ τ < n → I2 σ0 τ0 x1 σ τ → va_P D classes ((xw ad ci cl) σ τ) H → va_D (gA (xa ad) s.heap.size) ((xw ad ci cl) σ τ) → va_S (gA (xa ad) s.heap.size) s.heap H locs → lv_has ls 3 [(0, .ref (ad 8)), (1, .int x1)] → W p l e rm_Jobs_putInOrder s m [.ref (ad 8)].toArray below meth c H locs 0 0 (gQv D (xw ad ci cl) (xt ci cl) (xa ad) below [.ref (ad 8)] s (post σ0 τ0)) (F0 m 2 ls [])) ∧
      (∀ (x1 : Int32) (x2 : Int32) (σ : MI) (τ : ML) (H : Heap) (locs : List Loc) (ls : Array Slot), m12 σ0 τ0 x1 x2 σ τ < n → I12 σ0 τ0 x1 x2 σ τ → va_P D classes ((xw ad ci cl) σ τ) H → va_D (gA (xa ad) s.heap.size) ((xw ad ci cl) σ τ) → va_S (gA (xa ad) s.heap.size) s.heap H locs → lv_has ls 3 [(0, .ref (ad 8)), (1, .int x1), (2, .int x2)] → W p l e rm_Jobs_putInOrder s m [.ref (ad 8)].toArray below meth c H locs 0 0 (gQv D (xw ad ci cl) (xt ci cl) (xa ad) below [.ref (ad 8)] s (post σ0 τ0)) (F0 m 12 ls [])) := by
    intro n
    induction n with
    | zero => exact ⟨fun _ _ _ _ _ _ hn => absurd hn (Nat.not_lt_zero _), fun _ _ _ _ _ _ _ hn => absurd hn (Nat.not_lt_zero _)⟩
    | succ n ih =>
      refine ⟨?_, ?_⟩
      · intro x1 σ τ H locs ls hn hI hP hD hS hl
        have hv := v2 σ0 τ0 x1 σ τ hI
        unfold s_Jobs_putInOrder_2 at hv
        refine lv_iload_n hx hb d_Jobs_putInOrder_2 rfl (lv_at hl 1 rfl) ?_
        refine lv_aload_n hx hb d_Jobs_putInOrder_3 rfl (lv_at hl 0 rfl) ?_
        refine va_get (D := D) (ci := 0) (v := .int (σ 8 0)) (C := R_Jobs) (T := F_Jobs) (N := 7) hx hb hts iw_Jobs hown hK hP 8 rfl rfl 0 (by decide) (hts _ t_w36) (fun _ h9 => h9) rfl d_Jobs_putInOrder_4 ?_
        refine lv_icmp_ge (tgt := 71) hx hb d_Jobs_putInOrder_7 (by decide) (fun hc => ?_) (fun hc => ?_)
        · replace hv := hv.1 hc
          exact gk_vret hx hb hr hlocks hK hP hD hS hv d_Jobs_putInOrder_71
        · replace hv := hv.2 hc
          refine lv_iload_n hx hb d_Jobs_putInOrder_10 rfl (lv_at hl 1 rfl) ?_
          refine lv_istore_n (lv' := [(2, .int x1), (0, .ref (ad 8)), (1, .int x1)]) hx hb d_Jobs_putInOrder_11 rfl hl (by decide) rfl (fun ls hl => ?_)
          obtain ⟨hI, hm⟩ := hv
          exact ih.2 x1 x1 σ τ _ _ _ (Nat.lt_of_lt_of_le hm (Nat.le_of_lt_succ hn)) hI hP hD hS (lv_sub hl [1, 2, 0] rfl)
      · intro x1 x2 σ τ H locs ls hn hI hP hD hS hl
        have hv := v12 σ0 τ0 x1 x2 σ τ hI
        unfold s_Jobs_putInOrder_12 at hv
        have j58 : ∀ (w1 : Int32) (w2 : Int32) (σ1 : MI) (τ1 : ML) (H : Heap) (locs : List Loc) (ls : Array Slot), s_Jobs_putInOrder_58 σ1 τ1 w1 w2 (fun z0 σ9 τ9 => I2 σ0 τ0 z0 σ9 τ9 ∧ m2 σ0 τ0 z0 σ9 τ9 < m12 σ0 τ0 x1 x2 σ τ) (fun z0 z1 σ9 τ9 => I12 σ0 τ0 z0 z1 σ9 τ9 ∧ m12 σ0 τ0 z0 z1 σ9 τ9 < m12 σ0 τ0 x1 x2 σ τ) (post σ0 τ0) → va_P D classes ((xw ad ci cl) σ1 τ1) H → va_D (gA (xa ad) s.heap.size) ((xw ad ci cl) σ1 τ1) → va_S (gA (xa ad) s.heap.size) s.heap H locs → lv_has ls 3 [(0, .ref (ad 8)), (1, .int w1), (2, .int w2)] → W p l e rm_Jobs_putInOrder s m [.ref (ad 8)].toArray below meth c H locs 0 0 (gQv D (xw ad ci cl) (xt ci cl) (xa ad) below [.ref (ad 8)] s (post σ0 τ0)) (F0 m 58 ls []) := by
          intro w1 w2 σ1 τ1 H locs ls hv hP hD hS hl
          unfold s_Jobs_putInOrder_58 at hv
          refine lv_aload_n hx hb d_Jobs_putInOrder_58 rfl (lv_at hl 0 rfl) ?_
          refine va_get (D := D) (ci := 0) (v := .ref (ad 14)) (C := R_Jobs) (T := F_Jobs) (N := 7) hx hb hts iw_Jobs hown hK hP 8 rfl rfl 6 (by decide) (hts _ t_w62) (fun _ h9 => h9) rfl d_Jobs_putInOrder_59 ?_
          refine lv_iload_n hx hb d_Jobs_putInOrder_62 rfl (lv_at hl 2 rfl) ?_
          refine lv_iload_n hx hb d_Jobs_putInOrder_63 rfl (lv_at hl 1 rfl) ?_
          obtain ⟨hi, hv⟩ := hv
          refine va_iast hx hb hK hP hD hS 14 0 rfl rfl hi d_Jobs_putInOrder_64 (fun H locs hP hD hS => ?_)
          rw [xa_14] at hP hD
          obtain ⟨s64, es64⟩ : ∃ z : MI, z = st2 σ1 14 (Int32.toNatClampNeg w2) w1 := ⟨_, rfl⟩
          rw [← es64] at hP hD
          replace hv := hv s64 es64
          obtain ⟨y65, ey65⟩ : ∃ z : Int32, z = w1 + 1 := ⟨_, rfl⟩
          replace hv := hv y65 ey65
          refine lv_iinc (v := y65) (lv' := [(1, .int y65), (0, .ref (ad 8)), (2, .int w2)]) hx hb d_Jobs_putInOrder_65 hl (k := 1) rfl (by rw [ey65]; rfl) (by decide) rfl (fun ls hl => ?_)
          refine lv_goto (tgt := 2) hx hb d_Jobs_putInOrder_68 (by decide) ?_
          obtain ⟨hI, hm⟩ := hv
          exact ih.1 y65 s64 τ1 _ _ _ (Nat.lt_of_lt_of_le hm (Nat.le_of_lt_succ hn)) hI hP hD hS (lv_sub hl [1, 0] rfl)
        refine lv_iload_n hx hb d_Jobs_putInOrder_12 rfl (lv_at hl 2 rfl) ?_
        refine lv_if_le (tgt := 58) hx hb d_Jobs_putInOrder_13 (by decide) (fun hc => ?_) (fun hc => ?_)
        · replace hv := hv.1 hc
          exact j58 x1 x2 σ τ _ _ _ hv hP hD hS (lv_sub hl [0, 1, 2] rfl)
        · replace hv := hv.2 hc
          refine lv_aload_n hx hb d_Jobs_putInOrder_16 rfl (lv_at hl 0 rfl) ?_
          refine va_get (D := D) (ci := 0) (v := .ref (ad 11)) (C := R_Jobs) (T := F_Jobs) (N := 7) hx hb hts iw_Jobs hown hK hP 8 rfl rfl 3 (by decide) (hts _ t_w39) (fun _ h9 => h9) rfl d_Jobs_putInOrder_17 ?_
          refine lv_aload_n hx hb d_Jobs_putInOrder_20 rfl (lv_at hl 0 rfl) ?_
          refine va_get (D := D) (ci := 0) (v := .ref (ad 14)) (C := R_Jobs) (T := F_Jobs) (N := 7) hx hb hts iw_Jobs hown hK hP 8 rfl rfl 6 (by decide) (hts _ t_w62) (fun _ h9 => h9) rfl d_Jobs_putInOrder_21 ?_
          refine lv_iload_n hx hb d_Jobs_putInOrder_24 rfl (lv_at hl 2 rfl) ?_
          refine lv_iconst (v := 1) hx hb d_Jobs_putInOrder_25 (by decide) ?_
          refine lv_isub hx hb d_Jobs_putInOrder_26 ?_
          obtain ⟨hi, hv⟩ := hv
          refine va_iald hx hb hK hP 14 0 rfl rfl hi d_Jobs_putInOrder_27 ?_
          obtain ⟨hi, hv⟩ := hv
          refine va_iald hx hb hK hP 11 0 rfl rfl hi d_Jobs_putInOrder_28 ?_
          refine lv_aload_n hx hb d_Jobs_putInOrder_29 rfl (lv_at hl 0 rfl) ?_
          refine va_get (D := D) (ci := 0) (v := .ref (ad 11)) (C := R_Jobs) (T := F_Jobs) (N := 7) hx hb hts iw_Jobs hown hK hP 8 rfl rfl 3 (by decide) (hts _ t_w39) (fun _ h9 => h9) rfl d_Jobs_putInOrder_30 ?_
          refine lv_iload_n hx hb d_Jobs_putInOrder_33 rfl (lv_at hl 1 rfl) ?_
          obtain ⟨hi, hv⟩ := hv
          refine va_iald hx hb hK hP 11 0 rfl rfl hi d_Jobs_putInOrder_34 ?_
          refine lv_icmp_le (tgt := 58) hx hb d_Jobs_putInOrder_35 (by decide) (fun hc => ?_) (fun hc => ?_)
          · replace hv := hv.1 hc
            exact j58 x1 x2 σ τ _ _ _ hv hP hD hS (lv_sub hl [0, 1, 2] rfl)
          · replace hv := hv.2 hc
            refine lv_aload_n hx hb d_Jobs_putInOrder_38 rfl (lv_at hl 0 rfl) ?_
            refine va_get (D := D) (ci := 0) (v := .ref (ad 14)) (C := R_Jobs) (T := F_Jobs) (N := 7) hx hb hts iw_Jobs hown hK hP 8 rfl rfl 6 (by decide) (hts _ t_w62) (fun _ h9 => h9) rfl d_Jobs_putInOrder_39 ?_
            refine lv_iload_n hx hb d_Jobs_putInOrder_42 rfl (lv_at hl 2 rfl) ?_
            refine lv_aload_n hx hb d_Jobs_putInOrder_43 rfl (lv_at hl 0 rfl) ?_
            refine va_get (D := D) (ci := 0) (v := .ref (ad 14)) (C := R_Jobs) (T := F_Jobs) (N := 7) hx hb hts iw_Jobs hown hK hP 8 rfl rfl 6 (by decide) (hts _ t_w62) (fun _ h9 => h9) rfl d_Jobs_putInOrder_44 ?_
            refine lv_iload_n hx hb d_Jobs_putInOrder_47 rfl (lv_at hl 2 rfl) ?_
            refine lv_iconst (v := 1) hx hb d_Jobs_putInOrder_48 (by decide) ?_
            refine lv_isub hx hb d_Jobs_putInOrder_49 ?_
            obtain ⟨hi, hv⟩ := hv
            refine va_iald hx hb hK hP 14 0 rfl rfl hi d_Jobs_putInOrder_50 ?_
            obtain ⟨hi, hv⟩ := hv
            refine va_iast hx hb hK hP hD hS 14 0 rfl rfl hi d_Jobs_putInOrder_51 (fun H locs hP hD hS => ?_)
            rw [xa_14] at hP hD
            obtain ⟨s51, es51⟩ : ∃ z : MI, z = st2 σ 14 (Int32.toNatClampNeg x2) (σ 14 (Int32.toNatClampNeg (x2 - 1))) := ⟨_, rfl⟩
            rw [← es51] at hP hD
            replace hv := hv s51 es51
            obtain ⟨y52, ey52⟩ : ∃ z : Int32, z = x2 + (-1) := ⟨_, rfl⟩
            replace hv := hv y52 ey52
            refine lv_iinc (v := y52) (lv' := [(2, .int y52), (0, .ref (ad 8)), (1, .int x1)]) hx hb d_Jobs_putInOrder_52 hl (k := 2) rfl (by rw [ey52]; rfl) (by decide) rfl (fun ls hl => ?_)
            refine lv_goto (tgt := 12) hx hb d_Jobs_putInOrder_55 (by decide) ?_
            obtain ⟨hI, hm⟩ := hv
            exact ih.2 x1 y52 s51 τ _ _ _ (Nat.lt_of_lt_of_le hm (Nat.le_of_lt_succ hn)) hI hP hD hS (lv_sub hl [1, 2, 0] rfl)
  have hv := v0 σ0 τ0 hpre
  unfold s_Jobs_putInOrder_0 at hv
  refine lv_iconst (v := 0) hx hb d_Jobs_putInOrder_0 (by decide) ?_
  refine lv_istore_n (lv' := [(1, .int 0), (0, .ref (ad 8))]) hx hb d_Jobs_putInOrder_1 rfl hl (by decide) rfl (fun ls hl => ?_)
  exact (hL _).1 0 σ0 τ0 _ _ _ (Nat.lt_succ_self _) hv hP hD hS (lv_sub hl [1, 0] rfl)
theorem d_Planner_joinOwn_0 : decode b_Planner_joinOwn 0 = .ok (.iload_n 1, 1) := by decide +kernel
theorem d_Planner_joinOwn_1 : decode b_Planner_joinOwn 1 = .ok (.iconst 1, 1) := by decide +kernel
theorem d_Planner_joinOwn_2 : decode b_Planner_joinOwn 2 = .ok (.isub, 1) := by decide +kernel
theorem d_Planner_joinOwn_3 : decode b_Planner_joinOwn 3 = .ok (.istore_n 2, 1) := by decide +kernel
theorem d_Planner_joinOwn_4 : decode b_Planner_joinOwn 4 = .ok (.iload_n 2, 1) := by decide +kernel
theorem d_Planner_joinOwn_5 : decode b_Planner_joinOwn 5 = .ok (.ifCond .le 78, 3) := by decide +kernel
theorem d_Planner_joinOwn_8 : decode b_Planner_joinOwn 8 = .ok (.aload_n 0, 1) := by decide +kernel
theorem d_Planner_joinOwn_9 : decode b_Planner_joinOwn 9 = .ok (.getfield 11, 3) := by decide +kernel
theorem d_Planner_joinOwn_12 : decode b_Planner_joinOwn 12 = .ok (.iload_n 2, 1) := by decide +kernel
theorem d_Planner_joinOwn_13 : decode b_Planner_joinOwn 13 = .ok (.laload, 1) := by decide +kernel
theorem d_Planner_joinOwn_14 : decode b_Planner_joinOwn 14 = .ok (.lstore_n 3, 1) := by decide +kernel
theorem d_Planner_joinOwn_15 : decode b_Planner_joinOwn 15 = .ok (.iload_n 2, 1) := by decide +kernel
theorem d_Planner_joinOwn_16 : decode b_Planner_joinOwn 16 = .ok (.istore 5, 2) := by decide +kernel
theorem d_Planner_joinOwn_18 : decode b_Planner_joinOwn 18 = .ok (.iload 5, 2) := by decide +kernel
theorem d_Planner_joinOwn_20 : decode b_Planner_joinOwn 20 = .ok (.ifCond .le 50, 3) := by decide +kernel
theorem d_Planner_joinOwn_23 : decode b_Planner_joinOwn 23 = .ok (.aload_n 0, 1) := by decide +kernel
theorem d_Planner_joinOwn_24 : decode b_Planner_joinOwn 24 = .ok (.getfield 15, 3) := by decide +kernel
theorem d_Planner_joinOwn_27 : decode b_Planner_joinOwn 27 = .ok (.iload 5, 2) := by decide +kernel
theorem d_Planner_joinOwn_29 : decode b_Planner_joinOwn 29 = .ok (.laload, 1) := by decide +kernel
theorem d_Planner_joinOwn_30 : decode b_Planner_joinOwn 30 = .ok (.ldc2_w 97, 3) := by decide +kernel
theorem d_Planner_joinOwn_33 : decode b_Planner_joinOwn 33 = .ok (.lcmp, 1) := by decide +kernel
theorem d_Planner_joinOwn_34 : decode b_Planner_joinOwn 34 = .ok (.ifCond .eq 25, 3) := by decide +kernel
theorem d_Planner_joinOwn_37 : decode b_Planner_joinOwn 37 = .ok (.lload_n 3, 1) := by decide +kernel
theorem d_Planner_joinOwn_38 : decode b_Planner_joinOwn 38 = .ok (.aload_n 0, 1) := by decide +kernel
theorem d_Planner_joinOwn_39 : decode b_Planner_joinOwn 39 = .ok (.getfield 15, 3) := by decide +kernel
theorem d_Planner_joinOwn_42 : decode b_Planner_joinOwn 42 = .ok (.iload 5, 2) := by decide +kernel
theorem d_Planner_joinOwn_44 : decode b_Planner_joinOwn 44 = .ok (.laload, 1) := by decide +kernel
theorem d_Planner_joinOwn_45 : decode b_Planner_joinOwn 45 = .ok (.aload_n 0, 1) := by decide +kernel
theorem d_Planner_joinOwn_46 : decode b_Planner_joinOwn 46 = .ok (.getfield 11, 3) := by decide +kernel
theorem d_Planner_joinOwn_49 : decode b_Planner_joinOwn 49 = .ok (.iload_n 2, 1) := by decide +kernel
theorem d_Planner_joinOwn_50 : decode b_Planner_joinOwn 50 = .ok (.iload 5, 2) := by decide +kernel
theorem d_Planner_joinOwn_52 : decode b_Planner_joinOwn 52 = .ok (.ixor, 1) := by decide +kernel
theorem d_Planner_joinOwn_53 : decode b_Planner_joinOwn 53 = .ok (.laload, 1) := by decide +kernel
theorem d_Planner_joinOwn_54 : decode b_Planner_joinOwn 54 = .ok (.ladd, 1) := by decide +kernel
theorem d_Planner_joinOwn_55 : decode b_Planner_joinOwn 55 = .ok (.invokestatic 99, 3) := by decide +kernel
theorem d_Planner_joinOwn_58 : decode b_Planner_joinOwn 58 = .ok (.lstore_n 3, 1) := by decide +kernel
theorem d_Planner_joinOwn_59 : decode b_Planner_joinOwn 59 = .ok (.iload 5, 2) := by decide +kernel
theorem d_Planner_joinOwn_61 : decode b_Planner_joinOwn 61 = .ok (.iconst 1, 1) := by decide +kernel
theorem d_Planner_joinOwn_62 : decode b_Planner_joinOwn 62 = .ok (.isub, 1) := by decide +kernel
theorem d_Planner_joinOwn_63 : decode b_Planner_joinOwn 63 = .ok (.iload_n 2, 1) := by decide +kernel
theorem d_Planner_joinOwn_64 : decode b_Planner_joinOwn 64 = .ok (.iand, 1) := by decide +kernel
theorem d_Planner_joinOwn_65 : decode b_Planner_joinOwn 65 = .ok (.istore 5, 2) := by decide +kernel
theorem d_Planner_joinOwn_67 : decode b_Planner_joinOwn 67 = .ok (.goto (-49), 3) := by decide +kernel
theorem d_Planner_joinOwn_70 : decode b_Planner_joinOwn 70 = .ok (.aload_n 0, 1) := by decide +kernel
theorem d_Planner_joinOwn_71 : decode b_Planner_joinOwn 71 = .ok (.getfield 11, 3) := by decide +kernel
theorem d_Planner_joinOwn_74 : decode b_Planner_joinOwn 74 = .ok (.iload_n 2, 1) := by decide +kernel
theorem d_Planner_joinOwn_75 : decode b_Planner_joinOwn 75 = .ok (.lload_n 3, 1) := by decide +kernel
theorem d_Planner_joinOwn_76 : decode b_Planner_joinOwn 76 = .ok (.lastore, 1) := by decide +kernel
theorem d_Planner_joinOwn_77 : decode b_Planner_joinOwn 77 = .ok (.iinc 2 (-1), 3) := by decide +kernel
theorem d_Planner_joinOwn_80 : decode b_Planner_joinOwn 80 = .ok (.goto (-76), 3) := by decide +kernel
theorem d_Planner_joinOwn_83 : decode b_Planner_joinOwn 83 = .ok (.return_, 1) := by decide +kernel
def s_Planner_joinOwn_59 (σ : MI) (τ : ML) (x2 : Int32) (x3 : Int64) (x5 : Int32) (K4 : Int32 → MI → ML → Prop) (K18 : Int32 → Int64 → Int32 → MI → ML → Prop) (R : MI → ML → Prop) : Prop :=
  ∀ y65 : Int32, y65 = (x5 - 1) &&& x2 → (K18 x2 x3 y65 σ τ)
def s_Planner_joinOwn_0 (σ : MI) (τ : ML) (a1 : Int32) (K4 : Int32 → MI → ML → Prop) (K18 : Int32 → Int64 → Int32 → MI → ML → Prop) (R : MI → ML → Prop) : Prop :=
  ∀ y3 : Int32, y3 = a1 - 1 → (K4 y3 σ τ)
def s_Planner_joinOwn_4 (σ : MI) (τ : ML) (x2 : Int32) (K4 : Int32 → MI → ML → Prop) (K18 : Int32 → Int64 → Int32 → MI → ML → Prop) (R : MI → ML → Prop) : Prop :=
  (x2 ≤ 0 →
  (R σ τ)) ∧
  (¬ x2 ≤ 0 →
  (vp_in x2 128 ∧ (∀ y14 : Int64, y14 = τ 20 (Int32.toNatClampNeg x2) → (K18 x2 y14 x2 σ τ))))
def s_Planner_joinOwn_18 (σ : MI) (τ : ML) (x2 : Int32) (x3 : Int64) (x5 : Int32) (K4 : Int32 → MI → ML → Prop) (K18 : Int32 → Int64 → Int32 → MI → ML → Prop) (R : MI → ML → Prop) : Prop :=
  (x5 ≤ 0 →
  (vp_in x2 128 ∧ (∀ t76 : ML, t76 = sl2 τ 20 (Int32.toNatClampNeg x2) x3 → (∀ y77 : Int32, y77 = x2 + (-1) → (K4 y77 σ t76))))) ∧
  (¬ x5 ≤ 0 →
  (vp_in x5 128 ∧ (((lg_cmp (τ 21 (Int32.toNatClampNeg x5)) ((-1))) = 0 →
    (s_Planner_joinOwn_59 σ τ x2 x3 x5 K4 K18 R)) ∧
    (¬ (lg_cmp (τ 21 (Int32.toNatClampNeg x5)) ((-1))) = 0 →
    (vp_in x5 128 ∧ (vp_in (x2 ^^^ x5) 128 ∧ (∀ y58 : Int64, y58 = if ((τ 21 (Int32.toNatClampNeg x5)) + (τ 20 (Int32.toNatClampNeg (x2 ^^^ x5)))) < x3 then ((τ 21 (Int32.toNatClampNeg x5)) + (τ 20 (Int32.toNatClampNeg (x2 ^^^ x5)))) else x3 → (s_Planner_joinOwn_59 σ τ x2 y58 x5 K4 K18 R))))))))
set_option maxHeartbeats 4000000 in
set_option maxRecDepth 100000 in
theorem k_Planner_joinOwn (l : Launch) (D : va_G) (ad : Nat → Nat) (ci cl : ClassId)
    (pre : MI → ML → Int32 → Prop) (post : MI → ML → Int32 → MI → ML → Prop)
    (I4 : MI → ML → Int32 → Int32 → MI → ML → Prop) (m4 : MI → ML → Int32 → Int32 → MI → ML → Nat)
    (I18 : MI → ML → Int32 → Int32 → Int64 → Int32 → MI → ML → Prop) (m18 : MI → ML → Int32 → Int32 → Int64 → Int32 → MI → ML → Nat)
    (v0 : ∀ (σ0 : MI) (τ0 : ML) (a1 : Int32), pre σ0 τ0 a1 → s_Planner_joinOwn_0 σ0 τ0 a1 (fun z0 σ9 τ9 => I4 σ0 τ0 a1 z0 σ9 τ9) (fun z0 z1 z2 σ9 τ9 => I18 σ0 τ0 a1 z0 z1 z2 σ9 τ9) (post σ0 τ0 a1))
    (v4 : ∀ (σ0 : MI) (τ0 : ML) (a1 : Int32) (x2 : Int32) (σ : MI) (τ : ML), I4 σ0 τ0 a1 x2 σ τ → s_Planner_joinOwn_4 σ τ x2 (fun z0 σ9 τ9 => I4 σ0 τ0 a1 z0 σ9 τ9 ∧ m4 σ0 τ0 a1 z0 σ9 τ9 < m4 σ0 τ0 a1 x2 σ τ) (fun z0 z1 z2 σ9 τ9 => I18 σ0 τ0 a1 z0 z1 z2 σ9 τ9 ∧ m18 σ0 τ0 a1 z0 z1 z2 σ9 τ9 < m4 σ0 τ0 a1 x2 σ τ) (post σ0 τ0 a1))
    (v18 : ∀ (σ0 : MI) (τ0 : ML) (a1 : Int32) (x2 : Int32) (x3 : Int64) (x5 : Int32) (σ : MI) (τ : ML), I18 σ0 τ0 a1 x2 x3 x5 σ τ → s_Planner_joinOwn_18 σ τ x2 x3 x5 (fun z0 σ9 τ9 => I4 σ0 τ0 a1 z0 σ9 τ9 ∧ m4 σ0 τ0 a1 z0 σ9 τ9 < m18 σ0 τ0 a1 x2 x3 x5 σ τ) (fun z0 z1 z2 σ9 τ9 => I18 σ0 τ0 a1 z0 z1 z2 σ9 τ9 ∧ m18 σ0 τ0 a1 z0 z1 z2 σ9 τ9 < m18 σ0 τ0 a1 x2 x3 x5 σ τ) (post σ0 τ0 a1)) :
    ∀ (sz : Nat) (σ0 : MI) (τ0 : ML) (a1 : Int32), pre σ0 τ0 a1 → gMv l D (xw ad ci cl) (xt ci cl) (xa ad) y_Planner_joinOwn w_Planner_joinOwn rm_Planner_joinOwn [.ref (ad 19), .int a1] sz σ0 τ0 (post σ0 τ0 a1) := by
  intro sz σ0 τ0 a1 hpre
  refine gk_ofWv (cc := b_Planner_joinOwn) (maxL := 6) (ret := none) (by decide) rfl xa_ok (Nat.le_of_ble_eq_true rfl) ?_
  intro p e s m below meth c ls hx hb hr hlocks hml hown hts hK hP hD hS hl
  have hl : lv_has ls 6 [(0, .ref (ad 19)), (1, .int a1)] := hl
  have hown : s.vm.findClass R_Planner = some m.cls := hown
  have hL : ∀ n : Nat, (∀ (x2 : Int32) (σ : MI) (τ : ML) (H : Heap) (locs : List Loc) (ls : Array Slot), m4 σ0 τ0 a1 x2 σ τ < n → I4 σ0 τ0 a1 x2 σ τ → va_P D classes ((xw ad ci cl) σ τ) H → va_D (gA (xa ad) s.heap.size) ((xw ad ci cl) σ τ) → va_S (gA (xa ad) s.heap.size) s.heap H locs → lv_has ls 6 [(0, .ref (ad 19)), (2, .int x2)] → W p l e rm_Planner_joinOwn s m [.ref (ad 19), .int a1].toArray below meth c H locs 0 0 (gQv D (xw ad ci cl) (xt ci cl) (xa ad) below [.ref (ad 19), .int a1] s (post σ0 τ0 a1)) (F0 m 4 ls [])) ∧
      (∀ (x2 : Int32) (x3 : Int64) (x5 : Int32) (σ : MI) (τ : ML) (H : Heap) (locs : List Loc) (ls : Array Slot), m18 σ0 τ0 a1 x2 x3 x5 σ τ < n → I18 σ0 τ0 a1 x2 x3 x5 σ τ → va_P D classes ((xw ad ci cl) σ τ) H → va_D (gA (xa ad) s.heap.size) ((xw ad ci cl) σ τ) → va_S (gA (xa ad) s.heap.size) s.heap H locs → lv_has ls 6 [(0, .ref (ad 19)), (2, .int x2), (3, .long x3), (5, .int x5)] → W p l e rm_Planner_joinOwn s m [.ref (ad 19), .int a1].toArray below meth c H locs 0 0 (gQv D (xw ad ci cl) (xt ci cl) (xa ad) below [.ref (ad 19), .int a1] s (post σ0 τ0 a1)) (F0 m 18 ls [])) := by
    intro n
    induction n with
    | zero => exact ⟨fun _ _ _ _ _ _ hn => absurd hn (Nat.not_lt_zero _), fun _ _ _ _ _ _ _ _ hn => absurd hn (Nat.not_lt_zero _)⟩
    | succ n ih =>
      refine ⟨?_, ?_⟩
      · intro x2 σ τ H locs ls hn hI hP hD hS hl
        have hv := v4 σ0 τ0 a1 x2 σ τ hI
        unfold s_Planner_joinOwn_4 at hv
        refine lv_iload_n hx hb d_Planner_joinOwn_4 rfl (lv_at hl 1 rfl) ?_
        refine lv_if_le (tgt := 83) hx hb d_Planner_joinOwn_5 (by decide) (fun hc => ?_) (fun hc => ?_)
        · replace hv := hv.1 hc
          exact gk_vret hx hb hr hlocks hK hP hD hS hv d_Planner_joinOwn_83
        · replace hv := hv.2 hc
          refine lv_aload_n hx hb d_Planner_joinOwn_8 rfl (lv_at hl 0 rfl) ?_
          refine va_get (D := D) (ci := 3) (v := .ref (ad 20)) (C := R_Planner) (T := F_Planner) (N := 2) hx hb hts iw_Planner hown hK hP 19 rfl rfl 0 (by decide) (hts _ t_w78) (fun _ h9 => h9) rfl d_Planner_joinOwn_9 ?_
          refine lv_iload_n hx hb d_Planner_joinOwn_12 rfl (lv_at hl 1 rfl) ?_
          obtain ⟨hi, hv⟩ := hv
          refine va_lald hx hb hK hP 20 1 rfl rfl hi d_Planner_joinOwn_13 ?_
          refine lv_topl (fun y14 ey14 => ?_)
          replace hv := hv y14 ey14
          refine lv_lstore_n (lv' := [(3, .long y14), (0, .ref (ad 19)), (2, .int x2)]) hx hb d_Planner_joinOwn_14 rfl hl (by decide) rfl (fun ls hl => ?_)
          refine lv_iload_n hx hb d_Planner_joinOwn_15 rfl (lv_at hl 2 rfl) ?_
          refine lv_istore (lv' := [(5, .int x2), (3, .long y14), (0, .ref (ad 19)), (2, .int x2)]) hx hb d_Planner_joinOwn_16 hl (by decide) rfl (fun ls hl => ?_)
          obtain ⟨hI, hm⟩ := hv
          exact ih.2 x2 y14 x2 σ τ _ _ _ (Nat.lt_of_lt_of_le hm (Nat.le_of_lt_succ hn)) hI hP hD hS (lv_sub hl [2, 3, 1, 0] rfl)
      · intro x2 x3 x5 σ τ H locs ls hn hI hP hD hS hl
        have hv := v18 σ0 τ0 a1 x2 x3 x5 σ τ hI
        unfold s_Planner_joinOwn_18 at hv
        have j59 : ∀ (w2 : Int32) (w3 : Int64) (w5 : Int32) (σ1 : MI) (τ1 : ML) (H : Heap) (locs : List Loc) (ls : Array Slot), s_Planner_joinOwn_59 σ1 τ1 w2 w3 w5 (fun z0 σ9 τ9 => I4 σ0 τ0 a1 z0 σ9 τ9 ∧ m4 σ0 τ0 a1 z0 σ9 τ9 < m18 σ0 τ0 a1 x2 x3 x5 σ τ) (fun z0 z1 z2 σ9 τ9 => I18 σ0 τ0 a1 z0 z1 z2 σ9 τ9 ∧ m18 σ0 τ0 a1 z0 z1 z2 σ9 τ9 < m18 σ0 τ0 a1 x2 x3 x5 σ τ) (post σ0 τ0 a1) → va_P D classes ((xw ad ci cl) σ1 τ1) H → va_D (gA (xa ad) s.heap.size) ((xw ad ci cl) σ1 τ1) → va_S (gA (xa ad) s.heap.size) s.heap H locs → lv_has ls 6 [(0, .ref (ad 19)), (2, .int w2), (3, .long w3), (5, .int w5)] → W p l e rm_Planner_joinOwn s m [.ref (ad 19), .int a1].toArray below meth c H locs 0 0 (gQv D (xw ad ci cl) (xt ci cl) (xa ad) below [.ref (ad 19), .int a1] s (post σ0 τ0 a1)) (F0 m 59 ls []) := by
          intro w2 w3 w5 σ1 τ1 H locs ls hv hP hD hS hl
          unfold s_Planner_joinOwn_59 at hv
          refine lv_iload hx hb d_Planner_joinOwn_59 (lv_at hl 3 rfl) ?_
          refine lv_iconst (v := 1) hx hb d_Planner_joinOwn_61 (by decide) ?_
          refine lv_isub hx hb d_Planner_joinOwn_62 ?_
          refine lv_iload_n hx hb d_Planner_joinOwn_63 rfl (lv_at hl 1 rfl) ?_
          refine lv_iand hx hb d_Planner_joinOwn_64 ?_
          refine lv_topi (fun y65 ey65 => ?_)
          replace hv := hv y65 ey65
          refine lv_istore (lv' := [(5, .int y65), (0, .ref (ad 19)), (2, .int w2), (3, .long w3)]) hx hb d_Planner_joinOwn_65 hl (by decide) rfl (fun ls hl => ?_)
          refine lv_goto (tgt := 18) hx hb d_Planner_joinOwn_67 (by decide) ?_
          obtain ⟨hI, hm⟩ := hv
          exact ih.2 w2 w3 y65 σ1 τ1 _ _ _ (Nat.lt_of_lt_of_le hm (Nat.le_of_lt_succ hn)) hI hP hD hS (lv_sub hl [1, 2, 3, 0] rfl)
        refine lv_iload hx hb d_Planner_joinOwn_18 (lv_at hl 3 rfl) ?_
        refine lv_if_le (tgt := 70) hx hb d_Planner_joinOwn_20 (by decide) (fun hc => ?_) (fun hc => ?_)
        · replace hv := hv.1 hc
          refine lv_aload_n hx hb d_Planner_joinOwn_70 rfl (lv_at hl 0 rfl) ?_
          refine va_get (D := D) (ci := 3) (v := .ref (ad 20)) (C := R_Planner) (T := F_Planner) (N := 2) hx hb hts iw_Planner hown hK hP 19 rfl rfl 0 (by decide) (hts _ t_w78) (fun _ h9 => h9) rfl d_Planner_joinOwn_71 ?_
          refine lv_iload_n hx hb d_Planner_joinOwn_74 rfl (lv_at hl 1 rfl) ?_
          refine lv_lload_n hx hb d_Planner_joinOwn_75 rfl (lv_at hl 2 rfl) ?_
          obtain ⟨hi, hv⟩ := hv
          refine va_last hx hb hK hP hD hS 20 1 rfl rfl hi d_Planner_joinOwn_76 (fun H locs hP hD hS => ?_)
          rw [xa_20] at hP hD
          obtain ⟨t76, et76⟩ : ∃ z : ML, z = sl2 τ 20 (Int32.toNatClampNeg x2) x3 := ⟨_, rfl⟩
          rw [← et76] at hP hD
          replace hv := hv t76 et76
          obtain ⟨y77, ey77⟩ : ∃ z : Int32, z = x2 + (-1) := ⟨_, rfl⟩
          replace hv := hv y77 ey77
          refine lv_iinc (v := y77) (lv' := [(2, .int y77), (0, .ref (ad 19)), (3, .long x3), (5, .int x5)]) hx hb d_Planner_joinOwn_77 hl (k := 1) rfl (by rw [ey77]; rfl) (by decide) rfl (fun ls hl => ?_)
          refine lv_goto (tgt := 4) hx hb d_Planner_joinOwn_80 (by decide) ?_
          obtain ⟨hI, hm⟩ := hv
          exact ih.1 y77 σ t76 _ _ _ (Nat.lt_of_lt_of_le hm (Nat.le_of_lt_succ hn)) hI hP hD hS (lv_sub hl [1, 0] rfl)
        · replace hv := hv.2 hc
          refine lv_aload_n hx hb d_Planner_joinOwn_23 rfl (lv_at hl 0 rfl) ?_
          refine va_get (D := D) (ci := 3) (v := .ref (ad 21)) (C := R_Planner) (T := F_Planner) (N := 2) hx hb hts iw_Planner hown hK hP 19 rfl rfl 1 (by decide) (hts _ t_w106) (fun _ h9 => h9) rfl d_Planner_joinOwn_24 ?_
          refine lv_iload hx hb d_Planner_joinOwn_27 (lv_at hl 3 rfl) ?_
          obtain ⟨hi, hv⟩ := hv
          refine va_lald hx hb hK hP 21 1 rfl rfl hi d_Planner_joinOwn_29 ?_
          refine lv_ldc2 (v := (-1)) hx hb hown (hts _ t_w107) d_Planner_joinOwn_30 ?_
          refine W.lcmp hx hb d_Planner_joinOwn_33 ?_
          refine lv_if_eq (tgt := 59) hx hb d_Planner_joinOwn_34 (by decide) (fun hc => ?_) (fun hc => ?_)
          · replace hv := hv.1 hc
            exact j59 x2 x3 x5 σ τ _ _ _ hv hP hD hS (lv_sub hl [0, 1, 2, 3] rfl)
          · replace hv := hv.2 hc
            refine lv_lload_n hx hb d_Planner_joinOwn_37 rfl (lv_at hl 2 rfl) ?_
            refine lv_aload_n hx hb d_Planner_joinOwn_38 rfl (lv_at hl 0 rfl) ?_
            refine va_get (D := D) (ci := 3) (v := .ref (ad 21)) (C := R_Planner) (T := F_Planner) (N := 2) hx hb hts iw_Planner hown hK hP 19 rfl rfl 1 (by decide) (hts _ t_w106) (fun _ h9 => h9) rfl d_Planner_joinOwn_39 ?_
            refine lv_iload hx hb d_Planner_joinOwn_42 (lv_at hl 3 rfl) ?_
            obtain ⟨hi, hv⟩ := hv
            refine va_lald hx hb hK hP 21 1 rfl rfl hi d_Planner_joinOwn_44 ?_
            refine lv_aload_n hx hb d_Planner_joinOwn_45 rfl (lv_at hl 0 rfl) ?_
            refine va_get (D := D) (ci := 3) (v := .ref (ad 20)) (C := R_Planner) (T := F_Planner) (N := 2) hx hb hts iw_Planner hown hK hP 19 rfl rfl 0 (by decide) (hts _ t_w78) (fun _ h9 => h9) rfl d_Planner_joinOwn_46 ?_
            refine lv_iload_n hx hb d_Planner_joinOwn_49 rfl (lv_at hl 1 rfl) ?_
            refine lv_iload hx hb d_Planner_joinOwn_50 (lv_at hl 3 rfl) ?_
            refine lv_ixor hx hb d_Planner_joinOwn_52 ?_
            obtain ⟨hi, hv⟩ := hv
            refine va_lald hx hb hK hP 20 1 rfl rfl hi d_Planner_joinOwn_53 ?_
            refine lv_ladd hx hb d_Planner_joinOwn_54 ?_
            refine va_mmin_long hx hb (hml.trans hl.1.symm) hown (hts _ t_w108) (hts _ t_w109) (hts _ t_w110) (hts _ t_w111) (Nat.le_of_ble_eq_true rfl) (Nat.le_of_ble_eq_true rfl) (Nat.zero_le _) (Nat.zero_le _) d_Planner_joinOwn_55 ?_
            refine lv_topl (fun y58 ey58 => ?_)
            replace hv := hv y58 ey58
            refine lv_lstore_n (lv' := [(3, .long y58), (0, .ref (ad 19)), (2, .int x2), (5, .int x5)]) hx hb d_Planner_joinOwn_58 rfl hl (by decide) rfl (fun ls hl => ?_)
            exact j59 x2 y58 x5 σ τ _ _ _ hv hP hD hS (lv_sub hl [1, 2, 0, 3] rfl)
  have hv := v0 σ0 τ0 a1 hpre
  unfold s_Planner_joinOwn_0 at hv
  refine lv_iload_n hx hb d_Planner_joinOwn_0 rfl (lv_at hl 1 rfl) ?_
  refine lv_iconst (v := 1) hx hb d_Planner_joinOwn_1 (by decide) ?_
  refine lv_isub hx hb d_Planner_joinOwn_2 ?_
  refine lv_topi (fun y3 ey3 => ?_)
  replace hv := hv y3 ey3
  refine lv_istore_n (lv' := [(2, .int y3), (0, .ref (ad 19)), (1, .int a1)]) hx hb d_Planner_joinOwn_3 rfl hl (by decide) rfl (fun ls hl => ?_)
  exact (hL _).1 y3 σ0 τ0 _ _ _ (Nat.lt_succ_self _) hv hP hD hS (lv_sub hl [1, 0] rfl)
theorem d_People_add_0 : decode b_People_add 0 = .ok (.aload_n 0, 1) := by decide +kernel
theorem d_People_add_1 : decode b_People_add 1 = .ok (.getfield 9, 3) := by decide +kernel
theorem d_People_add_4 : decode b_People_add 4 = .ok (.istore 5, 2) := by decide +kernel
theorem d_People_add_6 : decode b_People_add 6 = .ok (.aload_n 0, 1) := by decide +kernel
theorem d_People_add_7 : decode b_People_add 7 = .ok (.getfield 15, 3) := by decide +kernel
theorem d_People_add_10 : decode b_People_add 10 = .ok (.iload 5, 2) := by decide +kernel
theorem d_People_add_12 : decode b_People_add 12 = .ok (.iload_n 1, 1) := by decide +kernel
theorem d_People_add_13 : decode b_People_add 13 = .ok (.iastore, 1) := by decide +kernel
theorem d_People_add_14 : decode b_People_add 14 = .ok (.aload_n 0, 1) := by decide +kernel
theorem d_People_add_15 : decode b_People_add 15 = .ok (.getfield 19, 3) := by decide +kernel
theorem d_People_add_18 : decode b_People_add 18 = .ok (.iload 5, 2) := by decide +kernel
theorem d_People_add_20 : decode b_People_add 20 = .ok (.iload_n 2, 1) := by decide +kernel
theorem d_People_add_21 : decode b_People_add 21 = .ok (.iastore, 1) := by decide +kernel
theorem d_People_add_22 : decode b_People_add 22 = .ok (.aload_n 0, 1) := by decide +kernel
theorem d_People_add_23 : decode b_People_add 23 = .ok (.getfield 22, 3) := by decide +kernel
theorem d_People_add_26 : decode b_People_add 26 = .ok (.iload 5, 2) := by decide +kernel
theorem d_People_add_28 : decode b_People_add 28 = .ok (.iload_n 3, 1) := by decide +kernel
theorem d_People_add_29 : decode b_People_add 29 = .ok (.iastore, 1) := by decide +kernel
theorem d_People_add_30 : decode b_People_add 30 = .ok (.aload_n 0, 1) := by decide +kernel
theorem d_People_add_31 : decode b_People_add 31 = .ok (.getfield 25, 3) := by decide +kernel
theorem d_People_add_34 : decode b_People_add 34 = .ok (.iload 5, 2) := by decide +kernel
theorem d_People_add_36 : decode b_People_add 36 = .ok (.iload 4, 2) := by decide +kernel
theorem d_People_add_38 : decode b_People_add 38 = .ok (.iastore, 1) := by decide +kernel
theorem d_People_add_39 : decode b_People_add 39 = .ok (.aload_n 0, 1) := by decide +kernel
theorem d_People_add_40 : decode b_People_add 40 = .ok (.dup, 1) := by decide +kernel
theorem d_People_add_41 : decode b_People_add 41 = .ok (.getfield 9, 3) := by decide +kernel
theorem d_People_add_44 : decode b_People_add 44 = .ok (.iconst 1, 1) := by decide +kernel
theorem d_People_add_45 : decode b_People_add 45 = .ok (.iadd, 1) := by decide +kernel
theorem d_People_add_46 : decode b_People_add 46 = .ok (.putfield 9, 3) := by decide +kernel
theorem d_People_add_49 : decode b_People_add 49 = .ok (.iload 5, 2) := by decide +kernel
theorem d_People_add_51 : decode b_People_add 51 = .ok (.ireturn, 1) := by decide +kernel
def s_People_add_6 (σ : MI) (τ : ML) (x1 : Int32) (x2 : Int32) (x3 : Int32) (x4 : Int32) (x5 : Int32) (R : Int32 → MI → ML → Prop) : Prop :=
  vp_in x5 4 ∧ (∀ s13 : MI, s13 = st2 σ 2 (Int32.toNatClampNeg x5) x1 → (vp_in x5 4 ∧ (∀ s21 : MI, s21 = st2 s13 3 (Int32.toNatClampNeg x5) x2 → (vp_in x5 4 ∧ (∀ s29 : MI, s29 = st2 s21 4 (Int32.toNatClampNeg x5) x3 → (vp_in x5 4 ∧ (∀ s38 : MI, s38 = st2 s29 5 (Int32.toNatClampNeg x5) x4 → (∀ s46 : MI, s46 = st2 s38 1 0 ((s38 1 0) + 1) → (R x5 s46 τ)))))))))
def s_People_add_0 (σ : MI) (τ : ML) (a1 : Int32) (a2 : Int32) (a3 : Int32) (a4 : Int32) (R : Int32 → MI → ML → Prop) : Prop :=
  ∀ y4 : Int32, y4 = σ 1 0 → (s_People_add_6 σ τ a1 a2 a3 a4 y4 R)
set_option maxHeartbeats 4000000 in
set_option maxRecDepth 100000 in
theorem k_People_add (l : Launch) (D : va_G) (ad : Nat → Nat) (ci cl : ClassId)
    (pre : MI → ML → Int32 → Int32 → Int32 → Int32 → Prop) (post : MI → ML → Int32 → Int32 → Int32 → Int32 → Int32 → MI → ML → Prop)
    (v0 : ∀ (σ0 : MI) (τ0 : ML) (a1 : Int32) (a2 : Int32) (a3 : Int32) (a4 : Int32), pre σ0 τ0 a1 a2 a3 a4 → s_People_add_0 σ0 τ0 a1 a2 a3 a4 (post σ0 τ0 a1 a2 a3 a4)) :
    ∀ (sz : Nat) (σ0 : MI) (τ0 : ML) (a1 : Int32) (a2 : Int32) (a3 : Int32) (a4 : Int32), pre σ0 τ0 a1 a2 a3 a4 → gMi l D (xw ad ci cl) (xt ci cl) (xa ad) y_People_add w_People_add rm_People_add [.ref (ad 1), .int a1, .int a2, .int a3, .int a4] sz σ0 τ0 (post σ0 τ0 a1 a2 a3 a4) := by
  intro sz σ0 τ0 a1 a2 a3 a4 hpre
  refine gk_ofWi (cc := b_People_add) (maxL := 6) (ret := (some .int)) (by decide) rfl xa_ok (Nat.le_of_ble_eq_true rfl) ?_
  intro p e s m below meth c ls hx hb hr hlocks hml hown hts hK hP hD hS hl
  have hl : lv_has ls 6 [(0, .ref (ad 1)), (1, .int a1), (2, .int a2), (3, .int a3), (4, .int a4)] := hl
  have hown : s.vm.findClass R_People = some m.cls := hown
  have hv := v0 σ0 τ0 a1 a2 a3 a4 hpre
  unfold s_People_add_0 at hv
  have j6 : ∀ (w1 : Int32) (w2 : Int32) (w3 : Int32) (w4 : Int32) (w5 : Int32) (σ1 : MI) (τ1 : ML) (H : Heap) (locs : List Loc) (ls : Array Slot), s_People_add_6 σ1 τ1 w1 w2 w3 w4 w5 (post σ0 τ0 a1 a2 a3 a4) → va_P D classes ((xw ad ci cl) σ1 τ1) H → va_D (gA (xa ad) s.heap.size) ((xw ad ci cl) σ1 τ1) → va_S (gA (xa ad) s.heap.size) s.heap H locs → lv_has ls 6 [(0, .ref (ad 1)), (1, .int w1), (2, .int w2), (3, .int w3), (4, .int w4), (5, .int w5)] → W p l e rm_People_add s m [.ref (ad 1), .int a1, .int a2, .int a3, .int a4].toArray below meth c H locs 0 0 (gQi D (xw ad ci cl) (xt ci cl) (xa ad) below [.ref (ad 1), .int a1, .int a2, .int a3, .int a4] s (post σ0 τ0 a1 a2 a3 a4)) (F0 m 6 ls []) := by
    intro w1 w2 w3 w4 w5 σ1 τ1 H locs ls hv hP hD hS hl
    unfold s_People_add_6 at hv
    refine lv_aload_n hx hb d_People_add_6 rfl (lv_at hl 0 rfl) ?_
    refine va_get (D := D) (ci := 1) (v := .ref (ad 2)) (C := R_People) (T := F_People) (N := 7) hx hb hts iw_People hown hK hP 1 rfl rfl 1 (by decide) (hts _ t_w5) (fun _ h9 => h9) rfl d_People_add_7 ?_
    refine lv_iload hx hb d_People_add_10 (lv_at hl 5 rfl) ?_
    refine lv_iload_n hx hb d_People_add_12 rfl (lv_at hl 1 rfl) ?_
    obtain ⟨hi, hv⟩ := hv
    refine va_iast hx hb hK hP hD hS 2 0 rfl rfl hi d_People_add_13 (fun H locs hP hD hS => ?_)
    rw [xa_2] at hP hD
    obtain ⟨s13, es13⟩ : ∃ z : MI, z = st2 σ1 2 (Int32.toNatClampNeg w5) w1 := ⟨_, rfl⟩
    rw [← es13] at hP hD
    replace hv := hv s13 es13
    refine lv_aload_n hx hb d_People_add_14 rfl (lv_at hl 0 rfl) ?_
    refine va_get (D := D) (ci := 1) (v := .ref (ad 3)) (C := R_People) (T := F_People) (N := 7) hx hb hts iw_People hown hK hP 1 rfl rfl 2 (by decide) (hts _ t_w6) (fun _ h9 => h9) rfl d_People_add_15 ?_
    refine lv_iload hx hb d_People_add_18 (lv_at hl 5 rfl) ?_
    refine lv_iload_n hx hb d_People_add_20 rfl (lv_at hl 2 rfl) ?_
    obtain ⟨hi, hv⟩ := hv
    refine va_iast hx hb hK hP hD hS 3 0 rfl rfl hi d_People_add_21 (fun H locs hP hD hS => ?_)
    rw [xa_3] at hP hD
    obtain ⟨s21, es21⟩ : ∃ z : MI, z = st2 s13 3 (Int32.toNatClampNeg w5) w2 := ⟨_, rfl⟩
    rw [← es21] at hP hD
    replace hv := hv s21 es21
    refine lv_aload_n hx hb d_People_add_22 rfl (lv_at hl 0 rfl) ?_
    refine va_get (D := D) (ci := 1) (v := .ref (ad 4)) (C := R_People) (T := F_People) (N := 7) hx hb hts iw_People hown hK hP 1 rfl rfl 3 (by decide) (hts _ t_w7) (fun _ h9 => h9) rfl d_People_add_23 ?_
    refine lv_iload hx hb d_People_add_26 (lv_at hl 5 rfl) ?_
    refine lv_iload_n hx hb d_People_add_28 rfl (lv_at hl 3 rfl) ?_
    obtain ⟨hi, hv⟩ := hv
    refine va_iast hx hb hK hP hD hS 4 0 rfl rfl hi d_People_add_29 (fun H locs hP hD hS => ?_)
    rw [xa_4] at hP hD
    obtain ⟨s29, es29⟩ : ∃ z : MI, z = st2 s21 4 (Int32.toNatClampNeg w5) w3 := ⟨_, rfl⟩
    rw [← es29] at hP hD
    replace hv := hv s29 es29
    refine lv_aload_n hx hb d_People_add_30 rfl (lv_at hl 0 rfl) ?_
    refine va_get (D := D) (ci := 1) (v := .ref (ad 5)) (C := R_People) (T := F_People) (N := 7) hx hb hts iw_People hown hK hP 1 rfl rfl 4 (by decide) (hts _ t_w8) (fun _ h9 => h9) rfl d_People_add_31 ?_
    refine lv_iload hx hb d_People_add_34 (lv_at hl 5 rfl) ?_
    refine lv_iload hx hb d_People_add_36 (lv_at hl 4 rfl) ?_
    obtain ⟨hi, hv⟩ := hv
    refine va_iast hx hb hK hP hD hS 5 0 rfl rfl hi d_People_add_38 (fun H locs hP hD hS => ?_)
    rw [xa_5] at hP hD
    obtain ⟨s38, es38⟩ : ∃ z : MI, z = st2 s29 5 (Int32.toNatClampNeg w5) w4 := ⟨_, rfl⟩
    rw [← es38] at hP hD
    replace hv := hv s38 es38
    refine lv_aload_n hx hb d_People_add_39 rfl (lv_at hl 0 rfl) ?_
    refine lv_dup hx hb d_People_add_40 rfl ?_
    refine va_get (D := D) (ci := 1) (v := .int (s38 1 0)) (C := R_People) (T := F_People) (N := 7) hx hb hts iw_People hown hK hP 1 rfl rfl 0 (by decide) (hts _ t_w4) (fun _ h9 => h9) rfl d_People_add_41 ?_
    refine lv_iconst (v := 1) hx hb d_People_add_44 (by decide) ?_
    refine lv_iadd hx hb d_People_add_45 ?_
    refine va_put (D := D) (ci := 1) (v := .int ((s38 1 0) + 1)) (ty := .int) (fs := [.int (s38 1 0), .ref (ad 2), .ref (ad 3), .ref (ad 4), .ref (ad 5), .ref (ad 6), .ref (ad 7)]) (C := R_People) (T := F_People) (N := 7) hx hb hts iw_People ty_People ty_People_ok nn_People hown hK hP hD hS 1 rfl rfl 0 (by decide) (hts _ t_w4) (fun _ h9 => h9) rfl (by decide +kernel) rfl rfl (Nat.le_of_ble_eq_true rfl) d_People_add_46 (fun H locs hP hD hS => ?_)
    rw [xf_1_0] at hP hD
    obtain ⟨s46, es46⟩ : ∃ z : MI, z = st2 s38 1 0 ((s38 1 0) + 1) := ⟨_, rfl⟩
    rw [← es46] at hP hD
    replace hv := hv s46 es46
    refine lv_iload hx hb d_People_add_49 (lv_at hl 5 rfl) ?_
    exact gk_iret hx hb hr hlocks hK hP hD hS hv d_People_add_51
  refine lv_aload_n hx hb d_People_add_0 rfl (lv_at hl 0 rfl) ?_
  refine va_get (D := D) (ci := 1) (v := .int (σ0 1 0)) (C := R_People) (T := F_People) (N := 7) hx hb hts iw_People hown hK hP 1 rfl rfl 0 (by decide) (hts _ t_w4) (fun _ h9 => h9) rfl d_People_add_1 ?_
  refine lv_topi (fun y4 ey4 => ?_)
  replace hv := hv y4 ey4
  refine lv_istore (lv' := [(5, .int y4), (0, .ref (ad 1)), (1, .int a1), (2, .int a2), (3, .int a3), (4, .int a4)]) hx hb d_People_add_4 hl (by decide) rfl (fun ls hl => ?_)
  exact j6 a1 a2 a3 a4 y4 σ0 τ0 _ _ _ hv hP hD hS (lv_sub hl [1, 2, 3, 4, 5, 0] rfl)
theorem d_Plan_keepDoers_0 : decode b_Plan_keepDoers 0 = .ok (.aload_n 0, 1) := by decide +kernel
theorem d_Plan_keepDoers_1 : decode b_Plan_keepDoers 1 = .ok (.getfield 25, 3) := by decide +kernel
theorem d_Plan_keepDoers_4 : decode b_Plan_keepDoers 4 = .ok (.iconst 0, 1) := by decide +kernel
theorem d_Plan_keepDoers_5 : decode b_Plan_keepDoers 5 = .ok (.aload_n 0, 1) := by decide +kernel
theorem d_Plan_keepDoers_6 : decode b_Plan_keepDoers 6 = .ok (.getfield 38, 3) := by decide +kernel
theorem d_Plan_keepDoers_9 : decode b_Plan_keepDoers 9 = .ok (.iconst 0, 1) := by decide +kernel
theorem d_Plan_keepDoers_10 : decode b_Plan_keepDoers 10 = .ok (.bipush 7, 2) := by decide +kernel
theorem d_Plan_keepDoers_12 : decode b_Plan_keepDoers 12 = .ok (.invokestatic 41, 3) := by decide +kernel
theorem d_Plan_keepDoers_15 : decode b_Plan_keepDoers 15 = .ok (.return_, 1) := by decide +kernel
def s_Plan_keepDoers_0 (σ : MI) (τ : ML) (R : MI → ML → Prop) : Prop :=
  ∀ s12 : MI, s12 = st1 σ 27 (va_cpy (σ 23) (σ 27) (Int32.toNatClampNeg 0) (Int32.toNatClampNeg 0) (Int32.toNatClampNeg 7)) → (R s12 τ)
set_option maxHeartbeats 4000000 in
set_option maxRecDepth 100000 in
theorem k_Plan_keepDoers (l : Launch) (D : va_G) (ad : Nat → Nat) (ci cl : ClassId)
    (pre : MI → ML → Prop) (post : MI → ML → MI → ML → Prop)
    (v0 : ∀ (σ0 : MI) (τ0 : ML), pre σ0 τ0 → s_Plan_keepDoers_0 σ0 τ0 (post σ0 τ0)) :
    ∀ (sz : Nat) (σ0 : MI) (τ0 : ML), pre σ0 τ0 → gMv l D (xw ad ci cl) (xt ci cl) (xa ad) y_Plan_keepDoers w_Plan_keepDoers rm_Plan_keepDoers [.ref (ad 22)] sz σ0 τ0 (post σ0 τ0) := by
  intro sz σ0 τ0 hpre
  refine gk_ofWv (cc := b_Plan_keepDoers) (maxL := 1) (ret := none) (by decide) rfl xa_ok (Nat.le_of_ble_eq_true rfl) ?_
  intro p e s m below meth c ls hx hb hr hlocks hml hown hts hK hP hD hS hl
  have hl : lv_has ls 1 [(0, .ref (ad 22))] := hl
  have hown : s.vm.findClass R_Plan = some m.cls := hown
  have hv := v0 σ0 τ0 hpre
  unfold s_Plan_keepDoers_0 at hv
  refine lv_aload_n hx hb d_Plan_keepDoers_0 rfl (lv_at hl 0 rfl) ?_
  refine va_get (D := D) (ci := 2) (v := .ref (ad 23)) (C := R_Plan) (T := F_Plan) (N := 9) hx hb hts iw_Plan hown hK hP 22 rfl rfl 4 (by decide) (hts _ t_w133) (fun _ h9 => h9) rfl d_Plan_keepDoers_1 ?_
  refine lv_iconst (v := 0) hx hb d_Plan_keepDoers_4 (by decide) ?_
  refine lv_aload_n hx hb d_Plan_keepDoers_5 rfl (lv_at hl 0 rfl) ?_
  refine va_get (D := D) (ci := 2) (v := .ref (ad 27)) (C := R_Plan) (T := F_Plan) (N := 9) hx hb hts iw_Plan hown hK hP 22 rfl rfl 8 (by decide) (hts _ t_w216) (fun _ h9 => h9) rfl d_Plan_keepDoers_6 ?_
  refine lv_iconst (v := 0) hx hb d_Plan_keepDoers_9 (by decide) ?_
  refine lv_bipush (v := 7) hx hb d_Plan_keepDoers_10 (by decide) ?_
  refine va_copyi hx hb (hml.trans hl.1.symm) hown (hts _ t_w217) (hts _ t_w218) (hts _ t_w219) (hts _ t_w220) hK hP hD hS 23 27 0 0 rfl rfl rfl rfl rfl (by decide) (by decide) (by decide) (by decide) (by decide) (fun _ _ => rfl) (Nat.le_of_ble_eq_true rfl) (by decide +kernel) d_Plan_keepDoers_12 (fun H locs hP hD hS => ?_)
  rw [xc_27] at hP hD
  obtain ⟨s12, es12⟩ : ∃ z : MI, z = st1 σ0 27 (va_cpy (σ0 23) (σ0 27) (Int32.toNatClampNeg 0) (Int32.toNatClampNeg 0) (Int32.toNatClampNeg 7)) := ⟨_, rfl⟩
  rw [← es12] at hP hD
  replace hv := hv s12 es12
  exact gk_vret hx hb hr hlocks hK hP hD hS hv d_Plan_keepDoers_15
theorem d_PT_count_0 : decode b_PT_count 0 = .ok (.iload_n 1, 1) := by decide +kernel
theorem d_PT_count_1 : decode b_PT_count 1 = .ok (.bipush 10, 2) := by decide +kernel
theorem d_PT_count_3 : decode b_PT_count 3 = .ok (.if_icmp .lt 30, 3) := by decide +kernel
theorem d_PT_count_6 : decode b_PT_count 6 = .ok (.iload_n 1, 1) := by decide +kernel
theorem d_PT_count_7 : decode b_PT_count 7 = .ok (.bipush 10, 2) := by decide +kernel
theorem d_PT_count_9 : decode b_PT_count 9 = .ok (.isub, 1) := by decide +kernel
theorem d_PT_count_10 : decode b_PT_count 10 = .ok (.istore_n 2, 1) := by decide +kernel
theorem d_PT_count_11 : decode b_PT_count 11 = .ok (.aload_n 0, 1) := by decide +kernel
theorem d_PT_count_12 : decode b_PT_count 12 = .ok (.iload_n 2, 1) := by decide +kernel
theorem d_PT_count_13 : decode b_PT_count 13 = .ok (.invokevirtual 115, 3) := by decide +kernel
theorem d_PT_count_16 : decode b_PT_count 16 = .ok (.ifCond .eq 15, 3) := by decide +kernel
theorem d_PT_count_19 : decode b_PT_count 19 = .ok (.aload_n 0, 1) := by decide +kernel
theorem d_PT_count_20 : decode b_PT_count 20 = .ok (.getfield 10, 3) := by decide +kernel
theorem d_PT_count_23 : decode b_PT_count 23 = .ok (.getfield 191, 3) := by decide +kernel
theorem d_PT_count_26 : decode b_PT_count 26 = .ok (.iload_n 2, 1) := by decide +kernel
theorem d_PT_count_27 : decode b_PT_count 27 = .ok (.iaload, 1) := by decide +kernel
theorem d_PT_count_28 : decode b_PT_count 28 = .ok (.goto 4, 3) := by decide +kernel
theorem d_PT_count_31 : decode b_PT_count 31 = .ok (.iconst (-1), 1) := by decide +kernel
theorem d_PT_count_32 : decode b_PT_count 32 = .ok (.ireturn, 1) := by decide +kernel
theorem d_PT_count_33 : decode b_PT_count 33 = .ok (.iload_n 1, 1) := by decide +kernel
theorem d_PT_count_34 : decode b_PT_count 34 = .ok (.tableswitch 122 0 5 #[38, 46, 54, 62, 78, 100], 38) := by decide +kernel
theorem d_PT_count_72 : decode b_PT_count 72 = .ok (.aload_n 0, 1) := by decide +kernel
theorem d_PT_count_73 : decode b_PT_count 73 = .ok (.getfield 10, 3) := by decide +kernel
theorem d_PT_count_76 : decode b_PT_count 76 = .ok (.getfield 69, 3) := by decide +kernel
theorem d_PT_count_79 : decode b_PT_count 79 = .ok (.ireturn, 1) := by decide +kernel
theorem d_PT_count_80 : decode b_PT_count 80 = .ok (.aload_n 0, 1) := by decide +kernel
theorem d_PT_count_81 : decode b_PT_count 81 = .ok (.getfield 26, 3) := by decide +kernel
theorem d_PT_count_84 : decode b_PT_count 84 = .ok (.getfield 92, 3) := by decide +kernel
theorem d_PT_count_87 : decode b_PT_count 87 = .ok (.ireturn, 1) := by decide +kernel
theorem d_PT_count_88 : decode b_PT_count 88 = .ok (.aload_n 0, 1) := by decide +kernel
theorem d_PT_count_89 : decode b_PT_count 89 = .ok (.getfield 19, 3) := by decide +kernel
theorem d_PT_count_92 : decode b_PT_count 92 = .ok (.getfield 102, 3) := by decide +kernel
theorem d_PT_count_95 : decode b_PT_count 95 = .ok (.ireturn, 1) := by decide +kernel
theorem d_PT_count_96 : decode b_PT_count 96 = .ok (.aload_n 0, 1) := by decide +kernel
theorem d_PT_count_97 : decode b_PT_count 97 = .ok (.getfield 47, 3) := by decide +kernel
theorem d_PT_count_100 : decode b_PT_count 100 = .ok (.getfield 78, 3) := by decide +kernel
theorem d_PT_count_103 : decode b_PT_count 103 = .ok (.ifCond .eq 7, 3) := by decide +kernel
theorem d_PT_count_106 : decode b_PT_count 106 = .ok (.iconst 1, 1) := by decide +kernel
theorem d_PT_count_107 : decode b_PT_count 107 = .ok (.goto 4, 3) := by decide +kernel
theorem d_PT_count_110 : decode b_PT_count 110 = .ok (.iconst 0, 1) := by decide +kernel
theorem d_PT_count_111 : decode b_PT_count 111 = .ok (.ireturn, 1) := by decide +kernel
theorem d_PT_count_112 : decode b_PT_count 112 = .ok (.aload_n 0, 1) := by decide +kernel
theorem d_PT_count_113 : decode b_PT_count 113 = .ok (.getfield 47, 3) := by decide +kernel
theorem d_PT_count_116 : decode b_PT_count 116 = .ok (.getfield 78, 3) := by decide +kernel
theorem d_PT_count_119 : decode b_PT_count 119 = .ok (.ifCond .eq 13, 3) := by decide +kernel
theorem d_PT_count_122 : decode b_PT_count 122 = .ok (.aload_n 0, 1) := by decide +kernel
theorem d_PT_count_123 : decode b_PT_count 123 = .ok (.getfield 47, 3) := by decide +kernel
theorem d_PT_count_126 : decode b_PT_count 126 = .ok (.getfield 125, 3) := by decide +kernel
theorem d_PT_count_129 : decode b_PT_count 129 = .ok (.goto 4, 3) := by decide +kernel
theorem d_PT_count_132 : decode b_PT_count 132 = .ok (.iconst (-1), 1) := by decide +kernel
theorem d_PT_count_133 : decode b_PT_count 133 = .ok (.ireturn, 1) := by decide +kernel
theorem d_PT_count_134 : decode b_PT_count 134 = .ok (.aload_n 0, 1) := by decide +kernel
theorem d_PT_count_135 : decode b_PT_count 135 = .ok (.getfield 47, 3) := by decide +kernel
theorem d_PT_count_138 : decode b_PT_count 138 = .ok (.getfield 78, 3) := by decide +kernel
theorem d_PT_count_141 : decode b_PT_count 141 = .ok (.ifCond .eq 13, 3) := by decide +kernel
theorem d_PT_count_144 : decode b_PT_count 144 = .ok (.aload_n 0, 1) := by decide +kernel
theorem d_PT_count_145 : decode b_PT_count 145 = .ok (.getfield 47, 3) := by decide +kernel
theorem d_PT_count_148 : decode b_PT_count 148 = .ok (.getfield 194, 3) := by decide +kernel
theorem d_PT_count_151 : decode b_PT_count 151 = .ok (.goto 4, 3) := by decide +kernel
theorem d_PT_count_154 : decode b_PT_count 154 = .ok (.iconst (-1), 1) := by decide +kernel
theorem d_PT_count_155 : decode b_PT_count 155 = .ok (.ireturn, 1) := by decide +kernel
theorem d_PT_count_156 : decode b_PT_count 156 = .ok (.iconst (-1), 1) := by decide +kernel
theorem d_PT_count_157 : decode b_PT_count 157 = .ok (.ireturn, 1) := by decide +kernel
def s_PT_count_33 (P_PT_isPerson : MI → ML → Int32 → Prop) (Q_PT_isPerson : MI → ML → Int32 → Int32 → MI → ML → Prop) (σ : MI) (τ : ML) (x1 : Int32) (R : Int32 → MI → ML → Prop) : Prop :=
  (x1 = 0 →
  (R (σ 1 0) σ τ)) ∧ (¬ x1 = 0 →
  ((x1 = 1 →
  (R (σ 15 0) σ τ)) ∧ (¬ x1 = 1 →
  ((x1 = 2 →
  (R (σ 8 0) σ τ)) ∧ (¬ x1 = 2 →
  ((x1 = 3 →
  (((σ 22 0) = 0 →
    (R 0 σ τ)) ∧
    (¬ (σ 22 0) = 0 →
    (R 1 σ τ)))) ∧ (¬ x1 = 3 →
  ((x1 = 4 →
  (((σ 22 0) = 0 →
    (R ((-1)) σ τ)) ∧
    (¬ (σ 22 0) = 0 →
    (R (σ 22 2) σ τ)))) ∧ (¬ x1 = 4 →
  ((x1 = 5 →
  (((σ 22 0) = 0 →
    (R ((-1)) σ τ)) ∧
    (¬ (σ 22 0) = 0 →
    (R (σ 22 1) σ τ)))) ∧ (¬ x1 = 5 →
  (R ((-1)) σ τ))))))))))))
def s_PT_count_6 (P_PT_isPerson : MI → ML → Int32 → Prop) (Q_PT_isPerson : MI → ML → Int32 → Int32 → MI → ML → Prop) (σ : MI) (τ : ML) (x1 : Int32) (R : Int32 → MI → ML → Prop) : Prop :=
  ∀ y10 : Int32, y10 = x1 - 10 → (P_PT_isPerson σ τ y10 ∧ ∀ (r13 : Int32) (s13 : MI) (t13 : ML), Q_PT_isPerson σ τ y10 r13 s13 t13 → ((r13 = 0 →
  (R ((-1)) s13 t13)) ∧
  (¬ r13 = 0 →
  (vp_in y10 4 ∧ (R (s13 7 (Int32.toNatClampNeg y10)) s13 t13)))))
def s_PT_count_0 (P_PT_isPerson : MI → ML → Int32 → Prop) (Q_PT_isPerson : MI → ML → Int32 → Int32 → MI → ML → Prop) (σ : MI) (τ : ML) (a1 : Int32) (R : Int32 → MI → ML → Prop) : Prop :=
  (a1 < 10 →
  (s_PT_count_33 P_PT_isPerson Q_PT_isPerson σ τ a1 R)) ∧
  (¬ a1 < 10 →
  (s_PT_count_6 P_PT_isPerson Q_PT_isPerson σ τ a1 R))
set_option maxHeartbeats 4000000 in
set_option maxRecDepth 100000 in
theorem k_PT_count (l : Launch) (D : va_G) (ad : Nat → Nat) (ci cl : ClassId)
    (pre : MI → ML → Int32 → Prop) (post : MI → ML → Int32 → Int32 → MI → ML → Prop) (P_PT_isPerson : MI → ML → Int32 → Prop) (Q_PT_isPerson : MI → ML → Int32 → Int32 → MI → ML → Prop)
    (h_PT_isPerson : ∀ (sz : Nat) (σ : MI) (τ : ML) (b0 : Int32), P_PT_isPerson σ τ b0 → gMi l D (xw ad ci cl) (xt ci cl) (xa ad) y_PT_isPerson w_PT_isPerson rm_PT_isPerson [.ref (ad 0), .int b0] sz σ τ (Q_PT_isPerson σ τ b0))
    (v0 : ∀ (σ0 : MI) (τ0 : ML) (a1 : Int32), pre σ0 τ0 a1 → s_PT_count_0 P_PT_isPerson Q_PT_isPerson σ0 τ0 a1 (post σ0 τ0 a1)) :
    ∀ (sz : Nat) (σ0 : MI) (τ0 : ML) (a1 : Int32), pre σ0 τ0 a1 → gMi l D (xw ad ci cl) (xt ci cl) (xa ad) y_PT_count w_PT_count rm_PT_count [.ref (ad 0), .int a1] sz σ0 τ0 (post σ0 τ0 a1) := by
  intro sz σ0 τ0 a1 hpre
  refine gk_ofWi (cc := b_PT_count) (maxL := 3) (ret := (some .int)) (by decide) rfl xa_ok (Nat.le_of_ble_eq_true rfl) ?_
  intro p e s m below meth c ls hx hb hr hlocks hml hown hts hK hP hD hS hl
  have hl : lv_has ls 3 [(0, .ref (ad 0)), (1, .int a1)] := hl
  have hown : s.vm.findClass R_PT = some m.cls := hown
  have hv := v0 σ0 τ0 a1 hpre
  unfold s_PT_count_0 at hv
  have j33 : ∀ (w1 : Int32) (σ1 : MI) (τ1 : ML) (H : Heap) (locs : List Loc) (ls : Array Slot), s_PT_count_33 P_PT_isPerson Q_PT_isPerson σ1 τ1 w1 (post σ0 τ0 a1) → va_P D classes ((xw ad ci cl) σ1 τ1) H → va_D (gA (xa ad) s.heap.size) ((xw ad ci cl) σ1 τ1) → va_S (gA (xa ad) s.heap.size) s.heap H locs → lv_has ls 3 [(0, .ref (ad 0)), (1, .int w1)] → W p l e rm_PT_count s m [.ref (ad 0), .int a1].toArray below meth c H locs 0 0 (gQi D (xw ad ci cl) (xt ci cl) (xa ad) below [.ref (ad 0), .int a1] s (post σ0 τ0 a1)) (F0 m 33 ls []) := by
    intro w1 σ1 τ1 H locs ls hv hP hD hS hl
    unfold s_PT_count_33 at hv
    refine lv_iload_n hx hb d_PT_count_33 rfl (lv_at hl 1 rfl) ?_
    by_cases hc0 : w1 = 0
    · replace hv := hv.1 hc0
      refine lv_tableIn (off := 38) (tgt := 72) hx hb d_PT_count_34 (by rw [hc0]; decide) (by rw [hc0]; decide) (by rw [hc0]; rfl) (by decide) ?_
      refine lv_aload_n hx hb d_PT_count_72 rfl (lv_at hl 0 rfl) ?_
      refine va_get (D := D) (ci := 6) (v := .ref (ad 1)) (C := R_PT) (T := F_PT) (N := 6) hx hb hts iw_PT hown hK hP 0 rfl rfl 0 (by decide) (hts _ t_w18) (fun _ h9 => h9) rfl d_PT_count_73 ?_
      refine va_get (D := D) (ci := 1) (v := .int (σ1 1 0)) (C := R_People) (T := F_People) (N := 7) hx hb hts iw_People hown hK hP 1 rfl rfl 0 (by decide) (hts _ t_w19) (fun _ h9 => h9) rfl d_PT_count_76 ?_
      exact gk_iret hx hb hr hlocks hK hP hD hS hv d_PT_count_79
    replace hv := hv.2 hc0
    by_cases hc1 : w1 = 1
    · replace hv := hv.1 hc1
      refine lv_tableIn (off := 46) (tgt := 80) hx hb d_PT_count_34 (by rw [hc1]; decide) (by rw [hc1]; decide) (by rw [hc1]; rfl) (by decide) ?_
      refine lv_aload_n hx hb d_PT_count_80 rfl (lv_at hl 0 rfl) ?_
      refine va_get (D := D) (ci := 6) (v := .ref (ad 15)) (C := R_PT) (T := F_PT) (N := 6) hx hb hts iw_PT hown hK hP 0 rfl rfl 2 (by decide) (hts _ t_w29) (fun _ h9 => h9) rfl d_PT_count_81 ?_
      refine va_get (D := D) (ci := 4) (v := .int (σ1 15 0)) (C := R_Tugs) (T := F_Tugs) (N := 2) hx hb hts iw_Tugs hown hK hP 15 rfl rfl 0 (by decide) (hts _ t_w30) (fun _ h9 => h9) rfl d_PT_count_84 ?_
      exact gk_iret hx hb hr hlocks hK hP hD hS hv d_PT_count_87
    replace hv := hv.2 hc1
    by_cases hc2 : w1 = 2
    · replace hv := hv.1 hc2
      refine lv_tableIn (off := 54) (tgt := 88) hx hb d_PT_count_34 (by rw [hc2]; decide) (by rw [hc2]; decide) (by rw [hc2]; rfl) (by decide) ?_
      refine lv_aload_n hx hb d_PT_count_88 rfl (lv_at hl 0 rfl) ?_
      refine va_get (D := D) (ci := 6) (v := .ref (ad 8)) (C := R_PT) (T := F_PT) (N := 6) hx hb hts iw_PT hown hK hP 0 rfl rfl 1 (by decide) (hts _ t_w42) (fun _ h9 => h9) rfl d_PT_count_89 ?_
      refine va_get (D := D) (ci := 0) (v := .int (σ1 8 0)) (C := R_Jobs) (T := F_Jobs) (N := 7) hx hb hts iw_Jobs hown hK hP 8 rfl rfl 0 (by decide) (hts _ t_w43) (fun _ h9 => h9) rfl d_PT_count_92 ?_
      exact gk_iret hx hb hr hlocks hK hP hD hS hv d_PT_count_95
    replace hv := hv.2 hc2
    by_cases hc3 : w1 = 3
    · replace hv := hv.1 hc3
      refine lv_tableIn (off := 62) (tgt := 96) hx hb d_PT_count_34 (by rw [hc3]; decide) (by rw [hc3]; decide) (by rw [hc3]; rfl) (by decide) ?_
      refine lv_aload_n hx hb d_PT_count_96 rfl (lv_at hl 0 rfl) ?_
      refine va_get (D := D) (ci := 6) (v := .ref (ad 22)) (C := R_PT) (T := F_PT) (N := 6) hx hb hts iw_PT hown hK hP 0 rfl rfl 5 (by decide) (hts _ t_w20) (fun _ h9 => h9) rfl d_PT_count_97 ?_
      refine va_get (D := D) (ci := 2) (v := .int (σ1 22 0)) (C := R_Plan) (T := F_Plan) (N := 9) hx hb hts iw_Plan hown hK hP 22 rfl rfl 0 (by decide) (hts _ t_w21) (fun _ h9 => h9) rfl d_PT_count_100 ?_
      refine lv_if_eq (tgt := 110) hx hb d_PT_count_103 (by decide) (fun hc => ?_) (fun hc => ?_)
      · replace hv := hv.1 hc
        refine lv_iconst (v := 0) hx hb d_PT_count_110 (by decide) ?_
        exact gk_iret hx hb hr hlocks hK hP hD hS hv d_PT_count_111
      · replace hv := hv.2 hc
        refine lv_iconst (v := 1) hx hb d_PT_count_106 (by decide) ?_
        refine lv_goto (tgt := 111) hx hb d_PT_count_107 (by decide) ?_
        exact gk_iret hx hb hr hlocks hK hP hD hS hv d_PT_count_111
    replace hv := hv.2 hc3
    by_cases hc4 : w1 = 4
    · replace hv := hv.1 hc4
      refine lv_tableIn (off := 78) (tgt := 112) hx hb d_PT_count_34 (by rw [hc4]; decide) (by rw [hc4]; decide) (by rw [hc4]; rfl) (by decide) ?_
      refine lv_aload_n hx hb d_PT_count_112 rfl (lv_at hl 0 rfl) ?_
      refine va_get (D := D) (ci := 6) (v := .ref (ad 22)) (C := R_PT) (T := F_PT) (N := 6) hx hb hts iw_PT hown hK hP 0 rfl rfl 5 (by decide) (hts _ t_w20) (fun _ h9 => h9) rfl d_PT_count_113 ?_
      refine va_get (D := D) (ci := 2) (v := .int (σ1 22 0)) (C := R_Plan) (T := F_Plan) (N := 9) hx hb hts iw_Plan hown hK hP 22 rfl rfl 0 (by decide) (hts _ t_w21) (fun _ h9 => h9) rfl d_PT_count_116 ?_
      refine lv_if_eq (tgt := 132) hx hb d_PT_count_119 (by decide) (fun hc => ?_) (fun hc => ?_)
      · replace hv := hv.1 hc
        refine lv_iconst (v := (-1)) hx hb d_PT_count_132 (by decide) ?_
        exact gk_iret hx hb hr hlocks hK hP hD hS hv d_PT_count_133
      · replace hv := hv.2 hc
        refine lv_aload_n hx hb d_PT_count_122 rfl (lv_at hl 0 rfl) ?_
        refine va_get (D := D) (ci := 6) (v := .ref (ad 22)) (C := R_PT) (T := F_PT) (N := 6) hx hb hts iw_PT hown hK hP 0 rfl rfl 5 (by decide) (hts _ t_w20) (fun _ h9 => h9) rfl d_PT_count_123 ?_
        refine va_get (D := D) (ci := 2) (v := .int (σ1 22 2)) (C := R_Plan) (T := F_Plan) (N := 9) hx hb hts iw_Plan hown hK hP 22 rfl rfl 2 (by decide) (hts _ t_w198) (fun _ h9 => h9) rfl d_PT_count_126 ?_
        refine lv_goto (tgt := 133) hx hb d_PT_count_129 (by decide) ?_
        exact gk_iret hx hb hr hlocks hK hP hD hS hv d_PT_count_133
    replace hv := hv.2 hc4
    by_cases hc5 : w1 = 5
    · replace hv := hv.1 hc5
      refine lv_tableIn (off := 100) (tgt := 134) hx hb d_PT_count_34 (by rw [hc5]; decide) (by rw [hc5]; decide) (by rw [hc5]; rfl) (by decide) ?_
      refine lv_aload_n hx hb d_PT_count_134 rfl (lv_at hl 0 rfl) ?_
      refine va_get (D := D) (ci := 6) (v := .ref (ad 22)) (C := R_PT) (T := F_PT) (N := 6) hx hb hts iw_PT hown hK hP 0 rfl rfl 5 (by decide) (hts _ t_w20) (fun _ h9 => h9) rfl d_PT_count_135 ?_
      refine va_get (D := D) (ci := 2) (v := .int (σ1 22 0)) (C := R_Plan) (T := F_Plan) (N := 9) hx hb hts iw_Plan hown hK hP 22 rfl rfl 0 (by decide) (hts _ t_w21) (fun _ h9 => h9) rfl d_PT_count_138 ?_
      refine lv_if_eq (tgt := 154) hx hb d_PT_count_141 (by decide) (fun hc => ?_) (fun hc => ?_)
      · replace hv := hv.1 hc
        refine lv_iconst (v := (-1)) hx hb d_PT_count_154 (by decide) ?_
        exact gk_iret hx hb hr hlocks hK hP hD hS hv d_PT_count_155
      · replace hv := hv.2 hc
        refine lv_aload_n hx hb d_PT_count_144 rfl (lv_at hl 0 rfl) ?_
        refine va_get (D := D) (ci := 6) (v := .ref (ad 22)) (C := R_PT) (T := F_PT) (N := 6) hx hb hts iw_PT hown hK hP 0 rfl rfl 5 (by decide) (hts _ t_w20) (fun _ h9 => h9) rfl d_PT_count_145 ?_
        refine va_get (D := D) (ci := 2) (v := .int (σ1 22 1)) (C := R_Plan) (T := F_Plan) (N := 9) hx hb hts iw_Plan hown hK hP 22 rfl rfl 1 (by decide) (hts _ t_w180) (fun _ h9 => h9) rfl d_PT_count_148 ?_
        refine lv_goto (tgt := 155) hx hb d_PT_count_151 (by decide) ?_
        exact gk_iret hx hb hr hlocks hK hP hD hS hv d_PT_count_155
    replace hv := hv.2 hc5
    refine lv_tableOut (tgt := 156) hx hb d_PT_count_34 (by have h0 := gk_ne hc0 (z := 0) (by decide); have h1 := gk_ne hc1 (z := 1) (by decide); have h2 := gk_ne hc2 (z := 2) (by decide); have h3 := gk_ne hc3 (z := 3) (by decide); have h4 := gk_ne hc4 (z := 4) (by decide); have h5 := gk_ne hc5 (z := 5) (by decide); omega) (by decide) ?_
    refine lv_iconst (v := (-1)) hx hb d_PT_count_156 (by decide) ?_
    exact gk_iret hx hb hr hlocks hK hP hD hS hv d_PT_count_157
  have j6 : ∀ (w1 : Int32) (σ1 : MI) (τ1 : ML) (H : Heap) (locs : List Loc) (ls : Array Slot), s_PT_count_6 P_PT_isPerson Q_PT_isPerson σ1 τ1 w1 (post σ0 τ0 a1) → va_P D classes ((xw ad ci cl) σ1 τ1) H → va_D (gA (xa ad) s.heap.size) ((xw ad ci cl) σ1 τ1) → va_S (gA (xa ad) s.heap.size) s.heap H locs → lv_has ls 3 [(0, .ref (ad 0)), (1, .int w1)] → W p l e rm_PT_count s m [.ref (ad 0), .int a1].toArray below meth c H locs 0 0 (gQi D (xw ad ci cl) (xt ci cl) (xa ad) below [.ref (ad 0), .int a1] s (post σ0 τ0 a1)) (F0 m 6 ls []) := by
    intro w1 σ1 τ1 H locs ls hv hP hD hS hl
    unfold s_PT_count_6 at hv
    refine lv_iload_n hx hb d_PT_count_6 rfl (lv_at hl 1 rfl) ?_
    refine lv_bipush (v := 10) hx hb d_PT_count_7 (by decide) ?_
    refine lv_isub hx hb d_PT_count_9 ?_
    refine lv_topi (fun y10 ey10 => ?_)
    replace hv := hv y10 ey10
    refine lv_istore_n (lv' := [(2, .int y10), (0, .ref (ad 0)), (1, .int w1)]) hx hb d_PT_count_10 rfl hl (by decide) rfl (fun ls hl => ?_)
    refine lv_aload_n hx hb d_PT_count_11 rfl (lv_at hl 1 rfl) ?_
    refine lv_iload_n hx hb d_PT_count_12 rfl (lv_at hl 0 rfl) ?_
    obtain ⟨hg, hv⟩ := hv
    refine gk_callVi (As := [.int y10]) (rest := []) (b := ad 0) ⟨hx, hb, hml, hown, hts⟩ (h_PT_isPerson _ σ1 τ1 y10 hg) (gk_cwV 1 hts t_w60 rfl rfl rfl (hts _ t_w57) (hts _ t_w58) (hts _ t_w59) (hts _ t_w2) (by decide +kernel) ⟨Nat.le_of_ble_eq_true rfl, Nat.le_of_ble_eq_true rfl⟩) hK hP hD hS (va_recv hK hP (ci := 6) (q0 := 0) rfl rfl) rfl hl.1 rfl (lv_room (Nat.le_of_ble_eq_true rfl)) d_PT_count_13 ⟨Nat.zero_le _, Nat.zero_le _⟩ ?_
    intro r13 s13 t13 H locs hw hP hD hS
    replace hv := hv r13 s13 t13 hw
    refine lv_if_eq (tgt := 31) hx hb d_PT_count_16 (by decide) (fun hc => ?_) (fun hc => ?_)
    · replace hv := hv.1 hc
      refine lv_iconst (v := (-1)) hx hb d_PT_count_31 (by decide) ?_
      exact gk_iret hx hb hr hlocks hK hP hD hS hv d_PT_count_32
    · replace hv := hv.2 hc
      refine lv_aload_n hx hb d_PT_count_19 rfl (lv_at hl 1 rfl) ?_
      refine va_get (D := D) (ci := 6) (v := .ref (ad 1)) (C := R_PT) (T := F_PT) (N := 6) hx hb hts iw_PT hown hK hP 0 rfl rfl 0 (by decide) (hts _ t_w18) (fun _ h9 => h9) rfl d_PT_count_20 ?_
      refine va_get (D := D) (ci := 1) (v := .ref (ad 7)) (C := R_People) (T := F_People) (N := 7) hx hb hts iw_People hown hK hP 1 rfl rfl 6 (by decide) (hts _ t_w243) (fun _ h9 => h9) rfl d_PT_count_23 ?_
      refine lv_iload_n hx hb d_PT_count_26 rfl (lv_at hl 0 rfl) ?_
      obtain ⟨hi, hv⟩ := hv
      refine va_iald hx hb hK hP 7 0 rfl rfl hi d_PT_count_27 ?_
      refine lv_goto (tgt := 32) hx hb d_PT_count_28 (by decide) ?_
      exact gk_iret hx hb hr hlocks hK hP hD hS hv d_PT_count_32
  refine lv_iload_n hx hb d_PT_count_0 rfl (lv_at hl 1 rfl) ?_
  refine lv_bipush (v := 10) hx hb d_PT_count_1 (by decide) ?_
  refine lv_icmp_lt (tgt := 33) hx hb d_PT_count_3 (by decide) (fun hc => ?_) (fun hc => ?_)
  · replace hv := hv.1 hc
    exact j33 a1 σ0 τ0 _ _ _ hv hP hD hS (lv_sub hl [0, 1] rfl)
  · replace hv := hv.2 hc
    exact j6 a1 σ0 τ0 _ _ _ hv hP hD hS (lv_sub hl [0, 1] rfl)
theorem d_Mo_next_0 : decode b_Mo_next 0 = .ok (.iconst (-1), 1) := by decide +kernel
theorem d_Mo_next_1 : decode b_Mo_next 1 = .ok (.istore_n 3, 1) := by decide +kernel
theorem d_Mo_next_2 : decode b_Mo_next 2 = .ok (.iconst 0, 1) := by decide +kernel
theorem d_Mo_next_3 : decode b_Mo_next 3 = .ok (.istore 4, 2) := by decide +kernel
theorem d_Mo_next_5 : decode b_Mo_next 5 = .ok (.iload 4, 2) := by decide +kernel
theorem d_Mo_next_7 : decode b_Mo_next 7 = .ok (.aload_n 0, 1) := by decide +kernel
theorem d_Mo_next_8 : decode b_Mo_next 8 = .ok (.getfield 68, 3) := by decide +kernel
theorem d_Mo_next_11 : decode b_Mo_next 11 = .ok (.if_icmp .ge 131, 3) := by decide +kernel
theorem d_Mo_next_14 : decode b_Mo_next 14 = .ok (.iload_n 3, 1) := by decide +kernel
theorem d_Mo_next_15 : decode b_Mo_next 15 = .ok (.ifCond .ge 8, 3) := by decide +kernel
theorem d_Mo_next_18 : decode b_Mo_next 18 = .ok (.iload 4, 2) := by decide +kernel
theorem d_Mo_next_20 : decode b_Mo_next 20 = .ok (.goto 4, 3) := by decide +kernel
theorem d_Mo_next_23 : decode b_Mo_next 23 = .ok (.iload_n 3, 1) := by decide +kernel
theorem d_Mo_next_24 : decode b_Mo_next 24 = .ok (.istore 5, 2) := by decide +kernel
theorem d_Mo_next_26 : decode b_Mo_next 26 = .ok (.iload_n 2, 1) := by decide +kernel
theorem d_Mo_next_27 : decode b_Mo_next 27 = .ok (.ifCond .lt 59, 3) := by decide +kernel
theorem d_Mo_next_30 : decode b_Mo_next 30 = .ok (.aload_n 0, 1) := by decide +kernel
theorem d_Mo_next_31 : decode b_Mo_next 31 = .ok (.getfield 37, 3) := by decide +kernel
theorem d_Mo_next_34 : decode b_Mo_next 34 = .ok (.iload 4, 2) := by decide +kernel
theorem d_Mo_next_36 : decode b_Mo_next 36 = .ok (.iaload, 1) := by decide +kernel
theorem d_Mo_next_37 : decode b_Mo_next 37 = .ok (.aload_n 0, 1) := by decide +kernel
theorem d_Mo_next_38 : decode b_Mo_next 38 = .ok (.getfield 37, 3) := by decide +kernel
theorem d_Mo_next_41 : decode b_Mo_next 41 = .ok (.iload_n 2, 1) := by decide +kernel
theorem d_Mo_next_42 : decode b_Mo_next 42 = .ok (.ifCond .ge 8, 3) := by decide +kernel
theorem d_Mo_next_45 : decode b_Mo_next 45 = .ok (.iload 4, 2) := by decide +kernel
theorem d_Mo_next_47 : decode b_Mo_next 47 = .ok (.goto 4, 3) := by decide +kernel
theorem d_Mo_next_50 : decode b_Mo_next 50 = .ok (.iload_n 2, 1) := by decide +kernel
theorem d_Mo_next_51 : decode b_Mo_next 51 = .ok (.iaload, 1) := by decide +kernel
theorem d_Mo_next_52 : decode b_Mo_next 52 = .ok (.if_icmp .gt 34, 3) := by decide +kernel
theorem d_Mo_next_55 : decode b_Mo_next 55 = .ok (.aload_n 0, 1) := by decide +kernel
theorem d_Mo_next_56 : decode b_Mo_next 56 = .ok (.getfield 37, 3) := by decide +kernel
theorem d_Mo_next_59 : decode b_Mo_next 59 = .ok (.iload 4, 2) := by decide +kernel
theorem d_Mo_next_61 : decode b_Mo_next 61 = .ok (.iaload, 1) := by decide +kernel
theorem d_Mo_next_62 : decode b_Mo_next 62 = .ok (.aload_n 0, 1) := by decide +kernel
theorem d_Mo_next_63 : decode b_Mo_next 63 = .ok (.getfield 37, 3) := by decide +kernel
theorem d_Mo_next_66 : decode b_Mo_next 66 = .ok (.iload_n 2, 1) := by decide +kernel
theorem d_Mo_next_67 : decode b_Mo_next 67 = .ok (.ifCond .ge 8, 3) := by decide +kernel
theorem d_Mo_next_70 : decode b_Mo_next 70 = .ok (.iload 4, 2) := by decide +kernel
theorem d_Mo_next_72 : decode b_Mo_next 72 = .ok (.goto 4, 3) := by decide +kernel
theorem d_Mo_next_75 : decode b_Mo_next 75 = .ok (.iload_n 2, 1) := by decide +kernel
theorem d_Mo_next_76 : decode b_Mo_next 76 = .ok (.iaload, 1) := by decide +kernel
theorem d_Mo_next_77 : decode b_Mo_next 77 = .ok (.if_icmp .ne 13, 3) := by decide +kernel
theorem d_Mo_next_80 : decode b_Mo_next 80 = .ok (.iload 4, 2) := by decide +kernel
theorem d_Mo_next_82 : decode b_Mo_next 82 = .ok (.iload_n 2, 1) := by decide +kernel
theorem d_Mo_next_83 : decode b_Mo_next 83 = .ok (.if_icmp .le 7, 3) := by decide +kernel
theorem d_Mo_next_86 : decode b_Mo_next 86 = .ok (.iconst 1, 1) := by decide +kernel
theorem d_Mo_next_87 : decode b_Mo_next 87 = .ok (.goto 4, 3) := by decide +kernel
theorem d_Mo_next_90 : decode b_Mo_next 90 = .ok (.iconst 0, 1) := by decide +kernel
theorem d_Mo_next_91 : decode b_Mo_next 91 = .ok (.istore 6, 2) := by decide +kernel
theorem d_Mo_next_93 : decode b_Mo_next 93 = .ok (.iload_n 1, 1) := by decide +kernel
theorem d_Mo_next_94 : decode b_Mo_next 94 = .ok (.iload 4, 2) := by decide +kernel
theorem d_Mo_next_96 : decode b_Mo_next 96 = .ok (.ishr, 1) := by decide +kernel
theorem d_Mo_next_97 : decode b_Mo_next 97 = .ok (.iconst 1, 1) := by decide +kernel
theorem d_Mo_next_98 : decode b_Mo_next 98 = .ok (.iand, 1) := by decide +kernel
theorem d_Mo_next_99 : decode b_Mo_next 99 = .ok (.iconst 1, 1) := by decide +kernel
theorem d_Mo_next_100 : decode b_Mo_next 100 = .ok (.if_icmp .ne 34, 3) := by decide +kernel
theorem d_Mo_next_103 : decode b_Mo_next 103 = .ok (.iload 6, 2) := by decide +kernel
theorem d_Mo_next_105 : decode b_Mo_next 105 = .ok (.ifCond .eq 29, 3) := by decide +kernel
theorem d_Mo_next_108 : decode b_Mo_next 108 = .ok (.iload_n 3, 1) := by decide +kernel
theorem d_Mo_next_109 : decode b_Mo_next 109 = .ok (.ifCond .lt 20, 3) := by decide +kernel
theorem d_Mo_next_112 : decode b_Mo_next 112 = .ok (.aload_n 0, 1) := by decide +kernel
theorem d_Mo_next_113 : decode b_Mo_next 113 = .ok (.getfield 37, 3) := by decide +kernel
theorem d_Mo_next_116 : decode b_Mo_next 116 = .ok (.iload 4, 2) := by decide +kernel
theorem d_Mo_next_118 : decode b_Mo_next 118 = .ok (.iaload, 1) := by decide +kernel
theorem d_Mo_next_119 : decode b_Mo_next 119 = .ok (.aload_n 0, 1) := by decide +kernel
theorem d_Mo_next_120 : decode b_Mo_next 120 = .ok (.getfield 37, 3) := by decide +kernel
theorem d_Mo_next_123 : decode b_Mo_next 123 = .ok (.iload 5, 2) := by decide +kernel
theorem d_Mo_next_125 : decode b_Mo_next 125 = .ok (.iaload, 1) := by decide +kernel
theorem d_Mo_next_126 : decode b_Mo_next 126 = .ok (.if_icmp .ge 8, 3) := by decide +kernel
theorem d_Mo_next_129 : decode b_Mo_next 129 = .ok (.iload 4, 2) := by decide +kernel
theorem d_Mo_next_131 : decode b_Mo_next 131 = .ok (.goto 4, 3) := by decide +kernel
theorem d_Mo_next_134 : decode b_Mo_next 134 = .ok (.iload_n 3, 1) := by decide +kernel
theorem d_Mo_next_135 : decode b_Mo_next 135 = .ok (.istore_n 3, 1) := by decide +kernel
theorem d_Mo_next_136 : decode b_Mo_next 136 = .ok (.iinc 4 1, 3) := by decide +kernel
theorem d_Mo_next_139 : decode b_Mo_next 139 = .ok (.goto (-134), 3) := by decide +kernel
theorem d_Mo_next_142 : decode b_Mo_next 142 = .ok (.iload_n 3, 1) := by decide +kernel
theorem d_Mo_next_143 : decode b_Mo_next 143 = .ok (.ireturn, 1) := by decide +kernel
def s_Mo_next_112 (σ : MI) (τ : ML) (x1 : Int32) (x2 : Int32) (x3 : Int32) (x4 : Int32) (x5 : Int32) (K5 : Int32 → Int32 → Int32 → Int32 → MI → ML → Prop) (R : Int32 → MI → ML → Prop) : Prop :=
  vp_in x4 7 ∧ (vp_in x5 7 ∧ (((σ 39 (Int32.toNatClampNeg x5)) ≤ (σ 39 (Int32.toNatClampNeg x4)) →
  (∀ y136 : Int32, y136 = x4 + 1 → (K5 x1 x2 x3 y136 σ τ))) ∧
  (¬ (σ 39 (Int32.toNatClampNeg x5)) ≤ (σ 39 (Int32.toNatClampNeg x4)) →
  (∀ y136 : Int32, y136 = x4 + 1 → (K5 x1 x2 x4 y136 σ τ)))))
def s_Mo_next_108 (σ : MI) (τ : ML) (x1 : Int32) (x2 : Int32) (x3 : Int32) (x4 : Int32) (x5 : Int32) (K5 : Int32 → Int32 → Int32 → Int32 → MI → ML → Prop) (R : Int32 → MI → ML → Prop) : Prop :=
  (x3 < 0 →
  (∀ y136 : Int32, y136 = x4 + 1 → (K5 x1 x2 x4 y136 σ τ))) ∧
  (¬ x3 < 0 →
  (s_Mo_next_112 σ τ x1 x2 x3 x4 x5 K5 R))
def s_Mo_next_103 (σ : MI) (τ : ML) (x1 : Int32) (x2 : Int32) (x3 : Int32) (x4 : Int32) (x5 : Int32) (x6 : Int32) (K5 : Int32 → Int32 → Int32 → Int32 → MI → ML → Prop) (R : Int32 → MI → ML → Prop) : Prop :=
  (x6 = 0 →
  (∀ y136 : Int32, y136 = x4 + 1 → (K5 x1 x2 x3 y136 σ τ))) ∧
  (¬ x6 = 0 →
  (s_Mo_next_108 σ τ x1 x2 x3 x4 x5 K5 R))
def s_Mo_next_93 (σ : MI) (τ : ML) (x1 : Int32) (x2 : Int32) (x3 : Int32) (x4 : Int32) (x5 : Int32) (x6 : Int32) (K5 : Int32 → Int32 → Int32 → Int32 → MI → ML → Prop) (R : Int32 → MI → ML → Prop) : Prop :=
  (¬ ((x1 >>> (x4 &&& 31)) &&& 1) = 1 →
  (∀ y136 : Int32, y136 = x4 + 1 → (K5 x1 x2 x3 y136 σ τ))) ∧
  (((x1 >>> (x4 &&& 31)) &&& 1) = 1 →
  (s_Mo_next_103 σ τ x1 x2 x3 x4 x5 x6 K5 R))
def s_Mo_next_80 (σ : MI) (τ : ML) (x1 : Int32) (x2 : Int32) (x3 : Int32) (x4 : Int32) (x5 : Int32) (K5 : Int32 → Int32 → Int32 → Int32 → MI → ML → Prop) (R : Int32 → MI → ML → Prop) : Prop :=
  (x4 ≤ x2 →
  (s_Mo_next_93 σ τ x1 x2 x3 x4 x5 0 K5 R)) ∧
  (¬ x4 ≤ x2 →
  (s_Mo_next_93 σ τ x1 x2 x3 x4 x5 1 K5 R))
def s_Mo_next_55 (σ : MI) (τ : ML) (x1 : Int32) (x2 : Int32) (x3 : Int32) (x4 : Int32) (x5 : Int32) (K5 : Int32 → Int32 → Int32 → Int32 → MI → ML → Prop) (R : Int32 → MI → ML → Prop) : Prop :=
  vp_in x4 7 ∧ ((0 ≤ x2 →
  (vp_in x2 7 ∧ ((¬ (σ 39 (Int32.toNatClampNeg x4)) = (σ 39 (Int32.toNatClampNeg x2)) →
    (s_Mo_next_93 σ τ x1 x2 x3 x4 x5 0 K5 R)) ∧
    ((σ 39 (Int32.toNatClampNeg x4)) = (σ 39 (Int32.toNatClampNeg x2)) →
    (s_Mo_next_80 σ τ x1 x2 x3 x4 x5 K5 R))))) ∧
  (¬ 0 ≤ x2 →
  (vp_in x4 7 ∧ ((¬ (σ 39 (Int32.toNatClampNeg x4)) = (σ 39 (Int32.toNatClampNeg x4)) →
    (s_Mo_next_93 σ τ x1 x2 x3 x4 x5 0 K5 R)) ∧
    ((σ 39 (Int32.toNatClampNeg x4)) = (σ 39 (Int32.toNatClampNeg x4)) →
    (s_Mo_next_80 σ τ x1 x2 x3 x4 x5 K5 R))))))
def s_Mo_next_30 (σ : MI) (τ : ML) (x1 : Int32) (x2 : Int32) (x3 : Int32) (x4 : Int32) (x5 : Int32) (K5 : Int32 → Int32 → Int32 → Int32 → MI → ML → Prop) (R : Int32 → MI → ML → Prop) : Prop :=
  vp_in x4 7 ∧ ((0 ≤ x2 →
  (vp_in x2 7 ∧ (((σ 39 (Int32.toNatClampNeg x2)) < (σ 39 (Int32.toNatClampNeg x4)) →
    (s_Mo_next_93 σ τ x1 x2 x3 x4 x5 1 K5 R)) ∧
    (¬ (σ 39 (Int32.toNatClampNeg x2)) < (σ 39 (Int32.toNatClampNeg x4)) →
    (s_Mo_next_55 σ τ x1 x2 x3 x4 x5 K5 R))))) ∧
  (¬ 0 ≤ x2 →
  (vp_in x4 7 ∧ (((σ 39 (Int32.toNatClampNeg x4)) < (σ 39 (Int32.toNatClampNeg x4)) →
    (s_Mo_next_93 σ τ x1 x2 x3 x4 x5 1 K5 R)) ∧
    (¬ (σ 39 (Int32.toNatClampNeg x4)) < (σ 39 (Int32.toNatClampNeg x4)) →
    (s_Mo_next_55 σ τ x1 x2 x3 x4 x5 K5 R))))))
def s_Mo_next_26 (σ : MI) (τ : ML) (x1 : Int32) (x2 : Int32) (x3 : Int32) (x4 : Int32) (x5 : Int32) (K5 : Int32 → Int32 → Int32 → Int32 → MI → ML → Prop) (R : Int32 → MI → ML → Prop) : Prop :=
  (x2 < 0 →
  (s_Mo_next_93 σ τ x1 x2 x3 x4 x5 1 K5 R)) ∧
  (¬ x2 < 0 →
  (s_Mo_next_30 σ τ x1 x2 x3 x4 x5 K5 R))
def s_Mo_next_0 (σ : MI) (τ : ML) (a1 : Int32) (a2 : Int32) (K5 : Int32 → Int32 → Int32 → Int32 → MI → ML → Prop) (R : Int32 → MI → ML → Prop) : Prop :=
  ∀ y1 : Int32, y1 = (-1) → (K5 a1 a2 y1 0 σ τ)
def s_Mo_next_5 (σ : MI) (τ : ML) (x1 : Int32) (x2 : Int32) (x3 : Int32) (x4 : Int32) (K5 : Int32 → Int32 → Int32 → Int32 → MI → ML → Prop) (R : Int32 → MI → ML → Prop) : Prop :=
  ((σ 29 10) ≤ x4 →
  (R x3 σ τ)) ∧
  (¬ (σ 29 10) ≤ x4 →
  ((0 ≤ x3 →
    (s_Mo_next_26 σ τ x1 x2 x3 x4 x3 K5 R)) ∧
    (¬ 0 ≤ x3 →
    (s_Mo_next_26 σ τ x1 x2 x3 x4 x4 K5 R))))
set_option maxHeartbeats 4000000 in
set_option maxRecDepth 100000 in
theorem k_Mo_next (l : Launch) (D : va_G) (ad : Nat → Nat) (ci cl : ClassId)
    (pre : MI → ML → Int32 → Int32 → Prop) (post : MI → ML → Int32 → Int32 → Int32 → MI → ML → Prop)
    (I5 : MI → ML → Int32 → Int32 → Int32 → Int32 → Int32 → Int32 → MI → ML → Prop) (m5 : MI → ML → Int32 → Int32 → Int32 → Int32 → Int32 → Int32 → MI → ML → Nat)
    (v0 : ∀ (σ0 : MI) (τ0 : ML) (a1 : Int32) (a2 : Int32), pre σ0 τ0 a1 a2 → s_Mo_next_0 σ0 τ0 a1 a2 (fun z0 z1 z2 z3 σ9 τ9 => I5 σ0 τ0 a1 a2 z0 z1 z2 z3 σ9 τ9) (post σ0 τ0 a1 a2))
    (v5 : ∀ (σ0 : MI) (τ0 : ML) (a1 : Int32) (a2 : Int32) (x1 : Int32) (x2 : Int32) (x3 : Int32) (x4 : Int32) (σ : MI) (τ : ML), I5 σ0 τ0 a1 a2 x1 x2 x3 x4 σ τ → s_Mo_next_5 σ τ x1 x2 x3 x4 (fun z0 z1 z2 z3 σ9 τ9 => I5 σ0 τ0 a1 a2 z0 z1 z2 z3 σ9 τ9 ∧ m5 σ0 τ0 a1 a2 z0 z1 z2 z3 σ9 τ9 < m5 σ0 τ0 a1 a2 x1 x2 x3 x4 σ τ) (post σ0 τ0 a1 a2)) :
    ∀ (sz : Nat) (σ0 : MI) (τ0 : ML) (a1 : Int32) (a2 : Int32), pre σ0 τ0 a1 a2 → gMi l D (xw ad ci cl) (xt ci cl) (xa ad) y_Mo_next w_Mo_next rm_Mo_next [.ref (ad 29), .int a1, .int a2] sz σ0 τ0 (post σ0 τ0 a1 a2) := by
  intro sz σ0 τ0 a1 a2 hpre
  refine gk_ofWi (cc := b_Mo_next) (maxL := 7) (ret := (some .int)) (by decide) rfl xa_ok (Nat.le_of_ble_eq_true rfl) ?_
  intro p e s m below meth c ls hx hb hr hlocks hml hown hts hK hP hD hS hl
  have hl : lv_has ls 7 [(0, .ref (ad 29)), (1, .int a1), (2, .int a2)] := hl
  have hown : s.vm.findClass R_Mo = some m.cls := hown
  have hL : ∀ n : Nat, (∀ (x1 : Int32) (x2 : Int32) (x3 : Int32) (x4 : Int32) (σ : MI) (τ : ML) (H : Heap) (locs : List Loc) (ls : Array Slot), m5 σ0 τ0 a1 a2 x1 x2 x3 x4 σ τ < n → I5 σ0 τ0 a1 a2 x1 x2 x3 x4 σ τ → va_P D classes ((xw ad ci cl) σ τ) H → va_D (gA (xa ad) s.heap.size) ((xw ad ci cl) σ τ) → va_S (gA (xa ad) s.heap.size) s.heap H locs → lv_has ls 7 [(0, .ref (ad 29)), (1, .int x1), (2, .int x2), (3, .int x3), (4, .int x4)] → W p l e rm_Mo_next s m [.ref (ad 29), .int a1, .int a2].toArray below meth c H locs 0 0 (gQi D (xw ad ci cl) (xt ci cl) (xa ad) below [.ref (ad 29), .int a1, .int a2] s (post σ0 τ0 a1 a2)) (F0 m 5 ls [])) := by
    intro n
    induction n with
    | zero => exact fun _ _ _ _ _ _ _ _ _ hn => absurd hn (Nat.not_lt_zero _)
    | succ n ih =>
      · intro x1 x2 x3 x4 σ τ H locs ls hn hI hP hD hS hl
        have hv := v5 σ0 τ0 a1 a2 x1 x2 x3 x4 σ τ hI
        unfold s_Mo_next_5 at hv
        have j112 : ∀ (w1 : Int32) (w2 : Int32) (w3 : Int32) (w4 : Int32) (w5 : Int32) (σ1 : MI) (τ1 : ML) (H : Heap) (locs : List Loc) (ls : Array Slot), s_Mo_next_112 σ1 τ1 w1 w2 w3 w4 w5 (fun z0 z1 z2 z3 σ9 τ9 => I5 σ0 τ0 a1 a2 z0 z1 z2 z3 σ9 τ9 ∧ m5 σ0 τ0 a1 a2 z0 z1 z2 z3 σ9 τ9 < m5 σ0 τ0 a1 a2 x1 x2 x3 x4 σ τ) (post σ0 τ0 a1 a2) → va_P D classes ((xw ad ci cl) σ1 τ1) H → va_D (gA (xa ad) s.heap.size) ((xw ad ci cl) σ1 τ1) → va_S (gA (xa ad) s.heap.size) s.heap H locs → lv_has ls 7 [(0, .ref (ad 29)), (1, .int w1), (2, .int w2), (3, .int w3), (4, .int w4), (5, .int w5)] → W p l e rm_Mo_next s m [.ref (ad 29), .int a1, .int a2].toArray below meth c H locs 0 0 (gQi D (xw ad ci cl) (xt ci cl) (xa ad) below [.ref (ad 29), .int a1, .int a2] s (post σ0 τ0 a1 a2)) (F0 m 112 ls []) := by
          intro w1 w2 w3 w4 w5 σ1 τ1 H locs ls hv hP hD hS hl
          unfold s_Mo_next_112 at hv
          refine lv_aload_n hx hb d_Mo_next_112 rfl (lv_at hl 0 rfl) ?_
          refine va_get (D := D) (ci := 7) (v := .ref (ad 39)) (C := R_Mo) (T := F_Mo) (N := 24) hx hb hts iw_Mo hown hK hP 29 rfl rfl 13 (by decide) (hts _ t_w270) (fun _ h9 => h9) rfl d_Mo_next_113 ?_
          refine lv_iload hx hb d_Mo_next_116 (lv_at hl 4 rfl) ?_
          obtain ⟨hi, hv⟩ := hv
          refine va_iald hx hb hK hP 39 0 rfl rfl hi d_Mo_next_118 ?_
          refine lv_aload_n hx hb d_Mo_next_119 rfl (lv_at hl 0 rfl) ?_
          refine va_get (D := D) (ci := 7) (v := .ref (ad 39)) (C := R_Mo) (T := F_Mo) (N := 24) hx hb hts iw_Mo hown hK hP 29 rfl rfl 13 (by decide) (hts _ t_w270) (fun _ h9 => h9) rfl d_Mo_next_120 ?_
          refine lv_iload hx hb d_Mo_next_123 (lv_at hl 5 rfl) ?_
          obtain ⟨hi, hv⟩ := hv
          refine va_iald hx hb hK hP 39 0 rfl rfl hi d_Mo_next_125 ?_
          refine lv_icmp_ge (tgt := 134) hx hb d_Mo_next_126 (by decide) (fun hc => ?_) (fun hc => ?_)
          · replace hv := hv.1 hc
            refine lv_iload_n hx hb d_Mo_next_134 rfl (lv_at hl 3 rfl) ?_
            refine lv_istore_n (lv' := [(3, .int w3), (0, .ref (ad 29)), (1, .int w1), (2, .int w2), (4, .int w4), (5, .int w5)]) hx hb d_Mo_next_135 rfl hl (by decide) rfl (fun ls hl => ?_)
            obtain ⟨y136, ey136⟩ : ∃ z : Int32, z = w4 + 1 := ⟨_, rfl⟩
            replace hv := hv y136 ey136
            refine lv_iinc (v := y136) (lv' := [(4, .int y136), (3, .int w3), (0, .ref (ad 29)), (1, .int w1), (2, .int w2), (5, .int w5)]) hx hb d_Mo_next_136 hl (k := 4) rfl (by rw [ey136]; rfl) (by decide) rfl (fun ls hl => ?_)
            refine lv_goto (tgt := 5) hx hb d_Mo_next_139 (by decide) ?_
            obtain ⟨hI, hm⟩ := hv
            exact ih w1 w2 w3 y136 σ1 τ1 _ _ _ (Nat.lt_of_lt_of_le hm (Nat.le_of_lt_succ hn)) hI hP hD hS (lv_sub hl [2, 3, 4, 1, 0] rfl)
          · replace hv := hv.2 hc
            refine lv_iload hx hb d_Mo_next_129 (lv_at hl 4 rfl) ?_
            refine lv_goto (tgt := 135) hx hb d_Mo_next_131 (by decide) ?_
            refine lv_istore_n (lv' := [(3, .int w4), (0, .ref (ad 29)), (1, .int w1), (2, .int w2), (4, .int w4), (5, .int w5)]) hx hb d_Mo_next_135 rfl hl (by decide) rfl (fun ls hl => ?_)
            obtain ⟨y136, ey136⟩ : ∃ z : Int32, z = w4 + 1 := ⟨_, rfl⟩
            replace hv := hv y136 ey136
            refine lv_iinc (v := y136) (lv' := [(4, .int y136), (3, .int w4), (0, .ref (ad 29)), (1, .int w1), (2, .int w2), (5, .int w5)]) hx hb d_Mo_next_136 hl (k := 4) rfl (by rw [ey136]; rfl) (by decide) rfl (fun ls hl => ?_)
            refine lv_goto (tgt := 5) hx hb d_Mo_next_139 (by decide) ?_
            obtain ⟨hI, hm⟩ := hv
            exact ih w1 w2 w4 y136 σ1 τ1 _ _ _ (Nat.lt_of_lt_of_le hm (Nat.le_of_lt_succ hn)) hI hP hD hS (lv_sub hl [2, 3, 4, 1, 0] rfl)
        have j108 : ∀ (w1 : Int32) (w2 : Int32) (w3 : Int32) (w4 : Int32) (w5 : Int32) (σ1 : MI) (τ1 : ML) (H : Heap) (locs : List Loc) (ls : Array Slot), s_Mo_next_108 σ1 τ1 w1 w2 w3 w4 w5 (fun z0 z1 z2 z3 σ9 τ9 => I5 σ0 τ0 a1 a2 z0 z1 z2 z3 σ9 τ9 ∧ m5 σ0 τ0 a1 a2 z0 z1 z2 z3 σ9 τ9 < m5 σ0 τ0 a1 a2 x1 x2 x3 x4 σ τ) (post σ0 τ0 a1 a2) → va_P D classes ((xw ad ci cl) σ1 τ1) H → va_D (gA (xa ad) s.heap.size) ((xw ad ci cl) σ1 τ1) → va_S (gA (xa ad) s.heap.size) s.heap H locs → lv_has ls 7 [(0, .ref (ad 29)), (1, .int w1), (2, .int w2), (3, .int w3), (4, .int w4), (5, .int w5)] → W p l e rm_Mo_next s m [.ref (ad 29), .int a1, .int a2].toArray below meth c H locs 0 0 (gQi D (xw ad ci cl) (xt ci cl) (xa ad) below [.ref (ad 29), .int a1, .int a2] s (post σ0 τ0 a1 a2)) (F0 m 108 ls []) := by
          intro w1 w2 w3 w4 w5 σ1 τ1 H locs ls hv hP hD hS hl
          unfold s_Mo_next_108 at hv
          refine lv_iload_n hx hb d_Mo_next_108 rfl (lv_at hl 3 rfl) ?_
          refine lv_if_lt (tgt := 129) hx hb d_Mo_next_109 (by decide) (fun hc => ?_) (fun hc => ?_)
          · replace hv := hv.1 hc
            refine lv_iload hx hb d_Mo_next_129 (lv_at hl 4 rfl) ?_
            refine lv_goto (tgt := 135) hx hb d_Mo_next_131 (by decide) ?_
            refine lv_istore_n (lv' := [(3, .int w4), (0, .ref (ad 29)), (1, .int w1), (2, .int w2), (4, .int w4), (5, .int w5)]) hx hb d_Mo_next_135 rfl hl (by decide) rfl (fun ls hl => ?_)
            obtain ⟨y136, ey136⟩ : ∃ z : Int32, z = w4 + 1 := ⟨_, rfl⟩
            replace hv := hv y136 ey136
            refine lv_iinc (v := y136) (lv' := [(4, .int y136), (3, .int w4), (0, .ref (ad 29)), (1, .int w1), (2, .int w2), (5, .int w5)]) hx hb d_Mo_next_136 hl (k := 4) rfl (by rw [ey136]; rfl) (by decide) rfl (fun ls hl => ?_)
            refine lv_goto (tgt := 5) hx hb d_Mo_next_139 (by decide) ?_
            obtain ⟨hI, hm⟩ := hv
            exact ih w1 w2 w4 y136 σ1 τ1 _ _ _ (Nat.lt_of_lt_of_le hm (Nat.le_of_lt_succ hn)) hI hP hD hS (lv_sub hl [2, 3, 4, 1, 0] rfl)
          · replace hv := hv.2 hc
            exact j112 w1 w2 w3 w4 w5 σ1 τ1 _ _ _ hv hP hD hS (lv_sub hl [0, 1, 2, 3, 4, 5] rfl)
        have j103 : ∀ (w1 : Int32) (w2 : Int32) (w3 : Int32) (w4 : Int32) (w5 : Int32) (w6 : Int32) (σ1 : MI) (τ1 : ML) (H : Heap) (locs : List Loc) (ls : Array Slot), s_Mo_next_103 σ1 τ1 w1 w2 w3 w4 w5 w6 (fun z0 z1 z2 z3 σ9 τ9 => I5 σ0 τ0 a1 a2 z0 z1 z2 z3 σ9 τ9 ∧ m5 σ0 τ0 a1 a2 z0 z1 z2 z3 σ9 τ9 < m5 σ0 τ0 a1 a2 x1 x2 x3 x4 σ τ) (post σ0 τ0 a1 a2) → va_P D classes ((xw ad ci cl) σ1 τ1) H → va_D (gA (xa ad) s.heap.size) ((xw ad ci cl) σ1 τ1) → va_S (gA (xa ad) s.heap.size) s.heap H locs → lv_has ls 7 [(0, .ref (ad 29)), (1, .int w1), (2, .int w2), (3, .int w3), (4, .int w4), (5, .int w5), (6, .int w6)] → W p l e rm_Mo_next s m [.ref (ad 29), .int a1, .int a2].toArray below meth c H locs 0 0 (gQi D (xw ad ci cl) (xt ci cl) (xa ad) below [.ref (ad 29), .int a1, .int a2] s (post σ0 τ0 a1 a2)) (F0 m 103 ls []) := by
          intro w1 w2 w3 w4 w5 w6 σ1 τ1 H locs ls hv hP hD hS hl
          unfold s_Mo_next_103 at hv
          refine lv_iload hx hb d_Mo_next_103 (lv_at hl 6 rfl) ?_
          refine lv_if_eq (tgt := 134) hx hb d_Mo_next_105 (by decide) (fun hc => ?_) (fun hc => ?_)
          · replace hv := hv.1 hc
            refine lv_iload_n hx hb d_Mo_next_134 rfl (lv_at hl 3 rfl) ?_
            refine lv_istore_n (lv' := [(3, .int w3), (0, .ref (ad 29)), (1, .int w1), (2, .int w2), (4, .int w4), (5, .int w5), (6, .int w6)]) hx hb d_Mo_next_135 rfl hl (by decide) rfl (fun ls hl => ?_)
            obtain ⟨y136, ey136⟩ : ∃ z : Int32, z = w4 + 1 := ⟨_, rfl⟩
            replace hv := hv y136 ey136
            refine lv_iinc (v := y136) (lv' := [(4, .int y136), (3, .int w3), (0, .ref (ad 29)), (1, .int w1), (2, .int w2), (5, .int w5), (6, .int w6)]) hx hb d_Mo_next_136 hl (k := 4) rfl (by rw [ey136]; rfl) (by decide) rfl (fun ls hl => ?_)
            refine lv_goto (tgt := 5) hx hb d_Mo_next_139 (by decide) ?_
            obtain ⟨hI, hm⟩ := hv
            exact ih w1 w2 w3 y136 σ1 τ1 _ _ _ (Nat.lt_of_lt_of_le hm (Nat.le_of_lt_succ hn)) hI hP hD hS (lv_sub hl [2, 3, 4, 1, 0] rfl)
          · replace hv := hv.2 hc
            exact j108 w1 w2 w3 w4 w5 σ1 τ1 _ _ _ hv hP hD hS (lv_sub hl [0, 1, 2, 3, 4, 5] rfl)
        have j93 : ∀ (w1 : Int32) (w2 : Int32) (w3 : Int32) (w4 : Int32) (w5 : Int32) (w6 : Int32) (σ1 : MI) (τ1 : ML) (H : Heap) (locs : List Loc) (ls : Array Slot), s_Mo_next_93 σ1 τ1 w1 w2 w3 w4 w5 w6 (fun z0 z1 z2 z3 σ9 τ9 => I5 σ0 τ0 a1 a2 z0 z1 z2 z3 σ9 τ9 ∧ m5 σ0 τ0 a1 a2 z0 z1 z2 z3 σ9 τ9 < m5 σ0 τ0 a1 a2 x1 x2 x3 x4 σ τ) (post σ0 τ0 a1 a2) → va_P D classes ((xw ad ci cl) σ1 τ1) H → va_D (gA (xa ad) s.heap.size) ((xw ad ci cl) σ1 τ1) → va_S (gA (xa ad) s.heap.size) s.heap H locs → lv_has ls 7 [(0, .ref (ad 29)), (1, .int w1), (2, .int w2), (3, .int w3), (4, .int w4), (5, .int w5), (6, .int w6)] → W p l e rm_Mo_next s m [.ref (ad 29), .int a1, .int a2].toArray below meth c H locs 0 0 (gQi D (xw ad ci cl) (xt ci cl) (xa ad) below [.ref (ad 29), .int a1, .int a2] s (post σ0 τ0 a1 a2)) (F0 m 93 ls []) := by
          intro w1 w2 w3 w4 w5 w6 σ1 τ1 H locs ls hv hP hD hS hl
          unfold s_Mo_next_93 at hv
          refine lv_iload_n hx hb d_Mo_next_93 rfl (lv_at hl 1 rfl) ?_
          refine lv_iload hx hb d_Mo_next_94 (lv_at hl 4 rfl) ?_
          refine lv_ishr hx hb d_Mo_next_96 ?_
          refine lv_iconst (v := 1) hx hb d_Mo_next_97 (by decide) ?_
          refine lv_iand hx hb d_Mo_next_98 ?_
          refine lv_iconst (v := 1) hx hb d_Mo_next_99 (by decide) ?_
          refine lv_icmp_ne (tgt := 134) hx hb d_Mo_next_100 (by decide) (fun hc => ?_) (fun hc => ?_)
          · replace hv := hv.1 hc
            refine lv_iload_n hx hb d_Mo_next_134 rfl (lv_at hl 3 rfl) ?_
            refine lv_istore_n (lv' := [(3, .int w3), (0, .ref (ad 29)), (1, .int w1), (2, .int w2), (4, .int w4), (5, .int w5), (6, .int w6)]) hx hb d_Mo_next_135 rfl hl (by decide) rfl (fun ls hl => ?_)
            obtain ⟨y136, ey136⟩ : ∃ z : Int32, z = w4 + 1 := ⟨_, rfl⟩
            replace hv := hv y136 ey136
            refine lv_iinc (v := y136) (lv' := [(4, .int y136), (3, .int w3), (0, .ref (ad 29)), (1, .int w1), (2, .int w2), (5, .int w5), (6, .int w6)]) hx hb d_Mo_next_136 hl (k := 4) rfl (by rw [ey136]; rfl) (by decide) rfl (fun ls hl => ?_)
            refine lv_goto (tgt := 5) hx hb d_Mo_next_139 (by decide) ?_
            obtain ⟨hI, hm⟩ := hv
            exact ih w1 w2 w3 y136 σ1 τ1 _ _ _ (Nat.lt_of_lt_of_le hm (Nat.le_of_lt_succ hn)) hI hP hD hS (lv_sub hl [2, 3, 4, 1, 0] rfl)
          · replace hv := hv.2 hc
            exact j103 w1 w2 w3 w4 w5 w6 σ1 τ1 _ _ _ hv hP hD hS (lv_sub hl [0, 1, 2, 3, 4, 5, 6] rfl)
        have j80 : ∀ (w1 : Int32) (w2 : Int32) (w3 : Int32) (w4 : Int32) (w5 : Int32) (σ1 : MI) (τ1 : ML) (H : Heap) (locs : List Loc) (ls : Array Slot), s_Mo_next_80 σ1 τ1 w1 w2 w3 w4 w5 (fun z0 z1 z2 z3 σ9 τ9 => I5 σ0 τ0 a1 a2 z0 z1 z2 z3 σ9 τ9 ∧ m5 σ0 τ0 a1 a2 z0 z1 z2 z3 σ9 τ9 < m5 σ0 τ0 a1 a2 x1 x2 x3 x4 σ τ) (post σ0 τ0 a1 a2) → va_P D classes ((xw ad ci cl) σ1 τ1) H → va_D (gA (xa ad) s.heap.size) ((xw ad ci cl) σ1 τ1) → va_S (gA (xa ad) s.heap.size) s.heap H locs → lv_has ls 7 [(0, .ref (ad 29)), (1, .int w1), (2, .int w2), (3, .int w3), (4, .int w4), (5, .int w5)] → W p l e rm_Mo_next s m [.ref (ad 29), .int a1, .int a2].toArray below meth c H locs 0 0 (gQi D (xw ad ci cl) (xt ci cl) (xa ad) below [.ref (ad 29), .int a1, .int a2] s (post σ0 τ0 a1 a2)) (F0 m 80 ls []) := by
          intro w1 w2 w3 w4 w5 σ1 τ1 H locs ls hv hP hD hS hl
          unfold s_Mo_next_80 at hv
          refine lv_iload hx hb d_Mo_next_80 (lv_at hl 4 rfl) ?_
          refine lv_iload_n hx hb d_Mo_next_82 rfl (lv_at hl 2 rfl) ?_
          refine lv_icmp_le (tgt := 90) hx hb d_Mo_next_83 (by decide) (fun hc => ?_) (fun hc => ?_)
          · replace hv := hv.1 hc
            refine lv_iconst (v := 0) hx hb d_Mo_next_90 (by decide) ?_
            refine lv_istore (lv' := [(6, .int 0), (0, .ref (ad 29)), (1, .int w1), (2, .int w2), (3, .int w3), (4, .int w4), (5, .int w5)]) hx hb d_Mo_next_91 hl (by decide) rfl (fun ls hl => ?_)
            exact j93 w1 w2 w3 w4 w5 0 σ1 τ1 _ _ _ hv hP hD hS (lv_sub hl [1, 2, 3, 4, 5, 6, 0] rfl)
          · replace hv := hv.2 hc
            refine lv_iconst (v := 1) hx hb d_Mo_next_86 (by decide) ?_
            refine lv_goto (tgt := 91) hx hb d_Mo_next_87 (by decide) ?_
            refine lv_istore (lv' := [(6, .int 1), (0, .ref (ad 29)), (1, .int w1), (2, .int w2), (3, .int w3), (4, .int w4), (5, .int w5)]) hx hb d_Mo_next_91 hl (by decide) rfl (fun ls hl => ?_)
            exact j93 w1 w2 w3 w4 w5 1 σ1 τ1 _ _ _ hv hP hD hS (lv_sub hl [1, 2, 3, 4, 5, 6, 0] rfl)
        have j55 : ∀ (w1 : Int32) (w2 : Int32) (w3 : Int32) (w4 : Int32) (w5 : Int32) (σ1 : MI) (τ1 : ML) (H : Heap) (locs : List Loc) (ls : Array Slot), s_Mo_next_55 σ1 τ1 w1 w2 w3 w4 w5 (fun z0 z1 z2 z3 σ9 τ9 => I5 σ0 τ0 a1 a2 z0 z1 z2 z3 σ9 τ9 ∧ m5 σ0 τ0 a1 a2 z0 z1 z2 z3 σ9 τ9 < m5 σ0 τ0 a1 a2 x1 x2 x3 x4 σ τ) (post σ0 τ0 a1 a2) → va_P D classes ((xw ad ci cl) σ1 τ1) H → va_D (gA (xa ad) s.heap.size) ((xw ad ci cl) σ1 τ1) → va_S (gA (xa ad) s.heap.size) s.heap H locs → lv_has ls 7 [(0, .ref (ad 29)), (1, .int w1), (2, .int w2), (3, .int w3), (4, .int w4), (5, .int w5)] → W p l e rm_Mo_next s m [.ref (ad 29), .int a1, .int a2].toArray below meth c H locs 0 0 (gQi D (xw ad ci cl) (xt ci cl) (xa ad) below [.ref (ad 29), .int a1, .int a2] s (post σ0 τ0 a1 a2)) (F0 m 55 ls []) := by
          intro w1 w2 w3 w4 w5 σ1 τ1 H locs ls hv hP hD hS hl
          unfold s_Mo_next_55 at hv
          refine lv_aload_n hx hb d_Mo_next_55 rfl (lv_at hl 0 rfl) ?_
          refine va_get (D := D) (ci := 7) (v := .ref (ad 39)) (C := R_Mo) (T := F_Mo) (N := 24) hx hb hts iw_Mo hown hK hP 29 rfl rfl 13 (by decide) (hts _ t_w270) (fun _ h9 => h9) rfl d_Mo_next_56 ?_
          refine lv_iload hx hb d_Mo_next_59 (lv_at hl 4 rfl) ?_
          obtain ⟨hi, hv⟩ := hv
          refine va_iald hx hb hK hP 39 0 rfl rfl hi d_Mo_next_61 ?_
          refine lv_aload_n hx hb d_Mo_next_62 rfl (lv_at hl 0 rfl) ?_
          refine va_get (D := D) (ci := 7) (v := .ref (ad 39)) (C := R_Mo) (T := F_Mo) (N := 24) hx hb hts iw_Mo hown hK hP 29 rfl rfl 13 (by decide) (hts _ t_w270) (fun _ h9 => h9) rfl d_Mo_next_63 ?_
          refine lv_iload_n hx hb d_Mo_next_66 rfl (lv_at hl 2 rfl) ?_
          refine lv_if_ge (tgt := 75) hx hb d_Mo_next_67 (by decide) (fun hc => ?_) (fun hc => ?_)
          · replace hv := hv.1 hc
            refine lv_iload_n hx hb d_Mo_next_75 rfl (lv_at hl 2 rfl) ?_
            obtain ⟨hi, hv⟩ := hv
            refine va_iald hx hb hK hP 39 0 rfl rfl hi d_Mo_next_76 ?_
            refine lv_icmp_ne (tgt := 90) hx hb d_Mo_next_77 (by decide) (fun hc => ?_) (fun hc => ?_)
            · replace hv := hv.1 hc
              refine lv_iconst (v := 0) hx hb d_Mo_next_90 (by decide) ?_
              refine lv_istore (lv' := [(6, .int 0), (0, .ref (ad 29)), (1, .int w1), (2, .int w2), (3, .int w3), (4, .int w4), (5, .int w5)]) hx hb d_Mo_next_91 hl (by decide) rfl (fun ls hl => ?_)
              exact j93 w1 w2 w3 w4 w5 0 σ1 τ1 _ _ _ hv hP hD hS (lv_sub hl [1, 2, 3, 4, 5, 6, 0] rfl)
            · replace hv := hv.2 hc
              exact j80 w1 w2 w3 w4 w5 σ1 τ1 _ _ _ hv hP hD hS (lv_sub hl [0, 1, 2, 3, 4, 5] rfl)
          · replace hv := hv.2 hc
            refine lv_iload hx hb d_Mo_next_70 (lv_at hl 4 rfl) ?_
            refine lv_goto (tgt := 76) hx hb d_Mo_next_72 (by decide) ?_
            obtain ⟨hi, hv⟩ := hv
            refine va_iald hx hb hK hP 39 0 rfl rfl hi d_Mo_next_76 ?_
            refine lv_icmp_ne (tgt := 90) hx hb d_Mo_next_77 (by decide) (fun hc => ?_) (fun hc => ?_)
            · replace hv := hv.1 hc
              refine lv_iconst (v := 0) hx hb d_Mo_next_90 (by decide) ?_
              refine lv_istore (lv' := [(6, .int 0), (0, .ref (ad 29)), (1, .int w1), (2, .int w2), (3, .int w3), (4, .int w4), (5, .int w5)]) hx hb d_Mo_next_91 hl (by decide) rfl (fun ls hl => ?_)
              exact j93 w1 w2 w3 w4 w5 0 σ1 τ1 _ _ _ hv hP hD hS (lv_sub hl [1, 2, 3, 4, 5, 6, 0] rfl)
            · replace hv := hv.2 hc
              exact j80 w1 w2 w3 w4 w5 σ1 τ1 _ _ _ hv hP hD hS (lv_sub hl [0, 1, 2, 3, 4, 5] rfl)
        have j30 : ∀ (w1 : Int32) (w2 : Int32) (w3 : Int32) (w4 : Int32) (w5 : Int32) (σ1 : MI) (τ1 : ML) (H : Heap) (locs : List Loc) (ls : Array Slot), s_Mo_next_30 σ1 τ1 w1 w2 w3 w4 w5 (fun z0 z1 z2 z3 σ9 τ9 => I5 σ0 τ0 a1 a2 z0 z1 z2 z3 σ9 τ9 ∧ m5 σ0 τ0 a1 a2 z0 z1 z2 z3 σ9 τ9 < m5 σ0 τ0 a1 a2 x1 x2 x3 x4 σ τ) (post σ0 τ0 a1 a2) → va_P D classes ((xw ad ci cl) σ1 τ1) H → va_D (gA (xa ad) s.heap.size) ((xw ad ci cl) σ1 τ1) → va_S (gA (xa ad) s.heap.size) s.heap H locs → lv_has ls 7 [(0, .ref (ad 29)), (1, .int w1), (2, .int w2), (3, .int w3), (4, .int w4), (5, .int w5)] → W p l e rm_Mo_next s m [.ref (ad 29), .int a1, .int a2].toArray below meth c H locs 0 0 (gQi D (xw ad ci cl) (xt ci cl) (xa ad) below [.ref (ad 29), .int a1, .int a2] s (post σ0 τ0 a1 a2)) (F0 m 30 ls []) := by
          intro w1 w2 w3 w4 w5 σ1 τ1 H locs ls hv hP hD hS hl
          unfold s_Mo_next_30 at hv
          refine lv_aload_n hx hb d_Mo_next_30 rfl (lv_at hl 0 rfl) ?_
          refine va_get (D := D) (ci := 7) (v := .ref (ad 39)) (C := R_Mo) (T := F_Mo) (N := 24) hx hb hts iw_Mo hown hK hP 29 rfl rfl 13 (by decide) (hts _ t_w270) (fun _ h9 => h9) rfl d_Mo_next_31 ?_
          refine lv_iload hx hb d_Mo_next_34 (lv_at hl 4 rfl) ?_
          obtain ⟨hi, hv⟩ := hv
          refine va_iald hx hb hK hP 39 0 rfl rfl hi d_Mo_next_36 ?_
          refine lv_aload_n hx hb d_Mo_next_37 rfl (lv_at hl 0 rfl) ?_
          refine va_get (D := D) (ci := 7) (v := .ref (ad 39)) (C := R_Mo) (T := F_Mo) (N := 24) hx hb hts iw_Mo hown hK hP 29 rfl rfl 13 (by decide) (hts _ t_w270) (fun _ h9 => h9) rfl d_Mo_next_38 ?_
          refine lv_iload_n hx hb d_Mo_next_41 rfl (lv_at hl 2 rfl) ?_
          refine lv_if_ge (tgt := 50) hx hb d_Mo_next_42 (by decide) (fun hc => ?_) (fun hc => ?_)
          · replace hv := hv.1 hc
            refine lv_iload_n hx hb d_Mo_next_50 rfl (lv_at hl 2 rfl) ?_
            obtain ⟨hi, hv⟩ := hv
            refine va_iald hx hb hK hP 39 0 rfl rfl hi d_Mo_next_51 ?_
            refine lv_icmp_gt (tgt := 86) hx hb d_Mo_next_52 (by decide) (fun hc => ?_) (fun hc => ?_)
            · replace hv := hv.1 hc
              refine lv_iconst (v := 1) hx hb d_Mo_next_86 (by decide) ?_
              refine lv_goto (tgt := 91) hx hb d_Mo_next_87 (by decide) ?_
              refine lv_istore (lv' := [(6, .int 1), (0, .ref (ad 29)), (1, .int w1), (2, .int w2), (3, .int w3), (4, .int w4), (5, .int w5)]) hx hb d_Mo_next_91 hl (by decide) rfl (fun ls hl => ?_)
              exact j93 w1 w2 w3 w4 w5 1 σ1 τ1 _ _ _ hv hP hD hS (lv_sub hl [1, 2, 3, 4, 5, 6, 0] rfl)
            · replace hv := hv.2 hc
              exact j55 w1 w2 w3 w4 w5 σ1 τ1 _ _ _ hv hP hD hS (lv_sub hl [0, 1, 2, 3, 4, 5] rfl)
          · replace hv := hv.2 hc
            refine lv_iload hx hb d_Mo_next_45 (lv_at hl 4 rfl) ?_
            refine lv_goto (tgt := 51) hx hb d_Mo_next_47 (by decide) ?_
            obtain ⟨hi, hv⟩ := hv
            refine va_iald hx hb hK hP 39 0 rfl rfl hi d_Mo_next_51 ?_
            refine lv_icmp_gt (tgt := 86) hx hb d_Mo_next_52 (by decide) (fun hc => ?_) (fun hc => ?_)
            · replace hv := hv.1 hc
              refine lv_iconst (v := 1) hx hb d_Mo_next_86 (by decide) ?_
              refine lv_goto (tgt := 91) hx hb d_Mo_next_87 (by decide) ?_
              refine lv_istore (lv' := [(6, .int 1), (0, .ref (ad 29)), (1, .int w1), (2, .int w2), (3, .int w3), (4, .int w4), (5, .int w5)]) hx hb d_Mo_next_91 hl (by decide) rfl (fun ls hl => ?_)
              exact j93 w1 w2 w3 w4 w5 1 σ1 τ1 _ _ _ hv hP hD hS (lv_sub hl [1, 2, 3, 4, 5, 6, 0] rfl)
            · replace hv := hv.2 hc
              exact j55 w1 w2 w3 w4 w5 σ1 τ1 _ _ _ hv hP hD hS (lv_sub hl [0, 1, 2, 3, 4, 5] rfl)
        have j26 : ∀ (w1 : Int32) (w2 : Int32) (w3 : Int32) (w4 : Int32) (w5 : Int32) (σ1 : MI) (τ1 : ML) (H : Heap) (locs : List Loc) (ls : Array Slot), s_Mo_next_26 σ1 τ1 w1 w2 w3 w4 w5 (fun z0 z1 z2 z3 σ9 τ9 => I5 σ0 τ0 a1 a2 z0 z1 z2 z3 σ9 τ9 ∧ m5 σ0 τ0 a1 a2 z0 z1 z2 z3 σ9 τ9 < m5 σ0 τ0 a1 a2 x1 x2 x3 x4 σ τ) (post σ0 τ0 a1 a2) → va_P D classes ((xw ad ci cl) σ1 τ1) H → va_D (gA (xa ad) s.heap.size) ((xw ad ci cl) σ1 τ1) → va_S (gA (xa ad) s.heap.size) s.heap H locs → lv_has ls 7 [(0, .ref (ad 29)), (1, .int w1), (2, .int w2), (3, .int w3), (4, .int w4), (5, .int w5)] → W p l e rm_Mo_next s m [.ref (ad 29), .int a1, .int a2].toArray below meth c H locs 0 0 (gQi D (xw ad ci cl) (xt ci cl) (xa ad) below [.ref (ad 29), .int a1, .int a2] s (post σ0 τ0 a1 a2)) (F0 m 26 ls []) := by
          intro w1 w2 w3 w4 w5 σ1 τ1 H locs ls hv hP hD hS hl
          unfold s_Mo_next_26 at hv
          refine lv_iload_n hx hb d_Mo_next_26 rfl (lv_at hl 2 rfl) ?_
          refine lv_if_lt (tgt := 86) hx hb d_Mo_next_27 (by decide) (fun hc => ?_) (fun hc => ?_)
          · replace hv := hv.1 hc
            refine lv_iconst (v := 1) hx hb d_Mo_next_86 (by decide) ?_
            refine lv_goto (tgt := 91) hx hb d_Mo_next_87 (by decide) ?_
            refine lv_istore (lv' := [(6, .int 1), (0, .ref (ad 29)), (1, .int w1), (2, .int w2), (3, .int w3), (4, .int w4), (5, .int w5)]) hx hb d_Mo_next_91 hl (by decide) rfl (fun ls hl => ?_)
            exact j93 w1 w2 w3 w4 w5 1 σ1 τ1 _ _ _ hv hP hD hS (lv_sub hl [1, 2, 3, 4, 5, 6, 0] rfl)
          · replace hv := hv.2 hc
            exact j30 w1 w2 w3 w4 w5 σ1 τ1 _ _ _ hv hP hD hS (lv_sub hl [0, 1, 2, 3, 4, 5] rfl)
        refine lv_iload hx hb d_Mo_next_5 (lv_at hl 4 rfl) ?_
        refine lv_aload_n hx hb d_Mo_next_7 rfl (lv_at hl 0 rfl) ?_
        refine va_get (D := D) (ci := 7) (v := .int (σ 29 10)) (C := R_Mo) (T := F_Mo) (N := 24) hx hb hts iw_Mo hown hK hP 29 rfl rfl 10 (by decide) (hts _ t_w246) (fun _ h9 => h9) rfl d_Mo_next_8 ?_
        refine lv_icmp_ge (tgt := 142) hx hb d_Mo_next_11 (by decide) (fun hc => ?_) (fun hc => ?_)
        · replace hv := hv.1 hc
          refine lv_iload_n hx hb d_Mo_next_142 rfl (lv_at hl 3 rfl) ?_
          exact gk_iret hx hb hr hlocks hK hP hD hS hv d_Mo_next_143
        · replace hv := hv.2 hc
          refine lv_iload_n hx hb d_Mo_next_14 rfl (lv_at hl 3 rfl) ?_
          refine lv_if_ge (tgt := 23) hx hb d_Mo_next_15 (by decide) (fun hc => ?_) (fun hc => ?_)
          · replace hv := hv.1 hc
            refine lv_iload_n hx hb d_Mo_next_23 rfl (lv_at hl 3 rfl) ?_
            refine lv_istore (lv' := [(5, .int x3), (0, .ref (ad 29)), (1, .int x1), (2, .int x2), (3, .int x3), (4, .int x4)]) hx hb d_Mo_next_24 hl (by decide) rfl (fun ls hl => ?_)
            exact j26 x1 x2 x3 x4 x3 σ τ _ _ _ hv hP hD hS (lv_sub hl [1, 2, 3, 4, 5, 0] rfl)
          · replace hv := hv.2 hc
            refine lv_iload hx hb d_Mo_next_18 (lv_at hl 4 rfl) ?_
            refine lv_goto (tgt := 24) hx hb d_Mo_next_20 (by decide) ?_
            refine lv_istore (lv' := [(5, .int x4), (0, .ref (ad 29)), (1, .int x1), (2, .int x2), (3, .int x3), (4, .int x4)]) hx hb d_Mo_next_24 hl (by decide) rfl (fun ls hl => ?_)
            exact j26 x1 x2 x3 x4 x4 σ τ _ _ _ hv hP hD hS (lv_sub hl [1, 2, 3, 4, 5, 0] rfl)
  have hv := v0 σ0 τ0 a1 a2 hpre
  unfold s_Mo_next_0 at hv
  refine lv_iconst (v := (-1)) hx hb d_Mo_next_0 (by decide) ?_
  refine lv_topi (fun y1 ey1 => ?_)
  replace hv := hv y1 ey1
  refine lv_istore_n (lv' := [(3, .int y1), (0, .ref (ad 29)), (1, .int a1), (2, .int a2)]) hx hb d_Mo_next_1 rfl hl (by decide) rfl (fun ls hl => ?_)
  refine lv_iconst (v := 0) hx hb d_Mo_next_2 (by decide) ?_
  refine lv_istore (lv' := [(4, .int 0), (3, .int y1), (0, .ref (ad 29)), (1, .int a1), (2, .int a2)]) hx hb d_Mo_next_3 hl (by decide) rfl (fun ls hl => ?_)
  exact (hL _) a1 a2 y1 0 σ0 τ0 _ _ _ (Nat.lt_succ_self _) hv hP hD hS (lv_sub hl [2, 3, 4, 1, 0] rfl)
end
