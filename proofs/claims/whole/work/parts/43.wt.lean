theorem tx_IA : ∀ w ∈ Jvm.Bundle.ownAtoms "PilotTugs" 66 xIA nmX, w ∈ TX := fun _ h => List.mem_append_left _ (List.mem_append_left _ h)
theorem tx_IAl : Cond.classLink "PilotTugs" 62 xIA ∈ TX := List.mem_append_right _ (List.mem_of_getElem? (i := 13) rfl)
theorem tx_IAi : Cond.initialized xIA ∈ TX := List.mem_append_right _ (List.mem_of_getElem? (i := 17) rfl)
theorem tx_IS : ∀ w ∈ Jvm.Bundle.ownAtoms "PilotTugs" 77 xIS nmX, w ∈ TX := fun _ h => List.mem_append_left _ (List.mem_append_right _ (List.mem_append_left _ h))
theorem tx_ISl : Cond.classLink "PilotTugs" 73 xIS ∈ TX := List.mem_append_right _ (List.mem_of_getElem? (i := 14) rfl)
theorem tx_ISi : Cond.initialized xIS ∈ TX := List.mem_append_right _ (List.mem_of_getElem? (i := 18) rfl)
theorem tx_IO : ∀ w ∈ Jvm.Bundle.ownAtoms "PilotTugs" 138 xIO nmX, w ∈ TX := fun _ h => List.mem_append_left _ (List.mem_append_right _ (List.mem_append_right _ (List.mem_append_left _ h)))
theorem tx_IOl : Cond.classLink "PilotTugs" 134 xIO ∈ TX := List.mem_append_right _ (List.mem_of_getElem? (i := 15) rfl)
theorem tx_IOi : Cond.initialized xIO ∈ TX := List.mem_append_right _ (List.mem_of_getElem? (i := 19) rfl)
theorem tx_AR : ∀ w ∈ Jvm.Bundle.ownAtoms "PilotTugs" 190 xAR nmX, w ∈ TX := fun _ h => List.mem_append_left _ (List.mem_append_right _ (List.mem_append_right _ (List.mem_append_right _ (h))))
theorem tx_ARl : Cond.classLink "PilotTugs" 186 xAR ∈ TX := List.mem_append_right _ (List.mem_of_getElem? (i := 16) rfl)
theorem tx_ARi : Cond.initialized xAR ∈ TX := List.mem_append_right _ (List.mem_of_getElem? (i := 20) rfl)
theorem tx_s64 : Cond.stringRef "PilotTugs" 64 "licence, hours or home can't be" ∈ TX := List.mem_append_right _ (List.mem_of_getElem? (i := 0) rfl)
theorem tx_s75 : Cond.stringRef "PilotTugs" 75 "no more people" ∈ TX := List.mem_append_right _ (List.mem_of_getElem? (i := 1) rfl)
theorem tx_s90 : Cond.stringRef "PilotTugs" 90 "pull can't be" ∈ TX := List.mem_append_right _ (List.mem_of_getElem? (i := 2) rfl)
theorem tx_s93 : Cond.stringRef "PilotTugs" 93 "no more tugs" ∈ TX := List.mem_append_right _ (List.mem_of_getElem? (i := 3) rfl)
theorem tx_s98 : Cond.stringRef "PilotTugs" 98 "licence, pull or place can't be" ∈ TX := List.mem_append_right _ (List.mem_of_getElem? (i := 4) rfl)
theorem tx_s100 : Cond.stringRef "PilotTugs" 100 "times can't be" ∈ TX := List.mem_append_right _ (List.mem_of_getElem? (i := 5) rfl)
theorem tx_s103 : Cond.stringRef "PilotTugs" 103 "no more jobs" ∈ TX := List.mem_append_right _ (List.mem_of_getElem? (i := 6) rfl)
theorem tx_s136 : Cond.stringRef "PilotTugs" 136 "no such job or what" ∈ TX := List.mem_append_right _ (List.mem_of_getElem? (i := 7) rfl)
theorem tx_s139 : Cond.stringRef "PilotTugs" 139 "no plan" ∈ TX := List.mem_append_right _ (List.mem_of_getElem? (i := 8) rfl)
theorem tx_s156 : Cond.stringRef "PilotTugs" 156 "no such job" ∈ TX := List.mem_append_right _ (List.mem_of_getElem? (i := 9) rfl)
theorem tx_s171 : Cond.stringRef "PilotTugs" 171 "nobody such" ∈ TX := List.mem_append_right _ (List.mem_of_getElem? (i := 10) rfl)
theorem tx_s184 : Cond.stringRef "PilotTugs" 184 "part or all can't be" ∈ TX := List.mem_append_right _ (List.mem_of_getElem? (i := 11) rfl)
theorem tx_s188 : Cond.stringRef "PilotTugs" 188 "a share of nothing" ∈ TX := List.mem_append_right _ (List.mem_of_getElem? (i := 12) rfl)
def rm_PT_person : Room := { frames := 6, cells := 1, slots := 6, locals := 82 }
theorem d_PT_person_0 : decode b_PT_person 0 = .ok (.iload_n 1, 1) := by decide +kernel
theorem d_PT_person_1 : decode b_PT_person 1 = .ok (.invokestatic 51, 3) := by decide +kernel
theorem d_PT_person_4 : decode b_PT_person 4 = .ok (.ifCond .eq 19, 3) := by decide +kernel
theorem d_PT_person_7 : decode b_PT_person 7 = .ok (.iload_n 2, 1) := by decide +kernel
theorem d_PT_person_8 : decode b_PT_person 8 = .ok (.iload_n 3, 1) := by decide +kernel
theorem d_PT_person_9 : decode b_PT_person 9 = .ok (.invokestatic 55, 3) := by decide +kernel
theorem d_PT_person_12 : decode b_PT_person 12 = .ok (.ifCond .eq 11, 3) := by decide +kernel
theorem d_PT_person_15 : decode b_PT_person 15 = .ok (.iload 4, 2) := by decide +kernel
theorem d_PT_person_17 : decode b_PT_person 17 = .ok (.invokestatic 59, 3) := by decide +kernel
theorem d_PT_person_20 : decode b_PT_person 20 = .ok (.ifCond .ne 13, 3) := by decide +kernel
theorem d_PT_person_23 : decode b_PT_person 23 = .ok (.new 62, 3) := by decide +kernel
theorem d_PT_person_26 : decode b_PT_person 26 = .ok (.dup, 1) := by decide +kernel
theorem d_PT_person_27 : decode b_PT_person 27 = .ok (.ldc 64, 2) := by decide +kernel
theorem d_PT_person_29 : decode b_PT_person 29 = .ok (.invokespecial 66, 3) := by decide +kernel
theorem d_PT_person_32 : decode b_PT_person 32 = .ok (.athrow, 1) := by decide +kernel
theorem d_PT_person_33 : decode b_PT_person 33 = .ok (.aload_n 0, 1) := by decide +kernel
theorem d_PT_person_34 : decode b_PT_person 34 = .ok (.getfield 10, 3) := by decide +kernel
theorem d_PT_person_37 : decode b_PT_person 37 = .ok (.getfield 69, 3) := by decide +kernel
theorem d_PT_person_40 : decode b_PT_person 40 = .ok (.iconst 4, 1) := by decide +kernel
theorem d_PT_person_41 : decode b_PT_person 41 = .ok (.if_icmp .lt 13, 3) := by decide +kernel
theorem d_PT_person_44 : decode b_PT_person 44 = .ok (.new 73, 3) := by decide +kernel
theorem d_PT_person_47 : decode b_PT_person 47 = .ok (.dup, 1) := by decide +kernel
theorem d_PT_person_48 : decode b_PT_person 48 = .ok (.ldc 75, 2) := by decide +kernel
theorem d_PT_person_50 : decode b_PT_person 50 = .ok (.invokespecial 77, 3) := by decide +kernel
theorem d_PT_person_53 : decode b_PT_person 53 = .ok (.athrow, 1) := by decide +kernel
theorem d_PT_person_54 : decode b_PT_person 54 = .ok (.aload_n 0, 1) := by decide +kernel
theorem d_PT_person_55 : decode b_PT_person 55 = .ok (.getfield 47, 3) := by decide +kernel
theorem d_PT_person_58 : decode b_PT_person 58 = .ok (.iconst 0, 1) := by decide +kernel
theorem d_PT_person_59 : decode b_PT_person 59 = .ok (.putfield 78, 3) := by decide +kernel
theorem d_PT_person_62 : decode b_PT_person 62 = .ok (.aload_n 0, 1) := by decide +kernel
theorem d_PT_person_63 : decode b_PT_person 63 = .ok (.getfield 10, 3) := by decide +kernel
theorem d_PT_person_66 : decode b_PT_person 66 = .ok (.iload_n 1, 1) := by decide +kernel
theorem d_PT_person_67 : decode b_PT_person 67 = .ok (.iload_n 2, 1) := by decide +kernel
theorem d_PT_person_68 : decode b_PT_person 68 = .ok (.iload_n 3, 1) := by decide +kernel
theorem d_PT_person_69 : decode b_PT_person 69 = .ok (.iload 4, 2) := by decide +kernel
theorem d_PT_person_71 : decode b_PT_person 71 = .ok (.invokevirtual 82, 3) := by decide +kernel
theorem d_PT_person_74 : decode b_PT_person 74 = .ok (.ireturn, 1) := by decide +kernel
def s_PT_person_0 (P_PT_isLicence : MI → ML → Int32 → Prop) (Q_PT_isLicence : MI → ML → Int32 → Int32 → MI → ML → Prop) (P_PT_isSpan : MI → ML → Int32 → Int32 → Prop) (Q_PT_isSpan : MI → ML → Int32 → Int32 → Int32 → MI → ML → Prop) (P_PT_isPlace : MI → ML → Int32 → Prop) (Q_PT_isPlace : MI → ML → Int32 → Int32 → MI → ML → Prop) (P_People_add : MI → ML → Int32 → Int32 → Int32 → Int32 → Prop) (Q_People_add : MI → ML → Int32 → Int32 → Int32 → Int32 → Int32 → MI → ML → Prop) (σ : MI) (τ : ML) (a1 : Int32) (a2 : Int32) (a3 : Int32) (a4 : Int32) (R : Int32 → MI → ML → Prop) (Z : String → MI → ML → Prop) : Prop :=
  P_PT_isLicence σ τ a1 ∧ ∀ (r1 : Int32) (s1 : MI) (t1 : ML), Q_PT_isLicence σ τ a1 r1 s1 t1 → ((r1 = 0 →
  (Z "java/lang/IllegalArgumentException" s1 t1)) ∧
  (¬ r1 = 0 →
  (P_PT_isSpan s1 t1 a2 a3 ∧ ∀ (r9 : Int32) (s9 : MI) (t9 : ML), Q_PT_isSpan s1 t1 a2 a3 r9 s9 t9 → ((r9 = 0 →
    (Z "java/lang/IllegalArgumentException" s9 t9)) ∧
    (¬ r9 = 0 →
    (P_PT_isPlace s9 t9 a4 ∧ ∀ (r17 : Int32) (s17 : MI) (t17 : ML), Q_PT_isPlace s9 t9 a4 r17 s17 t17 → ((¬ r17 = 0 →
      (((s17 1 0) < 4 →
        (∀ s59 : MI, s59 = st2 s17 22 0 0 → (P_People_add s59 t17 a1 a2 a3 a4 ∧ ∀ (r71 : Int32) (s71 : MI) (t71 : ML), Q_People_add s59 t17 a1 a2 a3 a4 r71 s71 t71 → (R r71 s71 t71)))) ∧
        (¬ (s17 1 0) < 4 →
        (Z "java/lang/IllegalStateException" s17 t17)))) ∧
      (r17 = 0 →
      (Z "java/lang/IllegalArgumentException" s17 t17)))))))))
set_option maxHeartbeats 4000000 in
set_option maxRecDepth 100000 in
theorem k_PT_person (l : Launch) (hlt : l.flags = flags0) (D : va_G) (ad : Nat → Nat) (ci cl : ClassId)
    (pre : MI → ML → Int32 → Int32 → Int32 → Int32 → Prop) (post : MI → ML → Int32 → Int32 → Int32 → Int32 → Int32 → MI → ML → Prop) (postZ : MI → ML → Int32 → Int32 → Int32 → Int32 → String → MI → ML → Prop) (P_PT_isLicence : MI → ML → Int32 → Prop) (Q_PT_isLicence : MI → ML → Int32 → Int32 → MI → ML → Prop) (P_PT_isSpan : MI → ML → Int32 → Int32 → Prop) (Q_PT_isSpan : MI → ML → Int32 → Int32 → Int32 → MI → ML → Prop) (P_PT_isPlace : MI → ML → Int32 → Prop) (Q_PT_isPlace : MI → ML → Int32 → Int32 → MI → ML → Prop) (P_People_add : MI → ML → Int32 → Int32 → Int32 → Int32 → Prop) (Q_People_add : MI → ML → Int32 → Int32 → Int32 → Int32 → Int32 → MI → ML → Prop)
    (h_PT_isLicence : ∀ (sz : Nat) (σ : MI) (τ : ML) (b0 : Int32), P_PT_isLicence σ τ b0 → gMi l D (xw ad ci cl) (xt ci cl) (xa ad) y_PT_isLicence w_PT_isLicence rm_PT_isLicence [.int b0] sz σ τ (Q_PT_isLicence σ τ b0))
    (h_PT_isSpan : ∀ (sz : Nat) (σ : MI) (τ : ML) (b0 : Int32) (b1 : Int32), P_PT_isSpan σ τ b0 b1 → gMi l D (xw ad ci cl) (xt ci cl) (xa ad) y_PT_isSpan w_PT_isSpan rm_PT_isSpan [.int b0, .int b1] sz σ τ (Q_PT_isSpan σ τ b0 b1))
    (h_PT_isPlace : ∀ (sz : Nat) (σ : MI) (τ : ML) (b0 : Int32), P_PT_isPlace σ τ b0 → gMi l D (xw ad ci cl) (xt ci cl) (xa ad) y_PT_isPlace w_PT_isPlace rm_PT_isPlace [.int b0] sz σ τ (Q_PT_isPlace σ τ b0))
    (h_People_add : ∀ (sz : Nat) (σ : MI) (τ : ML) (b0 : Int32) (b1 : Int32) (b2 : Int32) (b3 : Int32), P_People_add σ τ b0 b1 b2 b3 → gMi l D (xw ad ci cl) (xt ci cl) (xa ad) y_People_add w_People_add rm_People_add [.ref (ad 1), .int b0, .int b1, .int b2, .int b3] sz σ τ (Q_People_add σ τ b0 b1 b2 b3))
    (v0 : ∀ (σ0 : MI) (τ0 : ML) (a1 : Int32) (a2 : Int32) (a3 : Int32) (a4 : Int32), pre σ0 τ0 a1 a2 a3 a4 → s_PT_person_0 P_PT_isLicence Q_PT_isLicence P_PT_isSpan Q_PT_isSpan P_PT_isPlace Q_PT_isPlace P_People_add Q_People_add σ0 τ0 a1 a2 a3 a4 (post σ0 τ0 a1 a2 a3 a4) (postZ σ0 τ0 a1 a2 a3 a4)) :
    ∀ (sz : Nat) (σ0 : MI) (τ0 : ML) (a1 : Int32) (a2 : Int32) (a3 : Int32) (a4 : Int32), pre σ0 τ0 a1 a2 a3 a4 → gMx l D (xw ad ci cl) (xt ci cl) (xa ad) y_PT_person w_PT_person rm_PT_person [.ref (ad 0), .int a1, .int a2, .int a3, .int a4] sz σ0 τ0 (post σ0 τ0 a1 a2 a3 a4) (postZ σ0 τ0 a1 a2 a3 a4) := by
  intro sz σ0 τ0 a1 a2 a3 a4 hpre
  refine gx_ofW (cc := b_PT_person) (maxL := 5) (ret := (some .int)) (by decide) rfl xa_ok (Nat.le_of_ble_eq_true rfl) ?_
  intro p e s m below meth c ls hx hb hr hlocks hml hown hts hK hP hD hS hl hex hXT hst
  have hl : lv_has ls 5 [(0, .ref (ad 0)), (1, .int a1), (2, .int a2), (3, .int a3), (4, .int a4)] := hl
  have hown : s.vm.findClass R_PT = some m.cls := hown
  have hv := v0 σ0 τ0 a1 a2 a3 a4 hpre
  unfold s_PT_person_0 at hv
  refine lv_iload_n hx hb d_PT_person_0 rfl (lv_at hl 1 rfl) ?_
  obtain ⟨hg, hv⟩ := hv
  refine gk_callSi (As := [.int a1]) (rest := []) ⟨hx, hb, hml, hown, hts⟩ (h_PT_isLicence _ σ0 τ0 a1 hg) (gk_cwS 1 hts t_w14 rfl rfl rfl (hts _ t_w12) (hts _ t_w13) (hts _ t_w5) (by decide +kernel) ⟨Nat.le_of_ble_eq_true rfl, Nat.le_of_ble_eq_true rfl⟩) hK hP hD hS rfl hl.1 rfl (lv_room (Nat.le_of_ble_eq_true rfl)) d_PT_person_1 ⟨Nat.zero_le _, Nat.zero_le _⟩ ?_
  intro r1 s1 t1 H locs hw hP hD hS
  replace hv := hv r1 s1 t1 hw
  refine lv_if_eq (tgt := 23) hx hb d_PT_person_4 (by decide) (fun hc => ?_) (fun hc => ?_)
  · replace hv := hv.1 hc
    exact gx_throw (X := xIA) (own := "PilotTugs") hlt hx hb hlocks hown hex (hl.1.trans hml.symm) hXT hst tx_IA tx_IAl tx_IAi tx_s64 (by decide) hK hP hD hS (by decide) d_PT_person_23 d_PT_person_26 d_PT_person_27 d_PT_person_29 d_PT_person_32 hv
  · replace hv := hv.2 hc
    refine lv_iload_n hx hb d_PT_person_7 rfl (lv_at hl 2 rfl) ?_
    refine lv_iload_n hx hb d_PT_person_8 rfl (lv_at hl 3 rfl) ?_
    obtain ⟨hg, hv⟩ := hv
    refine gk_callSi (As := [.int a2, .int a3]) (rest := []) ⟨hx, hb, hml, hown, hts⟩ (h_PT_isSpan _ s1 t1 a2 a3 hg) (gk_cwS 2 hts t_w17 rfl rfl rfl (hts _ t_w15) (hts _ t_w16) (hts _ t_w5) (by decide +kernel) ⟨Nat.le_of_ble_eq_true rfl, Nat.le_of_ble_eq_true rfl⟩) hK hP hD hS rfl hl.1 rfl (lv_room (Nat.le_of_ble_eq_true rfl)) d_PT_person_9 ⟨Nat.zero_le _, Nat.zero_le _⟩ ?_
    intro r9 s9 t9 H locs hw hP hD hS
    replace hv := hv r9 s9 t9 hw
    refine lv_if_eq (tgt := 23) hx hb d_PT_person_12 (by decide) (fun hc => ?_) (fun hc => ?_)
    · replace hv := hv.1 hc
      exact gx_throw (X := xIA) (own := "PilotTugs") hlt hx hb hlocks hown hex (hl.1.trans hml.symm) hXT hst tx_IA tx_IAl tx_IAi tx_s64 (by decide) hK hP hD hS (by decide) d_PT_person_23 d_PT_person_26 d_PT_person_27 d_PT_person_29 d_PT_person_32 hv
    · replace hv := hv.2 hc
      refine lv_iload hx hb d_PT_person_15 (lv_at hl 4 rfl) ?_
      obtain ⟨hg, hv⟩ := hv
      refine gk_callSi (As := [.int a4]) (rest := []) ⟨hx, hb, hml, hown, hts⟩ (h_PT_isPlace _ s9 t9 a4 hg) (gk_cwS 1 hts t_w20 rfl rfl rfl (hts _ t_w18) (hts _ t_w19) (hts _ t_w5) (by decide +kernel) ⟨Nat.le_of_ble_eq_true rfl, Nat.le_of_ble_eq_true rfl⟩) hK hP hD hS rfl hl.1 rfl (lv_room (Nat.le_of_ble_eq_true rfl)) d_PT_person_17 ⟨Nat.zero_le _, Nat.zero_le _⟩ ?_
      intro r17 s17 t17 H locs hw hP hD hS
      replace hv := hv r17 s17 t17 hw
      refine lv_if_ne (tgt := 33) hx hb d_PT_person_20 (by decide) (fun hc => ?_) (fun hc => ?_)
      · replace hv := hv.1 hc
        refine lv_aload_n hx hb d_PT_person_33 rfl (lv_at hl 0 rfl) ?_
        refine va_get (D := D) (ci := 6) (v := .ref (ad 1)) (C := R_PT) (T := F_PT) (N := 6) hx hb hts iw_PT hown hK hP 0 rfl rfl 0 (by decide) (hts _ t_w21) (fun _ h9 => h9) rfl d_PT_person_34 ?_
        refine va_get (D := D) (ci := 1) (v := .int (s17 1 0)) (C := R_People) (T := F_People) (N := 7) hx hb hts iw_People hown hK hP 1 rfl rfl 0 (by decide) (hts _ t_w22) (fun _ h9 => h9) rfl d_PT_person_37 ?_
        refine lv_iconst (v := 4) hx hb d_PT_person_40 (by decide) ?_
        refine lv_icmp_lt (tgt := 54) hx hb d_PT_person_41 (by decide) (fun hc => ?_) (fun hc => ?_)
        · replace hv := hv.1 hc
          refine lv_aload_n hx hb d_PT_person_54 rfl (lv_at hl 0 rfl) ?_
          refine va_get (D := D) (ci := 6) (v := .ref (ad 22)) (C := R_PT) (T := F_PT) (N := 6) hx hb hts iw_PT hown hK hP 0 rfl rfl 5 (by decide) (hts _ t_w23) (fun _ h9 => h9) rfl d_PT_person_55 ?_
          refine lv_iconst (v := 0) hx hb d_PT_person_58 (by decide) ?_
          refine va_put (D := D) (ci := 2) (v := .int 0) (ty := .boolean) (fs := [.int (s17 22 0), .int (s17 22 1), .int (s17 22 2), .int (s17 22 3), .ref (ad 23), .ref (ad 24), .ref (ad 25), .ref (ad 26), .ref (ad 27)]) (C := R_Plan) (T := F_Plan) (N := 9) hx hb hts iw_Plan ty_Plan ty_Plan_ok nn_Plan hown hK hP hD hS 22 rfl rfl 0 (by decide) (hts _ t_w24) (fun _ h9 => h9) rfl (by decide +kernel) rfl rfl (Nat.le_of_ble_eq_true rfl) d_PT_person_59 (fun H locs hP hD hS => ?_)
          rw [xf_22_0] at hP hD
          obtain ⟨s59, es59⟩ : ∃ z : MI, z = st2 s17 22 0 0 := ⟨_, rfl⟩
          rw [← es59] at hP hD
          replace hv := hv s59 es59
          refine lv_aload_n hx hb d_PT_person_62 rfl (lv_at hl 0 rfl) ?_
          refine va_get (D := D) (ci := 6) (v := .ref (ad 1)) (C := R_PT) (T := F_PT) (N := 6) hx hb hts iw_PT hown hK hP 0 rfl rfl 0 (by decide) (hts _ t_w21) (fun _ h9 => h9) rfl d_PT_person_63 ?_
          refine lv_iload_n hx hb d_PT_person_66 rfl (lv_at hl 1 rfl) ?_
          refine lv_iload_n hx hb d_PT_person_67 rfl (lv_at hl 2 rfl) ?_
          refine lv_iload_n hx hb d_PT_person_68 rfl (lv_at hl 3 rfl) ?_
          refine lv_iload hx hb d_PT_person_69 (lv_at hl 4 rfl) ?_
          obtain ⟨hg, hv⟩ := hv
          refine gk_callVi (As := [.int a1, .int a2, .int a3, .int a4]) (rest := []) (b := ad 1) ⟨hx, hb, hml, hown, hts⟩ (h_People_add _ s59 t17 a1 a2 a3 a4 hg) (gk_cwV 4 hts t_w29 rfl rfl rfl (hts _ t_w25) (hts _ t_w26) (hts _ t_w27) (hts _ t_w28) (by decide +kernel) ⟨Nat.le_of_ble_eq_true rfl, Nat.le_of_ble_eq_true rfl⟩) hK hP hD hS (va_recv hK hP (ci := 1) (q0 := 1) rfl rfl) rfl hl.1 rfl (lv_room (Nat.le_of_ble_eq_true rfl)) d_PT_person_71 ⟨Nat.zero_le _, Nat.zero_le _⟩ ?_
          intro r71 s71 t71 H locs hw hP hD hS
          replace hv := hv r71 s71 t71 hw
          exact gx_iret hx hb hr hlocks hK hP hD hS hv d_PT_person_74
        · replace hv := hv.2 hc
          exact gx_throw (X := xIS) (own := "PilotTugs") hlt hx hb hlocks hown hex (hl.1.trans hml.symm) hXT hst tx_IS tx_ISl tx_ISi tx_s75 (by decide) hK hP hD hS (by decide) d_PT_person_44 d_PT_person_47 d_PT_person_48 d_PT_person_50 d_PT_person_53 hv
      · replace hv := hv.2 hc
        exact gx_throw (X := xIA) (own := "PilotTugs") hlt hx hb hlocks hown hex (hl.1.trans hml.symm) hXT hst tx_IA tx_IAl tx_IAi tx_s64 (by decide) hK hP hD hS (by decide) d_PT_person_23 d_PT_person_26 d_PT_person_27 d_PT_person_29 d_PT_person_32 hv
def rm_PT_tug : Room := { frames := 6, cells := 1, slots := 6, locals := 82 }
theorem d_PT_tug_0 : decode b_PT_tug 0 = .ok (.iload_n 1, 1) := by decide +kernel
theorem d_PT_tug_1 : decode b_PT_tug 1 = .ok (.iconst 1, 1) := by decide +kernel
theorem d_PT_tug_2 : decode b_PT_tug 2 = .ok (.bipush 100, 2) := by decide +kernel
theorem d_PT_tug_4 : decode b_PT_tug 4 = .ok (.invokestatic 86, 3) := by decide +kernel
theorem d_PT_tug_7 : decode b_PT_tug 7 = .ok (.ifCond .ne 13, 3) := by decide +kernel
theorem d_PT_tug_10 : decode b_PT_tug 10 = .ok (.new 62, 3) := by decide +kernel
theorem d_PT_tug_13 : decode b_PT_tug 13 = .ok (.dup, 1) := by decide +kernel
theorem d_PT_tug_14 : decode b_PT_tug 14 = .ok (.ldc 90, 2) := by decide +kernel
theorem d_PT_tug_16 : decode b_PT_tug 16 = .ok (.invokespecial 66, 3) := by decide +kernel
theorem d_PT_tug_19 : decode b_PT_tug 19 = .ok (.athrow, 1) := by decide +kernel
theorem d_PT_tug_20 : decode b_PT_tug 20 = .ok (.aload_n 0, 1) := by decide +kernel
theorem d_PT_tug_21 : decode b_PT_tug 21 = .ok (.getfield 26, 3) := by decide +kernel
theorem d_PT_tug_24 : decode b_PT_tug 24 = .ok (.getfield 92, 3) := by decide +kernel
theorem d_PT_tug_27 : decode b_PT_tug 27 = .ok (.bipush 6, 2) := by decide +kernel
theorem d_PT_tug_29 : decode b_PT_tug 29 = .ok (.if_icmp .lt 13, 3) := by decide +kernel
theorem d_PT_tug_32 : decode b_PT_tug 32 = .ok (.new 73, 3) := by decide +kernel
theorem d_PT_tug_35 : decode b_PT_tug 35 = .ok (.dup, 1) := by decide +kernel
theorem d_PT_tug_36 : decode b_PT_tug 36 = .ok (.ldc 93, 2) := by decide +kernel
theorem d_PT_tug_38 : decode b_PT_tug 38 = .ok (.invokespecial 77, 3) := by decide +kernel
theorem d_PT_tug_41 : decode b_PT_tug 41 = .ok (.athrow, 1) := by decide +kernel
theorem d_PT_tug_42 : decode b_PT_tug 42 = .ok (.aload_n 0, 1) := by decide +kernel
theorem d_PT_tug_43 : decode b_PT_tug 43 = .ok (.getfield 47, 3) := by decide +kernel
theorem d_PT_tug_46 : decode b_PT_tug 46 = .ok (.iconst 0, 1) := by decide +kernel
theorem d_PT_tug_47 : decode b_PT_tug 47 = .ok (.putfield 78, 3) := by decide +kernel
theorem d_PT_tug_50 : decode b_PT_tug 50 = .ok (.aload_n 0, 1) := by decide +kernel
theorem d_PT_tug_51 : decode b_PT_tug 51 = .ok (.getfield 26, 3) := by decide +kernel
theorem d_PT_tug_54 : decode b_PT_tug 54 = .ok (.iload_n 1, 1) := by decide +kernel
theorem d_PT_tug_55 : decode b_PT_tug 55 = .ok (.invokevirtual 95, 3) := by decide +kernel
theorem d_PT_tug_58 : decode b_PT_tug 58 = .ok (.ireturn, 1) := by decide +kernel
def s_PT_tug_0 (P_PT_isWithin : MI → ML → Int32 → Int32 → Int32 → Prop) (Q_PT_isWithin : MI → ML → Int32 → Int32 → Int32 → Int32 → MI → ML → Prop) (P_Tugs_add : MI → ML → Int32 → Prop) (Q_Tugs_add : MI → ML → Int32 → Int32 → MI → ML → Prop) (σ : MI) (τ : ML) (a1 : Int32) (R : Int32 → MI → ML → Prop) (Z : String → MI → ML → Prop) : Prop :=
  P_PT_isWithin σ τ a1 1 100 ∧ ∀ (r4 : Int32) (s4 : MI) (t4 : ML), Q_PT_isWithin σ τ a1 1 100 r4 s4 t4 → ((¬ r4 = 0 →
  (((s4 15 0) < 6 →
    (∀ s47 : MI, s47 = st2 s4 22 0 0 → (P_Tugs_add s47 t4 a1 ∧ ∀ (r55 : Int32) (s55 : MI) (t55 : ML), Q_Tugs_add s47 t4 a1 r55 s55 t55 → (R r55 s55 t55)))) ∧
    (¬ (s4 15 0) < 6 →
    (Z "java/lang/IllegalStateException" s4 t4)))) ∧
  (r4 = 0 →
  (Z "java/lang/IllegalArgumentException" s4 t4)))
set_option maxHeartbeats 4000000 in
set_option maxRecDepth 100000 in
theorem k_PT_tug (l : Launch) (hlt : l.flags = flags0) (D : va_G) (ad : Nat → Nat) (ci cl : ClassId)
    (pre : MI → ML → Int32 → Prop) (post : MI → ML → Int32 → Int32 → MI → ML → Prop) (postZ : MI → ML → Int32 → String → MI → ML → Prop) (P_PT_isWithin : MI → ML → Int32 → Int32 → Int32 → Prop) (Q_PT_isWithin : MI → ML → Int32 → Int32 → Int32 → Int32 → MI → ML → Prop) (P_Tugs_add : MI → ML → Int32 → Prop) (Q_Tugs_add : MI → ML → Int32 → Int32 → MI → ML → Prop)
    (h_PT_isWithin : ∀ (sz : Nat) (σ : MI) (τ : ML) (b0 : Int32) (b1 : Int32) (b2 : Int32), P_PT_isWithin σ τ b0 b1 b2 → gMi l D (xw ad ci cl) (xt ci cl) (xa ad) y_PT_isWithin w_PT_isWithin rm_PT_isWithin [.int b0, .int b1, .int b2] sz σ τ (Q_PT_isWithin σ τ b0 b1 b2))
    (h_Tugs_add : ∀ (sz : Nat) (σ : MI) (τ : ML) (b0 : Int32), P_Tugs_add σ τ b0 → gMi l D (xw ad ci cl) (xt ci cl) (xa ad) y_Tugs_add w_Tugs_add rm_Tugs_add [.ref (ad 15), .int b0] sz σ τ (Q_Tugs_add σ τ b0))
    (v0 : ∀ (σ0 : MI) (τ0 : ML) (a1 : Int32), pre σ0 τ0 a1 → s_PT_tug_0 P_PT_isWithin Q_PT_isWithin P_Tugs_add Q_Tugs_add σ0 τ0 a1 (post σ0 τ0 a1) (postZ σ0 τ0 a1)) :
    ∀ (sz : Nat) (σ0 : MI) (τ0 : ML) (a1 : Int32), pre σ0 τ0 a1 → gMx l D (xw ad ci cl) (xt ci cl) (xa ad) y_PT_tug w_PT_tug rm_PT_tug [.ref (ad 0), .int a1] sz σ0 τ0 (post σ0 τ0 a1) (postZ σ0 τ0 a1) := by
  intro sz σ0 τ0 a1 hpre
  refine gx_ofW (cc := b_PT_tug) (maxL := 2) (ret := (some .int)) (by decide) rfl xa_ok (Nat.le_of_ble_eq_true rfl) ?_
  intro p e s m below meth c ls hx hb hr hlocks hml hown hts hK hP hD hS hl hex hXT hst
  have hl : lv_has ls 2 [(0, .ref (ad 0)), (1, .int a1)] := hl
  have hown : s.vm.findClass R_PT = some m.cls := hown
  have hv := v0 σ0 τ0 a1 hpre
  unfold s_PT_tug_0 at hv
  refine lv_iload_n hx hb d_PT_tug_0 rfl (lv_at hl 1 rfl) ?_
  refine lv_iconst (v := 1) hx hb d_PT_tug_1 (by decide) ?_
  refine lv_bipush (v := 100) hx hb d_PT_tug_2 (by decide) ?_
  obtain ⟨hg, hv⟩ := hv
  refine gk_callSi (As := [.int a1, .int 1, .int 100]) (rest := []) ⟨hx, hb, hml, hown, hts⟩ (h_PT_isWithin _ σ0 τ0 a1 1 100 hg) (gk_cwS 3 hts t_w6 rfl rfl rfl (hts _ t_w3) (hts _ t_w4) (hts _ t_w5) (by decide +kernel) ⟨Nat.le_of_ble_eq_true rfl, Nat.le_of_ble_eq_true rfl⟩) hK hP hD hS rfl hl.1 rfl (lv_room (Nat.le_of_ble_eq_true rfl)) d_PT_tug_4 ⟨Nat.zero_le _, Nat.zero_le _⟩ ?_
  intro r4 s4 t4 H locs hw hP hD hS
  replace hv := hv r4 s4 t4 hw
  refine lv_if_ne (tgt := 20) hx hb d_PT_tug_7 (by decide) (fun hc => ?_) (fun hc => ?_)
  · replace hv := hv.1 hc
    refine lv_aload_n hx hb d_PT_tug_20 rfl (lv_at hl 0 rfl) ?_
    refine va_get (D := D) (ci := 6) (v := .ref (ad 15)) (C := R_PT) (T := F_PT) (N := 6) hx hb hts iw_PT hown hK hP 0 rfl rfl 2 (by decide) (hts _ t_w32) (fun _ h9 => h9) rfl d_PT_tug_21 ?_
    refine va_get (D := D) (ci := 4) (v := .int (s4 15 0)) (C := R_Tugs) (T := F_Tugs) (N := 2) hx hb hts iw_Tugs hown hK hP 15 rfl rfl 0 (by decide) (hts _ t_w33) (fun _ h9 => h9) rfl d_PT_tug_24 ?_
    refine lv_bipush (v := 6) hx hb d_PT_tug_27 (by decide) ?_
    refine lv_icmp_lt (tgt := 42) hx hb d_PT_tug_29 (by decide) (fun hc => ?_) (fun hc => ?_)
    · replace hv := hv.1 hc
      refine lv_aload_n hx hb d_PT_tug_42 rfl (lv_at hl 0 rfl) ?_
      refine va_get (D := D) (ci := 6) (v := .ref (ad 22)) (C := R_PT) (T := F_PT) (N := 6) hx hb hts iw_PT hown hK hP 0 rfl rfl 5 (by decide) (hts _ t_w23) (fun _ h9 => h9) rfl d_PT_tug_43 ?_
      refine lv_iconst (v := 0) hx hb d_PT_tug_46 (by decide) ?_
      refine va_put (D := D) (ci := 2) (v := .int 0) (ty := .boolean) (fs := [.int (s4 22 0), .int (s4 22 1), .int (s4 22 2), .int (s4 22 3), .ref (ad 23), .ref (ad 24), .ref (ad 25), .ref (ad 26), .ref (ad 27)]) (C := R_Plan) (T := F_Plan) (N := 9) hx hb hts iw_Plan ty_Plan ty_Plan_ok nn_Plan hown hK hP hD hS 22 rfl rfl 0 (by decide) (hts _ t_w24) (fun _ h9 => h9) rfl (by decide +kernel) rfl rfl (Nat.le_of_ble_eq_true rfl) d_PT_tug_47 (fun H locs hP hD hS => ?_)
      rw [xf_22_0] at hP hD
      obtain ⟨s47, es47⟩ : ∃ z : MI, z = st2 s4 22 0 0 := ⟨_, rfl⟩
      rw [← es47] at hP hD
      replace hv := hv s47 es47
      refine lv_aload_n hx hb d_PT_tug_50 rfl (lv_at hl 0 rfl) ?_
      refine va_get (D := D) (ci := 6) (v := .ref (ad 15)) (C := R_PT) (T := F_PT) (N := 6) hx hb hts iw_PT hown hK hP 0 rfl rfl 2 (by decide) (hts _ t_w32) (fun _ h9 => h9) rfl d_PT_tug_51 ?_
      refine lv_iload_n hx hb d_PT_tug_54 rfl (lv_at hl 1 rfl) ?_
      obtain ⟨hg, hv⟩ := hv
      refine gk_callVi (As := [.int a1]) (rest := []) (b := ad 15) ⟨hx, hb, hml, hown, hts⟩ (h_Tugs_add _ s47 t4 a1 hg) (gk_cwV 1 hts t_w38 rfl rfl rfl (hts _ t_w34) (hts _ t_w35) (hts _ t_w36) (hts _ t_w37) (by decide +kernel) ⟨Nat.le_of_ble_eq_true rfl, Nat.le_of_ble_eq_true rfl⟩) hK hP hD hS (va_recv hK hP (ci := 4) (q0 := 15) rfl rfl) rfl hl.1 rfl (lv_room (Nat.le_of_ble_eq_true rfl)) d_PT_tug_55 ⟨Nat.zero_le _, Nat.zero_le _⟩ ?_
      intro r55 s55 t55 H locs hw hP hD hS
      replace hv := hv r55 s55 t55 hw
      exact gx_iret hx hb hr hlocks hK hP hD hS hv d_PT_tug_58
    · replace hv := hv.2 hc
      exact gx_throw (X := xIS) (own := "PilotTugs") hlt hx hb hlocks hown hex (hl.1.trans hml.symm) hXT hst tx_IS tx_ISl tx_ISi tx_s93 (by decide) hK hP hD hS (by decide) d_PT_tug_32 d_PT_tug_35 d_PT_tug_36 d_PT_tug_38 d_PT_tug_41 hv
  · replace hv := hv.2 hc
    exact gx_throw (X := xIA) (own := "PilotTugs") hlt hx hb hlocks hown hex (hl.1.trans hml.symm) hXT hst tx_IA tx_IAl tx_IAi tx_s90 (by decide) hK hP hD hS (by decide) d_PT_tug_10 d_PT_tug_13 d_PT_tug_14 d_PT_tug_16 d_PT_tug_19 hv
def rm_PT_job : Room := { frames := 6, cells := 1, slots := 6, locals := 82 }
theorem d_PT_job_0 : decode b_PT_job 0 = .ok (.iload_n 1, 1) := by decide +kernel
theorem d_PT_job_1 : decode b_PT_job 1 = .ok (.invokestatic 51, 3) := by decide +kernel
theorem d_PT_job_4 : decode b_PT_job 4 = .ok (.ifCond .eq 22, 3) := by decide +kernel
theorem d_PT_job_7 : decode b_PT_job 7 = .ok (.iload_n 2, 1) := by decide +kernel
theorem d_PT_job_8 : decode b_PT_job 8 = .ok (.iconst 0, 1) := by decide +kernel
theorem d_PT_job_9 : decode b_PT_job 9 = .ok (.sipush 300, 3) := by decide +kernel
theorem d_PT_job_12 : decode b_PT_job 12 = .ok (.invokestatic 86, 3) := by decide +kernel
theorem d_PT_job_15 : decode b_PT_job 15 = .ok (.ifCond .eq 11, 3) := by decide +kernel
theorem d_PT_job_18 : decode b_PT_job 18 = .ok (.iload 5, 2) := by decide +kernel
theorem d_PT_job_20 : decode b_PT_job 20 = .ok (.invokestatic 59, 3) := by decide +kernel
theorem d_PT_job_23 : decode b_PT_job 23 = .ok (.ifCond .ne 13, 3) := by decide +kernel
theorem d_PT_job_26 : decode b_PT_job 26 = .ok (.new 62, 3) := by decide +kernel
theorem d_PT_job_29 : decode b_PT_job 29 = .ok (.dup, 1) := by decide +kernel
theorem d_PT_job_30 : decode b_PT_job 30 = .ok (.ldc 98, 2) := by decide +kernel
theorem d_PT_job_32 : decode b_PT_job 32 = .ok (.invokespecial 66, 3) := by decide +kernel
theorem d_PT_job_35 : decode b_PT_job 35 = .ok (.athrow, 1) := by decide +kernel
theorem d_PT_job_36 : decode b_PT_job 36 = .ok (.iload_n 3, 1) := by decide +kernel
theorem d_PT_job_37 : decode b_PT_job 37 = .ok (.iload 4, 2) := by decide +kernel
theorem d_PT_job_39 : decode b_PT_job 39 = .ok (.invokestatic 55, 3) := by decide +kernel
theorem d_PT_job_42 : decode b_PT_job 42 = .ok (.ifCond .eq 13, 3) := by decide +kernel
theorem d_PT_job_45 : decode b_PT_job 45 = .ok (.iload 4, 2) := by decide +kernel
theorem d_PT_job_47 : decode b_PT_job 47 = .ok (.iload_n 3, 1) := by decide +kernel
theorem d_PT_job_48 : decode b_PT_job 48 = .ok (.isub, 1) := by decide +kernel
theorem d_PT_job_49 : decode b_PT_job 49 = .ok (.sipush 600, 3) := by decide +kernel
theorem d_PT_job_52 : decode b_PT_job 52 = .ok (.if_icmp .le 13, 3) := by decide +kernel
theorem d_PT_job_55 : decode b_PT_job 55 = .ok (.new 62, 3) := by decide +kernel
theorem d_PT_job_58 : decode b_PT_job 58 = .ok (.dup, 1) := by decide +kernel
theorem d_PT_job_59 : decode b_PT_job 59 = .ok (.ldc 100, 2) := by decide +kernel
theorem d_PT_job_61 : decode b_PT_job 61 = .ok (.invokespecial 66, 3) := by decide +kernel
theorem d_PT_job_64 : decode b_PT_job 64 = .ok (.athrow, 1) := by decide +kernel
theorem d_PT_job_65 : decode b_PT_job 65 = .ok (.aload_n 0, 1) := by decide +kernel
theorem d_PT_job_66 : decode b_PT_job 66 = .ok (.getfield 19, 3) := by decide +kernel
theorem d_PT_job_69 : decode b_PT_job 69 = .ok (.getfield 102, 3) := by decide +kernel
theorem d_PT_job_72 : decode b_PT_job 72 = .ok (.bipush 7, 2) := by decide +kernel
theorem d_PT_job_74 : decode b_PT_job 74 = .ok (.if_icmp .lt 13, 3) := by decide +kernel
theorem d_PT_job_77 : decode b_PT_job 77 = .ok (.new 73, 3) := by decide +kernel
theorem d_PT_job_80 : decode b_PT_job 80 = .ok (.dup, 1) := by decide +kernel
theorem d_PT_job_81 : decode b_PT_job 81 = .ok (.ldc 103, 2) := by decide +kernel
theorem d_PT_job_83 : decode b_PT_job 83 = .ok (.invokespecial 77, 3) := by decide +kernel
theorem d_PT_job_86 : decode b_PT_job 86 = .ok (.athrow, 1) := by decide +kernel
theorem d_PT_job_87 : decode b_PT_job 87 = .ok (.aload_n 0, 1) := by decide +kernel
theorem d_PT_job_88 : decode b_PT_job 88 = .ok (.getfield 47, 3) := by decide +kernel
theorem d_PT_job_91 : decode b_PT_job 91 = .ok (.iconst 0, 1) := by decide +kernel
theorem d_PT_job_92 : decode b_PT_job 92 = .ok (.putfield 78, 3) := by decide +kernel
theorem d_PT_job_95 : decode b_PT_job 95 = .ok (.aload_n 0, 1) := by decide +kernel
theorem d_PT_job_96 : decode b_PT_job 96 = .ok (.getfield 19, 3) := by decide +kernel
theorem d_PT_job_99 : decode b_PT_job 99 = .ok (.iload_n 1, 1) := by decide +kernel
theorem d_PT_job_100 : decode b_PT_job 100 = .ok (.iload_n 2, 1) := by decide +kernel
theorem d_PT_job_101 : decode b_PT_job 101 = .ok (.iload_n 3, 1) := by decide +kernel
theorem d_PT_job_102 : decode b_PT_job 102 = .ok (.iload 4, 2) := by decide +kernel
theorem d_PT_job_104 : decode b_PT_job 104 = .ok (.iload 5, 2) := by decide +kernel
theorem d_PT_job_106 : decode b_PT_job 106 = .ok (.invokevirtual 105, 3) := by decide +kernel
theorem d_PT_job_109 : decode b_PT_job 109 = .ok (.ireturn, 1) := by decide +kernel
def s_PT_job_0 (P_PT_isLicence : MI → ML → Int32 → Prop) (Q_PT_isLicence : MI → ML → Int32 → Int32 → MI → ML → Prop) (P_PT_isWithin : MI → ML → Int32 → Int32 → Int32 → Prop) (Q_PT_isWithin : MI → ML → Int32 → Int32 → Int32 → Int32 → MI → ML → Prop) (P_PT_isPlace : MI → ML → Int32 → Prop) (Q_PT_isPlace : MI → ML → Int32 → Int32 → MI → ML → Prop) (P_PT_isSpan : MI → ML → Int32 → Int32 → Prop) (Q_PT_isSpan : MI → ML → Int32 → Int32 → Int32 → MI → ML → Prop) (P_Jobs_add : MI → ML → Int32 → Int32 → Int32 → Int32 → Int32 → Prop) (Q_Jobs_add : MI → ML → Int32 → Int32 → Int32 → Int32 → Int32 → Int32 → MI → ML → Prop) (σ : MI) (τ : ML) (a1 : Int32) (a2 : Int32) (a3 : Int32) (a4 : Int32) (a5 : Int32) (R : Int32 → MI → ML → Prop) (Z : String → MI → ML → Prop) : Prop :=
  P_PT_isLicence σ τ a1 ∧ ∀ (r1 : Int32) (s1 : MI) (t1 : ML), Q_PT_isLicence σ τ a1 r1 s1 t1 → ((r1 = 0 →
  (Z "java/lang/IllegalArgumentException" s1 t1)) ∧
  (¬ r1 = 0 →
  (P_PT_isWithin s1 t1 a2 0 300 ∧ ∀ (r12 : Int32) (s12 : MI) (t12 : ML), Q_PT_isWithin s1 t1 a2 0 300 r12 s12 t12 → ((r12 = 0 →
    (Z "java/lang/IllegalArgumentException" s12 t12)) ∧
    (¬ r12 = 0 →
    (P_PT_isPlace s12 t12 a5 ∧ ∀ (r20 : Int32) (s20 : MI) (t20 : ML), Q_PT_isPlace s12 t12 a5 r20 s20 t20 → ((¬ r20 = 0 →
      (P_PT_isSpan s20 t20 a3 a4 ∧ ∀ (r39 : Int32) (s39 : MI) (t39 : ML), Q_PT_isSpan s20 t20 a3 a4 r39 s39 t39 → ((r39 = 0 →
        (Z "java/lang/IllegalArgumentException" s39 t39)) ∧
        (¬ r39 = 0 →
        (((a4 - a3) ≤ 600 →
          (((s39 8 0) < 7 →
            (∀ s92 : MI, s92 = st2 s39 22 0 0 → (P_Jobs_add s92 t39 a1 a2 a3 a4 a5 ∧ ∀ (r106 : Int32) (s106 : MI) (t106 : ML), Q_Jobs_add s92 t39 a1 a2 a3 a4 a5 r106 s106 t106 → (R r106 s106 t106)))) ∧
            (¬ (s39 8 0) < 7 →
            (Z "java/lang/IllegalStateException" s39 t39)))) ∧
          (¬ (a4 - a3) ≤ 600 →
          (Z "java/lang/IllegalArgumentException" s39 t39))))))) ∧
      (r20 = 0 →
      (Z "java/lang/IllegalArgumentException" s20 t20)))))))))
set_option maxHeartbeats 4000000 in
set_option maxRecDepth 100000 in
theorem k_PT_job (l : Launch) (hlt : l.flags = flags0) (D : va_G) (ad : Nat → Nat) (ci cl : ClassId)
    (pre : MI → ML → Int32 → Int32 → Int32 → Int32 → Int32 → Prop) (post : MI → ML → Int32 → Int32 → Int32 → Int32 → Int32 → Int32 → MI → ML → Prop) (postZ : MI → ML → Int32 → Int32 → Int32 → Int32 → Int32 → String → MI → ML → Prop) (P_PT_isLicence : MI → ML → Int32 → Prop) (Q_PT_isLicence : MI → ML → Int32 → Int32 → MI → ML → Prop) (P_PT_isWithin : MI → ML → Int32 → Int32 → Int32 → Prop) (Q_PT_isWithin : MI → ML → Int32 → Int32 → Int32 → Int32 → MI → ML → Prop) (P_PT_isPlace : MI → ML → Int32 → Prop) (Q_PT_isPlace : MI → ML → Int32 → Int32 → MI → ML → Prop) (P_PT_isSpan : MI → ML → Int32 → Int32 → Prop) (Q_PT_isSpan : MI → ML → Int32 → Int32 → Int32 → MI → ML → Prop) (P_Jobs_add : MI → ML → Int32 → Int32 → Int32 → Int32 → Int32 → Prop) (Q_Jobs_add : MI → ML → Int32 → Int32 → Int32 → Int32 → Int32 → Int32 → MI → ML → Prop)
    (h_PT_isLicence : ∀ (sz : Nat) (σ : MI) (τ : ML) (b0 : Int32), P_PT_isLicence σ τ b0 → gMi l D (xw ad ci cl) (xt ci cl) (xa ad) y_PT_isLicence w_PT_isLicence rm_PT_isLicence [.int b0] sz σ τ (Q_PT_isLicence σ τ b0))
    (h_PT_isWithin : ∀ (sz : Nat) (σ : MI) (τ : ML) (b0 : Int32) (b1 : Int32) (b2 : Int32), P_PT_isWithin σ τ b0 b1 b2 → gMi l D (xw ad ci cl) (xt ci cl) (xa ad) y_PT_isWithin w_PT_isWithin rm_PT_isWithin [.int b0, .int b1, .int b2] sz σ τ (Q_PT_isWithin σ τ b0 b1 b2))
    (h_PT_isPlace : ∀ (sz : Nat) (σ : MI) (τ : ML) (b0 : Int32), P_PT_isPlace σ τ b0 → gMi l D (xw ad ci cl) (xt ci cl) (xa ad) y_PT_isPlace w_PT_isPlace rm_PT_isPlace [.int b0] sz σ τ (Q_PT_isPlace σ τ b0))
    (h_PT_isSpan : ∀ (sz : Nat) (σ : MI) (τ : ML) (b0 : Int32) (b1 : Int32), P_PT_isSpan σ τ b0 b1 → gMi l D (xw ad ci cl) (xt ci cl) (xa ad) y_PT_isSpan w_PT_isSpan rm_PT_isSpan [.int b0, .int b1] sz σ τ (Q_PT_isSpan σ τ b0 b1))
    (h_Jobs_add : ∀ (sz : Nat) (σ : MI) (τ : ML) (b0 : Int32) (b1 : Int32) (b2 : Int32) (b3 : Int32) (b4 : Int32), P_Jobs_add σ τ b0 b1 b2 b3 b4 → gMi l D (xw ad ci cl) (xt ci cl) (xa ad) y_Jobs_add w_Jobs_add rm_Jobs_add [.ref (ad 8), .int b0, .int b1, .int b2, .int b3, .int b4] sz σ τ (Q_Jobs_add σ τ b0 b1 b2 b3 b4))
    (v0 : ∀ (σ0 : MI) (τ0 : ML) (a1 : Int32) (a2 : Int32) (a3 : Int32) (a4 : Int32) (a5 : Int32), pre σ0 τ0 a1 a2 a3 a4 a5 → s_PT_job_0 P_PT_isLicence Q_PT_isLicence P_PT_isWithin Q_PT_isWithin P_PT_isPlace Q_PT_isPlace P_PT_isSpan Q_PT_isSpan P_Jobs_add Q_Jobs_add σ0 τ0 a1 a2 a3 a4 a5 (post σ0 τ0 a1 a2 a3 a4 a5) (postZ σ0 τ0 a1 a2 a3 a4 a5)) :
    ∀ (sz : Nat) (σ0 : MI) (τ0 : ML) (a1 : Int32) (a2 : Int32) (a3 : Int32) (a4 : Int32) (a5 : Int32), pre σ0 τ0 a1 a2 a3 a4 a5 → gMx l D (xw ad ci cl) (xt ci cl) (xa ad) y_PT_job w_PT_job rm_PT_job [.ref (ad 0), .int a1, .int a2, .int a3, .int a4, .int a5] sz σ0 τ0 (post σ0 τ0 a1 a2 a3 a4 a5) (postZ σ0 τ0 a1 a2 a3 a4 a5) := by
  intro sz σ0 τ0 a1 a2 a3 a4 a5 hpre
  refine gx_ofW (cc := b_PT_job) (maxL := 6) (ret := (some .int)) (by decide) rfl xa_ok (Nat.le_of_ble_eq_true rfl) ?_
  intro p e s m below meth c ls hx hb hr hlocks hml hown hts hK hP hD hS hl hex hXT hst
  have hl : lv_has ls 6 [(0, .ref (ad 0)), (1, .int a1), (2, .int a2), (3, .int a3), (4, .int a4), (5, .int a5)] := hl
  have hown : s.vm.findClass R_PT = some m.cls := hown
  have hv := v0 σ0 τ0 a1 a2 a3 a4 a5 hpre
  unfold s_PT_job_0 at hv
  refine lv_iload_n hx hb d_PT_job_0 rfl (lv_at hl 1 rfl) ?_
  obtain ⟨hg, hv⟩ := hv
  refine gk_callSi (As := [.int a1]) (rest := []) ⟨hx, hb, hml, hown, hts⟩ (h_PT_isLicence _ σ0 τ0 a1 hg) (gk_cwS 1 hts t_w14 rfl rfl rfl (hts _ t_w12) (hts _ t_w13) (hts _ t_w5) (by decide +kernel) ⟨Nat.le_of_ble_eq_true rfl, Nat.le_of_ble_eq_true rfl⟩) hK hP hD hS rfl hl.1 rfl (lv_room (Nat.le_of_ble_eq_true rfl)) d_PT_job_1 ⟨Nat.zero_le _, Nat.zero_le _⟩ ?_
  intro r1 s1 t1 H locs hw hP hD hS
  replace hv := hv r1 s1 t1 hw
  refine lv_if_eq (tgt := 26) hx hb d_PT_job_4 (by decide) (fun hc => ?_) (fun hc => ?_)
  · replace hv := hv.1 hc
    exact gx_throw (X := xIA) (own := "PilotTugs") hlt hx hb hlocks hown hex (hl.1.trans hml.symm) hXT hst tx_IA tx_IAl tx_IAi tx_s98 (by decide) hK hP hD hS (by decide) d_PT_job_26 d_PT_job_29 d_PT_job_30 d_PT_job_32 d_PT_job_35 hv
  · replace hv := hv.2 hc
    refine lv_iload_n hx hb d_PT_job_7 rfl (lv_at hl 2 rfl) ?_
    refine lv_iconst (v := 0) hx hb d_PT_job_8 (by decide) ?_
    refine lv_sipush (v := 300) hx hb d_PT_job_9 (by decide) ?_
    obtain ⟨hg, hv⟩ := hv
    refine gk_callSi (As := [.int a2, .int 0, .int 300]) (rest := []) ⟨hx, hb, hml, hown, hts⟩ (h_PT_isWithin _ s1 t1 a2 0 300 hg) (gk_cwS 3 hts t_w6 rfl rfl rfl (hts _ t_w3) (hts _ t_w4) (hts _ t_w5) (by decide +kernel) ⟨Nat.le_of_ble_eq_true rfl, Nat.le_of_ble_eq_true rfl⟩) hK hP hD hS rfl hl.1 rfl (lv_room (Nat.le_of_ble_eq_true rfl)) d_PT_job_12 ⟨Nat.zero_le _, Nat.zero_le _⟩ ?_
    intro r12 s12 t12 H locs hw hP hD hS
    replace hv := hv r12 s12 t12 hw
    refine lv_if_eq (tgt := 26) hx hb d_PT_job_15 (by decide) (fun hc => ?_) (fun hc => ?_)
    · replace hv := hv.1 hc
      exact gx_throw (X := xIA) (own := "PilotTugs") hlt hx hb hlocks hown hex (hl.1.trans hml.symm) hXT hst tx_IA tx_IAl tx_IAi tx_s98 (by decide) hK hP hD hS (by decide) d_PT_job_26 d_PT_job_29 d_PT_job_30 d_PT_job_32 d_PT_job_35 hv
    · replace hv := hv.2 hc
      refine lv_iload hx hb d_PT_job_18 (lv_at hl 5 rfl) ?_
      obtain ⟨hg, hv⟩ := hv
      refine gk_callSi (As := [.int a5]) (rest := []) ⟨hx, hb, hml, hown, hts⟩ (h_PT_isPlace _ s12 t12 a5 hg) (gk_cwS 1 hts t_w20 rfl rfl rfl (hts _ t_w18) (hts _ t_w19) (hts _ t_w5) (by decide +kernel) ⟨Nat.le_of_ble_eq_true rfl, Nat.le_of_ble_eq_true rfl⟩) hK hP hD hS rfl hl.1 rfl (lv_room (Nat.le_of_ble_eq_true rfl)) d_PT_job_20 ⟨Nat.zero_le _, Nat.zero_le _⟩ ?_
      intro r20 s20 t20 H locs hw hP hD hS
      replace hv := hv r20 s20 t20 hw
      refine lv_if_ne (tgt := 36) hx hb d_PT_job_23 (by decide) (fun hc => ?_) (fun hc => ?_)
      · replace hv := hv.1 hc
        refine lv_iload_n hx hb d_PT_job_36 rfl (lv_at hl 3 rfl) ?_
        refine lv_iload hx hb d_PT_job_37 (lv_at hl 4 rfl) ?_
        obtain ⟨hg, hv⟩ := hv
        refine gk_callSi (As := [.int a3, .int a4]) (rest := []) ⟨hx, hb, hml, hown, hts⟩ (h_PT_isSpan _ s20 t20 a3 a4 hg) (gk_cwS 2 hts t_w17 rfl rfl rfl (hts _ t_w15) (hts _ t_w16) (hts _ t_w5) (by decide +kernel) ⟨Nat.le_of_ble_eq_true rfl, Nat.le_of_ble_eq_true rfl⟩) hK hP hD hS rfl hl.1 rfl (lv_room (Nat.le_of_ble_eq_true rfl)) d_PT_job_39 ⟨Nat.zero_le _, Nat.zero_le _⟩ ?_
        intro r39 s39 t39 H locs hw hP hD hS
        replace hv := hv r39 s39 t39 hw
        refine lv_if_eq (tgt := 55) hx hb d_PT_job_42 (by decide) (fun hc => ?_) (fun hc => ?_)
        · replace hv := hv.1 hc
          exact gx_throw (X := xIA) (own := "PilotTugs") hlt hx hb hlocks hown hex (hl.1.trans hml.symm) hXT hst tx_IA tx_IAl tx_IAi tx_s100 (by decide) hK hP hD hS (by decide) d_PT_job_55 d_PT_job_58 d_PT_job_59 d_PT_job_61 d_PT_job_64 hv
        · replace hv := hv.2 hc
          refine lv_iload hx hb d_PT_job_45 (lv_at hl 4 rfl) ?_
          refine lv_iload_n hx hb d_PT_job_47 rfl (lv_at hl 3 rfl) ?_
          refine lv_isub hx hb d_PT_job_48 ?_
          refine lv_sipush (v := 600) hx hb d_PT_job_49 (by decide) ?_
          refine lv_icmp_le (tgt := 65) hx hb d_PT_job_52 (by decide) (fun hc => ?_) (fun hc => ?_)
          · replace hv := hv.1 hc
            refine lv_aload_n hx hb d_PT_job_65 rfl (lv_at hl 0 rfl) ?_
            refine va_get (D := D) (ci := 6) (v := .ref (ad 8)) (C := R_PT) (T := F_PT) (N := 6) hx hb hts iw_PT hown hK hP 0 rfl rfl 1 (by decide) (hts _ t_w45) (fun _ h9 => h9) rfl d_PT_job_66 ?_
            refine va_get (D := D) (ci := 0) (v := .int (s39 8 0)) (C := R_Jobs) (T := F_Jobs) (N := 7) hx hb hts iw_Jobs hown hK hP 8 rfl rfl 0 (by decide) (hts _ t_w46) (fun _ h9 => h9) rfl d_PT_job_69 ?_
            refine lv_bipush (v := 7) hx hb d_PT_job_72 (by decide) ?_
            refine lv_icmp_lt (tgt := 87) hx hb d_PT_job_74 (by decide) (fun hc => ?_) (fun hc => ?_)
            · replace hv := hv.1 hc
              refine lv_aload_n hx hb d_PT_job_87 rfl (lv_at hl 0 rfl) ?_
              refine va_get (D := D) (ci := 6) (v := .ref (ad 22)) (C := R_PT) (T := F_PT) (N := 6) hx hb hts iw_PT hown hK hP 0 rfl rfl 5 (by decide) (hts _ t_w23) (fun _ h9 => h9) rfl d_PT_job_88 ?_
              refine lv_iconst (v := 0) hx hb d_PT_job_91 (by decide) ?_
              refine va_put (D := D) (ci := 2) (v := .int 0) (ty := .boolean) (fs := [.int (s39 22 0), .int (s39 22 1), .int (s39 22 2), .int (s39 22 3), .ref (ad 23), .ref (ad 24), .ref (ad 25), .ref (ad 26), .ref (ad 27)]) (C := R_Plan) (T := F_Plan) (N := 9) hx hb hts iw_Plan ty_Plan ty_Plan_ok nn_Plan hown hK hP hD hS 22 rfl rfl 0 (by decide) (hts _ t_w24) (fun _ h9 => h9) rfl (by decide +kernel) rfl rfl (Nat.le_of_ble_eq_true rfl) d_PT_job_92 (fun H locs hP hD hS => ?_)
              rw [xf_22_0] at hP hD
              obtain ⟨s92, es92⟩ : ∃ z : MI, z = st2 s39 22 0 0 := ⟨_, rfl⟩
              rw [← es92] at hP hD
              replace hv := hv s92 es92
              refine lv_aload_n hx hb d_PT_job_95 rfl (lv_at hl 0 rfl) ?_
              refine va_get (D := D) (ci := 6) (v := .ref (ad 8)) (C := R_PT) (T := F_PT) (N := 6) hx hb hts iw_PT hown hK hP 0 rfl rfl 1 (by decide) (hts _ t_w45) (fun _ h9 => h9) rfl d_PT_job_96 ?_
              refine lv_iload_n hx hb d_PT_job_99 rfl (lv_at hl 1 rfl) ?_
              refine lv_iload_n hx hb d_PT_job_100 rfl (lv_at hl 2 rfl) ?_
              refine lv_iload_n hx hb d_PT_job_101 rfl (lv_at hl 3 rfl) ?_
              refine lv_iload hx hb d_PT_job_102 (lv_at hl 4 rfl) ?_
              refine lv_iload hx hb d_PT_job_104 (lv_at hl 5 rfl) ?_
              obtain ⟨hg, hv⟩ := hv
              refine gk_callVi (As := [.int a1, .int a2, .int a3, .int a4, .int a5]) (rest := []) (b := ad 8) ⟨hx, hb, hml, hown, hts⟩ (h_Jobs_add _ s92 t39 a1 a2 a3 a4 a5 hg) (gk_cwV 5 hts t_w51 rfl rfl rfl (hts _ t_w47) (hts _ t_w48) (hts _ t_w49) (hts _ t_w50) (by decide +kernel) ⟨Nat.le_of_ble_eq_true rfl, Nat.le_of_ble_eq_true rfl⟩) hK hP hD hS (va_recv hK hP (ci := 0) (q0 := 8) rfl rfl) rfl hl.1 rfl (lv_room (Nat.le_of_ble_eq_true rfl)) d_PT_job_106 ⟨Nat.zero_le _, Nat.zero_le _⟩ ?_
              intro r106 s106 t106 H locs hw hP hD hS
              replace hv := hv r106 s106 t106 hw
              exact gx_iret hx hb hr hlocks hK hP hD hS hv d_PT_job_109
            · replace hv := hv.2 hc
              exact gx_throw (X := xIS) (own := "PilotTugs") hlt hx hb hlocks hown hex (hl.1.trans hml.symm) hXT hst tx_IS tx_ISl tx_ISi tx_s103 (by decide) hK hP hD hS (by decide) d_PT_job_77 d_PT_job_80 d_PT_job_81 d_PT_job_83 d_PT_job_86 hv
          · replace hv := hv.2 hc
            exact gx_throw (X := xIA) (own := "PilotTugs") hlt hx hb hlocks hown hex (hl.1.trans hml.symm) hXT hst tx_IA tx_IAl tx_IAi tx_s100 (by decide) hK hP hD hS (by decide) d_PT_job_55 d_PT_job_58 d_PT_job_59 d_PT_job_61 d_PT_job_64 hv
      · replace hv := hv.2 hc
        exact gx_throw (X := xIA) (own := "PilotTugs") hlt hx hb hlocks hown hex (hl.1.trans hml.symm) hXT hst tx_IA tx_IAl tx_IAi tx_s98 (by decide) hK hP hD hS (by decide) d_PT_job_26 d_PT_job_29 d_PT_job_30 d_PT_job_32 d_PT_job_35 hv
def rm_PT_of : Room := { frames := 6, cells := 1, slots := 6, locals := 82 }
theorem d_PT_of_0 : decode b_PT_of 0 = .ok (.aload_n 0, 1) := by decide +kernel
theorem d_PT_of_1 : decode b_PT_of 1 = .ok (.iload_n 1, 1) := by decide +kernel
theorem d_PT_of_2 : decode b_PT_of 2 = .ok (.invokevirtual 131, 3) := by decide +kernel
theorem d_PT_of_5 : decode b_PT_of 5 = .ok (.ifCond .eq 12, 3) := by decide +kernel
theorem d_PT_of_8 : decode b_PT_of 8 = .ok (.iload_n 2, 1) := by decide +kernel
theorem d_PT_of_9 : decode b_PT_of 9 = .ok (.iconst 0, 1) := by decide +kernel
theorem d_PT_of_10 : decode b_PT_of 10 = .ok (.iconst 4, 1) := by decide +kernel
theorem d_PT_of_11 : decode b_PT_of 11 = .ok (.invokestatic 86, 3) := by decide +kernel
theorem d_PT_of_14 : decode b_PT_of 14 = .ok (.ifCond .ne 13, 3) := by decide +kernel
theorem d_PT_of_17 : decode b_PT_of 17 = .ok (.new 134, 3) := by decide +kernel
theorem d_PT_of_20 : decode b_PT_of 20 = .ok (.dup, 1) := by decide +kernel
theorem d_PT_of_21 : decode b_PT_of 21 = .ok (.ldc 136, 2) := by decide +kernel
theorem d_PT_of_23 : decode b_PT_of 23 = .ok (.invokespecial 138, 3) := by decide +kernel
theorem d_PT_of_26 : decode b_PT_of 26 = .ok (.athrow, 1) := by decide +kernel
theorem d_PT_of_27 : decode b_PT_of 27 = .ok (.aload_n 0, 1) := by decide +kernel
theorem d_PT_of_28 : decode b_PT_of 28 = .ok (.getfield 47, 3) := by decide +kernel
theorem d_PT_of_31 : decode b_PT_of 31 = .ok (.getfield 78, 3) := by decide +kernel
theorem d_PT_of_34 : decode b_PT_of 34 = .ok (.ifCond .ne 13, 3) := by decide +kernel
theorem d_PT_of_37 : decode b_PT_of 37 = .ok (.new 73, 3) := by decide +kernel
theorem d_PT_of_40 : decode b_PT_of 40 = .ok (.dup, 1) := by decide +kernel
theorem d_PT_of_41 : decode b_PT_of 41 = .ok (.ldc 139, 2) := by decide +kernel
theorem d_PT_of_43 : decode b_PT_of 43 = .ok (.invokespecial 77, 3) := by decide +kernel
theorem d_PT_of_46 : decode b_PT_of 46 = .ok (.athrow, 1) := by decide +kernel
theorem d_PT_of_47 : decode b_PT_of 47 = .ok (.iload_n 2, 1) := by decide +kernel
theorem d_PT_of_48 : decode b_PT_of 48 = .ok (.tableswitch 72 0 3 #[32, 42, 52, 62], 32) := by decide +kernel
theorem d_PT_of_80 : decode b_PT_of 80 = .ok (.aload_n 0, 1) := by decide +kernel
theorem d_PT_of_81 : decode b_PT_of 81 = .ok (.getfield 47, 3) := by decide +kernel
theorem d_PT_of_84 : decode b_PT_of 84 = .ok (.getfield 141, 3) := by decide +kernel
theorem d_PT_of_87 : decode b_PT_of 87 = .ok (.iload_n 1, 1) := by decide +kernel
theorem d_PT_of_88 : decode b_PT_of 88 = .ok (.iaload, 1) := by decide +kernel
theorem d_PT_of_89 : decode b_PT_of 89 = .ok (.ireturn, 1) := by decide +kernel
theorem d_PT_of_90 : decode b_PT_of 90 = .ok (.aload_n 0, 1) := by decide +kernel
theorem d_PT_of_91 : decode b_PT_of 91 = .ok (.getfield 47, 3) := by decide +kernel
theorem d_PT_of_94 : decode b_PT_of 94 = .ok (.getfield 144, 3) := by decide +kernel
theorem d_PT_of_97 : decode b_PT_of 97 = .ok (.iload_n 1, 1) := by decide +kernel
theorem d_PT_of_98 : decode b_PT_of 98 = .ok (.iaload, 1) := by decide +kernel
theorem d_PT_of_99 : decode b_PT_of 99 = .ok (.ireturn, 1) := by decide +kernel
theorem d_PT_of_100 : decode b_PT_of 100 = .ok (.aload_n 0, 1) := by decide +kernel
theorem d_PT_of_101 : decode b_PT_of 101 = .ok (.getfield 47, 3) := by decide +kernel
theorem d_PT_of_104 : decode b_PT_of 104 = .ok (.getfield 147, 3) := by decide +kernel
theorem d_PT_of_107 : decode b_PT_of 107 = .ok (.iload_n 1, 1) := by decide +kernel
theorem d_PT_of_108 : decode b_PT_of 108 = .ok (.iaload, 1) := by decide +kernel
theorem d_PT_of_109 : decode b_PT_of 109 = .ok (.ireturn, 1) := by decide +kernel
theorem d_PT_of_110 : decode b_PT_of 110 = .ok (.aload_n 0, 1) := by decide +kernel
theorem d_PT_of_111 : decode b_PT_of 111 = .ok (.getfield 47, 3) := by decide +kernel
theorem d_PT_of_114 : decode b_PT_of 114 = .ok (.getfield 150, 3) := by decide +kernel
theorem d_PT_of_117 : decode b_PT_of 117 = .ok (.iload_n 1, 1) := by decide +kernel
theorem d_PT_of_118 : decode b_PT_of 118 = .ok (.iaload, 1) := by decide +kernel
theorem d_PT_of_119 : decode b_PT_of 119 = .ok (.ireturn, 1) := by decide +kernel
theorem d_PT_of_120 : decode b_PT_of 120 = .ok (.aload_n 0, 1) := by decide +kernel
theorem d_PT_of_121 : decode b_PT_of 121 = .ok (.iload_n 1, 1) := by decide +kernel
theorem d_PT_of_122 : decode b_PT_of 122 = .ok (.invokevirtual 153, 3) := by decide +kernel
theorem d_PT_of_125 : decode b_PT_of 125 = .ok (.ireturn, 1) := by decide +kernel
def s_PT_of_0 (P_PT_isJob : MI → ML → Int32 → Prop) (Q_PT_isJob : MI → ML → Int32 → Int32 → MI → ML → Prop) (P_PT_isWithin : MI → ML → Int32 → Int32 → Int32 → Prop) (Q_PT_isWithin : MI → ML → Int32 → Int32 → Int32 → Int32 → MI → ML → Prop) (P_PT_whyNobody : MI → ML → Int32 → Prop) (Q_PT_whyNobody : MI → ML → Int32 → Int32 → MI → ML → Prop) (σ : MI) (τ : ML) (a1 : Int32) (a2 : Int32) (R : Int32 → MI → ML → Prop) (Z : String → MI → ML → Prop) : Prop :=
  P_PT_isJob σ τ a1 ∧ ∀ (r2 : Int32) (s2 : MI) (t2 : ML), Q_PT_isJob σ τ a1 r2 s2 t2 → ((r2 = 0 →
  (Z "java/lang/IndexOutOfBoundsException" s2 t2)) ∧
  (¬ r2 = 0 →
  (P_PT_isWithin s2 t2 a2 0 4 ∧ ∀ (r11 : Int32) (s11 : MI) (t11 : ML), Q_PT_isWithin s2 t2 a2 0 4 r11 s11 t11 → ((¬ r11 = 0 →
    ((¬ (s11 22 0) = 0 →
      ((a2 = 0 →
        (vp_in a1 7 ∧ (R (s11 23 (Int32.toNatClampNeg a1)) s11 t11))) ∧ (¬ a2 = 0 →
        ((a2 = 1 →
        (vp_in a1 7 ∧ (R (s11 24 (Int32.toNatClampNeg a1)) s11 t11))) ∧ (¬ a2 = 1 →
        ((a2 = 2 →
        (vp_in a1 7 ∧ (R (s11 25 (Int32.toNatClampNeg a1)) s11 t11))) ∧ (¬ a2 = 2 →
        ((a2 = 3 →
        (vp_in a1 7 ∧ (R (s11 26 (Int32.toNatClampNeg a1)) s11 t11))) ∧ (¬ a2 = 3 →
        (P_PT_whyNobody s11 t11 a1 ∧ ∀ (r122 : Int32) (s122 : MI) (t122 : ML), Q_PT_whyNobody s11 t11 a1 r122 s122 t122 → (R r122 s122 t122))))))))))) ∧
      ((s11 22 0) = 0 →
      (Z "java/lang/IllegalStateException" s11 t11)))) ∧
    (r11 = 0 →
    (Z "java/lang/IndexOutOfBoundsException" s11 t11))))))
set_option maxHeartbeats 4000000 in
set_option maxRecDepth 100000 in
theorem k_PT_of (l : Launch) (hlt : l.flags = flags0) (D : va_G) (ad : Nat → Nat) (ci cl : ClassId)
    (pre : MI → ML → Int32 → Int32 → Prop) (post : MI → ML → Int32 → Int32 → Int32 → MI → ML → Prop) (postZ : MI → ML → Int32 → Int32 → String → MI → ML → Prop) (P_PT_isJob : MI → ML → Int32 → Prop) (Q_PT_isJob : MI → ML → Int32 → Int32 → MI → ML → Prop) (P_PT_isWithin : MI → ML → Int32 → Int32 → Int32 → Prop) (Q_PT_isWithin : MI → ML → Int32 → Int32 → Int32 → Int32 → MI → ML → Prop) (P_PT_whyNobody : MI → ML → Int32 → Prop) (Q_PT_whyNobody : MI → ML → Int32 → Int32 → MI → ML → Prop)
    (h_PT_isJob : ∀ (sz : Nat) (σ : MI) (τ : ML) (b0 : Int32), P_PT_isJob σ τ b0 → gMi l D (xw ad ci cl) (xt ci cl) (xa ad) y_PT_isJob w_PT_isJob rm_PT_isJob [.ref (ad 0), .int b0] sz σ τ (Q_PT_isJob σ τ b0))
    (h_PT_isWithin : ∀ (sz : Nat) (σ : MI) (τ : ML) (b0 : Int32) (b1 : Int32) (b2 : Int32), P_PT_isWithin σ τ b0 b1 b2 → gMi l D (xw ad ci cl) (xt ci cl) (xa ad) y_PT_isWithin w_PT_isWithin rm_PT_isWithin [.int b0, .int b1, .int b2] sz σ τ (Q_PT_isWithin σ τ b0 b1 b2))
    (h_PT_whyNobody : ∀ (sz : Nat) (σ : MI) (τ : ML) (b0 : Int32), P_PT_whyNobody σ τ b0 → gMi l D (xw ad ci cl) (xt ci cl) (xa ad) y_PT_whyNobody w_PT_whyNobody rm_PT_whyNobody [.ref (ad 0), .int b0] sz σ τ (Q_PT_whyNobody σ τ b0))
    (v0 : ∀ (σ0 : MI) (τ0 : ML) (a1 : Int32) (a2 : Int32), pre σ0 τ0 a1 a2 → s_PT_of_0 P_PT_isJob Q_PT_isJob P_PT_isWithin Q_PT_isWithin P_PT_whyNobody Q_PT_whyNobody σ0 τ0 a1 a2 (post σ0 τ0 a1 a2) (postZ σ0 τ0 a1 a2)) :
    ∀ (sz : Nat) (σ0 : MI) (τ0 : ML) (a1 : Int32) (a2 : Int32), pre σ0 τ0 a1 a2 → gMx l D (xw ad ci cl) (xt ci cl) (xa ad) y_PT_of w_PT_of rm_PT_of [.ref (ad 0), .int a1, .int a2] sz σ0 τ0 (post σ0 τ0 a1 a2) (postZ σ0 τ0 a1 a2) := by
  intro sz σ0 τ0 a1 a2 hpre
  refine gx_ofW (cc := b_PT_of) (maxL := 3) (ret := (some .int)) (by decide) rfl xa_ok (Nat.le_of_ble_eq_true rfl) ?_
  intro p e s m below meth c ls hx hb hr hlocks hml hown hts hK hP hD hS hl hex hXT hst
  have hl : lv_has ls 3 [(0, .ref (ad 0)), (1, .int a1), (2, .int a2)] := hl
  have hown : s.vm.findClass R_PT = some m.cls := hown
  have hv := v0 σ0 τ0 a1 a2 hpre
  unfold s_PT_of_0 at hv
  refine lv_aload_n hx hb d_PT_of_0 rfl (lv_at hl 0 rfl) ?_
  refine lv_iload_n hx hb d_PT_of_1 rfl (lv_at hl 1 rfl) ?_
  obtain ⟨hg, hv⟩ := hv
  refine gk_callVi (As := [.int a1]) (rest := []) (b := ad 0) ⟨hx, hb, hml, hown, hts⟩ (h_PT_isJob _ σ0 τ0 a1 hg) (gk_cwV 1 hts t_w211 rfl rfl rfl (hts _ t_w208) (hts _ t_w209) (hts _ t_w210) (hts _ t_w5) (by decide +kernel) ⟨Nat.le_of_ble_eq_true rfl, Nat.le_of_ble_eq_true rfl⟩) hK hP hD hS (va_recv hK hP (ci := 6) (q0 := 0) rfl rfl) rfl hl.1 rfl (lv_room (Nat.le_of_ble_eq_true rfl)) d_PT_of_2 ⟨Nat.zero_le _, Nat.zero_le _⟩ ?_
  intro r2 s2 t2 H locs hw hP hD hS
  replace hv := hv r2 s2 t2 hw
  refine lv_if_eq (tgt := 17) hx hb d_PT_of_5 (by decide) (fun hc => ?_) (fun hc => ?_)
  · replace hv := hv.1 hc
    exact gx_throw (X := xIO) (own := "PilotTugs") hlt hx hb hlocks hown hex (hl.1.trans hml.symm) hXT hst tx_IO tx_IOl tx_IOi tx_s136 (by decide) hK hP hD hS (by decide) d_PT_of_17 d_PT_of_20 d_PT_of_21 d_PT_of_23 d_PT_of_26 hv
  · replace hv := hv.2 hc
    refine lv_iload_n hx hb d_PT_of_8 rfl (lv_at hl 2 rfl) ?_
    refine lv_iconst (v := 0) hx hb d_PT_of_9 (by decide) ?_
    refine lv_iconst (v := 4) hx hb d_PT_of_10 (by decide) ?_
    obtain ⟨hg, hv⟩ := hv
    refine gk_callSi (As := [.int a2, .int 0, .int 4]) (rest := []) ⟨hx, hb, hml, hown, hts⟩ (h_PT_isWithin _ s2 t2 a2 0 4 hg) (gk_cwS 3 hts t_w6 rfl rfl rfl (hts _ t_w3) (hts _ t_w4) (hts _ t_w5) (by decide +kernel) ⟨Nat.le_of_ble_eq_true rfl, Nat.le_of_ble_eq_true rfl⟩) hK hP hD hS rfl hl.1 rfl (lv_room (Nat.le_of_ble_eq_true rfl)) d_PT_of_11 ⟨Nat.zero_le _, Nat.zero_le _⟩ ?_
    intro r11 s11 t11 H locs hw hP hD hS
    replace hv := hv r11 s11 t11 hw
    refine lv_if_ne (tgt := 27) hx hb d_PT_of_14 (by decide) (fun hc => ?_) (fun hc => ?_)
    · replace hv := hv.1 hc
      refine lv_aload_n hx hb d_PT_of_27 rfl (lv_at hl 0 rfl) ?_
      refine va_get (D := D) (ci := 6) (v := .ref (ad 22)) (C := R_PT) (T := F_PT) (N := 6) hx hb hts iw_PT hown hK hP 0 rfl rfl 5 (by decide) (hts _ t_w23) (fun _ h9 => h9) rfl d_PT_of_28 ?_
      refine va_get (D := D) (ci := 2) (v := .int (s11 22 0)) (C := R_Plan) (T := F_Plan) (N := 9) hx hb hts iw_Plan hown hK hP 22 rfl rfl 0 (by decide) (hts _ t_w24) (fun _ h9 => h9) rfl d_PT_of_31 ?_
      refine lv_if_ne (tgt := 47) hx hb d_PT_of_34 (by decide) (fun hc => ?_) (fun hc => ?_)
      · replace hv := hv.1 hc
        refine lv_iload_n hx hb d_PT_of_47 rfl (lv_at hl 2 rfl) ?_
        by_cases hc0 : a2 = 0
        · replace hv := hv.1 hc0
          refine lv_tableIn (off := 32) (tgt := 80) hx hb d_PT_of_48 (by rw [hc0]; decide) (by rw [hc0]; decide) (by rw [hc0]; rfl) (by decide) ?_
          refine lv_aload_n hx hb d_PT_of_80 rfl (lv_at hl 0 rfl) ?_
          refine va_get (D := D) (ci := 6) (v := .ref (ad 22)) (C := R_PT) (T := F_PT) (N := 6) hx hb hts iw_PT hown hK hP 0 rfl rfl 5 (by decide) (hts _ t_w23) (fun _ h9 => h9) rfl d_PT_of_81 ?_
          refine va_get (D := D) (ci := 2) (v := .ref (ad 23)) (C := R_Plan) (T := F_Plan) (N := 9) hx hb hts iw_Plan hown hK hP 22 rfl rfl 4 (by decide) (hts _ t_w203) (fun _ h9 => h9) rfl d_PT_of_84 ?_
          refine lv_iload_n hx hb d_PT_of_87 rfl (lv_at hl 1 rfl) ?_
          obtain ⟨hi, hv⟩ := hv
          refine va_iald hx hb hK hP 23 0 rfl rfl hi d_PT_of_88 ?_
          exact gx_iret hx hb hr hlocks hK hP hD hS hv d_PT_of_89
        replace hv := hv.2 hc0
        by_cases hc1 : a2 = 1
        · replace hv := hv.1 hc1
          refine lv_tableIn (off := 42) (tgt := 90) hx hb d_PT_of_48 (by rw [hc1]; decide) (by rw [hc1]; decide) (by rw [hc1]; rfl) (by decide) ?_
          refine lv_aload_n hx hb d_PT_of_90 rfl (lv_at hl 0 rfl) ?_
          refine va_get (D := D) (ci := 6) (v := .ref (ad 22)) (C := R_PT) (T := F_PT) (N := 6) hx hb hts iw_PT hown hK hP 0 rfl rfl 5 (by decide) (hts _ t_w23) (fun _ h9 => h9) rfl d_PT_of_91 ?_
          refine va_get (D := D) (ci := 2) (v := .ref (ad 24)) (C := R_Plan) (T := F_Plan) (N := 9) hx hb hts iw_Plan hown hK hP 22 rfl rfl 5 (by decide) (hts _ t_w212) (fun _ h9 => h9) rfl d_PT_of_94 ?_
          refine lv_iload_n hx hb d_PT_of_97 rfl (lv_at hl 1 rfl) ?_
          obtain ⟨hi, hv⟩ := hv
          refine va_iald hx hb hK hP 24 0 rfl rfl hi d_PT_of_98 ?_
          exact gx_iret hx hb hr hlocks hK hP hD hS hv d_PT_of_99
        replace hv := hv.2 hc1
        by_cases hc2 : a2 = 2
        · replace hv := hv.1 hc2
          refine lv_tableIn (off := 52) (tgt := 100) hx hb d_PT_of_48 (by rw [hc2]; decide) (by rw [hc2]; decide) (by rw [hc2]; rfl) (by decide) ?_
          refine lv_aload_n hx hb d_PT_of_100 rfl (lv_at hl 0 rfl) ?_
          refine va_get (D := D) (ci := 6) (v := .ref (ad 22)) (C := R_PT) (T := F_PT) (N := 6) hx hb hts iw_PT hown hK hP 0 rfl rfl 5 (by decide) (hts _ t_w23) (fun _ h9 => h9) rfl d_PT_of_101 ?_
          refine va_get (D := D) (ci := 2) (v := .ref (ad 25)) (C := R_Plan) (T := F_Plan) (N := 9) hx hb hts iw_Plan hown hK hP 22 rfl rfl 6 (by decide) (hts _ t_w213) (fun _ h9 => h9) rfl d_PT_of_104 ?_
          refine lv_iload_n hx hb d_PT_of_107 rfl (lv_at hl 1 rfl) ?_
          obtain ⟨hi, hv⟩ := hv
          refine va_iald hx hb hK hP 25 0 rfl rfl hi d_PT_of_108 ?_
          exact gx_iret hx hb hr hlocks hK hP hD hS hv d_PT_of_109
        replace hv := hv.2 hc2
        by_cases hc3 : a2 = 3
        · replace hv := hv.1 hc3
          refine lv_tableIn (off := 62) (tgt := 110) hx hb d_PT_of_48 (by rw [hc3]; decide) (by rw [hc3]; decide) (by rw [hc3]; rfl) (by decide) ?_
          refine lv_aload_n hx hb d_PT_of_110 rfl (lv_at hl 0 rfl) ?_
          refine va_get (D := D) (ci := 6) (v := .ref (ad 22)) (C := R_PT) (T := F_PT) (N := 6) hx hb hts iw_PT hown hK hP 0 rfl rfl 5 (by decide) (hts _ t_w23) (fun _ h9 => h9) rfl d_PT_of_111 ?_
          refine va_get (D := D) (ci := 2) (v := .ref (ad 26)) (C := R_Plan) (T := F_Plan) (N := 9) hx hb hts iw_Plan hown hK hP 22 rfl rfl 7 (by decide) (hts _ t_w214) (fun _ h9 => h9) rfl d_PT_of_114 ?_
          refine lv_iload_n hx hb d_PT_of_117 rfl (lv_at hl 1 rfl) ?_
          obtain ⟨hi, hv⟩ := hv
          refine va_iald hx hb hK hP 26 0 rfl rfl hi d_PT_of_118 ?_
          exact gx_iret hx hb hr hlocks hK hP hD hS hv d_PT_of_119
        replace hv := hv.2 hc3
        refine lv_tableOut (tgt := 120) hx hb d_PT_of_48 (by have h0 := gk_ne hc0 (z := 0) (by decide); have h1 := gk_ne hc1 (z := 1) (by decide); have h2 := gk_ne hc2 (z := 2) (by decide); have h3 := gk_ne hc3 (z := 3) (by decide); omega) (by decide) ?_
        refine lv_aload_n hx hb d_PT_of_120 rfl (lv_at hl 0 rfl) ?_
        refine lv_iload_n hx hb d_PT_of_121 rfl (lv_at hl 1 rfl) ?_
        obtain ⟨hg, hv⟩ := hv
        refine gk_callVi (As := [.int a1]) (rest := []) (b := ad 0) ⟨hx, hb, hml, hown, hts⟩ (h_PT_whyNobody _ s11 t11 a1 hg) (gk_cwV 1 hts t_w218 rfl rfl rfl (hts _ t_w215) (hts _ t_w216) (hts _ t_w217) (hts _ t_w5) (by decide +kernel) ⟨Nat.le_of_ble_eq_true rfl, Nat.le_of_ble_eq_true rfl⟩) hK hP hD hS (va_recv hK hP (ci := 6) (q0 := 0) rfl rfl) rfl hl.1 rfl (lv_room (Nat.le_of_ble_eq_true rfl)) d_PT_of_122 ⟨Nat.zero_le _, Nat.zero_le _⟩ ?_
        intro r122 s122 t122 H locs hw hP hD hS
        replace hv := hv r122 s122 t122 hw
        exact gx_iret hx hb hr hlocks hK hP hD hS hv d_PT_of_125
      · replace hv := hv.2 hc
        exact gx_throw (X := xIS) (own := "PilotTugs") hlt hx hb hlocks hown hex (hl.1.trans hml.symm) hXT hst tx_IS tx_ISl tx_ISi tx_s139 (by decide) hK hP hD hS (by decide) d_PT_of_37 d_PT_of_40 d_PT_of_41 d_PT_of_43 d_PT_of_46 hv
    · replace hv := hv.2 hc
      exact gx_throw (X := xIO) (own := "PilotTugs") hlt hx hb hlocks hown hex (hl.1.trans hml.symm) hXT hst tx_IO tx_IOl tx_IOi tx_s136 (by decide) hK hP hD hS (by decide) d_PT_of_17 d_PT_of_20 d_PT_of_21 d_PT_of_23 d_PT_of_26 hv
def rm_PT_late : Room := { frames := 6, cells := 1, slots := 6, locals := 130 }
theorem d_PT_late_0 : decode b_PT_late 0 = .ok (.aload_n 0, 1) := by decide +kernel
theorem d_PT_late_1 : decode b_PT_late 1 = .ok (.iload_n 1, 1) := by decide +kernel
theorem d_PT_late_2 : decode b_PT_late 2 = .ok (.invokevirtual 131, 3) := by decide +kernel
theorem d_PT_late_5 : decode b_PT_late 5 = .ok (.ifCond .ne 13, 3) := by decide +kernel
theorem d_PT_late_8 : decode b_PT_late 8 = .ok (.new 134, 3) := by decide +kernel
theorem d_PT_late_11 : decode b_PT_late 11 = .ok (.dup, 1) := by decide +kernel
theorem d_PT_late_12 : decode b_PT_late 12 = .ok (.ldc 156, 2) := by decide +kernel
theorem d_PT_late_14 : decode b_PT_late 14 = .ok (.invokespecial 138, 3) := by decide +kernel
theorem d_PT_late_17 : decode b_PT_late 17 = .ok (.athrow, 1) := by decide +kernel
theorem d_PT_late_18 : decode b_PT_late 18 = .ok (.iload_n 2, 1) := by decide +kernel
theorem d_PT_late_19 : decode b_PT_late 19 = .ok (.iconst 0, 1) := by decide +kernel
theorem d_PT_late_20 : decode b_PT_late 20 = .ok (.sipush 2880, 3) := by decide +kernel
theorem d_PT_late_23 : decode b_PT_late 23 = .ok (.invokestatic 86, 3) := by decide +kernel
theorem d_PT_late_26 : decode b_PT_late 26 = .ok (.ifCond .eq 20, 3) := by decide +kernel
theorem d_PT_late_29 : decode b_PT_late 29 = .ok (.iload_n 2, 1) := by decide +kernel
theorem d_PT_late_30 : decode b_PT_late 30 = .ok (.iload_n 2, 1) := by decide +kernel
theorem d_PT_late_31 : decode b_PT_late 31 = .ok (.aload_n 0, 1) := by decide +kernel
theorem d_PT_late_32 : decode b_PT_late 32 = .ok (.getfield 19, 3) := by decide +kernel
theorem d_PT_late_35 : decode b_PT_late 35 = .ok (.iload_n 1, 1) := by decide +kernel
theorem d_PT_late_36 : decode b_PT_late 36 = .ok (.invokevirtual 158, 3) := by decide +kernel
theorem d_PT_late_39 : decode b_PT_late 39 = .ok (.iadd, 1) := by decide +kernel
theorem d_PT_late_40 : decode b_PT_late 40 = .ok (.invokestatic 55, 3) := by decide +kernel
theorem d_PT_late_43 : decode b_PT_late 43 = .ok (.ifCond .ne 13, 3) := by decide +kernel
theorem d_PT_late_46 : decode b_PT_late 46 = .ok (.new 62, 3) := by decide +kernel
theorem d_PT_late_49 : decode b_PT_late 49 = .ok (.dup, 1) := by decide +kernel
theorem d_PT_late_50 : decode b_PT_late 50 = .ok (.ldc 100, 2) := by decide +kernel
theorem d_PT_late_52 : decode b_PT_late 52 = .ok (.invokespecial 66, 3) := by decide +kernel
theorem d_PT_late_55 : decode b_PT_late 55 = .ok (.athrow, 1) := by decide +kernel
theorem d_PT_late_56 : decode b_PT_late 56 = .ok (.aload_n 0, 1) := by decide +kernel
theorem d_PT_late_57 : decode b_PT_late 57 = .ok (.getfield 47, 3) := by decide +kernel
theorem d_PT_late_60 : decode b_PT_late 60 = .ok (.getfield 78, 3) := by decide +kernel
theorem d_PT_late_63 : decode b_PT_late 63 = .ok (.ifCond .ne 13, 3) := by decide +kernel
theorem d_PT_late_66 : decode b_PT_late 66 = .ok (.new 73, 3) := by decide +kernel
theorem d_PT_late_69 : decode b_PT_late 69 = .ok (.dup, 1) := by decide +kernel
theorem d_PT_late_70 : decode b_PT_late 70 = .ok (.ldc 139, 2) := by decide +kernel
theorem d_PT_late_72 : decode b_PT_late 72 = .ok (.invokespecial 77, 3) := by decide +kernel
theorem d_PT_late_75 : decode b_PT_late 75 = .ok (.athrow, 1) := by decide +kernel
theorem d_PT_late_76 : decode b_PT_late 76 = .ok (.aload_n 0, 1) := by decide +kernel
theorem d_PT_late_77 : decode b_PT_late 77 = .ok (.getfield 47, 3) := by decide +kernel
theorem d_PT_late_80 : decode b_PT_late 80 = .ok (.invokevirtual 161, 3) := by decide +kernel
theorem d_PT_late_83 : decode b_PT_late 83 = .ok (.aload_n 0, 1) := by decide +kernel
theorem d_PT_late_84 : decode b_PT_late 84 = .ok (.getfield 19, 3) := by decide +kernel
theorem d_PT_late_87 : decode b_PT_late 87 = .ok (.iload_n 1, 1) := by decide +kernel
theorem d_PT_late_88 : decode b_PT_late 88 = .ok (.iload_n 2, 1) := by decide +kernel
theorem d_PT_late_89 : decode b_PT_late 89 = .ok (.invokevirtual 164, 3) := by decide +kernel
theorem d_PT_late_92 : decode b_PT_late 92 = .ok (.aload_n 0, 1) := by decide +kernel
theorem d_PT_late_93 : decode b_PT_late 93 = .ok (.invokevirtual 122, 3) := by decide +kernel
theorem d_PT_late_96 : decode b_PT_late 96 = .ok (.aload_n 0, 1) := by decide +kernel
theorem d_PT_late_97 : decode b_PT_late 97 = .ok (.getfield 47, 3) := by decide +kernel
theorem d_PT_late_100 : decode b_PT_late 100 = .ok (.aload_n 0, 1) := by decide +kernel
theorem d_PT_late_101 : decode b_PT_late 101 = .ok (.getfield 19, 3) := by decide +kernel
theorem d_PT_late_104 : decode b_PT_late 104 = .ok (.getfield 102, 3) := by decide +kernel
theorem d_PT_late_107 : decode b_PT_late 107 = .ok (.invokevirtual 168, 3) := by decide +kernel
theorem d_PT_late_110 : decode b_PT_late 110 = .ok (.ireturn, 1) := by decide +kernel
def s_PT_late_0 (P_PT_isJob : MI → ML → Int32 → Prop) (Q_PT_isJob : MI → ML → Int32 → Int32 → MI → ML → Prop) (P_PT_isWithin : MI → ML → Int32 → Int32 → Int32 → Prop) (Q_PT_isWithin : MI → ML → Int32 → Int32 → Int32 → Int32 → MI → ML → Prop) (P_Jobs_minutesOf : MI → ML → Int32 → Prop) (Q_Jobs_minutesOf : MI → ML → Int32 → Int32 → MI → ML → Prop) (P_PT_isSpan : MI → ML → Int32 → Int32 → Prop) (Q_PT_isSpan : MI → ML → Int32 → Int32 → Int32 → MI → ML → Prop) (P_Plan_keepDoers : MI → ML → Prop) (Q_Plan_keepDoers : MI → ML → MI → ML → Prop) (P_Jobs_move : MI → ML → Int32 → Int32 → Prop) (Q_Jobs_move : MI → ML → Int32 → Int32 → MI → ML → Prop) (P_PT_makePlan : MI → ML → Prop) (Q_PT_makePlan : MI → ML → MI → ML → Prop) (P_Plan_otherDoers : MI → ML → Int32 → Prop) (Q_Plan_otherDoers : MI → ML → Int32 → Int32 → MI → ML → Prop) (σ : MI) (τ : ML) (a1 : Int32) (a2 : Int32) (R : Int32 → MI → ML → Prop) (Z : String → MI → ML → Prop) : Prop :=
  P_PT_isJob σ τ a1 ∧ ∀ (r2 : Int32) (s2 : MI) (t2 : ML), Q_PT_isJob σ τ a1 r2 s2 t2 → ((¬ r2 = 0 →
  (P_PT_isWithin s2 t2 a2 0 2880 ∧ ∀ (r23 : Int32) (s23 : MI) (t23 : ML), Q_PT_isWithin s2 t2 a2 0 2880 r23 s23 t23 → ((r23 = 0 →
    (Z "java/lang/IllegalArgumentException" s23 t23)) ∧
    (¬ r23 = 0 →
    (P_Jobs_minutesOf s23 t23 a1 ∧ ∀ (r36 : Int32) (s36 : MI) (t36 : ML), Q_Jobs_minutesOf s23 t23 a1 r36 s36 t36 → (P_PT_isSpan s36 t36 a2 (a2 + r36) ∧ ∀ (r40 : Int32) (s40 : MI) (t40 : ML), Q_PT_isSpan s36 t36 a2 (a2 + r36) r40 s40 t40 → ((¬ r40 = 0 →
      ((¬ (s40 22 0) = 0 →
        (P_Plan_keepDoers s40 t40  ∧ ∀ (s80 : MI) (t80 : ML), Q_Plan_keepDoers s40 t40  s80 t80 → (P_Jobs_move s80 t80 a1 a2 ∧ ∀ (s89 : MI) (t89 : ML), Q_Jobs_move s80 t80 a1 a2 s89 t89 → (P_PT_makePlan s89 t89  ∧ ∀ (s93 : MI) (t93 : ML), Q_PT_makePlan s89 t89  s93 t93 → (P_Plan_otherDoers s93 t93 (s93 8 0) ∧ ∀ (r107 : Int32) (s107 : MI) (t107 : ML), Q_Plan_otherDoers s93 t93 (s93 8 0) r107 s107 t107 → (R r107 s107 t107)))))) ∧
        ((s40 22 0) = 0 →
        (Z "java/lang/IllegalStateException" s40 t40)))) ∧
      (r40 = 0 →
      (Z "java/lang/IllegalArgumentException" s40 t40))))))))) ∧
  (r2 = 0 →
  (Z "java/lang/IndexOutOfBoundsException" s2 t2)))
set_option maxHeartbeats 4000000 in
set_option maxRecDepth 100000 in
theorem k_PT_late (l : Launch) (hlt : l.flags = flags0) (D : va_G) (ad : Nat → Nat) (ci cl : ClassId)
    (pre : MI → ML → Int32 → Int32 → Prop) (post : MI → ML → Int32 → Int32 → Int32 → MI → ML → Prop) (postZ : MI → ML → Int32 → Int32 → String → MI → ML → Prop) (P_PT_isJob : MI → ML → Int32 → Prop) (Q_PT_isJob : MI → ML → Int32 → Int32 → MI → ML → Prop) (P_PT_isWithin : MI → ML → Int32 → Int32 → Int32 → Prop) (Q_PT_isWithin : MI → ML → Int32 → Int32 → Int32 → Int32 → MI → ML → Prop) (P_Jobs_minutesOf : MI → ML → Int32 → Prop) (Q_Jobs_minutesOf : MI → ML → Int32 → Int32 → MI → ML → Prop) (P_PT_isSpan : MI → ML → Int32 → Int32 → Prop) (Q_PT_isSpan : MI → ML → Int32 → Int32 → Int32 → MI → ML → Prop) (P_Plan_keepDoers : MI → ML → Prop) (Q_Plan_keepDoers : MI → ML → MI → ML → Prop) (P_Jobs_move : MI → ML → Int32 → Int32 → Prop) (Q_Jobs_move : MI → ML → Int32 → Int32 → MI → ML → Prop) (P_PT_makePlan : MI → ML → Prop) (Q_PT_makePlan : MI → ML → MI → ML → Prop) (P_Plan_otherDoers : MI → ML → Int32 → Prop) (Q_Plan_otherDoers : MI → ML → Int32 → Int32 → MI → ML → Prop)
    (h_PT_isJob : ∀ (sz : Nat) (σ : MI) (τ : ML) (b0 : Int32), P_PT_isJob σ τ b0 → gMi l D (xw ad ci cl) (xt ci cl) (xa ad) y_PT_isJob w_PT_isJob rm_PT_isJob [.ref (ad 0), .int b0] sz σ τ (Q_PT_isJob σ τ b0))
    (h_PT_isWithin : ∀ (sz : Nat) (σ : MI) (τ : ML) (b0 : Int32) (b1 : Int32) (b2 : Int32), P_PT_isWithin σ τ b0 b1 b2 → gMi l D (xw ad ci cl) (xt ci cl) (xa ad) y_PT_isWithin w_PT_isWithin rm_PT_isWithin [.int b0, .int b1, .int b2] sz σ τ (Q_PT_isWithin σ τ b0 b1 b2))
    (h_Jobs_minutesOf : ∀ (sz : Nat) (σ : MI) (τ : ML) (b0 : Int32), P_Jobs_minutesOf σ τ b0 → gMi l D (xw ad ci cl) (xt ci cl) (xa ad) y_Jobs_minutesOf w_Jobs_minutesOf rm_Jobs_minutesOf [.ref (ad 8), .int b0] sz σ τ (Q_Jobs_minutesOf σ τ b0))
    (h_PT_isSpan : ∀ (sz : Nat) (σ : MI) (τ : ML) (b0 : Int32) (b1 : Int32), P_PT_isSpan σ τ b0 b1 → gMi l D (xw ad ci cl) (xt ci cl) (xa ad) y_PT_isSpan w_PT_isSpan rm_PT_isSpan [.int b0, .int b1] sz σ τ (Q_PT_isSpan σ τ b0 b1))
    (h_Plan_keepDoers : ∀ (sz : Nat) (σ : MI) (τ : ML), P_Plan_keepDoers σ τ → gMv l D (xw ad ci cl) (xt ci cl) (xa ad) y_Plan_keepDoers w_Plan_keepDoers rm_Plan_keepDoers [.ref (ad 22)] sz σ τ (Q_Plan_keepDoers σ τ))
    (h_Jobs_move : ∀ (sz : Nat) (σ : MI) (τ : ML) (b0 : Int32) (b1 : Int32), P_Jobs_move σ τ b0 b1 → gMv l D (xw ad ci cl) (xt ci cl) (xa ad) y_Jobs_move w_Jobs_move rm_Jobs_move [.ref (ad 8), .int b0, .int b1] sz σ τ (Q_Jobs_move σ τ b0 b1))
    (h_PT_makePlan : ∀ (sz : Nat) (σ : MI) (τ : ML), P_PT_makePlan σ τ → gMv l D (xw ad ci cl) (xt ci cl) (xa ad) y_PT_makePlan w_PT_makePlan rm_PT_makePlan [.ref (ad 0)] sz σ τ (Q_PT_makePlan σ τ))
    (h_Plan_otherDoers : ∀ (sz : Nat) (σ : MI) (τ : ML) (b0 : Int32), P_Plan_otherDoers σ τ b0 → gMi l D (xw ad ci cl) (xt ci cl) (xa ad) y_Plan_otherDoers w_Plan_otherDoers rm_Plan_otherDoers [.ref (ad 22), .int b0] sz σ τ (Q_Plan_otherDoers σ τ b0))
    (v0 : ∀ (σ0 : MI) (τ0 : ML) (a1 : Int32) (a2 : Int32), pre σ0 τ0 a1 a2 → s_PT_late_0 P_PT_isJob Q_PT_isJob P_PT_isWithin Q_PT_isWithin P_Jobs_minutesOf Q_Jobs_minutesOf P_PT_isSpan Q_PT_isSpan P_Plan_keepDoers Q_Plan_keepDoers P_Jobs_move Q_Jobs_move P_PT_makePlan Q_PT_makePlan P_Plan_otherDoers Q_Plan_otherDoers σ0 τ0 a1 a2 (post σ0 τ0 a1 a2) (postZ σ0 τ0 a1 a2)) :
    ∀ (sz : Nat) (σ0 : MI) (τ0 : ML) (a1 : Int32) (a2 : Int32), pre σ0 τ0 a1 a2 → gMx l D (xw ad ci cl) (xt ci cl) (xa ad) y_PT_late w_PT_late rm_PT_late [.ref (ad 0), .int a1, .int a2] sz σ0 τ0 (post σ0 τ0 a1 a2) (postZ σ0 τ0 a1 a2) := by
  intro sz σ0 τ0 a1 a2 hpre
  refine gx_ofW (cc := b_PT_late) (maxL := 3) (ret := (some .int)) (by decide) rfl xa_ok (Nat.le_of_ble_eq_true rfl) ?_
  intro p e s m below meth c ls hx hb hr hlocks hml hown hts hK hP hD hS hl hex hXT hst
  have hl : lv_has ls 3 [(0, .ref (ad 0)), (1, .int a1), (2, .int a2)] := hl
  have hown : s.vm.findClass R_PT = some m.cls := hown
  have hv := v0 σ0 τ0 a1 a2 hpre
  unfold s_PT_late_0 at hv
  refine lv_aload_n hx hb d_PT_late_0 rfl (lv_at hl 0 rfl) ?_
  refine lv_iload_n hx hb d_PT_late_1 rfl (lv_at hl 1 rfl) ?_
  obtain ⟨hg, hv⟩ := hv
  refine gk_callVi (As := [.int a1]) (rest := []) (b := ad 0) ⟨hx, hb, hml, hown, hts⟩ (h_PT_isJob _ σ0 τ0 a1 hg) (gk_cwV 1 hts t_w211 rfl rfl rfl (hts _ t_w208) (hts _ t_w209) (hts _ t_w210) (hts _ t_w5) (by decide +kernel) ⟨Nat.le_of_ble_eq_true rfl, Nat.le_of_ble_eq_true rfl⟩) hK hP hD hS (va_recv hK hP (ci := 6) (q0 := 0) rfl rfl) rfl hl.1 rfl (lv_room (Nat.le_of_ble_eq_true rfl)) d_PT_late_2 ⟨Nat.zero_le _, Nat.zero_le _⟩ ?_
  intro r2 s2 t2 H locs hw hP hD hS
  replace hv := hv r2 s2 t2 hw
  refine lv_if_ne (tgt := 18) hx hb d_PT_late_5 (by decide) (fun hc => ?_) (fun hc => ?_)
  · replace hv := hv.1 hc
    refine lv_iload_n hx hb d_PT_late_18 rfl (lv_at hl 2 rfl) ?_
    refine lv_iconst (v := 0) hx hb d_PT_late_19 (by decide) ?_
    refine lv_sipush (v := 2880) hx hb d_PT_late_20 (by decide) ?_
    obtain ⟨hg, hv⟩ := hv
    refine gk_callSi (As := [.int a2, .int 0, .int 2880]) (rest := []) ⟨hx, hb, hml, hown, hts⟩ (h_PT_isWithin _ s2 t2 a2 0 2880 hg) (gk_cwS 3 hts t_w6 rfl rfl rfl (hts _ t_w3) (hts _ t_w4) (hts _ t_w5) (by decide +kernel) ⟨Nat.le_of_ble_eq_true rfl, Nat.le_of_ble_eq_true rfl⟩) hK hP hD hS rfl hl.1 rfl (lv_room (Nat.le_of_ble_eq_true rfl)) d_PT_late_23 ⟨Nat.zero_le _, Nat.zero_le _⟩ ?_
    intro r23 s23 t23 H locs hw hP hD hS
    replace hv := hv r23 s23 t23 hw
    refine lv_if_eq (tgt := 46) hx hb d_PT_late_26 (by decide) (fun hc => ?_) (fun hc => ?_)
    · replace hv := hv.1 hc
      exact gx_throw (X := xIA) (own := "PilotTugs") hlt hx hb hlocks hown hex (hl.1.trans hml.symm) hXT hst tx_IA tx_IAl tx_IAi tx_s100 (by decide) hK hP hD hS (by decide) d_PT_late_46 d_PT_late_49 d_PT_late_50 d_PT_late_52 d_PT_late_55 hv
    · replace hv := hv.2 hc
      refine lv_iload_n hx hb d_PT_late_29 rfl (lv_at hl 2 rfl) ?_
      refine lv_iload_n hx hb d_PT_late_30 rfl (lv_at hl 2 rfl) ?_
      refine lv_aload_n hx hb d_PT_late_31 rfl (lv_at hl 0 rfl) ?_
      refine va_get (D := D) (ci := 6) (v := .ref (ad 8)) (C := R_PT) (T := F_PT) (N := 6) hx hb hts iw_PT hown hK hP 0 rfl rfl 1 (by decide) (hts _ t_w45) (fun _ h9 => h9) rfl d_PT_late_32 ?_
      refine lv_iload_n hx hb d_PT_late_35 rfl (lv_at hl 1 rfl) ?_
      obtain ⟨hg, hv⟩ := hv
      refine gk_callVi (As := [.int a1]) (rest := [.int a2, .int a2]) (b := ad 8) ⟨hx, hb, hml, hown, hts⟩ (h_Jobs_minutesOf _ s23 t23 a1 hg) (gk_cwV 1 hts t_w227 rfl rfl rfl (hts _ t_w228) (hts _ t_w225) (hts _ t_w226) (hts _ t_w50) (by decide +kernel) ⟨Nat.le_of_ble_eq_true rfl, Nat.le_of_ble_eq_true rfl⟩) hK hP hD hS (va_recv hK hP (ci := 0) (q0 := 8) rfl rfl) rfl hl.1 rfl (lv_room (Nat.le_of_ble_eq_true rfl)) d_PT_late_36 ⟨Nat.zero_le _, Nat.zero_le _⟩ ?_
      intro r36 s36 t36 H locs hw hP hD hS
      replace hv := hv r36 s36 t36 hw
      refine lv_iadd hx hb d_PT_late_39 ?_
      obtain ⟨hg, hv⟩ := hv
      refine gk_callSi (As := [.int a2, .int (a2 + r36)]) (rest := []) ⟨hx, hb, hml, hown, hts⟩ (h_PT_isSpan _ s36 t36 a2 (a2 + r36) hg) (gk_cwS 2 hts t_w17 rfl rfl rfl (hts _ t_w15) (hts _ t_w16) (hts _ t_w5) (by decide +kernel) ⟨Nat.le_of_ble_eq_true rfl, Nat.le_of_ble_eq_true rfl⟩) hK hP hD hS rfl hl.1 rfl (lv_room (Nat.le_of_ble_eq_true rfl)) d_PT_late_40 ⟨Nat.zero_le _, Nat.zero_le _⟩ ?_
      intro r40 s40 t40 H locs hw hP hD hS
      replace hv := hv r40 s40 t40 hw
      refine lv_if_ne (tgt := 56) hx hb d_PT_late_43 (by decide) (fun hc => ?_) (fun hc => ?_)
      · replace hv := hv.1 hc
        refine lv_aload_n hx hb d_PT_late_56 rfl (lv_at hl 0 rfl) ?_
        refine va_get (D := D) (ci := 6) (v := .ref (ad 22)) (C := R_PT) (T := F_PT) (N := 6) hx hb hts iw_PT hown hK hP 0 rfl rfl 5 (by decide) (hts _ t_w23) (fun _ h9 => h9) rfl d_PT_late_57 ?_
        refine va_get (D := D) (ci := 2) (v := .int (s40 22 0)) (C := R_Plan) (T := F_Plan) (N := 9) hx hb hts iw_Plan hown hK hP 22 rfl rfl 0 (by decide) (hts _ t_w24) (fun _ h9 => h9) rfl d_PT_late_60 ?_
        refine lv_if_ne (tgt := 76) hx hb d_PT_late_63 (by decide) (fun hc => ?_) (fun hc => ?_)
        · replace hv := hv.1 hc
          refine lv_aload_n hx hb d_PT_late_76 rfl (lv_at hl 0 rfl) ?_
          refine va_get (D := D) (ci := 6) (v := .ref (ad 22)) (C := R_PT) (T := F_PT) (N := 6) hx hb hts iw_PT hown hK hP 0 rfl rfl 5 (by decide) (hts _ t_w23) (fun _ h9 => h9) rfl d_PT_late_77 ?_
          obtain ⟨hg, hv⟩ := hv
          refine gk_callVv (As := []) (rest := []) (b := ad 22) ⟨hx, hb, hml, hown, hts⟩ (h_Plan_keepDoers _ s40 t40  hg) (gk_cwV 0 hts t_w232 rfl rfl rfl (hts _ t_w229) (hts _ t_w230) (hts _ t_w231) (hts _ t_w123) (by decide +kernel) ⟨Nat.le_of_ble_eq_true rfl, Nat.le_of_ble_eq_true rfl⟩) hK hP hD hS (va_recv hK hP (ci := 2) (q0 := 22) rfl rfl) rfl hl.1 rfl (lv_room (Nat.le_of_ble_eq_true rfl)) d_PT_late_80 ⟨Nat.zero_le _, Nat.zero_le _⟩ ?_
          intro s80 t80 H locs hw hP hD hS
          replace hv := hv s80 t80 hw
          refine lv_aload_n hx hb d_PT_late_83 rfl (lv_at hl 0 rfl) ?_
          refine va_get (D := D) (ci := 6) (v := .ref (ad 8)) (C := R_PT) (T := F_PT) (N := 6) hx hb hts iw_PT hown hK hP 0 rfl rfl 1 (by decide) (hts _ t_w45) (fun _ h9 => h9) rfl d_PT_late_84 ?_
          refine lv_iload_n hx hb d_PT_late_87 rfl (lv_at hl 1 rfl) ?_
          refine lv_iload_n hx hb d_PT_late_88 rfl (lv_at hl 2 rfl) ?_
          obtain ⟨hg, hv⟩ := hv
          refine gk_callVv (As := [.int a1, .int a2]) (rest := []) (b := ad 8) ⟨hx, hb, hml, hown, hts⟩ (h_Jobs_move _ s80 t80 a1 a2 hg) (gk_cwV 2 hts t_w236 rfl rfl rfl (hts _ t_w233) (hts _ t_w234) (hts _ t_w235) (hts _ t_w50) (by decide +kernel) ⟨Nat.le_of_ble_eq_true rfl, Nat.le_of_ble_eq_true rfl⟩) hK hP hD hS (va_recv hK hP (ci := 0) (q0 := 8) rfl rfl) rfl hl.1 rfl (lv_room (Nat.le_of_ble_eq_true rfl)) d_PT_late_89 ⟨Nat.zero_le _, Nat.zero_le _⟩ ?_
          intro s89 t89 H locs hw hP hD hS
          replace hv := hv s89 t89 hw
          refine lv_aload_n hx hb d_PT_late_92 rfl (lv_at hl 0 rfl) ?_
          obtain ⟨hg, hv⟩ := hv
          refine gk_callVv (As := []) (rest := []) (b := ad 0) ⟨hx, hb, hml, hown, hts⟩ (h_PT_makePlan _ s89 t89  hg) (gk_cwV 0 hts t_w200 rfl rfl rfl (hts _ t_w197) (hts _ t_w198) (hts _ t_w199) (hts _ t_w5) (by decide +kernel) ⟨Nat.le_of_ble_eq_true rfl, Nat.le_of_ble_eq_true rfl⟩) hK hP hD hS (va_recv hK hP (ci := 6) (q0 := 0) rfl rfl) rfl hl.1 rfl (lv_room (Nat.le_of_ble_eq_true rfl)) d_PT_late_93 ⟨Nat.zero_le _, Nat.zero_le _⟩ ?_
          intro s93 t93 H locs hw hP hD hS
          replace hv := hv s93 t93 hw
          refine lv_aload_n hx hb d_PT_late_96 rfl (lv_at hl 0 rfl) ?_
          refine va_get (D := D) (ci := 6) (v := .ref (ad 22)) (C := R_PT) (T := F_PT) (N := 6) hx hb hts iw_PT hown hK hP 0 rfl rfl 5 (by decide) (hts _ t_w23) (fun _ h9 => h9) rfl d_PT_late_97 ?_
          refine lv_aload_n hx hb d_PT_late_100 rfl (lv_at hl 0 rfl) ?_
          refine va_get (D := D) (ci := 6) (v := .ref (ad 8)) (C := R_PT) (T := F_PT) (N := 6) hx hb hts iw_PT hown hK hP 0 rfl rfl 1 (by decide) (hts _ t_w45) (fun _ h9 => h9) rfl d_PT_late_101 ?_
          refine va_get (D := D) (ci := 0) (v := .int (s93 8 0)) (C := R_Jobs) (T := F_Jobs) (N := 7) hx hb hts iw_Jobs hown hK hP 8 rfl rfl 0 (by decide) (hts _ t_w46) (fun _ h9 => h9) rfl d_PT_late_104 ?_
          obtain ⟨hg, hv⟩ := hv
          refine gk_callVi (As := [.int (s93 8 0)]) (rest := []) (b := ad 22) ⟨hx, hb, hml, hown, hts⟩ (h_Plan_otherDoers _ s93 t93 (s93 8 0) hg) (gk_cwV 1 hts t_w240 rfl rfl rfl (hts _ t_w237) (hts _ t_w238) (hts _ t_w239) (hts _ t_w123) (by decide +kernel) ⟨Nat.le_of_ble_eq_true rfl, Nat.le_of_ble_eq_true rfl⟩) hK hP hD hS (va_recv hK hP (ci := 2) (q0 := 22) rfl rfl) rfl hl.1 rfl (lv_room (Nat.le_of_ble_eq_true rfl)) d_PT_late_107 ⟨Nat.zero_le _, Nat.zero_le _⟩ ?_
          intro r107 s107 t107 H locs hw hP hD hS
          replace hv := hv r107 s107 t107 hw
          exact gx_iret hx hb hr hlocks hK hP hD hS hv d_PT_late_110
        · replace hv := hv.2 hc
          exact gx_throw (X := xIS) (own := "PilotTugs") hlt hx hb hlocks hown hex (hl.1.trans hml.symm) hXT hst tx_IS tx_ISl tx_ISi tx_s139 (by decide) hK hP hD hS (by decide) d_PT_late_66 d_PT_late_69 d_PT_late_70 d_PT_late_72 d_PT_late_75 hv
      · replace hv := hv.2 hc
        exact gx_throw (X := xIA) (own := "PilotTugs") hlt hx hb hlocks hown hex (hl.1.trans hml.symm) hXT hst tx_IA tx_IAl tx_IAi tx_s100 (by decide) hK hP hD hS (by decide) d_PT_late_46 d_PT_late_49 d_PT_late_50 d_PT_late_52 d_PT_late_55 hv
  · replace hv := hv.2 hc
    exact gx_throw (X := xIO) (own := "PilotTugs") hlt hx hb hlocks hown hex (hl.1.trans hml.symm) hXT hst tx_IO tx_IOl tx_IOi tx_s156 (by decide) hK hP hD hS (by decide) d_PT_late_8 d_PT_late_11 d_PT_late_12 d_PT_late_14 d_PT_late_17 hv
def rm_PT_day : Room := { frames := 6, cells := 1, slots := 6, locals := 82 }
theorem d_PT_day_0 : decode b_PT_day 0 = .ok (.aload_n 0, 1) := by decide +kernel
theorem d_PT_day_1 : decode b_PT_day 1 = .ok (.iload_n 1, 1) := by decide +kernel
theorem d_PT_day_2 : decode b_PT_day 2 = .ok (.invokevirtual 115, 3) := by decide +kernel
theorem d_PT_day_5 : decode b_PT_day 5 = .ok (.ifCond .ne 13, 3) := by decide +kernel
theorem d_PT_day_8 : decode b_PT_day 8 = .ok (.new 134, 3) := by decide +kernel
theorem d_PT_day_11 : decode b_PT_day 11 = .ok (.dup, 1) := by decide +kernel
theorem d_PT_day_12 : decode b_PT_day 12 = .ok (.ldc 171, 2) := by decide +kernel
theorem d_PT_day_14 : decode b_PT_day 14 = .ok (.invokespecial 138, 3) := by decide +kernel
theorem d_PT_day_17 : decode b_PT_day 17 = .ok (.athrow, 1) := by decide +kernel
theorem d_PT_day_18 : decode b_PT_day 18 = .ok (.aload_n 0, 1) := by decide +kernel
theorem d_PT_day_19 : decode b_PT_day 19 = .ok (.getfield 47, 3) := by decide +kernel
theorem d_PT_day_22 : decode b_PT_day 22 = .ok (.getfield 78, 3) := by decide +kernel
theorem d_PT_day_25 : decode b_PT_day 25 = .ok (.ifCond .ne 13, 3) := by decide +kernel
theorem d_PT_day_28 : decode b_PT_day 28 = .ok (.new 73, 3) := by decide +kernel
theorem d_PT_day_31 : decode b_PT_day 31 = .ok (.dup, 1) := by decide +kernel
theorem d_PT_day_32 : decode b_PT_day 32 = .ok (.ldc 139, 2) := by decide +kernel
theorem d_PT_day_34 : decode b_PT_day 34 = .ok (.invokespecial 77, 3) := by decide +kernel
theorem d_PT_day_37 : decode b_PT_day 37 = .ok (.athrow, 1) := by decide +kernel
theorem d_PT_day_38 : decode b_PT_day 38 = .ok (.iconst 0, 1) := by decide +kernel
theorem d_PT_day_39 : decode b_PT_day 39 = .ok (.istore_n 3, 1) := by decide +kernel
theorem d_PT_day_40 : decode b_PT_day 40 = .ok (.iconst 0, 1) := by decide +kernel
theorem d_PT_day_41 : decode b_PT_day 41 = .ok (.istore 4, 2) := by decide +kernel
theorem d_PT_day_43 : decode b_PT_day 43 = .ok (.iload 4, 2) := by decide +kernel
theorem d_PT_day_45 : decode b_PT_day 45 = .ok (.aload_n 0, 1) := by decide +kernel
theorem d_PT_day_46 : decode b_PT_day 46 = .ok (.getfield 19, 3) := by decide +kernel
theorem d_PT_day_49 : decode b_PT_day 49 = .ok (.getfield 102, 3) := by decide +kernel
theorem d_PT_day_52 : decode b_PT_day 52 = .ok (.if_icmp .ge 46, 3) := by decide +kernel
theorem d_PT_day_55 : decode b_PT_day 55 = .ok (.aload_n 0, 1) := by decide +kernel
theorem d_PT_day_56 : decode b_PT_day 56 = .ok (.getfield 19, 3) := by decide +kernel
theorem d_PT_day_59 : decode b_PT_day 59 = .ok (.getfield 173, 3) := by decide +kernel
theorem d_PT_day_62 : decode b_PT_day 62 = .ok (.iload 4, 2) := by decide +kernel
theorem d_PT_day_64 : decode b_PT_day 64 = .ok (.iaload, 1) := by decide +kernel
theorem d_PT_day_65 : decode b_PT_day 65 = .ok (.istore 5, 2) := by decide +kernel
theorem d_PT_day_67 : decode b_PT_day 67 = .ok (.aload_n 0, 1) := by decide +kernel
theorem d_PT_day_68 : decode b_PT_day 68 = .ok (.getfield 47, 3) := by decide +kernel
theorem d_PT_day_71 : decode b_PT_day 71 = .ok (.getfield 141, 3) := by decide +kernel
theorem d_PT_day_74 : decode b_PT_day 74 = .ok (.iload 5, 2) := by decide +kernel
theorem d_PT_day_76 : decode b_PT_day 76 = .ok (.iaload, 1) := by decide +kernel
theorem d_PT_day_77 : decode b_PT_day 77 = .ok (.iload_n 1, 1) := by decide +kernel
theorem d_PT_day_78 : decode b_PT_day 78 = .ok (.if_icmp .ne 14, 3) := by decide +kernel
theorem d_PT_day_81 : decode b_PT_day 81 = .ok (.iload_n 3, 1) := by decide +kernel
theorem d_PT_day_82 : decode b_PT_day 82 = .ok (.iload_n 2, 1) := by decide +kernel
theorem d_PT_day_83 : decode b_PT_day 83 = .ok (.if_icmp .ne 6, 3) := by decide +kernel
theorem d_PT_day_86 : decode b_PT_day 86 = .ok (.iload 5, 2) := by decide +kernel
theorem d_PT_day_88 : decode b_PT_day 88 = .ok (.ireturn, 1) := by decide +kernel
theorem d_PT_day_89 : decode b_PT_day 89 = .ok (.iinc 3 1, 3) := by decide +kernel
theorem d_PT_day_92 : decode b_PT_day 92 = .ok (.iinc 4 1, 3) := by decide +kernel
theorem d_PT_day_95 : decode b_PT_day 95 = .ok (.goto (-52), 3) := by decide +kernel
theorem d_PT_day_98 : decode b_PT_day 98 = .ok (.iconst (-1), 1) := by decide +kernel
theorem d_PT_day_99 : decode b_PT_day 99 = .ok (.ireturn, 1) := by decide +kernel
def s_PT_day_0 (P_PT_isPerson : MI → ML → Int32 → Prop) (Q_PT_isPerson : MI → ML → Int32 → Int32 → MI → ML → Prop) (σ : MI) (τ : ML) (a1 : Int32) (a2 : Int32) (K43 : Int32 → Int32 → Int32 → Int32 → MI → ML → Prop) (R : Int32 → MI → ML → Prop) (Z : String → MI → ML → Prop) : Prop :=
  P_PT_isPerson σ τ a1 ∧ ∀ (r2 : Int32) (s2 : MI) (t2 : ML), Q_PT_isPerson σ τ a1 r2 s2 t2 → ((¬ r2 = 0 →
  ((¬ (s2 22 0) = 0 →
    (K43 a1 a2 0 0 s2 t2)) ∧
    ((s2 22 0) = 0 →
    (Z "java/lang/IllegalStateException" s2 t2)))) ∧
  (r2 = 0 →
  (Z "java/lang/IndexOutOfBoundsException" s2 t2)))
def s_PT_day_43 (P_PT_isPerson : MI → ML → Int32 → Prop) (Q_PT_isPerson : MI → ML → Int32 → Int32 → MI → ML → Prop) (σ : MI) (τ : ML) (x1 : Int32) (x2 : Int32) (x3 : Int32) (x4 : Int32) (K43 : Int32 → Int32 → Int32 → Int32 → MI → ML → Prop) (R : Int32 → MI → ML → Prop) (Z : String → MI → ML → Prop) : Prop :=
  ((σ 8 0) ≤ x4 →
  (R ((-1)) σ τ)) ∧
  (¬ (σ 8 0) ≤ x4 →
  (vp_in x4 7 ∧ (∀ y65 : Int32, y65 = σ 14 (Int32.toNatClampNeg x4) → (vp_in y65 7 ∧ ((¬ (σ 23 (Int32.toNatClampNeg y65)) = x1 →
    (∀ y92 : Int32, y92 = x4 + 1 → (K43 x1 x2 x3 y92 σ τ))) ∧
    ((σ 23 (Int32.toNatClampNeg y65)) = x1 →
    ((¬ x3 = x2 →
      (∀ y89 : Int32, y89 = x3 + 1 → (∀ y92 : Int32, y92 = x4 + 1 → (K43 x1 x2 y89 y92 σ τ)))) ∧
      (x3 = x2 →
      (R y65 σ τ)))))))))
set_option maxHeartbeats 4000000 in
set_option maxRecDepth 100000 in
theorem k_PT_day (l : Launch) (hlt : l.flags = flags0) (D : va_G) (ad : Nat → Nat) (ci cl : ClassId)
    (pre : MI → ML → Int32 → Int32 → Prop) (post : MI → ML → Int32 → Int32 → Int32 → MI → ML → Prop) (postZ : MI → ML → Int32 → Int32 → String → MI → ML → Prop) (P_PT_isPerson : MI → ML → Int32 → Prop) (Q_PT_isPerson : MI → ML → Int32 → Int32 → MI → ML → Prop)
    (h_PT_isPerson : ∀ (sz : Nat) (σ : MI) (τ : ML) (b0 : Int32), P_PT_isPerson σ τ b0 → gMi l D (xw ad ci cl) (xt ci cl) (xa ad) y_PT_isPerson w_PT_isPerson rm_PT_isPerson [.ref (ad 0), .int b0] sz σ τ (Q_PT_isPerson σ τ b0))
    (I43 : MI → ML → Int32 → Int32 → Int32 → Int32 → Int32 → Int32 → MI → ML → Prop) (m43 : MI → ML → Int32 → Int32 → Int32 → Int32 → Int32 → Int32 → MI → ML → Nat)
    (v0 : ∀ (σ0 : MI) (τ0 : ML) (a1 : Int32) (a2 : Int32), pre σ0 τ0 a1 a2 → s_PT_day_0 P_PT_isPerson Q_PT_isPerson σ0 τ0 a1 a2 (fun z0 z1 z2 z3 σ9 τ9 => I43 σ0 τ0 a1 a2 z0 z1 z2 z3 σ9 τ9) (post σ0 τ0 a1 a2) (postZ σ0 τ0 a1 a2))
    (v43 : ∀ (σ0 : MI) (τ0 : ML) (a1 : Int32) (a2 : Int32) (x1 : Int32) (x2 : Int32) (x3 : Int32) (x4 : Int32) (σ : MI) (τ : ML), I43 σ0 τ0 a1 a2 x1 x2 x3 x4 σ τ → s_PT_day_43 P_PT_isPerson Q_PT_isPerson σ τ x1 x2 x3 x4 (fun z0 z1 z2 z3 σ9 τ9 => I43 σ0 τ0 a1 a2 z0 z1 z2 z3 σ9 τ9 ∧ m43 σ0 τ0 a1 a2 z0 z1 z2 z3 σ9 τ9 < m43 σ0 τ0 a1 a2 x1 x2 x3 x4 σ τ) (post σ0 τ0 a1 a2) (postZ σ0 τ0 a1 a2)) :
    ∀ (sz : Nat) (σ0 : MI) (τ0 : ML) (a1 : Int32) (a2 : Int32), pre σ0 τ0 a1 a2 → gMx l D (xw ad ci cl) (xt ci cl) (xa ad) y_PT_day w_PT_day rm_PT_day [.ref (ad 0), .int a1, .int a2] sz σ0 τ0 (post σ0 τ0 a1 a2) (postZ σ0 τ0 a1 a2) := by
  intro sz σ0 τ0 a1 a2 hpre
  refine gx_ofW (cc := b_PT_day) (maxL := 6) (ret := (some .int)) (by decide) rfl xa_ok (Nat.le_of_ble_eq_true rfl) ?_
  intro p e s m below meth c ls hx hb hr hlocks hml hown hts hK hP hD hS hl hex hXT hst
  have hl : lv_has ls 6 [(0, .ref (ad 0)), (1, .int a1), (2, .int a2)] := hl
  have hown : s.vm.findClass R_PT = some m.cls := hown
  have hL : ∀ n : Nat, (∀ (x1 : Int32) (x2 : Int32) (x3 : Int32) (x4 : Int32) (σ : MI) (τ : ML) (H : Heap) (locs : List Loc) (ls : Array Slot), m43 σ0 τ0 a1 a2 x1 x2 x3 x4 σ τ < n → I43 σ0 τ0 a1 a2 x1 x2 x3 x4 σ τ → va_P D classes ((xw ad ci cl) σ τ) H → va_D (gA (xa ad) s.heap.size) ((xw ad ci cl) σ τ) → va_S (gA (xa ad) s.heap.size) s.heap H locs → lv_has ls 6 [(0, .ref (ad 0)), (1, .int x1), (2, .int x2), (3, .int x3), (4, .int x4)] → W p l e rm_PT_day s m [.ref (ad 0), .int a1, .int a2].toArray below meth c H locs 0 0 (gQx D (xw ad ci cl) (xt ci cl) (xa ad) below [.ref (ad 0), .int a1, .int a2] s (post σ0 τ0 a1 a2) (postZ σ0 τ0 a1 a2)) (F0 m 43 ls [])) := by
    intro n
    induction n with
    | zero => exact fun _ _ _ _ _ _ _ _ _ hn => absurd hn (Nat.not_lt_zero _)
    | succ n ih =>
      · intro x1 x2 x3 x4 σ τ H locs ls hn hI hP hD hS hl
        have hv := v43 σ0 τ0 a1 a2 x1 x2 x3 x4 σ τ hI
        unfold s_PT_day_43 at hv
        refine lv_iload hx hb d_PT_day_43 (lv_at hl 4 rfl) ?_
        refine lv_aload_n hx hb d_PT_day_45 rfl (lv_at hl 0 rfl) ?_
        refine va_get (D := D) (ci := 6) (v := .ref (ad 8)) (C := R_PT) (T := F_PT) (N := 6) hx hb hts iw_PT hown hK hP 0 rfl rfl 1 (by decide) (hts _ t_w45) (fun _ h9 => h9) rfl d_PT_day_46 ?_
        refine va_get (D := D) (ci := 0) (v := .int (σ 8 0)) (C := R_Jobs) (T := F_Jobs) (N := 7) hx hb hts iw_Jobs hown hK hP 8 rfl rfl 0 (by decide) (hts _ t_w46) (fun _ h9 => h9) rfl d_PT_day_49 ?_
        refine lv_icmp_ge (tgt := 98) hx hb d_PT_day_52 (by decide) (fun hc => ?_) (fun hc => ?_)
        · replace hv := hv.1 hc
          refine lv_iconst (v := (-1)) hx hb d_PT_day_98 (by decide) ?_
          exact gx_iret hx hb hr hlocks hK hP hD hS hv d_PT_day_99
        · replace hv := hv.2 hc
          refine lv_aload_n hx hb d_PT_day_55 rfl (lv_at hl 0 rfl) ?_
          refine va_get (D := D) (ci := 6) (v := .ref (ad 8)) (C := R_PT) (T := F_PT) (N := 6) hx hb hts iw_PT hown hK hP 0 rfl rfl 1 (by decide) (hts _ t_w45) (fun _ h9 => h9) rfl d_PT_day_56 ?_
          refine va_get (D := D) (ci := 0) (v := .ref (ad 14)) (C := R_Jobs) (T := F_Jobs) (N := 7) hx hb hts iw_Jobs hown hK hP 8 rfl rfl 6 (by decide) (hts _ t_w241) (fun _ h9 => h9) rfl d_PT_day_59 ?_
          refine lv_iload hx hb d_PT_day_62 (lv_at hl 4 rfl) ?_
          obtain ⟨hi, hv⟩ := hv
          refine va_iald hx hb hK hP 14 0 rfl rfl hi d_PT_day_64 ?_
          refine lv_topi (fun y65 ey65 => ?_)
          replace hv := hv y65 ey65
          refine lv_istore (lv' := [(5, .int y65), (0, .ref (ad 0)), (1, .int x1), (2, .int x2), (3, .int x3), (4, .int x4)]) hx hb d_PT_day_65 hl (by decide) rfl (fun ls hl => ?_)
          refine lv_aload_n hx hb d_PT_day_67 rfl (lv_at hl 1 rfl) ?_
          refine va_get (D := D) (ci := 6) (v := .ref (ad 22)) (C := R_PT) (T := F_PT) (N := 6) hx hb hts iw_PT hown hK hP 0 rfl rfl 5 (by decide) (hts _ t_w23) (fun _ h9 => h9) rfl d_PT_day_68 ?_
          refine va_get (D := D) (ci := 2) (v := .ref (ad 23)) (C := R_Plan) (T := F_Plan) (N := 9) hx hb hts iw_Plan hown hK hP 22 rfl rfl 4 (by decide) (hts _ t_w203) (fun _ h9 => h9) rfl d_PT_day_71 ?_
          refine lv_iload hx hb d_PT_day_74 (lv_at hl 0 rfl) ?_
          obtain ⟨hi, hv⟩ := hv
          refine va_iald hx hb hK hP 23 0 rfl rfl hi d_PT_day_76 ?_
          refine lv_iload_n hx hb d_PT_day_77 rfl (lv_at hl 2 rfl) ?_
          refine lv_icmp_ne (tgt := 92) hx hb d_PT_day_78 (by decide) (fun hc => ?_) (fun hc => ?_)
          · replace hv := hv.1 hc
            obtain ⟨y92, ey92⟩ : ∃ z : Int32, z = x4 + 1 := ⟨_, rfl⟩
            replace hv := hv y92 ey92
            refine lv_iinc (v := y92) (lv' := [(4, .int y92), (5, .int y65), (0, .ref (ad 0)), (1, .int x1), (2, .int x2), (3, .int x3)]) hx hb d_PT_day_92 hl (k := 5) rfl (by rw [ey92]; rfl) (by decide) rfl (fun ls hl => ?_)
            refine lv_goto (tgt := 43) hx hb d_PT_day_95 (by decide) ?_
            obtain ⟨hI, hm⟩ := hv
            exact ih x1 x2 x3 y92 σ τ _ _ _ (Nat.lt_of_lt_of_le hm (Nat.le_of_lt_succ hn)) hI hP hD hS (lv_sub hl [2, 3, 4, 5, 0] rfl)
          · replace hv := hv.2 hc
            refine lv_iload_n hx hb d_PT_day_81 rfl (lv_at hl 4 rfl) ?_
            refine lv_iload_n hx hb d_PT_day_82 rfl (lv_at hl 3 rfl) ?_
            refine lv_icmp_ne (tgt := 89) hx hb d_PT_day_83 (by decide) (fun hc => ?_) (fun hc => ?_)
            · replace hv := hv.1 hc
              obtain ⟨y89, ey89⟩ : ∃ z : Int32, z = x3 + 1 := ⟨_, rfl⟩
              replace hv := hv y89 ey89
              refine lv_iinc (v := y89) (lv' := [(3, .int y89), (5, .int y65), (0, .ref (ad 0)), (1, .int x1), (2, .int x2), (4, .int x4)]) hx hb d_PT_day_89 hl (k := 4) rfl (by rw [ey89]; rfl) (by decide) rfl (fun ls hl => ?_)
              obtain ⟨y92, ey92⟩ : ∃ z : Int32, z = x4 + 1 := ⟨_, rfl⟩
              replace hv := hv y92 ey92
              refine lv_iinc (v := y92) (lv' := [(4, .int y92), (3, .int y89), (5, .int y65), (0, .ref (ad 0)), (1, .int x1), (2, .int x2)]) hx hb d_PT_day_92 hl (k := 5) rfl (by rw [ey92]; rfl) (by decide) rfl (fun ls hl => ?_)
              refine lv_goto (tgt := 43) hx hb d_PT_day_95 (by decide) ?_
              obtain ⟨hI, hm⟩ := hv
              exact ih x1 x2 y89 y92 σ τ _ _ _ (Nat.lt_of_lt_of_le hm (Nat.le_of_lt_succ hn)) hI hP hD hS (lv_sub hl [3, 4, 5, 1, 0] rfl)
            · replace hv := hv.2 hc
              refine lv_iload hx hb d_PT_day_86 (lv_at hl 0 rfl) ?_
              exact gx_iret hx hb hr hlocks hK hP hD hS hv d_PT_day_88
  have hv := v0 σ0 τ0 a1 a2 hpre
  unfold s_PT_day_0 at hv
  refine lv_aload_n hx hb d_PT_day_0 rfl (lv_at hl 0 rfl) ?_
  refine lv_iload_n hx hb d_PT_day_1 rfl (lv_at hl 1 rfl) ?_
  obtain ⟨hg, hv⟩ := hv
  refine gk_callVi (As := [.int a1]) (rest := []) (b := ad 0) ⟨hx, hb, hml, hown, hts⟩ (h_PT_isPerson _ σ0 τ0 a1 hg) (gk_cwV 1 hts t_w63 rfl rfl rfl (hts _ t_w60) (hts _ t_w61) (hts _ t_w62) (hts _ t_w5) (by decide +kernel) ⟨Nat.le_of_ble_eq_true rfl, Nat.le_of_ble_eq_true rfl⟩) hK hP hD hS (va_recv hK hP (ci := 6) (q0 := 0) rfl rfl) rfl hl.1 rfl (lv_room (Nat.le_of_ble_eq_true rfl)) d_PT_day_2 ⟨Nat.zero_le _, Nat.zero_le _⟩ ?_
  intro r2 s2 t2 H locs hw hP hD hS
  replace hv := hv r2 s2 t2 hw
  refine lv_if_ne (tgt := 18) hx hb d_PT_day_5 (by decide) (fun hc => ?_) (fun hc => ?_)
  · replace hv := hv.1 hc
    refine lv_aload_n hx hb d_PT_day_18 rfl (lv_at hl 0 rfl) ?_
    refine va_get (D := D) (ci := 6) (v := .ref (ad 22)) (C := R_PT) (T := F_PT) (N := 6) hx hb hts iw_PT hown hK hP 0 rfl rfl 5 (by decide) (hts _ t_w23) (fun _ h9 => h9) rfl d_PT_day_19 ?_
    refine va_get (D := D) (ci := 2) (v := .int (s2 22 0)) (C := R_Plan) (T := F_Plan) (N := 9) hx hb hts iw_Plan hown hK hP 22 rfl rfl 0 (by decide) (hts _ t_w24) (fun _ h9 => h9) rfl d_PT_day_22 ?_
    refine lv_if_ne (tgt := 38) hx hb d_PT_day_25 (by decide) (fun hc => ?_) (fun hc => ?_)
    · replace hv := hv.1 hc
      refine lv_iconst (v := 0) hx hb d_PT_day_38 (by decide) ?_
      refine lv_istore_n (lv' := [(3, .int 0), (0, .ref (ad 0)), (1, .int a1), (2, .int a2)]) hx hb d_PT_day_39 rfl hl (by decide) rfl (fun ls hl => ?_)
      refine lv_iconst (v := 0) hx hb d_PT_day_40 (by decide) ?_
      refine lv_istore (lv' := [(4, .int 0), (3, .int 0), (0, .ref (ad 0)), (1, .int a1), (2, .int a2)]) hx hb d_PT_day_41 hl (by decide) rfl (fun ls hl => ?_)
      exact (hL _) a1 a2 0 0 s2 t2 _ _ _ (Nat.lt_succ_self _) hv hP hD hS (lv_sub hl [2, 3, 4, 1, 0] rfl)
    · replace hv := hv.2 hc
      exact gx_throw (X := xIS) (own := "PilotTugs") hlt hx hb hlocks hown hex (hl.1.trans hml.symm) hXT hst tx_IS tx_ISl tx_ISi tx_s139 (by decide) hK hP hD hS (by decide) d_PT_day_28 d_PT_day_31 d_PT_day_32 d_PT_day_34 d_PT_day_37 hv
  · replace hv := hv.2 hc
    exact gx_throw (X := xIO) (own := "PilotTugs") hlt hx hb hlocks hown hex (hl.1.trans hml.symm) hXT hst tx_IO tx_IOl tx_IOi tx_s171 (by decide) hK hP hD hS (by decide) d_PT_day_8 d_PT_day_11 d_PT_day_12 d_PT_day_14 d_PT_day_17 hv
def rm_PT_waits : Room := { frames := 6, cells := 1, slots := 6, locals := 82 }
theorem d_PT_waits_0 : decode b_PT_waits 0 = .ok (.aload_n 0, 1) := by decide +kernel
theorem d_PT_waits_1 : decode b_PT_waits 1 = .ok (.iload_n 1, 1) := by decide +kernel
theorem d_PT_waits_2 : decode b_PT_waits 2 = .ok (.invokevirtual 115, 3) := by decide +kernel
theorem d_PT_waits_5 : decode b_PT_waits 5 = .ok (.ifCond .ne 13, 3) := by decide +kernel
theorem d_PT_waits_8 : decode b_PT_waits 8 = .ok (.new 134, 3) := by decide +kernel
theorem d_PT_waits_11 : decode b_PT_waits 11 = .ok (.dup, 1) := by decide +kernel
theorem d_PT_waits_12 : decode b_PT_waits 12 = .ok (.ldc 171, 2) := by decide +kernel
theorem d_PT_waits_14 : decode b_PT_waits 14 = .ok (.invokespecial 138, 3) := by decide +kernel
theorem d_PT_waits_17 : decode b_PT_waits 17 = .ok (.athrow, 1) := by decide +kernel
theorem d_PT_waits_18 : decode b_PT_waits 18 = .ok (.aload_n 0, 1) := by decide +kernel
theorem d_PT_waits_19 : decode b_PT_waits 19 = .ok (.getfield 47, 3) := by decide +kernel
theorem d_PT_waits_22 : decode b_PT_waits 22 = .ok (.getfield 78, 3) := by decide +kernel
theorem d_PT_waits_25 : decode b_PT_waits 25 = .ok (.ifCond .ne 13, 3) := by decide +kernel
theorem d_PT_waits_28 : decode b_PT_waits 28 = .ok (.new 73, 3) := by decide +kernel
theorem d_PT_waits_31 : decode b_PT_waits 31 = .ok (.dup, 1) := by decide +kernel
theorem d_PT_waits_32 : decode b_PT_waits 32 = .ok (.ldc 139, 2) := by decide +kernel
theorem d_PT_waits_34 : decode b_PT_waits 34 = .ok (.invokespecial 77, 3) := by decide +kernel
theorem d_PT_waits_37 : decode b_PT_waits 37 = .ok (.athrow, 1) := by decide +kernel
theorem d_PT_waits_38 : decode b_PT_waits 38 = .ok (.iconst 0, 1) := by decide +kernel
theorem d_PT_waits_39 : decode b_PT_waits 39 = .ok (.istore_n 2, 1) := by decide +kernel
theorem d_PT_waits_40 : decode b_PT_waits 40 = .ok (.aload_n 0, 1) := by decide +kernel
theorem d_PT_waits_41 : decode b_PT_waits 41 = .ok (.getfield 10, 3) := by decide +kernel
theorem d_PT_waits_44 : decode b_PT_waits 44 = .ok (.getfield 176, 3) := by decide +kernel
theorem d_PT_waits_47 : decode b_PT_waits 47 = .ok (.iload_n 1, 1) := by decide +kernel
theorem d_PT_waits_48 : decode b_PT_waits 48 = .ok (.iaload, 1) := by decide +kernel
theorem d_PT_waits_49 : decode b_PT_waits 49 = .ok (.istore_n 3, 1) := by decide +kernel
theorem d_PT_waits_50 : decode b_PT_waits 50 = .ok (.iconst 0, 1) := by decide +kernel
theorem d_PT_waits_51 : decode b_PT_waits 51 = .ok (.istore 4, 2) := by decide +kernel
theorem d_PT_waits_53 : decode b_PT_waits 53 = .ok (.iload 4, 2) := by decide +kernel
theorem d_PT_waits_55 : decode b_PT_waits 55 = .ok (.aload_n 0, 1) := by decide +kernel
theorem d_PT_waits_56 : decode b_PT_waits 56 = .ok (.getfield 19, 3) := by decide +kernel
theorem d_PT_waits_59 : decode b_PT_waits 59 = .ok (.getfield 102, 3) := by decide +kernel
theorem d_PT_waits_62 : decode b_PT_waits 62 = .ok (.if_icmp .ge 72, 3) := by decide +kernel
theorem d_PT_waits_65 : decode b_PT_waits 65 = .ok (.aload_n 0, 1) := by decide +kernel
theorem d_PT_waits_66 : decode b_PT_waits 66 = .ok (.getfield 19, 3) := by decide +kernel
theorem d_PT_waits_69 : decode b_PT_waits 69 = .ok (.getfield 173, 3) := by decide +kernel
theorem d_PT_waits_72 : decode b_PT_waits 72 = .ok (.iload 4, 2) := by decide +kernel
theorem d_PT_waits_74 : decode b_PT_waits 74 = .ok (.iaload, 1) := by decide +kernel
theorem d_PT_waits_75 : decode b_PT_waits 75 = .ok (.istore 5, 2) := by decide +kernel
theorem d_PT_waits_77 : decode b_PT_waits 77 = .ok (.aload_n 0, 1) := by decide +kernel
theorem d_PT_waits_78 : decode b_PT_waits 78 = .ok (.getfield 47, 3) := by decide +kernel
theorem d_PT_waits_81 : decode b_PT_waits 81 = .ok (.getfield 141, 3) := by decide +kernel
theorem d_PT_waits_84 : decode b_PT_waits 84 = .ok (.iload 5, 2) := by decide +kernel
theorem d_PT_waits_86 : decode b_PT_waits 86 = .ok (.iaload, 1) := by decide +kernel
theorem d_PT_waits_87 : decode b_PT_waits 87 = .ok (.iload_n 1, 1) := by decide +kernel
theorem d_PT_waits_88 : decode b_PT_waits 88 = .ok (.if_icmp .ne 40, 3) := by decide +kernel
theorem d_PT_waits_91 : decode b_PT_waits 91 = .ok (.iload_n 2, 1) := by decide +kernel
theorem d_PT_waits_92 : decode b_PT_waits 92 = .ok (.aload_n 0, 1) := by decide +kernel
theorem d_PT_waits_93 : decode b_PT_waits 93 = .ok (.getfield 19, 3) := by decide +kernel
theorem d_PT_waits_96 : decode b_PT_waits 96 = .ok (.getfield 179, 3) := by decide +kernel
theorem d_PT_waits_99 : decode b_PT_waits 99 = .ok (.iload 5, 2) := by decide +kernel
theorem d_PT_waits_101 : decode b_PT_waits 101 = .ok (.iaload, 1) := by decide +kernel
theorem d_PT_waits_102 : decode b_PT_waits 102 = .ok (.iload_n 3, 1) := by decide +kernel
theorem d_PT_waits_103 : decode b_PT_waits 103 = .ok (.isub, 1) := by decide +kernel
theorem d_PT_waits_104 : decode b_PT_waits 104 = .ok (.aload_n 0, 1) := by decide +kernel
theorem d_PT_waits_105 : decode b_PT_waits 105 = .ok (.getfield 47, 3) := by decide +kernel
theorem d_PT_waits_108 : decode b_PT_waits 108 = .ok (.getfield 144, 3) := by decide +kernel
theorem d_PT_waits_111 : decode b_PT_waits 111 = .ok (.iload 5, 2) := by decide +kernel
theorem d_PT_waits_113 : decode b_PT_waits 113 = .ok (.iaload, 1) := by decide +kernel
theorem d_PT_waits_114 : decode b_PT_waits 114 = .ok (.isub, 1) := by decide +kernel
theorem d_PT_waits_115 : decode b_PT_waits 115 = .ok (.iadd, 1) := by decide +kernel
theorem d_PT_waits_116 : decode b_PT_waits 116 = .ok (.istore_n 2, 1) := by decide +kernel
theorem d_PT_waits_117 : decode b_PT_waits 117 = .ok (.aload_n 0, 1) := by decide +kernel
theorem d_PT_waits_118 : decode b_PT_waits 118 = .ok (.getfield 19, 3) := by decide +kernel
theorem d_PT_waits_121 : decode b_PT_waits 121 = .ok (.getfield 180, 3) := by decide +kernel
theorem d_PT_waits_124 : decode b_PT_waits 124 = .ok (.iload 5, 2) := by decide +kernel
theorem d_PT_waits_126 : decode b_PT_waits 126 = .ok (.iaload, 1) := by decide +kernel
theorem d_PT_waits_127 : decode b_PT_waits 127 = .ok (.istore_n 3, 1) := by decide +kernel
theorem d_PT_waits_128 : decode b_PT_waits 128 = .ok (.iinc 4 1, 3) := by decide +kernel
theorem d_PT_waits_131 : decode b_PT_waits 131 = .ok (.goto (-78), 3) := by decide +kernel
theorem d_PT_waits_134 : decode b_PT_waits 134 = .ok (.iload_n 2, 1) := by decide +kernel
theorem d_PT_waits_135 : decode b_PT_waits 135 = .ok (.ireturn, 1) := by decide +kernel
def s_PT_waits_0 (P_PT_isPerson : MI → ML → Int32 → Prop) (Q_PT_isPerson : MI → ML → Int32 → Int32 → MI → ML → Prop) (σ : MI) (τ : ML) (a1 : Int32) (K53 : Int32 → Int32 → Int32 → Int32 → MI → ML → Prop) (R : Int32 → MI → ML → Prop) (Z : String → MI → ML → Prop) : Prop :=
  P_PT_isPerson σ τ a1 ∧ ∀ (r2 : Int32) (s2 : MI) (t2 : ML), Q_PT_isPerson σ τ a1 r2 s2 t2 → ((¬ r2 = 0 →
  ((¬ (s2 22 0) = 0 →
    (vp_in a1 4 ∧ (∀ y49 : Int32, y49 = s2 3 (Int32.toNatClampNeg a1) → (K53 a1 0 y49 0 s2 t2)))) ∧
    ((s2 22 0) = 0 →
    (Z "java/lang/IllegalStateException" s2 t2)))) ∧
  (r2 = 0 →
  (Z "java/lang/IndexOutOfBoundsException" s2 t2)))
def s_PT_waits_53 (P_PT_isPerson : MI → ML → Int32 → Prop) (Q_PT_isPerson : MI → ML → Int32 → Int32 → MI → ML → Prop) (σ : MI) (τ : ML) (x1 : Int32) (x2 : Int32) (x3 : Int32) (x4 : Int32) (K53 : Int32 → Int32 → Int32 → Int32 → MI → ML → Prop) (R : Int32 → MI → ML → Prop) (Z : String → MI → ML → Prop) : Prop :=
  ((σ 8 0) ≤ x4 →
  (R x2 σ τ)) ∧
  (¬ (σ 8 0) ≤ x4 →
  (vp_in x4 7 ∧ (∀ y75 : Int32, y75 = σ 14 (Int32.toNatClampNeg x4) → (vp_in y75 7 ∧ ((¬ (σ 23 (Int32.toNatClampNeg y75)) = x1 →
    (∀ y128 : Int32, y128 = x4 + 1 → (K53 x1 x2 x3 y128 σ τ))) ∧
    ((σ 23 (Int32.toNatClampNeg y75)) = x1 →
    (vp_in y75 7 ∧ (vp_in y75 7 ∧ (∀ y116 : Int32, y116 = x2 + (((σ 11 (Int32.toNatClampNeg y75)) - x3) - (σ 24 (Int32.toNatClampNeg y75))) → (vp_in y75 7 ∧ (∀ y127 : Int32, y127 = σ 12 (Int32.toNatClampNeg y75) → (∀ y128 : Int32, y128 = x4 + 1 → (K53 x1 y116 y127 y128 σ τ)))))))))))))
set_option maxHeartbeats 4000000 in
set_option maxRecDepth 100000 in
theorem k_PT_waits (l : Launch) (hlt : l.flags = flags0) (D : va_G) (ad : Nat → Nat) (ci cl : ClassId)
    (pre : MI → ML → Int32 → Prop) (post : MI → ML → Int32 → Int32 → MI → ML → Prop) (postZ : MI → ML → Int32 → String → MI → ML → Prop) (P_PT_isPerson : MI → ML → Int32 → Prop) (Q_PT_isPerson : MI → ML → Int32 → Int32 → MI → ML → Prop)
    (h_PT_isPerson : ∀ (sz : Nat) (σ : MI) (τ : ML) (b0 : Int32), P_PT_isPerson σ τ b0 → gMi l D (xw ad ci cl) (xt ci cl) (xa ad) y_PT_isPerson w_PT_isPerson rm_PT_isPerson [.ref (ad 0), .int b0] sz σ τ (Q_PT_isPerson σ τ b0))
    (I53 : MI → ML → Int32 → Int32 → Int32 → Int32 → Int32 → MI → ML → Prop) (m53 : MI → ML → Int32 → Int32 → Int32 → Int32 → Int32 → MI → ML → Nat)
    (v0 : ∀ (σ0 : MI) (τ0 : ML) (a1 : Int32), pre σ0 τ0 a1 → s_PT_waits_0 P_PT_isPerson Q_PT_isPerson σ0 τ0 a1 (fun z0 z1 z2 z3 σ9 τ9 => I53 σ0 τ0 a1 z0 z1 z2 z3 σ9 τ9) (post σ0 τ0 a1) (postZ σ0 τ0 a1))
    (v53 : ∀ (σ0 : MI) (τ0 : ML) (a1 : Int32) (x1 : Int32) (x2 : Int32) (x3 : Int32) (x4 : Int32) (σ : MI) (τ : ML), I53 σ0 τ0 a1 x1 x2 x3 x4 σ τ → s_PT_waits_53 P_PT_isPerson Q_PT_isPerson σ τ x1 x2 x3 x4 (fun z0 z1 z2 z3 σ9 τ9 => I53 σ0 τ0 a1 z0 z1 z2 z3 σ9 τ9 ∧ m53 σ0 τ0 a1 z0 z1 z2 z3 σ9 τ9 < m53 σ0 τ0 a1 x1 x2 x3 x4 σ τ) (post σ0 τ0 a1) (postZ σ0 τ0 a1)) :
    ∀ (sz : Nat) (σ0 : MI) (τ0 : ML) (a1 : Int32), pre σ0 τ0 a1 → gMx l D (xw ad ci cl) (xt ci cl) (xa ad) y_PT_waits w_PT_waits rm_PT_waits [.ref (ad 0), .int a1] sz σ0 τ0 (post σ0 τ0 a1) (postZ σ0 τ0 a1) := by
  intro sz σ0 τ0 a1 hpre
  refine gx_ofW (cc := b_PT_waits) (maxL := 6) (ret := (some .int)) (by decide) rfl xa_ok (Nat.le_of_ble_eq_true rfl) ?_
  intro p e s m below meth c ls hx hb hr hlocks hml hown hts hK hP hD hS hl hex hXT hst
  have hl : lv_has ls 6 [(0, .ref (ad 0)), (1, .int a1)] := hl
  have hown : s.vm.findClass R_PT = some m.cls := hown
  have hL : ∀ n : Nat, (∀ (x1 : Int32) (x2 : Int32) (x3 : Int32) (x4 : Int32) (σ : MI) (τ : ML) (H : Heap) (locs : List Loc) (ls : Array Slot), m53 σ0 τ0 a1 x1 x2 x3 x4 σ τ < n → I53 σ0 τ0 a1 x1 x2 x3 x4 σ τ → va_P D classes ((xw ad ci cl) σ τ) H → va_D (gA (xa ad) s.heap.size) ((xw ad ci cl) σ τ) → va_S (gA (xa ad) s.heap.size) s.heap H locs → lv_has ls 6 [(0, .ref (ad 0)), (1, .int x1), (2, .int x2), (3, .int x3), (4, .int x4)] → W p l e rm_PT_waits s m [.ref (ad 0), .int a1].toArray below meth c H locs 0 0 (gQx D (xw ad ci cl) (xt ci cl) (xa ad) below [.ref (ad 0), .int a1] s (post σ0 τ0 a1) (postZ σ0 τ0 a1)) (F0 m 53 ls [])) := by
    intro n
    induction n with
    | zero => exact fun _ _ _ _ _ _ _ _ _ hn => absurd hn (Nat.not_lt_zero _)
    | succ n ih =>
      · intro x1 x2 x3 x4 σ τ H locs ls hn hI hP hD hS hl
        have hv := v53 σ0 τ0 a1 x1 x2 x3 x4 σ τ hI
        unfold s_PT_waits_53 at hv
        refine lv_iload hx hb d_PT_waits_53 (lv_at hl 4 rfl) ?_
        refine lv_aload_n hx hb d_PT_waits_55 rfl (lv_at hl 0 rfl) ?_
        refine va_get (D := D) (ci := 6) (v := .ref (ad 8)) (C := R_PT) (T := F_PT) (N := 6) hx hb hts iw_PT hown hK hP 0 rfl rfl 1 (by decide) (hts _ t_w45) (fun _ h9 => h9) rfl d_PT_waits_56 ?_
        refine va_get (D := D) (ci := 0) (v := .int (σ 8 0)) (C := R_Jobs) (T := F_Jobs) (N := 7) hx hb hts iw_Jobs hown hK hP 8 rfl rfl 0 (by decide) (hts _ t_w46) (fun _ h9 => h9) rfl d_PT_waits_59 ?_
        refine lv_icmp_ge (tgt := 134) hx hb d_PT_waits_62 (by decide) (fun hc => ?_) (fun hc => ?_)
        · replace hv := hv.1 hc
          refine lv_iload_n hx hb d_PT_waits_134 rfl (lv_at hl 2 rfl) ?_
          exact gx_iret hx hb hr hlocks hK hP hD hS hv d_PT_waits_135
        · replace hv := hv.2 hc
          refine lv_aload_n hx hb d_PT_waits_65 rfl (lv_at hl 0 rfl) ?_
          refine va_get (D := D) (ci := 6) (v := .ref (ad 8)) (C := R_PT) (T := F_PT) (N := 6) hx hb hts iw_PT hown hK hP 0 rfl rfl 1 (by decide) (hts _ t_w45) (fun _ h9 => h9) rfl d_PT_waits_66 ?_
          refine va_get (D := D) (ci := 0) (v := .ref (ad 14)) (C := R_Jobs) (T := F_Jobs) (N := 7) hx hb hts iw_Jobs hown hK hP 8 rfl rfl 6 (by decide) (hts _ t_w241) (fun _ h9 => h9) rfl d_PT_waits_69 ?_
          refine lv_iload hx hb d_PT_waits_72 (lv_at hl 4 rfl) ?_
          obtain ⟨hi, hv⟩ := hv
          refine va_iald hx hb hK hP 14 0 rfl rfl hi d_PT_waits_74 ?_
          refine lv_topi (fun y75 ey75 => ?_)
          replace hv := hv y75 ey75
          refine lv_istore (lv' := [(5, .int y75), (0, .ref (ad 0)), (1, .int x1), (2, .int x2), (3, .int x3), (4, .int x4)]) hx hb d_PT_waits_75 hl (by decide) rfl (fun ls hl => ?_)
          refine lv_aload_n hx hb d_PT_waits_77 rfl (lv_at hl 1 rfl) ?_
          refine va_get (D := D) (ci := 6) (v := .ref (ad 22)) (C := R_PT) (T := F_PT) (N := 6) hx hb hts iw_PT hown hK hP 0 rfl rfl 5 (by decide) (hts _ t_w23) (fun _ h9 => h9) rfl d_PT_waits_78 ?_
          refine va_get (D := D) (ci := 2) (v := .ref (ad 23)) (C := R_Plan) (T := F_Plan) (N := 9) hx hb hts iw_Plan hown hK hP 22 rfl rfl 4 (by decide) (hts _ t_w203) (fun _ h9 => h9) rfl d_PT_waits_81 ?_
          refine lv_iload hx hb d_PT_waits_84 (lv_at hl 0 rfl) ?_
          obtain ⟨hi, hv⟩ := hv
          refine va_iald hx hb hK hP 23 0 rfl rfl hi d_PT_waits_86 ?_
          refine lv_iload_n hx hb d_PT_waits_87 rfl (lv_at hl 2 rfl) ?_
          refine lv_icmp_ne (tgt := 128) hx hb d_PT_waits_88 (by decide) (fun hc => ?_) (fun hc => ?_)
          · replace hv := hv.1 hc
            obtain ⟨y128, ey128⟩ : ∃ z : Int32, z = x4 + 1 := ⟨_, rfl⟩
            replace hv := hv y128 ey128
            refine lv_iinc (v := y128) (lv' := [(4, .int y128), (5, .int y75), (0, .ref (ad 0)), (1, .int x1), (2, .int x2), (3, .int x3)]) hx hb d_PT_waits_128 hl (k := 5) rfl (by rw [ey128]; rfl) (by decide) rfl (fun ls hl => ?_)
            refine lv_goto (tgt := 53) hx hb d_PT_waits_131 (by decide) ?_
            obtain ⟨hI, hm⟩ := hv
            exact ih x1 x2 x3 y128 σ τ _ _ _ (Nat.lt_of_lt_of_le hm (Nat.le_of_lt_succ hn)) hI hP hD hS (lv_sub hl [2, 3, 4, 5, 0] rfl)
          · replace hv := hv.2 hc
            refine lv_iload_n hx hb d_PT_waits_91 rfl (lv_at hl 3 rfl) ?_
            refine lv_aload_n hx hb d_PT_waits_92 rfl (lv_at hl 1 rfl) ?_
            refine va_get (D := D) (ci := 6) (v := .ref (ad 8)) (C := R_PT) (T := F_PT) (N := 6) hx hb hts iw_PT hown hK hP 0 rfl rfl 1 (by decide) (hts _ t_w45) (fun _ h9 => h9) rfl d_PT_waits_93 ?_
            refine va_get (D := D) (ci := 0) (v := .ref (ad 11)) (C := R_Jobs) (T := F_Jobs) (N := 7) hx hb hts iw_Jobs hown hK hP 8 rfl rfl 3 (by decide) (hts _ t_w243) (fun _ h9 => h9) rfl d_PT_waits_96 ?_
            refine lv_iload hx hb d_PT_waits_99 (lv_at hl 0 rfl) ?_
            obtain ⟨hi, hv⟩ := hv
            refine va_iald hx hb hK hP 11 0 rfl rfl hi d_PT_waits_101 ?_
            refine lv_iload_n hx hb d_PT_waits_102 rfl (lv_at hl 4 rfl) ?_
            refine lv_isub hx hb d_PT_waits_103 ?_
            refine lv_aload_n hx hb d_PT_waits_104 rfl (lv_at hl 1 rfl) ?_
            refine va_get (D := D) (ci := 6) (v := .ref (ad 22)) (C := R_PT) (T := F_PT) (N := 6) hx hb hts iw_PT hown hK hP 0 rfl rfl 5 (by decide) (hts _ t_w23) (fun _ h9 => h9) rfl d_PT_waits_105 ?_
            refine va_get (D := D) (ci := 2) (v := .ref (ad 24)) (C := R_Plan) (T := F_Plan) (N := 9) hx hb hts iw_Plan hown hK hP 22 rfl rfl 5 (by decide) (hts _ t_w212) (fun _ h9 => h9) rfl d_PT_waits_108 ?_
            refine lv_iload hx hb d_PT_waits_111 (lv_at hl 0 rfl) ?_
            obtain ⟨hi, hv⟩ := hv
            refine va_iald hx hb hK hP 24 0 rfl rfl hi d_PT_waits_113 ?_
            refine lv_isub hx hb d_PT_waits_114 ?_
            refine lv_iadd hx hb d_PT_waits_115 ?_
            refine lv_topi (fun y116 ey116 => ?_)
            replace hv := hv y116 ey116
            refine lv_istore_n (lv' := [(2, .int y116), (5, .int y75), (0, .ref (ad 0)), (1, .int x1), (3, .int x3), (4, .int x4)]) hx hb d_PT_waits_116 rfl hl (by decide) rfl (fun ls hl => ?_)
            refine lv_aload_n hx hb d_PT_waits_117 rfl (lv_at hl 2 rfl) ?_
            refine va_get (D := D) (ci := 6) (v := .ref (ad 8)) (C := R_PT) (T := F_PT) (N := 6) hx hb hts iw_PT hown hK hP 0 rfl rfl 1 (by decide) (hts _ t_w45) (fun _ h9 => h9) rfl d_PT_waits_118 ?_
            refine va_get (D := D) (ci := 0) (v := .ref (ad 12)) (C := R_Jobs) (T := F_Jobs) (N := 7) hx hb hts iw_Jobs hown hK hP 8 rfl rfl 4 (by decide) (hts _ t_w244) (fun _ h9 => h9) rfl d_PT_waits_121 ?_
            refine lv_iload hx hb d_PT_waits_124 (lv_at hl 1 rfl) ?_
            obtain ⟨hi, hv⟩ := hv
            refine va_iald hx hb hK hP 12 0 rfl rfl hi d_PT_waits_126 ?_
            refine lv_topi (fun y127 ey127 => ?_)
            replace hv := hv y127 ey127
            refine lv_istore_n (lv' := [(3, .int y127), (2, .int y116), (5, .int y75), (0, .ref (ad 0)), (1, .int x1), (4, .int x4)]) hx hb d_PT_waits_127 rfl hl (by decide) rfl (fun ls hl => ?_)
            obtain ⟨y128, ey128⟩ : ∃ z : Int32, z = x4 + 1 := ⟨_, rfl⟩
            replace hv := hv y128 ey128
            refine lv_iinc (v := y128) (lv' := [(4, .int y128), (3, .int y127), (2, .int y116), (5, .int y75), (0, .ref (ad 0)), (1, .int x1)]) hx hb d_PT_waits_128 hl (k := 5) rfl (by rw [ey128]; rfl) (by decide) rfl (fun ls hl => ?_)
            refine lv_goto (tgt := 53) hx hb d_PT_waits_131 (by decide) ?_
            obtain ⟨hI, hm⟩ := hv
            exact ih x1 y116 y127 y128 σ τ _ _ _ (Nat.lt_of_lt_of_le hm (Nat.le_of_lt_succ hn)) hI hP hD hS (lv_sub hl [4, 5, 2, 1, 0] rfl)
  have hv := v0 σ0 τ0 a1 hpre
  unfold s_PT_waits_0 at hv
  refine lv_aload_n hx hb d_PT_waits_0 rfl (lv_at hl 0 rfl) ?_
  refine lv_iload_n hx hb d_PT_waits_1 rfl (lv_at hl 1 rfl) ?_
  obtain ⟨hg, hv⟩ := hv
  refine gk_callVi (As := [.int a1]) (rest := []) (b := ad 0) ⟨hx, hb, hml, hown, hts⟩ (h_PT_isPerson _ σ0 τ0 a1 hg) (gk_cwV 1 hts t_w63 rfl rfl rfl (hts _ t_w60) (hts _ t_w61) (hts _ t_w62) (hts _ t_w5) (by decide +kernel) ⟨Nat.le_of_ble_eq_true rfl, Nat.le_of_ble_eq_true rfl⟩) hK hP hD hS (va_recv hK hP (ci := 6) (q0 := 0) rfl rfl) rfl hl.1 rfl (lv_room (Nat.le_of_ble_eq_true rfl)) d_PT_waits_2 ⟨Nat.zero_le _, Nat.zero_le _⟩ ?_
  intro r2 s2 t2 H locs hw hP hD hS
  replace hv := hv r2 s2 t2 hw
  refine lv_if_ne (tgt := 18) hx hb d_PT_waits_5 (by decide) (fun hc => ?_) (fun hc => ?_)
  · replace hv := hv.1 hc
    refine lv_aload_n hx hb d_PT_waits_18 rfl (lv_at hl 0 rfl) ?_
    refine va_get (D := D) (ci := 6) (v := .ref (ad 22)) (C := R_PT) (T := F_PT) (N := 6) hx hb hts iw_PT hown hK hP 0 rfl rfl 5 (by decide) (hts _ t_w23) (fun _ h9 => h9) rfl d_PT_waits_19 ?_
    refine va_get (D := D) (ci := 2) (v := .int (s2 22 0)) (C := R_Plan) (T := F_Plan) (N := 9) hx hb hts iw_Plan hown hK hP 22 rfl rfl 0 (by decide) (hts _ t_w24) (fun _ h9 => h9) rfl d_PT_waits_22 ?_
    refine lv_if_ne (tgt := 38) hx hb d_PT_waits_25 (by decide) (fun hc => ?_) (fun hc => ?_)
    · replace hv := hv.1 hc
      refine lv_iconst (v := 0) hx hb d_PT_waits_38 (by decide) ?_
      refine lv_istore_n (lv' := [(2, .int 0), (0, .ref (ad 0)), (1, .int a1)]) hx hb d_PT_waits_39 rfl hl (by decide) rfl (fun ls hl => ?_)
      refine lv_aload_n hx hb d_PT_waits_40 rfl (lv_at hl 1 rfl) ?_
      refine va_get (D := D) (ci := 6) (v := .ref (ad 1)) (C := R_PT) (T := F_PT) (N := 6) hx hb hts iw_PT hown hK hP 0 rfl rfl 0 (by decide) (hts _ t_w21) (fun _ h9 => h9) rfl d_PT_waits_41 ?_
      refine va_get (D := D) (ci := 1) (v := .ref (ad 3)) (C := R_People) (T := F_People) (N := 7) hx hb hts iw_People hown hK hP 1 rfl rfl 2 (by decide) (hts _ t_w242) (fun _ h9 => h9) rfl d_PT_waits_44 ?_
      refine lv_iload_n hx hb d_PT_waits_47 rfl (lv_at hl 2 rfl) ?_
      obtain ⟨hi, hv⟩ := hv
      refine va_iald hx hb hK hP 3 0 rfl rfl hi d_PT_waits_48 ?_
      refine lv_topi (fun y49 ey49 => ?_)
      replace hv := hv y49 ey49
      refine lv_istore_n (lv' := [(3, .int y49), (2, .int 0), (0, .ref (ad 0)), (1, .int a1)]) hx hb d_PT_waits_49 rfl hl (by decide) rfl (fun ls hl => ?_)
      refine lv_iconst (v := 0) hx hb d_PT_waits_50 (by decide) ?_
      refine lv_istore (lv' := [(4, .int 0), (3, .int y49), (2, .int 0), (0, .ref (ad 0)), (1, .int a1)]) hx hb d_PT_waits_51 hl (by decide) rfl (fun ls hl => ?_)
      exact (hL _) a1 0 y49 0 s2 t2 _ _ _ (Nat.lt_succ_self _) hv hP hD hS (lv_sub hl [3, 4, 2, 1, 0] rfl)
    · replace hv := hv.2 hc
      exact gx_throw (X := xIS) (own := "PilotTugs") hlt hx hb hlocks hown hex (hl.1.trans hml.symm) hXT hst tx_IS tx_ISl tx_ISi tx_s139 (by decide) hK hP hD hS (by decide) d_PT_waits_28 d_PT_waits_31 d_PT_waits_32 d_PT_waits_34 d_PT_waits_37 hv
  · replace hv := hv.2 hc
    exact gx_throw (X := xIO) (own := "PilotTugs") hlt hx hb hlocks hown hex (hl.1.trans hml.symm) hXT hst tx_IO tx_IOl tx_IOi tx_s171 (by decide) hK hP hD hS (by decide) d_PT_waits_8 d_PT_waits_11 d_PT_waits_12 d_PT_waits_14 d_PT_waits_17 hv
def rm_PT_share : Room := { frames := 6, cells := 1, slots := 6, locals := 82 }
theorem d_PT_share_0 : decode b_PT_share 0 = .ok (.iload_n 1, 1) := by decide +kernel
theorem d_PT_share_1 : decode b_PT_share 1 = .ok (.iconst 0, 1) := by decide +kernel
theorem d_PT_share_2 : decode b_PT_share 2 = .ok (.ldc 183, 2) := by decide +kernel
theorem d_PT_share_4 : decode b_PT_share 4 = .ok (.invokestatic 86, 3) := by decide +kernel
theorem d_PT_share_7 : decode b_PT_share 7 = .ok (.ifCond .eq 13, 3) := by decide +kernel
theorem d_PT_share_10 : decode b_PT_share 10 = .ok (.iload_n 2, 1) := by decide +kernel
theorem d_PT_share_11 : decode b_PT_share 11 = .ok (.iconst 0, 1) := by decide +kernel
theorem d_PT_share_12 : decode b_PT_share 12 = .ok (.ldc 183, 2) := by decide +kernel
theorem d_PT_share_14 : decode b_PT_share 14 = .ok (.invokestatic 86, 3) := by decide +kernel
theorem d_PT_share_17 : decode b_PT_share 17 = .ok (.ifCond .ne 13, 3) := by decide +kernel
theorem d_PT_share_20 : decode b_PT_share 20 = .ok (.new 62, 3) := by decide +kernel
theorem d_PT_share_23 : decode b_PT_share 23 = .ok (.dup, 1) := by decide +kernel
theorem d_PT_share_24 : decode b_PT_share 24 = .ok (.ldc 184, 2) := by decide +kernel
theorem d_PT_share_26 : decode b_PT_share 26 = .ok (.invokespecial 66, 3) := by decide +kernel
theorem d_PT_share_29 : decode b_PT_share 29 = .ok (.athrow, 1) := by decide +kernel
theorem d_PT_share_30 : decode b_PT_share 30 = .ok (.iload_n 2, 1) := by decide +kernel
theorem d_PT_share_31 : decode b_PT_share 31 = .ok (.ifCond .ne 13, 3) := by decide +kernel
theorem d_PT_share_34 : decode b_PT_share 34 = .ok (.new 186, 3) := by decide +kernel
theorem d_PT_share_37 : decode b_PT_share 37 = .ok (.dup, 1) := by decide +kernel
theorem d_PT_share_38 : decode b_PT_share 38 = .ok (.ldc 188, 2) := by decide +kernel
theorem d_PT_share_40 : decode b_PT_share 40 = .ok (.invokespecial 190, 3) := by decide +kernel
theorem d_PT_share_43 : decode b_PT_share 43 = .ok (.athrow, 1) := by decide +kernel
theorem d_PT_share_44 : decode b_PT_share 44 = .ok (.bipush 100, 2) := by decide +kernel
theorem d_PT_share_46 : decode b_PT_share 46 = .ok (.iload_n 1, 1) := by decide +kernel
theorem d_PT_share_47 : decode b_PT_share 47 = .ok (.imul, 1) := by decide +kernel
theorem d_PT_share_48 : decode b_PT_share 48 = .ok (.iload_n 2, 1) := by decide +kernel
theorem d_PT_share_49 : decode b_PT_share 49 = .ok (.idiv, 1) := by decide +kernel
theorem d_PT_share_50 : decode b_PT_share 50 = .ok (.ireturn, 1) := by decide +kernel
def s_PT_share_0 (P_PT_isWithin : MI → ML → Int32 → Int32 → Int32 → Prop) (Q_PT_isWithin : MI → ML → Int32 → Int32 → Int32 → Int32 → MI → ML → Prop) (σ : MI) (τ : ML) (a1 : Int32) (a2 : Int32) (R : Int32 → MI → ML → Prop) (Z : String → MI → ML → Prop) : Prop :=
  P_PT_isWithin σ τ a1 0 1000000 ∧ ∀ (r4 : Int32) (s4 : MI) (t4 : ML), Q_PT_isWithin σ τ a1 0 1000000 r4 s4 t4 → ((r4 = 0 →
  (Z "java/lang/IllegalArgumentException" s4 t4)) ∧
  (¬ r4 = 0 →
  (P_PT_isWithin s4 t4 a2 0 1000000 ∧ ∀ (r14 : Int32) (s14 : MI) (t14 : ML), Q_PT_isWithin s4 t4 a2 0 1000000 r14 s14 t14 → ((¬ r14 = 0 →
    ((¬ a2 = 0 →
      (¬ (a2 : Int32) = 0 ∧ (R ((100 * a1) / a2) s14 t14))) ∧
      (a2 = 0 →
      (Z "java/lang/ArithmeticException" s14 t14)))) ∧
    (r14 = 0 →
    (Z "java/lang/IllegalArgumentException" s14 t14))))))
set_option maxHeartbeats 4000000 in
set_option maxRecDepth 100000 in
theorem k_PT_share (l : Launch) (hlt : l.flags = flags0) (D : va_G) (ad : Nat → Nat) (ci cl : ClassId)
    (pre : MI → ML → Int32 → Int32 → Prop) (post : MI → ML → Int32 → Int32 → Int32 → MI → ML → Prop) (postZ : MI → ML → Int32 → Int32 → String → MI → ML → Prop) (P_PT_isWithin : MI → ML → Int32 → Int32 → Int32 → Prop) (Q_PT_isWithin : MI → ML → Int32 → Int32 → Int32 → Int32 → MI → ML → Prop)
    (h_PT_isWithin : ∀ (sz : Nat) (σ : MI) (τ : ML) (b0 : Int32) (b1 : Int32) (b2 : Int32), P_PT_isWithin σ τ b0 b1 b2 → gMi l D (xw ad ci cl) (xt ci cl) (xa ad) y_PT_isWithin w_PT_isWithin rm_PT_isWithin [.int b0, .int b1, .int b2] sz σ τ (Q_PT_isWithin σ τ b0 b1 b2))
    (v0 : ∀ (σ0 : MI) (τ0 : ML) (a1 : Int32) (a2 : Int32), pre σ0 τ0 a1 a2 → s_PT_share_0 P_PT_isWithin Q_PT_isWithin σ0 τ0 a1 a2 (post σ0 τ0 a1 a2) (postZ σ0 τ0 a1 a2)) :
    ∀ (sz : Nat) (σ0 : MI) (τ0 : ML) (a1 : Int32) (a2 : Int32), pre σ0 τ0 a1 a2 → gMx l D (xw ad ci cl) (xt ci cl) (xa ad) y_PT_share w_PT_share rm_PT_share [.ref (ad 0), .int a1, .int a2] sz σ0 τ0 (post σ0 τ0 a1 a2) (postZ σ0 τ0 a1 a2) := by
  intro sz σ0 τ0 a1 a2 hpre
  refine gx_ofW (cc := b_PT_share) (maxL := 3) (ret := (some .int)) (by decide) rfl xa_ok (Nat.le_of_ble_eq_true rfl) ?_
  intro p e s m below meth c ls hx hb hr hlocks hml hown hts hK hP hD hS hl hex hXT hst
  have hl : lv_has ls 3 [(0, .ref (ad 0)), (1, .int a1), (2, .int a2)] := hl
  have hown : s.vm.findClass R_PT = some m.cls := hown
  have hv := v0 σ0 τ0 a1 a2 hpre
  unfold s_PT_share_0 at hv
  refine lv_iload_n hx hb d_PT_share_0 rfl (lv_at hl 1 rfl) ?_
  refine lv_iconst (v := 0) hx hb d_PT_share_1 (by decide) ?_
  refine lv_ldc (v := 1000000) hx hb hown (hts _ t_w245) d_PT_share_2 ?_
  obtain ⟨hg, hv⟩ := hv
  refine gk_callSi (As := [.int a1, .int 0, .int 1000000]) (rest := []) ⟨hx, hb, hml, hown, hts⟩ (h_PT_isWithin _ σ0 τ0 a1 0 1000000 hg) (gk_cwS 3 hts t_w6 rfl rfl rfl (hts _ t_w3) (hts _ t_w4) (hts _ t_w5) (by decide +kernel) ⟨Nat.le_of_ble_eq_true rfl, Nat.le_of_ble_eq_true rfl⟩) hK hP hD hS rfl hl.1 rfl (lv_room (Nat.le_of_ble_eq_true rfl)) d_PT_share_4 ⟨Nat.zero_le _, Nat.zero_le _⟩ ?_
  intro r4 s4 t4 H locs hw hP hD hS
  replace hv := hv r4 s4 t4 hw
  refine lv_if_eq (tgt := 20) hx hb d_PT_share_7 (by decide) (fun hc => ?_) (fun hc => ?_)
  · replace hv := hv.1 hc
    exact gx_throw (X := xIA) (own := "PilotTugs") hlt hx hb hlocks hown hex (hl.1.trans hml.symm) hXT hst tx_IA tx_IAl tx_IAi tx_s184 (by decide) hK hP hD hS (by decide) d_PT_share_20 d_PT_share_23 d_PT_share_24 d_PT_share_26 d_PT_share_29 hv
  · replace hv := hv.2 hc
    refine lv_iload_n hx hb d_PT_share_10 rfl (lv_at hl 2 rfl) ?_
    refine lv_iconst (v := 0) hx hb d_PT_share_11 (by decide) ?_
    refine lv_ldc (v := 1000000) hx hb hown (hts _ t_w245) d_PT_share_12 ?_
    obtain ⟨hg, hv⟩ := hv
    refine gk_callSi (As := [.int a2, .int 0, .int 1000000]) (rest := []) ⟨hx, hb, hml, hown, hts⟩ (h_PT_isWithin _ s4 t4 a2 0 1000000 hg) (gk_cwS 3 hts t_w6 rfl rfl rfl (hts _ t_w3) (hts _ t_w4) (hts _ t_w5) (by decide +kernel) ⟨Nat.le_of_ble_eq_true rfl, Nat.le_of_ble_eq_true rfl⟩) hK hP hD hS rfl hl.1 rfl (lv_room (Nat.le_of_ble_eq_true rfl)) d_PT_share_14 ⟨Nat.zero_le _, Nat.zero_le _⟩ ?_
    intro r14 s14 t14 H locs hw hP hD hS
    replace hv := hv r14 s14 t14 hw
    refine lv_if_ne (tgt := 30) hx hb d_PT_share_17 (by decide) (fun hc => ?_) (fun hc => ?_)
    · replace hv := hv.1 hc
      refine lv_iload_n hx hb d_PT_share_30 rfl (lv_at hl 2 rfl) ?_
      refine lv_if_ne (tgt := 44) hx hb d_PT_share_31 (by decide) (fun hc => ?_) (fun hc => ?_)
      · replace hv := hv.1 hc
        refine lv_bipush (v := 100) hx hb d_PT_share_44 (by decide) ?_
        refine lv_iload_n hx hb d_PT_share_46 rfl (lv_at hl 1 rfl) ?_
        refine lv_imul hx hb d_PT_share_47 ?_
        refine lv_iload_n hx hb d_PT_share_48 rfl (lv_at hl 2 rfl) ?_
        obtain ⟨hne, hv⟩ := hv
        refine lv_idiv hx hb d_PT_share_49 hne ?_
        exact gx_iret hx hb hr hlocks hK hP hD hS hv d_PT_share_50
      · replace hv := hv.2 hc
        exact gx_throw (X := xAR) (own := "PilotTugs") hlt hx hb hlocks hown hex (hl.1.trans hml.symm) hXT hst tx_AR tx_ARl tx_ARi tx_s188 (by decide) hK hP hD hS (by decide) d_PT_share_34 d_PT_share_37 d_PT_share_38 d_PT_share_40 d_PT_share_43 hv
    · replace hv := hv.2 hc
      exact gx_throw (X := xIA) (own := "PilotTugs") hlt hx hb hlocks hown hex (hl.1.trans hml.symm) hXT hst tx_IA tx_IAl tx_IAi tx_s184 (by decide) hK hP hD hS (by decide) d_PT_share_20 d_PT_share_23 d_PT_share_24 d_PT_share_26 d_PT_share_29 hv
