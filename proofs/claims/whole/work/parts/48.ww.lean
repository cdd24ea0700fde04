abbrev b_Law_person : ByteArray := method_3_code
def y_Law_person : MethodName := ⟨R_Law, "person", "(LPilotTugs;IIII[J)I"⟩
abbrev b_Law_tug : ByteArray := method_4_code
def y_Law_tug : MethodName := ⟨R_Law, "tug", "(LPilotTugs;I[J)I"⟩
abbrev b_Law_job : ByteArray := method_5_code
def y_Law_job : MethodName := ⟨R_Law, "job", "(LPilotTugs;IIIII[J)I"⟩
abbrev b_Law_of : ByteArray := method_6_code
def y_Law_of : MethodName := ⟨R_Law, "of", "(LPilotTugs;II[J)I"⟩
abbrev b_Law_late : ByteArray := method_7_code
def y_Law_late : MethodName := ⟨R_Law, "late", "(LPilotTugs;II[J)I"⟩
abbrev b_Law_day : ByteArray := method_8_code
def y_Law_day : MethodName := ⟨R_Law, "day", "(LPilotTugs;II[J)I"⟩
abbrev b_Law_waits : ByteArray := method_9_code
def y_Law_waits : MethodName := ⟨R_Law, "waits", "(LPilotTugs;I[J)I"⟩
abbrev b_Law_share : ByteArray := method_10_code
def y_Law_share : MethodName := ⟨R_Law, "share", "(LPilotTugs;II[J)I"⟩
def TW : List Cond := [Cond.methodLink R_Law 7 y_PT_person,
  Cond.instanceMethod y_PT_person,
  Cond.selects R_PT y_PT_person y_PT_person,
  Cond.code y_PT_person b_PT_person 5 (some .int),
  Cond.methodLink R_Law 17 y_PT_tug,
  Cond.instanceMethod y_PT_tug,
  Cond.selects R_PT y_PT_tug y_PT_tug,
  Cond.code y_PT_tug b_PT_tug 2 (some .int),
  Cond.methodLink R_Law 21 y_PT_job,
  Cond.instanceMethod y_PT_job,
  Cond.selects R_PT y_PT_job y_PT_job,
  Cond.code y_PT_job b_PT_job 6 (some .int),
  Cond.methodLink R_Law 25 y_PT_of,
  Cond.instanceMethod y_PT_of,
  Cond.selects R_PT y_PT_of y_PT_of,
  Cond.code y_PT_of b_PT_of 3 (some .int),
  Cond.methodLink R_Law 31 y_PT_late,
  Cond.instanceMethod y_PT_late,
  Cond.selects R_PT y_PT_late y_PT_late,
  Cond.code y_PT_late b_PT_late 3 (some .int),
  Cond.methodLink R_Law 34 y_PT_day,
  Cond.instanceMethod y_PT_day,
  Cond.selects R_PT y_PT_day y_PT_day,
  Cond.code y_PT_day b_PT_day 6 (some .int),
  Cond.methodLink R_Law 37 y_PT_waits,
  Cond.instanceMethod y_PT_waits,
  Cond.selects R_PT y_PT_waits y_PT_waits,
  Cond.code y_PT_waits b_PT_waits 6 (some .int),
  Cond.methodLink R_Law 40 y_PT_share,
  Cond.instanceMethod y_PT_share,
  Cond.selects R_PT y_PT_share y_PT_share,
  Cond.code y_PT_share b_PT_share 3 (some .int)]
theorem TW_all : TW.all goodWord = true := by decide +kernel
def TWB : List Cond := TW ++ TB
theorem TWB_good : ∀ w ∈ TWB, (w.onTables && w.keeps) = true ∨ ∃ ty, w = .arrayClass ty := fun w h => (List.mem_append.mp h).elim (fun h => good_of_word (List.all_eq_true.mp TW_all w h)) (fun h => TB_good w h)
theorem gw_good {ws : List Cond} {w0 : Cond} (hc : w0 ∈ TW) (hw : ws = w0 :: TB) : GoodIn TWB ws := by
  intro w h
  rw [hw] at h
  rcases List.mem_cons.mp h with rfl | h
  · exact ⟨List.mem_append_left _ hc, TWB_good _ (List.mem_append_left _ hc)⟩
  · exact ⟨List.mem_append_right _ h, TB_good _ h⟩
theorem tw_0 : Cond.methodLink R_Law 7 y_PT_person ∈ TW := List.mem_of_getElem? (i := 0) rfl
theorem tw_1 : Cond.instanceMethod y_PT_person ∈ TW := List.mem_of_getElem? (i := 1) rfl
theorem tw_2 : Cond.selects R_PT y_PT_person y_PT_person ∈ TW := List.mem_of_getElem? (i := 2) rfl
theorem tw_3 : Cond.code y_PT_person b_PT_person 5 (some .int) ∈ TW := List.mem_of_getElem? (i := 3) rfl
theorem tw_4 : Cond.methodLink R_Law 17 y_PT_tug ∈ TW := List.mem_of_getElem? (i := 4) rfl
theorem tw_5 : Cond.instanceMethod y_PT_tug ∈ TW := List.mem_of_getElem? (i := 5) rfl
theorem tw_6 : Cond.selects R_PT y_PT_tug y_PT_tug ∈ TW := List.mem_of_getElem? (i := 6) rfl
theorem tw_7 : Cond.code y_PT_tug b_PT_tug 2 (some .int) ∈ TW := List.mem_of_getElem? (i := 7) rfl
theorem tw_8 : Cond.methodLink R_Law 21 y_PT_job ∈ TW := List.mem_of_getElem? (i := 8) rfl
theorem tw_9 : Cond.instanceMethod y_PT_job ∈ TW := List.mem_of_getElem? (i := 9) rfl
theorem tw_10 : Cond.selects R_PT y_PT_job y_PT_job ∈ TW := List.mem_of_getElem? (i := 10) rfl
theorem tw_11 : Cond.code y_PT_job b_PT_job 6 (some .int) ∈ TW := List.mem_of_getElem? (i := 11) rfl
theorem tw_12 : Cond.methodLink R_Law 25 y_PT_of ∈ TW := List.mem_of_getElem? (i := 12) rfl
theorem tw_13 : Cond.instanceMethod y_PT_of ∈ TW := List.mem_of_getElem? (i := 13) rfl
theorem tw_14 : Cond.selects R_PT y_PT_of y_PT_of ∈ TW := List.mem_of_getElem? (i := 14) rfl
theorem tw_15 : Cond.code y_PT_of b_PT_of 3 (some .int) ∈ TW := List.mem_of_getElem? (i := 15) rfl
theorem tw_16 : Cond.methodLink R_Law 31 y_PT_late ∈ TW := List.mem_of_getElem? (i := 16) rfl
theorem tw_17 : Cond.instanceMethod y_PT_late ∈ TW := List.mem_of_getElem? (i := 17) rfl
theorem tw_18 : Cond.selects R_PT y_PT_late y_PT_late ∈ TW := List.mem_of_getElem? (i := 18) rfl
theorem tw_19 : Cond.code y_PT_late b_PT_late 3 (some .int) ∈ TW := List.mem_of_getElem? (i := 19) rfl
theorem tw_20 : Cond.methodLink R_Law 34 y_PT_day ∈ TW := List.mem_of_getElem? (i := 20) rfl
theorem tw_21 : Cond.instanceMethod y_PT_day ∈ TW := List.mem_of_getElem? (i := 21) rfl
theorem tw_22 : Cond.selects R_PT y_PT_day y_PT_day ∈ TW := List.mem_of_getElem? (i := 22) rfl
theorem tw_23 : Cond.code y_PT_day b_PT_day 6 (some .int) ∈ TW := List.mem_of_getElem? (i := 23) rfl
theorem tw_24 : Cond.methodLink R_Law 37 y_PT_waits ∈ TW := List.mem_of_getElem? (i := 24) rfl
theorem tw_25 : Cond.instanceMethod y_PT_waits ∈ TW := List.mem_of_getElem? (i := 25) rfl
theorem tw_26 : Cond.selects R_PT y_PT_waits y_PT_waits ∈ TW := List.mem_of_getElem? (i := 26) rfl
theorem tw_27 : Cond.code y_PT_waits b_PT_waits 6 (some .int) ∈ TW := List.mem_of_getElem? (i := 27) rfl
theorem tw_28 : Cond.methodLink R_Law 40 y_PT_share ∈ TW := List.mem_of_getElem? (i := 28) rfl
theorem tw_29 : Cond.instanceMethod y_PT_share ∈ TW := List.mem_of_getElem? (i := 29) rfl
theorem tw_30 : Cond.selects R_PT y_PT_share y_PT_share ∈ TW := List.mem_of_getElem? (i := 30) rfl
theorem tw_31 : Cond.code y_PT_share b_PT_share 3 (some .int) ∈ TW := List.mem_of_getElem? (i := 31) rfl
theorem d_Law_person_0 : decode b_Law_person 0 = .ok (.aload 5, 2) := by decide +kernel
theorem d_Law_person_2 : decode b_Law_person 2 = .ok (.iconst 0, 1) := by decide +kernel
theorem d_Law_person_3 : decode b_Law_person 3 = .ok (.aload_n 0, 1) := by decide +kernel
theorem d_Law_person_4 : decode b_Law_person 4 = .ok (.iload_n 1, 1) := by decide +kernel
theorem d_Law_person_5 : decode b_Law_person 5 = .ok (.iload_n 2, 1) := by decide +kernel
theorem d_Law_person_6 : decode b_Law_person 6 = .ok (.iload_n 3, 1) := by decide +kernel
theorem d_Law_person_7 : decode b_Law_person 7 = .ok (.iload 4, 2) := by decide +kernel
theorem d_Law_person_9 : decode b_Law_person 9 = .ok (.invokevirtual 7, 3) := by decide +kernel
theorem d_Law_person_12 : decode b_Law_person 12 = .ok (.i2l, 1) := by decide +kernel
theorem d_Law_person_13 : decode b_Law_person 13 = .ok (.lastore, 1) := by decide +kernel
theorem d_Law_person_14 : decode b_Law_person 14 = .ok (.goto 11, 3) := by decide +kernel
theorem d_Law_person_17 : decode b_Law_person 17 = .ok (.astore 6, 2) := by decide +kernel
theorem d_Law_person_19 : decode b_Law_person 19 = .ok (.iconst 1, 1) := by decide +kernel
theorem d_Law_person_20 : decode b_Law_person 20 = .ok (.ireturn, 1) := by decide +kernel
theorem d_Law_person_21 : decode b_Law_person 21 = .ok (.astore 6, 2) := by decide +kernel
theorem d_Law_person_23 : decode b_Law_person 23 = .ok (.iconst 2, 1) := by decide +kernel
theorem d_Law_person_24 : decode b_Law_person 24 = .ok (.ireturn, 1) := by decide +kernel
theorem d_Law_person_25 : decode b_Law_person 25 = .ok (.iconst 0, 1) := by decide +kernel
theorem d_Law_person_26 : decode b_Law_person 26 = .ok (.ireturn, 1) := by decide +kernel
abbrev w_Law_person : List Cond := Cond.codeWith y_Law_person b_Law_person 7 (some .int) [(0, 14, 17, 13), (0, 14, 21, 15)] :: TWB
def rm_Law_person : Room := { frames := 7, cells := 1, slots := 6, locals := 106 }
def Q_Law_person (σ : MI) (τ : ML) (a1 : Int32) (a2 : Int32) (a3 : Int32) (a4 : Int32) (r : Int32) (σ' : MI) (τ' : ML) : Prop := (r = 0 ∧ ∃ (v : Int32) (τ1 : ML), Q_PT_person σ τ a1 a2 a3 a4 v σ' τ1 ∧ τ' = sl2 τ1 28 0 v.toInt64) ∨ (Z_PT_person σ τ a1 a2 a3 a4 nIA σ' τ' ∧ r = 1) ∨ (Z_PT_person σ τ a1 a2 a3 a4 nIS σ' τ' ∧ r = 2)
theorem z_Law_person {σ : MI} {τ : ML} {a1 : Int32} {a2 : Int32} {a3 : Int32} {a4 : Int32} {nm : String} {σ' : MI} {τ' : ML} (h : Z_PT_person σ τ a1 a2 a3 a4 nm σ' τ') : nm = nIA ∨ nm = nIS := by
  obtain ⟨-, -, h⟩ := h
  rcases h with ⟨-, rfl⟩ | ⟨-, -, rfl⟩
  · exact Or.inl rfl
  · exact Or.inr rfl
set_option maxHeartbeats 4000000 in
set_option maxRecDepth 100000 in
theorem c_Law_person (l : Launch) (hlt : l.flags = flags0) (D : va_G) (ad : Nat → Nat) (ci cl : ClassId) : ∀ (sz : Nat) (σ0 : MI) (τ0 : ML) (a1 : Int32) (a2 : Int32) (a3 : Int32) (a4 : Int32), P_PT_person σ0 τ0 a1 a2 a3 a4 → gMw l D (xw ad ci cl) (xt ci cl) (xa ad) y_Law_person w_Law_person rm_Law_person [.ref (ad 0), .int a1, .int a2, .int a3, .int a4, .ref (ad 28)] sz σ0 τ0 (Q_Law_person σ0 τ0 a1 a2 a3 a4) := by
  intro sz σ0 τ0 a1 a2 a3 a4 hpre
  refine gw_ofW (cc := b_Law_person) (maxL := 7) (ret := (some .int)) (by decide) rfl xa_ok (Nat.le_of_ble_eq_true rfl) ?_
  intro p e s m below meth c ls hx hb hr hlocks hml hown hts hK hP hD hS hl htab hXT hst
  have hl : lv_has ls 7 [(0, .ref (ad 0)), (1, .int a1), (2, .int a2), (3, .int a3), (4, .int a4), (5, .ref (ad 28))] := hl
  have hown : s.vm.findClass R_Law = some m.cls := hown
  have htB : ∀ w ∈ TB, w.before [.ref (ad 0), .int a1, .int a2, .int a3, .int a4, .ref (ad 28)].toArray s = true := fun w h => hts w (List.mem_append_right _ h)
  have htW : ∀ w ∈ TW, w.before [.ref (ad 0), .int a1, .int a2, .int a3, .int a4, .ref (ad 28)].toArray s = true := fun w h => hts w (List.mem_append_left _ h)
  refine lv_aload hx hb d_Law_person_0 (lv_at hl 5 rfl) ?_
  refine lv_iconst (v := 0) hx hb d_Law_person_2 (by decide) ?_
  refine lv_aload_n hx hb d_Law_person_3 rfl (lv_at hl 0 rfl) ?_
  refine lv_iload_n hx hb d_Law_person_4 rfl (lv_at hl 1 rfl) ?_
  refine lv_iload_n hx hb d_Law_person_5 rfl (lv_at hl 2 rfl) ?_
  refine lv_iload_n hx hb d_Law_person_6 rfl (lv_at hl 3 rfl) ?_
  refine lv_iload hx hb d_Law_person_7 (lv_at hl 4 rfl) ?_
  refine gx_callV (As := [.int a1, .int a2, .int a3, .int a4]) (rest := [.int 0, .ref (ad 28)]) (b := ad 0) ⟨hx, hb, hml, hown, htB⟩ (c_PT_person l hlt D ad ci cl _ σ0 τ0 a1 a2 a3 a4 hpre) ⟨callB_of 4 hts (gw_good tw_3 rfl) rfl rfl rfl (htB _ t_w5) (htW _ tw_0) (by decide +kernel) ⟨Nat.le_of_ble_eq_true rfl, Nat.le_of_ble_eq_true rfl⟩, htW _ tw_1, htW _ tw_2⟩ hK hP hD hS hXT hst (va_recv hK hP (ci := 6) (q0 := 0) rfl rfl) rfl hl.1 rfl (lv_room (Nat.le_of_ble_eq_true rfl)) d_Law_person_9 ⟨by decide, by decide⟩ (fun r σ1 τ1 H locs hq hP hD hS => ?_) (fun a nm σ1 τ1 H locs hz hce hP hD hS => ?_)
  · refine lv_i2l hx hb d_Law_person_12 rfl ?_
    refine va_last hx hb hK hP hD hS 28 1 rfl rfl (z_in.mpr (by decide)) d_Law_person_13 (fun H locs hP hD hS => ?_)
    rw [xa_28] at hP hD
    refine lv_goto (tgt := 25) hx hb d_Law_person_14 (by decide) ?_
    refine lv_iconst (v := 0) hx hb d_Law_person_25 (by decide) ?_
    exact gw_iret hx hb hr hlocks hK hP hD hS (Or.inl ⟨rfl, r, τ1, hq, rfl⟩) d_Law_person_26
  · rcases z_Law_person hz with rfl | rfl
    · refine gx_catch (own := R_Law) (nm := xIA) (hpc := 17) hown htab ⟨by decide, by decide, xIA, XT.here hXT (tx_nc 21 rfl), Or.inl ⟨XT.here hXT tx_cIA, rfl⟩⟩ hce ?_
      refine lv_astore (lv' := [(6, .ref a), (0, .ref (ad 0)), (1, .int a1), (2, .int a2), (3, .int a3), (4, .int a4), (5, .ref (ad 28))]) hx hb d_Law_person_17 hl (by decide) rfl (fun ls hl => ?_)
      refine lv_iconst (v := 1) hx hb d_Law_person_19 (by decide) ?_
      exact gw_iret hx hb hr hlocks hK hP hD hS (Or.inr (Or.inl ⟨hz, rfl⟩)) d_Law_person_20
    · refine gx_catch (own := R_Law) (nm := xIS) (hpc := 21) hown htab ⟨by decide, by decide, xIA, XT.here hXT (tx_nc 21 rfl), Or.inr ⟨XT.here hXT (tx_nc 25 rfl), ⟨by decide, by decide, xIS, XT.here hXT (tx_nc 22 rfl), Or.inl ⟨XT.here hXT tx_cIS, rfl⟩⟩⟩⟩ hce ?_
      refine lv_astore (lv' := [(6, .ref a), (0, .ref (ad 0)), (1, .int a1), (2, .int a2), (3, .int a3), (4, .int a4), (5, .ref (ad 28))]) hx hb d_Law_person_21 hl (by decide) rfl (fun ls hl => ?_)
      refine lv_iconst (v := 2) hx hb d_Law_person_23 (by decide) ?_
      exact gw_iret hx hb hr hlocks hK hP hD hS (Or.inr (Or.inr (⟨hz, rfl⟩))) d_Law_person_24
theorem d_Law_tug_0 : decode b_Law_tug 0 = .ok (.aload_n 2, 1) := by decide +kernel
theorem d_Law_tug_1 : decode b_Law_tug 1 = .ok (.iconst 0, 1) := by decide +kernel
theorem d_Law_tug_2 : decode b_Law_tug 2 = .ok (.aload_n 0, 1) := by decide +kernel
theorem d_Law_tug_3 : decode b_Law_tug 3 = .ok (.iload_n 1, 1) := by decide +kernel
theorem d_Law_tug_4 : decode b_Law_tug 4 = .ok (.invokevirtual 17, 3) := by decide +kernel
theorem d_Law_tug_7 : decode b_Law_tug 7 = .ok (.i2l, 1) := by decide +kernel
theorem d_Law_tug_8 : decode b_Law_tug 8 = .ok (.lastore, 1) := by decide +kernel
theorem d_Law_tug_9 : decode b_Law_tug 9 = .ok (.goto 9, 3) := by decide +kernel
theorem d_Law_tug_12 : decode b_Law_tug 12 = .ok (.astore_n 3, 1) := by decide +kernel
theorem d_Law_tug_13 : decode b_Law_tug 13 = .ok (.iconst 1, 1) := by decide +kernel
theorem d_Law_tug_14 : decode b_Law_tug 14 = .ok (.ireturn, 1) := by decide +kernel
theorem d_Law_tug_15 : decode b_Law_tug 15 = .ok (.astore_n 3, 1) := by decide +kernel
theorem d_Law_tug_16 : decode b_Law_tug 16 = .ok (.iconst 2, 1) := by decide +kernel
theorem d_Law_tug_17 : decode b_Law_tug 17 = .ok (.ireturn, 1) := by decide +kernel
theorem d_Law_tug_18 : decode b_Law_tug 18 = .ok (.iconst 0, 1) := by decide +kernel
theorem d_Law_tug_19 : decode b_Law_tug 19 = .ok (.ireturn, 1) := by decide +kernel
abbrev w_Law_tug : List Cond := Cond.codeWith y_Law_tug b_Law_tug 4 (some .int) [(0, 9, 12, 13), (0, 9, 15, 15)] :: TWB
def rm_Law_tug : Room := { frames := 7, cells := 1, slots := 6, locals := 103 }
def Q_Law_tug (σ : MI) (τ : ML) (a1 : Int32) (r : Int32) (σ' : MI) (τ' : ML) : Prop := (r = 0 ∧ ∃ (v : Int32) (τ1 : ML), Q_PT_tug σ τ a1 v σ' τ1 ∧ τ' = sl2 τ1 28 0 v.toInt64) ∨ (Z_PT_tug σ τ a1 nIA σ' τ' ∧ r = 1) ∨ (Z_PT_tug σ τ a1 nIS σ' τ' ∧ r = 2)
theorem z_Law_tug {σ : MI} {τ : ML} {a1 : Int32} {nm : String} {σ' : MI} {τ' : ML} (h : Z_PT_tug σ τ a1 nm σ' τ') : nm = nIA ∨ nm = nIS := by
  obtain ⟨-, -, h⟩ := h
  rcases h with ⟨-, rfl⟩ | ⟨-, -, rfl⟩
  · exact Or.inl rfl
  · exact Or.inr rfl
set_option maxHeartbeats 4000000 in
set_option maxRecDepth 100000 in
theorem c_Law_tug (l : Launch) (hlt : l.flags = flags0) (D : va_G) (ad : Nat → Nat) (ci cl : ClassId) : ∀ (sz : Nat) (σ0 : MI) (τ0 : ML) (a1 : Int32), P_PT_tug σ0 τ0 a1 → gMw l D (xw ad ci cl) (xt ci cl) (xa ad) y_Law_tug w_Law_tug rm_Law_tug [.ref (ad 0), .int a1, .ref (ad 28)] sz σ0 τ0 (Q_Law_tug σ0 τ0 a1) := by
  intro sz σ0 τ0 a1 hpre
  refine gw_ofW (cc := b_Law_tug) (maxL := 4) (ret := (some .int)) (by decide) rfl xa_ok (Nat.le_of_ble_eq_true rfl) ?_
  intro p e s m below meth c ls hx hb hr hlocks hml hown hts hK hP hD hS hl htab hXT hst
  have hl : lv_has ls 4 [(0, .ref (ad 0)), (1, .int a1), (2, .ref (ad 28))] := hl
  have hown : s.vm.findClass R_Law = some m.cls := hown
  have htB : ∀ w ∈ TB, w.before [.ref (ad 0), .int a1, .ref (ad 28)].toArray s = true := fun w h => hts w (List.mem_append_right _ h)
  have htW : ∀ w ∈ TW, w.before [.ref (ad 0), .int a1, .ref (ad 28)].toArray s = true := fun w h => hts w (List.mem_append_left _ h)
  refine lv_aload_n hx hb d_Law_tug_0 rfl (lv_at hl 2 rfl) ?_
  refine lv_iconst (v := 0) hx hb d_Law_tug_1 (by decide) ?_
  refine lv_aload_n hx hb d_Law_tug_2 rfl (lv_at hl 0 rfl) ?_
  refine lv_iload_n hx hb d_Law_tug_3 rfl (lv_at hl 1 rfl) ?_
  refine gx_callV (As := [.int a1]) (rest := [.int 0, .ref (ad 28)]) (b := ad 0) ⟨hx, hb, hml, hown, htB⟩ (c_PT_tug l hlt D ad ci cl _ σ0 τ0 a1 hpre) ⟨callB_of 1 hts (gw_good tw_7 rfl) rfl rfl rfl (htB _ t_w5) (htW _ tw_4) (by decide +kernel) ⟨Nat.le_of_ble_eq_true rfl, Nat.le_of_ble_eq_true rfl⟩, htW _ tw_5, htW _ tw_6⟩ hK hP hD hS hXT hst (va_recv hK hP (ci := 6) (q0 := 0) rfl rfl) rfl hl.1 rfl (lv_room (Nat.le_of_ble_eq_true rfl)) d_Law_tug_4 ⟨by decide, by decide⟩ (fun r σ1 τ1 H locs hq hP hD hS => ?_) (fun a nm σ1 τ1 H locs hz hce hP hD hS => ?_)
  · refine lv_i2l hx hb d_Law_tug_7 rfl ?_
    refine va_last hx hb hK hP hD hS 28 1 rfl rfl (z_in.mpr (by decide)) d_Law_tug_8 (fun H locs hP hD hS => ?_)
    rw [xa_28] at hP hD
    refine lv_goto (tgt := 18) hx hb d_Law_tug_9 (by decide) ?_
    refine lv_iconst (v := 0) hx hb d_Law_tug_18 (by decide) ?_
    exact gw_iret hx hb hr hlocks hK hP hD hS (Or.inl ⟨rfl, r, τ1, hq, rfl⟩) d_Law_tug_19
  · rcases z_Law_tug hz with rfl | rfl
    · refine gx_catch (own := R_Law) (nm := xIA) (hpc := 12) hown htab ⟨by decide, by decide, xIA, XT.here hXT (tx_nc 21 rfl), Or.inl ⟨XT.here hXT tx_cIA, rfl⟩⟩ hce ?_
      refine lv_astore_n (lv' := [(3, .ref a), (0, .ref (ad 0)), (1, .int a1), (2, .ref (ad 28))]) hx hb d_Law_tug_12 rfl hl (by decide) rfl (fun ls hl => ?_)
      refine lv_iconst (v := 1) hx hb d_Law_tug_13 (by decide) ?_
      exact gw_iret hx hb hr hlocks hK hP hD hS (Or.inr (Or.inl ⟨hz, rfl⟩)) d_Law_tug_14
    · refine gx_catch (own := R_Law) (nm := xIS) (hpc := 15) hown htab ⟨by decide, by decide, xIA, XT.here hXT (tx_nc 21 rfl), Or.inr ⟨XT.here hXT (tx_nc 25 rfl), ⟨by decide, by decide, xIS, XT.here hXT (tx_nc 22 rfl), Or.inl ⟨XT.here hXT tx_cIS, rfl⟩⟩⟩⟩ hce ?_
      refine lv_astore_n (lv' := [(3, .ref a), (0, .ref (ad 0)), (1, .int a1), (2, .ref (ad 28))]) hx hb d_Law_tug_15 rfl hl (by decide) rfl (fun ls hl => ?_)
      refine lv_iconst (v := 2) hx hb d_Law_tug_16 (by decide) ?_
      exact gw_iret hx hb hr hlocks hK hP hD hS (Or.inr (Or.inr (⟨hz, rfl⟩))) d_Law_tug_17
theorem d_Law_job_0 : decode b_Law_job 0 = .ok (.aload 6, 2) := by decide +kernel
theorem d_Law_job_2 : decode b_Law_job 2 = .ok (.iconst 0, 1) := by decide +kernel
theorem d_Law_job_3 : decode b_Law_job 3 = .ok (.aload_n 0, 1) := by decide +kernel
theorem d_Law_job_4 : decode b_Law_job 4 = .ok (.iload_n 1, 1) := by decide +kernel
theorem d_Law_job_5 : decode b_Law_job 5 = .ok (.iload_n 2, 1) := by decide +kernel
theorem d_Law_job_6 : decode b_Law_job 6 = .ok (.iload_n 3, 1) := by decide +kernel
theorem d_Law_job_7 : decode b_Law_job 7 = .ok (.iload 4, 2) := by decide +kernel
theorem d_Law_job_9 : decode b_Law_job 9 = .ok (.iload 5, 2) := by decide +kernel
theorem d_Law_job_11 : decode b_Law_job 11 = .ok (.invokevirtual 21, 3) := by decide +kernel
theorem d_Law_job_14 : decode b_Law_job 14 = .ok (.i2l, 1) := by decide +kernel
theorem d_Law_job_15 : decode b_Law_job 15 = .ok (.lastore, 1) := by decide +kernel
theorem d_Law_job_16 : decode b_Law_job 16 = .ok (.goto 11, 3) := by decide +kernel
theorem d_Law_job_19 : decode b_Law_job 19 = .ok (.astore 7, 2) := by decide +kernel
theorem d_Law_job_21 : decode b_Law_job 21 = .ok (.iconst 1, 1) := by decide +kernel
theorem d_Law_job_22 : decode b_Law_job 22 = .ok (.ireturn, 1) := by decide +kernel
theorem d_Law_job_23 : decode b_Law_job 23 = .ok (.astore 7, 2) := by decide +kernel
theorem d_Law_job_25 : decode b_Law_job 25 = .ok (.iconst 2, 1) := by decide +kernel
theorem d_Law_job_26 : decode b_Law_job 26 = .ok (.ireturn, 1) := by decide +kernel
theorem d_Law_job_27 : decode b_Law_job 27 = .ok (.iconst 0, 1) := by decide +kernel
theorem d_Law_job_28 : decode b_Law_job 28 = .ok (.ireturn, 1) := by decide +kernel
abbrev w_Law_job : List Cond := Cond.codeWith y_Law_job b_Law_job 8 (some .int) [(0, 16, 19, 13), (0, 16, 23, 15)] :: TWB
def rm_Law_job : Room := { frames := 7, cells := 1, slots := 6, locals := 107 }
def Q_Law_job (σ : MI) (τ : ML) (a1 : Int32) (a2 : Int32) (a3 : Int32) (a4 : Int32) (a5 : Int32) (r : Int32) (σ' : MI) (τ' : ML) : Prop := (r = 0 ∧ ∃ (v : Int32) (τ1 : ML), Q_PT_job σ τ a1 a2 a3 a4 a5 v σ' τ1 ∧ τ' = sl2 τ1 28 0 v.toInt64) ∨ (Z_PT_job σ τ a1 a2 a3 a4 a5 nIA σ' τ' ∧ r = 1) ∨ (Z_PT_job σ τ a1 a2 a3 a4 a5 nIS σ' τ' ∧ r = 2)
theorem z_Law_job {σ : MI} {τ : ML} {a1 : Int32} {a2 : Int32} {a3 : Int32} {a4 : Int32} {a5 : Int32} {nm : String} {σ' : MI} {τ' : ML} (h : Z_PT_job σ τ a1 a2 a3 a4 a5 nm σ' τ') : nm = nIA ∨ nm = nIS := by
  obtain ⟨-, -, h⟩ := h
  rcases h with ⟨-, rfl⟩ | ⟨-, -, rfl⟩
  · exact Or.inl rfl
  · exact Or.inr rfl
set_option maxHeartbeats 4000000 in
set_option maxRecDepth 100000 in
theorem c_Law_job (l : Launch) (hlt : l.flags = flags0) (D : va_G) (ad : Nat → Nat) (ci cl : ClassId) : ∀ (sz : Nat) (σ0 : MI) (τ0 : ML) (a1 : Int32) (a2 : Int32) (a3 : Int32) (a4 : Int32) (a5 : Int32), P_PT_job σ0 τ0 a1 a2 a3 a4 a5 → gMw l D (xw ad ci cl) (xt ci cl) (xa ad) y_Law_job w_Law_job rm_Law_job [.ref (ad 0), .int a1, .int a2, .int a3, .int a4, .int a5, .ref (ad 28)] sz σ0 τ0 (Q_Law_job σ0 τ0 a1 a2 a3 a4 a5) := by
  intro sz σ0 τ0 a1 a2 a3 a4 a5 hpre
  refine gw_ofW (cc := b_Law_job) (maxL := 8) (ret := (some .int)) (by decide) rfl xa_ok (Nat.le_of_ble_eq_true rfl) ?_
  intro p e s m below meth c ls hx hb hr hlocks hml hown hts hK hP hD hS hl htab hXT hst
  have hl : lv_has ls 8 [(0, .ref (ad 0)), (1, .int a1), (2, .int a2), (3, .int a3), (4, .int a4), (5, .int a5), (6, .ref (ad 28))] := hl
  have hown : s.vm.findClass R_Law = some m.cls := hown
  have htB : ∀ w ∈ TB, w.before [.ref (ad 0), .int a1, .int a2, .int a3, .int a4, .int a5, .ref (ad 28)].toArray s = true := fun w h => hts w (List.mem_append_right _ h)
  have htW : ∀ w ∈ TW, w.before [.ref (ad 0), .int a1, .int a2, .int a3, .int a4, .int a5, .ref (ad 28)].toArray s = true := fun w h => hts w (List.mem_append_left _ h)
  refine lv_aload hx hb d_Law_job_0 (lv_at hl 6 rfl) ?_
  refine lv_iconst (v := 0) hx hb d_Law_job_2 (by decide) ?_
  refine lv_aload_n hx hb d_Law_job_3 rfl (lv_at hl 0 rfl) ?_
  refine lv_iload_n hx hb d_Law_job_4 rfl (lv_at hl 1 rfl) ?_
  refine lv_iload_n hx hb d_Law_job_5 rfl (lv_at hl 2 rfl) ?_
  refine lv_iload_n hx hb d_Law_job_6 rfl (lv_at hl 3 rfl) ?_
  refine lv_iload hx hb d_Law_job_7 (lv_at hl 4 rfl) ?_
  refine lv_iload hx hb d_Law_job_9 (lv_at hl 5 rfl) ?_
  refine gx_callV (As := [.int a1, .int a2, .int a3, .int a4, .int a5]) (rest := [.int 0, .ref (ad 28)]) (b := ad 0) ⟨hx, hb, hml, hown, htB⟩ (c_PT_job l hlt D ad ci cl _ σ0 τ0 a1 a2 a3 a4 a5 hpre) ⟨callB_of 5 hts (gw_good tw_11 rfl) rfl rfl rfl (htB _ t_w5) (htW _ tw_8) (by decide +kernel) ⟨Nat.le_of_ble_eq_true rfl, Nat.le_of_ble_eq_true rfl⟩, htW _ tw_9, htW _ tw_10⟩ hK hP hD hS hXT hst (va_recv hK hP (ci := 6) (q0 := 0) rfl rfl) rfl hl.1 rfl (lv_room (Nat.le_of_ble_eq_true rfl)) d_Law_job_11 ⟨by decide, by decide⟩ (fun r σ1 τ1 H locs hq hP hD hS => ?_) (fun a nm σ1 τ1 H locs hz hce hP hD hS => ?_)
  · refine lv_i2l hx hb d_Law_job_14 rfl ?_
    refine va_last hx hb hK hP hD hS 28 1 rfl rfl (z_in.mpr (by decide)) d_Law_job_15 (fun H locs hP hD hS => ?_)
    rw [xa_28] at hP hD
    refine lv_goto (tgt := 27) hx hb d_Law_job_16 (by decide) ?_
    refine lv_iconst (v := 0) hx hb d_Law_job_27 (by decide) ?_
    exact gw_iret hx hb hr hlocks hK hP hD hS (Or.inl ⟨rfl, r, τ1, hq, rfl⟩) d_Law_job_28
  · rcases z_Law_job hz with rfl | rfl
    · refine gx_catch (own := R_Law) (nm := xIA) (hpc := 19) hown htab ⟨by decide, by decide, xIA, XT.here hXT (tx_nc 21 rfl), Or.inl ⟨XT.here hXT tx_cIA, rfl⟩⟩ hce ?_
      refine lv_astore (lv' := [(7, .ref a), (0, .ref (ad 0)), (1, .int a1), (2, .int a2), (3, .int a3), (4, .int a4), (5, .int a5), (6, .ref (ad 28))]) hx hb d_Law_job_19 hl (by decide) rfl (fun ls hl => ?_)
      refine lv_iconst (v := 1) hx hb d_Law_job_21 (by decide) ?_
      exact gw_iret hx hb hr hlocks hK hP hD hS (Or.inr (Or.inl ⟨hz, rfl⟩)) d_Law_job_22
    · refine gx_catch (own := R_Law) (nm := xIS) (hpc := 23) hown htab ⟨by decide, by decide, xIA, XT.here hXT (tx_nc 21 rfl), Or.inr ⟨XT.here hXT (tx_nc 25 rfl), ⟨by decide, by decide, xIS, XT.here hXT (tx_nc 22 rfl), Or.inl ⟨XT.here hXT tx_cIS, rfl⟩⟩⟩⟩ hce ?_
      refine lv_astore (lv' := [(7, .ref a), (0, .ref (ad 0)), (1, .int a1), (2, .int a2), (3, .int a3), (4, .int a4), (5, .int a5), (6, .ref (ad 28))]) hx hb d_Law_job_23 hl (by decide) rfl (fun ls hl => ?_)
      refine lv_iconst (v := 2) hx hb d_Law_job_25 (by decide) ?_
      exact gw_iret hx hb hr hlocks hK hP hD hS (Or.inr (Or.inr (⟨hz, rfl⟩))) d_Law_job_26
theorem d_Law_of_0 : decode b_Law_of 0 = .ok (.aload_n 3, 1) := by decide +kernel
theorem d_Law_of_1 : decode b_Law_of 1 = .ok (.iconst 0, 1) := by decide +kernel
theorem d_Law_of_2 : decode b_Law_of 2 = .ok (.aload_n 0, 1) := by decide +kernel
theorem d_Law_of_3 : decode b_Law_of 3 = .ok (.iload_n 1, 1) := by decide +kernel
theorem d_Law_of_4 : decode b_Law_of 4 = .ok (.iload_n 2, 1) := by decide +kernel
theorem d_Law_of_5 : decode b_Law_of 5 = .ok (.invokevirtual 25, 3) := by decide +kernel
theorem d_Law_of_8 : decode b_Law_of 8 = .ok (.i2l, 1) := by decide +kernel
theorem d_Law_of_9 : decode b_Law_of 9 = .ok (.lastore, 1) := by decide +kernel
theorem d_Law_of_10 : decode b_Law_of 10 = .ok (.goto 11, 3) := by decide +kernel
theorem d_Law_of_13 : decode b_Law_of 13 = .ok (.astore 4, 2) := by decide +kernel
theorem d_Law_of_15 : decode b_Law_of 15 = .ok (.iconst 1, 1) := by decide +kernel
theorem d_Law_of_16 : decode b_Law_of 16 = .ok (.ireturn, 1) := by decide +kernel
theorem d_Law_of_17 : decode b_Law_of 17 = .ok (.astore 4, 2) := by decide +kernel
theorem d_Law_of_19 : decode b_Law_of 19 = .ok (.iconst 2, 1) := by decide +kernel
theorem d_Law_of_20 : decode b_Law_of 20 = .ok (.ireturn, 1) := by decide +kernel
theorem d_Law_of_21 : decode b_Law_of 21 = .ok (.iconst 0, 1) := by decide +kernel
theorem d_Law_of_22 : decode b_Law_of 22 = .ok (.ireturn, 1) := by decide +kernel
abbrev w_Law_of : List Cond := Cond.codeWith y_Law_of b_Law_of 5 (some .int) [(0, 10, 13, 29), (0, 10, 17, 15)] :: TWB
def rm_Law_of : Room := { frames := 7, cells := 1, slots := 6, locals := 104 }
def Q_Law_of (σ : MI) (τ : ML) (a1 : Int32) (a2 : Int32) (r : Int32) (σ' : MI) (τ' : ML) : Prop := (r = 0 ∧ ∃ (v : Int32) (τ1 : ML), Q_PT_of σ τ a1 a2 v σ' τ1 ∧ τ' = sl2 τ1 28 0 v.toInt64) ∨ (Z_PT_of σ τ a1 a2 nIO σ' τ' ∧ r = 1) ∨ (Z_PT_of σ τ a1 a2 nIS σ' τ' ∧ r = 2)
theorem z_Law_of {σ : MI} {τ : ML} {a1 : Int32} {a2 : Int32} {nm : String} {σ' : MI} {τ' : ML} (h : Z_PT_of σ τ a1 a2 nm σ' τ') : nm = nIO ∨ nm = nIS := by
  obtain ⟨-, -, h⟩ := h
  rcases h with ⟨-, rfl⟩ | ⟨-, -, rfl⟩
  · exact Or.inl rfl
  · exact Or.inr rfl
set_option maxHeartbeats 4000000 in
set_option maxRecDepth 100000 in
theorem c_Law_of (l : Launch) (hlt : l.flags = flags0) (D : va_G) (ad : Nat → Nat) (ci cl : ClassId) : ∀ (sz : Nat) (σ0 : MI) (τ0 : ML) (a1 : Int32) (a2 : Int32), P_PT_of σ0 τ0 a1 a2 → gMw l D (xw ad ci cl) (xt ci cl) (xa ad) y_Law_of w_Law_of rm_Law_of [.ref (ad 0), .int a1, .int a2, .ref (ad 28)] sz σ0 τ0 (Q_Law_of σ0 τ0 a1 a2) := by
  intro sz σ0 τ0 a1 a2 hpre
  refine gw_ofW (cc := b_Law_of) (maxL := 5) (ret := (some .int)) (by decide) rfl xa_ok (Nat.le_of_ble_eq_true rfl) ?_
  intro p e s m below meth c ls hx hb hr hlocks hml hown hts hK hP hD hS hl htab hXT hst
  have hl : lv_has ls 5 [(0, .ref (ad 0)), (1, .int a1), (2, .int a2), (3, .ref (ad 28))] := hl
  have hown : s.vm.findClass R_Law = some m.cls := hown
  have htB : ∀ w ∈ TB, w.before [.ref (ad 0), .int a1, .int a2, .ref (ad 28)].toArray s = true := fun w h => hts w (List.mem_append_right _ h)
  have htW : ∀ w ∈ TW, w.before [.ref (ad 0), .int a1, .int a2, .ref (ad 28)].toArray s = true := fun w h => hts w (List.mem_append_left _ h)
  refine lv_aload_n hx hb d_Law_of_0 rfl (lv_at hl 3 rfl) ?_
  refine lv_iconst (v := 0) hx hb d_Law_of_1 (by decide) ?_
  refine lv_aload_n hx hb d_Law_of_2 rfl (lv_at hl 0 rfl) ?_
  refine lv_iload_n hx hb d_Law_of_3 rfl (lv_at hl 1 rfl) ?_
  refine lv_iload_n hx hb d_Law_of_4 rfl (lv_at hl 2 rfl) ?_
  refine gx_callV (As := [.int a1, .int a2]) (rest := [.int 0, .ref (ad 28)]) (b := ad 0) ⟨hx, hb, hml, hown, htB⟩ (c_PT_of l hlt D ad ci cl _ σ0 τ0 a1 a2 hpre) ⟨callB_of 2 hts (gw_good tw_15 rfl) rfl rfl rfl (htB _ t_w5) (htW _ tw_12) (by decide +kernel) ⟨Nat.le_of_ble_eq_true rfl, Nat.le_of_ble_eq_true rfl⟩, htW _ tw_13, htW _ tw_14⟩ hK hP hD hS hXT hst (va_recv hK hP (ci := 6) (q0 := 0) rfl rfl) rfl hl.1 rfl (lv_room (Nat.le_of_ble_eq_true rfl)) d_Law_of_5 ⟨by decide, by decide⟩ (fun r σ1 τ1 H locs hq hP hD hS => ?_) (fun a nm σ1 τ1 H locs hz hce hP hD hS => ?_)
  · refine lv_i2l hx hb d_Law_of_8 rfl ?_
    refine va_last hx hb hK hP hD hS 28 1 rfl rfl (z_in.mpr (by decide)) d_Law_of_9 (fun H locs hP hD hS => ?_)
    rw [xa_28] at hP hD
    refine lv_goto (tgt := 21) hx hb d_Law_of_10 (by decide) ?_
    refine lv_iconst (v := 0) hx hb d_Law_of_21 (by decide) ?_
    exact gw_iret hx hb hr hlocks hK hP hD hS (Or.inl ⟨rfl, r, τ1, hq, rfl⟩) d_Law_of_22
  · rcases z_Law_of hz with rfl | rfl
    · refine gx_catch (own := R_Law) (nm := xIO) (hpc := 13) hown htab ⟨by decide, by decide, xIO, XT.here hXT (tx_nc 23 rfl), Or.inl ⟨XT.here hXT tx_cIO, rfl⟩⟩ hce ?_
      refine lv_astore (lv' := [(4, .ref a), (0, .ref (ad 0)), (1, .int a1), (2, .int a2), (3, .ref (ad 28))]) hx hb d_Law_of_13 hl (by decide) rfl (fun ls hl => ?_)
      refine lv_iconst (v := 1) hx hb d_Law_of_15 (by decide) ?_
      exact gw_iret hx hb hr hlocks hK hP hD hS (Or.inr (Or.inl ⟨hz, rfl⟩)) d_Law_of_16
    · refine gx_catch (own := R_Law) (nm := xIS) (hpc := 17) hown htab ⟨by decide, by decide, xIO, XT.here hXT (tx_nc 23 rfl), Or.inr ⟨XT.here hXT (tx_nc 32 rfl), ⟨by decide, by decide, xIS, XT.here hXT (tx_nc 22 rfl), Or.inl ⟨XT.here hXT tx_cIS, rfl⟩⟩⟩⟩ hce ?_
      refine lv_astore (lv' := [(4, .ref a), (0, .ref (ad 0)), (1, .int a1), (2, .int a2), (3, .ref (ad 28))]) hx hb d_Law_of_17 hl (by decide) rfl (fun ls hl => ?_)
      refine lv_iconst (v := 2) hx hb d_Law_of_19 (by decide) ?_
      exact gw_iret hx hb hr hlocks hK hP hD hS (Or.inr (Or.inr (⟨hz, rfl⟩))) d_Law_of_20
theorem d_Law_late_0 : decode b_Law_late 0 = .ok (.aload_n 3, 1) := by decide +kernel
theorem d_Law_late_1 : decode b_Law_late 1 = .ok (.iconst 0, 1) := by decide +kernel
theorem d_Law_late_2 : decode b_Law_late 2 = .ok (.aload_n 0, 1) := by decide +kernel
theorem d_Law_late_3 : decode b_Law_late 3 = .ok (.iload_n 1, 1) := by decide +kernel
theorem d_Law_late_4 : decode b_Law_late 4 = .ok (.iload_n 2, 1) := by decide +kernel
theorem d_Law_late_5 : decode b_Law_late 5 = .ok (.invokevirtual 31, 3) := by decide +kernel
theorem d_Law_late_8 : decode b_Law_late 8 = .ok (.i2l, 1) := by decide +kernel
theorem d_Law_late_9 : decode b_Law_late 9 = .ok (.lastore, 1) := by decide +kernel
theorem d_Law_late_10 : decode b_Law_late 10 = .ok (.goto 15, 3) := by decide +kernel
theorem d_Law_late_13 : decode b_Law_late 13 = .ok (.astore 4, 2) := by decide +kernel
theorem d_Law_late_15 : decode b_Law_late 15 = .ok (.iconst 1, 1) := by decide +kernel
theorem d_Law_late_16 : decode b_Law_late 16 = .ok (.ireturn, 1) := by decide +kernel
theorem d_Law_late_17 : decode b_Law_late 17 = .ok (.astore 4, 2) := by decide +kernel
theorem d_Law_late_19 : decode b_Law_late 19 = .ok (.iconst 2, 1) := by decide +kernel
theorem d_Law_late_20 : decode b_Law_late 20 = .ok (.ireturn, 1) := by decide +kernel
theorem d_Law_late_21 : decode b_Law_late 21 = .ok (.astore 4, 2) := by decide +kernel
theorem d_Law_late_23 : decode b_Law_late 23 = .ok (.iconst 3, 1) := by decide +kernel
theorem d_Law_late_24 : decode b_Law_late 24 = .ok (.ireturn, 1) := by decide +kernel
theorem d_Law_late_25 : decode b_Law_late 25 = .ok (.iconst 0, 1) := by decide +kernel
theorem d_Law_late_26 : decode b_Law_late 26 = .ok (.ireturn, 1) := by decide +kernel
abbrev w_Law_late : List Cond := Cond.codeWith y_Law_late b_Law_late 5 (some .int) [(0, 10, 13, 29), (0, 10, 17, 13), (0, 10, 21, 15)] :: TWB
def rm_Law_late : Room := { frames := 7, cells := 1, slots := 6, locals := 152 }
def Q_Law_late (σ : MI) (τ : ML) (a1 : Int32) (a2 : Int32) (r : Int32) (σ' : MI) (τ' : ML) : Prop := (r = 0 ∧ ∃ (v : Int32) (τ1 : ML), Q_PT_late σ τ a1 a2 v σ' τ1 ∧ τ' = sl2 τ1 28 0 v.toInt64) ∨ (Z_PT_late σ τ a1 a2 nIO σ' τ' ∧ r = 1) ∨ (Z_PT_late σ τ a1 a2 nIA σ' τ' ∧ r = 2) ∨ (Z_PT_late σ τ a1 a2 nIS σ' τ' ∧ r = 3)
theorem z_Law_late {σ : MI} {τ : ML} {a1 : Int32} {a2 : Int32} {nm : String} {σ' : MI} {τ' : ML} (h : Z_PT_late σ τ a1 a2 nm σ' τ') : nm = nIO ∨ nm = nIA ∨ nm = nIS := by
  obtain ⟨-, -, h⟩ := h
  rcases h with ⟨-, rfl⟩ | ⟨-, -, rfl⟩ | ⟨-, -, -, rfl⟩
  · exact Or.inl rfl
  · exact Or.inr (Or.inl rfl)
  · exact Or.inr (Or.inr rfl)
set_option maxHeartbeats 4000000 in
set_option maxRecDepth 100000 in
theorem c_Law_late (l : Launch) (hlt : l.flags = flags0) (D : va_G) (ad : Nat → Nat) (ci cl : ClassId) : ∀ (sz : Nat) (σ0 : MI) (τ0 : ML) (a1 : Int32) (a2 : Int32), P_PT_late σ0 τ0 a1 a2 → gMw l D (xw ad ci cl) (xt ci cl) (xa ad) y_Law_late w_Law_late rm_Law_late [.ref (ad 0), .int a1, .int a2, .ref (ad 28)] sz σ0 τ0 (Q_Law_late σ0 τ0 a1 a2) := by
  intro sz σ0 τ0 a1 a2 hpre
  refine gw_ofW (cc := b_Law_late) (maxL := 5) (ret := (some .int)) (by decide) rfl xa_ok (Nat.le_of_ble_eq_true rfl) ?_
  intro p e s m below meth c ls hx hb hr hlocks hml hown hts hK hP hD hS hl htab hXT hst
  have hl : lv_has ls 5 [(0, .ref (ad 0)), (1, .int a1), (2, .int a2), (3, .ref (ad 28))] := hl
  have hown : s.vm.findClass R_Law = some m.cls := hown
  have htB : ∀ w ∈ TB, w.before [.ref (ad 0), .int a1, .int a2, .ref (ad 28)].toArray s = true := fun w h => hts w (List.mem_append_right _ h)
  have htW : ∀ w ∈ TW, w.before [.ref (ad 0), .int a1, .int a2, .ref (ad 28)].toArray s = true := fun w h => hts w (List.mem_append_left _ h)
  refine lv_aload_n hx hb d_Law_late_0 rfl (lv_at hl 3 rfl) ?_
  refine lv_iconst (v := 0) hx hb d_Law_late_1 (by decide) ?_
  refine lv_aload_n hx hb d_Law_late_2 rfl (lv_at hl 0 rfl) ?_
  refine lv_iload_n hx hb d_Law_late_3 rfl (lv_at hl 1 rfl) ?_
  refine lv_iload_n hx hb d_Law_late_4 rfl (lv_at hl 2 rfl) ?_
  refine gx_callV (As := [.int a1, .int a2]) (rest := [.int 0, .ref (ad 28)]) (b := ad 0) ⟨hx, hb, hml, hown, htB⟩ (c_PT_late l hlt D ad ci cl _ σ0 τ0 a1 a2 hpre) ⟨callB_of 2 hts (gw_good tw_19 rfl) rfl rfl rfl (htB _ t_w5) (htW _ tw_16) (by decide +kernel) ⟨Nat.le_of_ble_eq_true rfl, Nat.le_of_ble_eq_true rfl⟩, htW _ tw_17, htW _ tw_18⟩ hK hP hD hS hXT hst (va_recv hK hP (ci := 6) (q0 := 0) rfl rfl) rfl hl.1 rfl (lv_room (Nat.le_of_ble_eq_true rfl)) d_Law_late_5 ⟨by decide, by decide⟩ (fun r σ1 τ1 H locs hq hP hD hS => ?_) (fun a nm σ1 τ1 H locs hz hce hP hD hS => ?_)
  · refine lv_i2l hx hb d_Law_late_8 rfl ?_
    refine va_last hx hb hK hP hD hS 28 1 rfl rfl (z_in.mpr (by decide)) d_Law_late_9 (fun H locs hP hD hS => ?_)
    rw [xa_28] at hP hD
    refine lv_goto (tgt := 25) hx hb d_Law_late_10 (by decide) ?_
    refine lv_iconst (v := 0) hx hb d_Law_late_25 (by decide) ?_
    exact gw_iret hx hb hr hlocks hK hP hD hS (Or.inl ⟨rfl, r, τ1, hq, rfl⟩) d_Law_late_26
  · rcases z_Law_late hz with rfl | rfl | rfl
    · refine gx_catch (own := R_Law) (nm := xIO) (hpc := 13) hown htab ⟨by decide, by decide, xIO, XT.here hXT (tx_nc 23 rfl), Or.inl ⟨XT.here hXT tx_cIO, rfl⟩⟩ hce ?_
      refine lv_astore (lv' := [(4, .ref a), (0, .ref (ad 0)), (1, .int a1), (2, .int a2), (3, .ref (ad 28))]) hx hb d_Law_late_13 hl (by decide) rfl (fun ls hl => ?_)
      refine lv_iconst (v := 1) hx hb d_Law_late_15 (by decide) ?_
      exact gw_iret hx hb hr hlocks hK hP hD hS (Or.inr (Or.inl ⟨hz, rfl⟩)) d_Law_late_16
    · refine gx_catch (own := R_Law) (nm := xIA) (hpc := 17) hown htab ⟨by decide, by decide, xIO, XT.here hXT (tx_nc 23 rfl), Or.inr ⟨XT.here hXT (tx_nc 31 rfl), ⟨by decide, by decide, xIA, XT.here hXT (tx_nc 21 rfl), Or.inl ⟨XT.here hXT tx_cIA, rfl⟩⟩⟩⟩ hce ?_
      refine lv_astore (lv' := [(4, .ref a), (0, .ref (ad 0)), (1, .int a1), (2, .int a2), (3, .ref (ad 28))]) hx hb d_Law_late_17 hl (by decide) rfl (fun ls hl => ?_)
      refine lv_iconst (v := 2) hx hb d_Law_late_19 (by decide) ?_
      exact gw_iret hx hb hr hlocks hK hP hD hS (Or.inr (Or.inr (Or.inl ⟨hz, rfl⟩))) d_Law_late_20
    · refine gx_catch (own := R_Law) (nm := xIS) (hpc := 21) hown htab ⟨by decide, by decide, xIO, XT.here hXT (tx_nc 23 rfl), Or.inr ⟨XT.here hXT (tx_nc 32 rfl), ⟨by decide, by decide, xIA, XT.here hXT (tx_nc 21 rfl), Or.inr ⟨XT.here hXT (tx_nc 25 rfl), ⟨by decide, by decide, xIS, XT.here hXT (tx_nc 22 rfl), Or.inl ⟨XT.here hXT tx_cIS, rfl⟩⟩⟩⟩⟩⟩ hce ?_
      refine lv_astore (lv' := [(4, .ref a), (0, .ref (ad 0)), (1, .int a1), (2, .int a2), (3, .ref (ad 28))]) hx hb d_Law_late_21 hl (by decide) rfl (fun ls hl => ?_)
      refine lv_iconst (v := 3) hx hb d_Law_late_23 (by decide) ?_
      exact gw_iret hx hb hr hlocks hK hP hD hS (Or.inr (Or.inr (Or.inr (⟨hz, rfl⟩)))) d_Law_late_24
theorem d_Law_day_0 : decode b_Law_day 0 = .ok (.aload_n 3, 1) := by decide +kernel
theorem d_Law_day_1 : decode b_Law_day 1 = .ok (.iconst 0, 1) := by decide +kernel
theorem d_Law_day_2 : decode b_Law_day 2 = .ok (.aload_n 0, 1) := by decide +kernel
theorem d_Law_day_3 : decode b_Law_day 3 = .ok (.iload_n 1, 1) := by decide +kernel
theorem d_Law_day_4 : decode b_Law_day 4 = .ok (.iload_n 2, 1) := by decide +kernel
theorem d_Law_day_5 : decode b_Law_day 5 = .ok (.invokevirtual 34, 3) := by decide +kernel
theorem d_Law_day_8 : decode b_Law_day 8 = .ok (.i2l, 1) := by decide +kernel
theorem d_Law_day_9 : decode b_Law_day 9 = .ok (.lastore, 1) := by decide +kernel
theorem d_Law_day_10 : decode b_Law_day 10 = .ok (.goto 11, 3) := by decide +kernel
theorem d_Law_day_13 : decode b_Law_day 13 = .ok (.astore 4, 2) := by decide +kernel
theorem d_Law_day_15 : decode b_Law_day 15 = .ok (.iconst 1, 1) := by decide +kernel
theorem d_Law_day_16 : decode b_Law_day 16 = .ok (.ireturn, 1) := by decide +kernel
theorem d_Law_day_17 : decode b_Law_day 17 = .ok (.astore 4, 2) := by decide +kernel
theorem d_Law_day_19 : decode b_Law_day 19 = .ok (.iconst 2, 1) := by decide +kernel
theorem d_Law_day_20 : decode b_Law_day 20 = .ok (.ireturn, 1) := by decide +kernel
theorem d_Law_day_21 : decode b_Law_day 21 = .ok (.iconst 0, 1) := by decide +kernel
theorem d_Law_day_22 : decode b_Law_day 22 = .ok (.ireturn, 1) := by decide +kernel
abbrev w_Law_day : List Cond := Cond.codeWith y_Law_day b_Law_day 5 (some .int) [(0, 10, 13, 29), (0, 10, 17, 15)] :: TWB
def rm_Law_day : Room := { frames := 7, cells := 1, slots := 6, locals := 107 }
def Q_Law_day (σ : MI) (τ : ML) (a1 : Int32) (a2 : Int32) (r : Int32) (σ' : MI) (τ' : ML) : Prop := (r = 0 ∧ ∃ (v : Int32) (τ1 : ML), Q_PT_day σ τ a1 a2 v σ' τ1 ∧ τ' = sl2 τ1 28 0 v.toInt64) ∨ (Z_PT_day σ τ a1 a2 nIO σ' τ' ∧ r = 1) ∨ (Z_PT_day σ τ a1 a2 nIS σ' τ' ∧ r = 2)
theorem z_Law_day {σ : MI} {τ : ML} {a1 : Int32} {a2 : Int32} {nm : String} {σ' : MI} {τ' : ML} (h : Z_PT_day σ τ a1 a2 nm σ' τ') : nm = nIO ∨ nm = nIS := by
  obtain ⟨-, -, h⟩ := h
  rcases h with ⟨-, rfl⟩ | ⟨-, -, rfl⟩
  · exact Or.inl rfl
  · exact Or.inr rfl
set_option maxHeartbeats 4000000 in
set_option maxRecDepth 100000 in
theorem c_Law_day (l : Launch) (hlt : l.flags = flags0) (D : va_G) (ad : Nat → Nat) (ci cl : ClassId) : ∀ (sz : Nat) (σ0 : MI) (τ0 : ML) (a1 : Int32) (a2 : Int32), P_PT_day σ0 τ0 a1 a2 → gMw l D (xw ad ci cl) (xt ci cl) (xa ad) y_Law_day w_Law_day rm_Law_day [.ref (ad 0), .int a1, .int a2, .ref (ad 28)] sz σ0 τ0 (Q_Law_day σ0 τ0 a1 a2) := by
  intro sz σ0 τ0 a1 a2 hpre
  refine gw_ofW (cc := b_Law_day) (maxL := 5) (ret := (some .int)) (by decide) rfl xa_ok (Nat.le_of_ble_eq_true rfl) ?_
  intro p e s m below meth c ls hx hb hr hlocks hml hown hts hK hP hD hS hl htab hXT hst
  have hl : lv_has ls 5 [(0, .ref (ad 0)), (1, .int a1), (2, .int a2), (3, .ref (ad 28))] := hl
  have hown : s.vm.findClass R_Law = some m.cls := hown
  have htB : ∀ w ∈ TB, w.before [.ref (ad 0), .int a1, .int a2, .ref (ad 28)].toArray s = true := fun w h => hts w (List.mem_append_right _ h)
  have htW : ∀ w ∈ TW, w.before [.ref (ad 0), .int a1, .int a2, .ref (ad 28)].toArray s = true := fun w h => hts w (List.mem_append_left _ h)
  refine lv_aload_n hx hb d_Law_day_0 rfl (lv_at hl 3 rfl) ?_
  refine lv_iconst (v := 0) hx hb d_Law_day_1 (by decide) ?_
  refine lv_aload_n hx hb d_Law_day_2 rfl (lv_at hl 0 rfl) ?_
  refine lv_iload_n hx hb d_Law_day_3 rfl (lv_at hl 1 rfl) ?_
  refine lv_iload_n hx hb d_Law_day_4 rfl (lv_at hl 2 rfl) ?_
  refine gx_callV (As := [.int a1, .int a2]) (rest := [.int 0, .ref (ad 28)]) (b := ad 0) ⟨hx, hb, hml, hown, htB⟩ (c_PT_day l hlt D ad ci cl _ σ0 τ0 a1 a2 hpre) ⟨callB_of 2 hts (gw_good tw_23 rfl) rfl rfl rfl (htB _ t_w5) (htW _ tw_20) (by decide +kernel) ⟨Nat.le_of_ble_eq_true rfl, Nat.le_of_ble_eq_true rfl⟩, htW _ tw_21, htW _ tw_22⟩ hK hP hD hS hXT hst (va_recv hK hP (ci := 6) (q0 := 0) rfl rfl) rfl hl.1 rfl (lv_room (Nat.le_of_ble_eq_true rfl)) d_Law_day_5 ⟨by decide, by decide⟩ (fun r σ1 τ1 H locs hq hP hD hS => ?_) (fun a nm σ1 τ1 H locs hz hce hP hD hS => ?_)
  · refine lv_i2l hx hb d_Law_day_8 rfl ?_
    refine va_last hx hb hK hP hD hS 28 1 rfl rfl (z_in.mpr (by decide)) d_Law_day_9 (fun H locs hP hD hS => ?_)
    rw [xa_28] at hP hD
    refine lv_goto (tgt := 21) hx hb d_Law_day_10 (by decide) ?_
    refine lv_iconst (v := 0) hx hb d_Law_day_21 (by decide) ?_
    exact gw_iret hx hb hr hlocks hK hP hD hS (Or.inl ⟨rfl, r, τ1, hq, rfl⟩) d_Law_day_22
  · rcases z_Law_day hz with rfl | rfl
    · refine gx_catch (own := R_Law) (nm := xIO) (hpc := 13) hown htab ⟨by decide, by decide, xIO, XT.here hXT (tx_nc 23 rfl), Or.inl ⟨XT.here hXT tx_cIO, rfl⟩⟩ hce ?_
      refine lv_astore (lv' := [(4, .ref a), (0, .ref (ad 0)), (1, .int a1), (2, .int a2), (3, .ref (ad 28))]) hx hb d_Law_day_13 hl (by decide) rfl (fun ls hl => ?_)
      refine lv_iconst (v := 1) hx hb d_Law_day_15 (by decide) ?_
      exact gw_iret hx hb hr hlocks hK hP hD hS (Or.inr (Or.inl ⟨hz, rfl⟩)) d_Law_day_16
    · refine gx_catch (own := R_Law) (nm := xIS) (hpc := 17) hown htab ⟨by decide, by decide, xIO, XT.here hXT (tx_nc 23 rfl), Or.inr ⟨XT.here hXT (tx_nc 32 rfl), ⟨by decide, by decide, xIS, XT.here hXT (tx_nc 22 rfl), Or.inl ⟨XT.here hXT tx_cIS, rfl⟩⟩⟩⟩ hce ?_
      refine lv_astore (lv' := [(4, .ref a), (0, .ref (ad 0)), (1, .int a1), (2, .int a2), (3, .ref (ad 28))]) hx hb d_Law_day_17 hl (by decide) rfl (fun ls hl => ?_)
      refine lv_iconst (v := 2) hx hb d_Law_day_19 (by decide) ?_
      exact gw_iret hx hb hr hlocks hK hP hD hS (Or.inr (Or.inr (⟨hz, rfl⟩))) d_Law_day_20
theorem d_Law_waits_0 : decode b_Law_waits 0 = .ok (.aload_n 2, 1) := by decide +kernel
theorem d_Law_waits_1 : decode b_Law_waits 1 = .ok (.iconst 0, 1) := by decide +kernel
theorem d_Law_waits_2 : decode b_Law_waits 2 = .ok (.aload_n 0, 1) := by decide +kernel
theorem d_Law_waits_3 : decode b_Law_waits 3 = .ok (.iload_n 1, 1) := by decide +kernel
theorem d_Law_waits_4 : decode b_Law_waits 4 = .ok (.invokevirtual 37, 3) := by decide +kernel
theorem d_Law_waits_7 : decode b_Law_waits 7 = .ok (.i2l, 1) := by decide +kernel
theorem d_Law_waits_8 : decode b_Law_waits 8 = .ok (.lastore, 1) := by decide +kernel
theorem d_Law_waits_9 : decode b_Law_waits 9 = .ok (.goto 9, 3) := by decide +kernel
theorem d_Law_waits_12 : decode b_Law_waits 12 = .ok (.astore_n 3, 1) := by decide +kernel
theorem d_Law_waits_13 : decode b_Law_waits 13 = .ok (.iconst 1, 1) := by decide +kernel
theorem d_Law_waits_14 : decode b_Law_waits 14 = .ok (.ireturn, 1) := by decide +kernel
theorem d_Law_waits_15 : decode b_Law_waits 15 = .ok (.astore_n 3, 1) := by decide +kernel
theorem d_Law_waits_16 : decode b_Law_waits 16 = .ok (.iconst 2, 1) := by decide +kernel
theorem d_Law_waits_17 : decode b_Law_waits 17 = .ok (.ireturn, 1) := by decide +kernel
theorem d_Law_waits_18 : decode b_Law_waits 18 = .ok (.iconst 0, 1) := by decide +kernel
theorem d_Law_waits_19 : decode b_Law_waits 19 = .ok (.ireturn, 1) := by decide +kernel
abbrev w_Law_waits : List Cond := Cond.codeWith y_Law_waits b_Law_waits 4 (some .int) [(0, 9, 12, 29), (0, 9, 15, 15)] :: TWB
def rm_Law_waits : Room := { frames := 7, cells := 1, slots := 6, locals := 107 }
def Q_Law_waits (σ : MI) (τ : ML) (a1 : Int32) (r : Int32) (σ' : MI) (τ' : ML) : Prop := (r = 0 ∧ ∃ (v : Int32) (τ1 : ML), Q_PT_waits σ τ a1 v σ' τ1 ∧ τ' = sl2 τ1 28 0 v.toInt64) ∨ (Z_PT_waits σ τ a1 nIO σ' τ' ∧ r = 1) ∨ (Z_PT_waits σ τ a1 nIS σ' τ' ∧ r = 2)
theorem z_Law_waits {σ : MI} {τ : ML} {a1 : Int32} {nm : String} {σ' : MI} {τ' : ML} (h : Z_PT_waits σ τ a1 nm σ' τ') : nm = nIO ∨ nm = nIS := by
  obtain ⟨-, -, h⟩ := h
  rcases h with ⟨-, rfl⟩ | ⟨-, -, rfl⟩
  · exact Or.inl rfl
  · exact Or.inr rfl
set_option maxHeartbeats 4000000 in
set_option maxRecDepth 100000 in
theorem c_Law_waits (l : Launch) (hlt : l.flags = flags0) (D : va_G) (ad : Nat → Nat) (ci cl : ClassId) : ∀ (sz : Nat) (σ0 : MI) (τ0 : ML) (a1 : Int32), P_PT_waits σ0 τ0 a1 → gMw l D (xw ad ci cl) (xt ci cl) (xa ad) y_Law_waits w_Law_waits rm_Law_waits [.ref (ad 0), .int a1, .ref (ad 28)] sz σ0 τ0 (Q_Law_waits σ0 τ0 a1) := by
  intro sz σ0 τ0 a1 hpre
  refine gw_ofW (cc := b_Law_waits) (maxL := 4) (ret := (some .int)) (by decide) rfl xa_ok (Nat.le_of_ble_eq_true rfl) ?_
  intro p e s m below meth c ls hx hb hr hlocks hml hown hts hK hP hD hS hl htab hXT hst
  have hl : lv_has ls 4 [(0, .ref (ad 0)), (1, .int a1), (2, .ref (ad 28))] := hl
  have hown : s.vm.findClass R_Law = some m.cls := hown
  have htB : ∀ w ∈ TB, w.before [.ref (ad 0), .int a1, .ref (ad 28)].toArray s = true := fun w h => hts w (List.mem_append_right _ h)
  have htW : ∀ w ∈ TW, w.before [.ref (ad 0), .int a1, .ref (ad 28)].toArray s = true := fun w h => hts w (List.mem_append_left _ h)
  refine lv_aload_n hx hb d_Law_waits_0 rfl (lv_at hl 2 rfl) ?_
  refine lv_iconst (v := 0) hx hb d_Law_waits_1 (by decide) ?_
  refine lv_aload_n hx hb d_Law_waits_2 rfl (lv_at hl 0 rfl) ?_
  refine lv_iload_n hx hb d_Law_waits_3 rfl (lv_at hl 1 rfl) ?_
  refine gx_callV (As := [.int a1]) (rest := [.int 0, .ref (ad 28)]) (b := ad 0) ⟨hx, hb, hml, hown, htB⟩ (c_PT_waits l hlt D ad ci cl _ σ0 τ0 a1 hpre) ⟨callB_of 1 hts (gw_good tw_27 rfl) rfl rfl rfl (htB _ t_w5) (htW _ tw_24) (by decide +kernel) ⟨Nat.le_of_ble_eq_true rfl, Nat.le_of_ble_eq_true rfl⟩, htW _ tw_25, htW _ tw_26⟩ hK hP hD hS hXT hst (va_recv hK hP (ci := 6) (q0 := 0) rfl rfl) rfl hl.1 rfl (lv_room (Nat.le_of_ble_eq_true rfl)) d_Law_waits_4 ⟨by decide, by decide⟩ (fun r σ1 τ1 H locs hq hP hD hS => ?_) (fun a nm σ1 τ1 H locs hz hce hP hD hS => ?_)
  · refine lv_i2l hx hb d_Law_waits_7 rfl ?_
    refine va_last hx hb hK hP hD hS 28 1 rfl rfl (z_in.mpr (by decide)) d_Law_waits_8 (fun H locs hP hD hS => ?_)
    rw [xa_28] at hP hD
    refine lv_goto (tgt := 18) hx hb d_Law_waits_9 (by decide) ?_
    refine lv_iconst (v := 0) hx hb d_Law_waits_18 (by decide) ?_
    exact gw_iret hx hb hr hlocks hK hP hD hS (Or.inl ⟨rfl, r, τ1, hq, rfl⟩) d_Law_waits_19
  · rcases z_Law_waits hz with rfl | rfl
    · refine gx_catch (own := R_Law) (nm := xIO) (hpc := 12) hown htab ⟨by decide, by decide, xIO, XT.here hXT (tx_nc 23 rfl), Or.inl ⟨XT.here hXT tx_cIO, rfl⟩⟩ hce ?_
      refine lv_astore_n (lv' := [(3, .ref a), (0, .ref (ad 0)), (1, .int a1), (2, .ref (ad 28))]) hx hb d_Law_waits_12 rfl hl (by decide) rfl (fun ls hl => ?_)
      refine lv_iconst (v := 1) hx hb d_Law_waits_13 (by decide) ?_
      exact gw_iret hx hb hr hlocks hK hP hD hS (Or.inr (Or.inl ⟨hz, rfl⟩)) d_Law_waits_14
    · refine gx_catch (own := R_Law) (nm := xIS) (hpc := 15) hown htab ⟨by decide, by decide, xIO, XT.here hXT (tx_nc 23 rfl), Or.inr ⟨XT.here hXT (tx_nc 32 rfl), ⟨by decide, by decide, xIS, XT.here hXT (tx_nc 22 rfl), Or.inl ⟨XT.here hXT tx_cIS, rfl⟩⟩⟩⟩ hce ?_
      refine lv_astore_n (lv' := [(3, .ref a), (0, .ref (ad 0)), (1, .int a1), (2, .ref (ad 28))]) hx hb d_Law_waits_15 rfl hl (by decide) rfl (fun ls hl => ?_)
      refine lv_iconst (v := 2) hx hb d_Law_waits_16 (by decide) ?_
      exact gw_iret hx hb hr hlocks hK hP hD hS (Or.inr (Or.inr (⟨hz, rfl⟩))) d_Law_waits_17
theorem d_Law_share_0 : decode b_Law_share 0 = .ok (.aload_n 3, 1) := by decide +kernel
theorem d_Law_share_1 : decode b_Law_share 1 = .ok (.iconst 0, 1) := by decide +kernel
theorem d_Law_share_2 : decode b_Law_share 2 = .ok (.aload_n 0, 1) := by decide +kernel
theorem d_Law_share_3 : decode b_Law_share 3 = .ok (.iload_n 1, 1) := by decide +kernel
theorem d_Law_share_4 : decode b_Law_share 4 = .ok (.iload_n 2, 1) := by decide +kernel
theorem d_Law_share_5 : decode b_Law_share 5 = .ok (.invokevirtual 40, 3) := by decide +kernel
theorem d_Law_share_8 : decode b_Law_share 8 = .ok (.i2l, 1) := by decide +kernel
theorem d_Law_share_9 : decode b_Law_share 9 = .ok (.lastore, 1) := by decide +kernel
theorem d_Law_share_10 : decode b_Law_share 10 = .ok (.goto 11, 3) := by decide +kernel
theorem d_Law_share_13 : decode b_Law_share 13 = .ok (.astore 4, 2) := by decide +kernel
theorem d_Law_share_15 : decode b_Law_share 15 = .ok (.iconst 1, 1) := by decide +kernel
theorem d_Law_share_16 : decode b_Law_share 16 = .ok (.ireturn, 1) := by decide +kernel
theorem d_Law_share_17 : decode b_Law_share 17 = .ok (.astore 4, 2) := by decide +kernel
theorem d_Law_share_19 : decode b_Law_share 19 = .ok (.iconst 2, 1) := by decide +kernel
theorem d_Law_share_20 : decode b_Law_share 20 = .ok (.ireturn, 1) := by decide +kernel
theorem d_Law_share_21 : decode b_Law_share 21 = .ok (.iconst 0, 1) := by decide +kernel
theorem d_Law_share_22 : decode b_Law_share 22 = .ok (.ireturn, 1) := by decide +kernel
abbrev w_Law_share : List Cond := Cond.codeWith y_Law_share b_Law_share 5 (some .int) [(0, 10, 13, 13), (0, 10, 17, 43)] :: TWB
def rm_Law_share : Room := { frames := 7, cells := 1, slots := 6, locals := 104 }
def Q_Law_share (σ : MI) (τ : ML) (a1 : Int32) (a2 : Int32) (r : Int32) (σ' : MI) (τ' : ML) : Prop := (r = 0 ∧ ∃ (v : Int32) (τ1 : ML), Q_PT_share σ τ a1 a2 v σ' τ1 ∧ τ' = sl2 τ1 28 0 v.toInt64) ∨ (Z_PT_share σ τ a1 a2 nIA σ' τ' ∧ r = 1) ∨ (Z_PT_share σ τ a1 a2 nAR σ' τ' ∧ r = 2)
theorem z_Law_share {σ : MI} {τ : ML} {a1 : Int32} {a2 : Int32} {nm : String} {σ' : MI} {τ' : ML} (h : Z_PT_share σ τ a1 a2 nm σ' τ') : nm = nIA ∨ nm = nAR := by
  obtain ⟨-, -, h⟩ := h
  rcases h with ⟨-, rfl⟩ | ⟨-, -, rfl⟩
  · exact Or.inl rfl
  · exact Or.inr rfl
set_option maxHeartbeats 4000000 in
set_option maxRecDepth 100000 in
theorem c_Law_share (l : Launch) (hlt : l.flags = flags0) (D : va_G) (ad : Nat → Nat) (ci cl : ClassId) : ∀ (sz : Nat) (σ0 : MI) (τ0 : ML) (a1 : Int32) (a2 : Int32), P_PT_share σ0 τ0 a1 a2 → gMw l D (xw ad ci cl) (xt ci cl) (xa ad) y_Law_share w_Law_share rm_Law_share [.ref (ad 0), .int a1, .int a2, .ref (ad 28)] sz σ0 τ0 (Q_Law_share σ0 τ0 a1 a2) := by
  intro sz σ0 τ0 a1 a2 hpre
  refine gw_ofW (cc := b_Law_share) (maxL := 5) (ret := (some .int)) (by decide) rfl xa_ok (Nat.le_of_ble_eq_true rfl) ?_
  intro p e s m below meth c ls hx hb hr hlocks hml hown hts hK hP hD hS hl htab hXT hst
  have hl : lv_has ls 5 [(0, .ref (ad 0)), (1, .int a1), (2, .int a2), (3, .ref (ad 28))] := hl
  have hown : s.vm.findClass R_Law = some m.cls := hown
  have htB : ∀ w ∈ TB, w.before [.ref (ad 0), .int a1, .int a2, .ref (ad 28)].toArray s = true := fun w h => hts w (List.mem_append_right _ h)
  have htW : ∀ w ∈ TW, w.before [.ref (ad 0), .int a1, .int a2, .ref (ad 28)].toArray s = true := fun w h => hts w (List.mem_append_left _ h)
  refine lv_aload_n hx hb d_Law_share_0 rfl (lv_at hl 3 rfl) ?_
  refine lv_iconst (v := 0) hx hb d_Law_share_1 (by decide) ?_
  refine lv_aload_n hx hb d_Law_share_2 rfl (lv_at hl 0 rfl) ?_
  refine lv_iload_n hx hb d_Law_share_3 rfl (lv_at hl 1 rfl) ?_
  refine lv_iload_n hx hb d_Law_share_4 rfl (lv_at hl 2 rfl) ?_
  refine gx_callV (As := [.int a1, .int a2]) (rest := [.int 0, .ref (ad 28)]) (b := ad 0) ⟨hx, hb, hml, hown, htB⟩ (c_PT_share l hlt D ad ci cl _ σ0 τ0 a1 a2 hpre) ⟨callB_of 2 hts (gw_good tw_31 rfl) rfl rfl rfl (htB _ t_w5) (htW _ tw_28) (by decide +kernel) ⟨Nat.le_of_ble_eq_true rfl, Nat.le_of_ble_eq_true rfl⟩, htW _ tw_29, htW _ tw_30⟩ hK hP hD hS hXT hst (va_recv hK hP (ci := 6) (q0 := 0) rfl rfl) rfl hl.1 rfl (lv_room (Nat.le_of_ble_eq_true rfl)) d_Law_share_5 ⟨by decide, by decide⟩ (fun r σ1 τ1 H locs hq hP hD hS => ?_) (fun a nm σ1 τ1 H locs hz hce hP hD hS => ?_)
  · refine lv_i2l hx hb d_Law_share_8 rfl ?_
    refine va_last hx hb hK hP hD hS 28 1 rfl rfl (z_in.mpr (by decide)) d_Law_share_9 (fun H locs hP hD hS => ?_)
    rw [xa_28] at hP hD
    refine lv_goto (tgt := 21) hx hb d_Law_share_10 (by decide) ?_
    refine lv_iconst (v := 0) hx hb d_Law_share_21 (by decide) ?_
    exact gw_iret hx hb hr hlocks hK hP hD hS (Or.inl ⟨rfl, r, τ1, hq, rfl⟩) d_Law_share_22
  · rcases z_Law_share hz with rfl | rfl
    · refine gx_catch (own := R_Law) (nm := xIA) (hpc := 13) hown htab ⟨by decide, by decide, xIA, XT.here hXT (tx_nc 21 rfl), Or.inl ⟨XT.here hXT tx_cIA, rfl⟩⟩ hce ?_
      refine lv_astore (lv' := [(4, .ref a), (0, .ref (ad 0)), (1, .int a1), (2, .int a2), (3, .ref (ad 28))]) hx hb d_Law_share_13 hl (by decide) rfl (fun ls hl => ?_)
      refine lv_iconst (v := 1) hx hb d_Law_share_15 (by decide) ?_
      exact gw_iret hx hb hr hlocks hK hP hD hS (Or.inr (Or.inl ⟨hz, rfl⟩)) d_Law_share_16
    · refine gx_catch (own := R_Law) (nm := xAR) (hpc := 17) hown htab ⟨by decide, by decide, xIA, XT.here hXT (tx_nc 21 rfl), Or.inr ⟨XT.here hXT (tx_nc 27 rfl), ⟨by decide, by decide, xAR, XT.here hXT (tx_nc 24 rfl), Or.inl ⟨XT.here hXT tx_cAR, rfl⟩⟩⟩⟩ hce ?_
      refine lv_astore (lv' := [(4, .ref a), (0, .ref (ad 0)), (1, .int a1), (2, .int a2), (3, .ref (ad 28))]) hx hb d_Law_share_17 hl (by decide) rfl (fun ls hl => ?_)
      refine lv_iconst (v := 2) hx hb d_Law_share_19 (by decide) ?_
      exact gw_iret hx hb hr hlocks hK hP hD hS (Or.inr (Or.inr (⟨hz, rfl⟩))) d_Law_share_20
